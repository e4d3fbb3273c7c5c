/-! Models of methods and their proofs, piece 2. Printed by wip/p46/pr10.py. -/
def m_7_j146 (th : Nat) (Rf : ai_R) (G : ai_G) (I_146 : ai_I) : Option (ai_I) :=
  o_g (o_in G 13 (Rf th 6) (I_146 th 0)) (o_b1 (some (va_up I_146 (Rf th 6) (va_up (I_146 (Rf th 6)) (I_146 th 0).toNatClampNeg (I_146 th 8)))) (fun I_158 => o_b1 (m_6 th I_158 Rf G) (fun r_160 => if r_160 = (-1 : Int32) then (some I_158) else (o_b1 (m_6 th I_158 Rf G) (fun r_168 => if r_168 = (nI 59) then (some I_158) else (o_b1 (m_5 th (nI 1) (I_158 th 4) I_158) (fun I_182 => some I_182)))))))
/-- PricedBases$Clauses.readClause(I)V -/
def m_7 (th : Nat) (a0 : Int32) (I : ai_I) (Rf : ai_R) (G : ai_G) : Option (ai_I) :=
  o_g (o_in G 13 (Rf th 6) a0) (o_b1 (some (va_up I (Rf th 6) (va_up (I (Rf th 6)) a0.toNatClampNeg (I th 8)))) (fun I_9 => o_b2 (m_8 th I_9 Rf G) (fun r_16 I_16 => o_g (o_in G 13 (Rf th 5) a0) (o_b1 (some (va_up I_16 (Rf th 5) (va_up (I_16 (Rf th 5)) a0.toNatClampNeg r_16))) (fun I_19 => o_g (o_in G 13 (Rf th 5) a0) (if (I_19 (Rf th 5) a0.toNatClampNeg) = (-1 : Int32) then (some I_19) else (o_g (o_in G 13 (Rf th 5) a0) (o_b1 (m_11 th (I_19 (Rf th 5) a0.toNatClampNeg) I_19 Rf G) (fun I_38 => o_b1 (some (va_up I_38 th (va_up (I_38 th) 0 (a0 + (nI 1))))) (fun I_45 => o_g (o_in G 13 (Rf th 6) (I_45 th 0)) (o_b1 (some (va_up I_45 (Rf th 6) (va_up (I_45 (Rf th 6)) (I_45 th 0).toNatClampNeg (I_45 th 8)))) (fun I_60 => o_g (o_in G 13 (Rf th 5) a0) (if (I_60 (Rf th 5) a0.toNatClampNeg) = (nI 2) then (o_b1 (m_4 th a0 (nI 1) I_60 Rf G) (fun r_75 => o_b1 (m_4 th a0 (nI 2) I_60 Rf G) (fun r_81 => o_b1 (m_12 th (r_75 * r_81) I_60 Rf G) (fun I_85 => m_7_j146 th Rf G I_85)))) else (o_g (o_in G 13 (Rf th 5) a0) (if (I_60 (Rf th 5) a0.toNatClampNeg) = (nI 3) then (o_b1 (m_4 th a0 (nI 1) I_60 Rf G) (fun r_105 => o_b1 (m_4 th a0 (nI 2) I_60 Rf G) (fun r_111 => o_b1 (m_13 th r_105 r_111 I_60 Rf G) (fun I_114 => m_7_j146 th Rf G I_114)))) else (o_g (o_in G 13 (Rf th 5) a0) (if (I_60 (Rf th 5) a0.toNatClampNeg) = (nI 4) then (o_b1 (m_4 th a0 (nI 1) I_60 Rf G) (fun r_134 => o_b1 (m_4 th a0 (nI 2) I_60 Rf G) (fun r_140 => o_b1 (m_14 th r_134 r_140 I_60 Rf G) (fun I_143 => m_7_j146 th Rf G I_143)))) else (m_7_j146 th Rf G I_60))))))))))))))))))
set_option maxRecDepth 100000 in
theorem md_7 {d : Nat} {I : ai_I} {J : ai_J} {Rf : ai_R} {G : ai_G} {th : Nat} {a0 : Int32} {I1 : ai_I} (hd : 8 ≤ d) (hth : G.1 th = 0) (h : m_7 th a0 I Rf G = some I1) : ai_Cl si_t si_ms d 7 [.inr (.inr th), .inl a0] I J Rf G none I1 J Rf G := by
  obtain ⟨e, rfl⟩ : ∃ e, d = e + 1 := ⟨d - 1, by omega⟩
  unfold m_7 at h
  refine sp_in (lo := [some (.inr (.inr th)), some (.inl a0)]) (B := (0, 0)) rfl (Nat.le_of_ble_eq_true rfl) rfl rfl ?_
  refine go_aload_n (pc' := 1) rfl rfl rfl ?_
  refine go_getR (pc' := 4) rfl rfl hth rfl ?_
  refine go_iload_n (pc' := 5) rfl rfl rfl ?_
  refine go_aload_n (pc' := 6) rfl rfl rfl ?_
  refine go_getI (pc' := 9) rfl rfl (by decide) (by decide) hth rfl ?_
  obtain ⟨g0, h⟩ := o_gE h
  obtain ⟨I_9, eI_9, h⟩ := o_b1E h
  refine go_iastore (pc' := 10) rfl (o_inK g0) (o_inB g0) rfl ?_
  refine go_ndMI eI_9 ?_
  refine go_aload_n (pc' := 11) rfl rfl rfl ?_
  refine go_getR (pc' := 14) rfl rfl hth rfl ?_
  refine go_iload_n (pc' := 15) rfl rfl rfl ?_
  refine go_aload_n (pc' := 16) rfl rfl rfl ?_
  obtain ⟨r_16, I_16, q_16, h⟩ := o_b2E h
  refine go_callV (pc' := 19) (B' := (0, 0)) (st' := [.inl r_16, .inl a0, .inr (.inr (Rf th 5))]) rfl rfl (Or.inl (by decide)) rfl rfl hth (md_8 (by omega) hth q_16) rfl rfl rfl ?_
  obtain ⟨g1, h⟩ := o_gE h
  obtain ⟨I_19, eI_19, h⟩ := o_b1E h
  refine go_iastore (pc' := 20) rfl (o_inK g1) (o_inB g1) rfl ?_
  refine go_ndMI eI_19 ?_
  refine go_aload_n (pc' := 21) rfl rfl rfl ?_
  refine go_getR (pc' := 24) rfl rfl hth rfl ?_
  refine go_iload_n (pc' := 25) rfl rfl rfl ?_
  obtain ⟨g2, h⟩ := o_gE h
  refine go_iaload (pc' := 26) rfl (o_inK g2) (o_inB g2) rfl ?_
  refine go_iconst (pc' := 27) (v := (-1 : Int32)) rfl rfl rfl ?_
  refine go_icmp_ne (pt := 31) (pc' := 30) rfl rfl rfl (fun h27 => ?_) (fun h27 => ?_)
  · replace h := o_f h27 h
    refine go_aload_n (pc' := 32) rfl rfl rfl ?_
    refine go_aload_n (pc' := 33) rfl rfl rfl ?_
    refine go_getR (pc' := 36) rfl rfl hth rfl ?_
    refine go_iload_n (pc' := 37) rfl rfl rfl ?_
    obtain ⟨g3, h⟩ := o_gE h
    refine go_iaload (pc' := 38) rfl (o_inK g3) (o_inB g3) rfl ?_
    obtain ⟨I_38, q_38, h⟩ := o_b1E h
    refine go_callV (pc' := 41) (B' := (0, 0)) (st' := []) rfl rfl (Or.inl (by decide)) rfl rfl hth (md_11 (by omega) hth q_38) rfl rfl rfl ?_
    refine go_aload_n (pc' := 42) rfl rfl rfl ?_
    refine go_iload_n (pc' := 43) rfl rfl rfl ?_
    refine go_iconst (pc' := 44) (v := (nI 1)) rfl rfl rfl ?_
    refine go_iadd (pc' := 45) rfl rfl ?_
    obtain ⟨I_45, eI_45, h⟩ := o_b1E h
    refine go_putI (pc' := 48) rfl rfl (fun h => by cases h) hth rfl ?_
    refine go_ndMI eI_45 ?_
    refine go_aload_n (pc' := 49) rfl rfl rfl ?_
    refine go_getR (pc' := 52) rfl rfl hth rfl ?_
    refine go_aload_n (pc' := 53) rfl rfl rfl ?_
    refine go_getI (pc' := 56) rfl rfl (by decide) (by decide) hth rfl ?_
    refine go_aload_n (pc' := 57) rfl rfl rfl ?_
    refine go_getI (pc' := 60) rfl rfl (by decide) (by decide) hth rfl ?_
    obtain ⟨g4, h⟩ := o_gE h
    obtain ⟨I_60, eI_60, h⟩ := o_b1E h
    refine go_iastore (pc' := 61) rfl (o_inK g4) (o_inB g4) rfl ?_
    refine go_ndMI eI_60 ?_
    refine go_aload_n (pc' := 62) rfl rfl rfl ?_
    refine go_getR (pc' := 65) rfl rfl hth rfl ?_
    refine go_iload_n (pc' := 66) rfl rfl rfl ?_
    obtain ⟨g5, h⟩ := o_gE h
    refine go_iaload (pc' := 67) rfl (o_inK g5) (o_inB g5) rfl ?_
    refine go_iconst (pc' := 68) (v := (nI 2)) rfl rfl rfl ?_
    have jn146 : ∀ (I_146 : ai_I), m_7_j146 th Rf G I_146 = some I1 → ai_Go si_t (0, false, 9, cd_7) (ai_Cl si_t si_ms e) (sp_Q none I1 J Rf G) 146 [some (.inr (.inr th)), some (.inl a0)] [] (0, 0) I_146 J Rf G := by
      intro I_146 h
      unfold m_7_j146 at h
      refine go_aload_n (pc' := 147) rfl rfl rfl ?_
      refine go_getR (pc' := 150) rfl rfl hth rfl ?_
      refine go_aload_n (pc' := 151) rfl rfl rfl ?_
      refine go_getI (pc' := 154) rfl rfl (by decide) (by decide) hth rfl ?_
      refine go_aload_n (pc' := 155) rfl rfl rfl ?_
      refine go_getI (pc' := 158) rfl rfl (by decide) (by decide) hth rfl ?_
      obtain ⟨g6, h⟩ := o_gE h
      obtain ⟨I_158, eI_158, h⟩ := o_b1E h
      refine go_iastore (pc' := 159) rfl (o_inK g6) (o_inB g6) rfl ?_
      refine go_ndMI eI_158 ?_
      refine go_aload_n (pc' := 160) rfl rfl rfl ?_
      obtain ⟨r_160, q_160, h⟩ := o_b1E h
      refine go_callV (pc' := 163) (B' := (0, 0)) (st' := [.inl r_160]) rfl rfl (Or.inl (by decide)) rfl rfl hth (md_6 (by omega) hth q_160) rfl rfl rfl ?_
      refine go_iconst (pc' := 164) (v := (-1 : Int32)) rfl rfl rfl ?_
      refine go_icmp_eq (pt := 185) (pc' := 167) rfl rfl rfl (fun h164 => ?_) (fun h164 => ?_)
      · replace h := o_t h164 h
        cases h
        exact go_vret rfl (rfl) ⟨rfl, rfl, rfl, rfl, rfl⟩
      · replace h := o_f h164 h
        refine go_aload_n (pc' := 168) rfl rfl rfl ?_
        obtain ⟨r_168, q_168, h⟩ := o_b1E h
        refine go_callV (pc' := 171) (B' := (0, 0)) (st' := [.inl r_168]) rfl rfl (Or.inl (by decide)) rfl rfl hth (md_6 (by omega) hth q_168) rfl rfl rfl ?_
        refine go_bipush (pc' := 173) (v := (nI 59)) rfl rfl rfl ?_
        refine go_icmp_eq (pt := 185) (pc' := 176) rfl rfl rfl (fun h173 => ?_) (fun h173 => ?_)
        · replace h := o_t h173 h
          cases h
          exact go_vret rfl (rfl) ⟨rfl, rfl, rfl, rfl, rfl⟩
        · replace h := o_f h173 h
          refine go_aload_n (pc' := 177) rfl rfl rfl ?_
          refine go_iconst (pc' := 178) (v := (nI 1)) rfl rfl rfl ?_
          refine go_aload_n (pc' := 179) rfl rfl rfl ?_
          refine go_getI (pc' := 182) rfl rfl (by decide) (by decide) hth rfl ?_
          obtain ⟨I_182, q_182, h⟩ := o_b1E h
          refine go_callV (pc' := 185) (B' := (0, 0)) (st' := []) rfl rfl (Or.inl (by decide)) rfl rfl hth (md_5 (by omega) hth q_182) rfl rfl rfl ?_
          cases h
          exact go_vret rfl (rfl) ⟨rfl, rfl, rfl, rfl, rfl⟩
    refine go_icmp_ne (pt := 91) (pc' := 71) rfl rfl rfl (fun h68 => ?_) (fun h68 => ?_)
    · replace h := o_f h68 h
      refine go_aload_n (pc' := 92) rfl rfl rfl ?_
      refine go_getR (pc' := 95) rfl rfl hth rfl ?_
      refine go_iload_n (pc' := 96) rfl rfl rfl ?_
      obtain ⟨g7, h⟩ := o_gE h
      refine go_iaload (pc' := 97) rfl (o_inK g7) (o_inB g7) rfl ?_
      refine go_iconst (pc' := 98) (v := (nI 3)) rfl rfl rfl ?_
      refine go_icmp_ne (pt := 120) (pc' := 101) rfl rfl rfl (fun h98 => ?_) (fun h98 => ?_)
      · replace h := o_f h98 h
        refine go_aload_n (pc' := 121) rfl rfl rfl ?_
        refine go_getR (pc' := 124) rfl rfl hth rfl ?_
        refine go_iload_n (pc' := 125) rfl rfl rfl ?_
        obtain ⟨g8, h⟩ := o_gE h
        refine go_iaload (pc' := 126) rfl (o_inK g8) (o_inB g8) rfl ?_
        refine go_iconst (pc' := 127) (v := (nI 4)) rfl rfl rfl ?_
        refine go_icmp_ne (pt := 146) (pc' := 130) rfl rfl rfl (fun h127 => ?_) (fun h127 => ?_)
        · replace h := o_f h127 h
          exact jn146 I_60 h
        · replace h := o_t (Decidable.of_not_not h127) h
          refine go_aload_n (pc' := 131) rfl rfl rfl ?_
          refine go_aload_n (pc' := 132) rfl rfl rfl ?_
          refine go_iload_n (pc' := 133) rfl rfl rfl ?_
          refine go_iconst (pc' := 134) (v := (nI 1)) rfl rfl rfl ?_
          obtain ⟨r_134, q_134, h⟩ := o_b1E h
          refine go_callV (pc' := 137) (B' := (0, 0)) (st' := [.inl r_134, .inr (.inr th)]) rfl rfl (Or.inl (by decide)) rfl rfl hth (md_4 (by omega) hth q_134) rfl rfl rfl ?_
          refine go_aload_n (pc' := 138) rfl rfl rfl ?_
          refine go_iload_n (pc' := 139) rfl rfl rfl ?_
          refine go_iconst (pc' := 140) (v := (nI 2)) rfl rfl rfl ?_
          obtain ⟨r_140, q_140, h⟩ := o_b1E h
          refine go_callV (pc' := 143) (B' := (0, 0)) (st' := [.inl r_140, .inl r_134, .inr (.inr th)]) rfl rfl (Or.inl (by decide)) rfl rfl hth (md_4 (by omega) hth q_140) rfl rfl rfl ?_
          obtain ⟨I_143, q_143, h⟩ := o_b1E h
          refine go_callV (pc' := 146) (B' := (0, 0)) (st' := []) rfl rfl (Or.inl (by decide)) rfl rfl hth (md_14 (by omega) hth q_143) rfl rfl rfl ?_
          exact jn146 I_143 h
      · replace h := o_t (Decidable.of_not_not h98) h
        refine go_aload_n (pc' := 102) rfl rfl rfl ?_
        refine go_aload_n (pc' := 103) rfl rfl rfl ?_
        refine go_iload_n (pc' := 104) rfl rfl rfl ?_
        refine go_iconst (pc' := 105) (v := (nI 1)) rfl rfl rfl ?_
        obtain ⟨r_105, q_105, h⟩ := o_b1E h
        refine go_callV (pc' := 108) (B' := (0, 0)) (st' := [.inl r_105, .inr (.inr th)]) rfl rfl (Or.inl (by decide)) rfl rfl hth (md_4 (by omega) hth q_105) rfl rfl rfl ?_
        refine go_aload_n (pc' := 109) rfl rfl rfl ?_
        refine go_iload_n (pc' := 110) rfl rfl rfl ?_
        refine go_iconst (pc' := 111) (v := (nI 2)) rfl rfl rfl ?_
        obtain ⟨r_111, q_111, h⟩ := o_b1E h
        refine go_callV (pc' := 114) (B' := (0, 0)) (st' := [.inl r_111, .inl r_105, .inr (.inr th)]) rfl rfl (Or.inl (by decide)) rfl rfl hth (md_4 (by omega) hth q_111) rfl rfl rfl ?_
        obtain ⟨I_114, q_114, h⟩ := o_b1E h
        refine go_callV (pc' := 117) (B' := (0, 0)) (st' := []) rfl rfl (Or.inl (by decide)) rfl rfl hth (md_13 (by omega) hth q_114) rfl rfl rfl ?_
        refine go_goto (pc' := 146) rfl rfl ?_
        exact jn146 I_114 h
    · replace h := o_t (Decidable.of_not_not h68) h
      refine go_aload_n (pc' := 72) rfl rfl rfl ?_
      refine go_aload_n (pc' := 73) rfl rfl rfl ?_
      refine go_iload_n (pc' := 74) rfl rfl rfl ?_
      refine go_iconst (pc' := 75) (v := (nI 1)) rfl rfl rfl ?_
      obtain ⟨r_75, q_75, h⟩ := o_b1E h
      refine go_callV (pc' := 78) (B' := (0, 0)) (st' := [.inl r_75, .inr (.inr th)]) rfl rfl (Or.inl (by decide)) rfl rfl hth (md_4 (by omega) hth q_75) rfl rfl rfl ?_
      refine go_aload_n (pc' := 79) rfl rfl rfl ?_
      refine go_iload_n (pc' := 80) rfl rfl rfl ?_
      refine go_iconst (pc' := 81) (v := (nI 2)) rfl rfl rfl ?_
      obtain ⟨r_81, q_81, h⟩ := o_b1E h
      refine go_callV (pc' := 84) (B' := (0, 0)) (st' := [.inl r_81, .inl r_75, .inr (.inr th)]) rfl rfl (Or.inl (by decide)) rfl rfl hth (md_4 (by omega) hth q_81) rfl rfl rfl ?_
      refine go_imul (pc' := 85) rfl rfl ?_
      obtain ⟨I_85, q_85, h⟩ := o_b1E h
      refine go_callV (pc' := 88) (B' := (0, 0)) (st' := []) rfl rfl (Or.inl (by decide)) rfl rfl hth (md_12 (by omega) hth q_85) rfl rfl rfl ?_
      refine go_goto (pc' := 146) rfl rfl ?_
      exact jn146 I_85 h
  · replace h := o_t (Decidable.of_not_not h27) h
    cases h
    exact go_vret rfl (rfl) ⟨rfl, rfl, rfl, rfl, rfl⟩
def m_1_x37_63 (R_2 : ai_R) (Ix_63 : ai_I) : Option (ai_I × ai_R) :=
  some (Ix_63, R_2)
def m_1_x37_80 (th : Nat) (R_2 : ai_R) (Ix_80 : ai_I) : Option (ai_I × ai_R) :=
  o_b1 (m_5 th (nI 4) (Ix_80 th 4) Ix_80) (fun I_86 => some (I_86, R_2))
def m_1_b37 (th : Nat) (G : ai_G) (R_2 : ai_R) (v3_37 : Int32) (I_37 : ai_I) : Option ((Int32 × ai_I) ⊕ (ai_I ⊕ ai_I)) :=
  if (nI 16) ≤ v3_37 then (some (Sum.inr (Sum.inr I_37))) else (if (I_37 th 1) = 0 then (o_b1 (m_7 th v3_37 I_37 R_2 G) (fun I_52 => o_b1 (m_6 th I_52 R_2 G) (fun r_56 => if r_56 = (-1 : Int32) then (some (Sum.inr (Sum.inl I_52))) else (o_b1 (some (va_up I_52 th (va_up (I_52 th) 4 ((I_52 th 4) + (nI 1))))) (fun I_71 => o_b1 (some (v3_37 + (nI 1))) (fun x3_74 => some (Sum.inl (x3_74, I_71)))))))) else (some (Sum.inr (Sum.inr I_37))))
/-- PricedBases$Clauses.read([II)V -/
def m_1 (th : Nat) (a0 : Nat) (a1 : Int32) (I : ai_I) (Rf : ai_R) (G : ai_G) : Option (ai_I × ai_R) :=
  o_b1 (some (va_up Rf th (va_up (Rf th) 2 a0))) (fun R_2 => o_g (o_al G a0) (o_b1 (some (if (Int32.ofNat (G.2.1 a0)) < a1 then (Int32.ofNat (G.2.1 a0)) else a1)) (fun r_9 => o_b1 (some (va_up I th (va_up (I th) 3 r_9))) (fun I_12 => o_b1 (some (va_up I_12 th (va_up (I_12 th) 4 (nI 0)))) (fun I_17 => o_b1 (some (va_up I_17 th (va_up (I_17 th) 0 (nI 0)))) (fun I_22 => o_b1 (some (va_up I_22 th (va_up (I_22 th) 8 (nI 0)))) (fun I_27 => o_b1 (some (va_up I_27 th (va_up (I_27 th) 1 (nI 0)))) (fun I_32 => o_s2 (lp (fun s => m_1_b37 th G R_2 s.1 s.2) o_N ((nI 0), I_32)) (fun t => m_1_x37_63 R_2 t) (fun t => m_1_x37_80 th R_2 t)))))))))
theorem md_1 {d : Nat} {I : ai_I} {J : ai_J} {Rf : ai_R} {G : ai_G} {th : Nat} {a0 : Nat} {a1 : Int32} {I1 : ai_I} {R1 : ai_R} (hd : 9 ≤ d) (hth : G.1 th = 0) (h : m_1 th a0 a1 I Rf G = some (I1, R1)) : ai_Cl si_t si_ms d 1 [.inr (.inr th), .inr (.inr a0), .inl a1] I J Rf G none I1 J R1 G := by
  obtain ⟨e, rfl⟩ : ∃ e, d = e + 1 := ⟨d - 1, by omega⟩
  unfold m_1 at h
  refine sp_in (lo := [some (.inr (.inr th)), some (.inr (.inr a0)), some (.inl a1), none]) (B := (0, 0)) rfl (Nat.le_of_ble_eq_true rfl) rfl rfl ?_
  refine go_aload_n (pc' := 1) rfl rfl rfl ?_
  refine go_aload_n (pc' := 2) rfl rfl rfl ?_
  obtain ⟨R_2, eR_2, h⟩ := o_b1E h
  refine go_putR (pc' := 5) rfl rfl (fun h => by cases h) hth rfl ?_
  refine go_ndMR eR_2 ?_
  refine go_aload_n (pc' := 6) rfl rfl rfl ?_
  refine go_iload_n (pc' := 7) rfl rfl rfl ?_
  refine go_aload_n (pc' := 8) rfl rfl rfl ?_
  obtain ⟨g0, h⟩ := o_gE h
  refine go_alen (pc' := 9) (n := G.2.1 a0) rfl (o_alE g0) rfl rfl ?_
  refine go_min (pc' := 12) rfl rfl (Nat.le_of_ble_eq_true rfl) rfl ?_
  obtain ⟨r_9, er_9, h⟩ := o_b1E h
  refine go_ndI er_9 ?_
  obtain ⟨I_12, eI_12, h⟩ := o_b1E h
  refine go_putI (pc' := 15) rfl rfl (fun h => by cases h) hth rfl ?_
  refine go_ndMI eI_12 ?_
  refine go_aload_n (pc' := 16) rfl rfl rfl ?_
  refine go_iconst (pc' := 17) (v := (nI 0)) rfl rfl rfl ?_
  obtain ⟨I_17, eI_17, h⟩ := o_b1E h
  refine go_putI (pc' := 20) rfl rfl (fun h => by cases h) hth rfl ?_
  refine go_ndMI eI_17 ?_
  refine go_aload_n (pc' := 21) rfl rfl rfl ?_
  refine go_iconst (pc' := 22) (v := (nI 0)) rfl rfl rfl ?_
  obtain ⟨I_22, eI_22, h⟩ := o_b1E h
  refine go_putI (pc' := 25) rfl rfl (fun h => by cases h) hth rfl ?_
  refine go_ndMI eI_22 ?_
  refine go_aload_n (pc' := 26) rfl rfl rfl ?_
  refine go_iconst (pc' := 27) (v := (nI 0)) rfl rfl rfl ?_
  obtain ⟨I_27, eI_27, h⟩ := o_b1E h
  refine go_putI (pc' := 30) rfl rfl (fun h => by cases h) hth rfl ?_
  refine go_ndMI eI_27 ?_
  refine go_aload_n (pc' := 31) rfl rfl rfl ?_
  refine go_iconst (pc' := 32) (v := (nI 0)) rfl rfl rfl ?_
  obtain ⟨I_32, eI_32, h⟩ := o_b1E h
  refine go_putI (pc' := 35) rfl rfl (fun h => by cases h) hth rfl ?_
  refine go_ndMI eI_32 ?_
  refine go_iconst (pc' := 36) (v := (nI 0)) rfl rfl rfl ?_
  refine go_istore_n (pc' := 37) (lo' := [some (.inr (.inr th)), some (.inr (.inr a0)), some (.inl a1), some (.inl (nI 0))]) rfl rfl rfl ?_
  obtain ⟨q37, hl37, hc37_63, hc37_80⟩ := o_s2E h
  have ex37_63 : ∀ (Ix_63 : ai_I) (z3_x63 : Option ai_V), (Sum.inl Ix_63) = q37 → ai_Go si_t (0, false, 9, cd_1) (ai_Cl si_t si_ms e) (sp_Q none I1 J R1 G) 63 [some (.inr (.inr th)), some (.inr (.inr a0)), some (.inl a1), z3_x63] [] (0, 0) Ix_63 J R_2 G := by
    intro Ix_63 z3_x63 hq
    have h : m_1_x37_63 R_2 Ix_63 = some (I1, R1) := hc37_63 Ix_63 hq.symm
    unfold m_1_x37_63 at h
    cases h
    exact go_vret rfl (rfl) ⟨rfl, rfl, rfl, rfl, rfl⟩
  have ex37_80 : ∀ (Ix_80 : ai_I) (z3_x80 : Option ai_V), (Sum.inr Ix_80) = q37 → ai_Go si_t (0, false, 9, cd_1) (ai_Cl si_t si_ms e) (sp_Q none I1 J R1 G) 80 [some (.inr (.inr th)), some (.inr (.inr a0)), some (.inl a1), z3_x80] [] (0, 0) Ix_80 J R_2 G := by
    intro Ix_80 z3_x80 hq
    have h : m_1_x37_80 th R_2 Ix_80 = some (I1, R1) := hc37_80 Ix_80 hq.symm
    unfold m_1_x37_80 at h
    refine go_aload_n (pc' := 81) rfl rfl rfl ?_
    refine go_iconst (pc' := 82) (v := (nI 4)) rfl rfl rfl ?_
    refine go_aload_n (pc' := 83) rfl rfl rfl ?_
    refine go_getI (pc' := 86) rfl rfl (by decide) (by decide) hth rfl ?_
    obtain ⟨I_86, q_86, h⟩ := o_b1E h
    refine go_callV (pc' := 89) (B' := (0, 0)) (st' := []) rfl rfl (Or.inl (by decide)) rfl rfl hth (md_5 (by omega) hth q_86) rfl rfl rfl ?_
    cases h
    exact go_vret rfl (rfl) ⟨rfl, rfl, rfl, rfl, rfl⟩
  have lo37 : ∀ n s, lp (fun s => m_1_b37 th G R_2 s.1 s.2) n s = some q37 → (fun s => ai_Go si_t (0, false, 9, cd_1) (ai_Cl si_t si_ms e) (sp_Q none I1 J R1 G) 37 [some (.inr (.inr th)), some (.inr (.inr a0)), some (.inl a1), some (.inl s.1)] [] (0, 0) s.2 J R_2 G) s := lp_go (fun s x37 hx hk37 => by
    obtain ⟨v3_37, I_37⟩ := s
    have h : m_1_b37 th G R_2 v3_37 I_37 = some x37 := hx
    clear hx
    show ai_Go si_t (0, false, 9, cd_1) (ai_Cl si_t si_ms e) (sp_Q none I1 J R1 G) 37 [some (.inr (.inr th)), some (.inr (.inr a0)), some (.inl a1), some (.inl v3_37)] [] (0, 0) I_37 J R_2 G
    unfold m_1_b37 at h
    refine go_iload_n (pc' := 38) rfl rfl rfl ?_
    refine go_bipush (pc' := 40) (v := (nI 16)) rfl rfl rfl ?_
    refine go_icmp_ge (pt := 80) (pc' := 43) rfl rfl rfl (fun h40 => ?_) (fun h40 => ?_)
    · replace h := o_t h40 h
      exact ex37_80 _ (some (.inl v3_37)) (lp_exitE h hk37)
    · replace h := o_f h40 h
      refine go_aload_n (pc' := 44) rfl rfl rfl ?_
      refine go_getI (pc' := 47) rfl rfl (by decide) (by decide) hth rfl ?_
      refine go_if_ne (pt := 80) (pc' := 50) rfl rfl rfl (fun h47 => ?_) (fun h47 => ?_)
      · replace h := o_f h47 h
        exact ex37_80 _ (some (.inl v3_37)) (lp_exitE h hk37)
      · replace h := o_t (Decidable.of_not_not h47) h
        refine go_aload_n (pc' := 51) rfl rfl rfl ?_
        refine go_iload_n (pc' := 52) rfl rfl rfl ?_
        obtain ⟨I_52, q_52, h⟩ := o_b1E h
        refine go_callV (pc' := 55) (B' := (0, 0)) (st' := []) rfl rfl (Or.inl (by decide)) rfl rfl hth (md_7 (by omega) hth q_52) rfl rfl rfl ?_
        refine go_aload_n (pc' := 56) rfl rfl rfl ?_
        obtain ⟨r_56, q_56, h⟩ := o_b1E h
        refine go_callV (pc' := 59) (B' := (0, 0)) (st' := [.inl r_56]) rfl rfl (Or.inl (by decide)) rfl rfl hth (md_6 (by omega) hth q_56) rfl rfl rfl ?_
        refine go_iconst (pc' := 60) (v := (-1 : Int32)) rfl rfl rfl ?_
        refine go_icmp_ne (pt := 64) (pc' := 63) rfl rfl rfl (fun h60 => ?_) (fun h60 => ?_)
        · replace h := o_f h60 h
          refine go_aload_n (pc' := 65) rfl rfl rfl ?_
          refine go_dupR (pc' := 66) rfl rfl ?_
          refine go_getI (pc' := 69) rfl rfl (by decide) (by decide) hth rfl ?_
          refine go_iconst (pc' := 70) (v := (nI 1)) rfl rfl rfl ?_
          refine go_iadd (pc' := 71) rfl rfl ?_
          obtain ⟨I_71, eI_71, h⟩ := o_b1E h
          refine go_putI (pc' := 74) rfl rfl (fun h => by cases h) hth rfl ?_
          refine go_ndMI eI_71 ?_
          obtain ⟨x3_74, ex3_74, h⟩ := o_b1E h
          refine go_iincE (pc' := 77) rfl rfl (y := (nI 1)) rfl ex3_74 (lo' := [some (.inr (.inr th)), some (.inr (.inr a0)), some (.inl a1), some (.inl x3_74)]) rfl rfl ?_
          refine go_goto (pc' := 37) rfl rfl ?_
          exact (lp_backE h hk37 :)
        · replace h := o_t (Decidable.of_not_not h60) h
          exact ex37_63 _ (some (.inl v3_37)) (lp_exitE h hk37))
  exact lo37 _ ((nI 0), I_32) hl37 
/-- PricedBases$Clauses.kind(I)I -/
def m_2 (th : Nat) (a0 : Int32) (I : ai_I) (Rf : ai_R) (G : ai_G) : Option (Int32) :=
  if a0 < 0 then (some (-1 : Int32)) else (if (I th 0) ≤ a0 then (some (-1 : Int32)) else (o_g (o_in G 13 (Rf th 5) a0) (some (I (Rf th 5) a0.toNatClampNeg))))
theorem md_2 {d : Nat} {I : ai_I} {J : ai_J} {Rf : ai_R} {G : ai_G} {th : Nat} {a0 : Int32} {r : Int32} (hd : 1 ≤ d) (hth : G.1 th = 0) (h : m_2 th a0 I Rf G = some r) : ai_Cl si_t si_ms d 2 [.inr (.inr th), .inl a0] I J Rf G (some (.inl r)) I J Rf G := by
  obtain ⟨e, rfl⟩ : ∃ e, d = e + 1 := ⟨d - 1, by omega⟩
  unfold m_2 at h
  refine sp_in (lo := [some (.inr (.inr th)), some (.inl a0)]) (B := (0, 0)) rfl (Nat.le_of_ble_eq_true rfl) rfl rfl ?_
  refine go_iload_n (pc' := 1) rfl rfl rfl ?_
  refine go_if_lt (pt := 21) (pc' := 4) rfl rfl rfl (fun h1 => ?_) (fun h1 => ?_)
  · replace h := o_t h1 h
    refine go_iconst (pc' := 22) (v := (-1 : Int32)) rfl rfl rfl ?_
    cases h
    exact go_iret rfl (trivial) ⟨rfl, rfl, rfl, rfl, rfl⟩
  · replace h := o_f h1 h
    refine go_iload_n (pc' := 5) rfl rfl rfl ?_
    refine go_aload_n (pc' := 6) rfl rfl rfl ?_
    refine go_getI (pc' := 9) rfl rfl (by decide) (by decide) hth rfl ?_
    refine go_icmp_ge (pt := 21) (pc' := 12) rfl rfl rfl (fun h9 => ?_) (fun h9 => ?_)
    · replace h := o_t h9 h
      refine go_iconst (pc' := 22) (v := (-1 : Int32)) rfl rfl rfl ?_
      cases h
      exact go_iret rfl (trivial) ⟨rfl, rfl, rfl, rfl, rfl⟩
    · replace h := o_f h9 h
      refine go_aload_n (pc' := 13) rfl rfl rfl ?_
      refine go_getR (pc' := 16) rfl rfl hth rfl ?_
      refine go_iload_n (pc' := 17) rfl rfl rfl ?_
      obtain ⟨g0, h⟩ := o_gE h
      refine go_iaload (pc' := 18) rfl (o_inK g0) (o_inB g0) rfl ?_
      refine go_goto (pc' := 22) rfl rfl ?_
      cases h
      exact go_iret rfl (trivial) ⟨rfl, rfl, rfl, rfl, rfl⟩
/-- PricedBases$Clauses.howManyNumbers(I)I -/
def m_3 (th : Nat) (a0 : Int32) (I : ai_I) (Rf : ai_R) (G : ai_G) : Option (Int32) :=
  if a0 < 0 then (some (nI 0)) else (if (I th 0) ≤ a0 then (some (nI 0)) else (o_g (o_in G 13 (Rf th 6) (a0 + (nI 1))) (o_g (o_in G 13 (Rf th 6) a0) (some ((I (Rf th 6) (a0 + (nI 1)).toNatClampNeg) - (I (Rf th 6) a0.toNatClampNeg))))))
theorem md_3 {d : Nat} {I : ai_I} {J : ai_J} {Rf : ai_R} {G : ai_G} {th : Nat} {a0 : Int32} {r : Int32} (hd : 1 ≤ d) (hth : G.1 th = 0) (h : m_3 th a0 I Rf G = some r) : ai_Cl si_t si_ms d 3 [.inr (.inr th), .inl a0] I J Rf G (some (.inl r)) I J Rf G := by
  obtain ⟨e, rfl⟩ : ∃ e, d = e + 1 := ⟨d - 1, by omega⟩
  unfold m_3 at h
  refine sp_in (lo := [some (.inr (.inr th)), some (.inl a0)]) (B := (0, 0)) rfl (Nat.le_of_ble_eq_true rfl) rfl rfl ?_
  refine go_iload_n (pc' := 1) rfl rfl rfl ?_
  refine go_if_lt (pt := 30) (pc' := 4) rfl rfl rfl (fun h1 => ?_) (fun h1 => ?_)
  · replace h := o_t h1 h
    refine go_iconst (pc' := 31) (v := (nI 0)) rfl rfl rfl ?_
    cases h
    exact go_iret rfl (trivial) ⟨rfl, rfl, rfl, rfl, rfl⟩
  · replace h := o_f h1 h
    refine go_iload_n (pc' := 5) rfl rfl rfl ?_
    refine go_aload_n (pc' := 6) rfl rfl rfl ?_
    refine go_getI (pc' := 9) rfl rfl (by decide) (by decide) hth rfl ?_
    refine go_icmp_ge (pt := 30) (pc' := 12) rfl rfl rfl (fun h9 => ?_) (fun h9 => ?_)
    · replace h := o_t h9 h
      refine go_iconst (pc' := 31) (v := (nI 0)) rfl rfl rfl ?_
      cases h
      exact go_iret rfl (trivial) ⟨rfl, rfl, rfl, rfl, rfl⟩
    · replace h := o_f h9 h
      refine go_aload_n (pc' := 13) rfl rfl rfl ?_
      refine go_getR (pc' := 16) rfl rfl hth rfl ?_
      refine go_iload_n (pc' := 17) rfl rfl rfl ?_
      refine go_iconst (pc' := 18) (v := (nI 1)) rfl rfl rfl ?_
      refine go_iadd (pc' := 19) rfl rfl ?_
      obtain ⟨g0, h⟩ := o_gE h
      refine go_iaload (pc' := 20) rfl (o_inK g0) (o_inB g0) rfl ?_
      refine go_aload_n (pc' := 21) rfl rfl rfl ?_
      refine go_getR (pc' := 24) rfl rfl hth rfl ?_
      refine go_iload_n (pc' := 25) rfl rfl rfl ?_
      obtain ⟨g1, h⟩ := o_gE h
      refine go_iaload (pc' := 26) rfl (o_inK g1) (o_inB g1) rfl ?_
      refine go_isub (pc' := 27) rfl rfl ?_
      refine go_goto (pc' := 31) rfl rfl ?_
      cases h
      exact go_iret rfl (trivial) ⟨rfl, rfl, rfl, rfl, rfl⟩
/-- PricedBases$Couple.<init>()V -/
def m_19 (th : Nat) (I : ai_I) (Rf : ai_R) (G : ai_G) : Option (ai_I × ai_R × ai_G) :=
  o_g (o_nn th) (o_g (o_lt9 G) (o_b1 (some (va_up I (G.2.2 + 1) (fun _ => 0))) (fun I_7 => o_b1 (some (va_up G.1 (G.2.2 + 1) 13, va_up G.2.1 (G.2.2 + 1) 8, G.2.2 + 1)) (fun G_7 => o_b1 (some (G.2.2 + 1)) (fun n_7 => o_g (o_kd G_7 th 1) (o_b1 (some (va_up Rf th (va_up (Rf th) 3 n_7))) (fun R_9 => some (I_7, R_9, G_7))))))))
theorem md_19 {d : Nat} {I : ai_I} {J : ai_J} {Rf : ai_R} {G : ai_G} {th : Nat} {I1 : ai_I} {R1 : ai_R} {G1 : ai_G} (hd : 1 ≤ d) (hth : G.1 th = 1) (h : m_19 th I Rf G = some (I1, R1, G1)) : ai_Cl si_t si_ms d 19 [.inr (.inr th)] I J Rf G none I1 J R1 G1 := by
  obtain ⟨e, rfl⟩ : ∃ e, d = e + 1 := ⟨d - 1, by omega⟩
  unfold m_19 at h
  refine sp_in (lo := [some (.inr (.inr th))]) (B := (1, 8)) rfl (Nat.le_of_ble_eq_true rfl) rfl rfl ?_
  refine go_aload_n (pc' := 1) rfl rfl rfl ?_
  obtain ⟨g0, h⟩ := o_gE h
  refine go_obj (pc' := 4) rfl rfl (o_nnE g0) (Nat.le_of_ble_eq_true rfl) rfl ?_
  refine go_aload_n (pc' := 5) rfl rfl rfl ?_
  refine go_bipush (pc' := 7) (v := (nI 8)) rfl rfl rfl ?_
  obtain ⟨g1, h⟩ := o_gE h
  refine go_newI (pc' := 9) (N := 8) rfl (by decide) (by decide) (by decide) (by decide) (by decide) (o_lt9E g1) rfl ?_
  obtain ⟨I_7, eI_7, h⟩ := o_b1E h
  obtain ⟨G_7, eG_7, h⟩ := o_b1E h
  obtain ⟨n_7, en_7, h⟩ := o_b1E h
  refine go_ndMI eI_7 ?_
  refine go_ndMG eG_7 ?_
  refine go_ndR en_7 ?_
  refine go_ndB (B' := (0, 0)) rfl ?_
  obtain ⟨g2, h⟩ := o_gE h
  obtain ⟨R_9, eR_9, h⟩ := o_b1E h
  refine go_putR (pc' := 12) rfl rfl (fun _ => ⟨rfl, rfl⟩) (o_kdE g2) rfl ?_
  refine go_ndMR eR_9 ?_
  cases h
  exact go_vret rfl (rfl) ⟨rfl, rfl, rfl, rfl, rfl⟩
/-- PricedBases$Law.<init>()V -/
def m_20 (th : Nat) (I : ai_I) (Rf : ai_R) (G : ai_G) : Option (ai_I × ai_R × ai_G) :=
  o_g (o_nn th) (o_g (o_lt9 G) (o_b1 (some (va_up I (G.2.2 + 1) (fun _ => 0))) (fun I_8 => o_b1 (some (va_up G.1 (G.2.2 + 1) 13, va_up G.2.1 (G.2.2 + 1) 256, G.2.2 + 1)) (fun G_8 => o_b1 (some (G.2.2 + 1)) (fun n_8 => o_g (o_kd G_8 th 2) (o_b1 (some (va_up Rf th (va_up (Rf th) 3 n_8))) (fun R_10 => some (I_8, R_10, G_8))))))))
theorem md_20 {d : Nat} {I : ai_I} {J : ai_J} {Rf : ai_R} {G : ai_G} {th : Nat} {I1 : ai_I} {R1 : ai_R} {G1 : ai_G} (hd : 1 ≤ d) (hth : G.1 th = 2) (h : m_20 th I Rf G = some (I1, R1, G1)) : ai_Cl si_t si_ms d 20 [.inr (.inr th)] I J Rf G none I1 J R1 G1 := by
  obtain ⟨e, rfl⟩ : ∃ e, d = e + 1 := ⟨d - 1, by omega⟩
  unfold m_20 at h
  refine sp_in (lo := [some (.inr (.inr th))]) (B := (1, 256)) rfl (Nat.le_of_ble_eq_true rfl) rfl rfl ?_
  refine go_aload_n (pc' := 1) rfl rfl rfl ?_
  obtain ⟨g0, h⟩ := o_gE h
  refine go_obj (pc' := 4) rfl rfl (o_nnE g0) (Nat.le_of_ble_eq_true rfl) rfl ?_
  refine go_aload_n (pc' := 5) rfl rfl rfl ?_
  refine go_sipush (pc' := 8) (v := (nI 256)) rfl rfl rfl ?_
  obtain ⟨g1, h⟩ := o_gE h
  refine go_newI (pc' := 10) (N := 256) rfl (by decide) (by decide) (by decide) (by decide) (by decide) (o_lt9E g1) rfl ?_
  obtain ⟨I_8, eI_8, h⟩ := o_b1E h
  obtain ⟨G_8, eG_8, h⟩ := o_b1E h
  obtain ⟨n_8, en_8, h⟩ := o_b1E h
  refine go_ndMI eI_8 ?_
  refine go_ndMG eG_8 ?_
  refine go_ndR en_8 ?_
  refine go_ndB (B' := (0, 0)) rfl ?_
  obtain ⟨g2, h⟩ := o_gE h
  obtain ⟨R_10, eR_10, h⟩ := o_b1E h
  refine go_putR (pc' := 13) rfl rfl (fun _ => ⟨rfl, rfl⟩) (o_kdE g2) rfl ?_
  refine go_ndMR eR_10 ?_
  cases h
  exact go_vret rfl (rfl) ⟨rfl, rfl, rfl, rfl, rfl⟩
/-- PricedBases.isIn(II)Z -/
def m_113 (a0 : Int32) (a1 : Int32) : Option (Int32) :=
  if ((a0 >>> (a1 &&& 31)) &&& (nI 1)) = (nI 1) then (some (nI 1)) else (some (nI 0))
theorem md_113 {d : Nat} {I : ai_I} {J : ai_J} {Rf : ai_R} {G : ai_G} {a0 : Int32} {a1 : Int32} {r : Int32} (hd : 1 ≤ d) (h : m_113 a0 a1 = some r) : ai_Cl si_t si_ms d 113 [.inl a0, .inl a1] I J Rf G (some (.inl r)) I J Rf G := by
  obtain ⟨e, rfl⟩ : ∃ e, d = e + 1 := ⟨d - 1, by omega⟩
  unfold m_113 at h
  refine sp_in (lo := [some (.inl a0), some (.inl a1)]) (B := (0, 0)) rfl (Nat.le_of_ble_eq_true rfl) rfl rfl ?_
  refine go_iload_n (pc' := 1) rfl rfl rfl ?_
  refine go_iload_n (pc' := 2) rfl rfl rfl ?_
  refine go_ishr (pc' := 3) rfl rfl ?_
  refine go_iconst (pc' := 4) (v := (nI 1)) rfl rfl rfl ?_
  refine go_iand (pc' := 5) rfl rfl ?_
  refine go_iconst (pc' := 6) (v := (nI 1)) rfl rfl rfl ?_
  refine go_icmp_ne (pt := 13) (pc' := 9) rfl rfl rfl (fun h6 => ?_) (fun h6 => ?_)
  · replace h := o_f h6 h
    refine go_iconst (pc' := 14) (v := (nI 0)) rfl rfl rfl ?_
    cases h
    exact go_iret rfl (rfl) ⟨rfl, rfl, rfl, rfl, rfl⟩
  · replace h := o_t (Decidable.of_not_not h6) h
    refine go_iconst (pc' := 10) (v := (nI 1)) rfl rfl rfl ?_
    refine go_goto (pc' := 14) rfl rfl ?_
    cases h
    exact go_iret rfl (rfl) ⟨rfl, rfl, rfl, rfl, rfl⟩
def m_23_x19_86 (w6_86 : Int32) : Option (Int32) :=
  some w6_86
def m_23_x19_95 : Option (Int32) :=
  some (-2 : Int32)
def m_23_b19 (a0 : Nat) (a1 : Int32) (a2 : Int32) (a3 : Int32) (I : ai_I) (G : ai_G) (x4_7 : Int32) (x5_14 : Int32) (v6_19 : Int32) : Option (Int32 ⊕ (Int32 ⊕ Unit)) :=
  if (nI 8) ≤ v6_19 then (some (Sum.inr (Sum.inr ()))) else (o_b1 (m_113 x5_14 v6_19) (fun r_30 => if r_30 = 0 then (o_b1 (some (v6_19 + (nI 1))) (fun x6_89 => some (Sum.inl x6_89))) else (o_b1 (some (((nI 1) <<< (a3 &&& 31)) ||| ((nI 1) <<< (v6_19 &&& 31)))) (fun x7_44 => o_g (o_in G 13 a0 (a1 ^^^ x7_44)) (o_b1 (some (I a0 (a1 ^^^ x7_44).toNatClampNeg)) (fun x8_52 => o_g (o_in G 13 a0 (a2 ^^^ x7_44)) (o_b1 (some (I a0 (a2 ^^^ x7_44).toNatClampNeg)) (fun x9_60 => if x8_52 = (-2147483648 : Int32) then (o_b1 (some (v6_19 + (nI 1))) (fun x6_89 => some (Sum.inl x6_89))) else (if x9_60 = (-2147483648 : Int32) then (o_b1 (some (v6_19 + (nI 1))) (fun x6_89 => some (Sum.inl x6_89))) else (if (x8_52 + x9_60) < x4_7 then (o_b1 (some (v6_19 + (nI 1))) (fun x6_89 => some (Sum.inl x6_89))) else (some (Sum.inr (Sum.inl v6_19)))))))))))))
/-- PricedBases$Law.partner([IIII)I -/
def m_23 (a0 : Nat) (a1 : Int32) (a2 : Int32) (a3 : Int32) (I : ai_I) (G : ai_G) : Option (Int32) :=
  o_g (o_in G 13 a0 a1) (o_g (o_in G 13 a0 a2) (o_b1 (some ((I a0 a1.toNatClampNeg) + (I a0 a2.toNatClampNeg))) (fun x4_7 => o_b1 (some (a2 &&& (a1 ^^^ (-1 : Int32)))) (fun x5_14 => o_s2 (lp (fun s => m_23_b19 a0 a1 a2 a3 I G x4_7 x5_14 s) o_N (nI 0)) (fun t => m_23_x19_86 t) (fun t => m_23_x19_95)))))
theorem md_23 {d : Nat} {I : ai_I} {J : ai_J} {Rf : ai_R} {G : ai_G} {a0 : Nat} {a1 : Int32} {a2 : Int32} {a3 : Int32} {r : Int32} (hd : 2 ≤ d) (h : m_23 a0 a1 a2 a3 I G = some r) : ai_Cl si_t si_ms d 23 [.inr (.inr a0), .inl a1, .inl a2, .inl a3] I J Rf G (some (.inl r)) I J Rf G := by
  obtain ⟨e, rfl⟩ : ∃ e, d = e + 1 := ⟨d - 1, by omega⟩
  unfold m_23 at h
  refine sp_in (lo := [some (.inr (.inr a0)), some (.inl a1), some (.inl a2), some (.inl a3), none, none, none, none, none, none]) (B := (0, 0)) rfl (Nat.le_of_ble_eq_true rfl) rfl rfl ?_
  refine go_aload_n (pc' := 1) rfl rfl rfl ?_
  refine go_iload_n (pc' := 2) rfl rfl rfl ?_
  obtain ⟨g0, h⟩ := o_gE h
  refine go_iaload (pc' := 3) rfl (o_inK g0) (o_inB g0) rfl ?_
  refine go_aload_n (pc' := 4) rfl rfl rfl ?_
  refine go_iload_n (pc' := 5) rfl rfl rfl ?_
  obtain ⟨g1, h⟩ := o_gE h
  refine go_iaload (pc' := 6) rfl (o_inK g1) (o_inB g1) rfl ?_
  refine go_iadd (pc' := 7) rfl rfl ?_
  obtain ⟨x4_7, ex4_7, h⟩ := o_b1E h
  refine go_ndI ex4_7 ?_
  refine go_istore (pc' := 9) (lo' := [some (.inr (.inr a0)), some (.inl a1), some (.inl a2), some (.inl a3), some (.inl x4_7), none, none, none, none, none]) rfl rfl rfl ?_
  refine go_iload_n (pc' := 10) rfl rfl rfl ?_
  refine go_iload_n (pc' := 11) rfl rfl rfl ?_
  refine go_iconst (pc' := 12) (v := (-1 : Int32)) rfl rfl rfl ?_
  refine go_ixor (pc' := 13) rfl rfl ?_
  refine go_iand (pc' := 14) rfl rfl ?_
  obtain ⟨x5_14, ex5_14, h⟩ := o_b1E h
  refine go_ndI ex5_14 ?_
  refine go_istore (pc' := 16) (lo' := [some (.inr (.inr a0)), some (.inl a1), some (.inl a2), some (.inl a3), some (.inl x4_7), some (.inl x5_14), none, none, none, none]) rfl rfl rfl ?_
  refine go_iconst (pc' := 17) (v := (nI 0)) rfl rfl rfl ?_
  refine go_istore (pc' := 19) (lo' := [some (.inr (.inr a0)), some (.inl a1), some (.inl a2), some (.inl a3), some (.inl x4_7), some (.inl x5_14), some (.inl (nI 0)), none, none, none]) rfl rfl rfl ?_
  obtain ⟨q19, hl19, hc19_86, hc19_95⟩ := o_s2E h
  have ex19_86 : ∀ (w6_86 : Int32) (z7_x86 : Option ai_V) (z8_x86 : Option ai_V) (z9_x86 : Option ai_V), (Sum.inl w6_86) = q19 → ai_Go si_t (2, false, 0, cd_23) (ai_Cl si_t si_ms e) (sp_Q (some (.inl r)) I J Rf G) 86 [some (.inr (.inr a0)), some (.inl a1), some (.inl a2), some (.inl a3), some (.inl x4_7), some (.inl x5_14), some (.inl w6_86), z7_x86, z8_x86, z9_x86] [] (0, 0) I J Rf G := by
    intro w6_86 z7_x86 z8_x86 z9_x86 hq
    have h : m_23_x19_86 w6_86 = some r := hc19_86 w6_86 hq.symm
    unfold m_23_x19_86 at h
    refine go_iload (pc' := 88) rfl rfl rfl ?_
    cases h
    exact go_iret rfl (trivial) ⟨rfl, rfl, rfl, rfl, rfl⟩
  have ex19_95 : ∀ (z6_x95 : Option ai_V) (z7_x95 : Option ai_V) (z8_x95 : Option ai_V) (z9_x95 : Option ai_V), (Sum.inr ()) = q19 → ai_Go si_t (2, false, 0, cd_23) (ai_Cl si_t si_ms e) (sp_Q (some (.inl r)) I J Rf G) 95 [some (.inr (.inr a0)), some (.inl a1), some (.inl a2), some (.inl a3), some (.inl x4_7), some (.inl x5_14), z6_x95, z7_x95, z8_x95, z9_x95] [] (0, 0) I J Rf G := by
    intro z6_x95 z7_x95 z8_x95 z9_x95 hq
    have h : m_23_x19_95 = some r := hc19_95 () hq.symm
    unfold m_23_x19_95 at h
    refine go_bipush (pc' := 97) (v := (-2 : Int32)) rfl rfl rfl ?_
    cases h
    exact go_iret rfl (trivial) ⟨rfl, rfl, rfl, rfl, rfl⟩
  have lo19 : ∀ n s, lp (fun s => m_23_b19 a0 a1 a2 a3 I G x4_7 x5_14 s) n s = some q19 → (fun s => ∀ (z7_19 : Option ai_V) (z8_19 : Option ai_V) (z9_19 : Option ai_V), ai_Go si_t (2, false, 0, cd_23) (ai_Cl si_t si_ms e) (sp_Q (some (.inl r)) I J Rf G) 19 [some (.inr (.inr a0)), some (.inl a1), some (.inl a2), some (.inl a3), some (.inl x4_7), some (.inl x5_14), some (.inl s), z7_19, z8_19, z9_19] [] (0, 0) I J Rf G) s := lp_go (fun s x19 hx hk19 => by
    revert s; intro v6_19 hx
    intro z7_19 z8_19 z9_19
    have h : m_23_b19 a0 a1 a2 a3 I G x4_7 x5_14 v6_19 = some x19 := hx
    clear hx
    show ai_Go si_t (2, false, 0, cd_23) (ai_Cl si_t si_ms e) (sp_Q (some (.inl r)) I J Rf G) 19 [some (.inr (.inr a0)), some (.inl a1), some (.inl a2), some (.inl a3), some (.inl x4_7), some (.inl x5_14), some (.inl v6_19), z7_19, z8_19, z9_19] [] (0, 0) I J Rf G
    unfold m_23_b19 at h
    refine go_iload (pc' := 21) rfl rfl rfl ?_
    refine go_bipush (pc' := 23) (v := (nI 8)) rfl rfl rfl ?_
    refine go_icmp_ge (pt := 95) (pc' := 26) rfl rfl rfl (fun h23 => ?_) (fun h23 => ?_)
    · replace h := o_t h23 h
      exact ex19_95  (some (.inl v6_19)) z7_19 z8_19 z9_19 (lp_exitE h hk19)
    · replace h := o_f h23 h
      refine go_iload (pc' := 28) rfl rfl rfl ?_
      refine go_iload (pc' := 30) rfl rfl rfl ?_
      obtain ⟨r_30, q_30, h⟩ := o_b1E h
      refine go_callS (pc' := 33) (B' := (0, 0)) (st' := [.inl r_30]) rfl rfl (Or.inl (by decide)) rfl rfl trivial (md_113 (by omega) q_30) rfl rfl rfl ?_
      refine go_if_eq (pt := 89) (pc' := 36) rfl rfl rfl (fun h33 => ?_) (fun h33 => ?_)
      · replace h := o_t h33 h
        obtain ⟨x6_89, ex6_89, h⟩ := o_b1E h
        refine go_iincE (pc' := 92) rfl rfl (y := (nI 1)) rfl ex6_89 (lo' := [some (.inr (.inr a0)), some (.inl a1), some (.inl a2), some (.inl a3), some (.inl x4_7), some (.inl x5_14), some (.inl x6_89), z7_19, z8_19, z9_19]) rfl rfl ?_
        refine go_goto (pc' := 19) rfl rfl ?_
        exact (lp_backE h hk19 z7_19 z8_19 z9_19 :)
      · replace h := o_f h33 h
        refine go_iconst (pc' := 37) (v := (nI 1)) rfl rfl rfl ?_
        refine go_iload_n (pc' := 38) rfl rfl rfl ?_
        refine go_ishl (pc' := 39) rfl rfl ?_
        refine go_iconst (pc' := 40) (v := (nI 1)) rfl rfl rfl ?_
        refine go_iload (pc' := 42) rfl rfl rfl ?_
        refine go_ishl (pc' := 43) rfl rfl ?_
        refine go_ior (pc' := 44) rfl rfl ?_
        obtain ⟨x7_44, ex7_44, h⟩ := o_b1E h
        refine go_ndI ex7_44 ?_
        refine go_istore (pc' := 46) (lo' := [some (.inr (.inr a0)), some (.inl a1), some (.inl a2), some (.inl a3), some (.inl x4_7), some (.inl x5_14), some (.inl v6_19), some (.inl x7_44), z8_19, z9_19]) rfl rfl rfl ?_
        refine go_aload_n (pc' := 47) rfl rfl rfl ?_
        refine go_iload_n (pc' := 48) rfl rfl rfl ?_
        refine go_iload (pc' := 50) rfl rfl rfl ?_
        refine go_ixor (pc' := 51) rfl rfl ?_
        obtain ⟨g2, h⟩ := o_gE h
        refine go_iaload (pc' := 52) rfl (o_inK g2) (o_inB g2) rfl ?_
        obtain ⟨x8_52, ex8_52, h⟩ := o_b1E h
        refine go_ndI ex8_52 ?_
        refine go_istore (pc' := 54) (lo' := [some (.inr (.inr a0)), some (.inl a1), some (.inl a2), some (.inl a3), some (.inl x4_7), some (.inl x5_14), some (.inl v6_19), some (.inl x7_44), some (.inl x8_52), z9_19]) rfl rfl rfl ?_
        refine go_aload_n (pc' := 55) rfl rfl rfl ?_
        refine go_iload_n (pc' := 56) rfl rfl rfl ?_
        refine go_iload (pc' := 58) rfl rfl rfl ?_
        refine go_ixor (pc' := 59) rfl rfl ?_
        obtain ⟨g3, h⟩ := o_gE h
        refine go_iaload (pc' := 60) rfl (o_inK g3) (o_inB g3) rfl ?_
        obtain ⟨x9_60, ex9_60, h⟩ := o_b1E h
        refine go_ndI ex9_60 ?_
        refine go_istore (pc' := 62) (lo' := [some (.inr (.inr a0)), some (.inl a1), some (.inl a2), some (.inl a3), some (.inl x4_7), some (.inl x5_14), some (.inl v6_19), some (.inl x7_44), some (.inl x8_52), some (.inl x9_60)]) rfl rfl rfl ?_
        refine go_iload (pc' := 64) rfl rfl rfl ?_
        refine go_ldc (pc' := 66) (v := .inl (-2147483648 : Int32)) rfl rfl rfl ?_
        refine go_icmp_eq (pt := 89) (pc' := 69) rfl rfl rfl (fun h66 => ?_) (fun h66 => ?_)
        · replace h := o_t h66 h
          obtain ⟨x6_89, ex6_89, h⟩ := o_b1E h
          refine go_iincE (pc' := 92) rfl rfl (y := (nI 1)) rfl ex6_89 (lo' := [some (.inr (.inr a0)), some (.inl a1), some (.inl a2), some (.inl a3), some (.inl x4_7), some (.inl x5_14), some (.inl x6_89), some (.inl x7_44), some (.inl x8_52), some (.inl x9_60)]) rfl rfl ?_
          refine go_goto (pc' := 19) rfl rfl ?_
          exact (lp_backE h hk19 (some (.inl x7_44)) (some (.inl x8_52)) (some (.inl x9_60)) :)
        · replace h := o_f h66 h
          refine go_iload (pc' := 71) rfl rfl rfl ?_
          refine go_ldc (pc' := 73) (v := .inl (-2147483648 : Int32)) rfl rfl rfl ?_
          refine go_icmp_eq (pt := 89) (pc' := 76) rfl rfl rfl (fun h73 => ?_) (fun h73 => ?_)
          · replace h := o_t h73 h
            obtain ⟨x6_89, ex6_89, h⟩ := o_b1E h
            refine go_iincE (pc' := 92) rfl rfl (y := (nI 1)) rfl ex6_89 (lo' := [some (.inr (.inr a0)), some (.inl a1), some (.inl a2), some (.inl a3), some (.inl x4_7), some (.inl x5_14), some (.inl x6_89), some (.inl x7_44), some (.inl x8_52), some (.inl x9_60)]) rfl rfl ?_
            refine go_goto (pc' := 19) rfl rfl ?_
            exact (lp_backE h hk19 (some (.inl x7_44)) (some (.inl x8_52)) (some (.inl x9_60)) :)
          · replace h := o_f h73 h
            refine go_iload (pc' := 78) rfl rfl rfl ?_
            refine go_iload (pc' := 80) rfl rfl rfl ?_
            refine go_iadd (pc' := 81) rfl rfl ?_
            refine go_iload (pc' := 83) rfl rfl rfl ?_
            refine go_icmp_lt (pt := 89) (pc' := 86) rfl rfl rfl (fun h83 => ?_) (fun h83 => ?_)
            · replace h := o_t h83 h
              obtain ⟨x6_89, ex6_89, h⟩ := o_b1E h
              refine go_iincE (pc' := 92) rfl rfl (y := (nI 1)) rfl ex6_89 (lo' := [some (.inr (.inr a0)), some (.inl a1), some (.inl a2), some (.inl a3), some (.inl x4_7), some (.inl x5_14), some (.inl x6_89), some (.inl x7_44), some (.inl x8_52), some (.inl x9_60)]) rfl rfl ?_
              refine go_goto (pc' := 19) rfl rfl ?_
              exact (lp_backE h hk19 (some (.inl x7_44)) (some (.inl x8_52)) (some (.inl x9_60)) :)
            · replace h := o_f h83 h
              exact ex19_86 _ (some (.inl x7_44)) (some (.inl x8_52)) (some (.inl x9_60)) (lp_exitE h hk19))
  exact lo19 _ (nI 0) hl19 none none none
def m_22_x33_93 (w6_93 : Int32) (Ix_93 : ai_I) : Option (Int32 × ai_I) :=
  some (w6_93, Ix_93)
def m_22_b33 (th : Nat) (a0 : Nat) (a1 : Int32) (a2 : Int32) (a4 : Int32) (G : ai_G) (x7_28 : Int32) (v6_33 : Int32) (v8_33 : Int32) (I_33 : ai_I) : Option ((Int32 × Int32 × ai_I) ⊕ (Int32 × ai_I)) :=
  if (nI 8) ≤ v8_33 then (some (Sum.inr (v6_33, I_33))) else (if a4 < v6_33 then (some (Sum.inr (v6_33, I_33))) else (o_b1 (m_113 x7_28 v8_33) (fun r_51 => if r_51 = 0 then (o_b1 (some (v8_33 + (nI 1))) (fun x8_87 => some (Sum.inl (v6_33, x8_87, I_33)))) else (o_b1 (m_23 a0 a1 a2 v8_33 I_33 G) (fun r_62 => if 0 ≤ r_62 then (o_b1 (some (v8_33 + (nI 1))) (fun x8_87 => some (Sum.inl (v6_33, x8_87, I_33)))) else (o_b1 (some (va_up I_33 th (va_up (I_33 th) 0 a1))) (fun I_70 => o_b1 (some (va_up I_70 th (va_up (I_70 th) 1 a2))) (fun I_75 => o_b1 (some (va_up I_75 th (va_up (I_75 th) 2 v8_33))) (fun I_81 => o_b1 (some (v6_33 + (nI 1))) (fun x6_84 => o_b1 (some (v8_33 + (nI 1))) (fun x8_87 => some (Sum.inl (x6_84, x8_87, I_81)))))))))))))
/-- PricedBases$Law.meetsFor([IIIII)I -/
def m_22 (th : Nat) (a0 : Nat) (a1 : Int32) (a2 : Int32) (a3 : Int32) (a4 : Int32) (I : ai_I) (G : ai_G) : Option (Int32 × ai_I) :=
  o_g (o_in G 13 a0 a1) (if (I a0 a1.toNatClampNeg) = (-2147483648 : Int32) then (some (a3, I)) else (o_g (o_in G 13 a0 a2) (if (I a0 a2.toNatClampNeg) = (-2147483648 : Int32) then (some (a3, I)) else (o_b1 (some (a1 &&& (a2 ^^^ (-1 : Int32)))) (fun x7_28 => o_s1 (lp (fun s => m_22_b33 th a0 a1 a2 a4 G x7_28 s.1 s.2.1 s.2.2) o_N (a3, (nI 0), I)) (fun t => m_22_x33_93 t.1 t.2))))))
theorem md_22 {d : Nat} {I : ai_I} {J : ai_J} {Rf : ai_R} {G : ai_G} {th : Nat} {a0 : Nat} {a1 : Int32} {a2 : Int32} {a3 : Int32} {a4 : Int32} {r : Int32} {I1 : ai_I} (hd : 3 ≤ d) (hth : G.1 th = 2) (h : m_22 th a0 a1 a2 a3 a4 I G = some (r, I1)) : ai_Cl si_t si_ms d 22 [.inr (.inr th), .inr (.inr a0), .inl a1, .inl a2, .inl a3, .inl a4] I J Rf G (some (.inl r)) I1 J Rf G := by
  obtain ⟨e, rfl⟩ : ∃ e, d = e + 1 := ⟨d - 1, by omega⟩
  unfold m_22 at h
  refine sp_in (lo := [some (.inr (.inr th)), some (.inr (.inr a0)), some (.inl a1), some (.inl a2), some (.inl a3), some (.inl a4), none, none, none]) (B := (0, 0)) rfl (Nat.le_of_ble_eq_true rfl) rfl rfl ?_
  refine go_aload_n (pc' := 1) rfl rfl rfl ?_
  refine go_iload_n (pc' := 2) rfl rfl rfl ?_
  obtain ⟨g0, h⟩ := o_gE h
  refine go_iaload (pc' := 3) rfl (o_inK g0) (o_inB g0) rfl ?_
  refine go_ldc (pc' := 5) (v := .inl (-2147483648 : Int32)) rfl rfl rfl ?_
  refine go_icmp_eq (pt := 16) (pc' := 8) rfl rfl rfl (fun h5 => ?_) (fun h5 => ?_)
  · replace h := o_t h5 h
    refine go_iload (pc' := 18) rfl rfl rfl ?_
    cases h
    exact go_iret rfl (trivial) ⟨rfl, rfl, rfl, rfl, rfl⟩
  · replace h := o_f h5 h
    refine go_aload_n (pc' := 9) rfl rfl rfl ?_
    refine go_iload_n (pc' := 10) rfl rfl rfl ?_
    obtain ⟨g1, h⟩ := o_gE h
    refine go_iaload (pc' := 11) rfl (o_inK g1) (o_inB g1) rfl ?_
    refine go_ldc (pc' := 13) (v := .inl (-2147483648 : Int32)) rfl rfl rfl ?_
    refine go_icmp_ne (pt := 19) (pc' := 16) rfl rfl rfl (fun h13 => ?_) (fun h13 => ?_)
    · replace h := o_f h13 h
      refine go_iload (pc' := 21) rfl rfl rfl ?_
      refine go_istore (pc' := 23) (lo' := [some (.inr (.inr th)), some (.inr (.inr a0)), some (.inl a1), some (.inl a2), some (.inl a3), some (.inl a4), some (.inl a3), none, none]) rfl rfl rfl ?_
      refine go_iload_n (pc' := 24) rfl rfl rfl ?_
      refine go_iload_n (pc' := 25) rfl rfl rfl ?_
      refine go_iconst (pc' := 26) (v := (-1 : Int32)) rfl rfl rfl ?_
      refine go_ixor (pc' := 27) rfl rfl ?_
      refine go_iand (pc' := 28) rfl rfl ?_
      obtain ⟨x7_28, ex7_28, h⟩ := o_b1E h
      refine go_ndI ex7_28 ?_
      refine go_istore (pc' := 30) (lo' := [some (.inr (.inr th)), some (.inr (.inr a0)), some (.inl a1), some (.inl a2), some (.inl a3), some (.inl a4), some (.inl a3), some (.inl x7_28), none]) rfl rfl rfl ?_
      refine go_iconst (pc' := 31) (v := (nI 0)) rfl rfl rfl ?_
      refine go_istore (pc' := 33) (lo' := [some (.inr (.inr th)), some (.inr (.inr a0)), some (.inl a1), some (.inl a2), some (.inl a3), some (.inl a4), some (.inl a3), some (.inl x7_28), some (.inl (nI 0))]) rfl rfl rfl ?_
      obtain ⟨q33, hl33, hc33_93⟩ := o_s1E h
      have ex33_93 : ∀ (w6_93 : Int32) (Ix_93 : ai_I) (z8_x93 : Option ai_V), (w6_93, Ix_93) = q33 → ai_Go si_t (2, false, 0, cd_22) (ai_Cl si_t si_ms e) (sp_Q (some (.inl r)) I1 J Rf G) 93 [some (.inr (.inr th)), some (.inr (.inr a0)), some (.inl a1), some (.inl a2), some (.inl a3), some (.inl a4), some (.inl w6_93), some (.inl x7_28), z8_x93] [] (0, 0) Ix_93 J Rf G := by
        intro w6_93 Ix_93 z8_x93 hq
        have h : m_22_x33_93 w6_93 Ix_93 = some (r, I1) := hc33_93 (w6_93, Ix_93) hq.symm
        unfold m_22_x33_93 at h
        refine go_iload (pc' := 95) rfl rfl rfl ?_
        cases h
        exact go_iret rfl (trivial) ⟨rfl, rfl, rfl, rfl, rfl⟩
      have lo33 : ∀ n s, lp (fun s => m_22_b33 th a0 a1 a2 a4 G x7_28 s.1 s.2.1 s.2.2) n s = some q33 → (fun s => ai_Go si_t (2, false, 0, cd_22) (ai_Cl si_t si_ms e) (sp_Q (some (.inl r)) I1 J Rf G) 33 [some (.inr (.inr th)), some (.inr (.inr a0)), some (.inl a1), some (.inl a2), some (.inl a3), some (.inl a4), some (.inl s.1), some (.inl x7_28), some (.inl s.2.1)] [] (0, 0) s.2.2 J Rf G) s := lp_go (fun s x33 hx hk33 => by
        obtain ⟨v6_33, v8_33, I_33⟩ := s
        have h : m_22_b33 th a0 a1 a2 a4 G x7_28 v6_33 v8_33 I_33 = some x33 := hx
        clear hx
        show ai_Go si_t (2, false, 0, cd_22) (ai_Cl si_t si_ms e) (sp_Q (some (.inl r)) I1 J Rf G) 33 [some (.inr (.inr th)), some (.inr (.inr a0)), some (.inl a1), some (.inl a2), some (.inl a3), some (.inl a4), some (.inl v6_33), some (.inl x7_28), some (.inl v8_33)] [] (0, 0) I_33 J Rf G
        unfold m_22_b33 at h
        refine go_iload (pc' := 35) rfl rfl rfl ?_
        refine go_bipush (pc' := 37) (v := (nI 8)) rfl rfl rfl ?_
        refine go_icmp_ge (pt := 93) (pc' := 40) rfl rfl rfl (fun h37 => ?_) (fun h37 => ?_)
        · replace h := o_t h37 h
          exact ex33_93 _ _ (some (.inl v8_33)) (lp_exitE h hk33)
        · replace h := o_f h37 h
          refine go_iload (pc' := 42) rfl rfl rfl ?_
          refine go_iload (pc' := 44) rfl rfl rfl ?_
          refine go_icmp_gt (pt := 93) (pc' := 47) rfl rfl rfl (fun h44 => ?_) (fun h44 => ?_)
          · replace h := o_t h44 h
            exact ex33_93 _ _ (some (.inl v8_33)) (lp_exitE h hk33)
          · replace h := o_f h44 h
            refine go_iload (pc' := 49) rfl rfl rfl ?_
            refine go_iload (pc' := 51) rfl rfl rfl ?_
            obtain ⟨r_51, q_51, h⟩ := o_b1E h
            refine go_callS (pc' := 54) (B' := (0, 0)) (st' := [.inl r_51]) rfl rfl (Or.inl (by decide)) rfl rfl trivial (md_113 (by omega) q_51) rfl rfl rfl ?_
            refine go_if_eq (pt := 87) (pc' := 57) rfl rfl rfl (fun h54 => ?_) (fun h54 => ?_)
            · replace h := o_t h54 h
              obtain ⟨x8_87, ex8_87, h⟩ := o_b1E h
              refine go_iincE (pc' := 90) rfl rfl (y := (nI 1)) rfl ex8_87 (lo' := [some (.inr (.inr th)), some (.inr (.inr a0)), some (.inl a1), some (.inl a2), some (.inl a3), some (.inl a4), some (.inl v6_33), some (.inl x7_28), some (.inl x8_87)]) rfl rfl ?_
              refine go_goto (pc' := 33) rfl rfl ?_
              exact (lp_backE h hk33 :)
            · replace h := o_f h54 h
              refine go_aload_n (pc' := 58) rfl rfl rfl ?_
              refine go_iload_n (pc' := 59) rfl rfl rfl ?_
              refine go_iload_n (pc' := 60) rfl rfl rfl ?_
              refine go_iload (pc' := 62) rfl rfl rfl ?_
              obtain ⟨r_62, q_62, h⟩ := o_b1E h
              refine go_callS (pc' := 65) (B' := (0, 0)) (st' := [.inl r_62]) rfl rfl (Or.inl (by decide)) rfl rfl trivial (md_23 (by omega) q_62) rfl rfl rfl ?_
              refine go_if_ge (pt := 87) (pc' := 68) rfl rfl rfl (fun h65 => ?_) (fun h65 => ?_)
              · replace h := o_t h65 h
                obtain ⟨x8_87, ex8_87, h⟩ := o_b1E h
                refine go_iincE (pc' := 90) rfl rfl (y := (nI 1)) rfl ex8_87 (lo' := [some (.inr (.inr th)), some (.inr (.inr a0)), some (.inl a1), some (.inl a2), some (.inl a3), some (.inl a4), some (.inl v6_33), some (.inl x7_28), some (.inl x8_87)]) rfl rfl ?_
                refine go_goto (pc' := 33) rfl rfl ?_
                exact (lp_backE h hk33 :)
              · replace h := o_f h65 h
                refine go_aload_n (pc' := 69) rfl rfl rfl ?_
                refine go_iload_n (pc' := 70) rfl rfl rfl ?_
                obtain ⟨I_70, eI_70, h⟩ := o_b1E h
                refine go_putI (pc' := 73) rfl rfl (fun h => by cases h) hth rfl ?_
                refine go_ndMI eI_70 ?_
                refine go_aload_n (pc' := 74) rfl rfl rfl ?_
                refine go_iload_n (pc' := 75) rfl rfl rfl ?_
                obtain ⟨I_75, eI_75, h⟩ := o_b1E h
                refine go_putI (pc' := 78) rfl rfl (fun h => by cases h) hth rfl ?_
                refine go_ndMI eI_75 ?_
                refine go_aload_n (pc' := 79) rfl rfl rfl ?_
                refine go_iload (pc' := 81) rfl rfl rfl ?_
                obtain ⟨I_81, eI_81, h⟩ := o_b1E h
                refine go_putI (pc' := 84) rfl rfl (fun h => by cases h) hth rfl ?_
                refine go_ndMI eI_81 ?_
                obtain ⟨x6_84, ex6_84, h⟩ := o_b1E h
                refine go_iincE (pc' := 87) rfl rfl (y := (nI 1)) rfl ex6_84 (lo' := [some (.inr (.inr th)), some (.inr (.inr a0)), some (.inl a1), some (.inl a2), some (.inl a3), some (.inl a4), some (.inl x6_84), some (.inl x7_28), some (.inl v8_33)]) rfl rfl ?_
                obtain ⟨x8_87, ex8_87, h⟩ := o_b1E h
                refine go_iincE (pc' := 90) rfl rfl (y := (nI 1)) rfl ex8_87 (lo' := [some (.inr (.inr th)), some (.inr (.inr a0)), some (.inl a1), some (.inl a2), some (.inl a3), some (.inl a4), some (.inl x6_84), some (.inl x7_28), some (.inl x8_87)]) rfl rfl ?_
                refine go_goto (pc' := 33) rfl rfl ?_
                exact (lp_backE h hk33 :))
      exact lo33 _ (a3, (nI 0), I) hl33 
    · replace h := o_t (Decidable.of_not_not h13) h
      refine go_iload (pc' := 18) rfl rfl rfl ?_
      cases h
      exact go_iret rfl (trivial) ⟨rfl, rfl, rfl, rfl, rfl⟩
def m_21_x6_57 (w4_57 : Int32) (Ix_57 : ai_I) : Option (Int32 × ai_I) :=
  some (w4_57, Ix_57)
def m_21_x6_72 (w4_72 : Int32) (Ix_72 : ai_I) : Option (Int32 × ai_I) :=
  some (w4_72, Ix_72)
def m_21_x18_57 (w4_57 : Int32) (Ix_57 : ai_I) : Option ((Int32 × Int32 × ai_I) ⊕ ((Int32 × ai_I) ⊕ (Int32 × ai_I))) :=
  some (Sum.inr (Sum.inl (w4_57, Ix_57)))
def m_21_x18_66 (v5_6 : Int32) (w4_66 : Int32) (Ix_66 : ai_I) : Option ((Int32 × Int32 × ai_I) ⊕ ((Int32 × ai_I) ⊕ (Int32 × ai_I))) :=
  o_b1 (some (v5_6 + (nI 1))) (fun x5_66 => some (Sum.inl (w4_66, x5_66, Ix_66)))
def m_21_b18 (th : Nat) (a0 : Nat) (a1 : Nat) (a2 : Int32) (Rf : ai_R) (G : ai_G) (v5_6 : Int32) (v4_18 : Int32) (v6_18 : Int32) (I_18 : ai_I) : Option ((Int32 × Int32 × ai_I) ⊕ ((Int32 × ai_I) ⊕ (Int32 × ai_I))) :=
  if (I_18 a0 2) ≤ v6_18 then (some (Sum.inr (Sum.inr (v4_18, I_18)))) else (o_g (o_in G 13 (Rf a0 5) v5_6) (o_g (o_in G 13 (Rf a0 5) v6_18) (o_b2 (m_22 th a1 (I_18 (Rf a0 5) v5_6.toNatClampNeg) (I_18 (Rf a0 5) v6_18.toNatClampNeg) v4_18 a2 I_18 G) (fun r_46 I_46 => if r_46 ≤ a2 then (o_b1 (some (v6_18 + (nI 1))) (fun x6_60 => some (Sum.inl (r_46, x6_60, I_46)))) else (some (Sum.inr (Sum.inl (r_46, I_46))))))))
def m_21_b6 (th : Nat) (a0 : Nat) (a1 : Nat) (a2 : Int32) (Rf : ai_R) (G : ai_G) (v4_6 : Int32) (v5_6 : Int32) (I_6 : ai_I) : Option ((Int32 × Int32 × ai_I) ⊕ ((Int32 × ai_I) ⊕ (Int32 × ai_I))) :=
  o_g (o_kd G a0 8) (if (I_6 a0 2) ≤ v5_6 then (some (Sum.inr (Sum.inr (v4_6, I_6)))) else (o_s2 (lp (fun s => m_21_b18 th a0 a1 a2 Rf G v5_6 s.1 s.2.1 s.2.2) o_N (v4_6, (nI 0), I_6)) (fun t => m_21_x18_57 t.1 t.2) (fun t => m_21_x18_66 v5_6 t.1 t.2)))
/-- PricedBases$Law.meets(LPricedBases$Valuation;[II)I -/
def m_21 (th : Nat) (a0 : Nat) (a1 : Nat) (a2 : Int32) (I : ai_I) (Rf : ai_R) (G : ai_G) : Option (Int32 × ai_I) :=
  o_s2 (lp (fun s => m_21_b6 th a0 a1 a2 Rf G s.1 s.2.1 s.2.2) o_N ((nI 0), (nI 0), I)) (fun t => m_21_x6_57 t.1 t.2) (fun t => m_21_x6_72 t.1 t.2)
theorem md_21 {d : Nat} {I : ai_I} {J : ai_J} {Rf : ai_R} {G : ai_G} {th : Nat} {a0 : Nat} {a1 : Nat} {a2 : Int32} {r : Int32} {I1 : ai_I} (hd : 4 ≤ d) (hth : G.1 th = 2) (h : m_21 th a0 a1 a2 I Rf G = some (r, I1)) : ai_Cl si_t si_ms d 21 [.inr (.inr th), .inr (.inr a0), .inr (.inr a1), .inl a2] I J Rf G (some (.inl r)) I1 J Rf G := by
  obtain ⟨e, rfl⟩ : ∃ e, d = e + 1 := ⟨d - 1, by omega⟩
  unfold m_21 at h
  refine sp_in (lo := [some (.inr (.inr th)), some (.inr (.inr a0)), some (.inr (.inr a1)), some (.inl a2), none, none, none]) (B := (0, 0)) rfl (Nat.le_of_ble_eq_true rfl) rfl rfl ?_
  refine go_iconst (pc' := 1) (v := (nI 0)) rfl rfl rfl ?_
  refine go_istore (pc' := 3) (lo' := [some (.inr (.inr th)), some (.inr (.inr a0)), some (.inr (.inr a1)), some (.inl a2), some (.inl (nI 0)), none, none]) rfl rfl rfl ?_
  refine go_iconst (pc' := 4) (v := (nI 0)) rfl rfl rfl ?_
  refine go_istore (pc' := 6) (lo' := [some (.inr (.inr th)), some (.inr (.inr a0)), some (.inr (.inr a1)), some (.inl a2), some (.inl (nI 0)), some (.inl (nI 0)), none]) rfl rfl rfl ?_
  obtain ⟨q6, hl6, hc6_57, hc6_72⟩ := o_s2E h
  have ex6_57 : ∀ (w4_57 : Int32) (Ix_57 : ai_I) (z5_x57 : Option ai_V) (z6_x57 : Option ai_V), (Sum.inl (w4_57, Ix_57)) = q6 → ai_Go si_t (2, false, 0, cd_21) (ai_Cl si_t si_ms e) (sp_Q (some (.inl r)) I1 J Rf G) 57 [some (.inr (.inr th)), some (.inr (.inr a0)), some (.inr (.inr a1)), some (.inl a2), some (.inl w4_57), z5_x57, z6_x57] [] (0, 0) Ix_57 J Rf G := by
    intro w4_57 Ix_57 z5_x57 z6_x57 hq
    have h : m_21_x6_57 w4_57 Ix_57 = some (r, I1) := hc6_57 (w4_57, Ix_57) hq.symm
    unfold m_21_x6_57 at h
    refine go_iload (pc' := 59) rfl rfl rfl ?_
    cases h
    exact go_iret rfl (trivial) ⟨rfl, rfl, rfl, rfl, rfl⟩
  have ex6_72 : ∀ (w4_72 : Int32) (Ix_72 : ai_I) (z5_x72 : Option ai_V) (z6_x72 : Option ai_V), (Sum.inr (w4_72, Ix_72)) = q6 → ai_Go si_t (2, false, 0, cd_21) (ai_Cl si_t si_ms e) (sp_Q (some (.inl r)) I1 J Rf G) 72 [some (.inr (.inr th)), some (.inr (.inr a0)), some (.inr (.inr a1)), some (.inl a2), some (.inl w4_72), z5_x72, z6_x72] [] (0, 0) Ix_72 J Rf G := by
    intro w4_72 Ix_72 z5_x72 z6_x72 hq
    have h : m_21_x6_72 w4_72 Ix_72 = some (r, I1) := hc6_72 (w4_72, Ix_72) hq.symm
    unfold m_21_x6_72 at h
    refine go_iload (pc' := 74) rfl rfl rfl ?_
    cases h
    exact go_iret rfl (trivial) ⟨rfl, rfl, rfl, rfl, rfl⟩
  have lo6 : ∀ n s, lp (fun s => m_21_b6 th a0 a1 a2 Rf G s.1 s.2.1 s.2.2) n s = some q6 → (fun s => ∀ (z6_6 : Option ai_V), ai_Go si_t (2, false, 0, cd_21) (ai_Cl si_t si_ms e) (sp_Q (some (.inl r)) I1 J Rf G) 6 [some (.inr (.inr th)), some (.inr (.inr a0)), some (.inr (.inr a1)), some (.inl a2), some (.inl s.1), some (.inl s.2.1), z6_6] [] (0, 0) s.2.2 J Rf G) s := lp_go (fun s x6 hx hk6 => by
    obtain ⟨v4_6, v5_6, I_6⟩ := s
    intro z6_6
    have h : m_21_b6 th a0 a1 a2 Rf G v4_6 v5_6 I_6 = some x6 := hx
    clear hx
    show ai_Go si_t (2, false, 0, cd_21) (ai_Cl si_t si_ms e) (sp_Q (some (.inl r)) I1 J Rf G) 6 [some (.inr (.inr th)), some (.inr (.inr a0)), some (.inr (.inr a1)), some (.inl a2), some (.inl v4_6), some (.inl v5_6), z6_6] [] (0, 0) I_6 J Rf G
    unfold m_21_b6 at h
    refine go_iload (pc' := 8) rfl rfl rfl ?_
    refine go_aload_n (pc' := 9) rfl rfl rfl ?_
    obtain ⟨g0, h⟩ := o_gE h
    refine go_getI (pc' := 12) rfl rfl (by decide) (by decide) (o_kdE g0) rfl ?_
    refine go_icmp_ge (pt := 72) (pc' := 15) rfl rfl rfl (fun h12 => ?_) (fun h12 => ?_)
    · replace h := o_t h12 h
      exact ex6_72 _ _ (some (.inl v5_6)) z6_6 (lp_exitE h hk6)
    · replace h := o_f h12 h
      refine go_iconst (pc' := 16) (v := (nI 0)) rfl rfl rfl ?_
      refine go_istore (pc' := 18) (lo' := [some (.inr (.inr th)), some (.inr (.inr a0)), some (.inr (.inr a1)), some (.inl a2), some (.inl v4_6), some (.inl v5_6), some (.inl (nI 0))]) rfl rfl rfl ?_
      obtain ⟨q18, hl18, hc18_57, hc18_66⟩ := o_s2E h
      have ex18_57 : ∀ (w4_57 : Int32) (Ix_57 : ai_I) (z6_x57 : Option ai_V), (Sum.inl (w4_57, Ix_57)) = q18 → ai_Go si_t (2, false, 0, cd_21) (ai_Cl si_t si_ms e) (sp_Q (some (.inl r)) I1 J Rf G) 57 [some (.inr (.inr th)), some (.inr (.inr a0)), some (.inr (.inr a1)), some (.inl a2), some (.inl w4_57), some (.inl v5_6), z6_x57] [] (0, 0) Ix_57 J Rf G := by
        intro w4_57 Ix_57 z6_x57 hq
        have h : m_21_x18_57 w4_57 Ix_57 = some x6 := hc18_57 (w4_57, Ix_57) hq.symm
        unfold m_21_x18_57 at h
        exact ex6_57 _ _ (some (.inl v5_6)) z6_x57 (lp_exitE h hk6)
      have ex18_66 : ∀ (w4_66 : Int32) (Ix_66 : ai_I) (z6_x66 : Option ai_V), (Sum.inr (w4_66, Ix_66)) = q18 → ai_Go si_t (2, false, 0, cd_21) (ai_Cl si_t si_ms e) (sp_Q (some (.inl r)) I1 J Rf G) 66 [some (.inr (.inr th)), some (.inr (.inr a0)), some (.inr (.inr a1)), some (.inl a2), some (.inl w4_66), some (.inl v5_6), z6_x66] [] (0, 0) Ix_66 J Rf G := by
        intro w4_66 Ix_66 z6_x66 hq
        have h : m_21_x18_66 v5_6 w4_66 Ix_66 = some x6 := hc18_66 (w4_66, Ix_66) hq.symm
        unfold m_21_x18_66 at h
        obtain ⟨x5_66, ex5_66, h⟩ := o_b1E h
        refine go_iincE (pc' := 69) rfl rfl (y := (nI 1)) rfl ex5_66 (lo' := [some (.inr (.inr th)), some (.inr (.inr a0)), some (.inr (.inr a1)), some (.inl a2), some (.inl w4_66), some (.inl x5_66), z6_x66]) rfl rfl ?_
        refine go_goto (pc' := 6) rfl rfl ?_
        exact (lp_backE h hk6 z6_x66 :)
      have lo18 : ∀ n s, lp (fun s => m_21_b18 th a0 a1 a2 Rf G v5_6 s.1 s.2.1 s.2.2) n s = some q18 → (fun s => ai_Go si_t (2, false, 0, cd_21) (ai_Cl si_t si_ms e) (sp_Q (some (.inl r)) I1 J Rf G) 18 [some (.inr (.inr th)), some (.inr (.inr a0)), some (.inr (.inr a1)), some (.inl a2), some (.inl s.1), some (.inl v5_6), some (.inl s.2.1)] [] (0, 0) s.2.2 J Rf G) s := lp_go (fun s x18 hx hk18 => by
        obtain ⟨v4_18, v6_18, I_18⟩ := s
        have h : m_21_b18 th a0 a1 a2 Rf G v5_6 v4_18 v6_18 I_18 = some x18 := hx
        clear hx
        show ai_Go si_t (2, false, 0, cd_21) (ai_Cl si_t si_ms e) (sp_Q (some (.inl r)) I1 J Rf G) 18 [some (.inr (.inr th)), some (.inr (.inr a0)), some (.inr (.inr a1)), some (.inl a2), some (.inl v4_18), some (.inl v5_6), some (.inl v6_18)] [] (0, 0) I_18 J Rf G
        unfold m_21_b18 at h
        refine go_iload (pc' := 20) rfl rfl rfl ?_
        refine go_aload_n (pc' := 21) rfl rfl rfl ?_
        refine go_getI (pc' := 24) rfl rfl (by decide) (by decide) (o_kdE g0) rfl ?_
        refine go_icmp_ge (pt := 66) (pc' := 27) rfl rfl rfl (fun h24 => ?_) (fun h24 => ?_)
        · replace h := o_t h24 h
          exact ex18_66 _ _ (some (.inl v6_18)) (lp_exitE h hk18)
        · replace h := o_f h24 h
          refine go_aload_n (pc' := 28) rfl rfl rfl ?_
          refine go_aload_n (pc' := 29) rfl rfl rfl ?_
          refine go_aload_n (pc' := 30) rfl rfl rfl ?_
          refine go_getR (pc' := 33) rfl rfl (o_kdE g0) rfl ?_
          refine go_iload (pc' := 35) rfl rfl rfl ?_
          obtain ⟨g1, h⟩ := o_gE h
          refine go_iaload (pc' := 36) rfl (o_inK g1) (o_inB g1) rfl ?_
          refine go_aload_n (pc' := 37) rfl rfl rfl ?_
          refine go_getR (pc' := 40) rfl rfl (o_kdE g0) rfl ?_
          refine go_iload (pc' := 42) rfl rfl rfl ?_
          obtain ⟨g2, h⟩ := o_gE h
          refine go_iaload (pc' := 43) rfl (o_inK g2) (o_inB g2) rfl ?_
          refine go_iload (pc' := 45) rfl rfl rfl ?_
          refine go_iload_n (pc' := 46) rfl rfl rfl ?_
          obtain ⟨r_46, I_46, q_46, h⟩ := o_b2E h
          refine go_callV (pc' := 49) (B' := (0, 0)) (st' := [.inl r_46]) rfl rfl (Or.inl (by decide)) rfl rfl hth (md_22 (by omega) hth q_46) rfl rfl rfl ?_
          refine go_istore (pc' := 51) (lo' := [some (.inr (.inr th)), some (.inr (.inr a0)), some (.inr (.inr a1)), some (.inl a2), some (.inl r_46), some (.inl v5_6), some (.inl v6_18)]) rfl rfl rfl ?_
          refine go_iload (pc' := 53) rfl rfl rfl ?_
          refine go_iload_n (pc' := 54) rfl rfl rfl ?_
          refine go_icmp_le (pt := 60) (pc' := 57) rfl rfl rfl (fun h54 => ?_) (fun h54 => ?_)
          · replace h := o_t h54 h
            obtain ⟨x6_60, ex6_60, h⟩ := o_b1E h
            refine go_iincE (pc' := 63) rfl rfl (y := (nI 1)) rfl ex6_60 (lo' := [some (.inr (.inr th)), some (.inr (.inr a0)), some (.inr (.inr a1)), some (.inl a2), some (.inl r_46), some (.inl v5_6), some (.inl x6_60)]) rfl rfl ?_
            refine go_goto (pc' := 18) rfl rfl ?_
            exact (lp_backE h hk18 :)
          · replace h := o_f h54 h
            exact ex18_57 _ _ (some (.inl v6_18)) (lp_exitE h hk18))
      exact lo18 _ (v4_6, (nI 0), I_6) hl18 )
  exact lo6 _ ((nI 0), (nI 0), I) hl6 none
def m_116_x5_20 (Ix_20 : ai_I) : Option (ai_I) :=
  some Ix_20
def m_116_b5 (a0 : Nat) (a1 : Int32) (G : ai_G) (x3_4 : Int32) (v2_5 : Int32) (I_5 : ai_I) : Option ((Int32 × ai_I) ⊕ ai_I) :=
  if x3_4 ≤ v2_5 then (some (Sum.inr I_5)) else (o_g (o_in G 13 a0 v2_5) (o_b1 (some (va_up I_5 a0 (va_up (I_5 a0) v2_5.toNatClampNeg a1))) (fun I_13 => o_b1 (some (v2_5 + (nI 1))) (fun x2_14 => some (Sum.inl (x2_14, I_13))))))
/-- java/util/Arrays.fill([II)V -/
def m_116 (a0 : Nat) (a1 : Int32) (I : ai_I) (G : ai_G) : Option (ai_I) :=
  o_g (o_al G a0) (o_b1 (some (Int32.ofNat (G.2.1 a0))) (fun x3_4 => o_s1 (lp (fun s => m_116_b5 a0 a1 G x3_4 s.1 s.2) o_N ((nI 0), I)) (fun t => m_116_x5_20 t)))
theorem md_116 {d : Nat} {I : ai_I} {J : ai_J} {Rf : ai_R} {G : ai_G} {a0 : Nat} {a1 : Int32} {I1 : ai_I} (hd : 1 ≤ d) (h : m_116 a0 a1 I G = some I1) : ai_Cl si_t si_ms d 116 [.inr (.inr a0), .inl a1] I J Rf G none I1 J Rf G := by
  obtain ⟨e, rfl⟩ : ∃ e, d = e + 1 := ⟨d - 1, by omega⟩
  unfold m_116 at h
  refine sp_in (lo := [some (.inr (.inr a0)), some (.inl a1), none, none]) (B := (0, 0)) rfl (Nat.le_of_ble_eq_true rfl) rfl rfl ?_
  refine go_iconst (pc' := 1) (v := (nI 0)) rfl rfl rfl ?_
  refine go_istore_n (pc' := 2) (lo' := [some (.inr (.inr a0)), some (.inl a1), some (.inl (nI 0)), none]) rfl rfl rfl ?_
  refine go_aload_n (pc' := 3) rfl rfl rfl ?_
  obtain ⟨g0, h⟩ := o_gE h
  refine go_alen (pc' := 4) (n := G.2.1 a0) rfl (o_alE g0) rfl rfl ?_
  obtain ⟨x3_4, ex3_4, h⟩ := o_b1E h
  refine go_ndI ex3_4 ?_
  refine go_istore_n (pc' := 5) (lo' := [some (.inr (.inr a0)), some (.inl a1), some (.inl (nI 0)), some (.inl x3_4)]) rfl rfl rfl ?_
  obtain ⟨q5, hl5, hc5_20⟩ := o_s1E h
  have ex5_20 : ∀ (Ix_20 : ai_I) (z2_x20 : Option ai_V), Ix_20 = q5 → ai_Go si_t (24, false, 9, cd_116) (ai_Cl si_t si_ms e) (sp_Q none I1 J Rf G) 20 [some (.inr (.inr a0)), some (.inl a1), z2_x20, some (.inl x3_4)] [] (0, 0) Ix_20 J Rf G := by
    intro Ix_20 z2_x20 hq
    have h : m_116_x5_20 Ix_20 = some I1 := hc5_20 Ix_20 hq.symm
    unfold m_116_x5_20 at h
    cases h
    exact go_vret rfl (rfl) ⟨rfl, rfl, rfl, rfl, rfl⟩
  have lo5 : ∀ n s, lp (fun s => m_116_b5 a0 a1 G x3_4 s.1 s.2) n s = some q5 → (fun s => ai_Go si_t (24, false, 9, cd_116) (ai_Cl si_t si_ms e) (sp_Q none I1 J Rf G) 5 [some (.inr (.inr a0)), some (.inl a1), some (.inl s.1), some (.inl x3_4)] [] (0, 0) s.2 J Rf G) s := lp_go (fun s x5 hx hk5 => by
    obtain ⟨v2_5, I_5⟩ := s
    have h : m_116_b5 a0 a1 G x3_4 v2_5 I_5 = some x5 := hx
    clear hx
    show ai_Go si_t (24, false, 9, cd_116) (ai_Cl si_t si_ms e) (sp_Q none I1 J Rf G) 5 [some (.inr (.inr a0)), some (.inl a1), some (.inl v2_5), some (.inl x3_4)] [] (0, 0) I_5 J Rf G
    unfold m_116_b5 at h
    refine go_iload_n (pc' := 6) rfl rfl rfl ?_
    refine go_iload_n (pc' := 7) rfl rfl rfl ?_
    refine go_icmp_ge (pt := 20) (pc' := 10) rfl rfl rfl (fun h7 => ?_) (fun h7 => ?_)
    · replace h := o_t h7 h
      exact ex5_20 _ (some (.inl v2_5)) (lp_exitE h hk5)
    · replace h := o_f h7 h
      refine go_aload_n (pc' := 11) rfl rfl rfl ?_
      refine go_iload_n (pc' := 12) rfl rfl rfl ?_
      refine go_iload_n (pc' := 13) rfl rfl rfl ?_
      obtain ⟨g1, h⟩ := o_gE h
      obtain ⟨I_13, eI_13, h⟩ := o_b1E h
      refine go_iastore (pc' := 14) rfl (o_inK g1) (o_inB g1) rfl ?_
      refine go_ndMI eI_13 ?_
      obtain ⟨x2_14, ex2_14, h⟩ := o_b1E h
      refine go_iincE (pc' := 17) rfl rfl (y := (nI 1)) rfl ex2_14 (lo' := [some (.inr (.inr a0)), some (.inl a1), some (.inl x2_14), some (.inl x3_4)]) rfl rfl ?_
      refine go_goto (pc' := 5) rfl rfl ?_
      exact (lp_backE h hk5 :))
  exact lo5 _ ((nI 0), I) hl5 
def m_24_x11_37 (th : Nat) (Rf : ai_R) (Ix_37 : ai_I) : Option (Nat × ai_I) :=
  some (Rf th 3, Ix_37)
def m_24_b11 (th : Nat) (a0 : Nat) (Rf : ai_R) (G : ai_G) (v2_11 : Int32) (I_11 : ai_I) : Option ((Int32 × ai_I) ⊕ ai_I) :=
  o_g (o_kd G a0 8) (if (I_11 a0 2) ≤ v2_11 then (some (Sum.inr I_11)) else (o_g (o_in G 13 (Rf a0 5) v2_11) (o_g (o_in G 13 (Rf th 3) (I_11 (Rf a0 5) v2_11.toNatClampNeg)) (o_b1 (some (va_up I_11 (Rf th 3) (va_up (I_11 (Rf th 3)) (I_11 (Rf a0 5) v2_11.toNatClampNeg).toNatClampNeg (nI 0)))) (fun I_30 => o_b1 (some (v2_11 + (nI 1))) (fun x2_31 => some (Sum.inl (x2_31, I_30))))))))
/-- PricedBases$Law.flat(LPricedBases$Valuation;)[I -/
def m_24 (th : Nat) (a0 : Nat) (I : ai_I) (Rf : ai_R) (G : ai_G) : Option (Nat × ai_I) :=
  o_b1 (m_116 (Rf th 3) (-2147483648 : Int32) I G) (fun I_6 => o_s1 (lp (fun s => m_24_b11 th a0 Rf G s.1 s.2) o_N ((nI 0), I_6)) (fun t => m_24_x11_37 th Rf t))
theorem md_24 {d : Nat} {I : ai_I} {J : ai_J} {Rf : ai_R} {G : ai_G} {th : Nat} {a0 : Nat} {r : Nat} {I1 : ai_I} (hd : 2 ≤ d) (hth : G.1 th = 2) (h : m_24 th a0 I Rf G = some (r, I1)) : ai_Cl si_t si_ms d 24 [.inr (.inr th), .inr (.inr a0)] I J Rf G (some (.inr (.inr r))) I1 J Rf G := by
  obtain ⟨e, rfl⟩ : ∃ e, d = e + 1 := ⟨d - 1, by omega⟩
  unfold m_24 at h
  refine sp_in (lo := [some (.inr (.inr th)), some (.inr (.inr a0)), none]) (B := (0, 0)) rfl (Nat.le_of_ble_eq_true rfl) rfl rfl ?_
  refine go_aload_n (pc' := 1) rfl rfl rfl ?_
  refine go_getR (pc' := 4) rfl rfl hth rfl ?_
  refine go_ldc (pc' := 6) (v := .inl (-2147483648 : Int32)) rfl rfl rfl ?_
  obtain ⟨I_6, q_6, h⟩ := o_b1E h
  refine go_callS (pc' := 9) (B' := (0, 0)) (st' := []) rfl rfl (Or.inl (by decide)) rfl rfl trivial (md_116 (by omega) q_6) rfl rfl rfl ?_
  refine go_iconst (pc' := 10) (v := (nI 0)) rfl rfl rfl ?_
  refine go_istore_n (pc' := 11) (lo' := [some (.inr (.inr th)), some (.inr (.inr a0)), some (.inl (nI 0))]) rfl rfl rfl ?_
  obtain ⟨q11, hl11, hc11_37⟩ := o_s1E h
  have ex11_37 : ∀ (Ix_37 : ai_I) (z2_x37 : Option ai_V), Ix_37 = q11 → ai_Go si_t (2, false, 2, cd_24) (ai_Cl si_t si_ms e) (sp_Q (some (.inr (.inr r))) I1 J Rf G) 37 [some (.inr (.inr th)), some (.inr (.inr a0)), z2_x37] [] (0, 0) Ix_37 J Rf G := by
    intro Ix_37 z2_x37 hq
    have h : m_24_x11_37 th Rf Ix_37 = some (r, I1) := hc11_37 Ix_37 hq.symm
    unfold m_24_x11_37 at h
    refine go_aload_n (pc' := 38) rfl rfl rfl ?_
    refine go_getR (pc' := 41) rfl rfl hth rfl ?_
    cases h
    exact go_aret rfl (rfl) ⟨rfl, rfl, rfl, rfl, rfl⟩
  have lo11 : ∀ n s, lp (fun s => m_24_b11 th a0 Rf G s.1 s.2) n s = some q11 → (fun s => ai_Go si_t (2, false, 2, cd_24) (ai_Cl si_t si_ms e) (sp_Q (some (.inr (.inr r))) I1 J Rf G) 11 [some (.inr (.inr th)), some (.inr (.inr a0)), some (.inl s.1)] [] (0, 0) s.2 J Rf G) s := lp_go (fun s x11 hx hk11 => by
    obtain ⟨v2_11, I_11⟩ := s
    have h : m_24_b11 th a0 Rf G v2_11 I_11 = some x11 := hx
    clear hx
    show ai_Go si_t (2, false, 2, cd_24) (ai_Cl si_t si_ms e) (sp_Q (some (.inr (.inr r))) I1 J Rf G) 11 [some (.inr (.inr th)), some (.inr (.inr a0)), some (.inl v2_11)] [] (0, 0) I_11 J Rf G
    unfold m_24_b11 at h
    refine go_iload_n (pc' := 12) rfl rfl rfl ?_
    refine go_aload_n (pc' := 13) rfl rfl rfl ?_
    obtain ⟨g0, h⟩ := o_gE h
    refine go_getI (pc' := 16) rfl rfl (by decide) (by decide) (o_kdE g0) rfl ?_
    refine go_icmp_ge (pt := 37) (pc' := 19) rfl rfl rfl (fun h16 => ?_) (fun h16 => ?_)
    · replace h := o_t h16 h
      exact ex11_37 _ (some (.inl v2_11)) (lp_exitE h hk11)
    · replace h := o_f h16 h
      refine go_aload_n (pc' := 20) rfl rfl rfl ?_
      refine go_getR (pc' := 23) rfl rfl hth rfl ?_
      refine go_aload_n (pc' := 24) rfl rfl rfl ?_
      refine go_getR (pc' := 27) rfl rfl (o_kdE g0) rfl ?_
      refine go_iload_n (pc' := 28) rfl rfl rfl ?_
      obtain ⟨g1, h⟩ := o_gE h
      refine go_iaload (pc' := 29) rfl (o_inK g1) (o_inB g1) rfl ?_
      refine go_iconst (pc' := 30) (v := (nI 0)) rfl rfl rfl ?_
      obtain ⟨g2, h⟩ := o_gE h
      obtain ⟨I_30, eI_30, h⟩ := o_b1E h
      refine go_iastore (pc' := 31) rfl (o_inK g2) (o_inB g2) rfl ?_
      refine go_ndMI eI_30 ?_
      obtain ⟨x2_31, ex2_31, h⟩ := o_b1E h
      refine go_iincE (pc' := 34) rfl rfl (y := (nI 1)) rfl ex2_31 (lo' := [some (.inr (.inr th)), some (.inr (.inr a0)), some (.inl x2_31)]) rfl rfl ?_
      refine go_goto (pc' := 11) rfl rfl ?_
      exact (lp_backE h hk11 :))
  exact lo11 _ ((nI 0), I_6) hl11 
/-- PricedBases$Sums.isGreatest(I)Z -/
def m_73 (th : Nat) (a0 : Int32) (I : ai_I) (Rf : ai_R) (G : ai_G) : Option (Int32) :=
  o_g (o_in G 13 (Rf th 0) a0) (if (I (Rf th 0) a0.toNatClampNeg) = (I th 1) then (some (nI 1)) else (some (nI 0)))
theorem md_73 {d : Nat} {I : ai_I} {J : ai_J} {Rf : ai_R} {G : ai_G} {th : Nat} {a0 : Int32} {r : Int32} (hd : 1 ≤ d) (hth : G.1 th = 7) (h : m_73 th a0 I Rf G = some r) : ai_Cl si_t si_ms d 73 [.inr (.inr th), .inl a0] I J Rf G (some (.inl r)) I J Rf G := by
  obtain ⟨e, rfl⟩ : ∃ e, d = e + 1 := ⟨d - 1, by omega⟩
  unfold m_73 at h
  refine sp_in (lo := [some (.inr (.inr th)), some (.inl a0)]) (B := (0, 0)) rfl (Nat.le_of_ble_eq_true rfl) rfl rfl ?_
  refine go_aload_n (pc' := 1) rfl rfl rfl ?_
  refine go_getR (pc' := 4) rfl rfl hth rfl ?_
  refine go_iload_n (pc' := 5) rfl rfl rfl ?_
  obtain ⟨g0, h⟩ := o_gE h
  refine go_iaload (pc' := 6) rfl (o_inK g0) (o_inB g0) rfl ?_
  refine go_aload_n (pc' := 7) rfl rfl rfl ?_
  refine go_getI (pc' := 10) rfl rfl (by decide) (by decide) hth rfl ?_
  refine go_icmp_ne (pt := 17) (pc' := 13) rfl rfl rfl (fun h10 => ?_) (fun h10 => ?_)
  · replace h := o_f h10 h
    refine go_iconst (pc' := 18) (v := (nI 0)) rfl rfl rfl ?_
    cases h
    exact go_iret rfl (rfl) ⟨rfl, rfl, rfl, rfl, rfl⟩
  · replace h := o_t (Decidable.of_not_not h10) h
    refine go_iconst (pc' := 14) (v := (nI 1)) rfl rfl rfl ?_
    refine go_goto (pc' := 18) rfl rfl ?_
    cases h
    exact go_iret rfl (rfl) ⟨rfl, rfl, rfl, rfl, rfl⟩
def m_25_x11_50 (th : Nat) (Rf : ai_R) (Ix_50 : ai_I) : Option (Nat × ai_I) :=
  some (Rf th 3, Ix_50)
def m_25_b11 (th : Nat) (a0 : Nat) (a1 : Nat) (Rf : ai_R) (G : ai_G) (v3_11 : Int32) (I_11 : ai_I) : Option ((Int32 × ai_I) ⊕ ai_I) :=
  o_g (o_kd G a0 8) (if (I_11 a0 2) ≤ v3_11 then (some (Sum.inr I_11)) else (o_g (o_in G 13 (Rf a0 5) v3_11) (o_g (o_kd G a1 7) (o_b1 (m_73 a1 (I_11 (Rf a0 5) v3_11.toNatClampNeg) I_11 Rf G) (fun r_26 => if r_26 = 0 then (o_b1 (some (v3_11 + (nI 1))) (fun x3_44 => some (Sum.inl (x3_44, I_11)))) else (o_g (o_in G 13 (Rf a0 5) v3_11) (o_g (o_in G 13 (Rf th 3) (I_11 (Rf a0 5) v3_11.toNatClampNeg)) (o_b1 (some (va_up I_11 (Rf th 3) (va_up (I_11 (Rf th 3)) (I_11 (Rf a0 5) v3_11.toNatClampNeg).toNatClampNeg (nI 0)))) (fun I_43 => o_b1 (some (v3_11 + (nI 1))) (fun x3_44 => some (Sum.inl (x3_44, I_43))))))))))))
/-- PricedBases$Law.flatGreatest(LPricedBases$Valuation;LPricedBases$Sums;)[I -/
def m_25 (th : Nat) (a0 : Nat) (a1 : Nat) (I : ai_I) (Rf : ai_R) (G : ai_G) : Option (Nat × ai_I) :=
  o_b1 (m_116 (Rf th 3) (-2147483648 : Int32) I G) (fun I_6 => o_s1 (lp (fun s => m_25_b11 th a0 a1 Rf G s.1 s.2) o_N ((nI 0), I_6)) (fun t => m_25_x11_50 th Rf t))
theorem md_25 {d : Nat} {I : ai_I} {J : ai_J} {Rf : ai_R} {G : ai_G} {th : Nat} {a0 : Nat} {a1 : Nat} {r : Nat} {I1 : ai_I} (hd : 2 ≤ d) (hth : G.1 th = 2) (h : m_25 th a0 a1 I Rf G = some (r, I1)) : ai_Cl si_t si_ms d 25 [.inr (.inr th), .inr (.inr a0), .inr (.inr a1)] I J Rf G (some (.inr (.inr r))) I1 J Rf G := by
  obtain ⟨e, rfl⟩ : ∃ e, d = e + 1 := ⟨d - 1, by omega⟩
  unfold m_25 at h
  refine sp_in (lo := [some (.inr (.inr th)), some (.inr (.inr a0)), some (.inr (.inr a1)), none]) (B := (0, 0)) rfl (Nat.le_of_ble_eq_true rfl) rfl rfl ?_
  refine go_aload_n (pc' := 1) rfl rfl rfl ?_
  refine go_getR (pc' := 4) rfl rfl hth rfl ?_
  refine go_ldc (pc' := 6) (v := .inl (-2147483648 : Int32)) rfl rfl rfl ?_
  obtain ⟨I_6, q_6, h⟩ := o_b1E h
  refine go_callS (pc' := 9) (B' := (0, 0)) (st' := []) rfl rfl (Or.inl (by decide)) rfl rfl trivial (md_116 (by omega) q_6) rfl rfl rfl ?_
  refine go_iconst (pc' := 10) (v := (nI 0)) rfl rfl rfl ?_
  refine go_istore_n (pc' := 11) (lo' := [some (.inr (.inr th)), some (.inr (.inr a0)), some (.inr (.inr a1)), some (.inl (nI 0))]) rfl rfl rfl ?_
  obtain ⟨q11, hl11, hc11_50⟩ := o_s1E h
  have ex11_50 : ∀ (Ix_50 : ai_I) (z3_x50 : Option ai_V), Ix_50 = q11 → ai_Go si_t (2, false, 2, cd_25) (ai_Cl si_t si_ms e) (sp_Q (some (.inr (.inr r))) I1 J Rf G) 50 [some (.inr (.inr th)), some (.inr (.inr a0)), some (.inr (.inr a1)), z3_x50] [] (0, 0) Ix_50 J Rf G := by
    intro Ix_50 z3_x50 hq
    have h : m_25_x11_50 th Rf Ix_50 = some (r, I1) := hc11_50 Ix_50 hq.symm
    unfold m_25_x11_50 at h
    refine go_aload_n (pc' := 51) rfl rfl rfl ?_
    refine go_getR (pc' := 54) rfl rfl hth rfl ?_
    cases h
    exact go_aret rfl (rfl) ⟨rfl, rfl, rfl, rfl, rfl⟩
  have lo11 : ∀ n s, lp (fun s => m_25_b11 th a0 a1 Rf G s.1 s.2) n s = some q11 → (fun s => ai_Go si_t (2, false, 2, cd_25) (ai_Cl si_t si_ms e) (sp_Q (some (.inr (.inr r))) I1 J Rf G) 11 [some (.inr (.inr th)), some (.inr (.inr a0)), some (.inr (.inr a1)), some (.inl s.1)] [] (0, 0) s.2 J Rf G) s := lp_go (fun s x11 hx hk11 => by
    obtain ⟨v3_11, I_11⟩ := s
    have h : m_25_b11 th a0 a1 Rf G v3_11 I_11 = some x11 := hx
    clear hx
    show ai_Go si_t (2, false, 2, cd_25) (ai_Cl si_t si_ms e) (sp_Q (some (.inr (.inr r))) I1 J Rf G) 11 [some (.inr (.inr th)), some (.inr (.inr a0)), some (.inr (.inr a1)), some (.inl v3_11)] [] (0, 0) I_11 J Rf G
    unfold m_25_b11 at h
    refine go_iload_n (pc' := 12) rfl rfl rfl ?_
    refine go_aload_n (pc' := 13) rfl rfl rfl ?_
    obtain ⟨g0, h⟩ := o_gE h
    refine go_getI (pc' := 16) rfl rfl (by decide) (by decide) (o_kdE g0) rfl ?_
    refine go_icmp_ge (pt := 50) (pc' := 19) rfl rfl rfl (fun h16 => ?_) (fun h16 => ?_)
    · replace h := o_t h16 h
      exact ex11_50 _ (some (.inl v3_11)) (lp_exitE h hk11)
    · replace h := o_f h16 h
      refine go_aload_n (pc' := 20) rfl rfl rfl ?_
      refine go_aload_n (pc' := 21) rfl rfl rfl ?_
      refine go_getR (pc' := 24) rfl rfl (o_kdE g0) rfl ?_
      refine go_iload_n (pc' := 25) rfl rfl rfl ?_
      obtain ⟨g1, h⟩ := o_gE h
      refine go_iaload (pc' := 26) rfl (o_inK g1) (o_inB g1) rfl ?_
      obtain ⟨g2, h⟩ := o_gE h
      obtain ⟨r_26, q_26, h⟩ := o_b1E h
      refine go_callV (pc' := 29) (B' := (0, 0)) (st' := [.inl r_26]) rfl rfl (Or.inl (by decide)) rfl rfl (o_kdE g2) (md_73 (by omega) (o_kdE g2) q_26) rfl rfl rfl ?_
      refine go_if_eq (pt := 44) (pc' := 32) rfl rfl rfl (fun h29 => ?_) (fun h29 => ?_)
      · replace h := o_t h29 h
        obtain ⟨x3_44, ex3_44, h⟩ := o_b1E h
        refine go_iincE (pc' := 47) rfl rfl (y := (nI 1)) rfl ex3_44 (lo' := [some (.inr (.inr th)), some (.inr (.inr a0)), some (.inr (.inr a1)), some (.inl x3_44)]) rfl rfl ?_
        refine go_goto (pc' := 11) rfl rfl ?_
        exact (lp_backE h hk11 :)
      · replace h := o_f h29 h
        refine go_aload_n (pc' := 33) rfl rfl rfl ?_
        refine go_getR (pc' := 36) rfl rfl hth rfl ?_
        refine go_aload_n (pc' := 37) rfl rfl rfl ?_
        refine go_getR (pc' := 40) rfl rfl (o_kdE g0) rfl ?_
        refine go_iload_n (pc' := 41) rfl rfl rfl ?_
        obtain ⟨g3, h⟩ := o_gE h
        refine go_iaload (pc' := 42) rfl (o_inK g3) (o_inB g3) rfl ?_
        refine go_iconst (pc' := 43) (v := (nI 0)) rfl rfl rfl ?_
        obtain ⟨g4, h⟩ := o_gE h
        obtain ⟨I_43, eI_43, h⟩ := o_b1E h
        refine go_iastore (pc' := 44) rfl (o_inK g4) (o_inB g4) rfl ?_
        refine go_ndMI eI_43 ?_
        obtain ⟨x3_44, ex3_44, h⟩ := o_b1E h
        refine go_iincE (pc' := 47) rfl rfl (y := (nI 1)) rfl ex3_44 (lo' := [some (.inr (.inr th)), some (.inr (.inr a0)), some (.inr (.inr a1)), some (.inl x3_44)]) rfl rfl ?_
        refine go_goto (pc' := 11) rfl rfl ?_
        exact (lp_backE h hk11 :))
  exact lo11 _ ((nI 0), I_6) hl11 
/-- PricedBases$Valuation.<init>()V -/
def m_78 (th : Nat) (I : ai_I) (Rf : ai_R) (G : ai_G) : Option (ai_I × ai_R × ai_G) :=
  o_g (o_nn th) (o_g (o_lt9 G) (o_b1 (some (va_up I (G.2.2 + 1) (fun _ => 0))) (fun I_8 => o_b1 (some (va_up G.1 (G.2.2 + 1) 13, va_up G.2.1 (G.2.2 + 1) 256, G.2.2 + 1)) (fun G_8 => o_b1 (some (G.2.2 + 1)) (fun n_8 => o_g (o_kd G_8 th 8) (o_b1 (some (va_up Rf th (va_up (Rf th) 3 n_8))) (fun R_10 => o_g (o_lt9 G_8) (o_b1 (some (va_up I_8 (G_8.2.2 + 1) (fun _ => 0))) (fun I_17 => o_b1 (some (va_up G_8.1 (G_8.2.2 + 1) 13, va_up G_8.2.1 (G_8.2.2 + 1) 256, G_8.2.2 + 1)) (fun G_17 => o_b1 (some (G_8.2.2 + 1)) (fun n_17 => o_g (o_kd G_17 th 8) (o_b1 (some (va_up R_10 th (va_up (R_10 th) 4 n_17))) (fun R_19 => o_g (o_lt9 G_17) (o_b1 (some (va_up I_17 (G_17.2.2 + 1) (fun _ => 0))) (fun I_25 => o_b1 (some (va_up G_17.1 (G_17.2.2 + 1) 13, va_up G_17.2.1 (G_17.2.2 + 1) 70, G_17.2.2 + 1)) (fun G_25 => o_b1 (some (G_17.2.2 + 1)) (fun n_25 => o_g (o_kd G_25 th 8) (o_b1 (some (va_up R_19 th (va_up (R_19 th) 5 n_25))) (fun R_27 => some (I_25, R_27, G_25))))))))))))))))))))
theorem md_78 {d : Nat} {I : ai_I} {J : ai_J} {Rf : ai_R} {G : ai_G} {th : Nat} {I1 : ai_I} {R1 : ai_R} {G1 : ai_G} (hd : 1 ≤ d) (hth : G.1 th = 8) (h : m_78 th I Rf G = some (I1, R1, G1)) : ai_Cl si_t si_ms d 78 [.inr (.inr th)] I J Rf G none I1 J R1 G1 := by
  obtain ⟨e, rfl⟩ : ∃ e, d = e + 1 := ⟨d - 1, by omega⟩
  unfold m_78 at h
  refine sp_in (lo := [some (.inr (.inr th))]) (B := (3, 582)) rfl (Nat.le_of_ble_eq_true rfl) rfl rfl ?_
  refine go_aload_n (pc' := 1) rfl rfl rfl ?_
  obtain ⟨g0, h⟩ := o_gE h
  refine go_obj (pc' := 4) rfl rfl (o_nnE g0) (Nat.le_of_ble_eq_true rfl) rfl ?_
  refine go_aload_n (pc' := 5) rfl rfl rfl ?_
  refine go_sipush (pc' := 8) (v := (nI 256)) rfl rfl rfl ?_
  obtain ⟨g1, h⟩ := o_gE h
  refine go_newI (pc' := 10) (N := 256) rfl (by decide) (by decide) (by decide) (by decide) (by decide) (o_lt9E g1) rfl ?_
  obtain ⟨I_8, eI_8, h⟩ := o_b1E h
  obtain ⟨G_8, eG_8, h⟩ := o_b1E h
  obtain ⟨n_8, en_8, h⟩ := o_b1E h
  refine go_ndMI eI_8 ?_
  refine go_ndMG eG_8 ?_
  refine go_ndR en_8 ?_
  refine go_ndB (B' := (2, 326)) rfl ?_
  obtain ⟨g2, h⟩ := o_gE h
  obtain ⟨R_10, eR_10, h⟩ := o_b1E h
  refine go_putR (pc' := 13) rfl rfl (fun _ => ⟨rfl, rfl⟩) (o_kdE g2) rfl ?_
  refine go_ndMR eR_10 ?_
  refine go_aload_n (pc' := 14) rfl rfl rfl ?_
  refine go_sipush (pc' := 17) (v := (nI 256)) rfl rfl rfl ?_
  obtain ⟨g3, h⟩ := o_gE h
  refine go_newI (pc' := 19) (N := 256) rfl (by decide) (by decide) (by decide) (by decide) (by decide) (o_lt9E g3) rfl ?_
  obtain ⟨I_17, eI_17, h⟩ := o_b1E h
  obtain ⟨G_17, eG_17, h⟩ := o_b1E h
  obtain ⟨n_17, en_17, h⟩ := o_b1E h
  refine go_ndMI eI_17 ?_
  refine go_ndMG eG_17 ?_
  refine go_ndR en_17 ?_
  refine go_ndB (B' := (1, 70)) rfl ?_
  obtain ⟨g4, h⟩ := o_gE h
  obtain ⟨R_19, eR_19, h⟩ := o_b1E h
  refine go_putR (pc' := 22) rfl rfl (fun _ => ⟨rfl, rfl⟩) (o_kdE g4) rfl ?_
  refine go_ndMR eR_19 ?_
  refine go_aload_n (pc' := 23) rfl rfl rfl ?_
  refine go_bipush (pc' := 25) (v := (nI 70)) rfl rfl rfl ?_
  obtain ⟨g5, h⟩ := o_gE h
  refine go_newI (pc' := 27) (N := 70) rfl (by decide) (by decide) (by decide) (by decide) (by decide) (o_lt9E g5) rfl ?_
  obtain ⟨I_25, eI_25, h⟩ := o_b1E h
  obtain ⟨G_25, eG_25, h⟩ := o_b1E h
  obtain ⟨n_25, en_25, h⟩ := o_b1E h
  refine go_ndMI eI_25 ?_
  refine go_ndMG eG_25 ?_
  refine go_ndR en_25 ?_
  refine go_ndB (B' := (0, 0)) rfl ?_
  obtain ⟨g6, h⟩ := o_gE h
  obtain ⟨R_27, eR_27, h⟩ := o_b1E h
  refine go_putR (pc' := 30) rfl rfl (fun _ => ⟨rfl, rfl⟩) (o_kdE g6) rfl ?_
  refine go_ndMR eR_27 ?_
  cases h
  exact go_vret rfl (rfl) ⟨rfl, rfl, rfl, rfl, rfl⟩
/-- PricedBases$Maker.<init>()V -/
def m_26 (th : Nat) (I : ai_I) (J : ai_J) (Rf : ai_R) (G : ai_G) : Option (ai_I × ai_J × ai_R × ai_G) :=
  o_g (o_nn th) (o_g (o_lt9 G) (o_b1 (some (va_up I (G.2.2 + 1) (fun _ => 0))) (fun I_5 => o_b1 (some (va_up J (G.2.2 + 1) (fun _ => 0))) (fun J_5 => o_b1 (some (va_up Rf (G.2.2 + 1) (fun _ => 0))) (fun R_5 => o_b1 (some (va_up G.1 (G.2.2 + 1) 8, G.2.1, G.2.2 + 1)) (fun G_5 => o_b1 (some (G.2.2 + 1)) (fun n_5 => o_b3 (m_78 n_5 I_5 R_5 G_5) (fun I_9 R_9 G_9 => o_g (o_kd G_9 th 3) (o_b1 (some (va_up R_9 th (va_up (R_9 th) 0 n_5))) (fun R_12 => o_g (o_lt9 G_9) (o_b1 (some (va_up I_9 (G_9.2.2 + 1) (fun _ => 0))) (fun I_19 => o_b1 (some (va_up G_9.1 (G_9.2.2 + 1) 13, va_up G_9.2.1 (G_9.2.2 + 1) 256, G_9.2.2 + 1)) (fun G_19 => o_b1 (some (G_9.2.2 + 1)) (fun n_19 => o_g (o_kd G_19 th 3) (o_b1 (some (va_up R_12 th (va_up (R_12 th) 1 n_19))) (fun R_21 => some (I_19, J_5, R_21, G_19)))))))))))))))))
theorem md_26 {d : Nat} {I : ai_I} {J : ai_J} {Rf : ai_R} {G : ai_G} {th : Nat} {I1 : ai_I} {J1 : ai_J} {R1 : ai_R} {G1 : ai_G} (hd : 2 ≤ d) (hth : G.1 th = 3) (h : m_26 th I J Rf G = some (I1, J1, R1, G1)) : ai_Cl si_t si_ms d 26 [.inr (.inr th)] I J Rf G none I1 J1 R1 G1 := by
  obtain ⟨e, rfl⟩ : ∃ e, d = e + 1 := ⟨d - 1, by omega⟩
  unfold m_26 at h
  refine sp_in (lo := [some (.inr (.inr th))]) (B := (5, 844)) rfl (Nat.le_of_ble_eq_true rfl) rfl rfl ?_
  refine go_aload_n (pc' := 1) rfl rfl rfl ?_
  obtain ⟨g0, h⟩ := o_gE h
  refine go_obj (pc' := 4) rfl rfl (o_nnE g0) (Nat.le_of_ble_eq_true rfl) rfl ?_
  refine go_aload_n (pc' := 5) rfl rfl rfl ?_
  obtain ⟨g1, h⟩ := o_gE h
  refine go_new (pc' := 8) (q := 8) (nf := 6) rfl rfl rfl (by decide) (by decide) (o_lt9E g1) rfl ?_
  obtain ⟨I_5, eI_5, h⟩ := o_b1E h
  obtain ⟨J_5, eJ_5, h⟩ := o_b1E h
  obtain ⟨R_5, eR_5, h⟩ := o_b1E h
  obtain ⟨G_5, eG_5, h⟩ := o_b1E h
  obtain ⟨n_5, en_5, h⟩ := o_b1E h
  refine go_ndMI eI_5 ?_
  refine go_ndMJ eJ_5 ?_
  refine go_ndMR eR_5 ?_
  refine go_ndMG eG_5 ?_
  refine go_ndR en_5 ?_
  have gk_5 : G_5.1 n_5 = 8 := o_newK en_5 eG_5
  refine go_ndB (B' := (4, 838)) rfl ?_
  refine go_dupR (pc' := 9) rfl rfl ?_
  obtain ⟨I_9, R_9, G_9, q_9, h⟩ := o_b3E h
  refine go_callI (pc' := 12) (B' := (1, 256)) (st' := [.inr (.inr n_5), .inr (.inr th)]) rfl rfl (Or.inl (by decide)) rfl rfl gk_5 (md_78 (by omega) gk_5 q_9) rfl rfl rfl ?_
  obtain ⟨g2, h⟩ := o_gE h
  obtain ⟨R_12, eR_12, h⟩ := o_b1E h
  refine go_putR (pc' := 15) rfl rfl (fun _ => ⟨rfl, rfl⟩) (o_kdE g2) rfl ?_
  refine go_ndMR eR_12 ?_
  refine go_aload_n (pc' := 16) rfl rfl rfl ?_
  refine go_sipush (pc' := 19) (v := (nI 256)) rfl rfl rfl ?_
  obtain ⟨g3, h⟩ := o_gE h
  refine go_newI (pc' := 21) (N := 256) rfl (by decide) (by decide) (by decide) (by decide) (by decide) (o_lt9E g3) rfl ?_
  obtain ⟨I_19, eI_19, h⟩ := o_b1E h
  obtain ⟨G_19, eG_19, h⟩ := o_b1E h
  obtain ⟨n_19, en_19, h⟩ := o_b1E h
  refine go_ndMI eI_19 ?_
  refine go_ndMG eG_19 ?_
  refine go_ndR en_19 ?_
  refine go_ndB (B' := (0, 0)) rfl ?_
  obtain ⟨g4, h⟩ := o_gE h
  obtain ⟨R_21, eR_21, h⟩ := o_b1E h
  refine go_putR (pc' := 24) rfl rfl (fun _ => ⟨rfl, rfl⟩) (o_kdE g4) rfl ?_
  refine go_ndMR eR_21 ?_
  cases h
  exact go_vret rfl (rfl) ⟨rfl, rfl, rfl, rfl, rfl⟩
/-- PricedBases$Valuation.open(II)V -/
def m_79 (th : Nat) (a0 : Int32) (a1 : Int32) (I : ai_I) (Rf : ai_R) (G : ai_G) : Option (ai_I) :=
  o_b1 (some (va_up I th (va_up (I th) 0 a0))) (fun I_2 => o_b1 (some (va_up I_2 th (va_up (I_2 th) 1 a1))) (fun I_7 => o_b1 (some (va_up I_7 th (va_up (I_7 th) 2 (nI 0)))) (fun I_12 => o_b1 (m_116 (Rf th 3) (-2147483648 : Int32) I_12 G) (fun I_21 => some I_21))))
theorem md_79 {d : Nat} {I : ai_I} {J : ai_J} {Rf : ai_R} {G : ai_G} {th : Nat} {a0 : Int32} {a1 : Int32} {I1 : ai_I} (hd : 2 ≤ d) (hth : G.1 th = 8) (h : m_79 th a0 a1 I Rf G = some I1) : ai_Cl si_t si_ms d 79 [.inr (.inr th), .inl a0, .inl a1] I J Rf G none I1 J Rf G := by
  obtain ⟨e, rfl⟩ : ∃ e, d = e + 1 := ⟨d - 1, by omega⟩
  unfold m_79 at h
  refine sp_in (lo := [some (.inr (.inr th)), some (.inl a0), some (.inl a1)]) (B := (0, 0)) rfl (Nat.le_of_ble_eq_true rfl) rfl rfl ?_
  refine go_aload_n (pc' := 1) rfl rfl rfl ?_
  refine go_iload_n (pc' := 2) rfl rfl rfl ?_
  obtain ⟨I_2, eI_2, h⟩ := o_b1E h
  refine go_putI (pc' := 5) rfl rfl (fun h => by cases h) hth rfl ?_
  refine go_ndMI eI_2 ?_
  refine go_aload_n (pc' := 6) rfl rfl rfl ?_
  refine go_iload_n (pc' := 7) rfl rfl rfl ?_
  obtain ⟨I_7, eI_7, h⟩ := o_b1E h
  refine go_putI (pc' := 10) rfl rfl (fun h => by cases h) hth rfl ?_
  refine go_ndMI eI_7 ?_
  refine go_aload_n (pc' := 11) rfl rfl rfl ?_
  refine go_iconst (pc' := 12) (v := (nI 0)) rfl rfl rfl ?_
  obtain ⟨I_12, eI_12, h⟩ := o_b1E h
  refine go_putI (pc' := 15) rfl rfl (fun h => by cases h) hth rfl ?_
  refine go_ndMI eI_12 ?_
  refine go_aload_n (pc' := 16) rfl rfl rfl ?_
  refine go_getR (pc' := 19) rfl rfl hth rfl ?_
  refine go_ldc (pc' := 21) (v := .inl (-2147483648 : Int32)) rfl rfl rfl ?_
  obtain ⟨I_21, q_21, h⟩ := o_b1E h
  refine go_callS (pc' := 24) (B' := (0, 0)) (st' := []) rfl rfl (Or.inl (by decide)) rfl rfl trivial (md_116 (by omega) q_21) rfl rfl rfl ?_
  cases h
  exact go_vret rfl (rfl) ⟨rfl, rfl, rfl, rfl, rfl⟩
/-- PricedBases$Maker.isOpened(II)Z -/
def m_30 (th : Nat) (a0 : Int32) (a1 : Int32) (I : ai_I) (Rf : ai_R) (G : ai_G) : Option (Int32 × ai_I) :=
  if a0 < (nI 2) then (some ((nI 0), I)) else (if (nI 8) < a0 then (some ((nI 0), I)) else (if a1 < (nI 1) then (some ((nI 0), I)) else (if a1 ≤ (a0 - (nI 1)) then (o_g (o_kd G (Rf th 0) 8) (o_b1 (m_79 (Rf th 0) a0 a1 I Rf G) (fun I_31 => some ((nI 1), I_31)))) else (some ((nI 0), I)))))
theorem md_30 {d : Nat} {I : ai_I} {J : ai_J} {Rf : ai_R} {G : ai_G} {th : Nat} {a0 : Int32} {a1 : Int32} {r : Int32} {I1 : ai_I} (hd : 3 ≤ d) (hth : G.1 th = 3) (h : m_30 th a0 a1 I Rf G = some (r, I1)) : ai_Cl si_t si_ms d 30 [.inr (.inr th), .inl a0, .inl a1] I J Rf G (some (.inl r)) I1 J Rf G := by
  obtain ⟨e, rfl⟩ : ∃ e, d = e + 1 := ⟨d - 1, by omega⟩
  unfold m_30 at h
  refine sp_in (lo := [some (.inr (.inr th)), some (.inl a0), some (.inl a1)]) (B := (0, 0)) rfl (Nat.le_of_ble_eq_true rfl) rfl rfl ?_
  refine go_iload_n (pc' := 1) rfl rfl rfl ?_
  refine go_iconst (pc' := 2) (v := (nI 2)) rfl rfl rfl ?_
  refine go_icmp_lt (pt := 23) (pc' := 5) rfl rfl rfl (fun h2 => ?_) (fun h2 => ?_)
  · replace h := o_t h2 h
    refine go_iconst (pc' := 24) (v := (nI 0)) rfl rfl rfl ?_
    cases h
    exact go_iret rfl (rfl) ⟨rfl, rfl, rfl, rfl, rfl⟩
  · replace h := o_f h2 h
    refine go_iload_n (pc' := 6) rfl rfl rfl ?_
    refine go_bipush (pc' := 8) (v := (nI 8)) rfl rfl rfl ?_
    refine go_icmp_gt (pt := 23) (pc' := 11) rfl rfl rfl (fun h8 => ?_) (fun h8 => ?_)
    · replace h := o_t h8 h
      refine go_iconst (pc' := 24) (v := (nI 0)) rfl rfl rfl ?_
      cases h
      exact go_iret rfl (rfl) ⟨rfl, rfl, rfl, rfl, rfl⟩
    · replace h := o_f h8 h
      refine go_iload_n (pc' := 12) rfl rfl rfl ?_
      refine go_iconst (pc' := 13) (v := (nI 1)) rfl rfl rfl ?_
      refine go_icmp_lt (pt := 23) (pc' := 16) rfl rfl rfl (fun h13 => ?_) (fun h13 => ?_)
      · replace h := o_t h13 h
        refine go_iconst (pc' := 24) (v := (nI 0)) rfl rfl rfl ?_
        cases h
        exact go_iret rfl (rfl) ⟨rfl, rfl, rfl, rfl, rfl⟩
      · replace h := o_f h13 h
        refine go_iload_n (pc' := 17) rfl rfl rfl ?_
        refine go_iload_n (pc' := 18) rfl rfl rfl ?_
        refine go_iconst (pc' := 19) (v := (nI 1)) rfl rfl rfl ?_
        refine go_isub (pc' := 20) rfl rfl ?_
        refine go_icmp_le (pt := 25) (pc' := 23) rfl rfl rfl (fun h20 => ?_) (fun h20 => ?_)
        · replace h := o_t h20 h
          refine go_aload_n (pc' := 26) rfl rfl rfl ?_
          refine go_getR (pc' := 29) rfl rfl hth rfl ?_
          refine go_iload_n (pc' := 30) rfl rfl rfl ?_
          refine go_iload_n (pc' := 31) rfl rfl rfl ?_
          obtain ⟨g0, h⟩ := o_gE h
          obtain ⟨I_31, q_31, h⟩ := o_b1E h
          refine go_callV (pc' := 34) (B' := (0, 0)) (st' := []) rfl rfl (Or.inl (by decide)) rfl rfl (o_kdE g0) (md_79 (by omega) (o_kdE g0) q_31) rfl rfl rfl ?_
          refine go_iconst (pc' := 35) (v := (nI 1)) rfl rfl rfl ?_
          cases h
          exact go_iret rfl (rfl) ⟨rfl, rfl, rfl, rfl, rfl⟩
        · replace h := o_f h20 h
          refine go_iconst (pc' := 24) (v := (nI 0)) rfl rfl rfl ?_
          cases h
          exact go_iret rfl (rfl) ⟨rfl, rfl, rfl, rfl, rfl⟩
/-- PricedBases$Valuation.offer(II)V -/
def m_80 (th : Nat) (a0 : Int32) (a1 : Int32) (I : ai_I) (Rf : ai_R) (G : ai_G) : Option (ai_I) :=
  if a0 < 0 then (some I) else (if (nI 256) ≤ a0 then (some I) else (o_g (o_in G 13 (Rf th 3) a0) (o_b1 (some (if (I (Rf th 3) a0.toNatClampNeg) < a1 then a1 else (I (Rf th 3) a0.toNatClampNeg))) (fun r_23 => o_g (o_in G 13 (Rf th 3) a0) (o_b1 (some (va_up I (Rf th 3) (va_up (I (Rf th 3)) a0.toNatClampNeg r_23))) (fun I_26 => some I_26))))))
theorem md_80 {d : Nat} {I : ai_I} {J : ai_J} {Rf : ai_R} {G : ai_G} {th : Nat} {a0 : Int32} {a1 : Int32} {I1 : ai_I} (hd : 1 ≤ d) (hth : G.1 th = 8) (h : m_80 th a0 a1 I Rf G = some I1) : ai_Cl si_t si_ms d 80 [.inr (.inr th), .inl a0, .inl a1] I J Rf G none I1 J Rf G := by
  obtain ⟨e, rfl⟩ : ∃ e, d = e + 1 := ⟨d - 1, by omega⟩
  unfold m_80 at h
  refine sp_in (lo := [some (.inr (.inr th)), some (.inl a0), some (.inl a1)]) (B := (0, 0)) rfl (Nat.le_of_ble_eq_true rfl) rfl rfl ?_
  refine go_iload_n (pc' := 1) rfl rfl rfl ?_
  refine go_if_lt (pt := 27) (pc' := 4) rfl rfl rfl (fun h1 => ?_) (fun h1 => ?_)
  · replace h := o_t h1 h
    cases h
    exact go_vret rfl (rfl) ⟨rfl, rfl, rfl, rfl, rfl⟩
  · replace h := o_f h1 h
    refine go_iload_n (pc' := 5) rfl rfl rfl ?_
    refine go_sipush (pc' := 8) (v := (nI 256)) rfl rfl rfl ?_
    refine go_icmp_ge (pt := 27) (pc' := 11) rfl rfl rfl (fun h8 => ?_) (fun h8 => ?_)
    · replace h := o_t h8 h
      cases h
      exact go_vret rfl (rfl) ⟨rfl, rfl, rfl, rfl, rfl⟩
    · replace h := o_f h8 h
      refine go_aload_n (pc' := 12) rfl rfl rfl ?_
      refine go_getR (pc' := 15) rfl rfl hth rfl ?_
      refine go_iload_n (pc' := 16) rfl rfl rfl ?_
      refine go_aload_n (pc' := 17) rfl rfl rfl ?_
      refine go_getR (pc' := 20) rfl rfl hth rfl ?_
      refine go_iload_n (pc' := 21) rfl rfl rfl ?_
      obtain ⟨g0, h⟩ := o_gE h
      refine go_iaload (pc' := 22) rfl (o_inK g0) (o_inB g0) rfl ?_
      refine go_iload_n (pc' := 23) rfl rfl rfl ?_
      refine go_max (pc' := 26) rfl rfl (Nat.le_of_ble_eq_true rfl) rfl ?_
      obtain ⟨r_23, er_23, h⟩ := o_b1E h
      refine go_ndI er_23 ?_
      obtain ⟨g1, h⟩ := o_gE h
      obtain ⟨I_26, eI_26, h⟩ := o_b1E h
      refine go_iastore (pc' := 27) rfl (o_inK g1) (o_inB g1) rfl ?_
      refine go_ndMI eI_26 ?_
      cases h
      exact go_vret rfl (rfl) ⟨rfl, rfl, rfl, rfl, rfl⟩
/-- PricedBases$Valuation.sets()I -/
def m_85 (th : Nat) (I : ai_I) : Option (Int32) :=
  some ((nI 1) <<< ((I th 0) &&& 31))
theorem md_85 {d : Nat} {I : ai_I} {J : ai_J} {Rf : ai_R} {G : ai_G} {th : Nat} {r : Int32} (hd : 1 ≤ d) (hth : G.1 th = 8) (h : m_85 th I = some r) : ai_Cl si_t si_ms d 85 [.inr (.inr th)] I J Rf G (some (.inl r)) I J Rf G := by
  obtain ⟨e, rfl⟩ : ∃ e, d = e + 1 := ⟨d - 1, by omega⟩
  unfold m_85 at h
  refine sp_in (lo := [some (.inr (.inr th))]) (B := (0, 0)) rfl (Nat.le_of_ble_eq_true rfl) rfl rfl ?_
  refine go_iconst (pc' := 1) (v := (nI 1)) rfl rfl rfl ?_
  refine go_aload_n (pc' := 2) rfl rfl rfl ?_
  refine go_getI (pc' := 5) rfl rfl (by decide) (by decide) hth rfl ?_
  refine go_ishl (pc' := 6) rfl rfl ?_
  cases h
  exact go_iret rfl (trivial) ⟨rfl, rfl, rfl, rfl, rfl⟩
def m_32_x2_42 (Ix_42 : ai_I) : Option (ai_I) :=
  some Ix_42
def m_32_b2 (th : Nat) (Rf : ai_R) (G : ai_G) (v1_2 : Int32) (I_2 : ai_I) : Option ((Int32 × ai_I) ⊕ ai_I) :=
  o_g (o_kd G (Rf th 0) 8) (o_b1 (m_85 (Rf th 0) I_2) (fun r_7 => if r_7 ≤ v1_2 then (some (Sum.inr I_2)) else (o_b1 (m_115 v1_2) (fun r_14 => if r_14 = (I_2 (Rf th 0) 1) then (o_b1 (m_80 (Rf th 0) v1_2 (nI 0) I_2 Rf G) (fun I_33 => o_b1 (some (v1_2 + (nI 1))) (fun x1_36 => some (Sum.inl (x1_36, I_33))))) else (o_b1 (some (v1_2 + (nI 1))) (fun x1_36 => some (Sum.inl (x1_36, I_2))))))))
/-- PricedBases$Maker.makeUniform()V -/
def m_32 (th : Nat) (I : ai_I) (Rf : ai_R) (G : ai_G) : Option (ai_I) :=
  o_s1 (lp (fun s => m_32_b2 th Rf G s.1 s.2) o_N ((nI 0), I)) (fun t => m_32_x2_42 t)
theorem md_32 {d : Nat} {I : ai_I} {J : ai_J} {Rf : ai_R} {G : ai_G} {th : Nat} {I1 : ai_I} (hd : 2 ≤ d) (hth : G.1 th = 3) (h : m_32 th I Rf G = some I1) : ai_Cl si_t si_ms d 32 [.inr (.inr th)] I J Rf G none I1 J Rf G := by
  obtain ⟨e, rfl⟩ : ∃ e, d = e + 1 := ⟨d - 1, by omega⟩
  unfold m_32 at h
  refine sp_in (lo := [some (.inr (.inr th)), none]) (B := (0, 0)) rfl (Nat.le_of_ble_eq_true rfl) rfl rfl ?_
  refine go_iconst (pc' := 1) (v := (nI 0)) rfl rfl rfl ?_
  refine go_istore_n (pc' := 2) (lo' := [some (.inr (.inr th)), some (.inl (nI 0))]) rfl rfl rfl ?_
  obtain ⟨q2, hl2, hc2_42⟩ := o_s1E h
  have ex2_42 : ∀ (Ix_42 : ai_I) (z1_x42 : Option ai_V), Ix_42 = q2 → ai_Go si_t (3, false, 9, cd_32) (ai_Cl si_t si_ms e) (sp_Q none I1 J Rf G) 42 [some (.inr (.inr th)), z1_x42] [] (0, 0) Ix_42 J Rf G := by
    intro Ix_42 z1_x42 hq
    have h : m_32_x2_42 Ix_42 = some I1 := hc2_42 Ix_42 hq.symm
    unfold m_32_x2_42 at h
    cases h
    exact go_vret rfl (rfl) ⟨rfl, rfl, rfl, rfl, rfl⟩
  have lo2 : ∀ n s, lp (fun s => m_32_b2 th Rf G s.1 s.2) n s = some q2 → (fun s => ai_Go si_t (3, false, 9, cd_32) (ai_Cl si_t si_ms e) (sp_Q none I1 J Rf G) 2 [some (.inr (.inr th)), some (.inl s.1)] [] (0, 0) s.2 J Rf G) s := lp_go (fun s x2 hx hk2 => by
    obtain ⟨v1_2, I_2⟩ := s
    have h : m_32_b2 th Rf G v1_2 I_2 = some x2 := hx
    clear hx
    show ai_Go si_t (3, false, 9, cd_32) (ai_Cl si_t si_ms e) (sp_Q none I1 J Rf G) 2 [some (.inr (.inr th)), some (.inl v1_2)] [] (0, 0) I_2 J Rf G
    unfold m_32_b2 at h
    refine go_iload_n (pc' := 3) rfl rfl rfl ?_
    refine go_aload_n (pc' := 4) rfl rfl rfl ?_
    refine go_getR (pc' := 7) rfl rfl hth rfl ?_
    obtain ⟨g0, h⟩ := o_gE h
    obtain ⟨r_7, q_7, h⟩ := o_b1E h
    refine go_callV (pc' := 10) (B' := (0, 0)) (st' := [.inl r_7, .inl v1_2]) rfl rfl (Or.inl (by decide)) rfl rfl (o_kdE g0) (md_85 (by omega) (o_kdE g0) q_7) rfl rfl rfl ?_
    refine go_icmp_ge (pt := 42) (pc' := 13) rfl rfl rfl (fun h10 => ?_) (fun h10 => ?_)
    · replace h := o_t h10 h
      exact ex2_42 _ (some (.inl v1_2)) (lp_exitE h hk2)
    · replace h := o_f h10 h
      refine go_iload_n (pc' := 14) rfl rfl rfl ?_
      obtain ⟨r_14, q_14, h⟩ := o_b1E h
      refine go_callS (pc' := 17) (B' := (0, 0)) (st' := [.inl r_14]) rfl rfl (Or.inl (by decide)) rfl rfl trivial (md_115 (by omega) q_14) rfl rfl rfl ?_
      refine go_aload_n (pc' := 18) rfl rfl rfl ?_
      refine go_getR (pc' := 21) rfl rfl hth rfl ?_
      refine go_getI (pc' := 24) rfl rfl (by decide) (by decide) (o_kdE g0) rfl ?_
      refine go_icmp_ne (pt := 36) (pc' := 27) rfl rfl rfl (fun h24 => ?_) (fun h24 => ?_)
      · replace h := o_f h24 h
        obtain ⟨x1_36, ex1_36, h⟩ := o_b1E h
        refine go_iincE (pc' := 39) rfl rfl (y := (nI 1)) rfl ex1_36 (lo' := [some (.inr (.inr th)), some (.inl x1_36)]) rfl rfl ?_
        refine go_goto (pc' := 2) rfl rfl ?_
        exact (lp_backE h hk2 :)
      · replace h := o_t (Decidable.of_not_not h24) h
        refine go_aload_n (pc' := 28) rfl rfl rfl ?_
        refine go_getR (pc' := 31) rfl rfl hth rfl ?_
        refine go_iload_n (pc' := 32) rfl rfl rfl ?_
        refine go_iconst (pc' := 33) (v := (nI 0)) rfl rfl rfl ?_
        obtain ⟨I_33, q_33, h⟩ := o_b1E h
        refine go_callV (pc' := 36) (B' := (0, 0)) (st' := []) rfl rfl (Or.inl (by decide)) rfl rfl (o_kdE g0) (md_80 (by omega) (o_kdE g0) q_33) rfl rfl rfl ?_
        obtain ⟨x1_36, ex1_36, h⟩ := o_b1E h
        refine go_iincE (pc' := 39) rfl rfl (y := (nI 1)) rfl ex1_36 (lo' := [some (.inr (.inr th)), some (.inl x1_36)]) rfl rfl ?_
        refine go_goto (pc' := 2) rfl rfl ?_
        exact (lp_backE h hk2 :))
  exact lo2 _ ((nI 0), I) hl2 
def m_34_x7_73 (w5_73 : Int32) : Option (Int32) :=
  some w5_73
def m_34_b7 (th : Nat) (a0 : Int32) (a1 : Int32) (a2 : Nat) (a3 : Int32) (I : ai_I) (Rf : ai_R) (G : ai_G) (v5_7 : Int32) (v6_7 : Int32) : Option ((Int32 × Int32) ⊕ Int32) :=
  o_g (o_kd G (Rf th 0) 8) (if (I (Rf th 0) 0) ≤ v6_7 then (some (Sum.inr v5_7)) else (o_b1 (m_113 a0 v6_7) (fun r_22 => if r_22 = 0 then (o_b1 (some (v6_7 + (nI 1))) (fun x6_67 => some (Sum.inl (v5_7, x6_67)))) else (o_g (o_in G 13 (Rf th 1) (a0 ^^^ ((nI 1) <<< (v6_7 &&& 31)))) (o_g (o_kd G a2 0) (o_b1 (m_4 a2 a3 (((nI 3) + (a1 * (I (Rf th 0) 0))) + v6_7) I Rf G) (fun r_58 => o_b1 (some (if v5_7 < ((I (Rf th 1) (a0 ^^^ ((nI 1) <<< (v6_7 &&& 31))).toNatClampNeg) + r_58) then ((I (Rf th 1) (a0 ^^^ ((nI 1) <<< (v6_7 &&& 31))).toNatClampNeg) + r_58) else v5_7)) (fun r_62 => o_b1 (some (v6_7 + (nI 1))) (fun x6_67 => some (Sum.inl (r_62, x6_67)))))))))))
/-- PricedBases$Maker.bestMatch(IILPricedBases$Clauses;I)I -/
def m_34 (th : Nat) (a0 : Int32) (a1 : Int32) (a2 : Nat) (a3 : Int32) (I : ai_I) (Rf : ai_R) (G : ai_G) : Option (Int32) :=
  o_s1 (lp (fun s => m_34_b7 th a0 a1 a2 a3 I Rf G s.1 s.2) o_N ((-2147483648 : Int32), (nI 0))) (fun t => m_34_x7_73 t)
theorem md_34 {d : Nat} {I : ai_I} {J : ai_J} {Rf : ai_R} {G : ai_G} {th : Nat} {a0 : Int32} {a1 : Int32} {a2 : Nat} {a3 : Int32} {r : Int32} (hd : 2 ≤ d) (hth : G.1 th = 3) (h : m_34 th a0 a1 a2 a3 I Rf G = some r) : ai_Cl si_t si_ms d 34 [.inr (.inr th), .inl a0, .inl a1, .inr (.inr a2), .inl a3] I J Rf G (some (.inl r)) I J Rf G := by
  obtain ⟨e, rfl⟩ : ∃ e, d = e + 1 := ⟨d - 1, by omega⟩
  unfold m_34 at h
  refine sp_in (lo := [some (.inr (.inr th)), some (.inl a0), some (.inl a1), some (.inr (.inr a2)), some (.inl a3), none, none]) (B := (0, 0)) rfl (Nat.le_of_ble_eq_true rfl) rfl rfl ?_
  refine go_ldc (pc' := 2) (v := .inl (-2147483648 : Int32)) rfl rfl rfl ?_
  refine go_istore (pc' := 4) (lo' := [some (.inr (.inr th)), some (.inl a0), some (.inl a1), some (.inr (.inr a2)), some (.inl a3), some (.inl (-2147483648 : Int32)), none]) rfl rfl rfl ?_
  refine go_iconst (pc' := 5) (v := (nI 0)) rfl rfl rfl ?_
  refine go_istore (pc' := 7) (lo' := [some (.inr (.inr th)), some (.inl a0), some (.inl a1), some (.inr (.inr a2)), some (.inl a3), some (.inl (-2147483648 : Int32)), some (.inl (nI 0))]) rfl rfl rfl ?_
  obtain ⟨q7, hl7, hc7_73⟩ := o_s1E h
  have ex7_73 : ∀ (w5_73 : Int32) (z6_x73 : Option ai_V), w5_73 = q7 → ai_Go si_t (3, false, 0, cd_34) (ai_Cl si_t si_ms e) (sp_Q (some (.inl r)) I J Rf G) 73 [some (.inr (.inr th)), some (.inl a0), some (.inl a1), some (.inr (.inr a2)), some (.inl a3), some (.inl w5_73), z6_x73] [] (0, 0) I J Rf G := by
    intro w5_73 z6_x73 hq
    have h : m_34_x7_73 w5_73 = some r := hc7_73 w5_73 hq.symm
    unfold m_34_x7_73 at h
    refine go_iload (pc' := 75) rfl rfl rfl ?_
    cases h
    exact go_iret rfl (trivial) ⟨rfl, rfl, rfl, rfl, rfl⟩
  have lo7 : ∀ n s, lp (fun s => m_34_b7 th a0 a1 a2 a3 I Rf G s.1 s.2) n s = some q7 → (fun s => ai_Go si_t (3, false, 0, cd_34) (ai_Cl si_t si_ms e) (sp_Q (some (.inl r)) I J Rf G) 7 [some (.inr (.inr th)), some (.inl a0), some (.inl a1), some (.inr (.inr a2)), some (.inl a3), some (.inl s.1), some (.inl s.2)] [] (0, 0) I J Rf G) s := lp_go (fun s x7 hx hk7 => by
    obtain ⟨v5_7, v6_7⟩ := s
    have h : m_34_b7 th a0 a1 a2 a3 I Rf G v5_7 v6_7 = some x7 := hx
    clear hx
    show ai_Go si_t (3, false, 0, cd_34) (ai_Cl si_t si_ms e) (sp_Q (some (.inl r)) I J Rf G) 7 [some (.inr (.inr th)), some (.inl a0), some (.inl a1), some (.inr (.inr a2)), some (.inl a3), some (.inl v5_7), some (.inl v6_7)] [] (0, 0) I J Rf G
    unfold m_34_b7 at h
    refine go_iload (pc' := 9) rfl rfl rfl ?_
    refine go_aload_n (pc' := 10) rfl rfl rfl ?_
    refine go_getR (pc' := 13) rfl rfl hth rfl ?_
    obtain ⟨g0, h⟩ := o_gE h
    refine go_getI (pc' := 16) rfl rfl (by decide) (by decide) (o_kdE g0) rfl ?_
    refine go_icmp_ge (pt := 73) (pc' := 19) rfl rfl rfl (fun h16 => ?_) (fun h16 => ?_)
    · replace h := o_t h16 h
      exact ex7_73 _ (some (.inl v6_7)) (lp_exitE h hk7)
    · replace h := o_f h16 h
      refine go_iload_n (pc' := 20) rfl rfl rfl ?_
      refine go_iload (pc' := 22) rfl rfl rfl ?_
      obtain ⟨r_22, q_22, h⟩ := o_b1E h
      refine go_callS (pc' := 25) (B' := (0, 0)) (st' := [.inl r_22]) rfl rfl (Or.inl (by decide)) rfl rfl trivial (md_113 (by omega) q_22) rfl rfl rfl ?_
      refine go_if_eq (pt := 67) (pc' := 28) rfl rfl rfl (fun h25 => ?_) (fun h25 => ?_)
      · replace h := o_t h25 h
        obtain ⟨x6_67, ex6_67, h⟩ := o_b1E h
        refine go_iincE (pc' := 70) rfl rfl (y := (nI 1)) rfl ex6_67 (lo' := [some (.inr (.inr th)), some (.inl a0), some (.inl a1), some (.inr (.inr a2)), some (.inl a3), some (.inl v5_7), some (.inl x6_67)]) rfl rfl ?_
        refine go_goto (pc' := 7) rfl rfl ?_
        exact (lp_backE h hk7 :)
      · replace h := o_f h25 h
        refine go_iload (pc' := 30) rfl rfl rfl ?_
        refine go_aload_n (pc' := 31) rfl rfl rfl ?_
        refine go_getR (pc' := 34) rfl rfl hth rfl ?_
        refine go_iload_n (pc' := 35) rfl rfl rfl ?_
        refine go_iconst (pc' := 36) (v := (nI 1)) rfl rfl rfl ?_
        refine go_iload (pc' := 38) rfl rfl rfl ?_
        refine go_ishl (pc' := 39) rfl rfl ?_
        refine go_ixor (pc' := 40) rfl rfl ?_
        obtain ⟨g1, h⟩ := o_gE h
        refine go_iaload (pc' := 41) rfl (o_inK g1) (o_inB g1) rfl ?_
        refine go_aload_n (pc' := 42) rfl rfl rfl ?_
        refine go_iload (pc' := 44) rfl rfl rfl ?_
        refine go_iconst (pc' := 45) (v := (nI 3)) rfl rfl rfl ?_
        refine go_iload_n (pc' := 46) rfl rfl rfl ?_
        refine go_aload_n (pc' := 47) rfl rfl rfl ?_
        refine go_getR (pc' := 50) rfl rfl hth rfl ?_
        refine go_getI (pc' := 53) rfl rfl (by decide) (by decide) (o_kdE g0) rfl ?_
        refine go_imul (pc' := 54) rfl rfl ?_
        refine go_iadd (pc' := 55) rfl rfl ?_
        refine go_iload (pc' := 57) rfl rfl rfl ?_
        refine go_iadd (pc' := 58) rfl rfl ?_
        obtain ⟨g2, h⟩ := o_gE h
        obtain ⟨r_58, q_58, h⟩ := o_b1E h
        refine go_callV (pc' := 61) (B' := (0, 0)) (st' := [.inl r_58, .inl (I (Rf th 1) (a0 ^^^ ((nI 1) <<< (v6_7 &&& 31))).toNatClampNeg), .inl v5_7]) rfl rfl (Or.inl (by decide)) rfl rfl (o_kdE g2) (md_4 (by omega) (o_kdE g2) q_58) rfl rfl rfl ?_
        refine go_iadd (pc' := 62) rfl rfl ?_
        refine go_max (pc' := 65) rfl rfl (Nat.le_of_ble_eq_true rfl) rfl ?_
        obtain ⟨r_62, er_62, h⟩ := o_b1E h
        refine go_ndI er_62 ?_
        refine go_istore (pc' := 67) (lo' := [some (.inr (.inr th)), some (.inl a0), some (.inl a1), some (.inr (.inr a2)), some (.inl a3), some (.inl r_62), some (.inl v6_7)]) rfl rfl rfl ?_
        obtain ⟨x6_67, ex6_67, h⟩ := o_b1E h
        refine go_iincE (pc' := 70) rfl rfl (y := (nI 1)) rfl ex6_67 (lo' := [some (.inr (.inr th)), some (.inl a0), some (.inl a1), some (.inr (.inr a2)), some (.inl a3), some (.inl r_62), some (.inl x6_67)]) rfl rfl ?_
        refine go_goto (pc' := 7) rfl rfl ?_
        exact (lp_backE h hk7 :))
  exact lo7 _ ((-2147483648 : Int32), (nI 0)) hl7 
def m_33_x9_89 (Ix_89 : ai_I) : Option (ai_I) :=
  some Ix_89
def m_33_b9 (th : Nat) (a0 : Nat) (a1 : Int32) (Rf : ai_R) (G : ai_G) (v3_9 : Int32) (I_9 : ai_I) : Option ((Int32 × ai_I) ⊕ ai_I) :=
  o_g (o_kd G (Rf th 0) 8) (o_b1 (m_85 (Rf th 0) I_9) (fun r_14 => if r_14 ≤ v3_9 then (some (Sum.inr I_9)) else (o_b1 (m_115 v3_9) (fun r_21 => o_b1 (some (r_21 - (nI 1))) (fun x4_26 => if (I_9 (Rf th 0) 1) ≤ x4_26 then (o_b1 (some (v3_9 + (nI 1))) (fun x3_83 => some (Sum.inl (x3_83, I_9)))) else (o_b1 (m_34 th v3_9 x4_26 a0 a1 I_9 Rf G) (fun r_51 => o_g (o_in G 13 (Rf th 1) v3_9) (o_b1 (some (va_up I_9 (Rf th 1) (va_up (I_9 (Rf th 1)) v3_9.toNatClampNeg r_51))) (fun I_54 => if x4_26 = ((I_54 (Rf th 0) 1) - (nI 1)) then (o_g (o_in G 13 (Rf th 1) v3_9) (o_b1 (m_80 (Rf th 0) v3_9 (I_54 (Rf th 1) v3_9.toNatClampNeg) I_54 Rf G) (fun I_80 => o_b1 (some (v3_9 + (nI 1))) (fun x3_83 => some (Sum.inl (x3_83, I_80)))))) else (o_b1 (some (v3_9 + (nI 1))) (fun x3_83 => some (Sum.inl (x3_83, I_54)))))))))))))
/-- PricedBases$Maker.makeMatch(LPricedBases$Clauses;I)V -/
def m_33 (th : Nat) (a0 : Nat) (a1 : Int32) (I : ai_I) (Rf : ai_R) (G : ai_G) : Option (ai_I) :=
  o_g (o_in G 13 (Rf th 1) (nI 0)) (o_b1 (some (va_up I (Rf th 1) (va_up (I (Rf th 1)) (nI 0).toNatClampNeg (nI 0)))) (fun I_6 => o_s1 (lp (fun s => m_33_b9 th a0 a1 Rf G s.1 s.2) o_N ((nI 1), I_6)) (fun t => m_33_x9_89 t)))
theorem md_33 {d : Nat} {I : ai_I} {J : ai_J} {Rf : ai_R} {G : ai_G} {th : Nat} {a0 : Nat} {a1 : Int32} {I1 : ai_I} (hd : 3 ≤ d) (hth : G.1 th = 3) (h : m_33 th a0 a1 I Rf G = some I1) : ai_Cl si_t si_ms d 33 [.inr (.inr th), .inr (.inr a0), .inl a1] I J Rf G none I1 J Rf G := by
  obtain ⟨e, rfl⟩ : ∃ e, d = e + 1 := ⟨d - 1, by omega⟩
  unfold m_33 at h
  refine sp_in (lo := [some (.inr (.inr th)), some (.inr (.inr a0)), some (.inl a1), none, none]) (B := (0, 0)) rfl (Nat.le_of_ble_eq_true rfl) rfl rfl ?_
  refine go_aload_n (pc' := 1) rfl rfl rfl ?_
  refine go_getR (pc' := 4) rfl rfl hth rfl ?_
  refine go_iconst (pc' := 5) (v := (nI 0)) rfl rfl rfl ?_
  refine go_iconst (pc' := 6) (v := (nI 0)) rfl rfl rfl ?_
  obtain ⟨g0, h⟩ := o_gE h
  obtain ⟨I_6, eI_6, h⟩ := o_b1E h
  refine go_iastore (pc' := 7) rfl (o_inK g0) (o_inB g0) rfl ?_
  refine go_ndMI eI_6 ?_
  refine go_iconst (pc' := 8) (v := (nI 1)) rfl rfl rfl ?_
  refine go_istore_n (pc' := 9) (lo' := [some (.inr (.inr th)), some (.inr (.inr a0)), some (.inl a1), some (.inl (nI 1)), none]) rfl rfl rfl ?_
  obtain ⟨q9, hl9, hc9_89⟩ := o_s1E h
  have ex9_89 : ∀ (Ix_89 : ai_I) (z3_x89 : Option ai_V) (z4_x89 : Option ai_V), Ix_89 = q9 → ai_Go si_t (3, false, 9, cd_33) (ai_Cl si_t si_ms e) (sp_Q none I1 J Rf G) 89 [some (.inr (.inr th)), some (.inr (.inr a0)), some (.inl a1), z3_x89, z4_x89] [] (0, 0) Ix_89 J Rf G := by
    intro Ix_89 z3_x89 z4_x89 hq
    have h : m_33_x9_89 Ix_89 = some I1 := hc9_89 Ix_89 hq.symm
    unfold m_33_x9_89 at h
    cases h
    exact go_vret rfl (rfl) ⟨rfl, rfl, rfl, rfl, rfl⟩
  have lo9 : ∀ n s, lp (fun s => m_33_b9 th a0 a1 Rf G s.1 s.2) n s = some q9 → (fun s => ∀ (z4_9 : Option ai_V), ai_Go si_t (3, false, 9, cd_33) (ai_Cl si_t si_ms e) (sp_Q none I1 J Rf G) 9 [some (.inr (.inr th)), some (.inr (.inr a0)), some (.inl a1), some (.inl s.1), z4_9] [] (0, 0) s.2 J Rf G) s := lp_go (fun s x9 hx hk9 => by
    obtain ⟨v3_9, I_9⟩ := s
    intro z4_9
    have h : m_33_b9 th a0 a1 Rf G v3_9 I_9 = some x9 := hx
    clear hx
    show ai_Go si_t (3, false, 9, cd_33) (ai_Cl si_t si_ms e) (sp_Q none I1 J Rf G) 9 [some (.inr (.inr th)), some (.inr (.inr a0)), some (.inl a1), some (.inl v3_9), z4_9] [] (0, 0) I_9 J Rf G
    unfold m_33_b9 at h
    refine go_iload_n (pc' := 10) rfl rfl rfl ?_
    refine go_aload_n (pc' := 11) rfl rfl rfl ?_
    refine go_getR (pc' := 14) rfl rfl hth rfl ?_
    obtain ⟨g1, h⟩ := o_gE h
    obtain ⟨r_14, q_14, h⟩ := o_b1E h
    refine go_callV (pc' := 17) (B' := (0, 0)) (st' := [.inl r_14, .inl v3_9]) rfl rfl (Or.inl (by decide)) rfl rfl (o_kdE g1) (md_85 (by omega) (o_kdE g1) q_14) rfl rfl rfl ?_
    refine go_icmp_ge (pt := 89) (pc' := 20) rfl rfl rfl (fun h17 => ?_) (fun h17 => ?_)
    · replace h := o_t h17 h
      exact ex9_89 _ (some (.inl v3_9)) z4_9 (lp_exitE h hk9)
    · replace h := o_f h17 h
      refine go_iload_n (pc' := 21) rfl rfl rfl ?_
      obtain ⟨r_21, q_21, h⟩ := o_b1E h
      refine go_callS (pc' := 24) (B' := (0, 0)) (st' := [.inl r_21]) rfl rfl (Or.inl (by decide)) rfl rfl trivial (md_115 (by omega) q_21) rfl rfl rfl ?_
      refine go_iconst (pc' := 25) (v := (nI 1)) rfl rfl rfl ?_
      refine go_isub (pc' := 26) rfl rfl ?_
      obtain ⟨x4_26, ex4_26, h⟩ := o_b1E h
      refine go_ndI ex4_26 ?_
      refine go_istore (pc' := 28) (lo' := [some (.inr (.inr th)), some (.inr (.inr a0)), some (.inl a1), some (.inl v3_9), some (.inl x4_26)]) rfl rfl rfl ?_
      refine go_iload (pc' := 30) rfl rfl rfl ?_
      refine go_aload_n (pc' := 31) rfl rfl rfl ?_
      refine go_getR (pc' := 34) rfl rfl hth rfl ?_
      refine go_getI (pc' := 37) rfl rfl (by decide) (by decide) (o_kdE g1) rfl ?_
      refine go_icmp_ge (pt := 83) (pc' := 40) rfl rfl rfl (fun h37 => ?_) (fun h37 => ?_)
      · replace h := o_t h37 h
        obtain ⟨x3_83, ex3_83, h⟩ := o_b1E h
        refine go_iincE (pc' := 86) rfl rfl (y := (nI 1)) rfl ex3_83 (lo' := [some (.inr (.inr th)), some (.inr (.inr a0)), some (.inl a1), some (.inl x3_83), some (.inl x4_26)]) rfl rfl ?_
        refine go_goto (pc' := 9) rfl rfl ?_
        exact (lp_backE h hk9 (some (.inl x4_26)) :)
      · replace h := o_f h37 h
        refine go_aload_n (pc' := 41) rfl rfl rfl ?_
        refine go_getR (pc' := 44) rfl rfl hth rfl ?_
        refine go_iload_n (pc' := 45) rfl rfl rfl ?_
        refine go_aload_n (pc' := 46) rfl rfl rfl ?_
        refine go_iload_n (pc' := 47) rfl rfl rfl ?_
        refine go_iload (pc' := 49) rfl rfl rfl ?_
        refine go_aload_n (pc' := 50) rfl rfl rfl ?_
        refine go_iload_n (pc' := 51) rfl rfl rfl ?_
        obtain ⟨r_51, q_51, h⟩ := o_b1E h
        refine go_callV (pc' := 54) (B' := (0, 0)) (st' := [.inl r_51, .inl v3_9, .inr (.inr (Rf th 1))]) rfl rfl (Or.inl (by decide)) rfl rfl hth (md_34 (by omega) hth q_51) rfl rfl rfl ?_
        obtain ⟨g2, h⟩ := o_gE h
        obtain ⟨I_54, eI_54, h⟩ := o_b1E h
        refine go_iastore (pc' := 55) rfl (o_inK g2) (o_inB g2) rfl ?_
        refine go_ndMI eI_54 ?_
        refine go_iload (pc' := 57) rfl rfl rfl ?_
        refine go_aload_n (pc' := 58) rfl rfl rfl ?_
        refine go_getR (pc' := 61) rfl rfl hth rfl ?_
        refine go_getI (pc' := 64) rfl rfl (by decide) (by decide) (o_kdE g1) rfl ?_
        refine go_iconst (pc' := 65) (v := (nI 1)) rfl rfl rfl ?_
        refine go_isub (pc' := 66) rfl rfl ?_
        refine go_icmp_ne (pt := 83) (pc' := 69) rfl rfl rfl (fun h66 => ?_) (fun h66 => ?_)
        · replace h := o_f h66 h
          obtain ⟨x3_83, ex3_83, h⟩ := o_b1E h
          refine go_iincE (pc' := 86) rfl rfl (y := (nI 1)) rfl ex3_83 (lo' := [some (.inr (.inr th)), some (.inr (.inr a0)), some (.inl a1), some (.inl x3_83), some (.inl x4_26)]) rfl rfl ?_
          refine go_goto (pc' := 9) rfl rfl ?_
          exact (lp_backE h hk9 (some (.inl x4_26)) :)
        · replace h := o_t (Decidable.of_not_not h66) h
          refine go_aload_n (pc' := 70) rfl rfl rfl ?_
          refine go_getR (pc' := 73) rfl rfl hth rfl ?_
          refine go_iload_n (pc' := 74) rfl rfl rfl ?_
          refine go_aload_n (pc' := 75) rfl rfl rfl ?_
          refine go_getR (pc' := 78) rfl rfl hth rfl ?_
          refine go_iload_n (pc' := 79) rfl rfl rfl ?_
          obtain ⟨g3, h⟩ := o_gE h
          refine go_iaload (pc' := 80) rfl (o_inK g3) (o_inB g3) rfl ?_
          obtain ⟨I_80, q_80, h⟩ := o_b1E h
          refine go_callV (pc' := 83) (B' := (0, 0)) (st' := []) rfl rfl (Or.inl (by decide)) rfl rfl (o_kdE g1) (md_80 (by omega) (o_kdE g1) q_80) rfl rfl rfl ?_
          obtain ⟨x3_83, ex3_83, h⟩ := o_b1E h
          refine go_iincE (pc' := 86) rfl rfl (y := (nI 1)) rfl ex3_83 (lo' := [some (.inr (.inr th)), some (.inr (.inr a0)), some (.inl a1), some (.inl x3_83), some (.inl x4_26)]) rfl rfl ?_
          refine go_goto (pc' := 9) rfl rfl ?_
          exact (lp_backE h hk9 (some (.inl x4_26)) :))
  exact lo9 _ ((nI 1), I_6) hl9 none
