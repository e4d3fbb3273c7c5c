/-! Models of methods and their proofs, piece 2. Printed by wip/whole/pr10.py. -/
def m_7_j146 (th : Nat) (Rf : ai_R) (G : ai_G) (I_146 : ai_I) : Option (ai_I) :=
  o_g (o_in G 13 (Rf th 6) (I_146 th 0)) (o_b1 (some (va_up I_146 (Rf th 6) (va_up (I_146 (Rf th 6)) (I_146 th 0).toNatClampNeg (I_146 th 8)))) (fun I_158 => o_b1 (m_6 th I_158 Rf G) (fun r_160 => if r_160 = (-1 : Int32) then (some I_158) else (o_b1 (m_6 th I_158 Rf G) (fun r_168 => if r_168 = (nI 59) then (some I_158) else (o_b1 (m_5 th (nI 1) (I_158 th 4) I_158) (fun I_182 => some I_182)))))))
/-- PricedBases$Clauses.readClause(I)V -/
def m_7 (th : Nat) (a0 : Int32) (I : ai_I) (Rf : ai_R) (G : ai_G) : Option (ai_I) :=
  o_g (o_in G 13 (Rf th 6) a0) (o_b1 (some (va_up I (Rf th 6) (va_up (I (Rf th 6)) a0.toNatClampNeg (I th 8)))) (fun I_9 => o_b2 (m_8 th I_9 Rf G) (fun r_16 I_16 => o_g (o_in G 13 (Rf th 5) a0) (o_b1 (some (va_up I_16 (Rf th 5) (va_up (I_16 (Rf th 5)) a0.toNatClampNeg r_16))) (fun I_19 => o_g (o_in G 13 (Rf th 5) a0) (if (I_19 (Rf th 5) a0.toNatClampNeg) = (-1 : Int32) then (some I_19) else (o_g (o_in G 13 (Rf th 5) a0) (o_b1 (m_11 th (I_19 (Rf th 5) a0.toNatClampNeg) I_19 Rf G) (fun I_38 => o_b1 (some (va_up I_38 th (va_up (I_38 th) 0 (a0 + (nI 1))))) (fun I_45 => o_g (o_in G 13 (Rf th 6) (I_45 th 0)) (o_b1 (some (va_up I_45 (Rf th 6) (va_up (I_45 (Rf th 6)) (I_45 th 0).toNatClampNeg (I_45 th 8)))) (fun I_60 => o_g (o_in G 13 (Rf th 5) a0) (if (I_60 (Rf th 5) a0.toNatClampNeg) = (nI 2) then (o_b1 (m_4 th a0 (nI 1) I_60 Rf G) (fun r_75 => o_b1 (m_4 th a0 (nI 2) I_60 Rf G) (fun r_81 => o_b1 (m_12 th (r_75 * r_81) I_60 Rf G) (fun I_85 => m_7_j146 th Rf G I_85)))) else (o_g (o_in G 13 (Rf th 5) a0) (if (I_60 (Rf th 5) a0.toNatClampNeg) = (nI 3) then (o_b1 (m_4 th a0 (nI 1) I_60 Rf G) (fun r_105 => o_b1 (m_4 th a0 (nI 2) I_60 Rf G) (fun r_111 => o_b1 (m_13 th r_105 r_111 I_60 Rf G) (fun I_114 => m_7_j146 th Rf G I_114)))) else (o_g (o_in G 13 (Rf th 5) a0) (if (I_60 (Rf th 5) a0.toNatClampNeg) = (nI 4) then (o_b1 (m_4 th a0 (nI 1) I_60 Rf G) (fun r_134 => o_b1 (m_4 th a0 (nI 2) I_60 Rf G) (fun r_140 => o_b1 (m_14 th r_134 r_140 I_60 Rf G) (fun I_143 => m_7_j146 th Rf G I_143)))) else (m_7_j146 th Rf G I_60))))))))))))))))))
set_option maxRecDepth 100000 in
theorem md_7 {d : Nat} {I : ai_I} {J : ai_J} {Rf : ai_R} {G : ai_G} {th : Nat} {a0 : Int32} {I1 : ai_I} (hd : 8 ≤ d) (hth : G.1 th = 0) (h : m_7 th a0 I Rf G = some I1) : ai_Cl si_t si_ms d 7 [.inr (.inr th), .inl a0] I J Rf G none I1 J Rf G := by
  obtain ⟨e, rfl⟩ : ∃ e, d = e + 1 := ⟨d - 1, by omega⟩
  unfold m_7 at h
  refine sp_in (lo := [some (.inr (.inr th)), some (.inl a0)]) (B := (0, 0)) rfl (Nat.le_of_ble_eq_true rfl) rfl rfl ?_
  refine go_aload_n (pc' := 1) rfl rfl rfl ?_
  refine go_getR (pc' := 4) rfl rfl hth rfl ?_
  refine go_iload_n (pc' := 5) rfl rfl rfl ?_
  refine go_aload_n (pc' := 6) rfl rfl rfl ?_
  refine go_getI (pc' := 9) rfl rfl (by decide) (by decide) hth rfl ?_
  obtain ⟨g0, h⟩ := o_gE h
  obtain ⟨I_9, eI_9, h⟩ := o_b1E h
  refine go_iastore (pc' := 10) rfl (o_inK g0) (o_inB g0) rfl ?_
  refine go_ndMI eI_9 ?_
  refine go_aload_n (pc' := 11) rfl rfl rfl ?_
  refine go_getR (pc' := 14) rfl rfl hth rfl ?_
  refine go_iload_n (pc' := 15) rfl rfl rfl ?_
  refine go_aload_n (pc' := 16) rfl rfl rfl ?_
  obtain ⟨r_16, I_16, q_16, h⟩ := o_b2E h
  refine go_callV (pc' := 19) (B' := (0, 0)) (st' := [.inl r_16, .inl a0, .inr (.inr (Rf th 5))]) rfl rfl (Or.inl (by decide)) rfl rfl hth (md_8 (by omega) hth q_16) rfl rfl rfl ?_
  obtain ⟨g1, h⟩ := o_gE h
  obtain ⟨I_19, eI_19, h⟩ := o_b1E h
  refine go_iastore (pc' := 20) rfl (o_inK g1) (o_inB g1) rfl ?_
  refine go_ndMI eI_19 ?_
  refine go_aload_n (pc' := 21) rfl rfl rfl ?_
  refine go_getR (pc' := 24) rfl rfl hth rfl ?_
  refine go_iload_n (pc' := 25) rfl rfl rfl ?_
  obtain ⟨g2, h⟩ := o_gE h
  refine go_iaload (pc' := 26) rfl (o_inK g2) (o_inB g2) rfl ?_
  refine go_iconst (pc' := 27) (v := (-1 : Int32)) rfl rfl rfl ?_
  refine go_icmp_ne (pt := 31) (pc' := 30) rfl rfl rfl (fun h27 => ?_) (fun h27 => ?_)
  · replace h := o_f h27 h
    refine go_aload_n (pc' := 32) rfl rfl rfl ?_
    refine go_aload_n (pc' := 33) rfl rfl rfl ?_
    refine go_getR (pc' := 36) rfl rfl hth rfl ?_
    refine go_iload_n (pc' := 37) rfl rfl rfl ?_
    obtain ⟨g3, h⟩ := o_gE h
    refine go_iaload (pc' := 38) rfl (o_inK g3) (o_inB g3) rfl ?_
    obtain ⟨I_38, q_38, h⟩ := o_b1E h
    refine go_callV (pc' := 41) (B' := (0, 0)) (st' := []) rfl rfl (Or.inl (by decide)) rfl rfl hth (md_11 (by omega) hth q_38) rfl rfl rfl ?_
    refine go_aload_n (pc' := 42) rfl rfl rfl ?_
    refine go_iload_n (pc' := 43) rfl rfl rfl ?_
    refine go_iconst (pc' := 44) (v := (nI 1)) rfl rfl rfl ?_
    refine go_iadd (pc' := 45) rfl rfl ?_
    obtain ⟨I_45, eI_45, h⟩ := o_b1E h
    refine go_putI (pc' := 48) rfl rfl (fun h => by cases h) hth rfl ?_
    refine go_ndMI eI_45 ?_
    refine go_aload_n (pc' := 49) rfl rfl rfl ?_
    refine go_getR (pc' := 52) rfl rfl hth rfl ?_
    refine go_aload_n (pc' := 53) rfl rfl rfl ?_
    refine go_getI (pc' := 56) rfl rfl (by decide) (by decide) hth rfl ?_
    refine go_aload_n (pc' := 57) rfl rfl rfl ?_
    refine go_getI (pc' := 60) rfl rfl (by decide) (by decide) hth rfl ?_
    obtain ⟨g4, h⟩ := o_gE h
    obtain ⟨I_60, eI_60, h⟩ := o_b1E h
    refine go_iastore (pc' := 61) rfl (o_inK g4) (o_inB g4) rfl ?_
    refine go_ndMI eI_60 ?_
    refine go_aload_n (pc' := 62) rfl rfl rfl ?_
    refine go_getR (pc' := 65) rfl rfl hth rfl ?_
    refine go_iload_n (pc' := 66) rfl rfl rfl ?_
    obtain ⟨g5, h⟩ := o_gE h
    refine go_iaload (pc' := 67) rfl (o_inK g5) (o_inB g5) rfl ?_
    refine go_iconst (pc' := 68) (v := (nI 2)) rfl rfl rfl ?_
    have jn146 : ∀ (I_146 : ai_I), m_7_j146 th Rf G I_146 = some I1 → ai_Go si_t (0, false, 9, cd_7) (ai_Cl si_t si_ms e) (sp_Q none I1 J Rf G) 146 [some (.inr (.inr th)), some (.inl a0)] [] (0, 0) I_146 J Rf G := by
      intro I_146 h
      unfold m_7_j146 at h
      refine go_aload_n (pc' := 147) rfl rfl rfl ?_
      refine go_getR (pc' := 150) rfl rfl hth rfl ?_
      refine go_aload_n (pc' := 151) rfl rfl rfl ?_
      refine go_getI (pc' := 154) rfl rfl (by decide) (by decide) hth rfl ?_
      refine go_aload_n (pc' := 155) rfl rfl rfl ?_
      refine go_getI (pc' := 158) rfl rfl (by decide) (by decide) hth rfl ?_
      obtain ⟨g6, h⟩ := o_gE h
      obtain ⟨I_158, eI_158, h⟩ := o_b1E h
      refine go_iastore (pc' := 159) rfl (o_inK g6) (o_inB g6) rfl ?_
      refine go_ndMI eI_158 ?_
      refine go_aload_n (pc' := 160) rfl rfl rfl ?_
      obtain ⟨r_160, q_160, h⟩ := o_b1E h
      refine go_callV (pc' := 163) (B' := (0, 0)) (st' := [.inl r_160]) rfl rfl (Or.inl (by decide)) rfl rfl hth (md_6 (by omega) hth q_160) rfl rfl rfl ?_
      refine go_iconst (pc' := 164) (v := (-1 : Int32)) rfl rfl rfl ?_
      refine go_icmp_eq (pt := 185) (pc' := 167) rfl rfl rfl (fun h164 => ?_) (fun h164 => ?_)
      · replace h := o_t h164 h
        cases h
        exact go_vret rfl (rfl) ⟨rfl, rfl, rfl, rfl, rfl⟩
      · replace h := o_f h164 h
        refine go_aload_n (pc' := 168) rfl rfl rfl ?_
        obtain ⟨r_168, q_168, h⟩ := o_b1E h
        refine go_callV (pc' := 171) (B' := (0, 0)) (st' := [.inl r_168]) rfl rfl (Or.inl (by decide)) rfl rfl hth (md_6 (by omega) hth q_168) rfl rfl rfl ?_
        refine go_bipush (pc' := 173) (v := (nI 59)) rfl rfl rfl ?_
        refine go_icmp_eq (pt := 185) (pc' := 176) rfl rfl rfl (fun h173 => ?_) (fun h173 => ?_)
        · replace h := o_t h173 h
          cases h
          exact go_vret rfl (rfl) ⟨rfl, rfl, rfl, rfl, rfl⟩
        · replace h := o_f h173 h
          refine go_aload_n (pc' := 177) rfl rfl rfl ?_
          refine go_iconst (pc' := 178) (v := (nI 1)) rfl rfl rfl ?_
          refine go_aload_n (pc' := 179) rfl rfl rfl ?_
          refine go_getI (pc' := 182) rfl rfl (by decide) (by decide) hth rfl ?_
          obtain ⟨I_182, q_182, h⟩ := o_b1E h
          refine go_callV (pc' := 185) (B' := (0, 0)) (st' := []) rfl rfl (Or.inl (by decide)) rfl rfl hth (md_5 (by omega) hth q_182) rfl rfl rfl ?_
          cases h
          exact go_vret rfl (rfl) ⟨rfl, rfl, rfl, rfl, rfl⟩
    refine go_icmp_ne (pt := 91) (pc' := 71) rfl rfl rfl (fun h68 => ?_) (fun h68 => ?_)
    · replace h := o_f h68 h
      refine go_aload_n (pc' := 92) rfl rfl rfl ?_
      refine go_getR (pc' := 95) rfl rfl hth rfl ?_
      refine go_iload_n (pc' := 96) rfl rfl rfl ?_
      obtain ⟨g7, h⟩ := o_gE h
      refine go_iaload (pc' := 97) rfl (o_inK g7) (o_inB g7) rfl ?_
      refine go_iconst (pc' := 98) (v := (nI 3)) rfl rfl rfl ?_
      refine go_icmp_ne (pt := 120) (pc' := 101) rfl rfl rfl (fun h98 => ?_) (fun h98 => ?_)
      · replace h := o_f h98 h
        refine go_aload_n (pc' := 121) rfl rfl rfl ?_
        refine go_getR (pc' := 124) rfl rfl hth rfl ?_
        refine go_iload_n (pc' := 125) rfl rfl rfl ?_
        obtain ⟨g8, h⟩ := o_gE h
        refine go_iaload (pc' := 126) rfl (o_inK g8) (o_inB g8) rfl ?_
        refine go_iconst (pc' := 127) (v := (nI 4)) rfl rfl rfl ?_
        refine go_icmp_ne (pt := 146) (pc' := 130) rfl rfl rfl (fun h127 => ?_) (fun h127 => ?_)
        · replace h := o_f h127 h
          exact jn146 I_60 h
        · replace h := o_t (Decidable.of_not_not h127) h
          refine go_aload_n (pc' := 131) rfl rfl rfl ?_
          refine go_aload_n (pc' := 132) rfl rfl rfl ?_
          refine go_iload_n (pc' := 133) rfl rfl rfl ?_
          refine go_iconst (pc' := 134) (v := (nI 1)) rfl rfl rfl ?_
          obtain ⟨r_134, q_134, h⟩ := o_b1E h
          refine go_callV (pc' := 137) (B' := (0, 0)) (st' := [.inl r_134, .inr (.inr th)]) rfl rfl (Or.inl (by decide)) rfl rfl hth (md_4 (by omega) hth q_134) rfl rfl rfl ?_
          refine go_aload_n (pc' := 138) rfl rfl rfl ?_
          refine go_iload_n (pc' := 139) rfl rfl rfl ?_
          refine go_iconst (pc' := 140) (v := (nI 2)) rfl rfl rfl ?_
          obtain ⟨r_140, q_140, h⟩ := o_b1E h
          refine go_callV (pc' := 143) (B' := (0, 0)) (st' := [.inl r_140, .inl r_134, .inr (.inr th)]) rfl rfl (Or.inl (by decide)) rfl rfl hth (md_4 (by omega) hth q_140) rfl rfl rfl ?_
          obtain ⟨I_143, q_143, h⟩ := o_b1E h
          refine go_callV (pc' := 146) (B' := (0, 0)) (st' := []) rfl rfl (Or.inl (by decide)) rfl rfl hth (md_14 (by omega) hth q_143) rfl rfl rfl ?_
          exact jn146 I_143 h
      · replace h := o_t (Decidable.of_not_not h98) h
        refine go_aload_n (pc' := 102) rfl rfl rfl ?_
        refine go_aload_n (pc' := 103) rfl rfl rfl ?_
        refine go_iload_n (pc' := 104) rfl rfl rfl ?_
        refine go_iconst (pc' := 105) (v := (nI 1)) rfl rfl rfl ?_
        obtain ⟨r_105, q_105, h⟩ := o_b1E h
        refine go_callV (pc' := 108) (B' := (0, 0)) (st' := [.inl r_105, .inr (.inr th)]) rfl rfl (Or.inl (by decide)) rfl rfl hth (md_4 (by omega) hth q_105) rfl rfl rfl ?_
        refine go_aload_n (pc' := 109) rfl rfl rfl ?_
        refine go_iload_n (pc' := 110) rfl rfl rfl ?_
        refine go_iconst (pc' := 111) (v := (nI 2)) rfl rfl rfl ?_
        obtain ⟨r_111, q_111, h⟩ := o_b1E h
        refine go_callV (pc' := 114) (B' := (0, 0)) (st' := [.inl r_111, .inl r_105, .inr (.inr th)]) rfl rfl (Or.inl (by decide)) rfl rfl hth (md_4 (by omega) hth q_111) rfl rfl rfl ?_
        obtain ⟨I_114, q_114, h⟩ := o_b1E h
        refine go_callV (pc' := 117) (B' := (0, 0)) (st' := []) rfl rfl (Or.inl (by decide)) rfl rfl hth (md_13 (by omega) hth q_114) rfl rfl rfl ?_
        refine go_goto (pc' := 146) rfl rfl ?_
        exact jn146 I_114 h
    · replace h := o_t (Decidable.of_not_not h68) h
      refine go_aload_n (pc' := 72) rfl rfl rfl ?_
      refine go_aload_n (pc' := 73) rfl rfl rfl ?_
      refine go_iload_n (pc' := 74) rfl rfl rfl ?_
      refine go_iconst (pc' := 75) (v := (nI 1)) rfl rfl rfl ?_
      obtain ⟨r_75, q_75, h⟩ := o_b1E h
      refine go_callV (pc' := 78) (B' := (0, 0)) (st' := [.inl r_75, .inr (.inr th)]) rfl rfl (Or.inl (by decide)) rfl rfl hth (md_4 (by omega) hth q_75) rfl rfl rfl ?_
      refine go_aload_n (pc' := 79) rfl rfl rfl ?_
      refine go_iload_n (pc' := 80) rfl rfl rfl ?_
      refine go_iconst (pc' := 81) (v := (nI 2)) rfl rfl rfl ?_
      obtain ⟨r_81, q_81, h⟩ := o_b1E h
      refine go_callV (pc' := 84) (B' := (0, 0)) (st' := [.inl r_81, .inl r_75, .inr (.inr th)]) rfl rfl (Or.inl (by decide)) rfl rfl hth (md_4 (by omega) hth q_81) rfl rfl rfl ?_
      refine go_imul (pc' := 85) rfl rfl ?_
      obtain ⟨I_85, q_85, h⟩ := o_b1E h
      refine go_callV (pc' := 88) (B' := (0, 0)) (st' := []) rfl rfl (Or.inl (by decide)) rfl rfl hth (md_12 (by omega) hth q_85) rfl rfl rfl ?_
      refine go_goto (pc' := 146) rfl rfl ?_
      exact jn146 I_85 h
  · replace h := o_t (Decidable.of_not_not h27) h
    cases h
    exact go_vret rfl (rfl) ⟨rfl, rfl, rfl, rfl, rfl⟩
def m_1_x37_63 (R_2 : ai_R) (Ix_63 : ai_I) : Option (ai_I × ai_R) :=
  some (Ix_63, R_2)
def m_1_x37_80 (th : Nat) (R_2 : ai_R) (Ix_80 : ai_I) : Option (ai_I × ai_R) :=
  o_b1 (m_5 th (nI 4) (Ix_80 th 4) Ix_80) (fun I_86 => some (I_86, R_2))
def m_1_b37 (th : Nat) (G : ai_G) (R_2 : ai_R) (v3_37 : Int32) (I_37 : ai_I) : Option ((Int32 × ai_I) ⊕ (ai_I ⊕ ai_I)) :=
  if (nI 16) ≤ v3_37 then (some (Sum.inr (Sum.inr I_37))) else (if (I_37 th 1) = 0 then (o_b1 (m_7 th v3_37 I_37 R_2 G) (fun I_52 => o_b1 (m_6 th I_52 R_2 G) (fun r_56 => if r_56 = (-1 : Int32) then (some (Sum.inr (Sum.inl I_52))) else (o_b1 (some (va_up I_52 th (va_up (I_52 th) 4 ((I_52 th 4) + (nI 1))))) (fun I_71 => o_b1 (some (v3_37 + (nI 1))) (fun x3_74 => some (Sum.inl (x3_74, I_71)))))))) else (some (Sum.inr (Sum.inr I_37))))
/-- PricedBases$Clauses.read([II)V -/
def m_1 (th : Nat) (a0 : Nat) (a1 : Int32) (I : ai_I) (Rf : ai_R) (G : ai_G) : Option (ai_I × ai_R) :=
  o_b1 (some (va_up Rf th (va_up (Rf th) 2 a0))) (fun R_2 => o_g (o_al G a0) (o_b1 (some (if (Int32.ofNat (G.2.1 a0)) < a1 then (Int32.ofNat (G.2.1 a0)) else a1)) (fun r_9 => o_b1 (some (va_up I th (va_up (I th) 3 r_9))) (fun I_12 => o_b1 (some (va_up I_12 th (va_up (I_12 th) 4 (nI 0)))) (fun I_17 => o_b1 (some (va_up I_17 th (va_up (I_17 th) 0 (nI 0)))) (fun I_22 => o_b1 (some (va_up I_22 th (va_up (I_22 th) 8 (nI 0)))) (fun I_27 => o_b1 (some (va_up I_27 th (va_up (I_27 th) 1 (nI 0)))) (fun I_32 => o_s2 (lp (fun s => m_1_b37 th G R_2 s.1 s.2) o_N ((nI 0), I_32)) (fun t => m_1_x37_63 R_2 t) (fun t => m_1_x37_80 th R_2 t)))))))))
theorem md_1 {d : Nat} {I : ai_I} {J : ai_J} {Rf : ai_R} {G : ai_G} {th : Nat} {a0 : Nat} {a1 : Int32} {I1 : ai_I} {R1 : ai_R} (hd : 9 ≤ d) (hth : G.1 th = 0) (h : m_1 th a0 a1 I Rf G = some (I1, R1)) : ai_Cl si_t si_ms d 1 [.inr (.inr th), .inr (.inr a0), .inl a1] I J Rf G none I1 J R1 G := by
  obtain ⟨e, rfl⟩ : ∃ e, d = e + 1 := ⟨d - 1, by omega⟩
  unfold m_1 at h
  refine sp_in (lo := [some (.inr (.inr th)), some (.inr (.inr a0)), some (.inl a1), none]) (B := (0, 0)) rfl (Nat.le_of_ble_eq_true rfl) rfl rfl ?_
  refine go_aload_n (pc' := 1) rfl rfl rfl ?_
  refine go_aload_n (pc' := 2) rfl rfl rfl ?_
  obtain ⟨R_2, eR_2, h⟩ := o_b1E h
  refine go_putR (pc' := 5) rfl rfl (fun h => by cases h) hth rfl ?_
  refine go_ndMR eR_2 ?_
  refine go_aload_n (pc' := 6) rfl rfl rfl ?_
  refine go_iload_n (pc' := 7) rfl rfl rfl ?_
  refine go_aload_n (pc' := 8) rfl rfl rfl ?_
  obtain ⟨g0, h⟩ := o_gE h
  refine go_alen (pc' := 9) (n := G.2.1 a0) rfl (o_alE g0) rfl rfl ?_
  refine go_min (pc' := 12) rfl rfl (Nat.le_of_ble_eq_true rfl) rfl ?_
  obtain ⟨r_9, er_9, h⟩ := o_b1E h
  refine go_ndI er_9 ?_
  obtain ⟨I_12, eI_12, h⟩ := o_b1E h
  refine go_putI (pc' := 15) rfl rfl (fun h => by cases h) hth rfl ?_
  refine go_ndMI eI_12 ?_
  refine go_aload_n (pc' := 16) rfl rfl rfl ?_
  refine go_iconst (pc' := 17) (v := (nI 0)) rfl rfl rfl ?_
  obtain ⟨I_17, eI_17, h⟩ := o_b1E h
  refine go_putI (pc' := 20) rfl rfl (fun h => by cases h) hth rfl ?_
  refine go_ndMI eI_17 ?_
  refine go_aload_n (pc' := 21) rfl rfl rfl ?_
  refine go_iconst (pc' := 22) (v := (nI 0)) rfl rfl rfl ?_
  obtain ⟨I_22, eI_22, h⟩ := o_b1E h
  refine go_putI (pc' := 25) rfl rfl (fun h => by cases h) hth rfl ?_
  refine go_ndMI eI_22 ?_
  refine go_aload_n (pc' := 26) rfl rfl rfl ?_
  refine go_iconst (pc' := 27) (v := (nI 0)) rfl rfl rfl ?_
  obtain ⟨I_27, eI_27, h⟩ := o_b1E h
  refine go_putI (pc' := 30) rfl rfl (fun h => by cases h) hth rfl ?_
  refine go_ndMI eI_27 ?_
  refine go_aload_n (pc' := 31) rfl rfl rfl ?_
  refine go_iconst (pc' := 32) (v := (nI 0)) rfl rfl rfl ?_
  obtain ⟨I_32, eI_32, h⟩ := o_b1E h
  refine go_putI (pc' := 35) rfl rfl (fun h => by cases h) hth rfl ?_
  refine go_ndMI eI_32 ?_
  refine go_iconst (pc' := 36) (v := (nI 0)) rfl rfl rfl ?_
  refine go_istore_n (pc' := 37) (lo' := [some (.inr (.inr th)), some (.inr (.inr a0)), some (.inl a1), some (.inl (nI 0))]) rfl rfl rfl ?_
  obtain ⟨q37, hl37, hc37_63, hc37_80⟩ := o_s2E h
  have ex37_63 : ∀ (Ix_63 : ai_I) (z3_x63 : Option ai_V), (Sum.inl Ix_63) = q37 → ai_Go si_t (0, false, 9, cd_1) (ai_Cl si_t si_ms e) (sp_Q none I1 J R1 G) 63 [some (.inr (.inr th)), some (.inr (.inr a0)), some (.inl a1), z3_x63] [] (0, 0) Ix_63 J R_2 G := by
    intro Ix_63 z3_x63 hq
    have h : m_1_x37_63 R_2 Ix_63 = some (I1, R1) := hc37_63 Ix_63 hq.symm
    unfold m_1_x37_63 at h
    cases h
    exact go_vret rfl (rfl) ⟨rfl, rfl, rfl, rfl, rfl⟩
  have ex37_80 : ∀ (Ix_80 : ai_I) (z3_x80 : Option ai_V), (Sum.inr Ix_80) = q37 → ai_Go si_t (0, false, 9, cd_1) (ai_Cl si_t si_ms e) (sp_Q none I1 J R1 G) 80 [some (.inr (.inr th)), some (.inr (.inr a0)), some (.inl a1), z3_x80] [] (0, 0) Ix_80 J R_2 G := by
    intro Ix_80 z3_x80 hq
    have h : m_1_x37_80 th R_2 Ix_80 = some (I1, R1) := hc37_80 Ix_80 hq.symm
    unfold m_1_x37_80 at h
    refine go_aload_n (pc' := 81) rfl rfl rfl ?_
    refine go_iconst (pc' := 82) (v := (nI 4)) rfl rfl rfl ?_
    refine go_aload_n (pc' := 83) rfl rfl rfl ?_
    refine go_getI (pc' := 86) rfl rfl (by decide) (by decide) hth rfl ?_
    obtain ⟨I_86, q_86, h⟩ := o_b1E h
    refine go_callV (pc' := 89) (B' := (0, 0)) (st' := []) rfl rfl (Or.inl (by decide)) rfl rfl hth (md_5 (by omega) hth q_86) rfl rfl rfl ?_
    cases h
    exact go_vret rfl (rfl) ⟨rfl, rfl, rfl, rfl, rfl⟩
  have lo37 : ∀ n s, lp (fun s => m_1_b37 th G R_2 s.1 s.2) n s = some q37 → (fun s => ai_Go si_t (0, false, 9, cd_1) (ai_Cl si_t si_ms e) (sp_Q none I1 J R1 G) 37 [some (.inr (.inr th)), some (.inr (.inr a0)), some (.inl a1), some (.inl s.1)] [] (0, 0) s.2 J R_2 G) s := lp_go (fun s x37 hx hk37 => by
    obtain ⟨v3_37, I_37⟩ := s
    have h : m_1_b37 th G R_2 v3_37 I_37 = some x37 := hx
    clear hx
    show ai_Go si_t (0, false, 9, cd_1) (ai_Cl si_t si_ms e) (sp_Q none I1 J R1 G) 37 [some (.inr (.inr th)), some (.inr (.inr a0)), some (.inl a1), some (.inl v3_37)] [] (0, 0) I_37 J R_2 G
    unfold m_1_b37 at h
    refine go_iload_n (pc' := 38) rfl rfl rfl ?_
    refine go_bipush (pc' := 40) (v := (nI 16)) rfl rfl rfl ?_
    refine go_icmp_ge (pt := 80) (pc' := 43) rfl rfl rfl (fun h40 => ?_) (fun h40 => ?_)
    · replace h := o_t h40 h
      exact ex37_80 _ (some (.inl v3_37)) (lp_exitE h hk37)
    · replace h := o_f h40 h
      refine go_aload_n (pc' := 44) rfl rfl rfl ?_
      refine go_getI (pc' := 47) rfl rfl (by decide) (by decide) hth rfl ?_
      refine go_if_ne (pt := 80) (pc' := 50) rfl rfl rfl (fun h47 => ?_) (fun h47 => ?_)
      · replace h := o_f h47 h
        exact ex37_80 _ (some (.inl v3_37)) (lp_exitE h hk37)
      · replace h := o_t (Decidable.of_not_not h47) h
        refine go_aload_n (pc' := 51) rfl rfl rfl ?_
        refine go_iload_n (pc' := 52) rfl rfl rfl ?_
        obtain ⟨I_52, q_52, h⟩ := o_b1E h
        refine go_callV (pc' := 55) (B' := (0, 0)) (st' := []) rfl rfl (Or.inl (by decide)) rfl rfl hth (md_7 (by omega) hth q_52) rfl rfl rfl ?_
        refine go_aload_n (pc' := 56) rfl rfl rfl ?_
        obtain ⟨r_56, q_56, h⟩ := o_b1E h
        refine go_callV (pc' := 59) (B' := (0, 0)) (st' := [.inl r_56]) rfl rfl (Or.inl (by decide)) rfl rfl hth (md_6 (by omega) hth q_56) rfl rfl rfl ?_
        refine go_iconst (pc' := 60) (v := (-1 : Int32)) rfl rfl rfl ?_
        refine go_icmp_ne (pt := 64) (pc' := 63) rfl rfl rfl (fun h60 => ?_) (fun h60 => ?_)
        · replace h := o_f h60 h
          refine go_aload_n (pc' := 65) rfl rfl rfl ?_
          refine go_dupR (pc' := 66) rfl rfl ?_
          refine go_getI (pc' := 69) rfl rfl (by decide) (by decide) hth rfl ?_
          refine go_iconst (pc' := 70) (v := (nI 1)) rfl rfl rfl ?_
          refine go_iadd (pc' := 71) rfl rfl ?_
          obtain ⟨I_71, eI_71, h⟩ := o_b1E h
          refine go_putI (pc' := 74) rfl rfl (fun h => by cases h) hth rfl ?_
          refine go_ndMI eI_71 ?_
          obtain ⟨x3_74, ex3_74, h⟩ := o_b1E h
          refine go_iincE (pc' := 77) rfl rfl (y := (nI 1)) rfl ex3_74 (lo' := [some (.inr (.inr th)), some (.inr (.inr a0)), some (.inl a1), some (.inl x3_74)]) rfl rfl ?_
          refine go_goto (pc' := 37) rfl rfl ?_
          exact (lp_backE h hk37 :)
        · replace h := o_t (Decidable.of_not_not h60) h
          exact ex37_63 _ (some (.inl v3_37)) (lp_exitE h hk37))
  exact lo37 _ ((nI 0), I_32) hl37 
/-- PricedBases$Clauses.kind(I)I -/
def m_2 (th : Nat) (a0 : Int32) (I : ai_I) (Rf : ai_R) (G : ai_G) : Option (Int32) :=
  if a0 < 0 then (some (-1 : Int32)) else (if (I th 0) ≤ a0 then (some (-1 : Int32)) else (o_g (o_in G 13 (Rf th 5) a0) (some (I (Rf th 5) a0.toNatClampNeg))))
theorem md_2 {d : Nat} {I : ai_I} {J : ai_J} {Rf : ai_R} {G : ai_G} {th : Nat} {a0 : Int32} {r : Int32} (hd : 1 ≤ d) (hth : G.1 th = 0) (h : m_2 th a0 I Rf G = some r) : ai_Cl si_t si_ms d 2 [.inr (.inr th), .inl a0] I J Rf G (some (.inl r)) I J Rf G := by
  obtain ⟨e, rfl⟩ : ∃ e, d = e + 1 := ⟨d - 1, by omega⟩
  unfold m_2 at h
  refine sp_in (lo := [some (.inr (.inr th)), some (.inl a0)]) (B := (0, 0)) rfl (Nat.le_of_ble_eq_true rfl) rfl rfl ?_
  refine go_iload_n (pc' := 1) rfl rfl rfl ?_
  refine go_if_lt (pt := 21) (pc' := 4) rfl rfl rfl (fun h1 => ?_) (fun h1 => ?_)
  · replace h := o_t h1 h
    refine go_iconst (pc' := 22) (v := (-1 : Int32)) rfl rfl rfl ?_
    cases h
    exact go_iret rfl (trivial) ⟨rfl, rfl, rfl, rfl, rfl⟩
  · replace h := o_f h1 h
    refine go_iload_n (pc' := 5) rfl rfl rfl ?_
    refine go_aload_n (pc' := 6) rfl rfl rfl ?_
    refine go_getI (pc' := 9) rfl rfl (by decide) (by decide) hth rfl ?_
    refine go_icmp_ge (pt := 21) (pc' := 12) rfl rfl rfl (fun h9 => ?_) (fun h9 => ?_)
    · replace h := o_t h9 h
      refine go_iconst (pc' := 22) (v := (-1 : Int32)) rfl rfl rfl ?_
      cases h
      exact go_iret rfl (trivial) ⟨rfl, rfl, rfl, rfl, rfl⟩
    · replace h := o_f h9 h
      refine go_aload_n (pc' := 13) rfl rfl rfl ?_
      refine go_getR (pc' := 16) rfl rfl hth rfl ?_
      refine go_iload_n (pc' := 17) rfl rfl rfl ?_
      obtain ⟨g0, h⟩ := o_gE h
      refine go_iaload (pc' := 18) rfl (o_inK g0) (o_inB g0) rfl ?_
      refine go_goto (pc' := 22) rfl rfl ?_
      cases h
      exact go_iret rfl (trivial) ⟨rfl, rfl, rfl, rfl, rfl⟩
/-- PricedBases$Clauses.howManyNumbers(I)I -/
def m_3 (th : Nat) (a0 : Int32) (I : ai_I) (Rf : ai_R) (G : ai_G) : Option (Int32) :=
  if a0 < 0 then (some (nI 0)) else (if (I th 0) ≤ a0 then (some (nI 0)) else (o_g (o_in G 13 (Rf th 6) (a0 + (nI 1))) (o_g (o_in G 13 (Rf th 6) a0) (some ((I (Rf th 6) (a0 + (nI 1)).toNatClampNeg) - (I (Rf th 6) a0.toNatClampNeg))))))
theorem md_3 {d : Nat} {I : ai_I} {J : ai_J} {Rf : ai_R} {G : ai_G} {th : Nat} {a0 : Int32} {r : Int32} (hd : 1 ≤ d) (hth : G.1 th = 0) (h : m_3 th a0 I Rf G = some r) : ai_Cl si_t si_ms d 3 [.inr (.inr th), .inl a0] I J Rf G (some (.inl r)) I J Rf G := by
  obtain ⟨e, rfl⟩ : ∃ e, d = e + 1 := ⟨d - 1, by omega⟩
  unfold m_3 at h
  refine sp_in (lo := [some (.inr (.inr th)), some (.inl a0)]) (B := (0, 0)) rfl (Nat.le_of_ble_eq_true rfl) rfl rfl ?_
  refine go_iload_n (pc' := 1) rfl rfl rfl ?_
  refine go_if_lt (pt := 30) (pc' := 4) rfl rfl rfl (fun h1 => ?_) (fun h1 => ?_)
  · replace h := o_t h1 h
    refine go_iconst (pc' := 31) (v := (nI 0)) rfl rfl rfl ?_
    cases h
    exact go_iret rfl (trivial) ⟨rfl, rfl, rfl, rfl, rfl⟩
  · replace h := o_f h1 h
    refine go_iload_n (pc' := 5) rfl rfl rfl ?_
    refine go_aload_n (pc' := 6) rfl rfl rfl ?_
    refine go_getI (pc' := 9) rfl rfl (by decide) (by decide) hth rfl ?_
    refine go_icmp_ge (pt := 30) (pc' := 12) rfl rfl rfl (fun h9 => ?_) (fun h9 => ?_)
    · replace h := o_t h9 h
      refine go_iconst (pc' := 31) (v := (nI 0)) rfl rfl rfl ?_
      cases h
      exact go_iret rfl (trivial) ⟨rfl, rfl, rfl, rfl, rfl⟩
    · replace h := o_f h9 h
      refine go_aload_n (pc' := 13) rfl rfl rfl ?_
      refine go_getR (pc' := 16) rfl rfl hth rfl ?_
      refine go_iload_n (pc' := 17) rfl rfl rfl ?_
      refine go_iconst (pc' := 18) (v := (nI 1)) rfl rfl rfl ?_
      refine go_iadd (pc' := 19) rfl rfl ?_
      obtain ⟨g0, h⟩ := o_gE h
      refine go_iaload (pc' := 20) rfl (o_inK g0) (o_inB g0) rfl ?_
      refine go_aload_n (pc' := 21) rfl rfl rfl ?_
      refine go_getR (pc' := 24) rfl rfl hth rfl ?_
      refine go_iload_n (pc' := 25) rfl rfl rfl ?_
      obtain ⟨g1, h⟩ := o_gE h
      refine go_iaload (pc' := 26) rfl (o_inK g1) (o_inB g1) rfl ?_
      refine go_isub (pc' := 27) rfl rfl ?_
      refine go_goto (pc' := 31) rfl rfl ?_
      cases h
      exact go_iret rfl (trivial) ⟨rfl, rfl, rfl, rfl, rfl⟩
/-- PricedBases$Clauses.write(I)V -/
def m_20 (th : Nat) (a0 : Int32) (I : ai_I) (Rf : ai_R) (G : ai_G) : Option (ai_I) :=
  if (nI 1024) ≤ (I th 10) then (some I) else (o_g (o_in G 12 (Rf th 9) (I th 10)) (o_b1 (some (va_up I (Rf th 9) (va_up (I (Rf th 9)) (I th 10).toNatClampNeg a0.toInt8.toInt32.toInt8.toInt32))) (fun I_20 => o_b1 (some (va_up I_20 th (va_up (I_20 th) 10 ((I_20 th 10) + (nI 1))))) (fun I_28 => some I_28))))
theorem md_20 {d : Nat} {I : ai_I} {J : ai_J} {Rf : ai_R} {G : ai_G} {th : Nat} {a0 : Int32} {I1 : ai_I} (hd : 1 ≤ d) (hth : G.1 th = 0) (h : m_20 th a0 I Rf G = some I1) : ai_Cl si_t si_ms d 20 [.inr (.inr th), .inl a0] I J Rf G none I1 J Rf G := by
  obtain ⟨e, rfl⟩ : ∃ e, d = e + 1 := ⟨d - 1, by omega⟩
  unfold m_20 at h
  refine sp_in (lo := [some (.inr (.inr th)), some (.inl a0)]) (B := (0, 0)) rfl (Nat.le_of_ble_eq_true rfl) rfl rfl ?_
  refine go_aload_n (pc' := 1) rfl rfl rfl ?_
  refine go_getI (pc' := 4) rfl rfl (by decide) (by decide) hth rfl ?_
  refine go_sipush (pc' := 7) (v := (nI 1024)) rfl rfl rfl ?_
  refine go_icmp_ge (pt := 31) (pc' := 10) rfl rfl rfl (fun h7 => ?_) (fun h7 => ?_)
  · replace h := o_t h7 h
    cases h
    exact go_vret rfl (rfl) ⟨rfl, rfl, rfl, rfl, rfl⟩
  · replace h := o_f h7 h
    refine go_aload_n (pc' := 11) rfl rfl rfl ?_
    refine go_getR (pc' := 14) rfl rfl hth rfl ?_
    refine go_aload_n (pc' := 15) rfl rfl rfl ?_
    refine go_getI (pc' := 18) rfl rfl (by decide) (by decide) hth rfl ?_
    refine go_iload_n (pc' := 19) rfl rfl rfl ?_
    refine go_i2b (pc' := 20) rfl rfl ?_
    obtain ⟨g0, h⟩ := o_gE h
    obtain ⟨I_20, eI_20, h⟩ := o_b1E h
    refine go_bastore (pc' := 21) rfl (o_inK g0) (o_inB g0) rfl ?_
    refine go_ndMI eI_20 ?_
    refine go_aload_n (pc' := 22) rfl rfl rfl ?_
    refine go_dupR (pc' := 23) rfl rfl ?_
    refine go_getI (pc' := 26) rfl rfl (by decide) (by decide) hth rfl ?_
    refine go_iconst (pc' := 27) (v := (nI 1)) rfl rfl rfl ?_
    refine go_iadd (pc' := 28) rfl rfl ?_
    obtain ⟨I_28, eI_28, h⟩ := o_b1E h
    refine go_putI (pc' := 31) rfl rfl (fun h => by cases h) hth rfl ?_
    refine go_ndMI eI_28 ?_
    cases h
    exact go_vret rfl (rfl) ⟨rfl, rfl, rfl, rfl, rfl⟩
def m_21_x24_59 (Ix_59 : ai_I) : Option (ai_I) :=
  some Ix_59
def m_21_j38 (th : Nat) (Rf : ai_R) (G : ai_G) (r_17 : Int32) (v3_24 : Int32) (I_24 : ai_I) : Option ((Int32 × ai_I) ⊕ ai_I) :=
  o_g (o_nzI v3_24) (o_b1 (m_20 th ((nI 48) + ((r_17 / v3_24) - (r_17 / v3_24) / (nI 10) * (nI 10))) I_24 Rf G) (fun I_48 => o_b1 (some (v3_24 / (nI 10))) (fun x3_55 => some (Sum.inl (x3_55, I_48)))))
def m_21_b24 (th : Nat) (Rf : ai_R) (G : ai_G) (r_17 : Int32) (v3_24 : Int32) (I_24 : ai_I) : Option ((Int32 × ai_I) ⊕ ai_I) :=
  if v3_24 ≤ 0 then (some (Sum.inr I_24)) else (if v3_24 = (nI 1) then (m_21_j38 th Rf G r_17 v3_24 I_24) else (if r_17 < v3_24 then (o_b1 (some (v3_24 / (nI 10))) (fun x3_55 => some (Sum.inl (x3_55, I_24)))) else (m_21_j38 th Rf G r_17 v3_24 I_24)))
def m_21_j16 (th : Nat) (a0 : Int32) (Rf : ai_R) (G : ai_G) (I_16 : ai_I) : Option (ai_I) :=
  o_b1 (some (if 0 ≤ a0 then a0 else 0 - a0)) (fun r_17 => o_s1 (lp (fun s => m_21_b24 th Rf G r_17 s.1 s.2) o_N ((nI 1000000), I_16)) (fun t => m_21_x24_59 t))
/-- PricedBases$Clauses.writeNumber(I)V -/
def m_21 (th : Nat) (a0 : Int32) (I : ai_I) (Rf : ai_R) (G : ai_G) : Option (ai_I) :=
  o_b1 (m_20 th (nI 32) I Rf G) (fun I_3 => if 0 ≤ a0 then (m_21_j16 th a0 Rf G I_3) else (o_b1 (m_20 th (nI 45) I_3 Rf G) (fun I_13 => m_21_j16 th a0 Rf G I_13)))
theorem md_21 {d : Nat} {I : ai_I} {J : ai_J} {Rf : ai_R} {G : ai_G} {th : Nat} {a0 : Int32} {I1 : ai_I} (hd : 2 ≤ d) (hth : G.1 th = 0) (h : m_21 th a0 I Rf G = some I1) : ai_Cl si_t si_ms d 21 [.inr (.inr th), .inl a0] I J Rf G none I1 J Rf G := by
  obtain ⟨e, rfl⟩ : ∃ e, d = e + 1 := ⟨d - 1, by omega⟩
  unfold m_21 at h
  refine sp_in (lo := [some (.inr (.inr th)), some (.inl a0), none, none]) (B := (0, 0)) rfl (Nat.le_of_ble_eq_true rfl) rfl rfl ?_
  refine go_aload_n (pc' := 1) rfl rfl rfl ?_
  refine go_bipush (pc' := 3) (v := (nI 32)) rfl rfl rfl ?_
  obtain ⟨I_3, q_3, h⟩ := o_b1E h
  refine go_callV (pc' := 6) (B' := (0, 0)) (st' := []) rfl rfl (Or.inl (by decide)) rfl rfl hth (md_20 (by omega) hth q_3) rfl rfl rfl ?_
  refine go_iload_n (pc' := 7) rfl rfl rfl ?_
  have jn16 : ∀ (I_16 : ai_I), m_21_j16 th a0 Rf G I_16 = some I1 → ai_Go si_t (0, false, 9, cd_21) (ai_Cl si_t si_ms e) (sp_Q none I1 J Rf G) 16 [some (.inr (.inr th)), some (.inl a0), none, none] [] (0, 0) I_16 J Rf G := by
    intro I_16 h
    unfold m_21_j16 at h
    refine go_iload_n (pc' := 17) rfl rfl rfl ?_
    refine go_abs (pc' := 20) rfl rfl (Nat.le_of_ble_eq_true rfl) rfl ?_
    obtain ⟨r_17, er_17, h⟩ := o_b1E h
    refine go_ndI er_17 ?_
    refine go_istore_n (pc' := 21) (lo' := [some (.inr (.inr th)), some (.inl a0), some (.inl r_17), none]) rfl rfl rfl ?_
    refine go_ldc (pc' := 23) (v := .inl (nI 1000000)) rfl rfl rfl ?_
    refine go_istore_n (pc' := 24) (lo' := [some (.inr (.inr th)), some (.inl a0), some (.inl r_17), some (.inl (nI 1000000))]) rfl rfl rfl ?_
    obtain ⟨q24, hl24, hc24_59⟩ := o_s1E h
    have ex24_59 : ∀ (Ix_59 : ai_I) (z3_x59 : Option ai_V), Ix_59 = q24 → ai_Go si_t (0, false, 9, cd_21) (ai_Cl si_t si_ms e) (sp_Q none I1 J Rf G) 59 [some (.inr (.inr th)), some (.inl a0), some (.inl r_17), z3_x59] [] (0, 0) Ix_59 J Rf G := by
      intro Ix_59 z3_x59 hq
      have h : m_21_x24_59 Ix_59 = some I1 := hc24_59 Ix_59 hq.symm
      unfold m_21_x24_59 at h
      cases h
      exact go_vret rfl (rfl) ⟨rfl, rfl, rfl, rfl, rfl⟩
    have lo24 : ∀ n s, lp (fun s => m_21_b24 th Rf G r_17 s.1 s.2) n s = some q24 → (fun s => ai_Go si_t (0, false, 9, cd_21) (ai_Cl si_t si_ms e) (sp_Q none I1 J Rf G) 24 [some (.inr (.inr th)), some (.inl a0), some (.inl r_17), some (.inl s.1)] [] (0, 0) s.2 J Rf G) s := lp_go (fun s x24 hx hk24 => by
      obtain ⟨v3_24, I_24⟩ := s
      have h : m_21_b24 th Rf G r_17 v3_24 I_24 = some x24 := hx
      clear hx
      show ai_Go si_t (0, false, 9, cd_21) (ai_Cl si_t si_ms e) (sp_Q none I1 J Rf G) 24 [some (.inr (.inr th)), some (.inl a0), some (.inl r_17), some (.inl v3_24)] [] (0, 0) I_24 J Rf G
      unfold m_21_b24 at h
      refine go_iload_n (pc' := 25) rfl rfl rfl ?_
      refine go_if_le (pt := 59) (pc' := 28) rfl rfl rfl (fun h25 => ?_) (fun h25 => ?_)
      · replace h := o_t h25 h
        exact ex24_59 _ (some (.inl v3_24)) (lp_exitE h hk24)
      · replace h := o_f h25 h
        refine go_iload_n (pc' := 29) rfl rfl rfl ?_
        refine go_iconst (pc' := 30) (v := (nI 1)) rfl rfl rfl ?_
        have jn38 : m_21_j38 th Rf G r_17 v3_24 I_24 = some x24 → ai_Go si_t (0, false, 9, cd_21) (ai_Cl si_t si_ms e) (sp_Q none I1 J Rf G) 38 [some (.inr (.inr th)), some (.inl a0), some (.inl r_17), some (.inl v3_24)] [] (0, 0) I_24 J Rf G := by
          intro h
          unfold m_21_j38 at h
          refine go_aload_n (pc' := 39) rfl rfl rfl ?_
          refine go_bipush (pc' := 41) (v := (nI 48)) rfl rfl rfl ?_
          refine go_iload_n (pc' := 42) rfl rfl rfl ?_
          refine go_iload_n (pc' := 43) rfl rfl rfl ?_
          obtain ⟨g0, h⟩ := o_gE h
          refine go_idiv (pc' := 44) rfl (o_nzIE g0) rfl ?_
          refine go_bipush (pc' := 46) (v := (nI 10)) rfl rfl rfl ?_
          refine go_irem (pc' := 47) rfl (by decide) rfl ?_
          refine go_iadd (pc' := 48) rfl rfl ?_
          obtain ⟨I_48, q_48, h⟩ := o_b1E h
          refine go_callV (pc' := 51) (B' := (0, 0)) (st' := []) rfl rfl (Or.inl (by decide)) rfl rfl hth (md_20 (by omega) hth q_48) rfl rfl rfl ?_
          refine go_iload_n (pc' := 52) rfl rfl rfl ?_
          refine go_bipush (pc' := 54) (v := (nI 10)) rfl rfl rfl ?_
          refine go_idiv (pc' := 55) rfl (by decide) rfl ?_
          obtain ⟨x3_55, ex3_55, h⟩ := o_b1E h
          refine go_ndI ex3_55 ?_
          refine go_istore_n (pc' := 56) (lo' := [some (.inr (.inr th)), some (.inl a0), some (.inl r_17), some (.inl x3_55)]) rfl rfl rfl ?_
          refine go_goto (pc' := 24) rfl rfl ?_
          exact (lp_backE h hk24 :)
        refine go_icmp_eq (pt := 38) (pc' := 33) rfl rfl rfl (fun h30 => ?_) (fun h30 => ?_)
        · replace h := o_t h30 h
          exact jn38  h
        · replace h := o_f h30 h
          refine go_iload_n (pc' := 34) rfl rfl rfl ?_
          refine go_iload_n (pc' := 35) rfl rfl rfl ?_
          refine go_icmp_lt (pt := 51) (pc' := 38) rfl rfl rfl (fun h35 => ?_) (fun h35 => ?_)
          · replace h := o_t h35 h
            refine go_iload_n (pc' := 52) rfl rfl rfl ?_
            refine go_bipush (pc' := 54) (v := (nI 10)) rfl rfl rfl ?_
            refine go_idiv (pc' := 55) rfl (by decide) rfl ?_
            obtain ⟨x3_55, ex3_55, h⟩ := o_b1E h
            refine go_ndI ex3_55 ?_
            refine go_istore_n (pc' := 56) (lo' := [some (.inr (.inr th)), some (.inl a0), some (.inl r_17), some (.inl x3_55)]) rfl rfl rfl ?_
            refine go_goto (pc' := 24) rfl rfl ?_
            exact (lp_backE h hk24 :)
          · replace h := o_f h35 h
            exact jn38  h)
    exact lo24 _ ((nI 1000000), I_16) hl24 
  refine go_if_ge (pt := 16) (pc' := 10) rfl rfl rfl (fun h7 => ?_) (fun h7 => ?_)
  · replace h := o_t h7 h
    exact jn16 I_3 h
  · replace h := o_f h7 h
    refine go_aload_n (pc' := 11) rfl rfl rfl ?_
    refine go_bipush (pc' := 13) (v := (nI 45)) rfl rfl rfl ?_
    obtain ⟨I_13, q_13, h⟩ := o_b1E h
    refine go_callV (pc' := 16) (B' := (0, 0)) (st' := []) rfl rfl (Or.inl (by decide)) rfl rfl hth (md_20 (by omega) hth q_13) rfl rfl rfl ?_
    exact jn16 I_13 h
def m_19_x62_104 (Ix_104 : ai_I) : Option (ai_I) :=
  some Ix_104
def m_19_b62 (th : Nat) (a0 : Nat) (Rf : ai_R) (G : ai_G) (v4_62 : Int32) (I_62 : ai_I) : Option ((Int32 × ai_I) ⊕ ai_I) :=
  if (I_62 a0 2) ≤ v4_62 then (some (Sum.inr I_62)) else (o_g (o_in G 13 (Rf a0 5) v4_62) (o_b1 (m_21 th (I_62 (Rf a0 5) v4_62.toNatClampNeg) I_62 Rf G) (fun I_79 => o_g (o_in G 13 (Rf a0 5) v4_62) (o_g (o_in G 13 (Rf a0 3) (I_79 (Rf a0 5) v4_62.toNatClampNeg)) (o_b1 (m_21 th (I_79 (Rf a0 3) (I_79 (Rf a0 5) v4_62.toNatClampNeg).toNatClampNeg) I_79 Rf G) (fun I_95 => o_b1 (some (v4_62 + (nI 1))) (fun x4_98 => some (Sum.inl (x4_98, I_95)))))))))
def m_19_x13_38 (th : Nat) (a0 : Nat) (a1 : Int32) (Rf : ai_R) (G : ai_G) (Ix_38 : ai_I) : Option (ai_I) :=
  o_b1 (m_21 th a1 Ix_38 Rf G) (fun I_40 => o_g (o_kd G a0 8) (o_b1 (m_21 th (I_40 a0 0) I_40 Rf G) (fun I_48 => o_b1 (m_21 th (I_48 a0 1) I_48 Rf G) (fun I_56 => o_s1 (lp (fun s => m_19_b62 th a0 Rf G s.1 s.2) o_N ((nI 0), I_56)) (fun t => m_19_x62_104 t)))))
def m_19_b13 (th : Nat) (Rf : ai_R) (G : ai_G) (r_6 : Nat) (v4_13 : Int32) (I_13 : ai_I) : Option ((Int32 × ai_I) ⊕ ai_I) :=
  o_b1 (o_sl r_6) (fun r_16 => if r_16 ≤ v4_13 then (some (Sum.inr I_13)) else (o_b1 (o_sc r_6 v4_13) (fun r_26 => o_b1 (m_20 th r_26 I_13 Rf G) (fun I_29 => o_b1 (some (v4_13 + (nI 1))) (fun x4_32 => some (Sum.inl (x4_32, I_29)))))))
/-- PricedBases$Clauses.tell(LPricedBases$Valuation;I)V -/
def m_19 (th : Nat) (a0 : Nat) (a1 : Int32) (I : ai_I) (Rf : ai_R) (G : ai_G) : Option (ai_I) :=
  o_b1 (some (va_up I th (va_up (I th) 10 (nI 0)))) (fun I_2 => o_b1 (m_10 (nI 4)) (fun r_6 => o_s1 (lp (fun s => m_19_b13 th Rf G r_6 s.1 s.2) o_N ((nI 0), I_2)) (fun t => m_19_x13_38 th a0 a1 Rf G t)))
theorem md_19 {d : Nat} {I : ai_I} {J : ai_J} {Rf : ai_R} {G : ai_G} {th : Nat} {a0 : Nat} {a1 : Int32} {I1 : ai_I} (hd : 6 ≤ d) (hth : G.1 th = 0) (h : m_19 th a0 a1 I Rf G = some I1) : ai_Cl si_t si_ms d 19 [.inr (.inr th), .inr (.inr a0), .inl a1] I J Rf G none I1 J Rf G := by
  obtain ⟨e, rfl⟩ : ∃ e, d = e + 1 := ⟨d - 1, by omega⟩
  unfold m_19 at h
  refine sp_in (lo := [some (.inr (.inr th)), some (.inr (.inr a0)), some (.inl a1), none, none]) (B := (0, 0)) rfl (Nat.le_of_ble_eq_true rfl) rfl rfl ?_
  refine go_aload_n (pc' := 1) rfl rfl rfl ?_
  refine go_iconst (pc' := 2) (v := (nI 0)) rfl rfl rfl ?_
  obtain ⟨I_2, eI_2, h⟩ := o_b1E h
  refine go_putI (pc' := 5) rfl rfl (fun h => by cases h) hth rfl ?_
  refine go_ndMI eI_2 ?_
  refine go_iconst (pc' := 6) (v := (nI 4)) rfl rfl rfl ?_
  obtain ⟨r_6, q_6, h⟩ := o_b1E h
  refine go_callS (pc' := 9) (B' := (0, 0)) (st' := [.inr (.inr r_6)]) rfl rfl (Or.inl (by decide)) rfl rfl trivial (md_10 (by omega) q_6) rfl rfl rfl ?_
  refine go_astore_n (pc' := 10) (lo' := [some (.inr (.inr th)), some (.inr (.inr a0)), some (.inl a1), some (.inr (.inr r_6)), none]) rfl rfl rfl ?_
  refine go_iconst (pc' := 11) (v := (nI 0)) rfl rfl rfl ?_
  refine go_istore (pc' := 13) (lo' := [some (.inr (.inr th)), some (.inr (.inr a0)), some (.inl a1), some (.inr (.inr r_6)), some (.inl (nI 0))]) rfl rfl rfl ?_
  obtain ⟨q13, hl13, hc13_38⟩ := o_s1E h
  have ex13_38 : ∀ (Ix_38 : ai_I) (z4_x38 : Option ai_V), Ix_38 = q13 → ai_Go si_t (0, false, 9, cd_19) (ai_Cl si_t si_ms e) (sp_Q none I1 J Rf G) 38 [some (.inr (.inr th)), some (.inr (.inr a0)), some (.inl a1), some (.inr (.inr r_6)), z4_x38] [] (0, 0) Ix_38 J Rf G := by
    intro Ix_38 z4_x38 hq
    have h : m_19_x13_38 th a0 a1 Rf G Ix_38 = some I1 := hc13_38 Ix_38 hq.symm
    unfold m_19_x13_38 at h
    refine go_aload_n (pc' := 39) rfl rfl rfl ?_
    refine go_iload_n (pc' := 40) rfl rfl rfl ?_
    obtain ⟨I_40, q_40, h⟩ := o_b1E h
    refine go_callV (pc' := 43) (B' := (0, 0)) (st' := []) rfl rfl (Or.inl (by decide)) rfl rfl hth (md_21 (by omega) hth q_40) rfl rfl rfl ?_
    refine go_aload_n (pc' := 44) rfl rfl rfl ?_
    refine go_aload_n (pc' := 45) rfl rfl rfl ?_
    obtain ⟨g0, h⟩ := o_gE h
    refine go_getI (pc' := 48) rfl rfl (by decide) (by decide) (o_kdE g0) rfl ?_
    obtain ⟨I_48, q_48, h⟩ := o_b1E h
    refine go_callV (pc' := 51) (B' := (0, 0)) (st' := []) rfl rfl (Or.inl (by decide)) rfl rfl hth (md_21 (by omega) hth q_48) rfl rfl rfl ?_
    refine go_aload_n (pc' := 52) rfl rfl rfl ?_
    refine go_aload_n (pc' := 53) rfl rfl rfl ?_
    refine go_getI (pc' := 56) rfl rfl (by decide) (by decide) (o_kdE g0) rfl ?_
    obtain ⟨I_56, q_56, h⟩ := o_b1E h
    refine go_callV (pc' := 59) (B' := (0, 0)) (st' := []) rfl rfl (Or.inl (by decide)) rfl rfl hth (md_21 (by omega) hth q_56) rfl rfl rfl ?_
    refine go_iconst (pc' := 60) (v := (nI 0)) rfl rfl rfl ?_
    refine go_istore (pc' := 62) (lo' := [some (.inr (.inr th)), some (.inr (.inr a0)), some (.inl a1), some (.inr (.inr r_6)), some (.inl (nI 0))]) rfl rfl rfl ?_
    obtain ⟨q62, hl62, hc62_104⟩ := o_s1E h
    have ex62_104 : ∀ (Ix_104 : ai_I) (z4_x104 : Option ai_V), Ix_104 = q62 → ai_Go si_t (0, false, 9, cd_19) (ai_Cl si_t si_ms e) (sp_Q none I1 J Rf G) 104 [some (.inr (.inr th)), some (.inr (.inr a0)), some (.inl a1), some (.inr (.inr r_6)), z4_x104] [] (0, 0) Ix_104 J Rf G := by
      intro Ix_104 z4_x104 hq
      have h : m_19_x62_104 Ix_104 = some I1 := hc62_104 Ix_104 hq.symm
      unfold m_19_x62_104 at h
      cases h
      exact go_vret rfl (rfl) ⟨rfl, rfl, rfl, rfl, rfl⟩
    have lo62 : ∀ n s, lp (fun s => m_19_b62 th a0 Rf G s.1 s.2) n s = some q62 → (fun s => ai_Go si_t (0, false, 9, cd_19) (ai_Cl si_t si_ms e) (sp_Q none I1 J Rf G) 62 [some (.inr (.inr th)), some (.inr (.inr a0)), some (.inl a1), some (.inr (.inr r_6)), some (.inl s.1)] [] (0, 0) s.2 J Rf G) s := lp_go (fun s x62 hx hk62 => by
      obtain ⟨v4_62, I_62⟩ := s
      have h : m_19_b62 th a0 Rf G v4_62 I_62 = some x62 := hx
      clear hx
      show ai_Go si_t (0, false, 9, cd_19) (ai_Cl si_t si_ms e) (sp_Q none I1 J Rf G) 62 [some (.inr (.inr th)), some (.inr (.inr a0)), some (.inl a1), some (.inr (.inr r_6)), some (.inl v4_62)] [] (0, 0) I_62 J Rf G
      unfold m_19_b62 at h
      refine go_iload (pc' := 64) rfl rfl rfl ?_
      refine go_aload_n (pc' := 65) rfl rfl rfl ?_
      refine go_getI (pc' := 68) rfl rfl (by decide) (by decide) (o_kdE g0) rfl ?_
      refine go_icmp_ge (pt := 104) (pc' := 71) rfl rfl rfl (fun h68 => ?_) (fun h68 => ?_)
      · replace h := o_t h68 h
        exact ex62_104 _ (some (.inl v4_62)) (lp_exitE h hk62)
      · replace h := o_f h68 h
        refine go_aload_n (pc' := 72) rfl rfl rfl ?_
        refine go_aload_n (pc' := 73) rfl rfl rfl ?_
        refine go_getR (pc' := 76) rfl rfl (o_kdE g0) rfl ?_
        refine go_iload (pc' := 78) rfl rfl rfl ?_
        obtain ⟨g1, h⟩ := o_gE h
        refine go_iaload (pc' := 79) rfl (o_inK g1) (o_inB g1) rfl ?_
        obtain ⟨I_79, q_79, h⟩ := o_b1E h
        refine go_callV (pc' := 82) (B' := (0, 0)) (st' := []) rfl rfl (Or.inl (by decide)) rfl rfl hth (md_21 (by omega) hth q_79) rfl rfl rfl ?_
        refine go_aload_n (pc' := 83) rfl rfl rfl ?_
        refine go_aload_n (pc' := 84) rfl rfl rfl ?_
        refine go_getR (pc' := 87) rfl rfl (o_kdE g0) rfl ?_
        refine go_aload_n (pc' := 88) rfl rfl rfl ?_
        refine go_getR (pc' := 91) rfl rfl (o_kdE g0) rfl ?_
        refine go_iload (pc' := 93) rfl rfl rfl ?_
        obtain ⟨g2, h⟩ := o_gE h
        refine go_iaload (pc' := 94) rfl (o_inK g2) (o_inB g2) rfl ?_
        obtain ⟨g3, h⟩ := o_gE h
        refine go_iaload (pc' := 95) rfl (o_inK g3) (o_inB g3) rfl ?_
        obtain ⟨I_95, q_95, h⟩ := o_b1E h
        refine go_callV (pc' := 98) (B' := (0, 0)) (st' := []) rfl rfl (Or.inl (by decide)) rfl rfl hth (md_21 (by omega) hth q_95) rfl rfl rfl ?_
        obtain ⟨x4_98, ex4_98, h⟩ := o_b1E h
        refine go_iincE (pc' := 101) rfl rfl (y := (nI 1)) rfl ex4_98 (lo' := [some (.inr (.inr th)), some (.inr (.inr a0)), some (.inl a1), some (.inr (.inr r_6)), some (.inl x4_98)]) rfl rfl ?_
        refine go_goto (pc' := 62) rfl rfl ?_
        exact (lp_backE h hk62 :))
    exact lo62 _ ((nI 0), I_56) hl62 
  have lo13 : ∀ n s, lp (fun s => m_19_b13 th Rf G r_6 s.1 s.2) n s = some q13 → (fun s => ai_Go si_t (0, false, 9, cd_19) (ai_Cl si_t si_ms e) (sp_Q none I1 J Rf G) 13 [some (.inr (.inr th)), some (.inr (.inr a0)), some (.inl a1), some (.inr (.inr r_6)), some (.inl s.1)] [] (0, 0) s.2 J Rf G) s := lp_go (fun s x13 hx hk13 => by
    obtain ⟨v4_13, I_13⟩ := s
    have h : m_19_b13 th Rf G r_6 v4_13 I_13 = some x13 := hx
    clear hx
    show ai_Go si_t (0, false, 9, cd_19) (ai_Cl si_t si_ms e) (sp_Q none I1 J Rf G) 13 [some (.inr (.inr th)), some (.inr (.inr a0)), some (.inl a1), some (.inr (.inr r_6)), some (.inl v4_13)] [] (0, 0) I_13 J Rf G
    unfold m_19_b13 at h
    refine go_iload (pc' := 15) rfl rfl rfl ?_
    refine go_aload_n (pc' := 16) rfl rfl rfl ?_
    obtain ⟨r_16, q_16, h⟩ := o_b1E h
    refine go_callV (pc' := 19) (B' := (0, 0)) (st' := [.inl r_16, .inl v4_13]) rfl rfl (Or.inr (Or.inl rfl)) rfl rfl trivial (md_997 (by omega) q_16) rfl rfl rfl ?_
    refine go_icmp_ge (pt := 38) (pc' := 22) rfl rfl rfl (fun h19 => ?_) (fun h19 => ?_)
    · replace h := o_t h19 h
      exact ex13_38 _ (some (.inl v4_13)) (lp_exitE h hk13)
    · replace h := o_f h19 h
      refine go_aload_n (pc' := 23) rfl rfl rfl ?_
      refine go_aload_n (pc' := 24) rfl rfl rfl ?_
      refine go_iload (pc' := 26) rfl rfl rfl ?_
      obtain ⟨r_26, q_26, h⟩ := o_b1E h
      refine go_callV (pc' := 29) (B' := (0, 0)) (st' := [.inl r_26, .inr (.inr th)]) rfl rfl (Or.inr (Or.inr rfl)) rfl rfl trivial (md_996 (by omega) q_26) rfl rfl rfl ?_
      obtain ⟨I_29, q_29, h⟩ := o_b1E h
      refine go_callV (pc' := 32) (B' := (0, 0)) (st' := []) rfl rfl (Or.inl (by decide)) rfl rfl hth (md_20 (by omega) hth q_29) rfl rfl rfl ?_
      obtain ⟨x4_32, ex4_32, h⟩ := o_b1E h
      refine go_iincE (pc' := 35) rfl rfl (y := (nI 1)) rfl ex4_32 (lo' := [some (.inr (.inr th)), some (.inr (.inr a0)), some (.inl a1), some (.inr (.inr r_6)), some (.inl x4_32)]) rfl rfl ?_
      refine go_goto (pc' := 13) rfl rfl ?_
      exact (lp_backE h hk13 :))
  exact lo13 _ ((nI 0), I_2) hl13 
/-- PricedBases$Couple.<init>()V -/
def m_22 (th : Nat) (I : ai_I) (Rf : ai_R) (G : ai_G) : Option (ai_I × ai_R × ai_G) :=
  o_g (o_nn th) (o_g (o_lt9 G) (o_b1 (some (va_up I (G.2.2 + 1) (fun _ => 0))) (fun I_7 => o_b1 (some (va_up G.1 (G.2.2 + 1) 13, va_up G.2.1 (G.2.2 + 1) 8, G.2.2 + 1)) (fun G_7 => o_b1 (some (G.2.2 + 1)) (fun n_7 => o_g (o_kd G_7 th 1) (o_b1 (some (va_up Rf th (va_up (Rf th) 3 n_7))) (fun R_9 => some (I_7, R_9, G_7))))))))
theorem md_22 {d : Nat} {I : ai_I} {J : ai_J} {Rf : ai_R} {G : ai_G} {th : Nat} {I1 : ai_I} {R1 : ai_R} {G1 : ai_G} (hd : 1 ≤ d) (hth : G.1 th = 1) (h : m_22 th I Rf G = some (I1, R1, G1)) : ai_Cl si_t si_ms d 22 [.inr (.inr th)] I J Rf G none I1 J R1 G1 := by
  obtain ⟨e, rfl⟩ : ∃ e, d = e + 1 := ⟨d - 1, by omega⟩
  unfold m_22 at h
  refine sp_in (lo := [some (.inr (.inr th))]) (B := (1, 8)) rfl (Nat.le_of_ble_eq_true rfl) rfl rfl ?_
  refine go_aload_n (pc' := 1) rfl rfl rfl ?_
  obtain ⟨g0, h⟩ := o_gE h
  refine go_obj (pc' := 4) rfl rfl (o_nnE g0) (Nat.le_of_ble_eq_true rfl) rfl ?_
  refine go_aload_n (pc' := 5) rfl rfl rfl ?_
  refine go_bipush (pc' := 7) (v := (nI 8)) rfl rfl rfl ?_
  obtain ⟨g1, h⟩ := o_gE h
  refine go_newI (pc' := 9) (N := 8) rfl (by decide) (by decide) (by decide) (by decide) (by decide) (o_lt9E g1) rfl ?_
  obtain ⟨I_7, eI_7, h⟩ := o_b1E h
  obtain ⟨G_7, eG_7, h⟩ := o_b1E h
  obtain ⟨n_7, en_7, h⟩ := o_b1E h
  refine go_ndMI eI_7 ?_
  refine go_ndMG eG_7 ?_
  refine go_ndR en_7 ?_
  refine go_ndB (B' := (0, 0)) rfl ?_
  obtain ⟨g2, h⟩ := o_gE h
  obtain ⟨R_9, eR_9, h⟩ := o_b1E h
  refine go_putR (pc' := 12) rfl rfl (fun _ => ⟨rfl, rfl⟩) (o_kdE g2) rfl ?_
  refine go_ndMR eR_9 ?_
  cases h
  exact go_vret rfl (rfl) ⟨rfl, rfl, rfl, rfl, rfl⟩
/-- PricedBases$Couple.clear()V -/
def m_25 (th : Nat) (I : ai_I) : Option (ai_I) :=
  o_b1 (some (va_up I th (va_up (I th) 0 (nI 0)))) (fun I_2 => o_b1 (some (va_up I_2 th (va_up (I_2 th) 1 (nI 0)))) (fun I_7 => o_b1 (some (va_up I_7 th (va_up (I_7 th) 2 (-2147483648 : Int32)))) (fun I_13 => some I_13)))
theorem md_25 {d : Nat} {I : ai_I} {J : ai_J} {Rf : ai_R} {G : ai_G} {th : Nat} {I1 : ai_I} (hd : 1 ≤ d) (hth : G.1 th = 1) (h : m_25 th I = some I1) : ai_Cl si_t si_ms d 25 [.inr (.inr th)] I J Rf G none I1 J Rf G := by
  obtain ⟨e, rfl⟩ : ∃ e, d = e + 1 := ⟨d - 1, by omega⟩
  unfold m_25 at h
  refine sp_in (lo := [some (.inr (.inr th))]) (B := (0, 0)) rfl (Nat.le_of_ble_eq_true rfl) rfl rfl ?_
  refine go_aload_n (pc' := 1) rfl rfl rfl ?_
  refine go_iconst (pc' := 2) (v := (nI 0)) rfl rfl rfl ?_
  obtain ⟨I_2, eI_2, h⟩ := o_b1E h
  refine go_putI (pc' := 5) rfl rfl (fun h => by cases h) hth rfl ?_
  refine go_ndMI eI_2 ?_
  refine go_aload_n (pc' := 6) rfl rfl rfl ?_
  refine go_iconst (pc' := 7) (v := (nI 0)) rfl rfl rfl ?_
  obtain ⟨I_7, eI_7, h⟩ := o_b1E h
  refine go_putI (pc' := 10) rfl rfl (fun h => by cases h) hth rfl ?_
  refine go_ndMI eI_7 ?_
  refine go_aload_n (pc' := 11) rfl rfl rfl ?_
  refine go_ldc (pc' := 13) (v := .inl (-2147483648 : Int32)) rfl rfl rfl ?_
  obtain ⟨I_13, eI_13, h⟩ := o_b1E h
  refine go_putI (pc' := 16) rfl rfl (fun h => by cases h) hth rfl ?_
  refine go_ndMI eI_13 ?_
  cases h
  exact go_vret rfl (rfl) ⟨rfl, rfl, rfl, rfl, rfl⟩
/-- PricedBases$Couple.offer(II)V -/
def m_26 (th : Nat) (a0 : Int32) (a1 : Int32) (I : ai_I) : Option (ai_I) :=
  o_b1 (some (va_up I th (va_up (I th) 0 ((I th 0) + (nI 1))))) (fun I_7 => if a1 ≤ (I_7 th 2) then (some I_7) else (o_b1 (some (va_up I_7 th (va_up (I_7 th) 2 a1))) (fun I_20 => o_b1 (some (va_up I_20 th (va_up (I_20 th) 1 a0))) (fun I_25 => some I_25))))
theorem md_26 {d : Nat} {I : ai_I} {J : ai_J} {Rf : ai_R} {G : ai_G} {th : Nat} {a0 : Int32} {a1 : Int32} {I1 : ai_I} (hd : 1 ≤ d) (hth : G.1 th = 1) (h : m_26 th a0 a1 I = some I1) : ai_Cl si_t si_ms d 26 [.inr (.inr th), .inl a0, .inl a1] I J Rf G none I1 J Rf G := by
  obtain ⟨e, rfl⟩ : ∃ e, d = e + 1 := ⟨d - 1, by omega⟩
  unfold m_26 at h
  refine sp_in (lo := [some (.inr (.inr th)), some (.inl a0), some (.inl a1)]) (B := (0, 0)) rfl (Nat.le_of_ble_eq_true rfl) rfl rfl ?_
  refine go_aload_n (pc' := 1) rfl rfl rfl ?_
  refine go_dupR (pc' := 2) rfl rfl ?_
  refine go_getI (pc' := 5) rfl rfl (by decide) (by decide) hth rfl ?_
  refine go_iconst (pc' := 6) (v := (nI 1)) rfl rfl rfl ?_
  refine go_iadd (pc' := 7) rfl rfl ?_
  obtain ⟨I_7, eI_7, h⟩ := o_b1E h
  refine go_putI (pc' := 10) rfl rfl (fun h => by cases h) hth rfl ?_
  refine go_ndMI eI_7 ?_
  refine go_iload_n (pc' := 11) rfl rfl rfl ?_
  refine go_aload_n (pc' := 12) rfl rfl rfl ?_
  refine go_getI (pc' := 15) rfl rfl (by decide) (by decide) hth rfl ?_
  refine go_icmp_le (pt := 28) (pc' := 18) rfl rfl rfl (fun h15 => ?_) (fun h15 => ?_)
  · replace h := o_t h15 h
    cases h
    exact go_vret rfl (rfl) ⟨rfl, rfl, rfl, rfl, rfl⟩
  · replace h := o_f h15 h
    refine go_aload_n (pc' := 19) rfl rfl rfl ?_
    refine go_iload_n (pc' := 20) rfl rfl rfl ?_
    obtain ⟨I_20, eI_20, h⟩ := o_b1E h
    refine go_putI (pc' := 23) rfl rfl (fun h => by cases h) hth rfl ?_
    refine go_ndMI eI_20 ?_
    refine go_aload_n (pc' := 24) rfl rfl rfl ?_
    refine go_iload_n (pc' := 25) rfl rfl rfl ?_
    obtain ⟨I_25, eI_25, h⟩ := o_b1E h
    refine go_putI (pc' := 28) rfl rfl (fun h => by cases h) hth rfl ?_
    refine go_ndMI eI_25 ?_
    cases h
    exact go_vret rfl (rfl) ⟨rfl, rfl, rfl, rfl, rfl⟩
/-- PricedBases$Valuation.hasSet(I)Z -/
def m_121 (th : Nat) (a0 : Int32) (I : ai_I) : Option (Int32) :=
  if a0 < 0 then (some (nI 0)) else (if ((nI 1) <<< ((I th 0) &&& 31)) ≤ a0 then (some (nI 0)) else (some (nI 1)))
theorem md_121 {d : Nat} {I : ai_I} {J : ai_J} {Rf : ai_R} {G : ai_G} {th : Nat} {a0 : Int32} {r : Int32} (hd : 1 ≤ d) (hth : G.1 th = 8) (h : m_121 th a0 I = some r) : ai_Cl si_t si_ms d 121 [.inr (.inr th), .inl a0] I J Rf G (some (.inl r)) I J Rf G := by
  obtain ⟨e, rfl⟩ : ∃ e, d = e + 1 := ⟨d - 1, by omega⟩
  unfold m_121 at h
  refine sp_in (lo := [some (.inr (.inr th)), some (.inl a0)]) (B := (0, 0)) rfl (Nat.le_of_ble_eq_true rfl) rfl rfl ?_
  refine go_iload_n (pc' := 1) rfl rfl rfl ?_
  refine go_if_lt (pt := 18) (pc' := 4) rfl rfl rfl (fun h1 => ?_) (fun h1 => ?_)
  · replace h := o_t h1 h
    refine go_iconst (pc' := 19) (v := (nI 0)) rfl rfl rfl ?_
    cases h
    exact go_iret rfl (rfl) ⟨rfl, rfl, rfl, rfl, rfl⟩
  · replace h := o_f h1 h
    refine go_iload_n (pc' := 5) rfl rfl rfl ?_
    refine go_iconst (pc' := 6) (v := (nI 1)) rfl rfl rfl ?_
    refine go_aload_n (pc' := 7) rfl rfl rfl ?_
    refine go_getI (pc' := 10) rfl rfl (by decide) (by decide) hth rfl ?_
    refine go_ishl (pc' := 11) rfl rfl ?_
    refine go_icmp_ge (pt := 18) (pc' := 14) rfl rfl rfl (fun h11 => ?_) (fun h11 => ?_)
    · replace h := o_t h11 h
      refine go_iconst (pc' := 19) (v := (nI 0)) rfl rfl rfl ?_
      cases h
      exact go_iret rfl (rfl) ⟨rfl, rfl, rfl, rfl, rfl⟩
    · replace h := o_f h11 h
      refine go_iconst (pc' := 15) (v := (nI 1)) rfl rfl rfl ?_
      refine go_goto (pc' := 19) rfl rfl ?_
      cases h
      exact go_iret rfl (rfl) ⟨rfl, rfl, rfl, rfl, rfl⟩
/-- PricedBases$Valuation.hasBase(I)Z -/
def m_122 (th : Nat) (a0 : Int32) (I : ai_I) (Rf : ai_R) (G : ai_G) : Option (Int32) :=
  o_b1 (m_121 th a0 I) (fun r_2 => if r_2 = 0 then (some (nI 0)) else (o_g (o_in G 13 (Rf th 3) a0) (if (I (Rf th 3) a0.toNatClampNeg) = (-2147483648 : Int32) then (some (nI 0)) else (some (nI 1)))))
theorem md_122 {d : Nat} {I : ai_I} {J : ai_J} {Rf : ai_R} {G : ai_G} {th : Nat} {a0 : Int32} {r : Int32} (hd : 2 ≤ d) (hth : G.1 th = 8) (h : m_122 th a0 I Rf G = some r) : ai_Cl si_t si_ms d 122 [.inr (.inr th), .inl a0] I J Rf G (some (.inl r)) I J Rf G := by
  obtain ⟨e, rfl⟩ : ∃ e, d = e + 1 := ⟨d - 1, by omega⟩
  unfold m_122 at h
  refine sp_in (lo := [some (.inr (.inr th)), some (.inl a0)]) (B := (0, 0)) rfl (Nat.le_of_ble_eq_true rfl) rfl rfl ?_
  refine go_aload_n (pc' := 1) rfl rfl rfl ?_
  refine go_iload_n (pc' := 2) rfl rfl rfl ?_
  obtain ⟨r_2, q_2, h⟩ := o_b1E h
  refine go_callV (pc' := 5) (B' := (0, 0)) (st' := [.inl r_2]) rfl rfl (Or.inl (by decide)) rfl rfl hth (md_121 (by omega) hth q_2) rfl rfl rfl ?_
  refine go_if_eq (pt := 23) (pc' := 8) rfl rfl rfl (fun h5 => ?_) (fun h5 => ?_)
  · replace h := o_t h5 h
    refine go_iconst (pc' := 24) (v := (nI 0)) rfl rfl rfl ?_
    cases h
    exact go_iret rfl (rfl) ⟨rfl, rfl, rfl, rfl, rfl⟩
  · replace h := o_f h5 h
    refine go_aload_n (pc' := 9) rfl rfl rfl ?_
    refine go_getR (pc' := 12) rfl rfl hth rfl ?_
    refine go_iload_n (pc' := 13) rfl rfl rfl ?_
    obtain ⟨g0, h⟩ := o_gE h
    refine go_iaload (pc' := 14) rfl (o_inK g0) (o_inB g0) rfl ?_
    refine go_ldc (pc' := 16) (v := .inl (-2147483648 : Int32)) rfl rfl rfl ?_
    refine go_icmp_eq (pt := 23) (pc' := 19) rfl rfl rfl (fun h16 => ?_) (fun h16 => ?_)
    · replace h := o_t h16 h
      refine go_iconst (pc' := 24) (v := (nI 0)) rfl rfl rfl ?_
      cases h
      exact go_iret rfl (rfl) ⟨rfl, rfl, rfl, rfl, rfl⟩
    · replace h := o_f h16 h
      refine go_iconst (pc' := 20) (v := (nI 1)) rfl rfl rfl ?_
      refine go_goto (pc' := 24) rfl rfl ?_
      cases h
      exact go_iret rfl (rfl) ⟨rfl, rfl, rfl, rfl, rfl⟩
def m_23_x6_58 (Ix_58 : ai_I) : Option (ai_I) :=
  some Ix_58
def m_23_b6 (th : Nat) (a0 : Nat) (a1 : Nat) (Rf : ai_R) (G : ai_G) (v3_6 : Int32) (I_6 : ai_I) : Option ((Int32 × ai_I) ⊕ ai_I) :=
  o_g (o_kd G a0 8) (if (I_6 a0 2) ≤ v3_6 then (some (Sum.inr I_6)) else (o_g (o_in G 13 (Rf a0 5) v3_6) (o_b1 (some (I_6 (Rf a0 5) v3_6.toNatClampNeg)) (fun x4_20 => o_g (o_kd G a1 8) (o_b1 (m_122 a1 x4_20 I_6 Rf G) (fun r_25 => if r_25 = 0 then (o_b1 (some (v3_6 + (nI 1))) (fun x3_52 => some (Sum.inl (x3_52, I_6)))) else (o_g (o_in G 13 (Rf a0 3) x4_20) (o_g (o_in G 13 (Rf a1 3) x4_20) (o_b1 (m_26 th x4_20 ((I_6 (Rf a0 3) x4_20.toNatClampNeg) + (I_6 (Rf a1 3) x4_20.toNatClampNeg)) I_6) (fun I_49 => o_b1 (some (v3_6 + (nI 1))) (fun x3_52 => some (Sum.inl (x3_52, I_49)))))))))))))
/-- PricedBases$Couple.meet(LPricedBases$Valuation;LPricedBases$Valuation;)V -/
def m_23 (th : Nat) (a0 : Nat) (a1 : Nat) (I : ai_I) (Rf : ai_R) (G : ai_G) : Option (ai_I) :=
  o_b1 (m_25 th I) (fun I_1 => o_s1 (lp (fun s => m_23_b6 th a0 a1 Rf G s.1 s.2) o_N ((nI 0), I_1)) (fun t => m_23_x6_58 t))
theorem md_23 {d : Nat} {I : ai_I} {J : ai_J} {Rf : ai_R} {G : ai_G} {th : Nat} {a0 : Nat} {a1 : Nat} {I1 : ai_I} (hd : 3 ≤ d) (hth : G.1 th = 1) (h : m_23 th a0 a1 I Rf G = some I1) : ai_Cl si_t si_ms d 23 [.inr (.inr th), .inr (.inr a0), .inr (.inr a1)] I J Rf G none I1 J Rf G := by
  obtain ⟨e, rfl⟩ : ∃ e, d = e + 1 := ⟨d - 1, by omega⟩
  unfold m_23 at h
  refine sp_in (lo := [some (.inr (.inr th)), some (.inr (.inr a0)), some (.inr (.inr a1)), none, none]) (B := (0, 0)) rfl (Nat.le_of_ble_eq_true rfl) rfl rfl ?_
  refine go_aload_n (pc' := 1) rfl rfl rfl ?_
  obtain ⟨I_1, q_1, h⟩ := o_b1E h
  refine go_callV (pc' := 4) (B' := (0, 0)) (st' := []) rfl rfl (Or.inl (by decide)) rfl rfl hth (md_25 (by omega) hth q_1) rfl rfl rfl ?_
  refine go_iconst (pc' := 5) (v := (nI 0)) rfl rfl rfl ?_
  refine go_istore_n (pc' := 6) (lo' := [some (.inr (.inr th)), some (.inr (.inr a0)), some (.inr (.inr a1)), some (.inl (nI 0)), none]) rfl rfl rfl ?_
  obtain ⟨q6, hl6, hc6_58⟩ := o_s1E h
  have ex6_58 : ∀ (Ix_58 : ai_I) (z3_x58 : Option ai_V) (z4_x58 : Option ai_V), Ix_58 = q6 → ai_Go si_t (1, false, 9, cd_23) (ai_Cl si_t si_ms e) (sp_Q none I1 J Rf G) 58 [some (.inr (.inr th)), some (.inr (.inr a0)), some (.inr (.inr a1)), z3_x58, z4_x58] [] (0, 0) Ix_58 J Rf G := by
    intro Ix_58 z3_x58 z4_x58 hq
    have h : m_23_x6_58 Ix_58 = some I1 := hc6_58 Ix_58 hq.symm
    unfold m_23_x6_58 at h
    cases h
    exact go_vret rfl (rfl) ⟨rfl, rfl, rfl, rfl, rfl⟩
  have lo6 : ∀ n s, lp (fun s => m_23_b6 th a0 a1 Rf G s.1 s.2) n s = some q6 → (fun s => ∀ (z4_6 : Option ai_V), ai_Go si_t (1, false, 9, cd_23) (ai_Cl si_t si_ms e) (sp_Q none I1 J Rf G) 6 [some (.inr (.inr th)), some (.inr (.inr a0)), some (.inr (.inr a1)), some (.inl s.1), z4_6] [] (0, 0) s.2 J Rf G) s := lp_go (fun s x6 hx hk6 => by
    obtain ⟨v3_6, I_6⟩ := s
    intro z4_6
    have h : m_23_b6 th a0 a1 Rf G v3_6 I_6 = some x6 := hx
    clear hx
    show ai_Go si_t (1, false, 9, cd_23) (ai_Cl si_t si_ms e) (sp_Q none I1 J Rf G) 6 [some (.inr (.inr th)), some (.inr (.inr a0)), some (.inr (.inr a1)), some (.inl v3_6), z4_6] [] (0, 0) I_6 J Rf G
    unfold m_23_b6 at h
    refine go_iload_n (pc' := 7) rfl rfl rfl ?_
    refine go_aload_n (pc' := 8) rfl rfl rfl ?_
    obtain ⟨g0, h⟩ := o_gE h
    refine go_getI (pc' := 11) rfl rfl (by decide) (by decide) (o_kdE g0) rfl ?_
    refine go_icmp_ge (pt := 58) (pc' := 14) rfl rfl rfl (fun h11 => ?_) (fun h11 => ?_)
    · replace h := o_t h11 h
      exact ex6_58 _ (some (.inl v3_6)) z4_6 (lp_exitE h hk6)
    · replace h := o_f h11 h
      refine go_aload_n (pc' := 15) rfl rfl rfl ?_
      refine go_getR (pc' := 18) rfl rfl (o_kdE g0) rfl ?_
      refine go_iload_n (pc' := 19) rfl rfl rfl ?_
      obtain ⟨g1, h⟩ := o_gE h
      refine go_iaload (pc' := 20) rfl (o_inK g1) (o_inB g1) rfl ?_
      obtain ⟨x4_20, ex4_20, h⟩ := o_b1E h
      refine go_ndI ex4_20 ?_
      refine go_istore (pc' := 22) (lo' := [some (.inr (.inr th)), some (.inr (.inr a0)), some (.inr (.inr a1)), some (.inl v3_6), some (.inl x4_20)]) rfl rfl rfl ?_
      refine go_aload_n (pc' := 23) rfl rfl rfl ?_
      refine go_iload (pc' := 25) rfl rfl rfl ?_
      obtain ⟨g2, h⟩ := o_gE h
      obtain ⟨r_25, q_25, h⟩ := o_b1E h
      refine go_callV (pc' := 28) (B' := (0, 0)) (st' := [.inl r_25]) rfl rfl (Or.inl (by decide)) rfl rfl (o_kdE g2) (md_122 (by omega) (o_kdE g2) q_25) rfl rfl rfl ?_
      refine go_if_eq (pt := 52) (pc' := 31) rfl rfl rfl (fun h28 => ?_) (fun h28 => ?_)
      · replace h := o_t h28 h
        obtain ⟨x3_52, ex3_52, h⟩ := o_b1E h
        refine go_iincE (pc' := 55) rfl rfl (y := (nI 1)) rfl ex3_52 (lo' := [some (.inr (.inr th)), some (.inr (.inr a0)), some (.inr (.inr a1)), some (.inl x3_52), some (.inl x4_20)]) rfl rfl ?_
        refine go_goto (pc' := 6) rfl rfl ?_
        exact (lp_backE h hk6 (some (.inl x4_20)) :)
      · replace h := o_f h28 h
        refine go_aload_n (pc' := 32) rfl rfl rfl ?_
        refine go_iload (pc' := 34) rfl rfl rfl ?_
        refine go_aload_n (pc' := 35) rfl rfl rfl ?_
        refine go_getR (pc' := 38) rfl rfl (o_kdE g0) rfl ?_
        refine go_iload (pc' := 40) rfl rfl rfl ?_
        obtain ⟨g3, h⟩ := o_gE h
        refine go_iaload (pc' := 41) rfl (o_inK g3) (o_inB g3) rfl ?_
        refine go_aload_n (pc' := 42) rfl rfl rfl ?_
        refine go_getR (pc' := 45) rfl rfl (o_kdE g2) rfl ?_
        refine go_iload (pc' := 47) rfl rfl rfl ?_
        obtain ⟨g4, h⟩ := o_gE h
        refine go_iaload (pc' := 48) rfl (o_inK g4) (o_inB g4) rfl ?_
        refine go_iadd (pc' := 49) rfl rfl ?_
        obtain ⟨I_49, q_49, h⟩ := o_b1E h
        refine go_callV (pc' := 52) (B' := (0, 0)) (st' := []) rfl rfl (Or.inl (by decide)) rfl rfl hth (md_26 (by omega) hth q_49) rfl rfl rfl ?_
        obtain ⟨x3_52, ex3_52, h⟩ := o_b1E h
        refine go_iincE (pc' := 55) rfl rfl (y := (nI 1)) rfl ex3_52 (lo' := [some (.inr (.inr th)), some (.inr (.inr a0)), some (.inr (.inr a1)), some (.inl x3_52), some (.inl x4_20)]) rfl rfl ?_
        refine go_goto (pc' := 6) rfl rfl ?_
        exact (lp_backE h hk6 (some (.inl x4_20)) :))
  exact lo6 _ ((nI 0), I_1) hl6 none
def m_102_x4_28 (w2_28 : Int32) : Option (Int32) :=
  some w2_28
def m_102_b4 (a0 : Int32) (a1 : Nat) (I : ai_I) (G : ai_G) (v2_4 : Int32) (v3_4 : Int32) : Option ((Int32 × Int32) ⊕ Int32) :=
  if (nI 8) ≤ v3_4 then (some (Sum.inr v2_4)) else (o_g (o_in G 13 a1 v3_4) (o_b1 (some (v2_4 + (((a0 >>> (v3_4 &&& 31)) &&& (nI 1)) * (I a1 v3_4.toNatClampNeg)))) (fun x2_21 => o_b1 (some (v3_4 + (nI 1))) (fun x3_22 => some (Sum.inl (x2_21, x3_22))))))
/-- PricedBases$Sums.ofPrices(I[I)I -/
def m_102 (a0 : Int32) (a1 : Nat) (I : ai_I) (G : ai_G) : Option (Int32) :=
  o_s1 (lp (fun s => m_102_b4 a0 a1 I G s.1 s.2) o_N ((nI 0), (nI 0))) (fun t => m_102_x4_28 t)
theorem md_102 {d : Nat} {I : ai_I} {J : ai_J} {Rf : ai_R} {G : ai_G} {a0 : Int32} {a1 : Nat} {r : Int32} (hd : 1 ≤ d) (h : m_102 a0 a1 I G = some r) : ai_Cl si_t si_ms d 102 [.inl a0, .inr (.inr a1)] I J Rf G (some (.inl r)) I J Rf G := by
  obtain ⟨e, rfl⟩ : ∃ e, d = e + 1 := ⟨d - 1, by omega⟩
  unfold m_102 at h
  refine sp_in (lo := [some (.inl a0), some (.inr (.inr a1)), none, none]) (B := (0, 0)) rfl (Nat.le_of_ble_eq_true rfl) rfl rfl ?_
  refine go_iconst (pc' := 1) (v := (nI 0)) rfl rfl rfl ?_
  refine go_istore_n (pc' := 2) (lo' := [some (.inl a0), some (.inr (.inr a1)), some (.inl (nI 0)), none]) rfl rfl rfl ?_
  refine go_iconst (pc' := 3) (v := (nI 0)) rfl rfl rfl ?_
  refine go_istore_n (pc' := 4) (lo' := [some (.inl a0), some (.inr (.inr a1)), some (.inl (nI 0)), some (.inl (nI 0))]) rfl rfl rfl ?_
  obtain ⟨q4, hl4, hc4_28⟩ := o_s1E h
  have ex4_28 : ∀ (w2_28 : Int32) (z3_x28 : Option ai_V), w2_28 = q4 → ai_Go si_t (7, false, 0, cd_102) (ai_Cl si_t si_ms e) (sp_Q (some (.inl r)) I J Rf G) 28 [some (.inl a0), some (.inr (.inr a1)), some (.inl w2_28), z3_x28] [] (0, 0) I J Rf G := by
    intro w2_28 z3_x28 hq
    have h : m_102_x4_28 w2_28 = some r := hc4_28 w2_28 hq.symm
    unfold m_102_x4_28 at h
    refine go_iload_n (pc' := 29) rfl rfl rfl ?_
    cases h
    exact go_iret rfl (trivial) ⟨rfl, rfl, rfl, rfl, rfl⟩
  have lo4 : ∀ n s, lp (fun s => m_102_b4 a0 a1 I G s.1 s.2) n s = some q4 → (fun s => ai_Go si_t (7, false, 0, cd_102) (ai_Cl si_t si_ms e) (sp_Q (some (.inl r)) I J Rf G) 4 [some (.inl a0), some (.inr (.inr a1)), some (.inl s.1), some (.inl s.2)] [] (0, 0) I J Rf G) s := lp_go (fun s x4 hx hk4 => by
    obtain ⟨v2_4, v3_4⟩ := s
    have h : m_102_b4 a0 a1 I G v2_4 v3_4 = some x4 := hx
    clear hx
    show ai_Go si_t (7, false, 0, cd_102) (ai_Cl si_t si_ms e) (sp_Q (some (.inl r)) I J Rf G) 4 [some (.inl a0), some (.inr (.inr a1)), some (.inl v2_4), some (.inl v3_4)] [] (0, 0) I J Rf G
    unfold m_102_b4 at h
    refine go_iload_n (pc' := 5) rfl rfl rfl ?_
    refine go_bipush (pc' := 7) (v := (nI 8)) rfl rfl rfl ?_
    refine go_icmp_ge (pt := 28) (pc' := 10) rfl rfl rfl (fun h7 => ?_) (fun h7 => ?_)
    · replace h := o_t h7 h
      exact ex4_28 _ (some (.inl v3_4)) (lp_exitE h hk4)
    · replace h := o_f h7 h
      refine go_iload_n (pc' := 11) rfl rfl rfl ?_
      refine go_iload_n (pc' := 12) rfl rfl rfl ?_
      refine go_iload_n (pc' := 13) rfl rfl rfl ?_
      refine go_ishr (pc' := 14) rfl rfl ?_
      refine go_iconst (pc' := 15) (v := (nI 1)) rfl rfl rfl ?_
      refine go_iand (pc' := 16) rfl rfl ?_
      refine go_aload_n (pc' := 17) rfl rfl rfl ?_
      refine go_iload_n (pc' := 18) rfl rfl rfl ?_
      obtain ⟨g0, h⟩ := o_gE h
      refine go_iaload (pc' := 19) rfl (o_inK g0) (o_inB g0) rfl ?_
      refine go_imul (pc' := 20) rfl rfl ?_
      refine go_iadd (pc' := 21) rfl rfl ?_
      obtain ⟨x2_21, ex2_21, h⟩ := o_b1E h
      refine go_ndI ex2_21 ?_
      refine go_istore_n (pc' := 22) (lo' := [some (.inl a0), some (.inr (.inr a1)), some (.inl x2_21), some (.inl v3_4)]) rfl rfl rfl ?_
      obtain ⟨x3_22, ex3_22, h⟩ := o_b1E h
      refine go_iincE (pc' := 25) rfl rfl (y := (nI 1)) rfl ex3_22 (lo' := [some (.inl a0), some (.inr (.inr a1)), some (.inl x2_21), some (.inl x3_22)]) rfl rfl ?_
      refine go_goto (pc' := 4) rfl rfl ?_
      exact (lp_backE h hk4 :))
  exact lo4 _ ((nI 0), (nI 0)) hl4 
/-- PricedBases$Valuation.sets()I -/
def m_118 (th : Nat) (I : ai_I) : Option (Int32) :=
  some ((nI 1) <<< ((I th 0) &&& 31))
theorem md_118 {d : Nat} {I : ai_I} {J : ai_J} {Rf : ai_R} {G : ai_G} {th : Nat} {r : Int32} (hd : 1 ≤ d) (hth : G.1 th = 8) (h : m_118 th I = some r) : ai_Cl si_t si_ms d 118 [.inr (.inr th)] I J Rf G (some (.inl r)) I J Rf G := by
  obtain ⟨e, rfl⟩ : ∃ e, d = e + 1 := ⟨d - 1, by omega⟩
  unfold m_118 at h
  refine sp_in (lo := [some (.inr (.inr th))]) (B := (0, 0)) rfl (Nat.le_of_ble_eq_true rfl) rfl rfl ?_
  refine go_iconst (pc' := 1) (v := (nI 1)) rfl rfl rfl ?_
  refine go_aload_n (pc' := 2) rfl rfl rfl ?_
  refine go_getI (pc' := 5) rfl rfl (by decide) (by decide) hth rfl ?_
  refine go_ishl (pc' := 6) rfl rfl ?_
  cases h
  exact go_iret rfl (trivial) ⟨rfl, rfl, rfl, rfl, rfl⟩
/-- PricedBases$Valuation.isFree(I)Z -/
def m_123 (th : Nat) (a0 : Int32) (I : ai_I) (Rf : ai_R) (G : ai_G) : Option (Int32) :=
  o_g (o_in G 13 (Rf th 4) a0) (o_b1 (m_331 a0) (fun r_7 => if (I (Rf th 4) a0.toNatClampNeg) = r_7 then (some (nI 1)) else (some (nI 0))))
theorem md_123 {d : Nat} {I : ai_I} {J : ai_J} {Rf : ai_R} {G : ai_G} {th : Nat} {a0 : Int32} {r : Int32} (hd : 2 ≤ d) (hth : G.1 th = 8) (h : m_123 th a0 I Rf G = some r) : ai_Cl si_t si_ms d 123 [.inr (.inr th), .inl a0] I J Rf G (some (.inl r)) I J Rf G := by
  obtain ⟨e, rfl⟩ : ∃ e, d = e + 1 := ⟨d - 1, by omega⟩
  unfold m_123 at h
  refine sp_in (lo := [some (.inr (.inr th)), some (.inl a0)]) (B := (0, 0)) rfl (Nat.le_of_ble_eq_true rfl) rfl rfl ?_
  refine go_aload_n (pc' := 1) rfl rfl rfl ?_
  refine go_getR (pc' := 4) rfl rfl hth rfl ?_
  refine go_iload_n (pc' := 5) rfl rfl rfl ?_
  obtain ⟨g0, h⟩ := o_gE h
  refine go_iaload (pc' := 6) rfl (o_inK g0) (o_inB g0) rfl ?_
  refine go_iload_n (pc' := 7) rfl rfl rfl ?_
  obtain ⟨r_7, q_7, h⟩ := o_b1E h
  refine go_callS (pc' := 10) (B' := (0, 0)) (st' := [.inl r_7, .inl (I (Rf th 4) a0.toNatClampNeg)]) rfl rfl (Or.inl (by decide)) rfl rfl trivial (md_331 (by omega) q_7) rfl rfl rfl ?_
  refine go_icmp_ne (pt := 17) (pc' := 13) rfl rfl rfl (fun h10 => ?_) (fun h10 => ?_)
  · replace h := o_f h10 h
    refine go_iconst (pc' := 18) (v := (nI 0)) rfl rfl rfl ?_
    cases h
    exact go_iret rfl (rfl) ⟨rfl, rfl, rfl, rfl, rfl⟩
  · replace h := o_t (Decidable.of_not_not h10) h
    refine go_iconst (pc' := 14) (v := (nI 1)) rfl rfl rfl ?_
    refine go_goto (pc' := 18) rfl rfl ?_
    cases h
    exact go_iret rfl (rfl) ⟨rfl, rfl, rfl, rfl, rfl⟩
def m_24_x7_62 (Ix_62 : ai_I) : Option (ai_I) :=
  some Ix_62
def m_24_b7 (th : Nat) (a0 : Nat) (a1 : Nat) (a2 : Int32) (a3 : Nat) (Rf : ai_R) (G : ai_G) (v5_7 : Int32) (I_7 : ai_I) : Option ((Int32 × ai_I) ⊕ ai_I) :=
  o_g (o_kd G a0 8) (o_b1 (m_118 a0 I_7) (fun r_10 => if r_10 ≤ v5_7 then (some (Sum.inr I_7)) else (o_b1 (m_331 v5_7) (fun r_18 => if r_18 = a2 then (o_b1 (m_123 a0 v5_7 I_7 Rf G) (fun r_28 => if r_28 = 0 then (o_b1 (some (v5_7 + (nI 1))) (fun x5_56 => some (Sum.inl (x5_56, I_7)))) else (o_g (o_kd G a1 8) (o_b1 (m_123 a1 v5_7 I_7 Rf G) (fun r_37 => if r_37 = 0 then (o_b1 (some (v5_7 + (nI 1))) (fun x5_56 => some (Sum.inl (x5_56, I_7)))) else (o_b1 (m_102 v5_7 a3 I_7 G) (fun r_50 => o_b1 (m_26 th v5_7 r_50 I_7) (fun I_53 => o_b1 (some (v5_7 + (nI 1))) (fun x5_56 => some (Sum.inl (x5_56, I_53))))))))))) else (o_b1 (some (v5_7 + (nI 1))) (fun x5_56 => some (Sum.inl (x5_56, I_7))))))))
/-- PricedBases$Couple.meetFree(LPricedBases$Valuation;LPricedBases$Valuation;I[I)V -/
def m_24 (th : Nat) (a0 : Nat) (a1 : Nat) (a2 : Int32) (a3 : Nat) (I : ai_I) (Rf : ai_R) (G : ai_G) : Option (ai_I) :=
  o_b1 (m_25 th I) (fun I_1 => o_s1 (lp (fun s => m_24_b7 th a0 a1 a2 a3 Rf G s.1 s.2) o_N ((nI 0), I_1)) (fun t => m_24_x7_62 t))
theorem md_24 {d : Nat} {I : ai_I} {J : ai_J} {Rf : ai_R} {G : ai_G} {th : Nat} {a0 : Nat} {a1 : Nat} {a2 : Int32} {a3 : Nat} {I1 : ai_I} (hd : 3 ≤ d) (hth : G.1 th = 1) (h : m_24 th a0 a1 a2 a3 I Rf G = some I1) : ai_Cl si_t si_ms d 24 [.inr (.inr th), .inr (.inr a0), .inr (.inr a1), .inl a2, .inr (.inr a3)] I J Rf G none I1 J Rf G := by
  obtain ⟨e, rfl⟩ : ∃ e, d = e + 1 := ⟨d - 1, by omega⟩
  unfold m_24 at h
  refine sp_in (lo := [some (.inr (.inr th)), some (.inr (.inr a0)), some (.inr (.inr a1)), some (.inl a2), some (.inr (.inr a3)), none]) (B := (0, 0)) rfl (Nat.le_of_ble_eq_true rfl) rfl rfl ?_
  refine go_aload_n (pc' := 1) rfl rfl rfl ?_
  obtain ⟨I_1, q_1, h⟩ := o_b1E h
  refine go_callV (pc' := 4) (B' := (0, 0)) (st' := []) rfl rfl (Or.inl (by decide)) rfl rfl hth (md_25 (by omega) hth q_1) rfl rfl rfl ?_
  refine go_iconst (pc' := 5) (v := (nI 0)) rfl rfl rfl ?_
  refine go_istore (pc' := 7) (lo' := [some (.inr (.inr th)), some (.inr (.inr a0)), some (.inr (.inr a1)), some (.inl a2), some (.inr (.inr a3)), some (.inl (nI 0))]) rfl rfl rfl ?_
  obtain ⟨q7, hl7, hc7_62⟩ := o_s1E h
  have ex7_62 : ∀ (Ix_62 : ai_I) (z5_x62 : Option ai_V), Ix_62 = q7 → ai_Go si_t (1, false, 9, cd_24) (ai_Cl si_t si_ms e) (sp_Q none I1 J Rf G) 62 [some (.inr (.inr th)), some (.inr (.inr a0)), some (.inr (.inr a1)), some (.inl a2), some (.inr (.inr a3)), z5_x62] [] (0, 0) Ix_62 J Rf G := by
    intro Ix_62 z5_x62 hq
    have h : m_24_x7_62 Ix_62 = some I1 := hc7_62 Ix_62 hq.symm
    unfold m_24_x7_62 at h
    cases h
    exact go_vret rfl (rfl) ⟨rfl, rfl, rfl, rfl, rfl⟩
  have lo7 : ∀ n s, lp (fun s => m_24_b7 th a0 a1 a2 a3 Rf G s.1 s.2) n s = some q7 → (fun s => ai_Go si_t (1, false, 9, cd_24) (ai_Cl si_t si_ms e) (sp_Q none I1 J Rf G) 7 [some (.inr (.inr th)), some (.inr (.inr a0)), some (.inr (.inr a1)), some (.inl a2), some (.inr (.inr a3)), some (.inl s.1)] [] (0, 0) s.2 J Rf G) s := lp_go (fun s x7 hx hk7 => by
    obtain ⟨v5_7, I_7⟩ := s
    have h : m_24_b7 th a0 a1 a2 a3 Rf G v5_7 I_7 = some x7 := hx
    clear hx
    show ai_Go si_t (1, false, 9, cd_24) (ai_Cl si_t si_ms e) (sp_Q none I1 J Rf G) 7 [some (.inr (.inr th)), some (.inr (.inr a0)), some (.inr (.inr a1)), some (.inl a2), some (.inr (.inr a3)), some (.inl v5_7)] [] (0, 0) I_7 J Rf G
    unfold m_24_b7 at h
    refine go_iload (pc' := 9) rfl rfl rfl ?_
    refine go_aload_n (pc' := 10) rfl rfl rfl ?_
    obtain ⟨g0, h⟩ := o_gE h
    obtain ⟨r_10, q_10, h⟩ := o_b1E h
    refine go_callV (pc' := 13) (B' := (0, 0)) (st' := [.inl r_10, .inl v5_7]) rfl rfl (Or.inl (by decide)) rfl rfl (o_kdE g0) (md_118 (by omega) (o_kdE g0) q_10) rfl rfl rfl ?_
    refine go_icmp_ge (pt := 62) (pc' := 16) rfl rfl rfl (fun h13 => ?_) (fun h13 => ?_)
    · replace h := o_t h13 h
      exact ex7_62 _ (some (.inl v5_7)) (lp_exitE h hk7)
    · replace h := o_f h13 h
      refine go_iload (pc' := 18) rfl rfl rfl ?_
      obtain ⟨r_18, q_18, h⟩ := o_b1E h
      refine go_callS (pc' := 21) (B' := (0, 0)) (st' := [.inl r_18]) rfl rfl (Or.inl (by decide)) rfl rfl trivial (md_331 (by omega) q_18) rfl rfl rfl ?_
      refine go_iload_n (pc' := 22) rfl rfl rfl ?_
      refine go_icmp_ne (pt := 56) (pc' := 25) rfl rfl rfl (fun h22 => ?_) (fun h22 => ?_)
      · replace h := o_f h22 h
        obtain ⟨x5_56, ex5_56, h⟩ := o_b1E h
        refine go_iincE (pc' := 59) rfl rfl (y := (nI 1)) rfl ex5_56 (lo' := [some (.inr (.inr th)), some (.inr (.inr a0)), some (.inr (.inr a1)), some (.inl a2), some (.inr (.inr a3)), some (.inl x5_56)]) rfl rfl ?_
        refine go_goto (pc' := 7) rfl rfl ?_
        exact (lp_backE h hk7 :)
      · replace h := o_t (Decidable.of_not_not h22) h
        refine go_aload_n (pc' := 26) rfl rfl rfl ?_
        refine go_iload (pc' := 28) rfl rfl rfl ?_
        obtain ⟨r_28, q_28, h⟩ := o_b1E h
        refine go_callV (pc' := 31) (B' := (0, 0)) (st' := [.inl r_28]) rfl rfl (Or.inl (by decide)) rfl rfl (o_kdE g0) (md_123 (by omega) (o_kdE g0) q_28) rfl rfl rfl ?_
        refine go_if_eq (pt := 56) (pc' := 34) rfl rfl rfl (fun h31 => ?_) (fun h31 => ?_)
        · replace h := o_t h31 h
          obtain ⟨x5_56, ex5_56, h⟩ := o_b1E h
          refine go_iincE (pc' := 59) rfl rfl (y := (nI 1)) rfl ex5_56 (lo' := [some (.inr (.inr th)), some (.inr (.inr a0)), some (.inr (.inr a1)), some (.inl a2), some (.inr (.inr a3)), some (.inl x5_56)]) rfl rfl ?_
          refine go_goto (pc' := 7) rfl rfl ?_
          exact (lp_backE h hk7 :)
        · replace h := o_f h31 h
          refine go_aload_n (pc' := 35) rfl rfl rfl ?_
          refine go_iload (pc' := 37) rfl rfl rfl ?_
          obtain ⟨g1, h⟩ := o_gE h
          obtain ⟨r_37, q_37, h⟩ := o_b1E h
          refine go_callV (pc' := 40) (B' := (0, 0)) (st' := [.inl r_37]) rfl rfl (Or.inl (by decide)) rfl rfl (o_kdE g1) (md_123 (by omega) (o_kdE g1) q_37) rfl rfl rfl ?_
          refine go_if_eq (pt := 56) (pc' := 43) rfl rfl rfl (fun h40 => ?_) (fun h40 => ?_)
          · replace h := o_t h40 h
            obtain ⟨x5_56, ex5_56, h⟩ := o_b1E h
            refine go_iincE (pc' := 59) rfl rfl (y := (nI 1)) rfl ex5_56 (lo' := [some (.inr (.inr th)), some (.inr (.inr a0)), some (.inr (.inr a1)), some (.inl a2), some (.inr (.inr a3)), some (.inl x5_56)]) rfl rfl ?_
            refine go_goto (pc' := 7) rfl rfl ?_
            exact (lp_backE h hk7 :)
          · replace h := o_f h40 h
            refine go_aload_n (pc' := 44) rfl rfl rfl ?_
            refine go_iload (pc' := 46) rfl rfl rfl ?_
            refine go_iload (pc' := 48) rfl rfl rfl ?_
            refine go_aload (pc' := 50) rfl rfl rfl ?_
            obtain ⟨r_50, q_50, h⟩ := o_b1E h
            refine go_callS (pc' := 53) (B' := (0, 0)) (st' := [.inl r_50, .inl v5_7, .inr (.inr th)]) rfl rfl (Or.inl (by decide)) rfl rfl trivial (md_102 (by omega) q_50) rfl rfl rfl ?_
            obtain ⟨I_53, q_53, h⟩ := o_b1E h
            refine go_callV (pc' := 56) (B' := (0, 0)) (st' := []) rfl rfl (Or.inl (by decide)) rfl rfl hth (md_26 (by omega) hth q_53) rfl rfl rfl ?_
            obtain ⟨x5_56, ex5_56, h⟩ := o_b1E h
            refine go_iincE (pc' := 59) rfl rfl (y := (nI 1)) rfl ex5_56 (lo' := [some (.inr (.inr th)), some (.inr (.inr a0)), some (.inr (.inr a1)), some (.inl a2), some (.inr (.inr a3)), some (.inl x5_56)]) rfl rfl ?_
            refine go_goto (pc' := 7) rfl rfl ?_
            exact (lp_backE h hk7 :))
  exact lo7 _ ((nI 0), I_1) hl7 
/-- PricedBases$Couple.isBounded(IILPricedBases$Valuation;I)Z -/
def m_29 (th : Nat) (a0 : Int32) (a1 : Int32) (a2 : Nat) (a3 : Int32) (I : ai_I) (Rf : ai_R) (G : ai_G) : Option (Int32 × ai_I) :=
  o_g (o_kd G a2 8) (o_b1 (m_122 a2 a3 I Rf G) (fun r_3 => if r_3 = 0 then (some ((nI 0), I)) else (o_g (o_in G 13 (Rf th 3) a1) (o_g (o_in G 13 (Rf a2 3) (I th 1)) (o_g (o_in G 13 (Rf a2 3) a3) (o_b1 (some (((I (Rf th 3) a1.toNatClampNeg) + (I (Rf a2 3) (I th 1).toNatClampNeg)) - (I (Rf a2 3) a3.toNatClampNeg))) (fun x5_35 => o_g (o_in G 13 (Rf th 3) a0) (if x5_35 < (I (Rf th 3) a0.toNatClampNeg) then (o_g (o_in G 13 (Rf th 3) a0) (o_b1 (some (va_up I (Rf th 3) (va_up (I (Rf th 3)) a0.toNatClampNeg x5_35))) (fun I_57 => some ((nI 1), I_57)))) else (some ((nI 0), I))))))))))
theorem md_29 {d : Nat} {I : ai_I} {J : ai_J} {Rf : ai_R} {G : ai_G} {th : Nat} {a0 : Int32} {a1 : Int32} {a2 : Nat} {a3 : Int32} {r : Int32} {I1 : ai_I} (hd : 3 ≤ d) (hth : G.1 th = 1) (h : m_29 th a0 a1 a2 a3 I Rf G = some (r, I1)) : ai_Cl si_t si_ms d 29 [.inr (.inr th), .inl a0, .inl a1, .inr (.inr a2), .inl a3] I J Rf G (some (.inl r)) I1 J Rf G := by
  obtain ⟨e, rfl⟩ : ∃ e, d = e + 1 := ⟨d - 1, by omega⟩
  unfold m_29 at h
  refine sp_in (lo := [some (.inr (.inr th)), some (.inl a0), some (.inl a1), some (.inr (.inr a2)), some (.inl a3), none]) (B := (0, 0)) rfl (Nat.le_of_ble_eq_true rfl) rfl rfl ?_
  refine go_aload_n (pc' := 1) rfl rfl rfl ?_
  refine go_iload (pc' := 3) rfl rfl rfl ?_
  obtain ⟨g0, h⟩ := o_gE h
  obtain ⟨r_3, q_3, h⟩ := o_b1E h
  refine go_callV (pc' := 6) (B' := (0, 0)) (st' := [.inl r_3]) rfl rfl (Or.inl (by decide)) rfl rfl (o_kdE g0) (md_122 (by omega) (o_kdE g0) q_3) rfl rfl rfl ?_
  refine go_if_ne (pt := 11) (pc' := 9) rfl rfl rfl (fun h6 => ?_) (fun h6 => ?_)
  · replace h := o_f h6 h
    refine go_aload_n (pc' := 12) rfl rfl rfl ?_
    refine go_getR (pc' := 15) rfl rfl hth rfl ?_
    refine go_iload_n (pc' := 16) rfl rfl rfl ?_
    obtain ⟨g1, h⟩ := o_gE h
    refine go_iaload (pc' := 17) rfl (o_inK g1) (o_inB g1) rfl ?_
    refine go_aload_n (pc' := 18) rfl rfl rfl ?_
    refine go_getR (pc' := 21) rfl rfl (o_kdE g0) rfl ?_
    refine go_aload_n (pc' := 22) rfl rfl rfl ?_
    refine go_getI (pc' := 25) rfl rfl (by decide) (by decide) hth rfl ?_
    obtain ⟨g2, h⟩ := o_gE h
    refine go_iaload (pc' := 26) rfl (o_inK g2) (o_inB g2) rfl ?_
    refine go_iadd (pc' := 27) rfl rfl ?_
    refine go_aload_n (pc' := 28) rfl rfl rfl ?_
    refine go_getR (pc' := 31) rfl rfl (o_kdE g0) rfl ?_
    refine go_iload (pc' := 33) rfl rfl rfl ?_
    obtain ⟨g3, h⟩ := o_gE h
    refine go_iaload (pc' := 34) rfl (o_inK g3) (o_inB g3) rfl ?_
    refine go_isub (pc' := 35) rfl rfl ?_
    obtain ⟨x5_35, ex5_35, h⟩ := o_b1E h
    refine go_ndI ex5_35 ?_
    refine go_istore (pc' := 37) (lo' := [some (.inr (.inr th)), some (.inl a0), some (.inl a1), some (.inr (.inr a2)), some (.inl a3), some (.inl x5_35)]) rfl rfl rfl ?_
    refine go_aload_n (pc' := 38) rfl rfl rfl ?_
    refine go_getR (pc' := 41) rfl rfl hth rfl ?_
    refine go_iload_n (pc' := 42) rfl rfl rfl ?_
    obtain ⟨g4, h⟩ := o_gE h
    refine go_iaload (pc' := 43) rfl (o_inK g4) (o_inB g4) rfl ?_
    refine go_iload (pc' := 45) rfl rfl rfl ?_
    refine go_icmp_gt (pt := 50) (pc' := 48) rfl rfl rfl (fun h45 => ?_) (fun h45 => ?_)
    · replace h := o_t h45 h
      refine go_aload_n (pc' := 51) rfl rfl rfl ?_
      refine go_getR (pc' := 54) rfl rfl hth rfl ?_
      refine go_iload_n (pc' := 55) rfl rfl rfl ?_
      refine go_iload (pc' := 57) rfl rfl rfl ?_
      obtain ⟨g5, h⟩ := o_gE h
      obtain ⟨I_57, eI_57, h⟩ := o_b1E h
      refine go_iastore (pc' := 58) rfl (o_inK g5) (o_inB g5) rfl ?_
      refine go_ndMI eI_57 ?_
      refine go_iconst (pc' := 59) (v := (nI 1)) rfl rfl rfl ?_
      cases h
      exact go_iret rfl (rfl) ⟨rfl, rfl, rfl, rfl, rfl⟩
    · replace h := o_f h45 h
      refine go_iconst (pc' := 49) (v := (nI 0)) rfl rfl rfl ?_
      cases h
      exact go_iret rfl (rfl) ⟨rfl, rfl, rfl, rfl, rfl⟩
  · replace h := o_t (Decidable.of_not_not h6) h
    refine go_iconst (pc' := 10) (v := (nI 0)) rfl rfl rfl ?_
    cases h
    exact go_iret rfl (rfl) ⟨rfl, rfl, rfl, rfl, rfl⟩
/-- PricedBases.isIn(II)Z -/
def m_183 (a0 : Int32) (a1 : Int32) : Option (Int32) :=
  if ((a0 >>> (a1 &&& 31)) &&& (nI 1)) = (nI 1) then (some (nI 1)) else (some (nI 0))
theorem md_183 {d : Nat} {I : ai_I} {J : ai_J} {Rf : ai_R} {G : ai_G} {a0 : Int32} {a1 : Int32} {r : Int32} (hd : 1 ≤ d) (h : m_183 a0 a1 = some r) : ai_Cl si_t si_ms d 183 [.inl a0, .inl a1] I J Rf G (some (.inl r)) I J Rf G := by
  obtain ⟨e, rfl⟩ : ∃ e, d = e + 1 := ⟨d - 1, by omega⟩
  unfold m_183 at h
  refine sp_in (lo := [some (.inl a0), some (.inl a1)]) (B := (0, 0)) rfl (Nat.le_of_ble_eq_true rfl) rfl rfl ?_
  refine go_iload_n (pc' := 1) rfl rfl rfl ?_
  refine go_iload_n (pc' := 2) rfl rfl rfl ?_
  refine go_ishr (pc' := 3) rfl rfl ?_
  refine go_iconst (pc' := 4) (v := (nI 1)) rfl rfl rfl ?_
  refine go_iand (pc' := 5) rfl rfl ?_
  refine go_iconst (pc' := 6) (v := (nI 1)) rfl rfl rfl ?_
  refine go_icmp_ne (pt := 13) (pc' := 9) rfl rfl rfl (fun h6 => ?_) (fun h6 => ?_)
  · replace h := o_f h6 h
    refine go_iconst (pc' := 14) (v := (nI 0)) rfl rfl rfl ?_
    cases h
    exact go_iret rfl (rfl) ⟨rfl, rfl, rfl, rfl, rfl⟩
  · replace h := o_t (Decidable.of_not_not h6) h
    refine go_iconst (pc' := 10) (v := (nI 1)) rfl rfl rfl ?_
    refine go_goto (pc' := 14) rfl rfl ?_
    cases h
    exact go_iret rfl (rfl) ⟨rfl, rfl, rfl, rfl, rfl⟩
def m_28_x5_114 (w3_114 : Int32) (Ix_114 : ai_I) : Option (Int32 × ai_I) :=
  o_g (o_bz w3_114) (some (w3_114, Ix_114))
def m_28_x17_108 (v4_5 : Int32) (w3_108 : Int32) (Ix_108 : ai_I) : Option ((Int32 × Int32 × ai_I) ⊕ (Int32 × ai_I)) :=
  o_b1 (some (v4_5 + (nI 1))) (fun x4_108 => some (Sum.inl (w3_108, x4_108, Ix_108)))
def m_28_b17 (th : Nat) (a0 : Nat) (a1 : Nat) (Rf : ai_R) (G : ai_G) (v4_5 : Int32) (v3_17 : Int32) (v5_17 : Int32) (I_17 : ai_I) : Option ((Int32 × Int32 × ai_I) ⊕ (Int32 × ai_I)) :=
  if (I_17 a0 0) ≤ v5_17 then (some (Sum.inr (v3_17, I_17))) else (o_b1 (m_183 (I_17 th 1) v4_5) (fun r_32 => if r_32 = 0 then (o_b1 (some (v5_17 + (nI 1))) (fun x5_102 => some (Sum.inl (v3_17, x5_102, I_17)))) else (o_b1 (m_183 (I_17 th 1) v5_17) (fun r_44 => if r_44 = 0 then (o_b2 (m_29 th v5_17 v4_5 a0 ((I_17 th 1) ^^^ (((nI 1) <<< (v4_5 &&& 31)) ||| ((nI 1) <<< (v5_17 &&& 31)))) I_17 Rf G) (fun r_71 I_71 => o_b1 (some (v3_17 ||| r_71)) (fun x3_75 => o_b2 (m_29 th v4_5 v5_17 a1 ((I_71 th 1) ^^^ (((nI 1) <<< (v4_5 &&& 31)) ||| ((nI 1) <<< (v5_17 &&& 31)))) I_71 Rf G) (fun r_97 I_97 => o_b1 (some (x3_75 ||| r_97)) (fun x3_101 => o_b1 (some (v5_17 + (nI 1))) (fun x5_102 => some (Sum.inl (x3_101, x5_102, I_97)))))))) else (o_b1 (some (v5_17 + (nI 1))) (fun x5_102 => some (Sum.inl (v3_17, x5_102, I_17))))))))
def m_28_b5 (th : Nat) (a0 : Nat) (a1 : Nat) (Rf : ai_R) (G : ai_G) (v3_5 : Int32) (v4_5 : Int32) (I_5 : ai_I) : Option ((Int32 × Int32 × ai_I) ⊕ (Int32 × ai_I)) :=
  o_g (o_kd G a0 8) (if (I_5 a0 0) ≤ v4_5 then (some (Sum.inr (v3_5, I_5))) else (o_s1 (lp (fun s => m_28_b17 th a0 a1 Rf G v4_5 s.1 s.2.1 s.2.2) o_N (v3_5, (nI 0), I_5)) (fun t => m_28_x17_108 v4_5 t.1 t.2)))
/-- PricedBases$Couple.isLowered(LPricedBases$Valuation;LPricedBases$Valuation;)Z -/
def m_28 (th : Nat) (a0 : Nat) (a1 : Nat) (I : ai_I) (Rf : ai_R) (G : ai_G) : Option (Int32 × ai_I) :=
  o_s1 (lp (fun s => m_28_b5 th a0 a1 Rf G s.1 s.2.1 s.2.2) o_N ((nI 0), (nI 0), I)) (fun t => m_28_x5_114 t.1 t.2)
theorem md_28 {d : Nat} {I : ai_I} {J : ai_J} {Rf : ai_R} {G : ai_G} {th : Nat} {a0 : Nat} {a1 : Nat} {r : Int32} {I1 : ai_I} (hd : 4 ≤ d) (hth : G.1 th = 1) (h : m_28 th a0 a1 I Rf G = some (r, I1)) : ai_Cl si_t si_ms d 28 [.inr (.inr th), .inr (.inr a0), .inr (.inr a1)] I J Rf G (some (.inl r)) I1 J Rf G := by
  obtain ⟨e, rfl⟩ : ∃ e, d = e + 1 := ⟨d - 1, by omega⟩
  unfold m_28 at h
  refine sp_in (lo := [some (.inr (.inr th)), some (.inr (.inr a0)), some (.inr (.inr a1)), none, none, none]) (B := (0, 0)) rfl (Nat.le_of_ble_eq_true rfl) rfl rfl ?_
  refine go_iconst (pc' := 1) (v := (nI 0)) rfl rfl rfl ?_
  refine go_istore_n (pc' := 2) (lo' := [some (.inr (.inr th)), some (.inr (.inr a0)), some (.inr (.inr a1)), some (.inl (nI 0)), none, none]) rfl rfl rfl ?_
  refine go_iconst (pc' := 3) (v := (nI 0)) rfl rfl rfl ?_
  refine go_istore (pc' := 5) (lo' := [some (.inr (.inr th)), some (.inr (.inr a0)), some (.inr (.inr a1)), some (.inl (nI 0)), some (.inl (nI 0)), none]) rfl rfl rfl ?_
  obtain ⟨q5, hl5, hc5_114⟩ := o_s1E h
  have ex5_114 : ∀ (w3_114 : Int32) (Ix_114 : ai_I) (z4_x114 : Option ai_V) (z5_x114 : Option ai_V), (w3_114, Ix_114) = q5 → ai_Go si_t (1, false, 3, cd_28) (ai_Cl si_t si_ms e) (sp_Q (some (.inl r)) I1 J Rf G) 114 [some (.inr (.inr th)), some (.inr (.inr a0)), some (.inr (.inr a1)), some (.inl w3_114), z4_x114, z5_x114] [] (0, 0) Ix_114 J Rf G := by
    intro w3_114 Ix_114 z4_x114 z5_x114 hq
    have h : m_28_x5_114 w3_114 Ix_114 = some (r, I1) := hc5_114 (w3_114, Ix_114) hq.symm
    unfold m_28_x5_114 at h
    refine go_iload_n (pc' := 115) rfl rfl rfl ?_
    obtain ⟨g0, h⟩ := o_gE h
    cases h
    exact go_iret rfl (o_bzE g0) ⟨rfl, rfl, rfl, rfl, rfl⟩
  have lo5 : ∀ n s, lp (fun s => m_28_b5 th a0 a1 Rf G s.1 s.2.1 s.2.2) n s = some q5 → (fun s => ∀ (z5_5 : Option ai_V), ai_Go si_t (1, false, 3, cd_28) (ai_Cl si_t si_ms e) (sp_Q (some (.inl r)) I1 J Rf G) 5 [some (.inr (.inr th)), some (.inr (.inr a0)), some (.inr (.inr a1)), some (.inl s.1), some (.inl s.2.1), z5_5] [] (0, 0) s.2.2 J Rf G) s := lp_go (fun s x5 hx hk5 => by
    obtain ⟨v3_5, v4_5, I_5⟩ := s
    intro z5_5
    have h : m_28_b5 th a0 a1 Rf G v3_5 v4_5 I_5 = some x5 := hx
    clear hx
    show ai_Go si_t (1, false, 3, cd_28) (ai_Cl si_t si_ms e) (sp_Q (some (.inl r)) I1 J Rf G) 5 [some (.inr (.inr th)), some (.inr (.inr a0)), some (.inr (.inr a1)), some (.inl v3_5), some (.inl v4_5), z5_5] [] (0, 0) I_5 J Rf G
    unfold m_28_b5 at h
    refine go_iload (pc' := 7) rfl rfl rfl ?_
    refine go_aload_n (pc' := 8) rfl rfl rfl ?_
    obtain ⟨g1, h⟩ := o_gE h
    refine go_getI (pc' := 11) rfl rfl (by decide) (by decide) (o_kdE g1) rfl ?_
    refine go_icmp_ge (pt := 114) (pc' := 14) rfl rfl rfl (fun h11 => ?_) (fun h11 => ?_)
    · replace h := o_t h11 h
      exact ex5_114 _ _ (some (.inl v4_5)) z5_5 (lp_exitE h hk5)
    · replace h := o_f h11 h
      refine go_iconst (pc' := 15) (v := (nI 0)) rfl rfl rfl ?_
      refine go_istore (pc' := 17) (lo' := [some (.inr (.inr th)), some (.inr (.inr a0)), some (.inr (.inr a1)), some (.inl v3_5), some (.inl v4_5), some (.inl (nI 0))]) rfl rfl rfl ?_
      obtain ⟨q17, hl17, hc17_108⟩ := o_s1E h
      have ex17_108 : ∀ (w3_108 : Int32) (Ix_108 : ai_I) (z5_x108 : Option ai_V), (w3_108, Ix_108) = q17 → ai_Go si_t (1, false, 3, cd_28) (ai_Cl si_t si_ms e) (sp_Q (some (.inl r)) I1 J Rf G) 108 [some (.inr (.inr th)), some (.inr (.inr a0)), some (.inr (.inr a1)), some (.inl w3_108), some (.inl v4_5), z5_x108] [] (0, 0) Ix_108 J Rf G := by
        intro w3_108 Ix_108 z5_x108 hq
        have h : m_28_x17_108 v4_5 w3_108 Ix_108 = some x5 := hc17_108 (w3_108, Ix_108) hq.symm
        unfold m_28_x17_108 at h
        obtain ⟨x4_108, ex4_108, h⟩ := o_b1E h
        refine go_iincE (pc' := 111) rfl rfl (y := (nI 1)) rfl ex4_108 (lo' := [some (.inr (.inr th)), some (.inr (.inr a0)), some (.inr (.inr a1)), some (.inl w3_108), some (.inl x4_108), z5_x108]) rfl rfl ?_
        refine go_goto (pc' := 5) rfl rfl ?_
        exact (lp_backE h hk5 z5_x108 :)
      have lo17 : ∀ n s, lp (fun s => m_28_b17 th a0 a1 Rf G v4_5 s.1 s.2.1 s.2.2) n s = some q17 → (fun s => ai_Go si_t (1, false, 3, cd_28) (ai_Cl si_t si_ms e) (sp_Q (some (.inl r)) I1 J Rf G) 17 [some (.inr (.inr th)), some (.inr (.inr a0)), some (.inr (.inr a1)), some (.inl s.1), some (.inl v4_5), some (.inl s.2.1)] [] (0, 0) s.2.2 J Rf G) s := lp_go (fun s x17 hx hk17 => by
        obtain ⟨v3_17, v5_17, I_17⟩ := s
        have h : m_28_b17 th a0 a1 Rf G v4_5 v3_17 v5_17 I_17 = some x17 := hx
        clear hx
        show ai_Go si_t (1, false, 3, cd_28) (ai_Cl si_t si_ms e) (sp_Q (some (.inl r)) I1 J Rf G) 17 [some (.inr (.inr th)), some (.inr (.inr a0)), some (.inr (.inr a1)), some (.inl v3_17), some (.inl v4_5), some (.inl v5_17)] [] (0, 0) I_17 J Rf G
        unfold m_28_b17 at h
        refine go_iload (pc' := 19) rfl rfl rfl ?_
        refine go_aload_n (pc' := 20) rfl rfl rfl ?_
        refine go_getI (pc' := 23) rfl rfl (by decide) (by decide) (o_kdE g1) rfl ?_
        refine go_icmp_ge (pt := 108) (pc' := 26) rfl rfl rfl (fun h23 => ?_) (fun h23 => ?_)
        · replace h := o_t h23 h
          exact ex17_108 _ _ (some (.inl v5_17)) (lp_exitE h hk17)
        · replace h := o_f h23 h
          refine go_aload_n (pc' := 27) rfl rfl rfl ?_
          refine go_getI (pc' := 30) rfl rfl (by decide) (by decide) hth rfl ?_
          refine go_iload (pc' := 32) rfl rfl rfl ?_
          obtain ⟨r_32, q_32, h⟩ := o_b1E h
          refine go_callS (pc' := 35) (B' := (0, 0)) (st' := [.inl r_32]) rfl rfl (Or.inl (by decide)) rfl rfl trivial (md_183 (by omega) q_32) rfl rfl rfl ?_
          refine go_if_eq (pt := 102) (pc' := 38) rfl rfl rfl (fun h35 => ?_) (fun h35 => ?_)
          · replace h := o_t h35 h
            obtain ⟨x5_102, ex5_102, h⟩ := o_b1E h
            refine go_iincE (pc' := 105) rfl rfl (y := (nI 1)) rfl ex5_102 (lo' := [some (.inr (.inr th)), some (.inr (.inr a0)), some (.inr (.inr a1)), some (.inl v3_17), some (.inl v4_5), some (.inl x5_102)]) rfl rfl ?_
            refine go_goto (pc' := 17) rfl rfl ?_
            exact (lp_backE h hk17 :)
          · replace h := o_f h35 h
            refine go_aload_n (pc' := 39) rfl rfl rfl ?_
            refine go_getI (pc' := 42) rfl rfl (by decide) (by decide) hth rfl ?_
            refine go_iload (pc' := 44) rfl rfl rfl ?_
            obtain ⟨r_44, q_44, h⟩ := o_b1E h
            refine go_callS (pc' := 47) (B' := (0, 0)) (st' := [.inl r_44]) rfl rfl (Or.inl (by decide)) rfl rfl trivial (md_183 (by omega) q_44) rfl rfl rfl ?_
            refine go_if_ne (pt := 102) (pc' := 50) rfl rfl rfl (fun h47 => ?_) (fun h47 => ?_)
            · replace h := o_f h47 h
              obtain ⟨x5_102, ex5_102, h⟩ := o_b1E h
              refine go_iincE (pc' := 105) rfl rfl (y := (nI 1)) rfl ex5_102 (lo' := [some (.inr (.inr th)), some (.inr (.inr a0)), some (.inr (.inr a1)), some (.inl v3_17), some (.inl v4_5), some (.inl x5_102)]) rfl rfl ?_
              refine go_goto (pc' := 17) rfl rfl ?_
              exact (lp_backE h hk17 :)
            · replace h := o_t (Decidable.of_not_not h47) h
              refine go_iload_n (pc' := 51) rfl rfl rfl ?_
              refine go_aload_n (pc' := 52) rfl rfl rfl ?_
              refine go_iload (pc' := 54) rfl rfl rfl ?_
              refine go_iload (pc' := 56) rfl rfl rfl ?_
              refine go_aload_n (pc' := 57) rfl rfl rfl ?_
              refine go_aload_n (pc' := 58) rfl rfl rfl ?_
              refine go_getI (pc' := 61) rfl rfl (by decide) (by decide) hth rfl ?_
              refine go_iconst (pc' := 62) (v := (nI 1)) rfl rfl rfl ?_
              refine go_iload (pc' := 64) rfl rfl rfl ?_
              refine go_ishl (pc' := 65) rfl rfl ?_
              refine go_iconst (pc' := 66) (v := (nI 1)) rfl rfl rfl ?_
              refine go_iload (pc' := 68) rfl rfl rfl ?_
              refine go_ishl (pc' := 69) rfl rfl ?_
              refine go_ior (pc' := 70) rfl rfl ?_
              refine go_ixor (pc' := 71) rfl rfl ?_
              obtain ⟨r_71, I_71, q_71, h⟩ := o_b2E h
              refine go_callV (pc' := 74) (B' := (0, 0)) (st' := [.inl r_71, .inl v3_17]) rfl rfl (Or.inl (by decide)) rfl rfl hth (md_29 (by omega) hth q_71) rfl rfl rfl ?_
              refine go_ior (pc' := 75) rfl rfl ?_
              obtain ⟨x3_75, ex3_75, h⟩ := o_b1E h
              refine go_ndI ex3_75 ?_
              refine go_istore_n (pc' := 76) (lo' := [some (.inr (.inr th)), some (.inr (.inr a0)), some (.inr (.inr a1)), some (.inl x3_75), some (.inl v4_5), some (.inl v5_17)]) rfl rfl rfl ?_
              refine go_iload_n (pc' := 77) rfl rfl rfl ?_
              refine go_aload_n (pc' := 78) rfl rfl rfl ?_
              refine go_iload (pc' := 80) rfl rfl rfl ?_
              refine go_iload (pc' := 82) rfl rfl rfl ?_
              refine go_aload_n (pc' := 83) rfl rfl rfl ?_
              refine go_aload_n (pc' := 84) rfl rfl rfl ?_
              refine go_getI (pc' := 87) rfl rfl (by decide) (by decide) hth rfl ?_
              refine go_iconst (pc' := 88) (v := (nI 1)) rfl rfl rfl ?_
              refine go_iload (pc' := 90) rfl rfl rfl ?_
              refine go_ishl (pc' := 91) rfl rfl ?_
              refine go_iconst (pc' := 92) (v := (nI 1)) rfl rfl rfl ?_
              refine go_iload (pc' := 94) rfl rfl rfl ?_
              refine go_ishl (pc' := 95) rfl rfl ?_
              refine go_ior (pc' := 96) rfl rfl ?_
              refine go_ixor (pc' := 97) rfl rfl ?_
              obtain ⟨r_97, I_97, q_97, h⟩ := o_b2E h
              refine go_callV (pc' := 100) (B' := (0, 0)) (st' := [.inl r_97, .inl x3_75]) rfl rfl (Or.inl (by decide)) rfl rfl hth (md_29 (by omega) hth q_97) rfl rfl rfl ?_
              refine go_ior (pc' := 101) rfl rfl ?_
              obtain ⟨x3_101, ex3_101, h⟩ := o_b1E h
              refine go_ndI ex3_101 ?_
              refine go_istore_n (pc' := 102) (lo' := [some (.inr (.inr th)), some (.inr (.inr a0)), some (.inr (.inr a1)), some (.inl x3_101), some (.inl v4_5), some (.inl v5_17)]) rfl rfl rfl ?_
              obtain ⟨x5_102, ex5_102, h⟩ := o_b1E h
              refine go_iincE (pc' := 105) rfl rfl (y := (nI 1)) rfl ex5_102 (lo' := [some (.inr (.inr th)), some (.inr (.inr a0)), some (.inr (.inr a1)), some (.inl x3_101), some (.inl v4_5), some (.inl x5_102)]) rfl rfl ?_
              refine go_goto (pc' := 17) rfl rfl ?_
              exact (lp_backE h hk17 :))
      exact lo17 _ (v3_5, (nI 0), I_5) hl17 )
  exact lo5 _ ((nI 0), (nI 0), I) hl5 none
def m_332_x5_20 (Ix_20 : ai_I) : Option (ai_I) :=
  some Ix_20
def m_332_b5 (a0 : Nat) (a1 : Int32) (G : ai_G) (x3_4 : Int32) (v2_5 : Int32) (I_5 : ai_I) : Option ((Int32 × ai_I) ⊕ ai_I) :=
  if x3_4 ≤ v2_5 then (some (Sum.inr I_5)) else (o_g (o_in G 13 a0 v2_5) (o_b1 (some (va_up I_5 a0 (va_up (I_5 a0) v2_5.toNatClampNeg a1))) (fun I_13 => o_b1 (some (v2_5 + (nI 1))) (fun x2_14 => some (Sum.inl (x2_14, I_13))))))
/-- java/util/Arrays.fill([II)V -/
def m_332 (a0 : Nat) (a1 : Int32) (I : ai_I) (G : ai_G) : Option (ai_I) :=
  o_g (o_al G a0) (o_b1 (some (Int32.ofNat (G.2.1 a0))) (fun x3_4 => o_s1 (lp (fun s => m_332_b5 a0 a1 G x3_4 s.1 s.2) o_N ((nI 0), I)) (fun t => m_332_x5_20 t)))
theorem md_332 {d : Nat} {I : ai_I} {J : ai_J} {Rf : ai_R} {G : ai_G} {a0 : Nat} {a1 : Int32} {I1 : ai_I} (hd : 1 ≤ d) (h : m_332 a0 a1 I G = some I1) : ai_Cl si_t si_ms d 332 [.inr (.inr a0), .inl a1] I J Rf G none I1 J Rf G := by
  obtain ⟨e, rfl⟩ : ∃ e, d = e + 1 := ⟨d - 1, by omega⟩
  unfold m_332 at h
  refine sp_in (lo := [some (.inr (.inr a0)), some (.inl a1), none, none]) (B := (0, 0)) rfl (Nat.le_of_ble_eq_true rfl) rfl rfl ?_
  refine go_iconst (pc' := 1) (v := (nI 0)) rfl rfl rfl ?_
  refine go_istore_n (pc' := 2) (lo' := [some (.inr (.inr a0)), some (.inl a1), some (.inl (nI 0)), none]) rfl rfl rfl ?_
  refine go_aload_n (pc' := 3) rfl rfl rfl ?_
  obtain ⟨g0, h⟩ := o_gE h
  refine go_alen (pc' := 4) (n := G.2.1 a0) rfl (o_alE g0) rfl rfl ?_
  obtain ⟨x3_4, ex3_4, h⟩ := o_b1E h
  refine go_ndI ex3_4 ?_
  refine go_istore_n (pc' := 5) (lo' := [some (.inr (.inr a0)), some (.inl a1), some (.inl (nI 0)), some (.inl x3_4)]) rfl rfl rfl ?_
  obtain ⟨q5, hl5, hc5_20⟩ := o_s1E h
  have ex5_20 : ∀ (Ix_20 : ai_I) (z2_x20 : Option ai_V), Ix_20 = q5 → ai_Go si_t (24, false, 9, cd_332) (ai_Cl si_t si_ms e) (sp_Q none I1 J Rf G) 20 [some (.inr (.inr a0)), some (.inl a1), z2_x20, some (.inl x3_4)] [] (0, 0) Ix_20 J Rf G := by
    intro Ix_20 z2_x20 hq
    have h : m_332_x5_20 Ix_20 = some I1 := hc5_20 Ix_20 hq.symm
    unfold m_332_x5_20 at h
    cases h
    exact go_vret rfl (rfl) ⟨rfl, rfl, rfl, rfl, rfl⟩
  have lo5 : ∀ n s, lp (fun s => m_332_b5 a0 a1 G x3_4 s.1 s.2) n s = some q5 → (fun s => ai_Go si_t (24, false, 9, cd_332) (ai_Cl si_t si_ms e) (sp_Q none I1 J Rf G) 5 [some (.inr (.inr a0)), some (.inl a1), some (.inl s.1), some (.inl x3_4)] [] (0, 0) s.2 J Rf G) s := lp_go (fun s x5 hx hk5 => by
    obtain ⟨v2_5, I_5⟩ := s
    have h : m_332_b5 a0 a1 G x3_4 v2_5 I_5 = some x5 := hx
    clear hx
    show ai_Go si_t (24, false, 9, cd_332) (ai_Cl si_t si_ms e) (sp_Q none I1 J Rf G) 5 [some (.inr (.inr a0)), some (.inl a1), some (.inl v2_5), some (.inl x3_4)] [] (0, 0) I_5 J Rf G
    unfold m_332_b5 at h
    refine go_iload_n (pc' := 6) rfl rfl rfl ?_
    refine go_iload_n (pc' := 7) rfl rfl rfl ?_
    refine go_icmp_ge (pt := 20) (pc' := 10) rfl rfl rfl (fun h7 => ?_) (fun h7 => ?_)
    · replace h := o_t h7 h
      exact ex5_20 _ (some (.inl v2_5)) (lp_exitE h hk5)
    · replace h := o_f h7 h
      refine go_aload_n (pc' := 11) rfl rfl rfl ?_
      refine go_iload_n (pc' := 12) rfl rfl rfl ?_
      refine go_iload_n (pc' := 13) rfl rfl rfl ?_
      obtain ⟨g1, h⟩ := o_gE h
      obtain ⟨I_13, eI_13, h⟩ := o_b1E h
      refine go_iastore (pc' := 14) rfl (o_inK g1) (o_inB g1) rfl ?_
      refine go_ndMI eI_13 ?_
      obtain ⟨x2_14, ex2_14, h⟩ := o_b1E h
      refine go_iincE (pc' := 17) rfl rfl (y := (nI 1)) rfl ex2_14 (lo' := [some (.inr (.inr a0)), some (.inl a1), some (.inl x2_14), some (.inl x3_4)]) rfl rfl ?_
      refine go_goto (pc' := 5) rfl rfl ?_
      exact (lp_backE h hk5 :))
  exact lo5 _ ((nI 0), I) hl5 
def m_27_x19_36 (Ix_36 : ai_I) : Option (Int32 × ai_I) :=
  some ((nI 1), Ix_36)
def m_27_x19_44 (Ix_44 : ai_I) : Option (Int32 × ai_I) :=
  some ((nI 0), Ix_44)
def m_27_b19 (th : Nat) (a0 : Nat) (a1 : Nat) (Rf : ai_R) (G : ai_G) (v3_19 : Int32) (I_19 : ai_I) : Option ((Int32 × ai_I) ⊕ (ai_I ⊕ ai_I)) :=
  o_g (o_kd G a0 8) (if (I_19 a0 0) < v3_19 then (some (Sum.inr (Sum.inr I_19))) else (o_b2 (m_28 th a0 a1 I_19 Rf G) (fun r_30 I_30 => if r_30 = 0 then (some (Sum.inr (Sum.inl I_30))) else (o_b1 (some (v3_19 + (nI 1))) (fun x3_38 => some (Sum.inl (x3_38, I_30)))))))
/-- PricedBases$Couple.hasPotentials(LPricedBases$Valuation;LPricedBases$Valuation;)Z -/
def m_27 (th : Nat) (a0 : Nat) (a1 : Nat) (I : ai_I) (Rf : ai_R) (G : ai_G) : Option (Int32 × ai_I) :=
  if (I th 0) = 0 then (some ((nI 0), I)) else (o_b1 (m_332 (Rf th 3) (nI 0) I G) (fun I_14 => o_s2 (lp (fun s => m_27_b19 th a0 a1 Rf G s.1 s.2) o_N ((nI 0), I_14)) (fun t => m_27_x19_36 t) (fun t => m_27_x19_44 t)))
theorem md_27 {d : Nat} {I : ai_I} {J : ai_J} {Rf : ai_R} {G : ai_G} {th : Nat} {a0 : Nat} {a1 : Nat} {r : Int32} {I1 : ai_I} (hd : 5 ≤ d) (hth : G.1 th = 1) (h : m_27 th a0 a1 I Rf G = some (r, I1)) : ai_Cl si_t si_ms d 27 [.inr (.inr th), .inr (.inr a0), .inr (.inr a1)] I J Rf G (some (.inl r)) I1 J Rf G := by
  obtain ⟨e, rfl⟩ : ∃ e, d = e + 1 := ⟨d - 1, by omega⟩
  unfold m_27 at h
  refine sp_in (lo := [some (.inr (.inr th)), some (.inr (.inr a0)), some (.inr (.inr a1)), none]) (B := (0, 0)) rfl (Nat.le_of_ble_eq_true rfl) rfl rfl ?_
  refine go_aload_n (pc' := 1) rfl rfl rfl ?_
  refine go_getI (pc' := 4) rfl rfl (by decide) (by decide) hth rfl ?_
  refine go_if_ne (pt := 9) (pc' := 7) rfl rfl rfl (fun h4 => ?_) (fun h4 => ?_)
  · replace h := o_f h4 h
    refine go_aload_n (pc' := 10) rfl rfl rfl ?_
    refine go_getR (pc' := 13) rfl rfl hth rfl ?_
    refine go_iconst (pc' := 14) (v := (nI 0)) rfl rfl rfl ?_
    obtain ⟨I_14, q_14, h⟩ := o_b1E h
    refine go_callS (pc' := 17) (B' := (0, 0)) (st' := []) rfl rfl (Or.inl (by decide)) rfl rfl trivial (md_332 (by omega) q_14) rfl rfl rfl ?_
    refine go_iconst (pc' := 18) (v := (nI 0)) rfl rfl rfl ?_
    refine go_istore_n (pc' := 19) (lo' := [some (.inr (.inr th)), some (.inr (.inr a0)), some (.inr (.inr a1)), some (.inl (nI 0))]) rfl rfl rfl ?_
    obtain ⟨q19, hl19, hc19_36, hc19_44⟩ := o_s2E h
    have ex19_36 : ∀ (Ix_36 : ai_I) (z3_x36 : Option ai_V), (Sum.inl Ix_36) = q19 → ai_Go si_t (1, false, 3, cd_27) (ai_Cl si_t si_ms e) (sp_Q (some (.inl r)) I1 J Rf G) 36 [some (.inr (.inr th)), some (.inr (.inr a0)), some (.inr (.inr a1)), z3_x36] [] (0, 0) Ix_36 J Rf G := by
      intro Ix_36 z3_x36 hq
      have h : m_27_x19_36 Ix_36 = some (r, I1) := hc19_36 Ix_36 hq.symm
      unfold m_27_x19_36 at h
      refine go_iconst (pc' := 37) (v := (nI 1)) rfl rfl rfl ?_
      cases h
      exact go_iret rfl (rfl) ⟨rfl, rfl, rfl, rfl, rfl⟩
    have ex19_44 : ∀ (Ix_44 : ai_I) (z3_x44 : Option ai_V), (Sum.inr Ix_44) = q19 → ai_Go si_t (1, false, 3, cd_27) (ai_Cl si_t si_ms e) (sp_Q (some (.inl r)) I1 J Rf G) 44 [some (.inr (.inr th)), some (.inr (.inr a0)), some (.inr (.inr a1)), z3_x44] [] (0, 0) Ix_44 J Rf G := by
      intro Ix_44 z3_x44 hq
      have h : m_27_x19_44 Ix_44 = some (r, I1) := hc19_44 Ix_44 hq.symm
      unfold m_27_x19_44 at h
      refine go_iconst (pc' := 45) (v := (nI 0)) rfl rfl rfl ?_
      cases h
      exact go_iret rfl (rfl) ⟨rfl, rfl, rfl, rfl, rfl⟩
    have lo19 : ∀ n s, lp (fun s => m_27_b19 th a0 a1 Rf G s.1 s.2) n s = some q19 → (fun s => ai_Go si_t (1, false, 3, cd_27) (ai_Cl si_t si_ms e) (sp_Q (some (.inl r)) I1 J Rf G) 19 [some (.inr (.inr th)), some (.inr (.inr a0)), some (.inr (.inr a1)), some (.inl s.1)] [] (0, 0) s.2 J Rf G) s := lp_go (fun s x19 hx hk19 => by
      obtain ⟨v3_19, I_19⟩ := s
      have h : m_27_b19 th a0 a1 Rf G v3_19 I_19 = some x19 := hx
      clear hx
      show ai_Go si_t (1, false, 3, cd_27) (ai_Cl si_t si_ms e) (sp_Q (some (.inl r)) I1 J Rf G) 19 [some (.inr (.inr th)), some (.inr (.inr a0)), some (.inr (.inr a1)), some (.inl v3_19)] [] (0, 0) I_19 J Rf G
      unfold m_27_b19 at h
      refine go_iload_n (pc' := 20) rfl rfl rfl ?_
      refine go_aload_n (pc' := 21) rfl rfl rfl ?_
      obtain ⟨g0, h⟩ := o_gE h
      refine go_getI (pc' := 24) rfl rfl (by decide) (by decide) (o_kdE g0) rfl ?_
      refine go_icmp_gt (pt := 44) (pc' := 27) rfl rfl rfl (fun h24 => ?_) (fun h24 => ?_)
      · replace h := o_t h24 h
        exact ex19_44 _ (some (.inl v3_19)) (lp_exitE h hk19)
      · replace h := o_f h24 h
        refine go_aload_n (pc' := 28) rfl rfl rfl ?_
        refine go_aload_n (pc' := 29) rfl rfl rfl ?_
        refine go_aload_n (pc' := 30) rfl rfl rfl ?_
        obtain ⟨r_30, I_30, q_30, h⟩ := o_b2E h
        refine go_callV (pc' := 33) (B' := (0, 0)) (st' := [.inl r_30]) rfl rfl (Or.inl (by decide)) rfl rfl hth (md_28 (by omega) hth q_30) rfl rfl rfl ?_
        refine go_if_ne (pt := 38) (pc' := 36) rfl rfl rfl (fun h33 => ?_) (fun h33 => ?_)
        · replace h := o_f h33 h
          obtain ⟨x3_38, ex3_38, h⟩ := o_b1E h
          refine go_iincE (pc' := 41) rfl rfl (y := (nI 1)) rfl ex3_38 (lo' := [some (.inr (.inr th)), some (.inr (.inr a0)), some (.inr (.inr a1)), some (.inl x3_38)]) rfl rfl ?_
          refine go_goto (pc' := 19) rfl rfl ?_
          exact (lp_backE h hk19 :)
        · replace h := o_t (Decidable.of_not_not h33) h
          exact ex19_36 _ (some (.inl v3_19)) (lp_exitE h hk19))
    exact lo19 _ ((nI 0), I_14) hl19 
  · replace h := o_t (Decidable.of_not_not h4) h
    refine go_iconst (pc' := 8) (v := (nI 0)) rfl rfl rfl ?_
    cases h
    exact go_iret rfl (rfl) ⟨rfl, rfl, rfl, rfl, rfl⟩
def m_30_x10_97 (w2_97 : Int32) (w3_97 : Int32) (w4_97 : Int32) : Option (Int32) :=
  if w4_97 = 0 then (some (-2 : Int32)) else (some (w2_97 - w3_97))
def m_30_j70 (v3_10 : Int32) (v4_10 : Int32) (v5_10 : Int32) (x7_52 : Int32) (t0_70 : Int32) : Option ((Int32 × Int32 × Int32 × Int32) ⊕ (Int32 × Int32 × Int32)) :=
  if v4_10 = 0 then (o_b1 (some (v5_10 + (nI 1))) (fun x5_91 => some (Sum.inl (t0_70, x7_52, (nI 1), x5_91)))) else (o_b1 (some (if x7_52 < v3_10 then x7_52 else v3_10)) (fun r_79 => o_b1 (some (v5_10 + (nI 1))) (fun x5_91 => some (Sum.inl (t0_70, r_79, (nI 1), x5_91)))))
def m_30_b10 (a0 : Nat) (a1 : Nat) (I : ai_I) (Rf : ai_R) (G : ai_G) (v2_10 : Int32) (v3_10 : Int32) (v4_10 : Int32) (v5_10 : Int32) : Option ((Int32 × Int32 × Int32 × Int32) ⊕ (Int32 × Int32 × Int32)) :=
  o_g (o_kd G a0 8) (if (I a0 2) ≤ v5_10 then (some (Sum.inr (v2_10, v3_10, v4_10))) else (o_g (o_in G 13 (Rf a0 5) v5_10) (o_b1 (some (I (Rf a0 5) v5_10.toNatClampNeg)) (fun x6_26 => o_g (o_kd G a1 8) (o_b1 (m_122 a1 x6_26 I Rf G) (fun r_31 => if r_31 = 0 then (o_b1 (some (v5_10 + (nI 1))) (fun x5_91 => some (Sum.inl (v2_10, v3_10, v4_10, x5_91)))) else (o_g (o_in G 13 (Rf a0 3) x6_26) (o_g (o_in G 13 (Rf a1 3) x6_26) (o_b1 (some ((I (Rf a0 3) x6_26.toNatClampNeg) - (I (Rf a1 3) x6_26.toNatClampNeg))) (fun x7_52 => if v4_10 = 0 then (m_30_j70 v3_10 v4_10 v5_10 x7_52 x7_52) else (o_b1 (some (if v2_10 < x7_52 then x7_52 else v2_10)) (fun r_62 => m_30_j70 v3_10 v4_10 v5_10 x7_52 r_62))))))))))))
/-- PricedBases$Couple.spread(LPricedBases$Valuation;LPricedBases$Valuation;)I -/
def m_30 (a0 : Nat) (a1 : Nat) (I : ai_I) (Rf : ai_R) (G : ai_G) : Option (Int32) :=
  o_s1 (lp (fun s => m_30_b10 a0 a1 I Rf G s.1 s.2.1 s.2.2.1 s.2.2.2) o_N ((nI 0), (nI 0), (nI 0), (nI 0))) (fun t => m_30_x10_97 t.1 t.2.1 t.2.2)
theorem md_30 {d : Nat} {I : ai_I} {J : ai_J} {Rf : ai_R} {G : ai_G} {a0 : Nat} {a1 : Nat} {r : Int32} (hd : 3 ≤ d) (h : m_30 a0 a1 I Rf G = some r) : ai_Cl si_t si_ms d 30 [.inr (.inr a0), .inr (.inr a1)] I J Rf G (some (.inl r)) I J Rf G := by
  obtain ⟨e, rfl⟩ : ∃ e, d = e + 1 := ⟨d - 1, by omega⟩
  unfold m_30 at h
  refine sp_in (lo := [some (.inr (.inr a0)), some (.inr (.inr a1)), none, none, none, none, none, none]) (B := (0, 0)) rfl (Nat.le_of_ble_eq_true rfl) rfl rfl ?_
  refine go_iconst (pc' := 1) (v := (nI 0)) rfl rfl rfl ?_
  refine go_istore_n (pc' := 2) (lo' := [some (.inr (.inr a0)), some (.inr (.inr a1)), some (.inl (nI 0)), none, none, none, none, none]) rfl rfl rfl ?_
  refine go_iconst (pc' := 3) (v := (nI 0)) rfl rfl rfl ?_
  refine go_istore_n (pc' := 4) (lo' := [some (.inr (.inr a0)), some (.inr (.inr a1)), some (.inl (nI 0)), some (.inl (nI 0)), none, none, none, none]) rfl rfl rfl ?_
  refine go_iconst (pc' := 5) (v := (nI 0)) rfl rfl rfl ?_
  refine go_istore (pc' := 7) (lo' := [some (.inr (.inr a0)), some (.inr (.inr a1)), some (.inl (nI 0)), some (.inl (nI 0)), some (.inl (nI 0)), none, none, none]) rfl rfl rfl ?_
  refine go_iconst (pc' := 8) (v := (nI 0)) rfl rfl rfl ?_
  refine go_istore (pc' := 10) (lo' := [some (.inr (.inr a0)), some (.inr (.inr a1)), some (.inl (nI 0)), some (.inl (nI 0)), some (.inl (nI 0)), some (.inl (nI 0)), none, none]) rfl rfl rfl ?_
  obtain ⟨q10, hl10, hc10_97⟩ := o_s1E h
  have ex10_97 : ∀ (w2_97 : Int32) (w3_97 : Int32) (w4_97 : Int32) (z5_x97 : Option ai_V) (z6_x97 : Option ai_V) (z7_x97 : Option ai_V), (w2_97, w3_97, w4_97) = q10 → ai_Go si_t (1, false, 0, cd_30) (ai_Cl si_t si_ms e) (sp_Q (some (.inl r)) I J Rf G) 97 [some (.inr (.inr a0)), some (.inr (.inr a1)), some (.inl w2_97), some (.inl w3_97), some (.inl w4_97), z5_x97, z6_x97, z7_x97] [] (0, 0) I J Rf G := by
    intro w2_97 w3_97 w4_97 z5_x97 z6_x97 z7_x97 hq
    have h : m_30_x10_97 w2_97 w3_97 w4_97 = some r := hc10_97 (w2_97, w3_97, w4_97) hq.symm
    unfold m_30_x10_97 at h
    refine go_iload (pc' := 99) rfl rfl rfl ?_
    refine go_if_eq (pt := 108) (pc' := 102) rfl rfl rfl (fun h99 => ?_) (fun h99 => ?_)
    · replace h := o_t h99 h
      refine go_bipush (pc' := 110) (v := (-2 : Int32)) rfl rfl rfl ?_
      cases h
      exact go_iret rfl (trivial) ⟨rfl, rfl, rfl, rfl, rfl⟩
    · replace h := o_f h99 h
      refine go_iload_n (pc' := 103) rfl rfl rfl ?_
      refine go_iload_n (pc' := 104) rfl rfl rfl ?_
      refine go_isub (pc' := 105) rfl rfl ?_
      refine go_goto (pc' := 110) rfl rfl ?_
      cases h
      exact go_iret rfl (trivial) ⟨rfl, rfl, rfl, rfl, rfl⟩
  have lo10 : ∀ n s, lp (fun s => m_30_b10 a0 a1 I Rf G s.1 s.2.1 s.2.2.1 s.2.2.2) n s = some q10 → (fun s => ∀ (z6_10 : Option ai_V) (z7_10 : Option ai_V), ai_Go si_t (1, false, 0, cd_30) (ai_Cl si_t si_ms e) (sp_Q (some (.inl r)) I J Rf G) 10 [some (.inr (.inr a0)), some (.inr (.inr a1)), some (.inl s.1), some (.inl s.2.1), some (.inl s.2.2.1), some (.inl s.2.2.2), z6_10, z7_10] [] (0, 0) I J Rf G) s := lp_go (fun s x10 hx hk10 => by
    obtain ⟨v2_10, v3_10, v4_10, v5_10⟩ := s
    intro z6_10 z7_10
    have h : m_30_b10 a0 a1 I Rf G v2_10 v3_10 v4_10 v5_10 = some x10 := hx
    clear hx
    show ai_Go si_t (1, false, 0, cd_30) (ai_Cl si_t si_ms e) (sp_Q (some (.inl r)) I J Rf G) 10 [some (.inr (.inr a0)), some (.inr (.inr a1)), some (.inl v2_10), some (.inl v3_10), some (.inl v4_10), some (.inl v5_10), z6_10, z7_10] [] (0, 0) I J Rf G
    unfold m_30_b10 at h
    refine go_iload (pc' := 12) rfl rfl rfl ?_
    refine go_aload_n (pc' := 13) rfl rfl rfl ?_
    obtain ⟨g0, h⟩ := o_gE h
    refine go_getI (pc' := 16) rfl rfl (by decide) (by decide) (o_kdE g0) rfl ?_
    refine go_icmp_ge (pt := 97) (pc' := 19) rfl rfl rfl (fun h16 => ?_) (fun h16 => ?_)
    · replace h := o_t h16 h
      exact ex10_97 _ _ _ (some (.inl v5_10)) z6_10 z7_10 (lp_exitE h hk10)
    · replace h := o_f h16 h
      refine go_aload_n (pc' := 20) rfl rfl rfl ?_
      refine go_getR (pc' := 23) rfl rfl (o_kdE g0) rfl ?_
      refine go_iload (pc' := 25) rfl rfl rfl ?_
      obtain ⟨g1, h⟩ := o_gE h
      refine go_iaload (pc' := 26) rfl (o_inK g1) (o_inB g1) rfl ?_
      obtain ⟨x6_26, ex6_26, h⟩ := o_b1E h
      refine go_ndI ex6_26 ?_
      refine go_istore (pc' := 28) (lo' := [some (.inr (.inr a0)), some (.inr (.inr a1)), some (.inl v2_10), some (.inl v3_10), some (.inl v4_10), some (.inl v5_10), some (.inl x6_26), z7_10]) rfl rfl rfl ?_
      refine go_aload_n (pc' := 29) rfl rfl rfl ?_
      refine go_iload (pc' := 31) rfl rfl rfl ?_
      obtain ⟨g2, h⟩ := o_gE h
      obtain ⟨r_31, q_31, h⟩ := o_b1E h
      refine go_callV (pc' := 34) (B' := (0, 0)) (st' := [.inl r_31]) rfl rfl (Or.inl (by decide)) rfl rfl (o_kdE g2) (md_122 (by omega) (o_kdE g2) q_31) rfl rfl rfl ?_
      refine go_if_eq (pt := 91) (pc' := 37) rfl rfl rfl (fun h34 => ?_) (fun h34 => ?_)
      · replace h := o_t h34 h
        obtain ⟨x5_91, ex5_91, h⟩ := o_b1E h
        refine go_iincE (pc' := 94) rfl rfl (y := (nI 1)) rfl ex5_91 (lo' := [some (.inr (.inr a0)), some (.inr (.inr a1)), some (.inl v2_10), some (.inl v3_10), some (.inl v4_10), some (.inl x5_91), some (.inl x6_26), z7_10]) rfl rfl ?_
        refine go_goto (pc' := 10) rfl rfl ?_
        exact (lp_backE h hk10 (some (.inl x6_26)) z7_10 :)
      · replace h := o_f h34 h
        refine go_aload_n (pc' := 38) rfl rfl rfl ?_
        refine go_getR (pc' := 41) rfl rfl (o_kdE g0) rfl ?_
        refine go_iload (pc' := 43) rfl rfl rfl ?_
        obtain ⟨g3, h⟩ := o_gE h
        refine go_iaload (pc' := 44) rfl (o_inK g3) (o_inB g3) rfl ?_
        refine go_aload_n (pc' := 45) rfl rfl rfl ?_
        refine go_getR (pc' := 48) rfl rfl (o_kdE g2) rfl ?_
        refine go_iload (pc' := 50) rfl rfl rfl ?_
        obtain ⟨g4, h⟩ := o_gE h
        refine go_iaload (pc' := 51) rfl (o_inK g4) (o_inB g4) rfl ?_
        refine go_isub (pc' := 52) rfl rfl ?_
        obtain ⟨x7_52, ex7_52, h⟩ := o_b1E h
        refine go_ndI ex7_52 ?_
        refine go_istore (pc' := 54) (lo' := [some (.inr (.inr a0)), some (.inr (.inr a1)), some (.inl v2_10), some (.inl v3_10), some (.inl v4_10), some (.inl v5_10), some (.inl x6_26), some (.inl x7_52)]) rfl rfl rfl ?_
        refine go_iload (pc' := 56) rfl rfl rfl ?_
        have jn70 : ∀ (t0_70 : Int32), m_30_j70 v3_10 v4_10 v5_10 x7_52 t0_70 = some x10 → ai_Go si_t (1, false, 0, cd_30) (ai_Cl si_t si_ms e) (sp_Q (some (.inl r)) I J Rf G) 70 [some (.inr (.inr a0)), some (.inr (.inr a1)), some (.inl v2_10), some (.inl v3_10), some (.inl v4_10), some (.inl v5_10), some (.inl x6_26), some (.inl x7_52)] [.inl t0_70] (0, 0) I J Rf G := by
          intro t0_70 h
          unfold m_30_j70 at h
          refine go_istore_n (pc' := 71) (lo' := [some (.inr (.inr a0)), some (.inr (.inr a1)), some (.inl t0_70), some (.inl v3_10), some (.inl v4_10), some (.inl v5_10), some (.inl x6_26), some (.inl x7_52)]) rfl rfl rfl ?_
          refine go_iload (pc' := 73) rfl rfl rfl ?_
          refine go_if_eq (pt := 85) (pc' := 76) rfl rfl rfl (fun h73 => ?_) (fun h73 => ?_)
          · replace h := o_t h73 h
            refine go_iload (pc' := 87) rfl rfl rfl ?_
            refine go_istore_n (pc' := 88) (lo' := [some (.inr (.inr a0)), some (.inr (.inr a1)), some (.inl t0_70), some (.inl x7_52), some (.inl v4_10), some (.inl v5_10), some (.inl x6_26), some (.inl x7_52)]) rfl rfl rfl ?_
            refine go_iconst (pc' := 89) (v := (nI 1)) rfl rfl rfl ?_
            refine go_istore (pc' := 91) (lo' := [some (.inr (.inr a0)), some (.inr (.inr a1)), some (.inl t0_70), some (.inl x7_52), some (.inl (nI 1)), some (.inl v5_10), some (.inl x6_26), some (.inl x7_52)]) rfl rfl rfl ?_
            obtain ⟨x5_91, ex5_91, h⟩ := o_b1E h
            refine go_iincE (pc' := 94) rfl rfl (y := (nI 1)) rfl ex5_91 (lo' := [some (.inr (.inr a0)), some (.inr (.inr a1)), some (.inl t0_70), some (.inl x7_52), some (.inl (nI 1)), some (.inl x5_91), some (.inl x6_26), some (.inl x7_52)]) rfl rfl ?_
            refine go_goto (pc' := 10) rfl rfl ?_
            exact (lp_backE h hk10 (some (.inl x6_26)) (some (.inl x7_52)) :)
          · replace h := o_f h73 h
            refine go_iload_n (pc' := 77) rfl rfl rfl ?_
            refine go_iload (pc' := 79) rfl rfl rfl ?_
            refine go_min (pc' := 82) rfl rfl (Nat.le_of_ble_eq_true rfl) rfl ?_
            obtain ⟨r_79, er_79, h⟩ := o_b1E h
            refine go_ndI er_79 ?_
            refine go_goto (pc' := 87) rfl rfl ?_
            refine go_istore_n (pc' := 88) (lo' := [some (.inr (.inr a0)), some (.inr (.inr a1)), some (.inl t0_70), some (.inl r_79), some (.inl v4_10), some (.inl v5_10), some (.inl x6_26), some (.inl x7_52)]) rfl rfl rfl ?_
            refine go_iconst (pc' := 89) (v := (nI 1)) rfl rfl rfl ?_
            refine go_istore (pc' := 91) (lo' := [some (.inr (.inr a0)), some (.inr (.inr a1)), some (.inl t0_70), some (.inl r_79), some (.inl (nI 1)), some (.inl v5_10), some (.inl x6_26), some (.inl x7_52)]) rfl rfl rfl ?_
            obtain ⟨x5_91, ex5_91, h⟩ := o_b1E h
            refine go_iincE (pc' := 94) rfl rfl (y := (nI 1)) rfl ex5_91 (lo' := [some (.inr (.inr a0)), some (.inr (.inr a1)), some (.inl t0_70), some (.inl r_79), some (.inl (nI 1)), some (.inl x5_91), some (.inl x6_26), some (.inl x7_52)]) rfl rfl ?_
            refine go_goto (pc' := 10) rfl rfl ?_
            exact (lp_backE h hk10 (some (.inl x6_26)) (some (.inl x7_52)) :)
        refine go_if_eq (pt := 68) (pc' := 59) rfl rfl rfl (fun h56 => ?_) (fun h56 => ?_)
        · replace h := o_t h56 h
          refine go_iload (pc' := 70) rfl rfl rfl ?_
          exact jn70 x7_52 h
        · replace h := o_f h56 h
          refine go_iload_n (pc' := 60) rfl rfl rfl ?_
          refine go_iload (pc' := 62) rfl rfl rfl ?_
          refine go_max (pc' := 65) rfl rfl (Nat.le_of_ble_eq_true rfl) rfl ?_
          obtain ⟨r_62, er_62, h⟩ := o_b1E h
          refine go_ndI er_62 ?_
          refine go_goto (pc' := 70) rfl rfl ?_
          exact jn70 r_62 h)
  exact lo10 _ ((nI 0), (nI 0), (nI 0), (nI 0)) hl10 none none
