/-! Models of methods and their proofs, piece 19. Printed by wip/whole/pr10.py. -/
def m_310_x68_108 (th : Nat) (a1 : Int32) (Rf : ai_R) (G : ai_G) (Ix_108 : ai_I) : Option (Int32 × ai_I) :=
  if a1 = (-1 : Int32) then (some (Ix_108 th 30, Ix_108)) else (if (Ix_108 th 30) ≤ a1 then (some ((-4 : Int32), Ix_108)) else (o_g (o_in G 12 (Rf th 29) a1) (some (Ix_108 (Rf th 29) a1.toNatClampNeg, Ix_108))))
def m_310_b68 (th : Nat) (a0 : Int32) (Rf : ai_R) (G : ai_G) (v3_68 : Int32) (I_68 : ai_I) : Option ((Int32 × ai_I) ⊕ ai_I) :=
  if (nI 256) ≤ v3_68 then (some (Sum.inr I_68)) else (o_b1 (m_199 th a0 v3_68 I_68 Rf G) (fun r_78 => if r_78 = 0 then (o_b1 (some (v3_68 + (nI 1))) (fun x3_102 => some (Sum.inl (x3_102, I_68)))) else (o_b1 (m_309 th v3_68 I_68 Rf G) (fun I_89 => o_b1 (m_198 th a0 v3_68 I_89 Rf G) (fun r_96 => o_b1 (m_309 th r_96 I_89 Rf G) (fun I_99 => o_b1 (some (v3_68 + (nI 1))) (fun x3_102 => some (Sum.inl (x3_102, I_99)))))))))
/-- PricedBasesModel.told(II)I -/
def m_310 (th : Nat) (a0 : Int32) (a1 : Int32) (I : ai_I) (Rf : ai_R) (G : ai_G) : Option (Int32 × ai_I) :=
  o_b1 (m_200 a0) (fun r_1 => if r_1 = 0 then (some ((-1 : Int32), I)) else (if (-1 : Int32) ≤ a1 then (o_b1 (some (va_up I th (va_up (I th) 30 (nI 0)))) (fun I_16 => o_b1 (m_308 th (nI 116) I_16 Rf G) (fun I_22 => o_b1 (m_308 th (nI 111) I_22 Rf G) (fun I_28 => o_b1 (m_308 th (nI 108) I_28 Rf G) (fun I_34 => o_b1 (m_308 th (nI 100) I_34 Rf G) (fun I_40 => o_b1 (m_309 th a0 I_40 Rf G) (fun I_45 => o_b1 (m_195 th a0 I_45 Rf G) (fun r_51 => o_b1 (m_309 th r_51 I_45 Rf G) (fun I_54 => o_b1 (m_196 th a0 I_54 Rf G) (fun r_60 => o_b1 (m_309 th r_60 I_54 Rf G) (fun I_63 => o_s1 (lp (fun s => m_310_b68 th a0 Rf G s.1 s.2) o_N ((nI 0), I_63)) (fun t => m_310_x68_108 th a1 Rf G t)))))))))))) else (some ((-1 : Int32), I))))
theorem md_310 {d : Nat} {I : ai_I} {J : ai_J} {Rf : ai_R} {G : ai_G} {th : Nat} {a0 : Int32} {a1 : Int32} {r : Int32} {I1 : ai_I} (hd : 3 ≤ d) (hth : G.1 th = 11) (h : m_310 th a0 a1 I Rf G = some (r, I1)) : ai_Cl si_t si_ms d 310 [.inr (.inr th), .inl a0, .inl a1] I J Rf G (some (.inl r)) I1 J Rf G := by
  obtain ⟨e, rfl⟩ : ∃ e, d = e + 1 := ⟨d - 1, by omega⟩
  unfold m_310 at h
  refine sp_in (lo := [some (.inr (.inr th)), some (.inl a0), some (.inl a1), none]) (B := (0, 0)) rfl (Nat.le_of_ble_eq_true rfl) rfl rfl ?_
  refine go_iload_n (pc' := 1) rfl rfl rfl ?_
  obtain ⟨r_1, q_1, h⟩ := o_b1E h
  refine go_callS (pc' := 4) (B' := (0, 0)) (st' := [.inl r_1]) rfl rfl (Or.inl (by decide)) rfl rfl trivial (md_200 (by omega) q_1) rfl rfl rfl ?_
  refine go_if_eq (pt := 12) (pc' := 7) rfl rfl rfl (fun h4 => ?_) (fun h4 => ?_)
  · replace h := o_t h4 h
    refine go_iconst (pc' := 13) (v := (-1 : Int32)) rfl rfl rfl ?_
    cases h
    exact go_iret rfl (trivial) ⟨rfl, rfl, rfl, rfl, rfl⟩
  · replace h := o_f h4 h
    refine go_iload_n (pc' := 8) rfl rfl rfl ?_
    refine go_iconst (pc' := 9) (v := (-1 : Int32)) rfl rfl rfl ?_
    refine go_icmp_ge (pt := 14) (pc' := 12) rfl rfl rfl (fun h9 => ?_) (fun h9 => ?_)
    · replace h := o_t h9 h
      refine go_aload_n (pc' := 15) rfl rfl rfl ?_
      refine go_iconst (pc' := 16) (v := (nI 0)) rfl rfl rfl ?_
      obtain ⟨I_16, eI_16, h⟩ := o_b1E h
      refine go_putI (pc' := 19) rfl rfl (fun h => by cases h) hth rfl ?_
      refine go_ndMI eI_16 ?_
      refine go_aload_n (pc' := 20) rfl rfl rfl ?_
      refine go_bipush (pc' := 22) (v := (nI 116)) rfl rfl rfl ?_
      obtain ⟨I_22, q_22, h⟩ := o_b1E h
      refine go_callV (pc' := 25) (B' := (0, 0)) (st' := []) rfl rfl (Or.inl (by decide)) rfl rfl hth (md_308 (by omega) hth q_22) rfl rfl rfl ?_
      refine go_aload_n (pc' := 26) rfl rfl rfl ?_
      refine go_bipush (pc' := 28) (v := (nI 111)) rfl rfl rfl ?_
      obtain ⟨I_28, q_28, h⟩ := o_b1E h
      refine go_callV (pc' := 31) (B' := (0, 0)) (st' := []) rfl rfl (Or.inl (by decide)) rfl rfl hth (md_308 (by omega) hth q_28) rfl rfl rfl ?_
      refine go_aload_n (pc' := 32) rfl rfl rfl ?_
      refine go_bipush (pc' := 34) (v := (nI 108)) rfl rfl rfl ?_
      obtain ⟨I_34, q_34, h⟩ := o_b1E h
      refine go_callV (pc' := 37) (B' := (0, 0)) (st' := []) rfl rfl (Or.inl (by decide)) rfl rfl hth (md_308 (by omega) hth q_34) rfl rfl rfl ?_
      refine go_aload_n (pc' := 38) rfl rfl rfl ?_
      refine go_bipush (pc' := 40) (v := (nI 100)) rfl rfl rfl ?_
      obtain ⟨I_40, q_40, h⟩ := o_b1E h
      refine go_callV (pc' := 43) (B' := (0, 0)) (st' := []) rfl rfl (Or.inl (by decide)) rfl rfl hth (md_308 (by omega) hth q_40) rfl rfl rfl ?_
      refine go_aload_n (pc' := 44) rfl rfl rfl ?_
      refine go_iload_n (pc' := 45) rfl rfl rfl ?_
      obtain ⟨I_45, q_45, h⟩ := o_b1E h
      refine go_callV (pc' := 48) (B' := (0, 0)) (st' := []) rfl rfl (Or.inl (by decide)) rfl rfl hth (md_309 (by omega) hth q_45) rfl rfl rfl ?_
      refine go_aload_n (pc' := 49) rfl rfl rfl ?_
      refine go_aload_n (pc' := 50) rfl rfl rfl ?_
      refine go_iload_n (pc' := 51) rfl rfl rfl ?_
      obtain ⟨r_51, q_51, h⟩ := o_b1E h
      refine go_callV (pc' := 54) (B' := (0, 0)) (st' := [.inl r_51, .inr (.inr th)]) rfl rfl (Or.inl (by decide)) rfl rfl hth (md_195 (by omega) hth q_51) rfl rfl rfl ?_
      obtain ⟨I_54, q_54, h⟩ := o_b1E h
      refine go_callV (pc' := 57) (B' := (0, 0)) (st' := []) rfl rfl (Or.inl (by decide)) rfl rfl hth (md_309 (by omega) hth q_54) rfl rfl rfl ?_
      refine go_aload_n (pc' := 58) rfl rfl rfl ?_
      refine go_aload_n (pc' := 59) rfl rfl rfl ?_
      refine go_iload_n (pc' := 60) rfl rfl rfl ?_
      obtain ⟨r_60, q_60, h⟩ := o_b1E h
      refine go_callV (pc' := 63) (B' := (0, 0)) (st' := [.inl r_60, .inr (.inr th)]) rfl rfl (Or.inl (by decide)) rfl rfl hth (md_196 (by omega) hth q_60) rfl rfl rfl ?_
      obtain ⟨I_63, q_63, h⟩ := o_b1E h
      refine go_callV (pc' := 66) (B' := (0, 0)) (st' := []) rfl rfl (Or.inl (by decide)) rfl rfl hth (md_309 (by omega) hth q_63) rfl rfl rfl ?_
      refine go_iconst (pc' := 67) (v := (nI 0)) rfl rfl rfl ?_
      refine go_istore_n (pc' := 68) (lo' := [some (.inr (.inr th)), some (.inl a0), some (.inl a1), some (.inl (nI 0))]) rfl rfl rfl ?_
      obtain ⟨q68, hl68, hc68_108⟩ := o_s1E h
      have ex68_108 : ∀ (Ix_108 : ai_I) (z3_x108 : Option ai_V), Ix_108 = q68 → ai_Go si_t (11, false, 0, cd_310) (ai_Cl si_t si_ms e) (sp_Q (some (.inl r)) I1 J Rf G) 108 [some (.inr (.inr th)), some (.inl a0), some (.inl a1), z3_x108] [] (0, 0) Ix_108 J Rf G := by
        intro Ix_108 z3_x108 hq
        have h : m_310_x68_108 th a1 Rf G Ix_108 = some (r, I1) := hc68_108 Ix_108 hq.symm
        unfold m_310_x68_108 at h
        refine go_iload_n (pc' := 109) rfl rfl rfl ?_
        refine go_iconst (pc' := 110) (v := (-1 : Int32)) rfl rfl rfl ?_
        refine go_icmp_ne (pt := 120) (pc' := 113) rfl rfl rfl (fun h110 => ?_) (fun h110 => ?_)
        · replace h := o_f h110 h
          refine go_iload_n (pc' := 121) rfl rfl rfl ?_
          refine go_aload_n (pc' := 122) rfl rfl rfl ?_
          refine go_getI (pc' := 125) rfl rfl (by decide) (by decide) hth rfl ?_
          refine go_icmp_ge (pt := 137) (pc' := 128) rfl rfl rfl (fun h125 => ?_) (fun h125 => ?_)
          · replace h := o_t h125 h
            refine go_bipush (pc' := 139) (v := (-4 : Int32)) rfl rfl rfl ?_
            cases h
            exact go_iret rfl (trivial) ⟨rfl, rfl, rfl, rfl, rfl⟩
          · replace h := o_f h125 h
            refine go_aload_n (pc' := 129) rfl rfl rfl ?_
            refine go_getR (pc' := 132) rfl rfl hth rfl ?_
            refine go_iload_n (pc' := 133) rfl rfl rfl ?_
            obtain ⟨g0, h⟩ := o_gE h
            refine go_baload (pc' := 134) rfl (o_inK g0) (o_inB g0) rfl ?_
            refine go_goto (pc' := 139) rfl rfl ?_
            cases h
            exact go_iret rfl (trivial) ⟨rfl, rfl, rfl, rfl, rfl⟩
        · replace h := o_t (Decidable.of_not_not h110) h
          refine go_aload_n (pc' := 114) rfl rfl rfl ?_
          refine go_getI (pc' := 117) rfl rfl (by decide) (by decide) hth rfl ?_
          refine go_goto (pc' := 139) rfl rfl ?_
          cases h
          exact go_iret rfl (trivial) ⟨rfl, rfl, rfl, rfl, rfl⟩
      have lo68 : ∀ n s, lp (fun s => m_310_b68 th a0 Rf G s.1 s.2) n s = some q68 → (fun s => ai_Go si_t (11, false, 0, cd_310) (ai_Cl si_t si_ms e) (sp_Q (some (.inl r)) I1 J Rf G) 68 [some (.inr (.inr th)), some (.inl a0), some (.inl a1), some (.inl s.1)] [] (0, 0) s.2 J Rf G) s := lp_go (fun s x68 hx hk68 => by
        obtain ⟨v3_68, I_68⟩ := s
        have h : m_310_b68 th a0 Rf G v3_68 I_68 = some x68 := hx
        clear hx
        show ai_Go si_t (11, false, 0, cd_310) (ai_Cl si_t si_ms e) (sp_Q (some (.inl r)) I1 J Rf G) 68 [some (.inr (.inr th)), some (.inl a0), some (.inl a1), some (.inl v3_68)] [] (0, 0) I_68 J Rf G
        unfold m_310_b68 at h
        refine go_iload_n (pc' := 69) rfl rfl rfl ?_
        refine go_sipush (pc' := 72) (v := (nI 256)) rfl rfl rfl ?_
        refine go_icmp_ge (pt := 108) (pc' := 75) rfl rfl rfl (fun h72 => ?_) (fun h72 => ?_)
        · replace h := o_t h72 h
          exact ex68_108 _ (some (.inl v3_68)) (lp_exitE h hk68)
        · replace h := o_f h72 h
          refine go_aload_n (pc' := 76) rfl rfl rfl ?_
          refine go_iload_n (pc' := 77) rfl rfl rfl ?_
          refine go_iload_n (pc' := 78) rfl rfl rfl ?_
          obtain ⟨r_78, q_78, h⟩ := o_b1E h
          refine go_callV (pc' := 81) (B' := (0, 0)) (st' := [.inl r_78]) rfl rfl (Or.inl (by decide)) rfl rfl hth (md_199 (by omega) hth q_78) rfl rfl rfl ?_
          refine go_if_ne (pt := 87) (pc' := 84) rfl rfl rfl (fun h81 => ?_) (fun h81 => ?_)
          · replace h := o_f h81 h
            refine go_aload_n (pc' := 88) rfl rfl rfl ?_
            refine go_iload_n (pc' := 89) rfl rfl rfl ?_
            obtain ⟨I_89, q_89, h⟩ := o_b1E h
            refine go_callV (pc' := 92) (B' := (0, 0)) (st' := []) rfl rfl (Or.inl (by decide)) rfl rfl hth (md_309 (by omega) hth q_89) rfl rfl rfl ?_
            refine go_aload_n (pc' := 93) rfl rfl rfl ?_
            refine go_aload_n (pc' := 94) rfl rfl rfl ?_
            refine go_iload_n (pc' := 95) rfl rfl rfl ?_
            refine go_iload_n (pc' := 96) rfl rfl rfl ?_
            obtain ⟨r_96, q_96, h⟩ := o_b1E h
            refine go_callV (pc' := 99) (B' := (0, 0)) (st' := [.inl r_96, .inr (.inr th)]) rfl rfl (Or.inl (by decide)) rfl rfl hth (md_198 (by omega) hth q_96) rfl rfl rfl ?_
            obtain ⟨I_99, q_99, h⟩ := o_b1E h
            refine go_callV (pc' := 102) (B' := (0, 0)) (st' := []) rfl rfl (Or.inl (by decide)) rfl rfl hth (md_309 (by omega) hth q_99) rfl rfl rfl ?_
            obtain ⟨x3_102, ex3_102, h⟩ := o_b1E h
            refine go_iincE (pc' := 105) rfl rfl (y := (nI 1)) rfl ex3_102 (lo' := [some (.inr (.inr th)), some (.inl a0), some (.inl a1), some (.inl x3_102)]) rfl rfl ?_
            refine go_goto (pc' := 68) rfl rfl ?_
            exact (lp_backE h hk68 :)
          · replace h := o_t (Decidable.of_not_not h81) h
            refine go_goto (pc' := 102) rfl rfl ?_
            obtain ⟨x3_102, ex3_102, h⟩ := o_b1E h
            refine go_iincE (pc' := 105) rfl rfl (y := (nI 1)) rfl ex3_102 (lo' := [some (.inr (.inr th)), some (.inl a0), some (.inl a1), some (.inl x3_102)]) rfl rfl ?_
            refine go_goto (pc' := 68) rfl rfl ?_
            exact (lp_backE h hk68 :))
      exact lo68 _ ((nI 0), I_63) hl68 
    · replace h := o_f h9 h
      refine go_iconst (pc' := 13) (v := (-1 : Int32)) rfl rfl rfl ?_
      cases h
      exact go_iret rfl (trivial) ⟨rfl, rfl, rfl, rfl, rfl⟩
/-- PricedBasesModel.changesPlaces(II)V -/
def m_312 (th : Nat) (a0 : Int32) (a1 : Int32) (I : ai_I) (Rf : ai_R) (G : ai_G) : Option (ai_I) :=
  o_g (o_in G 13 (Rf th 31) a0) (o_b1 (some (I (Rf th 31) a0.toNatClampNeg)) (fun x3_6 => o_g (o_in G 13 (Rf th 31) a1) (o_g (o_in G 13 (Rf th 31) a0) (o_b1 (some (va_up I (Rf th 31) (va_up (I (Rf th 31)) a0.toNatClampNeg (I (Rf th 31) a1.toNatClampNeg)))) (fun I_18 => o_g (o_in G 13 (Rf th 31) a1) (o_b1 (some (va_up I_18 (Rf th 31) (va_up (I_18 (Rf th 31)) a1.toNatClampNeg x3_6))) (fun I_25 => some I_25)))))))
theorem md_312 {d : Nat} {I : ai_I} {J : ai_J} {Rf : ai_R} {G : ai_G} {th : Nat} {a0 : Int32} {a1 : Int32} {I1 : ai_I} (hd : 1 ≤ d) (hth : G.1 th = 11) (h : m_312 th a0 a1 I Rf G = some I1) : ai_Cl si_t si_ms d 312 [.inr (.inr th), .inl a0, .inl a1] I J Rf G none I1 J Rf G := by
  obtain ⟨e, rfl⟩ : ∃ e, d = e + 1 := ⟨d - 1, by omega⟩
  unfold m_312 at h
  refine sp_in (lo := [some (.inr (.inr th)), some (.inl a0), some (.inl a1), none]) (B := (0, 0)) rfl (Nat.le_of_ble_eq_true rfl) rfl rfl ?_
  refine go_aload_n (pc' := 1) rfl rfl rfl ?_
  refine go_getR (pc' := 4) rfl rfl hth rfl ?_
  refine go_iload_n (pc' := 5) rfl rfl rfl ?_
  obtain ⟨g0, h⟩ := o_gE h
  refine go_iaload (pc' := 6) rfl (o_inK g0) (o_inB g0) rfl ?_
  obtain ⟨x3_6, ex3_6, h⟩ := o_b1E h
  refine go_ndI ex3_6 ?_
  refine go_istore_n (pc' := 7) (lo' := [some (.inr (.inr th)), some (.inl a0), some (.inl a1), some (.inl x3_6)]) rfl rfl rfl ?_
  refine go_aload_n (pc' := 8) rfl rfl rfl ?_
  refine go_getR (pc' := 11) rfl rfl hth rfl ?_
  refine go_iload_n (pc' := 12) rfl rfl rfl ?_
  refine go_aload_n (pc' := 13) rfl rfl rfl ?_
  refine go_getR (pc' := 16) rfl rfl hth rfl ?_
  refine go_iload_n (pc' := 17) rfl rfl rfl ?_
  obtain ⟨g1, h⟩ := o_gE h
  refine go_iaload (pc' := 18) rfl (o_inK g1) (o_inB g1) rfl ?_
  obtain ⟨g2, h⟩ := o_gE h
  obtain ⟨I_18, eI_18, h⟩ := o_b1E h
  refine go_iastore (pc' := 19) rfl (o_inK g2) (o_inB g2) rfl ?_
  refine go_ndMI eI_18 ?_
  refine go_aload_n (pc' := 20) rfl rfl rfl ?_
  refine go_getR (pc' := 23) rfl rfl hth rfl ?_
  refine go_iload_n (pc' := 24) rfl rfl rfl ?_
  refine go_iload_n (pc' := 25) rfl rfl rfl ?_
  obtain ⟨g3, h⟩ := o_gE h
  obtain ⟨I_25, eI_25, h⟩ := o_b1E h
  refine go_iastore (pc' := 26) rfl (o_inK g3) (o_inB g3) rfl ?_
  refine go_ndMI eI_25 ?_
  cases h
  exact go_vret rfl (rfl) ⟨rfl, rfl, rfl, rfl, rfl⟩
def m_311_x80_110 (Ix_110 : ai_I) : Option (Int32 × ai_I) :=
  some ((nI 1), Ix_110)
def m_311_b80 (th : Nat) (Rf : ai_R) (G : ai_G) (v4_80 : Int32) (v5_80 : Int32) (I_80 : ai_I) : Option ((Int32 × Int32 × ai_I) ⊕ ai_I) :=
  if v5_80 ≤ v4_80 then (some (Sum.inr I_80)) else (o_b1 (m_312 th v4_80 v5_80 I_80 Rf G) (fun I_92 => o_b1 (some (v4_80 + (nI 1))) (fun x4_99 => o_b1 (some (v5_80 - (nI 1))) (fun x5_105 => some (Sum.inl (x4_99, x5_105, I_92))))))
def m_311_x42_64 (th : Nat) (a0 : Int32) (I : ai_I) (Rf : ai_R) (G : ai_G) (w2_32 : Int32) (w3_64 : Int32) : Option (Int32 × ai_I) :=
  o_b1 (m_312 th w2_32 w3_64 I Rf G) (fun I_67 => o_b1 (some (w2_32 + (nI 1))) (fun x4_73 => o_b1 (some (a0 - (nI 1))) (fun x5_78 => o_s1 (lp (fun s => m_311_b80 th Rf G s.1 s.2.1 s.2.2) o_N (x4_73, x5_78, I_67)) (fun t => m_311_x80_110 t))))
def m_311_b42 (th : Nat) (I : ai_I) (Rf : ai_R) (G : ai_G) (w2_32 : Int32) (v3_42 : Int32) : Option (Int32 ⊕ Int32) :=
  o_g (o_in G 13 (Rf th 31) v3_42) (o_g (o_in G 13 (Rf th 31) w2_32) (if (I (Rf th 31) w2_32.toNatClampNeg) ≤ (I (Rf th 31) v3_42.toNatClampNeg) then (some (Sum.inr v3_42)) else (o_b1 (some (v3_42 - (nI 1))) (fun x3_60 => some (Sum.inl x3_60)))))
def m_311_x4_32 (th : Nat) (a0 : Int32) (I : ai_I) (Rf : ai_R) (G : ai_G) (w2_32 : Int32) : Option (Int32 × ai_I) :=
  if 0 ≤ w2_32 then (o_b1 (some (a0 - (nI 1))) (fun x3_41 => o_s1 (lp (fun s => m_311_b42 th I Rf G w2_32 s) o_N x3_41) (fun t => m_311_x42_64 th a0 I Rf G w2_32 t))) else (some ((nI 0), I))
def m_311_b4 (th : Nat) (I : ai_I) (Rf : ai_R) (G : ai_G) (v2_4 : Int32) : Option (Int32 ⊕ Int32) :=
  if v2_4 < 0 then (some (Sum.inr v2_4)) else (o_g (o_in G 13 (Rf th 31) v2_4) (o_g (o_in G 13 (Rf th 31) (v2_4 + (nI 1))) (if (I (Rf th 31) v2_4.toNatClampNeg) ≤ (I (Rf th 31) (v2_4 + (nI 1)).toNatClampNeg) then (some (Sum.inr v2_4)) else (o_b1 (some (v2_4 - (nI 1))) (fun x2_28 => some (Sum.inl x2_28))))))
/-- PricedBasesModel.nextRow(I)Z -/
def m_311 (th : Nat) (a0 : Int32) (I : ai_I) (Rf : ai_R) (G : ai_G) : Option (Int32 × ai_I) :=
  o_b1 (some (a0 - (nI 2))) (fun x2_3 => o_s1 (lp (fun s => m_311_b4 th I Rf G s) o_N x2_3) (fun t => m_311_x4_32 th a0 I Rf G t))
theorem md_311 {d : Nat} {I : ai_I} {J : ai_J} {Rf : ai_R} {G : ai_G} {th : Nat} {a0 : Int32} {r : Int32} {I1 : ai_I} (hd : 2 ≤ d) (hth : G.1 th = 11) (h : m_311 th a0 I Rf G = some (r, I1)) : ai_Cl si_t si_ms d 311 [.inr (.inr th), .inl a0] I J Rf G (some (.inl r)) I1 J Rf G := by
  obtain ⟨e, rfl⟩ : ∃ e, d = e + 1 := ⟨d - 1, by omega⟩
  unfold m_311 at h
  refine sp_in (lo := [some (.inr (.inr th)), some (.inl a0), none, none, none, none]) (B := (0, 0)) rfl (Nat.le_of_ble_eq_true rfl) rfl rfl ?_
  refine go_iload_n (pc' := 1) rfl rfl rfl ?_
  refine go_iconst (pc' := 2) (v := (nI 2)) rfl rfl rfl ?_
  refine go_isub (pc' := 3) rfl rfl ?_
  obtain ⟨x2_3, ex2_3, h⟩ := o_b1E h
  refine go_ndI ex2_3 ?_
  refine go_istore_n (pc' := 4) (lo' := [some (.inr (.inr th)), some (.inl a0), some (.inl x2_3), none, none, none]) rfl rfl rfl ?_
  obtain ⟨q4, hl4, hc4_32⟩ := o_s1E h
  have ex4_32 : ∀ (w2_32 : Int32), w2_32 = q4 → ai_Go si_t (11, false, 3, cd_311) (ai_Cl si_t si_ms e) (sp_Q (some (.inl r)) I1 J Rf G) 32 [some (.inr (.inr th)), some (.inl a0), some (.inl w2_32), none, none, none] [] (0, 0) I J Rf G := by
    intro w2_32 hq
    have h : m_311_x4_32 th a0 I Rf G w2_32 = some (r, I1) := hc4_32 w2_32 hq.symm
    unfold m_311_x4_32 at h
    refine go_iload_n (pc' := 33) rfl rfl rfl ?_
    refine go_if_ge (pt := 38) (pc' := 36) rfl rfl rfl (fun h33 => ?_) (fun h33 => ?_)
    · replace h := o_t h33 h
      refine go_iload_n (pc' := 39) rfl rfl rfl ?_
      refine go_iconst (pc' := 40) (v := (nI 1)) rfl rfl rfl ?_
      refine go_isub (pc' := 41) rfl rfl ?_
      obtain ⟨x3_41, ex3_41, h⟩ := o_b1E h
      refine go_ndI ex3_41 ?_
      refine go_istore_n (pc' := 42) (lo' := [some (.inr (.inr th)), some (.inl a0), some (.inl w2_32), some (.inl x3_41), none, none]) rfl rfl rfl ?_
      obtain ⟨q42, hl42, hc42_64⟩ := o_s1E h
      have ex42_64 : ∀ (w3_64 : Int32), w3_64 = q42 → ai_Go si_t (11, false, 3, cd_311) (ai_Cl si_t si_ms e) (sp_Q (some (.inl r)) I1 J Rf G) 64 [some (.inr (.inr th)), some (.inl a0), some (.inl w2_32), some (.inl w3_64), none, none] [] (0, 0) I J Rf G := by
        intro w3_64 hq
        have h : m_311_x42_64 th a0 I Rf G w2_32 w3_64 = some (r, I1) := hc42_64 w3_64 hq.symm
        unfold m_311_x42_64 at h
        refine go_aload_n (pc' := 65) rfl rfl rfl ?_
        refine go_iload_n (pc' := 66) rfl rfl rfl ?_
        refine go_iload_n (pc' := 67) rfl rfl rfl ?_
        obtain ⟨I_67, q_67, h⟩ := o_b1E h
        refine go_callV (pc' := 70) (B' := (0, 0)) (st' := []) rfl rfl (Or.inl (by decide)) rfl rfl hth (md_312 (by omega) hth q_67) rfl rfl rfl ?_
        refine go_iload_n (pc' := 71) rfl rfl rfl ?_
        refine go_iconst (pc' := 72) (v := (nI 1)) rfl rfl rfl ?_
        refine go_iadd (pc' := 73) rfl rfl ?_
        obtain ⟨x4_73, ex4_73, h⟩ := o_b1E h
        refine go_ndI ex4_73 ?_
        refine go_istore (pc' := 75) (lo' := [some (.inr (.inr th)), some (.inl a0), some (.inl w2_32), some (.inl w3_64), some (.inl x4_73), none]) rfl rfl rfl ?_
        refine go_iload_n (pc' := 76) rfl rfl rfl ?_
        refine go_iconst (pc' := 77) (v := (nI 1)) rfl rfl rfl ?_
        refine go_isub (pc' := 78) rfl rfl ?_
        obtain ⟨x5_78, ex5_78, h⟩ := o_b1E h
        refine go_ndI ex5_78 ?_
        refine go_istore (pc' := 80) (lo' := [some (.inr (.inr th)), some (.inl a0), some (.inl w2_32), some (.inl w3_64), some (.inl x4_73), some (.inl x5_78)]) rfl rfl rfl ?_
        obtain ⟨q80, hl80, hc80_110⟩ := o_s1E h
        have ex80_110 : ∀ (Ix_110 : ai_I) (z4_x110 : Option ai_V) (z5_x110 : Option ai_V), Ix_110 = q80 → ai_Go si_t (11, false, 3, cd_311) (ai_Cl si_t si_ms e) (sp_Q (some (.inl r)) I1 J Rf G) 110 [some (.inr (.inr th)), some (.inl a0), some (.inl w2_32), some (.inl w3_64), z4_x110, z5_x110] [] (0, 0) Ix_110 J Rf G := by
          intro Ix_110 z4_x110 z5_x110 hq
          have h : m_311_x80_110 Ix_110 = some (r, I1) := hc80_110 Ix_110 hq.symm
          unfold m_311_x80_110 at h
          refine go_iconst (pc' := 111) (v := (nI 1)) rfl rfl rfl ?_
          cases h
          exact go_iret rfl (rfl) ⟨rfl, rfl, rfl, rfl, rfl⟩
        have lo80 : ∀ n s, lp (fun s => m_311_b80 th Rf G s.1 s.2.1 s.2.2) n s = some q80 → (fun s => ai_Go si_t (11, false, 3, cd_311) (ai_Cl si_t si_ms e) (sp_Q (some (.inl r)) I1 J Rf G) 80 [some (.inr (.inr th)), some (.inl a0), some (.inl w2_32), some (.inl w3_64), some (.inl s.1), some (.inl s.2.1)] [] (0, 0) s.2.2 J Rf G) s := lp_go (fun s x80 hx hk80 => by
          obtain ⟨v4_80, v5_80, I_80⟩ := s
          have h : m_311_b80 th Rf G v4_80 v5_80 I_80 = some x80 := hx
          clear hx
          show ai_Go si_t (11, false, 3, cd_311) (ai_Cl si_t si_ms e) (sp_Q (some (.inl r)) I1 J Rf G) 80 [some (.inr (.inr th)), some (.inl a0), some (.inl w2_32), some (.inl w3_64), some (.inl v4_80), some (.inl v5_80)] [] (0, 0) I_80 J Rf G
          unfold m_311_b80 at h
          refine go_iload (pc' := 82) rfl rfl rfl ?_
          refine go_iload (pc' := 84) rfl rfl rfl ?_
          refine go_icmp_ge (pt := 110) (pc' := 87) rfl rfl rfl (fun h84 => ?_) (fun h84 => ?_)
          · replace h := o_t h84 h
            exact ex80_110 _ (some (.inl v4_80)) (some (.inl v5_80)) (lp_exitE h hk80)
          · replace h := o_f h84 h
            refine go_aload_n (pc' := 88) rfl rfl rfl ?_
            refine go_iload (pc' := 90) rfl rfl rfl ?_
            refine go_iload (pc' := 92) rfl rfl rfl ?_
            obtain ⟨I_92, q_92, h⟩ := o_b1E h
            refine go_callV (pc' := 95) (B' := (0, 0)) (st' := []) rfl rfl (Or.inl (by decide)) rfl rfl hth (md_312 (by omega) hth q_92) rfl rfl rfl ?_
            refine go_iload (pc' := 97) rfl rfl rfl ?_
            refine go_iconst (pc' := 98) (v := (nI 1)) rfl rfl rfl ?_
            refine go_iadd (pc' := 99) rfl rfl ?_
            obtain ⟨x4_99, ex4_99, h⟩ := o_b1E h
            refine go_ndI ex4_99 ?_
            refine go_istore (pc' := 101) (lo' := [some (.inr (.inr th)), some (.inl a0), some (.inl w2_32), some (.inl w3_64), some (.inl x4_99), some (.inl v5_80)]) rfl rfl rfl ?_
            refine go_iload (pc' := 103) rfl rfl rfl ?_
            refine go_iconst (pc' := 104) (v := (nI 1)) rfl rfl rfl ?_
            refine go_isub (pc' := 105) rfl rfl ?_
            obtain ⟨x5_105, ex5_105, h⟩ := o_b1E h
            refine go_ndI ex5_105 ?_
            refine go_istore (pc' := 107) (lo' := [some (.inr (.inr th)), some (.inl a0), some (.inl w2_32), some (.inl w3_64), some (.inl x4_99), some (.inl x5_105)]) rfl rfl rfl ?_
            refine go_goto (pc' := 80) rfl rfl ?_
            exact (lp_backE h hk80 :))
        exact lo80 _ (x4_73, x5_78, I_67) hl80 
      have lo42 : ∀ n s, lp (fun s => m_311_b42 th I Rf G w2_32 s) n s = some q42 → (fun s => ai_Go si_t (11, false, 3, cd_311) (ai_Cl si_t si_ms e) (sp_Q (some (.inl r)) I1 J Rf G) 42 [some (.inr (.inr th)), some (.inl a0), some (.inl w2_32), some (.inl s), none, none] [] (0, 0) I J Rf G) s := lp_go (fun s x42 hx hk42 => by
        revert s; intro v3_42 hx
        have h : m_311_b42 th I Rf G w2_32 v3_42 = some x42 := hx
        clear hx
        show ai_Go si_t (11, false, 3, cd_311) (ai_Cl si_t si_ms e) (sp_Q (some (.inl r)) I1 J Rf G) 42 [some (.inr (.inr th)), some (.inl a0), some (.inl w2_32), some (.inl v3_42), none, none] [] (0, 0) I J Rf G
        unfold m_311_b42 at h
        refine go_aload_n (pc' := 43) rfl rfl rfl ?_
        refine go_getR (pc' := 46) rfl rfl hth rfl ?_
        refine go_iload_n (pc' := 47) rfl rfl rfl ?_
        obtain ⟨g0, h⟩ := o_gE h
        refine go_iaload (pc' := 48) rfl (o_inK g0) (o_inB g0) rfl ?_
        refine go_aload_n (pc' := 49) rfl rfl rfl ?_
        refine go_getR (pc' := 52) rfl rfl hth rfl ?_
        refine go_iload_n (pc' := 53) rfl rfl rfl ?_
        obtain ⟨g1, h⟩ := o_gE h
        refine go_iaload (pc' := 54) rfl (o_inK g1) (o_inB g1) rfl ?_
        refine go_icmp_ge (pt := 64) (pc' := 57) rfl rfl rfl (fun h54 => ?_) (fun h54 => ?_)
        · replace h := o_t h54 h
          exact ex42_64 _  (lp_exitE h hk42)
        · replace h := o_f h54 h
          refine go_iload_n (pc' := 58) rfl rfl rfl ?_
          refine go_iconst (pc' := 59) (v := (nI 1)) rfl rfl rfl ?_
          refine go_isub (pc' := 60) rfl rfl ?_
          obtain ⟨x3_60, ex3_60, h⟩ := o_b1E h
          refine go_ndI ex3_60 ?_
          refine go_istore_n (pc' := 61) (lo' := [some (.inr (.inr th)), some (.inl a0), some (.inl w2_32), some (.inl x3_60), none, none]) rfl rfl rfl ?_
          refine go_goto (pc' := 42) rfl rfl ?_
          exact (lp_backE h hk42 :))
      exact lo42 _ x3_41 hl42 
    · replace h := o_f h33 h
      refine go_iconst (pc' := 37) (v := (nI 0)) rfl rfl rfl ?_
      cases h
      exact go_iret rfl (rfl) ⟨rfl, rfl, rfl, rfl, rfl⟩
  have lo4 : ∀ n s, lp (fun s => m_311_b4 th I Rf G s) n s = some q4 → (fun s => ai_Go si_t (11, false, 3, cd_311) (ai_Cl si_t si_ms e) (sp_Q (some (.inl r)) I1 J Rf G) 4 [some (.inr (.inr th)), some (.inl a0), some (.inl s), none, none, none] [] (0, 0) I J Rf G) s := lp_go (fun s x4 hx hk4 => by
    revert s; intro v2_4 hx
    have h : m_311_b4 th I Rf G v2_4 = some x4 := hx
    clear hx
    show ai_Go si_t (11, false, 3, cd_311) (ai_Cl si_t si_ms e) (sp_Q (some (.inl r)) I1 J Rf G) 4 [some (.inr (.inr th)), some (.inl a0), some (.inl v2_4), none, none, none] [] (0, 0) I J Rf G
    unfold m_311_b4 at h
    refine go_iload_n (pc' := 5) rfl rfl rfl ?_
    refine go_if_lt (pt := 32) (pc' := 8) rfl rfl rfl (fun h5 => ?_) (fun h5 => ?_)
    · replace h := o_t h5 h
      exact ex4_32 _  (lp_exitE h hk4)
    · replace h := o_f h5 h
      refine go_aload_n (pc' := 9) rfl rfl rfl ?_
      refine go_getR (pc' := 12) rfl rfl hth rfl ?_
      refine go_iload_n (pc' := 13) rfl rfl rfl ?_
      obtain ⟨g2, h⟩ := o_gE h
      refine go_iaload (pc' := 14) rfl (o_inK g2) (o_inB g2) rfl ?_
      refine go_aload_n (pc' := 15) rfl rfl rfl ?_
      refine go_getR (pc' := 18) rfl rfl hth rfl ?_
      refine go_iload_n (pc' := 19) rfl rfl rfl ?_
      refine go_iconst (pc' := 20) (v := (nI 1)) rfl rfl rfl ?_
      refine go_iadd (pc' := 21) rfl rfl ?_
      obtain ⟨g3, h⟩ := o_gE h
      refine go_iaload (pc' := 22) rfl (o_inK g3) (o_inB g3) rfl ?_
      refine go_icmp_le (pt := 32) (pc' := 25) rfl rfl rfl (fun h22 => ?_) (fun h22 => ?_)
      · replace h := o_t h22 h
        exact ex4_32 _  (lp_exitE h hk4)
      · replace h := o_f h22 h
        refine go_iload_n (pc' := 26) rfl rfl rfl ?_
        refine go_iconst (pc' := 27) (v := (nI 1)) rfl rfl rfl ?_
        refine go_isub (pc' := 28) rfl rfl ?_
        obtain ⟨x2_28, ex2_28, h⟩ := o_b1E h
        refine go_ndI ex2_28 ?_
        refine go_istore_n (pc' := 29) (lo' := [some (.inr (.inr th)), some (.inl a0), some (.inl x2_28), none, none, none]) rfl rfl rfl ?_
        refine go_goto (pc' := 4) rfl rfl ?_
        exact (lp_backE h hk4 :))
  exact lo4 _ x2_3 hl4 
def m_313_x4_35 (w2_35 : Int32) : Option (Int32) :=
  some w2_35
def m_313_b4 (th : Nat) (a0 : Int32) (I : ai_I) (Rf : ai_R) (G : ai_G) (v2_4 : Int32) (v3_4 : Int32) : Option ((Int32 × Int32) ⊕ Int32) :=
  if (nI 8) ≤ v3_4 then (some (Sum.inr v2_4)) else (o_b1 (m_192 a0 v3_4) (fun r_12 => if r_12 = 0 then (o_b1 (some (v3_4 + (nI 1))) (fun x3_29 => some (Sum.inl (v2_4, x3_29)))) else (o_g (o_in G 13 (Rf th 31) v3_4) (o_b1 (some (v2_4 ||| ((nI 1) <<< ((I (Rf th 31) v3_4.toNatClampNeg) &&& 31)))) (fun x2_28 => o_b1 (some (v3_4 + (nI 1))) (fun x3_29 => some (Sum.inl (x2_28, x3_29))))))))
/-- PricedBasesModel.moved(I)I -/
def m_313 (th : Nat) (a0 : Int32) (I : ai_I) (Rf : ai_R) (G : ai_G) : Option (Int32) :=
  o_s1 (lp (fun s => m_313_b4 th a0 I Rf G s.1 s.2) o_N ((nI 0), (nI 0))) (fun t => m_313_x4_35 t)
theorem md_313 {d : Nat} {I : ai_I} {J : ai_J} {Rf : ai_R} {G : ai_G} {th : Nat} {a0 : Int32} {r : Int32} (hd : 2 ≤ d) (hth : G.1 th = 11) (h : m_313 th a0 I Rf G = some r) : ai_Cl si_t si_ms d 313 [.inr (.inr th), .inl a0] I J Rf G (some (.inl r)) I J Rf G := by
  obtain ⟨e, rfl⟩ : ∃ e, d = e + 1 := ⟨d - 1, by omega⟩
  unfold m_313 at h
  refine sp_in (lo := [some (.inr (.inr th)), some (.inl a0), none, none]) (B := (0, 0)) rfl (Nat.le_of_ble_eq_true rfl) rfl rfl ?_
  refine go_iconst (pc' := 1) (v := (nI 0)) rfl rfl rfl ?_
  refine go_istore_n (pc' := 2) (lo' := [some (.inr (.inr th)), some (.inl a0), some (.inl (nI 0)), none]) rfl rfl rfl ?_
  refine go_iconst (pc' := 3) (v := (nI 0)) rfl rfl rfl ?_
  refine go_istore_n (pc' := 4) (lo' := [some (.inr (.inr th)), some (.inl a0), some (.inl (nI 0)), some (.inl (nI 0))]) rfl rfl rfl ?_
  obtain ⟨q4, hl4, hc4_35⟩ := o_s1E h
  have ex4_35 : ∀ (w2_35 : Int32) (z3_x35 : Option ai_V), w2_35 = q4 → ai_Go si_t (11, false, 0, cd_313) (ai_Cl si_t si_ms e) (sp_Q (some (.inl r)) I J Rf G) 35 [some (.inr (.inr th)), some (.inl a0), some (.inl w2_35), z3_x35] [] (0, 0) I J Rf G := by
    intro w2_35 z3_x35 hq
    have h : m_313_x4_35 w2_35 = some r := hc4_35 w2_35 hq.symm
    unfold m_313_x4_35 at h
    refine go_iload_n (pc' := 36) rfl rfl rfl ?_
    cases h
    exact go_iret rfl (trivial) ⟨rfl, rfl, rfl, rfl, rfl⟩
  have lo4 : ∀ n s, lp (fun s => m_313_b4 th a0 I Rf G s.1 s.2) n s = some q4 → (fun s => ai_Go si_t (11, false, 0, cd_313) (ai_Cl si_t si_ms e) (sp_Q (some (.inl r)) I J Rf G) 4 [some (.inr (.inr th)), some (.inl a0), some (.inl s.1), some (.inl s.2)] [] (0, 0) I J Rf G) s := lp_go (fun s x4 hx hk4 => by
    obtain ⟨v2_4, v3_4⟩ := s
    have h : m_313_b4 th a0 I Rf G v2_4 v3_4 = some x4 := hx
    clear hx
    show ai_Go si_t (11, false, 0, cd_313) (ai_Cl si_t si_ms e) (sp_Q (some (.inl r)) I J Rf G) 4 [some (.inr (.inr th)), some (.inl a0), some (.inl v2_4), some (.inl v3_4)] [] (0, 0) I J Rf G
    unfold m_313_b4 at h
    refine go_iload_n (pc' := 5) rfl rfl rfl ?_
    refine go_bipush (pc' := 7) (v := (nI 8)) rfl rfl rfl ?_
    refine go_icmp_ge (pt := 35) (pc' := 10) rfl rfl rfl (fun h7 => ?_) (fun h7 => ?_)
    · replace h := o_t h7 h
      exact ex4_35 _ (some (.inl v3_4)) (lp_exitE h hk4)
    · replace h := o_f h7 h
      refine go_iload_n (pc' := 11) rfl rfl rfl ?_
      refine go_iload_n (pc' := 12) rfl rfl rfl ?_
      obtain ⟨r_12, q_12, h⟩ := o_b1E h
      refine go_callS (pc' := 15) (B' := (0, 0)) (st' := [.inl r_12]) rfl rfl (Or.inl (by decide)) rfl rfl trivial (md_192 (by omega) q_12) rfl rfl rfl ?_
      refine go_if_eq (pt := 29) (pc' := 18) rfl rfl rfl (fun h15 => ?_) (fun h15 => ?_)
      · replace h := o_t h15 h
        obtain ⟨x3_29, ex3_29, h⟩ := o_b1E h
        refine go_iincE (pc' := 32) rfl rfl (y := (nI 1)) rfl ex3_29 (lo' := [some (.inr (.inr th)), some (.inl a0), some (.inl v2_4), some (.inl x3_29)]) rfl rfl ?_
        refine go_goto (pc' := 4) rfl rfl ?_
        exact (lp_backE h hk4 :)
      · replace h := o_f h15 h
        refine go_iload_n (pc' := 19) rfl rfl rfl ?_
        refine go_iconst (pc' := 20) (v := (nI 1)) rfl rfl rfl ?_
        refine go_aload_n (pc' := 21) rfl rfl rfl ?_
        refine go_getR (pc' := 24) rfl rfl hth rfl ?_
        refine go_iload_n (pc' := 25) rfl rfl rfl ?_
        obtain ⟨g0, h⟩ := o_gE h
        refine go_iaload (pc' := 26) rfl (o_inK g0) (o_inB g0) rfl ?_
        refine go_ishl (pc' := 27) rfl rfl ?_
        refine go_ior (pc' := 28) rfl rfl ?_
        obtain ⟨x2_28, ex2_28, h⟩ := o_b1E h
        refine go_ndI ex2_28 ?_
        refine go_istore_n (pc' := 29) (lo' := [some (.inr (.inr th)), some (.inl a0), some (.inl x2_28), some (.inl v3_4)]) rfl rfl rfl ?_
        obtain ⟨x3_29, ex3_29, h⟩ := o_b1E h
        refine go_iincE (pc' := 32) rfl rfl (y := (nI 1)) rfl ex3_29 (lo' := [some (.inr (.inr th)), some (.inl a0), some (.inl x2_28), some (.inl x3_29)]) rfl rfl ?_
        refine go_goto (pc' := 4) rfl rfl ?_
        exact (lp_backE h hk4 :))
  exact lo4 _ ((nI 0), (nI 0)) hl4 
def m_314_x2_39 : Option (Int32) :=
  some (nI 0)
def m_314_x2_47 : Option (Int32) :=
  some (nI 1)
def m_314_b2 (th : Nat) (a0 : Int32) (a1 : Int32) (I : ai_I) (Rf : ai_R) (G : ai_G) (v3_2 : Int32) : Option (Int32 ⊕ (Unit ⊕ Unit)) :=
  o_b1 (m_197 th a0 I Rf G) (fun r_5 => if r_5 < v3_2 then (some (Sum.inr (Sum.inr ()))) else (o_b1 (m_199 th a0 v3_2 I Rf G) (fun r_14 => if r_14 = 0 then (o_b1 (some (v3_2 + (nI 1))) (fun x3_41 => some (Sum.inl x3_41))) else (o_b1 (m_313 th v3_2 I Rf G) (fun r_24 => o_b1 (m_198 th a1 r_24 I Rf G) (fun r_27 => o_b1 (m_198 th a0 v3_2 I Rf G) (fun r_33 => if r_27 = r_33 then (o_b1 (some (v3_2 + (nI 1))) (fun x3_41 => some (Sum.inl x3_41))) else (some (Sum.inr (Sum.inl ()))))))))))
/-- PricedBasesModel.fits(II)Z -/
def m_314 (th : Nat) (a0 : Int32) (a1 : Int32) (I : ai_I) (Rf : ai_R) (G : ai_G) : Option (Int32) :=
  o_s2 (lp (fun s => m_314_b2 th a0 a1 I Rf G s) o_N (nI 0)) (fun t => m_314_x2_39) (fun t => m_314_x2_47)
theorem md_314 {d : Nat} {I : ai_I} {J : ai_J} {Rf : ai_R} {G : ai_G} {th : Nat} {a0 : Int32} {a1 : Int32} {r : Int32} (hd : 3 ≤ d) (hth : G.1 th = 11) (h : m_314 th a0 a1 I Rf G = some r) : ai_Cl si_t si_ms d 314 [.inr (.inr th), .inl a0, .inl a1] I J Rf G (some (.inl r)) I J Rf G := by
  obtain ⟨e, rfl⟩ : ∃ e, d = e + 1 := ⟨d - 1, by omega⟩
  unfold m_314 at h
  refine sp_in (lo := [some (.inr (.inr th)), some (.inl a0), some (.inl a1), none]) (B := (0, 0)) rfl (Nat.le_of_ble_eq_true rfl) rfl rfl ?_
  refine go_iconst (pc' := 1) (v := (nI 0)) rfl rfl rfl ?_
  refine go_istore_n (pc' := 2) (lo' := [some (.inr (.inr th)), some (.inl a0), some (.inl a1), some (.inl (nI 0))]) rfl rfl rfl ?_
  obtain ⟨q2, hl2, hc2_39, hc2_47⟩ := o_s2E h
  have ex2_39 : ∀ (z3_x39 : Option ai_V), (Sum.inl ()) = q2 → ai_Go si_t (11, false, 3, cd_314) (ai_Cl si_t si_ms e) (sp_Q (some (.inl r)) I J Rf G) 39 [some (.inr (.inr th)), some (.inl a0), some (.inl a1), z3_x39] [] (0, 0) I J Rf G := by
    intro z3_x39 hq
    have h : m_314_x2_39 = some r := hc2_39 () hq.symm
    unfold m_314_x2_39 at h
    refine go_iconst (pc' := 40) (v := (nI 0)) rfl rfl rfl ?_
    cases h
    exact go_iret rfl (rfl) ⟨rfl, rfl, rfl, rfl, rfl⟩
  have ex2_47 : ∀ (z3_x47 : Option ai_V), (Sum.inr ()) = q2 → ai_Go si_t (11, false, 3, cd_314) (ai_Cl si_t si_ms e) (sp_Q (some (.inl r)) I J Rf G) 47 [some (.inr (.inr th)), some (.inl a0), some (.inl a1), z3_x47] [] (0, 0) I J Rf G := by
    intro z3_x47 hq
    have h : m_314_x2_47 = some r := hc2_47 () hq.symm
    unfold m_314_x2_47 at h
    refine go_iconst (pc' := 48) (v := (nI 1)) rfl rfl rfl ?_
    cases h
    exact go_iret rfl (rfl) ⟨rfl, rfl, rfl, rfl, rfl⟩
  have lo2 : ∀ n s, lp (fun s => m_314_b2 th a0 a1 I Rf G s) n s = some q2 → (fun s => ai_Go si_t (11, false, 3, cd_314) (ai_Cl si_t si_ms e) (sp_Q (some (.inl r)) I J Rf G) 2 [some (.inr (.inr th)), some (.inl a0), some (.inl a1), some (.inl s)] [] (0, 0) I J Rf G) s := lp_go (fun s x2 hx hk2 => by
    revert s; intro v3_2 hx
    have h : m_314_b2 th a0 a1 I Rf G v3_2 = some x2 := hx
    clear hx
    show ai_Go si_t (11, false, 3, cd_314) (ai_Cl si_t si_ms e) (sp_Q (some (.inl r)) I J Rf G) 2 [some (.inr (.inr th)), some (.inl a0), some (.inl a1), some (.inl v3_2)] [] (0, 0) I J Rf G
    unfold m_314_b2 at h
    refine go_iload_n (pc' := 3) rfl rfl rfl ?_
    refine go_aload_n (pc' := 4) rfl rfl rfl ?_
    refine go_iload_n (pc' := 5) rfl rfl rfl ?_
    obtain ⟨r_5, q_5, h⟩ := o_b1E h
    refine go_callV (pc' := 8) (B' := (0, 0)) (st' := [.inl r_5, .inl v3_2]) rfl rfl (Or.inl (by decide)) rfl rfl hth (md_197 (by omega) hth q_5) rfl rfl rfl ?_
    refine go_icmp_gt (pt := 47) (pc' := 11) rfl rfl rfl (fun h8 => ?_) (fun h8 => ?_)
    · replace h := o_t h8 h
      exact ex2_47  (some (.inl v3_2)) (lp_exitE h hk2)
    · replace h := o_f h8 h
      refine go_aload_n (pc' := 12) rfl rfl rfl ?_
      refine go_iload_n (pc' := 13) rfl rfl rfl ?_
      refine go_iload_n (pc' := 14) rfl rfl rfl ?_
      obtain ⟨r_14, q_14, h⟩ := o_b1E h
      refine go_callV (pc' := 17) (B' := (0, 0)) (st' := [.inl r_14]) rfl rfl (Or.inl (by decide)) rfl rfl hth (md_199 (by omega) hth q_14) rfl rfl rfl ?_
      refine go_if_eq (pt := 41) (pc' := 20) rfl rfl rfl (fun h17 => ?_) (fun h17 => ?_)
      · replace h := o_t h17 h
        obtain ⟨x3_41, ex3_41, h⟩ := o_b1E h
        refine go_iincE (pc' := 44) rfl rfl (y := (nI 1)) rfl ex3_41 (lo' := [some (.inr (.inr th)), some (.inl a0), some (.inl a1), some (.inl x3_41)]) rfl rfl ?_
        refine go_goto (pc' := 2) rfl rfl ?_
        exact (lp_backE h hk2 :)
      · replace h := o_f h17 h
        refine go_aload_n (pc' := 21) rfl rfl rfl ?_
        refine go_iload_n (pc' := 22) rfl rfl rfl ?_
        refine go_aload_n (pc' := 23) rfl rfl rfl ?_
        refine go_iload_n (pc' := 24) rfl rfl rfl ?_
        obtain ⟨r_24, q_24, h⟩ := o_b1E h
        refine go_callV (pc' := 27) (B' := (0, 0)) (st' := [.inl r_24, .inl a1, .inr (.inr th)]) rfl rfl (Or.inl (by decide)) rfl rfl hth (md_313 (by omega) hth q_24) rfl rfl rfl ?_
        obtain ⟨r_27, q_27, h⟩ := o_b1E h
        refine go_callV (pc' := 30) (B' := (0, 0)) (st' := [.inl r_27]) rfl rfl (Or.inl (by decide)) rfl rfl hth (md_198 (by omega) hth q_27) rfl rfl rfl ?_
        refine go_aload_n (pc' := 31) rfl rfl rfl ?_
        refine go_iload_n (pc' := 32) rfl rfl rfl ?_
        refine go_iload_n (pc' := 33) rfl rfl rfl ?_
        obtain ⟨r_33, q_33, h⟩ := o_b1E h
        refine go_callV (pc' := 36) (B' := (0, 0)) (st' := [.inl r_33, .inl r_27]) rfl rfl (Or.inl (by decide)) rfl rfl hth (md_198 (by omega) hth q_33) rfl rfl rfl ?_
        refine go_icmp_eq (pt := 41) (pc' := 39) rfl rfl rfl (fun h36 => ?_) (fun h36 => ?_)
        · replace h := o_t h36 h
          obtain ⟨x3_41, ex3_41, h⟩ := o_b1E h
          refine go_iincE (pc' := 44) rfl rfl (y := (nI 1)) rfl ex3_41 (lo' := [some (.inr (.inr th)), some (.inl a0), some (.inl a1), some (.inl x3_41)]) rfl rfl ?_
          refine go_goto (pc' := 2) rfl rfl ?_
          exact (lp_backE h hk2 :)
        · replace h := o_f h36 h
          exact ex2_39  (some (.inl v3_2)) (lp_exitE h hk2))
  exact lo2 _ (nI 0) hl2 
def m_315_x83_152 (th : Nat) (a2 : Int32) (Rf : ai_R) (G : ai_G) (w4_152 : Int32) (Ix_152 : ai_I) : Option (Int32 × ai_I) :=
  if a2 = 0 then (some (w4_152, Ix_152)) else (o_g (o_in G 13 (Rf th 32) (a2 - (nI 1))) (some (Ix_152 (Rf th 32) (a2 - (nI 1)).toNatClampNeg, Ix_152)))
def m_315_j138 (th : Nat) (a0 : Int32) (Rf : ai_R) (G : ai_G) (y4_138 : Int32) (I_138 : ai_I) : Option ((Int32 × Int32 × ai_I) ⊕ (Int32 × ai_I)) :=
  o_b1 (m_195 th a0 I_138 Rf G) (fun r_141 => o_b2 (m_311 th r_141 I_138 Rf G) (fun r_144 I_144 => some (Sum.inl (y4_138, r_144, I_144))))
def m_315_x100_132 (th : Nat) (a0 : Int32) (Rf : ai_R) (G : ai_G) (v4_83 : Int32) (Ix_132 : ai_I) : Option ((Int32 × Int32 × ai_I) ⊕ (Int32 × ai_I)) :=
  o_b1 (some (v4_83 + (nI 1))) (fun x4_136 => m_315_j138 th a0 Rf G x4_136 Ix_132)
def m_315_b100 (th : Nat) (Rf : ai_R) (G : ai_G) (v4_83 : Int32) (v6_100 : Int32) (I_100 : ai_I) : Option ((Int32 × ai_I) ⊕ ai_I) :=
  if (nI 8) ≤ v6_100 then (some (Sum.inr I_100)) else (if v4_83 = 0 then (o_g (o_in G 13 (Rf th 31) v6_100) (o_g (o_in G 13 (Rf th 32) v6_100) (o_b1 (some (va_up I_100 (Rf th 32) (va_up (I_100 (Rf th 32)) v6_100.toNatClampNeg (I_100 (Rf th 31) v6_100.toNatClampNeg)))) (fun I_125 => o_b1 (some (v6_100 + (nI 1))) (fun x6_126 => some (Sum.inl (x6_126, I_125))))))) else (some (Sum.inr I_100)))
def m_315_b83 (th : Nat) (a0 : Int32) (a1 : Int32) (Rf : ai_R) (G : ai_G) (v4_83 : Int32) (v5_83 : Int32) (I_83 : ai_I) : Option ((Int32 × Int32 × ai_I) ⊕ (Int32 × ai_I)) :=
  if v5_83 = 0 then (some (Sum.inr (v4_83, I_83))) else (o_b1 (m_314 th a0 a1 I_83 Rf G) (fun r_91 => if r_91 = 0 then (m_315_j138 th a0 Rf G v4_83 I_83) else (o_s1 (lp (fun s => m_315_b100 th Rf G v4_83 s.1 s.2) o_N ((nI 0), I_83)) (fun t => m_315_x100_132 th a0 Rf G v4_83 t))))
def m_315_j81 (th : Nat) (a0 : Int32) (a1 : Int32) (a2 : Int32) (Rf : ai_R) (G : ai_G) (Ix_63 : ai_I) (t0_81 : Int32) : Option (Int32 × ai_I) :=
  o_s1 (lp (fun s => m_315_b83 th a0 a1 Rf G s.1 s.2.1 s.2.2) o_N ((nI 0), t0_81, Ix_63)) (fun t => m_315_x83_152 th a2 Rf G t.1 t.2)
def m_315_x32_63 (th : Nat) (a0 : Int32) (a1 : Int32) (a2 : Int32) (Rf : ai_R) (G : ai_G) (Ix_63 : ai_I) : Option (Int32 × ai_I) :=
  o_b1 (m_204 th a0 Ix_63 Rf G) (fun r_65 => o_b1 (m_204 th a1 Ix_63 Rf G) (fun r_70 => if r_65 = r_70 then (m_315_j81 th a0 a1 a2 Rf G Ix_63 (nI 1)) else (m_315_j81 th a0 a1 a2 Rf G Ix_63 (nI 0))))
def m_315_b32 (th : Nat) (Rf : ai_R) (G : ai_G) (v5_32 : Int32) (I_32 : ai_I) : Option ((Int32 × ai_I) ⊕ ai_I) :=
  if (nI 8) ≤ v5_32 then (some (Sum.inr I_32)) else (o_g (o_in G 13 (Rf th 31) v5_32) (o_b1 (some (va_up I_32 (Rf th 31) (va_up (I_32 (Rf th 31)) v5_32.toNatClampNeg v5_32))) (fun I_47 => o_g (o_in G 13 (Rf th 32) v5_32) (o_b1 (some (va_up I_47 (Rf th 32) (va_up (I_47 (Rf th 32)) v5_32.toNatClampNeg (-2 : Int32)))) (fun I_56 => o_b1 (some (v5_32 + (nI 1))) (fun x5_57 => some (Sum.inl (x5_57, I_56))))))))
/-- PricedBasesModel.onto(III)I -/
def m_315 (th : Nat) (a0 : Int32) (a1 : Int32) (a2 : Int32) (I : ai_I) (Rf : ai_R) (G : ai_G) : Option (Int32 × ai_I) :=
  o_b1 (m_203 th a0 a1 I Rf G) (fun r_3 => if r_3 = 0 then (some ((-1 : Int32), I)) else (o_b1 (m_195 th a0 I Rf G) (fun r_14 => o_b1 (m_189 a2.toInt64 (0 : Int64) r_14.toInt64) (fun r_18 => if r_18 = 0 then (some ((-1 : Int32), I)) else (o_s1 (lp (fun s => m_315_b32 th Rf G s.1 s.2) o_N ((nI 0), I)) (fun t => m_315_x32_63 th a0 a1 a2 Rf G t))))))
theorem md_315 {d : Nat} {I : ai_I} {J : ai_J} {Rf : ai_R} {G : ai_G} {th : Nat} {a0 : Int32} {a1 : Int32} {a2 : Int32} {r : Int32} {I1 : ai_I} (hd : 4 ≤ d) (hth : G.1 th = 11) (h : m_315 th a0 a1 a2 I Rf G = some (r, I1)) : ai_Cl si_t si_ms d 315 [.inr (.inr th), .inl a0, .inl a1, .inl a2] I J Rf G (some (.inl r)) I1 J Rf G := by
  obtain ⟨e, rfl⟩ : ∃ e, d = e + 1 := ⟨d - 1, by omega⟩
  unfold m_315 at h
  refine sp_in (lo := [some (.inr (.inr th)), some (.inl a0), some (.inl a1), some (.inl a2), none, none, none]) (B := (0, 0)) rfl (Nat.le_of_ble_eq_true rfl) rfl rfl ?_
  refine go_aload_n (pc' := 1) rfl rfl rfl ?_
  refine go_iload_n (pc' := 2) rfl rfl rfl ?_
  refine go_iload_n (pc' := 3) rfl rfl rfl ?_
  obtain ⟨r_3, q_3, h⟩ := o_b1E h
  refine go_callV (pc' := 6) (B' := (0, 0)) (st' := [.inl r_3]) rfl rfl (Or.inl (by decide)) rfl rfl hth (md_203 (by omega) hth q_3) rfl rfl rfl ?_
  refine go_if_eq (pt := 24) (pc' := 9) rfl rfl rfl (fun h6 => ?_) (fun h6 => ?_)
  · replace h := o_t h6 h
    refine go_iconst (pc' := 25) (v := (-1 : Int32)) rfl rfl rfl ?_
    cases h
    exact go_iret rfl (trivial) ⟨rfl, rfl, rfl, rfl, rfl⟩
  · replace h := o_f h6 h
    refine go_iload_n (pc' := 10) rfl rfl rfl ?_
    refine go_i2l (pc' := 11) rfl rfl ?_
    refine go_lconst (pc' := 12) (v := (0 : Int64)) rfl rfl rfl ?_
    refine go_aload_n (pc' := 13) rfl rfl rfl ?_
    refine go_iload_n (pc' := 14) rfl rfl rfl ?_
    obtain ⟨r_14, q_14, h⟩ := o_b1E h
    refine go_callV (pc' := 17) (B' := (0, 0)) (st' := [.inl r_14, .inr (.inl (0 : Int64)), .inr (.inl a2.toInt64)]) rfl rfl (Or.inl (by decide)) rfl rfl hth (md_195 (by omega) hth q_14) rfl rfl rfl ?_
    refine go_i2l (pc' := 18) rfl rfl ?_
    obtain ⟨r_18, q_18, h⟩ := o_b1E h
    refine go_callS (pc' := 21) (B' := (0, 0)) (st' := [.inl r_18]) rfl rfl (Or.inl (by decide)) rfl rfl trivial (md_189 (by omega) q_18) rfl rfl rfl ?_
    refine go_if_ne (pt := 26) (pc' := 24) rfl rfl rfl (fun h21 => ?_) (fun h21 => ?_)
    · replace h := o_f h21 h
      refine go_iconst (pc' := 27) (v := (nI 0)) rfl rfl rfl ?_
      refine go_istore (pc' := 29) (lo' := [some (.inr (.inr th)), some (.inl a0), some (.inl a1), some (.inl a2), some (.inl (nI 0)), none, none]) rfl rfl rfl ?_
      refine go_iconst (pc' := 30) (v := (nI 0)) rfl rfl rfl ?_
      refine go_istore (pc' := 32) (lo' := [some (.inr (.inr th)), some (.inl a0), some (.inl a1), some (.inl a2), some (.inl (nI 0)), some (.inl (nI 0)), none]) rfl rfl rfl ?_
      obtain ⟨q32, hl32, hc32_63⟩ := o_s1E h
      have ex32_63 : ∀ (Ix_63 : ai_I) (z5_x63 : Option ai_V), Ix_63 = q32 → ai_Go si_t (11, false, 0, cd_315) (ai_Cl si_t si_ms e) (sp_Q (some (.inl r)) I1 J Rf G) 63 [some (.inr (.inr th)), some (.inl a0), some (.inl a1), some (.inl a2), some (.inl (nI 0)), z5_x63, none] [] (0, 0) Ix_63 J Rf G := by
        intro Ix_63 z5_x63 hq
        have h : m_315_x32_63 th a0 a1 a2 Rf G Ix_63 = some (r, I1) := hc32_63 Ix_63 hq.symm
        unfold m_315_x32_63 at h
        refine go_aload_n (pc' := 64) rfl rfl rfl ?_
        refine go_iload_n (pc' := 65) rfl rfl rfl ?_
        obtain ⟨r_65, q_65, h⟩ := o_b1E h
        refine go_callV (pc' := 68) (B' := (0, 0)) (st' := [.inl r_65]) rfl rfl (Or.inl (by decide)) rfl rfl hth (md_204 (by omega) hth q_65) rfl rfl rfl ?_
        refine go_aload_n (pc' := 69) rfl rfl rfl ?_
        refine go_iload_n (pc' := 70) rfl rfl rfl ?_
        obtain ⟨r_70, q_70, h⟩ := o_b1E h
        refine go_callV (pc' := 73) (B' := (0, 0)) (st' := [.inl r_70, .inl r_65]) rfl rfl (Or.inl (by decide)) rfl rfl hth (md_204 (by omega) hth q_70) rfl rfl rfl ?_
        have jn81 : ∀ (t0_81 : Int32) (z5_81 : Option ai_V), m_315_j81 th a0 a1 a2 Rf G Ix_63 t0_81 = some (r, I1) → ai_Go si_t (11, false, 0, cd_315) (ai_Cl si_t si_ms e) (sp_Q (some (.inl r)) I1 J Rf G) 81 [some (.inr (.inr th)), some (.inl a0), some (.inl a1), some (.inl a2), some (.inl (nI 0)), z5_81, none] [.inl t0_81] (0, 0) Ix_63 J Rf G := by
          intro t0_81 z5_81 h
          unfold m_315_j81 at h
          refine go_istore (pc' := 83) (lo' := [some (.inr (.inr th)), some (.inl a0), some (.inl a1), some (.inl a2), some (.inl (nI 0)), some (.inl t0_81), none]) rfl rfl rfl ?_
          obtain ⟨q83, hl83, hc83_152⟩ := o_s1E h
          have ex83_152 : ∀ (w4_152 : Int32) (Ix_152 : ai_I) (z5_x152 : Option ai_V) (z6_x152 : Option ai_V), (w4_152, Ix_152) = q83 → ai_Go si_t (11, false, 0, cd_315) (ai_Cl si_t si_ms e) (sp_Q (some (.inl r)) I1 J Rf G) 152 [some (.inr (.inr th)), some (.inl a0), some (.inl a1), some (.inl a2), some (.inl w4_152), z5_x152, z6_x152] [] (0, 0) Ix_152 J Rf G := by
            intro w4_152 Ix_152 z5_x152 z6_x152 hq
            have h : m_315_x83_152 th a2 Rf G w4_152 Ix_152 = some (r, I1) := hc83_152 (w4_152, Ix_152) hq.symm
            unfold m_315_x83_152 at h
            refine go_iload_n (pc' := 153) rfl rfl rfl ?_
            refine go_if_ne (pt := 161) (pc' := 156) rfl rfl rfl (fun h153 => ?_) (fun h153 => ?_)
            · replace h := o_f h153 h
              refine go_aload_n (pc' := 162) rfl rfl rfl ?_
              refine go_getR (pc' := 165) rfl rfl hth rfl ?_
              refine go_iload_n (pc' := 166) rfl rfl rfl ?_
              refine go_iconst (pc' := 167) (v := (nI 1)) rfl rfl rfl ?_
              refine go_isub (pc' := 168) rfl rfl ?_
              obtain ⟨g0, h⟩ := o_gE h
              refine go_iaload (pc' := 169) rfl (o_inK g0) (o_inB g0) rfl ?_
              cases h
              exact go_iret rfl (trivial) ⟨rfl, rfl, rfl, rfl, rfl⟩
            · replace h := o_t (Decidable.of_not_not h153) h
              refine go_iload (pc' := 158) rfl rfl rfl ?_
              refine go_goto (pc' := 169) rfl rfl ?_
              cases h
              exact go_iret rfl (trivial) ⟨rfl, rfl, rfl, rfl, rfl⟩
          have lo83 : ∀ n s, lp (fun s => m_315_b83 th a0 a1 Rf G s.1 s.2.1 s.2.2) n s = some q83 → (fun s => ∀ (z6_83 : Option ai_V), ai_Go si_t (11, false, 0, cd_315) (ai_Cl si_t si_ms e) (sp_Q (some (.inl r)) I1 J Rf G) 83 [some (.inr (.inr th)), some (.inl a0), some (.inl a1), some (.inl a2), some (.inl s.1), some (.inl s.2.1), z6_83] [] (0, 0) s.2.2 J Rf G) s := lp_go (fun s x83 hx hk83 => by
            obtain ⟨v4_83, v5_83, I_83⟩ := s
            intro z6_83
            have h : m_315_b83 th a0 a1 Rf G v4_83 v5_83 I_83 = some x83 := hx
            clear hx
            show ai_Go si_t (11, false, 0, cd_315) (ai_Cl si_t si_ms e) (sp_Q (some (.inl r)) I1 J Rf G) 83 [some (.inr (.inr th)), some (.inl a0), some (.inl a1), some (.inl a2), some (.inl v4_83), some (.inl v5_83), z6_83] [] (0, 0) I_83 J Rf G
            unfold m_315_b83 at h
            refine go_iload (pc' := 85) rfl rfl rfl ?_
            refine go_if_eq (pt := 152) (pc' := 88) rfl rfl rfl (fun h85 => ?_) (fun h85 => ?_)
            · replace h := o_t h85 h
              exact ex83_152 _ _ (some (.inl v5_83)) z6_83 (lp_exitE h hk83)
            · replace h := o_f h85 h
              refine go_aload_n (pc' := 89) rfl rfl rfl ?_
              refine go_iload_n (pc' := 90) rfl rfl rfl ?_
              refine go_iload_n (pc' := 91) rfl rfl rfl ?_
              obtain ⟨r_91, q_91, h⟩ := o_b1E h
              refine go_callV (pc' := 94) (B' := (0, 0)) (st' := [.inl r_91]) rfl rfl (Or.inl (by decide)) rfl rfl hth (md_314 (by omega) hth q_91) rfl rfl rfl ?_
              have jn138 : ∀ (y4_138 : Int32) (I_138 : ai_I) (z6_138 : Option ai_V), m_315_j138 th a0 Rf G y4_138 I_138 = some x83 → ai_Go si_t (11, false, 0, cd_315) (ai_Cl si_t si_ms e) (sp_Q (some (.inl r)) I1 J Rf G) 138 [some (.inr (.inr th)), some (.inl a0), some (.inl a1), some (.inl a2), some (.inl y4_138), some (.inl v5_83), z6_138] [] (0, 0) I_138 J Rf G := by
                intro y4_138 I_138 z6_138 h
                unfold m_315_j138 at h
                refine go_aload_n (pc' := 139) rfl rfl rfl ?_
                refine go_aload_n (pc' := 140) rfl rfl rfl ?_
                refine go_iload_n (pc' := 141) rfl rfl rfl ?_
                obtain ⟨r_141, q_141, h⟩ := o_b1E h
                refine go_callV (pc' := 144) (B' := (0, 0)) (st' := [.inl r_141, .inr (.inr th)]) rfl rfl (Or.inl (by decide)) rfl rfl hth (md_195 (by omega) hth q_141) rfl rfl rfl ?_
                obtain ⟨r_144, I_144, q_144, h⟩ := o_b2E h
                refine go_callV (pc' := 147) (B' := (0, 0)) (st' := [.inl r_144]) rfl rfl (Or.inl (by decide)) rfl rfl hth (md_311 (by omega) hth q_144) rfl rfl rfl ?_
                refine go_istore (pc' := 149) (lo' := [some (.inr (.inr th)), some (.inl a0), some (.inl a1), some (.inl a2), some (.inl y4_138), some (.inl r_144), z6_138]) rfl rfl rfl ?_
                refine go_goto (pc' := 83) rfl rfl ?_
                exact (lp_backE h hk83 z6_138 :)
              refine go_if_eq (pt := 138) (pc' := 97) rfl rfl rfl (fun h94 => ?_) (fun h94 => ?_)
              · replace h := o_t h94 h
                exact jn138 v4_83 I_83 z6_83 h
              · replace h := o_f h94 h
                refine go_iconst (pc' := 98) (v := (nI 0)) rfl rfl rfl ?_
                refine go_istore (pc' := 100) (lo' := [some (.inr (.inr th)), some (.inl a0), some (.inl a1), some (.inl a2), some (.inl v4_83), some (.inl v5_83), some (.inl (nI 0))]) rfl rfl rfl ?_
                obtain ⟨q100, hl100, hc100_132⟩ := o_s1E h
                have ex100_132 : ∀ (Ix_132 : ai_I) (z6_x132 : Option ai_V), Ix_132 = q100 → ai_Go si_t (11, false, 0, cd_315) (ai_Cl si_t si_ms e) (sp_Q (some (.inl r)) I1 J Rf G) 132 [some (.inr (.inr th)), some (.inl a0), some (.inl a1), some (.inl a2), some (.inl v4_83), some (.inl v5_83), z6_x132] [] (0, 0) Ix_132 J Rf G := by
                  intro Ix_132 z6_x132 hq
                  have h : m_315_x100_132 th a0 Rf G v4_83 Ix_132 = some x83 := hc100_132 Ix_132 hq.symm
                  unfold m_315_x100_132 at h
                  refine go_iload (pc' := 134) rfl rfl rfl ?_
                  refine go_iconst (pc' := 135) (v := (nI 1)) rfl rfl rfl ?_
                  refine go_iadd (pc' := 136) rfl rfl ?_
                  obtain ⟨x4_136, ex4_136, h⟩ := o_b1E h
                  refine go_ndI ex4_136 ?_
                  refine go_istore (pc' := 138) (lo' := [some (.inr (.inr th)), some (.inl a0), some (.inl a1), some (.inl a2), some (.inl x4_136), some (.inl v5_83), z6_x132]) rfl rfl rfl ?_
                  exact jn138 x4_136 Ix_132 z6_x132 h
                have lo100 : ∀ n s, lp (fun s => m_315_b100 th Rf G v4_83 s.1 s.2) n s = some q100 → (fun s => ai_Go si_t (11, false, 0, cd_315) (ai_Cl si_t si_ms e) (sp_Q (some (.inl r)) I1 J Rf G) 100 [some (.inr (.inr th)), some (.inl a0), some (.inl a1), some (.inl a2), some (.inl v4_83), some (.inl v5_83), some (.inl s.1)] [] (0, 0) s.2 J Rf G) s := lp_go (fun s x100 hx hk100 => by
                  obtain ⟨v6_100, I_100⟩ := s
                  have h : m_315_b100 th Rf G v4_83 v6_100 I_100 = some x100 := hx
                  clear hx
                  show ai_Go si_t (11, false, 0, cd_315) (ai_Cl si_t si_ms e) (sp_Q (some (.inl r)) I1 J Rf G) 100 [some (.inr (.inr th)), some (.inl a0), some (.inl a1), some (.inl a2), some (.inl v4_83), some (.inl v5_83), some (.inl v6_100)] [] (0, 0) I_100 J Rf G
                  unfold m_315_b100 at h
                  refine go_iload (pc' := 102) rfl rfl rfl ?_
                  refine go_bipush (pc' := 104) (v := (nI 8)) rfl rfl rfl ?_
                  refine go_icmp_ge (pt := 132) (pc' := 107) rfl rfl rfl (fun h104 => ?_) (fun h104 => ?_)
                  · replace h := o_t h104 h
                    exact ex100_132 _ (some (.inl v6_100)) (lp_exitE h hk100)
                  · replace h := o_f h104 h
                    refine go_iload (pc' := 109) rfl rfl rfl ?_
                    refine go_if_ne (pt := 132) (pc' := 112) rfl rfl rfl (fun h109 => ?_) (fun h109 => ?_)
                    · replace h := o_f h109 h
                      exact ex100_132 _ (some (.inl v6_100)) (lp_exitE h hk100)
                    · replace h := o_t (Decidable.of_not_not h109) h
                      refine go_aload_n (pc' := 113) rfl rfl rfl ?_
                      refine go_getR (pc' := 116) rfl rfl hth rfl ?_
                      refine go_iload (pc' := 118) rfl rfl rfl ?_
                      refine go_aload_n (pc' := 119) rfl rfl rfl ?_
                      refine go_getR (pc' := 122) rfl rfl hth rfl ?_
                      refine go_iload (pc' := 124) rfl rfl rfl ?_
                      obtain ⟨g1, h⟩ := o_gE h
                      refine go_iaload (pc' := 125) rfl (o_inK g1) (o_inB g1) rfl ?_
                      obtain ⟨g2, h⟩ := o_gE h
                      obtain ⟨I_125, eI_125, h⟩ := o_b1E h
                      refine go_iastore (pc' := 126) rfl (o_inK g2) (o_inB g2) rfl ?_
                      refine go_ndMI eI_125 ?_
                      obtain ⟨x6_126, ex6_126, h⟩ := o_b1E h
                      refine go_iincE (pc' := 129) rfl rfl (y := (nI 1)) rfl ex6_126 (lo' := [some (.inr (.inr th)), some (.inl a0), some (.inl a1), some (.inl a2), some (.inl v4_83), some (.inl v5_83), some (.inl x6_126)]) rfl rfl ?_
                      refine go_goto (pc' := 100) rfl rfl ?_
                      exact (lp_backE h hk100 :))
                exact lo100 _ ((nI 0), I_83) hl100 )
          exact lo83 _ ((nI 0), t0_81, Ix_63) hl83 none
        refine go_icmp_ne (pt := 80) (pc' := 76) rfl rfl rfl (fun h73 => ?_) (fun h73 => ?_)
        · replace h := o_f h73 h
          refine go_iconst (pc' := 81) (v := (nI 0)) rfl rfl rfl ?_
          exact jn81 (nI 0) z5_x63 h
        · replace h := o_t (Decidable.of_not_not h73) h
          refine go_iconst (pc' := 77) (v := (nI 1)) rfl rfl rfl ?_
          refine go_goto (pc' := 81) rfl rfl ?_
          exact jn81 (nI 1) z5_x63 h
      have lo32 : ∀ n s, lp (fun s => m_315_b32 th Rf G s.1 s.2) n s = some q32 → (fun s => ai_Go si_t (11, false, 0, cd_315) (ai_Cl si_t si_ms e) (sp_Q (some (.inl r)) I1 J Rf G) 32 [some (.inr (.inr th)), some (.inl a0), some (.inl a1), some (.inl a2), some (.inl (nI 0)), some (.inl s.1), none] [] (0, 0) s.2 J Rf G) s := lp_go (fun s x32 hx hk32 => by
        obtain ⟨v5_32, I_32⟩ := s
        have h : m_315_b32 th Rf G v5_32 I_32 = some x32 := hx
        clear hx
        show ai_Go si_t (11, false, 0, cd_315) (ai_Cl si_t si_ms e) (sp_Q (some (.inl r)) I1 J Rf G) 32 [some (.inr (.inr th)), some (.inl a0), some (.inl a1), some (.inl a2), some (.inl (nI 0)), some (.inl v5_32), none] [] (0, 0) I_32 J Rf G
        unfold m_315_b32 at h
        refine go_iload (pc' := 34) rfl rfl rfl ?_
        refine go_bipush (pc' := 36) (v := (nI 8)) rfl rfl rfl ?_
        refine go_icmp_ge (pt := 63) (pc' := 39) rfl rfl rfl (fun h36 => ?_) (fun h36 => ?_)
        · replace h := o_t h36 h
          exact ex32_63 _ (some (.inl v5_32)) (lp_exitE h hk32)
        · replace h := o_f h36 h
          refine go_aload_n (pc' := 40) rfl rfl rfl ?_
          refine go_getR (pc' := 43) rfl rfl hth rfl ?_
          refine go_iload (pc' := 45) rfl rfl rfl ?_
          refine go_iload (pc' := 47) rfl rfl rfl ?_
          obtain ⟨g3, h⟩ := o_gE h
          obtain ⟨I_47, eI_47, h⟩ := o_b1E h
          refine go_iastore (pc' := 48) rfl (o_inK g3) (o_inB g3) rfl ?_
          refine go_ndMI eI_47 ?_
          refine go_aload_n (pc' := 49) rfl rfl rfl ?_
          refine go_getR (pc' := 52) rfl rfl hth rfl ?_
          refine go_iload (pc' := 54) rfl rfl rfl ?_
          refine go_bipush (pc' := 56) (v := (-2 : Int32)) rfl rfl rfl ?_
          obtain ⟨g4, h⟩ := o_gE h
          obtain ⟨I_56, eI_56, h⟩ := o_b1E h
          refine go_iastore (pc' := 57) rfl (o_inK g4) (o_inB g4) rfl ?_
          refine go_ndMI eI_56 ?_
          obtain ⟨x5_57, ex5_57, h⟩ := o_b1E h
          refine go_iincE (pc' := 60) rfl rfl (y := (nI 1)) rfl ex5_57 (lo' := [some (.inr (.inr th)), some (.inl a0), some (.inl a1), some (.inl a2), some (.inl (nI 0)), some (.inl x5_57), none]) rfl rfl ?_
          refine go_goto (pc' := 32) rfl rfl ?_
          exact (lp_backE h hk32 :))
      exact lo32 _ ((nI 0), I) hl32 
    · replace h := o_t (Decidable.of_not_not h21) h
      refine go_iconst (pc' := 25) (v := (-1 : Int32)) rfl rfl rfl ?_
      cases h
      exact go_iret rfl (trivial) ⟨rfl, rfl, rfl, rfl, rfl⟩
/-- PricedBasesModel.raisesByTwo(III)Z -/
def m_316 (th : Nat) (a0 : Int32) (a1 : Int32) (a2 : Int32) (I : ai_I) (Rf : ai_R) (G : ai_G) : Option (Int32) :=
  o_b1 (m_250 th a0 (a1 ||| a2) I Rf G) (fun r_5 => o_b1 (m_250 th a0 a1 I Rf G) (fun r_11 => if r_5 = (r_11 + (nI 2)) then (some (nI 1)) else (some (nI 0))))
theorem md_316 {d : Nat} {I : ai_I} {J : ai_J} {Rf : ai_R} {G : ai_G} {th : Nat} {a0 : Int32} {a1 : Int32} {a2 : Int32} {r : Int32} (hd : 4 ≤ d) (hth : G.1 th = 11) (h : m_316 th a0 a1 a2 I Rf G = some r) : ai_Cl si_t si_ms d 316 [.inr (.inr th), .inl a0, .inl a1, .inl a2] I J Rf G (some (.inl r)) I J Rf G := by
  obtain ⟨e, rfl⟩ : ∃ e, d = e + 1 := ⟨d - 1, by omega⟩
  unfold m_316 at h
  refine sp_in (lo := [some (.inr (.inr th)), some (.inl a0), some (.inl a1), some (.inl a2)]) (B := (0, 0)) rfl (Nat.le_of_ble_eq_true rfl) rfl rfl ?_
  refine go_aload_n (pc' := 1) rfl rfl rfl ?_
  refine go_iload_n (pc' := 2) rfl rfl rfl ?_
  refine go_iload_n (pc' := 3) rfl rfl rfl ?_
  refine go_iload_n (pc' := 4) rfl rfl rfl ?_
  refine go_ior (pc' := 5) rfl rfl ?_
  obtain ⟨r_5, q_5, h⟩ := o_b1E h
  refine go_callV (pc' := 8) (B' := (0, 0)) (st' := [.inl r_5]) rfl rfl (Or.inl (by decide)) rfl rfl hth (md_250 (by omega) hth q_5) rfl rfl rfl ?_
  refine go_aload_n (pc' := 9) rfl rfl rfl ?_
  refine go_iload_n (pc' := 10) rfl rfl rfl ?_
  refine go_iload_n (pc' := 11) rfl rfl rfl ?_
  obtain ⟨r_11, q_11, h⟩ := o_b1E h
  refine go_callV (pc' := 14) (B' := (0, 0)) (st' := [.inl r_11, .inl r_5]) rfl rfl (Or.inl (by decide)) rfl rfl hth (md_250 (by omega) hth q_11) rfl rfl rfl ?_
  refine go_iconst (pc' := 15) (v := (nI 2)) rfl rfl rfl ?_
  refine go_iadd (pc' := 16) rfl rfl ?_
  refine go_icmp_ne (pt := 23) (pc' := 19) rfl rfl rfl (fun h16 => ?_) (fun h16 => ?_)
  · replace h := o_f h16 h
    refine go_iconst (pc' := 24) (v := (nI 0)) rfl rfl rfl ?_
    cases h
    exact go_iret rfl (rfl) ⟨rfl, rfl, rfl, rfl, rfl⟩
  · replace h := o_t (Decidable.of_not_not h16) h
    refine go_iconst (pc' := 20) (v := (nI 1)) rfl rfl rfl ?_
    refine go_goto (pc' := 24) rfl rfl ?_
    cases h
    exact go_iret rfl (rfl) ⟨rfl, rfl, rfl, rfl, rfl⟩
def m_317_x15_71 : Option (Int32) :=
  some (nI 0)
def m_317_x15_85 : Option (Int32) :=
  some (nI 1)
def m_317_x28_71 : Option (Int32 ⊕ (Unit ⊕ Unit)) :=
  some (Sum.inr (Sum.inl ()))
def m_317_x28_79 (v4_15 : Int32) : Option (Int32 ⊕ (Unit ⊕ Unit)) :=
  o_b1 (some (v4_15 + (nI 1))) (fun x4_79 => some (Sum.inl x4_79))
def m_317_b28 (th : Nat) (a0 : Int32) (a1 : Int32) (a2 : Int32) (I : ai_I) (Rf : ai_R) (G : ai_G) (v4_15 : Int32) (v5_28 : Int32) : Option (Int32 ⊕ (Unit ⊕ Unit)) :=
  if (nI 8) ≤ v5_28 then (some (Sum.inr (Sum.inr ()))) else (o_b1 (m_192 a2 v4_15) (fun r_38 => if r_38 = 0 then (o_b1 (some (v5_28 + (nI 1))) (fun x5_73 => some (Sum.inl x5_73))) else (o_b1 (m_192 a2 v5_28) (fun r_47 => if r_47 = 0 then (o_b1 (some (v5_28 + (nI 1))) (fun x5_73 => some (Sum.inl x5_73))) else (o_b1 (m_316 th a0 a1 (((nI 1) <<< (v4_15 &&& 31)) ||| ((nI 1) <<< (v5_28 &&& 31))) I Rf G) (fun r_65 => if r_65 = 0 then (some (Sum.inr (Sum.inl ()))) else (o_b1 (some (v5_28 + (nI 1))) (fun x5_73 => some (Sum.inl x5_73)))))))))
def m_317_b15 (th : Nat) (a0 : Int32) (a1 : Int32) (a2 : Int32) (I : ai_I) (Rf : ai_R) (G : ai_G) (v4_15 : Int32) : Option (Int32 ⊕ (Unit ⊕ Unit)) :=
  if (nI 8) ≤ v4_15 then (some (Sum.inr (Sum.inr ()))) else (o_b1 (some (v4_15 + (nI 1))) (fun x5_26 => o_s2 (lp (fun s => m_317_b28 th a0 a1 a2 I Rf G v4_15 s) o_N x5_26) (fun t => m_317_x28_71) (fun t => m_317_x28_79 v4_15)))
/-- PricedBasesModel.isFour(III)Z -/
def m_317 (th : Nat) (a0 : Int32) (a1 : Int32) (a2 : Int32) (I : ai_I) (Rf : ai_R) (G : ai_G) : Option (Int32) :=
  o_b1 (m_316 th a0 a1 a2 I Rf G) (fun r_4 => if r_4 = 0 then (some (nI 0)) else (o_s2 (lp (fun s => m_317_b15 th a0 a1 a2 I Rf G s) o_N (nI 0)) (fun t => m_317_x15_71) (fun t => m_317_x15_85)))
theorem md_317 {d : Nat} {I : ai_I} {J : ai_J} {Rf : ai_R} {G : ai_G} {th : Nat} {a0 : Int32} {a1 : Int32} {a2 : Int32} {r : Int32} (hd : 5 ≤ d) (hth : G.1 th = 11) (h : m_317 th a0 a1 a2 I Rf G = some r) : ai_Cl si_t si_ms d 317 [.inr (.inr th), .inl a0, .inl a1, .inl a2] I J Rf G (some (.inl r)) I J Rf G := by
  obtain ⟨e, rfl⟩ : ∃ e, d = e + 1 := ⟨d - 1, by omega⟩
  unfold m_317 at h
  refine sp_in (lo := [some (.inr (.inr th)), some (.inl a0), some (.inl a1), some (.inl a2), none, none]) (B := (0, 0)) rfl (Nat.le_of_ble_eq_true rfl) rfl rfl ?_
  refine go_aload_n (pc' := 1) rfl rfl rfl ?_
  refine go_iload_n (pc' := 2) rfl rfl rfl ?_
  refine go_iload_n (pc' := 3) rfl rfl rfl ?_
  refine go_iload_n (pc' := 4) rfl rfl rfl ?_
  obtain ⟨r_4, q_4, h⟩ := o_b1E h
  refine go_callV (pc' := 7) (B' := (0, 0)) (st' := [.inl r_4]) rfl rfl (Or.inl (by decide)) rfl rfl hth (md_316 (by omega) hth q_4) rfl rfl rfl ?_
  refine go_if_ne (pt := 12) (pc' := 10) rfl rfl rfl (fun h7 => ?_) (fun h7 => ?_)
  · replace h := o_f h7 h
    refine go_iconst (pc' := 13) (v := (nI 0)) rfl rfl rfl ?_
    refine go_istore (pc' := 15) (lo' := [some (.inr (.inr th)), some (.inl a0), some (.inl a1), some (.inl a2), some (.inl (nI 0)), none]) rfl rfl rfl ?_
    obtain ⟨q15, hl15, hc15_71, hc15_85⟩ := o_s2E h
    have ex15_71 : ∀ (z4_x71 : Option ai_V) (z5_x71 : Option ai_V), (Sum.inl ()) = q15 → ai_Go si_t (11, false, 3, cd_317) (ai_Cl si_t si_ms e) (sp_Q (some (.inl r)) I J Rf G) 71 [some (.inr (.inr th)), some (.inl a0), some (.inl a1), some (.inl a2), z4_x71, z5_x71] [] (0, 0) I J Rf G := by
      intro z4_x71 z5_x71 hq
      have h : m_317_x15_71 = some r := hc15_71 () hq.symm
      unfold m_317_x15_71 at h
      refine go_iconst (pc' := 72) (v := (nI 0)) rfl rfl rfl ?_
      cases h
      exact go_iret rfl (rfl) ⟨rfl, rfl, rfl, rfl, rfl⟩
    have ex15_85 : ∀ (z4_x85 : Option ai_V) (z5_x85 : Option ai_V), (Sum.inr ()) = q15 → ai_Go si_t (11, false, 3, cd_317) (ai_Cl si_t si_ms e) (sp_Q (some (.inl r)) I J Rf G) 85 [some (.inr (.inr th)), some (.inl a0), some (.inl a1), some (.inl a2), z4_x85, z5_x85] [] (0, 0) I J Rf G := by
      intro z4_x85 z5_x85 hq
      have h : m_317_x15_85 = some r := hc15_85 () hq.symm
      unfold m_317_x15_85 at h
      refine go_iconst (pc' := 86) (v := (nI 1)) rfl rfl rfl ?_
      cases h
      exact go_iret rfl (rfl) ⟨rfl, rfl, rfl, rfl, rfl⟩
    have lo15 : ∀ n s, lp (fun s => m_317_b15 th a0 a1 a2 I Rf G s) n s = some q15 → (fun s => ∀ (z5_15 : Option ai_V), ai_Go si_t (11, false, 3, cd_317) (ai_Cl si_t si_ms e) (sp_Q (some (.inl r)) I J Rf G) 15 [some (.inr (.inr th)), some (.inl a0), some (.inl a1), some (.inl a2), some (.inl s), z5_15] [] (0, 0) I J Rf G) s := lp_go (fun s x15 hx hk15 => by
      revert s; intro v4_15 hx
      intro z5_15
      have h : m_317_b15 th a0 a1 a2 I Rf G v4_15 = some x15 := hx
      clear hx
      show ai_Go si_t (11, false, 3, cd_317) (ai_Cl si_t si_ms e) (sp_Q (some (.inl r)) I J Rf G) 15 [some (.inr (.inr th)), some (.inl a0), some (.inl a1), some (.inl a2), some (.inl v4_15), z5_15] [] (0, 0) I J Rf G
      unfold m_317_b15 at h
      refine go_iload (pc' := 17) rfl rfl rfl ?_
      refine go_bipush (pc' := 19) (v := (nI 8)) rfl rfl rfl ?_
      refine go_icmp_ge (pt := 85) (pc' := 22) rfl rfl rfl (fun h19 => ?_) (fun h19 => ?_)
      · replace h := o_t h19 h
        exact ex15_85  (some (.inl v4_15)) z5_15 (lp_exitE h hk15)
      · replace h := o_f h19 h
        refine go_iload (pc' := 24) rfl rfl rfl ?_
        refine go_iconst (pc' := 25) (v := (nI 1)) rfl rfl rfl ?_
        refine go_iadd (pc' := 26) rfl rfl ?_
        obtain ⟨x5_26, ex5_26, h⟩ := o_b1E h
        refine go_ndI ex5_26 ?_
        refine go_istore (pc' := 28) (lo' := [some (.inr (.inr th)), some (.inl a0), some (.inl a1), some (.inl a2), some (.inl v4_15), some (.inl x5_26)]) rfl rfl rfl ?_
        obtain ⟨q28, hl28, hc28_71, hc28_79⟩ := o_s2E h
        have ex28_71 : ∀ (z5_x71 : Option ai_V), (Sum.inl ()) = q28 → ai_Go si_t (11, false, 3, cd_317) (ai_Cl si_t si_ms e) (sp_Q (some (.inl r)) I J Rf G) 71 [some (.inr (.inr th)), some (.inl a0), some (.inl a1), some (.inl a2), some (.inl v4_15), z5_x71] [] (0, 0) I J Rf G := by
          intro z5_x71 hq
          have h : m_317_x28_71 = some x15 := hc28_71 () hq.symm
          unfold m_317_x28_71 at h
          exact ex15_71  (some (.inl v4_15)) z5_x71 (lp_exitE h hk15)
        have ex28_79 : ∀ (z5_x79 : Option ai_V), (Sum.inr ()) = q28 → ai_Go si_t (11, false, 3, cd_317) (ai_Cl si_t si_ms e) (sp_Q (some (.inl r)) I J Rf G) 79 [some (.inr (.inr th)), some (.inl a0), some (.inl a1), some (.inl a2), some (.inl v4_15), z5_x79] [] (0, 0) I J Rf G := by
          intro z5_x79 hq
          have h : m_317_x28_79 v4_15 = some x15 := hc28_79 () hq.symm
          unfold m_317_x28_79 at h
          obtain ⟨x4_79, ex4_79, h⟩ := o_b1E h
          refine go_iincE (pc' := 82) rfl rfl (y := (nI 1)) rfl ex4_79 (lo' := [some (.inr (.inr th)), some (.inl a0), some (.inl a1), some (.inl a2), some (.inl x4_79), z5_x79]) rfl rfl ?_
          refine go_goto (pc' := 15) rfl rfl ?_
          exact (lp_backE h hk15 z5_x79 :)
        have lo28 : ∀ n s, lp (fun s => m_317_b28 th a0 a1 a2 I Rf G v4_15 s) n s = some q28 → (fun s => ai_Go si_t (11, false, 3, cd_317) (ai_Cl si_t si_ms e) (sp_Q (some (.inl r)) I J Rf G) 28 [some (.inr (.inr th)), some (.inl a0), some (.inl a1), some (.inl a2), some (.inl v4_15), some (.inl s)] [] (0, 0) I J Rf G) s := lp_go (fun s x28 hx hk28 => by
          revert s; intro v5_28 hx
          have h : m_317_b28 th a0 a1 a2 I Rf G v4_15 v5_28 = some x28 := hx
          clear hx
          show ai_Go si_t (11, false, 3, cd_317) (ai_Cl si_t si_ms e) (sp_Q (some (.inl r)) I J Rf G) 28 [some (.inr (.inr th)), some (.inl a0), some (.inl a1), some (.inl a2), some (.inl v4_15), some (.inl v5_28)] [] (0, 0) I J Rf G
          unfold m_317_b28 at h
          refine go_iload (pc' := 30) rfl rfl rfl ?_
          refine go_bipush (pc' := 32) (v := (nI 8)) rfl rfl rfl ?_
          refine go_icmp_ge (pt := 79) (pc' := 35) rfl rfl rfl (fun h32 => ?_) (fun h32 => ?_)
          · replace h := o_t h32 h
            exact ex28_79  (some (.inl v5_28)) (lp_exitE h hk28)
          · replace h := o_f h32 h
            refine go_iload_n (pc' := 36) rfl rfl rfl ?_
            refine go_iload (pc' := 38) rfl rfl rfl ?_
            obtain ⟨r_38, q_38, h⟩ := o_b1E h
            refine go_callS (pc' := 41) (B' := (0, 0)) (st' := [.inl r_38]) rfl rfl (Or.inl (by decide)) rfl rfl trivial (md_192 (by omega) q_38) rfl rfl rfl ?_
            refine go_if_eq (pt := 73) (pc' := 44) rfl rfl rfl (fun h41 => ?_) (fun h41 => ?_)
            · replace h := o_t h41 h
              obtain ⟨x5_73, ex5_73, h⟩ := o_b1E h
              refine go_iincE (pc' := 76) rfl rfl (y := (nI 1)) rfl ex5_73 (lo' := [some (.inr (.inr th)), some (.inl a0), some (.inl a1), some (.inl a2), some (.inl v4_15), some (.inl x5_73)]) rfl rfl ?_
              refine go_goto (pc' := 28) rfl rfl ?_
              exact (lp_backE h hk28 :)
            · replace h := o_f h41 h
              refine go_iload_n (pc' := 45) rfl rfl rfl ?_
              refine go_iload (pc' := 47) rfl rfl rfl ?_
              obtain ⟨r_47, q_47, h⟩ := o_b1E h
              refine go_callS (pc' := 50) (B' := (0, 0)) (st' := [.inl r_47]) rfl rfl (Or.inl (by decide)) rfl rfl trivial (md_192 (by omega) q_47) rfl rfl rfl ?_
              refine go_if_eq (pt := 73) (pc' := 53) rfl rfl rfl (fun h50 => ?_) (fun h50 => ?_)
              · replace h := o_t h50 h
                obtain ⟨x5_73, ex5_73, h⟩ := o_b1E h
                refine go_iincE (pc' := 76) rfl rfl (y := (nI 1)) rfl ex5_73 (lo' := [some (.inr (.inr th)), some (.inl a0), some (.inl a1), some (.inl a2), some (.inl v4_15), some (.inl x5_73)]) rfl rfl ?_
                refine go_goto (pc' := 28) rfl rfl ?_
                exact (lp_backE h hk28 :)
              · replace h := o_f h50 h
                refine go_aload_n (pc' := 54) rfl rfl rfl ?_
                refine go_iload_n (pc' := 55) rfl rfl rfl ?_
                refine go_iload_n (pc' := 56) rfl rfl rfl ?_
                refine go_iconst (pc' := 57) (v := (nI 1)) rfl rfl rfl ?_
                refine go_iload (pc' := 59) rfl rfl rfl ?_
                refine go_ishl (pc' := 60) rfl rfl ?_
                refine go_iconst (pc' := 61) (v := (nI 1)) rfl rfl rfl ?_
                refine go_iload (pc' := 63) rfl rfl rfl ?_
                refine go_ishl (pc' := 64) rfl rfl ?_
                refine go_ior (pc' := 65) rfl rfl ?_
                obtain ⟨r_65, q_65, h⟩ := o_b1E h
                refine go_callV (pc' := 68) (B' := (0, 0)) (st' := [.inl r_65]) rfl rfl (Or.inl (by decide)) rfl rfl hth (md_316 (by omega) hth q_65) rfl rfl rfl ?_
                refine go_if_ne (pt := 73) (pc' := 71) rfl rfl rfl (fun h68 => ?_) (fun h68 => ?_)
                · replace h := o_f h68 h
                  obtain ⟨x5_73, ex5_73, h⟩ := o_b1E h
                  refine go_iincE (pc' := 76) rfl rfl (y := (nI 1)) rfl ex5_73 (lo' := [some (.inr (.inr th)), some (.inl a0), some (.inl a1), some (.inl a2), some (.inl v4_15), some (.inl x5_73)]) rfl rfl ?_
                  refine go_goto (pc' := 28) rfl rfl ?_
                  exact (lp_backE h hk28 :)
                · replace h := o_t (Decidable.of_not_not h68) h
                  exact ex28_71  (some (.inl v5_28)) (lp_exitE h hk28))
        exact lo28 _ x5_26 hl28 )
    exact lo15 _ (nI 0) hl15 none
  · replace h := o_t (Decidable.of_not_not h7) h
    refine go_iconst (pc' := 11) (v := (nI 0)) rfl rfl rfl ?_
    cases h
    exact go_iret rfl (rfl) ⟨rfl, rfl, rfl, rfl, rfl⟩
def m_318_x11_55 : Option (Int32) :=
  some (nI 0)
def m_318_x11_69 : Option (Int32) :=
  some (nI 1)
def m_318_x22_55 : Option (Int32 ⊕ (Unit ⊕ Unit)) :=
  some (Sum.inr (Sum.inl ()))
def m_318_x22_63 (v2_11 : Int32) : Option (Int32 ⊕ (Unit ⊕ Unit)) :=
  o_b1 (some (v2_11 + (nI 1))) (fun x2_63 => some (Sum.inl x2_63))
def m_318_b22 (th : Nat) (a0 : Int32) (I : ai_I) (Rf : ai_R) (G : ai_G) (v2_11 : Int32) (v3_22 : Int32) : Option (Int32 ⊕ (Unit ⊕ Unit)) :=
  o_b1 (m_197 th a0 I Rf G) (fun r_25 => if r_25 < v3_22 then (some (Sum.inr (Sum.inr ()))) else (if (v2_11 &&& v3_22) = 0 then (o_b1 (m_193 v3_22) (fun r_38 => if r_38 = (nI 4) then (o_b1 (m_317 th a0 v2_11 v3_22 I Rf G) (fun r_49 => if r_49 = 0 then (o_b1 (some (v3_22 + (nI 1))) (fun x3_57 => some (Sum.inl x3_57))) else (some (Sum.inr (Sum.inl ()))))) else (o_b1 (some (v3_22 + (nI 1))) (fun x3_57 => some (Sum.inl x3_57))))) else (o_b1 (some (v3_22 + (nI 1))) (fun x3_57 => some (Sum.inl x3_57)))))
def m_318_b11 (th : Nat) (a0 : Int32) (I : ai_I) (Rf : ai_R) (G : ai_G) (v2_11 : Int32) : Option (Int32 ⊕ (Unit ⊕ Unit)) :=
  o_b1 (m_197 th a0 I Rf G) (fun r_14 => if r_14 < v2_11 then (some (Sum.inr (Sum.inr ()))) else (o_s2 (lp (fun s => m_318_b22 th a0 I Rf G v2_11 s) o_N (nI 0)) (fun t => m_318_x22_55) (fun t => m_318_x22_63 v2_11)))
/-- PricedBasesModel.binary(I)I -/
def m_318 (th : Nat) (a0 : Int32) (I : ai_I) (Rf : ai_R) (G : ai_G) : Option (Int32) :=
  o_b1 (m_200 a0) (fun r_1 => if r_1 = 0 then (some (-1 : Int32)) else (o_s2 (lp (fun s => m_318_b11 th a0 I Rf G s) o_N (nI 0)) (fun t => m_318_x11_55) (fun t => m_318_x11_69)))
theorem md_318 {d : Nat} {I : ai_I} {J : ai_J} {Rf : ai_R} {G : ai_G} {th : Nat} {a0 : Int32} {r : Int32} (hd : 6 ≤ d) (hth : G.1 th = 11) (h : m_318 th a0 I Rf G = some r) : ai_Cl si_t si_ms d 318 [.inr (.inr th), .inl a0] I J Rf G (some (.inl r)) I J Rf G := by
  obtain ⟨e, rfl⟩ : ∃ e, d = e + 1 := ⟨d - 1, by omega⟩
  unfold m_318 at h
  refine sp_in (lo := [some (.inr (.inr th)), some (.inl a0), none, none]) (B := (0, 0)) rfl (Nat.le_of_ble_eq_true rfl) rfl rfl ?_
  refine go_iload_n (pc' := 1) rfl rfl rfl ?_
  obtain ⟨r_1, q_1, h⟩ := o_b1E h
  refine go_callS (pc' := 4) (B' := (0, 0)) (st' := [.inl r_1]) rfl rfl (Or.inl (by decide)) rfl rfl trivial (md_200 (by omega) q_1) rfl rfl rfl ?_
  refine go_if_ne (pt := 9) (pc' := 7) rfl rfl rfl (fun h4 => ?_) (fun h4 => ?_)
  · replace h := o_f h4 h
    refine go_iconst (pc' := 10) (v := (nI 0)) rfl rfl rfl ?_
    refine go_istore_n (pc' := 11) (lo' := [some (.inr (.inr th)), some (.inl a0), some (.inl (nI 0)), none]) rfl rfl rfl ?_
    obtain ⟨q11, hl11, hc11_55, hc11_69⟩ := o_s2E h
    have ex11_55 : ∀ (z2_x55 : Option ai_V) (z3_x55 : Option ai_V), (Sum.inl ()) = q11 → ai_Go si_t (11, false, 0, cd_318) (ai_Cl si_t si_ms e) (sp_Q (some (.inl r)) I J Rf G) 55 [some (.inr (.inr th)), some (.inl a0), z2_x55, z3_x55] [] (0, 0) I J Rf G := by
      intro z2_x55 z3_x55 hq
      have h : m_318_x11_55 = some r := hc11_55 () hq.symm
      unfold m_318_x11_55 at h
      refine go_iconst (pc' := 56) (v := (nI 0)) rfl rfl rfl ?_
      cases h
      exact go_iret rfl (trivial) ⟨rfl, rfl, rfl, rfl, rfl⟩
    have ex11_69 : ∀ (z2_x69 : Option ai_V) (z3_x69 : Option ai_V), (Sum.inr ()) = q11 → ai_Go si_t (11, false, 0, cd_318) (ai_Cl si_t si_ms e) (sp_Q (some (.inl r)) I J Rf G) 69 [some (.inr (.inr th)), some (.inl a0), z2_x69, z3_x69] [] (0, 0) I J Rf G := by
      intro z2_x69 z3_x69 hq
      have h : m_318_x11_69 = some r := hc11_69 () hq.symm
      unfold m_318_x11_69 at h
      refine go_iconst (pc' := 70) (v := (nI 1)) rfl rfl rfl ?_
      cases h
      exact go_iret rfl (trivial) ⟨rfl, rfl, rfl, rfl, rfl⟩
    have lo11 : ∀ n s, lp (fun s => m_318_b11 th a0 I Rf G s) n s = some q11 → (fun s => ∀ (z3_11 : Option ai_V), ai_Go si_t (11, false, 0, cd_318) (ai_Cl si_t si_ms e) (sp_Q (some (.inl r)) I J Rf G) 11 [some (.inr (.inr th)), some (.inl a0), some (.inl s), z3_11] [] (0, 0) I J Rf G) s := lp_go (fun s x11 hx hk11 => by
      revert s; intro v2_11 hx
      intro z3_11
      have h : m_318_b11 th a0 I Rf G v2_11 = some x11 := hx
      clear hx
      show ai_Go si_t (11, false, 0, cd_318) (ai_Cl si_t si_ms e) (sp_Q (some (.inl r)) I J Rf G) 11 [some (.inr (.inr th)), some (.inl a0), some (.inl v2_11), z3_11] [] (0, 0) I J Rf G
      unfold m_318_b11 at h
      refine go_iload_n (pc' := 12) rfl rfl rfl ?_
      refine go_aload_n (pc' := 13) rfl rfl rfl ?_
      refine go_iload_n (pc' := 14) rfl rfl rfl ?_
      obtain ⟨r_14, q_14, h⟩ := o_b1E h
      refine go_callV (pc' := 17) (B' := (0, 0)) (st' := [.inl r_14, .inl v2_11]) rfl rfl (Or.inl (by decide)) rfl rfl hth (md_197 (by omega) hth q_14) rfl rfl rfl ?_
      refine go_icmp_gt (pt := 69) (pc' := 20) rfl rfl rfl (fun h17 => ?_) (fun h17 => ?_)
      · replace h := o_t h17 h
        exact ex11_69  (some (.inl v2_11)) z3_11 (lp_exitE h hk11)
      · replace h := o_f h17 h
        refine go_iconst (pc' := 21) (v := (nI 0)) rfl rfl rfl ?_
        refine go_istore_n (pc' := 22) (lo' := [some (.inr (.inr th)), some (.inl a0), some (.inl v2_11), some (.inl (nI 0))]) rfl rfl rfl ?_
        obtain ⟨q22, hl22, hc22_55, hc22_63⟩ := o_s2E h
        have ex22_55 : ∀ (z3_x55 : Option ai_V), (Sum.inl ()) = q22 → ai_Go si_t (11, false, 0, cd_318) (ai_Cl si_t si_ms e) (sp_Q (some (.inl r)) I J Rf G) 55 [some (.inr (.inr th)), some (.inl a0), some (.inl v2_11), z3_x55] [] (0, 0) I J Rf G := by
          intro z3_x55 hq
          have h : m_318_x22_55 = some x11 := hc22_55 () hq.symm
          unfold m_318_x22_55 at h
          exact ex11_55  (some (.inl v2_11)) z3_x55 (lp_exitE h hk11)
        have ex22_63 : ∀ (z3_x63 : Option ai_V), (Sum.inr ()) = q22 → ai_Go si_t (11, false, 0, cd_318) (ai_Cl si_t si_ms e) (sp_Q (some (.inl r)) I J Rf G) 63 [some (.inr (.inr th)), some (.inl a0), some (.inl v2_11), z3_x63] [] (0, 0) I J Rf G := by
          intro z3_x63 hq
          have h : m_318_x22_63 v2_11 = some x11 := hc22_63 () hq.symm
          unfold m_318_x22_63 at h
          obtain ⟨x2_63, ex2_63, h⟩ := o_b1E h
          refine go_iincE (pc' := 66) rfl rfl (y := (nI 1)) rfl ex2_63 (lo' := [some (.inr (.inr th)), some (.inl a0), some (.inl x2_63), z3_x63]) rfl rfl ?_
          refine go_goto (pc' := 11) rfl rfl ?_
          exact (lp_backE h hk11 z3_x63 :)
        have lo22 : ∀ n s, lp (fun s => m_318_b22 th a0 I Rf G v2_11 s) n s = some q22 → (fun s => ai_Go si_t (11, false, 0, cd_318) (ai_Cl si_t si_ms e) (sp_Q (some (.inl r)) I J Rf G) 22 [some (.inr (.inr th)), some (.inl a0), some (.inl v2_11), some (.inl s)] [] (0, 0) I J Rf G) s := lp_go (fun s x22 hx hk22 => by
          revert s; intro v3_22 hx
          have h : m_318_b22 th a0 I Rf G v2_11 v3_22 = some x22 := hx
          clear hx
          show ai_Go si_t (11, false, 0, cd_318) (ai_Cl si_t si_ms e) (sp_Q (some (.inl r)) I J Rf G) 22 [some (.inr (.inr th)), some (.inl a0), some (.inl v2_11), some (.inl v3_22)] [] (0, 0) I J Rf G
          unfold m_318_b22 at h
          refine go_iload_n (pc' := 23) rfl rfl rfl ?_
          refine go_aload_n (pc' := 24) rfl rfl rfl ?_
          refine go_iload_n (pc' := 25) rfl rfl rfl ?_
          obtain ⟨r_25, q_25, h⟩ := o_b1E h
          refine go_callV (pc' := 28) (B' := (0, 0)) (st' := [.inl r_25, .inl v3_22]) rfl rfl (Or.inl (by decide)) rfl rfl hth (md_197 (by omega) hth q_25) rfl rfl rfl ?_
          refine go_icmp_gt (pt := 63) (pc' := 31) rfl rfl rfl (fun h28 => ?_) (fun h28 => ?_)
          · replace h := o_t h28 h
            exact ex22_63  (some (.inl v3_22)) (lp_exitE h hk22)
          · replace h := o_f h28 h
            refine go_iload_n (pc' := 32) rfl rfl rfl ?_
            refine go_iload_n (pc' := 33) rfl rfl rfl ?_
            refine go_iand (pc' := 34) rfl rfl ?_
            refine go_if_ne (pt := 57) (pc' := 37) rfl rfl rfl (fun h34 => ?_) (fun h34 => ?_)
            · replace h := o_f h34 h
              obtain ⟨x3_57, ex3_57, h⟩ := o_b1E h
              refine go_iincE (pc' := 60) rfl rfl (y := (nI 1)) rfl ex3_57 (lo' := [some (.inr (.inr th)), some (.inl a0), some (.inl v2_11), some (.inl x3_57)]) rfl rfl ?_
              refine go_goto (pc' := 22) rfl rfl ?_
              exact (lp_backE h hk22 :)
            · replace h := o_t (Decidable.of_not_not h34) h
              refine go_iload_n (pc' := 38) rfl rfl rfl ?_
              obtain ⟨r_38, q_38, h⟩ := o_b1E h
              refine go_callS (pc' := 41) (B' := (0, 0)) (st' := [.inl r_38]) rfl rfl (Or.inl (by decide)) rfl rfl trivial (md_193 (by omega) q_38) rfl rfl rfl ?_
              refine go_iconst (pc' := 42) (v := (nI 4)) rfl rfl rfl ?_
              refine go_icmp_ne (pt := 57) (pc' := 45) rfl rfl rfl (fun h42 => ?_) (fun h42 => ?_)
              · replace h := o_f h42 h
                obtain ⟨x3_57, ex3_57, h⟩ := o_b1E h
                refine go_iincE (pc' := 60) rfl rfl (y := (nI 1)) rfl ex3_57 (lo' := [some (.inr (.inr th)), some (.inl a0), some (.inl v2_11), some (.inl x3_57)]) rfl rfl ?_
                refine go_goto (pc' := 22) rfl rfl ?_
                exact (lp_backE h hk22 :)
              · replace h := o_t (Decidable.of_not_not h42) h
                refine go_aload_n (pc' := 46) rfl rfl rfl ?_
                refine go_iload_n (pc' := 47) rfl rfl rfl ?_
                refine go_iload_n (pc' := 48) rfl rfl rfl ?_
                refine go_iload_n (pc' := 49) rfl rfl rfl ?_
                obtain ⟨r_49, q_49, h⟩ := o_b1E h
                refine go_callV (pc' := 52) (B' := (0, 0)) (st' := [.inl r_49]) rfl rfl (Or.inl (by decide)) rfl rfl hth (md_317 (by omega) hth q_49) rfl rfl rfl ?_
                refine go_if_eq (pt := 57) (pc' := 55) rfl rfl rfl (fun h52 => ?_) (fun h52 => ?_)
                · replace h := o_t h52 h
                  obtain ⟨x3_57, ex3_57, h⟩ := o_b1E h
                  refine go_iincE (pc' := 60) rfl rfl (y := (nI 1)) rfl ex3_57 (lo' := [some (.inr (.inr th)), some (.inl a0), some (.inl v2_11), some (.inl x3_57)]) rfl rfl ?_
                  refine go_goto (pc' := 22) rfl rfl ?_
                  exact (lp_backE h hk22 :)
                · replace h := o_f h52 h
                  exact ex22_55  (some (.inl v3_22)) (lp_exitE h hk22))
        exact lo22 _ (nI 0) hl22 )
    exact lo11 _ (nI 0) hl11 none
  · replace h := o_t (Decidable.of_not_not h4) h
    refine go_iconst (pc' := 8) (v := (-1 : Int32)) rfl rfl rfl ?_
    cases h
    exact go_iret rfl (trivial) ⟨rfl, rfl, rfl, rfl, rfl⟩
def m_319_x68_146 (th : Nat) (a3 : Int32) (I : ai_I) (Rf : ai_R) (G : ai_G) (w5_146 : Int32) (w6_146 : Int32) : Option (Int32) :=
  if a3 = 0 then (some w5_146) else (if a3 = (nI 2) then (some w6_146) else (if 0 ≤ w6_146 then (o_b1 (m_233 th w6_146 I Rf G) (fun r_180 => some r_180)) else (some (-2147483648 : Int32))))
def m_319_b68 (th : Nat) (a0 : Int32) (a1 : Int32) (a2 : Int32) (I : ai_I) (Rf : ai_R) (G : ai_G) (v5_68 : Int32) (v6_68 : Int32) (v7_68 : Int32) : Option ((Int32 × Int32 × Int32) ⊕ (Int32 × Int32)) :=
  o_b1 (m_197 th a0 I Rf G) (fun r_72 => if r_72 < v7_68 then (some (Sum.inr (v5_68, v6_68))) else (o_b1 (m_193 v7_68) (fun r_80 => if r_80 = a2 then (o_b1 (m_252 th a0 v7_68 I Rf G) (fun r_91 => if r_91 = 0 then (o_b1 (some (v7_68 + (nI 1))) (fun x7_140 => some (Sum.inl (v5_68, v6_68, x7_140)))) else (o_b1 (m_252 th a1 v7_68 I Rf G) (fun r_101 => if r_101 = 0 then (o_b1 (some (v7_68 + (nI 1))) (fun x7_140 => some (Sum.inl (v5_68, v6_68, x7_140)))) else (o_b1 (some (v5_68 + (nI 1))) (fun x5_114 => if v6_68 < 0 then (o_b1 (some (v7_68 + (nI 1))) (fun x7_140 => some (Sum.inl (x5_114, v7_68, x7_140)))) else (o_b1 (m_233 th v7_68 I Rf G) (fun r_124 => o_b1 (m_233 th v6_68 I Rf G) (fun r_130 => if r_124 ≤ r_130 then (o_b1 (some (v7_68 + (nI 1))) (fun x7_140 => some (Sum.inl (x5_114, v6_68, x7_140)))) else (o_b1 (some (v7_68 + (nI 1))) (fun x7_140 => some (Sum.inl (x5_114, v7_68, x7_140))))))))))))) else (o_b1 (some (v7_68 + (nI 1))) (fun x7_140 => some (Sum.inl (v5_68, v6_68, x7_140)))))))
/-- PricedBasesModel.shared(IIII)I -/
def m_319 (th : Nat) (a0 : Int32) (a1 : Int32) (a2 : Int32) (a3 : Int32) (I : ai_I) (Rf : ai_R) (G : ai_G) : Option (Int32) :=
  o_b1 (m_200 a0) (fun r_1 => if r_1 = 0 then (some (-2147483648 : Int32)) else (o_b1 (m_200 a1) (fun r_8 => if r_8 = 0 then (some (-2147483648 : Int32)) else (o_b1 (m_195 th a0 I Rf G) (fun r_16 => o_b1 (m_195 th a1 I Rf G) (fun r_21 => if r_16 = r_21 then (o_b1 (m_195 th a0 I Rf G) (fun r_32 => o_b1 (m_189 a2.toInt64 (0 : Int64) r_32.toInt64) (fun r_36 => if r_36 = 0 then (some (-2147483648 : Int32)) else (o_b1 (m_189 a3.toInt64 (0 : Int64) (2 : Int64)) (fun r_49 => if r_49 = 0 then (some (-2147483648 : Int32)) else (o_s1 (lp (fun s => m_319_b68 th a0 a1 a2 I Rf G s.1 s.2.1 s.2.2) o_N ((nI 0), (-2 : Int32), (nI 0))) (fun t => m_319_x68_146 th a3 I Rf G t.1 t.2))))))) else (some (-2147483648 : Int32))))))))
theorem md_319 {d : Nat} {I : ai_I} {J : ai_J} {Rf : ai_R} {G : ai_G} {th : Nat} {a0 : Int32} {a1 : Int32} {a2 : Int32} {a3 : Int32} {r : Int32} (hd : 5 ≤ d) (hth : G.1 th = 11) (h : m_319 th a0 a1 a2 a3 I Rf G = some r) : ai_Cl si_t si_ms d 319 [.inr (.inr th), .inl a0, .inl a1, .inl a2, .inl a3] I J Rf G (some (.inl r)) I J Rf G := by
  obtain ⟨e, rfl⟩ : ∃ e, d = e + 1 := ⟨d - 1, by omega⟩
  unfold m_319 at h
  refine sp_in (lo := [some (.inr (.inr th)), some (.inl a0), some (.inl a1), some (.inl a2), some (.inl a3), none, none, none]) (B := (0, 0)) rfl (Nat.le_of_ble_eq_true rfl) rfl rfl ?_
  refine go_iload_n (pc' := 1) rfl rfl rfl ?_
  obtain ⟨r_1, q_1, h⟩ := o_b1E h
  refine go_callS (pc' := 4) (B' := (0, 0)) (st' := [.inl r_1]) rfl rfl (Or.inl (by decide)) rfl rfl trivial (md_200 (by omega) q_1) rfl rfl rfl ?_
  refine go_if_eq (pt := 55) (pc' := 7) rfl rfl rfl (fun h4 => ?_) (fun h4 => ?_)
  · replace h := o_t h4 h
    refine go_ldc (pc' := 57) (v := .inl (-2147483648 : Int32)) rfl rfl rfl ?_
    cases h
    exact go_iret rfl (trivial) ⟨rfl, rfl, rfl, rfl, rfl⟩
  · replace h := o_f h4 h
    refine go_iload_n (pc' := 8) rfl rfl rfl ?_
    obtain ⟨r_8, q_8, h⟩ := o_b1E h
    refine go_callS (pc' := 11) (B' := (0, 0)) (st' := [.inl r_8]) rfl rfl (Or.inl (by decide)) rfl rfl trivial (md_200 (by omega) q_8) rfl rfl rfl ?_
    refine go_if_eq (pt := 55) (pc' := 14) rfl rfl rfl (fun h11 => ?_) (fun h11 => ?_)
    · replace h := o_t h11 h
      refine go_ldc (pc' := 57) (v := .inl (-2147483648 : Int32)) rfl rfl rfl ?_
      cases h
      exact go_iret rfl (trivial) ⟨rfl, rfl, rfl, rfl, rfl⟩
    · replace h := o_f h11 h
      refine go_aload_n (pc' := 15) rfl rfl rfl ?_
      refine go_iload_n (pc' := 16) rfl rfl rfl ?_
      obtain ⟨r_16, q_16, h⟩ := o_b1E h
      refine go_callV (pc' := 19) (B' := (0, 0)) (st' := [.inl r_16]) rfl rfl (Or.inl (by decide)) rfl rfl hth (md_195 (by omega) hth q_16) rfl rfl rfl ?_
      refine go_aload_n (pc' := 20) rfl rfl rfl ?_
      refine go_iload_n (pc' := 21) rfl rfl rfl ?_
      obtain ⟨r_21, q_21, h⟩ := o_b1E h
      refine go_callV (pc' := 24) (B' := (0, 0)) (st' := [.inl r_21, .inl r_16]) rfl rfl (Or.inl (by decide)) rfl rfl hth (md_195 (by omega) hth q_21) rfl rfl rfl ?_
      refine go_icmp_ne (pt := 55) (pc' := 27) rfl rfl rfl (fun h24 => ?_) (fun h24 => ?_)
      · replace h := o_f h24 h
        refine go_ldc (pc' := 57) (v := .inl (-2147483648 : Int32)) rfl rfl rfl ?_
        cases h
        exact go_iret rfl (trivial) ⟨rfl, rfl, rfl, rfl, rfl⟩
      · replace h := o_t (Decidable.of_not_not h24) h
        refine go_iload_n (pc' := 28) rfl rfl rfl ?_
        refine go_i2l (pc' := 29) rfl rfl ?_
        refine go_lconst (pc' := 30) (v := (0 : Int64)) rfl rfl rfl ?_
        refine go_aload_n (pc' := 31) rfl rfl rfl ?_
        refine go_iload_n (pc' := 32) rfl rfl rfl ?_
        obtain ⟨r_32, q_32, h⟩ := o_b1E h
        refine go_callV (pc' := 35) (B' := (0, 0)) (st' := [.inl r_32, .inr (.inl (0 : Int64)), .inr (.inl a2.toInt64)]) rfl rfl (Or.inl (by decide)) rfl rfl hth (md_195 (by omega) hth q_32) rfl rfl rfl ?_
        refine go_i2l (pc' := 36) rfl rfl ?_
        obtain ⟨r_36, q_36, h⟩ := o_b1E h
        refine go_callS (pc' := 39) (B' := (0, 0)) (st' := [.inl r_36]) rfl rfl (Or.inl (by decide)) rfl rfl trivial (md_189 (by omega) q_36) rfl rfl rfl ?_
        refine go_if_eq (pt := 55) (pc' := 42) rfl rfl rfl (fun h39 => ?_) (fun h39 => ?_)
        · replace h := o_t h39 h
          refine go_ldc (pc' := 57) (v := .inl (-2147483648 : Int32)) rfl rfl rfl ?_
          cases h
          exact go_iret rfl (trivial) ⟨rfl, rfl, rfl, rfl, rfl⟩
        · replace h := o_f h39 h
          refine go_iload (pc' := 44) rfl rfl rfl ?_
          refine go_i2l (pc' := 45) rfl rfl ?_
          refine go_lconst (pc' := 46) (v := (0 : Int64)) rfl rfl rfl ?_
          refine go_ldc2_w (pc' := 49) (v := .inr (.inl (2 : Int64))) rfl rfl rfl ?_
          obtain ⟨r_49, q_49, h⟩ := o_b1E h
          refine go_callS (pc' := 52) (B' := (0, 0)) (st' := [.inl r_49]) rfl rfl (Or.inl (by decide)) rfl rfl trivial (md_189 (by omega) q_49) rfl rfl rfl ?_
          refine go_if_ne (pt := 58) (pc' := 55) rfl rfl rfl (fun h52 => ?_) (fun h52 => ?_)
          · replace h := o_f h52 h
            refine go_iconst (pc' := 59) (v := (nI 0)) rfl rfl rfl ?_
            refine go_istore (pc' := 61) (lo' := [some (.inr (.inr th)), some (.inl a0), some (.inl a1), some (.inl a2), some (.inl a3), some (.inl (nI 0)), none, none]) rfl rfl rfl ?_
            refine go_bipush (pc' := 63) (v := (-2 : Int32)) rfl rfl rfl ?_
            refine go_istore (pc' := 65) (lo' := [some (.inr (.inr th)), some (.inl a0), some (.inl a1), some (.inl a2), some (.inl a3), some (.inl (nI 0)), some (.inl (-2 : Int32)), none]) rfl rfl rfl ?_
            refine go_iconst (pc' := 66) (v := (nI 0)) rfl rfl rfl ?_
            refine go_istore (pc' := 68) (lo' := [some (.inr (.inr th)), some (.inl a0), some (.inl a1), some (.inl a2), some (.inl a3), some (.inl (nI 0)), some (.inl (-2 : Int32)), some (.inl (nI 0))]) rfl rfl rfl ?_
            obtain ⟨q68, hl68, hc68_146⟩ := o_s1E h
            have ex68_146 : ∀ (w5_146 : Int32) (w6_146 : Int32) (z7_x146 : Option ai_V), (w5_146, w6_146) = q68 → ai_Go si_t (11, false, 0, cd_319) (ai_Cl si_t si_ms e) (sp_Q (some (.inl r)) I J Rf G) 146 [some (.inr (.inr th)), some (.inl a0), some (.inl a1), some (.inl a2), some (.inl a3), some (.inl w5_146), some (.inl w6_146), z7_x146] [] (0, 0) I J Rf G := by
              intro w5_146 w6_146 z7_x146 hq
              have h : m_319_x68_146 th a3 I Rf G w5_146 w6_146 = some r := hc68_146 (w5_146, w6_146) hq.symm
              unfold m_319_x68_146 at h
              refine go_iload (pc' := 148) rfl rfl rfl ?_
              refine go_if_ne (pt := 156) (pc' := 151) rfl rfl rfl (fun h148 => ?_) (fun h148 => ?_)
              · replace h := o_f h148 h
                refine go_iload (pc' := 158) rfl rfl rfl ?_
                refine go_iconst (pc' := 159) (v := (nI 2)) rfl rfl rfl ?_
                refine go_icmp_ne (pt := 167) (pc' := 162) rfl rfl rfl (fun h159 => ?_) (fun h159 => ?_)
                · replace h := o_f h159 h
                  refine go_iload (pc' := 169) rfl rfl rfl ?_
                  refine go_if_ge (pt := 177) (pc' := 172) rfl rfl rfl (fun h169 => ?_) (fun h169 => ?_)
                  · replace h := o_t h169 h
                    refine go_aload_n (pc' := 178) rfl rfl rfl ?_
                    refine go_iload (pc' := 180) rfl rfl rfl ?_
                    obtain ⟨r_180, q_180, h⟩ := o_b1E h
                    refine go_callV (pc' := 183) (B' := (0, 0)) (st' := [.inl r_180]) rfl rfl (Or.inl (by decide)) rfl rfl hth (md_233 (by omega) hth q_180) rfl rfl rfl ?_
                    cases h
                    exact go_iret rfl (trivial) ⟨rfl, rfl, rfl, rfl, rfl⟩
                  · replace h := o_f h169 h
                    refine go_ldc (pc' := 174) (v := .inl (-2147483648 : Int32)) rfl rfl rfl ?_
                    refine go_goto (pc' := 183) rfl rfl ?_
                    cases h
                    exact go_iret rfl (trivial) ⟨rfl, rfl, rfl, rfl, rfl⟩
                · replace h := o_t (Decidable.of_not_not h159) h
                  refine go_iload (pc' := 164) rfl rfl rfl ?_
                  refine go_goto (pc' := 183) rfl rfl ?_
                  cases h
                  exact go_iret rfl (trivial) ⟨rfl, rfl, rfl, rfl, rfl⟩
              · replace h := o_t (Decidable.of_not_not h148) h
                refine go_iload (pc' := 153) rfl rfl rfl ?_
                refine go_goto (pc' := 183) rfl rfl ?_
                cases h
                exact go_iret rfl (trivial) ⟨rfl, rfl, rfl, rfl, rfl⟩
            have lo68 : ∀ n s, lp (fun s => m_319_b68 th a0 a1 a2 I Rf G s.1 s.2.1 s.2.2) n s = some q68 → (fun s => ai_Go si_t (11, false, 0, cd_319) (ai_Cl si_t si_ms e) (sp_Q (some (.inl r)) I J Rf G) 68 [some (.inr (.inr th)), some (.inl a0), some (.inl a1), some (.inl a2), some (.inl a3), some (.inl s.1), some (.inl s.2.1), some (.inl s.2.2)] [] (0, 0) I J Rf G) s := lp_go (fun s x68 hx hk68 => by
              obtain ⟨v5_68, v6_68, v7_68⟩ := s
              have h : m_319_b68 th a0 a1 a2 I Rf G v5_68 v6_68 v7_68 = some x68 := hx
              clear hx
              show ai_Go si_t (11, false, 0, cd_319) (ai_Cl si_t si_ms e) (sp_Q (some (.inl r)) I J Rf G) 68 [some (.inr (.inr th)), some (.inl a0), some (.inl a1), some (.inl a2), some (.inl a3), some (.inl v5_68), some (.inl v6_68), some (.inl v7_68)] [] (0, 0) I J Rf G
              unfold m_319_b68 at h
              refine go_iload (pc' := 70) rfl rfl rfl ?_
              refine go_aload_n (pc' := 71) rfl rfl rfl ?_
              refine go_iload_n (pc' := 72) rfl rfl rfl ?_
              obtain ⟨r_72, q_72, h⟩ := o_b1E h
              refine go_callV (pc' := 75) (B' := (0, 0)) (st' := [.inl r_72, .inl v7_68]) rfl rfl (Or.inl (by decide)) rfl rfl hth (md_197 (by omega) hth q_72) rfl rfl rfl ?_
              refine go_icmp_gt (pt := 146) (pc' := 78) rfl rfl rfl (fun h75 => ?_) (fun h75 => ?_)
              · replace h := o_t h75 h
                exact ex68_146 _ _ (some (.inl v7_68)) (lp_exitE h hk68)
              · replace h := o_f h75 h
                refine go_iload (pc' := 80) rfl rfl rfl ?_
                obtain ⟨r_80, q_80, h⟩ := o_b1E h
                refine go_callS (pc' := 83) (B' := (0, 0)) (st' := [.inl r_80]) rfl rfl (Or.inl (by decide)) rfl rfl trivial (md_193 (by omega) q_80) rfl rfl rfl ?_
                refine go_iload_n (pc' := 84) rfl rfl rfl ?_
                refine go_icmp_ne (pt := 140) (pc' := 87) rfl rfl rfl (fun h84 => ?_) (fun h84 => ?_)
                · replace h := o_f h84 h
                  obtain ⟨x7_140, ex7_140, h⟩ := o_b1E h
                  refine go_iincE (pc' := 143) rfl rfl (y := (nI 1)) rfl ex7_140 (lo' := [some (.inr (.inr th)), some (.inl a0), some (.inl a1), some (.inl a2), some (.inl a3), some (.inl v5_68), some (.inl v6_68), some (.inl x7_140)]) rfl rfl ?_
                  refine go_goto (pc' := 68) rfl rfl ?_
                  exact (lp_backE h hk68 :)
                · replace h := o_t (Decidable.of_not_not h84) h
                  refine go_aload_n (pc' := 88) rfl rfl rfl ?_
                  refine go_iload_n (pc' := 89) rfl rfl rfl ?_
                  refine go_iload (pc' := 91) rfl rfl rfl ?_
                  obtain ⟨r_91, q_91, h⟩ := o_b1E h
                  refine go_callV (pc' := 94) (B' := (0, 0)) (st' := [.inl r_91]) rfl rfl (Or.inl (by decide)) rfl rfl hth (md_252 (by omega) hth q_91) rfl rfl rfl ?_
                  refine go_if_eq (pt := 140) (pc' := 97) rfl rfl rfl (fun h94 => ?_) (fun h94 => ?_)
                  · replace h := o_t h94 h
                    obtain ⟨x7_140, ex7_140, h⟩ := o_b1E h
                    refine go_iincE (pc' := 143) rfl rfl (y := (nI 1)) rfl ex7_140 (lo' := [some (.inr (.inr th)), some (.inl a0), some (.inl a1), some (.inl a2), some (.inl a3), some (.inl v5_68), some (.inl v6_68), some (.inl x7_140)]) rfl rfl ?_
                    refine go_goto (pc' := 68) rfl rfl ?_
                    exact (lp_backE h hk68 :)
                  · replace h := o_f h94 h
                    refine go_aload_n (pc' := 98) rfl rfl rfl ?_
                    refine go_iload_n (pc' := 99) rfl rfl rfl ?_
                    refine go_iload (pc' := 101) rfl rfl rfl ?_
                    obtain ⟨r_101, q_101, h⟩ := o_b1E h
                    refine go_callV (pc' := 104) (B' := (0, 0)) (st' := [.inl r_101]) rfl rfl (Or.inl (by decide)) rfl rfl hth (md_252 (by omega) hth q_101) rfl rfl rfl ?_
                    refine go_if_ne (pt := 110) (pc' := 107) rfl rfl rfl (fun h104 => ?_) (fun h104 => ?_)
                    · replace h := o_f h104 h
                      refine go_iload (pc' := 112) rfl rfl rfl ?_
                      refine go_iconst (pc' := 113) (v := (nI 1)) rfl rfl rfl ?_
                      refine go_iadd (pc' := 114) rfl rfl ?_
                      obtain ⟨x5_114, ex5_114, h⟩ := o_b1E h
                      refine go_ndI ex5_114 ?_
                      refine go_istore (pc' := 116) (lo' := [some (.inr (.inr th)), some (.inl a0), some (.inl a1), some (.inl a2), some (.inl a3), some (.inl x5_114), some (.inl v6_68), some (.inl v7_68)]) rfl rfl rfl ?_
                      refine go_iload (pc' := 118) rfl rfl rfl ?_
                      refine go_if_lt (pt := 136) (pc' := 121) rfl rfl rfl (fun h118 => ?_) (fun h118 => ?_)
                      · replace h := o_t h118 h
                        refine go_iload (pc' := 138) rfl rfl rfl ?_
                        refine go_istore (pc' := 140) (lo' := [some (.inr (.inr th)), some (.inl a0), some (.inl a1), some (.inl a2), some (.inl a3), some (.inl x5_114), some (.inl v7_68), some (.inl v7_68)]) rfl rfl rfl ?_
                        obtain ⟨x7_140, ex7_140, h⟩ := o_b1E h
                        refine go_iincE (pc' := 143) rfl rfl (y := (nI 1)) rfl ex7_140 (lo' := [some (.inr (.inr th)), some (.inl a0), some (.inl a1), some (.inl a2), some (.inl a3), some (.inl x5_114), some (.inl v7_68), some (.inl x7_140)]) rfl rfl ?_
                        refine go_goto (pc' := 68) rfl rfl ?_
                        exact (lp_backE h hk68 :)
                      · replace h := o_f h118 h
                        refine go_aload_n (pc' := 122) rfl rfl rfl ?_
                        refine go_iload (pc' := 124) rfl rfl rfl ?_
                        obtain ⟨r_124, q_124, h⟩ := o_b1E h
                        refine go_callV (pc' := 127) (B' := (0, 0)) (st' := [.inl r_124]) rfl rfl (Or.inl (by decide)) rfl rfl hth (md_233 (by omega) hth q_124) rfl rfl rfl ?_
                        refine go_aload_n (pc' := 128) rfl rfl rfl ?_
                        refine go_iload (pc' := 130) rfl rfl rfl ?_
                        obtain ⟨r_130, q_130, h⟩ := o_b1E h
                        refine go_callV (pc' := 133) (B' := (0, 0)) (st' := [.inl r_130, .inl r_124]) rfl rfl (Or.inl (by decide)) rfl rfl hth (md_233 (by omega) hth q_130) rfl rfl rfl ?_
                        refine go_icmp_le (pt := 140) (pc' := 136) rfl rfl rfl (fun h133 => ?_) (fun h133 => ?_)
                        · replace h := o_t h133 h
                          obtain ⟨x7_140, ex7_140, h⟩ := o_b1E h
                          refine go_iincE (pc' := 143) rfl rfl (y := (nI 1)) rfl ex7_140 (lo' := [some (.inr (.inr th)), some (.inl a0), some (.inl a1), some (.inl a2), some (.inl a3), some (.inl x5_114), some (.inl v6_68), some (.inl x7_140)]) rfl rfl ?_
                          refine go_goto (pc' := 68) rfl rfl ?_
                          exact (lp_backE h hk68 :)
                        · replace h := o_f h133 h
                          refine go_iload (pc' := 138) rfl rfl rfl ?_
                          refine go_istore (pc' := 140) (lo' := [some (.inr (.inr th)), some (.inl a0), some (.inl a1), some (.inl a2), some (.inl a3), some (.inl x5_114), some (.inl v7_68), some (.inl v7_68)]) rfl rfl rfl ?_
                          obtain ⟨x7_140, ex7_140, h⟩ := o_b1E h
                          refine go_iincE (pc' := 143) rfl rfl (y := (nI 1)) rfl ex7_140 (lo' := [some (.inr (.inr th)), some (.inl a0), some (.inl a1), some (.inl a2), some (.inl a3), some (.inl x5_114), some (.inl v7_68), some (.inl x7_140)]) rfl rfl ?_
                          refine go_goto (pc' := 68) rfl rfl ?_
                          exact (lp_backE h hk68 :)
                    · replace h := o_t (Decidable.of_not_not h104) h
                      refine go_goto (pc' := 140) rfl rfl ?_
                      obtain ⟨x7_140, ex7_140, h⟩ := o_b1E h
                      refine go_iincE (pc' := 143) rfl rfl (y := (nI 1)) rfl ex7_140 (lo' := [some (.inr (.inr th)), some (.inl a0), some (.inl a1), some (.inl a2), some (.inl a3), some (.inl v5_68), some (.inl v6_68), some (.inl x7_140)]) rfl rfl ?_
                      refine go_goto (pc' := 68) rfl rfl ?_
                      exact (lp_backE h hk68 :))
            exact lo68 _ ((nI 0), (-2 : Int32), (nI 0)) hl68 
          · replace h := o_t (Decidable.of_not_not h52) h
            refine go_ldc (pc' := 57) (v := .inl (-2147483648 : Int32)) rfl rfl rfl ?_
            cases h
            exact go_iret rfl (trivial) ⟨rfl, rfl, rfl, rfl, rfl⟩
def m_320_x33_130 (th : Nat) (a1 : Int32) (Rf : ai_R) (G : ai_G) (Ix_130 : ai_I) : Option (Int32 × ai_I) :=
  o_g (o_in G 13 (Rf th 33) a1) (some (Ix_130 (Rf th 33) a1.toNatClampNeg, Ix_130))
def m_320_x66_124 (v3_33 : Int32) (Ix_124 : ai_I) : Option ((Int32 × ai_I) ⊕ ai_I) :=
  o_b1 (some (v3_33 + (-1 : Int32))) (fun x3_124 => some (Sum.inl (x3_124, Ix_124)))
def m_320_b66 (th : Nat) (a0 : Int32) (Rf : ai_R) (G : ai_G) (v3_33 : Int32) (v4_66 : Int32) (I_66 : ai_I) : Option ((Int32 × ai_I) ⊕ ai_I) :=
  if v4_66 < 0 then (some (Sum.inr I_66)) else (o_b1 (m_192 v3_33 v4_66) (fun r_74 => if r_74 = 0 then (o_b1 (m_252 th a0 (v3_33 ||| ((nI 1) <<< (v4_66 &&& 31))) I_66 Rf G) (fun r_88 => if r_88 = 0 then (o_b1 (some (v4_66 + (-1 : Int32))) (fun x4_118 => some (Sum.inl (x4_118, I_66)))) else (o_g (o_in G 13 (Rf th 33) (v3_33 ||| ((nI 1) <<< (v4_66 &&& 31)))) (if (I_66 (Rf th 33) (v3_33 ||| ((nI 1) <<< (v4_66 &&& 31))).toNatClampNeg) = 0 then (o_g (o_in G 13 (Rf th 33) v3_33) (o_b1 (some (va_up I_66 (Rf th 33) (va_up (I_66 (Rf th 33)) v3_33.toNatClampNeg ((nI 1) + v4_66)))) (fun I_117 => o_b1 (some (v4_66 + (-1 : Int32))) (fun x4_118 => some (Sum.inl (x4_118, I_117)))))) else (o_b1 (some (v4_66 + (-1 : Int32))) (fun x4_118 => some (Sum.inl (x4_118, I_66)))))))) else (o_b1 (some (v4_66 + (-1 : Int32))) (fun x4_118 => some (Sum.inl (x4_118, I_66))))))
def m_320_b33 (th : Nat) (a0 : Int32) (a1 : Int32) (Rf : ai_R) (G : ai_G) (v3_33 : Int32) (I_33 : ai_I) : Option ((Int32 × ai_I) ⊕ ai_I) :=
  if v3_33 < a1 then (some (Sum.inr I_33)) else (o_g (o_in G 13 (Rf th 33) v3_33) (o_b1 (some (va_up I_33 (Rf th 33) (va_up (I_33 (Rf th 33)) v3_33.toNatClampNeg (nI 0)))) (fun I_44 => o_b1 (m_252 th a0 v3_33 I_44 Rf G) (fun r_48 => if r_48 = 0 then (o_b1 (some (v3_33 + (-1 : Int32))) (fun x3_124 => some (Sum.inl (x3_124, I_44)))) else (o_b1 (m_195 th a0 I_44 Rf G) (fun r_59 => o_b1 (some (r_59 - (nI 1))) (fun x4_64 => o_s1 (lp (fun s => m_320_b66 th a0 Rf G v3_33 s.1 s.2) o_N (x4_64, I_44)) (fun t => m_320_x66_124 v3_33 t))))))))
/-- PricedBasesModel.game(II)I -/
def m_320 (th : Nat) (a0 : Int32) (a1 : Int32) (I : ai_I) (Rf : ai_R) (G : ai_G) : Option (Int32 × ai_I) :=
  o_b1 (m_200 a0) (fun r_1 => if r_1 = 0 then (some ((-1 : Int32), I)) else (o_b1 (m_201 th a0 a1 I Rf G) (fun r_10 => if r_10 = 0 then (some ((-1 : Int32), I)) else (o_b1 (m_252 th a0 a1 I Rf G) (fun r_19 => if r_19 = 0 then (some ((-1 : Int32), I)) else (o_b1 (m_197 th a0 I Rf G) (fun r_29 => o_s1 (lp (fun s => m_320_b33 th a0 a1 Rf G s.1 s.2) o_N (r_29, I)) (fun t => m_320_x33_130 th a1 Rf G t))))))))
theorem md_320 {d : Nat} {I : ai_I} {J : ai_J} {Rf : ai_R} {G : ai_G} {th : Nat} {a0 : Int32} {a1 : Int32} {r : Int32} {I1 : ai_I} (hd : 5 ≤ d) (hth : G.1 th = 11) (h : m_320 th a0 a1 I Rf G = some (r, I1)) : ai_Cl si_t si_ms d 320 [.inr (.inr th), .inl a0, .inl a1] I J Rf G (some (.inl r)) I1 J Rf G := by
  obtain ⟨e, rfl⟩ : ∃ e, d = e + 1 := ⟨d - 1, by omega⟩
  unfold m_320 at h
  refine sp_in (lo := [some (.inr (.inr th)), some (.inl a0), some (.inl a1), none, none]) (B := (0, 0)) rfl (Nat.le_of_ble_eq_true rfl) rfl rfl ?_
  refine go_iload_n (pc' := 1) rfl rfl rfl ?_
  obtain ⟨r_1, q_1, h⟩ := o_b1E h
  refine go_callS (pc' := 4) (B' := (0, 0)) (st' := [.inl r_1]) rfl rfl (Or.inl (by decide)) rfl rfl trivial (md_200 (by omega) q_1) rfl rfl rfl ?_
  refine go_if_eq (pt := 25) (pc' := 7) rfl rfl rfl (fun h4 => ?_) (fun h4 => ?_)
  · replace h := o_t h4 h
    refine go_iconst (pc' := 26) (v := (-1 : Int32)) rfl rfl rfl ?_
    cases h
    exact go_iret rfl (trivial) ⟨rfl, rfl, rfl, rfl, rfl⟩
  · replace h := o_f h4 h
    refine go_aload_n (pc' := 8) rfl rfl rfl ?_
    refine go_iload_n (pc' := 9) rfl rfl rfl ?_
    refine go_iload_n (pc' := 10) rfl rfl rfl ?_
    obtain ⟨r_10, q_10, h⟩ := o_b1E h
    refine go_callV (pc' := 13) (B' := (0, 0)) (st' := [.inl r_10]) rfl rfl (Or.inl (by decide)) rfl rfl hth (md_201 (by omega) hth q_10) rfl rfl rfl ?_
    refine go_if_eq (pt := 25) (pc' := 16) rfl rfl rfl (fun h13 => ?_) (fun h13 => ?_)
    · replace h := o_t h13 h
      refine go_iconst (pc' := 26) (v := (-1 : Int32)) rfl rfl rfl ?_
      cases h
      exact go_iret rfl (trivial) ⟨rfl, rfl, rfl, rfl, rfl⟩
    · replace h := o_f h13 h
      refine go_aload_n (pc' := 17) rfl rfl rfl ?_
      refine go_iload_n (pc' := 18) rfl rfl rfl ?_
      refine go_iload_n (pc' := 19) rfl rfl rfl ?_
      obtain ⟨r_19, q_19, h⟩ := o_b1E h
      refine go_callV (pc' := 22) (B' := (0, 0)) (st' := [.inl r_19]) rfl rfl (Or.inl (by decide)) rfl rfl hth (md_252 (by omega) hth q_19) rfl rfl rfl ?_
      refine go_if_ne (pt := 27) (pc' := 25) rfl rfl rfl (fun h22 => ?_) (fun h22 => ?_)
      · replace h := o_f h22 h
        refine go_aload_n (pc' := 28) rfl rfl rfl ?_
        refine go_iload_n (pc' := 29) rfl rfl rfl ?_
        obtain ⟨r_29, q_29, h⟩ := o_b1E h
        refine go_callV (pc' := 32) (B' := (0, 0)) (st' := [.inl r_29]) rfl rfl (Or.inl (by decide)) rfl rfl hth (md_197 (by omega) hth q_29) rfl rfl rfl ?_
        refine go_istore_n (pc' := 33) (lo' := [some (.inr (.inr th)), some (.inl a0), some (.inl a1), some (.inl r_29), none]) rfl rfl rfl ?_
        obtain ⟨q33, hl33, hc33_130⟩ := o_s1E h
        have ex33_130 : ∀ (Ix_130 : ai_I) (z3_x130 : Option ai_V) (z4_x130 : Option ai_V), Ix_130 = q33 → ai_Go si_t (11, false, 0, cd_320) (ai_Cl si_t si_ms e) (sp_Q (some (.inl r)) I1 J Rf G) 130 [some (.inr (.inr th)), some (.inl a0), some (.inl a1), z3_x130, z4_x130] [] (0, 0) Ix_130 J Rf G := by
          intro Ix_130 z3_x130 z4_x130 hq
          have h : m_320_x33_130 th a1 Rf G Ix_130 = some (r, I1) := hc33_130 Ix_130 hq.symm
          unfold m_320_x33_130 at h
          refine go_aload_n (pc' := 131) rfl rfl rfl ?_
          refine go_getR (pc' := 134) rfl rfl hth rfl ?_
          refine go_iload_n (pc' := 135) rfl rfl rfl ?_
          obtain ⟨g0, h⟩ := o_gE h
          refine go_iaload (pc' := 136) rfl (o_inK g0) (o_inB g0) rfl ?_
          cases h
          exact go_iret rfl (trivial) ⟨rfl, rfl, rfl, rfl, rfl⟩
        have lo33 : ∀ n s, lp (fun s => m_320_b33 th a0 a1 Rf G s.1 s.2) n s = some q33 → (fun s => ∀ (z4_33 : Option ai_V), ai_Go si_t (11, false, 0, cd_320) (ai_Cl si_t si_ms e) (sp_Q (some (.inl r)) I1 J Rf G) 33 [some (.inr (.inr th)), some (.inl a0), some (.inl a1), some (.inl s.1), z4_33] [] (0, 0) s.2 J Rf G) s := lp_go (fun s x33 hx hk33 => by
          obtain ⟨v3_33, I_33⟩ := s
          intro z4_33
          have h : m_320_b33 th a0 a1 Rf G v3_33 I_33 = some x33 := hx
          clear hx
          show ai_Go si_t (11, false, 0, cd_320) (ai_Cl si_t si_ms e) (sp_Q (some (.inl r)) I1 J Rf G) 33 [some (.inr (.inr th)), some (.inl a0), some (.inl a1), some (.inl v3_33), z4_33] [] (0, 0) I_33 J Rf G
          unfold m_320_b33 at h
          refine go_iload_n (pc' := 34) rfl rfl rfl ?_
          refine go_iload_n (pc' := 35) rfl rfl rfl ?_
          refine go_icmp_lt (pt := 130) (pc' := 38) rfl rfl rfl (fun h35 => ?_) (fun h35 => ?_)
          · replace h := o_t h35 h
            exact ex33_130 _ (some (.inl v3_33)) z4_33 (lp_exitE h hk33)
          · replace h := o_f h35 h
            refine go_aload_n (pc' := 39) rfl rfl rfl ?_
            refine go_getR (pc' := 42) rfl rfl hth rfl ?_
            refine go_iload_n (pc' := 43) rfl rfl rfl ?_
            refine go_iconst (pc' := 44) (v := (nI 0)) rfl rfl rfl ?_
            obtain ⟨g1, h⟩ := o_gE h
            obtain ⟨I_44, eI_44, h⟩ := o_b1E h
            refine go_iastore (pc' := 45) rfl (o_inK g1) (o_inB g1) rfl ?_
            refine go_ndMI eI_44 ?_
            refine go_aload_n (pc' := 46) rfl rfl rfl ?_
            refine go_iload_n (pc' := 47) rfl rfl rfl ?_
            refine go_iload_n (pc' := 48) rfl rfl rfl ?_
            obtain ⟨r_48, q_48, h⟩ := o_b1E h
            refine go_callV (pc' := 51) (B' := (0, 0)) (st' := [.inl r_48]) rfl rfl (Or.inl (by decide)) rfl rfl hth (md_252 (by omega) hth q_48) rfl rfl rfl ?_
            refine go_if_ne (pt := 57) (pc' := 54) rfl rfl rfl (fun h51 => ?_) (fun h51 => ?_)
            · replace h := o_f h51 h
              refine go_aload_n (pc' := 58) rfl rfl rfl ?_
              refine go_iload_n (pc' := 59) rfl rfl rfl ?_
              obtain ⟨r_59, q_59, h⟩ := o_b1E h
              refine go_callV (pc' := 62) (B' := (0, 0)) (st' := [.inl r_59]) rfl rfl (Or.inl (by decide)) rfl rfl hth (md_195 (by omega) hth q_59) rfl rfl rfl ?_
              refine go_iconst (pc' := 63) (v := (nI 1)) rfl rfl rfl ?_
              refine go_isub (pc' := 64) rfl rfl ?_
              obtain ⟨x4_64, ex4_64, h⟩ := o_b1E h
              refine go_ndI ex4_64 ?_
              refine go_istore (pc' := 66) (lo' := [some (.inr (.inr th)), some (.inl a0), some (.inl a1), some (.inl v3_33), some (.inl x4_64)]) rfl rfl rfl ?_
              obtain ⟨q66, hl66, hc66_124⟩ := o_s1E h
              have ex66_124 : ∀ (Ix_124 : ai_I) (z4_x124 : Option ai_V), Ix_124 = q66 → ai_Go si_t (11, false, 0, cd_320) (ai_Cl si_t si_ms e) (sp_Q (some (.inl r)) I1 J Rf G) 124 [some (.inr (.inr th)), some (.inl a0), some (.inl a1), some (.inl v3_33), z4_x124] [] (0, 0) Ix_124 J Rf G := by
                intro Ix_124 z4_x124 hq
                have h : m_320_x66_124 v3_33 Ix_124 = some x33 := hc66_124 Ix_124 hq.symm
                unfold m_320_x66_124 at h
                obtain ⟨x3_124, ex3_124, h⟩ := o_b1E h
                refine go_iincE (pc' := 127) rfl rfl (y := (-1 : Int32)) rfl ex3_124 (lo' := [some (.inr (.inr th)), some (.inl a0), some (.inl a1), some (.inl x3_124), z4_x124]) rfl rfl ?_
                refine go_goto (pc' := 33) rfl rfl ?_
                exact (lp_backE h hk33 z4_x124 :)
              have lo66 : ∀ n s, lp (fun s => m_320_b66 th a0 Rf G v3_33 s.1 s.2) n s = some q66 → (fun s => ai_Go si_t (11, false, 0, cd_320) (ai_Cl si_t si_ms e) (sp_Q (some (.inl r)) I1 J Rf G) 66 [some (.inr (.inr th)), some (.inl a0), some (.inl a1), some (.inl v3_33), some (.inl s.1)] [] (0, 0) s.2 J Rf G) s := lp_go (fun s x66 hx hk66 => by
                obtain ⟨v4_66, I_66⟩ := s
                have h : m_320_b66 th a0 Rf G v3_33 v4_66 I_66 = some x66 := hx
                clear hx
                show ai_Go si_t (11, false, 0, cd_320) (ai_Cl si_t si_ms e) (sp_Q (some (.inl r)) I1 J Rf G) 66 [some (.inr (.inr th)), some (.inl a0), some (.inl a1), some (.inl v3_33), some (.inl v4_66)] [] (0, 0) I_66 J Rf G
                unfold m_320_b66 at h
                refine go_iload (pc' := 68) rfl rfl rfl ?_
                refine go_if_lt (pt := 124) (pc' := 71) rfl rfl rfl (fun h68 => ?_) (fun h68 => ?_)
                · replace h := o_t h68 h
                  exact ex66_124 _ (some (.inl v4_66)) (lp_exitE h hk66)
                · replace h := o_f h68 h
                  refine go_iload_n (pc' := 72) rfl rfl rfl ?_
                  refine go_iload (pc' := 74) rfl rfl rfl ?_
                  obtain ⟨r_74, q_74, h⟩ := o_b1E h
                  refine go_callS (pc' := 77) (B' := (0, 0)) (st' := [.inl r_74]) rfl rfl (Or.inl (by decide)) rfl rfl trivial (md_192 (by omega) q_74) rfl rfl rfl ?_
                  refine go_if_ne (pt := 118) (pc' := 80) rfl rfl rfl (fun h77 => ?_) (fun h77 => ?_)
                  · replace h := o_f h77 h
                    obtain ⟨x4_118, ex4_118, h⟩ := o_b1E h
                    refine go_iincE (pc' := 121) rfl rfl (y := (-1 : Int32)) rfl ex4_118 (lo' := [some (.inr (.inr th)), some (.inl a0), some (.inl a1), some (.inl v3_33), some (.inl x4_118)]) rfl rfl ?_
                    refine go_goto (pc' := 66) rfl rfl ?_
                    exact (lp_backE h hk66 :)
                  · replace h := o_t (Decidable.of_not_not h77) h
                    refine go_aload_n (pc' := 81) rfl rfl rfl ?_
                    refine go_iload_n (pc' := 82) rfl rfl rfl ?_
                    refine go_iload_n (pc' := 83) rfl rfl rfl ?_
                    refine go_iconst (pc' := 84) (v := (nI 1)) rfl rfl rfl ?_
                    refine go_iload (pc' := 86) rfl rfl rfl ?_
                    refine go_ishl (pc' := 87) rfl rfl ?_
                    refine go_ior (pc' := 88) rfl rfl ?_
                    obtain ⟨r_88, q_88, h⟩ := o_b1E h
                    refine go_callV (pc' := 91) (B' := (0, 0)) (st' := [.inl r_88]) rfl rfl (Or.inl (by decide)) rfl rfl hth (md_252 (by omega) hth q_88) rfl rfl rfl ?_
                    refine go_if_eq (pt := 118) (pc' := 94) rfl rfl rfl (fun h91 => ?_) (fun h91 => ?_)
                    · replace h := o_t h91 h
                      obtain ⟨x4_118, ex4_118, h⟩ := o_b1E h
                      refine go_iincE (pc' := 121) rfl rfl (y := (-1 : Int32)) rfl ex4_118 (lo' := [some (.inr (.inr th)), some (.inl a0), some (.inl a1), some (.inl v3_33), some (.inl x4_118)]) rfl rfl ?_
                      refine go_goto (pc' := 66) rfl rfl ?_
                      exact (lp_backE h hk66 :)
                    · replace h := o_f h91 h
                      refine go_aload_n (pc' := 95) rfl rfl rfl ?_
                      refine go_getR (pc' := 98) rfl rfl hth rfl ?_
                      refine go_iload_n (pc' := 99) rfl rfl rfl ?_
                      refine go_iconst (pc' := 100) (v := (nI 1)) rfl rfl rfl ?_
                      refine go_iload (pc' := 102) rfl rfl rfl ?_
                      refine go_ishl (pc' := 103) rfl rfl ?_
                      refine go_ior (pc' := 104) rfl rfl ?_
                      obtain ⟨g2, h⟩ := o_gE h
                      refine go_iaload (pc' := 105) rfl (o_inK g2) (o_inB g2) rfl ?_
                      refine go_if_ne (pt := 118) (pc' := 108) rfl rfl rfl (fun h105 => ?_) (fun h105 => ?_)
                      · replace h := o_f h105 h
                        obtain ⟨x4_118, ex4_118, h⟩ := o_b1E h
                        refine go_iincE (pc' := 121) rfl rfl (y := (-1 : Int32)) rfl ex4_118 (lo' := [some (.inr (.inr th)), some (.inl a0), some (.inl a1), some (.inl v3_33), some (.inl x4_118)]) rfl rfl ?_
                        refine go_goto (pc' := 66) rfl rfl ?_
                        exact (lp_backE h hk66 :)
                      · replace h := o_t (Decidable.of_not_not h105) h
                        refine go_aload_n (pc' := 109) rfl rfl rfl ?_
                        refine go_getR (pc' := 112) rfl rfl hth rfl ?_
                        refine go_iload_n (pc' := 113) rfl rfl rfl ?_
                        refine go_iconst (pc' := 114) (v := (nI 1)) rfl rfl rfl ?_
                        refine go_iload (pc' := 116) rfl rfl rfl ?_
                        refine go_iadd (pc' := 117) rfl rfl ?_
                        obtain ⟨g3, h⟩ := o_gE h
                        obtain ⟨I_117, eI_117, h⟩ := o_b1E h
                        refine go_iastore (pc' := 118) rfl (o_inK g3) (o_inB g3) rfl ?_
                        refine go_ndMI eI_117 ?_
                        obtain ⟨x4_118, ex4_118, h⟩ := o_b1E h
                        refine go_iincE (pc' := 121) rfl rfl (y := (-1 : Int32)) rfl ex4_118 (lo' := [some (.inr (.inr th)), some (.inl a0), some (.inl a1), some (.inl v3_33), some (.inl x4_118)]) rfl rfl ?_
                        refine go_goto (pc' := 66) rfl rfl ?_
                        exact (lp_backE h hk66 :))
              exact lo66 _ (x4_64, I_44) hl66 
            · replace h := o_t (Decidable.of_not_not h51) h
              refine go_goto (pc' := 124) rfl rfl ?_
              obtain ⟨x3_124, ex3_124, h⟩ := o_b1E h
              refine go_iincE (pc' := 127) rfl rfl (y := (-1 : Int32)) rfl ex3_124 (lo' := [some (.inr (.inr th)), some (.inl a0), some (.inl a1), some (.inl x3_124), z4_33]) rfl rfl ?_
              refine go_goto (pc' := 33) rfl rfl ?_
              exact (lp_backE h hk33 z4_33 :))
        exact lo33 _ (r_29, I) hl33 none
      · replace h := o_t (Decidable.of_not_not h22) h
        refine go_iconst (pc' := 26) (v := (-1 : Int32)) rfl rfl rfl ?_
        cases h
        exact go_iret rfl (trivial) ⟨rfl, rfl, rfl, rfl, rfl⟩
