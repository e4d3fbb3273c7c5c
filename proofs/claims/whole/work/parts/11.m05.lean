/-! Models of methods and their proofs, piece 5. Printed by wip/whole/pr10.py. -/
def m_38_j68 (th : Nat) (Rf : ai_R) (G : ai_G) (y5_68 : Int32) (I_68 : ai_I) : Option (Int32 × ai_I) :=
  if y5_68 = 0 then (some ((nI 0), I_68)) else (o_b2 (m_42 th I_68 Rf G) (fun r_74 I_74 => if r_74 = 0 then (some ((nI 0), I_74)) else (some ((nI 1), I_74))))
def m_38_j66 (th : Nat) (Rf : ai_R) (G : ai_G) (t0_66 : Int32) (I_66 : ai_I) : Option (Int32 × ai_I) :=
  m_38_j68 th Rf G t0_66 I_66
def m_38_j65 (th : Nat) (Rf : ai_R) (G : ai_G) (I_65 : ai_I) : Option (Int32 × ai_I) :=
  m_38_j66 th Rf G (nI 0) I_65
/-- PricedBases$Maker.isMade(LPricedBases$Clauses;ILPricedBases$State;)Z -/
def m_38 (th : Nat) (a0 : Nat) (a1 : Int32) (a2 : Nat) (I : ai_I) (Rf : ai_R) (G : ai_G) : Option (Int32 × ai_I) :=
  o_g (o_kd G a0 0) (o_b1 (m_2 a0 a1 I Rf G) (fun r_2 => if (nI 4) < r_2 then (o_b1 (m_4 a0 a1 (nI 1) I Rf G) (fun r_30 => o_g (o_kd G a2 6) (o_b1 (m_96 a2 r_30 Rf G) (fun r_33 => if r_33 = 0 then (m_38_j65 th Rf G I) else (o_b1 (m_4 a0 a1 (nI 2) I Rf G) (fun r_51 => o_b2 (m_40 th r_2 r_33 r_51 a2 I Rf G) (fun r_55 I_55 => if r_55 = 0 then (m_38_j65 th Rf G I_55) else (m_38_j66 th Rf G (nI 1) I_55)))))))) else (o_b2 (m_39 th r_2 a0 a1 I Rf G) (fun r_18 I_18 => m_38_j68 th Rf G r_18 I_18))))
theorem md_38 {d : Nat} {I : ai_I} {J : ai_J} {Rf : ai_R} {G : ai_G} {th : Nat} {a0 : Nat} {a1 : Int32} {a2 : Nat} {r : Int32} {I1 : ai_I} (hd : 6 ≤ d) (hth : G.1 th = 3) (h : m_38 th a0 a1 a2 I Rf G = some (r, I1)) : ai_Cl si_t si_ms d 38 [.inr (.inr th), .inr (.inr a0), .inl a1, .inr (.inr a2)] I J Rf G (some (.inl r)) I1 J Rf G := by
  obtain ⟨e, rfl⟩ : ∃ e, d = e + 1 := ⟨d - 1, by omega⟩
  unfold m_38 at h
  refine sp_in (lo := [some (.inr (.inr th)), some (.inr (.inr a0)), some (.inl a1), some (.inr (.inr a2)), none, none, none]) (B := (0, 0)) rfl (Nat.le_of_ble_eq_true rfl) rfl rfl ?_
  refine go_aload_n (pc' := 1) rfl rfl rfl ?_
  refine go_iload_n (pc' := 2) rfl rfl rfl ?_
  obtain ⟨g0, h⟩ := o_gE h
  obtain ⟨r_2, q_2, h⟩ := o_b1E h
  refine go_callV (pc' := 5) (B' := (0, 0)) (st' := [.inl r_2]) rfl rfl (Or.inl (by decide)) rfl rfl (o_kdE g0) (md_2 (by omega) (o_kdE g0) q_2) rfl rfl rfl ?_
  refine go_istore (pc' := 7) (lo' := [some (.inr (.inr th)), some (.inr (.inr a0)), some (.inl a1), some (.inr (.inr a2)), some (.inl r_2), none, none]) rfl rfl rfl ?_
  refine go_iload (pc' := 9) rfl rfl rfl ?_
  refine go_iconst (pc' := 10) (v := (nI 4)) rfl rfl rfl ?_
  have jn68 : ∀ (y5_68 : Int32) (I_68 : ai_I) (z6_68 : Option ai_V), m_38_j68 th Rf G y5_68 I_68 = some (r, I1) → ai_Go si_t (3, false, 3, cd_38) (ai_Cl si_t si_ms e) (sp_Q (some (.inl r)) I1 J Rf G) 68 [some (.inr (.inr th)), some (.inr (.inr a0)), some (.inl a1), some (.inr (.inr a2)), some (.inl r_2), some (.inl y5_68), z6_68] [] (0, 0) I_68 J Rf G := by
    intro y5_68 I_68 z6_68 h
    unfold m_38_j68 at h
    refine go_iload (pc' := 70) rfl rfl rfl ?_
    refine go_if_eq (pt := 84) (pc' := 73) rfl rfl rfl (fun h70 => ?_) (fun h70 => ?_)
    · replace h := o_t h70 h
      refine go_iconst (pc' := 85) (v := (nI 0)) rfl rfl rfl ?_
      cases h
      exact go_iret rfl (rfl) ⟨rfl, rfl, rfl, rfl, rfl⟩
    · replace h := o_f h70 h
      refine go_aload_n (pc' := 74) rfl rfl rfl ?_
      obtain ⟨r_74, I_74, q_74, h⟩ := o_b2E h
      refine go_callV (pc' := 77) (B' := (0, 0)) (st' := [.inl r_74]) rfl rfl (Or.inl (by decide)) rfl rfl hth (md_42 (by omega) hth q_74) rfl rfl rfl ?_
      refine go_if_eq (pt := 84) (pc' := 80) rfl rfl rfl (fun h77 => ?_) (fun h77 => ?_)
      · replace h := o_t h77 h
        refine go_iconst (pc' := 85) (v := (nI 0)) rfl rfl rfl ?_
        cases h
        exact go_iret rfl (rfl) ⟨rfl, rfl, rfl, rfl, rfl⟩
      · replace h := o_f h77 h
        refine go_iconst (pc' := 81) (v := (nI 1)) rfl rfl rfl ?_
        refine go_goto (pc' := 85) rfl rfl ?_
        cases h
        exact go_iret rfl (rfl) ⟨rfl, rfl, rfl, rfl, rfl⟩
  refine go_icmp_gt (pt := 26) (pc' := 13) rfl rfl rfl (fun h10 => ?_) (fun h10 => ?_)
  · replace h := o_t h10 h
    refine go_aload_n (pc' := 27) rfl rfl rfl ?_
    refine go_aload_n (pc' := 28) rfl rfl rfl ?_
    refine go_iload_n (pc' := 29) rfl rfl rfl ?_
    refine go_iconst (pc' := 30) (v := (nI 1)) rfl rfl rfl ?_
    obtain ⟨r_30, q_30, h⟩ := o_b1E h
    refine go_callV (pc' := 33) (B' := (0, 0)) (st' := [.inl r_30, .inr (.inr a2)]) rfl rfl (Or.inl (by decide)) rfl rfl (o_kdE g0) (md_4 (by omega) (o_kdE g0) q_30) rfl rfl rfl ?_
    obtain ⟨g1, h⟩ := o_gE h
    obtain ⟨r_33, q_33, h⟩ := o_b1E h
    refine go_callV (pc' := 36) (B' := (0, 0)) (st' := [.inr (.inr r_33)]) rfl rfl (Or.inl (by decide)) rfl rfl (o_kdE g1) (md_96 (by omega) (o_kdE g1) q_33) rfl rfl rfl ?_
    refine go_astore (pc' := 38) (lo' := [some (.inr (.inr th)), some (.inr (.inr a0)), some (.inl a1), some (.inr (.inr a2)), some (.inl r_2), none, some (.inr (.inr r_33))]) rfl rfl rfl ?_
    refine go_aload (pc' := 40) rfl rfl rfl ?_
    have jn66 : ∀ (t0_66 : Int32) (I_66 : ai_I), m_38_j66 th Rf G t0_66 I_66 = some (r, I1) → ai_Go si_t (3, false, 3, cd_38) (ai_Cl si_t si_ms e) (sp_Q (some (.inl r)) I1 J Rf G) 66 [some (.inr (.inr th)), some (.inr (.inr a0)), some (.inl a1), some (.inr (.inr a2)), some (.inl r_2), none, some (.inr (.inr r_33))] [.inl t0_66] (0, 0) I_66 J Rf G := by
      intro t0_66 I_66 h
      unfold m_38_j66 at h
      refine go_istore (pc' := 68) (lo' := [some (.inr (.inr th)), some (.inr (.inr a0)), some (.inl a1), some (.inr (.inr a2)), some (.inl r_2), some (.inl t0_66), some (.inr (.inr r_33))]) rfl rfl rfl ?_
      exact jn68 t0_66 I_66 (some (.inr (.inr r_33))) h
    have jn65 : ∀ (I_65 : ai_I), m_38_j65 th Rf G I_65 = some (r, I1) → ai_Go si_t (3, false, 3, cd_38) (ai_Cl si_t si_ms e) (sp_Q (some (.inl r)) I1 J Rf G) 65 [some (.inr (.inr th)), some (.inr (.inr a0)), some (.inl a1), some (.inr (.inr a2)), some (.inl r_2), none, some (.inr (.inr r_33))] [] (0, 0) I_65 J Rf G := by
      intro I_65 h
      unfold m_38_j65 at h
      refine go_iconst (pc' := 66) (v := (nI 0)) rfl rfl rfl ?_
      exact jn66 (nI 0) I_65 h
    refine go_ifnull (pt := 65) (pc' := 43) rfl rfl rfl (fun h40 => ?_) (fun h40 => ?_)
    · replace h := o_t h40 h
      exact jn65 I h
    · replace h := o_f h40 h
      refine go_aload_n (pc' := 44) rfl rfl rfl ?_
      refine go_iload (pc' := 46) rfl rfl rfl ?_
      refine go_aload (pc' := 48) rfl rfl rfl ?_
      refine go_aload_n (pc' := 49) rfl rfl rfl ?_
      refine go_iload_n (pc' := 50) rfl rfl rfl ?_
      refine go_iconst (pc' := 51) (v := (nI 2)) rfl rfl rfl ?_
      obtain ⟨r_51, q_51, h⟩ := o_b1E h
      refine go_callV (pc' := 54) (B' := (0, 0)) (st' := [.inl r_51, .inr (.inr r_33), .inl r_2, .inr (.inr th)]) rfl rfl (Or.inl (by decide)) rfl rfl (o_kdE g0) (md_4 (by omega) (o_kdE g0) q_51) rfl rfl rfl ?_
      refine go_aload_n (pc' := 55) rfl rfl rfl ?_
      obtain ⟨r_55, I_55, q_55, h⟩ := o_b2E h
      refine go_callV (pc' := 58) (B' := (0, 0)) (st' := [.inl r_55]) rfl rfl (Or.inl (by decide)) rfl rfl hth (md_40 (by omega) hth q_55) rfl rfl rfl ?_
      refine go_if_eq (pt := 65) (pc' := 61) rfl rfl rfl (fun h58 => ?_) (fun h58 => ?_)
      · replace h := o_t h58 h
        exact jn65 I_55 h
      · replace h := o_f h58 h
        refine go_iconst (pc' := 62) (v := (nI 1)) rfl rfl rfl ?_
        refine go_goto (pc' := 66) rfl rfl ?_
        exact jn66 (nI 1) I_55 h
  · replace h := o_f h10 h
    refine go_aload_n (pc' := 14) rfl rfl rfl ?_
    refine go_iload (pc' := 16) rfl rfl rfl ?_
    refine go_aload_n (pc' := 17) rfl rfl rfl ?_
    refine go_iload_n (pc' := 18) rfl rfl rfl ?_
    obtain ⟨r_18, I_18, q_18, h⟩ := o_b2E h
    refine go_callV (pc' := 21) (B' := (0, 0)) (st' := [.inl r_18]) rfl rfl (Or.inl (by decide)) rfl rfl hth (md_39 (by omega) hth q_18) rfl rfl rfl ?_
    refine go_istore (pc' := 23) (lo' := [some (.inr (.inr th)), some (.inr (.inr a0)), some (.inl a1), some (.inr (.inr a2)), some (.inl r_2), some (.inl r_18), none]) rfl rfl rfl ?_
    refine go_goto (pc' := 68) rfl rfl ?_
    exact jn68 r_18 I_18 none h
/-- PricedBases$Rows.<init>()V -/
def m_58 (th : Nat) (I : ai_I) (J : ai_J) (Rf : ai_R) (G : ai_G) : Option (ai_I × ai_J × ai_R × ai_G) :=
  o_g (o_nn th) (o_g (o_lt9 G) (o_b1 (some (va_up I (G.2.2 + 1) (fun _ => 0))) (fun I_7 => o_b1 (some (va_up G.1 (G.2.2 + 1) 13, va_up G.2.1 (G.2.2 + 1) 8, G.2.2 + 1)) (fun G_7 => o_b1 (some (G.2.2 + 1)) (fun n_7 => o_g (o_kd G_7 th 4) (o_b1 (some (va_up Rf th (va_up (Rf th) 0 n_7))) (fun R_9 => o_g (o_lt9 G_7) (o_b1 (some (va_up I_7 (G_7.2.2 + 1) (fun _ => 0))) (fun I_15 => o_b1 (some (va_up G_7.1 (G_7.2.2 + 1) 13, va_up G_7.2.1 (G_7.2.2 + 1) 8, G_7.2.2 + 1)) (fun G_15 => o_b1 (some (G_7.2.2 + 1)) (fun n_15 => o_g (o_kd G_15 th 4) (o_b1 (some (va_up R_9 th (va_up (R_9 th) 1 n_15))) (fun R_17 => o_g (o_lt9 G_15) (o_b1 (some (va_up I_15 (G_15.2.2 + 1) (fun _ => 0))) (fun I_24 => o_b1 (some (va_up G_15.1 (G_15.2.2 + 1) 13, va_up G_15.2.1 (G_15.2.2 + 1) 256, G_15.2.2 + 1)) (fun G_24 => o_b1 (some (G_15.2.2 + 1)) (fun n_24 => o_g (o_kd G_24 th 4) (o_b1 (some (va_up R_17 th (va_up (R_17 th) 2 n_24))) (fun R_26 => o_g (o_lt9 G_24) (o_b1 (some (va_up J (G_24.2.2 + 1) (fun _ => 0))) (fun J_32 => o_b1 (some (va_up G_24.1 (G_24.2.2 + 1) 14, va_up G_24.2.1 (G_24.2.2 + 1) 8, G_24.2.2 + 1)) (fun G_32 => o_b1 (some (G_24.2.2 + 1)) (fun n_32 => o_g (o_kd G_32 th 4) (o_b1 (some (va_up R_26 th (va_up (R_26 th) 3 n_32))) (fun R_34 => o_g (o_lt9 G_32) (o_b1 (some (va_up J_32 (G_32.2.2 + 1) (fun _ => 0))) (fun J_40 => o_b1 (some (va_up G_32.1 (G_32.2.2 + 1) 14, va_up G_32.2.1 (G_32.2.2 + 1) 8, G_32.2.2 + 1)) (fun G_40 => o_b1 (some (G_32.2.2 + 1)) (fun n_40 => o_g (o_kd G_40 th 4) (o_b1 (some (va_up R_34 th (va_up (R_34 th) 4 n_40))) (fun R_42 => some (I_24, J_40, R_42, G_40))))))))))))))))))))))))))))))))
theorem md_58 {d : Nat} {I : ai_I} {J : ai_J} {Rf : ai_R} {G : ai_G} {th : Nat} {I1 : ai_I} {J1 : ai_J} {R1 : ai_R} {G1 : ai_G} (hd : 1 ≤ d) (hth : G.1 th = 4) (h : m_58 th I J Rf G = some (I1, J1, R1, G1)) : ai_Cl si_t si_ms d 58 [.inr (.inr th)] I J Rf G none I1 J1 R1 G1 := by
  obtain ⟨e, rfl⟩ : ∃ e, d = e + 1 := ⟨d - 1, by omega⟩
  unfold m_58 at h
  refine sp_in (lo := [some (.inr (.inr th))]) (B := (5, 288)) rfl (Nat.le_of_ble_eq_true rfl) rfl rfl ?_
  refine go_aload_n (pc' := 1) rfl rfl rfl ?_
  obtain ⟨g0, h⟩ := o_gE h
  refine go_obj (pc' := 4) rfl rfl (o_nnE g0) (Nat.le_of_ble_eq_true rfl) rfl ?_
  refine go_aload_n (pc' := 5) rfl rfl rfl ?_
  refine go_bipush (pc' := 7) (v := (nI 8)) rfl rfl rfl ?_
  obtain ⟨g1, h⟩ := o_gE h
  refine go_newI (pc' := 9) (N := 8) rfl (by decide) (by decide) (by decide) (by decide) (by decide) (o_lt9E g1) rfl ?_
  obtain ⟨I_7, eI_7, h⟩ := o_b1E h
  obtain ⟨G_7, eG_7, h⟩ := o_b1E h
  obtain ⟨n_7, en_7, h⟩ := o_b1E h
  refine go_ndMI eI_7 ?_
  refine go_ndMG eG_7 ?_
  refine go_ndR en_7 ?_
  refine go_ndB (B' := (4, 280)) rfl ?_
  obtain ⟨g2, h⟩ := o_gE h
  obtain ⟨R_9, eR_9, h⟩ := o_b1E h
  refine go_putR (pc' := 12) rfl rfl (fun _ => ⟨rfl, rfl⟩) (o_kdE g2) rfl ?_
  refine go_ndMR eR_9 ?_
  refine go_aload_n (pc' := 13) rfl rfl rfl ?_
  refine go_bipush (pc' := 15) (v := (nI 8)) rfl rfl rfl ?_
  obtain ⟨g3, h⟩ := o_gE h
  refine go_newI (pc' := 17) (N := 8) rfl (by decide) (by decide) (by decide) (by decide) (by decide) (o_lt9E g3) rfl ?_
  obtain ⟨I_15, eI_15, h⟩ := o_b1E h
  obtain ⟨G_15, eG_15, h⟩ := o_b1E h
  obtain ⟨n_15, en_15, h⟩ := o_b1E h
  refine go_ndMI eI_15 ?_
  refine go_ndMG eG_15 ?_
  refine go_ndR en_15 ?_
  refine go_ndB (B' := (3, 272)) rfl ?_
  obtain ⟨g4, h⟩ := o_gE h
  obtain ⟨R_17, eR_17, h⟩ := o_b1E h
  refine go_putR (pc' := 20) rfl rfl (fun _ => ⟨rfl, rfl⟩) (o_kdE g4) rfl ?_
  refine go_ndMR eR_17 ?_
  refine go_aload_n (pc' := 21) rfl rfl rfl ?_
  refine go_sipush (pc' := 24) (v := (nI 256)) rfl rfl rfl ?_
  obtain ⟨g5, h⟩ := o_gE h
  refine go_newI (pc' := 26) (N := 256) rfl (by decide) (by decide) (by decide) (by decide) (by decide) (o_lt9E g5) rfl ?_
  obtain ⟨I_24, eI_24, h⟩ := o_b1E h
  obtain ⟨G_24, eG_24, h⟩ := o_b1E h
  obtain ⟨n_24, en_24, h⟩ := o_b1E h
  refine go_ndMI eI_24 ?_
  refine go_ndMG eG_24 ?_
  refine go_ndR en_24 ?_
  refine go_ndB (B' := (2, 16)) rfl ?_
  obtain ⟨g6, h⟩ := o_gE h
  obtain ⟨R_26, eR_26, h⟩ := o_b1E h
  refine go_putR (pc' := 29) rfl rfl (fun _ => ⟨rfl, rfl⟩) (o_kdE g6) rfl ?_
  refine go_ndMR eR_26 ?_
  refine go_aload_n (pc' := 30) rfl rfl rfl ?_
  refine go_bipush (pc' := 32) (v := (nI 8)) rfl rfl rfl ?_
  obtain ⟨g7, h⟩ := o_gE h
  refine go_newJ (pc' := 34) (N := 8) rfl (by decide) (by decide) (by decide) (by decide) (by decide) (o_lt9E g7) rfl ?_
  obtain ⟨J_32, eJ_32, h⟩ := o_b1E h
  obtain ⟨G_32, eG_32, h⟩ := o_b1E h
  obtain ⟨n_32, en_32, h⟩ := o_b1E h
  refine go_ndMJ eJ_32 ?_
  refine go_ndMG eG_32 ?_
  refine go_ndR en_32 ?_
  refine go_ndB (B' := (1, 8)) rfl ?_
  obtain ⟨g8, h⟩ := o_gE h
  obtain ⟨R_34, eR_34, h⟩ := o_b1E h
  refine go_putR (pc' := 37) rfl rfl (fun _ => ⟨rfl, rfl⟩) (o_kdE g8) rfl ?_
  refine go_ndMR eR_34 ?_
  refine go_aload_n (pc' := 38) rfl rfl rfl ?_
  refine go_bipush (pc' := 40) (v := (nI 8)) rfl rfl rfl ?_
  obtain ⟨g9, h⟩ := o_gE h
  refine go_newJ (pc' := 42) (N := 8) rfl (by decide) (by decide) (by decide) (by decide) (by decide) (o_lt9E g9) rfl ?_
  obtain ⟨J_40, eJ_40, h⟩ := o_b1E h
  obtain ⟨G_40, eG_40, h⟩ := o_b1E h
  obtain ⟨n_40, en_40, h⟩ := o_b1E h
  refine go_ndMJ eJ_40 ?_
  refine go_ndMG eG_40 ?_
  refine go_ndR en_40 ?_
  refine go_ndB (B' := (0, 0)) rfl ?_
  obtain ⟨g10, h⟩ := o_gE h
  obtain ⟨R_42, eR_42, h⟩ := o_b1E h
  refine go_putR (pc' := 45) rfl rfl (fun _ => ⟨rfl, rfl⟩) (o_kdE g10) rfl ?_
  refine go_ndMR eR_42 ?_
  cases h
  exact go_vret rfl (rfl) ⟨rfl, rfl, rfl, rfl, rfl⟩
def m_60_x5_61 (w2_61 : Int64) : Option (Int64) :=
  some w2_61
def m_60_b5 (a0 : Nat) (a1 : Int32) (I : ai_I) (Rf : ai_R) (G : ai_G) (v2_5 : Int64) (v4_5 : Int32) : Option ((Int64 × Int32) ⊕ Int64) :=
  o_g (o_kd G a0 8) (if (I a0 2) ≤ v4_5 then (some (Sum.inr v2_5)) else (o_g (o_in G 13 (Rf a0 5) v4_5) (o_b1 (m_183 (I (Rf a0 5) v4_5.toNatClampNeg) a1) (fun r_22 => if r_22 = 0 then (o_b1 (some (v4_5 + (nI 1))) (fun x4_55 => some (Sum.inl (v2_5, x4_55)))) else (o_g (o_in G 13 (Rf a0 5) v4_5) (o_g (o_in G 13 (Rf a0 3) (I (Rf a0 5) v4_5.toNatClampNeg)) (o_b1 (some ((1000001 : Int64) + ((I (Rf a0 3) (I (Rf a0 5) v4_5.toNatClampNeg).toNatClampNeg).toInt64))) (fun x5_45 => o_b1 (some (v2_5 + (x5_45 * x5_45))) (fun x2_54 => o_b1 (some (v4_5 + (nI 1))) (fun x4_55 => some (Sum.inl (x2_54, x4_55))))))))))))
/-- PricedBases$Rows.mark(LPricedBases$Valuation;I)J -/
def m_60 (a0 : Nat) (a1 : Int32) (I : ai_I) (Rf : ai_R) (G : ai_G) : Option (Int64) :=
  o_s1 (lp (fun s => m_60_b5 a0 a1 I Rf G s.1 s.2) o_N ((0 : Int64), (nI 0))) (fun t => m_60_x5_61 t)
theorem md_60 {d : Nat} {I : ai_I} {J : ai_J} {Rf : ai_R} {G : ai_G} {a0 : Nat} {a1 : Int32} {r : Int64} (hd : 2 ≤ d) (h : m_60 a0 a1 I Rf G = some r) : ai_Cl si_t si_ms d 60 [.inr (.inr a0), .inl a1] I J Rf G (some (.inr (.inl r))) I J Rf G := by
  obtain ⟨e, rfl⟩ : ∃ e, d = e + 1 := ⟨d - 1, by omega⟩
  unfold m_60 at h
  refine sp_in (lo := [some (.inr (.inr a0)), some (.inl a1), none, none, none, none, none]) (B := (0, 0)) rfl (Nat.le_of_ble_eq_true rfl) rfl rfl ?_
  refine go_lconst (pc' := 1) (v := (0 : Int64)) rfl rfl rfl ?_
  refine go_lstore_n (pc' := 2) (lo' := [some (.inr (.inr a0)), some (.inl a1), some (.inr (.inl (0 : Int64))), none, none, none, none]) rfl rfl rfl ?_
  refine go_iconst (pc' := 3) (v := (nI 0)) rfl rfl rfl ?_
  refine go_istore (pc' := 5) (lo' := [some (.inr (.inr a0)), some (.inl a1), some (.inr (.inl (0 : Int64))), none, some (.inl (nI 0)), none, none]) rfl rfl rfl ?_
  obtain ⟨q5, hl5, hc5_61⟩ := o_s1E h
  have ex5_61 : ∀ (w2_61 : Int64) (z4_x61 : Option ai_V) (z5_x61 : Option ai_V) (z6_x61 : Option ai_V), w2_61 = q5 → ai_Go si_t (4, false, 1, cd_60) (ai_Cl si_t si_ms e) (sp_Q (some (.inr (.inl r))) I J Rf G) 61 [some (.inr (.inr a0)), some (.inl a1), some (.inr (.inl w2_61)), none, z4_x61, z5_x61, z6_x61] [] (0, 0) I J Rf G := by
    intro w2_61 z4_x61 z5_x61 z6_x61 hq
    have h : m_60_x5_61 w2_61 = some r := hc5_61 w2_61 hq.symm
    unfold m_60_x5_61 at h
    refine go_lload_n (pc' := 62) rfl rfl rfl ?_
    cases h
    exact go_lret rfl (rfl) ⟨rfl, rfl, rfl, rfl, rfl⟩
  have lo5 : ∀ n s, lp (fun s => m_60_b5 a0 a1 I Rf G s.1 s.2) n s = some q5 → (fun s => ∀ (z5_5 : Option ai_V) (z6_5 : Option ai_V), ai_Go si_t (4, false, 1, cd_60) (ai_Cl si_t si_ms e) (sp_Q (some (.inr (.inl r))) I J Rf G) 5 [some (.inr (.inr a0)), some (.inl a1), some (.inr (.inl s.1)), none, some (.inl s.2), z5_5, z6_5] [] (0, 0) I J Rf G) s := lp_go (fun s x5 hx hk5 => by
    obtain ⟨v2_5, v4_5⟩ := s
    intro z5_5 z6_5
    have h : m_60_b5 a0 a1 I Rf G v2_5 v4_5 = some x5 := hx
    clear hx
    show ai_Go si_t (4, false, 1, cd_60) (ai_Cl si_t si_ms e) (sp_Q (some (.inr (.inl r))) I J Rf G) 5 [some (.inr (.inr a0)), some (.inl a1), some (.inr (.inl v2_5)), none, some (.inl v4_5), z5_5, z6_5] [] (0, 0) I J Rf G
    unfold m_60_b5 at h
    refine go_iload (pc' := 7) rfl rfl rfl ?_
    refine go_aload_n (pc' := 8) rfl rfl rfl ?_
    obtain ⟨g0, h⟩ := o_gE h
    refine go_getI (pc' := 11) rfl rfl (by decide) (by decide) (o_kdE g0) rfl ?_
    refine go_icmp_ge (pt := 61) (pc' := 14) rfl rfl rfl (fun h11 => ?_) (fun h11 => ?_)
    · replace h := o_t h11 h
      exact ex5_61 _ (some (.inl v4_5)) z5_5 z6_5 (lp_exitE h hk5)
    · replace h := o_f h11 h
      refine go_aload_n (pc' := 15) rfl rfl rfl ?_
      refine go_getR (pc' := 18) rfl rfl (o_kdE g0) rfl ?_
      refine go_iload (pc' := 20) rfl rfl rfl ?_
      obtain ⟨g1, h⟩ := o_gE h
      refine go_iaload (pc' := 21) rfl (o_inK g1) (o_inB g1) rfl ?_
      refine go_iload_n (pc' := 22) rfl rfl rfl ?_
      obtain ⟨r_22, q_22, h⟩ := o_b1E h
      refine go_callS (pc' := 25) (B' := (0, 0)) (st' := [.inl r_22]) rfl rfl (Or.inl (by decide)) rfl rfl trivial (md_183 (by omega) q_22) rfl rfl rfl ?_
      refine go_if_eq (pt := 55) (pc' := 28) rfl rfl rfl (fun h25 => ?_) (fun h25 => ?_)
      · replace h := o_t h25 h
        obtain ⟨x4_55, ex4_55, h⟩ := o_b1E h
        refine go_iincE (pc' := 58) rfl rfl (y := (nI 1)) rfl ex4_55 (lo' := [some (.inr (.inr a0)), some (.inl a1), some (.inr (.inl v2_5)), none, some (.inl x4_55), z5_5, z6_5]) rfl rfl ?_
        refine go_goto (pc' := 5) rfl rfl ?_
        exact (lp_backE h hk5 z5_5 z6_5 :)
      · replace h := o_f h25 h
        refine go_ldc2_w (pc' := 31) (v := .inr (.inl (1000001 : Int64))) rfl rfl rfl ?_
        refine go_aload_n (pc' := 32) rfl rfl rfl ?_
        refine go_getR (pc' := 35) rfl rfl (o_kdE g0) rfl ?_
        refine go_aload_n (pc' := 36) rfl rfl rfl ?_
        refine go_getR (pc' := 39) rfl rfl (o_kdE g0) rfl ?_
        refine go_iload (pc' := 41) rfl rfl rfl ?_
        obtain ⟨g2, h⟩ := o_gE h
        refine go_iaload (pc' := 42) rfl (o_inK g2) (o_inB g2) rfl ?_
        obtain ⟨g3, h⟩ := o_gE h
        refine go_iaload (pc' := 43) rfl (o_inK g3) (o_inB g3) rfl ?_
        refine go_i2l (pc' := 44) rfl rfl ?_
        refine go_ladd (pc' := 45) rfl rfl ?_
        obtain ⟨x5_45, ex5_45, h⟩ := o_b1E h
        refine go_ndJ ex5_45 ?_
        refine go_lstore (pc' := 47) (lo' := [some (.inr (.inr a0)), some (.inl a1), some (.inr (.inl v2_5)), none, some (.inl v4_5), some (.inr (.inl x5_45)), none]) rfl rfl rfl ?_
        refine go_lload_n (pc' := 48) rfl rfl rfl ?_
        refine go_lload (pc' := 50) rfl rfl rfl ?_
        refine go_lload (pc' := 52) rfl rfl rfl ?_
        refine go_lmul (pc' := 53) rfl rfl ?_
        refine go_ladd (pc' := 54) rfl rfl ?_
        obtain ⟨x2_54, ex2_54, h⟩ := o_b1E h
        refine go_ndJ ex2_54 ?_
        refine go_lstore_n (pc' := 55) (lo' := [some (.inr (.inr a0)), some (.inl a1), some (.inr (.inl x2_54)), none, some (.inl v4_5), some (.inr (.inl x5_45)), none]) rfl rfl rfl ?_
        obtain ⟨x4_55, ex4_55, h⟩ := o_b1E h
        refine go_iincE (pc' := 58) rfl rfl (y := (nI 1)) rfl ex4_55 (lo' := [some (.inr (.inr a0)), some (.inl a1), some (.inr (.inl x2_54)), none, some (.inl x4_55), some (.inr (.inl x5_45)), none]) rfl rfl ?_
        refine go_goto (pc' := 5) rfl rfl ?_
        exact (lp_backE h hk5 (some (.inr (.inl x5_45))) none :))
  exact lo5 _ ((0 : Int64), (nI 0)) hl5 none none
def m_64_x2_17 : Option (Int32) :=
  some (nI 1)
def m_64_x2_25 : Option (Int32) :=
  some (nI 0)
def m_64_b2 (th : Nat) (a0 : Int32) (a1 : Int32) (I : ai_I) (Rf : ai_R) (G : ai_G) (v3_2 : Int32) : Option (Int32 ⊕ (Unit ⊕ Unit)) :=
  if a0 ≤ v3_2 then (some (Sum.inr (Sum.inr ()))) else (o_g (o_in G 13 (Rf th 1) v3_2) (if (I (Rf th 1) v3_2.toNatClampNeg) = a1 then (some (Sum.inr (Sum.inl ()))) else (o_b1 (some (v3_2 + (nI 1))) (fun x3_19 => some (Sum.inl x3_19)))))
/-- PricedBases$Rows.isUsed(II)Z -/
def m_64 (th : Nat) (a0 : Int32) (a1 : Int32) (I : ai_I) (Rf : ai_R) (G : ai_G) : Option (Int32) :=
  o_s2 (lp (fun s => m_64_b2 th a0 a1 I Rf G s) o_N (nI 0)) (fun t => m_64_x2_17) (fun t => m_64_x2_25)
theorem md_64 {d : Nat} {I : ai_I} {J : ai_J} {Rf : ai_R} {G : ai_G} {th : Nat} {a0 : Int32} {a1 : Int32} {r : Int32} (hd : 1 ≤ d) (hth : G.1 th = 4) (h : m_64 th a0 a1 I Rf G = some r) : ai_Cl si_t si_ms d 64 [.inr (.inr th), .inl a0, .inl a1] I J Rf G (some (.inl r)) I J Rf G := by
  obtain ⟨e, rfl⟩ : ∃ e, d = e + 1 := ⟨d - 1, by omega⟩
  unfold m_64 at h
  refine sp_in (lo := [some (.inr (.inr th)), some (.inl a0), some (.inl a1), none]) (B := (0, 0)) rfl (Nat.le_of_ble_eq_true rfl) rfl rfl ?_
  refine go_iconst (pc' := 1) (v := (nI 0)) rfl rfl rfl ?_
  refine go_istore_n (pc' := 2) (lo' := [some (.inr (.inr th)), some (.inl a0), some (.inl a1), some (.inl (nI 0))]) rfl rfl rfl ?_
  obtain ⟨q2, hl2, hc2_17, hc2_25⟩ := o_s2E h
  have ex2_17 : ∀ (z3_x17 : Option ai_V), (Sum.inl ()) = q2 → ai_Go si_t (4, false, 3, cd_64) (ai_Cl si_t si_ms e) (sp_Q (some (.inl r)) I J Rf G) 17 [some (.inr (.inr th)), some (.inl a0), some (.inl a1), z3_x17] [] (0, 0) I J Rf G := by
    intro z3_x17 hq
    have h : m_64_x2_17 = some r := hc2_17 () hq.symm
    unfold m_64_x2_17 at h
    refine go_iconst (pc' := 18) (v := (nI 1)) rfl rfl rfl ?_
    cases h
    exact go_iret rfl (rfl) ⟨rfl, rfl, rfl, rfl, rfl⟩
  have ex2_25 : ∀ (z3_x25 : Option ai_V), (Sum.inr ()) = q2 → ai_Go si_t (4, false, 3, cd_64) (ai_Cl si_t si_ms e) (sp_Q (some (.inl r)) I J Rf G) 25 [some (.inr (.inr th)), some (.inl a0), some (.inl a1), z3_x25] [] (0, 0) I J Rf G := by
    intro z3_x25 hq
    have h : m_64_x2_25 = some r := hc2_25 () hq.symm
    unfold m_64_x2_25 at h
    refine go_iconst (pc' := 26) (v := (nI 0)) rfl rfl rfl ?_
    cases h
    exact go_iret rfl (rfl) ⟨rfl, rfl, rfl, rfl, rfl⟩
  have lo2 : ∀ n s, lp (fun s => m_64_b2 th a0 a1 I Rf G s) n s = some q2 → (fun s => ai_Go si_t (4, false, 3, cd_64) (ai_Cl si_t si_ms e) (sp_Q (some (.inl r)) I J Rf G) 2 [some (.inr (.inr th)), some (.inl a0), some (.inl a1), some (.inl s)] [] (0, 0) I J Rf G) s := lp_go (fun s x2 hx hk2 => by
    revert s; intro v3_2 hx
    have h : m_64_b2 th a0 a1 I Rf G v3_2 = some x2 := hx
    clear hx
    show ai_Go si_t (4, false, 3, cd_64) (ai_Cl si_t si_ms e) (sp_Q (some (.inl r)) I J Rf G) 2 [some (.inr (.inr th)), some (.inl a0), some (.inl a1), some (.inl v3_2)] [] (0, 0) I J Rf G
    unfold m_64_b2 at h
    refine go_iload_n (pc' := 3) rfl rfl rfl ?_
    refine go_iload_n (pc' := 4) rfl rfl rfl ?_
    refine go_icmp_ge (pt := 25) (pc' := 7) rfl rfl rfl (fun h4 => ?_) (fun h4 => ?_)
    · replace h := o_t h4 h
      exact ex2_25  (some (.inl v3_2)) (lp_exitE h hk2)
    · replace h := o_f h4 h
      refine go_aload_n (pc' := 8) rfl rfl rfl ?_
      refine go_getR (pc' := 11) rfl rfl hth rfl ?_
      refine go_iload_n (pc' := 12) rfl rfl rfl ?_
      obtain ⟨g0, h⟩ := o_gE h
      refine go_iaload (pc' := 13) rfl (o_inK g0) (o_inB g0) rfl ?_
      refine go_iload_n (pc' := 14) rfl rfl rfl ?_
      refine go_icmp_ne (pt := 19) (pc' := 17) rfl rfl rfl (fun h14 => ?_) (fun h14 => ?_)
      · replace h := o_f h14 h
        obtain ⟨x3_19, ex3_19, h⟩ := o_b1E h
        refine go_iincE (pc' := 22) rfl rfl (y := (nI 1)) rfl ex3_19 (lo' := [some (.inr (.inr th)), some (.inl a0), some (.inl a1), some (.inl x3_19)]) rfl rfl ?_
        refine go_goto (pc' := 2) rfl rfl ?_
        exact (lp_backE h hk2 :)
      · replace h := o_t (Decidable.of_not_not h14) h
        exact ex2_17  (some (.inl v3_2)) (lp_exitE h hk2))
  exact lo2 _ (nI 0) hl2 
def m_63_x3_19 (w4_19 : Int32) : Option (Int32) :=
  some w4_19
def m_63_x3_28 (a2 : Int32) : Option (Int32) :=
  some a2
def m_63_b3 (th : Nat) (a0 : Int32) (a2 : Int32) (I : ai_I) (Rf : ai_R) (G : ai_G) (v4_3 : Int32) : Option (Int32 ⊕ (Int32 ⊕ Unit)) :=
  if a2 ≤ v4_3 then (some (Sum.inr (Sum.inr ()))) else (o_b1 (m_64 th a0 v4_3 I Rf G) (fun r_13 => if r_13 = 0 then (some (Sum.inr (Sum.inl v4_3))) else (o_b1 (some (v4_3 + (nI 1))) (fun x4_22 => some (Sum.inl x4_22)))))
/-- PricedBases$Rows.nextUnused(III)I -/
def m_63 (th : Nat) (a0 : Int32) (a1 : Int32) (a2 : Int32) (I : ai_I) (Rf : ai_R) (G : ai_G) : Option (Int32) :=
  o_s2 (lp (fun s => m_63_b3 th a0 a2 I Rf G s) o_N a1) (fun t => m_63_x3_19 t) (fun t => m_63_x3_28 a2)
theorem md_63 {d : Nat} {I : ai_I} {J : ai_J} {Rf : ai_R} {G : ai_G} {th : Nat} {a0 : Int32} {a1 : Int32} {a2 : Int32} {r : Int32} (hd : 2 ≤ d) (hth : G.1 th = 4) (h : m_63 th a0 a1 a2 I Rf G = some r) : ai_Cl si_t si_ms d 63 [.inr (.inr th), .inl a0, .inl a1, .inl a2] I J Rf G (some (.inl r)) I J Rf G := by
  obtain ⟨e, rfl⟩ : ∃ e, d = e + 1 := ⟨d - 1, by omega⟩
  unfold m_63 at h
  refine sp_in (lo := [some (.inr (.inr th)), some (.inl a0), some (.inl a1), some (.inl a2), none]) (B := (0, 0)) rfl (Nat.le_of_ble_eq_true rfl) rfl rfl ?_
  refine go_iload_n (pc' := 1) rfl rfl rfl ?_
  refine go_istore (pc' := 3) (lo' := [some (.inr (.inr th)), some (.inl a0), some (.inl a1), some (.inl a2), some (.inl a1)]) rfl rfl rfl ?_
  obtain ⟨q3, hl3, hc3_19, hc3_28⟩ := o_s2E h
  have ex3_19 : ∀ (w4_19 : Int32), (Sum.inl w4_19) = q3 → ai_Go si_t (4, false, 0, cd_63) (ai_Cl si_t si_ms e) (sp_Q (some (.inl r)) I J Rf G) 19 [some (.inr (.inr th)), some (.inl a0), some (.inl a1), some (.inl a2), some (.inl w4_19)] [] (0, 0) I J Rf G := by
    intro w4_19 hq
    have h : m_63_x3_19 w4_19 = some r := hc3_19 w4_19 hq.symm
    unfold m_63_x3_19 at h
    refine go_iload (pc' := 21) rfl rfl rfl ?_
    cases h
    exact go_iret rfl (trivial) ⟨rfl, rfl, rfl, rfl, rfl⟩
  have ex3_28 : ∀ (z4_x28 : Option ai_V), (Sum.inr ()) = q3 → ai_Go si_t (4, false, 0, cd_63) (ai_Cl si_t si_ms e) (sp_Q (some (.inl r)) I J Rf G) 28 [some (.inr (.inr th)), some (.inl a0), some (.inl a1), some (.inl a2), z4_x28] [] (0, 0) I J Rf G := by
    intro z4_x28 hq
    have h : m_63_x3_28 a2 = some r := hc3_28 () hq.symm
    unfold m_63_x3_28 at h
    refine go_iload_n (pc' := 29) rfl rfl rfl ?_
    cases h
    exact go_iret rfl (trivial) ⟨rfl, rfl, rfl, rfl, rfl⟩
  have lo3 : ∀ n s, lp (fun s => m_63_b3 th a0 a2 I Rf G s) n s = some q3 → (fun s => ai_Go si_t (4, false, 0, cd_63) (ai_Cl si_t si_ms e) (sp_Q (some (.inl r)) I J Rf G) 3 [some (.inr (.inr th)), some (.inl a0), some (.inl a1), some (.inl a2), some (.inl s)] [] (0, 0) I J Rf G) s := lp_go (fun s x3 hx hk3 => by
    revert s; intro v4_3 hx
    have h : m_63_b3 th a0 a2 I Rf G v4_3 = some x3 := hx
    clear hx
    show ai_Go si_t (4, false, 0, cd_63) (ai_Cl si_t si_ms e) (sp_Q (some (.inl r)) I J Rf G) 3 [some (.inr (.inr th)), some (.inl a0), some (.inl a1), some (.inl a2), some (.inl v4_3)] [] (0, 0) I J Rf G
    unfold m_63_b3 at h
    refine go_iload (pc' := 5) rfl rfl rfl ?_
    refine go_iload_n (pc' := 6) rfl rfl rfl ?_
    refine go_icmp_ge (pt := 28) (pc' := 9) rfl rfl rfl (fun h6 => ?_) (fun h6 => ?_)
    · replace h := o_t h6 h
      exact ex3_28  (some (.inl v4_3)) (lp_exitE h hk3)
    · replace h := o_f h6 h
      refine go_aload_n (pc' := 10) rfl rfl rfl ?_
      refine go_iload_n (pc' := 11) rfl rfl rfl ?_
      refine go_iload (pc' := 13) rfl rfl rfl ?_
      obtain ⟨r_13, q_13, h⟩ := o_b1E h
      refine go_callV (pc' := 16) (B' := (0, 0)) (st' := [.inl r_13]) rfl rfl (Or.inl (by decide)) rfl rfl hth (md_64 (by omega) hth q_13) rfl rfl rfl ?_
      refine go_if_ne (pt := 22) (pc' := 19) rfl rfl rfl (fun h16 => ?_) (fun h16 => ?_)
      · replace h := o_f h16 h
        obtain ⟨x4_22, ex4_22, h⟩ := o_b1E h
        refine go_iincE (pc' := 25) rfl rfl (y := (nI 1)) rfl ex4_22 (lo' := [some (.inr (.inr th)), some (.inl a0), some (.inl a1), some (.inl a2), some (.inl x4_22)]) rfl rfl ?_
        refine go_goto (pc' := 3) rfl rfl ?_
        exact (lp_backE h hk3 :)
      · replace h := o_t (Decidable.of_not_not h16) h
        exact ex3_19 _  (lp_exitE h hk3))
  exact lo3 _ a1 hl3 
def m_65_x33_94 (Ix_94 : ai_I) : Option (Int32 × ai_I) :=
  some ((nI 0), Ix_94)
def m_65_x33_102 (Ix_102 : ai_I) : Option (Int32 × ai_I) :=
  some ((nI 1), Ix_102)
def m_65_b33 (th : Nat) (a0 : Nat) (a1 : Nat) (a2 : Int32) (Rf : ai_R) (G : ai_G) (v4_33 : Int32) (I_33 : ai_I) : Option ((Int32 × ai_I) ⊕ (ai_I ⊕ ai_I)) :=
  if ((nI 1) <<< (a2 &&& 31)) ≤ v4_33 then (some (Sum.inr (Sum.inr I_33))) else (o_b1 (some (v4_33 ||| ((nI 1) <<< (a2 &&& 31)))) (fun x5_47 => o_g (o_in G 13 (Rf th 2) v4_33) (o_g (o_in G 13 (Rf th 1) a2) (o_g (o_in G 13 (Rf th 2) x5_47) (o_b1 (some (va_up I_33 (Rf th 2) (va_up (I_33 (Rf th 2)) x5_47.toNatClampNeg ((I_33 (Rf th 2) v4_33.toNatClampNeg) ||| ((nI 1) <<< ((I_33 (Rf th 1) a2.toNatClampNeg) &&& 31)))))) (fun I_71 => o_g (o_kd G a0 8) (o_g (o_in G 13 (Rf a0 3) x5_47) (o_g (o_kd G a1 8) (o_g (o_in G 13 (Rf th 2) x5_47) (o_g (o_in G 13 (Rf a1 3) (I_71 (Rf th 2) x5_47.toNatClampNeg)) (if (I_71 (Rf a0 3) x5_47.toNatClampNeg) = (I_71 (Rf a1 3) (I_71 (Rf th 2) x5_47.toNatClampNeg).toNatClampNeg) then (o_b1 (some (v4_33 + (nI 1))) (fun x4_96 => some (Sum.inl (x4_96, I_71)))) else (some (Sum.inr (Sum.inl I_71))))))))))))))
/-- PricedBases$Rows.suits(LPricedBases$Valuation;LPricedBases$Valuation;I)Z -/
def m_65 (th : Nat) (a0 : Nat) (a1 : Nat) (a2 : Int32) (I : ai_I) (J : ai_J) (Rf : ai_R) (G : ai_G) : Option (Int32 × ai_I) :=
  o_g (o_in G 14 (Rf th 3) a2) (o_g (o_in G 13 (Rf th 1) a2) (o_g (o_in G 14 (Rf th 4) (I (Rf th 1) a2.toNatClampNeg)) (if (ai_cmp (J (Rf th 3) a2.toNatClampNeg) (J (Rf th 4) (I (Rf th 1) a2.toNatClampNeg).toNatClampNeg)) = 0 then (o_g (o_in G 13 (Rf th 2) (nI 0)) (o_b1 (some (va_up I (Rf th 2) (va_up (I (Rf th 2)) (nI 0).toNatClampNeg (nI 0)))) (fun I_29 => o_s2 (lp (fun s => m_65_b33 th a0 a1 a2 Rf G s.1 s.2) o_N ((nI 0), I_29)) (fun t => m_65_x33_94 t) (fun t => m_65_x33_102 t)))) else (some ((nI 0), I)))))
theorem md_65 {d : Nat} {I : ai_I} {J : ai_J} {Rf : ai_R} {G : ai_G} {th : Nat} {a0 : Nat} {a1 : Nat} {a2 : Int32} {r : Int32} {I1 : ai_I} (hd : 1 ≤ d) (hth : G.1 th = 4) (h : m_65 th a0 a1 a2 I J Rf G = some (r, I1)) : ai_Cl si_t si_ms d 65 [.inr (.inr th), .inr (.inr a0), .inr (.inr a1), .inl a2] I J Rf G (some (.inl r)) I1 J Rf G := by
  obtain ⟨e, rfl⟩ : ∃ e, d = e + 1 := ⟨d - 1, by omega⟩
  unfold m_65 at h
  refine sp_in (lo := [some (.inr (.inr th)), some (.inr (.inr a0)), some (.inr (.inr a1)), some (.inl a2), none, none]) (B := (0, 0)) rfl (Nat.le_of_ble_eq_true rfl) rfl rfl ?_
  refine go_aload_n (pc' := 1) rfl rfl rfl ?_
  refine go_getR (pc' := 4) rfl rfl hth rfl ?_
  refine go_iload_n (pc' := 5) rfl rfl rfl ?_
  obtain ⟨g0, h⟩ := o_gE h
  refine go_laload (pc' := 6) rfl (o_inK g0) (o_inB g0) rfl ?_
  refine go_aload_n (pc' := 7) rfl rfl rfl ?_
  refine go_getR (pc' := 10) rfl rfl hth rfl ?_
  refine go_aload_n (pc' := 11) rfl rfl rfl ?_
  refine go_getR (pc' := 14) rfl rfl hth rfl ?_
  refine go_iload_n (pc' := 15) rfl rfl rfl ?_
  obtain ⟨g1, h⟩ := o_gE h
  refine go_iaload (pc' := 16) rfl (o_inK g1) (o_inB g1) rfl ?_
  obtain ⟨g2, h⟩ := o_gE h
  refine go_laload (pc' := 17) rfl (o_inK g2) (o_inB g2) rfl ?_
  refine go_lcmp (pc' := 18) rfl rfl ?_
  refine go_if_eq (pt := 23) (pc' := 21) rfl rfl rfl (fun h18 => ?_) (fun h18 => ?_)
  · replace h := o_t h18 h
    refine go_aload_n (pc' := 24) rfl rfl rfl ?_
    refine go_getR (pc' := 27) rfl rfl hth rfl ?_
    refine go_iconst (pc' := 28) (v := (nI 0)) rfl rfl rfl ?_
    refine go_iconst (pc' := 29) (v := (nI 0)) rfl rfl rfl ?_
    obtain ⟨g3, h⟩ := o_gE h
    obtain ⟨I_29, eI_29, h⟩ := o_b1E h
    refine go_iastore (pc' := 30) rfl (o_inK g3) (o_inB g3) rfl ?_
    refine go_ndMI eI_29 ?_
    refine go_iconst (pc' := 31) (v := (nI 0)) rfl rfl rfl ?_
    refine go_istore (pc' := 33) (lo' := [some (.inr (.inr th)), some (.inr (.inr a0)), some (.inr (.inr a1)), some (.inl a2), some (.inl (nI 0)), none]) rfl rfl rfl ?_
    obtain ⟨q33, hl33, hc33_94, hc33_102⟩ := o_s2E h
    have ex33_94 : ∀ (Ix_94 : ai_I) (z4_x94 : Option ai_V) (z5_x94 : Option ai_V), (Sum.inl Ix_94) = q33 → ai_Go si_t (4, false, 3, cd_65) (ai_Cl si_t si_ms e) (sp_Q (some (.inl r)) I1 J Rf G) 94 [some (.inr (.inr th)), some (.inr (.inr a0)), some (.inr (.inr a1)), some (.inl a2), z4_x94, z5_x94] [] (0, 0) Ix_94 J Rf G := by
      intro Ix_94 z4_x94 z5_x94 hq
      have h : m_65_x33_94 Ix_94 = some (r, I1) := hc33_94 Ix_94 hq.symm
      unfold m_65_x33_94 at h
      refine go_iconst (pc' := 95) (v := (nI 0)) rfl rfl rfl ?_
      cases h
      exact go_iret rfl (rfl) ⟨rfl, rfl, rfl, rfl, rfl⟩
    have ex33_102 : ∀ (Ix_102 : ai_I) (z4_x102 : Option ai_V) (z5_x102 : Option ai_V), (Sum.inr Ix_102) = q33 → ai_Go si_t (4, false, 3, cd_65) (ai_Cl si_t si_ms e) (sp_Q (some (.inl r)) I1 J Rf G) 102 [some (.inr (.inr th)), some (.inr (.inr a0)), some (.inr (.inr a1)), some (.inl a2), z4_x102, z5_x102] [] (0, 0) Ix_102 J Rf G := by
      intro Ix_102 z4_x102 z5_x102 hq
      have h : m_65_x33_102 Ix_102 = some (r, I1) := hc33_102 Ix_102 hq.symm
      unfold m_65_x33_102 at h
      refine go_iconst (pc' := 103) (v := (nI 1)) rfl rfl rfl ?_
      cases h
      exact go_iret rfl (rfl) ⟨rfl, rfl, rfl, rfl, rfl⟩
    have lo33 : ∀ n s, lp (fun s => m_65_b33 th a0 a1 a2 Rf G s.1 s.2) n s = some q33 → (fun s => ∀ (z5_33 : Option ai_V), ai_Go si_t (4, false, 3, cd_65) (ai_Cl si_t si_ms e) (sp_Q (some (.inl r)) I1 J Rf G) 33 [some (.inr (.inr th)), some (.inr (.inr a0)), some (.inr (.inr a1)), some (.inl a2), some (.inl s.1), z5_33] [] (0, 0) s.2 J Rf G) s := lp_go (fun s x33 hx hk33 => by
      obtain ⟨v4_33, I_33⟩ := s
      intro z5_33
      have h : m_65_b33 th a0 a1 a2 Rf G v4_33 I_33 = some x33 := hx
      clear hx
      show ai_Go si_t (4, false, 3, cd_65) (ai_Cl si_t si_ms e) (sp_Q (some (.inl r)) I1 J Rf G) 33 [some (.inr (.inr th)), some (.inr (.inr a0)), some (.inr (.inr a1)), some (.inl a2), some (.inl v4_33), z5_33] [] (0, 0) I_33 J Rf G
      unfold m_65_b33 at h
      refine go_iload (pc' := 35) rfl rfl rfl ?_
      refine go_iconst (pc' := 36) (v := (nI 1)) rfl rfl rfl ?_
      refine go_iload_n (pc' := 37) rfl rfl rfl ?_
      refine go_ishl (pc' := 38) rfl rfl ?_
      refine go_icmp_ge (pt := 102) (pc' := 41) rfl rfl rfl (fun h38 => ?_) (fun h38 => ?_)
      · replace h := o_t h38 h
        exact ex33_102 _ (some (.inl v4_33)) z5_33 (lp_exitE h hk33)
      · replace h := o_f h38 h
        refine go_iload (pc' := 43) rfl rfl rfl ?_
        refine go_iconst (pc' := 44) (v := (nI 1)) rfl rfl rfl ?_
        refine go_iload_n (pc' := 45) rfl rfl rfl ?_
        refine go_ishl (pc' := 46) rfl rfl ?_
        refine go_ior (pc' := 47) rfl rfl ?_
        obtain ⟨x5_47, ex5_47, h⟩ := o_b1E h
        refine go_ndI ex5_47 ?_
        refine go_istore (pc' := 49) (lo' := [some (.inr (.inr th)), some (.inr (.inr a0)), some (.inr (.inr a1)), some (.inl a2), some (.inl v4_33), some (.inl x5_47)]) rfl rfl rfl ?_
        refine go_aload_n (pc' := 50) rfl rfl rfl ?_
        refine go_getR (pc' := 53) rfl rfl hth rfl ?_
        refine go_iload (pc' := 55) rfl rfl rfl ?_
        refine go_aload_n (pc' := 56) rfl rfl rfl ?_
        refine go_getR (pc' := 59) rfl rfl hth rfl ?_
        refine go_iload (pc' := 61) rfl rfl rfl ?_
        obtain ⟨g4, h⟩ := o_gE h
        refine go_iaload (pc' := 62) rfl (o_inK g4) (o_inB g4) rfl ?_
        refine go_iconst (pc' := 63) (v := (nI 1)) rfl rfl rfl ?_
        refine go_aload_n (pc' := 64) rfl rfl rfl ?_
        refine go_getR (pc' := 67) rfl rfl hth rfl ?_
        refine go_iload_n (pc' := 68) rfl rfl rfl ?_
        obtain ⟨g5, h⟩ := o_gE h
        refine go_iaload (pc' := 69) rfl (o_inK g5) (o_inB g5) rfl ?_
        refine go_ishl (pc' := 70) rfl rfl ?_
        refine go_ior (pc' := 71) rfl rfl ?_
        obtain ⟨g6, h⟩ := o_gE h
        obtain ⟨I_71, eI_71, h⟩ := o_b1E h
        refine go_iastore (pc' := 72) rfl (o_inK g6) (o_inB g6) rfl ?_
        refine go_ndMI eI_71 ?_
        refine go_aload_n (pc' := 73) rfl rfl rfl ?_
        obtain ⟨g7, h⟩ := o_gE h
        refine go_getR (pc' := 76) rfl rfl (o_kdE g7) rfl ?_
        refine go_iload (pc' := 78) rfl rfl rfl ?_
        obtain ⟨g8, h⟩ := o_gE h
        refine go_iaload (pc' := 79) rfl (o_inK g8) (o_inB g8) rfl ?_
        refine go_aload_n (pc' := 80) rfl rfl rfl ?_
        obtain ⟨g9, h⟩ := o_gE h
        refine go_getR (pc' := 83) rfl rfl (o_kdE g9) rfl ?_
        refine go_aload_n (pc' := 84) rfl rfl rfl ?_
        refine go_getR (pc' := 87) rfl rfl hth rfl ?_
        refine go_iload (pc' := 89) rfl rfl rfl ?_
        obtain ⟨g10, h⟩ := o_gE h
        refine go_iaload (pc' := 90) rfl (o_inK g10) (o_inB g10) rfl ?_
        obtain ⟨g11, h⟩ := o_gE h
        refine go_iaload (pc' := 91) rfl (o_inK g11) (o_inB g11) rfl ?_
        refine go_icmp_eq (pt := 96) (pc' := 94) rfl rfl rfl (fun h91 => ?_) (fun h91 => ?_)
        · replace h := o_t h91 h
          obtain ⟨x4_96, ex4_96, h⟩ := o_b1E h
          refine go_iincE (pc' := 99) rfl rfl (y := (nI 1)) rfl ex4_96 (lo' := [some (.inr (.inr th)), some (.inr (.inr a0)), some (.inr (.inr a1)), some (.inl a2), some (.inl x4_96), some (.inl x5_47)]) rfl rfl ?_
          refine go_goto (pc' := 33) rfl rfl ?_
          exact (lp_backE h hk33 (some (.inl x5_47)) :)
        · replace h := o_f h91 h
          exact ex33_94 _ (some (.inl v4_33)) (some (.inl x5_47)) (lp_exitE h hk33))
    exact lo33 _ ((nI 0), I_29) hl33 none
  · replace h := o_f h18 h
    refine go_iconst (pc' := 22) (v := (nI 0)) rfl rfl rfl ?_
    cases h
    exact go_iret rfl (rfl) ⟨rfl, rfl, rfl, rfl, rfl⟩
def m_62_x9_128 (a0 : Nat) (G : ai_G) (w4_128 : Int32) (Ix_128 : ai_I) : Option (Int32 × ai_I) :=
  o_g (o_kd G a0 8) (if w4_128 < (Ix_128 a0 0) then (some ((nI 0), Ix_128)) else (some ((nI 1), Ix_128)))
def m_62_b9 (th : Nat) (a0 : Nat) (a1 : Nat) (a2 : Int32) (J : ai_J) (Rf : ai_R) (G : ai_G) (v4_9 : Int32) (v5_9 : Int32) (v6_9 : Int32) (I_9 : ai_I) : Option ((Int32 × Int32 × Int32 × ai_I) ⊕ (Int32 × ai_I)) :=
  if (nI 1000000) ≤ v6_9 then (some (Sum.inr (v4_9, I_9))) else (if v4_9 < a2 then (some (Sum.inr (v4_9, I_9))) else (o_g (o_kd G a0 8) (if (I_9 a0 0) ≤ v4_9 then (some (Sum.inr (v4_9, I_9))) else (o_b1 (m_63 th v4_9 v5_9 (I_9 a0 0) I_9 Rf G) (fun r_46 => o_g (o_in G 13 (Rf th 1) v4_9) (o_b1 (some (va_up I_9 (Rf th 1) (va_up (I_9 (Rf th 1)) v4_9.toNatClampNeg r_46))) (fun I_49 => o_g (o_in G 13 (Rf th 1) v4_9) (if (I_49 (Rf th 1) v4_9.toNatClampNeg) = (I_49 a0 0) then (o_b1 (some (v4_9 + (-1 : Int32))) (fun x4_64 => if x4_64 < a2 then (o_b1 (some (v6_9 + (nI 1))) (fun x6_122 => some (Sum.inl (x4_64, (nI 0), x6_122, I_49)))) else (o_g (o_in G 13 (Rf th 1) x4_64) (o_b1 (some ((I_49 (Rf th 1) x4_64.toNatClampNeg) + (nI 1))) (fun x5_86 => o_b1 (some (v6_9 + (nI 1))) (fun x6_122 => some (Sum.inl (x4_64, x5_86, x6_122, I_49)))))))) else (o_b2 (m_65 th a0 a1 v4_9 I_49 J Rf G) (fun r_96 I_96 => if r_96 = 0 then (o_g (o_in G 13 (Rf th 1) v4_9) (o_b1 (some ((I_96 (Rf th 1) v4_9.toNatClampNeg) + (nI 1))) (fun x5_120 => o_b1 (some (v6_9 + (nI 1))) (fun x6_122 => some (Sum.inl (v4_9, x5_120, x6_122, I_96)))))) else (o_b1 (some (v4_9 + (nI 1))) (fun x4_102 => o_b1 (some (v6_9 + (nI 1))) (fun x6_122 => some (Sum.inl (x4_102, (nI 0), x6_122, I_96)))))))))))))))
/-- PricedBases$Rows.isCompleted(LPricedBases$Valuation;LPricedBases$Valuation;I)Z -/
def m_62 (th : Nat) (a0 : Nat) (a1 : Nat) (a2 : Int32) (I : ai_I) (J : ai_J) (Rf : ai_R) (G : ai_G) : Option (Int32 × ai_I) :=
  o_s1 (lp (fun s => m_62_b9 th a0 a1 a2 J Rf G s.1 s.2.1 s.2.2.1 s.2.2.2) o_N (a2, (nI 0), (nI 0), I)) (fun t => m_62_x9_128 a0 G t.1 t.2)
theorem md_62 {d : Nat} {I : ai_I} {J : ai_J} {Rf : ai_R} {G : ai_G} {th : Nat} {a0 : Nat} {a1 : Nat} {a2 : Int32} {r : Int32} {I1 : ai_I} (hd : 3 ≤ d) (hth : G.1 th = 4) (h : m_62 th a0 a1 a2 I J Rf G = some (r, I1)) : ai_Cl si_t si_ms d 62 [.inr (.inr th), .inr (.inr a0), .inr (.inr a1), .inl a2] I J Rf G (some (.inl r)) I1 J Rf G := by
  obtain ⟨e, rfl⟩ : ∃ e, d = e + 1 := ⟨d - 1, by omega⟩
  unfold m_62 at h
  refine sp_in (lo := [some (.inr (.inr th)), some (.inr (.inr a0)), some (.inr (.inr a1)), some (.inl a2), none, none, none]) (B := (0, 0)) rfl (Nat.le_of_ble_eq_true rfl) rfl rfl ?_
  refine go_iload_n (pc' := 1) rfl rfl rfl ?_
  refine go_istore (pc' := 3) (lo' := [some (.inr (.inr th)), some (.inr (.inr a0)), some (.inr (.inr a1)), some (.inl a2), some (.inl a2), none, none]) rfl rfl rfl ?_
  refine go_iconst (pc' := 4) (v := (nI 0)) rfl rfl rfl ?_
  refine go_istore (pc' := 6) (lo' := [some (.inr (.inr th)), some (.inr (.inr a0)), some (.inr (.inr a1)), some (.inl a2), some (.inl a2), some (.inl (nI 0)), none]) rfl rfl rfl ?_
  refine go_iconst (pc' := 7) (v := (nI 0)) rfl rfl rfl ?_
  refine go_istore (pc' := 9) (lo' := [some (.inr (.inr th)), some (.inr (.inr a0)), some (.inr (.inr a1)), some (.inl a2), some (.inl a2), some (.inl (nI 0)), some (.inl (nI 0))]) rfl rfl rfl ?_
  obtain ⟨q9, hl9, hc9_128⟩ := o_s1E h
  have ex9_128 : ∀ (w4_128 : Int32) (Ix_128 : ai_I) (z5_x128 : Option ai_V) (z6_x128 : Option ai_V), (w4_128, Ix_128) = q9 → ai_Go si_t (4, false, 3, cd_62) (ai_Cl si_t si_ms e) (sp_Q (some (.inl r)) I1 J Rf G) 128 [some (.inr (.inr th)), some (.inr (.inr a0)), some (.inr (.inr a1)), some (.inl a2), some (.inl w4_128), z5_x128, z6_x128] [] (0, 0) Ix_128 J Rf G := by
    intro w4_128 Ix_128 z5_x128 z6_x128 hq
    have h : m_62_x9_128 a0 G w4_128 Ix_128 = some (r, I1) := hc9_128 (w4_128, Ix_128) hq.symm
    unfold m_62_x9_128 at h
    refine go_iload (pc' := 130) rfl rfl rfl ?_
    refine go_aload_n (pc' := 131) rfl rfl rfl ?_
    obtain ⟨g0, h⟩ := o_gE h
    refine go_getI (pc' := 134) rfl rfl (by decide) (by decide) (o_kdE g0) rfl ?_
    refine go_icmp_lt (pt := 141) (pc' := 137) rfl rfl rfl (fun h134 => ?_) (fun h134 => ?_)
    · replace h := o_t h134 h
      refine go_iconst (pc' := 142) (v := (nI 0)) rfl rfl rfl ?_
      cases h
      exact go_iret rfl (rfl) ⟨rfl, rfl, rfl, rfl, rfl⟩
    · replace h := o_f h134 h
      refine go_iconst (pc' := 138) (v := (nI 1)) rfl rfl rfl ?_
      refine go_goto (pc' := 142) rfl rfl ?_
      cases h
      exact go_iret rfl (rfl) ⟨rfl, rfl, rfl, rfl, rfl⟩
  have lo9 : ∀ n s, lp (fun s => m_62_b9 th a0 a1 a2 J Rf G s.1 s.2.1 s.2.2.1 s.2.2.2) n s = some q9 → (fun s => ai_Go si_t (4, false, 3, cd_62) (ai_Cl si_t si_ms e) (sp_Q (some (.inl r)) I1 J Rf G) 9 [some (.inr (.inr th)), some (.inr (.inr a0)), some (.inr (.inr a1)), some (.inl a2), some (.inl s.1), some (.inl s.2.1), some (.inl s.2.2.1)] [] (0, 0) s.2.2.2 J Rf G) s := lp_go (fun s x9 hx hk9 => by
    obtain ⟨v4_9, v5_9, v6_9, I_9⟩ := s
    have h : m_62_b9 th a0 a1 a2 J Rf G v4_9 v5_9 v6_9 I_9 = some x9 := hx
    clear hx
    show ai_Go si_t (4, false, 3, cd_62) (ai_Cl si_t si_ms e) (sp_Q (some (.inl r)) I1 J Rf G) 9 [some (.inr (.inr th)), some (.inr (.inr a0)), some (.inr (.inr a1)), some (.inl a2), some (.inl v4_9), some (.inl v5_9), some (.inl v6_9)] [] (0, 0) I_9 J Rf G
    unfold m_62_b9 at h
    refine go_iload (pc' := 11) rfl rfl rfl ?_
    refine go_ldc (pc' := 13) (v := .inl (nI 1000000)) rfl rfl rfl ?_
    refine go_icmp_ge (pt := 128) (pc' := 16) rfl rfl rfl (fun h13 => ?_) (fun h13 => ?_)
    · replace h := o_t h13 h
      exact ex9_128 _ _ (some (.inl v5_9)) (some (.inl v6_9)) (lp_exitE h hk9)
    · replace h := o_f h13 h
      refine go_iload (pc' := 18) rfl rfl rfl ?_
      refine go_iload_n (pc' := 19) rfl rfl rfl ?_
      refine go_icmp_lt (pt := 128) (pc' := 22) rfl rfl rfl (fun h19 => ?_) (fun h19 => ?_)
      · replace h := o_t h19 h
        exact ex9_128 _ _ (some (.inl v5_9)) (some (.inl v6_9)) (lp_exitE h hk9)
      · replace h := o_f h19 h
        refine go_iload (pc' := 24) rfl rfl rfl ?_
        refine go_aload_n (pc' := 25) rfl rfl rfl ?_
        obtain ⟨g1, h⟩ := o_gE h
        refine go_getI (pc' := 28) rfl rfl (by decide) (by decide) (o_kdE g1) rfl ?_
        refine go_icmp_ge (pt := 128) (pc' := 31) rfl rfl rfl (fun h28 => ?_) (fun h28 => ?_)
        · replace h := o_t h28 h
          exact ex9_128 _ _ (some (.inl v5_9)) (some (.inl v6_9)) (lp_exitE h hk9)
        · replace h := o_f h28 h
          refine go_aload_n (pc' := 32) rfl rfl rfl ?_
          refine go_getR (pc' := 35) rfl rfl hth rfl ?_
          refine go_iload (pc' := 37) rfl rfl rfl ?_
          refine go_aload_n (pc' := 38) rfl rfl rfl ?_
          refine go_iload (pc' := 40) rfl rfl rfl ?_
          refine go_iload (pc' := 42) rfl rfl rfl ?_
          refine go_aload_n (pc' := 43) rfl rfl rfl ?_
          refine go_getI (pc' := 46) rfl rfl (by decide) (by decide) (o_kdE g1) rfl ?_
          obtain ⟨r_46, q_46, h⟩ := o_b1E h
          refine go_callV (pc' := 49) (B' := (0, 0)) (st' := [.inl r_46, .inl v4_9, .inr (.inr (Rf th 1))]) rfl rfl (Or.inl (by decide)) rfl rfl hth (md_63 (by omega) hth q_46) rfl rfl rfl ?_
          obtain ⟨g2, h⟩ := o_gE h
          obtain ⟨I_49, eI_49, h⟩ := o_b1E h
          refine go_iastore (pc' := 50) rfl (o_inK g2) (o_inB g2) rfl ?_
          refine go_ndMI eI_49 ?_
          refine go_aload_n (pc' := 51) rfl rfl rfl ?_
          refine go_getR (pc' := 54) rfl rfl hth rfl ?_
          refine go_iload (pc' := 56) rfl rfl rfl ?_
          obtain ⟨g3, h⟩ := o_gE h
          refine go_iaload (pc' := 57) rfl (o_inK g3) (o_inB g3) rfl ?_
          refine go_aload_n (pc' := 58) rfl rfl rfl ?_
          refine go_getI (pc' := 61) rfl rfl (by decide) (by decide) (o_kdE g1) rfl ?_
          refine go_icmp_ne (pt := 91) (pc' := 64) rfl rfl rfl (fun h61 => ?_) (fun h61 => ?_)
          · replace h := o_f h61 h
            refine go_aload_n (pc' := 92) rfl rfl rfl ?_
            refine go_aload_n (pc' := 93) rfl rfl rfl ?_
            refine go_aload_n (pc' := 94) rfl rfl rfl ?_
            refine go_iload (pc' := 96) rfl rfl rfl ?_
            obtain ⟨r_96, I_96, q_96, h⟩ := o_b2E h
            refine go_callV (pc' := 99) (B' := (0, 0)) (st' := [.inl r_96]) rfl rfl (Or.inl (by decide)) rfl rfl hth (md_65 (by omega) hth q_96) rfl rfl rfl ?_
            refine go_if_eq (pt := 111) (pc' := 102) rfl rfl rfl (fun h99 => ?_) (fun h99 => ?_)
            · replace h := o_t h99 h
              refine go_aload_n (pc' := 112) rfl rfl rfl ?_
              refine go_getR (pc' := 115) rfl rfl hth rfl ?_
              refine go_iload (pc' := 117) rfl rfl rfl ?_
              obtain ⟨g4, h⟩ := o_gE h
              refine go_iaload (pc' := 118) rfl (o_inK g4) (o_inB g4) rfl ?_
              refine go_iconst (pc' := 119) (v := (nI 1)) rfl rfl rfl ?_
              refine go_iadd (pc' := 120) rfl rfl ?_
              obtain ⟨x5_120, ex5_120, h⟩ := o_b1E h
              refine go_ndI ex5_120 ?_
              refine go_istore (pc' := 122) (lo' := [some (.inr (.inr th)), some (.inr (.inr a0)), some (.inr (.inr a1)), some (.inl a2), some (.inl v4_9), some (.inl x5_120), some (.inl v6_9)]) rfl rfl rfl ?_
              obtain ⟨x6_122, ex6_122, h⟩ := o_b1E h
              refine go_iincE (pc' := 125) rfl rfl (y := (nI 1)) rfl ex6_122 (lo' := [some (.inr (.inr th)), some (.inr (.inr a0)), some (.inr (.inr a1)), some (.inl a2), some (.inl v4_9), some (.inl x5_120), some (.inl x6_122)]) rfl rfl ?_
              refine go_goto (pc' := 9) rfl rfl ?_
              exact (lp_backE h hk9 :)
            · replace h := o_f h99 h
              obtain ⟨x4_102, ex4_102, h⟩ := o_b1E h
              refine go_iincE (pc' := 105) rfl rfl (y := (nI 1)) rfl ex4_102 (lo' := [some (.inr (.inr th)), some (.inr (.inr a0)), some (.inr (.inr a1)), some (.inl a2), some (.inl x4_102), some (.inl v5_9), some (.inl v6_9)]) rfl rfl ?_
              refine go_iconst (pc' := 106) (v := (nI 0)) rfl rfl rfl ?_
              refine go_istore (pc' := 108) (lo' := [some (.inr (.inr th)), some (.inr (.inr a0)), some (.inr (.inr a1)), some (.inl a2), some (.inl x4_102), some (.inl (nI 0)), some (.inl v6_9)]) rfl rfl rfl ?_
              refine go_goto (pc' := 122) rfl rfl ?_
              obtain ⟨x6_122, ex6_122, h⟩ := o_b1E h
              refine go_iincE (pc' := 125) rfl rfl (y := (nI 1)) rfl ex6_122 (lo' := [some (.inr (.inr th)), some (.inr (.inr a0)), some (.inr (.inr a1)), some (.inl a2), some (.inl x4_102), some (.inl (nI 0)), some (.inl x6_122)]) rfl rfl ?_
              refine go_goto (pc' := 9) rfl rfl ?_
              exact (lp_backE h hk9 :)
          · replace h := o_t (Decidable.of_not_not h61) h
            obtain ⟨x4_64, ex4_64, h⟩ := o_b1E h
            refine go_iincE (pc' := 67) rfl rfl (y := (-1 : Int32)) rfl ex4_64 (lo' := [some (.inr (.inr th)), some (.inr (.inr a0)), some (.inr (.inr a1)), some (.inl a2), some (.inl x4_64), some (.inl v5_9), some (.inl v6_9)]) rfl rfl ?_
            refine go_iload (pc' := 69) rfl rfl rfl ?_
            refine go_iload_n (pc' := 70) rfl rfl rfl ?_
            refine go_icmp_lt (pt := 85) (pc' := 73) rfl rfl rfl (fun h70 => ?_) (fun h70 => ?_)
            · replace h := o_t h70 h
              refine go_iconst (pc' := 86) (v := (nI 0)) rfl rfl rfl ?_
              refine go_istore (pc' := 88) (lo' := [some (.inr (.inr th)), some (.inr (.inr a0)), some (.inr (.inr a1)), some (.inl a2), some (.inl x4_64), some (.inl (nI 0)), some (.inl v6_9)]) rfl rfl rfl ?_
              refine go_goto (pc' := 122) rfl rfl ?_
              obtain ⟨x6_122, ex6_122, h⟩ := o_b1E h
              refine go_iincE (pc' := 125) rfl rfl (y := (nI 1)) rfl ex6_122 (lo' := [some (.inr (.inr th)), some (.inr (.inr a0)), some (.inr (.inr a1)), some (.inl a2), some (.inl x4_64), some (.inl (nI 0)), some (.inl x6_122)]) rfl rfl ?_
              refine go_goto (pc' := 9) rfl rfl ?_
              exact (lp_backE h hk9 :)
            · replace h := o_f h70 h
              refine go_aload_n (pc' := 74) rfl rfl rfl ?_
              refine go_getR (pc' := 77) rfl rfl hth rfl ?_
              refine go_iload (pc' := 79) rfl rfl rfl ?_
              obtain ⟨g5, h⟩ := o_gE h
              refine go_iaload (pc' := 80) rfl (o_inK g5) (o_inB g5) rfl ?_
              refine go_iconst (pc' := 81) (v := (nI 1)) rfl rfl rfl ?_
              refine go_iadd (pc' := 82) rfl rfl ?_
              refine go_goto (pc' := 86) rfl rfl ?_
              obtain ⟨x5_86, ex5_86, h⟩ := o_b1E h
              refine go_ndI ex5_86 ?_
              refine go_istore (pc' := 88) (lo' := [some (.inr (.inr th)), some (.inr (.inr a0)), some (.inr (.inr a1)), some (.inl a2), some (.inl x4_64), some (.inl x5_86), some (.inl v6_9)]) rfl rfl rfl ?_
              refine go_goto (pc' := 122) rfl rfl ?_
              obtain ⟨x6_122, ex6_122, h⟩ := o_b1E h
              refine go_iincE (pc' := 125) rfl rfl (y := (nI 1)) rfl ex6_122 (lo' := [some (.inr (.inr th)), some (.inr (.inr a0)), some (.inr (.inr a1)), some (.inl a2), some (.inl x4_64), some (.inl x5_86), some (.inl x6_122)]) rfl rfl ?_
              refine go_goto (pc' := 9) rfl rfl ?_
              exact (lp_backE h hk9 :))
  exact lo9 _ (a2, (nI 0), (nI 0), I) hl9 
def m_59_x2_38 (th : Nat) (a0 : Nat) (a1 : Nat) (I : ai_I) (Rf : ai_R) (G : ai_G) (Jx_38 : ai_J) : Option (Int32 × ai_I × ai_J) :=
  o_b2 (m_62 th a0 a1 (nI 0) I Jx_38 Rf G) (fun r_42 I_42 => if r_42 = 0 then (some ((nI 0), I_42, Jx_38)) else (o_g (o_cpy G (Rf th 1) (Rf th 0) (nI 0) (nI 0) (nI 8)) (o_b1 (some (va_up I_42 (Rf th 0) (va_cpy (I_42 (Rf th 1)) (I_42 (Rf th 0)) (nI 0).toNatClampNeg (nI 0).toNatClampNeg (nI 8).toNatClampNeg))) (fun I_62 => some ((nI 1), I_62, Jx_38)))))
def m_59_b2 (th : Nat) (a0 : Nat) (a1 : Nat) (I : ai_I) (Rf : ai_R) (G : ai_G) (v3_2 : Int32) (J_2 : ai_J) : Option ((Int32 × ai_J) ⊕ ai_J) :=
  o_g (o_kd G a0 8) (if (I a0 0) ≤ v3_2 then (some (Sum.inr J_2)) else (o_b1 (m_60 a0 v3_2 I Rf G) (fun r_17 => o_g (o_in G 14 (Rf th 3) v3_2) (o_b1 (some (va_up J_2 (Rf th 3) (va_up (J_2 (Rf th 3)) v3_2.toNatClampNeg r_17))) (fun J_20 => o_b1 (m_60 a1 v3_2 I Rf G) (fun r_28 => o_g (o_in G 14 (Rf th 4) v3_2) (o_b1 (some (va_up J_20 (Rf th 4) (va_up (J_20 (Rf th 4)) v3_2.toNatClampNeg r_28))) (fun J_31 => o_b1 (some (v3_2 + (nI 1))) (fun x3_32 => some (Sum.inl (x3_32, J_31)))))))))))
/-- PricedBases$Rows.isFound(LPricedBases$Valuation;LPricedBases$Valuation;)Z -/
def m_59 (th : Nat) (a0 : Nat) (a1 : Nat) (I : ai_I) (J : ai_J) (Rf : ai_R) (G : ai_G) : Option (Int32 × ai_I × ai_J) :=
  o_s1 (lp (fun s => m_59_b2 th a0 a1 I Rf G s.1 s.2) o_N ((nI 0), J)) (fun t => m_59_x2_38 th a0 a1 I Rf G t)
theorem md_59 {d : Nat} {I : ai_I} {J : ai_J} {Rf : ai_R} {G : ai_G} {th : Nat} {a0 : Nat} {a1 : Nat} {r : Int32} {I1 : ai_I} {J1 : ai_J} (hd : 4 ≤ d) (hth : G.1 th = 4) (h : m_59 th a0 a1 I J Rf G = some (r, I1, J1)) : ai_Cl si_t si_ms d 59 [.inr (.inr th), .inr (.inr a0), .inr (.inr a1)] I J Rf G (some (.inl r)) I1 J1 Rf G := by
  obtain ⟨e, rfl⟩ : ∃ e, d = e + 1 := ⟨d - 1, by omega⟩
  unfold m_59 at h
  refine sp_in (lo := [some (.inr (.inr th)), some (.inr (.inr a0)), some (.inr (.inr a1)), none]) (B := (0, 0)) rfl (Nat.le_of_ble_eq_true rfl) rfl rfl ?_
  refine go_iconst (pc' := 1) (v := (nI 0)) rfl rfl rfl ?_
  refine go_istore_n (pc' := 2) (lo' := [some (.inr (.inr th)), some (.inr (.inr a0)), some (.inr (.inr a1)), some (.inl (nI 0))]) rfl rfl rfl ?_
  obtain ⟨q2, hl2, hc2_38⟩ := o_s1E h
  have ex2_38 : ∀ (Jx_38 : ai_J) (z3_x38 : Option ai_V), Jx_38 = q2 → ai_Go si_t (4, false, 3, cd_59) (ai_Cl si_t si_ms e) (sp_Q (some (.inl r)) I1 J1 Rf G) 38 [some (.inr (.inr th)), some (.inr (.inr a0)), some (.inr (.inr a1)), z3_x38] [] (0, 0) I Jx_38 Rf G := by
    intro Jx_38 z3_x38 hq
    have h : m_59_x2_38 th a0 a1 I Rf G Jx_38 = some (r, I1, J1) := hc2_38 Jx_38 hq.symm
    unfold m_59_x2_38 at h
    refine go_aload_n (pc' := 39) rfl rfl rfl ?_
    refine go_aload_n (pc' := 40) rfl rfl rfl ?_
    refine go_aload_n (pc' := 41) rfl rfl rfl ?_
    refine go_iconst (pc' := 42) (v := (nI 0)) rfl rfl rfl ?_
    obtain ⟨r_42, I_42, q_42, h⟩ := o_b2E h
    refine go_callV (pc' := 45) (B' := (0, 0)) (st' := [.inl r_42]) rfl rfl (Or.inl (by decide)) rfl rfl hth (md_62 (by omega) hth q_42) rfl rfl rfl ?_
    refine go_if_ne (pt := 50) (pc' := 48) rfl rfl rfl (fun h45 => ?_) (fun h45 => ?_)
    · replace h := o_f h45 h
      refine go_aload_n (pc' := 51) rfl rfl rfl ?_
      refine go_getR (pc' := 54) rfl rfl hth rfl ?_
      refine go_iconst (pc' := 55) (v := (nI 0)) rfl rfl rfl ?_
      refine go_aload_n (pc' := 56) rfl rfl rfl ?_
      refine go_getR (pc' := 59) rfl rfl hth rfl ?_
      refine go_iconst (pc' := 60) (v := (nI 0)) rfl rfl rfl ?_
      refine go_bipush (pc' := 62) (v := (nI 8)) rfl rfl rfl ?_
      obtain ⟨g0, h⟩ := o_gE h
      obtain ⟨I_62, eI_62, h⟩ := o_b1E h
      refine go_copy (pc' := 65) rfl rfl (o_cpyE g0) (Nat.le_of_ble_eq_true rfl) rfl ?_
      refine go_ndMI eI_62 ?_
      refine go_iconst (pc' := 66) (v := (nI 1)) rfl rfl rfl ?_
      cases h
      exact go_iret rfl (rfl) ⟨rfl, rfl, rfl, rfl, rfl⟩
    · replace h := o_t (Decidable.of_not_not h45) h
      refine go_iconst (pc' := 49) (v := (nI 0)) rfl rfl rfl ?_
      cases h
      exact go_iret rfl (rfl) ⟨rfl, rfl, rfl, rfl, rfl⟩
  have lo2 : ∀ n s, lp (fun s => m_59_b2 th a0 a1 I Rf G s.1 s.2) n s = some q2 → (fun s => ai_Go si_t (4, false, 3, cd_59) (ai_Cl si_t si_ms e) (sp_Q (some (.inl r)) I1 J1 Rf G) 2 [some (.inr (.inr th)), some (.inr (.inr a0)), some (.inr (.inr a1)), some (.inl s.1)] [] (0, 0) I s.2 Rf G) s := lp_go (fun s x2 hx hk2 => by
    obtain ⟨v3_2, J_2⟩ := s
    have h : m_59_b2 th a0 a1 I Rf G v3_2 J_2 = some x2 := hx
    clear hx
    show ai_Go si_t (4, false, 3, cd_59) (ai_Cl si_t si_ms e) (sp_Q (some (.inl r)) I1 J1 Rf G) 2 [some (.inr (.inr th)), some (.inr (.inr a0)), some (.inr (.inr a1)), some (.inl v3_2)] [] (0, 0) I J_2 Rf G
    unfold m_59_b2 at h
    refine go_iload_n (pc' := 3) rfl rfl rfl ?_
    refine go_aload_n (pc' := 4) rfl rfl rfl ?_
    obtain ⟨g1, h⟩ := o_gE h
    refine go_getI (pc' := 7) rfl rfl (by decide) (by decide) (o_kdE g1) rfl ?_
    refine go_icmp_ge (pt := 38) (pc' := 10) rfl rfl rfl (fun h7 => ?_) (fun h7 => ?_)
    · replace h := o_t h7 h
      exact ex2_38 _ (some (.inl v3_2)) (lp_exitE h hk2)
    · replace h := o_f h7 h
      refine go_aload_n (pc' := 11) rfl rfl rfl ?_
      refine go_getR (pc' := 14) rfl rfl hth rfl ?_
      refine go_iload_n (pc' := 15) rfl rfl rfl ?_
      refine go_aload_n (pc' := 16) rfl rfl rfl ?_
      refine go_iload_n (pc' := 17) rfl rfl rfl ?_
      obtain ⟨r_17, q_17, h⟩ := o_b1E h
      refine go_callS (pc' := 20) (B' := (0, 0)) (st' := [.inr (.inl r_17), .inl v3_2, .inr (.inr (Rf th 3))]) rfl rfl (Or.inl (by decide)) rfl rfl trivial (md_60 (by omega) q_17) rfl rfl rfl ?_
      obtain ⟨g2, h⟩ := o_gE h
      obtain ⟨J_20, eJ_20, h⟩ := o_b1E h
      refine go_lastore (pc' := 21) rfl (o_inK g2) (o_inB g2) rfl ?_
      refine go_ndMJ eJ_20 ?_
      refine go_aload_n (pc' := 22) rfl rfl rfl ?_
      refine go_getR (pc' := 25) rfl rfl hth rfl ?_
      refine go_iload_n (pc' := 26) rfl rfl rfl ?_
      refine go_aload_n (pc' := 27) rfl rfl rfl ?_
      refine go_iload_n (pc' := 28) rfl rfl rfl ?_
      obtain ⟨r_28, q_28, h⟩ := o_b1E h
      refine go_callS (pc' := 31) (B' := (0, 0)) (st' := [.inr (.inl r_28), .inl v3_2, .inr (.inr (Rf th 4))]) rfl rfl (Or.inl (by decide)) rfl rfl trivial (md_60 (by omega) q_28) rfl rfl rfl ?_
      obtain ⟨g3, h⟩ := o_gE h
      obtain ⟨J_31, eJ_31, h⟩ := o_b1E h
      refine go_lastore (pc' := 32) rfl (o_inK g3) (o_inB g3) rfl ?_
      refine go_ndMJ eJ_31 ?_
      obtain ⟨x3_32, ex3_32, h⟩ := o_b1E h
      refine go_iincE (pc' := 35) rfl rfl (y := (nI 1)) rfl ex3_32 (lo' := [some (.inr (.inr th)), some (.inr (.inr a0)), some (.inr (.inr a1)), some (.inl x3_32)]) rfl rfl ?_
      refine go_goto (pc' := 2) rfl rfl ?_
      exact (lp_backE h hk2 :))
  exact lo2 _ ((nI 0), J) hl2 
/-- PricedBases.bit(Z)I -/
def m_182 (a0 : Int32) : Option (Int32) :=
  if a0 = 0 then (some (nI 0)) else (some (nI 1))
theorem md_182 {d : Nat} {I : ai_I} {J : ai_J} {Rf : ai_R} {G : ai_G} {a0 : Int32} {r : Int32} (hd : 1 ≤ d) (h : m_182 a0 = some r) : ai_Cl si_t si_ms d 182 [.inl a0] I J Rf G (some (.inl r)) I J Rf G := by
  obtain ⟨e, rfl⟩ : ∃ e, d = e + 1 := ⟨d - 1, by omega⟩
  unfold m_182 at h
  refine sp_in (lo := [some (.inl a0)]) (B := (0, 0)) rfl (Nat.le_of_ble_eq_true rfl) rfl rfl ?_
  refine go_iload_n (pc' := 1) rfl rfl rfl ?_
  refine go_if_eq (pt := 8) (pc' := 4) rfl rfl rfl (fun h1 => ?_) (fun h1 => ?_)
  · replace h := o_t h1 h
    refine go_iconst (pc' := 9) (v := (nI 0)) rfl rfl rfl ?_
    cases h
    exact go_iret rfl (trivial) ⟨rfl, rfl, rfl, rfl, rfl⟩
  · replace h := o_f h1 h
    refine go_iconst (pc' := 5) (v := (nI 1)) rfl rfl rfl ?_
    refine go_goto (pc' := 9) rfl rfl ?_
    cases h
    exact go_iret rfl (trivial) ⟨rfl, rfl, rfl, rfl, rfl⟩
def m_61_x5_118 (w3_118 : Int32) (Ix_118 : ai_I) : Option (Int32 × ai_I) :=
  some (w3_118, Ix_118)
def m_61_x20_84 (th : Nat) (a0 : Nat) (a1 : Nat) (J : ai_J) (Rf : ai_R) (G : ai_G) (v3_5 : Int32) (v4_5 : Int32) (w5_84 : Int32) (Ix_84 : ai_I) : Option ((Int32 × Int32 × ai_I) ⊕ (Int32 × ai_I)) :=
  o_b1 (some (v3_5 * w5_84)) (fun x3_88 => o_g (o_in G 13 (Rf th 0) v4_5) (o_g (o_in G 13 (Rf th 1) v4_5) (o_b1 (some (va_up Ix_84 (Rf th 1) (va_up (Ix_84 (Rf th 1)) v4_5.toNatClampNeg (Ix_84 (Rf th 0) v4_5.toNatClampNeg)))) (fun I_102 => o_b2 (m_65 th a0 a1 v4_5 I_102 J Rf G) (fun r_108 I_108 => o_b1 (some (v4_5 + (nI 1))) (fun x4_112 => some (Sum.inl (x3_88, x4_112, I_108))))))))
def m_61_b20 (th : Nat) (a0 : Nat) (a1 : Nat) (J : ai_J) (Rf : ai_R) (G : ai_G) (v4_5 : Int32) (v5_20 : Int32) (v6_20 : Int32) (I_20 : ai_I) : Option ((Int32 × Int32 × ai_I) ⊕ (Int32 × ai_I)) :=
  if (I_20 a0 0) ≤ v6_20 then (some (Sum.inr (v5_20, I_20))) else (o_g (o_in G 13 (Rf th 1) v4_5) (o_b1 (some (va_up I_20 (Rf th 1) (va_up (I_20 (Rf th 1)) v4_5.toNatClampNeg v6_20))) (fun I_37 => o_b1 (m_64 th v4_5 v6_20 I_37 Rf G) (fun r_43 => if r_43 = 0 then (o_b2 (m_65 th a0 a1 v4_5 I_37 J Rf G) (fun r_54 I_54 => if r_54 = 0 then (o_b1 (some (v6_20 + (nI 1))) (fun x6_78 => some (Sum.inl (v5_20, x6_78, I_54)))) else (o_b2 (m_62 th a0 a1 (v4_5 + (nI 1)) I_54 J Rf G) (fun r_69 I_69 => o_b1 (m_182 r_69) (fun r_72 => o_b1 (some (v5_20 + r_72)) (fun x5_76 => o_b1 (some (v6_20 + (nI 1))) (fun x6_78 => some (Sum.inl (x5_76, x6_78, I_69))))))))) else (o_b1 (some (v6_20 + (nI 1))) (fun x6_78 => some (Sum.inl (v5_20, x6_78, I_37))))))))
def m_61_b5 (th : Nat) (a0 : Nat) (a1 : Nat) (J : ai_J) (Rf : ai_R) (G : ai_G) (v3_5 : Int32) (v4_5 : Int32) (I_5 : ai_I) : Option ((Int32 × Int32 × ai_I) ⊕ (Int32 × ai_I)) :=
  o_g (o_kd G a0 8) (if (I_5 a0 0) ≤ v4_5 then (some (Sum.inr (v3_5, I_5))) else (o_s1 (lp (fun s => m_61_b20 th a0 a1 J Rf G v4_5 s.1 s.2.1 s.2.2) o_N ((nI 0), (nI 0), I_5)) (fun t => m_61_x20_84 th a0 a1 J Rf G v3_5 v4_5 t.1 t.2)))
/-- PricedBases$Rows.howMany(LPricedBases$Valuation;LPricedBases$Valuation;)I -/
def m_61 (th : Nat) (a0 : Nat) (a1 : Nat) (I : ai_I) (J : ai_J) (Rf : ai_R) (G : ai_G) : Option (Int32 × ai_I) :=
  o_s1 (lp (fun s => m_61_b5 th a0 a1 J Rf G s.1 s.2.1 s.2.2) o_N ((nI 1), (nI 0), I)) (fun t => m_61_x5_118 t.1 t.2)
theorem md_61 {d : Nat} {I : ai_I} {J : ai_J} {Rf : ai_R} {G : ai_G} {th : Nat} {a0 : Nat} {a1 : Nat} {r : Int32} {I1 : ai_I} (hd : 4 ≤ d) (hth : G.1 th = 4) (h : m_61 th a0 a1 I J Rf G = some (r, I1)) : ai_Cl si_t si_ms d 61 [.inr (.inr th), .inr (.inr a0), .inr (.inr a1)] I J Rf G (some (.inl r)) I1 J Rf G := by
  obtain ⟨e, rfl⟩ : ∃ e, d = e + 1 := ⟨d - 1, by omega⟩
  unfold m_61 at h
  refine sp_in (lo := [some (.inr (.inr th)), some (.inr (.inr a0)), some (.inr (.inr a1)), none, none, none, none]) (B := (0, 0)) rfl (Nat.le_of_ble_eq_true rfl) rfl rfl ?_
  refine go_iconst (pc' := 1) (v := (nI 1)) rfl rfl rfl ?_
  refine go_istore_n (pc' := 2) (lo' := [some (.inr (.inr th)), some (.inr (.inr a0)), some (.inr (.inr a1)), some (.inl (nI 1)), none, none, none]) rfl rfl rfl ?_
  refine go_iconst (pc' := 3) (v := (nI 0)) rfl rfl rfl ?_
  refine go_istore (pc' := 5) (lo' := [some (.inr (.inr th)), some (.inr (.inr a0)), some (.inr (.inr a1)), some (.inl (nI 1)), some (.inl (nI 0)), none, none]) rfl rfl rfl ?_
  obtain ⟨q5, hl5, hc5_118⟩ := o_s1E h
  have ex5_118 : ∀ (w3_118 : Int32) (Ix_118 : ai_I) (z4_x118 : Option ai_V) (z5_x118 : Option ai_V) (z6_x118 : Option ai_V), (w3_118, Ix_118) = q5 → ai_Go si_t (4, false, 0, cd_61) (ai_Cl si_t si_ms e) (sp_Q (some (.inl r)) I1 J Rf G) 118 [some (.inr (.inr th)), some (.inr (.inr a0)), some (.inr (.inr a1)), some (.inl w3_118), z4_x118, z5_x118, z6_x118] [] (0, 0) Ix_118 J Rf G := by
    intro w3_118 Ix_118 z4_x118 z5_x118 z6_x118 hq
    have h : m_61_x5_118 w3_118 Ix_118 = some (r, I1) := hc5_118 (w3_118, Ix_118) hq.symm
    unfold m_61_x5_118 at h
    refine go_iload_n (pc' := 119) rfl rfl rfl ?_
    cases h
    exact go_iret rfl (trivial) ⟨rfl, rfl, rfl, rfl, rfl⟩
  have lo5 : ∀ n s, lp (fun s => m_61_b5 th a0 a1 J Rf G s.1 s.2.1 s.2.2) n s = some q5 → (fun s => ∀ (z5_5 : Option ai_V) (z6_5 : Option ai_V), ai_Go si_t (4, false, 0, cd_61) (ai_Cl si_t si_ms e) (sp_Q (some (.inl r)) I1 J Rf G) 5 [some (.inr (.inr th)), some (.inr (.inr a0)), some (.inr (.inr a1)), some (.inl s.1), some (.inl s.2.1), z5_5, z6_5] [] (0, 0) s.2.2 J Rf G) s := lp_go (fun s x5 hx hk5 => by
    obtain ⟨v3_5, v4_5, I_5⟩ := s
    intro z5_5 z6_5
    have h : m_61_b5 th a0 a1 J Rf G v3_5 v4_5 I_5 = some x5 := hx
    clear hx
    show ai_Go si_t (4, false, 0, cd_61) (ai_Cl si_t si_ms e) (sp_Q (some (.inl r)) I1 J Rf G) 5 [some (.inr (.inr th)), some (.inr (.inr a0)), some (.inr (.inr a1)), some (.inl v3_5), some (.inl v4_5), z5_5, z6_5] [] (0, 0) I_5 J Rf G
    unfold m_61_b5 at h
    refine go_iload (pc' := 7) rfl rfl rfl ?_
    refine go_aload_n (pc' := 8) rfl rfl rfl ?_
    obtain ⟨g0, h⟩ := o_gE h
    refine go_getI (pc' := 11) rfl rfl (by decide) (by decide) (o_kdE g0) rfl ?_
    refine go_icmp_ge (pt := 118) (pc' := 14) rfl rfl rfl (fun h11 => ?_) (fun h11 => ?_)
    · replace h := o_t h11 h
      exact ex5_118 _ _ (some (.inl v4_5)) z5_5 z6_5 (lp_exitE h hk5)
    · replace h := o_f h11 h
      refine go_iconst (pc' := 15) (v := (nI 0)) rfl rfl rfl ?_
      refine go_istore (pc' := 17) (lo' := [some (.inr (.inr th)), some (.inr (.inr a0)), some (.inr (.inr a1)), some (.inl v3_5), some (.inl v4_5), some (.inl (nI 0)), z6_5]) rfl rfl rfl ?_
      refine go_iconst (pc' := 18) (v := (nI 0)) rfl rfl rfl ?_
      refine go_istore (pc' := 20) (lo' := [some (.inr (.inr th)), some (.inr (.inr a0)), some (.inr (.inr a1)), some (.inl v3_5), some (.inl v4_5), some (.inl (nI 0)), some (.inl (nI 0))]) rfl rfl rfl ?_
      obtain ⟨q20, hl20, hc20_84⟩ := o_s1E h
      have ex20_84 : ∀ (w5_84 : Int32) (Ix_84 : ai_I) (z6_x84 : Option ai_V), (w5_84, Ix_84) = q20 → ai_Go si_t (4, false, 0, cd_61) (ai_Cl si_t si_ms e) (sp_Q (some (.inl r)) I1 J Rf G) 84 [some (.inr (.inr th)), some (.inr (.inr a0)), some (.inr (.inr a1)), some (.inl v3_5), some (.inl v4_5), some (.inl w5_84), z6_x84] [] (0, 0) Ix_84 J Rf G := by
        intro w5_84 Ix_84 z6_x84 hq
        have h : m_61_x20_84 th a0 a1 J Rf G v3_5 v4_5 w5_84 Ix_84 = some x5 := hc20_84 (w5_84, Ix_84) hq.symm
        unfold m_61_x20_84 at h
        refine go_iload_n (pc' := 85) rfl rfl rfl ?_
        refine go_iload (pc' := 87) rfl rfl rfl ?_
        refine go_imul (pc' := 88) rfl rfl ?_
        obtain ⟨x3_88, ex3_88, h⟩ := o_b1E h
        refine go_ndI ex3_88 ?_
        refine go_istore_n (pc' := 89) (lo' := [some (.inr (.inr th)), some (.inr (.inr a0)), some (.inr (.inr a1)), some (.inl x3_88), some (.inl v4_5), some (.inl w5_84), z6_x84]) rfl rfl rfl ?_
        refine go_aload_n (pc' := 90) rfl rfl rfl ?_
        refine go_getR (pc' := 93) rfl rfl hth rfl ?_
        refine go_iload (pc' := 95) rfl rfl rfl ?_
        refine go_aload_n (pc' := 96) rfl rfl rfl ?_
        refine go_getR (pc' := 99) rfl rfl hth rfl ?_
        refine go_iload (pc' := 101) rfl rfl rfl ?_
        obtain ⟨g1, h⟩ := o_gE h
        refine go_iaload (pc' := 102) rfl (o_inK g1) (o_inB g1) rfl ?_
        obtain ⟨g2, h⟩ := o_gE h
        obtain ⟨I_102, eI_102, h⟩ := o_b1E h
        refine go_iastore (pc' := 103) rfl (o_inK g2) (o_inB g2) rfl ?_
        refine go_ndMI eI_102 ?_
        refine go_aload_n (pc' := 104) rfl rfl rfl ?_
        refine go_aload_n (pc' := 105) rfl rfl rfl ?_
        refine go_aload_n (pc' := 106) rfl rfl rfl ?_
        refine go_iload (pc' := 108) rfl rfl rfl ?_
        obtain ⟨r_108, I_108, q_108, h⟩ := o_b2E h
        refine go_callV (pc' := 111) (B' := (0, 0)) (st' := [.inl r_108]) rfl rfl (Or.inl (by decide)) rfl rfl hth (md_65 (by omega) hth q_108) rfl rfl rfl ?_
        refine go_popI (pc' := 112) rfl rfl ?_
        obtain ⟨x4_112, ex4_112, h⟩ := o_b1E h
        refine go_iincE (pc' := 115) rfl rfl (y := (nI 1)) rfl ex4_112 (lo' := [some (.inr (.inr th)), some (.inr (.inr a0)), some (.inr (.inr a1)), some (.inl x3_88), some (.inl x4_112), some (.inl w5_84), z6_x84]) rfl rfl ?_
        refine go_goto (pc' := 5) rfl rfl ?_
        exact (lp_backE h hk5 (some (.inl w5_84)) z6_x84 :)
      have lo20 : ∀ n s, lp (fun s => m_61_b20 th a0 a1 J Rf G v4_5 s.1 s.2.1 s.2.2) n s = some q20 → (fun s => ai_Go si_t (4, false, 0, cd_61) (ai_Cl si_t si_ms e) (sp_Q (some (.inl r)) I1 J Rf G) 20 [some (.inr (.inr th)), some (.inr (.inr a0)), some (.inr (.inr a1)), some (.inl v3_5), some (.inl v4_5), some (.inl s.1), some (.inl s.2.1)] [] (0, 0) s.2.2 J Rf G) s := lp_go (fun s x20 hx hk20 => by
        obtain ⟨v5_20, v6_20, I_20⟩ := s
        have h : m_61_b20 th a0 a1 J Rf G v4_5 v5_20 v6_20 I_20 = some x20 := hx
        clear hx
        show ai_Go si_t (4, false, 0, cd_61) (ai_Cl si_t si_ms e) (sp_Q (some (.inl r)) I1 J Rf G) 20 [some (.inr (.inr th)), some (.inr (.inr a0)), some (.inr (.inr a1)), some (.inl v3_5), some (.inl v4_5), some (.inl v5_20), some (.inl v6_20)] [] (0, 0) I_20 J Rf G
        unfold m_61_b20 at h
        refine go_iload (pc' := 22) rfl rfl rfl ?_
        refine go_aload_n (pc' := 23) rfl rfl rfl ?_
        refine go_getI (pc' := 26) rfl rfl (by decide) (by decide) (o_kdE g0) rfl ?_
        refine go_icmp_ge (pt := 84) (pc' := 29) rfl rfl rfl (fun h26 => ?_) (fun h26 => ?_)
        · replace h := o_t h26 h
          exact ex20_84 _ _ (some (.inl v6_20)) (lp_exitE h hk20)
        · replace h := o_f h26 h
          refine go_aload_n (pc' := 30) rfl rfl rfl ?_
          refine go_getR (pc' := 33) rfl rfl hth rfl ?_
          refine go_iload (pc' := 35) rfl rfl rfl ?_
          refine go_iload (pc' := 37) rfl rfl rfl ?_
          obtain ⟨g3, h⟩ := o_gE h
          obtain ⟨I_37, eI_37, h⟩ := o_b1E h
          refine go_iastore (pc' := 38) rfl (o_inK g3) (o_inB g3) rfl ?_
          refine go_ndMI eI_37 ?_
          refine go_aload_n (pc' := 39) rfl rfl rfl ?_
          refine go_iload (pc' := 41) rfl rfl rfl ?_
          refine go_iload (pc' := 43) rfl rfl rfl ?_
          obtain ⟨r_43, q_43, h⟩ := o_b1E h
          refine go_callV (pc' := 46) (B' := (0, 0)) (st' := [.inl r_43]) rfl rfl (Or.inl (by decide)) rfl rfl hth (md_64 (by omega) hth q_43) rfl rfl rfl ?_
          refine go_if_ne (pt := 78) (pc' := 49) rfl rfl rfl (fun h46 => ?_) (fun h46 => ?_)
          · replace h := o_f h46 h
            obtain ⟨x6_78, ex6_78, h⟩ := o_b1E h
            refine go_iincE (pc' := 81) rfl rfl (y := (nI 1)) rfl ex6_78 (lo' := [some (.inr (.inr th)), some (.inr (.inr a0)), some (.inr (.inr a1)), some (.inl v3_5), some (.inl v4_5), some (.inl v5_20), some (.inl x6_78)]) rfl rfl ?_
            refine go_goto (pc' := 20) rfl rfl ?_
            exact (lp_backE h hk20 :)
          · replace h := o_t (Decidable.of_not_not h46) h
            refine go_aload_n (pc' := 50) rfl rfl rfl ?_
            refine go_aload_n (pc' := 51) rfl rfl rfl ?_
            refine go_aload_n (pc' := 52) rfl rfl rfl ?_
            refine go_iload (pc' := 54) rfl rfl rfl ?_
            obtain ⟨r_54, I_54, q_54, h⟩ := o_b2E h
            refine go_callV (pc' := 57) (B' := (0, 0)) (st' := [.inl r_54]) rfl rfl (Or.inl (by decide)) rfl rfl hth (md_65 (by omega) hth q_54) rfl rfl rfl ?_
            refine go_if_eq (pt := 78) (pc' := 60) rfl rfl rfl (fun h57 => ?_) (fun h57 => ?_)
            · replace h := o_t h57 h
              obtain ⟨x6_78, ex6_78, h⟩ := o_b1E h
              refine go_iincE (pc' := 81) rfl rfl (y := (nI 1)) rfl ex6_78 (lo' := [some (.inr (.inr th)), some (.inr (.inr a0)), some (.inr (.inr a1)), some (.inl v3_5), some (.inl v4_5), some (.inl v5_20), some (.inl x6_78)]) rfl rfl ?_
              refine go_goto (pc' := 20) rfl rfl ?_
              exact (lp_backE h hk20 :)
            · replace h := o_f h57 h
              refine go_iload (pc' := 62) rfl rfl rfl ?_
              refine go_aload_n (pc' := 63) rfl rfl rfl ?_
              refine go_aload_n (pc' := 64) rfl rfl rfl ?_
              refine go_aload_n (pc' := 65) rfl rfl rfl ?_
              refine go_iload (pc' := 67) rfl rfl rfl ?_
              refine go_iconst (pc' := 68) (v := (nI 1)) rfl rfl rfl ?_
              refine go_iadd (pc' := 69) rfl rfl ?_
              obtain ⟨r_69, I_69, q_69, h⟩ := o_b2E h
              refine go_callV (pc' := 72) (B' := (0, 0)) (st' := [.inl r_69, .inl v5_20]) rfl rfl (Or.inl (by decide)) rfl rfl hth (md_62 (by omega) hth q_69) rfl rfl rfl ?_
              obtain ⟨r_72, q_72, h⟩ := o_b1E h
              refine go_callS (pc' := 75) (B' := (0, 0)) (st' := [.inl r_72, .inl v5_20]) rfl rfl (Or.inl (by decide)) rfl rfl trivial (md_182 (by omega) q_72) rfl rfl rfl ?_
              refine go_iadd (pc' := 76) rfl rfl ?_
              obtain ⟨x5_76, ex5_76, h⟩ := o_b1E h
              refine go_ndI ex5_76 ?_
              refine go_istore (pc' := 78) (lo' := [some (.inr (.inr th)), some (.inr (.inr a0)), some (.inr (.inr a1)), some (.inl v3_5), some (.inl v4_5), some (.inl x5_76), some (.inl v6_20)]) rfl rfl rfl ?_
              obtain ⟨x6_78, ex6_78, h⟩ := o_b1E h
              refine go_iincE (pc' := 81) rfl rfl (y := (nI 1)) rfl ex6_78 (lo' := [some (.inr (.inr th)), some (.inr (.inr a0)), some (.inr (.inr a1)), some (.inl v3_5), some (.inl v4_5), some (.inl x5_76), some (.inl x6_78)]) rfl rfl ?_
              refine go_goto (pc' := 20) rfl rfl ?_
              exact (lp_backE h hk20 :))
      exact lo20 _ ((nI 0), (nI 0), I_5) hl20 )
  exact lo5 _ ((nI 1), (nI 0), I) hl5 none none
def m_66_x7_32 (w1_32 : Int32) : Option (Int32) :=
  some w1_32
def m_66_b7 (a0 : Nat) (I : ai_I) (Rf : ai_R) (G : ai_G) (v1_7 : Int32) (v2_7 : Int32) : Option ((Int32 × Int32) ⊕ Int32) :=
  if (I a0 2) ≤ v2_7 then (some (Sum.inr v1_7)) else (o_g (o_in G 13 (Rf a0 5) v2_7) (o_b1 (some (v1_7 &&& ((I (Rf a0 5) v2_7.toNatClampNeg) ^^^ (-1 : Int32)))) (fun x1_25 => o_b1 (some (v2_7 + (nI 1))) (fun x2_26 => some (Sum.inl (x1_25, x2_26))))))
/-- PricedBases$Shape.loops(LPricedBases$Valuation;)I -/
def m_66 (a0 : Nat) (I : ai_I) (Rf : ai_R) (G : ai_G) : Option (Int32) :=
  o_g (o_kd G a0 8) (o_b1 (m_119 a0 I) (fun r_1 => o_s1 (lp (fun s => m_66_b7 a0 I Rf G s.1 s.2) o_N (r_1, (nI 0))) (fun t => m_66_x7_32 t)))
theorem md_66 {d : Nat} {I : ai_I} {J : ai_J} {Rf : ai_R} {G : ai_G} {a0 : Nat} {r : Int32} (hd : 3 ≤ d) (h : m_66 a0 I Rf G = some r) : ai_Cl si_t si_ms d 66 [.inr (.inr a0)] I J Rf G (some (.inl r)) I J Rf G := by
  obtain ⟨e, rfl⟩ : ∃ e, d = e + 1 := ⟨d - 1, by omega⟩
  unfold m_66 at h
  refine sp_in (lo := [some (.inr (.inr a0)), none, none]) (B := (0, 0)) rfl (Nat.le_of_ble_eq_true rfl) rfl rfl ?_
  refine go_aload_n (pc' := 1) rfl rfl rfl ?_
  obtain ⟨g0, h⟩ := o_gE h
  obtain ⟨r_1, q_1, h⟩ := o_b1E h
  refine go_callV (pc' := 4) (B' := (0, 0)) (st' := [.inl r_1]) rfl rfl (Or.inl (by decide)) rfl rfl (o_kdE g0) (md_119 (by omega) (o_kdE g0) q_1) rfl rfl rfl ?_
  refine go_istore_n (pc' := 5) (lo' := [some (.inr (.inr a0)), some (.inl r_1), none]) rfl rfl rfl ?_
  refine go_iconst (pc' := 6) (v := (nI 0)) rfl rfl rfl ?_
  refine go_istore_n (pc' := 7) (lo' := [some (.inr (.inr a0)), some (.inl r_1), some (.inl (nI 0))]) rfl rfl rfl ?_
  obtain ⟨q7, hl7, hc7_32⟩ := o_s1E h
  have ex7_32 : ∀ (w1_32 : Int32) (z2_x32 : Option ai_V), w1_32 = q7 → ai_Go si_t (20, false, 0, cd_66) (ai_Cl si_t si_ms e) (sp_Q (some (.inl r)) I J Rf G) 32 [some (.inr (.inr a0)), some (.inl w1_32), z2_x32] [] (0, 0) I J Rf G := by
    intro w1_32 z2_x32 hq
    have h : m_66_x7_32 w1_32 = some r := hc7_32 w1_32 hq.symm
    unfold m_66_x7_32 at h
    refine go_iload_n (pc' := 33) rfl rfl rfl ?_
    cases h
    exact go_iret rfl (trivial) ⟨rfl, rfl, rfl, rfl, rfl⟩
  have lo7 : ∀ n s, lp (fun s => m_66_b7 a0 I Rf G s.1 s.2) n s = some q7 → (fun s => ai_Go si_t (20, false, 0, cd_66) (ai_Cl si_t si_ms e) (sp_Q (some (.inl r)) I J Rf G) 7 [some (.inr (.inr a0)), some (.inl s.1), some (.inl s.2)] [] (0, 0) I J Rf G) s := lp_go (fun s x7 hx hk7 => by
    obtain ⟨v1_7, v2_7⟩ := s
    have h : m_66_b7 a0 I Rf G v1_7 v2_7 = some x7 := hx
    clear hx
    show ai_Go si_t (20, false, 0, cd_66) (ai_Cl si_t si_ms e) (sp_Q (some (.inl r)) I J Rf G) 7 [some (.inr (.inr a0)), some (.inl v1_7), some (.inl v2_7)] [] (0, 0) I J Rf G
    unfold m_66_b7 at h
    refine go_iload_n (pc' := 8) rfl rfl rfl ?_
    refine go_aload_n (pc' := 9) rfl rfl rfl ?_
    refine go_getI (pc' := 12) rfl rfl (by decide) (by decide) (o_kdE g0) rfl ?_
    refine go_icmp_ge (pt := 32) (pc' := 15) rfl rfl rfl (fun h12 => ?_) (fun h12 => ?_)
    · replace h := o_t h12 h
      exact ex7_32 _ (some (.inl v2_7)) (lp_exitE h hk7)
    · replace h := o_f h12 h
      refine go_iload_n (pc' := 16) rfl rfl rfl ?_
      refine go_aload_n (pc' := 17) rfl rfl rfl ?_
      refine go_getR (pc' := 20) rfl rfl (o_kdE g0) rfl ?_
      refine go_iload_n (pc' := 21) rfl rfl rfl ?_
      obtain ⟨g1, h⟩ := o_gE h
      refine go_iaload (pc' := 22) rfl (o_inK g1) (o_inB g1) rfl ?_
      refine go_iconst (pc' := 23) (v := (-1 : Int32)) rfl rfl rfl ?_
      refine go_ixor (pc' := 24) rfl rfl ?_
      refine go_iand (pc' := 25) rfl rfl ?_
      obtain ⟨x1_25, ex1_25, h⟩ := o_b1E h
      refine go_ndI ex1_25 ?_
      refine go_istore_n (pc' := 26) (lo' := [some (.inr (.inr a0)), some (.inl x1_25), some (.inl v2_7)]) rfl rfl rfl ?_
      obtain ⟨x2_26, ex2_26, h⟩ := o_b1E h
      refine go_iincE (pc' := 29) rfl rfl (y := (nI 1)) rfl ex2_26 (lo' := [some (.inr (.inr a0)), some (.inl x1_25), some (.inl x2_26)]) rfl rfl ?_
      refine go_goto (pc' := 7) rfl rfl ?_
      exact (lp_backE h hk7 :))
  exact lo7 _ (r_1, (nI 0)) hl7 
def m_67_x7_30 (w1_30 : Int32) : Option (Int32) :=
  some w1_30
def m_67_b7 (a0 : Nat) (I : ai_I) (Rf : ai_R) (G : ai_G) (v1_7 : Int32) (v2_7 : Int32) : Option ((Int32 × Int32) ⊕ Int32) :=
  if (I a0 2) ≤ v2_7 then (some (Sum.inr v1_7)) else (o_g (o_in G 13 (Rf a0 5) v2_7) (o_b1 (some (v1_7 &&& (I (Rf a0 5) v2_7.toNatClampNeg))) (fun x1_23 => o_b1 (some (v2_7 + (nI 1))) (fun x2_24 => some (Sum.inl (x1_23, x2_24))))))
/-- PricedBases$Shape.bridges(LPricedBases$Valuation;)I -/
def m_67 (a0 : Nat) (I : ai_I) (Rf : ai_R) (G : ai_G) : Option (Int32) :=
  o_g (o_kd G a0 8) (o_b1 (m_119 a0 I) (fun r_1 => o_s1 (lp (fun s => m_67_b7 a0 I Rf G s.1 s.2) o_N (r_1, (nI 0))) (fun t => m_67_x7_30 t)))
theorem md_67 {d : Nat} {I : ai_I} {J : ai_J} {Rf : ai_R} {G : ai_G} {a0 : Nat} {r : Int32} (hd : 3 ≤ d) (h : m_67 a0 I Rf G = some r) : ai_Cl si_t si_ms d 67 [.inr (.inr a0)] I J Rf G (some (.inl r)) I J Rf G := by
  obtain ⟨e, rfl⟩ : ∃ e, d = e + 1 := ⟨d - 1, by omega⟩
  unfold m_67 at h
  refine sp_in (lo := [some (.inr (.inr a0)), none, none]) (B := (0, 0)) rfl (Nat.le_of_ble_eq_true rfl) rfl rfl ?_
  refine go_aload_n (pc' := 1) rfl rfl rfl ?_
  obtain ⟨g0, h⟩ := o_gE h
  obtain ⟨r_1, q_1, h⟩ := o_b1E h
  refine go_callV (pc' := 4) (B' := (0, 0)) (st' := [.inl r_1]) rfl rfl (Or.inl (by decide)) rfl rfl (o_kdE g0) (md_119 (by omega) (o_kdE g0) q_1) rfl rfl rfl ?_
  refine go_istore_n (pc' := 5) (lo' := [some (.inr (.inr a0)), some (.inl r_1), none]) rfl rfl rfl ?_
  refine go_iconst (pc' := 6) (v := (nI 0)) rfl rfl rfl ?_
  refine go_istore_n (pc' := 7) (lo' := [some (.inr (.inr a0)), some (.inl r_1), some (.inl (nI 0))]) rfl rfl rfl ?_
  obtain ⟨q7, hl7, hc7_30⟩ := o_s1E h
  have ex7_30 : ∀ (w1_30 : Int32) (z2_x30 : Option ai_V), w1_30 = q7 → ai_Go si_t (20, false, 0, cd_67) (ai_Cl si_t si_ms e) (sp_Q (some (.inl r)) I J Rf G) 30 [some (.inr (.inr a0)), some (.inl w1_30), z2_x30] [] (0, 0) I J Rf G := by
    intro w1_30 z2_x30 hq
    have h : m_67_x7_30 w1_30 = some r := hc7_30 w1_30 hq.symm
    unfold m_67_x7_30 at h
    refine go_iload_n (pc' := 31) rfl rfl rfl ?_
    cases h
    exact go_iret rfl (trivial) ⟨rfl, rfl, rfl, rfl, rfl⟩
  have lo7 : ∀ n s, lp (fun s => m_67_b7 a0 I Rf G s.1 s.2) n s = some q7 → (fun s => ai_Go si_t (20, false, 0, cd_67) (ai_Cl si_t si_ms e) (sp_Q (some (.inl r)) I J Rf G) 7 [some (.inr (.inr a0)), some (.inl s.1), some (.inl s.2)] [] (0, 0) I J Rf G) s := lp_go (fun s x7 hx hk7 => by
    obtain ⟨v1_7, v2_7⟩ := s
    have h : m_67_b7 a0 I Rf G v1_7 v2_7 = some x7 := hx
    clear hx
    show ai_Go si_t (20, false, 0, cd_67) (ai_Cl si_t si_ms e) (sp_Q (some (.inl r)) I J Rf G) 7 [some (.inr (.inr a0)), some (.inl v1_7), some (.inl v2_7)] [] (0, 0) I J Rf G
    unfold m_67_b7 at h
    refine go_iload_n (pc' := 8) rfl rfl rfl ?_
    refine go_aload_n (pc' := 9) rfl rfl rfl ?_
    refine go_getI (pc' := 12) rfl rfl (by decide) (by decide) (o_kdE g0) rfl ?_
    refine go_icmp_ge (pt := 30) (pc' := 15) rfl rfl rfl (fun h12 => ?_) (fun h12 => ?_)
    · replace h := o_t h12 h
      exact ex7_30 _ (some (.inl v2_7)) (lp_exitE h hk7)
    · replace h := o_f h12 h
      refine go_iload_n (pc' := 16) rfl rfl rfl ?_
      refine go_aload_n (pc' := 17) rfl rfl rfl ?_
      refine go_getR (pc' := 20) rfl rfl (o_kdE g0) rfl ?_
      refine go_iload_n (pc' := 21) rfl rfl rfl ?_
      obtain ⟨g1, h⟩ := o_gE h
      refine go_iaload (pc' := 22) rfl (o_inK g1) (o_inB g1) rfl ?_
      refine go_iand (pc' := 23) rfl rfl ?_
      obtain ⟨x1_23, ex1_23, h⟩ := o_b1E h
      refine go_ndI ex1_23 ?_
      refine go_istore_n (pc' := 24) (lo' := [some (.inr (.inr a0)), some (.inl x1_23), some (.inl v2_7)]) rfl rfl rfl ?_
      obtain ⟨x2_24, ex2_24, h⟩ := o_b1E h
      refine go_iincE (pc' := 27) rfl rfl (y := (nI 1)) rfl ex2_24 (lo' := [some (.inr (.inr a0)), some (.inl x1_23), some (.inl x2_24)]) rfl rfl ?_
      refine go_goto (pc' := 7) rfl rfl ?_
      exact (lp_backE h hk7 :))
  exact lo7 _ (r_1, (nI 0)) hl7 
def m_68_x4_29 (w1_29 : Int32) : Option (Int32) :=
  some w1_29
def m_68_b4 (a0 : Nat) (I : ai_I) (Rf : ai_R) (G : ai_G) (v1_4 : Int32) (v2_4 : Int32) : Option ((Int32 × Int32) ⊕ Int32) :=
  o_g (o_kd G a0 8) (o_b1 (m_118 a0 I) (fun r_6 => if r_6 ≤ v2_4 then (some (Sum.inr v1_4)) else (o_b1 (m_123 a0 v2_4 I Rf G) (fun r_15 => o_b1 (m_182 r_15) (fun r_18 => o_b1 (some (v1_4 + r_18)) (fun x1_22 => o_b1 (some (v2_4 + (nI 1))) (fun x2_23 => some (Sum.inl (x1_22, x2_23)))))))))
/-- PricedBases$Shape.freeSets(LPricedBases$Valuation;)I -/
def m_68 (a0 : Nat) (I : ai_I) (Rf : ai_R) (G : ai_G) : Option (Int32) :=
  o_s1 (lp (fun s => m_68_b4 a0 I Rf G s.1 s.2) o_N ((nI 0), (nI 0))) (fun t => m_68_x4_29 t)
theorem md_68 {d : Nat} {I : ai_I} {J : ai_J} {Rf : ai_R} {G : ai_G} {a0 : Nat} {r : Int32} (hd : 3 ≤ d) (h : m_68 a0 I Rf G = some r) : ai_Cl si_t si_ms d 68 [.inr (.inr a0)] I J Rf G (some (.inl r)) I J Rf G := by
  obtain ⟨e, rfl⟩ : ∃ e, d = e + 1 := ⟨d - 1, by omega⟩
  unfold m_68 at h
  refine sp_in (lo := [some (.inr (.inr a0)), none, none]) (B := (0, 0)) rfl (Nat.le_of_ble_eq_true rfl) rfl rfl ?_
  refine go_iconst (pc' := 1) (v := (nI 0)) rfl rfl rfl ?_
  refine go_istore_n (pc' := 2) (lo' := [some (.inr (.inr a0)), some (.inl (nI 0)), none]) rfl rfl rfl ?_
  refine go_iconst (pc' := 3) (v := (nI 0)) rfl rfl rfl ?_
  refine go_istore_n (pc' := 4) (lo' := [some (.inr (.inr a0)), some (.inl (nI 0)), some (.inl (nI 0))]) rfl rfl rfl ?_
  obtain ⟨q4, hl4, hc4_29⟩ := o_s1E h
  have ex4_29 : ∀ (w1_29 : Int32) (z2_x29 : Option ai_V), w1_29 = q4 → ai_Go si_t (20, false, 0, cd_68) (ai_Cl si_t si_ms e) (sp_Q (some (.inl r)) I J Rf G) 29 [some (.inr (.inr a0)), some (.inl w1_29), z2_x29] [] (0, 0) I J Rf G := by
    intro w1_29 z2_x29 hq
    have h : m_68_x4_29 w1_29 = some r := hc4_29 w1_29 hq.symm
    unfold m_68_x4_29 at h
    refine go_iload_n (pc' := 30) rfl rfl rfl ?_
    cases h
    exact go_iret rfl (trivial) ⟨rfl, rfl, rfl, rfl, rfl⟩
  have lo4 : ∀ n s, lp (fun s => m_68_b4 a0 I Rf G s.1 s.2) n s = some q4 → (fun s => ai_Go si_t (20, false, 0, cd_68) (ai_Cl si_t si_ms e) (sp_Q (some (.inl r)) I J Rf G) 4 [some (.inr (.inr a0)), some (.inl s.1), some (.inl s.2)] [] (0, 0) I J Rf G) s := lp_go (fun s x4 hx hk4 => by
    obtain ⟨v1_4, v2_4⟩ := s
    have h : m_68_b4 a0 I Rf G v1_4 v2_4 = some x4 := hx
    clear hx
    show ai_Go si_t (20, false, 0, cd_68) (ai_Cl si_t si_ms e) (sp_Q (some (.inl r)) I J Rf G) 4 [some (.inr (.inr a0)), some (.inl v1_4), some (.inl v2_4)] [] (0, 0) I J Rf G
    unfold m_68_b4 at h
    refine go_iload_n (pc' := 5) rfl rfl rfl ?_
    refine go_aload_n (pc' := 6) rfl rfl rfl ?_
    obtain ⟨g0, h⟩ := o_gE h
    obtain ⟨r_6, q_6, h⟩ := o_b1E h
    refine go_callV (pc' := 9) (B' := (0, 0)) (st' := [.inl r_6, .inl v2_4]) rfl rfl (Or.inl (by decide)) rfl rfl (o_kdE g0) (md_118 (by omega) (o_kdE g0) q_6) rfl rfl rfl ?_
    refine go_icmp_ge (pt := 29) (pc' := 12) rfl rfl rfl (fun h9 => ?_) (fun h9 => ?_)
    · replace h := o_t h9 h
      exact ex4_29 _ (some (.inl v2_4)) (lp_exitE h hk4)
    · replace h := o_f h9 h
      refine go_iload_n (pc' := 13) rfl rfl rfl ?_
      refine go_aload_n (pc' := 14) rfl rfl rfl ?_
      refine go_iload_n (pc' := 15) rfl rfl rfl ?_
      obtain ⟨r_15, q_15, h⟩ := o_b1E h
      refine go_callV (pc' := 18) (B' := (0, 0)) (st' := [.inl r_15, .inl v1_4]) rfl rfl (Or.inl (by decide)) rfl rfl (o_kdE g0) (md_123 (by omega) (o_kdE g0) q_15) rfl rfl rfl ?_
      obtain ⟨r_18, q_18, h⟩ := o_b1E h
      refine go_callS (pc' := 21) (B' := (0, 0)) (st' := [.inl r_18, .inl v1_4]) rfl rfl (Or.inl (by decide)) rfl rfl trivial (md_182 (by omega) q_18) rfl rfl rfl ?_
      refine go_iadd (pc' := 22) rfl rfl ?_
      obtain ⟨x1_22, ex1_22, h⟩ := o_b1E h
      refine go_ndI ex1_22 ?_
      refine go_istore_n (pc' := 23) (lo' := [some (.inr (.inr a0)), some (.inl x1_22), some (.inl v2_4)]) rfl rfl rfl ?_
      obtain ⟨x2_23, ex2_23, h⟩ := o_b1E h
      refine go_iincE (pc' := 26) rfl rfl (y := (nI 1)) rfl ex2_23 (lo' := [some (.inr (.inr a0)), some (.inl x1_22), some (.inl x2_23)]) rfl rfl ?_
      refine go_goto (pc' := 4) rfl rfl ?_
      exact (lp_backE h hk4 :))
  exact lo4 _ ((nI 0), (nI 0)) hl4 
def m_69_x4_45 (w2_45 : Int32) : Option (Int32) :=
  some w2_45
def m_69_j34 (v2_4 : Int32) (v3_4 : Int32) (t1_34 : Int32) : Option ((Int32 × Int32) ⊕ Int32) :=
  o_b1 (m_182 t1_34) (fun r_34 => o_b1 (some (v2_4 + r_34)) (fun x2_38 => o_b1 (some (v3_4 + (nI 1))) (fun x3_39 => some (Sum.inl (x2_38, x3_39)))))
def m_69_j33 (v2_4 : Int32) (v3_4 : Int32) : Option ((Int32 × Int32) ⊕ Int32) :=
  m_69_j34 v2_4 v3_4 (nI 0)
def m_69_b4 (a0 : Nat) (a1 : Int32) (I : ai_I) (Rf : ai_R) (G : ai_G) (v2_4 : Int32) (v3_4 : Int32) : Option ((Int32 × Int32) ⊕ Int32) :=
  o_g (o_kd G a0 8) (o_b1 (m_118 a0 I) (fun r_6 => if r_6 ≤ v3_4 then (some (Sum.inr v2_4)) else (o_b1 (m_331 v3_4) (fun r_14 => if r_14 = a1 then (o_b1 (m_123 a0 v3_4 I Rf G) (fun r_23 => if r_23 = 0 then (m_69_j33 v2_4 v3_4) else (m_69_j34 v2_4 v3_4 (nI 1)))) else (m_69_j33 v2_4 v3_4)))))
/-- PricedBases$Shape.freeSized(LPricedBases$Valuation;I)I -/
def m_69 (a0 : Nat) (a1 : Int32) (I : ai_I) (Rf : ai_R) (G : ai_G) : Option (Int32) :=
  o_s1 (lp (fun s => m_69_b4 a0 a1 I Rf G s.1 s.2) o_N ((nI 0), (nI 0))) (fun t => m_69_x4_45 t)
theorem md_69 {d : Nat} {I : ai_I} {J : ai_J} {Rf : ai_R} {G : ai_G} {a0 : Nat} {a1 : Int32} {r : Int32} (hd : 3 ≤ d) (h : m_69 a0 a1 I Rf G = some r) : ai_Cl si_t si_ms d 69 [.inr (.inr a0), .inl a1] I J Rf G (some (.inl r)) I J Rf G := by
  obtain ⟨e, rfl⟩ : ∃ e, d = e + 1 := ⟨d - 1, by omega⟩
  unfold m_69 at h
  refine sp_in (lo := [some (.inr (.inr a0)), some (.inl a1), none, none]) (B := (0, 0)) rfl (Nat.le_of_ble_eq_true rfl) rfl rfl ?_
  refine go_iconst (pc' := 1) (v := (nI 0)) rfl rfl rfl ?_
  refine go_istore_n (pc' := 2) (lo' := [some (.inr (.inr a0)), some (.inl a1), some (.inl (nI 0)), none]) rfl rfl rfl ?_
  refine go_iconst (pc' := 3) (v := (nI 0)) rfl rfl rfl ?_
  refine go_istore_n (pc' := 4) (lo' := [some (.inr (.inr a0)), some (.inl a1), some (.inl (nI 0)), some (.inl (nI 0))]) rfl rfl rfl ?_
  obtain ⟨q4, hl4, hc4_45⟩ := o_s1E h
  have ex4_45 : ∀ (w2_45 : Int32) (z3_x45 : Option ai_V), w2_45 = q4 → ai_Go si_t (20, false, 0, cd_69) (ai_Cl si_t si_ms e) (sp_Q (some (.inl r)) I J Rf G) 45 [some (.inr (.inr a0)), some (.inl a1), some (.inl w2_45), z3_x45] [] (0, 0) I J Rf G := by
    intro w2_45 z3_x45 hq
    have h : m_69_x4_45 w2_45 = some r := hc4_45 w2_45 hq.symm
    unfold m_69_x4_45 at h
    refine go_iload_n (pc' := 46) rfl rfl rfl ?_
    cases h
    exact go_iret rfl (trivial) ⟨rfl, rfl, rfl, rfl, rfl⟩
  have lo4 : ∀ n s, lp (fun s => m_69_b4 a0 a1 I Rf G s.1 s.2) n s = some q4 → (fun s => ai_Go si_t (20, false, 0, cd_69) (ai_Cl si_t si_ms e) (sp_Q (some (.inl r)) I J Rf G) 4 [some (.inr (.inr a0)), some (.inl a1), some (.inl s.1), some (.inl s.2)] [] (0, 0) I J Rf G) s := lp_go (fun s x4 hx hk4 => by
    obtain ⟨v2_4, v3_4⟩ := s
    have h : m_69_b4 a0 a1 I Rf G v2_4 v3_4 = some x4 := hx
    clear hx
    show ai_Go si_t (20, false, 0, cd_69) (ai_Cl si_t si_ms e) (sp_Q (some (.inl r)) I J Rf G) 4 [some (.inr (.inr a0)), some (.inl a1), some (.inl v2_4), some (.inl v3_4)] [] (0, 0) I J Rf G
    unfold m_69_b4 at h
    refine go_iload_n (pc' := 5) rfl rfl rfl ?_
    refine go_aload_n (pc' := 6) rfl rfl rfl ?_
    obtain ⟨g0, h⟩ := o_gE h
    obtain ⟨r_6, q_6, h⟩ := o_b1E h
    refine go_callV (pc' := 9) (B' := (0, 0)) (st' := [.inl r_6, .inl v3_4]) rfl rfl (Or.inl (by decide)) rfl rfl (o_kdE g0) (md_118 (by omega) (o_kdE g0) q_6) rfl rfl rfl ?_
    refine go_icmp_ge (pt := 45) (pc' := 12) rfl rfl rfl (fun h9 => ?_) (fun h9 => ?_)
    · replace h := o_t h9 h
      exact ex4_45 _ (some (.inl v3_4)) (lp_exitE h hk4)
    · replace h := o_f h9 h
      refine go_iload_n (pc' := 13) rfl rfl rfl ?_
      refine go_iload_n (pc' := 14) rfl rfl rfl ?_
      obtain ⟨r_14, q_14, h⟩ := o_b1E h
      refine go_callS (pc' := 17) (B' := (0, 0)) (st' := [.inl r_14, .inl v2_4]) rfl rfl (Or.inl (by decide)) rfl rfl trivial (md_331 (by omega) q_14) rfl rfl rfl ?_
      refine go_iload_n (pc' := 18) rfl rfl rfl ?_
      have jn34 : ∀ (t1_34 : Int32), m_69_j34 v2_4 v3_4 t1_34 = some x4 → ai_Go si_t (20, false, 0, cd_69) (ai_Cl si_t si_ms e) (sp_Q (some (.inl r)) I J Rf G) 34 [some (.inr (.inr a0)), some (.inl a1), some (.inl v2_4), some (.inl v3_4)] [.inl t1_34, .inl v2_4] (0, 0) I J Rf G := by
        intro t1_34 h
        unfold m_69_j34 at h
        obtain ⟨r_34, q_34, h⟩ := o_b1E h
        refine go_callS (pc' := 37) (B' := (0, 0)) (st' := [.inl r_34, .inl v2_4]) rfl rfl (Or.inl (by decide)) rfl rfl trivial (md_182 (by omega) q_34) rfl rfl rfl ?_
        refine go_iadd (pc' := 38) rfl rfl ?_
        obtain ⟨x2_38, ex2_38, h⟩ := o_b1E h
        refine go_ndI ex2_38 ?_
        refine go_istore_n (pc' := 39) (lo' := [some (.inr (.inr a0)), some (.inl a1), some (.inl x2_38), some (.inl v3_4)]) rfl rfl rfl ?_
        obtain ⟨x3_39, ex3_39, h⟩ := o_b1E h
        refine go_iincE (pc' := 42) rfl rfl (y := (nI 1)) rfl ex3_39 (lo' := [some (.inr (.inr a0)), some (.inl a1), some (.inl x2_38), some (.inl x3_39)]) rfl rfl ?_
        refine go_goto (pc' := 4) rfl rfl ?_
        exact (lp_backE h hk4 :)
      have jn33 : m_69_j33 v2_4 v3_4 = some x4 → ai_Go si_t (20, false, 0, cd_69) (ai_Cl si_t si_ms e) (sp_Q (some (.inl r)) I J Rf G) 33 [some (.inr (.inr a0)), some (.inl a1), some (.inl v2_4), some (.inl v3_4)] [.inl v2_4] (0, 0) I J Rf G := by
        intro h
        unfold m_69_j33 at h
        refine go_iconst (pc' := 34) (v := (nI 0)) rfl rfl rfl ?_
        exact jn34 (nI 0) h
      refine go_icmp_ne (pt := 33) (pc' := 21) rfl rfl rfl (fun h18 => ?_) (fun h18 => ?_)
      · replace h := o_f h18 h
        exact jn33  h
      · replace h := o_t (Decidable.of_not_not h18) h
        refine go_aload_n (pc' := 22) rfl rfl rfl ?_
        refine go_iload_n (pc' := 23) rfl rfl rfl ?_
        obtain ⟨r_23, q_23, h⟩ := o_b1E h
        refine go_callV (pc' := 26) (B' := (0, 0)) (st' := [.inl r_23, .inl v2_4]) rfl rfl (Or.inl (by decide)) rfl rfl (o_kdE g0) (md_123 (by omega) (o_kdE g0) q_23) rfl rfl rfl ?_
        refine go_if_eq (pt := 33) (pc' := 29) rfl rfl rfl (fun h26 => ?_) (fun h26 => ?_)
        · replace h := o_t h26 h
          exact jn33  h
        · replace h := o_f h26 h
          refine go_iconst (pc' := 30) (v := (nI 1)) rfl rfl rfl ?_
          refine go_goto (pc' := 34) rfl rfl ?_
          exact jn34 (nI 1) h)
  exact lo4 _ ((nI 0), (nI 0)) hl4 
def m_70_x4_43 (w2_43 : Int32) : Option (Int32) :=
  some w2_43
def m_70_b4 (a0 : Nat) (a1 : Int32) (I : ai_I) (Rf : ai_R) (G : ai_G) (v2_4 : Int32) (v3_4 : Int32) : Option ((Int32 × Int32) ⊕ Int32) :=
  o_g (o_kd G a0 8) (if (I a0 0) ≤ v3_4 then (some (Sum.inr v2_4)) else (o_g (o_in G 13 (Rf a0 4) (a1 ||| ((nI 1) <<< (v3_4 &&& 31)))) (o_g (o_in G 13 (Rf a0 4) a1) (if (I (Rf a0 4) (a1 ||| ((nI 1) <<< (v3_4 &&& 31))).toNatClampNeg) = (I (Rf a0 4) a1.toNatClampNeg) then (o_b1 (some (v2_4 ||| ((nI 1) <<< (v3_4 &&& 31)))) (fun x2_36 => o_b1 (some (v3_4 + (nI 1))) (fun x3_37 => some (Sum.inl (x2_36, x3_37))))) else (o_b1 (some (v3_4 + (nI 1))) (fun x3_37 => some (Sum.inl (v2_4, x3_37))))))))
/-- PricedBases$Shape.closed(LPricedBases$Valuation;I)I -/
def m_70 (a0 : Nat) (a1 : Int32) (I : ai_I) (Rf : ai_R) (G : ai_G) : Option (Int32) :=
  o_s1 (lp (fun s => m_70_b4 a0 a1 I Rf G s.1 s.2) o_N (a1, (nI 0))) (fun t => m_70_x4_43 t)
theorem md_70 {d : Nat} {I : ai_I} {J : ai_J} {Rf : ai_R} {G : ai_G} {a0 : Nat} {a1 : Int32} {r : Int32} (hd : 1 ≤ d) (h : m_70 a0 a1 I Rf G = some r) : ai_Cl si_t si_ms d 70 [.inr (.inr a0), .inl a1] I J Rf G (some (.inl r)) I J Rf G := by
  obtain ⟨e, rfl⟩ : ∃ e, d = e + 1 := ⟨d - 1, by omega⟩
  unfold m_70 at h
  refine sp_in (lo := [some (.inr (.inr a0)), some (.inl a1), none, none]) (B := (0, 0)) rfl (Nat.le_of_ble_eq_true rfl) rfl rfl ?_
  refine go_iload_n (pc' := 1) rfl rfl rfl ?_
  refine go_istore_n (pc' := 2) (lo' := [some (.inr (.inr a0)), some (.inl a1), some (.inl a1), none]) rfl rfl rfl ?_
  refine go_iconst (pc' := 3) (v := (nI 0)) rfl rfl rfl ?_
  refine go_istore_n (pc' := 4) (lo' := [some (.inr (.inr a0)), some (.inl a1), some (.inl a1), some (.inl (nI 0))]) rfl rfl rfl ?_
  obtain ⟨q4, hl4, hc4_43⟩ := o_s1E h
  have ex4_43 : ∀ (w2_43 : Int32) (z3_x43 : Option ai_V), w2_43 = q4 → ai_Go si_t (20, false, 0, cd_70) (ai_Cl si_t si_ms e) (sp_Q (some (.inl r)) I J Rf G) 43 [some (.inr (.inr a0)), some (.inl a1), some (.inl w2_43), z3_x43] [] (0, 0) I J Rf G := by
    intro w2_43 z3_x43 hq
    have h : m_70_x4_43 w2_43 = some r := hc4_43 w2_43 hq.symm
    unfold m_70_x4_43 at h
    refine go_iload_n (pc' := 44) rfl rfl rfl ?_
    cases h
    exact go_iret rfl (trivial) ⟨rfl, rfl, rfl, rfl, rfl⟩
  have lo4 : ∀ n s, lp (fun s => m_70_b4 a0 a1 I Rf G s.1 s.2) n s = some q4 → (fun s => ai_Go si_t (20, false, 0, cd_70) (ai_Cl si_t si_ms e) (sp_Q (some (.inl r)) I J Rf G) 4 [some (.inr (.inr a0)), some (.inl a1), some (.inl s.1), some (.inl s.2)] [] (0, 0) I J Rf G) s := lp_go (fun s x4 hx hk4 => by
    obtain ⟨v2_4, v3_4⟩ := s
    have h : m_70_b4 a0 a1 I Rf G v2_4 v3_4 = some x4 := hx
    clear hx
    show ai_Go si_t (20, false, 0, cd_70) (ai_Cl si_t si_ms e) (sp_Q (some (.inl r)) I J Rf G) 4 [some (.inr (.inr a0)), some (.inl a1), some (.inl v2_4), some (.inl v3_4)] [] (0, 0) I J Rf G
    unfold m_70_b4 at h
    refine go_iload_n (pc' := 5) rfl rfl rfl ?_
    refine go_aload_n (pc' := 6) rfl rfl rfl ?_
    obtain ⟨g0, h⟩ := o_gE h
    refine go_getI (pc' := 9) rfl rfl (by decide) (by decide) (o_kdE g0) rfl ?_
    refine go_icmp_ge (pt := 43) (pc' := 12) rfl rfl rfl (fun h9 => ?_) (fun h9 => ?_)
    · replace h := o_t h9 h
      exact ex4_43 _ (some (.inl v3_4)) (lp_exitE h hk4)
    · replace h := o_f h9 h
      refine go_aload_n (pc' := 13) rfl rfl rfl ?_
      refine go_getR (pc' := 16) rfl rfl (o_kdE g0) rfl ?_
      refine go_iload_n (pc' := 17) rfl rfl rfl ?_
      refine go_iconst (pc' := 18) (v := (nI 1)) rfl rfl rfl ?_
      refine go_iload_n (pc' := 19) rfl rfl rfl ?_
      refine go_ishl (pc' := 20) rfl rfl ?_
      refine go_ior (pc' := 21) rfl rfl ?_
      obtain ⟨g1, h⟩ := o_gE h
      refine go_iaload (pc' := 22) rfl (o_inK g1) (o_inB g1) rfl ?_
      refine go_aload_n (pc' := 23) rfl rfl rfl ?_
      refine go_getR (pc' := 26) rfl rfl (o_kdE g0) rfl ?_
      refine go_iload_n (pc' := 27) rfl rfl rfl ?_
      obtain ⟨g2, h⟩ := o_gE h
      refine go_iaload (pc' := 28) rfl (o_inK g2) (o_inB g2) rfl ?_
      refine go_icmp_ne (pt := 37) (pc' := 31) rfl rfl rfl (fun h28 => ?_) (fun h28 => ?_)
      · replace h := o_f h28 h
        obtain ⟨x3_37, ex3_37, h⟩ := o_b1E h
        refine go_iincE (pc' := 40) rfl rfl (y := (nI 1)) rfl ex3_37 (lo' := [some (.inr (.inr a0)), some (.inl a1), some (.inl v2_4), some (.inl x3_37)]) rfl rfl ?_
        refine go_goto (pc' := 4) rfl rfl ?_
        exact (lp_backE h hk4 :)
      · replace h := o_t (Decidable.of_not_not h28) h
        refine go_iload_n (pc' := 32) rfl rfl rfl ?_
        refine go_iconst (pc' := 33) (v := (nI 1)) rfl rfl rfl ?_
        refine go_iload_n (pc' := 34) rfl rfl rfl ?_
        refine go_ishl (pc' := 35) rfl rfl ?_
        refine go_ior (pc' := 36) rfl rfl ?_
        obtain ⟨x2_36, ex2_36, h⟩ := o_b1E h
        refine go_ndI ex2_36 ?_
        refine go_istore_n (pc' := 37) (lo' := [some (.inr (.inr a0)), some (.inl a1), some (.inl x2_36), some (.inl v3_4)]) rfl rfl rfl ?_
        obtain ⟨x3_37, ex3_37, h⟩ := o_b1E h
        refine go_iincE (pc' := 40) rfl rfl (y := (nI 1)) rfl ex3_37 (lo' := [some (.inr (.inr a0)), some (.inl a1), some (.inl x2_36), some (.inl x3_37)]) rfl rfl ?_
        refine go_goto (pc' := 4) rfl rfl ?_
        exact (lp_backE h hk4 :))
  exact lo4 _ (a1, (nI 0)) hl4 
def m_71_x4_38 (w1_38 : Int32) : Option (Int32) :=
  some w1_38
def m_71_j27 (v1_4 : Int32) (v2_4 : Int32) (t1_27 : Int32) : Option ((Int32 × Int32) ⊕ Int32) :=
  o_b1 (m_182 t1_27) (fun r_27 => o_b1 (some (v1_4 + r_27)) (fun x1_31 => o_b1 (some (v2_4 + (nI 1))) (fun x2_32 => some (Sum.inl (x1_31, x2_32)))))
def m_71_b4 (a0 : Nat) (I : ai_I) (Rf : ai_R) (G : ai_G) (v1_4 : Int32) (v2_4 : Int32) : Option ((Int32 × Int32) ⊕ Int32) :=
  o_g (o_kd G a0 8) (o_b1 (m_118 a0 I) (fun r_6 => if r_6 ≤ v2_4 then (some (Sum.inr v1_4)) else (o_b1 (m_70 a0 v2_4 I Rf G) (fun r_15 => if r_15 = v2_4 then (m_71_j27 v1_4 v2_4 (nI 1)) else (m_71_j27 v1_4 v2_4 (nI 0))))))
/-- PricedBases$Shape.flats(LPricedBases$Valuation;)I -/
def m_71 (a0 : Nat) (I : ai_I) (Rf : ai_R) (G : ai_G) : Option (Int32) :=
  o_s1 (lp (fun s => m_71_b4 a0 I Rf G s.1 s.2) o_N ((nI 0), (nI 0))) (fun t => m_71_x4_38 t)
theorem md_71 {d : Nat} {I : ai_I} {J : ai_J} {Rf : ai_R} {G : ai_G} {a0 : Nat} {r : Int32} (hd : 2 ≤ d) (h : m_71 a0 I Rf G = some r) : ai_Cl si_t si_ms d 71 [.inr (.inr a0)] I J Rf G (some (.inl r)) I J Rf G := by
  obtain ⟨e, rfl⟩ : ∃ e, d = e + 1 := ⟨d - 1, by omega⟩
  unfold m_71 at h
  refine sp_in (lo := [some (.inr (.inr a0)), none, none]) (B := (0, 0)) rfl (Nat.le_of_ble_eq_true rfl) rfl rfl ?_
  refine go_iconst (pc' := 1) (v := (nI 0)) rfl rfl rfl ?_
  refine go_istore_n (pc' := 2) (lo' := [some (.inr (.inr a0)), some (.inl (nI 0)), none]) rfl rfl rfl ?_
  refine go_iconst (pc' := 3) (v := (nI 0)) rfl rfl rfl ?_
  refine go_istore_n (pc' := 4) (lo' := [some (.inr (.inr a0)), some (.inl (nI 0)), some (.inl (nI 0))]) rfl rfl rfl ?_
  obtain ⟨q4, hl4, hc4_38⟩ := o_s1E h
  have ex4_38 : ∀ (w1_38 : Int32) (z2_x38 : Option ai_V), w1_38 = q4 → ai_Go si_t (20, false, 0, cd_71) (ai_Cl si_t si_ms e) (sp_Q (some (.inl r)) I J Rf G) 38 [some (.inr (.inr a0)), some (.inl w1_38), z2_x38] [] (0, 0) I J Rf G := by
    intro w1_38 z2_x38 hq
    have h : m_71_x4_38 w1_38 = some r := hc4_38 w1_38 hq.symm
    unfold m_71_x4_38 at h
    refine go_iload_n (pc' := 39) rfl rfl rfl ?_
    cases h
    exact go_iret rfl (trivial) ⟨rfl, rfl, rfl, rfl, rfl⟩
  have lo4 : ∀ n s, lp (fun s => m_71_b4 a0 I Rf G s.1 s.2) n s = some q4 → (fun s => ai_Go si_t (20, false, 0, cd_71) (ai_Cl si_t si_ms e) (sp_Q (some (.inl r)) I J Rf G) 4 [some (.inr (.inr a0)), some (.inl s.1), some (.inl s.2)] [] (0, 0) I J Rf G) s := lp_go (fun s x4 hx hk4 => by
    obtain ⟨v1_4, v2_4⟩ := s
    have h : m_71_b4 a0 I Rf G v1_4 v2_4 = some x4 := hx
    clear hx
    show ai_Go si_t (20, false, 0, cd_71) (ai_Cl si_t si_ms e) (sp_Q (some (.inl r)) I J Rf G) 4 [some (.inr (.inr a0)), some (.inl v1_4), some (.inl v2_4)] [] (0, 0) I J Rf G
    unfold m_71_b4 at h
    refine go_iload_n (pc' := 5) rfl rfl rfl ?_
    refine go_aload_n (pc' := 6) rfl rfl rfl ?_
    obtain ⟨g0, h⟩ := o_gE h
    obtain ⟨r_6, q_6, h⟩ := o_b1E h
    refine go_callV (pc' := 9) (B' := (0, 0)) (st' := [.inl r_6, .inl v2_4]) rfl rfl (Or.inl (by decide)) rfl rfl (o_kdE g0) (md_118 (by omega) (o_kdE g0) q_6) rfl rfl rfl ?_
    refine go_icmp_ge (pt := 38) (pc' := 12) rfl rfl rfl (fun h9 => ?_) (fun h9 => ?_)
    · replace h := o_t h9 h
      exact ex4_38 _ (some (.inl v2_4)) (lp_exitE h hk4)
    · replace h := o_f h9 h
      refine go_iload_n (pc' := 13) rfl rfl rfl ?_
      refine go_aload_n (pc' := 14) rfl rfl rfl ?_
      refine go_iload_n (pc' := 15) rfl rfl rfl ?_
      obtain ⟨r_15, q_15, h⟩ := o_b1E h
      refine go_callS (pc' := 18) (B' := (0, 0)) (st' := [.inl r_15, .inl v1_4]) rfl rfl (Or.inl (by decide)) rfl rfl trivial (md_70 (by omega) q_15) rfl rfl rfl ?_
      refine go_iload_n (pc' := 19) rfl rfl rfl ?_
      have jn27 : ∀ (t1_27 : Int32), m_71_j27 v1_4 v2_4 t1_27 = some x4 → ai_Go si_t (20, false, 0, cd_71) (ai_Cl si_t si_ms e) (sp_Q (some (.inl r)) I J Rf G) 27 [some (.inr (.inr a0)), some (.inl v1_4), some (.inl v2_4)] [.inl t1_27, .inl v1_4] (0, 0) I J Rf G := by
        intro t1_27 h
        unfold m_71_j27 at h
        obtain ⟨r_27, q_27, h⟩ := o_b1E h
        refine go_callS (pc' := 30) (B' := (0, 0)) (st' := [.inl r_27, .inl v1_4]) rfl rfl (Or.inl (by decide)) rfl rfl trivial (md_182 (by omega) q_27) rfl rfl rfl ?_
        refine go_iadd (pc' := 31) rfl rfl ?_
        obtain ⟨x1_31, ex1_31, h⟩ := o_b1E h
        refine go_ndI ex1_31 ?_
        refine go_istore_n (pc' := 32) (lo' := [some (.inr (.inr a0)), some (.inl x1_31), some (.inl v2_4)]) rfl rfl rfl ?_
        obtain ⟨x2_32, ex2_32, h⟩ := o_b1E h
        refine go_iincE (pc' := 35) rfl rfl (y := (nI 1)) rfl ex2_32 (lo' := [some (.inr (.inr a0)), some (.inl x1_31), some (.inl x2_32)]) rfl rfl ?_
        refine go_goto (pc' := 4) rfl rfl ?_
        exact (lp_backE h hk4 :)
      refine go_icmp_ne (pt := 26) (pc' := 22) rfl rfl rfl (fun h19 => ?_) (fun h19 => ?_)
      · replace h := o_f h19 h
        refine go_iconst (pc' := 27) (v := (nI 0)) rfl rfl rfl ?_
        exact jn27 (nI 0) h
      · replace h := o_t (Decidable.of_not_not h19) h
        refine go_iconst (pc' := 23) (v := (nI 1)) rfl rfl rfl ?_
        refine go_goto (pc' := 27) rfl rfl ?_
        exact jn27 (nI 1) h)
  exact lo4 _ ((nI 0), (nI 0)) hl4 
def m_72_x2_28 : Option (Int32) :=
  some (nI 0)
def m_72_x2_36 : Option (Int32) :=
  some (nI 1)
def m_72_b2 (a0 : Nat) (a1 : Nat) (I : ai_I) (Rf : ai_R) (G : ai_G) (v2_2 : Int32) : Option (Int32 ⊕ (Unit ⊕ Unit)) :=
  o_g (o_kd G a1 8) (o_b1 (m_118 a1 I) (fun r_4 => if r_4 ≤ v2_2 then (some (Sum.inr (Sum.inr ()))) else (o_b1 (m_70 a1 v2_2 I Rf G) (fun r_12 => if r_12 = v2_2 then (o_b1 (m_70 a0 v2_2 I Rf G) (fun r_21 => if r_21 = v2_2 then (o_b1 (some (v2_2 + (nI 1))) (fun x2_30 => some (Sum.inl x2_30))) else (some (Sum.inr (Sum.inl ()))))) else (o_b1 (some (v2_2 + (nI 1))) (fun x2_30 => some (Sum.inl x2_30)))))))
/-- PricedBases$Shape.hasFlatsOf(LPricedBases$Valuation;LPricedBases$Valuation;)Z -/
def m_72 (a0 : Nat) (a1 : Nat) (I : ai_I) (Rf : ai_R) (G : ai_G) : Option (Int32) :=
  o_s2 (lp (fun s => m_72_b2 a0 a1 I Rf G s) o_N (nI 0)) (fun t => m_72_x2_28) (fun t => m_72_x2_36)
theorem md_72 {d : Nat} {I : ai_I} {J : ai_J} {Rf : ai_R} {G : ai_G} {a0 : Nat} {a1 : Nat} {r : Int32} (hd : 2 ≤ d) (h : m_72 a0 a1 I Rf G = some r) : ai_Cl si_t si_ms d 72 [.inr (.inr a0), .inr (.inr a1)] I J Rf G (some (.inl r)) I J Rf G := by
  obtain ⟨e, rfl⟩ : ∃ e, d = e + 1 := ⟨d - 1, by omega⟩
  unfold m_72 at h
  refine sp_in (lo := [some (.inr (.inr a0)), some (.inr (.inr a1)), none]) (B := (0, 0)) rfl (Nat.le_of_ble_eq_true rfl) rfl rfl ?_
  refine go_iconst (pc' := 1) (v := (nI 0)) rfl rfl rfl ?_
  refine go_istore_n (pc' := 2) (lo' := [some (.inr (.inr a0)), some (.inr (.inr a1)), some (.inl (nI 0))]) rfl rfl rfl ?_
  obtain ⟨q2, hl2, hc2_28, hc2_36⟩ := o_s2E h
  have ex2_28 : ∀ (z2_x28 : Option ai_V), (Sum.inl ()) = q2 → ai_Go si_t (20, false, 3, cd_72) (ai_Cl si_t si_ms e) (sp_Q (some (.inl r)) I J Rf G) 28 [some (.inr (.inr a0)), some (.inr (.inr a1)), z2_x28] [] (0, 0) I J Rf G := by
    intro z2_x28 hq
    have h : m_72_x2_28 = some r := hc2_28 () hq.symm
    unfold m_72_x2_28 at h
    refine go_iconst (pc' := 29) (v := (nI 0)) rfl rfl rfl ?_
    cases h
    exact go_iret rfl (rfl) ⟨rfl, rfl, rfl, rfl, rfl⟩
  have ex2_36 : ∀ (z2_x36 : Option ai_V), (Sum.inr ()) = q2 → ai_Go si_t (20, false, 3, cd_72) (ai_Cl si_t si_ms e) (sp_Q (some (.inl r)) I J Rf G) 36 [some (.inr (.inr a0)), some (.inr (.inr a1)), z2_x36] [] (0, 0) I J Rf G := by
    intro z2_x36 hq
    have h : m_72_x2_36 = some r := hc2_36 () hq.symm
    unfold m_72_x2_36 at h
    refine go_iconst (pc' := 37) (v := (nI 1)) rfl rfl rfl ?_
    cases h
    exact go_iret rfl (rfl) ⟨rfl, rfl, rfl, rfl, rfl⟩
  have lo2 : ∀ n s, lp (fun s => m_72_b2 a0 a1 I Rf G s) n s = some q2 → (fun s => ai_Go si_t (20, false, 3, cd_72) (ai_Cl si_t si_ms e) (sp_Q (some (.inl r)) I J Rf G) 2 [some (.inr (.inr a0)), some (.inr (.inr a1)), some (.inl s)] [] (0, 0) I J Rf G) s := lp_go (fun s x2 hx hk2 => by
    revert s; intro v2_2 hx
    have h : m_72_b2 a0 a1 I Rf G v2_2 = some x2 := hx
    clear hx
    show ai_Go si_t (20, false, 3, cd_72) (ai_Cl si_t si_ms e) (sp_Q (some (.inl r)) I J Rf G) 2 [some (.inr (.inr a0)), some (.inr (.inr a1)), some (.inl v2_2)] [] (0, 0) I J Rf G
    unfold m_72_b2 at h
    refine go_iload_n (pc' := 3) rfl rfl rfl ?_
    refine go_aload_n (pc' := 4) rfl rfl rfl ?_
    obtain ⟨g0, h⟩ := o_gE h
    obtain ⟨r_4, q_4, h⟩ := o_b1E h
    refine go_callV (pc' := 7) (B' := (0, 0)) (st' := [.inl r_4, .inl v2_2]) rfl rfl (Or.inl (by decide)) rfl rfl (o_kdE g0) (md_118 (by omega) (o_kdE g0) q_4) rfl rfl rfl ?_
    refine go_icmp_ge (pt := 36) (pc' := 10) rfl rfl rfl (fun h7 => ?_) (fun h7 => ?_)
    · replace h := o_t h7 h
      exact ex2_36  (some (.inl v2_2)) (lp_exitE h hk2)
    · replace h := o_f h7 h
      refine go_aload_n (pc' := 11) rfl rfl rfl ?_
      refine go_iload_n (pc' := 12) rfl rfl rfl ?_
      obtain ⟨r_12, q_12, h⟩ := o_b1E h
      refine go_callS (pc' := 15) (B' := (0, 0)) (st' := [.inl r_12]) rfl rfl (Or.inl (by decide)) rfl rfl trivial (md_70 (by omega) q_12) rfl rfl rfl ?_
      refine go_iload_n (pc' := 16) rfl rfl rfl ?_
      refine go_icmp_ne (pt := 30) (pc' := 19) rfl rfl rfl (fun h16 => ?_) (fun h16 => ?_)
      · replace h := o_f h16 h
        obtain ⟨x2_30, ex2_30, h⟩ := o_b1E h
        refine go_iincE (pc' := 33) rfl rfl (y := (nI 1)) rfl ex2_30 (lo' := [some (.inr (.inr a0)), some (.inr (.inr a1)), some (.inl x2_30)]) rfl rfl ?_
        refine go_goto (pc' := 2) rfl rfl ?_
        exact (lp_backE h hk2 :)
      · replace h := o_t (Decidable.of_not_not h16) h
        refine go_aload_n (pc' := 20) rfl rfl rfl ?_
        refine go_iload_n (pc' := 21) rfl rfl rfl ?_
        obtain ⟨r_21, q_21, h⟩ := o_b1E h
        refine go_callS (pc' := 24) (B' := (0, 0)) (st' := [.inl r_21]) rfl rfl (Or.inl (by decide)) rfl rfl trivial (md_70 (by omega) q_21) rfl rfl rfl ?_
        refine go_iload_n (pc' := 25) rfl rfl rfl ?_
        refine go_icmp_eq (pt := 30) (pc' := 28) rfl rfl rfl (fun h25 => ?_) (fun h25 => ?_)
        · replace h := o_t h25 h
          obtain ⟨x2_30, ex2_30, h⟩ := o_b1E h
          refine go_iincE (pc' := 33) rfl rfl (y := (nI 1)) rfl ex2_30 (lo' := [some (.inr (.inr a0)), some (.inr (.inr a1)), some (.inl x2_30)]) rfl rfl ?_
          refine go_goto (pc' := 2) rfl rfl ?_
          exact (lp_backE h hk2 :)
        · replace h := o_f h25 h
          exact ex2_28  (some (.inl v2_2)) (lp_exitE h hk2))
  exact lo2 _ (nI 0) hl2 
def m_73_x12_40 : Option (Int32) :=
  some (nI 0)
def m_73_x12_48 : Option (Int32) :=
  some (nI 1)
def m_73_b12 (a0 : Nat) (a1 : Int32) (I : ai_I) (Rf : ai_R) (G : ai_G) (v2_12 : Int32) : Option (Int32 ⊕ (Unit ⊕ Unit)) :=
  if (I a0 0) ≤ v2_12 then (some (Sum.inr (Sum.inr ()))) else (o_b1 (m_183 a1 v2_12) (fun r_22 => if r_22 = 0 then (o_b1 (some (v2_12 + (nI 1))) (fun x2_42 => some (Sum.inl x2_42))) else (o_b1 (m_123 a0 (a1 ^^^ ((nI 1) <<< (v2_12 &&& 31))) I Rf G) (fun r_34 => if r_34 = 0 then (some (Sum.inr (Sum.inl ()))) else (o_b1 (some (v2_12 + (nI 1))) (fun x2_42 => some (Sum.inl x2_42)))))))
/-- PricedBases$Shape.isCircuit(LPricedBases$Valuation;I)Z -/
def m_73 (a0 : Nat) (a1 : Int32) (I : ai_I) (Rf : ai_R) (G : ai_G) : Option (Int32) :=
  o_g (o_kd G a0 8) (o_b1 (m_123 a0 a1 I Rf G) (fun r_2 => if r_2 = 0 then (o_s2 (lp (fun s => m_73_b12 a0 a1 I Rf G s) o_N (nI 0)) (fun t => m_73_x12_40) (fun t => m_73_x12_48)) else (some (nI 0))))
theorem md_73 {d : Nat} {I : ai_I} {J : ai_J} {Rf : ai_R} {G : ai_G} {a0 : Nat} {a1 : Int32} {r : Int32} (hd : 3 ≤ d) (h : m_73 a0 a1 I Rf G = some r) : ai_Cl si_t si_ms d 73 [.inr (.inr a0), .inl a1] I J Rf G (some (.inl r)) I J Rf G := by
  obtain ⟨e, rfl⟩ : ∃ e, d = e + 1 := ⟨d - 1, by omega⟩
  unfold m_73 at h
  refine sp_in (lo := [some (.inr (.inr a0)), some (.inl a1), none]) (B := (0, 0)) rfl (Nat.le_of_ble_eq_true rfl) rfl rfl ?_
  refine go_aload_n (pc' := 1) rfl rfl rfl ?_
  refine go_iload_n (pc' := 2) rfl rfl rfl ?_
  obtain ⟨g0, h⟩ := o_gE h
  obtain ⟨r_2, q_2, h⟩ := o_b1E h
  refine go_callV (pc' := 5) (B' := (0, 0)) (st' := [.inl r_2]) rfl rfl (Or.inl (by decide)) rfl rfl (o_kdE g0) (md_123 (by omega) (o_kdE g0) q_2) rfl rfl rfl ?_
  refine go_if_eq (pt := 10) (pc' := 8) rfl rfl rfl (fun h5 => ?_) (fun h5 => ?_)
  · replace h := o_t h5 h
    refine go_iconst (pc' := 11) (v := (nI 0)) rfl rfl rfl ?_
    refine go_istore_n (pc' := 12) (lo' := [some (.inr (.inr a0)), some (.inl a1), some (.inl (nI 0))]) rfl rfl rfl ?_
    obtain ⟨q12, hl12, hc12_40, hc12_48⟩ := o_s2E h
    have ex12_40 : ∀ (z2_x40 : Option ai_V), (Sum.inl ()) = q12 → ai_Go si_t (20, false, 3, cd_73) (ai_Cl si_t si_ms e) (sp_Q (some (.inl r)) I J Rf G) 40 [some (.inr (.inr a0)), some (.inl a1), z2_x40] [] (0, 0) I J Rf G := by
      intro z2_x40 hq
      have h : m_73_x12_40 = some r := hc12_40 () hq.symm
      unfold m_73_x12_40 at h
      refine go_iconst (pc' := 41) (v := (nI 0)) rfl rfl rfl ?_
      cases h
      exact go_iret rfl (rfl) ⟨rfl, rfl, rfl, rfl, rfl⟩
    have ex12_48 : ∀ (z2_x48 : Option ai_V), (Sum.inr ()) = q12 → ai_Go si_t (20, false, 3, cd_73) (ai_Cl si_t si_ms e) (sp_Q (some (.inl r)) I J Rf G) 48 [some (.inr (.inr a0)), some (.inl a1), z2_x48] [] (0, 0) I J Rf G := by
      intro z2_x48 hq
      have h : m_73_x12_48 = some r := hc12_48 () hq.symm
      unfold m_73_x12_48 at h
      refine go_iconst (pc' := 49) (v := (nI 1)) rfl rfl rfl ?_
      cases h
      exact go_iret rfl (rfl) ⟨rfl, rfl, rfl, rfl, rfl⟩
    have lo12 : ∀ n s, lp (fun s => m_73_b12 a0 a1 I Rf G s) n s = some q12 → (fun s => ai_Go si_t (20, false, 3, cd_73) (ai_Cl si_t si_ms e) (sp_Q (some (.inl r)) I J Rf G) 12 [some (.inr (.inr a0)), some (.inl a1), some (.inl s)] [] (0, 0) I J Rf G) s := lp_go (fun s x12 hx hk12 => by
      revert s; intro v2_12 hx
      have h : m_73_b12 a0 a1 I Rf G v2_12 = some x12 := hx
      clear hx
      show ai_Go si_t (20, false, 3, cd_73) (ai_Cl si_t si_ms e) (sp_Q (some (.inl r)) I J Rf G) 12 [some (.inr (.inr a0)), some (.inl a1), some (.inl v2_12)] [] (0, 0) I J Rf G
      unfold m_73_b12 at h
      refine go_iload_n (pc' := 13) rfl rfl rfl ?_
      refine go_aload_n (pc' := 14) rfl rfl rfl ?_
      refine go_getI (pc' := 17) rfl rfl (by decide) (by decide) (o_kdE g0) rfl ?_
      refine go_icmp_ge (pt := 48) (pc' := 20) rfl rfl rfl (fun h17 => ?_) (fun h17 => ?_)
      · replace h := o_t h17 h
        exact ex12_48  (some (.inl v2_12)) (lp_exitE h hk12)
      · replace h := o_f h17 h
        refine go_iload_n (pc' := 21) rfl rfl rfl ?_
        refine go_iload_n (pc' := 22) rfl rfl rfl ?_
        obtain ⟨r_22, q_22, h⟩ := o_b1E h
        refine go_callS (pc' := 25) (B' := (0, 0)) (st' := [.inl r_22]) rfl rfl (Or.inl (by decide)) rfl rfl trivial (md_183 (by omega) q_22) rfl rfl rfl ?_
        refine go_if_eq (pt := 42) (pc' := 28) rfl rfl rfl (fun h25 => ?_) (fun h25 => ?_)
        · replace h := o_t h25 h
          obtain ⟨x2_42, ex2_42, h⟩ := o_b1E h
          refine go_iincE (pc' := 45) rfl rfl (y := (nI 1)) rfl ex2_42 (lo' := [some (.inr (.inr a0)), some (.inl a1), some (.inl x2_42)]) rfl rfl ?_
          refine go_goto (pc' := 12) rfl rfl ?_
          exact (lp_backE h hk12 :)
        · replace h := o_f h25 h
          refine go_aload_n (pc' := 29) rfl rfl rfl ?_
          refine go_iload_n (pc' := 30) rfl rfl rfl ?_
          refine go_iconst (pc' := 31) (v := (nI 1)) rfl rfl rfl ?_
          refine go_iload_n (pc' := 32) rfl rfl rfl ?_
          refine go_ishl (pc' := 33) rfl rfl ?_
          refine go_ixor (pc' := 34) rfl rfl ?_
          obtain ⟨r_34, q_34, h⟩ := o_b1E h
          refine go_callV (pc' := 37) (B' := (0, 0)) (st' := [.inl r_34]) rfl rfl (Or.inl (by decide)) rfl rfl (o_kdE g0) (md_123 (by omega) (o_kdE g0) q_34) rfl rfl rfl ?_
          refine go_if_ne (pt := 42) (pc' := 40) rfl rfl rfl (fun h37 => ?_) (fun h37 => ?_)
          · replace h := o_f h37 h
            obtain ⟨x2_42, ex2_42, h⟩ := o_b1E h
            refine go_iincE (pc' := 45) rfl rfl (y := (nI 1)) rfl ex2_42 (lo' := [some (.inr (.inr a0)), some (.inl a1), some (.inl x2_42)]) rfl rfl ?_
            refine go_goto (pc' := 12) rfl rfl ?_
            exact (lp_backE h hk12 :)
          · replace h := o_t (Decidable.of_not_not h37) h
            exact ex12_40  (some (.inl v2_12)) (lp_exitE h hk12))
    exact lo12 _ (nI 0) hl12 
  · replace h := o_f h5 h
    refine go_iconst (pc' := 9) (v := (nI 0)) rfl rfl rfl ?_
    cases h
    exact go_iret rfl (rfl) ⟨rfl, rfl, rfl, rfl, rfl⟩
def m_74_x4_29 (w1_29 : Int32) : Option (Int32) :=
  some w1_29
def m_74_b4 (a0 : Nat) (I : ai_I) (Rf : ai_R) (G : ai_G) (v1_4 : Int32) (v2_4 : Int32) : Option ((Int32 × Int32) ⊕ Int32) :=
  o_g (o_kd G a0 8) (o_b1 (m_118 a0 I) (fun r_6 => if r_6 ≤ v2_4 then (some (Sum.inr v1_4)) else (o_b1 (m_73 a0 v2_4 I Rf G) (fun r_15 => o_b1 (m_182 r_15) (fun r_18 => o_b1 (some (v1_4 + r_18)) (fun x1_22 => o_b1 (some (v2_4 + (nI 1))) (fun x2_23 => some (Sum.inl (x1_22, x2_23)))))))))
/-- PricedBases$Shape.circuits(LPricedBases$Valuation;)I -/
def m_74 (a0 : Nat) (I : ai_I) (Rf : ai_R) (G : ai_G) : Option (Int32) :=
  o_s1 (lp (fun s => m_74_b4 a0 I Rf G s.1 s.2) o_N ((nI 0), (nI 0))) (fun t => m_74_x4_29 t)
theorem md_74 {d : Nat} {I : ai_I} {J : ai_J} {Rf : ai_R} {G : ai_G} {a0 : Nat} {r : Int32} (hd : 4 ≤ d) (h : m_74 a0 I Rf G = some r) : ai_Cl si_t si_ms d 74 [.inr (.inr a0)] I J Rf G (some (.inl r)) I J Rf G := by
  obtain ⟨e, rfl⟩ : ∃ e, d = e + 1 := ⟨d - 1, by omega⟩
  unfold m_74 at h
  refine sp_in (lo := [some (.inr (.inr a0)), none, none]) (B := (0, 0)) rfl (Nat.le_of_ble_eq_true rfl) rfl rfl ?_
  refine go_iconst (pc' := 1) (v := (nI 0)) rfl rfl rfl ?_
  refine go_istore_n (pc' := 2) (lo' := [some (.inr (.inr a0)), some (.inl (nI 0)), none]) rfl rfl rfl ?_
  refine go_iconst (pc' := 3) (v := (nI 0)) rfl rfl rfl ?_
  refine go_istore_n (pc' := 4) (lo' := [some (.inr (.inr a0)), some (.inl (nI 0)), some (.inl (nI 0))]) rfl rfl rfl ?_
  obtain ⟨q4, hl4, hc4_29⟩ := o_s1E h
  have ex4_29 : ∀ (w1_29 : Int32) (z2_x29 : Option ai_V), w1_29 = q4 → ai_Go si_t (20, false, 0, cd_74) (ai_Cl si_t si_ms e) (sp_Q (some (.inl r)) I J Rf G) 29 [some (.inr (.inr a0)), some (.inl w1_29), z2_x29] [] (0, 0) I J Rf G := by
    intro w1_29 z2_x29 hq
    have h : m_74_x4_29 w1_29 = some r := hc4_29 w1_29 hq.symm
    unfold m_74_x4_29 at h
    refine go_iload_n (pc' := 30) rfl rfl rfl ?_
    cases h
    exact go_iret rfl (trivial) ⟨rfl, rfl, rfl, rfl, rfl⟩
  have lo4 : ∀ n s, lp (fun s => m_74_b4 a0 I Rf G s.1 s.2) n s = some q4 → (fun s => ai_Go si_t (20, false, 0, cd_74) (ai_Cl si_t si_ms e) (sp_Q (some (.inl r)) I J Rf G) 4 [some (.inr (.inr a0)), some (.inl s.1), some (.inl s.2)] [] (0, 0) I J Rf G) s := lp_go (fun s x4 hx hk4 => by
    obtain ⟨v1_4, v2_4⟩ := s
    have h : m_74_b4 a0 I Rf G v1_4 v2_4 = some x4 := hx
    clear hx
    show ai_Go si_t (20, false, 0, cd_74) (ai_Cl si_t si_ms e) (sp_Q (some (.inl r)) I J Rf G) 4 [some (.inr (.inr a0)), some (.inl v1_4), some (.inl v2_4)] [] (0, 0) I J Rf G
    unfold m_74_b4 at h
    refine go_iload_n (pc' := 5) rfl rfl rfl ?_
    refine go_aload_n (pc' := 6) rfl rfl rfl ?_
    obtain ⟨g0, h⟩ := o_gE h
    obtain ⟨r_6, q_6, h⟩ := o_b1E h
    refine go_callV (pc' := 9) (B' := (0, 0)) (st' := [.inl r_6, .inl v2_4]) rfl rfl (Or.inl (by decide)) rfl rfl (o_kdE g0) (md_118 (by omega) (o_kdE g0) q_6) rfl rfl rfl ?_
    refine go_icmp_ge (pt := 29) (pc' := 12) rfl rfl rfl (fun h9 => ?_) (fun h9 => ?_)
    · replace h := o_t h9 h
      exact ex4_29 _ (some (.inl v2_4)) (lp_exitE h hk4)
    · replace h := o_f h9 h
      refine go_iload_n (pc' := 13) rfl rfl rfl ?_
      refine go_aload_n (pc' := 14) rfl rfl rfl ?_
      refine go_iload_n (pc' := 15) rfl rfl rfl ?_
      obtain ⟨r_15, q_15, h⟩ := o_b1E h
      refine go_callS (pc' := 18) (B' := (0, 0)) (st' := [.inl r_15, .inl v1_4]) rfl rfl (Or.inl (by decide)) rfl rfl trivial (md_73 (by omega) q_15) rfl rfl rfl ?_
      obtain ⟨r_18, q_18, h⟩ := o_b1E h
      refine go_callS (pc' := 21) (B' := (0, 0)) (st' := [.inl r_18, .inl v1_4]) rfl rfl (Or.inl (by decide)) rfl rfl trivial (md_182 (by omega) q_18) rfl rfl rfl ?_
      refine go_iadd (pc' := 22) rfl rfl ?_
      obtain ⟨x1_22, ex1_22, h⟩ := o_b1E h
      refine go_ndI ex1_22 ?_
      refine go_istore_n (pc' := 23) (lo' := [some (.inr (.inr a0)), some (.inl x1_22), some (.inl v2_4)]) rfl rfl rfl ?_
      obtain ⟨x2_23, ex2_23, h⟩ := o_b1E h
      refine go_iincE (pc' := 26) rfl rfl (y := (nI 1)) rfl ex2_23 (lo' := [some (.inr (.inr a0)), some (.inl x1_22), some (.inl x2_23)]) rfl rfl ?_
      refine go_goto (pc' := 4) rfl rfl ?_
      exact (lp_backE h hk4 :))
  exact lo4 _ ((nI 0), (nI 0)) hl4 
