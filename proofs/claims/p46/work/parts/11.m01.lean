/-! Models of methods and their proofs, piece 1. Printed by wip/p46/pr10.py. -/
/-- PricedBases$Clauses.<init>()V -/
def m_0 (th : Nat) (I : ai_I) (Rf : ai_R) (G : ai_G) : Option (ai_I × ai_R × ai_G) :=
  o_g (o_nn th) (o_g (o_lt9 G) (o_b1 (some (va_up I (G.2.2 + 1) (fun _ => 0))) (fun I_6 => o_b1 (some (va_up G.1 (G.2.2 + 1) 13, va_up G.2.1 (G.2.2 + 1) 0, G.2.2 + 1)) (fun G_6 => o_b1 (some (G.2.2 + 1)) (fun n_6 => o_g (o_kd G_6 th 0) (o_b1 (some (va_up Rf th (va_up (Rf th) 2 n_6))) (fun R_8 => o_g (o_lt9 G_6) (o_b1 (some (va_up I_6 (G_6.2.2 + 1) (fun _ => 0))) (fun I_14 => o_b1 (some (va_up G_6.1 (G_6.2.2 + 1) 13, va_up G_6.2.1 (G_6.2.2 + 1) 16, G_6.2.2 + 1)) (fun G_14 => o_b1 (some (G_6.2.2 + 1)) (fun n_14 => o_g (o_kd G_14 th 0) (o_b1 (some (va_up R_8 th (va_up (R_8 th) 5 n_14))) (fun R_16 => o_g (o_lt9 G_14) (o_b1 (some (va_up I_14 (G_14.2.2 + 1) (fun _ => 0))) (fun I_22 => o_b1 (some (va_up G_14.1 (G_14.2.2 + 1) 13, va_up G_14.2.1 (G_14.2.2 + 1) 17, G_14.2.2 + 1)) (fun G_22 => o_b1 (some (G_14.2.2 + 1)) (fun n_22 => o_g (o_kd G_22 th 0) (o_b1 (some (va_up R_16 th (va_up (R_16 th) 6 n_22))) (fun R_24 => o_g (o_lt9 G_22) (o_b1 (some (va_up I_22 (G_22.2.2 + 1) (fun _ => 0))) (fun I_30 => o_b1 (some (va_up G_22.1 (G_22.2.2 + 1) 13, va_up G_22.2.1 (G_22.2.2 + 1) 100, G_22.2.2 + 1)) (fun G_30 => o_b1 (some (G_22.2.2 + 1)) (fun n_30 => o_g (o_kd G_30 th 0) (o_b1 (some (va_up R_24 th (va_up (R_24 th) 7 n_30))) (fun R_32 => o_g (o_lt9 G_30) (o_b1 (some (va_up I_30 (G_30.2.2 + 1) (fun _ => 0))) (fun I_39 => o_b1 (some (va_up G_30.1 (G_30.2.2 + 1) 12, va_up G_30.2.1 (G_30.2.2 + 1) 1024, G_30.2.2 + 1)) (fun G_39 => o_b1 (some (G_30.2.2 + 1)) (fun n_39 => o_g (o_kd G_39 th 0) (o_b1 (some (va_up R_32 th (va_up (R_32 th) 9 n_39))) (fun R_41 => some (I_39, R_41, G_39))))))))))))))))))))))))))))))))
theorem md_0 {d : Nat} {I : ai_I} {J : ai_J} {Rf : ai_R} {G : ai_G} {th : Nat} {I1 : ai_I} {R1 : ai_R} {G1 : ai_G} (hd : 1 ≤ d) (hth : G.1 th = 0) (h : m_0 th I Rf G = some (I1, R1, G1)) : ai_Cl si_t si_ms d 0 [.inr (.inr th)] I J Rf G none I1 J R1 G1 := by
  obtain ⟨e, rfl⟩ : ∃ e, d = e + 1 := ⟨d - 1, by omega⟩
  unfold m_0 at h
  refine sp_in (lo := [some (.inr (.inr th))]) (B := (5, 1157)) rfl (Nat.le_of_ble_eq_true rfl) rfl rfl ?_
  refine go_aload_n (pc' := 1) rfl rfl rfl ?_
  obtain ⟨g0, h⟩ := o_gE h
  refine go_obj (pc' := 4) rfl rfl (o_nnE g0) (Nat.le_of_ble_eq_true rfl) rfl ?_
  refine go_aload_n (pc' := 5) rfl rfl rfl ?_
  refine go_iconst (pc' := 6) (v := (nI 0)) rfl rfl rfl ?_
  obtain ⟨g1, h⟩ := o_gE h
  refine go_newI (pc' := 8) (N := 0) rfl (by decide) (by decide) (by decide) (by decide) (by decide) (o_lt9E g1) rfl ?_
  obtain ⟨I_6, eI_6, h⟩ := o_b1E h
  obtain ⟨G_6, eG_6, h⟩ := o_b1E h
  obtain ⟨n_6, en_6, h⟩ := o_b1E h
  refine go_ndMI eI_6 ?_
  refine go_ndMG eG_6 ?_
  refine go_ndR en_6 ?_
  refine go_ndB (B' := (4, 1157)) rfl ?_
  obtain ⟨g2, h⟩ := o_gE h
  obtain ⟨R_8, eR_8, h⟩ := o_b1E h
  refine go_putR (pc' := 11) rfl rfl (fun h => by cases h) (o_kdE g2) rfl ?_
  refine go_ndMR eR_8 ?_
  refine go_aload_n (pc' := 12) rfl rfl rfl ?_
  refine go_bipush (pc' := 14) (v := (nI 16)) rfl rfl rfl ?_
  obtain ⟨g3, h⟩ := o_gE h
  refine go_newI (pc' := 16) (N := 16) rfl (by decide) (by decide) (by decide) (by decide) (by decide) (o_lt9E g3) rfl ?_
  obtain ⟨I_14, eI_14, h⟩ := o_b1E h
  obtain ⟨G_14, eG_14, h⟩ := o_b1E h
  obtain ⟨n_14, en_14, h⟩ := o_b1E h
  refine go_ndMI eI_14 ?_
  refine go_ndMG eG_14 ?_
  refine go_ndR en_14 ?_
  refine go_ndB (B' := (3, 1141)) rfl ?_
  obtain ⟨g4, h⟩ := o_gE h
  obtain ⟨R_16, eR_16, h⟩ := o_b1E h
  refine go_putR (pc' := 19) rfl rfl (fun _ => ⟨rfl, rfl⟩) (o_kdE g4) rfl ?_
  refine go_ndMR eR_16 ?_
  refine go_aload_n (pc' := 20) rfl rfl rfl ?_
  refine go_bipush (pc' := 22) (v := (nI 17)) rfl rfl rfl ?_
  obtain ⟨g5, h⟩ := o_gE h
  refine go_newI (pc' := 24) (N := 17) rfl (by decide) (by decide) (by decide) (by decide) (by decide) (o_lt9E g5) rfl ?_
  obtain ⟨I_22, eI_22, h⟩ := o_b1E h
  obtain ⟨G_22, eG_22, h⟩ := o_b1E h
  obtain ⟨n_22, en_22, h⟩ := o_b1E h
  refine go_ndMI eI_22 ?_
  refine go_ndMG eG_22 ?_
  refine go_ndR en_22 ?_
  refine go_ndB (B' := (2, 1124)) rfl ?_
  obtain ⟨g6, h⟩ := o_gE h
  obtain ⟨R_24, eR_24, h⟩ := o_b1E h
  refine go_putR (pc' := 27) rfl rfl (fun _ => ⟨rfl, rfl⟩) (o_kdE g6) rfl ?_
  refine go_ndMR eR_24 ?_
  refine go_aload_n (pc' := 28) rfl rfl rfl ?_
  refine go_bipush (pc' := 30) (v := (nI 100)) rfl rfl rfl ?_
  obtain ⟨g7, h⟩ := o_gE h
  refine go_newI (pc' := 32) (N := 100) rfl (by decide) (by decide) (by decide) (by decide) (by decide) (o_lt9E g7) rfl ?_
  obtain ⟨I_30, eI_30, h⟩ := o_b1E h
  obtain ⟨G_30, eG_30, h⟩ := o_b1E h
  obtain ⟨n_30, en_30, h⟩ := o_b1E h
  refine go_ndMI eI_30 ?_
  refine go_ndMG eG_30 ?_
  refine go_ndR en_30 ?_
  refine go_ndB (B' := (1, 1024)) rfl ?_
  obtain ⟨g8, h⟩ := o_gE h
  obtain ⟨R_32, eR_32, h⟩ := o_b1E h
  refine go_putR (pc' := 35) rfl rfl (fun _ => ⟨rfl, rfl⟩) (o_kdE g8) rfl ?_
  refine go_ndMR eR_32 ?_
  refine go_aload_n (pc' := 36) rfl rfl rfl ?_
  refine go_sipush (pc' := 39) (v := (nI 1024)) rfl rfl rfl ?_
  obtain ⟨g9, h⟩ := o_gE h
  refine go_newB (pc' := 41) (N := 1024) rfl (by decide) (by decide) (by decide) (by decide) (by decide) (o_lt9E g9) rfl ?_
  obtain ⟨I_39, eI_39, h⟩ := o_b1E h
  obtain ⟨G_39, eG_39, h⟩ := o_b1E h
  obtain ⟨n_39, en_39, h⟩ := o_b1E h
  refine go_ndMI eI_39 ?_
  refine go_ndMG eG_39 ?_
  refine go_ndR en_39 ?_
  refine go_ndB (B' := (0, 0)) rfl ?_
  obtain ⟨g10, h⟩ := o_gE h
  obtain ⟨R_41, eR_41, h⟩ := o_b1E h
  refine go_putR (pc' := 44) rfl rfl (fun _ => ⟨rfl, rfl⟩) (o_kdE g10) rfl ?_
  refine go_ndMR eR_41 ?_
  cases h
  exact go_vret rfl (rfl) ⟨rfl, rfl, rfl, rfl, rfl⟩
/-- PricedBases$Clauses.refuse(II)V -/
def m_5 (th : Nat) (a0 : Int32) (a1 : Int32) (I : ai_I) : Option (ai_I) :=
  if (I th 1) = 0 then (o_b1 (some (va_up I th (va_up (I th) 1 (((-1000 : Int32) * a0) - a1)))) (fun I_15 => some I_15)) else (some I)
theorem md_5 {d : Nat} {I : ai_I} {J : ai_J} {Rf : ai_R} {G : ai_G} {th : Nat} {a0 : Int32} {a1 : Int32} {I1 : ai_I} (hd : 1 ≤ d) (hth : G.1 th = 0) (h : m_5 th a0 a1 I = some I1) : ai_Cl si_t si_ms d 5 [.inr (.inr th), .inl a0, .inl a1] I J Rf G none I1 J Rf G := by
  obtain ⟨e, rfl⟩ : ∃ e, d = e + 1 := ⟨d - 1, by omega⟩
  unfold m_5 at h
  refine sp_in (lo := [some (.inr (.inr th)), some (.inl a0), some (.inl a1)]) (B := (0, 0)) rfl (Nat.le_of_ble_eq_true rfl) rfl rfl ?_
  refine go_aload_n (pc' := 1) rfl rfl rfl ?_
  refine go_getI (pc' := 4) rfl rfl (by decide) (by decide) hth rfl ?_
  refine go_if_ne (pt := 18) (pc' := 7) rfl rfl rfl (fun h4 => ?_) (fun h4 => ?_)
  · replace h := o_f h4 h
    cases h
    exact go_vret rfl (rfl) ⟨rfl, rfl, rfl, rfl, rfl⟩
  · replace h := o_t (Decidable.of_not_not h4) h
    refine go_aload_n (pc' := 8) rfl rfl rfl ?_
    refine go_sipush (pc' := 11) (v := (-1000 : Int32)) rfl rfl rfl ?_
    refine go_iload_n (pc' := 12) rfl rfl rfl ?_
    refine go_imul (pc' := 13) rfl rfl ?_
    refine go_iload_n (pc' := 14) rfl rfl rfl ?_
    refine go_isub (pc' := 15) rfl rfl ?_
    obtain ⟨I_15, eI_15, h⟩ := o_b1E h
    refine go_putI (pc' := 18) rfl rfl (fun h => by cases h) hth rfl ?_
    refine go_ndMI eI_15 ?_
    cases h
    exact go_vret rfl (rfl) ⟨rfl, rfl, rfl, rfl, rfl⟩
/-- PricedBases$Clauses.sign()I -/
def m_6 (th : Nat) (I : ai_I) (Rf : ai_R) (G : ai_G) : Option (Int32) :=
  if (I th 3) ≤ (I th 4) then (some (-1 : Int32)) else (o_g (o_in G 13 (Rf th 2) (I th 4)) (some (I (Rf th 2) (I th 4).toNatClampNeg)))
theorem md_6 {d : Nat} {I : ai_I} {J : ai_J} {Rf : ai_R} {G : ai_G} {th : Nat} {r : Int32} (hd : 1 ≤ d) (hth : G.1 th = 0) (h : m_6 th I Rf G = some r) : ai_Cl si_t si_ms d 6 [.inr (.inr th)] I J Rf G (some (.inl r)) I J Rf G := by
  obtain ⟨e, rfl⟩ : ∃ e, d = e + 1 := ⟨d - 1, by omega⟩
  unfold m_6 at h
  refine sp_in (lo := [some (.inr (.inr th))]) (B := (0, 0)) rfl (Nat.le_of_ble_eq_true rfl) rfl rfl ?_
  refine go_aload_n (pc' := 1) rfl rfl rfl ?_
  refine go_getI (pc' := 4) rfl rfl (by decide) (by decide) hth rfl ?_
  refine go_aload_n (pc' := 5) rfl rfl rfl ?_
  refine go_getI (pc' := 8) rfl rfl (by decide) (by decide) hth rfl ?_
  refine go_icmp_ge (pt := 23) (pc' := 11) rfl rfl rfl (fun h8 => ?_) (fun h8 => ?_)
  · replace h := o_t h8 h
    refine go_iconst (pc' := 24) (v := (-1 : Int32)) rfl rfl rfl ?_
    cases h
    exact go_iret rfl (trivial) ⟨rfl, rfl, rfl, rfl, rfl⟩
  · replace h := o_f h8 h
    refine go_aload_n (pc' := 12) rfl rfl rfl ?_
    refine go_getR (pc' := 15) rfl rfl hth rfl ?_
    refine go_aload_n (pc' := 16) rfl rfl rfl ?_
    refine go_getI (pc' := 19) rfl rfl (by decide) (by decide) hth rfl ?_
    obtain ⟨g0, h⟩ := o_gE h
    refine go_iaload (pc' := 20) rfl (o_inK g0) (o_inB g0) rfl ?_
    refine go_goto (pc' := 24) rfl rfl ?_
    cases h
    exact go_iret rfl (trivial) ⟨rfl, rfl, rfl, rfl, rfl⟩
/-- PricedBases$Clauses.number(II)I -/
def m_4 (th : Nat) (a0 : Int32) (a1 : Int32) (I : ai_I) (Rf : ai_R) (G : ai_G) : Option (Int32) :=
  if a0 < 0 then (some (nI 0)) else (if (I th 0) ≤ a0 then (some (nI 0)) else (if a1 < 0 then (some (nI 0)) else (o_g (o_in G 13 (Rf th 6) (a0 + (nI 1))) (o_g (o_in G 13 (Rf th 6) a0) (if a1 < ((I (Rf th 6) (a0 + (nI 1)).toNatClampNeg) - (I (Rf th 6) a0.toNatClampNeg)) then (o_g (o_in G 13 (Rf th 6) a0) (o_g (o_in G 13 (Rf th 7) ((I (Rf th 6) a0.toNatClampNeg) + a1)) (some (I (Rf th 7) ((I (Rf th 6) a0.toNatClampNeg) + a1).toNatClampNeg)))) else (some (nI 0)))))))
theorem md_4 {d : Nat} {I : ai_I} {J : ai_J} {Rf : ai_R} {G : ai_G} {th : Nat} {a0 : Int32} {a1 : Int32} {r : Int32} (hd : 1 ≤ d) (hth : G.1 th = 0) (h : m_4 th a0 a1 I Rf G = some r) : ai_Cl si_t si_ms d 4 [.inr (.inr th), .inl a0, .inl a1] I J Rf G (some (.inl r)) I J Rf G := by
  obtain ⟨e, rfl⟩ : ∃ e, d = e + 1 := ⟨d - 1, by omega⟩
  unfold m_4 at h
  refine sp_in (lo := [some (.inr (.inr th)), some (.inl a0), some (.inl a1)]) (B := (0, 0)) rfl (Nat.le_of_ble_eq_true rfl) rfl rfl ?_
  refine go_iload_n (pc' := 1) rfl rfl rfl ?_
  refine go_if_lt (pt := 35) (pc' := 4) rfl rfl rfl (fun h1 => ?_) (fun h1 => ?_)
  · replace h := o_t h1 h
    refine go_iconst (pc' := 36) (v := (nI 0)) rfl rfl rfl ?_
    cases h
    exact go_iret rfl (trivial) ⟨rfl, rfl, rfl, rfl, rfl⟩
  · replace h := o_f h1 h
    refine go_iload_n (pc' := 5) rfl rfl rfl ?_
    refine go_aload_n (pc' := 6) rfl rfl rfl ?_
    refine go_getI (pc' := 9) rfl rfl (by decide) (by decide) hth rfl ?_
    refine go_icmp_ge (pt := 35) (pc' := 12) rfl rfl rfl (fun h9 => ?_) (fun h9 => ?_)
    · replace h := o_t h9 h
      refine go_iconst (pc' := 36) (v := (nI 0)) rfl rfl rfl ?_
      cases h
      exact go_iret rfl (trivial) ⟨rfl, rfl, rfl, rfl, rfl⟩
    · replace h := o_f h9 h
      refine go_iload_n (pc' := 13) rfl rfl rfl ?_
      refine go_if_lt (pt := 35) (pc' := 16) rfl rfl rfl (fun h13 => ?_) (fun h13 => ?_)
      · replace h := o_t h13 h
        refine go_iconst (pc' := 36) (v := (nI 0)) rfl rfl rfl ?_
        cases h
        exact go_iret rfl (trivial) ⟨rfl, rfl, rfl, rfl, rfl⟩
      · replace h := o_f h13 h
        refine go_iload_n (pc' := 17) rfl rfl rfl ?_
        refine go_aload_n (pc' := 18) rfl rfl rfl ?_
        refine go_getR (pc' := 21) rfl rfl hth rfl ?_
        refine go_iload_n (pc' := 22) rfl rfl rfl ?_
        refine go_iconst (pc' := 23) (v := (nI 1)) rfl rfl rfl ?_
        refine go_iadd (pc' := 24) rfl rfl ?_
        obtain ⟨g0, h⟩ := o_gE h
        refine go_iaload (pc' := 25) rfl (o_inK g0) (o_inB g0) rfl ?_
        refine go_aload_n (pc' := 26) rfl rfl rfl ?_
        refine go_getR (pc' := 29) rfl rfl hth rfl ?_
        refine go_iload_n (pc' := 30) rfl rfl rfl ?_
        obtain ⟨g1, h⟩ := o_gE h
        refine go_iaload (pc' := 31) rfl (o_inK g1) (o_inB g1) rfl ?_
        refine go_isub (pc' := 32) rfl rfl ?_
        refine go_icmp_lt (pt := 37) (pc' := 35) rfl rfl rfl (fun h32 => ?_) (fun h32 => ?_)
        · replace h := o_t h32 h
          refine go_aload_n (pc' := 38) rfl rfl rfl ?_
          refine go_getR (pc' := 41) rfl rfl hth rfl ?_
          refine go_aload_n (pc' := 42) rfl rfl rfl ?_
          refine go_getR (pc' := 45) rfl rfl hth rfl ?_
          refine go_iload_n (pc' := 46) rfl rfl rfl ?_
          obtain ⟨g2, h⟩ := o_gE h
          refine go_iaload (pc' := 47) rfl (o_inK g2) (o_inB g2) rfl ?_
          refine go_iload_n (pc' := 48) rfl rfl rfl ?_
          refine go_iadd (pc' := 49) rfl rfl ?_
          obtain ⟨g3, h⟩ := o_gE h
          refine go_iaload (pc' := 50) rfl (o_inK g3) (o_inB g3) rfl ?_
          cases h
          exact go_iret rfl (trivial) ⟨rfl, rfl, rfl, rfl, rfl⟩
        · replace h := o_f h32 h
          refine go_iconst (pc' := 36) (v := (nI 0)) rfl rfl rfl ?_
          cases h
          exact go_iret rfl (trivial) ⟨rfl, rfl, rfl, rfl, rfl⟩
def m_9_x17_41 : Option (Int32) :=
  some (nI 0)
def m_9_x17_49 : Option (Int32) :=
  some (nI 1)
def m_9_b17 (th : Nat) (a0 : Nat) (a1 : Int32) (I : ai_I) (Rf : ai_R) (G : ai_G) (v3_17 : Int32) : Option (Int32 ⊕ (Unit ⊕ Unit)) :=
  o_b1 (o_sl a0) (fun r_19 => if r_19 ≤ v3_17 then (some (Sum.inr (Sum.inr ()))) else (o_g (o_in G 13 (Rf th 2) (a1 + v3_17)) (o_b1 (o_sc a0 v3_17) (fun r_35 => if (I (Rf th 2) (a1 + v3_17).toNatClampNeg) = r_35 then (o_b1 (some (v3_17 + (nI 1))) (fun x3_43 => some (Sum.inl x3_43))) else (some (Sum.inr (Sum.inl ())))))))
/-- PricedBases$Clauses.isWord(Ljava/lang/String;I)Z -/
def m_9 (th : Nat) (a0 : Nat) (a1 : Int32) (I : ai_I) (Rf : ai_R) (G : ai_G) : Option (Int32) :=
  o_b1 (o_sl a0) (fun r_1 => if r_1 = ((I th 4) - a1) then (o_s2 (lp (fun s => m_9_b17 th a0 a1 I Rf G s) o_N (nI 0)) (fun t => m_9_x17_41) (fun t => m_9_x17_49)) else (some (nI 0)))
theorem md_9 {d : Nat} {I : ai_I} {J : ai_J} {Rf : ai_R} {G : ai_G} {th : Nat} {a0 : Nat} {a1 : Int32} {r : Int32} (hd : 6 ≤ d) (hth : G.1 th = 0) (h : m_9 th a0 a1 I Rf G = some r) : ai_Cl si_t si_ms d 9 [.inr (.inr th), .inr (.inr a0), .inl a1] I J Rf G (some (.inl r)) I J Rf G := by
  obtain ⟨e, rfl⟩ : ∃ e, d = e + 1 := ⟨d - 1, by omega⟩
  unfold m_9 at h
  refine sp_in (lo := [some (.inr (.inr th)), some (.inr (.inr a0)), some (.inl a1), none]) (B := (0, 0)) rfl (Nat.le_of_ble_eq_true rfl) rfl rfl ?_
  refine go_aload_n (pc' := 1) rfl rfl rfl ?_
  obtain ⟨r_1, q_1, h⟩ := o_b1E h
  refine go_callV (pc' := 4) (B' := (0, 0)) (st' := [.inl r_1]) rfl rfl (Or.inr (Or.inl rfl)) rfl rfl trivial (md_997 (by omega) q_1) rfl rfl rfl ?_
  refine go_aload_n (pc' := 5) rfl rfl rfl ?_
  refine go_getI (pc' := 8) rfl rfl (by decide) (by decide) hth rfl ?_
  refine go_iload_n (pc' := 9) rfl rfl rfl ?_
  refine go_isub (pc' := 10) rfl rfl ?_
  refine go_icmp_eq (pt := 15) (pc' := 13) rfl rfl rfl (fun h10 => ?_) (fun h10 => ?_)
  · replace h := o_t h10 h
    refine go_iconst (pc' := 16) (v := (nI 0)) rfl rfl rfl ?_
    refine go_istore_n (pc' := 17) (lo' := [some (.inr (.inr th)), some (.inr (.inr a0)), some (.inl a1), some (.inl (nI 0))]) rfl rfl rfl ?_
    obtain ⟨q17, hl17, hc17_41, hc17_49⟩ := o_s2E h
    have ex17_41 : ∀ (z3_x41 : Option ai_V), (Sum.inl ()) = q17 → ai_Go si_t (0, false, 3, cd_9) (ai_Cl si_t si_ms e) (sp_Q (some (.inl r)) I J Rf G) 41 [some (.inr (.inr th)), some (.inr (.inr a0)), some (.inl a1), z3_x41] [] (0, 0) I J Rf G := by
      intro z3_x41 hq
      have h : m_9_x17_41 = some r := hc17_41 () hq.symm
      unfold m_9_x17_41 at h
      refine go_iconst (pc' := 42) (v := (nI 0)) rfl rfl rfl ?_
      cases h
      exact go_iret rfl (rfl) ⟨rfl, rfl, rfl, rfl, rfl⟩
    have ex17_49 : ∀ (z3_x49 : Option ai_V), (Sum.inr ()) = q17 → ai_Go si_t (0, false, 3, cd_9) (ai_Cl si_t si_ms e) (sp_Q (some (.inl r)) I J Rf G) 49 [some (.inr (.inr th)), some (.inr (.inr a0)), some (.inl a1), z3_x49] [] (0, 0) I J Rf G := by
      intro z3_x49 hq
      have h : m_9_x17_49 = some r := hc17_49 () hq.symm
      unfold m_9_x17_49 at h
      refine go_iconst (pc' := 50) (v := (nI 1)) rfl rfl rfl ?_
      cases h
      exact go_iret rfl (rfl) ⟨rfl, rfl, rfl, rfl, rfl⟩
    have lo17 : ∀ n s, lp (fun s => m_9_b17 th a0 a1 I Rf G s) n s = some q17 → (fun s => ai_Go si_t (0, false, 3, cd_9) (ai_Cl si_t si_ms e) (sp_Q (some (.inl r)) I J Rf G) 17 [some (.inr (.inr th)), some (.inr (.inr a0)), some (.inl a1), some (.inl s)] [] (0, 0) I J Rf G) s := lp_go (fun s x17 hx hk17 => by
      revert s; intro v3_17 hx
      have h : m_9_b17 th a0 a1 I Rf G v3_17 = some x17 := hx
      clear hx
      show ai_Go si_t (0, false, 3, cd_9) (ai_Cl si_t si_ms e) (sp_Q (some (.inl r)) I J Rf G) 17 [some (.inr (.inr th)), some (.inr (.inr a0)), some (.inl a1), some (.inl v3_17)] [] (0, 0) I J Rf G
      unfold m_9_b17 at h
      refine go_iload_n (pc' := 18) rfl rfl rfl ?_
      refine go_aload_n (pc' := 19) rfl rfl rfl ?_
      obtain ⟨r_19, q_19, h⟩ := o_b1E h
      refine go_callV (pc' := 22) (B' := (0, 0)) (st' := [.inl r_19, .inl v3_17]) rfl rfl (Or.inr (Or.inl rfl)) rfl rfl trivial (md_997 (by omega) q_19) rfl rfl rfl ?_
      refine go_icmp_ge (pt := 49) (pc' := 25) rfl rfl rfl (fun h22 => ?_) (fun h22 => ?_)
      · replace h := o_t h22 h
        exact ex17_49  (some (.inl v3_17)) (lp_exitE h hk17)
      · replace h := o_f h22 h
        refine go_aload_n (pc' := 26) rfl rfl rfl ?_
        refine go_getR (pc' := 29) rfl rfl hth rfl ?_
        refine go_iload_n (pc' := 30) rfl rfl rfl ?_
        refine go_iload_n (pc' := 31) rfl rfl rfl ?_
        refine go_iadd (pc' := 32) rfl rfl ?_
        obtain ⟨g0, h⟩ := o_gE h
        refine go_iaload (pc' := 33) rfl (o_inK g0) (o_inB g0) rfl ?_
        refine go_aload_n (pc' := 34) rfl rfl rfl ?_
        refine go_iload_n (pc' := 35) rfl rfl rfl ?_
        obtain ⟨r_35, q_35, h⟩ := o_b1E h
        refine go_callV (pc' := 38) (B' := (0, 0)) (st' := [.inl r_35, .inl (I (Rf th 2) (a1 + v3_17).toNatClampNeg)]) rfl rfl (Or.inr (Or.inr rfl)) rfl rfl trivial (md_996 (by omega) q_35) rfl rfl rfl ?_
        refine go_icmp_eq (pt := 43) (pc' := 41) rfl rfl rfl (fun h38 => ?_) (fun h38 => ?_)
        · replace h := o_t h38 h
          obtain ⟨x3_43, ex3_43, h⟩ := o_b1E h
          refine go_iincE (pc' := 46) rfl rfl (y := (nI 1)) rfl ex3_43 (lo' := [some (.inr (.inr th)), some (.inr (.inr a0)), some (.inl a1), some (.inl x3_43)]) rfl rfl ?_
          refine go_goto (pc' := 17) rfl rfl ?_
          exact (lp_backE h hk17 :)
        · replace h := o_f h38 h
          exact ex17_41  (some (.inl v3_17)) (lp_exitE h hk17))
    exact lo17 _ (nI 0) hl17 
  · replace h := o_f h10 h
    refine go_iconst (pc' := 14) (v := (nI 0)) rfl rfl rfl ?_
    cases h
    exact go_iret rfl (rfl) ⟨rfl, rfl, rfl, rfl, rfl⟩
/-- PricedBases$Clauses.word(I)Ljava/lang/String; -/
def m_10 (a0 : Int32) : Option (Nat) :=
  if a0 = (0 : Int32) then (some 2000) else (if a0 = (1 : Int32) then (some 2001) else (if a0 = (2 : Int32) then (some 2002) else (if a0 = (3 : Int32) then (some 2003) else (if a0 = (4 : Int32) then (some 2004) else (if a0 = (5 : Int32) then (some 2005) else (if a0 = (6 : Int32) then (some 2006) else (if a0 = (7 : Int32) then (some 2007) else (if a0 = (8 : Int32) then (some 2008) else (if a0 = (9 : Int32) then (some 2009) else (if a0 = (10 : Int32) then (some 2010) else (if a0 = (11 : Int32) then (some 2011) else (if a0 = (12 : Int32) then (some 2012) else (if a0 = (13 : Int32) then (some 2013) else (some 2014))))))))))))))
theorem md_10 {d : Nat} {I : ai_I} {J : ai_J} {Rf : ai_R} {G : ai_G} {a0 : Int32} {r : Nat} (hd : 1 ≤ d) (h : m_10 a0 = some r) : ai_Cl si_t si_ms d 10 [.inl a0] I J Rf G (some (.inr (.inr r))) I J Rf G := by
  obtain ⟨e, rfl⟩ : ∃ e, d = e + 1 := ⟨d - 1, by omega⟩
  unfold m_10 at h
  refine sp_in (lo := [some (.inl a0)]) (B := (0, 0)) rfl (Nat.le_of_ble_eq_true rfl) rfl rfl ?_
  refine go_iload_n (pc' := 1) rfl rfl rfl ?_
  by_cases c1_0 : a0 = (0 : Int32)
  · replace h := o_t c1_0 h
    refine go_swIn (pc' := 72) 0 rfl rfl (by rw [c1_0]; decide) (by rw [c1_0]; decide) rfl ?_
    refine go_ldc (pc' := 74) (v := .inr (.inr 2000)) rfl rfl rfl ?_
    cases h
    exact go_aret rfl (rfl) ⟨rfl, rfl, rfl, rfl, rfl⟩
  replace h := o_f c1_0 h
  by_cases c1_1 : a0 = (1 : Int32)
  · replace h := o_t c1_1 h
    refine go_swIn (pc' := 75) 1 rfl rfl (by rw [c1_1]; decide) (by rw [c1_1]; decide) rfl ?_
    refine go_ldc (pc' := 77) (v := .inr (.inr 2001)) rfl rfl rfl ?_
    cases h
    exact go_aret rfl (rfl) ⟨rfl, rfl, rfl, rfl, rfl⟩
  replace h := o_f c1_1 h
  by_cases c1_2 : a0 = (2 : Int32)
  · replace h := o_t c1_2 h
    refine go_swIn (pc' := 78) 2 rfl rfl (by rw [c1_2]; decide) (by rw [c1_2]; decide) rfl ?_
    refine go_ldc (pc' := 80) (v := .inr (.inr 2002)) rfl rfl rfl ?_
    cases h
    exact go_aret rfl (rfl) ⟨rfl, rfl, rfl, rfl, rfl⟩
  replace h := o_f c1_2 h
  by_cases c1_3 : a0 = (3 : Int32)
  · replace h := o_t c1_3 h
    refine go_swIn (pc' := 81) 3 rfl rfl (by rw [c1_3]; decide) (by rw [c1_3]; decide) rfl ?_
    refine go_ldc (pc' := 83) (v := .inr (.inr 2003)) rfl rfl rfl ?_
    cases h
    exact go_aret rfl (rfl) ⟨rfl, rfl, rfl, rfl, rfl⟩
  replace h := o_f c1_3 h
  by_cases c1_4 : a0 = (4 : Int32)
  · replace h := o_t c1_4 h
    refine go_swIn (pc' := 84) 4 rfl rfl (by rw [c1_4]; decide) (by rw [c1_4]; decide) rfl ?_
    refine go_ldc (pc' := 86) (v := .inr (.inr 2004)) rfl rfl rfl ?_
    cases h
    exact go_aret rfl (rfl) ⟨rfl, rfl, rfl, rfl, rfl⟩
  replace h := o_f c1_4 h
  by_cases c1_5 : a0 = (5 : Int32)
  · replace h := o_t c1_5 h
    refine go_swIn (pc' := 87) 5 rfl rfl (by rw [c1_5]; decide) (by rw [c1_5]; decide) rfl ?_
    refine go_ldc (pc' := 89) (v := .inr (.inr 2005)) rfl rfl rfl ?_
    cases h
    exact go_aret rfl (rfl) ⟨rfl, rfl, rfl, rfl, rfl⟩
  replace h := o_f c1_5 h
  by_cases c1_6 : a0 = (6 : Int32)
  · replace h := o_t c1_6 h
    refine go_swIn (pc' := 90) 6 rfl rfl (by rw [c1_6]; decide) (by rw [c1_6]; decide) rfl ?_
    refine go_ldc (pc' := 92) (v := .inr (.inr 2006)) rfl rfl rfl ?_
    cases h
    exact go_aret rfl (rfl) ⟨rfl, rfl, rfl, rfl, rfl⟩
  replace h := o_f c1_6 h
  by_cases c1_7 : a0 = (7 : Int32)
  · replace h := o_t c1_7 h
    refine go_swIn (pc' := 93) 7 rfl rfl (by rw [c1_7]; decide) (by rw [c1_7]; decide) rfl ?_
    refine go_ldc (pc' := 95) (v := .inr (.inr 2007)) rfl rfl rfl ?_
    cases h
    exact go_aret rfl (rfl) ⟨rfl, rfl, rfl, rfl, rfl⟩
  replace h := o_f c1_7 h
  by_cases c1_8 : a0 = (8 : Int32)
  · replace h := o_t c1_8 h
    refine go_swIn (pc' := 96) 8 rfl rfl (by rw [c1_8]; decide) (by rw [c1_8]; decide) rfl ?_
    refine go_ldc (pc' := 98) (v := .inr (.inr 2008)) rfl rfl rfl ?_
    cases h
    exact go_aret rfl (rfl) ⟨rfl, rfl, rfl, rfl, rfl⟩
  replace h := o_f c1_8 h
  by_cases c1_9 : a0 = (9 : Int32)
  · replace h := o_t c1_9 h
    refine go_swIn (pc' := 99) 9 rfl rfl (by rw [c1_9]; decide) (by rw [c1_9]; decide) rfl ?_
    refine go_ldc (pc' := 101) (v := .inr (.inr 2009)) rfl rfl rfl ?_
    cases h
    exact go_aret rfl (rfl) ⟨rfl, rfl, rfl, rfl, rfl⟩
  replace h := o_f c1_9 h
  by_cases c1_10 : a0 = (10 : Int32)
  · replace h := o_t c1_10 h
    refine go_swIn (pc' := 102) 10 rfl rfl (by rw [c1_10]; decide) (by rw [c1_10]; decide) rfl ?_
    refine go_ldc (pc' := 104) (v := .inr (.inr 2010)) rfl rfl rfl ?_
    cases h
    exact go_aret rfl (rfl) ⟨rfl, rfl, rfl, rfl, rfl⟩
  replace h := o_f c1_10 h
  by_cases c1_11 : a0 = (11 : Int32)
  · replace h := o_t c1_11 h
    refine go_swIn (pc' := 105) 11 rfl rfl (by rw [c1_11]; decide) (by rw [c1_11]; decide) rfl ?_
    refine go_ldc (pc' := 107) (v := .inr (.inr 2011)) rfl rfl rfl ?_
    cases h
    exact go_aret rfl (rfl) ⟨rfl, rfl, rfl, rfl, rfl⟩
  replace h := o_f c1_11 h
  by_cases c1_12 : a0 = (12 : Int32)
  · replace h := o_t c1_12 h
    refine go_swIn (pc' := 108) 12 rfl rfl (by rw [c1_12]; decide) (by rw [c1_12]; decide) rfl ?_
    refine go_ldc (pc' := 110) (v := .inr (.inr 2012)) rfl rfl rfl ?_
    cases h
    exact go_aret rfl (rfl) ⟨rfl, rfl, rfl, rfl, rfl⟩
  replace h := o_f c1_12 h
  by_cases c1_13 : a0 = (13 : Int32)
  · replace h := o_t c1_13 h
    refine go_swIn (pc' := 111) 13 rfl rfl (by rw [c1_13]; decide) (by rw [c1_13]; decide) rfl ?_
    refine go_ldc (pc' := 113) (v := .inr (.inr 2013)) rfl rfl rfl ?_
    cases h
    exact go_aret rfl (rfl) ⟨rfl, rfl, rfl, rfl, rfl⟩
  replace h := o_f c1_13 h
  refine go_swOut (pc' := 114) rfl (by
      rw [← Int32.toInt_inj] at c1_0
      rw [← Int32.toInt_inj] at c1_1
      rw [← Int32.toInt_inj] at c1_2
      rw [← Int32.toInt_inj] at c1_3
      rw [← Int32.toInt_inj] at c1_4
      rw [← Int32.toInt_inj] at c1_5
      rw [← Int32.toInt_inj] at c1_6
      rw [← Int32.toInt_inj] at c1_7
      rw [← Int32.toInt_inj] at c1_8
      rw [← Int32.toInt_inj] at c1_9
      rw [← Int32.toInt_inj] at c1_10
      rw [← Int32.toInt_inj] at c1_11
      rw [← Int32.toInt_inj] at c1_12
      rw [← Int32.toInt_inj] at c1_13
      have c1_0 : ¬ a0.toInt = 0 := c1_0
      have c1_1 : ¬ a0.toInt = 1 := c1_1
      have c1_2 : ¬ a0.toInt = 2 := c1_2
      have c1_3 : ¬ a0.toInt = 3 := c1_3
      have c1_4 : ¬ a0.toInt = 4 := c1_4
      have c1_5 : ¬ a0.toInt = 5 := c1_5
      have c1_6 : ¬ a0.toInt = 6 := c1_6
      have c1_7 : ¬ a0.toInt = 7 := c1_7
      have c1_8 : ¬ a0.toInt = 8 := c1_8
      have c1_9 : ¬ a0.toInt = 9 := c1_9
      have c1_10 : ¬ a0.toInt = 10 := c1_10
      have c1_11 : ¬ a0.toInt = 11 := c1_11
      have c1_12 : ¬ a0.toInt = 12 := c1_12
      have c1_13 : ¬ a0.toInt = 13 := c1_13
      show a0.toInt < 0 ∨ 0 + ((14 : Nat) : Int) ≤ a0.toInt
      omega) rfl ?_
  refine go_ldc (pc' := 116) (v := .inr (.inr 2014)) rfl rfl rfl ?_
  cases h
  exact go_aret rfl (rfl) ⟨rfl, rfl, rfl, rfl, rfl⟩
def m_8_x52_70 (Ix_50 : ai_I) (w2_70 : Int32) : Option (Int32 × ai_I) :=
  some (w2_70, Ix_50)
def m_8_x52_78 (th : Nat) (x1_4 : Int32) (Ix_50 : ai_I) : Option (Int32 × ai_I) :=
  o_b1 (m_5 th (nI 1) x1_4 Ix_50) (fun I_81 => some ((-1 : Int32), I_81))
def m_8_b52 (th : Nat) (Rf : ai_R) (G : ai_G) (x1_4 : Int32) (Ix_50 : ai_I) (v2_52 : Int32) : Option (Int32 ⊕ (Int32 ⊕ Unit)) :=
  if (nI 14) ≤ v2_52 then (some (Sum.inr (Sum.inr ()))) else (o_b1 (m_10 v2_52) (fun r_60 => o_b1 (m_9 th r_60 x1_4 Ix_50 Rf G) (fun r_64 => if r_64 = 0 then (o_b1 (some (v2_52 + (nI 1))) (fun x2_72 => some (Sum.inl x2_72))) else (some (Sum.inr (Sum.inl v2_52))))))
def m_8_x12_50 (th : Nat) (Rf : ai_R) (G : ai_G) (x1_4 : Int32) (Ix_50 : ai_I) : Option (Int32 × ai_I) :=
  o_s2 (lp (fun s => m_8_b52 th Rf G x1_4 Ix_50 s) o_N (nI 0)) (fun t => m_8_x52_70 Ix_50 t) (fun t => m_8_x52_78 th x1_4 Ix_50)
def m_8_b12 (th : Nat) (Rf : ai_R) (G : ai_G) (v2_12 : Int32) (I_12 : ai_I) : Option ((Int32 × ai_I) ⊕ ai_I) :=
  if v2_12 ≤ 0 then (some (Sum.inr I_12)) else (o_b1 (m_6 th I_12 Rf G) (fun r_17 => if r_17 < (nI 97) then (some (Sum.inr I_12)) else (o_b1 (m_6 th I_12 Rf G) (fun r_26 => if (nI 122) < r_26 then (some (Sum.inr I_12)) else (o_b1 (some (va_up I_12 th (va_up (I_12 th) 4 ((I_12 th 4) + (nI 1))))) (fun I_41 => o_b1 (some (v2_12 + (-1 : Int32))) (fun x2_44 => some (Sum.inl (x2_44, I_41)))))))))
/-- PricedBases$Clauses.readWord()I -/
def m_8 (th : Nat) (I : ai_I) (Rf : ai_R) (G : ai_G) : Option (Int32 × ai_I) :=
  o_b1 (some (I th 4)) (fun x1_4 => o_b1 (some ((I th 3) - x1_4)) (fun x2_11 => o_s1 (lp (fun s => m_8_b12 th Rf G s.1 s.2) o_N (x2_11, I)) (fun t => m_8_x12_50 th Rf G x1_4 t)))
theorem md_8 {d : Nat} {I : ai_I} {J : ai_J} {Rf : ai_R} {G : ai_G} {th : Nat} {r : Int32} {I1 : ai_I} (hd : 7 ≤ d) (hth : G.1 th = 0) (h : m_8 th I Rf G = some (r, I1)) : ai_Cl si_t si_ms d 8 [.inr (.inr th)] I J Rf G (some (.inl r)) I1 J Rf G := by
  obtain ⟨e, rfl⟩ : ∃ e, d = e + 1 := ⟨d - 1, by omega⟩
  unfold m_8 at h
  refine sp_in (lo := [some (.inr (.inr th)), none, none]) (B := (0, 0)) rfl (Nat.le_of_ble_eq_true rfl) rfl rfl ?_
  refine go_aload_n (pc' := 1) rfl rfl rfl ?_
  refine go_getI (pc' := 4) rfl rfl (by decide) (by decide) hth rfl ?_
  obtain ⟨x1_4, ex1_4, h⟩ := o_b1E h
  refine go_ndI ex1_4 ?_
  refine go_istore_n (pc' := 5) (lo' := [some (.inr (.inr th)), some (.inl x1_4), none]) rfl rfl rfl ?_
  refine go_aload_n (pc' := 6) rfl rfl rfl ?_
  refine go_getI (pc' := 9) rfl rfl (by decide) (by decide) hth rfl ?_
  refine go_iload_n (pc' := 10) rfl rfl rfl ?_
  refine go_isub (pc' := 11) rfl rfl ?_
  obtain ⟨x2_11, ex2_11, h⟩ := o_b1E h
  refine go_ndI ex2_11 ?_
  refine go_istore_n (pc' := 12) (lo' := [some (.inr (.inr th)), some (.inl x1_4), some (.inl x2_11)]) rfl rfl rfl ?_
  obtain ⟨q12, hl12, hc12_50⟩ := o_s1E h
  have ex12_50 : ∀ (Ix_50 : ai_I) (z2_x50 : Option ai_V), Ix_50 = q12 → ai_Go si_t (0, false, 0, cd_8) (ai_Cl si_t si_ms e) (sp_Q (some (.inl r)) I1 J Rf G) 50 [some (.inr (.inr th)), some (.inl x1_4), z2_x50] [] (0, 0) Ix_50 J Rf G := by
    intro Ix_50 z2_x50 hq
    have h : m_8_x12_50 th Rf G x1_4 Ix_50 = some (r, I1) := hc12_50 Ix_50 hq.symm
    unfold m_8_x12_50 at h
    refine go_iconst (pc' := 51) (v := (nI 0)) rfl rfl rfl ?_
    refine go_istore_n (pc' := 52) (lo' := [some (.inr (.inr th)), some (.inl x1_4), some (.inl (nI 0))]) rfl rfl rfl ?_
    obtain ⟨q52, hl52, hc52_70, hc52_78⟩ := o_s2E h
    have ex52_70 : ∀ (w2_70 : Int32), (Sum.inl w2_70) = q52 → ai_Go si_t (0, false, 0, cd_8) (ai_Cl si_t si_ms e) (sp_Q (some (.inl r)) I1 J Rf G) 70 [some (.inr (.inr th)), some (.inl x1_4), some (.inl w2_70)] [] (0, 0) Ix_50 J Rf G := by
      intro w2_70 hq
      have h : m_8_x52_70 Ix_50 w2_70 = some (r, I1) := hc52_70 w2_70 hq.symm
      unfold m_8_x52_70 at h
      refine go_iload_n (pc' := 71) rfl rfl rfl ?_
      cases h
      exact go_iret rfl (trivial) ⟨rfl, rfl, rfl, rfl, rfl⟩
    have ex52_78 : ∀ (z2_x78 : Option ai_V), (Sum.inr ()) = q52 → ai_Go si_t (0, false, 0, cd_8) (ai_Cl si_t si_ms e) (sp_Q (some (.inl r)) I1 J Rf G) 78 [some (.inr (.inr th)), some (.inl x1_4), z2_x78] [] (0, 0) Ix_50 J Rf G := by
      intro z2_x78 hq
      have h : m_8_x52_78 th x1_4 Ix_50 = some (r, I1) := hc52_78 () hq.symm
      unfold m_8_x52_78 at h
      refine go_aload_n (pc' := 79) rfl rfl rfl ?_
      refine go_iconst (pc' := 80) (v := (nI 1)) rfl rfl rfl ?_
      refine go_iload_n (pc' := 81) rfl rfl rfl ?_
      obtain ⟨I_81, q_81, h⟩ := o_b1E h
      refine go_callV (pc' := 84) (B' := (0, 0)) (st' := []) rfl rfl (Or.inl (by decide)) rfl rfl hth (md_5 (by omega) hth q_81) rfl rfl rfl ?_
      refine go_iconst (pc' := 85) (v := (-1 : Int32)) rfl rfl rfl ?_
      cases h
      exact go_iret rfl (trivial) ⟨rfl, rfl, rfl, rfl, rfl⟩
    have lo52 : ∀ n s, lp (fun s => m_8_b52 th Rf G x1_4 Ix_50 s) n s = some q52 → (fun s => ai_Go si_t (0, false, 0, cd_8) (ai_Cl si_t si_ms e) (sp_Q (some (.inl r)) I1 J Rf G) 52 [some (.inr (.inr th)), some (.inl x1_4), some (.inl s)] [] (0, 0) Ix_50 J Rf G) s := lp_go (fun s x52 hx hk52 => by
      revert s; intro v2_52 hx
      have h : m_8_b52 th Rf G x1_4 Ix_50 v2_52 = some x52 := hx
      clear hx
      show ai_Go si_t (0, false, 0, cd_8) (ai_Cl si_t si_ms e) (sp_Q (some (.inl r)) I1 J Rf G) 52 [some (.inr (.inr th)), some (.inl x1_4), some (.inl v2_52)] [] (0, 0) Ix_50 J Rf G
      unfold m_8_b52 at h
      refine go_iload_n (pc' := 53) rfl rfl rfl ?_
      refine go_bipush (pc' := 55) (v := (nI 14)) rfl rfl rfl ?_
      refine go_icmp_ge (pt := 78) (pc' := 58) rfl rfl rfl (fun h55 => ?_) (fun h55 => ?_)
      · replace h := o_t h55 h
        exact ex52_78  (some (.inl v2_52)) (lp_exitE h hk52)
      · replace h := o_f h55 h
        refine go_aload_n (pc' := 59) rfl rfl rfl ?_
        refine go_iload_n (pc' := 60) rfl rfl rfl ?_
        obtain ⟨r_60, q_60, h⟩ := o_b1E h
        refine go_callS (pc' := 63) (B' := (0, 0)) (st' := [.inr (.inr r_60), .inr (.inr th)]) rfl rfl (Or.inl (by decide)) rfl rfl trivial (md_10 (by omega) q_60) rfl rfl rfl ?_
        refine go_iload_n (pc' := 64) rfl rfl rfl ?_
        obtain ⟨r_64, q_64, h⟩ := o_b1E h
        refine go_callV (pc' := 67) (B' := (0, 0)) (st' := [.inl r_64]) rfl rfl (Or.inl (by decide)) rfl rfl hth (md_9 (by omega) hth q_64) rfl rfl rfl ?_
        refine go_if_eq (pt := 72) (pc' := 70) rfl rfl rfl (fun h67 => ?_) (fun h67 => ?_)
        · replace h := o_t h67 h
          obtain ⟨x2_72, ex2_72, h⟩ := o_b1E h
          refine go_iincE (pc' := 75) rfl rfl (y := (nI 1)) rfl ex2_72 (lo' := [some (.inr (.inr th)), some (.inl x1_4), some (.inl x2_72)]) rfl rfl ?_
          refine go_goto (pc' := 52) rfl rfl ?_
          exact (lp_backE h hk52 :)
        · replace h := o_f h67 h
          exact ex52_70 _  (lp_exitE h hk52))
    exact lo52 _ (nI 0) hl52 
  have lo12 : ∀ n s, lp (fun s => m_8_b12 th Rf G s.1 s.2) n s = some q12 → (fun s => ai_Go si_t (0, false, 0, cd_8) (ai_Cl si_t si_ms e) (sp_Q (some (.inl r)) I1 J Rf G) 12 [some (.inr (.inr th)), some (.inl x1_4), some (.inl s.1)] [] (0, 0) s.2 J Rf G) s := lp_go (fun s x12 hx hk12 => by
    obtain ⟨v2_12, I_12⟩ := s
    have h : m_8_b12 th Rf G v2_12 I_12 = some x12 := hx
    clear hx
    show ai_Go si_t (0, false, 0, cd_8) (ai_Cl si_t si_ms e) (sp_Q (some (.inl r)) I1 J Rf G) 12 [some (.inr (.inr th)), some (.inl x1_4), some (.inl v2_12)] [] (0, 0) I_12 J Rf G
    unfold m_8_b12 at h
    refine go_iload_n (pc' := 13) rfl rfl rfl ?_
    refine go_if_le (pt := 50) (pc' := 16) rfl rfl rfl (fun h13 => ?_) (fun h13 => ?_)
    · replace h := o_t h13 h
      exact ex12_50 _ (some (.inl v2_12)) (lp_exitE h hk12)
    · replace h := o_f h13 h
      refine go_aload_n (pc' := 17) rfl rfl rfl ?_
      obtain ⟨r_17, q_17, h⟩ := o_b1E h
      refine go_callV (pc' := 20) (B' := (0, 0)) (st' := [.inl r_17]) rfl rfl (Or.inl (by decide)) rfl rfl hth (md_6 (by omega) hth q_17) rfl rfl rfl ?_
      refine go_bipush (pc' := 22) (v := (nI 97)) rfl rfl rfl ?_
      refine go_icmp_lt (pt := 50) (pc' := 25) rfl rfl rfl (fun h22 => ?_) (fun h22 => ?_)
      · replace h := o_t h22 h
        exact ex12_50 _ (some (.inl v2_12)) (lp_exitE h hk12)
      · replace h := o_f h22 h
        refine go_aload_n (pc' := 26) rfl rfl rfl ?_
        obtain ⟨r_26, q_26, h⟩ := o_b1E h
        refine go_callV (pc' := 29) (B' := (0, 0)) (st' := [.inl r_26]) rfl rfl (Or.inl (by decide)) rfl rfl hth (md_6 (by omega) hth q_26) rfl rfl rfl ?_
        refine go_bipush (pc' := 31) (v := (nI 122)) rfl rfl rfl ?_
        refine go_icmp_gt (pt := 50) (pc' := 34) rfl rfl rfl (fun h31 => ?_) (fun h31 => ?_)
        · replace h := o_t h31 h
          exact ex12_50 _ (some (.inl v2_12)) (lp_exitE h hk12)
        · replace h := o_f h31 h
          refine go_aload_n (pc' := 35) rfl rfl rfl ?_
          refine go_dupR (pc' := 36) rfl rfl ?_
          refine go_getI (pc' := 39) rfl rfl (by decide) (by decide) hth rfl ?_
          refine go_iconst (pc' := 40) (v := (nI 1)) rfl rfl rfl ?_
          refine go_iadd (pc' := 41) rfl rfl ?_
          obtain ⟨I_41, eI_41, h⟩ := o_b1E h
          refine go_putI (pc' := 44) rfl rfl (fun h => by cases h) hth rfl ?_
          refine go_ndMI eI_41 ?_
          obtain ⟨x2_44, ex2_44, h⟩ := o_b1E h
          refine go_iincE (pc' := 47) rfl rfl (y := (-1 : Int32)) rfl ex2_44 (lo' := [some (.inr (.inr th)), some (.inl x1_4), some (.inl x2_44)]) rfl rfl ?_
          refine go_goto (pc' := 12) rfl rfl ?_
          exact (lp_backE h hk12 :))
  exact lo12 _ (x2_11, I) hl12 
/-- PricedBases$Clauses.isDigit(I)Z -/
def m_18 (a0 : Int32) : Option (Int32) :=
  if a0 < (nI 48) then (some (nI 0)) else (if (nI 57) < a0 then (some (nI 0)) else (some (nI 1)))
theorem md_18 {d : Nat} {I : ai_I} {J : ai_J} {Rf : ai_R} {G : ai_G} {a0 : Int32} {r : Int32} (hd : 1 ≤ d) (h : m_18 a0 = some r) : ai_Cl si_t si_ms d 18 [.inl a0] I J Rf G (some (.inl r)) I J Rf G := by
  obtain ⟨e, rfl⟩ : ∃ e, d = e + 1 := ⟨d - 1, by omega⟩
  unfold m_18 at h
  refine sp_in (lo := [some (.inl a0)]) (B := (0, 0)) rfl (Nat.le_of_ble_eq_true rfl) rfl rfl ?_
  refine go_iload_n (pc' := 1) rfl rfl rfl ?_
  refine go_bipush (pc' := 3) (v := (nI 48)) rfl rfl rfl ?_
  refine go_icmp_lt (pt := 16) (pc' := 6) rfl rfl rfl (fun h3 => ?_) (fun h3 => ?_)
  · replace h := o_t h3 h
    refine go_iconst (pc' := 17) (v := (nI 0)) rfl rfl rfl ?_
    cases h
    exact go_iret rfl (rfl) ⟨rfl, rfl, rfl, rfl, rfl⟩
  · replace h := o_f h3 h
    refine go_iload_n (pc' := 7) rfl rfl rfl ?_
    refine go_bipush (pc' := 9) (v := (nI 57)) rfl rfl rfl ?_
    refine go_icmp_gt (pt := 16) (pc' := 12) rfl rfl rfl (fun h9 => ?_) (fun h9 => ?_)
    · replace h := o_t h9 h
      refine go_iconst (pc' := 17) (v := (nI 0)) rfl rfl rfl ?_
      cases h
      exact go_iret rfl (rfl) ⟨rfl, rfl, rfl, rfl, rfl⟩
    · replace h := o_f h9 h
      refine go_iconst (pc' := 13) (v := (nI 1)) rfl rfl rfl ?_
      refine go_goto (pc' := 17) rfl rfl ?_
      cases h
      exact go_iret rfl (rfl) ⟨rfl, rfl, rfl, rfl, rfl⟩
def m_17_x9_54 (th : Nat) (Rf : ai_R) (G : ai_G) (x1_4 : Int32) (w2_54 : Int32) (Ix_54 : ai_I) : Option (Int32 × ai_I) :=
  if (Ix_54 th 4) = x1_4 then (o_b1 (m_5 th (nI 1) (Ix_54 th 4) Ix_54) (fun I_68 => some (w2_54, I_68))) else (o_b1 (m_6 th Ix_54 Rf G) (fun r_75 => o_b1 (m_18 r_75) (fun r_78 => if r_78 = 0 then (some (w2_54, Ix_54)) else (o_b1 (m_5 th (nI 2) (Ix_54 th 4) Ix_54) (fun I_90 => some (w2_54, I_90))))))
def m_17_b9 (th : Nat) (Rf : ai_R) (G : ai_G) (v2_9 : Int32) (v3_9 : Int32) (I_9 : ai_I) : Option ((Int32 × Int32 × ai_I) ⊕ (Int32 × ai_I)) :=
  if (nI 7) ≤ v3_9 then (some (Sum.inr (v2_9, I_9))) else (o_b1 (m_6 th I_9 Rf G) (fun r_16 => o_b1 (m_18 r_16) (fun r_19 => if r_19 = 0 then (some (Sum.inr (v2_9, I_9))) else (o_b1 (m_6 th I_9 Rf G) (fun r_30 => o_b1 (some (((v2_9 * (nI 10)) + r_30) - (nI 48))) (fun x2_37 => o_b1 (some (va_up I_9 th (va_up (I_9 th) 4 ((I_9 th 4) + (nI 1))))) (fun I_45 => o_b1 (some (v3_9 + (nI 1))) (fun x3_48 => some (Sum.inl (x2_37, x3_48, I_45))))))))))
/-- PricedBases$Clauses.readDigits()I -/
def m_17 (th : Nat) (I : ai_I) (Rf : ai_R) (G : ai_G) : Option (Int32 × ai_I) :=
  o_b1 (some (I th 4)) (fun x1_4 => o_s1 (lp (fun s => m_17_b9 th Rf G s.1 s.2.1 s.2.2) o_N ((nI 0), (nI 0), I)) (fun t => m_17_x9_54 th Rf G x1_4 t.1 t.2))
theorem md_17 {d : Nat} {I : ai_I} {J : ai_J} {Rf : ai_R} {G : ai_G} {th : Nat} {r : Int32} {I1 : ai_I} (hd : 2 ≤ d) (hth : G.1 th = 0) (h : m_17 th I Rf G = some (r, I1)) : ai_Cl si_t si_ms d 17 [.inr (.inr th)] I J Rf G (some (.inl r)) I1 J Rf G := by
  obtain ⟨e, rfl⟩ : ∃ e, d = e + 1 := ⟨d - 1, by omega⟩
  unfold m_17 at h
  refine sp_in (lo := [some (.inr (.inr th)), none, none, none]) (B := (0, 0)) rfl (Nat.le_of_ble_eq_true rfl) rfl rfl ?_
  refine go_aload_n (pc' := 1) rfl rfl rfl ?_
  refine go_getI (pc' := 4) rfl rfl (by decide) (by decide) hth rfl ?_
  obtain ⟨x1_4, ex1_4, h⟩ := o_b1E h
  refine go_ndI ex1_4 ?_
  refine go_istore_n (pc' := 5) (lo' := [some (.inr (.inr th)), some (.inl x1_4), none, none]) rfl rfl rfl ?_
  refine go_iconst (pc' := 6) (v := (nI 0)) rfl rfl rfl ?_
  refine go_istore_n (pc' := 7) (lo' := [some (.inr (.inr th)), some (.inl x1_4), some (.inl (nI 0)), none]) rfl rfl rfl ?_
  refine go_iconst (pc' := 8) (v := (nI 0)) rfl rfl rfl ?_
  refine go_istore_n (pc' := 9) (lo' := [some (.inr (.inr th)), some (.inl x1_4), some (.inl (nI 0)), some (.inl (nI 0))]) rfl rfl rfl ?_
  obtain ⟨q9, hl9, hc9_54⟩ := o_s1E h
  have ex9_54 : ∀ (w2_54 : Int32) (Ix_54 : ai_I) (z3_x54 : Option ai_V), (w2_54, Ix_54) = q9 → ai_Go si_t (0, false, 0, cd_17) (ai_Cl si_t si_ms e) (sp_Q (some (.inl r)) I1 J Rf G) 54 [some (.inr (.inr th)), some (.inl x1_4), some (.inl w2_54), z3_x54] [] (0, 0) Ix_54 J Rf G := by
    intro w2_54 Ix_54 z3_x54 hq
    have h : m_17_x9_54 th Rf G x1_4 w2_54 Ix_54 = some (r, I1) := hc9_54 (w2_54, Ix_54) hq.symm
    unfold m_17_x9_54 at h
    refine go_aload_n (pc' := 55) rfl rfl rfl ?_
    refine go_getI (pc' := 58) rfl rfl (by decide) (by decide) hth rfl ?_
    refine go_iload_n (pc' := 59) rfl rfl rfl ?_
    refine go_icmp_ne (pt := 74) (pc' := 62) rfl rfl rfl (fun h59 => ?_) (fun h59 => ?_)
    · replace h := o_f h59 h
      refine go_aload_n (pc' := 75) rfl rfl rfl ?_
      obtain ⟨r_75, q_75, h⟩ := o_b1E h
      refine go_callV (pc' := 78) (B' := (0, 0)) (st' := [.inl r_75]) rfl rfl (Or.inl (by decide)) rfl rfl hth (md_6 (by omega) hth q_75) rfl rfl rfl ?_
      obtain ⟨r_78, q_78, h⟩ := o_b1E h
      refine go_callS (pc' := 81) (B' := (0, 0)) (st' := [.inl r_78]) rfl rfl (Or.inl (by decide)) rfl rfl trivial (md_18 (by omega) q_78) rfl rfl rfl ?_
      refine go_if_eq (pt := 93) (pc' := 84) rfl rfl rfl (fun h81 => ?_) (fun h81 => ?_)
      · replace h := o_t h81 h
        refine go_iload_n (pc' := 94) rfl rfl rfl ?_
        cases h
        exact go_iret rfl (trivial) ⟨rfl, rfl, rfl, rfl, rfl⟩
      · replace h := o_f h81 h
        refine go_aload_n (pc' := 85) rfl rfl rfl ?_
        refine go_iconst (pc' := 86) (v := (nI 2)) rfl rfl rfl ?_
        refine go_aload_n (pc' := 87) rfl rfl rfl ?_
        refine go_getI (pc' := 90) rfl rfl (by decide) (by decide) hth rfl ?_
        obtain ⟨I_90, q_90, h⟩ := o_b1E h
        refine go_callV (pc' := 93) (B' := (0, 0)) (st' := []) rfl rfl (Or.inl (by decide)) rfl rfl hth (md_5 (by omega) hth q_90) rfl rfl rfl ?_
        refine go_iload_n (pc' := 94) rfl rfl rfl ?_
        cases h
        exact go_iret rfl (trivial) ⟨rfl, rfl, rfl, rfl, rfl⟩
    · replace h := o_t (Decidable.of_not_not h59) h
      refine go_aload_n (pc' := 63) rfl rfl rfl ?_
      refine go_iconst (pc' := 64) (v := (nI 1)) rfl rfl rfl ?_
      refine go_aload_n (pc' := 65) rfl rfl rfl ?_
      refine go_getI (pc' := 68) rfl rfl (by decide) (by decide) hth rfl ?_
      obtain ⟨I_68, q_68, h⟩ := o_b1E h
      refine go_callV (pc' := 71) (B' := (0, 0)) (st' := []) rfl rfl (Or.inl (by decide)) rfl rfl hth (md_5 (by omega) hth q_68) rfl rfl rfl ?_
      refine go_goto (pc' := 93) rfl rfl ?_
      refine go_iload_n (pc' := 94) rfl rfl rfl ?_
      cases h
      exact go_iret rfl (trivial) ⟨rfl, rfl, rfl, rfl, rfl⟩
  have lo9 : ∀ n s, lp (fun s => m_17_b9 th Rf G s.1 s.2.1 s.2.2) n s = some q9 → (fun s => ai_Go si_t (0, false, 0, cd_17) (ai_Cl si_t si_ms e) (sp_Q (some (.inl r)) I1 J Rf G) 9 [some (.inr (.inr th)), some (.inl x1_4), some (.inl s.1), some (.inl s.2.1)] [] (0, 0) s.2.2 J Rf G) s := lp_go (fun s x9 hx hk9 => by
    obtain ⟨v2_9, v3_9, I_9⟩ := s
    have h : m_17_b9 th Rf G v2_9 v3_9 I_9 = some x9 := hx
    clear hx
    show ai_Go si_t (0, false, 0, cd_17) (ai_Cl si_t si_ms e) (sp_Q (some (.inl r)) I1 J Rf G) 9 [some (.inr (.inr th)), some (.inl x1_4), some (.inl v2_9), some (.inl v3_9)] [] (0, 0) I_9 J Rf G
    unfold m_17_b9 at h
    refine go_iload_n (pc' := 10) rfl rfl rfl ?_
    refine go_bipush (pc' := 12) (v := (nI 7)) rfl rfl rfl ?_
    refine go_icmp_ge (pt := 54) (pc' := 15) rfl rfl rfl (fun h12 => ?_) (fun h12 => ?_)
    · replace h := o_t h12 h
      exact ex9_54 _ _ (some (.inl v3_9)) (lp_exitE h hk9)
    · replace h := o_f h12 h
      refine go_aload_n (pc' := 16) rfl rfl rfl ?_
      obtain ⟨r_16, q_16, h⟩ := o_b1E h
      refine go_callV (pc' := 19) (B' := (0, 0)) (st' := [.inl r_16]) rfl rfl (Or.inl (by decide)) rfl rfl hth (md_6 (by omega) hth q_16) rfl rfl rfl ?_
      obtain ⟨r_19, q_19, h⟩ := o_b1E h
      refine go_callS (pc' := 22) (B' := (0, 0)) (st' := [.inl r_19]) rfl rfl (Or.inl (by decide)) rfl rfl trivial (md_18 (by omega) q_19) rfl rfl rfl ?_
      refine go_if_eq (pt := 54) (pc' := 25) rfl rfl rfl (fun h22 => ?_) (fun h22 => ?_)
      · replace h := o_t h22 h
        exact ex9_54 _ _ (some (.inl v3_9)) (lp_exitE h hk9)
      · replace h := o_f h22 h
        refine go_iload_n (pc' := 26) rfl rfl rfl ?_
        refine go_bipush (pc' := 28) (v := (nI 10)) rfl rfl rfl ?_
        refine go_imul (pc' := 29) rfl rfl ?_
        refine go_aload_n (pc' := 30) rfl rfl rfl ?_
        obtain ⟨r_30, q_30, h⟩ := o_b1E h
        refine go_callV (pc' := 33) (B' := (0, 0)) (st' := [.inl r_30, .inl (v2_9 * (nI 10))]) rfl rfl (Or.inl (by decide)) rfl rfl hth (md_6 (by omega) hth q_30) rfl rfl rfl ?_
        refine go_iadd (pc' := 34) rfl rfl ?_
        refine go_bipush (pc' := 36) (v := (nI 48)) rfl rfl rfl ?_
        refine go_isub (pc' := 37) rfl rfl ?_
        obtain ⟨x2_37, ex2_37, h⟩ := o_b1E h
        refine go_ndI ex2_37 ?_
        refine go_istore_n (pc' := 38) (lo' := [some (.inr (.inr th)), some (.inl x1_4), some (.inl x2_37), some (.inl v3_9)]) rfl rfl rfl ?_
        refine go_aload_n (pc' := 39) rfl rfl rfl ?_
        refine go_dupR (pc' := 40) rfl rfl ?_
        refine go_getI (pc' := 43) rfl rfl (by decide) (by decide) hth rfl ?_
        refine go_iconst (pc' := 44) (v := (nI 1)) rfl rfl rfl ?_
        refine go_iadd (pc' := 45) rfl rfl ?_
        obtain ⟨I_45, eI_45, h⟩ := o_b1E h
        refine go_putI (pc' := 48) rfl rfl (fun h => by cases h) hth rfl ?_
        refine go_ndMI eI_45 ?_
        obtain ⟨x3_48, ex3_48, h⟩ := o_b1E h
        refine go_iincE (pc' := 51) rfl rfl (y := (nI 1)) rfl ex3_48 (lo' := [some (.inr (.inr th)), some (.inl x1_4), some (.inl x2_37), some (.inl x3_48)]) rfl rfl ?_
        refine go_goto (pc' := 9) rfl rfl ?_
        exact (lp_backE h hk9 :))
  exact lo9 _ ((nI 0), (nI 0), I) hl9 
def m_16_j112 (th : Nat) (Rf : ai_R) (G : ai_G) (t0_92 : Int32) (I_112 : ai_I) : Option (Int32 × ai_I) :=
  if (nI 100) ≤ (I_112 th 8) then (some (t0_92, I_112)) else (o_g (o_in G 13 (Rf th 7) (I_112 th 8)) (o_b1 (some (va_up I_112 (Rf th 7) (va_up (I_112 (Rf th 7)) (I_112 th 8).toNatClampNeg t0_92))) (fun I_131 => o_b1 (some (va_up I_131 th (va_up (I_131 th) 8 ((I_131 th 8) + (nI 1))))) (fun I_139 => some (t0_92, I_139)))))
def m_16_j106 (th : Nat) (Rf : ai_R) (G : ai_G) (x3_41 : Int32) (I_74 : ai_I) (t0_92 : Int32) : Option (Int32 × ai_I) :=
  o_b1 (m_5 th (nI 3) x3_41 I_74) (fun I_109 => m_16_j112 th Rf G t0_92 I_109)
def m_16_j92 (th : Nat) (a0 : Int32) (a1 : Int32) (Rf : ai_R) (G : ai_G) (x3_41 : Int32) (I_74 : ai_I) (t0_92 : Int32) : Option (Int32 × ai_I) :=
  if t0_92 < a0 then (m_16_j106 th Rf G x3_41 I_74 t0_92) else (if t0_92 ≤ a1 then (m_16_j112 th Rf G t0_92 I_74) else (m_16_j106 th Rf G x3_41 I_74 t0_92))
def m_16_j73 (th : Nat) (a0 : Int32) (a1 : Int32) (Rf : ai_R) (G : ai_G) (x3_41 : Int32) (t0_56 : Int32) (I_73 : ai_I) : Option (Int32 × ai_I) :=
  o_b2 (m_17 th I_73 Rf G) (fun r_74 I_74 => if t0_56 = 0 then (m_16_j92 th a0 a1 Rf G x3_41 I_74 r_74) else (m_16_j92 th a0 a1 Rf G x3_41 I_74 (-r_74)))
def m_16_j56 (th : Nat) (a0 : Int32) (a1 : Int32) (Rf : ai_R) (G : ai_G) (I_34 : ai_I) (x3_41 : Int32) (t0_56 : Int32) : Option (Int32 × ai_I) :=
  if t0_56 = 0 then (m_16_j73 th a0 a1 Rf G x3_41 t0_56 I_34) else (o_b1 (some (va_up I_34 th (va_up (I_34 th) 4 ((I_34 th 4) + (nI 1))))) (fun I_70 => m_16_j73 th a0 a1 Rf G x3_41 t0_56 I_70))
def m_16_j18 (th : Nat) (a0 : Int32) (a1 : Int32) (Rf : ai_R) (G : ai_G) (I_18 : ai_I) : Option (Int32 × ai_I) :=
  if (I_18 th 1) = 0 then (o_b1 (some (va_up I_18 th (va_up (I_18 th) 4 ((I_18 th 4) + (nI 1))))) (fun I_34 => o_b1 (some (I_34 th 4)) (fun x3_41 => o_b1 (m_6 th I_34 Rf G) (fun r_43 => if r_43 = (nI 45) then (m_16_j56 th a0 a1 Rf G I_34 x3_41 (nI 1)) else (m_16_j56 th a0 a1 Rf G I_34 x3_41 (nI 0)))))) else (some ((nI 0), I_18))
/-- PricedBases$Clauses.readNumber(II)I -/
def m_16 (th : Nat) (a0 : Int32) (a1 : Int32) (I : ai_I) (Rf : ai_R) (G : ai_G) : Option (Int32 × ai_I) :=
  o_b1 (m_6 th I Rf G) (fun r_1 => if r_1 = (nI 32) then (m_16_j18 th a0 a1 Rf G I) else (o_b1 (m_5 th (nI 1) (I th 4) I) (fun I_15 => m_16_j18 th a0 a1 Rf G I_15)))
theorem md_16 {d : Nat} {I : ai_I} {J : ai_J} {Rf : ai_R} {G : ai_G} {th : Nat} {a0 : Int32} {a1 : Int32} {r : Int32} {I1 : ai_I} (hd : 3 ≤ d) (hth : G.1 th = 0) (h : m_16 th a0 a1 I Rf G = some (r, I1)) : ai_Cl si_t si_ms d 16 [.inr (.inr th), .inl a0, .inl a1] I J Rf G (some (.inl r)) I1 J Rf G := by
  obtain ⟨e, rfl⟩ : ∃ e, d = e + 1 := ⟨d - 1, by omega⟩
  unfold m_16 at h
  refine sp_in (lo := [some (.inr (.inr th)), some (.inl a0), some (.inl a1), none, none, none, none]) (B := (0, 0)) rfl (Nat.le_of_ble_eq_true rfl) rfl rfl ?_
  refine go_aload_n (pc' := 1) rfl rfl rfl ?_
  obtain ⟨r_1, q_1, h⟩ := o_b1E h
  refine go_callV (pc' := 4) (B' := (0, 0)) (st' := [.inl r_1]) rfl rfl (Or.inl (by decide)) rfl rfl hth (md_6 (by omega) hth q_1) rfl rfl rfl ?_
  refine go_bipush (pc' := 6) (v := (nI 32)) rfl rfl rfl ?_
  have jn18 : ∀ (I_18 : ai_I), m_16_j18 th a0 a1 Rf G I_18 = some (r, I1) → ai_Go si_t (0, false, 0, cd_16) (ai_Cl si_t si_ms e) (sp_Q (some (.inl r)) I1 J Rf G) 18 [some (.inr (.inr th)), some (.inl a0), some (.inl a1), none, none, none, none] [] (0, 0) I_18 J Rf G := by
    intro I_18 h
    unfold m_16_j18 at h
    refine go_aload_n (pc' := 19) rfl rfl rfl ?_
    refine go_getI (pc' := 22) rfl rfl (by decide) (by decide) hth rfl ?_
    refine go_if_eq (pt := 27) (pc' := 25) rfl rfl rfl (fun h22 => ?_) (fun h22 => ?_)
    · replace h := o_t h22 h
      refine go_aload_n (pc' := 28) rfl rfl rfl ?_
      refine go_dupR (pc' := 29) rfl rfl ?_
      refine go_getI (pc' := 32) rfl rfl (by decide) (by decide) hth rfl ?_
      refine go_iconst (pc' := 33) (v := (nI 1)) rfl rfl rfl ?_
      refine go_iadd (pc' := 34) rfl rfl ?_
      obtain ⟨I_34, eI_34, h⟩ := o_b1E h
      refine go_putI (pc' := 37) rfl rfl (fun h => by cases h) hth rfl ?_
      refine go_ndMI eI_34 ?_
      refine go_aload_n (pc' := 38) rfl rfl rfl ?_
      refine go_getI (pc' := 41) rfl rfl (by decide) (by decide) hth rfl ?_
      obtain ⟨x3_41, ex3_41, h⟩ := o_b1E h
      refine go_ndI ex3_41 ?_
      refine go_istore_n (pc' := 42) (lo' := [some (.inr (.inr th)), some (.inl a0), some (.inl a1), some (.inl x3_41), none, none, none]) rfl rfl rfl ?_
      refine go_aload_n (pc' := 43) rfl rfl rfl ?_
      obtain ⟨r_43, q_43, h⟩ := o_b1E h
      refine go_callV (pc' := 46) (B' := (0, 0)) (st' := [.inl r_43]) rfl rfl (Or.inl (by decide)) rfl rfl hth (md_6 (by omega) hth q_43) rfl rfl rfl ?_
      refine go_bipush (pc' := 48) (v := (nI 45)) rfl rfl rfl ?_
      have jn56 : ∀ (t0_56 : Int32), m_16_j56 th a0 a1 Rf G I_34 x3_41 t0_56 = some (r, I1) → ai_Go si_t (0, false, 0, cd_16) (ai_Cl si_t si_ms e) (sp_Q (some (.inl r)) I1 J Rf G) 56 [some (.inr (.inr th)), some (.inl a0), some (.inl a1), some (.inl x3_41), none, none, none] [.inl t0_56] (0, 0) I_34 J Rf G := by
        intro t0_56 h
        unfold m_16_j56 at h
        refine go_istore (pc' := 58) (lo' := [some (.inr (.inr th)), some (.inl a0), some (.inl a1), some (.inl x3_41), some (.inl t0_56), none, none]) rfl rfl rfl ?_
        refine go_iload (pc' := 60) rfl rfl rfl ?_
        have jn73 : ∀ (I_73 : ai_I), m_16_j73 th a0 a1 Rf G x3_41 t0_56 I_73 = some (r, I1) → ai_Go si_t (0, false, 0, cd_16) (ai_Cl si_t si_ms e) (sp_Q (some (.inl r)) I1 J Rf G) 73 [some (.inr (.inr th)), some (.inl a0), some (.inl a1), some (.inl x3_41), some (.inl t0_56), none, none] [] (0, 0) I_73 J Rf G := by
          intro I_73 h
          unfold m_16_j73 at h
          refine go_aload_n (pc' := 74) rfl rfl rfl ?_
          obtain ⟨r_74, I_74, q_74, h⟩ := o_b2E h
          refine go_callV (pc' := 77) (B' := (0, 0)) (st' := [.inl r_74]) rfl rfl (Or.inl (by decide)) rfl rfl hth (md_17 (by omega) hth q_74) rfl rfl rfl ?_
          refine go_istore (pc' := 79) (lo' := [some (.inr (.inr th)), some (.inl a0), some (.inl a1), some (.inl x3_41), some (.inl t0_56), some (.inl r_74), none]) rfl rfl rfl ?_
          refine go_iload (pc' := 81) rfl rfl rfl ?_
          have jn92 : ∀ (t0_92 : Int32), m_16_j92 th a0 a1 Rf G x3_41 I_74 t0_92 = some (r, I1) → ai_Go si_t (0, false, 0, cd_16) (ai_Cl si_t si_ms e) (sp_Q (some (.inl r)) I1 J Rf G) 92 [some (.inr (.inr th)), some (.inl a0), some (.inl a1), some (.inl x3_41), some (.inl t0_56), some (.inl r_74), none] [.inl t0_92] (0, 0) I_74 J Rf G := by
            intro t0_92 h
            unfold m_16_j92 at h
            refine go_istore (pc' := 94) (lo' := [some (.inr (.inr th)), some (.inl a0), some (.inl a1), some (.inl x3_41), some (.inl t0_56), some (.inl r_74), some (.inl t0_92)]) rfl rfl rfl ?_
            refine go_iload (pc' := 96) rfl rfl rfl ?_
            refine go_iload_n (pc' := 97) rfl rfl rfl ?_
            have jn112 : ∀ (I_112 : ai_I), m_16_j112 th Rf G t0_92 I_112 = some (r, I1) → ai_Go si_t (0, false, 0, cd_16) (ai_Cl si_t si_ms e) (sp_Q (some (.inl r)) I1 J Rf G) 112 [some (.inr (.inr th)), some (.inl a0), some (.inl a1), some (.inl x3_41), some (.inl t0_56), some (.inl r_74), some (.inl t0_92)] [] (0, 0) I_112 J Rf G := by
              intro I_112 h
              unfold m_16_j112 at h
              refine go_aload_n (pc' := 113) rfl rfl rfl ?_
              refine go_getI (pc' := 116) rfl rfl (by decide) (by decide) hth rfl ?_
              refine go_bipush (pc' := 118) (v := (nI 100)) rfl rfl rfl ?_
              refine go_icmp_ge (pt := 142) (pc' := 121) rfl rfl rfl (fun h118 => ?_) (fun h118 => ?_)
              · replace h := o_t h118 h
                refine go_iload (pc' := 144) rfl rfl rfl ?_
                cases h
                exact go_iret rfl (trivial) ⟨rfl, rfl, rfl, rfl, rfl⟩
              · replace h := o_f h118 h
                refine go_aload_n (pc' := 122) rfl rfl rfl ?_
                refine go_getR (pc' := 125) rfl rfl hth rfl ?_
                refine go_aload_n (pc' := 126) rfl rfl rfl ?_
                refine go_getI (pc' := 129) rfl rfl (by decide) (by decide) hth rfl ?_
                refine go_iload (pc' := 131) rfl rfl rfl ?_
                obtain ⟨g0, h⟩ := o_gE h
                obtain ⟨I_131, eI_131, h⟩ := o_b1E h
                refine go_iastore (pc' := 132) rfl (o_inK g0) (o_inB g0) rfl ?_
                refine go_ndMI eI_131 ?_
                refine go_aload_n (pc' := 133) rfl rfl rfl ?_
                refine go_dupR (pc' := 134) rfl rfl ?_
                refine go_getI (pc' := 137) rfl rfl (by decide) (by decide) hth rfl ?_
                refine go_iconst (pc' := 138) (v := (nI 1)) rfl rfl rfl ?_
                refine go_iadd (pc' := 139) rfl rfl ?_
                obtain ⟨I_139, eI_139, h⟩ := o_b1E h
                refine go_putI (pc' := 142) rfl rfl (fun h => by cases h) hth rfl ?_
                refine go_ndMI eI_139 ?_
                refine go_iload (pc' := 144) rfl rfl rfl ?_
                cases h
                exact go_iret rfl (trivial) ⟨rfl, rfl, rfl, rfl, rfl⟩
            have jn106 : m_16_j106 th Rf G x3_41 I_74 t0_92 = some (r, I1) → ai_Go si_t (0, false, 0, cd_16) (ai_Cl si_t si_ms e) (sp_Q (some (.inl r)) I1 J Rf G) 106 [some (.inr (.inr th)), some (.inl a0), some (.inl a1), some (.inl x3_41), some (.inl t0_56), some (.inl r_74), some (.inl t0_92)] [] (0, 0) I_74 J Rf G := by
              intro h
              unfold m_16_j106 at h
              refine go_aload_n (pc' := 107) rfl rfl rfl ?_
              refine go_iconst (pc' := 108) (v := (nI 3)) rfl rfl rfl ?_
              refine go_iload_n (pc' := 109) rfl rfl rfl ?_
              obtain ⟨I_109, q_109, h⟩ := o_b1E h
              refine go_callV (pc' := 112) (B' := (0, 0)) (st' := []) rfl rfl (Or.inl (by decide)) rfl rfl hth (md_5 (by omega) hth q_109) rfl rfl rfl ?_
              exact jn112 I_109 h
            refine go_icmp_lt (pt := 106) (pc' := 100) rfl rfl rfl (fun h97 => ?_) (fun h97 => ?_)
            · replace h := o_t h97 h
              exact jn106  h
            · replace h := o_f h97 h
              refine go_iload (pc' := 102) rfl rfl rfl ?_
              refine go_iload_n (pc' := 103) rfl rfl rfl ?_
              refine go_icmp_le (pt := 112) (pc' := 106) rfl rfl rfl (fun h103 => ?_) (fun h103 => ?_)
              · replace h := o_t h103 h
                exact jn112 I_74 h
              · replace h := o_f h103 h
                exact jn106  h
          refine go_if_eq (pt := 90) (pc' := 84) rfl rfl rfl (fun h81 => ?_) (fun h81 => ?_)
          · replace h := o_t h81 h
            refine go_iload (pc' := 92) rfl rfl rfl ?_
            exact jn92 r_74 h
          · replace h := o_f h81 h
            refine go_iload (pc' := 86) rfl rfl rfl ?_
            refine go_ineg (pc' := 87) rfl rfl ?_
            refine go_goto (pc' := 92) rfl rfl ?_
            exact jn92 (-r_74) h
        refine go_if_eq (pt := 73) (pc' := 63) rfl rfl rfl (fun h60 => ?_) (fun h60 => ?_)
        · replace h := o_t h60 h
          exact jn73 I_34 h
        · replace h := o_f h60 h
          refine go_aload_n (pc' := 64) rfl rfl rfl ?_
          refine go_dupR (pc' := 65) rfl rfl ?_
          refine go_getI (pc' := 68) rfl rfl (by decide) (by decide) hth rfl ?_
          refine go_iconst (pc' := 69) (v := (nI 1)) rfl rfl rfl ?_
          refine go_iadd (pc' := 70) rfl rfl ?_
          obtain ⟨I_70, eI_70, h⟩ := o_b1E h
          refine go_putI (pc' := 73) rfl rfl (fun h => by cases h) hth rfl ?_
          refine go_ndMI eI_70 ?_
          exact jn73 I_70 h
      refine go_icmp_ne (pt := 55) (pc' := 51) rfl rfl rfl (fun h48 => ?_) (fun h48 => ?_)
      · replace h := o_f h48 h
        refine go_iconst (pc' := 56) (v := (nI 0)) rfl rfl rfl ?_
        exact jn56 (nI 0) h
      · replace h := o_t (Decidable.of_not_not h48) h
        refine go_iconst (pc' := 52) (v := (nI 1)) rfl rfl rfl ?_
        refine go_goto (pc' := 56) rfl rfl ?_
        exact jn56 (nI 1) h
    · replace h := o_f h22 h
      refine go_iconst (pc' := 26) (v := (nI 0)) rfl rfl rfl ?_
      cases h
      exact go_iret rfl (trivial) ⟨rfl, rfl, rfl, rfl, rfl⟩
  refine go_icmp_eq (pt := 18) (pc' := 9) rfl rfl rfl (fun h6 => ?_) (fun h6 => ?_)
  · replace h := o_t h6 h
    exact jn18 I h
  · replace h := o_f h6 h
    refine go_aload_n (pc' := 10) rfl rfl rfl ?_
    refine go_iconst (pc' := 11) (v := (nI 1)) rfl rfl rfl ?_
    refine go_aload_n (pc' := 12) rfl rfl rfl ?_
    refine go_getI (pc' := 15) rfl rfl (by decide) (by decide) hth rfl ?_
    obtain ⟨I_15, q_15, h⟩ := o_b1E h
    refine go_callV (pc' := 18) (B' := (0, 0)) (st' := []) rfl rfl (Or.inl (by decide)) rfl rfl hth (md_5 (by omega) hth q_15) rfl rfl rfl ?_
    exact jn18 I_15 h
def m_11_j92 (th : Nat) (Rf : ai_R) (G : ai_G) (I_76 : ai_I) : Option (ai_I) :=
  o_b2 (m_16 th (nI 0) (nI 7) I_76 Rf G) (fun r_96 I_96 => some I_96)
def m_11_j115 (th : Nat) (Rf : ai_R) (G : ai_G) (I_76 : ai_I) : Option (ai_I) :=
  o_b2 (m_16 th (nI 0) (nI 3) I_76 Rf G) (fun r_118 I_118 => some I_118)
def m_11_j68 (th : Nat) (Rf : ai_R) (G : ai_G) (I_40 : ai_I) (t1_55 : Int32) (t2_68 : Int32) : Option (ai_I) :=
  o_b2 (m_16 th t1_55 t2_68 I_40 Rf G) (fun r_68 I_68 => some I_68)
def m_11_j55 (th : Nat) (a0 : Int32) (Rf : ai_R) (G : ai_G) (r_40 : Int32) (I_40 : ai_I) (t1_55 : Int32) : Option (ai_I) :=
  if a0 = (nI 3) then (m_11_j68 th Rf G I_40 t1_55 (nI 6)) else (m_11_j68 th Rf G I_40 t1_55 (r_40 - (nI 1)))
/-- PricedBases$Clauses.readHead(I)V -/
def m_11 (th : Nat) (a0 : Int32) (I : ai_I) (Rf : ai_R) (G : ai_G) : Option (ai_I) :=
  if a0 = 0 then (o_b2 (m_16 th (nI 0) (nI 7) I Rf G) (fun r_8 I_8 => o_b2 (m_16 th (-1000 : Int32) (nI 1000) I_8 Rf G) (fun r_19 I_19 => some I_19))) else (o_b2 (m_16 th (nI 0) (nI 3) I Rf G) (fun r_27 I_27 => if (nI 4) < a0 then (o_b2 (m_16 th (nI 0) (nI 3) I_27 Rf G) (fun r_76 I_76 => if a0 = (nI 6) then (m_11_j92 th Rf G I_76) else (if a0 = (nI 7) then (m_11_j92 th Rf G I_76) else (if a0 = (nI 9) then (m_11_j115 th Rf G I_76) else (if a0 = (nI 13) then (m_11_j115 th Rf G I_76) else (some I_76)))))) else (o_b2 (m_16 th (nI 2) (nI 8) I_27 Rf G) (fun r_40 I_40 => if a0 = (nI 3) then (m_11_j55 th a0 Rf G r_40 I_40 (nI 2)) else (m_11_j55 th a0 Rf G r_40 I_40 (nI 1))))))
theorem md_11 {d : Nat} {I : ai_I} {J : ai_J} {Rf : ai_R} {G : ai_G} {th : Nat} {a0 : Int32} {I1 : ai_I} (hd : 4 ≤ d) (hth : G.1 th = 0) (h : m_11 th a0 I Rf G = some I1) : ai_Cl si_t si_ms d 11 [.inr (.inr th), .inl a0] I J Rf G none I1 J Rf G := by
  obtain ⟨e, rfl⟩ : ∃ e, d = e + 1 := ⟨d - 1, by omega⟩
  unfold m_11 at h
  refine sp_in (lo := [some (.inr (.inr th)), some (.inl a0), none]) (B := (0, 0)) rfl (Nat.le_of_ble_eq_true rfl) rfl rfl ?_
  refine go_iload_n (pc' := 1) rfl rfl rfl ?_
  refine go_if_ne (pt := 24) (pc' := 4) rfl rfl rfl (fun h1 => ?_) (fun h1 => ?_)
  · replace h := o_f h1 h
    refine go_aload_n (pc' := 25) rfl rfl rfl ?_
    refine go_iconst (pc' := 26) (v := (nI 0)) rfl rfl rfl ?_
    refine go_iconst (pc' := 27) (v := (nI 3)) rfl rfl rfl ?_
    obtain ⟨r_27, I_27, q_27, h⟩ := o_b2E h
    refine go_callV (pc' := 30) (B' := (0, 0)) (st' := [.inl r_27]) rfl rfl (Or.inl (by decide)) rfl rfl hth (md_16 (by omega) hth q_27) rfl rfl rfl ?_
    refine go_popI (pc' := 31) rfl rfl ?_
    refine go_iload_n (pc' := 32) rfl rfl rfl ?_
    refine go_iconst (pc' := 33) (v := (nI 4)) rfl rfl rfl ?_
    refine go_icmp_gt (pt := 73) (pc' := 36) rfl rfl rfl (fun h33 => ?_) (fun h33 => ?_)
    · replace h := o_t h33 h
      refine go_aload_n (pc' := 74) rfl rfl rfl ?_
      refine go_iconst (pc' := 75) (v := (nI 0)) rfl rfl rfl ?_
      refine go_iconst (pc' := 76) (v := (nI 3)) rfl rfl rfl ?_
      obtain ⟨r_76, I_76, q_76, h⟩ := o_b2E h
      refine go_callV (pc' := 79) (B' := (0, 0)) (st' := [.inl r_76]) rfl rfl (Or.inl (by decide)) rfl rfl hth (md_16 (by omega) hth q_76) rfl rfl rfl ?_
      refine go_popI (pc' := 80) rfl rfl ?_
      refine go_iload_n (pc' := 81) rfl rfl rfl ?_
      refine go_bipush (pc' := 83) (v := (nI 6)) rfl rfl rfl ?_
      have jn92 : m_11_j92 th Rf G I_76 = some I1 → ai_Go si_t (0, false, 9, cd_11) (ai_Cl si_t si_ms e) (sp_Q none I1 J Rf G) 92 [some (.inr (.inr th)), some (.inl a0), none] [] (0, 0) I_76 J Rf G := by
        intro h
        unfold m_11_j92 at h
        refine go_aload_n (pc' := 93) rfl rfl rfl ?_
        refine go_iconst (pc' := 94) (v := (nI 0)) rfl rfl rfl ?_
        refine go_bipush (pc' := 96) (v := (nI 7)) rfl rfl rfl ?_
        obtain ⟨r_96, I_96, q_96, h⟩ := o_b2E h
        refine go_callV (pc' := 99) (B' := (0, 0)) (st' := [.inl r_96]) rfl rfl (Or.inl (by decide)) rfl rfl hth (md_16 (by omega) hth q_96) rfl rfl rfl ?_
        refine go_popI (pc' := 100) rfl rfl ?_
        refine go_goto (pc' := 122) rfl rfl ?_
        cases h
        exact go_vret rfl (rfl) ⟨rfl, rfl, rfl, rfl, rfl⟩
      refine go_icmp_eq (pt := 92) (pc' := 86) rfl rfl rfl (fun h83 => ?_) (fun h83 => ?_)
      · replace h := o_t h83 h
        exact jn92  h
      · replace h := o_f h83 h
        refine go_iload_n (pc' := 87) rfl rfl rfl ?_
        refine go_bipush (pc' := 89) (v := (nI 7)) rfl rfl rfl ?_
        refine go_icmp_ne (pt := 103) (pc' := 92) rfl rfl rfl (fun h89 => ?_) (fun h89 => ?_)
        · replace h := o_f h89 h
          refine go_iload_n (pc' := 104) rfl rfl rfl ?_
          refine go_bipush (pc' := 106) (v := (nI 9)) rfl rfl rfl ?_
          have jn115 : m_11_j115 th Rf G I_76 = some I1 → ai_Go si_t (0, false, 9, cd_11) (ai_Cl si_t si_ms e) (sp_Q none I1 J Rf G) 115 [some (.inr (.inr th)), some (.inl a0), none] [] (0, 0) I_76 J Rf G := by
            intro h
            unfold m_11_j115 at h
            refine go_aload_n (pc' := 116) rfl rfl rfl ?_
            refine go_iconst (pc' := 117) (v := (nI 0)) rfl rfl rfl ?_
            refine go_iconst (pc' := 118) (v := (nI 3)) rfl rfl rfl ?_
            obtain ⟨r_118, I_118, q_118, h⟩ := o_b2E h
            refine go_callV (pc' := 121) (B' := (0, 0)) (st' := [.inl r_118]) rfl rfl (Or.inl (by decide)) rfl rfl hth (md_16 (by omega) hth q_118) rfl rfl rfl ?_
            refine go_popI (pc' := 122) rfl rfl ?_
            cases h
            exact go_vret rfl (rfl) ⟨rfl, rfl, rfl, rfl, rfl⟩
          refine go_icmp_eq (pt := 115) (pc' := 109) rfl rfl rfl (fun h106 => ?_) (fun h106 => ?_)
          · replace h := o_t h106 h
            exact jn115  h
          · replace h := o_f h106 h
            refine go_iload_n (pc' := 110) rfl rfl rfl ?_
            refine go_bipush (pc' := 112) (v := (nI 13)) rfl rfl rfl ?_
            refine go_icmp_ne (pt := 122) (pc' := 115) rfl rfl rfl (fun h112 => ?_) (fun h112 => ?_)
            · replace h := o_f h112 h
              cases h
              exact go_vret rfl (rfl) ⟨rfl, rfl, rfl, rfl, rfl⟩
            · replace h := o_t (Decidable.of_not_not h112) h
              exact jn115  h
        · replace h := o_t (Decidable.of_not_not h89) h
          exact jn92  h
    · replace h := o_f h33 h
      refine go_aload_n (pc' := 37) rfl rfl rfl ?_
      refine go_iconst (pc' := 38) (v := (nI 2)) rfl rfl rfl ?_
      refine go_bipush (pc' := 40) (v := (nI 8)) rfl rfl rfl ?_
      obtain ⟨r_40, I_40, q_40, h⟩ := o_b2E h
      refine go_callV (pc' := 43) (B' := (0, 0)) (st' := [.inl r_40]) rfl rfl (Or.inl (by decide)) rfl rfl hth (md_16 (by omega) hth q_40) rfl rfl rfl ?_
      refine go_istore_n (pc' := 44) (lo' := [some (.inr (.inr th)), some (.inl a0), some (.inl r_40)]) rfl rfl rfl ?_
      refine go_aload_n (pc' := 45) rfl rfl rfl ?_
      refine go_iload_n (pc' := 46) rfl rfl rfl ?_
      refine go_iconst (pc' := 47) (v := (nI 3)) rfl rfl rfl ?_
      have jn55 : ∀ (t1_55 : Int32), m_11_j55 th a0 Rf G r_40 I_40 t1_55 = some I1 → ai_Go si_t (0, false, 9, cd_11) (ai_Cl si_t si_ms e) (sp_Q none I1 J Rf G) 55 [some (.inr (.inr th)), some (.inl a0), some (.inl r_40)] [.inl t1_55, .inr (.inr th)] (0, 0) I_40 J Rf G := by
        intro t1_55 h
        unfold m_11_j55 at h
        refine go_iload_n (pc' := 56) rfl rfl rfl ?_
        refine go_iconst (pc' := 57) (v := (nI 3)) rfl rfl rfl ?_
        have jn68 : ∀ (t2_68 : Int32), m_11_j68 th Rf G I_40 t1_55 t2_68 = some I1 → ai_Go si_t (0, false, 9, cd_11) (ai_Cl si_t si_ms e) (sp_Q none I1 J Rf G) 68 [some (.inr (.inr th)), some (.inl a0), some (.inl r_40)] [.inl t2_68, .inl t1_55, .inr (.inr th)] (0, 0) I_40 J Rf G := by
          intro t2_68 h
          unfold m_11_j68 at h
          obtain ⟨r_68, I_68, q_68, h⟩ := o_b2E h
          refine go_callV (pc' := 71) (B' := (0, 0)) (st' := [.inl r_68]) rfl rfl (Or.inl (by decide)) rfl rfl hth (md_16 (by omega) hth q_68) rfl rfl rfl ?_
          refine go_popI (pc' := 72) rfl rfl ?_
          cases h
          exact go_vret rfl (rfl) ⟨rfl, rfl, rfl, rfl, rfl⟩
        refine go_icmp_ne (pt := 65) (pc' := 60) rfl rfl rfl (fun h57 => ?_) (fun h57 => ?_)
        · replace h := o_f h57 h
          refine go_iload_n (pc' := 66) rfl rfl rfl ?_
          refine go_iconst (pc' := 67) (v := (nI 1)) rfl rfl rfl ?_
          refine go_isub (pc' := 68) rfl rfl ?_
          exact jn68 (r_40 - (nI 1)) h
        · replace h := o_t (Decidable.of_not_not h57) h
          refine go_bipush (pc' := 62) (v := (nI 6)) rfl rfl rfl ?_
          refine go_goto (pc' := 68) rfl rfl ?_
          exact jn68 (nI 6) h
      refine go_icmp_ne (pt := 54) (pc' := 50) rfl rfl rfl (fun h47 => ?_) (fun h47 => ?_)
      · replace h := o_f h47 h
        refine go_iconst (pc' := 55) (v := (nI 1)) rfl rfl rfl ?_
        exact jn55 (nI 1) h
      · replace h := o_t (Decidable.of_not_not h47) h
        refine go_iconst (pc' := 51) (v := (nI 2)) rfl rfl rfl ?_
        refine go_goto (pc' := 55) rfl rfl ?_
        exact jn55 (nI 2) h
  · replace h := o_t (Decidable.of_not_not h1) h
    refine go_aload_n (pc' := 5) rfl rfl rfl ?_
    refine go_iconst (pc' := 6) (v := (nI 0)) rfl rfl rfl ?_
    refine go_bipush (pc' := 8) (v := (nI 7)) rfl rfl rfl ?_
    obtain ⟨r_8, I_8, q_8, h⟩ := o_b2E h
    refine go_callV (pc' := 11) (B' := (0, 0)) (st' := [.inl r_8]) rfl rfl (Or.inl (by decide)) rfl rfl hth (md_16 (by omega) hth q_8) rfl rfl rfl ?_
    refine go_popI (pc' := 12) rfl rfl ?_
    refine go_aload_n (pc' := 13) rfl rfl rfl ?_
    refine go_sipush (pc' := 16) (v := (-1000 : Int32)) rfl rfl rfl ?_
    refine go_sipush (pc' := 19) (v := (nI 1000)) rfl rfl rfl ?_
    obtain ⟨r_19, I_19, q_19, h⟩ := o_b2E h
    refine go_callV (pc' := 22) (B' := (0, 0)) (st' := [.inl r_19]) rfl rfl (Or.inl (by decide)) rfl rfl hth (md_16 (by omega) hth q_19) rfl rfl rfl ?_
    refine go_popI (pc' := 23) rfl rfl ?_
    cases h
    exact go_vret rfl (rfl) ⟨rfl, rfl, rfl, rfl, rfl⟩
def m_12_x2_31 (Ix_31 : ai_I) : Option (ai_I) :=
  some Ix_31
def m_12_b2 (th : Nat) (a0 : Int32) (Rf : ai_R) (G : ai_G) (v2_2 : Int32) (I_2 : ai_I) : Option ((Int32 × ai_I) ⊕ ai_I) :=
  if a0 ≤ v2_2 then (some (Sum.inr I_2)) else (if (I_2 th 1) = 0 then (o_b2 (m_16 th (-999 : Int32) (nI 999) I_2 Rf G) (fun r_21 I_21 => o_b1 (some (v2_2 + (nI 1))) (fun x2_25 => some (Sum.inl (x2_25, I_21))))) else (some (Sum.inr I_2)))
/-- PricedBases$Clauses.readWeights(I)V -/
def m_12 (th : Nat) (a0 : Int32) (I : ai_I) (Rf : ai_R) (G : ai_G) : Option (ai_I) :=
  o_s1 (lp (fun s => m_12_b2 th a0 Rf G s.1 s.2) o_N ((nI 0), I)) (fun t => m_12_x2_31 t)
theorem md_12 {d : Nat} {I : ai_I} {J : ai_J} {Rf : ai_R} {G : ai_G} {th : Nat} {a0 : Int32} {I1 : ai_I} (hd : 4 ≤ d) (hth : G.1 th = 0) (h : m_12 th a0 I Rf G = some I1) : ai_Cl si_t si_ms d 12 [.inr (.inr th), .inl a0] I J Rf G none I1 J Rf G := by
  obtain ⟨e, rfl⟩ : ∃ e, d = e + 1 := ⟨d - 1, by omega⟩
  unfold m_12 at h
  refine sp_in (lo := [some (.inr (.inr th)), some (.inl a0), none]) (B := (0, 0)) rfl (Nat.le_of_ble_eq_true rfl) rfl rfl ?_
  refine go_iconst (pc' := 1) (v := (nI 0)) rfl rfl rfl ?_
  refine go_istore_n (pc' := 2) (lo' := [some (.inr (.inr th)), some (.inl a0), some (.inl (nI 0))]) rfl rfl rfl ?_
  obtain ⟨q2, hl2, hc2_31⟩ := o_s1E h
  have ex2_31 : ∀ (Ix_31 : ai_I) (z2_x31 : Option ai_V), Ix_31 = q2 → ai_Go si_t (0, false, 9, cd_12) (ai_Cl si_t si_ms e) (sp_Q none I1 J Rf G) 31 [some (.inr (.inr th)), some (.inl a0), z2_x31] [] (0, 0) Ix_31 J Rf G := by
    intro Ix_31 z2_x31 hq
    have h : m_12_x2_31 Ix_31 = some I1 := hc2_31 Ix_31 hq.symm
    unfold m_12_x2_31 at h
    cases h
    exact go_vret rfl (rfl) ⟨rfl, rfl, rfl, rfl, rfl⟩
  have lo2 : ∀ n s, lp (fun s => m_12_b2 th a0 Rf G s.1 s.2) n s = some q2 → (fun s => ai_Go si_t (0, false, 9, cd_12) (ai_Cl si_t si_ms e) (sp_Q none I1 J Rf G) 2 [some (.inr (.inr th)), some (.inl a0), some (.inl s.1)] [] (0, 0) s.2 J Rf G) s := lp_go (fun s x2 hx hk2 => by
    obtain ⟨v2_2, I_2⟩ := s
    have h : m_12_b2 th a0 Rf G v2_2 I_2 = some x2 := hx
    clear hx
    show ai_Go si_t (0, false, 9, cd_12) (ai_Cl si_t si_ms e) (sp_Q none I1 J Rf G) 2 [some (.inr (.inr th)), some (.inl a0), some (.inl v2_2)] [] (0, 0) I_2 J Rf G
    unfold m_12_b2 at h
    refine go_iload_n (pc' := 3) rfl rfl rfl ?_
    refine go_iload_n (pc' := 4) rfl rfl rfl ?_
    refine go_icmp_ge (pt := 31) (pc' := 7) rfl rfl rfl (fun h4 => ?_) (fun h4 => ?_)
    · replace h := o_t h4 h
      exact ex2_31 _ (some (.inl v2_2)) (lp_exitE h hk2)
    · replace h := o_f h4 h
      refine go_aload_n (pc' := 8) rfl rfl rfl ?_
      refine go_getI (pc' := 11) rfl rfl (by decide) (by decide) hth rfl ?_
      refine go_if_ne (pt := 31) (pc' := 14) rfl rfl rfl (fun h11 => ?_) (fun h11 => ?_)
      · replace h := o_f h11 h
        exact ex2_31 _ (some (.inl v2_2)) (lp_exitE h hk2)
      · replace h := o_t (Decidable.of_not_not h11) h
        refine go_aload_n (pc' := 15) rfl rfl rfl ?_
        refine go_sipush (pc' := 18) (v := (-999 : Int32)) rfl rfl rfl ?_
        refine go_sipush (pc' := 21) (v := (nI 999)) rfl rfl rfl ?_
        obtain ⟨r_21, I_21, q_21, h⟩ := o_b2E h
        refine go_callV (pc' := 24) (B' := (0, 0)) (st' := [.inl r_21]) rfl rfl (Or.inl (by decide)) rfl rfl hth (md_16 (by omega) hth q_21) rfl rfl rfl ?_
        refine go_popI (pc' := 25) rfl rfl ?_
        obtain ⟨x2_25, ex2_25, h⟩ := o_b1E h
        refine go_iincE (pc' := 28) rfl rfl (y := (nI 1)) rfl ex2_25 (lo' := [some (.inr (.inr th)), some (.inl a0), some (.inl x2_25)]) rfl rfl ?_
        refine go_goto (pc' := 2) rfl rfl ?_
        exact (lp_backE h hk2 :))
  exact lo2 _ ((nI 0), I) hl2 
def m_13_x2_59 (Ix_59 : ai_I) : Option (ai_I) :=
  some Ix_59
def m_13_b2 (th : Nat) (a0 : Int32) (a1 : Int32) (Rf : ai_R) (G : ai_G) (v3_2 : Int32) (I_2 : ai_I) : Option ((Int32 × ai_I) ⊕ ai_I) :=
  if a0 ≤ v3_2 then (some (Sum.inr I_2)) else (if (I_2 th 1) = 0 then (o_b2 (m_16 th (nI 0) (a1 - (nI 1)) I_2 Rf G) (fun r_19 I_19 => o_b1 (some ((I_19 th 4) + (nI 1))) (fun x5_30 => o_b2 (m_16 th (nI 0) (a1 - (nI 1)) I_19 Rf G) (fun r_37 I_37 => if r_37 = r_19 then (o_b1 (m_5 th (nI 6) x5_30 I_37) (fun I_50 => o_b1 (some (v3_2 + (nI 1))) (fun x3_53 => some (Sum.inl (x3_53, I_50))))) else (o_b1 (some (v3_2 + (nI 1))) (fun x3_53 => some (Sum.inl (x3_53, I_37)))))))) else (some (Sum.inr I_2)))
/-- PricedBases$Clauses.readEdges(II)V -/
def m_13 (th : Nat) (a0 : Int32) (a1 : Int32) (I : ai_I) (Rf : ai_R) (G : ai_G) : Option (ai_I) :=
  o_s1 (lp (fun s => m_13_b2 th a0 a1 Rf G s.1 s.2) o_N ((nI 0), I)) (fun t => m_13_x2_59 t)
theorem md_13 {d : Nat} {I : ai_I} {J : ai_J} {Rf : ai_R} {G : ai_G} {th : Nat} {a0 : Int32} {a1 : Int32} {I1 : ai_I} (hd : 4 ≤ d) (hth : G.1 th = 0) (h : m_13 th a0 a1 I Rf G = some I1) : ai_Cl si_t si_ms d 13 [.inr (.inr th), .inl a0, .inl a1] I J Rf G none I1 J Rf G := by
  obtain ⟨e, rfl⟩ : ∃ e, d = e + 1 := ⟨d - 1, by omega⟩
  unfold m_13 at h
  refine sp_in (lo := [some (.inr (.inr th)), some (.inl a0), some (.inl a1), none, none, none]) (B := (0, 0)) rfl (Nat.le_of_ble_eq_true rfl) rfl rfl ?_
  refine go_iconst (pc' := 1) (v := (nI 0)) rfl rfl rfl ?_
  refine go_istore_n (pc' := 2) (lo' := [some (.inr (.inr th)), some (.inl a0), some (.inl a1), some (.inl (nI 0)), none, none]) rfl rfl rfl ?_
  obtain ⟨q2, hl2, hc2_59⟩ := o_s1E h
  have ex2_59 : ∀ (Ix_59 : ai_I) (z3_x59 : Option ai_V) (z4_x59 : Option ai_V) (z5_x59 : Option ai_V), Ix_59 = q2 → ai_Go si_t (0, false, 9, cd_13) (ai_Cl si_t si_ms e) (sp_Q none I1 J Rf G) 59 [some (.inr (.inr th)), some (.inl a0), some (.inl a1), z3_x59, z4_x59, z5_x59] [] (0, 0) Ix_59 J Rf G := by
    intro Ix_59 z3_x59 z4_x59 z5_x59 hq
    have h : m_13_x2_59 Ix_59 = some I1 := hc2_59 Ix_59 hq.symm
    unfold m_13_x2_59 at h
    cases h
    exact go_vret rfl (rfl) ⟨rfl, rfl, rfl, rfl, rfl⟩
  have lo2 : ∀ n s, lp (fun s => m_13_b2 th a0 a1 Rf G s.1 s.2) n s = some q2 → (fun s => ∀ (z4_2 : Option ai_V) (z5_2 : Option ai_V), ai_Go si_t (0, false, 9, cd_13) (ai_Cl si_t si_ms e) (sp_Q none I1 J Rf G) 2 [some (.inr (.inr th)), some (.inl a0), some (.inl a1), some (.inl s.1), z4_2, z5_2] [] (0, 0) s.2 J Rf G) s := lp_go (fun s x2 hx hk2 => by
    obtain ⟨v3_2, I_2⟩ := s
    intro z4_2 z5_2
    have h : m_13_b2 th a0 a1 Rf G v3_2 I_2 = some x2 := hx
    clear hx
    show ai_Go si_t (0, false, 9, cd_13) (ai_Cl si_t si_ms e) (sp_Q none I1 J Rf G) 2 [some (.inr (.inr th)), some (.inl a0), some (.inl a1), some (.inl v3_2), z4_2, z5_2] [] (0, 0) I_2 J Rf G
    unfold m_13_b2 at h
    refine go_iload_n (pc' := 3) rfl rfl rfl ?_
    refine go_iload_n (pc' := 4) rfl rfl rfl ?_
    refine go_icmp_ge (pt := 59) (pc' := 7) rfl rfl rfl (fun h4 => ?_) (fun h4 => ?_)
    · replace h := o_t h4 h
      exact ex2_59 _ (some (.inl v3_2)) z4_2 z5_2 (lp_exitE h hk2)
    · replace h := o_f h4 h
      refine go_aload_n (pc' := 8) rfl rfl rfl ?_
      refine go_getI (pc' := 11) rfl rfl (by decide) (by decide) hth rfl ?_
      refine go_if_ne (pt := 59) (pc' := 14) rfl rfl rfl (fun h11 => ?_) (fun h11 => ?_)
      · replace h := o_f h11 h
        exact ex2_59 _ (some (.inl v3_2)) z4_2 z5_2 (lp_exitE h hk2)
      · replace h := o_t (Decidable.of_not_not h11) h
        refine go_aload_n (pc' := 15) rfl rfl rfl ?_
        refine go_iconst (pc' := 16) (v := (nI 0)) rfl rfl rfl ?_
        refine go_iload_n (pc' := 17) rfl rfl rfl ?_
        refine go_iconst (pc' := 18) (v := (nI 1)) rfl rfl rfl ?_
        refine go_isub (pc' := 19) rfl rfl ?_
        obtain ⟨r_19, I_19, q_19, h⟩ := o_b2E h
        refine go_callV (pc' := 22) (B' := (0, 0)) (st' := [.inl r_19]) rfl rfl (Or.inl (by decide)) rfl rfl hth (md_16 (by omega) hth q_19) rfl rfl rfl ?_
        refine go_istore (pc' := 24) (lo' := [some (.inr (.inr th)), some (.inl a0), some (.inl a1), some (.inl v3_2), some (.inl r_19), z5_2]) rfl rfl rfl ?_
        refine go_aload_n (pc' := 25) rfl rfl rfl ?_
        refine go_getI (pc' := 28) rfl rfl (by decide) (by decide) hth rfl ?_
        refine go_iconst (pc' := 29) (v := (nI 1)) rfl rfl rfl ?_
        refine go_iadd (pc' := 30) rfl rfl ?_
        obtain ⟨x5_30, ex5_30, h⟩ := o_b1E h
        refine go_ndI ex5_30 ?_
        refine go_istore (pc' := 32) (lo' := [some (.inr (.inr th)), some (.inl a0), some (.inl a1), some (.inl v3_2), some (.inl r_19), some (.inl x5_30)]) rfl rfl rfl ?_
        refine go_aload_n (pc' := 33) rfl rfl rfl ?_
        refine go_iconst (pc' := 34) (v := (nI 0)) rfl rfl rfl ?_
        refine go_iload_n (pc' := 35) rfl rfl rfl ?_
        refine go_iconst (pc' := 36) (v := (nI 1)) rfl rfl rfl ?_
        refine go_isub (pc' := 37) rfl rfl ?_
        obtain ⟨r_37, I_37, q_37, h⟩ := o_b2E h
        refine go_callV (pc' := 40) (B' := (0, 0)) (st' := [.inl r_37]) rfl rfl (Or.inl (by decide)) rfl rfl hth (md_16 (by omega) hth q_37) rfl rfl rfl ?_
        refine go_iload (pc' := 42) rfl rfl rfl ?_
        refine go_icmp_ne (pt := 53) (pc' := 45) rfl rfl rfl (fun h42 => ?_) (fun h42 => ?_)
        · replace h := o_f h42 h
          obtain ⟨x3_53, ex3_53, h⟩ := o_b1E h
          refine go_iincE (pc' := 56) rfl rfl (y := (nI 1)) rfl ex3_53 (lo' := [some (.inr (.inr th)), some (.inl a0), some (.inl a1), some (.inl x3_53), some (.inl r_19), some (.inl x5_30)]) rfl rfl ?_
          refine go_goto (pc' := 2) rfl rfl ?_
          exact (lp_backE h hk2 (some (.inl r_19)) (some (.inl x5_30)) :)
        · replace h := o_t (Decidable.of_not_not h42) h
          refine go_aload_n (pc' := 46) rfl rfl rfl ?_
          refine go_bipush (pc' := 48) (v := (nI 6)) rfl rfl rfl ?_
          refine go_iload (pc' := 50) rfl rfl rfl ?_
          obtain ⟨I_50, q_50, h⟩ := o_b1E h
          refine go_callV (pc' := 53) (B' := (0, 0)) (st' := []) rfl rfl (Or.inl (by decide)) rfl rfl hth (md_5 (by omega) hth q_50) rfl rfl rfl ?_
          obtain ⟨x3_53, ex3_53, h⟩ := o_b1E h
          refine go_iincE (pc' := 56) rfl rfl (y := (nI 1)) rfl ex3_53 (lo' := [some (.inr (.inr th)), some (.inl a0), some (.inl a1), some (.inl x3_53), some (.inl r_19), some (.inl x5_30)]) rfl rfl ?_
          refine go_goto (pc' := 2) rfl rfl ?_
          exact (lp_backE h hk2 (some (.inl r_19)) (some (.inl x5_30)) :))
  exact lo2 _ ((nI 0), I) hl2 none none
def m_15_x2_35 : Option (Int32) :=
  some (nI 1)
def m_15_x2_43 : Option (Int32) :=
  some (nI 0)
def m_15_b2 (th : Nat) (a0 : Int32) (a1 : Int32) (I : ai_I) (Rf : ai_R) (G : ai_G) (v3_2 : Int32) : Option (Int32 ⊕ (Unit ⊕ Unit)) :=
  if a1 < v3_2 then (some (Sum.inr (Sum.inr ()))) else (o_b1 (some (((I th 8) - (nI 1)) - ((nI 2) * v3_2))) (fun x4_17 => if x4_17 < 0 then (o_b1 (some (v3_2 + (nI 1))) (fun x3_37 => some (Sum.inl x3_37))) else (o_g (o_in G 13 (Rf th 7) x4_17) (if (I (Rf th 7) x4_17.toNatClampNeg) = a0 then (some (Sum.inr (Sum.inl ()))) else (o_b1 (some (v3_2 + (nI 1))) (fun x3_37 => some (Sum.inl x3_37)))))))
/-- PricedBases$Clauses.wasTold(II)Z -/
def m_15 (th : Nat) (a0 : Int32) (a1 : Int32) (I : ai_I) (Rf : ai_R) (G : ai_G) : Option (Int32) :=
  o_s2 (lp (fun s => m_15_b2 th a0 a1 I Rf G s) o_N (nI 1)) (fun t => m_15_x2_35) (fun t => m_15_x2_43)
theorem md_15 {d : Nat} {I : ai_I} {J : ai_J} {Rf : ai_R} {G : ai_G} {th : Nat} {a0 : Int32} {a1 : Int32} {r : Int32} (hd : 1 ≤ d) (hth : G.1 th = 0) (h : m_15 th a0 a1 I Rf G = some r) : ai_Cl si_t si_ms d 15 [.inr (.inr th), .inl a0, .inl a1] I J Rf G (some (.inl r)) I J Rf G := by
  obtain ⟨e, rfl⟩ : ∃ e, d = e + 1 := ⟨d - 1, by omega⟩
  unfold m_15 at h
  refine sp_in (lo := [some (.inr (.inr th)), some (.inl a0), some (.inl a1), none, none]) (B := (0, 0)) rfl (Nat.le_of_ble_eq_true rfl) rfl rfl ?_
  refine go_iconst (pc' := 1) (v := (nI 1)) rfl rfl rfl ?_
  refine go_istore_n (pc' := 2) (lo' := [some (.inr (.inr th)), some (.inl a0), some (.inl a1), some (.inl (nI 1)), none]) rfl rfl rfl ?_
  obtain ⟨q2, hl2, hc2_35, hc2_43⟩ := o_s2E h
  have ex2_35 : ∀ (z3_x35 : Option ai_V) (z4_x35 : Option ai_V), (Sum.inl ()) = q2 → ai_Go si_t (0, false, 3, cd_15) (ai_Cl si_t si_ms e) (sp_Q (some (.inl r)) I J Rf G) 35 [some (.inr (.inr th)), some (.inl a0), some (.inl a1), z3_x35, z4_x35] [] (0, 0) I J Rf G := by
    intro z3_x35 z4_x35 hq
    have h : m_15_x2_35 = some r := hc2_35 () hq.symm
    unfold m_15_x2_35 at h
    refine go_iconst (pc' := 36) (v := (nI 1)) rfl rfl rfl ?_
    cases h
    exact go_iret rfl (rfl) ⟨rfl, rfl, rfl, rfl, rfl⟩
  have ex2_43 : ∀ (z3_x43 : Option ai_V) (z4_x43 : Option ai_V), (Sum.inr ()) = q2 → ai_Go si_t (0, false, 3, cd_15) (ai_Cl si_t si_ms e) (sp_Q (some (.inl r)) I J Rf G) 43 [some (.inr (.inr th)), some (.inl a0), some (.inl a1), z3_x43, z4_x43] [] (0, 0) I J Rf G := by
    intro z3_x43 z4_x43 hq
    have h : m_15_x2_43 = some r := hc2_43 () hq.symm
    unfold m_15_x2_43 at h
    refine go_iconst (pc' := 44) (v := (nI 0)) rfl rfl rfl ?_
    cases h
    exact go_iret rfl (rfl) ⟨rfl, rfl, rfl, rfl, rfl⟩
  have lo2 : ∀ n s, lp (fun s => m_15_b2 th a0 a1 I Rf G s) n s = some q2 → (fun s => ∀ (z4_2 : Option ai_V), ai_Go si_t (0, false, 3, cd_15) (ai_Cl si_t si_ms e) (sp_Q (some (.inl r)) I J Rf G) 2 [some (.inr (.inr th)), some (.inl a0), some (.inl a1), some (.inl s), z4_2] [] (0, 0) I J Rf G) s := lp_go (fun s x2 hx hk2 => by
    revert s; intro v3_2 hx
    intro z4_2
    have h : m_15_b2 th a0 a1 I Rf G v3_2 = some x2 := hx
    clear hx
    show ai_Go si_t (0, false, 3, cd_15) (ai_Cl si_t si_ms e) (sp_Q (some (.inl r)) I J Rf G) 2 [some (.inr (.inr th)), some (.inl a0), some (.inl a1), some (.inl v3_2), z4_2] [] (0, 0) I J Rf G
    unfold m_15_b2 at h
    refine go_iload_n (pc' := 3) rfl rfl rfl ?_
    refine go_iload_n (pc' := 4) rfl rfl rfl ?_
    refine go_icmp_gt (pt := 43) (pc' := 7) rfl rfl rfl (fun h4 => ?_) (fun h4 => ?_)
    · replace h := o_t h4 h
      exact ex2_43  (some (.inl v3_2)) z4_2 (lp_exitE h hk2)
    · replace h := o_f h4 h
      refine go_aload_n (pc' := 8) rfl rfl rfl ?_
      refine go_getI (pc' := 11) rfl rfl (by decide) (by decide) hth rfl ?_
      refine go_iconst (pc' := 12) (v := (nI 1)) rfl rfl rfl ?_
      refine go_isub (pc' := 13) rfl rfl ?_
      refine go_iconst (pc' := 14) (v := (nI 2)) rfl rfl rfl ?_
      refine go_iload_n (pc' := 15) rfl rfl rfl ?_
      refine go_imul (pc' := 16) rfl rfl ?_
      refine go_isub (pc' := 17) rfl rfl ?_
      obtain ⟨x4_17, ex4_17, h⟩ := o_b1E h
      refine go_ndI ex4_17 ?_
      refine go_istore (pc' := 19) (lo' := [some (.inr (.inr th)), some (.inl a0), some (.inl a1), some (.inl v3_2), some (.inl x4_17)]) rfl rfl rfl ?_
      refine go_iload (pc' := 21) rfl rfl rfl ?_
      refine go_if_lt (pt := 37) (pc' := 24) rfl rfl rfl (fun h21 => ?_) (fun h21 => ?_)
      · replace h := o_t h21 h
        obtain ⟨x3_37, ex3_37, h⟩ := o_b1E h
        refine go_iincE (pc' := 40) rfl rfl (y := (nI 1)) rfl ex3_37 (lo' := [some (.inr (.inr th)), some (.inl a0), some (.inl a1), some (.inl x3_37), some (.inl x4_17)]) rfl rfl ?_
        refine go_goto (pc' := 2) rfl rfl ?_
        exact (lp_backE h hk2 (some (.inl x4_17)) :)
      · replace h := o_f h21 h
        refine go_aload_n (pc' := 25) rfl rfl rfl ?_
        refine go_getR (pc' := 28) rfl rfl hth rfl ?_
        refine go_iload (pc' := 30) rfl rfl rfl ?_
        obtain ⟨g0, h⟩ := o_gE h
        refine go_iaload (pc' := 31) rfl (o_inK g0) (o_inB g0) rfl ?_
        refine go_iload_n (pc' := 32) rfl rfl rfl ?_
        refine go_icmp_ne (pt := 37) (pc' := 35) rfl rfl rfl (fun h32 => ?_) (fun h32 => ?_)
        · replace h := o_f h32 h
          obtain ⟨x3_37, ex3_37, h⟩ := o_b1E h
          refine go_iincE (pc' := 40) rfl rfl (y := (nI 1)) rfl ex3_37 (lo' := [some (.inr (.inr th)), some (.inl a0), some (.inl a1), some (.inl x3_37), some (.inl x4_17)]) rfl rfl ?_
          refine go_goto (pc' := 2) rfl rfl ?_
          exact (lp_backE h hk2 (some (.inl x4_17)) :)
        · replace h := o_t (Decidable.of_not_not h32) h
          exact ex2_35  (some (.inl v3_2)) (some (.inl x4_17)) (lp_exitE h hk2))
  exact lo2 _ (nI 1) hl2 none
/-- java/lang/Integer.bitCount(I)I -/
def m_115 (a0 : Int32) : Option (Int32) :=
  o_b1 (some (a0 - (((a0.toUInt32 >>> ((nI 1).toUInt32 &&& Int32.toUInt32 31)).toInt32) &&& (nI 1431655765)))) (fun x0_9 => o_b1 (some ((x0_9 &&& (nI 858993459)) + (((x0_9.toUInt32 >>> ((nI 2).toUInt32 &&& Int32.toUInt32 31)).toInt32) &&& (nI 858993459)))) (fun x0_23 => o_b1 (some ((x0_23 + ((x0_23.toUInt32 >>> ((nI 4).toUInt32 &&& Int32.toUInt32 31)).toInt32)) &&& (nI 252645135))) (fun x0_33 => o_b1 (some (x0_33 + ((x0_33.toUInt32 >>> ((nI 8).toUInt32 &&& Int32.toUInt32 31)).toInt32))) (fun x0_40 => o_b1 (some (x0_40 + ((x0_40.toUInt32 >>> ((nI 16).toUInt32 &&& Int32.toUInt32 31)).toInt32))) (fun x0_47 => some (x0_47 &&& (nI 63)))))))
theorem md_115 {d : Nat} {I : ai_I} {J : ai_J} {Rf : ai_R} {G : ai_G} {a0 : Int32} {r : Int32} (hd : 1 ≤ d) (h : m_115 a0 = some r) : ai_Cl si_t si_ms d 115 [.inl a0] I J Rf G (some (.inl r)) I J Rf G := by
  obtain ⟨e, rfl⟩ : ∃ e, d = e + 1 := ⟨d - 1, by omega⟩
  unfold m_115 at h
  refine sp_in (lo := [some (.inl a0)]) (B := (0, 0)) rfl (Nat.le_of_ble_eq_true rfl) rfl rfl ?_
  refine go_iload_n (pc' := 1) rfl rfl rfl ?_
  refine go_iload_n (pc' := 2) rfl rfl rfl ?_
  refine go_iconst (pc' := 3) (v := (nI 1)) rfl rfl rfl ?_
  refine go_iushr (pc' := 4) rfl rfl ?_
  refine go_ldc_w (pc' := 7) (v := .inl (nI 1431655765)) rfl rfl rfl ?_
  refine go_iand (pc' := 8) rfl rfl ?_
  refine go_isub (pc' := 9) rfl rfl ?_
  obtain ⟨x0_9, ex0_9, h⟩ := o_b1E h
  refine go_ndI ex0_9 ?_
  refine go_istore_n (pc' := 10) (lo' := [some (.inl x0_9)]) rfl rfl rfl ?_
  refine go_iload_n (pc' := 11) rfl rfl rfl ?_
  refine go_ldc_w (pc' := 14) (v := .inl (nI 858993459)) rfl rfl rfl ?_
  refine go_iand (pc' := 15) rfl rfl ?_
  refine go_iload_n (pc' := 16) rfl rfl rfl ?_
  refine go_iconst (pc' := 17) (v := (nI 2)) rfl rfl rfl ?_
  refine go_iushr (pc' := 18) rfl rfl ?_
  refine go_ldc_w (pc' := 21) (v := .inl (nI 858993459)) rfl rfl rfl ?_
  refine go_iand (pc' := 22) rfl rfl ?_
  refine go_iadd (pc' := 23) rfl rfl ?_
  obtain ⟨x0_23, ex0_23, h⟩ := o_b1E h
  refine go_ndI ex0_23 ?_
  refine go_istore_n (pc' := 24) (lo' := [some (.inl x0_23)]) rfl rfl rfl ?_
  refine go_iload_n (pc' := 25) rfl rfl rfl ?_
  refine go_iload_n (pc' := 26) rfl rfl rfl ?_
  refine go_iconst (pc' := 27) (v := (nI 4)) rfl rfl rfl ?_
  refine go_iushr (pc' := 28) rfl rfl ?_
  refine go_iadd (pc' := 29) rfl rfl ?_
  refine go_ldc_w (pc' := 32) (v := .inl (nI 252645135)) rfl rfl rfl ?_
  refine go_iand (pc' := 33) rfl rfl ?_
  obtain ⟨x0_33, ex0_33, h⟩ := o_b1E h
  refine go_ndI ex0_33 ?_
  refine go_istore_n (pc' := 34) (lo' := [some (.inl x0_33)]) rfl rfl rfl ?_
  refine go_iload_n (pc' := 35) rfl rfl rfl ?_
  refine go_iload_n (pc' := 36) rfl rfl rfl ?_
  refine go_bipush (pc' := 38) (v := (nI 8)) rfl rfl rfl ?_
  refine go_iushr (pc' := 39) rfl rfl ?_
  refine go_iadd (pc' := 40) rfl rfl ?_
  obtain ⟨x0_40, ex0_40, h⟩ := o_b1E h
  refine go_ndI ex0_40 ?_
  refine go_istore_n (pc' := 41) (lo' := [some (.inl x0_40)]) rfl rfl rfl ?_
  refine go_iload_n (pc' := 42) rfl rfl rfl ?_
  refine go_iload_n (pc' := 43) rfl rfl rfl ?_
  refine go_bipush (pc' := 45) (v := (nI 16)) rfl rfl rfl ?_
  refine go_iushr (pc' := 46) rfl rfl ?_
  refine go_iadd (pc' := 47) rfl rfl ?_
  obtain ⟨x0_47, ex0_47, h⟩ := o_b1E h
  refine go_ndI ex0_47 ?_
  refine go_istore_n (pc' := 48) (lo' := [some (.inl x0_47)]) rfl rfl rfl ?_
  refine go_iload_n (pc' := 49) rfl rfl rfl ?_
  refine go_bipush (pc' := 51) (v := (nI 63)) rfl rfl rfl ?_
  refine go_iand (pc' := 52) rfl rfl ?_
  cases h
  exact go_iret rfl (trivial) ⟨rfl, rfl, rfl, rfl, rfl⟩
def m_14_x2_96 (Ix_96 : ai_I) : Option (ai_I) :=
  some Ix_96
def m_14_j81 (th : Nat) (Rf : ai_R) (G : ai_G) (v3_2 : Int32) (I_81 : ai_I) : Option ((Int32 × ai_I) ⊕ ai_I) :=
  o_b2 (m_16 th (-1000000 : Int32) (nI 1000000) I_81 Rf G) (fun r_86 I_86 => o_b1 (some (v3_2 + (nI 1))) (fun x3_90 => some (Sum.inl (x3_90, I_86))))
def m_14_j73 (th : Nat) (Rf : ai_R) (G : ai_G) (v3_2 : Int32) (x4_34 : Int32) (I_41 : ai_I) : Option ((Int32 × ai_I) ⊕ ai_I) :=
  o_b1 (m_5 th (nI 6) x4_34 I_41) (fun I_78 => m_14_j81 th Rf G v3_2 I_78)
def m_14_j28 (th : Nat) (a0 : Int32) (a1 : Int32) (Rf : ai_R) (G : ai_G) (v3_2 : Int32) (I_2 : ai_I) : Option ((Int32 × ai_I) ⊕ ai_I) :=
  o_b1 (some ((I_2 th 4) + (nI 1))) (fun x4_34 => o_b2 (m_16 th (nI 0) (nI 255) I_2 Rf G) (fun r_41 I_41 => o_b1 (m_115 r_41) (fun r_48 => if r_48 = a1 then (if ((nI 1) <<< (a0 &&& 31)) ≤ r_41 then (m_14_j73 th Rf G v3_2 x4_34 I_41) else (o_b1 (m_15 th r_41 v3_2 I_41 Rf G) (fun r_67 => if r_67 = 0 then (m_14_j81 th Rf G v3_2 I_41) else (m_14_j73 th Rf G v3_2 x4_34 I_41)))) else (m_14_j73 th Rf G v3_2 x4_34 I_41))))
def m_14_b2 (th : Nat) (a0 : Int32) (a1 : Int32) (Rf : ai_R) (G : ai_G) (v3_2 : Int32) (I_2 : ai_I) : Option ((Int32 × ai_I) ⊕ ai_I) :=
  if (nI 100) ≤ v3_2 then (some (Sum.inr I_2)) else (if (I_2 th 1) = 0 then (if v3_2 = 0 then (m_14_j28 th a0 a1 Rf G v3_2 I_2) else (o_b1 (m_6 th I_2 Rf G) (fun r_20 => if r_20 = (nI 32) then (m_14_j28 th a0 a1 Rf G v3_2 I_2) else (some (Sum.inr I_2))))) else (some (Sum.inr I_2)))
/-- PricedBases$Clauses.readSets(II)V -/
def m_14 (th : Nat) (a0 : Int32) (a1 : Int32) (I : ai_I) (Rf : ai_R) (G : ai_G) : Option (ai_I) :=
  o_s1 (lp (fun s => m_14_b2 th a0 a1 Rf G s.1 s.2) o_N ((nI 0), I)) (fun t => m_14_x2_96 t)
theorem md_14 {d : Nat} {I : ai_I} {J : ai_J} {Rf : ai_R} {G : ai_G} {th : Nat} {a0 : Int32} {a1 : Int32} {I1 : ai_I} (hd : 4 ≤ d) (hth : G.1 th = 0) (h : m_14 th a0 a1 I Rf G = some I1) : ai_Cl si_t si_ms d 14 [.inr (.inr th), .inl a0, .inl a1] I J Rf G none I1 J Rf G := by
  obtain ⟨e, rfl⟩ : ∃ e, d = e + 1 := ⟨d - 1, by omega⟩
  unfold m_14 at h
  refine sp_in (lo := [some (.inr (.inr th)), some (.inl a0), some (.inl a1), none, none, none]) (B := (0, 0)) rfl (Nat.le_of_ble_eq_true rfl) rfl rfl ?_
  refine go_iconst (pc' := 1) (v := (nI 0)) rfl rfl rfl ?_
  refine go_istore_n (pc' := 2) (lo' := [some (.inr (.inr th)), some (.inl a0), some (.inl a1), some (.inl (nI 0)), none, none]) rfl rfl rfl ?_
  obtain ⟨q2, hl2, hc2_96⟩ := o_s1E h
  have ex2_96 : ∀ (Ix_96 : ai_I) (z3_x96 : Option ai_V) (z4_x96 : Option ai_V) (z5_x96 : Option ai_V), Ix_96 = q2 → ai_Go si_t (0, false, 9, cd_14) (ai_Cl si_t si_ms e) (sp_Q none I1 J Rf G) 96 [some (.inr (.inr th)), some (.inl a0), some (.inl a1), z3_x96, z4_x96, z5_x96] [] (0, 0) Ix_96 J Rf G := by
    intro Ix_96 z3_x96 z4_x96 z5_x96 hq
    have h : m_14_x2_96 Ix_96 = some I1 := hc2_96 Ix_96 hq.symm
    unfold m_14_x2_96 at h
    cases h
    exact go_vret rfl (rfl) ⟨rfl, rfl, rfl, rfl, rfl⟩
  have lo2 : ∀ n s, lp (fun s => m_14_b2 th a0 a1 Rf G s.1 s.2) n s = some q2 → (fun s => ∀ (z4_2 : Option ai_V) (z5_2 : Option ai_V), ai_Go si_t (0, false, 9, cd_14) (ai_Cl si_t si_ms e) (sp_Q none I1 J Rf G) 2 [some (.inr (.inr th)), some (.inl a0), some (.inl a1), some (.inl s.1), z4_2, z5_2] [] (0, 0) s.2 J Rf G) s := lp_go (fun s x2 hx hk2 => by
    obtain ⟨v3_2, I_2⟩ := s
    intro z4_2 z5_2
    have h : m_14_b2 th a0 a1 Rf G v3_2 I_2 = some x2 := hx
    clear hx
    show ai_Go si_t (0, false, 9, cd_14) (ai_Cl si_t si_ms e) (sp_Q none I1 J Rf G) 2 [some (.inr (.inr th)), some (.inl a0), some (.inl a1), some (.inl v3_2), z4_2, z5_2] [] (0, 0) I_2 J Rf G
    unfold m_14_b2 at h
    refine go_iload_n (pc' := 3) rfl rfl rfl ?_
    refine go_bipush (pc' := 5) (v := (nI 100)) rfl rfl rfl ?_
    refine go_icmp_ge (pt := 96) (pc' := 8) rfl rfl rfl (fun h5 => ?_) (fun h5 => ?_)
    · replace h := o_t h5 h
      exact ex2_96 _ (some (.inl v3_2)) z4_2 z5_2 (lp_exitE h hk2)
    · replace h := o_f h5 h
      refine go_aload_n (pc' := 9) rfl rfl rfl ?_
      refine go_getI (pc' := 12) rfl rfl (by decide) (by decide) hth rfl ?_
      refine go_if_ne (pt := 96) (pc' := 15) rfl rfl rfl (fun h12 => ?_) (fun h12 => ?_)
      · replace h := o_f h12 h
        exact ex2_96 _ (some (.inl v3_2)) z4_2 z5_2 (lp_exitE h hk2)
      · replace h := o_t (Decidable.of_not_not h12) h
        refine go_iload_n (pc' := 16) rfl rfl rfl ?_
        have jn28 : ∀ (z4_28 : Option ai_V) (z5_28 : Option ai_V), m_14_j28 th a0 a1 Rf G v3_2 I_2 = some x2 → ai_Go si_t (0, false, 9, cd_14) (ai_Cl si_t si_ms e) (sp_Q none I1 J Rf G) 28 [some (.inr (.inr th)), some (.inl a0), some (.inl a1), some (.inl v3_2), z4_28, z5_28] [] (0, 0) I_2 J Rf G := by
          intro z4_28 z5_28 h
          unfold m_14_j28 at h
          refine go_aload_n (pc' := 29) rfl rfl rfl ?_
          refine go_getI (pc' := 32) rfl rfl (by decide) (by decide) hth rfl ?_
          refine go_iconst (pc' := 33) (v := (nI 1)) rfl rfl rfl ?_
          refine go_iadd (pc' := 34) rfl rfl ?_
          obtain ⟨x4_34, ex4_34, h⟩ := o_b1E h
          refine go_ndI ex4_34 ?_
          refine go_istore (pc' := 36) (lo' := [some (.inr (.inr th)), some (.inl a0), some (.inl a1), some (.inl v3_2), some (.inl x4_34), z5_28]) rfl rfl rfl ?_
          refine go_aload_n (pc' := 37) rfl rfl rfl ?_
          refine go_iconst (pc' := 38) (v := (nI 0)) rfl rfl rfl ?_
          refine go_sipush (pc' := 41) (v := (nI 255)) rfl rfl rfl ?_
          obtain ⟨r_41, I_41, q_41, h⟩ := o_b2E h
          refine go_callV (pc' := 44) (B' := (0, 0)) (st' := [.inl r_41]) rfl rfl (Or.inl (by decide)) rfl rfl hth (md_16 (by omega) hth q_41) rfl rfl rfl ?_
          refine go_istore (pc' := 46) (lo' := [some (.inr (.inr th)), some (.inl a0), some (.inl a1), some (.inl v3_2), some (.inl x4_34), some (.inl r_41)]) rfl rfl rfl ?_
          refine go_iload (pc' := 48) rfl rfl rfl ?_
          obtain ⟨r_48, q_48, h⟩ := o_b1E h
          refine go_callS (pc' := 51) (B' := (0, 0)) (st' := [.inl r_48]) rfl rfl (Or.inl (by decide)) rfl rfl trivial (md_115 (by omega) q_48) rfl rfl rfl ?_
          refine go_iload_n (pc' := 52) rfl rfl rfl ?_
          have jn81 : ∀ (I_81 : ai_I), m_14_j81 th Rf G v3_2 I_81 = some x2 → ai_Go si_t (0, false, 9, cd_14) (ai_Cl si_t si_ms e) (sp_Q none I1 J Rf G) 81 [some (.inr (.inr th)), some (.inl a0), some (.inl a1), some (.inl v3_2), some (.inl x4_34), some (.inl r_41)] [] (0, 0) I_81 J Rf G := by
            intro I_81 h
            unfold m_14_j81 at h
            refine go_aload_n (pc' := 82) rfl rfl rfl ?_
            refine go_ldc (pc' := 84) (v := .inl (-1000000 : Int32)) rfl rfl rfl ?_
            refine go_ldc (pc' := 86) (v := .inl (nI 1000000)) rfl rfl rfl ?_
            obtain ⟨r_86, I_86, q_86, h⟩ := o_b2E h
            refine go_callV (pc' := 89) (B' := (0, 0)) (st' := [.inl r_86]) rfl rfl (Or.inl (by decide)) rfl rfl hth (md_16 (by omega) hth q_86) rfl rfl rfl ?_
            refine go_popI (pc' := 90) rfl rfl ?_
            obtain ⟨x3_90, ex3_90, h⟩ := o_b1E h
            refine go_iincE (pc' := 93) rfl rfl (y := (nI 1)) rfl ex3_90 (lo' := [some (.inr (.inr th)), some (.inl a0), some (.inl a1), some (.inl x3_90), some (.inl x4_34), some (.inl r_41)]) rfl rfl ?_
            refine go_goto (pc' := 2) rfl rfl ?_
            exact (lp_backE h hk2 (some (.inl x4_34)) (some (.inl r_41)) :)
          have jn73 : m_14_j73 th Rf G v3_2 x4_34 I_41 = some x2 → ai_Go si_t (0, false, 9, cd_14) (ai_Cl si_t si_ms e) (sp_Q none I1 J Rf G) 73 [some (.inr (.inr th)), some (.inl a0), some (.inl a1), some (.inl v3_2), some (.inl x4_34), some (.inl r_41)] [] (0, 0) I_41 J Rf G := by
            intro h
            unfold m_14_j73 at h
            refine go_aload_n (pc' := 74) rfl rfl rfl ?_
            refine go_bipush (pc' := 76) (v := (nI 6)) rfl rfl rfl ?_
            refine go_iload (pc' := 78) rfl rfl rfl ?_
            obtain ⟨I_78, q_78, h⟩ := o_b1E h
            refine go_callV (pc' := 81) (B' := (0, 0)) (st' := []) rfl rfl (Or.inl (by decide)) rfl rfl hth (md_5 (by omega) hth q_78) rfl rfl rfl ?_
            exact jn81 I_78 h
          refine go_icmp_ne (pt := 73) (pc' := 55) rfl rfl rfl (fun h52 => ?_) (fun h52 => ?_)
          · replace h := o_f h52 h
            exact jn73  h
          · replace h := o_t (Decidable.of_not_not h52) h
            refine go_iload (pc' := 57) rfl rfl rfl ?_
            refine go_iconst (pc' := 58) (v := (nI 1)) rfl rfl rfl ?_
            refine go_iload_n (pc' := 59) rfl rfl rfl ?_
            refine go_ishl (pc' := 60) rfl rfl ?_
            refine go_icmp_ge (pt := 73) (pc' := 63) rfl rfl rfl (fun h60 => ?_) (fun h60 => ?_)
            · replace h := o_t h60 h
              exact jn73  h
            · replace h := o_f h60 h
              refine go_aload_n (pc' := 64) rfl rfl rfl ?_
              refine go_iload (pc' := 66) rfl rfl rfl ?_
              refine go_iload_n (pc' := 67) rfl rfl rfl ?_
              obtain ⟨r_67, q_67, h⟩ := o_b1E h
              refine go_callV (pc' := 70) (B' := (0, 0)) (st' := [.inl r_67]) rfl rfl (Or.inl (by decide)) rfl rfl hth (md_15 (by omega) hth q_67) rfl rfl rfl ?_
              refine go_if_eq (pt := 81) (pc' := 73) rfl rfl rfl (fun h70 => ?_) (fun h70 => ?_)
              · replace h := o_t h70 h
                exact jn81 I_41 h
              · replace h := o_f h70 h
                exact jn73  h
        refine go_if_eq (pt := 28) (pc' := 19) rfl rfl rfl (fun h16 => ?_) (fun h16 => ?_)
        · replace h := o_t h16 h
          exact jn28 z4_2 z5_2 h
        · replace h := o_f h16 h
          refine go_aload_n (pc' := 20) rfl rfl rfl ?_
          obtain ⟨r_20, q_20, h⟩ := o_b1E h
          refine go_callV (pc' := 23) (B' := (0, 0)) (st' := [.inl r_20]) rfl rfl (Or.inl (by decide)) rfl rfl hth (md_6 (by omega) hth q_20) rfl rfl rfl ?_
          refine go_bipush (pc' := 25) (v := (nI 32)) rfl rfl rfl ?_
          refine go_icmp_ne (pt := 96) (pc' := 28) rfl rfl rfl (fun h25 => ?_) (fun h25 => ?_)
          · replace h := o_f h25 h
            exact ex2_96 _ (some (.inl v3_2)) z4_2 z5_2 (lp_exitE h hk2)
          · replace h := o_t (Decidable.of_not_not h25) h
            exact jn28 z4_2 z5_2 h)
  exact lo2 _ ((nI 0), I) hl2 none none
