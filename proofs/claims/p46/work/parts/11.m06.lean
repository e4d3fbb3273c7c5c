/-! Models of methods and their proofs, piece 6. Printed by wip/p46/pr10.py. -/
/-- PricedBases$Valuation.take(LPricedBases$Valuation;)V -/
def m_84 (th : Nat) (a0 : Nat) (I : ai_I) (Rf : ai_R) (G : ai_G) : Option (ai_I) :=
  o_g (o_kd G a0 8) (o_b1 (some (va_up I th (va_up (I th) 0 (I a0 0)))) (fun I_5 => o_b1 (some (va_up I_5 th (va_up (I_5 th) 1 (I_5 a0 1)))) (fun I_13 => o_b1 (some (va_up I_13 th (va_up (I_13 th) 2 (I_13 a0 2)))) (fun I_21 => o_g (o_cpy G (Rf a0 3) (Rf th 3) (nI 0) (nI 0) (nI 256)) (o_b1 (some (va_up I_21 (Rf th 3) (va_cpy (I_21 (Rf a0 3)) (I_21 (Rf th 3)) (nI 0).toNatClampNeg (nI 0).toNatClampNeg (nI 256).toNatClampNeg))) (fun I_37 => o_g (o_cpy G (Rf a0 4) (Rf th 4) (nI 0) (nI 0) (nI 256)) (o_b1 (some (va_up I_37 (Rf th 4) (va_cpy (I_37 (Rf a0 4)) (I_37 (Rf th 4)) (nI 0).toNatClampNeg (nI 0).toNatClampNeg (nI 256).toNatClampNeg))) (fun I_53 => o_g (o_cpy G (Rf a0 5) (Rf th 5) (nI 0) (nI 0) (nI 70)) (o_b1 (some (va_up I_53 (Rf th 5) (va_cpy (I_53 (Rf a0 5)) (I_53 (Rf th 5)) (nI 0).toNatClampNeg (nI 0).toNatClampNeg (nI 70).toNatClampNeg))) (fun I_68 => some I_68))))))))))
theorem md_84 {d : Nat} {I : ai_I} {J : ai_J} {Rf : ai_R} {G : ai_G} {th : Nat} {a0 : Nat} {I1 : ai_I} (hd : 1 ≤ d) (hth : G.1 th = 8) (h : m_84 th a0 I Rf G = some I1) : ai_Cl si_t si_ms d 84 [.inr (.inr th), .inr (.inr a0)] I J Rf G none I1 J Rf G := by
  obtain ⟨e, rfl⟩ : ∃ e, d = e + 1 := ⟨d - 1, by omega⟩
  unfold m_84 at h
  refine sp_in (lo := [some (.inr (.inr th)), some (.inr (.inr a0))]) (B := (0, 0)) rfl (Nat.le_of_ble_eq_true rfl) rfl rfl ?_
  refine go_aload_n (pc' := 1) rfl rfl rfl ?_
  refine go_aload_n (pc' := 2) rfl rfl rfl ?_
  obtain ⟨g0, h⟩ := o_gE h
  refine go_getI (pc' := 5) rfl rfl (by decide) (by decide) (o_kdE g0) rfl ?_
  obtain ⟨I_5, eI_5, h⟩ := o_b1E h
  refine go_putI (pc' := 8) rfl rfl (fun h => by cases h) hth rfl ?_
  refine go_ndMI eI_5 ?_
  refine go_aload_n (pc' := 9) rfl rfl rfl ?_
  refine go_aload_n (pc' := 10) rfl rfl rfl ?_
  refine go_getI (pc' := 13) rfl rfl (by decide) (by decide) (o_kdE g0) rfl ?_
  obtain ⟨I_13, eI_13, h⟩ := o_b1E h
  refine go_putI (pc' := 16) rfl rfl (fun h => by cases h) hth rfl ?_
  refine go_ndMI eI_13 ?_
  refine go_aload_n (pc' := 17) rfl rfl rfl ?_
  refine go_aload_n (pc' := 18) rfl rfl rfl ?_
  refine go_getI (pc' := 21) rfl rfl (by decide) (by decide) (o_kdE g0) rfl ?_
  obtain ⟨I_21, eI_21, h⟩ := o_b1E h
  refine go_putI (pc' := 24) rfl rfl (fun h => by cases h) hth rfl ?_
  refine go_ndMI eI_21 ?_
  refine go_aload_n (pc' := 25) rfl rfl rfl ?_
  refine go_getR (pc' := 28) rfl rfl (o_kdE g0) rfl ?_
  refine go_iconst (pc' := 29) (v := (nI 0)) rfl rfl rfl ?_
  refine go_aload_n (pc' := 30) rfl rfl rfl ?_
  refine go_getR (pc' := 33) rfl rfl hth rfl ?_
  refine go_iconst (pc' := 34) (v := (nI 0)) rfl rfl rfl ?_
  refine go_sipush (pc' := 37) (v := (nI 256)) rfl rfl rfl ?_
  obtain ⟨g1, h⟩ := o_gE h
  obtain ⟨I_37, eI_37, h⟩ := o_b1E h
  refine go_copy (pc' := 40) rfl rfl (o_cpyE g1) (Nat.le_of_ble_eq_true rfl) rfl ?_
  refine go_ndMI eI_37 ?_
  refine go_aload_n (pc' := 41) rfl rfl rfl ?_
  refine go_getR (pc' := 44) rfl rfl (o_kdE g0) rfl ?_
  refine go_iconst (pc' := 45) (v := (nI 0)) rfl rfl rfl ?_
  refine go_aload_n (pc' := 46) rfl rfl rfl ?_
  refine go_getR (pc' := 49) rfl rfl hth rfl ?_
  refine go_iconst (pc' := 50) (v := (nI 0)) rfl rfl rfl ?_
  refine go_sipush (pc' := 53) (v := (nI 256)) rfl rfl rfl ?_
  obtain ⟨g2, h⟩ := o_gE h
  obtain ⟨I_53, eI_53, h⟩ := o_b1E h
  refine go_copy (pc' := 56) rfl rfl (o_cpyE g2) (Nat.le_of_ble_eq_true rfl) rfl ?_
  refine go_ndMI eI_53 ?_
  refine go_aload_n (pc' := 57) rfl rfl rfl ?_
  refine go_getR (pc' := 60) rfl rfl (o_kdE g0) rfl ?_
  refine go_iconst (pc' := 61) (v := (nI 0)) rfl rfl rfl ?_
  refine go_aload_n (pc' := 62) rfl rfl rfl ?_
  refine go_getR (pc' := 65) rfl rfl hth rfl ?_
  refine go_iconst (pc' := 66) (v := (nI 0)) rfl rfl rfl ?_
  refine go_bipush (pc' := 68) (v := (nI 70)) rfl rfl rfl ?_
  obtain ⟨g3, h⟩ := o_gE h
  obtain ⟨I_68, eI_68, h⟩ := o_b1E h
  refine go_copy (pc' := 71) rfl rfl (o_cpyE g3) (Nat.le_of_ble_eq_true rfl) rfl ?_
  refine go_ndMI eI_68 ?_
  cases h
  exact go_vret rfl (rfl) ⟨rfl, rfl, rfl, rfl, rfl⟩
def m_92_x9_50 (w1_50 : Int32) : Option (Int32) :=
  some w1_50
def m_92_b9 (th : Nat) (I : ai_I) (Rf : ai_R) (G : ai_G) (v1_9 : Int32) (v2_9 : Int32) : Option ((Int32 × Int32) ⊕ Int32) :=
  if (I th 2) ≤ v2_9 then (some (Sum.inr v1_9)) else (o_g (o_in G 13 (Rf th 5) v2_9) (o_g (o_in G 13 (Rf th 3) (I (Rf th 5) v2_9.toNatClampNeg)) (o_g (o_in G 13 (Rf th 3) v1_9) (if (I (Rf th 3) (I (Rf th 5) v2_9.toNatClampNeg).toNatClampNeg) ≤ (I (Rf th 3) v1_9.toNatClampNeg) then (o_b1 (some (v2_9 + (nI 1))) (fun x2_44 => some (Sum.inl (v1_9, x2_44)))) else (o_g (o_in G 13 (Rf th 5) v2_9) (o_b1 (some (I (Rf th 5) v2_9.toNatClampNeg)) (fun x1_43 => o_b1 (some (v2_9 + (nI 1))) (fun x2_44 => some (Sum.inl (x1_43, x2_44))))))))))
/-- PricedBases$Valuation.leastGreatest()I -/
def m_92 (th : Nat) (I : ai_I) (Rf : ai_R) (G : ai_G) : Option (Int32) :=
  o_g (o_in G 13 (Rf th 5) (nI 0)) (o_b1 (some (I (Rf th 5) (nI 0).toNatClampNeg)) (fun x1_6 => o_s1 (lp (fun s => m_92_b9 th I Rf G s.1 s.2) o_N (x1_6, (nI 1))) (fun t => m_92_x9_50 t)))
theorem md_92 {d : Nat} {I : ai_I} {J : ai_J} {Rf : ai_R} {G : ai_G} {th : Nat} {r : Int32} (hd : 1 ≤ d) (hth : G.1 th = 8) (h : m_92 th I Rf G = some r) : ai_Cl si_t si_ms d 92 [.inr (.inr th)] I J Rf G (some (.inl r)) I J Rf G := by
  obtain ⟨e, rfl⟩ : ∃ e, d = e + 1 := ⟨d - 1, by omega⟩
  unfold m_92 at h
  refine sp_in (lo := [some (.inr (.inr th)), none, none]) (B := (0, 0)) rfl (Nat.le_of_ble_eq_true rfl) rfl rfl ?_
  refine go_aload_n (pc' := 1) rfl rfl rfl ?_
  refine go_getR (pc' := 4) rfl rfl hth rfl ?_
  refine go_iconst (pc' := 5) (v := (nI 0)) rfl rfl rfl ?_
  obtain ⟨g0, h⟩ := o_gE h
  refine go_iaload (pc' := 6) rfl (o_inK g0) (o_inB g0) rfl ?_
  obtain ⟨x1_6, ex1_6, h⟩ := o_b1E h
  refine go_ndI ex1_6 ?_
  refine go_istore_n (pc' := 7) (lo' := [some (.inr (.inr th)), some (.inl x1_6), none]) rfl rfl rfl ?_
  refine go_iconst (pc' := 8) (v := (nI 1)) rfl rfl rfl ?_
  refine go_istore_n (pc' := 9) (lo' := [some (.inr (.inr th)), some (.inl x1_6), some (.inl (nI 1))]) rfl rfl rfl ?_
  obtain ⟨q9, hl9, hc9_50⟩ := o_s1E h
  have ex9_50 : ∀ (w1_50 : Int32) (z2_x50 : Option ai_V), w1_50 = q9 → ai_Go si_t (8, false, 0, cd_92) (ai_Cl si_t si_ms e) (sp_Q (some (.inl r)) I J Rf G) 50 [some (.inr (.inr th)), some (.inl w1_50), z2_x50] [] (0, 0) I J Rf G := by
    intro w1_50 z2_x50 hq
    have h : m_92_x9_50 w1_50 = some r := hc9_50 w1_50 hq.symm
    unfold m_92_x9_50 at h
    refine go_iload_n (pc' := 51) rfl rfl rfl ?_
    cases h
    exact go_iret rfl (trivial) ⟨rfl, rfl, rfl, rfl, rfl⟩
  have lo9 : ∀ n s, lp (fun s => m_92_b9 th I Rf G s.1 s.2) n s = some q9 → (fun s => ai_Go si_t (8, false, 0, cd_92) (ai_Cl si_t si_ms e) (sp_Q (some (.inl r)) I J Rf G) 9 [some (.inr (.inr th)), some (.inl s.1), some (.inl s.2)] [] (0, 0) I J Rf G) s := lp_go (fun s x9 hx hk9 => by
    obtain ⟨v1_9, v2_9⟩ := s
    have h : m_92_b9 th I Rf G v1_9 v2_9 = some x9 := hx
    clear hx
    show ai_Go si_t (8, false, 0, cd_92) (ai_Cl si_t si_ms e) (sp_Q (some (.inl r)) I J Rf G) 9 [some (.inr (.inr th)), some (.inl v1_9), some (.inl v2_9)] [] (0, 0) I J Rf G
    unfold m_92_b9 at h
    refine go_iload_n (pc' := 10) rfl rfl rfl ?_
    refine go_aload_n (pc' := 11) rfl rfl rfl ?_
    refine go_getI (pc' := 14) rfl rfl (by decide) (by decide) hth rfl ?_
    refine go_icmp_ge (pt := 50) (pc' := 17) rfl rfl rfl (fun h14 => ?_) (fun h14 => ?_)
    · replace h := o_t h14 h
      exact ex9_50 _ (some (.inl v2_9)) (lp_exitE h hk9)
    · replace h := o_f h14 h
      refine go_aload_n (pc' := 18) rfl rfl rfl ?_
      refine go_getR (pc' := 21) rfl rfl hth rfl ?_
      refine go_aload_n (pc' := 22) rfl rfl rfl ?_
      refine go_getR (pc' := 25) rfl rfl hth rfl ?_
      refine go_iload_n (pc' := 26) rfl rfl rfl ?_
      obtain ⟨g1, h⟩ := o_gE h
      refine go_iaload (pc' := 27) rfl (o_inK g1) (o_inB g1) rfl ?_
      obtain ⟨g2, h⟩ := o_gE h
      refine go_iaload (pc' := 28) rfl (o_inK g2) (o_inB g2) rfl ?_
      refine go_aload_n (pc' := 29) rfl rfl rfl ?_
      refine go_getR (pc' := 32) rfl rfl hth rfl ?_
      refine go_iload_n (pc' := 33) rfl rfl rfl ?_
      obtain ⟨g3, h⟩ := o_gE h
      refine go_iaload (pc' := 34) rfl (o_inK g3) (o_inB g3) rfl ?_
      refine go_icmp_le (pt := 44) (pc' := 37) rfl rfl rfl (fun h34 => ?_) (fun h34 => ?_)
      · replace h := o_t h34 h
        obtain ⟨x2_44, ex2_44, h⟩ := o_b1E h
        refine go_iincE (pc' := 47) rfl rfl (y := (nI 1)) rfl ex2_44 (lo' := [some (.inr (.inr th)), some (.inl v1_9), some (.inl x2_44)]) rfl rfl ?_
        refine go_goto (pc' := 9) rfl rfl ?_
        exact (lp_backE h hk9 :)
      · replace h := o_f h34 h
        refine go_aload_n (pc' := 38) rfl rfl rfl ?_
        refine go_getR (pc' := 41) rfl rfl hth rfl ?_
        refine go_iload_n (pc' := 42) rfl rfl rfl ?_
        obtain ⟨g4, h⟩ := o_gE h
        refine go_iaload (pc' := 43) rfl (o_inK g4) (o_inB g4) rfl ?_
        obtain ⟨x1_43, ex1_43, h⟩ := o_b1E h
        refine go_ndI ex1_43 ?_
        refine go_istore_n (pc' := 44) (lo' := [some (.inr (.inr th)), some (.inl x1_43), some (.inl v2_9)]) rfl rfl rfl ?_
        obtain ⟨x2_44, ex2_44, h⟩ := o_b1E h
        refine go_iincE (pc' := 47) rfl rfl (y := (nI 1)) rfl ex2_44 (lo' := [some (.inr (.inr th)), some (.inl x1_43), some (.inl x2_44)]) rfl rfl ?_
        refine go_goto (pc' := 9) rfl rfl ?_
        exact (lp_backE h hk9 :))
  exact lo9 _ (x1_6, (nI 1)) hl9 
/-- PricedBases$Valuation.greatestValue()I -/
def m_91 (th : Nat) (I : ai_I) (Rf : ai_R) (G : ai_G) : Option (Int32) :=
  o_b1 (m_92 th I Rf G) (fun r_5 => o_g (o_in G 13 (Rf th 3) r_5) (some (I (Rf th 3) r_5.toNatClampNeg)))
theorem md_91 {d : Nat} {I : ai_I} {J : ai_J} {Rf : ai_R} {G : ai_G} {th : Nat} {r : Int32} (hd : 2 ≤ d) (hth : G.1 th = 8) (h : m_91 th I Rf G = some r) : ai_Cl si_t si_ms d 91 [.inr (.inr th)] I J Rf G (some (.inl r)) I J Rf G := by
  obtain ⟨e, rfl⟩ : ∃ e, d = e + 1 := ⟨d - 1, by omega⟩
  unfold m_91 at h
  refine sp_in (lo := [some (.inr (.inr th))]) (B := (0, 0)) rfl (Nat.le_of_ble_eq_true rfl) rfl rfl ?_
  refine go_aload_n (pc' := 1) rfl rfl rfl ?_
  refine go_getR (pc' := 4) rfl rfl hth rfl ?_
  refine go_aload_n (pc' := 5) rfl rfl rfl ?_
  obtain ⟨r_5, q_5, h⟩ := o_b1E h
  refine go_callV (pc' := 8) (B' := (0, 0)) (st' := [.inl r_5, .inr (.inr (Rf th 3))]) rfl rfl (Or.inl (by decide)) rfl rfl hth (md_92 (by omega) hth q_5) rfl rfl rfl ?_
  obtain ⟨g0, h⟩ := o_gE h
  refine go_iaload (pc' := 9) rfl (o_inK g0) (o_inB g0) rfl ?_
  cases h
  exact go_iret rfl (trivial) ⟨rfl, rfl, rfl, rfl, rfl⟩
/-- PricedBases$Ways.<init>()V -/
def m_93 (th : Nat) (I : ai_I) (Rf : ai_R) (G : ai_G) : Option (ai_I × ai_R × ai_G) :=
  o_g (o_nn th) (o_g (o_lt9 G) (o_b1 (some (va_up I (G.2.2 + 1) (fun _ => 0))) (fun I_8 => o_b1 (some (va_up G.1 (G.2.2 + 1) 13, va_up G.2.1 (G.2.2 + 1) 256, G.2.2 + 1)) (fun G_8 => o_b1 (some (G.2.2 + 1)) (fun n_8 => o_g (o_kd G_8 th 9) (o_b1 (some (va_up Rf th (va_up (Rf th) 0 n_8))) (fun R_10 => o_g (o_lt9 G_8) (o_b1 (some (va_up I_8 (G_8.2.2 + 1) (fun _ => 0))) (fun I_17 => o_b1 (some (va_up G_8.1 (G_8.2.2 + 1) 13, va_up G_8.2.1 (G_8.2.2 + 1) 256, G_8.2.2 + 1)) (fun G_17 => o_b1 (some (G_8.2.2 + 1)) (fun n_17 => o_g (o_kd G_17 th 9) (o_b1 (some (va_up R_10 th (va_up (R_10 th) 1 n_17))) (fun R_19 => o_g (o_lt9 G_17) (o_b1 (some (va_up I_17 (G_17.2.2 + 1) (fun _ => 0))) (fun I_25 => o_b1 (some (va_up G_17.1 (G_17.2.2 + 1) 13, va_up G_17.2.1 (G_17.2.2 + 1) 70, G_17.2.2 + 1)) (fun G_25 => o_b1 (some (G_17.2.2 + 1)) (fun n_25 => o_g (o_kd G_25 th 9) (o_b1 (some (va_up R_19 th (va_up (R_19 th) 2 n_25))) (fun R_27 => some (I_25, R_27, G_25))))))))))))))))))))
theorem md_93 {d : Nat} {I : ai_I} {J : ai_J} {Rf : ai_R} {G : ai_G} {th : Nat} {I1 : ai_I} {R1 : ai_R} {G1 : ai_G} (hd : 1 ≤ d) (hth : G.1 th = 9) (h : m_93 th I Rf G = some (I1, R1, G1)) : ai_Cl si_t si_ms d 93 [.inr (.inr th)] I J Rf G none I1 J R1 G1 := by
  obtain ⟨e, rfl⟩ : ∃ e, d = e + 1 := ⟨d - 1, by omega⟩
  unfold m_93 at h
  refine sp_in (lo := [some (.inr (.inr th))]) (B := (3, 582)) rfl (Nat.le_of_ble_eq_true rfl) rfl rfl ?_
  refine go_aload_n (pc' := 1) rfl rfl rfl ?_
  obtain ⟨g0, h⟩ := o_gE h
  refine go_obj (pc' := 4) rfl rfl (o_nnE g0) (Nat.le_of_ble_eq_true rfl) rfl ?_
  refine go_aload_n (pc' := 5) rfl rfl rfl ?_
  refine go_sipush (pc' := 8) (v := (nI 256)) rfl rfl rfl ?_
  obtain ⟨g1, h⟩ := o_gE h
  refine go_newI (pc' := 10) (N := 256) rfl (by decide) (by decide) (by decide) (by decide) (by decide) (o_lt9E g1) rfl ?_
  obtain ⟨I_8, eI_8, h⟩ := o_b1E h
  obtain ⟨G_8, eG_8, h⟩ := o_b1E h
  obtain ⟨n_8, en_8, h⟩ := o_b1E h
  refine go_ndMI eI_8 ?_
  refine go_ndMG eG_8 ?_
  refine go_ndR en_8 ?_
  refine go_ndB (B' := (2, 326)) rfl ?_
  obtain ⟨g2, h⟩ := o_gE h
  obtain ⟨R_10, eR_10, h⟩ := o_b1E h
  refine go_putR (pc' := 13) rfl rfl (fun _ => ⟨rfl, rfl⟩) (o_kdE g2) rfl ?_
  refine go_ndMR eR_10 ?_
  refine go_aload_n (pc' := 14) rfl rfl rfl ?_
  refine go_sipush (pc' := 17) (v := (nI 256)) rfl rfl rfl ?_
  obtain ⟨g3, h⟩ := o_gE h
  refine go_newI (pc' := 19) (N := 256) rfl (by decide) (by decide) (by decide) (by decide) (by decide) (o_lt9E g3) rfl ?_
  obtain ⟨I_17, eI_17, h⟩ := o_b1E h
  obtain ⟨G_17, eG_17, h⟩ := o_b1E h
  obtain ⟨n_17, en_17, h⟩ := o_b1E h
  refine go_ndMI eI_17 ?_
  refine go_ndMG eG_17 ?_
  refine go_ndR en_17 ?_
  refine go_ndB (B' := (1, 70)) rfl ?_
  obtain ⟨g4, h⟩ := o_gE h
  obtain ⟨R_19, eR_19, h⟩ := o_b1E h
  refine go_putR (pc' := 22) rfl rfl (fun _ => ⟨rfl, rfl⟩) (o_kdE g4) rfl ?_
  refine go_ndMR eR_19 ?_
  refine go_aload_n (pc' := 23) rfl rfl rfl ?_
  refine go_bipush (pc' := 25) (v := (nI 70)) rfl rfl rfl ?_
  obtain ⟨g5, h⟩ := o_gE h
  refine go_newI (pc' := 27) (N := 70) rfl (by decide) (by decide) (by decide) (by decide) (by decide) (o_lt9E g5) rfl ?_
  obtain ⟨I_25, eI_25, h⟩ := o_b1E h
  obtain ⟨G_25, eG_25, h⟩ := o_b1E h
  obtain ⟨n_25, en_25, h⟩ := o_b1E h
  refine go_ndMI eI_25 ?_
  refine go_ndMG eG_25 ?_
  refine go_ndR en_25 ?_
  refine go_ndB (B' := (0, 0)) rfl ?_
  obtain ⟨g6, h⟩ := o_gE h
  obtain ⟨R_27, eR_27, h⟩ := o_b1E h
  refine go_putR (pc' := 30) rfl rfl (fun _ => ⟨rfl, rfl⟩) (o_kdE g6) rfl ?_
  refine go_ndMR eR_27 ?_
  cases h
  exact go_vret rfl (rfl) ⟨rfl, rfl, rfl, rfl, rfl⟩
/-- PricedBases.<init>()V -/
def m_94 (th : Nat) (I : ai_I) (J : ai_J) (Rf : ai_R) (G : ai_G) : Option (ai_I × ai_J × ai_R × ai_G) :=
  o_g (o_nn th) (o_g (o_lt9 G) (o_b1 (some (va_up I (G.2.2 + 1) (fun _ => 0))) (fun I_5 => o_b1 (some (va_up J (G.2.2 + 1) (fun _ => 0))) (fun J_5 => o_b1 (some (va_up Rf (G.2.2 + 1) (fun _ => 0))) (fun R_5 => o_b1 (some (va_up G.1 (G.2.2 + 1) 6, G.2.1, G.2.2 + 1)) (fun G_5 => o_b1 (some (G.2.2 + 1)) (fun n_5 => o_b4 (m_64 n_5 I_5 J_5 R_5 G_5) (fun I_9 J_9 R_9 G_9 => o_g (o_kd G_9 th 10) (o_b1 (some (va_up R_9 th (va_up (R_9 th) 0 n_5))) (fun R_12 => o_g (o_lt9 G_9) (o_b1 (some (va_up I_9 (G_9.2.2 + 1) (fun _ => 0))) (fun I_16 => o_b1 (some (va_up J_9 (G_9.2.2 + 1) (fun _ => 0))) (fun J_16 => o_b1 (some (va_up R_12 (G_9.2.2 + 1) (fun _ => 0))) (fun R_16 => o_b1 (some (va_up G_9.1 (G_9.2.2 + 1) 6, G_9.2.1, G_9.2.2 + 1)) (fun G_16 => o_b1 (some (G_9.2.2 + 1)) (fun n_16 => o_b4 (m_64 n_16 I_16 J_16 R_16 G_16) (fun I_20 J_20 R_20 G_20 => o_g (o_kd G_20 th 10) (o_b1 (some (va_up R_20 th (va_up (R_20 th) 1 n_16))) (fun R_23 => o_b1 (some (va_up I_20 th (va_up (I_20 th) 2 (nI 0)))) (fun I_28 => o_g (o_lt9 G_20) (o_b1 (some (va_up I_28 (G_20.2.2 + 1) (fun _ => 0))) (fun I_35 => o_b1 (some (va_up G_20.1 (G_20.2.2 + 1) 13, va_up G_20.2.1 (G_20.2.2 + 1) 240, G_20.2.2 + 1)) (fun G_35 => o_b1 (some (G_20.2.2 + 1)) (fun n_35 => o_g (o_kd G_35 th 10) (o_b1 (some (va_up R_23 th (va_up (R_23 th) 3 n_35))) (fun R_37 => o_b1 (some (va_up I_35 th (va_up (I_35 th) 4 (nI 0)))) (fun I_42 => o_g (o_lt9 G_35) (o_b1 (some (va_up I_42 (G_35.2.2 + 1) (fun _ => 0))) (fun I_46 => o_b1 (some (va_up J_20 (G_35.2.2 + 1) (fun _ => 0))) (fun J_46 => o_b1 (some (va_up R_37 (G_35.2.2 + 1) (fun _ => 0))) (fun R_46 => o_b1 (some (va_up G_35.1 (G_35.2.2 + 1) 0, G_35.2.1, G_35.2.2 + 1)) (fun G_46 => o_b1 (some (G_35.2.2 + 1)) (fun n_46 => o_b3 (m_0 n_46 I_46 R_46 G_46) (fun I_50 R_50 G_50 => o_g (o_kd G_50 th 10) (o_b1 (some (va_up R_50 th (va_up (R_50 th) 5 n_46))) (fun R_53 => o_g (o_lt9 G_50) (o_b1 (some (va_up I_50 (G_50.2.2 + 1) (fun _ => 0))) (fun I_57 => o_b1 (some (va_up J_46 (G_50.2.2 + 1) (fun _ => 0))) (fun J_57 => o_b1 (some (va_up R_53 (G_50.2.2 + 1) (fun _ => 0))) (fun R_57 => o_b1 (some (va_up G_50.1 (G_50.2.2 + 1) 3, G_50.2.1, G_50.2.2 + 1)) (fun G_57 => o_b1 (some (G_50.2.2 + 1)) (fun n_57 => o_b4 (m_26 n_57 I_57 J_57 R_57 G_57) (fun I_61 J_61 R_61 G_61 => o_g (o_kd G_61 th 10) (o_b1 (some (va_up R_61 th (va_up (R_61 th) 6 n_57))) (fun R_64 => o_g (o_lt9 G_61) (o_b1 (some (va_up I_61 (G_61.2.2 + 1) (fun _ => 0))) (fun I_68 => o_b1 (some (va_up J_61 (G_61.2.2 + 1) (fun _ => 0))) (fun J_68 => o_b1 (some (va_up R_64 (G_61.2.2 + 1) (fun _ => 0))) (fun R_68 => o_b1 (some (va_up G_61.1 (G_61.2.2 + 1) 2, G_61.2.1, G_61.2.2 + 1)) (fun G_68 => o_b1 (some (G_61.2.2 + 1)) (fun n_68 => o_b3 (m_20 n_68 I_68 R_68 G_68) (fun I_72 R_72 G_72 => o_g (o_kd G_72 th 10) (o_b1 (some (va_up R_72 th (va_up (R_72 th) 7 n_68))) (fun R_75 => o_g (o_lt9 G_72) (o_b1 (some (va_up I_72 (G_72.2.2 + 1) (fun _ => 0))) (fun I_79 => o_b1 (some (va_up J_68 (G_72.2.2 + 1) (fun _ => 0))) (fun J_79 => o_b1 (some (va_up R_75 (G_72.2.2 + 1) (fun _ => 0))) (fun R_79 => o_b1 (some (va_up G_72.1 (G_72.2.2 + 1) 7, G_72.2.1, G_72.2.2 + 1)) (fun G_79 => o_b1 (some (G_72.2.2 + 1)) (fun n_79 => o_b3 (m_69 n_79 I_79 R_79 G_79) (fun I_83 R_83 G_83 => o_g (o_kd G_83 th 10) (o_b1 (some (va_up R_83 th (va_up (R_83 th) 8 n_79))) (fun R_86 => o_g (o_lt9 G_83) (o_b1 (some (va_up I_83 (G_83.2.2 + 1) (fun _ => 0))) (fun I_90 => o_b1 (some (va_up J_79 (G_83.2.2 + 1) (fun _ => 0))) (fun J_90 => o_b1 (some (va_up R_86 (G_83.2.2 + 1) (fun _ => 0))) (fun R_90 => o_b1 (some (va_up G_83.1 (G_83.2.2 + 1) 5, G_83.2.1, G_83.2.2 + 1)) (fun G_90 => o_b1 (some (G_83.2.2 + 1)) (fun n_90 => o_b3 (m_56 n_90 I_90 R_90 G_90) (fun I_94 R_94 G_94 => o_g (o_kd G_94 th 10) (o_b1 (some (va_up R_94 th (va_up (R_94 th) 9 n_90))) (fun R_97 => o_g (o_lt9 G_94) (o_b1 (some (va_up I_94 (G_94.2.2 + 1) (fun _ => 0))) (fun I_101 => o_b1 (some (va_up J_90 (G_94.2.2 + 1) (fun _ => 0))) (fun J_101 => o_b1 (some (va_up R_97 (G_94.2.2 + 1) (fun _ => 0))) (fun R_101 => o_b1 (some (va_up G_94.1 (G_94.2.2 + 1) 1, G_94.2.1, G_94.2.2 + 1)) (fun G_101 => o_b1 (some (G_94.2.2 + 1)) (fun n_101 => o_b3 (m_19 n_101 I_101 R_101 G_101) (fun I_105 R_105 G_105 => o_g (o_kd G_105 th 10) (o_b1 (some (va_up R_105 th (va_up (R_105 th) 10 n_101))) (fun R_108 => o_g (o_lt9 G_105) (o_b1 (some (va_up I_105 (G_105.2.2 + 1) (fun _ => 0))) (fun I_112 => o_b1 (some (va_up J_101 (G_105.2.2 + 1) (fun _ => 0))) (fun J_112 => o_b1 (some (va_up R_108 (G_105.2.2 + 1) (fun _ => 0))) (fun R_112 => o_b1 (some (va_up G_105.1 (G_105.2.2 + 1) 9, G_105.2.1, G_105.2.2 + 1)) (fun G_112 => o_b1 (some (G_105.2.2 + 1)) (fun n_112 => o_b3 (m_93 n_112 I_112 R_112 G_112) (fun I_116 R_116 G_116 => o_g (o_kd G_116 th 10) (o_b1 (some (va_up R_116 th (va_up (R_116 th) 11 n_112))) (fun R_119 => o_g (o_lt9 G_116) (o_b1 (some (va_up I_116 (G_116.2.2 + 1) (fun _ => 0))) (fun I_123 => o_b1 (some (va_up J_112 (G_116.2.2 + 1) (fun _ => 0))) (fun J_123 => o_b1 (some (va_up R_119 (G_116.2.2 + 1) (fun _ => 0))) (fun R_123 => o_b1 (some (va_up G_116.1 (G_116.2.2 + 1) 4, G_116.2.1, G_116.2.2 + 1)) (fun G_123 => o_b1 (some (G_116.2.2 + 1)) (fun n_123 => o_b4 (m_47 n_123 I_123 J_123 R_123 G_123) (fun I_127 J_127 R_127 G_127 => o_g (o_kd G_127 th 10) (o_b1 (some (va_up R_127 th (va_up (R_127 th) 12 n_123))) (fun R_130 => o_g (o_lt9 G_127) (o_b1 (some (va_up I_127 (G_127.2.2 + 1) (fun _ => 0))) (fun I_137 => o_b1 (some (va_up G_127.1 (G_127.2.2 + 1) 13, va_up G_127.2.1 (G_127.2.2 + 1) 256, G_127.2.2 + 1)) (fun G_137 => o_b1 (some (G_127.2.2 + 1)) (fun n_137 => o_g (o_kd G_137 th 10) (o_b1 (some (va_up R_130 th (va_up (R_130 th) 13 n_137))) (fun R_139 => o_g (o_lt9 G_137) (o_b1 (some (va_up I_137 (G_137.2.2 + 1) (fun _ => 0))) (fun I_145 => o_b1 (some (va_up G_137.1 (G_137.2.2 + 1) 13, va_up G_137.2.1 (G_137.2.2 + 1) 8, G_137.2.2 + 1)) (fun G_145 => o_b1 (some (G_137.2.2 + 1)) (fun n_145 => o_g (o_kd G_145 th 10) (o_b1 (some (va_up R_139 th (va_up (R_139 th) 14 n_145))) (fun R_147 => some (I_145, J_127, R_147, G_145))))))))))))))))))))))))))))))))))))))))))))))))))))))))))))))))))))))))))))))))))))))))))))))))))))))))))))))))
theorem md_94 {d : Nat} {I : ai_I} {J : ai_J} {Rf : ai_R} {G : ai_G} {th : Nat} {I1 : ai_I} {J1 : ai_J} {R1 : ai_R} {G1 : ai_G} (hd : 5 ≤ d) (hth : G.1 th = 10) (h : m_94 th I J Rf G = some (I1, J1, R1, G1)) : ai_Cl si_t si_ms d 94 [.inr (.inr th)] I J Rf G none I1 J1 R1 G1 := by
  obtain ⟨e, rfl⟩ : ∃ e, d = e + 1 := ⟨d - 1, by omega⟩
  unfold m_94 at h
  refine sp_in (lo := [some (.inr (.inr th))]) (B := (73, 8836)) rfl (Nat.le_of_ble_eq_true rfl) rfl rfl ?_
  refine go_aload_n (pc' := 1) rfl rfl rfl ?_
  obtain ⟨g0, h⟩ := o_gE h
  refine go_obj (pc' := 4) rfl rfl (o_nnE g0) (Nat.le_of_ble_eq_true rfl) rfl ?_
  refine go_aload_n (pc' := 5) rfl rfl rfl ?_
  obtain ⟨g1, h⟩ := o_gE h
  refine go_new (pc' := 8) (q := 6) (nf := 5) rfl rfl rfl (by decide) (by decide) (o_lt9E g1) rfl ?_
  obtain ⟨I_5, eI_5, h⟩ := o_b1E h
  obtain ⟨J_5, eJ_5, h⟩ := o_b1E h
  obtain ⟨R_5, eR_5, h⟩ := o_b1E h
  obtain ⟨G_5, eG_5, h⟩ := o_b1E h
  obtain ⟨n_5, en_5, h⟩ := o_b1E h
  refine go_ndMI eI_5 ?_
  refine go_ndMJ eJ_5 ?_
  refine go_ndMR eR_5 ?_
  refine go_ndMG eG_5 ?_
  refine go_ndR en_5 ?_
  have gk_5 : G_5.1 n_5 = 6 := o_newK en_5 eG_5
  refine go_ndB (B' := (72, 8831)) rfl ?_
  refine go_dupR (pc' := 9) rfl rfl ?_
  obtain ⟨I_9, J_9, R_9, G_9, q_9, h⟩ := o_b4E h
  refine go_callI (pc' := 12) (B' := (53, 6387)) (st' := [.inr (.inr n_5), .inr (.inr th)]) rfl rfl (Or.inl (by decide)) rfl rfl gk_5 (md_64 (by omega) gk_5 q_9) rfl rfl rfl ?_
  obtain ⟨g2, h⟩ := o_gE h
  obtain ⟨R_12, eR_12, h⟩ := o_b1E h
  refine go_putR (pc' := 15) rfl rfl (fun _ => ⟨rfl, rfl⟩) (o_kdE g2) rfl ?_
  refine go_ndMR eR_12 ?_
  refine go_aload_n (pc' := 16) rfl rfl rfl ?_
  obtain ⟨g3, h⟩ := o_gE h
  refine go_new (pc' := 19) (q := 6) (nf := 5) rfl rfl rfl (by decide) (by decide) (o_lt9E g3) rfl ?_
  obtain ⟨I_16, eI_16, h⟩ := o_b1E h
  obtain ⟨J_16, eJ_16, h⟩ := o_b1E h
  obtain ⟨R_16, eR_16, h⟩ := o_b1E h
  obtain ⟨G_16, eG_16, h⟩ := o_b1E h
  obtain ⟨n_16, en_16, h⟩ := o_b1E h
  refine go_ndMI eI_16 ?_
  refine go_ndMJ eJ_16 ?_
  refine go_ndMR eR_16 ?_
  refine go_ndMG eG_16 ?_
  refine go_ndR en_16 ?_
  have gk_16 : G_16.1 n_16 = 6 := o_newK en_16 eG_16
  refine go_ndB (B' := (52, 6382)) rfl ?_
  refine go_dupR (pc' := 20) rfl rfl ?_
  obtain ⟨I_20, J_20, R_20, G_20, q_20, h⟩ := o_b4E h
  refine go_callI (pc' := 23) (B' := (33, 3938)) (st' := [.inr (.inr n_16), .inr (.inr th)]) rfl rfl (Or.inl (by decide)) rfl rfl gk_16 (md_64 (by omega) gk_16 q_20) rfl rfl rfl ?_
  obtain ⟨g4, h⟩ := o_gE h
  obtain ⟨R_23, eR_23, h⟩ := o_b1E h
  refine go_putR (pc' := 26) rfl rfl (fun _ => ⟨rfl, rfl⟩) (o_kdE g4) rfl ?_
  refine go_ndMR eR_23 ?_
  refine go_aload_n (pc' := 27) rfl rfl rfl ?_
  refine go_iconst (pc' := 28) (v := (nI 0)) rfl rfl rfl ?_
  obtain ⟨I_28, eI_28, h⟩ := o_b1E h
  refine go_putZ (pc' := 31) rfl rfl (fun h => by cases h) (o_kdE g4) rfl rfl ?_
  refine go_ndMI eI_28 ?_
  refine go_aload_n (pc' := 32) rfl rfl rfl ?_
  refine go_sipush (pc' := 35) (v := (nI 240)) rfl rfl rfl ?_
  obtain ⟨g5, h⟩ := o_gE h
  refine go_newI (pc' := 37) (N := 240) rfl (by decide) (by decide) (by decide) (by decide) (by decide) (o_lt9E g5) rfl ?_
  obtain ⟨I_35, eI_35, h⟩ := o_b1E h
  obtain ⟨G_35, eG_35, h⟩ := o_b1E h
  obtain ⟨n_35, en_35, h⟩ := o_b1E h
  refine go_ndMI eI_35 ?_
  refine go_ndMG eG_35 ?_
  refine go_ndR en_35 ?_
  refine go_ndB (B' := (32, 3698)) rfl ?_
  obtain ⟨g6, h⟩ := o_gE h
  obtain ⟨R_37, eR_37, h⟩ := o_b1E h
  refine go_putR (pc' := 40) rfl rfl (fun _ => ⟨rfl, rfl⟩) (o_kdE g6) rfl ?_
  refine go_ndMR eR_37 ?_
  refine go_aload_n (pc' := 41) rfl rfl rfl ?_
  refine go_iconst (pc' := 42) (v := (nI 0)) rfl rfl rfl ?_
  obtain ⟨I_42, eI_42, h⟩ := o_b1E h
  refine go_putI (pc' := 45) rfl rfl (fun h => by cases h) (o_kdE g6) rfl ?_
  refine go_ndMI eI_42 ?_
  refine go_aload_n (pc' := 46) rfl rfl rfl ?_
  obtain ⟨g7, h⟩ := o_gE h
  refine go_new (pc' := 49) (q := 0) (nf := 11) rfl rfl rfl (by decide) (by decide) (o_lt9E g7) rfl ?_
  obtain ⟨I_46, eI_46, h⟩ := o_b1E h
  obtain ⟨J_46, eJ_46, h⟩ := o_b1E h
  obtain ⟨R_46, eR_46, h⟩ := o_b1E h
  obtain ⟨G_46, eG_46, h⟩ := o_b1E h
  obtain ⟨n_46, en_46, h⟩ := o_b1E h
  refine go_ndMI eI_46 ?_
  refine go_ndMJ eJ_46 ?_
  refine go_ndMR eR_46 ?_
  refine go_ndMG eG_46 ?_
  refine go_ndR en_46 ?_
  have gk_46 : G_46.1 n_46 = 0 := o_newK en_46 eG_46
  refine go_ndB (B' := (31, 3687)) rfl ?_
  refine go_dupR (pc' := 50) rfl rfl ?_
  obtain ⟨I_50, R_50, G_50, q_50, h⟩ := o_b3E h
  refine go_callI (pc' := 53) (B' := (26, 2530)) (st' := [.inr (.inr n_46), .inr (.inr th)]) rfl rfl (Or.inl (by decide)) rfl rfl gk_46 (md_0 (by omega) gk_46 q_50) rfl rfl rfl ?_
  obtain ⟨g8, h⟩ := o_gE h
  obtain ⟨R_53, eR_53, h⟩ := o_b1E h
  refine go_putR (pc' := 56) rfl rfl (fun _ => ⟨rfl, rfl⟩) (o_kdE g8) rfl ?_
  refine go_ndMR eR_53 ?_
  refine go_aload_n (pc' := 57) rfl rfl rfl ?_
  obtain ⟨g9, h⟩ := o_gE h
  refine go_new (pc' := 60) (q := 3) (nf := 2) rfl rfl rfl (by decide) (by decide) (o_lt9E g9) rfl ?_
  obtain ⟨I_57, eI_57, h⟩ := o_b1E h
  obtain ⟨J_57, eJ_57, h⟩ := o_b1E h
  obtain ⟨R_57, eR_57, h⟩ := o_b1E h
  obtain ⟨G_57, eG_57, h⟩ := o_b1E h
  obtain ⟨n_57, en_57, h⟩ := o_b1E h
  refine go_ndMI eI_57 ?_
  refine go_ndMJ eJ_57 ?_
  refine go_ndMR eR_57 ?_
  refine go_ndMG eG_57 ?_
  refine go_ndR en_57 ?_
  have gk_57 : G_57.1 n_57 = 3 := o_newK en_57 eG_57
  refine go_ndB (B' := (25, 2528)) rfl ?_
  refine go_dupR (pc' := 61) rfl rfl ?_
  obtain ⟨I_61, J_61, R_61, G_61, q_61, h⟩ := o_b4E h
  refine go_callI (pc' := 64) (B' := (20, 1684)) (st' := [.inr (.inr n_57), .inr (.inr th)]) rfl rfl (Or.inl (by decide)) rfl rfl gk_57 (md_26 (by omega) gk_57 q_61) rfl rfl rfl ?_
  obtain ⟨g10, h⟩ := o_gE h
  obtain ⟨R_64, eR_64, h⟩ := o_b1E h
  refine go_putR (pc' := 67) rfl rfl (fun _ => ⟨rfl, rfl⟩) (o_kdE g10) rfl ?_
  refine go_ndMR eR_64 ?_
  refine go_aload_n (pc' := 68) rfl rfl rfl ?_
  obtain ⟨g11, h⟩ := o_gE h
  refine go_new (pc' := 71) (q := 2) (nf := 4) rfl rfl rfl (by decide) (by decide) (o_lt9E g11) rfl ?_
  obtain ⟨I_68, eI_68, h⟩ := o_b1E h
  obtain ⟨J_68, eJ_68, h⟩ := o_b1E h
  obtain ⟨R_68, eR_68, h⟩ := o_b1E h
  obtain ⟨G_68, eG_68, h⟩ := o_b1E h
  obtain ⟨n_68, en_68, h⟩ := o_b1E h
  refine go_ndMI eI_68 ?_
  refine go_ndMJ eJ_68 ?_
  refine go_ndMR eR_68 ?_
  refine go_ndMG eG_68 ?_
  refine go_ndR en_68 ?_
  have gk_68 : G_68.1 n_68 = 2 := o_newK en_68 eG_68
  refine go_ndB (B' := (19, 1680)) rfl ?_
  refine go_dupR (pc' := 72) rfl rfl ?_
  obtain ⟨I_72, R_72, G_72, q_72, h⟩ := o_b3E h
  refine go_callI (pc' := 75) (B' := (18, 1424)) (st' := [.inr (.inr n_68), .inr (.inr th)]) rfl rfl (Or.inl (by decide)) rfl rfl gk_68 (md_20 (by omega) gk_68 q_72) rfl rfl rfl ?_
  obtain ⟨g12, h⟩ := o_gE h
  obtain ⟨R_75, eR_75, h⟩ := o_b1E h
  refine go_putR (pc' := 78) rfl rfl (fun _ => ⟨rfl, rfl⟩) (o_kdE g12) rfl ?_
  refine go_ndMR eR_75 ?_
  refine go_aload_n (pc' := 79) rfl rfl rfl ?_
  obtain ⟨g13, h⟩ := o_gE h
  refine go_new (pc' := 82) (q := 7) (nf := 4) rfl rfl rfl (by decide) (by decide) (o_lt9E g13) rfl ?_
  obtain ⟨I_79, eI_79, h⟩ := o_b1E h
  obtain ⟨J_79, eJ_79, h⟩ := o_b1E h
  obtain ⟨R_79, eR_79, h⟩ := o_b1E h
  obtain ⟨G_79, eG_79, h⟩ := o_b1E h
  obtain ⟨n_79, en_79, h⟩ := o_b1E h
  refine go_ndMI eI_79 ?_
  refine go_ndMJ eJ_79 ?_
  refine go_ndMR eR_79 ?_
  refine go_ndMG eG_79 ?_
  refine go_ndR en_79 ?_
  have gk_79 : G_79.1 n_79 = 7 := o_newK en_79 eG_79
  refine go_ndB (B' := (17, 1420)) rfl ?_
  refine go_dupR (pc' := 83) rfl rfl ?_
  obtain ⟨I_83, R_83, G_83, q_83, h⟩ := o_b3E h
  refine go_callI (pc' := 86) (B' := (16, 1164)) (st' := [.inr (.inr n_79), .inr (.inr th)]) rfl rfl (Or.inl (by decide)) rfl rfl gk_79 (md_69 (by omega) gk_79 q_83) rfl rfl rfl ?_
  obtain ⟨g14, h⟩ := o_gE h
  obtain ⟨R_86, eR_86, h⟩ := o_b1E h
  refine go_putR (pc' := 89) rfl rfl (fun _ => ⟨rfl, rfl⟩) (o_kdE g14) rfl ?_
  refine go_ndMR eR_86 ?_
  refine go_aload_n (pc' := 90) rfl rfl rfl ?_
  obtain ⟨g15, h⟩ := o_gE h
  refine go_new (pc' := 93) (q := 5) (nf := 2) rfl rfl rfl (by decide) (by decide) (o_lt9E g15) rfl ?_
  obtain ⟨I_90, eI_90, h⟩ := o_b1E h
  obtain ⟨J_90, eJ_90, h⟩ := o_b1E h
  obtain ⟨R_90, eR_90, h⟩ := o_b1E h
  obtain ⟨G_90, eG_90, h⟩ := o_b1E h
  obtain ⟨n_90, en_90, h⟩ := o_b1E h
  refine go_ndMI eI_90 ?_
  refine go_ndMJ eJ_90 ?_
  refine go_ndMR eR_90 ?_
  refine go_ndMG eG_90 ?_
  refine go_ndR en_90 ?_
  have gk_90 : G_90.1 n_90 = 5 := o_newK en_90 eG_90
  refine go_ndB (B' := (15, 1162)) rfl ?_
  refine go_dupR (pc' := 94) rfl rfl ?_
  obtain ⟨I_94, R_94, G_94, q_94, h⟩ := o_b3E h
  refine go_callI (pc' := 97) (B' := (14, 1154)) (st' := [.inr (.inr n_90), .inr (.inr th)]) rfl rfl (Or.inl (by decide)) rfl rfl gk_90 (md_56 (by omega) gk_90 q_94) rfl rfl rfl ?_
  obtain ⟨g16, h⟩ := o_gE h
  obtain ⟨R_97, eR_97, h⟩ := o_b1E h
  refine go_putR (pc' := 100) rfl rfl (fun _ => ⟨rfl, rfl⟩) (o_kdE g16) rfl ?_
  refine go_ndMR eR_97 ?_
  refine go_aload_n (pc' := 101) rfl rfl rfl ?_
  obtain ⟨g17, h⟩ := o_gE h
  refine go_new (pc' := 104) (q := 1) (nf := 4) rfl rfl rfl (by decide) (by decide) (o_lt9E g17) rfl ?_
  obtain ⟨I_101, eI_101, h⟩ := o_b1E h
  obtain ⟨J_101, eJ_101, h⟩ := o_b1E h
  obtain ⟨R_101, eR_101, h⟩ := o_b1E h
  obtain ⟨G_101, eG_101, h⟩ := o_b1E h
  obtain ⟨n_101, en_101, h⟩ := o_b1E h
  refine go_ndMI eI_101 ?_
  refine go_ndMJ eJ_101 ?_
  refine go_ndMR eR_101 ?_
  refine go_ndMG eG_101 ?_
  refine go_ndR en_101 ?_
  have gk_101 : G_101.1 n_101 = 1 := o_newK en_101 eG_101
  refine go_ndB (B' := (13, 1150)) rfl ?_
  refine go_dupR (pc' := 105) rfl rfl ?_
  obtain ⟨I_105, R_105, G_105, q_105, h⟩ := o_b3E h
  refine go_callI (pc' := 108) (B' := (12, 1142)) (st' := [.inr (.inr n_101), .inr (.inr th)]) rfl rfl (Or.inl (by decide)) rfl rfl gk_101 (md_19 (by omega) gk_101 q_105) rfl rfl rfl ?_
  obtain ⟨g18, h⟩ := o_gE h
  obtain ⟨R_108, eR_108, h⟩ := o_b1E h
  refine go_putR (pc' := 111) rfl rfl (fun _ => ⟨rfl, rfl⟩) (o_kdE g18) rfl ?_
  refine go_ndMR eR_108 ?_
  refine go_aload_n (pc' := 112) rfl rfl rfl ?_
  obtain ⟨g19, h⟩ := o_gE h
  refine go_new (pc' := 115) (q := 9) (nf := 3) rfl rfl rfl (by decide) (by decide) (o_lt9E g19) rfl ?_
  obtain ⟨I_112, eI_112, h⟩ := o_b1E h
  obtain ⟨J_112, eJ_112, h⟩ := o_b1E h
  obtain ⟨R_112, eR_112, h⟩ := o_b1E h
  obtain ⟨G_112, eG_112, h⟩ := o_b1E h
  obtain ⟨n_112, en_112, h⟩ := o_b1E h
  refine go_ndMI eI_112 ?_
  refine go_ndMJ eJ_112 ?_
  refine go_ndMR eR_112 ?_
  refine go_ndMG eG_112 ?_
  refine go_ndR en_112 ?_
  have gk_112 : G_112.1 n_112 = 9 := o_newK en_112 eG_112
  refine go_ndB (B' := (11, 1139)) rfl ?_
  refine go_dupR (pc' := 116) rfl rfl ?_
  obtain ⟨I_116, R_116, G_116, q_116, h⟩ := o_b3E h
  refine go_callI (pc' := 119) (B' := (8, 557)) (st' := [.inr (.inr n_112), .inr (.inr th)]) rfl rfl (Or.inl (by decide)) rfl rfl gk_112 (md_93 (by omega) gk_112 q_116) rfl rfl rfl ?_
  obtain ⟨g20, h⟩ := o_gE h
  obtain ⟨R_119, eR_119, h⟩ := o_b1E h
  refine go_putR (pc' := 122) rfl rfl (fun _ => ⟨rfl, rfl⟩) (o_kdE g20) rfl ?_
  refine go_ndMR eR_119 ?_
  refine go_aload_n (pc' := 123) rfl rfl rfl ?_
  obtain ⟨g21, h⟩ := o_gE h
  refine go_new (pc' := 126) (q := 4) (nf := 5) rfl rfl rfl (by decide) (by decide) (o_lt9E g21) rfl ?_
  obtain ⟨I_123, eI_123, h⟩ := o_b1E h
  obtain ⟨J_123, eJ_123, h⟩ := o_b1E h
  obtain ⟨R_123, eR_123, h⟩ := o_b1E h
  obtain ⟨G_123, eG_123, h⟩ := o_b1E h
  obtain ⟨n_123, en_123, h⟩ := o_b1E h
  refine go_ndMI eI_123 ?_
  refine go_ndMJ eJ_123 ?_
  refine go_ndMR eR_123 ?_
  refine go_ndMG eG_123 ?_
  refine go_ndR en_123 ?_
  have gk_123 : G_123.1 n_123 = 4 := o_newK en_123 eG_123
  refine go_ndB (B' := (7, 552)) rfl ?_
  refine go_dupR (pc' := 127) rfl rfl ?_
  obtain ⟨I_127, J_127, R_127, G_127, q_127, h⟩ := o_b4E h
  refine go_callI (pc' := 130) (B' := (2, 264)) (st' := [.inr (.inr n_123), .inr (.inr th)]) rfl rfl (Or.inl (by decide)) rfl rfl gk_123 (md_47 (by omega) gk_123 q_127) rfl rfl rfl ?_
  obtain ⟨g22, h⟩ := o_gE h
  obtain ⟨R_130, eR_130, h⟩ := o_b1E h
  refine go_putR (pc' := 133) rfl rfl (fun _ => ⟨rfl, rfl⟩) (o_kdE g22) rfl ?_
  refine go_ndMR eR_130 ?_
  refine go_aload_n (pc' := 134) rfl rfl rfl ?_
  refine go_sipush (pc' := 137) (v := (nI 256)) rfl rfl rfl ?_
  obtain ⟨g23, h⟩ := o_gE h
  refine go_newI (pc' := 139) (N := 256) rfl (by decide) (by decide) (by decide) (by decide) (by decide) (o_lt9E g23) rfl ?_
  obtain ⟨I_137, eI_137, h⟩ := o_b1E h
  obtain ⟨G_137, eG_137, h⟩ := o_b1E h
  obtain ⟨n_137, en_137, h⟩ := o_b1E h
  refine go_ndMI eI_137 ?_
  refine go_ndMG eG_137 ?_
  refine go_ndR en_137 ?_
  refine go_ndB (B' := (1, 8)) rfl ?_
  obtain ⟨g24, h⟩ := o_gE h
  obtain ⟨R_139, eR_139, h⟩ := o_b1E h
  refine go_putR (pc' := 142) rfl rfl (fun _ => ⟨rfl, rfl⟩) (o_kdE g24) rfl ?_
  refine go_ndMR eR_139 ?_
  refine go_aload_n (pc' := 143) rfl rfl rfl ?_
  refine go_bipush (pc' := 145) (v := (nI 8)) rfl rfl rfl ?_
  obtain ⟨g25, h⟩ := o_gE h
  refine go_newI (pc' := 147) (N := 8) rfl (by decide) (by decide) (by decide) (by decide) (by decide) (o_lt9E g25) rfl ?_
  obtain ⟨I_145, eI_145, h⟩ := o_b1E h
  obtain ⟨G_145, eG_145, h⟩ := o_b1E h
  obtain ⟨n_145, en_145, h⟩ := o_b1E h
  refine go_ndMI eI_145 ?_
  refine go_ndMG eG_145 ?_
  refine go_ndR en_145 ?_
  refine go_ndB (B' := (0, 0)) rfl ?_
  obtain ⟨g26, h⟩ := o_gE h
  obtain ⟨R_147, eR_147, h⟩ := o_b1E h
  refine go_putR (pc' := 150) rfl rfl (fun _ => ⟨rfl, rfl⟩) (o_kdE g26) rfl ?_
  refine go_ndMR eR_147 ?_
  cases h
  exact go_vret rfl (rfl) ⟨rfl, rfl, rfl, rfl, rfl⟩
def m_96_x3_49 (Ix_49 : ai_I) : Option (ai_I) :=
  some Ix_49
def m_96_b3 (th : Nat) (a0 : Int32) (Rf : ai_R) (G : ai_G) (v2_3 : Int32) (I_3 : ai_I) : Option ((Int32 × ai_I) ⊕ ai_I) :=
  if v2_3 < 0 then (some (Sum.inr I_3)) else (if (nI 240) ≤ (I_3 th 4) then (o_b1 (some (v2_3 + (-8 : Int32))) (fun x2_43 => some (Sum.inl (x2_43, I_3)))) else (o_g (o_in G 13 (Rf th 3) (I_3 th 4)) (o_b1 (some (va_up I_3 (Rf th 3) (va_up (I_3 (Rf th 3)) (I_3 th 4).toNatClampNeg (((a0.toUInt32 >>> (v2_3.toUInt32 &&& Int32.toUInt32 31)).toInt32) &&& (nI 255))))) (fun I_32 => o_b1 (some (va_up I_32 th (va_up (I_32 th) 4 ((I_32 th 4) + (nI 1))))) (fun I_40 => o_b1 (some (v2_3 + (-8 : Int32))) (fun x2_43 => some (Sum.inl (x2_43, I_40))))))))
/-- PricedBases.tapeBytes(I)V -/
def m_96 (th : Nat) (a0 : Int32) (I : ai_I) (Rf : ai_R) (G : ai_G) : Option (ai_I) :=
  o_s1 (lp (fun s => m_96_b3 th a0 Rf G s.1 s.2) o_N ((nI 24), I)) (fun t => m_96_x3_49 t)
theorem md_96 {d : Nat} {I : ai_I} {J : ai_J} {Rf : ai_R} {G : ai_G} {th : Nat} {a0 : Int32} {I1 : ai_I} (hd : 1 ≤ d) (hth : G.1 th = 10) (h : m_96 th a0 I Rf G = some I1) : ai_Cl si_t si_ms d 96 [.inr (.inr th), .inl a0] I J Rf G none I1 J Rf G := by
  obtain ⟨e, rfl⟩ : ∃ e, d = e + 1 := ⟨d - 1, by omega⟩
  unfold m_96 at h
  refine sp_in (lo := [some (.inr (.inr th)), some (.inl a0), none]) (B := (0, 0)) rfl (Nat.le_of_ble_eq_true rfl) rfl rfl ?_
  refine go_bipush (pc' := 2) (v := (nI 24)) rfl rfl rfl ?_
  refine go_istore_n (pc' := 3) (lo' := [some (.inr (.inr th)), some (.inl a0), some (.inl (nI 24))]) rfl rfl rfl ?_
  obtain ⟨q3, hl3, hc3_49⟩ := o_s1E h
  have ex3_49 : ∀ (Ix_49 : ai_I) (z2_x49 : Option ai_V), Ix_49 = q3 → ai_Go si_t (10, false, 9, cd_96) (ai_Cl si_t si_ms e) (sp_Q none I1 J Rf G) 49 [some (.inr (.inr th)), some (.inl a0), z2_x49] [] (0, 0) Ix_49 J Rf G := by
    intro Ix_49 z2_x49 hq
    have h : m_96_x3_49 Ix_49 = some I1 := hc3_49 Ix_49 hq.symm
    unfold m_96_x3_49 at h
    cases h
    exact go_vret rfl (rfl) ⟨rfl, rfl, rfl, rfl, rfl⟩
  have lo3 : ∀ n s, lp (fun s => m_96_b3 th a0 Rf G s.1 s.2) n s = some q3 → (fun s => ai_Go si_t (10, false, 9, cd_96) (ai_Cl si_t si_ms e) (sp_Q none I1 J Rf G) 3 [some (.inr (.inr th)), some (.inl a0), some (.inl s.1)] [] (0, 0) s.2 J Rf G) s := lp_go (fun s x3 hx hk3 => by
    obtain ⟨v2_3, I_3⟩ := s
    have h : m_96_b3 th a0 Rf G v2_3 I_3 = some x3 := hx
    clear hx
    show ai_Go si_t (10, false, 9, cd_96) (ai_Cl si_t si_ms e) (sp_Q none I1 J Rf G) 3 [some (.inr (.inr th)), some (.inl a0), some (.inl v2_3)] [] (0, 0) I_3 J Rf G
    unfold m_96_b3 at h
    refine go_iload_n (pc' := 4) rfl rfl rfl ?_
    refine go_if_lt (pt := 49) (pc' := 7) rfl rfl rfl (fun h4 => ?_) (fun h4 => ?_)
    · replace h := o_t h4 h
      exact ex3_49 _ (some (.inl v2_3)) (lp_exitE h hk3)
    · replace h := o_f h4 h
      refine go_aload_n (pc' := 8) rfl rfl rfl ?_
      refine go_getI (pc' := 11) rfl rfl (by decide) (by decide) hth rfl ?_
      refine go_sipush (pc' := 14) (v := (nI 240)) rfl rfl rfl ?_
      refine go_icmp_ge (pt := 43) (pc' := 17) rfl rfl rfl (fun h14 => ?_) (fun h14 => ?_)
      · replace h := o_t h14 h
        obtain ⟨x2_43, ex2_43, h⟩ := o_b1E h
        refine go_iincE (pc' := 46) rfl rfl (y := (-8 : Int32)) rfl ex2_43 (lo' := [some (.inr (.inr th)), some (.inl a0), some (.inl x2_43)]) rfl rfl ?_
        refine go_goto (pc' := 3) rfl rfl ?_
        exact (lp_backE h hk3 :)
      · replace h := o_f h14 h
        refine go_aload_n (pc' := 18) rfl rfl rfl ?_
        refine go_getR (pc' := 21) rfl rfl hth rfl ?_
        refine go_aload_n (pc' := 22) rfl rfl rfl ?_
        refine go_getI (pc' := 25) rfl rfl (by decide) (by decide) hth rfl ?_
        refine go_iload_n (pc' := 26) rfl rfl rfl ?_
        refine go_iload_n (pc' := 27) rfl rfl rfl ?_
        refine go_iushr (pc' := 28) rfl rfl ?_
        refine go_sipush (pc' := 31) (v := (nI 255)) rfl rfl rfl ?_
        refine go_iand (pc' := 32) rfl rfl ?_
        obtain ⟨g0, h⟩ := o_gE h
        obtain ⟨I_32, eI_32, h⟩ := o_b1E h
        refine go_iastore (pc' := 33) rfl (o_inK g0) (o_inB g0) rfl ?_
        refine go_ndMI eI_32 ?_
        refine go_aload_n (pc' := 34) rfl rfl rfl ?_
        refine go_dupR (pc' := 35) rfl rfl ?_
        refine go_getI (pc' := 38) rfl rfl (by decide) (by decide) hth rfl ?_
        refine go_iconst (pc' := 39) (v := (nI 1)) rfl rfl rfl ?_
        refine go_iadd (pc' := 40) rfl rfl ?_
        obtain ⟨I_40, eI_40, h⟩ := o_b1E h
        refine go_putI (pc' := 43) rfl rfl (fun h => by cases h) hth rfl ?_
        refine go_ndMI eI_40 ?_
        obtain ⟨x2_43, ex2_43, h⟩ := o_b1E h
        refine go_iincE (pc' := 46) rfl rfl (y := (-8 : Int32)) rfl ex2_43 (lo' := [some (.inr (.inr th)), some (.inl a0), some (.inl x2_43)]) rfl rfl ?_
        refine go_goto (pc' := 3) rfl rfl ?_
        exact (lp_backE h hk3 :))
  exact lo3 _ ((nI 24), I) hl3 
/-- PricedBases.feed(IIIII)I -/
def m_95 (th : Nat) (a0 : Int32) (a1 : Int32) (a2 : Int32) (a3 : Int32) (a4 : Int32) (I : ai_I) (Rf : ai_R) (G : ai_G) : Option (Int32 × ai_I) :=
  if ((I th 4) + (nI 20)) ≤ (nI 240) then (o_b1 (m_96 th a0 I Rf G) (fun I_17 => o_b1 (m_96 th a1 I_17 Rf G) (fun I_22 => o_b1 (m_96 th a2 I_22 Rf G) (fun I_27 => o_b1 (m_96 th a3 I_27 Rf G) (fun I_33 => o_b1 (m_96 th a4 I_33 Rf G) (fun I_39 => some (I_39 th 4, I_39))))))) else (some ((-1 : Int32), I))
theorem md_95 {d : Nat} {I : ai_I} {J : ai_J} {Rf : ai_R} {G : ai_G} {th : Nat} {a0 : Int32} {a1 : Int32} {a2 : Int32} {a3 : Int32} {a4 : Int32} {r : Int32} {I1 : ai_I} (hd : 2 ≤ d) (hth : G.1 th = 10) (h : m_95 th a0 a1 a2 a3 a4 I Rf G = some (r, I1)) : ai_Cl si_t si_ms d 95 [.inr (.inr th), .inl a0, .inl a1, .inl a2, .inl a3, .inl a4] I J Rf G (some (.inl r)) I1 J Rf G := by
  obtain ⟨e, rfl⟩ : ∃ e, d = e + 1 := ⟨d - 1, by omega⟩
  unfold m_95 at h
  refine sp_in (lo := [some (.inr (.inr th)), some (.inl a0), some (.inl a1), some (.inl a2), some (.inl a3), some (.inl a4)]) (B := (0, 0)) rfl (Nat.le_of_ble_eq_true rfl) rfl rfl ?_
  refine go_aload_n (pc' := 1) rfl rfl rfl ?_
  refine go_getI (pc' := 4) rfl rfl (by decide) (by decide) hth rfl ?_
  refine go_bipush (pc' := 6) (v := (nI 20)) rfl rfl rfl ?_
  refine go_iadd (pc' := 7) rfl rfl ?_
  refine go_sipush (pc' := 10) (v := (nI 240)) rfl rfl rfl ?_
  refine go_icmp_le (pt := 15) (pc' := 13) rfl rfl rfl (fun h10 => ?_) (fun h10 => ?_)
  · replace h := o_t h10 h
    refine go_aload_n (pc' := 16) rfl rfl rfl ?_
    refine go_iload_n (pc' := 17) rfl rfl rfl ?_
    obtain ⟨I_17, q_17, h⟩ := o_b1E h
    refine go_callV (pc' := 20) (B' := (0, 0)) (st' := []) rfl rfl (Or.inl (by decide)) rfl rfl hth (md_96 (by omega) hth q_17) rfl rfl rfl ?_
    refine go_aload_n (pc' := 21) rfl rfl rfl ?_
    refine go_iload_n (pc' := 22) rfl rfl rfl ?_
    obtain ⟨I_22, q_22, h⟩ := o_b1E h
    refine go_callV (pc' := 25) (B' := (0, 0)) (st' := []) rfl rfl (Or.inl (by decide)) rfl rfl hth (md_96 (by omega) hth q_22) rfl rfl rfl ?_
    refine go_aload_n (pc' := 26) rfl rfl rfl ?_
    refine go_iload_n (pc' := 27) rfl rfl rfl ?_
    obtain ⟨I_27, q_27, h⟩ := o_b1E h
    refine go_callV (pc' := 30) (B' := (0, 0)) (st' := []) rfl rfl (Or.inl (by decide)) rfl rfl hth (md_96 (by omega) hth q_27) rfl rfl rfl ?_
    refine go_aload_n (pc' := 31) rfl rfl rfl ?_
    refine go_iload (pc' := 33) rfl rfl rfl ?_
    obtain ⟨I_33, q_33, h⟩ := o_b1E h
    refine go_callV (pc' := 36) (B' := (0, 0)) (st' := []) rfl rfl (Or.inl (by decide)) rfl rfl hth (md_96 (by omega) hth q_33) rfl rfl rfl ?_
    refine go_aload_n (pc' := 37) rfl rfl rfl ?_
    refine go_iload (pc' := 39) rfl rfl rfl ?_
    obtain ⟨I_39, q_39, h⟩ := o_b1E h
    refine go_callV (pc' := 42) (B' := (0, 0)) (st' := []) rfl rfl (Or.inl (by decide)) rfl rfl hth (md_96 (by omega) hth q_39) rfl rfl rfl ?_
    refine go_aload_n (pc' := 43) rfl rfl rfl ?_
    refine go_getI (pc' := 46) rfl rfl (by decide) (by decide) hth rfl ?_
    cases h
    exact go_iret rfl (trivial) ⟨rfl, rfl, rfl, rfl, rfl⟩
  · replace h := o_f h10 h
    refine go_iconst (pc' := 14) (v := (-1 : Int32)) rfl rfl rfl ?_
    cases h
    exact go_iret rfl (trivial) ⟨rfl, rfl, rfl, rfl, rfl⟩
/-- PricedBases.isDone(I)Z -/
def m_98 (th : Nat) (a0 : Int32) (I : ai_I) (Rf : ai_R) (G : ai_G) : Option (Int32 × ai_I) :=
  o_g (o_kd G (Rf th 5) 0) (o_b1 (m_4 (Rf th 5) a0 (nI 0) I Rf G) (fun r_6 => o_b1 (m_2 (Rf th 5) a0 I Rf G) (fun r_15 => if r_15 = 0 then (o_b1 (m_4 (Rf th 5) a0 (nI 1) I Rf G) (fun r_32 => o_g (o_kd G (Rf th 0) 6) (o_b1 (m_66 (Rf th 0) r_6 r_32 I Rf G) (fun I_35 => some ((nI 1), I_35))))) else (o_g (o_kd G (Rf th 0) 6) (o_b1 (m_65 (Rf th 0) r_6 Rf G) (fun r_45 => if r_45 = 0 then (some ((nI 0), I)) else (o_g (o_kd G (Rf th 6) 3) (o_b2 (m_27 (Rf th 6) (Rf th 5) a0 (Rf th 0) I Rf G) (fun r_66 I_66 => if r_66 = 0 then (some ((nI 0), I_66)) else (o_g (o_kd G r_45 8) (o_g (o_kd G (Rf (Rf th 6) 0) 8) (o_b1 (m_67 (Rf th 0) r_6 (I_66 r_45 2) (I_66 (Rf (Rf th 6) 0) 2) (I_66 (Rf (Rf th 6) 0) 0) I_66 Rf G) (fun I_103 => o_b1 (m_84 r_45 (Rf (Rf th 6) 0) I_103 Rf G) (fun I_114 => some ((nI 1), I_114)))))))))))))))
theorem md_98 {d : Nat} {I : ai_I} {J : ai_J} {Rf : ai_R} {G : ai_G} {th : Nat} {a0 : Int32} {r : Int32} {I1 : ai_I} (hd : 7 ≤ d) (hth : G.1 th = 10) (h : m_98 th a0 I Rf G = some (r, I1)) : ai_Cl si_t si_ms d 98 [.inr (.inr th), .inl a0] I J Rf G (some (.inl r)) I1 J Rf G := by
  obtain ⟨e, rfl⟩ : ∃ e, d = e + 1 := ⟨d - 1, by omega⟩
  unfold m_98 at h
  refine sp_in (lo := [some (.inr (.inr th)), some (.inl a0), none, none]) (B := (0, 0)) rfl (Nat.le_of_ble_eq_true rfl) rfl rfl ?_
  refine go_aload_n (pc' := 1) rfl rfl rfl ?_
  refine go_getR (pc' := 4) rfl rfl hth rfl ?_
  refine go_iload_n (pc' := 5) rfl rfl rfl ?_
  refine go_iconst (pc' := 6) (v := (nI 0)) rfl rfl rfl ?_
  obtain ⟨g0, h⟩ := o_gE h
  obtain ⟨r_6, q_6, h⟩ := o_b1E h
  refine go_callV (pc' := 9) (B' := (0, 0)) (st' := [.inl r_6]) rfl rfl (Or.inl (by decide)) rfl rfl (o_kdE g0) (md_4 (by omega) (o_kdE g0) q_6) rfl rfl rfl ?_
  refine go_istore_n (pc' := 10) (lo' := [some (.inr (.inr th)), some (.inl a0), some (.inl r_6), none]) rfl rfl rfl ?_
  refine go_aload_n (pc' := 11) rfl rfl rfl ?_
  refine go_getR (pc' := 14) rfl rfl hth rfl ?_
  refine go_iload_n (pc' := 15) rfl rfl rfl ?_
  obtain ⟨r_15, q_15, h⟩ := o_b1E h
  refine go_callV (pc' := 18) (B' := (0, 0)) (st' := [.inl r_15]) rfl rfl (Or.inl (by decide)) rfl rfl (o_kdE g0) (md_2 (by omega) (o_kdE g0) q_15) rfl rfl rfl ?_
  refine go_if_ne (pt := 40) (pc' := 21) rfl rfl rfl (fun h18 => ?_) (fun h18 => ?_)
  · replace h := o_f h18 h
    refine go_aload_n (pc' := 41) rfl rfl rfl ?_
    refine go_getR (pc' := 44) rfl rfl hth rfl ?_
    refine go_iload_n (pc' := 45) rfl rfl rfl ?_
    obtain ⟨g1, h⟩ := o_gE h
    obtain ⟨r_45, q_45, h⟩ := o_b1E h
    refine go_callV (pc' := 48) (B' := (0, 0)) (st' := [.inr (.inr r_45)]) rfl rfl (Or.inl (by decide)) rfl rfl (o_kdE g1) (md_65 (by omega) (o_kdE g1) q_45) rfl rfl rfl ?_
    refine go_astore_n (pc' := 49) (lo' := [some (.inr (.inr th)), some (.inl a0), some (.inl r_6), some (.inr (.inr r_45))]) rfl rfl rfl ?_
    refine go_aload_n (pc' := 50) rfl rfl rfl ?_
    refine go_ifnull (pt := 72) (pc' := 53) rfl rfl rfl (fun h50 => ?_) (fun h50 => ?_)
    · replace h := o_t h50 h
      refine go_iconst (pc' := 73) (v := (nI 0)) rfl rfl rfl ?_
      cases h
      exact go_iret rfl (rfl) ⟨rfl, rfl, rfl, rfl, rfl⟩
    · replace h := o_f h50 h
      refine go_aload_n (pc' := 54) rfl rfl rfl ?_
      refine go_getR (pc' := 57) rfl rfl hth rfl ?_
      refine go_aload_n (pc' := 58) rfl rfl rfl ?_
      refine go_getR (pc' := 61) rfl rfl hth rfl ?_
      refine go_iload_n (pc' := 62) rfl rfl rfl ?_
      refine go_aload_n (pc' := 63) rfl rfl rfl ?_
      refine go_getR (pc' := 66) rfl rfl hth rfl ?_
      obtain ⟨g2, h⟩ := o_gE h
      obtain ⟨r_66, I_66, q_66, h⟩ := o_b2E h
      refine go_callV (pc' := 69) (B' := (0, 0)) (st' := [.inl r_66]) rfl rfl (Or.inl (by decide)) rfl rfl (o_kdE g2) (md_27 (by omega) (o_kdE g2) q_66) rfl rfl rfl ?_
      refine go_if_ne (pt := 74) (pc' := 72) rfl rfl rfl (fun h69 => ?_) (fun h69 => ?_)
      · replace h := o_f h69 h
        refine go_aload_n (pc' := 75) rfl rfl rfl ?_
        refine go_getR (pc' := 78) rfl rfl hth rfl ?_
        refine go_iload_n (pc' := 79) rfl rfl rfl ?_
        refine go_aload_n (pc' := 80) rfl rfl rfl ?_
        obtain ⟨g3, h⟩ := o_gE h
        refine go_getI (pc' := 83) rfl rfl (by decide) (by decide) (o_kdE g3) rfl ?_
        refine go_aload_n (pc' := 84) rfl rfl rfl ?_
        refine go_getR (pc' := 87) rfl rfl hth rfl ?_
        refine go_getR (pc' := 90) rfl rfl (o_kdE g2) rfl ?_
        obtain ⟨g4, h⟩ := o_gE h
        refine go_getI (pc' := 93) rfl rfl (by decide) (by decide) (o_kdE g4) rfl ?_
        refine go_aload_n (pc' := 94) rfl rfl rfl ?_
        refine go_getR (pc' := 97) rfl rfl hth rfl ?_
        refine go_getR (pc' := 100) rfl rfl (o_kdE g2) rfl ?_
        refine go_getI (pc' := 103) rfl rfl (by decide) (by decide) (o_kdE g4) rfl ?_
        obtain ⟨I_103, q_103, h⟩ := o_b1E h
        refine go_callV (pc' := 106) (B' := (0, 0)) (st' := []) rfl rfl (Or.inl (by decide)) rfl rfl (o_kdE g1) (md_67 (by omega) (o_kdE g1) q_103) rfl rfl rfl ?_
        refine go_aload_n (pc' := 107) rfl rfl rfl ?_
        refine go_aload_n (pc' := 108) rfl rfl rfl ?_
        refine go_getR (pc' := 111) rfl rfl hth rfl ?_
        refine go_getR (pc' := 114) rfl rfl (o_kdE g2) rfl ?_
        obtain ⟨I_114, q_114, h⟩ := o_b1E h
        refine go_callV (pc' := 117) (B' := (0, 0)) (st' := []) rfl rfl (Or.inl (by decide)) rfl rfl (o_kdE g3) (md_84 (by omega) (o_kdE g3) q_114) rfl rfl rfl ?_
        refine go_iconst (pc' := 118) (v := (nI 1)) rfl rfl rfl ?_
        cases h
        exact go_iret rfl (rfl) ⟨rfl, rfl, rfl, rfl, rfl⟩
      · replace h := o_t (Decidable.of_not_not h69) h
        refine go_iconst (pc' := 73) (v := (nI 0)) rfl rfl rfl ?_
        cases h
        exact go_iret rfl (rfl) ⟨rfl, rfl, rfl, rfl, rfl⟩
  · replace h := o_t (Decidable.of_not_not h18) h
    refine go_aload_n (pc' := 22) rfl rfl rfl ?_
    refine go_getR (pc' := 25) rfl rfl hth rfl ?_
    refine go_iload_n (pc' := 26) rfl rfl rfl ?_
    refine go_aload_n (pc' := 27) rfl rfl rfl ?_
    refine go_getR (pc' := 30) rfl rfl hth rfl ?_
    refine go_iload_n (pc' := 31) rfl rfl rfl ?_
    refine go_iconst (pc' := 32) (v := (nI 1)) rfl rfl rfl ?_
    obtain ⟨r_32, q_32, h⟩ := o_b1E h
    refine go_callV (pc' := 35) (B' := (0, 0)) (st' := [.inl r_32, .inl r_6, .inr (.inr (Rf th 0))]) rfl rfl (Or.inl (by decide)) rfl rfl (o_kdE g0) (md_4 (by omega) (o_kdE g0) q_32) rfl rfl rfl ?_
    obtain ⟨g5, h⟩ := o_gE h
    obtain ⟨I_35, q_35, h⟩ := o_b1E h
    refine go_callV (pc' := 38) (B' := (0, 0)) (st' := []) rfl rfl (Or.inl (by decide)) rfl rfl (o_kdE g5) (md_66 (by omega) (o_kdE g5) q_35) rfl rfl rfl ?_
    refine go_iconst (pc' := 39) (v := (nI 1)) rfl rfl rfl ?_
    cases h
    exact go_iret rfl (rfl) ⟨rfl, rfl, rfl, rfl, rfl⟩
def m_97_x59_78 (R_31 : ai_R) (w2_78 : Int32) (Ix_78 : ai_I) : Option (Int32 × ai_I × ai_R) :=
  some (w2_78, Ix_78, R_31)
def m_97_x59_86 (th : Nat) (R_31 : ai_R) (Ix_86 : ai_I) : Option (Int32 × ai_I × ai_R) :=
  some (Ix_86 (R_31 th 5) 0, Ix_86, R_31)
def m_97_b59 (th : Nat) (G : ai_G) (R_31 : ai_R) (v2_59 : Int32) (I_59 : ai_I) : Option ((Int32 × ai_I) ⊕ ((Int32 × ai_I) ⊕ ai_I)) :=
  if (I_59 (R_31 th 5) 0) ≤ v2_59 then (some (Sum.inr (Sum.inr I_59))) else (o_b2 (m_98 th v2_59 I_59 R_31 G) (fun r_72 I_72 => if r_72 = 0 then (some (Sum.inr (Sum.inl (v2_59, I_72)))) else (o_b1 (some (v2_59 + (nI 1))) (fun x2_80 => some (Sum.inl (x2_80, I_72))))))
/-- PricedBases.orders(I)I -/
def m_97 (th : Nat) (a0 : Int32) (I : ai_I) (Rf : ai_R) (G : ai_G) : Option (Int32 × ai_I × ai_R) :=
  if a0 < (nI 1) then (some ((-1 : Int32), I, Rf)) else (if (nI 200) < a0 then (some ((-1 : Int32), I, Rf)) else (if a0 ≤ (I th 4) then (o_g (o_kd G (Rf th 5) 0) (o_b2 (m_1 (Rf th 5) (Rf th 3) a0 I Rf G) (fun I_31 R_31 => o_b1 (some (va_up I_31 th (va_up (I_31 th) 4 (nI 0)))) (fun I_36 => o_g (o_kd G (R_31 th 5) 0) (if (I_36 (R_31 th 5) 1) = 0 then (o_s2 (lp (fun s => m_97_b59 th G R_31 s.1 s.2) o_N ((nI 0), I_36)) (fun t => m_97_x59_78 R_31 t.1 t.2) (fun t => m_97_x59_86 th R_31 t)) else (some (I_36 (R_31 th 5) 1, I_36, R_31))))))) else (some ((-1 : Int32), I, Rf))))
theorem md_97 {d : Nat} {I : ai_I} {J : ai_J} {Rf : ai_R} {G : ai_G} {th : Nat} {a0 : Int32} {r : Int32} {I1 : ai_I} {R1 : ai_R} (hd : 10 ≤ d) (hth : G.1 th = 10) (h : m_97 th a0 I Rf G = some (r, I1, R1)) : ai_Cl si_t si_ms d 97 [.inr (.inr th), .inl a0] I J Rf G (some (.inl r)) I1 J R1 G := by
  obtain ⟨e, rfl⟩ : ∃ e, d = e + 1 := ⟨d - 1, by omega⟩
  unfold m_97 at h
  refine sp_in (lo := [some (.inr (.inr th)), some (.inl a0), none]) (B := (0, 0)) rfl (Nat.le_of_ble_eq_true rfl) rfl rfl ?_
  refine go_iload_n (pc' := 1) rfl rfl rfl ?_
  refine go_iconst (pc' := 2) (v := (nI 1)) rfl rfl rfl ?_
  refine go_icmp_lt (pt := 20) (pc' := 5) rfl rfl rfl (fun h2 => ?_) (fun h2 => ?_)
  · replace h := o_t h2 h
    refine go_iconst (pc' := 21) (v := (-1 : Int32)) rfl rfl rfl ?_
    cases h
    exact go_iret rfl (trivial) ⟨rfl, rfl, rfl, rfl, rfl⟩
  · replace h := o_f h2 h
    refine go_iload_n (pc' := 6) rfl rfl rfl ?_
    refine go_sipush (pc' := 9) (v := (nI 200)) rfl rfl rfl ?_
    refine go_icmp_gt (pt := 20) (pc' := 12) rfl rfl rfl (fun h9 => ?_) (fun h9 => ?_)
    · replace h := o_t h9 h
      refine go_iconst (pc' := 21) (v := (-1 : Int32)) rfl rfl rfl ?_
      cases h
      exact go_iret rfl (trivial) ⟨rfl, rfl, rfl, rfl, rfl⟩
    · replace h := o_f h9 h
      refine go_iload_n (pc' := 13) rfl rfl rfl ?_
      refine go_aload_n (pc' := 14) rfl rfl rfl ?_
      refine go_getI (pc' := 17) rfl rfl (by decide) (by decide) hth rfl ?_
      refine go_icmp_le (pt := 22) (pc' := 20) rfl rfl rfl (fun h17 => ?_) (fun h17 => ?_)
      · replace h := o_t h17 h
        refine go_aload_n (pc' := 23) rfl rfl rfl ?_
        refine go_getR (pc' := 26) rfl rfl hth rfl ?_
        refine go_aload_n (pc' := 27) rfl rfl rfl ?_
        refine go_getR (pc' := 30) rfl rfl hth rfl ?_
        refine go_iload_n (pc' := 31) rfl rfl rfl ?_
        obtain ⟨g0, h⟩ := o_gE h
        obtain ⟨I_31, R_31, q_31, h⟩ := o_b2E h
        refine go_callV (pc' := 34) (B' := (0, 0)) (st' := []) rfl rfl (Or.inl (by decide)) rfl rfl (o_kdE g0) (md_1 (by omega) (o_kdE g0) q_31) rfl rfl rfl ?_
        refine go_aload_n (pc' := 35) rfl rfl rfl ?_
        refine go_iconst (pc' := 36) (v := (nI 0)) rfl rfl rfl ?_
        obtain ⟨I_36, eI_36, h⟩ := o_b1E h
        refine go_putI (pc' := 39) rfl rfl (fun h => by cases h) hth rfl ?_
        refine go_ndMI eI_36 ?_
        refine go_aload_n (pc' := 40) rfl rfl rfl ?_
        refine go_getR (pc' := 43) rfl rfl hth rfl ?_
        obtain ⟨g1, h⟩ := o_gE h
        refine go_getI (pc' := 46) rfl rfl (by decide) (by decide) (o_kdE g1) rfl ?_
        refine go_if_eq (pt := 57) (pc' := 49) rfl rfl rfl (fun h46 => ?_) (fun h46 => ?_)
        · replace h := o_t h46 h
          refine go_iconst (pc' := 58) (v := (nI 0)) rfl rfl rfl ?_
          refine go_istore_n (pc' := 59) (lo' := [some (.inr (.inr th)), some (.inl a0), some (.inl (nI 0))]) rfl rfl rfl ?_
          obtain ⟨q59, hl59, hc59_78, hc59_86⟩ := o_s2E h
          have ex59_78 : ∀ (w2_78 : Int32) (Ix_78 : ai_I), (Sum.inl (w2_78, Ix_78)) = q59 → ai_Go si_t (10, false, 0, cd_97) (ai_Cl si_t si_ms e) (sp_Q (some (.inl r)) I1 J R1 G) 78 [some (.inr (.inr th)), some (.inl a0), some (.inl w2_78)] [] (0, 0) Ix_78 J R_31 G := by
            intro w2_78 Ix_78 hq
            have h : m_97_x59_78 R_31 w2_78 Ix_78 = some (r, I1, R1) := hc59_78 (w2_78, Ix_78) hq.symm
            unfold m_97_x59_78 at h
            refine go_iload_n (pc' := 79) rfl rfl rfl ?_
            cases h
            exact go_iret rfl (trivial) ⟨rfl, rfl, rfl, rfl, rfl⟩
          have ex59_86 : ∀ (Ix_86 : ai_I) (z2_x86 : Option ai_V), (Sum.inr Ix_86) = q59 → ai_Go si_t (10, false, 0, cd_97) (ai_Cl si_t si_ms e) (sp_Q (some (.inl r)) I1 J R1 G) 86 [some (.inr (.inr th)), some (.inl a0), z2_x86] [] (0, 0) Ix_86 J R_31 G := by
            intro Ix_86 z2_x86 hq
            have h : m_97_x59_86 th R_31 Ix_86 = some (r, I1, R1) := hc59_86 Ix_86 hq.symm
            unfold m_97_x59_86 at h
            refine go_aload_n (pc' := 87) rfl rfl rfl ?_
            refine go_getR (pc' := 90) rfl rfl hth rfl ?_
            refine go_getI (pc' := 93) rfl rfl (by decide) (by decide) (o_kdE g1) rfl ?_
            cases h
            exact go_iret rfl (trivial) ⟨rfl, rfl, rfl, rfl, rfl⟩
          have lo59 : ∀ n s, lp (fun s => m_97_b59 th G R_31 s.1 s.2) n s = some q59 → (fun s => ai_Go si_t (10, false, 0, cd_97) (ai_Cl si_t si_ms e) (sp_Q (some (.inl r)) I1 J R1 G) 59 [some (.inr (.inr th)), some (.inl a0), some (.inl s.1)] [] (0, 0) s.2 J R_31 G) s := lp_go (fun s x59 hx hk59 => by
            obtain ⟨v2_59, I_59⟩ := s
            have h : m_97_b59 th G R_31 v2_59 I_59 = some x59 := hx
            clear hx
            show ai_Go si_t (10, false, 0, cd_97) (ai_Cl si_t si_ms e) (sp_Q (some (.inl r)) I1 J R1 G) 59 [some (.inr (.inr th)), some (.inl a0), some (.inl v2_59)] [] (0, 0) I_59 J R_31 G
            unfold m_97_b59 at h
            refine go_iload_n (pc' := 60) rfl rfl rfl ?_
            refine go_aload_n (pc' := 61) rfl rfl rfl ?_
            refine go_getR (pc' := 64) rfl rfl hth rfl ?_
            refine go_getI (pc' := 67) rfl rfl (by decide) (by decide) (o_kdE g1) rfl ?_
            refine go_icmp_ge (pt := 86) (pc' := 70) rfl rfl rfl (fun h67 => ?_) (fun h67 => ?_)
            · replace h := o_t h67 h
              exact ex59_86 _ (some (.inl v2_59)) (lp_exitE h hk59)
            · replace h := o_f h67 h
              refine go_aload_n (pc' := 71) rfl rfl rfl ?_
              refine go_iload_n (pc' := 72) rfl rfl rfl ?_
              obtain ⟨r_72, I_72, q_72, h⟩ := o_b2E h
              refine go_callV (pc' := 75) (B' := (0, 0)) (st' := [.inl r_72]) rfl rfl (Or.inl (by decide)) rfl rfl hth (md_98 (by omega) hth q_72) rfl rfl rfl ?_
              refine go_if_ne (pt := 80) (pc' := 78) rfl rfl rfl (fun h75 => ?_) (fun h75 => ?_)
              · replace h := o_f h75 h
                obtain ⟨x2_80, ex2_80, h⟩ := o_b1E h
                refine go_iincE (pc' := 83) rfl rfl (y := (nI 1)) rfl ex2_80 (lo' := [some (.inr (.inr th)), some (.inl a0), some (.inl x2_80)]) rfl rfl ?_
                refine go_goto (pc' := 59) rfl rfl ?_
                exact (lp_backE h hk59 :)
              · replace h := o_t (Decidable.of_not_not h75) h
                exact ex59_78 _ _  (lp_exitE h hk59))
          exact lo59 _ ((nI 0), I_36) hl59 
        · replace h := o_f h46 h
          refine go_aload_n (pc' := 50) rfl rfl rfl ?_
          refine go_getR (pc' := 53) rfl rfl hth rfl ?_
          refine go_getI (pc' := 56) rfl rfl (by decide) (by decide) (o_kdE g1) rfl ?_
          cases h
          exact go_iret rfl (trivial) ⟨rfl, rfl, rfl, rfl, rfl⟩
      · replace h := o_f h17 h
        refine go_iconst (pc' := 21) (v := (-1 : Int32)) rfl rfl rfl ?_
        cases h
        exact go_iret rfl (trivial) ⟨rfl, rfl, rfl, rfl, rfl⟩
/-- PricedBases.price(II)I -/
def m_99 (th : Nat) (a0 : Int32) (a1 : Int32) (I : ai_I) (Rf : ai_R) (G : ai_G) : Option (Int32 × ai_I) :=
  if a0 < 0 then (some ((-2147483648 : Int32), I)) else (if (nI 8) ≤ a0 then (some ((-2147483648 : Int32), I)) else (if a1 < (-1000 : Int32) then (some ((-2147483648 : Int32), I)) else (if a1 ≤ (nI 1000) then (o_g (o_kd G (Rf th 0) 6) (o_g (o_in G 13 (Rf (Rf th 0) 1) a0) (o_b1 (some (I (Rf (Rf th 0) 1) a0.toNatClampNeg)) (fun x3_36 => o_b1 (m_66 (Rf th 0) a0 a1 I Rf G) (fun I_43 => some (x3_36, I_43)))))) else (some ((-2147483648 : Int32), I)))))
theorem md_99 {d : Nat} {I : ai_I} {J : ai_J} {Rf : ai_R} {G : ai_G} {th : Nat} {a0 : Int32} {a1 : Int32} {r : Int32} {I1 : ai_I} (hd : 2 ≤ d) (hth : G.1 th = 10) (h : m_99 th a0 a1 I Rf G = some (r, I1)) : ai_Cl si_t si_ms d 99 [.inr (.inr th), .inl a0, .inl a1] I J Rf G (some (.inl r)) I1 J Rf G := by
  obtain ⟨e, rfl⟩ : ∃ e, d = e + 1 := ⟨d - 1, by omega⟩
  unfold m_99 at h
  refine sp_in (lo := [some (.inr (.inr th)), some (.inl a0), some (.inl a1), none]) (B := (0, 0)) rfl (Nat.le_of_ble_eq_true rfl) rfl rfl ?_
  refine go_iload_n (pc' := 1) rfl rfl rfl ?_
  refine go_if_lt (pt := 24) (pc' := 4) rfl rfl rfl (fun h1 => ?_) (fun h1 => ?_)
  · replace h := o_t h1 h
    refine go_ldc (pc' := 26) (v := .inl (-2147483648 : Int32)) rfl rfl rfl ?_
    cases h
    exact go_iret rfl (trivial) ⟨rfl, rfl, rfl, rfl, rfl⟩
  · replace h := o_f h1 h
    refine go_iload_n (pc' := 5) rfl rfl rfl ?_
    refine go_bipush (pc' := 7) (v := (nI 8)) rfl rfl rfl ?_
    refine go_icmp_ge (pt := 24) (pc' := 10) rfl rfl rfl (fun h7 => ?_) (fun h7 => ?_)
    · replace h := o_t h7 h
      refine go_ldc (pc' := 26) (v := .inl (-2147483648 : Int32)) rfl rfl rfl ?_
      cases h
      exact go_iret rfl (trivial) ⟨rfl, rfl, rfl, rfl, rfl⟩
    · replace h := o_f h7 h
      refine go_iload_n (pc' := 11) rfl rfl rfl ?_
      refine go_sipush (pc' := 14) (v := (-1000 : Int32)) rfl rfl rfl ?_
      refine go_icmp_lt (pt := 24) (pc' := 17) rfl rfl rfl (fun h14 => ?_) (fun h14 => ?_)
      · replace h := o_t h14 h
        refine go_ldc (pc' := 26) (v := .inl (-2147483648 : Int32)) rfl rfl rfl ?_
        cases h
        exact go_iret rfl (trivial) ⟨rfl, rfl, rfl, rfl, rfl⟩
      · replace h := o_f h14 h
        refine go_iload_n (pc' := 18) rfl rfl rfl ?_
        refine go_sipush (pc' := 21) (v := (nI 1000)) rfl rfl rfl ?_
        refine go_icmp_le (pt := 27) (pc' := 24) rfl rfl rfl (fun h21 => ?_) (fun h21 => ?_)
        · replace h := o_t h21 h
          refine go_aload_n (pc' := 28) rfl rfl rfl ?_
          refine go_getR (pc' := 31) rfl rfl hth rfl ?_
          obtain ⟨g0, h⟩ := o_gE h
          refine go_getR (pc' := 34) rfl rfl (o_kdE g0) rfl ?_
          refine go_iload_n (pc' := 35) rfl rfl rfl ?_
          obtain ⟨g1, h⟩ := o_gE h
          refine go_iaload (pc' := 36) rfl (o_inK g1) (o_inB g1) rfl ?_
          obtain ⟨x3_36, ex3_36, h⟩ := o_b1E h
          refine go_ndI ex3_36 ?_
          refine go_istore_n (pc' := 37) (lo' := [some (.inr (.inr th)), some (.inl a0), some (.inl a1), some (.inl x3_36)]) rfl rfl rfl ?_
          refine go_aload_n (pc' := 38) rfl rfl rfl ?_
          refine go_getR (pc' := 41) rfl rfl hth rfl ?_
          refine go_iload_n (pc' := 42) rfl rfl rfl ?_
          refine go_iload_n (pc' := 43) rfl rfl rfl ?_
          obtain ⟨I_43, q_43, h⟩ := o_b1E h
          refine go_callV (pc' := 46) (B' := (0, 0)) (st' := []) rfl rfl (Or.inl (by decide)) rfl rfl (o_kdE g0) (md_66 (by omega) (o_kdE g0) q_43) rfl rfl rfl ?_
          refine go_iload_n (pc' := 47) rfl rfl rfl ?_
          cases h
          exact go_iret rfl (trivial) ⟨rfl, rfl, rfl, rfl, rfl⟩
        · replace h := o_f h21 h
          refine go_ldc (pc' := 26) (v := .inl (-2147483648 : Int32)) rfl rfl rfl ?_
          cases h
          exact go_iret rfl (trivial) ⟨rfl, rfl, rfl, rfl, rfl⟩
def m_100_j140 (I_129 : ai_I) (t0_140 : Int32) : Option (Int32 × ai_I) :=
  o_b1 (m_112 t0_140) (fun r_140 => some (r_140, I_129))
def m_100_j169 (I_158 : ai_I) (t0_169 : Int32) : Option (Int32 × ai_I) :=
  o_b1 (m_112 t0_169) (fun r_169 => some (r_169, I_158))
/-- PricedBases.shelf(II)I -/
def m_100 (th : Nat) (a0 : Int32) (a1 : Int32) (I : ai_I) (Rf : ai_R) (G : ai_G) : Option (Int32 × ai_I) :=
  o_g (o_kd G (Rf th 0) 6) (o_b1 (m_65 (Rf th 0) a0 Rf G) (fun r_5 => if r_5 = 0 then (some ((-2147483648 : Int32), I)) else (if a1 = (0 : Int32) then (o_g (o_kd G r_5 8) (some (I r_5 0, I))) else (if a1 = (1 : Int32) then (o_g (o_kd G r_5 8) (some (I r_5 1, I))) else (if a1 = (2 : Int32) then (o_g (o_kd G r_5 8) (some (I r_5 2, I))) else (if a1 = (3 : Int32) then (o_g (o_kd G r_5 8) (o_b1 (m_91 r_5 I Rf G) (fun r_100 => some (r_100, I)))) else (if a1 = (4 : Int32) then (o_g (o_kd G r_5 8) (o_b1 (m_92 r_5 I Rf G) (fun r_105 => some (r_105, I)))) else (if a1 = (5 : Int32) then (o_b1 (m_48 r_5 I Rf G) (fun r_110 => some (r_110, I))) else (if a1 = (6 : Int32) then (o_b1 (m_49 r_5 I Rf G) (fun r_115 => some (r_115, I))) else (if a1 = (7 : Int32) then (o_g (o_kd G r_5 8) (o_g (o_kd G (Rf th 7) 2) (o_b2 (m_21 (Rf th 7) r_5 (Rf r_5 3) (nI 0) I Rf G) (fun r_129 I_129 => if r_129 = 0 then (m_100_j140 I_129 (nI 1)) else (m_100_j140 I_129 (nI 0)))))) else (if a1 = (8 : Int32) then (o_g (o_kd G (Rf th 7) 2) (o_b2 (m_24 (Rf th 7) r_5 I Rf G) (fun r_154 I_154 => o_b2 (m_21 (Rf th 7) r_5 r_154 (nI 0) I_154 Rf G) (fun r_158 I_158 => if r_158 = 0 then (m_100_j169 I_158 (nI 1)) else (m_100_j169 I_158 (nI 0)))))) else (if a1 = (9 : Int32) then (o_b1 (m_50 r_5 I Rf G) (fun r_174 => some (r_174, I))) else (if a1 = (10 : Int32) then (o_b1 (m_53 r_5 I Rf G) (fun r_179 => some (r_179, I))) else (if a1 = (11 : Int32) then (o_b1 (m_55 r_5 I Rf G) (fun r_184 => some (r_184, I))) else (if a1 = (12 : Int32) then (o_g (o_kd G r_5 8) (o_g (o_kd G (Rf th 7) 2) (o_b2 (m_21 (Rf th 7) r_5 (Rf r_5 3) (nI 2147483647) I Rf G) (fun r_199 I_199 => some (r_199, I_199))))) else (some ((-2147483648 : Int32), I)))))))))))))))))
theorem md_100 {d : Nat} {I : ai_I} {J : ai_J} {Rf : ai_R} {G : ai_G} {th : Nat} {a0 : Int32} {a1 : Int32} {r : Int32} {I1 : ai_I} (hd : 5 ≤ d) (hth : G.1 th = 10) (h : m_100 th a0 a1 I Rf G = some (r, I1)) : ai_Cl si_t si_ms d 100 [.inr (.inr th), .inl a0, .inl a1] I J Rf G (some (.inl r)) I1 J Rf G := by
  obtain ⟨e, rfl⟩ : ∃ e, d = e + 1 := ⟨d - 1, by omega⟩
  unfold m_100 at h
  refine sp_in (lo := [some (.inr (.inr th)), some (.inl a0), some (.inl a1), none]) (B := (0, 0)) rfl (Nat.le_of_ble_eq_true rfl) rfl rfl ?_
  refine go_aload_n (pc' := 1) rfl rfl rfl ?_
  refine go_getR (pc' := 4) rfl rfl hth rfl ?_
  refine go_iload_n (pc' := 5) rfl rfl rfl ?_
  obtain ⟨g0, h⟩ := o_gE h
  obtain ⟨r_5, q_5, h⟩ := o_b1E h
  refine go_callV (pc' := 8) (B' := (0, 0)) (st' := [.inr (.inr r_5)]) rfl rfl (Or.inl (by decide)) rfl rfl (o_kdE g0) (md_65 (by omega) (o_kdE g0) q_5) rfl rfl rfl ?_
  refine go_astore_n (pc' := 9) (lo' := [some (.inr (.inr th)), some (.inl a0), some (.inl a1), some (.inr (.inr r_5))]) rfl rfl rfl ?_
  refine go_aload_n (pc' := 10) rfl rfl rfl ?_
  refine go_ifnonnull (pt := 16) (pc' := 13) rfl rfl rfl (fun h10 => ?_) (fun h10 => ?_)
  · replace h := o_f h10 h
    refine go_iload_n (pc' := 17) rfl rfl rfl ?_
    by_cases c17_0 : a1 = (0 : Int32)
    · replace h := o_t c17_0 h
      refine go_swIn (pc' := 84) 0 rfl rfl (by rw [c17_0]; decide) (by rw [c17_0]; decide) rfl ?_
      refine go_aload_n (pc' := 85) rfl rfl rfl ?_
      obtain ⟨g1, h⟩ := o_gE h
      refine go_getI (pc' := 88) rfl rfl (by decide) (by decide) (o_kdE g1) rfl ?_
      cases h
      exact go_iret rfl (trivial) ⟨rfl, rfl, rfl, rfl, rfl⟩
    replace h := o_f c17_0 h
    by_cases c17_1 : a1 = (1 : Int32)
    · replace h := o_t c17_1 h
      refine go_swIn (pc' := 89) 1 rfl rfl (by rw [c17_1]; decide) (by rw [c17_1]; decide) rfl ?_
      refine go_aload_n (pc' := 90) rfl rfl rfl ?_
      obtain ⟨g2, h⟩ := o_gE h
      refine go_getI (pc' := 93) rfl rfl (by decide) (by decide) (o_kdE g2) rfl ?_
      cases h
      exact go_iret rfl (trivial) ⟨rfl, rfl, rfl, rfl, rfl⟩
    replace h := o_f c17_1 h
    by_cases c17_2 : a1 = (2 : Int32)
    · replace h := o_t c17_2 h
      refine go_swIn (pc' := 94) 2 rfl rfl (by rw [c17_2]; decide) (by rw [c17_2]; decide) rfl ?_
      refine go_aload_n (pc' := 95) rfl rfl rfl ?_
      obtain ⟨g3, h⟩ := o_gE h
      refine go_getI (pc' := 98) rfl rfl (by decide) (by decide) (o_kdE g3) rfl ?_
      cases h
      exact go_iret rfl (trivial) ⟨rfl, rfl, rfl, rfl, rfl⟩
    replace h := o_f c17_2 h
    by_cases c17_3 : a1 = (3 : Int32)
    · replace h := o_t c17_3 h
      refine go_swIn (pc' := 99) 3 rfl rfl (by rw [c17_3]; decide) (by rw [c17_3]; decide) rfl ?_
      refine go_aload_n (pc' := 100) rfl rfl rfl ?_
      obtain ⟨g4, h⟩ := o_gE h
      obtain ⟨r_100, q_100, h⟩ := o_b1E h
      refine go_callV (pc' := 103) (B' := (0, 0)) (st' := [.inl r_100]) rfl rfl (Or.inl (by decide)) rfl rfl (o_kdE g4) (md_91 (by omega) (o_kdE g4) q_100) rfl rfl rfl ?_
      cases h
      exact go_iret rfl (trivial) ⟨rfl, rfl, rfl, rfl, rfl⟩
    replace h := o_f c17_3 h
    by_cases c17_4 : a1 = (4 : Int32)
    · replace h := o_t c17_4 h
      refine go_swIn (pc' := 104) 4 rfl rfl (by rw [c17_4]; decide) (by rw [c17_4]; decide) rfl ?_
      refine go_aload_n (pc' := 105) rfl rfl rfl ?_
      obtain ⟨g5, h⟩ := o_gE h
      obtain ⟨r_105, q_105, h⟩ := o_b1E h
      refine go_callV (pc' := 108) (B' := (0, 0)) (st' := [.inl r_105]) rfl rfl (Or.inl (by decide)) rfl rfl (o_kdE g5) (md_92 (by omega) (o_kdE g5) q_105) rfl rfl rfl ?_
      cases h
      exact go_iret rfl (trivial) ⟨rfl, rfl, rfl, rfl, rfl⟩
    replace h := o_f c17_4 h
    by_cases c17_5 : a1 = (5 : Int32)
    · replace h := o_t c17_5 h
      refine go_swIn (pc' := 109) 5 rfl rfl (by rw [c17_5]; decide) (by rw [c17_5]; decide) rfl ?_
      refine go_aload_n (pc' := 110) rfl rfl rfl ?_
      obtain ⟨r_110, q_110, h⟩ := o_b1E h
      refine go_callS (pc' := 113) (B' := (0, 0)) (st' := [.inl r_110]) rfl rfl (Or.inl (by decide)) rfl rfl trivial (md_48 (by omega) q_110) rfl rfl rfl ?_
      cases h
      exact go_iret rfl (trivial) ⟨rfl, rfl, rfl, rfl, rfl⟩
    replace h := o_f c17_5 h
    by_cases c17_6 : a1 = (6 : Int32)
    · replace h := o_t c17_6 h
      refine go_swIn (pc' := 114) 6 rfl rfl (by rw [c17_6]; decide) (by rw [c17_6]; decide) rfl ?_
      refine go_aload_n (pc' := 115) rfl rfl rfl ?_
      obtain ⟨r_115, q_115, h⟩ := o_b1E h
      refine go_callS (pc' := 118) (B' := (0, 0)) (st' := [.inl r_115]) rfl rfl (Or.inl (by decide)) rfl rfl trivial (md_49 (by omega) q_115) rfl rfl rfl ?_
      cases h
      exact go_iret rfl (trivial) ⟨rfl, rfl, rfl, rfl, rfl⟩
    replace h := o_f c17_6 h
    by_cases c17_7 : a1 = (7 : Int32)
    · replace h := o_t c17_7 h
      refine go_swIn (pc' := 119) 7 rfl rfl (by rw [c17_7]; decide) (by rw [c17_7]; decide) rfl ?_
      refine go_aload_n (pc' := 120) rfl rfl rfl ?_
      refine go_getR (pc' := 123) rfl rfl hth rfl ?_
      refine go_aload_n (pc' := 124) rfl rfl rfl ?_
      refine go_aload_n (pc' := 125) rfl rfl rfl ?_
      obtain ⟨g6, h⟩ := o_gE h
      refine go_getR (pc' := 128) rfl rfl (o_kdE g6) rfl ?_
      refine go_iconst (pc' := 129) (v := (nI 0)) rfl rfl rfl ?_
      obtain ⟨g7, h⟩ := o_gE h
      obtain ⟨r_129, I_129, q_129, h⟩ := o_b2E h
      refine go_callV (pc' := 132) (B' := (0, 0)) (st' := [.inl r_129]) rfl rfl (Or.inl (by decide)) rfl rfl (o_kdE g7) (md_21 (by omega) (o_kdE g7) q_129) rfl rfl rfl ?_
      have jn140 : ∀ (t0_140 : Int32), m_100_j140 I_129 t0_140 = some (r, I1) → ai_Go si_t (10, false, 0, cd_100) (ai_Cl si_t si_ms e) (sp_Q (some (.inl r)) I1 J Rf G) 140 [some (.inr (.inr th)), some (.inl a0), some (.inl a1), some (.inr (.inr r_5))] [.inl t0_140] (0, 0) I_129 J Rf G := by
        intro t0_140 h
        unfold m_100_j140 at h
        obtain ⟨r_140, q_140, h⟩ := o_b1E h
        refine go_callS (pc' := 143) (B' := (0, 0)) (st' := [.inl r_140]) rfl rfl (Or.inl (by decide)) rfl rfl trivial (md_112 (by omega) q_140) rfl rfl rfl ?_
        cases h
        exact go_iret rfl (trivial) ⟨rfl, rfl, rfl, rfl, rfl⟩
      refine go_if_ne (pt := 139) (pc' := 135) rfl rfl rfl (fun h132 => ?_) (fun h132 => ?_)
      · replace h := o_f h132 h
        refine go_iconst (pc' := 140) (v := (nI 0)) rfl rfl rfl ?_
        exact jn140 (nI 0) h
      · replace h := o_t (Decidable.of_not_not h132) h
        refine go_iconst (pc' := 136) (v := (nI 1)) rfl rfl rfl ?_
        refine go_goto (pc' := 140) rfl rfl ?_
        exact jn140 (nI 1) h
    replace h := o_f c17_7 h
    by_cases c17_8 : a1 = (8 : Int32)
    · replace h := o_t c17_8 h
      refine go_swIn (pc' := 144) 8 rfl rfl (by rw [c17_8]; decide) (by rw [c17_8]; decide) rfl ?_
      refine go_aload_n (pc' := 145) rfl rfl rfl ?_
      refine go_getR (pc' := 148) rfl rfl hth rfl ?_
      refine go_aload_n (pc' := 149) rfl rfl rfl ?_
      refine go_aload_n (pc' := 150) rfl rfl rfl ?_
      refine go_getR (pc' := 153) rfl rfl hth rfl ?_
      refine go_aload_n (pc' := 154) rfl rfl rfl ?_
      obtain ⟨g8, h⟩ := o_gE h
      obtain ⟨r_154, I_154, q_154, h⟩ := o_b2E h
      refine go_callV (pc' := 157) (B' := (0, 0)) (st' := [.inr (.inr r_154), .inr (.inr r_5), .inr (.inr (Rf th 7))]) rfl rfl (Or.inl (by decide)) rfl rfl (o_kdE g8) (md_24 (by omega) (o_kdE g8) q_154) rfl rfl rfl ?_
      refine go_iconst (pc' := 158) (v := (nI 0)) rfl rfl rfl ?_
      obtain ⟨r_158, I_158, q_158, h⟩ := o_b2E h
      refine go_callV (pc' := 161) (B' := (0, 0)) (st' := [.inl r_158]) rfl rfl (Or.inl (by decide)) rfl rfl (o_kdE g8) (md_21 (by omega) (o_kdE g8) q_158) rfl rfl rfl ?_
      have jn169 : ∀ (t0_169 : Int32), m_100_j169 I_158 t0_169 = some (r, I1) → ai_Go si_t (10, false, 0, cd_100) (ai_Cl si_t si_ms e) (sp_Q (some (.inl r)) I1 J Rf G) 169 [some (.inr (.inr th)), some (.inl a0), some (.inl a1), some (.inr (.inr r_5))] [.inl t0_169] (0, 0) I_158 J Rf G := by
        intro t0_169 h
        unfold m_100_j169 at h
        obtain ⟨r_169, q_169, h⟩ := o_b1E h
        refine go_callS (pc' := 172) (B' := (0, 0)) (st' := [.inl r_169]) rfl rfl (Or.inl (by decide)) rfl rfl trivial (md_112 (by omega) q_169) rfl rfl rfl ?_
        cases h
        exact go_iret rfl (trivial) ⟨rfl, rfl, rfl, rfl, rfl⟩
      refine go_if_ne (pt := 168) (pc' := 164) rfl rfl rfl (fun h161 => ?_) (fun h161 => ?_)
      · replace h := o_f h161 h
        refine go_iconst (pc' := 169) (v := (nI 0)) rfl rfl rfl ?_
        exact jn169 (nI 0) h
      · replace h := o_t (Decidable.of_not_not h161) h
        refine go_iconst (pc' := 165) (v := (nI 1)) rfl rfl rfl ?_
        refine go_goto (pc' := 169) rfl rfl ?_
        exact jn169 (nI 1) h
    replace h := o_f c17_8 h
    by_cases c17_9 : a1 = (9 : Int32)
    · replace h := o_t c17_9 h
      refine go_swIn (pc' := 173) 9 rfl rfl (by rw [c17_9]; decide) (by rw [c17_9]; decide) rfl ?_
      refine go_aload_n (pc' := 174) rfl rfl rfl ?_
      obtain ⟨r_174, q_174, h⟩ := o_b1E h
      refine go_callS (pc' := 177) (B' := (0, 0)) (st' := [.inl r_174]) rfl rfl (Or.inl (by decide)) rfl rfl trivial (md_50 (by omega) q_174) rfl rfl rfl ?_
      cases h
      exact go_iret rfl (trivial) ⟨rfl, rfl, rfl, rfl, rfl⟩
    replace h := o_f c17_9 h
    by_cases c17_10 : a1 = (10 : Int32)
    · replace h := o_t c17_10 h
      refine go_swIn (pc' := 178) 10 rfl rfl (by rw [c17_10]; decide) (by rw [c17_10]; decide) rfl ?_
      refine go_aload_n (pc' := 179) rfl rfl rfl ?_
      obtain ⟨r_179, q_179, h⟩ := o_b1E h
      refine go_callS (pc' := 182) (B' := (0, 0)) (st' := [.inl r_179]) rfl rfl (Or.inl (by decide)) rfl rfl trivial (md_53 (by omega) q_179) rfl rfl rfl ?_
      cases h
      exact go_iret rfl (trivial) ⟨rfl, rfl, rfl, rfl, rfl⟩
    replace h := o_f c17_10 h
    by_cases c17_11 : a1 = (11 : Int32)
    · replace h := o_t c17_11 h
      refine go_swIn (pc' := 183) 11 rfl rfl (by rw [c17_11]; decide) (by rw [c17_11]; decide) rfl ?_
      refine go_aload_n (pc' := 184) rfl rfl rfl ?_
      obtain ⟨r_184, q_184, h⟩ := o_b1E h
      refine go_callS (pc' := 187) (B' := (0, 0)) (st' := [.inl r_184]) rfl rfl (Or.inl (by decide)) rfl rfl trivial (md_55 (by omega) q_184) rfl rfl rfl ?_
      cases h
      exact go_iret rfl (trivial) ⟨rfl, rfl, rfl, rfl, rfl⟩
    replace h := o_f c17_11 h
    by_cases c17_12 : a1 = (12 : Int32)
    · replace h := o_t c17_12 h
      refine go_swIn (pc' := 188) 12 rfl rfl (by rw [c17_12]; decide) (by rw [c17_12]; decide) rfl ?_
      refine go_aload_n (pc' := 189) rfl rfl rfl ?_
      refine go_getR (pc' := 192) rfl rfl hth rfl ?_
      refine go_aload_n (pc' := 193) rfl rfl rfl ?_
      refine go_aload_n (pc' := 194) rfl rfl rfl ?_
      obtain ⟨g9, h⟩ := o_gE h
      refine go_getR (pc' := 197) rfl rfl (o_kdE g9) rfl ?_
      refine go_ldc (pc' := 199) (v := .inl (nI 2147483647)) rfl rfl rfl ?_
      obtain ⟨g10, h⟩ := o_gE h
      obtain ⟨r_199, I_199, q_199, h⟩ := o_b2E h
      refine go_callV (pc' := 202) (B' := (0, 0)) (st' := [.inl r_199]) rfl rfl (Or.inl (by decide)) rfl rfl (o_kdE g10) (md_21 (by omega) (o_kdE g10) q_199) rfl rfl rfl ?_
      cases h
      exact go_iret rfl (trivial) ⟨rfl, rfl, rfl, rfl, rfl⟩
    replace h := o_f c17_12 h
    refine go_swOut (pc' := 203) rfl (by
        rw [← Int32.toInt_inj] at c17_0
        rw [← Int32.toInt_inj] at c17_1
        rw [← Int32.toInt_inj] at c17_2
        rw [← Int32.toInt_inj] at c17_3
        rw [← Int32.toInt_inj] at c17_4
        rw [← Int32.toInt_inj] at c17_5
        rw [← Int32.toInt_inj] at c17_6
        rw [← Int32.toInt_inj] at c17_7
        rw [← Int32.toInt_inj] at c17_8
        rw [← Int32.toInt_inj] at c17_9
        rw [← Int32.toInt_inj] at c17_10
        rw [← Int32.toInt_inj] at c17_11
        rw [← Int32.toInt_inj] at c17_12
        have c17_0 : ¬ a1.toInt = 0 := c17_0
        have c17_1 : ¬ a1.toInt = 1 := c17_1
        have c17_2 : ¬ a1.toInt = 2 := c17_2
        have c17_3 : ¬ a1.toInt = 3 := c17_3
        have c17_4 : ¬ a1.toInt = 4 := c17_4
        have c17_5 : ¬ a1.toInt = 5 := c17_5
        have c17_6 : ¬ a1.toInt = 6 := c17_6
        have c17_7 : ¬ a1.toInt = 7 := c17_7
        have c17_8 : ¬ a1.toInt = 8 := c17_8
        have c17_9 : ¬ a1.toInt = 9 := c17_9
        have c17_10 : ¬ a1.toInt = 10 := c17_10
        have c17_11 : ¬ a1.toInt = 11 := c17_11
        have c17_12 : ¬ a1.toInt = 12 := c17_12
        show a1.toInt < 0 ∨ 0 + ((13 : Nat) : Int) ≤ a1.toInt
        omega) rfl ?_
    refine go_ldc (pc' := 205) (v := .inl (-2147483648 : Int32)) rfl rfl rfl ?_
    cases h
    exact go_iret rfl (trivial) ⟨rfl, rfl, rfl, rfl, rfl⟩
  · replace h := o_t (h10) h
    refine go_ldc (pc' := 15) (v := .inl (-2147483648 : Int32)) rfl rfl rfl ?_
    cases h
    exact go_iret rfl (trivial) ⟨rfl, rfl, rfl, rfl, rfl⟩
/-- PricedBases.value(II)I -/
def m_101 (th : Nat) (a0 : Int32) (a1 : Int32) (I : ai_I) (Rf : ai_R) (G : ai_G) : Option (Int32) :=
  o_g (o_kd G (Rf th 0) 6) (o_b1 (m_65 (Rf th 0) a0 Rf G) (fun r_5 => if r_5 = 0 then (some (-2147483648 : Int32)) else (o_g (o_kd G r_5 8) (o_b1 (m_89 r_5 a1 I Rf G) (fun r_15 => if r_15 = 0 then (some (-2147483648 : Int32)) else (o_g (o_in G 13 (Rf r_5 3) a1) (some (I (Rf r_5 3) a1.toNatClampNeg))))))))
theorem md_101 {d : Nat} {I : ai_I} {J : ai_J} {Rf : ai_R} {G : ai_G} {th : Nat} {a0 : Int32} {a1 : Int32} {r : Int32} (hd : 3 ≤ d) (hth : G.1 th = 10) (h : m_101 th a0 a1 I Rf G = some r) : ai_Cl si_t si_ms d 101 [.inr (.inr th), .inl a0, .inl a1] I J Rf G (some (.inl r)) I J Rf G := by
  obtain ⟨e, rfl⟩ : ∃ e, d = e + 1 := ⟨d - 1, by omega⟩
  unfold m_101 at h
  refine sp_in (lo := [some (.inr (.inr th)), some (.inl a0), some (.inl a1), none]) (B := (0, 0)) rfl (Nat.le_of_ble_eq_true rfl) rfl rfl ?_
  refine go_aload_n (pc' := 1) rfl rfl rfl ?_
  refine go_getR (pc' := 4) rfl rfl hth rfl ?_
  refine go_iload_n (pc' := 5) rfl rfl rfl ?_
  obtain ⟨g0, h⟩ := o_gE h
  obtain ⟨r_5, q_5, h⟩ := o_b1E h
  refine go_callV (pc' := 8) (B' := (0, 0)) (st' := [.inr (.inr r_5)]) rfl rfl (Or.inl (by decide)) rfl rfl (o_kdE g0) (md_65 (by omega) (o_kdE g0) q_5) rfl rfl rfl ?_
  refine go_astore_n (pc' := 9) (lo' := [some (.inr (.inr th)), some (.inl a0), some (.inl a1), some (.inr (.inr r_5))]) rfl rfl rfl ?_
  refine go_aload_n (pc' := 10) rfl rfl rfl ?_
  refine go_ifnull (pt := 21) (pc' := 13) rfl rfl rfl (fun h10 => ?_) (fun h10 => ?_)
  · replace h := o_t h10 h
    refine go_ldc (pc' := 23) (v := .inl (-2147483648 : Int32)) rfl rfl rfl ?_
    refine go_goto (pc' := 32) rfl rfl ?_
    cases h
    exact go_iret rfl (trivial) ⟨rfl, rfl, rfl, rfl, rfl⟩
  · replace h := o_f h10 h
    refine go_aload_n (pc' := 14) rfl rfl rfl ?_
    refine go_iload_n (pc' := 15) rfl rfl rfl ?_
    obtain ⟨g1, h⟩ := o_gE h
    obtain ⟨r_15, q_15, h⟩ := o_b1E h
    refine go_callV (pc' := 18) (B' := (0, 0)) (st' := [.inl r_15]) rfl rfl (Or.inl (by decide)) rfl rfl (o_kdE g1) (md_89 (by omega) (o_kdE g1) q_15) rfl rfl rfl ?_
    refine go_if_ne (pt := 26) (pc' := 21) rfl rfl rfl (fun h18 => ?_) (fun h18 => ?_)
    · replace h := o_f h18 h
      refine go_aload_n (pc' := 27) rfl rfl rfl ?_
      refine go_getR (pc' := 30) rfl rfl (o_kdE g1) rfl ?_
      refine go_iload_n (pc' := 31) rfl rfl rfl ?_
      obtain ⟨g2, h⟩ := o_gE h
      refine go_iaload (pc' := 32) rfl (o_inK g2) (o_inB g2) rfl ?_
      cases h
      exact go_iret rfl (trivial) ⟨rfl, rfl, rfl, rfl, rfl⟩
    · replace h := o_t (Decidable.of_not_not h18) h
      refine go_ldc (pc' := 23) (v := .inl (-2147483648 : Int32)) rfl rfl rfl ?_
      refine go_goto (pc' := 32) rfl rfl ?_
      cases h
      exact go_iret rfl (trivial) ⟨rfl, rfl, rfl, rfl, rfl⟩
/-- PricedBases.base(II)I -/
def m_102 (th : Nat) (a0 : Int32) (a1 : Int32) (I : ai_I) (Rf : ai_R) (G : ai_G) : Option (Int32) :=
  o_g (o_kd G (Rf th 0) 6) (o_b1 (m_65 (Rf th 0) a0 Rf G) (fun r_5 => if r_5 = 0 then (some (-1 : Int32)) else (if 0 ≤ a1 then (o_g (o_kd G r_5 8) (if (I r_5 2) ≤ a1 then (some (-4 : Int32)) else (o_g (o_in G 13 (Rf r_5 5) a1) (some (I (Rf r_5 5) a1.toNatClampNeg))))) else (some (-1 : Int32)))))
theorem md_102 {d : Nat} {I : ai_I} {J : ai_J} {Rf : ai_R} {G : ai_G} {th : Nat} {a0 : Int32} {a1 : Int32} {r : Int32} (hd : 2 ≤ d) (hth : G.1 th = 10) (h : m_102 th a0 a1 I Rf G = some r) : ai_Cl si_t si_ms d 102 [.inr (.inr th), .inl a0, .inl a1] I J Rf G (some (.inl r)) I J Rf G := by
  obtain ⟨e, rfl⟩ : ∃ e, d = e + 1 := ⟨d - 1, by omega⟩
  unfold m_102 at h
  refine sp_in (lo := [some (.inr (.inr th)), some (.inl a0), some (.inl a1), none]) (B := (0, 0)) rfl (Nat.le_of_ble_eq_true rfl) rfl rfl ?_
  refine go_aload_n (pc' := 1) rfl rfl rfl ?_
  refine go_getR (pc' := 4) rfl rfl hth rfl ?_
  refine go_iload_n (pc' := 5) rfl rfl rfl ?_
  obtain ⟨g0, h⟩ := o_gE h
  obtain ⟨r_5, q_5, h⟩ := o_b1E h
  refine go_callV (pc' := 8) (B' := (0, 0)) (st' := [.inr (.inr r_5)]) rfl rfl (Or.inl (by decide)) rfl rfl (o_kdE g0) (md_65 (by omega) (o_kdE g0) q_5) rfl rfl rfl ?_
  refine go_astore_n (pc' := 9) (lo' := [some (.inr (.inr th)), some (.inl a0), some (.inl a1), some (.inr (.inr r_5))]) rfl rfl rfl ?_
  refine go_aload_n (pc' := 10) rfl rfl rfl ?_
  refine go_ifnull (pt := 17) (pc' := 13) rfl rfl rfl (fun h10 => ?_) (fun h10 => ?_)
  · replace h := o_t h10 h
    refine go_iconst (pc' := 18) (v := (-1 : Int32)) rfl rfl rfl ?_
    cases h
    exact go_iret rfl (trivial) ⟨rfl, rfl, rfl, rfl, rfl⟩
  · replace h := o_f h10 h
    refine go_iload_n (pc' := 14) rfl rfl rfl ?_
    refine go_if_ge (pt := 19) (pc' := 17) rfl rfl rfl (fun h14 => ?_) (fun h14 => ?_)
    · replace h := o_t h14 h
      refine go_iload_n (pc' := 20) rfl rfl rfl ?_
      refine go_aload_n (pc' := 21) rfl rfl rfl ?_
      obtain ⟨g1, h⟩ := o_gE h
      refine go_getI (pc' := 24) rfl rfl (by decide) (by decide) (o_kdE g1) rfl ?_
      refine go_icmp_ge (pt := 36) (pc' := 27) rfl rfl rfl (fun h24 => ?_) (fun h24 => ?_)
      · replace h := o_t h24 h
        refine go_bipush (pc' := 38) (v := (-4 : Int32)) rfl rfl rfl ?_
        cases h
        exact go_iret rfl (trivial) ⟨rfl, rfl, rfl, rfl, rfl⟩
      · replace h := o_f h24 h
        refine go_aload_n (pc' := 28) rfl rfl rfl ?_
        refine go_getR (pc' := 31) rfl rfl (o_kdE g1) rfl ?_
        refine go_iload_n (pc' := 32) rfl rfl rfl ?_
        obtain ⟨g2, h⟩ := o_gE h
        refine go_iaload (pc' := 33) rfl (o_inK g2) (o_inB g2) rfl ?_
        refine go_goto (pc' := 38) rfl rfl ?_
        cases h
        exact go_iret rfl (trivial) ⟨rfl, rfl, rfl, rfl, rfl⟩
    · replace h := o_f h14 h
      refine go_iconst (pc' := 18) (v := (-1 : Int32)) rfl rfl rfl ?_
      cases h
      exact go_iret rfl (trivial) ⟨rfl, rfl, rfl, rfl, rfl⟩
/-- PricedBases.fault(III)I -/
def m_103 (th : Nat) (a0 : Int32) (a1 : Int32) (a2 : Int32) (I : ai_I) (Rf : ai_R) (G : ai_G) : Option (Int32 × ai_I) :=
  o_g (o_kd G (Rf th 0) 6) (o_b1 (m_65 (Rf th 0) a0 Rf G) (fun r_5 => if r_5 = 0 then (some ((-1 : Int32), I)) else (if a1 < 0 then (some ((-1 : Int32), I)) else (if a2 < 0 then (some ((-1 : Int32), I)) else (if a2 ≤ (nI 2) then (o_g (o_kd G r_5 8) (o_g (o_kd G (Rf th 7) 2) (o_b2 (m_21 (Rf th 7) r_5 (Rf r_5 3) a1 I Rf G) (fun r_42 I_42 => if a1 < r_42 then (if a2 = 0 then (some (I_42 (Rf th 7) 0, I_42)) else (if a2 = (nI 1) then (some (I_42 (Rf th 7) 1, I_42)) else (some (I_42 (Rf th 7) 2, I_42)))) else (some ((-4 : Int32), I_42)))))) else (some ((-1 : Int32), I)))))))
theorem md_103 {d : Nat} {I : ai_I} {J : ai_J} {Rf : ai_R} {G : ai_G} {th : Nat} {a0 : Int32} {a1 : Int32} {a2 : Int32} {r : Int32} {I1 : ai_I} (hd : 5 ≤ d) (hth : G.1 th = 10) (h : m_103 th a0 a1 a2 I Rf G = some (r, I1)) : ai_Cl si_t si_ms d 103 [.inr (.inr th), .inl a0, .inl a1, .inl a2] I J Rf G (some (.inl r)) I1 J Rf G := by
  obtain ⟨e, rfl⟩ : ∃ e, d = e + 1 := ⟨d - 1, by omega⟩
  unfold m_103 at h
  refine sp_in (lo := [some (.inr (.inr th)), some (.inl a0), some (.inl a1), some (.inl a2), none]) (B := (0, 0)) rfl (Nat.le_of_ble_eq_true rfl) rfl rfl ?_
  refine go_aload_n (pc' := 1) rfl rfl rfl ?_
  refine go_getR (pc' := 4) rfl rfl hth rfl ?_
  refine go_iload_n (pc' := 5) rfl rfl rfl ?_
  obtain ⟨g0, h⟩ := o_gE h
  obtain ⟨r_5, q_5, h⟩ := o_b1E h
  refine go_callV (pc' := 8) (B' := (0, 0)) (st' := [.inr (.inr r_5)]) rfl rfl (Or.inl (by decide)) rfl rfl (o_kdE g0) (md_65 (by omega) (o_kdE g0) q_5) rfl rfl rfl ?_
  refine go_astore (pc' := 10) (lo' := [some (.inr (.inr th)), some (.inl a0), some (.inl a1), some (.inl a2), some (.inr (.inr r_5))]) rfl rfl rfl ?_
  refine go_aload (pc' := 12) rfl rfl rfl ?_
  refine go_ifnull (pt := 28) (pc' := 15) rfl rfl rfl (fun h12 => ?_) (fun h12 => ?_)
  · replace h := o_t h12 h
    refine go_iconst (pc' := 29) (v := (-1 : Int32)) rfl rfl rfl ?_
    cases h
    exact go_iret rfl (trivial) ⟨rfl, rfl, rfl, rfl, rfl⟩
  · replace h := o_f h12 h
    refine go_iload_n (pc' := 16) rfl rfl rfl ?_
    refine go_if_lt (pt := 28) (pc' := 19) rfl rfl rfl (fun h16 => ?_) (fun h16 => ?_)
    · replace h := o_t h16 h
      refine go_iconst (pc' := 29) (v := (-1 : Int32)) rfl rfl rfl ?_
      cases h
      exact go_iret rfl (trivial) ⟨rfl, rfl, rfl, rfl, rfl⟩
    · replace h := o_f h16 h
      refine go_iload_n (pc' := 20) rfl rfl rfl ?_
      refine go_if_lt (pt := 28) (pc' := 23) rfl rfl rfl (fun h20 => ?_) (fun h20 => ?_)
      · replace h := o_t h20 h
        refine go_iconst (pc' := 29) (v := (-1 : Int32)) rfl rfl rfl ?_
        cases h
        exact go_iret rfl (trivial) ⟨rfl, rfl, rfl, rfl, rfl⟩
      · replace h := o_f h20 h
        refine go_iload_n (pc' := 24) rfl rfl rfl ?_
        refine go_iconst (pc' := 25) (v := (nI 2)) rfl rfl rfl ?_
        refine go_icmp_le (pt := 30) (pc' := 28) rfl rfl rfl (fun h25 => ?_) (fun h25 => ?_)
        · replace h := o_t h25 h
          refine go_aload_n (pc' := 31) rfl rfl rfl ?_
          refine go_getR (pc' := 34) rfl rfl hth rfl ?_
          refine go_aload (pc' := 36) rfl rfl rfl ?_
          refine go_aload (pc' := 38) rfl rfl rfl ?_
          obtain ⟨g1, h⟩ := o_gE h
          refine go_getR (pc' := 41) rfl rfl (o_kdE g1) rfl ?_
          refine go_iload_n (pc' := 42) rfl rfl rfl ?_
          obtain ⟨g2, h⟩ := o_gE h
          obtain ⟨r_42, I_42, q_42, h⟩ := o_b2E h
          refine go_callV (pc' := 45) (B' := (0, 0)) (st' := [.inl r_42]) rfl rfl (Or.inl (by decide)) rfl rfl (o_kdE g2) (md_21 (by omega) (o_kdE g2) q_42) rfl rfl rfl ?_
          refine go_iload_n (pc' := 46) rfl rfl rfl ?_
          refine go_icmp_gt (pt := 52) (pc' := 49) rfl rfl rfl (fun h46 => ?_) (fun h46 => ?_)
          · replace h := o_t h46 h
            refine go_iload_n (pc' := 53) rfl rfl rfl ?_
            refine go_if_ne (pt := 66) (pc' := 56) rfl rfl rfl (fun h53 => ?_) (fun h53 => ?_)
            · replace h := o_f h53 h
              refine go_iload_n (pc' := 67) rfl rfl rfl ?_
              refine go_iconst (pc' := 68) (v := (nI 1)) rfl rfl rfl ?_
              refine go_icmp_ne (pt := 81) (pc' := 71) rfl rfl rfl (fun h68 => ?_) (fun h68 => ?_)
              · replace h := o_f h68 h
                refine go_aload_n (pc' := 82) rfl rfl rfl ?_
                refine go_getR (pc' := 85) rfl rfl hth rfl ?_
                refine go_getI (pc' := 88) rfl rfl (by decide) (by decide) (o_kdE g2) rfl ?_
                cases h
                exact go_iret rfl (trivial) ⟨rfl, rfl, rfl, rfl, rfl⟩
              · replace h := o_t (Decidable.of_not_not h68) h
                refine go_aload_n (pc' := 72) rfl rfl rfl ?_
                refine go_getR (pc' := 75) rfl rfl hth rfl ?_
                refine go_getI (pc' := 78) rfl rfl (by decide) (by decide) (o_kdE g2) rfl ?_
                refine go_goto (pc' := 88) rfl rfl ?_
                cases h
                exact go_iret rfl (trivial) ⟨rfl, rfl, rfl, rfl, rfl⟩
            · replace h := o_t (Decidable.of_not_not h53) h
              refine go_aload_n (pc' := 57) rfl rfl rfl ?_
              refine go_getR (pc' := 60) rfl rfl hth rfl ?_
              refine go_getI (pc' := 63) rfl rfl (by decide) (by decide) (o_kdE g2) rfl ?_
              refine go_goto (pc' := 88) rfl rfl ?_
              cases h
              exact go_iret rfl (trivial) ⟨rfl, rfl, rfl, rfl, rfl⟩
          · replace h := o_f h46 h
            refine go_bipush (pc' := 51) (v := (-4 : Int32)) rfl rfl rfl ?_
            cases h
            exact go_iret rfl (trivial) ⟨rfl, rfl, rfl, rfl, rfl⟩
        · replace h := o_f h25 h
          refine go_iconst (pc' := 29) (v := (-1 : Int32)) rfl rfl rfl ?_
          cases h
          exact go_iret rfl (trivial) ⟨rfl, rfl, rfl, rfl, rfl⟩
/-- PricedBases.exchange(IIII)I -/
def m_104 (th : Nat) (a0 : Int32) (a1 : Int32) (a2 : Int32) (a3 : Int32) (I : ai_I) (Rf : ai_R) (G : ai_G) : Option (Int32) :=
  o_g (o_kd G (Rf th 0) 6) (o_b1 (m_65 (Rf th 0) a0 Rf G) (fun r_5 => if r_5 = 0 then (some (-1 : Int32)) else (o_g (o_kd G r_5 8) (o_b1 (m_89 r_5 a1 I Rf G) (fun r_18 => if r_18 = 0 then (some (-1 : Int32)) else (o_b1 (m_89 r_5 a2 I Rf G) (fun r_27 => if r_27 = 0 then (some (-1 : Int32)) else (o_b1 (m_87 r_5 a3 I) (fun r_37 => if r_37 = 0 then (some (-1 : Int32)) else (o_b1 (m_113 (a1 &&& (a2 ^^^ (-1 : Int32))) a3) (fun r_52 => if r_52 = 0 then (some (-1 : Int32)) else (o_b1 (m_23 (Rf r_5 3) a1 a2 a3 I G) (fun r_67 => some r_67)))))))))))))
theorem md_104 {d : Nat} {I : ai_I} {J : ai_J} {Rf : ai_R} {G : ai_G} {th : Nat} {a0 : Int32} {a1 : Int32} {a2 : Int32} {a3 : Int32} {r : Int32} (hd : 3 ≤ d) (hth : G.1 th = 10) (h : m_104 th a0 a1 a2 a3 I Rf G = some r) : ai_Cl si_t si_ms d 104 [.inr (.inr th), .inl a0, .inl a1, .inl a2, .inl a3] I J Rf G (some (.inl r)) I J Rf G := by
  obtain ⟨e, rfl⟩ : ∃ e, d = e + 1 := ⟨d - 1, by omega⟩
  unfold m_104 at h
  refine sp_in (lo := [some (.inr (.inr th)), some (.inl a0), some (.inl a1), some (.inl a2), some (.inl a3), none]) (B := (0, 0)) rfl (Nat.le_of_ble_eq_true rfl) rfl rfl ?_
  refine go_aload_n (pc' := 1) rfl rfl rfl ?_
  refine go_getR (pc' := 4) rfl rfl hth rfl ?_
  refine go_iload_n (pc' := 5) rfl rfl rfl ?_
  obtain ⟨g0, h⟩ := o_gE h
  obtain ⟨r_5, q_5, h⟩ := o_b1E h
  refine go_callV (pc' := 8) (B' := (0, 0)) (st' := [.inr (.inr r_5)]) rfl rfl (Or.inl (by decide)) rfl rfl (o_kdE g0) (md_65 (by omega) (o_kdE g0) q_5) rfl rfl rfl ?_
  refine go_astore (pc' := 10) (lo' := [some (.inr (.inr th)), some (.inl a0), some (.inl a1), some (.inl a2), some (.inl a3), some (.inr (.inr r_5))]) rfl rfl rfl ?_
  refine go_aload (pc' := 12) rfl rfl rfl ?_
  refine go_ifnull (pt := 43) (pc' := 15) rfl rfl rfl (fun h12 => ?_) (fun h12 => ?_)
  · replace h := o_t h12 h
    refine go_iconst (pc' := 44) (v := (-1 : Int32)) rfl rfl rfl ?_
    cases h
    exact go_iret rfl (trivial) ⟨rfl, rfl, rfl, rfl, rfl⟩
  · replace h := o_f h12 h
    refine go_aload (pc' := 17) rfl rfl rfl ?_
    refine go_iload_n (pc' := 18) rfl rfl rfl ?_
    obtain ⟨g1, h⟩ := o_gE h
    obtain ⟨r_18, q_18, h⟩ := o_b1E h
    refine go_callV (pc' := 21) (B' := (0, 0)) (st' := [.inl r_18]) rfl rfl (Or.inl (by decide)) rfl rfl (o_kdE g1) (md_89 (by omega) (o_kdE g1) q_18) rfl rfl rfl ?_
    refine go_if_eq (pt := 43) (pc' := 24) rfl rfl rfl (fun h21 => ?_) (fun h21 => ?_)
    · replace h := o_t h21 h
      refine go_iconst (pc' := 44) (v := (-1 : Int32)) rfl rfl rfl ?_
      cases h
      exact go_iret rfl (trivial) ⟨rfl, rfl, rfl, rfl, rfl⟩
    · replace h := o_f h21 h
      refine go_aload (pc' := 26) rfl rfl rfl ?_
      refine go_iload_n (pc' := 27) rfl rfl rfl ?_
      obtain ⟨r_27, q_27, h⟩ := o_b1E h
      refine go_callV (pc' := 30) (B' := (0, 0)) (st' := [.inl r_27]) rfl rfl (Or.inl (by decide)) rfl rfl (o_kdE g1) (md_89 (by omega) (o_kdE g1) q_27) rfl rfl rfl ?_
      refine go_if_eq (pt := 43) (pc' := 33) rfl rfl rfl (fun h30 => ?_) (fun h30 => ?_)
      · replace h := o_t h30 h
        refine go_iconst (pc' := 44) (v := (-1 : Int32)) rfl rfl rfl ?_
        cases h
        exact go_iret rfl (trivial) ⟨rfl, rfl, rfl, rfl, rfl⟩
      · replace h := o_f h30 h
        refine go_aload (pc' := 35) rfl rfl rfl ?_
        refine go_iload (pc' := 37) rfl rfl rfl ?_
        obtain ⟨r_37, q_37, h⟩ := o_b1E h
        refine go_callV (pc' := 40) (B' := (0, 0)) (st' := [.inl r_37]) rfl rfl (Or.inl (by decide)) rfl rfl (o_kdE g1) (md_87 (by omega) (o_kdE g1) q_37) rfl rfl rfl ?_
        refine go_if_ne (pt := 45) (pc' := 43) rfl rfl rfl (fun h40 => ?_) (fun h40 => ?_)
        · replace h := o_f h40 h
          refine go_iload_n (pc' := 46) rfl rfl rfl ?_
          refine go_iload_n (pc' := 47) rfl rfl rfl ?_
          refine go_iconst (pc' := 48) (v := (-1 : Int32)) rfl rfl rfl ?_
          refine go_ixor (pc' := 49) rfl rfl ?_
          refine go_iand (pc' := 50) rfl rfl ?_
          refine go_iload (pc' := 52) rfl rfl rfl ?_
          obtain ⟨r_52, q_52, h⟩ := o_b1E h
          refine go_callS (pc' := 55) (B' := (0, 0)) (st' := [.inl r_52]) rfl rfl (Or.inl (by decide)) rfl rfl trivial (md_113 (by omega) q_52) rfl rfl rfl ?_
          refine go_if_eq (pt := 73) (pc' := 58) rfl rfl rfl (fun h55 => ?_) (fun h55 => ?_)
          · replace h := o_t h55 h
            refine go_iconst (pc' := 74) (v := (-1 : Int32)) rfl rfl rfl ?_
            cases h
            exact go_iret rfl (trivial) ⟨rfl, rfl, rfl, rfl, rfl⟩
          · replace h := o_f h55 h
            refine go_aload (pc' := 60) rfl rfl rfl ?_
            refine go_getR (pc' := 63) rfl rfl (o_kdE g1) rfl ?_
            refine go_iload_n (pc' := 64) rfl rfl rfl ?_
            refine go_iload_n (pc' := 65) rfl rfl rfl ?_
            refine go_iload (pc' := 67) rfl rfl rfl ?_
            obtain ⟨r_67, q_67, h⟩ := o_b1E h
            refine go_callS (pc' := 70) (B' := (0, 0)) (st' := [.inl r_67]) rfl rfl (Or.inl (by decide)) rfl rfl trivial (md_23 (by omega) q_67) rfl rfl rfl ?_
            refine go_goto (pc' := 74) rfl rfl ?_
            cases h
            exact go_iret rfl (trivial) ⟨rfl, rfl, rfl, rfl, rfl⟩
        · replace h := o_t (Decidable.of_not_not h40) h
          refine go_iconst (pc' := 44) (v := (-1 : Int32)) rfl rfl rfl ?_
          cases h
          exact go_iret rfl (trivial) ⟨rfl, rfl, rfl, rfl, rfl⟩
/-- PricedBases.greedy(III)I -/
def m_105 (th : Nat) (a0 : Int32) (a1 : Int32) (a2 : Int32) (I : ai_I) (Rf : ai_R) (G : ai_G) : Option (Int32 × ai_I) :=
  o_g (o_kd G (Rf th 0) 6) (o_b1 (m_65 (Rf th 0) a0 Rf G) (fun r_5 => if r_5 = 0 then (some ((-2147483648 : Int32), I)) else (o_g (o_kd G r_5 8) (o_b1 (m_89 r_5 a1 I Rf G) (fun r_18 => if r_18 = 0 then (some ((-2147483648 : Int32), I)) else (o_g (o_kd G (Rf th 8) 7) (o_b1 (m_72 (Rf th 8) r_5 (Rf (Rf th 0) 1) I Rf G) (fun I_40 => o_b1 (m_74 (Rf th 8) r_5 a1 I_40 Rf G) (fun I_50 => if a2 = (0 : Int32) then (some (I_50 (Rf th 8) 2, I_50)) else (if a2 = (1 : Int32) then (o_g (o_in G 13 (Rf (Rf th 8) 0) (I_50 (Rf th 8) 2)) (some (I_50 (Rf (Rf th 8) 0) (I_50 (Rf th 8) 2).toNatClampNeg, I_50))) else (if a2 = (2 : Int32) then (some (I_50 (Rf th 8) 3, I_50)) else (if a2 = (3 : Int32) then (o_b1 (m_73 (Rf th 8) (I_50 (Rf th 8) 2) I_50 Rf G) (fun r_127 => o_b1 (m_112 r_127) (fun r_130 => some (r_130, I_50)))) else (some ((-2147483648 : Int32), I_50))))))))))))))
theorem md_105 {d : Nat} {I : ai_I} {J : ai_J} {Rf : ai_R} {G : ai_G} {th : Nat} {a0 : Int32} {a1 : Int32} {a2 : Int32} {r : Int32} {I1 : ai_I} (hd : 4 ≤ d) (hth : G.1 th = 10) (h : m_105 th a0 a1 a2 I Rf G = some (r, I1)) : ai_Cl si_t si_ms d 105 [.inr (.inr th), .inl a0, .inl a1, .inl a2] I J Rf G (some (.inl r)) I1 J Rf G := by
  obtain ⟨e, rfl⟩ : ∃ e, d = e + 1 := ⟨d - 1, by omega⟩
  unfold m_105 at h
  refine sp_in (lo := [some (.inr (.inr th)), some (.inl a0), some (.inl a1), some (.inl a2), none]) (B := (0, 0)) rfl (Nat.le_of_ble_eq_true rfl) rfl rfl ?_
  refine go_aload_n (pc' := 1) rfl rfl rfl ?_
  refine go_getR (pc' := 4) rfl rfl hth rfl ?_
  refine go_iload_n (pc' := 5) rfl rfl rfl ?_
  obtain ⟨g0, h⟩ := o_gE h
  obtain ⟨r_5, q_5, h⟩ := o_b1E h
  refine go_callV (pc' := 8) (B' := (0, 0)) (st' := [.inr (.inr r_5)]) rfl rfl (Or.inl (by decide)) rfl rfl (o_kdE g0) (md_65 (by omega) (o_kdE g0) q_5) rfl rfl rfl ?_
  refine go_astore (pc' := 10) (lo' := [some (.inr (.inr th)), some (.inl a0), some (.inl a1), some (.inl a2), some (.inr (.inr r_5))]) rfl rfl rfl ?_
  refine go_aload (pc' := 12) rfl rfl rfl ?_
  refine go_ifnull (pt := 24) (pc' := 15) rfl rfl rfl (fun h12 => ?_) (fun h12 => ?_)
  · replace h := o_t h12 h
    refine go_ldc (pc' := 26) (v := .inl (-2147483648 : Int32)) rfl rfl rfl ?_
    cases h
    exact go_iret rfl (trivial) ⟨rfl, rfl, rfl, rfl, rfl⟩
  · replace h := o_f h12 h
    refine go_aload (pc' := 17) rfl rfl rfl ?_
    refine go_iload_n (pc' := 18) rfl rfl rfl ?_
    obtain ⟨g1, h⟩ := o_gE h
    obtain ⟨r_18, q_18, h⟩ := o_b1E h
    refine go_callV (pc' := 21) (B' := (0, 0)) (st' := [.inl r_18]) rfl rfl (Or.inl (by decide)) rfl rfl (o_kdE g1) (md_89 (by omega) (o_kdE g1) q_18) rfl rfl rfl ?_
    refine go_if_ne (pt := 27) (pc' := 24) rfl rfl rfl (fun h21 => ?_) (fun h21 => ?_)
    · replace h := o_f h21 h
      refine go_aload_n (pc' := 28) rfl rfl rfl ?_
      refine go_getR (pc' := 31) rfl rfl hth rfl ?_
      refine go_aload (pc' := 33) rfl rfl rfl ?_
      refine go_aload_n (pc' := 34) rfl rfl rfl ?_
      refine go_getR (pc' := 37) rfl rfl hth rfl ?_
      refine go_getR (pc' := 40) rfl rfl (o_kdE g0) rfl ?_
      obtain ⟨g2, h⟩ := o_gE h
      obtain ⟨I_40, q_40, h⟩ := o_b1E h
      refine go_callV (pc' := 43) (B' := (0, 0)) (st' := []) rfl rfl (Or.inl (by decide)) rfl rfl (o_kdE g2) (md_72 (by omega) (o_kdE g2) q_40) rfl rfl rfl ?_
      refine go_aload_n (pc' := 44) rfl rfl rfl ?_
      refine go_getR (pc' := 47) rfl rfl hth rfl ?_
      refine go_aload (pc' := 49) rfl rfl rfl ?_
      refine go_iload_n (pc' := 50) rfl rfl rfl ?_
      obtain ⟨I_50, q_50, h⟩ := o_b1E h
      refine go_callV (pc' := 53) (B' := (0, 0)) (st' := []) rfl rfl (Or.inl (by decide)) rfl rfl (o_kdE g2) (md_74 (by omega) (o_kdE g2) q_50) rfl rfl rfl ?_
      refine go_iload_n (pc' := 54) rfl rfl rfl ?_
      by_cases c54_0 : a2 = (0 : Int32)
      · replace h := o_t c54_0 h
        refine go_swIn (pc' := 84) 0 rfl rfl (by rw [c54_0]; decide) (by rw [c54_0]; decide) rfl ?_
        refine go_aload_n (pc' := 85) rfl rfl rfl ?_
        refine go_getR (pc' := 88) rfl rfl hth rfl ?_
        refine go_getI (pc' := 91) rfl rfl (by decide) (by decide) (o_kdE g2) rfl ?_
        cases h
        exact go_iret rfl (trivial) ⟨rfl, rfl, rfl, rfl, rfl⟩
      replace h := o_f c54_0 h
      by_cases c54_1 : a2 = (1 : Int32)
      · replace h := o_t c54_1 h
        refine go_swIn (pc' := 92) 1 rfl rfl (by rw [c54_1]; decide) (by rw [c54_1]; decide) rfl ?_
        refine go_aload_n (pc' := 93) rfl rfl rfl ?_
        refine go_getR (pc' := 96) rfl rfl hth rfl ?_
        refine go_getR (pc' := 99) rfl rfl (o_kdE g2) rfl ?_
        refine go_aload_n (pc' := 100) rfl rfl rfl ?_
        refine go_getR (pc' := 103) rfl rfl hth rfl ?_
        refine go_getI (pc' := 106) rfl rfl (by decide) (by decide) (o_kdE g2) rfl ?_
        obtain ⟨g3, h⟩ := o_gE h
        refine go_iaload (pc' := 107) rfl (o_inK g3) (o_inB g3) rfl ?_
        cases h
        exact go_iret rfl (trivial) ⟨rfl, rfl, rfl, rfl, rfl⟩
      replace h := o_f c54_1 h
      by_cases c54_2 : a2 = (2 : Int32)
      · replace h := o_t c54_2 h
        refine go_swIn (pc' := 108) 2 rfl rfl (by rw [c54_2]; decide) (by rw [c54_2]; decide) rfl ?_
        refine go_aload_n (pc' := 109) rfl rfl rfl ?_
        refine go_getR (pc' := 112) rfl rfl hth rfl ?_
        refine go_getI (pc' := 115) rfl rfl (by decide) (by decide) (o_kdE g2) rfl ?_
        cases h
        exact go_iret rfl (trivial) ⟨rfl, rfl, rfl, rfl, rfl⟩
      replace h := o_f c54_2 h
      by_cases c54_3 : a2 = (3 : Int32)
      · replace h := o_t c54_3 h
        refine go_swIn (pc' := 116) 3 rfl rfl (by rw [c54_3]; decide) (by rw [c54_3]; decide) rfl ?_
        refine go_aload_n (pc' := 117) rfl rfl rfl ?_
        refine go_getR (pc' := 120) rfl rfl hth rfl ?_
        refine go_aload_n (pc' := 121) rfl rfl rfl ?_
        refine go_getR (pc' := 124) rfl rfl hth rfl ?_
        refine go_getI (pc' := 127) rfl rfl (by decide) (by decide) (o_kdE g2) rfl ?_
        obtain ⟨r_127, q_127, h⟩ := o_b1E h
        refine go_callV (pc' := 130) (B' := (0, 0)) (st' := [.inl r_127]) rfl rfl (Or.inl (by decide)) rfl rfl (o_kdE g2) (md_73 (by omega) (o_kdE g2) q_127) rfl rfl rfl ?_
        obtain ⟨r_130, q_130, h⟩ := o_b1E h
        refine go_callS (pc' := 133) (B' := (0, 0)) (st' := [.inl r_130]) rfl rfl (Or.inl (by decide)) rfl rfl trivial (md_112 (by omega) q_130) rfl rfl rfl ?_
        cases h
        exact go_iret rfl (trivial) ⟨rfl, rfl, rfl, rfl, rfl⟩
      replace h := o_f c54_3 h
      refine go_swOut (pc' := 134) rfl (by
          rw [← Int32.toInt_inj] at c54_0
          rw [← Int32.toInt_inj] at c54_1
          rw [← Int32.toInt_inj] at c54_2
          rw [← Int32.toInt_inj] at c54_3
          have c54_0 : ¬ a2.toInt = 0 := c54_0
          have c54_1 : ¬ a2.toInt = 1 := c54_1
          have c54_2 : ¬ a2.toInt = 2 := c54_2
          have c54_3 : ¬ a2.toInt = 3 := c54_3
          show a2.toInt < 0 ∨ 0 + ((4 : Nat) : Int) ≤ a2.toInt
          omega) rfl ?_
      refine go_ldc (pc' := 136) (v := .inl (-2147483648 : Int32)) rfl rfl rfl ?_
      cases h
      exact go_iret rfl (trivial) ⟨rfl, rfl, rfl, rfl, rfl⟩
    · replace h := o_t (Decidable.of_not_not h21) h
      refine go_ldc (pc' := 26) (v := .inl (-2147483648 : Int32)) rfl rfl rfl ?_
      cases h
      exact go_iret rfl (trivial) ⟨rfl, rfl, rfl, rfl, rfl⟩
