/-! Models of methods and their proofs, piece 8. Printed by wip/whole/pr10.py. -/
def m_109_x5_32 (a0 : Nat) (I : ai_I) (Rf : ai_R) (G : ai_G) (w4_32 : Int32) : Option (Int32) :=
  o_g (o_kd G a0 8) (o_g (o_in G 13 (Rf a0 5) w4_32) (some (I (Rf a0 5) w4_32.toNatClampNeg)))
def m_109_x5_49 : Option (Int32) :=
  some (-4 : Int32)
def m_109_b5 (th : Nat) (a0 : Nat) (I : ai_I) (Rf : ai_R) (G : ai_G) (v3_5 : Int32) (v4_5 : Int32) : Option ((Int32 × Int32) ⊕ (Int32 ⊕ Unit)) :=
  o_g (o_kd G a0 8) (if (I a0 2) ≤ v4_5 then (some (Sum.inr (Sum.inr ()))) else (o_g (o_in G 13 (Rf a0 5) v4_5) (o_b1 (m_105 th (I (Rf a0 5) v4_5.toNatClampNeg) I Rf G) (fun r_22 => if r_22 = 0 then (o_b1 (some (v4_5 + (nI 1))) (fun x4_43 => some (Sum.inl (v3_5, x4_43)))) else (if v3_5 = 0 then (some (Sum.inr (Sum.inl v4_5))) else (o_b1 (some (v3_5 + (-1 : Int32))) (fun x3_40 => o_b1 (some (v4_5 + (nI 1))) (fun x4_43 => some (Sum.inl (x3_40, x4_43))))))))))
/-- PricedBases$Sums.greatestAt(LPricedBases$Valuation;I)I -/
def m_109 (th : Nat) (a0 : Nat) (a1 : Int32) (I : ai_I) (Rf : ai_R) (G : ai_G) : Option (Int32) :=
  o_s2 (lp (fun s => m_109_b5 th a0 I Rf G s.1 s.2) o_N (a1, (nI 0))) (fun t => m_109_x5_32 a0 I Rf G t) (fun t => m_109_x5_49)
theorem md_109 {d : Nat} {I : ai_I} {J : ai_J} {Rf : ai_R} {G : ai_G} {th : Nat} {a0 : Nat} {a1 : Int32} {r : Int32} (hd : 2 ≤ d) (hth : G.1 th = 7) (h : m_109 th a0 a1 I Rf G = some r) : ai_Cl si_t si_ms d 109 [.inr (.inr th), .inr (.inr a0), .inl a1] I J Rf G (some (.inl r)) I J Rf G := by
  obtain ⟨e, rfl⟩ : ∃ e, d = e + 1 := ⟨d - 1, by omega⟩
  unfold m_109 at h
  refine sp_in (lo := [some (.inr (.inr th)), some (.inr (.inr a0)), some (.inl a1), none, none]) (B := (0, 0)) rfl (Nat.le_of_ble_eq_true rfl) rfl rfl ?_
  refine go_iload_n (pc' := 1) rfl rfl rfl ?_
  refine go_istore_n (pc' := 2) (lo' := [some (.inr (.inr th)), some (.inr (.inr a0)), some (.inl a1), some (.inl a1), none]) rfl rfl rfl ?_
  refine go_iconst (pc' := 3) (v := (nI 0)) rfl rfl rfl ?_
  refine go_istore (pc' := 5) (lo' := [some (.inr (.inr th)), some (.inr (.inr a0)), some (.inl a1), some (.inl a1), some (.inl (nI 0))]) rfl rfl rfl ?_
  obtain ⟨q5, hl5, hc5_32, hc5_49⟩ := o_s2E h
  have ex5_32 : ∀ (w4_32 : Int32) (z3_x32 : Option ai_V), (Sum.inl w4_32) = q5 → ai_Go si_t (7, false, 0, cd_109) (ai_Cl si_t si_ms e) (sp_Q (some (.inl r)) I J Rf G) 32 [some (.inr (.inr th)), some (.inr (.inr a0)), some (.inl a1), z3_x32, some (.inl w4_32)] [] (0, 0) I J Rf G := by
    intro w4_32 z3_x32 hq
    have h : m_109_x5_32 a0 I Rf G w4_32 = some r := hc5_32 w4_32 hq.symm
    unfold m_109_x5_32 at h
    refine go_aload_n (pc' := 33) rfl rfl rfl ?_
    obtain ⟨g0, h⟩ := o_gE h
    refine go_getR (pc' := 36) rfl rfl (o_kdE g0) rfl ?_
    refine go_iload (pc' := 38) rfl rfl rfl ?_
    obtain ⟨g1, h⟩ := o_gE h
    refine go_iaload (pc' := 39) rfl (o_inK g1) (o_inB g1) rfl ?_
    cases h
    exact go_iret rfl (trivial) ⟨rfl, rfl, rfl, rfl, rfl⟩
  have ex5_49 : ∀ (z3_x49 : Option ai_V) (z4_x49 : Option ai_V), (Sum.inr ()) = q5 → ai_Go si_t (7, false, 0, cd_109) (ai_Cl si_t si_ms e) (sp_Q (some (.inl r)) I J Rf G) 49 [some (.inr (.inr th)), some (.inr (.inr a0)), some (.inl a1), z3_x49, z4_x49] [] (0, 0) I J Rf G := by
    intro z3_x49 z4_x49 hq
    have h : m_109_x5_49 = some r := hc5_49 () hq.symm
    unfold m_109_x5_49 at h
    refine go_bipush (pc' := 51) (v := (-4 : Int32)) rfl rfl rfl ?_
    cases h
    exact go_iret rfl (trivial) ⟨rfl, rfl, rfl, rfl, rfl⟩
  have lo5 : ∀ n s, lp (fun s => m_109_b5 th a0 I Rf G s.1 s.2) n s = some q5 → (fun s => ai_Go si_t (7, false, 0, cd_109) (ai_Cl si_t si_ms e) (sp_Q (some (.inl r)) I J Rf G) 5 [some (.inr (.inr th)), some (.inr (.inr a0)), some (.inl a1), some (.inl s.1), some (.inl s.2)] [] (0, 0) I J Rf G) s := lp_go (fun s x5 hx hk5 => by
    obtain ⟨v3_5, v4_5⟩ := s
    have h : m_109_b5 th a0 I Rf G v3_5 v4_5 = some x5 := hx
    clear hx
    show ai_Go si_t (7, false, 0, cd_109) (ai_Cl si_t si_ms e) (sp_Q (some (.inl r)) I J Rf G) 5 [some (.inr (.inr th)), some (.inr (.inr a0)), some (.inl a1), some (.inl v3_5), some (.inl v4_5)] [] (0, 0) I J Rf G
    unfold m_109_b5 at h
    refine go_iload (pc' := 7) rfl rfl rfl ?_
    refine go_aload_n (pc' := 8) rfl rfl rfl ?_
    obtain ⟨g2, h⟩ := o_gE h
    refine go_getI (pc' := 11) rfl rfl (by decide) (by decide) (o_kdE g2) rfl ?_
    refine go_icmp_ge (pt := 49) (pc' := 14) rfl rfl rfl (fun h11 => ?_) (fun h11 => ?_)
    · replace h := o_t h11 h
      exact ex5_49  (some (.inl v3_5)) (some (.inl v4_5)) (lp_exitE h hk5)
    · replace h := o_f h11 h
      refine go_aload_n (pc' := 15) rfl rfl rfl ?_
      refine go_aload_n (pc' := 16) rfl rfl rfl ?_
      refine go_getR (pc' := 19) rfl rfl (o_kdE g2) rfl ?_
      refine go_iload (pc' := 21) rfl rfl rfl ?_
      obtain ⟨g3, h⟩ := o_gE h
      refine go_iaload (pc' := 22) rfl (o_inK g3) (o_inB g3) rfl ?_
      obtain ⟨r_22, q_22, h⟩ := o_b1E h
      refine go_callV (pc' := 25) (B' := (0, 0)) (st' := [.inl r_22]) rfl rfl (Or.inl (by decide)) rfl rfl hth (md_105 (by omega) hth q_22) rfl rfl rfl ?_
      refine go_if_eq (pt := 43) (pc' := 28) rfl rfl rfl (fun h25 => ?_) (fun h25 => ?_)
      · replace h := o_t h25 h
        obtain ⟨x4_43, ex4_43, h⟩ := o_b1E h
        refine go_iincE (pc' := 46) rfl rfl (y := (nI 1)) rfl ex4_43 (lo' := [some (.inr (.inr th)), some (.inr (.inr a0)), some (.inl a1), some (.inl v3_5), some (.inl x4_43)]) rfl rfl ?_
        refine go_goto (pc' := 5) rfl rfl ?_
        exact (lp_backE h hk5 :)
      · replace h := o_f h25 h
        refine go_iload_n (pc' := 29) rfl rfl rfl ?_
        refine go_if_ne (pt := 40) (pc' := 32) rfl rfl rfl (fun h29 => ?_) (fun h29 => ?_)
        · replace h := o_f h29 h
          obtain ⟨x3_40, ex3_40, h⟩ := o_b1E h
          refine go_iincE (pc' := 43) rfl rfl (y := (-1 : Int32)) rfl ex3_40 (lo' := [some (.inr (.inr th)), some (.inr (.inr a0)), some (.inl a1), some (.inl x3_40), some (.inl v4_5)]) rfl rfl ?_
          obtain ⟨x4_43, ex4_43, h⟩ := o_b1E h
          refine go_iincE (pc' := 46) rfl rfl (y := (nI 1)) rfl ex4_43 (lo' := [some (.inr (.inr th)), some (.inr (.inr a0)), some (.inl a1), some (.inl x3_40), some (.inl x4_43)]) rfl rfl ?_
          refine go_goto (pc' := 5) rfl rfl ?_
          exact (lp_backE h hk5 :)
        · replace h := o_t (Decidable.of_not_not h29) h
          exact ex5_32 _ (some (.inl v3_5)) (lp_exitE h hk5))
  exact lo5 _ (a1, (nI 0)) hl5 
def m_110_x7_56 (w4_56 : Int32) : Option (Int32) :=
  some w4_56
def m_110_b7 (th : Nat) (a0 : Nat) (a1 : Int32) (a2 : Int32) (I : ai_I) (Rf : ai_R) (G : ai_G) (v4_7 : Int32) (v5_7 : Int32) : Option ((Int32 × Int32) ⊕ Int32) :=
  o_g (o_kd G a0 8) (if (I a0 2) ≤ v5_7 then (some (Sum.inr v4_7)) else (o_g (o_in G 13 (Rf a0 5) v5_7) (o_b1 (m_183 (I (Rf a0 5) v5_7.toNatClampNeg) a1) (fun r_24 => if r_24 = a2 then (o_g (o_in G 13 (Rf a0 5) v5_7) (o_g (o_in G 13 (Rf th 0) (I (Rf a0 5) v5_7.toNatClampNeg)) (o_b1 (some (if v4_7 < (I (Rf th 0) (I (Rf a0 5) v5_7.toNatClampNeg).toNatClampNeg) then (I (Rf th 0) (I (Rf a0 5) v5_7.toNatClampNeg).toNatClampNeg) else v4_7)) (fun r_45 => o_b1 (some (v5_7 + (nI 1))) (fun x5_50 => some (Sum.inl (r_45, x5_50))))))) else (o_b1 (some (v5_7 + (nI 1))) (fun x5_50 => some (Sum.inl (v4_7, x5_50))))))))
/-- PricedBases$Sums.greatestBy(LPricedBases$Valuation;IZ)I -/
def m_110 (th : Nat) (a0 : Nat) (a1 : Int32) (a2 : Int32) (I : ai_I) (Rf : ai_R) (G : ai_G) : Option (Int32) :=
  o_s1 (lp (fun s => m_110_b7 th a0 a1 a2 I Rf G s.1 s.2) o_N ((-2147483648 : Int32), (nI 0))) (fun t => m_110_x7_56 t)
theorem md_110 {d : Nat} {I : ai_I} {J : ai_J} {Rf : ai_R} {G : ai_G} {th : Nat} {a0 : Nat} {a1 : Int32} {a2 : Int32} {r : Int32} (hd : 2 ≤ d) (hth : G.1 th = 7) (h : m_110 th a0 a1 a2 I Rf G = some r) : ai_Cl si_t si_ms d 110 [.inr (.inr th), .inr (.inr a0), .inl a1, .inl a2] I J Rf G (some (.inl r)) I J Rf G := by
  obtain ⟨e, rfl⟩ : ∃ e, d = e + 1 := ⟨d - 1, by omega⟩
  unfold m_110 at h
  refine sp_in (lo := [some (.inr (.inr th)), some (.inr (.inr a0)), some (.inl a1), some (.inl a2), none, none]) (B := (0, 0)) rfl (Nat.le_of_ble_eq_true rfl) rfl rfl ?_
  refine go_ldc (pc' := 2) (v := .inl (-2147483648 : Int32)) rfl rfl rfl ?_
  refine go_istore (pc' := 4) (lo' := [some (.inr (.inr th)), some (.inr (.inr a0)), some (.inl a1), some (.inl a2), some (.inl (-2147483648 : Int32)), none]) rfl rfl rfl ?_
  refine go_iconst (pc' := 5) (v := (nI 0)) rfl rfl rfl ?_
  refine go_istore (pc' := 7) (lo' := [some (.inr (.inr th)), some (.inr (.inr a0)), some (.inl a1), some (.inl a2), some (.inl (-2147483648 : Int32)), some (.inl (nI 0))]) rfl rfl rfl ?_
  obtain ⟨q7, hl7, hc7_56⟩ := o_s1E h
  have ex7_56 : ∀ (w4_56 : Int32) (z5_x56 : Option ai_V), w4_56 = q7 → ai_Go si_t (7, false, 0, cd_110) (ai_Cl si_t si_ms e) (sp_Q (some (.inl r)) I J Rf G) 56 [some (.inr (.inr th)), some (.inr (.inr a0)), some (.inl a1), some (.inl a2), some (.inl w4_56), z5_x56] [] (0, 0) I J Rf G := by
    intro w4_56 z5_x56 hq
    have h : m_110_x7_56 w4_56 = some r := hc7_56 w4_56 hq.symm
    unfold m_110_x7_56 at h
    refine go_iload (pc' := 58) rfl rfl rfl ?_
    cases h
    exact go_iret rfl (trivial) ⟨rfl, rfl, rfl, rfl, rfl⟩
  have lo7 : ∀ n s, lp (fun s => m_110_b7 th a0 a1 a2 I Rf G s.1 s.2) n s = some q7 → (fun s => ai_Go si_t (7, false, 0, cd_110) (ai_Cl si_t si_ms e) (sp_Q (some (.inl r)) I J Rf G) 7 [some (.inr (.inr th)), some (.inr (.inr a0)), some (.inl a1), some (.inl a2), some (.inl s.1), some (.inl s.2)] [] (0, 0) I J Rf G) s := lp_go (fun s x7 hx hk7 => by
    obtain ⟨v4_7, v5_7⟩ := s
    have h : m_110_b7 th a0 a1 a2 I Rf G v4_7 v5_7 = some x7 := hx
    clear hx
    show ai_Go si_t (7, false, 0, cd_110) (ai_Cl si_t si_ms e) (sp_Q (some (.inl r)) I J Rf G) 7 [some (.inr (.inr th)), some (.inr (.inr a0)), some (.inl a1), some (.inl a2), some (.inl v4_7), some (.inl v5_7)] [] (0, 0) I J Rf G
    unfold m_110_b7 at h
    refine go_iload (pc' := 9) rfl rfl rfl ?_
    refine go_aload_n (pc' := 10) rfl rfl rfl ?_
    obtain ⟨g0, h⟩ := o_gE h
    refine go_getI (pc' := 13) rfl rfl (by decide) (by decide) (o_kdE g0) rfl ?_
    refine go_icmp_ge (pt := 56) (pc' := 16) rfl rfl rfl (fun h13 => ?_) (fun h13 => ?_)
    · replace h := o_t h13 h
      exact ex7_56 _ (some (.inl v5_7)) (lp_exitE h hk7)
    · replace h := o_f h13 h
      refine go_aload_n (pc' := 17) rfl rfl rfl ?_
      refine go_getR (pc' := 20) rfl rfl (o_kdE g0) rfl ?_
      refine go_iload (pc' := 22) rfl rfl rfl ?_
      obtain ⟨g1, h⟩ := o_gE h
      refine go_iaload (pc' := 23) rfl (o_inK g1) (o_inB g1) rfl ?_
      refine go_iload_n (pc' := 24) rfl rfl rfl ?_
      obtain ⟨r_24, q_24, h⟩ := o_b1E h
      refine go_callS (pc' := 27) (B' := (0, 0)) (st' := [.inl r_24]) rfl rfl (Or.inl (by decide)) rfl rfl trivial (md_183 (by omega) q_24) rfl rfl rfl ?_
      refine go_iload_n (pc' := 28) rfl rfl rfl ?_
      refine go_icmp_ne (pt := 50) (pc' := 31) rfl rfl rfl (fun h28 => ?_) (fun h28 => ?_)
      · replace h := o_f h28 h
        obtain ⟨x5_50, ex5_50, h⟩ := o_b1E h
        refine go_iincE (pc' := 53) rfl rfl (y := (nI 1)) rfl ex5_50 (lo' := [some (.inr (.inr th)), some (.inr (.inr a0)), some (.inl a1), some (.inl a2), some (.inl v4_7), some (.inl x5_50)]) rfl rfl ?_
        refine go_goto (pc' := 7) rfl rfl ?_
        exact (lp_backE h hk7 :)
      · replace h := o_t (Decidable.of_not_not h28) h
        refine go_iload (pc' := 33) rfl rfl rfl ?_
        refine go_aload_n (pc' := 34) rfl rfl rfl ?_
        refine go_getR (pc' := 37) rfl rfl hth rfl ?_
        refine go_aload_n (pc' := 38) rfl rfl rfl ?_
        refine go_getR (pc' := 41) rfl rfl (o_kdE g0) rfl ?_
        refine go_iload (pc' := 43) rfl rfl rfl ?_
        obtain ⟨g2, h⟩ := o_gE h
        refine go_iaload (pc' := 44) rfl (o_inK g2) (o_inB g2) rfl ?_
        obtain ⟨g3, h⟩ := o_gE h
        refine go_iaload (pc' := 45) rfl (o_inK g3) (o_inB g3) rfl ?_
        refine go_max (pc' := 48) rfl rfl (Nat.le_of_ble_eq_true rfl) rfl ?_
        obtain ⟨r_45, er_45, h⟩ := o_b1E h
        refine go_ndI er_45 ?_
        refine go_istore (pc' := 50) (lo' := [some (.inr (.inr th)), some (.inr (.inr a0)), some (.inl a1), some (.inl a2), some (.inl r_45), some (.inl v5_7)]) rfl rfl rfl ?_
        obtain ⟨x5_50, ex5_50, h⟩ := o_b1E h
        refine go_iincE (pc' := 53) rfl rfl (y := (nI 1)) rfl ex5_50 (lo' := [some (.inr (.inr th)), some (.inr (.inr a0)), some (.inl a1), some (.inl a2), some (.inl r_45), some (.inl x5_50)]) rfl rfl ?_
        refine go_goto (pc' := 7) rfl rfl ?_
        exact (lp_backE h hk7 :))
  exact lo7 _ ((-2147483648 : Int32), (nI 0)) hl7 
def m_125_x9_50 (w1_50 : Int32) : Option (Int32) :=
  some w1_50
def m_125_b9 (th : Nat) (I : ai_I) (Rf : ai_R) (G : ai_G) (v1_9 : Int32) (v2_9 : Int32) : Option ((Int32 × Int32) ⊕ Int32) :=
  if (I th 2) ≤ v2_9 then (some (Sum.inr v1_9)) else (o_g (o_in G 13 (Rf th 5) v2_9) (o_g (o_in G 13 (Rf th 3) (I (Rf th 5) v2_9.toNatClampNeg)) (o_g (o_in G 13 (Rf th 3) v1_9) (if (I (Rf th 3) (I (Rf th 5) v2_9.toNatClampNeg).toNatClampNeg) ≤ (I (Rf th 3) v1_9.toNatClampNeg) then (o_b1 (some (v2_9 + (nI 1))) (fun x2_44 => some (Sum.inl (v1_9, x2_44)))) else (o_g (o_in G 13 (Rf th 5) v2_9) (o_b1 (some (I (Rf th 5) v2_9.toNatClampNeg)) (fun x1_43 => o_b1 (some (v2_9 + (nI 1))) (fun x2_44 => some (Sum.inl (x1_43, x2_44))))))))))
/-- PricedBases$Valuation.leastGreatest()I -/
def m_125 (th : Nat) (I : ai_I) (Rf : ai_R) (G : ai_G) : Option (Int32) :=
  o_g (o_in G 13 (Rf th 5) (nI 0)) (o_b1 (some (I (Rf th 5) (nI 0).toNatClampNeg)) (fun x1_6 => o_s1 (lp (fun s => m_125_b9 th I Rf G s.1 s.2) o_N (x1_6, (nI 1))) (fun t => m_125_x9_50 t)))
theorem md_125 {d : Nat} {I : ai_I} {J : ai_J} {Rf : ai_R} {G : ai_G} {th : Nat} {r : Int32} (hd : 1 ≤ d) (hth : G.1 th = 8) (h : m_125 th I Rf G = some r) : ai_Cl si_t si_ms d 125 [.inr (.inr th)] I J Rf G (some (.inl r)) I J Rf G := by
  obtain ⟨e, rfl⟩ : ∃ e, d = e + 1 := ⟨d - 1, by omega⟩
  unfold m_125 at h
  refine sp_in (lo := [some (.inr (.inr th)), none, none]) (B := (0, 0)) rfl (Nat.le_of_ble_eq_true rfl) rfl rfl ?_
  refine go_aload_n (pc' := 1) rfl rfl rfl ?_
  refine go_getR (pc' := 4) rfl rfl hth rfl ?_
  refine go_iconst (pc' := 5) (v := (nI 0)) rfl rfl rfl ?_
  obtain ⟨g0, h⟩ := o_gE h
  refine go_iaload (pc' := 6) rfl (o_inK g0) (o_inB g0) rfl ?_
  obtain ⟨x1_6, ex1_6, h⟩ := o_b1E h
  refine go_ndI ex1_6 ?_
  refine go_istore_n (pc' := 7) (lo' := [some (.inr (.inr th)), some (.inl x1_6), none]) rfl rfl rfl ?_
  refine go_iconst (pc' := 8) (v := (nI 1)) rfl rfl rfl ?_
  refine go_istore_n (pc' := 9) (lo' := [some (.inr (.inr th)), some (.inl x1_6), some (.inl (nI 1))]) rfl rfl rfl ?_
  obtain ⟨q9, hl9, hc9_50⟩ := o_s1E h
  have ex9_50 : ∀ (w1_50 : Int32) (z2_x50 : Option ai_V), w1_50 = q9 → ai_Go si_t (8, false, 0, cd_125) (ai_Cl si_t si_ms e) (sp_Q (some (.inl r)) I J Rf G) 50 [some (.inr (.inr th)), some (.inl w1_50), z2_x50] [] (0, 0) I J Rf G := by
    intro w1_50 z2_x50 hq
    have h : m_125_x9_50 w1_50 = some r := hc9_50 w1_50 hq.symm
    unfold m_125_x9_50 at h
    refine go_iload_n (pc' := 51) rfl rfl rfl ?_
    cases h
    exact go_iret rfl (trivial) ⟨rfl, rfl, rfl, rfl, rfl⟩
  have lo9 : ∀ n s, lp (fun s => m_125_b9 th I Rf G s.1 s.2) n s = some q9 → (fun s => ai_Go si_t (8, false, 0, cd_125) (ai_Cl si_t si_ms e) (sp_Q (some (.inl r)) I J Rf G) 9 [some (.inr (.inr th)), some (.inl s.1), some (.inl s.2)] [] (0, 0) I J Rf G) s := lp_go (fun s x9 hx hk9 => by
    obtain ⟨v1_9, v2_9⟩ := s
    have h : m_125_b9 th I Rf G v1_9 v2_9 = some x9 := hx
    clear hx
    show ai_Go si_t (8, false, 0, cd_125) (ai_Cl si_t si_ms e) (sp_Q (some (.inl r)) I J Rf G) 9 [some (.inr (.inr th)), some (.inl v1_9), some (.inl v2_9)] [] (0, 0) I J Rf G
    unfold m_125_b9 at h
    refine go_iload_n (pc' := 10) rfl rfl rfl ?_
    refine go_aload_n (pc' := 11) rfl rfl rfl ?_
    refine go_getI (pc' := 14) rfl rfl (by decide) (by decide) hth rfl ?_
    refine go_icmp_ge (pt := 50) (pc' := 17) rfl rfl rfl (fun h14 => ?_) (fun h14 => ?_)
    · replace h := o_t h14 h
      exact ex9_50 _ (some (.inl v2_9)) (lp_exitE h hk9)
    · replace h := o_f h14 h
      refine go_aload_n (pc' := 18) rfl rfl rfl ?_
      refine go_getR (pc' := 21) rfl rfl hth rfl ?_
      refine go_aload_n (pc' := 22) rfl rfl rfl ?_
      refine go_getR (pc' := 25) rfl rfl hth rfl ?_
      refine go_iload_n (pc' := 26) rfl rfl rfl ?_
      obtain ⟨g1, h⟩ := o_gE h
      refine go_iaload (pc' := 27) rfl (o_inK g1) (o_inB g1) rfl ?_
      obtain ⟨g2, h⟩ := o_gE h
      refine go_iaload (pc' := 28) rfl (o_inK g2) (o_inB g2) rfl ?_
      refine go_aload_n (pc' := 29) rfl rfl rfl ?_
      refine go_getR (pc' := 32) rfl rfl hth rfl ?_
      refine go_iload_n (pc' := 33) rfl rfl rfl ?_
      obtain ⟨g3, h⟩ := o_gE h
      refine go_iaload (pc' := 34) rfl (o_inK g3) (o_inB g3) rfl ?_
      refine go_icmp_le (pt := 44) (pc' := 37) rfl rfl rfl (fun h34 => ?_) (fun h34 => ?_)
      · replace h := o_t h34 h
        obtain ⟨x2_44, ex2_44, h⟩ := o_b1E h
        refine go_iincE (pc' := 47) rfl rfl (y := (nI 1)) rfl ex2_44 (lo' := [some (.inr (.inr th)), some (.inl v1_9), some (.inl x2_44)]) rfl rfl ?_
        refine go_goto (pc' := 9) rfl rfl ?_
        exact (lp_backE h hk9 :)
      · replace h := o_f h34 h
        refine go_aload_n (pc' := 38) rfl rfl rfl ?_
        refine go_getR (pc' := 41) rfl rfl hth rfl ?_
        refine go_iload_n (pc' := 42) rfl rfl rfl ?_
        obtain ⟨g4, h⟩ := o_gE h
        refine go_iaload (pc' := 43) rfl (o_inK g4) (o_inB g4) rfl ?_
        obtain ⟨x1_43, ex1_43, h⟩ := o_b1E h
        refine go_ndI ex1_43 ?_
        refine go_istore_n (pc' := 44) (lo' := [some (.inr (.inr th)), some (.inl x1_43), some (.inl v2_9)]) rfl rfl rfl ?_
        obtain ⟨x2_44, ex2_44, h⟩ := o_b1E h
        refine go_iincE (pc' := 47) rfl rfl (y := (nI 1)) rfl ex2_44 (lo' := [some (.inr (.inr th)), some (.inl x1_43), some (.inl x2_44)]) rfl rfl ?_
        refine go_goto (pc' := 9) rfl rfl ?_
        exact (lp_backE h hk9 :))
  exact lo9 _ (x1_6, (nI 1)) hl9 
/-- PricedBases$Valuation.greatestValue()I -/
def m_124 (th : Nat) (I : ai_I) (Rf : ai_R) (G : ai_G) : Option (Int32) :=
  o_b1 (m_125 th I Rf G) (fun r_5 => o_g (o_in G 13 (Rf th 3) r_5) (some (I (Rf th 3) r_5.toNatClampNeg)))
theorem md_124 {d : Nat} {I : ai_I} {J : ai_J} {Rf : ai_R} {G : ai_G} {th : Nat} {r : Int32} (hd : 2 ≤ d) (hth : G.1 th = 8) (h : m_124 th I Rf G = some r) : ai_Cl si_t si_ms d 124 [.inr (.inr th)] I J Rf G (some (.inl r)) I J Rf G := by
  obtain ⟨e, rfl⟩ : ∃ e, d = e + 1 := ⟨d - 1, by omega⟩
  unfold m_124 at h
  refine sp_in (lo := [some (.inr (.inr th))]) (B := (0, 0)) rfl (Nat.le_of_ble_eq_true rfl) rfl rfl ?_
  refine go_aload_n (pc' := 1) rfl rfl rfl ?_
  refine go_getR (pc' := 4) rfl rfl hth rfl ?_
  refine go_aload_n (pc' := 5) rfl rfl rfl ?_
  obtain ⟨r_5, q_5, h⟩ := o_b1E h
  refine go_callV (pc' := 8) (B' := (0, 0)) (st' := [.inl r_5, .inr (.inr (Rf th 3))]) rfl rfl (Or.inl (by decide)) rfl rfl hth (md_125 (by omega) hth q_5) rfl rfl rfl ?_
  obtain ⟨g0, h⟩ := o_gE h
  refine go_iaload (pc' := 9) rfl (o_inK g0) (o_inB g0) rfl ?_
  cases h
  exact go_iret rfl (trivial) ⟨rfl, rfl, rfl, rfl, rfl⟩
/-- PricedBases$Ways.<init>()V -/
def m_126 (th : Nat) (I : ai_I) (Rf : ai_R) (G : ai_G) : Option (ai_I × ai_R × ai_G) :=
  o_g (o_nn th) (o_g (o_lt9 G) (o_b1 (some (va_up I (G.2.2 + 1) (fun _ => 0))) (fun I_8 => o_b1 (some (va_up G.1 (G.2.2 + 1) 13, va_up G.2.1 (G.2.2 + 1) 256, G.2.2 + 1)) (fun G_8 => o_b1 (some (G.2.2 + 1)) (fun n_8 => o_g (o_kd G_8 th 9) (o_b1 (some (va_up Rf th (va_up (Rf th) 0 n_8))) (fun R_10 => o_g (o_lt9 G_8) (o_b1 (some (va_up I_8 (G_8.2.2 + 1) (fun _ => 0))) (fun I_17 => o_b1 (some (va_up G_8.1 (G_8.2.2 + 1) 13, va_up G_8.2.1 (G_8.2.2 + 1) 256, G_8.2.2 + 1)) (fun G_17 => o_b1 (some (G_8.2.2 + 1)) (fun n_17 => o_g (o_kd G_17 th 9) (o_b1 (some (va_up R_10 th (va_up (R_10 th) 1 n_17))) (fun R_19 => o_g (o_lt9 G_17) (o_b1 (some (va_up I_17 (G_17.2.2 + 1) (fun _ => 0))) (fun I_25 => o_b1 (some (va_up G_17.1 (G_17.2.2 + 1) 13, va_up G_17.2.1 (G_17.2.2 + 1) 70, G_17.2.2 + 1)) (fun G_25 => o_b1 (some (G_17.2.2 + 1)) (fun n_25 => o_g (o_kd G_25 th 9) (o_b1 (some (va_up R_19 th (va_up (R_19 th) 2 n_25))) (fun R_27 => some (I_25, R_27, G_25))))))))))))))))))))
theorem md_126 {d : Nat} {I : ai_I} {J : ai_J} {Rf : ai_R} {G : ai_G} {th : Nat} {I1 : ai_I} {R1 : ai_R} {G1 : ai_G} (hd : 1 ≤ d) (hth : G.1 th = 9) (h : m_126 th I Rf G = some (I1, R1, G1)) : ai_Cl si_t si_ms d 126 [.inr (.inr th)] I J Rf G none I1 J R1 G1 := by
  obtain ⟨e, rfl⟩ : ∃ e, d = e + 1 := ⟨d - 1, by omega⟩
  unfold m_126 at h
  refine sp_in (lo := [some (.inr (.inr th))]) (B := (3, 582)) rfl (Nat.le_of_ble_eq_true rfl) rfl rfl ?_
  refine go_aload_n (pc' := 1) rfl rfl rfl ?_
  obtain ⟨g0, h⟩ := o_gE h
  refine go_obj (pc' := 4) rfl rfl (o_nnE g0) (Nat.le_of_ble_eq_true rfl) rfl ?_
  refine go_aload_n (pc' := 5) rfl rfl rfl ?_
  refine go_sipush (pc' := 8) (v := (nI 256)) rfl rfl rfl ?_
  obtain ⟨g1, h⟩ := o_gE h
  refine go_newI (pc' := 10) (N := 256) rfl (by decide) (by decide) (by decide) (by decide) (by decide) (o_lt9E g1) rfl ?_
  obtain ⟨I_8, eI_8, h⟩ := o_b1E h
  obtain ⟨G_8, eG_8, h⟩ := o_b1E h
  obtain ⟨n_8, en_8, h⟩ := o_b1E h
  refine go_ndMI eI_8 ?_
  refine go_ndMG eG_8 ?_
  refine go_ndR en_8 ?_
  refine go_ndB (B' := (2, 326)) rfl ?_
  obtain ⟨g2, h⟩ := o_gE h
  obtain ⟨R_10, eR_10, h⟩ := o_b1E h
  refine go_putR (pc' := 13) rfl rfl (fun _ => ⟨rfl, rfl⟩) (o_kdE g2) rfl ?_
  refine go_ndMR eR_10 ?_
  refine go_aload_n (pc' := 14) rfl rfl rfl ?_
  refine go_sipush (pc' := 17) (v := (nI 256)) rfl rfl rfl ?_
  obtain ⟨g3, h⟩ := o_gE h
  refine go_newI (pc' := 19) (N := 256) rfl (by decide) (by decide) (by decide) (by decide) (by decide) (o_lt9E g3) rfl ?_
  obtain ⟨I_17, eI_17, h⟩ := o_b1E h
  obtain ⟨G_17, eG_17, h⟩ := o_b1E h
  obtain ⟨n_17, en_17, h⟩ := o_b1E h
  refine go_ndMI eI_17 ?_
  refine go_ndMG eG_17 ?_
  refine go_ndR en_17 ?_
  refine go_ndB (B' := (1, 70)) rfl ?_
  obtain ⟨g4, h⟩ := o_gE h
  obtain ⟨R_19, eR_19, h⟩ := o_b1E h
  refine go_putR (pc' := 22) rfl rfl (fun _ => ⟨rfl, rfl⟩) (o_kdE g4) rfl ?_
  refine go_ndMR eR_19 ?_
  refine go_aload_n (pc' := 23) rfl rfl rfl ?_
  refine go_bipush (pc' := 25) (v := (nI 70)) rfl rfl rfl ?_
  obtain ⟨g5, h⟩ := o_gE h
  refine go_newI (pc' := 27) (N := 70) rfl (by decide) (by decide) (by decide) (by decide) (by decide) (o_lt9E g5) rfl ?_
  obtain ⟨I_25, eI_25, h⟩ := o_b1E h
  obtain ⟨G_25, eG_25, h⟩ := o_b1E h
  obtain ⟨n_25, en_25, h⟩ := o_b1E h
  refine go_ndMI eI_25 ?_
  refine go_ndMG eG_25 ?_
  refine go_ndR en_25 ?_
  refine go_ndB (B' := (0, 0)) rfl ?_
  obtain ⟨g6, h⟩ := o_gE h
  obtain ⟨R_27, eR_27, h⟩ := o_b1E h
  refine go_putR (pc' := 30) rfl rfl (fun _ => ⟨rfl, rfl⟩) (o_kdE g6) rfl ?_
  refine go_ndMR eR_27 ?_
  cases h
  exact go_vret rfl (rfl) ⟨rfl, rfl, rfl, rfl, rfl⟩
/-- PricedBases$Ways.areBeside(II)Z -/
def m_129 (a0 : Int32) (a1 : Int32) : Option (Int32) :=
  o_b1 (m_331 (a0 ^^^ a1)) (fun r_3 => if r_3 = (nI 2) then (some (nI 1)) else (some (nI 0)))
theorem md_129 {d : Nat} {I : ai_I} {J : ai_J} {Rf : ai_R} {G : ai_G} {a0 : Int32} {a1 : Int32} {r : Int32} (hd : 2 ≤ d) (h : m_129 a0 a1 = some r) : ai_Cl si_t si_ms d 129 [.inl a0, .inl a1] I J Rf G (some (.inl r)) I J Rf G := by
  obtain ⟨e, rfl⟩ : ∃ e, d = e + 1 := ⟨d - 1, by omega⟩
  unfold m_129 at h
  refine sp_in (lo := [some (.inl a0), some (.inl a1)]) (B := (0, 0)) rfl (Nat.le_of_ble_eq_true rfl) rfl rfl ?_
  refine go_iload_n (pc' := 1) rfl rfl rfl ?_
  refine go_iload_n (pc' := 2) rfl rfl rfl ?_
  refine go_ixor (pc' := 3) rfl rfl ?_
  obtain ⟨r_3, q_3, h⟩ := o_b1E h
  refine go_callS (pc' := 6) (B' := (0, 0)) (st' := [.inl r_3]) rfl rfl (Or.inl (by decide)) rfl rfl trivial (md_331 (by omega) q_3) rfl rfl rfl ?_
  refine go_iconst (pc' := 7) (v := (nI 2)) rfl rfl rfl ?_
  refine go_icmp_ne (pt := 14) (pc' := 10) rfl rfl rfl (fun h7 => ?_) (fun h7 => ?_)
  · replace h := o_f h7 h
    refine go_iconst (pc' := 15) (v := (nI 0)) rfl rfl rfl ?_
    cases h
    exact go_iret rfl (rfl) ⟨rfl, rfl, rfl, rfl, rfl⟩
  · replace h := o_t (Decidable.of_not_not h7) h
    refine go_iconst (pc' := 11) (v := (nI 1)) rfl rfl rfl ?_
    refine go_goto (pc' := 15) rfl rfl ?_
    cases h
    exact go_iret rfl (rfl) ⟨rfl, rfl, rfl, rfl, rfl⟩
def m_128_x6_83 (w4_83 : Int32) (Ix_83 : ai_I) : Option (Int32 × ai_I) :=
  some (w4_83, Ix_83)
def m_128_b6 (th : Nat) (a0 : Nat) (a1 : Int32) (Rf : ai_R) (G : ai_G) (v4_6 : Int32) (v5_6 : Int32) (I_6 : ai_I) : Option ((Int32 × Int32 × ai_I) ⊕ (Int32 × ai_I)) :=
  o_g (o_kd G a0 8) (if (I_6 a0 2) ≤ v5_6 then (some (Sum.inr (v4_6, I_6))) else (o_g (o_in G 13 (Rf a0 5) v5_6) (o_b1 (some (I_6 (Rf a0 5) v5_6.toNatClampNeg)) (fun x6_22 => o_g (o_in G 13 (Rf th 0) x6_22) (if 0 ≤ (I_6 (Rf th 0) x6_22.toNatClampNeg) then (o_b1 (some (v5_6 + (nI 1))) (fun x5_77 => some (Sum.inl (v4_6, x5_77, I_6)))) else (o_b1 (m_129 a1 x6_22) (fun r_37 => if r_37 = 0 then (o_b1 (some (v5_6 + (nI 1))) (fun x5_77 => some (Sum.inl (v4_6, x5_77, I_6)))) else (if (nI 70) ≤ v4_6 then (o_b1 (some (v5_6 + (nI 1))) (fun x5_77 => some (Sum.inl (v4_6, x5_77, I_6)))) else (o_g (o_in G 13 (Rf th 0) a1) (o_g (o_in G 13 (Rf th 0) x6_22) (o_b1 (some (va_up I_6 (Rf th 0) (va_up (I_6 (Rf th 0)) x6_22.toNatClampNeg ((I_6 (Rf th 0) a1.toNatClampNeg) + (nI 1))))) (fun I_64 => o_g (o_in G 13 (Rf th 2) v4_6) (o_b1 (some (va_up I_64 (Rf th 2) (va_up (I_64 (Rf th 2)) v4_6.toNatClampNeg x6_22))) (fun I_73 => o_b1 (some (v4_6 + (nI 1))) (fun x4_74 => o_b1 (some (v5_6 + (nI 1))) (fun x5_77 => some (Sum.inl (x4_74, x5_77, I_73))))))))))))))))))
/-- PricedBases$Ways.reachFrom(LPricedBases$Valuation;II)I -/
def m_128 (th : Nat) (a0 : Nat) (a1 : Int32) (a2 : Int32) (I : ai_I) (Rf : ai_R) (G : ai_G) : Option (Int32 × ai_I) :=
  o_s1 (lp (fun s => m_128_b6 th a0 a1 Rf G s.1 s.2.1 s.2.2) o_N (a2, (nI 0), I)) (fun t => m_128_x6_83 t.1 t.2)
theorem md_128 {d : Nat} {I : ai_I} {J : ai_J} {Rf : ai_R} {G : ai_G} {th : Nat} {a0 : Nat} {a1 : Int32} {a2 : Int32} {r : Int32} {I1 : ai_I} (hd : 3 ≤ d) (hth : G.1 th = 9) (h : m_128 th a0 a1 a2 I Rf G = some (r, I1)) : ai_Cl si_t si_ms d 128 [.inr (.inr th), .inr (.inr a0), .inl a1, .inl a2] I J Rf G (some (.inl r)) I1 J Rf G := by
  obtain ⟨e, rfl⟩ : ∃ e, d = e + 1 := ⟨d - 1, by omega⟩
  unfold m_128 at h
  refine sp_in (lo := [some (.inr (.inr th)), some (.inr (.inr a0)), some (.inl a1), some (.inl a2), none, none, none]) (B := (0, 0)) rfl (Nat.le_of_ble_eq_true rfl) rfl rfl ?_
  refine go_iload_n (pc' := 1) rfl rfl rfl ?_
  refine go_istore (pc' := 3) (lo' := [some (.inr (.inr th)), some (.inr (.inr a0)), some (.inl a1), some (.inl a2), some (.inl a2), none, none]) rfl rfl rfl ?_
  refine go_iconst (pc' := 4) (v := (nI 0)) rfl rfl rfl ?_
  refine go_istore (pc' := 6) (lo' := [some (.inr (.inr th)), some (.inr (.inr a0)), some (.inl a1), some (.inl a2), some (.inl a2), some (.inl (nI 0)), none]) rfl rfl rfl ?_
  obtain ⟨q6, hl6, hc6_83⟩ := o_s1E h
  have ex6_83 : ∀ (w4_83 : Int32) (Ix_83 : ai_I) (z5_x83 : Option ai_V) (z6_x83 : Option ai_V), (w4_83, Ix_83) = q6 → ai_Go si_t (9, false, 0, cd_128) (ai_Cl si_t si_ms e) (sp_Q (some (.inl r)) I1 J Rf G) 83 [some (.inr (.inr th)), some (.inr (.inr a0)), some (.inl a1), some (.inl a2), some (.inl w4_83), z5_x83, z6_x83] [] (0, 0) Ix_83 J Rf G := by
    intro w4_83 Ix_83 z5_x83 z6_x83 hq
    have h : m_128_x6_83 w4_83 Ix_83 = some (r, I1) := hc6_83 (w4_83, Ix_83) hq.symm
    unfold m_128_x6_83 at h
    refine go_iload (pc' := 85) rfl rfl rfl ?_
    cases h
    exact go_iret rfl (trivial) ⟨rfl, rfl, rfl, rfl, rfl⟩
  have lo6 : ∀ n s, lp (fun s => m_128_b6 th a0 a1 Rf G s.1 s.2.1 s.2.2) n s = some q6 → (fun s => ∀ (z6_6 : Option ai_V), ai_Go si_t (9, false, 0, cd_128) (ai_Cl si_t si_ms e) (sp_Q (some (.inl r)) I1 J Rf G) 6 [some (.inr (.inr th)), some (.inr (.inr a0)), some (.inl a1), some (.inl a2), some (.inl s.1), some (.inl s.2.1), z6_6] [] (0, 0) s.2.2 J Rf G) s := lp_go (fun s x6 hx hk6 => by
    obtain ⟨v4_6, v5_6, I_6⟩ := s
    intro z6_6
    have h : m_128_b6 th a0 a1 Rf G v4_6 v5_6 I_6 = some x6 := hx
    clear hx
    show ai_Go si_t (9, false, 0, cd_128) (ai_Cl si_t si_ms e) (sp_Q (some (.inl r)) I1 J Rf G) 6 [some (.inr (.inr th)), some (.inr (.inr a0)), some (.inl a1), some (.inl a2), some (.inl v4_6), some (.inl v5_6), z6_6] [] (0, 0) I_6 J Rf G
    unfold m_128_b6 at h
    refine go_iload (pc' := 8) rfl rfl rfl ?_
    refine go_aload_n (pc' := 9) rfl rfl rfl ?_
    obtain ⟨g0, h⟩ := o_gE h
    refine go_getI (pc' := 12) rfl rfl (by decide) (by decide) (o_kdE g0) rfl ?_
    refine go_icmp_ge (pt := 83) (pc' := 15) rfl rfl rfl (fun h12 => ?_) (fun h12 => ?_)
    · replace h := o_t h12 h
      exact ex6_83 _ _ (some (.inl v5_6)) z6_6 (lp_exitE h hk6)
    · replace h := o_f h12 h
      refine go_aload_n (pc' := 16) rfl rfl rfl ?_
      refine go_getR (pc' := 19) rfl rfl (o_kdE g0) rfl ?_
      refine go_iload (pc' := 21) rfl rfl rfl ?_
      obtain ⟨g1, h⟩ := o_gE h
      refine go_iaload (pc' := 22) rfl (o_inK g1) (o_inB g1) rfl ?_
      obtain ⟨x6_22, ex6_22, h⟩ := o_b1E h
      refine go_ndI ex6_22 ?_
      refine go_istore (pc' := 24) (lo' := [some (.inr (.inr th)), some (.inr (.inr a0)), some (.inl a1), some (.inl a2), some (.inl v4_6), some (.inl v5_6), some (.inl x6_22)]) rfl rfl rfl ?_
      refine go_aload_n (pc' := 25) rfl rfl rfl ?_
      refine go_getR (pc' := 28) rfl rfl hth rfl ?_
      refine go_iload (pc' := 30) rfl rfl rfl ?_
      obtain ⟨g2, h⟩ := o_gE h
      refine go_iaload (pc' := 31) rfl (o_inK g2) (o_inB g2) rfl ?_
      refine go_if_ge (pt := 77) (pc' := 34) rfl rfl rfl (fun h31 => ?_) (fun h31 => ?_)
      · replace h := o_t h31 h
        obtain ⟨x5_77, ex5_77, h⟩ := o_b1E h
        refine go_iincE (pc' := 80) rfl rfl (y := (nI 1)) rfl ex5_77 (lo' := [some (.inr (.inr th)), some (.inr (.inr a0)), some (.inl a1), some (.inl a2), some (.inl v4_6), some (.inl x5_77), some (.inl x6_22)]) rfl rfl ?_
        refine go_goto (pc' := 6) rfl rfl ?_
        exact (lp_backE h hk6 (some (.inl x6_22)) :)
      · replace h := o_f h31 h
        refine go_iload_n (pc' := 35) rfl rfl rfl ?_
        refine go_iload (pc' := 37) rfl rfl rfl ?_
        obtain ⟨r_37, q_37, h⟩ := o_b1E h
        refine go_callS (pc' := 40) (B' := (0, 0)) (st' := [.inl r_37]) rfl rfl (Or.inl (by decide)) rfl rfl trivial (md_129 (by omega) q_37) rfl rfl rfl ?_
        refine go_if_eq (pt := 77) (pc' := 43) rfl rfl rfl (fun h40 => ?_) (fun h40 => ?_)
        · replace h := o_t h40 h
          obtain ⟨x5_77, ex5_77, h⟩ := o_b1E h
          refine go_iincE (pc' := 80) rfl rfl (y := (nI 1)) rfl ex5_77 (lo' := [some (.inr (.inr th)), some (.inr (.inr a0)), some (.inl a1), some (.inl a2), some (.inl v4_6), some (.inl x5_77), some (.inl x6_22)]) rfl rfl ?_
          refine go_goto (pc' := 6) rfl rfl ?_
          exact (lp_backE h hk6 (some (.inl x6_22)) :)
        · replace h := o_f h40 h
          refine go_iload (pc' := 45) rfl rfl rfl ?_
          refine go_bipush (pc' := 47) (v := (nI 70)) rfl rfl rfl ?_
          refine go_icmp_ge (pt := 77) (pc' := 50) rfl rfl rfl (fun h47 => ?_) (fun h47 => ?_)
          · replace h := o_t h47 h
            obtain ⟨x5_77, ex5_77, h⟩ := o_b1E h
            refine go_iincE (pc' := 80) rfl rfl (y := (nI 1)) rfl ex5_77 (lo' := [some (.inr (.inr th)), some (.inr (.inr a0)), some (.inl a1), some (.inl a2), some (.inl v4_6), some (.inl x5_77), some (.inl x6_22)]) rfl rfl ?_
            refine go_goto (pc' := 6) rfl rfl ?_
            exact (lp_backE h hk6 (some (.inl x6_22)) :)
          · replace h := o_f h47 h
            refine go_aload_n (pc' := 51) rfl rfl rfl ?_
            refine go_getR (pc' := 54) rfl rfl hth rfl ?_
            refine go_iload (pc' := 56) rfl rfl rfl ?_
            refine go_aload_n (pc' := 57) rfl rfl rfl ?_
            refine go_getR (pc' := 60) rfl rfl hth rfl ?_
            refine go_iload_n (pc' := 61) rfl rfl rfl ?_
            obtain ⟨g3, h⟩ := o_gE h
            refine go_iaload (pc' := 62) rfl (o_inK g3) (o_inB g3) rfl ?_
            refine go_iconst (pc' := 63) (v := (nI 1)) rfl rfl rfl ?_
            refine go_iadd (pc' := 64) rfl rfl ?_
            obtain ⟨g4, h⟩ := o_gE h
            obtain ⟨I_64, eI_64, h⟩ := o_b1E h
            refine go_iastore (pc' := 65) rfl (o_inK g4) (o_inB g4) rfl ?_
            refine go_ndMI eI_64 ?_
            refine go_aload_n (pc' := 66) rfl rfl rfl ?_
            refine go_getR (pc' := 69) rfl rfl hth rfl ?_
            refine go_iload (pc' := 71) rfl rfl rfl ?_
            refine go_iload (pc' := 73) rfl rfl rfl ?_
            obtain ⟨g5, h⟩ := o_gE h
            obtain ⟨I_73, eI_73, h⟩ := o_b1E h
            refine go_iastore (pc' := 74) rfl (o_inK g5) (o_inB g5) rfl ?_
            refine go_ndMI eI_73 ?_
            obtain ⟨x4_74, ex4_74, h⟩ := o_b1E h
            refine go_iincE (pc' := 77) rfl rfl (y := (nI 1)) rfl ex4_74 (lo' := [some (.inr (.inr th)), some (.inr (.inr a0)), some (.inl a1), some (.inl a2), some (.inl x4_74), some (.inl v5_6), some (.inl x6_22)]) rfl rfl ?_
            obtain ⟨x5_77, ex5_77, h⟩ := o_b1E h
            refine go_iincE (pc' := 80) rfl rfl (y := (nI 1)) rfl ex5_77 (lo' := [some (.inr (.inr th)), some (.inr (.inr a0)), some (.inl a1), some (.inl a2), some (.inl x4_74), some (.inl x5_77), some (.inl x6_22)]) rfl rfl ?_
            refine go_goto (pc' := 6) rfl rfl ?_
            exact (lp_backE h hk6 (some (.inl x6_22)) :))
  exact lo6 _ (a2, (nI 0), I) hl6 none
def m_127_x27_60 (w3_60 : Int32) (Ix_60 : ai_I) : Option (Int32 × ai_I) :=
  some (w3_60, Ix_60)
def m_127_b27 (th : Nat) (a0 : Nat) (Rf : ai_R) (G : ai_G) (v3_27 : Int32) (v4_27 : Int32) (I_27 : ai_I) : Option ((Int32 × Int32 × ai_I) ⊕ (Int32 × ai_I)) :=
  if (nI 70) ≤ v4_27 then (some (Sum.inr (v3_27, I_27))) else (if v3_27 ≤ v4_27 then (some (Sum.inr (v3_27, I_27))) else (o_g (o_in G 13 (Rf th 2) v4_27) (o_b2 (m_128 th a0 (I_27 (Rf th 2) v4_27.toNatClampNeg) v3_27 I_27 Rf G) (fun r_50 I_50 => o_b1 (some (v4_27 + (nI 1))) (fun x4_54 => some (Sum.inl (r_50, x4_54, I_50)))))))
/-- PricedBases$Ways.measure(LPricedBases$Valuation;I)I -/
def m_127 (th : Nat) (a0 : Nat) (a1 : Int32) (I : ai_I) (Rf : ai_R) (G : ai_G) : Option (Int32 × ai_I) :=
  o_b1 (m_332 (Rf th 0) (-1 : Int32) I G) (fun I_5 => o_g (o_in G 13 (Rf th 0) a1) (o_b1 (some (va_up I_5 (Rf th 0) (va_up (I_5 (Rf th 0)) a1.toNatClampNeg (nI 0)))) (fun I_14 => o_g (o_in G 13 (Rf th 2) (nI 0)) (o_b1 (some (va_up I_14 (Rf th 2) (va_up (I_14 (Rf th 2)) (nI 0).toNatClampNeg a1))) (fun I_21 => o_s1 (lp (fun s => m_127_b27 th a0 Rf G s.1 s.2.1 s.2.2) o_N ((nI 1), (nI 0), I_21)) (fun t => m_127_x27_60 t.1 t.2))))))
theorem md_127 {d : Nat} {I : ai_I} {J : ai_J} {Rf : ai_R} {G : ai_G} {th : Nat} {a0 : Nat} {a1 : Int32} {r : Int32} {I1 : ai_I} (hd : 4 ≤ d) (hth : G.1 th = 9) (h : m_127 th a0 a1 I Rf G = some (r, I1)) : ai_Cl si_t si_ms d 127 [.inr (.inr th), .inr (.inr a0), .inl a1] I J Rf G (some (.inl r)) I1 J Rf G := by
  obtain ⟨e, rfl⟩ : ∃ e, d = e + 1 := ⟨d - 1, by omega⟩
  unfold m_127 at h
  refine sp_in (lo := [some (.inr (.inr th)), some (.inr (.inr a0)), some (.inl a1), none, none]) (B := (0, 0)) rfl (Nat.le_of_ble_eq_true rfl) rfl rfl ?_
  refine go_aload_n (pc' := 1) rfl rfl rfl ?_
  refine go_getR (pc' := 4) rfl rfl hth rfl ?_
  refine go_iconst (pc' := 5) (v := (-1 : Int32)) rfl rfl rfl ?_
  obtain ⟨I_5, q_5, h⟩ := o_b1E h
  refine go_callS (pc' := 8) (B' := (0, 0)) (st' := []) rfl rfl (Or.inl (by decide)) rfl rfl trivial (md_332 (by omega) q_5) rfl rfl rfl ?_
  refine go_aload_n (pc' := 9) rfl rfl rfl ?_
  refine go_getR (pc' := 12) rfl rfl hth rfl ?_
  refine go_iload_n (pc' := 13) rfl rfl rfl ?_
  refine go_iconst (pc' := 14) (v := (nI 0)) rfl rfl rfl ?_
  obtain ⟨g0, h⟩ := o_gE h
  obtain ⟨I_14, eI_14, h⟩ := o_b1E h
  refine go_iastore (pc' := 15) rfl (o_inK g0) (o_inB g0) rfl ?_
  refine go_ndMI eI_14 ?_
  refine go_aload_n (pc' := 16) rfl rfl rfl ?_
  refine go_getR (pc' := 19) rfl rfl hth rfl ?_
  refine go_iconst (pc' := 20) (v := (nI 0)) rfl rfl rfl ?_
  refine go_iload_n (pc' := 21) rfl rfl rfl ?_
  obtain ⟨g1, h⟩ := o_gE h
  obtain ⟨I_21, eI_21, h⟩ := o_b1E h
  refine go_iastore (pc' := 22) rfl (o_inK g1) (o_inB g1) rfl ?_
  refine go_ndMI eI_21 ?_
  refine go_iconst (pc' := 23) (v := (nI 1)) rfl rfl rfl ?_
  refine go_istore_n (pc' := 24) (lo' := [some (.inr (.inr th)), some (.inr (.inr a0)), some (.inl a1), some (.inl (nI 1)), none]) rfl rfl rfl ?_
  refine go_iconst (pc' := 25) (v := (nI 0)) rfl rfl rfl ?_
  refine go_istore (pc' := 27) (lo' := [some (.inr (.inr th)), some (.inr (.inr a0)), some (.inl a1), some (.inl (nI 1)), some (.inl (nI 0))]) rfl rfl rfl ?_
  obtain ⟨q27, hl27, hc27_60⟩ := o_s1E h
  have ex27_60 : ∀ (w3_60 : Int32) (Ix_60 : ai_I) (z4_x60 : Option ai_V), (w3_60, Ix_60) = q27 → ai_Go si_t (9, false, 0, cd_127) (ai_Cl si_t si_ms e) (sp_Q (some (.inl r)) I1 J Rf G) 60 [some (.inr (.inr th)), some (.inr (.inr a0)), some (.inl a1), some (.inl w3_60), z4_x60] [] (0, 0) Ix_60 J Rf G := by
    intro w3_60 Ix_60 z4_x60 hq
    have h : m_127_x27_60 w3_60 Ix_60 = some (r, I1) := hc27_60 (w3_60, Ix_60) hq.symm
    unfold m_127_x27_60 at h
    refine go_iload_n (pc' := 61) rfl rfl rfl ?_
    cases h
    exact go_iret rfl (trivial) ⟨rfl, rfl, rfl, rfl, rfl⟩
  have lo27 : ∀ n s, lp (fun s => m_127_b27 th a0 Rf G s.1 s.2.1 s.2.2) n s = some q27 → (fun s => ai_Go si_t (9, false, 0, cd_127) (ai_Cl si_t si_ms e) (sp_Q (some (.inl r)) I1 J Rf G) 27 [some (.inr (.inr th)), some (.inr (.inr a0)), some (.inl a1), some (.inl s.1), some (.inl s.2.1)] [] (0, 0) s.2.2 J Rf G) s := lp_go (fun s x27 hx hk27 => by
    obtain ⟨v3_27, v4_27, I_27⟩ := s
    have h : m_127_b27 th a0 Rf G v3_27 v4_27 I_27 = some x27 := hx
    clear hx
    show ai_Go si_t (9, false, 0, cd_127) (ai_Cl si_t si_ms e) (sp_Q (some (.inl r)) I1 J Rf G) 27 [some (.inr (.inr th)), some (.inr (.inr a0)), some (.inl a1), some (.inl v3_27), some (.inl v4_27)] [] (0, 0) I_27 J Rf G
    unfold m_127_b27 at h
    refine go_iload (pc' := 29) rfl rfl rfl ?_
    refine go_bipush (pc' := 31) (v := (nI 70)) rfl rfl rfl ?_
    refine go_icmp_ge (pt := 60) (pc' := 34) rfl rfl rfl (fun h31 => ?_) (fun h31 => ?_)
    · replace h := o_t h31 h
      exact ex27_60 _ _ (some (.inl v4_27)) (lp_exitE h hk27)
    · replace h := o_f h31 h
      refine go_iload (pc' := 36) rfl rfl rfl ?_
      refine go_iload_n (pc' := 37) rfl rfl rfl ?_
      refine go_icmp_ge (pt := 60) (pc' := 40) rfl rfl rfl (fun h37 => ?_) (fun h37 => ?_)
      · replace h := o_t h37 h
        exact ex27_60 _ _ (some (.inl v4_27)) (lp_exitE h hk27)
      · replace h := o_f h37 h
        refine go_aload_n (pc' := 41) rfl rfl rfl ?_
        refine go_aload_n (pc' := 42) rfl rfl rfl ?_
        refine go_aload_n (pc' := 43) rfl rfl rfl ?_
        refine go_getR (pc' := 46) rfl rfl hth rfl ?_
        refine go_iload (pc' := 48) rfl rfl rfl ?_
        obtain ⟨g2, h⟩ := o_gE h
        refine go_iaload (pc' := 49) rfl (o_inK g2) (o_inB g2) rfl ?_
        refine go_iload_n (pc' := 50) rfl rfl rfl ?_
        obtain ⟨r_50, I_50, q_50, h⟩ := o_b2E h
        refine go_callV (pc' := 53) (B' := (0, 0)) (st' := [.inl r_50]) rfl rfl (Or.inl (by decide)) rfl rfl hth (md_128 (by omega) hth q_50) rfl rfl rfl ?_
        refine go_istore_n (pc' := 54) (lo' := [some (.inr (.inr th)), some (.inr (.inr a0)), some (.inl a1), some (.inl r_50), some (.inl v4_27)]) rfl rfl rfl ?_
        obtain ⟨x4_54, ex4_54, h⟩ := o_b1E h
        refine go_iincE (pc' := 57) rfl rfl (y := (nI 1)) rfl ex4_54 (lo' := [some (.inr (.inr th)), some (.inr (.inr a0)), some (.inl a1), some (.inl r_50), some (.inl x4_54)]) rfl rfl ?_
        refine go_goto (pc' := 27) rfl rfl ?_
        exact (lp_backE h hk27 :))
  exact lo27 _ ((nI 1), (nI 0), I_21) hl27 
def m_131_x4_60 (a0 : Nat) (I : ai_I) (Rf : ai_R) (G : ai_G) (w2_60 : Int32) : Option (Int32) :=
  if w2_60 = (-1 : Int32) then (o_g (o_kd G a0 8) (o_g (o_in G 13 (Rf a0 5) (nI 0)) (some (I (Rf a0 5) (nI 0).toNatClampNeg)))) else (some w2_60)
def m_131_b4 (th : Nat) (a0 : Nat) (I : ai_I) (Rf : ai_R) (G : ai_G) (v2_4 : Int32) (v3_4 : Int32) : Option ((Int32 × Int32) ⊕ Int32) :=
  o_g (o_kd G a0 8) (if (I a0 2) ≤ v3_4 then (some (Sum.inr v2_4)) else (o_g (o_in G 13 (Rf a0 5) v3_4) (o_b1 (some (I (Rf a0 5) v3_4.toNatClampNeg)) (fun x4_18 => o_g (o_in G 13 (Rf th 0) x4_18) (if 0 ≤ (I (Rf th 0) x4_18.toNatClampNeg) then (o_b1 (some (v3_4 + (nI 1))) (fun x3_54 => some (Sum.inl (v2_4, x3_54)))) else (if v2_4 = (-1 : Int32) then (o_b1 (some (v3_4 + (nI 1))) (fun x3_54 => some (Sum.inl (x4_18, x3_54)))) else (o_g (o_in G 13 (Rf th 1) x4_18) (o_g (o_in G 13 (Rf th 1) v2_4) (if (I (Rf th 1) x4_18.toNatClampNeg) ≤ (I (Rf th 1) v2_4.toNatClampNeg) then (o_b1 (some (v3_4 + (nI 1))) (fun x3_54 => some (Sum.inl (v2_4, x3_54)))) else (o_b1 (some (v3_4 + (nI 1))) (fun x3_54 => some (Sum.inl (x4_18, x3_54)))))))))))))
/-- PricedBases$Ways.widestLeft(LPricedBases$Valuation;)I -/
def m_131 (th : Nat) (a0 : Nat) (I : ai_I) (Rf : ai_R) (G : ai_G) : Option (Int32) :=
  o_s1 (lp (fun s => m_131_b4 th a0 I Rf G s.1 s.2) o_N ((-1 : Int32), (nI 0))) (fun t => m_131_x4_60 a0 I Rf G t)
theorem md_131 {d : Nat} {I : ai_I} {J : ai_J} {Rf : ai_R} {G : ai_G} {th : Nat} {a0 : Nat} {r : Int32} (hd : 1 ≤ d) (hth : G.1 th = 9) (h : m_131 th a0 I Rf G = some r) : ai_Cl si_t si_ms d 131 [.inr (.inr th), .inr (.inr a0)] I J Rf G (some (.inl r)) I J Rf G := by
  obtain ⟨e, rfl⟩ : ∃ e, d = e + 1 := ⟨d - 1, by omega⟩
  unfold m_131 at h
  refine sp_in (lo := [some (.inr (.inr th)), some (.inr (.inr a0)), none, none, none]) (B := (0, 0)) rfl (Nat.le_of_ble_eq_true rfl) rfl rfl ?_
  refine go_iconst (pc' := 1) (v := (-1 : Int32)) rfl rfl rfl ?_
  refine go_istore_n (pc' := 2) (lo' := [some (.inr (.inr th)), some (.inr (.inr a0)), some (.inl (-1 : Int32)), none, none]) rfl rfl rfl ?_
  refine go_iconst (pc' := 3) (v := (nI 0)) rfl rfl rfl ?_
  refine go_istore_n (pc' := 4) (lo' := [some (.inr (.inr th)), some (.inr (.inr a0)), some (.inl (-1 : Int32)), some (.inl (nI 0)), none]) rfl rfl rfl ?_
  obtain ⟨q4, hl4, hc4_60⟩ := o_s1E h
  have ex4_60 : ∀ (w2_60 : Int32) (z3_x60 : Option ai_V) (z4_x60 : Option ai_V), w2_60 = q4 → ai_Go si_t (9, false, 0, cd_131) (ai_Cl si_t si_ms e) (sp_Q (some (.inl r)) I J Rf G) 60 [some (.inr (.inr th)), some (.inr (.inr a0)), some (.inl w2_60), z3_x60, z4_x60] [] (0, 0) I J Rf G := by
    intro w2_60 z3_x60 z4_x60 hq
    have h : m_131_x4_60 a0 I Rf G w2_60 = some r := hc4_60 w2_60 hq.symm
    unfold m_131_x4_60 at h
    refine go_iload_n (pc' := 61) rfl rfl rfl ?_
    refine go_iconst (pc' := 62) (v := (-1 : Int32)) rfl rfl rfl ?_
    refine go_icmp_ne (pt := 74) (pc' := 65) rfl rfl rfl (fun h62 => ?_) (fun h62 => ?_)
    · replace h := o_f h62 h
      refine go_iload_n (pc' := 75) rfl rfl rfl ?_
      cases h
      exact go_iret rfl (trivial) ⟨rfl, rfl, rfl, rfl, rfl⟩
    · replace h := o_t (Decidable.of_not_not h62) h
      refine go_aload_n (pc' := 66) rfl rfl rfl ?_
      obtain ⟨g0, h⟩ := o_gE h
      refine go_getR (pc' := 69) rfl rfl (o_kdE g0) rfl ?_
      refine go_iconst (pc' := 70) (v := (nI 0)) rfl rfl rfl ?_
      obtain ⟨g1, h⟩ := o_gE h
      refine go_iaload (pc' := 71) rfl (o_inK g1) (o_inB g1) rfl ?_
      refine go_goto (pc' := 75) rfl rfl ?_
      cases h
      exact go_iret rfl (trivial) ⟨rfl, rfl, rfl, rfl, rfl⟩
  have lo4 : ∀ n s, lp (fun s => m_131_b4 th a0 I Rf G s.1 s.2) n s = some q4 → (fun s => ∀ (z4_4 : Option ai_V), ai_Go si_t (9, false, 0, cd_131) (ai_Cl si_t si_ms e) (sp_Q (some (.inl r)) I J Rf G) 4 [some (.inr (.inr th)), some (.inr (.inr a0)), some (.inl s.1), some (.inl s.2), z4_4] [] (0, 0) I J Rf G) s := lp_go (fun s x4 hx hk4 => by
    obtain ⟨v2_4, v3_4⟩ := s
    intro z4_4
    have h : m_131_b4 th a0 I Rf G v2_4 v3_4 = some x4 := hx
    clear hx
    show ai_Go si_t (9, false, 0, cd_131) (ai_Cl si_t si_ms e) (sp_Q (some (.inl r)) I J Rf G) 4 [some (.inr (.inr th)), some (.inr (.inr a0)), some (.inl v2_4), some (.inl v3_4), z4_4] [] (0, 0) I J Rf G
    unfold m_131_b4 at h
    refine go_iload_n (pc' := 5) rfl rfl rfl ?_
    refine go_aload_n (pc' := 6) rfl rfl rfl ?_
    obtain ⟨g2, h⟩ := o_gE h
    refine go_getI (pc' := 9) rfl rfl (by decide) (by decide) (o_kdE g2) rfl ?_
    refine go_icmp_ge (pt := 60) (pc' := 12) rfl rfl rfl (fun h9 => ?_) (fun h9 => ?_)
    · replace h := o_t h9 h
      exact ex4_60 _ (some (.inl v3_4)) z4_4 (lp_exitE h hk4)
    · replace h := o_f h9 h
      refine go_aload_n (pc' := 13) rfl rfl rfl ?_
      refine go_getR (pc' := 16) rfl rfl (o_kdE g2) rfl ?_
      refine go_iload_n (pc' := 17) rfl rfl rfl ?_
      obtain ⟨g3, h⟩ := o_gE h
      refine go_iaload (pc' := 18) rfl (o_inK g3) (o_inB g3) rfl ?_
      obtain ⟨x4_18, ex4_18, h⟩ := o_b1E h
      refine go_ndI ex4_18 ?_
      refine go_istore (pc' := 20) (lo' := [some (.inr (.inr th)), some (.inr (.inr a0)), some (.inl v2_4), some (.inl v3_4), some (.inl x4_18)]) rfl rfl rfl ?_
      refine go_aload_n (pc' := 21) rfl rfl rfl ?_
      refine go_getR (pc' := 24) rfl rfl hth rfl ?_
      refine go_iload (pc' := 26) rfl rfl rfl ?_
      obtain ⟨g4, h⟩ := o_gE h
      refine go_iaload (pc' := 27) rfl (o_inK g4) (o_inB g4) rfl ?_
      refine go_if_ge (pt := 54) (pc' := 30) rfl rfl rfl (fun h27 => ?_) (fun h27 => ?_)
      · replace h := o_t h27 h
        obtain ⟨x3_54, ex3_54, h⟩ := o_b1E h
        refine go_iincE (pc' := 57) rfl rfl (y := (nI 1)) rfl ex3_54 (lo' := [some (.inr (.inr th)), some (.inr (.inr a0)), some (.inl v2_4), some (.inl x3_54), some (.inl x4_18)]) rfl rfl ?_
        refine go_goto (pc' := 4) rfl rfl ?_
        exact (lp_backE h hk4 (some (.inl x4_18)) :)
      · replace h := o_f h27 h
        refine go_iload_n (pc' := 31) rfl rfl rfl ?_
        refine go_iconst (pc' := 32) (v := (-1 : Int32)) rfl rfl rfl ?_
        refine go_icmp_eq (pt := 51) (pc' := 35) rfl rfl rfl (fun h32 => ?_) (fun h32 => ?_)
        · replace h := o_t h32 h
          refine go_iload (pc' := 53) rfl rfl rfl ?_
          refine go_istore_n (pc' := 54) (lo' := [some (.inr (.inr th)), some (.inr (.inr a0)), some (.inl x4_18), some (.inl v3_4), some (.inl x4_18)]) rfl rfl rfl ?_
          obtain ⟨x3_54, ex3_54, h⟩ := o_b1E h
          refine go_iincE (pc' := 57) rfl rfl (y := (nI 1)) rfl ex3_54 (lo' := [some (.inr (.inr th)), some (.inr (.inr a0)), some (.inl x4_18), some (.inl x3_54), some (.inl x4_18)]) rfl rfl ?_
          refine go_goto (pc' := 4) rfl rfl ?_
          exact (lp_backE h hk4 (some (.inl x4_18)) :)
        · replace h := o_f h32 h
          refine go_aload_n (pc' := 36) rfl rfl rfl ?_
          refine go_getR (pc' := 39) rfl rfl hth rfl ?_
          refine go_iload (pc' := 41) rfl rfl rfl ?_
          obtain ⟨g5, h⟩ := o_gE h
          refine go_iaload (pc' := 42) rfl (o_inK g5) (o_inB g5) rfl ?_
          refine go_aload_n (pc' := 43) rfl rfl rfl ?_
          refine go_getR (pc' := 46) rfl rfl hth rfl ?_
          refine go_iload_n (pc' := 47) rfl rfl rfl ?_
          obtain ⟨g6, h⟩ := o_gE h
          refine go_iaload (pc' := 48) rfl (o_inK g6) (o_inB g6) rfl ?_
          refine go_icmp_le (pt := 54) (pc' := 51) rfl rfl rfl (fun h48 => ?_) (fun h48 => ?_)
          · replace h := o_t h48 h
            obtain ⟨x3_54, ex3_54, h⟩ := o_b1E h
            refine go_iincE (pc' := 57) rfl rfl (y := (nI 1)) rfl ex3_54 (lo' := [some (.inr (.inr th)), some (.inr (.inr a0)), some (.inl v2_4), some (.inl x3_54), some (.inl x4_18)]) rfl rfl ?_
            refine go_goto (pc' := 4) rfl rfl ?_
            exact (lp_backE h hk4 (some (.inl x4_18)) :)
          · replace h := o_f h48 h
            refine go_iload (pc' := 53) rfl rfl rfl ?_
            refine go_istore_n (pc' := 54) (lo' := [some (.inr (.inr th)), some (.inr (.inr a0)), some (.inl x4_18), some (.inl v3_4), some (.inl x4_18)]) rfl rfl rfl ?_
            obtain ⟨x3_54, ex3_54, h⟩ := o_b1E h
            refine go_iincE (pc' := 57) rfl rfl (y := (nI 1)) rfl ex3_54 (lo' := [some (.inr (.inr th)), some (.inr (.inr a0)), some (.inl x4_18), some (.inl x3_54), some (.inl x4_18)]) rfl rfl ?_
            refine go_goto (pc' := 4) rfl rfl ?_
            exact (lp_backE h hk4 (some (.inl x4_18)) :))
  exact lo4 _ ((-1 : Int32), (nI 0)) hl4 none
def m_130_x29_57 (Ix_57 : ai_I) : Option (ai_I) :=
  some Ix_57
def m_130_x29_141 (Ix_141 : ai_I) : Option (ai_I) :=
  some Ix_141
def m_130_x70_135 (v4_29 : Int32) (Ix_135 : ai_I) : Option ((Int32 × ai_I) ⊕ (ai_I ⊕ ai_I)) :=
  o_b1 (some (v4_29 + (nI 1))) (fun x4_135 => some (Sum.inl (x4_135, Ix_135)))
def m_130_b70 (th : Nat) (a0 : Nat) (a2 : Nat) (Rf : ai_R) (G : ai_G) (r_40 : Int32) (v6_70 : Int32) (I_70 : ai_I) : Option ((Int32 × ai_I) ⊕ ai_I) :=
  if (I_70 a0 2) ≤ v6_70 then (some (Sum.inr I_70)) else (o_g (o_in G 13 (Rf a0 5) v6_70) (o_b1 (some (I_70 (Rf a0 5) v6_70.toNatClampNeg)) (fun x7_86 => o_b1 (m_129 r_40 x7_86) (fun r_92 => if r_92 = 0 then (o_b1 (some (v6_70 + (nI 1))) (fun x6_129 => some (Sum.inl (x6_129, I_70)))) else (o_g (o_in G 13 (Rf th 1) x7_86) (o_g (o_in G 13 (Rf th 1) r_40) (o_g (o_in G 13 a2 x7_86) (o_b1 (some (if (I_70 a2 x7_86.toNatClampNeg) < (I_70 (Rf th 1) r_40.toNatClampNeg) then (I_70 a2 x7_86.toNatClampNeg) else (I_70 (Rf th 1) r_40.toNatClampNeg))) (fun r_122 => o_b1 (some (if (I_70 (Rf th 1) x7_86.toNatClampNeg) < r_122 then r_122 else (I_70 (Rf th 1) x7_86.toNatClampNeg))) (fun r_125 => o_g (o_in G 13 (Rf th 1) x7_86) (o_b1 (some (va_up I_70 (Rf th 1) (va_up (I_70 (Rf th 1)) x7_86.toNatClampNeg r_125))) (fun I_128 => o_b1 (some (v6_70 + (nI 1))) (fun x6_129 => some (Sum.inl (x6_129, I_128)))))))))))))))
def m_130_b29 (th : Nat) (a0 : Nat) (a2 : Nat) (Rf : ai_R) (G : ai_G) (v4_29 : Int32) (I_29 : ai_I) : Option ((Int32 × ai_I) ⊕ (ai_I ⊕ ai_I)) :=
  o_g (o_kd G a0 8) (if (I_29 a0 2) ≤ v4_29 then (some (Sum.inr (Sum.inr I_29))) else (o_b1 (m_131 th a0 I_29 Rf G) (fun r_40 => o_g (o_in G 13 (Rf th 1) r_40) (if (I_29 (Rf th 1) r_40.toNatClampNeg) = (-2147483648 : Int32) then (some (Sum.inr (Sum.inl I_29))) else (o_g (o_in G 13 (Rf th 0) r_40) (o_b1 (some (va_up I_29 (Rf th 0) (va_up (I_29 (Rf th 0)) r_40.toNatClampNeg v4_29))) (fun I_66 => o_s1 (lp (fun s => m_130_b70 th a0 a2 Rf G r_40 s.1 s.2) o_N ((nI 0), I_66)) (fun t => m_130_x70_135 v4_29 t))))))))
/-- PricedBases$Ways.widen(LPricedBases$Valuation;I[I)V -/
def m_130 (th : Nat) (a0 : Nat) (a1 : Int32) (a2 : Nat) (I : ai_I) (Rf : ai_R) (G : ai_G) : Option (ai_I) :=
  o_b1 (m_332 (Rf th 0) (-1 : Int32) I G) (fun I_5 => o_b1 (m_332 (Rf th 1) (-2147483648 : Int32) I_5 G) (fun I_14 => o_g (o_in G 13 a2 a1) (o_g (o_in G 13 (Rf th 1) a1) (o_b1 (some (va_up I_14 (Rf th 1) (va_up (I_14 (Rf th 1)) a1.toNatClampNeg (I_14 a2 a1.toNatClampNeg)))) (fun I_25 => o_s2 (lp (fun s => m_130_b29 th a0 a2 Rf G s.1 s.2) o_N ((nI 0), I_25)) (fun t => m_130_x29_57 t) (fun t => m_130_x29_141 t))))))
theorem md_130 {d : Nat} {I : ai_I} {J : ai_J} {Rf : ai_R} {G : ai_G} {th : Nat} {a0 : Nat} {a1 : Int32} {a2 : Nat} {I1 : ai_I} (hd : 3 ≤ d) (hth : G.1 th = 9) (h : m_130 th a0 a1 a2 I Rf G = some I1) : ai_Cl si_t si_ms d 130 [.inr (.inr th), .inr (.inr a0), .inl a1, .inr (.inr a2)] I J Rf G none I1 J Rf G := by
  obtain ⟨e, rfl⟩ : ∃ e, d = e + 1 := ⟨d - 1, by omega⟩
  unfold m_130 at h
  refine sp_in (lo := [some (.inr (.inr th)), some (.inr (.inr a0)), some (.inl a1), some (.inr (.inr a2)), none, none, none, none]) (B := (0, 0)) rfl (Nat.le_of_ble_eq_true rfl) rfl rfl ?_
  refine go_aload_n (pc' := 1) rfl rfl rfl ?_
  refine go_getR (pc' := 4) rfl rfl hth rfl ?_
  refine go_iconst (pc' := 5) (v := (-1 : Int32)) rfl rfl rfl ?_
  obtain ⟨I_5, q_5, h⟩ := o_b1E h
  refine go_callS (pc' := 8) (B' := (0, 0)) (st' := []) rfl rfl (Or.inl (by decide)) rfl rfl trivial (md_332 (by omega) q_5) rfl rfl rfl ?_
  refine go_aload_n (pc' := 9) rfl rfl rfl ?_
  refine go_getR (pc' := 12) rfl rfl hth rfl ?_
  refine go_ldc (pc' := 14) (v := .inl (-2147483648 : Int32)) rfl rfl rfl ?_
  obtain ⟨I_14, q_14, h⟩ := o_b1E h
  refine go_callS (pc' := 17) (B' := (0, 0)) (st' := []) rfl rfl (Or.inl (by decide)) rfl rfl trivial (md_332 (by omega) q_14) rfl rfl rfl ?_
  refine go_aload_n (pc' := 18) rfl rfl rfl ?_
  refine go_getR (pc' := 21) rfl rfl hth rfl ?_
  refine go_iload_n (pc' := 22) rfl rfl rfl ?_
  refine go_aload_n (pc' := 23) rfl rfl rfl ?_
  refine go_iload_n (pc' := 24) rfl rfl rfl ?_
  obtain ⟨g0, h⟩ := o_gE h
  refine go_iaload (pc' := 25) rfl (o_inK g0) (o_inB g0) rfl ?_
  obtain ⟨g1, h⟩ := o_gE h
  obtain ⟨I_25, eI_25, h⟩ := o_b1E h
  refine go_iastore (pc' := 26) rfl (o_inK g1) (o_inB g1) rfl ?_
  refine go_ndMI eI_25 ?_
  refine go_iconst (pc' := 27) (v := (nI 0)) rfl rfl rfl ?_
  refine go_istore (pc' := 29) (lo' := [some (.inr (.inr th)), some (.inr (.inr a0)), some (.inl a1), some (.inr (.inr a2)), some (.inl (nI 0)), none, none, none]) rfl rfl rfl ?_
  obtain ⟨q29, hl29, hc29_57, hc29_141⟩ := o_s2E h
  have ex29_57 : ∀ (Ix_57 : ai_I) (z4_x57 : Option ai_V) (z5_x57 : Option ai_V) (z6_x57 : Option ai_V) (z7_x57 : Option ai_V), (Sum.inl Ix_57) = q29 → ai_Go si_t (9, false, 9, cd_130) (ai_Cl si_t si_ms e) (sp_Q none I1 J Rf G) 57 [some (.inr (.inr th)), some (.inr (.inr a0)), some (.inl a1), some (.inr (.inr a2)), z4_x57, z5_x57, z6_x57, z7_x57] [] (0, 0) Ix_57 J Rf G := by
    intro Ix_57 z4_x57 z5_x57 z6_x57 z7_x57 hq
    have h : m_130_x29_57 Ix_57 = some I1 := hc29_57 Ix_57 hq.symm
    unfold m_130_x29_57 at h
    cases h
    exact go_vret rfl (rfl) ⟨rfl, rfl, rfl, rfl, rfl⟩
  have ex29_141 : ∀ (Ix_141 : ai_I) (z4_x141 : Option ai_V) (z5_x141 : Option ai_V) (z6_x141 : Option ai_V) (z7_x141 : Option ai_V), (Sum.inr Ix_141) = q29 → ai_Go si_t (9, false, 9, cd_130) (ai_Cl si_t si_ms e) (sp_Q none I1 J Rf G) 141 [some (.inr (.inr th)), some (.inr (.inr a0)), some (.inl a1), some (.inr (.inr a2)), z4_x141, z5_x141, z6_x141, z7_x141] [] (0, 0) Ix_141 J Rf G := by
    intro Ix_141 z4_x141 z5_x141 z6_x141 z7_x141 hq
    have h : m_130_x29_141 Ix_141 = some I1 := hc29_141 Ix_141 hq.symm
    unfold m_130_x29_141 at h
    cases h
    exact go_vret rfl (rfl) ⟨rfl, rfl, rfl, rfl, rfl⟩
  have lo29 : ∀ n s, lp (fun s => m_130_b29 th a0 a2 Rf G s.1 s.2) n s = some q29 → (fun s => ∀ (z5_29 : Option ai_V) (z6_29 : Option ai_V) (z7_29 : Option ai_V), ai_Go si_t (9, false, 9, cd_130) (ai_Cl si_t si_ms e) (sp_Q none I1 J Rf G) 29 [some (.inr (.inr th)), some (.inr (.inr a0)), some (.inl a1), some (.inr (.inr a2)), some (.inl s.1), z5_29, z6_29, z7_29] [] (0, 0) s.2 J Rf G) s := lp_go (fun s x29 hx hk29 => by
    obtain ⟨v4_29, I_29⟩ := s
    intro z5_29 z6_29 z7_29
    have h : m_130_b29 th a0 a2 Rf G v4_29 I_29 = some x29 := hx
    clear hx
    show ai_Go si_t (9, false, 9, cd_130) (ai_Cl si_t si_ms e) (sp_Q none I1 J Rf G) 29 [some (.inr (.inr th)), some (.inr (.inr a0)), some (.inl a1), some (.inr (.inr a2)), some (.inl v4_29), z5_29, z6_29, z7_29] [] (0, 0) I_29 J Rf G
    unfold m_130_b29 at h
    refine go_iload (pc' := 31) rfl rfl rfl ?_
    refine go_aload_n (pc' := 32) rfl rfl rfl ?_
    obtain ⟨g2, h⟩ := o_gE h
    refine go_getI (pc' := 35) rfl rfl (by decide) (by decide) (o_kdE g2) rfl ?_
    refine go_icmp_ge (pt := 141) (pc' := 38) rfl rfl rfl (fun h35 => ?_) (fun h35 => ?_)
    · replace h := o_t h35 h
      exact ex29_141 _ (some (.inl v4_29)) z5_29 z6_29 z7_29 (lp_exitE h hk29)
    · replace h := o_f h35 h
      refine go_aload_n (pc' := 39) rfl rfl rfl ?_
      refine go_aload_n (pc' := 40) rfl rfl rfl ?_
      obtain ⟨r_40, q_40, h⟩ := o_b1E h
      refine go_callV (pc' := 43) (B' := (0, 0)) (st' := [.inl r_40]) rfl rfl (Or.inl (by decide)) rfl rfl hth (md_131 (by omega) hth q_40) rfl rfl rfl ?_
      refine go_istore (pc' := 45) (lo' := [some (.inr (.inr th)), some (.inr (.inr a0)), some (.inl a1), some (.inr (.inr a2)), some (.inl v4_29), some (.inl r_40), z6_29, z7_29]) rfl rfl rfl ?_
      refine go_aload_n (pc' := 46) rfl rfl rfl ?_
      refine go_getR (pc' := 49) rfl rfl hth rfl ?_
      refine go_iload (pc' := 51) rfl rfl rfl ?_
      obtain ⟨g3, h⟩ := o_gE h
      refine go_iaload (pc' := 52) rfl (o_inK g3) (o_inB g3) rfl ?_
      refine go_ldc (pc' := 54) (v := .inl (-2147483648 : Int32)) rfl rfl rfl ?_
      refine go_icmp_ne (pt := 58) (pc' := 57) rfl rfl rfl (fun h54 => ?_) (fun h54 => ?_)
      · replace h := o_f h54 h
        refine go_aload_n (pc' := 59) rfl rfl rfl ?_
        refine go_getR (pc' := 62) rfl rfl hth rfl ?_
        refine go_iload (pc' := 64) rfl rfl rfl ?_
        refine go_iload (pc' := 66) rfl rfl rfl ?_
        obtain ⟨g4, h⟩ := o_gE h
        obtain ⟨I_66, eI_66, h⟩ := o_b1E h
        refine go_iastore (pc' := 67) rfl (o_inK g4) (o_inB g4) rfl ?_
        refine go_ndMI eI_66 ?_
        refine go_iconst (pc' := 68) (v := (nI 0)) rfl rfl rfl ?_
        refine go_istore (pc' := 70) (lo' := [some (.inr (.inr th)), some (.inr (.inr a0)), some (.inl a1), some (.inr (.inr a2)), some (.inl v4_29), some (.inl r_40), some (.inl (nI 0)), z7_29]) rfl rfl rfl ?_
        obtain ⟨q70, hl70, hc70_135⟩ := o_s1E h
        have ex70_135 : ∀ (Ix_135 : ai_I) (z6_x135 : Option ai_V) (z7_x135 : Option ai_V), Ix_135 = q70 → ai_Go si_t (9, false, 9, cd_130) (ai_Cl si_t si_ms e) (sp_Q none I1 J Rf G) 135 [some (.inr (.inr th)), some (.inr (.inr a0)), some (.inl a1), some (.inr (.inr a2)), some (.inl v4_29), some (.inl r_40), z6_x135, z7_x135] [] (0, 0) Ix_135 J Rf G := by
          intro Ix_135 z6_x135 z7_x135 hq
          have h : m_130_x70_135 v4_29 Ix_135 = some x29 := hc70_135 Ix_135 hq.symm
          unfold m_130_x70_135 at h
          obtain ⟨x4_135, ex4_135, h⟩ := o_b1E h
          refine go_iincE (pc' := 138) rfl rfl (y := (nI 1)) rfl ex4_135 (lo' := [some (.inr (.inr th)), some (.inr (.inr a0)), some (.inl a1), some (.inr (.inr a2)), some (.inl x4_135), some (.inl r_40), z6_x135, z7_x135]) rfl rfl ?_
          refine go_goto (pc' := 29) rfl rfl ?_
          exact (lp_backE h hk29 (some (.inl r_40)) z6_x135 z7_x135 :)
        have lo70 : ∀ n s, lp (fun s => m_130_b70 th a0 a2 Rf G r_40 s.1 s.2) n s = some q70 → (fun s => ∀ (z7_70 : Option ai_V), ai_Go si_t (9, false, 9, cd_130) (ai_Cl si_t si_ms e) (sp_Q none I1 J Rf G) 70 [some (.inr (.inr th)), some (.inr (.inr a0)), some (.inl a1), some (.inr (.inr a2)), some (.inl v4_29), some (.inl r_40), some (.inl s.1), z7_70] [] (0, 0) s.2 J Rf G) s := lp_go (fun s x70 hx hk70 => by
          obtain ⟨v6_70, I_70⟩ := s
          intro z7_70
          have h : m_130_b70 th a0 a2 Rf G r_40 v6_70 I_70 = some x70 := hx
          clear hx
          show ai_Go si_t (9, false, 9, cd_130) (ai_Cl si_t si_ms e) (sp_Q none I1 J Rf G) 70 [some (.inr (.inr th)), some (.inr (.inr a0)), some (.inl a1), some (.inr (.inr a2)), some (.inl v4_29), some (.inl r_40), some (.inl v6_70), z7_70] [] (0, 0) I_70 J Rf G
          unfold m_130_b70 at h
          refine go_iload (pc' := 72) rfl rfl rfl ?_
          refine go_aload_n (pc' := 73) rfl rfl rfl ?_
          refine go_getI (pc' := 76) rfl rfl (by decide) (by decide) (o_kdE g2) rfl ?_
          refine go_icmp_ge (pt := 135) (pc' := 79) rfl rfl rfl (fun h76 => ?_) (fun h76 => ?_)
          · replace h := o_t h76 h
            exact ex70_135 _ (some (.inl v6_70)) z7_70 (lp_exitE h hk70)
          · replace h := o_f h76 h
            refine go_aload_n (pc' := 80) rfl rfl rfl ?_
            refine go_getR (pc' := 83) rfl rfl (o_kdE g2) rfl ?_
            refine go_iload (pc' := 85) rfl rfl rfl ?_
            obtain ⟨g5, h⟩ := o_gE h
            refine go_iaload (pc' := 86) rfl (o_inK g5) (o_inB g5) rfl ?_
            obtain ⟨x7_86, ex7_86, h⟩ := o_b1E h
            refine go_ndI ex7_86 ?_
            refine go_istore (pc' := 88) (lo' := [some (.inr (.inr th)), some (.inr (.inr a0)), some (.inl a1), some (.inr (.inr a2)), some (.inl v4_29), some (.inl r_40), some (.inl v6_70), some (.inl x7_86)]) rfl rfl rfl ?_
            refine go_iload (pc' := 90) rfl rfl rfl ?_
            refine go_iload (pc' := 92) rfl rfl rfl ?_
            obtain ⟨r_92, q_92, h⟩ := o_b1E h
            refine go_callS (pc' := 95) (B' := (0, 0)) (st' := [.inl r_92]) rfl rfl (Or.inl (by decide)) rfl rfl trivial (md_129 (by omega) q_92) rfl rfl rfl ?_
            refine go_if_eq (pt := 129) (pc' := 98) rfl rfl rfl (fun h95 => ?_) (fun h95 => ?_)
            · replace h := o_t h95 h
              obtain ⟨x6_129, ex6_129, h⟩ := o_b1E h
              refine go_iincE (pc' := 132) rfl rfl (y := (nI 1)) rfl ex6_129 (lo' := [some (.inr (.inr th)), some (.inr (.inr a0)), some (.inl a1), some (.inr (.inr a2)), some (.inl v4_29), some (.inl r_40), some (.inl x6_129), some (.inl x7_86)]) rfl rfl ?_
              refine go_goto (pc' := 70) rfl rfl ?_
              exact (lp_backE h hk70 (some (.inl x7_86)) :)
            · replace h := o_f h95 h
              refine go_aload_n (pc' := 99) rfl rfl rfl ?_
              refine go_getR (pc' := 102) rfl rfl hth rfl ?_
              refine go_iload (pc' := 104) rfl rfl rfl ?_
              refine go_aload_n (pc' := 105) rfl rfl rfl ?_
              refine go_getR (pc' := 108) rfl rfl hth rfl ?_
              refine go_iload (pc' := 110) rfl rfl rfl ?_
              obtain ⟨g6, h⟩ := o_gE h
              refine go_iaload (pc' := 111) rfl (o_inK g6) (o_inB g6) rfl ?_
              refine go_aload_n (pc' := 112) rfl rfl rfl ?_
              refine go_getR (pc' := 115) rfl rfl hth rfl ?_
              refine go_iload (pc' := 117) rfl rfl rfl ?_
              obtain ⟨g7, h⟩ := o_gE h
              refine go_iaload (pc' := 118) rfl (o_inK g7) (o_inB g7) rfl ?_
              refine go_aload_n (pc' := 119) rfl rfl rfl ?_
              refine go_iload (pc' := 121) rfl rfl rfl ?_
              obtain ⟨g8, h⟩ := o_gE h
              refine go_iaload (pc' := 122) rfl (o_inK g8) (o_inB g8) rfl ?_
              refine go_min (pc' := 125) rfl rfl (Nat.le_of_ble_eq_true rfl) rfl ?_
              obtain ⟨r_122, er_122, h⟩ := o_b1E h
              refine go_ndI er_122 ?_
              refine go_max (pc' := 128) rfl rfl (Nat.le_of_ble_eq_true rfl) rfl ?_
              obtain ⟨r_125, er_125, h⟩ := o_b1E h
              refine go_ndI er_125 ?_
              obtain ⟨g9, h⟩ := o_gE h
              obtain ⟨I_128, eI_128, h⟩ := o_b1E h
              refine go_iastore (pc' := 129) rfl (o_inK g9) (o_inB g9) rfl ?_
              refine go_ndMI eI_128 ?_
              obtain ⟨x6_129, ex6_129, h⟩ := o_b1E h
              refine go_iincE (pc' := 132) rfl rfl (y := (nI 1)) rfl ex6_129 (lo' := [some (.inr (.inr th)), some (.inr (.inr a0)), some (.inl a1), some (.inr (.inr a2)), some (.inl v4_29), some (.inl r_40), some (.inl x6_129), some (.inl x7_86)]) rfl rfl ?_
              refine go_goto (pc' := 70) rfl rfl ?_
              exact (lp_backE h hk70 (some (.inl x7_86)) :))
        exact lo70 _ ((nI 0), I_66) hl70 z7_29
      · replace h := o_t (Decidable.of_not_not h54) h
        exact ex29_57 _ (some (.inl v4_29)) (some (.inl r_40)) z6_29 z7_29 (lp_exitE h hk29))
  exact lo29 _ ((nI 0), I_25) hl29 none none none
def m_132_x4_34 (Ix_34 : ai_I) : Option (Int32 × ai_I) :=
  some ((-2 : Int32), Ix_34)
def m_132_x4_62 (w2_62 : Int32) (Ix_62 : ai_I) : Option (Int32 × ai_I) :=
  some (w2_62, Ix_62)
def m_132_b4 (th : Nat) (a0 : Nat) (Rf : ai_R) (G : ai_G) (v2_4 : Int32) (v3_4 : Int32) (I_4 : ai_I) : Option ((Int32 × Int32 × ai_I) ⊕ (ai_I ⊕ (Int32 × ai_I))) :=
  o_g (o_kd G a0 8) (if (I_4 a0 2) ≤ v3_4 then (some (Sum.inr (Sum.inr (v2_4, I_4)))) else (o_g (o_in G 13 (Rf a0 5) v3_4) (o_b2 (m_127 th a0 (I_4 (Rf a0 5) v3_4.toNatClampNeg) I_4 Rf G) (fun r_20 I_20 => if (I_20 a0 2) ≤ r_20 then (o_g (o_in G 13 (Rf th 2) (r_20 - (nI 1))) (o_g (o_in G 13 (Rf th 0) (I_20 (Rf th 2) (r_20 - (nI 1)).toNatClampNeg)) (o_b1 (some (if v2_4 < (I_20 (Rf th 0) (I_20 (Rf th 2) (r_20 - (nI 1)).toNatClampNeg).toNatClampNeg) then (I_20 (Rf th 0) (I_20 (Rf th 2) (r_20 - (nI 1)).toNatClampNeg).toNatClampNeg) else v2_4)) (fun r_52 => o_b1 (some (v3_4 + (nI 1))) (fun x3_56 => some (Sum.inl (r_52, x3_56, I_20))))))) else (some (Sum.inr (Sum.inl I_20)))))))
/-- PricedBases$Ways.widest(LPricedBases$Valuation;)I -/
def m_132 (th : Nat) (a0 : Nat) (I : ai_I) (Rf : ai_R) (G : ai_G) : Option (Int32 × ai_I) :=
  o_s2 (lp (fun s => m_132_b4 th a0 Rf G s.1 s.2.1 s.2.2) o_N ((nI 0), (nI 0), I)) (fun t => m_132_x4_34 t) (fun t => m_132_x4_62 t.1 t.2)
theorem md_132 {d : Nat} {I : ai_I} {J : ai_J} {Rf : ai_R} {G : ai_G} {th : Nat} {a0 : Nat} {r : Int32} {I1 : ai_I} (hd : 5 ≤ d) (hth : G.1 th = 9) (h : m_132 th a0 I Rf G = some (r, I1)) : ai_Cl si_t si_ms d 132 [.inr (.inr th), .inr (.inr a0)] I J Rf G (some (.inl r)) I1 J Rf G := by
  obtain ⟨e, rfl⟩ : ∃ e, d = e + 1 := ⟨d - 1, by omega⟩
  unfold m_132 at h
  refine sp_in (lo := [some (.inr (.inr th)), some (.inr (.inr a0)), none, none, none]) (B := (0, 0)) rfl (Nat.le_of_ble_eq_true rfl) rfl rfl ?_
  refine go_iconst (pc' := 1) (v := (nI 0)) rfl rfl rfl ?_
  refine go_istore_n (pc' := 2) (lo' := [some (.inr (.inr th)), some (.inr (.inr a0)), some (.inl (nI 0)), none, none]) rfl rfl rfl ?_
  refine go_iconst (pc' := 3) (v := (nI 0)) rfl rfl rfl ?_
  refine go_istore_n (pc' := 4) (lo' := [some (.inr (.inr th)), some (.inr (.inr a0)), some (.inl (nI 0)), some (.inl (nI 0)), none]) rfl rfl rfl ?_
  obtain ⟨q4, hl4, hc4_34, hc4_62⟩ := o_s2E h
  have ex4_34 : ∀ (Ix_34 : ai_I) (z2_x34 : Option ai_V) (z3_x34 : Option ai_V) (z4_x34 : Option ai_V), (Sum.inl Ix_34) = q4 → ai_Go si_t (9, false, 0, cd_132) (ai_Cl si_t si_ms e) (sp_Q (some (.inl r)) I1 J Rf G) 34 [some (.inr (.inr th)), some (.inr (.inr a0)), z2_x34, z3_x34, z4_x34] [] (0, 0) Ix_34 J Rf G := by
    intro Ix_34 z2_x34 z3_x34 z4_x34 hq
    have h : m_132_x4_34 Ix_34 = some (r, I1) := hc4_34 Ix_34 hq.symm
    unfold m_132_x4_34 at h
    refine go_bipush (pc' := 36) (v := (-2 : Int32)) rfl rfl rfl ?_
    cases h
    exact go_iret rfl (trivial) ⟨rfl, rfl, rfl, rfl, rfl⟩
  have ex4_62 : ∀ (w2_62 : Int32) (Ix_62 : ai_I) (z3_x62 : Option ai_V) (z4_x62 : Option ai_V), (Sum.inr (w2_62, Ix_62)) = q4 → ai_Go si_t (9, false, 0, cd_132) (ai_Cl si_t si_ms e) (sp_Q (some (.inl r)) I1 J Rf G) 62 [some (.inr (.inr th)), some (.inr (.inr a0)), some (.inl w2_62), z3_x62, z4_x62] [] (0, 0) Ix_62 J Rf G := by
    intro w2_62 Ix_62 z3_x62 z4_x62 hq
    have h : m_132_x4_62 w2_62 Ix_62 = some (r, I1) := hc4_62 (w2_62, Ix_62) hq.symm
    unfold m_132_x4_62 at h
    refine go_iload_n (pc' := 63) rfl rfl rfl ?_
    cases h
    exact go_iret rfl (trivial) ⟨rfl, rfl, rfl, rfl, rfl⟩
  have lo4 : ∀ n s, lp (fun s => m_132_b4 th a0 Rf G s.1 s.2.1 s.2.2) n s = some q4 → (fun s => ∀ (z4_4 : Option ai_V), ai_Go si_t (9, false, 0, cd_132) (ai_Cl si_t si_ms e) (sp_Q (some (.inl r)) I1 J Rf G) 4 [some (.inr (.inr th)), some (.inr (.inr a0)), some (.inl s.1), some (.inl s.2.1), z4_4] [] (0, 0) s.2.2 J Rf G) s := lp_go (fun s x4 hx hk4 => by
    obtain ⟨v2_4, v3_4, I_4⟩ := s
    intro z4_4
    have h : m_132_b4 th a0 Rf G v2_4 v3_4 I_4 = some x4 := hx
    clear hx
    show ai_Go si_t (9, false, 0, cd_132) (ai_Cl si_t si_ms e) (sp_Q (some (.inl r)) I1 J Rf G) 4 [some (.inr (.inr th)), some (.inr (.inr a0)), some (.inl v2_4), some (.inl v3_4), z4_4] [] (0, 0) I_4 J Rf G
    unfold m_132_b4 at h
    refine go_iload_n (pc' := 5) rfl rfl rfl ?_
    refine go_aload_n (pc' := 6) rfl rfl rfl ?_
    obtain ⟨g0, h⟩ := o_gE h
    refine go_getI (pc' := 9) rfl rfl (by decide) (by decide) (o_kdE g0) rfl ?_
    refine go_icmp_ge (pt := 62) (pc' := 12) rfl rfl rfl (fun h9 => ?_) (fun h9 => ?_)
    · replace h := o_t h9 h
      exact ex4_62 _ _ (some (.inl v3_4)) z4_4 (lp_exitE h hk4)
    · replace h := o_f h9 h
      refine go_aload_n (pc' := 13) rfl rfl rfl ?_
      refine go_aload_n (pc' := 14) rfl rfl rfl ?_
      refine go_aload_n (pc' := 15) rfl rfl rfl ?_
      refine go_getR (pc' := 18) rfl rfl (o_kdE g0) rfl ?_
      refine go_iload_n (pc' := 19) rfl rfl rfl ?_
      obtain ⟨g1, h⟩ := o_gE h
      refine go_iaload (pc' := 20) rfl (o_inK g1) (o_inB g1) rfl ?_
      obtain ⟨r_20, I_20, q_20, h⟩ := o_b2E h
      refine go_callV (pc' := 23) (B' := (0, 0)) (st' := [.inl r_20]) rfl rfl (Or.inl (by decide)) rfl rfl hth (md_127 (by omega) hth q_20) rfl rfl rfl ?_
      refine go_istore (pc' := 25) (lo' := [some (.inr (.inr th)), some (.inr (.inr a0)), some (.inl v2_4), some (.inl v3_4), some (.inl r_20)]) rfl rfl rfl ?_
      refine go_iload (pc' := 27) rfl rfl rfl ?_
      refine go_aload_n (pc' := 28) rfl rfl rfl ?_
      refine go_getI (pc' := 31) rfl rfl (by decide) (by decide) (o_kdE g0) rfl ?_
      refine go_icmp_ge (pt := 37) (pc' := 34) rfl rfl rfl (fun h31 => ?_) (fun h31 => ?_)
      · replace h := o_t h31 h
        refine go_iload_n (pc' := 38) rfl rfl rfl ?_
        refine go_aload_n (pc' := 39) rfl rfl rfl ?_
        refine go_getR (pc' := 42) rfl rfl hth rfl ?_
        refine go_aload_n (pc' := 43) rfl rfl rfl ?_
        refine go_getR (pc' := 46) rfl rfl hth rfl ?_
        refine go_iload (pc' := 48) rfl rfl rfl ?_
        refine go_iconst (pc' := 49) (v := (nI 1)) rfl rfl rfl ?_
        refine go_isub (pc' := 50) rfl rfl ?_
        obtain ⟨g2, h⟩ := o_gE h
        refine go_iaload (pc' := 51) rfl (o_inK g2) (o_inB g2) rfl ?_
        obtain ⟨g3, h⟩ := o_gE h
        refine go_iaload (pc' := 52) rfl (o_inK g3) (o_inB g3) rfl ?_
        refine go_max (pc' := 55) rfl rfl (Nat.le_of_ble_eq_true rfl) rfl ?_
        obtain ⟨r_52, er_52, h⟩ := o_b1E h
        refine go_ndI er_52 ?_
        refine go_istore_n (pc' := 56) (lo' := [some (.inr (.inr th)), some (.inr (.inr a0)), some (.inl r_52), some (.inl v3_4), some (.inl r_20)]) rfl rfl rfl ?_
        obtain ⟨x3_56, ex3_56, h⟩ := o_b1E h
        refine go_iincE (pc' := 59) rfl rfl (y := (nI 1)) rfl ex3_56 (lo' := [some (.inr (.inr th)), some (.inr (.inr a0)), some (.inl r_52), some (.inl x3_56), some (.inl r_20)]) rfl rfl ?_
        refine go_goto (pc' := 4) rfl rfl ?_
        exact (lp_backE h hk4 (some (.inl r_20)) :)
      · replace h := o_f h31 h
        exact ex4_34 _ (some (.inl v2_4)) (some (.inl v3_4)) (some (.inl r_20)) (lp_exitE h hk4))
  exact lo4 _ ((nI 0), (nI 0), I) hl4 none
def m_133_x4_34 (w2_34 : Int32) : Option (Int32) :=
  some w2_34
def m_133_b4 (a0 : Nat) (a1 : Int32) (I : ai_I) (Rf : ai_R) (G : ai_G) (v2_4 : Int32) (v3_4 : Int32) : Option ((Int32 × Int32) ⊕ Int32) :=
  o_g (o_kd G a0 8) (if (I a0 2) ≤ v3_4 then (some (Sum.inr v2_4)) else (o_g (o_in G 13 (Rf a0 5) v3_4) (o_b1 (m_129 a1 (I (Rf a0 5) v3_4.toNatClampNeg)) (fun r_20 => o_b1 (m_182 r_20) (fun r_23 => o_b1 (some (v2_4 + r_23)) (fun x2_27 => o_b1 (some (v3_4 + (nI 1))) (fun x3_28 => some (Sum.inl (x2_27, x3_28)))))))))
/-- PricedBases$Ways.howManyBeside(LPricedBases$Valuation;I)I -/
def m_133 (a0 : Nat) (a1 : Int32) (I : ai_I) (Rf : ai_R) (G : ai_G) : Option (Int32) :=
  o_s1 (lp (fun s => m_133_b4 a0 a1 I Rf G s.1 s.2) o_N ((nI 0), (nI 0))) (fun t => m_133_x4_34 t)
theorem md_133 {d : Nat} {I : ai_I} {J : ai_J} {Rf : ai_R} {G : ai_G} {a0 : Nat} {a1 : Int32} {r : Int32} (hd : 3 ≤ d) (h : m_133 a0 a1 I Rf G = some r) : ai_Cl si_t si_ms d 133 [.inr (.inr a0), .inl a1] I J Rf G (some (.inl r)) I J Rf G := by
  obtain ⟨e, rfl⟩ : ∃ e, d = e + 1 := ⟨d - 1, by omega⟩
  unfold m_133 at h
  refine sp_in (lo := [some (.inr (.inr a0)), some (.inl a1), none, none]) (B := (0, 0)) rfl (Nat.le_of_ble_eq_true rfl) rfl rfl ?_
  refine go_iconst (pc' := 1) (v := (nI 0)) rfl rfl rfl ?_
  refine go_istore_n (pc' := 2) (lo' := [some (.inr (.inr a0)), some (.inl a1), some (.inl (nI 0)), none]) rfl rfl rfl ?_
  refine go_iconst (pc' := 3) (v := (nI 0)) rfl rfl rfl ?_
  refine go_istore_n (pc' := 4) (lo' := [some (.inr (.inr a0)), some (.inl a1), some (.inl (nI 0)), some (.inl (nI 0))]) rfl rfl rfl ?_
  obtain ⟨q4, hl4, hc4_34⟩ := o_s1E h
  have ex4_34 : ∀ (w2_34 : Int32) (z3_x34 : Option ai_V), w2_34 = q4 → ai_Go si_t (9, false, 0, cd_133) (ai_Cl si_t si_ms e) (sp_Q (some (.inl r)) I J Rf G) 34 [some (.inr (.inr a0)), some (.inl a1), some (.inl w2_34), z3_x34] [] (0, 0) I J Rf G := by
    intro w2_34 z3_x34 hq
    have h : m_133_x4_34 w2_34 = some r := hc4_34 w2_34 hq.symm
    unfold m_133_x4_34 at h
    refine go_iload_n (pc' := 35) rfl rfl rfl ?_
    cases h
    exact go_iret rfl (trivial) ⟨rfl, rfl, rfl, rfl, rfl⟩
  have lo4 : ∀ n s, lp (fun s => m_133_b4 a0 a1 I Rf G s.1 s.2) n s = some q4 → (fun s => ai_Go si_t (9, false, 0, cd_133) (ai_Cl si_t si_ms e) (sp_Q (some (.inl r)) I J Rf G) 4 [some (.inr (.inr a0)), some (.inl a1), some (.inl s.1), some (.inl s.2)] [] (0, 0) I J Rf G) s := lp_go (fun s x4 hx hk4 => by
    obtain ⟨v2_4, v3_4⟩ := s
    have h : m_133_b4 a0 a1 I Rf G v2_4 v3_4 = some x4 := hx
    clear hx
    show ai_Go si_t (9, false, 0, cd_133) (ai_Cl si_t si_ms e) (sp_Q (some (.inl r)) I J Rf G) 4 [some (.inr (.inr a0)), some (.inl a1), some (.inl v2_4), some (.inl v3_4)] [] (0, 0) I J Rf G
    unfold m_133_b4 at h
    refine go_iload_n (pc' := 5) rfl rfl rfl ?_
    refine go_aload_n (pc' := 6) rfl rfl rfl ?_
    obtain ⟨g0, h⟩ := o_gE h
    refine go_getI (pc' := 9) rfl rfl (by decide) (by decide) (o_kdE g0) rfl ?_
    refine go_icmp_ge (pt := 34) (pc' := 12) rfl rfl rfl (fun h9 => ?_) (fun h9 => ?_)
    · replace h := o_t h9 h
      exact ex4_34 _ (some (.inl v3_4)) (lp_exitE h hk4)
    · replace h := o_f h9 h
      refine go_iload_n (pc' := 13) rfl rfl rfl ?_
      refine go_iload_n (pc' := 14) rfl rfl rfl ?_
      refine go_aload_n (pc' := 15) rfl rfl rfl ?_
      refine go_getR (pc' := 18) rfl rfl (o_kdE g0) rfl ?_
      refine go_iload_n (pc' := 19) rfl rfl rfl ?_
      obtain ⟨g1, h⟩ := o_gE h
      refine go_iaload (pc' := 20) rfl (o_inK g1) (o_inB g1) rfl ?_
      obtain ⟨r_20, q_20, h⟩ := o_b1E h
      refine go_callS (pc' := 23) (B' := (0, 0)) (st' := [.inl r_20, .inl v2_4]) rfl rfl (Or.inl (by decide)) rfl rfl trivial (md_129 (by omega) q_20) rfl rfl rfl ?_
      obtain ⟨r_23, q_23, h⟩ := o_b1E h
      refine go_callS (pc' := 26) (B' := (0, 0)) (st' := [.inl r_23, .inl v2_4]) rfl rfl (Or.inl (by decide)) rfl rfl trivial (md_182 (by omega) q_23) rfl rfl rfl ?_
      refine go_iadd (pc' := 27) rfl rfl ?_
      obtain ⟨x2_27, ex2_27, h⟩ := o_b1E h
      refine go_ndI ex2_27 ?_
      refine go_istore_n (pc' := 28) (lo' := [some (.inr (.inr a0)), some (.inl a1), some (.inl x2_27), some (.inl v3_4)]) rfl rfl rfl ?_
      obtain ⟨x3_28, ex3_28, h⟩ := o_b1E h
      refine go_iincE (pc' := 31) rfl rfl (y := (nI 1)) rfl ex3_28 (lo' := [some (.inr (.inr a0)), some (.inl a1), some (.inl x2_27), some (.inl x3_28)]) rfl rfl ?_
      refine go_goto (pc' := 4) rfl rfl ?_
      exact (lp_backE h hk4 :))
  exact lo4 _ ((nI 0), (nI 0)) hl4 
def m_134_x4_31 (w1_31 : Int32) : Option (Int32) :=
  some (w1_31 / (nI 2))
def m_134_b4 (a0 : Nat) (I : ai_I) (Rf : ai_R) (G : ai_G) (v1_4 : Int32) (v2_4 : Int32) : Option ((Int32 × Int32) ⊕ Int32) :=
  o_g (o_kd G a0 8) (if (I a0 2) ≤ v2_4 then (some (Sum.inr v1_4)) else (o_g (o_in G 13 (Rf a0 5) v2_4) (o_b1 (m_133 a0 (I (Rf a0 5) v2_4.toNatClampNeg) I Rf G) (fun r_20 => o_b1 (some (v1_4 + r_20)) (fun x1_24 => o_b1 (some (v2_4 + (nI 1))) (fun x2_25 => some (Sum.inl (x1_24, x2_25))))))))
/-- PricedBases$Ways.howManyPairs(LPricedBases$Valuation;)I -/
def m_134 (a0 : Nat) (I : ai_I) (Rf : ai_R) (G : ai_G) : Option (Int32) :=
  o_s1 (lp (fun s => m_134_b4 a0 I Rf G s.1 s.2) o_N ((nI 0), (nI 0))) (fun t => m_134_x4_31 t)
theorem md_134 {d : Nat} {I : ai_I} {J : ai_J} {Rf : ai_R} {G : ai_G} {a0 : Nat} {r : Int32} (hd : 4 ≤ d) (h : m_134 a0 I Rf G = some r) : ai_Cl si_t si_ms d 134 [.inr (.inr a0)] I J Rf G (some (.inl r)) I J Rf G := by
  obtain ⟨e, rfl⟩ : ∃ e, d = e + 1 := ⟨d - 1, by omega⟩
  unfold m_134 at h
  refine sp_in (lo := [some (.inr (.inr a0)), none, none]) (B := (0, 0)) rfl (Nat.le_of_ble_eq_true rfl) rfl rfl ?_
  refine go_iconst (pc' := 1) (v := (nI 0)) rfl rfl rfl ?_
  refine go_istore_n (pc' := 2) (lo' := [some (.inr (.inr a0)), some (.inl (nI 0)), none]) rfl rfl rfl ?_
  refine go_iconst (pc' := 3) (v := (nI 0)) rfl rfl rfl ?_
  refine go_istore_n (pc' := 4) (lo' := [some (.inr (.inr a0)), some (.inl (nI 0)), some (.inl (nI 0))]) rfl rfl rfl ?_
  obtain ⟨q4, hl4, hc4_31⟩ := o_s1E h
  have ex4_31 : ∀ (w1_31 : Int32) (z2_x31 : Option ai_V), w1_31 = q4 → ai_Go si_t (9, false, 0, cd_134) (ai_Cl si_t si_ms e) (sp_Q (some (.inl r)) I J Rf G) 31 [some (.inr (.inr a0)), some (.inl w1_31), z2_x31] [] (0, 0) I J Rf G := by
    intro w1_31 z2_x31 hq
    have h : m_134_x4_31 w1_31 = some r := hc4_31 w1_31 hq.symm
    unfold m_134_x4_31 at h
    refine go_iload_n (pc' := 32) rfl rfl rfl ?_
    refine go_iconst (pc' := 33) (v := (nI 2)) rfl rfl rfl ?_
    refine go_idiv (pc' := 34) rfl (by decide) rfl ?_
    cases h
    exact go_iret rfl (trivial) ⟨rfl, rfl, rfl, rfl, rfl⟩
  have lo4 : ∀ n s, lp (fun s => m_134_b4 a0 I Rf G s.1 s.2) n s = some q4 → (fun s => ai_Go si_t (9, false, 0, cd_134) (ai_Cl si_t si_ms e) (sp_Q (some (.inl r)) I J Rf G) 4 [some (.inr (.inr a0)), some (.inl s.1), some (.inl s.2)] [] (0, 0) I J Rf G) s := lp_go (fun s x4 hx hk4 => by
    obtain ⟨v1_4, v2_4⟩ := s
    have h : m_134_b4 a0 I Rf G v1_4 v2_4 = some x4 := hx
    clear hx
    show ai_Go si_t (9, false, 0, cd_134) (ai_Cl si_t si_ms e) (sp_Q (some (.inl r)) I J Rf G) 4 [some (.inr (.inr a0)), some (.inl v1_4), some (.inl v2_4)] [] (0, 0) I J Rf G
    unfold m_134_b4 at h
    refine go_iload_n (pc' := 5) rfl rfl rfl ?_
    refine go_aload_n (pc' := 6) rfl rfl rfl ?_
    obtain ⟨g0, h⟩ := o_gE h
    refine go_getI (pc' := 9) rfl rfl (by decide) (by decide) (o_kdE g0) rfl ?_
    refine go_icmp_ge (pt := 31) (pc' := 12) rfl rfl rfl (fun h9 => ?_) (fun h9 => ?_)
    · replace h := o_t h9 h
      exact ex4_31 _ (some (.inl v2_4)) (lp_exitE h hk4)
    · replace h := o_f h9 h
      refine go_iload_n (pc' := 13) rfl rfl rfl ?_
      refine go_aload_n (pc' := 14) rfl rfl rfl ?_
      refine go_aload_n (pc' := 15) rfl rfl rfl ?_
      refine go_getR (pc' := 18) rfl rfl (o_kdE g0) rfl ?_
      refine go_iload_n (pc' := 19) rfl rfl rfl ?_
      obtain ⟨g1, h⟩ := o_gE h
      refine go_iaload (pc' := 20) rfl (o_inK g1) (o_inB g1) rfl ?_
      obtain ⟨r_20, q_20, h⟩ := o_b1E h
      refine go_callS (pc' := 23) (B' := (0, 0)) (st' := [.inl r_20, .inl v1_4]) rfl rfl (Or.inl (by decide)) rfl rfl trivial (md_133 (by omega) q_20) rfl rfl rfl ?_
      refine go_iadd (pc' := 24) rfl rfl ?_
      obtain ⟨x1_24, ex1_24, h⟩ := o_b1E h
      refine go_ndI ex1_24 ?_
      refine go_istore_n (pc' := 25) (lo' := [some (.inr (.inr a0)), some (.inl x1_24), some (.inl v2_4)]) rfl rfl rfl ?_
      obtain ⟨x2_25, ex2_25, h⟩ := o_b1E h
      refine go_iincE (pc' := 28) rfl rfl (y := (nI 1)) rfl ex2_25 (lo' := [some (.inr (.inr a0)), some (.inl x1_24), some (.inl x2_25)]) rfl rfl ?_
      refine go_goto (pc' := 4) rfl rfl ?_
      exact (lp_backE h hk4 :))
  exact lo4 _ ((nI 0), (nI 0)) hl4 
def m_135_x6_43 (w1_43 : Int32) : Option (Int32) :=
  some w1_43
def m_135_b6 (a0 : Nat) (I : ai_I) (Rf : ai_R) (G : ai_G) (v1_6 : Int32) (v2_6 : Int32) (v3_6 : Int32) : Option ((Int32 × Int32 × Int32) ⊕ Int32) :=
  o_g (o_kd G a0 8) (if (I a0 2) ≤ v3_6 then (some (Sum.inr v1_6)) else (o_g (o_in G 13 (Rf a0 5) v3_6) (o_b1 (m_133 a0 (I (Rf a0 5) v3_6.toNatClampNeg) I Rf G) (fun r_21 => if r_21 ≤ v2_6 then (o_b1 (some (v3_6 + (nI 1))) (fun x3_37 => some (Sum.inl (v1_6, v2_6, x3_37)))) else (o_b1 (some (v3_6 + (nI 1))) (fun x3_37 => some (Sum.inl (v3_6, r_21, x3_37))))))))
/-- PricedBases$Ways.mostBeside(LPricedBases$Valuation;)I -/
def m_135 (a0 : Nat) (I : ai_I) (Rf : ai_R) (G : ai_G) : Option (Int32) :=
  o_s1 (lp (fun s => m_135_b6 a0 I Rf G s.1 s.2.1 s.2.2) o_N ((nI 0), (-1 : Int32), (nI 0))) (fun t => m_135_x6_43 t)
theorem md_135 {d : Nat} {I : ai_I} {J : ai_J} {Rf : ai_R} {G : ai_G} {a0 : Nat} {r : Int32} (hd : 4 ≤ d) (h : m_135 a0 I Rf G = some r) : ai_Cl si_t si_ms d 135 [.inr (.inr a0)] I J Rf G (some (.inl r)) I J Rf G := by
  obtain ⟨e, rfl⟩ : ∃ e, d = e + 1 := ⟨d - 1, by omega⟩
  unfold m_135 at h
  refine sp_in (lo := [some (.inr (.inr a0)), none, none, none, none]) (B := (0, 0)) rfl (Nat.le_of_ble_eq_true rfl) rfl rfl ?_
  refine go_iconst (pc' := 1) (v := (nI 0)) rfl rfl rfl ?_
  refine go_istore_n (pc' := 2) (lo' := [some (.inr (.inr a0)), some (.inl (nI 0)), none, none, none]) rfl rfl rfl ?_
  refine go_iconst (pc' := 3) (v := (-1 : Int32)) rfl rfl rfl ?_
  refine go_istore_n (pc' := 4) (lo' := [some (.inr (.inr a0)), some (.inl (nI 0)), some (.inl (-1 : Int32)), none, none]) rfl rfl rfl ?_
  refine go_iconst (pc' := 5) (v := (nI 0)) rfl rfl rfl ?_
  refine go_istore_n (pc' := 6) (lo' := [some (.inr (.inr a0)), some (.inl (nI 0)), some (.inl (-1 : Int32)), some (.inl (nI 0)), none]) rfl rfl rfl ?_
  obtain ⟨q6, hl6, hc6_43⟩ := o_s1E h
  have ex6_43 : ∀ (w1_43 : Int32) (z2_x43 : Option ai_V) (z3_x43 : Option ai_V) (z4_x43 : Option ai_V), w1_43 = q6 → ai_Go si_t (9, false, 0, cd_135) (ai_Cl si_t si_ms e) (sp_Q (some (.inl r)) I J Rf G) 43 [some (.inr (.inr a0)), some (.inl w1_43), z2_x43, z3_x43, z4_x43] [] (0, 0) I J Rf G := by
    intro w1_43 z2_x43 z3_x43 z4_x43 hq
    have h : m_135_x6_43 w1_43 = some r := hc6_43 w1_43 hq.symm
    unfold m_135_x6_43 at h
    refine go_iload_n (pc' := 44) rfl rfl rfl ?_
    cases h
    exact go_iret rfl (trivial) ⟨rfl, rfl, rfl, rfl, rfl⟩
  have lo6 : ∀ n s, lp (fun s => m_135_b6 a0 I Rf G s.1 s.2.1 s.2.2) n s = some q6 → (fun s => ∀ (z4_6 : Option ai_V), ai_Go si_t (9, false, 0, cd_135) (ai_Cl si_t si_ms e) (sp_Q (some (.inl r)) I J Rf G) 6 [some (.inr (.inr a0)), some (.inl s.1), some (.inl s.2.1), some (.inl s.2.2), z4_6] [] (0, 0) I J Rf G) s := lp_go (fun s x6 hx hk6 => by
    obtain ⟨v1_6, v2_6, v3_6⟩ := s
    intro z4_6
    have h : m_135_b6 a0 I Rf G v1_6 v2_6 v3_6 = some x6 := hx
    clear hx
    show ai_Go si_t (9, false, 0, cd_135) (ai_Cl si_t si_ms e) (sp_Q (some (.inl r)) I J Rf G) 6 [some (.inr (.inr a0)), some (.inl v1_6), some (.inl v2_6), some (.inl v3_6), z4_6] [] (0, 0) I J Rf G
    unfold m_135_b6 at h
    refine go_iload_n (pc' := 7) rfl rfl rfl ?_
    refine go_aload_n (pc' := 8) rfl rfl rfl ?_
    obtain ⟨g0, h⟩ := o_gE h
    refine go_getI (pc' := 11) rfl rfl (by decide) (by decide) (o_kdE g0) rfl ?_
    refine go_icmp_ge (pt := 43) (pc' := 14) rfl rfl rfl (fun h11 => ?_) (fun h11 => ?_)
    · replace h := o_t h11 h
      exact ex6_43 _ (some (.inl v2_6)) (some (.inl v3_6)) z4_6 (lp_exitE h hk6)
    · replace h := o_f h11 h
      refine go_aload_n (pc' := 15) rfl rfl rfl ?_
      refine go_aload_n (pc' := 16) rfl rfl rfl ?_
      refine go_getR (pc' := 19) rfl rfl (o_kdE g0) rfl ?_
      refine go_iload_n (pc' := 20) rfl rfl rfl ?_
      obtain ⟨g1, h⟩ := o_gE h
      refine go_iaload (pc' := 21) rfl (o_inK g1) (o_inB g1) rfl ?_
      obtain ⟨r_21, q_21, h⟩ := o_b1E h
      refine go_callS (pc' := 24) (B' := (0, 0)) (st' := [.inl r_21]) rfl rfl (Or.inl (by decide)) rfl rfl trivial (md_133 (by omega) q_21) rfl rfl rfl ?_
      refine go_istore (pc' := 26) (lo' := [some (.inr (.inr a0)), some (.inl v1_6), some (.inl v2_6), some (.inl v3_6), some (.inl r_21)]) rfl rfl rfl ?_
      refine go_iload (pc' := 28) rfl rfl rfl ?_
      refine go_iload_n (pc' := 29) rfl rfl rfl ?_
      refine go_icmp_le (pt := 37) (pc' := 32) rfl rfl rfl (fun h29 => ?_) (fun h29 => ?_)
      · replace h := o_t h29 h
        obtain ⟨x3_37, ex3_37, h⟩ := o_b1E h
        refine go_iincE (pc' := 40) rfl rfl (y := (nI 1)) rfl ex3_37 (lo' := [some (.inr (.inr a0)), some (.inl v1_6), some (.inl v2_6), some (.inl x3_37), some (.inl r_21)]) rfl rfl ?_
        refine go_goto (pc' := 6) rfl rfl ?_
        exact (lp_backE h hk6 (some (.inl r_21)) :)
      · replace h := o_f h29 h
        refine go_iload (pc' := 34) rfl rfl rfl ?_
        refine go_istore_n (pc' := 35) (lo' := [some (.inr (.inr a0)), some (.inl v1_6), some (.inl r_21), some (.inl v3_6), some (.inl r_21)]) rfl rfl rfl ?_
        refine go_iload_n (pc' := 36) rfl rfl rfl ?_
        refine go_istore_n (pc' := 37) (lo' := [some (.inr (.inr a0)), some (.inl v3_6), some (.inl r_21), some (.inl v3_6), some (.inl r_21)]) rfl rfl rfl ?_
        obtain ⟨x3_37, ex3_37, h⟩ := o_b1E h
        refine go_iincE (pc' := 40) rfl rfl (y := (nI 1)) rfl ex3_37 (lo' := [some (.inr (.inr a0)), some (.inl v3_6), some (.inl r_21), some (.inl x3_37), some (.inl r_21)]) rfl rfl ?_
        refine go_goto (pc' := 6) rfl rfl ?_
        exact (lp_backE h hk6 (some (.inl r_21)) :))
  exact lo6 _ ((nI 0), (-1 : Int32), (nI 0)) hl6 none
/-- PricedBases.<init>()V -/
def m_136 (th : Nat) (I : ai_I) (J : ai_J) (Rf : ai_R) (G : ai_G) : Option (ai_I × ai_J × ai_R × ai_G) :=
  o_g (o_nn th) (o_g (o_lt9 G) (o_b1 (some (va_up I (G.2.2 + 1) (fun _ => 0))) (fun I_5 => o_b1 (some (va_up J (G.2.2 + 1) (fun _ => 0))) (fun J_5 => o_b1 (some (va_up Rf (G.2.2 + 1) (fun _ => 0))) (fun R_5 => o_b1 (some (va_up G.1 (G.2.2 + 1) 6, G.2.1, G.2.2 + 1)) (fun G_5 => o_b1 (some (G.2.2 + 1)) (fun n_5 => o_b4 (m_95 n_5 I_5 J_5 R_5 G_5) (fun I_9 J_9 R_9 G_9 => o_g (o_kd G_9 th 10) (o_b1 (some (va_up R_9 th (va_up (R_9 th) 0 n_5))) (fun R_12 => o_g (o_lt9 G_9) (o_b1 (some (va_up I_9 (G_9.2.2 + 1) (fun _ => 0))) (fun I_16 => o_b1 (some (va_up J_9 (G_9.2.2 + 1) (fun _ => 0))) (fun J_16 => o_b1 (some (va_up R_12 (G_9.2.2 + 1) (fun _ => 0))) (fun R_16 => o_b1 (some (va_up G_9.1 (G_9.2.2 + 1) 6, G_9.2.1, G_9.2.2 + 1)) (fun G_16 => o_b1 (some (G_9.2.2 + 1)) (fun n_16 => o_b4 (m_95 n_16 I_16 J_16 R_16 G_16) (fun I_20 J_20 R_20 G_20 => o_g (o_kd G_20 th 10) (o_b1 (some (va_up R_20 th (va_up (R_20 th) 1 n_16))) (fun R_23 => o_b1 (some (va_up I_20 th (va_up (I_20 th) 2 (nI 0)))) (fun I_28 => o_g (o_lt9 G_20) (o_b1 (some (va_up I_28 (G_20.2.2 + 1) (fun _ => 0))) (fun I_35 => o_b1 (some (va_up G_20.1 (G_20.2.2 + 1) 13, va_up G_20.2.1 (G_20.2.2 + 1) 240, G_20.2.2 + 1)) (fun G_35 => o_b1 (some (G_20.2.2 + 1)) (fun n_35 => o_g (o_kd G_35 th 10) (o_b1 (some (va_up R_23 th (va_up (R_23 th) 3 n_35))) (fun R_37 => o_b1 (some (va_up I_35 th (va_up (I_35 th) 4 (nI 0)))) (fun I_42 => o_g (o_lt9 G_35) (o_b1 (some (va_up I_42 (G_35.2.2 + 1) (fun _ => 0))) (fun I_46 => o_b1 (some (va_up J_20 (G_35.2.2 + 1) (fun _ => 0))) (fun J_46 => o_b1 (some (va_up R_37 (G_35.2.2 + 1) (fun _ => 0))) (fun R_46 => o_b1 (some (va_up G_35.1 (G_35.2.2 + 1) 0, G_35.2.1, G_35.2.2 + 1)) (fun G_46 => o_b1 (some (G_35.2.2 + 1)) (fun n_46 => o_b3 (m_0 n_46 I_46 R_46 G_46) (fun I_50 R_50 G_50 => o_g (o_kd G_50 th 10) (o_b1 (some (va_up R_50 th (va_up (R_50 th) 5 n_46))) (fun R_53 => o_g (o_lt9 G_50) (o_b1 (some (va_up I_50 (G_50.2.2 + 1) (fun _ => 0))) (fun I_57 => o_b1 (some (va_up J_46 (G_50.2.2 + 1) (fun _ => 0))) (fun J_57 => o_b1 (some (va_up R_53 (G_50.2.2 + 1) (fun _ => 0))) (fun R_57 => o_b1 (some (va_up G_50.1 (G_50.2.2 + 1) 3, G_50.2.1, G_50.2.2 + 1)) (fun G_57 => o_b1 (some (G_50.2.2 + 1)) (fun n_57 => o_b4 (m_37 n_57 I_57 J_57 R_57 G_57) (fun I_61 J_61 R_61 G_61 => o_g (o_kd G_61 th 10) (o_b1 (some (va_up R_61 th (va_up (R_61 th) 6 n_57))) (fun R_64 => o_g (o_lt9 G_61) (o_b1 (some (va_up I_61 (G_61.2.2 + 1) (fun _ => 0))) (fun I_68 => o_b1 (some (va_up J_61 (G_61.2.2 + 1) (fun _ => 0))) (fun J_68 => o_b1 (some (va_up R_64 (G_61.2.2 + 1) (fun _ => 0))) (fun R_68 => o_b1 (some (va_up G_61.1 (G_61.2.2 + 1) 2, G_61.2.1, G_61.2.2 + 1)) (fun G_68 => o_b1 (some (G_61.2.2 + 1)) (fun n_68 => o_b3 (m_31 n_68 I_68 R_68 G_68) (fun I_72 R_72 G_72 => o_g (o_kd G_72 th 10) (o_b1 (some (va_up R_72 th (va_up (R_72 th) 7 n_68))) (fun R_75 => o_g (o_lt9 G_72) (o_b1 (some (va_up I_72 (G_72.2.2 + 1) (fun _ => 0))) (fun I_79 => o_b1 (some (va_up J_68 (G_72.2.2 + 1) (fun _ => 0))) (fun J_79 => o_b1 (some (va_up R_75 (G_72.2.2 + 1) (fun _ => 0))) (fun R_79 => o_b1 (some (va_up G_72.1 (G_72.2.2 + 1) 7, G_72.2.1, G_72.2.2 + 1)) (fun G_79 => o_b1 (some (G_72.2.2 + 1)) (fun n_79 => o_b3 (m_101 n_79 I_79 R_79 G_79) (fun I_83 R_83 G_83 => o_g (o_kd G_83 th 10) (o_b1 (some (va_up R_83 th (va_up (R_83 th) 8 n_79))) (fun R_86 => o_g (o_lt9 G_83) (o_b1 (some (va_up I_83 (G_83.2.2 + 1) (fun _ => 0))) (fun I_90 => o_b1 (some (va_up J_79 (G_83.2.2 + 1) (fun _ => 0))) (fun J_90 => o_b1 (some (va_up R_86 (G_83.2.2 + 1) (fun _ => 0))) (fun R_90 => o_b1 (some (va_up G_83.1 (G_83.2.2 + 1) 5, G_83.2.1, G_83.2.2 + 1)) (fun G_90 => o_b1 (some (G_83.2.2 + 1)) (fun n_90 => o_b3 (m_87 n_90 I_90 R_90 G_90) (fun I_94 R_94 G_94 => o_g (o_kd G_94 th 10) (o_b1 (some (va_up R_94 th (va_up (R_94 th) 9 n_90))) (fun R_97 => o_g (o_lt9 G_94) (o_b1 (some (va_up I_94 (G_94.2.2 + 1) (fun _ => 0))) (fun I_101 => o_b1 (some (va_up J_90 (G_94.2.2 + 1) (fun _ => 0))) (fun J_101 => o_b1 (some (va_up R_97 (G_94.2.2 + 1) (fun _ => 0))) (fun R_101 => o_b1 (some (va_up G_94.1 (G_94.2.2 + 1) 1, G_94.2.1, G_94.2.2 + 1)) (fun G_101 => o_b1 (some (G_94.2.2 + 1)) (fun n_101 => o_b3 (m_22 n_101 I_101 R_101 G_101) (fun I_105 R_105 G_105 => o_g (o_kd G_105 th 10) (o_b1 (some (va_up R_105 th (va_up (R_105 th) 10 n_101))) (fun R_108 => o_g (o_lt9 G_105) (o_b1 (some (va_up I_105 (G_105.2.2 + 1) (fun _ => 0))) (fun I_112 => o_b1 (some (va_up J_101 (G_105.2.2 + 1) (fun _ => 0))) (fun J_112 => o_b1 (some (va_up R_108 (G_105.2.2 + 1) (fun _ => 0))) (fun R_112 => o_b1 (some (va_up G_105.1 (G_105.2.2 + 1) 9, G_105.2.1, G_105.2.2 + 1)) (fun G_112 => o_b1 (some (G_105.2.2 + 1)) (fun n_112 => o_b3 (m_126 n_112 I_112 R_112 G_112) (fun I_116 R_116 G_116 => o_g (o_kd G_116 th 10) (o_b1 (some (va_up R_116 th (va_up (R_116 th) 11 n_112))) (fun R_119 => o_g (o_lt9 G_116) (o_b1 (some (va_up I_116 (G_116.2.2 + 1) (fun _ => 0))) (fun I_123 => o_b1 (some (va_up J_112 (G_116.2.2 + 1) (fun _ => 0))) (fun J_123 => o_b1 (some (va_up R_119 (G_116.2.2 + 1) (fun _ => 0))) (fun R_123 => o_b1 (some (va_up G_116.1 (G_116.2.2 + 1) 4, G_116.2.1, G_116.2.2 + 1)) (fun G_123 => o_b1 (some (G_116.2.2 + 1)) (fun n_123 => o_b4 (m_58 n_123 I_123 J_123 R_123 G_123) (fun I_127 J_127 R_127 G_127 => o_g (o_kd G_127 th 10) (o_b1 (some (va_up R_127 th (va_up (R_127 th) 12 n_123))) (fun R_130 => o_g (o_lt9 G_127) (o_b1 (some (va_up I_127 (G_127.2.2 + 1) (fun _ => 0))) (fun I_137 => o_b1 (some (va_up G_127.1 (G_127.2.2 + 1) 13, va_up G_127.2.1 (G_127.2.2 + 1) 256, G_127.2.2 + 1)) (fun G_137 => o_b1 (some (G_127.2.2 + 1)) (fun n_137 => o_g (o_kd G_137 th 10) (o_b1 (some (va_up R_130 th (va_up (R_130 th) 13 n_137))) (fun R_139 => o_g (o_lt9 G_137) (o_b1 (some (va_up I_137 (G_137.2.2 + 1) (fun _ => 0))) (fun I_145 => o_b1 (some (va_up G_137.1 (G_137.2.2 + 1) 13, va_up G_137.2.1 (G_137.2.2 + 1) 8, G_137.2.2 + 1)) (fun G_145 => o_b1 (some (G_137.2.2 + 1)) (fun n_145 => o_g (o_kd G_145 th 10) (o_b1 (some (va_up R_139 th (va_up (R_139 th) 14 n_145))) (fun R_147 => some (I_145, J_127, R_147, G_145))))))))))))))))))))))))))))))))))))))))))))))))))))))))))))))))))))))))))))))))))))))))))))))))))))))))))))))))
theorem md_136 {d : Nat} {I : ai_I} {J : ai_J} {Rf : ai_R} {G : ai_G} {th : Nat} {I1 : ai_I} {J1 : ai_J} {R1 : ai_R} {G1 : ai_G} (hd : 5 ≤ d) (hth : G.1 th = 10) (h : m_136 th I J Rf G = some (I1, J1, R1, G1)) : ai_Cl si_t si_ms d 136 [.inr (.inr th)] I J Rf G none I1 J1 R1 G1 := by
  obtain ⟨e, rfl⟩ : ∃ e, d = e + 1 := ⟨d - 1, by omega⟩
  unfold m_136 at h
  refine sp_in (lo := [some (.inr (.inr th))]) (B := (73, 8836)) rfl (Nat.le_of_ble_eq_true rfl) rfl rfl ?_
  refine go_aload_n (pc' := 1) rfl rfl rfl ?_
  obtain ⟨g0, h⟩ := o_gE h
  refine go_obj (pc' := 4) rfl rfl (o_nnE g0) (Nat.le_of_ble_eq_true rfl) rfl ?_
  refine go_aload_n (pc' := 5) rfl rfl rfl ?_
  obtain ⟨g1, h⟩ := o_gE h
  refine go_new (pc' := 8) (q := 6) (nf := 5) rfl rfl rfl (by decide) (by decide) (o_lt9E g1) rfl ?_
  obtain ⟨I_5, eI_5, h⟩ := o_b1E h
  obtain ⟨J_5, eJ_5, h⟩ := o_b1E h
  obtain ⟨R_5, eR_5, h⟩ := o_b1E h
  obtain ⟨G_5, eG_5, h⟩ := o_b1E h
  obtain ⟨n_5, en_5, h⟩ := o_b1E h
  refine go_ndMI eI_5 ?_
  refine go_ndMJ eJ_5 ?_
  refine go_ndMR eR_5 ?_
  refine go_ndMG eG_5 ?_
  refine go_ndR en_5 ?_
  have gk_5 : G_5.1 n_5 = 6 := o_newK en_5 eG_5
  refine go_ndB (B' := (72, 8831)) rfl ?_
  refine go_dupR (pc' := 9) rfl rfl ?_
  obtain ⟨I_9, J_9, R_9, G_9, q_9, h⟩ := o_b4E h
  refine go_callI (pc' := 12) (B' := (53, 6387)) (st' := [.inr (.inr n_5), .inr (.inr th)]) rfl rfl (Or.inl (by decide)) rfl rfl gk_5 (md_95 (by omega) gk_5 q_9) rfl rfl rfl ?_
  obtain ⟨g2, h⟩ := o_gE h
  obtain ⟨R_12, eR_12, h⟩ := o_b1E h
  refine go_putR (pc' := 15) rfl rfl (fun _ => ⟨rfl, rfl⟩) (o_kdE g2) rfl ?_
  refine go_ndMR eR_12 ?_
  refine go_aload_n (pc' := 16) rfl rfl rfl ?_
  obtain ⟨g3, h⟩ := o_gE h
  refine go_new (pc' := 19) (q := 6) (nf := 5) rfl rfl rfl (by decide) (by decide) (o_lt9E g3) rfl ?_
  obtain ⟨I_16, eI_16, h⟩ := o_b1E h
  obtain ⟨J_16, eJ_16, h⟩ := o_b1E h
  obtain ⟨R_16, eR_16, h⟩ := o_b1E h
  obtain ⟨G_16, eG_16, h⟩ := o_b1E h
  obtain ⟨n_16, en_16, h⟩ := o_b1E h
  refine go_ndMI eI_16 ?_
  refine go_ndMJ eJ_16 ?_
  refine go_ndMR eR_16 ?_
  refine go_ndMG eG_16 ?_
  refine go_ndR en_16 ?_
  have gk_16 : G_16.1 n_16 = 6 := o_newK en_16 eG_16
  refine go_ndB (B' := (52, 6382)) rfl ?_
  refine go_dupR (pc' := 20) rfl rfl ?_
  obtain ⟨I_20, J_20, R_20, G_20, q_20, h⟩ := o_b4E h
  refine go_callI (pc' := 23) (B' := (33, 3938)) (st' := [.inr (.inr n_16), .inr (.inr th)]) rfl rfl (Or.inl (by decide)) rfl rfl gk_16 (md_95 (by omega) gk_16 q_20) rfl rfl rfl ?_
  obtain ⟨g4, h⟩ := o_gE h
  obtain ⟨R_23, eR_23, h⟩ := o_b1E h
  refine go_putR (pc' := 26) rfl rfl (fun _ => ⟨rfl, rfl⟩) (o_kdE g4) rfl ?_
  refine go_ndMR eR_23 ?_
  refine go_aload_n (pc' := 27) rfl rfl rfl ?_
  refine go_iconst (pc' := 28) (v := (nI 0)) rfl rfl rfl ?_
  obtain ⟨I_28, eI_28, h⟩ := o_b1E h
  refine go_putZ (pc' := 31) rfl rfl (fun h => by cases h) (o_kdE g4) rfl rfl ?_
  refine go_ndMI eI_28 ?_
  refine go_aload_n (pc' := 32) rfl rfl rfl ?_
  refine go_sipush (pc' := 35) (v := (nI 240)) rfl rfl rfl ?_
  obtain ⟨g5, h⟩ := o_gE h
  refine go_newI (pc' := 37) (N := 240) rfl (by decide) (by decide) (by decide) (by decide) (by decide) (o_lt9E g5) rfl ?_
  obtain ⟨I_35, eI_35, h⟩ := o_b1E h
  obtain ⟨G_35, eG_35, h⟩ := o_b1E h
  obtain ⟨n_35, en_35, h⟩ := o_b1E h
  refine go_ndMI eI_35 ?_
  refine go_ndMG eG_35 ?_
  refine go_ndR en_35 ?_
  refine go_ndB (B' := (32, 3698)) rfl ?_
  obtain ⟨g6, h⟩ := o_gE h
  obtain ⟨R_37, eR_37, h⟩ := o_b1E h
  refine go_putR (pc' := 40) rfl rfl (fun _ => ⟨rfl, rfl⟩) (o_kdE g6) rfl ?_
  refine go_ndMR eR_37 ?_
  refine go_aload_n (pc' := 41) rfl rfl rfl ?_
  refine go_iconst (pc' := 42) (v := (nI 0)) rfl rfl rfl ?_
  obtain ⟨I_42, eI_42, h⟩ := o_b1E h
  refine go_putI (pc' := 45) rfl rfl (fun h => by cases h) (o_kdE g6) rfl ?_
  refine go_ndMI eI_42 ?_
  refine go_aload_n (pc' := 46) rfl rfl rfl ?_
  obtain ⟨g7, h⟩ := o_gE h
  refine go_new (pc' := 49) (q := 0) (nf := 11) rfl rfl rfl (by decide) (by decide) (o_lt9E g7) rfl ?_
  obtain ⟨I_46, eI_46, h⟩ := o_b1E h
  obtain ⟨J_46, eJ_46, h⟩ := o_b1E h
  obtain ⟨R_46, eR_46, h⟩ := o_b1E h
  obtain ⟨G_46, eG_46, h⟩ := o_b1E h
  obtain ⟨n_46, en_46, h⟩ := o_b1E h
  refine go_ndMI eI_46 ?_
  refine go_ndMJ eJ_46 ?_
  refine go_ndMR eR_46 ?_
  refine go_ndMG eG_46 ?_
  refine go_ndR en_46 ?_
  have gk_46 : G_46.1 n_46 = 0 := o_newK en_46 eG_46
  refine go_ndB (B' := (31, 3687)) rfl ?_
  refine go_dupR (pc' := 50) rfl rfl ?_
  obtain ⟨I_50, R_50, G_50, q_50, h⟩ := o_b3E h
  refine go_callI (pc' := 53) (B' := (26, 2530)) (st' := [.inr (.inr n_46), .inr (.inr th)]) rfl rfl (Or.inl (by decide)) rfl rfl gk_46 (md_0 (by omega) gk_46 q_50) rfl rfl rfl ?_
  obtain ⟨g8, h⟩ := o_gE h
  obtain ⟨R_53, eR_53, h⟩ := o_b1E h
  refine go_putR (pc' := 56) rfl rfl (fun _ => ⟨rfl, rfl⟩) (o_kdE g8) rfl ?_
  refine go_ndMR eR_53 ?_
  refine go_aload_n (pc' := 57) rfl rfl rfl ?_
  obtain ⟨g9, h⟩ := o_gE h
  refine go_new (pc' := 60) (q := 3) (nf := 2) rfl rfl rfl (by decide) (by decide) (o_lt9E g9) rfl ?_
  obtain ⟨I_57, eI_57, h⟩ := o_b1E h
  obtain ⟨J_57, eJ_57, h⟩ := o_b1E h
  obtain ⟨R_57, eR_57, h⟩ := o_b1E h
  obtain ⟨G_57, eG_57, h⟩ := o_b1E h
  obtain ⟨n_57, en_57, h⟩ := o_b1E h
  refine go_ndMI eI_57 ?_
  refine go_ndMJ eJ_57 ?_
  refine go_ndMR eR_57 ?_
  refine go_ndMG eG_57 ?_
  refine go_ndR en_57 ?_
  have gk_57 : G_57.1 n_57 = 3 := o_newK en_57 eG_57
  refine go_ndB (B' := (25, 2528)) rfl ?_
  refine go_dupR (pc' := 61) rfl rfl ?_
  obtain ⟨I_61, J_61, R_61, G_61, q_61, h⟩ := o_b4E h
  refine go_callI (pc' := 64) (B' := (20, 1684)) (st' := [.inr (.inr n_57), .inr (.inr th)]) rfl rfl (Or.inl (by decide)) rfl rfl gk_57 (md_37 (by omega) gk_57 q_61) rfl rfl rfl ?_
  obtain ⟨g10, h⟩ := o_gE h
  obtain ⟨R_64, eR_64, h⟩ := o_b1E h
  refine go_putR (pc' := 67) rfl rfl (fun _ => ⟨rfl, rfl⟩) (o_kdE g10) rfl ?_
  refine go_ndMR eR_64 ?_
  refine go_aload_n (pc' := 68) rfl rfl rfl ?_
  obtain ⟨g11, h⟩ := o_gE h
  refine go_new (pc' := 71) (q := 2) (nf := 4) rfl rfl rfl (by decide) (by decide) (o_lt9E g11) rfl ?_
  obtain ⟨I_68, eI_68, h⟩ := o_b1E h
  obtain ⟨J_68, eJ_68, h⟩ := o_b1E h
  obtain ⟨R_68, eR_68, h⟩ := o_b1E h
  obtain ⟨G_68, eG_68, h⟩ := o_b1E h
  obtain ⟨n_68, en_68, h⟩ := o_b1E h
  refine go_ndMI eI_68 ?_
  refine go_ndMJ eJ_68 ?_
  refine go_ndMR eR_68 ?_
  refine go_ndMG eG_68 ?_
  refine go_ndR en_68 ?_
  have gk_68 : G_68.1 n_68 = 2 := o_newK en_68 eG_68
  refine go_ndB (B' := (19, 1680)) rfl ?_
  refine go_dupR (pc' := 72) rfl rfl ?_
  obtain ⟨I_72, R_72, G_72, q_72, h⟩ := o_b3E h
  refine go_callI (pc' := 75) (B' := (18, 1424)) (st' := [.inr (.inr n_68), .inr (.inr th)]) rfl rfl (Or.inl (by decide)) rfl rfl gk_68 (md_31 (by omega) gk_68 q_72) rfl rfl rfl ?_
  obtain ⟨g12, h⟩ := o_gE h
  obtain ⟨R_75, eR_75, h⟩ := o_b1E h
  refine go_putR (pc' := 78) rfl rfl (fun _ => ⟨rfl, rfl⟩) (o_kdE g12) rfl ?_
  refine go_ndMR eR_75 ?_
  refine go_aload_n (pc' := 79) rfl rfl rfl ?_
  obtain ⟨g13, h⟩ := o_gE h
  refine go_new (pc' := 82) (q := 7) (nf := 4) rfl rfl rfl (by decide) (by decide) (o_lt9E g13) rfl ?_
  obtain ⟨I_79, eI_79, h⟩ := o_b1E h
  obtain ⟨J_79, eJ_79, h⟩ := o_b1E h
  obtain ⟨R_79, eR_79, h⟩ := o_b1E h
  obtain ⟨G_79, eG_79, h⟩ := o_b1E h
  obtain ⟨n_79, en_79, h⟩ := o_b1E h
  refine go_ndMI eI_79 ?_
  refine go_ndMJ eJ_79 ?_
  refine go_ndMR eR_79 ?_
  refine go_ndMG eG_79 ?_
  refine go_ndR en_79 ?_
  have gk_79 : G_79.1 n_79 = 7 := o_newK en_79 eG_79
  refine go_ndB (B' := (17, 1420)) rfl ?_
  refine go_dupR (pc' := 83) rfl rfl ?_
  obtain ⟨I_83, R_83, G_83, q_83, h⟩ := o_b3E h
  refine go_callI (pc' := 86) (B' := (16, 1164)) (st' := [.inr (.inr n_79), .inr (.inr th)]) rfl rfl (Or.inl (by decide)) rfl rfl gk_79 (md_101 (by omega) gk_79 q_83) rfl rfl rfl ?_
  obtain ⟨g14, h⟩ := o_gE h
  obtain ⟨R_86, eR_86, h⟩ := o_b1E h
  refine go_putR (pc' := 89) rfl rfl (fun _ => ⟨rfl, rfl⟩) (o_kdE g14) rfl ?_
  refine go_ndMR eR_86 ?_
  refine go_aload_n (pc' := 90) rfl rfl rfl ?_
  obtain ⟨g15, h⟩ := o_gE h
  refine go_new (pc' := 93) (q := 5) (nf := 2) rfl rfl rfl (by decide) (by decide) (o_lt9E g15) rfl ?_
  obtain ⟨I_90, eI_90, h⟩ := o_b1E h
  obtain ⟨J_90, eJ_90, h⟩ := o_b1E h
  obtain ⟨R_90, eR_90, h⟩ := o_b1E h
  obtain ⟨G_90, eG_90, h⟩ := o_b1E h
  obtain ⟨n_90, en_90, h⟩ := o_b1E h
  refine go_ndMI eI_90 ?_
  refine go_ndMJ eJ_90 ?_
  refine go_ndMR eR_90 ?_
  refine go_ndMG eG_90 ?_
  refine go_ndR en_90 ?_
  have gk_90 : G_90.1 n_90 = 5 := o_newK en_90 eG_90
  refine go_ndB (B' := (15, 1162)) rfl ?_
  refine go_dupR (pc' := 94) rfl rfl ?_
  obtain ⟨I_94, R_94, G_94, q_94, h⟩ := o_b3E h
  refine go_callI (pc' := 97) (B' := (14, 1154)) (st' := [.inr (.inr n_90), .inr (.inr th)]) rfl rfl (Or.inl (by decide)) rfl rfl gk_90 (md_87 (by omega) gk_90 q_94) rfl rfl rfl ?_
  obtain ⟨g16, h⟩ := o_gE h
  obtain ⟨R_97, eR_97, h⟩ := o_b1E h
  refine go_putR (pc' := 100) rfl rfl (fun _ => ⟨rfl, rfl⟩) (o_kdE g16) rfl ?_
  refine go_ndMR eR_97 ?_
  refine go_aload_n (pc' := 101) rfl rfl rfl ?_
  obtain ⟨g17, h⟩ := o_gE h
  refine go_new (pc' := 104) (q := 1) (nf := 4) rfl rfl rfl (by decide) (by decide) (o_lt9E g17) rfl ?_
  obtain ⟨I_101, eI_101, h⟩ := o_b1E h
  obtain ⟨J_101, eJ_101, h⟩ := o_b1E h
  obtain ⟨R_101, eR_101, h⟩ := o_b1E h
  obtain ⟨G_101, eG_101, h⟩ := o_b1E h
  obtain ⟨n_101, en_101, h⟩ := o_b1E h
  refine go_ndMI eI_101 ?_
  refine go_ndMJ eJ_101 ?_
  refine go_ndMR eR_101 ?_
  refine go_ndMG eG_101 ?_
  refine go_ndR en_101 ?_
  have gk_101 : G_101.1 n_101 = 1 := o_newK en_101 eG_101
  refine go_ndB (B' := (13, 1150)) rfl ?_
  refine go_dupR (pc' := 105) rfl rfl ?_
  obtain ⟨I_105, R_105, G_105, q_105, h⟩ := o_b3E h
  refine go_callI (pc' := 108) (B' := (12, 1142)) (st' := [.inr (.inr n_101), .inr (.inr th)]) rfl rfl (Or.inl (by decide)) rfl rfl gk_101 (md_22 (by omega) gk_101 q_105) rfl rfl rfl ?_
  obtain ⟨g18, h⟩ := o_gE h
  obtain ⟨R_108, eR_108, h⟩ := o_b1E h
  refine go_putR (pc' := 111) rfl rfl (fun _ => ⟨rfl, rfl⟩) (o_kdE g18) rfl ?_
  refine go_ndMR eR_108 ?_
  refine go_aload_n (pc' := 112) rfl rfl rfl ?_
  obtain ⟨g19, h⟩ := o_gE h
  refine go_new (pc' := 115) (q := 9) (nf := 3) rfl rfl rfl (by decide) (by decide) (o_lt9E g19) rfl ?_
  obtain ⟨I_112, eI_112, h⟩ := o_b1E h
  obtain ⟨J_112, eJ_112, h⟩ := o_b1E h
  obtain ⟨R_112, eR_112, h⟩ := o_b1E h
  obtain ⟨G_112, eG_112, h⟩ := o_b1E h
  obtain ⟨n_112, en_112, h⟩ := o_b1E h
  refine go_ndMI eI_112 ?_
  refine go_ndMJ eJ_112 ?_
  refine go_ndMR eR_112 ?_
  refine go_ndMG eG_112 ?_
  refine go_ndR en_112 ?_
  have gk_112 : G_112.1 n_112 = 9 := o_newK en_112 eG_112
  refine go_ndB (B' := (11, 1139)) rfl ?_
  refine go_dupR (pc' := 116) rfl rfl ?_
  obtain ⟨I_116, R_116, G_116, q_116, h⟩ := o_b3E h
  refine go_callI (pc' := 119) (B' := (8, 557)) (st' := [.inr (.inr n_112), .inr (.inr th)]) rfl rfl (Or.inl (by decide)) rfl rfl gk_112 (md_126 (by omega) gk_112 q_116) rfl rfl rfl ?_
  obtain ⟨g20, h⟩ := o_gE h
  obtain ⟨R_119, eR_119, h⟩ := o_b1E h
  refine go_putR (pc' := 122) rfl rfl (fun _ => ⟨rfl, rfl⟩) (o_kdE g20) rfl ?_
  refine go_ndMR eR_119 ?_
  refine go_aload_n (pc' := 123) rfl rfl rfl ?_
  obtain ⟨g21, h⟩ := o_gE h
  refine go_new (pc' := 126) (q := 4) (nf := 5) rfl rfl rfl (by decide) (by decide) (o_lt9E g21) rfl ?_
  obtain ⟨I_123, eI_123, h⟩ := o_b1E h
  obtain ⟨J_123, eJ_123, h⟩ := o_b1E h
  obtain ⟨R_123, eR_123, h⟩ := o_b1E h
  obtain ⟨G_123, eG_123, h⟩ := o_b1E h
  obtain ⟨n_123, en_123, h⟩ := o_b1E h
  refine go_ndMI eI_123 ?_
  refine go_ndMJ eJ_123 ?_
  refine go_ndMR eR_123 ?_
  refine go_ndMG eG_123 ?_
  refine go_ndR en_123 ?_
  have gk_123 : G_123.1 n_123 = 4 := o_newK en_123 eG_123
  refine go_ndB (B' := (7, 552)) rfl ?_
  refine go_dupR (pc' := 127) rfl rfl ?_
  obtain ⟨I_127, J_127, R_127, G_127, q_127, h⟩ := o_b4E h
  refine go_callI (pc' := 130) (B' := (2, 264)) (st' := [.inr (.inr n_123), .inr (.inr th)]) rfl rfl (Or.inl (by decide)) rfl rfl gk_123 (md_58 (by omega) gk_123 q_127) rfl rfl rfl ?_
  obtain ⟨g22, h⟩ := o_gE h
  obtain ⟨R_130, eR_130, h⟩ := o_b1E h
  refine go_putR (pc' := 133) rfl rfl (fun _ => ⟨rfl, rfl⟩) (o_kdE g22) rfl ?_
  refine go_ndMR eR_130 ?_
  refine go_aload_n (pc' := 134) rfl rfl rfl ?_
  refine go_sipush (pc' := 137) (v := (nI 256)) rfl rfl rfl ?_
  obtain ⟨g23, h⟩ := o_gE h
  refine go_newI (pc' := 139) (N := 256) rfl (by decide) (by decide) (by decide) (by decide) (by decide) (o_lt9E g23) rfl ?_
  obtain ⟨I_137, eI_137, h⟩ := o_b1E h
  obtain ⟨G_137, eG_137, h⟩ := o_b1E h
  obtain ⟨n_137, en_137, h⟩ := o_b1E h
  refine go_ndMI eI_137 ?_
  refine go_ndMG eG_137 ?_
  refine go_ndR en_137 ?_
  refine go_ndB (B' := (1, 8)) rfl ?_
  obtain ⟨g24, h⟩ := o_gE h
  obtain ⟨R_139, eR_139, h⟩ := o_b1E h
  refine go_putR (pc' := 142) rfl rfl (fun _ => ⟨rfl, rfl⟩) (o_kdE g24) rfl ?_
  refine go_ndMR eR_139 ?_
  refine go_aload_n (pc' := 143) rfl rfl rfl ?_
  refine go_bipush (pc' := 145) (v := (nI 8)) rfl rfl rfl ?_
  obtain ⟨g25, h⟩ := o_gE h
  refine go_newI (pc' := 147) (N := 8) rfl (by decide) (by decide) (by decide) (by decide) (by decide) (o_lt9E g25) rfl ?_
  obtain ⟨I_145, eI_145, h⟩ := o_b1E h
  obtain ⟨G_145, eG_145, h⟩ := o_b1E h
  obtain ⟨n_145, en_145, h⟩ := o_b1E h
  refine go_ndMI eI_145 ?_
  refine go_ndMG eG_145 ?_
  refine go_ndR en_145 ?_
  refine go_ndB (B' := (0, 0)) rfl ?_
  obtain ⟨g26, h⟩ := o_gE h
  obtain ⟨R_147, eR_147, h⟩ := o_b1E h
  refine go_putR (pc' := 150) rfl rfl (fun _ => ⟨rfl, rfl⟩) (o_kdE g26) rfl ?_
  refine go_ndMR eR_147 ?_
  cases h
  exact go_vret rfl (rfl) ⟨rfl, rfl, rfl, rfl, rfl⟩
def m_138_x3_49 (Ix_49 : ai_I) : Option (ai_I) :=
  some Ix_49
def m_138_b3 (th : Nat) (a0 : Int32) (Rf : ai_R) (G : ai_G) (v2_3 : Int32) (I_3 : ai_I) : Option ((Int32 × ai_I) ⊕ ai_I) :=
  if v2_3 < 0 then (some (Sum.inr I_3)) else (if (nI 240) ≤ (I_3 th 4) then (o_b1 (some (v2_3 + (-8 : Int32))) (fun x2_43 => some (Sum.inl (x2_43, I_3)))) else (o_g (o_in G 13 (Rf th 3) (I_3 th 4)) (o_b1 (some (va_up I_3 (Rf th 3) (va_up (I_3 (Rf th 3)) (I_3 th 4).toNatClampNeg (((a0.toUInt32 >>> (v2_3.toUInt32 &&& Int32.toUInt32 31)).toInt32) &&& (nI 255))))) (fun I_32 => o_b1 (some (va_up I_32 th (va_up (I_32 th) 4 ((I_32 th 4) + (nI 1))))) (fun I_40 => o_b1 (some (v2_3 + (-8 : Int32))) (fun x2_43 => some (Sum.inl (x2_43, I_40))))))))
/-- PricedBases.tapeBytes(I)V -/
def m_138 (th : Nat) (a0 : Int32) (I : ai_I) (Rf : ai_R) (G : ai_G) : Option (ai_I) :=
  o_s1 (lp (fun s => m_138_b3 th a0 Rf G s.1 s.2) o_N ((nI 24), I)) (fun t => m_138_x3_49 t)
theorem md_138 {d : Nat} {I : ai_I} {J : ai_J} {Rf : ai_R} {G : ai_G} {th : Nat} {a0 : Int32} {I1 : ai_I} (hd : 1 ≤ d) (hth : G.1 th = 10) (h : m_138 th a0 I Rf G = some I1) : ai_Cl si_t si_ms d 138 [.inr (.inr th), .inl a0] I J Rf G none I1 J Rf G := by
  obtain ⟨e, rfl⟩ : ∃ e, d = e + 1 := ⟨d - 1, by omega⟩
  unfold m_138 at h
  refine sp_in (lo := [some (.inr (.inr th)), some (.inl a0), none]) (B := (0, 0)) rfl (Nat.le_of_ble_eq_true rfl) rfl rfl ?_
  refine go_bipush (pc' := 2) (v := (nI 24)) rfl rfl rfl ?_
  refine go_istore_n (pc' := 3) (lo' := [some (.inr (.inr th)), some (.inl a0), some (.inl (nI 24))]) rfl rfl rfl ?_
  obtain ⟨q3, hl3, hc3_49⟩ := o_s1E h
  have ex3_49 : ∀ (Ix_49 : ai_I) (z2_x49 : Option ai_V), Ix_49 = q3 → ai_Go si_t (10, false, 9, cd_138) (ai_Cl si_t si_ms e) (sp_Q none I1 J Rf G) 49 [some (.inr (.inr th)), some (.inl a0), z2_x49] [] (0, 0) Ix_49 J Rf G := by
    intro Ix_49 z2_x49 hq
    have h : m_138_x3_49 Ix_49 = some I1 := hc3_49 Ix_49 hq.symm
    unfold m_138_x3_49 at h
    cases h
    exact go_vret rfl (rfl) ⟨rfl, rfl, rfl, rfl, rfl⟩
  have lo3 : ∀ n s, lp (fun s => m_138_b3 th a0 Rf G s.1 s.2) n s = some q3 → (fun s => ai_Go si_t (10, false, 9, cd_138) (ai_Cl si_t si_ms e) (sp_Q none I1 J Rf G) 3 [some (.inr (.inr th)), some (.inl a0), some (.inl s.1)] [] (0, 0) s.2 J Rf G) s := lp_go (fun s x3 hx hk3 => by
    obtain ⟨v2_3, I_3⟩ := s
    have h : m_138_b3 th a0 Rf G v2_3 I_3 = some x3 := hx
    clear hx
    show ai_Go si_t (10, false, 9, cd_138) (ai_Cl si_t si_ms e) (sp_Q none I1 J Rf G) 3 [some (.inr (.inr th)), some (.inl a0), some (.inl v2_3)] [] (0, 0) I_3 J Rf G
    unfold m_138_b3 at h
    refine go_iload_n (pc' := 4) rfl rfl rfl ?_
    refine go_if_lt (pt := 49) (pc' := 7) rfl rfl rfl (fun h4 => ?_) (fun h4 => ?_)
    · replace h := o_t h4 h
      exact ex3_49 _ (some (.inl v2_3)) (lp_exitE h hk3)
    · replace h := o_f h4 h
      refine go_aload_n (pc' := 8) rfl rfl rfl ?_
      refine go_getI (pc' := 11) rfl rfl (by decide) (by decide) hth rfl ?_
      refine go_sipush (pc' := 14) (v := (nI 240)) rfl rfl rfl ?_
      refine go_icmp_ge (pt := 43) (pc' := 17) rfl rfl rfl (fun h14 => ?_) (fun h14 => ?_)
      · replace h := o_t h14 h
        obtain ⟨x2_43, ex2_43, h⟩ := o_b1E h
        refine go_iincE (pc' := 46) rfl rfl (y := (-8 : Int32)) rfl ex2_43 (lo' := [some (.inr (.inr th)), some (.inl a0), some (.inl x2_43)]) rfl rfl ?_
        refine go_goto (pc' := 3) rfl rfl ?_
        exact (lp_backE h hk3 :)
      · replace h := o_f h14 h
        refine go_aload_n (pc' := 18) rfl rfl rfl ?_
        refine go_getR (pc' := 21) rfl rfl hth rfl ?_
        refine go_aload_n (pc' := 22) rfl rfl rfl ?_
        refine go_getI (pc' := 25) rfl rfl (by decide) (by decide) hth rfl ?_
        refine go_iload_n (pc' := 26) rfl rfl rfl ?_
        refine go_iload_n (pc' := 27) rfl rfl rfl ?_
        refine go_iushr (pc' := 28) rfl rfl ?_
        refine go_sipush (pc' := 31) (v := (nI 255)) rfl rfl rfl ?_
        refine go_iand (pc' := 32) rfl rfl ?_
        obtain ⟨g0, h⟩ := o_gE h
        obtain ⟨I_32, eI_32, h⟩ := o_b1E h
        refine go_iastore (pc' := 33) rfl (o_inK g0) (o_inB g0) rfl ?_
        refine go_ndMI eI_32 ?_
        refine go_aload_n (pc' := 34) rfl rfl rfl ?_
        refine go_dupR (pc' := 35) rfl rfl ?_
        refine go_getI (pc' := 38) rfl rfl (by decide) (by decide) hth rfl ?_
        refine go_iconst (pc' := 39) (v := (nI 1)) rfl rfl rfl ?_
        refine go_iadd (pc' := 40) rfl rfl ?_
        obtain ⟨I_40, eI_40, h⟩ := o_b1E h
        refine go_putI (pc' := 43) rfl rfl (fun h => by cases h) hth rfl ?_
        refine go_ndMI eI_40 ?_
        obtain ⟨x2_43, ex2_43, h⟩ := o_b1E h
        refine go_iincE (pc' := 46) rfl rfl (y := (-8 : Int32)) rfl ex2_43 (lo' := [some (.inr (.inr th)), some (.inl a0), some (.inl x2_43)]) rfl rfl ?_
        refine go_goto (pc' := 3) rfl rfl ?_
        exact (lp_backE h hk3 :))
  exact lo3 _ ((nI 24), I) hl3 
/-- PricedBases.feed(IIIII)I -/
def m_137 (th : Nat) (a0 : Int32) (a1 : Int32) (a2 : Int32) (a3 : Int32) (a4 : Int32) (I : ai_I) (Rf : ai_R) (G : ai_G) : Option (Int32 × ai_I) :=
  if ((I th 4) + (nI 20)) ≤ (nI 240) then (o_b1 (m_138 th a0 I Rf G) (fun I_17 => o_b1 (m_138 th a1 I_17 Rf G) (fun I_22 => o_b1 (m_138 th a2 I_22 Rf G) (fun I_27 => o_b1 (m_138 th a3 I_27 Rf G) (fun I_33 => o_b1 (m_138 th a4 I_33 Rf G) (fun I_39 => some (I_39 th 4, I_39))))))) else (some ((-1 : Int32), I))
theorem md_137 {d : Nat} {I : ai_I} {J : ai_J} {Rf : ai_R} {G : ai_G} {th : Nat} {a0 : Int32} {a1 : Int32} {a2 : Int32} {a3 : Int32} {a4 : Int32} {r : Int32} {I1 : ai_I} (hd : 2 ≤ d) (hth : G.1 th = 10) (h : m_137 th a0 a1 a2 a3 a4 I Rf G = some (r, I1)) : ai_Cl si_t si_ms d 137 [.inr (.inr th), .inl a0, .inl a1, .inl a2, .inl a3, .inl a4] I J Rf G (some (.inl r)) I1 J Rf G := by
  obtain ⟨e, rfl⟩ : ∃ e, d = e + 1 := ⟨d - 1, by omega⟩
  unfold m_137 at h
  refine sp_in (lo := [some (.inr (.inr th)), some (.inl a0), some (.inl a1), some (.inl a2), some (.inl a3), some (.inl a4)]) (B := (0, 0)) rfl (Nat.le_of_ble_eq_true rfl) rfl rfl ?_
  refine go_aload_n (pc' := 1) rfl rfl rfl ?_
  refine go_getI (pc' := 4) rfl rfl (by decide) (by decide) hth rfl ?_
  refine go_bipush (pc' := 6) (v := (nI 20)) rfl rfl rfl ?_
  refine go_iadd (pc' := 7) rfl rfl ?_
  refine go_sipush (pc' := 10) (v := (nI 240)) rfl rfl rfl ?_
  refine go_icmp_le (pt := 15) (pc' := 13) rfl rfl rfl (fun h10 => ?_) (fun h10 => ?_)
  · replace h := o_t h10 h
    refine go_aload_n (pc' := 16) rfl rfl rfl ?_
    refine go_iload_n (pc' := 17) rfl rfl rfl ?_
    obtain ⟨I_17, q_17, h⟩ := o_b1E h
    refine go_callV (pc' := 20) (B' := (0, 0)) (st' := []) rfl rfl (Or.inl (by decide)) rfl rfl hth (md_138 (by omega) hth q_17) rfl rfl rfl ?_
    refine go_aload_n (pc' := 21) rfl rfl rfl ?_
    refine go_iload_n (pc' := 22) rfl rfl rfl ?_
    obtain ⟨I_22, q_22, h⟩ := o_b1E h
    refine go_callV (pc' := 25) (B' := (0, 0)) (st' := []) rfl rfl (Or.inl (by decide)) rfl rfl hth (md_138 (by omega) hth q_22) rfl rfl rfl ?_
    refine go_aload_n (pc' := 26) rfl rfl rfl ?_
    refine go_iload_n (pc' := 27) rfl rfl rfl ?_
    obtain ⟨I_27, q_27, h⟩ := o_b1E h
    refine go_callV (pc' := 30) (B' := (0, 0)) (st' := []) rfl rfl (Or.inl (by decide)) rfl rfl hth (md_138 (by omega) hth q_27) rfl rfl rfl ?_
    refine go_aload_n (pc' := 31) rfl rfl rfl ?_
    refine go_iload (pc' := 33) rfl rfl rfl ?_
    obtain ⟨I_33, q_33, h⟩ := o_b1E h
    refine go_callV (pc' := 36) (B' := (0, 0)) (st' := []) rfl rfl (Or.inl (by decide)) rfl rfl hth (md_138 (by omega) hth q_33) rfl rfl rfl ?_
    refine go_aload_n (pc' := 37) rfl rfl rfl ?_
    refine go_iload (pc' := 39) rfl rfl rfl ?_
    obtain ⟨I_39, q_39, h⟩ := o_b1E h
    refine go_callV (pc' := 42) (B' := (0, 0)) (st' := []) rfl rfl (Or.inl (by decide)) rfl rfl hth (md_138 (by omega) hth q_39) rfl rfl rfl ?_
    refine go_aload_n (pc' := 43) rfl rfl rfl ?_
    refine go_getI (pc' := 46) rfl rfl (by decide) (by decide) hth rfl ?_
    cases h
    exact go_iret rfl (trivial) ⟨rfl, rfl, rfl, rfl, rfl⟩
  · replace h := o_f h10 h
    refine go_iconst (pc' := 14) (v := (-1 : Int32)) rfl rfl rfl ?_
    cases h
    exact go_iret rfl (trivial) ⟨rfl, rfl, rfl, rfl, rfl⟩
