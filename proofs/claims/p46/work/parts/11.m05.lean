/-! Models of methods and their proofs, piece 5. Printed by wip/p46/pr10.py. -/
def m_58_x7_69 (Ix_69 : ai_I) : Option (ai_I) :=
  some Ix_69
def m_58_b7 (th : Nat) (a0 : Nat) (a1 : Int32) (Rf : ai_R) (G : ai_G) (v3_7 : Int32) (I_7 : ai_I) : Option ((Int32 × ai_I) ⊕ ai_I) :=
  o_g (o_kd G a0 8) (if (I_7 a0 0) ≤ v3_7 then (some (Sum.inr I_7)) else (o_b1 (m_113 a1 v3_7) (fun r_17 => if r_17 = 0 then (o_b1 (m_89 a0 (a1 ||| ((nI 1) <<< (v3_7 &&& 31))) I_7 Rf G) (fun r_29 => if r_29 = 0 then (o_b1 (some (v3_7 + (nI 1))) (fun x3_63 => some (Sum.inl (x3_63, I_7)))) else (o_g (o_in G 13 (Rf a0 3) (a1 ||| ((nI 1) <<< (v3_7 &&& 31)))) (o_g (o_in G 13 (Rf th 0) v3_7) (o_b1 (some (va_up I_7 (Rf th 0) (va_up (I_7 (Rf th 0)) v3_7.toNatClampNeg (I_7 (Rf a0 3) (a1 ||| ((nI 1) <<< (v3_7 &&& 31))).toNatClampNeg)))) (fun I_50 => o_b1 (some (va_up I_50 th (va_up (I_50 th) 1 ((I_50 th 1) ||| ((nI 1) <<< (v3_7 &&& 31)))))) (fun I_60 => o_b1 (some (v3_7 + (nI 1))) (fun x3_63 => some (Sum.inl (x3_63, I_60)))))))))) else (o_b1 (some (v3_7 + (nI 1))) (fun x3_63 => some (Sum.inl (x3_63, I_7)))))))
/-- PricedBases$Space.takeAround(LPricedBases$Valuation;I)V -/
def m_58 (th : Nat) (a0 : Nat) (a1 : Int32) (I : ai_I) (Rf : ai_R) (G : ai_G) : Option (ai_I) :=
  o_b1 (some (va_up I th (va_up (I th) 1 (nI 0)))) (fun I_2 => o_s1 (lp (fun s => m_58_b7 th a0 a1 Rf G s.1 s.2) o_N ((nI 0), I_2)) (fun t => m_58_x7_69 t))
theorem md_58 {d : Nat} {I : ai_I} {J : ai_J} {Rf : ai_R} {G : ai_G} {th : Nat} {a0 : Nat} {a1 : Int32} {I1 : ai_I} (hd : 3 ≤ d) (hth : G.1 th = 5) (h : m_58 th a0 a1 I Rf G = some I1) : ai_Cl si_t si_ms d 58 [.inr (.inr th), .inr (.inr a0), .inl a1] I J Rf G none I1 J Rf G := by
  obtain ⟨e, rfl⟩ : ∃ e, d = e + 1 := ⟨d - 1, by omega⟩
  unfold m_58 at h
  refine sp_in (lo := [some (.inr (.inr th)), some (.inr (.inr a0)), some (.inl a1), none]) (B := (0, 0)) rfl (Nat.le_of_ble_eq_true rfl) rfl rfl ?_
  refine go_aload_n (pc' := 1) rfl rfl rfl ?_
  refine go_iconst (pc' := 2) (v := (nI 0)) rfl rfl rfl ?_
  obtain ⟨I_2, eI_2, h⟩ := o_b1E h
  refine go_putI (pc' := 5) rfl rfl (fun h => by cases h) hth rfl ?_
  refine go_ndMI eI_2 ?_
  refine go_iconst (pc' := 6) (v := (nI 0)) rfl rfl rfl ?_
  refine go_istore_n (pc' := 7) (lo' := [some (.inr (.inr th)), some (.inr (.inr a0)), some (.inl a1), some (.inl (nI 0))]) rfl rfl rfl ?_
  obtain ⟨q7, hl7, hc7_69⟩ := o_s1E h
  have ex7_69 : ∀ (Ix_69 : ai_I) (z3_x69 : Option ai_V), Ix_69 = q7 → ai_Go si_t (5, false, 9, cd_58) (ai_Cl si_t si_ms e) (sp_Q none I1 J Rf G) 69 [some (.inr (.inr th)), some (.inr (.inr a0)), some (.inl a1), z3_x69] [] (0, 0) Ix_69 J Rf G := by
    intro Ix_69 z3_x69 hq
    have h : m_58_x7_69 Ix_69 = some I1 := hc7_69 Ix_69 hq.symm
    unfold m_58_x7_69 at h
    cases h
    exact go_vret rfl (rfl) ⟨rfl, rfl, rfl, rfl, rfl⟩
  have lo7 : ∀ n s, lp (fun s => m_58_b7 th a0 a1 Rf G s.1 s.2) n s = some q7 → (fun s => ai_Go si_t (5, false, 9, cd_58) (ai_Cl si_t si_ms e) (sp_Q none I1 J Rf G) 7 [some (.inr (.inr th)), some (.inr (.inr a0)), some (.inl a1), some (.inl s.1)] [] (0, 0) s.2 J Rf G) s := lp_go (fun s x7 hx hk7 => by
    obtain ⟨v3_7, I_7⟩ := s
    have h : m_58_b7 th a0 a1 Rf G v3_7 I_7 = some x7 := hx
    clear hx
    show ai_Go si_t (5, false, 9, cd_58) (ai_Cl si_t si_ms e) (sp_Q none I1 J Rf G) 7 [some (.inr (.inr th)), some (.inr (.inr a0)), some (.inl a1), some (.inl v3_7)] [] (0, 0) I_7 J Rf G
    unfold m_58_b7 at h
    refine go_iload_n (pc' := 8) rfl rfl rfl ?_
    refine go_aload_n (pc' := 9) rfl rfl rfl ?_
    obtain ⟨g0, h⟩ := o_gE h
    refine go_getI (pc' := 12) rfl rfl (by decide) (by decide) (o_kdE g0) rfl ?_
    refine go_icmp_ge (pt := 69) (pc' := 15) rfl rfl rfl (fun h12 => ?_) (fun h12 => ?_)
    · replace h := o_t h12 h
      exact ex7_69 _ (some (.inl v3_7)) (lp_exitE h hk7)
    · replace h := o_f h12 h
      refine go_iload_n (pc' := 16) rfl rfl rfl ?_
      refine go_iload_n (pc' := 17) rfl rfl rfl ?_
      obtain ⟨r_17, q_17, h⟩ := o_b1E h
      refine go_callS (pc' := 20) (B' := (0, 0)) (st' := [.inl r_17]) rfl rfl (Or.inl (by decide)) rfl rfl trivial (md_113 (by omega) q_17) rfl rfl rfl ?_
      refine go_if_ne (pt := 63) (pc' := 23) rfl rfl rfl (fun h20 => ?_) (fun h20 => ?_)
      · replace h := o_f h20 h
        obtain ⟨x3_63, ex3_63, h⟩ := o_b1E h
        refine go_iincE (pc' := 66) rfl rfl (y := (nI 1)) rfl ex3_63 (lo' := [some (.inr (.inr th)), some (.inr (.inr a0)), some (.inl a1), some (.inl x3_63)]) rfl rfl ?_
        refine go_goto (pc' := 7) rfl rfl ?_
        exact (lp_backE h hk7 :)
      · replace h := o_t (Decidable.of_not_not h20) h
        refine go_aload_n (pc' := 24) rfl rfl rfl ?_
        refine go_iload_n (pc' := 25) rfl rfl rfl ?_
        refine go_iconst (pc' := 26) (v := (nI 1)) rfl rfl rfl ?_
        refine go_iload_n (pc' := 27) rfl rfl rfl ?_
        refine go_ishl (pc' := 28) rfl rfl ?_
        refine go_ior (pc' := 29) rfl rfl ?_
        obtain ⟨r_29, q_29, h⟩ := o_b1E h
        refine go_callV (pc' := 32) (B' := (0, 0)) (st' := [.inl r_29]) rfl rfl (Or.inl (by decide)) rfl rfl (o_kdE g0) (md_89 (by omega) (o_kdE g0) q_29) rfl rfl rfl ?_
        refine go_if_eq (pt := 63) (pc' := 35) rfl rfl rfl (fun h32 => ?_) (fun h32 => ?_)
        · replace h := o_t h32 h
          obtain ⟨x3_63, ex3_63, h⟩ := o_b1E h
          refine go_iincE (pc' := 66) rfl rfl (y := (nI 1)) rfl ex3_63 (lo' := [some (.inr (.inr th)), some (.inr (.inr a0)), some (.inl a1), some (.inl x3_63)]) rfl rfl ?_
          refine go_goto (pc' := 7) rfl rfl ?_
          exact (lp_backE h hk7 :)
        · replace h := o_f h32 h
          refine go_aload_n (pc' := 36) rfl rfl rfl ?_
          refine go_getR (pc' := 39) rfl rfl hth rfl ?_
          refine go_iload_n (pc' := 40) rfl rfl rfl ?_
          refine go_aload_n (pc' := 41) rfl rfl rfl ?_
          refine go_getR (pc' := 44) rfl rfl (o_kdE g0) rfl ?_
          refine go_iload_n (pc' := 45) rfl rfl rfl ?_
          refine go_iconst (pc' := 46) (v := (nI 1)) rfl rfl rfl ?_
          refine go_iload_n (pc' := 47) rfl rfl rfl ?_
          refine go_ishl (pc' := 48) rfl rfl ?_
          refine go_ior (pc' := 49) rfl rfl ?_
          obtain ⟨g1, h⟩ := o_gE h
          refine go_iaload (pc' := 50) rfl (o_inK g1) (o_inB g1) rfl ?_
          obtain ⟨g2, h⟩ := o_gE h
          obtain ⟨I_50, eI_50, h⟩ := o_b1E h
          refine go_iastore (pc' := 51) rfl (o_inK g2) (o_inB g2) rfl ?_
          refine go_ndMI eI_50 ?_
          refine go_aload_n (pc' := 52) rfl rfl rfl ?_
          refine go_dupR (pc' := 53) rfl rfl ?_
          refine go_getI (pc' := 56) rfl rfl (by decide) (by decide) hth rfl ?_
          refine go_iconst (pc' := 57) (v := (nI 1)) rfl rfl rfl ?_
          refine go_iload_n (pc' := 58) rfl rfl rfl ?_
          refine go_ishl (pc' := 59) rfl rfl ?_
          refine go_ior (pc' := 60) rfl rfl ?_
          obtain ⟨I_60, eI_60, h⟩ := o_b1E h
          refine go_putI (pc' := 63) rfl rfl (fun h => by cases h) hth rfl ?_
          refine go_ndMI eI_60 ?_
          obtain ⟨x3_63, ex3_63, h⟩ := o_b1E h
          refine go_iincE (pc' := 66) rfl rfl (y := (nI 1)) rfl ex3_63 (lo' := [some (.inr (.inr th)), some (.inr (.inr a0)), some (.inl a1), some (.inl x3_63)]) rfl rfl ?_
          refine go_goto (pc' := 7) rfl rfl ?_
          exact (lp_backE h hk7 :))
  exact lo7 _ ((nI 0), I_2) hl7 
def m_59_x9_103 (w4_103 : Int32) : Option (Int32) :=
  if w4_103 = (nI 1) then (some (nI 1)) else (some (nI 0))
def m_59_j91 (v5_9 : Int32) (y3_78 : Int32) (y4_78 : Int32) (t1_91 : Int32) : Option ((Int32 × Int32 × Int32) ⊕ Int32) :=
  o_b1 (m_112 t1_91) (fun r_91 => o_b1 (some (y4_78 + r_91)) (fun x4_95 => o_b1 (some (v5_9 + (nI 1))) (fun x5_97 => some (Sum.inl (y3_78, x4_95, x5_97)))))
def m_59_j78 (v5_9 : Int32) (x6_64 : Int32) (y3_78 : Int32) (y4_78 : Int32) : Option ((Int32 × Int32 × Int32) ⊕ Int32) :=
  if x6_64 = y3_78 then (m_59_j91 v5_9 y3_78 y4_78 (nI 1)) else (m_59_j91 v5_9 y3_78 y4_78 (nI 0))
def m_59_b9 (th : Nat) (a0 : Nat) (a1 : Int32) (I : ai_I) (Rf : ai_R) (G : ai_G) (v3_9 : Int32) (v4_9 : Int32) (v5_9 : Int32) : Option ((Int32 × Int32 × Int32) ⊕ Int32) :=
  o_g (o_kd G a0 8) (if (I a0 0) ≤ v5_9 then (some (Sum.inr v4_9)) else (o_b1 (m_113 (a1 &&& (I th 1)) v5_9) (fun r_26 => if r_26 = 0 then (o_b1 (some (v5_9 + (nI 1))) (fun x5_97 => some (Sum.inl (v3_9, v4_9, x5_97)))) else (o_b1 (m_89 a0 (a1 ^^^ ((nI 1) <<< (v5_9 &&& 31))) I Rf G) (fun r_39 => if r_39 = 0 then (o_b1 (some (v5_9 + (nI 1))) (fun x5_97 => some (Sum.inl (v3_9, v4_9, x5_97)))) else (o_g (o_in G 13 (Rf a0 3) (a1 ^^^ ((nI 1) <<< (v5_9 &&& 31)))) (o_g (o_in G 13 (Rf th 0) v5_9) (o_b1 (some ((I (Rf a0 3) (a1 ^^^ ((nI 1) <<< (v5_9 &&& 31))).toNatClampNeg) + (I (Rf th 0) v5_9.toNatClampNeg))) (fun x6_64 => if x6_64 ≤ v3_9 then (m_59_j78 v5_9 x6_64 v3_9 v4_9) else (m_59_j78 v5_9 x6_64 x6_64 (nI 0)))))))))))
/-- PricedBases$Space.failsAt(LPricedBases$Valuation;I)Z -/
def m_59 (th : Nat) (a0 : Nat) (a1 : Int32) (I : ai_I) (Rf : ai_R) (G : ai_G) : Option (Int32) :=
  o_s1 (lp (fun s => m_59_b9 th a0 a1 I Rf G s.1 s.2.1 s.2.2) o_N ((-2147483648 : Int32), (nI 0), (nI 0))) (fun t => m_59_x9_103 t)
theorem md_59 {d : Nat} {I : ai_I} {J : ai_J} {Rf : ai_R} {G : ai_G} {th : Nat} {a0 : Nat} {a1 : Int32} {r : Int32} (hd : 3 ≤ d) (hth : G.1 th = 5) (h : m_59 th a0 a1 I Rf G = some r) : ai_Cl si_t si_ms d 59 [.inr (.inr th), .inr (.inr a0), .inl a1] I J Rf G (some (.inl r)) I J Rf G := by
  obtain ⟨e, rfl⟩ : ∃ e, d = e + 1 := ⟨d - 1, by omega⟩
  unfold m_59 at h
  refine sp_in (lo := [some (.inr (.inr th)), some (.inr (.inr a0)), some (.inl a1), none, none, none, none]) (B := (0, 0)) rfl (Nat.le_of_ble_eq_true rfl) rfl rfl ?_
  refine go_ldc (pc' := 2) (v := .inl (-2147483648 : Int32)) rfl rfl rfl ?_
  refine go_istore_n (pc' := 3) (lo' := [some (.inr (.inr th)), some (.inr (.inr a0)), some (.inl a1), some (.inl (-2147483648 : Int32)), none, none, none]) rfl rfl rfl ?_
  refine go_iconst (pc' := 4) (v := (nI 0)) rfl rfl rfl ?_
  refine go_istore (pc' := 6) (lo' := [some (.inr (.inr th)), some (.inr (.inr a0)), some (.inl a1), some (.inl (-2147483648 : Int32)), some (.inl (nI 0)), none, none]) rfl rfl rfl ?_
  refine go_iconst (pc' := 7) (v := (nI 0)) rfl rfl rfl ?_
  refine go_istore (pc' := 9) (lo' := [some (.inr (.inr th)), some (.inr (.inr a0)), some (.inl a1), some (.inl (-2147483648 : Int32)), some (.inl (nI 0)), some (.inl (nI 0)), none]) rfl rfl rfl ?_
  obtain ⟨q9, hl9, hc9_103⟩ := o_s1E h
  have ex9_103 : ∀ (w4_103 : Int32) (z3_x103 : Option ai_V) (z5_x103 : Option ai_V) (z6_x103 : Option ai_V), w4_103 = q9 → ai_Go si_t (5, false, 3, cd_59) (ai_Cl si_t si_ms e) (sp_Q (some (.inl r)) I J Rf G) 103 [some (.inr (.inr th)), some (.inr (.inr a0)), some (.inl a1), z3_x103, some (.inl w4_103), z5_x103, z6_x103] [] (0, 0) I J Rf G := by
    intro w4_103 z3_x103 z5_x103 z6_x103 hq
    have h : m_59_x9_103 w4_103 = some r := hc9_103 w4_103 hq.symm
    unfold m_59_x9_103 at h
    refine go_iload (pc' := 105) rfl rfl rfl ?_
    refine go_iconst (pc' := 106) (v := (nI 1)) rfl rfl rfl ?_
    refine go_icmp_ne (pt := 113) (pc' := 109) rfl rfl rfl (fun h106 => ?_) (fun h106 => ?_)
    · replace h := o_f h106 h
      refine go_iconst (pc' := 114) (v := (nI 0)) rfl rfl rfl ?_
      cases h
      exact go_iret rfl (rfl) ⟨rfl, rfl, rfl, rfl, rfl⟩
    · replace h := o_t (Decidable.of_not_not h106) h
      refine go_iconst (pc' := 110) (v := (nI 1)) rfl rfl rfl ?_
      refine go_goto (pc' := 114) rfl rfl ?_
      cases h
      exact go_iret rfl (rfl) ⟨rfl, rfl, rfl, rfl, rfl⟩
  have lo9 : ∀ n s, lp (fun s => m_59_b9 th a0 a1 I Rf G s.1 s.2.1 s.2.2) n s = some q9 → (fun s => ∀ (z6_9 : Option ai_V), ai_Go si_t (5, false, 3, cd_59) (ai_Cl si_t si_ms e) (sp_Q (some (.inl r)) I J Rf G) 9 [some (.inr (.inr th)), some (.inr (.inr a0)), some (.inl a1), some (.inl s.1), some (.inl s.2.1), some (.inl s.2.2), z6_9] [] (0, 0) I J Rf G) s := lp_go (fun s x9 hx hk9 => by
    obtain ⟨v3_9, v4_9, v5_9⟩ := s
    intro z6_9
    have h : m_59_b9 th a0 a1 I Rf G v3_9 v4_9 v5_9 = some x9 := hx
    clear hx
    show ai_Go si_t (5, false, 3, cd_59) (ai_Cl si_t si_ms e) (sp_Q (some (.inl r)) I J Rf G) 9 [some (.inr (.inr th)), some (.inr (.inr a0)), some (.inl a1), some (.inl v3_9), some (.inl v4_9), some (.inl v5_9), z6_9] [] (0, 0) I J Rf G
    unfold m_59_b9 at h
    refine go_iload (pc' := 11) rfl rfl rfl ?_
    refine go_aload_n (pc' := 12) rfl rfl rfl ?_
    obtain ⟨g0, h⟩ := o_gE h
    refine go_getI (pc' := 15) rfl rfl (by decide) (by decide) (o_kdE g0) rfl ?_
    refine go_icmp_ge (pt := 103) (pc' := 18) rfl rfl rfl (fun h15 => ?_) (fun h15 => ?_)
    · replace h := o_t h15 h
      exact ex9_103 _ (some (.inl v3_9)) (some (.inl v5_9)) z6_9 (lp_exitE h hk9)
    · replace h := o_f h15 h
      refine go_iload_n (pc' := 19) rfl rfl rfl ?_
      refine go_aload_n (pc' := 20) rfl rfl rfl ?_
      refine go_getI (pc' := 23) rfl rfl (by decide) (by decide) hth rfl ?_
      refine go_iand (pc' := 24) rfl rfl ?_
      refine go_iload (pc' := 26) rfl rfl rfl ?_
      obtain ⟨r_26, q_26, h⟩ := o_b1E h
      refine go_callS (pc' := 29) (B' := (0, 0)) (st' := [.inl r_26]) rfl rfl (Or.inl (by decide)) rfl rfl trivial (md_113 (by omega) q_26) rfl rfl rfl ?_
      refine go_if_eq (pt := 97) (pc' := 32) rfl rfl rfl (fun h29 => ?_) (fun h29 => ?_)
      · replace h := o_t h29 h
        obtain ⟨x5_97, ex5_97, h⟩ := o_b1E h
        refine go_iincE (pc' := 100) rfl rfl (y := (nI 1)) rfl ex5_97 (lo' := [some (.inr (.inr th)), some (.inr (.inr a0)), some (.inl a1), some (.inl v3_9), some (.inl v4_9), some (.inl x5_97), z6_9]) rfl rfl ?_
        refine go_goto (pc' := 9) rfl rfl ?_
        exact (lp_backE h hk9 z6_9 :)
      · replace h := o_f h29 h
        refine go_aload_n (pc' := 33) rfl rfl rfl ?_
        refine go_iload_n (pc' := 34) rfl rfl rfl ?_
        refine go_iconst (pc' := 35) (v := (nI 1)) rfl rfl rfl ?_
        refine go_iload (pc' := 37) rfl rfl rfl ?_
        refine go_ishl (pc' := 38) rfl rfl ?_
        refine go_ixor (pc' := 39) rfl rfl ?_
        obtain ⟨r_39, q_39, h⟩ := o_b1E h
        refine go_callV (pc' := 42) (B' := (0, 0)) (st' := [.inl r_39]) rfl rfl (Or.inl (by decide)) rfl rfl (o_kdE g0) (md_89 (by omega) (o_kdE g0) q_39) rfl rfl rfl ?_
        refine go_if_eq (pt := 97) (pc' := 45) rfl rfl rfl (fun h42 => ?_) (fun h42 => ?_)
        · replace h := o_t h42 h
          obtain ⟨x5_97, ex5_97, h⟩ := o_b1E h
          refine go_iincE (pc' := 100) rfl rfl (y := (nI 1)) rfl ex5_97 (lo' := [some (.inr (.inr th)), some (.inr (.inr a0)), some (.inl a1), some (.inl v3_9), some (.inl v4_9), some (.inl x5_97), z6_9]) rfl rfl ?_
          refine go_goto (pc' := 9) rfl rfl ?_
          exact (lp_backE h hk9 z6_9 :)
        · replace h := o_f h42 h
          refine go_aload_n (pc' := 46) rfl rfl rfl ?_
          refine go_getR (pc' := 49) rfl rfl (o_kdE g0) rfl ?_
          refine go_iload_n (pc' := 50) rfl rfl rfl ?_
          refine go_iconst (pc' := 51) (v := (nI 1)) rfl rfl rfl ?_
          refine go_iload (pc' := 53) rfl rfl rfl ?_
          refine go_ishl (pc' := 54) rfl rfl ?_
          refine go_ixor (pc' := 55) rfl rfl ?_
          obtain ⟨g1, h⟩ := o_gE h
          refine go_iaload (pc' := 56) rfl (o_inK g1) (o_inB g1) rfl ?_
          refine go_aload_n (pc' := 57) rfl rfl rfl ?_
          refine go_getR (pc' := 60) rfl rfl hth rfl ?_
          refine go_iload (pc' := 62) rfl rfl rfl ?_
          obtain ⟨g2, h⟩ := o_gE h
          refine go_iaload (pc' := 63) rfl (o_inK g2) (o_inB g2) rfl ?_
          refine go_iadd (pc' := 64) rfl rfl ?_
          obtain ⟨x6_64, ex6_64, h⟩ := o_b1E h
          refine go_ndI ex6_64 ?_
          refine go_istore (pc' := 66) (lo' := [some (.inr (.inr th)), some (.inr (.inr a0)), some (.inl a1), some (.inl v3_9), some (.inl v4_9), some (.inl v5_9), some (.inl x6_64)]) rfl rfl rfl ?_
          refine go_iload (pc' := 68) rfl rfl rfl ?_
          refine go_iload_n (pc' := 69) rfl rfl rfl ?_
          have jn78 : ∀ (y3_78 : Int32) (y4_78 : Int32), m_59_j78 v5_9 x6_64 y3_78 y4_78 = some x9 → ai_Go si_t (5, false, 3, cd_59) (ai_Cl si_t si_ms e) (sp_Q (some (.inl r)) I J Rf G) 78 [some (.inr (.inr th)), some (.inr (.inr a0)), some (.inl a1), some (.inl y3_78), some (.inl y4_78), some (.inl v5_9), some (.inl x6_64)] [] (0, 0) I J Rf G := by
            intro y3_78 y4_78 h
            unfold m_59_j78 at h
            refine go_iload (pc' := 80) rfl rfl rfl ?_
            refine go_iload (pc' := 82) rfl rfl rfl ?_
            refine go_iload_n (pc' := 83) rfl rfl rfl ?_
            have jn91 : ∀ (t1_91 : Int32), m_59_j91 v5_9 y3_78 y4_78 t1_91 = some x9 → ai_Go si_t (5, false, 3, cd_59) (ai_Cl si_t si_ms e) (sp_Q (some (.inl r)) I J Rf G) 91 [some (.inr (.inr th)), some (.inr (.inr a0)), some (.inl a1), some (.inl y3_78), some (.inl y4_78), some (.inl v5_9), some (.inl x6_64)] [.inl t1_91, .inl y4_78] (0, 0) I J Rf G := by
              intro t1_91 h
              unfold m_59_j91 at h
              obtain ⟨r_91, q_91, h⟩ := o_b1E h
              refine go_callS (pc' := 94) (B' := (0, 0)) (st' := [.inl r_91, .inl y4_78]) rfl rfl (Or.inl (by decide)) rfl rfl trivial (md_112 (by omega) q_91) rfl rfl rfl ?_
              refine go_iadd (pc' := 95) rfl rfl ?_
              obtain ⟨x4_95, ex4_95, h⟩ := o_b1E h
              refine go_ndI ex4_95 ?_
              refine go_istore (pc' := 97) (lo' := [some (.inr (.inr th)), some (.inr (.inr a0)), some (.inl a1), some (.inl y3_78), some (.inl x4_95), some (.inl v5_9), some (.inl x6_64)]) rfl rfl rfl ?_
              obtain ⟨x5_97, ex5_97, h⟩ := o_b1E h
              refine go_iincE (pc' := 100) rfl rfl (y := (nI 1)) rfl ex5_97 (lo' := [some (.inr (.inr th)), some (.inr (.inr a0)), some (.inl a1), some (.inl y3_78), some (.inl x4_95), some (.inl x5_97), some (.inl x6_64)]) rfl rfl ?_
              refine go_goto (pc' := 9) rfl rfl ?_
              exact (lp_backE h hk9 (some (.inl x6_64)) :)
            refine go_icmp_ne (pt := 90) (pc' := 86) rfl rfl rfl (fun h83 => ?_) (fun h83 => ?_)
            · replace h := o_f h83 h
              refine go_iconst (pc' := 91) (v := (nI 0)) rfl rfl rfl ?_
              exact jn91 (nI 0) h
            · replace h := o_t (Decidable.of_not_not h83) h
              refine go_iconst (pc' := 87) (v := (nI 1)) rfl rfl rfl ?_
              refine go_goto (pc' := 91) rfl rfl ?_
              exact jn91 (nI 1) h
          refine go_icmp_le (pt := 78) (pc' := 72) rfl rfl rfl (fun h69 => ?_) (fun h69 => ?_)
          · replace h := o_t h69 h
            exact jn78 v3_9 v4_9 h
          · replace h := o_f h69 h
            refine go_iload (pc' := 74) rfl rfl rfl ?_
            refine go_istore_n (pc' := 75) (lo' := [some (.inr (.inr th)), some (.inr (.inr a0)), some (.inl a1), some (.inl x6_64), some (.inl v4_9), some (.inl v5_9), some (.inl x6_64)]) rfl rfl rfl ?_
            refine go_iconst (pc' := 76) (v := (nI 0)) rfl rfl rfl ?_
            refine go_istore (pc' := 78) (lo' := [some (.inr (.inr th)), some (.inr (.inr a0)), some (.inl a1), some (.inl x6_64), some (.inl (nI 0)), some (.inl v5_9), some (.inl x6_64)]) rfl rfl rfl ?_
            exact jn78 x6_64 (nI 0) h)
  exact lo9 _ ((-2147483648 : Int32), (nI 0), (nI 0)) hl9 none
def m_60_x5_42 (w4_42 : Int32) : Option (Int32) :=
  some w4_42
def m_60_x5_54 : Option (Int32) :=
  some (-4 : Int32)
def m_60_b5 (th : Nat) (a0 : Nat) (I : ai_I) (Rf : ai_R) (G : ai_G) (v3_5 : Int32) (v4_5 : Int32) : Option ((Int32 × Int32) ⊕ (Int32 ⊕ Unit)) :=
  o_g (o_kd G a0 8) (o_b1 (m_85 a0 I) (fun r_8 => if r_8 ≤ v4_5 then (some (Sum.inr (Sum.inr ()))) else (o_b1 (m_115 v4_5) (fun r_16 => if r_16 = ((I a0 1) + (nI 1)) then (o_b1 (m_59 th a0 v4_5 I Rf G) (fun r_32 => if r_32 = 0 then (o_b1 (some (v4_5 + (nI 1))) (fun x4_48 => some (Sum.inl (v3_5, x4_48)))) else (if v3_5 = 0 then (some (Sum.inr (Sum.inl v4_5))) else (o_b1 (some (v3_5 + (-1 : Int32))) (fun x3_45 => o_b1 (some (v4_5 + (nI 1))) (fun x4_48 => some (Sum.inl (x3_45, x4_48)))))))) else (o_b1 (some (v4_5 + (nI 1))) (fun x4_48 => some (Sum.inl (v3_5, x4_48))))))))
/-- PricedBases$Space.failingAt(LPricedBases$Valuation;I)I -/
def m_60 (th : Nat) (a0 : Nat) (a1 : Int32) (I : ai_I) (Rf : ai_R) (G : ai_G) : Option (Int32) :=
  o_s2 (lp (fun s => m_60_b5 th a0 I Rf G s.1 s.2) o_N (a1, (nI 0))) (fun t => m_60_x5_42 t) (fun t => m_60_x5_54)
theorem md_60 {d : Nat} {I : ai_I} {J : ai_J} {Rf : ai_R} {G : ai_G} {th : Nat} {a0 : Nat} {a1 : Int32} {r : Int32} (hd : 4 ≤ d) (hth : G.1 th = 5) (h : m_60 th a0 a1 I Rf G = some r) : ai_Cl si_t si_ms d 60 [.inr (.inr th), .inr (.inr a0), .inl a1] I J Rf G (some (.inl r)) I J Rf G := by
  obtain ⟨e, rfl⟩ : ∃ e, d = e + 1 := ⟨d - 1, by omega⟩
  unfold m_60 at h
  refine sp_in (lo := [some (.inr (.inr th)), some (.inr (.inr a0)), some (.inl a1), none, none]) (B := (0, 0)) rfl (Nat.le_of_ble_eq_true rfl) rfl rfl ?_
  refine go_iload_n (pc' := 1) rfl rfl rfl ?_
  refine go_istore_n (pc' := 2) (lo' := [some (.inr (.inr th)), some (.inr (.inr a0)), some (.inl a1), some (.inl a1), none]) rfl rfl rfl ?_
  refine go_iconst (pc' := 3) (v := (nI 0)) rfl rfl rfl ?_
  refine go_istore (pc' := 5) (lo' := [some (.inr (.inr th)), some (.inr (.inr a0)), some (.inl a1), some (.inl a1), some (.inl (nI 0))]) rfl rfl rfl ?_
  obtain ⟨q5, hl5, hc5_42, hc5_54⟩ := o_s2E h
  have ex5_42 : ∀ (w4_42 : Int32) (z3_x42 : Option ai_V), (Sum.inl w4_42) = q5 → ai_Go si_t (5, false, 0, cd_60) (ai_Cl si_t si_ms e) (sp_Q (some (.inl r)) I J Rf G) 42 [some (.inr (.inr th)), some (.inr (.inr a0)), some (.inl a1), z3_x42, some (.inl w4_42)] [] (0, 0) I J Rf G := by
    intro w4_42 z3_x42 hq
    have h : m_60_x5_42 w4_42 = some r := hc5_42 w4_42 hq.symm
    unfold m_60_x5_42 at h
    refine go_iload (pc' := 44) rfl rfl rfl ?_
    cases h
    exact go_iret rfl (trivial) ⟨rfl, rfl, rfl, rfl, rfl⟩
  have ex5_54 : ∀ (z3_x54 : Option ai_V) (z4_x54 : Option ai_V), (Sum.inr ()) = q5 → ai_Go si_t (5, false, 0, cd_60) (ai_Cl si_t si_ms e) (sp_Q (some (.inl r)) I J Rf G) 54 [some (.inr (.inr th)), some (.inr (.inr a0)), some (.inl a1), z3_x54, z4_x54] [] (0, 0) I J Rf G := by
    intro z3_x54 z4_x54 hq
    have h : m_60_x5_54 = some r := hc5_54 () hq.symm
    unfold m_60_x5_54 at h
    refine go_bipush (pc' := 56) (v := (-4 : Int32)) rfl rfl rfl ?_
    cases h
    exact go_iret rfl (trivial) ⟨rfl, rfl, rfl, rfl, rfl⟩
  have lo5 : ∀ n s, lp (fun s => m_60_b5 th a0 I Rf G s.1 s.2) n s = some q5 → (fun s => ai_Go si_t (5, false, 0, cd_60) (ai_Cl si_t si_ms e) (sp_Q (some (.inl r)) I J Rf G) 5 [some (.inr (.inr th)), some (.inr (.inr a0)), some (.inl a1), some (.inl s.1), some (.inl s.2)] [] (0, 0) I J Rf G) s := lp_go (fun s x5 hx hk5 => by
    obtain ⟨v3_5, v4_5⟩ := s
    have h : m_60_b5 th a0 I Rf G v3_5 v4_5 = some x5 := hx
    clear hx
    show ai_Go si_t (5, false, 0, cd_60) (ai_Cl si_t si_ms e) (sp_Q (some (.inl r)) I J Rf G) 5 [some (.inr (.inr th)), some (.inr (.inr a0)), some (.inl a1), some (.inl v3_5), some (.inl v4_5)] [] (0, 0) I J Rf G
    unfold m_60_b5 at h
    refine go_iload (pc' := 7) rfl rfl rfl ?_
    refine go_aload_n (pc' := 8) rfl rfl rfl ?_
    obtain ⟨g0, h⟩ := o_gE h
    obtain ⟨r_8, q_8, h⟩ := o_b1E h
    refine go_callV (pc' := 11) (B' := (0, 0)) (st' := [.inl r_8, .inl v4_5]) rfl rfl (Or.inl (by decide)) rfl rfl (o_kdE g0) (md_85 (by omega) (o_kdE g0) q_8) rfl rfl rfl ?_
    refine go_icmp_ge (pt := 54) (pc' := 14) rfl rfl rfl (fun h11 => ?_) (fun h11 => ?_)
    · replace h := o_t h11 h
      exact ex5_54  (some (.inl v3_5)) (some (.inl v4_5)) (lp_exitE h hk5)
    · replace h := o_f h11 h
      refine go_iload (pc' := 16) rfl rfl rfl ?_
      obtain ⟨r_16, q_16, h⟩ := o_b1E h
      refine go_callS (pc' := 19) (B' := (0, 0)) (st' := [.inl r_16]) rfl rfl (Or.inl (by decide)) rfl rfl trivial (md_115 (by omega) q_16) rfl rfl rfl ?_
      refine go_aload_n (pc' := 20) rfl rfl rfl ?_
      refine go_getI (pc' := 23) rfl rfl (by decide) (by decide) (o_kdE g0) rfl ?_
      refine go_iconst (pc' := 24) (v := (nI 1)) rfl rfl rfl ?_
      refine go_iadd (pc' := 25) rfl rfl ?_
      refine go_icmp_ne (pt := 48) (pc' := 28) rfl rfl rfl (fun h25 => ?_) (fun h25 => ?_)
      · replace h := o_f h25 h
        obtain ⟨x4_48, ex4_48, h⟩ := o_b1E h
        refine go_iincE (pc' := 51) rfl rfl (y := (nI 1)) rfl ex4_48 (lo' := [some (.inr (.inr th)), some (.inr (.inr a0)), some (.inl a1), some (.inl v3_5), some (.inl x4_48)]) rfl rfl ?_
        refine go_goto (pc' := 5) rfl rfl ?_
        exact (lp_backE h hk5 :)
      · replace h := o_t (Decidable.of_not_not h25) h
        refine go_aload_n (pc' := 29) rfl rfl rfl ?_
        refine go_aload_n (pc' := 30) rfl rfl rfl ?_
        refine go_iload (pc' := 32) rfl rfl rfl ?_
        obtain ⟨r_32, q_32, h⟩ := o_b1E h
        refine go_callV (pc' := 35) (B' := (0, 0)) (st' := [.inl r_32]) rfl rfl (Or.inl (by decide)) rfl rfl hth (md_59 (by omega) hth q_32) rfl rfl rfl ?_
        refine go_if_eq (pt := 48) (pc' := 38) rfl rfl rfl (fun h35 => ?_) (fun h35 => ?_)
        · replace h := o_t h35 h
          obtain ⟨x4_48, ex4_48, h⟩ := o_b1E h
          refine go_iincE (pc' := 51) rfl rfl (y := (nI 1)) rfl ex4_48 (lo' := [some (.inr (.inr th)), some (.inr (.inr a0)), some (.inl a1), some (.inl v3_5), some (.inl x4_48)]) rfl rfl ?_
          refine go_goto (pc' := 5) rfl rfl ?_
          exact (lp_backE h hk5 :)
        · replace h := o_f h35 h
          refine go_iload_n (pc' := 39) rfl rfl rfl ?_
          refine go_if_ne (pt := 45) (pc' := 42) rfl rfl rfl (fun h39 => ?_) (fun h39 => ?_)
          · replace h := o_f h39 h
            obtain ⟨x3_45, ex3_45, h⟩ := o_b1E h
            refine go_iincE (pc' := 48) rfl rfl (y := (-1 : Int32)) rfl ex3_45 (lo' := [some (.inr (.inr th)), some (.inr (.inr a0)), some (.inl a1), some (.inl x3_45), some (.inl v4_5)]) rfl rfl ?_
            obtain ⟨x4_48, ex4_48, h⟩ := o_b1E h
            refine go_iincE (pc' := 51) rfl rfl (y := (nI 1)) rfl ex4_48 (lo' := [some (.inr (.inr th)), some (.inr (.inr a0)), some (.inl a1), some (.inl x3_45), some (.inl x4_48)]) rfl rfl ?_
            refine go_goto (pc' := 5) rfl rfl ?_
            exact (lp_backE h hk5 :)
          · replace h := o_t (Decidable.of_not_not h39) h
            exact ex5_42 _ (some (.inl v3_5)) (lp_exitE h hk5))
  exact lo5 _ (a1, (nI 0)) hl5 
def m_61_x4_43 (w2_43 : Int32) : Option (Int32) :=
  some w2_43
def m_61_b4 (th : Nat) (a0 : Nat) (I : ai_I) (Rf : ai_R) (G : ai_G) (v2_4 : Int32) (v3_4 : Int32) : Option ((Int32 × Int32) ⊕ Int32) :=
  o_g (o_kd G a0 8) (o_b1 (m_85 a0 I) (fun r_6 => if r_6 ≤ v3_4 then (some (Sum.inr v2_4)) else (o_b1 (m_115 v3_4) (fun r_13 => if r_13 = ((I a0 1) + (nI 1)) then (o_b1 (m_59 th a0 v3_4 I Rf G) (fun r_29 => o_b1 (m_112 r_29) (fun r_32 => o_b1 (some (v2_4 + r_32)) (fun x2_36 => o_b1 (some (v3_4 + (nI 1))) (fun x3_37 => some (Sum.inl (x2_36, x3_37))))))) else (o_b1 (some (v3_4 + (nI 1))) (fun x3_37 => some (Sum.inl (v2_4, x3_37))))))))
/-- PricedBases$Space.howManyFailing(LPricedBases$Valuation;)I -/
def m_61 (th : Nat) (a0 : Nat) (I : ai_I) (Rf : ai_R) (G : ai_G) : Option (Int32) :=
  o_s1 (lp (fun s => m_61_b4 th a0 I Rf G s.1 s.2) o_N ((nI 0), (nI 0))) (fun t => m_61_x4_43 t)
theorem md_61 {d : Nat} {I : ai_I} {J : ai_J} {Rf : ai_R} {G : ai_G} {th : Nat} {a0 : Nat} {r : Int32} (hd : 4 ≤ d) (hth : G.1 th = 5) (h : m_61 th a0 I Rf G = some r) : ai_Cl si_t si_ms d 61 [.inr (.inr th), .inr (.inr a0)] I J Rf G (some (.inl r)) I J Rf G := by
  obtain ⟨e, rfl⟩ : ∃ e, d = e + 1 := ⟨d - 1, by omega⟩
  unfold m_61 at h
  refine sp_in (lo := [some (.inr (.inr th)), some (.inr (.inr a0)), none, none]) (B := (0, 0)) rfl (Nat.le_of_ble_eq_true rfl) rfl rfl ?_
  refine go_iconst (pc' := 1) (v := (nI 0)) rfl rfl rfl ?_
  refine go_istore_n (pc' := 2) (lo' := [some (.inr (.inr th)), some (.inr (.inr a0)), some (.inl (nI 0)), none]) rfl rfl rfl ?_
  refine go_iconst (pc' := 3) (v := (nI 0)) rfl rfl rfl ?_
  refine go_istore_n (pc' := 4) (lo' := [some (.inr (.inr th)), some (.inr (.inr a0)), some (.inl (nI 0)), some (.inl (nI 0))]) rfl rfl rfl ?_
  obtain ⟨q4, hl4, hc4_43⟩ := o_s1E h
  have ex4_43 : ∀ (w2_43 : Int32) (z3_x43 : Option ai_V), w2_43 = q4 → ai_Go si_t (5, false, 0, cd_61) (ai_Cl si_t si_ms e) (sp_Q (some (.inl r)) I J Rf G) 43 [some (.inr (.inr th)), some (.inr (.inr a0)), some (.inl w2_43), z3_x43] [] (0, 0) I J Rf G := by
    intro w2_43 z3_x43 hq
    have h : m_61_x4_43 w2_43 = some r := hc4_43 w2_43 hq.symm
    unfold m_61_x4_43 at h
    refine go_iload_n (pc' := 44) rfl rfl rfl ?_
    cases h
    exact go_iret rfl (trivial) ⟨rfl, rfl, rfl, rfl, rfl⟩
  have lo4 : ∀ n s, lp (fun s => m_61_b4 th a0 I Rf G s.1 s.2) n s = some q4 → (fun s => ai_Go si_t (5, false, 0, cd_61) (ai_Cl si_t si_ms e) (sp_Q (some (.inl r)) I J Rf G) 4 [some (.inr (.inr th)), some (.inr (.inr a0)), some (.inl s.1), some (.inl s.2)] [] (0, 0) I J Rf G) s := lp_go (fun s x4 hx hk4 => by
    obtain ⟨v2_4, v3_4⟩ := s
    have h : m_61_b4 th a0 I Rf G v2_4 v3_4 = some x4 := hx
    clear hx
    show ai_Go si_t (5, false, 0, cd_61) (ai_Cl si_t si_ms e) (sp_Q (some (.inl r)) I J Rf G) 4 [some (.inr (.inr th)), some (.inr (.inr a0)), some (.inl v2_4), some (.inl v3_4)] [] (0, 0) I J Rf G
    unfold m_61_b4 at h
    refine go_iload_n (pc' := 5) rfl rfl rfl ?_
    refine go_aload_n (pc' := 6) rfl rfl rfl ?_
    obtain ⟨g0, h⟩ := o_gE h
    obtain ⟨r_6, q_6, h⟩ := o_b1E h
    refine go_callV (pc' := 9) (B' := (0, 0)) (st' := [.inl r_6, .inl v3_4]) rfl rfl (Or.inl (by decide)) rfl rfl (o_kdE g0) (md_85 (by omega) (o_kdE g0) q_6) rfl rfl rfl ?_
    refine go_icmp_ge (pt := 43) (pc' := 12) rfl rfl rfl (fun h9 => ?_) (fun h9 => ?_)
    · replace h := o_t h9 h
      exact ex4_43 _ (some (.inl v3_4)) (lp_exitE h hk4)
    · replace h := o_f h9 h
      refine go_iload_n (pc' := 13) rfl rfl rfl ?_
      obtain ⟨r_13, q_13, h⟩ := o_b1E h
      refine go_callS (pc' := 16) (B' := (0, 0)) (st' := [.inl r_13]) rfl rfl (Or.inl (by decide)) rfl rfl trivial (md_115 (by omega) q_13) rfl rfl rfl ?_
      refine go_aload_n (pc' := 17) rfl rfl rfl ?_
      refine go_getI (pc' := 20) rfl rfl (by decide) (by decide) (o_kdE g0) rfl ?_
      refine go_iconst (pc' := 21) (v := (nI 1)) rfl rfl rfl ?_
      refine go_iadd (pc' := 22) rfl rfl ?_
      refine go_icmp_ne (pt := 37) (pc' := 25) rfl rfl rfl (fun h22 => ?_) (fun h22 => ?_)
      · replace h := o_f h22 h
        obtain ⟨x3_37, ex3_37, h⟩ := o_b1E h
        refine go_iincE (pc' := 40) rfl rfl (y := (nI 1)) rfl ex3_37 (lo' := [some (.inr (.inr th)), some (.inr (.inr a0)), some (.inl v2_4), some (.inl x3_37)]) rfl rfl ?_
        refine go_goto (pc' := 4) rfl rfl ?_
        exact (lp_backE h hk4 :)
      · replace h := o_t (Decidable.of_not_not h22) h
        refine go_iload_n (pc' := 26) rfl rfl rfl ?_
        refine go_aload_n (pc' := 27) rfl rfl rfl ?_
        refine go_aload_n (pc' := 28) rfl rfl rfl ?_
        refine go_iload_n (pc' := 29) rfl rfl rfl ?_
        obtain ⟨r_29, q_29, h⟩ := o_b1E h
        refine go_callV (pc' := 32) (B' := (0, 0)) (st' := [.inl r_29, .inl v2_4]) rfl rfl (Or.inl (by decide)) rfl rfl hth (md_59 (by omega) hth q_29) rfl rfl rfl ?_
        obtain ⟨r_32, q_32, h⟩ := o_b1E h
        refine go_callS (pc' := 35) (B' := (0, 0)) (st' := [.inl r_32, .inl v2_4]) rfl rfl (Or.inl (by decide)) rfl rfl trivial (md_112 (by omega) q_32) rfl rfl rfl ?_
        refine go_iadd (pc' := 36) rfl rfl ?_
        obtain ⟨x2_36, ex2_36, h⟩ := o_b1E h
        refine go_ndI ex2_36 ?_
        refine go_istore_n (pc' := 37) (lo' := [some (.inr (.inr th)), some (.inr (.inr a0)), some (.inl x2_36), some (.inl v3_4)]) rfl rfl rfl ?_
        obtain ⟨x3_37, ex3_37, h⟩ := o_b1E h
        refine go_iincE (pc' := 40) rfl rfl (y := (nI 1)) rfl ex3_37 (lo' := [some (.inr (.inr th)), some (.inr (.inr a0)), some (.inl x2_36), some (.inl x3_37)]) rfl rfl ?_
        refine go_goto (pc' := 4) rfl rfl ?_
        exact (lp_backE h hk4 :))
  exact lo4 _ ((nI 0), (nI 0)) hl4 
/-- PricedBases$Space.isFull(LPricedBases$Valuation;)Z -/
def m_62 (th : Nat) (a0 : Nat) (I : ai_I) (Rf : ai_R) (G : ai_G) : Option (Int32) :=
  o_b1 (m_60 th a0 (nI 0) I Rf G) (fun r_3 => if r_3 = (-4 : Int32) then (some (nI 1)) else (some (nI 0)))
theorem md_62 {d : Nat} {I : ai_I} {J : ai_J} {Rf : ai_R} {G : ai_G} {th : Nat} {a0 : Nat} {r : Int32} (hd : 5 ≤ d) (hth : G.1 th = 5) (h : m_62 th a0 I Rf G = some r) : ai_Cl si_t si_ms d 62 [.inr (.inr th), .inr (.inr a0)] I J Rf G (some (.inl r)) I J Rf G := by
  obtain ⟨e, rfl⟩ : ∃ e, d = e + 1 := ⟨d - 1, by omega⟩
  unfold m_62 at h
  refine sp_in (lo := [some (.inr (.inr th)), some (.inr (.inr a0))]) (B := (0, 0)) rfl (Nat.le_of_ble_eq_true rfl) rfl rfl ?_
  refine go_aload_n (pc' := 1) rfl rfl rfl ?_
  refine go_aload_n (pc' := 2) rfl rfl rfl ?_
  refine go_iconst (pc' := 3) (v := (nI 0)) rfl rfl rfl ?_
  obtain ⟨r_3, q_3, h⟩ := o_b1E h
  refine go_callV (pc' := 6) (B' := (0, 0)) (st' := [.inl r_3]) rfl rfl (Or.inl (by decide)) rfl rfl hth (md_60 (by omega) hth q_3) rfl rfl rfl ?_
  refine go_bipush (pc' := 8) (v := (-4 : Int32)) rfl rfl rfl ?_
  refine go_icmp_ne (pt := 15) (pc' := 11) rfl rfl rfl (fun h8 => ?_) (fun h8 => ?_)
  · replace h := o_f h8 h
    refine go_iconst (pc' := 16) (v := (nI 0)) rfl rfl rfl ?_
    cases h
    exact go_iret rfl (rfl) ⟨rfl, rfl, rfl, rfl, rfl⟩
  · replace h := o_t (Decidable.of_not_not h8) h
    refine go_iconst (pc' := 12) (v := (nI 1)) rfl rfl rfl ?_
    refine go_goto (pc' := 16) rfl rfl ?_
    cases h
    exact go_iret rfl (rfl) ⟨rfl, rfl, rfl, rfl, rfl⟩
def m_63_x4_56 (w2_56 : Int32) (Ix_56 : ai_I) : Option (Int32 × ai_I) :=
  some (w2_56, Ix_56)
def m_63_b4 (th : Nat) (a0 : Nat) (Rf : ai_R) (G : ai_G) (v2_4 : Int32) (v3_4 : Int32) (I_4 : ai_I) : Option ((Int32 × Int32 × ai_I) ⊕ (Int32 × ai_I)) :=
  o_g (o_kd G a0 8) (o_b1 (m_85 a0 I_4) (fun r_6 => if r_6 ≤ v3_4 then (some (Sum.inr (v2_4, I_4))) else (o_b1 (m_115 v3_4) (fun r_13 => if r_13 = ((I_4 a0 1) - (nI 1)) then (o_b1 (m_90 a0 v3_4 I_4 Rf G) (fun r_27 => if r_27 = 0 then (o_b1 (some (v3_4 + (nI 1))) (fun x3_50 => some (Sum.inl (v2_4, x3_50, I_4)))) else (o_b1 (m_58 th a0 v3_4 I_4 Rf G) (fun I_36 => o_b1 (m_62 th a0 I_36 Rf G) (fun r_42 => o_b1 (m_112 r_42) (fun r_45 => o_b1 (some (v2_4 + r_45)) (fun x2_49 => o_b1 (some (v3_4 + (nI 1))) (fun x3_50 => some (Sum.inl (x2_49, x3_50, I_36)))))))))) else (o_b1 (some (v3_4 + (nI 1))) (fun x3_50 => some (Sum.inl (v2_4, x3_50, I_4))))))))
/-- PricedBases$Space.howManySpanned(LPricedBases$Valuation;)I -/
def m_63 (th : Nat) (a0 : Nat) (I : ai_I) (Rf : ai_R) (G : ai_G) : Option (Int32 × ai_I) :=
  o_s1 (lp (fun s => m_63_b4 th a0 Rf G s.1 s.2.1 s.2.2) o_N ((nI 0), (nI 0), I)) (fun t => m_63_x4_56 t.1 t.2)
theorem md_63 {d : Nat} {I : ai_I} {J : ai_J} {Rf : ai_R} {G : ai_G} {th : Nat} {a0 : Nat} {r : Int32} {I1 : ai_I} (hd : 6 ≤ d) (hth : G.1 th = 5) (h : m_63 th a0 I Rf G = some (r, I1)) : ai_Cl si_t si_ms d 63 [.inr (.inr th), .inr (.inr a0)] I J Rf G (some (.inl r)) I1 J Rf G := by
  obtain ⟨e, rfl⟩ : ∃ e, d = e + 1 := ⟨d - 1, by omega⟩
  unfold m_63 at h
  refine sp_in (lo := [some (.inr (.inr th)), some (.inr (.inr a0)), none, none]) (B := (0, 0)) rfl (Nat.le_of_ble_eq_true rfl) rfl rfl ?_
  refine go_iconst (pc' := 1) (v := (nI 0)) rfl rfl rfl ?_
  refine go_istore_n (pc' := 2) (lo' := [some (.inr (.inr th)), some (.inr (.inr a0)), some (.inl (nI 0)), none]) rfl rfl rfl ?_
  refine go_iconst (pc' := 3) (v := (nI 0)) rfl rfl rfl ?_
  refine go_istore_n (pc' := 4) (lo' := [some (.inr (.inr th)), some (.inr (.inr a0)), some (.inl (nI 0)), some (.inl (nI 0))]) rfl rfl rfl ?_
  obtain ⟨q4, hl4, hc4_56⟩ := o_s1E h
  have ex4_56 : ∀ (w2_56 : Int32) (Ix_56 : ai_I) (z3_x56 : Option ai_V), (w2_56, Ix_56) = q4 → ai_Go si_t (5, false, 0, cd_63) (ai_Cl si_t si_ms e) (sp_Q (some (.inl r)) I1 J Rf G) 56 [some (.inr (.inr th)), some (.inr (.inr a0)), some (.inl w2_56), z3_x56] [] (0, 0) Ix_56 J Rf G := by
    intro w2_56 Ix_56 z3_x56 hq
    have h : m_63_x4_56 w2_56 Ix_56 = some (r, I1) := hc4_56 (w2_56, Ix_56) hq.symm
    unfold m_63_x4_56 at h
    refine go_iload_n (pc' := 57) rfl rfl rfl ?_
    cases h
    exact go_iret rfl (trivial) ⟨rfl, rfl, rfl, rfl, rfl⟩
  have lo4 : ∀ n s, lp (fun s => m_63_b4 th a0 Rf G s.1 s.2.1 s.2.2) n s = some q4 → (fun s => ai_Go si_t (5, false, 0, cd_63) (ai_Cl si_t si_ms e) (sp_Q (some (.inl r)) I1 J Rf G) 4 [some (.inr (.inr th)), some (.inr (.inr a0)), some (.inl s.1), some (.inl s.2.1)] [] (0, 0) s.2.2 J Rf G) s := lp_go (fun s x4 hx hk4 => by
    obtain ⟨v2_4, v3_4, I_4⟩ := s
    have h : m_63_b4 th a0 Rf G v2_4 v3_4 I_4 = some x4 := hx
    clear hx
    show ai_Go si_t (5, false, 0, cd_63) (ai_Cl si_t si_ms e) (sp_Q (some (.inl r)) I1 J Rf G) 4 [some (.inr (.inr th)), some (.inr (.inr a0)), some (.inl v2_4), some (.inl v3_4)] [] (0, 0) I_4 J Rf G
    unfold m_63_b4 at h
    refine go_iload_n (pc' := 5) rfl rfl rfl ?_
    refine go_aload_n (pc' := 6) rfl rfl rfl ?_
    obtain ⟨g0, h⟩ := o_gE h
    obtain ⟨r_6, q_6, h⟩ := o_b1E h
    refine go_callV (pc' := 9) (B' := (0, 0)) (st' := [.inl r_6, .inl v3_4]) rfl rfl (Or.inl (by decide)) rfl rfl (o_kdE g0) (md_85 (by omega) (o_kdE g0) q_6) rfl rfl rfl ?_
    refine go_icmp_ge (pt := 56) (pc' := 12) rfl rfl rfl (fun h9 => ?_) (fun h9 => ?_)
    · replace h := o_t h9 h
      exact ex4_56 _ _ (some (.inl v3_4)) (lp_exitE h hk4)
    · replace h := o_f h9 h
      refine go_iload_n (pc' := 13) rfl rfl rfl ?_
      obtain ⟨r_13, q_13, h⟩ := o_b1E h
      refine go_callS (pc' := 16) (B' := (0, 0)) (st' := [.inl r_13]) rfl rfl (Or.inl (by decide)) rfl rfl trivial (md_115 (by omega) q_13) rfl rfl rfl ?_
      refine go_aload_n (pc' := 17) rfl rfl rfl ?_
      refine go_getI (pc' := 20) rfl rfl (by decide) (by decide) (o_kdE g0) rfl ?_
      refine go_iconst (pc' := 21) (v := (nI 1)) rfl rfl rfl ?_
      refine go_isub (pc' := 22) rfl rfl ?_
      refine go_icmp_ne (pt := 50) (pc' := 25) rfl rfl rfl (fun h22 => ?_) (fun h22 => ?_)
      · replace h := o_f h22 h
        obtain ⟨x3_50, ex3_50, h⟩ := o_b1E h
        refine go_iincE (pc' := 53) rfl rfl (y := (nI 1)) rfl ex3_50 (lo' := [some (.inr (.inr th)), some (.inr (.inr a0)), some (.inl v2_4), some (.inl x3_50)]) rfl rfl ?_
        refine go_goto (pc' := 4) rfl rfl ?_
        exact (lp_backE h hk4 :)
      · replace h := o_t (Decidable.of_not_not h22) h
        refine go_aload_n (pc' := 26) rfl rfl rfl ?_
        refine go_iload_n (pc' := 27) rfl rfl rfl ?_
        obtain ⟨r_27, q_27, h⟩ := o_b1E h
        refine go_callV (pc' := 30) (B' := (0, 0)) (st' := [.inl r_27]) rfl rfl (Or.inl (by decide)) rfl rfl (o_kdE g0) (md_90 (by omega) (o_kdE g0) q_27) rfl rfl rfl ?_
        refine go_if_eq (pt := 50) (pc' := 33) rfl rfl rfl (fun h30 => ?_) (fun h30 => ?_)
        · replace h := o_t h30 h
          obtain ⟨x3_50, ex3_50, h⟩ := o_b1E h
          refine go_iincE (pc' := 53) rfl rfl (y := (nI 1)) rfl ex3_50 (lo' := [some (.inr (.inr th)), some (.inr (.inr a0)), some (.inl v2_4), some (.inl x3_50)]) rfl rfl ?_
          refine go_goto (pc' := 4) rfl rfl ?_
          exact (lp_backE h hk4 :)
        · replace h := o_f h30 h
          refine go_aload_n (pc' := 34) rfl rfl rfl ?_
          refine go_aload_n (pc' := 35) rfl rfl rfl ?_
          refine go_iload_n (pc' := 36) rfl rfl rfl ?_
          obtain ⟨I_36, q_36, h⟩ := o_b1E h
          refine go_callV (pc' := 39) (B' := (0, 0)) (st' := []) rfl rfl (Or.inl (by decide)) rfl rfl hth (md_58 (by omega) hth q_36) rfl rfl rfl ?_
          refine go_iload_n (pc' := 40) rfl rfl rfl ?_
          refine go_aload_n (pc' := 41) rfl rfl rfl ?_
          refine go_aload_n (pc' := 42) rfl rfl rfl ?_
          obtain ⟨r_42, q_42, h⟩ := o_b1E h
          refine go_callV (pc' := 45) (B' := (0, 0)) (st' := [.inl r_42, .inl v2_4]) rfl rfl (Or.inl (by decide)) rfl rfl hth (md_62 (by omega) hth q_42) rfl rfl rfl ?_
          obtain ⟨r_45, q_45, h⟩ := o_b1E h
          refine go_callS (pc' := 48) (B' := (0, 0)) (st' := [.inl r_45, .inl v2_4]) rfl rfl (Or.inl (by decide)) rfl rfl trivial (md_112 (by omega) q_45) rfl rfl rfl ?_
          refine go_iadd (pc' := 49) rfl rfl ?_
          obtain ⟨x2_49, ex2_49, h⟩ := o_b1E h
          refine go_ndI ex2_49 ?_
          refine go_istore_n (pc' := 50) (lo' := [some (.inr (.inr th)), some (.inr (.inr a0)), some (.inl x2_49), some (.inl v3_4)]) rfl rfl rfl ?_
          obtain ⟨x3_50, ex3_50, h⟩ := o_b1E h
          refine go_iincE (pc' := 53) rfl rfl (y := (nI 1)) rfl ex3_50 (lo' := [some (.inr (.inr th)), some (.inr (.inr a0)), some (.inl x2_49), some (.inl x3_50)]) rfl rfl ?_
          refine go_goto (pc' := 4) rfl rfl ?_
          exact (lp_backE h hk4 :))
  exact lo4 _ ((nI 0), (nI 0), I) hl4 
def m_64_x40_88 (Ix_88 : ai_I) (Jx_88 : ai_J) (Rx_88 : ai_R) (Gx_88 : ai_G) : Option (ai_I × ai_J × ai_R × ai_G) :=
  some (Ix_88, Jx_88, Rx_88, Gx_88)
def m_64_b40 (th : Nat) (v1_40 : Int32) (I_40 : ai_I) (J_40 : ai_J) (R_40 : ai_R) (G_40 : ai_G) : Option ((Int32 × ai_I × ai_J × ai_R × ai_G) ⊕ (ai_I × ai_J × ai_R × ai_G)) :=
  if (nI 4) ≤ v1_40 then (some (Sum.inr (I_40, J_40, R_40, G_40))) else (o_g (o_lt9 G_40) (o_b1 (some (va_up I_40 (G_40.2.2 + 1) (fun _ => 0))) (fun I_45 => o_b1 (some (va_up J_40 (G_40.2.2 + 1) (fun _ => 0))) (fun J_45 => o_b1 (some (va_up R_40 (G_40.2.2 + 1) (fun _ => 0))) (fun R_45 => o_b1 (some (va_up G_40.1 (G_40.2.2 + 1) 8, G_40.2.1, G_40.2.2 + 1)) (fun G_45 => o_b1 (some (G_40.2.2 + 1)) (fun n_45 => o_b3 (m_78 n_45 I_45 R_45 G_45) (fun I_49 R_49 G_49 => o_g (o_kd G_49 n_45 8) (o_b1 (m_79 n_45 (nI 2) (nI 1) I_49 R_49 G_49) (fun I_56 => o_b1 (m_80 n_45 (nI 1) (nI 0) I_56 R_49 G_49) (fun I_62 => o_b1 (m_80 n_45 (nI 2) (nI 0) I_62 R_49 G_49) (fun I_68 => o_b1 (m_81 n_45 I_68 R_49 G_49) (fun I_72 => o_g (o_kd G_49 th 6) (o_g (o_in G_49 15 (R_49 th 0) v1_40) (o_b1 (some (va_up R_49 (R_49 th 0) (va_up (R_49 (R_49 th 0)) v1_40.toNatClampNeg n_45))) (fun R_81 => o_b1 (some (v1_40 + (nI 1))) (fun x1_82 => some (Sum.inl (x1_82, I_72, J_45, R_81, G_49)))))))))))))))))))
/-- PricedBases$State.<init>()V -/
def m_64 (th : Nat) (I : ai_I) (J : ai_J) (Rf : ai_R) (G : ai_G) : Option (ai_I × ai_J × ai_R × ai_G) :=
  o_g (o_nn th) (o_g (o_lt9 G) (o_b1 (some (va_up Rf (G.2.2 + 1) (fun _ => 0))) (fun R_6 => o_b1 (some (va_up G.1 (G.2.2 + 1) 15, va_up G.2.1 (G.2.2 + 1) 4, G.2.2 + 1)) (fun G_6 => o_b1 (some (G.2.2 + 1)) (fun n_6 => o_g (o_kd G_6 th 6) (o_b1 (some (va_up R_6 th (va_up (R_6 th) 0 n_6))) (fun R_9 => o_g (o_lt9 G_6) (o_b1 (some (va_up I (G_6.2.2 + 1) (fun _ => 0))) (fun I_15 => o_b1 (some (va_up G_6.1 (G_6.2.2 + 1) 13, va_up G_6.2.1 (G_6.2.2 + 1) 8, G_6.2.2 + 1)) (fun G_15 => o_b1 (some (G_6.2.2 + 1)) (fun n_15 => o_g (o_kd G_15 th 6) (o_b1 (some (va_up R_9 th (va_up (R_9 th) 1 n_15))) (fun R_17 => o_g (o_lt9 G_15) (o_b1 (some (va_up I_15 (G_15.2.2 + 1) (fun _ => 0))) (fun I_23 => o_b1 (some (va_up G_15.1 (G_15.2.2 + 1) 13, va_up G_15.2.1 (G_15.2.2 + 1) 80, G_15.2.2 + 1)) (fun G_23 => o_b1 (some (G_15.2.2 + 1)) (fun n_23 => o_g (o_kd G_23 th 6) (o_b1 (some (va_up R_17 th (va_up (R_17 th) 2 n_23))) (fun R_25 => o_b1 (some (va_up I_23 th (va_up (I_23 th) 3 (nI 0)))) (fun I_30 => o_b1 (some (va_up I_30 th (va_up (I_30 th) 4 (nI 1)))) (fun I_35 => o_s1 (lp (fun s => m_64_b40 th s.1 s.2.1 s.2.2.1 s.2.2.2.1 s.2.2.2.2) o_N ((nI 0), I_35, J, R_25, G_23)) (fun t => m_64_x40_88 t.1 t.2.1 t.2.2.1 t.2.2.2))))))))))))))))))))))
theorem md_64 {d : Nat} {I : ai_I} {J : ai_J} {Rf : ai_R} {G : ai_G} {th : Nat} {I1 : ai_I} {J1 : ai_J} {R1 : ai_R} {G1 : ai_G} (hd : 4 ≤ d) (hth : G.1 th = 6) (h : m_64 th I J Rf G = some (I1, J1, R1, G1)) : ai_Cl si_t si_ms d 64 [.inr (.inr th)] I J Rf G none I1 J1 R1 G1 := by
  obtain ⟨e, rfl⟩ : ∃ e, d = e + 1 := ⟨d - 1, by omega⟩
  unfold m_64 at h
  refine sp_in (lo := [some (.inr (.inr th)), none, none]) (B := (19, 2444)) rfl (Nat.le_of_ble_eq_true rfl) rfl rfl ?_
  refine go_aload_n (pc' := 1) rfl rfl rfl ?_
  obtain ⟨g0, h⟩ := o_gE h
  refine go_obj (pc' := 4) rfl rfl (o_nnE g0) (Nat.le_of_ble_eq_true rfl) rfl ?_
  refine go_aload_n (pc' := 5) rfl rfl rfl ?_
  refine go_iconst (pc' := 6) (v := (nI 4)) rfl rfl rfl ?_
  obtain ⟨g1, h⟩ := o_gE h
  refine go_newA (pc' := 9) (N := 4) rfl rfl (by decide) (by decide) (by decide) (by decide) (by decide) (o_lt9E g1) rfl ?_
  obtain ⟨R_6, eR_6, h⟩ := o_b1E h
  obtain ⟨G_6, eG_6, h⟩ := o_b1E h
  obtain ⟨n_6, en_6, h⟩ := o_b1E h
  refine go_ndMR eR_6 ?_
  refine go_ndMG eG_6 ?_
  refine go_ndR en_6 ?_
  refine go_ndB (B' := (18, 2440)) rfl ?_
  obtain ⟨g2, h⟩ := o_gE h
  obtain ⟨R_9, eR_9, h⟩ := o_b1E h
  refine go_putR (pc' := 12) rfl rfl (fun _ => ⟨rfl, rfl⟩) (o_kdE g2) rfl ?_
  refine go_ndMR eR_9 ?_
  refine go_aload_n (pc' := 13) rfl rfl rfl ?_
  refine go_bipush (pc' := 15) (v := (nI 8)) rfl rfl rfl ?_
  obtain ⟨g3, h⟩ := o_gE h
  refine go_newI (pc' := 17) (N := 8) rfl (by decide) (by decide) (by decide) (by decide) (by decide) (o_lt9E g3) rfl ?_
  obtain ⟨I_15, eI_15, h⟩ := o_b1E h
  obtain ⟨G_15, eG_15, h⟩ := o_b1E h
  obtain ⟨n_15, en_15, h⟩ := o_b1E h
  refine go_ndMI eI_15 ?_
  refine go_ndMG eG_15 ?_
  refine go_ndR en_15 ?_
  refine go_ndB (B' := (17, 2432)) rfl ?_
  obtain ⟨g4, h⟩ := o_gE h
  obtain ⟨R_17, eR_17, h⟩ := o_b1E h
  refine go_putR (pc' := 20) rfl rfl (fun _ => ⟨rfl, rfl⟩) (o_kdE g4) rfl ?_
  refine go_ndMR eR_17 ?_
  refine go_aload_n (pc' := 21) rfl rfl rfl ?_
  refine go_bipush (pc' := 23) (v := (nI 80)) rfl rfl rfl ?_
  obtain ⟨g5, h⟩ := o_gE h
  refine go_newI (pc' := 25) (N := 80) rfl (by decide) (by decide) (by decide) (by decide) (by decide) (o_lt9E g5) rfl ?_
  obtain ⟨I_23, eI_23, h⟩ := o_b1E h
  obtain ⟨G_23, eG_23, h⟩ := o_b1E h
  obtain ⟨n_23, en_23, h⟩ := o_b1E h
  refine go_ndMI eI_23 ?_
  refine go_ndMG eG_23 ?_
  refine go_ndR en_23 ?_
  refine go_ndB (B' := (16, 2352)) rfl ?_
  obtain ⟨g6, h⟩ := o_gE h
  obtain ⟨R_25, eR_25, h⟩ := o_b1E h
  refine go_putR (pc' := 28) rfl rfl (fun _ => ⟨rfl, rfl⟩) (o_kdE g6) rfl ?_
  refine go_ndMR eR_25 ?_
  refine go_aload_n (pc' := 29) rfl rfl rfl ?_
  refine go_iconst (pc' := 30) (v := (nI 0)) rfl rfl rfl ?_
  obtain ⟨I_30, eI_30, h⟩ := o_b1E h
  refine go_putI (pc' := 33) rfl rfl (fun h => by cases h) (o_kdE g6) rfl ?_
  refine go_ndMI eI_30 ?_
  refine go_aload_n (pc' := 34) rfl rfl rfl ?_
  refine go_iconst (pc' := 35) (v := (nI 1)) rfl rfl rfl ?_
  obtain ⟨I_35, eI_35, h⟩ := o_b1E h
  refine go_putI (pc' := 38) rfl rfl (fun h => by cases h) (o_kdE g6) rfl ?_
  refine go_ndMI eI_35 ?_
  refine go_iconst (pc' := 39) (v := (nI 0)) rfl rfl rfl ?_
  refine go_istore_n (pc' := 40) (lo' := [some (.inr (.inr th)), some (.inl (nI 0)), none]) rfl rfl rfl ?_
  obtain ⟨q40, hl40, hc40_88⟩ := o_s1E h
  have ex40_88 : ∀ (Ix_88 : ai_I) (Jx_88 : ai_J) (Rx_88 : ai_R) (Gx_88 : ai_G) (z1_x88 : Option ai_V) (z2_x88 : Option ai_V), (Ix_88, Jx_88, Rx_88, Gx_88) = q40 → ai_Go si_t (6, true, 9, cd_64) (ai_Cl si_t si_ms e) (sp_Q none I1 J1 R1 G1) 88 [some (.inr (.inr th)), z1_x88, z2_x88] [] (0, 0) Ix_88 Jx_88 Rx_88 Gx_88 := by
    intro Ix_88 Jx_88 Rx_88 Gx_88 z1_x88 z2_x88 hq
    have h : m_64_x40_88 Ix_88 Jx_88 Rx_88 Gx_88 = some (I1, J1, R1, G1) := hc40_88 (Ix_88, Jx_88, Rx_88, Gx_88) hq.symm
    unfold m_64_x40_88 at h
    cases h
    exact go_vret rfl (rfl) ⟨rfl, rfl, rfl, rfl, rfl⟩
  have lo40 : ∀ n s, lp (fun s => m_64_b40 th s.1 s.2.1 s.2.2.1 s.2.2.2.1 s.2.2.2.2) n s = some q40 → (fun s => ∀ (z2_40 : Option ai_V) (k : Nat), s.1 = nI k → k ≤ 4 → ai_Go si_t (6, true, 9, cd_64) (ai_Cl si_t si_ms e) (sp_Q none I1 J1 R1 G1) 40 [some (.inr (.inr th)), some (.inl s.1), z2_40] [] (16 - 4 * k, 2352 - 588 * k) s.2.1 s.2.2.1 s.2.2.2.1 s.2.2.2.2) s := lp_go (fun s x40 hx hk40 => by
    obtain ⟨v1_40, I_40, J_40, R_40, G_40⟩ := s
    intro z2_40 k hk hle
    replace hk : v1_40 = nI k := hk
    have h : m_64_b40 th v1_40 I_40 J_40 R_40 G_40 = some x40 := hx
    clear hx
    show ai_Go si_t (6, true, 9, cd_64) (ai_Cl si_t si_ms e) (sp_Q none I1 J1 R1 G1) 40 [some (.inr (.inr th)), some (.inl v1_40), z2_40] [] (16 - 4 * k, 2352 - 588 * k) I_40 J_40 R_40 G_40
    unfold m_64_b40 at h
    rcases (show k = 0 ∨ k = 1 ∨ k = 2 ∨ k = 3 ∨ k = 4 by omega) with rfl | rfl | rfl | rfl | rfl
    · refine go_ndB (B' := (16, 2352)) rfl ?_
      refine go_iload_n (pc' := 41) rfl rfl rfl ?_
      refine go_iconst (pc' := 42) (v := (nI 4)) rfl rfl rfl ?_
      refine go_icmp_ge (pt := 88) (pc' := 45) rfl rfl rfl (fun h42 => ?_) (fun h42 => ?_)
      · replace h := o_t h42 h
        exact absurd (show nI 4 ≤ nI 0 by rw [← hk]; exact h42) (by decide)
      · replace h := o_f h42 h
        obtain ⟨g7, h⟩ := o_gE h
        refine go_new (pc' := 48) (q := 8) (nf := 6) rfl rfl rfl (by decide) (by decide) (o_lt9E g7) rfl ?_
        obtain ⟨I_45, eI_45, h⟩ := o_b1E h
        obtain ⟨J_45, eJ_45, h⟩ := o_b1E h
        obtain ⟨R_45, eR_45, h⟩ := o_b1E h
        obtain ⟨G_45, eG_45, h⟩ := o_b1E h
        obtain ⟨n_45, en_45, h⟩ := o_b1E h
        refine go_ndMI eI_45 ?_
        refine go_ndMJ eJ_45 ?_
        refine go_ndMR eR_45 ?_
        refine go_ndMG eG_45 ?_
        refine go_ndR en_45 ?_
        have gk_45 : G_45.1 n_45 = 8 := o_newK en_45 eG_45
        refine go_ndB (B' := (15, 2346)) rfl ?_
        refine go_dupR (pc' := 49) rfl rfl ?_
        obtain ⟨I_49, R_49, G_49, q_49, h⟩ := o_b3E h
        refine go_callI (pc' := 52) (B' := (12, 1764)) (st' := [.inr (.inr n_45)]) rfl rfl (Or.inl (by decide)) rfl rfl gk_45 (md_78 (by omega) gk_45 q_49) rfl rfl rfl ?_
        refine go_astore_n (pc' := 53) (lo' := [some (.inr (.inr th)), some (.inl v1_40), some (.inr (.inr n_45))]) rfl rfl rfl ?_
        refine go_aload_n (pc' := 54) rfl rfl rfl ?_
        refine go_iconst (pc' := 55) (v := (nI 2)) rfl rfl rfl ?_
        refine go_iconst (pc' := 56) (v := (nI 1)) rfl rfl rfl ?_
        obtain ⟨g8, h⟩ := o_gE h
        obtain ⟨I_56, q_56, h⟩ := o_b1E h
        refine go_callV (pc' := 59) (B' := (12, 1764)) (st' := []) rfl rfl (Or.inl (by decide)) rfl rfl (o_kdE g8) (md_79 (by omega) (o_kdE g8) q_56) rfl rfl rfl ?_
        refine go_aload_n (pc' := 60) rfl rfl rfl ?_
        refine go_iconst (pc' := 61) (v := (nI 1)) rfl rfl rfl ?_
        refine go_iconst (pc' := 62) (v := (nI 0)) rfl rfl rfl ?_
        obtain ⟨I_62, q_62, h⟩ := o_b1E h
        refine go_callV (pc' := 65) (B' := (12, 1764)) (st' := []) rfl rfl (Or.inl (by decide)) rfl rfl (o_kdE g8) (md_80 (by omega) (o_kdE g8) q_62) rfl rfl rfl ?_
        refine go_aload_n (pc' := 66) rfl rfl rfl ?_
        refine go_iconst (pc' := 67) (v := (nI 2)) rfl rfl rfl ?_
        refine go_iconst (pc' := 68) (v := (nI 0)) rfl rfl rfl ?_
        obtain ⟨I_68, q_68, h⟩ := o_b1E h
        refine go_callV (pc' := 71) (B' := (12, 1764)) (st' := []) rfl rfl (Or.inl (by decide)) rfl rfl (o_kdE g8) (md_80 (by omega) (o_kdE g8) q_68) rfl rfl rfl ?_
        refine go_aload_n (pc' := 72) rfl rfl rfl ?_
        obtain ⟨I_72, q_72, h⟩ := o_b1E h
        refine go_callV (pc' := 75) (B' := (12, 1764)) (st' := []) rfl rfl (Or.inl (by decide)) rfl rfl (o_kdE g8) (md_81 (by omega) (o_kdE g8) q_72) rfl rfl rfl ?_
        refine go_aload_n (pc' := 76) rfl rfl rfl ?_
        obtain ⟨g9, h⟩ := o_gE h
        refine go_getR (pc' := 79) rfl rfl (o_kdE g9) rfl ?_
        refine go_iload_n (pc' := 80) rfl rfl rfl ?_
        refine go_aload_n (pc' := 81) rfl rfl rfl ?_
        obtain ⟨g10, h⟩ := o_gE h
        obtain ⟨R_81, eR_81, h⟩ := o_b1E h
        refine go_aastore (pc' := 82) rfl (o_inK g10) (o_inB g10) (o_kdE g8) rfl ?_
        refine go_ndMR eR_81 ?_
        obtain ⟨x1_82, ex1_82, h⟩ := o_b1E h
        refine go_iincE (pc' := 85) rfl rfl (y := (nI 1)) rfl ex1_82 (lo' := [some (.inr (.inr th)), some (.inl x1_82), some (.inr (.inr n_45))]) rfl rfl ?_
        refine go_goto (pc' := 40) rfl rfl ?_
        exact (lp_backE h hk40 (some (.inr (.inr n_45))) 1 (by cases ex1_82; rw [hk]; rfl) (by decide) :)
    · refine go_ndB (B' := (12, 1764)) rfl ?_
      refine go_iload_n (pc' := 41) rfl rfl rfl ?_
      refine go_iconst (pc' := 42) (v := (nI 4)) rfl rfl rfl ?_
      refine go_icmp_ge (pt := 88) (pc' := 45) rfl rfl rfl (fun h42 => ?_) (fun h42 => ?_)
      · replace h := o_t h42 h
        exact absurd (show nI 4 ≤ nI 1 by rw [← hk]; exact h42) (by decide)
      · replace h := o_f h42 h
        obtain ⟨g11, h⟩ := o_gE h
        refine go_new (pc' := 48) (q := 8) (nf := 6) rfl rfl rfl (by decide) (by decide) (o_lt9E g11) rfl ?_
        obtain ⟨I_45, eI_45, h⟩ := o_b1E h
        obtain ⟨J_45, eJ_45, h⟩ := o_b1E h
        obtain ⟨R_45, eR_45, h⟩ := o_b1E h
        obtain ⟨G_45, eG_45, h⟩ := o_b1E h
        obtain ⟨n_45, en_45, h⟩ := o_b1E h
        refine go_ndMI eI_45 ?_
        refine go_ndMJ eJ_45 ?_
        refine go_ndMR eR_45 ?_
        refine go_ndMG eG_45 ?_
        refine go_ndR en_45 ?_
        have gk_45 : G_45.1 n_45 = 8 := o_newK en_45 eG_45
        refine go_ndB (B' := (11, 1758)) rfl ?_
        refine go_dupR (pc' := 49) rfl rfl ?_
        obtain ⟨I_49, R_49, G_49, q_49, h⟩ := o_b3E h
        refine go_callI (pc' := 52) (B' := (8, 1176)) (st' := [.inr (.inr n_45)]) rfl rfl (Or.inl (by decide)) rfl rfl gk_45 (md_78 (by omega) gk_45 q_49) rfl rfl rfl ?_
        refine go_astore_n (pc' := 53) (lo' := [some (.inr (.inr th)), some (.inl v1_40), some (.inr (.inr n_45))]) rfl rfl rfl ?_
        refine go_aload_n (pc' := 54) rfl rfl rfl ?_
        refine go_iconst (pc' := 55) (v := (nI 2)) rfl rfl rfl ?_
        refine go_iconst (pc' := 56) (v := (nI 1)) rfl rfl rfl ?_
        obtain ⟨g12, h⟩ := o_gE h
        obtain ⟨I_56, q_56, h⟩ := o_b1E h
        refine go_callV (pc' := 59) (B' := (8, 1176)) (st' := []) rfl rfl (Or.inl (by decide)) rfl rfl (o_kdE g12) (md_79 (by omega) (o_kdE g12) q_56) rfl rfl rfl ?_
        refine go_aload_n (pc' := 60) rfl rfl rfl ?_
        refine go_iconst (pc' := 61) (v := (nI 1)) rfl rfl rfl ?_
        refine go_iconst (pc' := 62) (v := (nI 0)) rfl rfl rfl ?_
        obtain ⟨I_62, q_62, h⟩ := o_b1E h
        refine go_callV (pc' := 65) (B' := (8, 1176)) (st' := []) rfl rfl (Or.inl (by decide)) rfl rfl (o_kdE g12) (md_80 (by omega) (o_kdE g12) q_62) rfl rfl rfl ?_
        refine go_aload_n (pc' := 66) rfl rfl rfl ?_
        refine go_iconst (pc' := 67) (v := (nI 2)) rfl rfl rfl ?_
        refine go_iconst (pc' := 68) (v := (nI 0)) rfl rfl rfl ?_
        obtain ⟨I_68, q_68, h⟩ := o_b1E h
        refine go_callV (pc' := 71) (B' := (8, 1176)) (st' := []) rfl rfl (Or.inl (by decide)) rfl rfl (o_kdE g12) (md_80 (by omega) (o_kdE g12) q_68) rfl rfl rfl ?_
        refine go_aload_n (pc' := 72) rfl rfl rfl ?_
        obtain ⟨I_72, q_72, h⟩ := o_b1E h
        refine go_callV (pc' := 75) (B' := (8, 1176)) (st' := []) rfl rfl (Or.inl (by decide)) rfl rfl (o_kdE g12) (md_81 (by omega) (o_kdE g12) q_72) rfl rfl rfl ?_
        refine go_aload_n (pc' := 76) rfl rfl rfl ?_
        obtain ⟨g13, h⟩ := o_gE h
        refine go_getR (pc' := 79) rfl rfl (o_kdE g13) rfl ?_
        refine go_iload_n (pc' := 80) rfl rfl rfl ?_
        refine go_aload_n (pc' := 81) rfl rfl rfl ?_
        obtain ⟨g14, h⟩ := o_gE h
        obtain ⟨R_81, eR_81, h⟩ := o_b1E h
        refine go_aastore (pc' := 82) rfl (o_inK g14) (o_inB g14) (o_kdE g12) rfl ?_
        refine go_ndMR eR_81 ?_
        obtain ⟨x1_82, ex1_82, h⟩ := o_b1E h
        refine go_iincE (pc' := 85) rfl rfl (y := (nI 1)) rfl ex1_82 (lo' := [some (.inr (.inr th)), some (.inl x1_82), some (.inr (.inr n_45))]) rfl rfl ?_
        refine go_goto (pc' := 40) rfl rfl ?_
        exact (lp_backE h hk40 (some (.inr (.inr n_45))) 2 (by cases ex1_82; rw [hk]; rfl) (by decide) :)
    · refine go_ndB (B' := (8, 1176)) rfl ?_
      refine go_iload_n (pc' := 41) rfl rfl rfl ?_
      refine go_iconst (pc' := 42) (v := (nI 4)) rfl rfl rfl ?_
      refine go_icmp_ge (pt := 88) (pc' := 45) rfl rfl rfl (fun h42 => ?_) (fun h42 => ?_)
      · replace h := o_t h42 h
        exact absurd (show nI 4 ≤ nI 2 by rw [← hk]; exact h42) (by decide)
      · replace h := o_f h42 h
        obtain ⟨g15, h⟩ := o_gE h
        refine go_new (pc' := 48) (q := 8) (nf := 6) rfl rfl rfl (by decide) (by decide) (o_lt9E g15) rfl ?_
        obtain ⟨I_45, eI_45, h⟩ := o_b1E h
        obtain ⟨J_45, eJ_45, h⟩ := o_b1E h
        obtain ⟨R_45, eR_45, h⟩ := o_b1E h
        obtain ⟨G_45, eG_45, h⟩ := o_b1E h
        obtain ⟨n_45, en_45, h⟩ := o_b1E h
        refine go_ndMI eI_45 ?_
        refine go_ndMJ eJ_45 ?_
        refine go_ndMR eR_45 ?_
        refine go_ndMG eG_45 ?_
        refine go_ndR en_45 ?_
        have gk_45 : G_45.1 n_45 = 8 := o_newK en_45 eG_45
        refine go_ndB (B' := (7, 1170)) rfl ?_
        refine go_dupR (pc' := 49) rfl rfl ?_
        obtain ⟨I_49, R_49, G_49, q_49, h⟩ := o_b3E h
        refine go_callI (pc' := 52) (B' := (4, 588)) (st' := [.inr (.inr n_45)]) rfl rfl (Or.inl (by decide)) rfl rfl gk_45 (md_78 (by omega) gk_45 q_49) rfl rfl rfl ?_
        refine go_astore_n (pc' := 53) (lo' := [some (.inr (.inr th)), some (.inl v1_40), some (.inr (.inr n_45))]) rfl rfl rfl ?_
        refine go_aload_n (pc' := 54) rfl rfl rfl ?_
        refine go_iconst (pc' := 55) (v := (nI 2)) rfl rfl rfl ?_
        refine go_iconst (pc' := 56) (v := (nI 1)) rfl rfl rfl ?_
        obtain ⟨g16, h⟩ := o_gE h
        obtain ⟨I_56, q_56, h⟩ := o_b1E h
        refine go_callV (pc' := 59) (B' := (4, 588)) (st' := []) rfl rfl (Or.inl (by decide)) rfl rfl (o_kdE g16) (md_79 (by omega) (o_kdE g16) q_56) rfl rfl rfl ?_
        refine go_aload_n (pc' := 60) rfl rfl rfl ?_
        refine go_iconst (pc' := 61) (v := (nI 1)) rfl rfl rfl ?_
        refine go_iconst (pc' := 62) (v := (nI 0)) rfl rfl rfl ?_
        obtain ⟨I_62, q_62, h⟩ := o_b1E h
        refine go_callV (pc' := 65) (B' := (4, 588)) (st' := []) rfl rfl (Or.inl (by decide)) rfl rfl (o_kdE g16) (md_80 (by omega) (o_kdE g16) q_62) rfl rfl rfl ?_
        refine go_aload_n (pc' := 66) rfl rfl rfl ?_
        refine go_iconst (pc' := 67) (v := (nI 2)) rfl rfl rfl ?_
        refine go_iconst (pc' := 68) (v := (nI 0)) rfl rfl rfl ?_
        obtain ⟨I_68, q_68, h⟩ := o_b1E h
        refine go_callV (pc' := 71) (B' := (4, 588)) (st' := []) rfl rfl (Or.inl (by decide)) rfl rfl (o_kdE g16) (md_80 (by omega) (o_kdE g16) q_68) rfl rfl rfl ?_
        refine go_aload_n (pc' := 72) rfl rfl rfl ?_
        obtain ⟨I_72, q_72, h⟩ := o_b1E h
        refine go_callV (pc' := 75) (B' := (4, 588)) (st' := []) rfl rfl (Or.inl (by decide)) rfl rfl (o_kdE g16) (md_81 (by omega) (o_kdE g16) q_72) rfl rfl rfl ?_
        refine go_aload_n (pc' := 76) rfl rfl rfl ?_
        obtain ⟨g17, h⟩ := o_gE h
        refine go_getR (pc' := 79) rfl rfl (o_kdE g17) rfl ?_
        refine go_iload_n (pc' := 80) rfl rfl rfl ?_
        refine go_aload_n (pc' := 81) rfl rfl rfl ?_
        obtain ⟨g18, h⟩ := o_gE h
        obtain ⟨R_81, eR_81, h⟩ := o_b1E h
        refine go_aastore (pc' := 82) rfl (o_inK g18) (o_inB g18) (o_kdE g16) rfl ?_
        refine go_ndMR eR_81 ?_
        obtain ⟨x1_82, ex1_82, h⟩ := o_b1E h
        refine go_iincE (pc' := 85) rfl rfl (y := (nI 1)) rfl ex1_82 (lo' := [some (.inr (.inr th)), some (.inl x1_82), some (.inr (.inr n_45))]) rfl rfl ?_
        refine go_goto (pc' := 40) rfl rfl ?_
        exact (lp_backE h hk40 (some (.inr (.inr n_45))) 3 (by cases ex1_82; rw [hk]; rfl) (by decide) :)
    · refine go_ndB (B' := (4, 588)) rfl ?_
      refine go_iload_n (pc' := 41) rfl rfl rfl ?_
      refine go_iconst (pc' := 42) (v := (nI 4)) rfl rfl rfl ?_
      refine go_icmp_ge (pt := 88) (pc' := 45) rfl rfl rfl (fun h42 => ?_) (fun h42 => ?_)
      · replace h := o_t h42 h
        exact absurd (show nI 4 ≤ nI 3 by rw [← hk]; exact h42) (by decide)
      · replace h := o_f h42 h
        obtain ⟨g19, h⟩ := o_gE h
        refine go_new (pc' := 48) (q := 8) (nf := 6) rfl rfl rfl (by decide) (by decide) (o_lt9E g19) rfl ?_
        obtain ⟨I_45, eI_45, h⟩ := o_b1E h
        obtain ⟨J_45, eJ_45, h⟩ := o_b1E h
        obtain ⟨R_45, eR_45, h⟩ := o_b1E h
        obtain ⟨G_45, eG_45, h⟩ := o_b1E h
        obtain ⟨n_45, en_45, h⟩ := o_b1E h
        refine go_ndMI eI_45 ?_
        refine go_ndMJ eJ_45 ?_
        refine go_ndMR eR_45 ?_
        refine go_ndMG eG_45 ?_
        refine go_ndR en_45 ?_
        have gk_45 : G_45.1 n_45 = 8 := o_newK en_45 eG_45
        refine go_ndB (B' := (3, 582)) rfl ?_
        refine go_dupR (pc' := 49) rfl rfl ?_
        obtain ⟨I_49, R_49, G_49, q_49, h⟩ := o_b3E h
        refine go_callI (pc' := 52) (B' := (0, 0)) (st' := [.inr (.inr n_45)]) rfl rfl (Or.inl (by decide)) rfl rfl gk_45 (md_78 (by omega) gk_45 q_49) rfl rfl rfl ?_
        refine go_astore_n (pc' := 53) (lo' := [some (.inr (.inr th)), some (.inl v1_40), some (.inr (.inr n_45))]) rfl rfl rfl ?_
        refine go_aload_n (pc' := 54) rfl rfl rfl ?_
        refine go_iconst (pc' := 55) (v := (nI 2)) rfl rfl rfl ?_
        refine go_iconst (pc' := 56) (v := (nI 1)) rfl rfl rfl ?_
        obtain ⟨g20, h⟩ := o_gE h
        obtain ⟨I_56, q_56, h⟩ := o_b1E h
        refine go_callV (pc' := 59) (B' := (0, 0)) (st' := []) rfl rfl (Or.inl (by decide)) rfl rfl (o_kdE g20) (md_79 (by omega) (o_kdE g20) q_56) rfl rfl rfl ?_
        refine go_aload_n (pc' := 60) rfl rfl rfl ?_
        refine go_iconst (pc' := 61) (v := (nI 1)) rfl rfl rfl ?_
        refine go_iconst (pc' := 62) (v := (nI 0)) rfl rfl rfl ?_
        obtain ⟨I_62, q_62, h⟩ := o_b1E h
        refine go_callV (pc' := 65) (B' := (0, 0)) (st' := []) rfl rfl (Or.inl (by decide)) rfl rfl (o_kdE g20) (md_80 (by omega) (o_kdE g20) q_62) rfl rfl rfl ?_
        refine go_aload_n (pc' := 66) rfl rfl rfl ?_
        refine go_iconst (pc' := 67) (v := (nI 2)) rfl rfl rfl ?_
        refine go_iconst (pc' := 68) (v := (nI 0)) rfl rfl rfl ?_
        obtain ⟨I_68, q_68, h⟩ := o_b1E h
        refine go_callV (pc' := 71) (B' := (0, 0)) (st' := []) rfl rfl (Or.inl (by decide)) rfl rfl (o_kdE g20) (md_80 (by omega) (o_kdE g20) q_68) rfl rfl rfl ?_
        refine go_aload_n (pc' := 72) rfl rfl rfl ?_
        obtain ⟨I_72, q_72, h⟩ := o_b1E h
        refine go_callV (pc' := 75) (B' := (0, 0)) (st' := []) rfl rfl (Or.inl (by decide)) rfl rfl (o_kdE g20) (md_81 (by omega) (o_kdE g20) q_72) rfl rfl rfl ?_
        refine go_aload_n (pc' := 76) rfl rfl rfl ?_
        obtain ⟨g21, h⟩ := o_gE h
        refine go_getR (pc' := 79) rfl rfl (o_kdE g21) rfl ?_
        refine go_iload_n (pc' := 80) rfl rfl rfl ?_
        refine go_aload_n (pc' := 81) rfl rfl rfl ?_
        obtain ⟨g22, h⟩ := o_gE h
        obtain ⟨R_81, eR_81, h⟩ := o_b1E h
        refine go_aastore (pc' := 82) rfl (o_inK g22) (o_inB g22) (o_kdE g20) rfl ?_
        refine go_ndMR eR_81 ?_
        obtain ⟨x1_82, ex1_82, h⟩ := o_b1E h
        refine go_iincE (pc' := 85) rfl rfl (y := (nI 1)) rfl ex1_82 (lo' := [some (.inr (.inr th)), some (.inl x1_82), some (.inr (.inr n_45))]) rfl rfl ?_
        refine go_goto (pc' := 40) rfl rfl ?_
        exact (lp_backE h hk40 (some (.inr (.inr n_45))) 4 (by cases ex1_82; rw [hk]; rfl) (by decide) :)
    · refine go_ndB (B' := (0, 0)) rfl ?_
      refine go_iload_n (pc' := 41) rfl rfl rfl ?_
      refine go_iconst (pc' := 42) (v := (nI 4)) rfl rfl rfl ?_
      refine go_icmp_ge (pt := 88) (pc' := 45) rfl rfl rfl (fun h42 => ?_) (fun h42 => ?_)
      · replace h := o_t h42 h
        exact ex40_88 _ _ _ _ (some (.inl v1_40)) z2_40 (lp_exitE h hk40)
      · replace h := o_f h42 h
        exact (h42 (by rw [hk]; decide)).elim)
  exact lo40 _ ((nI 0), I_35, J, R_25, G_23) hl40 none 0 rfl (by decide)
/-- PricedBases$State.setPrice(II)V -/
def m_66 (th : Nat) (a0 : Int32) (a1 : Int32) (I : ai_I) (Rf : ai_R) (G : ai_G) : Option (ai_I) :=
  if a0 < 0 then (some I) else (if (nI 8) ≤ a0 then (some I) else (o_g (o_in G 13 (Rf th 1) a0) (o_b1 (some (va_up I (Rf th 1) (va_up (I (Rf th 1)) a0.toNatClampNeg a1))) (fun I_16 => some I_16))))
theorem md_66 {d : Nat} {I : ai_I} {J : ai_J} {Rf : ai_R} {G : ai_G} {th : Nat} {a0 : Int32} {a1 : Int32} {I1 : ai_I} (hd : 1 ≤ d) (hth : G.1 th = 6) (h : m_66 th a0 a1 I Rf G = some I1) : ai_Cl si_t si_ms d 66 [.inr (.inr th), .inl a0, .inl a1] I J Rf G none I1 J Rf G := by
  obtain ⟨e, rfl⟩ : ∃ e, d = e + 1 := ⟨d - 1, by omega⟩
  unfold m_66 at h
  refine sp_in (lo := [some (.inr (.inr th)), some (.inl a0), some (.inl a1)]) (B := (0, 0)) rfl (Nat.le_of_ble_eq_true rfl) rfl rfl ?_
  refine go_iload_n (pc' := 1) rfl rfl rfl ?_
  refine go_if_lt (pt := 17) (pc' := 4) rfl rfl rfl (fun h1 => ?_) (fun h1 => ?_)
  · replace h := o_t h1 h
    cases h
    exact go_vret rfl (rfl) ⟨rfl, rfl, rfl, rfl, rfl⟩
  · replace h := o_f h1 h
    refine go_iload_n (pc' := 5) rfl rfl rfl ?_
    refine go_bipush (pc' := 7) (v := (nI 8)) rfl rfl rfl ?_
    refine go_icmp_ge (pt := 17) (pc' := 10) rfl rfl rfl (fun h7 => ?_) (fun h7 => ?_)
    · replace h := o_t h7 h
      cases h
      exact go_vret rfl (rfl) ⟨rfl, rfl, rfl, rfl, rfl⟩
    · replace h := o_f h7 h
      refine go_aload_n (pc' := 11) rfl rfl rfl ?_
      refine go_getR (pc' := 14) rfl rfl hth rfl ?_
      refine go_iload_n (pc' := 15) rfl rfl rfl ?_
      refine go_iload_n (pc' := 16) rfl rfl rfl ?_
      obtain ⟨g0, h⟩ := o_gE h
      obtain ⟨I_16, eI_16, h⟩ := o_b1E h
      refine go_iastore (pc' := 17) rfl (o_inK g0) (o_inB g0) rfl ?_
      refine go_ndMI eI_16 ?_
      cases h
      exact go_vret rfl (rfl) ⟨rfl, rfl, rfl, rfl, rfl⟩
/-- PricedBases$State.note(IIII)V -/
def m_67 (th : Nat) (a0 : Int32) (a1 : Int32) (a2 : Int32) (a3 : Int32) (I : ai_I) (Rf : ai_R) (G : ai_G) : Option (ai_I) :=
  o_g (o_cpy G (Rf th 2) (Rf th 2) (nI 0) (nI 4) (nI 76)) (o_b1 (some (va_up I (Rf th 2) (va_cpy (I (Rf th 2)) (I (Rf th 2)) (nI 0).toNatClampNeg (nI 4).toNatClampNeg (nI 76).toNatClampNeg))) (fun I_12 => o_g (o_in G 13 (Rf th 2) (nI 0)) (o_b1 (some (va_up I_12 (Rf th 2) (va_up (I_12 (Rf th 2)) (nI 0).toNatClampNeg a0))) (fun I_21 => o_g (o_in G 13 (Rf th 2) (nI 1)) (o_b1 (some (va_up I_21 (Rf th 2) (va_up (I_21 (Rf th 2)) (nI 1).toNatClampNeg a1))) (fun I_28 => o_g (o_in G 13 (Rf th 2) (nI 2)) (o_b1 (some (va_up I_28 (Rf th 2) (va_up (I_28 (Rf th 2)) (nI 2).toNatClampNeg a2))) (fun I_35 => o_g (o_in G 13 (Rf th 2) (nI 3)) (o_b1 (some (va_up I_35 (Rf th 2) (va_up (I_35 (Rf th 2)) (nI 3).toNatClampNeg a3))) (fun I_43 => o_b1 (some (if (nI 20) < ((I_43 th 3) + (nI 1)) then (nI 20) else ((I_43 th 3) + (nI 1)))) (fun r_53 => o_b1 (some (va_up I_43 th (va_up (I_43 th) 3 r_53))) (fun I_56 => some I_56))))))))))))
theorem md_67 {d : Nat} {I : ai_I} {J : ai_J} {Rf : ai_R} {G : ai_G} {th : Nat} {a0 : Int32} {a1 : Int32} {a2 : Int32} {a3 : Int32} {I1 : ai_I} (hd : 1 ≤ d) (hth : G.1 th = 6) (h : m_67 th a0 a1 a2 a3 I Rf G = some I1) : ai_Cl si_t si_ms d 67 [.inr (.inr th), .inl a0, .inl a1, .inl a2, .inl a3] I J Rf G none I1 J Rf G := by
  obtain ⟨e, rfl⟩ : ∃ e, d = e + 1 := ⟨d - 1, by omega⟩
  unfold m_67 at h
  refine sp_in (lo := [some (.inr (.inr th)), some (.inl a0), some (.inl a1), some (.inl a2), some (.inl a3)]) (B := (0, 0)) rfl (Nat.le_of_ble_eq_true rfl) rfl rfl ?_
  refine go_aload_n (pc' := 1) rfl rfl rfl ?_
  refine go_getR (pc' := 4) rfl rfl hth rfl ?_
  refine go_iconst (pc' := 5) (v := (nI 0)) rfl rfl rfl ?_
  refine go_aload_n (pc' := 6) rfl rfl rfl ?_
  refine go_getR (pc' := 9) rfl rfl hth rfl ?_
  refine go_iconst (pc' := 10) (v := (nI 4)) rfl rfl rfl ?_
  refine go_bipush (pc' := 12) (v := (nI 76)) rfl rfl rfl ?_
  obtain ⟨g0, h⟩ := o_gE h
  obtain ⟨I_12, eI_12, h⟩ := o_b1E h
  refine go_copy (pc' := 15) rfl rfl (o_cpyE g0) (Nat.le_of_ble_eq_true rfl) rfl ?_
  refine go_ndMI eI_12 ?_
  refine go_aload_n (pc' := 16) rfl rfl rfl ?_
  refine go_getR (pc' := 19) rfl rfl hth rfl ?_
  refine go_iconst (pc' := 20) (v := (nI 0)) rfl rfl rfl ?_
  refine go_iload_n (pc' := 21) rfl rfl rfl ?_
  obtain ⟨g1, h⟩ := o_gE h
  obtain ⟨I_21, eI_21, h⟩ := o_b1E h
  refine go_iastore (pc' := 22) rfl (o_inK g1) (o_inB g1) rfl ?_
  refine go_ndMI eI_21 ?_
  refine go_aload_n (pc' := 23) rfl rfl rfl ?_
  refine go_getR (pc' := 26) rfl rfl hth rfl ?_
  refine go_iconst (pc' := 27) (v := (nI 1)) rfl rfl rfl ?_
  refine go_iload_n (pc' := 28) rfl rfl rfl ?_
  obtain ⟨g2, h⟩ := o_gE h
  obtain ⟨I_28, eI_28, h⟩ := o_b1E h
  refine go_iastore (pc' := 29) rfl (o_inK g2) (o_inB g2) rfl ?_
  refine go_ndMI eI_28 ?_
  refine go_aload_n (pc' := 30) rfl rfl rfl ?_
  refine go_getR (pc' := 33) rfl rfl hth rfl ?_
  refine go_iconst (pc' := 34) (v := (nI 2)) rfl rfl rfl ?_
  refine go_iload_n (pc' := 35) rfl rfl rfl ?_
  obtain ⟨g3, h⟩ := o_gE h
  obtain ⟨I_35, eI_35, h⟩ := o_b1E h
  refine go_iastore (pc' := 36) rfl (o_inK g3) (o_inB g3) rfl ?_
  refine go_ndMI eI_35 ?_
  refine go_aload_n (pc' := 37) rfl rfl rfl ?_
  refine go_getR (pc' := 40) rfl rfl hth rfl ?_
  refine go_iconst (pc' := 41) (v := (nI 3)) rfl rfl rfl ?_
  refine go_iload (pc' := 43) rfl rfl rfl ?_
  obtain ⟨g4, h⟩ := o_gE h
  obtain ⟨I_43, eI_43, h⟩ := o_b1E h
  refine go_iastore (pc' := 44) rfl (o_inK g4) (o_inB g4) rfl ?_
  refine go_ndMI eI_43 ?_
  refine go_aload_n (pc' := 45) rfl rfl rfl ?_
  refine go_aload_n (pc' := 46) rfl rfl rfl ?_
  refine go_getI (pc' := 49) rfl rfl (by decide) (by decide) hth rfl ?_
  refine go_iconst (pc' := 50) (v := (nI 1)) rfl rfl rfl ?_
  refine go_iadd (pc' := 51) rfl rfl ?_
  refine go_bipush (pc' := 53) (v := (nI 20)) rfl rfl rfl ?_
  refine go_min (pc' := 56) rfl rfl (Nat.le_of_ble_eq_true rfl) rfl ?_
  obtain ⟨r_53, er_53, h⟩ := o_b1E h
  refine go_ndI er_53 ?_
  obtain ⟨I_56, eI_56, h⟩ := o_b1E h
  refine go_putI (pc' := 59) rfl rfl (fun h => by cases h) hth rfl ?_
  refine go_ndMI eI_56 ?_
  cases h
  exact go_vret rfl (rfl) ⟨rfl, rfl, rfl, rfl, rfl⟩
def m_68_x4_27 (w1_27 : Int32) : Option (Int32) :=
  some w1_27
def m_68_b4 (th : Nat) (I : ai_I) (Rf : ai_R) (G : ai_G) (v1_4 : Int32) (v2_4 : Int32) : Option ((Int32 × Int32) ⊕ Int32) :=
  if (nI 4) ≤ v2_4 then (some (Sum.inr v1_4)) else (o_g (o_in G 15 (Rf th 0) v2_4) (o_g (o_kd G (Rf (Rf th 0) v2_4.toNatClampNeg) 8) (o_b1 (some (v1_4 + (I (Rf (Rf th 0) v2_4.toNatClampNeg) 2))) (fun x1_20 => o_b1 (some (v2_4 + (nI 1))) (fun x2_21 => some (Sum.inl (x1_20, x2_21)))))))
/-- PricedBases$State.howManyBases()I -/
def m_68 (th : Nat) (I : ai_I) (Rf : ai_R) (G : ai_G) : Option (Int32) :=
  o_s1 (lp (fun s => m_68_b4 th I Rf G s.1 s.2) o_N ((nI 0), (nI 0))) (fun t => m_68_x4_27 t)
theorem md_68 {d : Nat} {I : ai_I} {J : ai_J} {Rf : ai_R} {G : ai_G} {th : Nat} {r : Int32} (hd : 1 ≤ d) (hth : G.1 th = 6) (h : m_68 th I Rf G = some r) : ai_Cl si_t si_ms d 68 [.inr (.inr th)] I J Rf G (some (.inl r)) I J Rf G := by
  obtain ⟨e, rfl⟩ : ∃ e, d = e + 1 := ⟨d - 1, by omega⟩
  unfold m_68 at h
  refine sp_in (lo := [some (.inr (.inr th)), none, none]) (B := (0, 0)) rfl (Nat.le_of_ble_eq_true rfl) rfl rfl ?_
  refine go_iconst (pc' := 1) (v := (nI 0)) rfl rfl rfl ?_
  refine go_istore_n (pc' := 2) (lo' := [some (.inr (.inr th)), some (.inl (nI 0)), none]) rfl rfl rfl ?_
  refine go_iconst (pc' := 3) (v := (nI 0)) rfl rfl rfl ?_
  refine go_istore_n (pc' := 4) (lo' := [some (.inr (.inr th)), some (.inl (nI 0)), some (.inl (nI 0))]) rfl rfl rfl ?_
  obtain ⟨q4, hl4, hc4_27⟩ := o_s1E h
  have ex4_27 : ∀ (w1_27 : Int32) (z2_x27 : Option ai_V), w1_27 = q4 → ai_Go si_t (6, false, 0, cd_68) (ai_Cl si_t si_ms e) (sp_Q (some (.inl r)) I J Rf G) 27 [some (.inr (.inr th)), some (.inl w1_27), z2_x27] [] (0, 0) I J Rf G := by
    intro w1_27 z2_x27 hq
    have h : m_68_x4_27 w1_27 = some r := hc4_27 w1_27 hq.symm
    unfold m_68_x4_27 at h
    refine go_iload_n (pc' := 28) rfl rfl rfl ?_
    cases h
    exact go_iret rfl (trivial) ⟨rfl, rfl, rfl, rfl, rfl⟩
  have lo4 : ∀ n s, lp (fun s => m_68_b4 th I Rf G s.1 s.2) n s = some q4 → (fun s => ai_Go si_t (6, false, 0, cd_68) (ai_Cl si_t si_ms e) (sp_Q (some (.inl r)) I J Rf G) 4 [some (.inr (.inr th)), some (.inl s.1), some (.inl s.2)] [] (0, 0) I J Rf G) s := lp_go (fun s x4 hx hk4 => by
    obtain ⟨v1_4, v2_4⟩ := s
    have h : m_68_b4 th I Rf G v1_4 v2_4 = some x4 := hx
    clear hx
    show ai_Go si_t (6, false, 0, cd_68) (ai_Cl si_t si_ms e) (sp_Q (some (.inl r)) I J Rf G) 4 [some (.inr (.inr th)), some (.inl v1_4), some (.inl v2_4)] [] (0, 0) I J Rf G
    unfold m_68_b4 at h
    refine go_iload_n (pc' := 5) rfl rfl rfl ?_
    refine go_iconst (pc' := 6) (v := (nI 4)) rfl rfl rfl ?_
    refine go_icmp_ge (pt := 27) (pc' := 9) rfl rfl rfl (fun h6 => ?_) (fun h6 => ?_)
    · replace h := o_t h6 h
      exact ex4_27 _ (some (.inl v2_4)) (lp_exitE h hk4)
    · replace h := o_f h6 h
      refine go_iload_n (pc' := 10) rfl rfl rfl ?_
      refine go_aload_n (pc' := 11) rfl rfl rfl ?_
      refine go_getR (pc' := 14) rfl rfl hth rfl ?_
      refine go_iload_n (pc' := 15) rfl rfl rfl ?_
      obtain ⟨g0, h⟩ := o_gE h
      refine go_aaload (pc' := 16) rfl (o_inK g0) (o_inB g0) rfl ?_
      obtain ⟨g1, h⟩ := o_gE h
      refine go_getI (pc' := 19) rfl rfl (by decide) (by decide) (o_kdE g1) rfl ?_
      refine go_iadd (pc' := 20) rfl rfl ?_
      obtain ⟨x1_20, ex1_20, h⟩ := o_b1E h
      refine go_ndI ex1_20 ?_
      refine go_istore_n (pc' := 21) (lo' := [some (.inr (.inr th)), some (.inl x1_20), some (.inl v2_4)]) rfl rfl rfl ?_
      obtain ⟨x2_21, ex2_21, h⟩ := o_b1E h
      refine go_iincE (pc' := 24) rfl rfl (y := (nI 1)) rfl ex2_21 (lo' := [some (.inr (.inr th)), some (.inl x1_20), some (.inl x2_21)]) rfl rfl ?_
      refine go_goto (pc' := 4) rfl rfl ?_
      exact (lp_backE h hk4 :))
  exact lo4 _ ((nI 0), (nI 0)) hl4 
/-- PricedBases$Sums.<init>()V -/
def m_69 (th : Nat) (I : ai_I) (Rf : ai_R) (G : ai_G) : Option (ai_I × ai_R × ai_G) :=
  o_g (o_nn th) (o_g (o_lt9 G) (o_b1 (some (va_up I (G.2.2 + 1) (fun _ => 0))) (fun I_8 => o_b1 (some (va_up G.1 (G.2.2 + 1) 13, va_up G.2.1 (G.2.2 + 1) 256, G.2.2 + 1)) (fun G_8 => o_b1 (some (G.2.2 + 1)) (fun n_8 => o_g (o_kd G_8 th 7) (o_b1 (some (va_up Rf th (va_up (Rf th) 0 n_8))) (fun R_10 => some (I_8, R_10, G_8))))))))
theorem md_69 {d : Nat} {I : ai_I} {J : ai_J} {Rf : ai_R} {G : ai_G} {th : Nat} {I1 : ai_I} {R1 : ai_R} {G1 : ai_G} (hd : 1 ≤ d) (hth : G.1 th = 7) (h : m_69 th I Rf G = some (I1, R1, G1)) : ai_Cl si_t si_ms d 69 [.inr (.inr th)] I J Rf G none I1 J R1 G1 := by
  obtain ⟨e, rfl⟩ : ∃ e, d = e + 1 := ⟨d - 1, by omega⟩
  unfold m_69 at h
  refine sp_in (lo := [some (.inr (.inr th))]) (B := (1, 256)) rfl (Nat.le_of_ble_eq_true rfl) rfl rfl ?_
  refine go_aload_n (pc' := 1) rfl rfl rfl ?_
  obtain ⟨g0, h⟩ := o_gE h
  refine go_obj (pc' := 4) rfl rfl (o_nnE g0) (Nat.le_of_ble_eq_true rfl) rfl ?_
  refine go_aload_n (pc' := 5) rfl rfl rfl ?_
  refine go_sipush (pc' := 8) (v := (nI 256)) rfl rfl rfl ?_
  obtain ⟨g1, h⟩ := o_gE h
  refine go_newI (pc' := 10) (N := 256) rfl (by decide) (by decide) (by decide) (by decide) (by decide) (o_lt9E g1) rfl ?_
  obtain ⟨I_8, eI_8, h⟩ := o_b1E h
  obtain ⟨G_8, eG_8, h⟩ := o_b1E h
  obtain ⟨n_8, en_8, h⟩ := o_b1E h
  refine go_ndMI eI_8 ?_
  refine go_ndMG eG_8 ?_
  refine go_ndR en_8 ?_
  refine go_ndB (B' := (0, 0)) rfl ?_
  obtain ⟨g2, h⟩ := o_gE h
  obtain ⟨R_10, eR_10, h⟩ := o_b1E h
  refine go_putR (pc' := 13) rfl rfl (fun _ => ⟨rfl, rfl⟩) (o_kdE g2) rfl ?_
  refine go_ndMR eR_10 ?_
  cases h
  exact go_vret rfl (rfl) ⟨rfl, rfl, rfl, rfl, rfl⟩
def m_72_x17_71 (Ix_71 : ai_I) : Option (ai_I) :=
  some Ix_71
def m_72_b17 (th : Nat) (a0 : Nat) (a1 : Nat) (Rf : ai_R) (G : ai_G) (v3_17 : Int32) (I_17 : ai_I) : Option ((Int32 × ai_I) ⊕ ai_I) :=
  o_g (o_kd G a0 8) (if (I_17 a0 2) ≤ v3_17 then (some (Sum.inr I_17)) else (o_g (o_in G 13 (Rf a0 5) v3_17) (o_b1 (some (I_17 (Rf a0 5) v3_17.toNatClampNeg)) (fun x4_31 => o_b1 (m_71 a0 x4_31 a1 I_17 Rf G) (fun r_43 => o_g (o_in G 13 (Rf th 0) x4_31) (o_b1 (some (va_up I_17 (Rf th 0) (va_up (I_17 (Rf th 0)) x4_31.toNatClampNeg r_43))) (fun I_46 => o_g (o_in G 13 (Rf th 0) x4_31) (o_b1 (some (if (I_46 th 1) < (I_46 (Rf th 0) x4_31.toNatClampNeg) then (I_46 (Rf th 0) x4_31.toNatClampNeg) else (I_46 th 1))) (fun r_59 => o_b1 (some (va_up I_46 th (va_up (I_46 th) 1 r_59))) (fun I_62 => o_b1 (some (v3_17 + (nI 1))) (fun x3_65 => some (Sum.inl (x3_65, I_62)))))))))))))
/-- PricedBases$Sums.fill(LPricedBases$Valuation;[I)V -/
def m_72 (th : Nat) (a0 : Nat) (a1 : Nat) (I : ai_I) (Rf : ai_R) (G : ai_G) : Option (ai_I) :=
  o_b1 (m_116 (Rf th 0) (-2147483648 : Int32) I G) (fun I_6 => o_b1 (some (va_up I_6 th (va_up (I_6 th) 1 (-2147483648 : Int32)))) (fun I_12 => o_s1 (lp (fun s => m_72_b17 th a0 a1 Rf G s.1 s.2) o_N ((nI 0), I_12)) (fun t => m_72_x17_71 t)))
theorem md_72 {d : Nat} {I : ai_I} {J : ai_J} {Rf : ai_R} {G : ai_G} {th : Nat} {a0 : Nat} {a1 : Nat} {I1 : ai_I} (hd : 3 ≤ d) (hth : G.1 th = 7) (h : m_72 th a0 a1 I Rf G = some I1) : ai_Cl si_t si_ms d 72 [.inr (.inr th), .inr (.inr a0), .inr (.inr a1)] I J Rf G none I1 J Rf G := by
  obtain ⟨e, rfl⟩ : ∃ e, d = e + 1 := ⟨d - 1, by omega⟩
  unfold m_72 at h
  refine sp_in (lo := [some (.inr (.inr th)), some (.inr (.inr a0)), some (.inr (.inr a1)), none, none]) (B := (0, 0)) rfl (Nat.le_of_ble_eq_true rfl) rfl rfl ?_
  refine go_aload_n (pc' := 1) rfl rfl rfl ?_
  refine go_getR (pc' := 4) rfl rfl hth rfl ?_
  refine go_ldc (pc' := 6) (v := .inl (-2147483648 : Int32)) rfl rfl rfl ?_
  obtain ⟨I_6, q_6, h⟩ := o_b1E h
  refine go_callS (pc' := 9) (B' := (0, 0)) (st' := []) rfl rfl (Or.inl (by decide)) rfl rfl trivial (md_116 (by omega) q_6) rfl rfl rfl ?_
  refine go_aload_n (pc' := 10) rfl rfl rfl ?_
  refine go_ldc (pc' := 12) (v := .inl (-2147483648 : Int32)) rfl rfl rfl ?_
  obtain ⟨I_12, eI_12, h⟩ := o_b1E h
  refine go_putI (pc' := 15) rfl rfl (fun h => by cases h) hth rfl ?_
  refine go_ndMI eI_12 ?_
  refine go_iconst (pc' := 16) (v := (nI 0)) rfl rfl rfl ?_
  refine go_istore_n (pc' := 17) (lo' := [some (.inr (.inr th)), some (.inr (.inr a0)), some (.inr (.inr a1)), some (.inl (nI 0)), none]) rfl rfl rfl ?_
  obtain ⟨q17, hl17, hc17_71⟩ := o_s1E h
  have ex17_71 : ∀ (Ix_71 : ai_I) (z3_x71 : Option ai_V) (z4_x71 : Option ai_V), Ix_71 = q17 → ai_Go si_t (7, false, 9, cd_72) (ai_Cl si_t si_ms e) (sp_Q none I1 J Rf G) 71 [some (.inr (.inr th)), some (.inr (.inr a0)), some (.inr (.inr a1)), z3_x71, z4_x71] [] (0, 0) Ix_71 J Rf G := by
    intro Ix_71 z3_x71 z4_x71 hq
    have h : m_72_x17_71 Ix_71 = some I1 := hc17_71 Ix_71 hq.symm
    unfold m_72_x17_71 at h
    cases h
    exact go_vret rfl (rfl) ⟨rfl, rfl, rfl, rfl, rfl⟩
  have lo17 : ∀ n s, lp (fun s => m_72_b17 th a0 a1 Rf G s.1 s.2) n s = some q17 → (fun s => ∀ (z4_17 : Option ai_V), ai_Go si_t (7, false, 9, cd_72) (ai_Cl si_t si_ms e) (sp_Q none I1 J Rf G) 17 [some (.inr (.inr th)), some (.inr (.inr a0)), some (.inr (.inr a1)), some (.inl s.1), z4_17] [] (0, 0) s.2 J Rf G) s := lp_go (fun s x17 hx hk17 => by
    obtain ⟨v3_17, I_17⟩ := s
    intro z4_17
    have h : m_72_b17 th a0 a1 Rf G v3_17 I_17 = some x17 := hx
    clear hx
    show ai_Go si_t (7, false, 9, cd_72) (ai_Cl si_t si_ms e) (sp_Q none I1 J Rf G) 17 [some (.inr (.inr th)), some (.inr (.inr a0)), some (.inr (.inr a1)), some (.inl v3_17), z4_17] [] (0, 0) I_17 J Rf G
    unfold m_72_b17 at h
    refine go_iload_n (pc' := 18) rfl rfl rfl ?_
    refine go_aload_n (pc' := 19) rfl rfl rfl ?_
    obtain ⟨g0, h⟩ := o_gE h
    refine go_getI (pc' := 22) rfl rfl (by decide) (by decide) (o_kdE g0) rfl ?_
    refine go_icmp_ge (pt := 71) (pc' := 25) rfl rfl rfl (fun h22 => ?_) (fun h22 => ?_)
    · replace h := o_t h22 h
      exact ex17_71 _ (some (.inl v3_17)) z4_17 (lp_exitE h hk17)
    · replace h := o_f h22 h
      refine go_aload_n (pc' := 26) rfl rfl rfl ?_
      refine go_getR (pc' := 29) rfl rfl (o_kdE g0) rfl ?_
      refine go_iload_n (pc' := 30) rfl rfl rfl ?_
      obtain ⟨g1, h⟩ := o_gE h
      refine go_iaload (pc' := 31) rfl (o_inK g1) (o_inB g1) rfl ?_
      obtain ⟨x4_31, ex4_31, h⟩ := o_b1E h
      refine go_ndI ex4_31 ?_
      refine go_istore (pc' := 33) (lo' := [some (.inr (.inr th)), some (.inr (.inr a0)), some (.inr (.inr a1)), some (.inl v3_17), some (.inl x4_31)]) rfl rfl rfl ?_
      refine go_aload_n (pc' := 34) rfl rfl rfl ?_
      refine go_getR (pc' := 37) rfl rfl hth rfl ?_
      refine go_iload (pc' := 39) rfl rfl rfl ?_
      refine go_aload_n (pc' := 40) rfl rfl rfl ?_
      refine go_iload (pc' := 42) rfl rfl rfl ?_
      refine go_aload_n (pc' := 43) rfl rfl rfl ?_
      obtain ⟨r_43, q_43, h⟩ := o_b1E h
      refine go_callS (pc' := 46) (B' := (0, 0)) (st' := [.inl r_43, .inl x4_31, .inr (.inr (Rf th 0))]) rfl rfl (Or.inl (by decide)) rfl rfl trivial (md_71 (by omega) q_43) rfl rfl rfl ?_
      obtain ⟨g2, h⟩ := o_gE h
      obtain ⟨I_46, eI_46, h⟩ := o_b1E h
      refine go_iastore (pc' := 47) rfl (o_inK g2) (o_inB g2) rfl ?_
      refine go_ndMI eI_46 ?_
      refine go_aload_n (pc' := 48) rfl rfl rfl ?_
      refine go_aload_n (pc' := 49) rfl rfl rfl ?_
      refine go_getI (pc' := 52) rfl rfl (by decide) (by decide) hth rfl ?_
      refine go_aload_n (pc' := 53) rfl rfl rfl ?_
      refine go_getR (pc' := 56) rfl rfl hth rfl ?_
      refine go_iload (pc' := 58) rfl rfl rfl ?_
      obtain ⟨g3, h⟩ := o_gE h
      refine go_iaload (pc' := 59) rfl (o_inK g3) (o_inB g3) rfl ?_
      refine go_max (pc' := 62) rfl rfl (Nat.le_of_ble_eq_true rfl) rfl ?_
      obtain ⟨r_59, er_59, h⟩ := o_b1E h
      refine go_ndI er_59 ?_
      obtain ⟨I_62, eI_62, h⟩ := o_b1E h
      refine go_putI (pc' := 65) rfl rfl (fun h => by cases h) hth rfl ?_
      refine go_ndMI eI_62 ?_
      obtain ⟨x3_65, ex3_65, h⟩ := o_b1E h
      refine go_iincE (pc' := 68) rfl rfl (y := (nI 1)) rfl ex3_65 (lo' := [some (.inr (.inr th)), some (.inr (.inr a0)), some (.inr (.inr a1)), some (.inl x3_65), some (.inl x4_31)]) rfl rfl ?_
      refine go_goto (pc' := 17) rfl rfl ?_
      exact (lp_backE h hk17 (some (.inl x4_31)) :))
  exact lo17 _ ((nI 0), I_12) hl17 none
def m_75_x5_127 (w3_127 : Int32) : Option (Int32) :=
  some w3_127
def m_75_x17_121 (v4_5 : Int32) (w3_121 : Int32) : Option ((Int32 × Int32) ⊕ Int32) :=
  o_b1 (some (v4_5 + (nI 1))) (fun x4_121 => some (Sum.inl (w3_121, x4_121)))
def m_75_j83 (th : Nat) (I : ai_I) (Rf : ai_R) (G : ai_G) (v3_17 : Int32) (v5_17 : Int32) (x6_55 : Int32) (t0_83 : Int32) : Option ((Int32 × Int32) ⊕ Int32) :=
  o_g (o_in G 13 (Rf th 0) x6_55) (o_g (o_in G 13 (Rf th 0) v3_17) (if (I (Rf th 0) v3_17.toNatClampNeg) < (I (Rf th 0) x6_55.toNatClampNeg) then (o_b1 (some (v5_17 + (nI 1))) (fun x5_115 => some (Sum.inl (x6_55, x5_115)))) else (if t0_83 = 0 then (o_b1 (some (v5_17 + (nI 1))) (fun x5_115 => some (Sum.inl (v3_17, x5_115)))) else (if v3_17 ≤ x6_55 then (o_b1 (some (v5_17 + (nI 1))) (fun x5_115 => some (Sum.inl (v3_17, x5_115)))) else (o_b1 (some (v5_17 + (nI 1))) (fun x5_115 => some (Sum.inl (x6_55, x5_115))))))))
def m_75_j82 (th : Nat) (I : ai_I) (Rf : ai_R) (G : ai_G) (v3_17 : Int32) (v5_17 : Int32) (x6_55 : Int32) : Option ((Int32 × Int32) ⊕ Int32) :=
  m_75_j83 th I Rf G v3_17 v5_17 x6_55 (nI 0)
def m_75_b17 (th : Nat) (a0 : Nat) (a1 : Int32) (I : ai_I) (Rf : ai_R) (G : ai_G) (v4_5 : Int32) (v3_17 : Int32) (v5_17 : Int32) : Option ((Int32 × Int32) ⊕ Int32) :=
  if (I a0 0) ≤ v5_17 then (some (Sum.inr v3_17)) else (o_b1 (m_113 a1 v4_5) (fun r_29 => if r_29 = 0 then (o_b1 (some (v5_17 + (nI 1))) (fun x5_115 => some (Sum.inl (v3_17, x5_115)))) else (o_b1 (m_113 a1 v5_17) (fun r_38 => if r_38 = 0 then (o_b1 (some (a1 ^^^ (((nI 1) <<< (v4_5 &&& 31)) ||| ((nI 1) <<< (v5_17 &&& 31))))) (fun x6_55 => o_g (o_in G 13 (Rf th 0) x6_55) (o_g (o_in G 13 (Rf th 0) v3_17) (if (I (Rf th 0) x6_55.toNatClampNeg) = (I (Rf th 0) v3_17.toNatClampNeg) then (if v3_17 = a1 then (m_75_j82 th I Rf G v3_17 v5_17 x6_55) else (m_75_j83 th I Rf G v3_17 v5_17 x6_55 (nI 1))) else (m_75_j82 th I Rf G v3_17 v5_17 x6_55))))) else (o_b1 (some (v5_17 + (nI 1))) (fun x5_115 => some (Sum.inl (v3_17, x5_115))))))))
def m_75_b5 (th : Nat) (a0 : Nat) (a1 : Int32) (I : ai_I) (Rf : ai_R) (G : ai_G) (v3_5 : Int32) (v4_5 : Int32) : Option ((Int32 × Int32) ⊕ Int32) :=
  o_g (o_kd G a0 8) (if (I a0 0) ≤ v4_5 then (some (Sum.inr v3_5)) else (o_s1 (lp (fun s => m_75_b17 th a0 a1 I Rf G v4_5 s.1 s.2) o_N (v3_5, (nI 0))) (fun t => m_75_x17_121 v4_5 t)))
/-- PricedBases$Sums.bestBeside(LPricedBases$Valuation;I)I -/
def m_75 (th : Nat) (a0 : Nat) (a1 : Int32) (I : ai_I) (Rf : ai_R) (G : ai_G) : Option (Int32) :=
  o_s1 (lp (fun s => m_75_b5 th a0 a1 I Rf G s.1 s.2) o_N (a1, (nI 0))) (fun t => m_75_x5_127 t)
theorem md_75 {d : Nat} {I : ai_I} {J : ai_J} {Rf : ai_R} {G : ai_G} {th : Nat} {a0 : Nat} {a1 : Int32} {r : Int32} (hd : 2 ≤ d) (hth : G.1 th = 7) (h : m_75 th a0 a1 I Rf G = some r) : ai_Cl si_t si_ms d 75 [.inr (.inr th), .inr (.inr a0), .inl a1] I J Rf G (some (.inl r)) I J Rf G := by
  obtain ⟨e, rfl⟩ : ∃ e, d = e + 1 := ⟨d - 1, by omega⟩
  unfold m_75 at h
  refine sp_in (lo := [some (.inr (.inr th)), some (.inr (.inr a0)), some (.inl a1), none, none, none, none, none]) (B := (0, 0)) rfl (Nat.le_of_ble_eq_true rfl) rfl rfl ?_
  refine go_iload_n (pc' := 1) rfl rfl rfl ?_
  refine go_istore_n (pc' := 2) (lo' := [some (.inr (.inr th)), some (.inr (.inr a0)), some (.inl a1), some (.inl a1), none, none, none, none]) rfl rfl rfl ?_
  refine go_iconst (pc' := 3) (v := (nI 0)) rfl rfl rfl ?_
  refine go_istore (pc' := 5) (lo' := [some (.inr (.inr th)), some (.inr (.inr a0)), some (.inl a1), some (.inl a1), some (.inl (nI 0)), none, none, none]) rfl rfl rfl ?_
  obtain ⟨q5, hl5, hc5_127⟩ := o_s1E h
  have ex5_127 : ∀ (w3_127 : Int32) (z4_x127 : Option ai_V) (z5_x127 : Option ai_V) (z6_x127 : Option ai_V) (z7_x127 : Option ai_V), w3_127 = q5 → ai_Go si_t (7, false, 0, cd_75) (ai_Cl si_t si_ms e) (sp_Q (some (.inl r)) I J Rf G) 127 [some (.inr (.inr th)), some (.inr (.inr a0)), some (.inl a1), some (.inl w3_127), z4_x127, z5_x127, z6_x127, z7_x127] [] (0, 0) I J Rf G := by
    intro w3_127 z4_x127 z5_x127 z6_x127 z7_x127 hq
    have h : m_75_x5_127 w3_127 = some r := hc5_127 w3_127 hq.symm
    unfold m_75_x5_127 at h
    refine go_iload_n (pc' := 128) rfl rfl rfl ?_
    cases h
    exact go_iret rfl (trivial) ⟨rfl, rfl, rfl, rfl, rfl⟩
  have lo5 : ∀ n s, lp (fun s => m_75_b5 th a0 a1 I Rf G s.1 s.2) n s = some q5 → (fun s => ∀ (z5_5 : Option ai_V) (z6_5 : Option ai_V) (z7_5 : Option ai_V), ai_Go si_t (7, false, 0, cd_75) (ai_Cl si_t si_ms e) (sp_Q (some (.inl r)) I J Rf G) 5 [some (.inr (.inr th)), some (.inr (.inr a0)), some (.inl a1), some (.inl s.1), some (.inl s.2), z5_5, z6_5, z7_5] [] (0, 0) I J Rf G) s := lp_go (fun s x5 hx hk5 => by
    obtain ⟨v3_5, v4_5⟩ := s
    intro z5_5 z6_5 z7_5
    have h : m_75_b5 th a0 a1 I Rf G v3_5 v4_5 = some x5 := hx
    clear hx
    show ai_Go si_t (7, false, 0, cd_75) (ai_Cl si_t si_ms e) (sp_Q (some (.inl r)) I J Rf G) 5 [some (.inr (.inr th)), some (.inr (.inr a0)), some (.inl a1), some (.inl v3_5), some (.inl v4_5), z5_5, z6_5, z7_5] [] (0, 0) I J Rf G
    unfold m_75_b5 at h
    refine go_iload (pc' := 7) rfl rfl rfl ?_
    refine go_aload_n (pc' := 8) rfl rfl rfl ?_
    obtain ⟨g0, h⟩ := o_gE h
    refine go_getI (pc' := 11) rfl rfl (by decide) (by decide) (o_kdE g0) rfl ?_
    refine go_icmp_ge (pt := 127) (pc' := 14) rfl rfl rfl (fun h11 => ?_) (fun h11 => ?_)
    · replace h := o_t h11 h
      exact ex5_127 _ (some (.inl v4_5)) z5_5 z6_5 z7_5 (lp_exitE h hk5)
    · replace h := o_f h11 h
      refine go_iconst (pc' := 15) (v := (nI 0)) rfl rfl rfl ?_
      refine go_istore (pc' := 17) (lo' := [some (.inr (.inr th)), some (.inr (.inr a0)), some (.inl a1), some (.inl v3_5), some (.inl v4_5), some (.inl (nI 0)), z6_5, z7_5]) rfl rfl rfl ?_
      obtain ⟨q17, hl17, hc17_121⟩ := o_s1E h
      have ex17_121 : ∀ (w3_121 : Int32) (z5_x121 : Option ai_V) (z6_x121 : Option ai_V) (z7_x121 : Option ai_V), w3_121 = q17 → ai_Go si_t (7, false, 0, cd_75) (ai_Cl si_t si_ms e) (sp_Q (some (.inl r)) I J Rf G) 121 [some (.inr (.inr th)), some (.inr (.inr a0)), some (.inl a1), some (.inl w3_121), some (.inl v4_5), z5_x121, z6_x121, z7_x121] [] (0, 0) I J Rf G := by
        intro w3_121 z5_x121 z6_x121 z7_x121 hq
        have h : m_75_x17_121 v4_5 w3_121 = some x5 := hc17_121 w3_121 hq.symm
        unfold m_75_x17_121 at h
        obtain ⟨x4_121, ex4_121, h⟩ := o_b1E h
        refine go_iincE (pc' := 124) rfl rfl (y := (nI 1)) rfl ex4_121 (lo' := [some (.inr (.inr th)), some (.inr (.inr a0)), some (.inl a1), some (.inl w3_121), some (.inl x4_121), z5_x121, z6_x121, z7_x121]) rfl rfl ?_
        refine go_goto (pc' := 5) rfl rfl ?_
        exact (lp_backE h hk5 z5_x121 z6_x121 z7_x121 :)
      have lo17 : ∀ n s, lp (fun s => m_75_b17 th a0 a1 I Rf G v4_5 s.1 s.2) n s = some q17 → (fun s => ∀ (z6_17 : Option ai_V) (z7_17 : Option ai_V), ai_Go si_t (7, false, 0, cd_75) (ai_Cl si_t si_ms e) (sp_Q (some (.inl r)) I J Rf G) 17 [some (.inr (.inr th)), some (.inr (.inr a0)), some (.inl a1), some (.inl s.1), some (.inl v4_5), some (.inl s.2), z6_17, z7_17] [] (0, 0) I J Rf G) s := lp_go (fun s x17 hx hk17 => by
        obtain ⟨v3_17, v5_17⟩ := s
        intro z6_17 z7_17
        have h : m_75_b17 th a0 a1 I Rf G v4_5 v3_17 v5_17 = some x17 := hx
        clear hx
        show ai_Go si_t (7, false, 0, cd_75) (ai_Cl si_t si_ms e) (sp_Q (some (.inl r)) I J Rf G) 17 [some (.inr (.inr th)), some (.inr (.inr a0)), some (.inl a1), some (.inl v3_17), some (.inl v4_5), some (.inl v5_17), z6_17, z7_17] [] (0, 0) I J Rf G
        unfold m_75_b17 at h
        refine go_iload (pc' := 19) rfl rfl rfl ?_
        refine go_aload_n (pc' := 20) rfl rfl rfl ?_
        refine go_getI (pc' := 23) rfl rfl (by decide) (by decide) (o_kdE g0) rfl ?_
        refine go_icmp_ge (pt := 121) (pc' := 26) rfl rfl rfl (fun h23 => ?_) (fun h23 => ?_)
        · replace h := o_t h23 h
          exact ex17_121 _ (some (.inl v5_17)) z6_17 z7_17 (lp_exitE h hk17)
        · replace h := o_f h23 h
          refine go_iload_n (pc' := 27) rfl rfl rfl ?_
          refine go_iload (pc' := 29) rfl rfl rfl ?_
          obtain ⟨r_29, q_29, h⟩ := o_b1E h
          refine go_callS (pc' := 32) (B' := (0, 0)) (st' := [.inl r_29]) rfl rfl (Or.inl (by decide)) rfl rfl trivial (md_113 (by omega) q_29) rfl rfl rfl ?_
          refine go_if_eq (pt := 115) (pc' := 35) rfl rfl rfl (fun h32 => ?_) (fun h32 => ?_)
          · replace h := o_t h32 h
            obtain ⟨x5_115, ex5_115, h⟩ := o_b1E h
            refine go_iincE (pc' := 118) rfl rfl (y := (nI 1)) rfl ex5_115 (lo' := [some (.inr (.inr th)), some (.inr (.inr a0)), some (.inl a1), some (.inl v3_17), some (.inl v4_5), some (.inl x5_115), z6_17, z7_17]) rfl rfl ?_
            refine go_goto (pc' := 17) rfl rfl ?_
            exact (lp_backE h hk17 z6_17 z7_17 :)
          · replace h := o_f h32 h
            refine go_iload_n (pc' := 36) rfl rfl rfl ?_
            refine go_iload (pc' := 38) rfl rfl rfl ?_
            obtain ⟨r_38, q_38, h⟩ := o_b1E h
            refine go_callS (pc' := 41) (B' := (0, 0)) (st' := [.inl r_38]) rfl rfl (Or.inl (by decide)) rfl rfl trivial (md_113 (by omega) q_38) rfl rfl rfl ?_
            refine go_if_ne (pt := 115) (pc' := 44) rfl rfl rfl (fun h41 => ?_) (fun h41 => ?_)
            · replace h := o_f h41 h
              obtain ⟨x5_115, ex5_115, h⟩ := o_b1E h
              refine go_iincE (pc' := 118) rfl rfl (y := (nI 1)) rfl ex5_115 (lo' := [some (.inr (.inr th)), some (.inr (.inr a0)), some (.inl a1), some (.inl v3_17), some (.inl v4_5), some (.inl x5_115), z6_17, z7_17]) rfl rfl ?_
              refine go_goto (pc' := 17) rfl rfl ?_
              exact (lp_backE h hk17 z6_17 z7_17 :)
            · replace h := o_t (Decidable.of_not_not h41) h
              refine go_iload_n (pc' := 45) rfl rfl rfl ?_
              refine go_iconst (pc' := 46) (v := (nI 1)) rfl rfl rfl ?_
              refine go_iload (pc' := 48) rfl rfl rfl ?_
              refine go_ishl (pc' := 49) rfl rfl ?_
              refine go_iconst (pc' := 50) (v := (nI 1)) rfl rfl rfl ?_
              refine go_iload (pc' := 52) rfl rfl rfl ?_
              refine go_ishl (pc' := 53) rfl rfl ?_
              refine go_ior (pc' := 54) rfl rfl ?_
              refine go_ixor (pc' := 55) rfl rfl ?_
              obtain ⟨x6_55, ex6_55, h⟩ := o_b1E h
              refine go_ndI ex6_55 ?_
              refine go_istore (pc' := 57) (lo' := [some (.inr (.inr th)), some (.inr (.inr a0)), some (.inl a1), some (.inl v3_17), some (.inl v4_5), some (.inl v5_17), some (.inl x6_55), z7_17]) rfl rfl rfl ?_
              refine go_aload_n (pc' := 58) rfl rfl rfl ?_
              refine go_getR (pc' := 61) rfl rfl hth rfl ?_
              refine go_iload (pc' := 63) rfl rfl rfl ?_
              obtain ⟨g1, h⟩ := o_gE h
              refine go_iaload (pc' := 64) rfl (o_inK g1) (o_inB g1) rfl ?_
              refine go_aload_n (pc' := 65) rfl rfl rfl ?_
              refine go_getR (pc' := 68) rfl rfl hth rfl ?_
              refine go_iload_n (pc' := 69) rfl rfl rfl ?_
              obtain ⟨g2, h⟩ := o_gE h
              refine go_iaload (pc' := 70) rfl (o_inK g2) (o_inB g2) rfl ?_
              have jn83 : ∀ (t0_83 : Int32) (z7_83 : Option ai_V), m_75_j83 th I Rf G v3_17 v5_17 x6_55 t0_83 = some x17 → ai_Go si_t (7, false, 0, cd_75) (ai_Cl si_t si_ms e) (sp_Q (some (.inl r)) I J Rf G) 83 [some (.inr (.inr th)), some (.inr (.inr a0)), some (.inl a1), some (.inl v3_17), some (.inl v4_5), some (.inl v5_17), some (.inl x6_55), z7_83] [.inl t0_83] (0, 0) I J Rf G := by
                intro t0_83 z7_83 h
                unfold m_75_j83 at h
                refine go_istore (pc' := 85) (lo' := [some (.inr (.inr th)), some (.inr (.inr a0)), some (.inl a1), some (.inl v3_17), some (.inl v4_5), some (.inl v5_17), some (.inl x6_55), some (.inl t0_83)]) rfl rfl rfl ?_
                refine go_aload_n (pc' := 86) rfl rfl rfl ?_
                refine go_getR (pc' := 89) rfl rfl hth rfl ?_
                refine go_iload (pc' := 91) rfl rfl rfl ?_
                obtain ⟨g3, h⟩ := o_gE h
                refine go_iaload (pc' := 92) rfl (o_inK g3) (o_inB g3) rfl ?_
                refine go_aload_n (pc' := 93) rfl rfl rfl ?_
                refine go_getR (pc' := 96) rfl rfl hth rfl ?_
                refine go_iload_n (pc' := 97) rfl rfl rfl ?_
                obtain ⟨g4, h⟩ := o_gE h
                refine go_iaload (pc' := 98) rfl (o_inK g4) (o_inB g4) rfl ?_
                refine go_icmp_gt (pt := 112) (pc' := 101) rfl rfl rfl (fun h98 => ?_) (fun h98 => ?_)
                · replace h := o_t h98 h
                  refine go_iload (pc' := 114) rfl rfl rfl ?_
                  refine go_istore_n (pc' := 115) (lo' := [some (.inr (.inr th)), some (.inr (.inr a0)), some (.inl a1), some (.inl x6_55), some (.inl v4_5), some (.inl v5_17), some (.inl x6_55), some (.inl t0_83)]) rfl rfl rfl ?_
                  obtain ⟨x5_115, ex5_115, h⟩ := o_b1E h
                  refine go_iincE (pc' := 118) rfl rfl (y := (nI 1)) rfl ex5_115 (lo' := [some (.inr (.inr th)), some (.inr (.inr a0)), some (.inl a1), some (.inl x6_55), some (.inl v4_5), some (.inl x5_115), some (.inl x6_55), some (.inl t0_83)]) rfl rfl ?_
                  refine go_goto (pc' := 17) rfl rfl ?_
                  exact (lp_backE h hk17 (some (.inl x6_55)) (some (.inl t0_83)) :)
                · replace h := o_f h98 h
                  refine go_iload (pc' := 103) rfl rfl rfl ?_
                  refine go_if_eq (pt := 115) (pc' := 106) rfl rfl rfl (fun h103 => ?_) (fun h103 => ?_)
                  · replace h := o_t h103 h
                    obtain ⟨x5_115, ex5_115, h⟩ := o_b1E h
                    refine go_iincE (pc' := 118) rfl rfl (y := (nI 1)) rfl ex5_115 (lo' := [some (.inr (.inr th)), some (.inr (.inr a0)), some (.inl a1), some (.inl v3_17), some (.inl v4_5), some (.inl x5_115), some (.inl x6_55), some (.inl t0_83)]) rfl rfl ?_
                    refine go_goto (pc' := 17) rfl rfl ?_
                    exact (lp_backE h hk17 (some (.inl x6_55)) (some (.inl t0_83)) :)
                  · replace h := o_f h103 h
                    refine go_iload (pc' := 108) rfl rfl rfl ?_
                    refine go_iload_n (pc' := 109) rfl rfl rfl ?_
                    refine go_icmp_ge (pt := 115) (pc' := 112) rfl rfl rfl (fun h109 => ?_) (fun h109 => ?_)
                    · replace h := o_t h109 h
                      obtain ⟨x5_115, ex5_115, h⟩ := o_b1E h
                      refine go_iincE (pc' := 118) rfl rfl (y := (nI 1)) rfl ex5_115 (lo' := [some (.inr (.inr th)), some (.inr (.inr a0)), some (.inl a1), some (.inl v3_17), some (.inl v4_5), some (.inl x5_115), some (.inl x6_55), some (.inl t0_83)]) rfl rfl ?_
                      refine go_goto (pc' := 17) rfl rfl ?_
                      exact (lp_backE h hk17 (some (.inl x6_55)) (some (.inl t0_83)) :)
                    · replace h := o_f h109 h
                      refine go_iload (pc' := 114) rfl rfl rfl ?_
                      refine go_istore_n (pc' := 115) (lo' := [some (.inr (.inr th)), some (.inr (.inr a0)), some (.inl a1), some (.inl x6_55), some (.inl v4_5), some (.inl v5_17), some (.inl x6_55), some (.inl t0_83)]) rfl rfl rfl ?_
                      obtain ⟨x5_115, ex5_115, h⟩ := o_b1E h
                      refine go_iincE (pc' := 118) rfl rfl (y := (nI 1)) rfl ex5_115 (lo' := [some (.inr (.inr th)), some (.inr (.inr a0)), some (.inl a1), some (.inl x6_55), some (.inl v4_5), some (.inl x5_115), some (.inl x6_55), some (.inl t0_83)]) rfl rfl ?_
                      refine go_goto (pc' := 17) rfl rfl ?_
                      exact (lp_backE h hk17 (some (.inl x6_55)) (some (.inl t0_83)) :)
              have jn82 : ∀ (z7_82 : Option ai_V), m_75_j82 th I Rf G v3_17 v5_17 x6_55 = some x17 → ai_Go si_t (7, false, 0, cd_75) (ai_Cl si_t si_ms e) (sp_Q (some (.inl r)) I J Rf G) 82 [some (.inr (.inr th)), some (.inr (.inr a0)), some (.inl a1), some (.inl v3_17), some (.inl v4_5), some (.inl v5_17), some (.inl x6_55), z7_82] [] (0, 0) I J Rf G := by
                intro z7_82 h
                unfold m_75_j82 at h
                refine go_iconst (pc' := 83) (v := (nI 0)) rfl rfl rfl ?_
                exact jn83 (nI 0) z7_82 h
              refine go_icmp_ne (pt := 82) (pc' := 73) rfl rfl rfl (fun h70 => ?_) (fun h70 => ?_)
              · replace h := o_f h70 h
                exact jn82 z7_17 h
              · replace h := o_t (Decidable.of_not_not h70) h
                refine go_iload_n (pc' := 74) rfl rfl rfl ?_
                refine go_iload_n (pc' := 75) rfl rfl rfl ?_
                refine go_icmp_eq (pt := 82) (pc' := 78) rfl rfl rfl (fun h75 => ?_) (fun h75 => ?_)
                · replace h := o_t h75 h
                  exact jn82 z7_17 h
                · replace h := o_f h75 h
                  refine go_iconst (pc' := 79) (v := (nI 1)) rfl rfl rfl ?_
                  refine go_goto (pc' := 83) rfl rfl ?_
                  exact jn83 (nI 1) z7_17 h)
      exact lo17 _ (v3_5, (nI 0)) hl17 z6_5 z7_5)
  exact lo5 _ (a1, (nI 0)) hl5 none none none
def m_74_x12_40 (Ix_40 : ai_I) : Option (ai_I) :=
  some Ix_40
def m_74_x12_63 (Ix_63 : ai_I) : Option (ai_I) :=
  some Ix_63
def m_74_b12 (th : Nat) (a0 : Nat) (Rf : ai_R) (G : ai_G) (v3_12 : Int32) (I_12 : ai_I) : Option ((Int32 × ai_I) ⊕ (ai_I ⊕ ai_I)) :=
  o_g (o_kd G a0 8) (if (I_12 a0 2) ≤ v3_12 then (some (Sum.inr (Sum.inr I_12))) else (o_b1 (m_75 th a0 (I_12 th 2) I_12 Rf G) (fun r_26 => if r_26 = (I_12 th 2) then (some (Sum.inr (Sum.inl I_12))) else (o_b1 (some (va_up I_12 th (va_up (I_12 th) 2 r_26))) (fun I_44 => o_b1 (some (va_up I_44 th (va_up (I_44 th) 3 ((I_44 th 3) + (nI 1))))) (fun I_54 => o_b1 (some (v3_12 + (nI 1))) (fun x3_57 => some (Sum.inl (x3_57, I_54)))))))))
/-- PricedBases$Sums.climb(LPricedBases$Valuation;I)V -/
def m_74 (th : Nat) (a0 : Nat) (a1 : Int32) (I : ai_I) (Rf : ai_R) (G : ai_G) : Option (ai_I) :=
  o_b1 (some (va_up I th (va_up (I th) 2 a1))) (fun I_2 => o_b1 (some (va_up I_2 th (va_up (I_2 th) 3 (nI 0)))) (fun I_7 => o_s2 (lp (fun s => m_74_b12 th a0 Rf G s.1 s.2) o_N ((nI 0), I_7)) (fun t => m_74_x12_40 t) (fun t => m_74_x12_63 t)))
theorem md_74 {d : Nat} {I : ai_I} {J : ai_J} {Rf : ai_R} {G : ai_G} {th : Nat} {a0 : Nat} {a1 : Int32} {I1 : ai_I} (hd : 3 ≤ d) (hth : G.1 th = 7) (h : m_74 th a0 a1 I Rf G = some I1) : ai_Cl si_t si_ms d 74 [.inr (.inr th), .inr (.inr a0), .inl a1] I J Rf G none I1 J Rf G := by
  obtain ⟨e, rfl⟩ : ∃ e, d = e + 1 := ⟨d - 1, by omega⟩
  unfold m_74 at h
  refine sp_in (lo := [some (.inr (.inr th)), some (.inr (.inr a0)), some (.inl a1), none, none]) (B := (0, 0)) rfl (Nat.le_of_ble_eq_true rfl) rfl rfl ?_
  refine go_aload_n (pc' := 1) rfl rfl rfl ?_
  refine go_iload_n (pc' := 2) rfl rfl rfl ?_
  obtain ⟨I_2, eI_2, h⟩ := o_b1E h
  refine go_putI (pc' := 5) rfl rfl (fun h => by cases h) hth rfl ?_
  refine go_ndMI eI_2 ?_
  refine go_aload_n (pc' := 6) rfl rfl rfl ?_
  refine go_iconst (pc' := 7) (v := (nI 0)) rfl rfl rfl ?_
  obtain ⟨I_7, eI_7, h⟩ := o_b1E h
  refine go_putI (pc' := 10) rfl rfl (fun h => by cases h) hth rfl ?_
  refine go_ndMI eI_7 ?_
  refine go_iconst (pc' := 11) (v := (nI 0)) rfl rfl rfl ?_
  refine go_istore_n (pc' := 12) (lo' := [some (.inr (.inr th)), some (.inr (.inr a0)), some (.inl a1), some (.inl (nI 0)), none]) rfl rfl rfl ?_
  obtain ⟨q12, hl12, hc12_40, hc12_63⟩ := o_s2E h
  have ex12_40 : ∀ (Ix_40 : ai_I) (z3_x40 : Option ai_V) (z4_x40 : Option ai_V), (Sum.inl Ix_40) = q12 → ai_Go si_t (7, false, 9, cd_74) (ai_Cl si_t si_ms e) (sp_Q none I1 J Rf G) 40 [some (.inr (.inr th)), some (.inr (.inr a0)), some (.inl a1), z3_x40, z4_x40] [] (0, 0) Ix_40 J Rf G := by
    intro Ix_40 z3_x40 z4_x40 hq
    have h : m_74_x12_40 Ix_40 = some I1 := hc12_40 Ix_40 hq.symm
    unfold m_74_x12_40 at h
    cases h
    exact go_vret rfl (rfl) ⟨rfl, rfl, rfl, rfl, rfl⟩
  have ex12_63 : ∀ (Ix_63 : ai_I) (z3_x63 : Option ai_V) (z4_x63 : Option ai_V), (Sum.inr Ix_63) = q12 → ai_Go si_t (7, false, 9, cd_74) (ai_Cl si_t si_ms e) (sp_Q none I1 J Rf G) 63 [some (.inr (.inr th)), some (.inr (.inr a0)), some (.inl a1), z3_x63, z4_x63] [] (0, 0) Ix_63 J Rf G := by
    intro Ix_63 z3_x63 z4_x63 hq
    have h : m_74_x12_63 Ix_63 = some I1 := hc12_63 Ix_63 hq.symm
    unfold m_74_x12_63 at h
    cases h
    exact go_vret rfl (rfl) ⟨rfl, rfl, rfl, rfl, rfl⟩
  have lo12 : ∀ n s, lp (fun s => m_74_b12 th a0 Rf G s.1 s.2) n s = some q12 → (fun s => ∀ (z4_12 : Option ai_V), ai_Go si_t (7, false, 9, cd_74) (ai_Cl si_t si_ms e) (sp_Q none I1 J Rf G) 12 [some (.inr (.inr th)), some (.inr (.inr a0)), some (.inl a1), some (.inl s.1), z4_12] [] (0, 0) s.2 J Rf G) s := lp_go (fun s x12 hx hk12 => by
    obtain ⟨v3_12, I_12⟩ := s
    intro z4_12
    have h : m_74_b12 th a0 Rf G v3_12 I_12 = some x12 := hx
    clear hx
    show ai_Go si_t (7, false, 9, cd_74) (ai_Cl si_t si_ms e) (sp_Q none I1 J Rf G) 12 [some (.inr (.inr th)), some (.inr (.inr a0)), some (.inl a1), some (.inl v3_12), z4_12] [] (0, 0) I_12 J Rf G
    unfold m_74_b12 at h
    refine go_iload_n (pc' := 13) rfl rfl rfl ?_
    refine go_aload_n (pc' := 14) rfl rfl rfl ?_
    obtain ⟨g0, h⟩ := o_gE h
    refine go_getI (pc' := 17) rfl rfl (by decide) (by decide) (o_kdE g0) rfl ?_
    refine go_icmp_ge (pt := 63) (pc' := 20) rfl rfl rfl (fun h17 => ?_) (fun h17 => ?_)
    · replace h := o_t h17 h
      exact ex12_63 _ (some (.inl v3_12)) z4_12 (lp_exitE h hk12)
    · replace h := o_f h17 h
      refine go_aload_n (pc' := 21) rfl rfl rfl ?_
      refine go_aload_n (pc' := 22) rfl rfl rfl ?_
      refine go_aload_n (pc' := 23) rfl rfl rfl ?_
      refine go_getI (pc' := 26) rfl rfl (by decide) (by decide) hth rfl ?_
      obtain ⟨r_26, q_26, h⟩ := o_b1E h
      refine go_callV (pc' := 29) (B' := (0, 0)) (st' := [.inl r_26]) rfl rfl (Or.inl (by decide)) rfl rfl hth (md_75 (by omega) hth q_26) rfl rfl rfl ?_
      refine go_istore (pc' := 31) (lo' := [some (.inr (.inr th)), some (.inr (.inr a0)), some (.inl a1), some (.inl v3_12), some (.inl r_26)]) rfl rfl rfl ?_
      refine go_iload (pc' := 33) rfl rfl rfl ?_
      refine go_aload_n (pc' := 34) rfl rfl rfl ?_
      refine go_getI (pc' := 37) rfl rfl (by decide) (by decide) hth rfl ?_
      refine go_icmp_ne (pt := 41) (pc' := 40) rfl rfl rfl (fun h37 => ?_) (fun h37 => ?_)
      · replace h := o_f h37 h
        refine go_aload_n (pc' := 42) rfl rfl rfl ?_
        refine go_iload (pc' := 44) rfl rfl rfl ?_
        obtain ⟨I_44, eI_44, h⟩ := o_b1E h
        refine go_putI (pc' := 47) rfl rfl (fun h => by cases h) hth rfl ?_
        refine go_ndMI eI_44 ?_
        refine go_aload_n (pc' := 48) rfl rfl rfl ?_
        refine go_dupR (pc' := 49) rfl rfl ?_
        refine go_getI (pc' := 52) rfl rfl (by decide) (by decide) hth rfl ?_
        refine go_iconst (pc' := 53) (v := (nI 1)) rfl rfl rfl ?_
        refine go_iadd (pc' := 54) rfl rfl ?_
        obtain ⟨I_54, eI_54, h⟩ := o_b1E h
        refine go_putI (pc' := 57) rfl rfl (fun h => by cases h) hth rfl ?_
        refine go_ndMI eI_54 ?_
        obtain ⟨x3_57, ex3_57, h⟩ := o_b1E h
        refine go_iincE (pc' := 60) rfl rfl (y := (nI 1)) rfl ex3_57 (lo' := [some (.inr (.inr th)), some (.inr (.inr a0)), some (.inl a1), some (.inl x3_57), some (.inl r_26)]) rfl rfl ?_
        refine go_goto (pc' := 12) rfl rfl ?_
        exact (lp_backE h hk12 (some (.inl r_26)) :)
      · replace h := o_t (Decidable.of_not_not h37) h
        exact ex12_40 _ (some (.inl v3_12)) (some (.inl r_26)) (lp_exitE h hk12))
  exact lo12 _ ((nI 0), I_7) hl12 none
def m_76_x4_34 (w2_34 : Int32) : Option (Int32) :=
  some w2_34
def m_76_b4 (th : Nat) (a0 : Nat) (I : ai_I) (Rf : ai_R) (G : ai_G) (v2_4 : Int32) (v3_4 : Int32) : Option ((Int32 × Int32) ⊕ Int32) :=
  o_g (o_kd G a0 8) (if (I a0 2) ≤ v3_4 then (some (Sum.inr v2_4)) else (o_g (o_in G 13 (Rf a0 5) v3_4) (o_b1 (m_73 th (I (Rf a0 5) v3_4.toNatClampNeg) I Rf G) (fun r_20 => o_b1 (m_112 r_20) (fun r_23 => o_b1 (some (v2_4 + r_23)) (fun x2_27 => o_b1 (some (v3_4 + (nI 1))) (fun x3_28 => some (Sum.inl (x2_27, x3_28)))))))))
/-- PricedBases$Sums.howManyGreatest(LPricedBases$Valuation;)I -/
def m_76 (th : Nat) (a0 : Nat) (I : ai_I) (Rf : ai_R) (G : ai_G) : Option (Int32) :=
  o_s1 (lp (fun s => m_76_b4 th a0 I Rf G s.1 s.2) o_N ((nI 0), (nI 0))) (fun t => m_76_x4_34 t)
theorem md_76 {d : Nat} {I : ai_I} {J : ai_J} {Rf : ai_R} {G : ai_G} {th : Nat} {a0 : Nat} {r : Int32} (hd : 2 ≤ d) (hth : G.1 th = 7) (h : m_76 th a0 I Rf G = some r) : ai_Cl si_t si_ms d 76 [.inr (.inr th), .inr (.inr a0)] I J Rf G (some (.inl r)) I J Rf G := by
  obtain ⟨e, rfl⟩ : ∃ e, d = e + 1 := ⟨d - 1, by omega⟩
  unfold m_76 at h
  refine sp_in (lo := [some (.inr (.inr th)), some (.inr (.inr a0)), none, none]) (B := (0, 0)) rfl (Nat.le_of_ble_eq_true rfl) rfl rfl ?_
  refine go_iconst (pc' := 1) (v := (nI 0)) rfl rfl rfl ?_
  refine go_istore_n (pc' := 2) (lo' := [some (.inr (.inr th)), some (.inr (.inr a0)), some (.inl (nI 0)), none]) rfl rfl rfl ?_
  refine go_iconst (pc' := 3) (v := (nI 0)) rfl rfl rfl ?_
  refine go_istore_n (pc' := 4) (lo' := [some (.inr (.inr th)), some (.inr (.inr a0)), some (.inl (nI 0)), some (.inl (nI 0))]) rfl rfl rfl ?_
  obtain ⟨q4, hl4, hc4_34⟩ := o_s1E h
  have ex4_34 : ∀ (w2_34 : Int32) (z3_x34 : Option ai_V), w2_34 = q4 → ai_Go si_t (7, false, 0, cd_76) (ai_Cl si_t si_ms e) (sp_Q (some (.inl r)) I J Rf G) 34 [some (.inr (.inr th)), some (.inr (.inr a0)), some (.inl w2_34), z3_x34] [] (0, 0) I J Rf G := by
    intro w2_34 z3_x34 hq
    have h : m_76_x4_34 w2_34 = some r := hc4_34 w2_34 hq.symm
    unfold m_76_x4_34 at h
    refine go_iload_n (pc' := 35) rfl rfl rfl ?_
    cases h
    exact go_iret rfl (trivial) ⟨rfl, rfl, rfl, rfl, rfl⟩
  have lo4 : ∀ n s, lp (fun s => m_76_b4 th a0 I Rf G s.1 s.2) n s = some q4 → (fun s => ai_Go si_t (7, false, 0, cd_76) (ai_Cl si_t si_ms e) (sp_Q (some (.inl r)) I J Rf G) 4 [some (.inr (.inr th)), some (.inr (.inr a0)), some (.inl s.1), some (.inl s.2)] [] (0, 0) I J Rf G) s := lp_go (fun s x4 hx hk4 => by
    obtain ⟨v2_4, v3_4⟩ := s
    have h : m_76_b4 th a0 I Rf G v2_4 v3_4 = some x4 := hx
    clear hx
    show ai_Go si_t (7, false, 0, cd_76) (ai_Cl si_t si_ms e) (sp_Q (some (.inl r)) I J Rf G) 4 [some (.inr (.inr th)), some (.inr (.inr a0)), some (.inl v2_4), some (.inl v3_4)] [] (0, 0) I J Rf G
    unfold m_76_b4 at h
    refine go_iload_n (pc' := 5) rfl rfl rfl ?_
    refine go_aload_n (pc' := 6) rfl rfl rfl ?_
    obtain ⟨g0, h⟩ := o_gE h
    refine go_getI (pc' := 9) rfl rfl (by decide) (by decide) (o_kdE g0) rfl ?_
    refine go_icmp_ge (pt := 34) (pc' := 12) rfl rfl rfl (fun h9 => ?_) (fun h9 => ?_)
    · replace h := o_t h9 h
      exact ex4_34 _ (some (.inl v3_4)) (lp_exitE h hk4)
    · replace h := o_f h9 h
      refine go_iload_n (pc' := 13) rfl rfl rfl ?_
      refine go_aload_n (pc' := 14) rfl rfl rfl ?_
      refine go_aload_n (pc' := 15) rfl rfl rfl ?_
      refine go_getR (pc' := 18) rfl rfl (o_kdE g0) rfl ?_
      refine go_iload_n (pc' := 19) rfl rfl rfl ?_
      obtain ⟨g1, h⟩ := o_gE h
      refine go_iaload (pc' := 20) rfl (o_inK g1) (o_inB g1) rfl ?_
      obtain ⟨r_20, q_20, h⟩ := o_b1E h
      refine go_callV (pc' := 23) (B' := (0, 0)) (st' := [.inl r_20, .inl v2_4]) rfl rfl (Or.inl (by decide)) rfl rfl hth (md_73 (by omega) hth q_20) rfl rfl rfl ?_
      obtain ⟨r_23, q_23, h⟩ := o_b1E h
      refine go_callS (pc' := 26) (B' := (0, 0)) (st' := [.inl r_23, .inl v2_4]) rfl rfl (Or.inl (by decide)) rfl rfl trivial (md_112 (by omega) q_23) rfl rfl rfl ?_
      refine go_iadd (pc' := 27) rfl rfl ?_
      obtain ⟨x2_27, ex2_27, h⟩ := o_b1E h
      refine go_ndI ex2_27 ?_
      refine go_istore_n (pc' := 28) (lo' := [some (.inr (.inr th)), some (.inr (.inr a0)), some (.inl x2_27), some (.inl v3_4)]) rfl rfl rfl ?_
      obtain ⟨x3_28, ex3_28, h⟩ := o_b1E h
      refine go_iincE (pc' := 31) rfl rfl (y := (nI 1)) rfl ex3_28 (lo' := [some (.inr (.inr th)), some (.inr (.inr a0)), some (.inl x2_27), some (.inl x3_28)]) rfl rfl ?_
      refine go_goto (pc' := 4) rfl rfl ?_
      exact (lp_backE h hk4 :))
  exact lo4 _ ((nI 0), (nI 0)) hl4 
def m_77_x5_32 (a0 : Nat) (I : ai_I) (Rf : ai_R) (G : ai_G) (w4_32 : Int32) : Option (Int32) :=
  o_g (o_kd G a0 8) (o_g (o_in G 13 (Rf a0 5) w4_32) (some (I (Rf a0 5) w4_32.toNatClampNeg)))
def m_77_x5_49 : Option (Int32) :=
  some (-4 : Int32)
def m_77_b5 (th : Nat) (a0 : Nat) (I : ai_I) (Rf : ai_R) (G : ai_G) (v3_5 : Int32) (v4_5 : Int32) : Option ((Int32 × Int32) ⊕ (Int32 ⊕ Unit)) :=
  o_g (o_kd G a0 8) (if (I a0 2) ≤ v4_5 then (some (Sum.inr (Sum.inr ()))) else (o_g (o_in G 13 (Rf a0 5) v4_5) (o_b1 (m_73 th (I (Rf a0 5) v4_5.toNatClampNeg) I Rf G) (fun r_22 => if r_22 = 0 then (o_b1 (some (v4_5 + (nI 1))) (fun x4_43 => some (Sum.inl (v3_5, x4_43)))) else (if v3_5 = 0 then (some (Sum.inr (Sum.inl v4_5))) else (o_b1 (some (v3_5 + (-1 : Int32))) (fun x3_40 => o_b1 (some (v4_5 + (nI 1))) (fun x4_43 => some (Sum.inl (x3_40, x4_43))))))))))
/-- PricedBases$Sums.greatestAt(LPricedBases$Valuation;I)I -/
def m_77 (th : Nat) (a0 : Nat) (a1 : Int32) (I : ai_I) (Rf : ai_R) (G : ai_G) : Option (Int32) :=
  o_s2 (lp (fun s => m_77_b5 th a0 I Rf G s.1 s.2) o_N (a1, (nI 0))) (fun t => m_77_x5_32 a0 I Rf G t) (fun t => m_77_x5_49)
theorem md_77 {d : Nat} {I : ai_I} {J : ai_J} {Rf : ai_R} {G : ai_G} {th : Nat} {a0 : Nat} {a1 : Int32} {r : Int32} (hd : 2 ≤ d) (hth : G.1 th = 7) (h : m_77 th a0 a1 I Rf G = some r) : ai_Cl si_t si_ms d 77 [.inr (.inr th), .inr (.inr a0), .inl a1] I J Rf G (some (.inl r)) I J Rf G := by
  obtain ⟨e, rfl⟩ : ∃ e, d = e + 1 := ⟨d - 1, by omega⟩
  unfold m_77 at h
  refine sp_in (lo := [some (.inr (.inr th)), some (.inr (.inr a0)), some (.inl a1), none, none]) (B := (0, 0)) rfl (Nat.le_of_ble_eq_true rfl) rfl rfl ?_
  refine go_iload_n (pc' := 1) rfl rfl rfl ?_
  refine go_istore_n (pc' := 2) (lo' := [some (.inr (.inr th)), some (.inr (.inr a0)), some (.inl a1), some (.inl a1), none]) rfl rfl rfl ?_
  refine go_iconst (pc' := 3) (v := (nI 0)) rfl rfl rfl ?_
  refine go_istore (pc' := 5) (lo' := [some (.inr (.inr th)), some (.inr (.inr a0)), some (.inl a1), some (.inl a1), some (.inl (nI 0))]) rfl rfl rfl ?_
  obtain ⟨q5, hl5, hc5_32, hc5_49⟩ := o_s2E h
  have ex5_32 : ∀ (w4_32 : Int32) (z3_x32 : Option ai_V), (Sum.inl w4_32) = q5 → ai_Go si_t (7, false, 0, cd_77) (ai_Cl si_t si_ms e) (sp_Q (some (.inl r)) I J Rf G) 32 [some (.inr (.inr th)), some (.inr (.inr a0)), some (.inl a1), z3_x32, some (.inl w4_32)] [] (0, 0) I J Rf G := by
    intro w4_32 z3_x32 hq
    have h : m_77_x5_32 a0 I Rf G w4_32 = some r := hc5_32 w4_32 hq.symm
    unfold m_77_x5_32 at h
    refine go_aload_n (pc' := 33) rfl rfl rfl ?_
    obtain ⟨g0, h⟩ := o_gE h
    refine go_getR (pc' := 36) rfl rfl (o_kdE g0) rfl ?_
    refine go_iload (pc' := 38) rfl rfl rfl ?_
    obtain ⟨g1, h⟩ := o_gE h
    refine go_iaload (pc' := 39) rfl (o_inK g1) (o_inB g1) rfl ?_
    cases h
    exact go_iret rfl (trivial) ⟨rfl, rfl, rfl, rfl, rfl⟩
  have ex5_49 : ∀ (z3_x49 : Option ai_V) (z4_x49 : Option ai_V), (Sum.inr ()) = q5 → ai_Go si_t (7, false, 0, cd_77) (ai_Cl si_t si_ms e) (sp_Q (some (.inl r)) I J Rf G) 49 [some (.inr (.inr th)), some (.inr (.inr a0)), some (.inl a1), z3_x49, z4_x49] [] (0, 0) I J Rf G := by
    intro z3_x49 z4_x49 hq
    have h : m_77_x5_49 = some r := hc5_49 () hq.symm
    unfold m_77_x5_49 at h
    refine go_bipush (pc' := 51) (v := (-4 : Int32)) rfl rfl rfl ?_
    cases h
    exact go_iret rfl (trivial) ⟨rfl, rfl, rfl, rfl, rfl⟩
  have lo5 : ∀ n s, lp (fun s => m_77_b5 th a0 I Rf G s.1 s.2) n s = some q5 → (fun s => ai_Go si_t (7, false, 0, cd_77) (ai_Cl si_t si_ms e) (sp_Q (some (.inl r)) I J Rf G) 5 [some (.inr (.inr th)), some (.inr (.inr a0)), some (.inl a1), some (.inl s.1), some (.inl s.2)] [] (0, 0) I J Rf G) s := lp_go (fun s x5 hx hk5 => by
    obtain ⟨v3_5, v4_5⟩ := s
    have h : m_77_b5 th a0 I Rf G v3_5 v4_5 = some x5 := hx
    clear hx
    show ai_Go si_t (7, false, 0, cd_77) (ai_Cl si_t si_ms e) (sp_Q (some (.inl r)) I J Rf G) 5 [some (.inr (.inr th)), some (.inr (.inr a0)), some (.inl a1), some (.inl v3_5), some (.inl v4_5)] [] (0, 0) I J Rf G
    unfold m_77_b5 at h
    refine go_iload (pc' := 7) rfl rfl rfl ?_
    refine go_aload_n (pc' := 8) rfl rfl rfl ?_
    obtain ⟨g2, h⟩ := o_gE h
    refine go_getI (pc' := 11) rfl rfl (by decide) (by decide) (o_kdE g2) rfl ?_
    refine go_icmp_ge (pt := 49) (pc' := 14) rfl rfl rfl (fun h11 => ?_) (fun h11 => ?_)
    · replace h := o_t h11 h
      exact ex5_49  (some (.inl v3_5)) (some (.inl v4_5)) (lp_exitE h hk5)
    · replace h := o_f h11 h
      refine go_aload_n (pc' := 15) rfl rfl rfl ?_
      refine go_aload_n (pc' := 16) rfl rfl rfl ?_
      refine go_getR (pc' := 19) rfl rfl (o_kdE g2) rfl ?_
      refine go_iload (pc' := 21) rfl rfl rfl ?_
      obtain ⟨g3, h⟩ := o_gE h
      refine go_iaload (pc' := 22) rfl (o_inK g3) (o_inB g3) rfl ?_
      obtain ⟨r_22, q_22, h⟩ := o_b1E h
      refine go_callV (pc' := 25) (B' := (0, 0)) (st' := [.inl r_22]) rfl rfl (Or.inl (by decide)) rfl rfl hth (md_73 (by omega) hth q_22) rfl rfl rfl ?_
      refine go_if_eq (pt := 43) (pc' := 28) rfl rfl rfl (fun h25 => ?_) (fun h25 => ?_)
      · replace h := o_t h25 h
        obtain ⟨x4_43, ex4_43, h⟩ := o_b1E h
        refine go_iincE (pc' := 46) rfl rfl (y := (nI 1)) rfl ex4_43 (lo' := [some (.inr (.inr th)), some (.inr (.inr a0)), some (.inl a1), some (.inl v3_5), some (.inl x4_43)]) rfl rfl ?_
        refine go_goto (pc' := 5) rfl rfl ?_
        exact (lp_backE h hk5 :)
      · replace h := o_f h25 h
        refine go_iload_n (pc' := 29) rfl rfl rfl ?_
        refine go_if_ne (pt := 40) (pc' := 32) rfl rfl rfl (fun h29 => ?_) (fun h29 => ?_)
        · replace h := o_f h29 h
          obtain ⟨x3_40, ex3_40, h⟩ := o_b1E h
          refine go_iincE (pc' := 43) rfl rfl (y := (-1 : Int32)) rfl ex3_40 (lo' := [some (.inr (.inr th)), some (.inr (.inr a0)), some (.inl a1), some (.inl x3_40), some (.inl v4_5)]) rfl rfl ?_
          obtain ⟨x4_43, ex4_43, h⟩ := o_b1E h
          refine go_iincE (pc' := 46) rfl rfl (y := (nI 1)) rfl ex4_43 (lo' := [some (.inr (.inr th)), some (.inr (.inr a0)), some (.inl a1), some (.inl x3_40), some (.inl x4_43)]) rfl rfl ?_
          refine go_goto (pc' := 5) rfl rfl ?_
          exact (lp_backE h hk5 :)
        · replace h := o_t (Decidable.of_not_not h29) h
          exact ex5_32 _ (some (.inl v3_5)) (lp_exitE h hk5))
  exact lo5 _ (a1, (nI 0)) hl5 
