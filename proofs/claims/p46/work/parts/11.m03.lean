/-! Models of methods and their proofs, piece 3. Printed by wip/p46/pr10.py. -/
def m_36_x17_104 (x4_9 : Int32) (w5_104 : Int32) : Option (Int32) :=
  if w5_104 = (((nI 1) <<< (x4_9 &&& 31)) - (nI 1)) then (some (nI 1)) else (some (nI 0))
def m_36_x27_98 (v6_17 : Int32) (w5_98 : Int32) : Option ((Int32 × Int32) ⊕ Int32) :=
  o_b1 (some (v6_17 + (nI 1))) (fun x6_98 => some (Sum.inl (w5_98, x6_98)))
def m_36_b27 (th : Nat) (a0 : Int32) (a1 : Nat) (a2 : Int32) (I : ai_I) (Rf : ai_R) (G : ai_G) (v5_27 : Int32) (v7_27 : Int32) : Option ((Int32 × Int32) ⊕ Int32) :=
  if (I (Rf th 0) 0) ≤ v7_27 then (some (Sum.inr v5_27)) else (o_g (o_kd G a1 0) (o_b1 (m_4 a1 a2 ((nI 3) + ((nI 2) * v7_27)) I Rf G) (fun r_48 => o_b1 (m_4 a1 a2 ((nI 4) + ((nI 2) * v7_27)) I Rf G) (fun r_61 => o_b1 (some (((nI 1) <<< (r_48 &&& 31)) ||| ((nI 1) <<< (r_61 &&& 31)))) (fun x8_66 => o_b1 (m_113 a0 v7_27) (fun r_71 => if r_71 = 0 then (o_b1 (some (v7_27 + (nI 1))) (fun x7_92 => some (Sum.inl (v5_27, x7_92)))) else (if (v5_27 &&& x8_66) = 0 then (o_b1 (some (v7_27 + (nI 1))) (fun x7_92 => some (Sum.inl (v5_27, x7_92)))) else (o_b1 (some (v5_27 ||| x8_66)) (fun x5_90 => o_b1 (some (v7_27 + (nI 1))) (fun x7_92 => some (Sum.inl (x5_90, x7_92))))))))))))
def m_36_b17 (th : Nat) (a0 : Int32) (a1 : Nat) (a2 : Int32) (I : ai_I) (Rf : ai_R) (G : ai_G) (x4_9 : Int32) (v5_17 : Int32) (v6_17 : Int32) : Option ((Int32 × Int32) ⊕ Int32) :=
  if x4_9 ≤ v6_17 then (some (Sum.inr v5_17)) else (o_s1 (lp (fun s => m_36_b27 th a0 a1 a2 I Rf G s.1 s.2) o_N (v5_17, (nI 0))) (fun t => m_36_x27_98 v6_17 t))
/-- PricedBases$Maker.isTree(ILPricedBases$Clauses;I)Z -/
def m_36 (th : Nat) (a0 : Int32) (a1 : Nat) (a2 : Int32) (I : ai_I) (Rf : ai_R) (G : ai_G) : Option (Int32) :=
  o_g (o_kd G (Rf th 0) 8) (o_b1 (some ((I (Rf th 0) 1) + (nI 1))) (fun x4_9 => o_s1 (lp (fun s => m_36_b17 th a0 a1 a2 I Rf G x4_9 s.1 s.2) o_N ((nI 1), (nI 0))) (fun t => m_36_x17_104 x4_9 t)))
theorem md_36 {d : Nat} {I : ai_I} {J : ai_J} {Rf : ai_R} {G : ai_G} {th : Nat} {a0 : Int32} {a1 : Nat} {a2 : Int32} {r : Int32} (hd : 2 ≤ d) (hth : G.1 th = 3) (h : m_36 th a0 a1 a2 I Rf G = some r) : ai_Cl si_t si_ms d 36 [.inr (.inr th), .inl a0, .inr (.inr a1), .inl a2] I J Rf G (some (.inl r)) I J Rf G := by
  obtain ⟨e, rfl⟩ : ∃ e, d = e + 1 := ⟨d - 1, by omega⟩
  unfold m_36 at h
  refine sp_in (lo := [some (.inr (.inr th)), some (.inl a0), some (.inr (.inr a1)), some (.inl a2), none, none, none, none, none]) (B := (0, 0)) rfl (Nat.le_of_ble_eq_true rfl) rfl rfl ?_
  refine go_aload_n (pc' := 1) rfl rfl rfl ?_
  refine go_getR (pc' := 4) rfl rfl hth rfl ?_
  obtain ⟨g0, h⟩ := o_gE h
  refine go_getI (pc' := 7) rfl rfl (by decide) (by decide) (o_kdE g0) rfl ?_
  refine go_iconst (pc' := 8) (v := (nI 1)) rfl rfl rfl ?_
  refine go_iadd (pc' := 9) rfl rfl ?_
  obtain ⟨x4_9, ex4_9, h⟩ := o_b1E h
  refine go_ndI ex4_9 ?_
  refine go_istore (pc' := 11) (lo' := [some (.inr (.inr th)), some (.inl a0), some (.inr (.inr a1)), some (.inl a2), some (.inl x4_9), none, none, none, none]) rfl rfl rfl ?_
  refine go_iconst (pc' := 12) (v := (nI 1)) rfl rfl rfl ?_
  refine go_istore (pc' := 14) (lo' := [some (.inr (.inr th)), some (.inl a0), some (.inr (.inr a1)), some (.inl a2), some (.inl x4_9), some (.inl (nI 1)), none, none, none]) rfl rfl rfl ?_
  refine go_iconst (pc' := 15) (v := (nI 0)) rfl rfl rfl ?_
  refine go_istore (pc' := 17) (lo' := [some (.inr (.inr th)), some (.inl a0), some (.inr (.inr a1)), some (.inl a2), some (.inl x4_9), some (.inl (nI 1)), some (.inl (nI 0)), none, none]) rfl rfl rfl ?_
  obtain ⟨q17, hl17, hc17_104⟩ := o_s1E h
  have ex17_104 : ∀ (w5_104 : Int32) (z6_x104 : Option ai_V) (z7_x104 : Option ai_V) (z8_x104 : Option ai_V), w5_104 = q17 → ai_Go si_t (3, false, 3, cd_36) (ai_Cl si_t si_ms e) (sp_Q (some (.inl r)) I J Rf G) 104 [some (.inr (.inr th)), some (.inl a0), some (.inr (.inr a1)), some (.inl a2), some (.inl x4_9), some (.inl w5_104), z6_x104, z7_x104, z8_x104] [] (0, 0) I J Rf G := by
    intro w5_104 z6_x104 z7_x104 z8_x104 hq
    have h : m_36_x17_104 x4_9 w5_104 = some r := hc17_104 w5_104 hq.symm
    unfold m_36_x17_104 at h
    refine go_iload (pc' := 106) rfl rfl rfl ?_
    refine go_iconst (pc' := 107) (v := (nI 1)) rfl rfl rfl ?_
    refine go_iload (pc' := 109) rfl rfl rfl ?_
    refine go_ishl (pc' := 110) rfl rfl ?_
    refine go_iconst (pc' := 111) (v := (nI 1)) rfl rfl rfl ?_
    refine go_isub (pc' := 112) rfl rfl ?_
    refine go_icmp_ne (pt := 119) (pc' := 115) rfl rfl rfl (fun h112 => ?_) (fun h112 => ?_)
    · replace h := o_f h112 h
      refine go_iconst (pc' := 120) (v := (nI 0)) rfl rfl rfl ?_
      cases h
      exact go_iret rfl (rfl) ⟨rfl, rfl, rfl, rfl, rfl⟩
    · replace h := o_t (Decidable.of_not_not h112) h
      refine go_iconst (pc' := 116) (v := (nI 1)) rfl rfl rfl ?_
      refine go_goto (pc' := 120) rfl rfl ?_
      cases h
      exact go_iret rfl (rfl) ⟨rfl, rfl, rfl, rfl, rfl⟩
  have lo17 : ∀ n s, lp (fun s => m_36_b17 th a0 a1 a2 I Rf G x4_9 s.1 s.2) n s = some q17 → (fun s => ∀ (z7_17 : Option ai_V) (z8_17 : Option ai_V), ai_Go si_t (3, false, 3, cd_36) (ai_Cl si_t si_ms e) (sp_Q (some (.inl r)) I J Rf G) 17 [some (.inr (.inr th)), some (.inl a0), some (.inr (.inr a1)), some (.inl a2), some (.inl x4_9), some (.inl s.1), some (.inl s.2), z7_17, z8_17] [] (0, 0) I J Rf G) s := lp_go (fun s x17 hx hk17 => by
    obtain ⟨v5_17, v6_17⟩ := s
    intro z7_17 z8_17
    have h : m_36_b17 th a0 a1 a2 I Rf G x4_9 v5_17 v6_17 = some x17 := hx
    clear hx
    show ai_Go si_t (3, false, 3, cd_36) (ai_Cl si_t si_ms e) (sp_Q (some (.inl r)) I J Rf G) 17 [some (.inr (.inr th)), some (.inl a0), some (.inr (.inr a1)), some (.inl a2), some (.inl x4_9), some (.inl v5_17), some (.inl v6_17), z7_17, z8_17] [] (0, 0) I J Rf G
    unfold m_36_b17 at h
    refine go_iload (pc' := 19) rfl rfl rfl ?_
    refine go_iload (pc' := 21) rfl rfl rfl ?_
    refine go_icmp_ge (pt := 104) (pc' := 24) rfl rfl rfl (fun h21 => ?_) (fun h21 => ?_)
    · replace h := o_t h21 h
      exact ex17_104 _ (some (.inl v6_17)) z7_17 z8_17 (lp_exitE h hk17)
    · replace h := o_f h21 h
      refine go_iconst (pc' := 25) (v := (nI 0)) rfl rfl rfl ?_
      refine go_istore (pc' := 27) (lo' := [some (.inr (.inr th)), some (.inl a0), some (.inr (.inr a1)), some (.inl a2), some (.inl x4_9), some (.inl v5_17), some (.inl v6_17), some (.inl (nI 0)), z8_17]) rfl rfl rfl ?_
      obtain ⟨q27, hl27, hc27_98⟩ := o_s1E h
      have ex27_98 : ∀ (w5_98 : Int32) (z7_x98 : Option ai_V) (z8_x98 : Option ai_V), w5_98 = q27 → ai_Go si_t (3, false, 3, cd_36) (ai_Cl si_t si_ms e) (sp_Q (some (.inl r)) I J Rf G) 98 [some (.inr (.inr th)), some (.inl a0), some (.inr (.inr a1)), some (.inl a2), some (.inl x4_9), some (.inl w5_98), some (.inl v6_17), z7_x98, z8_x98] [] (0, 0) I J Rf G := by
        intro w5_98 z7_x98 z8_x98 hq
        have h : m_36_x27_98 v6_17 w5_98 = some x17 := hc27_98 w5_98 hq.symm
        unfold m_36_x27_98 at h
        obtain ⟨x6_98, ex6_98, h⟩ := o_b1E h
        refine go_iincE (pc' := 101) rfl rfl (y := (nI 1)) rfl ex6_98 (lo' := [some (.inr (.inr th)), some (.inl a0), some (.inr (.inr a1)), some (.inl a2), some (.inl x4_9), some (.inl w5_98), some (.inl x6_98), z7_x98, z8_x98]) rfl rfl ?_
        refine go_goto (pc' := 17) rfl rfl ?_
        exact (lp_backE h hk17 z7_x98 z8_x98 :)
      have lo27 : ∀ n s, lp (fun s => m_36_b27 th a0 a1 a2 I Rf G s.1 s.2) n s = some q27 → (fun s => ∀ (z8_27 : Option ai_V), ai_Go si_t (3, false, 3, cd_36) (ai_Cl si_t si_ms e) (sp_Q (some (.inl r)) I J Rf G) 27 [some (.inr (.inr th)), some (.inl a0), some (.inr (.inr a1)), some (.inl a2), some (.inl x4_9), some (.inl s.1), some (.inl v6_17), some (.inl s.2), z8_27] [] (0, 0) I J Rf G) s := lp_go (fun s x27 hx hk27 => by
        obtain ⟨v5_27, v7_27⟩ := s
        intro z8_27
        have h : m_36_b27 th a0 a1 a2 I Rf G v5_27 v7_27 = some x27 := hx
        clear hx
        show ai_Go si_t (3, false, 3, cd_36) (ai_Cl si_t si_ms e) (sp_Q (some (.inl r)) I J Rf G) 27 [some (.inr (.inr th)), some (.inl a0), some (.inr (.inr a1)), some (.inl a2), some (.inl x4_9), some (.inl v5_27), some (.inl v6_17), some (.inl v7_27), z8_27] [] (0, 0) I J Rf G
        unfold m_36_b27 at h
        refine go_iload (pc' := 29) rfl rfl rfl ?_
        refine go_aload_n (pc' := 30) rfl rfl rfl ?_
        refine go_getR (pc' := 33) rfl rfl hth rfl ?_
        refine go_getI (pc' := 36) rfl rfl (by decide) (by decide) (o_kdE g0) rfl ?_
        refine go_icmp_ge (pt := 98) (pc' := 39) rfl rfl rfl (fun h36 => ?_) (fun h36 => ?_)
        · replace h := o_t h36 h
          exact ex27_98 _ (some (.inl v7_27)) z8_27 (lp_exitE h hk27)
        · replace h := o_f h36 h
          refine go_iconst (pc' := 40) (v := (nI 1)) rfl rfl rfl ?_
          refine go_aload_n (pc' := 41) rfl rfl rfl ?_
          refine go_iload_n (pc' := 42) rfl rfl rfl ?_
          refine go_iconst (pc' := 43) (v := (nI 3)) rfl rfl rfl ?_
          refine go_iconst (pc' := 44) (v := (nI 2)) rfl rfl rfl ?_
          refine go_iload (pc' := 46) rfl rfl rfl ?_
          refine go_imul (pc' := 47) rfl rfl ?_
          refine go_iadd (pc' := 48) rfl rfl ?_
          obtain ⟨g1, h⟩ := o_gE h
          obtain ⟨r_48, q_48, h⟩ := o_b1E h
          refine go_callV (pc' := 51) (B' := (0, 0)) (st' := [.inl r_48, .inl (nI 1)]) rfl rfl (Or.inl (by decide)) rfl rfl (o_kdE g1) (md_4 (by omega) (o_kdE g1) q_48) rfl rfl rfl ?_
          refine go_ishl (pc' := 52) rfl rfl ?_
          refine go_iconst (pc' := 53) (v := (nI 1)) rfl rfl rfl ?_
          refine go_aload_n (pc' := 54) rfl rfl rfl ?_
          refine go_iload_n (pc' := 55) rfl rfl rfl ?_
          refine go_iconst (pc' := 56) (v := (nI 4)) rfl rfl rfl ?_
          refine go_iconst (pc' := 57) (v := (nI 2)) rfl rfl rfl ?_
          refine go_iload (pc' := 59) rfl rfl rfl ?_
          refine go_imul (pc' := 60) rfl rfl ?_
          refine go_iadd (pc' := 61) rfl rfl ?_
          obtain ⟨r_61, q_61, h⟩ := o_b1E h
          refine go_callV (pc' := 64) (B' := (0, 0)) (st' := [.inl r_61, .inl (nI 1), .inl ((nI 1) <<< (r_48 &&& 31))]) rfl rfl (Or.inl (by decide)) rfl rfl (o_kdE g1) (md_4 (by omega) (o_kdE g1) q_61) rfl rfl rfl ?_
          refine go_ishl (pc' := 65) rfl rfl ?_
          refine go_ior (pc' := 66) rfl rfl ?_
          obtain ⟨x8_66, ex8_66, h⟩ := o_b1E h
          refine go_ndI ex8_66 ?_
          refine go_istore (pc' := 68) (lo' := [some (.inr (.inr th)), some (.inl a0), some (.inr (.inr a1)), some (.inl a2), some (.inl x4_9), some (.inl v5_27), some (.inl v6_17), some (.inl v7_27), some (.inl x8_66)]) rfl rfl rfl ?_
          refine go_iload_n (pc' := 69) rfl rfl rfl ?_
          refine go_iload (pc' := 71) rfl rfl rfl ?_
          obtain ⟨r_71, q_71, h⟩ := o_b1E h
          refine go_callS (pc' := 74) (B' := (0, 0)) (st' := [.inl r_71]) rfl rfl (Or.inl (by decide)) rfl rfl trivial (md_113 (by omega) q_71) rfl rfl rfl ?_
          refine go_if_eq (pt := 92) (pc' := 77) rfl rfl rfl (fun h74 => ?_) (fun h74 => ?_)
          · replace h := o_t h74 h
            obtain ⟨x7_92, ex7_92, h⟩ := o_b1E h
            refine go_iincE (pc' := 95) rfl rfl (y := (nI 1)) rfl ex7_92 (lo' := [some (.inr (.inr th)), some (.inl a0), some (.inr (.inr a1)), some (.inl a2), some (.inl x4_9), some (.inl v5_27), some (.inl v6_17), some (.inl x7_92), some (.inl x8_66)]) rfl rfl ?_
            refine go_goto (pc' := 27) rfl rfl ?_
            exact (lp_backE h hk27 (some (.inl x8_66)) :)
          · replace h := o_f h74 h
            refine go_iload (pc' := 79) rfl rfl rfl ?_
            refine go_iload (pc' := 81) rfl rfl rfl ?_
            refine go_iand (pc' := 82) rfl rfl ?_
            refine go_if_eq (pt := 92) (pc' := 85) rfl rfl rfl (fun h82 => ?_) (fun h82 => ?_)
            · replace h := o_t h82 h
              obtain ⟨x7_92, ex7_92, h⟩ := o_b1E h
              refine go_iincE (pc' := 95) rfl rfl (y := (nI 1)) rfl ex7_92 (lo' := [some (.inr (.inr th)), some (.inl a0), some (.inr (.inr a1)), some (.inl a2), some (.inl x4_9), some (.inl v5_27), some (.inl v6_17), some (.inl x7_92), some (.inl x8_66)]) rfl rfl ?_
              refine go_goto (pc' := 27) rfl rfl ?_
              exact (lp_backE h hk27 (some (.inl x8_66)) :)
            · replace h := o_f h82 h
              refine go_iload (pc' := 87) rfl rfl rfl ?_
              refine go_iload (pc' := 89) rfl rfl rfl ?_
              refine go_ior (pc' := 90) rfl rfl ?_
              obtain ⟨x5_90, ex5_90, h⟩ := o_b1E h
              refine go_ndI ex5_90 ?_
              refine go_istore (pc' := 92) (lo' := [some (.inr (.inr th)), some (.inl a0), some (.inr (.inr a1)), some (.inl a2), some (.inl x4_9), some (.inl x5_90), some (.inl v6_17), some (.inl v7_27), some (.inl x8_66)]) rfl rfl rfl ?_
              obtain ⟨x7_92, ex7_92, h⟩ := o_b1E h
              refine go_iincE (pc' := 95) rfl rfl (y := (nI 1)) rfl ex7_92 (lo' := [some (.inr (.inr th)), some (.inl a0), some (.inr (.inr a1)), some (.inl a2), some (.inl x4_9), some (.inl x5_90), some (.inl v6_17), some (.inl x7_92), some (.inl x8_66)]) rfl rfl ?_
              refine go_goto (pc' := 27) rfl rfl ?_
              exact (lp_backE h hk27 (some (.inl x8_66)) :))
      exact lo27 _ (v5_17, (nI 0)) hl27 z8_17)
  exact lo17 _ ((nI 1), (nI 0)) hl17 none none
def m_35_x2_52 (Ix_52 : ai_I) : Option (ai_I) :=
  some Ix_52
def m_35_b2 (th : Nat) (a0 : Nat) (a1 : Int32) (Rf : ai_R) (G : ai_G) (v3_2 : Int32) (I_2 : ai_I) : Option ((Int32 × ai_I) ⊕ ai_I) :=
  o_g (o_kd G (Rf th 0) 8) (o_b1 (m_85 (Rf th 0) I_2) (fun r_7 => if r_7 ≤ v3_2 then (some (Sum.inr I_2)) else (o_b1 (m_115 v3_2) (fun r_14 => if r_14 = (I_2 (Rf th 0) 1) then (o_b1 (m_36 th v3_2 a0 a1 I_2 Rf G) (fun r_31 => if r_31 = 0 then (o_b1 (some (v3_2 + (nI 1))) (fun x3_46 => some (Sum.inl (x3_46, I_2)))) else (o_b1 (m_80 (Rf th 0) v3_2 (nI 0) I_2 Rf G) (fun I_43 => o_b1 (some (v3_2 + (nI 1))) (fun x3_46 => some (Sum.inl (x3_46, I_43))))))) else (o_b1 (some (v3_2 + (nI 1))) (fun x3_46 => some (Sum.inl (x3_46, I_2))))))))
/-- PricedBases$Maker.makeGraph(LPricedBases$Clauses;I)V -/
def m_35 (th : Nat) (a0 : Nat) (a1 : Int32) (I : ai_I) (Rf : ai_R) (G : ai_G) : Option (ai_I) :=
  o_s1 (lp (fun s => m_35_b2 th a0 a1 Rf G s.1 s.2) o_N ((nI 0), I)) (fun t => m_35_x2_52 t)
theorem md_35 {d : Nat} {I : ai_I} {J : ai_J} {Rf : ai_R} {G : ai_G} {th : Nat} {a0 : Nat} {a1 : Int32} {I1 : ai_I} (hd : 3 ≤ d) (hth : G.1 th = 3) (h : m_35 th a0 a1 I Rf G = some I1) : ai_Cl si_t si_ms d 35 [.inr (.inr th), .inr (.inr a0), .inl a1] I J Rf G none I1 J Rf G := by
  obtain ⟨e, rfl⟩ : ∃ e, d = e + 1 := ⟨d - 1, by omega⟩
  unfold m_35 at h
  refine sp_in (lo := [some (.inr (.inr th)), some (.inr (.inr a0)), some (.inl a1), none]) (B := (0, 0)) rfl (Nat.le_of_ble_eq_true rfl) rfl rfl ?_
  refine go_iconst (pc' := 1) (v := (nI 0)) rfl rfl rfl ?_
  refine go_istore_n (pc' := 2) (lo' := [some (.inr (.inr th)), some (.inr (.inr a0)), some (.inl a1), some (.inl (nI 0))]) rfl rfl rfl ?_
  obtain ⟨q2, hl2, hc2_52⟩ := o_s1E h
  have ex2_52 : ∀ (Ix_52 : ai_I) (z3_x52 : Option ai_V), Ix_52 = q2 → ai_Go si_t (3, false, 9, cd_35) (ai_Cl si_t si_ms e) (sp_Q none I1 J Rf G) 52 [some (.inr (.inr th)), some (.inr (.inr a0)), some (.inl a1), z3_x52] [] (0, 0) Ix_52 J Rf G := by
    intro Ix_52 z3_x52 hq
    have h : m_35_x2_52 Ix_52 = some I1 := hc2_52 Ix_52 hq.symm
    unfold m_35_x2_52 at h
    cases h
    exact go_vret rfl (rfl) ⟨rfl, rfl, rfl, rfl, rfl⟩
  have lo2 : ∀ n s, lp (fun s => m_35_b2 th a0 a1 Rf G s.1 s.2) n s = some q2 → (fun s => ai_Go si_t (3, false, 9, cd_35) (ai_Cl si_t si_ms e) (sp_Q none I1 J Rf G) 2 [some (.inr (.inr th)), some (.inr (.inr a0)), some (.inl a1), some (.inl s.1)] [] (0, 0) s.2 J Rf G) s := lp_go (fun s x2 hx hk2 => by
    obtain ⟨v3_2, I_2⟩ := s
    have h : m_35_b2 th a0 a1 Rf G v3_2 I_2 = some x2 := hx
    clear hx
    show ai_Go si_t (3, false, 9, cd_35) (ai_Cl si_t si_ms e) (sp_Q none I1 J Rf G) 2 [some (.inr (.inr th)), some (.inr (.inr a0)), some (.inl a1), some (.inl v3_2)] [] (0, 0) I_2 J Rf G
    unfold m_35_b2 at h
    refine go_iload_n (pc' := 3) rfl rfl rfl ?_
    refine go_aload_n (pc' := 4) rfl rfl rfl ?_
    refine go_getR (pc' := 7) rfl rfl hth rfl ?_
    obtain ⟨g0, h⟩ := o_gE h
    obtain ⟨r_7, q_7, h⟩ := o_b1E h
    refine go_callV (pc' := 10) (B' := (0, 0)) (st' := [.inl r_7, .inl v3_2]) rfl rfl (Or.inl (by decide)) rfl rfl (o_kdE g0) (md_85 (by omega) (o_kdE g0) q_7) rfl rfl rfl ?_
    refine go_icmp_ge (pt := 52) (pc' := 13) rfl rfl rfl (fun h10 => ?_) (fun h10 => ?_)
    · replace h := o_t h10 h
      exact ex2_52 _ (some (.inl v3_2)) (lp_exitE h hk2)
    · replace h := o_f h10 h
      refine go_iload_n (pc' := 14) rfl rfl rfl ?_
      obtain ⟨r_14, q_14, h⟩ := o_b1E h
      refine go_callS (pc' := 17) (B' := (0, 0)) (st' := [.inl r_14]) rfl rfl (Or.inl (by decide)) rfl rfl trivial (md_115 (by omega) q_14) rfl rfl rfl ?_
      refine go_aload_n (pc' := 18) rfl rfl rfl ?_
      refine go_getR (pc' := 21) rfl rfl hth rfl ?_
      refine go_getI (pc' := 24) rfl rfl (by decide) (by decide) (o_kdE g0) rfl ?_
      refine go_icmp_ne (pt := 46) (pc' := 27) rfl rfl rfl (fun h24 => ?_) (fun h24 => ?_)
      · replace h := o_f h24 h
        obtain ⟨x3_46, ex3_46, h⟩ := o_b1E h
        refine go_iincE (pc' := 49) rfl rfl (y := (nI 1)) rfl ex3_46 (lo' := [some (.inr (.inr th)), some (.inr (.inr a0)), some (.inl a1), some (.inl x3_46)]) rfl rfl ?_
        refine go_goto (pc' := 2) rfl rfl ?_
        exact (lp_backE h hk2 :)
      · replace h := o_t (Decidable.of_not_not h24) h
        refine go_aload_n (pc' := 28) rfl rfl rfl ?_
        refine go_iload_n (pc' := 29) rfl rfl rfl ?_
        refine go_aload_n (pc' := 30) rfl rfl rfl ?_
        refine go_iload_n (pc' := 31) rfl rfl rfl ?_
        obtain ⟨r_31, q_31, h⟩ := o_b1E h
        refine go_callV (pc' := 34) (B' := (0, 0)) (st' := [.inl r_31]) rfl rfl (Or.inl (by decide)) rfl rfl hth (md_36 (by omega) hth q_31) rfl rfl rfl ?_
        refine go_if_eq (pt := 46) (pc' := 37) rfl rfl rfl (fun h34 => ?_) (fun h34 => ?_)
        · replace h := o_t h34 h
          obtain ⟨x3_46, ex3_46, h⟩ := o_b1E h
          refine go_iincE (pc' := 49) rfl rfl (y := (nI 1)) rfl ex3_46 (lo' := [some (.inr (.inr th)), some (.inr (.inr a0)), some (.inl a1), some (.inl x3_46)]) rfl rfl ?_
          refine go_goto (pc' := 2) rfl rfl ?_
          exact (lp_backE h hk2 :)
        · replace h := o_f h34 h
          refine go_aload_n (pc' := 38) rfl rfl rfl ?_
          refine go_getR (pc' := 41) rfl rfl hth rfl ?_
          refine go_iload_n (pc' := 42) rfl rfl rfl ?_
          refine go_iconst (pc' := 43) (v := (nI 0)) rfl rfl rfl ?_
          obtain ⟨I_43, q_43, h⟩ := o_b1E h
          refine go_callV (pc' := 46) (B' := (0, 0)) (st' := []) rfl rfl (Or.inl (by decide)) rfl rfl (o_kdE g0) (md_80 (by omega) (o_kdE g0) q_43) rfl rfl rfl ?_
          obtain ⟨x3_46, ex3_46, h⟩ := o_b1E h
          refine go_iincE (pc' := 49) rfl rfl (y := (nI 1)) rfl ex3_46 (lo' := [some (.inr (.inr th)), some (.inr (.inr a0)), some (.inl a1), some (.inl x3_46)]) rfl rfl ?_
          refine go_goto (pc' := 2) rfl rfl ?_
          exact (lp_backE h hk2 :))
  exact lo2 _ ((nI 0), I) hl2 
def m_37_x2_40 (Ix_40 : ai_I) : Option (ai_I) :=
  some Ix_40
def m_37_b2 (th : Nat) (a0 : Nat) (a1 : Int32) (Rf : ai_R) (G : ai_G) (v3_2 : Int32) (I_2 : ai_I) : Option ((Int32 × ai_I) ⊕ ai_I) :=
  o_g (o_kd G a0 0) (o_b1 (m_3 a0 a1 I_2 Rf G) (fun r_7 => if r_7 ≤ (v3_2 + (nI 1)) then (some (Sum.inr I_2)) else (o_b1 (m_4 a0 a1 v3_2 I_2 Rf G) (fun r_20 => o_b1 (m_4 a0 a1 (v3_2 + (nI 1)) I_2 Rf G) (fun r_28 => o_g (o_kd G (Rf th 0) 8) (o_b1 (m_80 (Rf th 0) r_20 r_28 I_2 Rf G) (fun I_31 => o_b1 (some (v3_2 + (nI 2))) (fun x3_34 => some (Sum.inl (x3_34, I_31))))))))))
/-- PricedBases$Maker.makeTold(LPricedBases$Clauses;I)V -/
def m_37 (th : Nat) (a0 : Nat) (a1 : Int32) (I : ai_I) (Rf : ai_R) (G : ai_G) : Option (ai_I) :=
  o_s1 (lp (fun s => m_37_b2 th a0 a1 Rf G s.1 s.2) o_N ((nI 3), I)) (fun t => m_37_x2_40 t)
theorem md_37 {d : Nat} {I : ai_I} {J : ai_J} {Rf : ai_R} {G : ai_G} {th : Nat} {a0 : Nat} {a1 : Int32} {I1 : ai_I} (hd : 2 ≤ d) (hth : G.1 th = 3) (h : m_37 th a0 a1 I Rf G = some I1) : ai_Cl si_t si_ms d 37 [.inr (.inr th), .inr (.inr a0), .inl a1] I J Rf G none I1 J Rf G := by
  obtain ⟨e, rfl⟩ : ∃ e, d = e + 1 := ⟨d - 1, by omega⟩
  unfold m_37 at h
  refine sp_in (lo := [some (.inr (.inr th)), some (.inr (.inr a0)), some (.inl a1), none]) (B := (0, 0)) rfl (Nat.le_of_ble_eq_true rfl) rfl rfl ?_
  refine go_iconst (pc' := 1) (v := (nI 3)) rfl rfl rfl ?_
  refine go_istore_n (pc' := 2) (lo' := [some (.inr (.inr th)), some (.inr (.inr a0)), some (.inl a1), some (.inl (nI 3))]) rfl rfl rfl ?_
  obtain ⟨q2, hl2, hc2_40⟩ := o_s1E h
  have ex2_40 : ∀ (Ix_40 : ai_I) (z3_x40 : Option ai_V), Ix_40 = q2 → ai_Go si_t (3, false, 9, cd_37) (ai_Cl si_t si_ms e) (sp_Q none I1 J Rf G) 40 [some (.inr (.inr th)), some (.inr (.inr a0)), some (.inl a1), z3_x40] [] (0, 0) Ix_40 J Rf G := by
    intro Ix_40 z3_x40 hq
    have h : m_37_x2_40 Ix_40 = some I1 := hc2_40 Ix_40 hq.symm
    unfold m_37_x2_40 at h
    cases h
    exact go_vret rfl (rfl) ⟨rfl, rfl, rfl, rfl, rfl⟩
  have lo2 : ∀ n s, lp (fun s => m_37_b2 th a0 a1 Rf G s.1 s.2) n s = some q2 → (fun s => ai_Go si_t (3, false, 9, cd_37) (ai_Cl si_t si_ms e) (sp_Q none I1 J Rf G) 2 [some (.inr (.inr th)), some (.inr (.inr a0)), some (.inl a1), some (.inl s.1)] [] (0, 0) s.2 J Rf G) s := lp_go (fun s x2 hx hk2 => by
    obtain ⟨v3_2, I_2⟩ := s
    have h : m_37_b2 th a0 a1 Rf G v3_2 I_2 = some x2 := hx
    clear hx
    show ai_Go si_t (3, false, 9, cd_37) (ai_Cl si_t si_ms e) (sp_Q none I1 J Rf G) 2 [some (.inr (.inr th)), some (.inr (.inr a0)), some (.inl a1), some (.inl v3_2)] [] (0, 0) I_2 J Rf G
    unfold m_37_b2 at h
    refine go_iload_n (pc' := 3) rfl rfl rfl ?_
    refine go_iconst (pc' := 4) (v := (nI 1)) rfl rfl rfl ?_
    refine go_iadd (pc' := 5) rfl rfl ?_
    refine go_aload_n (pc' := 6) rfl rfl rfl ?_
    refine go_iload_n (pc' := 7) rfl rfl rfl ?_
    obtain ⟨g0, h⟩ := o_gE h
    obtain ⟨r_7, q_7, h⟩ := o_b1E h
    refine go_callV (pc' := 10) (B' := (0, 0)) (st' := [.inl r_7, .inl (v3_2 + (nI 1))]) rfl rfl (Or.inl (by decide)) rfl rfl (o_kdE g0) (md_3 (by omega) (o_kdE g0) q_7) rfl rfl rfl ?_
    refine go_icmp_ge (pt := 40) (pc' := 13) rfl rfl rfl (fun h10 => ?_) (fun h10 => ?_)
    · replace h := o_t h10 h
      exact ex2_40 _ (some (.inl v3_2)) (lp_exitE h hk2)
    · replace h := o_f h10 h
      refine go_aload_n (pc' := 14) rfl rfl rfl ?_
      refine go_getR (pc' := 17) rfl rfl hth rfl ?_
      refine go_aload_n (pc' := 18) rfl rfl rfl ?_
      refine go_iload_n (pc' := 19) rfl rfl rfl ?_
      refine go_iload_n (pc' := 20) rfl rfl rfl ?_
      obtain ⟨r_20, q_20, h⟩ := o_b1E h
      refine go_callV (pc' := 23) (B' := (0, 0)) (st' := [.inl r_20, .inr (.inr (Rf th 0))]) rfl rfl (Or.inl (by decide)) rfl rfl (o_kdE g0) (md_4 (by omega) (o_kdE g0) q_20) rfl rfl rfl ?_
      refine go_aload_n (pc' := 24) rfl rfl rfl ?_
      refine go_iload_n (pc' := 25) rfl rfl rfl ?_
      refine go_iload_n (pc' := 26) rfl rfl rfl ?_
      refine go_iconst (pc' := 27) (v := (nI 1)) rfl rfl rfl ?_
      refine go_iadd (pc' := 28) rfl rfl ?_
      obtain ⟨r_28, q_28, h⟩ := o_b1E h
      refine go_callV (pc' := 31) (B' := (0, 0)) (st' := [.inl r_28, .inl r_20, .inr (.inr (Rf th 0))]) rfl rfl (Or.inl (by decide)) rfl rfl (o_kdE g0) (md_4 (by omega) (o_kdE g0) q_28) rfl rfl rfl ?_
      obtain ⟨g1, h⟩ := o_gE h
      obtain ⟨I_31, q_31, h⟩ := o_b1E h
      refine go_callV (pc' := 34) (B' := (0, 0)) (st' := []) rfl rfl (Or.inl (by decide)) rfl rfl (o_kdE g1) (md_80 (by omega) (o_kdE g1) q_31) rfl rfl rfl ?_
      obtain ⟨x3_34, ex3_34, h⟩ := o_b1E h
      refine go_iincE (pc' := 37) rfl rfl (y := (nI 2)) rfl ex3_34 (lo' := [some (.inr (.inr th)), some (.inr (.inr a0)), some (.inl a1), some (.inl x3_34)]) rfl rfl ?_
      refine go_goto (pc' := 2) rfl rfl ?_
      exact (lp_backE h hk2 :))
  exact lo2 _ ((nI 3), I) hl2 
def m_28_j22 (th : Nat) (a0 : Int32) (a1 : Nat) (a2 : Int32) (I : ai_I) (Rf : ai_R) (G : ai_G) (t0_22 : Int32) : Option (Int32 × ai_I) :=
  o_g (o_kd G a1 0) (o_b1 (m_4 a1 a2 (nI 1) I Rf G) (fun r_28 => o_b2 (m_30 th r_28 t0_22 I Rf G) (fun r_33 I_33 => if r_33 = 0 then (some ((nI 0), I_33)) else (if a0 = (nI 1) then (o_b1 (m_32 th I_33 Rf G) (fun I_47 => some ((nI 1), I_47))) else (if a0 = (nI 2) then (o_b1 (m_33 th a1 a2 I_33 Rf G) (fun I_61 => some ((nI 1), I_61))) else (if a0 = (nI 3) then (o_b1 (m_35 th a1 a2 I_33 Rf G) (fun I_75 => some ((nI 1), I_75))) else (o_b1 (m_37 th a1 a2 I_33 Rf G) (fun I_84 => some ((nI 1), I_84)))))))))
/-- PricedBases$Maker.isTable(ILPricedBases$Clauses;I)Z -/
def m_28 (th : Nat) (a0 : Int32) (a1 : Nat) (a2 : Int32) (I : ai_I) (Rf : ai_R) (G : ai_G) : Option (Int32 × ai_I) :=
  if a0 = (nI 3) then (o_g (o_kd G a1 0) (o_b1 (m_4 a1 a2 (nI 2) I Rf G) (fun r_8 => m_28_j22 th a0 a1 a2 I Rf G (r_8 - (nI 1))))) else (o_g (o_kd G a1 0) (o_b1 (m_4 a1 a2 (nI 2) I Rf G) (fun r_19 => m_28_j22 th a0 a1 a2 I Rf G r_19)))
theorem md_28 {d : Nat} {I : ai_I} {J : ai_J} {Rf : ai_R} {G : ai_G} {th : Nat} {a0 : Int32} {a1 : Nat} {a2 : Int32} {r : Int32} {I1 : ai_I} (hd : 4 ≤ d) (hth : G.1 th = 3) (h : m_28 th a0 a1 a2 I Rf G = some (r, I1)) : ai_Cl si_t si_ms d 28 [.inr (.inr th), .inl a0, .inr (.inr a1), .inl a2] I J Rf G (some (.inl r)) I1 J Rf G := by
  obtain ⟨e, rfl⟩ : ∃ e, d = e + 1 := ⟨d - 1, by omega⟩
  unfold m_28 at h
  refine sp_in (lo := [some (.inr (.inr th)), some (.inl a0), some (.inr (.inr a1)), some (.inl a2), none]) (B := (0, 0)) rfl (Nat.le_of_ble_eq_true rfl) rfl rfl ?_
  refine go_iload_n (pc' := 1) rfl rfl rfl ?_
  refine go_iconst (pc' := 2) (v := (nI 3)) rfl rfl rfl ?_
  have jn22 : ∀ (t0_22 : Int32), m_28_j22 th a0 a1 a2 I Rf G t0_22 = some (r, I1) → ai_Go si_t (3, false, 3, cd_28) (ai_Cl si_t si_ms e) (sp_Q (some (.inl r)) I1 J Rf G) 22 [some (.inr (.inr th)), some (.inl a0), some (.inr (.inr a1)), some (.inl a2), none] [.inl t0_22] (0, 0) I J Rf G := by
    intro t0_22 h
    unfold m_28_j22 at h
    refine go_istore (pc' := 24) (lo' := [some (.inr (.inr th)), some (.inl a0), some (.inr (.inr a1)), some (.inl a2), some (.inl t0_22)]) rfl rfl rfl ?_
    refine go_aload_n (pc' := 25) rfl rfl rfl ?_
    refine go_aload_n (pc' := 26) rfl rfl rfl ?_
    refine go_iload_n (pc' := 27) rfl rfl rfl ?_
    refine go_iconst (pc' := 28) (v := (nI 1)) rfl rfl rfl ?_
    obtain ⟨g0, h⟩ := o_gE h
    obtain ⟨r_28, q_28, h⟩ := o_b1E h
    refine go_callV (pc' := 31) (B' := (0, 0)) (st' := [.inl r_28, .inr (.inr th)]) rfl rfl (Or.inl (by decide)) rfl rfl (o_kdE g0) (md_4 (by omega) (o_kdE g0) q_28) rfl rfl rfl ?_
    refine go_iload (pc' := 33) rfl rfl rfl ?_
    obtain ⟨r_33, I_33, q_33, h⟩ := o_b2E h
    refine go_callV (pc' := 36) (B' := (0, 0)) (st' := [.inl r_33]) rfl rfl (Or.inl (by decide)) rfl rfl hth (md_30 (by omega) hth q_33) rfl rfl rfl ?_
    refine go_if_ne (pt := 41) (pc' := 39) rfl rfl rfl (fun h36 => ?_) (fun h36 => ?_)
    · replace h := o_f h36 h
      refine go_iload_n (pc' := 42) rfl rfl rfl ?_
      refine go_iconst (pc' := 43) (v := (nI 1)) rfl rfl rfl ?_
      refine go_icmp_ne (pt := 53) (pc' := 46) rfl rfl rfl (fun h43 => ?_) (fun h43 => ?_)
      · replace h := o_f h43 h
        refine go_iload_n (pc' := 54) rfl rfl rfl ?_
        refine go_iconst (pc' := 55) (v := (nI 2)) rfl rfl rfl ?_
        refine go_icmp_ne (pt := 67) (pc' := 58) rfl rfl rfl (fun h55 => ?_) (fun h55 => ?_)
        · replace h := o_f h55 h
          refine go_iload_n (pc' := 68) rfl rfl rfl ?_
          refine go_iconst (pc' := 69) (v := (nI 3)) rfl rfl rfl ?_
          refine go_icmp_ne (pt := 81) (pc' := 72) rfl rfl rfl (fun h69 => ?_) (fun h69 => ?_)
          · replace h := o_f h69 h
            refine go_aload_n (pc' := 82) rfl rfl rfl ?_
            refine go_aload_n (pc' := 83) rfl rfl rfl ?_
            refine go_iload_n (pc' := 84) rfl rfl rfl ?_
            obtain ⟨I_84, q_84, h⟩ := o_b1E h
            refine go_callV (pc' := 87) (B' := (0, 0)) (st' := []) rfl rfl (Or.inl (by decide)) rfl rfl hth (md_37 (by omega) hth q_84) rfl rfl rfl ?_
            refine go_iconst (pc' := 88) (v := (nI 1)) rfl rfl rfl ?_
            cases h
            exact go_iret rfl (rfl) ⟨rfl, rfl, rfl, rfl, rfl⟩
          · replace h := o_t (Decidable.of_not_not h69) h
            refine go_aload_n (pc' := 73) rfl rfl rfl ?_
            refine go_aload_n (pc' := 74) rfl rfl rfl ?_
            refine go_iload_n (pc' := 75) rfl rfl rfl ?_
            obtain ⟨I_75, q_75, h⟩ := o_b1E h
            refine go_callV (pc' := 78) (B' := (0, 0)) (st' := []) rfl rfl (Or.inl (by decide)) rfl rfl hth (md_35 (by omega) hth q_75) rfl rfl rfl ?_
            refine go_goto (pc' := 87) rfl rfl ?_
            refine go_iconst (pc' := 88) (v := (nI 1)) rfl rfl rfl ?_
            cases h
            exact go_iret rfl (rfl) ⟨rfl, rfl, rfl, rfl, rfl⟩
        · replace h := o_t (Decidable.of_not_not h55) h
          refine go_aload_n (pc' := 59) rfl rfl rfl ?_
          refine go_aload_n (pc' := 60) rfl rfl rfl ?_
          refine go_iload_n (pc' := 61) rfl rfl rfl ?_
          obtain ⟨I_61, q_61, h⟩ := o_b1E h
          refine go_callV (pc' := 64) (B' := (0, 0)) (st' := []) rfl rfl (Or.inl (by decide)) rfl rfl hth (md_33 (by omega) hth q_61) rfl rfl rfl ?_
          refine go_goto (pc' := 87) rfl rfl ?_
          refine go_iconst (pc' := 88) (v := (nI 1)) rfl rfl rfl ?_
          cases h
          exact go_iret rfl (rfl) ⟨rfl, rfl, rfl, rfl, rfl⟩
      · replace h := o_t (Decidable.of_not_not h43) h
        refine go_aload_n (pc' := 47) rfl rfl rfl ?_
        obtain ⟨I_47, q_47, h⟩ := o_b1E h
        refine go_callV (pc' := 50) (B' := (0, 0)) (st' := []) rfl rfl (Or.inl (by decide)) rfl rfl hth (md_32 (by omega) hth q_47) rfl rfl rfl ?_
        refine go_goto (pc' := 87) rfl rfl ?_
        refine go_iconst (pc' := 88) (v := (nI 1)) rfl rfl rfl ?_
        cases h
        exact go_iret rfl (rfl) ⟨rfl, rfl, rfl, rfl, rfl⟩
    · replace h := o_t (Decidable.of_not_not h36) h
      refine go_iconst (pc' := 40) (v := (nI 0)) rfl rfl rfl ?_
      cases h
      exact go_iret rfl (rfl) ⟨rfl, rfl, rfl, rfl, rfl⟩
  refine go_icmp_ne (pt := 16) (pc' := 5) rfl rfl rfl (fun h2 => ?_) (fun h2 => ?_)
  · replace h := o_f h2 h
    refine go_aload_n (pc' := 17) rfl rfl rfl ?_
    refine go_iload_n (pc' := 18) rfl rfl rfl ?_
    refine go_iconst (pc' := 19) (v := (nI 2)) rfl rfl rfl ?_
    obtain ⟨g1, h⟩ := o_gE h
    obtain ⟨r_19, q_19, h⟩ := o_b1E h
    refine go_callV (pc' := 22) (B' := (0, 0)) (st' := [.inl r_19]) rfl rfl (Or.inl (by decide)) rfl rfl (o_kdE g1) (md_4 (by omega) (o_kdE g1) q_19) rfl rfl rfl ?_
    exact jn22 r_19 h
  · replace h := o_t (Decidable.of_not_not h2) h
    refine go_aload_n (pc' := 6) rfl rfl rfl ?_
    refine go_iload_n (pc' := 7) rfl rfl rfl ?_
    refine go_iconst (pc' := 8) (v := (nI 2)) rfl rfl rfl ?_
    obtain ⟨g2, h⟩ := o_gE h
    obtain ⟨r_8, q_8, h⟩ := o_b1E h
    refine go_callV (pc' := 11) (B' := (0, 0)) (st' := [.inl r_8]) rfl rfl (Or.inl (by decide)) rfl rfl (o_kdE g2) (md_4 (by omega) (o_kdE g2) q_8) rfl rfl rfl ?_
    refine go_iconst (pc' := 12) (v := (nI 1)) rfl rfl rfl ?_
    refine go_isub (pc' := 13) rfl rfl ?_
    refine go_goto (pc' := 22) rfl rfl ?_
    exact jn22 (r_8 - (nI 1)) h
/-- PricedBases$Valuation.all()I -/
def m_86 (th : Nat) (I : ai_I) : Option (Int32) :=
  o_b1 (m_85 th I) (fun r_1 => some (r_1 - (nI 1)))
theorem md_86 {d : Nat} {I : ai_I} {J : ai_J} {Rf : ai_R} {G : ai_G} {th : Nat} {r : Int32} (hd : 2 ≤ d) (hth : G.1 th = 8) (h : m_86 th I = some r) : ai_Cl si_t si_ms d 86 [.inr (.inr th)] I J Rf G (some (.inl r)) I J Rf G := by
  obtain ⟨e, rfl⟩ : ∃ e, d = e + 1 := ⟨d - 1, by omega⟩
  unfold m_86 at h
  refine sp_in (lo := [some (.inr (.inr th))]) (B := (0, 0)) rfl (Nat.le_of_ble_eq_true rfl) rfl rfl ?_
  refine go_aload_n (pc' := 1) rfl rfl rfl ?_
  obtain ⟨r_1, q_1, h⟩ := o_b1E h
  refine go_callV (pc' := 4) (B' := (0, 0)) (st' := [.inl r_1]) rfl rfl (Or.inl (by decide)) rfl rfl hth (md_85 (by omega) hth q_1) rfl rfl rfl ?_
  refine go_iconst (pc' := 5) (v := (nI 1)) rfl rfl rfl ?_
  refine go_isub (pc' := 6) rfl rfl ?_
  cases h
  exact go_iret rfl (trivial) ⟨rfl, rfl, rfl, rfl, rfl⟩
def m_38_x24_64 (Ix_64 : ai_I) : Option (Int32 × ai_I) :=
  some ((nI 1), Ix_64)
def m_38_b24 (th : Nat) (a0 : Nat) (Rf : ai_R) (G : ai_G) (v2_24 : Int32) (I_24 : ai_I) : Option ((Int32 × ai_I) ⊕ ai_I) :=
  if (I_24 a0 2) ≤ v2_24 then (some (Sum.inr I_24)) else (o_g (o_in G 13 (Rf a0 5) v2_24) (o_b1 (some (I_24 (Rf a0 5) v2_24.toNatClampNeg)) (fun x3_38 => o_b1 (m_86 a0 I_24) (fun r_44 => o_g (o_in G 13 (Rf a0 3) x3_38) (o_g (o_kd G (Rf th 0) 8) (o_b1 (m_80 (Rf th 0) (r_44 ^^^ x3_38) (I_24 (Rf a0 3) x3_38.toNatClampNeg) I_24 Rf G) (fun I_55 => o_b1 (some (v2_24 + (nI 1))) (fun x2_58 => some (Sum.inl (x2_58, I_55))))))))))
/-- PricedBases$Maker.isDual(LPricedBases$Valuation;)Z -/
def m_38 (th : Nat) (a0 : Nat) (I : ai_I) (Rf : ai_R) (G : ai_G) : Option (Int32 × ai_I) :=
  o_g (o_kd G a0 8) (o_b2 (m_30 th (I a0 0) ((I a0 0) - (I a0 1)) I Rf G) (fun r_14 I_14 => if r_14 = 0 then (some ((nI 0), I_14)) else (o_s1 (lp (fun s => m_38_b24 th a0 Rf G s.1 s.2) o_N ((nI 0), I_14)) (fun t => m_38_x24_64 t))))
theorem md_38 {d : Nat} {I : ai_I} {J : ai_J} {Rf : ai_R} {G : ai_G} {th : Nat} {a0 : Nat} {r : Int32} {I1 : ai_I} (hd : 4 ≤ d) (hth : G.1 th = 3) (h : m_38 th a0 I Rf G = some (r, I1)) : ai_Cl si_t si_ms d 38 [.inr (.inr th), .inr (.inr a0)] I J Rf G (some (.inl r)) I1 J Rf G := by
  obtain ⟨e, rfl⟩ : ∃ e, d = e + 1 := ⟨d - 1, by omega⟩
  unfold m_38 at h
  refine sp_in (lo := [some (.inr (.inr th)), some (.inr (.inr a0)), none, none]) (B := (0, 0)) rfl (Nat.le_of_ble_eq_true rfl) rfl rfl ?_
  refine go_aload_n (pc' := 1) rfl rfl rfl ?_
  refine go_aload_n (pc' := 2) rfl rfl rfl ?_
  obtain ⟨g0, h⟩ := o_gE h
  refine go_getI (pc' := 5) rfl rfl (by decide) (by decide) (o_kdE g0) rfl ?_
  refine go_aload_n (pc' := 6) rfl rfl rfl ?_
  refine go_getI (pc' := 9) rfl rfl (by decide) (by decide) (o_kdE g0) rfl ?_
  refine go_aload_n (pc' := 10) rfl rfl rfl ?_
  refine go_getI (pc' := 13) rfl rfl (by decide) (by decide) (o_kdE g0) rfl ?_
  refine go_isub (pc' := 14) rfl rfl ?_
  obtain ⟨r_14, I_14, q_14, h⟩ := o_b2E h
  refine go_callV (pc' := 17) (B' := (0, 0)) (st' := [.inl r_14]) rfl rfl (Or.inl (by decide)) rfl rfl hth (md_30 (by omega) hth q_14) rfl rfl rfl ?_
  refine go_if_ne (pt := 22) (pc' := 20) rfl rfl rfl (fun h17 => ?_) (fun h17 => ?_)
  · replace h := o_f h17 h
    refine go_iconst (pc' := 23) (v := (nI 0)) rfl rfl rfl ?_
    refine go_istore_n (pc' := 24) (lo' := [some (.inr (.inr th)), some (.inr (.inr a0)), some (.inl (nI 0)), none]) rfl rfl rfl ?_
    obtain ⟨q24, hl24, hc24_64⟩ := o_s1E h
    have ex24_64 : ∀ (Ix_64 : ai_I) (z2_x64 : Option ai_V) (z3_x64 : Option ai_V), Ix_64 = q24 → ai_Go si_t (3, false, 3, cd_38) (ai_Cl si_t si_ms e) (sp_Q (some (.inl r)) I1 J Rf G) 64 [some (.inr (.inr th)), some (.inr (.inr a0)), z2_x64, z3_x64] [] (0, 0) Ix_64 J Rf G := by
      intro Ix_64 z2_x64 z3_x64 hq
      have h : m_38_x24_64 Ix_64 = some (r, I1) := hc24_64 Ix_64 hq.symm
      unfold m_38_x24_64 at h
      refine go_iconst (pc' := 65) (v := (nI 1)) rfl rfl rfl ?_
      cases h
      exact go_iret rfl (rfl) ⟨rfl, rfl, rfl, rfl, rfl⟩
    have lo24 : ∀ n s, lp (fun s => m_38_b24 th a0 Rf G s.1 s.2) n s = some q24 → (fun s => ∀ (z3_24 : Option ai_V), ai_Go si_t (3, false, 3, cd_38) (ai_Cl si_t si_ms e) (sp_Q (some (.inl r)) I1 J Rf G) 24 [some (.inr (.inr th)), some (.inr (.inr a0)), some (.inl s.1), z3_24] [] (0, 0) s.2 J Rf G) s := lp_go (fun s x24 hx hk24 => by
      obtain ⟨v2_24, I_24⟩ := s
      intro z3_24
      have h : m_38_b24 th a0 Rf G v2_24 I_24 = some x24 := hx
      clear hx
      show ai_Go si_t (3, false, 3, cd_38) (ai_Cl si_t si_ms e) (sp_Q (some (.inl r)) I1 J Rf G) 24 [some (.inr (.inr th)), some (.inr (.inr a0)), some (.inl v2_24), z3_24] [] (0, 0) I_24 J Rf G
      unfold m_38_b24 at h
      refine go_iload_n (pc' := 25) rfl rfl rfl ?_
      refine go_aload_n (pc' := 26) rfl rfl rfl ?_
      refine go_getI (pc' := 29) rfl rfl (by decide) (by decide) (o_kdE g0) rfl ?_
      refine go_icmp_ge (pt := 64) (pc' := 32) rfl rfl rfl (fun h29 => ?_) (fun h29 => ?_)
      · replace h := o_t h29 h
        exact ex24_64 _ (some (.inl v2_24)) z3_24 (lp_exitE h hk24)
      · replace h := o_f h29 h
        refine go_aload_n (pc' := 33) rfl rfl rfl ?_
        refine go_getR (pc' := 36) rfl rfl (o_kdE g0) rfl ?_
        refine go_iload_n (pc' := 37) rfl rfl rfl ?_
        obtain ⟨g1, h⟩ := o_gE h
        refine go_iaload (pc' := 38) rfl (o_inK g1) (o_inB g1) rfl ?_
        obtain ⟨x3_38, ex3_38, h⟩ := o_b1E h
        refine go_ndI ex3_38 ?_
        refine go_istore_n (pc' := 39) (lo' := [some (.inr (.inr th)), some (.inr (.inr a0)), some (.inl v2_24), some (.inl x3_38)]) rfl rfl rfl ?_
        refine go_aload_n (pc' := 40) rfl rfl rfl ?_
        refine go_getR (pc' := 43) rfl rfl hth rfl ?_
        refine go_aload_n (pc' := 44) rfl rfl rfl ?_
        obtain ⟨r_44, q_44, h⟩ := o_b1E h
        refine go_callV (pc' := 47) (B' := (0, 0)) (st' := [.inl r_44, .inr (.inr (Rf th 0))]) rfl rfl (Or.inl (by decide)) rfl rfl (o_kdE g0) (md_86 (by omega) (o_kdE g0) q_44) rfl rfl rfl ?_
        refine go_iload_n (pc' := 48) rfl rfl rfl ?_
        refine go_ixor (pc' := 49) rfl rfl ?_
        refine go_aload_n (pc' := 50) rfl rfl rfl ?_
        refine go_getR (pc' := 53) rfl rfl (o_kdE g0) rfl ?_
        refine go_iload_n (pc' := 54) rfl rfl rfl ?_
        obtain ⟨g2, h⟩ := o_gE h
        refine go_iaload (pc' := 55) rfl (o_inK g2) (o_inB g2) rfl ?_
        obtain ⟨g3, h⟩ := o_gE h
        obtain ⟨I_55, q_55, h⟩ := o_b1E h
        refine go_callV (pc' := 58) (B' := (0, 0)) (st' := []) rfl rfl (Or.inl (by decide)) rfl rfl (o_kdE g3) (md_80 (by omega) (o_kdE g3) q_55) rfl rfl rfl ?_
        obtain ⟨x2_58, ex2_58, h⟩ := o_b1E h
        refine go_iincE (pc' := 61) rfl rfl (y := (nI 1)) rfl ex2_58 (lo' := [some (.inr (.inr th)), some (.inr (.inr a0)), some (.inl x2_58), some (.inl x3_38)]) rfl rfl ?_
        refine go_goto (pc' := 24) rfl rfl ?_
        exact (lp_backE h hk24 (some (.inl x3_38)) :))
    exact lo24 _ ((nI 0), I_14) hl24 none
  · replace h := o_t (Decidable.of_not_not h17) h
    refine go_iconst (pc' := 21) (v := (nI 0)) rfl rfl rfl ?_
    cases h
    exact go_iret rfl (rfl) ⟨rfl, rfl, rfl, rfl, rfl⟩
/-- PricedBases$Valuation.hasElement(I)Z -/
def m_87 (th : Nat) (a0 : Int32) (I : ai_I) : Option (Int32) :=
  if a0 < 0 then (some (nI 0)) else (if (I th 0) ≤ a0 then (some (nI 0)) else (some (nI 1)))
theorem md_87 {d : Nat} {I : ai_I} {J : ai_J} {Rf : ai_R} {G : ai_G} {th : Nat} {a0 : Int32} {r : Int32} (hd : 1 ≤ d) (hth : G.1 th = 8) (h : m_87 th a0 I = some r) : ai_Cl si_t si_ms d 87 [.inr (.inr th), .inl a0] I J Rf G (some (.inl r)) I J Rf G := by
  obtain ⟨e, rfl⟩ : ∃ e, d = e + 1 := ⟨d - 1, by omega⟩
  unfold m_87 at h
  refine sp_in (lo := [some (.inr (.inr th)), some (.inl a0)]) (B := (0, 0)) rfl (Nat.le_of_ble_eq_true rfl) rfl rfl ?_
  refine go_iload_n (pc' := 1) rfl rfl rfl ?_
  refine go_if_lt (pt := 16) (pc' := 4) rfl rfl rfl (fun h1 => ?_) (fun h1 => ?_)
  · replace h := o_t h1 h
    refine go_iconst (pc' := 17) (v := (nI 0)) rfl rfl rfl ?_
    cases h
    exact go_iret rfl (rfl) ⟨rfl, rfl, rfl, rfl, rfl⟩
  · replace h := o_f h1 h
    refine go_iload_n (pc' := 5) rfl rfl rfl ?_
    refine go_aload_n (pc' := 6) rfl rfl rfl ?_
    refine go_getI (pc' := 9) rfl rfl (by decide) (by decide) hth rfl ?_
    refine go_icmp_ge (pt := 16) (pc' := 12) rfl rfl rfl (fun h9 => ?_) (fun h9 => ?_)
    · replace h := o_t h9 h
      refine go_iconst (pc' := 17) (v := (nI 0)) rfl rfl rfl ?_
      cases h
      exact go_iret rfl (rfl) ⟨rfl, rfl, rfl, rfl, rfl⟩
    · replace h := o_f h9 h
      refine go_iconst (pc' := 13) (v := (nI 1)) rfl rfl rfl ?_
      refine go_goto (pc' := 17) rfl rfl ?_
      cases h
      exact go_iret rfl (rfl) ⟨rfl, rfl, rfl, rfl, rfl⟩
def m_39_x39_102 (Ix_102 : ai_I) : Option (Int32 × ai_I) :=
  some ((nI 1), Ix_102)
def m_39_b39 (th : Nat) (a0 : Nat) (a1 : Int32) (a2 : Int32) (Rf : ai_R) (G : ai_G) (x4_34 : Int32) (v5_39 : Int32) (I_39 : ai_I) : Option ((Int32 × ai_I) ⊕ ai_I) :=
  if (I_39 a0 2) ≤ v5_39 then (some (Sum.inr I_39)) else (o_g (o_in G 13 (Rf a0 5) v5_39) (o_b1 (some (I_39 (Rf a0 5) v5_39.toNatClampNeg)) (fun x6_55 => if ((x6_55 >>> (a1 &&& 31)) &&& (nI 1)) = a2 then (o_g (o_in G 13 (Rf a0 3) x6_55) (o_g (o_kd G (Rf th 0) 8) (o_b1 (m_80 (Rf th 0) ((x6_55 &&& x4_34) ||| ((x6_55 >>> ((nI 1) &&& 31)) &&& (x4_34 ^^^ (-1 : Int32)))) (I_39 (Rf a0 3) x6_55.toNatClampNeg) I_39 Rf G) (fun I_93 => o_b1 (some (v5_39 + (nI 1))) (fun x5_96 => some (Sum.inl (x5_96, I_93))))))) else (o_b1 (some (v5_39 + (nI 1))) (fun x5_96 => some (Sum.inl (x5_96, I_39)))))))
/-- PricedBases$Maker.isLess(LPricedBases$Valuation;II)Z -/
def m_39 (th : Nat) (a0 : Nat) (a1 : Int32) (a2 : Int32) (I : ai_I) (Rf : ai_R) (G : ai_G) : Option (Int32 × ai_I) :=
  o_g (o_kd G a0 8) (o_b1 (m_87 a0 a1 I) (fun r_2 => if r_2 = 0 then (some ((nI 0), I)) else (o_b2 (m_30 th ((I a0 0) - (nI 1)) ((I a0 1) - a2) I Rf G) (fun r_21 I_21 => if r_21 = 0 then (some ((nI 0), I_21)) else (o_b1 (some (((nI 1) <<< (a1 &&& 31)) - (nI 1))) (fun x4_34 => o_s1 (lp (fun s => m_39_b39 th a0 a1 a2 Rf G x4_34 s.1 s.2) o_N ((nI 0), I_21)) (fun t => m_39_x39_102 t)))))))
theorem md_39 {d : Nat} {I : ai_I} {J : ai_J} {Rf : ai_R} {G : ai_G} {th : Nat} {a0 : Nat} {a1 : Int32} {a2 : Int32} {r : Int32} {I1 : ai_I} (hd : 4 ≤ d) (hth : G.1 th = 3) (h : m_39 th a0 a1 a2 I Rf G = some (r, I1)) : ai_Cl si_t si_ms d 39 [.inr (.inr th), .inr (.inr a0), .inl a1, .inl a2] I J Rf G (some (.inl r)) I1 J Rf G := by
  obtain ⟨e, rfl⟩ : ∃ e, d = e + 1 := ⟨d - 1, by omega⟩
  unfold m_39 at h
  refine sp_in (lo := [some (.inr (.inr th)), some (.inr (.inr a0)), some (.inl a1), some (.inl a2), none, none, none]) (B := (0, 0)) rfl (Nat.le_of_ble_eq_true rfl) rfl rfl ?_
  refine go_aload_n (pc' := 1) rfl rfl rfl ?_
  refine go_iload_n (pc' := 2) rfl rfl rfl ?_
  obtain ⟨g0, h⟩ := o_gE h
  obtain ⟨r_2, q_2, h⟩ := o_b1E h
  refine go_callV (pc' := 5) (B' := (0, 0)) (st' := [.inl r_2]) rfl rfl (Or.inl (by decide)) rfl rfl (o_kdE g0) (md_87 (by omega) (o_kdE g0) q_2) rfl rfl rfl ?_
  refine go_if_eq (pt := 27) (pc' := 8) rfl rfl rfl (fun h5 => ?_) (fun h5 => ?_)
  · replace h := o_t h5 h
    refine go_iconst (pc' := 28) (v := (nI 0)) rfl rfl rfl ?_
    cases h
    exact go_iret rfl (rfl) ⟨rfl, rfl, rfl, rfl, rfl⟩
  · replace h := o_f h5 h
    refine go_aload_n (pc' := 9) rfl rfl rfl ?_
    refine go_aload_n (pc' := 10) rfl rfl rfl ?_
    refine go_getI (pc' := 13) rfl rfl (by decide) (by decide) (o_kdE g0) rfl ?_
    refine go_iconst (pc' := 14) (v := (nI 1)) rfl rfl rfl ?_
    refine go_isub (pc' := 15) rfl rfl ?_
    refine go_aload_n (pc' := 16) rfl rfl rfl ?_
    refine go_getI (pc' := 19) rfl rfl (by decide) (by decide) (o_kdE g0) rfl ?_
    refine go_iload_n (pc' := 20) rfl rfl rfl ?_
    refine go_isub (pc' := 21) rfl rfl ?_
    obtain ⟨r_21, I_21, q_21, h⟩ := o_b2E h
    refine go_callV (pc' := 24) (B' := (0, 0)) (st' := [.inl r_21]) rfl rfl (Or.inl (by decide)) rfl rfl hth (md_30 (by omega) hth q_21) rfl rfl rfl ?_
    refine go_if_ne (pt := 29) (pc' := 27) rfl rfl rfl (fun h24 => ?_) (fun h24 => ?_)
    · replace h := o_f h24 h
      refine go_iconst (pc' := 30) (v := (nI 1)) rfl rfl rfl ?_
      refine go_iload_n (pc' := 31) rfl rfl rfl ?_
      refine go_ishl (pc' := 32) rfl rfl ?_
      refine go_iconst (pc' := 33) (v := (nI 1)) rfl rfl rfl ?_
      refine go_isub (pc' := 34) rfl rfl ?_
      obtain ⟨x4_34, ex4_34, h⟩ := o_b1E h
      refine go_ndI ex4_34 ?_
      refine go_istore (pc' := 36) (lo' := [some (.inr (.inr th)), some (.inr (.inr a0)), some (.inl a1), some (.inl a2), some (.inl x4_34), none, none]) rfl rfl rfl ?_
      refine go_iconst (pc' := 37) (v := (nI 0)) rfl rfl rfl ?_
      refine go_istore (pc' := 39) (lo' := [some (.inr (.inr th)), some (.inr (.inr a0)), some (.inl a1), some (.inl a2), some (.inl x4_34), some (.inl (nI 0)), none]) rfl rfl rfl ?_
      obtain ⟨q39, hl39, hc39_102⟩ := o_s1E h
      have ex39_102 : ∀ (Ix_102 : ai_I) (z5_x102 : Option ai_V) (z6_x102 : Option ai_V), Ix_102 = q39 → ai_Go si_t (3, false, 3, cd_39) (ai_Cl si_t si_ms e) (sp_Q (some (.inl r)) I1 J Rf G) 102 [some (.inr (.inr th)), some (.inr (.inr a0)), some (.inl a1), some (.inl a2), some (.inl x4_34), z5_x102, z6_x102] [] (0, 0) Ix_102 J Rf G := by
        intro Ix_102 z5_x102 z6_x102 hq
        have h : m_39_x39_102 Ix_102 = some (r, I1) := hc39_102 Ix_102 hq.symm
        unfold m_39_x39_102 at h
        refine go_iconst (pc' := 103) (v := (nI 1)) rfl rfl rfl ?_
        cases h
        exact go_iret rfl (rfl) ⟨rfl, rfl, rfl, rfl, rfl⟩
      have lo39 : ∀ n s, lp (fun s => m_39_b39 th a0 a1 a2 Rf G x4_34 s.1 s.2) n s = some q39 → (fun s => ∀ (z6_39 : Option ai_V), ai_Go si_t (3, false, 3, cd_39) (ai_Cl si_t si_ms e) (sp_Q (some (.inl r)) I1 J Rf G) 39 [some (.inr (.inr th)), some (.inr (.inr a0)), some (.inl a1), some (.inl a2), some (.inl x4_34), some (.inl s.1), z6_39] [] (0, 0) s.2 J Rf G) s := lp_go (fun s x39 hx hk39 => by
        obtain ⟨v5_39, I_39⟩ := s
        intro z6_39
        have h : m_39_b39 th a0 a1 a2 Rf G x4_34 v5_39 I_39 = some x39 := hx
        clear hx
        show ai_Go si_t (3, false, 3, cd_39) (ai_Cl si_t si_ms e) (sp_Q (some (.inl r)) I1 J Rf G) 39 [some (.inr (.inr th)), some (.inr (.inr a0)), some (.inl a1), some (.inl a2), some (.inl x4_34), some (.inl v5_39), z6_39] [] (0, 0) I_39 J Rf G
        unfold m_39_b39 at h
        refine go_iload (pc' := 41) rfl rfl rfl ?_
        refine go_aload_n (pc' := 42) rfl rfl rfl ?_
        refine go_getI (pc' := 45) rfl rfl (by decide) (by decide) (o_kdE g0) rfl ?_
        refine go_icmp_ge (pt := 102) (pc' := 48) rfl rfl rfl (fun h45 => ?_) (fun h45 => ?_)
        · replace h := o_t h45 h
          exact ex39_102 _ (some (.inl v5_39)) z6_39 (lp_exitE h hk39)
        · replace h := o_f h45 h
          refine go_aload_n (pc' := 49) rfl rfl rfl ?_
          refine go_getR (pc' := 52) rfl rfl (o_kdE g0) rfl ?_
          refine go_iload (pc' := 54) rfl rfl rfl ?_
          obtain ⟨g1, h⟩ := o_gE h
          refine go_iaload (pc' := 55) rfl (o_inK g1) (o_inB g1) rfl ?_
          obtain ⟨x6_55, ex6_55, h⟩ := o_b1E h
          refine go_ndI ex6_55 ?_
          refine go_istore (pc' := 57) (lo' := [some (.inr (.inr th)), some (.inr (.inr a0)), some (.inl a1), some (.inl a2), some (.inl x4_34), some (.inl v5_39), some (.inl x6_55)]) rfl rfl rfl ?_
          refine go_iload (pc' := 59) rfl rfl rfl ?_
          refine go_iload_n (pc' := 60) rfl rfl rfl ?_
          refine go_ishr (pc' := 61) rfl rfl ?_
          refine go_iconst (pc' := 62) (v := (nI 1)) rfl rfl rfl ?_
          refine go_iand (pc' := 63) rfl rfl ?_
          refine go_iload_n (pc' := 64) rfl rfl rfl ?_
          refine go_icmp_ne (pt := 96) (pc' := 67) rfl rfl rfl (fun h64 => ?_) (fun h64 => ?_)
          · replace h := o_f h64 h
            obtain ⟨x5_96, ex5_96, h⟩ := o_b1E h
            refine go_iincE (pc' := 99) rfl rfl (y := (nI 1)) rfl ex5_96 (lo' := [some (.inr (.inr th)), some (.inr (.inr a0)), some (.inl a1), some (.inl a2), some (.inl x4_34), some (.inl x5_96), some (.inl x6_55)]) rfl rfl ?_
            refine go_goto (pc' := 39) rfl rfl ?_
            exact (lp_backE h hk39 (some (.inl x6_55)) :)
          · replace h := o_t (Decidable.of_not_not h64) h
            refine go_aload_n (pc' := 68) rfl rfl rfl ?_
            refine go_getR (pc' := 71) rfl rfl hth rfl ?_
            refine go_iload (pc' := 73) rfl rfl rfl ?_
            refine go_iload (pc' := 75) rfl rfl rfl ?_
            refine go_iand (pc' := 76) rfl rfl ?_
            refine go_iload (pc' := 78) rfl rfl rfl ?_
            refine go_iconst (pc' := 79) (v := (nI 1)) rfl rfl rfl ?_
            refine go_ishr (pc' := 80) rfl rfl ?_
            refine go_iload (pc' := 82) rfl rfl rfl ?_
            refine go_iconst (pc' := 83) (v := (-1 : Int32)) rfl rfl rfl ?_
            refine go_ixor (pc' := 84) rfl rfl ?_
            refine go_iand (pc' := 85) rfl rfl ?_
            refine go_ior (pc' := 86) rfl rfl ?_
            refine go_aload_n (pc' := 87) rfl rfl rfl ?_
            refine go_getR (pc' := 90) rfl rfl (o_kdE g0) rfl ?_
            refine go_iload (pc' := 92) rfl rfl rfl ?_
            obtain ⟨g2, h⟩ := o_gE h
            refine go_iaload (pc' := 93) rfl (o_inK g2) (o_inB g2) rfl ?_
            obtain ⟨g3, h⟩ := o_gE h
            obtain ⟨I_93, q_93, h⟩ := o_b1E h
            refine go_callV (pc' := 96) (B' := (0, 0)) (st' := []) rfl rfl (Or.inl (by decide)) rfl rfl (o_kdE g3) (md_80 (by omega) (o_kdE g3) q_93) rfl rfl rfl ?_
            obtain ⟨x5_96, ex5_96, h⟩ := o_b1E h
            refine go_iincE (pc' := 99) rfl rfl (y := (nI 1)) rfl ex5_96 (lo' := [some (.inr (.inr th)), some (.inr (.inr a0)), some (.inl a1), some (.inl a2), some (.inl x4_34), some (.inl x5_96), some (.inl x6_55)]) rfl rfl ?_
            refine go_goto (pc' := 39) rfl rfl ?_
            exact (lp_backE h hk39 (some (.inl x6_55)) :))
      exact lo39 _ ((nI 0), I_21) hl39 none
    · replace h := o_t (Decidable.of_not_not h24) h
      refine go_iconst (pc' := 28) (v := (nI 0)) rfl rfl rfl ?_
      cases h
      exact go_iret rfl (rfl) ⟨rfl, rfl, rfl, rfl, rfl⟩
def m_70_x4_28 (w2_28 : Int32) : Option (Int32) :=
  some w2_28
def m_70_b4 (a0 : Int32) (a1 : Nat) (I : ai_I) (G : ai_G) (v2_4 : Int32) (v3_4 : Int32) : Option ((Int32 × Int32) ⊕ Int32) :=
  if (nI 8) ≤ v3_4 then (some (Sum.inr v2_4)) else (o_g (o_in G 13 a1 v3_4) (o_b1 (some (v2_4 + (((a0 >>> (v3_4 &&& 31)) &&& (nI 1)) * (I a1 v3_4.toNatClampNeg)))) (fun x2_21 => o_b1 (some (v3_4 + (nI 1))) (fun x3_22 => some (Sum.inl (x2_21, x3_22))))))
/-- PricedBases$Sums.ofPrices(I[I)I -/
def m_70 (a0 : Int32) (a1 : Nat) (I : ai_I) (G : ai_G) : Option (Int32) :=
  o_s1 (lp (fun s => m_70_b4 a0 a1 I G s.1 s.2) o_N ((nI 0), (nI 0))) (fun t => m_70_x4_28 t)
theorem md_70 {d : Nat} {I : ai_I} {J : ai_J} {Rf : ai_R} {G : ai_G} {a0 : Int32} {a1 : Nat} {r : Int32} (hd : 1 ≤ d) (h : m_70 a0 a1 I G = some r) : ai_Cl si_t si_ms d 70 [.inl a0, .inr (.inr a1)] I J Rf G (some (.inl r)) I J Rf G := by
  obtain ⟨e, rfl⟩ : ∃ e, d = e + 1 := ⟨d - 1, by omega⟩
  unfold m_70 at h
  refine sp_in (lo := [some (.inl a0), some (.inr (.inr a1)), none, none]) (B := (0, 0)) rfl (Nat.le_of_ble_eq_true rfl) rfl rfl ?_
  refine go_iconst (pc' := 1) (v := (nI 0)) rfl rfl rfl ?_
  refine go_istore_n (pc' := 2) (lo' := [some (.inl a0), some (.inr (.inr a1)), some (.inl (nI 0)), none]) rfl rfl rfl ?_
  refine go_iconst (pc' := 3) (v := (nI 0)) rfl rfl rfl ?_
  refine go_istore_n (pc' := 4) (lo' := [some (.inl a0), some (.inr (.inr a1)), some (.inl (nI 0)), some (.inl (nI 0))]) rfl rfl rfl ?_
  obtain ⟨q4, hl4, hc4_28⟩ := o_s1E h
  have ex4_28 : ∀ (w2_28 : Int32) (z3_x28 : Option ai_V), w2_28 = q4 → ai_Go si_t (7, false, 0, cd_70) (ai_Cl si_t si_ms e) (sp_Q (some (.inl r)) I J Rf G) 28 [some (.inl a0), some (.inr (.inr a1)), some (.inl w2_28), z3_x28] [] (0, 0) I J Rf G := by
    intro w2_28 z3_x28 hq
    have h : m_70_x4_28 w2_28 = some r := hc4_28 w2_28 hq.symm
    unfold m_70_x4_28 at h
    refine go_iload_n (pc' := 29) rfl rfl rfl ?_
    cases h
    exact go_iret rfl (trivial) ⟨rfl, rfl, rfl, rfl, rfl⟩
  have lo4 : ∀ n s, lp (fun s => m_70_b4 a0 a1 I G s.1 s.2) n s = some q4 → (fun s => ai_Go si_t (7, false, 0, cd_70) (ai_Cl si_t si_ms e) (sp_Q (some (.inl r)) I J Rf G) 4 [some (.inl a0), some (.inr (.inr a1)), some (.inl s.1), some (.inl s.2)] [] (0, 0) I J Rf G) s := lp_go (fun s x4 hx hk4 => by
    obtain ⟨v2_4, v3_4⟩ := s
    have h : m_70_b4 a0 a1 I G v2_4 v3_4 = some x4 := hx
    clear hx
    show ai_Go si_t (7, false, 0, cd_70) (ai_Cl si_t si_ms e) (sp_Q (some (.inl r)) I J Rf G) 4 [some (.inl a0), some (.inr (.inr a1)), some (.inl v2_4), some (.inl v3_4)] [] (0, 0) I J Rf G
    unfold m_70_b4 at h
    refine go_iload_n (pc' := 5) rfl rfl rfl ?_
    refine go_bipush (pc' := 7) (v := (nI 8)) rfl rfl rfl ?_
    refine go_icmp_ge (pt := 28) (pc' := 10) rfl rfl rfl (fun h7 => ?_) (fun h7 => ?_)
    · replace h := o_t h7 h
      exact ex4_28 _ (some (.inl v3_4)) (lp_exitE h hk4)
    · replace h := o_f h7 h
      refine go_iload_n (pc' := 11) rfl rfl rfl ?_
      refine go_iload_n (pc' := 12) rfl rfl rfl ?_
      refine go_iload_n (pc' := 13) rfl rfl rfl ?_
      refine go_ishr (pc' := 14) rfl rfl ?_
      refine go_iconst (pc' := 15) (v := (nI 1)) rfl rfl rfl ?_
      refine go_iand (pc' := 16) rfl rfl ?_
      refine go_aload_n (pc' := 17) rfl rfl rfl ?_
      refine go_iload_n (pc' := 18) rfl rfl rfl ?_
      obtain ⟨g0, h⟩ := o_gE h
      refine go_iaload (pc' := 19) rfl (o_inK g0) (o_inB g0) rfl ?_
      refine go_imul (pc' := 20) rfl rfl ?_
      refine go_iadd (pc' := 21) rfl rfl ?_
      obtain ⟨x2_21, ex2_21, h⟩ := o_b1E h
      refine go_ndI ex2_21 ?_
      refine go_istore_n (pc' := 22) (lo' := [some (.inl a0), some (.inr (.inr a1)), some (.inl x2_21), some (.inl v3_4)]) rfl rfl rfl ?_
      obtain ⟨x3_22, ex3_22, h⟩ := o_b1E h
      refine go_iincE (pc' := 25) rfl rfl (y := (nI 1)) rfl ex3_22 (lo' := [some (.inl a0), some (.inr (.inr a1)), some (.inl x2_21), some (.inl x3_22)]) rfl rfl ?_
      refine go_goto (pc' := 4) rfl rfl ?_
      exact (lp_backE h hk4 :))
  exact lo4 _ ((nI 0), (nI 0)) hl4 
def m_40_x19_64 (Ix_64 : ai_I) : Option (Int32 × ai_I) :=
  some ((nI 1), Ix_64)
def m_40_b19 (th : Nat) (a0 : Nat) (a1 : Nat) (Rf : ai_R) (G : ai_G) (v3_19 : Int32) (I_19 : ai_I) : Option ((Int32 × ai_I) ⊕ ai_I) :=
  if (I_19 a0 2) ≤ v3_19 then (some (Sum.inr I_19)) else (o_g (o_in G 13 (Rf a0 5) v3_19) (o_b1 (some (I_19 (Rf a0 5) v3_19.toNatClampNeg)) (fun x4_33 => o_g (o_in G 13 (Rf a0 3) x4_33) (o_b1 (m_70 x4_33 a1 I_19 G) (fun r_51 => o_g (o_kd G (Rf th 0) 8) (o_b1 (m_80 (Rf th 0) x4_33 ((I_19 (Rf a0 3) x4_33.toNatClampNeg) + r_51) I_19 Rf G) (fun I_55 => o_b1 (some (v3_19 + (nI 1))) (fun x3_58 => some (Sum.inl (x3_58, I_55))))))))))
/-- PricedBases$Maker.isShifted(LPricedBases$Valuation;[I)Z -/
def m_40 (th : Nat) (a0 : Nat) (a1 : Nat) (I : ai_I) (Rf : ai_R) (G : ai_G) : Option (Int32 × ai_I) :=
  o_g (o_kd G a0 8) (o_b2 (m_30 th (I a0 0) (I a0 1) I Rf G) (fun r_9 I_9 => if r_9 = 0 then (some ((nI 0), I_9)) else (o_s1 (lp (fun s => m_40_b19 th a0 a1 Rf G s.1 s.2) o_N ((nI 0), I_9)) (fun t => m_40_x19_64 t))))
theorem md_40 {d : Nat} {I : ai_I} {J : ai_J} {Rf : ai_R} {G : ai_G} {th : Nat} {a0 : Nat} {a1 : Nat} {r : Int32} {I1 : ai_I} (hd : 4 ≤ d) (hth : G.1 th = 3) (h : m_40 th a0 a1 I Rf G = some (r, I1)) : ai_Cl si_t si_ms d 40 [.inr (.inr th), .inr (.inr a0), .inr (.inr a1)] I J Rf G (some (.inl r)) I1 J Rf G := by
  obtain ⟨e, rfl⟩ : ∃ e, d = e + 1 := ⟨d - 1, by omega⟩
  unfold m_40 at h
  refine sp_in (lo := [some (.inr (.inr th)), some (.inr (.inr a0)), some (.inr (.inr a1)), none, none]) (B := (0, 0)) rfl (Nat.le_of_ble_eq_true rfl) rfl rfl ?_
  refine go_aload_n (pc' := 1) rfl rfl rfl ?_
  refine go_aload_n (pc' := 2) rfl rfl rfl ?_
  obtain ⟨g0, h⟩ := o_gE h
  refine go_getI (pc' := 5) rfl rfl (by decide) (by decide) (o_kdE g0) rfl ?_
  refine go_aload_n (pc' := 6) rfl rfl rfl ?_
  refine go_getI (pc' := 9) rfl rfl (by decide) (by decide) (o_kdE g0) rfl ?_
  obtain ⟨r_9, I_9, q_9, h⟩ := o_b2E h
  refine go_callV (pc' := 12) (B' := (0, 0)) (st' := [.inl r_9]) rfl rfl (Or.inl (by decide)) rfl rfl hth (md_30 (by omega) hth q_9) rfl rfl rfl ?_
  refine go_if_ne (pt := 17) (pc' := 15) rfl rfl rfl (fun h12 => ?_) (fun h12 => ?_)
  · replace h := o_f h12 h
    refine go_iconst (pc' := 18) (v := (nI 0)) rfl rfl rfl ?_
    refine go_istore_n (pc' := 19) (lo' := [some (.inr (.inr th)), some (.inr (.inr a0)), some (.inr (.inr a1)), some (.inl (nI 0)), none]) rfl rfl rfl ?_
    obtain ⟨q19, hl19, hc19_64⟩ := o_s1E h
    have ex19_64 : ∀ (Ix_64 : ai_I) (z3_x64 : Option ai_V) (z4_x64 : Option ai_V), Ix_64 = q19 → ai_Go si_t (3, false, 3, cd_40) (ai_Cl si_t si_ms e) (sp_Q (some (.inl r)) I1 J Rf G) 64 [some (.inr (.inr th)), some (.inr (.inr a0)), some (.inr (.inr a1)), z3_x64, z4_x64] [] (0, 0) Ix_64 J Rf G := by
      intro Ix_64 z3_x64 z4_x64 hq
      have h : m_40_x19_64 Ix_64 = some (r, I1) := hc19_64 Ix_64 hq.symm
      unfold m_40_x19_64 at h
      refine go_iconst (pc' := 65) (v := (nI 1)) rfl rfl rfl ?_
      cases h
      exact go_iret rfl (rfl) ⟨rfl, rfl, rfl, rfl, rfl⟩
    have lo19 : ∀ n s, lp (fun s => m_40_b19 th a0 a1 Rf G s.1 s.2) n s = some q19 → (fun s => ∀ (z4_19 : Option ai_V), ai_Go si_t (3, false, 3, cd_40) (ai_Cl si_t si_ms e) (sp_Q (some (.inl r)) I1 J Rf G) 19 [some (.inr (.inr th)), some (.inr (.inr a0)), some (.inr (.inr a1)), some (.inl s.1), z4_19] [] (0, 0) s.2 J Rf G) s := lp_go (fun s x19 hx hk19 => by
      obtain ⟨v3_19, I_19⟩ := s
      intro z4_19
      have h : m_40_b19 th a0 a1 Rf G v3_19 I_19 = some x19 := hx
      clear hx
      show ai_Go si_t (3, false, 3, cd_40) (ai_Cl si_t si_ms e) (sp_Q (some (.inl r)) I1 J Rf G) 19 [some (.inr (.inr th)), some (.inr (.inr a0)), some (.inr (.inr a1)), some (.inl v3_19), z4_19] [] (0, 0) I_19 J Rf G
      unfold m_40_b19 at h
      refine go_iload_n (pc' := 20) rfl rfl rfl ?_
      refine go_aload_n (pc' := 21) rfl rfl rfl ?_
      refine go_getI (pc' := 24) rfl rfl (by decide) (by decide) (o_kdE g0) rfl ?_
      refine go_icmp_ge (pt := 64) (pc' := 27) rfl rfl rfl (fun h24 => ?_) (fun h24 => ?_)
      · replace h := o_t h24 h
        exact ex19_64 _ (some (.inl v3_19)) z4_19 (lp_exitE h hk19)
      · replace h := o_f h24 h
        refine go_aload_n (pc' := 28) rfl rfl rfl ?_
        refine go_getR (pc' := 31) rfl rfl (o_kdE g0) rfl ?_
        refine go_iload_n (pc' := 32) rfl rfl rfl ?_
        obtain ⟨g1, h⟩ := o_gE h
        refine go_iaload (pc' := 33) rfl (o_inK g1) (o_inB g1) rfl ?_
        obtain ⟨x4_33, ex4_33, h⟩ := o_b1E h
        refine go_ndI ex4_33 ?_
        refine go_istore (pc' := 35) (lo' := [some (.inr (.inr th)), some (.inr (.inr a0)), some (.inr (.inr a1)), some (.inl v3_19), some (.inl x4_33)]) rfl rfl rfl ?_
        refine go_aload_n (pc' := 36) rfl rfl rfl ?_
        refine go_getR (pc' := 39) rfl rfl hth rfl ?_
        refine go_iload (pc' := 41) rfl rfl rfl ?_
        refine go_aload_n (pc' := 42) rfl rfl rfl ?_
        refine go_getR (pc' := 45) rfl rfl (o_kdE g0) rfl ?_
        refine go_iload (pc' := 47) rfl rfl rfl ?_
        obtain ⟨g2, h⟩ := o_gE h
        refine go_iaload (pc' := 48) rfl (o_inK g2) (o_inB g2) rfl ?_
        refine go_iload (pc' := 50) rfl rfl rfl ?_
        refine go_aload_n (pc' := 51) rfl rfl rfl ?_
        obtain ⟨r_51, q_51, h⟩ := o_b1E h
        refine go_callS (pc' := 54) (B' := (0, 0)) (st' := [.inl r_51, .inl (I_19 (Rf a0 3) x4_33.toNatClampNeg), .inl x4_33, .inr (.inr (Rf th 0))]) rfl rfl (Or.inl (by decide)) rfl rfl trivial (md_70 (by omega) q_51) rfl rfl rfl ?_
        refine go_iadd (pc' := 55) rfl rfl ?_
        obtain ⟨g3, h⟩ := o_gE h
        obtain ⟨I_55, q_55, h⟩ := o_b1E h
        refine go_callV (pc' := 58) (B' := (0, 0)) (st' := []) rfl rfl (Or.inl (by decide)) rfl rfl (o_kdE g3) (md_80 (by omega) (o_kdE g3) q_55) rfl rfl rfl ?_
        obtain ⟨x3_58, ex3_58, h⟩ := o_b1E h
        refine go_iincE (pc' := 61) rfl rfl (y := (nI 1)) rfl ex3_58 (lo' := [some (.inr (.inr th)), some (.inr (.inr a0)), some (.inr (.inr a1)), some (.inl x3_58), some (.inl x4_33)]) rfl rfl ?_
        refine go_goto (pc' := 19) rfl rfl ?_
        exact (lp_backE h hk19 (some (.inl x4_33)) :))
    exact lo19 _ ((nI 0), I_9) hl19 none
  · replace h := o_t (Decidable.of_not_not h12) h
    refine go_iconst (pc' := 16) (v := (nI 0)) rfl rfl rfl ?_
    cases h
    exact go_iret rfl (rfl) ⟨rfl, rfl, rfl, rfl, rfl⟩
def m_41_x33_114 (Ix_114 : ai_I) : Option (Int32 × ai_I) :=
  some ((nI 1), Ix_114)
def m_41_x44_108 (v3_33 : Int32) (Ix_108 : ai_I) : Option ((Int32 × ai_I) ⊕ ai_I) :=
  o_b1 (some (v3_33 + (nI 1))) (fun x3_108 => some (Sum.inl (x3_108, Ix_108)))
def m_41_b44 (th : Nat) (a0 : Nat) (a1 : Nat) (Rf : ai_R) (G : ai_G) (v3_33 : Int32) (v4_44 : Int32) (I_44 : ai_I) : Option ((Int32 × ai_I) ⊕ ai_I) :=
  if (I_44 a1 2) ≤ v4_44 then (some (Sum.inr I_44)) else (o_g (o_in G 13 (Rf a0 5) v3_33) (o_b1 (some (I_44 (Rf a0 5) v3_33.toNatClampNeg)) (fun x5_59 => o_g (o_in G 13 (Rf a1 5) v4_44) (o_b1 (some (I_44 (Rf a1 5) v4_44.toNatClampNeg)) (fun x6_68 => o_g (o_in G 13 (Rf a0 3) x5_59) (o_g (o_in G 13 (Rf a1 3) x6_68) (o_g (o_kd G (Rf th 0) 8) (o_b1 (m_80 (Rf th 0) (x5_59 ||| (x6_68 <<< ((I_44 a0 0) &&& 31))) ((I_44 (Rf a0 3) x5_59.toNatClampNeg) + (I_44 (Rf a1 3) x6_68.toNatClampNeg)) I_44 Rf G) (fun I_99 => o_b1 (some (v4_44 + (nI 1))) (fun x4_102 => some (Sum.inl (x4_102, I_99))))))))))))
def m_41_b33 (th : Nat) (a0 : Nat) (a1 : Nat) (Rf : ai_R) (G : ai_G) (v3_33 : Int32) (I_33 : ai_I) : Option ((Int32 × ai_I) ⊕ ai_I) :=
  if (I_33 a0 2) ≤ v3_33 then (some (Sum.inr I_33)) else (o_s1 (lp (fun s => m_41_b44 th a0 a1 Rf G v3_33 s.1 s.2) o_N ((nI 0), I_33)) (fun t => m_41_x44_108 v3_33 t))
/-- PricedBases$Maker.isPlus(LPricedBases$Valuation;LPricedBases$Valuation;)Z -/
def m_41 (th : Nat) (a0 : Nat) (a1 : Nat) (I : ai_I) (Rf : ai_R) (G : ai_G) : Option (Int32 × ai_I) :=
  if a1 = 0 then (some ((nI 0), I)) else (o_g (o_kd G a0 8) (o_g (o_kd G a1 8) (o_b2 (m_30 th ((I a0 0) + (I a1 0)) ((I a0 1) + (I a1 1)) I Rf G) (fun r_23 I_23 => if r_23 = 0 then (some ((nI 0), I_23)) else (o_s1 (lp (fun s => m_41_b33 th a0 a1 Rf G s.1 s.2) o_N ((nI 0), I_23)) (fun t => m_41_x33_114 t))))))
theorem md_41 {d : Nat} {I : ai_I} {J : ai_J} {Rf : ai_R} {G : ai_G} {th : Nat} {a0 : Nat} {a1 : Nat} {r : Int32} {I1 : ai_I} (hd : 4 ≤ d) (hth : G.1 th = 3) (h : m_41 th a0 a1 I Rf G = some (r, I1)) : ai_Cl si_t si_ms d 41 [.inr (.inr th), .inr (.inr a0), .inr (.inr a1)] I J Rf G (some (.inl r)) I1 J Rf G := by
  obtain ⟨e, rfl⟩ : ∃ e, d = e + 1 := ⟨d - 1, by omega⟩
  unfold m_41 at h
  refine sp_in (lo := [some (.inr (.inr th)), some (.inr (.inr a0)), some (.inr (.inr a1)), none, none, none, none]) (B := (0, 0)) rfl (Nat.le_of_ble_eq_true rfl) rfl rfl ?_
  refine go_aload_n (pc' := 1) rfl rfl rfl ?_
  refine go_ifnull (pt := 29) (pc' := 4) rfl rfl rfl (fun h1 => ?_) (fun h1 => ?_)
  · replace h := o_t h1 h
    refine go_iconst (pc' := 30) (v := (nI 0)) rfl rfl rfl ?_
    cases h
    exact go_iret rfl (rfl) ⟨rfl, rfl, rfl, rfl, rfl⟩
  · replace h := o_f h1 h
    refine go_aload_n (pc' := 5) rfl rfl rfl ?_
    refine go_aload_n (pc' := 6) rfl rfl rfl ?_
    obtain ⟨g0, h⟩ := o_gE h
    refine go_getI (pc' := 9) rfl rfl (by decide) (by decide) (o_kdE g0) rfl ?_
    refine go_aload_n (pc' := 10) rfl rfl rfl ?_
    obtain ⟨g1, h⟩ := o_gE h
    refine go_getI (pc' := 13) rfl rfl (by decide) (by decide) (o_kdE g1) rfl ?_
    refine go_iadd (pc' := 14) rfl rfl ?_
    refine go_aload_n (pc' := 15) rfl rfl rfl ?_
    refine go_getI (pc' := 18) rfl rfl (by decide) (by decide) (o_kdE g0) rfl ?_
    refine go_aload_n (pc' := 19) rfl rfl rfl ?_
    refine go_getI (pc' := 22) rfl rfl (by decide) (by decide) (o_kdE g1) rfl ?_
    refine go_iadd (pc' := 23) rfl rfl ?_
    obtain ⟨r_23, I_23, q_23, h⟩ := o_b2E h
    refine go_callV (pc' := 26) (B' := (0, 0)) (st' := [.inl r_23]) rfl rfl (Or.inl (by decide)) rfl rfl hth (md_30 (by omega) hth q_23) rfl rfl rfl ?_
    refine go_if_ne (pt := 31) (pc' := 29) rfl rfl rfl (fun h26 => ?_) (fun h26 => ?_)
    · replace h := o_f h26 h
      refine go_iconst (pc' := 32) (v := (nI 0)) rfl rfl rfl ?_
      refine go_istore_n (pc' := 33) (lo' := [some (.inr (.inr th)), some (.inr (.inr a0)), some (.inr (.inr a1)), some (.inl (nI 0)), none, none, none]) rfl rfl rfl ?_
      obtain ⟨q33, hl33, hc33_114⟩ := o_s1E h
      have ex33_114 : ∀ (Ix_114 : ai_I) (z3_x114 : Option ai_V) (z4_x114 : Option ai_V) (z5_x114 : Option ai_V) (z6_x114 : Option ai_V), Ix_114 = q33 → ai_Go si_t (3, false, 3, cd_41) (ai_Cl si_t si_ms e) (sp_Q (some (.inl r)) I1 J Rf G) 114 [some (.inr (.inr th)), some (.inr (.inr a0)), some (.inr (.inr a1)), z3_x114, z4_x114, z5_x114, z6_x114] [] (0, 0) Ix_114 J Rf G := by
        intro Ix_114 z3_x114 z4_x114 z5_x114 z6_x114 hq
        have h : m_41_x33_114 Ix_114 = some (r, I1) := hc33_114 Ix_114 hq.symm
        unfold m_41_x33_114 at h
        refine go_iconst (pc' := 115) (v := (nI 1)) rfl rfl rfl ?_
        cases h
        exact go_iret rfl (rfl) ⟨rfl, rfl, rfl, rfl, rfl⟩
      have lo33 : ∀ n s, lp (fun s => m_41_b33 th a0 a1 Rf G s.1 s.2) n s = some q33 → (fun s => ∀ (z4_33 : Option ai_V) (z5_33 : Option ai_V) (z6_33 : Option ai_V), ai_Go si_t (3, false, 3, cd_41) (ai_Cl si_t si_ms e) (sp_Q (some (.inl r)) I1 J Rf G) 33 [some (.inr (.inr th)), some (.inr (.inr a0)), some (.inr (.inr a1)), some (.inl s.1), z4_33, z5_33, z6_33] [] (0, 0) s.2 J Rf G) s := lp_go (fun s x33 hx hk33 => by
        obtain ⟨v3_33, I_33⟩ := s
        intro z4_33 z5_33 z6_33
        have h : m_41_b33 th a0 a1 Rf G v3_33 I_33 = some x33 := hx
        clear hx
        show ai_Go si_t (3, false, 3, cd_41) (ai_Cl si_t si_ms e) (sp_Q (some (.inl r)) I1 J Rf G) 33 [some (.inr (.inr th)), some (.inr (.inr a0)), some (.inr (.inr a1)), some (.inl v3_33), z4_33, z5_33, z6_33] [] (0, 0) I_33 J Rf G
        unfold m_41_b33 at h
        refine go_iload_n (pc' := 34) rfl rfl rfl ?_
        refine go_aload_n (pc' := 35) rfl rfl rfl ?_
        refine go_getI (pc' := 38) rfl rfl (by decide) (by decide) (o_kdE g0) rfl ?_
        refine go_icmp_ge (pt := 114) (pc' := 41) rfl rfl rfl (fun h38 => ?_) (fun h38 => ?_)
        · replace h := o_t h38 h
          exact ex33_114 _ (some (.inl v3_33)) z4_33 z5_33 z6_33 (lp_exitE h hk33)
        · replace h := o_f h38 h
          refine go_iconst (pc' := 42) (v := (nI 0)) rfl rfl rfl ?_
          refine go_istore (pc' := 44) (lo' := [some (.inr (.inr th)), some (.inr (.inr a0)), some (.inr (.inr a1)), some (.inl v3_33), some (.inl (nI 0)), z5_33, z6_33]) rfl rfl rfl ?_
          obtain ⟨q44, hl44, hc44_108⟩ := o_s1E h
          have ex44_108 : ∀ (Ix_108 : ai_I) (z4_x108 : Option ai_V) (z5_x108 : Option ai_V) (z6_x108 : Option ai_V), Ix_108 = q44 → ai_Go si_t (3, false, 3, cd_41) (ai_Cl si_t si_ms e) (sp_Q (some (.inl r)) I1 J Rf G) 108 [some (.inr (.inr th)), some (.inr (.inr a0)), some (.inr (.inr a1)), some (.inl v3_33), z4_x108, z5_x108, z6_x108] [] (0, 0) Ix_108 J Rf G := by
            intro Ix_108 z4_x108 z5_x108 z6_x108 hq
            have h : m_41_x44_108 v3_33 Ix_108 = some x33 := hc44_108 Ix_108 hq.symm
            unfold m_41_x44_108 at h
            obtain ⟨x3_108, ex3_108, h⟩ := o_b1E h
            refine go_iincE (pc' := 111) rfl rfl (y := (nI 1)) rfl ex3_108 (lo' := [some (.inr (.inr th)), some (.inr (.inr a0)), some (.inr (.inr a1)), some (.inl x3_108), z4_x108, z5_x108, z6_x108]) rfl rfl ?_
            refine go_goto (pc' := 33) rfl rfl ?_
            exact (lp_backE h hk33 z4_x108 z5_x108 z6_x108 :)
          have lo44 : ∀ n s, lp (fun s => m_41_b44 th a0 a1 Rf G v3_33 s.1 s.2) n s = some q44 → (fun s => ∀ (z5_44 : Option ai_V) (z6_44 : Option ai_V), ai_Go si_t (3, false, 3, cd_41) (ai_Cl si_t si_ms e) (sp_Q (some (.inl r)) I1 J Rf G) 44 [some (.inr (.inr th)), some (.inr (.inr a0)), some (.inr (.inr a1)), some (.inl v3_33), some (.inl s.1), z5_44, z6_44] [] (0, 0) s.2 J Rf G) s := lp_go (fun s x44 hx hk44 => by
            obtain ⟨v4_44, I_44⟩ := s
            intro z5_44 z6_44
            have h : m_41_b44 th a0 a1 Rf G v3_33 v4_44 I_44 = some x44 := hx
            clear hx
            show ai_Go si_t (3, false, 3, cd_41) (ai_Cl si_t si_ms e) (sp_Q (some (.inl r)) I1 J Rf G) 44 [some (.inr (.inr th)), some (.inr (.inr a0)), some (.inr (.inr a1)), some (.inl v3_33), some (.inl v4_44), z5_44, z6_44] [] (0, 0) I_44 J Rf G
            unfold m_41_b44 at h
            refine go_iload (pc' := 46) rfl rfl rfl ?_
            refine go_aload_n (pc' := 47) rfl rfl rfl ?_
            refine go_getI (pc' := 50) rfl rfl (by decide) (by decide) (o_kdE g1) rfl ?_
            refine go_icmp_ge (pt := 108) (pc' := 53) rfl rfl rfl (fun h50 => ?_) (fun h50 => ?_)
            · replace h := o_t h50 h
              exact ex44_108 _ (some (.inl v4_44)) z5_44 z6_44 (lp_exitE h hk44)
            · replace h := o_f h50 h
              refine go_aload_n (pc' := 54) rfl rfl rfl ?_
              refine go_getR (pc' := 57) rfl rfl (o_kdE g0) rfl ?_
              refine go_iload_n (pc' := 58) rfl rfl rfl ?_
              obtain ⟨g2, h⟩ := o_gE h
              refine go_iaload (pc' := 59) rfl (o_inK g2) (o_inB g2) rfl ?_
              obtain ⟨x5_59, ex5_59, h⟩ := o_b1E h
              refine go_ndI ex5_59 ?_
              refine go_istore (pc' := 61) (lo' := [some (.inr (.inr th)), some (.inr (.inr a0)), some (.inr (.inr a1)), some (.inl v3_33), some (.inl v4_44), some (.inl x5_59), z6_44]) rfl rfl rfl ?_
              refine go_aload_n (pc' := 62) rfl rfl rfl ?_
              refine go_getR (pc' := 65) rfl rfl (o_kdE g1) rfl ?_
              refine go_iload (pc' := 67) rfl rfl rfl ?_
              obtain ⟨g3, h⟩ := o_gE h
              refine go_iaload (pc' := 68) rfl (o_inK g3) (o_inB g3) rfl ?_
              obtain ⟨x6_68, ex6_68, h⟩ := o_b1E h
              refine go_ndI ex6_68 ?_
              refine go_istore (pc' := 70) (lo' := [some (.inr (.inr th)), some (.inr (.inr a0)), some (.inr (.inr a1)), some (.inl v3_33), some (.inl v4_44), some (.inl x5_59), some (.inl x6_68)]) rfl rfl rfl ?_
              refine go_aload_n (pc' := 71) rfl rfl rfl ?_
              refine go_getR (pc' := 74) rfl rfl hth rfl ?_
              refine go_iload (pc' := 76) rfl rfl rfl ?_
              refine go_iload (pc' := 78) rfl rfl rfl ?_
              refine go_aload_n (pc' := 79) rfl rfl rfl ?_
              refine go_getI (pc' := 82) rfl rfl (by decide) (by decide) (o_kdE g0) rfl ?_
              refine go_ishl (pc' := 83) rfl rfl ?_
              refine go_ior (pc' := 84) rfl rfl ?_
              refine go_aload_n (pc' := 85) rfl rfl rfl ?_
              refine go_getR (pc' := 88) rfl rfl (o_kdE g0) rfl ?_
              refine go_iload (pc' := 90) rfl rfl rfl ?_
              obtain ⟨g4, h⟩ := o_gE h
              refine go_iaload (pc' := 91) rfl (o_inK g4) (o_inB g4) rfl ?_
              refine go_aload_n (pc' := 92) rfl rfl rfl ?_
              refine go_getR (pc' := 95) rfl rfl (o_kdE g1) rfl ?_
              refine go_iload (pc' := 97) rfl rfl rfl ?_
              obtain ⟨g5, h⟩ := o_gE h
              refine go_iaload (pc' := 98) rfl (o_inK g5) (o_inB g5) rfl ?_
              refine go_iadd (pc' := 99) rfl rfl ?_
              obtain ⟨g6, h⟩ := o_gE h
              obtain ⟨I_99, q_99, h⟩ := o_b1E h
              refine go_callV (pc' := 102) (B' := (0, 0)) (st' := []) rfl rfl (Or.inl (by decide)) rfl rfl (o_kdE g6) (md_80 (by omega) (o_kdE g6) q_99) rfl rfl rfl ?_
              obtain ⟨x4_102, ex4_102, h⟩ := o_b1E h
              refine go_iincE (pc' := 105) rfl rfl (y := (nI 1)) rfl ex4_102 (lo' := [some (.inr (.inr th)), some (.inr (.inr a0)), some (.inr (.inr a1)), some (.inl v3_33), some (.inl x4_102), some (.inl x5_59), some (.inl x6_68)]) rfl rfl ?_
              refine go_goto (pc' := 44) rfl rfl ?_
              exact (lp_backE h hk44 (some (.inl x5_59)) (some (.inl x6_68)) :))
          exact lo44 _ ((nI 0), I_33) hl44 z5_33 z6_33)
      exact lo33 _ ((nI 0), I_23) hl33 none none none
    · replace h := o_t (Decidable.of_not_not h26) h
      refine go_iconst (pc' := 30) (v := (nI 0)) rfl rfl rfl ?_
      cases h
      exact go_iret rfl (rfl) ⟨rfl, rfl, rfl, rfl, rfl⟩
def m_44_x2_74 (Ix_74 : ai_I) : Option (ai_I) :=
  some Ix_74
def m_44_x21_68 (v3_2 : Int32) (Ix_68 : ai_I) : Option ((Int32 × ai_I) ⊕ ai_I) :=
  o_b1 (some (v3_2 + (nI 1))) (fun x3_68 => some (Sum.inl (x3_68, Ix_68)))
def m_44_b21 (th : Nat) (a0 : Nat) (a1 : Int32) (Rf : ai_R) (G : ai_G) (x4_16 : Int32) (v5_21 : Int32) (I_21 : ai_I) : Option ((Int32 × ai_I) ⊕ ai_I) :=
  if (I_21 a0 0) ≤ v5_21 then (some (Sum.inr I_21)) else (o_b1 (m_113 x4_16 v5_21) (fun r_34 => if r_34 = a1 then (o_g (o_in G 13 (Rf a0 3) x4_16) (o_g (o_kd G (Rf th 0) 8) (o_b1 (m_80 (Rf th 0) (x4_16 ^^^ ((nI 1) <<< (v5_21 &&& 31))) (I_21 (Rf a0 3) x4_16.toNatClampNeg) I_21 Rf G) (fun I_59 => o_b1 (some (v5_21 + (nI 1))) (fun x5_62 => some (Sum.inl (x5_62, I_59))))))) else (o_b1 (some (v5_21 + (nI 1))) (fun x5_62 => some (Sum.inl (x5_62, I_21))))))
def m_44_b2 (th : Nat) (a0 : Nat) (a1 : Int32) (Rf : ai_R) (G : ai_G) (v3_2 : Int32) (I_2 : ai_I) : Option ((Int32 × ai_I) ⊕ ai_I) :=
  o_g (o_kd G a0 8) (if (I_2 a0 2) ≤ v3_2 then (some (Sum.inr I_2)) else (o_g (o_in G 13 (Rf a0 5) v3_2) (o_b1 (some (I_2 (Rf a0 5) v3_2.toNatClampNeg)) (fun x4_16 => o_s1 (lp (fun s => m_44_b21 th a0 a1 Rf G x4_16 s.1 s.2) o_N ((nI 0), I_2)) (fun t => m_44_x21_68 v3_2 t)))))
/-- PricedBases$Maker.offerBeside(LPricedBases$Valuation;Z)V -/
def m_44 (th : Nat) (a0 : Nat) (a1 : Int32) (I : ai_I) (Rf : ai_R) (G : ai_G) : Option (ai_I) :=
  o_s1 (lp (fun s => m_44_b2 th a0 a1 Rf G s.1 s.2) o_N ((nI 0), I)) (fun t => m_44_x2_74 t)
theorem md_44 {d : Nat} {I : ai_I} {J : ai_J} {Rf : ai_R} {G : ai_G} {th : Nat} {a0 : Nat} {a1 : Int32} {I1 : ai_I} (hd : 2 ≤ d) (hth : G.1 th = 3) (h : m_44 th a0 a1 I Rf G = some I1) : ai_Cl si_t si_ms d 44 [.inr (.inr th), .inr (.inr a0), .inl a1] I J Rf G none I1 J Rf G := by
  obtain ⟨e, rfl⟩ : ∃ e, d = e + 1 := ⟨d - 1, by omega⟩
  unfold m_44 at h
  refine sp_in (lo := [some (.inr (.inr th)), some (.inr (.inr a0)), some (.inl a1), none, none, none]) (B := (0, 0)) rfl (Nat.le_of_ble_eq_true rfl) rfl rfl ?_
  refine go_iconst (pc' := 1) (v := (nI 0)) rfl rfl rfl ?_
  refine go_istore_n (pc' := 2) (lo' := [some (.inr (.inr th)), some (.inr (.inr a0)), some (.inl a1), some (.inl (nI 0)), none, none]) rfl rfl rfl ?_
  obtain ⟨q2, hl2, hc2_74⟩ := o_s1E h
  have ex2_74 : ∀ (Ix_74 : ai_I) (z3_x74 : Option ai_V) (z4_x74 : Option ai_V) (z5_x74 : Option ai_V), Ix_74 = q2 → ai_Go si_t (3, false, 9, cd_44) (ai_Cl si_t si_ms e) (sp_Q none I1 J Rf G) 74 [some (.inr (.inr th)), some (.inr (.inr a0)), some (.inl a1), z3_x74, z4_x74, z5_x74] [] (0, 0) Ix_74 J Rf G := by
    intro Ix_74 z3_x74 z4_x74 z5_x74 hq
    have h : m_44_x2_74 Ix_74 = some I1 := hc2_74 Ix_74 hq.symm
    unfold m_44_x2_74 at h
    cases h
    exact go_vret rfl (rfl) ⟨rfl, rfl, rfl, rfl, rfl⟩
  have lo2 : ∀ n s, lp (fun s => m_44_b2 th a0 a1 Rf G s.1 s.2) n s = some q2 → (fun s => ∀ (z4_2 : Option ai_V) (z5_2 : Option ai_V), ai_Go si_t (3, false, 9, cd_44) (ai_Cl si_t si_ms e) (sp_Q none I1 J Rf G) 2 [some (.inr (.inr th)), some (.inr (.inr a0)), some (.inl a1), some (.inl s.1), z4_2, z5_2] [] (0, 0) s.2 J Rf G) s := lp_go (fun s x2 hx hk2 => by
    obtain ⟨v3_2, I_2⟩ := s
    intro z4_2 z5_2
    have h : m_44_b2 th a0 a1 Rf G v3_2 I_2 = some x2 := hx
    clear hx
    show ai_Go si_t (3, false, 9, cd_44) (ai_Cl si_t si_ms e) (sp_Q none I1 J Rf G) 2 [some (.inr (.inr th)), some (.inr (.inr a0)), some (.inl a1), some (.inl v3_2), z4_2, z5_2] [] (0, 0) I_2 J Rf G
    unfold m_44_b2 at h
    refine go_iload_n (pc' := 3) rfl rfl rfl ?_
    refine go_aload_n (pc' := 4) rfl rfl rfl ?_
    obtain ⟨g0, h⟩ := o_gE h
    refine go_getI (pc' := 7) rfl rfl (by decide) (by decide) (o_kdE g0) rfl ?_
    refine go_icmp_ge (pt := 74) (pc' := 10) rfl rfl rfl (fun h7 => ?_) (fun h7 => ?_)
    · replace h := o_t h7 h
      exact ex2_74 _ (some (.inl v3_2)) z4_2 z5_2 (lp_exitE h hk2)
    · replace h := o_f h7 h
      refine go_aload_n (pc' := 11) rfl rfl rfl ?_
      refine go_getR (pc' := 14) rfl rfl (o_kdE g0) rfl ?_
      refine go_iload_n (pc' := 15) rfl rfl rfl ?_
      obtain ⟨g1, h⟩ := o_gE h
      refine go_iaload (pc' := 16) rfl (o_inK g1) (o_inB g1) rfl ?_
      obtain ⟨x4_16, ex4_16, h⟩ := o_b1E h
      refine go_ndI ex4_16 ?_
      refine go_istore (pc' := 18) (lo' := [some (.inr (.inr th)), some (.inr (.inr a0)), some (.inl a1), some (.inl v3_2), some (.inl x4_16), z5_2]) rfl rfl rfl ?_
      refine go_iconst (pc' := 19) (v := (nI 0)) rfl rfl rfl ?_
      refine go_istore (pc' := 21) (lo' := [some (.inr (.inr th)), some (.inr (.inr a0)), some (.inl a1), some (.inl v3_2), some (.inl x4_16), some (.inl (nI 0))]) rfl rfl rfl ?_
      obtain ⟨q21, hl21, hc21_68⟩ := o_s1E h
      have ex21_68 : ∀ (Ix_68 : ai_I) (z5_x68 : Option ai_V), Ix_68 = q21 → ai_Go si_t (3, false, 9, cd_44) (ai_Cl si_t si_ms e) (sp_Q none I1 J Rf G) 68 [some (.inr (.inr th)), some (.inr (.inr a0)), some (.inl a1), some (.inl v3_2), some (.inl x4_16), z5_x68] [] (0, 0) Ix_68 J Rf G := by
        intro Ix_68 z5_x68 hq
        have h : m_44_x21_68 v3_2 Ix_68 = some x2 := hc21_68 Ix_68 hq.symm
        unfold m_44_x21_68 at h
        obtain ⟨x3_68, ex3_68, h⟩ := o_b1E h
        refine go_iincE (pc' := 71) rfl rfl (y := (nI 1)) rfl ex3_68 (lo' := [some (.inr (.inr th)), some (.inr (.inr a0)), some (.inl a1), some (.inl x3_68), some (.inl x4_16), z5_x68]) rfl rfl ?_
        refine go_goto (pc' := 2) rfl rfl ?_
        exact (lp_backE h hk2 (some (.inl x4_16)) z5_x68 :)
      have lo21 : ∀ n s, lp (fun s => m_44_b21 th a0 a1 Rf G x4_16 s.1 s.2) n s = some q21 → (fun s => ai_Go si_t (3, false, 9, cd_44) (ai_Cl si_t si_ms e) (sp_Q none I1 J Rf G) 21 [some (.inr (.inr th)), some (.inr (.inr a0)), some (.inl a1), some (.inl v3_2), some (.inl x4_16), some (.inl s.1)] [] (0, 0) s.2 J Rf G) s := lp_go (fun s x21 hx hk21 => by
        obtain ⟨v5_21, I_21⟩ := s
        have h : m_44_b21 th a0 a1 Rf G x4_16 v5_21 I_21 = some x21 := hx
        clear hx
        show ai_Go si_t (3, false, 9, cd_44) (ai_Cl si_t si_ms e) (sp_Q none I1 J Rf G) 21 [some (.inr (.inr th)), some (.inr (.inr a0)), some (.inl a1), some (.inl v3_2), some (.inl x4_16), some (.inl v5_21)] [] (0, 0) I_21 J Rf G
        unfold m_44_b21 at h
        refine go_iload (pc' := 23) rfl rfl rfl ?_
        refine go_aload_n (pc' := 24) rfl rfl rfl ?_
        refine go_getI (pc' := 27) rfl rfl (by decide) (by decide) (o_kdE g0) rfl ?_
        refine go_icmp_ge (pt := 68) (pc' := 30) rfl rfl rfl (fun h27 => ?_) (fun h27 => ?_)
        · replace h := o_t h27 h
          exact ex21_68 _ (some (.inl v5_21)) (lp_exitE h hk21)
        · replace h := o_f h27 h
          refine go_iload (pc' := 32) rfl rfl rfl ?_
          refine go_iload (pc' := 34) rfl rfl rfl ?_
          obtain ⟨r_34, q_34, h⟩ := o_b1E h
          refine go_callS (pc' := 37) (B' := (0, 0)) (st' := [.inl r_34]) rfl rfl (Or.inl (by decide)) rfl rfl trivial (md_113 (by omega) q_34) rfl rfl rfl ?_
          refine go_iload_n (pc' := 38) rfl rfl rfl ?_
          refine go_icmp_ne (pt := 62) (pc' := 41) rfl rfl rfl (fun h38 => ?_) (fun h38 => ?_)
          · replace h := o_f h38 h
            obtain ⟨x5_62, ex5_62, h⟩ := o_b1E h
            refine go_iincE (pc' := 65) rfl rfl (y := (nI 1)) rfl ex5_62 (lo' := [some (.inr (.inr th)), some (.inr (.inr a0)), some (.inl a1), some (.inl v3_2), some (.inl x4_16), some (.inl x5_62)]) rfl rfl ?_
            refine go_goto (pc' := 21) rfl rfl ?_
            exact (lp_backE h hk21 :)
          · replace h := o_t (Decidable.of_not_not h38) h
            refine go_aload_n (pc' := 42) rfl rfl rfl ?_
            refine go_getR (pc' := 45) rfl rfl hth rfl ?_
            refine go_iload (pc' := 47) rfl rfl rfl ?_
            refine go_iconst (pc' := 48) (v := (nI 1)) rfl rfl rfl ?_
            refine go_iload (pc' := 50) rfl rfl rfl ?_
            refine go_ishl (pc' := 51) rfl rfl ?_
            refine go_ixor (pc' := 52) rfl rfl ?_
            refine go_aload_n (pc' := 53) rfl rfl rfl ?_
            refine go_getR (pc' := 56) rfl rfl (o_kdE g0) rfl ?_
            refine go_iload (pc' := 58) rfl rfl rfl ?_
            obtain ⟨g2, h⟩ := o_gE h
            refine go_iaload (pc' := 59) rfl (o_inK g2) (o_inB g2) rfl ?_
            obtain ⟨g3, h⟩ := o_gE h
            obtain ⟨I_59, q_59, h⟩ := o_b1E h
            refine go_callV (pc' := 62) (B' := (0, 0)) (st' := []) rfl rfl (Or.inl (by decide)) rfl rfl (o_kdE g3) (md_80 (by omega) (o_kdE g3) q_59) rfl rfl rfl ?_
            obtain ⟨x5_62, ex5_62, h⟩ := o_b1E h
            refine go_iincE (pc' := 65) rfl rfl (y := (nI 1)) rfl ex5_62 (lo' := [some (.inr (.inr th)), some (.inr (.inr a0)), some (.inl a1), some (.inl v3_2), some (.inl x4_16), some (.inl x5_62)]) rfl rfl ?_
            refine go_goto (pc' := 21) rfl rfl ?_
            exact (lp_backE h hk21 :))
      exact lo21 _ ((nI 0), I_2) hl21 )
  exact lo2 _ ((nI 0), I) hl2 none none
/-- PricedBases$Maker.isCut(LPricedBases$Valuation;)Z -/
def m_42 (th : Nat) (a0 : Nat) (I : ai_I) (Rf : ai_R) (G : ai_G) : Option (Int32 × ai_I) :=
  o_g (o_kd G a0 8) (o_b2 (m_30 th (I a0 0) ((I a0 1) - (nI 1)) I Rf G) (fun r_11 I_11 => if r_11 = 0 then (some ((nI 0), I_11)) else (o_b1 (m_44 th a0 (nI 1) I_11 Rf G) (fun I_22 => some ((nI 1), I_22)))))
theorem md_42 {d : Nat} {I : ai_I} {J : ai_J} {Rf : ai_R} {G : ai_G} {th : Nat} {a0 : Nat} {r : Int32} {I1 : ai_I} (hd : 4 ≤ d) (hth : G.1 th = 3) (h : m_42 th a0 I Rf G = some (r, I1)) : ai_Cl si_t si_ms d 42 [.inr (.inr th), .inr (.inr a0)] I J Rf G (some (.inl r)) I1 J Rf G := by
  obtain ⟨e, rfl⟩ : ∃ e, d = e + 1 := ⟨d - 1, by omega⟩
  unfold m_42 at h
  refine sp_in (lo := [some (.inr (.inr th)), some (.inr (.inr a0))]) (B := (0, 0)) rfl (Nat.le_of_ble_eq_true rfl) rfl rfl ?_
  refine go_aload_n (pc' := 1) rfl rfl rfl ?_
  refine go_aload_n (pc' := 2) rfl rfl rfl ?_
  obtain ⟨g0, h⟩ := o_gE h
  refine go_getI (pc' := 5) rfl rfl (by decide) (by decide) (o_kdE g0) rfl ?_
  refine go_aload_n (pc' := 6) rfl rfl rfl ?_
  refine go_getI (pc' := 9) rfl rfl (by decide) (by decide) (o_kdE g0) rfl ?_
  refine go_iconst (pc' := 10) (v := (nI 1)) rfl rfl rfl ?_
  refine go_isub (pc' := 11) rfl rfl ?_
  obtain ⟨r_11, I_11, q_11, h⟩ := o_b2E h
  refine go_callV (pc' := 14) (B' := (0, 0)) (st' := [.inl r_11]) rfl rfl (Or.inl (by decide)) rfl rfl hth (md_30 (by omega) hth q_11) rfl rfl rfl ?_
  refine go_if_ne (pt := 19) (pc' := 17) rfl rfl rfl (fun h14 => ?_) (fun h14 => ?_)
  · replace h := o_f h14 h
    refine go_aload_n (pc' := 20) rfl rfl rfl ?_
    refine go_aload_n (pc' := 21) rfl rfl rfl ?_
    refine go_iconst (pc' := 22) (v := (nI 1)) rfl rfl rfl ?_
    obtain ⟨I_22, q_22, h⟩ := o_b1E h
    refine go_callV (pc' := 25) (B' := (0, 0)) (st' := []) rfl rfl (Or.inl (by decide)) rfl rfl hth (md_44 (by omega) hth q_22) rfl rfl rfl ?_
    refine go_iconst (pc' := 26) (v := (nI 1)) rfl rfl rfl ?_
    cases h
    exact go_iret rfl (rfl) ⟨rfl, rfl, rfl, rfl, rfl⟩
  · replace h := o_t (Decidable.of_not_not h14) h
    refine go_iconst (pc' := 18) (v := (nI 0)) rfl rfl rfl ?_
    cases h
    exact go_iret rfl (rfl) ⟨rfl, rfl, rfl, rfl, rfl⟩
/-- PricedBases$Maker.isRaised(LPricedBases$Valuation;)Z -/
def m_43 (th : Nat) (a0 : Nat) (I : ai_I) (Rf : ai_R) (G : ai_G) : Option (Int32 × ai_I) :=
  o_g (o_kd G a0 8) (o_b2 (m_30 th (I a0 0) ((I a0 1) + (nI 1)) I Rf G) (fun r_11 I_11 => if r_11 = 0 then (some ((nI 0), I_11)) else (o_b1 (m_44 th a0 (nI 0) I_11 Rf G) (fun I_22 => some ((nI 1), I_22)))))
theorem md_43 {d : Nat} {I : ai_I} {J : ai_J} {Rf : ai_R} {G : ai_G} {th : Nat} {a0 : Nat} {r : Int32} {I1 : ai_I} (hd : 4 ≤ d) (hth : G.1 th = 3) (h : m_43 th a0 I Rf G = some (r, I1)) : ai_Cl si_t si_ms d 43 [.inr (.inr th), .inr (.inr a0)] I J Rf G (some (.inl r)) I1 J Rf G := by
  obtain ⟨e, rfl⟩ : ∃ e, d = e + 1 := ⟨d - 1, by omega⟩
  unfold m_43 at h
  refine sp_in (lo := [some (.inr (.inr th)), some (.inr (.inr a0))]) (B := (0, 0)) rfl (Nat.le_of_ble_eq_true rfl) rfl rfl ?_
  refine go_aload_n (pc' := 1) rfl rfl rfl ?_
  refine go_aload_n (pc' := 2) rfl rfl rfl ?_
  obtain ⟨g0, h⟩ := o_gE h
  refine go_getI (pc' := 5) rfl rfl (by decide) (by decide) (o_kdE g0) rfl ?_
  refine go_aload_n (pc' := 6) rfl rfl rfl ?_
  refine go_getI (pc' := 9) rfl rfl (by decide) (by decide) (o_kdE g0) rfl ?_
  refine go_iconst (pc' := 10) (v := (nI 1)) rfl rfl rfl ?_
  refine go_iadd (pc' := 11) rfl rfl ?_
  obtain ⟨r_11, I_11, q_11, h⟩ := o_b2E h
  refine go_callV (pc' := 14) (B' := (0, 0)) (st' := [.inl r_11]) rfl rfl (Or.inl (by decide)) rfl rfl hth (md_30 (by omega) hth q_11) rfl rfl rfl ?_
  refine go_if_ne (pt := 19) (pc' := 17) rfl rfl rfl (fun h14 => ?_) (fun h14 => ?_)
  · replace h := o_f h14 h
    refine go_aload_n (pc' := 20) rfl rfl rfl ?_
    refine go_aload_n (pc' := 21) rfl rfl rfl ?_
    refine go_iconst (pc' := 22) (v := (nI 0)) rfl rfl rfl ?_
    obtain ⟨I_22, q_22, h⟩ := o_b1E h
    refine go_callV (pc' := 25) (B' := (0, 0)) (st' := []) rfl rfl (Or.inl (by decide)) rfl rfl hth (md_44 (by omega) hth q_22) rfl rfl rfl ?_
    refine go_iconst (pc' := 26) (v := (nI 1)) rfl rfl rfl ?_
    cases h
    exact go_iret rfl (rfl) ⟨rfl, rfl, rfl, rfl, rfl⟩
  · replace h := o_t (Decidable.of_not_not h14) h
    refine go_iconst (pc' := 18) (v := (nI 0)) rfl rfl rfl ?_
    cases h
    exact go_iret rfl (rfl) ⟨rfl, rfl, rfl, rfl, rfl⟩
/-- PricedBases$Sums.of(LPricedBases$Valuation;I[I)I -/
def m_71 (a0 : Nat) (a1 : Int32) (a2 : Nat) (I : ai_I) (Rf : ai_R) (G : ai_G) : Option (Int32) :=
  o_g (o_kd G a0 8) (o_g (o_in G 13 (Rf a0 3) a1) (o_b1 (m_70 a1 a2 I G) (fun r_8 => some ((I (Rf a0 3) a1.toNatClampNeg) + r_8))))
theorem md_71 {d : Nat} {I : ai_I} {J : ai_J} {Rf : ai_R} {G : ai_G} {a0 : Nat} {a1 : Int32} {a2 : Nat} {r : Int32} (hd : 2 ≤ d) (h : m_71 a0 a1 a2 I Rf G = some r) : ai_Cl si_t si_ms d 71 [.inr (.inr a0), .inl a1, .inr (.inr a2)] I J Rf G (some (.inl r)) I J Rf G := by
  obtain ⟨e, rfl⟩ : ∃ e, d = e + 1 := ⟨d - 1, by omega⟩
  unfold m_71 at h
  refine sp_in (lo := [some (.inr (.inr a0)), some (.inl a1), some (.inr (.inr a2))]) (B := (0, 0)) rfl (Nat.le_of_ble_eq_true rfl) rfl rfl ?_
  refine go_aload_n (pc' := 1) rfl rfl rfl ?_
  obtain ⟨g0, h⟩ := o_gE h
  refine go_getR (pc' := 4) rfl rfl (o_kdE g0) rfl ?_
  refine go_iload_n (pc' := 5) rfl rfl rfl ?_
  obtain ⟨g1, h⟩ := o_gE h
  refine go_iaload (pc' := 6) rfl (o_inK g1) (o_inB g1) rfl ?_
  refine go_iload_n (pc' := 7) rfl rfl rfl ?_
  refine go_aload_n (pc' := 8) rfl rfl rfl ?_
  obtain ⟨r_8, q_8, h⟩ := o_b1E h
  refine go_callS (pc' := 11) (B' := (0, 0)) (st' := [.inl r_8, .inl (I (Rf a0 3) a1.toNatClampNeg)]) rfl rfl (Or.inl (by decide)) rfl rfl trivial (md_70 (by omega) q_8) rfl rfl rfl ?_
  refine go_iadd (pc' := 12) rfl rfl ?_
  cases h
  exact go_iret rfl (trivial) ⟨rfl, rfl, rfl, rfl, rfl⟩
def m_45_x58_104 (Ix_104 : ai_I) : Option (Int32 × ai_I) :=
  some ((nI 1), Ix_104)
def m_45_b58 (th : Nat) (a0 : Nat) (a1 : Nat) (Rf : ai_R) (G : ai_G) (w3_55 : Int32) (v4_58 : Int32) (I_58 : ai_I) : Option ((Int32 × ai_I) ⊕ ai_I) :=
  if (I_58 a0 2) ≤ v4_58 then (some (Sum.inr I_58)) else (o_g (o_in G 13 (Rf a0 5) v4_58) (o_b1 (m_71 a0 (I_58 (Rf a0 5) v4_58.toNatClampNeg) a1 I_58 Rf G) (fun r_76 => if r_76 = w3_55 then (o_g (o_in G 13 (Rf a0 5) v4_58) (o_g (o_kd G (Rf th 0) 8) (o_b1 (m_80 (Rf th 0) (I_58 (Rf a0 5) v4_58.toNatClampNeg) (nI 0) I_58 Rf G) (fun I_95 => o_b1 (some (v4_58 + (nI 1))) (fun x4_98 => some (Sum.inl (x4_98, I_95))))))) else (o_b1 (some (v4_58 + (nI 1))) (fun x4_98 => some (Sum.inl (x4_98, I_58)))))))
def m_45_x23_55 (th : Nat) (a0 : Nat) (a1 : Nat) (Rf : ai_R) (G : ai_G) (I_9 : ai_I) (w3_55 : Int32) : Option (Int32 × ai_I) :=
  o_s1 (lp (fun s => m_45_b58 th a0 a1 Rf G w3_55 s.1 s.2) o_N ((nI 0), I_9)) (fun t => m_45_x58_104 t)
def m_45_b23 (a0 : Nat) (a1 : Nat) (Rf : ai_R) (G : ai_G) (I_9 : ai_I) (v3_23 : Int32) (v4_23 : Int32) : Option ((Int32 × Int32) ⊕ Int32) :=
  if (I_9 a0 2) ≤ v4_23 then (some (Sum.inr v3_23)) else (o_g (o_in G 13 (Rf a0 5) v4_23) (o_b1 (m_71 a0 (I_9 (Rf a0 5) v4_23.toNatClampNeg) a1 I_9 Rf G) (fun r_42 => o_b1 (some (if v3_23 < r_42 then r_42 else v3_23)) (fun r_45 => o_b1 (some (v4_23 + (nI 1))) (fun x4_49 => some (Sum.inl (r_45, x4_49)))))))
/-- PricedBases$Maker.isInitial(LPricedBases$Valuation;[I)Z -/
def m_45 (th : Nat) (a0 : Nat) (a1 : Nat) (I : ai_I) (Rf : ai_R) (G : ai_G) : Option (Int32 × ai_I) :=
  o_g (o_kd G a0 8) (o_b2 (m_30 th (I a0 0) (I a0 1) I Rf G) (fun r_9 I_9 => if r_9 = 0 then (some ((nI 0), I_9)) else (o_s1 (lp (fun s => m_45_b23 a0 a1 Rf G I_9 s.1 s.2) o_N ((-2147483648 : Int32), (nI 0))) (fun t => m_45_x23_55 th a0 a1 Rf G I_9 t))))
theorem md_45 {d : Nat} {I : ai_I} {J : ai_J} {Rf : ai_R} {G : ai_G} {th : Nat} {a0 : Nat} {a1 : Nat} {r : Int32} {I1 : ai_I} (hd : 4 ≤ d) (hth : G.1 th = 3) (h : m_45 th a0 a1 I Rf G = some (r, I1)) : ai_Cl si_t si_ms d 45 [.inr (.inr th), .inr (.inr a0), .inr (.inr a1)] I J Rf G (some (.inl r)) I1 J Rf G := by
  obtain ⟨e, rfl⟩ : ∃ e, d = e + 1 := ⟨d - 1, by omega⟩
  unfold m_45 at h
  refine sp_in (lo := [some (.inr (.inr th)), some (.inr (.inr a0)), some (.inr (.inr a1)), none, none]) (B := (0, 0)) rfl (Nat.le_of_ble_eq_true rfl) rfl rfl ?_
  refine go_aload_n (pc' := 1) rfl rfl rfl ?_
  refine go_aload_n (pc' := 2) rfl rfl rfl ?_
  obtain ⟨g0, h⟩ := o_gE h
  refine go_getI (pc' := 5) rfl rfl (by decide) (by decide) (o_kdE g0) rfl ?_
  refine go_aload_n (pc' := 6) rfl rfl rfl ?_
  refine go_getI (pc' := 9) rfl rfl (by decide) (by decide) (o_kdE g0) rfl ?_
  obtain ⟨r_9, I_9, q_9, h⟩ := o_b2E h
  refine go_callV (pc' := 12) (B' := (0, 0)) (st' := [.inl r_9]) rfl rfl (Or.inl (by decide)) rfl rfl hth (md_30 (by omega) hth q_9) rfl rfl rfl ?_
  refine go_if_ne (pt := 17) (pc' := 15) rfl rfl rfl (fun h12 => ?_) (fun h12 => ?_)
  · replace h := o_f h12 h
    refine go_ldc (pc' := 19) (v := .inl (-2147483648 : Int32)) rfl rfl rfl ?_
    refine go_istore_n (pc' := 20) (lo' := [some (.inr (.inr th)), some (.inr (.inr a0)), some (.inr (.inr a1)), some (.inl (-2147483648 : Int32)), none]) rfl rfl rfl ?_
    refine go_iconst (pc' := 21) (v := (nI 0)) rfl rfl rfl ?_
    refine go_istore (pc' := 23) (lo' := [some (.inr (.inr th)), some (.inr (.inr a0)), some (.inr (.inr a1)), some (.inl (-2147483648 : Int32)), some (.inl (nI 0))]) rfl rfl rfl ?_
    obtain ⟨q23, hl23, hc23_55⟩ := o_s1E h
    have ex23_55 : ∀ (w3_55 : Int32) (z4_x55 : Option ai_V), w3_55 = q23 → ai_Go si_t (3, false, 3, cd_45) (ai_Cl si_t si_ms e) (sp_Q (some (.inl r)) I1 J Rf G) 55 [some (.inr (.inr th)), some (.inr (.inr a0)), some (.inr (.inr a1)), some (.inl w3_55), z4_x55] [] (0, 0) I_9 J Rf G := by
      intro w3_55 z4_x55 hq
      have h : m_45_x23_55 th a0 a1 Rf G I_9 w3_55 = some (r, I1) := hc23_55 w3_55 hq.symm
      unfold m_45_x23_55 at h
      refine go_iconst (pc' := 56) (v := (nI 0)) rfl rfl rfl ?_
      refine go_istore (pc' := 58) (lo' := [some (.inr (.inr th)), some (.inr (.inr a0)), some (.inr (.inr a1)), some (.inl w3_55), some (.inl (nI 0))]) rfl rfl rfl ?_
      obtain ⟨q58, hl58, hc58_104⟩ := o_s1E h
      have ex58_104 : ∀ (Ix_104 : ai_I) (z4_x104 : Option ai_V), Ix_104 = q58 → ai_Go si_t (3, false, 3, cd_45) (ai_Cl si_t si_ms e) (sp_Q (some (.inl r)) I1 J Rf G) 104 [some (.inr (.inr th)), some (.inr (.inr a0)), some (.inr (.inr a1)), some (.inl w3_55), z4_x104] [] (0, 0) Ix_104 J Rf G := by
        intro Ix_104 z4_x104 hq
        have h : m_45_x58_104 Ix_104 = some (r, I1) := hc58_104 Ix_104 hq.symm
        unfold m_45_x58_104 at h
        refine go_iconst (pc' := 105) (v := (nI 1)) rfl rfl rfl ?_
        cases h
        exact go_iret rfl (rfl) ⟨rfl, rfl, rfl, rfl, rfl⟩
      have lo58 : ∀ n s, lp (fun s => m_45_b58 th a0 a1 Rf G w3_55 s.1 s.2) n s = some q58 → (fun s => ai_Go si_t (3, false, 3, cd_45) (ai_Cl si_t si_ms e) (sp_Q (some (.inl r)) I1 J Rf G) 58 [some (.inr (.inr th)), some (.inr (.inr a0)), some (.inr (.inr a1)), some (.inl w3_55), some (.inl s.1)] [] (0, 0) s.2 J Rf G) s := lp_go (fun s x58 hx hk58 => by
        obtain ⟨v4_58, I_58⟩ := s
        have h : m_45_b58 th a0 a1 Rf G w3_55 v4_58 I_58 = some x58 := hx
        clear hx
        show ai_Go si_t (3, false, 3, cd_45) (ai_Cl si_t si_ms e) (sp_Q (some (.inl r)) I1 J Rf G) 58 [some (.inr (.inr th)), some (.inr (.inr a0)), some (.inr (.inr a1)), some (.inl w3_55), some (.inl v4_58)] [] (0, 0) I_58 J Rf G
        unfold m_45_b58 at h
        refine go_iload (pc' := 60) rfl rfl rfl ?_
        refine go_aload_n (pc' := 61) rfl rfl rfl ?_
        refine go_getI (pc' := 64) rfl rfl (by decide) (by decide) (o_kdE g0) rfl ?_
        refine go_icmp_ge (pt := 104) (pc' := 67) rfl rfl rfl (fun h64 => ?_) (fun h64 => ?_)
        · replace h := o_t h64 h
          exact ex58_104 _ (some (.inl v4_58)) (lp_exitE h hk58)
        · replace h := o_f h64 h
          refine go_aload_n (pc' := 68) rfl rfl rfl ?_
          refine go_aload_n (pc' := 69) rfl rfl rfl ?_
          refine go_getR (pc' := 72) rfl rfl (o_kdE g0) rfl ?_
          refine go_iload (pc' := 74) rfl rfl rfl ?_
          obtain ⟨g1, h⟩ := o_gE h
          refine go_iaload (pc' := 75) rfl (o_inK g1) (o_inB g1) rfl ?_
          refine go_aload_n (pc' := 76) rfl rfl rfl ?_
          obtain ⟨r_76, q_76, h⟩ := o_b1E h
          refine go_callS (pc' := 79) (B' := (0, 0)) (st' := [.inl r_76]) rfl rfl (Or.inl (by decide)) rfl rfl trivial (md_71 (by omega) q_76) rfl rfl rfl ?_
          refine go_iload_n (pc' := 80) rfl rfl rfl ?_
          refine go_icmp_ne (pt := 98) (pc' := 83) rfl rfl rfl (fun h80 => ?_) (fun h80 => ?_)
          · replace h := o_f h80 h
            obtain ⟨x4_98, ex4_98, h⟩ := o_b1E h
            refine go_iincE (pc' := 101) rfl rfl (y := (nI 1)) rfl ex4_98 (lo' := [some (.inr (.inr th)), some (.inr (.inr a0)), some (.inr (.inr a1)), some (.inl w3_55), some (.inl x4_98)]) rfl rfl ?_
            refine go_goto (pc' := 58) rfl rfl ?_
            exact (lp_backE h hk58 :)
          · replace h := o_t (Decidable.of_not_not h80) h
            refine go_aload_n (pc' := 84) rfl rfl rfl ?_
            refine go_getR (pc' := 87) rfl rfl hth rfl ?_
            refine go_aload_n (pc' := 88) rfl rfl rfl ?_
            refine go_getR (pc' := 91) rfl rfl (o_kdE g0) rfl ?_
            refine go_iload (pc' := 93) rfl rfl rfl ?_
            obtain ⟨g2, h⟩ := o_gE h
            refine go_iaload (pc' := 94) rfl (o_inK g2) (o_inB g2) rfl ?_
            refine go_iconst (pc' := 95) (v := (nI 0)) rfl rfl rfl ?_
            obtain ⟨g3, h⟩ := o_gE h
            obtain ⟨I_95, q_95, h⟩ := o_b1E h
            refine go_callV (pc' := 98) (B' := (0, 0)) (st' := []) rfl rfl (Or.inl (by decide)) rfl rfl (o_kdE g3) (md_80 (by omega) (o_kdE g3) q_95) rfl rfl rfl ?_
            obtain ⟨x4_98, ex4_98, h⟩ := o_b1E h
            refine go_iincE (pc' := 101) rfl rfl (y := (nI 1)) rfl ex4_98 (lo' := [some (.inr (.inr th)), some (.inr (.inr a0)), some (.inr (.inr a1)), some (.inl w3_55), some (.inl x4_98)]) rfl rfl ?_
            refine go_goto (pc' := 58) rfl rfl ?_
            exact (lp_backE h hk58 :))
      exact lo58 _ ((nI 0), I_9) hl58 
    have lo23 : ∀ n s, lp (fun s => m_45_b23 a0 a1 Rf G I_9 s.1 s.2) n s = some q23 → (fun s => ai_Go si_t (3, false, 3, cd_45) (ai_Cl si_t si_ms e) (sp_Q (some (.inl r)) I1 J Rf G) 23 [some (.inr (.inr th)), some (.inr (.inr a0)), some (.inr (.inr a1)), some (.inl s.1), some (.inl s.2)] [] (0, 0) I_9 J Rf G) s := lp_go (fun s x23 hx hk23 => by
      obtain ⟨v3_23, v4_23⟩ := s
      have h : m_45_b23 a0 a1 Rf G I_9 v3_23 v4_23 = some x23 := hx
      clear hx
      show ai_Go si_t (3, false, 3, cd_45) (ai_Cl si_t si_ms e) (sp_Q (some (.inl r)) I1 J Rf G) 23 [some (.inr (.inr th)), some (.inr (.inr a0)), some (.inr (.inr a1)), some (.inl v3_23), some (.inl v4_23)] [] (0, 0) I_9 J Rf G
      unfold m_45_b23 at h
      refine go_iload (pc' := 25) rfl rfl rfl ?_
      refine go_aload_n (pc' := 26) rfl rfl rfl ?_
      refine go_getI (pc' := 29) rfl rfl (by decide) (by decide) (o_kdE g0) rfl ?_
      refine go_icmp_ge (pt := 55) (pc' := 32) rfl rfl rfl (fun h29 => ?_) (fun h29 => ?_)
      · replace h := o_t h29 h
        exact ex23_55 _ (some (.inl v4_23)) (lp_exitE h hk23)
      · replace h := o_f h29 h
        refine go_iload_n (pc' := 33) rfl rfl rfl ?_
        refine go_aload_n (pc' := 34) rfl rfl rfl ?_
        refine go_aload_n (pc' := 35) rfl rfl rfl ?_
        refine go_getR (pc' := 38) rfl rfl (o_kdE g0) rfl ?_
        refine go_iload (pc' := 40) rfl rfl rfl ?_
        obtain ⟨g4, h⟩ := o_gE h
        refine go_iaload (pc' := 41) rfl (o_inK g4) (o_inB g4) rfl ?_
        refine go_aload_n (pc' := 42) rfl rfl rfl ?_
        obtain ⟨r_42, q_42, h⟩ := o_b1E h
        refine go_callS (pc' := 45) (B' := (0, 0)) (st' := [.inl r_42, .inl v3_23]) rfl rfl (Or.inl (by decide)) rfl rfl trivial (md_71 (by omega) q_42) rfl rfl rfl ?_
        refine go_max (pc' := 48) rfl rfl (Nat.le_of_ble_eq_true rfl) rfl ?_
        obtain ⟨r_45, er_45, h⟩ := o_b1E h
        refine go_ndI er_45 ?_
        refine go_istore_n (pc' := 49) (lo' := [some (.inr (.inr th)), some (.inr (.inr a0)), some (.inr (.inr a1)), some (.inl r_45), some (.inl v4_23)]) rfl rfl rfl ?_
        obtain ⟨x4_49, ex4_49, h⟩ := o_b1E h
        refine go_iincE (pc' := 52) rfl rfl (y := (nI 1)) rfl ex4_49 (lo' := [some (.inr (.inr th)), some (.inr (.inr a0)), some (.inr (.inr a1)), some (.inl r_45), some (.inl x4_49)]) rfl rfl ?_
        refine go_goto (pc' := 23) rfl rfl ?_
        exact (lp_backE h hk23 :))
    exact lo23 _ ((-2147483648 : Int32), (nI 0)) hl23 
  · replace h := o_t (Decidable.of_not_not h12) h
    refine go_iconst (pc' := 16) (v := (nI 0)) rfl rfl rfl ?_
    cases h
    exact go_iret rfl (rfl) ⟨rfl, rfl, rfl, rfl, rfl⟩
/-- PricedBases.haveSameElements(LPricedBases$Valuation;LPricedBases$Valuation;)Z -/
def m_114 (a0 : Nat) (a1 : Nat) (I : ai_I) (G : ai_G) : Option (Int32) :=
  if a0 = 0 then (some (nI 0)) else (if a1 = 0 then (some (nI 0)) else (o_g (o_kd G a0 8) (o_g (o_kd G a1 8) (if (I a0 0) = (I a1 0) then (some (nI 1)) else (some (nI 0))))))
theorem md_114 {d : Nat} {I : ai_I} {J : ai_J} {Rf : ai_R} {G : ai_G} {a0 : Nat} {a1 : Nat} {r : Int32} (hd : 1 ≤ d) (h : m_114 a0 a1 I G = some r) : ai_Cl si_t si_ms d 114 [.inr (.inr a0), .inr (.inr a1)] I J Rf G (some (.inl r)) I J Rf G := by
  obtain ⟨e, rfl⟩ : ∃ e, d = e + 1 := ⟨d - 1, by omega⟩
  unfold m_114 at h
  refine sp_in (lo := [some (.inr (.inr a0)), some (.inr (.inr a1))]) (B := (0, 0)) rfl (Nat.le_of_ble_eq_true rfl) rfl rfl ?_
  refine go_aload_n (pc' := 1) rfl rfl rfl ?_
  refine go_ifnull (pt := 23) (pc' := 4) rfl rfl rfl (fun h1 => ?_) (fun h1 => ?_)
  · replace h := o_t h1 h
    refine go_iconst (pc' := 24) (v := (nI 0)) rfl rfl rfl ?_
    cases h
    exact go_iret rfl (rfl) ⟨rfl, rfl, rfl, rfl, rfl⟩
  · replace h := o_f h1 h
    refine go_aload_n (pc' := 5) rfl rfl rfl ?_
    refine go_ifnull (pt := 23) (pc' := 8) rfl rfl rfl (fun h5 => ?_) (fun h5 => ?_)
    · replace h := o_t h5 h
      refine go_iconst (pc' := 24) (v := (nI 0)) rfl rfl rfl ?_
      cases h
      exact go_iret rfl (rfl) ⟨rfl, rfl, rfl, rfl, rfl⟩
    · replace h := o_f h5 h
      refine go_aload_n (pc' := 9) rfl rfl rfl ?_
      obtain ⟨g0, h⟩ := o_gE h
      refine go_getI (pc' := 12) rfl rfl (by decide) (by decide) (o_kdE g0) rfl ?_
      refine go_aload_n (pc' := 13) rfl rfl rfl ?_
      obtain ⟨g1, h⟩ := o_gE h
      refine go_getI (pc' := 16) rfl rfl (by decide) (by decide) (o_kdE g1) rfl ?_
      refine go_icmp_ne (pt := 23) (pc' := 19) rfl rfl rfl (fun h16 => ?_) (fun h16 => ?_)
      · replace h := o_f h16 h
        refine go_iconst (pc' := 24) (v := (nI 0)) rfl rfl rfl ?_
        cases h
        exact go_iret rfl (rfl) ⟨rfl, rfl, rfl, rfl, rfl⟩
      · replace h := o_t (Decidable.of_not_not h16) h
        refine go_iconst (pc' := 20) (v := (nI 1)) rfl rfl rfl ?_
        refine go_goto (pc' := 24) rfl rfl ?_
        cases h
        exact go_iret rfl (rfl) ⟨rfl, rfl, rfl, rfl, rfl⟩
def m_46_x32_116 (Ix_116 : ai_I) : Option (Int32 × ai_I) :=
  some ((nI 1), Ix_116)
def m_46_x43_110 (v3_32 : Int32) (Ix_110 : ai_I) : Option ((Int32 × ai_I) ⊕ ai_I) :=
  o_b1 (some (v3_32 + (nI 1))) (fun x3_110 => some (Sum.inl (x3_110, Ix_110)))
def m_46_b43 (th : Nat) (a0 : Nat) (a1 : Nat) (Rf : ai_R) (G : ai_G) (v3_32 : Int32) (v4_43 : Int32) (I_43 : ai_I) : Option ((Int32 × ai_I) ⊕ ai_I) :=
  if (I_43 a1 2) ≤ v4_43 then (some (Sum.inr I_43)) else (o_g (o_in G 13 (Rf a0 5) v3_32) (o_b1 (some (I_43 (Rf a0 5) v3_32.toNatClampNeg)) (fun x5_58 => o_g (o_in G 13 (Rf a1 5) v4_43) (o_b1 (some (I_43 (Rf a1 5) v4_43.toNatClampNeg)) (fun x6_67 => if (x5_58 &&& x6_67) = 0 then (o_g (o_in G 13 (Rf a0 3) x5_58) (o_g (o_in G 13 (Rf a1 3) x6_67) (o_g (o_kd G (Rf th 0) 8) (o_b1 (m_80 (Rf th 0) (x5_58 ||| x6_67) ((I_43 (Rf a0 3) x5_58.toNatClampNeg) + (I_43 (Rf a1 3) x6_67.toNatClampNeg)) I_43 Rf G) (fun I_101 => o_b1 (some (v4_43 + (nI 1))) (fun x4_104 => some (Sum.inl (x4_104, I_101)))))))) else (o_b1 (some (v4_43 + (nI 1))) (fun x4_104 => some (Sum.inl (x4_104, I_43)))))))))
def m_46_b32 (th : Nat) (a0 : Nat) (a1 : Nat) (Rf : ai_R) (G : ai_G) (v3_32 : Int32) (I_32 : ai_I) : Option ((Int32 × ai_I) ⊕ ai_I) :=
  if (I_32 a0 2) ≤ v3_32 then (some (Sum.inr I_32)) else (o_s1 (lp (fun s => m_46_b43 th a0 a1 Rf G v3_32 s.1 s.2) o_N ((nI 0), I_32)) (fun t => m_46_x43_110 v3_32 t))
/-- PricedBases$Maker.isJoined(LPricedBases$Valuation;LPricedBases$Valuation;)Z -/
def m_46 (th : Nat) (a0 : Nat) (a1 : Nat) (I : ai_I) (Rf : ai_R) (G : ai_G) : Option (Int32 × ai_I) :=
  o_b1 (m_114 a0 a1 I G) (fun r_2 => if r_2 = 0 then (some ((nI 0), I)) else (o_g (o_kd G a0 8) (o_g (o_kd G a1 8) (o_b2 (m_30 th (I a0 0) ((I a0 1) + (I a1 1)) I Rf G) (fun r_22 I_22 => if r_22 = 0 then (some ((nI 0), I_22)) else (o_s1 (lp (fun s => m_46_b32 th a0 a1 Rf G s.1 s.2) o_N ((nI 0), I_22)) (fun t => m_46_x32_116 t)))))))
theorem md_46 {d : Nat} {I : ai_I} {J : ai_J} {Rf : ai_R} {G : ai_G} {th : Nat} {a0 : Nat} {a1 : Nat} {r : Int32} {I1 : ai_I} (hd : 4 ≤ d) (hth : G.1 th = 3) (h : m_46 th a0 a1 I Rf G = some (r, I1)) : ai_Cl si_t si_ms d 46 [.inr (.inr th), .inr (.inr a0), .inr (.inr a1)] I J Rf G (some (.inl r)) I1 J Rf G := by
  obtain ⟨e, rfl⟩ : ∃ e, d = e + 1 := ⟨d - 1, by omega⟩
  unfold m_46 at h
  refine sp_in (lo := [some (.inr (.inr th)), some (.inr (.inr a0)), some (.inr (.inr a1)), none, none, none, none]) (B := (0, 0)) rfl (Nat.le_of_ble_eq_true rfl) rfl rfl ?_
  refine go_aload_n (pc' := 1) rfl rfl rfl ?_
  refine go_aload_n (pc' := 2) rfl rfl rfl ?_
  obtain ⟨r_2, q_2, h⟩ := o_b1E h
  refine go_callS (pc' := 5) (B' := (0, 0)) (st' := [.inl r_2]) rfl rfl (Or.inl (by decide)) rfl rfl trivial (md_114 (by omega) q_2) rfl rfl rfl ?_
  refine go_if_eq (pt := 28) (pc' := 8) rfl rfl rfl (fun h5 => ?_) (fun h5 => ?_)
  · replace h := o_t h5 h
    refine go_iconst (pc' := 29) (v := (nI 0)) rfl rfl rfl ?_
    cases h
    exact go_iret rfl (rfl) ⟨rfl, rfl, rfl, rfl, rfl⟩
  · replace h := o_f h5 h
    refine go_aload_n (pc' := 9) rfl rfl rfl ?_
    refine go_aload_n (pc' := 10) rfl rfl rfl ?_
    obtain ⟨g0, h⟩ := o_gE h
    refine go_getI (pc' := 13) rfl rfl (by decide) (by decide) (o_kdE g0) rfl ?_
    refine go_aload_n (pc' := 14) rfl rfl rfl ?_
    refine go_getI (pc' := 17) rfl rfl (by decide) (by decide) (o_kdE g0) rfl ?_
    refine go_aload_n (pc' := 18) rfl rfl rfl ?_
    obtain ⟨g1, h⟩ := o_gE h
    refine go_getI (pc' := 21) rfl rfl (by decide) (by decide) (o_kdE g1) rfl ?_
    refine go_iadd (pc' := 22) rfl rfl ?_
    obtain ⟨r_22, I_22, q_22, h⟩ := o_b2E h
    refine go_callV (pc' := 25) (B' := (0, 0)) (st' := [.inl r_22]) rfl rfl (Or.inl (by decide)) rfl rfl hth (md_30 (by omega) hth q_22) rfl rfl rfl ?_
    refine go_if_ne (pt := 30) (pc' := 28) rfl rfl rfl (fun h25 => ?_) (fun h25 => ?_)
    · replace h := o_f h25 h
      refine go_iconst (pc' := 31) (v := (nI 0)) rfl rfl rfl ?_
      refine go_istore_n (pc' := 32) (lo' := [some (.inr (.inr th)), some (.inr (.inr a0)), some (.inr (.inr a1)), some (.inl (nI 0)), none, none, none]) rfl rfl rfl ?_
      obtain ⟨q32, hl32, hc32_116⟩ := o_s1E h
      have ex32_116 : ∀ (Ix_116 : ai_I) (z3_x116 : Option ai_V) (z4_x116 : Option ai_V) (z5_x116 : Option ai_V) (z6_x116 : Option ai_V), Ix_116 = q32 → ai_Go si_t (3, false, 3, cd_46) (ai_Cl si_t si_ms e) (sp_Q (some (.inl r)) I1 J Rf G) 116 [some (.inr (.inr th)), some (.inr (.inr a0)), some (.inr (.inr a1)), z3_x116, z4_x116, z5_x116, z6_x116] [] (0, 0) Ix_116 J Rf G := by
        intro Ix_116 z3_x116 z4_x116 z5_x116 z6_x116 hq
        have h : m_46_x32_116 Ix_116 = some (r, I1) := hc32_116 Ix_116 hq.symm
        unfold m_46_x32_116 at h
        refine go_iconst (pc' := 117) (v := (nI 1)) rfl rfl rfl ?_
        cases h
        exact go_iret rfl (rfl) ⟨rfl, rfl, rfl, rfl, rfl⟩
      have lo32 : ∀ n s, lp (fun s => m_46_b32 th a0 a1 Rf G s.1 s.2) n s = some q32 → (fun s => ∀ (z4_32 : Option ai_V) (z5_32 : Option ai_V) (z6_32 : Option ai_V), ai_Go si_t (3, false, 3, cd_46) (ai_Cl si_t si_ms e) (sp_Q (some (.inl r)) I1 J Rf G) 32 [some (.inr (.inr th)), some (.inr (.inr a0)), some (.inr (.inr a1)), some (.inl s.1), z4_32, z5_32, z6_32] [] (0, 0) s.2 J Rf G) s := lp_go (fun s x32 hx hk32 => by
        obtain ⟨v3_32, I_32⟩ := s
        intro z4_32 z5_32 z6_32
        have h : m_46_b32 th a0 a1 Rf G v3_32 I_32 = some x32 := hx
        clear hx
        show ai_Go si_t (3, false, 3, cd_46) (ai_Cl si_t si_ms e) (sp_Q (some (.inl r)) I1 J Rf G) 32 [some (.inr (.inr th)), some (.inr (.inr a0)), some (.inr (.inr a1)), some (.inl v3_32), z4_32, z5_32, z6_32] [] (0, 0) I_32 J Rf G
        unfold m_46_b32 at h
        refine go_iload_n (pc' := 33) rfl rfl rfl ?_
        refine go_aload_n (pc' := 34) rfl rfl rfl ?_
        refine go_getI (pc' := 37) rfl rfl (by decide) (by decide) (o_kdE g0) rfl ?_
        refine go_icmp_ge (pt := 116) (pc' := 40) rfl rfl rfl (fun h37 => ?_) (fun h37 => ?_)
        · replace h := o_t h37 h
          exact ex32_116 _ (some (.inl v3_32)) z4_32 z5_32 z6_32 (lp_exitE h hk32)
        · replace h := o_f h37 h
          refine go_iconst (pc' := 41) (v := (nI 0)) rfl rfl rfl ?_
          refine go_istore (pc' := 43) (lo' := [some (.inr (.inr th)), some (.inr (.inr a0)), some (.inr (.inr a1)), some (.inl v3_32), some (.inl (nI 0)), z5_32, z6_32]) rfl rfl rfl ?_
          obtain ⟨q43, hl43, hc43_110⟩ := o_s1E h
          have ex43_110 : ∀ (Ix_110 : ai_I) (z4_x110 : Option ai_V) (z5_x110 : Option ai_V) (z6_x110 : Option ai_V), Ix_110 = q43 → ai_Go si_t (3, false, 3, cd_46) (ai_Cl si_t si_ms e) (sp_Q (some (.inl r)) I1 J Rf G) 110 [some (.inr (.inr th)), some (.inr (.inr a0)), some (.inr (.inr a1)), some (.inl v3_32), z4_x110, z5_x110, z6_x110] [] (0, 0) Ix_110 J Rf G := by
            intro Ix_110 z4_x110 z5_x110 z6_x110 hq
            have h : m_46_x43_110 v3_32 Ix_110 = some x32 := hc43_110 Ix_110 hq.symm
            unfold m_46_x43_110 at h
            obtain ⟨x3_110, ex3_110, h⟩ := o_b1E h
            refine go_iincE (pc' := 113) rfl rfl (y := (nI 1)) rfl ex3_110 (lo' := [some (.inr (.inr th)), some (.inr (.inr a0)), some (.inr (.inr a1)), some (.inl x3_110), z4_x110, z5_x110, z6_x110]) rfl rfl ?_
            refine go_goto (pc' := 32) rfl rfl ?_
            exact (lp_backE h hk32 z4_x110 z5_x110 z6_x110 :)
          have lo43 : ∀ n s, lp (fun s => m_46_b43 th a0 a1 Rf G v3_32 s.1 s.2) n s = some q43 → (fun s => ∀ (z5_43 : Option ai_V) (z6_43 : Option ai_V), ai_Go si_t (3, false, 3, cd_46) (ai_Cl si_t si_ms e) (sp_Q (some (.inl r)) I1 J Rf G) 43 [some (.inr (.inr th)), some (.inr (.inr a0)), some (.inr (.inr a1)), some (.inl v3_32), some (.inl s.1), z5_43, z6_43] [] (0, 0) s.2 J Rf G) s := lp_go (fun s x43 hx hk43 => by
            obtain ⟨v4_43, I_43⟩ := s
            intro z5_43 z6_43
            have h : m_46_b43 th a0 a1 Rf G v3_32 v4_43 I_43 = some x43 := hx
            clear hx
            show ai_Go si_t (3, false, 3, cd_46) (ai_Cl si_t si_ms e) (sp_Q (some (.inl r)) I1 J Rf G) 43 [some (.inr (.inr th)), some (.inr (.inr a0)), some (.inr (.inr a1)), some (.inl v3_32), some (.inl v4_43), z5_43, z6_43] [] (0, 0) I_43 J Rf G
            unfold m_46_b43 at h
            refine go_iload (pc' := 45) rfl rfl rfl ?_
            refine go_aload_n (pc' := 46) rfl rfl rfl ?_
            refine go_getI (pc' := 49) rfl rfl (by decide) (by decide) (o_kdE g1) rfl ?_
            refine go_icmp_ge (pt := 110) (pc' := 52) rfl rfl rfl (fun h49 => ?_) (fun h49 => ?_)
            · replace h := o_t h49 h
              exact ex43_110 _ (some (.inl v4_43)) z5_43 z6_43 (lp_exitE h hk43)
            · replace h := o_f h49 h
              refine go_aload_n (pc' := 53) rfl rfl rfl ?_
              refine go_getR (pc' := 56) rfl rfl (o_kdE g0) rfl ?_
              refine go_iload_n (pc' := 57) rfl rfl rfl ?_
              obtain ⟨g2, h⟩ := o_gE h
              refine go_iaload (pc' := 58) rfl (o_inK g2) (o_inB g2) rfl ?_
              obtain ⟨x5_58, ex5_58, h⟩ := o_b1E h
              refine go_ndI ex5_58 ?_
              refine go_istore (pc' := 60) (lo' := [some (.inr (.inr th)), some (.inr (.inr a0)), some (.inr (.inr a1)), some (.inl v3_32), some (.inl v4_43), some (.inl x5_58), z6_43]) rfl rfl rfl ?_
              refine go_aload_n (pc' := 61) rfl rfl rfl ?_
              refine go_getR (pc' := 64) rfl rfl (o_kdE g1) rfl ?_
              refine go_iload (pc' := 66) rfl rfl rfl ?_
              obtain ⟨g3, h⟩ := o_gE h
              refine go_iaload (pc' := 67) rfl (o_inK g3) (o_inB g3) rfl ?_
              obtain ⟨x6_67, ex6_67, h⟩ := o_b1E h
              refine go_ndI ex6_67 ?_
              refine go_istore (pc' := 69) (lo' := [some (.inr (.inr th)), some (.inr (.inr a0)), some (.inr (.inr a1)), some (.inl v3_32), some (.inl v4_43), some (.inl x5_58), some (.inl x6_67)]) rfl rfl rfl ?_
              refine go_iload (pc' := 71) rfl rfl rfl ?_
              refine go_iload (pc' := 73) rfl rfl rfl ?_
              refine go_iand (pc' := 74) rfl rfl ?_
              refine go_if_ne (pt := 104) (pc' := 77) rfl rfl rfl (fun h74 => ?_) (fun h74 => ?_)
              · replace h := o_f h74 h
                obtain ⟨x4_104, ex4_104, h⟩ := o_b1E h
                refine go_iincE (pc' := 107) rfl rfl (y := (nI 1)) rfl ex4_104 (lo' := [some (.inr (.inr th)), some (.inr (.inr a0)), some (.inr (.inr a1)), some (.inl v3_32), some (.inl x4_104), some (.inl x5_58), some (.inl x6_67)]) rfl rfl ?_
                refine go_goto (pc' := 43) rfl rfl ?_
                exact (lp_backE h hk43 (some (.inl x5_58)) (some (.inl x6_67)) :)
              · replace h := o_t (Decidable.of_not_not h74) h
                refine go_aload_n (pc' := 78) rfl rfl rfl ?_
                refine go_getR (pc' := 81) rfl rfl hth rfl ?_
                refine go_iload (pc' := 83) rfl rfl rfl ?_
                refine go_iload (pc' := 85) rfl rfl rfl ?_
                refine go_ior (pc' := 86) rfl rfl ?_
                refine go_aload_n (pc' := 87) rfl rfl rfl ?_
                refine go_getR (pc' := 90) rfl rfl (o_kdE g0) rfl ?_
                refine go_iload (pc' := 92) rfl rfl rfl ?_
                obtain ⟨g4, h⟩ := o_gE h
                refine go_iaload (pc' := 93) rfl (o_inK g4) (o_inB g4) rfl ?_
                refine go_aload_n (pc' := 94) rfl rfl rfl ?_
                refine go_getR (pc' := 97) rfl rfl (o_kdE g1) rfl ?_
                refine go_iload (pc' := 99) rfl rfl rfl ?_
                obtain ⟨g5, h⟩ := o_gE h
                refine go_iaload (pc' := 100) rfl (o_inK g5) (o_inB g5) rfl ?_
                refine go_iadd (pc' := 101) rfl rfl ?_
                obtain ⟨g6, h⟩ := o_gE h
                obtain ⟨I_101, q_101, h⟩ := o_b1E h
                refine go_callV (pc' := 104) (B' := (0, 0)) (st' := []) rfl rfl (Or.inl (by decide)) rfl rfl (o_kdE g6) (md_80 (by omega) (o_kdE g6) q_101) rfl rfl rfl ?_
                obtain ⟨x4_104, ex4_104, h⟩ := o_b1E h
                refine go_iincE (pc' := 107) rfl rfl (y := (nI 1)) rfl ex4_104 (lo' := [some (.inr (.inr th)), some (.inr (.inr a0)), some (.inr (.inr a1)), some (.inl v3_32), some (.inl x4_104), some (.inl x5_58), some (.inl x6_67)]) rfl rfl ?_
                refine go_goto (pc' := 43) rfl rfl ?_
                exact (lp_backE h hk43 (some (.inl x5_58)) (some (.inl x6_67)) :))
          exact lo43 _ ((nI 0), I_32) hl43 z5_32 z6_32)
      exact lo32 _ ((nI 0), I_22) hl32 none none none
    · replace h := o_t (Decidable.of_not_not h25) h
      refine go_iconst (pc' := 29) (v := (nI 0)) rfl rfl rfl ?_
      cases h
      exact go_iret rfl (rfl) ⟨rfl, rfl, rfl, rfl, rfl⟩
/-- PricedBases$State.shelfAt(I)LPricedBases$Valuation; -/
def m_65 (th : Nat) (a0 : Int32) (Rf : ai_R) (G : ai_G) : Option (Nat) :=
  if a0 < 0 then (some 0) else (if (nI 4) ≤ a0 then (some 0) else (o_g (o_in G 15 (Rf th 0) a0) (some (Rf (Rf th 0) a0.toNatClampNeg))))
theorem md_65 {d : Nat} {I : ai_I} {J : ai_J} {Rf : ai_R} {G : ai_G} {th : Nat} {a0 : Int32} {r : Nat} (hd : 1 ≤ d) (hth : G.1 th = 6) (h : m_65 th a0 Rf G = some r) : ai_Cl si_t si_ms d 65 [.inr (.inr th), .inl a0] I J Rf G (some (.inr (.inr r))) I J Rf G := by
  obtain ⟨e, rfl⟩ : ∃ e, d = e + 1 := ⟨d - 1, by omega⟩
  unfold m_65 at h
  refine sp_in (lo := [some (.inr (.inr th)), some (.inl a0)]) (B := (0, 0)) rfl (Nat.le_of_ble_eq_true rfl) rfl rfl ?_
  refine go_iload_n (pc' := 1) rfl rfl rfl ?_
  refine go_if_lt (pt := 18) (pc' := 4) rfl rfl rfl (fun h1 => ?_) (fun h1 => ?_)
  · replace h := o_t h1 h
    refine go_null (pc' := 19) rfl rfl ?_
    cases h
    exact go_aret rfl (rfl) ⟨rfl, rfl, rfl, rfl, rfl⟩
  · replace h := o_f h1 h
    refine go_iload_n (pc' := 5) rfl rfl rfl ?_
    refine go_iconst (pc' := 6) (v := (nI 4)) rfl rfl rfl ?_
    refine go_icmp_ge (pt := 18) (pc' := 9) rfl rfl rfl (fun h6 => ?_) (fun h6 => ?_)
    · replace h := o_t h6 h
      refine go_null (pc' := 19) rfl rfl ?_
      cases h
      exact go_aret rfl (rfl) ⟨rfl, rfl, rfl, rfl, rfl⟩
    · replace h := o_f h6 h
      refine go_aload_n (pc' := 10) rfl rfl rfl ?_
      refine go_getR (pc' := 13) rfl rfl hth rfl ?_
      refine go_iload_n (pc' := 14) rfl rfl rfl ?_
      obtain ⟨g0, h⟩ := o_gE h
      refine go_aaload (pc' := 15) rfl (o_inK g0) (o_inB g0) rfl ?_
      refine go_goto (pc' := 19) rfl rfl ?_
      cases h
      exact go_aret rfl (rfl) ⟨rfl, rfl, rfl, rfl, rfl⟩
