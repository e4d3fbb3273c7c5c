/-! Models of methods and their proofs, piece 4. Printed by wip/whole/pr10.py. -/
/-- PricedBases$Valuation.hasElement(I)Z -/
def m_120 (th : Nat) (a0 : Int32) (I : ai_I) : Option (Int32) :=
  if a0 < 0 then (some (nI 0)) else (if (I th 0) ≤ a0 then (some (nI 0)) else (some (nI 1)))
theorem md_120 {d : Nat} {I : ai_I} {J : ai_J} {Rf : ai_R} {G : ai_G} {th : Nat} {a0 : Int32} {r : Int32} (hd : 1 ≤ d) (hth : G.1 th = 8) (h : m_120 th a0 I = some r) : ai_Cl si_t si_ms d 120 [.inr (.inr th), .inl a0] I J Rf G (some (.inl r)) I J Rf G := by
  obtain ⟨e, rfl⟩ : ∃ e, d = e + 1 := ⟨d - 1, by omega⟩
  unfold m_120 at h
  refine sp_in (lo := [some (.inr (.inr th)), some (.inl a0)]) (B := (0, 0)) rfl (Nat.le_of_ble_eq_true rfl) rfl rfl ?_
  refine go_iload_n (pc' := 1) rfl rfl rfl ?_
  refine go_if_lt (pt := 16) (pc' := 4) rfl rfl rfl (fun h1 => ?_) (fun h1 => ?_)
  · replace h := o_t h1 h
    refine go_iconst (pc' := 17) (v := (nI 0)) rfl rfl rfl ?_
    cases h
    exact go_iret rfl (rfl) ⟨rfl, rfl, rfl, rfl, rfl⟩
  · replace h := o_f h1 h
    refine go_iload_n (pc' := 5) rfl rfl rfl ?_
    refine go_aload_n (pc' := 6) rfl rfl rfl ?_
    refine go_getI (pc' := 9) rfl rfl (by decide) (by decide) hth rfl ?_
    refine go_icmp_ge (pt := 16) (pc' := 12) rfl rfl rfl (fun h9 => ?_) (fun h9 => ?_)
    · replace h := o_t h9 h
      refine go_iconst (pc' := 17) (v := (nI 0)) rfl rfl rfl ?_
      cases h
      exact go_iret rfl (rfl) ⟨rfl, rfl, rfl, rfl, rfl⟩
    · replace h := o_f h9 h
      refine go_iconst (pc' := 13) (v := (nI 1)) rfl rfl rfl ?_
      refine go_goto (pc' := 17) rfl rfl ?_
      cases h
      exact go_iret rfl (rfl) ⟨rfl, rfl, rfl, rfl, rfl⟩
def m_50_x39_102 (Ix_102 : ai_I) : Option (Int32 × ai_I) :=
  some ((nI 1), Ix_102)
def m_50_b39 (th : Nat) (a0 : Nat) (a1 : Int32) (a2 : Int32) (Rf : ai_R) (G : ai_G) (x4_34 : Int32) (v5_39 : Int32) (I_39 : ai_I) : Option ((Int32 × ai_I) ⊕ ai_I) :=
  if (I_39 a0 2) ≤ v5_39 then (some (Sum.inr I_39)) else (o_g (o_in G 13 (Rf a0 5) v5_39) (o_b1 (some (I_39 (Rf a0 5) v5_39.toNatClampNeg)) (fun x6_55 => if ((x6_55 >>> (a1 &&& 31)) &&& (nI 1)) = a2 then (o_g (o_in G 13 (Rf a0 3) x6_55) (o_g (o_kd G (Rf th 0) 8) (o_b1 (m_113 (Rf th 0) ((x6_55 &&& x4_34) ||| ((x6_55 >>> ((nI 1) &&& 31)) &&& (x4_34 ^^^ (-1 : Int32)))) (I_39 (Rf a0 3) x6_55.toNatClampNeg) I_39 Rf G) (fun I_93 => o_b1 (some (v5_39 + (nI 1))) (fun x5_96 => some (Sum.inl (x5_96, I_93))))))) else (o_b1 (some (v5_39 + (nI 1))) (fun x5_96 => some (Sum.inl (x5_96, I_39)))))))
/-- PricedBases$Maker.isLess(LPricedBases$Valuation;II)Z -/
def m_50 (th : Nat) (a0 : Nat) (a1 : Int32) (a2 : Int32) (I : ai_I) (Rf : ai_R) (G : ai_G) : Option (Int32 × ai_I) :=
  o_g (o_kd G a0 8) (o_b1 (m_120 a0 a1 I) (fun r_2 => if r_2 = 0 then (some ((nI 0), I)) else (o_b2 (m_41 th ((I a0 0) - (nI 1)) ((I a0 1) - a2) I Rf G) (fun r_21 I_21 => if r_21 = 0 then (some ((nI 0), I_21)) else (o_b1 (some (((nI 1) <<< (a1 &&& 31)) - (nI 1))) (fun x4_34 => o_s1 (lp (fun s => m_50_b39 th a0 a1 a2 Rf G x4_34 s.1 s.2) o_N ((nI 0), I_21)) (fun t => m_50_x39_102 t)))))))
theorem md_50 {d : Nat} {I : ai_I} {J : ai_J} {Rf : ai_R} {G : ai_G} {th : Nat} {a0 : Nat} {a1 : Int32} {a2 : Int32} {r : Int32} {I1 : ai_I} (hd : 4 ≤ d) (hth : G.1 th = 3) (h : m_50 th a0 a1 a2 I Rf G = some (r, I1)) : ai_Cl si_t si_ms d 50 [.inr (.inr th), .inr (.inr a0), .inl a1, .inl a2] I J Rf G (some (.inl r)) I1 J Rf G := by
  obtain ⟨e, rfl⟩ : ∃ e, d = e + 1 := ⟨d - 1, by omega⟩
  unfold m_50 at h
  refine sp_in (lo := [some (.inr (.inr th)), some (.inr (.inr a0)), some (.inl a1), some (.inl a2), none, none, none]) (B := (0, 0)) rfl (Nat.le_of_ble_eq_true rfl) rfl rfl ?_
  refine go_aload_n (pc' := 1) rfl rfl rfl ?_
  refine go_iload_n (pc' := 2) rfl rfl rfl ?_
  obtain ⟨g0, h⟩ := o_gE h
  obtain ⟨r_2, q_2, h⟩ := o_b1E h
  refine go_callV (pc' := 5) (B' := (0, 0)) (st' := [.inl r_2]) rfl rfl (Or.inl (by decide)) rfl rfl (o_kdE g0) (md_120 (by omega) (o_kdE g0) q_2) rfl rfl rfl ?_
  refine go_if_eq (pt := 27) (pc' := 8) rfl rfl rfl (fun h5 => ?_) (fun h5 => ?_)
  · replace h := o_t h5 h
    refine go_iconst (pc' := 28) (v := (nI 0)) rfl rfl rfl ?_
    cases h
    exact go_iret rfl (rfl) ⟨rfl, rfl, rfl, rfl, rfl⟩
  · replace h := o_f h5 h
    refine go_aload_n (pc' := 9) rfl rfl rfl ?_
    refine go_aload_n (pc' := 10) rfl rfl rfl ?_
    refine go_getI (pc' := 13) rfl rfl (by decide) (by decide) (o_kdE g0) rfl ?_
    refine go_iconst (pc' := 14) (v := (nI 1)) rfl rfl rfl ?_
    refine go_isub (pc' := 15) rfl rfl ?_
    refine go_aload_n (pc' := 16) rfl rfl rfl ?_
    refine go_getI (pc' := 19) rfl rfl (by decide) (by decide) (o_kdE g0) rfl ?_
    refine go_iload_n (pc' := 20) rfl rfl rfl ?_
    refine go_isub (pc' := 21) rfl rfl ?_
    obtain ⟨r_21, I_21, q_21, h⟩ := o_b2E h
    refine go_callV (pc' := 24) (B' := (0, 0)) (st' := [.inl r_21]) rfl rfl (Or.inl (by decide)) rfl rfl hth (md_41 (by omega) hth q_21) rfl rfl rfl ?_
    refine go_if_ne (pt := 29) (pc' := 27) rfl rfl rfl (fun h24 => ?_) (fun h24 => ?_)
    · replace h := o_f h24 h
      refine go_iconst (pc' := 30) (v := (nI 1)) rfl rfl rfl ?_
      refine go_iload_n (pc' := 31) rfl rfl rfl ?_
      refine go_ishl (pc' := 32) rfl rfl ?_
      refine go_iconst (pc' := 33) (v := (nI 1)) rfl rfl rfl ?_
      refine go_isub (pc' := 34) rfl rfl ?_
      obtain ⟨x4_34, ex4_34, h⟩ := o_b1E h
      refine go_ndI ex4_34 ?_
      refine go_istore (pc' := 36) (lo' := [some (.inr (.inr th)), some (.inr (.inr a0)), some (.inl a1), some (.inl a2), some (.inl x4_34), none, none]) rfl rfl rfl ?_
      refine go_iconst (pc' := 37) (v := (nI 0)) rfl rfl rfl ?_
      refine go_istore (pc' := 39) (lo' := [some (.inr (.inr th)), some (.inr (.inr a0)), some (.inl a1), some (.inl a2), some (.inl x4_34), some (.inl (nI 0)), none]) rfl rfl rfl ?_
      obtain ⟨q39, hl39, hc39_102⟩ := o_s1E h
      have ex39_102 : ∀ (Ix_102 : ai_I) (z5_x102 : Option ai_V) (z6_x102 : Option ai_V), Ix_102 = q39 → ai_Go si_t (3, false, 3, cd_50) (ai_Cl si_t si_ms e) (sp_Q (some (.inl r)) I1 J Rf G) 102 [some (.inr (.inr th)), some (.inr (.inr a0)), some (.inl a1), some (.inl a2), some (.inl x4_34), z5_x102, z6_x102] [] (0, 0) Ix_102 J Rf G := by
        intro Ix_102 z5_x102 z6_x102 hq
        have h : m_50_x39_102 Ix_102 = some (r, I1) := hc39_102 Ix_102 hq.symm
        unfold m_50_x39_102 at h
        refine go_iconst (pc' := 103) (v := (nI 1)) rfl rfl rfl ?_
        cases h
        exact go_iret rfl (rfl) ⟨rfl, rfl, rfl, rfl, rfl⟩
      have lo39 : ∀ n s, lp (fun s => m_50_b39 th a0 a1 a2 Rf G x4_34 s.1 s.2) n s = some q39 → (fun s => ∀ (z6_39 : Option ai_V), ai_Go si_t (3, false, 3, cd_50) (ai_Cl si_t si_ms e) (sp_Q (some (.inl r)) I1 J Rf G) 39 [some (.inr (.inr th)), some (.inr (.inr a0)), some (.inl a1), some (.inl a2), some (.inl x4_34), some (.inl s.1), z6_39] [] (0, 0) s.2 J Rf G) s := lp_go (fun s x39 hx hk39 => by
        obtain ⟨v5_39, I_39⟩ := s
        intro z6_39
        have h : m_50_b39 th a0 a1 a2 Rf G x4_34 v5_39 I_39 = some x39 := hx
        clear hx
        show ai_Go si_t (3, false, 3, cd_50) (ai_Cl si_t si_ms e) (sp_Q (some (.inl r)) I1 J Rf G) 39 [some (.inr (.inr th)), some (.inr (.inr a0)), some (.inl a1), some (.inl a2), some (.inl x4_34), some (.inl v5_39), z6_39] [] (0, 0) I_39 J Rf G
        unfold m_50_b39 at h
        refine go_iload (pc' := 41) rfl rfl rfl ?_
        refine go_aload_n (pc' := 42) rfl rfl rfl ?_
        refine go_getI (pc' := 45) rfl rfl (by decide) (by decide) (o_kdE g0) rfl ?_
        refine go_icmp_ge (pt := 102) (pc' := 48) rfl rfl rfl (fun h45 => ?_) (fun h45 => ?_)
        · replace h := o_t h45 h
          exact ex39_102 _ (some (.inl v5_39)) z6_39 (lp_exitE h hk39)
        · replace h := o_f h45 h
          refine go_aload_n (pc' := 49) rfl rfl rfl ?_
          refine go_getR (pc' := 52) rfl rfl (o_kdE g0) rfl ?_
          refine go_iload (pc' := 54) rfl rfl rfl ?_
          obtain ⟨g1, h⟩ := o_gE h
          refine go_iaload (pc' := 55) rfl (o_inK g1) (o_inB g1) rfl ?_
          obtain ⟨x6_55, ex6_55, h⟩ := o_b1E h
          refine go_ndI ex6_55 ?_
          refine go_istore (pc' := 57) (lo' := [some (.inr (.inr th)), some (.inr (.inr a0)), some (.inl a1), some (.inl a2), some (.inl x4_34), some (.inl v5_39), some (.inl x6_55)]) rfl rfl rfl ?_
          refine go_iload (pc' := 59) rfl rfl rfl ?_
          refine go_iload_n (pc' := 60) rfl rfl rfl ?_
          refine go_ishr (pc' := 61) rfl rfl ?_
          refine go_iconst (pc' := 62) (v := (nI 1)) rfl rfl rfl ?_
          refine go_iand (pc' := 63) rfl rfl ?_
          refine go_iload_n (pc' := 64) rfl rfl rfl ?_
          refine go_icmp_ne (pt := 96) (pc' := 67) rfl rfl rfl (fun h64 => ?_) (fun h64 => ?_)
          · replace h := o_f h64 h
            obtain ⟨x5_96, ex5_96, h⟩ := o_b1E h
            refine go_iincE (pc' := 99) rfl rfl (y := (nI 1)) rfl ex5_96 (lo' := [some (.inr (.inr th)), some (.inr (.inr a0)), some (.inl a1), some (.inl a2), some (.inl x4_34), some (.inl x5_96), some (.inl x6_55)]) rfl rfl ?_
            refine go_goto (pc' := 39) rfl rfl ?_
            exact (lp_backE h hk39 (some (.inl x6_55)) :)
          · replace h := o_t (Decidable.of_not_not h64) h
            refine go_aload_n (pc' := 68) rfl rfl rfl ?_
            refine go_getR (pc' := 71) rfl rfl hth rfl ?_
            refine go_iload (pc' := 73) rfl rfl rfl ?_
            refine go_iload (pc' := 75) rfl rfl rfl ?_
            refine go_iand (pc' := 76) rfl rfl ?_
            refine go_iload (pc' := 78) rfl rfl rfl ?_
            refine go_iconst (pc' := 79) (v := (nI 1)) rfl rfl rfl ?_
            refine go_ishr (pc' := 80) rfl rfl ?_
            refine go_iload (pc' := 82) rfl rfl rfl ?_
            refine go_iconst (pc' := 83) (v := (-1 : Int32)) rfl rfl rfl ?_
            refine go_ixor (pc' := 84) rfl rfl ?_
            refine go_iand (pc' := 85) rfl rfl ?_
            refine go_ior (pc' := 86) rfl rfl ?_
            refine go_aload_n (pc' := 87) rfl rfl rfl ?_
            refine go_getR (pc' := 90) rfl rfl (o_kdE g0) rfl ?_
            refine go_iload (pc' := 92) rfl rfl rfl ?_
            obtain ⟨g2, h⟩ := o_gE h
            refine go_iaload (pc' := 93) rfl (o_inK g2) (o_inB g2) rfl ?_
            obtain ⟨g3, h⟩ := o_gE h
            obtain ⟨I_93, q_93, h⟩ := o_b1E h
            refine go_callV (pc' := 96) (B' := (0, 0)) (st' := []) rfl rfl (Or.inl (by decide)) rfl rfl (o_kdE g3) (md_113 (by omega) (o_kdE g3) q_93) rfl rfl rfl ?_
            obtain ⟨x5_96, ex5_96, h⟩ := o_b1E h
            refine go_iincE (pc' := 99) rfl rfl (y := (nI 1)) rfl ex5_96 (lo' := [some (.inr (.inr th)), some (.inr (.inr a0)), some (.inl a1), some (.inl a2), some (.inl x4_34), some (.inl x5_96), some (.inl x6_55)]) rfl rfl ?_
            refine go_goto (pc' := 39) rfl rfl ?_
            exact (lp_backE h hk39 (some (.inl x6_55)) :))
      exact lo39 _ ((nI 0), I_21) hl39 none
    · replace h := o_t (Decidable.of_not_not h24) h
      refine go_iconst (pc' := 28) (v := (nI 0)) rfl rfl rfl ?_
      cases h
      exact go_iret rfl (rfl) ⟨rfl, rfl, rfl, rfl, rfl⟩
def m_51_x19_64 (Ix_64 : ai_I) : Option (Int32 × ai_I) :=
  some ((nI 1), Ix_64)
def m_51_b19 (th : Nat) (a0 : Nat) (a1 : Nat) (Rf : ai_R) (G : ai_G) (v3_19 : Int32) (I_19 : ai_I) : Option ((Int32 × ai_I) ⊕ ai_I) :=
  if (I_19 a0 2) ≤ v3_19 then (some (Sum.inr I_19)) else (o_g (o_in G 13 (Rf a0 5) v3_19) (o_b1 (some (I_19 (Rf a0 5) v3_19.toNatClampNeg)) (fun x4_33 => o_g (o_in G 13 (Rf a0 3) x4_33) (o_b1 (m_102 x4_33 a1 I_19 G) (fun r_51 => o_g (o_kd G (Rf th 0) 8) (o_b1 (m_113 (Rf th 0) x4_33 ((I_19 (Rf a0 3) x4_33.toNatClampNeg) + r_51) I_19 Rf G) (fun I_55 => o_b1 (some (v3_19 + (nI 1))) (fun x3_58 => some (Sum.inl (x3_58, I_55))))))))))
/-- PricedBases$Maker.isShifted(LPricedBases$Valuation;[I)Z -/
def m_51 (th : Nat) (a0 : Nat) (a1 : Nat) (I : ai_I) (Rf : ai_R) (G : ai_G) : Option (Int32 × ai_I) :=
  o_g (o_kd G a0 8) (o_b2 (m_41 th (I a0 0) (I a0 1) I Rf G) (fun r_9 I_9 => if r_9 = 0 then (some ((nI 0), I_9)) else (o_s1 (lp (fun s => m_51_b19 th a0 a1 Rf G s.1 s.2) o_N ((nI 0), I_9)) (fun t => m_51_x19_64 t))))
theorem md_51 {d : Nat} {I : ai_I} {J : ai_J} {Rf : ai_R} {G : ai_G} {th : Nat} {a0 : Nat} {a1 : Nat} {r : Int32} {I1 : ai_I} (hd : 4 ≤ d) (hth : G.1 th = 3) (h : m_51 th a0 a1 I Rf G = some (r, I1)) : ai_Cl si_t si_ms d 51 [.inr (.inr th), .inr (.inr a0), .inr (.inr a1)] I J Rf G (some (.inl r)) I1 J Rf G := by
  obtain ⟨e, rfl⟩ : ∃ e, d = e + 1 := ⟨d - 1, by omega⟩
  unfold m_51 at h
  refine sp_in (lo := [some (.inr (.inr th)), some (.inr (.inr a0)), some (.inr (.inr a1)), none, none]) (B := (0, 0)) rfl (Nat.le_of_ble_eq_true rfl) rfl rfl ?_
  refine go_aload_n (pc' := 1) rfl rfl rfl ?_
  refine go_aload_n (pc' := 2) rfl rfl rfl ?_
  obtain ⟨g0, h⟩ := o_gE h
  refine go_getI (pc' := 5) rfl rfl (by decide) (by decide) (o_kdE g0) rfl ?_
  refine go_aload_n (pc' := 6) rfl rfl rfl ?_
  refine go_getI (pc' := 9) rfl rfl (by decide) (by decide) (o_kdE g0) rfl ?_
  obtain ⟨r_9, I_9, q_9, h⟩ := o_b2E h
  refine go_callV (pc' := 12) (B' := (0, 0)) (st' := [.inl r_9]) rfl rfl (Or.inl (by decide)) rfl rfl hth (md_41 (by omega) hth q_9) rfl rfl rfl ?_
  refine go_if_ne (pt := 17) (pc' := 15) rfl rfl rfl (fun h12 => ?_) (fun h12 => ?_)
  · replace h := o_f h12 h
    refine go_iconst (pc' := 18) (v := (nI 0)) rfl rfl rfl ?_
    refine go_istore_n (pc' := 19) (lo' := [some (.inr (.inr th)), some (.inr (.inr a0)), some (.inr (.inr a1)), some (.inl (nI 0)), none]) rfl rfl rfl ?_
    obtain ⟨q19, hl19, hc19_64⟩ := o_s1E h
    have ex19_64 : ∀ (Ix_64 : ai_I) (z3_x64 : Option ai_V) (z4_x64 : Option ai_V), Ix_64 = q19 → ai_Go si_t (3, false, 3, cd_51) (ai_Cl si_t si_ms e) (sp_Q (some (.inl r)) I1 J Rf G) 64 [some (.inr (.inr th)), some (.inr (.inr a0)), some (.inr (.inr a1)), z3_x64, z4_x64] [] (0, 0) Ix_64 J Rf G := by
      intro Ix_64 z3_x64 z4_x64 hq
      have h : m_51_x19_64 Ix_64 = some (r, I1) := hc19_64 Ix_64 hq.symm
      unfold m_51_x19_64 at h
      refine go_iconst (pc' := 65) (v := (nI 1)) rfl rfl rfl ?_
      cases h
      exact go_iret rfl (rfl) ⟨rfl, rfl, rfl, rfl, rfl⟩
    have lo19 : ∀ n s, lp (fun s => m_51_b19 th a0 a1 Rf G s.1 s.2) n s = some q19 → (fun s => ∀ (z4_19 : Option ai_V), ai_Go si_t (3, false, 3, cd_51) (ai_Cl si_t si_ms e) (sp_Q (some (.inl r)) I1 J Rf G) 19 [some (.inr (.inr th)), some (.inr (.inr a0)), some (.inr (.inr a1)), some (.inl s.1), z4_19] [] (0, 0) s.2 J Rf G) s := lp_go (fun s x19 hx hk19 => by
      obtain ⟨v3_19, I_19⟩ := s
      intro z4_19
      have h : m_51_b19 th a0 a1 Rf G v3_19 I_19 = some x19 := hx
      clear hx
      show ai_Go si_t (3, false, 3, cd_51) (ai_Cl si_t si_ms e) (sp_Q (some (.inl r)) I1 J Rf G) 19 [some (.inr (.inr th)), some (.inr (.inr a0)), some (.inr (.inr a1)), some (.inl v3_19), z4_19] [] (0, 0) I_19 J Rf G
      unfold m_51_b19 at h
      refine go_iload_n (pc' := 20) rfl rfl rfl ?_
      refine go_aload_n (pc' := 21) rfl rfl rfl ?_
      refine go_getI (pc' := 24) rfl rfl (by decide) (by decide) (o_kdE g0) rfl ?_
      refine go_icmp_ge (pt := 64) (pc' := 27) rfl rfl rfl (fun h24 => ?_) (fun h24 => ?_)
      · replace h := o_t h24 h
        exact ex19_64 _ (some (.inl v3_19)) z4_19 (lp_exitE h hk19)
      · replace h := o_f h24 h
        refine go_aload_n (pc' := 28) rfl rfl rfl ?_
        refine go_getR (pc' := 31) rfl rfl (o_kdE g0) rfl ?_
        refine go_iload_n (pc' := 32) rfl rfl rfl ?_
        obtain ⟨g1, h⟩ := o_gE h
        refine go_iaload (pc' := 33) rfl (o_inK g1) (o_inB g1) rfl ?_
        obtain ⟨x4_33, ex4_33, h⟩ := o_b1E h
        refine go_ndI ex4_33 ?_
        refine go_istore (pc' := 35) (lo' := [some (.inr (.inr th)), some (.inr (.inr a0)), some (.inr (.inr a1)), some (.inl v3_19), some (.inl x4_33)]) rfl rfl rfl ?_
        refine go_aload_n (pc' := 36) rfl rfl rfl ?_
        refine go_getR (pc' := 39) rfl rfl hth rfl ?_
        refine go_iload (pc' := 41) rfl rfl rfl ?_
        refine go_aload_n (pc' := 42) rfl rfl rfl ?_
        refine go_getR (pc' := 45) rfl rfl (o_kdE g0) rfl ?_
        refine go_iload (pc' := 47) rfl rfl rfl ?_
        obtain ⟨g2, h⟩ := o_gE h
        refine go_iaload (pc' := 48) rfl (o_inK g2) (o_inB g2) rfl ?_
        refine go_iload (pc' := 50) rfl rfl rfl ?_
        refine go_aload_n (pc' := 51) rfl rfl rfl ?_
        obtain ⟨r_51, q_51, h⟩ := o_b1E h
        refine go_callS (pc' := 54) (B' := (0, 0)) (st' := [.inl r_51, .inl (I_19 (Rf a0 3) x4_33.toNatClampNeg), .inl x4_33, .inr (.inr (Rf th 0))]) rfl rfl (Or.inl (by decide)) rfl rfl trivial (md_102 (by omega) q_51) rfl rfl rfl ?_
        refine go_iadd (pc' := 55) rfl rfl ?_
        obtain ⟨g3, h⟩ := o_gE h
        obtain ⟨I_55, q_55, h⟩ := o_b1E h
        refine go_callV (pc' := 58) (B' := (0, 0)) (st' := []) rfl rfl (Or.inl (by decide)) rfl rfl (o_kdE g3) (md_113 (by omega) (o_kdE g3) q_55) rfl rfl rfl ?_
        obtain ⟨x3_58, ex3_58, h⟩ := o_b1E h
        refine go_iincE (pc' := 61) rfl rfl (y := (nI 1)) rfl ex3_58 (lo' := [some (.inr (.inr th)), some (.inr (.inr a0)), some (.inr (.inr a1)), some (.inl x3_58), some (.inl x4_33)]) rfl rfl ?_
        refine go_goto (pc' := 19) rfl rfl ?_
        exact (lp_backE h hk19 (some (.inl x4_33)) :))
    exact lo19 _ ((nI 0), I_9) hl19 none
  · replace h := o_t (Decidable.of_not_not h12) h
    refine go_iconst (pc' := 16) (v := (nI 0)) rfl rfl rfl ?_
    cases h
    exact go_iret rfl (rfl) ⟨rfl, rfl, rfl, rfl, rfl⟩
def m_52_x33_114 (Ix_114 : ai_I) : Option (Int32 × ai_I) :=
  some ((nI 1), Ix_114)
def m_52_x44_108 (v3_33 : Int32) (Ix_108 : ai_I) : Option ((Int32 × ai_I) ⊕ ai_I) :=
  o_b1 (some (v3_33 + (nI 1))) (fun x3_108 => some (Sum.inl (x3_108, Ix_108)))
def m_52_b44 (th : Nat) (a0 : Nat) (a1 : Nat) (Rf : ai_R) (G : ai_G) (v3_33 : Int32) (v4_44 : Int32) (I_44 : ai_I) : Option ((Int32 × ai_I) ⊕ ai_I) :=
  if (I_44 a1 2) ≤ v4_44 then (some (Sum.inr I_44)) else (o_g (o_in G 13 (Rf a0 5) v3_33) (o_b1 (some (I_44 (Rf a0 5) v3_33.toNatClampNeg)) (fun x5_59 => o_g (o_in G 13 (Rf a1 5) v4_44) (o_b1 (some (I_44 (Rf a1 5) v4_44.toNatClampNeg)) (fun x6_68 => o_g (o_in G 13 (Rf a0 3) x5_59) (o_g (o_in G 13 (Rf a1 3) x6_68) (o_g (o_kd G (Rf th 0) 8) (o_b1 (m_113 (Rf th 0) (x5_59 ||| (x6_68 <<< ((I_44 a0 0) &&& 31))) ((I_44 (Rf a0 3) x5_59.toNatClampNeg) + (I_44 (Rf a1 3) x6_68.toNatClampNeg)) I_44 Rf G) (fun I_99 => o_b1 (some (v4_44 + (nI 1))) (fun x4_102 => some (Sum.inl (x4_102, I_99))))))))))))
def m_52_b33 (th : Nat) (a0 : Nat) (a1 : Nat) (Rf : ai_R) (G : ai_G) (v3_33 : Int32) (I_33 : ai_I) : Option ((Int32 × ai_I) ⊕ ai_I) :=
  if (I_33 a0 2) ≤ v3_33 then (some (Sum.inr I_33)) else (o_s1 (lp (fun s => m_52_b44 th a0 a1 Rf G v3_33 s.1 s.2) o_N ((nI 0), I_33)) (fun t => m_52_x44_108 v3_33 t))
/-- PricedBases$Maker.isPlus(LPricedBases$Valuation;LPricedBases$Valuation;)Z -/
def m_52 (th : Nat) (a0 : Nat) (a1 : Nat) (I : ai_I) (Rf : ai_R) (G : ai_G) : Option (Int32 × ai_I) :=
  if a1 = 0 then (some ((nI 0), I)) else (o_g (o_kd G a0 8) (o_g (o_kd G a1 8) (o_b2 (m_41 th ((I a0 0) + (I a1 0)) ((I a0 1) + (I a1 1)) I Rf G) (fun r_23 I_23 => if r_23 = 0 then (some ((nI 0), I_23)) else (o_s1 (lp (fun s => m_52_b33 th a0 a1 Rf G s.1 s.2) o_N ((nI 0), I_23)) (fun t => m_52_x33_114 t))))))
theorem md_52 {d : Nat} {I : ai_I} {J : ai_J} {Rf : ai_R} {G : ai_G} {th : Nat} {a0 : Nat} {a1 : Nat} {r : Int32} {I1 : ai_I} (hd : 4 ≤ d) (hth : G.1 th = 3) (h : m_52 th a0 a1 I Rf G = some (r, I1)) : ai_Cl si_t si_ms d 52 [.inr (.inr th), .inr (.inr a0), .inr (.inr a1)] I J Rf G (some (.inl r)) I1 J Rf G := by
  obtain ⟨e, rfl⟩ : ∃ e, d = e + 1 := ⟨d - 1, by omega⟩
  unfold m_52 at h
  refine sp_in (lo := [some (.inr (.inr th)), some (.inr (.inr a0)), some (.inr (.inr a1)), none, none, none, none]) (B := (0, 0)) rfl (Nat.le_of_ble_eq_true rfl) rfl rfl ?_
  refine go_aload_n (pc' := 1) rfl rfl rfl ?_
  refine go_ifnull (pt := 29) (pc' := 4) rfl rfl rfl (fun h1 => ?_) (fun h1 => ?_)
  · replace h := o_t h1 h
    refine go_iconst (pc' := 30) (v := (nI 0)) rfl rfl rfl ?_
    cases h
    exact go_iret rfl (rfl) ⟨rfl, rfl, rfl, rfl, rfl⟩
  · replace h := o_f h1 h
    refine go_aload_n (pc' := 5) rfl rfl rfl ?_
    refine go_aload_n (pc' := 6) rfl rfl rfl ?_
    obtain ⟨g0, h⟩ := o_gE h
    refine go_getI (pc' := 9) rfl rfl (by decide) (by decide) (o_kdE g0) rfl ?_
    refine go_aload_n (pc' := 10) rfl rfl rfl ?_
    obtain ⟨g1, h⟩ := o_gE h
    refine go_getI (pc' := 13) rfl rfl (by decide) (by decide) (o_kdE g1) rfl ?_
    refine go_iadd (pc' := 14) rfl rfl ?_
    refine go_aload_n (pc' := 15) rfl rfl rfl ?_
    refine go_getI (pc' := 18) rfl rfl (by decide) (by decide) (o_kdE g0) rfl ?_
    refine go_aload_n (pc' := 19) rfl rfl rfl ?_
    refine go_getI (pc' := 22) rfl rfl (by decide) (by decide) (o_kdE g1) rfl ?_
    refine go_iadd (pc' := 23) rfl rfl ?_
    obtain ⟨r_23, I_23, q_23, h⟩ := o_b2E h
    refine go_callV (pc' := 26) (B' := (0, 0)) (st' := [.inl r_23]) rfl rfl (Or.inl (by decide)) rfl rfl hth (md_41 (by omega) hth q_23) rfl rfl rfl ?_
    refine go_if_ne (pt := 31) (pc' := 29) rfl rfl rfl (fun h26 => ?_) (fun h26 => ?_)
    · replace h := o_f h26 h
      refine go_iconst (pc' := 32) (v := (nI 0)) rfl rfl rfl ?_
      refine go_istore_n (pc' := 33) (lo' := [some (.inr (.inr th)), some (.inr (.inr a0)), some (.inr (.inr a1)), some (.inl (nI 0)), none, none, none]) rfl rfl rfl ?_
      obtain ⟨q33, hl33, hc33_114⟩ := o_s1E h
      have ex33_114 : ∀ (Ix_114 : ai_I) (z3_x114 : Option ai_V) (z4_x114 : Option ai_V) (z5_x114 : Option ai_V) (z6_x114 : Option ai_V), Ix_114 = q33 → ai_Go si_t (3, false, 3, cd_52) (ai_Cl si_t si_ms e) (sp_Q (some (.inl r)) I1 J Rf G) 114 [some (.inr (.inr th)), some (.inr (.inr a0)), some (.inr (.inr a1)), z3_x114, z4_x114, z5_x114, z6_x114] [] (0, 0) Ix_114 J Rf G := by
        intro Ix_114 z3_x114 z4_x114 z5_x114 z6_x114 hq
        have h : m_52_x33_114 Ix_114 = some (r, I1) := hc33_114 Ix_114 hq.symm
        unfold m_52_x33_114 at h
        refine go_iconst (pc' := 115) (v := (nI 1)) rfl rfl rfl ?_
        cases h
        exact go_iret rfl (rfl) ⟨rfl, rfl, rfl, rfl, rfl⟩
      have lo33 : ∀ n s, lp (fun s => m_52_b33 th a0 a1 Rf G s.1 s.2) n s = some q33 → (fun s => ∀ (z4_33 : Option ai_V) (z5_33 : Option ai_V) (z6_33 : Option ai_V), ai_Go si_t (3, false, 3, cd_52) (ai_Cl si_t si_ms e) (sp_Q (some (.inl r)) I1 J Rf G) 33 [some (.inr (.inr th)), some (.inr (.inr a0)), some (.inr (.inr a1)), some (.inl s.1), z4_33, z5_33, z6_33] [] (0, 0) s.2 J Rf G) s := lp_go (fun s x33 hx hk33 => by
        obtain ⟨v3_33, I_33⟩ := s
        intro z4_33 z5_33 z6_33
        have h : m_52_b33 th a0 a1 Rf G v3_33 I_33 = some x33 := hx
        clear hx
        show ai_Go si_t (3, false, 3, cd_52) (ai_Cl si_t si_ms e) (sp_Q (some (.inl r)) I1 J Rf G) 33 [some (.inr (.inr th)), some (.inr (.inr a0)), some (.inr (.inr a1)), some (.inl v3_33), z4_33, z5_33, z6_33] [] (0, 0) I_33 J Rf G
        unfold m_52_b33 at h
        refine go_iload_n (pc' := 34) rfl rfl rfl ?_
        refine go_aload_n (pc' := 35) rfl rfl rfl ?_
        refine go_getI (pc' := 38) rfl rfl (by decide) (by decide) (o_kdE g0) rfl ?_
        refine go_icmp_ge (pt := 114) (pc' := 41) rfl rfl rfl (fun h38 => ?_) (fun h38 => ?_)
        · replace h := o_t h38 h
          exact ex33_114 _ (some (.inl v3_33)) z4_33 z5_33 z6_33 (lp_exitE h hk33)
        · replace h := o_f h38 h
          refine go_iconst (pc' := 42) (v := (nI 0)) rfl rfl rfl ?_
          refine go_istore (pc' := 44) (lo' := [some (.inr (.inr th)), some (.inr (.inr a0)), some (.inr (.inr a1)), some (.inl v3_33), some (.inl (nI 0)), z5_33, z6_33]) rfl rfl rfl ?_
          obtain ⟨q44, hl44, hc44_108⟩ := o_s1E h
          have ex44_108 : ∀ (Ix_108 : ai_I) (z4_x108 : Option ai_V) (z5_x108 : Option ai_V) (z6_x108 : Option ai_V), Ix_108 = q44 → ai_Go si_t (3, false, 3, cd_52) (ai_Cl si_t si_ms e) (sp_Q (some (.inl r)) I1 J Rf G) 108 [some (.inr (.inr th)), some (.inr (.inr a0)), some (.inr (.inr a1)), some (.inl v3_33), z4_x108, z5_x108, z6_x108] [] (0, 0) Ix_108 J Rf G := by
            intro Ix_108 z4_x108 z5_x108 z6_x108 hq
            have h : m_52_x44_108 v3_33 Ix_108 = some x33 := hc44_108 Ix_108 hq.symm
            unfold m_52_x44_108 at h
            obtain ⟨x3_108, ex3_108, h⟩ := o_b1E h
            refine go_iincE (pc' := 111) rfl rfl (y := (nI 1)) rfl ex3_108 (lo' := [some (.inr (.inr th)), some (.inr (.inr a0)), some (.inr (.inr a1)), some (.inl x3_108), z4_x108, z5_x108, z6_x108]) rfl rfl ?_
            refine go_goto (pc' := 33) rfl rfl ?_
            exact (lp_backE h hk33 z4_x108 z5_x108 z6_x108 :)
          have lo44 : ∀ n s, lp (fun s => m_52_b44 th a0 a1 Rf G v3_33 s.1 s.2) n s = some q44 → (fun s => ∀ (z5_44 : Option ai_V) (z6_44 : Option ai_V), ai_Go si_t (3, false, 3, cd_52) (ai_Cl si_t si_ms e) (sp_Q (some (.inl r)) I1 J Rf G) 44 [some (.inr (.inr th)), some (.inr (.inr a0)), some (.inr (.inr a1)), some (.inl v3_33), some (.inl s.1), z5_44, z6_44] [] (0, 0) s.2 J Rf G) s := lp_go (fun s x44 hx hk44 => by
            obtain ⟨v4_44, I_44⟩ := s
            intro z5_44 z6_44
            have h : m_52_b44 th a0 a1 Rf G v3_33 v4_44 I_44 = some x44 := hx
            clear hx
            show ai_Go si_t (3, false, 3, cd_52) (ai_Cl si_t si_ms e) (sp_Q (some (.inl r)) I1 J Rf G) 44 [some (.inr (.inr th)), some (.inr (.inr a0)), some (.inr (.inr a1)), some (.inl v3_33), some (.inl v4_44), z5_44, z6_44] [] (0, 0) I_44 J Rf G
            unfold m_52_b44 at h
            refine go_iload (pc' := 46) rfl rfl rfl ?_
            refine go_aload_n (pc' := 47) rfl rfl rfl ?_
            refine go_getI (pc' := 50) rfl rfl (by decide) (by decide) (o_kdE g1) rfl ?_
            refine go_icmp_ge (pt := 108) (pc' := 53) rfl rfl rfl (fun h50 => ?_) (fun h50 => ?_)
            · replace h := o_t h50 h
              exact ex44_108 _ (some (.inl v4_44)) z5_44 z6_44 (lp_exitE h hk44)
            · replace h := o_f h50 h
              refine go_aload_n (pc' := 54) rfl rfl rfl ?_
              refine go_getR (pc' := 57) rfl rfl (o_kdE g0) rfl ?_
              refine go_iload_n (pc' := 58) rfl rfl rfl ?_
              obtain ⟨g2, h⟩ := o_gE h
              refine go_iaload (pc' := 59) rfl (o_inK g2) (o_inB g2) rfl ?_
              obtain ⟨x5_59, ex5_59, h⟩ := o_b1E h
              refine go_ndI ex5_59 ?_
              refine go_istore (pc' := 61) (lo' := [some (.inr (.inr th)), some (.inr (.inr a0)), some (.inr (.inr a1)), some (.inl v3_33), some (.inl v4_44), some (.inl x5_59), z6_44]) rfl rfl rfl ?_
              refine go_aload_n (pc' := 62) rfl rfl rfl ?_
              refine go_getR (pc' := 65) rfl rfl (o_kdE g1) rfl ?_
              refine go_iload (pc' := 67) rfl rfl rfl ?_
              obtain ⟨g3, h⟩ := o_gE h
              refine go_iaload (pc' := 68) rfl (o_inK g3) (o_inB g3) rfl ?_
              obtain ⟨x6_68, ex6_68, h⟩ := o_b1E h
              refine go_ndI ex6_68 ?_
              refine go_istore (pc' := 70) (lo' := [some (.inr (.inr th)), some (.inr (.inr a0)), some (.inr (.inr a1)), some (.inl v3_33), some (.inl v4_44), some (.inl x5_59), some (.inl x6_68)]) rfl rfl rfl ?_
              refine go_aload_n (pc' := 71) rfl rfl rfl ?_
              refine go_getR (pc' := 74) rfl rfl hth rfl ?_
              refine go_iload (pc' := 76) rfl rfl rfl ?_
              refine go_iload (pc' := 78) rfl rfl rfl ?_
              refine go_aload_n (pc' := 79) rfl rfl rfl ?_
              refine go_getI (pc' := 82) rfl rfl (by decide) (by decide) (o_kdE g0) rfl ?_
              refine go_ishl (pc' := 83) rfl rfl ?_
              refine go_ior (pc' := 84) rfl rfl ?_
              refine go_aload_n (pc' := 85) rfl rfl rfl ?_
              refine go_getR (pc' := 88) rfl rfl (o_kdE g0) rfl ?_
              refine go_iload (pc' := 90) rfl rfl rfl ?_
              obtain ⟨g4, h⟩ := o_gE h
              refine go_iaload (pc' := 91) rfl (o_inK g4) (o_inB g4) rfl ?_
              refine go_aload_n (pc' := 92) rfl rfl rfl ?_
              refine go_getR (pc' := 95) rfl rfl (o_kdE g1) rfl ?_
              refine go_iload (pc' := 97) rfl rfl rfl ?_
              obtain ⟨g5, h⟩ := o_gE h
              refine go_iaload (pc' := 98) rfl (o_inK g5) (o_inB g5) rfl ?_
              refine go_iadd (pc' := 99) rfl rfl ?_
              obtain ⟨g6, h⟩ := o_gE h
              obtain ⟨I_99, q_99, h⟩ := o_b1E h
              refine go_callV (pc' := 102) (B' := (0, 0)) (st' := []) rfl rfl (Or.inl (by decide)) rfl rfl (o_kdE g6) (md_113 (by omega) (o_kdE g6) q_99) rfl rfl rfl ?_
              obtain ⟨x4_102, ex4_102, h⟩ := o_b1E h
              refine go_iincE (pc' := 105) rfl rfl (y := (nI 1)) rfl ex4_102 (lo' := [some (.inr (.inr th)), some (.inr (.inr a0)), some (.inr (.inr a1)), some (.inl v3_33), some (.inl x4_102), some (.inl x5_59), some (.inl x6_68)]) rfl rfl ?_
              refine go_goto (pc' := 44) rfl rfl ?_
              exact (lp_backE h hk44 (some (.inl x5_59)) (some (.inl x6_68)) :))
          exact lo44 _ ((nI 0), I_33) hl44 z5_33 z6_33)
      exact lo33 _ ((nI 0), I_23) hl33 none none none
    · replace h := o_t (Decidable.of_not_not h26) h
      refine go_iconst (pc' := 30) (v := (nI 0)) rfl rfl rfl ?_
      cases h
      exact go_iret rfl (rfl) ⟨rfl, rfl, rfl, rfl, rfl⟩
def m_55_x2_74 (Ix_74 : ai_I) : Option (ai_I) :=
  some Ix_74
def m_55_x21_68 (v3_2 : Int32) (Ix_68 : ai_I) : Option ((Int32 × ai_I) ⊕ ai_I) :=
  o_b1 (some (v3_2 + (nI 1))) (fun x3_68 => some (Sum.inl (x3_68, Ix_68)))
def m_55_b21 (th : Nat) (a0 : Nat) (a1 : Int32) (Rf : ai_R) (G : ai_G) (x4_16 : Int32) (v5_21 : Int32) (I_21 : ai_I) : Option ((Int32 × ai_I) ⊕ ai_I) :=
  if (I_21 a0 0) ≤ v5_21 then (some (Sum.inr I_21)) else (o_b1 (m_183 x4_16 v5_21) (fun r_34 => if r_34 = a1 then (o_g (o_in G 13 (Rf a0 3) x4_16) (o_g (o_kd G (Rf th 0) 8) (o_b1 (m_113 (Rf th 0) (x4_16 ^^^ ((nI 1) <<< (v5_21 &&& 31))) (I_21 (Rf a0 3) x4_16.toNatClampNeg) I_21 Rf G) (fun I_59 => o_b1 (some (v5_21 + (nI 1))) (fun x5_62 => some (Sum.inl (x5_62, I_59))))))) else (o_b1 (some (v5_21 + (nI 1))) (fun x5_62 => some (Sum.inl (x5_62, I_21))))))
def m_55_b2 (th : Nat) (a0 : Nat) (a1 : Int32) (Rf : ai_R) (G : ai_G) (v3_2 : Int32) (I_2 : ai_I) : Option ((Int32 × ai_I) ⊕ ai_I) :=
  o_g (o_kd G a0 8) (if (I_2 a0 2) ≤ v3_2 then (some (Sum.inr I_2)) else (o_g (o_in G 13 (Rf a0 5) v3_2) (o_b1 (some (I_2 (Rf a0 5) v3_2.toNatClampNeg)) (fun x4_16 => o_s1 (lp (fun s => m_55_b21 th a0 a1 Rf G x4_16 s.1 s.2) o_N ((nI 0), I_2)) (fun t => m_55_x21_68 v3_2 t)))))
/-- PricedBases$Maker.offerBeside(LPricedBases$Valuation;Z)V -/
def m_55 (th : Nat) (a0 : Nat) (a1 : Int32) (I : ai_I) (Rf : ai_R) (G : ai_G) : Option (ai_I) :=
  o_s1 (lp (fun s => m_55_b2 th a0 a1 Rf G s.1 s.2) o_N ((nI 0), I)) (fun t => m_55_x2_74 t)
theorem md_55 {d : Nat} {I : ai_I} {J : ai_J} {Rf : ai_R} {G : ai_G} {th : Nat} {a0 : Nat} {a1 : Int32} {I1 : ai_I} (hd : 2 ≤ d) (hth : G.1 th = 3) (h : m_55 th a0 a1 I Rf G = some I1) : ai_Cl si_t si_ms d 55 [.inr (.inr th), .inr (.inr a0), .inl a1] I J Rf G none I1 J Rf G := by
  obtain ⟨e, rfl⟩ : ∃ e, d = e + 1 := ⟨d - 1, by omega⟩
  unfold m_55 at h
  refine sp_in (lo := [some (.inr (.inr th)), some (.inr (.inr a0)), some (.inl a1), none, none, none]) (B := (0, 0)) rfl (Nat.le_of_ble_eq_true rfl) rfl rfl ?_
  refine go_iconst (pc' := 1) (v := (nI 0)) rfl rfl rfl ?_
  refine go_istore_n (pc' := 2) (lo' := [some (.inr (.inr th)), some (.inr (.inr a0)), some (.inl a1), some (.inl (nI 0)), none, none]) rfl rfl rfl ?_
  obtain ⟨q2, hl2, hc2_74⟩ := o_s1E h
  have ex2_74 : ∀ (Ix_74 : ai_I) (z3_x74 : Option ai_V) (z4_x74 : Option ai_V) (z5_x74 : Option ai_V), Ix_74 = q2 → ai_Go si_t (3, false, 9, cd_55) (ai_Cl si_t si_ms e) (sp_Q none I1 J Rf G) 74 [some (.inr (.inr th)), some (.inr (.inr a0)), some (.inl a1), z3_x74, z4_x74, z5_x74] [] (0, 0) Ix_74 J Rf G := by
    intro Ix_74 z3_x74 z4_x74 z5_x74 hq
    have h : m_55_x2_74 Ix_74 = some I1 := hc2_74 Ix_74 hq.symm
    unfold m_55_x2_74 at h
    cases h
    exact go_vret rfl (rfl) ⟨rfl, rfl, rfl, rfl, rfl⟩
  have lo2 : ∀ n s, lp (fun s => m_55_b2 th a0 a1 Rf G s.1 s.2) n s = some q2 → (fun s => ∀ (z4_2 : Option ai_V) (z5_2 : Option ai_V), ai_Go si_t (3, false, 9, cd_55) (ai_Cl si_t si_ms e) (sp_Q none I1 J Rf G) 2 [some (.inr (.inr th)), some (.inr (.inr a0)), some (.inl a1), some (.inl s.1), z4_2, z5_2] [] (0, 0) s.2 J Rf G) s := lp_go (fun s x2 hx hk2 => by
    obtain ⟨v3_2, I_2⟩ := s
    intro z4_2 z5_2
    have h : m_55_b2 th a0 a1 Rf G v3_2 I_2 = some x2 := hx
    clear hx
    show ai_Go si_t (3, false, 9, cd_55) (ai_Cl si_t si_ms e) (sp_Q none I1 J Rf G) 2 [some (.inr (.inr th)), some (.inr (.inr a0)), some (.inl a1), some (.inl v3_2), z4_2, z5_2] [] (0, 0) I_2 J Rf G
    unfold m_55_b2 at h
    refine go_iload_n (pc' := 3) rfl rfl rfl ?_
    refine go_aload_n (pc' := 4) rfl rfl rfl ?_
    obtain ⟨g0, h⟩ := o_gE h
    refine go_getI (pc' := 7) rfl rfl (by decide) (by decide) (o_kdE g0) rfl ?_
    refine go_icmp_ge (pt := 74) (pc' := 10) rfl rfl rfl (fun h7 => ?_) (fun h7 => ?_)
    · replace h := o_t h7 h
      exact ex2_74 _ (some (.inl v3_2)) z4_2 z5_2 (lp_exitE h hk2)
    · replace h := o_f h7 h
      refine go_aload_n (pc' := 11) rfl rfl rfl ?_
      refine go_getR (pc' := 14) rfl rfl (o_kdE g0) rfl ?_
      refine go_iload_n (pc' := 15) rfl rfl rfl ?_
      obtain ⟨g1, h⟩ := o_gE h
      refine go_iaload (pc' := 16) rfl (o_inK g1) (o_inB g1) rfl ?_
      obtain ⟨x4_16, ex4_16, h⟩ := o_b1E h
      refine go_ndI ex4_16 ?_
      refine go_istore (pc' := 18) (lo' := [some (.inr (.inr th)), some (.inr (.inr a0)), some (.inl a1), some (.inl v3_2), some (.inl x4_16), z5_2]) rfl rfl rfl ?_
      refine go_iconst (pc' := 19) (v := (nI 0)) rfl rfl rfl ?_
      refine go_istore (pc' := 21) (lo' := [some (.inr (.inr th)), some (.inr (.inr a0)), some (.inl a1), some (.inl v3_2), some (.inl x4_16), some (.inl (nI 0))]) rfl rfl rfl ?_
      obtain ⟨q21, hl21, hc21_68⟩ := o_s1E h
      have ex21_68 : ∀ (Ix_68 : ai_I) (z5_x68 : Option ai_V), Ix_68 = q21 → ai_Go si_t (3, false, 9, cd_55) (ai_Cl si_t si_ms e) (sp_Q none I1 J Rf G) 68 [some (.inr (.inr th)), some (.inr (.inr a0)), some (.inl a1), some (.inl v3_2), some (.inl x4_16), z5_x68] [] (0, 0) Ix_68 J Rf G := by
        intro Ix_68 z5_x68 hq
        have h : m_55_x21_68 v3_2 Ix_68 = some x2 := hc21_68 Ix_68 hq.symm
        unfold m_55_x21_68 at h
        obtain ⟨x3_68, ex3_68, h⟩ := o_b1E h
        refine go_iincE (pc' := 71) rfl rfl (y := (nI 1)) rfl ex3_68 (lo' := [some (.inr (.inr th)), some (.inr (.inr a0)), some (.inl a1), some (.inl x3_68), some (.inl x4_16), z5_x68]) rfl rfl ?_
        refine go_goto (pc' := 2) rfl rfl ?_
        exact (lp_backE h hk2 (some (.inl x4_16)) z5_x68 :)
      have lo21 : ∀ n s, lp (fun s => m_55_b21 th a0 a1 Rf G x4_16 s.1 s.2) n s = some q21 → (fun s => ai_Go si_t (3, false, 9, cd_55) (ai_Cl si_t si_ms e) (sp_Q none I1 J Rf G) 21 [some (.inr (.inr th)), some (.inr (.inr a0)), some (.inl a1), some (.inl v3_2), some (.inl x4_16), some (.inl s.1)] [] (0, 0) s.2 J Rf G) s := lp_go (fun s x21 hx hk21 => by
        obtain ⟨v5_21, I_21⟩ := s
        have h : m_55_b21 th a0 a1 Rf G x4_16 v5_21 I_21 = some x21 := hx
        clear hx
        show ai_Go si_t (3, false, 9, cd_55) (ai_Cl si_t si_ms e) (sp_Q none I1 J Rf G) 21 [some (.inr (.inr th)), some (.inr (.inr a0)), some (.inl a1), some (.inl v3_2), some (.inl x4_16), some (.inl v5_21)] [] (0, 0) I_21 J Rf G
        unfold m_55_b21 at h
        refine go_iload (pc' := 23) rfl rfl rfl ?_
        refine go_aload_n (pc' := 24) rfl rfl rfl ?_
        refine go_getI (pc' := 27) rfl rfl (by decide) (by decide) (o_kdE g0) rfl ?_
        refine go_icmp_ge (pt := 68) (pc' := 30) rfl rfl rfl (fun h27 => ?_) (fun h27 => ?_)
        · replace h := o_t h27 h
          exact ex21_68 _ (some (.inl v5_21)) (lp_exitE h hk21)
        · replace h := o_f h27 h
          refine go_iload (pc' := 32) rfl rfl rfl ?_
          refine go_iload (pc' := 34) rfl rfl rfl ?_
          obtain ⟨r_34, q_34, h⟩ := o_b1E h
          refine go_callS (pc' := 37) (B' := (0, 0)) (st' := [.inl r_34]) rfl rfl (Or.inl (by decide)) rfl rfl trivial (md_183 (by omega) q_34) rfl rfl rfl ?_
          refine go_iload_n (pc' := 38) rfl rfl rfl ?_
          refine go_icmp_ne (pt := 62) (pc' := 41) rfl rfl rfl (fun h38 => ?_) (fun h38 => ?_)
          · replace h := o_f h38 h
            obtain ⟨x5_62, ex5_62, h⟩ := o_b1E h
            refine go_iincE (pc' := 65) rfl rfl (y := (nI 1)) rfl ex5_62 (lo' := [some (.inr (.inr th)), some (.inr (.inr a0)), some (.inl a1), some (.inl v3_2), some (.inl x4_16), some (.inl x5_62)]) rfl rfl ?_
            refine go_goto (pc' := 21) rfl rfl ?_
            exact (lp_backE h hk21 :)
          · replace h := o_t (Decidable.of_not_not h38) h
            refine go_aload_n (pc' := 42) rfl rfl rfl ?_
            refine go_getR (pc' := 45) rfl rfl hth rfl ?_
            refine go_iload (pc' := 47) rfl rfl rfl ?_
            refine go_iconst (pc' := 48) (v := (nI 1)) rfl rfl rfl ?_
            refine go_iload (pc' := 50) rfl rfl rfl ?_
            refine go_ishl (pc' := 51) rfl rfl ?_
            refine go_ixor (pc' := 52) rfl rfl ?_
            refine go_aload_n (pc' := 53) rfl rfl rfl ?_
            refine go_getR (pc' := 56) rfl rfl (o_kdE g0) rfl ?_
            refine go_iload (pc' := 58) rfl rfl rfl ?_
            obtain ⟨g2, h⟩ := o_gE h
            refine go_iaload (pc' := 59) rfl (o_inK g2) (o_inB g2) rfl ?_
            obtain ⟨g3, h⟩ := o_gE h
            obtain ⟨I_59, q_59, h⟩ := o_b1E h
            refine go_callV (pc' := 62) (B' := (0, 0)) (st' := []) rfl rfl (Or.inl (by decide)) rfl rfl (o_kdE g3) (md_113 (by omega) (o_kdE g3) q_59) rfl rfl rfl ?_
            obtain ⟨x5_62, ex5_62, h⟩ := o_b1E h
            refine go_iincE (pc' := 65) rfl rfl (y := (nI 1)) rfl ex5_62 (lo' := [some (.inr (.inr th)), some (.inr (.inr a0)), some (.inl a1), some (.inl v3_2), some (.inl x4_16), some (.inl x5_62)]) rfl rfl ?_
            refine go_goto (pc' := 21) rfl rfl ?_
            exact (lp_backE h hk21 :))
      exact lo21 _ ((nI 0), I_2) hl21 )
  exact lo2 _ ((nI 0), I) hl2 none none
/-- PricedBases$Maker.isCut(LPricedBases$Valuation;)Z -/
def m_53 (th : Nat) (a0 : Nat) (I : ai_I) (Rf : ai_R) (G : ai_G) : Option (Int32 × ai_I) :=
  o_g (o_kd G a0 8) (o_b2 (m_41 th (I a0 0) ((I a0 1) - (nI 1)) I Rf G) (fun r_11 I_11 => if r_11 = 0 then (some ((nI 0), I_11)) else (o_b1 (m_55 th a0 (nI 1) I_11 Rf G) (fun I_22 => some ((nI 1), I_22)))))
theorem md_53 {d : Nat} {I : ai_I} {J : ai_J} {Rf : ai_R} {G : ai_G} {th : Nat} {a0 : Nat} {r : Int32} {I1 : ai_I} (hd : 4 ≤ d) (hth : G.1 th = 3) (h : m_53 th a0 I Rf G = some (r, I1)) : ai_Cl si_t si_ms d 53 [.inr (.inr th), .inr (.inr a0)] I J Rf G (some (.inl r)) I1 J Rf G := by
  obtain ⟨e, rfl⟩ : ∃ e, d = e + 1 := ⟨d - 1, by omega⟩
  unfold m_53 at h
  refine sp_in (lo := [some (.inr (.inr th)), some (.inr (.inr a0))]) (B := (0, 0)) rfl (Nat.le_of_ble_eq_true rfl) rfl rfl ?_
  refine go_aload_n (pc' := 1) rfl rfl rfl ?_
  refine go_aload_n (pc' := 2) rfl rfl rfl ?_
  obtain ⟨g0, h⟩ := o_gE h
  refine go_getI (pc' := 5) rfl rfl (by decide) (by decide) (o_kdE g0) rfl ?_
  refine go_aload_n (pc' := 6) rfl rfl rfl ?_
  refine go_getI (pc' := 9) rfl rfl (by decide) (by decide) (o_kdE g0) rfl ?_
  refine go_iconst (pc' := 10) (v := (nI 1)) rfl rfl rfl ?_
  refine go_isub (pc' := 11) rfl rfl ?_
  obtain ⟨r_11, I_11, q_11, h⟩ := o_b2E h
  refine go_callV (pc' := 14) (B' := (0, 0)) (st' := [.inl r_11]) rfl rfl (Or.inl (by decide)) rfl rfl hth (md_41 (by omega) hth q_11) rfl rfl rfl ?_
  refine go_if_ne (pt := 19) (pc' := 17) rfl rfl rfl (fun h14 => ?_) (fun h14 => ?_)
  · replace h := o_f h14 h
    refine go_aload_n (pc' := 20) rfl rfl rfl ?_
    refine go_aload_n (pc' := 21) rfl rfl rfl ?_
    refine go_iconst (pc' := 22) (v := (nI 1)) rfl rfl rfl ?_
    obtain ⟨I_22, q_22, h⟩ := o_b1E h
    refine go_callV (pc' := 25) (B' := (0, 0)) (st' := []) rfl rfl (Or.inl (by decide)) rfl rfl hth (md_55 (by omega) hth q_22) rfl rfl rfl ?_
    refine go_iconst (pc' := 26) (v := (nI 1)) rfl rfl rfl ?_
    cases h
    exact go_iret rfl (rfl) ⟨rfl, rfl, rfl, rfl, rfl⟩
  · replace h := o_t (Decidable.of_not_not h14) h
    refine go_iconst (pc' := 18) (v := (nI 0)) rfl rfl rfl ?_
    cases h
    exact go_iret rfl (rfl) ⟨rfl, rfl, rfl, rfl, rfl⟩
/-- PricedBases$Maker.isRaised(LPricedBases$Valuation;)Z -/
def m_54 (th : Nat) (a0 : Nat) (I : ai_I) (Rf : ai_R) (G : ai_G) : Option (Int32 × ai_I) :=
  o_g (o_kd G a0 8) (o_b2 (m_41 th (I a0 0) ((I a0 1) + (nI 1)) I Rf G) (fun r_11 I_11 => if r_11 = 0 then (some ((nI 0), I_11)) else (o_b1 (m_55 th a0 (nI 0) I_11 Rf G) (fun I_22 => some ((nI 1), I_22)))))
theorem md_54 {d : Nat} {I : ai_I} {J : ai_J} {Rf : ai_R} {G : ai_G} {th : Nat} {a0 : Nat} {r : Int32} {I1 : ai_I} (hd : 4 ≤ d) (hth : G.1 th = 3) (h : m_54 th a0 I Rf G = some (r, I1)) : ai_Cl si_t si_ms d 54 [.inr (.inr th), .inr (.inr a0)] I J Rf G (some (.inl r)) I1 J Rf G := by
  obtain ⟨e, rfl⟩ : ∃ e, d = e + 1 := ⟨d - 1, by omega⟩
  unfold m_54 at h
  refine sp_in (lo := [some (.inr (.inr th)), some (.inr (.inr a0))]) (B := (0, 0)) rfl (Nat.le_of_ble_eq_true rfl) rfl rfl ?_
  refine go_aload_n (pc' := 1) rfl rfl rfl ?_
  refine go_aload_n (pc' := 2) rfl rfl rfl ?_
  obtain ⟨g0, h⟩ := o_gE h
  refine go_getI (pc' := 5) rfl rfl (by decide) (by decide) (o_kdE g0) rfl ?_
  refine go_aload_n (pc' := 6) rfl rfl rfl ?_
  refine go_getI (pc' := 9) rfl rfl (by decide) (by decide) (o_kdE g0) rfl ?_
  refine go_iconst (pc' := 10) (v := (nI 1)) rfl rfl rfl ?_
  refine go_iadd (pc' := 11) rfl rfl ?_
  obtain ⟨r_11, I_11, q_11, h⟩ := o_b2E h
  refine go_callV (pc' := 14) (B' := (0, 0)) (st' := [.inl r_11]) rfl rfl (Or.inl (by decide)) rfl rfl hth (md_41 (by omega) hth q_11) rfl rfl rfl ?_
  refine go_if_ne (pt := 19) (pc' := 17) rfl rfl rfl (fun h14 => ?_) (fun h14 => ?_)
  · replace h := o_f h14 h
    refine go_aload_n (pc' := 20) rfl rfl rfl ?_
    refine go_aload_n (pc' := 21) rfl rfl rfl ?_
    refine go_iconst (pc' := 22) (v := (nI 0)) rfl rfl rfl ?_
    obtain ⟨I_22, q_22, h⟩ := o_b1E h
    refine go_callV (pc' := 25) (B' := (0, 0)) (st' := []) rfl rfl (Or.inl (by decide)) rfl rfl hth (md_55 (by omega) hth q_22) rfl rfl rfl ?_
    refine go_iconst (pc' := 26) (v := (nI 1)) rfl rfl rfl ?_
    cases h
    exact go_iret rfl (rfl) ⟨rfl, rfl, rfl, rfl, rfl⟩
  · replace h := o_t (Decidable.of_not_not h14) h
    refine go_iconst (pc' := 18) (v := (nI 0)) rfl rfl rfl ?_
    cases h
    exact go_iret rfl (rfl) ⟨rfl, rfl, rfl, rfl, rfl⟩
/-- PricedBases$Sums.of(LPricedBases$Valuation;I[I)I -/
def m_103 (a0 : Nat) (a1 : Int32) (a2 : Nat) (I : ai_I) (Rf : ai_R) (G : ai_G) : Option (Int32) :=
  o_g (o_kd G a0 8) (o_g (o_in G 13 (Rf a0 3) a1) (o_b1 (m_102 a1 a2 I G) (fun r_8 => some ((I (Rf a0 3) a1.toNatClampNeg) + r_8))))
theorem md_103 {d : Nat} {I : ai_I} {J : ai_J} {Rf : ai_R} {G : ai_G} {a0 : Nat} {a1 : Int32} {a2 : Nat} {r : Int32} (hd : 2 ≤ d) (h : m_103 a0 a1 a2 I Rf G = some r) : ai_Cl si_t si_ms d 103 [.inr (.inr a0), .inl a1, .inr (.inr a2)] I J Rf G (some (.inl r)) I J Rf G := by
  obtain ⟨e, rfl⟩ : ∃ e, d = e + 1 := ⟨d - 1, by omega⟩
  unfold m_103 at h
  refine sp_in (lo := [some (.inr (.inr a0)), some (.inl a1), some (.inr (.inr a2))]) (B := (0, 0)) rfl (Nat.le_of_ble_eq_true rfl) rfl rfl ?_
  refine go_aload_n (pc' := 1) rfl rfl rfl ?_
  obtain ⟨g0, h⟩ := o_gE h
  refine go_getR (pc' := 4) rfl rfl (o_kdE g0) rfl ?_
  refine go_iload_n (pc' := 5) rfl rfl rfl ?_
  obtain ⟨g1, h⟩ := o_gE h
  refine go_iaload (pc' := 6) rfl (o_inK g1) (o_inB g1) rfl ?_
  refine go_iload_n (pc' := 7) rfl rfl rfl ?_
  refine go_aload_n (pc' := 8) rfl rfl rfl ?_
  obtain ⟨r_8, q_8, h⟩ := o_b1E h
  refine go_callS (pc' := 11) (B' := (0, 0)) (st' := [.inl r_8, .inl (I (Rf a0 3) a1.toNatClampNeg)]) rfl rfl (Or.inl (by decide)) rfl rfl trivial (md_102 (by omega) q_8) rfl rfl rfl ?_
  refine go_iadd (pc' := 12) rfl rfl ?_
  cases h
  exact go_iret rfl (trivial) ⟨rfl, rfl, rfl, rfl, rfl⟩
def m_56_x58_104 (Ix_104 : ai_I) : Option (Int32 × ai_I) :=
  some ((nI 1), Ix_104)
def m_56_b58 (th : Nat) (a0 : Nat) (a1 : Nat) (Rf : ai_R) (G : ai_G) (w3_55 : Int32) (v4_58 : Int32) (I_58 : ai_I) : Option ((Int32 × ai_I) ⊕ ai_I) :=
  if (I_58 a0 2) ≤ v4_58 then (some (Sum.inr I_58)) else (o_g (o_in G 13 (Rf a0 5) v4_58) (o_b1 (m_103 a0 (I_58 (Rf a0 5) v4_58.toNatClampNeg) a1 I_58 Rf G) (fun r_76 => if r_76 = w3_55 then (o_g (o_in G 13 (Rf a0 5) v4_58) (o_g (o_kd G (Rf th 0) 8) (o_b1 (m_113 (Rf th 0) (I_58 (Rf a0 5) v4_58.toNatClampNeg) (nI 0) I_58 Rf G) (fun I_95 => o_b1 (some (v4_58 + (nI 1))) (fun x4_98 => some (Sum.inl (x4_98, I_95))))))) else (o_b1 (some (v4_58 + (nI 1))) (fun x4_98 => some (Sum.inl (x4_98, I_58)))))))
def m_56_x23_55 (th : Nat) (a0 : Nat) (a1 : Nat) (Rf : ai_R) (G : ai_G) (I_9 : ai_I) (w3_55 : Int32) : Option (Int32 × ai_I) :=
  o_s1 (lp (fun s => m_56_b58 th a0 a1 Rf G w3_55 s.1 s.2) o_N ((nI 0), I_9)) (fun t => m_56_x58_104 t)
def m_56_b23 (a0 : Nat) (a1 : Nat) (Rf : ai_R) (G : ai_G) (I_9 : ai_I) (v3_23 : Int32) (v4_23 : Int32) : Option ((Int32 × Int32) ⊕ Int32) :=
  if (I_9 a0 2) ≤ v4_23 then (some (Sum.inr v3_23)) else (o_g (o_in G 13 (Rf a0 5) v4_23) (o_b1 (m_103 a0 (I_9 (Rf a0 5) v4_23.toNatClampNeg) a1 I_9 Rf G) (fun r_42 => o_b1 (some (if v3_23 < r_42 then r_42 else v3_23)) (fun r_45 => o_b1 (some (v4_23 + (nI 1))) (fun x4_49 => some (Sum.inl (r_45, x4_49)))))))
/-- PricedBases$Maker.isInitial(LPricedBases$Valuation;[I)Z -/
def m_56 (th : Nat) (a0 : Nat) (a1 : Nat) (I : ai_I) (Rf : ai_R) (G : ai_G) : Option (Int32 × ai_I) :=
  o_g (o_kd G a0 8) (o_b2 (m_41 th (I a0 0) (I a0 1) I Rf G) (fun r_9 I_9 => if r_9 = 0 then (some ((nI 0), I_9)) else (o_s1 (lp (fun s => m_56_b23 a0 a1 Rf G I_9 s.1 s.2) o_N ((-2147483648 : Int32), (nI 0))) (fun t => m_56_x23_55 th a0 a1 Rf G I_9 t))))
theorem md_56 {d : Nat} {I : ai_I} {J : ai_J} {Rf : ai_R} {G : ai_G} {th : Nat} {a0 : Nat} {a1 : Nat} {r : Int32} {I1 : ai_I} (hd : 4 ≤ d) (hth : G.1 th = 3) (h : m_56 th a0 a1 I Rf G = some (r, I1)) : ai_Cl si_t si_ms d 56 [.inr (.inr th), .inr (.inr a0), .inr (.inr a1)] I J Rf G (some (.inl r)) I1 J Rf G := by
  obtain ⟨e, rfl⟩ : ∃ e, d = e + 1 := ⟨d - 1, by omega⟩
  unfold m_56 at h
  refine sp_in (lo := [some (.inr (.inr th)), some (.inr (.inr a0)), some (.inr (.inr a1)), none, none]) (B := (0, 0)) rfl (Nat.le_of_ble_eq_true rfl) rfl rfl ?_
  refine go_aload_n (pc' := 1) rfl rfl rfl ?_
  refine go_aload_n (pc' := 2) rfl rfl rfl ?_
  obtain ⟨g0, h⟩ := o_gE h
  refine go_getI (pc' := 5) rfl rfl (by decide) (by decide) (o_kdE g0) rfl ?_
  refine go_aload_n (pc' := 6) rfl rfl rfl ?_
  refine go_getI (pc' := 9) rfl rfl (by decide) (by decide) (o_kdE g0) rfl ?_
  obtain ⟨r_9, I_9, q_9, h⟩ := o_b2E h
  refine go_callV (pc' := 12) (B' := (0, 0)) (st' := [.inl r_9]) rfl rfl (Or.inl (by decide)) rfl rfl hth (md_41 (by omega) hth q_9) rfl rfl rfl ?_
  refine go_if_ne (pt := 17) (pc' := 15) rfl rfl rfl (fun h12 => ?_) (fun h12 => ?_)
  · replace h := o_f h12 h
    refine go_ldc (pc' := 19) (v := .inl (-2147483648 : Int32)) rfl rfl rfl ?_
    refine go_istore_n (pc' := 20) (lo' := [some (.inr (.inr th)), some (.inr (.inr a0)), some (.inr (.inr a1)), some (.inl (-2147483648 : Int32)), none]) rfl rfl rfl ?_
    refine go_iconst (pc' := 21) (v := (nI 0)) rfl rfl rfl ?_
    refine go_istore (pc' := 23) (lo' := [some (.inr (.inr th)), some (.inr (.inr a0)), some (.inr (.inr a1)), some (.inl (-2147483648 : Int32)), some (.inl (nI 0))]) rfl rfl rfl ?_
    obtain ⟨q23, hl23, hc23_55⟩ := o_s1E h
    have ex23_55 : ∀ (w3_55 : Int32) (z4_x55 : Option ai_V), w3_55 = q23 → ai_Go si_t (3, false, 3, cd_56) (ai_Cl si_t si_ms e) (sp_Q (some (.inl r)) I1 J Rf G) 55 [some (.inr (.inr th)), some (.inr (.inr a0)), some (.inr (.inr a1)), some (.inl w3_55), z4_x55] [] (0, 0) I_9 J Rf G := by
      intro w3_55 z4_x55 hq
      have h : m_56_x23_55 th a0 a1 Rf G I_9 w3_55 = some (r, I1) := hc23_55 w3_55 hq.symm
      unfold m_56_x23_55 at h
      refine go_iconst (pc' := 56) (v := (nI 0)) rfl rfl rfl ?_
      refine go_istore (pc' := 58) (lo' := [some (.inr (.inr th)), some (.inr (.inr a0)), some (.inr (.inr a1)), some (.inl w3_55), some (.inl (nI 0))]) rfl rfl rfl ?_
      obtain ⟨q58, hl58, hc58_104⟩ := o_s1E h
      have ex58_104 : ∀ (Ix_104 : ai_I) (z4_x104 : Option ai_V), Ix_104 = q58 → ai_Go si_t (3, false, 3, cd_56) (ai_Cl si_t si_ms e) (sp_Q (some (.inl r)) I1 J Rf G) 104 [some (.inr (.inr th)), some (.inr (.inr a0)), some (.inr (.inr a1)), some (.inl w3_55), z4_x104] [] (0, 0) Ix_104 J Rf G := by
        intro Ix_104 z4_x104 hq
        have h : m_56_x58_104 Ix_104 = some (r, I1) := hc58_104 Ix_104 hq.symm
        unfold m_56_x58_104 at h
        refine go_iconst (pc' := 105) (v := (nI 1)) rfl rfl rfl ?_
        cases h
        exact go_iret rfl (rfl) ⟨rfl, rfl, rfl, rfl, rfl⟩
      have lo58 : ∀ n s, lp (fun s => m_56_b58 th a0 a1 Rf G w3_55 s.1 s.2) n s = some q58 → (fun s => ai_Go si_t (3, false, 3, cd_56) (ai_Cl si_t si_ms e) (sp_Q (some (.inl r)) I1 J Rf G) 58 [some (.inr (.inr th)), some (.inr (.inr a0)), some (.inr (.inr a1)), some (.inl w3_55), some (.inl s.1)] [] (0, 0) s.2 J Rf G) s := lp_go (fun s x58 hx hk58 => by
        obtain ⟨v4_58, I_58⟩ := s
        have h : m_56_b58 th a0 a1 Rf G w3_55 v4_58 I_58 = some x58 := hx
        clear hx
        show ai_Go si_t (3, false, 3, cd_56) (ai_Cl si_t si_ms e) (sp_Q (some (.inl r)) I1 J Rf G) 58 [some (.inr (.inr th)), some (.inr (.inr a0)), some (.inr (.inr a1)), some (.inl w3_55), some (.inl v4_58)] [] (0, 0) I_58 J Rf G
        unfold m_56_b58 at h
        refine go_iload (pc' := 60) rfl rfl rfl ?_
        refine go_aload_n (pc' := 61) rfl rfl rfl ?_
        refine go_getI (pc' := 64) rfl rfl (by decide) (by decide) (o_kdE g0) rfl ?_
        refine go_icmp_ge (pt := 104) (pc' := 67) rfl rfl rfl (fun h64 => ?_) (fun h64 => ?_)
        · replace h := o_t h64 h
          exact ex58_104 _ (some (.inl v4_58)) (lp_exitE h hk58)
        · replace h := o_f h64 h
          refine go_aload_n (pc' := 68) rfl rfl rfl ?_
          refine go_aload_n (pc' := 69) rfl rfl rfl ?_
          refine go_getR (pc' := 72) rfl rfl (o_kdE g0) rfl ?_
          refine go_iload (pc' := 74) rfl rfl rfl ?_
          obtain ⟨g1, h⟩ := o_gE h
          refine go_iaload (pc' := 75) rfl (o_inK g1) (o_inB g1) rfl ?_
          refine go_aload_n (pc' := 76) rfl rfl rfl ?_
          obtain ⟨r_76, q_76, h⟩ := o_b1E h
          refine go_callS (pc' := 79) (B' := (0, 0)) (st' := [.inl r_76]) rfl rfl (Or.inl (by decide)) rfl rfl trivial (md_103 (by omega) q_76) rfl rfl rfl ?_
          refine go_iload_n (pc' := 80) rfl rfl rfl ?_
          refine go_icmp_ne (pt := 98) (pc' := 83) rfl rfl rfl (fun h80 => ?_) (fun h80 => ?_)
          · replace h := o_f h80 h
            obtain ⟨x4_98, ex4_98, h⟩ := o_b1E h
            refine go_iincE (pc' := 101) rfl rfl (y := (nI 1)) rfl ex4_98 (lo' := [some (.inr (.inr th)), some (.inr (.inr a0)), some (.inr (.inr a1)), some (.inl w3_55), some (.inl x4_98)]) rfl rfl ?_
            refine go_goto (pc' := 58) rfl rfl ?_
            exact (lp_backE h hk58 :)
          · replace h := o_t (Decidable.of_not_not h80) h
            refine go_aload_n (pc' := 84) rfl rfl rfl ?_
            refine go_getR (pc' := 87) rfl rfl hth rfl ?_
            refine go_aload_n (pc' := 88) rfl rfl rfl ?_
            refine go_getR (pc' := 91) rfl rfl (o_kdE g0) rfl ?_
            refine go_iload (pc' := 93) rfl rfl rfl ?_
            obtain ⟨g2, h⟩ := o_gE h
            refine go_iaload (pc' := 94) rfl (o_inK g2) (o_inB g2) rfl ?_
            refine go_iconst (pc' := 95) (v := (nI 0)) rfl rfl rfl ?_
            obtain ⟨g3, h⟩ := o_gE h
            obtain ⟨I_95, q_95, h⟩ := o_b1E h
            refine go_callV (pc' := 98) (B' := (0, 0)) (st' := []) rfl rfl (Or.inl (by decide)) rfl rfl (o_kdE g3) (md_113 (by omega) (o_kdE g3) q_95) rfl rfl rfl ?_
            obtain ⟨x4_98, ex4_98, h⟩ := o_b1E h
            refine go_iincE (pc' := 101) rfl rfl (y := (nI 1)) rfl ex4_98 (lo' := [some (.inr (.inr th)), some (.inr (.inr a0)), some (.inr (.inr a1)), some (.inl w3_55), some (.inl x4_98)]) rfl rfl ?_
            refine go_goto (pc' := 58) rfl rfl ?_
            exact (lp_backE h hk58 :))
      exact lo58 _ ((nI 0), I_9) hl58 
    have lo23 : ∀ n s, lp (fun s => m_56_b23 a0 a1 Rf G I_9 s.1 s.2) n s = some q23 → (fun s => ai_Go si_t (3, false, 3, cd_56) (ai_Cl si_t si_ms e) (sp_Q (some (.inl r)) I1 J Rf G) 23 [some (.inr (.inr th)), some (.inr (.inr a0)), some (.inr (.inr a1)), some (.inl s.1), some (.inl s.2)] [] (0, 0) I_9 J Rf G) s := lp_go (fun s x23 hx hk23 => by
      obtain ⟨v3_23, v4_23⟩ := s
      have h : m_56_b23 a0 a1 Rf G I_9 v3_23 v4_23 = some x23 := hx
      clear hx
      show ai_Go si_t (3, false, 3, cd_56) (ai_Cl si_t si_ms e) (sp_Q (some (.inl r)) I1 J Rf G) 23 [some (.inr (.inr th)), some (.inr (.inr a0)), some (.inr (.inr a1)), some (.inl v3_23), some (.inl v4_23)] [] (0, 0) I_9 J Rf G
      unfold m_56_b23 at h
      refine go_iload (pc' := 25) rfl rfl rfl ?_
      refine go_aload_n (pc' := 26) rfl rfl rfl ?_
      refine go_getI (pc' := 29) rfl rfl (by decide) (by decide) (o_kdE g0) rfl ?_
      refine go_icmp_ge (pt := 55) (pc' := 32) rfl rfl rfl (fun h29 => ?_) (fun h29 => ?_)
      · replace h := o_t h29 h
        exact ex23_55 _ (some (.inl v4_23)) (lp_exitE h hk23)
      · replace h := o_f h29 h
        refine go_iload_n (pc' := 33) rfl rfl rfl ?_
        refine go_aload_n (pc' := 34) rfl rfl rfl ?_
        refine go_aload_n (pc' := 35) rfl rfl rfl ?_
        refine go_getR (pc' := 38) rfl rfl (o_kdE g0) rfl ?_
        refine go_iload (pc' := 40) rfl rfl rfl ?_
        obtain ⟨g4, h⟩ := o_gE h
        refine go_iaload (pc' := 41) rfl (o_inK g4) (o_inB g4) rfl ?_
        refine go_aload_n (pc' := 42) rfl rfl rfl ?_
        obtain ⟨r_42, q_42, h⟩ := o_b1E h
        refine go_callS (pc' := 45) (B' := (0, 0)) (st' := [.inl r_42, .inl v3_23]) rfl rfl (Or.inl (by decide)) rfl rfl trivial (md_103 (by omega) q_42) rfl rfl rfl ?_
        refine go_max (pc' := 48) rfl rfl (Nat.le_of_ble_eq_true rfl) rfl ?_
        obtain ⟨r_45, er_45, h⟩ := o_b1E h
        refine go_ndI er_45 ?_
        refine go_istore_n (pc' := 49) (lo' := [some (.inr (.inr th)), some (.inr (.inr a0)), some (.inr (.inr a1)), some (.inl r_45), some (.inl v4_23)]) rfl rfl rfl ?_
        obtain ⟨x4_49, ex4_49, h⟩ := o_b1E h
        refine go_iincE (pc' := 52) rfl rfl (y := (nI 1)) rfl ex4_49 (lo' := [some (.inr (.inr th)), some (.inr (.inr a0)), some (.inr (.inr a1)), some (.inl r_45), some (.inl x4_49)]) rfl rfl ?_
        refine go_goto (pc' := 23) rfl rfl ?_
        exact (lp_backE h hk23 :))
    exact lo23 _ ((-2147483648 : Int32), (nI 0)) hl23 
  · replace h := o_t (Decidable.of_not_not h12) h
    refine go_iconst (pc' := 16) (v := (nI 0)) rfl rfl rfl ?_
    cases h
    exact go_iret rfl (rfl) ⟨rfl, rfl, rfl, rfl, rfl⟩
/-- PricedBases.haveSameElements(LPricedBases$Valuation;LPricedBases$Valuation;)Z -/
def m_185 (a0 : Nat) (a1 : Nat) (I : ai_I) (G : ai_G) : Option (Int32) :=
  if a0 = 0 then (some (nI 0)) else (if a1 = 0 then (some (nI 0)) else (o_g (o_kd G a0 8) (o_g (o_kd G a1 8) (if (I a0 0) = (I a1 0) then (some (nI 1)) else (some (nI 0))))))
theorem md_185 {d : Nat} {I : ai_I} {J : ai_J} {Rf : ai_R} {G : ai_G} {a0 : Nat} {a1 : Nat} {r : Int32} (hd : 1 ≤ d) (h : m_185 a0 a1 I G = some r) : ai_Cl si_t si_ms d 185 [.inr (.inr a0), .inr (.inr a1)] I J Rf G (some (.inl r)) I J Rf G := by
  obtain ⟨e, rfl⟩ : ∃ e, d = e + 1 := ⟨d - 1, by omega⟩
  unfold m_185 at h
  refine sp_in (lo := [some (.inr (.inr a0)), some (.inr (.inr a1))]) (B := (0, 0)) rfl (Nat.le_of_ble_eq_true rfl) rfl rfl ?_
  refine go_aload_n (pc' := 1) rfl rfl rfl ?_
  refine go_ifnull (pt := 23) (pc' := 4) rfl rfl rfl (fun h1 => ?_) (fun h1 => ?_)
  · replace h := o_t h1 h
    refine go_iconst (pc' := 24) (v := (nI 0)) rfl rfl rfl ?_
    cases h
    exact go_iret rfl (rfl) ⟨rfl, rfl, rfl, rfl, rfl⟩
  · replace h := o_f h1 h
    refine go_aload_n (pc' := 5) rfl rfl rfl ?_
    refine go_ifnull (pt := 23) (pc' := 8) rfl rfl rfl (fun h5 => ?_) (fun h5 => ?_)
    · replace h := o_t h5 h
      refine go_iconst (pc' := 24) (v := (nI 0)) rfl rfl rfl ?_
      cases h
      exact go_iret rfl (rfl) ⟨rfl, rfl, rfl, rfl, rfl⟩
    · replace h := o_f h5 h
      refine go_aload_n (pc' := 9) rfl rfl rfl ?_
      obtain ⟨g0, h⟩ := o_gE h
      refine go_getI (pc' := 12) rfl rfl (by decide) (by decide) (o_kdE g0) rfl ?_
      refine go_aload_n (pc' := 13) rfl rfl rfl ?_
      obtain ⟨g1, h⟩ := o_gE h
      refine go_getI (pc' := 16) rfl rfl (by decide) (by decide) (o_kdE g1) rfl ?_
      refine go_icmp_ne (pt := 23) (pc' := 19) rfl rfl rfl (fun h16 => ?_) (fun h16 => ?_)
      · replace h := o_f h16 h
        refine go_iconst (pc' := 24) (v := (nI 0)) rfl rfl rfl ?_
        cases h
        exact go_iret rfl (rfl) ⟨rfl, rfl, rfl, rfl, rfl⟩
      · replace h := o_t (Decidable.of_not_not h16) h
        refine go_iconst (pc' := 20) (v := (nI 1)) rfl rfl rfl ?_
        refine go_goto (pc' := 24) rfl rfl ?_
        cases h
        exact go_iret rfl (rfl) ⟨rfl, rfl, rfl, rfl, rfl⟩
def m_57_x32_116 (Ix_116 : ai_I) : Option (Int32 × ai_I) :=
  some ((nI 1), Ix_116)
def m_57_x43_110 (v3_32 : Int32) (Ix_110 : ai_I) : Option ((Int32 × ai_I) ⊕ ai_I) :=
  o_b1 (some (v3_32 + (nI 1))) (fun x3_110 => some (Sum.inl (x3_110, Ix_110)))
def m_57_b43 (th : Nat) (a0 : Nat) (a1 : Nat) (Rf : ai_R) (G : ai_G) (v3_32 : Int32) (v4_43 : Int32) (I_43 : ai_I) : Option ((Int32 × ai_I) ⊕ ai_I) :=
  if (I_43 a1 2) ≤ v4_43 then (some (Sum.inr I_43)) else (o_g (o_in G 13 (Rf a0 5) v3_32) (o_b1 (some (I_43 (Rf a0 5) v3_32.toNatClampNeg)) (fun x5_58 => o_g (o_in G 13 (Rf a1 5) v4_43) (o_b1 (some (I_43 (Rf a1 5) v4_43.toNatClampNeg)) (fun x6_67 => if (x5_58 &&& x6_67) = 0 then (o_g (o_in G 13 (Rf a0 3) x5_58) (o_g (o_in G 13 (Rf a1 3) x6_67) (o_g (o_kd G (Rf th 0) 8) (o_b1 (m_113 (Rf th 0) (x5_58 ||| x6_67) ((I_43 (Rf a0 3) x5_58.toNatClampNeg) + (I_43 (Rf a1 3) x6_67.toNatClampNeg)) I_43 Rf G) (fun I_101 => o_b1 (some (v4_43 + (nI 1))) (fun x4_104 => some (Sum.inl (x4_104, I_101)))))))) else (o_b1 (some (v4_43 + (nI 1))) (fun x4_104 => some (Sum.inl (x4_104, I_43)))))))))
def m_57_b32 (th : Nat) (a0 : Nat) (a1 : Nat) (Rf : ai_R) (G : ai_G) (v3_32 : Int32) (I_32 : ai_I) : Option ((Int32 × ai_I) ⊕ ai_I) :=
  if (I_32 a0 2) ≤ v3_32 then (some (Sum.inr I_32)) else (o_s1 (lp (fun s => m_57_b43 th a0 a1 Rf G v3_32 s.1 s.2) o_N ((nI 0), I_32)) (fun t => m_57_x43_110 v3_32 t))
/-- PricedBases$Maker.isJoined(LPricedBases$Valuation;LPricedBases$Valuation;)Z -/
def m_57 (th : Nat) (a0 : Nat) (a1 : Nat) (I : ai_I) (Rf : ai_R) (G : ai_G) : Option (Int32 × ai_I) :=
  o_b1 (m_185 a0 a1 I G) (fun r_2 => if r_2 = 0 then (some ((nI 0), I)) else (o_g (o_kd G a0 8) (o_g (o_kd G a1 8) (o_b2 (m_41 th (I a0 0) ((I a0 1) + (I a1 1)) I Rf G) (fun r_22 I_22 => if r_22 = 0 then (some ((nI 0), I_22)) else (o_s1 (lp (fun s => m_57_b32 th a0 a1 Rf G s.1 s.2) o_N ((nI 0), I_22)) (fun t => m_57_x32_116 t)))))))
theorem md_57 {d : Nat} {I : ai_I} {J : ai_J} {Rf : ai_R} {G : ai_G} {th : Nat} {a0 : Nat} {a1 : Nat} {r : Int32} {I1 : ai_I} (hd : 4 ≤ d) (hth : G.1 th = 3) (h : m_57 th a0 a1 I Rf G = some (r, I1)) : ai_Cl si_t si_ms d 57 [.inr (.inr th), .inr (.inr a0), .inr (.inr a1)] I J Rf G (some (.inl r)) I1 J Rf G := by
  obtain ⟨e, rfl⟩ : ∃ e, d = e + 1 := ⟨d - 1, by omega⟩
  unfold m_57 at h
  refine sp_in (lo := [some (.inr (.inr th)), some (.inr (.inr a0)), some (.inr (.inr a1)), none, none, none, none]) (B := (0, 0)) rfl (Nat.le_of_ble_eq_true rfl) rfl rfl ?_
  refine go_aload_n (pc' := 1) rfl rfl rfl ?_
  refine go_aload_n (pc' := 2) rfl rfl rfl ?_
  obtain ⟨r_2, q_2, h⟩ := o_b1E h
  refine go_callS (pc' := 5) (B' := (0, 0)) (st' := [.inl r_2]) rfl rfl (Or.inl (by decide)) rfl rfl trivial (md_185 (by omega) q_2) rfl rfl rfl ?_
  refine go_if_eq (pt := 28) (pc' := 8) rfl rfl rfl (fun h5 => ?_) (fun h5 => ?_)
  · replace h := o_t h5 h
    refine go_iconst (pc' := 29) (v := (nI 0)) rfl rfl rfl ?_
    cases h
    exact go_iret rfl (rfl) ⟨rfl, rfl, rfl, rfl, rfl⟩
  · replace h := o_f h5 h
    refine go_aload_n (pc' := 9) rfl rfl rfl ?_
    refine go_aload_n (pc' := 10) rfl rfl rfl ?_
    obtain ⟨g0, h⟩ := o_gE h
    refine go_getI (pc' := 13) rfl rfl (by decide) (by decide) (o_kdE g0) rfl ?_
    refine go_aload_n (pc' := 14) rfl rfl rfl ?_
    refine go_getI (pc' := 17) rfl rfl (by decide) (by decide) (o_kdE g0) rfl ?_
    refine go_aload_n (pc' := 18) rfl rfl rfl ?_
    obtain ⟨g1, h⟩ := o_gE h
    refine go_getI (pc' := 21) rfl rfl (by decide) (by decide) (o_kdE g1) rfl ?_
    refine go_iadd (pc' := 22) rfl rfl ?_
    obtain ⟨r_22, I_22, q_22, h⟩ := o_b2E h
    refine go_callV (pc' := 25) (B' := (0, 0)) (st' := [.inl r_22]) rfl rfl (Or.inl (by decide)) rfl rfl hth (md_41 (by omega) hth q_22) rfl rfl rfl ?_
    refine go_if_ne (pt := 30) (pc' := 28) rfl rfl rfl (fun h25 => ?_) (fun h25 => ?_)
    · replace h := o_f h25 h
      refine go_iconst (pc' := 31) (v := (nI 0)) rfl rfl rfl ?_
      refine go_istore_n (pc' := 32) (lo' := [some (.inr (.inr th)), some (.inr (.inr a0)), some (.inr (.inr a1)), some (.inl (nI 0)), none, none, none]) rfl rfl rfl ?_
      obtain ⟨q32, hl32, hc32_116⟩ := o_s1E h
      have ex32_116 : ∀ (Ix_116 : ai_I) (z3_x116 : Option ai_V) (z4_x116 : Option ai_V) (z5_x116 : Option ai_V) (z6_x116 : Option ai_V), Ix_116 = q32 → ai_Go si_t (3, false, 3, cd_57) (ai_Cl si_t si_ms e) (sp_Q (some (.inl r)) I1 J Rf G) 116 [some (.inr (.inr th)), some (.inr (.inr a0)), some (.inr (.inr a1)), z3_x116, z4_x116, z5_x116, z6_x116] [] (0, 0) Ix_116 J Rf G := by
        intro Ix_116 z3_x116 z4_x116 z5_x116 z6_x116 hq
        have h : m_57_x32_116 Ix_116 = some (r, I1) := hc32_116 Ix_116 hq.symm
        unfold m_57_x32_116 at h
        refine go_iconst (pc' := 117) (v := (nI 1)) rfl rfl rfl ?_
        cases h
        exact go_iret rfl (rfl) ⟨rfl, rfl, rfl, rfl, rfl⟩
      have lo32 : ∀ n s, lp (fun s => m_57_b32 th a0 a1 Rf G s.1 s.2) n s = some q32 → (fun s => ∀ (z4_32 : Option ai_V) (z5_32 : Option ai_V) (z6_32 : Option ai_V), ai_Go si_t (3, false, 3, cd_57) (ai_Cl si_t si_ms e) (sp_Q (some (.inl r)) I1 J Rf G) 32 [some (.inr (.inr th)), some (.inr (.inr a0)), some (.inr (.inr a1)), some (.inl s.1), z4_32, z5_32, z6_32] [] (0, 0) s.2 J Rf G) s := lp_go (fun s x32 hx hk32 => by
        obtain ⟨v3_32, I_32⟩ := s
        intro z4_32 z5_32 z6_32
        have h : m_57_b32 th a0 a1 Rf G v3_32 I_32 = some x32 := hx
        clear hx
        show ai_Go si_t (3, false, 3, cd_57) (ai_Cl si_t si_ms e) (sp_Q (some (.inl r)) I1 J Rf G) 32 [some (.inr (.inr th)), some (.inr (.inr a0)), some (.inr (.inr a1)), some (.inl v3_32), z4_32, z5_32, z6_32] [] (0, 0) I_32 J Rf G
        unfold m_57_b32 at h
        refine go_iload_n (pc' := 33) rfl rfl rfl ?_
        refine go_aload_n (pc' := 34) rfl rfl rfl ?_
        refine go_getI (pc' := 37) rfl rfl (by decide) (by decide) (o_kdE g0) rfl ?_
        refine go_icmp_ge (pt := 116) (pc' := 40) rfl rfl rfl (fun h37 => ?_) (fun h37 => ?_)
        · replace h := o_t h37 h
          exact ex32_116 _ (some (.inl v3_32)) z4_32 z5_32 z6_32 (lp_exitE h hk32)
        · replace h := o_f h37 h
          refine go_iconst (pc' := 41) (v := (nI 0)) rfl rfl rfl ?_
          refine go_istore (pc' := 43) (lo' := [some (.inr (.inr th)), some (.inr (.inr a0)), some (.inr (.inr a1)), some (.inl v3_32), some (.inl (nI 0)), z5_32, z6_32]) rfl rfl rfl ?_
          obtain ⟨q43, hl43, hc43_110⟩ := o_s1E h
          have ex43_110 : ∀ (Ix_110 : ai_I) (z4_x110 : Option ai_V) (z5_x110 : Option ai_V) (z6_x110 : Option ai_V), Ix_110 = q43 → ai_Go si_t (3, false, 3, cd_57) (ai_Cl si_t si_ms e) (sp_Q (some (.inl r)) I1 J Rf G) 110 [some (.inr (.inr th)), some (.inr (.inr a0)), some (.inr (.inr a1)), some (.inl v3_32), z4_x110, z5_x110, z6_x110] [] (0, 0) Ix_110 J Rf G := by
            intro Ix_110 z4_x110 z5_x110 z6_x110 hq
            have h : m_57_x43_110 v3_32 Ix_110 = some x32 := hc43_110 Ix_110 hq.symm
            unfold m_57_x43_110 at h
            obtain ⟨x3_110, ex3_110, h⟩ := o_b1E h
            refine go_iincE (pc' := 113) rfl rfl (y := (nI 1)) rfl ex3_110 (lo' := [some (.inr (.inr th)), some (.inr (.inr a0)), some (.inr (.inr a1)), some (.inl x3_110), z4_x110, z5_x110, z6_x110]) rfl rfl ?_
            refine go_goto (pc' := 32) rfl rfl ?_
            exact (lp_backE h hk32 z4_x110 z5_x110 z6_x110 :)
          have lo43 : ∀ n s, lp (fun s => m_57_b43 th a0 a1 Rf G v3_32 s.1 s.2) n s = some q43 → (fun s => ∀ (z5_43 : Option ai_V) (z6_43 : Option ai_V), ai_Go si_t (3, false, 3, cd_57) (ai_Cl si_t si_ms e) (sp_Q (some (.inl r)) I1 J Rf G) 43 [some (.inr (.inr th)), some (.inr (.inr a0)), some (.inr (.inr a1)), some (.inl v3_32), some (.inl s.1), z5_43, z6_43] [] (0, 0) s.2 J Rf G) s := lp_go (fun s x43 hx hk43 => by
            obtain ⟨v4_43, I_43⟩ := s
            intro z5_43 z6_43
            have h : m_57_b43 th a0 a1 Rf G v3_32 v4_43 I_43 = some x43 := hx
            clear hx
            show ai_Go si_t (3, false, 3, cd_57) (ai_Cl si_t si_ms e) (sp_Q (some (.inl r)) I1 J Rf G) 43 [some (.inr (.inr th)), some (.inr (.inr a0)), some (.inr (.inr a1)), some (.inl v3_32), some (.inl v4_43), z5_43, z6_43] [] (0, 0) I_43 J Rf G
            unfold m_57_b43 at h
            refine go_iload (pc' := 45) rfl rfl rfl ?_
            refine go_aload_n (pc' := 46) rfl rfl rfl ?_
            refine go_getI (pc' := 49) rfl rfl (by decide) (by decide) (o_kdE g1) rfl ?_
            refine go_icmp_ge (pt := 110) (pc' := 52) rfl rfl rfl (fun h49 => ?_) (fun h49 => ?_)
            · replace h := o_t h49 h
              exact ex43_110 _ (some (.inl v4_43)) z5_43 z6_43 (lp_exitE h hk43)
            · replace h := o_f h49 h
              refine go_aload_n (pc' := 53) rfl rfl rfl ?_
              refine go_getR (pc' := 56) rfl rfl (o_kdE g0) rfl ?_
              refine go_iload_n (pc' := 57) rfl rfl rfl ?_
              obtain ⟨g2, h⟩ := o_gE h
              refine go_iaload (pc' := 58) rfl (o_inK g2) (o_inB g2) rfl ?_
              obtain ⟨x5_58, ex5_58, h⟩ := o_b1E h
              refine go_ndI ex5_58 ?_
              refine go_istore (pc' := 60) (lo' := [some (.inr (.inr th)), some (.inr (.inr a0)), some (.inr (.inr a1)), some (.inl v3_32), some (.inl v4_43), some (.inl x5_58), z6_43]) rfl rfl rfl ?_
              refine go_aload_n (pc' := 61) rfl rfl rfl ?_
              refine go_getR (pc' := 64) rfl rfl (o_kdE g1) rfl ?_
              refine go_iload (pc' := 66) rfl rfl rfl ?_
              obtain ⟨g3, h⟩ := o_gE h
              refine go_iaload (pc' := 67) rfl (o_inK g3) (o_inB g3) rfl ?_
              obtain ⟨x6_67, ex6_67, h⟩ := o_b1E h
              refine go_ndI ex6_67 ?_
              refine go_istore (pc' := 69) (lo' := [some (.inr (.inr th)), some (.inr (.inr a0)), some (.inr (.inr a1)), some (.inl v3_32), some (.inl v4_43), some (.inl x5_58), some (.inl x6_67)]) rfl rfl rfl ?_
              refine go_iload (pc' := 71) rfl rfl rfl ?_
              refine go_iload (pc' := 73) rfl rfl rfl ?_
              refine go_iand (pc' := 74) rfl rfl ?_
              refine go_if_ne (pt := 104) (pc' := 77) rfl rfl rfl (fun h74 => ?_) (fun h74 => ?_)
              · replace h := o_f h74 h
                obtain ⟨x4_104, ex4_104, h⟩ := o_b1E h
                refine go_iincE (pc' := 107) rfl rfl (y := (nI 1)) rfl ex4_104 (lo' := [some (.inr (.inr th)), some (.inr (.inr a0)), some (.inr (.inr a1)), some (.inl v3_32), some (.inl x4_104), some (.inl x5_58), some (.inl x6_67)]) rfl rfl ?_
                refine go_goto (pc' := 43) rfl rfl ?_
                exact (lp_backE h hk43 (some (.inl x5_58)) (some (.inl x6_67)) :)
              · replace h := o_t (Decidable.of_not_not h74) h
                refine go_aload_n (pc' := 78) rfl rfl rfl ?_
                refine go_getR (pc' := 81) rfl rfl hth rfl ?_
                refine go_iload (pc' := 83) rfl rfl rfl ?_
                refine go_iload (pc' := 85) rfl rfl rfl ?_
                refine go_ior (pc' := 86) rfl rfl ?_
                refine go_aload_n (pc' := 87) rfl rfl rfl ?_
                refine go_getR (pc' := 90) rfl rfl (o_kdE g0) rfl ?_
                refine go_iload (pc' := 92) rfl rfl rfl ?_
                obtain ⟨g4, h⟩ := o_gE h
                refine go_iaload (pc' := 93) rfl (o_inK g4) (o_inB g4) rfl ?_
                refine go_aload_n (pc' := 94) rfl rfl rfl ?_
                refine go_getR (pc' := 97) rfl rfl (o_kdE g1) rfl ?_
                refine go_iload (pc' := 99) rfl rfl rfl ?_
                obtain ⟨g5, h⟩ := o_gE h
                refine go_iaload (pc' := 100) rfl (o_inK g5) (o_inB g5) rfl ?_
                refine go_iadd (pc' := 101) rfl rfl ?_
                obtain ⟨g6, h⟩ := o_gE h
                obtain ⟨I_101, q_101, h⟩ := o_b1E h
                refine go_callV (pc' := 104) (B' := (0, 0)) (st' := []) rfl rfl (Or.inl (by decide)) rfl rfl (o_kdE g6) (md_113 (by omega) (o_kdE g6) q_101) rfl rfl rfl ?_
                obtain ⟨x4_104, ex4_104, h⟩ := o_b1E h
                refine go_iincE (pc' := 107) rfl rfl (y := (nI 1)) rfl ex4_104 (lo' := [some (.inr (.inr th)), some (.inr (.inr a0)), some (.inr (.inr a1)), some (.inl v3_32), some (.inl x4_104), some (.inl x5_58), some (.inl x6_67)]) rfl rfl ?_
                refine go_goto (pc' := 43) rfl rfl ?_
                exact (lp_backE h hk43 (some (.inl x5_58)) (some (.inl x6_67)) :))
          exact lo43 _ ((nI 0), I_32) hl43 z5_32 z6_32)
      exact lo32 _ ((nI 0), I_22) hl32 none none none
    · replace h := o_t (Decidable.of_not_not h25) h
      refine go_iconst (pc' := 29) (v := (nI 0)) rfl rfl rfl ?_
      cases h
      exact go_iret rfl (rfl) ⟨rfl, rfl, rfl, rfl, rfl⟩
/-- PricedBases$State.shelfAt(I)LPricedBases$Valuation; -/
def m_96 (th : Nat) (a0 : Int32) (Rf : ai_R) (G : ai_G) : Option (Nat) :=
  if a0 < 0 then (some 0) else (if (nI 4) ≤ a0 then (some 0) else (o_g (o_in G 15 (Rf th 0) a0) (some (Rf (Rf th 0) a0.toNatClampNeg))))
theorem md_96 {d : Nat} {I : ai_I} {J : ai_J} {Rf : ai_R} {G : ai_G} {th : Nat} {a0 : Int32} {r : Nat} (hd : 1 ≤ d) (hth : G.1 th = 6) (h : m_96 th a0 Rf G = some r) : ai_Cl si_t si_ms d 96 [.inr (.inr th), .inl a0] I J Rf G (some (.inr (.inr r))) I J Rf G := by
  obtain ⟨e, rfl⟩ : ∃ e, d = e + 1 := ⟨d - 1, by omega⟩
  unfold m_96 at h
  refine sp_in (lo := [some (.inr (.inr th)), some (.inl a0)]) (B := (0, 0)) rfl (Nat.le_of_ble_eq_true rfl) rfl rfl ?_
  refine go_iload_n (pc' := 1) rfl rfl rfl ?_
  refine go_if_lt (pt := 18) (pc' := 4) rfl rfl rfl (fun h1 => ?_) (fun h1 => ?_)
  · replace h := o_t h1 h
    refine go_null (pc' := 19) rfl rfl ?_
    cases h
    exact go_aret rfl (rfl) ⟨rfl, rfl, rfl, rfl, rfl⟩
  · replace h := o_f h1 h
    refine go_iload_n (pc' := 5) rfl rfl rfl ?_
    refine go_iconst (pc' := 6) (v := (nI 4)) rfl rfl rfl ?_
    refine go_icmp_ge (pt := 18) (pc' := 9) rfl rfl rfl (fun h6 => ?_) (fun h6 => ?_)
    · replace h := o_t h6 h
      refine go_null (pc' := 19) rfl rfl ?_
      cases h
      exact go_aret rfl (rfl) ⟨rfl, rfl, rfl, rfl, rfl⟩
    · replace h := o_f h6 h
      refine go_aload_n (pc' := 10) rfl rfl rfl ?_
      refine go_getR (pc' := 13) rfl rfl hth rfl ?_
      refine go_iload_n (pc' := 14) rfl rfl rfl ?_
      obtain ⟨g0, h⟩ := o_gE h
      refine go_aaload (pc' := 15) rfl (o_inK g0) (o_inB g0) rfl ?_
      refine go_goto (pc' := 19) rfl rfl ?_
      cases h
      exact go_aret rfl (rfl) ⟨rfl, rfl, rfl, rfl, rfl⟩
/-- PricedBases$Maker.isDerived(ILPricedBases$Valuation;ILPricedBases$State;)Z -/
def m_40 (th : Nat) (a0 : Int32) (a1 : Nat) (a2 : Int32) (a3 : Nat) (I : ai_I) (Rf : ai_R) (G : ai_G) : Option (Int32 × ai_I) :=
  if a0 = (5 : Int32) then (o_b2 (m_49 th a1 I Rf G) (fun r_54 I_54 => o_g (o_bz r_54) (some (r_54, I_54)))) else (if a0 = (6 : Int32) then (o_b2 (m_50 th a1 a2 (nI 0) I Rf G) (fun r_62 I_62 => o_g (o_bz r_62) (some (r_62, I_62)))) else (if a0 = (7 : Int32) then (o_b2 (m_50 th a1 a2 (nI 1) I Rf G) (fun r_70 I_70 => o_g (o_bz r_70) (some (r_70, I_70)))) else (if a0 = (8 : Int32) then (o_g (o_kd G a3 6) (o_b2 (m_51 th a1 (Rf a3 1) I Rf G) (fun r_81 I_81 => o_g (o_bz r_81) (some (r_81, I_81))))) else (if a0 = (9 : Int32) then (o_g (o_kd G a3 6) (o_b1 (m_96 a3 a2 Rf G) (fun r_90 => o_b2 (m_52 th a1 r_90 I Rf G) (fun r_93 I_93 => o_g (o_bz r_93) (some (r_93, I_93)))))) else (if a0 = (10 : Int32) then (o_b2 (m_53 th a1 I Rf G) (fun r_99 I_99 => o_g (o_bz r_99) (some (r_99, I_99)))) else (if a0 = (11 : Int32) then (o_g (o_kd G a3 6) (o_b2 (m_56 th a1 (Rf a3 1) I Rf G) (fun r_110 I_110 => o_g (o_bz r_110) (some (r_110, I_110))))) else (if a0 = (12 : Int32) then (o_b2 (m_54 th a1 I Rf G) (fun r_116 I_116 => o_g (o_bz r_116) (some (r_116, I_116)))) else (if a0 = (13 : Int32) then (o_g (o_kd G a3 6) (o_b1 (m_96 a3 a2 Rf G) (fun r_125 => o_b2 (m_57 th a1 r_125 I Rf G) (fun r_128 I_128 => o_g (o_bz r_128) (some (r_128, I_128)))))) else (some ((nI 0), I))))))))))
theorem md_40 {d : Nat} {I : ai_I} {J : ai_J} {Rf : ai_R} {G : ai_G} {th : Nat} {a0 : Int32} {a1 : Nat} {a2 : Int32} {a3 : Nat} {r : Int32} {I1 : ai_I} (hd : 5 ≤ d) (hth : G.1 th = 3) (h : m_40 th a0 a1 a2 a3 I Rf G = some (r, I1)) : ai_Cl si_t si_ms d 40 [.inr (.inr th), .inl a0, .inr (.inr a1), .inl a2, .inr (.inr a3)] I J Rf G (some (.inl r)) I1 J Rf G := by
  obtain ⟨e, rfl⟩ : ∃ e, d = e + 1 := ⟨d - 1, by omega⟩
  unfold m_40 at h
  refine sp_in (lo := [some (.inr (.inr th)), some (.inl a0), some (.inr (.inr a1)), some (.inl a2), some (.inr (.inr a3))]) (B := (0, 0)) rfl (Nat.le_of_ble_eq_true rfl) rfl rfl ?_
  refine go_iload_n (pc' := 1) rfl rfl rfl ?_
  by_cases c1_0 : a0 = (5 : Int32)
  · replace h := o_t c1_0 h
    refine go_swIn (pc' := 52) 0 rfl rfl (by rw [c1_0]; decide) (by rw [c1_0]; decide) rfl ?_
    refine go_aload_n (pc' := 53) rfl rfl rfl ?_
    refine go_aload_n (pc' := 54) rfl rfl rfl ?_
    obtain ⟨r_54, I_54, q_54, h⟩ := o_b2E h
    refine go_callV (pc' := 57) (B' := (0, 0)) (st' := [.inl r_54]) rfl rfl (Or.inl (by decide)) rfl rfl hth (md_49 (by omega) hth q_54) rfl rfl rfl ?_
    obtain ⟨g0, h⟩ := o_gE h
    cases h
    exact go_iret rfl (o_bzE g0) ⟨rfl, rfl, rfl, rfl, rfl⟩
  replace h := o_f c1_0 h
  by_cases c1_1 : a0 = (6 : Int32)
  · replace h := o_t c1_1 h
    refine go_swIn (pc' := 58) 1 rfl rfl (by rw [c1_1]; decide) (by rw [c1_1]; decide) rfl ?_
    refine go_aload_n (pc' := 59) rfl rfl rfl ?_
    refine go_aload_n (pc' := 60) rfl rfl rfl ?_
    refine go_iload_n (pc' := 61) rfl rfl rfl ?_
    refine go_iconst (pc' := 62) (v := (nI 0)) rfl rfl rfl ?_
    obtain ⟨r_62, I_62, q_62, h⟩ := o_b2E h
    refine go_callV (pc' := 65) (B' := (0, 0)) (st' := [.inl r_62]) rfl rfl (Or.inl (by decide)) rfl rfl hth (md_50 (by omega) hth q_62) rfl rfl rfl ?_
    obtain ⟨g1, h⟩ := o_gE h
    cases h
    exact go_iret rfl (o_bzE g1) ⟨rfl, rfl, rfl, rfl, rfl⟩
  replace h := o_f c1_1 h
  by_cases c1_2 : a0 = (7 : Int32)
  · replace h := o_t c1_2 h
    refine go_swIn (pc' := 66) 2 rfl rfl (by rw [c1_2]; decide) (by rw [c1_2]; decide) rfl ?_
    refine go_aload_n (pc' := 67) rfl rfl rfl ?_
    refine go_aload_n (pc' := 68) rfl rfl rfl ?_
    refine go_iload_n (pc' := 69) rfl rfl rfl ?_
    refine go_iconst (pc' := 70) (v := (nI 1)) rfl rfl rfl ?_
    obtain ⟨r_70, I_70, q_70, h⟩ := o_b2E h
    refine go_callV (pc' := 73) (B' := (0, 0)) (st' := [.inl r_70]) rfl rfl (Or.inl (by decide)) rfl rfl hth (md_50 (by omega) hth q_70) rfl rfl rfl ?_
    obtain ⟨g2, h⟩ := o_gE h
    cases h
    exact go_iret rfl (o_bzE g2) ⟨rfl, rfl, rfl, rfl, rfl⟩
  replace h := o_f c1_2 h
  by_cases c1_3 : a0 = (8 : Int32)
  · replace h := o_t c1_3 h
    refine go_swIn (pc' := 74) 3 rfl rfl (by rw [c1_3]; decide) (by rw [c1_3]; decide) rfl ?_
    refine go_aload_n (pc' := 75) rfl rfl rfl ?_
    refine go_aload_n (pc' := 76) rfl rfl rfl ?_
    refine go_aload (pc' := 78) rfl rfl rfl ?_
    obtain ⟨g3, h⟩ := o_gE h
    refine go_getR (pc' := 81) rfl rfl (o_kdE g3) rfl ?_
    obtain ⟨r_81, I_81, q_81, h⟩ := o_b2E h
    refine go_callV (pc' := 84) (B' := (0, 0)) (st' := [.inl r_81]) rfl rfl (Or.inl (by decide)) rfl rfl hth (md_51 (by omega) hth q_81) rfl rfl rfl ?_
    obtain ⟨g4, h⟩ := o_gE h
    cases h
    exact go_iret rfl (o_bzE g4) ⟨rfl, rfl, rfl, rfl, rfl⟩
  replace h := o_f c1_3 h
  by_cases c1_4 : a0 = (9 : Int32)
  · replace h := o_t c1_4 h
    refine go_swIn (pc' := 85) 4 rfl rfl (by rw [c1_4]; decide) (by rw [c1_4]; decide) rfl ?_
    refine go_aload_n (pc' := 86) rfl rfl rfl ?_
    refine go_aload_n (pc' := 87) rfl rfl rfl ?_
    refine go_aload (pc' := 89) rfl rfl rfl ?_
    refine go_iload_n (pc' := 90) rfl rfl rfl ?_
    obtain ⟨g5, h⟩ := o_gE h
    obtain ⟨r_90, q_90, h⟩ := o_b1E h
    refine go_callV (pc' := 93) (B' := (0, 0)) (st' := [.inr (.inr r_90), .inr (.inr a1), .inr (.inr th)]) rfl rfl (Or.inl (by decide)) rfl rfl (o_kdE g5) (md_96 (by omega) (o_kdE g5) q_90) rfl rfl rfl ?_
    obtain ⟨r_93, I_93, q_93, h⟩ := o_b2E h
    refine go_callV (pc' := 96) (B' := (0, 0)) (st' := [.inl r_93]) rfl rfl (Or.inl (by decide)) rfl rfl hth (md_52 (by omega) hth q_93) rfl rfl rfl ?_
    obtain ⟨g6, h⟩ := o_gE h
    cases h
    exact go_iret rfl (o_bzE g6) ⟨rfl, rfl, rfl, rfl, rfl⟩
  replace h := o_f c1_4 h
  by_cases c1_5 : a0 = (10 : Int32)
  · replace h := o_t c1_5 h
    refine go_swIn (pc' := 97) 5 rfl rfl (by rw [c1_5]; decide) (by rw [c1_5]; decide) rfl ?_
    refine go_aload_n (pc' := 98) rfl rfl rfl ?_
    refine go_aload_n (pc' := 99) rfl rfl rfl ?_
    obtain ⟨r_99, I_99, q_99, h⟩ := o_b2E h
    refine go_callV (pc' := 102) (B' := (0, 0)) (st' := [.inl r_99]) rfl rfl (Or.inl (by decide)) rfl rfl hth (md_53 (by omega) hth q_99) rfl rfl rfl ?_
    obtain ⟨g7, h⟩ := o_gE h
    cases h
    exact go_iret rfl (o_bzE g7) ⟨rfl, rfl, rfl, rfl, rfl⟩
  replace h := o_f c1_5 h
  by_cases c1_6 : a0 = (11 : Int32)
  · replace h := o_t c1_6 h
    refine go_swIn (pc' := 103) 6 rfl rfl (by rw [c1_6]; decide) (by rw [c1_6]; decide) rfl ?_
    refine go_aload_n (pc' := 104) rfl rfl rfl ?_
    refine go_aload_n (pc' := 105) rfl rfl rfl ?_
    refine go_aload (pc' := 107) rfl rfl rfl ?_
    obtain ⟨g8, h⟩ := o_gE h
    refine go_getR (pc' := 110) rfl rfl (o_kdE g8) rfl ?_
    obtain ⟨r_110, I_110, q_110, h⟩ := o_b2E h
    refine go_callV (pc' := 113) (B' := (0, 0)) (st' := [.inl r_110]) rfl rfl (Or.inl (by decide)) rfl rfl hth (md_56 (by omega) hth q_110) rfl rfl rfl ?_
    obtain ⟨g9, h⟩ := o_gE h
    cases h
    exact go_iret rfl (o_bzE g9) ⟨rfl, rfl, rfl, rfl, rfl⟩
  replace h := o_f c1_6 h
  by_cases c1_7 : a0 = (12 : Int32)
  · replace h := o_t c1_7 h
    refine go_swIn (pc' := 114) 7 rfl rfl (by rw [c1_7]; decide) (by rw [c1_7]; decide) rfl ?_
    refine go_aload_n (pc' := 115) rfl rfl rfl ?_
    refine go_aload_n (pc' := 116) rfl rfl rfl ?_
    obtain ⟨r_116, I_116, q_116, h⟩ := o_b2E h
    refine go_callV (pc' := 119) (B' := (0, 0)) (st' := [.inl r_116]) rfl rfl (Or.inl (by decide)) rfl rfl hth (md_54 (by omega) hth q_116) rfl rfl rfl ?_
    obtain ⟨g10, h⟩ := o_gE h
    cases h
    exact go_iret rfl (o_bzE g10) ⟨rfl, rfl, rfl, rfl, rfl⟩
  replace h := o_f c1_7 h
  by_cases c1_8 : a0 = (13 : Int32)
  · replace h := o_t c1_8 h
    refine go_swIn (pc' := 120) 8 rfl rfl (by rw [c1_8]; decide) (by rw [c1_8]; decide) rfl ?_
    refine go_aload_n (pc' := 121) rfl rfl rfl ?_
    refine go_aload_n (pc' := 122) rfl rfl rfl ?_
    refine go_aload (pc' := 124) rfl rfl rfl ?_
    refine go_iload_n (pc' := 125) rfl rfl rfl ?_
    obtain ⟨g11, h⟩ := o_gE h
    obtain ⟨r_125, q_125, h⟩ := o_b1E h
    refine go_callV (pc' := 128) (B' := (0, 0)) (st' := [.inr (.inr r_125), .inr (.inr a1), .inr (.inr th)]) rfl rfl (Or.inl (by decide)) rfl rfl (o_kdE g11) (md_96 (by omega) (o_kdE g11) q_125) rfl rfl rfl ?_
    obtain ⟨r_128, I_128, q_128, h⟩ := o_b2E h
    refine go_callV (pc' := 131) (B' := (0, 0)) (st' := [.inl r_128]) rfl rfl (Or.inl (by decide)) rfl rfl hth (md_57 (by omega) hth q_128) rfl rfl rfl ?_
    obtain ⟨g12, h⟩ := o_gE h
    cases h
    exact go_iret rfl (o_bzE g12) ⟨rfl, rfl, rfl, rfl, rfl⟩
  replace h := o_f c1_8 h
  refine go_swOut (pc' := 132) rfl (by
      rw [← Int32.toInt_inj] at c1_0
      rw [← Int32.toInt_inj] at c1_1
      rw [← Int32.toInt_inj] at c1_2
      rw [← Int32.toInt_inj] at c1_3
      rw [← Int32.toInt_inj] at c1_4
      rw [← Int32.toInt_inj] at c1_5
      rw [← Int32.toInt_inj] at c1_6
      rw [← Int32.toInt_inj] at c1_7
      rw [← Int32.toInt_inj] at c1_8
      have c1_0 : ¬ a0.toInt = 5 := c1_0
      have c1_1 : ¬ a0.toInt = 6 := c1_1
      have c1_2 : ¬ a0.toInt = 7 := c1_2
      have c1_3 : ¬ a0.toInt = 8 := c1_3
      have c1_4 : ¬ a0.toInt = 9 := c1_4
      have c1_5 : ¬ a0.toInt = 10 := c1_5
      have c1_6 : ¬ a0.toInt = 11 := c1_6
      have c1_7 : ¬ a0.toInt = 12 := c1_7
      have c1_8 : ¬ a0.toInt = 13 := c1_8
      show a0.toInt < 5 ∨ 5 + ((9 : Nat) : Int) ≤ a0.toInt
      omega) rfl ?_
  refine go_iconst (pc' := 133) (v := (nI 0)) rfl rfl rfl ?_
  cases h
  exact go_iret rfl (rfl) ⟨rfl, rfl, rfl, rfl, rfl⟩
def m_115_x4_96 (Ix_96 : ai_I) : Option (ai_I) :=
  some Ix_96
def m_115_j89 (th : Nat) (Rf : ai_R) (G : ai_G) (v1_4 : Int32) (I_4 : ai_I) (t2_89 : Int32) : Option ((Int32 × ai_I) ⊕ ai_I) :=
  o_g (o_in G 13 (Rf th 4) v1_4) (o_b1 (some (va_up I_4 (Rf th 4) (va_up (I_4 (Rf th 4)) v1_4.toNatClampNeg t2_89))) (fun I_89 => o_b1 (some (v1_4 + (-1 : Int32))) (fun x1_90 => some (Sum.inl (x1_90, I_89)))))
def m_115_x27_72 (th : Nat) (Rf : ai_R) (G : ai_G) (v1_4 : Int32) (I_4 : ai_I) (w2_72 : Int32) : Option ((Int32 × ai_I) ⊕ ai_I) :=
  if w2_72 = 0 then (m_115_j89 th Rf G v1_4 I_4 (-1 : Int32)) else (o_b1 (m_331 v1_4) (fun r_82 => m_115_j89 th Rf G v1_4 I_4 r_82))
def m_115_b27 (th : Nat) (Rf : ai_R) (G : ai_G) (v1_4 : Int32) (I_4 : ai_I) (v2_27 : Int32) (v3_27 : Int32) : Option ((Int32 × Int32) ⊕ Int32) :=
  if (I_4 th 0) ≤ v3_27 then (some (Sum.inr v2_27)) else (if v2_27 = 0 then (o_b1 (m_183 v1_4 v3_27) (fun r_41 => if r_41 = 0 then (o_g (o_in G 13 (Rf th 4) (v1_4 ||| ((nI 1) <<< (v3_27 &&& 31)))) (if (I_4 (Rf th 4) (v1_4 ||| ((nI 1) <<< (v3_27 &&& 31))).toNatClampNeg) < 0 then (o_b1 (some (v3_27 + (nI 1))) (fun x3_66 => some (Sum.inl ((nI 0), x3_66)))) else (o_b1 (some (v3_27 + (nI 1))) (fun x3_66 => some (Sum.inl ((nI 1), x3_66)))))) else (o_b1 (some (v3_27 + (nI 1))) (fun x3_66 => some (Sum.inl ((nI 0), x3_66)))))) else (some (Sum.inr v2_27)))
def m_115_j24 (th : Nat) (Rf : ai_R) (G : ai_G) (v1_4 : Int32) (I_4 : ai_I) (t0_24 : Int32) : Option ((Int32 × ai_I) ⊕ ai_I) :=
  o_s1 (lp (fun s => m_115_b27 th Rf G v1_4 I_4 s.1 s.2) o_N (t0_24, (nI 0))) (fun t => m_115_x27_72 th Rf G v1_4 I_4 t)
def m_115_b4 (th : Nat) (Rf : ai_R) (G : ai_G) (v1_4 : Int32) (I_4 : ai_I) : Option ((Int32 × ai_I) ⊕ ai_I) :=
  if v1_4 < 0 then (some (Sum.inr I_4)) else (o_g (o_in G 13 (Rf th 3) v1_4) (if (I_4 (Rf th 3) v1_4.toNatClampNeg) = (-2147483648 : Int32) then (m_115_j24 th Rf G v1_4 I_4 (nI 0)) else (m_115_j24 th Rf G v1_4 I_4 (nI 1))))
/-- PricedBases$Valuation.markFree()V -/
def m_115 (th : Nat) (I : ai_I) (Rf : ai_R) (G : ai_G) : Option (ai_I) :=
  o_s1 (lp (fun s => m_115_b4 th Rf G s.1 s.2) o_N ((nI 255), I)) (fun t => m_115_x4_96 t)
theorem md_115 {d : Nat} {I : ai_I} {J : ai_J} {Rf : ai_R} {G : ai_G} {th : Nat} {I1 : ai_I} (hd : 2 ≤ d) (hth : G.1 th = 8) (h : m_115 th I Rf G = some I1) : ai_Cl si_t si_ms d 115 [.inr (.inr th)] I J Rf G none I1 J Rf G := by
  obtain ⟨e, rfl⟩ : ∃ e, d = e + 1 := ⟨d - 1, by omega⟩
  unfold m_115 at h
  refine sp_in (lo := [some (.inr (.inr th)), none, none, none]) (B := (0, 0)) rfl (Nat.le_of_ble_eq_true rfl) rfl rfl ?_
  refine go_sipush (pc' := 3) (v := (nI 255)) rfl rfl rfl ?_
  refine go_istore_n (pc' := 4) (lo' := [some (.inr (.inr th)), some (.inl (nI 255)), none, none]) rfl rfl rfl ?_
  obtain ⟨q4, hl4, hc4_96⟩ := o_s1E h
  have ex4_96 : ∀ (Ix_96 : ai_I) (z1_x96 : Option ai_V) (z2_x96 : Option ai_V) (z3_x96 : Option ai_V), Ix_96 = q4 → ai_Go si_t (8, false, 9, cd_115) (ai_Cl si_t si_ms e) (sp_Q none I1 J Rf G) 96 [some (.inr (.inr th)), z1_x96, z2_x96, z3_x96] [] (0, 0) Ix_96 J Rf G := by
    intro Ix_96 z1_x96 z2_x96 z3_x96 hq
    have h : m_115_x4_96 Ix_96 = some I1 := hc4_96 Ix_96 hq.symm
    unfold m_115_x4_96 at h
    cases h
    exact go_vret rfl (rfl) ⟨rfl, rfl, rfl, rfl, rfl⟩
  have lo4 : ∀ n s, lp (fun s => m_115_b4 th Rf G s.1 s.2) n s = some q4 → (fun s => ∀ (z2_4 : Option ai_V) (z3_4 : Option ai_V), ai_Go si_t (8, false, 9, cd_115) (ai_Cl si_t si_ms e) (sp_Q none I1 J Rf G) 4 [some (.inr (.inr th)), some (.inl s.1), z2_4, z3_4] [] (0, 0) s.2 J Rf G) s := lp_go (fun s x4 hx hk4 => by
    obtain ⟨v1_4, I_4⟩ := s
    intro z2_4 z3_4
    have h : m_115_b4 th Rf G v1_4 I_4 = some x4 := hx
    clear hx
    show ai_Go si_t (8, false, 9, cd_115) (ai_Cl si_t si_ms e) (sp_Q none I1 J Rf G) 4 [some (.inr (.inr th)), some (.inl v1_4), z2_4, z3_4] [] (0, 0) I_4 J Rf G
    unfold m_115_b4 at h
    refine go_iload_n (pc' := 5) rfl rfl rfl ?_
    refine go_if_lt (pt := 96) (pc' := 8) rfl rfl rfl (fun h5 => ?_) (fun h5 => ?_)
    · replace h := o_t h5 h
      exact ex4_96 _ (some (.inl v1_4)) z2_4 z3_4 (lp_exitE h hk4)
    · replace h := o_f h5 h
      refine go_aload_n (pc' := 9) rfl rfl rfl ?_
      refine go_getR (pc' := 12) rfl rfl hth rfl ?_
      refine go_iload_n (pc' := 13) rfl rfl rfl ?_
      obtain ⟨g0, h⟩ := o_gE h
      refine go_iaload (pc' := 14) rfl (o_inK g0) (o_inB g0) rfl ?_
      refine go_ldc (pc' := 16) (v := .inl (-2147483648 : Int32)) rfl rfl rfl ?_
      have jn24 : ∀ (t0_24 : Int32) (z2_24 : Option ai_V) (z3_24 : Option ai_V), m_115_j24 th Rf G v1_4 I_4 t0_24 = some x4 → ai_Go si_t (8, false, 9, cd_115) (ai_Cl si_t si_ms e) (sp_Q none I1 J Rf G) 24 [some (.inr (.inr th)), some (.inl v1_4), z2_24, z3_24] [.inl t0_24] (0, 0) I_4 J Rf G := by
        intro t0_24 z2_24 z3_24 h
        unfold m_115_j24 at h
        refine go_istore_n (pc' := 25) (lo' := [some (.inr (.inr th)), some (.inl v1_4), some (.inl t0_24), z3_24]) rfl rfl rfl ?_
        refine go_iconst (pc' := 26) (v := (nI 0)) rfl rfl rfl ?_
        refine go_istore_n (pc' := 27) (lo' := [some (.inr (.inr th)), some (.inl v1_4), some (.inl t0_24), some (.inl (nI 0))]) rfl rfl rfl ?_
        obtain ⟨q27, hl27, hc27_72⟩ := o_s1E h
        have ex27_72 : ∀ (w2_72 : Int32) (z3_x72 : Option ai_V), w2_72 = q27 → ai_Go si_t (8, false, 9, cd_115) (ai_Cl si_t si_ms e) (sp_Q none I1 J Rf G) 72 [some (.inr (.inr th)), some (.inl v1_4), some (.inl w2_72), z3_x72] [] (0, 0) I_4 J Rf G := by
          intro w2_72 z3_x72 hq
          have h : m_115_x27_72 th Rf G v1_4 I_4 w2_72 = some x4 := hc27_72 w2_72 hq.symm
          unfold m_115_x27_72 at h
          refine go_aload_n (pc' := 73) rfl rfl rfl ?_
          refine go_getR (pc' := 76) rfl rfl hth rfl ?_
          refine go_iload_n (pc' := 77) rfl rfl rfl ?_
          refine go_iload_n (pc' := 78) rfl rfl rfl ?_
          have jn89 : ∀ (t2_89 : Int32) (z3_89 : Option ai_V), m_115_j89 th Rf G v1_4 I_4 t2_89 = some x4 → ai_Go si_t (8, false, 9, cd_115) (ai_Cl si_t si_ms e) (sp_Q none I1 J Rf G) 89 [some (.inr (.inr th)), some (.inl v1_4), some (.inl w2_72), z3_89] [.inl t2_89, .inl v1_4, .inr (.inr (Rf th 4))] (0, 0) I_4 J Rf G := by
            intro t2_89 z3_89 h
            unfold m_115_j89 at h
            obtain ⟨g1, h⟩ := o_gE h
            obtain ⟨I_89, eI_89, h⟩ := o_b1E h
            refine go_iastore (pc' := 90) rfl (o_inK g1) (o_inB g1) rfl ?_
            refine go_ndMI eI_89 ?_
            obtain ⟨x1_90, ex1_90, h⟩ := o_b1E h
            refine go_iincE (pc' := 93) rfl rfl (y := (-1 : Int32)) rfl ex1_90 (lo' := [some (.inr (.inr th)), some (.inl x1_90), some (.inl w2_72), z3_89]) rfl rfl ?_
            refine go_goto (pc' := 4) rfl rfl ?_
            exact (lp_backE h hk4 (some (.inl w2_72)) z3_89 :)
          refine go_if_eq (pt := 88) (pc' := 81) rfl rfl rfl (fun h78 => ?_) (fun h78 => ?_)
          · replace h := o_t h78 h
            refine go_iconst (pc' := 89) (v := (-1 : Int32)) rfl rfl rfl ?_
            exact jn89 (-1 : Int32) z3_x72 h
          · replace h := o_f h78 h
            refine go_iload_n (pc' := 82) rfl rfl rfl ?_
            obtain ⟨r_82, q_82, h⟩ := o_b1E h
            refine go_callS (pc' := 85) (B' := (0, 0)) (st' := [.inl r_82, .inl v1_4, .inr (.inr (Rf th 4))]) rfl rfl (Or.inl (by decide)) rfl rfl trivial (md_331 (by omega) q_82) rfl rfl rfl ?_
            refine go_goto (pc' := 89) rfl rfl ?_
            exact jn89 r_82 z3_x72 h
        have lo27 : ∀ n s, lp (fun s => m_115_b27 th Rf G v1_4 I_4 s.1 s.2) n s = some q27 → (fun s => ai_Go si_t (8, false, 9, cd_115) (ai_Cl si_t si_ms e) (sp_Q none I1 J Rf G) 27 [some (.inr (.inr th)), some (.inl v1_4), some (.inl s.1), some (.inl s.2)] [] (0, 0) I_4 J Rf G) s := lp_go (fun s x27 hx hk27 => by
          obtain ⟨v2_27, v3_27⟩ := s
          have h : m_115_b27 th Rf G v1_4 I_4 v2_27 v3_27 = some x27 := hx
          clear hx
          show ai_Go si_t (8, false, 9, cd_115) (ai_Cl si_t si_ms e) (sp_Q none I1 J Rf G) 27 [some (.inr (.inr th)), some (.inl v1_4), some (.inl v2_27), some (.inl v3_27)] [] (0, 0) I_4 J Rf G
          unfold m_115_b27 at h
          refine go_iload_n (pc' := 28) rfl rfl rfl ?_
          refine go_aload_n (pc' := 29) rfl rfl rfl ?_
          refine go_getI (pc' := 32) rfl rfl (by decide) (by decide) hth rfl ?_
          refine go_icmp_ge (pt := 72) (pc' := 35) rfl rfl rfl (fun h32 => ?_) (fun h32 => ?_)
          · replace h := o_t h32 h
            exact ex27_72 _ (some (.inl v3_27)) (lp_exitE h hk27)
          · replace h := o_f h32 h
            refine go_iload_n (pc' := 36) rfl rfl rfl ?_
            refine go_if_ne (pt := 72) (pc' := 39) rfl rfl rfl (fun h36 => ?_) (fun h36 => ?_)
            · replace h := o_f h36 h
              exact ex27_72 _ (some (.inl v3_27)) (lp_exitE h hk27)
            · replace h := o_t (Decidable.of_not_not h36) h
              refine go_iload_n (pc' := 40) rfl rfl rfl ?_
              refine go_iload_n (pc' := 41) rfl rfl rfl ?_
              obtain ⟨r_41, q_41, h⟩ := o_b1E h
              refine go_callS (pc' := 44) (B' := (0, 0)) (st' := [.inl r_41]) rfl rfl (Or.inl (by decide)) rfl rfl trivial (md_183 (by omega) q_41) rfl rfl rfl ?_
              refine go_if_ne (pt := 64) (pc' := 47) rfl rfl rfl (fun h44 => ?_) (fun h44 => ?_)
              · replace h := o_f h44 h
                refine go_iconst (pc' := 65) (v := (nI 0)) rfl rfl rfl ?_
                refine go_istore_n (pc' := 66) (lo' := [some (.inr (.inr th)), some (.inl v1_4), some (.inl (nI 0)), some (.inl v3_27)]) rfl rfl rfl ?_
                obtain ⟨x3_66, ex3_66, h⟩ := o_b1E h
                refine go_iincE (pc' := 69) rfl rfl (y := (nI 1)) rfl ex3_66 (lo' := [some (.inr (.inr th)), some (.inl v1_4), some (.inl (nI 0)), some (.inl x3_66)]) rfl rfl ?_
                refine go_goto (pc' := 27) rfl rfl ?_
                exact (lp_backE h hk27 :)
              · replace h := o_t (Decidable.of_not_not h44) h
                refine go_aload_n (pc' := 48) rfl rfl rfl ?_
                refine go_getR (pc' := 51) rfl rfl hth rfl ?_
                refine go_iload_n (pc' := 52) rfl rfl rfl ?_
                refine go_iconst (pc' := 53) (v := (nI 1)) rfl rfl rfl ?_
                refine go_iload_n (pc' := 54) rfl rfl rfl ?_
                refine go_ishl (pc' := 55) rfl rfl ?_
                refine go_ior (pc' := 56) rfl rfl ?_
                obtain ⟨g2, h⟩ := o_gE h
                refine go_iaload (pc' := 57) rfl (o_inK g2) (o_inB g2) rfl ?_
                refine go_if_lt (pt := 64) (pc' := 60) rfl rfl rfl (fun h57 => ?_) (fun h57 => ?_)
                · replace h := o_t h57 h
                  refine go_iconst (pc' := 65) (v := (nI 0)) rfl rfl rfl ?_
                  refine go_istore_n (pc' := 66) (lo' := [some (.inr (.inr th)), some (.inl v1_4), some (.inl (nI 0)), some (.inl v3_27)]) rfl rfl rfl ?_
                  obtain ⟨x3_66, ex3_66, h⟩ := o_b1E h
                  refine go_iincE (pc' := 69) rfl rfl (y := (nI 1)) rfl ex3_66 (lo' := [some (.inr (.inr th)), some (.inl v1_4), some (.inl (nI 0)), some (.inl x3_66)]) rfl rfl ?_
                  refine go_goto (pc' := 27) rfl rfl ?_
                  exact (lp_backE h hk27 :)
                · replace h := o_f h57 h
                  refine go_iconst (pc' := 61) (v := (nI 1)) rfl rfl rfl ?_
                  refine go_goto (pc' := 65) rfl rfl ?_
                  refine go_istore_n (pc' := 66) (lo' := [some (.inr (.inr th)), some (.inl v1_4), some (.inl (nI 1)), some (.inl v3_27)]) rfl rfl rfl ?_
                  obtain ⟨x3_66, ex3_66, h⟩ := o_b1E h
                  refine go_iincE (pc' := 69) rfl rfl (y := (nI 1)) rfl ex3_66 (lo' := [some (.inr (.inr th)), some (.inl v1_4), some (.inl (nI 1)), some (.inl x3_66)]) rfl rfl ?_
                  refine go_goto (pc' := 27) rfl rfl ?_
                  exact (lp_backE h hk27 :))
        exact lo27 _ (t0_24, (nI 0)) hl27 
      refine go_icmp_eq (pt := 23) (pc' := 19) rfl rfl rfl (fun h16 => ?_) (fun h16 => ?_)
      · replace h := o_t h16 h
        refine go_iconst (pc' := 24) (v := (nI 0)) rfl rfl rfl ?_
        exact jn24 (nI 0) z2_4 z3_4 h
      · replace h := o_f h16 h
        refine go_iconst (pc' := 20) (v := (nI 1)) rfl rfl rfl ?_
        refine go_goto (pc' := 24) rfl rfl ?_
        exact jn24 (nI 1) z2_4 z3_4 h)
  exact lo4 _ ((nI 255), I) hl4 none none
def m_116_x4_39 (w2_39 : Int32) : Option (Int32) :=
  some w2_39
def m_116_b4 (th : Nat) (a0 : Int32) (I : ai_I) (Rf : ai_R) (G : ai_G) (v2_4 : Int32) (v3_4 : Int32) : Option ((Int32 × Int32) ⊕ Int32) :=
  if (nI 8) ≤ v3_4 then (some (Sum.inr v2_4)) else (o_b1 (m_183 a0 v3_4) (fun r_12 => if r_12 = 0 then (o_b1 (some (v3_4 + (nI 1))) (fun x3_33 => some (Sum.inl (v2_4, x3_33)))) else (o_g (o_in G 13 (Rf th 4) (a0 ^^^ ((nI 1) <<< (v3_4 &&& 31)))) (o_b1 (some (if v2_4 < (I (Rf th 4) (a0 ^^^ ((nI 1) <<< (v3_4 &&& 31))).toNatClampNeg) then (I (Rf th 4) (a0 ^^^ ((nI 1) <<< (v3_4 &&& 31))).toNatClampNeg) else v2_4)) (fun r_29 => o_b1 (some (v3_4 + (nI 1))) (fun x3_33 => some (Sum.inl (r_29, x3_33))))))))
/-- PricedBases$Valuation.rankByParts(I)I -/
def m_116 (th : Nat) (a0 : Int32) (I : ai_I) (Rf : ai_R) (G : ai_G) : Option (Int32) :=
  o_s1 (lp (fun s => m_116_b4 th a0 I Rf G s.1 s.2) o_N ((nI 0), (nI 0))) (fun t => m_116_x4_39 t)
theorem md_116 {d : Nat} {I : ai_I} {J : ai_J} {Rf : ai_R} {G : ai_G} {th : Nat} {a0 : Int32} {r : Int32} (hd : 2 ≤ d) (hth : G.1 th = 8) (h : m_116 th a0 I Rf G = some r) : ai_Cl si_t si_ms d 116 [.inr (.inr th), .inl a0] I J Rf G (some (.inl r)) I J Rf G := by
  obtain ⟨e, rfl⟩ : ∃ e, d = e + 1 := ⟨d - 1, by omega⟩
  unfold m_116 at h
  refine sp_in (lo := [some (.inr (.inr th)), some (.inl a0), none, none]) (B := (0, 0)) rfl (Nat.le_of_ble_eq_true rfl) rfl rfl ?_
  refine go_iconst (pc' := 1) (v := (nI 0)) rfl rfl rfl ?_
  refine go_istore_n (pc' := 2) (lo' := [some (.inr (.inr th)), some (.inl a0), some (.inl (nI 0)), none]) rfl rfl rfl ?_
  refine go_iconst (pc' := 3) (v := (nI 0)) rfl rfl rfl ?_
  refine go_istore_n (pc' := 4) (lo' := [some (.inr (.inr th)), some (.inl a0), some (.inl (nI 0)), some (.inl (nI 0))]) rfl rfl rfl ?_
  obtain ⟨q4, hl4, hc4_39⟩ := o_s1E h
  have ex4_39 : ∀ (w2_39 : Int32) (z3_x39 : Option ai_V), w2_39 = q4 → ai_Go si_t (8, false, 0, cd_116) (ai_Cl si_t si_ms e) (sp_Q (some (.inl r)) I J Rf G) 39 [some (.inr (.inr th)), some (.inl a0), some (.inl w2_39), z3_x39] [] (0, 0) I J Rf G := by
    intro w2_39 z3_x39 hq
    have h : m_116_x4_39 w2_39 = some r := hc4_39 w2_39 hq.symm
    unfold m_116_x4_39 at h
    refine go_iload_n (pc' := 40) rfl rfl rfl ?_
    cases h
    exact go_iret rfl (trivial) ⟨rfl, rfl, rfl, rfl, rfl⟩
  have lo4 : ∀ n s, lp (fun s => m_116_b4 th a0 I Rf G s.1 s.2) n s = some q4 → (fun s => ai_Go si_t (8, false, 0, cd_116) (ai_Cl si_t si_ms e) (sp_Q (some (.inl r)) I J Rf G) 4 [some (.inr (.inr th)), some (.inl a0), some (.inl s.1), some (.inl s.2)] [] (0, 0) I J Rf G) s := lp_go (fun s x4 hx hk4 => by
    obtain ⟨v2_4, v3_4⟩ := s
    have h : m_116_b4 th a0 I Rf G v2_4 v3_4 = some x4 := hx
    clear hx
    show ai_Go si_t (8, false, 0, cd_116) (ai_Cl si_t si_ms e) (sp_Q (some (.inl r)) I J Rf G) 4 [some (.inr (.inr th)), some (.inl a0), some (.inl v2_4), some (.inl v3_4)] [] (0, 0) I J Rf G
    unfold m_116_b4 at h
    refine go_iload_n (pc' := 5) rfl rfl rfl ?_
    refine go_bipush (pc' := 7) (v := (nI 8)) rfl rfl rfl ?_
    refine go_icmp_ge (pt := 39) (pc' := 10) rfl rfl rfl (fun h7 => ?_) (fun h7 => ?_)
    · replace h := o_t h7 h
      exact ex4_39 _ (some (.inl v3_4)) (lp_exitE h hk4)
    · replace h := o_f h7 h
      refine go_iload_n (pc' := 11) rfl rfl rfl ?_
      refine go_iload_n (pc' := 12) rfl rfl rfl ?_
      obtain ⟨r_12, q_12, h⟩ := o_b1E h
      refine go_callS (pc' := 15) (B' := (0, 0)) (st' := [.inl r_12]) rfl rfl (Or.inl (by decide)) rfl rfl trivial (md_183 (by omega) q_12) rfl rfl rfl ?_
      refine go_if_eq (pt := 33) (pc' := 18) rfl rfl rfl (fun h15 => ?_) (fun h15 => ?_)
      · replace h := o_t h15 h
        obtain ⟨x3_33, ex3_33, h⟩ := o_b1E h
        refine go_iincE (pc' := 36) rfl rfl (y := (nI 1)) rfl ex3_33 (lo' := [some (.inr (.inr th)), some (.inl a0), some (.inl v2_4), some (.inl x3_33)]) rfl rfl ?_
        refine go_goto (pc' := 4) rfl rfl ?_
        exact (lp_backE h hk4 :)
      · replace h := o_f h15 h
        refine go_iload_n (pc' := 19) rfl rfl rfl ?_
        refine go_aload_n (pc' := 20) rfl rfl rfl ?_
        refine go_getR (pc' := 23) rfl rfl hth rfl ?_
        refine go_iload_n (pc' := 24) rfl rfl rfl ?_
        refine go_iconst (pc' := 25) (v := (nI 1)) rfl rfl rfl ?_
        refine go_iload_n (pc' := 26) rfl rfl rfl ?_
        refine go_ishl (pc' := 27) rfl rfl ?_
        refine go_ixor (pc' := 28) rfl rfl ?_
        obtain ⟨g0, h⟩ := o_gE h
        refine go_iaload (pc' := 29) rfl (o_inK g0) (o_inB g0) rfl ?_
        refine go_max (pc' := 32) rfl rfl (Nat.le_of_ble_eq_true rfl) rfl ?_
        obtain ⟨r_29, er_29, h⟩ := o_b1E h
        refine go_ndI er_29 ?_
        refine go_istore_n (pc' := 33) (lo' := [some (.inr (.inr th)), some (.inl a0), some (.inl r_29), some (.inl v3_4)]) rfl rfl rfl ?_
        obtain ⟨x3_33, ex3_33, h⟩ := o_b1E h
        refine go_iincE (pc' := 36) rfl rfl (y := (nI 1)) rfl ex3_33 (lo' := [some (.inr (.inr th)), some (.inl a0), some (.inl r_29), some (.inl x3_33)]) rfl rfl ?_
        refine go_goto (pc' := 4) rfl rfl ?_
        exact (lp_backE h hk4 :))
  exact lo4 _ ((nI 0), (nI 0)) hl4 
def m_114_x66_99 (Ix_99 : ai_I) : Option (ai_I) :=
  some Ix_99
def m_114_b66 (th : Nat) (Rf : ai_R) (G : ai_G) (v1_66 : Int32) (I_66 : ai_I) : Option ((Int32 × ai_I) ⊕ ai_I) :=
  if (nI 256) ≤ v1_66 then (some (Sum.inr I_66)) else (o_g (o_in G 13 (Rf th 4) v1_66) (if 0 ≤ (I_66 (Rf th 4) v1_66.toNatClampNeg) then (o_b1 (some (v1_66 + (nI 1))) (fun x1_93 => some (Sum.inl (x1_93, I_66)))) else (o_b1 (m_116 th v1_66 I_66 Rf G) (fun r_89 => o_g (o_in G 13 (Rf th 4) v1_66) (o_b1 (some (va_up I_66 (Rf th 4) (va_up (I_66 (Rf th 4)) v1_66.toNatClampNeg r_89))) (fun I_92 => o_b1 (some (v1_66 + (nI 1))) (fun x1_93 => some (Sum.inl (x1_93, I_92)))))))))
def m_114_x7_60 (th : Nat) (Rf : ai_R) (G : ai_G) (Ix_60 : ai_I) : Option (ai_I) :=
  o_b1 (m_115 th Ix_60 Rf G) (fun I_61 => o_s1 (lp (fun s => m_114_b66 th Rf G s.1 s.2) o_N ((nI 0), I_61)) (fun t => m_114_x66_99 t))
def m_114_b7 (th : Nat) (Rf : ai_R) (G : ai_G) (v1_7 : Int32) (I_7 : ai_I) : Option ((Int32 × ai_I) ⊕ ai_I) :=
  if (nI 256) ≤ v1_7 then (some (Sum.inr I_7)) else (o_g (o_in G 13 (Rf th 3) v1_7) (if (I_7 (Rf th 3) v1_7.toNatClampNeg) = (-2147483648 : Int32) then (o_b1 (some (v1_7 + (nI 1))) (fun x1_54 => some (Sum.inl (x1_54, I_7)))) else (if (nI 70) ≤ (I_7 th 2) then (o_b1 (some (v1_7 + (nI 1))) (fun x1_54 => some (Sum.inl (x1_54, I_7)))) else (o_g (o_in G 13 (Rf th 5) (I_7 th 2)) (o_b1 (some (va_up I_7 (Rf th 5) (va_up (I_7 (Rf th 5)) (I_7 th 2).toNatClampNeg v1_7))) (fun I_43 => o_b1 (some (va_up I_43 th (va_up (I_43 th) 2 ((I_43 th 2) + (nI 1))))) (fun I_51 => o_b1 (some (v1_7 + (nI 1))) (fun x1_54 => some (Sum.inl (x1_54, I_51))))))))))
/-- PricedBases$Valuation.settle()V -/
def m_114 (th : Nat) (I : ai_I) (Rf : ai_R) (G : ai_G) : Option (ai_I) :=
  o_b1 (some (va_up I th (va_up (I th) 2 (nI 0)))) (fun I_2 => o_s1 (lp (fun s => m_114_b7 th Rf G s.1 s.2) o_N ((nI 0), I_2)) (fun t => m_114_x7_60 th Rf G t))
theorem md_114 {d : Nat} {I : ai_I} {J : ai_J} {Rf : ai_R} {G : ai_G} {th : Nat} {I1 : ai_I} (hd : 3 ≤ d) (hth : G.1 th = 8) (h : m_114 th I Rf G = some I1) : ai_Cl si_t si_ms d 114 [.inr (.inr th)] I J Rf G none I1 J Rf G := by
  obtain ⟨e, rfl⟩ : ∃ e, d = e + 1 := ⟨d - 1, by omega⟩
  unfold m_114 at h
  refine sp_in (lo := [some (.inr (.inr th)), none]) (B := (0, 0)) rfl (Nat.le_of_ble_eq_true rfl) rfl rfl ?_
  refine go_aload_n (pc' := 1) rfl rfl rfl ?_
  refine go_iconst (pc' := 2) (v := (nI 0)) rfl rfl rfl ?_
  obtain ⟨I_2, eI_2, h⟩ := o_b1E h
  refine go_putI (pc' := 5) rfl rfl (fun h => by cases h) hth rfl ?_
  refine go_ndMI eI_2 ?_
  refine go_iconst (pc' := 6) (v := (nI 0)) rfl rfl rfl ?_
  refine go_istore_n (pc' := 7) (lo' := [some (.inr (.inr th)), some (.inl (nI 0))]) rfl rfl rfl ?_
  obtain ⟨q7, hl7, hc7_60⟩ := o_s1E h
  have ex7_60 : ∀ (Ix_60 : ai_I) (z1_x60 : Option ai_V), Ix_60 = q7 → ai_Go si_t (8, false, 9, cd_114) (ai_Cl si_t si_ms e) (sp_Q none I1 J Rf G) 60 [some (.inr (.inr th)), z1_x60] [] (0, 0) Ix_60 J Rf G := by
    intro Ix_60 z1_x60 hq
    have h : m_114_x7_60 th Rf G Ix_60 = some I1 := hc7_60 Ix_60 hq.symm
    unfold m_114_x7_60 at h
    refine go_aload_n (pc' := 61) rfl rfl rfl ?_
    obtain ⟨I_61, q_61, h⟩ := o_b1E h
    refine go_callV (pc' := 64) (B' := (0, 0)) (st' := []) rfl rfl (Or.inl (by decide)) rfl rfl hth (md_115 (by omega) hth q_61) rfl rfl rfl ?_
    refine go_iconst (pc' := 65) (v := (nI 0)) rfl rfl rfl ?_
    refine go_istore_n (pc' := 66) (lo' := [some (.inr (.inr th)), some (.inl (nI 0))]) rfl rfl rfl ?_
    obtain ⟨q66, hl66, hc66_99⟩ := o_s1E h
    have ex66_99 : ∀ (Ix_99 : ai_I) (z1_x99 : Option ai_V), Ix_99 = q66 → ai_Go si_t (8, false, 9, cd_114) (ai_Cl si_t si_ms e) (sp_Q none I1 J Rf G) 99 [some (.inr (.inr th)), z1_x99] [] (0, 0) Ix_99 J Rf G := by
      intro Ix_99 z1_x99 hq
      have h : m_114_x66_99 Ix_99 = some I1 := hc66_99 Ix_99 hq.symm
      unfold m_114_x66_99 at h
      cases h
      exact go_vret rfl (rfl) ⟨rfl, rfl, rfl, rfl, rfl⟩
    have lo66 : ∀ n s, lp (fun s => m_114_b66 th Rf G s.1 s.2) n s = some q66 → (fun s => ai_Go si_t (8, false, 9, cd_114) (ai_Cl si_t si_ms e) (sp_Q none I1 J Rf G) 66 [some (.inr (.inr th)), some (.inl s.1)] [] (0, 0) s.2 J Rf G) s := lp_go (fun s x66 hx hk66 => by
      obtain ⟨v1_66, I_66⟩ := s
      have h : m_114_b66 th Rf G v1_66 I_66 = some x66 := hx
      clear hx
      show ai_Go si_t (8, false, 9, cd_114) (ai_Cl si_t si_ms e) (sp_Q none I1 J Rf G) 66 [some (.inr (.inr th)), some (.inl v1_66)] [] (0, 0) I_66 J Rf G
      unfold m_114_b66 at h
      refine go_iload_n (pc' := 67) rfl rfl rfl ?_
      refine go_sipush (pc' := 70) (v := (nI 256)) rfl rfl rfl ?_
      refine go_icmp_ge (pt := 99) (pc' := 73) rfl rfl rfl (fun h70 => ?_) (fun h70 => ?_)
      · replace h := o_t h70 h
        exact ex66_99 _ (some (.inl v1_66)) (lp_exitE h hk66)
      · replace h := o_f h70 h
        refine go_aload_n (pc' := 74) rfl rfl rfl ?_
        refine go_getR (pc' := 77) rfl rfl hth rfl ?_
        refine go_iload_n (pc' := 78) rfl rfl rfl ?_
        obtain ⟨g0, h⟩ := o_gE h
        refine go_iaload (pc' := 79) rfl (o_inK g0) (o_inB g0) rfl ?_
        refine go_if_ge (pt := 93) (pc' := 82) rfl rfl rfl (fun h79 => ?_) (fun h79 => ?_)
        · replace h := o_t h79 h
          obtain ⟨x1_93, ex1_93, h⟩ := o_b1E h
          refine go_iincE (pc' := 96) rfl rfl (y := (nI 1)) rfl ex1_93 (lo' := [some (.inr (.inr th)), some (.inl x1_93)]) rfl rfl ?_
          refine go_goto (pc' := 66) rfl rfl ?_
          exact (lp_backE h hk66 :)
        · replace h := o_f h79 h
          refine go_aload_n (pc' := 83) rfl rfl rfl ?_
          refine go_getR (pc' := 86) rfl rfl hth rfl ?_
          refine go_iload_n (pc' := 87) rfl rfl rfl ?_
          refine go_aload_n (pc' := 88) rfl rfl rfl ?_
          refine go_iload_n (pc' := 89) rfl rfl rfl ?_
          obtain ⟨r_89, q_89, h⟩ := o_b1E h
          refine go_callV (pc' := 92) (B' := (0, 0)) (st' := [.inl r_89, .inl v1_66, .inr (.inr (Rf th 4))]) rfl rfl (Or.inl (by decide)) rfl rfl hth (md_116 (by omega) hth q_89) rfl rfl rfl ?_
          obtain ⟨g1, h⟩ := o_gE h
          obtain ⟨I_92, eI_92, h⟩ := o_b1E h
          refine go_iastore (pc' := 93) rfl (o_inK g1) (o_inB g1) rfl ?_
          refine go_ndMI eI_92 ?_
          obtain ⟨x1_93, ex1_93, h⟩ := o_b1E h
          refine go_iincE (pc' := 96) rfl rfl (y := (nI 1)) rfl ex1_93 (lo' := [some (.inr (.inr th)), some (.inl x1_93)]) rfl rfl ?_
          refine go_goto (pc' := 66) rfl rfl ?_
          exact (lp_backE h hk66 :))
    exact lo66 _ ((nI 0), I_61) hl66 
  have lo7 : ∀ n s, lp (fun s => m_114_b7 th Rf G s.1 s.2) n s = some q7 → (fun s => ai_Go si_t (8, false, 9, cd_114) (ai_Cl si_t si_ms e) (sp_Q none I1 J Rf G) 7 [some (.inr (.inr th)), some (.inl s.1)] [] (0, 0) s.2 J Rf G) s := lp_go (fun s x7 hx hk7 => by
    obtain ⟨v1_7, I_7⟩ := s
    have h : m_114_b7 th Rf G v1_7 I_7 = some x7 := hx
    clear hx
    show ai_Go si_t (8, false, 9, cd_114) (ai_Cl si_t si_ms e) (sp_Q none I1 J Rf G) 7 [some (.inr (.inr th)), some (.inl v1_7)] [] (0, 0) I_7 J Rf G
    unfold m_114_b7 at h
    refine go_iload_n (pc' := 8) rfl rfl rfl ?_
    refine go_sipush (pc' := 11) (v := (nI 256)) rfl rfl rfl ?_
    refine go_icmp_ge (pt := 60) (pc' := 14) rfl rfl rfl (fun h11 => ?_) (fun h11 => ?_)
    · replace h := o_t h11 h
      exact ex7_60 _ (some (.inl v1_7)) (lp_exitE h hk7)
    · replace h := o_f h11 h
      refine go_aload_n (pc' := 15) rfl rfl rfl ?_
      refine go_getR (pc' := 18) rfl rfl hth rfl ?_
      refine go_iload_n (pc' := 19) rfl rfl rfl ?_
      obtain ⟨g2, h⟩ := o_gE h
      refine go_iaload (pc' := 20) rfl (o_inK g2) (o_inB g2) rfl ?_
      refine go_ldc (pc' := 22) (v := .inl (-2147483648 : Int32)) rfl rfl rfl ?_
      refine go_icmp_eq (pt := 54) (pc' := 25) rfl rfl rfl (fun h22 => ?_) (fun h22 => ?_)
      · replace h := o_t h22 h
        obtain ⟨x1_54, ex1_54, h⟩ := o_b1E h
        refine go_iincE (pc' := 57) rfl rfl (y := (nI 1)) rfl ex1_54 (lo' := [some (.inr (.inr th)), some (.inl x1_54)]) rfl rfl ?_
        refine go_goto (pc' := 7) rfl rfl ?_
        exact (lp_backE h hk7 :)
      · replace h := o_f h22 h
        refine go_aload_n (pc' := 26) rfl rfl rfl ?_
        refine go_getI (pc' := 29) rfl rfl (by decide) (by decide) hth rfl ?_
        refine go_bipush (pc' := 31) (v := (nI 70)) rfl rfl rfl ?_
        refine go_icmp_ge (pt := 54) (pc' := 34) rfl rfl rfl (fun h31 => ?_) (fun h31 => ?_)
        · replace h := o_t h31 h
          obtain ⟨x1_54, ex1_54, h⟩ := o_b1E h
          refine go_iincE (pc' := 57) rfl rfl (y := (nI 1)) rfl ex1_54 (lo' := [some (.inr (.inr th)), some (.inl x1_54)]) rfl rfl ?_
          refine go_goto (pc' := 7) rfl rfl ?_
          exact (lp_backE h hk7 :)
        · replace h := o_f h31 h
          refine go_aload_n (pc' := 35) rfl rfl rfl ?_
          refine go_getR (pc' := 38) rfl rfl hth rfl ?_
          refine go_aload_n (pc' := 39) rfl rfl rfl ?_
          refine go_getI (pc' := 42) rfl rfl (by decide) (by decide) hth rfl ?_
          refine go_iload_n (pc' := 43) rfl rfl rfl ?_
          obtain ⟨g3, h⟩ := o_gE h
          obtain ⟨I_43, eI_43, h⟩ := o_b1E h
          refine go_iastore (pc' := 44) rfl (o_inK g3) (o_inB g3) rfl ?_
          refine go_ndMI eI_43 ?_
          refine go_aload_n (pc' := 45) rfl rfl rfl ?_
          refine go_dupR (pc' := 46) rfl rfl ?_
          refine go_getI (pc' := 49) rfl rfl (by decide) (by decide) hth rfl ?_
          refine go_iconst (pc' := 50) (v := (nI 1)) rfl rfl rfl ?_
          refine go_iadd (pc' := 51) rfl rfl ?_
          obtain ⟨I_51, eI_51, h⟩ := o_b1E h
          refine go_putI (pc' := 54) rfl rfl (fun h => by cases h) hth rfl ?_
          refine go_ndMI eI_51 ?_
          obtain ⟨x1_54, ex1_54, h⟩ := o_b1E h
          refine go_iincE (pc' := 57) rfl rfl (y := (nI 1)) rfl ex1_54 (lo' := [some (.inr (.inr th)), some (.inl x1_54)]) rfl rfl ?_
          refine go_goto (pc' := 7) rfl rfl ?_
          exact (lp_backE h hk7 :))
  exact lo7 _ ((nI 0), I_2) hl7 
def m_42_x4_41 (I : ai_I) : Option (Int32 × ai_I) :=
  some ((nI 0), I)
def m_42_x4_49 (th : Nat) (I : ai_I) (Rf : ai_R) (G : ai_G) (w1_49 : Int32) : Option (Int32 × ai_I) :=
  if w1_49 = 0 then (o_g (o_bz w1_49) (some (w1_49, I))) else (o_g (o_kd G (Rf th 0) 8) (o_b1 (m_114 (Rf th 0) I Rf G) (fun I_57 => o_g (o_bz w1_49) (some (w1_49, I_57)))))
def m_42_b4 (th : Nat) (I : ai_I) (Rf : ai_R) (G : ai_G) (v1_4 : Int32) (v2_4 : Int32) : Option ((Int32 × Int32) ⊕ (Unit ⊕ Int32)) :=
  if (nI 256) ≤ v2_4 then (some (Sum.inr (Sum.inr v1_4))) else (o_g (o_kd G (Rf th 0) 8) (o_g (o_in G 13 (Rf (Rf th 0) 3) v2_4) (o_b1 (some (I (Rf (Rf th 0) 3) v2_4.toNatClampNeg)) (fun x3_20 => if x3_20 = (-2147483648 : Int32) then (o_b1 (some (v2_4 + (nI 1))) (fun x2_43 => some (Sum.inl (v1_4, x2_43)))) else (if x3_20 < (-1000000 : Int32) then (some (Sum.inr (Sum.inl ()))) else (if x3_20 ≤ (nI 1000000) then (o_b1 (some (v2_4 + (nI 1))) (fun x2_43 => some (Sum.inl ((nI 1), x2_43)))) else (some (Sum.inr (Sum.inl ())))))))))
/-- PricedBases$Maker.isWhole()Z -/
def m_42 (th : Nat) (I : ai_I) (Rf : ai_R) (G : ai_G) : Option (Int32 × ai_I) :=
  o_s2 (lp (fun s => m_42_b4 th I Rf G s.1 s.2) o_N ((nI 0), (nI 0))) (fun t => m_42_x4_41 I) (fun t => m_42_x4_49 th I Rf G t)
theorem md_42 {d : Nat} {I : ai_I} {J : ai_J} {Rf : ai_R} {G : ai_G} {th : Nat} {r : Int32} {I1 : ai_I} (hd : 4 ≤ d) (hth : G.1 th = 3) (h : m_42 th I Rf G = some (r, I1)) : ai_Cl si_t si_ms d 42 [.inr (.inr th)] I J Rf G (some (.inl r)) I1 J Rf G := by
  obtain ⟨e, rfl⟩ : ∃ e, d = e + 1 := ⟨d - 1, by omega⟩
  unfold m_42 at h
  refine sp_in (lo := [some (.inr (.inr th)), none, none, none]) (B := (0, 0)) rfl (Nat.le_of_ble_eq_true rfl) rfl rfl ?_
  refine go_iconst (pc' := 1) (v := (nI 0)) rfl rfl rfl ?_
  refine go_istore_n (pc' := 2) (lo' := [some (.inr (.inr th)), some (.inl (nI 0)), none, none]) rfl rfl rfl ?_
  refine go_iconst (pc' := 3) (v := (nI 0)) rfl rfl rfl ?_
  refine go_istore_n (pc' := 4) (lo' := [some (.inr (.inr th)), some (.inl (nI 0)), some (.inl (nI 0)), none]) rfl rfl rfl ?_
  obtain ⟨q4, hl4, hc4_41, hc4_49⟩ := o_s2E h
  have ex4_41 : ∀ (z1_x41 : Option ai_V) (z2_x41 : Option ai_V) (z3_x41 : Option ai_V), (Sum.inl ()) = q4 → ai_Go si_t (3, false, 3, cd_42) (ai_Cl si_t si_ms e) (sp_Q (some (.inl r)) I1 J Rf G) 41 [some (.inr (.inr th)), z1_x41, z2_x41, z3_x41] [] (0, 0) I J Rf G := by
    intro z1_x41 z2_x41 z3_x41 hq
    have h : m_42_x4_41 I = some (r, I1) := hc4_41 () hq.symm
    unfold m_42_x4_41 at h
    refine go_iconst (pc' := 42) (v := (nI 0)) rfl rfl rfl ?_
    cases h
    exact go_iret rfl (rfl) ⟨rfl, rfl, rfl, rfl, rfl⟩
  have ex4_49 : ∀ (w1_49 : Int32) (z2_x49 : Option ai_V) (z3_x49 : Option ai_V), (Sum.inr w1_49) = q4 → ai_Go si_t (3, false, 3, cd_42) (ai_Cl si_t si_ms e) (sp_Q (some (.inl r)) I1 J Rf G) 49 [some (.inr (.inr th)), some (.inl w1_49), z2_x49, z3_x49] [] (0, 0) I J Rf G := by
    intro w1_49 z2_x49 z3_x49 hq
    have h : m_42_x4_49 th I Rf G w1_49 = some (r, I1) := hc4_49 w1_49 hq.symm
    unfold m_42_x4_49 at h
    refine go_iload_n (pc' := 50) rfl rfl rfl ?_
    refine go_if_eq (pt := 60) (pc' := 53) rfl rfl rfl (fun h50 => ?_) (fun h50 => ?_)
    · replace h := o_t h50 h
      refine go_iload_n (pc' := 61) rfl rfl rfl ?_
      obtain ⟨g0, h⟩ := o_gE h
      cases h
      exact go_iret rfl (o_bzE g0) ⟨rfl, rfl, rfl, rfl, rfl⟩
    · replace h := o_f h50 h
      refine go_aload_n (pc' := 54) rfl rfl rfl ?_
      refine go_getR (pc' := 57) rfl rfl hth rfl ?_
      obtain ⟨g1, h⟩ := o_gE h
      obtain ⟨I_57, q_57, h⟩ := o_b1E h
      refine go_callV (pc' := 60) (B' := (0, 0)) (st' := []) rfl rfl (Or.inl (by decide)) rfl rfl (o_kdE g1) (md_114 (by omega) (o_kdE g1) q_57) rfl rfl rfl ?_
      refine go_iload_n (pc' := 61) rfl rfl rfl ?_
      obtain ⟨g2, h⟩ := o_gE h
      cases h
      exact go_iret rfl (o_bzE g2) ⟨rfl, rfl, rfl, rfl, rfl⟩
  have lo4 : ∀ n s, lp (fun s => m_42_b4 th I Rf G s.1 s.2) n s = some q4 → (fun s => ∀ (z3_4 : Option ai_V), ai_Go si_t (3, false, 3, cd_42) (ai_Cl si_t si_ms e) (sp_Q (some (.inl r)) I1 J Rf G) 4 [some (.inr (.inr th)), some (.inl s.1), some (.inl s.2), z3_4] [] (0, 0) I J Rf G) s := lp_go (fun s x4 hx hk4 => by
    obtain ⟨v1_4, v2_4⟩ := s
    intro z3_4
    have h : m_42_b4 th I Rf G v1_4 v2_4 = some x4 := hx
    clear hx
    show ai_Go si_t (3, false, 3, cd_42) (ai_Cl si_t si_ms e) (sp_Q (some (.inl r)) I1 J Rf G) 4 [some (.inr (.inr th)), some (.inl v1_4), some (.inl v2_4), z3_4] [] (0, 0) I J Rf G
    unfold m_42_b4 at h
    refine go_iload_n (pc' := 5) rfl rfl rfl ?_
    refine go_sipush (pc' := 8) (v := (nI 256)) rfl rfl rfl ?_
    refine go_icmp_ge (pt := 49) (pc' := 11) rfl rfl rfl (fun h8 => ?_) (fun h8 => ?_)
    · replace h := o_t h8 h
      exact ex4_49 _ (some (.inl v2_4)) z3_4 (lp_exitE h hk4)
    · replace h := o_f h8 h
      refine go_aload_n (pc' := 12) rfl rfl rfl ?_
      refine go_getR (pc' := 15) rfl rfl hth rfl ?_
      obtain ⟨g3, h⟩ := o_gE h
      refine go_getR (pc' := 18) rfl rfl (o_kdE g3) rfl ?_
      refine go_iload_n (pc' := 19) rfl rfl rfl ?_
      obtain ⟨g4, h⟩ := o_gE h
      refine go_iaload (pc' := 20) rfl (o_inK g4) (o_inB g4) rfl ?_
      obtain ⟨x3_20, ex3_20, h⟩ := o_b1E h
      refine go_ndI ex3_20 ?_
      refine go_istore_n (pc' := 21) (lo' := [some (.inr (.inr th)), some (.inl v1_4), some (.inl v2_4), some (.inl x3_20)]) rfl rfl rfl ?_
      refine go_iload_n (pc' := 22) rfl rfl rfl ?_
      refine go_ldc (pc' := 24) (v := .inl (-2147483648 : Int32)) rfl rfl rfl ?_
      refine go_icmp_eq (pt := 43) (pc' := 27) rfl rfl rfl (fun h24 => ?_) (fun h24 => ?_)
      · replace h := o_t h24 h
        obtain ⟨x2_43, ex2_43, h⟩ := o_b1E h
        refine go_iincE (pc' := 46) rfl rfl (y := (nI 1)) rfl ex2_43 (lo' := [some (.inr (.inr th)), some (.inl v1_4), some (.inl x2_43), some (.inl x3_20)]) rfl rfl ?_
        refine go_goto (pc' := 4) rfl rfl ?_
        exact (lp_backE h hk4 (some (.inl x3_20)) :)
      · replace h := o_f h24 h
        refine go_iconst (pc' := 28) (v := (nI 1)) rfl rfl rfl ?_
        refine go_istore_n (pc' := 29) (lo' := [some (.inr (.inr th)), some (.inl (nI 1)), some (.inl v2_4), some (.inl x3_20)]) rfl rfl rfl ?_
        refine go_iload_n (pc' := 30) rfl rfl rfl ?_
        refine go_ldc (pc' := 32) (v := .inl (-1000000 : Int32)) rfl rfl rfl ?_
        refine go_icmp_lt (pt := 41) (pc' := 35) rfl rfl rfl (fun h32 => ?_) (fun h32 => ?_)
        · replace h := o_t h32 h
          exact ex4_41  (some (.inl (nI 1))) (some (.inl v2_4)) (some (.inl x3_20)) (lp_exitE h hk4)
        · replace h := o_f h32 h
          refine go_iload_n (pc' := 36) rfl rfl rfl ?_
          refine go_ldc (pc' := 38) (v := .inl (nI 1000000)) rfl rfl rfl ?_
          refine go_icmp_le (pt := 43) (pc' := 41) rfl rfl rfl (fun h38 => ?_) (fun h38 => ?_)
          · replace h := o_t h38 h
            obtain ⟨x2_43, ex2_43, h⟩ := o_b1E h
            refine go_iincE (pc' := 46) rfl rfl (y := (nI 1)) rfl ex2_43 (lo' := [some (.inr (.inr th)), some (.inl (nI 1)), some (.inl x2_43), some (.inl x3_20)]) rfl rfl ?_
            refine go_goto (pc' := 4) rfl rfl ?_
            exact (lp_backE h hk4 (some (.inl x3_20)) :)
          · replace h := o_f h38 h
            exact ex4_41  (some (.inl (nI 1))) (some (.inl v2_4)) (some (.inl x3_20)) (lp_exitE h hk4))
  exact lo4 _ ((nI 0), (nI 0)) hl4 none
