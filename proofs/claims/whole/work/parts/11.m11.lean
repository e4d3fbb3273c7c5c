/-! Models of methods and their proofs, piece 11. Printed by wip/whole/pr10.py. -/
def m_176_x41_139 (w5_139 : Int32) (Ix_139 : ai_I) : Option (Int32 × ai_I) :=
  some (w5_139, Ix_139)
def m_176_x50_85 (th : Nat) (Rf : ai_R) (G : ai_G) (r_5 : Nat) (v5_41 : Int32) (v6_41 : Int32) (w4_85 : Int32) (Ix_85 : ai_I) : Option ((Int32 × Int32 × Int32 × ai_I) ⊕ (Int32 × ai_I)) :=
  o_g (o_kd G (Rf th 8) 7) (o_b1 (m_104 (Rf th 8) r_5 (Rf th 14) Ix_85 Rf G) (fun I_94 => o_g (o_kd G r_5 8) (o_g (o_in G 13 (Rf r_5 5) (nI 0)) (o_b1 (m_106 (Rf th 8) r_5 (I_94 (Rf r_5 5) (nI 0).toNatClampNeg) I_94 Rf G) (fun I_108 => o_b1 (m_105 (Rf th 8) (I_108 (Rf th 8) 2) I_108 Rf G) (fun r_124 => o_b1 (m_182 r_124) (fun r_127 => o_b1 (some (v5_41 + r_127)) (fun x5_131 => o_b1 (some (v6_41 + (nI 1))) (fun x6_133 => some (Sum.inl (w4_85, x5_131, x6_133, I_108)))))))))))
def m_176_b50 (th : Nat) (Rf : ai_R) (G : ai_G) (v4_50 : Int32) (v7_50 : Int32) (I_50 : ai_I) : Option ((Int32 × Int32 × ai_I) ⊕ (Int32 × ai_I)) :=
  if (nI 8) ≤ v7_50 then (some (Sum.inr (v4_50, I_50))) else (o_b1 (m_184 v4_50) (fun r_59 => o_g (o_in G 13 (Rf th 14) v7_50) (o_b1 (some (va_up I_50 (Rf th 14) (va_up (I_50 (Rf th 14)) v7_50.toNatClampNeg ((r_59 - r_59 / (nI 21) * (nI 21)) - (nI 10))))) (fun I_78 => o_b1 (some (v7_50 + (nI 1))) (fun x7_79 => some (Sum.inl (r_59, x7_79, I_78)))))))
def m_176_b41 (th : Nat) (a1 : Int32) (Rf : ai_R) (G : ai_G) (r_5 : Nat) (v4_41 : Int32) (v5_41 : Int32) (v6_41 : Int32) (I_41 : ai_I) : Option ((Int32 × Int32 × Int32 × ai_I) ⊕ (Int32 × ai_I)) :=
  if a1 ≤ v6_41 then (some (Sum.inr (v5_41, I_41))) else (o_s1 (lp (fun s => m_176_b50 th Rf G s.1 s.2.1 s.2.2) o_N (v4_41, (nI 0), I_41)) (fun t => m_176_x50_85 th Rf G r_5 v5_41 v6_41 t.1 t.2))
/-- PricedBases.drawn(II)I -/
def m_176 (th : Nat) (a0 : Int32) (a1 : Int32) (I : ai_I) (Rf : ai_R) (G : ai_G) : Option (Int32 × ai_I) :=
  o_g (o_kd G (Rf th 0) 6) (o_b1 (m_96 (Rf th 0) a0 Rf G) (fun r_5 => if r_5 = 0 then (some ((-1 : Int32), I)) else (if a1 < (nI 1) then (some ((-1 : Int32), I)) else (if a1 ≤ (nI 60) then (o_b1 (some (I (Rf th 0) 4)) (fun x4_33 => o_s1 (lp (fun s => m_176_b41 th a1 Rf G r_5 s.1 s.2.1 s.2.2.1 s.2.2.2) o_N (x4_33, (nI 0), (nI 0), I)) (fun t => m_176_x41_139 t.1 t.2))) else (some ((-1 : Int32), I))))))
theorem md_176 {d : Nat} {I : ai_I} {J : ai_J} {Rf : ai_R} {G : ai_G} {th : Nat} {a0 : Int32} {a1 : Int32} {r : Int32} {I1 : ai_I} (hd : 4 ≤ d) (hth : G.1 th = 10) (h : m_176 th a0 a1 I Rf G = some (r, I1)) : ai_Cl si_t si_ms d 176 [.inr (.inr th), .inl a0, .inl a1] I J Rf G (some (.inl r)) I1 J Rf G := by
  obtain ⟨e, rfl⟩ : ∃ e, d = e + 1 := ⟨d - 1, by omega⟩
  unfold m_176 at h
  refine sp_in (lo := [some (.inr (.inr th)), some (.inl a0), some (.inl a1), none, none, none, none, none]) (B := (0, 0)) rfl (Nat.le_of_ble_eq_true rfl) rfl rfl ?_
  refine go_aload_n (pc' := 1) rfl rfl rfl ?_
  refine go_getR (pc' := 4) rfl rfl hth rfl ?_
  refine go_iload_n (pc' := 5) rfl rfl rfl ?_
  obtain ⟨g0, h⟩ := o_gE h
  obtain ⟨r_5, q_5, h⟩ := o_b1E h
  refine go_callV (pc' := 8) (B' := (0, 0)) (st' := [.inr (.inr r_5)]) rfl rfl (Or.inl (by decide)) rfl rfl (o_kdE g0) (md_96 (by omega) (o_kdE g0) q_5) rfl rfl rfl ?_
  refine go_astore_n (pc' := 9) (lo' := [some (.inr (.inr th)), some (.inl a0), some (.inl a1), some (.inr (.inr r_5)), none, none, none, none]) rfl rfl rfl ?_
  refine go_aload_n (pc' := 10) rfl rfl rfl ?_
  refine go_ifnull (pt := 24) (pc' := 13) rfl rfl rfl (fun h10 => ?_) (fun h10 => ?_)
  · replace h := o_t h10 h
    refine go_iconst (pc' := 25) (v := (-1 : Int32)) rfl rfl rfl ?_
    cases h
    exact go_iret rfl (trivial) ⟨rfl, rfl, rfl, rfl, rfl⟩
  · replace h := o_f h10 h
    refine go_iload_n (pc' := 14) rfl rfl rfl ?_
    refine go_iconst (pc' := 15) (v := (nI 1)) rfl rfl rfl ?_
    refine go_icmp_lt (pt := 24) (pc' := 18) rfl rfl rfl (fun h15 => ?_) (fun h15 => ?_)
    · replace h := o_t h15 h
      refine go_iconst (pc' := 25) (v := (-1 : Int32)) rfl rfl rfl ?_
      cases h
      exact go_iret rfl (trivial) ⟨rfl, rfl, rfl, rfl, rfl⟩
    · replace h := o_f h15 h
      refine go_iload_n (pc' := 19) rfl rfl rfl ?_
      refine go_bipush (pc' := 21) (v := (nI 60)) rfl rfl rfl ?_
      refine go_icmp_le (pt := 26) (pc' := 24) rfl rfl rfl (fun h21 => ?_) (fun h21 => ?_)
      · replace h := o_t h21 h
        refine go_aload_n (pc' := 27) rfl rfl rfl ?_
        refine go_getR (pc' := 30) rfl rfl hth rfl ?_
        refine go_getI (pc' := 33) rfl rfl (by decide) (by decide) (o_kdE g0) rfl ?_
        obtain ⟨x4_33, ex4_33, h⟩ := o_b1E h
        refine go_ndI ex4_33 ?_
        refine go_istore (pc' := 35) (lo' := [some (.inr (.inr th)), some (.inl a0), some (.inl a1), some (.inr (.inr r_5)), some (.inl x4_33), none, none, none]) rfl rfl rfl ?_
        refine go_iconst (pc' := 36) (v := (nI 0)) rfl rfl rfl ?_
        refine go_istore (pc' := 38) (lo' := [some (.inr (.inr th)), some (.inl a0), some (.inl a1), some (.inr (.inr r_5)), some (.inl x4_33), some (.inl (nI 0)), none, none]) rfl rfl rfl ?_
        refine go_iconst (pc' := 39) (v := (nI 0)) rfl rfl rfl ?_
        refine go_istore (pc' := 41) (lo' := [some (.inr (.inr th)), some (.inl a0), some (.inl a1), some (.inr (.inr r_5)), some (.inl x4_33), some (.inl (nI 0)), some (.inl (nI 0)), none]) rfl rfl rfl ?_
        obtain ⟨q41, hl41, hc41_139⟩ := o_s1E h
        have ex41_139 : ∀ (w5_139 : Int32) (Ix_139 : ai_I) (z4_x139 : Option ai_V) (z6_x139 : Option ai_V) (z7_x139 : Option ai_V), (w5_139, Ix_139) = q41 → ai_Go si_t (10, false, 0, cd_176) (ai_Cl si_t si_ms e) (sp_Q (some (.inl r)) I1 J Rf G) 139 [some (.inr (.inr th)), some (.inl a0), some (.inl a1), some (.inr (.inr r_5)), z4_x139, some (.inl w5_139), z6_x139, z7_x139] [] (0, 0) Ix_139 J Rf G := by
          intro w5_139 Ix_139 z4_x139 z6_x139 z7_x139 hq
          have h : m_176_x41_139 w5_139 Ix_139 = some (r, I1) := hc41_139 (w5_139, Ix_139) hq.symm
          unfold m_176_x41_139 at h
          refine go_iload (pc' := 141) rfl rfl rfl ?_
          cases h
          exact go_iret rfl (trivial) ⟨rfl, rfl, rfl, rfl, rfl⟩
        have lo41 : ∀ n s, lp (fun s => m_176_b41 th a1 Rf G r_5 s.1 s.2.1 s.2.2.1 s.2.2.2) n s = some q41 → (fun s => ∀ (z7_41 : Option ai_V), ai_Go si_t (10, false, 0, cd_176) (ai_Cl si_t si_ms e) (sp_Q (some (.inl r)) I1 J Rf G) 41 [some (.inr (.inr th)), some (.inl a0), some (.inl a1), some (.inr (.inr r_5)), some (.inl s.1), some (.inl s.2.1), some (.inl s.2.2.1), z7_41] [] (0, 0) s.2.2.2 J Rf G) s := lp_go (fun s x41 hx hk41 => by
          obtain ⟨v4_41, v5_41, v6_41, I_41⟩ := s
          intro z7_41
          have h : m_176_b41 th a1 Rf G r_5 v4_41 v5_41 v6_41 I_41 = some x41 := hx
          clear hx
          show ai_Go si_t (10, false, 0, cd_176) (ai_Cl si_t si_ms e) (sp_Q (some (.inl r)) I1 J Rf G) 41 [some (.inr (.inr th)), some (.inl a0), some (.inl a1), some (.inr (.inr r_5)), some (.inl v4_41), some (.inl v5_41), some (.inl v6_41), z7_41] [] (0, 0) I_41 J Rf G
          unfold m_176_b41 at h
          refine go_iload (pc' := 43) rfl rfl rfl ?_
          refine go_iload_n (pc' := 44) rfl rfl rfl ?_
          refine go_icmp_ge (pt := 139) (pc' := 47) rfl rfl rfl (fun h44 => ?_) (fun h44 => ?_)
          · replace h := o_t h44 h
            exact ex41_139 _ _ (some (.inl v4_41)) (some (.inl v6_41)) z7_41 (lp_exitE h hk41)
          · replace h := o_f h44 h
            refine go_iconst (pc' := 48) (v := (nI 0)) rfl rfl rfl ?_
            refine go_istore (pc' := 50) (lo' := [some (.inr (.inr th)), some (.inl a0), some (.inl a1), some (.inr (.inr r_5)), some (.inl v4_41), some (.inl v5_41), some (.inl v6_41), some (.inl (nI 0))]) rfl rfl rfl ?_
            obtain ⟨q50, hl50, hc50_85⟩ := o_s1E h
            have ex50_85 : ∀ (w4_85 : Int32) (Ix_85 : ai_I) (z7_x85 : Option ai_V), (w4_85, Ix_85) = q50 → ai_Go si_t (10, false, 0, cd_176) (ai_Cl si_t si_ms e) (sp_Q (some (.inl r)) I1 J Rf G) 85 [some (.inr (.inr th)), some (.inl a0), some (.inl a1), some (.inr (.inr r_5)), some (.inl w4_85), some (.inl v5_41), some (.inl v6_41), z7_x85] [] (0, 0) Ix_85 J Rf G := by
              intro w4_85 Ix_85 z7_x85 hq
              have h : m_176_x50_85 th Rf G r_5 v5_41 v6_41 w4_85 Ix_85 = some x41 := hc50_85 (w4_85, Ix_85) hq.symm
              unfold m_176_x50_85 at h
              refine go_aload_n (pc' := 86) rfl rfl rfl ?_
              refine go_getR (pc' := 89) rfl rfl hth rfl ?_
              refine go_aload_n (pc' := 90) rfl rfl rfl ?_
              refine go_aload_n (pc' := 91) rfl rfl rfl ?_
              refine go_getR (pc' := 94) rfl rfl hth rfl ?_
              obtain ⟨g1, h⟩ := o_gE h
              obtain ⟨I_94, q_94, h⟩ := o_b1E h
              refine go_callV (pc' := 97) (B' := (0, 0)) (st' := []) rfl rfl (Or.inl (by decide)) rfl rfl (o_kdE g1) (md_104 (by omega) (o_kdE g1) q_94) rfl rfl rfl ?_
              refine go_aload_n (pc' := 98) rfl rfl rfl ?_
              refine go_getR (pc' := 101) rfl rfl hth rfl ?_
              refine go_aload_n (pc' := 102) rfl rfl rfl ?_
              refine go_aload_n (pc' := 103) rfl rfl rfl ?_
              obtain ⟨g2, h⟩ := o_gE h
              refine go_getR (pc' := 106) rfl rfl (o_kdE g2) rfl ?_
              refine go_iconst (pc' := 107) (v := (nI 0)) rfl rfl rfl ?_
              obtain ⟨g3, h⟩ := o_gE h
              refine go_iaload (pc' := 108) rfl (o_inK g3) (o_inB g3) rfl ?_
              obtain ⟨I_108, q_108, h⟩ := o_b1E h
              refine go_callV (pc' := 111) (B' := (0, 0)) (st' := []) rfl rfl (Or.inl (by decide)) rfl rfl (o_kdE g1) (md_106 (by omega) (o_kdE g1) q_108) rfl rfl rfl ?_
              refine go_iload (pc' := 113) rfl rfl rfl ?_
              refine go_aload_n (pc' := 114) rfl rfl rfl ?_
              refine go_getR (pc' := 117) rfl rfl hth rfl ?_
              refine go_aload_n (pc' := 118) rfl rfl rfl ?_
              refine go_getR (pc' := 121) rfl rfl hth rfl ?_
              refine go_getI (pc' := 124) rfl rfl (by decide) (by decide) (o_kdE g1) rfl ?_
              obtain ⟨r_124, q_124, h⟩ := o_b1E h
              refine go_callV (pc' := 127) (B' := (0, 0)) (st' := [.inl r_124, .inl v5_41]) rfl rfl (Or.inl (by decide)) rfl rfl (o_kdE g1) (md_105 (by omega) (o_kdE g1) q_124) rfl rfl rfl ?_
              obtain ⟨r_127, q_127, h⟩ := o_b1E h
              refine go_callS (pc' := 130) (B' := (0, 0)) (st' := [.inl r_127, .inl v5_41]) rfl rfl (Or.inl (by decide)) rfl rfl trivial (md_182 (by omega) q_127) rfl rfl rfl ?_
              refine go_iadd (pc' := 131) rfl rfl ?_
              obtain ⟨x5_131, ex5_131, h⟩ := o_b1E h
              refine go_ndI ex5_131 ?_
              refine go_istore (pc' := 133) (lo' := [some (.inr (.inr th)), some (.inl a0), some (.inl a1), some (.inr (.inr r_5)), some (.inl w4_85), some (.inl x5_131), some (.inl v6_41), z7_x85]) rfl rfl rfl ?_
              obtain ⟨x6_133, ex6_133, h⟩ := o_b1E h
              refine go_iincE (pc' := 136) rfl rfl (y := (nI 1)) rfl ex6_133 (lo' := [some (.inr (.inr th)), some (.inl a0), some (.inl a1), some (.inr (.inr r_5)), some (.inl w4_85), some (.inl x5_131), some (.inl x6_133), z7_x85]) rfl rfl ?_
              refine go_goto (pc' := 41) rfl rfl ?_
              exact (lp_backE h hk41 z7_x85 :)
            have lo50 : ∀ n s, lp (fun s => m_176_b50 th Rf G s.1 s.2.1 s.2.2) n s = some q50 → (fun s => ai_Go si_t (10, false, 0, cd_176) (ai_Cl si_t si_ms e) (sp_Q (some (.inl r)) I1 J Rf G) 50 [some (.inr (.inr th)), some (.inl a0), some (.inl a1), some (.inr (.inr r_5)), some (.inl s.1), some (.inl v5_41), some (.inl v6_41), some (.inl s.2.1)] [] (0, 0) s.2.2 J Rf G) s := lp_go (fun s x50 hx hk50 => by
              obtain ⟨v4_50, v7_50, I_50⟩ := s
              have h : m_176_b50 th Rf G v4_50 v7_50 I_50 = some x50 := hx
              clear hx
              show ai_Go si_t (10, false, 0, cd_176) (ai_Cl si_t si_ms e) (sp_Q (some (.inl r)) I1 J Rf G) 50 [some (.inr (.inr th)), some (.inl a0), some (.inl a1), some (.inr (.inr r_5)), some (.inl v4_50), some (.inl v5_41), some (.inl v6_41), some (.inl v7_50)] [] (0, 0) I_50 J Rf G
              unfold m_176_b50 at h
              refine go_iload (pc' := 52) rfl rfl rfl ?_
              refine go_bipush (pc' := 54) (v := (nI 8)) rfl rfl rfl ?_
              refine go_icmp_ge (pt := 85) (pc' := 57) rfl rfl rfl (fun h54 => ?_) (fun h54 => ?_)
              · replace h := o_t h54 h
                exact ex50_85 _ _ (some (.inl v7_50)) (lp_exitE h hk50)
              · replace h := o_f h54 h
                refine go_iload (pc' := 59) rfl rfl rfl ?_
                obtain ⟨r_59, q_59, h⟩ := o_b1E h
                refine go_callS (pc' := 62) (B' := (0, 0)) (st' := [.inl r_59]) rfl rfl (Or.inl (by decide)) rfl rfl trivial (md_184 (by omega) q_59) rfl rfl rfl ?_
                refine go_istore (pc' := 64) (lo' := [some (.inr (.inr th)), some (.inl a0), some (.inl a1), some (.inr (.inr r_5)), some (.inl r_59), some (.inl v5_41), some (.inl v6_41), some (.inl v7_50)]) rfl rfl rfl ?_
                refine go_aload_n (pc' := 65) rfl rfl rfl ?_
                refine go_getR (pc' := 68) rfl rfl hth rfl ?_
                refine go_iload (pc' := 70) rfl rfl rfl ?_
                refine go_iload (pc' := 72) rfl rfl rfl ?_
                refine go_bipush (pc' := 74) (v := (nI 21)) rfl rfl rfl ?_
                refine go_irem (pc' := 75) rfl (by decide) rfl ?_
                refine go_bipush (pc' := 77) (v := (nI 10)) rfl rfl rfl ?_
                refine go_isub (pc' := 78) rfl rfl ?_
                obtain ⟨g4, h⟩ := o_gE h
                obtain ⟨I_78, eI_78, h⟩ := o_b1E h
                refine go_iastore (pc' := 79) rfl (o_inK g4) (o_inB g4) rfl ?_
                refine go_ndMI eI_78 ?_
                obtain ⟨x7_79, ex7_79, h⟩ := o_b1E h
                refine go_iincE (pc' := 82) rfl rfl (y := (nI 1)) rfl ex7_79 (lo' := [some (.inr (.inr th)), some (.inl a0), some (.inl a1), some (.inr (.inr r_5)), some (.inl r_59), some (.inl v5_41), some (.inl v6_41), some (.inl x7_79)]) rfl rfl ?_
                refine go_goto (pc' := 50) rfl rfl ?_
                exact (lp_backE h hk50 :))
            exact lo50 _ (v4_41, (nI 0), I_41) hl50 )
        exact lo41 _ (x4_33, (nI 0), (nI 0), I) hl41 none
      · replace h := o_f h21 h
        refine go_iconst (pc' := 25) (v := (-1 : Int32)) rfl rfl rfl ?_
        cases h
        exact go_iret rfl (trivial) ⟨rfl, rfl, rfl, rfl, rfl⟩
/-- PricedBases.seed(I)Z -/
def m_177 (th : Nat) (a0 : Int32) (I : ai_I) (Rf : ai_R) (G : ai_G) : Option (Int32 × ai_I) :=
  if a0 < 0 then (some ((nI 0), I)) else (if a0 < (nI 65536) then (o_g (o_kd G (Rf th 0) 6) (o_b1 (some (va_up I (Rf th 0) (va_up (I (Rf th 0)) 4 a0))) (fun I_18 => some ((nI 1), I_18)))) else (some ((nI 0), I)))
theorem md_177 {d : Nat} {I : ai_I} {J : ai_J} {Rf : ai_R} {G : ai_G} {th : Nat} {a0 : Int32} {r : Int32} {I1 : ai_I} (hd : 1 ≤ d) (hth : G.1 th = 10) (h : m_177 th a0 I Rf G = some (r, I1)) : ai_Cl si_t si_ms d 177 [.inr (.inr th), .inl a0] I J Rf G (some (.inl r)) I1 J Rf G := by
  obtain ⟨e, rfl⟩ : ∃ e, d = e + 1 := ⟨d - 1, by omega⟩
  unfold m_177 at h
  refine sp_in (lo := [some (.inr (.inr th)), some (.inl a0)]) (B := (0, 0)) rfl (Nat.le_of_ble_eq_true rfl) rfl rfl ?_
  refine go_iload_n (pc' := 1) rfl rfl rfl ?_
  refine go_if_lt (pt := 11) (pc' := 4) rfl rfl rfl (fun h1 => ?_) (fun h1 => ?_)
  · replace h := o_t h1 h
    refine go_iconst (pc' := 12) (v := (nI 0)) rfl rfl rfl ?_
    cases h
    exact go_iret rfl (rfl) ⟨rfl, rfl, rfl, rfl, rfl⟩
  · replace h := o_f h1 h
    refine go_iload_n (pc' := 5) rfl rfl rfl ?_
    refine go_ldc_w (pc' := 8) (v := .inl (nI 65536)) rfl rfl rfl ?_
    refine go_icmp_lt (pt := 13) (pc' := 11) rfl rfl rfl (fun h8 => ?_) (fun h8 => ?_)
    · replace h := o_t h8 h
      refine go_aload_n (pc' := 14) rfl rfl rfl ?_
      refine go_getR (pc' := 17) rfl rfl hth rfl ?_
      refine go_iload_n (pc' := 18) rfl rfl rfl ?_
      obtain ⟨g0, h⟩ := o_gE h
      obtain ⟨I_18, eI_18, h⟩ := o_b1E h
      refine go_putI (pc' := 21) rfl rfl (fun h => by cases h) (o_kdE g0) rfl ?_
      refine go_ndMI eI_18 ?_
      refine go_iconst (pc' := 22) (v := (nI 1)) rfl rfl rfl ?_
      cases h
      exact go_iret rfl (rfl) ⟨rfl, rfl, rfl, rfl, rfl⟩
    · replace h := o_f h8 h
      refine go_iconst (pc' := 12) (v := (nI 0)) rfl rfl rfl ?_
      cases h
      exact go_iret rfl (rfl) ⟨rfl, rfl, rfl, rfl, rfl⟩
/-- PricedBases.count(I)I -/
def m_178 (th : Nat) (a0 : Int32) (I : ai_I) (Rf : ai_R) (G : ai_G) : Option (Int32) :=
  if a0 = (0 : Int32) then (some (I th 4)) else (if a0 = (1 : Int32) then (o_g (o_kd G (Rf th 0) 6) (some (I (Rf th 0) 4))) else (if a0 = (2 : Int32) then (o_g (o_kd G (Rf th 0) 6) (o_b1 (m_99 (Rf th 0) I Rf G) (fun r_45 => some r_45))) else (some (-1 : Int32))))
theorem md_178 {d : Nat} {I : ai_I} {J : ai_J} {Rf : ai_R} {G : ai_G} {th : Nat} {a0 : Int32} {r : Int32} (hd : 2 ≤ d) (hth : G.1 th = 10) (h : m_178 th a0 I Rf G = some r) : ai_Cl si_t si_ms d 178 [.inr (.inr th), .inl a0] I J Rf G (some (.inl r)) I J Rf G := by
  obtain ⟨e, rfl⟩ : ∃ e, d = e + 1 := ⟨d - 1, by omega⟩
  unfold m_178 at h
  refine sp_in (lo := [some (.inr (.inr th)), some (.inl a0)]) (B := (0, 0)) rfl (Nat.le_of_ble_eq_true rfl) rfl rfl ?_
  refine go_iload_n (pc' := 1) rfl rfl rfl ?_
  by_cases c1_0 : a0 = (0 : Int32)
  · replace h := o_t c1_0 h
    refine go_swIn (pc' := 28) 0 rfl rfl (by rw [c1_0]; decide) (by rw [c1_0]; decide) rfl ?_
    refine go_aload_n (pc' := 29) rfl rfl rfl ?_
    refine go_getI (pc' := 32) rfl rfl (by decide) (by decide) hth rfl ?_
    cases h
    exact go_iret rfl (trivial) ⟨rfl, rfl, rfl, rfl, rfl⟩
  replace h := o_f c1_0 h
  by_cases c1_1 : a0 = (1 : Int32)
  · replace h := o_t c1_1 h
    refine go_swIn (pc' := 33) 1 rfl rfl (by rw [c1_1]; decide) (by rw [c1_1]; decide) rfl ?_
    refine go_aload_n (pc' := 34) rfl rfl rfl ?_
    refine go_getR (pc' := 37) rfl rfl hth rfl ?_
    obtain ⟨g0, h⟩ := o_gE h
    refine go_getI (pc' := 40) rfl rfl (by decide) (by decide) (o_kdE g0) rfl ?_
    cases h
    exact go_iret rfl (trivial) ⟨rfl, rfl, rfl, rfl, rfl⟩
  replace h := o_f c1_1 h
  by_cases c1_2 : a0 = (2 : Int32)
  · replace h := o_t c1_2 h
    refine go_swIn (pc' := 41) 2 rfl rfl (by rw [c1_2]; decide) (by rw [c1_2]; decide) rfl ?_
    refine go_aload_n (pc' := 42) rfl rfl rfl ?_
    refine go_getR (pc' := 45) rfl rfl hth rfl ?_
    obtain ⟨g1, h⟩ := o_gE h
    obtain ⟨r_45, q_45, h⟩ := o_b1E h
    refine go_callV (pc' := 48) (B' := (0, 0)) (st' := [.inl r_45]) rfl rfl (Or.inl (by decide)) rfl rfl (o_kdE g1) (md_99 (by omega) (o_kdE g1) q_45) rfl rfl rfl ?_
    cases h
    exact go_iret rfl (trivial) ⟨rfl, rfl, rfl, rfl, rfl⟩
  replace h := o_f c1_2 h
  refine go_swOut (pc' := 49) rfl (by
      rw [← Int32.toInt_inj] at c1_0
      rw [← Int32.toInt_inj] at c1_1
      rw [← Int32.toInt_inj] at c1_2
      have c1_0 : ¬ a0.toInt = 0 := c1_0
      have c1_1 : ¬ a0.toInt = 1 := c1_1
      have c1_2 : ¬ a0.toInt = 2 := c1_2
      show a0.toInt < 0 ∨ 0 + ((3 : Nat) : Int) ≤ a0.toInt
      omega) rfl ?_
  refine go_iconst (pc' := 50) (v := (-1 : Int32)) rfl rfl rfl ?_
  cases h
  exact go_iret rfl (trivial) ⟨rfl, rfl, rfl, rfl, rfl⟩
/-- PricedBases.keep()I -/
def m_179 (th : Nat) (I : ai_I) (Rf : ai_R) (G : ai_G) : Option (Int32 × ai_I) :=
  o_g (o_kd G (Rf th 1) 6) (o_b1 (m_100 (Rf th 1) (Rf th 0) I Rf G) (fun I_8 => o_b1 (some (va_up I_8 th (va_up (I_8 th) 2 (nI 1)))) (fun I_13 => some ((nI 0), I_13))))
theorem md_179 {d : Nat} {I : ai_I} {J : ai_J} {Rf : ai_R} {G : ai_G} {th : Nat} {r : Int32} {I1 : ai_I} (hd : 3 ≤ d) (hth : G.1 th = 10) (h : m_179 th I Rf G = some (r, I1)) : ai_Cl si_t si_ms d 179 [.inr (.inr th)] I J Rf G (some (.inl r)) I1 J Rf G := by
  obtain ⟨e, rfl⟩ : ∃ e, d = e + 1 := ⟨d - 1, by omega⟩
  unfold m_179 at h
  refine sp_in (lo := [some (.inr (.inr th))]) (B := (0, 0)) rfl (Nat.le_of_ble_eq_true rfl) rfl rfl ?_
  refine go_aload_n (pc' := 1) rfl rfl rfl ?_
  refine go_getR (pc' := 4) rfl rfl hth rfl ?_
  refine go_aload_n (pc' := 5) rfl rfl rfl ?_
  refine go_getR (pc' := 8) rfl rfl hth rfl ?_
  obtain ⟨g0, h⟩ := o_gE h
  obtain ⟨I_8, q_8, h⟩ := o_b1E h
  refine go_callV (pc' := 11) (B' := (0, 0)) (st' := []) rfl rfl (Or.inl (by decide)) rfl rfl (o_kdE g0) (md_100 (by omega) (o_kdE g0) q_8) rfl rfl rfl ?_
  refine go_aload_n (pc' := 12) rfl rfl rfl ?_
  refine go_iconst (pc' := 13) (v := (nI 1)) rfl rfl rfl ?_
  obtain ⟨I_13, eI_13, h⟩ := o_b1E h
  refine go_putZ (pc' := 16) rfl rfl (fun h => by cases h) hth rfl rfl ?_
  refine go_ndMI eI_13 ?_
  refine go_iconst (pc' := 17) (v := (nI 0)) rfl rfl rfl ?_
  cases h
  exact go_iret rfl (trivial) ⟨rfl, rfl, rfl, rfl, rfl⟩
/-- PricedBases.undo()Z -/
def m_180 (th : Nat) (I : ai_I) (Rf : ai_R) (G : ai_G) : Option (Int32 × ai_I) :=
  if (I th 2) = 0 then (some ((nI 0), I)) else (o_g (o_kd G (Rf th 0) 6) (o_b1 (m_100 (Rf th 0) (Rf th 1) I Rf G) (fun I_17 => some ((nI 1), I_17))))
theorem md_180 {d : Nat} {I : ai_I} {J : ai_J} {Rf : ai_R} {G : ai_G} {th : Nat} {r : Int32} {I1 : ai_I} (hd : 3 ≤ d) (hth : G.1 th = 10) (h : m_180 th I Rf G = some (r, I1)) : ai_Cl si_t si_ms d 180 [.inr (.inr th)] I J Rf G (some (.inl r)) I1 J Rf G := by
  obtain ⟨e, rfl⟩ : ∃ e, d = e + 1 := ⟨d - 1, by omega⟩
  unfold m_180 at h
  refine sp_in (lo := [some (.inr (.inr th))]) (B := (0, 0)) rfl (Nat.le_of_ble_eq_true rfl) rfl rfl ?_
  refine go_aload_n (pc' := 1) rfl rfl rfl ?_
  refine go_getI (pc' := 4) rfl rfl (by decide) (by decide) hth rfl ?_
  refine go_if_ne (pt := 9) (pc' := 7) rfl rfl rfl (fun h4 => ?_) (fun h4 => ?_)
  · replace h := o_f h4 h
    refine go_aload_n (pc' := 10) rfl rfl rfl ?_
    refine go_getR (pc' := 13) rfl rfl hth rfl ?_
    refine go_aload_n (pc' := 14) rfl rfl rfl ?_
    refine go_getR (pc' := 17) rfl rfl hth rfl ?_
    obtain ⟨g0, h⟩ := o_gE h
    obtain ⟨I_17, q_17, h⟩ := o_b1E h
    refine go_callV (pc' := 20) (B' := (0, 0)) (st' := []) rfl rfl (Or.inl (by decide)) rfl rfl (o_kdE g0) (md_100 (by omega) (o_kdE g0) q_17) rfl rfl rfl ?_
    refine go_iconst (pc' := 21) (v := (nI 1)) rfl rfl rfl ?_
    cases h
    exact go_iret rfl (rfl) ⟨rfl, rfl, rfl, rfl, rfl⟩
  · replace h := o_t (Decidable.of_not_not h4) h
    refine go_iconst (pc' := 8) (v := (nI 0)) rfl rfl rfl ?_
    cases h
    exact go_iret rfl (rfl) ⟨rfl, rfl, rfl, rfl, rfl⟩
def m_181_x38_66 (I_23 : ai_I) (w3_66 : Int32) : Option (Int32 × ai_I) :=
  some (w3_66, I_23)
def m_181_x38_74 (I_23 : ai_I) : Option (Int32 × ai_I) :=
  some ((-1 : Int32), I_23)
def m_181_b38 (th : Nat) (a0 : Int32) (Rf : ai_R) (G : ai_G) (I_23 : ai_I) (x2_35 : Nat) (v3_38 : Int32) : Option (Int32 ⊕ (Int32 ⊕ Unit)) :=
  if a0 ≤ v3_38 then (some (Sum.inr (Sum.inr ()))) else (o_g (o_kd G x2_35 8) (if (I_23 x2_35 2) ≤ v3_38 then (some (Sum.inr (Sum.inl v3_38))) else (o_g (o_in G 13 (Rf th 3) v3_38) (o_g (o_in G 13 (Rf x2_35 5) v3_38) (if (I_23 (Rf th 3) v3_38.toNatClampNeg) = (I_23 (Rf x2_35 5) v3_38.toNatClampNeg) then (o_b1 (some (v3_38 + (nI 1))) (fun x3_68 => some (Sum.inl x3_68))) else (some (Sum.inr (Sum.inl v3_38))))))))
/-- PricedBases.check(I)I -/
def m_181 (th : Nat) (a0 : Int32) (I : ai_I) (Rf : ai_R) (G : ai_G) : Option (Int32 × ai_I) :=
  if a0 < 0 then (some ((-2 : Int32), I)) else (if (nI 70) < a0 then (some ((-2 : Int32), I)) else (if a0 ≤ (I th 4) then (o_b1 (some (va_up I th (va_up (I th) 4 (nI 0)))) (fun I_23 => o_g (o_kd G (Rf th 0) 6) (o_g (o_in G 15 (Rf (Rf th 0) 0) (nI 0)) (o_b1 (some (Rf (Rf (Rf th 0) 0) (nI 0).toNatClampNeg)) (fun x2_35 => o_s2 (lp (fun s => m_181_b38 th a0 Rf G I_23 x2_35 s) o_N (nI 0)) (fun t => m_181_x38_66 I_23 t) (fun t => m_181_x38_74 I_23)))))) else (some ((-2 : Int32), I))))
theorem md_181 {d : Nat} {I : ai_I} {J : ai_J} {Rf : ai_R} {G : ai_G} {th : Nat} {a0 : Int32} {r : Int32} {I1 : ai_I} (hd : 1 ≤ d) (hth : G.1 th = 10) (h : m_181 th a0 I Rf G = some (r, I1)) : ai_Cl si_t si_ms d 181 [.inr (.inr th), .inl a0] I J Rf G (some (.inl r)) I1 J Rf G := by
  obtain ⟨e, rfl⟩ : ∃ e, d = e + 1 := ⟨d - 1, by omega⟩
  unfold m_181 at h
  refine sp_in (lo := [some (.inr (.inr th)), some (.inl a0), none, none]) (B := (0, 0)) rfl (Nat.le_of_ble_eq_true rfl) rfl rfl ?_
  refine go_iload_n (pc' := 1) rfl rfl rfl ?_
  refine go_if_lt (pt := 18) (pc' := 4) rfl rfl rfl (fun h1 => ?_) (fun h1 => ?_)
  · replace h := o_t h1 h
    refine go_bipush (pc' := 20) (v := (-2 : Int32)) rfl rfl rfl ?_
    cases h
    exact go_iret rfl (trivial) ⟨rfl, rfl, rfl, rfl, rfl⟩
  · replace h := o_f h1 h
    refine go_iload_n (pc' := 5) rfl rfl rfl ?_
    refine go_bipush (pc' := 7) (v := (nI 70)) rfl rfl rfl ?_
    refine go_icmp_gt (pt := 18) (pc' := 10) rfl rfl rfl (fun h7 => ?_) (fun h7 => ?_)
    · replace h := o_t h7 h
      refine go_bipush (pc' := 20) (v := (-2 : Int32)) rfl rfl rfl ?_
      cases h
      exact go_iret rfl (trivial) ⟨rfl, rfl, rfl, rfl, rfl⟩
    · replace h := o_f h7 h
      refine go_iload_n (pc' := 11) rfl rfl rfl ?_
      refine go_aload_n (pc' := 12) rfl rfl rfl ?_
      refine go_getI (pc' := 15) rfl rfl (by decide) (by decide) hth rfl ?_
      refine go_icmp_le (pt := 21) (pc' := 18) rfl rfl rfl (fun h15 => ?_) (fun h15 => ?_)
      · replace h := o_t h15 h
        refine go_aload_n (pc' := 22) rfl rfl rfl ?_
        refine go_iconst (pc' := 23) (v := (nI 0)) rfl rfl rfl ?_
        obtain ⟨I_23, eI_23, h⟩ := o_b1E h
        refine go_putI (pc' := 26) rfl rfl (fun h => by cases h) hth rfl ?_
        refine go_ndMI eI_23 ?_
        refine go_aload_n (pc' := 27) rfl rfl rfl ?_
        refine go_getR (pc' := 30) rfl rfl hth rfl ?_
        obtain ⟨g0, h⟩ := o_gE h
        refine go_getR (pc' := 33) rfl rfl (o_kdE g0) rfl ?_
        refine go_iconst (pc' := 34) (v := (nI 0)) rfl rfl rfl ?_
        obtain ⟨g1, h⟩ := o_gE h
        refine go_aaload (pc' := 35) rfl (o_inK g1) (o_inB g1) rfl ?_
        obtain ⟨x2_35, ex2_35, h⟩ := o_b1E h
        refine go_ndR ex2_35 ?_
        refine go_astore_n (pc' := 36) (lo' := [some (.inr (.inr th)), some (.inl a0), some (.inr (.inr x2_35)), none]) rfl rfl rfl ?_
        refine go_iconst (pc' := 37) (v := (nI 0)) rfl rfl rfl ?_
        refine go_istore_n (pc' := 38) (lo' := [some (.inr (.inr th)), some (.inl a0), some (.inr (.inr x2_35)), some (.inl (nI 0))]) rfl rfl rfl ?_
        obtain ⟨q38, hl38, hc38_66, hc38_74⟩ := o_s2E h
        have ex38_66 : ∀ (w3_66 : Int32), (Sum.inl w3_66) = q38 → ai_Go si_t (10, false, 0, cd_181) (ai_Cl si_t si_ms e) (sp_Q (some (.inl r)) I1 J Rf G) 66 [some (.inr (.inr th)), some (.inl a0), some (.inr (.inr x2_35)), some (.inl w3_66)] [] (0, 0) I_23 J Rf G := by
          intro w3_66 hq
          have h : m_181_x38_66 I_23 w3_66 = some (r, I1) := hc38_66 w3_66 hq.symm
          unfold m_181_x38_66 at h
          refine go_iload_n (pc' := 67) rfl rfl rfl ?_
          cases h
          exact go_iret rfl (trivial) ⟨rfl, rfl, rfl, rfl, rfl⟩
        have ex38_74 : ∀ (z3_x74 : Option ai_V), (Sum.inr ()) = q38 → ai_Go si_t (10, false, 0, cd_181) (ai_Cl si_t si_ms e) (sp_Q (some (.inl r)) I1 J Rf G) 74 [some (.inr (.inr th)), some (.inl a0), some (.inr (.inr x2_35)), z3_x74] [] (0, 0) I_23 J Rf G := by
          intro z3_x74 hq
          have h : m_181_x38_74 I_23 = some (r, I1) := hc38_74 () hq.symm
          unfold m_181_x38_74 at h
          refine go_iconst (pc' := 75) (v := (-1 : Int32)) rfl rfl rfl ?_
          cases h
          exact go_iret rfl (trivial) ⟨rfl, rfl, rfl, rfl, rfl⟩
        have lo38 : ∀ n s, lp (fun s => m_181_b38 th a0 Rf G I_23 x2_35 s) n s = some q38 → (fun s => ai_Go si_t (10, false, 0, cd_181) (ai_Cl si_t si_ms e) (sp_Q (some (.inl r)) I1 J Rf G) 38 [some (.inr (.inr th)), some (.inl a0), some (.inr (.inr x2_35)), some (.inl s)] [] (0, 0) I_23 J Rf G) s := lp_go (fun s x38 hx hk38 => by
          revert s; intro v3_38 hx
          have h : m_181_b38 th a0 Rf G I_23 x2_35 v3_38 = some x38 := hx
          clear hx
          show ai_Go si_t (10, false, 0, cd_181) (ai_Cl si_t si_ms e) (sp_Q (some (.inl r)) I1 J Rf G) 38 [some (.inr (.inr th)), some (.inl a0), some (.inr (.inr x2_35)), some (.inl v3_38)] [] (0, 0) I_23 J Rf G
          unfold m_181_b38 at h
          refine go_iload_n (pc' := 39) rfl rfl rfl ?_
          refine go_iload_n (pc' := 40) rfl rfl rfl ?_
          refine go_icmp_ge (pt := 74) (pc' := 43) rfl rfl rfl (fun h40 => ?_) (fun h40 => ?_)
          · replace h := o_t h40 h
            exact ex38_74  (some (.inl v3_38)) (lp_exitE h hk38)
          · replace h := o_f h40 h
            refine go_iload_n (pc' := 44) rfl rfl rfl ?_
            refine go_aload_n (pc' := 45) rfl rfl rfl ?_
            obtain ⟨g2, h⟩ := o_gE h
            refine go_getI (pc' := 48) rfl rfl (by decide) (by decide) (o_kdE g2) rfl ?_
            refine go_icmp_ge (pt := 66) (pc' := 51) rfl rfl rfl (fun h48 => ?_) (fun h48 => ?_)
            · replace h := o_t h48 h
              exact ex38_66 _  (lp_exitE h hk38)
            · replace h := o_f h48 h
              refine go_aload_n (pc' := 52) rfl rfl rfl ?_
              refine go_getR (pc' := 55) rfl rfl hth rfl ?_
              refine go_iload_n (pc' := 56) rfl rfl rfl ?_
              obtain ⟨g3, h⟩ := o_gE h
              refine go_iaload (pc' := 57) rfl (o_inK g3) (o_inB g3) rfl ?_
              refine go_aload_n (pc' := 58) rfl rfl rfl ?_
              refine go_getR (pc' := 61) rfl rfl (o_kdE g2) rfl ?_
              refine go_iload_n (pc' := 62) rfl rfl rfl ?_
              obtain ⟨g4, h⟩ := o_gE h
              refine go_iaload (pc' := 63) rfl (o_inK g4) (o_inB g4) rfl ?_
              refine go_icmp_eq (pt := 68) (pc' := 66) rfl rfl rfl (fun h63 => ?_) (fun h63 => ?_)
              · replace h := o_t h63 h
                obtain ⟨x3_68, ex3_68, h⟩ := o_b1E h
                refine go_iincE (pc' := 71) rfl rfl (y := (nI 1)) rfl ex3_68 (lo' := [some (.inr (.inr th)), some (.inl a0), some (.inr (.inr x2_35)), some (.inl x3_68)]) rfl rfl ?_
                refine go_goto (pc' := 38) rfl rfl ?_
                exact (lp_backE h hk38 :)
              · replace h := o_f h63 h
                exact ex38_66 _  (lp_exitE h hk38))
        exact lo38 _ (nI 0) hl38 
      · replace h := o_f h15 h
        refine go_bipush (pc' := 20) (v := (-2 : Int32)) rfl rfl rfl ?_
        cases h
        exact go_iret rfl (trivial) ⟨rfl, rfl, rfl, rfl, rfl⟩
def m_188_x161_241 (th : Nat) (J_25 : ai_J) (G_154 : ai_G) (R_156 : ai_R) (Ix_241 : ai_I) : Option (ai_I × ai_J × ai_R × ai_G) :=
  o_g (o_in G_154 13 (R_156 th 0) (nI 1040)) (o_b1 (some (va_up Ix_241 (R_156 th 0) (va_up (Ix_241 (R_156 th 0)) (nI 1040).toNatClampNeg (nI 1)))) (fun I_249 => some (I_249, J_25, R_156, G_154)))
def m_188_x168_211 (th : Nat) (G_154 : ai_G) (R_156 : ai_R) (v1_161 : Int32) (Ix_211 : ai_I) : Option ((Int32 × ai_I) ⊕ ai_I) :=
  o_g (o_in G_154 13 (R_156 th 0) ((nI 258) * v1_161)) (o_b1 (some (va_up Ix_211 (R_156 th 0) (va_up (Ix_211 (R_156 th 0)) ((nI 258) * v1_161).toNatClampNeg (nI 2)))) (fun I_221 => o_g (o_in G_154 13 (R_156 th 0) (((nI 258) * v1_161) + (nI 1))) (o_b1 (some (va_up I_221 (R_156 th 0) (va_up (I_221 (R_156 th 0)) (((nI 258) * v1_161) + (nI 1)).toNatClampNeg (nI 1)))) (fun I_234 => o_b1 (some (v1_161 + (nI 1))) (fun x1_235 => some (Sum.inl (x1_235, I_234)))))))
def m_188_j204 (th : Nat) (G_154 : ai_G) (R_156 : ai_R) (v1_161 : Int32) (v2_168 : Int32) (I_168 : ai_I) (t2_204 : Int32) : Option ((Int32 × ai_I) ⊕ ai_I) :=
  o_g (o_in G_154 13 (R_156 th 0) ((((nI 258) * v1_161) + (nI 2)) + v2_168)) (o_b1 (some (va_up I_168 (R_156 th 0) (va_up (I_168 (R_156 th 0)) ((((nI 258) * v1_161) + (nI 2)) + v2_168).toNatClampNeg t2_204))) (fun I_204 => o_b1 (some (v2_168 + (nI 1))) (fun x2_205 => some (Sum.inl (x2_205, I_204)))))
def m_188_j198 (th : Nat) (G_154 : ai_G) (R_156 : ai_R) (v1_161 : Int32) (v2_168 : Int32) (I_168 : ai_I) : Option ((Int32 × ai_I) ⊕ ai_I) :=
  m_188_j204 th G_154 R_156 v1_161 v2_168 I_168 (nI 0)
def m_188_b168 (th : Nat) (G_154 : ai_G) (R_156 : ai_R) (v1_161 : Int32) (v2_168 : Int32) (I_168 : ai_I) : Option ((Int32 × ai_I) ⊕ ai_I) :=
  if (nI 256) ≤ v2_168 then (some (Sum.inr I_168)) else (if v2_168 = (nI 1) then (m_188_j198 th G_154 R_156 v1_161 v2_168 I_168) else (if v2_168 = (nI 2) then (m_188_j198 th G_154 R_156 v1_161 v2_168 I_168) else (m_188_j204 th G_154 R_156 v1_161 v2_168 I_168 (-2147483648 : Int32))))
def m_188_b161 (th : Nat) (G_154 : ai_G) (R_156 : ai_R) (v1_161 : Int32) (I_161 : ai_I) : Option ((Int32 × ai_I) ⊕ ai_I) :=
  if (nI 4) ≤ v1_161 then (some (Sum.inr I_161)) else (o_s1 (lp (fun s => m_188_b168 th G_154 R_156 v1_161 s.1 s.2) o_N ((nI 0), I_161)) (fun t => m_188_x168_211 th G_154 R_156 v1_161 t))
/-- PricedBasesModel.<init>()V -/
def m_188 (th : Nat) (I : ai_I) (J : ai_J) (Rf : ai_R) (G : ai_G) : Option (ai_I × ai_J × ai_R × ai_G) :=
  o_g (o_nn th) (o_g (o_lt9 G) (o_b1 (some (va_up I (G.2.2 + 1) (fun _ => 0))) (fun I_8 => o_b1 (some (va_up G.1 (G.2.2 + 1) 13, va_up G.2.1 (G.2.2 + 1) 3366, G.2.2 + 1)) (fun G_8 => o_b1 (some (G.2.2 + 1)) (fun n_8 => o_g (o_kd G_8 th 11) (o_b1 (some (va_up Rf th (va_up (Rf th) 0 n_8))) (fun R_10 => o_g (o_lt9 G_8) (o_b1 (some (va_up I_8 (G_8.2.2 + 1) (fun _ => 0))) (fun I_17 => o_b1 (some (va_up G_8.1 (G_8.2.2 + 1) 12, va_up G_8.2.1 (G_8.2.2 + 1) 240, G_8.2.2 + 1)) (fun G_17 => o_b1 (some (G_8.2.2 + 1)) (fun n_17 => o_g (o_kd G_17 th 11) (o_b1 (some (va_up R_10 th (va_up (R_10 th) 2 n_17))) (fun R_19 => o_g (o_lt9 G_17) (o_b1 (some (va_up J (G_17.2.2 + 1) (fun _ => 0))) (fun J_25 => o_b1 (some (va_up G_17.1 (G_17.2.2 + 1) 14, va_up G_17.2.1 (G_17.2.2 + 1) 16, G_17.2.2 + 1)) (fun G_25 => o_b1 (some (G_17.2.2 + 1)) (fun n_25 => o_g (o_kd G_25 th 11) (o_b1 (some (va_up R_19 th (va_up (R_19 th) 13 n_25))) (fun R_27 => o_g (o_lt9 G_25) (o_b1 (some (va_up I_17 (G_25.2.2 + 1) (fun _ => 0))) (fun I_33 => o_b1 (some (va_up G_25.1 (G_25.2.2 + 1) 13, va_up G_25.2.1 (G_25.2.2 + 1) 16, G_25.2.2 + 1)) (fun G_33 => o_b1 (some (G_25.2.2 + 1)) (fun n_33 => o_g (o_kd G_33 th 11) (o_b1 (some (va_up R_27 th (va_up (R_27 th) 14 n_33))) (fun R_35 => o_g (o_lt9 G_33) (o_b1 (some (va_up I_33 (G_33.2.2 + 1) (fun _ => 0))) (fun I_41 => o_b1 (some (va_up G_33.1 (G_33.2.2 + 1) 13, va_up G_33.2.1 (G_33.2.2 + 1) 120, G_33.2.2 + 1)) (fun G_41 => o_b1 (some (G_33.2.2 + 1)) (fun n_41 => o_g (o_kd G_41 th 11) (o_b1 (some (va_up R_35 th (va_up (R_35 th) 15 n_41))) (fun R_43 => o_g (o_lt9 G_41) (o_b1 (some (va_up I_41 (G_41.2.2 + 1) (fun _ => 0))) (fun I_50 => o_b1 (some (va_up G_41.1 (G_41.2.2 + 1) 13, va_up G_41.2.1 (G_41.2.2 + 1) 256, G_41.2.2 + 1)) (fun G_50 => o_b1 (some (G_41.2.2 + 1)) (fun n_50 => o_g (o_kd G_50 th 11) (o_b1 (some (va_up R_43 th (va_up (R_43 th) 16 n_50))) (fun R_52 => o_g (o_lt9 G_50) (o_b1 (some (va_up I_50 (G_50.2.2 + 1) (fun _ => 0))) (fun I_59 => o_b1 (some (va_up G_50.1 (G_50.2.2 + 1) 13, va_up G_50.2.1 (G_50.2.2 + 1) 256, G_50.2.2 + 1)) (fun G_59 => o_b1 (some (G_50.2.2 + 1)) (fun n_59 => o_g (o_kd G_59 th 11) (o_b1 (some (va_up R_52 th (va_up (R_52 th) 17 n_59))) (fun R_61 => o_g (o_lt9 G_59) (o_b1 (some (va_up I_59 (G_59.2.2 + 1) (fun _ => 0))) (fun I_68 => o_b1 (some (va_up G_59.1 (G_59.2.2 + 1) 13, va_up G_59.2.1 (G_59.2.2 + 1) 256, G_59.2.2 + 1)) (fun G_68 => o_b1 (some (G_59.2.2 + 1)) (fun n_68 => o_g (o_kd G_68 th 11) (o_b1 (some (va_up R_61 th (va_up (R_61 th) 20 n_68))) (fun R_70 => o_g (o_lt9 G_68) (o_b1 (some (va_up I_68 (G_68.2.2 + 1) (fun _ => 0))) (fun I_76 => o_b1 (some (va_up G_68.1 (G_68.2.2 + 1) 13, va_up G_68.2.1 (G_68.2.2 + 1) 8, G_68.2.2 + 1)) (fun G_76 => o_b1 (some (G_68.2.2 + 1)) (fun n_76 => o_g (o_kd G_76 th 11) (o_b1 (some (va_up R_70 th (va_up (R_70 th) 22 n_76))) (fun R_78 => o_g (o_lt9 G_76) (o_b1 (some (va_up I_76 (G_76.2.2 + 1) (fun _ => 0))) (fun I_84 => o_b1 (some (va_up G_76.1 (G_76.2.2 + 1) 13, va_up G_76.2.1 (G_76.2.2 + 1) 8, G_76.2.2 + 1)) (fun G_84 => o_b1 (some (G_76.2.2 + 1)) (fun n_84 => o_g (o_kd G_84 th 11) (o_b1 (some (va_up R_78 th (va_up (R_78 th) 24 n_84))) (fun R_86 => o_g (o_lt9 G_84) (o_b1 (some (va_up I_84 (G_84.2.2 + 1) (fun _ => 0))) (fun I_93 => o_b1 (some (va_up G_84.1 (G_84.2.2 + 1) 13, va_up G_84.2.1 (G_84.2.2 + 1) 256, G_84.2.2 + 1)) (fun G_93 => o_b1 (some (G_84.2.2 + 1)) (fun n_93 => o_g (o_kd G_93 th 11) (o_b1 (some (va_up R_86 th (va_up (R_86 th) 25 n_93))) (fun R_95 => o_g (o_lt9 G_93) (o_b1 (some (va_up I_93 (G_93.2.2 + 1) (fun _ => 0))) (fun I_102 => o_b1 (some (va_up G_93.1 (G_93.2.2 + 1) 13, va_up G_93.2.1 (G_93.2.2 + 1) 256, G_93.2.2 + 1)) (fun G_102 => o_b1 (some (G_93.2.2 + 1)) (fun n_102 => o_g (o_kd G_102 th 11) (o_b1 (some (va_up R_95 th (va_up (R_95 th) 26 n_102))) (fun R_104 => o_g (o_lt9 G_102) (o_b1 (some (va_up I_102 (G_102.2.2 + 1) (fun _ => 0))) (fun I_111 => o_b1 (some (va_up G_102.1 (G_102.2.2 + 1) 13, va_up G_102.2.1 (G_102.2.2 + 1) 256, G_102.2.2 + 1)) (fun G_111 => o_b1 (some (G_102.2.2 + 1)) (fun n_111 => o_g (o_kd G_111 th 11) (o_b1 (some (va_up R_104 th (va_up (R_104 th) 27 n_111))) (fun R_113 => o_g (o_lt9 G_111) (o_b1 (some (va_up I_111 (G_111.2.2 + 1) (fun _ => 0))) (fun I_120 => o_b1 (some (va_up G_111.1 (G_111.2.2 + 1) 13, va_up G_111.2.1 (G_111.2.2 + 1) 256, G_111.2.2 + 1)) (fun G_120 => o_b1 (some (G_111.2.2 + 1)) (fun n_120 => o_g (o_kd G_120 th 11) (o_b1 (some (va_up R_113 th (va_up (R_113 th) 28 n_120))) (fun R_122 => o_g (o_lt9 G_120) (o_b1 (some (va_up I_120 (G_120.2.2 + 1) (fun _ => 0))) (fun I_129 => o_b1 (some (va_up G_120.1 (G_120.2.2 + 1) 12, va_up G_120.2.1 (G_120.2.2 + 1) 2000, G_120.2.2 + 1)) (fun G_129 => o_b1 (some (G_120.2.2 + 1)) (fun n_129 => o_g (o_kd G_129 th 11) (o_b1 (some (va_up R_122 th (va_up (R_122 th) 29 n_129))) (fun R_131 => o_g (o_lt9 G_129) (o_b1 (some (va_up I_129 (G_129.2.2 + 1) (fun _ => 0))) (fun I_137 => o_b1 (some (va_up G_129.1 (G_129.2.2 + 1) 13, va_up G_129.2.1 (G_129.2.2 + 1) 8, G_129.2.2 + 1)) (fun G_137 => o_b1 (some (G_129.2.2 + 1)) (fun n_137 => o_g (o_kd G_137 th 11) (o_b1 (some (va_up R_131 th (va_up (R_131 th) 31 n_137))) (fun R_139 => o_g (o_lt9 G_137) (o_b1 (some (va_up I_137 (G_137.2.2 + 1) (fun _ => 0))) (fun I_145 => o_b1 (some (va_up G_137.1 (G_137.2.2 + 1) 13, va_up G_137.2.1 (G_137.2.2 + 1) 8, G_137.2.2 + 1)) (fun G_145 => o_b1 (some (G_137.2.2 + 1)) (fun n_145 => o_g (o_kd G_145 th 11) (o_b1 (some (va_up R_139 th (va_up (R_139 th) 32 n_145))) (fun R_147 => o_g (o_lt9 G_145) (o_b1 (some (va_up I_145 (G_145.2.2 + 1) (fun _ => 0))) (fun I_154 => o_b1 (some (va_up G_145.1 (G_145.2.2 + 1) 13, va_up G_145.2.1 (G_145.2.2 + 1) 256, G_145.2.2 + 1)) (fun G_154 => o_b1 (some (G_145.2.2 + 1)) (fun n_154 => o_g (o_kd G_154 th 11) (o_b1 (some (va_up R_147 th (va_up (R_147 th) 33 n_154))) (fun R_156 => o_s1 (lp (fun s => m_188_b161 th G_154 R_156 s.1 s.2) o_N ((nI 0), I_154)) (fun t => m_188_x161_241 th J_25 G_154 R_156 t))))))))))))))))))))))))))))))))))))))))))))))))))))))))))))))))))))))))))))))))))))))))))))))))))))))))))))))
set_option maxRecDepth 100000 in
theorem md_188 {d : Nat} {I : ai_I} {J : ai_J} {Rf : ai_R} {G : ai_G} {th : Nat} {I1 : ai_I} {J1 : ai_J} {R1 : ai_R} {G1 : ai_G} (hd : 1 ≤ d) (hth : G.1 th = 11) (h : m_188 th I J Rf G = some (I1, J1, R1, G1)) : ai_Cl si_t si_ms d 188 [.inr (.inr th)] I J Rf G none I1 J1 R1 G1 := by
  obtain ⟨e, rfl⟩ : ∃ e, d = e + 1 := ⟨d - 1, by omega⟩
  unfold m_188 at h
  refine sp_in (lo := [some (.inr (.inr th)), none, none]) (B := (18, 7838)) rfl (Nat.le_of_ble_eq_true rfl) rfl rfl ?_
  refine go_aload_n (pc' := 1) rfl rfl rfl ?_
  obtain ⟨g0, h⟩ := o_gE h
  refine go_obj (pc' := 4) rfl rfl (o_nnE g0) (Nat.le_of_ble_eq_true rfl) rfl ?_
  refine go_aload_n (pc' := 5) rfl rfl rfl ?_
  refine go_sipush (pc' := 8) (v := (nI 3366)) rfl rfl rfl ?_
  obtain ⟨g1, h⟩ := o_gE h
  refine go_newI (pc' := 10) (N := 3366) rfl (by decide) (by decide) (by decide) (by decide) (by decide) (o_lt9E g1) rfl ?_
  obtain ⟨I_8, eI_8, h⟩ := o_b1E h
  obtain ⟨G_8, eG_8, h⟩ := o_b1E h
  obtain ⟨n_8, en_8, h⟩ := o_b1E h
  refine go_ndMI eI_8 ?_
  refine go_ndMG eG_8 ?_
  refine go_ndR en_8 ?_
  refine go_ndB (B' := (17, 4472)) rfl ?_
  obtain ⟨g2, h⟩ := o_gE h
  obtain ⟨R_10, eR_10, h⟩ := o_b1E h
  refine go_putR (pc' := 13) rfl rfl (fun _ => ⟨rfl, rfl⟩) (o_kdE g2) rfl ?_
  refine go_ndMR eR_10 ?_
  refine go_aload_n (pc' := 14) rfl rfl rfl ?_
  refine go_sipush (pc' := 17) (v := (nI 240)) rfl rfl rfl ?_
  obtain ⟨g3, h⟩ := o_gE h
  refine go_newB (pc' := 19) (N := 240) rfl (by decide) (by decide) (by decide) (by decide) (by decide) (o_lt9E g3) rfl ?_
  obtain ⟨I_17, eI_17, h⟩ := o_b1E h
  obtain ⟨G_17, eG_17, h⟩ := o_b1E h
  obtain ⟨n_17, en_17, h⟩ := o_b1E h
  refine go_ndMI eI_17 ?_
  refine go_ndMG eG_17 ?_
  refine go_ndR en_17 ?_
  refine go_ndB (B' := (16, 4232)) rfl ?_
  obtain ⟨g4, h⟩ := o_gE h
  obtain ⟨R_19, eR_19, h⟩ := o_b1E h
  refine go_putR (pc' := 22) rfl rfl (fun _ => ⟨rfl, rfl⟩) (o_kdE g4) rfl ?_
  refine go_ndMR eR_19 ?_
  refine go_aload_n (pc' := 23) rfl rfl rfl ?_
  refine go_bipush (pc' := 25) (v := (nI 16)) rfl rfl rfl ?_
  obtain ⟨g5, h⟩ := o_gE h
  refine go_newJ (pc' := 27) (N := 16) rfl (by decide) (by decide) (by decide) (by decide) (by decide) (o_lt9E g5) rfl ?_
  obtain ⟨J_25, eJ_25, h⟩ := o_b1E h
  obtain ⟨G_25, eG_25, h⟩ := o_b1E h
  obtain ⟨n_25, en_25, h⟩ := o_b1E h
  refine go_ndMJ eJ_25 ?_
  refine go_ndMG eG_25 ?_
  refine go_ndR en_25 ?_
  refine go_ndB (B' := (15, 4216)) rfl ?_
  obtain ⟨g6, h⟩ := o_gE h
  obtain ⟨R_27, eR_27, h⟩ := o_b1E h
  refine go_putR (pc' := 30) rfl rfl (fun _ => ⟨rfl, rfl⟩) (o_kdE g6) rfl ?_
  refine go_ndMR eR_27 ?_
  refine go_aload_n (pc' := 31) rfl rfl rfl ?_
  refine go_bipush (pc' := 33) (v := (nI 16)) rfl rfl rfl ?_
  obtain ⟨g7, h⟩ := o_gE h
  refine go_newI (pc' := 35) (N := 16) rfl (by decide) (by decide) (by decide) (by decide) (by decide) (o_lt9E g7) rfl ?_
  obtain ⟨I_33, eI_33, h⟩ := o_b1E h
  obtain ⟨G_33, eG_33, h⟩ := o_b1E h
  obtain ⟨n_33, en_33, h⟩ := o_b1E h
  refine go_ndMI eI_33 ?_
  refine go_ndMG eG_33 ?_
  refine go_ndR en_33 ?_
  refine go_ndB (B' := (14, 4200)) rfl ?_
  obtain ⟨g8, h⟩ := o_gE h
  obtain ⟨R_35, eR_35, h⟩ := o_b1E h
  refine go_putR (pc' := 38) rfl rfl (fun _ => ⟨rfl, rfl⟩) (o_kdE g8) rfl ?_
  refine go_ndMR eR_35 ?_
  refine go_aload_n (pc' := 39) rfl rfl rfl ?_
  refine go_bipush (pc' := 41) (v := (nI 120)) rfl rfl rfl ?_
  obtain ⟨g9, h⟩ := o_gE h
  refine go_newI (pc' := 43) (N := 120) rfl (by decide) (by decide) (by decide) (by decide) (by decide) (o_lt9E g9) rfl ?_
  obtain ⟨I_41, eI_41, h⟩ := o_b1E h
  obtain ⟨G_41, eG_41, h⟩ := o_b1E h
  obtain ⟨n_41, en_41, h⟩ := o_b1E h
  refine go_ndMI eI_41 ?_
  refine go_ndMG eG_41 ?_
  refine go_ndR en_41 ?_
  refine go_ndB (B' := (13, 4080)) rfl ?_
  obtain ⟨g10, h⟩ := o_gE h
  obtain ⟨R_43, eR_43, h⟩ := o_b1E h
  refine go_putR (pc' := 46) rfl rfl (fun _ => ⟨rfl, rfl⟩) (o_kdE g10) rfl ?_
  refine go_ndMR eR_43 ?_
  refine go_aload_n (pc' := 47) rfl rfl rfl ?_
  refine go_sipush (pc' := 50) (v := (nI 256)) rfl rfl rfl ?_
  obtain ⟨g11, h⟩ := o_gE h
  refine go_newI (pc' := 52) (N := 256) rfl (by decide) (by decide) (by decide) (by decide) (by decide) (o_lt9E g11) rfl ?_
  obtain ⟨I_50, eI_50, h⟩ := o_b1E h
  obtain ⟨G_50, eG_50, h⟩ := o_b1E h
  obtain ⟨n_50, en_50, h⟩ := o_b1E h
  refine go_ndMI eI_50 ?_
  refine go_ndMG eG_50 ?_
  refine go_ndR en_50 ?_
  refine go_ndB (B' := (12, 3824)) rfl ?_
  obtain ⟨g12, h⟩ := o_gE h
  obtain ⟨R_52, eR_52, h⟩ := o_b1E h
  refine go_putR (pc' := 55) rfl rfl (fun _ => ⟨rfl, rfl⟩) (o_kdE g12) rfl ?_
  refine go_ndMR eR_52 ?_
  refine go_aload_n (pc' := 56) rfl rfl rfl ?_
  refine go_sipush (pc' := 59) (v := (nI 256)) rfl rfl rfl ?_
  obtain ⟨g13, h⟩ := o_gE h
  refine go_newI (pc' := 61) (N := 256) rfl (by decide) (by decide) (by decide) (by decide) (by decide) (o_lt9E g13) rfl ?_
  obtain ⟨I_59, eI_59, h⟩ := o_b1E h
  obtain ⟨G_59, eG_59, h⟩ := o_b1E h
  obtain ⟨n_59, en_59, h⟩ := o_b1E h
  refine go_ndMI eI_59 ?_
  refine go_ndMG eG_59 ?_
  refine go_ndR en_59 ?_
  refine go_ndB (B' := (11, 3568)) rfl ?_
  obtain ⟨g14, h⟩ := o_gE h
  obtain ⟨R_61, eR_61, h⟩ := o_b1E h
  refine go_putR (pc' := 64) rfl rfl (fun _ => ⟨rfl, rfl⟩) (o_kdE g14) rfl ?_
  refine go_ndMR eR_61 ?_
  refine go_aload_n (pc' := 65) rfl rfl rfl ?_
  refine go_sipush (pc' := 68) (v := (nI 256)) rfl rfl rfl ?_
  obtain ⟨g15, h⟩ := o_gE h
  refine go_newI (pc' := 70) (N := 256) rfl (by decide) (by decide) (by decide) (by decide) (by decide) (o_lt9E g15) rfl ?_
  obtain ⟨I_68, eI_68, h⟩ := o_b1E h
  obtain ⟨G_68, eG_68, h⟩ := o_b1E h
  obtain ⟨n_68, en_68, h⟩ := o_b1E h
  refine go_ndMI eI_68 ?_
  refine go_ndMG eG_68 ?_
  refine go_ndR en_68 ?_
  refine go_ndB (B' := (10, 3312)) rfl ?_
  obtain ⟨g16, h⟩ := o_gE h
  obtain ⟨R_70, eR_70, h⟩ := o_b1E h
  refine go_putR (pc' := 73) rfl rfl (fun _ => ⟨rfl, rfl⟩) (o_kdE g16) rfl ?_
  refine go_ndMR eR_70 ?_
  refine go_aload_n (pc' := 74) rfl rfl rfl ?_
  refine go_bipush (pc' := 76) (v := (nI 8)) rfl rfl rfl ?_
  obtain ⟨g17, h⟩ := o_gE h
  refine go_newI (pc' := 78) (N := 8) rfl (by decide) (by decide) (by decide) (by decide) (by decide) (o_lt9E g17) rfl ?_
  obtain ⟨I_76, eI_76, h⟩ := o_b1E h
  obtain ⟨G_76, eG_76, h⟩ := o_b1E h
  obtain ⟨n_76, en_76, h⟩ := o_b1E h
  refine go_ndMI eI_76 ?_
  refine go_ndMG eG_76 ?_
  refine go_ndR en_76 ?_
  refine go_ndB (B' := (9, 3304)) rfl ?_
  obtain ⟨g18, h⟩ := o_gE h
  obtain ⟨R_78, eR_78, h⟩ := o_b1E h
  refine go_putR (pc' := 81) rfl rfl (fun _ => ⟨rfl, rfl⟩) (o_kdE g18) rfl ?_
  refine go_ndMR eR_78 ?_
  refine go_aload_n (pc' := 82) rfl rfl rfl ?_
  refine go_bipush (pc' := 84) (v := (nI 8)) rfl rfl rfl ?_
  obtain ⟨g19, h⟩ := o_gE h
  refine go_newI (pc' := 86) (N := 8) rfl (by decide) (by decide) (by decide) (by decide) (by decide) (o_lt9E g19) rfl ?_
  obtain ⟨I_84, eI_84, h⟩ := o_b1E h
  obtain ⟨G_84, eG_84, h⟩ := o_b1E h
  obtain ⟨n_84, en_84, h⟩ := o_b1E h
  refine go_ndMI eI_84 ?_
  refine go_ndMG eG_84 ?_
  refine go_ndR en_84 ?_
  refine go_ndB (B' := (8, 3296)) rfl ?_
  obtain ⟨g20, h⟩ := o_gE h
  obtain ⟨R_86, eR_86, h⟩ := o_b1E h
  refine go_putR (pc' := 89) rfl rfl (fun _ => ⟨rfl, rfl⟩) (o_kdE g20) rfl ?_
  refine go_ndMR eR_86 ?_
  refine go_aload_n (pc' := 90) rfl rfl rfl ?_
  refine go_sipush (pc' := 93) (v := (nI 256)) rfl rfl rfl ?_
  obtain ⟨g21, h⟩ := o_gE h
  refine go_newI (pc' := 95) (N := 256) rfl (by decide) (by decide) (by decide) (by decide) (by decide) (o_lt9E g21) rfl ?_
  obtain ⟨I_93, eI_93, h⟩ := o_b1E h
  obtain ⟨G_93, eG_93, h⟩ := o_b1E h
  obtain ⟨n_93, en_93, h⟩ := o_b1E h
  refine go_ndMI eI_93 ?_
  refine go_ndMG eG_93 ?_
  refine go_ndR en_93 ?_
  refine go_ndB (B' := (7, 3040)) rfl ?_
  obtain ⟨g22, h⟩ := o_gE h
  obtain ⟨R_95, eR_95, h⟩ := o_b1E h
  refine go_putR (pc' := 98) rfl rfl (fun _ => ⟨rfl, rfl⟩) (o_kdE g22) rfl ?_
  refine go_ndMR eR_95 ?_
  refine go_aload_n (pc' := 99) rfl rfl rfl ?_
  refine go_sipush (pc' := 102) (v := (nI 256)) rfl rfl rfl ?_
  obtain ⟨g23, h⟩ := o_gE h
  refine go_newI (pc' := 104) (N := 256) rfl (by decide) (by decide) (by decide) (by decide) (by decide) (o_lt9E g23) rfl ?_
  obtain ⟨I_102, eI_102, h⟩ := o_b1E h
  obtain ⟨G_102, eG_102, h⟩ := o_b1E h
  obtain ⟨n_102, en_102, h⟩ := o_b1E h
  refine go_ndMI eI_102 ?_
  refine go_ndMG eG_102 ?_
  refine go_ndR en_102 ?_
  refine go_ndB (B' := (6, 2784)) rfl ?_
  obtain ⟨g24, h⟩ := o_gE h
  obtain ⟨R_104, eR_104, h⟩ := o_b1E h
  refine go_putR (pc' := 107) rfl rfl (fun _ => ⟨rfl, rfl⟩) (o_kdE g24) rfl ?_
  refine go_ndMR eR_104 ?_
  refine go_aload_n (pc' := 108) rfl rfl rfl ?_
  refine go_sipush (pc' := 111) (v := (nI 256)) rfl rfl rfl ?_
  obtain ⟨g25, h⟩ := o_gE h
  refine go_newI (pc' := 113) (N := 256) rfl (by decide) (by decide) (by decide) (by decide) (by decide) (o_lt9E g25) rfl ?_
  obtain ⟨I_111, eI_111, h⟩ := o_b1E h
  obtain ⟨G_111, eG_111, h⟩ := o_b1E h
  obtain ⟨n_111, en_111, h⟩ := o_b1E h
  refine go_ndMI eI_111 ?_
  refine go_ndMG eG_111 ?_
  refine go_ndR en_111 ?_
  refine go_ndB (B' := (5, 2528)) rfl ?_
  obtain ⟨g26, h⟩ := o_gE h
  obtain ⟨R_113, eR_113, h⟩ := o_b1E h
  refine go_putR (pc' := 116) rfl rfl (fun _ => ⟨rfl, rfl⟩) (o_kdE g26) rfl ?_
  refine go_ndMR eR_113 ?_
  refine go_aload_n (pc' := 117) rfl rfl rfl ?_
  refine go_sipush (pc' := 120) (v := (nI 256)) rfl rfl rfl ?_
  obtain ⟨g27, h⟩ := o_gE h
  refine go_newI (pc' := 122) (N := 256) rfl (by decide) (by decide) (by decide) (by decide) (by decide) (o_lt9E g27) rfl ?_
  obtain ⟨I_120, eI_120, h⟩ := o_b1E h
  obtain ⟨G_120, eG_120, h⟩ := o_b1E h
  obtain ⟨n_120, en_120, h⟩ := o_b1E h
  refine go_ndMI eI_120 ?_
  refine go_ndMG eG_120 ?_
  refine go_ndR en_120 ?_
  refine go_ndB (B' := (4, 2272)) rfl ?_
  obtain ⟨g28, h⟩ := o_gE h
  obtain ⟨R_122, eR_122, h⟩ := o_b1E h
  refine go_putR (pc' := 125) rfl rfl (fun _ => ⟨rfl, rfl⟩) (o_kdE g28) rfl ?_
  refine go_ndMR eR_122 ?_
  refine go_aload_n (pc' := 126) rfl rfl rfl ?_
  refine go_sipush (pc' := 129) (v := (nI 2000)) rfl rfl rfl ?_
  obtain ⟨g29, h⟩ := o_gE h
  refine go_newB (pc' := 131) (N := 2000) rfl (by decide) (by decide) (by decide) (by decide) (by decide) (o_lt9E g29) rfl ?_
  obtain ⟨I_129, eI_129, h⟩ := o_b1E h
  obtain ⟨G_129, eG_129, h⟩ := o_b1E h
  obtain ⟨n_129, en_129, h⟩ := o_b1E h
  refine go_ndMI eI_129 ?_
  refine go_ndMG eG_129 ?_
  refine go_ndR en_129 ?_
  refine go_ndB (B' := (3, 272)) rfl ?_
  obtain ⟨g30, h⟩ := o_gE h
  obtain ⟨R_131, eR_131, h⟩ := o_b1E h
  refine go_putR (pc' := 134) rfl rfl (fun _ => ⟨rfl, rfl⟩) (o_kdE g30) rfl ?_
  refine go_ndMR eR_131 ?_
  refine go_aload_n (pc' := 135) rfl rfl rfl ?_
  refine go_bipush (pc' := 137) (v := (nI 8)) rfl rfl rfl ?_
  obtain ⟨g31, h⟩ := o_gE h
  refine go_newI (pc' := 139) (N := 8) rfl (by decide) (by decide) (by decide) (by decide) (by decide) (o_lt9E g31) rfl ?_
  obtain ⟨I_137, eI_137, h⟩ := o_b1E h
  obtain ⟨G_137, eG_137, h⟩ := o_b1E h
  obtain ⟨n_137, en_137, h⟩ := o_b1E h
  refine go_ndMI eI_137 ?_
  refine go_ndMG eG_137 ?_
  refine go_ndR en_137 ?_
  refine go_ndB (B' := (2, 264)) rfl ?_
  obtain ⟨g32, h⟩ := o_gE h
  obtain ⟨R_139, eR_139, h⟩ := o_b1E h
  refine go_putR (pc' := 142) rfl rfl (fun _ => ⟨rfl, rfl⟩) (o_kdE g32) rfl ?_
  refine go_ndMR eR_139 ?_
  refine go_aload_n (pc' := 143) rfl rfl rfl ?_
  refine go_bipush (pc' := 145) (v := (nI 8)) rfl rfl rfl ?_
  obtain ⟨g33, h⟩ := o_gE h
  refine go_newI (pc' := 147) (N := 8) rfl (by decide) (by decide) (by decide) (by decide) (by decide) (o_lt9E g33) rfl ?_
  obtain ⟨I_145, eI_145, h⟩ := o_b1E h
  obtain ⟨G_145, eG_145, h⟩ := o_b1E h
  obtain ⟨n_145, en_145, h⟩ := o_b1E h
  refine go_ndMI eI_145 ?_
  refine go_ndMG eG_145 ?_
  refine go_ndR en_145 ?_
  refine go_ndB (B' := (1, 256)) rfl ?_
  obtain ⟨g34, h⟩ := o_gE h
  obtain ⟨R_147, eR_147, h⟩ := o_b1E h
  refine go_putR (pc' := 150) rfl rfl (fun _ => ⟨rfl, rfl⟩) (o_kdE g34) rfl ?_
  refine go_ndMR eR_147 ?_
  refine go_aload_n (pc' := 151) rfl rfl rfl ?_
  refine go_sipush (pc' := 154) (v := (nI 256)) rfl rfl rfl ?_
  obtain ⟨g35, h⟩ := o_gE h
  refine go_newI (pc' := 156) (N := 256) rfl (by decide) (by decide) (by decide) (by decide) (by decide) (o_lt9E g35) rfl ?_
  obtain ⟨I_154, eI_154, h⟩ := o_b1E h
  obtain ⟨G_154, eG_154, h⟩ := o_b1E h
  obtain ⟨n_154, en_154, h⟩ := o_b1E h
  refine go_ndMI eI_154 ?_
  refine go_ndMG eG_154 ?_
  refine go_ndR en_154 ?_
  refine go_ndB (B' := (0, 0)) rfl ?_
  obtain ⟨g36, h⟩ := o_gE h
  obtain ⟨R_156, eR_156, h⟩ := o_b1E h
  refine go_putR (pc' := 159) rfl rfl (fun _ => ⟨rfl, rfl⟩) (o_kdE g36) rfl ?_
  refine go_ndMR eR_156 ?_
  refine go_iconst (pc' := 160) (v := (nI 0)) rfl rfl rfl ?_
  refine go_istore_n (pc' := 161) (lo' := [some (.inr (.inr th)), some (.inl (nI 0)), none]) rfl rfl rfl ?_
  obtain ⟨q161, hl161, hc161_241⟩ := o_s1E h
  have ex161_241 : ∀ (Ix_241 : ai_I) (z1_x241 : Option ai_V) (z2_x241 : Option ai_V), Ix_241 = q161 → ai_Go si_t (11, true, 9, cd_188) (ai_Cl si_t si_ms e) (sp_Q none I1 J1 R1 G1) 241 [some (.inr (.inr th)), z1_x241, z2_x241] [] (0, 0) Ix_241 J_25 R_156 G_154 := by
    intro Ix_241 z1_x241 z2_x241 hq
    have h : m_188_x161_241 th J_25 G_154 R_156 Ix_241 = some (I1, J1, R1, G1) := hc161_241 Ix_241 hq.symm
    unfold m_188_x161_241 at h
    refine go_aload_n (pc' := 242) rfl rfl rfl ?_
    refine go_getR (pc' := 245) rfl rfl (o_kdE g36) rfl ?_
    refine go_sipush (pc' := 248) (v := (nI 1040)) rfl rfl rfl ?_
    refine go_iconst (pc' := 249) (v := (nI 1)) rfl rfl rfl ?_
    obtain ⟨g37, h⟩ := o_gE h
    obtain ⟨I_249, eI_249, h⟩ := o_b1E h
    refine go_iastore (pc' := 250) rfl (o_inK g37) (o_inB g37) rfl ?_
    refine go_ndMI eI_249 ?_
    cases h
    exact go_vret rfl (rfl) ⟨rfl, rfl, rfl, rfl, rfl⟩
  have lo161 : ∀ n s, lp (fun s => m_188_b161 th G_154 R_156 s.1 s.2) n s = some q161 → (fun s => ∀ (z2_161 : Option ai_V), ai_Go si_t (11, true, 9, cd_188) (ai_Cl si_t si_ms e) (sp_Q none I1 J1 R1 G1) 161 [some (.inr (.inr th)), some (.inl s.1), z2_161] [] (0, 0) s.2 J_25 R_156 G_154) s := lp_go (fun s x161 hx hk161 => by
    obtain ⟨v1_161, I_161⟩ := s
    intro z2_161
    have h : m_188_b161 th G_154 R_156 v1_161 I_161 = some x161 := hx
    clear hx
    show ai_Go si_t (11, true, 9, cd_188) (ai_Cl si_t si_ms e) (sp_Q none I1 J1 R1 G1) 161 [some (.inr (.inr th)), some (.inl v1_161), z2_161] [] (0, 0) I_161 J_25 R_156 G_154
    unfold m_188_b161 at h
    refine go_iload_n (pc' := 162) rfl rfl rfl ?_
    refine go_iconst (pc' := 163) (v := (nI 4)) rfl rfl rfl ?_
    refine go_icmp_ge (pt := 241) (pc' := 166) rfl rfl rfl (fun h163 => ?_) (fun h163 => ?_)
    · replace h := o_t h163 h
      exact ex161_241 _ (some (.inl v1_161)) z2_161 (lp_exitE h hk161)
    · replace h := o_f h163 h
      refine go_iconst (pc' := 167) (v := (nI 0)) rfl rfl rfl ?_
      refine go_istore_n (pc' := 168) (lo' := [some (.inr (.inr th)), some (.inl v1_161), some (.inl (nI 0))]) rfl rfl rfl ?_
      obtain ⟨q168, hl168, hc168_211⟩ := o_s1E h
      have ex168_211 : ∀ (Ix_211 : ai_I) (z2_x211 : Option ai_V), Ix_211 = q168 → ai_Go si_t (11, true, 9, cd_188) (ai_Cl si_t si_ms e) (sp_Q none I1 J1 R1 G1) 211 [some (.inr (.inr th)), some (.inl v1_161), z2_x211] [] (0, 0) Ix_211 J_25 R_156 G_154 := by
        intro Ix_211 z2_x211 hq
        have h : m_188_x168_211 th G_154 R_156 v1_161 Ix_211 = some x161 := hc168_211 Ix_211 hq.symm
        unfold m_188_x168_211 at h
        refine go_aload_n (pc' := 212) rfl rfl rfl ?_
        refine go_getR (pc' := 215) rfl rfl (o_kdE g36) rfl ?_
        refine go_sipush (pc' := 218) (v := (nI 258)) rfl rfl rfl ?_
        refine go_iload_n (pc' := 219) rfl rfl rfl ?_
        refine go_imul (pc' := 220) rfl rfl ?_
        refine go_iconst (pc' := 221) (v := (nI 2)) rfl rfl rfl ?_
        obtain ⟨g38, h⟩ := o_gE h
        obtain ⟨I_221, eI_221, h⟩ := o_b1E h
        refine go_iastore (pc' := 222) rfl (o_inK g38) (o_inB g38) rfl ?_
        refine go_ndMI eI_221 ?_
        refine go_aload_n (pc' := 223) rfl rfl rfl ?_
        refine go_getR (pc' := 226) rfl rfl (o_kdE g36) rfl ?_
        refine go_sipush (pc' := 229) (v := (nI 258)) rfl rfl rfl ?_
        refine go_iload_n (pc' := 230) rfl rfl rfl ?_
        refine go_imul (pc' := 231) rfl rfl ?_
        refine go_iconst (pc' := 232) (v := (nI 1)) rfl rfl rfl ?_
        refine go_iadd (pc' := 233) rfl rfl ?_
        refine go_iconst (pc' := 234) (v := (nI 1)) rfl rfl rfl ?_
        obtain ⟨g39, h⟩ := o_gE h
        obtain ⟨I_234, eI_234, h⟩ := o_b1E h
        refine go_iastore (pc' := 235) rfl (o_inK g39) (o_inB g39) rfl ?_
        refine go_ndMI eI_234 ?_
        obtain ⟨x1_235, ex1_235, h⟩ := o_b1E h
        refine go_iincE (pc' := 238) rfl rfl (y := (nI 1)) rfl ex1_235 (lo' := [some (.inr (.inr th)), some (.inl x1_235), z2_x211]) rfl rfl ?_
        refine go_goto (pc' := 161) rfl rfl ?_
        exact (lp_backE h hk161 z2_x211 :)
      have lo168 : ∀ n s, lp (fun s => m_188_b168 th G_154 R_156 v1_161 s.1 s.2) n s = some q168 → (fun s => ai_Go si_t (11, true, 9, cd_188) (ai_Cl si_t si_ms e) (sp_Q none I1 J1 R1 G1) 168 [some (.inr (.inr th)), some (.inl v1_161), some (.inl s.1)] [] (0, 0) s.2 J_25 R_156 G_154) s := lp_go (fun s x168 hx hk168 => by
        obtain ⟨v2_168, I_168⟩ := s
        have h : m_188_b168 th G_154 R_156 v1_161 v2_168 I_168 = some x168 := hx
        clear hx
        show ai_Go si_t (11, true, 9, cd_188) (ai_Cl si_t si_ms e) (sp_Q none I1 J1 R1 G1) 168 [some (.inr (.inr th)), some (.inl v1_161), some (.inl v2_168)] [] (0, 0) I_168 J_25 R_156 G_154
        unfold m_188_b168 at h
        refine go_iload_n (pc' := 169) rfl rfl rfl ?_
        refine go_sipush (pc' := 172) (v := (nI 256)) rfl rfl rfl ?_
        refine go_icmp_ge (pt := 211) (pc' := 175) rfl rfl rfl (fun h172 => ?_) (fun h172 => ?_)
        · replace h := o_t h172 h
          exact ex168_211 _ (some (.inl v2_168)) (lp_exitE h hk168)
        · replace h := o_f h172 h
          refine go_aload_n (pc' := 176) rfl rfl rfl ?_
          refine go_getR (pc' := 179) rfl rfl (o_kdE g36) rfl ?_
          refine go_sipush (pc' := 182) (v := (nI 258)) rfl rfl rfl ?_
          refine go_iload_n (pc' := 183) rfl rfl rfl ?_
          refine go_imul (pc' := 184) rfl rfl ?_
          refine go_iconst (pc' := 185) (v := (nI 2)) rfl rfl rfl ?_
          refine go_iadd (pc' := 186) rfl rfl ?_
          refine go_iload_n (pc' := 187) rfl rfl rfl ?_
          refine go_iadd (pc' := 188) rfl rfl ?_
          refine go_iload_n (pc' := 189) rfl rfl rfl ?_
          refine go_iconst (pc' := 190) (v := (nI 1)) rfl rfl rfl ?_
          have jn204 : ∀ (t2_204 : Int32), m_188_j204 th G_154 R_156 v1_161 v2_168 I_168 t2_204 = some x168 → ai_Go si_t (11, true, 9, cd_188) (ai_Cl si_t si_ms e) (sp_Q none I1 J1 R1 G1) 204 [some (.inr (.inr th)), some (.inl v1_161), some (.inl v2_168)] [.inl t2_204, .inl ((((nI 258) * v1_161) + (nI 2)) + v2_168), .inr (.inr (R_156 th 0))] (0, 0) I_168 J_25 R_156 G_154 := by
            intro t2_204 h
            unfold m_188_j204 at h
            obtain ⟨g40, h⟩ := o_gE h
            obtain ⟨I_204, eI_204, h⟩ := o_b1E h
            refine go_iastore (pc' := 205) rfl (o_inK g40) (o_inB g40) rfl ?_
            refine go_ndMI eI_204 ?_
            obtain ⟨x2_205, ex2_205, h⟩ := o_b1E h
            refine go_iincE (pc' := 208) rfl rfl (y := (nI 1)) rfl ex2_205 (lo' := [some (.inr (.inr th)), some (.inl v1_161), some (.inl x2_205)]) rfl rfl ?_
            refine go_goto (pc' := 168) rfl rfl ?_
            exact (lp_backE h hk168 :)
          have jn198 : m_188_j198 th G_154 R_156 v1_161 v2_168 I_168 = some x168 → ai_Go si_t (11, true, 9, cd_188) (ai_Cl si_t si_ms e) (sp_Q none I1 J1 R1 G1) 198 [some (.inr (.inr th)), some (.inl v1_161), some (.inl v2_168)] [.inl ((((nI 258) * v1_161) + (nI 2)) + v2_168), .inr (.inr (R_156 th 0))] (0, 0) I_168 J_25 R_156 G_154 := by
            intro h
            unfold m_188_j198 at h
            refine go_iconst (pc' := 199) (v := (nI 0)) rfl rfl rfl ?_
            refine go_goto (pc' := 204) rfl rfl ?_
            exact jn204 (nI 0) h
          refine go_icmp_eq (pt := 198) (pc' := 193) rfl rfl rfl (fun h190 => ?_) (fun h190 => ?_)
          · replace h := o_t h190 h
            exact jn198  h
          · replace h := o_f h190 h
            refine go_iload_n (pc' := 194) rfl rfl rfl ?_
            refine go_iconst (pc' := 195) (v := (nI 2)) rfl rfl rfl ?_
            refine go_icmp_ne (pt := 202) (pc' := 198) rfl rfl rfl (fun h195 => ?_) (fun h195 => ?_)
            · replace h := o_f h195 h
              refine go_ldc (pc' := 204) (v := .inl (-2147483648 : Int32)) rfl rfl rfl ?_
              exact jn204 (-2147483648 : Int32) h
            · replace h := o_t (Decidable.of_not_not h195) h
              exact jn198  h)
      exact lo168 _ ((nI 0), I_161) hl168 )
  exact lo161 _ ((nI 0), I_154) hl161 none
/-- PricedBasesModel.in(JJJ)Z -/
def m_189 (a0 : Int64) (a1 : Int64) (a2 : Int64) : Option (Int32) :=
  if (ai_cmp a0 a1) < 0 then (some (nI 0)) else (if 0 < (ai_cmp a0 a2) then (some (nI 0)) else (some (nI 1)))
theorem md_189 {d : Nat} {I : ai_I} {J : ai_J} {Rf : ai_R} {G : ai_G} {a0 : Int64} {a1 : Int64} {a2 : Int64} {r : Int32} (hd : 1 ≤ d) (h : m_189 a0 a1 a2 = some r) : ai_Cl si_t si_ms d 189 [.inr (.inl a0), .inr (.inl a1), .inr (.inl a2)] I J Rf G (some (.inl r)) I J Rf G := by
  obtain ⟨e, rfl⟩ : ∃ e, d = e + 1 := ⟨d - 1, by omega⟩
  unfold m_189 at h
  refine sp_in (lo := [some (.inr (.inl a0)), none, some (.inr (.inl a1)), none, some (.inr (.inl a2)), none]) (B := (0, 0)) rfl (Nat.le_of_ble_eq_true rfl) rfl rfl ?_
  refine go_lload_n (pc' := 1) rfl rfl rfl ?_
  refine go_lload_n (pc' := 2) rfl rfl rfl ?_
  refine go_lcmp (pc' := 3) rfl rfl ?_
  refine go_if_lt (pt := 17) (pc' := 6) rfl rfl rfl (fun h3 => ?_) (fun h3 => ?_)
  · replace h := o_t h3 h
    refine go_iconst (pc' := 18) (v := (nI 0)) rfl rfl rfl ?_
    cases h
    exact go_iret rfl (rfl) ⟨rfl, rfl, rfl, rfl, rfl⟩
  · replace h := o_f h3 h
    refine go_lload_n (pc' := 7) rfl rfl rfl ?_
    refine go_lload (pc' := 9) rfl rfl rfl ?_
    refine go_lcmp (pc' := 10) rfl rfl ?_
    refine go_if_gt (pt := 17) (pc' := 13) rfl rfl rfl (fun h10 => ?_) (fun h10 => ?_)
    · replace h := o_t h10 h
      refine go_iconst (pc' := 18) (v := (nI 0)) rfl rfl rfl ?_
      cases h
      exact go_iret rfl (rfl) ⟨rfl, rfl, rfl, rfl, rfl⟩
    · replace h := o_f h10 h
      refine go_iconst (pc' := 14) (v := (nI 1)) rfl rfl rfl ?_
      refine go_goto (pc' := 18) rfl rfl ?_
      cases h
      exact go_iret rfl (rfl) ⟨rfl, rfl, rfl, rfl, rfl⟩
/-- PricedBasesModel.min(II)I -/
def m_190 (a0 : Int32) (a1 : Int32) : Option (Int32) :=
  if a1 ≤ a0 then (some a1) else (some a0)
theorem md_190 {d : Nat} {I : ai_I} {J : ai_J} {Rf : ai_R} {G : ai_G} {a0 : Int32} {a1 : Int32} {r : Int32} (hd : 1 ≤ d) (h : m_190 a0 a1 = some r) : ai_Cl si_t si_ms d 190 [.inl a0, .inl a1] I J Rf G (some (.inl r)) I J Rf G := by
  obtain ⟨e, rfl⟩ : ∃ e, d = e + 1 := ⟨d - 1, by omega⟩
  unfold m_190 at h
  refine sp_in (lo := [some (.inl a0), some (.inl a1)]) (B := (0, 0)) rfl (Nat.le_of_ble_eq_true rfl) rfl rfl ?_
  refine go_iload_n (pc' := 1) rfl rfl rfl ?_
  refine go_iload_n (pc' := 2) rfl rfl rfl ?_
  refine go_icmp_ge (pt := 9) (pc' := 5) rfl rfl rfl (fun h2 => ?_) (fun h2 => ?_)
  · replace h := o_t h2 h
    refine go_iload_n (pc' := 10) rfl rfl rfl ?_
    cases h
    exact go_iret rfl (trivial) ⟨rfl, rfl, rfl, rfl, rfl⟩
  · replace h := o_f h2 h
    refine go_iload_n (pc' := 6) rfl rfl rfl ?_
    refine go_goto (pc' := 10) rfl rfl ?_
    cases h
    exact go_iret rfl (trivial) ⟨rfl, rfl, rfl, rfl, rfl⟩
/-- PricedBasesModel.max(II)I -/
def m_191 (a0 : Int32) (a1 : Int32) : Option (Int32) :=
  if a0 ≤ a1 then (some a1) else (some a0)
theorem md_191 {d : Nat} {I : ai_I} {J : ai_J} {Rf : ai_R} {G : ai_G} {a0 : Int32} {a1 : Int32} {r : Int32} (hd : 1 ≤ d) (h : m_191 a0 a1 = some r) : ai_Cl si_t si_ms d 191 [.inl a0, .inl a1] I J Rf G (some (.inl r)) I J Rf G := by
  obtain ⟨e, rfl⟩ : ∃ e, d = e + 1 := ⟨d - 1, by omega⟩
  unfold m_191 at h
  refine sp_in (lo := [some (.inl a0), some (.inl a1)]) (B := (0, 0)) rfl (Nat.le_of_ble_eq_true rfl) rfl rfl ?_
  refine go_iload_n (pc' := 1) rfl rfl rfl ?_
  refine go_iload_n (pc' := 2) rfl rfl rfl ?_
  refine go_icmp_le (pt := 9) (pc' := 5) rfl rfl rfl (fun h2 => ?_) (fun h2 => ?_)
  · replace h := o_t h2 h
    refine go_iload_n (pc' := 10) rfl rfl rfl ?_
    cases h
    exact go_iret rfl (trivial) ⟨rfl, rfl, rfl, rfl, rfl⟩
  · replace h := o_f h2 h
    refine go_iload_n (pc' := 6) rfl rfl rfl ?_
    refine go_goto (pc' := 10) rfl rfl ?_
    cases h
    exact go_iret rfl (trivial) ⟨rfl, rfl, rfl, rfl, rfl⟩
/-- PricedBasesModel.has(II)Z -/
def m_192 (a0 : Int32) (a1 : Int32) : Option (Int32) :=
  if ((a0 >>> (a1 &&& 31)) &&& (nI 1)) = (nI 1) then (some (nI 1)) else (some (nI 0))
theorem md_192 {d : Nat} {I : ai_I} {J : ai_J} {Rf : ai_R} {G : ai_G} {a0 : Int32} {a1 : Int32} {r : Int32} (hd : 1 ≤ d) (h : m_192 a0 a1 = some r) : ai_Cl si_t si_ms d 192 [.inl a0, .inl a1] I J Rf G (some (.inl r)) I J Rf G := by
  obtain ⟨e, rfl⟩ : ∃ e, d = e + 1 := ⟨d - 1, by omega⟩
  unfold m_192 at h
  refine sp_in (lo := [some (.inl a0), some (.inl a1)]) (B := (0, 0)) rfl (Nat.le_of_ble_eq_true rfl) rfl rfl ?_
  refine go_iload_n (pc' := 1) rfl rfl rfl ?_
  refine go_iload_n (pc' := 2) rfl rfl rfl ?_
  refine go_ishr (pc' := 3) rfl rfl ?_
  refine go_iconst (pc' := 4) (v := (nI 1)) rfl rfl rfl ?_
  refine go_iand (pc' := 5) rfl rfl ?_
  refine go_iconst (pc' := 6) (v := (nI 1)) rfl rfl rfl ?_
  refine go_icmp_ne (pt := 13) (pc' := 9) rfl rfl rfl (fun h6 => ?_) (fun h6 => ?_)
  · replace h := o_f h6 h
    refine go_iconst (pc' := 14) (v := (nI 0)) rfl rfl rfl ?_
    cases h
    exact go_iret rfl (rfl) ⟨rfl, rfl, rfl, rfl, rfl⟩
  · replace h := o_t (Decidable.of_not_not h6) h
    refine go_iconst (pc' := 10) (v := (nI 1)) rfl rfl rfl ?_
    refine go_goto (pc' := 14) rfl rfl ?_
    cases h
    exact go_iret rfl (rfl) ⟨rfl, rfl, rfl, rfl, rfl⟩
def m_193_x4_21 (w1_21 : Int32) : Option (Int32) :=
  some w1_21
def m_193_b4 (v1_4 : Int32) (v2_4 : Int32) : Option ((Int32 × Int32) ⊕ Int32) :=
  if v2_4 = 0 then (some (Sum.inr v1_4)) else (o_b1 (some (v1_4 + (nI 1))) (fun x1_11 => o_b1 (some (v2_4 &&& (v2_4 - (nI 1)))) (fun x2_17 => some (Sum.inl (x1_11, x2_17)))))
/-- PricedBasesModel.sizeOf(I)I -/
def m_193 (a0 : Int32) : Option (Int32) :=
  o_s1 (lp (fun s => m_193_b4 s.1 s.2) o_N ((nI 0), a0)) (fun t => m_193_x4_21 t)
theorem md_193 {d : Nat} {I : ai_I} {J : ai_J} {Rf : ai_R} {G : ai_G} {a0 : Int32} {r : Int32} (hd : 1 ≤ d) (h : m_193 a0 = some r) : ai_Cl si_t si_ms d 193 [.inl a0] I J Rf G (some (.inl r)) I J Rf G := by
  obtain ⟨e, rfl⟩ : ∃ e, d = e + 1 := ⟨d - 1, by omega⟩
  unfold m_193 at h
  refine sp_in (lo := [some (.inl a0), none, none]) (B := (0, 0)) rfl (Nat.le_of_ble_eq_true rfl) rfl rfl ?_
  refine go_iconst (pc' := 1) (v := (nI 0)) rfl rfl rfl ?_
  refine go_istore_n (pc' := 2) (lo' := [some (.inl a0), some (.inl (nI 0)), none]) rfl rfl rfl ?_
  refine go_iload_n (pc' := 3) rfl rfl rfl ?_
  refine go_istore_n (pc' := 4) (lo' := [some (.inl a0), some (.inl (nI 0)), some (.inl a0)]) rfl rfl rfl ?_
  obtain ⟨q4, hl4, hc4_21⟩ := o_s1E h
  have ex4_21 : ∀ (w1_21 : Int32) (z2_x21 : Option ai_V), w1_21 = q4 → ai_Go si_t (11, false, 0, cd_193) (ai_Cl si_t si_ms e) (sp_Q (some (.inl r)) I J Rf G) 21 [some (.inl a0), some (.inl w1_21), z2_x21] [] (0, 0) I J Rf G := by
    intro w1_21 z2_x21 hq
    have h : m_193_x4_21 w1_21 = some r := hc4_21 w1_21 hq.symm
    unfold m_193_x4_21 at h
    refine go_iload_n (pc' := 22) rfl rfl rfl ?_
    cases h
    exact go_iret rfl (trivial) ⟨rfl, rfl, rfl, rfl, rfl⟩
  have lo4 : ∀ n s, lp (fun s => m_193_b4 s.1 s.2) n s = some q4 → (fun s => ai_Go si_t (11, false, 0, cd_193) (ai_Cl si_t si_ms e) (sp_Q (some (.inl r)) I J Rf G) 4 [some (.inl a0), some (.inl s.1), some (.inl s.2)] [] (0, 0) I J Rf G) s := lp_go (fun s x4 hx hk4 => by
    obtain ⟨v1_4, v2_4⟩ := s
    have h : m_193_b4 v1_4 v2_4 = some x4 := hx
    clear hx
    show ai_Go si_t (11, false, 0, cd_193) (ai_Cl si_t si_ms e) (sp_Q (some (.inl r)) I J Rf G) 4 [some (.inl a0), some (.inl v1_4), some (.inl v2_4)] [] (0, 0) I J Rf G
    unfold m_193_b4 at h
    refine go_iload_n (pc' := 5) rfl rfl rfl ?_
    refine go_if_eq (pt := 21) (pc' := 8) rfl rfl rfl (fun h5 => ?_) (fun h5 => ?_)
    · replace h := o_t h5 h
      exact ex4_21 _ (some (.inl v2_4)) (lp_exitE h hk4)
    · replace h := o_f h5 h
      refine go_iload_n (pc' := 9) rfl rfl rfl ?_
      refine go_iconst (pc' := 10) (v := (nI 1)) rfl rfl rfl ?_
      refine go_iadd (pc' := 11) rfl rfl ?_
      obtain ⟨x1_11, ex1_11, h⟩ := o_b1E h
      refine go_ndI ex1_11 ?_
      refine go_istore_n (pc' := 12) (lo' := [some (.inl a0), some (.inl x1_11), some (.inl v2_4)]) rfl rfl rfl ?_
      refine go_iload_n (pc' := 13) rfl rfl rfl ?_
      refine go_iload_n (pc' := 14) rfl rfl rfl ?_
      refine go_iconst (pc' := 15) (v := (nI 1)) rfl rfl rfl ?_
      refine go_isub (pc' := 16) rfl rfl ?_
      refine go_iand (pc' := 17) rfl rfl ?_
      obtain ⟨x2_17, ex2_17, h⟩ := o_b1E h
      refine go_ndI ex2_17 ?_
      refine go_istore_n (pc' := 18) (lo' := [some (.inl a0), some (.inl x1_11), some (.inl x2_17)]) rfl rfl rfl ?_
      refine go_goto (pc' := 4) rfl rfl ?_
      exact (lp_backE h hk4 :))
  exact lo4 _ ((nI 0), a0) hl4 
def m_194_x2_39 (Ix_39 : ai_I) : Option (ai_I) :=
  some Ix_39
def m_194_b2 (th : Nat) (a0 : Int32) (a1 : Int32) (Rf : ai_R) (G : ai_G) (v3_2 : Int32) (I_2 : ai_I) : Option ((Int32 × ai_I) ⊕ ai_I) :=
  if (nI 1122) ≤ v3_2 then (some (Sum.inr I_2)) else (o_g (o_in G 13 (Rf th 0) (((nI 1122) * a0) + v3_2)) (o_g (o_in G 13 (Rf th 0) (((nI 1122) * a1) + v3_2)) (o_b1 (some (va_up I_2 (Rf th 0) (va_up (I_2 (Rf th 0)) (((nI 1122) * a1) + v3_2).toNatClampNeg (I_2 (Rf th 0) (((nI 1122) * a0) + v3_2).toNatClampNeg)))) (fun I_32 => o_b1 (some (v3_2 + (nI 1))) (fun x3_33 => some (Sum.inl (x3_33, I_32)))))))
/-- PricedBasesModel.copies(II)V -/
def m_194 (th : Nat) (a0 : Int32) (a1 : Int32) (I : ai_I) (Rf : ai_R) (G : ai_G) : Option (ai_I) :=
  o_s1 (lp (fun s => m_194_b2 th a0 a1 Rf G s.1 s.2) o_N ((nI 0), I)) (fun t => m_194_x2_39 t)
theorem md_194 {d : Nat} {I : ai_I} {J : ai_J} {Rf : ai_R} {G : ai_G} {th : Nat} {a0 : Int32} {a1 : Int32} {I1 : ai_I} (hd : 1 ≤ d) (hth : G.1 th = 11) (h : m_194 th a0 a1 I Rf G = some I1) : ai_Cl si_t si_ms d 194 [.inr (.inr th), .inl a0, .inl a1] I J Rf G none I1 J Rf G := by
  obtain ⟨e, rfl⟩ : ∃ e, d = e + 1 := ⟨d - 1, by omega⟩
  unfold m_194 at h
  refine sp_in (lo := [some (.inr (.inr th)), some (.inl a0), some (.inl a1), none]) (B := (0, 0)) rfl (Nat.le_of_ble_eq_true rfl) rfl rfl ?_
  refine go_iconst (pc' := 1) (v := (nI 0)) rfl rfl rfl ?_
  refine go_istore_n (pc' := 2) (lo' := [some (.inr (.inr th)), some (.inl a0), some (.inl a1), some (.inl (nI 0))]) rfl rfl rfl ?_
  obtain ⟨q2, hl2, hc2_39⟩ := o_s1E h
  have ex2_39 : ∀ (Ix_39 : ai_I) (z3_x39 : Option ai_V), Ix_39 = q2 → ai_Go si_t (11, false, 9, cd_194) (ai_Cl si_t si_ms e) (sp_Q none I1 J Rf G) 39 [some (.inr (.inr th)), some (.inl a0), some (.inl a1), z3_x39] [] (0, 0) Ix_39 J Rf G := by
    intro Ix_39 z3_x39 hq
    have h : m_194_x2_39 Ix_39 = some I1 := hc2_39 Ix_39 hq.symm
    unfold m_194_x2_39 at h
    cases h
    exact go_vret rfl (rfl) ⟨rfl, rfl, rfl, rfl, rfl⟩
  have lo2 : ∀ n s, lp (fun s => m_194_b2 th a0 a1 Rf G s.1 s.2) n s = some q2 → (fun s => ai_Go si_t (11, false, 9, cd_194) (ai_Cl si_t si_ms e) (sp_Q none I1 J Rf G) 2 [some (.inr (.inr th)), some (.inl a0), some (.inl a1), some (.inl s.1)] [] (0, 0) s.2 J Rf G) s := lp_go (fun s x2 hx hk2 => by
    obtain ⟨v3_2, I_2⟩ := s
    have h : m_194_b2 th a0 a1 Rf G v3_2 I_2 = some x2 := hx
    clear hx
    show ai_Go si_t (11, false, 9, cd_194) (ai_Cl si_t si_ms e) (sp_Q none I1 J Rf G) 2 [some (.inr (.inr th)), some (.inl a0), some (.inl a1), some (.inl v3_2)] [] (0, 0) I_2 J Rf G
    unfold m_194_b2 at h
    refine go_iload_n (pc' := 3) rfl rfl rfl ?_
    refine go_sipush (pc' := 6) (v := (nI 1122)) rfl rfl rfl ?_
    refine go_icmp_ge (pt := 39) (pc' := 9) rfl rfl rfl (fun h6 => ?_) (fun h6 => ?_)
    · replace h := o_t h6 h
      exact ex2_39 _ (some (.inl v3_2)) (lp_exitE h hk2)
    · replace h := o_f h6 h
      refine go_aload_n (pc' := 10) rfl rfl rfl ?_
      refine go_getR (pc' := 13) rfl rfl hth rfl ?_
      refine go_sipush (pc' := 16) (v := (nI 1122)) rfl rfl rfl ?_
      refine go_iload_n (pc' := 17) rfl rfl rfl ?_
      refine go_imul (pc' := 18) rfl rfl ?_
      refine go_iload_n (pc' := 19) rfl rfl rfl ?_
      refine go_iadd (pc' := 20) rfl rfl ?_
      refine go_aload_n (pc' := 21) rfl rfl rfl ?_
      refine go_getR (pc' := 24) rfl rfl hth rfl ?_
      refine go_sipush (pc' := 27) (v := (nI 1122)) rfl rfl rfl ?_
      refine go_iload_n (pc' := 28) rfl rfl rfl ?_
      refine go_imul (pc' := 29) rfl rfl ?_
      refine go_iload_n (pc' := 30) rfl rfl rfl ?_
      refine go_iadd (pc' := 31) rfl rfl ?_
      obtain ⟨g0, h⟩ := o_gE h
      refine go_iaload (pc' := 32) rfl (o_inK g0) (o_inB g0) rfl ?_
      obtain ⟨g1, h⟩ := o_gE h
      obtain ⟨I_32, eI_32, h⟩ := o_b1E h
      refine go_iastore (pc' := 33) rfl (o_inK g1) (o_inB g1) rfl ?_
      refine go_ndMI eI_32 ?_
      obtain ⟨x3_33, ex3_33, h⟩ := o_b1E h
      refine go_iincE (pc' := 36) rfl rfl (y := (nI 1)) rfl ex3_33 (lo' := [some (.inr (.inr th)), some (.inl a0), some (.inl a1), some (.inl x3_33)]) rfl rfl ?_
      refine go_goto (pc' := 2) rfl rfl ?_
      exact (lp_backE h hk2 :))
  exact lo2 _ ((nI 0), I) hl2 
/-- PricedBasesModel.many(I)I -/
def m_195 (th : Nat) (a0 : Int32) (I : ai_I) (Rf : ai_R) (G : ai_G) : Option (Int32) :=
  o_g (o_in G 13 (Rf th 0) ((nI 258) * a0)) (some (I (Rf th 0) ((nI 258) * a0).toNatClampNeg))
theorem md_195 {d : Nat} {I : ai_I} {J : ai_J} {Rf : ai_R} {G : ai_G} {th : Nat} {a0 : Int32} {r : Int32} (hd : 1 ≤ d) (hth : G.1 th = 11) (h : m_195 th a0 I Rf G = some r) : ai_Cl si_t si_ms d 195 [.inr (.inr th), .inl a0] I J Rf G (some (.inl r)) I J Rf G := by
  obtain ⟨e, rfl⟩ : ∃ e, d = e + 1 := ⟨d - 1, by omega⟩
  unfold m_195 at h
  refine sp_in (lo := [some (.inr (.inr th)), some (.inl a0)]) (B := (0, 0)) rfl (Nat.le_of_ble_eq_true rfl) rfl rfl ?_
  refine go_aload_n (pc' := 1) rfl rfl rfl ?_
  refine go_getR (pc' := 4) rfl rfl hth rfl ?_
  refine go_sipush (pc' := 7) (v := (nI 258)) rfl rfl rfl ?_
  refine go_iload_n (pc' := 8) rfl rfl rfl ?_
  refine go_imul (pc' := 9) rfl rfl ?_
  obtain ⟨g0, h⟩ := o_gE h
  refine go_iaload (pc' := 10) rfl (o_inK g0) (o_inB g0) rfl ?_
  cases h
  exact go_iret rfl (trivial) ⟨rfl, rfl, rfl, rfl, rfl⟩
/-- PricedBasesModel.high(I)I -/
def m_196 (th : Nat) (a0 : Int32) (I : ai_I) (Rf : ai_R) (G : ai_G) : Option (Int32) :=
  o_g (o_in G 13 (Rf th 0) (((nI 258) * a0) + (nI 1))) (some (I (Rf th 0) (((nI 258) * a0) + (nI 1)).toNatClampNeg))
theorem md_196 {d : Nat} {I : ai_I} {J : ai_J} {Rf : ai_R} {G : ai_G} {th : Nat} {a0 : Int32} {r : Int32} (hd : 1 ≤ d) (hth : G.1 th = 11) (h : m_196 th a0 I Rf G = some r) : ai_Cl si_t si_ms d 196 [.inr (.inr th), .inl a0] I J Rf G (some (.inl r)) I J Rf G := by
  obtain ⟨e, rfl⟩ : ∃ e, d = e + 1 := ⟨d - 1, by omega⟩
  unfold m_196 at h
  refine sp_in (lo := [some (.inr (.inr th)), some (.inl a0)]) (B := (0, 0)) rfl (Nat.le_of_ble_eq_true rfl) rfl rfl ?_
  refine go_aload_n (pc' := 1) rfl rfl rfl ?_
  refine go_getR (pc' := 4) rfl rfl hth rfl ?_
  refine go_sipush (pc' := 7) (v := (nI 258)) rfl rfl rfl ?_
  refine go_iload_n (pc' := 8) rfl rfl rfl ?_
  refine go_imul (pc' := 9) rfl rfl ?_
  refine go_iconst (pc' := 10) (v := (nI 1)) rfl rfl rfl ?_
  refine go_iadd (pc' := 11) rfl rfl ?_
  obtain ⟨g0, h⟩ := o_gE h
  refine go_iaload (pc' := 12) rfl (o_inK g0) (o_inB g0) rfl ?_
  cases h
  exact go_iret rfl (trivial) ⟨rfl, rfl, rfl, rfl, rfl⟩
/-- PricedBasesModel.all(I)I -/
def m_197 (th : Nat) (a0 : Int32) (I : ai_I) (Rf : ai_R) (G : ai_G) : Option (Int32) :=
  o_b1 (m_195 th a0 I Rf G) (fun r_3 => some (((nI 1) <<< (r_3 &&& 31)) - (nI 1)))
theorem md_197 {d : Nat} {I : ai_I} {J : ai_J} {Rf : ai_R} {G : ai_G} {th : Nat} {a0 : Int32} {r : Int32} (hd : 2 ≤ d) (hth : G.1 th = 11) (h : m_197 th a0 I Rf G = some r) : ai_Cl si_t si_ms d 197 [.inr (.inr th), .inl a0] I J Rf G (some (.inl r)) I J Rf G := by
  obtain ⟨e, rfl⟩ : ∃ e, d = e + 1 := ⟨d - 1, by omega⟩
  unfold m_197 at h
  refine sp_in (lo := [some (.inr (.inr th)), some (.inl a0)]) (B := (0, 0)) rfl (Nat.le_of_ble_eq_true rfl) rfl rfl ?_
  refine go_iconst (pc' := 1) (v := (nI 1)) rfl rfl rfl ?_
  refine go_aload_n (pc' := 2) rfl rfl rfl ?_
  refine go_iload_n (pc' := 3) rfl rfl rfl ?_
  obtain ⟨r_3, q_3, h⟩ := o_b1E h
  refine go_callV (pc' := 6) (B' := (0, 0)) (st' := [.inl r_3, .inl (nI 1)]) rfl rfl (Or.inl (by decide)) rfl rfl hth (md_195 (by omega) hth q_3) rfl rfl rfl ?_
  refine go_ishl (pc' := 7) rfl rfl ?_
  refine go_iconst (pc' := 8) (v := (nI 1)) rfl rfl rfl ?_
  refine go_isub (pc' := 9) rfl rfl ?_
  cases h
  exact go_iret rfl (trivial) ⟨rfl, rfl, rfl, rfl, rfl⟩
/-- PricedBasesModel.of(II)I -/
def m_198 (th : Nat) (a0 : Int32) (a1 : Int32) (I : ai_I) (Rf : ai_R) (G : ai_G) : Option (Int32) :=
  o_g (o_in G 13 (Rf th 0) ((((nI 258) * a0) + (nI 2)) + a1)) (some (I (Rf th 0) ((((nI 258) * a0) + (nI 2)) + a1).toNatClampNeg))
theorem md_198 {d : Nat} {I : ai_I} {J : ai_J} {Rf : ai_R} {G : ai_G} {th : Nat} {a0 : Int32} {a1 : Int32} {r : Int32} (hd : 1 ≤ d) (hth : G.1 th = 11) (h : m_198 th a0 a1 I Rf G = some r) : ai_Cl si_t si_ms d 198 [.inr (.inr th), .inl a0, .inl a1] I J Rf G (some (.inl r)) I J Rf G := by
  obtain ⟨e, rfl⟩ : ∃ e, d = e + 1 := ⟨d - 1, by omega⟩
  unfold m_198 at h
  refine sp_in (lo := [some (.inr (.inr th)), some (.inl a0), some (.inl a1)]) (B := (0, 0)) rfl (Nat.le_of_ble_eq_true rfl) rfl rfl ?_
  refine go_aload_n (pc' := 1) rfl rfl rfl ?_
  refine go_getR (pc' := 4) rfl rfl hth rfl ?_
  refine go_sipush (pc' := 7) (v := (nI 258)) rfl rfl rfl ?_
  refine go_iload_n (pc' := 8) rfl rfl rfl ?_
  refine go_imul (pc' := 9) rfl rfl ?_
  refine go_iconst (pc' := 10) (v := (nI 2)) rfl rfl rfl ?_
  refine go_iadd (pc' := 11) rfl rfl ?_
  refine go_iload_n (pc' := 12) rfl rfl rfl ?_
  refine go_iadd (pc' := 13) rfl rfl ?_
  obtain ⟨g0, h⟩ := o_gE h
  refine go_iaload (pc' := 14) rfl (o_inK g0) (o_inB g0) rfl ?_
  cases h
  exact go_iret rfl (trivial) ⟨rfl, rfl, rfl, rfl, rfl⟩
/-- PricedBasesModel.isBase(II)Z -/
def m_199 (th : Nat) (a0 : Int32) (a1 : Int32) (I : ai_I) (Rf : ai_R) (G : ai_G) : Option (Int32) :=
  o_b1 (m_189 a1.toInt64 (0 : Int64) (255 : Int64)) (fun r_6 => if r_6 = 0 then (some (nI 0)) else (o_b1 (m_198 th a0 a1 I Rf G) (fun r_15 => if r_15 = (-2147483648 : Int32) then (some (nI 0)) else (some (nI 1)))))
theorem md_199 {d : Nat} {I : ai_I} {J : ai_J} {Rf : ai_R} {G : ai_G} {th : Nat} {a0 : Int32} {a1 : Int32} {r : Int32} (hd : 2 ≤ d) (hth : G.1 th = 11) (h : m_199 th a0 a1 I Rf G = some r) : ai_Cl si_t si_ms d 199 [.inr (.inr th), .inl a0, .inl a1] I J Rf G (some (.inl r)) I J Rf G := by
  obtain ⟨e, rfl⟩ : ∃ e, d = e + 1 := ⟨d - 1, by omega⟩
  unfold m_199 at h
  refine sp_in (lo := [some (.inr (.inr th)), some (.inl a0), some (.inl a1)]) (B := (0, 0)) rfl (Nat.le_of_ble_eq_true rfl) rfl rfl ?_
  refine go_iload_n (pc' := 1) rfl rfl rfl ?_
  refine go_i2l (pc' := 2) rfl rfl ?_
  refine go_lconst (pc' := 3) (v := (0 : Int64)) rfl rfl rfl ?_
  refine go_ldc2_w (pc' := 6) (v := .inr (.inl (255 : Int64))) rfl rfl rfl ?_
  obtain ⟨r_6, q_6, h⟩ := o_b1E h
  refine go_callS (pc' := 9) (B' := (0, 0)) (st' := [.inl r_6]) rfl rfl (Or.inl (by decide)) rfl rfl trivial (md_189 (by omega) q_6) rfl rfl rfl ?_
  refine go_if_eq (pt := 27) (pc' := 12) rfl rfl rfl (fun h9 => ?_) (fun h9 => ?_)
  · replace h := o_t h9 h
    refine go_iconst (pc' := 28) (v := (nI 0)) rfl rfl rfl ?_
    cases h
    exact go_iret rfl (rfl) ⟨rfl, rfl, rfl, rfl, rfl⟩
  · replace h := o_f h9 h
    refine go_aload_n (pc' := 13) rfl rfl rfl ?_
    refine go_iload_n (pc' := 14) rfl rfl rfl ?_
    refine go_iload_n (pc' := 15) rfl rfl rfl ?_
    obtain ⟨r_15, q_15, h⟩ := o_b1E h
    refine go_callV (pc' := 18) (B' := (0, 0)) (st' := [.inl r_15]) rfl rfl (Or.inl (by decide)) rfl rfl hth (md_198 (by omega) hth q_15) rfl rfl rfl ?_
    refine go_ldc (pc' := 20) (v := .inl (-2147483648 : Int32)) rfl rfl rfl ?_
    refine go_icmp_eq (pt := 27) (pc' := 23) rfl rfl rfl (fun h20 => ?_) (fun h20 => ?_)
    · replace h := o_t h20 h
      refine go_iconst (pc' := 28) (v := (nI 0)) rfl rfl rfl ?_
      cases h
      exact go_iret rfl (rfl) ⟨rfl, rfl, rfl, rfl, rfl⟩
    · replace h := o_f h20 h
      refine go_iconst (pc' := 24) (v := (nI 1)) rfl rfl rfl ?_
      refine go_goto (pc' := 28) rfl rfl ?_
      cases h
      exact go_iret rfl (rfl) ⟨rfl, rfl, rfl, rfl, rfl⟩
/-- PricedBasesModel.isShelf(I)Z -/
def m_200 (a0 : Int32) : Option (Int32) :=
  o_b1 (m_189 a0.toInt64 (0 : Int64) (3 : Int64)) (fun r_6 => o_g (o_bz r_6) (some r_6))
theorem md_200 {d : Nat} {I : ai_I} {J : ai_J} {Rf : ai_R} {G : ai_G} {a0 : Int32} {r : Int32} (hd : 2 ≤ d) (h : m_200 a0 = some r) : ai_Cl si_t si_ms d 200 [.inl a0] I J Rf G (some (.inl r)) I J Rf G := by
  obtain ⟨e, rfl⟩ : ∃ e, d = e + 1 := ⟨d - 1, by omega⟩
  unfold m_200 at h
  refine sp_in (lo := [some (.inl a0)]) (B := (0, 0)) rfl (Nat.le_of_ble_eq_true rfl) rfl rfl ?_
  refine go_iload_n (pc' := 1) rfl rfl rfl ?_
  refine go_i2l (pc' := 2) rfl rfl ?_
  refine go_lconst (pc' := 3) (v := (0 : Int64)) rfl rfl rfl ?_
  refine go_ldc2_w (pc' := 6) (v := .inr (.inl (3 : Int64))) rfl rfl rfl ?_
  obtain ⟨r_6, q_6, h⟩ := o_b1E h
  refine go_callS (pc' := 9) (B' := (0, 0)) (st' := [.inl r_6]) rfl rfl (Or.inl (by decide)) rfl rfl trivial (md_189 (by omega) q_6) rfl rfl rfl ?_
  obtain ⟨g0, h⟩ := o_gE h
  cases h
  exact go_iret rfl (o_bzE g0) ⟨rfl, rfl, rfl, rfl, rfl⟩
/-- PricedBasesModel.isSet(II)Z -/
def m_201 (th : Nat) (a0 : Int32) (a1 : Int32) (I : ai_I) (Rf : ai_R) (G : ai_G) : Option (Int32) :=
  o_b1 (m_197 th a0 I Rf G) (fun r_5 => o_b1 (m_189 a1.toInt64 (0 : Int64) r_5.toInt64) (fun r_9 => o_g (o_bz r_9) (some r_9)))
theorem md_201 {d : Nat} {I : ai_I} {J : ai_J} {Rf : ai_R} {G : ai_G} {th : Nat} {a0 : Int32} {a1 : Int32} {r : Int32} (hd : 3 ≤ d) (hth : G.1 th = 11) (h : m_201 th a0 a1 I Rf G = some r) : ai_Cl si_t si_ms d 201 [.inr (.inr th), .inl a0, .inl a1] I J Rf G (some (.inl r)) I J Rf G := by
  obtain ⟨e, rfl⟩ : ∃ e, d = e + 1 := ⟨d - 1, by omega⟩
  unfold m_201 at h
  refine sp_in (lo := [some (.inr (.inr th)), some (.inl a0), some (.inl a1)]) (B := (0, 0)) rfl (Nat.le_of_ble_eq_true rfl) rfl rfl ?_
  refine go_iload_n (pc' := 1) rfl rfl rfl ?_
  refine go_i2l (pc' := 2) rfl rfl ?_
  refine go_lconst (pc' := 3) (v := (0 : Int64)) rfl rfl rfl ?_
  refine go_aload_n (pc' := 4) rfl rfl rfl ?_
  refine go_iload_n (pc' := 5) rfl rfl rfl ?_
  obtain ⟨r_5, q_5, h⟩ := o_b1E h
  refine go_callV (pc' := 8) (B' := (0, 0)) (st' := [.inl r_5, .inr (.inl (0 : Int64)), .inr (.inl a1.toInt64)]) rfl rfl (Or.inl (by decide)) rfl rfl hth (md_197 (by omega) hth q_5) rfl rfl rfl ?_
  refine go_i2l (pc' := 9) rfl rfl ?_
  obtain ⟨r_9, q_9, h⟩ := o_b1E h
  refine go_callS (pc' := 12) (B' := (0, 0)) (st' := [.inl r_9]) rfl rfl (Or.inl (by decide)) rfl rfl trivial (md_189 (by omega) q_9) rfl rfl rfl ?_
  obtain ⟨g0, h⟩ := o_gE h
  cases h
  exact go_iret rfl (o_bzE g0) ⟨rfl, rfl, rfl, rfl, rfl⟩
/-- PricedBasesModel.isElement(II)Z -/
def m_202 (th : Nat) (a0 : Int32) (a1 : Int32) (I : ai_I) (Rf : ai_R) (G : ai_G) : Option (Int32) :=
  o_b1 (m_195 th a0 I Rf G) (fun r_5 => o_b1 (m_189 a1.toInt64 (0 : Int64) ((r_5 - (nI 1)).toInt64)) (fun r_11 => o_g (o_bz r_11) (some r_11)))
theorem md_202 {d : Nat} {I : ai_I} {J : ai_J} {Rf : ai_R} {G : ai_G} {th : Nat} {a0 : Int32} {a1 : Int32} {r : Int32} (hd : 2 ≤ d) (hth : G.1 th = 11) (h : m_202 th a0 a1 I Rf G = some r) : ai_Cl si_t si_ms d 202 [.inr (.inr th), .inl a0, .inl a1] I J Rf G (some (.inl r)) I J Rf G := by
  obtain ⟨e, rfl⟩ : ∃ e, d = e + 1 := ⟨d - 1, by omega⟩
  unfold m_202 at h
  refine sp_in (lo := [some (.inr (.inr th)), some (.inl a0), some (.inl a1)]) (B := (0, 0)) rfl (Nat.le_of_ble_eq_true rfl) rfl rfl ?_
  refine go_iload_n (pc' := 1) rfl rfl rfl ?_
  refine go_i2l (pc' := 2) rfl rfl ?_
  refine go_lconst (pc' := 3) (v := (0 : Int64)) rfl rfl rfl ?_
  refine go_aload_n (pc' := 4) rfl rfl rfl ?_
  refine go_iload_n (pc' := 5) rfl rfl rfl ?_
  obtain ⟨r_5, q_5, h⟩ := o_b1E h
  refine go_callV (pc' := 8) (B' := (0, 0)) (st' := [.inl r_5, .inr (.inl (0 : Int64)), .inr (.inl a1.toInt64)]) rfl rfl (Or.inl (by decide)) rfl rfl hth (md_195 (by omega) hth q_5) rfl rfl rfl ?_
  refine go_iconst (pc' := 9) (v := (nI 1)) rfl rfl rfl ?_
  refine go_isub (pc' := 10) rfl rfl ?_
  refine go_i2l (pc' := 11) rfl rfl ?_
  obtain ⟨r_11, q_11, h⟩ := o_b1E h
  refine go_callS (pc' := 14) (B' := (0, 0)) (st' := [.inl r_11]) rfl rfl (Or.inl (by decide)) rfl rfl trivial (md_189 (by omega) q_11) rfl rfl rfl ?_
  obtain ⟨g0, h⟩ := o_gE h
  cases h
  exact go_iret rfl (o_bzE g0) ⟨rfl, rfl, rfl, rfl, rfl⟩
/-- PricedBasesModel.areAlike(II)Z -/
def m_203 (th : Nat) (a0 : Int32) (a1 : Int32) (I : ai_I) (Rf : ai_R) (G : ai_G) : Option (Int32) :=
  o_b1 (m_200 a0) (fun r_1 => if r_1 = 0 then (some (nI 0)) else (o_b1 (m_200 a1) (fun r_8 => if r_8 = 0 then (some (nI 0)) else (o_b1 (m_195 th a0 I Rf G) (fun r_16 => o_b1 (m_195 th a1 I Rf G) (fun r_21 => if r_16 = r_21 then (o_b1 (m_196 th a0 I Rf G) (fun r_29 => o_b1 (m_196 th a1 I Rf G) (fun r_34 => if r_29 = r_34 then (some (nI 1)) else (some (nI 0))))) else (some (nI 0))))))))
theorem md_203 {d : Nat} {I : ai_I} {J : ai_J} {Rf : ai_R} {G : ai_G} {th : Nat} {a0 : Int32} {a1 : Int32} {r : Int32} (hd : 3 ≤ d) (hth : G.1 th = 11) (h : m_203 th a0 a1 I Rf G = some r) : ai_Cl si_t si_ms d 203 [.inr (.inr th), .inl a0, .inl a1] I J Rf G (some (.inl r)) I J Rf G := by
  obtain ⟨e, rfl⟩ : ∃ e, d = e + 1 := ⟨d - 1, by omega⟩
  unfold m_203 at h
  refine sp_in (lo := [some (.inr (.inr th)), some (.inl a0), some (.inl a1)]) (B := (0, 0)) rfl (Nat.le_of_ble_eq_true rfl) rfl rfl ?_
  refine go_iload_n (pc' := 1) rfl rfl rfl ?_
  obtain ⟨r_1, q_1, h⟩ := o_b1E h
  refine go_callS (pc' := 4) (B' := (0, 0)) (st' := [.inl r_1]) rfl rfl (Or.inl (by decide)) rfl rfl trivial (md_200 (by omega) q_1) rfl rfl rfl ?_
  refine go_if_eq (pt := 44) (pc' := 7) rfl rfl rfl (fun h4 => ?_) (fun h4 => ?_)
  · replace h := o_t h4 h
    refine go_iconst (pc' := 45) (v := (nI 0)) rfl rfl rfl ?_
    cases h
    exact go_iret rfl (rfl) ⟨rfl, rfl, rfl, rfl, rfl⟩
  · replace h := o_f h4 h
    refine go_iload_n (pc' := 8) rfl rfl rfl ?_
    obtain ⟨r_8, q_8, h⟩ := o_b1E h
    refine go_callS (pc' := 11) (B' := (0, 0)) (st' := [.inl r_8]) rfl rfl (Or.inl (by decide)) rfl rfl trivial (md_200 (by omega) q_8) rfl rfl rfl ?_
    refine go_if_eq (pt := 44) (pc' := 14) rfl rfl rfl (fun h11 => ?_) (fun h11 => ?_)
    · replace h := o_t h11 h
      refine go_iconst (pc' := 45) (v := (nI 0)) rfl rfl rfl ?_
      cases h
      exact go_iret rfl (rfl) ⟨rfl, rfl, rfl, rfl, rfl⟩
    · replace h := o_f h11 h
      refine go_aload_n (pc' := 15) rfl rfl rfl ?_
      refine go_iload_n (pc' := 16) rfl rfl rfl ?_
      obtain ⟨r_16, q_16, h⟩ := o_b1E h
      refine go_callV (pc' := 19) (B' := (0, 0)) (st' := [.inl r_16]) rfl rfl (Or.inl (by decide)) rfl rfl hth (md_195 (by omega) hth q_16) rfl rfl rfl ?_
      refine go_aload_n (pc' := 20) rfl rfl rfl ?_
      refine go_iload_n (pc' := 21) rfl rfl rfl ?_
      obtain ⟨r_21, q_21, h⟩ := o_b1E h
      refine go_callV (pc' := 24) (B' := (0, 0)) (st' := [.inl r_21, .inl r_16]) rfl rfl (Or.inl (by decide)) rfl rfl hth (md_195 (by omega) hth q_21) rfl rfl rfl ?_
      refine go_icmp_ne (pt := 44) (pc' := 27) rfl rfl rfl (fun h24 => ?_) (fun h24 => ?_)
      · replace h := o_f h24 h
        refine go_iconst (pc' := 45) (v := (nI 0)) rfl rfl rfl ?_
        cases h
        exact go_iret rfl (rfl) ⟨rfl, rfl, rfl, rfl, rfl⟩
      · replace h := o_t (Decidable.of_not_not h24) h
        refine go_aload_n (pc' := 28) rfl rfl rfl ?_
        refine go_iload_n (pc' := 29) rfl rfl rfl ?_
        obtain ⟨r_29, q_29, h⟩ := o_b1E h
        refine go_callV (pc' := 32) (B' := (0, 0)) (st' := [.inl r_29]) rfl rfl (Or.inl (by decide)) rfl rfl hth (md_196 (by omega) hth q_29) rfl rfl rfl ?_
        refine go_aload_n (pc' := 33) rfl rfl rfl ?_
        refine go_iload_n (pc' := 34) rfl rfl rfl ?_
        obtain ⟨r_34, q_34, h⟩ := o_b1E h
        refine go_callV (pc' := 37) (B' := (0, 0)) (st' := [.inl r_34, .inl r_29]) rfl rfl (Or.inl (by decide)) rfl rfl hth (md_196 (by omega) hth q_34) rfl rfl rfl ?_
        refine go_icmp_ne (pt := 44) (pc' := 40) rfl rfl rfl (fun h37 => ?_) (fun h37 => ?_)
        · replace h := o_f h37 h
          refine go_iconst (pc' := 45) (v := (nI 0)) rfl rfl rfl ?_
          cases h
          exact go_iret rfl (rfl) ⟨rfl, rfl, rfl, rfl, rfl⟩
        · replace h := o_t (Decidable.of_not_not h37) h
          refine go_iconst (pc' := 41) (v := (nI 1)) rfl rfl rfl ?_
          refine go_goto (pc' := 45) rfl rfl ?_
          cases h
          exact go_iret rfl (rfl) ⟨rfl, rfl, rfl, rfl, rfl⟩
def m_204_x4_30 (w2_30 : Int32) : Option (Int32) :=
  some w2_30
def m_204_b4 (th : Nat) (a0 : Int32) (I : ai_I) (Rf : ai_R) (G : ai_G) (v2_4 : Int32) (v3_4 : Int32) : Option ((Int32 × Int32) ⊕ Int32) :=
  if (nI 256) ≤ v3_4 then (some (Sum.inr v2_4)) else (o_b1 (m_199 th a0 v3_4 I Rf G) (fun r_14 => if r_14 = 0 then (o_b1 (some (v3_4 + (nI 1))) (fun x3_24 => some (Sum.inl (v2_4, x3_24)))) else (o_b1 (some (v2_4 + (nI 1))) (fun x2_23 => o_b1 (some (v3_4 + (nI 1))) (fun x3_24 => some (Sum.inl (x2_23, x3_24)))))))
/-- PricedBasesModel.basesOf(I)I -/
def m_204 (th : Nat) (a0 : Int32) (I : ai_I) (Rf : ai_R) (G : ai_G) : Option (Int32) :=
  o_s1 (lp (fun s => m_204_b4 th a0 I Rf G s.1 s.2) o_N ((nI 0), (nI 0))) (fun t => m_204_x4_30 t)
theorem md_204 {d : Nat} {I : ai_I} {J : ai_J} {Rf : ai_R} {G : ai_G} {th : Nat} {a0 : Int32} {r : Int32} (hd : 3 ≤ d) (hth : G.1 th = 11) (h : m_204 th a0 I Rf G = some r) : ai_Cl si_t si_ms d 204 [.inr (.inr th), .inl a0] I J Rf G (some (.inl r)) I J Rf G := by
  obtain ⟨e, rfl⟩ : ∃ e, d = e + 1 := ⟨d - 1, by omega⟩
  unfold m_204 at h
  refine sp_in (lo := [some (.inr (.inr th)), some (.inl a0), none, none]) (B := (0, 0)) rfl (Nat.le_of_ble_eq_true rfl) rfl rfl ?_
  refine go_iconst (pc' := 1) (v := (nI 0)) rfl rfl rfl ?_
  refine go_istore_n (pc' := 2) (lo' := [some (.inr (.inr th)), some (.inl a0), some (.inl (nI 0)), none]) rfl rfl rfl ?_
  refine go_iconst (pc' := 3) (v := (nI 0)) rfl rfl rfl ?_
  refine go_istore_n (pc' := 4) (lo' := [some (.inr (.inr th)), some (.inl a0), some (.inl (nI 0)), some (.inl (nI 0))]) rfl rfl rfl ?_
  obtain ⟨q4, hl4, hc4_30⟩ := o_s1E h
  have ex4_30 : ∀ (w2_30 : Int32) (z3_x30 : Option ai_V), w2_30 = q4 → ai_Go si_t (11, false, 0, cd_204) (ai_Cl si_t si_ms e) (sp_Q (some (.inl r)) I J Rf G) 30 [some (.inr (.inr th)), some (.inl a0), some (.inl w2_30), z3_x30] [] (0, 0) I J Rf G := by
    intro w2_30 z3_x30 hq
    have h : m_204_x4_30 w2_30 = some r := hc4_30 w2_30 hq.symm
    unfold m_204_x4_30 at h
    refine go_iload_n (pc' := 31) rfl rfl rfl ?_
    cases h
    exact go_iret rfl (trivial) ⟨rfl, rfl, rfl, rfl, rfl⟩
  have lo4 : ∀ n s, lp (fun s => m_204_b4 th a0 I Rf G s.1 s.2) n s = some q4 → (fun s => ai_Go si_t (11, false, 0, cd_204) (ai_Cl si_t si_ms e) (sp_Q (some (.inl r)) I J Rf G) 4 [some (.inr (.inr th)), some (.inl a0), some (.inl s.1), some (.inl s.2)] [] (0, 0) I J Rf G) s := lp_go (fun s x4 hx hk4 => by
    obtain ⟨v2_4, v3_4⟩ := s
    have h : m_204_b4 th a0 I Rf G v2_4 v3_4 = some x4 := hx
    clear hx
    show ai_Go si_t (11, false, 0, cd_204) (ai_Cl si_t si_ms e) (sp_Q (some (.inl r)) I J Rf G) 4 [some (.inr (.inr th)), some (.inl a0), some (.inl v2_4), some (.inl v3_4)] [] (0, 0) I J Rf G
    unfold m_204_b4 at h
    refine go_iload_n (pc' := 5) rfl rfl rfl ?_
    refine go_sipush (pc' := 8) (v := (nI 256)) rfl rfl rfl ?_
    refine go_icmp_ge (pt := 30) (pc' := 11) rfl rfl rfl (fun h8 => ?_) (fun h8 => ?_)
    · replace h := o_t h8 h
      exact ex4_30 _ (some (.inl v3_4)) (lp_exitE h hk4)
    · replace h := o_f h8 h
      refine go_aload_n (pc' := 12) rfl rfl rfl ?_
      refine go_iload_n (pc' := 13) rfl rfl rfl ?_
      refine go_iload_n (pc' := 14) rfl rfl rfl ?_
      obtain ⟨r_14, q_14, h⟩ := o_b1E h
      refine go_callV (pc' := 17) (B' := (0, 0)) (st' := [.inl r_14]) rfl rfl (Or.inl (by decide)) rfl rfl hth (md_199 (by omega) hth q_14) rfl rfl rfl ?_
      refine go_if_eq (pt := 24) (pc' := 20) rfl rfl rfl (fun h17 => ?_) (fun h17 => ?_)
      · replace h := o_t h17 h
        obtain ⟨x3_24, ex3_24, h⟩ := o_b1E h
        refine go_iincE (pc' := 27) rfl rfl (y := (nI 1)) rfl ex3_24 (lo' := [some (.inr (.inr th)), some (.inl a0), some (.inl v2_4), some (.inl x3_24)]) rfl rfl ?_
        refine go_goto (pc' := 4) rfl rfl ?_
        exact (lp_backE h hk4 :)
      · replace h := o_f h17 h
        refine go_iload_n (pc' := 21) rfl rfl rfl ?_
        refine go_iconst (pc' := 22) (v := (nI 1)) rfl rfl rfl ?_
        refine go_iadd (pc' := 23) rfl rfl ?_
        obtain ⟨x2_23, ex2_23, h⟩ := o_b1E h
        refine go_ndI ex2_23 ?_
        refine go_istore_n (pc' := 24) (lo' := [some (.inr (.inr th)), some (.inl a0), some (.inl x2_23), some (.inl v3_4)]) rfl rfl rfl ?_
        obtain ⟨x3_24, ex3_24, h⟩ := o_b1E h
        refine go_iincE (pc' := 27) rfl rfl (y := (nI 1)) rfl ex3_24 (lo' := [some (.inr (.inr th)), some (.inl a0), some (.inl x2_23), some (.inl x3_24)]) rfl rfl ?_
        refine go_goto (pc' := 4) rfl rfl ?_
        exact (lp_backE h hk4 :))
  exact lo4 _ ((nI 0), (nI 0)) hl4 
def m_205_x2_18 (w2_18 : Int32) : Option (Int32) :=
  some w2_18
def m_205_b2 (th : Nat) (a0 : Int32) (I : ai_I) (Rf : ai_R) (G : ai_G) (v2_2 : Int32) : Option (Int32 ⊕ Int32) :=
  o_b1 (m_199 th a0 v2_2 I Rf G) (fun r_5 => if r_5 = 0 then (o_b1 (some (v2_2 + (nI 1))) (fun x2_14 => some (Sum.inl x2_14))) else (some (Sum.inr v2_2)))
/-- PricedBasesModel.leastBase(I)I -/
def m_205 (th : Nat) (a0 : Int32) (I : ai_I) (Rf : ai_R) (G : ai_G) : Option (Int32) :=
  o_s1 (lp (fun s => m_205_b2 th a0 I Rf G s) o_N (nI 0)) (fun t => m_205_x2_18 t)
theorem md_205 {d : Nat} {I : ai_I} {J : ai_J} {Rf : ai_R} {G : ai_G} {th : Nat} {a0 : Int32} {r : Int32} (hd : 3 ≤ d) (hth : G.1 th = 11) (h : m_205 th a0 I Rf G = some r) : ai_Cl si_t si_ms d 205 [.inr (.inr th), .inl a0] I J Rf G (some (.inl r)) I J Rf G := by
  obtain ⟨e, rfl⟩ : ∃ e, d = e + 1 := ⟨d - 1, by omega⟩
  unfold m_205 at h
  refine sp_in (lo := [some (.inr (.inr th)), some (.inl a0), none]) (B := (0, 0)) rfl (Nat.le_of_ble_eq_true rfl) rfl rfl ?_
  refine go_iconst (pc' := 1) (v := (nI 0)) rfl rfl rfl ?_
  refine go_istore_n (pc' := 2) (lo' := [some (.inr (.inr th)), some (.inl a0), some (.inl (nI 0))]) rfl rfl rfl ?_
  obtain ⟨q2, hl2, hc2_18⟩ := o_s1E h
  have ex2_18 : ∀ (w2_18 : Int32), w2_18 = q2 → ai_Go si_t (11, false, 0, cd_205) (ai_Cl si_t si_ms e) (sp_Q (some (.inl r)) I J Rf G) 18 [some (.inr (.inr th)), some (.inl a0), some (.inl w2_18)] [] (0, 0) I J Rf G := by
    intro w2_18 hq
    have h : m_205_x2_18 w2_18 = some r := hc2_18 w2_18 hq.symm
    unfold m_205_x2_18 at h
    refine go_iload_n (pc' := 19) rfl rfl rfl ?_
    cases h
    exact go_iret rfl (trivial) ⟨rfl, rfl, rfl, rfl, rfl⟩
  have lo2 : ∀ n s, lp (fun s => m_205_b2 th a0 I Rf G s) n s = some q2 → (fun s => ai_Go si_t (11, false, 0, cd_205) (ai_Cl si_t si_ms e) (sp_Q (some (.inl r)) I J Rf G) 2 [some (.inr (.inr th)), some (.inl a0), some (.inl s)] [] (0, 0) I J Rf G) s := lp_go (fun s x2 hx hk2 => by
    revert s; intro v2_2 hx
    have h : m_205_b2 th a0 I Rf G v2_2 = some x2 := hx
    clear hx
    show ai_Go si_t (11, false, 0, cd_205) (ai_Cl si_t si_ms e) (sp_Q (some (.inl r)) I J Rf G) 2 [some (.inr (.inr th)), some (.inl a0), some (.inl v2_2)] [] (0, 0) I J Rf G
    unfold m_205_b2 at h
    refine go_aload_n (pc' := 3) rfl rfl rfl ?_
    refine go_iload_n (pc' := 4) rfl rfl rfl ?_
    refine go_iload_n (pc' := 5) rfl rfl rfl ?_
    obtain ⟨r_5, q_5, h⟩ := o_b1E h
    refine go_callV (pc' := 8) (B' := (0, 0)) (st' := [.inl r_5]) rfl rfl (Or.inl (by decide)) rfl rfl hth (md_199 (by omega) hth q_5) rfl rfl rfl ?_
    refine go_if_ne (pt := 18) (pc' := 11) rfl rfl rfl (fun h8 => ?_) (fun h8 => ?_)
    · replace h := o_f h8 h
      exact ex2_18 _  (lp_exitE h hk2)
    · replace h := o_t (Decidable.of_not_not h8) h
      refine go_iload_n (pc' := 12) rfl rfl rfl ?_
      refine go_iconst (pc' := 13) (v := (nI 1)) rfl rfl rfl ?_
      refine go_iadd (pc' := 14) rfl rfl ?_
      obtain ⟨x2_14, ex2_14, h⟩ := o_b1E h
      refine go_ndI ex2_14 ?_
      refine go_istore_n (pc' := 15) (lo' := [some (.inr (.inr th)), some (.inl a0), some (.inl x2_14)]) rfl rfl rfl ?_
      refine go_goto (pc' := 2) rfl rfl ?_
      exact (lp_backE h hk2 :))
  exact lo2 _ (nI 0) hl2 
def m_206_x2_38 (Ix_38 : ai_I) : Option (ai_I) :=
  some Ix_38
def m_206_b2 (th : Nat) (a0 : Int32) (Rf : ai_R) (G : ai_G) (v2_2 : Int32) (I_2 : ai_I) : Option ((Int32 × ai_I) ⊕ ai_I) :=
  if v2_2 < 0 then (some (Sum.inr I_2)) else (o_g (o_in G 12 (Rf th 2) (I_2 th 3)) (o_b1 (some (va_up I_2 (Rf th 2) (va_up (I_2 (Rf th 2)) (I_2 th 3).toNatClampNeg ((a0 >>> (((nI 8) * v2_2) &&& 31)).toInt8.toInt32).toInt8.toInt32))) (fun I_21 => o_b1 (some (va_up I_21 th (va_up (I_21 th) 3 ((I_21 th 3) + (nI 1))))) (fun I_29 => o_b1 (some (v2_2 + (-1 : Int32))) (fun x2_32 => some (Sum.inl (x2_32, I_29)))))))
/-- PricedBasesModel.types(I)V -/
def m_206 (th : Nat) (a0 : Int32) (I : ai_I) (Rf : ai_R) (G : ai_G) : Option (ai_I) :=
  o_s1 (lp (fun s => m_206_b2 th a0 Rf G s.1 s.2) o_N ((nI 3), I)) (fun t => m_206_x2_38 t)
theorem md_206 {d : Nat} {I : ai_I} {J : ai_J} {Rf : ai_R} {G : ai_G} {th : Nat} {a0 : Int32} {I1 : ai_I} (hd : 1 ≤ d) (hth : G.1 th = 11) (h : m_206 th a0 I Rf G = some I1) : ai_Cl si_t si_ms d 206 [.inr (.inr th), .inl a0] I J Rf G none I1 J Rf G := by
  obtain ⟨e, rfl⟩ : ∃ e, d = e + 1 := ⟨d - 1, by omega⟩
  unfold m_206 at h
  refine sp_in (lo := [some (.inr (.inr th)), some (.inl a0), none]) (B := (0, 0)) rfl (Nat.le_of_ble_eq_true rfl) rfl rfl ?_
  refine go_iconst (pc' := 1) (v := (nI 3)) rfl rfl rfl ?_
  refine go_istore_n (pc' := 2) (lo' := [some (.inr (.inr th)), some (.inl a0), some (.inl (nI 3))]) rfl rfl rfl ?_
  obtain ⟨q2, hl2, hc2_38⟩ := o_s1E h
  have ex2_38 : ∀ (Ix_38 : ai_I) (z2_x38 : Option ai_V), Ix_38 = q2 → ai_Go si_t (11, false, 9, cd_206) (ai_Cl si_t si_ms e) (sp_Q none I1 J Rf G) 38 [some (.inr (.inr th)), some (.inl a0), z2_x38] [] (0, 0) Ix_38 J Rf G := by
    intro Ix_38 z2_x38 hq
    have h : m_206_x2_38 Ix_38 = some I1 := hc2_38 Ix_38 hq.symm
    unfold m_206_x2_38 at h
    cases h
    exact go_vret rfl (rfl) ⟨rfl, rfl, rfl, rfl, rfl⟩
  have lo2 : ∀ n s, lp (fun s => m_206_b2 th a0 Rf G s.1 s.2) n s = some q2 → (fun s => ai_Go si_t (11, false, 9, cd_206) (ai_Cl si_t si_ms e) (sp_Q none I1 J Rf G) 2 [some (.inr (.inr th)), some (.inl a0), some (.inl s.1)] [] (0, 0) s.2 J Rf G) s := lp_go (fun s x2 hx hk2 => by
    obtain ⟨v2_2, I_2⟩ := s
    have h : m_206_b2 th a0 Rf G v2_2 I_2 = some x2 := hx
    clear hx
    show ai_Go si_t (11, false, 9, cd_206) (ai_Cl si_t si_ms e) (sp_Q none I1 J Rf G) 2 [some (.inr (.inr th)), some (.inl a0), some (.inl v2_2)] [] (0, 0) I_2 J Rf G
    unfold m_206_b2 at h
    refine go_iload_n (pc' := 3) rfl rfl rfl ?_
    refine go_if_lt (pt := 38) (pc' := 6) rfl rfl rfl (fun h3 => ?_) (fun h3 => ?_)
    · replace h := o_t h3 h
      exact ex2_38 _ (some (.inl v2_2)) (lp_exitE h hk2)
    · replace h := o_f h3 h
      refine go_aload_n (pc' := 7) rfl rfl rfl ?_
      refine go_getR (pc' := 10) rfl rfl hth rfl ?_
      refine go_aload_n (pc' := 11) rfl rfl rfl ?_
      refine go_getI (pc' := 14) rfl rfl (by decide) (by decide) hth rfl ?_
      refine go_iload_n (pc' := 15) rfl rfl rfl ?_
      refine go_bipush (pc' := 17) (v := (nI 8)) rfl rfl rfl ?_
      refine go_iload_n (pc' := 18) rfl rfl rfl ?_
      refine go_imul (pc' := 19) rfl rfl ?_
      refine go_ishr (pc' := 20) rfl rfl ?_
      refine go_i2b (pc' := 21) rfl rfl ?_
      obtain ⟨g0, h⟩ := o_gE h
      obtain ⟨I_21, eI_21, h⟩ := o_b1E h
      refine go_bastore (pc' := 22) rfl (o_inK g0) (o_inB g0) rfl ?_
      refine go_ndMI eI_21 ?_
      refine go_aload_n (pc' := 23) rfl rfl rfl ?_
      refine go_aload_n (pc' := 24) rfl rfl rfl ?_
      refine go_getI (pc' := 27) rfl rfl (by decide) (by decide) hth rfl ?_
      refine go_iconst (pc' := 28) (v := (nI 1)) rfl rfl rfl ?_
      refine go_iadd (pc' := 29) rfl rfl ?_
      obtain ⟨I_29, eI_29, h⟩ := o_b1E h
      refine go_putI (pc' := 32) rfl rfl (fun h => by cases h) hth rfl ?_
      refine go_ndMI eI_29 ?_
      obtain ⟨x2_32, ex2_32, h⟩ := o_b1E h
      refine go_iincE (pc' := 35) rfl rfl (y := (-1 : Int32)) rfl ex2_32 (lo' := [some (.inr (.inr th)), some (.inl a0), some (.inl x2_32)]) rfl rfl ?_
      refine go_goto (pc' := 2) rfl rfl ?_
      exact (lp_backE h hk2 :))
  exact lo2 _ ((nI 3), I) hl2 
/-- PricedBasesModel.feed(IIIII)I -/
def m_207 (th : Nat) (a0 : Int32) (a1 : Int32) (a2 : Int32) (a3 : Int32) (a4 : Int32) (I : ai_I) (Rf : ai_R) (G : ai_G) : Option (Int32 × ai_I) :=
  if ((I th 3) + (nI 20)) ≤ (nI 240) then (o_b1 (m_206 th a0 I Rf G) (fun I_17 => o_b1 (m_206 th a1 I_17 Rf G) (fun I_22 => o_b1 (m_206 th a2 I_22 Rf G) (fun I_27 => o_b1 (m_206 th a3 I_27 Rf G) (fun I_33 => o_b1 (m_206 th a4 I_33 Rf G) (fun I_39 => some (I_39 th 3, I_39))))))) else (some ((-1 : Int32), I))
theorem md_207 {d : Nat} {I : ai_I} {J : ai_J} {Rf : ai_R} {G : ai_G} {th : Nat} {a0 : Int32} {a1 : Int32} {a2 : Int32} {a3 : Int32} {a4 : Int32} {r : Int32} {I1 : ai_I} (hd : 2 ≤ d) (hth : G.1 th = 11) (h : m_207 th a0 a1 a2 a3 a4 I Rf G = some (r, I1)) : ai_Cl si_t si_ms d 207 [.inr (.inr th), .inl a0, .inl a1, .inl a2, .inl a3, .inl a4] I J Rf G (some (.inl r)) I1 J Rf G := by
  obtain ⟨e, rfl⟩ : ∃ e, d = e + 1 := ⟨d - 1, by omega⟩
  unfold m_207 at h
  refine sp_in (lo := [some (.inr (.inr th)), some (.inl a0), some (.inl a1), some (.inl a2), some (.inl a3), some (.inl a4)]) (B := (0, 0)) rfl (Nat.le_of_ble_eq_true rfl) rfl rfl ?_
  refine go_aload_n (pc' := 1) rfl rfl rfl ?_
  refine go_getI (pc' := 4) rfl rfl (by decide) (by decide) hth rfl ?_
  refine go_bipush (pc' := 6) (v := (nI 20)) rfl rfl rfl ?_
  refine go_iadd (pc' := 7) rfl rfl ?_
  refine go_sipush (pc' := 10) (v := (nI 240)) rfl rfl rfl ?_
  refine go_icmp_le (pt := 15) (pc' := 13) rfl rfl rfl (fun h10 => ?_) (fun h10 => ?_)
  · replace h := o_t h10 h
    refine go_aload_n (pc' := 16) rfl rfl rfl ?_
    refine go_iload_n (pc' := 17) rfl rfl rfl ?_
    obtain ⟨I_17, q_17, h⟩ := o_b1E h
    refine go_callV (pc' := 20) (B' := (0, 0)) (st' := []) rfl rfl (Or.inl (by decide)) rfl rfl hth (md_206 (by omega) hth q_17) rfl rfl rfl ?_
    refine go_aload_n (pc' := 21) rfl rfl rfl ?_
    refine go_iload_n (pc' := 22) rfl rfl rfl ?_
    obtain ⟨I_22, q_22, h⟩ := o_b1E h
    refine go_callV (pc' := 25) (B' := (0, 0)) (st' := []) rfl rfl (Or.inl (by decide)) rfl rfl hth (md_206 (by omega) hth q_22) rfl rfl rfl ?_
    refine go_aload_n (pc' := 26) rfl rfl rfl ?_
    refine go_iload_n (pc' := 27) rfl rfl rfl ?_
    obtain ⟨I_27, q_27, h⟩ := o_b1E h
    refine go_callV (pc' := 30) (B' := (0, 0)) (st' := []) rfl rfl (Or.inl (by decide)) rfl rfl hth (md_206 (by omega) hth q_27) rfl rfl rfl ?_
    refine go_aload_n (pc' := 31) rfl rfl rfl ?_
    refine go_iload (pc' := 33) rfl rfl rfl ?_
    obtain ⟨I_33, q_33, h⟩ := o_b1E h
    refine go_callV (pc' := 36) (B' := (0, 0)) (st' := []) rfl rfl (Or.inl (by decide)) rfl rfl hth (md_206 (by omega) hth q_33) rfl rfl rfl ?_
    refine go_aload_n (pc' := 37) rfl rfl rfl ?_
    refine go_iload (pc' := 39) rfl rfl rfl ?_
    obtain ⟨I_39, q_39, h⟩ := o_b1E h
    refine go_callV (pc' := 42) (B' := (0, 0)) (st' := []) rfl rfl (Or.inl (by decide)) rfl rfl hth (md_206 (by omega) hth q_39) rfl rfl rfl ?_
    refine go_aload_n (pc' := 43) rfl rfl rfl ?_
    refine go_getI (pc' := 46) rfl rfl (by decide) (by decide) hth rfl ?_
    cases h
    exact go_iret rfl (trivial) ⟨rfl, rfl, rfl, rfl, rfl⟩
  · replace h := o_f h10 h
    refine go_iconst (pc' := 14) (v := (-1 : Int32)) rfl rfl rfl ?_
    cases h
    exact go_iret rfl (trivial) ⟨rfl, rfl, rfl, rfl, rfl⟩
/-- PricedBasesModel.here()I -/
def m_208 (th : Nat) (I : ai_I) (Rf : ai_R) (G : ai_G) : Option (Int32) :=
  if (I th 5) ≤ (I th 4) then (some (-1 : Int32)) else (o_g (o_in G 12 (Rf th 2) (I th 4)) (some ((I (Rf th 2) (I th 4).toNatClampNeg) &&& (nI 255))))
theorem md_208 {d : Nat} {I : ai_I} {J : ai_J} {Rf : ai_R} {G : ai_G} {th : Nat} {r : Int32} (hd : 1 ≤ d) (hth : G.1 th = 11) (h : m_208 th I Rf G = some r) : ai_Cl si_t si_ms d 208 [.inr (.inr th)] I J Rf G (some (.inl r)) I J Rf G := by
  obtain ⟨e, rfl⟩ : ∃ e, d = e + 1 := ⟨d - 1, by omega⟩
  unfold m_208 at h
  refine sp_in (lo := [some (.inr (.inr th))]) (B := (0, 0)) rfl (Nat.le_of_ble_eq_true rfl) rfl rfl ?_
  refine go_aload_n (pc' := 1) rfl rfl rfl ?_
  refine go_getI (pc' := 4) rfl rfl (by decide) (by decide) hth rfl ?_
  refine go_aload_n (pc' := 5) rfl rfl rfl ?_
  refine go_getI (pc' := 8) rfl rfl (by decide) (by decide) hth rfl ?_
  refine go_icmp_ge (pt := 27) (pc' := 11) rfl rfl rfl (fun h8 => ?_) (fun h8 => ?_)
  · replace h := o_t h8 h
    refine go_iconst (pc' := 28) (v := (-1 : Int32)) rfl rfl rfl ?_
    cases h
    exact go_iret rfl (trivial) ⟨rfl, rfl, rfl, rfl, rfl⟩
  · replace h := o_f h8 h
    refine go_aload_n (pc' := 12) rfl rfl rfl ?_
    refine go_getR (pc' := 15) rfl rfl hth rfl ?_
    refine go_aload_n (pc' := 16) rfl rfl rfl ?_
    refine go_getI (pc' := 19) rfl rfl (by decide) (by decide) hth rfl ?_
    obtain ⟨g0, h⟩ := o_gE h
    refine go_baload (pc' := 20) rfl (o_inK g0) (o_inB g0) rfl ?_
    refine go_sipush (pc' := 23) (v := (nI 255)) rfl rfl rfl ?_
    refine go_iand (pc' := 24) rfl rfl ?_
    refine go_goto (pc' := 28) rfl rfl ?_
    cases h
    exact go_iret rfl (trivial) ⟨rfl, rfl, rfl, rfl, rfl⟩
/-- PricedBasesModel.wrongAt(II)Z -/
def m_209 (th : Nat) (a0 : Int32) (a1 : Int32) (I : ai_I) : Option (Int32 × ai_I) :=
  o_b1 (some (va_up I th (va_up (I th) 6 (((-1000 : Int32) * a0) - a1)))) (fun I_8 => some ((nI 0), I_8))
theorem md_209 {d : Nat} {I : ai_I} {J : ai_J} {Rf : ai_R} {G : ai_G} {th : Nat} {a0 : Int32} {a1 : Int32} {r : Int32} {I1 : ai_I} (hd : 1 ≤ d) (hth : G.1 th = 11) (h : m_209 th a0 a1 I = some (r, I1)) : ai_Cl si_t si_ms d 209 [.inr (.inr th), .inl a0, .inl a1] I J Rf G (some (.inl r)) I1 J Rf G := by
  obtain ⟨e, rfl⟩ : ∃ e, d = e + 1 := ⟨d - 1, by omega⟩
  unfold m_209 at h
  refine sp_in (lo := [some (.inr (.inr th)), some (.inl a0), some (.inl a1)]) (B := (0, 0)) rfl (Nat.le_of_ble_eq_true rfl) rfl rfl ?_
  refine go_aload_n (pc' := 1) rfl rfl rfl ?_
  refine go_sipush (pc' := 4) (v := (-1000 : Int32)) rfl rfl rfl ?_
  refine go_iload_n (pc' := 5) rfl rfl rfl ?_
  refine go_imul (pc' := 6) rfl rfl ?_
  refine go_iload_n (pc' := 7) rfl rfl rfl ?_
  refine go_isub (pc' := 8) rfl rfl ?_
  obtain ⟨I_8, eI_8, h⟩ := o_b1E h
  refine go_putI (pc' := 11) rfl rfl (fun h => by cases h) hth rfl ?_
  refine go_ndMI eI_8 ?_
  refine go_iconst (pc' := 12) (v := (nI 0)) rfl rfl rfl ?_
  cases h
  exact go_iret rfl (rfl) ⟨rfl, rfl, rfl, rfl, rfl⟩
