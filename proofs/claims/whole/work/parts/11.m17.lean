/-! Models of methods and their proofs, piece 17. Printed by wip/whole/pr10.py. -/
def m_284_x6_181 (w4_181 : Int32) (Ix_181 : ai_I) : Option (Int32 × ai_I) :=
  o_g (o_bz w4_181) (some (w4_181, Ix_181))
def m_284_x19_175 (v5_6 : Int32) (w4_175 : Int32) (Ix_175 : ai_I) : Option ((Int32 × Int32 × ai_I) ⊕ (Int32 × ai_I)) :=
  o_b1 (some (v5_6 + (nI 1))) (fun x5_175 => some (Sum.inl (w4_175, x5_175, Ix_175)))
def m_284_j116 (th : Nat) (a1 : Int32) (a2 : Int32) (Rf : ai_R) (G : ai_G) (v5_6 : Int32) (v6_19 : Int32) (x7_61 : Int32) (y4_116 : Int32) (I_116 : ai_I) : Option ((Int32 × Int32 × ai_I) ⊕ (Int32 × ai_I)) :=
  o_b1 (m_199 th a1 x7_61 I_116 Rf G) (fun r_120 => if r_120 = 0 then (o_b1 (some (v6_19 + (nI 1))) (fun x6_169 => some (Sum.inl (y4_116, x6_169, I_116)))) else (o_g (o_in G 13 (Rf th 24) v6_19) (o_b1 (m_198 th a1 a2 I_116 Rf G) (fun r_139 => o_b1 (m_198 th a1 x7_61 I_116 Rf G) (fun r_147 => o_b2 (m_283 th v5_6 (((I_116 (Rf th 24) v6_19.toNatClampNeg) + r_139) - r_147) I_116 Rf G) (fun r_151 I_151 => if r_151 = 0 then (if y4_116 = 0 then (o_b1 (some (v6_19 + (nI 1))) (fun x6_169 => some (Sum.inl ((nI 0), x6_169, I_151)))) else (o_b1 (some (v6_19 + (nI 1))) (fun x6_169 => some (Sum.inl ((nI 1), x6_169, I_151))))) else (o_b1 (some (v6_19 + (nI 1))) (fun x6_169 => some (Sum.inl ((nI 1), x6_169, I_151))))))))))
def m_284_j114 (th : Nat) (a1 : Int32) (a2 : Int32) (Rf : ai_R) (G : ai_G) (v5_6 : Int32) (v6_19 : Int32) (x7_61 : Int32) (I_98 : ai_I) (t0_114 : Int32) : Option ((Int32 × Int32 × ai_I) ⊕ (Int32 × ai_I)) :=
  m_284_j116 th a1 a2 Rf G v5_6 v6_19 x7_61 t0_114 I_98
def m_284_j109 (th : Nat) (a1 : Int32) (a2 : Int32) (Rf : ai_R) (G : ai_G) (v5_6 : Int32) (v6_19 : Int32) (x7_61 : Int32) (I_98 : ai_I) : Option ((Int32 × Int32 × ai_I) ⊕ (Int32 × ai_I)) :=
  m_284_j114 th a1 a2 Rf G v5_6 v6_19 x7_61 I_98 (nI 1)
def m_284_b19 (th : Nat) (a0 : Int32) (a1 : Int32) (a2 : Int32) (Rf : ai_R) (G : ai_G) (v5_6 : Int32) (v4_19 : Int32) (v6_19 : Int32) (I_19 : ai_I) : Option ((Int32 × Int32 × ai_I) ⊕ (Int32 × ai_I)) :=
  o_b1 (m_195 th a0 I_19 Rf G) (fun r_23 => if r_23 ≤ v6_19 then (some (Sum.inr (v4_19, I_19))) else (o_b1 (m_192 a2 v5_6) (fun r_32 => if r_32 = 0 then (o_b1 (some (v6_19 + (nI 1))) (fun x6_169 => some (Sum.inl (v4_19, x6_169, I_19)))) else (o_b1 (m_192 a2 v6_19) (fun r_41 => if r_41 = 0 then (o_b1 (some ((a2 ^^^ ((nI 1) <<< (v5_6 &&& 31))) ^^^ ((nI 1) <<< (v6_19 &&& 31)))) (fun x7_61 => o_b1 (m_199 th a0 x7_61 I_19 Rf G) (fun r_67 => if r_67 = 0 then (m_284_j116 th a1 a2 Rf G v5_6 v6_19 x7_61 v4_19 I_19) else (o_g (o_in G 13 (Rf th 24) v5_6) (o_b1 (m_198 th a0 a2 I_19 Rf G) (fun r_86 => o_b1 (m_198 th a0 x7_61 I_19 Rf G) (fun r_94 => o_b2 (m_283 th v6_19 (((I_19 (Rf th 24) v5_6.toNatClampNeg) + r_86) - r_94) I_19 Rf G) (fun r_98 I_98 => if r_98 = 0 then (if v4_19 = 0 then (m_284_j114 th a1 a2 Rf G v5_6 v6_19 x7_61 I_98 (nI 0)) else (m_284_j109 th a1 a2 Rf G v5_6 v6_19 x7_61 I_98)) else (m_284_j109 th a1 a2 Rf G v5_6 v6_19 x7_61 I_98))))))))) else (o_b1 (some (v6_19 + (nI 1))) (fun x6_169 => some (Sum.inl (v4_19, x6_169, I_19)))))))))
def m_284_b6 (th : Nat) (a0 : Int32) (a1 : Int32) (a2 : Int32) (Rf : ai_R) (G : ai_G) (v4_6 : Int32) (v5_6 : Int32) (I_6 : ai_I) : Option ((Int32 × Int32 × ai_I) ⊕ (Int32 × ai_I)) :=
  o_b1 (m_195 th a0 I_6 Rf G) (fun r_10 => if r_10 ≤ v5_6 then (some (Sum.inr (v4_6, I_6))) else (o_s1 (lp (fun s => m_284_b19 th a0 a1 a2 Rf G v5_6 s.1 s.2.1 s.2.2) o_N (v4_6, (nI 0), I_6)) (fun t => m_284_x19_175 v5_6 t.1 t.2)))
/-- PricedBasesModel.settles(III)Z -/
def m_284 (th : Nat) (a0 : Int32) (a1 : Int32) (a2 : Int32) (I : ai_I) (Rf : ai_R) (G : ai_G) : Option (Int32 × ai_I) :=
  o_s1 (lp (fun s => m_284_b6 th a0 a1 a2 Rf G s.1 s.2.1 s.2.2) o_N ((nI 0), (nI 0), I)) (fun t => m_284_x6_181 t.1 t.2)
theorem md_284 {d : Nat} {I : ai_I} {J : ai_J} {Rf : ai_R} {G : ai_G} {th : Nat} {a0 : Int32} {a1 : Int32} {a2 : Int32} {r : Int32} {I1 : ai_I} (hd : 3 ≤ d) (hth : G.1 th = 11) (h : m_284 th a0 a1 a2 I Rf G = some (r, I1)) : ai_Cl si_t si_ms d 284 [.inr (.inr th), .inl a0, .inl a1, .inl a2] I J Rf G (some (.inl r)) I1 J Rf G := by
  obtain ⟨e, rfl⟩ : ∃ e, d = e + 1 := ⟨d - 1, by omega⟩
  unfold m_284 at h
  refine sp_in (lo := [some (.inr (.inr th)), some (.inl a0), some (.inl a1), some (.inl a2), none, none, none, none]) (B := (0, 0)) rfl (Nat.le_of_ble_eq_true rfl) rfl rfl ?_
  refine go_iconst (pc' := 1) (v := (nI 0)) rfl rfl rfl ?_
  refine go_istore (pc' := 3) (lo' := [some (.inr (.inr th)), some (.inl a0), some (.inl a1), some (.inl a2), some (.inl (nI 0)), none, none, none]) rfl rfl rfl ?_
  refine go_iconst (pc' := 4) (v := (nI 0)) rfl rfl rfl ?_
  refine go_istore (pc' := 6) (lo' := [some (.inr (.inr th)), some (.inl a0), some (.inl a1), some (.inl a2), some (.inl (nI 0)), some (.inl (nI 0)), none, none]) rfl rfl rfl ?_
  obtain ⟨q6, hl6, hc6_181⟩ := o_s1E h
  have ex6_181 : ∀ (w4_181 : Int32) (Ix_181 : ai_I) (z5_x181 : Option ai_V) (z6_x181 : Option ai_V) (z7_x181 : Option ai_V), (w4_181, Ix_181) = q6 → ai_Go si_t (11, false, 3, cd_284) (ai_Cl si_t si_ms e) (sp_Q (some (.inl r)) I1 J Rf G) 181 [some (.inr (.inr th)), some (.inl a0), some (.inl a1), some (.inl a2), some (.inl w4_181), z5_x181, z6_x181, z7_x181] [] (0, 0) Ix_181 J Rf G := by
    intro w4_181 Ix_181 z5_x181 z6_x181 z7_x181 hq
    have h : m_284_x6_181 w4_181 Ix_181 = some (r, I1) := hc6_181 (w4_181, Ix_181) hq.symm
    unfold m_284_x6_181 at h
    refine go_iload (pc' := 183) rfl rfl rfl ?_
    obtain ⟨g0, h⟩ := o_gE h
    cases h
    exact go_iret rfl (o_bzE g0) ⟨rfl, rfl, rfl, rfl, rfl⟩
  have lo6 : ∀ n s, lp (fun s => m_284_b6 th a0 a1 a2 Rf G s.1 s.2.1 s.2.2) n s = some q6 → (fun s => ∀ (z6_6 : Option ai_V) (z7_6 : Option ai_V), ai_Go si_t (11, false, 3, cd_284) (ai_Cl si_t si_ms e) (sp_Q (some (.inl r)) I1 J Rf G) 6 [some (.inr (.inr th)), some (.inl a0), some (.inl a1), some (.inl a2), some (.inl s.1), some (.inl s.2.1), z6_6, z7_6] [] (0, 0) s.2.2 J Rf G) s := lp_go (fun s x6 hx hk6 => by
    obtain ⟨v4_6, v5_6, I_6⟩ := s
    intro z6_6 z7_6
    have h : m_284_b6 th a0 a1 a2 Rf G v4_6 v5_6 I_6 = some x6 := hx
    clear hx
    show ai_Go si_t (11, false, 3, cd_284) (ai_Cl si_t si_ms e) (sp_Q (some (.inl r)) I1 J Rf G) 6 [some (.inr (.inr th)), some (.inl a0), some (.inl a1), some (.inl a2), some (.inl v4_6), some (.inl v5_6), z6_6, z7_6] [] (0, 0) I_6 J Rf G
    unfold m_284_b6 at h
    refine go_iload (pc' := 8) rfl rfl rfl ?_
    refine go_aload_n (pc' := 9) rfl rfl rfl ?_
    refine go_iload_n (pc' := 10) rfl rfl rfl ?_
    obtain ⟨r_10, q_10, h⟩ := o_b1E h
    refine go_callV (pc' := 13) (B' := (0, 0)) (st' := [.inl r_10, .inl v5_6]) rfl rfl (Or.inl (by decide)) rfl rfl hth (md_195 (by omega) hth q_10) rfl rfl rfl ?_
    refine go_icmp_ge (pt := 181) (pc' := 16) rfl rfl rfl (fun h13 => ?_) (fun h13 => ?_)
    · replace h := o_t h13 h
      exact ex6_181 _ _ (some (.inl v5_6)) z6_6 z7_6 (lp_exitE h hk6)
    · replace h := o_f h13 h
      refine go_iconst (pc' := 17) (v := (nI 0)) rfl rfl rfl ?_
      refine go_istore (pc' := 19) (lo' := [some (.inr (.inr th)), some (.inl a0), some (.inl a1), some (.inl a2), some (.inl v4_6), some (.inl v5_6), some (.inl (nI 0)), z7_6]) rfl rfl rfl ?_
      obtain ⟨q19, hl19, hc19_175⟩ := o_s1E h
      have ex19_175 : ∀ (w4_175 : Int32) (Ix_175 : ai_I) (z6_x175 : Option ai_V) (z7_x175 : Option ai_V), (w4_175, Ix_175) = q19 → ai_Go si_t (11, false, 3, cd_284) (ai_Cl si_t si_ms e) (sp_Q (some (.inl r)) I1 J Rf G) 175 [some (.inr (.inr th)), some (.inl a0), some (.inl a1), some (.inl a2), some (.inl w4_175), some (.inl v5_6), z6_x175, z7_x175] [] (0, 0) Ix_175 J Rf G := by
        intro w4_175 Ix_175 z6_x175 z7_x175 hq
        have h : m_284_x19_175 v5_6 w4_175 Ix_175 = some x6 := hc19_175 (w4_175, Ix_175) hq.symm
        unfold m_284_x19_175 at h
        obtain ⟨x5_175, ex5_175, h⟩ := o_b1E h
        refine go_iincE (pc' := 178) rfl rfl (y := (nI 1)) rfl ex5_175 (lo' := [some (.inr (.inr th)), some (.inl a0), some (.inl a1), some (.inl a2), some (.inl w4_175), some (.inl x5_175), z6_x175, z7_x175]) rfl rfl ?_
        refine go_goto (pc' := 6) rfl rfl ?_
        exact (lp_backE h hk6 z6_x175 z7_x175 :)
      have lo19 : ∀ n s, lp (fun s => m_284_b19 th a0 a1 a2 Rf G v5_6 s.1 s.2.1 s.2.2) n s = some q19 → (fun s => ∀ (z7_19 : Option ai_V), ai_Go si_t (11, false, 3, cd_284) (ai_Cl si_t si_ms e) (sp_Q (some (.inl r)) I1 J Rf G) 19 [some (.inr (.inr th)), some (.inl a0), some (.inl a1), some (.inl a2), some (.inl s.1), some (.inl v5_6), some (.inl s.2.1), z7_19] [] (0, 0) s.2.2 J Rf G) s := lp_go (fun s x19 hx hk19 => by
        obtain ⟨v4_19, v6_19, I_19⟩ := s
        intro z7_19
        have h : m_284_b19 th a0 a1 a2 Rf G v5_6 v4_19 v6_19 I_19 = some x19 := hx
        clear hx
        show ai_Go si_t (11, false, 3, cd_284) (ai_Cl si_t si_ms e) (sp_Q (some (.inl r)) I1 J Rf G) 19 [some (.inr (.inr th)), some (.inl a0), some (.inl a1), some (.inl a2), some (.inl v4_19), some (.inl v5_6), some (.inl v6_19), z7_19] [] (0, 0) I_19 J Rf G
        unfold m_284_b19 at h
        refine go_iload (pc' := 21) rfl rfl rfl ?_
        refine go_aload_n (pc' := 22) rfl rfl rfl ?_
        refine go_iload_n (pc' := 23) rfl rfl rfl ?_
        obtain ⟨r_23, q_23, h⟩ := o_b1E h
        refine go_callV (pc' := 26) (B' := (0, 0)) (st' := [.inl r_23, .inl v6_19]) rfl rfl (Or.inl (by decide)) rfl rfl hth (md_195 (by omega) hth q_23) rfl rfl rfl ?_
        refine go_icmp_ge (pt := 175) (pc' := 29) rfl rfl rfl (fun h26 => ?_) (fun h26 => ?_)
        · replace h := o_t h26 h
          exact ex19_175 _ _ (some (.inl v6_19)) z7_19 (lp_exitE h hk19)
        · replace h := o_f h26 h
          refine go_iload_n (pc' := 30) rfl rfl rfl ?_
          refine go_iload (pc' := 32) rfl rfl rfl ?_
          obtain ⟨r_32, q_32, h⟩ := o_b1E h
          refine go_callS (pc' := 35) (B' := (0, 0)) (st' := [.inl r_32]) rfl rfl (Or.inl (by decide)) rfl rfl trivial (md_192 (by omega) q_32) rfl rfl rfl ?_
          refine go_if_eq (pt := 169) (pc' := 38) rfl rfl rfl (fun h35 => ?_) (fun h35 => ?_)
          · replace h := o_t h35 h
            obtain ⟨x6_169, ex6_169, h⟩ := o_b1E h
            refine go_iincE (pc' := 172) rfl rfl (y := (nI 1)) rfl ex6_169 (lo' := [some (.inr (.inr th)), some (.inl a0), some (.inl a1), some (.inl a2), some (.inl v4_19), some (.inl v5_6), some (.inl x6_169), z7_19]) rfl rfl ?_
            refine go_goto (pc' := 19) rfl rfl ?_
            exact (lp_backE h hk19 z7_19 :)
          · replace h := o_f h35 h
            refine go_iload_n (pc' := 39) rfl rfl rfl ?_
            refine go_iload (pc' := 41) rfl rfl rfl ?_
            obtain ⟨r_41, q_41, h⟩ := o_b1E h
            refine go_callS (pc' := 44) (B' := (0, 0)) (st' := [.inl r_41]) rfl rfl (Or.inl (by decide)) rfl rfl trivial (md_192 (by omega) q_41) rfl rfl rfl ?_
            refine go_if_eq (pt := 50) (pc' := 47) rfl rfl rfl (fun h44 => ?_) (fun h44 => ?_)
            · replace h := o_t h44 h
              refine go_iload_n (pc' := 51) rfl rfl rfl ?_
              refine go_iconst (pc' := 52) (v := (nI 1)) rfl rfl rfl ?_
              refine go_iload (pc' := 54) rfl rfl rfl ?_
              refine go_ishl (pc' := 55) rfl rfl ?_
              refine go_ixor (pc' := 56) rfl rfl ?_
              refine go_iconst (pc' := 57) (v := (nI 1)) rfl rfl rfl ?_
              refine go_iload (pc' := 59) rfl rfl rfl ?_
              refine go_ishl (pc' := 60) rfl rfl ?_
              refine go_ixor (pc' := 61) rfl rfl ?_
              obtain ⟨x7_61, ex7_61, h⟩ := o_b1E h
              refine go_ndI ex7_61 ?_
              refine go_istore (pc' := 63) (lo' := [some (.inr (.inr th)), some (.inl a0), some (.inl a1), some (.inl a2), some (.inl v4_19), some (.inl v5_6), some (.inl v6_19), some (.inl x7_61)]) rfl rfl rfl ?_
              refine go_aload_n (pc' := 64) rfl rfl rfl ?_
              refine go_iload_n (pc' := 65) rfl rfl rfl ?_
              refine go_iload (pc' := 67) rfl rfl rfl ?_
              obtain ⟨r_67, q_67, h⟩ := o_b1E h
              refine go_callV (pc' := 70) (B' := (0, 0)) (st' := [.inl r_67]) rfl rfl (Or.inl (by decide)) rfl rfl hth (md_199 (by omega) hth q_67) rfl rfl rfl ?_
              have jn116 : ∀ (y4_116 : Int32) (I_116 : ai_I), m_284_j116 th a1 a2 Rf G v5_6 v6_19 x7_61 y4_116 I_116 = some x19 → ai_Go si_t (11, false, 3, cd_284) (ai_Cl si_t si_ms e) (sp_Q (some (.inl r)) I1 J Rf G) 116 [some (.inr (.inr th)), some (.inl a0), some (.inl a1), some (.inl a2), some (.inl y4_116), some (.inl v5_6), some (.inl v6_19), some (.inl x7_61)] [] (0, 0) I_116 J Rf G := by
                intro y4_116 I_116 h
                unfold m_284_j116 at h
                refine go_aload_n (pc' := 117) rfl rfl rfl ?_
                refine go_iload_n (pc' := 118) rfl rfl rfl ?_
                refine go_iload (pc' := 120) rfl rfl rfl ?_
                obtain ⟨r_120, q_120, h⟩ := o_b1E h
                refine go_callV (pc' := 123) (B' := (0, 0)) (st' := [.inl r_120]) rfl rfl (Or.inl (by decide)) rfl rfl hth (md_199 (by omega) hth q_120) rfl rfl rfl ?_
                refine go_if_eq (pt := 169) (pc' := 126) rfl rfl rfl (fun h123 => ?_) (fun h123 => ?_)
                · replace h := o_t h123 h
                  obtain ⟨x6_169, ex6_169, h⟩ := o_b1E h
                  refine go_iincE (pc' := 172) rfl rfl (y := (nI 1)) rfl ex6_169 (lo' := [some (.inr (.inr th)), some (.inl a0), some (.inl a1), some (.inl a2), some (.inl y4_116), some (.inl v5_6), some (.inl x6_169), some (.inl x7_61)]) rfl rfl ?_
                  refine go_goto (pc' := 19) rfl rfl ?_
                  exact (lp_backE h hk19 (some (.inl x7_61)) :)
                · replace h := o_f h123 h
                  refine go_aload_n (pc' := 127) rfl rfl rfl ?_
                  refine go_iload (pc' := 129) rfl rfl rfl ?_
                  refine go_aload_n (pc' := 130) rfl rfl rfl ?_
                  refine go_getR (pc' := 133) rfl rfl hth rfl ?_
                  refine go_iload (pc' := 135) rfl rfl rfl ?_
                  obtain ⟨g1, h⟩ := o_gE h
                  refine go_iaload (pc' := 136) rfl (o_inK g1) (o_inB g1) rfl ?_
                  refine go_aload_n (pc' := 137) rfl rfl rfl ?_
                  refine go_iload_n (pc' := 138) rfl rfl rfl ?_
                  refine go_iload_n (pc' := 139) rfl rfl rfl ?_
                  obtain ⟨r_139, q_139, h⟩ := o_b1E h
                  refine go_callV (pc' := 142) (B' := (0, 0)) (st' := [.inl r_139, .inl (I_116 (Rf th 24) v6_19.toNatClampNeg), .inl v5_6, .inr (.inr th)]) rfl rfl (Or.inl (by decide)) rfl rfl hth (md_198 (by omega) hth q_139) rfl rfl rfl ?_
                  refine go_iadd (pc' := 143) rfl rfl ?_
                  refine go_aload_n (pc' := 144) rfl rfl rfl ?_
                  refine go_iload_n (pc' := 145) rfl rfl rfl ?_
                  refine go_iload (pc' := 147) rfl rfl rfl ?_
                  obtain ⟨r_147, q_147, h⟩ := o_b1E h
                  refine go_callV (pc' := 150) (B' := (0, 0)) (st' := [.inl r_147, .inl ((I_116 (Rf th 24) v6_19.toNatClampNeg) + r_139), .inl v5_6, .inr (.inr th)]) rfl rfl (Or.inl (by decide)) rfl rfl hth (md_198 (by omega) hth q_147) rfl rfl rfl ?_
                  refine go_isub (pc' := 151) rfl rfl ?_
                  obtain ⟨r_151, I_151, q_151, h⟩ := o_b2E h
                  refine go_callV (pc' := 154) (B' := (0, 0)) (st' := [.inl r_151]) rfl rfl (Or.inl (by decide)) rfl rfl hth (md_283 (by omega) hth q_151) rfl rfl rfl ?_
                  refine go_if_ne (pt := 162) (pc' := 157) rfl rfl rfl (fun h154 => ?_) (fun h154 => ?_)
                  · replace h := o_f h154 h
                    refine go_iconst (pc' := 163) (v := (nI 1)) rfl rfl rfl ?_
                    refine go_goto (pc' := 167) rfl rfl ?_
                    refine go_istore (pc' := 169) (lo' := [some (.inr (.inr th)), some (.inl a0), some (.inl a1), some (.inl a2), some (.inl (nI 1)), some (.inl v5_6), some (.inl v6_19), some (.inl x7_61)]) rfl rfl rfl ?_
                    obtain ⟨x6_169, ex6_169, h⟩ := o_b1E h
                    refine go_iincE (pc' := 172) rfl rfl (y := (nI 1)) rfl ex6_169 (lo' := [some (.inr (.inr th)), some (.inl a0), some (.inl a1), some (.inl a2), some (.inl (nI 1)), some (.inl v5_6), some (.inl x6_169), some (.inl x7_61)]) rfl rfl ?_
                    refine go_goto (pc' := 19) rfl rfl ?_
                    exact (lp_backE h hk19 (some (.inl x7_61)) :)
                  · replace h := o_t (Decidable.of_not_not h154) h
                    refine go_iload (pc' := 159) rfl rfl rfl ?_
                    refine go_if_eq (pt := 166) (pc' := 162) rfl rfl rfl (fun h159 => ?_) (fun h159 => ?_)
                    · replace h := o_t h159 h
                      refine go_iconst (pc' := 167) (v := (nI 0)) rfl rfl rfl ?_
                      refine go_istore (pc' := 169) (lo' := [some (.inr (.inr th)), some (.inl a0), some (.inl a1), some (.inl a2), some (.inl (nI 0)), some (.inl v5_6), some (.inl v6_19), some (.inl x7_61)]) rfl rfl rfl ?_
                      obtain ⟨x6_169, ex6_169, h⟩ := o_b1E h
                      refine go_iincE (pc' := 172) rfl rfl (y := (nI 1)) rfl ex6_169 (lo' := [some (.inr (.inr th)), some (.inl a0), some (.inl a1), some (.inl a2), some (.inl (nI 0)), some (.inl v5_6), some (.inl x6_169), some (.inl x7_61)]) rfl rfl ?_
                      refine go_goto (pc' := 19) rfl rfl ?_
                      exact (lp_backE h hk19 (some (.inl x7_61)) :)
                    · replace h := o_f h159 h
                      refine go_iconst (pc' := 163) (v := (nI 1)) rfl rfl rfl ?_
                      refine go_goto (pc' := 167) rfl rfl ?_
                      refine go_istore (pc' := 169) (lo' := [some (.inr (.inr th)), some (.inl a0), some (.inl a1), some (.inl a2), some (.inl (nI 1)), some (.inl v5_6), some (.inl v6_19), some (.inl x7_61)]) rfl rfl rfl ?_
                      obtain ⟨x6_169, ex6_169, h⟩ := o_b1E h
                      refine go_iincE (pc' := 172) rfl rfl (y := (nI 1)) rfl ex6_169 (lo' := [some (.inr (.inr th)), some (.inl a0), some (.inl a1), some (.inl a2), some (.inl (nI 1)), some (.inl v5_6), some (.inl x6_169), some (.inl x7_61)]) rfl rfl ?_
                      refine go_goto (pc' := 19) rfl rfl ?_
                      exact (lp_backE h hk19 (some (.inl x7_61)) :)
              refine go_if_eq (pt := 116) (pc' := 73) rfl rfl rfl (fun h70 => ?_) (fun h70 => ?_)
              · replace h := o_t h70 h
                exact jn116 v4_19 I_19 h
              · replace h := o_f h70 h
                refine go_aload_n (pc' := 74) rfl rfl rfl ?_
                refine go_iload (pc' := 76) rfl rfl rfl ?_
                refine go_aload_n (pc' := 77) rfl rfl rfl ?_
                refine go_getR (pc' := 80) rfl rfl hth rfl ?_
                refine go_iload (pc' := 82) rfl rfl rfl ?_
                obtain ⟨g2, h⟩ := o_gE h
                refine go_iaload (pc' := 83) rfl (o_inK g2) (o_inB g2) rfl ?_
                refine go_aload_n (pc' := 84) rfl rfl rfl ?_
                refine go_iload_n (pc' := 85) rfl rfl rfl ?_
                refine go_iload_n (pc' := 86) rfl rfl rfl ?_
                obtain ⟨r_86, q_86, h⟩ := o_b1E h
                refine go_callV (pc' := 89) (B' := (0, 0)) (st' := [.inl r_86, .inl (I_19 (Rf th 24) v5_6.toNatClampNeg), .inl v6_19, .inr (.inr th)]) rfl rfl (Or.inl (by decide)) rfl rfl hth (md_198 (by omega) hth q_86) rfl rfl rfl ?_
                refine go_iadd (pc' := 90) rfl rfl ?_
                refine go_aload_n (pc' := 91) rfl rfl rfl ?_
                refine go_iload_n (pc' := 92) rfl rfl rfl ?_
                refine go_iload (pc' := 94) rfl rfl rfl ?_
                obtain ⟨r_94, q_94, h⟩ := o_b1E h
                refine go_callV (pc' := 97) (B' := (0, 0)) (st' := [.inl r_94, .inl ((I_19 (Rf th 24) v5_6.toNatClampNeg) + r_86), .inl v6_19, .inr (.inr th)]) rfl rfl (Or.inl (by decide)) rfl rfl hth (md_198 (by omega) hth q_94) rfl rfl rfl ?_
                refine go_isub (pc' := 98) rfl rfl ?_
                obtain ⟨r_98, I_98, q_98, h⟩ := o_b2E h
                refine go_callV (pc' := 101) (B' := (0, 0)) (st' := [.inl r_98]) rfl rfl (Or.inl (by decide)) rfl rfl hth (md_283 (by omega) hth q_98) rfl rfl rfl ?_
                have jn114 : ∀ (t0_114 : Int32), m_284_j114 th a1 a2 Rf G v5_6 v6_19 x7_61 I_98 t0_114 = some x19 → ai_Go si_t (11, false, 3, cd_284) (ai_Cl si_t si_ms e) (sp_Q (some (.inl r)) I1 J Rf G) 114 [some (.inr (.inr th)), some (.inl a0), some (.inl a1), some (.inl a2), some (.inl v4_19), some (.inl v5_6), some (.inl v6_19), some (.inl x7_61)] [.inl t0_114] (0, 0) I_98 J Rf G := by
                  intro t0_114 h
                  unfold m_284_j114 at h
                  refine go_istore (pc' := 116) (lo' := [some (.inr (.inr th)), some (.inl a0), some (.inl a1), some (.inl a2), some (.inl t0_114), some (.inl v5_6), some (.inl v6_19), some (.inl x7_61)]) rfl rfl rfl ?_
                  exact jn116 t0_114 I_98 h
                have jn109 : m_284_j109 th a1 a2 Rf G v5_6 v6_19 x7_61 I_98 = some x19 → ai_Go si_t (11, false, 3, cd_284) (ai_Cl si_t si_ms e) (sp_Q (some (.inl r)) I1 J Rf G) 109 [some (.inr (.inr th)), some (.inl a0), some (.inl a1), some (.inl a2), some (.inl v4_19), some (.inl v5_6), some (.inl v6_19), some (.inl x7_61)] [] (0, 0) I_98 J Rf G := by
                  intro h
                  unfold m_284_j109 at h
                  refine go_iconst (pc' := 110) (v := (nI 1)) rfl rfl rfl ?_
                  refine go_goto (pc' := 114) rfl rfl ?_
                  exact jn114 (nI 1) h
                refine go_if_ne (pt := 109) (pc' := 104) rfl rfl rfl (fun h101 => ?_) (fun h101 => ?_)
                · replace h := o_f h101 h
                  exact jn109  h
                · replace h := o_t (Decidable.of_not_not h101) h
                  refine go_iload (pc' := 106) rfl rfl rfl ?_
                  refine go_if_eq (pt := 113) (pc' := 109) rfl rfl rfl (fun h106 => ?_) (fun h106 => ?_)
                  · replace h := o_t h106 h
                    refine go_iconst (pc' := 114) (v := (nI 0)) rfl rfl rfl ?_
                    exact jn114 (nI 0) h
                  · replace h := o_f h106 h
                    exact jn109  h
            · replace h := o_f h44 h
              refine go_goto (pc' := 169) rfl rfl ?_
              obtain ⟨x6_169, ex6_169, h⟩ := o_b1E h
              refine go_iincE (pc' := 172) rfl rfl (y := (nI 1)) rfl ex6_169 (lo' := [some (.inr (.inr th)), some (.inl a0), some (.inl a1), some (.inl a2), some (.inl v4_19), some (.inl v5_6), some (.inl x6_169), z7_19]) rfl rfl ?_
              refine go_goto (pc' := 19) rfl rfl ?_
              exact (lp_backE h hk19 z7_19 :))
      exact lo19 _ (v4_6, (nI 0), I_6) hl19 z7_6)
  exact lo6 _ ((nI 0), (nI 0), I) hl6 none none
def m_285_x43_70 (w4_70 : Int32) (Ix_70 : ai_I) : Option (Int32 × ai_I) :=
  if w4_70 = 0 then (some ((nI 1), Ix_70)) else (some ((nI 0), Ix_70))
def m_285_b43 (th : Nat) (a0 : Int32) (a1 : Int32) (Rf : ai_R) (G : ai_G) (r_3 : Int32) (v4_43 : Int32) (v5_43 : Int32) (I_43 : ai_I) : Option ((Int32 × Int32 × ai_I) ⊕ (Int32 × ai_I)) :=
  if (nI 8) < v5_43 then (some (Sum.inr (v4_43, I_43))) else (if v4_43 = 0 then (some (Sum.inr (v4_43, I_43))) else (o_b2 (m_284 th a0 a1 r_3 I_43 Rf G) (fun r_59 I_59 => o_b1 (some (v5_43 + (nI 1))) (fun x5_64 => some (Sum.inl (r_59, x5_64, I_59))))))
def m_285_x16_37 (th : Nat) (a0 : Int32) (a1 : Int32) (Rf : ai_R) (G : ai_G) (r_3 : Int32) (Ix_37 : ai_I) : Option (Int32 × ai_I) :=
  o_s1 (lp (fun s => m_285_b43 th a0 a1 Rf G r_3 s.1 s.2.1 s.2.2) o_N ((nI 1), (nI 0), Ix_37)) (fun t => m_285_x43_70 t.1 t.2)
def m_285_b16 (th : Nat) (Rf : ai_R) (G : ai_G) (v4_16 : Int32) (I_16 : ai_I) : Option ((Int32 × ai_I) ⊕ ai_I) :=
  if (nI 8) ≤ v4_16 then (some (Sum.inr I_16)) else (o_g (o_in G 13 (Rf th 24) v4_16) (o_b1 (some (va_up I_16 (Rf th 24) (va_up (I_16 (Rf th 24)) v4_16.toNatClampNeg (nI 0)))) (fun I_30 => o_b1 (some (v4_16 + (nI 1))) (fun x4_31 => some (Sum.inl (x4_31, I_30))))))
/-- PricedBasesModel.findsPotentials(II)Z -/
def m_285 (th : Nat) (a0 : Int32) (a1 : Int32) (I : ai_I) (Rf : ai_R) (G : ai_G) : Option (Int32 × ai_I) :=
  o_b1 (m_282 th a0 a1 I Rf G) (fun r_3 => if 0 ≤ r_3 then (o_s1 (lp (fun s => m_285_b16 th Rf G s.1 s.2) o_N ((nI 0), I)) (fun t => m_285_x16_37 th a0 a1 Rf G r_3 t)) else (some ((nI 0), I)))
theorem md_285 {d : Nat} {I : ai_I} {J : ai_J} {Rf : ai_R} {G : ai_G} {th : Nat} {a0 : Int32} {a1 : Int32} {r : Int32} {I1 : ai_I} (hd : 5 ≤ d) (hth : G.1 th = 11) (h : m_285 th a0 a1 I Rf G = some (r, I1)) : ai_Cl si_t si_ms d 285 [.inr (.inr th), .inl a0, .inl a1] I J Rf G (some (.inl r)) I1 J Rf G := by
  obtain ⟨e, rfl⟩ : ∃ e, d = e + 1 := ⟨d - 1, by omega⟩
  unfold m_285 at h
  refine sp_in (lo := [some (.inr (.inr th)), some (.inl a0), some (.inl a1), none, none, none]) (B := (0, 0)) rfl (Nat.le_of_ble_eq_true rfl) rfl rfl ?_
  refine go_aload_n (pc' := 1) rfl rfl rfl ?_
  refine go_iload_n (pc' := 2) rfl rfl rfl ?_
  refine go_iload_n (pc' := 3) rfl rfl rfl ?_
  obtain ⟨r_3, q_3, h⟩ := o_b1E h
  refine go_callV (pc' := 6) (B' := (0, 0)) (st' := [.inl r_3]) rfl rfl (Or.inl (by decide)) rfl rfl hth (md_282 (by omega) hth q_3) rfl rfl rfl ?_
  refine go_istore_n (pc' := 7) (lo' := [some (.inr (.inr th)), some (.inl a0), some (.inl a1), some (.inl r_3), none, none]) rfl rfl rfl ?_
  refine go_iload_n (pc' := 8) rfl rfl rfl ?_
  refine go_if_ge (pt := 13) (pc' := 11) rfl rfl rfl (fun h8 => ?_) (fun h8 => ?_)
  · replace h := o_t h8 h
    refine go_iconst (pc' := 14) (v := (nI 0)) rfl rfl rfl ?_
    refine go_istore (pc' := 16) (lo' := [some (.inr (.inr th)), some (.inl a0), some (.inl a1), some (.inl r_3), some (.inl (nI 0)), none]) rfl rfl rfl ?_
    obtain ⟨q16, hl16, hc16_37⟩ := o_s1E h
    have ex16_37 : ∀ (Ix_37 : ai_I) (z4_x37 : Option ai_V), Ix_37 = q16 → ai_Go si_t (11, false, 3, cd_285) (ai_Cl si_t si_ms e) (sp_Q (some (.inl r)) I1 J Rf G) 37 [some (.inr (.inr th)), some (.inl a0), some (.inl a1), some (.inl r_3), z4_x37, none] [] (0, 0) Ix_37 J Rf G := by
      intro Ix_37 z4_x37 hq
      have h : m_285_x16_37 th a0 a1 Rf G r_3 Ix_37 = some (r, I1) := hc16_37 Ix_37 hq.symm
      unfold m_285_x16_37 at h
      refine go_iconst (pc' := 38) (v := (nI 1)) rfl rfl rfl ?_
      refine go_istore (pc' := 40) (lo' := [some (.inr (.inr th)), some (.inl a0), some (.inl a1), some (.inl r_3), some (.inl (nI 1)), none]) rfl rfl rfl ?_
      refine go_iconst (pc' := 41) (v := (nI 0)) rfl rfl rfl ?_
      refine go_istore (pc' := 43) (lo' := [some (.inr (.inr th)), some (.inl a0), some (.inl a1), some (.inl r_3), some (.inl (nI 1)), some (.inl (nI 0))]) rfl rfl rfl ?_
      obtain ⟨q43, hl43, hc43_70⟩ := o_s1E h
      have ex43_70 : ∀ (w4_70 : Int32) (Ix_70 : ai_I) (z5_x70 : Option ai_V), (w4_70, Ix_70) = q43 → ai_Go si_t (11, false, 3, cd_285) (ai_Cl si_t si_ms e) (sp_Q (some (.inl r)) I1 J Rf G) 70 [some (.inr (.inr th)), some (.inl a0), some (.inl a1), some (.inl r_3), some (.inl w4_70), z5_x70] [] (0, 0) Ix_70 J Rf G := by
        intro w4_70 Ix_70 z5_x70 hq
        have h : m_285_x43_70 w4_70 Ix_70 = some (r, I1) := hc43_70 (w4_70, Ix_70) hq.symm
        unfold m_285_x43_70 at h
        refine go_iload (pc' := 72) rfl rfl rfl ?_
        refine go_if_ne (pt := 79) (pc' := 75) rfl rfl rfl (fun h72 => ?_) (fun h72 => ?_)
        · replace h := o_f h72 h
          refine go_iconst (pc' := 80) (v := (nI 0)) rfl rfl rfl ?_
          cases h
          exact go_iret rfl (rfl) ⟨rfl, rfl, rfl, rfl, rfl⟩
        · replace h := o_t (Decidable.of_not_not h72) h
          refine go_iconst (pc' := 76) (v := (nI 1)) rfl rfl rfl ?_
          refine go_goto (pc' := 80) rfl rfl ?_
          cases h
          exact go_iret rfl (rfl) ⟨rfl, rfl, rfl, rfl, rfl⟩
      have lo43 : ∀ n s, lp (fun s => m_285_b43 th a0 a1 Rf G r_3 s.1 s.2.1 s.2.2) n s = some q43 → (fun s => ai_Go si_t (11, false, 3, cd_285) (ai_Cl si_t si_ms e) (sp_Q (some (.inl r)) I1 J Rf G) 43 [some (.inr (.inr th)), some (.inl a0), some (.inl a1), some (.inl r_3), some (.inl s.1), some (.inl s.2.1)] [] (0, 0) s.2.2 J Rf G) s := lp_go (fun s x43 hx hk43 => by
        obtain ⟨v4_43, v5_43, I_43⟩ := s
        have h : m_285_b43 th a0 a1 Rf G r_3 v4_43 v5_43 I_43 = some x43 := hx
        clear hx
        show ai_Go si_t (11, false, 3, cd_285) (ai_Cl si_t si_ms e) (sp_Q (some (.inl r)) I1 J Rf G) 43 [some (.inr (.inr th)), some (.inl a0), some (.inl a1), some (.inl r_3), some (.inl v4_43), some (.inl v5_43)] [] (0, 0) I_43 J Rf G
        unfold m_285_b43 at h
        refine go_iload (pc' := 45) rfl rfl rfl ?_
        refine go_bipush (pc' := 47) (v := (nI 8)) rfl rfl rfl ?_
        refine go_icmp_gt (pt := 70) (pc' := 50) rfl rfl rfl (fun h47 => ?_) (fun h47 => ?_)
        · replace h := o_t h47 h
          exact ex43_70 _ _ (some (.inl v5_43)) (lp_exitE h hk43)
        · replace h := o_f h47 h
          refine go_iload (pc' := 52) rfl rfl rfl ?_
          refine go_if_eq (pt := 70) (pc' := 55) rfl rfl rfl (fun h52 => ?_) (fun h52 => ?_)
          · replace h := o_t h52 h
            exact ex43_70 _ _ (some (.inl v5_43)) (lp_exitE h hk43)
          · replace h := o_f h52 h
            refine go_aload_n (pc' := 56) rfl rfl rfl ?_
            refine go_iload_n (pc' := 57) rfl rfl rfl ?_
            refine go_iload_n (pc' := 58) rfl rfl rfl ?_
            refine go_iload_n (pc' := 59) rfl rfl rfl ?_
            obtain ⟨r_59, I_59, q_59, h⟩ := o_b2E h
            refine go_callV (pc' := 62) (B' := (0, 0)) (st' := [.inl r_59]) rfl rfl (Or.inl (by decide)) rfl rfl hth (md_284 (by omega) hth q_59) rfl rfl rfl ?_
            refine go_istore (pc' := 64) (lo' := [some (.inr (.inr th)), some (.inl a0), some (.inl a1), some (.inl r_3), some (.inl r_59), some (.inl v5_43)]) rfl rfl rfl ?_
            obtain ⟨x5_64, ex5_64, h⟩ := o_b1E h
            refine go_iincE (pc' := 67) rfl rfl (y := (nI 1)) rfl ex5_64 (lo' := [some (.inr (.inr th)), some (.inl a0), some (.inl a1), some (.inl r_3), some (.inl r_59), some (.inl x5_64)]) rfl rfl ?_
            refine go_goto (pc' := 43) rfl rfl ?_
            exact (lp_backE h hk43 :))
      exact lo43 _ ((nI 1), (nI 0), Ix_37) hl43 
    have lo16 : ∀ n s, lp (fun s => m_285_b16 th Rf G s.1 s.2) n s = some q16 → (fun s => ai_Go si_t (11, false, 3, cd_285) (ai_Cl si_t si_ms e) (sp_Q (some (.inl r)) I1 J Rf G) 16 [some (.inr (.inr th)), some (.inl a0), some (.inl a1), some (.inl r_3), some (.inl s.1), none] [] (0, 0) s.2 J Rf G) s := lp_go (fun s x16 hx hk16 => by
      obtain ⟨v4_16, I_16⟩ := s
      have h : m_285_b16 th Rf G v4_16 I_16 = some x16 := hx
      clear hx
      show ai_Go si_t (11, false, 3, cd_285) (ai_Cl si_t si_ms e) (sp_Q (some (.inl r)) I1 J Rf G) 16 [some (.inr (.inr th)), some (.inl a0), some (.inl a1), some (.inl r_3), some (.inl v4_16), none] [] (0, 0) I_16 J Rf G
      unfold m_285_b16 at h
      refine go_iload (pc' := 18) rfl rfl rfl ?_
      refine go_bipush (pc' := 20) (v := (nI 8)) rfl rfl rfl ?_
      refine go_icmp_ge (pt := 37) (pc' := 23) rfl rfl rfl (fun h20 => ?_) (fun h20 => ?_)
      · replace h := o_t h20 h
        exact ex16_37 _ (some (.inl v4_16)) (lp_exitE h hk16)
      · replace h := o_f h20 h
        refine go_aload_n (pc' := 24) rfl rfl rfl ?_
        refine go_getR (pc' := 27) rfl rfl hth rfl ?_
        refine go_iload (pc' := 29) rfl rfl rfl ?_
        refine go_iconst (pc' := 30) (v := (nI 0)) rfl rfl rfl ?_
        obtain ⟨g0, h⟩ := o_gE h
        obtain ⟨I_30, eI_30, h⟩ := o_b1E h
        refine go_iastore (pc' := 31) rfl (o_inK g0) (o_inB g0) rfl ?_
        refine go_ndMI eI_30 ?_
        obtain ⟨x4_31, ex4_31, h⟩ := o_b1E h
        refine go_iincE (pc' := 34) rfl rfl (y := (nI 1)) rfl ex4_31 (lo' := [some (.inr (.inr th)), some (.inl a0), some (.inl a1), some (.inl r_3), some (.inl x4_31), none]) rfl rfl ?_
        refine go_goto (pc' := 16) rfl rfl ?_
        exact (lp_backE h hk16 :))
    exact lo16 _ ((nI 0), I) hl16 
  · replace h := o_f h8 h
    refine go_iconst (pc' := 12) (v := (nI 0)) rfl rfl rfl ?_
    cases h
    exact go_iret rfl (rfl) ⟨rfl, rfl, rfl, rfl, rfl⟩
def m_286_x97_128 (I : ai_I) (w5_128 : Int32) : Option (Int32 × ai_I) :=
  some (w5_128, I)
def m_286_b97 (th : Nat) (a0 : Int32) (a1 : Int32) (I : ai_I) (Rf : ai_R) (G : ai_G) (v5_97 : Int32) (v6_97 : Int32) : Option ((Int32 × Int32) ⊕ Int32) :=
  if (nI 256) ≤ v6_97 then (some (Sum.inr v5_97)) else (o_b1 (m_281 th a0 a1 v6_97 I Rf G) (fun r_110 => if r_110 = 0 then (o_b1 (some (v6_97 + (nI 1))) (fun x6_122 => some (Sum.inl (v5_97, x6_122)))) else (o_b1 (some (v5_97 + (nI 1))) (fun x5_120 => o_b1 (some (v6_97 + (nI 1))) (fun x6_122 => some (Sum.inl (x5_120, x6_122)))))))
/-- PricedBasesModel.both(III)I -/
def m_286 (th : Nat) (a0 : Int32) (a1 : Int32) (a2 : Int32) (I : ai_I) (Rf : ai_R) (G : ai_G) : Option (Int32 × ai_I) :=
  o_b1 (m_203 th a0 a1 I Rf G) (fun r_3 => if r_3 = 0 then (some ((-2147483648 : Int32), I)) else (o_b1 (m_189 a2.toInt64 (0 : Int64) (3 : Int64)) (fun r_15 => if r_15 = 0 then (some ((-2147483648 : Int32), I)) else (o_b1 (m_282 th a0 a1 I Rf G) (fun r_27 => if a2 = (nI 1) then (some (r_27, I)) else (if a2 = (nI 2) then (if 0 ≤ r_27 then (o_b1 (m_198 th a0 r_27 I Rf G) (fun r_59 => o_b1 (m_198 th a1 r_27 I Rf G) (fun r_66 => some (r_59 + r_66, I)))) else (some ((-2147483648 : Int32), I))) else (if a2 = (nI 3) then (o_b2 (m_285 th a0 a1 I Rf G) (fun r_79 I_79 => if r_79 = 0 then (some ((nI 0), I_79)) else (some ((nI 1), I_79)))) else (o_s1 (lp (fun s => m_286_b97 th a0 a1 I Rf G s.1 s.2) o_N ((nI 0), (nI 0))) (fun t => m_286_x97_128 I t)))))))))
theorem md_286 {d : Nat} {I : ai_I} {J : ai_J} {Rf : ai_R} {G : ai_G} {th : Nat} {a0 : Int32} {a1 : Int32} {a2 : Int32} {r : Int32} {I1 : ai_I} (hd : 6 ≤ d) (hth : G.1 th = 11) (h : m_286 th a0 a1 a2 I Rf G = some (r, I1)) : ai_Cl si_t si_ms d 286 [.inr (.inr th), .inl a0, .inl a1, .inl a2] I J Rf G (some (.inl r)) I1 J Rf G := by
  obtain ⟨e, rfl⟩ : ∃ e, d = e + 1 := ⟨d - 1, by omega⟩
  unfold m_286 at h
  refine sp_in (lo := [some (.inr (.inr th)), some (.inl a0), some (.inl a1), some (.inl a2), none, none, none]) (B := (0, 0)) rfl (Nat.le_of_ble_eq_true rfl) rfl rfl ?_
  refine go_aload_n (pc' := 1) rfl rfl rfl ?_
  refine go_iload_n (pc' := 2) rfl rfl rfl ?_
  refine go_iload_n (pc' := 3) rfl rfl rfl ?_
  obtain ⟨r_3, q_3, h⟩ := o_b1E h
  refine go_callV (pc' := 6) (B' := (0, 0)) (st' := [.inl r_3]) rfl rfl (Or.inl (by decide)) rfl rfl hth (md_203 (by omega) hth q_3) rfl rfl rfl ?_
  refine go_if_eq (pt := 21) (pc' := 9) rfl rfl rfl (fun h6 => ?_) (fun h6 => ?_)
  · replace h := o_t h6 h
    refine go_ldc (pc' := 23) (v := .inl (-2147483648 : Int32)) rfl rfl rfl ?_
    cases h
    exact go_iret rfl (trivial) ⟨rfl, rfl, rfl, rfl, rfl⟩
  · replace h := o_f h6 h
    refine go_iload_n (pc' := 10) rfl rfl rfl ?_
    refine go_i2l (pc' := 11) rfl rfl ?_
    refine go_lconst (pc' := 12) (v := (0 : Int64)) rfl rfl rfl ?_
    refine go_ldc2_w (pc' := 15) (v := .inr (.inl (3 : Int64))) rfl rfl rfl ?_
    obtain ⟨r_15, q_15, h⟩ := o_b1E h
    refine go_callS (pc' := 18) (B' := (0, 0)) (st' := [.inl r_15]) rfl rfl (Or.inl (by decide)) rfl rfl trivial (md_189 (by omega) q_15) rfl rfl rfl ?_
    refine go_if_ne (pt := 24) (pc' := 21) rfl rfl rfl (fun h18 => ?_) (fun h18 => ?_)
    · replace h := o_f h18 h
      refine go_aload_n (pc' := 25) rfl rfl rfl ?_
      refine go_iload_n (pc' := 26) rfl rfl rfl ?_
      refine go_iload_n (pc' := 27) rfl rfl rfl ?_
      obtain ⟨r_27, q_27, h⟩ := o_b1E h
      refine go_callV (pc' := 30) (B' := (0, 0)) (st' := [.inl r_27]) rfl rfl (Or.inl (by decide)) rfl rfl hth (md_282 (by omega) hth q_27) rfl rfl rfl ?_
      refine go_istore (pc' := 32) (lo' := [some (.inr (.inr th)), some (.inl a0), some (.inl a1), some (.inl a2), some (.inl r_27), none, none]) rfl rfl rfl ?_
      refine go_iload_n (pc' := 33) rfl rfl rfl ?_
      refine go_iconst (pc' := 34) (v := (nI 1)) rfl rfl rfl ?_
      refine go_icmp_ne (pt := 40) (pc' := 37) rfl rfl rfl (fun h34 => ?_) (fun h34 => ?_)
      · replace h := o_f h34 h
        refine go_iload_n (pc' := 41) rfl rfl rfl ?_
        refine go_iconst (pc' := 42) (v := (nI 2)) rfl rfl rfl ?_
        refine go_icmp_ne (pt := 71) (pc' := 45) rfl rfl rfl (fun h42 => ?_) (fun h42 => ?_)
        · replace h := o_f h42 h
          refine go_iload_n (pc' := 72) rfl rfl rfl ?_
          refine go_iconst (pc' := 73) (v := (nI 3)) rfl rfl rfl ?_
          refine go_icmp_ne (pt := 91) (pc' := 76) rfl rfl rfl (fun h73 => ?_) (fun h73 => ?_)
          · replace h := o_f h73 h
            refine go_iconst (pc' := 92) (v := (nI 0)) rfl rfl rfl ?_
            refine go_istore (pc' := 94) (lo' := [some (.inr (.inr th)), some (.inl a0), some (.inl a1), some (.inl a2), some (.inl r_27), some (.inl (nI 0)), none]) rfl rfl rfl ?_
            refine go_iconst (pc' := 95) (v := (nI 0)) rfl rfl rfl ?_
            refine go_istore (pc' := 97) (lo' := [some (.inr (.inr th)), some (.inl a0), some (.inl a1), some (.inl a2), some (.inl r_27), some (.inl (nI 0)), some (.inl (nI 0))]) rfl rfl rfl ?_
            obtain ⟨q97, hl97, hc97_128⟩ := o_s1E h
            have ex97_128 : ∀ (w5_128 : Int32) (z6_x128 : Option ai_V), w5_128 = q97 → ai_Go si_t (11, false, 0, cd_286) (ai_Cl si_t si_ms e) (sp_Q (some (.inl r)) I1 J Rf G) 128 [some (.inr (.inr th)), some (.inl a0), some (.inl a1), some (.inl a2), some (.inl r_27), some (.inl w5_128), z6_x128] [] (0, 0) I J Rf G := by
              intro w5_128 z6_x128 hq
              have h : m_286_x97_128 I w5_128 = some (r, I1) := hc97_128 w5_128 hq.symm
              unfold m_286_x97_128 at h
              refine go_iload (pc' := 130) rfl rfl rfl ?_
              cases h
              exact go_iret rfl (trivial) ⟨rfl, rfl, rfl, rfl, rfl⟩
            have lo97 : ∀ n s, lp (fun s => m_286_b97 th a0 a1 I Rf G s.1 s.2) n s = some q97 → (fun s => ai_Go si_t (11, false, 0, cd_286) (ai_Cl si_t si_ms e) (sp_Q (some (.inl r)) I1 J Rf G) 97 [some (.inr (.inr th)), some (.inl a0), some (.inl a1), some (.inl a2), some (.inl r_27), some (.inl s.1), some (.inl s.2)] [] (0, 0) I J Rf G) s := lp_go (fun s x97 hx hk97 => by
              obtain ⟨v5_97, v6_97⟩ := s
              have h : m_286_b97 th a0 a1 I Rf G v5_97 v6_97 = some x97 := hx
              clear hx
              show ai_Go si_t (11, false, 0, cd_286) (ai_Cl si_t si_ms e) (sp_Q (some (.inl r)) I1 J Rf G) 97 [some (.inr (.inr th)), some (.inl a0), some (.inl a1), some (.inl a2), some (.inl r_27), some (.inl v5_97), some (.inl v6_97)] [] (0, 0) I J Rf G
              unfold m_286_b97 at h
              refine go_iload (pc' := 99) rfl rfl rfl ?_
              refine go_sipush (pc' := 102) (v := (nI 256)) rfl rfl rfl ?_
              refine go_icmp_ge (pt := 128) (pc' := 105) rfl rfl rfl (fun h102 => ?_) (fun h102 => ?_)
              · replace h := o_t h102 h
                exact ex97_128 _ (some (.inl v6_97)) (lp_exitE h hk97)
              · replace h := o_f h102 h
                refine go_aload_n (pc' := 106) rfl rfl rfl ?_
                refine go_iload_n (pc' := 107) rfl rfl rfl ?_
                refine go_iload_n (pc' := 108) rfl rfl rfl ?_
                refine go_iload (pc' := 110) rfl rfl rfl ?_
                obtain ⟨r_110, q_110, h⟩ := o_b1E h
                refine go_callV (pc' := 113) (B' := (0, 0)) (st' := [.inl r_110]) rfl rfl (Or.inl (by decide)) rfl rfl hth (md_281 (by omega) hth q_110) rfl rfl rfl ?_
                refine go_if_eq (pt := 122) (pc' := 116) rfl rfl rfl (fun h113 => ?_) (fun h113 => ?_)
                · replace h := o_t h113 h
                  obtain ⟨x6_122, ex6_122, h⟩ := o_b1E h
                  refine go_iincE (pc' := 125) rfl rfl (y := (nI 1)) rfl ex6_122 (lo' := [some (.inr (.inr th)), some (.inl a0), some (.inl a1), some (.inl a2), some (.inl r_27), some (.inl v5_97), some (.inl x6_122)]) rfl rfl ?_
                  refine go_goto (pc' := 97) rfl rfl ?_
                  exact (lp_backE h hk97 :)
                · replace h := o_f h113 h
                  refine go_iload (pc' := 118) rfl rfl rfl ?_
                  refine go_iconst (pc' := 119) (v := (nI 1)) rfl rfl rfl ?_
                  refine go_iadd (pc' := 120) rfl rfl ?_
                  obtain ⟨x5_120, ex5_120, h⟩ := o_b1E h
                  refine go_ndI ex5_120 ?_
                  refine go_istore (pc' := 122) (lo' := [some (.inr (.inr th)), some (.inl a0), some (.inl a1), some (.inl a2), some (.inl r_27), some (.inl x5_120), some (.inl v6_97)]) rfl rfl rfl ?_
                  obtain ⟨x6_122, ex6_122, h⟩ := o_b1E h
                  refine go_iincE (pc' := 125) rfl rfl (y := (nI 1)) rfl ex6_122 (lo' := [some (.inr (.inr th)), some (.inl a0), some (.inl a1), some (.inl a2), some (.inl r_27), some (.inl x5_120), some (.inl x6_122)]) rfl rfl ?_
                  refine go_goto (pc' := 97) rfl rfl ?_
                  exact (lp_backE h hk97 :))
            exact lo97 _ ((nI 0), (nI 0)) hl97 
          · replace h := o_t (Decidable.of_not_not h73) h
            refine go_aload_n (pc' := 77) rfl rfl rfl ?_
            refine go_iload_n (pc' := 78) rfl rfl rfl ?_
            refine go_iload_n (pc' := 79) rfl rfl rfl ?_
            obtain ⟨r_79, I_79, q_79, h⟩ := o_b2E h
            refine go_callV (pc' := 82) (B' := (0, 0)) (st' := [.inl r_79]) rfl rfl (Or.inl (by decide)) rfl rfl hth (md_285 (by omega) hth q_79) rfl rfl rfl ?_
            refine go_if_eq (pt := 89) (pc' := 85) rfl rfl rfl (fun h82 => ?_) (fun h82 => ?_)
            · replace h := o_t h82 h
              refine go_iconst (pc' := 90) (v := (nI 0)) rfl rfl rfl ?_
              cases h
              exact go_iret rfl (trivial) ⟨rfl, rfl, rfl, rfl, rfl⟩
            · replace h := o_f h82 h
              refine go_iconst (pc' := 86) (v := (nI 1)) rfl rfl rfl ?_
              refine go_goto (pc' := 90) rfl rfl ?_
              cases h
              exact go_iret rfl (trivial) ⟨rfl, rfl, rfl, rfl, rfl⟩
        · replace h := o_t (Decidable.of_not_not h42) h
          refine go_iload (pc' := 47) rfl rfl rfl ?_
          refine go_if_ge (pt := 55) (pc' := 50) rfl rfl rfl (fun h47 => ?_) (fun h47 => ?_)
          · replace h := o_t h47 h
            refine go_aload_n (pc' := 56) rfl rfl rfl ?_
            refine go_iload_n (pc' := 57) rfl rfl rfl ?_
            refine go_iload (pc' := 59) rfl rfl rfl ?_
            obtain ⟨r_59, q_59, h⟩ := o_b1E h
            refine go_callV (pc' := 62) (B' := (0, 0)) (st' := [.inl r_59]) rfl rfl (Or.inl (by decide)) rfl rfl hth (md_198 (by omega) hth q_59) rfl rfl rfl ?_
            refine go_aload_n (pc' := 63) rfl rfl rfl ?_
            refine go_iload_n (pc' := 64) rfl rfl rfl ?_
            refine go_iload (pc' := 66) rfl rfl rfl ?_
            obtain ⟨r_66, q_66, h⟩ := o_b1E h
            refine go_callV (pc' := 69) (B' := (0, 0)) (st' := [.inl r_66, .inl r_59]) rfl rfl (Or.inl (by decide)) rfl rfl hth (md_198 (by omega) hth q_66) rfl rfl rfl ?_
            refine go_iadd (pc' := 70) rfl rfl ?_
            cases h
            exact go_iret rfl (trivial) ⟨rfl, rfl, rfl, rfl, rfl⟩
          · replace h := o_f h47 h
            refine go_ldc (pc' := 52) (v := .inl (-2147483648 : Int32)) rfl rfl rfl ?_
            refine go_goto (pc' := 70) rfl rfl ?_
            cases h
            exact go_iret rfl (trivial) ⟨rfl, rfl, rfl, rfl, rfl⟩
      · replace h := o_t (Decidable.of_not_not h34) h
        refine go_iload (pc' := 39) rfl rfl rfl ?_
        cases h
        exact go_iret rfl (trivial) ⟨rfl, rfl, rfl, rfl, rfl⟩
    · replace h := o_t (Decidable.of_not_not h18) h
      refine go_ldc (pc' := 23) (v := .inl (-2147483648 : Int32)) rfl rfl rfl ?_
      cases h
      exact go_iret rfl (trivial) ⟨rfl, rfl, rfl, rfl, rfl⟩
/-- PricedBasesModel.potential(III)I -/
def m_287 (th : Nat) (a0 : Int32) (a1 : Int32) (a2 : Int32) (I : ai_I) (Rf : ai_R) (G : ai_G) : Option (Int32 × ai_I) :=
  o_b1 (m_203 th a0 a1 I Rf G) (fun r_3 => if r_3 = 0 then (some ((-2147483648 : Int32), I)) else (o_b1 (m_202 th a0 a2 I Rf G) (fun r_12 => if r_12 = 0 then (some ((-2147483648 : Int32), I)) else (o_b2 (m_285 th a0 a1 I Rf G) (fun r_24 I_24 => if r_24 = 0 then (some ((-2147483648 : Int32), I_24)) else (o_g (o_in G 13 (Rf th 24) a2) (some (I_24 (Rf th 24) a2.toNatClampNeg, I_24))))))))
theorem md_287 {d : Nat} {I : ai_I} {J : ai_J} {Rf : ai_R} {G : ai_G} {th : Nat} {a0 : Int32} {a1 : Int32} {a2 : Int32} {r : Int32} {I1 : ai_I} (hd : 6 ≤ d) (hth : G.1 th = 11) (h : m_287 th a0 a1 a2 I Rf G = some (r, I1)) : ai_Cl si_t si_ms d 287 [.inr (.inr th), .inl a0, .inl a1, .inl a2] I J Rf G (some (.inl r)) I1 J Rf G := by
  obtain ⟨e, rfl⟩ : ∃ e, d = e + 1 := ⟨d - 1, by omega⟩
  unfold m_287 at h
  refine sp_in (lo := [some (.inr (.inr th)), some (.inl a0), some (.inl a1), some (.inl a2)]) (B := (0, 0)) rfl (Nat.le_of_ble_eq_true rfl) rfl rfl ?_
  refine go_aload_n (pc' := 1) rfl rfl rfl ?_
  refine go_iload_n (pc' := 2) rfl rfl rfl ?_
  refine go_iload_n (pc' := 3) rfl rfl rfl ?_
  obtain ⟨r_3, q_3, h⟩ := o_b1E h
  refine go_callV (pc' := 6) (B' := (0, 0)) (st' := [.inl r_3]) rfl rfl (Or.inl (by decide)) rfl rfl hth (md_203 (by omega) hth q_3) rfl rfl rfl ?_
  refine go_if_eq (pt := 18) (pc' := 9) rfl rfl rfl (fun h6 => ?_) (fun h6 => ?_)
  · replace h := o_t h6 h
    refine go_ldc (pc' := 20) (v := .inl (-2147483648 : Int32)) rfl rfl rfl ?_
    cases h
    exact go_iret rfl (trivial) ⟨rfl, rfl, rfl, rfl, rfl⟩
  · replace h := o_f h6 h
    refine go_aload_n (pc' := 10) rfl rfl rfl ?_
    refine go_iload_n (pc' := 11) rfl rfl rfl ?_
    refine go_iload_n (pc' := 12) rfl rfl rfl ?_
    obtain ⟨r_12, q_12, h⟩ := o_b1E h
    refine go_callV (pc' := 15) (B' := (0, 0)) (st' := [.inl r_12]) rfl rfl (Or.inl (by decide)) rfl rfl hth (md_202 (by omega) hth q_12) rfl rfl rfl ?_
    refine go_if_ne (pt := 21) (pc' := 18) rfl rfl rfl (fun h15 => ?_) (fun h15 => ?_)
    · replace h := o_f h15 h
      refine go_aload_n (pc' := 22) rfl rfl rfl ?_
      refine go_iload_n (pc' := 23) rfl rfl rfl ?_
      refine go_iload_n (pc' := 24) rfl rfl rfl ?_
      obtain ⟨r_24, I_24, q_24, h⟩ := o_b2E h
      refine go_callV (pc' := 27) (B' := (0, 0)) (st' := [.inl r_24]) rfl rfl (Or.inl (by decide)) rfl rfl hth (md_285 (by omega) hth q_24) rfl rfl rfl ?_
      refine go_if_eq (pt := 39) (pc' := 30) rfl rfl rfl (fun h27 => ?_) (fun h27 => ?_)
      · replace h := o_t h27 h
        refine go_ldc (pc' := 41) (v := .inl (-2147483648 : Int32)) rfl rfl rfl ?_
        cases h
        exact go_iret rfl (trivial) ⟨rfl, rfl, rfl, rfl, rfl⟩
      · replace h := o_f h27 h
        refine go_aload_n (pc' := 31) rfl rfl rfl ?_
        refine go_getR (pc' := 34) rfl rfl hth rfl ?_
        refine go_iload_n (pc' := 35) rfl rfl rfl ?_
        obtain ⟨g0, h⟩ := o_gE h
        refine go_iaload (pc' := 36) rfl (o_inK g0) (o_inB g0) rfl ?_
        refine go_goto (pc' := 41) rfl rfl ?_
        cases h
        exact go_iret rfl (trivial) ⟨rfl, rfl, rfl, rfl, rfl⟩
    · replace h := o_t (Decidable.of_not_not h15) h
      refine go_ldc (pc' := 20) (v := .inl (-2147483648 : Int32)) rfl rfl rfl ?_
      cases h
      exact go_iret rfl (trivial) ⟨rfl, rfl, rfl, rfl, rfl⟩
def m_288_x34_123 (th : Nat) (a0 : Int32) (Rf : ai_R) (G : ai_G) (Ix_123 : ai_I) : Option (Int32 × ai_I) :=
  o_b1 (m_197 th a0 Ix_123 Rf G) (fun r_129 => o_g (o_in G 13 (Rf th 25) r_129) (if (Ix_123 (Rf th 25) r_129.toNatClampNeg) = (nI 1000000000) then (some ((-2 : Int32), Ix_123)) else (o_b1 (m_197 th a0 Ix_123 Rf G) (fun r_150 => o_g (o_in G 13 (Rf th 25) r_150) (some (Ix_123 (Rf th 25) r_150.toNatClampNeg, Ix_123))))))
def m_288_x45_117 (v2_34 : Int32) (Ix_117 : ai_I) : Option ((Int32 × ai_I) ⊕ ai_I) :=
  o_b1 (some (v2_34 + (nI 1))) (fun x2_117 => some (Sum.inl (x2_117, Ix_117)))
def m_288_j106 (th : Nat) (Rf : ai_R) (G : ai_G) (v2_34 : Int32) (v3_45 : Int32) (I_45 : ai_I) (t4_106 : Int32) : Option ((Int32 × ai_I) ⊕ ai_I) :=
  o_b1 (m_190 (I_45 (Rf th 25) (v2_34 ||| v3_45).toNatClampNeg) ((I_45 (Rf th 25) v2_34.toNatClampNeg) + t4_106)) (fun r_107 => o_g (o_in G 13 (Rf th 25) (v2_34 ||| v3_45)) (o_b1 (some (va_up I_45 (Rf th 25) (va_up (I_45 (Rf th 25)) (v2_34 ||| v3_45).toNatClampNeg r_107))) (fun I_110 => o_b1 (some (v3_45 + (nI 1))) (fun x3_111 => some (Sum.inl (x3_111, I_110))))))
def m_288_b45 (th : Nat) (a0 : Int32) (Rf : ai_R) (G : ai_G) (v2_34 : Int32) (v3_45 : Int32) (I_45 : ai_I) : Option ((Int32 × ai_I) ⊕ ai_I) :=
  if (nI 256) ≤ v3_45 then (some (Sum.inr I_45)) else (o_g (o_in G 13 (Rf th 25) v2_34) (if (nI 1000000000) ≤ (I_45 (Rf th 25) v2_34.toNatClampNeg) then (some (Sum.inr I_45)) else (o_b1 (m_199 th a0 v3_45 I_45 Rf G) (fun r_67 => if r_67 = 0 then (o_b1 (some (v3_45 + (nI 1))) (fun x3_111 => some (Sum.inl (x3_111, I_45)))) else (o_g (o_in G 13 (Rf th 25) (v2_34 ||| v3_45)) (o_g (o_in G 13 (Rf th 25) v2_34) (if v3_45 = (v2_34 &&& v3_45) then (m_288_j106 th Rf G v2_34 v3_45 I_45 (nI 0)) else (m_288_j106 th Rf G v2_34 v3_45 I_45 (nI 1)))))))))
def m_288_b34 (th : Nat) (a0 : Int32) (Rf : ai_R) (G : ai_G) (v2_34 : Int32) (I_34 : ai_I) : Option ((Int32 × ai_I) ⊕ ai_I) :=
  o_b1 (m_197 th a0 I_34 Rf G) (fun r_37 => if r_37 < v2_34 then (some (Sum.inr I_34)) else (o_s1 (lp (fun s => m_288_b45 th a0 Rf G v2_34 s.1 s.2) o_N ((nI 0), I_34)) (fun t => m_288_x45_117 v2_34 t)))
def m_288_x2_32 (th : Nat) (a0 : Int32) (Rf : ai_R) (G : ai_G) (Ix_32 : ai_I) : Option (Int32 × ai_I) :=
  o_s1 (lp (fun s => m_288_b34 th a0 Rf G s.1 s.2) o_N ((nI 0), Ix_32)) (fun t => m_288_x34_123 th a0 Rf G t)
def m_288_j25 (th : Nat) (Rf : ai_R) (G : ai_G) (v2_2 : Int32) (I_2 : ai_I) (t2_25 : Int32) : Option ((Int32 × ai_I) ⊕ ai_I) :=
  o_g (o_in G 13 (Rf th 25) v2_2) (o_b1 (some (va_up I_2 (Rf th 25) (va_up (I_2 (Rf th 25)) v2_2.toNatClampNeg t2_25))) (fun I_25 => o_b1 (some (v2_2 + (nI 1))) (fun x2_26 => some (Sum.inl (x2_26, I_25)))))
def m_288_b2 (th : Nat) (Rf : ai_R) (G : ai_G) (v2_2 : Int32) (I_2 : ai_I) : Option ((Int32 × ai_I) ⊕ ai_I) :=
  if (nI 256) ≤ v2_2 then (some (Sum.inr I_2)) else (if v2_2 = 0 then (m_288_j25 th Rf G v2_2 I_2 (nI 0)) else (m_288_j25 th Rf G v2_2 I_2 (nI 1000000000)))
/-- PricedBasesModel.coverOf(I)I -/
def m_288 (th : Nat) (a0 : Int32) (I : ai_I) (Rf : ai_R) (G : ai_G) : Option (Int32 × ai_I) :=
  o_s1 (lp (fun s => m_288_b2 th Rf G s.1 s.2) o_N ((nI 0), I)) (fun t => m_288_x2_32 th a0 Rf G t)
theorem md_288 {d : Nat} {I : ai_I} {J : ai_J} {Rf : ai_R} {G : ai_G} {th : Nat} {a0 : Int32} {r : Int32} {I1 : ai_I} (hd : 3 ≤ d) (hth : G.1 th = 11) (h : m_288 th a0 I Rf G = some (r, I1)) : ai_Cl si_t si_ms d 288 [.inr (.inr th), .inl a0] I J Rf G (some (.inl r)) I1 J Rf G := by
  obtain ⟨e, rfl⟩ : ∃ e, d = e + 1 := ⟨d - 1, by omega⟩
  unfold m_288 at h
  refine sp_in (lo := [some (.inr (.inr th)), some (.inl a0), none, none]) (B := (0, 0)) rfl (Nat.le_of_ble_eq_true rfl) rfl rfl ?_
  refine go_iconst (pc' := 1) (v := (nI 0)) rfl rfl rfl ?_
  refine go_istore_n (pc' := 2) (lo' := [some (.inr (.inr th)), some (.inl a0), some (.inl (nI 0)), none]) rfl rfl rfl ?_
  obtain ⟨q2, hl2, hc2_32⟩ := o_s1E h
  have ex2_32 : ∀ (Ix_32 : ai_I) (z2_x32 : Option ai_V), Ix_32 = q2 → ai_Go si_t (11, false, 0, cd_288) (ai_Cl si_t si_ms e) (sp_Q (some (.inl r)) I1 J Rf G) 32 [some (.inr (.inr th)), some (.inl a0), z2_x32, none] [] (0, 0) Ix_32 J Rf G := by
    intro Ix_32 z2_x32 hq
    have h : m_288_x2_32 th a0 Rf G Ix_32 = some (r, I1) := hc2_32 Ix_32 hq.symm
    unfold m_288_x2_32 at h
    refine go_iconst (pc' := 33) (v := (nI 0)) rfl rfl rfl ?_
    refine go_istore_n (pc' := 34) (lo' := [some (.inr (.inr th)), some (.inl a0), some (.inl (nI 0)), none]) rfl rfl rfl ?_
    obtain ⟨q34, hl34, hc34_123⟩ := o_s1E h
    have ex34_123 : ∀ (Ix_123 : ai_I) (z2_x123 : Option ai_V) (z3_x123 : Option ai_V), Ix_123 = q34 → ai_Go si_t (11, false, 0, cd_288) (ai_Cl si_t si_ms e) (sp_Q (some (.inl r)) I1 J Rf G) 123 [some (.inr (.inr th)), some (.inl a0), z2_x123, z3_x123] [] (0, 0) Ix_123 J Rf G := by
      intro Ix_123 z2_x123 z3_x123 hq
      have h : m_288_x34_123 th a0 Rf G Ix_123 = some (r, I1) := hc34_123 Ix_123 hq.symm
      unfold m_288_x34_123 at h
      refine go_aload_n (pc' := 124) rfl rfl rfl ?_
      refine go_getR (pc' := 127) rfl rfl hth rfl ?_
      refine go_aload_n (pc' := 128) rfl rfl rfl ?_
      refine go_iload_n (pc' := 129) rfl rfl rfl ?_
      obtain ⟨r_129, q_129, h⟩ := o_b1E h
      refine go_callV (pc' := 132) (B' := (0, 0)) (st' := [.inl r_129, .inr (.inr (Rf th 25))]) rfl rfl (Or.inl (by decide)) rfl rfl hth (md_197 (by omega) hth q_129) rfl rfl rfl ?_
      obtain ⟨g0, h⟩ := o_gE h
      refine go_iaload (pc' := 133) rfl (o_inK g0) (o_inB g0) rfl ?_
      refine go_ldc_w (pc' := 136) (v := .inl (nI 1000000000)) rfl rfl rfl ?_
      refine go_icmp_ne (pt := 144) (pc' := 139) rfl rfl rfl (fun h136 => ?_) (fun h136 => ?_)
      · replace h := o_f h136 h
        refine go_aload_n (pc' := 145) rfl rfl rfl ?_
        refine go_getR (pc' := 148) rfl rfl hth rfl ?_
        refine go_aload_n (pc' := 149) rfl rfl rfl ?_
        refine go_iload_n (pc' := 150) rfl rfl rfl ?_
        obtain ⟨r_150, q_150, h⟩ := o_b1E h
        refine go_callV (pc' := 153) (B' := (0, 0)) (st' := [.inl r_150, .inr (.inr (Rf th 25))]) rfl rfl (Or.inl (by decide)) rfl rfl hth (md_197 (by omega) hth q_150) rfl rfl rfl ?_
        obtain ⟨g1, h⟩ := o_gE h
        refine go_iaload (pc' := 154) rfl (o_inK g1) (o_inB g1) rfl ?_
        cases h
        exact go_iret rfl (trivial) ⟨rfl, rfl, rfl, rfl, rfl⟩
      · replace h := o_t (Decidable.of_not_not h136) h
        refine go_bipush (pc' := 141) (v := (-2 : Int32)) rfl rfl rfl ?_
        refine go_goto (pc' := 154) rfl rfl ?_
        cases h
        exact go_iret rfl (trivial) ⟨rfl, rfl, rfl, rfl, rfl⟩
    have lo34 : ∀ n s, lp (fun s => m_288_b34 th a0 Rf G s.1 s.2) n s = some q34 → (fun s => ∀ (z3_34 : Option ai_V), ai_Go si_t (11, false, 0, cd_288) (ai_Cl si_t si_ms e) (sp_Q (some (.inl r)) I1 J Rf G) 34 [some (.inr (.inr th)), some (.inl a0), some (.inl s.1), z3_34] [] (0, 0) s.2 J Rf G) s := lp_go (fun s x34 hx hk34 => by
      obtain ⟨v2_34, I_34⟩ := s
      intro z3_34
      have h : m_288_b34 th a0 Rf G v2_34 I_34 = some x34 := hx
      clear hx
      show ai_Go si_t (11, false, 0, cd_288) (ai_Cl si_t si_ms e) (sp_Q (some (.inl r)) I1 J Rf G) 34 [some (.inr (.inr th)), some (.inl a0), some (.inl v2_34), z3_34] [] (0, 0) I_34 J Rf G
      unfold m_288_b34 at h
      refine go_iload_n (pc' := 35) rfl rfl rfl ?_
      refine go_aload_n (pc' := 36) rfl rfl rfl ?_
      refine go_iload_n (pc' := 37) rfl rfl rfl ?_
      obtain ⟨r_37, q_37, h⟩ := o_b1E h
      refine go_callV (pc' := 40) (B' := (0, 0)) (st' := [.inl r_37, .inl v2_34]) rfl rfl (Or.inl (by decide)) rfl rfl hth (md_197 (by omega) hth q_37) rfl rfl rfl ?_
      refine go_icmp_gt (pt := 123) (pc' := 43) rfl rfl rfl (fun h40 => ?_) (fun h40 => ?_)
      · replace h := o_t h40 h
        exact ex34_123 _ (some (.inl v2_34)) z3_34 (lp_exitE h hk34)
      · replace h := o_f h40 h
        refine go_iconst (pc' := 44) (v := (nI 0)) rfl rfl rfl ?_
        refine go_istore_n (pc' := 45) (lo' := [some (.inr (.inr th)), some (.inl a0), some (.inl v2_34), some (.inl (nI 0))]) rfl rfl rfl ?_
        obtain ⟨q45, hl45, hc45_117⟩ := o_s1E h
        have ex45_117 : ∀ (Ix_117 : ai_I) (z3_x117 : Option ai_V), Ix_117 = q45 → ai_Go si_t (11, false, 0, cd_288) (ai_Cl si_t si_ms e) (sp_Q (some (.inl r)) I1 J Rf G) 117 [some (.inr (.inr th)), some (.inl a0), some (.inl v2_34), z3_x117] [] (0, 0) Ix_117 J Rf G := by
          intro Ix_117 z3_x117 hq
          have h : m_288_x45_117 v2_34 Ix_117 = some x34 := hc45_117 Ix_117 hq.symm
          unfold m_288_x45_117 at h
          obtain ⟨x2_117, ex2_117, h⟩ := o_b1E h
          refine go_iincE (pc' := 120) rfl rfl (y := (nI 1)) rfl ex2_117 (lo' := [some (.inr (.inr th)), some (.inl a0), some (.inl x2_117), z3_x117]) rfl rfl ?_
          refine go_goto (pc' := 34) rfl rfl ?_
          exact (lp_backE h hk34 z3_x117 :)
        have lo45 : ∀ n s, lp (fun s => m_288_b45 th a0 Rf G v2_34 s.1 s.2) n s = some q45 → (fun s => ai_Go si_t (11, false, 0, cd_288) (ai_Cl si_t si_ms e) (sp_Q (some (.inl r)) I1 J Rf G) 45 [some (.inr (.inr th)), some (.inl a0), some (.inl v2_34), some (.inl s.1)] [] (0, 0) s.2 J Rf G) s := lp_go (fun s x45 hx hk45 => by
          obtain ⟨v3_45, I_45⟩ := s
          have h : m_288_b45 th a0 Rf G v2_34 v3_45 I_45 = some x45 := hx
          clear hx
          show ai_Go si_t (11, false, 0, cd_288) (ai_Cl si_t si_ms e) (sp_Q (some (.inl r)) I1 J Rf G) 45 [some (.inr (.inr th)), some (.inl a0), some (.inl v2_34), some (.inl v3_45)] [] (0, 0) I_45 J Rf G
          unfold m_288_b45 at h
          refine go_iload_n (pc' := 46) rfl rfl rfl ?_
          refine go_sipush (pc' := 49) (v := (nI 256)) rfl rfl rfl ?_
          refine go_icmp_ge (pt := 117) (pc' := 52) rfl rfl rfl (fun h49 => ?_) (fun h49 => ?_)
          · replace h := o_t h49 h
            exact ex45_117 _ (some (.inl v3_45)) (lp_exitE h hk45)
          · replace h := o_f h49 h
            refine go_aload_n (pc' := 53) rfl rfl rfl ?_
            refine go_getR (pc' := 56) rfl rfl hth rfl ?_
            refine go_iload_n (pc' := 57) rfl rfl rfl ?_
            obtain ⟨g2, h⟩ := o_gE h
            refine go_iaload (pc' := 58) rfl (o_inK g2) (o_inB g2) rfl ?_
            refine go_ldc_w (pc' := 61) (v := .inl (nI 1000000000)) rfl rfl rfl ?_
            refine go_icmp_ge (pt := 117) (pc' := 64) rfl rfl rfl (fun h61 => ?_) (fun h61 => ?_)
            · replace h := o_t h61 h
              exact ex45_117 _ (some (.inl v3_45)) (lp_exitE h hk45)
            · replace h := o_f h61 h
              refine go_aload_n (pc' := 65) rfl rfl rfl ?_
              refine go_iload_n (pc' := 66) rfl rfl rfl ?_
              refine go_iload_n (pc' := 67) rfl rfl rfl ?_
              obtain ⟨r_67, q_67, h⟩ := o_b1E h
              refine go_callV (pc' := 70) (B' := (0, 0)) (st' := [.inl r_67]) rfl rfl (Or.inl (by decide)) rfl rfl hth (md_199 (by omega) hth q_67) rfl rfl rfl ?_
              refine go_if_eq (pt := 111) (pc' := 73) rfl rfl rfl (fun h70 => ?_) (fun h70 => ?_)
              · replace h := o_t h70 h
                obtain ⟨x3_111, ex3_111, h⟩ := o_b1E h
                refine go_iincE (pc' := 114) rfl rfl (y := (nI 1)) rfl ex3_111 (lo' := [some (.inr (.inr th)), some (.inl a0), some (.inl v2_34), some (.inl x3_111)]) rfl rfl ?_
                refine go_goto (pc' := 45) rfl rfl ?_
                exact (lp_backE h hk45 :)
              · replace h := o_f h70 h
                refine go_aload_n (pc' := 74) rfl rfl rfl ?_
                refine go_getR (pc' := 77) rfl rfl hth rfl ?_
                refine go_iload_n (pc' := 78) rfl rfl rfl ?_
                refine go_iload_n (pc' := 79) rfl rfl rfl ?_
                refine go_ior (pc' := 80) rfl rfl ?_
                refine go_aload_n (pc' := 81) rfl rfl rfl ?_
                refine go_getR (pc' := 84) rfl rfl hth rfl ?_
                refine go_iload_n (pc' := 85) rfl rfl rfl ?_
                refine go_iload_n (pc' := 86) rfl rfl rfl ?_
                refine go_ior (pc' := 87) rfl rfl ?_
                obtain ⟨g3, h⟩ := o_gE h
                refine go_iaload (pc' := 88) rfl (o_inK g3) (o_inB g3) rfl ?_
                refine go_aload_n (pc' := 89) rfl rfl rfl ?_
                refine go_getR (pc' := 92) rfl rfl hth rfl ?_
                refine go_iload_n (pc' := 93) rfl rfl rfl ?_
                obtain ⟨g4, h⟩ := o_gE h
                refine go_iaload (pc' := 94) rfl (o_inK g4) (o_inB g4) rfl ?_
                refine go_iload_n (pc' := 95) rfl rfl rfl ?_
                refine go_iload_n (pc' := 96) rfl rfl rfl ?_
                refine go_iload_n (pc' := 97) rfl rfl rfl ?_
                refine go_iand (pc' := 98) rfl rfl ?_
                have jn106 : ∀ (t4_106 : Int32), m_288_j106 th Rf G v2_34 v3_45 I_45 t4_106 = some x45 → ai_Go si_t (11, false, 0, cd_288) (ai_Cl si_t si_ms e) (sp_Q (some (.inl r)) I1 J Rf G) 106 [some (.inr (.inr th)), some (.inl a0), some (.inl v2_34), some (.inl v3_45)] [.inl t4_106, .inl (I_45 (Rf th 25) v2_34.toNatClampNeg), .inl (I_45 (Rf th 25) (v2_34 ||| v3_45).toNatClampNeg), .inl (v2_34 ||| v3_45), .inr (.inr (Rf th 25))] (0, 0) I_45 J Rf G := by
                  intro t4_106 h
                  unfold m_288_j106 at h
                  refine go_iadd (pc' := 107) rfl rfl ?_
                  obtain ⟨r_107, q_107, h⟩ := o_b1E h
                  refine go_callS (pc' := 110) (B' := (0, 0)) (st' := [.inl r_107, .inl (v2_34 ||| v3_45), .inr (.inr (Rf th 25))]) rfl rfl (Or.inl (by decide)) rfl rfl trivial (md_190 (by omega) q_107) rfl rfl rfl ?_
                  obtain ⟨g5, h⟩ := o_gE h
                  obtain ⟨I_110, eI_110, h⟩ := o_b1E h
                  refine go_iastore (pc' := 111) rfl (o_inK g5) (o_inB g5) rfl ?_
                  refine go_ndMI eI_110 ?_
                  obtain ⟨x3_111, ex3_111, h⟩ := o_b1E h
                  refine go_iincE (pc' := 114) rfl rfl (y := (nI 1)) rfl ex3_111 (lo' := [some (.inr (.inr th)), some (.inl a0), some (.inl v2_34), some (.inl x3_111)]) rfl rfl ?_
                  refine go_goto (pc' := 45) rfl rfl ?_
                  exact (lp_backE h hk45 :)
                refine go_icmp_ne (pt := 105) (pc' := 101) rfl rfl rfl (fun h98 => ?_) (fun h98 => ?_)
                · replace h := o_f h98 h
                  refine go_iconst (pc' := 106) (v := (nI 1)) rfl rfl rfl ?_
                  exact jn106 (nI 1) h
                · replace h := o_t (Decidable.of_not_not h98) h
                  refine go_iconst (pc' := 102) (v := (nI 0)) rfl rfl rfl ?_
                  refine go_goto (pc' := 106) rfl rfl ?_
                  exact jn106 (nI 0) h)
        exact lo45 _ ((nI 0), I_34) hl45 )
    exact lo34 _ ((nI 0), Ix_32) hl34 none
  have lo2 : ∀ n s, lp (fun s => m_288_b2 th Rf G s.1 s.2) n s = some q2 → (fun s => ai_Go si_t (11, false, 0, cd_288) (ai_Cl si_t si_ms e) (sp_Q (some (.inl r)) I1 J Rf G) 2 [some (.inr (.inr th)), some (.inl a0), some (.inl s.1), none] [] (0, 0) s.2 J Rf G) s := lp_go (fun s x2 hx hk2 => by
    obtain ⟨v2_2, I_2⟩ := s
    have h : m_288_b2 th Rf G v2_2 I_2 = some x2 := hx
    clear hx
    show ai_Go si_t (11, false, 0, cd_288) (ai_Cl si_t si_ms e) (sp_Q (some (.inl r)) I1 J Rf G) 2 [some (.inr (.inr th)), some (.inl a0), some (.inl v2_2), none] [] (0, 0) I_2 J Rf G
    unfold m_288_b2 at h
    refine go_iload_n (pc' := 3) rfl rfl rfl ?_
    refine go_sipush (pc' := 6) (v := (nI 256)) rfl rfl rfl ?_
    refine go_icmp_ge (pt := 32) (pc' := 9) rfl rfl rfl (fun h6 => ?_) (fun h6 => ?_)
    · replace h := o_t h6 h
      exact ex2_32 _ (some (.inl v2_2)) (lp_exitE h hk2)
    · replace h := o_f h6 h
      refine go_aload_n (pc' := 10) rfl rfl rfl ?_
      refine go_getR (pc' := 13) rfl rfl hth rfl ?_
      refine go_iload_n (pc' := 14) rfl rfl rfl ?_
      refine go_iload_n (pc' := 15) rfl rfl rfl ?_
      have jn25 : ∀ (t2_25 : Int32), m_288_j25 th Rf G v2_2 I_2 t2_25 = some x2 → ai_Go si_t (11, false, 0, cd_288) (ai_Cl si_t si_ms e) (sp_Q (some (.inl r)) I1 J Rf G) 25 [some (.inr (.inr th)), some (.inl a0), some (.inl v2_2), none] [.inl t2_25, .inl v2_2, .inr (.inr (Rf th 25))] (0, 0) I_2 J Rf G := by
        intro t2_25 h
        unfold m_288_j25 at h
        obtain ⟨g6, h⟩ := o_gE h
        obtain ⟨I_25, eI_25, h⟩ := o_b1E h
        refine go_iastore (pc' := 26) rfl (o_inK g6) (o_inB g6) rfl ?_
        refine go_ndMI eI_25 ?_
        obtain ⟨x2_26, ex2_26, h⟩ := o_b1E h
        refine go_iincE (pc' := 29) rfl rfl (y := (nI 1)) rfl ex2_26 (lo' := [some (.inr (.inr th)), some (.inl a0), some (.inl x2_26), none]) rfl rfl ?_
        refine go_goto (pc' := 2) rfl rfl ?_
        exact (lp_backE h hk2 :)
      refine go_if_ne (pt := 22) (pc' := 18) rfl rfl rfl (fun h15 => ?_) (fun h15 => ?_)
      · replace h := o_f h15 h
        refine go_ldc_w (pc' := 25) (v := .inl (nI 1000000000)) rfl rfl rfl ?_
        exact jn25 (nI 1000000000) h
      · replace h := o_t (Decidable.of_not_not h15) h
        refine go_iconst (pc' := 19) (v := (nI 0)) rfl rfl rfl ?_
        refine go_goto (pc' := 25) rfl rfl ?_
        exact jn25 (nI 0) h)
  exact lo2 _ ((nI 0), I) hl2 
def m_289_x34_135 (w2_135 : Int32) (Ix_135 : ai_I) : Option (Int32 × ai_I) :=
  some (w2_135, Ix_135)
def m_289_x69_129 (v3_34 : Int32) (r_62 : Int32) (Ix_129 : ai_I) : Option ((Int32 × Int32 × ai_I) ⊕ (Int32 × ai_I)) :=
  o_b1 (some (v3_34 + (nI 1))) (fun x3_129 => some (Sum.inl (r_62, x3_129, Ix_129)))
def m_289_b69 (th : Nat) (a0 : Int32) (Rf : ai_R) (G : ai_G) (v3_34 : Int32) (v4_69 : Int32) (I_69 : ai_I) : Option ((Int32 × ai_I) ⊕ ai_I) :=
  if (nI 256) ≤ v4_69 then (some (Sum.inr I_69)) else (o_b1 (m_199 th a0 v4_69 I_69 Rf G) (fun r_81 => if r_81 = 0 then (o_b1 (some (v4_69 + (nI 1))) (fun x4_123 => some (Sum.inl (x4_123, I_69)))) else (if (v4_69 &&& v3_34) = 0 then (o_g (o_in G 13 (Rf th 25) (v3_34 ||| v4_69)) (o_g (o_in G 13 (Rf th 25) v3_34) (o_b1 (m_191 (I_69 (Rf th 25) (v3_34 ||| v4_69).toNatClampNeg) ((I_69 (Rf th 25) v3_34.toNatClampNeg) + (nI 1))) (fun r_119 => o_g (o_in G 13 (Rf th 25) (v3_34 ||| v4_69)) (o_b1 (some (va_up I_69 (Rf th 25) (va_up (I_69 (Rf th 25)) (v3_34 ||| v4_69).toNatClampNeg r_119))) (fun I_122 => o_b1 (some (v4_69 + (nI 1))) (fun x4_123 => some (Sum.inl (x4_123, I_122))))))))) else (o_b1 (some (v4_69 + (nI 1))) (fun x4_123 => some (Sum.inl (x4_123, I_69)))))))
def m_289_b34 (th : Nat) (a0 : Int32) (Rf : ai_R) (G : ai_G) (v2_34 : Int32) (v3_34 : Int32) (I_34 : ai_I) : Option ((Int32 × Int32 × ai_I) ⊕ (Int32 × ai_I)) :=
  o_b1 (m_197 th a0 I_34 Rf G) (fun r_37 => if r_37 < v3_34 then (some (Sum.inr (v2_34, I_34))) else (o_g (o_in G 13 (Rf th 25) v3_34) (if 0 ≤ (I_34 (Rf th 25) v3_34.toNatClampNeg) then (o_g (o_in G 13 (Rf th 25) v3_34) (o_b1 (m_191 v2_34 (I_34 (Rf th 25) v3_34.toNatClampNeg)) (fun r_62 => o_s1 (lp (fun s => m_289_b69 th a0 Rf G v3_34 s.1 s.2) o_N ((nI 0), I_34)) (fun t => m_289_x69_129 v3_34 r_62 t)))) else (o_b1 (some (v3_34 + (nI 1))) (fun x3_129 => some (Sum.inl (v2_34, x3_129, I_34)))))))
def m_289_x4_32 (th : Nat) (a0 : Int32) (Rf : ai_R) (G : ai_G) (Ix_32 : ai_I) : Option (Int32 × ai_I) :=
  o_s1 (lp (fun s => m_289_b34 th a0 Rf G s.1 s.2.1 s.2.2) o_N ((nI 0), (nI 0), Ix_32)) (fun t => m_289_x34_135 t.1 t.2)
def m_289_j25 (th : Nat) (Rf : ai_R) (G : ai_G) (v3_4 : Int32) (I_4 : ai_I) (t2_25 : Int32) : Option ((Int32 × ai_I) ⊕ ai_I) :=
  o_g (o_in G 13 (Rf th 25) v3_4) (o_b1 (some (va_up I_4 (Rf th 25) (va_up (I_4 (Rf th 25)) v3_4.toNatClampNeg t2_25))) (fun I_25 => o_b1 (some (v3_4 + (nI 1))) (fun x3_26 => some (Sum.inl (x3_26, I_25)))))
def m_289_b4 (th : Nat) (Rf : ai_R) (G : ai_G) (v3_4 : Int32) (I_4 : ai_I) : Option ((Int32 × ai_I) ⊕ ai_I) :=
  if (nI 256) ≤ v3_4 then (some (Sum.inr I_4)) else (if v3_4 = 0 then (m_289_j25 th Rf G v3_4 I_4 (nI 0)) else (m_289_j25 th Rf G v3_4 I_4 (-1 : Int32)))
/-- PricedBasesModel.packOf(I)I -/
def m_289 (th : Nat) (a0 : Int32) (I : ai_I) (Rf : ai_R) (G : ai_G) : Option (Int32 × ai_I) :=
  o_s1 (lp (fun s => m_289_b4 th Rf G s.1 s.2) o_N ((nI 0), I)) (fun t => m_289_x4_32 th a0 Rf G t)
theorem md_289 {d : Nat} {I : ai_I} {J : ai_J} {Rf : ai_R} {G : ai_G} {th : Nat} {a0 : Int32} {r : Int32} {I1 : ai_I} (hd : 3 ≤ d) (hth : G.1 th = 11) (h : m_289 th a0 I Rf G = some (r, I1)) : ai_Cl si_t si_ms d 289 [.inr (.inr th), .inl a0] I J Rf G (some (.inl r)) I1 J Rf G := by
  obtain ⟨e, rfl⟩ : ∃ e, d = e + 1 := ⟨d - 1, by omega⟩
  unfold m_289 at h
  refine sp_in (lo := [some (.inr (.inr th)), some (.inl a0), none, none, none]) (B := (0, 0)) rfl (Nat.le_of_ble_eq_true rfl) rfl rfl ?_
  refine go_iconst (pc' := 1) (v := (nI 0)) rfl rfl rfl ?_
  refine go_istore_n (pc' := 2) (lo' := [some (.inr (.inr th)), some (.inl a0), some (.inl (nI 0)), none, none]) rfl rfl rfl ?_
  refine go_iconst (pc' := 3) (v := (nI 0)) rfl rfl rfl ?_
  refine go_istore_n (pc' := 4) (lo' := [some (.inr (.inr th)), some (.inl a0), some (.inl (nI 0)), some (.inl (nI 0)), none]) rfl rfl rfl ?_
  obtain ⟨q4, hl4, hc4_32⟩ := o_s1E h
  have ex4_32 : ∀ (Ix_32 : ai_I) (z3_x32 : Option ai_V), Ix_32 = q4 → ai_Go si_t (11, false, 0, cd_289) (ai_Cl si_t si_ms e) (sp_Q (some (.inl r)) I1 J Rf G) 32 [some (.inr (.inr th)), some (.inl a0), some (.inl (nI 0)), z3_x32, none] [] (0, 0) Ix_32 J Rf G := by
    intro Ix_32 z3_x32 hq
    have h : m_289_x4_32 th a0 Rf G Ix_32 = some (r, I1) := hc4_32 Ix_32 hq.symm
    unfold m_289_x4_32 at h
    refine go_iconst (pc' := 33) (v := (nI 0)) rfl rfl rfl ?_
    refine go_istore_n (pc' := 34) (lo' := [some (.inr (.inr th)), some (.inl a0), some (.inl (nI 0)), some (.inl (nI 0)), none]) rfl rfl rfl ?_
    obtain ⟨q34, hl34, hc34_135⟩ := o_s1E h
    have ex34_135 : ∀ (w2_135 : Int32) (Ix_135 : ai_I) (z3_x135 : Option ai_V) (z4_x135 : Option ai_V), (w2_135, Ix_135) = q34 → ai_Go si_t (11, false, 0, cd_289) (ai_Cl si_t si_ms e) (sp_Q (some (.inl r)) I1 J Rf G) 135 [some (.inr (.inr th)), some (.inl a0), some (.inl w2_135), z3_x135, z4_x135] [] (0, 0) Ix_135 J Rf G := by
      intro w2_135 Ix_135 z3_x135 z4_x135 hq
      have h : m_289_x34_135 w2_135 Ix_135 = some (r, I1) := hc34_135 (w2_135, Ix_135) hq.symm
      unfold m_289_x34_135 at h
      refine go_iload_n (pc' := 136) rfl rfl rfl ?_
      cases h
      exact go_iret rfl (trivial) ⟨rfl, rfl, rfl, rfl, rfl⟩
    have lo34 : ∀ n s, lp (fun s => m_289_b34 th a0 Rf G s.1 s.2.1 s.2.2) n s = some q34 → (fun s => ∀ (z4_34 : Option ai_V), ai_Go si_t (11, false, 0, cd_289) (ai_Cl si_t si_ms e) (sp_Q (some (.inl r)) I1 J Rf G) 34 [some (.inr (.inr th)), some (.inl a0), some (.inl s.1), some (.inl s.2.1), z4_34] [] (0, 0) s.2.2 J Rf G) s := lp_go (fun s x34 hx hk34 => by
      obtain ⟨v2_34, v3_34, I_34⟩ := s
      intro z4_34
      have h : m_289_b34 th a0 Rf G v2_34 v3_34 I_34 = some x34 := hx
      clear hx
      show ai_Go si_t (11, false, 0, cd_289) (ai_Cl si_t si_ms e) (sp_Q (some (.inl r)) I1 J Rf G) 34 [some (.inr (.inr th)), some (.inl a0), some (.inl v2_34), some (.inl v3_34), z4_34] [] (0, 0) I_34 J Rf G
      unfold m_289_b34 at h
      refine go_iload_n (pc' := 35) rfl rfl rfl ?_
      refine go_aload_n (pc' := 36) rfl rfl rfl ?_
      refine go_iload_n (pc' := 37) rfl rfl rfl ?_
      obtain ⟨r_37, q_37, h⟩ := o_b1E h
      refine go_callV (pc' := 40) (B' := (0, 0)) (st' := [.inl r_37, .inl v3_34]) rfl rfl (Or.inl (by decide)) rfl rfl hth (md_197 (by omega) hth q_37) rfl rfl rfl ?_
      refine go_icmp_gt (pt := 135) (pc' := 43) rfl rfl rfl (fun h40 => ?_) (fun h40 => ?_)
      · replace h := o_t h40 h
        exact ex34_135 _ _ (some (.inl v3_34)) z4_34 (lp_exitE h hk34)
      · replace h := o_f h40 h
        refine go_aload_n (pc' := 44) rfl rfl rfl ?_
        refine go_getR (pc' := 47) rfl rfl hth rfl ?_
        refine go_iload_n (pc' := 48) rfl rfl rfl ?_
        obtain ⟨g0, h⟩ := o_gE h
        refine go_iaload (pc' := 49) rfl (o_inK g0) (o_inB g0) rfl ?_
        refine go_if_ge (pt := 55) (pc' := 52) rfl rfl rfl (fun h49 => ?_) (fun h49 => ?_)
        · replace h := o_t h49 h
          refine go_iload_n (pc' := 56) rfl rfl rfl ?_
          refine go_aload_n (pc' := 57) rfl rfl rfl ?_
          refine go_getR (pc' := 60) rfl rfl hth rfl ?_
          refine go_iload_n (pc' := 61) rfl rfl rfl ?_
          obtain ⟨g1, h⟩ := o_gE h
          refine go_iaload (pc' := 62) rfl (o_inK g1) (o_inB g1) rfl ?_
          obtain ⟨r_62, q_62, h⟩ := o_b1E h
          refine go_callS (pc' := 65) (B' := (0, 0)) (st' := [.inl r_62]) rfl rfl (Or.inl (by decide)) rfl rfl trivial (md_191 (by omega) q_62) rfl rfl rfl ?_
          refine go_istore_n (pc' := 66) (lo' := [some (.inr (.inr th)), some (.inl a0), some (.inl r_62), some (.inl v3_34), z4_34]) rfl rfl rfl ?_
          refine go_iconst (pc' := 67) (v := (nI 0)) rfl rfl rfl ?_
          refine go_istore (pc' := 69) (lo' := [some (.inr (.inr th)), some (.inl a0), some (.inl r_62), some (.inl v3_34), some (.inl (nI 0))]) rfl rfl rfl ?_
          obtain ⟨q69, hl69, hc69_129⟩ := o_s1E h
          have ex69_129 : ∀ (Ix_129 : ai_I) (z4_x129 : Option ai_V), Ix_129 = q69 → ai_Go si_t (11, false, 0, cd_289) (ai_Cl si_t si_ms e) (sp_Q (some (.inl r)) I1 J Rf G) 129 [some (.inr (.inr th)), some (.inl a0), some (.inl r_62), some (.inl v3_34), z4_x129] [] (0, 0) Ix_129 J Rf G := by
            intro Ix_129 z4_x129 hq
            have h : m_289_x69_129 v3_34 r_62 Ix_129 = some x34 := hc69_129 Ix_129 hq.symm
            unfold m_289_x69_129 at h
            obtain ⟨x3_129, ex3_129, h⟩ := o_b1E h
            refine go_iincE (pc' := 132) rfl rfl (y := (nI 1)) rfl ex3_129 (lo' := [some (.inr (.inr th)), some (.inl a0), some (.inl r_62), some (.inl x3_129), z4_x129]) rfl rfl ?_
            refine go_goto (pc' := 34) rfl rfl ?_
            exact (lp_backE h hk34 z4_x129 :)
          have lo69 : ∀ n s, lp (fun s => m_289_b69 th a0 Rf G v3_34 s.1 s.2) n s = some q69 → (fun s => ai_Go si_t (11, false, 0, cd_289) (ai_Cl si_t si_ms e) (sp_Q (some (.inl r)) I1 J Rf G) 69 [some (.inr (.inr th)), some (.inl a0), some (.inl r_62), some (.inl v3_34), some (.inl s.1)] [] (0, 0) s.2 J Rf G) s := lp_go (fun s x69 hx hk69 => by
            obtain ⟨v4_69, I_69⟩ := s
            have h : m_289_b69 th a0 Rf G v3_34 v4_69 I_69 = some x69 := hx
            clear hx
            show ai_Go si_t (11, false, 0, cd_289) (ai_Cl si_t si_ms e) (sp_Q (some (.inl r)) I1 J Rf G) 69 [some (.inr (.inr th)), some (.inl a0), some (.inl r_62), some (.inl v3_34), some (.inl v4_69)] [] (0, 0) I_69 J Rf G
            unfold m_289_b69 at h
            refine go_iload (pc' := 71) rfl rfl rfl ?_
            refine go_sipush (pc' := 74) (v := (nI 256)) rfl rfl rfl ?_
            refine go_icmp_ge (pt := 129) (pc' := 77) rfl rfl rfl (fun h74 => ?_) (fun h74 => ?_)
            · replace h := o_t h74 h
              exact ex69_129 _ (some (.inl v4_69)) (lp_exitE h hk69)
            · replace h := o_f h74 h
              refine go_aload_n (pc' := 78) rfl rfl rfl ?_
              refine go_iload_n (pc' := 79) rfl rfl rfl ?_
              refine go_iload (pc' := 81) rfl rfl rfl ?_
              obtain ⟨r_81, q_81, h⟩ := o_b1E h
              refine go_callV (pc' := 84) (B' := (0, 0)) (st' := [.inl r_81]) rfl rfl (Or.inl (by decide)) rfl rfl hth (md_199 (by omega) hth q_81) rfl rfl rfl ?_
              refine go_if_eq (pt := 123) (pc' := 87) rfl rfl rfl (fun h84 => ?_) (fun h84 => ?_)
              · replace h := o_t h84 h
                obtain ⟨x4_123, ex4_123, h⟩ := o_b1E h
                refine go_iincE (pc' := 126) rfl rfl (y := (nI 1)) rfl ex4_123 (lo' := [some (.inr (.inr th)), some (.inl a0), some (.inl r_62), some (.inl v3_34), some (.inl x4_123)]) rfl rfl ?_
                refine go_goto (pc' := 69) rfl rfl ?_
                exact (lp_backE h hk69 :)
              · replace h := o_f h84 h
                refine go_iload (pc' := 89) rfl rfl rfl ?_
                refine go_iload_n (pc' := 90) rfl rfl rfl ?_
                refine go_iand (pc' := 91) rfl rfl ?_
                refine go_if_ne (pt := 123) (pc' := 94) rfl rfl rfl (fun h91 => ?_) (fun h91 => ?_)
                · replace h := o_f h91 h
                  obtain ⟨x4_123, ex4_123, h⟩ := o_b1E h
                  refine go_iincE (pc' := 126) rfl rfl (y := (nI 1)) rfl ex4_123 (lo' := [some (.inr (.inr th)), some (.inl a0), some (.inl r_62), some (.inl v3_34), some (.inl x4_123)]) rfl rfl ?_
                  refine go_goto (pc' := 69) rfl rfl ?_
                  exact (lp_backE h hk69 :)
                · replace h := o_t (Decidable.of_not_not h91) h
                  refine go_aload_n (pc' := 95) rfl rfl rfl ?_
                  refine go_getR (pc' := 98) rfl rfl hth rfl ?_
                  refine go_iload_n (pc' := 99) rfl rfl rfl ?_
                  refine go_iload (pc' := 101) rfl rfl rfl ?_
                  refine go_ior (pc' := 102) rfl rfl ?_
                  refine go_aload_n (pc' := 103) rfl rfl rfl ?_
                  refine go_getR (pc' := 106) rfl rfl hth rfl ?_
                  refine go_iload_n (pc' := 107) rfl rfl rfl ?_
                  refine go_iload (pc' := 109) rfl rfl rfl ?_
                  refine go_ior (pc' := 110) rfl rfl ?_
                  obtain ⟨g2, h⟩ := o_gE h
                  refine go_iaload (pc' := 111) rfl (o_inK g2) (o_inB g2) rfl ?_
                  refine go_aload_n (pc' := 112) rfl rfl rfl ?_
                  refine go_getR (pc' := 115) rfl rfl hth rfl ?_
                  refine go_iload_n (pc' := 116) rfl rfl rfl ?_
                  obtain ⟨g3, h⟩ := o_gE h
                  refine go_iaload (pc' := 117) rfl (o_inK g3) (o_inB g3) rfl ?_
                  refine go_iconst (pc' := 118) (v := (nI 1)) rfl rfl rfl ?_
                  refine go_iadd (pc' := 119) rfl rfl ?_
                  obtain ⟨r_119, q_119, h⟩ := o_b1E h
                  refine go_callS (pc' := 122) (B' := (0, 0)) (st' := [.inl r_119, .inl (v3_34 ||| v4_69), .inr (.inr (Rf th 25))]) rfl rfl (Or.inl (by decide)) rfl rfl trivial (md_191 (by omega) q_119) rfl rfl rfl ?_
                  obtain ⟨g4, h⟩ := o_gE h
                  obtain ⟨I_122, eI_122, h⟩ := o_b1E h
                  refine go_iastore (pc' := 123) rfl (o_inK g4) (o_inB g4) rfl ?_
                  refine go_ndMI eI_122 ?_
                  obtain ⟨x4_123, ex4_123, h⟩ := o_b1E h
                  refine go_iincE (pc' := 126) rfl rfl (y := (nI 1)) rfl ex4_123 (lo' := [some (.inr (.inr th)), some (.inl a0), some (.inl r_62), some (.inl v3_34), some (.inl x4_123)]) rfl rfl ?_
                  refine go_goto (pc' := 69) rfl rfl ?_
                  exact (lp_backE h hk69 :))
          exact lo69 _ ((nI 0), I_34) hl69 
        · replace h := o_f h49 h
          refine go_goto (pc' := 129) rfl rfl ?_
          obtain ⟨x3_129, ex3_129, h⟩ := o_b1E h
          refine go_iincE (pc' := 132) rfl rfl (y := (nI 1)) rfl ex3_129 (lo' := [some (.inr (.inr th)), some (.inl a0), some (.inl v2_34), some (.inl x3_129), z4_34]) rfl rfl ?_
          refine go_goto (pc' := 34) rfl rfl ?_
          exact (lp_backE h hk34 z4_34 :))
    exact lo34 _ ((nI 0), (nI 0), Ix_32) hl34 none
  have lo4 : ∀ n s, lp (fun s => m_289_b4 th Rf G s.1 s.2) n s = some q4 → (fun s => ai_Go si_t (11, false, 0, cd_289) (ai_Cl si_t si_ms e) (sp_Q (some (.inl r)) I1 J Rf G) 4 [some (.inr (.inr th)), some (.inl a0), some (.inl (nI 0)), some (.inl s.1), none] [] (0, 0) s.2 J Rf G) s := lp_go (fun s x4 hx hk4 => by
    obtain ⟨v3_4, I_4⟩ := s
    have h : m_289_b4 th Rf G v3_4 I_4 = some x4 := hx
    clear hx
    show ai_Go si_t (11, false, 0, cd_289) (ai_Cl si_t si_ms e) (sp_Q (some (.inl r)) I1 J Rf G) 4 [some (.inr (.inr th)), some (.inl a0), some (.inl (nI 0)), some (.inl v3_4), none] [] (0, 0) I_4 J Rf G
    unfold m_289_b4 at h
    refine go_iload_n (pc' := 5) rfl rfl rfl ?_
    refine go_sipush (pc' := 8) (v := (nI 256)) rfl rfl rfl ?_
    refine go_icmp_ge (pt := 32) (pc' := 11) rfl rfl rfl (fun h8 => ?_) (fun h8 => ?_)
    · replace h := o_t h8 h
      exact ex4_32 _ (some (.inl v3_4)) (lp_exitE h hk4)
    · replace h := o_f h8 h
      refine go_aload_n (pc' := 12) rfl rfl rfl ?_
      refine go_getR (pc' := 15) rfl rfl hth rfl ?_
      refine go_iload_n (pc' := 16) rfl rfl rfl ?_
      refine go_iload_n (pc' := 17) rfl rfl rfl ?_
      have jn25 : ∀ (t2_25 : Int32), m_289_j25 th Rf G v3_4 I_4 t2_25 = some x4 → ai_Go si_t (11, false, 0, cd_289) (ai_Cl si_t si_ms e) (sp_Q (some (.inl r)) I1 J Rf G) 25 [some (.inr (.inr th)), some (.inl a0), some (.inl (nI 0)), some (.inl v3_4), none] [.inl t2_25, .inl v3_4, .inr (.inr (Rf th 25))] (0, 0) I_4 J Rf G := by
        intro t2_25 h
        unfold m_289_j25 at h
        obtain ⟨g5, h⟩ := o_gE h
        obtain ⟨I_25, eI_25, h⟩ := o_b1E h
        refine go_iastore (pc' := 26) rfl (o_inK g5) (o_inB g5) rfl ?_
        refine go_ndMI eI_25 ?_
        obtain ⟨x3_26, ex3_26, h⟩ := o_b1E h
        refine go_iincE (pc' := 29) rfl rfl (y := (nI 1)) rfl ex3_26 (lo' := [some (.inr (.inr th)), some (.inl a0), some (.inl (nI 0)), some (.inl x3_26), none]) rfl rfl ?_
        refine go_goto (pc' := 4) rfl rfl ?_
        exact (lp_backE h hk4 :)
      refine go_if_ne (pt := 24) (pc' := 20) rfl rfl rfl (fun h17 => ?_) (fun h17 => ?_)
      · replace h := o_f h17 h
        refine go_iconst (pc' := 25) (v := (-1 : Int32)) rfl rfl rfl ?_
        exact jn25 (-1 : Int32) h
      · replace h := o_t (Decidable.of_not_not h17) h
        refine go_iconst (pc' := 21) (v := (nI 0)) rfl rfl rfl ?_
        refine go_goto (pc' := 25) rfl rfl ?_
        exact jn25 (nI 0) h)
  exact lo4 _ ((nI 0), I) hl4 
/-- PricedBasesModel.together(II)I -/
def m_290 (th : Nat) (a0 : Int32) (a1 : Int32) (I : ai_I) (Rf : ai_R) (G : ai_G) : Option (Int32 × ai_I) :=
  o_b1 (m_200 a0) (fun r_1 => if r_1 = 0 then (some ((-1 : Int32), I)) else (o_b1 (m_189 a1.toInt64 (0 : Int64) (1 : Int64)) (fun r_11 => if r_11 = 0 then (some ((-1 : Int32), I)) else (if a1 = 0 then (o_b2 (m_288 th a0 I Rf G) (fun r_25 I_25 => some (r_25, I_25))) else (o_b2 (m_289 th a0 I Rf G) (fun r_33 I_33 => some (r_33, I_33)))))))
theorem md_290 {d : Nat} {I : ai_I} {J : ai_J} {Rf : ai_R} {G : ai_G} {th : Nat} {a0 : Int32} {a1 : Int32} {r : Int32} {I1 : ai_I} (hd : 4 ≤ d) (hth : G.1 th = 11) (h : m_290 th a0 a1 I Rf G = some (r, I1)) : ai_Cl si_t si_ms d 290 [.inr (.inr th), .inl a0, .inl a1] I J Rf G (some (.inl r)) I1 J Rf G := by
  obtain ⟨e, rfl⟩ : ∃ e, d = e + 1 := ⟨d - 1, by omega⟩
  unfold m_290 at h
  refine sp_in (lo := [some (.inr (.inr th)), some (.inl a0), some (.inl a1)]) (B := (0, 0)) rfl (Nat.le_of_ble_eq_true rfl) rfl rfl ?_
  refine go_iload_n (pc' := 1) rfl rfl rfl ?_
  obtain ⟨r_1, q_1, h⟩ := o_b1E h
  refine go_callS (pc' := 4) (B' := (0, 0)) (st' := [.inl r_1]) rfl rfl (Or.inl (by decide)) rfl rfl trivial (md_200 (by omega) q_1) rfl rfl rfl ?_
  refine go_if_eq (pt := 17) (pc' := 7) rfl rfl rfl (fun h4 => ?_) (fun h4 => ?_)
  · replace h := o_t h4 h
    refine go_iconst (pc' := 18) (v := (-1 : Int32)) rfl rfl rfl ?_
    cases h
    exact go_iret rfl (trivial) ⟨rfl, rfl, rfl, rfl, rfl⟩
  · replace h := o_f h4 h
    refine go_iload_n (pc' := 8) rfl rfl rfl ?_
    refine go_i2l (pc' := 9) rfl rfl ?_
    refine go_lconst (pc' := 10) (v := (0 : Int64)) rfl rfl rfl ?_
    refine go_lconst (pc' := 11) (v := (1 : Int64)) rfl rfl rfl ?_
    obtain ⟨r_11, q_11, h⟩ := o_b1E h
    refine go_callS (pc' := 14) (B' := (0, 0)) (st' := [.inl r_11]) rfl rfl (Or.inl (by decide)) rfl rfl trivial (md_189 (by omega) q_11) rfl rfl rfl ?_
    refine go_if_ne (pt := 19) (pc' := 17) rfl rfl rfl (fun h14 => ?_) (fun h14 => ?_)
    · replace h := o_f h14 h
      refine go_iload_n (pc' := 20) rfl rfl rfl ?_
      refine go_if_ne (pt := 31) (pc' := 23) rfl rfl rfl (fun h20 => ?_) (fun h20 => ?_)
      · replace h := o_f h20 h
        refine go_aload_n (pc' := 32) rfl rfl rfl ?_
        refine go_iload_n (pc' := 33) rfl rfl rfl ?_
        obtain ⟨r_33, I_33, q_33, h⟩ := o_b2E h
        refine go_callV (pc' := 36) (B' := (0, 0)) (st' := [.inl r_33]) rfl rfl (Or.inl (by decide)) rfl rfl hth (md_289 (by omega) hth q_33) rfl rfl rfl ?_
        cases h
        exact go_iret rfl (trivial) ⟨rfl, rfl, rfl, rfl, rfl⟩
      · replace h := o_t (Decidable.of_not_not h20) h
        refine go_aload_n (pc' := 24) rfl rfl rfl ?_
        refine go_iload_n (pc' := 25) rfl rfl rfl ?_
        obtain ⟨r_25, I_25, q_25, h⟩ := o_b2E h
        refine go_callV (pc' := 28) (B' := (0, 0)) (st' := [.inl r_25]) rfl rfl (Or.inl (by decide)) rfl rfl hth (md_288 (by omega) hth q_25) rfl rfl rfl ?_
        refine go_goto (pc' := 36) rfl rfl ?_
        cases h
        exact go_iret rfl (trivial) ⟨rfl, rfl, rfl, rfl, rfl⟩
    · replace h := o_t (Decidable.of_not_not h14) h
      refine go_iconst (pc' := 18) (v := (-1 : Int32)) rfl rfl rfl ?_
      cases h
      exact go_iret rfl (trivial) ⟨rfl, rfl, rfl, rfl, rfl⟩
def m_291_x29_68 (w3_68 : Int32) : Option (Int32) :=
  some w3_68
def m_291_b29 (th : Nat) (a0 : Int32) (a1 : Int32) (I : ai_I) (Rf : ai_R) (G : ai_G) (v3_29 : Int32) (v4_29 : Int32) : Option ((Int32 × Int32) ⊕ Int32) :=
  o_b1 (m_197 th a0 I Rf G) (fun r_33 => if r_33 < v4_29 then (some (Sum.inr v3_29)) else (o_b1 (m_193 v4_29) (fun r_41 => if r_41 = a1 then (o_b1 (m_252 th a0 v4_29 I Rf G) (fun r_52 => if r_52 = 0 then (o_b1 (some (v4_29 + (nI 1))) (fun x4_62 => some (Sum.inl (v3_29, x4_62)))) else (o_b1 (some (v3_29 + (nI 1))) (fun x3_61 => o_b1 (some (v4_29 + (nI 1))) (fun x4_62 => some (Sum.inl (x3_61, x4_62))))))) else (o_b1 (some (v4_29 + (nI 1))) (fun x4_62 => some (Sum.inl (v3_29, x4_62)))))))
/-- PricedBasesModel.sized(II)I -/
def m_291 (th : Nat) (a0 : Int32) (a1 : Int32) (I : ai_I) (Rf : ai_R) (G : ai_G) : Option (Int32) :=
  o_b1 (m_200 a0) (fun r_1 => if r_1 = 0 then (some (-1 : Int32)) else (o_b1 (m_195 th a0 I Rf G) (fun r_12 => o_b1 (m_189 a1.toInt64 (0 : Int64) r_12.toInt64) (fun r_16 => if r_16 = 0 then (some (-1 : Int32)) else (o_s1 (lp (fun s => m_291_b29 th a0 a1 I Rf G s.1 s.2) o_N ((nI 0), (nI 0))) (fun t => m_291_x29_68 t))))))
theorem md_291 {d : Nat} {I : ai_I} {J : ai_J} {Rf : ai_R} {G : ai_G} {th : Nat} {a0 : Int32} {a1 : Int32} {r : Int32} (hd : 5 ≤ d) (hth : G.1 th = 11) (h : m_291 th a0 a1 I Rf G = some r) : ai_Cl si_t si_ms d 291 [.inr (.inr th), .inl a0, .inl a1] I J Rf G (some (.inl r)) I J Rf G := by
  obtain ⟨e, rfl⟩ : ∃ e, d = e + 1 := ⟨d - 1, by omega⟩
  unfold m_291 at h
  refine sp_in (lo := [some (.inr (.inr th)), some (.inl a0), some (.inl a1), none, none]) (B := (0, 0)) rfl (Nat.le_of_ble_eq_true rfl) rfl rfl ?_
  refine go_iload_n (pc' := 1) rfl rfl rfl ?_
  obtain ⟨r_1, q_1, h⟩ := o_b1E h
  refine go_callS (pc' := 4) (B' := (0, 0)) (st' := [.inl r_1]) rfl rfl (Or.inl (by decide)) rfl rfl trivial (md_200 (by omega) q_1) rfl rfl rfl ?_
  refine go_if_eq (pt := 22) (pc' := 7) rfl rfl rfl (fun h4 => ?_) (fun h4 => ?_)
  · replace h := o_t h4 h
    refine go_iconst (pc' := 23) (v := (-1 : Int32)) rfl rfl rfl ?_
    cases h
    exact go_iret rfl (trivial) ⟨rfl, rfl, rfl, rfl, rfl⟩
  · replace h := o_f h4 h
    refine go_iload_n (pc' := 8) rfl rfl rfl ?_
    refine go_i2l (pc' := 9) rfl rfl ?_
    refine go_lconst (pc' := 10) (v := (0 : Int64)) rfl rfl rfl ?_
    refine go_aload_n (pc' := 11) rfl rfl rfl ?_
    refine go_iload_n (pc' := 12) rfl rfl rfl ?_
    obtain ⟨r_12, q_12, h⟩ := o_b1E h
    refine go_callV (pc' := 15) (B' := (0, 0)) (st' := [.inl r_12, .inr (.inl (0 : Int64)), .inr (.inl a1.toInt64)]) rfl rfl (Or.inl (by decide)) rfl rfl hth (md_195 (by omega) hth q_12) rfl rfl rfl ?_
    refine go_i2l (pc' := 16) rfl rfl ?_
    obtain ⟨r_16, q_16, h⟩ := o_b1E h
    refine go_callS (pc' := 19) (B' := (0, 0)) (st' := [.inl r_16]) rfl rfl (Or.inl (by decide)) rfl rfl trivial (md_189 (by omega) q_16) rfl rfl rfl ?_
    refine go_if_ne (pt := 24) (pc' := 22) rfl rfl rfl (fun h19 => ?_) (fun h19 => ?_)
    · replace h := o_f h19 h
      refine go_iconst (pc' := 25) (v := (nI 0)) rfl rfl rfl ?_
      refine go_istore_n (pc' := 26) (lo' := [some (.inr (.inr th)), some (.inl a0), some (.inl a1), some (.inl (nI 0)), none]) rfl rfl rfl ?_
      refine go_iconst (pc' := 27) (v := (nI 0)) rfl rfl rfl ?_
      refine go_istore (pc' := 29) (lo' := [some (.inr (.inr th)), some (.inl a0), some (.inl a1), some (.inl (nI 0)), some (.inl (nI 0))]) rfl rfl rfl ?_
      obtain ⟨q29, hl29, hc29_68⟩ := o_s1E h
      have ex29_68 : ∀ (w3_68 : Int32) (z4_x68 : Option ai_V), w3_68 = q29 → ai_Go si_t (11, false, 0, cd_291) (ai_Cl si_t si_ms e) (sp_Q (some (.inl r)) I J Rf G) 68 [some (.inr (.inr th)), some (.inl a0), some (.inl a1), some (.inl w3_68), z4_x68] [] (0, 0) I J Rf G := by
        intro w3_68 z4_x68 hq
        have h : m_291_x29_68 w3_68 = some r := hc29_68 w3_68 hq.symm
        unfold m_291_x29_68 at h
        refine go_iload_n (pc' := 69) rfl rfl rfl ?_
        cases h
        exact go_iret rfl (trivial) ⟨rfl, rfl, rfl, rfl, rfl⟩
      have lo29 : ∀ n s, lp (fun s => m_291_b29 th a0 a1 I Rf G s.1 s.2) n s = some q29 → (fun s => ai_Go si_t (11, false, 0, cd_291) (ai_Cl si_t si_ms e) (sp_Q (some (.inl r)) I J Rf G) 29 [some (.inr (.inr th)), some (.inl a0), some (.inl a1), some (.inl s.1), some (.inl s.2)] [] (0, 0) I J Rf G) s := lp_go (fun s x29 hx hk29 => by
        obtain ⟨v3_29, v4_29⟩ := s
        have h : m_291_b29 th a0 a1 I Rf G v3_29 v4_29 = some x29 := hx
        clear hx
        show ai_Go si_t (11, false, 0, cd_291) (ai_Cl si_t si_ms e) (sp_Q (some (.inl r)) I J Rf G) 29 [some (.inr (.inr th)), some (.inl a0), some (.inl a1), some (.inl v3_29), some (.inl v4_29)] [] (0, 0) I J Rf G
        unfold m_291_b29 at h
        refine go_iload (pc' := 31) rfl rfl rfl ?_
        refine go_aload_n (pc' := 32) rfl rfl rfl ?_
        refine go_iload_n (pc' := 33) rfl rfl rfl ?_
        obtain ⟨r_33, q_33, h⟩ := o_b1E h
        refine go_callV (pc' := 36) (B' := (0, 0)) (st' := [.inl r_33, .inl v4_29]) rfl rfl (Or.inl (by decide)) rfl rfl hth (md_197 (by omega) hth q_33) rfl rfl rfl ?_
        refine go_icmp_gt (pt := 68) (pc' := 39) rfl rfl rfl (fun h36 => ?_) (fun h36 => ?_)
        · replace h := o_t h36 h
          exact ex29_68 _ (some (.inl v4_29)) (lp_exitE h hk29)
        · replace h := o_f h36 h
          refine go_iload (pc' := 41) rfl rfl rfl ?_
          obtain ⟨r_41, q_41, h⟩ := o_b1E h
          refine go_callS (pc' := 44) (B' := (0, 0)) (st' := [.inl r_41]) rfl rfl (Or.inl (by decide)) rfl rfl trivial (md_193 (by omega) q_41) rfl rfl rfl ?_
          refine go_iload_n (pc' := 45) rfl rfl rfl ?_
          refine go_icmp_ne (pt := 62) (pc' := 48) rfl rfl rfl (fun h45 => ?_) (fun h45 => ?_)
          · replace h := o_f h45 h
            obtain ⟨x4_62, ex4_62, h⟩ := o_b1E h
            refine go_iincE (pc' := 65) rfl rfl (y := (nI 1)) rfl ex4_62 (lo' := [some (.inr (.inr th)), some (.inl a0), some (.inl a1), some (.inl v3_29), some (.inl x4_62)]) rfl rfl ?_
            refine go_goto (pc' := 29) rfl rfl ?_
            exact (lp_backE h hk29 :)
          · replace h := o_t (Decidable.of_not_not h45) h
            refine go_aload_n (pc' := 49) rfl rfl rfl ?_
            refine go_iload_n (pc' := 50) rfl rfl rfl ?_
            refine go_iload (pc' := 52) rfl rfl rfl ?_
            obtain ⟨r_52, q_52, h⟩ := o_b1E h
            refine go_callV (pc' := 55) (B' := (0, 0)) (st' := [.inl r_52]) rfl rfl (Or.inl (by decide)) rfl rfl hth (md_252 (by omega) hth q_52) rfl rfl rfl ?_
            refine go_if_eq (pt := 62) (pc' := 58) rfl rfl rfl (fun h55 => ?_) (fun h55 => ?_)
            · replace h := o_t h55 h
              obtain ⟨x4_62, ex4_62, h⟩ := o_b1E h
              refine go_iincE (pc' := 65) rfl rfl (y := (nI 1)) rfl ex4_62 (lo' := [some (.inr (.inr th)), some (.inl a0), some (.inl a1), some (.inl v3_29), some (.inl x4_62)]) rfl rfl ?_
              refine go_goto (pc' := 29) rfl rfl ?_
              exact (lp_backE h hk29 :)
            · replace h := o_f h55 h
              refine go_iload_n (pc' := 59) rfl rfl rfl ?_
              refine go_iconst (pc' := 60) (v := (nI 1)) rfl rfl rfl ?_
              refine go_iadd (pc' := 61) rfl rfl ?_
              obtain ⟨x3_61, ex3_61, h⟩ := o_b1E h
              refine go_ndI ex3_61 ?_
              refine go_istore_n (pc' := 62) (lo' := [some (.inr (.inr th)), some (.inl a0), some (.inl a1), some (.inl x3_61), some (.inl v4_29)]) rfl rfl rfl ?_
              obtain ⟨x4_62, ex4_62, h⟩ := o_b1E h
              refine go_iincE (pc' := 65) rfl rfl (y := (nI 1)) rfl ex4_62 (lo' := [some (.inr (.inr th)), some (.inl a0), some (.inl a1), some (.inl x3_61), some (.inl x4_62)]) rfl rfl ?_
              refine go_goto (pc' := 29) rfl rfl ?_
              exact (lp_backE h hk29 :))
      exact lo29 _ ((nI 0), (nI 0)) hl29 
    · replace h := o_t (Decidable.of_not_not h19) h
      refine go_iconst (pc' := 23) (v := (-1 : Int32)) rfl rfl rfl ?_
      cases h
      exact go_iret rfl (trivial) ⟨rfl, rfl, rfl, rfl, rfl⟩
def m_292_x5_22 (w2_22 : Int64) : Option (Int64) :=
  some w2_22
def m_292_b5 (a0 : Int32) (a1 : Int32) (v2_5 : Int64) (v4_5 : Int32) : Option ((Int64 × Int32) ⊕ Int64) :=
  if a1 ≤ v4_5 then (some (Sum.inr v2_5)) else (o_b1 (some (v2_5 * a0.toInt64)) (fun x2_15 => o_b1 (some (v4_5 + (nI 1))) (fun x4_16 => some (Sum.inl (x2_15, x4_16)))))
/-- PricedBasesModel.power(II)J -/
def m_292 (a0 : Int32) (a1 : Int32) : Option (Int64) :=
  o_s1 (lp (fun s => m_292_b5 a0 a1 s.1 s.2) o_N ((1 : Int64), (nI 0))) (fun t => m_292_x5_22 t)
theorem md_292 {d : Nat} {I : ai_I} {J : ai_J} {Rf : ai_R} {G : ai_G} {a0 : Int32} {a1 : Int32} {r : Int64} (hd : 1 ≤ d) (h : m_292 a0 a1 = some r) : ai_Cl si_t si_ms d 292 [.inl a0, .inl a1] I J Rf G (some (.inr (.inl r))) I J Rf G := by
  obtain ⟨e, rfl⟩ : ∃ e, d = e + 1 := ⟨d - 1, by omega⟩
  unfold m_292 at h
  refine sp_in (lo := [some (.inl a0), some (.inl a1), none, none, none]) (B := (0, 0)) rfl (Nat.le_of_ble_eq_true rfl) rfl rfl ?_
  refine go_lconst (pc' := 1) (v := (1 : Int64)) rfl rfl rfl ?_
  refine go_lstore_n (pc' := 2) (lo' := [some (.inl a0), some (.inl a1), some (.inr (.inl (1 : Int64))), none, none]) rfl rfl rfl ?_
  refine go_iconst (pc' := 3) (v := (nI 0)) rfl rfl rfl ?_
  refine go_istore (pc' := 5) (lo' := [some (.inl a0), some (.inl a1), some (.inr (.inl (1 : Int64))), none, some (.inl (nI 0))]) rfl rfl rfl ?_
  obtain ⟨q5, hl5, hc5_22⟩ := o_s1E h
  have ex5_22 : ∀ (w2_22 : Int64) (z4_x22 : Option ai_V), w2_22 = q5 → ai_Go si_t (11, false, 1, cd_292) (ai_Cl si_t si_ms e) (sp_Q (some (.inr (.inl r))) I J Rf G) 22 [some (.inl a0), some (.inl a1), some (.inr (.inl w2_22)), none, z4_x22] [] (0, 0) I J Rf G := by
    intro w2_22 z4_x22 hq
    have h : m_292_x5_22 w2_22 = some r := hc5_22 w2_22 hq.symm
    unfold m_292_x5_22 at h
    refine go_lload_n (pc' := 23) rfl rfl rfl ?_
    cases h
    exact go_lret rfl (rfl) ⟨rfl, rfl, rfl, rfl, rfl⟩
  have lo5 : ∀ n s, lp (fun s => m_292_b5 a0 a1 s.1 s.2) n s = some q5 → (fun s => ai_Go si_t (11, false, 1, cd_292) (ai_Cl si_t si_ms e) (sp_Q (some (.inr (.inl r))) I J Rf G) 5 [some (.inl a0), some (.inl a1), some (.inr (.inl s.1)), none, some (.inl s.2)] [] (0, 0) I J Rf G) s := lp_go (fun s x5 hx hk5 => by
    obtain ⟨v2_5, v4_5⟩ := s
    have h : m_292_b5 a0 a1 v2_5 v4_5 = some x5 := hx
    clear hx
    show ai_Go si_t (11, false, 1, cd_292) (ai_Cl si_t si_ms e) (sp_Q (some (.inr (.inl r))) I J Rf G) 5 [some (.inl a0), some (.inl a1), some (.inr (.inl v2_5)), none, some (.inl v4_5)] [] (0, 0) I J Rf G
    unfold m_292_b5 at h
    refine go_iload (pc' := 7) rfl rfl rfl ?_
    refine go_iload_n (pc' := 8) rfl rfl rfl ?_
    refine go_icmp_ge (pt := 22) (pc' := 11) rfl rfl rfl (fun h8 => ?_) (fun h8 => ?_)
    · replace h := o_t h8 h
      exact ex5_22 _ (some (.inl v4_5)) (lp_exitE h hk5)
    · replace h := o_f h8 h
      refine go_lload_n (pc' := 12) rfl rfl rfl ?_
      refine go_iload_n (pc' := 13) rfl rfl rfl ?_
      refine go_i2l (pc' := 14) rfl rfl ?_
      refine go_lmul (pc' := 15) rfl rfl ?_
      obtain ⟨x2_15, ex2_15, h⟩ := o_b1E h
      refine go_ndJ ex2_15 ?_
      refine go_lstore_n (pc' := 16) (lo' := [some (.inl a0), some (.inl a1), some (.inr (.inl x2_15)), none, some (.inl v4_5)]) rfl rfl rfl ?_
      obtain ⟨x4_16, ex4_16, h⟩ := o_b1E h
      refine go_iincE (pc' := 19) rfl rfl (y := (nI 1)) rfl ex4_16 (lo' := [some (.inl a0), some (.inl a1), some (.inr (.inl x2_15)), none, some (.inl x4_16)]) rfl rfl ?_
      refine go_goto (pc' := 5) rfl rfl ?_
      exact (lp_backE h hk5 :))
  exact lo5 _ ((1 : Int64), (nI 0)) hl5 
def m_293_x45_104 (w4_104 : Int64) : Option (Int64) :=
  some w4_104
def m_293_b45 (th : Nat) (a0 : Int32) (a1 : Int32) (a2 : Int32) (I : ai_I) (Rf : ai_R) (G : ai_G) (v4_45 : Int64) (v6_45 : Int32) : Option ((Int64 × Int32) ⊕ Int64) :=
  o_b1 (m_197 th a0 I Rf G) (fun r_49 => if r_49 < v6_45 then (some (Sum.inr v4_45)) else (o_b1 (m_250 th a0 v6_45 I Rf G) (fun r_59 => o_b1 (m_196 th a0 I Rf G) (fun r_71 => o_b1 (m_292 (a1 - (nI 1)) (r_71 - r_59)) (fun r_77 => o_b1 (m_193 v6_45) (fun r_85 => o_b1 (m_292 (a2 - (nI 1)) (r_85 - r_59)) (fun r_91 => o_b1 (some (v4_45 + (r_77 * r_91))) (fun x4_96 => o_b1 (some (v6_45 + (nI 1))) (fun x6_98 => some (Sum.inl (x4_96, x6_98)))))))))))
/-- PricedBasesModel.tutte(III)J -/
def m_293 (th : Nat) (a0 : Int32) (a1 : Int32) (a2 : Int32) (I : ai_I) (Rf : ai_R) (G : ai_G) : Option (Int64) :=
  o_b1 (m_200 a0) (fun r_1 => if r_1 = 0 then (some (-2147483648 : Int64)) else (o_b1 (m_189 a1.toInt64 (-3 : Int64) (4 : Int64)) (fun r_15 => if r_15 = 0 then (some (-2147483648 : Int64)) else (o_b1 (m_189 a2.toInt64 (-3 : Int64) (4 : Int64)) (fun r_29 => if r_29 = 0 then (some (-2147483648 : Int64)) else (o_s1 (lp (fun s => m_293_b45 th a0 a1 a2 I Rf G s.1 s.2) o_N ((0 : Int64), (nI 0))) (fun t => m_293_x45_104 t)))))))
theorem md_293 {d : Nat} {I : ai_I} {J : ai_J} {Rf : ai_R} {G : ai_G} {th : Nat} {a0 : Int32} {a1 : Int32} {a2 : Int32} {r : Int64} (hd : 4 ≤ d) (hth : G.1 th = 11) (h : m_293 th a0 a1 a2 I Rf G = some r) : ai_Cl si_t si_ms d 293 [.inr (.inr th), .inl a0, .inl a1, .inl a2] I J Rf G (some (.inr (.inl r))) I J Rf G := by
  obtain ⟨e, rfl⟩ : ∃ e, d = e + 1 := ⟨d - 1, by omega⟩
  unfold m_293 at h
  refine sp_in (lo := [some (.inr (.inr th)), some (.inl a0), some (.inl a1), some (.inl a2), none, none, none, none]) (B := (0, 0)) rfl (Nat.le_of_ble_eq_true rfl) rfl rfl ?_
  refine go_iload_n (pc' := 1) rfl rfl rfl ?_
  obtain ⟨r_1, q_1, h⟩ := o_b1E h
  refine go_callS (pc' := 4) (B' := (0, 0)) (st' := [.inl r_1]) rfl rfl (Or.inl (by decide)) rfl rfl trivial (md_200 (by omega) q_1) rfl rfl rfl ?_
  refine go_if_eq (pt := 35) (pc' := 7) rfl rfl rfl (fun h4 => ?_) (fun h4 => ?_)
  · replace h := o_t h4 h
    refine go_ldc2_w (pc' := 38) (v := .inr (.inl (-2147483648 : Int64))) rfl rfl rfl ?_
    cases h
    exact go_lret rfl (rfl) ⟨rfl, rfl, rfl, rfl, rfl⟩
  · replace h := o_f h4 h
    refine go_iload_n (pc' := 8) rfl rfl rfl ?_
    refine go_i2l (pc' := 9) rfl rfl ?_
    refine go_ldc2_w (pc' := 12) (v := .inr (.inl (-3 : Int64))) rfl rfl rfl ?_
    refine go_ldc2_w (pc' := 15) (v := .inr (.inl (4 : Int64))) rfl rfl rfl ?_
    obtain ⟨r_15, q_15, h⟩ := o_b1E h
    refine go_callS (pc' := 18) (B' := (0, 0)) (st' := [.inl r_15]) rfl rfl (Or.inl (by decide)) rfl rfl trivial (md_189 (by omega) q_15) rfl rfl rfl ?_
    refine go_if_eq (pt := 35) (pc' := 21) rfl rfl rfl (fun h18 => ?_) (fun h18 => ?_)
    · replace h := o_t h18 h
      refine go_ldc2_w (pc' := 38) (v := .inr (.inl (-2147483648 : Int64))) rfl rfl rfl ?_
      cases h
      exact go_lret rfl (rfl) ⟨rfl, rfl, rfl, rfl, rfl⟩
    · replace h := o_f h18 h
      refine go_iload_n (pc' := 22) rfl rfl rfl ?_
      refine go_i2l (pc' := 23) rfl rfl ?_
      refine go_ldc2_w (pc' := 26) (v := .inr (.inl (-3 : Int64))) rfl rfl rfl ?_
      refine go_ldc2_w (pc' := 29) (v := .inr (.inl (4 : Int64))) rfl rfl rfl ?_
      obtain ⟨r_29, q_29, h⟩ := o_b1E h
      refine go_callS (pc' := 32) (B' := (0, 0)) (st' := [.inl r_29]) rfl rfl (Or.inl (by decide)) rfl rfl trivial (md_189 (by omega) q_29) rfl rfl rfl ?_
      refine go_if_ne (pt := 39) (pc' := 35) rfl rfl rfl (fun h32 => ?_) (fun h32 => ?_)
      · replace h := o_f h32 h
        refine go_lconst (pc' := 40) (v := (0 : Int64)) rfl rfl rfl ?_
        refine go_lstore (pc' := 42) (lo' := [some (.inr (.inr th)), some (.inl a0), some (.inl a1), some (.inl a2), some (.inr (.inl (0 : Int64))), none, none, none]) rfl rfl rfl ?_
        refine go_iconst (pc' := 43) (v := (nI 0)) rfl rfl rfl ?_
        refine go_istore (pc' := 45) (lo' := [some (.inr (.inr th)), some (.inl a0), some (.inl a1), some (.inl a2), some (.inr (.inl (0 : Int64))), none, some (.inl (nI 0)), none]) rfl rfl rfl ?_
        obtain ⟨q45, hl45, hc45_104⟩ := o_s1E h
        have ex45_104 : ∀ (w4_104 : Int64) (z6_x104 : Option ai_V) (z7_x104 : Option ai_V), w4_104 = q45 → ai_Go si_t (11, false, 1, cd_293) (ai_Cl si_t si_ms e) (sp_Q (some (.inr (.inl r))) I J Rf G) 104 [some (.inr (.inr th)), some (.inl a0), some (.inl a1), some (.inl a2), some (.inr (.inl w4_104)), none, z6_x104, z7_x104] [] (0, 0) I J Rf G := by
          intro w4_104 z6_x104 z7_x104 hq
          have h : m_293_x45_104 w4_104 = some r := hc45_104 w4_104 hq.symm
          unfold m_293_x45_104 at h
          refine go_lload (pc' := 106) rfl rfl rfl ?_
          cases h
          exact go_lret rfl (rfl) ⟨rfl, rfl, rfl, rfl, rfl⟩
        have lo45 : ∀ n s, lp (fun s => m_293_b45 th a0 a1 a2 I Rf G s.1 s.2) n s = some q45 → (fun s => ∀ (z7_45 : Option ai_V), ai_Go si_t (11, false, 1, cd_293) (ai_Cl si_t si_ms e) (sp_Q (some (.inr (.inl r))) I J Rf G) 45 [some (.inr (.inr th)), some (.inl a0), some (.inl a1), some (.inl a2), some (.inr (.inl s.1)), none, some (.inl s.2), z7_45] [] (0, 0) I J Rf G) s := lp_go (fun s x45 hx hk45 => by
          obtain ⟨v4_45, v6_45⟩ := s
          intro z7_45
          have h : m_293_b45 th a0 a1 a2 I Rf G v4_45 v6_45 = some x45 := hx
          clear hx
          show ai_Go si_t (11, false, 1, cd_293) (ai_Cl si_t si_ms e) (sp_Q (some (.inr (.inl r))) I J Rf G) 45 [some (.inr (.inr th)), some (.inl a0), some (.inl a1), some (.inl a2), some (.inr (.inl v4_45)), none, some (.inl v6_45), z7_45] [] (0, 0) I J Rf G
          unfold m_293_b45 at h
          refine go_iload (pc' := 47) rfl rfl rfl ?_
          refine go_aload_n (pc' := 48) rfl rfl rfl ?_
          refine go_iload_n (pc' := 49) rfl rfl rfl ?_
          obtain ⟨r_49, q_49, h⟩ := o_b1E h
          refine go_callV (pc' := 52) (B' := (0, 0)) (st' := [.inl r_49, .inl v6_45]) rfl rfl (Or.inl (by decide)) rfl rfl hth (md_197 (by omega) hth q_49) rfl rfl rfl ?_
          refine go_icmp_gt (pt := 104) (pc' := 55) rfl rfl rfl (fun h52 => ?_) (fun h52 => ?_)
          · replace h := o_t h52 h
            exact ex45_104 _ (some (.inl v6_45)) z7_45 (lp_exitE h hk45)
          · replace h := o_f h52 h
            refine go_aload_n (pc' := 56) rfl rfl rfl ?_
            refine go_iload_n (pc' := 57) rfl rfl rfl ?_
            refine go_iload (pc' := 59) rfl rfl rfl ?_
            obtain ⟨r_59, q_59, h⟩ := o_b1E h
            refine go_callV (pc' := 62) (B' := (0, 0)) (st' := [.inl r_59]) rfl rfl (Or.inl (by decide)) rfl rfl hth (md_250 (by omega) hth q_59) rfl rfl rfl ?_
            refine go_istore (pc' := 64) (lo' := [some (.inr (.inr th)), some (.inl a0), some (.inl a1), some (.inl a2), some (.inr (.inl v4_45)), none, some (.inl v6_45), some (.inl r_59)]) rfl rfl rfl ?_
            refine go_lload (pc' := 66) rfl rfl rfl ?_
            refine go_iload_n (pc' := 67) rfl rfl rfl ?_
            refine go_iconst (pc' := 68) (v := (nI 1)) rfl rfl rfl ?_
            refine go_isub (pc' := 69) rfl rfl ?_
            refine go_aload_n (pc' := 70) rfl rfl rfl ?_
            refine go_iload_n (pc' := 71) rfl rfl rfl ?_
            obtain ⟨r_71, q_71, h⟩ := o_b1E h
            refine go_callV (pc' := 74) (B' := (0, 0)) (st' := [.inl r_71, .inl (a1 - (nI 1)), .inr (.inl v4_45)]) rfl rfl (Or.inl (by decide)) rfl rfl hth (md_196 (by omega) hth q_71) rfl rfl rfl ?_
            refine go_iload (pc' := 76) rfl rfl rfl ?_
            refine go_isub (pc' := 77) rfl rfl ?_
            obtain ⟨r_77, q_77, h⟩ := o_b1E h
            refine go_callS (pc' := 80) (B' := (0, 0)) (st' := [.inr (.inl r_77), .inr (.inl v4_45)]) rfl rfl (Or.inl (by decide)) rfl rfl trivial (md_292 (by omega) q_77) rfl rfl rfl ?_
            refine go_iload_n (pc' := 81) rfl rfl rfl ?_
            refine go_iconst (pc' := 82) (v := (nI 1)) rfl rfl rfl ?_
            refine go_isub (pc' := 83) rfl rfl ?_
            refine go_iload (pc' := 85) rfl rfl rfl ?_
            obtain ⟨r_85, q_85, h⟩ := o_b1E h
            refine go_callS (pc' := 88) (B' := (0, 0)) (st' := [.inl r_85, .inl (a2 - (nI 1)), .inr (.inl r_77), .inr (.inl v4_45)]) rfl rfl (Or.inl (by decide)) rfl rfl trivial (md_193 (by omega) q_85) rfl rfl rfl ?_
            refine go_iload (pc' := 90) rfl rfl rfl ?_
            refine go_isub (pc' := 91) rfl rfl ?_
            obtain ⟨r_91, q_91, h⟩ := o_b1E h
            refine go_callS (pc' := 94) (B' := (0, 0)) (st' := [.inr (.inl r_91), .inr (.inl r_77), .inr (.inl v4_45)]) rfl rfl (Or.inl (by decide)) rfl rfl trivial (md_292 (by omega) q_91) rfl rfl rfl ?_
            refine go_lmul (pc' := 95) rfl rfl ?_
            refine go_ladd (pc' := 96) rfl rfl ?_
            obtain ⟨x4_96, ex4_96, h⟩ := o_b1E h
            refine go_ndJ ex4_96 ?_
            refine go_lstore (pc' := 98) (lo' := [some (.inr (.inr th)), some (.inl a0), some (.inl a1), some (.inl a2), some (.inr (.inl x4_96)), none, some (.inl v6_45), some (.inl r_59)]) rfl rfl rfl ?_
            obtain ⟨x6_98, ex6_98, h⟩ := o_b1E h
            refine go_iincE (pc' := 101) rfl rfl (y := (nI 1)) rfl ex6_98 (lo' := [some (.inr (.inr th)), some (.inl a0), some (.inl a1), some (.inl a2), some (.inr (.inl x4_96)), none, some (.inl x6_98), some (.inl r_59)]) rfl rfl ?_
            refine go_goto (pc' := 45) rfl rfl ?_
            exact (lp_backE h hk45 (some (.inl r_59)) :))
        exact lo45 _ ((0 : Int64), (nI 0)) hl45 none
      · replace h := o_t (Decidable.of_not_not h32) h
        refine go_ldc2_w (pc' := 38) (v := .inr (.inl (-2147483648 : Int64))) rfl rfl rfl ?_
        cases h
        exact go_lret rfl (rfl) ⟨rfl, rfl, rfl, rfl, rfl⟩
def m_294_x4_20 (w1_20 : Int64) : Option (Int64) :=
  some w1_20
def m_294_b4 (a0 : Int32) (v1_4 : Int64) (v3_4 : Int32) : Option ((Int64 × Int32) ⊕ Int64) :=
  if a0 < v3_4 then (some (Sum.inr v1_4)) else (o_b1 (some (v1_4 * v3_4.toInt64)) (fun x1_13 => o_b1 (some (v3_4 + (nI 1))) (fun x3_14 => some (Sum.inl (x1_13, x3_14)))))
/-- PricedBasesModel.orders0(I)J -/
def m_294 (a0 : Int32) : Option (Int64) :=
  o_s1 (lp (fun s => m_294_b4 a0 s.1 s.2) o_N ((1 : Int64), (nI 2))) (fun t => m_294_x4_20 t)
theorem md_294 {d : Nat} {I : ai_I} {J : ai_J} {Rf : ai_R} {G : ai_G} {a0 : Int32} {r : Int64} (hd : 1 ≤ d) (h : m_294 a0 = some r) : ai_Cl si_t si_ms d 294 [.inl a0] I J Rf G (some (.inr (.inl r))) I J Rf G := by
  obtain ⟨e, rfl⟩ : ∃ e, d = e + 1 := ⟨d - 1, by omega⟩
  unfold m_294 at h
  refine sp_in (lo := [some (.inl a0), none, none, none]) (B := (0, 0)) rfl (Nat.le_of_ble_eq_true rfl) rfl rfl ?_
  refine go_lconst (pc' := 1) (v := (1 : Int64)) rfl rfl rfl ?_
  refine go_lstore_n (pc' := 2) (lo' := [some (.inl a0), some (.inr (.inl (1 : Int64))), none, none]) rfl rfl rfl ?_
  refine go_iconst (pc' := 3) (v := (nI 2)) rfl rfl rfl ?_
  refine go_istore_n (pc' := 4) (lo' := [some (.inl a0), some (.inr (.inl (1 : Int64))), none, some (.inl (nI 2))]) rfl rfl rfl ?_
  obtain ⟨q4, hl4, hc4_20⟩ := o_s1E h
  have ex4_20 : ∀ (w1_20 : Int64) (z3_x20 : Option ai_V), w1_20 = q4 → ai_Go si_t (11, false, 1, cd_294) (ai_Cl si_t si_ms e) (sp_Q (some (.inr (.inl r))) I J Rf G) 20 [some (.inl a0), some (.inr (.inl w1_20)), none, z3_x20] [] (0, 0) I J Rf G := by
    intro w1_20 z3_x20 hq
    have h : m_294_x4_20 w1_20 = some r := hc4_20 w1_20 hq.symm
    unfold m_294_x4_20 at h
    refine go_lload_n (pc' := 21) rfl rfl rfl ?_
    cases h
    exact go_lret rfl (rfl) ⟨rfl, rfl, rfl, rfl, rfl⟩
  have lo4 : ∀ n s, lp (fun s => m_294_b4 a0 s.1 s.2) n s = some q4 → (fun s => ai_Go si_t (11, false, 1, cd_294) (ai_Cl si_t si_ms e) (sp_Q (some (.inr (.inl r))) I J Rf G) 4 [some (.inl a0), some (.inr (.inl s.1)), none, some (.inl s.2)] [] (0, 0) I J Rf G) s := lp_go (fun s x4 hx hk4 => by
    obtain ⟨v1_4, v3_4⟩ := s
    have h : m_294_b4 a0 v1_4 v3_4 = some x4 := hx
    clear hx
    show ai_Go si_t (11, false, 1, cd_294) (ai_Cl si_t si_ms e) (sp_Q (some (.inr (.inl r))) I J Rf G) 4 [some (.inl a0), some (.inr (.inl v1_4)), none, some (.inl v3_4)] [] (0, 0) I J Rf G
    unfold m_294_b4 at h
    refine go_iload_n (pc' := 5) rfl rfl rfl ?_
    refine go_iload_n (pc' := 6) rfl rfl rfl ?_
    refine go_icmp_gt (pt := 20) (pc' := 9) rfl rfl rfl (fun h6 => ?_) (fun h6 => ?_)
    · replace h := o_t h6 h
      exact ex4_20 _ (some (.inl v3_4)) (lp_exitE h hk4)
    · replace h := o_f h6 h
      refine go_lload_n (pc' := 10) rfl rfl rfl ?_
      refine go_iload_n (pc' := 11) rfl rfl rfl ?_
      refine go_i2l (pc' := 12) rfl rfl ?_
      refine go_lmul (pc' := 13) rfl rfl ?_
      obtain ⟨x1_13, ex1_13, h⟩ := o_b1E h
      refine go_ndJ ex1_13 ?_
      refine go_lstore_n (pc' := 14) (lo' := [some (.inl a0), some (.inr (.inl x1_13)), none, some (.inl v3_4)]) rfl rfl rfl ?_
      obtain ⟨x3_14, ex3_14, h⟩ := o_b1E h
      refine go_iincE (pc' := 17) rfl rfl (y := (nI 1)) rfl ex3_14 (lo' := [some (.inl a0), some (.inr (.inl x1_13)), none, some (.inl x3_14)]) rfl rfl ?_
      refine go_goto (pc' := 4) rfl rfl ?_
      exact (lp_backE h hk4 :))
  exact lo4 _ ((1 : Int64), (nI 2)) hl4 
def m_295_x6_31 (w4_31 : Int64) : Option (Int64) :=
  some w4_31
def m_295_b6 (v4_6 : Int64) (v6_6 : Int64) : Option ((Int64 × Int64) ⊕ Int64) :=
  if (ai_cmp v6_6 (0 : Int64)) = 0 then (some (Sum.inr v4_6)) else (o_g (o_nzJ v6_6) (o_b1 (some (v4_6 - v4_6 / v6_6 * v6_6)) (fun x8_18 => some (Sum.inl (v6_6, x8_18)))))
/-- PricedBasesModel.commonOf(JJ)J -/
def m_295 (a0 : Int64) (a1 : Int64) : Option (Int64) :=
  o_s1 (lp (fun s => m_295_b6 s.1 s.2) o_N (a0, a1)) (fun t => m_295_x6_31 t)
theorem md_295 {d : Nat} {I : ai_I} {J : ai_J} {Rf : ai_R} {G : ai_G} {a0 : Int64} {a1 : Int64} {r : Int64} (hd : 1 ≤ d) (h : m_295 a0 a1 = some r) : ai_Cl si_t si_ms d 295 [.inr (.inl a0), .inr (.inl a1)] I J Rf G (some (.inr (.inl r))) I J Rf G := by
  obtain ⟨e, rfl⟩ : ∃ e, d = e + 1 := ⟨d - 1, by omega⟩
  unfold m_295 at h
  refine sp_in (lo := [some (.inr (.inl a0)), none, some (.inr (.inl a1)), none, none, none, none, none, none, none]) (B := (0, 0)) rfl (Nat.le_of_ble_eq_true rfl) rfl rfl ?_
  refine go_lload_n (pc' := 1) rfl rfl rfl ?_
  refine go_lstore (pc' := 3) (lo' := [some (.inr (.inl a0)), none, some (.inr (.inl a1)), none, some (.inr (.inl a0)), none, none, none, none, none]) rfl rfl rfl ?_
  refine go_lload_n (pc' := 4) rfl rfl rfl ?_
  refine go_lstore (pc' := 6) (lo' := [some (.inr (.inl a0)), none, some (.inr (.inl a1)), none, some (.inr (.inl a0)), none, some (.inr (.inl a1)), none, none, none]) rfl rfl rfl ?_
  obtain ⟨q6, hl6, hc6_31⟩ := o_s1E h
  have ex6_31 : ∀ (w4_31 : Int64) (z6_x31 : Option ai_V) (z7_x31 : Option ai_V) (z8_x31 : Option ai_V) (z9_x31 : Option ai_V), w4_31 = q6 → ai_Go si_t (11, false, 1, cd_295) (ai_Cl si_t si_ms e) (sp_Q (some (.inr (.inl r))) I J Rf G) 31 [some (.inr (.inl a0)), none, some (.inr (.inl a1)), none, some (.inr (.inl w4_31)), none, z6_x31, z7_x31, z8_x31, z9_x31] [] (0, 0) I J Rf G := by
    intro w4_31 z6_x31 z7_x31 z8_x31 z9_x31 hq
    have h : m_295_x6_31 w4_31 = some r := hc6_31 w4_31 hq.symm
    unfold m_295_x6_31 at h
    refine go_lload (pc' := 33) rfl rfl rfl ?_
    cases h
    exact go_lret rfl (rfl) ⟨rfl, rfl, rfl, rfl, rfl⟩
  have lo6 : ∀ n s, lp (fun s => m_295_b6 s.1 s.2) n s = some q6 → (fun s => ∀ (z8_6 : Option ai_V) (z9_6 : Option ai_V), ai_Go si_t (11, false, 1, cd_295) (ai_Cl si_t si_ms e) (sp_Q (some (.inr (.inl r))) I J Rf G) 6 [some (.inr (.inl a0)), none, some (.inr (.inl a1)), none, some (.inr (.inl s.1)), none, some (.inr (.inl s.2)), none, z8_6, z9_6] [] (0, 0) I J Rf G) s := lp_go (fun s x6 hx hk6 => by
    obtain ⟨v4_6, v6_6⟩ := s
    intro z8_6 z9_6
    have h : m_295_b6 v4_6 v6_6 = some x6 := hx
    clear hx
    show ai_Go si_t (11, false, 1, cd_295) (ai_Cl si_t si_ms e) (sp_Q (some (.inr (.inl r))) I J Rf G) 6 [some (.inr (.inl a0)), none, some (.inr (.inl a1)), none, some (.inr (.inl v4_6)), none, some (.inr (.inl v6_6)), none, z8_6, z9_6] [] (0, 0) I J Rf G
    unfold m_295_b6 at h
    refine go_lload (pc' := 8) rfl rfl rfl ?_
    refine go_lconst (pc' := 9) (v := (0 : Int64)) rfl rfl rfl ?_
    refine go_lcmp (pc' := 10) rfl rfl ?_
    refine go_if_eq (pt := 31) (pc' := 13) rfl rfl rfl (fun h10 => ?_) (fun h10 => ?_)
    · replace h := o_t h10 h
      exact ex6_31 _ (some (.inr (.inl v6_6))) none z8_6 z9_6 (lp_exitE h hk6)
    · replace h := o_f h10 h
      refine go_lload (pc' := 15) rfl rfl rfl ?_
      refine go_lload (pc' := 17) rfl rfl rfl ?_
      obtain ⟨g0, h⟩ := o_gE h
      refine go_lrem (pc' := 18) rfl (o_nzJE g0) rfl ?_
      obtain ⟨x8_18, ex8_18, h⟩ := o_b1E h
      refine go_ndJ ex8_18 ?_
      refine go_lstore (pc' := 20) (lo' := [some (.inr (.inl a0)), none, some (.inr (.inl a1)), none, some (.inr (.inl v4_6)), none, some (.inr (.inl v6_6)), none, some (.inr (.inl x8_18)), none]) rfl rfl rfl ?_
      refine go_lload (pc' := 22) rfl rfl rfl ?_
      refine go_lstore (pc' := 24) (lo' := [some (.inr (.inl a0)), none, some (.inr (.inl a1)), none, some (.inr (.inl v6_6)), none, some (.inr (.inl v6_6)), none, some (.inr (.inl x8_18)), none]) rfl rfl rfl ?_
      refine go_lload (pc' := 26) rfl rfl rfl ?_
      refine go_lstore (pc' := 28) (lo' := [some (.inr (.inl a0)), none, some (.inr (.inl a1)), none, some (.inr (.inl v6_6)), none, some (.inr (.inl x8_18)), none, some (.inr (.inl x8_18)), none]) rfl rfl rfl ?_
      refine go_goto (pc' := 6) rfl rfl ?_
      exact (lp_backE h hk6 (some (.inr (.inl x8_18))) none :))
  exact lo6 _ (a0, a1) hl6 none none
def m_296_x36_119 (th : Nat) (a0 : Int32) (a2 : Int32) (I : ai_I) (Rf : ai_R) (G : ai_G) (w4_119 : Int64) : Option (Int64) :=
  o_b1 (m_195 th a0 I Rf G) (fun r_121 => o_b1 (m_294 r_121) (fun r_124 => o_b1 (m_295 r_124 w4_119) (fun r_133 => if a2 = 0 then (o_g (o_nzJ r_133) (some (w4_119 / r_133))) else (o_g (o_nzJ r_133) (some (r_124 / r_133))))))
def m_296_b36 (th : Nat) (a0 : Int32) (a1 : Int32) (I : ai_I) (Rf : ai_R) (G : ai_G) (v4_36 : Int64) (v6_36 : Int32) : Option ((Int64 × Int32) ⊕ Int64) :=
  o_b1 (m_197 th a0 I Rf G) (fun r_40 => if r_40 < v6_36 then (some (Sum.inr v4_36)) else (o_b1 (m_192 v6_36 a1) (fun r_49 => if r_49 = 0 then (o_b1 (m_250 th a0 (v6_36 ||| ((nI 1) <<< (a1 &&& 31))) I Rf G) (fun r_66 => o_b1 (m_250 th a0 v6_36 I Rf G) (fun r_73 => o_b1 (some (r_66 - r_73)) (fun x7_77 => o_b1 (m_193 v6_36) (fun r_86 => o_b1 (m_294 r_86) (fun r_89 => o_b1 (m_195 th a0 I Rf G) (fun r_95 => o_b1 (m_193 v6_36) (fun r_100 => o_b1 (m_294 ((r_95 - r_100) - (nI 1))) (fun r_106 => o_b1 (some (v4_36 + ((x7_77.toInt64 * r_89) * r_106))) (fun x4_111 => o_b1 (some (v6_36 + (nI 1))) (fun x6_113 => some (Sum.inl (x4_111, x6_113))))))))))))) else (o_b1 (some (v6_36 + (nI 1))) (fun x6_113 => some (Sum.inl (v4_36, x6_113)))))))
/-- PricedBasesModel.share(III)J -/
def m_296 (th : Nat) (a0 : Int32) (a1 : Int32) (a2 : Int32) (I : ai_I) (Rf : ai_R) (G : ai_G) : Option (Int64) :=
  o_b1 (m_200 a0) (fun r_1 => if r_1 = 0 then (some (-2147483648 : Int64)) else (o_b1 (m_202 th a0 a1 I Rf G) (fun r_10 => if r_10 = 0 then (some (-2147483648 : Int64)) else (o_b1 (m_189 a2.toInt64 (0 : Int64) (1 : Int64)) (fun r_20 => if r_20 = 0 then (some (-2147483648 : Int64)) else (o_s1 (lp (fun s => m_296_b36 th a0 a1 I Rf G s.1 s.2) o_N ((0 : Int64), (nI 0))) (fun t => m_296_x36_119 th a0 a2 I Rf G t)))))))
theorem md_296 {d : Nat} {I : ai_I} {J : ai_J} {Rf : ai_R} {G : ai_G} {th : Nat} {a0 : Int32} {a1 : Int32} {a2 : Int32} {r : Int64} (hd : 4 ≤ d) (hth : G.1 th = 11) (h : m_296 th a0 a1 a2 I Rf G = some r) : ai_Cl si_t si_ms d 296 [.inr (.inr th), .inl a0, .inl a1, .inl a2] I J Rf G (some (.inr (.inl r))) I J Rf G := by
  obtain ⟨e, rfl⟩ : ∃ e, d = e + 1 := ⟨d - 1, by omega⟩
  unfold m_296 at h
  refine sp_in (lo := [some (.inr (.inr th)), some (.inl a0), some (.inl a1), some (.inl a2), none, none, none, none, none, none]) (B := (0, 0)) rfl (Nat.le_of_ble_eq_true rfl) rfl rfl ?_
  refine go_iload_n (pc' := 1) rfl rfl rfl ?_
  obtain ⟨r_1, q_1, h⟩ := o_b1E h
  refine go_callS (pc' := 4) (B' := (0, 0)) (st' := [.inl r_1]) rfl rfl (Or.inl (by decide)) rfl rfl trivial (md_200 (by omega) q_1) rfl rfl rfl ?_
  refine go_if_eq (pt := 26) (pc' := 7) rfl rfl rfl (fun h4 => ?_) (fun h4 => ?_)
  · replace h := o_t h4 h
    refine go_ldc2_w (pc' := 29) (v := .inr (.inl (-2147483648 : Int64))) rfl rfl rfl ?_
    cases h
    exact go_lret rfl (rfl) ⟨rfl, rfl, rfl, rfl, rfl⟩
  · replace h := o_f h4 h
    refine go_aload_n (pc' := 8) rfl rfl rfl ?_
    refine go_iload_n (pc' := 9) rfl rfl rfl ?_
    refine go_iload_n (pc' := 10) rfl rfl rfl ?_
    obtain ⟨r_10, q_10, h⟩ := o_b1E h
    refine go_callV (pc' := 13) (B' := (0, 0)) (st' := [.inl r_10]) rfl rfl (Or.inl (by decide)) rfl rfl hth (md_202 (by omega) hth q_10) rfl rfl rfl ?_
    refine go_if_eq (pt := 26) (pc' := 16) rfl rfl rfl (fun h13 => ?_) (fun h13 => ?_)
    · replace h := o_t h13 h
      refine go_ldc2_w (pc' := 29) (v := .inr (.inl (-2147483648 : Int64))) rfl rfl rfl ?_
      cases h
      exact go_lret rfl (rfl) ⟨rfl, rfl, rfl, rfl, rfl⟩
    · replace h := o_f h13 h
      refine go_iload_n (pc' := 17) rfl rfl rfl ?_
      refine go_i2l (pc' := 18) rfl rfl ?_
      refine go_lconst (pc' := 19) (v := (0 : Int64)) rfl rfl rfl ?_
      refine go_lconst (pc' := 20) (v := (1 : Int64)) rfl rfl rfl ?_
      obtain ⟨r_20, q_20, h⟩ := o_b1E h
      refine go_callS (pc' := 23) (B' := (0, 0)) (st' := [.inl r_20]) rfl rfl (Or.inl (by decide)) rfl rfl trivial (md_189 (by omega) q_20) rfl rfl rfl ?_
      refine go_if_ne (pt := 30) (pc' := 26) rfl rfl rfl (fun h23 => ?_) (fun h23 => ?_)
      · replace h := o_f h23 h
        refine go_lconst (pc' := 31) (v := (0 : Int64)) rfl rfl rfl ?_
        refine go_lstore (pc' := 33) (lo' := [some (.inr (.inr th)), some (.inl a0), some (.inl a1), some (.inl a2), some (.inr (.inl (0 : Int64))), none, none, none, none, none]) rfl rfl rfl ?_
        refine go_iconst (pc' := 34) (v := (nI 0)) rfl rfl rfl ?_
        refine go_istore (pc' := 36) (lo' := [some (.inr (.inr th)), some (.inl a0), some (.inl a1), some (.inl a2), some (.inr (.inl (0 : Int64))), none, some (.inl (nI 0)), none, none, none]) rfl rfl rfl ?_
        obtain ⟨q36, hl36, hc36_119⟩ := o_s1E h
        have ex36_119 : ∀ (w4_119 : Int64) (z6_x119 : Option ai_V) (z7_x119 : Option ai_V), w4_119 = q36 → ai_Go si_t (11, false, 1, cd_296) (ai_Cl si_t si_ms e) (sp_Q (some (.inr (.inl r))) I J Rf G) 119 [some (.inr (.inr th)), some (.inl a0), some (.inl a1), some (.inl a2), some (.inr (.inl w4_119)), none, z6_x119, z7_x119, none, none] [] (0, 0) I J Rf G := by
          intro w4_119 z6_x119 z7_x119 hq
          have h : m_296_x36_119 th a0 a2 I Rf G w4_119 = some r := hc36_119 w4_119 hq.symm
          unfold m_296_x36_119 at h
          refine go_aload_n (pc' := 120) rfl rfl rfl ?_
          refine go_iload_n (pc' := 121) rfl rfl rfl ?_
          obtain ⟨r_121, q_121, h⟩ := o_b1E h
          refine go_callV (pc' := 124) (B' := (0, 0)) (st' := [.inl r_121]) rfl rfl (Or.inl (by decide)) rfl rfl hth (md_195 (by omega) hth q_121) rfl rfl rfl ?_
          obtain ⟨r_124, q_124, h⟩ := o_b1E h
          refine go_callS (pc' := 127) (B' := (0, 0)) (st' := [.inr (.inl r_124)]) rfl rfl (Or.inl (by decide)) rfl rfl trivial (md_294 (by omega) q_124) rfl rfl rfl ?_
          refine go_lstore (pc' := 129) (lo' := [some (.inr (.inr th)), some (.inl a0), some (.inl a1), some (.inl a2), some (.inr (.inl w4_119)), none, some (.inr (.inl r_124)), none, none, none]) rfl rfl rfl ?_
          refine go_lload (pc' := 131) rfl rfl rfl ?_
          refine go_lload (pc' := 133) rfl rfl rfl ?_
          obtain ⟨r_133, q_133, h⟩ := o_b1E h
          refine go_callS (pc' := 136) (B' := (0, 0)) (st' := [.inr (.inl r_133)]) rfl rfl (Or.inl (by decide)) rfl rfl trivial (md_295 (by omega) q_133) rfl rfl rfl ?_
          refine go_lstore (pc' := 138) (lo' := [some (.inr (.inr th)), some (.inl a0), some (.inl a1), some (.inl a2), some (.inr (.inl w4_119)), none, some (.inr (.inl r_124)), none, some (.inr (.inl r_133)), none]) rfl rfl rfl ?_
          refine go_iload_n (pc' := 139) rfl rfl rfl ?_
          refine go_if_ne (pt := 150) (pc' := 142) rfl rfl rfl (fun h139 => ?_) (fun h139 => ?_)
          · replace h := o_f h139 h
            refine go_lload (pc' := 152) rfl rfl rfl ?_
            refine go_lload (pc' := 154) rfl rfl rfl ?_
            obtain ⟨g0, h⟩ := o_gE h
            refine go_ldiv (pc' := 155) rfl (o_nzJE g0) rfl ?_
            cases h
            exact go_lret rfl (rfl) ⟨rfl, rfl, rfl, rfl, rfl⟩
          · replace h := o_t (Decidable.of_not_not h139) h
            refine go_lload (pc' := 144) rfl rfl rfl ?_
            refine go_lload (pc' := 146) rfl rfl rfl ?_
            obtain ⟨g1, h⟩ := o_gE h
            refine go_ldiv (pc' := 147) rfl (o_nzJE g1) rfl ?_
            refine go_goto (pc' := 155) rfl rfl ?_
            cases h
            exact go_lret rfl (rfl) ⟨rfl, rfl, rfl, rfl, rfl⟩
        have lo36 : ∀ n s, lp (fun s => m_296_b36 th a0 a1 I Rf G s.1 s.2) n s = some q36 → (fun s => ∀ (z7_36 : Option ai_V), ai_Go si_t (11, false, 1, cd_296) (ai_Cl si_t si_ms e) (sp_Q (some (.inr (.inl r))) I J Rf G) 36 [some (.inr (.inr th)), some (.inl a0), some (.inl a1), some (.inl a2), some (.inr (.inl s.1)), none, some (.inl s.2), z7_36, none, none] [] (0, 0) I J Rf G) s := lp_go (fun s x36 hx hk36 => by
          obtain ⟨v4_36, v6_36⟩ := s
          intro z7_36
          have h : m_296_b36 th a0 a1 I Rf G v4_36 v6_36 = some x36 := hx
          clear hx
          show ai_Go si_t (11, false, 1, cd_296) (ai_Cl si_t si_ms e) (sp_Q (some (.inr (.inl r))) I J Rf G) 36 [some (.inr (.inr th)), some (.inl a0), some (.inl a1), some (.inl a2), some (.inr (.inl v4_36)), none, some (.inl v6_36), z7_36, none, none] [] (0, 0) I J Rf G
          unfold m_296_b36 at h
          refine go_iload (pc' := 38) rfl rfl rfl ?_
          refine go_aload_n (pc' := 39) rfl rfl rfl ?_
          refine go_iload_n (pc' := 40) rfl rfl rfl ?_
          obtain ⟨r_40, q_40, h⟩ := o_b1E h
          refine go_callV (pc' := 43) (B' := (0, 0)) (st' := [.inl r_40, .inl v6_36]) rfl rfl (Or.inl (by decide)) rfl rfl hth (md_197 (by omega) hth q_40) rfl rfl rfl ?_
          refine go_icmp_gt (pt := 119) (pc' := 46) rfl rfl rfl (fun h43 => ?_) (fun h43 => ?_)
          · replace h := o_t h43 h
            exact ex36_119 _ (some (.inl v6_36)) z7_36 (lp_exitE h hk36)
          · replace h := o_f h43 h
            refine go_iload (pc' := 48) rfl rfl rfl ?_
            refine go_iload_n (pc' := 49) rfl rfl rfl ?_
            obtain ⟨r_49, q_49, h⟩ := o_b1E h
            refine go_callS (pc' := 52) (B' := (0, 0)) (st' := [.inl r_49]) rfl rfl (Or.inl (by decide)) rfl rfl trivial (md_192 (by omega) q_49) rfl rfl rfl ?_
            refine go_if_eq (pt := 58) (pc' := 55) rfl rfl rfl (fun h52 => ?_) (fun h52 => ?_)
            · replace h := o_t h52 h
              refine go_aload_n (pc' := 59) rfl rfl rfl ?_
              refine go_iload_n (pc' := 60) rfl rfl rfl ?_
              refine go_iload (pc' := 62) rfl rfl rfl ?_
              refine go_iconst (pc' := 63) (v := (nI 1)) rfl rfl rfl ?_
              refine go_iload_n (pc' := 64) rfl rfl rfl ?_
              refine go_ishl (pc' := 65) rfl rfl ?_
              refine go_ior (pc' := 66) rfl rfl ?_
              obtain ⟨r_66, q_66, h⟩ := o_b1E h
              refine go_callV (pc' := 69) (B' := (0, 0)) (st' := [.inl r_66]) rfl rfl (Or.inl (by decide)) rfl rfl hth (md_250 (by omega) hth q_66) rfl rfl rfl ?_
              refine go_aload_n (pc' := 70) rfl rfl rfl ?_
              refine go_iload_n (pc' := 71) rfl rfl rfl ?_
              refine go_iload (pc' := 73) rfl rfl rfl ?_
              obtain ⟨r_73, q_73, h⟩ := o_b1E h
              refine go_callV (pc' := 76) (B' := (0, 0)) (st' := [.inl r_73, .inl r_66]) rfl rfl (Or.inl (by decide)) rfl rfl hth (md_250 (by omega) hth q_73) rfl rfl rfl ?_
              refine go_isub (pc' := 77) rfl rfl ?_
              obtain ⟨x7_77, ex7_77, h⟩ := o_b1E h
              refine go_ndI ex7_77 ?_
              refine go_istore (pc' := 79) (lo' := [some (.inr (.inr th)), some (.inl a0), some (.inl a1), some (.inl a2), some (.inr (.inl v4_36)), none, some (.inl v6_36), some (.inl x7_77), none, none]) rfl rfl rfl ?_
              refine go_lload (pc' := 81) rfl rfl rfl ?_
              refine go_iload (pc' := 83) rfl rfl rfl ?_
              refine go_i2l (pc' := 84) rfl rfl ?_
              refine go_iload (pc' := 86) rfl rfl rfl ?_
              obtain ⟨r_86, q_86, h⟩ := o_b1E h
              refine go_callS (pc' := 89) (B' := (0, 0)) (st' := [.inl r_86, .inr (.inl x7_77.toInt64), .inr (.inl v4_36)]) rfl rfl (Or.inl (by decide)) rfl rfl trivial (md_193 (by omega) q_86) rfl rfl rfl ?_
              obtain ⟨r_89, q_89, h⟩ := o_b1E h
              refine go_callS (pc' := 92) (B' := (0, 0)) (st' := [.inr (.inl r_89), .inr (.inl x7_77.toInt64), .inr (.inl v4_36)]) rfl rfl (Or.inl (by decide)) rfl rfl trivial (md_294 (by omega) q_89) rfl rfl rfl ?_
              refine go_lmul (pc' := 93) rfl rfl ?_
              refine go_aload_n (pc' := 94) rfl rfl rfl ?_
              refine go_iload_n (pc' := 95) rfl rfl rfl ?_
              obtain ⟨r_95, q_95, h⟩ := o_b1E h
              refine go_callV (pc' := 98) (B' := (0, 0)) (st' := [.inl r_95, .inr (.inl (x7_77.toInt64 * r_89)), .inr (.inl v4_36)]) rfl rfl (Or.inl (by decide)) rfl rfl hth (md_195 (by omega) hth q_95) rfl rfl rfl ?_
              refine go_iload (pc' := 100) rfl rfl rfl ?_
              obtain ⟨r_100, q_100, h⟩ := o_b1E h
              refine go_callS (pc' := 103) (B' := (0, 0)) (st' := [.inl r_100, .inl r_95, .inr (.inl (x7_77.toInt64 * r_89)), .inr (.inl v4_36)]) rfl rfl (Or.inl (by decide)) rfl rfl trivial (md_193 (by omega) q_100) rfl rfl rfl ?_
              refine go_isub (pc' := 104) rfl rfl ?_
              refine go_iconst (pc' := 105) (v := (nI 1)) rfl rfl rfl ?_
              refine go_isub (pc' := 106) rfl rfl ?_
              obtain ⟨r_106, q_106, h⟩ := o_b1E h
              refine go_callS (pc' := 109) (B' := (0, 0)) (st' := [.inr (.inl r_106), .inr (.inl (x7_77.toInt64 * r_89)), .inr (.inl v4_36)]) rfl rfl (Or.inl (by decide)) rfl rfl trivial (md_294 (by omega) q_106) rfl rfl rfl ?_
              refine go_lmul (pc' := 110) rfl rfl ?_
              refine go_ladd (pc' := 111) rfl rfl ?_
              obtain ⟨x4_111, ex4_111, h⟩ := o_b1E h
              refine go_ndJ ex4_111 ?_
              refine go_lstore (pc' := 113) (lo' := [some (.inr (.inr th)), some (.inl a0), some (.inl a1), some (.inl a2), some (.inr (.inl x4_111)), none, some (.inl v6_36), some (.inl x7_77), none, none]) rfl rfl rfl ?_
              obtain ⟨x6_113, ex6_113, h⟩ := o_b1E h
              refine go_iincE (pc' := 116) rfl rfl (y := (nI 1)) rfl ex6_113 (lo' := [some (.inr (.inr th)), some (.inl a0), some (.inl a1), some (.inl a2), some (.inr (.inl x4_111)), none, some (.inl x6_113), some (.inl x7_77), none, none]) rfl rfl ?_
              refine go_goto (pc' := 36) rfl rfl ?_
              exact (lp_backE h hk36 (some (.inl x7_77)) :)
            · replace h := o_f h52 h
              refine go_goto (pc' := 113) rfl rfl ?_
              obtain ⟨x6_113, ex6_113, h⟩ := o_b1E h
              refine go_iincE (pc' := 116) rfl rfl (y := (nI 1)) rfl ex6_113 (lo' := [some (.inr (.inr th)), some (.inl a0), some (.inl a1), some (.inl a2), some (.inr (.inl v4_36)), none, some (.inl x6_113), z7_36, none, none]) rfl rfl ?_
              refine go_goto (pc' := 36) rfl rfl ?_
              exact (lp_backE h hk36 z7_36 :))
        exact lo36 _ ((0 : Int64), (nI 0)) hl36 none
      · replace h := o_t (Decidable.of_not_not h23) h
        refine go_ldc2_w (pc' := 29) (v := .inr (.inl (-2147483648 : Int64))) rfl rfl rfl ?_
        cases h
        exact go_lret rfl (rfl) ⟨rfl, rfl, rfl, rfl, rfl⟩
