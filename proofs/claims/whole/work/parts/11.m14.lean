/-! Models of methods and their proofs, piece 14. Printed by wip/whole/pr10.py. -/
def m_237_x22_104 (Ix_104 : ai_I) : Option (ai_I) :=
  some Ix_104
def m_237_x34_98 (v3_22 : Int32) (Ix_98 : ai_I) : Option ((Int32 × ai_I) ⊕ ai_I) :=
  o_b1 (some (v3_22 + (nI 1))) (fun x3_98 => some (Sum.inl (x3_98, Ix_98)))
def m_237_b34 (th : Nat) (a0 : Int32) (a1 : Int32) (Rf : ai_R) (G : ai_G) (v3_22 : Int32) (v4_34 : Int32) (I_34 : ai_I) : Option ((Int32 × ai_I) ⊕ ai_I) :=
  o_b1 (m_197 th a0 I_34 Rf G) (fun r_38 => if r_38 < v4_34 then (some (Sum.inr I_34)) else (if (v3_22 &&& v4_34) = 0 then (o_b1 (m_199 th a0 v3_22 I_34 Rf G) (fun r_54 => if r_54 = 0 then (o_b1 (some (v4_34 + (nI 1))) (fun x4_92 => some (Sum.inl (x4_92, I_34)))) else (o_b1 (m_199 th a1 v4_34 I_34 Rf G) (fun r_64 => if r_64 = 0 then (o_b1 (some (v4_34 + (nI 1))) (fun x4_92 => some (Sum.inl (x4_92, I_34)))) else (o_b1 (m_198 th a0 v3_22 I_34 Rf G) (fun r_78 => o_b1 (m_198 th a1 v4_34 I_34 Rf G) (fun r_85 => o_b1 (m_220 th (v3_22 ||| v4_34) (r_78 + r_85) I_34 Rf G) (fun I_89 => o_b1 (some (v4_34 + (nI 1))) (fun x4_92 => some (Sum.inl (x4_92, I_89))))))))))) else (o_b1 (some (v4_34 + (nI 1))) (fun x4_92 => some (Sum.inl (x4_92, I_34))))))
def m_237_b22 (th : Nat) (a0 : Int32) (a1 : Int32) (Rf : ai_R) (G : ai_G) (v3_22 : Int32) (I_22 : ai_I) : Option ((Int32 × ai_I) ⊕ ai_I) :=
  o_b1 (m_197 th a0 I_22 Rf G) (fun r_25 => if r_25 < v3_22 then (some (Sum.inr I_22)) else (o_s1 (lp (fun s => m_237_b34 th a0 a1 Rf G v3_22 s.1 s.2) o_N ((nI 0), I_22)) (fun t => m_237_x34_98 v3_22 t)))
/-- PricedBasesModel.makesJoin(II)V -/
def m_237 (th : Nat) (a0 : Int32) (a1 : Int32) (I : ai_I) (Rf : ai_R) (G : ai_G) : Option (ai_I) :=
  o_b1 (m_195 th a0 I Rf G) (fun r_3 => o_b1 (m_196 th a0 I Rf G) (fun r_8 => o_b1 (m_196 th a1 I Rf G) (fun r_13 => o_b1 (m_219 th r_3 (r_8 + r_13) I Rf G) (fun I_17 => o_s1 (lp (fun s => m_237_b22 th a0 a1 Rf G s.1 s.2) o_N ((nI 0), I_17)) (fun t => m_237_x22_104 t)))))
theorem md_237 {d : Nat} {I : ai_I} {J : ai_J} {Rf : ai_R} {G : ai_G} {th : Nat} {a0 : Int32} {a1 : Int32} {I1 : ai_I} (hd : 3 ≤ d) (hth : G.1 th = 11) (h : m_237 th a0 a1 I Rf G = some I1) : ai_Cl si_t si_ms d 237 [.inr (.inr th), .inl a0, .inl a1] I J Rf G none I1 J Rf G := by
  obtain ⟨e, rfl⟩ : ∃ e, d = e + 1 := ⟨d - 1, by omega⟩
  unfold m_237 at h
  refine sp_in (lo := [some (.inr (.inr th)), some (.inl a0), some (.inl a1), none, none]) (B := (0, 0)) rfl (Nat.le_of_ble_eq_true rfl) rfl rfl ?_
  refine go_aload_n (pc' := 1) rfl rfl rfl ?_
  refine go_aload_n (pc' := 2) rfl rfl rfl ?_
  refine go_iload_n (pc' := 3) rfl rfl rfl ?_
  obtain ⟨r_3, q_3, h⟩ := o_b1E h
  refine go_callV (pc' := 6) (B' := (0, 0)) (st' := [.inl r_3, .inr (.inr th)]) rfl rfl (Or.inl (by decide)) rfl rfl hth (md_195 (by omega) hth q_3) rfl rfl rfl ?_
  refine go_aload_n (pc' := 7) rfl rfl rfl ?_
  refine go_iload_n (pc' := 8) rfl rfl rfl ?_
  obtain ⟨r_8, q_8, h⟩ := o_b1E h
  refine go_callV (pc' := 11) (B' := (0, 0)) (st' := [.inl r_8, .inl r_3, .inr (.inr th)]) rfl rfl (Or.inl (by decide)) rfl rfl hth (md_196 (by omega) hth q_8) rfl rfl rfl ?_
  refine go_aload_n (pc' := 12) rfl rfl rfl ?_
  refine go_iload_n (pc' := 13) rfl rfl rfl ?_
  obtain ⟨r_13, q_13, h⟩ := o_b1E h
  refine go_callV (pc' := 16) (B' := (0, 0)) (st' := [.inl r_13, .inl r_8, .inl r_3, .inr (.inr th)]) rfl rfl (Or.inl (by decide)) rfl rfl hth (md_196 (by omega) hth q_13) rfl rfl rfl ?_
  refine go_iadd (pc' := 17) rfl rfl ?_
  obtain ⟨I_17, q_17, h⟩ := o_b1E h
  refine go_callV (pc' := 20) (B' := (0, 0)) (st' := []) rfl rfl (Or.inl (by decide)) rfl rfl hth (md_219 (by omega) hth q_17) rfl rfl rfl ?_
  refine go_iconst (pc' := 21) (v := (nI 0)) rfl rfl rfl ?_
  refine go_istore_n (pc' := 22) (lo' := [some (.inr (.inr th)), some (.inl a0), some (.inl a1), some (.inl (nI 0)), none]) rfl rfl rfl ?_
  obtain ⟨q22, hl22, hc22_104⟩ := o_s1E h
  have ex22_104 : ∀ (Ix_104 : ai_I) (z3_x104 : Option ai_V) (z4_x104 : Option ai_V), Ix_104 = q22 → ai_Go si_t (11, false, 9, cd_237) (ai_Cl si_t si_ms e) (sp_Q none I1 J Rf G) 104 [some (.inr (.inr th)), some (.inl a0), some (.inl a1), z3_x104, z4_x104] [] (0, 0) Ix_104 J Rf G := by
    intro Ix_104 z3_x104 z4_x104 hq
    have h : m_237_x22_104 Ix_104 = some I1 := hc22_104 Ix_104 hq.symm
    unfold m_237_x22_104 at h
    cases h
    exact go_vret rfl (rfl) ⟨rfl, rfl, rfl, rfl, rfl⟩
  have lo22 : ∀ n s, lp (fun s => m_237_b22 th a0 a1 Rf G s.1 s.2) n s = some q22 → (fun s => ∀ (z4_22 : Option ai_V), ai_Go si_t (11, false, 9, cd_237) (ai_Cl si_t si_ms e) (sp_Q none I1 J Rf G) 22 [some (.inr (.inr th)), some (.inl a0), some (.inl a1), some (.inl s.1), z4_22] [] (0, 0) s.2 J Rf G) s := lp_go (fun s x22 hx hk22 => by
    obtain ⟨v3_22, I_22⟩ := s
    intro z4_22
    have h : m_237_b22 th a0 a1 Rf G v3_22 I_22 = some x22 := hx
    clear hx
    show ai_Go si_t (11, false, 9, cd_237) (ai_Cl si_t si_ms e) (sp_Q none I1 J Rf G) 22 [some (.inr (.inr th)), some (.inl a0), some (.inl a1), some (.inl v3_22), z4_22] [] (0, 0) I_22 J Rf G
    unfold m_237_b22 at h
    refine go_iload_n (pc' := 23) rfl rfl rfl ?_
    refine go_aload_n (pc' := 24) rfl rfl rfl ?_
    refine go_iload_n (pc' := 25) rfl rfl rfl ?_
    obtain ⟨r_25, q_25, h⟩ := o_b1E h
    refine go_callV (pc' := 28) (B' := (0, 0)) (st' := [.inl r_25, .inl v3_22]) rfl rfl (Or.inl (by decide)) rfl rfl hth (md_197 (by omega) hth q_25) rfl rfl rfl ?_
    refine go_icmp_gt (pt := 104) (pc' := 31) rfl rfl rfl (fun h28 => ?_) (fun h28 => ?_)
    · replace h := o_t h28 h
      exact ex22_104 _ (some (.inl v3_22)) z4_22 (lp_exitE h hk22)
    · replace h := o_f h28 h
      refine go_iconst (pc' := 32) (v := (nI 0)) rfl rfl rfl ?_
      refine go_istore (pc' := 34) (lo' := [some (.inr (.inr th)), some (.inl a0), some (.inl a1), some (.inl v3_22), some (.inl (nI 0))]) rfl rfl rfl ?_
      obtain ⟨q34, hl34, hc34_98⟩ := o_s1E h
      have ex34_98 : ∀ (Ix_98 : ai_I) (z4_x98 : Option ai_V), Ix_98 = q34 → ai_Go si_t (11, false, 9, cd_237) (ai_Cl si_t si_ms e) (sp_Q none I1 J Rf G) 98 [some (.inr (.inr th)), some (.inl a0), some (.inl a1), some (.inl v3_22), z4_x98] [] (0, 0) Ix_98 J Rf G := by
        intro Ix_98 z4_x98 hq
        have h : m_237_x34_98 v3_22 Ix_98 = some x22 := hc34_98 Ix_98 hq.symm
        unfold m_237_x34_98 at h
        obtain ⟨x3_98, ex3_98, h⟩ := o_b1E h
        refine go_iincE (pc' := 101) rfl rfl (y := (nI 1)) rfl ex3_98 (lo' := [some (.inr (.inr th)), some (.inl a0), some (.inl a1), some (.inl x3_98), z4_x98]) rfl rfl ?_
        refine go_goto (pc' := 22) rfl rfl ?_
        exact (lp_backE h hk22 z4_x98 :)
      have lo34 : ∀ n s, lp (fun s => m_237_b34 th a0 a1 Rf G v3_22 s.1 s.2) n s = some q34 → (fun s => ai_Go si_t (11, false, 9, cd_237) (ai_Cl si_t si_ms e) (sp_Q none I1 J Rf G) 34 [some (.inr (.inr th)), some (.inl a0), some (.inl a1), some (.inl v3_22), some (.inl s.1)] [] (0, 0) s.2 J Rf G) s := lp_go (fun s x34 hx hk34 => by
        obtain ⟨v4_34, I_34⟩ := s
        have h : m_237_b34 th a0 a1 Rf G v3_22 v4_34 I_34 = some x34 := hx
        clear hx
        show ai_Go si_t (11, false, 9, cd_237) (ai_Cl si_t si_ms e) (sp_Q none I1 J Rf G) 34 [some (.inr (.inr th)), some (.inl a0), some (.inl a1), some (.inl v3_22), some (.inl v4_34)] [] (0, 0) I_34 J Rf G
        unfold m_237_b34 at h
        refine go_iload (pc' := 36) rfl rfl rfl ?_
        refine go_aload_n (pc' := 37) rfl rfl rfl ?_
        refine go_iload_n (pc' := 38) rfl rfl rfl ?_
        obtain ⟨r_38, q_38, h⟩ := o_b1E h
        refine go_callV (pc' := 41) (B' := (0, 0)) (st' := [.inl r_38, .inl v4_34]) rfl rfl (Or.inl (by decide)) rfl rfl hth (md_197 (by omega) hth q_38) rfl rfl rfl ?_
        refine go_icmp_gt (pt := 98) (pc' := 44) rfl rfl rfl (fun h41 => ?_) (fun h41 => ?_)
        · replace h := o_t h41 h
          exact ex34_98 _ (some (.inl v4_34)) (lp_exitE h hk34)
        · replace h := o_f h41 h
          refine go_iload_n (pc' := 45) rfl rfl rfl ?_
          refine go_iload (pc' := 47) rfl rfl rfl ?_
          refine go_iand (pc' := 48) rfl rfl ?_
          refine go_if_ne (pt := 92) (pc' := 51) rfl rfl rfl (fun h48 => ?_) (fun h48 => ?_)
          · replace h := o_f h48 h
            obtain ⟨x4_92, ex4_92, h⟩ := o_b1E h
            refine go_iincE (pc' := 95) rfl rfl (y := (nI 1)) rfl ex4_92 (lo' := [some (.inr (.inr th)), some (.inl a0), some (.inl a1), some (.inl v3_22), some (.inl x4_92)]) rfl rfl ?_
            refine go_goto (pc' := 34) rfl rfl ?_
            exact (lp_backE h hk34 :)
          · replace h := o_t (Decidable.of_not_not h48) h
            refine go_aload_n (pc' := 52) rfl rfl rfl ?_
            refine go_iload_n (pc' := 53) rfl rfl rfl ?_
            refine go_iload_n (pc' := 54) rfl rfl rfl ?_
            obtain ⟨r_54, q_54, h⟩ := o_b1E h
            refine go_callV (pc' := 57) (B' := (0, 0)) (st' := [.inl r_54]) rfl rfl (Or.inl (by decide)) rfl rfl hth (md_199 (by omega) hth q_54) rfl rfl rfl ?_
            refine go_if_eq (pt := 92) (pc' := 60) rfl rfl rfl (fun h57 => ?_) (fun h57 => ?_)
            · replace h := o_t h57 h
              obtain ⟨x4_92, ex4_92, h⟩ := o_b1E h
              refine go_iincE (pc' := 95) rfl rfl (y := (nI 1)) rfl ex4_92 (lo' := [some (.inr (.inr th)), some (.inl a0), some (.inl a1), some (.inl v3_22), some (.inl x4_92)]) rfl rfl ?_
              refine go_goto (pc' := 34) rfl rfl ?_
              exact (lp_backE h hk34 :)
            · replace h := o_f h57 h
              refine go_aload_n (pc' := 61) rfl rfl rfl ?_
              refine go_iload_n (pc' := 62) rfl rfl rfl ?_
              refine go_iload (pc' := 64) rfl rfl rfl ?_
              obtain ⟨r_64, q_64, h⟩ := o_b1E h
              refine go_callV (pc' := 67) (B' := (0, 0)) (st' := [.inl r_64]) rfl rfl (Or.inl (by decide)) rfl rfl hth (md_199 (by omega) hth q_64) rfl rfl rfl ?_
              refine go_if_eq (pt := 92) (pc' := 70) rfl rfl rfl (fun h67 => ?_) (fun h67 => ?_)
              · replace h := o_t h67 h
                obtain ⟨x4_92, ex4_92, h⟩ := o_b1E h
                refine go_iincE (pc' := 95) rfl rfl (y := (nI 1)) rfl ex4_92 (lo' := [some (.inr (.inr th)), some (.inl a0), some (.inl a1), some (.inl v3_22), some (.inl x4_92)]) rfl rfl ?_
                refine go_goto (pc' := 34) rfl rfl ?_
                exact (lp_backE h hk34 :)
              · replace h := o_f h67 h
                refine go_aload_n (pc' := 71) rfl rfl rfl ?_
                refine go_iload_n (pc' := 72) rfl rfl rfl ?_
                refine go_iload (pc' := 74) rfl rfl rfl ?_
                refine go_ior (pc' := 75) rfl rfl ?_
                refine go_aload_n (pc' := 76) rfl rfl rfl ?_
                refine go_iload_n (pc' := 77) rfl rfl rfl ?_
                refine go_iload_n (pc' := 78) rfl rfl rfl ?_
                obtain ⟨r_78, q_78, h⟩ := o_b1E h
                refine go_callV (pc' := 81) (B' := (0, 0)) (st' := [.inl r_78, .inl (v3_22 ||| v4_34), .inr (.inr th)]) rfl rfl (Or.inl (by decide)) rfl rfl hth (md_198 (by omega) hth q_78) rfl rfl rfl ?_
                refine go_aload_n (pc' := 82) rfl rfl rfl ?_
                refine go_iload_n (pc' := 83) rfl rfl rfl ?_
                refine go_iload (pc' := 85) rfl rfl rfl ?_
                obtain ⟨r_85, q_85, h⟩ := o_b1E h
                refine go_callV (pc' := 88) (B' := (0, 0)) (st' := [.inl r_85, .inl r_78, .inl (v3_22 ||| v4_34), .inr (.inr th)]) rfl rfl (Or.inl (by decide)) rfl rfl hth (md_198 (by omega) hth q_85) rfl rfl rfl ?_
                refine go_iadd (pc' := 89) rfl rfl ?_
                obtain ⟨I_89, q_89, h⟩ := o_b1E h
                refine go_callV (pc' := 92) (B' := (0, 0)) (st' := []) rfl rfl (Or.inl (by decide)) rfl rfl hth (md_220 (by omega) hth q_89) rfl rfl rfl ?_
                obtain ⟨x4_92, ex4_92, h⟩ := o_b1E h
                refine go_iincE (pc' := 95) rfl rfl (y := (nI 1)) rfl ex4_92 (lo' := [some (.inr (.inr th)), some (.inl a0), some (.inl a1), some (.inl v3_22), some (.inl x4_92)]) rfl rfl ?_
                refine go_goto (pc' := 34) rfl rfl ?_
                exact (lp_backE h hk34 :))
      exact lo34 _ ((nI 0), I_22) hl34 )
  exact lo22 _ ((nI 0), I_17) hl22 none
/-- PricedBasesModel.sumOf(II)I -/
def m_265 (th : Nat) (a0 : Int32) (a1 : Int32) (I : ai_I) (Rf : ai_R) (G : ai_G) : Option (Int32) :=
  o_b1 (m_198 th a0 a1 I Rf G) (fun r_3 => o_b1 (m_233 th a1 I Rf G) (fun r_8 => some (r_3 + r_8)))
theorem md_265 {d : Nat} {I : ai_I} {J : ai_J} {Rf : ai_R} {G : ai_G} {th : Nat} {a0 : Int32} {a1 : Int32} {r : Int32} (hd : 3 ≤ d) (hth : G.1 th = 11) (h : m_265 th a0 a1 I Rf G = some r) : ai_Cl si_t si_ms d 265 [.inr (.inr th), .inl a0, .inl a1] I J Rf G (some (.inl r)) I J Rf G := by
  obtain ⟨e, rfl⟩ : ∃ e, d = e + 1 := ⟨d - 1, by omega⟩
  unfold m_265 at h
  refine sp_in (lo := [some (.inr (.inr th)), some (.inl a0), some (.inl a1)]) (B := (0, 0)) rfl (Nat.le_of_ble_eq_true rfl) rfl rfl ?_
  refine go_aload_n (pc' := 1) rfl rfl rfl ?_
  refine go_iload_n (pc' := 2) rfl rfl rfl ?_
  refine go_iload_n (pc' := 3) rfl rfl rfl ?_
  obtain ⟨r_3, q_3, h⟩ := o_b1E h
  refine go_callV (pc' := 6) (B' := (0, 0)) (st' := [.inl r_3]) rfl rfl (Or.inl (by decide)) rfl rfl hth (md_198 (by omega) hth q_3) rfl rfl rfl ?_
  refine go_aload_n (pc' := 7) rfl rfl rfl ?_
  refine go_iload_n (pc' := 8) rfl rfl rfl ?_
  obtain ⟨r_8, q_8, h⟩ := o_b1E h
  refine go_callV (pc' := 11) (B' := (0, 0)) (st' := [.inl r_8, .inl r_3]) rfl rfl (Or.inl (by decide)) rfl rfl hth (md_233 (by omega) hth q_8) rfl rfl rfl ?_
  refine go_iadd (pc' := 12) rfl rfl ?_
  cases h
  exact go_iret rfl (trivial) ⟨rfl, rfl, rfl, rfl, rfl⟩
def m_266_x5_38 (w2_38 : Int32) : Option (Int32) :=
  some w2_38
def m_266_b5 (th : Nat) (a0 : Int32) (I : ai_I) (Rf : ai_R) (G : ai_G) (v2_5 : Int32) (v3_5 : Int32) : Option ((Int32 × Int32) ⊕ Int32) :=
  if (nI 256) ≤ v3_5 then (some (Sum.inr v2_5)) else (o_b1 (m_199 th a0 v3_5 I Rf G) (fun r_15 => if r_15 = 0 then (o_b1 (some (v3_5 + (nI 1))) (fun x3_32 => some (Sum.inl (v2_5, x3_32)))) else (o_b1 (m_265 th a0 v3_5 I Rf G) (fun r_25 => o_b1 (m_191 v2_5 r_25) (fun r_28 => o_b1 (some (v3_5 + (nI 1))) (fun x3_32 => some (Sum.inl (r_28, x3_32))))))))
/-- PricedBasesModel.greatestSum(I)I -/
def m_266 (th : Nat) (a0 : Int32) (I : ai_I) (Rf : ai_R) (G : ai_G) : Option (Int32) :=
  o_s1 (lp (fun s => m_266_b5 th a0 I Rf G s.1 s.2) o_N ((-2147483648 : Int32), (nI 0))) (fun t => m_266_x5_38 t)
theorem md_266 {d : Nat} {I : ai_I} {J : ai_J} {Rf : ai_R} {G : ai_G} {th : Nat} {a0 : Int32} {r : Int32} (hd : 4 ≤ d) (hth : G.1 th = 11) (h : m_266 th a0 I Rf G = some r) : ai_Cl si_t si_ms d 266 [.inr (.inr th), .inl a0] I J Rf G (some (.inl r)) I J Rf G := by
  obtain ⟨e, rfl⟩ : ∃ e, d = e + 1 := ⟨d - 1, by omega⟩
  unfold m_266 at h
  refine sp_in (lo := [some (.inr (.inr th)), some (.inl a0), none, none]) (B := (0, 0)) rfl (Nat.le_of_ble_eq_true rfl) rfl rfl ?_
  refine go_ldc (pc' := 2) (v := .inl (-2147483648 : Int32)) rfl rfl rfl ?_
  refine go_istore_n (pc' := 3) (lo' := [some (.inr (.inr th)), some (.inl a0), some (.inl (-2147483648 : Int32)), none]) rfl rfl rfl ?_
  refine go_iconst (pc' := 4) (v := (nI 0)) rfl rfl rfl ?_
  refine go_istore_n (pc' := 5) (lo' := [some (.inr (.inr th)), some (.inl a0), some (.inl (-2147483648 : Int32)), some (.inl (nI 0))]) rfl rfl rfl ?_
  obtain ⟨q5, hl5, hc5_38⟩ := o_s1E h
  have ex5_38 : ∀ (w2_38 : Int32) (z3_x38 : Option ai_V), w2_38 = q5 → ai_Go si_t (11, false, 0, cd_266) (ai_Cl si_t si_ms e) (sp_Q (some (.inl r)) I J Rf G) 38 [some (.inr (.inr th)), some (.inl a0), some (.inl w2_38), z3_x38] [] (0, 0) I J Rf G := by
    intro w2_38 z3_x38 hq
    have h : m_266_x5_38 w2_38 = some r := hc5_38 w2_38 hq.symm
    unfold m_266_x5_38 at h
    refine go_iload_n (pc' := 39) rfl rfl rfl ?_
    cases h
    exact go_iret rfl (trivial) ⟨rfl, rfl, rfl, rfl, rfl⟩
  have lo5 : ∀ n s, lp (fun s => m_266_b5 th a0 I Rf G s.1 s.2) n s = some q5 → (fun s => ai_Go si_t (11, false, 0, cd_266) (ai_Cl si_t si_ms e) (sp_Q (some (.inl r)) I J Rf G) 5 [some (.inr (.inr th)), some (.inl a0), some (.inl s.1), some (.inl s.2)] [] (0, 0) I J Rf G) s := lp_go (fun s x5 hx hk5 => by
    obtain ⟨v2_5, v3_5⟩ := s
    have h : m_266_b5 th a0 I Rf G v2_5 v3_5 = some x5 := hx
    clear hx
    show ai_Go si_t (11, false, 0, cd_266) (ai_Cl si_t si_ms e) (sp_Q (some (.inl r)) I J Rf G) 5 [some (.inr (.inr th)), some (.inl a0), some (.inl v2_5), some (.inl v3_5)] [] (0, 0) I J Rf G
    unfold m_266_b5 at h
    refine go_iload_n (pc' := 6) rfl rfl rfl ?_
    refine go_sipush (pc' := 9) (v := (nI 256)) rfl rfl rfl ?_
    refine go_icmp_ge (pt := 38) (pc' := 12) rfl rfl rfl (fun h9 => ?_) (fun h9 => ?_)
    · replace h := o_t h9 h
      exact ex5_38 _ (some (.inl v3_5)) (lp_exitE h hk5)
    · replace h := o_f h9 h
      refine go_aload_n (pc' := 13) rfl rfl rfl ?_
      refine go_iload_n (pc' := 14) rfl rfl rfl ?_
      refine go_iload_n (pc' := 15) rfl rfl rfl ?_
      obtain ⟨r_15, q_15, h⟩ := o_b1E h
      refine go_callV (pc' := 18) (B' := (0, 0)) (st' := [.inl r_15]) rfl rfl (Or.inl (by decide)) rfl rfl hth (md_199 (by omega) hth q_15) rfl rfl rfl ?_
      refine go_if_eq (pt := 32) (pc' := 21) rfl rfl rfl (fun h18 => ?_) (fun h18 => ?_)
      · replace h := o_t h18 h
        obtain ⟨x3_32, ex3_32, h⟩ := o_b1E h
        refine go_iincE (pc' := 35) rfl rfl (y := (nI 1)) rfl ex3_32 (lo' := [some (.inr (.inr th)), some (.inl a0), some (.inl v2_5), some (.inl x3_32)]) rfl rfl ?_
        refine go_goto (pc' := 5) rfl rfl ?_
        exact (lp_backE h hk5 :)
      · replace h := o_f h18 h
        refine go_iload_n (pc' := 22) rfl rfl rfl ?_
        refine go_aload_n (pc' := 23) rfl rfl rfl ?_
        refine go_iload_n (pc' := 24) rfl rfl rfl ?_
        refine go_iload_n (pc' := 25) rfl rfl rfl ?_
        obtain ⟨r_25, q_25, h⟩ := o_b1E h
        refine go_callV (pc' := 28) (B' := (0, 0)) (st' := [.inl r_25, .inl v2_5]) rfl rfl (Or.inl (by decide)) rfl rfl hth (md_265 (by omega) hth q_25) rfl rfl rfl ?_
        obtain ⟨r_28, q_28, h⟩ := o_b1E h
        refine go_callS (pc' := 31) (B' := (0, 0)) (st' := [.inl r_28]) rfl rfl (Or.inl (by decide)) rfl rfl trivial (md_191 (by omega) q_28) rfl rfl rfl ?_
        refine go_istore_n (pc' := 32) (lo' := [some (.inr (.inr th)), some (.inl a0), some (.inl r_28), some (.inl v3_5)]) rfl rfl rfl ?_
        obtain ⟨x3_32, ex3_32, h⟩ := o_b1E h
        refine go_iincE (pc' := 35) rfl rfl (y := (nI 1)) rfl ex3_32 (lo' := [some (.inr (.inr th)), some (.inl a0), some (.inl r_28), some (.inl x3_32)]) rfl rfl ?_
        refine go_goto (pc' := 5) rfl rfl ?_
        exact (lp_backE h hk5 :))
  exact lo5 _ ((-2147483648 : Int32), (nI 0)) hl5 
def m_238_x8_52 (Ix_52 : ai_I) : Option (ai_I) :=
  some Ix_52
def m_238_j45 (th : Nat) (Rf : ai_R) (G : ai_G) (v3_8 : Int32) (I_8 : ai_I) (t2_45 : Int32) : Option ((Int32 × ai_I) ⊕ ai_I) :=
  o_g (o_in G 13 (Rf th 16) v3_8) (o_b1 (some (va_up I_8 (Rf th 16) (va_up (I_8 (Rf th 16)) v3_8.toNatClampNeg t2_45))) (fun I_45 => o_b1 (some (v3_8 + (nI 1))) (fun x3_46 => some (Sum.inl (x3_46, I_45)))))
def m_238_j43 (th : Nat) (Rf : ai_R) (G : ai_G) (v3_8 : Int32) (I_8 : ai_I) : Option ((Int32 × ai_I) ⊕ ai_I) :=
  m_238_j45 th Rf G v3_8 I_8 (-2147483648 : Int32)
def m_238_b8 (th : Nat) (a0 : Int32) (Rf : ai_R) (G : ai_G) (r_2 : Int32) (v3_8 : Int32) (I_8 : ai_I) : Option ((Int32 × ai_I) ⊕ ai_I) :=
  if (nI 256) ≤ v3_8 then (some (Sum.inr I_8)) else (o_b1 (m_199 th a0 v3_8 I_8 Rf G) (fun r_23 => if r_23 = 0 then (m_238_j43 th Rf G v3_8 I_8) else (o_b1 (m_265 th a0 v3_8 I_8 Rf G) (fun r_32 => if r_32 = r_2 then (m_238_j45 th Rf G v3_8 I_8 (nI 0)) else (m_238_j43 th Rf G v3_8 I_8)))))
/-- PricedBasesModel.makesInitial(I)V -/
def m_238 (th : Nat) (a0 : Int32) (I : ai_I) (Rf : ai_R) (G : ai_G) : Option (ai_I) :=
  o_b1 (m_266 th a0 I Rf G) (fun r_2 => o_s1 (lp (fun s => m_238_b8 th a0 Rf G r_2 s.1 s.2) o_N ((nI 0), I)) (fun t => m_238_x8_52 t))
theorem md_238 {d : Nat} {I : ai_I} {J : ai_J} {Rf : ai_R} {G : ai_G} {th : Nat} {a0 : Int32} {I1 : ai_I} (hd : 5 ≤ d) (hth : G.1 th = 11) (h : m_238 th a0 I Rf G = some I1) : ai_Cl si_t si_ms d 238 [.inr (.inr th), .inl a0] I J Rf G none I1 J Rf G := by
  obtain ⟨e, rfl⟩ : ∃ e, d = e + 1 := ⟨d - 1, by omega⟩
  unfold m_238 at h
  refine sp_in (lo := [some (.inr (.inr th)), some (.inl a0), none, none]) (B := (0, 0)) rfl (Nat.le_of_ble_eq_true rfl) rfl rfl ?_
  refine go_aload_n (pc' := 1) rfl rfl rfl ?_
  refine go_iload_n (pc' := 2) rfl rfl rfl ?_
  obtain ⟨r_2, q_2, h⟩ := o_b1E h
  refine go_callV (pc' := 5) (B' := (0, 0)) (st' := [.inl r_2]) rfl rfl (Or.inl (by decide)) rfl rfl hth (md_266 (by omega) hth q_2) rfl rfl rfl ?_
  refine go_istore_n (pc' := 6) (lo' := [some (.inr (.inr th)), some (.inl a0), some (.inl r_2), none]) rfl rfl rfl ?_
  refine go_iconst (pc' := 7) (v := (nI 0)) rfl rfl rfl ?_
  refine go_istore_n (pc' := 8) (lo' := [some (.inr (.inr th)), some (.inl a0), some (.inl r_2), some (.inl (nI 0))]) rfl rfl rfl ?_
  obtain ⟨q8, hl8, hc8_52⟩ := o_s1E h
  have ex8_52 : ∀ (Ix_52 : ai_I) (z3_x52 : Option ai_V), Ix_52 = q8 → ai_Go si_t (11, false, 9, cd_238) (ai_Cl si_t si_ms e) (sp_Q none I1 J Rf G) 52 [some (.inr (.inr th)), some (.inl a0), some (.inl r_2), z3_x52] [] (0, 0) Ix_52 J Rf G := by
    intro Ix_52 z3_x52 hq
    have h : m_238_x8_52 Ix_52 = some I1 := hc8_52 Ix_52 hq.symm
    unfold m_238_x8_52 at h
    cases h
    exact go_vret rfl (rfl) ⟨rfl, rfl, rfl, rfl, rfl⟩
  have lo8 : ∀ n s, lp (fun s => m_238_b8 th a0 Rf G r_2 s.1 s.2) n s = some q8 → (fun s => ai_Go si_t (11, false, 9, cd_238) (ai_Cl si_t si_ms e) (sp_Q none I1 J Rf G) 8 [some (.inr (.inr th)), some (.inl a0), some (.inl r_2), some (.inl s.1)] [] (0, 0) s.2 J Rf G) s := lp_go (fun s x8 hx hk8 => by
    obtain ⟨v3_8, I_8⟩ := s
    have h : m_238_b8 th a0 Rf G r_2 v3_8 I_8 = some x8 := hx
    clear hx
    show ai_Go si_t (11, false, 9, cd_238) (ai_Cl si_t si_ms e) (sp_Q none I1 J Rf G) 8 [some (.inr (.inr th)), some (.inl a0), some (.inl r_2), some (.inl v3_8)] [] (0, 0) I_8 J Rf G
    unfold m_238_b8 at h
    refine go_iload_n (pc' := 9) rfl rfl rfl ?_
    refine go_sipush (pc' := 12) (v := (nI 256)) rfl rfl rfl ?_
    refine go_icmp_ge (pt := 52) (pc' := 15) rfl rfl rfl (fun h12 => ?_) (fun h12 => ?_)
    · replace h := o_t h12 h
      exact ex8_52 _ (some (.inl v3_8)) (lp_exitE h hk8)
    · replace h := o_f h12 h
      refine go_aload_n (pc' := 16) rfl rfl rfl ?_
      refine go_getR (pc' := 19) rfl rfl hth rfl ?_
      refine go_iload_n (pc' := 20) rfl rfl rfl ?_
      refine go_aload_n (pc' := 21) rfl rfl rfl ?_
      refine go_iload_n (pc' := 22) rfl rfl rfl ?_
      refine go_iload_n (pc' := 23) rfl rfl rfl ?_
      obtain ⟨r_23, q_23, h⟩ := o_b1E h
      refine go_callV (pc' := 26) (B' := (0, 0)) (st' := [.inl r_23, .inl v3_8, .inr (.inr (Rf th 16))]) rfl rfl (Or.inl (by decide)) rfl rfl hth (md_199 (by omega) hth q_23) rfl rfl rfl ?_
      have jn45 : ∀ (t2_45 : Int32), m_238_j45 th Rf G v3_8 I_8 t2_45 = some x8 → ai_Go si_t (11, false, 9, cd_238) (ai_Cl si_t si_ms e) (sp_Q none I1 J Rf G) 45 [some (.inr (.inr th)), some (.inl a0), some (.inl r_2), some (.inl v3_8)] [.inl t2_45, .inl v3_8, .inr (.inr (Rf th 16))] (0, 0) I_8 J Rf G := by
        intro t2_45 h
        unfold m_238_j45 at h
        obtain ⟨g0, h⟩ := o_gE h
        obtain ⟨I_45, eI_45, h⟩ := o_b1E h
        refine go_iastore (pc' := 46) rfl (o_inK g0) (o_inB g0) rfl ?_
        refine go_ndMI eI_45 ?_
        obtain ⟨x3_46, ex3_46, h⟩ := o_b1E h
        refine go_iincE (pc' := 49) rfl rfl (y := (nI 1)) rfl ex3_46 (lo' := [some (.inr (.inr th)), some (.inl a0), some (.inl r_2), some (.inl x3_46)]) rfl rfl ?_
        refine go_goto (pc' := 8) rfl rfl ?_
        exact (lp_backE h hk8 :)
      have jn43 : m_238_j43 th Rf G v3_8 I_8 = some x8 → ai_Go si_t (11, false, 9, cd_238) (ai_Cl si_t si_ms e) (sp_Q none I1 J Rf G) 43 [some (.inr (.inr th)), some (.inl a0), some (.inl r_2), some (.inl v3_8)] [.inl v3_8, .inr (.inr (Rf th 16))] (0, 0) I_8 J Rf G := by
        intro h
        unfold m_238_j43 at h
        refine go_ldc (pc' := 45) (v := .inl (-2147483648 : Int32)) rfl rfl rfl ?_
        exact jn45 (-2147483648 : Int32) h
      refine go_if_eq (pt := 43) (pc' := 29) rfl rfl rfl (fun h26 => ?_) (fun h26 => ?_)
      · replace h := o_t h26 h
        exact jn43  h
      · replace h := o_f h26 h
        refine go_aload_n (pc' := 30) rfl rfl rfl ?_
        refine go_iload_n (pc' := 31) rfl rfl rfl ?_
        refine go_iload_n (pc' := 32) rfl rfl rfl ?_
        obtain ⟨r_32, q_32, h⟩ := o_b1E h
        refine go_callV (pc' := 35) (B' := (0, 0)) (st' := [.inl r_32, .inl v3_8, .inr (.inr (Rf th 16))]) rfl rfl (Or.inl (by decide)) rfl rfl hth (md_265 (by omega) hth q_32) rfl rfl rfl ?_
        refine go_iload_n (pc' := 36) rfl rfl rfl ?_
        refine go_icmp_ne (pt := 43) (pc' := 39) rfl rfl rfl (fun h36 => ?_) (fun h36 => ?_)
        · replace h := o_f h36 h
          exact jn43  h
        · replace h := o_t (Decidable.of_not_not h36) h
          refine go_iconst (pc' := 40) (v := (nI 0)) rfl rfl rfl ?_
          refine go_goto (pc' := 45) rfl rfl ?_
          exact jn45 (nI 0) h)
  exact lo8 _ ((nI 0), I) hl8 
def m_240_j299 (th : Nat) (a0 : Int64) (a1 : Int32) (Rf : ai_R) (G : ai_G) (x5_8 : Int32) (I_299 : ai_I) : Option (Int32 × ai_I) :=
  if (ai_cmp a0 (343342 : Int64)) = 0 then (o_b1 (m_195 th x5_8 I_299 Rf G) (fun r_310 => o_g (o_in G 13 (Rf th 15) (a1 + (nI 2))) (o_b1 (m_195 th (I_299 (Rf th 15) (a1 + (nI 2)).toNatClampNeg) I_299 Rf G) (fun r_322 => if r_310 = r_322 then (o_g (o_in G 13 (Rf th 15) (a1 + (nI 2))) (o_b1 (m_237 th x5_8 (I_299 (Rf th 15) (a1 + (nI 2)).toNatClampNeg) I_299 Rf G) (fun I_341 => some ((nI 1), I_341)))) else (some ((nI 0), I_299)))))) else (some ((nI 1), I_299))
def m_240_j277 (th : Nat) (a0 : Int64) (a1 : Int32) (Rf : ai_R) (G : ai_G) (x5_8 : Int32) (I_277 : ai_I) : Option (Int32 × ai_I) :=
  if (ai_cmp a0 (537267 : Int64)) = 0 then (o_g (o_in G 13 (Rf th 15) (a1 + (nI 2))) (o_b1 (m_236 th x5_8 (I_277 (Rf th 15) (a1 + (nI 2)).toNatClampNeg) I_277 Rf G) (fun I_296 => m_240_j299 th a0 a1 Rf G x5_8 I_296))) else (m_240_j299 th a0 a1 Rf G x5_8 I_277)
def m_240_j274 (th : Nat) (a0 : Int64) (a1 : Int32) (Rf : ai_R) (G : ai_G) (x5_8 : Int32) (I_219 : ai_I) (t2_274 : Int32) : Option (Int32 × ai_I) :=
  o_b1 (m_232 th (I_219 (Rf th 15) (a1 + (nI 2)).toNatClampNeg) t2_274 I_219 Rf G) (fun I_274 => m_240_j277 th a0 a1 Rf G x5_8 I_274)
def m_240_j235 (th : Nat) (a0 : Int64) (a1 : Int32) (Rf : ai_R) (G : ai_G) (x5_8 : Int32) (I_219 : ai_I) : Option (Int32 × ai_I) :=
  o_g (o_in G 13 (Rf th 15) (a1 + (nI 2))) (if (I_219 (Rf th 15) (a1 + (nI 2)).toNatClampNeg) < (I_219 th 18) then (o_g (o_in G 13 (Rf th 15) (a1 + (nI 2))) (if (ai_cmp a0 (89 : Int64)) = 0 then (m_240_j274 th a0 a1 Rf G x5_8 I_219 (nI 1)) else (m_240_j274 th a0 a1 Rf G x5_8 I_219 (nI 0)))) else (some ((nI 0), I_219)))
def m_240_j219 (th : Nat) (a0 : Int64) (a1 : Int32) (Rf : ai_R) (G : ai_G) (x5_8 : Int32) (I_219 : ai_I) : Option (Int32 × ai_I) :=
  if (ai_cmp a0 (25019301556 : Int64)) = 0 then (m_240_j235 th a0 a1 Rf G x5_8 I_219) else (if (ai_cmp a0 (89 : Int64)) = 0 then (m_240_j235 th a0 a1 Rf G x5_8 I_219) else (m_240_j277 th a0 a1 Rf G x5_8 I_219))
def m_240_j199 (th : Nat) (a0 : Int64) (a1 : Int32) (Rf : ai_R) (G : ai_G) (x5_8 : Int32) (I_199 : ai_I) : Option (Int32 × ai_I) :=
  if (ai_cmp a0 (18916965 : Int64)) = 0 then (o_b1 (m_230 th I_199 Rf G) (fun I_208 => o_b1 (m_235 th I_208 Rf G) (fun I_212 => o_b1 (m_230 th I_212 Rf G) (fun I_216 => m_240_j219 th a0 a1 Rf G x5_8 I_216)))) else (m_240_j219 th a0 a1 Rf G x5_8 I_199)
def m_240_j185 (th : Nat) (a0 : Int64) (a1 : Int32) (Rf : ai_R) (G : ai_G) (x5_8 : Int32) (I_185 : ai_I) : Option (Int32 × ai_I) :=
  if (ai_cmp a0 (10143540268 : Int64)) = 0 then (o_b1 (m_238 th x5_8 I_185 Rf G) (fun I_196 => m_240_j199 th a0 a1 Rf G x5_8 I_196)) else (m_240_j199 th a0 a1 Rf G x5_8 I_185)
def m_240_j173 (th : Nat) (a0 : Int64) (a1 : Int32) (Rf : ai_R) (G : ai_G) (x5_8 : Int32) (I_173 : ai_I) : Option (Int32 × ai_I) :=
  if (ai_cmp a0 (3764 : Int64)) = 0 then (o_b1 (m_235 th I_173 Rf G) (fun I_182 => m_240_j185 th a0 a1 Rf G x5_8 I_182)) else (m_240_j185 th a0 a1 Rf G x5_8 I_173)
def m_240_j161 (th : Nat) (a0 : Int64) (a1 : Int32) (Rf : ai_R) (G : ai_G) (x5_8 : Int32) (I_161 : ai_I) : Option (Int32 × ai_I) :=
  if (ai_cmp a0 (20194516 : Int64)) = 0 then (o_b1 (m_234 th I_161 Rf G) (fun I_170 => m_240_j173 th a0 a1 Rf G x5_8 I_170)) else (m_240_j173 th a0 a1 Rf G x5_8 I_161)
def m_240_j109 (th : Nat) (a0 : Int64) (a1 : Int32) (Rf : ai_R) (G : ai_G) (x5_8 : Int32) (I_109 : ai_I) : Option (Int32 × ai_I) :=
  if (ai_cmp a0 (23027990093 : Int64)) = 0 then (some ((nI 1), I_109)) else (if (ai_cmp a0 (13684840 : Int64)) = 0 then (some ((nI 1), I_109)) else (if (ai_cmp a0 (7931400 : Int64)) = 0 then (some ((nI 1), I_109)) else (if (ai_cmp a0 (671108 : Int64)) = 0 then (some ((nI 1), I_109)) else (o_b1 (m_221 th x5_8 I_109 Rf G) (fun I_146 => if (ai_cmp a0 (152620 : Int64)) = 0 then (o_b1 (m_230 th I_146 Rf G) (fun I_158 => m_240_j161 th a0 a1 Rf G x5_8 I_158)) else (m_240_j161 th a0 a1 Rf G x5_8 I_146))))))
def m_240_j82 (th : Nat) (a0 : Int64) (a1 : Int32) (a2 : Int32) (Rf : ai_R) (G : ai_G) (x5_8 : Int32) (I_82 : ai_I) : Option (Int32 × ai_I) :=
  if (ai_cmp a0 (671108 : Int64)) = 0 then (o_g (o_in G 13 (Rf th 15) (a1 + (nI 2))) (o_b1 (m_228 th x5_8 (I_82 (Rf th 15) (a1 + (nI 2)).toNatClampNeg) (a1 + (nI 3)) a2 I_82 Rf G) (fun I_106 => m_240_j109 th a0 a1 Rf G x5_8 I_106))) else (m_240_j109 th a0 a1 Rf G x5_8 I_82)
def m_240_j57 (th : Nat) (a0 : Int64) (a1 : Int32) (a2 : Int32) (Rf : ai_R) (G : ai_G) (x5_8 : Int32) (I_57 : ai_I) : Option (Int32 × ai_I) :=
  if (ai_cmp a0 (7931400 : Int64)) = 0 then (o_g (o_in G 13 (Rf th 15) (a1 + (nI 2))) (o_b1 (m_227 th x5_8 (I_57 (Rf th 15) (a1 + (nI 2)).toNatClampNeg) (a1 + (nI 3)) I_57 Rf G) (fun I_79 => m_240_j82 th a0 a1 a2 Rf G x5_8 I_79))) else (m_240_j82 th a0 a1 a2 Rf G x5_8 I_57)
def m_240_j32 (th : Nat) (a0 : Int64) (a1 : Int32) (a2 : Int32) (Rf : ai_R) (G : ai_G) (x5_8 : Int32) (I_32 : ai_I) : Option (Int32 × ai_I) :=
  if (ai_cmp a0 (13684840 : Int64)) = 0 then (o_g (o_in G 13 (Rf th 15) (a1 + (nI 2))) (o_b1 (m_225 th x5_8 (I_32 (Rf th 15) (a1 + (nI 2)).toNatClampNeg) (a1 + (nI 3)) I_32 Rf G) (fun I_54 => m_240_j57 th a0 a1 a2 Rf G x5_8 I_54))) else (m_240_j57 th a0 a1 a2 Rf G x5_8 I_32)
/-- PricedBasesModel.makes(JII)Z -/
def m_240 (th : Nat) (a0 : Int64) (a1 : Int32) (a2 : Int32) (I : ai_I) (Rf : ai_R) (G : ai_G) : Option (Int32 × ai_I) :=
  o_g (o_in G 13 (Rf th 15) (a1 + (nI 1))) (o_b1 (some (I (Rf th 15) (a1 + (nI 1)).toNatClampNeg)) (fun x5_8 => if (ai_cmp a0 (23027990093 : Int64)) = 0 then (o_g (o_in G 13 (Rf th 15) (a1 + (nI 2))) (o_b1 (m_224 th x5_8 (I (Rf th 15) (a1 + (nI 2)).toNatClampNeg) I Rf G) (fun I_29 => m_240_j32 th a0 a1 a2 Rf G x5_8 I_29))) else (m_240_j32 th a0 a1 a2 Rf G x5_8 I)))
set_option maxRecDepth 100000 in
theorem md_240 {d : Nat} {I : ai_I} {J : ai_J} {Rf : ai_R} {G : ai_G} {th : Nat} {a0 : Int64} {a1 : Int32} {a2 : Int32} {r : Int32} {I1 : ai_I} (hd : 6 ≤ d) (hth : G.1 th = 11) (h : m_240 th a0 a1 a2 I Rf G = some (r, I1)) : ai_Cl si_t si_ms d 240 [.inr (.inr th), .inr (.inl a0), .inl a1, .inl a2] I J Rf G (some (.inl r)) I1 J Rf G := by
  obtain ⟨e, rfl⟩ : ∃ e, d = e + 1 := ⟨d - 1, by omega⟩
  unfold m_240 at h
  refine sp_in (lo := [some (.inr (.inr th)), some (.inr (.inl a0)), none, some (.inl a1), some (.inl a2), none]) (B := (0, 0)) rfl (Nat.le_of_ble_eq_true rfl) rfl rfl ?_
  refine go_aload_n (pc' := 1) rfl rfl rfl ?_
  refine go_getR (pc' := 4) rfl rfl hth rfl ?_
  refine go_iload_n (pc' := 5) rfl rfl rfl ?_
  refine go_iconst (pc' := 6) (v := (nI 1)) rfl rfl rfl ?_
  refine go_iadd (pc' := 7) rfl rfl ?_
  obtain ⟨g0, h⟩ := o_gE h
  refine go_iaload (pc' := 8) rfl (o_inK g0) (o_inB g0) rfl ?_
  obtain ⟨x5_8, ex5_8, h⟩ := o_b1E h
  refine go_ndI ex5_8 ?_
  refine go_istore (pc' := 10) (lo' := [some (.inr (.inr th)), some (.inr (.inl a0)), none, some (.inl a1), some (.inl a2), some (.inl x5_8)]) rfl rfl rfl ?_
  refine go_lload_n (pc' := 11) rfl rfl rfl ?_
  refine go_ldc2_w (pc' := 14) (v := .inr (.inl (23027990093 : Int64))) rfl rfl rfl ?_
  refine go_lcmp (pc' := 15) rfl rfl ?_
  have jn32 : ∀ (I_32 : ai_I), m_240_j32 th a0 a1 a2 Rf G x5_8 I_32 = some (r, I1) → ai_Go si_t (11, false, 3, cd_240) (ai_Cl si_t si_ms e) (sp_Q (some (.inl r)) I1 J Rf G) 32 [some (.inr (.inr th)), some (.inr (.inl a0)), none, some (.inl a1), some (.inl a2), some (.inl x5_8)] [] (0, 0) I_32 J Rf G := by
    intro I_32 h
    unfold m_240_j32 at h
    refine go_lload_n (pc' := 33) rfl rfl rfl ?_
    refine go_ldc2_w (pc' := 36) (v := .inr (.inl (13684840 : Int64))) rfl rfl rfl ?_
    refine go_lcmp (pc' := 37) rfl rfl ?_
    have jn57 : ∀ (I_57 : ai_I), m_240_j57 th a0 a1 a2 Rf G x5_8 I_57 = some (r, I1) → ai_Go si_t (11, false, 3, cd_240) (ai_Cl si_t si_ms e) (sp_Q (some (.inl r)) I1 J Rf G) 57 [some (.inr (.inr th)), some (.inr (.inl a0)), none, some (.inl a1), some (.inl a2), some (.inl x5_8)] [] (0, 0) I_57 J Rf G := by
      intro I_57 h
      unfold m_240_j57 at h
      refine go_lload_n (pc' := 58) rfl rfl rfl ?_
      refine go_ldc2_w (pc' := 61) (v := .inr (.inl (7931400 : Int64))) rfl rfl rfl ?_
      refine go_lcmp (pc' := 62) rfl rfl ?_
      have jn82 : ∀ (I_82 : ai_I), m_240_j82 th a0 a1 a2 Rf G x5_8 I_82 = some (r, I1) → ai_Go si_t (11, false, 3, cd_240) (ai_Cl si_t si_ms e) (sp_Q (some (.inl r)) I1 J Rf G) 82 [some (.inr (.inr th)), some (.inr (.inl a0)), none, some (.inl a1), some (.inl a2), some (.inl x5_8)] [] (0, 0) I_82 J Rf G := by
        intro I_82 h
        unfold m_240_j82 at h
        refine go_lload_n (pc' := 83) rfl rfl rfl ?_
        refine go_ldc2_w (pc' := 86) (v := .inr (.inl (671108 : Int64))) rfl rfl rfl ?_
        refine go_lcmp (pc' := 87) rfl rfl ?_
        have jn109 : ∀ (I_109 : ai_I), m_240_j109 th a0 a1 Rf G x5_8 I_109 = some (r, I1) → ai_Go si_t (11, false, 3, cd_240) (ai_Cl si_t si_ms e) (sp_Q (some (.inl r)) I1 J Rf G) 109 [some (.inr (.inr th)), some (.inr (.inl a0)), none, some (.inl a1), some (.inl a2), some (.inl x5_8)] [] (0, 0) I_109 J Rf G := by
          intro I_109 h
          unfold m_240_j109 at h
          refine go_lload_n (pc' := 110) rfl rfl rfl ?_
          refine go_ldc2_w (pc' := 113) (v := .inr (.inl (23027990093 : Int64))) rfl rfl rfl ?_
          refine go_lcmp (pc' := 114) rfl rfl ?_
          refine go_if_eq (pt := 141) (pc' := 117) rfl rfl rfl (fun h114 => ?_) (fun h114 => ?_)
          · replace h := o_t h114 h
            refine go_iconst (pc' := 142) (v := (nI 1)) rfl rfl rfl ?_
            cases h
            exact go_iret rfl (rfl) ⟨rfl, rfl, rfl, rfl, rfl⟩
          · replace h := o_f h114 h
            refine go_lload_n (pc' := 118) rfl rfl rfl ?_
            refine go_ldc2_w (pc' := 121) (v := .inr (.inl (13684840 : Int64))) rfl rfl rfl ?_
            refine go_lcmp (pc' := 122) rfl rfl ?_
            refine go_if_eq (pt := 141) (pc' := 125) rfl rfl rfl (fun h122 => ?_) (fun h122 => ?_)
            · replace h := o_t h122 h
              refine go_iconst (pc' := 142) (v := (nI 1)) rfl rfl rfl ?_
              cases h
              exact go_iret rfl (rfl) ⟨rfl, rfl, rfl, rfl, rfl⟩
            · replace h := o_f h122 h
              refine go_lload_n (pc' := 126) rfl rfl rfl ?_
              refine go_ldc2_w (pc' := 129) (v := .inr (.inl (7931400 : Int64))) rfl rfl rfl ?_
              refine go_lcmp (pc' := 130) rfl rfl ?_
              refine go_if_eq (pt := 141) (pc' := 133) rfl rfl rfl (fun h130 => ?_) (fun h130 => ?_)
              · replace h := o_t h130 h
                refine go_iconst (pc' := 142) (v := (nI 1)) rfl rfl rfl ?_
                cases h
                exact go_iret rfl (rfl) ⟨rfl, rfl, rfl, rfl, rfl⟩
              · replace h := o_f h130 h
                refine go_lload_n (pc' := 134) rfl rfl rfl ?_
                refine go_ldc2_w (pc' := 137) (v := .inr (.inl (671108 : Int64))) rfl rfl rfl ?_
                refine go_lcmp (pc' := 138) rfl rfl ?_
                refine go_if_ne (pt := 143) (pc' := 141) rfl rfl rfl (fun h138 => ?_) (fun h138 => ?_)
                · replace h := o_f h138 h
                  refine go_aload_n (pc' := 144) rfl rfl rfl ?_
                  refine go_iload (pc' := 146) rfl rfl rfl ?_
                  obtain ⟨I_146, q_146, h⟩ := o_b1E h
                  refine go_callV (pc' := 149) (B' := (0, 0)) (st' := []) rfl rfl (Or.inl (by decide)) rfl rfl hth (md_221 (by omega) hth q_146) rfl rfl rfl ?_
                  refine go_lload_n (pc' := 150) rfl rfl rfl ?_
                  refine go_ldc2_w (pc' := 153) (v := .inr (.inl (152620 : Int64))) rfl rfl rfl ?_
                  refine go_lcmp (pc' := 154) rfl rfl ?_
                  have jn161 : ∀ (I_161 : ai_I), m_240_j161 th a0 a1 Rf G x5_8 I_161 = some (r, I1) → ai_Go si_t (11, false, 3, cd_240) (ai_Cl si_t si_ms e) (sp_Q (some (.inl r)) I1 J Rf G) 161 [some (.inr (.inr th)), some (.inr (.inl a0)), none, some (.inl a1), some (.inl a2), some (.inl x5_8)] [] (0, 0) I_161 J Rf G := by
                    intro I_161 h
                    unfold m_240_j161 at h
                    refine go_lload_n (pc' := 162) rfl rfl rfl ?_
                    refine go_ldc2_w (pc' := 165) (v := .inr (.inl (20194516 : Int64))) rfl rfl rfl ?_
                    refine go_lcmp (pc' := 166) rfl rfl ?_
                    have jn173 : ∀ (I_173 : ai_I), m_240_j173 th a0 a1 Rf G x5_8 I_173 = some (r, I1) → ai_Go si_t (11, false, 3, cd_240) (ai_Cl si_t si_ms e) (sp_Q (some (.inl r)) I1 J Rf G) 173 [some (.inr (.inr th)), some (.inr (.inl a0)), none, some (.inl a1), some (.inl a2), some (.inl x5_8)] [] (0, 0) I_173 J Rf G := by
                      intro I_173 h
                      unfold m_240_j173 at h
                      refine go_lload_n (pc' := 174) rfl rfl rfl ?_
                      refine go_ldc2_w (pc' := 177) (v := .inr (.inl (3764 : Int64))) rfl rfl rfl ?_
                      refine go_lcmp (pc' := 178) rfl rfl ?_
                      have jn185 : ∀ (I_185 : ai_I), m_240_j185 th a0 a1 Rf G x5_8 I_185 = some (r, I1) → ai_Go si_t (11, false, 3, cd_240) (ai_Cl si_t si_ms e) (sp_Q (some (.inl r)) I1 J Rf G) 185 [some (.inr (.inr th)), some (.inr (.inl a0)), none, some (.inl a1), some (.inl a2), some (.inl x5_8)] [] (0, 0) I_185 J Rf G := by
                        intro I_185 h
                        unfold m_240_j185 at h
                        refine go_lload_n (pc' := 186) rfl rfl rfl ?_
                        refine go_ldc2_w (pc' := 189) (v := .inr (.inl (10143540268 : Int64))) rfl rfl rfl ?_
                        refine go_lcmp (pc' := 190) rfl rfl ?_
                        have jn199 : ∀ (I_199 : ai_I), m_240_j199 th a0 a1 Rf G x5_8 I_199 = some (r, I1) → ai_Go si_t (11, false, 3, cd_240) (ai_Cl si_t si_ms e) (sp_Q (some (.inl r)) I1 J Rf G) 199 [some (.inr (.inr th)), some (.inr (.inl a0)), none, some (.inl a1), some (.inl a2), some (.inl x5_8)] [] (0, 0) I_199 J Rf G := by
                          intro I_199 h
                          unfold m_240_j199 at h
                          refine go_lload_n (pc' := 200) rfl rfl rfl ?_
                          refine go_ldc2_w (pc' := 203) (v := .inr (.inl (18916965 : Int64))) rfl rfl rfl ?_
                          refine go_lcmp (pc' := 204) rfl rfl ?_
                          have jn219 : ∀ (I_219 : ai_I), m_240_j219 th a0 a1 Rf G x5_8 I_219 = some (r, I1) → ai_Go si_t (11, false, 3, cd_240) (ai_Cl si_t si_ms e) (sp_Q (some (.inl r)) I1 J Rf G) 219 [some (.inr (.inr th)), some (.inr (.inl a0)), none, some (.inl a1), some (.inl a2), some (.inl x5_8)] [] (0, 0) I_219 J Rf G := by
                            intro I_219 h
                            unfold m_240_j219 at h
                            refine go_lload_n (pc' := 220) rfl rfl rfl ?_
                            refine go_ldc2_w (pc' := 223) (v := .inr (.inl (25019301556 : Int64))) rfl rfl rfl ?_
                            refine go_lcmp (pc' := 224) rfl rfl ?_
                            have jn277 : ∀ (I_277 : ai_I), m_240_j277 th a0 a1 Rf G x5_8 I_277 = some (r, I1) → ai_Go si_t (11, false, 3, cd_240) (ai_Cl si_t si_ms e) (sp_Q (some (.inl r)) I1 J Rf G) 277 [some (.inr (.inr th)), some (.inr (.inl a0)), none, some (.inl a1), some (.inl a2), some (.inl x5_8)] [] (0, 0) I_277 J Rf G := by
                              intro I_277 h
                              unfold m_240_j277 at h
                              refine go_lload_n (pc' := 278) rfl rfl rfl ?_
                              refine go_ldc2_w (pc' := 281) (v := .inr (.inl (537267 : Int64))) rfl rfl rfl ?_
                              refine go_lcmp (pc' := 282) rfl rfl ?_
                              have jn299 : ∀ (I_299 : ai_I), m_240_j299 th a0 a1 Rf G x5_8 I_299 = some (r, I1) → ai_Go si_t (11, false, 3, cd_240) (ai_Cl si_t si_ms e) (sp_Q (some (.inl r)) I1 J Rf G) 299 [some (.inr (.inr th)), some (.inr (.inl a0)), none, some (.inl a1), some (.inl a2), some (.inl x5_8)] [] (0, 0) I_299 J Rf G := by
                                intro I_299 h
                                unfold m_240_j299 at h
                                refine go_lload_n (pc' := 300) rfl rfl rfl ?_
                                refine go_ldc2_w (pc' := 303) (v := .inr (.inl (343342 : Int64))) rfl rfl rfl ?_
                                refine go_lcmp (pc' := 304) rfl rfl ?_
                                refine go_if_ne (pt := 344) (pc' := 307) rfl rfl rfl (fun h304 => ?_) (fun h304 => ?_)
                                · replace h := o_f h304 h
                                  refine go_iconst (pc' := 345) (v := (nI 1)) rfl rfl rfl ?_
                                  cases h
                                  exact go_iret rfl (rfl) ⟨rfl, rfl, rfl, rfl, rfl⟩
                                · replace h := o_t (Decidable.of_not_not h304) h
                                  refine go_aload_n (pc' := 308) rfl rfl rfl ?_
                                  refine go_iload (pc' := 310) rfl rfl rfl ?_
                                  obtain ⟨r_310, q_310, h⟩ := o_b1E h
                                  refine go_callV (pc' := 313) (B' := (0, 0)) (st' := [.inl r_310]) rfl rfl (Or.inl (by decide)) rfl rfl hth (md_195 (by omega) hth q_310) rfl rfl rfl ?_
                                  refine go_aload_n (pc' := 314) rfl rfl rfl ?_
                                  refine go_aload_n (pc' := 315) rfl rfl rfl ?_
                                  refine go_getR (pc' := 318) rfl rfl hth rfl ?_
                                  refine go_iload_n (pc' := 319) rfl rfl rfl ?_
                                  refine go_iconst (pc' := 320) (v := (nI 2)) rfl rfl rfl ?_
                                  refine go_iadd (pc' := 321) rfl rfl ?_
                                  obtain ⟨g1, h⟩ := o_gE h
                                  refine go_iaload (pc' := 322) rfl (o_inK g1) (o_inB g1) rfl ?_
                                  obtain ⟨r_322, q_322, h⟩ := o_b1E h
                                  refine go_callV (pc' := 325) (B' := (0, 0)) (st' := [.inl r_322, .inl r_310]) rfl rfl (Or.inl (by decide)) rfl rfl hth (md_195 (by omega) hth q_322) rfl rfl rfl ?_
                                  refine go_icmp_eq (pt := 330) (pc' := 328) rfl rfl rfl (fun h325 => ?_) (fun h325 => ?_)
                                  · replace h := o_t h325 h
                                    refine go_aload_n (pc' := 331) rfl rfl rfl ?_
                                    refine go_iload (pc' := 333) rfl rfl rfl ?_
                                    refine go_aload_n (pc' := 334) rfl rfl rfl ?_
                                    refine go_getR (pc' := 337) rfl rfl hth rfl ?_
                                    refine go_iload_n (pc' := 338) rfl rfl rfl ?_
                                    refine go_iconst (pc' := 339) (v := (nI 2)) rfl rfl rfl ?_
                                    refine go_iadd (pc' := 340) rfl rfl ?_
                                    obtain ⟨g2, h⟩ := o_gE h
                                    refine go_iaload (pc' := 341) rfl (o_inK g2) (o_inB g2) rfl ?_
                                    obtain ⟨I_341, q_341, h⟩ := o_b1E h
                                    refine go_callV (pc' := 344) (B' := (0, 0)) (st' := []) rfl rfl (Or.inl (by decide)) rfl rfl hth (md_237 (by omega) hth q_341) rfl rfl rfl ?_
                                    refine go_iconst (pc' := 345) (v := (nI 1)) rfl rfl rfl ?_
                                    cases h
                                    exact go_iret rfl (rfl) ⟨rfl, rfl, rfl, rfl, rfl⟩
                                  · replace h := o_f h325 h
                                    refine go_iconst (pc' := 329) (v := (nI 0)) rfl rfl rfl ?_
                                    cases h
                                    exact go_iret rfl (rfl) ⟨rfl, rfl, rfl, rfl, rfl⟩
                              refine go_if_ne (pt := 299) (pc' := 285) rfl rfl rfl (fun h282 => ?_) (fun h282 => ?_)
                              · replace h := o_f h282 h
                                exact jn299 I_277 h
                              · replace h := o_t (Decidable.of_not_not h282) h
                                refine go_aload_n (pc' := 286) rfl rfl rfl ?_
                                refine go_iload (pc' := 288) rfl rfl rfl ?_
                                refine go_aload_n (pc' := 289) rfl rfl rfl ?_
                                refine go_getR (pc' := 292) rfl rfl hth rfl ?_
                                refine go_iload_n (pc' := 293) rfl rfl rfl ?_
                                refine go_iconst (pc' := 294) (v := (nI 2)) rfl rfl rfl ?_
                                refine go_iadd (pc' := 295) rfl rfl ?_
                                obtain ⟨g3, h⟩ := o_gE h
                                refine go_iaload (pc' := 296) rfl (o_inK g3) (o_inB g3) rfl ?_
                                obtain ⟨I_296, q_296, h⟩ := o_b1E h
                                refine go_callV (pc' := 299) (B' := (0, 0)) (st' := []) rfl rfl (Or.inl (by decide)) rfl rfl hth (md_236 (by omega) hth q_296) rfl rfl rfl ?_
                                exact jn299 I_296 h
                            have jn235 : m_240_j235 th a0 a1 Rf G x5_8 I_219 = some (r, I1) → ai_Go si_t (11, false, 3, cd_240) (ai_Cl si_t si_ms e) (sp_Q (some (.inl r)) I1 J Rf G) 235 [some (.inr (.inr th)), some (.inr (.inl a0)), none, some (.inl a1), some (.inl a2), some (.inl x5_8)] [] (0, 0) I_219 J Rf G := by
                              intro h
                              unfold m_240_j235 at h
                              refine go_aload_n (pc' := 236) rfl rfl rfl ?_
                              refine go_getR (pc' := 239) rfl rfl hth rfl ?_
                              refine go_iload_n (pc' := 240) rfl rfl rfl ?_
                              refine go_iconst (pc' := 241) (v := (nI 2)) rfl rfl rfl ?_
                              refine go_iadd (pc' := 242) rfl rfl ?_
                              obtain ⟨g4, h⟩ := o_gE h
                              refine go_iaload (pc' := 243) rfl (o_inK g4) (o_inB g4) rfl ?_
                              refine go_aload_n (pc' := 244) rfl rfl rfl ?_
                              refine go_getI (pc' := 247) rfl rfl (by decide) (by decide) hth rfl ?_
                              refine go_icmp_lt (pt := 252) (pc' := 250) rfl rfl rfl (fun h247 => ?_) (fun h247 => ?_)
                              · replace h := o_t h247 h
                                refine go_aload_n (pc' := 253) rfl rfl rfl ?_
                                refine go_aload_n (pc' := 254) rfl rfl rfl ?_
                                refine go_getR (pc' := 257) rfl rfl hth rfl ?_
                                refine go_iload_n (pc' := 258) rfl rfl rfl ?_
                                refine go_iconst (pc' := 259) (v := (nI 2)) rfl rfl rfl ?_
                                refine go_iadd (pc' := 260) rfl rfl ?_
                                obtain ⟨g5, h⟩ := o_gE h
                                refine go_iaload (pc' := 261) rfl (o_inK g5) (o_inB g5) rfl ?_
                                refine go_lload_n (pc' := 262) rfl rfl rfl ?_
                                refine go_ldc2_w (pc' := 265) (v := .inr (.inl (89 : Int64))) rfl rfl rfl ?_
                                refine go_lcmp (pc' := 266) rfl rfl ?_
                                have jn274 : ∀ (t2_274 : Int32), m_240_j274 th a0 a1 Rf G x5_8 I_219 t2_274 = some (r, I1) → ai_Go si_t (11, false, 3, cd_240) (ai_Cl si_t si_ms e) (sp_Q (some (.inl r)) I1 J Rf G) 274 [some (.inr (.inr th)), some (.inr (.inl a0)), none, some (.inl a1), some (.inl a2), some (.inl x5_8)] [.inl t2_274, .inl (I_219 (Rf th 15) (a1 + (nI 2)).toNatClampNeg), .inr (.inr th)] (0, 0) I_219 J Rf G := by
                                  intro t2_274 h
                                  unfold m_240_j274 at h
                                  obtain ⟨I_274, q_274, h⟩ := o_b1E h
                                  refine go_callV (pc' := 277) (B' := (0, 0)) (st' := []) rfl rfl (Or.inl (by decide)) rfl rfl hth (md_232 (by omega) hth q_274) rfl rfl rfl ?_
                                  exact jn277 I_274 h
                                refine go_if_ne (pt := 273) (pc' := 269) rfl rfl rfl (fun h266 => ?_) (fun h266 => ?_)
                                · replace h := o_f h266 h
                                  refine go_iconst (pc' := 274) (v := (nI 0)) rfl rfl rfl ?_
                                  exact jn274 (nI 0) h
                                · replace h := o_t (Decidable.of_not_not h266) h
                                  refine go_iconst (pc' := 270) (v := (nI 1)) rfl rfl rfl ?_
                                  refine go_goto (pc' := 274) rfl rfl ?_
                                  exact jn274 (nI 1) h
                              · replace h := o_f h247 h
                                refine go_iconst (pc' := 251) (v := (nI 0)) rfl rfl rfl ?_
                                cases h
                                exact go_iret rfl (rfl) ⟨rfl, rfl, rfl, rfl, rfl⟩
                            refine go_if_eq (pt := 235) (pc' := 227) rfl rfl rfl (fun h224 => ?_) (fun h224 => ?_)
                            · replace h := o_t h224 h
                              exact jn235  h
                            · replace h := o_f h224 h
                              refine go_lload_n (pc' := 228) rfl rfl rfl ?_
                              refine go_ldc2_w (pc' := 231) (v := .inr (.inl (89 : Int64))) rfl rfl rfl ?_
                              refine go_lcmp (pc' := 232) rfl rfl ?_
                              refine go_if_ne (pt := 277) (pc' := 235) rfl rfl rfl (fun h232 => ?_) (fun h232 => ?_)
                              · replace h := o_f h232 h
                                exact jn277 I_219 h
                              · replace h := o_t (Decidable.of_not_not h232) h
                                exact jn235  h
                          refine go_if_ne (pt := 219) (pc' := 207) rfl rfl rfl (fun h204 => ?_) (fun h204 => ?_)
                          · replace h := o_f h204 h
                            exact jn219 I_199 h
                          · replace h := o_t (Decidable.of_not_not h204) h
                            refine go_aload_n (pc' := 208) rfl rfl rfl ?_
                            obtain ⟨I_208, q_208, h⟩ := o_b1E h
                            refine go_callV (pc' := 211) (B' := (0, 0)) (st' := []) rfl rfl (Or.inl (by decide)) rfl rfl hth (md_230 (by omega) hth q_208) rfl rfl rfl ?_
                            refine go_aload_n (pc' := 212) rfl rfl rfl ?_
                            obtain ⟨I_212, q_212, h⟩ := o_b1E h
                            refine go_callV (pc' := 215) (B' := (0, 0)) (st' := []) rfl rfl (Or.inl (by decide)) rfl rfl hth (md_235 (by omega) hth q_212) rfl rfl rfl ?_
                            refine go_aload_n (pc' := 216) rfl rfl rfl ?_
                            obtain ⟨I_216, q_216, h⟩ := o_b1E h
                            refine go_callV (pc' := 219) (B' := (0, 0)) (st' := []) rfl rfl (Or.inl (by decide)) rfl rfl hth (md_230 (by omega) hth q_216) rfl rfl rfl ?_
                            exact jn219 I_216 h
                        refine go_if_ne (pt := 199) (pc' := 193) rfl rfl rfl (fun h190 => ?_) (fun h190 => ?_)
                        · replace h := o_f h190 h
                          exact jn199 I_185 h
                        · replace h := o_t (Decidable.of_not_not h190) h
                          refine go_aload_n (pc' := 194) rfl rfl rfl ?_
                          refine go_iload (pc' := 196) rfl rfl rfl ?_
                          obtain ⟨I_196, q_196, h⟩ := o_b1E h
                          refine go_callV (pc' := 199) (B' := (0, 0)) (st' := []) rfl rfl (Or.inl (by decide)) rfl rfl hth (md_238 (by omega) hth q_196) rfl rfl rfl ?_
                          exact jn199 I_196 h
                      refine go_if_ne (pt := 185) (pc' := 181) rfl rfl rfl (fun h178 => ?_) (fun h178 => ?_)
                      · replace h := o_f h178 h
                        exact jn185 I_173 h
                      · replace h := o_t (Decidable.of_not_not h178) h
                        refine go_aload_n (pc' := 182) rfl rfl rfl ?_
                        obtain ⟨I_182, q_182, h⟩ := o_b1E h
                        refine go_callV (pc' := 185) (B' := (0, 0)) (st' := []) rfl rfl (Or.inl (by decide)) rfl rfl hth (md_235 (by omega) hth q_182) rfl rfl rfl ?_
                        exact jn185 I_182 h
                    refine go_if_ne (pt := 173) (pc' := 169) rfl rfl rfl (fun h166 => ?_) (fun h166 => ?_)
                    · replace h := o_f h166 h
                      exact jn173 I_161 h
                    · replace h := o_t (Decidable.of_not_not h166) h
                      refine go_aload_n (pc' := 170) rfl rfl rfl ?_
                      obtain ⟨I_170, q_170, h⟩ := o_b1E h
                      refine go_callV (pc' := 173) (B' := (0, 0)) (st' := []) rfl rfl (Or.inl (by decide)) rfl rfl hth (md_234 (by omega) hth q_170) rfl rfl rfl ?_
                      exact jn173 I_170 h
                  refine go_if_ne (pt := 161) (pc' := 157) rfl rfl rfl (fun h154 => ?_) (fun h154 => ?_)
                  · replace h := o_f h154 h
                    exact jn161 I_146 h
                  · replace h := o_t (Decidable.of_not_not h154) h
                    refine go_aload_n (pc' := 158) rfl rfl rfl ?_
                    obtain ⟨I_158, q_158, h⟩ := o_b1E h
                    refine go_callV (pc' := 161) (B' := (0, 0)) (st' := []) rfl rfl (Or.inl (by decide)) rfl rfl hth (md_230 (by omega) hth q_158) rfl rfl rfl ?_
                    exact jn161 I_158 h
                · replace h := o_t (Decidable.of_not_not h138) h
                  refine go_iconst (pc' := 142) (v := (nI 1)) rfl rfl rfl ?_
                  cases h
                  exact go_iret rfl (rfl) ⟨rfl, rfl, rfl, rfl, rfl⟩
        refine go_if_ne (pt := 109) (pc' := 90) rfl rfl rfl (fun h87 => ?_) (fun h87 => ?_)
        · replace h := o_f h87 h
          exact jn109 I_82 h
        · replace h := o_t (Decidable.of_not_not h87) h
          refine go_aload_n (pc' := 91) rfl rfl rfl ?_
          refine go_iload (pc' := 93) rfl rfl rfl ?_
          refine go_aload_n (pc' := 94) rfl rfl rfl ?_
          refine go_getR (pc' := 97) rfl rfl hth rfl ?_
          refine go_iload_n (pc' := 98) rfl rfl rfl ?_
          refine go_iconst (pc' := 99) (v := (nI 2)) rfl rfl rfl ?_
          refine go_iadd (pc' := 100) rfl rfl ?_
          obtain ⟨g6, h⟩ := o_gE h
          refine go_iaload (pc' := 101) rfl (o_inK g6) (o_inB g6) rfl ?_
          refine go_iload_n (pc' := 102) rfl rfl rfl ?_
          refine go_iconst (pc' := 103) (v := (nI 3)) rfl rfl rfl ?_
          refine go_iadd (pc' := 104) rfl rfl ?_
          refine go_iload (pc' := 106) rfl rfl rfl ?_
          obtain ⟨I_106, q_106, h⟩ := o_b1E h
          refine go_callV (pc' := 109) (B' := (0, 0)) (st' := []) rfl rfl (Or.inl (by decide)) rfl rfl hth (md_228 (by omega) hth q_106) rfl rfl rfl ?_
          exact jn109 I_106 h
      refine go_if_ne (pt := 82) (pc' := 65) rfl rfl rfl (fun h62 => ?_) (fun h62 => ?_)
      · replace h := o_f h62 h
        exact jn82 I_57 h
      · replace h := o_t (Decidable.of_not_not h62) h
        refine go_aload_n (pc' := 66) rfl rfl rfl ?_
        refine go_iload (pc' := 68) rfl rfl rfl ?_
        refine go_aload_n (pc' := 69) rfl rfl rfl ?_
        refine go_getR (pc' := 72) rfl rfl hth rfl ?_
        refine go_iload_n (pc' := 73) rfl rfl rfl ?_
        refine go_iconst (pc' := 74) (v := (nI 2)) rfl rfl rfl ?_
        refine go_iadd (pc' := 75) rfl rfl ?_
        obtain ⟨g7, h⟩ := o_gE h
        refine go_iaload (pc' := 76) rfl (o_inK g7) (o_inB g7) rfl ?_
        refine go_iload_n (pc' := 77) rfl rfl rfl ?_
        refine go_iconst (pc' := 78) (v := (nI 3)) rfl rfl rfl ?_
        refine go_iadd (pc' := 79) rfl rfl ?_
        obtain ⟨I_79, q_79, h⟩ := o_b1E h
        refine go_callV (pc' := 82) (B' := (0, 0)) (st' := []) rfl rfl (Or.inl (by decide)) rfl rfl hth (md_227 (by omega) hth q_79) rfl rfl rfl ?_
        exact jn82 I_79 h
    refine go_if_ne (pt := 57) (pc' := 40) rfl rfl rfl (fun h37 => ?_) (fun h37 => ?_)
    · replace h := o_f h37 h
      exact jn57 I_32 h
    · replace h := o_t (Decidable.of_not_not h37) h
      refine go_aload_n (pc' := 41) rfl rfl rfl ?_
      refine go_iload (pc' := 43) rfl rfl rfl ?_
      refine go_aload_n (pc' := 44) rfl rfl rfl ?_
      refine go_getR (pc' := 47) rfl rfl hth rfl ?_
      refine go_iload_n (pc' := 48) rfl rfl rfl ?_
      refine go_iconst (pc' := 49) (v := (nI 2)) rfl rfl rfl ?_
      refine go_iadd (pc' := 50) rfl rfl ?_
      obtain ⟨g8, h⟩ := o_gE h
      refine go_iaload (pc' := 51) rfl (o_inK g8) (o_inB g8) rfl ?_
      refine go_iload_n (pc' := 52) rfl rfl rfl ?_
      refine go_iconst (pc' := 53) (v := (nI 3)) rfl rfl rfl ?_
      refine go_iadd (pc' := 54) rfl rfl ?_
      obtain ⟨I_54, q_54, h⟩ := o_b1E h
      refine go_callV (pc' := 57) (B' := (0, 0)) (st' := []) rfl rfl (Or.inl (by decide)) rfl rfl hth (md_225 (by omega) hth q_54) rfl rfl rfl ?_
      exact jn57 I_54 h
  refine go_if_ne (pt := 32) (pc' := 18) rfl rfl rfl (fun h15 => ?_) (fun h15 => ?_)
  · replace h := o_f h15 h
    exact jn32 I h
  · replace h := o_t (Decidable.of_not_not h15) h
    refine go_aload_n (pc' := 19) rfl rfl rfl ?_
    refine go_iload (pc' := 21) rfl rfl rfl ?_
    refine go_aload_n (pc' := 22) rfl rfl rfl ?_
    refine go_getR (pc' := 25) rfl rfl hth rfl ?_
    refine go_iload_n (pc' := 26) rfl rfl rfl ?_
    refine go_iconst (pc' := 27) (v := (nI 2)) rfl rfl rfl ?_
    refine go_iadd (pc' := 28) rfl rfl ?_
    obtain ⟨g9, h⟩ := o_gE h
    refine go_iaload (pc' := 29) rfl (o_inK g9) (o_inB g9) rfl ?_
    obtain ⟨I_29, q_29, h⟩ := o_b1E h
    refine go_callV (pc' := 32) (B' := (0, 0)) (st' := []) rfl rfl (Or.inl (by decide)) rfl rfl hth (md_224 (by omega) hth q_29) rfl rfl rfl ?_
    exact jn32 I_29 h
def m_241_j32 (th : Nat) (a0 : Int32) (I : ai_I) (J : ai_J) (Rf : ai_R) (G : ai_G) (x2_6 : Int32) (t0_32 : Int32) : Option (Int32 × ai_I) :=
  o_g (o_in G 14 (Rf th 13) a0) (if (ai_cmp (J (Rf th 13) a0.toNatClampNeg) (17376357 : Int64)) = 0 then (o_g (o_in G 13 (Rf th 15) x2_6) (o_g (o_in G 13 (Rf th 15) (x2_6 + (nI 1))) (o_g (o_in G 13 (Rf th 0) ((nI 1032) + (I (Rf th 15) x2_6.toNatClampNeg))) (o_b1 (some (va_up I (Rf th 0) (va_up (I (Rf th 0)) ((nI 1032) + (I (Rf th 15) x2_6.toNatClampNeg)).toNatClampNeg (I (Rf th 15) (x2_6 + (nI 1)).toNatClampNeg)))) (fun I_68 => some ((nI 1), I_68)))))) else (o_g (o_in G 14 (Rf th 13) a0) (o_b2 (m_240 th (J (Rf th 13) a0.toNatClampNeg) x2_6 t0_32 I Rf G) (fun r_80 I_80 => if r_80 = 0 then (some ((nI 0), I_80)) else (o_b1 (m_223 th I_80 Rf G) (fun r_87 => if r_87 = 0 then (some ((nI 0), I_80)) else (o_g (o_in G 13 (Rf th 15) x2_6) (o_b1 (some (I_80 (Rf th 15) x2_6.toNatClampNeg)) (fun x4_101 => o_b1 (m_204 th x4_101 I_80 Rf G) (fun r_106 => o_b1 (m_222 th x4_101 I_80 Rf G) (fun I_114 => o_b1 (m_239 th x4_101 r_106 I_114 Rf G) (fun I_122 => some ((nI 1), I_122)))))))))))))
/-- PricedBasesModel.does(I)Z -/
def m_241 (th : Nat) (a0 : Int32) (I : ai_I) (J : ai_J) (Rf : ai_R) (G : ai_G) : Option (Int32 × ai_I) :=
  o_g (o_in G 13 (Rf th 14) a0) (o_b1 (some (I (Rf th 14) a0.toNatClampNeg)) (fun x2_6 => if (I th 10) ≤ (a0 + (nI 1)) then (m_241_j32 th a0 I J Rf G x2_6 (I th 11)) else (o_g (o_in G 13 (Rf th 14) (a0 + (nI 1))) (m_241_j32 th a0 I J Rf G x2_6 (I (Rf th 14) (a0 + (nI 1)).toNatClampNeg)))))
theorem md_241 {d : Nat} {I : ai_I} {J : ai_J} {Rf : ai_R} {G : ai_G} {th : Nat} {a0 : Int32} {r : Int32} {I1 : ai_I} (hd : 7 ≤ d) (hth : G.1 th = 11) (h : m_241 th a0 I J Rf G = some (r, I1)) : ai_Cl si_t si_ms d 241 [.inr (.inr th), .inl a0] I J Rf G (some (.inl r)) I1 J Rf G := by
  obtain ⟨e, rfl⟩ : ∃ e, d = e + 1 := ⟨d - 1, by omega⟩
  unfold m_241 at h
  refine sp_in (lo := [some (.inr (.inr th)), some (.inl a0), none, none, none, none]) (B := (0, 0)) rfl (Nat.le_of_ble_eq_true rfl) rfl rfl ?_
  refine go_aload_n (pc' := 1) rfl rfl rfl ?_
  refine go_getR (pc' := 4) rfl rfl hth rfl ?_
  refine go_iload_n (pc' := 5) rfl rfl rfl ?_
  obtain ⟨g0, h⟩ := o_gE h
  refine go_iaload (pc' := 6) rfl (o_inK g0) (o_inB g0) rfl ?_
  obtain ⟨x2_6, ex2_6, h⟩ := o_b1E h
  refine go_ndI ex2_6 ?_
  refine go_istore_n (pc' := 7) (lo' := [some (.inr (.inr th)), some (.inl a0), some (.inl x2_6), none, none, none]) rfl rfl rfl ?_
  refine go_iload_n (pc' := 8) rfl rfl rfl ?_
  refine go_iconst (pc' := 9) (v := (nI 1)) rfl rfl rfl ?_
  refine go_iadd (pc' := 10) rfl rfl ?_
  refine go_aload_n (pc' := 11) rfl rfl rfl ?_
  refine go_getI (pc' := 14) rfl rfl (by decide) (by decide) hth rfl ?_
  have jn32 : ∀ (t0_32 : Int32), m_241_j32 th a0 I J Rf G x2_6 t0_32 = some (r, I1) → ai_Go si_t (11, false, 3, cd_241) (ai_Cl si_t si_ms e) (sp_Q (some (.inl r)) I1 J Rf G) 32 [some (.inr (.inr th)), some (.inl a0), some (.inl x2_6), none, none, none] [.inl t0_32] (0, 0) I J Rf G := by
    intro t0_32 h
    unfold m_241_j32 at h
    refine go_istore_n (pc' := 33) (lo' := [some (.inr (.inr th)), some (.inl a0), some (.inl x2_6), some (.inl t0_32), none, none]) rfl rfl rfl ?_
    refine go_aload_n (pc' := 34) rfl rfl rfl ?_
    refine go_getR (pc' := 37) rfl rfl hth rfl ?_
    refine go_iload_n (pc' := 38) rfl rfl rfl ?_
    obtain ⟨g1, h⟩ := o_gE h
    refine go_laload (pc' := 39) rfl (o_inK g1) (o_inB g1) rfl ?_
    refine go_ldc2_w (pc' := 42) (v := .inr (.inl (17376357 : Int64))) rfl rfl rfl ?_
    refine go_lcmp (pc' := 43) rfl rfl ?_
    refine go_if_ne (pt := 71) (pc' := 46) rfl rfl rfl (fun h43 => ?_) (fun h43 => ?_)
    · replace h := o_f h43 h
      refine go_aload_n (pc' := 72) rfl rfl rfl ?_
      refine go_aload_n (pc' := 73) rfl rfl rfl ?_
      refine go_getR (pc' := 76) rfl rfl hth rfl ?_
      refine go_iload_n (pc' := 77) rfl rfl rfl ?_
      obtain ⟨g2, h⟩ := o_gE h
      refine go_laload (pc' := 78) rfl (o_inK g2) (o_inB g2) rfl ?_
      refine go_iload_n (pc' := 79) rfl rfl rfl ?_
      refine go_iload_n (pc' := 80) rfl rfl rfl ?_
      obtain ⟨r_80, I_80, q_80, h⟩ := o_b2E h
      refine go_callV (pc' := 83) (B' := (0, 0)) (st' := [.inl r_80]) rfl rfl (Or.inl (by decide)) rfl rfl hth (md_240 (by omega) hth q_80) rfl rfl rfl ?_
      refine go_if_eq (pt := 93) (pc' := 86) rfl rfl rfl (fun h83 => ?_) (fun h83 => ?_)
      · replace h := o_t h83 h
        refine go_iconst (pc' := 94) (v := (nI 0)) rfl rfl rfl ?_
        cases h
        exact go_iret rfl (rfl) ⟨rfl, rfl, rfl, rfl, rfl⟩
      · replace h := o_f h83 h
        refine go_aload_n (pc' := 87) rfl rfl rfl ?_
        obtain ⟨r_87, q_87, h⟩ := o_b1E h
        refine go_callV (pc' := 90) (B' := (0, 0)) (st' := [.inl r_87]) rfl rfl (Or.inl (by decide)) rfl rfl hth (md_223 (by omega) hth q_87) rfl rfl rfl ?_
        refine go_if_ne (pt := 95) (pc' := 93) rfl rfl rfl (fun h90 => ?_) (fun h90 => ?_)
        · replace h := o_f h90 h
          refine go_aload_n (pc' := 96) rfl rfl rfl ?_
          refine go_getR (pc' := 99) rfl rfl hth rfl ?_
          refine go_iload_n (pc' := 100) rfl rfl rfl ?_
          obtain ⟨g3, h⟩ := o_gE h
          refine go_iaload (pc' := 101) rfl (o_inK g3) (o_inB g3) rfl ?_
          obtain ⟨x4_101, ex4_101, h⟩ := o_b1E h
          refine go_ndI ex4_101 ?_
          refine go_istore (pc' := 103) (lo' := [some (.inr (.inr th)), some (.inl a0), some (.inl x2_6), some (.inl t0_32), some (.inl x4_101), none]) rfl rfl rfl ?_
          refine go_aload_n (pc' := 104) rfl rfl rfl ?_
          refine go_iload (pc' := 106) rfl rfl rfl ?_
          obtain ⟨r_106, q_106, h⟩ := o_b1E h
          refine go_callV (pc' := 109) (B' := (0, 0)) (st' := [.inl r_106]) rfl rfl (Or.inl (by decide)) rfl rfl hth (md_204 (by omega) hth q_106) rfl rfl rfl ?_
          refine go_istore (pc' := 111) (lo' := [some (.inr (.inr th)), some (.inl a0), some (.inl x2_6), some (.inl t0_32), some (.inl x4_101), some (.inl r_106)]) rfl rfl rfl ?_
          refine go_aload_n (pc' := 112) rfl rfl rfl ?_
          refine go_iload (pc' := 114) rfl rfl rfl ?_
          obtain ⟨I_114, q_114, h⟩ := o_b1E h
          refine go_callV (pc' := 117) (B' := (0, 0)) (st' := []) rfl rfl (Or.inl (by decide)) rfl rfl hth (md_222 (by omega) hth q_114) rfl rfl rfl ?_
          refine go_aload_n (pc' := 118) rfl rfl rfl ?_
          refine go_iload (pc' := 120) rfl rfl rfl ?_
          refine go_iload (pc' := 122) rfl rfl rfl ?_
          obtain ⟨I_122, q_122, h⟩ := o_b1E h
          refine go_callV (pc' := 125) (B' := (0, 0)) (st' := []) rfl rfl (Or.inl (by decide)) rfl rfl hth (md_239 (by omega) hth q_122) rfl rfl rfl ?_
          refine go_iconst (pc' := 126) (v := (nI 1)) rfl rfl rfl ?_
          cases h
          exact go_iret rfl (rfl) ⟨rfl, rfl, rfl, rfl, rfl⟩
        · replace h := o_t (Decidable.of_not_not h90) h
          refine go_iconst (pc' := 94) (v := (nI 0)) rfl rfl rfl ?_
          cases h
          exact go_iret rfl (rfl) ⟨rfl, rfl, rfl, rfl, rfl⟩
    · replace h := o_t (Decidable.of_not_not h43) h
      refine go_aload_n (pc' := 47) rfl rfl rfl ?_
      refine go_getR (pc' := 50) rfl rfl hth rfl ?_
      refine go_sipush (pc' := 53) (v := (nI 1032)) rfl rfl rfl ?_
      refine go_aload_n (pc' := 54) rfl rfl rfl ?_
      refine go_getR (pc' := 57) rfl rfl hth rfl ?_
      refine go_iload_n (pc' := 58) rfl rfl rfl ?_
      obtain ⟨g4, h⟩ := o_gE h
      refine go_iaload (pc' := 59) rfl (o_inK g4) (o_inB g4) rfl ?_
      refine go_iadd (pc' := 60) rfl rfl ?_
      refine go_aload_n (pc' := 61) rfl rfl rfl ?_
      refine go_getR (pc' := 64) rfl rfl hth rfl ?_
      refine go_iload_n (pc' := 65) rfl rfl rfl ?_
      refine go_iconst (pc' := 66) (v := (nI 1)) rfl rfl rfl ?_
      refine go_iadd (pc' := 67) rfl rfl ?_
      obtain ⟨g5, h⟩ := o_gE h
      refine go_iaload (pc' := 68) rfl (o_inK g5) (o_inB g5) rfl ?_
      obtain ⟨g6, h⟩ := o_gE h
      obtain ⟨I_68, eI_68, h⟩ := o_b1E h
      refine go_iastore (pc' := 69) rfl (o_inK g6) (o_inB g6) rfl ?_
      refine go_ndMI eI_68 ?_
      refine go_iconst (pc' := 70) (v := (nI 1)) rfl rfl rfl ?_
      cases h
      exact go_iret rfl (rfl) ⟨rfl, rfl, rfl, rfl, rfl⟩
  refine go_icmp_ge (pt := 28) (pc' := 17) rfl rfl rfl (fun h14 => ?_) (fun h14 => ?_)
  · replace h := o_t h14 h
    refine go_aload_n (pc' := 29) rfl rfl rfl ?_
    refine go_getI (pc' := 32) rfl rfl (by decide) (by decide) hth rfl ?_
    exact jn32 (I th 11) h
  · replace h := o_f h14 h
    refine go_aload_n (pc' := 18) rfl rfl rfl ?_
    refine go_getR (pc' := 21) rfl rfl hth rfl ?_
    refine go_iload_n (pc' := 22) rfl rfl rfl ?_
    refine go_iconst (pc' := 23) (v := (nI 1)) rfl rfl rfl ?_
    refine go_iadd (pc' := 24) rfl rfl ?_
    obtain ⟨g7, h⟩ := o_gE h
    refine go_iaload (pc' := 25) rfl (o_inK g7) (o_inB g7) rfl ?_
    refine go_goto (pc' := 32) rfl rfl ?_
    exact jn32 (I (Rf th 14) (a0 + (nI 1)).toNatClampNeg) h
def m_218_x103_126 (Jx_92 : ai_J) (w3_126 : Int32) (Ix_126 : ai_I) : Option (Int32 × ai_I × ai_J) :=
  some (w3_126, Ix_126, Jx_92)
def m_218_b103 (th : Nat) (Rf : ai_R) (G : ai_G) (Jx_92 : ai_J) (v3_103 : Int32) (I_103 : ai_I) : Option ((Int32 × ai_I) ⊕ (Int32 × ai_I)) :=
  if (I_103 th 10) ≤ v3_103 then (some (Sum.inr (v3_103, I_103))) else (o_b2 (m_241 th v3_103 I_103 Jx_92 Rf G) (fun r_113 I_113 => if r_113 = 0 then (some (Sum.inr (v3_103, I_113))) else (o_b1 (some (v3_103 + (nI 1))) (fun x3_122 => some (Sum.inl (x3_122, I_113))))))
def m_218_x52_92 (th : Nat) (Rf : ai_R) (G : ai_G) (w2_92 : Int32) (Ix_92 : ai_I) (Jx_92 : ai_J) : Option (Int32 × ai_I × ai_J) :=
  if w2_92 = 0 then (some (Ix_92 th 6, Ix_92, Jx_92)) else (o_s1 (lp (fun s => m_218_b103 th Rf G Jx_92 s.1 s.2) o_N ((nI 0), Ix_92)) (fun t => m_218_x103_126 Jx_92 t.1 t.2))
def m_218_b52 (th : Nat) (Rf : ai_R) (G : ai_G) (v2_52 : Int32) (I_52 : ai_I) (J_52 : ai_J) : Option ((Int32 × ai_I × ai_J) ⊕ (Int32 × ai_I × ai_J)) :=
  if v2_52 = 0 then (some (Sum.inr (v2_52, I_52, J_52))) else (if (I_52 th 5) ≤ (I_52 th 4) then (some (Sum.inr (v2_52, I_52, J_52))) else (o_b2 (m_210 th (nI 59) I_52 Rf G) (fun r_70 I_70 => if r_70 = 0 then (some (Sum.inl ((nI 0), I_70, J_52))) else (o_b3 (m_217 th I_70 J_52 Rf G) (fun r_77 I_77 J_77 => if r_77 = 0 then (some (Sum.inl ((nI 0), I_77, J_77))) else (some (Sum.inl ((nI 1), I_77, J_77))))))))
/-- PricedBasesModel.orders(I)I -/
def m_218 (th : Nat) (a0 : Int32) (I : ai_I) (J : ai_J) (Rf : ai_R) (G : ai_G) : Option (Int32 × ai_I × ai_J) :=
  o_b1 (m_189 a0.toInt64 (1 : Int64) (200 : Int64)) (fun r_6 => if r_6 = 0 then (some ((-1 : Int32), I, J)) else (if a0 ≤ (I th 3) then (o_b1 (some (va_up I th (va_up (I th) 4 (nI 0)))) (fun I_24 => o_b1 (some (va_up I_24 th (va_up (I_24 th) 5 a0))) (fun I_29 => o_b1 (some (va_up I_29 th (va_up (I_29 th) 3 (nI 0)))) (fun I_34 => o_b1 (some (va_up I_34 th (va_up (I_34 th) 10 (nI 0)))) (fun I_39 => o_b1 (some (va_up I_39 th (va_up (I_39 th) 11 (nI 0)))) (fun I_44 => o_b3 (m_217 th I_44 J Rf G) (fun r_48 I_48 J_48 => o_s1 (lp (fun s => m_218_b52 th Rf G s.1 s.2.1 s.2.2) o_N (r_48, I_48, J_48)) (fun t => m_218_x52_92 th Rf G t.1 t.2.1 t.2.2)))))))) else (some ((-1 : Int32), I, J))))
theorem md_218 {d : Nat} {I : ai_I} {J : ai_J} {Rf : ai_R} {G : ai_G} {th : Nat} {a0 : Int32} {r : Int32} {I1 : ai_I} {J1 : ai_J} (hd : 8 ≤ d) (hth : G.1 th = 11) (h : m_218 th a0 I J Rf G = some (r, I1, J1)) : ai_Cl si_t si_ms d 218 [.inr (.inr th), .inl a0] I J Rf G (some (.inl r)) I1 J1 Rf G := by
  obtain ⟨e, rfl⟩ : ∃ e, d = e + 1 := ⟨d - 1, by omega⟩
  unfold m_218 at h
  refine sp_in (lo := [some (.inr (.inr th)), some (.inl a0), none, none]) (B := (0, 0)) rfl (Nat.le_of_ble_eq_true rfl) rfl rfl ?_
  refine go_iload_n (pc' := 1) rfl rfl rfl ?_
  refine go_i2l (pc' := 2) rfl rfl ?_
  refine go_lconst (pc' := 3) (v := (1 : Int64)) rfl rfl rfl ?_
  refine go_ldc2_w (pc' := 6) (v := .inr (.inl (200 : Int64))) rfl rfl rfl ?_
  obtain ⟨r_6, q_6, h⟩ := o_b1E h
  refine go_callS (pc' := 9) (B' := (0, 0)) (st' := [.inl r_6]) rfl rfl (Or.inl (by decide)) rfl rfl trivial (md_189 (by omega) q_6) rfl rfl rfl ?_
  refine go_if_eq (pt := 20) (pc' := 12) rfl rfl rfl (fun h9 => ?_) (fun h9 => ?_)
  · replace h := o_t h9 h
    refine go_iconst (pc' := 21) (v := (-1 : Int32)) rfl rfl rfl ?_
    cases h
    exact go_iret rfl (trivial) ⟨rfl, rfl, rfl, rfl, rfl⟩
  · replace h := o_f h9 h
    refine go_iload_n (pc' := 13) rfl rfl rfl ?_
    refine go_aload_n (pc' := 14) rfl rfl rfl ?_
    refine go_getI (pc' := 17) rfl rfl (by decide) (by decide) hth rfl ?_
    refine go_icmp_le (pt := 22) (pc' := 20) rfl rfl rfl (fun h17 => ?_) (fun h17 => ?_)
    · replace h := o_t h17 h
      refine go_aload_n (pc' := 23) rfl rfl rfl ?_
      refine go_iconst (pc' := 24) (v := (nI 0)) rfl rfl rfl ?_
      obtain ⟨I_24, eI_24, h⟩ := o_b1E h
      refine go_putI (pc' := 27) rfl rfl (fun h => by cases h) hth rfl ?_
      refine go_ndMI eI_24 ?_
      refine go_aload_n (pc' := 28) rfl rfl rfl ?_
      refine go_iload_n (pc' := 29) rfl rfl rfl ?_
      obtain ⟨I_29, eI_29, h⟩ := o_b1E h
      refine go_putI (pc' := 32) rfl rfl (fun h => by cases h) hth rfl ?_
      refine go_ndMI eI_29 ?_
      refine go_aload_n (pc' := 33) rfl rfl rfl ?_
      refine go_iconst (pc' := 34) (v := (nI 0)) rfl rfl rfl ?_
      obtain ⟨I_34, eI_34, h⟩ := o_b1E h
      refine go_putI (pc' := 37) rfl rfl (fun h => by cases h) hth rfl ?_
      refine go_ndMI eI_34 ?_
      refine go_aload_n (pc' := 38) rfl rfl rfl ?_
      refine go_iconst (pc' := 39) (v := (nI 0)) rfl rfl rfl ?_
      obtain ⟨I_39, eI_39, h⟩ := o_b1E h
      refine go_putI (pc' := 42) rfl rfl (fun h => by cases h) hth rfl ?_
      refine go_ndMI eI_39 ?_
      refine go_aload_n (pc' := 43) rfl rfl rfl ?_
      refine go_iconst (pc' := 44) (v := (nI 0)) rfl rfl rfl ?_
      obtain ⟨I_44, eI_44, h⟩ := o_b1E h
      refine go_putI (pc' := 47) rfl rfl (fun h => by cases h) hth rfl ?_
      refine go_ndMI eI_44 ?_
      refine go_aload_n (pc' := 48) rfl rfl rfl ?_
      obtain ⟨r_48, I_48, J_48, q_48, h⟩ := o_b3E h
      refine go_callV (pc' := 51) (B' := (0, 0)) (st' := [.inl r_48]) rfl rfl (Or.inl (by decide)) rfl rfl hth (md_217 (by omega) hth q_48) rfl rfl rfl ?_
      refine go_istore_n (pc' := 52) (lo' := [some (.inr (.inr th)), some (.inl a0), some (.inl r_48), none]) rfl rfl rfl ?_
      obtain ⟨q52, hl52, hc52_92⟩ := o_s1E h
      have ex52_92 : ∀ (w2_92 : Int32) (Ix_92 : ai_I) (Jx_92 : ai_J), (w2_92, Ix_92, Jx_92) = q52 → ai_Go si_t (11, false, 0, cd_218) (ai_Cl si_t si_ms e) (sp_Q (some (.inl r)) I1 J1 Rf G) 92 [some (.inr (.inr th)), some (.inl a0), some (.inl w2_92), none] [] (0, 0) Ix_92 Jx_92 Rf G := by
        intro w2_92 Ix_92 Jx_92 hq
        have h : m_218_x52_92 th Rf G w2_92 Ix_92 Jx_92 = some (r, I1, J1) := hc52_92 (w2_92, Ix_92, Jx_92) hq.symm
        unfold m_218_x52_92 at h
        refine go_iload_n (pc' := 93) rfl rfl rfl ?_
        refine go_if_ne (pt := 101) (pc' := 96) rfl rfl rfl (fun h93 => ?_) (fun h93 => ?_)
        · replace h := o_f h93 h
          refine go_iconst (pc' := 102) (v := (nI 0)) rfl rfl rfl ?_
          refine go_istore_n (pc' := 103) (lo' := [some (.inr (.inr th)), some (.inl a0), some (.inl w2_92), some (.inl (nI 0))]) rfl rfl rfl ?_
          obtain ⟨q103, hl103, hc103_126⟩ := o_s1E h
          have ex103_126 : ∀ (w3_126 : Int32) (Ix_126 : ai_I), (w3_126, Ix_126) = q103 → ai_Go si_t (11, false, 0, cd_218) (ai_Cl si_t si_ms e) (sp_Q (some (.inl r)) I1 J1 Rf G) 126 [some (.inr (.inr th)), some (.inl a0), some (.inl w2_92), some (.inl w3_126)] [] (0, 0) Ix_126 Jx_92 Rf G := by
            intro w3_126 Ix_126 hq
            have h : m_218_x103_126 Jx_92 w3_126 Ix_126 = some (r, I1, J1) := hc103_126 (w3_126, Ix_126) hq.symm
            unfold m_218_x103_126 at h
            refine go_iload_n (pc' := 127) rfl rfl rfl ?_
            cases h
            exact go_iret rfl (trivial) ⟨rfl, rfl, rfl, rfl, rfl⟩
          have lo103 : ∀ n s, lp (fun s => m_218_b103 th Rf G Jx_92 s.1 s.2) n s = some q103 → (fun s => ai_Go si_t (11, false, 0, cd_218) (ai_Cl si_t si_ms e) (sp_Q (some (.inl r)) I1 J1 Rf G) 103 [some (.inr (.inr th)), some (.inl a0), some (.inl w2_92), some (.inl s.1)] [] (0, 0) s.2 Jx_92 Rf G) s := lp_go (fun s x103 hx hk103 => by
            obtain ⟨v3_103, I_103⟩ := s
            have h : m_218_b103 th Rf G Jx_92 v3_103 I_103 = some x103 := hx
            clear hx
            show ai_Go si_t (11, false, 0, cd_218) (ai_Cl si_t si_ms e) (sp_Q (some (.inl r)) I1 J1 Rf G) 103 [some (.inr (.inr th)), some (.inl a0), some (.inl w2_92), some (.inl v3_103)] [] (0, 0) I_103 Jx_92 Rf G
            unfold m_218_b103 at h
            refine go_iload_n (pc' := 104) rfl rfl rfl ?_
            refine go_aload_n (pc' := 105) rfl rfl rfl ?_
            refine go_getI (pc' := 108) rfl rfl (by decide) (by decide) hth rfl ?_
            refine go_icmp_ge (pt := 126) (pc' := 111) rfl rfl rfl (fun h108 => ?_) (fun h108 => ?_)
            · replace h := o_t h108 h
              exact ex103_126 _ _  (lp_exitE h hk103)
            · replace h := o_f h108 h
              refine go_aload_n (pc' := 112) rfl rfl rfl ?_
              refine go_iload_n (pc' := 113) rfl rfl rfl ?_
              obtain ⟨r_113, I_113, q_113, h⟩ := o_b2E h
              refine go_callV (pc' := 116) (B' := (0, 0)) (st' := [.inl r_113]) rfl rfl (Or.inl (by decide)) rfl rfl hth (md_241 (by omega) hth q_113) rfl rfl rfl ?_
              refine go_if_eq (pt := 126) (pc' := 119) rfl rfl rfl (fun h116 => ?_) (fun h116 => ?_)
              · replace h := o_t h116 h
                exact ex103_126 _ _  (lp_exitE h hk103)
              · replace h := o_f h116 h
                refine go_iload_n (pc' := 120) rfl rfl rfl ?_
                refine go_iconst (pc' := 121) (v := (nI 1)) rfl rfl rfl ?_
                refine go_iadd (pc' := 122) rfl rfl ?_
                obtain ⟨x3_122, ex3_122, h⟩ := o_b1E h
                refine go_ndI ex3_122 ?_
                refine go_istore_n (pc' := 123) (lo' := [some (.inr (.inr th)), some (.inl a0), some (.inl w2_92), some (.inl x3_122)]) rfl rfl rfl ?_
                refine go_goto (pc' := 103) rfl rfl ?_
                exact (lp_backE h hk103 :))
          exact lo103 _ ((nI 0), Ix_92) hl103 
        · replace h := o_t (Decidable.of_not_not h93) h
          refine go_aload_n (pc' := 97) rfl rfl rfl ?_
          refine go_getI (pc' := 100) rfl rfl (by decide) (by decide) hth rfl ?_
          cases h
          exact go_iret rfl (trivial) ⟨rfl, rfl, rfl, rfl, rfl⟩
      have lo52 : ∀ n s, lp (fun s => m_218_b52 th Rf G s.1 s.2.1 s.2.2) n s = some q52 → (fun s => ai_Go si_t (11, false, 0, cd_218) (ai_Cl si_t si_ms e) (sp_Q (some (.inl r)) I1 J1 Rf G) 52 [some (.inr (.inr th)), some (.inl a0), some (.inl s.1), none] [] (0, 0) s.2.1 s.2.2 Rf G) s := lp_go (fun s x52 hx hk52 => by
        obtain ⟨v2_52, I_52, J_52⟩ := s
        have h : m_218_b52 th Rf G v2_52 I_52 J_52 = some x52 := hx
        clear hx
        show ai_Go si_t (11, false, 0, cd_218) (ai_Cl si_t si_ms e) (sp_Q (some (.inl r)) I1 J1 Rf G) 52 [some (.inr (.inr th)), some (.inl a0), some (.inl v2_52), none] [] (0, 0) I_52 J_52 Rf G
        unfold m_218_b52 at h
        refine go_iload_n (pc' := 53) rfl rfl rfl ?_
        refine go_if_eq (pt := 92) (pc' := 56) rfl rfl rfl (fun h53 => ?_) (fun h53 => ?_)
        · replace h := o_t h53 h
          exact ex52_92 _ _ _  (lp_exitE h hk52)
        · replace h := o_f h53 h
          refine go_aload_n (pc' := 57) rfl rfl rfl ?_
          refine go_getI (pc' := 60) rfl rfl (by decide) (by decide) hth rfl ?_
          refine go_aload_n (pc' := 61) rfl rfl rfl ?_
          refine go_getI (pc' := 64) rfl rfl (by decide) (by decide) hth rfl ?_
          refine go_icmp_ge (pt := 92) (pc' := 67) rfl rfl rfl (fun h64 => ?_) (fun h64 => ?_)
          · replace h := o_t h64 h
            exact ex52_92 _ _ _  (lp_exitE h hk52)
          · replace h := o_f h64 h
            refine go_aload_n (pc' := 68) rfl rfl rfl ?_
            refine go_bipush (pc' := 70) (v := (nI 59)) rfl rfl rfl ?_
            obtain ⟨r_70, I_70, q_70, h⟩ := o_b2E h
            refine go_callV (pc' := 73) (B' := (0, 0)) (st' := [.inl r_70]) rfl rfl (Or.inl (by decide)) rfl rfl hth (md_210 (by omega) hth q_70) rfl rfl rfl ?_
            refine go_if_eq (pt := 87) (pc' := 76) rfl rfl rfl (fun h73 => ?_) (fun h73 => ?_)
            · replace h := o_t h73 h
              refine go_iconst (pc' := 88) (v := (nI 0)) rfl rfl rfl ?_
              refine go_istore_n (pc' := 89) (lo' := [some (.inr (.inr th)), some (.inl a0), some (.inl (nI 0)), none]) rfl rfl rfl ?_
              refine go_goto (pc' := 52) rfl rfl ?_
              exact (lp_backE h hk52 :)
            · replace h := o_f h73 h
              refine go_aload_n (pc' := 77) rfl rfl rfl ?_
              obtain ⟨r_77, I_77, J_77, q_77, h⟩ := o_b3E h
              refine go_callV (pc' := 80) (B' := (0, 0)) (st' := [.inl r_77]) rfl rfl (Or.inl (by decide)) rfl rfl hth (md_217 (by omega) hth q_77) rfl rfl rfl ?_
              refine go_if_eq (pt := 87) (pc' := 83) rfl rfl rfl (fun h80 => ?_) (fun h80 => ?_)
              · replace h := o_t h80 h
                refine go_iconst (pc' := 88) (v := (nI 0)) rfl rfl rfl ?_
                refine go_istore_n (pc' := 89) (lo' := [some (.inr (.inr th)), some (.inl a0), some (.inl (nI 0)), none]) rfl rfl rfl ?_
                refine go_goto (pc' := 52) rfl rfl ?_
                exact (lp_backE h hk52 :)
              · replace h := o_f h80 h
                refine go_iconst (pc' := 84) (v := (nI 1)) rfl rfl rfl ?_
                refine go_goto (pc' := 88) rfl rfl ?_
                refine go_istore_n (pc' := 89) (lo' := [some (.inr (.inr th)), some (.inl a0), some (.inl (nI 1)), none]) rfl rfl rfl ?_
                refine go_goto (pc' := 52) rfl rfl ?_
                exact (lp_backE h hk52 :))
      exact lo52 _ (r_48, I_48, J_48) hl52 
    · replace h := o_f h17 h
      refine go_iconst (pc' := 21) (v := (-1 : Int32)) rfl rfl rfl ?_
      cases h
      exact go_iret rfl (trivial) ⟨rfl, rfl, rfl, rfl, rfl⟩
/-- PricedBasesModel.price(II)I -/
def m_242 (th : Nat) (a0 : Int32) (a1 : Int32) (I : ai_I) (Rf : ai_R) (G : ai_G) : Option (Int32 × ai_I) :=
  o_b1 (m_189 a0.toInt64 (0 : Int64) (7 : Int64)) (fun r_6 => if r_6 = 0 then (some ((-2147483648 : Int32), I)) else (o_b1 (m_189 a1.toInt64 (-1000 : Int64) (1000 : Int64)) (fun r_20 => if r_20 = 0 then (some ((-2147483648 : Int32), I)) else (o_g (o_in G 13 (Rf th 0) ((nI 1032) + a0)) (o_b1 (some (I (Rf th 0) ((nI 1032) + a0).toNatClampNeg)) (fun x3_39 => o_g (o_in G 13 (Rf th 0) ((nI 1032) + a0)) (o_b1 (some (va_up I (Rf th 0) (va_up (I (Rf th 0)) ((nI 1032) + a0).toNatClampNeg a1))) (fun I_50 => some (x3_39, I_50)))))))))
theorem md_242 {d : Nat} {I : ai_I} {J : ai_J} {Rf : ai_R} {G : ai_G} {th : Nat} {a0 : Int32} {a1 : Int32} {r : Int32} {I1 : ai_I} (hd : 2 ≤ d) (hth : G.1 th = 11) (h : m_242 th a0 a1 I Rf G = some (r, I1)) : ai_Cl si_t si_ms d 242 [.inr (.inr th), .inl a0, .inl a1] I J Rf G (some (.inl r)) I1 J Rf G := by
  obtain ⟨e, rfl⟩ : ∃ e, d = e + 1 := ⟨d - 1, by omega⟩
  unfold m_242 at h
  refine sp_in (lo := [some (.inr (.inr th)), some (.inl a0), some (.inl a1), none]) (B := (0, 0)) rfl (Nat.le_of_ble_eq_true rfl) rfl rfl ?_
  refine go_iload_n (pc' := 1) rfl rfl rfl ?_
  refine go_i2l (pc' := 2) rfl rfl ?_
  refine go_lconst (pc' := 3) (v := (0 : Int64)) rfl rfl rfl ?_
  refine go_ldc2_w (pc' := 6) (v := .inr (.inl (7 : Int64))) rfl rfl rfl ?_
  obtain ⟨r_6, q_6, h⟩ := o_b1E h
  refine go_callS (pc' := 9) (B' := (0, 0)) (st' := [.inl r_6]) rfl rfl (Or.inl (by decide)) rfl rfl trivial (md_189 (by omega) q_6) rfl rfl rfl ?_
  refine go_if_eq (pt := 26) (pc' := 12) rfl rfl rfl (fun h9 => ?_) (fun h9 => ?_)
  · replace h := o_t h9 h
    refine go_ldc (pc' := 28) (v := .inl (-2147483648 : Int32)) rfl rfl rfl ?_
    cases h
    exact go_iret rfl (trivial) ⟨rfl, rfl, rfl, rfl, rfl⟩
  · replace h := o_f h9 h
    refine go_iload_n (pc' := 13) rfl rfl rfl ?_
    refine go_i2l (pc' := 14) rfl rfl ?_
    refine go_ldc2_w (pc' := 17) (v := .inr (.inl (-1000 : Int64))) rfl rfl rfl ?_
    refine go_ldc2_w (pc' := 20) (v := .inr (.inl (1000 : Int64))) rfl rfl rfl ?_
    obtain ⟨r_20, q_20, h⟩ := o_b1E h
    refine go_callS (pc' := 23) (B' := (0, 0)) (st' := [.inl r_20]) rfl rfl (Or.inl (by decide)) rfl rfl trivial (md_189 (by omega) q_20) rfl rfl rfl ?_
    refine go_if_ne (pt := 29) (pc' := 26) rfl rfl rfl (fun h23 => ?_) (fun h23 => ?_)
    · replace h := o_f h23 h
      refine go_aload_n (pc' := 30) rfl rfl rfl ?_
      refine go_getR (pc' := 33) rfl rfl hth rfl ?_
      refine go_sipush (pc' := 36) (v := (nI 1032)) rfl rfl rfl ?_
      refine go_iload_n (pc' := 37) rfl rfl rfl ?_
      refine go_iadd (pc' := 38) rfl rfl ?_
      obtain ⟨g0, h⟩ := o_gE h
      refine go_iaload (pc' := 39) rfl (o_inK g0) (o_inB g0) rfl ?_
      obtain ⟨x3_39, ex3_39, h⟩ := o_b1E h
      refine go_ndI ex3_39 ?_
      refine go_istore_n (pc' := 40) (lo' := [some (.inr (.inr th)), some (.inl a0), some (.inl a1), some (.inl x3_39)]) rfl rfl rfl ?_
      refine go_aload_n (pc' := 41) rfl rfl rfl ?_
      refine go_getR (pc' := 44) rfl rfl hth rfl ?_
      refine go_sipush (pc' := 47) (v := (nI 1032)) rfl rfl rfl ?_
      refine go_iload_n (pc' := 48) rfl rfl rfl ?_
      refine go_iadd (pc' := 49) rfl rfl ?_
      refine go_iload_n (pc' := 50) rfl rfl rfl ?_
      obtain ⟨g1, h⟩ := o_gE h
      obtain ⟨I_50, eI_50, h⟩ := o_b1E h
      refine go_iastore (pc' := 51) rfl (o_inK g1) (o_inB g1) rfl ?_
      refine go_ndMI eI_50 ?_
      refine go_iload_n (pc' := 52) rfl rfl rfl ?_
      cases h
      exact go_iret rfl (trivial) ⟨rfl, rfl, rfl, rfl, rfl⟩
    · replace h := o_t (Decidable.of_not_not h23) h
      refine go_ldc (pc' := 28) (v := .inl (-2147483648 : Int32)) rfl rfl rfl ?_
      cases h
      exact go_iret rfl (trivial) ⟨rfl, rfl, rfl, rfl, rfl⟩
/-- PricedBasesModel.past(II)I -/
def m_243 (th : Nat) (a0 : Int32) (a1 : Int32) (I : ai_I) (Rf : ai_R) (G : ai_G) : Option (Int32) :=
  o_g (o_in G 13 (Rf th 0) (nI 1041)) (o_b1 (m_189 a0.toInt64 (0 : Int64) (((I (Rf th 0) (nI 1041).toNatClampNeg) - (nI 1)).toInt64)) (fun r_14 => if r_14 = 0 then (some (-1 : Int32)) else (o_b1 (m_189 a1.toInt64 (0 : Int64) (3 : Int64)) (fun r_26 => if r_26 = 0 then (some (-1 : Int32)) else (o_g (o_in G 13 (Rf th 0) (nI 1041)) (o_g (o_in G 13 (Rf th 0) (((nI 1042) + ((nI 4) * (((I (Rf th 0) (nI 1041).toNatClampNeg) - (nI 1)) - a0))) + a1)) (some (I (Rf th 0) (((nI 1042) + ((nI 4) * (((I (Rf th 0) (nI 1041).toNatClampNeg) - (nI 1)) - a0))) + a1).toNatClampNeg))))))))
theorem md_243 {d : Nat} {I : ai_I} {J : ai_J} {Rf : ai_R} {G : ai_G} {th : Nat} {a0 : Int32} {a1 : Int32} {r : Int32} (hd : 2 ≤ d) (hth : G.1 th = 11) (h : m_243 th a0 a1 I Rf G = some r) : ai_Cl si_t si_ms d 243 [.inr (.inr th), .inl a0, .inl a1] I J Rf G (some (.inl r)) I J Rf G := by
  obtain ⟨e, rfl⟩ : ∃ e, d = e + 1 := ⟨d - 1, by omega⟩
  unfold m_243 at h
  refine sp_in (lo := [some (.inr (.inr th)), some (.inl a0), some (.inl a1)]) (B := (0, 0)) rfl (Nat.le_of_ble_eq_true rfl) rfl rfl ?_
  refine go_iload_n (pc' := 1) rfl rfl rfl ?_
  refine go_i2l (pc' := 2) rfl rfl ?_
  refine go_lconst (pc' := 3) (v := (0 : Int64)) rfl rfl rfl ?_
  refine go_aload_n (pc' := 4) rfl rfl rfl ?_
  refine go_getR (pc' := 7) rfl rfl hth rfl ?_
  refine go_sipush (pc' := 10) (v := (nI 1041)) rfl rfl rfl ?_
  obtain ⟨g0, h⟩ := o_gE h
  refine go_iaload (pc' := 11) rfl (o_inK g0) (o_inB g0) rfl ?_
  refine go_iconst (pc' := 12) (v := (nI 1)) rfl rfl rfl ?_
  refine go_isub (pc' := 13) rfl rfl ?_
  refine go_i2l (pc' := 14) rfl rfl ?_
  obtain ⟨r_14, q_14, h⟩ := o_b1E h
  refine go_callS (pc' := 17) (B' := (0, 0)) (st' := [.inl r_14]) rfl rfl (Or.inl (by decide)) rfl rfl trivial (md_189 (by omega) q_14) rfl rfl rfl ?_
  refine go_if_eq (pt := 60) (pc' := 20) rfl rfl rfl (fun h17 => ?_) (fun h17 => ?_)
  · replace h := o_t h17 h
    refine go_iconst (pc' := 61) (v := (-1 : Int32)) rfl rfl rfl ?_
    cases h
    exact go_iret rfl (trivial) ⟨rfl, rfl, rfl, rfl, rfl⟩
  · replace h := o_f h17 h
    refine go_iload_n (pc' := 21) rfl rfl rfl ?_
    refine go_i2l (pc' := 22) rfl rfl ?_
    refine go_lconst (pc' := 23) (v := (0 : Int64)) rfl rfl rfl ?_
    refine go_ldc2_w (pc' := 26) (v := .inr (.inl (3 : Int64))) rfl rfl rfl ?_
    obtain ⟨r_26, q_26, h⟩ := o_b1E h
    refine go_callS (pc' := 29) (B' := (0, 0)) (st' := [.inl r_26]) rfl rfl (Or.inl (by decide)) rfl rfl trivial (md_189 (by omega) q_26) rfl rfl rfl ?_
    refine go_if_eq (pt := 60) (pc' := 32) rfl rfl rfl (fun h29 => ?_) (fun h29 => ?_)
    · replace h := o_t h29 h
      refine go_iconst (pc' := 61) (v := (-1 : Int32)) rfl rfl rfl ?_
      cases h
      exact go_iret rfl (trivial) ⟨rfl, rfl, rfl, rfl, rfl⟩
    · replace h := o_f h29 h
      refine go_aload_n (pc' := 33) rfl rfl rfl ?_
      refine go_getR (pc' := 36) rfl rfl hth rfl ?_
      refine go_sipush (pc' := 39) (v := (nI 1042)) rfl rfl rfl ?_
      refine go_iconst (pc' := 40) (v := (nI 4)) rfl rfl rfl ?_
      refine go_aload_n (pc' := 41) rfl rfl rfl ?_
      refine go_getR (pc' := 44) rfl rfl hth rfl ?_
      refine go_sipush (pc' := 47) (v := (nI 1041)) rfl rfl rfl ?_
      obtain ⟨g1, h⟩ := o_gE h
      refine go_iaload (pc' := 48) rfl (o_inK g1) (o_inB g1) rfl ?_
      refine go_iconst (pc' := 49) (v := (nI 1)) rfl rfl rfl ?_
      refine go_isub (pc' := 50) rfl rfl ?_
      refine go_iload_n (pc' := 51) rfl rfl rfl ?_
      refine go_isub (pc' := 52) rfl rfl ?_
      refine go_imul (pc' := 53) rfl rfl ?_
      refine go_iadd (pc' := 54) rfl rfl ?_
      refine go_iload_n (pc' := 55) rfl rfl rfl ?_
      refine go_iadd (pc' := 56) rfl rfl ?_
      obtain ⟨g2, h⟩ := o_gE h
      refine go_iaload (pc' := 57) rfl (o_inK g2) (o_inB g2) rfl ?_
      refine go_goto (pc' := 61) rfl rfl ?_
      cases h
      exact go_iret rfl (trivial) ⟨rfl, rfl, rfl, rfl, rfl⟩
def m_244_x2_49 (Ix_49 : ai_I) : Option (ai_I) :=
  some Ix_49
def m_244_j42 (th : Nat) (Rf : ai_R) (G : ai_G) (v3_2 : Int32) (I_2 : ai_I) (t2_42 : Int32) : Option ((Int32 × ai_I) ⊕ ai_I) :=
  o_g (o_in G 13 (Rf th 20) v3_2) (o_b1 (some (va_up I_2 (Rf th 20) (va_up (I_2 (Rf th 20)) v3_2.toNatClampNeg t2_42))) (fun I_42 => o_b1 (some (v3_2 + (nI 1))) (fun x3_43 => some (Sum.inl (x3_43, I_42)))))
def m_244_b2 (th : Nat) (a0 : Int32) (a1 : Int32) (Rf : ai_R) (G : ai_G) (v3_2 : Int32) (I_2 : ai_I) : Option ((Int32 × ai_I) ⊕ ai_I) :=
  if (nI 256) ≤ v3_2 then (some (Sum.inr I_2)) else (o_b1 (m_199 th a0 v3_2 I_2 Rf G) (fun r_17 => if r_17 = 0 then (m_244_j42 th Rf G v3_2 I_2 (-2147483648 : Int32)) else (if a1 = 0 then (o_b1 (m_198 th a0 v3_2 I_2 Rf G) (fun r_34 => m_244_j42 th Rf G v3_2 I_2 r_34)) else (m_244_j42 th Rf G v3_2 I_2 (nI 0)))))
/-- PricedBasesModel.weighs(IZ)V -/
def m_244 (th : Nat) (a0 : Int32) (a1 : Int32) (I : ai_I) (Rf : ai_R) (G : ai_G) : Option (ai_I) :=
  o_s1 (lp (fun s => m_244_b2 th a0 a1 Rf G s.1 s.2) o_N ((nI 0), I)) (fun t => m_244_x2_49 t)
theorem md_244 {d : Nat} {I : ai_I} {J : ai_J} {Rf : ai_R} {G : ai_G} {th : Nat} {a0 : Int32} {a1 : Int32} {I1 : ai_I} (hd : 3 ≤ d) (hth : G.1 th = 11) (h : m_244 th a0 a1 I Rf G = some I1) : ai_Cl si_t si_ms d 244 [.inr (.inr th), .inl a0, .inl a1] I J Rf G none I1 J Rf G := by
  obtain ⟨e, rfl⟩ : ∃ e, d = e + 1 := ⟨d - 1, by omega⟩
  unfold m_244 at h
  refine sp_in (lo := [some (.inr (.inr th)), some (.inl a0), some (.inl a1), none]) (B := (0, 0)) rfl (Nat.le_of_ble_eq_true rfl) rfl rfl ?_
  refine go_iconst (pc' := 1) (v := (nI 0)) rfl rfl rfl ?_
  refine go_istore_n (pc' := 2) (lo' := [some (.inr (.inr th)), some (.inl a0), some (.inl a1), some (.inl (nI 0))]) rfl rfl rfl ?_
  obtain ⟨q2, hl2, hc2_49⟩ := o_s1E h
  have ex2_49 : ∀ (Ix_49 : ai_I) (z3_x49 : Option ai_V), Ix_49 = q2 → ai_Go si_t (11, false, 9, cd_244) (ai_Cl si_t si_ms e) (sp_Q none I1 J Rf G) 49 [some (.inr (.inr th)), some (.inl a0), some (.inl a1), z3_x49] [] (0, 0) Ix_49 J Rf G := by
    intro Ix_49 z3_x49 hq
    have h : m_244_x2_49 Ix_49 = some I1 := hc2_49 Ix_49 hq.symm
    unfold m_244_x2_49 at h
    cases h
    exact go_vret rfl (rfl) ⟨rfl, rfl, rfl, rfl, rfl⟩
  have lo2 : ∀ n s, lp (fun s => m_244_b2 th a0 a1 Rf G s.1 s.2) n s = some q2 → (fun s => ai_Go si_t (11, false, 9, cd_244) (ai_Cl si_t si_ms e) (sp_Q none I1 J Rf G) 2 [some (.inr (.inr th)), some (.inl a0), some (.inl a1), some (.inl s.1)] [] (0, 0) s.2 J Rf G) s := lp_go (fun s x2 hx hk2 => by
    obtain ⟨v3_2, I_2⟩ := s
    have h : m_244_b2 th a0 a1 Rf G v3_2 I_2 = some x2 := hx
    clear hx
    show ai_Go si_t (11, false, 9, cd_244) (ai_Cl si_t si_ms e) (sp_Q none I1 J Rf G) 2 [some (.inr (.inr th)), some (.inl a0), some (.inl a1), some (.inl v3_2)] [] (0, 0) I_2 J Rf G
    unfold m_244_b2 at h
    refine go_iload_n (pc' := 3) rfl rfl rfl ?_
    refine go_sipush (pc' := 6) (v := (nI 256)) rfl rfl rfl ?_
    refine go_icmp_ge (pt := 49) (pc' := 9) rfl rfl rfl (fun h6 => ?_) (fun h6 => ?_)
    · replace h := o_t h6 h
      exact ex2_49 _ (some (.inl v3_2)) (lp_exitE h hk2)
    · replace h := o_f h6 h
      refine go_aload_n (pc' := 10) rfl rfl rfl ?_
      refine go_getR (pc' := 13) rfl rfl hth rfl ?_
      refine go_iload_n (pc' := 14) rfl rfl rfl ?_
      refine go_aload_n (pc' := 15) rfl rfl rfl ?_
      refine go_iload_n (pc' := 16) rfl rfl rfl ?_
      refine go_iload_n (pc' := 17) rfl rfl rfl ?_
      obtain ⟨r_17, q_17, h⟩ := o_b1E h
      refine go_callV (pc' := 20) (B' := (0, 0)) (st' := [.inl r_17, .inl v3_2, .inr (.inr (Rf th 20))]) rfl rfl (Or.inl (by decide)) rfl rfl hth (md_199 (by omega) hth q_17) rfl rfl rfl ?_
      have jn42 : ∀ (t2_42 : Int32), m_244_j42 th Rf G v3_2 I_2 t2_42 = some x2 → ai_Go si_t (11, false, 9, cd_244) (ai_Cl si_t si_ms e) (sp_Q none I1 J Rf G) 42 [some (.inr (.inr th)), some (.inl a0), some (.inl a1), some (.inl v3_2)] [.inl t2_42, .inl v3_2, .inr (.inr (Rf th 20))] (0, 0) I_2 J Rf G := by
        intro t2_42 h
        unfold m_244_j42 at h
        obtain ⟨g0, h⟩ := o_gE h
        obtain ⟨I_42, eI_42, h⟩ := o_b1E h
        refine go_iastore (pc' := 43) rfl (o_inK g0) (o_inB g0) rfl ?_
        refine go_ndMI eI_42 ?_
        obtain ⟨x3_43, ex3_43, h⟩ := o_b1E h
        refine go_iincE (pc' := 46) rfl rfl (y := (nI 1)) rfl ex3_43 (lo' := [some (.inr (.inr th)), some (.inl a0), some (.inl a1), some (.inl x3_43)]) rfl rfl ?_
        refine go_goto (pc' := 2) rfl rfl ?_
        exact (lp_backE h hk2 :)
      refine go_if_eq (pt := 40) (pc' := 23) rfl rfl rfl (fun h20 => ?_) (fun h20 => ?_)
      · replace h := o_t h20 h
        refine go_ldc (pc' := 42) (v := .inl (-2147483648 : Int32)) rfl rfl rfl ?_
        exact jn42 (-2147483648 : Int32) h
      · replace h := o_f h20 h
        refine go_iload_n (pc' := 24) rfl rfl rfl ?_
        refine go_if_eq (pt := 31) (pc' := 27) rfl rfl rfl (fun h24 => ?_) (fun h24 => ?_)
        · replace h := o_t h24 h
          refine go_aload_n (pc' := 32) rfl rfl rfl ?_
          refine go_iload_n (pc' := 33) rfl rfl rfl ?_
          refine go_iload_n (pc' := 34) rfl rfl rfl ?_
          obtain ⟨r_34, q_34, h⟩ := o_b1E h
          refine go_callV (pc' := 37) (B' := (0, 0)) (st' := [.inl r_34, .inl v3_2, .inr (.inr (Rf th 20))]) rfl rfl (Or.inl (by decide)) rfl rfl hth (md_198 (by omega) hth q_34) rfl rfl rfl ?_
          refine go_goto (pc' := 42) rfl rfl ?_
          exact jn42 r_34 h
        · replace h := o_f h24 h
          refine go_iconst (pc' := 28) (v := (nI 0)) rfl rfl rfl ?_
          refine go_goto (pc' := 42) rfl rfl ?_
          exact jn42 (nI 0) h)
  exact lo2 _ ((nI 0), I) hl2 
def m_245_x3_110 (w4_110 : Int32) : Option (Int32) :=
  some w4_110
def m_245_x3_119 : Option (Int32) :=
  some (-2 : Int32)
def m_245_b3 (th : Nat) (a0 : Int32) (a1 : Int32) (a2 : Int32) (I : ai_I) (Rf : ai_R) (G : ai_G) (v4_3 : Int32) : Option (Int32 ⊕ (Int32 ⊕ Unit)) :=
  if (nI 8) ≤ v4_3 then (some (Sum.inr (Sum.inr ()))) else (o_b1 (m_192 a1 v4_3) (fun r_13 => if r_13 = 0 then (o_b1 (some (v4_3 + (nI 1))) (fun x4_113 => some (Sum.inl x4_113))) else (o_b1 (m_192 a0 v4_3) (fun r_22 => if r_22 = 0 then (o_b1 (some ((a0 ^^^ ((nI 1) <<< (a2 &&& 31))) ^^^ ((nI 1) <<< (v4_3 &&& 31)))) (fun x5_41 => o_b1 (some ((a1 ^^^ ((nI 1) <<< (a2 &&& 31))) ^^^ ((nI 1) <<< (v4_3 &&& 31)))) (fun x6_53 => o_g (o_in G 13 (Rf th 20) x5_41) (if (I (Rf th 20) x5_41.toNatClampNeg) = (-2147483648 : Int32) then (o_b1 (some (v4_3 + (nI 1))) (fun x4_113 => some (Sum.inl x4_113))) else (o_g (o_in G 13 (Rf th 20) x6_53) (if (I (Rf th 20) x6_53.toNatClampNeg) = (-2147483648 : Int32) then (o_b1 (some (v4_3 + (nI 1))) (fun x4_113 => some (Sum.inl x4_113))) else (o_g (o_in G 13 (Rf th 20) x5_41) (o_g (o_in G 13 (Rf th 20) x6_53) (o_g (o_in G 13 (Rf th 20) a0) (o_g (o_in G 13 (Rf th 20) a1) (if ((I (Rf th 20) x5_41.toNatClampNeg) + (I (Rf th 20) x6_53.toNatClampNeg)) < ((I (Rf th 20) a0.toNatClampNeg) + (I (Rf th 20) a1.toNatClampNeg)) then (o_b1 (some (v4_3 + (nI 1))) (fun x4_113 => some (Sum.inl x4_113))) else (some (Sum.inr (Sum.inl v4_3)))))))))))))) else (o_b1 (some (v4_3 + (nI 1))) (fun x4_113 => some (Sum.inl x4_113)))))))
/-- PricedBasesModel.exchangeOf(III)I -/
def m_245 (th : Nat) (a0 : Int32) (a1 : Int32) (a2 : Int32) (I : ai_I) (Rf : ai_R) (G : ai_G) : Option (Int32) :=
  o_s2 (lp (fun s => m_245_b3 th a0 a1 a2 I Rf G s) o_N (nI 0)) (fun t => m_245_x3_110 t) (fun t => m_245_x3_119)
theorem md_245 {d : Nat} {I : ai_I} {J : ai_J} {Rf : ai_R} {G : ai_G} {th : Nat} {a0 : Int32} {a1 : Int32} {a2 : Int32} {r : Int32} (hd : 2 ≤ d) (hth : G.1 th = 11) (h : m_245 th a0 a1 a2 I Rf G = some r) : ai_Cl si_t si_ms d 245 [.inr (.inr th), .inl a0, .inl a1, .inl a2] I J Rf G (some (.inl r)) I J Rf G := by
  obtain ⟨e, rfl⟩ : ∃ e, d = e + 1 := ⟨d - 1, by omega⟩
  unfold m_245 at h
  refine sp_in (lo := [some (.inr (.inr th)), some (.inl a0), some (.inl a1), some (.inl a2), none, none, none]) (B := (0, 0)) rfl (Nat.le_of_ble_eq_true rfl) rfl rfl ?_
  refine go_iconst (pc' := 1) (v := (nI 0)) rfl rfl rfl ?_
  refine go_istore (pc' := 3) (lo' := [some (.inr (.inr th)), some (.inl a0), some (.inl a1), some (.inl a2), some (.inl (nI 0)), none, none]) rfl rfl rfl ?_
  obtain ⟨q3, hl3, hc3_110, hc3_119⟩ := o_s2E h
  have ex3_110 : ∀ (w4_110 : Int32) (z5_x110 : Option ai_V) (z6_x110 : Option ai_V), (Sum.inl w4_110) = q3 → ai_Go si_t (11, false, 0, cd_245) (ai_Cl si_t si_ms e) (sp_Q (some (.inl r)) I J Rf G) 110 [some (.inr (.inr th)), some (.inl a0), some (.inl a1), some (.inl a2), some (.inl w4_110), z5_x110, z6_x110] [] (0, 0) I J Rf G := by
    intro w4_110 z5_x110 z6_x110 hq
    have h : m_245_x3_110 w4_110 = some r := hc3_110 w4_110 hq.symm
    unfold m_245_x3_110 at h
    refine go_iload (pc' := 112) rfl rfl rfl ?_
    cases h
    exact go_iret rfl (trivial) ⟨rfl, rfl, rfl, rfl, rfl⟩
  have ex3_119 : ∀ (z4_x119 : Option ai_V) (z5_x119 : Option ai_V) (z6_x119 : Option ai_V), (Sum.inr ()) = q3 → ai_Go si_t (11, false, 0, cd_245) (ai_Cl si_t si_ms e) (sp_Q (some (.inl r)) I J Rf G) 119 [some (.inr (.inr th)), some (.inl a0), some (.inl a1), some (.inl a2), z4_x119, z5_x119, z6_x119] [] (0, 0) I J Rf G := by
    intro z4_x119 z5_x119 z6_x119 hq
    have h : m_245_x3_119 = some r := hc3_119 () hq.symm
    unfold m_245_x3_119 at h
    refine go_bipush (pc' := 121) (v := (-2 : Int32)) rfl rfl rfl ?_
    cases h
    exact go_iret rfl (trivial) ⟨rfl, rfl, rfl, rfl, rfl⟩
  have lo3 : ∀ n s, lp (fun s => m_245_b3 th a0 a1 a2 I Rf G s) n s = some q3 → (fun s => ∀ (z5_3 : Option ai_V) (z6_3 : Option ai_V), ai_Go si_t (11, false, 0, cd_245) (ai_Cl si_t si_ms e) (sp_Q (some (.inl r)) I J Rf G) 3 [some (.inr (.inr th)), some (.inl a0), some (.inl a1), some (.inl a2), some (.inl s), z5_3, z6_3] [] (0, 0) I J Rf G) s := lp_go (fun s x3 hx hk3 => by
    revert s; intro v4_3 hx
    intro z5_3 z6_3
    have h : m_245_b3 th a0 a1 a2 I Rf G v4_3 = some x3 := hx
    clear hx
    show ai_Go si_t (11, false, 0, cd_245) (ai_Cl si_t si_ms e) (sp_Q (some (.inl r)) I J Rf G) 3 [some (.inr (.inr th)), some (.inl a0), some (.inl a1), some (.inl a2), some (.inl v4_3), z5_3, z6_3] [] (0, 0) I J Rf G
    unfold m_245_b3 at h
    refine go_iload (pc' := 5) rfl rfl rfl ?_
    refine go_bipush (pc' := 7) (v := (nI 8)) rfl rfl rfl ?_
    refine go_icmp_ge (pt := 119) (pc' := 10) rfl rfl rfl (fun h7 => ?_) (fun h7 => ?_)
    · replace h := o_t h7 h
      exact ex3_119  (some (.inl v4_3)) z5_3 z6_3 (lp_exitE h hk3)
    · replace h := o_f h7 h
      refine go_iload_n (pc' := 11) rfl rfl rfl ?_
      refine go_iload (pc' := 13) rfl rfl rfl ?_
      obtain ⟨r_13, q_13, h⟩ := o_b1E h
      refine go_callS (pc' := 16) (B' := (0, 0)) (st' := [.inl r_13]) rfl rfl (Or.inl (by decide)) rfl rfl trivial (md_192 (by omega) q_13) rfl rfl rfl ?_
      refine go_if_eq (pt := 113) (pc' := 19) rfl rfl rfl (fun h16 => ?_) (fun h16 => ?_)
      · replace h := o_t h16 h
        obtain ⟨x4_113, ex4_113, h⟩ := o_b1E h
        refine go_iincE (pc' := 116) rfl rfl (y := (nI 1)) rfl ex4_113 (lo' := [some (.inr (.inr th)), some (.inl a0), some (.inl a1), some (.inl a2), some (.inl x4_113), z5_3, z6_3]) rfl rfl ?_
        refine go_goto (pc' := 3) rfl rfl ?_
        exact (lp_backE h hk3 z5_3 z6_3 :)
      · replace h := o_f h16 h
        refine go_iload_n (pc' := 20) rfl rfl rfl ?_
        refine go_iload (pc' := 22) rfl rfl rfl ?_
        obtain ⟨r_22, q_22, h⟩ := o_b1E h
        refine go_callS (pc' := 25) (B' := (0, 0)) (st' := [.inl r_22]) rfl rfl (Or.inl (by decide)) rfl rfl trivial (md_192 (by omega) q_22) rfl rfl rfl ?_
        refine go_if_eq (pt := 31) (pc' := 28) rfl rfl rfl (fun h25 => ?_) (fun h25 => ?_)
        · replace h := o_t h25 h
          refine go_iload_n (pc' := 32) rfl rfl rfl ?_
          refine go_iconst (pc' := 33) (v := (nI 1)) rfl rfl rfl ?_
          refine go_iload_n (pc' := 34) rfl rfl rfl ?_
          refine go_ishl (pc' := 35) rfl rfl ?_
          refine go_ixor (pc' := 36) rfl rfl ?_
          refine go_iconst (pc' := 37) (v := (nI 1)) rfl rfl rfl ?_
          refine go_iload (pc' := 39) rfl rfl rfl ?_
          refine go_ishl (pc' := 40) rfl rfl ?_
          refine go_ixor (pc' := 41) rfl rfl ?_
          obtain ⟨x5_41, ex5_41, h⟩ := o_b1E h
          refine go_ndI ex5_41 ?_
          refine go_istore (pc' := 43) (lo' := [some (.inr (.inr th)), some (.inl a0), some (.inl a1), some (.inl a2), some (.inl v4_3), some (.inl x5_41), z6_3]) rfl rfl rfl ?_
          refine go_iload_n (pc' := 44) rfl rfl rfl ?_
          refine go_iconst (pc' := 45) (v := (nI 1)) rfl rfl rfl ?_
          refine go_iload_n (pc' := 46) rfl rfl rfl ?_
          refine go_ishl (pc' := 47) rfl rfl ?_
          refine go_ixor (pc' := 48) rfl rfl ?_
          refine go_iconst (pc' := 49) (v := (nI 1)) rfl rfl rfl ?_
          refine go_iload (pc' := 51) rfl rfl rfl ?_
          refine go_ishl (pc' := 52) rfl rfl ?_
          refine go_ixor (pc' := 53) rfl rfl ?_
          obtain ⟨x6_53, ex6_53, h⟩ := o_b1E h
          refine go_ndI ex6_53 ?_
          refine go_istore (pc' := 55) (lo' := [some (.inr (.inr th)), some (.inl a0), some (.inl a1), some (.inl a2), some (.inl v4_3), some (.inl x5_41), some (.inl x6_53)]) rfl rfl rfl ?_
          refine go_aload_n (pc' := 56) rfl rfl rfl ?_
          refine go_getR (pc' := 59) rfl rfl hth rfl ?_
          refine go_iload (pc' := 61) rfl rfl rfl ?_
          obtain ⟨g0, h⟩ := o_gE h
          refine go_iaload (pc' := 62) rfl (o_inK g0) (o_inB g0) rfl ?_
          refine go_ldc (pc' := 64) (v := .inl (-2147483648 : Int32)) rfl rfl rfl ?_
          refine go_icmp_eq (pt := 113) (pc' := 67) rfl rfl rfl (fun h64 => ?_) (fun h64 => ?_)
          · replace h := o_t h64 h
            obtain ⟨x4_113, ex4_113, h⟩ := o_b1E h
            refine go_iincE (pc' := 116) rfl rfl (y := (nI 1)) rfl ex4_113 (lo' := [some (.inr (.inr th)), some (.inl a0), some (.inl a1), some (.inl a2), some (.inl x4_113), some (.inl x5_41), some (.inl x6_53)]) rfl rfl ?_
            refine go_goto (pc' := 3) rfl rfl ?_
            exact (lp_backE h hk3 (some (.inl x5_41)) (some (.inl x6_53)) :)
          · replace h := o_f h64 h
            refine go_aload_n (pc' := 68) rfl rfl rfl ?_
            refine go_getR (pc' := 71) rfl rfl hth rfl ?_
            refine go_iload (pc' := 73) rfl rfl rfl ?_
            obtain ⟨g1, h⟩ := o_gE h
            refine go_iaload (pc' := 74) rfl (o_inK g1) (o_inB g1) rfl ?_
            refine go_ldc (pc' := 76) (v := .inl (-2147483648 : Int32)) rfl rfl rfl ?_
            refine go_icmp_eq (pt := 113) (pc' := 79) rfl rfl rfl (fun h76 => ?_) (fun h76 => ?_)
            · replace h := o_t h76 h
              obtain ⟨x4_113, ex4_113, h⟩ := o_b1E h
              refine go_iincE (pc' := 116) rfl rfl (y := (nI 1)) rfl ex4_113 (lo' := [some (.inr (.inr th)), some (.inl a0), some (.inl a1), some (.inl a2), some (.inl x4_113), some (.inl x5_41), some (.inl x6_53)]) rfl rfl ?_
              refine go_goto (pc' := 3) rfl rfl ?_
              exact (lp_backE h hk3 (some (.inl x5_41)) (some (.inl x6_53)) :)
            · replace h := o_f h76 h
              refine go_aload_n (pc' := 80) rfl rfl rfl ?_
              refine go_getR (pc' := 83) rfl rfl hth rfl ?_
              refine go_iload (pc' := 85) rfl rfl rfl ?_
              obtain ⟨g2, h⟩ := o_gE h
              refine go_iaload (pc' := 86) rfl (o_inK g2) (o_inB g2) rfl ?_
              refine go_aload_n (pc' := 87) rfl rfl rfl ?_
              refine go_getR (pc' := 90) rfl rfl hth rfl ?_
              refine go_iload (pc' := 92) rfl rfl rfl ?_
              obtain ⟨g3, h⟩ := o_gE h
              refine go_iaload (pc' := 93) rfl (o_inK g3) (o_inB g3) rfl ?_
              refine go_iadd (pc' := 94) rfl rfl ?_
              refine go_aload_n (pc' := 95) rfl rfl rfl ?_
              refine go_getR (pc' := 98) rfl rfl hth rfl ?_
              refine go_iload_n (pc' := 99) rfl rfl rfl ?_
              obtain ⟨g4, h⟩ := o_gE h
              refine go_iaload (pc' := 100) rfl (o_inK g4) (o_inB g4) rfl ?_
              refine go_aload_n (pc' := 101) rfl rfl rfl ?_
              refine go_getR (pc' := 104) rfl rfl hth rfl ?_
              refine go_iload_n (pc' := 105) rfl rfl rfl ?_
              obtain ⟨g5, h⟩ := o_gE h
              refine go_iaload (pc' := 106) rfl (o_inK g5) (o_inB g5) rfl ?_
              refine go_iadd (pc' := 107) rfl rfl ?_
              refine go_icmp_lt (pt := 113) (pc' := 110) rfl rfl rfl (fun h107 => ?_) (fun h107 => ?_)
              · replace h := o_t h107 h
                obtain ⟨x4_113, ex4_113, h⟩ := o_b1E h
                refine go_iincE (pc' := 116) rfl rfl (y := (nI 1)) rfl ex4_113 (lo' := [some (.inr (.inr th)), some (.inl a0), some (.inl a1), some (.inl a2), some (.inl x4_113), some (.inl x5_41), some (.inl x6_53)]) rfl rfl ?_
                refine go_goto (pc' := 3) rfl rfl ?_
                exact (lp_backE h hk3 (some (.inl x5_41)) (some (.inl x6_53)) :)
              · replace h := o_f h107 h
                exact ex3_110 _ (some (.inl x5_41)) (some (.inl x6_53)) (lp_exitE h hk3)
        · replace h := o_f h25 h
          refine go_goto (pc' := 113) rfl rfl ?_
          obtain ⟨x4_113, ex4_113, h⟩ := o_b1E h
          refine go_iincE (pc' := 116) rfl rfl (y := (nI 1)) rfl ex4_113 (lo' := [some (.inr (.inr th)), some (.inl a0), some (.inl a1), some (.inl a2), some (.inl x4_113), z5_3, z6_3]) rfl rfl ?_
          refine go_goto (pc' := 3) rfl rfl ?_
          exact (lp_backE h hk3 z5_3 z6_3 :))
  exact lo3 _ (nI 0) hl3 none none
