/-! Models of methods and their proofs, piece 9. Printed by wip/p46/pr10.py. -/
def m_123_x8_30 (G_3 : ai_G) (n_3 : Nat) (Ix_30 : ai_I) : Option (Nat × ai_I × ai_G) :=
  some (n_3, Ix_30, G_3)
def m_123_b8 (a0 : Nat) (a1 : Int32) (Rf : ai_R) (G_3 : ai_G) (n_3 : Nat) (v3_8 : Int32) (I_8 : ai_I) : Option ((Int32 × ai_I) ⊕ ai_I) :=
  if (nI 256) ≤ v3_8 then (some (Sum.inr I_8)) else (o_g (o_kd G_3 a0 10) (o_b1 (m_101 a0 a1 v3_8 I_8 Rf G_3) (fun r_20 => o_g (o_in G_3 13 n_3 v3_8) (o_b1 (some (va_up I_8 n_3 (va_up (I_8 n_3) v3_8.toNatClampNeg r_20))) (fun I_23 => o_b1 (some (v3_8 + (nI 1))) (fun x3_24 => some (Sum.inl (x3_24, I_23))))))))
/-- PricedBasesLaw.values(LPricedBases;I)[I -/
def m_123 (a0 : Nat) (a1 : Int32) (I : ai_I) (Rf : ai_R) (G : ai_G) : Option (Nat × ai_I × ai_G) :=
  o_g (o_lt9 G) (o_b1 (some (va_up I (G.2.2 + 1) (fun _ => 0))) (fun I_3 => o_b1 (some (va_up G.1 (G.2.2 + 1) 13, va_up G.2.1 (G.2.2 + 1) 256, G.2.2 + 1)) (fun G_3 => o_b1 (some (G.2.2 + 1)) (fun n_3 => o_s1 (lp (fun s => m_123_b8 a0 a1 Rf G_3 n_3 s.1 s.2) o_N ((nI 0), I_3)) (fun t => m_123_x8_30 G_3 n_3 t)))))
theorem md_123 {d : Nat} {I : ai_I} {J : ai_J} {Rf : ai_R} {G : ai_G} {a0 : Nat} {a1 : Int32} {r : Nat} {I1 : ai_I} {G1 : ai_G} (hd : 4 ≤ d) (h : m_123 a0 a1 I Rf G = some (r, I1, G1)) : ai_Cl si_t si_ms d 123 [.inr (.inr a0), .inl a1] I J Rf G (some (.inr (.inr r))) I1 J Rf G1 := by
  obtain ⟨e, rfl⟩ : ∃ e, d = e + 1 := ⟨d - 1, by omega⟩
  unfold m_123 at h
  refine sp_in (lo := [some (.inr (.inr a0)), some (.inl a1), none, none]) (B := (1, 256)) rfl (Nat.le_of_ble_eq_true rfl) rfl rfl ?_
  refine go_sipush (pc' := 3) (v := (nI 256)) rfl rfl rfl ?_
  obtain ⟨g0, h⟩ := o_gE h
  refine go_newI (pc' := 5) (N := 256) rfl (by decide) (by decide) (by decide) (by decide) (by decide) (o_lt9E g0) rfl ?_
  obtain ⟨I_3, eI_3, h⟩ := o_b1E h
  obtain ⟨G_3, eG_3, h⟩ := o_b1E h
  obtain ⟨n_3, en_3, h⟩ := o_b1E h
  refine go_ndMI eI_3 ?_
  refine go_ndMG eG_3 ?_
  refine go_ndR en_3 ?_
  refine go_ndB (B' := (0, 0)) rfl ?_
  refine go_astore_n (pc' := 6) (lo' := [some (.inr (.inr a0)), some (.inl a1), some (.inr (.inr n_3)), none]) rfl rfl rfl ?_
  refine go_iconst (pc' := 7) (v := (nI 0)) rfl rfl rfl ?_
  refine go_istore_n (pc' := 8) (lo' := [some (.inr (.inr a0)), some (.inl a1), some (.inr (.inr n_3)), some (.inl (nI 0))]) rfl rfl rfl ?_
  obtain ⟨q8, hl8, hc8_30⟩ := o_s1E h
  have ex8_30 : ∀ (Ix_30 : ai_I) (z3_x30 : Option ai_V) (h_z3_x30 : ai_isL z3_x30 = false), Ix_30 = q8 → ai_Go si_t (23, false, 2, cd_123) (ai_Cl si_t si_ms e) (sp_Q (some (.inr (.inr r))) I1 J Rf G1) 30 [some (.inr (.inr a0)), some (.inl a1), some (.inr (.inr n_3)), z3_x30] [] (0, 0) Ix_30 J Rf G_3 := by
    intro Ix_30 z3_x30 h_z3_x30 hq
    have h : m_123_x8_30 G_3 n_3 Ix_30 = some (r, I1, G1) := hc8_30 Ix_30 hq.symm
    unfold m_123_x8_30 at h
    refine go_aload_n (pc' := 31) rfl rfl rfl ?_
    cases h
    exact go_aret rfl (rfl) ⟨rfl, rfl, rfl, rfl, rfl⟩
  have lo8 : ∀ n s, lp (fun s => m_123_b8 a0 a1 Rf G_3 n_3 s.1 s.2) n s = some q8 → (fun s => ai_Go si_t (23, false, 2, cd_123) (ai_Cl si_t si_ms e) (sp_Q (some (.inr (.inr r))) I1 J Rf G1) 8 [some (.inr (.inr a0)), some (.inl a1), some (.inr (.inr n_3)), some (.inl s.1)] [] (0, 0) s.2 J Rf G_3) s := lp_go (fun s x8 hx hk8 => by
    obtain ⟨v3_8, I_8⟩ := s
    have h : m_123_b8 a0 a1 Rf G_3 n_3 v3_8 I_8 = some x8 := hx
    clear hx
    show ai_Go si_t (23, false, 2, cd_123) (ai_Cl si_t si_ms e) (sp_Q (some (.inr (.inr r))) I1 J Rf G1) 8 [some (.inr (.inr a0)), some (.inl a1), some (.inr (.inr n_3)), some (.inl v3_8)] [] (0, 0) I_8 J Rf G_3
    unfold m_123_b8 at h
    refine go_iload_n (pc' := 9) rfl rfl rfl ?_
    refine go_sipush (pc' := 12) (v := (nI 256)) rfl rfl rfl ?_
    refine go_icmp_ge (pt := 30) (pc' := 15) rfl rfl rfl (fun h12 => ?_) (fun h12 => ?_)
    · replace h := o_t h12 h
      exact ex8_30 _ (some (.inl v3_8)) rfl (lp_exitE h hk8)
    · replace h := o_f h12 h
      refine go_aload_n (pc' := 16) rfl rfl rfl ?_
      refine go_iload_n (pc' := 17) rfl rfl rfl ?_
      refine go_aload_n (pc' := 18) rfl rfl rfl ?_
      refine go_iload_n (pc' := 19) rfl rfl rfl ?_
      refine go_iload_n (pc' := 20) rfl rfl rfl ?_
      obtain ⟨g1, h⟩ := o_gE h
      obtain ⟨r_20, q_20, h⟩ := o_b1E h
      refine go_callV (pc' := 23) (B' := (0, 0)) (st' := [.inl r_20, .inl v3_8, .inr (.inr n_3)]) rfl rfl (Or.inl (by decide)) rfl rfl (o_kdE g1) (md_101 (by omega) (o_kdE g1) q_20) rfl rfl rfl ?_
      obtain ⟨g2, h⟩ := o_gE h
      obtain ⟨I_23, eI_23, h⟩ := o_b1E h
      refine go_iastore (pc' := 24) rfl (o_inK g2) (o_inB g2) rfl ?_
      refine go_ndMI eI_23 ?_
      obtain ⟨x3_24, ex3_24, h⟩ := o_b1E h
      refine go_iincE (pc' := 27) rfl rfl (y := (nI 1)) rfl ex3_24 (lo' := [some (.inr (.inr a0)), some (.inl a1), some (.inr (.inr n_3)), some (.inl x3_24)]) rfl rfl ?_
      refine go_goto (pc' := 8) rfl rfl ?_
      exact (lp_backE h hk8 :))
  exact lo8 _ ((nI 0), I_3) hl8 
def m_124_x4_34 (w2_34 : Int32) : Option (Int32) :=
  some w2_34
def m_124_b4 (a0 : Nat) (a1 : Int32) (I : ai_I) (G : ai_G) (v2_4 : Int32) (v3_4 : Int32) : Option ((Int32 × Int32) ⊕ Int32) :=
  if (nI 8) ≤ v3_4 then (some (Sum.inr v2_4)) else (o_b1 (m_121 a1 v3_4) (fun r_13 => if r_13 = 0 then (o_b1 (some (v2_4 + (nI 0))) (fun x2_27 => o_b1 (some (v3_4 + (nI 1))) (fun x3_28 => some (Sum.inl (x2_27, x3_28))))) else (o_g (o_in G 13 a0 v3_4) (o_b1 (some (v2_4 + (I a0 v3_4.toNatClampNeg))) (fun x2_27 => o_b1 (some (v3_4 + (nI 1))) (fun x3_28 => some (Sum.inl (x2_27, x3_28))))))))
/-- PricedBasesLaw.prices([II)I -/
def m_124 (a0 : Nat) (a1 : Int32) (I : ai_I) (G : ai_G) : Option (Int32) :=
  o_s1 (lp (fun s => m_124_b4 a0 a1 I G s.1 s.2) o_N ((nI 0), (nI 0))) (fun t => m_124_x4_34 t)
theorem md_124 {d : Nat} {I : ai_I} {J : ai_J} {Rf : ai_R} {G : ai_G} {a0 : Nat} {a1 : Int32} {r : Int32} (hd : 2 ≤ d) (h : m_124 a0 a1 I G = some r) : ai_Cl si_t si_ms d 124 [.inr (.inr a0), .inl a1] I J Rf G (some (.inl r)) I J Rf G := by
  obtain ⟨e, rfl⟩ : ∃ e, d = e + 1 := ⟨d - 1, by omega⟩
  unfold m_124 at h
  refine sp_in (lo := [some (.inr (.inr a0)), some (.inl a1), none, none]) (B := (0, 0)) rfl (Nat.le_of_ble_eq_true rfl) rfl rfl ?_
  refine go_iconst (pc' := 1) (v := (nI 0)) rfl rfl rfl ?_
  refine go_istore_n (pc' := 2) (lo' := [some (.inr (.inr a0)), some (.inl a1), some (.inl (nI 0)), none]) rfl rfl rfl ?_
  refine go_iconst (pc' := 3) (v := (nI 0)) rfl rfl rfl ?_
  refine go_istore_n (pc' := 4) (lo' := [some (.inr (.inr a0)), some (.inl a1), some (.inl (nI 0)), some (.inl (nI 0))]) rfl rfl rfl ?_
  obtain ⟨q4, hl4, hc4_34⟩ := o_s1E h
  have ex4_34 : ∀ (w2_34 : Int32) (z3_x34 : Option ai_V) (h_z3_x34 : ai_isL z3_x34 = false), w2_34 = q4 → ai_Go si_t (23, false, 0, cd_124) (ai_Cl si_t si_ms e) (sp_Q (some (.inl r)) I J Rf G) 34 [some (.inr (.inr a0)), some (.inl a1), some (.inl w2_34), z3_x34] [] (0, 0) I J Rf G := by
    intro w2_34 z3_x34 h_z3_x34 hq
    have h : m_124_x4_34 w2_34 = some r := hc4_34 w2_34 hq.symm
    unfold m_124_x4_34 at h
    refine go_iload_n (pc' := 35) rfl rfl rfl ?_
    cases h
    exact go_iret rfl (trivial) ⟨rfl, rfl, rfl, rfl, rfl⟩
  have lo4 : ∀ n s, lp (fun s => m_124_b4 a0 a1 I G s.1 s.2) n s = some q4 → (fun s => ai_Go si_t (23, false, 0, cd_124) (ai_Cl si_t si_ms e) (sp_Q (some (.inl r)) I J Rf G) 4 [some (.inr (.inr a0)), some (.inl a1), some (.inl s.1), some (.inl s.2)] [] (0, 0) I J Rf G) s := lp_go (fun s x4 hx hk4 => by
    obtain ⟨v2_4, v3_4⟩ := s
    have h : m_124_b4 a0 a1 I G v2_4 v3_4 = some x4 := hx
    clear hx
    show ai_Go si_t (23, false, 0, cd_124) (ai_Cl si_t si_ms e) (sp_Q (some (.inl r)) I J Rf G) 4 [some (.inr (.inr a0)), some (.inl a1), some (.inl v2_4), some (.inl v3_4)] [] (0, 0) I J Rf G
    unfold m_124_b4 at h
    refine go_iload_n (pc' := 5) rfl rfl rfl ?_
    refine go_bipush (pc' := 7) (v := (nI 8)) rfl rfl rfl ?_
    refine go_icmp_ge (pt := 34) (pc' := 10) rfl rfl rfl (fun h7 => ?_) (fun h7 => ?_)
    · replace h := o_t h7 h
      exact ex4_34 _ (some (.inl v3_4)) rfl (lp_exitE h hk4)
    · replace h := o_f h7 h
      refine go_iload_n (pc' := 11) rfl rfl rfl ?_
      refine go_iload_n (pc' := 12) rfl rfl rfl ?_
      refine go_iload_n (pc' := 13) rfl rfl rfl ?_
      obtain ⟨r_13, q_13, h⟩ := o_b1E h
      refine go_callS (pc' := 16) (B' := (0, 0)) (st' := [.inl r_13, .inl v2_4]) rfl rfl (Or.inl (by decide)) rfl rfl trivial (md_121 (by omega) q_13) rfl rfl rfl ?_
      refine go_if_eq (pt := 25) (pc' := 19) rfl rfl rfl (fun h16 => ?_) (fun h16 => ?_)
      · replace h := o_t h16 h
        refine go_iconst (pc' := 26) (v := (nI 0)) rfl rfl rfl ?_
        refine go_iadd (pc' := 27) rfl rfl ?_
        obtain ⟨x2_27, ex2_27, h⟩ := o_b1E h
        refine go_ndI ex2_27 ?_
        refine go_istore_n (pc' := 28) (lo' := [some (.inr (.inr a0)), some (.inl a1), some (.inl x2_27), some (.inl v3_4)]) rfl rfl rfl ?_
        obtain ⟨x3_28, ex3_28, h⟩ := o_b1E h
        refine go_iincE (pc' := 31) rfl rfl (y := (nI 1)) rfl ex3_28 (lo' := [some (.inr (.inr a0)), some (.inl a1), some (.inl x2_27), some (.inl x3_28)]) rfl rfl ?_
        refine go_goto (pc' := 4) rfl rfl ?_
        exact (lp_backE h hk4 :)
      · replace h := o_f h16 h
        refine go_aload_n (pc' := 20) rfl rfl rfl ?_
        refine go_iload_n (pc' := 21) rfl rfl rfl ?_
        obtain ⟨g0, h⟩ := o_gE h
        refine go_iaload (pc' := 22) rfl (o_inK g0) (o_inB g0) rfl ?_
        refine go_goto (pc' := 26) rfl rfl ?_
        refine go_iadd (pc' := 27) rfl rfl ?_
        obtain ⟨x2_27, ex2_27, h⟩ := o_b1E h
        refine go_ndI ex2_27 ?_
        refine go_istore_n (pc' := 28) (lo' := [some (.inr (.inr a0)), some (.inl a1), some (.inl x2_27), some (.inl v3_4)]) rfl rfl rfl ?_
        obtain ⟨x3_28, ex3_28, h⟩ := o_b1E h
        refine go_iincE (pc' := 31) rfl rfl (y := (nI 1)) rfl ex3_28 (lo' := [some (.inr (.inr a0)), some (.inl a1), some (.inl x2_27), some (.inl x3_28)]) rfl rfl ?_
        refine go_goto (pc' := 4) rfl rfl ?_
        exact (lp_backE h hk4 :))
  exact lo4 _ ((nI 0), (nI 0)) hl4 
def m_125_x7_54 (G_2 : ai_G) (n_2 : Nat) (Ix_54 : ai_I) : Option (Nat × ai_I × ai_G) :=
  some (n_2, Ix_54, G_2)
def m_125_j38 (a0 : Nat) (Rf : ai_R) (G_2 : ai_G) (n_2 : Nat) (v3_7 : Int32) (t2_38 : Int32) (I_38 : ai_I) : Option ((Int32 × ai_I) ⊕ ai_I) :=
  o_g (o_in G_2 13 n_2 v3_7) (o_b1 (some (va_up I_38 n_2 (va_up (I_38 n_2) v3_7.toNatClampNeg t2_38))) (fun I_38 => o_g (o_in G_2 13 n_2 v3_7) (o_g (o_kd G_2 a0 10) (o_b2 (m_99 a0 v3_7 (I_38 n_2 v3_7.toNatClampNeg) I_38 Rf G_2) (fun r_44 I_44 => o_b1 (some (v3_7 + (nI 1))) (fun x3_48 => some (Sum.inl (x3_48, I_44))))))))
def m_125_b7 (a0 : Nat) (a1 : Nat) (Rf : ai_R) (G_2 : ai_G) (n_2 : Nat) (v3_7 : Int32) (I_7 : ai_I) : Option ((Int32 × ai_I) ⊕ ai_I) :=
  if (nI 8) ≤ v3_7 then (some (Sum.inr I_7)) else (o_b2 (m_118 a1 I_7 G_2) (fun r_16 I_16 => if (r_16 - r_16 / (nI 3) * (nI 3)) = 0 then (m_125_j38 a0 Rf G_2 n_2 v3_7 (nI 0) I_16) else (o_b2 (m_118 a1 I_16 G_2) (fun r_29 I_29 => m_125_j38 a0 Rf G_2 n_2 v3_7 ((r_29 - r_29 / (nI 31) * (nI 31)) - (nI 15)) I_29))))
/-- PricedBasesLaw.priced(LPricedBases;[I)[I -/
def m_125 (a0 : Nat) (a1 : Nat) (I : ai_I) (Rf : ai_R) (G : ai_G) : Option (Nat × ai_I × ai_G) :=
  o_g (o_lt9 G) (o_b1 (some (va_up I (G.2.2 + 1) (fun _ => 0))) (fun I_2 => o_b1 (some (va_up G.1 (G.2.2 + 1) 13, va_up G.2.1 (G.2.2 + 1) 8, G.2.2 + 1)) (fun G_2 => o_b1 (some (G.2.2 + 1)) (fun n_2 => o_s1 (lp (fun s => m_125_b7 a0 a1 Rf G_2 n_2 s.1 s.2) o_N ((nI 0), I_2)) (fun t => m_125_x7_54 G_2 n_2 t)))))
theorem md_125 {d : Nat} {I : ai_I} {J : ai_J} {Rf : ai_R} {G : ai_G} {a0 : Nat} {a1 : Nat} {r : Nat} {I1 : ai_I} {G1 : ai_G} (hd : 3 ≤ d) (h : m_125 a0 a1 I Rf G = some (r, I1, G1)) : ai_Cl si_t si_ms d 125 [.inr (.inr a0), .inr (.inr a1)] I J Rf G (some (.inr (.inr r))) I1 J Rf G1 := by
  obtain ⟨e, rfl⟩ : ∃ e, d = e + 1 := ⟨d - 1, by omega⟩
  unfold m_125 at h
  refine sp_in (lo := [some (.inr (.inr a0)), some (.inr (.inr a1)), none, none]) (B := (1, 8)) rfl (Nat.le_of_ble_eq_true rfl) rfl rfl ?_
  refine go_bipush (pc' := 2) (v := (nI 8)) rfl rfl rfl ?_
  obtain ⟨g0, h⟩ := o_gE h
  refine go_newI (pc' := 4) (N := 8) rfl (by decide) (by decide) (by decide) (by decide) (by decide) (o_lt9E g0) rfl ?_
  obtain ⟨I_2, eI_2, h⟩ := o_b1E h
  obtain ⟨G_2, eG_2, h⟩ := o_b1E h
  obtain ⟨n_2, en_2, h⟩ := o_b1E h
  refine go_ndMI eI_2 ?_
  refine go_ndMG eG_2 ?_
  refine go_ndR en_2 ?_
  refine go_ndB (B' := (0, 0)) rfl ?_
  refine go_astore_n (pc' := 5) (lo' := [some (.inr (.inr a0)), some (.inr (.inr a1)), some (.inr (.inr n_2)), none]) rfl rfl rfl ?_
  refine go_iconst (pc' := 6) (v := (nI 0)) rfl rfl rfl ?_
  refine go_istore_n (pc' := 7) (lo' := [some (.inr (.inr a0)), some (.inr (.inr a1)), some (.inr (.inr n_2)), some (.inl (nI 0))]) rfl rfl rfl ?_
  obtain ⟨q7, hl7, hc7_54⟩ := o_s1E h
  have ex7_54 : ∀ (Ix_54 : ai_I) (z3_x54 : Option ai_V) (h_z3_x54 : ai_isL z3_x54 = false), Ix_54 = q7 → ai_Go si_t (23, false, 2, cd_125) (ai_Cl si_t si_ms e) (sp_Q (some (.inr (.inr r))) I1 J Rf G1) 54 [some (.inr (.inr a0)), some (.inr (.inr a1)), some (.inr (.inr n_2)), z3_x54] [] (0, 0) Ix_54 J Rf G_2 := by
    intro Ix_54 z3_x54 h_z3_x54 hq
    have h : m_125_x7_54 G_2 n_2 Ix_54 = some (r, I1, G1) := hc7_54 Ix_54 hq.symm
    unfold m_125_x7_54 at h
    refine go_aload_n (pc' := 55) rfl rfl rfl ?_
    cases h
    exact go_aret rfl (rfl) ⟨rfl, rfl, rfl, rfl, rfl⟩
  have lo7 : ∀ n s, lp (fun s => m_125_b7 a0 a1 Rf G_2 n_2 s.1 s.2) n s = some q7 → (fun s => ai_Go si_t (23, false, 2, cd_125) (ai_Cl si_t si_ms e) (sp_Q (some (.inr (.inr r))) I1 J Rf G1) 7 [some (.inr (.inr a0)), some (.inr (.inr a1)), some (.inr (.inr n_2)), some (.inl s.1)] [] (0, 0) s.2 J Rf G_2) s := lp_go (fun s x7 hx hk7 => by
    obtain ⟨v3_7, I_7⟩ := s
    have h : m_125_b7 a0 a1 Rf G_2 n_2 v3_7 I_7 = some x7 := hx
    clear hx
    show ai_Go si_t (23, false, 2, cd_125) (ai_Cl si_t si_ms e) (sp_Q (some (.inr (.inr r))) I1 J Rf G1) 7 [some (.inr (.inr a0)), some (.inr (.inr a1)), some (.inr (.inr n_2)), some (.inl v3_7)] [] (0, 0) I_7 J Rf G_2
    unfold m_125_b7 at h
    refine go_iload_n (pc' := 8) rfl rfl rfl ?_
    refine go_bipush (pc' := 10) (v := (nI 8)) rfl rfl rfl ?_
    refine go_icmp_ge (pt := 54) (pc' := 13) rfl rfl rfl (fun h10 => ?_) (fun h10 => ?_)
    · replace h := o_t h10 h
      exact ex7_54 _ (some (.inl v3_7)) rfl (lp_exitE h hk7)
    · replace h := o_f h10 h
      refine go_aload_n (pc' := 14) rfl rfl rfl ?_
      refine go_iload_n (pc' := 15) rfl rfl rfl ?_
      refine go_aload_n (pc' := 16) rfl rfl rfl ?_
      obtain ⟨r_16, I_16, q_16, h⟩ := o_b2E h
      refine go_callS (pc' := 19) (B' := (0, 0)) (st' := [.inl r_16, .inl v3_7, .inr (.inr n_2)]) rfl rfl (Or.inl (by decide)) rfl rfl trivial (md_118 (by omega) q_16) rfl rfl rfl ?_
      refine go_iconst (pc' := 20) (v := (nI 3)) rfl rfl rfl ?_
      refine go_irem (pc' := 21) rfl (by decide) rfl ?_
      have jn38 : ∀ (t2_38 : Int32) (I_38 : ai_I), m_125_j38 a0 Rf G_2 n_2 v3_7 t2_38 I_38 = some x7 → ai_Go si_t (23, false, 2, cd_125) (ai_Cl si_t si_ms e) (sp_Q (some (.inr (.inr r))) I1 J Rf G1) 38 [some (.inr (.inr a0)), some (.inr (.inr a1)), some (.inr (.inr n_2)), some (.inl v3_7)] [.inl t2_38, .inl v3_7, .inr (.inr n_2)] (0, 0) I_38 J Rf G_2 := by
        intro t2_38 I_38 h
        unfold m_125_j38 at h
        obtain ⟨g1, h⟩ := o_gE h
        obtain ⟨I_38, eI_38, h⟩ := o_b1E h
        refine go_iastore (pc' := 39) rfl (o_inK g1) (o_inB g1) rfl ?_
        refine go_ndMI eI_38 ?_
        refine go_aload_n (pc' := 40) rfl rfl rfl ?_
        refine go_iload_n (pc' := 41) rfl rfl rfl ?_
        refine go_aload_n (pc' := 42) rfl rfl rfl ?_
        refine go_iload_n (pc' := 43) rfl rfl rfl ?_
        obtain ⟨g2, h⟩ := o_gE h
        refine go_iaload (pc' := 44) rfl (o_inK g2) (o_inB g2) rfl ?_
        obtain ⟨g3, h⟩ := o_gE h
        obtain ⟨r_44, I_44, q_44, h⟩ := o_b2E h
        refine go_callV (pc' := 47) (B' := (0, 0)) (st' := [.inl r_44]) rfl rfl (Or.inl (by decide)) rfl rfl (o_kdE g3) (md_99 (by omega) (o_kdE g3) q_44) rfl rfl rfl ?_
        refine go_popI (pc' := 48) rfl rfl ?_
        obtain ⟨x3_48, ex3_48, h⟩ := o_b1E h
        refine go_iincE (pc' := 51) rfl rfl (y := (nI 1)) rfl ex3_48 (lo' := [some (.inr (.inr a0)), some (.inr (.inr a1)), some (.inr (.inr n_2)), some (.inl x3_48)]) rfl rfl ?_
        refine go_goto (pc' := 7) rfl rfl ?_
        exact (lp_backE h hk7 :)
      refine go_if_ne (pt := 28) (pc' := 24) rfl rfl rfl (fun h21 => ?_) (fun h21 => ?_)
      · replace h := o_f h21 h
        refine go_aload_n (pc' := 29) rfl rfl rfl ?_
        obtain ⟨r_29, I_29, q_29, h⟩ := o_b2E h
        refine go_callS (pc' := 32) (B' := (0, 0)) (st' := [.inl r_29, .inl v3_7, .inr (.inr n_2)]) rfl rfl (Or.inl (by decide)) rfl rfl trivial (md_118 (by omega) q_29) rfl rfl rfl ?_
        refine go_bipush (pc' := 34) (v := (nI 31)) rfl rfl rfl ?_
        refine go_irem (pc' := 35) rfl (by decide) rfl ?_
        refine go_bipush (pc' := 37) (v := (nI 15)) rfl rfl rfl ?_
        refine go_isub (pc' := 38) rfl rfl ?_
        exact jn38 ((r_29 - r_29 / (nI 31) * (nI 31)) - (nI 15)) I_29 h
      · replace h := o_t (Decidable.of_not_not h21) h
        refine go_iconst (pc' := 25) (v := (nI 0)) rfl rfl rfl ?_
        refine go_goto (pc' := 38) rfl rfl ?_
        exact jn38 (nI 0) I_16 h)
  exact lo7 _ ((nI 0), I_2) hl7 
/-- PricedBasesLaw.isBase([II)Z -/
def m_126 (a0 : Nat) (a1 : Int32) (I : ai_I) (G : ai_G) : Option (Int32) :=
  o_g (o_in G 13 a0 (a1 &&& (nI 255))) (if (I a0 (a1 &&& (nI 255)).toNatClampNeg) = (-2147483648 : Int32) then (some (nI 0)) else (some (nI 1)))
theorem md_126 {d : Nat} {I : ai_I} {J : ai_J} {Rf : ai_R} {G : ai_G} {a0 : Nat} {a1 : Int32} {r : Int32} (hd : 1 ≤ d) (h : m_126 a0 a1 I G = some r) : ai_Cl si_t si_ms d 126 [.inr (.inr a0), .inl a1] I J Rf G (some (.inl r)) I J Rf G := by
  obtain ⟨e, rfl⟩ : ∃ e, d = e + 1 := ⟨d - 1, by omega⟩
  unfold m_126 at h
  refine sp_in (lo := [some (.inr (.inr a0)), some (.inl a1)]) (B := (0, 0)) rfl (Nat.le_of_ble_eq_true rfl) rfl rfl ?_
  refine go_aload_n (pc' := 1) rfl rfl rfl ?_
  refine go_iload_n (pc' := 2) rfl rfl rfl ?_
  refine go_sipush (pc' := 5) (v := (nI 255)) rfl rfl rfl ?_
  refine go_iand (pc' := 6) rfl rfl ?_
  obtain ⟨g0, h⟩ := o_gE h
  refine go_iaload (pc' := 7) rfl (o_inK g0) (o_inB g0) rfl ?_
  refine go_ldc (pc' := 9) (v := .inl (-2147483648 : Int32)) rfl rfl rfl ?_
  refine go_icmp_eq (pt := 16) (pc' := 12) rfl rfl rfl (fun h9 => ?_) (fun h9 => ?_)
  · replace h := o_t h9 h
    refine go_iconst (pc' := 17) (v := (nI 0)) rfl rfl rfl ?_
    cases h
    exact go_iret rfl (rfl) ⟨rfl, rfl, rfl, rfl, rfl⟩
  · replace h := o_f h9 h
    refine go_iconst (pc' := 13) (v := (nI 1)) rfl rfl rfl ?_
    refine go_goto (pc' := 17) rfl rfl ?_
    cases h
    exact go_iret rfl (rfl) ⟨rfl, rfl, rfl, rfl, rfl⟩
def m_127_x8_128 (w5_128 : Int32) : Option (Int32) :=
  some w5_128
def m_127_j82 (a0 : Nat) (a1 : Int32) (a2 : Int32) (a4 : Int32) (I : ai_I) (G : ai_G) (v5_8 : Int32) (v6_8 : Int32) (x7_25 : Int32) (x8_39 : Int32) (t0_82 : Int32) : Option ((Int32 × Int32) ⊕ Int32) :=
  if t0_82 = 0 then (o_b1 (some (v6_8 + (-1 : Int32))) (fun x6_122 => some (Sum.inl (v5_8, x6_122)))) else (if a4 = 0 then (o_g (o_in G 13 a0 x7_25) (o_g (o_in G 13 a0 x8_39) (o_g (o_in G 13 a0 a1) (o_g (o_in G 13 a0 a2) (if ((I a0 x7_25.toNatClampNeg) + (I a0 x8_39.toNatClampNeg)) < ((I a0 a1.toNatClampNeg) + (I a0 a2.toNatClampNeg)) then (o_b1 (some (v6_8 + (-1 : Int32))) (fun x6_122 => some (Sum.inl (v5_8, x6_122)))) else (o_b1 (some (v6_8 + (-1 : Int32))) (fun x6_122 => some (Sum.inl (v6_8, x6_122))))))))) else (o_b1 (some (v6_8 + (-1 : Int32))) (fun x6_122 => some (Sum.inl (v6_8, x6_122)))))
def m_127_j81 (a0 : Nat) (a1 : Int32) (a2 : Int32) (a4 : Int32) (I : ai_I) (G : ai_G) (v5_8 : Int32) (v6_8 : Int32) (x7_25 : Int32) (x8_39 : Int32) : Option ((Int32 × Int32) ⊕ Int32) :=
  m_127_j82 a0 a1 a2 a4 I G v5_8 v6_8 x7_25 x8_39 (nI 0)
def m_127_b8 (a0 : Nat) (a1 : Int32) (a2 : Int32) (a3 : Int32) (a4 : Int32) (I : ai_I) (G : ai_G) (v5_8 : Int32) (v6_8 : Int32) : Option ((Int32 × Int32) ⊕ Int32) :=
  if v6_8 < 0 then (some (Sum.inr v5_8)) else (o_b1 (some ((a1 &&& (((nI 1) <<< (a3 &&& 31)) ^^^ (-1 : Int32))) ||| ((nI 1) <<< (v6_8 &&& 31)))) (fun x7_25 => o_b1 (some ((a2 &&& (((nI 1) <<< (v6_8 &&& 31)) ^^^ (-1 : Int32))) ||| ((nI 1) <<< (a3 &&& 31)))) (fun x8_39 => o_b1 (m_121 a2 v6_8) (fun r_44 => if r_44 = 0 then (m_127_j81 a0 a1 a2 a4 I G v5_8 v6_8 x7_25 x8_39) else (o_b1 (m_121 a1 v6_8) (fun r_53 => if r_53 = 0 then (o_b1 (m_126 a0 x7_25 I G) (fun r_62 => if r_62 = 0 then (m_127_j81 a0 a1 a2 a4 I G v5_8 v6_8 x7_25 x8_39) else (o_b1 (m_126 a0 x8_39 I G) (fun r_71 => if r_71 = 0 then (m_127_j81 a0 a1 a2 a4 I G v5_8 v6_8 x7_25 x8_39) else (m_127_j82 a0 a1 a2 a4 I G v5_8 v6_8 x7_25 x8_39 (nI 1)))))) else (m_127_j81 a0 a1 a2 a4 I G v5_8 v6_8 x7_25 x8_39)))))))
/-- PricedBasesLaw.exchange([IIIIZ)I -/
def m_127 (a0 : Nat) (a1 : Int32) (a2 : Int32) (a3 : Int32) (a4 : Int32) (I : ai_I) (G : ai_G) : Option (Int32) :=
  o_s1 (lp (fun s => m_127_b8 a0 a1 a2 a3 a4 I G s.1 s.2) o_N ((-2 : Int32), (nI 7))) (fun t => m_127_x8_128 t)
theorem md_127 {d : Nat} {I : ai_I} {J : ai_J} {Rf : ai_R} {G : ai_G} {a0 : Nat} {a1 : Int32} {a2 : Int32} {a3 : Int32} {a4 : Int32} {r : Int32} (hd : 2 ≤ d) (h : m_127 a0 a1 a2 a3 a4 I G = some r) : ai_Cl si_t si_ms d 127 [.inr (.inr a0), .inl a1, .inl a2, .inl a3, .inl a4] I J Rf G (some (.inl r)) I J Rf G := by
  obtain ⟨e, rfl⟩ : ∃ e, d = e + 1 := ⟨d - 1, by omega⟩
  unfold m_127 at h
  refine sp_in (lo := [some (.inr (.inr a0)), some (.inl a1), some (.inl a2), some (.inl a3), some (.inl a4), none, none, none, none, none]) (B := (0, 0)) rfl (Nat.le_of_ble_eq_true rfl) rfl rfl ?_
  refine go_bipush (pc' := 2) (v := (-2 : Int32)) rfl rfl rfl ?_
  refine go_istore (pc' := 4) (lo' := [some (.inr (.inr a0)), some (.inl a1), some (.inl a2), some (.inl a3), some (.inl a4), some (.inl (-2 : Int32)), none, none, none, none]) rfl rfl rfl ?_
  refine go_bipush (pc' := 6) (v := (nI 7)) rfl rfl rfl ?_
  refine go_istore (pc' := 8) (lo' := [some (.inr (.inr a0)), some (.inl a1), some (.inl a2), some (.inl a3), some (.inl a4), some (.inl (-2 : Int32)), some (.inl (nI 7)), none, none, none]) rfl rfl rfl ?_
  obtain ⟨q8, hl8, hc8_128⟩ := o_s1E h
  have ex8_128 : ∀ (w5_128 : Int32) (z6_x128 : Option ai_V) (h_z6_x128 : ai_isL z6_x128 = false) (z7_x128 : Option ai_V) (h_z7_x128 : ai_isL z7_x128 = false) (z8_x128 : Option ai_V) (h_z8_x128 : ai_isL z8_x128 = false) (z9_x128 : Option ai_V) (h_z9_x128 : ai_isL z9_x128 = false), w5_128 = q8 → ai_Go si_t (23, false, 0, cd_127) (ai_Cl si_t si_ms e) (sp_Q (some (.inl r)) I J Rf G) 128 [some (.inr (.inr a0)), some (.inl a1), some (.inl a2), some (.inl a3), some (.inl a4), some (.inl w5_128), z6_x128, z7_x128, z8_x128, z9_x128] [] (0, 0) I J Rf G := by
    intro w5_128 z6_x128 h_z6_x128 z7_x128 h_z7_x128 z8_x128 h_z8_x128 z9_x128 h_z9_x128 hq
    have h : m_127_x8_128 w5_128 = some r := hc8_128 w5_128 hq.symm
    unfold m_127_x8_128 at h
    refine go_iload (pc' := 130) rfl rfl rfl ?_
    cases h
    exact go_iret rfl (trivial) ⟨rfl, rfl, rfl, rfl, rfl⟩
  have lo8 : ∀ n s, lp (fun s => m_127_b8 a0 a1 a2 a3 a4 I G s.1 s.2) n s = some q8 → (fun s => ∀ (z7_8 : Option ai_V) (h_z7_8 : ai_isL z7_8 = false) (z8_8 : Option ai_V) (h_z8_8 : ai_isL z8_8 = false) (z9_8 : Option ai_V) (h_z9_8 : ai_isL z9_8 = false), ai_Go si_t (23, false, 0, cd_127) (ai_Cl si_t si_ms e) (sp_Q (some (.inl r)) I J Rf G) 8 [some (.inr (.inr a0)), some (.inl a1), some (.inl a2), some (.inl a3), some (.inl a4), some (.inl s.1), some (.inl s.2), z7_8, z8_8, z9_8] [] (0, 0) I J Rf G) s := lp_go (fun s x8 hx hk8 => by
    obtain ⟨v5_8, v6_8⟩ := s
    intro z7_8 h_z7_8 z8_8 h_z8_8 z9_8 h_z9_8
    have h : m_127_b8 a0 a1 a2 a3 a4 I G v5_8 v6_8 = some x8 := hx
    clear hx
    show ai_Go si_t (23, false, 0, cd_127) (ai_Cl si_t si_ms e) (sp_Q (some (.inl r)) I J Rf G) 8 [some (.inr (.inr a0)), some (.inl a1), some (.inl a2), some (.inl a3), some (.inl a4), some (.inl v5_8), some (.inl v6_8), z7_8, z8_8, z9_8] [] (0, 0) I J Rf G
    unfold m_127_b8 at h
    refine go_iload (pc' := 10) rfl rfl rfl ?_
    refine go_if_lt (pt := 128) (pc' := 13) rfl rfl rfl (fun h10 => ?_) (fun h10 => ?_)
    · replace h := o_t h10 h
      exact ex8_128 _ (some (.inl v6_8)) rfl z7_8 h_z7_8 z8_8 h_z8_8 z9_8 h_z9_8 (lp_exitE h hk8)
    · replace h := o_f h10 h
      refine go_iload_n (pc' := 14) rfl rfl rfl ?_
      refine go_iconst (pc' := 15) (v := (nI 1)) rfl rfl rfl ?_
      refine go_iload_n (pc' := 16) rfl rfl rfl ?_
      refine go_ishl (pc' := 17) rfl rfl ?_
      refine go_iconst (pc' := 18) (v := (-1 : Int32)) rfl rfl rfl ?_
      refine go_ixor (pc' := 19) rfl rfl ?_
      refine go_iand (pc' := 20) rfl rfl ?_
      refine go_iconst (pc' := 21) (v := (nI 1)) rfl rfl rfl ?_
      refine go_iload (pc' := 23) rfl rfl rfl ?_
      refine go_ishl (pc' := 24) rfl rfl ?_
      refine go_ior (pc' := 25) rfl rfl ?_
      obtain ⟨x7_25, ex7_25, h⟩ := o_b1E h
      refine go_ndI ex7_25 ?_
      refine go_istore (pc' := 27) (lo' := [some (.inr (.inr a0)), some (.inl a1), some (.inl a2), some (.inl a3), some (.inl a4), some (.inl v5_8), some (.inl v6_8), some (.inl x7_25), z8_8, z9_8]) rfl rfl rfl ?_
      refine go_iload_n (pc' := 28) rfl rfl rfl ?_
      refine go_iconst (pc' := 29) (v := (nI 1)) rfl rfl rfl ?_
      refine go_iload (pc' := 31) rfl rfl rfl ?_
      refine go_ishl (pc' := 32) rfl rfl ?_
      refine go_iconst (pc' := 33) (v := (-1 : Int32)) rfl rfl rfl ?_
      refine go_ixor (pc' := 34) rfl rfl ?_
      refine go_iand (pc' := 35) rfl rfl ?_
      refine go_iconst (pc' := 36) (v := (nI 1)) rfl rfl rfl ?_
      refine go_iload_n (pc' := 37) rfl rfl rfl ?_
      refine go_ishl (pc' := 38) rfl rfl ?_
      refine go_ior (pc' := 39) rfl rfl ?_
      obtain ⟨x8_39, ex8_39, h⟩ := o_b1E h
      refine go_ndI ex8_39 ?_
      refine go_istore (pc' := 41) (lo' := [some (.inr (.inr a0)), some (.inl a1), some (.inl a2), some (.inl a3), some (.inl a4), some (.inl v5_8), some (.inl v6_8), some (.inl x7_25), some (.inl x8_39), z9_8]) rfl rfl rfl ?_
      refine go_iload_n (pc' := 42) rfl rfl rfl ?_
      refine go_iload (pc' := 44) rfl rfl rfl ?_
      obtain ⟨r_44, q_44, h⟩ := o_b1E h
      refine go_callS (pc' := 47) (B' := (0, 0)) (st' := [.inl r_44]) rfl rfl (Or.inl (by decide)) rfl rfl trivial (md_121 (by omega) q_44) rfl rfl rfl ?_
      have jn82 : ∀ (t0_82 : Int32) (z9_82 : Option ai_V) (h_z9_82 : ai_isL z9_82 = false), m_127_j82 a0 a1 a2 a4 I G v5_8 v6_8 x7_25 x8_39 t0_82 = some x8 → ai_Go si_t (23, false, 0, cd_127) (ai_Cl si_t si_ms e) (sp_Q (some (.inl r)) I J Rf G) 82 [some (.inr (.inr a0)), some (.inl a1), some (.inl a2), some (.inl a3), some (.inl a4), some (.inl v5_8), some (.inl v6_8), some (.inl x7_25), some (.inl x8_39), z9_82] [.inl t0_82] (0, 0) I J Rf G := by
        intro t0_82 z9_82 h_z9_82 h
        unfold m_127_j82 at h
        refine go_istore (pc' := 84) (lo' := [some (.inr (.inr a0)), some (.inl a1), some (.inl a2), some (.inl a3), some (.inl a4), some (.inl v5_8), some (.inl v6_8), some (.inl x7_25), some (.inl x8_39), some (.inl t0_82)]) rfl rfl rfl ?_
        refine go_iload (pc' := 86) rfl rfl rfl ?_
        refine go_if_eq (pt := 118) (pc' := 89) rfl rfl rfl (fun h86 => ?_) (fun h86 => ?_)
        · replace h := o_t h86 h
          refine go_iload (pc' := 120) rfl rfl rfl ?_
          refine go_istore (pc' := 122) (lo' := [some (.inr (.inr a0)), some (.inl a1), some (.inl a2), some (.inl a3), some (.inl a4), some (.inl v5_8), some (.inl v6_8), some (.inl x7_25), some (.inl x8_39), some (.inl t0_82)]) rfl rfl rfl ?_
          obtain ⟨x6_122, ex6_122, h⟩ := o_b1E h
          refine go_iincE (pc' := 125) rfl rfl (y := (-1 : Int32)) rfl ex6_122 (lo' := [some (.inr (.inr a0)), some (.inl a1), some (.inl a2), some (.inl a3), some (.inl a4), some (.inl v5_8), some (.inl x6_122), some (.inl x7_25), some (.inl x8_39), some (.inl t0_82)]) rfl rfl ?_
          refine go_goto (pc' := 8) rfl rfl ?_
          exact (lp_backE h hk8 (some (.inl x7_25)) rfl (some (.inl x8_39)) rfl (some (.inl t0_82)) rfl :)
        · replace h := o_f h86 h
          refine go_iload (pc' := 91) rfl rfl rfl ?_
          refine go_if_ne (pt := 113) (pc' := 94) rfl rfl rfl (fun h91 => ?_) (fun h91 => ?_)
          · replace h := o_f h91 h
            refine go_iload (pc' := 115) rfl rfl rfl ?_
            refine go_goto (pc' := 120) rfl rfl ?_
            refine go_istore (pc' := 122) (lo' := [some (.inr (.inr a0)), some (.inl a1), some (.inl a2), some (.inl a3), some (.inl a4), some (.inl v6_8), some (.inl v6_8), some (.inl x7_25), some (.inl x8_39), some (.inl t0_82)]) rfl rfl rfl ?_
            obtain ⟨x6_122, ex6_122, h⟩ := o_b1E h
            refine go_iincE (pc' := 125) rfl rfl (y := (-1 : Int32)) rfl ex6_122 (lo' := [some (.inr (.inr a0)), some (.inl a1), some (.inl a2), some (.inl a3), some (.inl a4), some (.inl v6_8), some (.inl x6_122), some (.inl x7_25), some (.inl x8_39), some (.inl t0_82)]) rfl rfl ?_
            refine go_goto (pc' := 8) rfl rfl ?_
            exact (lp_backE h hk8 (some (.inl x7_25)) rfl (some (.inl x8_39)) rfl (some (.inl t0_82)) rfl :)
          · replace h := o_t (Decidable.of_not_not h91) h
            refine go_aload_n (pc' := 95) rfl rfl rfl ?_
            refine go_iload (pc' := 97) rfl rfl rfl ?_
            obtain ⟨g0, h⟩ := o_gE h
            refine go_iaload (pc' := 98) rfl (o_inK g0) (o_inB g0) rfl ?_
            refine go_aload_n (pc' := 99) rfl rfl rfl ?_
            refine go_iload (pc' := 101) rfl rfl rfl ?_
            obtain ⟨g1, h⟩ := o_gE h
            refine go_iaload (pc' := 102) rfl (o_inK g1) (o_inB g1) rfl ?_
            refine go_iadd (pc' := 103) rfl rfl ?_
            refine go_aload_n (pc' := 104) rfl rfl rfl ?_
            refine go_iload_n (pc' := 105) rfl rfl rfl ?_
            obtain ⟨g2, h⟩ := o_gE h
            refine go_iaload (pc' := 106) rfl (o_inK g2) (o_inB g2) rfl ?_
            refine go_aload_n (pc' := 107) rfl rfl rfl ?_
            refine go_iload_n (pc' := 108) rfl rfl rfl ?_
            obtain ⟨g3, h⟩ := o_gE h
            refine go_iaload (pc' := 109) rfl (o_inK g3) (o_inB g3) rfl ?_
            refine go_iadd (pc' := 110) rfl rfl ?_
            refine go_icmp_lt (pt := 118) (pc' := 113) rfl rfl rfl (fun h110 => ?_) (fun h110 => ?_)
            · replace h := o_t h110 h
              refine go_iload (pc' := 120) rfl rfl rfl ?_
              refine go_istore (pc' := 122) (lo' := [some (.inr (.inr a0)), some (.inl a1), some (.inl a2), some (.inl a3), some (.inl a4), some (.inl v5_8), some (.inl v6_8), some (.inl x7_25), some (.inl x8_39), some (.inl t0_82)]) rfl rfl rfl ?_
              obtain ⟨x6_122, ex6_122, h⟩ := o_b1E h
              refine go_iincE (pc' := 125) rfl rfl (y := (-1 : Int32)) rfl ex6_122 (lo' := [some (.inr (.inr a0)), some (.inl a1), some (.inl a2), some (.inl a3), some (.inl a4), some (.inl v5_8), some (.inl x6_122), some (.inl x7_25), some (.inl x8_39), some (.inl t0_82)]) rfl rfl ?_
              refine go_goto (pc' := 8) rfl rfl ?_
              exact (lp_backE h hk8 (some (.inl x7_25)) rfl (some (.inl x8_39)) rfl (some (.inl t0_82)) rfl :)
            · replace h := o_f h110 h
              refine go_iload (pc' := 115) rfl rfl rfl ?_
              refine go_goto (pc' := 120) rfl rfl ?_
              refine go_istore (pc' := 122) (lo' := [some (.inr (.inr a0)), some (.inl a1), some (.inl a2), some (.inl a3), some (.inl a4), some (.inl v6_8), some (.inl v6_8), some (.inl x7_25), some (.inl x8_39), some (.inl t0_82)]) rfl rfl rfl ?_
              obtain ⟨x6_122, ex6_122, h⟩ := o_b1E h
              refine go_iincE (pc' := 125) rfl rfl (y := (-1 : Int32)) rfl ex6_122 (lo' := [some (.inr (.inr a0)), some (.inl a1), some (.inl a2), some (.inl a3), some (.inl a4), some (.inl v6_8), some (.inl x6_122), some (.inl x7_25), some (.inl x8_39), some (.inl t0_82)]) rfl rfl ?_
              refine go_goto (pc' := 8) rfl rfl ?_
              exact (lp_backE h hk8 (some (.inl x7_25)) rfl (some (.inl x8_39)) rfl (some (.inl t0_82)) rfl :)
      have jn81 : ∀ (z9_81 : Option ai_V) (h_z9_81 : ai_isL z9_81 = false), m_127_j81 a0 a1 a2 a4 I G v5_8 v6_8 x7_25 x8_39 = some x8 → ai_Go si_t (23, false, 0, cd_127) (ai_Cl si_t si_ms e) (sp_Q (some (.inl r)) I J Rf G) 81 [some (.inr (.inr a0)), some (.inl a1), some (.inl a2), some (.inl a3), some (.inl a4), some (.inl v5_8), some (.inl v6_8), some (.inl x7_25), some (.inl x8_39), z9_81] [] (0, 0) I J Rf G := by
        intro z9_81 h_z9_81 h
        unfold m_127_j81 at h
        refine go_iconst (pc' := 82) (v := (nI 0)) rfl rfl rfl ?_
        exact jn82 (nI 0) z9_81 h_z9_81 h
      refine go_if_eq (pt := 81) (pc' := 50) rfl rfl rfl (fun h47 => ?_) (fun h47 => ?_)
      · replace h := o_t h47 h
        exact jn81 z9_8 h_z9_8 h
      · replace h := o_f h47 h
        refine go_iload_n (pc' := 51) rfl rfl rfl ?_
        refine go_iload (pc' := 53) rfl rfl rfl ?_
        obtain ⟨r_53, q_53, h⟩ := o_b1E h
        refine go_callS (pc' := 56) (B' := (0, 0)) (st' := [.inl r_53]) rfl rfl (Or.inl (by decide)) rfl rfl trivial (md_121 (by omega) q_53) rfl rfl rfl ?_
        refine go_if_ne (pt := 81) (pc' := 59) rfl rfl rfl (fun h56 => ?_) (fun h56 => ?_)
        · replace h := o_f h56 h
          exact jn81 z9_8 h_z9_8 h
        · replace h := o_t (Decidable.of_not_not h56) h
          refine go_aload_n (pc' := 60) rfl rfl rfl ?_
          refine go_iload (pc' := 62) rfl rfl rfl ?_
          obtain ⟨r_62, q_62, h⟩ := o_b1E h
          refine go_callS (pc' := 65) (B' := (0, 0)) (st' := [.inl r_62]) rfl rfl (Or.inl (by decide)) rfl rfl trivial (md_126 (by omega) q_62) rfl rfl rfl ?_
          refine go_if_eq (pt := 81) (pc' := 68) rfl rfl rfl (fun h65 => ?_) (fun h65 => ?_)
          · replace h := o_t h65 h
            exact jn81 z9_8 h_z9_8 h
          · replace h := o_f h65 h
            refine go_aload_n (pc' := 69) rfl rfl rfl ?_
            refine go_iload (pc' := 71) rfl rfl rfl ?_
            obtain ⟨r_71, q_71, h⟩ := o_b1E h
            refine go_callS (pc' := 74) (B' := (0, 0)) (st' := [.inl r_71]) rfl rfl (Or.inl (by decide)) rfl rfl trivial (md_126 (by omega) q_71) rfl rfl rfl ?_
            refine go_if_eq (pt := 81) (pc' := 77) rfl rfl rfl (fun h74 => ?_) (fun h74 => ?_)
            · replace h := o_t h74 h
              exact jn81 z9_8 h_z9_8 h
            · replace h := o_f h74 h
              refine go_iconst (pc' := 78) (v := (nI 1)) rfl rfl rfl ?_
              refine go_goto (pc' := 82) rfl rfl ?_
              exact jn82 (nI 1) z9_8 h_z9_8 h)
  exact lo8 _ ((-2 : Int32), (nI 7)) hl8 none rfl none rfl none rfl
def m_128_j293 (a0 : Nat) (a1 : Int32) (Rf : ai_R) (G : ai_G) (w5_239 : Int32) (r_280 : Int32) (I_280 : ai_I) (t1_293 : Int32) : Option (Int32 × ai_I) :=
  if r_280 = t1_293 then (o_b2 (m_103 a0 a1 w5_239 (nI 0) I_280 Rf G) (fun r_301 I_301 => if r_301 = (-4 : Int32) then (some ((nI 1), I_301)) else (some ((nI 0), I_301)))) else (some ((nI 0), I_280))
def m_128_j273 (a0 : Nat) (a1 : Int32) (Rf : ai_R) (G : ai_G) (w5_239 : Int32) (w6_239 : Int32) (r_260 : Int32) (I_260 : ai_I) (t1_273 : Int32) : Option (Int32 × ai_I) :=
  if r_260 = t1_273 then (o_b2 (m_100 a0 a1 (nI 8) I_260 Rf G) (fun r_280 I_280 => if w6_239 = 0 then (m_128_j293 a0 a1 Rf G w5_239 r_280 I_280 (nI 0)) else (m_128_j293 a0 a1 Rf G w5_239 r_280 I_280 (nI 1)))) else (some ((nI 0), I_260))
def m_128_x12_239 (a0 : Nat) (a1 : Int32) (Rf : ai_R) (G : ai_G) (w4_239 : Int32) (w5_239 : Int32) (w6_239 : Int32) (Ix_239 : ai_I) : Option (Int32 × ai_I) :=
  if w4_239 = 0 then (some ((nI 0), Ix_239)) else (o_g (o_kd G a0 10) (o_b2 (m_100 a0 a1 (nI 12) Ix_239 Rf G) (fun r_248 I_248 => if r_248 = w5_239 then (o_b2 (m_100 a0 a1 (nI 7) I_248 Rf G) (fun r_260 I_260 => if w5_239 = 0 then (m_128_j273 a0 a1 Rf G w5_239 w6_239 r_260 I_260 (nI 1)) else (m_128_j273 a0 a1 Rf G w5_239 w6_239 r_260 I_260 (nI 0)))) else (some ((nI 0), I_248)))))
def m_128_x23_233 (v7_12 : Int32) (w4_233 : Int32) (w5_233 : Int32) (w6_233 : Int32) (Ix_233 : ai_I) : Option ((Int32 × Int32 × Int32 × Int32 × ai_I) ⊕ (Int32 × Int32 × Int32 × ai_I)) :=
  o_b1 (some (v7_12 + (nI 1))) (fun x7_233 => some (Sum.inl (w4_233, w5_233, w6_233, x7_233, Ix_233)))
def m_128_x43_227 (v8_23 : Int32) (w4_227 : Int32) (w5_227 : Int32) (w6_227 : Int32) (Ix_227 : ai_I) : Option ((Int32 × Int32 × Int32 × Int32 × ai_I) ⊕ (Int32 × Int32 × Int32 × ai_I)) :=
  o_b1 (some (v8_23 + (nI 1))) (fun x8_227 => some (Sum.inl (w4_227, w5_227, w6_227, x8_227, Ix_227)))
def m_128_j181 (a0 : Nat) (a1 : Int32) (a3 : Nat) (Rf : ai_R) (G : ai_G) (v7_12 : Int32) (v8_23 : Int32) (v9_43 : Int32) (r_87 : Int32) (y4_157 : Int32) (y5_157 : Int32) (I_157 : ai_I) (t0_181 : Int32) : Option ((Int32 × Int32 × Int32 × Int32 × ai_I) ⊕ (Int32 × Int32 × Int32 × ai_I)) :=
  if y4_157 = 0 then (o_b1 (some (v9_43 + (nI 1))) (fun x9_221 => some (Sum.inl ((nI 0), y5_157, t0_181, x9_221, I_157)))) else (o_b2 (m_118 a3 I_157 G) (fun r_189 I_189 => if 0 < (r_189 - r_189 / (nI 17) * (nI 17)) then (o_b1 (some (v9_43 + (nI 1))) (fun x9_221 => some (Sum.inl ((nI 1), y5_157, t0_181, x9_221, I_189)))) else (o_g (o_kd G a0 10) (o_b1 (m_104 a0 a1 v7_12 v8_23 v9_43 I_189 Rf G) (fun r_206 => if r_206 = r_87 then (o_b1 (some (v9_43 + (nI 1))) (fun x9_221 => some (Sum.inl ((nI 1), y5_157, t0_181, x9_221, I_189)))) else (o_b1 (some (v9_43 + (nI 1))) (fun x9_221 => some (Sum.inl ((nI 0), y5_157, t0_181, x9_221, I_189)))))))))
def m_128_j180 (a0 : Nat) (a1 : Int32) (a3 : Nat) (Rf : ai_R) (G : ai_G) (v7_12 : Int32) (v8_23 : Int32) (v9_43 : Int32) (r_87 : Int32) (y4_157 : Int32) (y5_157 : Int32) (I_157 : ai_I) : Option ((Int32 × Int32 × Int32 × Int32 × ai_I) ⊕ (Int32 × Int32 × Int32 × ai_I)) :=
  m_128_j181 a0 a1 a3 Rf G v7_12 v8_23 v9_43 r_87 y4_157 y5_157 I_157 (nI 0)
def m_128_j157 (a0 : Nat) (a1 : Int32) (a2 : Nat) (a3 : Nat) (Rf : ai_R) (G : ai_G) (v7_12 : Int32) (v8_23 : Int32) (v6_43 : Int32) (v9_43 : Int32) (r_87 : Int32) (y4_157 : Int32) (y5_157 : Int32) (I_157 : ai_I) : Option ((Int32 × Int32 × Int32 × Int32 × ai_I) ⊕ (Int32 × Int32 × Int32 × ai_I)) :=
  if v6_43 = 0 then (m_128_j180 a0 a1 a3 Rf G v7_12 v8_23 v9_43 r_87 y4_157 y5_157 I_157) else (o_b1 (m_127 a2 v7_12 v8_23 v9_43 (nI 1) I_157 G) (fun r_170 => if r_170 < 0 then (m_128_j180 a0 a1 a3 Rf G v7_12 v8_23 v9_43 r_87 y4_157 y5_157 I_157) else (m_128_j181 a0 a1 a3 Rf G v7_12 v8_23 v9_43 r_87 y4_157 y5_157 I_157 (nI 1))))
def m_128_j152 (a0 : Nat) (a1 : Int32) (a2 : Nat) (a3 : Nat) (Rf : ai_R) (G : ai_G) (v7_12 : Int32) (v8_23 : Int32) (v5_43 : Int32) (v6_43 : Int32) (v9_43 : Int32) (r_87 : Int32) (t0_152 : Int32) (I_152 : ai_I) : Option ((Int32 × Int32 × Int32 × Int32 × ai_I) ⊕ (Int32 × Int32 × Int32 × ai_I)) :=
  o_b1 (some (v5_43 + (nI 1))) (fun x5_154 => m_128_j157 a0 a1 a2 a3 Rf G v7_12 v8_23 v6_43 v9_43 r_87 t0_152 x5_154 I_152)
def m_128_j151 (a0 : Nat) (a1 : Int32) (a2 : Nat) (a3 : Nat) (Rf : ai_R) (G : ai_G) (v7_12 : Int32) (v8_23 : Int32) (v5_43 : Int32) (v6_43 : Int32) (v9_43 : Int32) (r_87 : Int32) (I_151 : ai_I) : Option ((Int32 × Int32 × Int32 × Int32 × ai_I) ⊕ (Int32 × Int32 × Int32 × ai_I)) :=
  m_128_j152 a0 a1 a2 a3 Rf G v7_12 v8_23 v5_43 v6_43 v9_43 r_87 (nI 0) I_151
def m_128_j147 (a0 : Nat) (a1 : Int32) (a2 : Nat) (a3 : Nat) (Rf : ai_R) (G : ai_G) (v7_12 : Int32) (v8_23 : Int32) (v5_43 : Int32) (v6_43 : Int32) (v9_43 : Int32) (r_87 : Int32) (I_147 : ai_I) : Option ((Int32 × Int32 × Int32 × Int32 × ai_I) ⊕ (Int32 × Int32 × Int32 × ai_I)) :=
  m_128_j152 a0 a1 a2 a3 Rf G v7_12 v8_23 v5_43 v6_43 v9_43 r_87 (nI 1) I_147
def m_128_b43 (a0 : Nat) (a1 : Int32) (a2 : Nat) (a3 : Nat) (Rf : ai_R) (G : ai_G) (v7_12 : Int32) (v8_23 : Int32) (v4_43 : Int32) (v5_43 : Int32) (v6_43 : Int32) (v9_43 : Int32) (I_43 : ai_I) : Option ((Int32 × Int32 × Int32 × Int32 × ai_I) ⊕ (Int32 × Int32 × Int32 × ai_I)) :=
  if (nI 8) ≤ v9_43 then (some (Sum.inr (v4_43, v5_43, v6_43, I_43))) else (o_b1 (m_126 a2 v8_23 I_43 G) (fun r_53 => if r_53 = 0 then (some (Sum.inr (v4_43, v5_43, v6_43, I_43))) else (o_b1 (m_121 v7_12 v9_43) (fun r_63 => if r_63 = 0 then (o_b1 (some (v9_43 + (nI 1))) (fun x9_221 => some (Sum.inl (v4_43, v5_43, v6_43, x9_221, I_43)))) else (o_b1 (m_121 v8_23 v9_43) (fun r_73 => if r_73 = 0 then (o_b1 (m_127 a2 v7_12 v8_23 v9_43 (nI 0) I_43 G) (fun r_87 => if 0 ≤ r_87 then (m_128_j157 a0 a1 a2 a3 Rf G v7_12 v8_23 v6_43 v9_43 r_87 v4_43 v5_43 I_43) else (if v4_43 = 0 then (m_128_j151 a0 a1 a2 a3 Rf G v7_12 v8_23 v5_43 v6_43 v9_43 r_87 I_43) else (if (nI 3) < v5_43 then (m_128_j147 a0 a1 a2 a3 Rf G v7_12 v8_23 v5_43 v6_43 v9_43 r_87 I_43) else (o_g (o_kd G a0 10) (o_b2 (m_103 a0 a1 v5_43 (nI 0) I_43 Rf G) (fun r_113 I_113 => if r_113 = v7_12 then (o_b2 (m_103 a0 a1 v5_43 (nI 1) I_113 Rf G) (fun r_126 I_126 => if r_126 = v8_23 then (o_b2 (m_103 a0 a1 v5_43 (nI 2) I_126 Rf G) (fun r_139 I_139 => if r_139 = v9_43 then (m_128_j147 a0 a1 a2 a3 Rf G v7_12 v8_23 v5_43 v6_43 v9_43 r_87 I_139) else (m_128_j151 a0 a1 a2 a3 Rf G v7_12 v8_23 v5_43 v6_43 v9_43 r_87 I_139))) else (m_128_j151 a0 a1 a2 a3 Rf G v7_12 v8_23 v5_43 v6_43 v9_43 r_87 I_126))) else (m_128_j151 a0 a1 a2 a3 Rf G v7_12 v8_23 v5_43 v6_43 v9_43 r_87 I_113)))))))) else (o_b1 (some (v9_43 + (nI 1))) (fun x9_221 => some (Sum.inl (v4_43, v5_43, v6_43, x9_221, I_43))))))))))
def m_128_b23 (a0 : Nat) (a1 : Int32) (a2 : Nat) (a3 : Nat) (Rf : ai_R) (G : ai_G) (v7_12 : Int32) (v4_23 : Int32) (v5_23 : Int32) (v6_23 : Int32) (v8_23 : Int32) (I_23 : ai_I) : Option ((Int32 × Int32 × Int32 × Int32 × ai_I) ⊕ (Int32 × Int32 × Int32 × ai_I)) :=
  if (nI 256) ≤ v8_23 then (some (Sum.inr (v4_23, v5_23, v6_23, I_23))) else (o_b1 (m_126 a2 v7_12 I_23 G) (fun r_34 => if r_34 = 0 then (some (Sum.inr (v4_23, v5_23, v6_23, I_23))) else (o_s1 (lp (fun s => m_128_b43 a0 a1 a2 a3 Rf G v7_12 v8_23 s.1 s.2.1 s.2.2.1 s.2.2.2.1 s.2.2.2.2) o_N (v4_23, v5_23, v6_23, (nI 0), I_23)) (fun t => m_128_x43_227 v8_23 t.1 t.2.1 t.2.2.1 t.2.2.2))))
def m_128_b12 (a0 : Nat) (a1 : Int32) (a2 : Nat) (a3 : Nat) (Rf : ai_R) (G : ai_G) (v4_12 : Int32) (v5_12 : Int32) (v6_12 : Int32) (v7_12 : Int32) (I_12 : ai_I) : Option ((Int32 × Int32 × Int32 × Int32 × ai_I) ⊕ (Int32 × Int32 × Int32 × ai_I)) :=
  if (nI 256) ≤ v7_12 then (some (Sum.inr (v4_12, v5_12, v6_12, I_12))) else (o_s1 (lp (fun s => m_128_b23 a0 a1 a2 a3 Rf G v7_12 s.1 s.2.1 s.2.2.1 s.2.2.2.1 s.2.2.2.2) o_N (v4_12, v5_12, v6_12, (nI 0), I_12)) (fun t => m_128_x23_233 v7_12 t.1 t.2.1 t.2.2.1 t.2.2.2))
/-- PricedBasesLaw.faults(LPricedBases;I[I[I)Z -/
def m_128 (a0 : Nat) (a1 : Int32) (a2 : Nat) (a3 : Nat) (I : ai_I) (Rf : ai_R) (G : ai_G) : Option (Int32 × ai_I) :=
  o_s1 (lp (fun s => m_128_b12 a0 a1 a2 a3 Rf G s.1 s.2.1 s.2.2.1 s.2.2.2.1 s.2.2.2.2) o_N ((nI 1), (nI 0), (nI 1), (nI 0), I)) (fun t => m_128_x12_239 a0 a1 Rf G t.1 t.2.1 t.2.2.1 t.2.2.2)
set_option maxHeartbeats 20000000 in
set_option maxRecDepth 100000 in
theorem md_128 {d : Nat} {I : ai_I} {J : ai_J} {Rf : ai_R} {G : ai_G} {a0 : Nat} {a1 : Int32} {a2 : Nat} {a3 : Nat} {r : Int32} {I1 : ai_I} (hd : 6 ≤ d) (h : m_128 a0 a1 a2 a3 I Rf G = some (r, I1)) : ai_Cl si_t si_ms d 128 [.inr (.inr a0), .inl a1, .inr (.inr a2), .inr (.inr a3)] I J Rf G (some (.inl r)) I1 J Rf G := by
  obtain ⟨e, rfl⟩ : ∃ e, d = e + 1 := ⟨d - 1, by omega⟩
  unfold m_128 at h
  refine sp_in (lo := [some (.inr (.inr a0)), some (.inl a1), some (.inr (.inr a2)), some (.inr (.inr a3)), none, none, none, none, none, none, none]) (B := (0, 0)) rfl (Nat.le_of_ble_eq_true rfl) rfl rfl ?_
  refine go_iconst (pc' := 1) (v := (nI 1)) rfl rfl rfl ?_
  refine go_istore (pc' := 3) (lo' := [some (.inr (.inr a0)), some (.inl a1), some (.inr (.inr a2)), some (.inr (.inr a3)), some (.inl (nI 1)), none, none, none, none, none, none]) rfl rfl rfl ?_
  refine go_iconst (pc' := 4) (v := (nI 0)) rfl rfl rfl ?_
  refine go_istore (pc' := 6) (lo' := [some (.inr (.inr a0)), some (.inl a1), some (.inr (.inr a2)), some (.inr (.inr a3)), some (.inl (nI 1)), some (.inl (nI 0)), none, none, none, none, none]) rfl rfl rfl ?_
  refine go_iconst (pc' := 7) (v := (nI 1)) rfl rfl rfl ?_
  refine go_istore (pc' := 9) (lo' := [some (.inr (.inr a0)), some (.inl a1), some (.inr (.inr a2)), some (.inr (.inr a3)), some (.inl (nI 1)), some (.inl (nI 0)), some (.inl (nI 1)), none, none, none, none]) rfl rfl rfl ?_
  refine go_iconst (pc' := 10) (v := (nI 0)) rfl rfl rfl ?_
  refine go_istore (pc' := 12) (lo' := [some (.inr (.inr a0)), some (.inl a1), some (.inr (.inr a2)), some (.inr (.inr a3)), some (.inl (nI 1)), some (.inl (nI 0)), some (.inl (nI 1)), some (.inl (nI 0)), none, none, none]) rfl rfl rfl ?_
  obtain ⟨q12, hl12, hc12_239⟩ := o_s1E h
  have ex12_239 : ∀ (w4_239 : Int32) (w5_239 : Int32) (w6_239 : Int32) (Ix_239 : ai_I) (z7_x239 : Option ai_V) (h_z7_x239 : ai_isL z7_x239 = false) (z8_x239 : Option ai_V) (h_z8_x239 : ai_isL z8_x239 = false) (z9_x239 : Option ai_V) (h_z9_x239 : ai_isL z9_x239 = false) (z10_x239 : Option ai_V) (h_z10_x239 : ai_isL z10_x239 = false), (w4_239, w5_239, w6_239, Ix_239) = q12 → ai_Go si_t (23, false, 3, cd_128) (ai_Cl si_t si_ms e) (sp_Q (some (.inl r)) I1 J Rf G) 239 [some (.inr (.inr a0)), some (.inl a1), some (.inr (.inr a2)), some (.inr (.inr a3)), some (.inl w4_239), some (.inl w5_239), some (.inl w6_239), z7_x239, z8_x239, z9_x239, z10_x239] [] (0, 0) Ix_239 J Rf G := by
    intro w4_239 w5_239 w6_239 Ix_239 z7_x239 h_z7_x239 z8_x239 h_z8_x239 z9_x239 h_z9_x239 z10_x239 h_z10_x239 hq
    have h : m_128_x12_239 a0 a1 Rf G w4_239 w5_239 w6_239 Ix_239 = some (r, I1) := hc12_239 (w4_239, w5_239, w6_239, Ix_239) hq.symm
    unfold m_128_x12_239 at h
    refine go_iload (pc' := 241) rfl rfl rfl ?_
    refine go_if_eq (pt := 313) (pc' := 244) rfl rfl rfl (fun h241 => ?_) (fun h241 => ?_)
    · replace h := o_t h241 h
      refine go_iconst (pc' := 314) (v := (nI 0)) rfl rfl rfl ?_
      cases h
      exact go_iret rfl (rfl) ⟨rfl, rfl, rfl, rfl, rfl⟩
    · replace h := o_f h241 h
      refine go_aload_n (pc' := 245) rfl rfl rfl ?_
      refine go_iload_n (pc' := 246) rfl rfl rfl ?_
      refine go_bipush (pc' := 248) (v := (nI 12)) rfl rfl rfl ?_
      obtain ⟨g0, h⟩ := o_gE h
      obtain ⟨r_248, I_248, q_248, h⟩ := o_b2E h
      refine go_callV (pc' := 251) (B' := (0, 0)) (st' := [.inl r_248]) rfl rfl (Or.inl (by decide)) rfl rfl (o_kdE g0) (md_100 (by omega) (o_kdE g0) q_248) rfl rfl rfl ?_
      refine go_iload (pc' := 253) rfl rfl rfl ?_
      refine go_icmp_ne (pt := 313) (pc' := 256) rfl rfl rfl (fun h253 => ?_) (fun h253 => ?_)
      · replace h := o_f h253 h
        refine go_iconst (pc' := 314) (v := (nI 0)) rfl rfl rfl ?_
        cases h
        exact go_iret rfl (rfl) ⟨rfl, rfl, rfl, rfl, rfl⟩
      · replace h := o_t (Decidable.of_not_not h253) h
        refine go_aload_n (pc' := 257) rfl rfl rfl ?_
        refine go_iload_n (pc' := 258) rfl rfl rfl ?_
        refine go_bipush (pc' := 260) (v := (nI 7)) rfl rfl rfl ?_
        obtain ⟨r_260, I_260, q_260, h⟩ := o_b2E h
        refine go_callV (pc' := 263) (B' := (0, 0)) (st' := [.inl r_260]) rfl rfl (Or.inl (by decide)) rfl rfl (o_kdE g0) (md_100 (by omega) (o_kdE g0) q_260) rfl rfl rfl ?_
        refine go_iload (pc' := 265) rfl rfl rfl ?_
        have jn273 : ∀ (t1_273 : Int32) (z7_273 : Option ai_V) (h_z7_273 : ai_isL z7_273 = false) (z8_273 : Option ai_V) (h_z8_273 : ai_isL z8_273 = false) (z9_273 : Option ai_V) (h_z9_273 : ai_isL z9_273 = false) (z10_273 : Option ai_V) (h_z10_273 : ai_isL z10_273 = false), m_128_j273 a0 a1 Rf G w5_239 w6_239 r_260 I_260 t1_273 = some (r, I1) → ai_Go si_t (23, false, 3, cd_128) (ai_Cl si_t si_ms e) (sp_Q (some (.inl r)) I1 J Rf G) 273 [some (.inr (.inr a0)), some (.inl a1), some (.inr (.inr a2)), some (.inr (.inr a3)), some (.inl w4_239), some (.inl w5_239), some (.inl w6_239), z7_273, z8_273, z9_273, z10_273] [.inl t1_273, .inl r_260] (0, 0) I_260 J Rf G := by
          intro t1_273 z7_273 h_z7_273 z8_273 h_z8_273 z9_273 h_z9_273 z10_273 h_z10_273 h
          unfold m_128_j273 at h
          refine go_icmp_ne (pt := 313) (pc' := 276) rfl rfl rfl (fun h273 => ?_) (fun h273 => ?_)
          · replace h := o_f h273 h
            refine go_iconst (pc' := 314) (v := (nI 0)) rfl rfl rfl ?_
            cases h
            exact go_iret rfl (rfl) ⟨rfl, rfl, rfl, rfl, rfl⟩
          · replace h := o_t (Decidable.of_not_not h273) h
            refine go_aload_n (pc' := 277) rfl rfl rfl ?_
            refine go_iload_n (pc' := 278) rfl rfl rfl ?_
            refine go_bipush (pc' := 280) (v := (nI 8)) rfl rfl rfl ?_
            obtain ⟨r_280, I_280, q_280, h⟩ := o_b2E h
            refine go_callV (pc' := 283) (B' := (0, 0)) (st' := [.inl r_280]) rfl rfl (Or.inl (by decide)) rfl rfl (o_kdE g0) (md_100 (by omega) (o_kdE g0) q_280) rfl rfl rfl ?_
            refine go_iload (pc' := 285) rfl rfl rfl ?_
            have jn293 : ∀ (t1_293 : Int32) (z7_293 : Option ai_V) (h_z7_293 : ai_isL z7_293 = false) (z8_293 : Option ai_V) (h_z8_293 : ai_isL z8_293 = false) (z9_293 : Option ai_V) (h_z9_293 : ai_isL z9_293 = false) (z10_293 : Option ai_V) (h_z10_293 : ai_isL z10_293 = false), m_128_j293 a0 a1 Rf G w5_239 r_280 I_280 t1_293 = some (r, I1) → ai_Go si_t (23, false, 3, cd_128) (ai_Cl si_t si_ms e) (sp_Q (some (.inl r)) I1 J Rf G) 293 [some (.inr (.inr a0)), some (.inl a1), some (.inr (.inr a2)), some (.inr (.inr a3)), some (.inl w4_239), some (.inl w5_239), some (.inl w6_239), z7_293, z8_293, z9_293, z10_293] [.inl t1_293, .inl r_280] (0, 0) I_280 J Rf G := by
              intro t1_293 z7_293 h_z7_293 z8_293 h_z8_293 z9_293 h_z9_293 z10_293 h_z10_293 h
              unfold m_128_j293 at h
              refine go_icmp_ne (pt := 313) (pc' := 296) rfl rfl rfl (fun h293 => ?_) (fun h293 => ?_)
              · replace h := o_f h293 h
                refine go_iconst (pc' := 314) (v := (nI 0)) rfl rfl rfl ?_
                cases h
                exact go_iret rfl (rfl) ⟨rfl, rfl, rfl, rfl, rfl⟩
              · replace h := o_t (Decidable.of_not_not h293) h
                refine go_aload_n (pc' := 297) rfl rfl rfl ?_
                refine go_iload_n (pc' := 298) rfl rfl rfl ?_
                refine go_iload (pc' := 300) rfl rfl rfl ?_
                refine go_iconst (pc' := 301) (v := (nI 0)) rfl rfl rfl ?_
                obtain ⟨r_301, I_301, q_301, h⟩ := o_b2E h
                refine go_callV (pc' := 304) (B' := (0, 0)) (st' := [.inl r_301]) rfl rfl (Or.inl (by decide)) rfl rfl (o_kdE g0) (md_103 (by omega) (o_kdE g0) q_301) rfl rfl rfl ?_
                refine go_bipush (pc' := 306) (v := (-4 : Int32)) rfl rfl rfl ?_
                refine go_icmp_ne (pt := 313) (pc' := 309) rfl rfl rfl (fun h306 => ?_) (fun h306 => ?_)
                · replace h := o_f h306 h
                  refine go_iconst (pc' := 314) (v := (nI 0)) rfl rfl rfl ?_
                  cases h
                  exact go_iret rfl (rfl) ⟨rfl, rfl, rfl, rfl, rfl⟩
                · replace h := o_t (Decidable.of_not_not h306) h
                  refine go_iconst (pc' := 310) (v := (nI 1)) rfl rfl rfl ?_
                  refine go_goto (pc' := 314) rfl rfl ?_
                  cases h
                  exact go_iret rfl (rfl) ⟨rfl, rfl, rfl, rfl, rfl⟩
            refine go_if_eq (pt := 292) (pc' := 288) rfl rfl rfl (fun h285 => ?_) (fun h285 => ?_)
            · replace h := o_t h285 h
              refine go_iconst (pc' := 293) (v := (nI 0)) rfl rfl rfl ?_
              exact jn293 (nI 0) z7_273 h_z7_273 z8_273 h_z8_273 z9_273 h_z9_273 z10_273 h_z10_273 h
            · replace h := o_f h285 h
              refine go_iconst (pc' := 289) (v := (nI 1)) rfl rfl rfl ?_
              refine go_goto (pc' := 293) rfl rfl ?_
              exact jn293 (nI 1) z7_273 h_z7_273 z8_273 h_z8_273 z9_273 h_z9_273 z10_273 h_z10_273 h
        refine go_if_ne (pt := 272) (pc' := 268) rfl rfl rfl (fun h265 => ?_) (fun h265 => ?_)
        · replace h := o_f h265 h
          refine go_iconst (pc' := 273) (v := (nI 0)) rfl rfl rfl ?_
          exact jn273 (nI 0) z7_x239 h_z7_x239 z8_x239 h_z8_x239 z9_x239 h_z9_x239 z10_x239 h_z10_x239 h
        · replace h := o_t (Decidable.of_not_not h265) h
          refine go_iconst (pc' := 269) (v := (nI 1)) rfl rfl rfl ?_
          refine go_goto (pc' := 273) rfl rfl ?_
          exact jn273 (nI 1) z7_x239 h_z7_x239 z8_x239 h_z8_x239 z9_x239 h_z9_x239 z10_x239 h_z10_x239 h
  have lo12 : ∀ n s, lp (fun s => m_128_b12 a0 a1 a2 a3 Rf G s.1 s.2.1 s.2.2.1 s.2.2.2.1 s.2.2.2.2) n s = some q12 → (fun s => ∀ (z8_12 : Option ai_V) (h_z8_12 : ai_isL z8_12 = false) (z9_12 : Option ai_V) (h_z9_12 : ai_isL z9_12 = false) (z10_12 : Option ai_V) (h_z10_12 : ai_isL z10_12 = false), ai_Go si_t (23, false, 3, cd_128) (ai_Cl si_t si_ms e) (sp_Q (some (.inl r)) I1 J Rf G) 12 [some (.inr (.inr a0)), some (.inl a1), some (.inr (.inr a2)), some (.inr (.inr a3)), some (.inl s.1), some (.inl s.2.1), some (.inl s.2.2.1), some (.inl s.2.2.2.1), z8_12, z9_12, z10_12] [] (0, 0) s.2.2.2.2 J Rf G) s := lp_go (fun s x12 hx hk12 => by
    obtain ⟨v4_12, v5_12, v6_12, v7_12, I_12⟩ := s
    intro z8_12 h_z8_12 z9_12 h_z9_12 z10_12 h_z10_12
    have h : m_128_b12 a0 a1 a2 a3 Rf G v4_12 v5_12 v6_12 v7_12 I_12 = some x12 := hx
    clear hx
    show ai_Go si_t (23, false, 3, cd_128) (ai_Cl si_t si_ms e) (sp_Q (some (.inl r)) I1 J Rf G) 12 [some (.inr (.inr a0)), some (.inl a1), some (.inr (.inr a2)), some (.inr (.inr a3)), some (.inl v4_12), some (.inl v5_12), some (.inl v6_12), some (.inl v7_12), z8_12, z9_12, z10_12] [] (0, 0) I_12 J Rf G
    unfold m_128_b12 at h
    refine go_iload (pc' := 14) rfl rfl rfl ?_
    refine go_sipush (pc' := 17) (v := (nI 256)) rfl rfl rfl ?_
    refine go_icmp_ge (pt := 239) (pc' := 20) rfl rfl rfl (fun h17 => ?_) (fun h17 => ?_)
    · replace h := o_t h17 h
      exact ex12_239 _ _ _ _ (some (.inl v7_12)) rfl z8_12 h_z8_12 z9_12 h_z9_12 z10_12 h_z10_12 (lp_exitE h hk12)
    · replace h := o_f h17 h
      refine go_iconst (pc' := 21) (v := (nI 0)) rfl rfl rfl ?_
      refine go_istore (pc' := 23) (lo' := [some (.inr (.inr a0)), some (.inl a1), some (.inr (.inr a2)), some (.inr (.inr a3)), some (.inl v4_12), some (.inl v5_12), some (.inl v6_12), some (.inl v7_12), some (.inl (nI 0)), z9_12, z10_12]) rfl rfl rfl ?_
      obtain ⟨q23, hl23, hc23_233⟩ := o_s1E h
      have ex23_233 : ∀ (w4_233 : Int32) (w5_233 : Int32) (w6_233 : Int32) (Ix_233 : ai_I) (z8_x233 : Option ai_V) (h_z8_x233 : ai_isL z8_x233 = false) (z9_x233 : Option ai_V) (h_z9_x233 : ai_isL z9_x233 = false) (z10_x233 : Option ai_V) (h_z10_x233 : ai_isL z10_x233 = false), (w4_233, w5_233, w6_233, Ix_233) = q23 → ai_Go si_t (23, false, 3, cd_128) (ai_Cl si_t si_ms e) (sp_Q (some (.inl r)) I1 J Rf G) 233 [some (.inr (.inr a0)), some (.inl a1), some (.inr (.inr a2)), some (.inr (.inr a3)), some (.inl w4_233), some (.inl w5_233), some (.inl w6_233), some (.inl v7_12), z8_x233, z9_x233, z10_x233] [] (0, 0) Ix_233 J Rf G := by
        intro w4_233 w5_233 w6_233 Ix_233 z8_x233 h_z8_x233 z9_x233 h_z9_x233 z10_x233 h_z10_x233 hq
        have h : m_128_x23_233 v7_12 w4_233 w5_233 w6_233 Ix_233 = some x12 := hc23_233 (w4_233, w5_233, w6_233, Ix_233) hq.symm
        unfold m_128_x23_233 at h
        obtain ⟨x7_233, ex7_233, h⟩ := o_b1E h
        refine go_iincE (pc' := 236) rfl rfl (y := (nI 1)) rfl ex7_233 (lo' := [some (.inr (.inr a0)), some (.inl a1), some (.inr (.inr a2)), some (.inr (.inr a3)), some (.inl w4_233), some (.inl w5_233), some (.inl w6_233), some (.inl x7_233), z8_x233, z9_x233, z10_x233]) rfl rfl ?_
        refine go_goto (pc' := 12) rfl rfl ?_
        exact (lp_backE h hk12 z8_x233 h_z8_x233 z9_x233 h_z9_x233 z10_x233 h_z10_x233 :)
      have lo23 : ∀ n s, lp (fun s => m_128_b23 a0 a1 a2 a3 Rf G v7_12 s.1 s.2.1 s.2.2.1 s.2.2.2.1 s.2.2.2.2) n s = some q23 → (fun s => ∀ (z9_23 : Option ai_V) (h_z9_23 : ai_isL z9_23 = false) (z10_23 : Option ai_V) (h_z10_23 : ai_isL z10_23 = false), ai_Go si_t (23, false, 3, cd_128) (ai_Cl si_t si_ms e) (sp_Q (some (.inl r)) I1 J Rf G) 23 [some (.inr (.inr a0)), some (.inl a1), some (.inr (.inr a2)), some (.inr (.inr a3)), some (.inl s.1), some (.inl s.2.1), some (.inl s.2.2.1), some (.inl v7_12), some (.inl s.2.2.2.1), z9_23, z10_23] [] (0, 0) s.2.2.2.2 J Rf G) s := lp_go (fun s x23 hx hk23 => by
        obtain ⟨v4_23, v5_23, v6_23, v8_23, I_23⟩ := s
        intro z9_23 h_z9_23 z10_23 h_z10_23
        have h : m_128_b23 a0 a1 a2 a3 Rf G v7_12 v4_23 v5_23 v6_23 v8_23 I_23 = some x23 := hx
        clear hx
        show ai_Go si_t (23, false, 3, cd_128) (ai_Cl si_t si_ms e) (sp_Q (some (.inl r)) I1 J Rf G) 23 [some (.inr (.inr a0)), some (.inl a1), some (.inr (.inr a2)), some (.inr (.inr a3)), some (.inl v4_23), some (.inl v5_23), some (.inl v6_23), some (.inl v7_12), some (.inl v8_23), z9_23, z10_23] [] (0, 0) I_23 J Rf G
        unfold m_128_b23 at h
        refine go_iload (pc' := 25) rfl rfl rfl ?_
        refine go_sipush (pc' := 28) (v := (nI 256)) rfl rfl rfl ?_
        refine go_icmp_ge (pt := 233) (pc' := 31) rfl rfl rfl (fun h28 => ?_) (fun h28 => ?_)
        · replace h := o_t h28 h
          exact ex23_233 _ _ _ _ (some (.inl v8_23)) rfl z9_23 h_z9_23 z10_23 h_z10_23 (lp_exitE h hk23)
        · replace h := o_f h28 h
          refine go_aload_n (pc' := 32) rfl rfl rfl ?_
          refine go_iload (pc' := 34) rfl rfl rfl ?_
          obtain ⟨r_34, q_34, h⟩ := o_b1E h
          refine go_callS (pc' := 37) (B' := (0, 0)) (st' := [.inl r_34]) rfl rfl (Or.inl (by decide)) rfl rfl trivial (md_126 (by omega) q_34) rfl rfl rfl ?_
          refine go_if_eq (pt := 233) (pc' := 40) rfl rfl rfl (fun h37 => ?_) (fun h37 => ?_)
          · replace h := o_t h37 h
            exact ex23_233 _ _ _ _ (some (.inl v8_23)) rfl z9_23 h_z9_23 z10_23 h_z10_23 (lp_exitE h hk23)
          · replace h := o_f h37 h
            refine go_iconst (pc' := 41) (v := (nI 0)) rfl rfl rfl ?_
            refine go_istore (pc' := 43) (lo' := [some (.inr (.inr a0)), some (.inl a1), some (.inr (.inr a2)), some (.inr (.inr a3)), some (.inl v4_23), some (.inl v5_23), some (.inl v6_23), some (.inl v7_12), some (.inl v8_23), some (.inl (nI 0)), z10_23]) rfl rfl rfl ?_
            obtain ⟨q43, hl43, hc43_227⟩ := o_s1E h
            have ex43_227 : ∀ (w4_227 : Int32) (w5_227 : Int32) (w6_227 : Int32) (Ix_227 : ai_I) (z9_x227 : Option ai_V) (h_z9_x227 : ai_isL z9_x227 = false) (z10_x227 : Option ai_V) (h_z10_x227 : ai_isL z10_x227 = false), (w4_227, w5_227, w6_227, Ix_227) = q43 → ai_Go si_t (23, false, 3, cd_128) (ai_Cl si_t si_ms e) (sp_Q (some (.inl r)) I1 J Rf G) 227 [some (.inr (.inr a0)), some (.inl a1), some (.inr (.inr a2)), some (.inr (.inr a3)), some (.inl w4_227), some (.inl w5_227), some (.inl w6_227), some (.inl v7_12), some (.inl v8_23), z9_x227, z10_x227] [] (0, 0) Ix_227 J Rf G := by
              intro w4_227 w5_227 w6_227 Ix_227 z9_x227 h_z9_x227 z10_x227 h_z10_x227 hq
              have h : m_128_x43_227 v8_23 w4_227 w5_227 w6_227 Ix_227 = some x23 := hc43_227 (w4_227, w5_227, w6_227, Ix_227) hq.symm
              unfold m_128_x43_227 at h
              obtain ⟨x8_227, ex8_227, h⟩ := o_b1E h
              refine go_iincE (pc' := 230) rfl rfl (y := (nI 1)) rfl ex8_227 (lo' := [some (.inr (.inr a0)), some (.inl a1), some (.inr (.inr a2)), some (.inr (.inr a3)), some (.inl w4_227), some (.inl w5_227), some (.inl w6_227), some (.inl v7_12), some (.inl x8_227), z9_x227, z10_x227]) rfl rfl ?_
              refine go_goto (pc' := 23) rfl rfl ?_
              exact (lp_backE h hk23 z9_x227 h_z9_x227 z10_x227 h_z10_x227 :)
            have lo43 : ∀ n s, lp (fun s => m_128_b43 a0 a1 a2 a3 Rf G v7_12 v8_23 s.1 s.2.1 s.2.2.1 s.2.2.2.1 s.2.2.2.2) n s = some q43 → (fun s => ∀ (z10_43 : Option ai_V) (h_z10_43 : ai_isL z10_43 = false), ai_Go si_t (23, false, 3, cd_128) (ai_Cl si_t si_ms e) (sp_Q (some (.inl r)) I1 J Rf G) 43 [some (.inr (.inr a0)), some (.inl a1), some (.inr (.inr a2)), some (.inr (.inr a3)), some (.inl s.1), some (.inl s.2.1), some (.inl s.2.2.1), some (.inl v7_12), some (.inl v8_23), some (.inl s.2.2.2.1), z10_43] [] (0, 0) s.2.2.2.2 J Rf G) s := lp_go (fun s x43 hx hk43 => by
              obtain ⟨v4_43, v5_43, v6_43, v9_43, I_43⟩ := s
              intro z10_43 h_z10_43
              have h : m_128_b43 a0 a1 a2 a3 Rf G v7_12 v8_23 v4_43 v5_43 v6_43 v9_43 I_43 = some x43 := hx
              clear hx
              show ai_Go si_t (23, false, 3, cd_128) (ai_Cl si_t si_ms e) (sp_Q (some (.inl r)) I1 J Rf G) 43 [some (.inr (.inr a0)), some (.inl a1), some (.inr (.inr a2)), some (.inr (.inr a3)), some (.inl v4_43), some (.inl v5_43), some (.inl v6_43), some (.inl v7_12), some (.inl v8_23), some (.inl v9_43), z10_43] [] (0, 0) I_43 J Rf G
              unfold m_128_b43 at h
              refine go_iload (pc' := 45) rfl rfl rfl ?_
              refine go_bipush (pc' := 47) (v := (nI 8)) rfl rfl rfl ?_
              refine go_icmp_ge (pt := 227) (pc' := 50) rfl rfl rfl (fun h47 => ?_) (fun h47 => ?_)
              · replace h := o_t h47 h
                exact ex43_227 _ _ _ _ (some (.inl v9_43)) rfl z10_43 h_z10_43 (lp_exitE h hk43)
              · replace h := o_f h47 h
                refine go_aload_n (pc' := 51) rfl rfl rfl ?_
                refine go_iload (pc' := 53) rfl rfl rfl ?_
                obtain ⟨r_53, q_53, h⟩ := o_b1E h
                refine go_callS (pc' := 56) (B' := (0, 0)) (st' := [.inl r_53]) rfl rfl (Or.inl (by decide)) rfl rfl trivial (md_126 (by omega) q_53) rfl rfl rfl ?_
                refine go_if_eq (pt := 227) (pc' := 59) rfl rfl rfl (fun h56 => ?_) (fun h56 => ?_)
                · replace h := o_t h56 h
                  exact ex43_227 _ _ _ _ (some (.inl v9_43)) rfl z10_43 h_z10_43 (lp_exitE h hk43)
                · replace h := o_f h56 h
                  refine go_iload (pc' := 61) rfl rfl rfl ?_
                  refine go_iload (pc' := 63) rfl rfl rfl ?_
                  obtain ⟨r_63, q_63, h⟩ := o_b1E h
                  refine go_callS (pc' := 66) (B' := (0, 0)) (st' := [.inl r_63]) rfl rfl (Or.inl (by decide)) rfl rfl trivial (md_121 (by omega) q_63) rfl rfl rfl ?_
                  refine go_if_eq (pt := 221) (pc' := 69) rfl rfl rfl (fun h66 => ?_) (fun h66 => ?_)
                  · replace h := o_t h66 h
                    obtain ⟨x9_221, ex9_221, h⟩ := o_b1E h
                    refine go_iincE (pc' := 224) rfl rfl (y := (nI 1)) rfl ex9_221 (lo' := [some (.inr (.inr a0)), some (.inl a1), some (.inr (.inr a2)), some (.inr (.inr a3)), some (.inl v4_43), some (.inl v5_43), some (.inl v6_43), some (.inl v7_12), some (.inl v8_23), some (.inl x9_221), z10_43]) rfl rfl ?_
                    refine go_goto (pc' := 43) rfl rfl ?_
                    exact (lp_backE h hk43 z10_43 h_z10_43 :)
                  · replace h := o_f h66 h
                    refine go_iload (pc' := 71) rfl rfl rfl ?_
                    refine go_iload (pc' := 73) rfl rfl rfl ?_
                    obtain ⟨r_73, q_73, h⟩ := o_b1E h
                    refine go_callS (pc' := 76) (B' := (0, 0)) (st' := [.inl r_73]) rfl rfl (Or.inl (by decide)) rfl rfl trivial (md_121 (by omega) q_73) rfl rfl rfl ?_
                    refine go_if_ne (pt := 221) (pc' := 79) rfl rfl rfl (fun h76 => ?_) (fun h76 => ?_)
                    · replace h := o_f h76 h
                      obtain ⟨x9_221, ex9_221, h⟩ := o_b1E h
                      refine go_iincE (pc' := 224) rfl rfl (y := (nI 1)) rfl ex9_221 (lo' := [some (.inr (.inr a0)), some (.inl a1), some (.inr (.inr a2)), some (.inr (.inr a3)), some (.inl v4_43), some (.inl v5_43), some (.inl v6_43), some (.inl v7_12), some (.inl v8_23), some (.inl x9_221), z10_43]) rfl rfl ?_
                      refine go_goto (pc' := 43) rfl rfl ?_
                      exact (lp_backE h hk43 z10_43 h_z10_43 :)
                    · replace h := o_t (Decidable.of_not_not h76) h
                      refine go_aload_n (pc' := 80) rfl rfl rfl ?_
                      refine go_iload (pc' := 82) rfl rfl rfl ?_
                      refine go_iload (pc' := 84) rfl rfl rfl ?_
                      refine go_iload (pc' := 86) rfl rfl rfl ?_
                      refine go_iconst (pc' := 87) (v := (nI 0)) rfl rfl rfl ?_
                      obtain ⟨r_87, q_87, h⟩ := o_b1E h
                      refine go_callS (pc' := 90) (B' := (0, 0)) (st' := [.inl r_87]) rfl rfl (Or.inl (by decide)) rfl rfl trivial (md_127 (by omega) q_87) rfl rfl rfl ?_
                      refine go_istore (pc' := 92) (lo' := [some (.inr (.inr a0)), some (.inl a1), some (.inr (.inr a2)), some (.inr (.inr a3)), some (.inl v4_43), some (.inl v5_43), some (.inl v6_43), some (.inl v7_12), some (.inl v8_23), some (.inl v9_43), some (.inl r_87)]) rfl rfl rfl ?_
                      refine go_iload (pc' := 94) rfl rfl rfl ?_
                      have jn157 : ∀ (y4_157 : Int32) (y5_157 : Int32) (I_157 : ai_I), m_128_j157 a0 a1 a2 a3 Rf G v7_12 v8_23 v6_43 v9_43 r_87 y4_157 y5_157 I_157 = some x43 → ai_Go si_t (23, false, 3, cd_128) (ai_Cl si_t si_ms e) (sp_Q (some (.inl r)) I1 J Rf G) 157 [some (.inr (.inr a0)), some (.inl a1), some (.inr (.inr a2)), some (.inr (.inr a3)), some (.inl y4_157), some (.inl y5_157), some (.inl v6_43), some (.inl v7_12), some (.inl v8_23), some (.inl v9_43), some (.inl r_87)] [] (0, 0) I_157 J Rf G := by
                        intro y4_157 y5_157 I_157 h
                        unfold m_128_j157 at h
                        refine go_iload (pc' := 159) rfl rfl rfl ?_
                        have jn181 : ∀ (t0_181 : Int32), m_128_j181 a0 a1 a3 Rf G v7_12 v8_23 v9_43 r_87 y4_157 y5_157 I_157 t0_181 = some x43 → ai_Go si_t (23, false, 3, cd_128) (ai_Cl si_t si_ms e) (sp_Q (some (.inl r)) I1 J Rf G) 181 [some (.inr (.inr a0)), some (.inl a1), some (.inr (.inr a2)), some (.inr (.inr a3)), some (.inl y4_157), some (.inl y5_157), some (.inl v6_43), some (.inl v7_12), some (.inl v8_23), some (.inl v9_43), some (.inl r_87)] [.inl t0_181] (0, 0) I_157 J Rf G := by
                          intro t0_181 h
                          unfold m_128_j181 at h
                          refine go_istore (pc' := 183) (lo' := [some (.inr (.inr a0)), some (.inl a1), some (.inr (.inr a2)), some (.inr (.inr a3)), some (.inl y4_157), some (.inl y5_157), some (.inl t0_181), some (.inl v7_12), some (.inl v8_23), some (.inl v9_43), some (.inl r_87)]) rfl rfl rfl ?_
                          refine go_iload (pc' := 185) rfl rfl rfl ?_
                          refine go_if_eq (pt := 218) (pc' := 188) rfl rfl rfl (fun h185 => ?_) (fun h185 => ?_)
                          · replace h := o_t h185 h
                            refine go_iconst (pc' := 219) (v := (nI 0)) rfl rfl rfl ?_
                            refine go_istore (pc' := 221) (lo' := [some (.inr (.inr a0)), some (.inl a1), some (.inr (.inr a2)), some (.inr (.inr a3)), some (.inl (nI 0)), some (.inl y5_157), some (.inl t0_181), some (.inl v7_12), some (.inl v8_23), some (.inl v9_43), some (.inl r_87)]) rfl rfl rfl ?_
                            obtain ⟨x9_221, ex9_221, h⟩ := o_b1E h
                            refine go_iincE (pc' := 224) rfl rfl (y := (nI 1)) rfl ex9_221 (lo' := [some (.inr (.inr a0)), some (.inl a1), some (.inr (.inr a2)), some (.inr (.inr a3)), some (.inl (nI 0)), some (.inl y5_157), some (.inl t0_181), some (.inl v7_12), some (.inl v8_23), some (.inl x9_221), some (.inl r_87)]) rfl rfl ?_
                            refine go_goto (pc' := 43) rfl rfl ?_
                            exact (lp_backE h hk43 (some (.inl r_87)) rfl :)
                          · replace h := o_f h185 h
                            refine go_aload_n (pc' := 189) rfl rfl rfl ?_
                            obtain ⟨r_189, I_189, q_189, h⟩ := o_b2E h
                            refine go_callS (pc' := 192) (B' := (0, 0)) (st' := [.inl r_189]) rfl rfl (Or.inl (by decide)) rfl rfl trivial (md_118 (by omega) q_189) rfl rfl rfl ?_
                            refine go_bipush (pc' := 194) (v := (nI 17)) rfl rfl rfl ?_
                            refine go_irem (pc' := 195) rfl (by decide) rfl ?_
                            refine go_if_gt (pt := 214) (pc' := 198) rfl rfl rfl (fun h195 => ?_) (fun h195 => ?_)
                            · replace h := o_t h195 h
                              refine go_iconst (pc' := 215) (v := (nI 1)) rfl rfl rfl ?_
                              refine go_goto (pc' := 219) rfl rfl ?_
                              refine go_istore (pc' := 221) (lo' := [some (.inr (.inr a0)), some (.inl a1), some (.inr (.inr a2)), some (.inr (.inr a3)), some (.inl (nI 1)), some (.inl y5_157), some (.inl t0_181), some (.inl v7_12), some (.inl v8_23), some (.inl v9_43), some (.inl r_87)]) rfl rfl rfl ?_
                              obtain ⟨x9_221, ex9_221, h⟩ := o_b1E h
                              refine go_iincE (pc' := 224) rfl rfl (y := (nI 1)) rfl ex9_221 (lo' := [some (.inr (.inr a0)), some (.inl a1), some (.inr (.inr a2)), some (.inr (.inr a3)), some (.inl (nI 1)), some (.inl y5_157), some (.inl t0_181), some (.inl v7_12), some (.inl v8_23), some (.inl x9_221), some (.inl r_87)]) rfl rfl ?_
                              refine go_goto (pc' := 43) rfl rfl ?_
                              exact (lp_backE h hk43 (some (.inl r_87)) rfl :)
                            · replace h := o_f h195 h
                              refine go_aload_n (pc' := 199) rfl rfl rfl ?_
                              refine go_iload_n (pc' := 200) rfl rfl rfl ?_
                              refine go_iload (pc' := 202) rfl rfl rfl ?_
                              refine go_iload (pc' := 204) rfl rfl rfl ?_
                              refine go_iload (pc' := 206) rfl rfl rfl ?_
                              obtain ⟨g1, h⟩ := o_gE h
                              obtain ⟨r_206, q_206, h⟩ := o_b1E h
                              refine go_callV (pc' := 209) (B' := (0, 0)) (st' := [.inl r_206]) rfl rfl (Or.inl (by decide)) rfl rfl (o_kdE g1) (md_104 (by omega) (o_kdE g1) q_206) rfl rfl rfl ?_
                              refine go_iload (pc' := 211) rfl rfl rfl ?_
                              refine go_icmp_ne (pt := 218) (pc' := 214) rfl rfl rfl (fun h211 => ?_) (fun h211 => ?_)
                              · replace h := o_f h211 h
                                refine go_iconst (pc' := 219) (v := (nI 0)) rfl rfl rfl ?_
                                refine go_istore (pc' := 221) (lo' := [some (.inr (.inr a0)), some (.inl a1), some (.inr (.inr a2)), some (.inr (.inr a3)), some (.inl (nI 0)), some (.inl y5_157), some (.inl t0_181), some (.inl v7_12), some (.inl v8_23), some (.inl v9_43), some (.inl r_87)]) rfl rfl rfl ?_
                                obtain ⟨x9_221, ex9_221, h⟩ := o_b1E h
                                refine go_iincE (pc' := 224) rfl rfl (y := (nI 1)) rfl ex9_221 (lo' := [some (.inr (.inr a0)), some (.inl a1), some (.inr (.inr a2)), some (.inr (.inr a3)), some (.inl (nI 0)), some (.inl y5_157), some (.inl t0_181), some (.inl v7_12), some (.inl v8_23), some (.inl x9_221), some (.inl r_87)]) rfl rfl ?_
                                refine go_goto (pc' := 43) rfl rfl ?_
                                exact (lp_backE h hk43 (some (.inl r_87)) rfl :)
                              · replace h := o_t (Decidable.of_not_not h211) h
                                refine go_iconst (pc' := 215) (v := (nI 1)) rfl rfl rfl ?_
                                refine go_goto (pc' := 219) rfl rfl ?_
                                refine go_istore (pc' := 221) (lo' := [some (.inr (.inr a0)), some (.inl a1), some (.inr (.inr a2)), some (.inr (.inr a3)), some (.inl (nI 1)), some (.inl y5_157), some (.inl t0_181), some (.inl v7_12), some (.inl v8_23), some (.inl v9_43), some (.inl r_87)]) rfl rfl rfl ?_
                                obtain ⟨x9_221, ex9_221, h⟩ := o_b1E h
                                refine go_iincE (pc' := 224) rfl rfl (y := (nI 1)) rfl ex9_221 (lo' := [some (.inr (.inr a0)), some (.inl a1), some (.inr (.inr a2)), some (.inr (.inr a3)), some (.inl (nI 1)), some (.inl y5_157), some (.inl t0_181), some (.inl v7_12), some (.inl v8_23), some (.inl x9_221), some (.inl r_87)]) rfl rfl ?_
                                refine go_goto (pc' := 43) rfl rfl ?_
                                exact (lp_backE h hk43 (some (.inl r_87)) rfl :)
                        have jn180 : m_128_j180 a0 a1 a3 Rf G v7_12 v8_23 v9_43 r_87 y4_157 y5_157 I_157 = some x43 → ai_Go si_t (23, false, 3, cd_128) (ai_Cl si_t si_ms e) (sp_Q (some (.inl r)) I1 J Rf G) 180 [some (.inr (.inr a0)), some (.inl a1), some (.inr (.inr a2)), some (.inr (.inr a3)), some (.inl y4_157), some (.inl y5_157), some (.inl v6_43), some (.inl v7_12), some (.inl v8_23), some (.inl v9_43), some (.inl r_87)] [] (0, 0) I_157 J Rf G := by
                          intro h
                          unfold m_128_j180 at h
                          refine go_iconst (pc' := 181) (v := (nI 0)) rfl rfl rfl ?_
                          exact jn181 (nI 0) h
                        refine go_if_eq (pt := 180) (pc' := 162) rfl rfl rfl (fun h159 => ?_) (fun h159 => ?_)
                        · replace h := o_t h159 h
                          exact jn180  h
                        · replace h := o_f h159 h
                          refine go_aload_n (pc' := 163) rfl rfl rfl ?_
                          refine go_iload (pc' := 165) rfl rfl rfl ?_
                          refine go_iload (pc' := 167) rfl rfl rfl ?_
                          refine go_iload (pc' := 169) rfl rfl rfl ?_
                          refine go_iconst (pc' := 170) (v := (nI 1)) rfl rfl rfl ?_
                          obtain ⟨r_170, q_170, h⟩ := o_b1E h
                          refine go_callS (pc' := 173) (B' := (0, 0)) (st' := [.inl r_170]) rfl rfl (Or.inl (by decide)) rfl rfl trivial (md_127 (by omega) q_170) rfl rfl rfl ?_
                          refine go_if_lt (pt := 180) (pc' := 176) rfl rfl rfl (fun h173 => ?_) (fun h173 => ?_)
                          · replace h := o_t h173 h
                            exact jn180  h
                          · replace h := o_f h173 h
                            refine go_iconst (pc' := 177) (v := (nI 1)) rfl rfl rfl ?_
                            refine go_goto (pc' := 181) rfl rfl ?_
                            exact jn181 (nI 1) h
                      refine go_if_ge (pt := 157) (pc' := 97) rfl rfl rfl (fun h94 => ?_) (fun h94 => ?_)
                      · replace h := o_t h94 h
                        exact jn157 v4_43 v5_43 I_43 h
                      · replace h := o_f h94 h
                        refine go_iload (pc' := 99) rfl rfl rfl ?_
                        have jn152 : ∀ (t0_152 : Int32) (I_152 : ai_I), m_128_j152 a0 a1 a2 a3 Rf G v7_12 v8_23 v5_43 v6_43 v9_43 r_87 t0_152 I_152 = some x43 → ai_Go si_t (23, false, 3, cd_128) (ai_Cl si_t si_ms e) (sp_Q (some (.inl r)) I1 J Rf G) 152 [some (.inr (.inr a0)), some (.inl a1), some (.inr (.inr a2)), some (.inr (.inr a3)), some (.inl v4_43), some (.inl v5_43), some (.inl v6_43), some (.inl v7_12), some (.inl v8_23), some (.inl v9_43), some (.inl r_87)] [.inl t0_152] (0, 0) I_152 J Rf G := by
                          intro t0_152 I_152 h
                          unfold m_128_j152 at h
                          refine go_istore (pc' := 154) (lo' := [some (.inr (.inr a0)), some (.inl a1), some (.inr (.inr a2)), some (.inr (.inr a3)), some (.inl t0_152), some (.inl v5_43), some (.inl v6_43), some (.inl v7_12), some (.inl v8_23), some (.inl v9_43), some (.inl r_87)]) rfl rfl rfl ?_
                          obtain ⟨x5_154, ex5_154, h⟩ := o_b1E h
                          refine go_iincE (pc' := 157) rfl rfl (y := (nI 1)) rfl ex5_154 (lo' := [some (.inr (.inr a0)), some (.inl a1), some (.inr (.inr a2)), some (.inr (.inr a3)), some (.inl t0_152), some (.inl x5_154), some (.inl v6_43), some (.inl v7_12), some (.inl v8_23), some (.inl v9_43), some (.inl r_87)]) rfl rfl ?_
                          exact jn157 t0_152 x5_154 I_152 h
                        have jn151 : ∀ (I_151 : ai_I), m_128_j151 a0 a1 a2 a3 Rf G v7_12 v8_23 v5_43 v6_43 v9_43 r_87 I_151 = some x43 → ai_Go si_t (23, false, 3, cd_128) (ai_Cl si_t si_ms e) (sp_Q (some (.inl r)) I1 J Rf G) 151 [some (.inr (.inr a0)), some (.inl a1), some (.inr (.inr a2)), some (.inr (.inr a3)), some (.inl v4_43), some (.inl v5_43), some (.inl v6_43), some (.inl v7_12), some (.inl v8_23), some (.inl v9_43), some (.inl r_87)] [] (0, 0) I_151 J Rf G := by
                          intro I_151 h
                          unfold m_128_j151 at h
                          refine go_iconst (pc' := 152) (v := (nI 0)) rfl rfl rfl ?_
                          exact jn152 (nI 0) I_151 h
                        refine go_if_eq (pt := 151) (pc' := 102) rfl rfl rfl (fun h99 => ?_) (fun h99 => ?_)
                        · replace h := o_t h99 h
                          exact jn151 I_43 h
                        · replace h := o_f h99 h
                          refine go_iload (pc' := 104) rfl rfl rfl ?_
                          refine go_iconst (pc' := 105) (v := (nI 3)) rfl rfl rfl ?_
                          have jn147 : ∀ (I_147 : ai_I), m_128_j147 a0 a1 a2 a3 Rf G v7_12 v8_23 v5_43 v6_43 v9_43 r_87 I_147 = some x43 → ai_Go si_t (23, false, 3, cd_128) (ai_Cl si_t si_ms e) (sp_Q (some (.inl r)) I1 J Rf G) 147 [some (.inr (.inr a0)), some (.inl a1), some (.inr (.inr a2)), some (.inr (.inr a3)), some (.inl v4_43), some (.inl v5_43), some (.inl v6_43), some (.inl v7_12), some (.inl v8_23), some (.inl v9_43), some (.inl r_87)] [] (0, 0) I_147 J Rf G := by
                            intro I_147 h
                            unfold m_128_j147 at h
                            refine go_iconst (pc' := 148) (v := (nI 1)) rfl rfl rfl ?_
                            refine go_goto (pc' := 152) rfl rfl ?_
                            exact jn152 (nI 1) I_147 h
                          refine go_icmp_gt (pt := 147) (pc' := 108) rfl rfl rfl (fun h105 => ?_) (fun h105 => ?_)
                          · replace h := o_t h105 h
                            exact jn147 I_43 h
                          · replace h := o_f h105 h
                            refine go_aload_n (pc' := 109) rfl rfl rfl ?_
                            refine go_iload_n (pc' := 110) rfl rfl rfl ?_
                            refine go_iload (pc' := 112) rfl rfl rfl ?_
                            refine go_iconst (pc' := 113) (v := (nI 0)) rfl rfl rfl ?_
                            obtain ⟨g2, h⟩ := o_gE h
                            obtain ⟨r_113, I_113, q_113, h⟩ := o_b2E h
                            refine go_callV (pc' := 116) (B' := (0, 0)) (st' := [.inl r_113]) rfl rfl (Or.inl (by decide)) rfl rfl (o_kdE g2) (md_103 (by omega) (o_kdE g2) q_113) rfl rfl rfl ?_
                            refine go_iload (pc' := 118) rfl rfl rfl ?_
                            refine go_icmp_ne (pt := 151) (pc' := 121) rfl rfl rfl (fun h118 => ?_) (fun h118 => ?_)
                            · replace h := o_f h118 h
                              exact jn151 I_113 h
                            · replace h := o_t (Decidable.of_not_not h118) h
                              refine go_aload_n (pc' := 122) rfl rfl rfl ?_
                              refine go_iload_n (pc' := 123) rfl rfl rfl ?_
                              refine go_iload (pc' := 125) rfl rfl rfl ?_
                              refine go_iconst (pc' := 126) (v := (nI 1)) rfl rfl rfl ?_
                              obtain ⟨r_126, I_126, q_126, h⟩ := o_b2E h
                              refine go_callV (pc' := 129) (B' := (0, 0)) (st' := [.inl r_126]) rfl rfl (Or.inl (by decide)) rfl rfl (o_kdE g2) (md_103 (by omega) (o_kdE g2) q_126) rfl rfl rfl ?_
                              refine go_iload (pc' := 131) rfl rfl rfl ?_
                              refine go_icmp_ne (pt := 151) (pc' := 134) rfl rfl rfl (fun h131 => ?_) (fun h131 => ?_)
                              · replace h := o_f h131 h
                                exact jn151 I_126 h
                              · replace h := o_t (Decidable.of_not_not h131) h
                                refine go_aload_n (pc' := 135) rfl rfl rfl ?_
                                refine go_iload_n (pc' := 136) rfl rfl rfl ?_
                                refine go_iload (pc' := 138) rfl rfl rfl ?_
                                refine go_iconst (pc' := 139) (v := (nI 2)) rfl rfl rfl ?_
                                obtain ⟨r_139, I_139, q_139, h⟩ := o_b2E h
                                refine go_callV (pc' := 142) (B' := (0, 0)) (st' := [.inl r_139]) rfl rfl (Or.inl (by decide)) rfl rfl (o_kdE g2) (md_103 (by omega) (o_kdE g2) q_139) rfl rfl rfl ?_
                                refine go_iload (pc' := 144) rfl rfl rfl ?_
                                refine go_icmp_ne (pt := 151) (pc' := 147) rfl rfl rfl (fun h144 => ?_) (fun h144 => ?_)
                                · replace h := o_f h144 h
                                  exact jn151 I_139 h
                                · replace h := o_t (Decidable.of_not_not h144) h
                                  exact jn147 I_139 h)
            exact lo43 _ (v4_23, v5_23, v6_23, (nI 0), I_23) hl43 z10_23 h_z10_23)
      exact lo23 _ (v4_12, v5_12, v6_12, (nI 0), I_12) hl23 z9_12 h_z9_12 z10_12 h_z10_12)
  exact lo12 _ ((nI 1), (nI 0), (nI 1), (nI 0), I) hl12 none rfl none rfl none rfl
