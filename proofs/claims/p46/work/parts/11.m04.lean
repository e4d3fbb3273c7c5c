/-! Models of methods and their proofs, piece 4. Printed by wip/p46/pr10.py. -/
/-- PricedBases$Maker.isDerived(ILPricedBases$Valuation;ILPricedBases$State;)Z -/
def m_29 (th : Nat) (a0 : Int32) (a1 : Nat) (a2 : Int32) (a3 : Nat) (I : ai_I) (Rf : ai_R) (G : ai_G) : Option (Int32 × ai_I) :=
  if a0 = (5 : Int32) then (o_b2 (m_38 th a1 I Rf G) (fun r_54 I_54 => o_g (o_bz r_54) (some (r_54, I_54)))) else (if a0 = (6 : Int32) then (o_b2 (m_39 th a1 a2 (nI 0) I Rf G) (fun r_62 I_62 => o_g (o_bz r_62) (some (r_62, I_62)))) else (if a0 = (7 : Int32) then (o_b2 (m_39 th a1 a2 (nI 1) I Rf G) (fun r_70 I_70 => o_g (o_bz r_70) (some (r_70, I_70)))) else (if a0 = (8 : Int32) then (o_g (o_kd G a3 6) (o_b2 (m_40 th a1 (Rf a3 1) I Rf G) (fun r_81 I_81 => o_g (o_bz r_81) (some (r_81, I_81))))) else (if a0 = (9 : Int32) then (o_g (o_kd G a3 6) (o_b1 (m_65 a3 a2 Rf G) (fun r_90 => o_b2 (m_41 th a1 r_90 I Rf G) (fun r_93 I_93 => o_g (o_bz r_93) (some (r_93, I_93)))))) else (if a0 = (10 : Int32) then (o_b2 (m_42 th a1 I Rf G) (fun r_99 I_99 => o_g (o_bz r_99) (some (r_99, I_99)))) else (if a0 = (11 : Int32) then (o_g (o_kd G a3 6) (o_b2 (m_45 th a1 (Rf a3 1) I Rf G) (fun r_110 I_110 => o_g (o_bz r_110) (some (r_110, I_110))))) else (if a0 = (12 : Int32) then (o_b2 (m_43 th a1 I Rf G) (fun r_116 I_116 => o_g (o_bz r_116) (some (r_116, I_116)))) else (if a0 = (13 : Int32) then (o_g (o_kd G a3 6) (o_b1 (m_65 a3 a2 Rf G) (fun r_125 => o_b2 (m_46 th a1 r_125 I Rf G) (fun r_128 I_128 => o_g (o_bz r_128) (some (r_128, I_128)))))) else (some ((nI 0), I))))))))))
theorem md_29 {d : Nat} {I : ai_I} {J : ai_J} {Rf : ai_R} {G : ai_G} {th : Nat} {a0 : Int32} {a1 : Nat} {a2 : Int32} {a3 : Nat} {r : Int32} {I1 : ai_I} (hd : 5 ≤ d) (hth : G.1 th = 3) (h : m_29 th a0 a1 a2 a3 I Rf G = some (r, I1)) : ai_Cl si_t si_ms d 29 [.inr (.inr th), .inl a0, .inr (.inr a1), .inl a2, .inr (.inr a3)] I J Rf G (some (.inl r)) I1 J Rf G := by
  obtain ⟨e, rfl⟩ : ∃ e, d = e + 1 := ⟨d - 1, by omega⟩
  unfold m_29 at h
  refine sp_in (lo := [some (.inr (.inr th)), some (.inl a0), some (.inr (.inr a1)), some (.inl a2), some (.inr (.inr a3))]) (B := (0, 0)) rfl (Nat.le_of_ble_eq_true rfl) rfl rfl ?_
  refine go_iload_n (pc' := 1) rfl rfl rfl ?_
  by_cases c1_0 : a0 = (5 : Int32)
  · replace h := o_t c1_0 h
    refine go_swIn (pc' := 52) 0 rfl rfl (by rw [c1_0]; decide) (by rw [c1_0]; decide) rfl ?_
    refine go_aload_n (pc' := 53) rfl rfl rfl ?_
    refine go_aload_n (pc' := 54) rfl rfl rfl ?_
    obtain ⟨r_54, I_54, q_54, h⟩ := o_b2E h
    refine go_callV (pc' := 57) (B' := (0, 0)) (st' := [.inl r_54]) rfl rfl (Or.inl (by decide)) rfl rfl hth (md_38 (by omega) hth q_54) rfl rfl rfl ?_
    obtain ⟨g0, h⟩ := o_gE h
    cases h
    exact go_iret rfl (o_bzE g0) ⟨rfl, rfl, rfl, rfl, rfl⟩
  replace h := o_f c1_0 h
  by_cases c1_1 : a0 = (6 : Int32)
  · replace h := o_t c1_1 h
    refine go_swIn (pc' := 58) 1 rfl rfl (by rw [c1_1]; decide) (by rw [c1_1]; decide) rfl ?_
    refine go_aload_n (pc' := 59) rfl rfl rfl ?_
    refine go_aload_n (pc' := 60) rfl rfl rfl ?_
    refine go_iload_n (pc' := 61) rfl rfl rfl ?_
    refine go_iconst (pc' := 62) (v := (nI 0)) rfl rfl rfl ?_
    obtain ⟨r_62, I_62, q_62, h⟩ := o_b2E h
    refine go_callV (pc' := 65) (B' := (0, 0)) (st' := [.inl r_62]) rfl rfl (Or.inl (by decide)) rfl rfl hth (md_39 (by omega) hth q_62) rfl rfl rfl ?_
    obtain ⟨g1, h⟩ := o_gE h
    cases h
    exact go_iret rfl (o_bzE g1) ⟨rfl, rfl, rfl, rfl, rfl⟩
  replace h := o_f c1_1 h
  by_cases c1_2 : a0 = (7 : Int32)
  · replace h := o_t c1_2 h
    refine go_swIn (pc' := 66) 2 rfl rfl (by rw [c1_2]; decide) (by rw [c1_2]; decide) rfl ?_
    refine go_aload_n (pc' := 67) rfl rfl rfl ?_
    refine go_aload_n (pc' := 68) rfl rfl rfl ?_
    refine go_iload_n (pc' := 69) rfl rfl rfl ?_
    refine go_iconst (pc' := 70) (v := (nI 1)) rfl rfl rfl ?_
    obtain ⟨r_70, I_70, q_70, h⟩ := o_b2E h
    refine go_callV (pc' := 73) (B' := (0, 0)) (st' := [.inl r_70]) rfl rfl (Or.inl (by decide)) rfl rfl hth (md_39 (by omega) hth q_70) rfl rfl rfl ?_
    obtain ⟨g2, h⟩ := o_gE h
    cases h
    exact go_iret rfl (o_bzE g2) ⟨rfl, rfl, rfl, rfl, rfl⟩
  replace h := o_f c1_2 h
  by_cases c1_3 : a0 = (8 : Int32)
  · replace h := o_t c1_3 h
    refine go_swIn (pc' := 74) 3 rfl rfl (by rw [c1_3]; decide) (by rw [c1_3]; decide) rfl ?_
    refine go_aload_n (pc' := 75) rfl rfl rfl ?_
    refine go_aload_n (pc' := 76) rfl rfl rfl ?_
    refine go_aload (pc' := 78) rfl rfl rfl ?_
    obtain ⟨g3, h⟩ := o_gE h
    refine go_getR (pc' := 81) rfl rfl (o_kdE g3) rfl ?_
    obtain ⟨r_81, I_81, q_81, h⟩ := o_b2E h
    refine go_callV (pc' := 84) (B' := (0, 0)) (st' := [.inl r_81]) rfl rfl (Or.inl (by decide)) rfl rfl hth (md_40 (by omega) hth q_81) rfl rfl rfl ?_
    obtain ⟨g4, h⟩ := o_gE h
    cases h
    exact go_iret rfl (o_bzE g4) ⟨rfl, rfl, rfl, rfl, rfl⟩
  replace h := o_f c1_3 h
  by_cases c1_4 : a0 = (9 : Int32)
  · replace h := o_t c1_4 h
    refine go_swIn (pc' := 85) 4 rfl rfl (by rw [c1_4]; decide) (by rw [c1_4]; decide) rfl ?_
    refine go_aload_n (pc' := 86) rfl rfl rfl ?_
    refine go_aload_n (pc' := 87) rfl rfl rfl ?_
    refine go_aload (pc' := 89) rfl rfl rfl ?_
    refine go_iload_n (pc' := 90) rfl rfl rfl ?_
    obtain ⟨g5, h⟩ := o_gE h
    obtain ⟨r_90, q_90, h⟩ := o_b1E h
    refine go_callV (pc' := 93) (B' := (0, 0)) (st' := [.inr (.inr r_90), .inr (.inr a1), .inr (.inr th)]) rfl rfl (Or.inl (by decide)) rfl rfl (o_kdE g5) (md_65 (by omega) (o_kdE g5) q_90) rfl rfl rfl ?_
    obtain ⟨r_93, I_93, q_93, h⟩ := o_b2E h
    refine go_callV (pc' := 96) (B' := (0, 0)) (st' := [.inl r_93]) rfl rfl (Or.inl (by decide)) rfl rfl hth (md_41 (by omega) hth q_93) rfl rfl rfl ?_
    obtain ⟨g6, h⟩ := o_gE h
    cases h
    exact go_iret rfl (o_bzE g6) ⟨rfl, rfl, rfl, rfl, rfl⟩
  replace h := o_f c1_4 h
  by_cases c1_5 : a0 = (10 : Int32)
  · replace h := o_t c1_5 h
    refine go_swIn (pc' := 97) 5 rfl rfl (by rw [c1_5]; decide) (by rw [c1_5]; decide) rfl ?_
    refine go_aload_n (pc' := 98) rfl rfl rfl ?_
    refine go_aload_n (pc' := 99) rfl rfl rfl ?_
    obtain ⟨r_99, I_99, q_99, h⟩ := o_b2E h
    refine go_callV (pc' := 102) (B' := (0, 0)) (st' := [.inl r_99]) rfl rfl (Or.inl (by decide)) rfl rfl hth (md_42 (by omega) hth q_99) rfl rfl rfl ?_
    obtain ⟨g7, h⟩ := o_gE h
    cases h
    exact go_iret rfl (o_bzE g7) ⟨rfl, rfl, rfl, rfl, rfl⟩
  replace h := o_f c1_5 h
  by_cases c1_6 : a0 = (11 : Int32)
  · replace h := o_t c1_6 h
    refine go_swIn (pc' := 103) 6 rfl rfl (by rw [c1_6]; decide) (by rw [c1_6]; decide) rfl ?_
    refine go_aload_n (pc' := 104) rfl rfl rfl ?_
    refine go_aload_n (pc' := 105) rfl rfl rfl ?_
    refine go_aload (pc' := 107) rfl rfl rfl ?_
    obtain ⟨g8, h⟩ := o_gE h
    refine go_getR (pc' := 110) rfl rfl (o_kdE g8) rfl ?_
    obtain ⟨r_110, I_110, q_110, h⟩ := o_b2E h
    refine go_callV (pc' := 113) (B' := (0, 0)) (st' := [.inl r_110]) rfl rfl (Or.inl (by decide)) rfl rfl hth (md_45 (by omega) hth q_110) rfl rfl rfl ?_
    obtain ⟨g9, h⟩ := o_gE h
    cases h
    exact go_iret rfl (o_bzE g9) ⟨rfl, rfl, rfl, rfl, rfl⟩
  replace h := o_f c1_6 h
  by_cases c1_7 : a0 = (12 : Int32)
  · replace h := o_t c1_7 h
    refine go_swIn (pc' := 114) 7 rfl rfl (by rw [c1_7]; decide) (by rw [c1_7]; decide) rfl ?_
    refine go_aload_n (pc' := 115) rfl rfl rfl ?_
    refine go_aload_n (pc' := 116) rfl rfl rfl ?_
    obtain ⟨r_116, I_116, q_116, h⟩ := o_b2E h
    refine go_callV (pc' := 119) (B' := (0, 0)) (st' := [.inl r_116]) rfl rfl (Or.inl (by decide)) rfl rfl hth (md_43 (by omega) hth q_116) rfl rfl rfl ?_
    obtain ⟨g10, h⟩ := o_gE h
    cases h
    exact go_iret rfl (o_bzE g10) ⟨rfl, rfl, rfl, rfl, rfl⟩
  replace h := o_f c1_7 h
  by_cases c1_8 : a0 = (13 : Int32)
  · replace h := o_t c1_8 h
    refine go_swIn (pc' := 120) 8 rfl rfl (by rw [c1_8]; decide) (by rw [c1_8]; decide) rfl ?_
    refine go_aload_n (pc' := 121) rfl rfl rfl ?_
    refine go_aload_n (pc' := 122) rfl rfl rfl ?_
    refine go_aload (pc' := 124) rfl rfl rfl ?_
    refine go_iload_n (pc' := 125) rfl rfl rfl ?_
    obtain ⟨g11, h⟩ := o_gE h
    obtain ⟨r_125, q_125, h⟩ := o_b1E h
    refine go_callV (pc' := 128) (B' := (0, 0)) (st' := [.inr (.inr r_125), .inr (.inr a1), .inr (.inr th)]) rfl rfl (Or.inl (by decide)) rfl rfl (o_kdE g11) (md_65 (by omega) (o_kdE g11) q_125) rfl rfl rfl ?_
    obtain ⟨r_128, I_128, q_128, h⟩ := o_b2E h
    refine go_callV (pc' := 131) (B' := (0, 0)) (st' := [.inl r_128]) rfl rfl (Or.inl (by decide)) rfl rfl hth (md_46 (by omega) hth q_128) rfl rfl rfl ?_
    obtain ⟨g12, h⟩ := o_gE h
    cases h
    exact go_iret rfl (o_bzE g12) ⟨rfl, rfl, rfl, rfl, rfl⟩
  replace h := o_f c1_8 h
  refine go_swOut (pc' := 132) rfl (by
      rw [← Int32.toInt_inj] at c1_0
      rw [← Int32.toInt_inj] at c1_1
      rw [← Int32.toInt_inj] at c1_2
      rw [← Int32.toInt_inj] at c1_3
      rw [← Int32.toInt_inj] at c1_4
      rw [← Int32.toInt_inj] at c1_5
      rw [← Int32.toInt_inj] at c1_6
      rw [← Int32.toInt_inj] at c1_7
      rw [← Int32.toInt_inj] at c1_8
      have c1_0 : ¬ a0.toInt = 5 := c1_0
      have c1_1 : ¬ a0.toInt = 6 := c1_1
      have c1_2 : ¬ a0.toInt = 7 := c1_2
      have c1_3 : ¬ a0.toInt = 8 := c1_3
      have c1_4 : ¬ a0.toInt = 9 := c1_4
      have c1_5 : ¬ a0.toInt = 10 := c1_5
      have c1_6 : ¬ a0.toInt = 11 := c1_6
      have c1_7 : ¬ a0.toInt = 12 := c1_7
      have c1_8 : ¬ a0.toInt = 13 := c1_8
      show a0.toInt < 5 ∨ 5 + ((9 : Nat) : Int) ≤ a0.toInt
      omega) rfl ?_
  refine go_iconst (pc' := 133) (v := (nI 0)) rfl rfl rfl ?_
  cases h
  exact go_iret rfl (rfl) ⟨rfl, rfl, rfl, rfl, rfl⟩
def m_82_x4_96 (Ix_96 : ai_I) : Option (ai_I) :=
  some Ix_96
def m_82_j89 (th : Nat) (Rf : ai_R) (G : ai_G) (v1_4 : Int32) (I_4 : ai_I) (t2_89 : Int32) : Option ((Int32 × ai_I) ⊕ ai_I) :=
  o_g (o_in G 13 (Rf th 4) v1_4) (o_b1 (some (va_up I_4 (Rf th 4) (va_up (I_4 (Rf th 4)) v1_4.toNatClampNeg t2_89))) (fun I_89 => o_b1 (some (v1_4 + (-1 : Int32))) (fun x1_90 => some (Sum.inl (x1_90, I_89)))))
def m_82_x27_72 (th : Nat) (Rf : ai_R) (G : ai_G) (v1_4 : Int32) (I_4 : ai_I) (w2_72 : Int32) : Option ((Int32 × ai_I) ⊕ ai_I) :=
  if w2_72 = 0 then (m_82_j89 th Rf G v1_4 I_4 (-1 : Int32)) else (o_b1 (m_115 v1_4) (fun r_82 => m_82_j89 th Rf G v1_4 I_4 r_82))
def m_82_b27 (th : Nat) (Rf : ai_R) (G : ai_G) (v1_4 : Int32) (I_4 : ai_I) (v2_27 : Int32) (v3_27 : Int32) : Option ((Int32 × Int32) ⊕ Int32) :=
  if (I_4 th 0) ≤ v3_27 then (some (Sum.inr v2_27)) else (if v2_27 = 0 then (o_b1 (m_113 v1_4 v3_27) (fun r_41 => if r_41 = 0 then (o_g (o_in G 13 (Rf th 4) (v1_4 ||| ((nI 1) <<< (v3_27 &&& 31)))) (if (I_4 (Rf th 4) (v1_4 ||| ((nI 1) <<< (v3_27 &&& 31))).toNatClampNeg) < 0 then (o_b1 (some (v3_27 + (nI 1))) (fun x3_66 => some (Sum.inl ((nI 0), x3_66)))) else (o_b1 (some (v3_27 + (nI 1))) (fun x3_66 => some (Sum.inl ((nI 1), x3_66)))))) else (o_b1 (some (v3_27 + (nI 1))) (fun x3_66 => some (Sum.inl ((nI 0), x3_66)))))) else (some (Sum.inr v2_27)))
def m_82_j24 (th : Nat) (Rf : ai_R) (G : ai_G) (v1_4 : Int32) (I_4 : ai_I) (t0_24 : Int32) : Option ((Int32 × ai_I) ⊕ ai_I) :=
  o_s1 (lp (fun s => m_82_b27 th Rf G v1_4 I_4 s.1 s.2) o_N (t0_24, (nI 0))) (fun t => m_82_x27_72 th Rf G v1_4 I_4 t)
def m_82_b4 (th : Nat) (Rf : ai_R) (G : ai_G) (v1_4 : Int32) (I_4 : ai_I) : Option ((Int32 × ai_I) ⊕ ai_I) :=
  if v1_4 < 0 then (some (Sum.inr I_4)) else (o_g (o_in G 13 (Rf th 3) v1_4) (if (I_4 (Rf th 3) v1_4.toNatClampNeg) = (-2147483648 : Int32) then (m_82_j24 th Rf G v1_4 I_4 (nI 0)) else (m_82_j24 th Rf G v1_4 I_4 (nI 1))))
/-- PricedBases$Valuation.markFree()V -/
def m_82 (th : Nat) (I : ai_I) (Rf : ai_R) (G : ai_G) : Option (ai_I) :=
  o_s1 (lp (fun s => m_82_b4 th Rf G s.1 s.2) o_N ((nI 255), I)) (fun t => m_82_x4_96 t)
theorem md_82 {d : Nat} {I : ai_I} {J : ai_J} {Rf : ai_R} {G : ai_G} {th : Nat} {I1 : ai_I} (hd : 2 ≤ d) (hth : G.1 th = 8) (h : m_82 th I Rf G = some I1) : ai_Cl si_t si_ms d 82 [.inr (.inr th)] I J Rf G none I1 J Rf G := by
  obtain ⟨e, rfl⟩ : ∃ e, d = e + 1 := ⟨d - 1, by omega⟩
  unfold m_82 at h
  refine sp_in (lo := [some (.inr (.inr th)), none, none, none]) (B := (0, 0)) rfl (Nat.le_of_ble_eq_true rfl) rfl rfl ?_
  refine go_sipush (pc' := 3) (v := (nI 255)) rfl rfl rfl ?_
  refine go_istore_n (pc' := 4) (lo' := [some (.inr (.inr th)), some (.inl (nI 255)), none, none]) rfl rfl rfl ?_
  obtain ⟨q4, hl4, hc4_96⟩ := o_s1E h
  have ex4_96 : ∀ (Ix_96 : ai_I) (z1_x96 : Option ai_V) (z2_x96 : Option ai_V) (z3_x96 : Option ai_V), Ix_96 = q4 → ai_Go si_t (8, false, 9, cd_82) (ai_Cl si_t si_ms e) (sp_Q none I1 J Rf G) 96 [some (.inr (.inr th)), z1_x96, z2_x96, z3_x96] [] (0, 0) Ix_96 J Rf G := by
    intro Ix_96 z1_x96 z2_x96 z3_x96 hq
    have h : m_82_x4_96 Ix_96 = some I1 := hc4_96 Ix_96 hq.symm
    unfold m_82_x4_96 at h
    cases h
    exact go_vret rfl (rfl) ⟨rfl, rfl, rfl, rfl, rfl⟩
  have lo4 : ∀ n s, lp (fun s => m_82_b4 th Rf G s.1 s.2) n s = some q4 → (fun s => ∀ (z2_4 : Option ai_V) (z3_4 : Option ai_V), ai_Go si_t (8, false, 9, cd_82) (ai_Cl si_t si_ms e) (sp_Q none I1 J Rf G) 4 [some (.inr (.inr th)), some (.inl s.1), z2_4, z3_4] [] (0, 0) s.2 J Rf G) s := lp_go (fun s x4 hx hk4 => by
    obtain ⟨v1_4, I_4⟩ := s
    intro z2_4 z3_4
    have h : m_82_b4 th Rf G v1_4 I_4 = some x4 := hx
    clear hx
    show ai_Go si_t (8, false, 9, cd_82) (ai_Cl si_t si_ms e) (sp_Q none I1 J Rf G) 4 [some (.inr (.inr th)), some (.inl v1_4), z2_4, z3_4] [] (0, 0) I_4 J Rf G
    unfold m_82_b4 at h
    refine go_iload_n (pc' := 5) rfl rfl rfl ?_
    refine go_if_lt (pt := 96) (pc' := 8) rfl rfl rfl (fun h5 => ?_) (fun h5 => ?_)
    · replace h := o_t h5 h
      exact ex4_96 _ (some (.inl v1_4)) z2_4 z3_4 (lp_exitE h hk4)
    · replace h := o_f h5 h
      refine go_aload_n (pc' := 9) rfl rfl rfl ?_
      refine go_getR (pc' := 12) rfl rfl hth rfl ?_
      refine go_iload_n (pc' := 13) rfl rfl rfl ?_
      obtain ⟨g0, h⟩ := o_gE h
      refine go_iaload (pc' := 14) rfl (o_inK g0) (o_inB g0) rfl ?_
      refine go_ldc (pc' := 16) (v := .inl (-2147483648 : Int32)) rfl rfl rfl ?_
      have jn24 : ∀ (t0_24 : Int32) (z2_24 : Option ai_V) (z3_24 : Option ai_V), m_82_j24 th Rf G v1_4 I_4 t0_24 = some x4 → ai_Go si_t (8, false, 9, cd_82) (ai_Cl si_t si_ms e) (sp_Q none I1 J Rf G) 24 [some (.inr (.inr th)), some (.inl v1_4), z2_24, z3_24] [.inl t0_24] (0, 0) I_4 J Rf G := by
        intro t0_24 z2_24 z3_24 h
        unfold m_82_j24 at h
        refine go_istore_n (pc' := 25) (lo' := [some (.inr (.inr th)), some (.inl v1_4), some (.inl t0_24), z3_24]) rfl rfl rfl ?_
        refine go_iconst (pc' := 26) (v := (nI 0)) rfl rfl rfl ?_
        refine go_istore_n (pc' := 27) (lo' := [some (.inr (.inr th)), some (.inl v1_4), some (.inl t0_24), some (.inl (nI 0))]) rfl rfl rfl ?_
        obtain ⟨q27, hl27, hc27_72⟩ := o_s1E h
        have ex27_72 : ∀ (w2_72 : Int32) (z3_x72 : Option ai_V), w2_72 = q27 → ai_Go si_t (8, false, 9, cd_82) (ai_Cl si_t si_ms e) (sp_Q none I1 J Rf G) 72 [some (.inr (.inr th)), some (.inl v1_4), some (.inl w2_72), z3_x72] [] (0, 0) I_4 J Rf G := by
          intro w2_72 z3_x72 hq
          have h : m_82_x27_72 th Rf G v1_4 I_4 w2_72 = some x4 := hc27_72 w2_72 hq.symm
          unfold m_82_x27_72 at h
          refine go_aload_n (pc' := 73) rfl rfl rfl ?_
          refine go_getR (pc' := 76) rfl rfl hth rfl ?_
          refine go_iload_n (pc' := 77) rfl rfl rfl ?_
          refine go_iload_n (pc' := 78) rfl rfl rfl ?_
          have jn89 : ∀ (t2_89 : Int32) (z3_89 : Option ai_V), m_82_j89 th Rf G v1_4 I_4 t2_89 = some x4 → ai_Go si_t (8, false, 9, cd_82) (ai_Cl si_t si_ms e) (sp_Q none I1 J Rf G) 89 [some (.inr (.inr th)), some (.inl v1_4), some (.inl w2_72), z3_89] [.inl t2_89, .inl v1_4, .inr (.inr (Rf th 4))] (0, 0) I_4 J Rf G := by
            intro t2_89 z3_89 h
            unfold m_82_j89 at h
            obtain ⟨g1, h⟩ := o_gE h
            obtain ⟨I_89, eI_89, h⟩ := o_b1E h
            refine go_iastore (pc' := 90) rfl (o_inK g1) (o_inB g1) rfl ?_
            refine go_ndMI eI_89 ?_
            obtain ⟨x1_90, ex1_90, h⟩ := o_b1E h
            refine go_iincE (pc' := 93) rfl rfl (y := (-1 : Int32)) rfl ex1_90 (lo' := [some (.inr (.inr th)), some (.inl x1_90), some (.inl w2_72), z3_89]) rfl rfl ?_
            refine go_goto (pc' := 4) rfl rfl ?_
            exact (lp_backE h hk4 (some (.inl w2_72)) z3_89 :)
          refine go_if_eq (pt := 88) (pc' := 81) rfl rfl rfl (fun h78 => ?_) (fun h78 => ?_)
          · replace h := o_t h78 h
            refine go_iconst (pc' := 89) (v := (-1 : Int32)) rfl rfl rfl ?_
            exact jn89 (-1 : Int32) z3_x72 h
          · replace h := o_f h78 h
            refine go_iload_n (pc' := 82) rfl rfl rfl ?_
            obtain ⟨r_82, q_82, h⟩ := o_b1E h
            refine go_callS (pc' := 85) (B' := (0, 0)) (st' := [.inl r_82, .inl v1_4, .inr (.inr (Rf th 4))]) rfl rfl (Or.inl (by decide)) rfl rfl trivial (md_115 (by omega) q_82) rfl rfl rfl ?_
            refine go_goto (pc' := 89) rfl rfl ?_
            exact jn89 r_82 z3_x72 h
        have lo27 : ∀ n s, lp (fun s => m_82_b27 th Rf G v1_4 I_4 s.1 s.2) n s = some q27 → (fun s => ai_Go si_t (8, false, 9, cd_82) (ai_Cl si_t si_ms e) (sp_Q none I1 J Rf G) 27 [some (.inr (.inr th)), some (.inl v1_4), some (.inl s.1), some (.inl s.2)] [] (0, 0) I_4 J Rf G) s := lp_go (fun s x27 hx hk27 => by
          obtain ⟨v2_27, v3_27⟩ := s
          have h : m_82_b27 th Rf G v1_4 I_4 v2_27 v3_27 = some x27 := hx
          clear hx
          show ai_Go si_t (8, false, 9, cd_82) (ai_Cl si_t si_ms e) (sp_Q none I1 J Rf G) 27 [some (.inr (.inr th)), some (.inl v1_4), some (.inl v2_27), some (.inl v3_27)] [] (0, 0) I_4 J Rf G
          unfold m_82_b27 at h
          refine go_iload_n (pc' := 28) rfl rfl rfl ?_
          refine go_aload_n (pc' := 29) rfl rfl rfl ?_
          refine go_getI (pc' := 32) rfl rfl (by decide) (by decide) hth rfl ?_
          refine go_icmp_ge (pt := 72) (pc' := 35) rfl rfl rfl (fun h32 => ?_) (fun h32 => ?_)
          · replace h := o_t h32 h
            exact ex27_72 _ (some (.inl v3_27)) (lp_exitE h hk27)
          · replace h := o_f h32 h
            refine go_iload_n (pc' := 36) rfl rfl rfl ?_
            refine go_if_ne (pt := 72) (pc' := 39) rfl rfl rfl (fun h36 => ?_) (fun h36 => ?_)
            · replace h := o_f h36 h
              exact ex27_72 _ (some (.inl v3_27)) (lp_exitE h hk27)
            · replace h := o_t (Decidable.of_not_not h36) h
              refine go_iload_n (pc' := 40) rfl rfl rfl ?_
              refine go_iload_n (pc' := 41) rfl rfl rfl ?_
              obtain ⟨r_41, q_41, h⟩ := o_b1E h
              refine go_callS (pc' := 44) (B' := (0, 0)) (st' := [.inl r_41]) rfl rfl (Or.inl (by decide)) rfl rfl trivial (md_113 (by omega) q_41) rfl rfl rfl ?_
              refine go_if_ne (pt := 64) (pc' := 47) rfl rfl rfl (fun h44 => ?_) (fun h44 => ?_)
              · replace h := o_f h44 h
                refine go_iconst (pc' := 65) (v := (nI 0)) rfl rfl rfl ?_
                refine go_istore_n (pc' := 66) (lo' := [some (.inr (.inr th)), some (.inl v1_4), some (.inl (nI 0)), some (.inl v3_27)]) rfl rfl rfl ?_
                obtain ⟨x3_66, ex3_66, h⟩ := o_b1E h
                refine go_iincE (pc' := 69) rfl rfl (y := (nI 1)) rfl ex3_66 (lo' := [some (.inr (.inr th)), some (.inl v1_4), some (.inl (nI 0)), some (.inl x3_66)]) rfl rfl ?_
                refine go_goto (pc' := 27) rfl rfl ?_
                exact (lp_backE h hk27 :)
              · replace h := o_t (Decidable.of_not_not h44) h
                refine go_aload_n (pc' := 48) rfl rfl rfl ?_
                refine go_getR (pc' := 51) rfl rfl hth rfl ?_
                refine go_iload_n (pc' := 52) rfl rfl rfl ?_
                refine go_iconst (pc' := 53) (v := (nI 1)) rfl rfl rfl ?_
                refine go_iload_n (pc' := 54) rfl rfl rfl ?_
                refine go_ishl (pc' := 55) rfl rfl ?_
                refine go_ior (pc' := 56) rfl rfl ?_
                obtain ⟨g2, h⟩ := o_gE h
                refine go_iaload (pc' := 57) rfl (o_inK g2) (o_inB g2) rfl ?_
                refine go_if_lt (pt := 64) (pc' := 60) rfl rfl rfl (fun h57 => ?_) (fun h57 => ?_)
                · replace h := o_t h57 h
                  refine go_iconst (pc' := 65) (v := (nI 0)) rfl rfl rfl ?_
                  refine go_istore_n (pc' := 66) (lo' := [some (.inr (.inr th)), some (.inl v1_4), some (.inl (nI 0)), some (.inl v3_27)]) rfl rfl rfl ?_
                  obtain ⟨x3_66, ex3_66, h⟩ := o_b1E h
                  refine go_iincE (pc' := 69) rfl rfl (y := (nI 1)) rfl ex3_66 (lo' := [some (.inr (.inr th)), some (.inl v1_4), some (.inl (nI 0)), some (.inl x3_66)]) rfl rfl ?_
                  refine go_goto (pc' := 27) rfl rfl ?_
                  exact (lp_backE h hk27 :)
                · replace h := o_f h57 h
                  refine go_iconst (pc' := 61) (v := (nI 1)) rfl rfl rfl ?_
                  refine go_goto (pc' := 65) rfl rfl ?_
                  refine go_istore_n (pc' := 66) (lo' := [some (.inr (.inr th)), some (.inl v1_4), some (.inl (nI 1)), some (.inl v3_27)]) rfl rfl rfl ?_
                  obtain ⟨x3_66, ex3_66, h⟩ := o_b1E h
                  refine go_iincE (pc' := 69) rfl rfl (y := (nI 1)) rfl ex3_66 (lo' := [some (.inr (.inr th)), some (.inl v1_4), some (.inl (nI 1)), some (.inl x3_66)]) rfl rfl ?_
                  refine go_goto (pc' := 27) rfl rfl ?_
                  exact (lp_backE h hk27 :))
        exact lo27 _ (t0_24, (nI 0)) hl27 
      refine go_icmp_eq (pt := 23) (pc' := 19) rfl rfl rfl (fun h16 => ?_) (fun h16 => ?_)
      · replace h := o_t h16 h
        refine go_iconst (pc' := 24) (v := (nI 0)) rfl rfl rfl ?_
        exact jn24 (nI 0) z2_4 z3_4 h
      · replace h := o_f h16 h
        refine go_iconst (pc' := 20) (v := (nI 1)) rfl rfl rfl ?_
        refine go_goto (pc' := 24) rfl rfl ?_
        exact jn24 (nI 1) z2_4 z3_4 h)
  exact lo4 _ ((nI 255), I) hl4 none none
def m_83_x4_39 (w2_39 : Int32) : Option (Int32) :=
  some w2_39
def m_83_b4 (th : Nat) (a0 : Int32) (I : ai_I) (Rf : ai_R) (G : ai_G) (v2_4 : Int32) (v3_4 : Int32) : Option ((Int32 × Int32) ⊕ Int32) :=
  if (nI 8) ≤ v3_4 then (some (Sum.inr v2_4)) else (o_b1 (m_113 a0 v3_4) (fun r_12 => if r_12 = 0 then (o_b1 (some (v3_4 + (nI 1))) (fun x3_33 => some (Sum.inl (v2_4, x3_33)))) else (o_g (o_in G 13 (Rf th 4) (a0 ^^^ ((nI 1) <<< (v3_4 &&& 31)))) (o_b1 (some (if v2_4 < (I (Rf th 4) (a0 ^^^ ((nI 1) <<< (v3_4 &&& 31))).toNatClampNeg) then (I (Rf th 4) (a0 ^^^ ((nI 1) <<< (v3_4 &&& 31))).toNatClampNeg) else v2_4)) (fun r_29 => o_b1 (some (v3_4 + (nI 1))) (fun x3_33 => some (Sum.inl (r_29, x3_33))))))))
/-- PricedBases$Valuation.rankByParts(I)I -/
def m_83 (th : Nat) (a0 : Int32) (I : ai_I) (Rf : ai_R) (G : ai_G) : Option (Int32) :=
  o_s1 (lp (fun s => m_83_b4 th a0 I Rf G s.1 s.2) o_N ((nI 0), (nI 0))) (fun t => m_83_x4_39 t)
theorem md_83 {d : Nat} {I : ai_I} {J : ai_J} {Rf : ai_R} {G : ai_G} {th : Nat} {a0 : Int32} {r : Int32} (hd : 2 ≤ d) (hth : G.1 th = 8) (h : m_83 th a0 I Rf G = some r) : ai_Cl si_t si_ms d 83 [.inr (.inr th), .inl a0] I J Rf G (some (.inl r)) I J Rf G := by
  obtain ⟨e, rfl⟩ : ∃ e, d = e + 1 := ⟨d - 1, by omega⟩
  unfold m_83 at h
  refine sp_in (lo := [some (.inr (.inr th)), some (.inl a0), none, none]) (B := (0, 0)) rfl (Nat.le_of_ble_eq_true rfl) rfl rfl ?_
  refine go_iconst (pc' := 1) (v := (nI 0)) rfl rfl rfl ?_
  refine go_istore_n (pc' := 2) (lo' := [some (.inr (.inr th)), some (.inl a0), some (.inl (nI 0)), none]) rfl rfl rfl ?_
  refine go_iconst (pc' := 3) (v := (nI 0)) rfl rfl rfl ?_
  refine go_istore_n (pc' := 4) (lo' := [some (.inr (.inr th)), some (.inl a0), some (.inl (nI 0)), some (.inl (nI 0))]) rfl rfl rfl ?_
  obtain ⟨q4, hl4, hc4_39⟩ := o_s1E h
  have ex4_39 : ∀ (w2_39 : Int32) (z3_x39 : Option ai_V), w2_39 = q4 → ai_Go si_t (8, false, 0, cd_83) (ai_Cl si_t si_ms e) (sp_Q (some (.inl r)) I J Rf G) 39 [some (.inr (.inr th)), some (.inl a0), some (.inl w2_39), z3_x39] [] (0, 0) I J Rf G := by
    intro w2_39 z3_x39 hq
    have h : m_83_x4_39 w2_39 = some r := hc4_39 w2_39 hq.symm
    unfold m_83_x4_39 at h
    refine go_iload_n (pc' := 40) rfl rfl rfl ?_
    cases h
    exact go_iret rfl (trivial) ⟨rfl, rfl, rfl, rfl, rfl⟩
  have lo4 : ∀ n s, lp (fun s => m_83_b4 th a0 I Rf G s.1 s.2) n s = some q4 → (fun s => ai_Go si_t (8, false, 0, cd_83) (ai_Cl si_t si_ms e) (sp_Q (some (.inl r)) I J Rf G) 4 [some (.inr (.inr th)), some (.inl a0), some (.inl s.1), some (.inl s.2)] [] (0, 0) I J Rf G) s := lp_go (fun s x4 hx hk4 => by
    obtain ⟨v2_4, v3_4⟩ := s
    have h : m_83_b4 th a0 I Rf G v2_4 v3_4 = some x4 := hx
    clear hx
    show ai_Go si_t (8, false, 0, cd_83) (ai_Cl si_t si_ms e) (sp_Q (some (.inl r)) I J Rf G) 4 [some (.inr (.inr th)), some (.inl a0), some (.inl v2_4), some (.inl v3_4)] [] (0, 0) I J Rf G
    unfold m_83_b4 at h
    refine go_iload_n (pc' := 5) rfl rfl rfl ?_
    refine go_bipush (pc' := 7) (v := (nI 8)) rfl rfl rfl ?_
    refine go_icmp_ge (pt := 39) (pc' := 10) rfl rfl rfl (fun h7 => ?_) (fun h7 => ?_)
    · replace h := o_t h7 h
      exact ex4_39 _ (some (.inl v3_4)) (lp_exitE h hk4)
    · replace h := o_f h7 h
      refine go_iload_n (pc' := 11) rfl rfl rfl ?_
      refine go_iload_n (pc' := 12) rfl rfl rfl ?_
      obtain ⟨r_12, q_12, h⟩ := o_b1E h
      refine go_callS (pc' := 15) (B' := (0, 0)) (st' := [.inl r_12]) rfl rfl (Or.inl (by decide)) rfl rfl trivial (md_113 (by omega) q_12) rfl rfl rfl ?_
      refine go_if_eq (pt := 33) (pc' := 18) rfl rfl rfl (fun h15 => ?_) (fun h15 => ?_)
      · replace h := o_t h15 h
        obtain ⟨x3_33, ex3_33, h⟩ := o_b1E h
        refine go_iincE (pc' := 36) rfl rfl (y := (nI 1)) rfl ex3_33 (lo' := [some (.inr (.inr th)), some (.inl a0), some (.inl v2_4), some (.inl x3_33)]) rfl rfl ?_
        refine go_goto (pc' := 4) rfl rfl ?_
        exact (lp_backE h hk4 :)
      · replace h := o_f h15 h
        refine go_iload_n (pc' := 19) rfl rfl rfl ?_
        refine go_aload_n (pc' := 20) rfl rfl rfl ?_
        refine go_getR (pc' := 23) rfl rfl hth rfl ?_
        refine go_iload_n (pc' := 24) rfl rfl rfl ?_
        refine go_iconst (pc' := 25) (v := (nI 1)) rfl rfl rfl ?_
        refine go_iload_n (pc' := 26) rfl rfl rfl ?_
        refine go_ishl (pc' := 27) rfl rfl ?_
        refine go_ixor (pc' := 28) rfl rfl ?_
        obtain ⟨g0, h⟩ := o_gE h
        refine go_iaload (pc' := 29) rfl (o_inK g0) (o_inB g0) rfl ?_
        refine go_max (pc' := 32) rfl rfl (Nat.le_of_ble_eq_true rfl) rfl ?_
        obtain ⟨r_29, er_29, h⟩ := o_b1E h
        refine go_ndI er_29 ?_
        refine go_istore_n (pc' := 33) (lo' := [some (.inr (.inr th)), some (.inl a0), some (.inl r_29), some (.inl v3_4)]) rfl rfl rfl ?_
        obtain ⟨x3_33, ex3_33, h⟩ := o_b1E h
        refine go_iincE (pc' := 36) rfl rfl (y := (nI 1)) rfl ex3_33 (lo' := [some (.inr (.inr th)), some (.inl a0), some (.inl r_29), some (.inl x3_33)]) rfl rfl ?_
        refine go_goto (pc' := 4) rfl rfl ?_
        exact (lp_backE h hk4 :))
  exact lo4 _ ((nI 0), (nI 0)) hl4 
def m_81_x66_99 (Ix_99 : ai_I) : Option (ai_I) :=
  some Ix_99
def m_81_b66 (th : Nat) (Rf : ai_R) (G : ai_G) (v1_66 : Int32) (I_66 : ai_I) : Option ((Int32 × ai_I) ⊕ ai_I) :=
  if (nI 256) ≤ v1_66 then (some (Sum.inr I_66)) else (o_g (o_in G 13 (Rf th 4) v1_66) (if 0 ≤ (I_66 (Rf th 4) v1_66.toNatClampNeg) then (o_b1 (some (v1_66 + (nI 1))) (fun x1_93 => some (Sum.inl (x1_93, I_66)))) else (o_b1 (m_83 th v1_66 I_66 Rf G) (fun r_89 => o_g (o_in G 13 (Rf th 4) v1_66) (o_b1 (some (va_up I_66 (Rf th 4) (va_up (I_66 (Rf th 4)) v1_66.toNatClampNeg r_89))) (fun I_92 => o_b1 (some (v1_66 + (nI 1))) (fun x1_93 => some (Sum.inl (x1_93, I_92)))))))))
def m_81_x7_60 (th : Nat) (Rf : ai_R) (G : ai_G) (Ix_60 : ai_I) : Option (ai_I) :=
  o_b1 (m_82 th Ix_60 Rf G) (fun I_61 => o_s1 (lp (fun s => m_81_b66 th Rf G s.1 s.2) o_N ((nI 0), I_61)) (fun t => m_81_x66_99 t))
def m_81_b7 (th : Nat) (Rf : ai_R) (G : ai_G) (v1_7 : Int32) (I_7 : ai_I) : Option ((Int32 × ai_I) ⊕ ai_I) :=
  if (nI 256) ≤ v1_7 then (some (Sum.inr I_7)) else (o_g (o_in G 13 (Rf th 3) v1_7) (if (I_7 (Rf th 3) v1_7.toNatClampNeg) = (-2147483648 : Int32) then (o_b1 (some (v1_7 + (nI 1))) (fun x1_54 => some (Sum.inl (x1_54, I_7)))) else (if (nI 70) ≤ (I_7 th 2) then (o_b1 (some (v1_7 + (nI 1))) (fun x1_54 => some (Sum.inl (x1_54, I_7)))) else (o_g (o_in G 13 (Rf th 5) (I_7 th 2)) (o_b1 (some (va_up I_7 (Rf th 5) (va_up (I_7 (Rf th 5)) (I_7 th 2).toNatClampNeg v1_7))) (fun I_43 => o_b1 (some (va_up I_43 th (va_up (I_43 th) 2 ((I_43 th 2) + (nI 1))))) (fun I_51 => o_b1 (some (v1_7 + (nI 1))) (fun x1_54 => some (Sum.inl (x1_54, I_51))))))))))
/-- PricedBases$Valuation.settle()V -/
def m_81 (th : Nat) (I : ai_I) (Rf : ai_R) (G : ai_G) : Option (ai_I) :=
  o_b1 (some (va_up I th (va_up (I th) 2 (nI 0)))) (fun I_2 => o_s1 (lp (fun s => m_81_b7 th Rf G s.1 s.2) o_N ((nI 0), I_2)) (fun t => m_81_x7_60 th Rf G t))
theorem md_81 {d : Nat} {I : ai_I} {J : ai_J} {Rf : ai_R} {G : ai_G} {th : Nat} {I1 : ai_I} (hd : 3 ≤ d) (hth : G.1 th = 8) (h : m_81 th I Rf G = some I1) : ai_Cl si_t si_ms d 81 [.inr (.inr th)] I J Rf G none I1 J Rf G := by
  obtain ⟨e, rfl⟩ : ∃ e, d = e + 1 := ⟨d - 1, by omega⟩
  unfold m_81 at h
  refine sp_in (lo := [some (.inr (.inr th)), none]) (B := (0, 0)) rfl (Nat.le_of_ble_eq_true rfl) rfl rfl ?_
  refine go_aload_n (pc' := 1) rfl rfl rfl ?_
  refine go_iconst (pc' := 2) (v := (nI 0)) rfl rfl rfl ?_
  obtain ⟨I_2, eI_2, h⟩ := o_b1E h
  refine go_putI (pc' := 5) rfl rfl (fun h => by cases h) hth rfl ?_
  refine go_ndMI eI_2 ?_
  refine go_iconst (pc' := 6) (v := (nI 0)) rfl rfl rfl ?_
  refine go_istore_n (pc' := 7) (lo' := [some (.inr (.inr th)), some (.inl (nI 0))]) rfl rfl rfl ?_
  obtain ⟨q7, hl7, hc7_60⟩ := o_s1E h
  have ex7_60 : ∀ (Ix_60 : ai_I) (z1_x60 : Option ai_V), Ix_60 = q7 → ai_Go si_t (8, false, 9, cd_81) (ai_Cl si_t si_ms e) (sp_Q none I1 J Rf G) 60 [some (.inr (.inr th)), z1_x60] [] (0, 0) Ix_60 J Rf G := by
    intro Ix_60 z1_x60 hq
    have h : m_81_x7_60 th Rf G Ix_60 = some I1 := hc7_60 Ix_60 hq.symm
    unfold m_81_x7_60 at h
    refine go_aload_n (pc' := 61) rfl rfl rfl ?_
    obtain ⟨I_61, q_61, h⟩ := o_b1E h
    refine go_callV (pc' := 64) (B' := (0, 0)) (st' := []) rfl rfl (Or.inl (by decide)) rfl rfl hth (md_82 (by omega) hth q_61) rfl rfl rfl ?_
    refine go_iconst (pc' := 65) (v := (nI 0)) rfl rfl rfl ?_
    refine go_istore_n (pc' := 66) (lo' := [some (.inr (.inr th)), some (.inl (nI 0))]) rfl rfl rfl ?_
    obtain ⟨q66, hl66, hc66_99⟩ := o_s1E h
    have ex66_99 : ∀ (Ix_99 : ai_I) (z1_x99 : Option ai_V), Ix_99 = q66 → ai_Go si_t (8, false, 9, cd_81) (ai_Cl si_t si_ms e) (sp_Q none I1 J Rf G) 99 [some (.inr (.inr th)), z1_x99] [] (0, 0) Ix_99 J Rf G := by
      intro Ix_99 z1_x99 hq
      have h : m_81_x66_99 Ix_99 = some I1 := hc66_99 Ix_99 hq.symm
      unfold m_81_x66_99 at h
      cases h
      exact go_vret rfl (rfl) ⟨rfl, rfl, rfl, rfl, rfl⟩
    have lo66 : ∀ n s, lp (fun s => m_81_b66 th Rf G s.1 s.2) n s = some q66 → (fun s => ai_Go si_t (8, false, 9, cd_81) (ai_Cl si_t si_ms e) (sp_Q none I1 J Rf G) 66 [some (.inr (.inr th)), some (.inl s.1)] [] (0, 0) s.2 J Rf G) s := lp_go (fun s x66 hx hk66 => by
      obtain ⟨v1_66, I_66⟩ := s
      have h : m_81_b66 th Rf G v1_66 I_66 = some x66 := hx
      clear hx
      show ai_Go si_t (8, false, 9, cd_81) (ai_Cl si_t si_ms e) (sp_Q none I1 J Rf G) 66 [some (.inr (.inr th)), some (.inl v1_66)] [] (0, 0) I_66 J Rf G
      unfold m_81_b66 at h
      refine go_iload_n (pc' := 67) rfl rfl rfl ?_
      refine go_sipush (pc' := 70) (v := (nI 256)) rfl rfl rfl ?_
      refine go_icmp_ge (pt := 99) (pc' := 73) rfl rfl rfl (fun h70 => ?_) (fun h70 => ?_)
      · replace h := o_t h70 h
        exact ex66_99 _ (some (.inl v1_66)) (lp_exitE h hk66)
      · replace h := o_f h70 h
        refine go_aload_n (pc' := 74) rfl rfl rfl ?_
        refine go_getR (pc' := 77) rfl rfl hth rfl ?_
        refine go_iload_n (pc' := 78) rfl rfl rfl ?_
        obtain ⟨g0, h⟩ := o_gE h
        refine go_iaload (pc' := 79) rfl (o_inK g0) (o_inB g0) rfl ?_
        refine go_if_ge (pt := 93) (pc' := 82) rfl rfl rfl (fun h79 => ?_) (fun h79 => ?_)
        · replace h := o_t h79 h
          obtain ⟨x1_93, ex1_93, h⟩ := o_b1E h
          refine go_iincE (pc' := 96) rfl rfl (y := (nI 1)) rfl ex1_93 (lo' := [some (.inr (.inr th)), some (.inl x1_93)]) rfl rfl ?_
          refine go_goto (pc' := 66) rfl rfl ?_
          exact (lp_backE h hk66 :)
        · replace h := o_f h79 h
          refine go_aload_n (pc' := 83) rfl rfl rfl ?_
          refine go_getR (pc' := 86) rfl rfl hth rfl ?_
          refine go_iload_n (pc' := 87) rfl rfl rfl ?_
          refine go_aload_n (pc' := 88) rfl rfl rfl ?_
          refine go_iload_n (pc' := 89) rfl rfl rfl ?_
          obtain ⟨r_89, q_89, h⟩ := o_b1E h
          refine go_callV (pc' := 92) (B' := (0, 0)) (st' := [.inl r_89, .inl v1_66, .inr (.inr (Rf th 4))]) rfl rfl (Or.inl (by decide)) rfl rfl hth (md_83 (by omega) hth q_89) rfl rfl rfl ?_
          obtain ⟨g1, h⟩ := o_gE h
          obtain ⟨I_92, eI_92, h⟩ := o_b1E h
          refine go_iastore (pc' := 93) rfl (o_inK g1) (o_inB g1) rfl ?_
          refine go_ndMI eI_92 ?_
          obtain ⟨x1_93, ex1_93, h⟩ := o_b1E h
          refine go_iincE (pc' := 96) rfl rfl (y := (nI 1)) rfl ex1_93 (lo' := [some (.inr (.inr th)), some (.inl x1_93)]) rfl rfl ?_
          refine go_goto (pc' := 66) rfl rfl ?_
          exact (lp_backE h hk66 :))
    exact lo66 _ ((nI 0), I_61) hl66 
  have lo7 : ∀ n s, lp (fun s => m_81_b7 th Rf G s.1 s.2) n s = some q7 → (fun s => ai_Go si_t (8, false, 9, cd_81) (ai_Cl si_t si_ms e) (sp_Q none I1 J Rf G) 7 [some (.inr (.inr th)), some (.inl s.1)] [] (0, 0) s.2 J Rf G) s := lp_go (fun s x7 hx hk7 => by
    obtain ⟨v1_7, I_7⟩ := s
    have h : m_81_b7 th Rf G v1_7 I_7 = some x7 := hx
    clear hx
    show ai_Go si_t (8, false, 9, cd_81) (ai_Cl si_t si_ms e) (sp_Q none I1 J Rf G) 7 [some (.inr (.inr th)), some (.inl v1_7)] [] (0, 0) I_7 J Rf G
    unfold m_81_b7 at h
    refine go_iload_n (pc' := 8) rfl rfl rfl ?_
    refine go_sipush (pc' := 11) (v := (nI 256)) rfl rfl rfl ?_
    refine go_icmp_ge (pt := 60) (pc' := 14) rfl rfl rfl (fun h11 => ?_) (fun h11 => ?_)
    · replace h := o_t h11 h
      exact ex7_60 _ (some (.inl v1_7)) (lp_exitE h hk7)
    · replace h := o_f h11 h
      refine go_aload_n (pc' := 15) rfl rfl rfl ?_
      refine go_getR (pc' := 18) rfl rfl hth rfl ?_
      refine go_iload_n (pc' := 19) rfl rfl rfl ?_
      obtain ⟨g2, h⟩ := o_gE h
      refine go_iaload (pc' := 20) rfl (o_inK g2) (o_inB g2) rfl ?_
      refine go_ldc (pc' := 22) (v := .inl (-2147483648 : Int32)) rfl rfl rfl ?_
      refine go_icmp_eq (pt := 54) (pc' := 25) rfl rfl rfl (fun h22 => ?_) (fun h22 => ?_)
      · replace h := o_t h22 h
        obtain ⟨x1_54, ex1_54, h⟩ := o_b1E h
        refine go_iincE (pc' := 57) rfl rfl (y := (nI 1)) rfl ex1_54 (lo' := [some (.inr (.inr th)), some (.inl x1_54)]) rfl rfl ?_
        refine go_goto (pc' := 7) rfl rfl ?_
        exact (lp_backE h hk7 :)
      · replace h := o_f h22 h
        refine go_aload_n (pc' := 26) rfl rfl rfl ?_
        refine go_getI (pc' := 29) rfl rfl (by decide) (by decide) hth rfl ?_
        refine go_bipush (pc' := 31) (v := (nI 70)) rfl rfl rfl ?_
        refine go_icmp_ge (pt := 54) (pc' := 34) rfl rfl rfl (fun h31 => ?_) (fun h31 => ?_)
        · replace h := o_t h31 h
          obtain ⟨x1_54, ex1_54, h⟩ := o_b1E h
          refine go_iincE (pc' := 57) rfl rfl (y := (nI 1)) rfl ex1_54 (lo' := [some (.inr (.inr th)), some (.inl x1_54)]) rfl rfl ?_
          refine go_goto (pc' := 7) rfl rfl ?_
          exact (lp_backE h hk7 :)
        · replace h := o_f h31 h
          refine go_aload_n (pc' := 35) rfl rfl rfl ?_
          refine go_getR (pc' := 38) rfl rfl hth rfl ?_
          refine go_aload_n (pc' := 39) rfl rfl rfl ?_
          refine go_getI (pc' := 42) rfl rfl (by decide) (by decide) hth rfl ?_
          refine go_iload_n (pc' := 43) rfl rfl rfl ?_
          obtain ⟨g3, h⟩ := o_gE h
          obtain ⟨I_43, eI_43, h⟩ := o_b1E h
          refine go_iastore (pc' := 44) rfl (o_inK g3) (o_inB g3) rfl ?_
          refine go_ndMI eI_43 ?_
          refine go_aload_n (pc' := 45) rfl rfl rfl ?_
          refine go_dupR (pc' := 46) rfl rfl ?_
          refine go_getI (pc' := 49) rfl rfl (by decide) (by decide) hth rfl ?_
          refine go_iconst (pc' := 50) (v := (nI 1)) rfl rfl rfl ?_
          refine go_iadd (pc' := 51) rfl rfl ?_
          obtain ⟨I_51, eI_51, h⟩ := o_b1E h
          refine go_putI (pc' := 54) rfl rfl (fun h => by cases h) hth rfl ?_
          refine go_ndMI eI_51 ?_
          obtain ⟨x1_54, ex1_54, h⟩ := o_b1E h
          refine go_iincE (pc' := 57) rfl rfl (y := (nI 1)) rfl ex1_54 (lo' := [some (.inr (.inr th)), some (.inl x1_54)]) rfl rfl ?_
          refine go_goto (pc' := 7) rfl rfl ?_
          exact (lp_backE h hk7 :))
  exact lo7 _ ((nI 0), I_2) hl7 
def m_31_x4_41 (I : ai_I) : Option (Int32 × ai_I) :=
  some ((nI 0), I)
def m_31_x4_49 (th : Nat) (I : ai_I) (Rf : ai_R) (G : ai_G) (w1_49 : Int32) : Option (Int32 × ai_I) :=
  if w1_49 = 0 then (o_g (o_bz w1_49) (some (w1_49, I))) else (o_g (o_kd G (Rf th 0) 8) (o_b1 (m_81 (Rf th 0) I Rf G) (fun I_57 => o_g (o_bz w1_49) (some (w1_49, I_57)))))
def m_31_b4 (th : Nat) (I : ai_I) (Rf : ai_R) (G : ai_G) (v1_4 : Int32) (v2_4 : Int32) : Option ((Int32 × Int32) ⊕ (Unit ⊕ Int32)) :=
  if (nI 256) ≤ v2_4 then (some (Sum.inr (Sum.inr v1_4))) else (o_g (o_kd G (Rf th 0) 8) (o_g (o_in G 13 (Rf (Rf th 0) 3) v2_4) (o_b1 (some (I (Rf (Rf th 0) 3) v2_4.toNatClampNeg)) (fun x3_20 => if x3_20 = (-2147483648 : Int32) then (o_b1 (some (v2_4 + (nI 1))) (fun x2_43 => some (Sum.inl (v1_4, x2_43)))) else (if x3_20 < (-1000000 : Int32) then (some (Sum.inr (Sum.inl ()))) else (if x3_20 ≤ (nI 1000000) then (o_b1 (some (v2_4 + (nI 1))) (fun x2_43 => some (Sum.inl ((nI 1), x2_43)))) else (some (Sum.inr (Sum.inl ())))))))))
/-- PricedBases$Maker.isWhole()Z -/
def m_31 (th : Nat) (I : ai_I) (Rf : ai_R) (G : ai_G) : Option (Int32 × ai_I) :=
  o_s2 (lp (fun s => m_31_b4 th I Rf G s.1 s.2) o_N ((nI 0), (nI 0))) (fun t => m_31_x4_41 I) (fun t => m_31_x4_49 th I Rf G t)
theorem md_31 {d : Nat} {I : ai_I} {J : ai_J} {Rf : ai_R} {G : ai_G} {th : Nat} {r : Int32} {I1 : ai_I} (hd : 4 ≤ d) (hth : G.1 th = 3) (h : m_31 th I Rf G = some (r, I1)) : ai_Cl si_t si_ms d 31 [.inr (.inr th)] I J Rf G (some (.inl r)) I1 J Rf G := by
  obtain ⟨e, rfl⟩ : ∃ e, d = e + 1 := ⟨d - 1, by omega⟩
  unfold m_31 at h
  refine sp_in (lo := [some (.inr (.inr th)), none, none, none]) (B := (0, 0)) rfl (Nat.le_of_ble_eq_true rfl) rfl rfl ?_
  refine go_iconst (pc' := 1) (v := (nI 0)) rfl rfl rfl ?_
  refine go_istore_n (pc' := 2) (lo' := [some (.inr (.inr th)), some (.inl (nI 0)), none, none]) rfl rfl rfl ?_
  refine go_iconst (pc' := 3) (v := (nI 0)) rfl rfl rfl ?_
  refine go_istore_n (pc' := 4) (lo' := [some (.inr (.inr th)), some (.inl (nI 0)), some (.inl (nI 0)), none]) rfl rfl rfl ?_
  obtain ⟨q4, hl4, hc4_41, hc4_49⟩ := o_s2E h
  have ex4_41 : ∀ (z1_x41 : Option ai_V) (z2_x41 : Option ai_V) (z3_x41 : Option ai_V), (Sum.inl ()) = q4 → ai_Go si_t (3, false, 3, cd_31) (ai_Cl si_t si_ms e) (sp_Q (some (.inl r)) I1 J Rf G) 41 [some (.inr (.inr th)), z1_x41, z2_x41, z3_x41] [] (0, 0) I J Rf G := by
    intro z1_x41 z2_x41 z3_x41 hq
    have h : m_31_x4_41 I = some (r, I1) := hc4_41 () hq.symm
    unfold m_31_x4_41 at h
    refine go_iconst (pc' := 42) (v := (nI 0)) rfl rfl rfl ?_
    cases h
    exact go_iret rfl (rfl) ⟨rfl, rfl, rfl, rfl, rfl⟩
  have ex4_49 : ∀ (w1_49 : Int32) (z2_x49 : Option ai_V) (z3_x49 : Option ai_V), (Sum.inr w1_49) = q4 → ai_Go si_t (3, false, 3, cd_31) (ai_Cl si_t si_ms e) (sp_Q (some (.inl r)) I1 J Rf G) 49 [some (.inr (.inr th)), some (.inl w1_49), z2_x49, z3_x49] [] (0, 0) I J Rf G := by
    intro w1_49 z2_x49 z3_x49 hq
    have h : m_31_x4_49 th I Rf G w1_49 = some (r, I1) := hc4_49 w1_49 hq.symm
    unfold m_31_x4_49 at h
    refine go_iload_n (pc' := 50) rfl rfl rfl ?_
    refine go_if_eq (pt := 60) (pc' := 53) rfl rfl rfl (fun h50 => ?_) (fun h50 => ?_)
    · replace h := o_t h50 h
      refine go_iload_n (pc' := 61) rfl rfl rfl ?_
      obtain ⟨g0, h⟩ := o_gE h
      cases h
      exact go_iret rfl (o_bzE g0) ⟨rfl, rfl, rfl, rfl, rfl⟩
    · replace h := o_f h50 h
      refine go_aload_n (pc' := 54) rfl rfl rfl ?_
      refine go_getR (pc' := 57) rfl rfl hth rfl ?_
      obtain ⟨g1, h⟩ := o_gE h
      obtain ⟨I_57, q_57, h⟩ := o_b1E h
      refine go_callV (pc' := 60) (B' := (0, 0)) (st' := []) rfl rfl (Or.inl (by decide)) rfl rfl (o_kdE g1) (md_81 (by omega) (o_kdE g1) q_57) rfl rfl rfl ?_
      refine go_iload_n (pc' := 61) rfl rfl rfl ?_
      obtain ⟨g2, h⟩ := o_gE h
      cases h
      exact go_iret rfl (o_bzE g2) ⟨rfl, rfl, rfl, rfl, rfl⟩
  have lo4 : ∀ n s, lp (fun s => m_31_b4 th I Rf G s.1 s.2) n s = some q4 → (fun s => ∀ (z3_4 : Option ai_V), ai_Go si_t (3, false, 3, cd_31) (ai_Cl si_t si_ms e) (sp_Q (some (.inl r)) I1 J Rf G) 4 [some (.inr (.inr th)), some (.inl s.1), some (.inl s.2), z3_4] [] (0, 0) I J Rf G) s := lp_go (fun s x4 hx hk4 => by
    obtain ⟨v1_4, v2_4⟩ := s
    intro z3_4
    have h : m_31_b4 th I Rf G v1_4 v2_4 = some x4 := hx
    clear hx
    show ai_Go si_t (3, false, 3, cd_31) (ai_Cl si_t si_ms e) (sp_Q (some (.inl r)) I1 J Rf G) 4 [some (.inr (.inr th)), some (.inl v1_4), some (.inl v2_4), z3_4] [] (0, 0) I J Rf G
    unfold m_31_b4 at h
    refine go_iload_n (pc' := 5) rfl rfl rfl ?_
    refine go_sipush (pc' := 8) (v := (nI 256)) rfl rfl rfl ?_
    refine go_icmp_ge (pt := 49) (pc' := 11) rfl rfl rfl (fun h8 => ?_) (fun h8 => ?_)
    · replace h := o_t h8 h
      exact ex4_49 _ (some (.inl v2_4)) z3_4 (lp_exitE h hk4)
    · replace h := o_f h8 h
      refine go_aload_n (pc' := 12) rfl rfl rfl ?_
      refine go_getR (pc' := 15) rfl rfl hth rfl ?_
      obtain ⟨g3, h⟩ := o_gE h
      refine go_getR (pc' := 18) rfl rfl (o_kdE g3) rfl ?_
      refine go_iload_n (pc' := 19) rfl rfl rfl ?_
      obtain ⟨g4, h⟩ := o_gE h
      refine go_iaload (pc' := 20) rfl (o_inK g4) (o_inB g4) rfl ?_
      obtain ⟨x3_20, ex3_20, h⟩ := o_b1E h
      refine go_ndI ex3_20 ?_
      refine go_istore_n (pc' := 21) (lo' := [some (.inr (.inr th)), some (.inl v1_4), some (.inl v2_4), some (.inl x3_20)]) rfl rfl rfl ?_
      refine go_iload_n (pc' := 22) rfl rfl rfl ?_
      refine go_ldc (pc' := 24) (v := .inl (-2147483648 : Int32)) rfl rfl rfl ?_
      refine go_icmp_eq (pt := 43) (pc' := 27) rfl rfl rfl (fun h24 => ?_) (fun h24 => ?_)
      · replace h := o_t h24 h
        obtain ⟨x2_43, ex2_43, h⟩ := o_b1E h
        refine go_iincE (pc' := 46) rfl rfl (y := (nI 1)) rfl ex2_43 (lo' := [some (.inr (.inr th)), some (.inl v1_4), some (.inl x2_43), some (.inl x3_20)]) rfl rfl ?_
        refine go_goto (pc' := 4) rfl rfl ?_
        exact (lp_backE h hk4 (some (.inl x3_20)) :)
      · replace h := o_f h24 h
        refine go_iconst (pc' := 28) (v := (nI 1)) rfl rfl rfl ?_
        refine go_istore_n (pc' := 29) (lo' := [some (.inr (.inr th)), some (.inl (nI 1)), some (.inl v2_4), some (.inl x3_20)]) rfl rfl rfl ?_
        refine go_iload_n (pc' := 30) rfl rfl rfl ?_
        refine go_ldc (pc' := 32) (v := .inl (-1000000 : Int32)) rfl rfl rfl ?_
        refine go_icmp_lt (pt := 41) (pc' := 35) rfl rfl rfl (fun h32 => ?_) (fun h32 => ?_)
        · replace h := o_t h32 h
          exact ex4_41  (some (.inl (nI 1))) (some (.inl v2_4)) (some (.inl x3_20)) (lp_exitE h hk4)
        · replace h := o_f h32 h
          refine go_iload_n (pc' := 36) rfl rfl rfl ?_
          refine go_ldc (pc' := 38) (v := .inl (nI 1000000)) rfl rfl rfl ?_
          refine go_icmp_le (pt := 43) (pc' := 41) rfl rfl rfl (fun h38 => ?_) (fun h38 => ?_)
          · replace h := o_t h38 h
            obtain ⟨x2_43, ex2_43, h⟩ := o_b1E h
            refine go_iincE (pc' := 46) rfl rfl (y := (nI 1)) rfl ex2_43 (lo' := [some (.inr (.inr th)), some (.inl (nI 1)), some (.inl x2_43), some (.inl x3_20)]) rfl rfl ?_
            refine go_goto (pc' := 4) rfl rfl ?_
            exact (lp_backE h hk4 (some (.inl x3_20)) :)
          · replace h := o_f h38 h
            exact ex4_41  (some (.inl (nI 1))) (some (.inl v2_4)) (some (.inl x3_20)) (lp_exitE h hk4))
  exact lo4 _ ((nI 0), (nI 0)) hl4 none
def m_27_j68 (th : Nat) (Rf : ai_R) (G : ai_G) (y5_68 : Int32) (I_68 : ai_I) : Option (Int32 × ai_I) :=
  if y5_68 = 0 then (some ((nI 0), I_68)) else (o_b2 (m_31 th I_68 Rf G) (fun r_74 I_74 => if r_74 = 0 then (some ((nI 0), I_74)) else (some ((nI 1), I_74))))
def m_27_j66 (th : Nat) (Rf : ai_R) (G : ai_G) (t0_66 : Int32) (I_66 : ai_I) : Option (Int32 × ai_I) :=
  m_27_j68 th Rf G t0_66 I_66
def m_27_j65 (th : Nat) (Rf : ai_R) (G : ai_G) (I_65 : ai_I) : Option (Int32 × ai_I) :=
  m_27_j66 th Rf G (nI 0) I_65
/-- PricedBases$Maker.isMade(LPricedBases$Clauses;ILPricedBases$State;)Z -/
def m_27 (th : Nat) (a0 : Nat) (a1 : Int32) (a2 : Nat) (I : ai_I) (Rf : ai_R) (G : ai_G) : Option (Int32 × ai_I) :=
  o_g (o_kd G a0 0) (o_b1 (m_2 a0 a1 I Rf G) (fun r_2 => if (nI 4) < r_2 then (o_b1 (m_4 a0 a1 (nI 1) I Rf G) (fun r_30 => o_g (o_kd G a2 6) (o_b1 (m_65 a2 r_30 Rf G) (fun r_33 => if r_33 = 0 then (m_27_j65 th Rf G I) else (o_b1 (m_4 a0 a1 (nI 2) I Rf G) (fun r_51 => o_b2 (m_29 th r_2 r_33 r_51 a2 I Rf G) (fun r_55 I_55 => if r_55 = 0 then (m_27_j65 th Rf G I_55) else (m_27_j66 th Rf G (nI 1) I_55)))))))) else (o_b2 (m_28 th r_2 a0 a1 I Rf G) (fun r_18 I_18 => m_27_j68 th Rf G r_18 I_18))))
theorem md_27 {d : Nat} {I : ai_I} {J : ai_J} {Rf : ai_R} {G : ai_G} {th : Nat} {a0 : Nat} {a1 : Int32} {a2 : Nat} {r : Int32} {I1 : ai_I} (hd : 6 ≤ d) (hth : G.1 th = 3) (h : m_27 th a0 a1 a2 I Rf G = some (r, I1)) : ai_Cl si_t si_ms d 27 [.inr (.inr th), .inr (.inr a0), .inl a1, .inr (.inr a2)] I J Rf G (some (.inl r)) I1 J Rf G := by
  obtain ⟨e, rfl⟩ : ∃ e, d = e + 1 := ⟨d - 1, by omega⟩
  unfold m_27 at h
  refine sp_in (lo := [some (.inr (.inr th)), some (.inr (.inr a0)), some (.inl a1), some (.inr (.inr a2)), none, none, none]) (B := (0, 0)) rfl (Nat.le_of_ble_eq_true rfl) rfl rfl ?_
  refine go_aload_n (pc' := 1) rfl rfl rfl ?_
  refine go_iload_n (pc' := 2) rfl rfl rfl ?_
  obtain ⟨g0, h⟩ := o_gE h
  obtain ⟨r_2, q_2, h⟩ := o_b1E h
  refine go_callV (pc' := 5) (B' := (0, 0)) (st' := [.inl r_2]) rfl rfl (Or.inl (by decide)) rfl rfl (o_kdE g0) (md_2 (by omega) (o_kdE g0) q_2) rfl rfl rfl ?_
  refine go_istore (pc' := 7) (lo' := [some (.inr (.inr th)), some (.inr (.inr a0)), some (.inl a1), some (.inr (.inr a2)), some (.inl r_2), none, none]) rfl rfl rfl ?_
  refine go_iload (pc' := 9) rfl rfl rfl ?_
  refine go_iconst (pc' := 10) (v := (nI 4)) rfl rfl rfl ?_
  have jn68 : ∀ (y5_68 : Int32) (I_68 : ai_I) (z6_68 : Option ai_V), m_27_j68 th Rf G y5_68 I_68 = some (r, I1) → ai_Go si_t (3, false, 3, cd_27) (ai_Cl si_t si_ms e) (sp_Q (some (.inl r)) I1 J Rf G) 68 [some (.inr (.inr th)), some (.inr (.inr a0)), some (.inl a1), some (.inr (.inr a2)), some (.inl r_2), some (.inl y5_68), z6_68] [] (0, 0) I_68 J Rf G := by
    intro y5_68 I_68 z6_68 h
    unfold m_27_j68 at h
    refine go_iload (pc' := 70) rfl rfl rfl ?_
    refine go_if_eq (pt := 84) (pc' := 73) rfl rfl rfl (fun h70 => ?_) (fun h70 => ?_)
    · replace h := o_t h70 h
      refine go_iconst (pc' := 85) (v := (nI 0)) rfl rfl rfl ?_
      cases h
      exact go_iret rfl (rfl) ⟨rfl, rfl, rfl, rfl, rfl⟩
    · replace h := o_f h70 h
      refine go_aload_n (pc' := 74) rfl rfl rfl ?_
      obtain ⟨r_74, I_74, q_74, h⟩ := o_b2E h
      refine go_callV (pc' := 77) (B' := (0, 0)) (st' := [.inl r_74]) rfl rfl (Or.inl (by decide)) rfl rfl hth (md_31 (by omega) hth q_74) rfl rfl rfl ?_
      refine go_if_eq (pt := 84) (pc' := 80) rfl rfl rfl (fun h77 => ?_) (fun h77 => ?_)
      · replace h := o_t h77 h
        refine go_iconst (pc' := 85) (v := (nI 0)) rfl rfl rfl ?_
        cases h
        exact go_iret rfl (rfl) ⟨rfl, rfl, rfl, rfl, rfl⟩
      · replace h := o_f h77 h
        refine go_iconst (pc' := 81) (v := (nI 1)) rfl rfl rfl ?_
        refine go_goto (pc' := 85) rfl rfl ?_
        cases h
        exact go_iret rfl (rfl) ⟨rfl, rfl, rfl, rfl, rfl⟩
  refine go_icmp_gt (pt := 26) (pc' := 13) rfl rfl rfl (fun h10 => ?_) (fun h10 => ?_)
  · replace h := o_t h10 h
    refine go_aload_n (pc' := 27) rfl rfl rfl ?_
    refine go_aload_n (pc' := 28) rfl rfl rfl ?_
    refine go_iload_n (pc' := 29) rfl rfl rfl ?_
    refine go_iconst (pc' := 30) (v := (nI 1)) rfl rfl rfl ?_
    obtain ⟨r_30, q_30, h⟩ := o_b1E h
    refine go_callV (pc' := 33) (B' := (0, 0)) (st' := [.inl r_30, .inr (.inr a2)]) rfl rfl (Or.inl (by decide)) rfl rfl (o_kdE g0) (md_4 (by omega) (o_kdE g0) q_30) rfl rfl rfl ?_
    obtain ⟨g1, h⟩ := o_gE h
    obtain ⟨r_33, q_33, h⟩ := o_b1E h
    refine go_callV (pc' := 36) (B' := (0, 0)) (st' := [.inr (.inr r_33)]) rfl rfl (Or.inl (by decide)) rfl rfl (o_kdE g1) (md_65 (by omega) (o_kdE g1) q_33) rfl rfl rfl ?_
    refine go_astore (pc' := 38) (lo' := [some (.inr (.inr th)), some (.inr (.inr a0)), some (.inl a1), some (.inr (.inr a2)), some (.inl r_2), none, some (.inr (.inr r_33))]) rfl rfl rfl ?_
    refine go_aload (pc' := 40) rfl rfl rfl ?_
    have jn66 : ∀ (t0_66 : Int32) (I_66 : ai_I), m_27_j66 th Rf G t0_66 I_66 = some (r, I1) → ai_Go si_t (3, false, 3, cd_27) (ai_Cl si_t si_ms e) (sp_Q (some (.inl r)) I1 J Rf G) 66 [some (.inr (.inr th)), some (.inr (.inr a0)), some (.inl a1), some (.inr (.inr a2)), some (.inl r_2), none, some (.inr (.inr r_33))] [.inl t0_66] (0, 0) I_66 J Rf G := by
      intro t0_66 I_66 h
      unfold m_27_j66 at h
      refine go_istore (pc' := 68) (lo' := [some (.inr (.inr th)), some (.inr (.inr a0)), some (.inl a1), some (.inr (.inr a2)), some (.inl r_2), some (.inl t0_66), some (.inr (.inr r_33))]) rfl rfl rfl ?_
      exact jn68 t0_66 I_66 (some (.inr (.inr r_33))) h
    have jn65 : ∀ (I_65 : ai_I), m_27_j65 th Rf G I_65 = some (r, I1) → ai_Go si_t (3, false, 3, cd_27) (ai_Cl si_t si_ms e) (sp_Q (some (.inl r)) I1 J Rf G) 65 [some (.inr (.inr th)), some (.inr (.inr a0)), some (.inl a1), some (.inr (.inr a2)), some (.inl r_2), none, some (.inr (.inr r_33))] [] (0, 0) I_65 J Rf G := by
      intro I_65 h
      unfold m_27_j65 at h
      refine go_iconst (pc' := 66) (v := (nI 0)) rfl rfl rfl ?_
      exact jn66 (nI 0) I_65 h
    refine go_ifnull (pt := 65) (pc' := 43) rfl rfl rfl (fun h40 => ?_) (fun h40 => ?_)
    · replace h := o_t h40 h
      exact jn65 I h
    · replace h := o_f h40 h
      refine go_aload_n (pc' := 44) rfl rfl rfl ?_
      refine go_iload (pc' := 46) rfl rfl rfl ?_
      refine go_aload (pc' := 48) rfl rfl rfl ?_
      refine go_aload_n (pc' := 49) rfl rfl rfl ?_
      refine go_iload_n (pc' := 50) rfl rfl rfl ?_
      refine go_iconst (pc' := 51) (v := (nI 2)) rfl rfl rfl ?_
      obtain ⟨r_51, q_51, h⟩ := o_b1E h
      refine go_callV (pc' := 54) (B' := (0, 0)) (st' := [.inl r_51, .inr (.inr r_33), .inl r_2, .inr (.inr th)]) rfl rfl (Or.inl (by decide)) rfl rfl (o_kdE g0) (md_4 (by omega) (o_kdE g0) q_51) rfl rfl rfl ?_
      refine go_aload_n (pc' := 55) rfl rfl rfl ?_
      obtain ⟨r_55, I_55, q_55, h⟩ := o_b2E h
      refine go_callV (pc' := 58) (B' := (0, 0)) (st' := [.inl r_55]) rfl rfl (Or.inl (by decide)) rfl rfl hth (md_29 (by omega) hth q_55) rfl rfl rfl ?_
      refine go_if_eq (pt := 65) (pc' := 61) rfl rfl rfl (fun h58 => ?_) (fun h58 => ?_)
      · replace h := o_t h58 h
        exact jn65 I_55 h
      · replace h := o_f h58 h
        refine go_iconst (pc' := 62) (v := (nI 1)) rfl rfl rfl ?_
        refine go_goto (pc' := 66) rfl rfl ?_
        exact jn66 (nI 1) I_55 h
  · replace h := o_f h10 h
    refine go_aload_n (pc' := 14) rfl rfl rfl ?_
    refine go_iload (pc' := 16) rfl rfl rfl ?_
    refine go_aload_n (pc' := 17) rfl rfl rfl ?_
    refine go_iload_n (pc' := 18) rfl rfl rfl ?_
    obtain ⟨r_18, I_18, q_18, h⟩ := o_b2E h
    refine go_callV (pc' := 21) (B' := (0, 0)) (st' := [.inl r_18]) rfl rfl (Or.inl (by decide)) rfl rfl hth (md_28 (by omega) hth q_18) rfl rfl rfl ?_
    refine go_istore (pc' := 23) (lo' := [some (.inr (.inr th)), some (.inr (.inr a0)), some (.inl a1), some (.inr (.inr a2)), some (.inl r_2), some (.inl r_18), none]) rfl rfl rfl ?_
    refine go_goto (pc' := 68) rfl rfl ?_
    exact jn68 r_18 I_18 none h
/-- PricedBases$Rows.<init>()V -/
def m_47 (th : Nat) (I : ai_I) (J : ai_J) (Rf : ai_R) (G : ai_G) : Option (ai_I × ai_J × ai_R × ai_G) :=
  o_g (o_nn th) (o_g (o_lt9 G) (o_b1 (some (va_up I (G.2.2 + 1) (fun _ => 0))) (fun I_7 => o_b1 (some (va_up G.1 (G.2.2 + 1) 13, va_up G.2.1 (G.2.2 + 1) 8, G.2.2 + 1)) (fun G_7 => o_b1 (some (G.2.2 + 1)) (fun n_7 => o_g (o_kd G_7 th 4) (o_b1 (some (va_up Rf th (va_up (Rf th) 0 n_7))) (fun R_9 => o_g (o_lt9 G_7) (o_b1 (some (va_up I_7 (G_7.2.2 + 1) (fun _ => 0))) (fun I_15 => o_b1 (some (va_up G_7.1 (G_7.2.2 + 1) 13, va_up G_7.2.1 (G_7.2.2 + 1) 8, G_7.2.2 + 1)) (fun G_15 => o_b1 (some (G_7.2.2 + 1)) (fun n_15 => o_g (o_kd G_15 th 4) (o_b1 (some (va_up R_9 th (va_up (R_9 th) 1 n_15))) (fun R_17 => o_g (o_lt9 G_15) (o_b1 (some (va_up I_15 (G_15.2.2 + 1) (fun _ => 0))) (fun I_24 => o_b1 (some (va_up G_15.1 (G_15.2.2 + 1) 13, va_up G_15.2.1 (G_15.2.2 + 1) 256, G_15.2.2 + 1)) (fun G_24 => o_b1 (some (G_15.2.2 + 1)) (fun n_24 => o_g (o_kd G_24 th 4) (o_b1 (some (va_up R_17 th (va_up (R_17 th) 2 n_24))) (fun R_26 => o_g (o_lt9 G_24) (o_b1 (some (va_up J (G_24.2.2 + 1) (fun _ => 0))) (fun J_32 => o_b1 (some (va_up G_24.1 (G_24.2.2 + 1) 14, va_up G_24.2.1 (G_24.2.2 + 1) 8, G_24.2.2 + 1)) (fun G_32 => o_b1 (some (G_24.2.2 + 1)) (fun n_32 => o_g (o_kd G_32 th 4) (o_b1 (some (va_up R_26 th (va_up (R_26 th) 3 n_32))) (fun R_34 => o_g (o_lt9 G_32) (o_b1 (some (va_up J_32 (G_32.2.2 + 1) (fun _ => 0))) (fun J_40 => o_b1 (some (va_up G_32.1 (G_32.2.2 + 1) 14, va_up G_32.2.1 (G_32.2.2 + 1) 8, G_32.2.2 + 1)) (fun G_40 => o_b1 (some (G_32.2.2 + 1)) (fun n_40 => o_g (o_kd G_40 th 4) (o_b1 (some (va_up R_34 th (va_up (R_34 th) 4 n_40))) (fun R_42 => some (I_24, J_40, R_42, G_40))))))))))))))))))))))))))))))))
theorem md_47 {d : Nat} {I : ai_I} {J : ai_J} {Rf : ai_R} {G : ai_G} {th : Nat} {I1 : ai_I} {J1 : ai_J} {R1 : ai_R} {G1 : ai_G} (hd : 1 ≤ d) (hth : G.1 th = 4) (h : m_47 th I J Rf G = some (I1, J1, R1, G1)) : ai_Cl si_t si_ms d 47 [.inr (.inr th)] I J Rf G none I1 J1 R1 G1 := by
  obtain ⟨e, rfl⟩ : ∃ e, d = e + 1 := ⟨d - 1, by omega⟩
  unfold m_47 at h
  refine sp_in (lo := [some (.inr (.inr th))]) (B := (5, 288)) rfl (Nat.le_of_ble_eq_true rfl) rfl rfl ?_
  refine go_aload_n (pc' := 1) rfl rfl rfl ?_
  obtain ⟨g0, h⟩ := o_gE h
  refine go_obj (pc' := 4) rfl rfl (o_nnE g0) (Nat.le_of_ble_eq_true rfl) rfl ?_
  refine go_aload_n (pc' := 5) rfl rfl rfl ?_
  refine go_bipush (pc' := 7) (v := (nI 8)) rfl rfl rfl ?_
  obtain ⟨g1, h⟩ := o_gE h
  refine go_newI (pc' := 9) (N := 8) rfl (by decide) (by decide) (by decide) (by decide) (by decide) (o_lt9E g1) rfl ?_
  obtain ⟨I_7, eI_7, h⟩ := o_b1E h
  obtain ⟨G_7, eG_7, h⟩ := o_b1E h
  obtain ⟨n_7, en_7, h⟩ := o_b1E h
  refine go_ndMI eI_7 ?_
  refine go_ndMG eG_7 ?_
  refine go_ndR en_7 ?_
  refine go_ndB (B' := (4, 280)) rfl ?_
  obtain ⟨g2, h⟩ := o_gE h
  obtain ⟨R_9, eR_9, h⟩ := o_b1E h
  refine go_putR (pc' := 12) rfl rfl (fun _ => ⟨rfl, rfl⟩) (o_kdE g2) rfl ?_
  refine go_ndMR eR_9 ?_
  refine go_aload_n (pc' := 13) rfl rfl rfl ?_
  refine go_bipush (pc' := 15) (v := (nI 8)) rfl rfl rfl ?_
  obtain ⟨g3, h⟩ := o_gE h
  refine go_newI (pc' := 17) (N := 8) rfl (by decide) (by decide) (by decide) (by decide) (by decide) (o_lt9E g3) rfl ?_
  obtain ⟨I_15, eI_15, h⟩ := o_b1E h
  obtain ⟨G_15, eG_15, h⟩ := o_b1E h
  obtain ⟨n_15, en_15, h⟩ := o_b1E h
  refine go_ndMI eI_15 ?_
  refine go_ndMG eG_15 ?_
  refine go_ndR en_15 ?_
  refine go_ndB (B' := (3, 272)) rfl ?_
  obtain ⟨g4, h⟩ := o_gE h
  obtain ⟨R_17, eR_17, h⟩ := o_b1E h
  refine go_putR (pc' := 20) rfl rfl (fun _ => ⟨rfl, rfl⟩) (o_kdE g4) rfl ?_
  refine go_ndMR eR_17 ?_
  refine go_aload_n (pc' := 21) rfl rfl rfl ?_
  refine go_sipush (pc' := 24) (v := (nI 256)) rfl rfl rfl ?_
  obtain ⟨g5, h⟩ := o_gE h
  refine go_newI (pc' := 26) (N := 256) rfl (by decide) (by decide) (by decide) (by decide) (by decide) (o_lt9E g5) rfl ?_
  obtain ⟨I_24, eI_24, h⟩ := o_b1E h
  obtain ⟨G_24, eG_24, h⟩ := o_b1E h
  obtain ⟨n_24, en_24, h⟩ := o_b1E h
  refine go_ndMI eI_24 ?_
  refine go_ndMG eG_24 ?_
  refine go_ndR en_24 ?_
  refine go_ndB (B' := (2, 16)) rfl ?_
  obtain ⟨g6, h⟩ := o_gE h
  obtain ⟨R_26, eR_26, h⟩ := o_b1E h
  refine go_putR (pc' := 29) rfl rfl (fun _ => ⟨rfl, rfl⟩) (o_kdE g6) rfl ?_
  refine go_ndMR eR_26 ?_
  refine go_aload_n (pc' := 30) rfl rfl rfl ?_
  refine go_bipush (pc' := 32) (v := (nI 8)) rfl rfl rfl ?_
  obtain ⟨g7, h⟩ := o_gE h
  refine go_newJ (pc' := 34) (N := 8) rfl (by decide) (by decide) (by decide) (by decide) (by decide) (o_lt9E g7) rfl ?_
  obtain ⟨J_32, eJ_32, h⟩ := o_b1E h
  obtain ⟨G_32, eG_32, h⟩ := o_b1E h
  obtain ⟨n_32, en_32, h⟩ := o_b1E h
  refine go_ndMJ eJ_32 ?_
  refine go_ndMG eG_32 ?_
  refine go_ndR en_32 ?_
  refine go_ndB (B' := (1, 8)) rfl ?_
  obtain ⟨g8, h⟩ := o_gE h
  obtain ⟨R_34, eR_34, h⟩ := o_b1E h
  refine go_putR (pc' := 37) rfl rfl (fun _ => ⟨rfl, rfl⟩) (o_kdE g8) rfl ?_
  refine go_ndMR eR_34 ?_
  refine go_aload_n (pc' := 38) rfl rfl rfl ?_
  refine go_bipush (pc' := 40) (v := (nI 8)) rfl rfl rfl ?_
  obtain ⟨g9, h⟩ := o_gE h
  refine go_newJ (pc' := 42) (N := 8) rfl (by decide) (by decide) (by decide) (by decide) (by decide) (o_lt9E g9) rfl ?_
  obtain ⟨J_40, eJ_40, h⟩ := o_b1E h
  obtain ⟨G_40, eG_40, h⟩ := o_b1E h
  obtain ⟨n_40, en_40, h⟩ := o_b1E h
  refine go_ndMJ eJ_40 ?_
  refine go_ndMG eG_40 ?_
  refine go_ndR en_40 ?_
  refine go_ndB (B' := (0, 0)) rfl ?_
  obtain ⟨g10, h⟩ := o_gE h
  obtain ⟨R_42, eR_42, h⟩ := o_b1E h
  refine go_putR (pc' := 45) rfl rfl (fun _ => ⟨rfl, rfl⟩) (o_kdE g10) rfl ?_
  refine go_ndMR eR_42 ?_
  cases h
  exact go_vret rfl (rfl) ⟨rfl, rfl, rfl, rfl, rfl⟩
def m_48_x7_32 (w1_32 : Int32) : Option (Int32) :=
  some w1_32
def m_48_b7 (a0 : Nat) (I : ai_I) (Rf : ai_R) (G : ai_G) (v1_7 : Int32) (v2_7 : Int32) : Option ((Int32 × Int32) ⊕ Int32) :=
  if (I a0 2) ≤ v2_7 then (some (Sum.inr v1_7)) else (o_g (o_in G 13 (Rf a0 5) v2_7) (o_b1 (some (v1_7 &&& ((I (Rf a0 5) v2_7.toNatClampNeg) ^^^ (-1 : Int32)))) (fun x1_25 => o_b1 (some (v2_7 + (nI 1))) (fun x2_26 => some (Sum.inl (x1_25, x2_26))))))
/-- PricedBases$Shape.loops(LPricedBases$Valuation;)I -/
def m_48 (a0 : Nat) (I : ai_I) (Rf : ai_R) (G : ai_G) : Option (Int32) :=
  o_g (o_kd G a0 8) (o_b1 (m_86 a0 I) (fun r_1 => o_s1 (lp (fun s => m_48_b7 a0 I Rf G s.1 s.2) o_N (r_1, (nI 0))) (fun t => m_48_x7_32 t)))
theorem md_48 {d : Nat} {I : ai_I} {J : ai_J} {Rf : ai_R} {G : ai_G} {a0 : Nat} {r : Int32} (hd : 3 ≤ d) (h : m_48 a0 I Rf G = some r) : ai_Cl si_t si_ms d 48 [.inr (.inr a0)] I J Rf G (some (.inl r)) I J Rf G := by
  obtain ⟨e, rfl⟩ : ∃ e, d = e + 1 := ⟨d - 1, by omega⟩
  unfold m_48 at h
  refine sp_in (lo := [some (.inr (.inr a0)), none, none]) (B := (0, 0)) rfl (Nat.le_of_ble_eq_true rfl) rfl rfl ?_
  refine go_aload_n (pc' := 1) rfl rfl rfl ?_
  obtain ⟨g0, h⟩ := o_gE h
  obtain ⟨r_1, q_1, h⟩ := o_b1E h
  refine go_callV (pc' := 4) (B' := (0, 0)) (st' := [.inl r_1]) rfl rfl (Or.inl (by decide)) rfl rfl (o_kdE g0) (md_86 (by omega) (o_kdE g0) q_1) rfl rfl rfl ?_
  refine go_istore_n (pc' := 5) (lo' := [some (.inr (.inr a0)), some (.inl r_1), none]) rfl rfl rfl ?_
  refine go_iconst (pc' := 6) (v := (nI 0)) rfl rfl rfl ?_
  refine go_istore_n (pc' := 7) (lo' := [some (.inr (.inr a0)), some (.inl r_1), some (.inl (nI 0))]) rfl rfl rfl ?_
  obtain ⟨q7, hl7, hc7_32⟩ := o_s1E h
  have ex7_32 : ∀ (w1_32 : Int32) (z2_x32 : Option ai_V), w1_32 = q7 → ai_Go si_t (20, false, 0, cd_48) (ai_Cl si_t si_ms e) (sp_Q (some (.inl r)) I J Rf G) 32 [some (.inr (.inr a0)), some (.inl w1_32), z2_x32] [] (0, 0) I J Rf G := by
    intro w1_32 z2_x32 hq
    have h : m_48_x7_32 w1_32 = some r := hc7_32 w1_32 hq.symm
    unfold m_48_x7_32 at h
    refine go_iload_n (pc' := 33) rfl rfl rfl ?_
    cases h
    exact go_iret rfl (trivial) ⟨rfl, rfl, rfl, rfl, rfl⟩
  have lo7 : ∀ n s, lp (fun s => m_48_b7 a0 I Rf G s.1 s.2) n s = some q7 → (fun s => ai_Go si_t (20, false, 0, cd_48) (ai_Cl si_t si_ms e) (sp_Q (some (.inl r)) I J Rf G) 7 [some (.inr (.inr a0)), some (.inl s.1), some (.inl s.2)] [] (0, 0) I J Rf G) s := lp_go (fun s x7 hx hk7 => by
    obtain ⟨v1_7, v2_7⟩ := s
    have h : m_48_b7 a0 I Rf G v1_7 v2_7 = some x7 := hx
    clear hx
    show ai_Go si_t (20, false, 0, cd_48) (ai_Cl si_t si_ms e) (sp_Q (some (.inl r)) I J Rf G) 7 [some (.inr (.inr a0)), some (.inl v1_7), some (.inl v2_7)] [] (0, 0) I J Rf G
    unfold m_48_b7 at h
    refine go_iload_n (pc' := 8) rfl rfl rfl ?_
    refine go_aload_n (pc' := 9) rfl rfl rfl ?_
    refine go_getI (pc' := 12) rfl rfl (by decide) (by decide) (o_kdE g0) rfl ?_
    refine go_icmp_ge (pt := 32) (pc' := 15) rfl rfl rfl (fun h12 => ?_) (fun h12 => ?_)
    · replace h := o_t h12 h
      exact ex7_32 _ (some (.inl v2_7)) (lp_exitE h hk7)
    · replace h := o_f h12 h
      refine go_iload_n (pc' := 16) rfl rfl rfl ?_
      refine go_aload_n (pc' := 17) rfl rfl rfl ?_
      refine go_getR (pc' := 20) rfl rfl (o_kdE g0) rfl ?_
      refine go_iload_n (pc' := 21) rfl rfl rfl ?_
      obtain ⟨g1, h⟩ := o_gE h
      refine go_iaload (pc' := 22) rfl (o_inK g1) (o_inB g1) rfl ?_
      refine go_iconst (pc' := 23) (v := (-1 : Int32)) rfl rfl rfl ?_
      refine go_ixor (pc' := 24) rfl rfl ?_
      refine go_iand (pc' := 25) rfl rfl ?_
      obtain ⟨x1_25, ex1_25, h⟩ := o_b1E h
      refine go_ndI ex1_25 ?_
      refine go_istore_n (pc' := 26) (lo' := [some (.inr (.inr a0)), some (.inl x1_25), some (.inl v2_7)]) rfl rfl rfl ?_
      obtain ⟨x2_26, ex2_26, h⟩ := o_b1E h
      refine go_iincE (pc' := 29) rfl rfl (y := (nI 1)) rfl ex2_26 (lo' := [some (.inr (.inr a0)), some (.inl x1_25), some (.inl x2_26)]) rfl rfl ?_
      refine go_goto (pc' := 7) rfl rfl ?_
      exact (lp_backE h hk7 :))
  exact lo7 _ (r_1, (nI 0)) hl7 
def m_49_x7_30 (w1_30 : Int32) : Option (Int32) :=
  some w1_30
def m_49_b7 (a0 : Nat) (I : ai_I) (Rf : ai_R) (G : ai_G) (v1_7 : Int32) (v2_7 : Int32) : Option ((Int32 × Int32) ⊕ Int32) :=
  if (I a0 2) ≤ v2_7 then (some (Sum.inr v1_7)) else (o_g (o_in G 13 (Rf a0 5) v2_7) (o_b1 (some (v1_7 &&& (I (Rf a0 5) v2_7.toNatClampNeg))) (fun x1_23 => o_b1 (some (v2_7 + (nI 1))) (fun x2_24 => some (Sum.inl (x1_23, x2_24))))))
/-- PricedBases$Shape.bridges(LPricedBases$Valuation;)I -/
def m_49 (a0 : Nat) (I : ai_I) (Rf : ai_R) (G : ai_G) : Option (Int32) :=
  o_g (o_kd G a0 8) (o_b1 (m_86 a0 I) (fun r_1 => o_s1 (lp (fun s => m_49_b7 a0 I Rf G s.1 s.2) o_N (r_1, (nI 0))) (fun t => m_49_x7_30 t)))
theorem md_49 {d : Nat} {I : ai_I} {J : ai_J} {Rf : ai_R} {G : ai_G} {a0 : Nat} {r : Int32} (hd : 3 ≤ d) (h : m_49 a0 I Rf G = some r) : ai_Cl si_t si_ms d 49 [.inr (.inr a0)] I J Rf G (some (.inl r)) I J Rf G := by
  obtain ⟨e, rfl⟩ : ∃ e, d = e + 1 := ⟨d - 1, by omega⟩
  unfold m_49 at h
  refine sp_in (lo := [some (.inr (.inr a0)), none, none]) (B := (0, 0)) rfl (Nat.le_of_ble_eq_true rfl) rfl rfl ?_
  refine go_aload_n (pc' := 1) rfl rfl rfl ?_
  obtain ⟨g0, h⟩ := o_gE h
  obtain ⟨r_1, q_1, h⟩ := o_b1E h
  refine go_callV (pc' := 4) (B' := (0, 0)) (st' := [.inl r_1]) rfl rfl (Or.inl (by decide)) rfl rfl (o_kdE g0) (md_86 (by omega) (o_kdE g0) q_1) rfl rfl rfl ?_
  refine go_istore_n (pc' := 5) (lo' := [some (.inr (.inr a0)), some (.inl r_1), none]) rfl rfl rfl ?_
  refine go_iconst (pc' := 6) (v := (nI 0)) rfl rfl rfl ?_
  refine go_istore_n (pc' := 7) (lo' := [some (.inr (.inr a0)), some (.inl r_1), some (.inl (nI 0))]) rfl rfl rfl ?_
  obtain ⟨q7, hl7, hc7_30⟩ := o_s1E h
  have ex7_30 : ∀ (w1_30 : Int32) (z2_x30 : Option ai_V), w1_30 = q7 → ai_Go si_t (20, false, 0, cd_49) (ai_Cl si_t si_ms e) (sp_Q (some (.inl r)) I J Rf G) 30 [some (.inr (.inr a0)), some (.inl w1_30), z2_x30] [] (0, 0) I J Rf G := by
    intro w1_30 z2_x30 hq
    have h : m_49_x7_30 w1_30 = some r := hc7_30 w1_30 hq.symm
    unfold m_49_x7_30 at h
    refine go_iload_n (pc' := 31) rfl rfl rfl ?_
    cases h
    exact go_iret rfl (trivial) ⟨rfl, rfl, rfl, rfl, rfl⟩
  have lo7 : ∀ n s, lp (fun s => m_49_b7 a0 I Rf G s.1 s.2) n s = some q7 → (fun s => ai_Go si_t (20, false, 0, cd_49) (ai_Cl si_t si_ms e) (sp_Q (some (.inl r)) I J Rf G) 7 [some (.inr (.inr a0)), some (.inl s.1), some (.inl s.2)] [] (0, 0) I J Rf G) s := lp_go (fun s x7 hx hk7 => by
    obtain ⟨v1_7, v2_7⟩ := s
    have h : m_49_b7 a0 I Rf G v1_7 v2_7 = some x7 := hx
    clear hx
    show ai_Go si_t (20, false, 0, cd_49) (ai_Cl si_t si_ms e) (sp_Q (some (.inl r)) I J Rf G) 7 [some (.inr (.inr a0)), some (.inl v1_7), some (.inl v2_7)] [] (0, 0) I J Rf G
    unfold m_49_b7 at h
    refine go_iload_n (pc' := 8) rfl rfl rfl ?_
    refine go_aload_n (pc' := 9) rfl rfl rfl ?_
    refine go_getI (pc' := 12) rfl rfl (by decide) (by decide) (o_kdE g0) rfl ?_
    refine go_icmp_ge (pt := 30) (pc' := 15) rfl rfl rfl (fun h12 => ?_) (fun h12 => ?_)
    · replace h := o_t h12 h
      exact ex7_30 _ (some (.inl v2_7)) (lp_exitE h hk7)
    · replace h := o_f h12 h
      refine go_iload_n (pc' := 16) rfl rfl rfl ?_
      refine go_aload_n (pc' := 17) rfl rfl rfl ?_
      refine go_getR (pc' := 20) rfl rfl (o_kdE g0) rfl ?_
      refine go_iload_n (pc' := 21) rfl rfl rfl ?_
      obtain ⟨g1, h⟩ := o_gE h
      refine go_iaload (pc' := 22) rfl (o_inK g1) (o_inB g1) rfl ?_
      refine go_iand (pc' := 23) rfl rfl ?_
      obtain ⟨x1_23, ex1_23, h⟩ := o_b1E h
      refine go_ndI ex1_23 ?_
      refine go_istore_n (pc' := 24) (lo' := [some (.inr (.inr a0)), some (.inl x1_23), some (.inl v2_7)]) rfl rfl rfl ?_
      obtain ⟨x2_24, ex2_24, h⟩ := o_b1E h
      refine go_iincE (pc' := 27) rfl rfl (y := (nI 1)) rfl ex2_24 (lo' := [some (.inr (.inr a0)), some (.inl x1_23), some (.inl x2_24)]) rfl rfl ?_
      refine go_goto (pc' := 7) rfl rfl ?_
      exact (lp_backE h hk7 :))
  exact lo7 _ (r_1, (nI 0)) hl7 
/-- PricedBases$Valuation.isFree(I)Z -/
def m_90 (th : Nat) (a0 : Int32) (I : ai_I) (Rf : ai_R) (G : ai_G) : Option (Int32) :=
  o_g (o_in G 13 (Rf th 4) a0) (o_b1 (m_115 a0) (fun r_7 => if (I (Rf th 4) a0.toNatClampNeg) = r_7 then (some (nI 1)) else (some (nI 0))))
theorem md_90 {d : Nat} {I : ai_I} {J : ai_J} {Rf : ai_R} {G : ai_G} {th : Nat} {a0 : Int32} {r : Int32} (hd : 2 ≤ d) (hth : G.1 th = 8) (h : m_90 th a0 I Rf G = some r) : ai_Cl si_t si_ms d 90 [.inr (.inr th), .inl a0] I J Rf G (some (.inl r)) I J Rf G := by
  obtain ⟨e, rfl⟩ : ∃ e, d = e + 1 := ⟨d - 1, by omega⟩
  unfold m_90 at h
  refine sp_in (lo := [some (.inr (.inr th)), some (.inl a0)]) (B := (0, 0)) rfl (Nat.le_of_ble_eq_true rfl) rfl rfl ?_
  refine go_aload_n (pc' := 1) rfl rfl rfl ?_
  refine go_getR (pc' := 4) rfl rfl hth rfl ?_
  refine go_iload_n (pc' := 5) rfl rfl rfl ?_
  obtain ⟨g0, h⟩ := o_gE h
  refine go_iaload (pc' := 6) rfl (o_inK g0) (o_inB g0) rfl ?_
  refine go_iload_n (pc' := 7) rfl rfl rfl ?_
  obtain ⟨r_7, q_7, h⟩ := o_b1E h
  refine go_callS (pc' := 10) (B' := (0, 0)) (st' := [.inl r_7, .inl (I (Rf th 4) a0.toNatClampNeg)]) rfl rfl (Or.inl (by decide)) rfl rfl trivial (md_115 (by omega) q_7) rfl rfl rfl ?_
  refine go_icmp_ne (pt := 17) (pc' := 13) rfl rfl rfl (fun h10 => ?_) (fun h10 => ?_)
  · replace h := o_f h10 h
    refine go_iconst (pc' := 18) (v := (nI 0)) rfl rfl rfl ?_
    cases h
    exact go_iret rfl (rfl) ⟨rfl, rfl, rfl, rfl, rfl⟩
  · replace h := o_t (Decidable.of_not_not h10) h
    refine go_iconst (pc' := 14) (v := (nI 1)) rfl rfl rfl ?_
    refine go_goto (pc' := 18) rfl rfl ?_
    cases h
    exact go_iret rfl (rfl) ⟨rfl, rfl, rfl, rfl, rfl⟩
/-- PricedBases.bit(Z)I -/
def m_112 (a0 : Int32) : Option (Int32) :=
  if a0 = 0 then (some (nI 0)) else (some (nI 1))
theorem md_112 {d : Nat} {I : ai_I} {J : ai_J} {Rf : ai_R} {G : ai_G} {a0 : Int32} {r : Int32} (hd : 1 ≤ d) (h : m_112 a0 = some r) : ai_Cl si_t si_ms d 112 [.inl a0] I J Rf G (some (.inl r)) I J Rf G := by
  obtain ⟨e, rfl⟩ : ∃ e, d = e + 1 := ⟨d - 1, by omega⟩
  unfold m_112 at h
  refine sp_in (lo := [some (.inl a0)]) (B := (0, 0)) rfl (Nat.le_of_ble_eq_true rfl) rfl rfl ?_
  refine go_iload_n (pc' := 1) rfl rfl rfl ?_
  refine go_if_eq (pt := 8) (pc' := 4) rfl rfl rfl (fun h1 => ?_) (fun h1 => ?_)
  · replace h := o_t h1 h
    refine go_iconst (pc' := 9) (v := (nI 0)) rfl rfl rfl ?_
    cases h
    exact go_iret rfl (trivial) ⟨rfl, rfl, rfl, rfl, rfl⟩
  · replace h := o_f h1 h
    refine go_iconst (pc' := 5) (v := (nI 1)) rfl rfl rfl ?_
    refine go_goto (pc' := 9) rfl rfl ?_
    cases h
    exact go_iret rfl (trivial) ⟨rfl, rfl, rfl, rfl, rfl⟩
def m_50_x4_29 (w1_29 : Int32) : Option (Int32) :=
  some w1_29
def m_50_b4 (a0 : Nat) (I : ai_I) (Rf : ai_R) (G : ai_G) (v1_4 : Int32) (v2_4 : Int32) : Option ((Int32 × Int32) ⊕ Int32) :=
  o_g (o_kd G a0 8) (o_b1 (m_85 a0 I) (fun r_6 => if r_6 ≤ v2_4 then (some (Sum.inr v1_4)) else (o_b1 (m_90 a0 v2_4 I Rf G) (fun r_15 => o_b1 (m_112 r_15) (fun r_18 => o_b1 (some (v1_4 + r_18)) (fun x1_22 => o_b1 (some (v2_4 + (nI 1))) (fun x2_23 => some (Sum.inl (x1_22, x2_23)))))))))
/-- PricedBases$Shape.freeSets(LPricedBases$Valuation;)I -/
def m_50 (a0 : Nat) (I : ai_I) (Rf : ai_R) (G : ai_G) : Option (Int32) :=
  o_s1 (lp (fun s => m_50_b4 a0 I Rf G s.1 s.2) o_N ((nI 0), (nI 0))) (fun t => m_50_x4_29 t)
theorem md_50 {d : Nat} {I : ai_I} {J : ai_J} {Rf : ai_R} {G : ai_G} {a0 : Nat} {r : Int32} (hd : 3 ≤ d) (h : m_50 a0 I Rf G = some r) : ai_Cl si_t si_ms d 50 [.inr (.inr a0)] I J Rf G (some (.inl r)) I J Rf G := by
  obtain ⟨e, rfl⟩ : ∃ e, d = e + 1 := ⟨d - 1, by omega⟩
  unfold m_50 at h
  refine sp_in (lo := [some (.inr (.inr a0)), none, none]) (B := (0, 0)) rfl (Nat.le_of_ble_eq_true rfl) rfl rfl ?_
  refine go_iconst (pc' := 1) (v := (nI 0)) rfl rfl rfl ?_
  refine go_istore_n (pc' := 2) (lo' := [some (.inr (.inr a0)), some (.inl (nI 0)), none]) rfl rfl rfl ?_
  refine go_iconst (pc' := 3) (v := (nI 0)) rfl rfl rfl ?_
  refine go_istore_n (pc' := 4) (lo' := [some (.inr (.inr a0)), some (.inl (nI 0)), some (.inl (nI 0))]) rfl rfl rfl ?_
  obtain ⟨q4, hl4, hc4_29⟩ := o_s1E h
  have ex4_29 : ∀ (w1_29 : Int32) (z2_x29 : Option ai_V), w1_29 = q4 → ai_Go si_t (20, false, 0, cd_50) (ai_Cl si_t si_ms e) (sp_Q (some (.inl r)) I J Rf G) 29 [some (.inr (.inr a0)), some (.inl w1_29), z2_x29] [] (0, 0) I J Rf G := by
    intro w1_29 z2_x29 hq
    have h : m_50_x4_29 w1_29 = some r := hc4_29 w1_29 hq.symm
    unfold m_50_x4_29 at h
    refine go_iload_n (pc' := 30) rfl rfl rfl ?_
    cases h
    exact go_iret rfl (trivial) ⟨rfl, rfl, rfl, rfl, rfl⟩
  have lo4 : ∀ n s, lp (fun s => m_50_b4 a0 I Rf G s.1 s.2) n s = some q4 → (fun s => ai_Go si_t (20, false, 0, cd_50) (ai_Cl si_t si_ms e) (sp_Q (some (.inl r)) I J Rf G) 4 [some (.inr (.inr a0)), some (.inl s.1), some (.inl s.2)] [] (0, 0) I J Rf G) s := lp_go (fun s x4 hx hk4 => by
    obtain ⟨v1_4, v2_4⟩ := s
    have h : m_50_b4 a0 I Rf G v1_4 v2_4 = some x4 := hx
    clear hx
    show ai_Go si_t (20, false, 0, cd_50) (ai_Cl si_t si_ms e) (sp_Q (some (.inl r)) I J Rf G) 4 [some (.inr (.inr a0)), some (.inl v1_4), some (.inl v2_4)] [] (0, 0) I J Rf G
    unfold m_50_b4 at h
    refine go_iload_n (pc' := 5) rfl rfl rfl ?_
    refine go_aload_n (pc' := 6) rfl rfl rfl ?_
    obtain ⟨g0, h⟩ := o_gE h
    obtain ⟨r_6, q_6, h⟩ := o_b1E h
    refine go_callV (pc' := 9) (B' := (0, 0)) (st' := [.inl r_6, .inl v2_4]) rfl rfl (Or.inl (by decide)) rfl rfl (o_kdE g0) (md_85 (by omega) (o_kdE g0) q_6) rfl rfl rfl ?_
    refine go_icmp_ge (pt := 29) (pc' := 12) rfl rfl rfl (fun h9 => ?_) (fun h9 => ?_)
    · replace h := o_t h9 h
      exact ex4_29 _ (some (.inl v2_4)) (lp_exitE h hk4)
    · replace h := o_f h9 h
      refine go_iload_n (pc' := 13) rfl rfl rfl ?_
      refine go_aload_n (pc' := 14) rfl rfl rfl ?_
      refine go_iload_n (pc' := 15) rfl rfl rfl ?_
      obtain ⟨r_15, q_15, h⟩ := o_b1E h
      refine go_callV (pc' := 18) (B' := (0, 0)) (st' := [.inl r_15, .inl v1_4]) rfl rfl (Or.inl (by decide)) rfl rfl (o_kdE g0) (md_90 (by omega) (o_kdE g0) q_15) rfl rfl rfl ?_
      obtain ⟨r_18, q_18, h⟩ := o_b1E h
      refine go_callS (pc' := 21) (B' := (0, 0)) (st' := [.inl r_18, .inl v1_4]) rfl rfl (Or.inl (by decide)) rfl rfl trivial (md_112 (by omega) q_18) rfl rfl rfl ?_
      refine go_iadd (pc' := 22) rfl rfl ?_
      obtain ⟨x1_22, ex1_22, h⟩ := o_b1E h
      refine go_ndI ex1_22 ?_
      refine go_istore_n (pc' := 23) (lo' := [some (.inr (.inr a0)), some (.inl x1_22), some (.inl v2_4)]) rfl rfl rfl ?_
      obtain ⟨x2_23, ex2_23, h⟩ := o_b1E h
      refine go_iincE (pc' := 26) rfl rfl (y := (nI 1)) rfl ex2_23 (lo' := [some (.inr (.inr a0)), some (.inl x1_22), some (.inl x2_23)]) rfl rfl ?_
      refine go_goto (pc' := 4) rfl rfl ?_
      exact (lp_backE h hk4 :))
  exact lo4 _ ((nI 0), (nI 0)) hl4 
def m_51_x4_45 (w2_45 : Int32) : Option (Int32) :=
  some w2_45
def m_51_j34 (v2_4 : Int32) (v3_4 : Int32) (t1_34 : Int32) : Option ((Int32 × Int32) ⊕ Int32) :=
  o_b1 (m_112 t1_34) (fun r_34 => o_b1 (some (v2_4 + r_34)) (fun x2_38 => o_b1 (some (v3_4 + (nI 1))) (fun x3_39 => some (Sum.inl (x2_38, x3_39)))))
def m_51_j33 (v2_4 : Int32) (v3_4 : Int32) : Option ((Int32 × Int32) ⊕ Int32) :=
  m_51_j34 v2_4 v3_4 (nI 0)
def m_51_b4 (a0 : Nat) (a1 : Int32) (I : ai_I) (Rf : ai_R) (G : ai_G) (v2_4 : Int32) (v3_4 : Int32) : Option ((Int32 × Int32) ⊕ Int32) :=
  o_g (o_kd G a0 8) (o_b1 (m_85 a0 I) (fun r_6 => if r_6 ≤ v3_4 then (some (Sum.inr v2_4)) else (o_b1 (m_115 v3_4) (fun r_14 => if r_14 = a1 then (o_b1 (m_90 a0 v3_4 I Rf G) (fun r_23 => if r_23 = 0 then (m_51_j33 v2_4 v3_4) else (m_51_j34 v2_4 v3_4 (nI 1)))) else (m_51_j33 v2_4 v3_4)))))
/-- PricedBases$Shape.freeSized(LPricedBases$Valuation;I)I -/
def m_51 (a0 : Nat) (a1 : Int32) (I : ai_I) (Rf : ai_R) (G : ai_G) : Option (Int32) :=
  o_s1 (lp (fun s => m_51_b4 a0 a1 I Rf G s.1 s.2) o_N ((nI 0), (nI 0))) (fun t => m_51_x4_45 t)
theorem md_51 {d : Nat} {I : ai_I} {J : ai_J} {Rf : ai_R} {G : ai_G} {a0 : Nat} {a1 : Int32} {r : Int32} (hd : 3 ≤ d) (h : m_51 a0 a1 I Rf G = some r) : ai_Cl si_t si_ms d 51 [.inr (.inr a0), .inl a1] I J Rf G (some (.inl r)) I J Rf G := by
  obtain ⟨e, rfl⟩ : ∃ e, d = e + 1 := ⟨d - 1, by omega⟩
  unfold m_51 at h
  refine sp_in (lo := [some (.inr (.inr a0)), some (.inl a1), none, none]) (B := (0, 0)) rfl (Nat.le_of_ble_eq_true rfl) rfl rfl ?_
  refine go_iconst (pc' := 1) (v := (nI 0)) rfl rfl rfl ?_
  refine go_istore_n (pc' := 2) (lo' := [some (.inr (.inr a0)), some (.inl a1), some (.inl (nI 0)), none]) rfl rfl rfl ?_
  refine go_iconst (pc' := 3) (v := (nI 0)) rfl rfl rfl ?_
  refine go_istore_n (pc' := 4) (lo' := [some (.inr (.inr a0)), some (.inl a1), some (.inl (nI 0)), some (.inl (nI 0))]) rfl rfl rfl ?_
  obtain ⟨q4, hl4, hc4_45⟩ := o_s1E h
  have ex4_45 : ∀ (w2_45 : Int32) (z3_x45 : Option ai_V), w2_45 = q4 → ai_Go si_t (20, false, 0, cd_51) (ai_Cl si_t si_ms e) (sp_Q (some (.inl r)) I J Rf G) 45 [some (.inr (.inr a0)), some (.inl a1), some (.inl w2_45), z3_x45] [] (0, 0) I J Rf G := by
    intro w2_45 z3_x45 hq
    have h : m_51_x4_45 w2_45 = some r := hc4_45 w2_45 hq.symm
    unfold m_51_x4_45 at h
    refine go_iload_n (pc' := 46) rfl rfl rfl ?_
    cases h
    exact go_iret rfl (trivial) ⟨rfl, rfl, rfl, rfl, rfl⟩
  have lo4 : ∀ n s, lp (fun s => m_51_b4 a0 a1 I Rf G s.1 s.2) n s = some q4 → (fun s => ai_Go si_t (20, false, 0, cd_51) (ai_Cl si_t si_ms e) (sp_Q (some (.inl r)) I J Rf G) 4 [some (.inr (.inr a0)), some (.inl a1), some (.inl s.1), some (.inl s.2)] [] (0, 0) I J Rf G) s := lp_go (fun s x4 hx hk4 => by
    obtain ⟨v2_4, v3_4⟩ := s
    have h : m_51_b4 a0 a1 I Rf G v2_4 v3_4 = some x4 := hx
    clear hx
    show ai_Go si_t (20, false, 0, cd_51) (ai_Cl si_t si_ms e) (sp_Q (some (.inl r)) I J Rf G) 4 [some (.inr (.inr a0)), some (.inl a1), some (.inl v2_4), some (.inl v3_4)] [] (0, 0) I J Rf G
    unfold m_51_b4 at h
    refine go_iload_n (pc' := 5) rfl rfl rfl ?_
    refine go_aload_n (pc' := 6) rfl rfl rfl ?_
    obtain ⟨g0, h⟩ := o_gE h
    obtain ⟨r_6, q_6, h⟩ := o_b1E h
    refine go_callV (pc' := 9) (B' := (0, 0)) (st' := [.inl r_6, .inl v3_4]) rfl rfl (Or.inl (by decide)) rfl rfl (o_kdE g0) (md_85 (by omega) (o_kdE g0) q_6) rfl rfl rfl ?_
    refine go_icmp_ge (pt := 45) (pc' := 12) rfl rfl rfl (fun h9 => ?_) (fun h9 => ?_)
    · replace h := o_t h9 h
      exact ex4_45 _ (some (.inl v3_4)) (lp_exitE h hk4)
    · replace h := o_f h9 h
      refine go_iload_n (pc' := 13) rfl rfl rfl ?_
      refine go_iload_n (pc' := 14) rfl rfl rfl ?_
      obtain ⟨r_14, q_14, h⟩ := o_b1E h
      refine go_callS (pc' := 17) (B' := (0, 0)) (st' := [.inl r_14, .inl v2_4]) rfl rfl (Or.inl (by decide)) rfl rfl trivial (md_115 (by omega) q_14) rfl rfl rfl ?_
      refine go_iload_n (pc' := 18) rfl rfl rfl ?_
      have jn34 : ∀ (t1_34 : Int32), m_51_j34 v2_4 v3_4 t1_34 = some x4 → ai_Go si_t (20, false, 0, cd_51) (ai_Cl si_t si_ms e) (sp_Q (some (.inl r)) I J Rf G) 34 [some (.inr (.inr a0)), some (.inl a1), some (.inl v2_4), some (.inl v3_4)] [.inl t1_34, .inl v2_4] (0, 0) I J Rf G := by
        intro t1_34 h
        unfold m_51_j34 at h
        obtain ⟨r_34, q_34, h⟩ := o_b1E h
        refine go_callS (pc' := 37) (B' := (0, 0)) (st' := [.inl r_34, .inl v2_4]) rfl rfl (Or.inl (by decide)) rfl rfl trivial (md_112 (by omega) q_34) rfl rfl rfl ?_
        refine go_iadd (pc' := 38) rfl rfl ?_
        obtain ⟨x2_38, ex2_38, h⟩ := o_b1E h
        refine go_ndI ex2_38 ?_
        refine go_istore_n (pc' := 39) (lo' := [some (.inr (.inr a0)), some (.inl a1), some (.inl x2_38), some (.inl v3_4)]) rfl rfl rfl ?_
        obtain ⟨x3_39, ex3_39, h⟩ := o_b1E h
        refine go_iincE (pc' := 42) rfl rfl (y := (nI 1)) rfl ex3_39 (lo' := [some (.inr (.inr a0)), some (.inl a1), some (.inl x2_38), some (.inl x3_39)]) rfl rfl ?_
        refine go_goto (pc' := 4) rfl rfl ?_
        exact (lp_backE h hk4 :)
      have jn33 : m_51_j33 v2_4 v3_4 = some x4 → ai_Go si_t (20, false, 0, cd_51) (ai_Cl si_t si_ms e) (sp_Q (some (.inl r)) I J Rf G) 33 [some (.inr (.inr a0)), some (.inl a1), some (.inl v2_4), some (.inl v3_4)] [.inl v2_4] (0, 0) I J Rf G := by
        intro h
        unfold m_51_j33 at h
        refine go_iconst (pc' := 34) (v := (nI 0)) rfl rfl rfl ?_
        exact jn34 (nI 0) h
      refine go_icmp_ne (pt := 33) (pc' := 21) rfl rfl rfl (fun h18 => ?_) (fun h18 => ?_)
      · replace h := o_f h18 h
        exact jn33  h
      · replace h := o_t (Decidable.of_not_not h18) h
        refine go_aload_n (pc' := 22) rfl rfl rfl ?_
        refine go_iload_n (pc' := 23) rfl rfl rfl ?_
        obtain ⟨r_23, q_23, h⟩ := o_b1E h
        refine go_callV (pc' := 26) (B' := (0, 0)) (st' := [.inl r_23, .inl v2_4]) rfl rfl (Or.inl (by decide)) rfl rfl (o_kdE g0) (md_90 (by omega) (o_kdE g0) q_23) rfl rfl rfl ?_
        refine go_if_eq (pt := 33) (pc' := 29) rfl rfl rfl (fun h26 => ?_) (fun h26 => ?_)
        · replace h := o_t h26 h
          exact jn33  h
        · replace h := o_f h26 h
          refine go_iconst (pc' := 30) (v := (nI 1)) rfl rfl rfl ?_
          refine go_goto (pc' := 34) rfl rfl ?_
          exact jn34 (nI 1) h)
  exact lo4 _ ((nI 0), (nI 0)) hl4 
def m_52_x4_43 (w2_43 : Int32) : Option (Int32) :=
  some w2_43
def m_52_b4 (a0 : Nat) (a1 : Int32) (I : ai_I) (Rf : ai_R) (G : ai_G) (v2_4 : Int32) (v3_4 : Int32) : Option ((Int32 × Int32) ⊕ Int32) :=
  o_g (o_kd G a0 8) (if (I a0 0) ≤ v3_4 then (some (Sum.inr v2_4)) else (o_g (o_in G 13 (Rf a0 4) (a1 ||| ((nI 1) <<< (v3_4 &&& 31)))) (o_g (o_in G 13 (Rf a0 4) a1) (if (I (Rf a0 4) (a1 ||| ((nI 1) <<< (v3_4 &&& 31))).toNatClampNeg) = (I (Rf a0 4) a1.toNatClampNeg) then (o_b1 (some (v2_4 ||| ((nI 1) <<< (v3_4 &&& 31)))) (fun x2_36 => o_b1 (some (v3_4 + (nI 1))) (fun x3_37 => some (Sum.inl (x2_36, x3_37))))) else (o_b1 (some (v3_4 + (nI 1))) (fun x3_37 => some (Sum.inl (v2_4, x3_37))))))))
/-- PricedBases$Shape.closed(LPricedBases$Valuation;I)I -/
def m_52 (a0 : Nat) (a1 : Int32) (I : ai_I) (Rf : ai_R) (G : ai_G) : Option (Int32) :=
  o_s1 (lp (fun s => m_52_b4 a0 a1 I Rf G s.1 s.2) o_N (a1, (nI 0))) (fun t => m_52_x4_43 t)
theorem md_52 {d : Nat} {I : ai_I} {J : ai_J} {Rf : ai_R} {G : ai_G} {a0 : Nat} {a1 : Int32} {r : Int32} (hd : 1 ≤ d) (h : m_52 a0 a1 I Rf G = some r) : ai_Cl si_t si_ms d 52 [.inr (.inr a0), .inl a1] I J Rf G (some (.inl r)) I J Rf G := by
  obtain ⟨e, rfl⟩ : ∃ e, d = e + 1 := ⟨d - 1, by omega⟩
  unfold m_52 at h
  refine sp_in (lo := [some (.inr (.inr a0)), some (.inl a1), none, none]) (B := (0, 0)) rfl (Nat.le_of_ble_eq_true rfl) rfl rfl ?_
  refine go_iload_n (pc' := 1) rfl rfl rfl ?_
  refine go_istore_n (pc' := 2) (lo' := [some (.inr (.inr a0)), some (.inl a1), some (.inl a1), none]) rfl rfl rfl ?_
  refine go_iconst (pc' := 3) (v := (nI 0)) rfl rfl rfl ?_
  refine go_istore_n (pc' := 4) (lo' := [some (.inr (.inr a0)), some (.inl a1), some (.inl a1), some (.inl (nI 0))]) rfl rfl rfl ?_
  obtain ⟨q4, hl4, hc4_43⟩ := o_s1E h
  have ex4_43 : ∀ (w2_43 : Int32) (z3_x43 : Option ai_V), w2_43 = q4 → ai_Go si_t (20, false, 0, cd_52) (ai_Cl si_t si_ms e) (sp_Q (some (.inl r)) I J Rf G) 43 [some (.inr (.inr a0)), some (.inl a1), some (.inl w2_43), z3_x43] [] (0, 0) I J Rf G := by
    intro w2_43 z3_x43 hq
    have h : m_52_x4_43 w2_43 = some r := hc4_43 w2_43 hq.symm
    unfold m_52_x4_43 at h
    refine go_iload_n (pc' := 44) rfl rfl rfl ?_
    cases h
    exact go_iret rfl (trivial) ⟨rfl, rfl, rfl, rfl, rfl⟩
  have lo4 : ∀ n s, lp (fun s => m_52_b4 a0 a1 I Rf G s.1 s.2) n s = some q4 → (fun s => ai_Go si_t (20, false, 0, cd_52) (ai_Cl si_t si_ms e) (sp_Q (some (.inl r)) I J Rf G) 4 [some (.inr (.inr a0)), some (.inl a1), some (.inl s.1), some (.inl s.2)] [] (0, 0) I J Rf G) s := lp_go (fun s x4 hx hk4 => by
    obtain ⟨v2_4, v3_4⟩ := s
    have h : m_52_b4 a0 a1 I Rf G v2_4 v3_4 = some x4 := hx
    clear hx
    show ai_Go si_t (20, false, 0, cd_52) (ai_Cl si_t si_ms e) (sp_Q (some (.inl r)) I J Rf G) 4 [some (.inr (.inr a0)), some (.inl a1), some (.inl v2_4), some (.inl v3_4)] [] (0, 0) I J Rf G
    unfold m_52_b4 at h
    refine go_iload_n (pc' := 5) rfl rfl rfl ?_
    refine go_aload_n (pc' := 6) rfl rfl rfl ?_
    obtain ⟨g0, h⟩ := o_gE h
    refine go_getI (pc' := 9) rfl rfl (by decide) (by decide) (o_kdE g0) rfl ?_
    refine go_icmp_ge (pt := 43) (pc' := 12) rfl rfl rfl (fun h9 => ?_) (fun h9 => ?_)
    · replace h := o_t h9 h
      exact ex4_43 _ (some (.inl v3_4)) (lp_exitE h hk4)
    · replace h := o_f h9 h
      refine go_aload_n (pc' := 13) rfl rfl rfl ?_
      refine go_getR (pc' := 16) rfl rfl (o_kdE g0) rfl ?_
      refine go_iload_n (pc' := 17) rfl rfl rfl ?_
      refine go_iconst (pc' := 18) (v := (nI 1)) rfl rfl rfl ?_
      refine go_iload_n (pc' := 19) rfl rfl rfl ?_
      refine go_ishl (pc' := 20) rfl rfl ?_
      refine go_ior (pc' := 21) rfl rfl ?_
      obtain ⟨g1, h⟩ := o_gE h
      refine go_iaload (pc' := 22) rfl (o_inK g1) (o_inB g1) rfl ?_
      refine go_aload_n (pc' := 23) rfl rfl rfl ?_
      refine go_getR (pc' := 26) rfl rfl (o_kdE g0) rfl ?_
      refine go_iload_n (pc' := 27) rfl rfl rfl ?_
      obtain ⟨g2, h⟩ := o_gE h
      refine go_iaload (pc' := 28) rfl (o_inK g2) (o_inB g2) rfl ?_
      refine go_icmp_ne (pt := 37) (pc' := 31) rfl rfl rfl (fun h28 => ?_) (fun h28 => ?_)
      · replace h := o_f h28 h
        obtain ⟨x3_37, ex3_37, h⟩ := o_b1E h
        refine go_iincE (pc' := 40) rfl rfl (y := (nI 1)) rfl ex3_37 (lo' := [some (.inr (.inr a0)), some (.inl a1), some (.inl v2_4), some (.inl x3_37)]) rfl rfl ?_
        refine go_goto (pc' := 4) rfl rfl ?_
        exact (lp_backE h hk4 :)
      · replace h := o_t (Decidable.of_not_not h28) h
        refine go_iload_n (pc' := 32) rfl rfl rfl ?_
        refine go_iconst (pc' := 33) (v := (nI 1)) rfl rfl rfl ?_
        refine go_iload_n (pc' := 34) rfl rfl rfl ?_
        refine go_ishl (pc' := 35) rfl rfl ?_
        refine go_ior (pc' := 36) rfl rfl ?_
        obtain ⟨x2_36, ex2_36, h⟩ := o_b1E h
        refine go_ndI ex2_36 ?_
        refine go_istore_n (pc' := 37) (lo' := [some (.inr (.inr a0)), some (.inl a1), some (.inl x2_36), some (.inl v3_4)]) rfl rfl rfl ?_
        obtain ⟨x3_37, ex3_37, h⟩ := o_b1E h
        refine go_iincE (pc' := 40) rfl rfl (y := (nI 1)) rfl ex3_37 (lo' := [some (.inr (.inr a0)), some (.inl a1), some (.inl x2_36), some (.inl x3_37)]) rfl rfl ?_
        refine go_goto (pc' := 4) rfl rfl ?_
        exact (lp_backE h hk4 :))
  exact lo4 _ (a1, (nI 0)) hl4 
def m_53_x4_38 (w1_38 : Int32) : Option (Int32) :=
  some w1_38
def m_53_j27 (v1_4 : Int32) (v2_4 : Int32) (t1_27 : Int32) : Option ((Int32 × Int32) ⊕ Int32) :=
  o_b1 (m_112 t1_27) (fun r_27 => o_b1 (some (v1_4 + r_27)) (fun x1_31 => o_b1 (some (v2_4 + (nI 1))) (fun x2_32 => some (Sum.inl (x1_31, x2_32)))))
def m_53_b4 (a0 : Nat) (I : ai_I) (Rf : ai_R) (G : ai_G) (v1_4 : Int32) (v2_4 : Int32) : Option ((Int32 × Int32) ⊕ Int32) :=
  o_g (o_kd G a0 8) (o_b1 (m_85 a0 I) (fun r_6 => if r_6 ≤ v2_4 then (some (Sum.inr v1_4)) else (o_b1 (m_52 a0 v2_4 I Rf G) (fun r_15 => if r_15 = v2_4 then (m_53_j27 v1_4 v2_4 (nI 1)) else (m_53_j27 v1_4 v2_4 (nI 0))))))
/-- PricedBases$Shape.flats(LPricedBases$Valuation;)I -/
def m_53 (a0 : Nat) (I : ai_I) (Rf : ai_R) (G : ai_G) : Option (Int32) :=
  o_s1 (lp (fun s => m_53_b4 a0 I Rf G s.1 s.2) o_N ((nI 0), (nI 0))) (fun t => m_53_x4_38 t)
theorem md_53 {d : Nat} {I : ai_I} {J : ai_J} {Rf : ai_R} {G : ai_G} {a0 : Nat} {r : Int32} (hd : 2 ≤ d) (h : m_53 a0 I Rf G = some r) : ai_Cl si_t si_ms d 53 [.inr (.inr a0)] I J Rf G (some (.inl r)) I J Rf G := by
  obtain ⟨e, rfl⟩ : ∃ e, d = e + 1 := ⟨d - 1, by omega⟩
  unfold m_53 at h
  refine sp_in (lo := [some (.inr (.inr a0)), none, none]) (B := (0, 0)) rfl (Nat.le_of_ble_eq_true rfl) rfl rfl ?_
  refine go_iconst (pc' := 1) (v := (nI 0)) rfl rfl rfl ?_
  refine go_istore_n (pc' := 2) (lo' := [some (.inr (.inr a0)), some (.inl (nI 0)), none]) rfl rfl rfl ?_
  refine go_iconst (pc' := 3) (v := (nI 0)) rfl rfl rfl ?_
  refine go_istore_n (pc' := 4) (lo' := [some (.inr (.inr a0)), some (.inl (nI 0)), some (.inl (nI 0))]) rfl rfl rfl ?_
  obtain ⟨q4, hl4, hc4_38⟩ := o_s1E h
  have ex4_38 : ∀ (w1_38 : Int32) (z2_x38 : Option ai_V), w1_38 = q4 → ai_Go si_t (20, false, 0, cd_53) (ai_Cl si_t si_ms e) (sp_Q (some (.inl r)) I J Rf G) 38 [some (.inr (.inr a0)), some (.inl w1_38), z2_x38] [] (0, 0) I J Rf G := by
    intro w1_38 z2_x38 hq
    have h : m_53_x4_38 w1_38 = some r := hc4_38 w1_38 hq.symm
    unfold m_53_x4_38 at h
    refine go_iload_n (pc' := 39) rfl rfl rfl ?_
    cases h
    exact go_iret rfl (trivial) ⟨rfl, rfl, rfl, rfl, rfl⟩
  have lo4 : ∀ n s, lp (fun s => m_53_b4 a0 I Rf G s.1 s.2) n s = some q4 → (fun s => ai_Go si_t (20, false, 0, cd_53) (ai_Cl si_t si_ms e) (sp_Q (some (.inl r)) I J Rf G) 4 [some (.inr (.inr a0)), some (.inl s.1), some (.inl s.2)] [] (0, 0) I J Rf G) s := lp_go (fun s x4 hx hk4 => by
    obtain ⟨v1_4, v2_4⟩ := s
    have h : m_53_b4 a0 I Rf G v1_4 v2_4 = some x4 := hx
    clear hx
    show ai_Go si_t (20, false, 0, cd_53) (ai_Cl si_t si_ms e) (sp_Q (some (.inl r)) I J Rf G) 4 [some (.inr (.inr a0)), some (.inl v1_4), some (.inl v2_4)] [] (0, 0) I J Rf G
    unfold m_53_b4 at h
    refine go_iload_n (pc' := 5) rfl rfl rfl ?_
    refine go_aload_n (pc' := 6) rfl rfl rfl ?_
    obtain ⟨g0, h⟩ := o_gE h
    obtain ⟨r_6, q_6, h⟩ := o_b1E h
    refine go_callV (pc' := 9) (B' := (0, 0)) (st' := [.inl r_6, .inl v2_4]) rfl rfl (Or.inl (by decide)) rfl rfl (o_kdE g0) (md_85 (by omega) (o_kdE g0) q_6) rfl rfl rfl ?_
    refine go_icmp_ge (pt := 38) (pc' := 12) rfl rfl rfl (fun h9 => ?_) (fun h9 => ?_)
    · replace h := o_t h9 h
      exact ex4_38 _ (some (.inl v2_4)) (lp_exitE h hk4)
    · replace h := o_f h9 h
      refine go_iload_n (pc' := 13) rfl rfl rfl ?_
      refine go_aload_n (pc' := 14) rfl rfl rfl ?_
      refine go_iload_n (pc' := 15) rfl rfl rfl ?_
      obtain ⟨r_15, q_15, h⟩ := o_b1E h
      refine go_callS (pc' := 18) (B' := (0, 0)) (st' := [.inl r_15, .inl v1_4]) rfl rfl (Or.inl (by decide)) rfl rfl trivial (md_52 (by omega) q_15) rfl rfl rfl ?_
      refine go_iload_n (pc' := 19) rfl rfl rfl ?_
      have jn27 : ∀ (t1_27 : Int32), m_53_j27 v1_4 v2_4 t1_27 = some x4 → ai_Go si_t (20, false, 0, cd_53) (ai_Cl si_t si_ms e) (sp_Q (some (.inl r)) I J Rf G) 27 [some (.inr (.inr a0)), some (.inl v1_4), some (.inl v2_4)] [.inl t1_27, .inl v1_4] (0, 0) I J Rf G := by
        intro t1_27 h
        unfold m_53_j27 at h
        obtain ⟨r_27, q_27, h⟩ := o_b1E h
        refine go_callS (pc' := 30) (B' := (0, 0)) (st' := [.inl r_27, .inl v1_4]) rfl rfl (Or.inl (by decide)) rfl rfl trivial (md_112 (by omega) q_27) rfl rfl rfl ?_
        refine go_iadd (pc' := 31) rfl rfl ?_
        obtain ⟨x1_31, ex1_31, h⟩ := o_b1E h
        refine go_ndI ex1_31 ?_
        refine go_istore_n (pc' := 32) (lo' := [some (.inr (.inr a0)), some (.inl x1_31), some (.inl v2_4)]) rfl rfl rfl ?_
        obtain ⟨x2_32, ex2_32, h⟩ := o_b1E h
        refine go_iincE (pc' := 35) rfl rfl (y := (nI 1)) rfl ex2_32 (lo' := [some (.inr (.inr a0)), some (.inl x1_31), some (.inl x2_32)]) rfl rfl ?_
        refine go_goto (pc' := 4) rfl rfl ?_
        exact (lp_backE h hk4 :)
      refine go_icmp_ne (pt := 26) (pc' := 22) rfl rfl rfl (fun h19 => ?_) (fun h19 => ?_)
      · replace h := o_f h19 h
        refine go_iconst (pc' := 27) (v := (nI 0)) rfl rfl rfl ?_
        exact jn27 (nI 0) h
      · replace h := o_t (Decidable.of_not_not h19) h
        refine go_iconst (pc' := 23) (v := (nI 1)) rfl rfl rfl ?_
        refine go_goto (pc' := 27) rfl rfl ?_
        exact jn27 (nI 1) h)
  exact lo4 _ ((nI 0), (nI 0)) hl4 
def m_54_x12_40 : Option (Int32) :=
  some (nI 0)
def m_54_x12_48 : Option (Int32) :=
  some (nI 1)
def m_54_b12 (a0 : Nat) (a1 : Int32) (I : ai_I) (Rf : ai_R) (G : ai_G) (v2_12 : Int32) : Option (Int32 ⊕ (Unit ⊕ Unit)) :=
  if (I a0 0) ≤ v2_12 then (some (Sum.inr (Sum.inr ()))) else (o_b1 (m_113 a1 v2_12) (fun r_22 => if r_22 = 0 then (o_b1 (some (v2_12 + (nI 1))) (fun x2_42 => some (Sum.inl x2_42))) else (o_b1 (m_90 a0 (a1 ^^^ ((nI 1) <<< (v2_12 &&& 31))) I Rf G) (fun r_34 => if r_34 = 0 then (some (Sum.inr (Sum.inl ()))) else (o_b1 (some (v2_12 + (nI 1))) (fun x2_42 => some (Sum.inl x2_42)))))))
/-- PricedBases$Shape.isCircuit(LPricedBases$Valuation;I)Z -/
def m_54 (a0 : Nat) (a1 : Int32) (I : ai_I) (Rf : ai_R) (G : ai_G) : Option (Int32) :=
  o_g (o_kd G a0 8) (o_b1 (m_90 a0 a1 I Rf G) (fun r_2 => if r_2 = 0 then (o_s2 (lp (fun s => m_54_b12 a0 a1 I Rf G s) o_N (nI 0)) (fun t => m_54_x12_40) (fun t => m_54_x12_48)) else (some (nI 0))))
theorem md_54 {d : Nat} {I : ai_I} {J : ai_J} {Rf : ai_R} {G : ai_G} {a0 : Nat} {a1 : Int32} {r : Int32} (hd : 3 ≤ d) (h : m_54 a0 a1 I Rf G = some r) : ai_Cl si_t si_ms d 54 [.inr (.inr a0), .inl a1] I J Rf G (some (.inl r)) I J Rf G := by
  obtain ⟨e, rfl⟩ : ∃ e, d = e + 1 := ⟨d - 1, by omega⟩
  unfold m_54 at h
  refine sp_in (lo := [some (.inr (.inr a0)), some (.inl a1), none]) (B := (0, 0)) rfl (Nat.le_of_ble_eq_true rfl) rfl rfl ?_
  refine go_aload_n (pc' := 1) rfl rfl rfl ?_
  refine go_iload_n (pc' := 2) rfl rfl rfl ?_
  obtain ⟨g0, h⟩ := o_gE h
  obtain ⟨r_2, q_2, h⟩ := o_b1E h
  refine go_callV (pc' := 5) (B' := (0, 0)) (st' := [.inl r_2]) rfl rfl (Or.inl (by decide)) rfl rfl (o_kdE g0) (md_90 (by omega) (o_kdE g0) q_2) rfl rfl rfl ?_
  refine go_if_eq (pt := 10) (pc' := 8) rfl rfl rfl (fun h5 => ?_) (fun h5 => ?_)
  · replace h := o_t h5 h
    refine go_iconst (pc' := 11) (v := (nI 0)) rfl rfl rfl ?_
    refine go_istore_n (pc' := 12) (lo' := [some (.inr (.inr a0)), some (.inl a1), some (.inl (nI 0))]) rfl rfl rfl ?_
    obtain ⟨q12, hl12, hc12_40, hc12_48⟩ := o_s2E h
    have ex12_40 : ∀ (z2_x40 : Option ai_V), (Sum.inl ()) = q12 → ai_Go si_t (20, false, 3, cd_54) (ai_Cl si_t si_ms e) (sp_Q (some (.inl r)) I J Rf G) 40 [some (.inr (.inr a0)), some (.inl a1), z2_x40] [] (0, 0) I J Rf G := by
      intro z2_x40 hq
      have h : m_54_x12_40 = some r := hc12_40 () hq.symm
      unfold m_54_x12_40 at h
      refine go_iconst (pc' := 41) (v := (nI 0)) rfl rfl rfl ?_
      cases h
      exact go_iret rfl (rfl) ⟨rfl, rfl, rfl, rfl, rfl⟩
    have ex12_48 : ∀ (z2_x48 : Option ai_V), (Sum.inr ()) = q12 → ai_Go si_t (20, false, 3, cd_54) (ai_Cl si_t si_ms e) (sp_Q (some (.inl r)) I J Rf G) 48 [some (.inr (.inr a0)), some (.inl a1), z2_x48] [] (0, 0) I J Rf G := by
      intro z2_x48 hq
      have h : m_54_x12_48 = some r := hc12_48 () hq.symm
      unfold m_54_x12_48 at h
      refine go_iconst (pc' := 49) (v := (nI 1)) rfl rfl rfl ?_
      cases h
      exact go_iret rfl (rfl) ⟨rfl, rfl, rfl, rfl, rfl⟩
    have lo12 : ∀ n s, lp (fun s => m_54_b12 a0 a1 I Rf G s) n s = some q12 → (fun s => ai_Go si_t (20, false, 3, cd_54) (ai_Cl si_t si_ms e) (sp_Q (some (.inl r)) I J Rf G) 12 [some (.inr (.inr a0)), some (.inl a1), some (.inl s)] [] (0, 0) I J Rf G) s := lp_go (fun s x12 hx hk12 => by
      revert s; intro v2_12 hx
      have h : m_54_b12 a0 a1 I Rf G v2_12 = some x12 := hx
      clear hx
      show ai_Go si_t (20, false, 3, cd_54) (ai_Cl si_t si_ms e) (sp_Q (some (.inl r)) I J Rf G) 12 [some (.inr (.inr a0)), some (.inl a1), some (.inl v2_12)] [] (0, 0) I J Rf G
      unfold m_54_b12 at h
      refine go_iload_n (pc' := 13) rfl rfl rfl ?_
      refine go_aload_n (pc' := 14) rfl rfl rfl ?_
      refine go_getI (pc' := 17) rfl rfl (by decide) (by decide) (o_kdE g0) rfl ?_
      refine go_icmp_ge (pt := 48) (pc' := 20) rfl rfl rfl (fun h17 => ?_) (fun h17 => ?_)
      · replace h := o_t h17 h
        exact ex12_48  (some (.inl v2_12)) (lp_exitE h hk12)
      · replace h := o_f h17 h
        refine go_iload_n (pc' := 21) rfl rfl rfl ?_
        refine go_iload_n (pc' := 22) rfl rfl rfl ?_
        obtain ⟨r_22, q_22, h⟩ := o_b1E h
        refine go_callS (pc' := 25) (B' := (0, 0)) (st' := [.inl r_22]) rfl rfl (Or.inl (by decide)) rfl rfl trivial (md_113 (by omega) q_22) rfl rfl rfl ?_
        refine go_if_eq (pt := 42) (pc' := 28) rfl rfl rfl (fun h25 => ?_) (fun h25 => ?_)
        · replace h := o_t h25 h
          obtain ⟨x2_42, ex2_42, h⟩ := o_b1E h
          refine go_iincE (pc' := 45) rfl rfl (y := (nI 1)) rfl ex2_42 (lo' := [some (.inr (.inr a0)), some (.inl a1), some (.inl x2_42)]) rfl rfl ?_
          refine go_goto (pc' := 12) rfl rfl ?_
          exact (lp_backE h hk12 :)
        · replace h := o_f h25 h
          refine go_aload_n (pc' := 29) rfl rfl rfl ?_
          refine go_iload_n (pc' := 30) rfl rfl rfl ?_
          refine go_iconst (pc' := 31) (v := (nI 1)) rfl rfl rfl ?_
          refine go_iload_n (pc' := 32) rfl rfl rfl ?_
          refine go_ishl (pc' := 33) rfl rfl ?_
          refine go_ixor (pc' := 34) rfl rfl ?_
          obtain ⟨r_34, q_34, h⟩ := o_b1E h
          refine go_callV (pc' := 37) (B' := (0, 0)) (st' := [.inl r_34]) rfl rfl (Or.inl (by decide)) rfl rfl (o_kdE g0) (md_90 (by omega) (o_kdE g0) q_34) rfl rfl rfl ?_
          refine go_if_ne (pt := 42) (pc' := 40) rfl rfl rfl (fun h37 => ?_) (fun h37 => ?_)
          · replace h := o_f h37 h
            obtain ⟨x2_42, ex2_42, h⟩ := o_b1E h
            refine go_iincE (pc' := 45) rfl rfl (y := (nI 1)) rfl ex2_42 (lo' := [some (.inr (.inr a0)), some (.inl a1), some (.inl x2_42)]) rfl rfl ?_
            refine go_goto (pc' := 12) rfl rfl ?_
            exact (lp_backE h hk12 :)
          · replace h := o_t (Decidable.of_not_not h37) h
            exact ex12_40  (some (.inl v2_12)) (lp_exitE h hk12))
    exact lo12 _ (nI 0) hl12 
  · replace h := o_f h5 h
    refine go_iconst (pc' := 9) (v := (nI 0)) rfl rfl rfl ?_
    cases h
    exact go_iret rfl (rfl) ⟨rfl, rfl, rfl, rfl, rfl⟩
def m_55_x4_29 (w1_29 : Int32) : Option (Int32) :=
  some w1_29
def m_55_b4 (a0 : Nat) (I : ai_I) (Rf : ai_R) (G : ai_G) (v1_4 : Int32) (v2_4 : Int32) : Option ((Int32 × Int32) ⊕ Int32) :=
  o_g (o_kd G a0 8) (o_b1 (m_85 a0 I) (fun r_6 => if r_6 ≤ v2_4 then (some (Sum.inr v1_4)) else (o_b1 (m_54 a0 v2_4 I Rf G) (fun r_15 => o_b1 (m_112 r_15) (fun r_18 => o_b1 (some (v1_4 + r_18)) (fun x1_22 => o_b1 (some (v2_4 + (nI 1))) (fun x2_23 => some (Sum.inl (x1_22, x2_23)))))))))
/-- PricedBases$Shape.circuits(LPricedBases$Valuation;)I -/
def m_55 (a0 : Nat) (I : ai_I) (Rf : ai_R) (G : ai_G) : Option (Int32) :=
  o_s1 (lp (fun s => m_55_b4 a0 I Rf G s.1 s.2) o_N ((nI 0), (nI 0))) (fun t => m_55_x4_29 t)
theorem md_55 {d : Nat} {I : ai_I} {J : ai_J} {Rf : ai_R} {G : ai_G} {a0 : Nat} {r : Int32} (hd : 4 ≤ d) (h : m_55 a0 I Rf G = some r) : ai_Cl si_t si_ms d 55 [.inr (.inr a0)] I J Rf G (some (.inl r)) I J Rf G := by
  obtain ⟨e, rfl⟩ : ∃ e, d = e + 1 := ⟨d - 1, by omega⟩
  unfold m_55 at h
  refine sp_in (lo := [some (.inr (.inr a0)), none, none]) (B := (0, 0)) rfl (Nat.le_of_ble_eq_true rfl) rfl rfl ?_
  refine go_iconst (pc' := 1) (v := (nI 0)) rfl rfl rfl ?_
  refine go_istore_n (pc' := 2) (lo' := [some (.inr (.inr a0)), some (.inl (nI 0)), none]) rfl rfl rfl ?_
  refine go_iconst (pc' := 3) (v := (nI 0)) rfl rfl rfl ?_
  refine go_istore_n (pc' := 4) (lo' := [some (.inr (.inr a0)), some (.inl (nI 0)), some (.inl (nI 0))]) rfl rfl rfl ?_
  obtain ⟨q4, hl4, hc4_29⟩ := o_s1E h
  have ex4_29 : ∀ (w1_29 : Int32) (z2_x29 : Option ai_V), w1_29 = q4 → ai_Go si_t (20, false, 0, cd_55) (ai_Cl si_t si_ms e) (sp_Q (some (.inl r)) I J Rf G) 29 [some (.inr (.inr a0)), some (.inl w1_29), z2_x29] [] (0, 0) I J Rf G := by
    intro w1_29 z2_x29 hq
    have h : m_55_x4_29 w1_29 = some r := hc4_29 w1_29 hq.symm
    unfold m_55_x4_29 at h
    refine go_iload_n (pc' := 30) rfl rfl rfl ?_
    cases h
    exact go_iret rfl (trivial) ⟨rfl, rfl, rfl, rfl, rfl⟩
  have lo4 : ∀ n s, lp (fun s => m_55_b4 a0 I Rf G s.1 s.2) n s = some q4 → (fun s => ai_Go si_t (20, false, 0, cd_55) (ai_Cl si_t si_ms e) (sp_Q (some (.inl r)) I J Rf G) 4 [some (.inr (.inr a0)), some (.inl s.1), some (.inl s.2)] [] (0, 0) I J Rf G) s := lp_go (fun s x4 hx hk4 => by
    obtain ⟨v1_4, v2_4⟩ := s
    have h : m_55_b4 a0 I Rf G v1_4 v2_4 = some x4 := hx
    clear hx
    show ai_Go si_t (20, false, 0, cd_55) (ai_Cl si_t si_ms e) (sp_Q (some (.inl r)) I J Rf G) 4 [some (.inr (.inr a0)), some (.inl v1_4), some (.inl v2_4)] [] (0, 0) I J Rf G
    unfold m_55_b4 at h
    refine go_iload_n (pc' := 5) rfl rfl rfl ?_
    refine go_aload_n (pc' := 6) rfl rfl rfl ?_
    obtain ⟨g0, h⟩ := o_gE h
    obtain ⟨r_6, q_6, h⟩ := o_b1E h
    refine go_callV (pc' := 9) (B' := (0, 0)) (st' := [.inl r_6, .inl v2_4]) rfl rfl (Or.inl (by decide)) rfl rfl (o_kdE g0) (md_85 (by omega) (o_kdE g0) q_6) rfl rfl rfl ?_
    refine go_icmp_ge (pt := 29) (pc' := 12) rfl rfl rfl (fun h9 => ?_) (fun h9 => ?_)
    · replace h := o_t h9 h
      exact ex4_29 _ (some (.inl v2_4)) (lp_exitE h hk4)
    · replace h := o_f h9 h
      refine go_iload_n (pc' := 13) rfl rfl rfl ?_
      refine go_aload_n (pc' := 14) rfl rfl rfl ?_
      refine go_iload_n (pc' := 15) rfl rfl rfl ?_
      obtain ⟨r_15, q_15, h⟩ := o_b1E h
      refine go_callS (pc' := 18) (B' := (0, 0)) (st' := [.inl r_15, .inl v1_4]) rfl rfl (Or.inl (by decide)) rfl rfl trivial (md_54 (by omega) q_15) rfl rfl rfl ?_
      obtain ⟨r_18, q_18, h⟩ := o_b1E h
      refine go_callS (pc' := 21) (B' := (0, 0)) (st' := [.inl r_18, .inl v1_4]) rfl rfl (Or.inl (by decide)) rfl rfl trivial (md_112 (by omega) q_18) rfl rfl rfl ?_
      refine go_iadd (pc' := 22) rfl rfl ?_
      obtain ⟨x1_22, ex1_22, h⟩ := o_b1E h
      refine go_ndI ex1_22 ?_
      refine go_istore_n (pc' := 23) (lo' := [some (.inr (.inr a0)), some (.inl x1_22), some (.inl v2_4)]) rfl rfl rfl ?_
      obtain ⟨x2_23, ex2_23, h⟩ := o_b1E h
      refine go_iincE (pc' := 26) rfl rfl (y := (nI 1)) rfl ex2_23 (lo' := [some (.inr (.inr a0)), some (.inl x1_22), some (.inl x2_23)]) rfl rfl ?_
      refine go_goto (pc' := 4) rfl rfl ?_
      exact (lp_backE h hk4 :))
  exact lo4 _ ((nI 0), (nI 0)) hl4 
/-- PricedBases$Space.<init>()V -/
def m_56 (th : Nat) (I : ai_I) (Rf : ai_R) (G : ai_G) : Option (ai_I × ai_R × ai_G) :=
  o_g (o_nn th) (o_g (o_lt9 G) (o_b1 (some (va_up I (G.2.2 + 1) (fun _ => 0))) (fun I_7 => o_b1 (some (va_up G.1 (G.2.2 + 1) 13, va_up G.2.1 (G.2.2 + 1) 8, G.2.2 + 1)) (fun G_7 => o_b1 (some (G.2.2 + 1)) (fun n_7 => o_g (o_kd G_7 th 5) (o_b1 (some (va_up Rf th (va_up (Rf th) 0 n_7))) (fun R_9 => some (I_7, R_9, G_7))))))))
theorem md_56 {d : Nat} {I : ai_I} {J : ai_J} {Rf : ai_R} {G : ai_G} {th : Nat} {I1 : ai_I} {R1 : ai_R} {G1 : ai_G} (hd : 1 ≤ d) (hth : G.1 th = 5) (h : m_56 th I Rf G = some (I1, R1, G1)) : ai_Cl si_t si_ms d 56 [.inr (.inr th)] I J Rf G none I1 J R1 G1 := by
  obtain ⟨e, rfl⟩ : ∃ e, d = e + 1 := ⟨d - 1, by omega⟩
  unfold m_56 at h
  refine sp_in (lo := [some (.inr (.inr th))]) (B := (1, 8)) rfl (Nat.le_of_ble_eq_true rfl) rfl rfl ?_
  refine go_aload_n (pc' := 1) rfl rfl rfl ?_
  obtain ⟨g0, h⟩ := o_gE h
  refine go_obj (pc' := 4) rfl rfl (o_nnE g0) (Nat.le_of_ble_eq_true rfl) rfl ?_
  refine go_aload_n (pc' := 5) rfl rfl rfl ?_
  refine go_bipush (pc' := 7) (v := (nI 8)) rfl rfl rfl ?_
  obtain ⟨g1, h⟩ := o_gE h
  refine go_newI (pc' := 9) (N := 8) rfl (by decide) (by decide) (by decide) (by decide) (by decide) (o_lt9E g1) rfl ?_
  obtain ⟨I_7, eI_7, h⟩ := o_b1E h
  obtain ⟨G_7, eG_7, h⟩ := o_b1E h
  obtain ⟨n_7, en_7, h⟩ := o_b1E h
  refine go_ndMI eI_7 ?_
  refine go_ndMG eG_7 ?_
  refine go_ndR en_7 ?_
  refine go_ndB (B' := (0, 0)) rfl ?_
  obtain ⟨g2, h⟩ := o_gE h
  obtain ⟨R_9, eR_9, h⟩ := o_b1E h
  refine go_putR (pc' := 12) rfl rfl (fun _ => ⟨rfl, rfl⟩) (o_kdE g2) rfl ?_
  refine go_ndMR eR_9 ?_
  cases h
  exact go_vret rfl (rfl) ⟨rfl, rfl, rfl, rfl, rfl⟩
/-- PricedBases$Space.takePrices(LPricedBases$Valuation;[I)V -/
def m_57 (th : Nat) (a0 : Nat) (a1 : Nat) (I : ai_I) (Rf : ai_R) (G : ai_G) : Option (ai_I) :=
  o_g (o_cpy G a1 (Rf th 0) (nI 0) (nI 0) (nI 8)) (o_b1 (some (va_up I (Rf th 0) (va_cpy (I a1) (I (Rf th 0)) (nI 0).toNatClampNeg (nI 0).toNatClampNeg (nI 8).toNatClampNeg))) (fun I_9 => o_g (o_kd G a0 8) (o_b1 (m_86 a0 I_9) (fun r_14 => o_b1 (some (va_up I_9 th (va_up (I_9 th) 1 r_14))) (fun I_17 => some I_17)))))
theorem md_57 {d : Nat} {I : ai_I} {J : ai_J} {Rf : ai_R} {G : ai_G} {th : Nat} {a0 : Nat} {a1 : Nat} {I1 : ai_I} (hd : 3 ≤ d) (hth : G.1 th = 5) (h : m_57 th a0 a1 I Rf G = some I1) : ai_Cl si_t si_ms d 57 [.inr (.inr th), .inr (.inr a0), .inr (.inr a1)] I J Rf G none I1 J Rf G := by
  obtain ⟨e, rfl⟩ : ∃ e, d = e + 1 := ⟨d - 1, by omega⟩
  unfold m_57 at h
  refine sp_in (lo := [some (.inr (.inr th)), some (.inr (.inr a0)), some (.inr (.inr a1))]) (B := (0, 0)) rfl (Nat.le_of_ble_eq_true rfl) rfl rfl ?_
  refine go_aload_n (pc' := 1) rfl rfl rfl ?_
  refine go_iconst (pc' := 2) (v := (nI 0)) rfl rfl rfl ?_
  refine go_aload_n (pc' := 3) rfl rfl rfl ?_
  refine go_getR (pc' := 6) rfl rfl hth rfl ?_
  refine go_iconst (pc' := 7) (v := (nI 0)) rfl rfl rfl ?_
  refine go_bipush (pc' := 9) (v := (nI 8)) rfl rfl rfl ?_
  obtain ⟨g0, h⟩ := o_gE h
  obtain ⟨I_9, eI_9, h⟩ := o_b1E h
  refine go_copy (pc' := 12) rfl rfl (o_cpyE g0) (Nat.le_of_ble_eq_true rfl) rfl ?_
  refine go_ndMI eI_9 ?_
  refine go_aload_n (pc' := 13) rfl rfl rfl ?_
  refine go_aload_n (pc' := 14) rfl rfl rfl ?_
  obtain ⟨g1, h⟩ := o_gE h
  obtain ⟨r_14, q_14, h⟩ := o_b1E h
  refine go_callV (pc' := 17) (B' := (0, 0)) (st' := [.inl r_14, .inr (.inr th)]) rfl rfl (Or.inl (by decide)) rfl rfl (o_kdE g1) (md_86 (by omega) (o_kdE g1) q_14) rfl rfl rfl ?_
  obtain ⟨I_17, eI_17, h⟩ := o_b1E h
  refine go_putI (pc' := 20) rfl rfl (fun h => by cases h) hth rfl ?_
  refine go_ndMI eI_17 ?_
  cases h
  exact go_vret rfl (rfl) ⟨rfl, rfl, rfl, rfl, rfl⟩
/-- PricedBases$Valuation.hasSet(I)Z -/
def m_88 (th : Nat) (a0 : Int32) (I : ai_I) : Option (Int32) :=
  if a0 < 0 then (some (nI 0)) else (if ((nI 1) <<< ((I th 0) &&& 31)) ≤ a0 then (some (nI 0)) else (some (nI 1)))
theorem md_88 {d : Nat} {I : ai_I} {J : ai_J} {Rf : ai_R} {G : ai_G} {th : Nat} {a0 : Int32} {r : Int32} (hd : 1 ≤ d) (hth : G.1 th = 8) (h : m_88 th a0 I = some r) : ai_Cl si_t si_ms d 88 [.inr (.inr th), .inl a0] I J Rf G (some (.inl r)) I J Rf G := by
  obtain ⟨e, rfl⟩ : ∃ e, d = e + 1 := ⟨d - 1, by omega⟩
  unfold m_88 at h
  refine sp_in (lo := [some (.inr (.inr th)), some (.inl a0)]) (B := (0, 0)) rfl (Nat.le_of_ble_eq_true rfl) rfl rfl ?_
  refine go_iload_n (pc' := 1) rfl rfl rfl ?_
  refine go_if_lt (pt := 18) (pc' := 4) rfl rfl rfl (fun h1 => ?_) (fun h1 => ?_)
  · replace h := o_t h1 h
    refine go_iconst (pc' := 19) (v := (nI 0)) rfl rfl rfl ?_
    cases h
    exact go_iret rfl (rfl) ⟨rfl, rfl, rfl, rfl, rfl⟩
  · replace h := o_f h1 h
    refine go_iload_n (pc' := 5) rfl rfl rfl ?_
    refine go_iconst (pc' := 6) (v := (nI 1)) rfl rfl rfl ?_
    refine go_aload_n (pc' := 7) rfl rfl rfl ?_
    refine go_getI (pc' := 10) rfl rfl (by decide) (by decide) hth rfl ?_
    refine go_ishl (pc' := 11) rfl rfl ?_
    refine go_icmp_ge (pt := 18) (pc' := 14) rfl rfl rfl (fun h11 => ?_) (fun h11 => ?_)
    · replace h := o_t h11 h
      refine go_iconst (pc' := 19) (v := (nI 0)) rfl rfl rfl ?_
      cases h
      exact go_iret rfl (rfl) ⟨rfl, rfl, rfl, rfl, rfl⟩
    · replace h := o_f h11 h
      refine go_iconst (pc' := 15) (v := (nI 1)) rfl rfl rfl ?_
      refine go_goto (pc' := 19) rfl rfl ?_
      cases h
      exact go_iret rfl (rfl) ⟨rfl, rfl, rfl, rfl, rfl⟩
/-- PricedBases$Valuation.hasBase(I)Z -/
def m_89 (th : Nat) (a0 : Int32) (I : ai_I) (Rf : ai_R) (G : ai_G) : Option (Int32) :=
  o_b1 (m_88 th a0 I) (fun r_2 => if r_2 = 0 then (some (nI 0)) else (o_g (o_in G 13 (Rf th 3) a0) (if (I (Rf th 3) a0.toNatClampNeg) = (-2147483648 : Int32) then (some (nI 0)) else (some (nI 1)))))
theorem md_89 {d : Nat} {I : ai_I} {J : ai_J} {Rf : ai_R} {G : ai_G} {th : Nat} {a0 : Int32} {r : Int32} (hd : 2 ≤ d) (hth : G.1 th = 8) (h : m_89 th a0 I Rf G = some r) : ai_Cl si_t si_ms d 89 [.inr (.inr th), .inl a0] I J Rf G (some (.inl r)) I J Rf G := by
  obtain ⟨e, rfl⟩ : ∃ e, d = e + 1 := ⟨d - 1, by omega⟩
  unfold m_89 at h
  refine sp_in (lo := [some (.inr (.inr th)), some (.inl a0)]) (B := (0, 0)) rfl (Nat.le_of_ble_eq_true rfl) rfl rfl ?_
  refine go_aload_n (pc' := 1) rfl rfl rfl ?_
  refine go_iload_n (pc' := 2) rfl rfl rfl ?_
  obtain ⟨r_2, q_2, h⟩ := o_b1E h
  refine go_callV (pc' := 5) (B' := (0, 0)) (st' := [.inl r_2]) rfl rfl (Or.inl (by decide)) rfl rfl hth (md_88 (by omega) hth q_2) rfl rfl rfl ?_
  refine go_if_eq (pt := 23) (pc' := 8) rfl rfl rfl (fun h5 => ?_) (fun h5 => ?_)
  · replace h := o_t h5 h
    refine go_iconst (pc' := 24) (v := (nI 0)) rfl rfl rfl ?_
    cases h
    exact go_iret rfl (rfl) ⟨rfl, rfl, rfl, rfl, rfl⟩
  · replace h := o_f h5 h
    refine go_aload_n (pc' := 9) rfl rfl rfl ?_
    refine go_getR (pc' := 12) rfl rfl hth rfl ?_
    refine go_iload_n (pc' := 13) rfl rfl rfl ?_
    obtain ⟨g0, h⟩ := o_gE h
    refine go_iaload (pc' := 14) rfl (o_inK g0) (o_inB g0) rfl ?_
    refine go_ldc (pc' := 16) (v := .inl (-2147483648 : Int32)) rfl rfl rfl ?_
    refine go_icmp_eq (pt := 23) (pc' := 19) rfl rfl rfl (fun h16 => ?_) (fun h16 => ?_)
    · replace h := o_t h16 h
      refine go_iconst (pc' := 24) (v := (nI 0)) rfl rfl rfl ?_
      cases h
      exact go_iret rfl (rfl) ⟨rfl, rfl, rfl, rfl, rfl⟩
    · replace h := o_f h16 h
      refine go_iconst (pc' := 20) (v := (nI 1)) rfl rfl rfl ?_
      refine go_goto (pc' := 24) rfl rfl ?_
      cases h
      exact go_iret rfl (rfl) ⟨rfl, rfl, rfl, rfl, rfl⟩
