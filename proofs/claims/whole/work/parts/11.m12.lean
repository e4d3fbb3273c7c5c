/-! Models of methods and their proofs, piece 12. Printed by wip/whole/pr10.py. -/
/-- PricedBasesModel.takesSign(I)Z -/
def m_210 (th : Nat) (a0 : Int32) (I : ai_I) (Rf : ai_R) (G : ai_G) : Option (Int32 × ai_I) :=
  o_b1 (m_208 th I Rf G) (fun r_1 => if r_1 = a0 then (o_b1 (some (va_up I th (va_up (I th) 4 ((I th 4) + (nI 1))))) (fun I_25 => some ((nI 1), I_25))) else (o_b2 (m_209 th (nI 1) (I th 4) I) (fun r_14 I_14 => o_g (o_bz r_14) (some (r_14, I_14)))))
theorem md_210 {d : Nat} {I : ai_I} {J : ai_J} {Rf : ai_R} {G : ai_G} {th : Nat} {a0 : Int32} {r : Int32} {I1 : ai_I} (hd : 2 ≤ d) (hth : G.1 th = 11) (h : m_210 th a0 I Rf G = some (r, I1)) : ai_Cl si_t si_ms d 210 [.inr (.inr th), .inl a0] I J Rf G (some (.inl r)) I1 J Rf G := by
  obtain ⟨e, rfl⟩ : ∃ e, d = e + 1 := ⟨d - 1, by omega⟩
  unfold m_210 at h
  refine sp_in (lo := [some (.inr (.inr th)), some (.inl a0)]) (B := (0, 0)) rfl (Nat.le_of_ble_eq_true rfl) rfl rfl ?_
  refine go_aload_n (pc' := 1) rfl rfl rfl ?_
  obtain ⟨r_1, q_1, h⟩ := o_b1E h
  refine go_callV (pc' := 4) (B' := (0, 0)) (st' := [.inl r_1]) rfl rfl (Or.inl (by decide)) rfl rfl hth (md_208 (by omega) hth q_1) rfl rfl rfl ?_
  refine go_iload_n (pc' := 5) rfl rfl rfl ?_
  refine go_icmp_eq (pt := 18) (pc' := 8) rfl rfl rfl (fun h5 => ?_) (fun h5 => ?_)
  · replace h := o_t h5 h
    refine go_aload_n (pc' := 19) rfl rfl rfl ?_
    refine go_aload_n (pc' := 20) rfl rfl rfl ?_
    refine go_getI (pc' := 23) rfl rfl (by decide) (by decide) hth rfl ?_
    refine go_iconst (pc' := 24) (v := (nI 1)) rfl rfl rfl ?_
    refine go_iadd (pc' := 25) rfl rfl ?_
    obtain ⟨I_25, eI_25, h⟩ := o_b1E h
    refine go_putI (pc' := 28) rfl rfl (fun h => by cases h) hth rfl ?_
    refine go_ndMI eI_25 ?_
    refine go_iconst (pc' := 29) (v := (nI 1)) rfl rfl rfl ?_
    cases h
    exact go_iret rfl (rfl) ⟨rfl, rfl, rfl, rfl, rfl⟩
  · replace h := o_f h5 h
    refine go_aload_n (pc' := 9) rfl rfl rfl ?_
    refine go_iconst (pc' := 10) (v := (nI 1)) rfl rfl rfl ?_
    refine go_aload_n (pc' := 11) rfl rfl rfl ?_
    refine go_getI (pc' := 14) rfl rfl (by decide) (by decide) hth rfl ?_
    obtain ⟨r_14, I_14, q_14, h⟩ := o_b2E h
    refine go_callV (pc' := 17) (B' := (0, 0)) (st' := [.inl r_14]) rfl rfl (Or.inl (by decide)) rfl rfl hth (md_209 (by omega) hth q_14) rfl rfl rfl ?_
    obtain ⟨g0, h⟩ := o_gE h
    cases h
    exact go_iret rfl (o_bzE g0) ⟨rfl, rfl, rfl, rfl, rfl⟩
def m_211_x13_81 (th : Nat) (Ix_81 : ai_I) (Jx_81 : ai_J) : Option (ai_I × ai_J) :=
  if ((Ix_81 th 4) - (Ix_81 th 9)) ≤ (nI 8) then (some (Ix_81, Jx_81)) else (o_b1 (some (va_up Jx_81 th (va_up (Jx_81 th) 12 (-1 : Int64)))) (fun J_99 => some (Ix_81, J_99)))
def m_211_j68 (th : Nat) (I_13 : ai_I) (J_68 : ai_J) : Option ((ai_I × ai_J) ⊕ (ai_I × ai_J)) :=
  o_b1 (some (va_up I_13 th (va_up (I_13 th) 4 ((I_13 th 4) + (nI 1))))) (fun I_75 => some (Sum.inl (I_75, J_68)))
def m_211_b13 (th : Nat) (Rf : ai_R) (G : ai_G) (I_13 : ai_I) (J_13 : ai_J) : Option ((ai_I × ai_J) ⊕ (ai_I × ai_J)) :=
  o_b1 (m_208 th I_13 Rf G) (fun r_14 => o_b1 (m_189 r_14.toInt64 (97 : Int64) (122 : Int64)) (fun r_24 => if r_24 = 0 then (some (Sum.inr (I_13, J_13))) else (if (nI 8) ≤ ((I_13 th 4) - (I_13 th 9)) then (m_211_j68 th I_13 J_13) else (o_b1 (m_208 th I_13 Rf G) (fun r_54 => o_b1 (some (va_up J_13 th (va_up (J_13 th) 12 (((((32 : Int64) * (J_13 th 12)) + r_54.toInt64) - (97 : Int64)) + (1 : Int64))))) (fun J_65 => m_211_j68 th I_13 J_65))))))
/-- PricedBasesModel.readsWord()V -/
def m_211 (th : Nat) (I : ai_I) (J : ai_J) (Rf : ai_R) (G : ai_G) : Option (ai_I × ai_J) :=
  o_b1 (some (va_up I th (va_up (I th) 9 (I th 4)))) (fun I_5 => o_b1 (some (va_up J th (va_up (J th) 12 (0 : Int64)))) (fun J_10 => o_s1 (lp (fun s => m_211_b13 th Rf G s.1 s.2) o_N (I_5, J_10)) (fun t => m_211_x13_81 th t.1 t.2)))
theorem md_211 {d : Nat} {I : ai_I} {J : ai_J} {Rf : ai_R} {G : ai_G} {th : Nat} {I1 : ai_I} {J1 : ai_J} (hd : 2 ≤ d) (hth : G.1 th = 11) (h : m_211 th I J Rf G = some (I1, J1)) : ai_Cl si_t si_ms d 211 [.inr (.inr th)] I J Rf G none I1 J1 Rf G := by
  obtain ⟨e, rfl⟩ : ∃ e, d = e + 1 := ⟨d - 1, by omega⟩
  unfold m_211 at h
  refine sp_in (lo := [some (.inr (.inr th))]) (B := (0, 0)) rfl (Nat.le_of_ble_eq_true rfl) rfl rfl ?_
  refine go_aload_n (pc' := 1) rfl rfl rfl ?_
  refine go_aload_n (pc' := 2) rfl rfl rfl ?_
  refine go_getI (pc' := 5) rfl rfl (by decide) (by decide) hth rfl ?_
  obtain ⟨I_5, eI_5, h⟩ := o_b1E h
  refine go_putI (pc' := 8) rfl rfl (fun h => by cases h) hth rfl ?_
  refine go_ndMI eI_5 ?_
  refine go_aload_n (pc' := 9) rfl rfl rfl ?_
  refine go_lconst (pc' := 10) (v := (0 : Int64)) rfl rfl rfl ?_
  obtain ⟨J_10, eJ_10, h⟩ := o_b1E h
  refine go_putJ (pc' := 13) rfl rfl (fun h => by cases h) hth rfl ?_
  refine go_ndMJ eJ_10 ?_
  obtain ⟨q13, hl13, hc13_81⟩ := o_s1E h
  have ex13_81 : ∀ (Ix_81 : ai_I) (Jx_81 : ai_J), (Ix_81, Jx_81) = q13 → ai_Go si_t (11, false, 9, cd_211) (ai_Cl si_t si_ms e) (sp_Q none I1 J1 Rf G) 81 [some (.inr (.inr th))] [] (0, 0) Ix_81 Jx_81 Rf G := by
    intro Ix_81 Jx_81 hq
    have h : m_211_x13_81 th Ix_81 Jx_81 = some (I1, J1) := hc13_81 (Ix_81, Jx_81) hq.symm
    unfold m_211_x13_81 at h
    refine go_aload_n (pc' := 82) rfl rfl rfl ?_
    refine go_getI (pc' := 85) rfl rfl (by decide) (by decide) hth rfl ?_
    refine go_aload_n (pc' := 86) rfl rfl rfl ?_
    refine go_getI (pc' := 89) rfl rfl (by decide) (by decide) hth rfl ?_
    refine go_isub (pc' := 90) rfl rfl ?_
    refine go_bipush (pc' := 92) (v := (nI 8)) rfl rfl rfl ?_
    refine go_icmp_le (pt := 102) (pc' := 95) rfl rfl rfl (fun h92 => ?_) (fun h92 => ?_)
    · replace h := o_t h92 h
      cases h
      exact go_vret rfl (rfl) ⟨rfl, rfl, rfl, rfl, rfl⟩
    · replace h := o_f h92 h
      refine go_aload_n (pc' := 96) rfl rfl rfl ?_
      refine go_ldc2_w (pc' := 99) (v := .inr (.inl (-1 : Int64))) rfl rfl rfl ?_
      obtain ⟨J_99, eJ_99, h⟩ := o_b1E h
      refine go_putJ (pc' := 102) rfl rfl (fun h => by cases h) hth rfl ?_
      refine go_ndMJ eJ_99 ?_
      cases h
      exact go_vret rfl (rfl) ⟨rfl, rfl, rfl, rfl, rfl⟩
  have lo13 : ∀ n s, lp (fun s => m_211_b13 th Rf G s.1 s.2) n s = some q13 → (fun s => ai_Go si_t (11, false, 9, cd_211) (ai_Cl si_t si_ms e) (sp_Q none I1 J1 Rf G) 13 [some (.inr (.inr th))] [] (0, 0) s.1 s.2 Rf G) s := lp_go (fun s x13 hx hk13 => by
    obtain ⟨I_13, J_13⟩ := s
    have h : m_211_b13 th Rf G I_13 J_13 = some x13 := hx
    clear hx
    show ai_Go si_t (11, false, 9, cd_211) (ai_Cl si_t si_ms e) (sp_Q none I1 J1 Rf G) 13 [some (.inr (.inr th))] [] (0, 0) I_13 J_13 Rf G
    unfold m_211_b13 at h
    refine go_aload_n (pc' := 14) rfl rfl rfl ?_
    obtain ⟨r_14, q_14, h⟩ := o_b1E h
    refine go_callV (pc' := 17) (B' := (0, 0)) (st' := [.inl r_14]) rfl rfl (Or.inl (by decide)) rfl rfl hth (md_208 (by omega) hth q_14) rfl rfl rfl ?_
    refine go_i2l (pc' := 18) rfl rfl ?_
    refine go_ldc2_w (pc' := 21) (v := .inr (.inl (97 : Int64))) rfl rfl rfl ?_
    refine go_ldc2_w (pc' := 24) (v := .inr (.inl (122 : Int64))) rfl rfl rfl ?_
    obtain ⟨r_24, q_24, h⟩ := o_b1E h
    refine go_callS (pc' := 27) (B' := (0, 0)) (st' := [.inl r_24]) rfl rfl (Or.inl (by decide)) rfl rfl trivial (md_189 (by omega) q_24) rfl rfl rfl ?_
    refine go_if_eq (pt := 81) (pc' := 30) rfl rfl rfl (fun h27 => ?_) (fun h27 => ?_)
    · replace h := o_t h27 h
      exact ex13_81 _ _  (lp_exitE h hk13)
    · replace h := o_f h27 h
      refine go_aload_n (pc' := 31) rfl rfl rfl ?_
      refine go_getI (pc' := 34) rfl rfl (by decide) (by decide) hth rfl ?_
      refine go_aload_n (pc' := 35) rfl rfl rfl ?_
      refine go_getI (pc' := 38) rfl rfl (by decide) (by decide) hth rfl ?_
      refine go_isub (pc' := 39) rfl rfl ?_
      refine go_bipush (pc' := 41) (v := (nI 8)) rfl rfl rfl ?_
      have jn68 : ∀ (J_68 : ai_J), m_211_j68 th I_13 J_68 = some x13 → ai_Go si_t (11, false, 9, cd_211) (ai_Cl si_t si_ms e) (sp_Q none I1 J1 Rf G) 68 [some (.inr (.inr th))] [] (0, 0) I_13 J_68 Rf G := by
        intro J_68 h
        unfold m_211_j68 at h
        refine go_aload_n (pc' := 69) rfl rfl rfl ?_
        refine go_aload_n (pc' := 70) rfl rfl rfl ?_
        refine go_getI (pc' := 73) rfl rfl (by decide) (by decide) hth rfl ?_
        refine go_iconst (pc' := 74) (v := (nI 1)) rfl rfl rfl ?_
        refine go_iadd (pc' := 75) rfl rfl ?_
        obtain ⟨I_75, eI_75, h⟩ := o_b1E h
        refine go_putI (pc' := 78) rfl rfl (fun h => by cases h) hth rfl ?_
        refine go_ndMI eI_75 ?_
        refine go_goto (pc' := 13) rfl rfl ?_
        exact (lp_backE h hk13 :)
      refine go_icmp_ge (pt := 68) (pc' := 44) rfl rfl rfl (fun h41 => ?_) (fun h41 => ?_)
      · replace h := o_t h41 h
        exact jn68 J_13 h
      · replace h := o_f h41 h
        refine go_aload_n (pc' := 45) rfl rfl rfl ?_
        refine go_ldc2_w (pc' := 48) (v := .inr (.inl (32 : Int64))) rfl rfl rfl ?_
        refine go_aload_n (pc' := 49) rfl rfl rfl ?_
        refine go_getJ (pc' := 52) rfl rfl hth rfl ?_
        refine go_lmul (pc' := 53) rfl rfl ?_
        refine go_aload_n (pc' := 54) rfl rfl rfl ?_
        obtain ⟨r_54, q_54, h⟩ := o_b1E h
        refine go_callV (pc' := 57) (B' := (0, 0)) (st' := [.inl r_54, .inr (.inl ((32 : Int64) * (J_13 th 12))), .inr (.inr th)]) rfl rfl (Or.inl (by decide)) rfl rfl hth (md_208 (by omega) hth q_54) rfl rfl rfl ?_
        refine go_i2l (pc' := 58) rfl rfl ?_
        refine go_ladd (pc' := 59) rfl rfl ?_
        refine go_ldc2_w (pc' := 62) (v := .inr (.inl (97 : Int64))) rfl rfl rfl ?_
        refine go_lsub (pc' := 63) rfl rfl ?_
        refine go_lconst (pc' := 64) (v := (1 : Int64)) rfl rfl rfl ?_
        refine go_ladd (pc' := 65) rfl rfl ?_
        obtain ⟨J_65, eJ_65, h⟩ := o_b1E h
        refine go_putJ (pc' := 68) rfl rfl (fun h => by cases h) hth rfl ?_
        refine go_ndMJ eJ_65 ?_
        exact jn68 J_65 h)
  exact lo13 _ (I_5, J_10) hl13 
def m_212_x86_115 (th : Nat) (Ix_115 : ai_I) : Option (Int32 × ai_I) :=
  o_b2 (m_209 th (nI 2) (Ix_115 th 4) Ix_115) (fun r_121 I_121 => o_g (o_bz r_121) (some (r_121, I_121)))
def m_212_j170 (th : Nat) (a0 : Int32) (a1 : Int32) (Rf : ai_R) (G : ai_G) (I_170 : ai_I) : Option (Int32 × ai_I) :=
  o_b1 (m_189 ((I_170 th 7).toInt64) a0.toInt64 a1.toInt64) (fun r_179 => if r_179 = 0 then (o_b2 (m_209 th (nI 3) (I_170 th 8) I_170) (fun r_191 I_191 => o_g (o_bz r_191) (some (r_191, I_191)))) else (o_g (o_in G 13 (Rf th 15) (I_170 th 11)) (o_b1 (some (va_up I_170 (Rf th 15) (va_up (I_170 (Rf th 15)) (I_170 th 11).toNatClampNeg (I_170 th 7)))) (fun I_207 => o_b1 (some (va_up I_207 th (va_up (I_207 th) 11 ((I_207 th 11) + (nI 1))))) (fun I_215 => some ((nI 1), I_215))))))
def m_212_x86_157 (th : Nat) (a0 : Int32) (a1 : Int32) (Rf : ai_R) (G : ai_G) (t0_33 : Int32) (Ix_157 : ai_I) : Option (Int32 × ai_I) :=
  if t0_33 = 0 then (m_212_j170 th a0 a1 Rf G Ix_157) else (o_b1 (some (va_up Ix_157 th (va_up (Ix_157 th) 7 (-(Ix_157 th 7))))) (fun I_167 => m_212_j170 th a0 a1 Rf G I_167))
def m_212_b86 (th : Nat) (Rf : ai_R) (G : ai_G) (x4_52 : Int32) (I_86 : ai_I) : Option (ai_I ⊕ (ai_I ⊕ ai_I)) :=
  o_b1 (m_208 th I_86 Rf G) (fun r_87 => o_b1 (m_189 r_87.toInt64 (48 : Int64) (57 : Int64)) (fun r_97 => if r_97 = 0 then (some (Sum.inr (Sum.inr I_86))) else (if (I_86 th 4) = (x4_52 + (nI 7)) then (some (Sum.inr (Sum.inl I_86))) else (o_b1 (m_208 th I_86 Rf G) (fun r_134 => o_b1 (some (va_up I_86 th (va_up (I_86 th) 7 ((((nI 10) * (I_86 th 7)) + r_134) - (nI 48))))) (fun I_141 => o_b1 (some (va_up I_141 th (va_up (I_141 th) 4 ((I_141 th 4) + (nI 1))))) (fun I_151 => some (Sum.inl I_151))))))))
def m_212_j48 (th : Nat) (a0 : Int32) (a1 : Int32) (Rf : ai_R) (G : ai_G) (t0_33 : Int32) (I_48 : ai_I) : Option (Int32 × ai_I) :=
  o_b1 (some (I_48 th 4)) (fun x4_52 => o_b1 (m_208 th I_48 Rf G) (fun r_55 => o_b1 (m_189 r_55.toInt64 (48 : Int64) (57 : Int64)) (fun r_65 => if r_65 = 0 then (o_b2 (m_209 th (nI 1) (I_48 th 4) I_48) (fun r_77 I_77 => o_g (o_bz r_77) (some (r_77, I_77)))) else (o_b1 (some (va_up I_48 th (va_up (I_48 th) 7 (nI 0)))) (fun I_83 => o_s2 (lp (fun s => m_212_b86 th Rf G x4_52 s) o_N I_83) (fun t => m_212_x86_115 th t) (fun t => m_212_x86_157 th a0 a1 Rf G t0_33 t))))))
def m_212_j33 (th : Nat) (a0 : Int32) (a1 : Int32) (Rf : ai_R) (G : ai_G) (I_16 : ai_I) (t0_33 : Int32) : Option (Int32 × ai_I) :=
  if t0_33 = 0 then (m_212_j48 th a0 a1 Rf G t0_33 I_16) else (o_b1 (some (va_up I_16 th (va_up (I_16 th) 4 ((I_16 th 4) + (nI 1))))) (fun I_45 => m_212_j48 th a0 a1 Rf G t0_33 I_45))
/-- PricedBasesModel.readsNumber(II)Z -/
def m_212 (th : Nat) (a0 : Int32) (a1 : Int32) (I : ai_I) (Rf : ai_R) (G : ai_G) : Option (Int32 × ai_I) :=
  o_b2 (m_210 th (nI 32) I Rf G) (fun r_3 I_3 => if r_3 = 0 then (some ((nI 0), I_3)) else (o_b1 (some (va_up I_3 th (va_up (I_3 th) 8 (I_3 th 4)))) (fun I_16 => o_b1 (m_208 th I_16 Rf G) (fun r_20 => if r_20 = (nI 45) then (m_212_j33 th a0 a1 Rf G I_16 (nI 1)) else (m_212_j33 th a0 a1 Rf G I_16 (nI 0))))))
set_option maxRecDepth 100000 in
theorem md_212 {d : Nat} {I : ai_I} {J : ai_J} {Rf : ai_R} {G : ai_G} {th : Nat} {a0 : Int32} {a1 : Int32} {r : Int32} {I1 : ai_I} (hd : 3 ≤ d) (hth : G.1 th = 11) (h : m_212 th a0 a1 I Rf G = some (r, I1)) : ai_Cl si_t si_ms d 212 [.inr (.inr th), .inl a0, .inl a1] I J Rf G (some (.inl r)) I1 J Rf G := by
  obtain ⟨e, rfl⟩ : ∃ e, d = e + 1 := ⟨d - 1, by omega⟩
  unfold m_212 at h
  refine sp_in (lo := [some (.inr (.inr th)), some (.inl a0), some (.inl a1), none, none]) (B := (0, 0)) rfl (Nat.le_of_ble_eq_true rfl) rfl rfl ?_
  refine go_aload_n (pc' := 1) rfl rfl rfl ?_
  refine go_bipush (pc' := 3) (v := (nI 32)) rfl rfl rfl ?_
  obtain ⟨r_3, I_3, q_3, h⟩ := o_b2E h
  refine go_callV (pc' := 6) (B' := (0, 0)) (st' := [.inl r_3]) rfl rfl (Or.inl (by decide)) rfl rfl hth (md_210 (by omega) hth q_3) rfl rfl rfl ?_
  refine go_if_ne (pt := 11) (pc' := 9) rfl rfl rfl (fun h6 => ?_) (fun h6 => ?_)
  · replace h := o_f h6 h
    refine go_aload_n (pc' := 12) rfl rfl rfl ?_
    refine go_aload_n (pc' := 13) rfl rfl rfl ?_
    refine go_getI (pc' := 16) rfl rfl (by decide) (by decide) hth rfl ?_
    obtain ⟨I_16, eI_16, h⟩ := o_b1E h
    refine go_putI (pc' := 19) rfl rfl (fun h => by cases h) hth rfl ?_
    refine go_ndMI eI_16 ?_
    refine go_aload_n (pc' := 20) rfl rfl rfl ?_
    obtain ⟨r_20, q_20, h⟩ := o_b1E h
    refine go_callV (pc' := 23) (B' := (0, 0)) (st' := [.inl r_20]) rfl rfl (Or.inl (by decide)) rfl rfl hth (md_208 (by omega) hth q_20) rfl rfl rfl ?_
    refine go_bipush (pc' := 25) (v := (nI 45)) rfl rfl rfl ?_
    have jn33 : ∀ (t0_33 : Int32), m_212_j33 th a0 a1 Rf G I_16 t0_33 = some (r, I1) → ai_Go si_t (11, false, 3, cd_212) (ai_Cl si_t si_ms e) (sp_Q (some (.inl r)) I1 J Rf G) 33 [some (.inr (.inr th)), some (.inl a0), some (.inl a1), none, none] [.inl t0_33] (0, 0) I_16 J Rf G := by
      intro t0_33 h
      unfold m_212_j33 at h
      refine go_istore_n (pc' := 34) (lo' := [some (.inr (.inr th)), some (.inl a0), some (.inl a1), some (.inl t0_33), none]) rfl rfl rfl ?_
      refine go_iload_n (pc' := 35) rfl rfl rfl ?_
      have jn48 : ∀ (I_48 : ai_I), m_212_j48 th a0 a1 Rf G t0_33 I_48 = some (r, I1) → ai_Go si_t (11, false, 3, cd_212) (ai_Cl si_t si_ms e) (sp_Q (some (.inl r)) I1 J Rf G) 48 [some (.inr (.inr th)), some (.inl a0), some (.inl a1), some (.inl t0_33), none] [] (0, 0) I_48 J Rf G := by
        intro I_48 h
        unfold m_212_j48 at h
        refine go_aload_n (pc' := 49) rfl rfl rfl ?_
        refine go_getI (pc' := 52) rfl rfl (by decide) (by decide) hth rfl ?_
        obtain ⟨x4_52, ex4_52, h⟩ := o_b1E h
        refine go_ndI ex4_52 ?_
        refine go_istore (pc' := 54) (lo' := [some (.inr (.inr th)), some (.inl a0), some (.inl a1), some (.inl t0_33), some (.inl x4_52)]) rfl rfl rfl ?_
        refine go_aload_n (pc' := 55) rfl rfl rfl ?_
        obtain ⟨r_55, q_55, h⟩ := o_b1E h
        refine go_callV (pc' := 58) (B' := (0, 0)) (st' := [.inl r_55]) rfl rfl (Or.inl (by decide)) rfl rfl hth (md_208 (by omega) hth q_55) rfl rfl rfl ?_
        refine go_i2l (pc' := 59) rfl rfl ?_
        refine go_ldc2_w (pc' := 62) (v := .inr (.inl (48 : Int64))) rfl rfl rfl ?_
        refine go_ldc2_w (pc' := 65) (v := .inr (.inl (57 : Int64))) rfl rfl rfl ?_
        obtain ⟨r_65, q_65, h⟩ := o_b1E h
        refine go_callS (pc' := 68) (B' := (0, 0)) (st' := [.inl r_65]) rfl rfl (Or.inl (by decide)) rfl rfl trivial (md_189 (by omega) q_65) rfl rfl rfl ?_
        refine go_if_ne (pt := 81) (pc' := 71) rfl rfl rfl (fun h68 => ?_) (fun h68 => ?_)
        · replace h := o_f h68 h
          refine go_aload_n (pc' := 82) rfl rfl rfl ?_
          refine go_iconst (pc' := 83) (v := (nI 0)) rfl rfl rfl ?_
          obtain ⟨I_83, eI_83, h⟩ := o_b1E h
          refine go_putI (pc' := 86) rfl rfl (fun h => by cases h) hth rfl ?_
          refine go_ndMI eI_83 ?_
          obtain ⟨q86, hl86, hc86_115, hc86_157⟩ := o_s2E h
          have ex86_115 : ∀ (Ix_115 : ai_I), (Sum.inl Ix_115) = q86 → ai_Go si_t (11, false, 3, cd_212) (ai_Cl si_t si_ms e) (sp_Q (some (.inl r)) I1 J Rf G) 115 [some (.inr (.inr th)), some (.inl a0), some (.inl a1), some (.inl t0_33), some (.inl x4_52)] [] (0, 0) Ix_115 J Rf G := by
            intro Ix_115 hq
            have h : m_212_x86_115 th Ix_115 = some (r, I1) := hc86_115 Ix_115 hq.symm
            unfold m_212_x86_115 at h
            refine go_aload_n (pc' := 116) rfl rfl rfl ?_
            refine go_iconst (pc' := 117) (v := (nI 2)) rfl rfl rfl ?_
            refine go_aload_n (pc' := 118) rfl rfl rfl ?_
            refine go_getI (pc' := 121) rfl rfl (by decide) (by decide) hth rfl ?_
            obtain ⟨r_121, I_121, q_121, h⟩ := o_b2E h
            refine go_callV (pc' := 124) (B' := (0, 0)) (st' := [.inl r_121]) rfl rfl (Or.inl (by decide)) rfl rfl hth (md_209 (by omega) hth q_121) rfl rfl rfl ?_
            obtain ⟨g0, h⟩ := o_gE h
            cases h
            exact go_iret rfl (o_bzE g0) ⟨rfl, rfl, rfl, rfl, rfl⟩
          have ex86_157 : ∀ (Ix_157 : ai_I), (Sum.inr Ix_157) = q86 → ai_Go si_t (11, false, 3, cd_212) (ai_Cl si_t si_ms e) (sp_Q (some (.inl r)) I1 J Rf G) 157 [some (.inr (.inr th)), some (.inl a0), some (.inl a1), some (.inl t0_33), some (.inl x4_52)] [] (0, 0) Ix_157 J Rf G := by
            intro Ix_157 hq
            have h : m_212_x86_157 th a0 a1 Rf G t0_33 Ix_157 = some (r, I1) := hc86_157 Ix_157 hq.symm
            unfold m_212_x86_157 at h
            refine go_iload_n (pc' := 158) rfl rfl rfl ?_
            have jn170 : ∀ (I_170 : ai_I), m_212_j170 th a0 a1 Rf G I_170 = some (r, I1) → ai_Go si_t (11, false, 3, cd_212) (ai_Cl si_t si_ms e) (sp_Q (some (.inl r)) I1 J Rf G) 170 [some (.inr (.inr th)), some (.inl a0), some (.inl a1), some (.inl t0_33), some (.inl x4_52)] [] (0, 0) I_170 J Rf G := by
              intro I_170 h
              unfold m_212_j170 at h
              refine go_aload_n (pc' := 171) rfl rfl rfl ?_
              refine go_getI (pc' := 174) rfl rfl (by decide) (by decide) hth rfl ?_
              refine go_i2l (pc' := 175) rfl rfl ?_
              refine go_iload_n (pc' := 176) rfl rfl rfl ?_
              refine go_i2l (pc' := 177) rfl rfl ?_
              refine go_iload_n (pc' := 178) rfl rfl rfl ?_
              refine go_i2l (pc' := 179) rfl rfl ?_
              obtain ⟨r_179, q_179, h⟩ := o_b1E h
              refine go_callS (pc' := 182) (B' := (0, 0)) (st' := [.inl r_179]) rfl rfl (Or.inl (by decide)) rfl rfl trivial (md_189 (by omega) q_179) rfl rfl rfl ?_
              refine go_if_ne (pt := 195) (pc' := 185) rfl rfl rfl (fun h182 => ?_) (fun h182 => ?_)
              · replace h := o_f h182 h
                refine go_aload_n (pc' := 196) rfl rfl rfl ?_
                refine go_getR (pc' := 199) rfl rfl hth rfl ?_
                refine go_aload_n (pc' := 200) rfl rfl rfl ?_
                refine go_getI (pc' := 203) rfl rfl (by decide) (by decide) hth rfl ?_
                refine go_aload_n (pc' := 204) rfl rfl rfl ?_
                refine go_getI (pc' := 207) rfl rfl (by decide) (by decide) hth rfl ?_
                obtain ⟨g1, h⟩ := o_gE h
                obtain ⟨I_207, eI_207, h⟩ := o_b1E h
                refine go_iastore (pc' := 208) rfl (o_inK g1) (o_inB g1) rfl ?_
                refine go_ndMI eI_207 ?_
                refine go_aload_n (pc' := 209) rfl rfl rfl ?_
                refine go_aload_n (pc' := 210) rfl rfl rfl ?_
                refine go_getI (pc' := 213) rfl rfl (by decide) (by decide) hth rfl ?_
                refine go_iconst (pc' := 214) (v := (nI 1)) rfl rfl rfl ?_
                refine go_iadd (pc' := 215) rfl rfl ?_
                obtain ⟨I_215, eI_215, h⟩ := o_b1E h
                refine go_putI (pc' := 218) rfl rfl (fun h => by cases h) hth rfl ?_
                refine go_ndMI eI_215 ?_
                refine go_iconst (pc' := 219) (v := (nI 1)) rfl rfl rfl ?_
                cases h
                exact go_iret rfl (rfl) ⟨rfl, rfl, rfl, rfl, rfl⟩
              · replace h := o_t (Decidable.of_not_not h182) h
                refine go_aload_n (pc' := 186) rfl rfl rfl ?_
                refine go_iconst (pc' := 187) (v := (nI 3)) rfl rfl rfl ?_
                refine go_aload_n (pc' := 188) rfl rfl rfl ?_
                refine go_getI (pc' := 191) rfl rfl (by decide) (by decide) hth rfl ?_
                obtain ⟨r_191, I_191, q_191, h⟩ := o_b2E h
                refine go_callV (pc' := 194) (B' := (0, 0)) (st' := [.inl r_191]) rfl rfl (Or.inl (by decide)) rfl rfl hth (md_209 (by omega) hth q_191) rfl rfl rfl ?_
                obtain ⟨g2, h⟩ := o_gE h
                cases h
                exact go_iret rfl (o_bzE g2) ⟨rfl, rfl, rfl, rfl, rfl⟩
            refine go_if_eq (pt := 170) (pc' := 161) rfl rfl rfl (fun h158 => ?_) (fun h158 => ?_)
            · replace h := o_t h158 h
              exact jn170 Ix_157 h
            · replace h := o_f h158 h
              refine go_aload_n (pc' := 162) rfl rfl rfl ?_
              refine go_aload_n (pc' := 163) rfl rfl rfl ?_
              refine go_getI (pc' := 166) rfl rfl (by decide) (by decide) hth rfl ?_
              refine go_ineg (pc' := 167) rfl rfl ?_
              obtain ⟨I_167, eI_167, h⟩ := o_b1E h
              refine go_putI (pc' := 170) rfl rfl (fun h => by cases h) hth rfl ?_
              refine go_ndMI eI_167 ?_
              exact jn170 I_167 h
          have lo86 : ∀ n s, lp (fun s => m_212_b86 th Rf G x4_52 s) n s = some q86 → (fun s => ai_Go si_t (11, false, 3, cd_212) (ai_Cl si_t si_ms e) (sp_Q (some (.inl r)) I1 J Rf G) 86 [some (.inr (.inr th)), some (.inl a0), some (.inl a1), some (.inl t0_33), some (.inl x4_52)] [] (0, 0) s J Rf G) s := lp_go (fun s x86 hx hk86 => by
            revert s; intro I_86 hx
            have h : m_212_b86 th Rf G x4_52 I_86 = some x86 := hx
            clear hx
            show ai_Go si_t (11, false, 3, cd_212) (ai_Cl si_t si_ms e) (sp_Q (some (.inl r)) I1 J Rf G) 86 [some (.inr (.inr th)), some (.inl a0), some (.inl a1), some (.inl t0_33), some (.inl x4_52)] [] (0, 0) I_86 J Rf G
            unfold m_212_b86 at h
            refine go_aload_n (pc' := 87) rfl rfl rfl ?_
            obtain ⟨r_87, q_87, h⟩ := o_b1E h
            refine go_callV (pc' := 90) (B' := (0, 0)) (st' := [.inl r_87]) rfl rfl (Or.inl (by decide)) rfl rfl hth (md_208 (by omega) hth q_87) rfl rfl rfl ?_
            refine go_i2l (pc' := 91) rfl rfl ?_
            refine go_ldc2_w (pc' := 94) (v := .inr (.inl (48 : Int64))) rfl rfl rfl ?_
            refine go_ldc2_w (pc' := 97) (v := .inr (.inl (57 : Int64))) rfl rfl rfl ?_
            obtain ⟨r_97, q_97, h⟩ := o_b1E h
            refine go_callS (pc' := 100) (B' := (0, 0)) (st' := [.inl r_97]) rfl rfl (Or.inl (by decide)) rfl rfl trivial (md_189 (by omega) q_97) rfl rfl rfl ?_
            refine go_if_eq (pt := 157) (pc' := 103) rfl rfl rfl (fun h100 => ?_) (fun h100 => ?_)
            · replace h := o_t h100 h
              exact ex86_157 _  (lp_exitE h hk86)
            · replace h := o_f h100 h
              refine go_aload_n (pc' := 104) rfl rfl rfl ?_
              refine go_getI (pc' := 107) rfl rfl (by decide) (by decide) hth rfl ?_
              refine go_iload (pc' := 109) rfl rfl rfl ?_
              refine go_bipush (pc' := 111) (v := (nI 7)) rfl rfl rfl ?_
              refine go_iadd (pc' := 112) rfl rfl ?_
              refine go_icmp_ne (pt := 125) (pc' := 115) rfl rfl rfl (fun h112 => ?_) (fun h112 => ?_)
              · replace h := o_f h112 h
                refine go_aload_n (pc' := 126) rfl rfl rfl ?_
                refine go_bipush (pc' := 128) (v := (nI 10)) rfl rfl rfl ?_
                refine go_aload_n (pc' := 129) rfl rfl rfl ?_
                refine go_getI (pc' := 132) rfl rfl (by decide) (by decide) hth rfl ?_
                refine go_imul (pc' := 133) rfl rfl ?_
                refine go_aload_n (pc' := 134) rfl rfl rfl ?_
                obtain ⟨r_134, q_134, h⟩ := o_b1E h
                refine go_callV (pc' := 137) (B' := (0, 0)) (st' := [.inl r_134, .inl ((nI 10) * (I_86 th 7)), .inr (.inr th)]) rfl rfl (Or.inl (by decide)) rfl rfl hth (md_208 (by omega) hth q_134) rfl rfl rfl ?_
                refine go_iadd (pc' := 138) rfl rfl ?_
                refine go_bipush (pc' := 140) (v := (nI 48)) rfl rfl rfl ?_
                refine go_isub (pc' := 141) rfl rfl ?_
                obtain ⟨I_141, eI_141, h⟩ := o_b1E h
                refine go_putI (pc' := 144) rfl rfl (fun h => by cases h) hth rfl ?_
                refine go_ndMI eI_141 ?_
                refine go_aload_n (pc' := 145) rfl rfl rfl ?_
                refine go_aload_n (pc' := 146) rfl rfl rfl ?_
                refine go_getI (pc' := 149) rfl rfl (by decide) (by decide) hth rfl ?_
                refine go_iconst (pc' := 150) (v := (nI 1)) rfl rfl rfl ?_
                refine go_iadd (pc' := 151) rfl rfl ?_
                obtain ⟨I_151, eI_151, h⟩ := o_b1E h
                refine go_putI (pc' := 154) rfl rfl (fun h => by cases h) hth rfl ?_
                refine go_ndMI eI_151 ?_
                refine go_goto (pc' := 86) rfl rfl ?_
                exact (lp_backE h hk86 :)
              · replace h := o_t (Decidable.of_not_not h112) h
                exact ex86_115 _  (lp_exitE h hk86))
          exact lo86 _ I_83 hl86 
        · replace h := o_t (Decidable.of_not_not h68) h
          refine go_aload_n (pc' := 72) rfl rfl rfl ?_
          refine go_iconst (pc' := 73) (v := (nI 1)) rfl rfl rfl ?_
          refine go_aload_n (pc' := 74) rfl rfl rfl ?_
          refine go_getI (pc' := 77) rfl rfl (by decide) (by decide) hth rfl ?_
          obtain ⟨r_77, I_77, q_77, h⟩ := o_b2E h
          refine go_callV (pc' := 80) (B' := (0, 0)) (st' := [.inl r_77]) rfl rfl (Or.inl (by decide)) rfl rfl hth (md_209 (by omega) hth q_77) rfl rfl rfl ?_
          obtain ⟨g3, h⟩ := o_gE h
          cases h
          exact go_iret rfl (o_bzE g3) ⟨rfl, rfl, rfl, rfl, rfl⟩
      refine go_if_eq (pt := 48) (pc' := 38) rfl rfl rfl (fun h35 => ?_) (fun h35 => ?_)
      · replace h := o_t h35 h
        exact jn48 I_16 h
      · replace h := o_f h35 h
        refine go_aload_n (pc' := 39) rfl rfl rfl ?_
        refine go_aload_n (pc' := 40) rfl rfl rfl ?_
        refine go_getI (pc' := 43) rfl rfl (by decide) (by decide) hth rfl ?_
        refine go_iconst (pc' := 44) (v := (nI 1)) rfl rfl rfl ?_
        refine go_iadd (pc' := 45) rfl rfl ?_
        obtain ⟨I_45, eI_45, h⟩ := o_b1E h
        refine go_putI (pc' := 48) rfl rfl (fun h => by cases h) hth rfl ?_
        refine go_ndMI eI_45 ?_
        exact jn48 I_45 h
    refine go_icmp_ne (pt := 32) (pc' := 28) rfl rfl rfl (fun h25 => ?_) (fun h25 => ?_)
    · replace h := o_f h25 h
      refine go_iconst (pc' := 33) (v := (nI 0)) rfl rfl rfl ?_
      exact jn33 (nI 0) h
    · replace h := o_t (Decidable.of_not_not h25) h
      refine go_iconst (pc' := 29) (v := (nI 1)) rfl rfl rfl ?_
      refine go_goto (pc' := 33) rfl rfl ?_
      exact jn33 (nI 1) h
  · replace h := o_t (Decidable.of_not_not h6) h
    refine go_iconst (pc' := 10) (v := (nI 0)) rfl rfl rfl ?_
    cases h
    exact go_iret rfl (rfl) ⟨rfl, rfl, rfl, rfl, rfl⟩
/-- PricedBasesModel.readsRanks()Z -/
def m_213 (th : Nat) (I : ai_I) (Rf : ai_R) (G : ai_G) : Option (Int32 × ai_I) :=
  o_b2 (m_212 th (nI 0) (nI 3) I Rf G) (fun r_3 I_3 => if r_3 = 0 then (some ((nI 0), I_3)) else (o_b2 (m_212 th (nI 2) (nI 8) I_3 Rf G) (fun r_13 I_13 => if r_13 = 0 then (some ((nI 0), I_13)) else (o_b2 (m_212 th (nI 1) ((I_13 th 7) - (nI 1)) I_13 Rf G) (fun r_27 I_27 => if r_27 = 0 then (some ((nI 0), I_27)) else (some ((nI 1), I_27)))))))
theorem md_213 {d : Nat} {I : ai_I} {J : ai_J} {Rf : ai_R} {G : ai_G} {th : Nat} {r : Int32} {I1 : ai_I} (hd : 4 ≤ d) (hth : G.1 th = 11) (h : m_213 th I Rf G = some (r, I1)) : ai_Cl si_t si_ms d 213 [.inr (.inr th)] I J Rf G (some (.inl r)) I1 J Rf G := by
  obtain ⟨e, rfl⟩ : ∃ e, d = e + 1 := ⟨d - 1, by omega⟩
  unfold m_213 at h
  refine sp_in (lo := [some (.inr (.inr th))]) (B := (0, 0)) rfl (Nat.le_of_ble_eq_true rfl) rfl rfl ?_
  refine go_aload_n (pc' := 1) rfl rfl rfl ?_
  refine go_iconst (pc' := 2) (v := (nI 0)) rfl rfl rfl ?_
  refine go_iconst (pc' := 3) (v := (nI 3)) rfl rfl rfl ?_
  obtain ⟨r_3, I_3, q_3, h⟩ := o_b2E h
  refine go_callV (pc' := 6) (B' := (0, 0)) (st' := [.inl r_3]) rfl rfl (Or.inl (by decide)) rfl rfl hth (md_212 (by omega) hth q_3) rfl rfl rfl ?_
  refine go_if_eq (pt := 37) (pc' := 9) rfl rfl rfl (fun h6 => ?_) (fun h6 => ?_)
  · replace h := o_t h6 h
    refine go_iconst (pc' := 38) (v := (nI 0)) rfl rfl rfl ?_
    cases h
    exact go_iret rfl (rfl) ⟨rfl, rfl, rfl, rfl, rfl⟩
  · replace h := o_f h6 h
    refine go_aload_n (pc' := 10) rfl rfl rfl ?_
    refine go_iconst (pc' := 11) (v := (nI 2)) rfl rfl rfl ?_
    refine go_bipush (pc' := 13) (v := (nI 8)) rfl rfl rfl ?_
    obtain ⟨r_13, I_13, q_13, h⟩ := o_b2E h
    refine go_callV (pc' := 16) (B' := (0, 0)) (st' := [.inl r_13]) rfl rfl (Or.inl (by decide)) rfl rfl hth (md_212 (by omega) hth q_13) rfl rfl rfl ?_
    refine go_if_eq (pt := 37) (pc' := 19) rfl rfl rfl (fun h16 => ?_) (fun h16 => ?_)
    · replace h := o_t h16 h
      refine go_iconst (pc' := 38) (v := (nI 0)) rfl rfl rfl ?_
      cases h
      exact go_iret rfl (rfl) ⟨rfl, rfl, rfl, rfl, rfl⟩
    · replace h := o_f h16 h
      refine go_aload_n (pc' := 20) rfl rfl rfl ?_
      refine go_iconst (pc' := 21) (v := (nI 1)) rfl rfl rfl ?_
      refine go_aload_n (pc' := 22) rfl rfl rfl ?_
      refine go_getI (pc' := 25) rfl rfl (by decide) (by decide) hth rfl ?_
      refine go_iconst (pc' := 26) (v := (nI 1)) rfl rfl rfl ?_
      refine go_isub (pc' := 27) rfl rfl ?_
      obtain ⟨r_27, I_27, q_27, h⟩ := o_b2E h
      refine go_callV (pc' := 30) (B' := (0, 0)) (st' := [.inl r_27]) rfl rfl (Or.inl (by decide)) rfl rfl hth (md_212 (by omega) hth q_27) rfl rfl rfl ?_
      refine go_if_eq (pt := 37) (pc' := 33) rfl rfl rfl (fun h30 => ?_) (fun h30 => ?_)
      · replace h := o_t h30 h
        refine go_iconst (pc' := 38) (v := (nI 0)) rfl rfl rfl ?_
        cases h
        exact go_iret rfl (rfl) ⟨rfl, rfl, rfl, rfl, rfl⟩
      · replace h := o_f h30 h
        refine go_iconst (pc' := 34) (v := (nI 1)) rfl rfl rfl ?_
        refine go_goto (pc' := 38) rfl rfl ?_
        cases h
        exact go_iret rfl (rfl) ⟨rfl, rfl, rfl, rfl, rfl⟩
def m_214_x37_63 (w2_63 : Int32) (Ix_63 : ai_I) : Option (Int32 × ai_I) :=
  o_g (o_bz w2_63) (some (w2_63, Ix_63))
def m_214_b37 (th : Nat) (Rf : ai_R) (G : ai_G) (x1_32 : Int32) (v2_37 : Int32) (v3_37 : Int32) (I_37 : ai_I) : Option ((Int32 × Int32 × ai_I) ⊕ (Int32 × ai_I)) :=
  if x1_32 ≤ v3_37 then (some (Sum.inr (v2_37, I_37))) else (if v2_37 = 0 then (some (Sum.inr (v2_37, I_37))) else (o_b2 (m_212 th (-999 : Int32) (nI 999) I_37 Rf G) (fun r_53 I_53 => o_b1 (some (v3_37 + (nI 1))) (fun x3_57 => some (Sum.inl (r_53, x3_57, I_53))))))
/-- PricedBasesModel.readsMatch()Z -/
def m_214 (th : Nat) (I : ai_I) (Rf : ai_R) (G : ai_G) : Option (Int32 × ai_I) :=
  o_b2 (m_213 th I Rf G) (fun r_1 I_1 => if r_1 = 0 then (some ((nI 0), I_1)) else (o_g (o_in G 13 (Rf th 15) ((I_1 th 11) - (nI 2))) (o_g (o_in G 13 (Rf th 15) ((I_1 th 11) - (nI 1))) (o_b1 (some ((I_1 (Rf th 15) ((I_1 th 11) - (nI 2)).toNatClampNeg) * (I_1 (Rf th 15) ((I_1 th 11) - (nI 1)).toNatClampNeg))) (fun x1_32 => o_s1 (lp (fun s => m_214_b37 th Rf G x1_32 s.1 s.2.1 s.2.2) o_N ((nI 1), (nI 0), I_1)) (fun t => m_214_x37_63 t.1 t.2))))))
theorem md_214 {d : Nat} {I : ai_I} {J : ai_J} {Rf : ai_R} {G : ai_G} {th : Nat} {r : Int32} {I1 : ai_I} (hd : 5 ≤ d) (hth : G.1 th = 11) (h : m_214 th I Rf G = some (r, I1)) : ai_Cl si_t si_ms d 214 [.inr (.inr th)] I J Rf G (some (.inl r)) I1 J Rf G := by
  obtain ⟨e, rfl⟩ : ∃ e, d = e + 1 := ⟨d - 1, by omega⟩
  unfold m_214 at h
  refine sp_in (lo := [some (.inr (.inr th)), none, none, none]) (B := (0, 0)) rfl (Nat.le_of_ble_eq_true rfl) rfl rfl ?_
  refine go_aload_n (pc' := 1) rfl rfl rfl ?_
  obtain ⟨r_1, I_1, q_1, h⟩ := o_b2E h
  refine go_callV (pc' := 4) (B' := (0, 0)) (st' := [.inl r_1]) rfl rfl (Or.inl (by decide)) rfl rfl hth (md_213 (by omega) hth q_1) rfl rfl rfl ?_
  refine go_if_ne (pt := 9) (pc' := 7) rfl rfl rfl (fun h4 => ?_) (fun h4 => ?_)
  · replace h := o_f h4 h
    refine go_aload_n (pc' := 10) rfl rfl rfl ?_
    refine go_getR (pc' := 13) rfl rfl hth rfl ?_
    refine go_aload_n (pc' := 14) rfl rfl rfl ?_
    refine go_getI (pc' := 17) rfl rfl (by decide) (by decide) hth rfl ?_
    refine go_iconst (pc' := 18) (v := (nI 2)) rfl rfl rfl ?_
    refine go_isub (pc' := 19) rfl rfl ?_
    obtain ⟨g0, h⟩ := o_gE h
    refine go_iaload (pc' := 20) rfl (o_inK g0) (o_inB g0) rfl ?_
    refine go_aload_n (pc' := 21) rfl rfl rfl ?_
    refine go_getR (pc' := 24) rfl rfl hth rfl ?_
    refine go_aload_n (pc' := 25) rfl rfl rfl ?_
    refine go_getI (pc' := 28) rfl rfl (by decide) (by decide) hth rfl ?_
    refine go_iconst (pc' := 29) (v := (nI 1)) rfl rfl rfl ?_
    refine go_isub (pc' := 30) rfl rfl ?_
    obtain ⟨g1, h⟩ := o_gE h
    refine go_iaload (pc' := 31) rfl (o_inK g1) (o_inB g1) rfl ?_
    refine go_imul (pc' := 32) rfl rfl ?_
    obtain ⟨x1_32, ex1_32, h⟩ := o_b1E h
    refine go_ndI ex1_32 ?_
    refine go_istore_n (pc' := 33) (lo' := [some (.inr (.inr th)), some (.inl x1_32), none, none]) rfl rfl rfl ?_
    refine go_iconst (pc' := 34) (v := (nI 1)) rfl rfl rfl ?_
    refine go_istore_n (pc' := 35) (lo' := [some (.inr (.inr th)), some (.inl x1_32), some (.inl (nI 1)), none]) rfl rfl rfl ?_
    refine go_iconst (pc' := 36) (v := (nI 0)) rfl rfl rfl ?_
    refine go_istore_n (pc' := 37) (lo' := [some (.inr (.inr th)), some (.inl x1_32), some (.inl (nI 1)), some (.inl (nI 0))]) rfl rfl rfl ?_
    obtain ⟨q37, hl37, hc37_63⟩ := o_s1E h
    have ex37_63 : ∀ (w2_63 : Int32) (Ix_63 : ai_I) (z3_x63 : Option ai_V), (w2_63, Ix_63) = q37 → ai_Go si_t (11, false, 3, cd_214) (ai_Cl si_t si_ms e) (sp_Q (some (.inl r)) I1 J Rf G) 63 [some (.inr (.inr th)), some (.inl x1_32), some (.inl w2_63), z3_x63] [] (0, 0) Ix_63 J Rf G := by
      intro w2_63 Ix_63 z3_x63 hq
      have h : m_214_x37_63 w2_63 Ix_63 = some (r, I1) := hc37_63 (w2_63, Ix_63) hq.symm
      unfold m_214_x37_63 at h
      refine go_iload_n (pc' := 64) rfl rfl rfl ?_
      obtain ⟨g2, h⟩ := o_gE h
      cases h
      exact go_iret rfl (o_bzE g2) ⟨rfl, rfl, rfl, rfl, rfl⟩
    have lo37 : ∀ n s, lp (fun s => m_214_b37 th Rf G x1_32 s.1 s.2.1 s.2.2) n s = some q37 → (fun s => ai_Go si_t (11, false, 3, cd_214) (ai_Cl si_t si_ms e) (sp_Q (some (.inl r)) I1 J Rf G) 37 [some (.inr (.inr th)), some (.inl x1_32), some (.inl s.1), some (.inl s.2.1)] [] (0, 0) s.2.2 J Rf G) s := lp_go (fun s x37 hx hk37 => by
      obtain ⟨v2_37, v3_37, I_37⟩ := s
      have h : m_214_b37 th Rf G x1_32 v2_37 v3_37 I_37 = some x37 := hx
      clear hx
      show ai_Go si_t (11, false, 3, cd_214) (ai_Cl si_t si_ms e) (sp_Q (some (.inl r)) I1 J Rf G) 37 [some (.inr (.inr th)), some (.inl x1_32), some (.inl v2_37), some (.inl v3_37)] [] (0, 0) I_37 J Rf G
      unfold m_214_b37 at h
      refine go_iload_n (pc' := 38) rfl rfl rfl ?_
      refine go_iload_n (pc' := 39) rfl rfl rfl ?_
      refine go_icmp_ge (pt := 63) (pc' := 42) rfl rfl rfl (fun h39 => ?_) (fun h39 => ?_)
      · replace h := o_t h39 h
        exact ex37_63 _ _ (some (.inl v3_37)) (lp_exitE h hk37)
      · replace h := o_f h39 h
        refine go_iload_n (pc' := 43) rfl rfl rfl ?_
        refine go_if_eq (pt := 63) (pc' := 46) rfl rfl rfl (fun h43 => ?_) (fun h43 => ?_)
        · replace h := o_t h43 h
          exact ex37_63 _ _ (some (.inl v3_37)) (lp_exitE h hk37)
        · replace h := o_f h43 h
          refine go_aload_n (pc' := 47) rfl rfl rfl ?_
          refine go_sipush (pc' := 50) (v := (-999 : Int32)) rfl rfl rfl ?_
          refine go_sipush (pc' := 53) (v := (nI 999)) rfl rfl rfl ?_
          obtain ⟨r_53, I_53, q_53, h⟩ := o_b2E h
          refine go_callV (pc' := 56) (B' := (0, 0)) (st' := [.inl r_53]) rfl rfl (Or.inl (by decide)) rfl rfl hth (md_212 (by omega) hth q_53) rfl rfl rfl ?_
          refine go_istore_n (pc' := 57) (lo' := [some (.inr (.inr th)), some (.inl x1_32), some (.inl r_53), some (.inl v3_37)]) rfl rfl rfl ?_
          obtain ⟨x3_57, ex3_57, h⟩ := o_b1E h
          refine go_iincE (pc' := 60) rfl rfl (y := (nI 1)) rfl ex3_57 (lo' := [some (.inr (.inr th)), some (.inl x1_32), some (.inl r_53), some (.inl x3_57)]) rfl rfl ?_
          refine go_goto (pc' := 37) rfl rfl ?_
          exact (lp_backE h hk37 :))
    exact lo37 _ ((nI 1), (nI 0), I_1) hl37 
  · replace h := o_t (Decidable.of_not_not h4) h
    refine go_iconst (pc' := 8) (v := (nI 0)) rfl rfl rfl ?_
    cases h
    exact go_iret rfl (rfl) ⟨rfl, rfl, rfl, rfl, rfl⟩
def m_215_x50_66 (Ix_66 : ai_I) : Option (Int32 × ai_I) :=
  some ((nI 0), Ix_66)
def m_215_x50_85 (Ix_85 : ai_I) : Option (Int32 × ai_I) :=
  some ((nI 0), Ix_85)
def m_215_x50_96 (th : Nat) (Ix_96 : ai_I) : Option (Int32 × ai_I) :=
  o_b2 (m_209 th (nI 6) (Ix_96 th 8) Ix_96) (fun r_103 I_103 => o_g (o_bz r_103) (some (r_103, I_103)))
def m_215_x50_113 (Ix_113 : ai_I) : Option (Int32 × ai_I) :=
  some ((nI 1), Ix_113)
def m_215_b50 (th : Nat) (Rf : ai_R) (G : ai_G) (x1_42 : Int32) (x2_47 : Int32) (v3_50 : Int32) (I_50 : ai_I) : Option ((Int32 × ai_I) ⊕ (ai_I ⊕ ai_I ⊕ ai_I ⊕ ai_I)) :=
  if x1_42 ≤ v3_50 then (some (Sum.inr (Sum.inr (Sum.inr (Sum.inr I_50))))) else (o_b2 (m_212 th (nI 0) (x2_47 - (nI 1)) I_50 Rf G) (fun r_60 I_60 => if r_60 = 0 then (some (Sum.inr (Sum.inl I_60))) else (o_b1 (some (I_60 th 7)) (fun x4_72 => o_b2 (m_212 th (nI 0) (x2_47 - (nI 1)) I_60 Rf G) (fun r_79 I_79 => if r_79 = 0 then (some (Sum.inr (Sum.inr (Sum.inl I_79)))) else (if (I_79 th 7) = x4_72 then (some (Sum.inr (Sum.inr (Sum.inr (Sum.inl I_79))))) else (o_b1 (some (v3_50 + (nI 1))) (fun x3_107 => some (Sum.inl (x3_107, I_79))))))))))
/-- PricedBasesModel.readsGraph()Z -/
def m_215 (th : Nat) (I : ai_I) (Rf : ai_R) (G : ai_G) : Option (Int32 × ai_I) :=
  o_b2 (m_212 th (nI 0) (nI 3) I Rf G) (fun r_3 I_3 => if r_3 = 0 then (some ((nI 0), I_3)) else (o_b2 (m_212 th (nI 2) (nI 8) I_3 Rf G) (fun r_13 I_13 => if r_13 = 0 then (some ((nI 0), I_13)) else (o_b2 (m_212 th (nI 2) (nI 6) I_13 Rf G) (fun r_23 I_23 => if r_23 = 0 then (some ((nI 0), I_23)) else (o_g (o_in G 13 (Rf th 15) ((I_23 th 11) - (nI 2))) (o_b1 (some (I_23 (Rf th 15) ((I_23 th 11) - (nI 2)).toNatClampNeg)) (fun x1_42 => o_b1 (some (I_23 th 7)) (fun x2_47 => o_s4 (lp (fun s => m_215_b50 th Rf G x1_42 x2_47 s.1 s.2) o_N ((nI 0), I_23)) (fun t => m_215_x50_66 t) (fun t => m_215_x50_85 t) (fun t => m_215_x50_96 th t) (fun t => m_215_x50_113 t))))))))))
theorem md_215 {d : Nat} {I : ai_I} {J : ai_J} {Rf : ai_R} {G : ai_G} {th : Nat} {r : Int32} {I1 : ai_I} (hd : 4 ≤ d) (hth : G.1 th = 11) (h : m_215 th I Rf G = some (r, I1)) : ai_Cl si_t si_ms d 215 [.inr (.inr th)] I J Rf G (some (.inl r)) I1 J Rf G := by
  obtain ⟨e, rfl⟩ : ∃ e, d = e + 1 := ⟨d - 1, by omega⟩
  unfold m_215 at h
  refine sp_in (lo := [some (.inr (.inr th)), none, none, none, none]) (B := (0, 0)) rfl (Nat.le_of_ble_eq_true rfl) rfl rfl ?_
  refine go_aload_n (pc' := 1) rfl rfl rfl ?_
  refine go_iconst (pc' := 2) (v := (nI 0)) rfl rfl rfl ?_
  refine go_iconst (pc' := 3) (v := (nI 3)) rfl rfl rfl ?_
  obtain ⟨r_3, I_3, q_3, h⟩ := o_b2E h
  refine go_callV (pc' := 6) (B' := (0, 0)) (st' := [.inl r_3]) rfl rfl (Or.inl (by decide)) rfl rfl hth (md_212 (by omega) hth q_3) rfl rfl rfl ?_
  refine go_if_eq (pt := 29) (pc' := 9) rfl rfl rfl (fun h6 => ?_) (fun h6 => ?_)
  · replace h := o_t h6 h
    refine go_iconst (pc' := 30) (v := (nI 0)) rfl rfl rfl ?_
    cases h
    exact go_iret rfl (rfl) ⟨rfl, rfl, rfl, rfl, rfl⟩
  · replace h := o_f h6 h
    refine go_aload_n (pc' := 10) rfl rfl rfl ?_
    refine go_iconst (pc' := 11) (v := (nI 2)) rfl rfl rfl ?_
    refine go_bipush (pc' := 13) (v := (nI 8)) rfl rfl rfl ?_
    obtain ⟨r_13, I_13, q_13, h⟩ := o_b2E h
    refine go_callV (pc' := 16) (B' := (0, 0)) (st' := [.inl r_13]) rfl rfl (Or.inl (by decide)) rfl rfl hth (md_212 (by omega) hth q_13) rfl rfl rfl ?_
    refine go_if_eq (pt := 29) (pc' := 19) rfl rfl rfl (fun h16 => ?_) (fun h16 => ?_)
    · replace h := o_t h16 h
      refine go_iconst (pc' := 30) (v := (nI 0)) rfl rfl rfl ?_
      cases h
      exact go_iret rfl (rfl) ⟨rfl, rfl, rfl, rfl, rfl⟩
    · replace h := o_f h16 h
      refine go_aload_n (pc' := 20) rfl rfl rfl ?_
      refine go_iconst (pc' := 21) (v := (nI 2)) rfl rfl rfl ?_
      refine go_bipush (pc' := 23) (v := (nI 6)) rfl rfl rfl ?_
      obtain ⟨r_23, I_23, q_23, h⟩ := o_b2E h
      refine go_callV (pc' := 26) (B' := (0, 0)) (st' := [.inl r_23]) rfl rfl (Or.inl (by decide)) rfl rfl hth (md_212 (by omega) hth q_23) rfl rfl rfl ?_
      refine go_if_ne (pt := 31) (pc' := 29) rfl rfl rfl (fun h26 => ?_) (fun h26 => ?_)
      · replace h := o_f h26 h
        refine go_aload_n (pc' := 32) rfl rfl rfl ?_
        refine go_getR (pc' := 35) rfl rfl hth rfl ?_
        refine go_aload_n (pc' := 36) rfl rfl rfl ?_
        refine go_getI (pc' := 39) rfl rfl (by decide) (by decide) hth rfl ?_
        refine go_iconst (pc' := 40) (v := (nI 2)) rfl rfl rfl ?_
        refine go_isub (pc' := 41) rfl rfl ?_
        obtain ⟨g0, h⟩ := o_gE h
        refine go_iaload (pc' := 42) rfl (o_inK g0) (o_inB g0) rfl ?_
        obtain ⟨x1_42, ex1_42, h⟩ := o_b1E h
        refine go_ndI ex1_42 ?_
        refine go_istore_n (pc' := 43) (lo' := [some (.inr (.inr th)), some (.inl x1_42), none, none, none]) rfl rfl rfl ?_
        refine go_aload_n (pc' := 44) rfl rfl rfl ?_
        refine go_getI (pc' := 47) rfl rfl (by decide) (by decide) hth rfl ?_
        obtain ⟨x2_47, ex2_47, h⟩ := o_b1E h
        refine go_ndI ex2_47 ?_
        refine go_istore_n (pc' := 48) (lo' := [some (.inr (.inr th)), some (.inl x1_42), some (.inl x2_47), none, none]) rfl rfl rfl ?_
        refine go_iconst (pc' := 49) (v := (nI 0)) rfl rfl rfl ?_
        refine go_istore_n (pc' := 50) (lo' := [some (.inr (.inr th)), some (.inl x1_42), some (.inl x2_47), some (.inl (nI 0)), none]) rfl rfl rfl ?_
        obtain ⟨q50, hl50, hc50_66, hc50_85, hc50_96, hc50_113⟩ := o_s4E h
        have ex50_66 : ∀ (Ix_66 : ai_I) (z3_x66 : Option ai_V) (z4_x66 : Option ai_V), (Sum.inl Ix_66) = q50 → ai_Go si_t (11, false, 3, cd_215) (ai_Cl si_t si_ms e) (sp_Q (some (.inl r)) I1 J Rf G) 66 [some (.inr (.inr th)), some (.inl x1_42), some (.inl x2_47), z3_x66, z4_x66] [] (0, 0) Ix_66 J Rf G := by
          intro Ix_66 z3_x66 z4_x66 hq
          have h : m_215_x50_66 Ix_66 = some (r, I1) := hc50_66 Ix_66 hq.symm
          unfold m_215_x50_66 at h
          refine go_iconst (pc' := 67) (v := (nI 0)) rfl rfl rfl ?_
          cases h
          exact go_iret rfl (rfl) ⟨rfl, rfl, rfl, rfl, rfl⟩
        have ex50_85 : ∀ (Ix_85 : ai_I) (z3_x85 : Option ai_V) (z4_x85 : Option ai_V), (Sum.inr (Sum.inl Ix_85)) = q50 → ai_Go si_t (11, false, 3, cd_215) (ai_Cl si_t si_ms e) (sp_Q (some (.inl r)) I1 J Rf G) 85 [some (.inr (.inr th)), some (.inl x1_42), some (.inl x2_47), z3_x85, z4_x85] [] (0, 0) Ix_85 J Rf G := by
          intro Ix_85 z3_x85 z4_x85 hq
          have h : m_215_x50_85 Ix_85 = some (r, I1) := hc50_85 Ix_85 hq.symm
          unfold m_215_x50_85 at h
          refine go_iconst (pc' := 86) (v := (nI 0)) rfl rfl rfl ?_
          cases h
          exact go_iret rfl (rfl) ⟨rfl, rfl, rfl, rfl, rfl⟩
        have ex50_96 : ∀ (Ix_96 : ai_I) (z3_x96 : Option ai_V) (z4_x96 : Option ai_V), (Sum.inr (Sum.inr (Sum.inl Ix_96))) = q50 → ai_Go si_t (11, false, 3, cd_215) (ai_Cl si_t si_ms e) (sp_Q (some (.inl r)) I1 J Rf G) 96 [some (.inr (.inr th)), some (.inl x1_42), some (.inl x2_47), z3_x96, z4_x96] [] (0, 0) Ix_96 J Rf G := by
          intro Ix_96 z3_x96 z4_x96 hq
          have h : m_215_x50_96 th Ix_96 = some (r, I1) := hc50_96 Ix_96 hq.symm
          unfold m_215_x50_96 at h
          refine go_aload_n (pc' := 97) rfl rfl rfl ?_
          refine go_bipush (pc' := 99) (v := (nI 6)) rfl rfl rfl ?_
          refine go_aload_n (pc' := 100) rfl rfl rfl ?_
          refine go_getI (pc' := 103) rfl rfl (by decide) (by decide) hth rfl ?_
          obtain ⟨r_103, I_103, q_103, h⟩ := o_b2E h
          refine go_callV (pc' := 106) (B' := (0, 0)) (st' := [.inl r_103]) rfl rfl (Or.inl (by decide)) rfl rfl hth (md_209 (by omega) hth q_103) rfl rfl rfl ?_
          obtain ⟨g1, h⟩ := o_gE h
          cases h
          exact go_iret rfl (o_bzE g1) ⟨rfl, rfl, rfl, rfl, rfl⟩
        have ex50_113 : ∀ (Ix_113 : ai_I) (z3_x113 : Option ai_V) (z4_x113 : Option ai_V), (Sum.inr (Sum.inr (Sum.inr Ix_113))) = q50 → ai_Go si_t (11, false, 3, cd_215) (ai_Cl si_t si_ms e) (sp_Q (some (.inl r)) I1 J Rf G) 113 [some (.inr (.inr th)), some (.inl x1_42), some (.inl x2_47), z3_x113, z4_x113] [] (0, 0) Ix_113 J Rf G := by
          intro Ix_113 z3_x113 z4_x113 hq
          have h : m_215_x50_113 Ix_113 = some (r, I1) := hc50_113 Ix_113 hq.symm
          unfold m_215_x50_113 at h
          refine go_iconst (pc' := 114) (v := (nI 1)) rfl rfl rfl ?_
          cases h
          exact go_iret rfl (rfl) ⟨rfl, rfl, rfl, rfl, rfl⟩
        have lo50 : ∀ n s, lp (fun s => m_215_b50 th Rf G x1_42 x2_47 s.1 s.2) n s = some q50 → (fun s => ∀ (z4_50 : Option ai_V), ai_Go si_t (11, false, 3, cd_215) (ai_Cl si_t si_ms e) (sp_Q (some (.inl r)) I1 J Rf G) 50 [some (.inr (.inr th)), some (.inl x1_42), some (.inl x2_47), some (.inl s.1), z4_50] [] (0, 0) s.2 J Rf G) s := lp_go (fun s x50 hx hk50 => by
          obtain ⟨v3_50, I_50⟩ := s
          intro z4_50
          have h : m_215_b50 th Rf G x1_42 x2_47 v3_50 I_50 = some x50 := hx
          clear hx
          show ai_Go si_t (11, false, 3, cd_215) (ai_Cl si_t si_ms e) (sp_Q (some (.inl r)) I1 J Rf G) 50 [some (.inr (.inr th)), some (.inl x1_42), some (.inl x2_47), some (.inl v3_50), z4_50] [] (0, 0) I_50 J Rf G
          unfold m_215_b50 at h
          refine go_iload_n (pc' := 51) rfl rfl rfl ?_
          refine go_iload_n (pc' := 52) rfl rfl rfl ?_
          refine go_icmp_ge (pt := 113) (pc' := 55) rfl rfl rfl (fun h52 => ?_) (fun h52 => ?_)
          · replace h := o_t h52 h
            exact ex50_113 _ (some (.inl v3_50)) z4_50 (lp_exitE h hk50)
          · replace h := o_f h52 h
            refine go_aload_n (pc' := 56) rfl rfl rfl ?_
            refine go_iconst (pc' := 57) (v := (nI 0)) rfl rfl rfl ?_
            refine go_iload_n (pc' := 58) rfl rfl rfl ?_
            refine go_iconst (pc' := 59) (v := (nI 1)) rfl rfl rfl ?_
            refine go_isub (pc' := 60) rfl rfl ?_
            obtain ⟨r_60, I_60, q_60, h⟩ := o_b2E h
            refine go_callV (pc' := 63) (B' := (0, 0)) (st' := [.inl r_60]) rfl rfl (Or.inl (by decide)) rfl rfl hth (md_212 (by omega) hth q_60) rfl rfl rfl ?_
            refine go_if_ne (pt := 68) (pc' := 66) rfl rfl rfl (fun h63 => ?_) (fun h63 => ?_)
            · replace h := o_f h63 h
              refine go_aload_n (pc' := 69) rfl rfl rfl ?_
              refine go_getI (pc' := 72) rfl rfl (by decide) (by decide) hth rfl ?_
              obtain ⟨x4_72, ex4_72, h⟩ := o_b1E h
              refine go_ndI ex4_72 ?_
              refine go_istore (pc' := 74) (lo' := [some (.inr (.inr th)), some (.inl x1_42), some (.inl x2_47), some (.inl v3_50), some (.inl x4_72)]) rfl rfl rfl ?_
              refine go_aload_n (pc' := 75) rfl rfl rfl ?_
              refine go_iconst (pc' := 76) (v := (nI 0)) rfl rfl rfl ?_
              refine go_iload_n (pc' := 77) rfl rfl rfl ?_
              refine go_iconst (pc' := 78) (v := (nI 1)) rfl rfl rfl ?_
              refine go_isub (pc' := 79) rfl rfl ?_
              obtain ⟨r_79, I_79, q_79, h⟩ := o_b2E h
              refine go_callV (pc' := 82) (B' := (0, 0)) (st' := [.inl r_79]) rfl rfl (Or.inl (by decide)) rfl rfl hth (md_212 (by omega) hth q_79) rfl rfl rfl ?_
              refine go_if_ne (pt := 87) (pc' := 85) rfl rfl rfl (fun h82 => ?_) (fun h82 => ?_)
              · replace h := o_f h82 h
                refine go_aload_n (pc' := 88) rfl rfl rfl ?_
                refine go_getI (pc' := 91) rfl rfl (by decide) (by decide) hth rfl ?_
                refine go_iload (pc' := 93) rfl rfl rfl ?_
                refine go_icmp_ne (pt := 107) (pc' := 96) rfl rfl rfl (fun h93 => ?_) (fun h93 => ?_)
                · replace h := o_f h93 h
                  obtain ⟨x3_107, ex3_107, h⟩ := o_b1E h
                  refine go_iincE (pc' := 110) rfl rfl (y := (nI 1)) rfl ex3_107 (lo' := [some (.inr (.inr th)), some (.inl x1_42), some (.inl x2_47), some (.inl x3_107), some (.inl x4_72)]) rfl rfl ?_
                  refine go_goto (pc' := 50) rfl rfl ?_
                  exact (lp_backE h hk50 (some (.inl x4_72)) :)
                · replace h := o_t (Decidable.of_not_not h93) h
                  exact ex50_96 _ (some (.inl v3_50)) (some (.inl x4_72)) (lp_exitE h hk50)
              · replace h := o_t (Decidable.of_not_not h82) h
                exact ex50_85 _ (some (.inl v3_50)) (some (.inl x4_72)) (lp_exitE h hk50)
            · replace h := o_t (Decidable.of_not_not h63) h
              exact ex50_66 _ (some (.inl v3_50)) z4_50 (lp_exitE h hk50))
        exact lo50 _ ((nI 0), I_23) hl50 none
      · replace h := o_t (Decidable.of_not_not h26) h
        refine go_iconst (pc' := 30) (v := (nI 0)) rfl rfl rfl ?_
        cases h
        exact go_iret rfl (rfl) ⟨rfl, rfl, rfl, rfl, rfl⟩
def m_216_x41_57 (Ix_57 : ai_I) : Option (Int32 × ai_I) :=
  some ((nI 0), Ix_57)
def m_216_x41_137 (th : Nat) (Ix_137 : ai_I) : Option (Int32 × ai_I) :=
  o_b2 (m_209 th (nI 6) (Ix_137 th 8) Ix_137) (fun r_144 I_144 => o_g (o_bz r_144) (some (r_144, I_144)))
def m_216_x41_159 (Ix_159 : ai_I) : Option (Int32 × ai_I) :=
  some ((nI 0), Ix_159)
def m_216_x41_180 (Ix_180 : ai_I) : Option (Int32 × ai_I) :=
  some ((nI 1), Ix_180)
def m_216_x65_111 (th : Nat) (Rf : ai_R) (G : ai_G) (x1_20 : Int32) (x2_32 : Int32) (I_51 : ai_I) (w5_111 : Int32) : Option ((Int32 × ai_I) ⊕ (ai_I ⊕ ai_I ⊕ ai_I ⊕ ai_I)) :=
  if w5_111 = 0 then (o_b1 (m_193 (I_51 th 7)) (fun r_120 => if r_120 = x2_32 then (if (I_51 th 7) < ((nI 1) <<< (x1_20 &&& 31)) then (o_b2 (m_212 th (-1000000 : Int32) (nI 1000000) I_51 Rf G) (fun r_153 I_153 => if r_153 = 0 then (some (Sum.inr (Sum.inr (Sum.inr (Sum.inl I_153))))) else (o_b1 (m_208 th I_153 Rf G) (fun r_162 => if r_162 = (nI 32) then (some (Sum.inl ((nI 1), I_153))) else (some (Sum.inl ((nI 0), I_153))))))) else (some (Sum.inr (Sum.inr (Sum.inl I_51))))) else (some (Sum.inr (Sum.inr (Sum.inl I_51)))))) else (some (Sum.inr (Sum.inr (Sum.inl I_51))))
def m_216_j100 (v6_65 : Int32) (t0_100 : Int32) : Option ((Int32 × Int32) ⊕ Int32) :=
  o_b1 (some (v6_65 + (nI 2))) (fun x6_106 => some (Sum.inl (t0_100, x6_106)))
def m_216_j95 (v6_65 : Int32) : Option ((Int32 × Int32) ⊕ Int32) :=
  m_216_j100 v6_65 (nI 1)
def m_216_b65 (th : Nat) (Rf : ai_R) (G : ai_G) (I_51 : ai_I) (v5_65 : Int32) (v6_65 : Int32) : Option ((Int32 × Int32) ⊕ Int32) :=
  if ((I_51 th 11) - (nI 1)) ≤ v6_65 then (some (Sum.inr v5_65)) else (if v5_65 = 0 then (o_g (o_in G 13 (Rf th 15) v6_65) (if (I_51 (Rf th 15) v6_65.toNatClampNeg) = (I_51 th 7) then (m_216_j95 v6_65) else (m_216_j100 v6_65 (nI 0)))) else (m_216_j95 v6_65))
def m_216_b41 (th : Nat) (Rf : ai_R) (G : ai_G) (x1_20 : Int32) (x2_32 : Int32) (x3_37 : Int32) (v4_41 : Int32) (I_41 : ai_I) : Option ((Int32 × ai_I) ⊕ (ai_I ⊕ ai_I ⊕ ai_I ⊕ ai_I)) :=
  if v4_41 = 0 then (some (Sum.inr (Sum.inr (Sum.inr (Sum.inr I_41))))) else (o_b2 (m_212 th (nI 0) (nI 255) I_41 Rf G) (fun r_51 I_51 => if r_51 = 0 then (some (Sum.inr (Sum.inl I_51))) else (o_s1 (lp (fun s => m_216_b65 th Rf G I_51 s.1 s.2) o_N ((nI 0), x3_37)) (fun t => m_216_x65_111 th Rf G x1_20 x2_32 I_51 t))))
/-- PricedBasesModel.readsTold()Z -/
def m_216 (th : Nat) (I : ai_I) (Rf : ai_R) (G : ai_G) : Option (Int32 × ai_I) :=
  o_b2 (m_213 th I Rf G) (fun r_1 I_1 => if r_1 = 0 then (some ((nI 0), I_1)) else (o_g (o_in G 13 (Rf th 15) ((I_1 th 11) - (nI 2))) (o_b1 (some (I_1 (Rf th 15) ((I_1 th 11) - (nI 2)).toNatClampNeg)) (fun x1_20 => o_g (o_in G 13 (Rf th 15) ((I_1 th 11) - (nI 1))) (o_b1 (some (I_1 (Rf th 15) ((I_1 th 11) - (nI 1)).toNatClampNeg)) (fun x2_32 => o_b1 (some (I_1 th 11)) (fun x3_37 => o_s4 (lp (fun s => m_216_b41 th Rf G x1_20 x2_32 x3_37 s.1 s.2) o_N ((nI 1), I_1)) (fun t => m_216_x41_57 t) (fun t => m_216_x41_137 th t) (fun t => m_216_x41_159 t) (fun t => m_216_x41_180 t))))))))
theorem md_216 {d : Nat} {I : ai_I} {J : ai_J} {Rf : ai_R} {G : ai_G} {th : Nat} {r : Int32} {I1 : ai_I} (hd : 5 ≤ d) (hth : G.1 th = 11) (h : m_216 th I Rf G = some (r, I1)) : ai_Cl si_t si_ms d 216 [.inr (.inr th)] I J Rf G (some (.inl r)) I1 J Rf G := by
  obtain ⟨e, rfl⟩ : ∃ e, d = e + 1 := ⟨d - 1, by omega⟩
  unfold m_216 at h
  refine sp_in (lo := [some (.inr (.inr th)), none, none, none, none, none, none]) (B := (0, 0)) rfl (Nat.le_of_ble_eq_true rfl) rfl rfl ?_
  refine go_aload_n (pc' := 1) rfl rfl rfl ?_
  obtain ⟨r_1, I_1, q_1, h⟩ := o_b2E h
  refine go_callV (pc' := 4) (B' := (0, 0)) (st' := [.inl r_1]) rfl rfl (Or.inl (by decide)) rfl rfl hth (md_213 (by omega) hth q_1) rfl rfl rfl ?_
  refine go_if_ne (pt := 9) (pc' := 7) rfl rfl rfl (fun h4 => ?_) (fun h4 => ?_)
  · replace h := o_f h4 h
    refine go_aload_n (pc' := 10) rfl rfl rfl ?_
    refine go_getR (pc' := 13) rfl rfl hth rfl ?_
    refine go_aload_n (pc' := 14) rfl rfl rfl ?_
    refine go_getI (pc' := 17) rfl rfl (by decide) (by decide) hth rfl ?_
    refine go_iconst (pc' := 18) (v := (nI 2)) rfl rfl rfl ?_
    refine go_isub (pc' := 19) rfl rfl ?_
    obtain ⟨g0, h⟩ := o_gE h
    refine go_iaload (pc' := 20) rfl (o_inK g0) (o_inB g0) rfl ?_
    obtain ⟨x1_20, ex1_20, h⟩ := o_b1E h
    refine go_ndI ex1_20 ?_
    refine go_istore_n (pc' := 21) (lo' := [some (.inr (.inr th)), some (.inl x1_20), none, none, none, none, none]) rfl rfl rfl ?_
    refine go_aload_n (pc' := 22) rfl rfl rfl ?_
    refine go_getR (pc' := 25) rfl rfl hth rfl ?_
    refine go_aload_n (pc' := 26) rfl rfl rfl ?_
    refine go_getI (pc' := 29) rfl rfl (by decide) (by decide) hth rfl ?_
    refine go_iconst (pc' := 30) (v := (nI 1)) rfl rfl rfl ?_
    refine go_isub (pc' := 31) rfl rfl ?_
    obtain ⟨g1, h⟩ := o_gE h
    refine go_iaload (pc' := 32) rfl (o_inK g1) (o_inB g1) rfl ?_
    obtain ⟨x2_32, ex2_32, h⟩ := o_b1E h
    refine go_ndI ex2_32 ?_
    refine go_istore_n (pc' := 33) (lo' := [some (.inr (.inr th)), some (.inl x1_20), some (.inl x2_32), none, none, none, none]) rfl rfl rfl ?_
    refine go_aload_n (pc' := 34) rfl rfl rfl ?_
    refine go_getI (pc' := 37) rfl rfl (by decide) (by decide) hth rfl ?_
    obtain ⟨x3_37, ex3_37, h⟩ := o_b1E h
    refine go_ndI ex3_37 ?_
    refine go_istore_n (pc' := 38) (lo' := [some (.inr (.inr th)), some (.inl x1_20), some (.inl x2_32), some (.inl x3_37), none, none, none]) rfl rfl rfl ?_
    refine go_iconst (pc' := 39) (v := (nI 1)) rfl rfl rfl ?_
    refine go_istore (pc' := 41) (lo' := [some (.inr (.inr th)), some (.inl x1_20), some (.inl x2_32), some (.inl x3_37), some (.inl (nI 1)), none, none]) rfl rfl rfl ?_
    obtain ⟨q41, hl41, hc41_57, hc41_137, hc41_159, hc41_180⟩ := o_s4E h
    have ex41_57 : ∀ (Ix_57 : ai_I) (z4_x57 : Option ai_V) (z5_x57 : Option ai_V) (z6_x57 : Option ai_V), (Sum.inl Ix_57) = q41 → ai_Go si_t (11, false, 3, cd_216) (ai_Cl si_t si_ms e) (sp_Q (some (.inl r)) I1 J Rf G) 57 [some (.inr (.inr th)), some (.inl x1_20), some (.inl x2_32), some (.inl x3_37), z4_x57, z5_x57, z6_x57] [] (0, 0) Ix_57 J Rf G := by
      intro Ix_57 z4_x57 z5_x57 z6_x57 hq
      have h : m_216_x41_57 Ix_57 = some (r, I1) := hc41_57 Ix_57 hq.symm
      unfold m_216_x41_57 at h
      refine go_iconst (pc' := 58) (v := (nI 0)) rfl rfl rfl ?_
      cases h
      exact go_iret rfl (rfl) ⟨rfl, rfl, rfl, rfl, rfl⟩
    have ex41_137 : ∀ (Ix_137 : ai_I) (z4_x137 : Option ai_V) (z5_x137 : Option ai_V) (z6_x137 : Option ai_V), (Sum.inr (Sum.inl Ix_137)) = q41 → ai_Go si_t (11, false, 3, cd_216) (ai_Cl si_t si_ms e) (sp_Q (some (.inl r)) I1 J Rf G) 137 [some (.inr (.inr th)), some (.inl x1_20), some (.inl x2_32), some (.inl x3_37), z4_x137, z5_x137, z6_x137] [] (0, 0) Ix_137 J Rf G := by
      intro Ix_137 z4_x137 z5_x137 z6_x137 hq
      have h : m_216_x41_137 th Ix_137 = some (r, I1) := hc41_137 Ix_137 hq.symm
      unfold m_216_x41_137 at h
      refine go_aload_n (pc' := 138) rfl rfl rfl ?_
      refine go_bipush (pc' := 140) (v := (nI 6)) rfl rfl rfl ?_
      refine go_aload_n (pc' := 141) rfl rfl rfl ?_
      refine go_getI (pc' := 144) rfl rfl (by decide) (by decide) hth rfl ?_
      obtain ⟨r_144, I_144, q_144, h⟩ := o_b2E h
      refine go_callV (pc' := 147) (B' := (0, 0)) (st' := [.inl r_144]) rfl rfl (Or.inl (by decide)) rfl rfl hth (md_209 (by omega) hth q_144) rfl rfl rfl ?_
      obtain ⟨g2, h⟩ := o_gE h
      cases h
      exact go_iret rfl (o_bzE g2) ⟨rfl, rfl, rfl, rfl, rfl⟩
    have ex41_159 : ∀ (Ix_159 : ai_I) (z4_x159 : Option ai_V) (z5_x159 : Option ai_V) (z6_x159 : Option ai_V), (Sum.inr (Sum.inr (Sum.inl Ix_159))) = q41 → ai_Go si_t (11, false, 3, cd_216) (ai_Cl si_t si_ms e) (sp_Q (some (.inl r)) I1 J Rf G) 159 [some (.inr (.inr th)), some (.inl x1_20), some (.inl x2_32), some (.inl x3_37), z4_x159, z5_x159, z6_x159] [] (0, 0) Ix_159 J Rf G := by
      intro Ix_159 z4_x159 z5_x159 z6_x159 hq
      have h : m_216_x41_159 Ix_159 = some (r, I1) := hc41_159 Ix_159 hq.symm
      unfold m_216_x41_159 at h
      refine go_iconst (pc' := 160) (v := (nI 0)) rfl rfl rfl ?_
      cases h
      exact go_iret rfl (rfl) ⟨rfl, rfl, rfl, rfl, rfl⟩
    have ex41_180 : ∀ (Ix_180 : ai_I) (z4_x180 : Option ai_V) (z5_x180 : Option ai_V) (z6_x180 : Option ai_V), (Sum.inr (Sum.inr (Sum.inr Ix_180))) = q41 → ai_Go si_t (11, false, 3, cd_216) (ai_Cl si_t si_ms e) (sp_Q (some (.inl r)) I1 J Rf G) 180 [some (.inr (.inr th)), some (.inl x1_20), some (.inl x2_32), some (.inl x3_37), z4_x180, z5_x180, z6_x180] [] (0, 0) Ix_180 J Rf G := by
      intro Ix_180 z4_x180 z5_x180 z6_x180 hq
      have h : m_216_x41_180 Ix_180 = some (r, I1) := hc41_180 Ix_180 hq.symm
      unfold m_216_x41_180 at h
      refine go_iconst (pc' := 181) (v := (nI 1)) rfl rfl rfl ?_
      cases h
      exact go_iret rfl (rfl) ⟨rfl, rfl, rfl, rfl, rfl⟩
    have lo41 : ∀ n s, lp (fun s => m_216_b41 th Rf G x1_20 x2_32 x3_37 s.1 s.2) n s = some q41 → (fun s => ∀ (z5_41 : Option ai_V) (z6_41 : Option ai_V), ai_Go si_t (11, false, 3, cd_216) (ai_Cl si_t si_ms e) (sp_Q (some (.inl r)) I1 J Rf G) 41 [some (.inr (.inr th)), some (.inl x1_20), some (.inl x2_32), some (.inl x3_37), some (.inl s.1), z5_41, z6_41] [] (0, 0) s.2 J Rf G) s := lp_go (fun s x41 hx hk41 => by
      obtain ⟨v4_41, I_41⟩ := s
      intro z5_41 z6_41
      have h : m_216_b41 th Rf G x1_20 x2_32 x3_37 v4_41 I_41 = some x41 := hx
      clear hx
      show ai_Go si_t (11, false, 3, cd_216) (ai_Cl si_t si_ms e) (sp_Q (some (.inl r)) I1 J Rf G) 41 [some (.inr (.inr th)), some (.inl x1_20), some (.inl x2_32), some (.inl x3_37), some (.inl v4_41), z5_41, z6_41] [] (0, 0) I_41 J Rf G
      unfold m_216_b41 at h
      refine go_iload (pc' := 43) rfl rfl rfl ?_
      refine go_if_eq (pt := 180) (pc' := 46) rfl rfl rfl (fun h43 => ?_) (fun h43 => ?_)
      · replace h := o_t h43 h
        exact ex41_180 _ (some (.inl v4_41)) z5_41 z6_41 (lp_exitE h hk41)
      · replace h := o_f h43 h
        refine go_aload_n (pc' := 47) rfl rfl rfl ?_
        refine go_iconst (pc' := 48) (v := (nI 0)) rfl rfl rfl ?_
        refine go_sipush (pc' := 51) (v := (nI 255)) rfl rfl rfl ?_
        obtain ⟨r_51, I_51, q_51, h⟩ := o_b2E h
        refine go_callV (pc' := 54) (B' := (0, 0)) (st' := [.inl r_51]) rfl rfl (Or.inl (by decide)) rfl rfl hth (md_212 (by omega) hth q_51) rfl rfl rfl ?_
        refine go_if_ne (pt := 59) (pc' := 57) rfl rfl rfl (fun h54 => ?_) (fun h54 => ?_)
        · replace h := o_f h54 h
          refine go_iconst (pc' := 60) (v := (nI 0)) rfl rfl rfl ?_
          refine go_istore (pc' := 62) (lo' := [some (.inr (.inr th)), some (.inl x1_20), some (.inl x2_32), some (.inl x3_37), some (.inl v4_41), some (.inl (nI 0)), z6_41]) rfl rfl rfl ?_
          refine go_iload_n (pc' := 63) rfl rfl rfl ?_
          refine go_istore (pc' := 65) (lo' := [some (.inr (.inr th)), some (.inl x1_20), some (.inl x2_32), some (.inl x3_37), some (.inl v4_41), some (.inl (nI 0)), some (.inl x3_37)]) rfl rfl rfl ?_
          obtain ⟨q65, hl65, hc65_111⟩ := o_s1E h
          have ex65_111 : ∀ (w5_111 : Int32) (z6_x111 : Option ai_V), w5_111 = q65 → ai_Go si_t (11, false, 3, cd_216) (ai_Cl si_t si_ms e) (sp_Q (some (.inl r)) I1 J Rf G) 111 [some (.inr (.inr th)), some (.inl x1_20), some (.inl x2_32), some (.inl x3_37), some (.inl v4_41), some (.inl w5_111), z6_x111] [] (0, 0) I_51 J Rf G := by
            intro w5_111 z6_x111 hq
            have h : m_216_x65_111 th Rf G x1_20 x2_32 I_51 w5_111 = some x41 := hc65_111 w5_111 hq.symm
            unfold m_216_x65_111 at h
            refine go_iload (pc' := 113) rfl rfl rfl ?_
            refine go_if_ne (pt := 137) (pc' := 116) rfl rfl rfl (fun h113 => ?_) (fun h113 => ?_)
            · replace h := o_f h113 h
              exact ex41_137 _ (some (.inl v4_41)) (some (.inl w5_111)) z6_x111 (lp_exitE h hk41)
            · replace h := o_t (Decidable.of_not_not h113) h
              refine go_aload_n (pc' := 117) rfl rfl rfl ?_
              refine go_getI (pc' := 120) rfl rfl (by decide) (by decide) hth rfl ?_
              obtain ⟨r_120, q_120, h⟩ := o_b1E h
              refine go_callS (pc' := 123) (B' := (0, 0)) (st' := [.inl r_120]) rfl rfl (Or.inl (by decide)) rfl rfl trivial (md_193 (by omega) q_120) rfl rfl rfl ?_
              refine go_iload_n (pc' := 124) rfl rfl rfl ?_
              refine go_icmp_ne (pt := 137) (pc' := 127) rfl rfl rfl (fun h124 => ?_) (fun h124 => ?_)
              · replace h := o_f h124 h
                exact ex41_137 _ (some (.inl v4_41)) (some (.inl w5_111)) z6_x111 (lp_exitE h hk41)
              · replace h := o_t (Decidable.of_not_not h124) h
                refine go_aload_n (pc' := 128) rfl rfl rfl ?_
                refine go_getI (pc' := 131) rfl rfl (by decide) (by decide) hth rfl ?_
                refine go_iconst (pc' := 132) (v := (nI 1)) rfl rfl rfl ?_
                refine go_iload_n (pc' := 133) rfl rfl rfl ?_
                refine go_ishl (pc' := 134) rfl rfl ?_
                refine go_icmp_lt (pt := 148) (pc' := 137) rfl rfl rfl (fun h134 => ?_) (fun h134 => ?_)
                · replace h := o_t h134 h
                  refine go_aload_n (pc' := 149) rfl rfl rfl ?_
                  refine go_ldc (pc' := 151) (v := .inl (-1000000 : Int32)) rfl rfl rfl ?_
                  refine go_ldc (pc' := 153) (v := .inl (nI 1000000)) rfl rfl rfl ?_
                  obtain ⟨r_153, I_153, q_153, h⟩ := o_b2E h
                  refine go_callV (pc' := 156) (B' := (0, 0)) (st' := [.inl r_153]) rfl rfl (Or.inl (by decide)) rfl rfl hth (md_212 (by omega) hth q_153) rfl rfl rfl ?_
                  refine go_if_ne (pt := 161) (pc' := 159) rfl rfl rfl (fun h156 => ?_) (fun h156 => ?_)
                  · replace h := o_f h156 h
                    refine go_aload_n (pc' := 162) rfl rfl rfl ?_
                    obtain ⟨r_162, q_162, h⟩ := o_b1E h
                    refine go_callV (pc' := 165) (B' := (0, 0)) (st' := [.inl r_162]) rfl rfl (Or.inl (by decide)) rfl rfl hth (md_208 (by omega) hth q_162) rfl rfl rfl ?_
                    refine go_bipush (pc' := 167) (v := (nI 32)) rfl rfl rfl ?_
                    refine go_icmp_ne (pt := 174) (pc' := 170) rfl rfl rfl (fun h167 => ?_) (fun h167 => ?_)
                    · replace h := o_f h167 h
                      refine go_iconst (pc' := 175) (v := (nI 0)) rfl rfl rfl ?_
                      refine go_istore (pc' := 177) (lo' := [some (.inr (.inr th)), some (.inl x1_20), some (.inl x2_32), some (.inl x3_37), some (.inl (nI 0)), some (.inl w5_111), z6_x111]) rfl rfl rfl ?_
                      refine go_goto (pc' := 41) rfl rfl ?_
                      exact (lp_backE h hk41 (some (.inl w5_111)) z6_x111 :)
                    · replace h := o_t (Decidable.of_not_not h167) h
                      refine go_iconst (pc' := 171) (v := (nI 1)) rfl rfl rfl ?_
                      refine go_goto (pc' := 175) rfl rfl ?_
                      refine go_istore (pc' := 177) (lo' := [some (.inr (.inr th)), some (.inl x1_20), some (.inl x2_32), some (.inl x3_37), some (.inl (nI 1)), some (.inl w5_111), z6_x111]) rfl rfl rfl ?_
                      refine go_goto (pc' := 41) rfl rfl ?_
                      exact (lp_backE h hk41 (some (.inl w5_111)) z6_x111 :)
                  · replace h := o_t (Decidable.of_not_not h156) h
                    exact ex41_159 _ (some (.inl v4_41)) (some (.inl w5_111)) z6_x111 (lp_exitE h hk41)
                · replace h := o_f h134 h
                  exact ex41_137 _ (some (.inl v4_41)) (some (.inl w5_111)) z6_x111 (lp_exitE h hk41)
          have lo65 : ∀ n s, lp (fun s => m_216_b65 th Rf G I_51 s.1 s.2) n s = some q65 → (fun s => ai_Go si_t (11, false, 3, cd_216) (ai_Cl si_t si_ms e) (sp_Q (some (.inl r)) I1 J Rf G) 65 [some (.inr (.inr th)), some (.inl x1_20), some (.inl x2_32), some (.inl x3_37), some (.inl v4_41), some (.inl s.1), some (.inl s.2)] [] (0, 0) I_51 J Rf G) s := lp_go (fun s x65 hx hk65 => by
            obtain ⟨v5_65, v6_65⟩ := s
            have h : m_216_b65 th Rf G I_51 v5_65 v6_65 = some x65 := hx
            clear hx
            show ai_Go si_t (11, false, 3, cd_216) (ai_Cl si_t si_ms e) (sp_Q (some (.inl r)) I1 J Rf G) 65 [some (.inr (.inr th)), some (.inl x1_20), some (.inl x2_32), some (.inl x3_37), some (.inl v4_41), some (.inl v5_65), some (.inl v6_65)] [] (0, 0) I_51 J Rf G
            unfold m_216_b65 at h
            refine go_iload (pc' := 67) rfl rfl rfl ?_
            refine go_aload_n (pc' := 68) rfl rfl rfl ?_
            refine go_getI (pc' := 71) rfl rfl (by decide) (by decide) hth rfl ?_
            refine go_iconst (pc' := 72) (v := (nI 1)) rfl rfl rfl ?_
            refine go_isub (pc' := 73) rfl rfl ?_
            refine go_icmp_ge (pt := 111) (pc' := 76) rfl rfl rfl (fun h73 => ?_) (fun h73 => ?_)
            · replace h := o_t h73 h
              exact ex65_111 _ (some (.inl v6_65)) (lp_exitE h hk65)
            · replace h := o_f h73 h
              refine go_iload (pc' := 78) rfl rfl rfl ?_
              have jn100 : ∀ (t0_100 : Int32), m_216_j100 v6_65 t0_100 = some x65 → ai_Go si_t (11, false, 3, cd_216) (ai_Cl si_t si_ms e) (sp_Q (some (.inl r)) I1 J Rf G) 100 [some (.inr (.inr th)), some (.inl x1_20), some (.inl x2_32), some (.inl x3_37), some (.inl v4_41), some (.inl v5_65), some (.inl v6_65)] [.inl t0_100] (0, 0) I_51 J Rf G := by
                intro t0_100 h
                unfold m_216_j100 at h
                refine go_istore (pc' := 102) (lo' := [some (.inr (.inr th)), some (.inl x1_20), some (.inl x2_32), some (.inl x3_37), some (.inl v4_41), some (.inl t0_100), some (.inl v6_65)]) rfl rfl rfl ?_
                refine go_iload (pc' := 104) rfl rfl rfl ?_
                refine go_iconst (pc' := 105) (v := (nI 2)) rfl rfl rfl ?_
                refine go_iadd (pc' := 106) rfl rfl ?_
                obtain ⟨x6_106, ex6_106, h⟩ := o_b1E h
                refine go_ndI ex6_106 ?_
                refine go_istore (pc' := 108) (lo' := [some (.inr (.inr th)), some (.inl x1_20), some (.inl x2_32), some (.inl x3_37), some (.inl v4_41), some (.inl t0_100), some (.inl x6_106)]) rfl rfl rfl ?_
                refine go_goto (pc' := 65) rfl rfl ?_
                exact (lp_backE h hk65 :)
              have jn95 : m_216_j95 v6_65 = some x65 → ai_Go si_t (11, false, 3, cd_216) (ai_Cl si_t si_ms e) (sp_Q (some (.inl r)) I1 J Rf G) 95 [some (.inr (.inr th)), some (.inl x1_20), some (.inl x2_32), some (.inl x3_37), some (.inl v4_41), some (.inl v5_65), some (.inl v6_65)] [] (0, 0) I_51 J Rf G := by
                intro h
                unfold m_216_j95 at h
                refine go_iconst (pc' := 96) (v := (nI 1)) rfl rfl rfl ?_
                refine go_goto (pc' := 100) rfl rfl ?_
                exact jn100 (nI 1) h
              refine go_if_ne (pt := 95) (pc' := 81) rfl rfl rfl (fun h78 => ?_) (fun h78 => ?_)
              · replace h := o_f h78 h
                exact jn95  h
              · replace h := o_t (Decidable.of_not_not h78) h
                refine go_aload_n (pc' := 82) rfl rfl rfl ?_
                refine go_getR (pc' := 85) rfl rfl hth rfl ?_
                refine go_iload (pc' := 87) rfl rfl rfl ?_
                obtain ⟨g3, h⟩ := o_gE h
                refine go_iaload (pc' := 88) rfl (o_inK g3) (o_inB g3) rfl ?_
                refine go_aload_n (pc' := 89) rfl rfl rfl ?_
                refine go_getI (pc' := 92) rfl rfl (by decide) (by decide) hth rfl ?_
                refine go_icmp_ne (pt := 99) (pc' := 95) rfl rfl rfl (fun h92 => ?_) (fun h92 => ?_)
                · replace h := o_f h92 h
                  refine go_iconst (pc' := 100) (v := (nI 0)) rfl rfl rfl ?_
                  exact jn100 (nI 0) h
                · replace h := o_t (Decidable.of_not_not h92) h
                  exact jn95  h)
          exact lo65 _ ((nI 0), x3_37) hl65 
        · replace h := o_t (Decidable.of_not_not h54) h
          exact ex41_57 _ (some (.inl v4_41)) z5_41 z6_41 (lp_exitE h hk41))
    exact lo41 _ ((nI 1), I_1) hl41 none none
  · replace h := o_t (Decidable.of_not_not h4) h
    refine go_iconst (pc' := 8) (v := (nI 0)) rfl rfl rfl ?_
    cases h
    exact go_iret rfl (rfl) ⟨rfl, rfl, rfl, rfl, rfl⟩
def m_217_j243 (th : Nat) (Rf : ai_R) (G : ai_G) (J_35 : ai_J) (I_56 : ai_I) : Option (Int32 × ai_I × ai_J) :=
  o_b2 (m_212 th (nI 0) (nI 3) I_56 Rf G) (fun r_246 I_246 => if r_246 = 0 then (some ((nI 0), I_246, J_35)) else (o_b2 (m_212 th (nI 0) (nI 3) I_246 Rf G) (fun r_255 I_255 => if r_255 = 0 then (some ((nI 0), I_255, J_35)) else (o_b2 (m_212 th (nI 0) (nI 7) I_255 Rf G) (fun r_265 I_265 => if r_265 = 0 then (some ((nI 0), I_265, J_35)) else (some ((nI 1), I_265, J_35)))))))
def m_217_j293 (th : Nat) (Rf : ai_R) (G : ai_G) (J_35 : ai_J) (I_56 : ai_I) : Option (Int32 × ai_I × ai_J) :=
  o_b2 (m_212 th (nI 0) (nI 3) I_56 Rf G) (fun r_296 I_296 => if r_296 = 0 then (some ((nI 0), I_296, J_35)) else (o_b2 (m_212 th (nI 0) (nI 3) I_296 Rf G) (fun r_305 I_305 => if r_305 = 0 then (some ((nI 0), I_305, J_35)) else (o_b2 (m_212 th (nI 0) (nI 3) I_305 Rf G) (fun r_314 I_314 => if r_314 = 0 then (some ((nI 0), I_314, J_35)) else (some ((nI 1), I_314, J_35)))))))
def m_217_j198 (th : Nat) (Rf : ai_R) (G : ai_G) (J_35 : ai_J) (I_56 : ai_I) (x1_63 : Int64) (t0_198 : Int32) : Option (Int32 × ai_I × ai_J) :=
  if t0_198 = 0 then (if (ai_cmp x1_63 (25019301556 : Int64)) = 0 then (m_217_j243 th Rf G J_35 I_56) else (if (ai_cmp x1_63 (89 : Int64)) = 0 then (m_217_j243 th Rf G J_35 I_56) else (if (ai_cmp x1_63 (537267 : Int64)) = 0 then (m_217_j293 th Rf G J_35 I_56) else (if (ai_cmp x1_63 (343342 : Int64)) = 0 then (m_217_j293 th Rf G J_35 I_56) else (o_b2 (m_209 th (nI 1) (I_56 th 9) I_56) (fun r_334 I_334 => o_g (o_bz r_334) (some (r_334, I_334, J_35)))))))) else (o_b2 (m_212 th (nI 0) (nI 3) I_56 Rf G) (fun r_206 I_206 => if r_206 = 0 then (some ((nI 0), I_206, J_35)) else (o_b2 (m_212 th (nI 0) (nI 3) I_206 Rf G) (fun r_215 I_215 => if r_215 = 0 then (some ((nI 0), I_215, J_35)) else (some ((nI 1), I_215, J_35))))))
def m_217_j193 (th : Nat) (Rf : ai_R) (G : ai_G) (J_35 : ai_J) (I_56 : ai_I) (x1_63 : Int64) : Option (Int32 × ai_I × ai_J) :=
  m_217_j198 th Rf G J_35 I_56 x1_63 (nI 1)
/-- PricedBasesModel.readsClause()Z -/
def m_217 (th : Nat) (I : ai_I) (J : ai_J) (Rf : ai_R) (G : ai_G) : Option (Int32 × ai_I × ai_J) :=
  if (I th 10) = (nI 16) then (o_b2 (m_209 th (nI 4) (I th 4) I) (fun r_15 I_15 => o_g (o_bz r_15) (some (r_15, I_15, J)))) else (o_b2 (m_211 th I J Rf G) (fun I_20 J_20 => o_g (o_in G 14 (Rf th 13) (I_20 th 10)) (o_b1 (some (va_up J_20 (Rf th 13) (va_up (J_20 (Rf th 13)) (I_20 th 10).toNatClampNeg (J_20 th 12)))) (fun J_35 => o_g (o_in G 13 (Rf th 14) (I_20 th 10)) (o_b1 (some (va_up I_20 (Rf th 14) (va_up (I_20 (Rf th 14)) (I_20 th 10).toNatClampNeg (I_20 th 11)))) (fun I_48 => o_b1 (some (va_up I_48 th (va_up (I_48 th) 10 ((I_48 th 10) + (nI 1))))) (fun I_56 => o_b1 (some (J_35 th 12)) (fun x1_63 => if (ai_cmp x1_63 (17376357 : Int64)) = 0 then (o_b2 (m_212 th (nI 0) (nI 7) I_56 Rf G) (fun r_76 I_76 => if r_76 = 0 then (some ((nI 0), I_76, J_35)) else (o_b2 (m_212 th (-1000 : Int32) (nI 1000) I_76 Rf G) (fun r_89 I_89 => if r_89 = 0 then (some ((nI 0), I_89, J_35)) else (some ((nI 1), I_89, J_35)))))) else (if (ai_cmp x1_63 (23027990093 : Int64)) = 0 then (o_b2 (m_213 th I_56 Rf G) (fun r_110 I_110 => o_g (o_bz r_110) (some (r_110, I_110, J_35)))) else (if (ai_cmp x1_63 (13684840 : Int64)) = 0 then (o_b2 (m_214 th I_56 Rf G) (fun r_123 I_123 => o_g (o_bz r_123) (some (r_123, I_123, J_35)))) else (if (ai_cmp x1_63 (7931400 : Int64)) = 0 then (o_b2 (m_215 th I_56 Rf G) (fun r_136 I_136 => o_g (o_bz r_136) (some (r_136, I_136, J_35)))) else (if (ai_cmp x1_63 (671108 : Int64)) = 0 then (o_b2 (m_216 th I_56 Rf G) (fun r_149 I_149 => o_g (o_bz r_149) (some (r_149, I_149, J_35)))) else (if (ai_cmp x1_63 (152620 : Int64)) = 0 then (m_217_j193 th Rf G J_35 I_56 x1_63) else (if (ai_cmp x1_63 (20194516 : Int64)) = 0 then (m_217_j193 th Rf G J_35 I_56 x1_63) else (if (ai_cmp x1_63 (3764 : Int64)) = 0 then (m_217_j193 th Rf G J_35 I_56 x1_63) else (if (ai_cmp x1_63 (10143540268 : Int64)) = 0 then (m_217_j193 th Rf G J_35 I_56 x1_63) else (if (ai_cmp x1_63 (18916965 : Int64)) = 0 then (m_217_j193 th Rf G J_35 I_56 x1_63) else (m_217_j198 th Rf G J_35 I_56 x1_63 (nI 0)))))))))))))))))))
set_option maxRecDepth 100000 in
theorem md_217 {d : Nat} {I : ai_I} {J : ai_J} {Rf : ai_R} {G : ai_G} {th : Nat} {r : Int32} {I1 : ai_I} {J1 : ai_J} (hd : 6 ≤ d) (hth : G.1 th = 11) (h : m_217 th I J Rf G = some (r, I1, J1)) : ai_Cl si_t si_ms d 217 [.inr (.inr th)] I J Rf G (some (.inl r)) I1 J1 Rf G := by
  obtain ⟨e, rfl⟩ : ∃ e, d = e + 1 := ⟨d - 1, by omega⟩
  unfold m_217 at h
  refine sp_in (lo := [some (.inr (.inr th)), none, none, none]) (B := (0, 0)) rfl (Nat.le_of_ble_eq_true rfl) rfl rfl ?_
  refine go_aload_n (pc' := 1) rfl rfl rfl ?_
  refine go_getI (pc' := 4) rfl rfl (by decide) (by decide) hth rfl ?_
  refine go_bipush (pc' := 6) (v := (nI 16)) rfl rfl rfl ?_
  refine go_icmp_ne (pt := 19) (pc' := 9) rfl rfl rfl (fun h6 => ?_) (fun h6 => ?_)
  · replace h := o_f h6 h
    refine go_aload_n (pc' := 20) rfl rfl rfl ?_
    obtain ⟨I_20, J_20, q_20, h⟩ := o_b2E h
    refine go_callV (pc' := 23) (B' := (0, 0)) (st' := []) rfl rfl (Or.inl (by decide)) rfl rfl hth (md_211 (by omega) hth q_20) rfl rfl rfl ?_
    refine go_aload_n (pc' := 24) rfl rfl rfl ?_
    refine go_getR (pc' := 27) rfl rfl hth rfl ?_
    refine go_aload_n (pc' := 28) rfl rfl rfl ?_
    refine go_getI (pc' := 31) rfl rfl (by decide) (by decide) hth rfl ?_
    refine go_aload_n (pc' := 32) rfl rfl rfl ?_
    refine go_getJ (pc' := 35) rfl rfl hth rfl ?_
    obtain ⟨g0, h⟩ := o_gE h
    obtain ⟨J_35, eJ_35, h⟩ := o_b1E h
    refine go_lastore (pc' := 36) rfl (o_inK g0) (o_inB g0) rfl ?_
    refine go_ndMJ eJ_35 ?_
    refine go_aload_n (pc' := 37) rfl rfl rfl ?_
    refine go_getR (pc' := 40) rfl rfl hth rfl ?_
    refine go_aload_n (pc' := 41) rfl rfl rfl ?_
    refine go_getI (pc' := 44) rfl rfl (by decide) (by decide) hth rfl ?_
    refine go_aload_n (pc' := 45) rfl rfl rfl ?_
    refine go_getI (pc' := 48) rfl rfl (by decide) (by decide) hth rfl ?_
    obtain ⟨g1, h⟩ := o_gE h
    obtain ⟨I_48, eI_48, h⟩ := o_b1E h
    refine go_iastore (pc' := 49) rfl (o_inK g1) (o_inB g1) rfl ?_
    refine go_ndMI eI_48 ?_
    refine go_aload_n (pc' := 50) rfl rfl rfl ?_
    refine go_aload_n (pc' := 51) rfl rfl rfl ?_
    refine go_getI (pc' := 54) rfl rfl (by decide) (by decide) hth rfl ?_
    refine go_iconst (pc' := 55) (v := (nI 1)) rfl rfl rfl ?_
    refine go_iadd (pc' := 56) rfl rfl ?_
    obtain ⟨I_56, eI_56, h⟩ := o_b1E h
    refine go_putI (pc' := 59) rfl rfl (fun h => by cases h) hth rfl ?_
    refine go_ndMI eI_56 ?_
    refine go_aload_n (pc' := 60) rfl rfl rfl ?_
    refine go_getJ (pc' := 63) rfl rfl hth rfl ?_
    obtain ⟨x1_63, ex1_63, h⟩ := o_b1E h
    refine go_ndJ ex1_63 ?_
    refine go_lstore_n (pc' := 64) (lo' := [some (.inr (.inr th)), some (.inr (.inl x1_63)), none, none]) rfl rfl rfl ?_
    refine go_lload_n (pc' := 65) rfl rfl rfl ?_
    refine go_ldc2_w (pc' := 68) (v := .inr (.inl (17376357 : Int64))) rfl rfl rfl ?_
    refine go_lcmp (pc' := 69) rfl rfl ?_
    refine go_if_ne (pt := 101) (pc' := 72) rfl rfl rfl (fun h69 => ?_) (fun h69 => ?_)
    · replace h := o_f h69 h
      refine go_lload_n (pc' := 102) rfl rfl rfl ?_
      refine go_ldc2_w (pc' := 105) (v := .inr (.inl (23027990093 : Int64))) rfl rfl rfl ?_
      refine go_lcmp (pc' := 106) rfl rfl ?_
      refine go_if_ne (pt := 114) (pc' := 109) rfl rfl rfl (fun h106 => ?_) (fun h106 => ?_)
      · replace h := o_f h106 h
        refine go_lload_n (pc' := 115) rfl rfl rfl ?_
        refine go_ldc2_w (pc' := 118) (v := .inr (.inl (13684840 : Int64))) rfl rfl rfl ?_
        refine go_lcmp (pc' := 119) rfl rfl ?_
        refine go_if_ne (pt := 127) (pc' := 122) rfl rfl rfl (fun h119 => ?_) (fun h119 => ?_)
        · replace h := o_f h119 h
          refine go_lload_n (pc' := 128) rfl rfl rfl ?_
          refine go_ldc2_w (pc' := 131) (v := .inr (.inl (7931400 : Int64))) rfl rfl rfl ?_
          refine go_lcmp (pc' := 132) rfl rfl ?_
          refine go_if_ne (pt := 140) (pc' := 135) rfl rfl rfl (fun h132 => ?_) (fun h132 => ?_)
          · replace h := o_f h132 h
            refine go_lload_n (pc' := 141) rfl rfl rfl ?_
            refine go_ldc2_w (pc' := 144) (v := .inr (.inl (671108 : Int64))) rfl rfl rfl ?_
            refine go_lcmp (pc' := 145) rfl rfl ?_
            refine go_if_ne (pt := 153) (pc' := 148) rfl rfl rfl (fun h145 => ?_) (fun h145 => ?_)
            · replace h := o_f h145 h
              refine go_lload_n (pc' := 154) rfl rfl rfl ?_
              refine go_ldc2_w (pc' := 157) (v := .inr (.inl (152620 : Int64))) rfl rfl rfl ?_
              refine go_lcmp (pc' := 158) rfl rfl ?_
              have jn198 : ∀ (t0_198 : Int32), m_217_j198 th Rf G J_35 I_56 x1_63 t0_198 = some (r, I1, J1) → ai_Go si_t (11, false, 3, cd_217) (ai_Cl si_t si_ms e) (sp_Q (some (.inl r)) I1 J1 Rf G) 198 [some (.inr (.inr th)), some (.inr (.inl x1_63)), none, none] [.inl t0_198] (0, 0) I_56 J_35 Rf G := by
                intro t0_198 h
                unfold m_217_j198 at h
                refine go_istore_n (pc' := 199) (lo' := [some (.inr (.inr th)), some (.inr (.inl x1_63)), none, some (.inl t0_198)]) rfl rfl rfl ?_
                refine go_iload_n (pc' := 200) rfl rfl rfl ?_
                refine go_if_eq (pt := 227) (pc' := 203) rfl rfl rfl (fun h200 => ?_) (fun h200 => ?_)
                · replace h := o_t h200 h
                  refine go_lload_n (pc' := 228) rfl rfl rfl ?_
                  refine go_ldc2_w (pc' := 231) (v := .inr (.inl (25019301556 : Int64))) rfl rfl rfl ?_
                  refine go_lcmp (pc' := 232) rfl rfl ?_
                  have jn243 : m_217_j243 th Rf G J_35 I_56 = some (r, I1, J1) → ai_Go si_t (11, false, 3, cd_217) (ai_Cl si_t si_ms e) (sp_Q (some (.inl r)) I1 J1 Rf G) 243 [some (.inr (.inr th)), some (.inr (.inl x1_63)), none, some (.inl t0_198)] [] (0, 0) I_56 J_35 Rf G := by
                    intro h
                    unfold m_217_j243 at h
                    refine go_aload_n (pc' := 244) rfl rfl rfl ?_
                    refine go_iconst (pc' := 245) (v := (nI 0)) rfl rfl rfl ?_
                    refine go_iconst (pc' := 246) (v := (nI 3)) rfl rfl rfl ?_
                    obtain ⟨r_246, I_246, q_246, h⟩ := o_b2E h
                    refine go_callV (pc' := 249) (B' := (0, 0)) (st' := [.inl r_246]) rfl rfl (Or.inl (by decide)) rfl rfl hth (md_212 (by omega) hth q_246) rfl rfl rfl ?_
                    refine go_if_eq (pt := 275) (pc' := 252) rfl rfl rfl (fun h249 => ?_) (fun h249 => ?_)
                    · replace h := o_t h249 h
                      refine go_iconst (pc' := 276) (v := (nI 0)) rfl rfl rfl ?_
                      cases h
                      exact go_iret rfl (rfl) ⟨rfl, rfl, rfl, rfl, rfl⟩
                    · replace h := o_f h249 h
                      refine go_aload_n (pc' := 253) rfl rfl rfl ?_
                      refine go_iconst (pc' := 254) (v := (nI 0)) rfl rfl rfl ?_
                      refine go_iconst (pc' := 255) (v := (nI 3)) rfl rfl rfl ?_
                      obtain ⟨r_255, I_255, q_255, h⟩ := o_b2E h
                      refine go_callV (pc' := 258) (B' := (0, 0)) (st' := [.inl r_255]) rfl rfl (Or.inl (by decide)) rfl rfl hth (md_212 (by omega) hth q_255) rfl rfl rfl ?_
                      refine go_if_eq (pt := 275) (pc' := 261) rfl rfl rfl (fun h258 => ?_) (fun h258 => ?_)
                      · replace h := o_t h258 h
                        refine go_iconst (pc' := 276) (v := (nI 0)) rfl rfl rfl ?_
                        cases h
                        exact go_iret rfl (rfl) ⟨rfl, rfl, rfl, rfl, rfl⟩
                      · replace h := o_f h258 h
                        refine go_aload_n (pc' := 262) rfl rfl rfl ?_
                        refine go_iconst (pc' := 263) (v := (nI 0)) rfl rfl rfl ?_
                        refine go_bipush (pc' := 265) (v := (nI 7)) rfl rfl rfl ?_
                        obtain ⟨r_265, I_265, q_265, h⟩ := o_b2E h
                        refine go_callV (pc' := 268) (B' := (0, 0)) (st' := [.inl r_265]) rfl rfl (Or.inl (by decide)) rfl rfl hth (md_212 (by omega) hth q_265) rfl rfl rfl ?_
                        refine go_if_eq (pt := 275) (pc' := 271) rfl rfl rfl (fun h268 => ?_) (fun h268 => ?_)
                        · replace h := o_t h268 h
                          refine go_iconst (pc' := 276) (v := (nI 0)) rfl rfl rfl ?_
                          cases h
                          exact go_iret rfl (rfl) ⟨rfl, rfl, rfl, rfl, rfl⟩
                        · replace h := o_f h268 h
                          refine go_iconst (pc' := 272) (v := (nI 1)) rfl rfl rfl ?_
                          refine go_goto (pc' := 276) rfl rfl ?_
                          cases h
                          exact go_iret rfl (rfl) ⟨rfl, rfl, rfl, rfl, rfl⟩
                  refine go_if_eq (pt := 243) (pc' := 235) rfl rfl rfl (fun h232 => ?_) (fun h232 => ?_)
                  · replace h := o_t h232 h
                    exact jn243  h
                  · replace h := o_f h232 h
                    refine go_lload_n (pc' := 236) rfl rfl rfl ?_
                    refine go_ldc2_w (pc' := 239) (v := .inr (.inl (89 : Int64))) rfl rfl rfl ?_
                    refine go_lcmp (pc' := 240) rfl rfl ?_
                    refine go_if_ne (pt := 277) (pc' := 243) rfl rfl rfl (fun h240 => ?_) (fun h240 => ?_)
                    · replace h := o_f h240 h
                      refine go_lload_n (pc' := 278) rfl rfl rfl ?_
                      refine go_ldc2_w (pc' := 281) (v := .inr (.inl (537267 : Int64))) rfl rfl rfl ?_
                      refine go_lcmp (pc' := 282) rfl rfl ?_
                      have jn293 : m_217_j293 th Rf G J_35 I_56 = some (r, I1, J1) → ai_Go si_t (11, false, 3, cd_217) (ai_Cl si_t si_ms e) (sp_Q (some (.inl r)) I1 J1 Rf G) 293 [some (.inr (.inr th)), some (.inr (.inl x1_63)), none, some (.inl t0_198)] [] (0, 0) I_56 J_35 Rf G := by
                        intro h
                        unfold m_217_j293 at h
                        refine go_aload_n (pc' := 294) rfl rfl rfl ?_
                        refine go_iconst (pc' := 295) (v := (nI 0)) rfl rfl rfl ?_
                        refine go_iconst (pc' := 296) (v := (nI 3)) rfl rfl rfl ?_
                        obtain ⟨r_296, I_296, q_296, h⟩ := o_b2E h
                        refine go_callV (pc' := 299) (B' := (0, 0)) (st' := [.inl r_296]) rfl rfl (Or.inl (by decide)) rfl rfl hth (md_212 (by omega) hth q_296) rfl rfl rfl ?_
                        refine go_if_eq (pt := 324) (pc' := 302) rfl rfl rfl (fun h299 => ?_) (fun h299 => ?_)
                        · replace h := o_t h299 h
                          refine go_iconst (pc' := 325) (v := (nI 0)) rfl rfl rfl ?_
                          refine go_goto (pc' := 337) rfl rfl ?_
                          cases h
                          exact go_iret rfl (rfl) ⟨rfl, rfl, rfl, rfl, rfl⟩
                        · replace h := o_f h299 h
                          refine go_aload_n (pc' := 303) rfl rfl rfl ?_
                          refine go_iconst (pc' := 304) (v := (nI 0)) rfl rfl rfl ?_
                          refine go_iconst (pc' := 305) (v := (nI 3)) rfl rfl rfl ?_
                          obtain ⟨r_305, I_305, q_305, h⟩ := o_b2E h
                          refine go_callV (pc' := 308) (B' := (0, 0)) (st' := [.inl r_305]) rfl rfl (Or.inl (by decide)) rfl rfl hth (md_212 (by omega) hth q_305) rfl rfl rfl ?_
                          refine go_if_eq (pt := 324) (pc' := 311) rfl rfl rfl (fun h308 => ?_) (fun h308 => ?_)
                          · replace h := o_t h308 h
                            refine go_iconst (pc' := 325) (v := (nI 0)) rfl rfl rfl ?_
                            refine go_goto (pc' := 337) rfl rfl ?_
                            cases h
                            exact go_iret rfl (rfl) ⟨rfl, rfl, rfl, rfl, rfl⟩
                          · replace h := o_f h308 h
                            refine go_aload_n (pc' := 312) rfl rfl rfl ?_
                            refine go_iconst (pc' := 313) (v := (nI 0)) rfl rfl rfl ?_
                            refine go_iconst (pc' := 314) (v := (nI 3)) rfl rfl rfl ?_
                            obtain ⟨r_314, I_314, q_314, h⟩ := o_b2E h
                            refine go_callV (pc' := 317) (B' := (0, 0)) (st' := [.inl r_314]) rfl rfl (Or.inl (by decide)) rfl rfl hth (md_212 (by omega) hth q_314) rfl rfl rfl ?_
                            refine go_if_eq (pt := 324) (pc' := 320) rfl rfl rfl (fun h317 => ?_) (fun h317 => ?_)
                            · replace h := o_t h317 h
                              refine go_iconst (pc' := 325) (v := (nI 0)) rfl rfl rfl ?_
                              refine go_goto (pc' := 337) rfl rfl ?_
                              cases h
                              exact go_iret rfl (rfl) ⟨rfl, rfl, rfl, rfl, rfl⟩
                            · replace h := o_f h317 h
                              refine go_iconst (pc' := 321) (v := (nI 1)) rfl rfl rfl ?_
                              refine go_goto (pc' := 337) rfl rfl ?_
                              cases h
                              exact go_iret rfl (rfl) ⟨rfl, rfl, rfl, rfl, rfl⟩
                      refine go_if_eq (pt := 293) (pc' := 285) rfl rfl rfl (fun h282 => ?_) (fun h282 => ?_)
                      · replace h := o_t h282 h
                        exact jn293  h
                      · replace h := o_f h282 h
                        refine go_lload_n (pc' := 286) rfl rfl rfl ?_
                        refine go_ldc2_w (pc' := 289) (v := .inr (.inl (343342 : Int64))) rfl rfl rfl ?_
                        refine go_lcmp (pc' := 290) rfl rfl ?_
                        refine go_if_ne (pt := 328) (pc' := 293) rfl rfl rfl (fun h290 => ?_) (fun h290 => ?_)
                        · replace h := o_f h290 h
                          refine go_aload_n (pc' := 329) rfl rfl rfl ?_
                          refine go_iconst (pc' := 330) (v := (nI 1)) rfl rfl rfl ?_
                          refine go_aload_n (pc' := 331) rfl rfl rfl ?_
                          refine go_getI (pc' := 334) rfl rfl (by decide) (by decide) hth rfl ?_
                          obtain ⟨r_334, I_334, q_334, h⟩ := o_b2E h
                          refine go_callV (pc' := 337) (B' := (0, 0)) (st' := [.inl r_334]) rfl rfl (Or.inl (by decide)) rfl rfl hth (md_209 (by omega) hth q_334) rfl rfl rfl ?_
                          obtain ⟨g2, h⟩ := o_gE h
                          cases h
                          exact go_iret rfl (o_bzE g2) ⟨rfl, rfl, rfl, rfl, rfl⟩
                        · replace h := o_t (Decidable.of_not_not h290) h
                          exact jn293  h
                    · replace h := o_t (Decidable.of_not_not h240) h
                      exact jn243  h
                · replace h := o_f h200 h
                  refine go_aload_n (pc' := 204) rfl rfl rfl ?_
                  refine go_iconst (pc' := 205) (v := (nI 0)) rfl rfl rfl ?_
                  refine go_iconst (pc' := 206) (v := (nI 3)) rfl rfl rfl ?_
                  obtain ⟨r_206, I_206, q_206, h⟩ := o_b2E h
                  refine go_callV (pc' := 209) (B' := (0, 0)) (st' := [.inl r_206]) rfl rfl (Or.inl (by decide)) rfl rfl hth (md_212 (by omega) hth q_206) rfl rfl rfl ?_
                  refine go_if_eq (pt := 225) (pc' := 212) rfl rfl rfl (fun h209 => ?_) (fun h209 => ?_)
                  · replace h := o_t h209 h
                    refine go_iconst (pc' := 226) (v := (nI 0)) rfl rfl rfl ?_
                    cases h
                    exact go_iret rfl (rfl) ⟨rfl, rfl, rfl, rfl, rfl⟩
                  · replace h := o_f h209 h
                    refine go_aload_n (pc' := 213) rfl rfl rfl ?_
                    refine go_iconst (pc' := 214) (v := (nI 0)) rfl rfl rfl ?_
                    refine go_iconst (pc' := 215) (v := (nI 3)) rfl rfl rfl ?_
                    obtain ⟨r_215, I_215, q_215, h⟩ := o_b2E h
                    refine go_callV (pc' := 218) (B' := (0, 0)) (st' := [.inl r_215]) rfl rfl (Or.inl (by decide)) rfl rfl hth (md_212 (by omega) hth q_215) rfl rfl rfl ?_
                    refine go_if_eq (pt := 225) (pc' := 221) rfl rfl rfl (fun h218 => ?_) (fun h218 => ?_)
                    · replace h := o_t h218 h
                      refine go_iconst (pc' := 226) (v := (nI 0)) rfl rfl rfl ?_
                      cases h
                      exact go_iret rfl (rfl) ⟨rfl, rfl, rfl, rfl, rfl⟩
                    · replace h := o_f h218 h
                      refine go_iconst (pc' := 222) (v := (nI 1)) rfl rfl rfl ?_
                      refine go_goto (pc' := 226) rfl rfl ?_
                      cases h
                      exact go_iret rfl (rfl) ⟨rfl, rfl, rfl, rfl, rfl⟩
              have jn193 : m_217_j193 th Rf G J_35 I_56 x1_63 = some (r, I1, J1) → ai_Go si_t (11, false, 3, cd_217) (ai_Cl si_t si_ms e) (sp_Q (some (.inl r)) I1 J1 Rf G) 193 [some (.inr (.inr th)), some (.inr (.inl x1_63)), none, none] [] (0, 0) I_56 J_35 Rf G := by
                intro h
                unfold m_217_j193 at h
                refine go_iconst (pc' := 194) (v := (nI 1)) rfl rfl rfl ?_
                refine go_goto (pc' := 198) rfl rfl ?_
                exact jn198 (nI 1) h
              refine go_if_eq (pt := 193) (pc' := 161) rfl rfl rfl (fun h158 => ?_) (fun h158 => ?_)
              · replace h := o_t h158 h
                exact jn193  h
              · replace h := o_f h158 h
                refine go_lload_n (pc' := 162) rfl rfl rfl ?_
                refine go_ldc2_w (pc' := 165) (v := .inr (.inl (20194516 : Int64))) rfl rfl rfl ?_
                refine go_lcmp (pc' := 166) rfl rfl ?_
                refine go_if_eq (pt := 193) (pc' := 169) rfl rfl rfl (fun h166 => ?_) (fun h166 => ?_)
                · replace h := o_t h166 h
                  exact jn193  h
                · replace h := o_f h166 h
                  refine go_lload_n (pc' := 170) rfl rfl rfl ?_
                  refine go_ldc2_w (pc' := 173) (v := .inr (.inl (3764 : Int64))) rfl rfl rfl ?_
                  refine go_lcmp (pc' := 174) rfl rfl ?_
                  refine go_if_eq (pt := 193) (pc' := 177) rfl rfl rfl (fun h174 => ?_) (fun h174 => ?_)
                  · replace h := o_t h174 h
                    exact jn193  h
                  · replace h := o_f h174 h
                    refine go_lload_n (pc' := 178) rfl rfl rfl ?_
                    refine go_ldc2_w (pc' := 181) (v := .inr (.inl (10143540268 : Int64))) rfl rfl rfl ?_
                    refine go_lcmp (pc' := 182) rfl rfl ?_
                    refine go_if_eq (pt := 193) (pc' := 185) rfl rfl rfl (fun h182 => ?_) (fun h182 => ?_)
                    · replace h := o_t h182 h
                      exact jn193  h
                    · replace h := o_f h182 h
                      refine go_lload_n (pc' := 186) rfl rfl rfl ?_
                      refine go_ldc2_w (pc' := 189) (v := .inr (.inl (18916965 : Int64))) rfl rfl rfl ?_
                      refine go_lcmp (pc' := 190) rfl rfl ?_
                      refine go_if_ne (pt := 197) (pc' := 193) rfl rfl rfl (fun h190 => ?_) (fun h190 => ?_)
                      · replace h := o_f h190 h
                        refine go_iconst (pc' := 198) (v := (nI 0)) rfl rfl rfl ?_
                        exact jn198 (nI 0) h
                      · replace h := o_t (Decidable.of_not_not h190) h
                        exact jn193  h
            · replace h := o_t (Decidable.of_not_not h145) h
              refine go_aload_n (pc' := 149) rfl rfl rfl ?_
              obtain ⟨r_149, I_149, q_149, h⟩ := o_b2E h
              refine go_callV (pc' := 152) (B' := (0, 0)) (st' := [.inl r_149]) rfl rfl (Or.inl (by decide)) rfl rfl hth (md_216 (by omega) hth q_149) rfl rfl rfl ?_
              obtain ⟨g3, h⟩ := o_gE h
              cases h
              exact go_iret rfl (o_bzE g3) ⟨rfl, rfl, rfl, rfl, rfl⟩
          · replace h := o_t (Decidable.of_not_not h132) h
            refine go_aload_n (pc' := 136) rfl rfl rfl ?_
            obtain ⟨r_136, I_136, q_136, h⟩ := o_b2E h
            refine go_callV (pc' := 139) (B' := (0, 0)) (st' := [.inl r_136]) rfl rfl (Or.inl (by decide)) rfl rfl hth (md_215 (by omega) hth q_136) rfl rfl rfl ?_
            obtain ⟨g4, h⟩ := o_gE h
            cases h
            exact go_iret rfl (o_bzE g4) ⟨rfl, rfl, rfl, rfl, rfl⟩
        · replace h := o_t (Decidable.of_not_not h119) h
          refine go_aload_n (pc' := 123) rfl rfl rfl ?_
          obtain ⟨r_123, I_123, q_123, h⟩ := o_b2E h
          refine go_callV (pc' := 126) (B' := (0, 0)) (st' := [.inl r_123]) rfl rfl (Or.inl (by decide)) rfl rfl hth (md_214 (by omega) hth q_123) rfl rfl rfl ?_
          obtain ⟨g5, h⟩ := o_gE h
          cases h
          exact go_iret rfl (o_bzE g5) ⟨rfl, rfl, rfl, rfl, rfl⟩
      · replace h := o_t (Decidable.of_not_not h106) h
        refine go_aload_n (pc' := 110) rfl rfl rfl ?_
        obtain ⟨r_110, I_110, q_110, h⟩ := o_b2E h
        refine go_callV (pc' := 113) (B' := (0, 0)) (st' := [.inl r_110]) rfl rfl (Or.inl (by decide)) rfl rfl hth (md_213 (by omega) hth q_110) rfl rfl rfl ?_
        obtain ⟨g6, h⟩ := o_gE h
        cases h
        exact go_iret rfl (o_bzE g6) ⟨rfl, rfl, rfl, rfl, rfl⟩
    · replace h := o_t (Decidable.of_not_not h69) h
      refine go_aload_n (pc' := 73) rfl rfl rfl ?_
      refine go_iconst (pc' := 74) (v := (nI 0)) rfl rfl rfl ?_
      refine go_bipush (pc' := 76) (v := (nI 7)) rfl rfl rfl ?_
      obtain ⟨r_76, I_76, q_76, h⟩ := o_b2E h
      refine go_callV (pc' := 79) (B' := (0, 0)) (st' := [.inl r_76]) rfl rfl (Or.inl (by decide)) rfl rfl hth (md_212 (by omega) hth q_76) rfl rfl rfl ?_
      refine go_if_eq (pt := 99) (pc' := 82) rfl rfl rfl (fun h79 => ?_) (fun h79 => ?_)
      · replace h := o_t h79 h
        refine go_iconst (pc' := 100) (v := (nI 0)) rfl rfl rfl ?_
        cases h
        exact go_iret rfl (rfl) ⟨rfl, rfl, rfl, rfl, rfl⟩
      · replace h := o_f h79 h
        refine go_aload_n (pc' := 83) rfl rfl rfl ?_
        refine go_sipush (pc' := 86) (v := (-1000 : Int32)) rfl rfl rfl ?_
        refine go_sipush (pc' := 89) (v := (nI 1000)) rfl rfl rfl ?_
        obtain ⟨r_89, I_89, q_89, h⟩ := o_b2E h
        refine go_callV (pc' := 92) (B' := (0, 0)) (st' := [.inl r_89]) rfl rfl (Or.inl (by decide)) rfl rfl hth (md_212 (by omega) hth q_89) rfl rfl rfl ?_
        refine go_if_eq (pt := 99) (pc' := 95) rfl rfl rfl (fun h92 => ?_) (fun h92 => ?_)
        · replace h := o_t h92 h
          refine go_iconst (pc' := 100) (v := (nI 0)) rfl rfl rfl ?_
          cases h
          exact go_iret rfl (rfl) ⟨rfl, rfl, rfl, rfl, rfl⟩
        · replace h := o_f h92 h
          refine go_iconst (pc' := 96) (v := (nI 1)) rfl rfl rfl ?_
          refine go_goto (pc' := 100) rfl rfl ?_
          cases h
          exact go_iret rfl (rfl) ⟨rfl, rfl, rfl, rfl, rfl⟩
  · replace h := o_t (Decidable.of_not_not h6) h
    refine go_aload_n (pc' := 10) rfl rfl rfl ?_
    refine go_iconst (pc' := 11) (v := (nI 4)) rfl rfl rfl ?_
    refine go_aload_n (pc' := 12) rfl rfl rfl ?_
    refine go_getI (pc' := 15) rfl rfl (by decide) (by decide) hth rfl ?_
    obtain ⟨r_15, I_15, q_15, h⟩ := o_b2E h
    refine go_callV (pc' := 18) (B' := (0, 0)) (st' := [.inl r_15]) rfl rfl (Or.inl (by decide)) rfl rfl hth (md_209 (by omega) hth q_15) rfl rfl rfl ?_
    obtain ⟨g7, h⟩ := o_gE h
    cases h
    exact go_iret rfl (o_bzE g7) ⟨rfl, rfl, rfl, rfl, rfl⟩
def m_222_x32_65 (Ix_65 : ai_I) : Option (ai_I) :=
  some Ix_65
def m_222_b32 (th : Nat) (a0 : Int32) (Rf : ai_R) (G : ai_G) (v2_32 : Int32) (I_32 : ai_I) : Option ((Int32 × ai_I) ⊕ ai_I) :=
  if (nI 256) ≤ v2_32 then (some (Sum.inr I_32)) else (o_g (o_in G 13 (Rf th 16) v2_32) (o_g (o_in G 13 (Rf th 0) ((((nI 258) * a0) + (nI 2)) + v2_32)) (o_b1 (some (va_up I_32 (Rf th 0) (va_up (I_32 (Rf th 0)) ((((nI 258) * a0) + (nI 2)) + v2_32).toNatClampNeg (I_32 (Rf th 16) v2_32.toNatClampNeg)))) (fun I_58 => o_b1 (some (v2_32 + (nI 1))) (fun x2_59 => some (Sum.inl (x2_59, I_58)))))))
/-- PricedBasesModel.lays(I)V -/
def m_222 (th : Nat) (a0 : Int32) (I : ai_I) (Rf : ai_R) (G : ai_G) : Option (ai_I) :=
  o_g (o_in G 13 (Rf th 0) ((nI 258) * a0)) (o_b1 (some (va_up I (Rf th 0) (va_up (I (Rf th 0)) ((nI 258) * a0).toNatClampNeg (I th 18)))) (fun I_13 => o_g (o_in G 13 (Rf th 0) (((nI 258) * a0) + (nI 1))) (o_b1 (some (va_up I_13 (Rf th 0) (va_up (I_13 (Rf th 0)) (((nI 258) * a0) + (nI 1)).toNatClampNeg (I_13 th 19)))) (fun I_29 => o_s1 (lp (fun s => m_222_b32 th a0 Rf G s.1 s.2) o_N ((nI 0), I_29)) (fun t => m_222_x32_65 t)))))
theorem md_222 {d : Nat} {I : ai_I} {J : ai_J} {Rf : ai_R} {G : ai_G} {th : Nat} {a0 : Int32} {I1 : ai_I} (hd : 1 ≤ d) (hth : G.1 th = 11) (h : m_222 th a0 I Rf G = some I1) : ai_Cl si_t si_ms d 222 [.inr (.inr th), .inl a0] I J Rf G none I1 J Rf G := by
  obtain ⟨e, rfl⟩ : ∃ e, d = e + 1 := ⟨d - 1, by omega⟩
  unfold m_222 at h
  refine sp_in (lo := [some (.inr (.inr th)), some (.inl a0), none]) (B := (0, 0)) rfl (Nat.le_of_ble_eq_true rfl) rfl rfl ?_
  refine go_aload_n (pc' := 1) rfl rfl rfl ?_
  refine go_getR (pc' := 4) rfl rfl hth rfl ?_
  refine go_sipush (pc' := 7) (v := (nI 258)) rfl rfl rfl ?_
  refine go_iload_n (pc' := 8) rfl rfl rfl ?_
  refine go_imul (pc' := 9) rfl rfl ?_
  refine go_aload_n (pc' := 10) rfl rfl rfl ?_
  refine go_getI (pc' := 13) rfl rfl (by decide) (by decide) hth rfl ?_
  obtain ⟨g0, h⟩ := o_gE h
  obtain ⟨I_13, eI_13, h⟩ := o_b1E h
  refine go_iastore (pc' := 14) rfl (o_inK g0) (o_inB g0) rfl ?_
  refine go_ndMI eI_13 ?_
  refine go_aload_n (pc' := 15) rfl rfl rfl ?_
  refine go_getR (pc' := 18) rfl rfl hth rfl ?_
  refine go_sipush (pc' := 21) (v := (nI 258)) rfl rfl rfl ?_
  refine go_iload_n (pc' := 22) rfl rfl rfl ?_
  refine go_imul (pc' := 23) rfl rfl ?_
  refine go_iconst (pc' := 24) (v := (nI 1)) rfl rfl rfl ?_
  refine go_iadd (pc' := 25) rfl rfl ?_
  refine go_aload_n (pc' := 26) rfl rfl rfl ?_
  refine go_getI (pc' := 29) rfl rfl (by decide) (by decide) hth rfl ?_
  obtain ⟨g1, h⟩ := o_gE h
  obtain ⟨I_29, eI_29, h⟩ := o_b1E h
  refine go_iastore (pc' := 30) rfl (o_inK g1) (o_inB g1) rfl ?_
  refine go_ndMI eI_29 ?_
  refine go_iconst (pc' := 31) (v := (nI 0)) rfl rfl rfl ?_
  refine go_istore_n (pc' := 32) (lo' := [some (.inr (.inr th)), some (.inl a0), some (.inl (nI 0))]) rfl rfl rfl ?_
  obtain ⟨q32, hl32, hc32_65⟩ := o_s1E h
  have ex32_65 : ∀ (Ix_65 : ai_I) (z2_x65 : Option ai_V), Ix_65 = q32 → ai_Go si_t (11, false, 9, cd_222) (ai_Cl si_t si_ms e) (sp_Q none I1 J Rf G) 65 [some (.inr (.inr th)), some (.inl a0), z2_x65] [] (0, 0) Ix_65 J Rf G := by
    intro Ix_65 z2_x65 hq
    have h : m_222_x32_65 Ix_65 = some I1 := hc32_65 Ix_65 hq.symm
    unfold m_222_x32_65 at h
    cases h
    exact go_vret rfl (rfl) ⟨rfl, rfl, rfl, rfl, rfl⟩
  have lo32 : ∀ n s, lp (fun s => m_222_b32 th a0 Rf G s.1 s.2) n s = some q32 → (fun s => ai_Go si_t (11, false, 9, cd_222) (ai_Cl si_t si_ms e) (sp_Q none I1 J Rf G) 32 [some (.inr (.inr th)), some (.inl a0), some (.inl s.1)] [] (0, 0) s.2 J Rf G) s := lp_go (fun s x32 hx hk32 => by
    obtain ⟨v2_32, I_32⟩ := s
    have h : m_222_b32 th a0 Rf G v2_32 I_32 = some x32 := hx
    clear hx
    show ai_Go si_t (11, false, 9, cd_222) (ai_Cl si_t si_ms e) (sp_Q none I1 J Rf G) 32 [some (.inr (.inr th)), some (.inl a0), some (.inl v2_32)] [] (0, 0) I_32 J Rf G
    unfold m_222_b32 at h
    refine go_iload_n (pc' := 33) rfl rfl rfl ?_
    refine go_sipush (pc' := 36) (v := (nI 256)) rfl rfl rfl ?_
    refine go_icmp_ge (pt := 65) (pc' := 39) rfl rfl rfl (fun h36 => ?_) (fun h36 => ?_)
    · replace h := o_t h36 h
      exact ex32_65 _ (some (.inl v2_32)) (lp_exitE h hk32)
    · replace h := o_f h36 h
      refine go_aload_n (pc' := 40) rfl rfl rfl ?_
      refine go_getR (pc' := 43) rfl rfl hth rfl ?_
      refine go_sipush (pc' := 46) (v := (nI 258)) rfl rfl rfl ?_
      refine go_iload_n (pc' := 47) rfl rfl rfl ?_
      refine go_imul (pc' := 48) rfl rfl ?_
      refine go_iconst (pc' := 49) (v := (nI 2)) rfl rfl rfl ?_
      refine go_iadd (pc' := 50) rfl rfl ?_
      refine go_iload_n (pc' := 51) rfl rfl rfl ?_
      refine go_iadd (pc' := 52) rfl rfl ?_
      refine go_aload_n (pc' := 53) rfl rfl rfl ?_
      refine go_getR (pc' := 56) rfl rfl hth rfl ?_
      refine go_iload_n (pc' := 57) rfl rfl rfl ?_
      obtain ⟨g2, h⟩ := o_gE h
      refine go_iaload (pc' := 58) rfl (o_inK g2) (o_inB g2) rfl ?_
      obtain ⟨g3, h⟩ := o_gE h
      obtain ⟨I_58, eI_58, h⟩ := o_b1E h
      refine go_iastore (pc' := 59) rfl (o_inK g3) (o_inB g3) rfl ?_
      refine go_ndMI eI_58 ?_
      obtain ⟨x2_59, ex2_59, h⟩ := o_b1E h
      refine go_iincE (pc' := 62) rfl rfl (y := (nI 1)) rfl ex2_59 (lo' := [some (.inr (.inr th)), some (.inl a0), some (.inl x2_59)]) rfl rfl ?_
      refine go_goto (pc' := 32) rfl rfl ?_
      exact (lp_backE h hk32 :))
  exact lo32 _ ((nI 0), I_29) hl32 
def m_223_x4_46 : Option (Int32) :=
  some (nI 0)
def m_223_x4_54 (th : Nat) (I : ai_I) (w1_54 : Int32) : Option (Int32) :=
  if w1_54 = 0 then (some (nI 0)) else (o_b1 (m_189 ((I th 18).toInt64) (2 : Int64) (8 : Int64)) (fun r_69 => if r_69 = 0 then (some (nI 0)) else (o_b1 (m_189 ((I th 19).toInt64) (1 : Int64) (((I th 18) - (nI 1)).toInt64)) (fun r_88 => if r_88 = 0 then (some (nI 0)) else (some (nI 1))))))
def m_223_b4 (th : Nat) (I : ai_I) (Rf : ai_R) (G : ai_G) (v1_4 : Int32) (v2_4 : Int32) : Option ((Int32 × Int32) ⊕ (Unit ⊕ Int32)) :=
  if (nI 256) ≤ v2_4 then (some (Sum.inr (Sum.inr v1_4))) else (o_g (o_in G 13 (Rf th 16) v2_4) (if (I (Rf th 16) v2_4.toNatClampNeg) = (-2147483648 : Int32) then (o_b1 (some (v2_4 + (nI 1))) (fun x2_48 => some (Sum.inl (v1_4, x2_48)))) else (o_g (o_in G 13 (Rf th 16) v2_4) (o_b1 (m_189 ((I (Rf th 16) v2_4.toNatClampNeg).toInt64) (-1000000 : Int64) (1000000 : Int64)) (fun r_40 => if r_40 = 0 then (some (Sum.inr (Sum.inl ()))) else (o_b1 (some (v2_4 + (nI 1))) (fun x2_48 => some (Sum.inl ((nI 1), x2_48)))))))))
/-- PricedBasesModel.canStand()Z -/
def m_223 (th : Nat) (I : ai_I) (Rf : ai_R) (G : ai_G) : Option (Int32) :=
  o_s2 (lp (fun s => m_223_b4 th I Rf G s.1 s.2) o_N ((nI 0), (nI 0))) (fun t => m_223_x4_46) (fun t => m_223_x4_54 th I t)
theorem md_223 {d : Nat} {I : ai_I} {J : ai_J} {Rf : ai_R} {G : ai_G} {th : Nat} {r : Int32} (hd : 2 ≤ d) (hth : G.1 th = 11) (h : m_223 th I Rf G = some r) : ai_Cl si_t si_ms d 223 [.inr (.inr th)] I J Rf G (some (.inl r)) I J Rf G := by
  obtain ⟨e, rfl⟩ : ∃ e, d = e + 1 := ⟨d - 1, by omega⟩
  unfold m_223 at h
  refine sp_in (lo := [some (.inr (.inr th)), none, none]) (B := (0, 0)) rfl (Nat.le_of_ble_eq_true rfl) rfl rfl ?_
  refine go_iconst (pc' := 1) (v := (nI 0)) rfl rfl rfl ?_
  refine go_istore_n (pc' := 2) (lo' := [some (.inr (.inr th)), some (.inl (nI 0)), none]) rfl rfl rfl ?_
  refine go_iconst (pc' := 3) (v := (nI 0)) rfl rfl rfl ?_
  refine go_istore_n (pc' := 4) (lo' := [some (.inr (.inr th)), some (.inl (nI 0)), some (.inl (nI 0))]) rfl rfl rfl ?_
  obtain ⟨q4, hl4, hc4_46, hc4_54⟩ := o_s2E h
  have ex4_46 : ∀ (z1_x46 : Option ai_V) (z2_x46 : Option ai_V), (Sum.inl ()) = q4 → ai_Go si_t (11, false, 3, cd_223) (ai_Cl si_t si_ms e) (sp_Q (some (.inl r)) I J Rf G) 46 [some (.inr (.inr th)), z1_x46, z2_x46] [] (0, 0) I J Rf G := by
    intro z1_x46 z2_x46 hq
    have h : m_223_x4_46 = some r := hc4_46 () hq.symm
    unfold m_223_x4_46 at h
    refine go_iconst (pc' := 47) (v := (nI 0)) rfl rfl rfl ?_
    cases h
    exact go_iret rfl (rfl) ⟨rfl, rfl, rfl, rfl, rfl⟩
  have ex4_54 : ∀ (w1_54 : Int32) (z2_x54 : Option ai_V), (Sum.inr w1_54) = q4 → ai_Go si_t (11, false, 3, cd_223) (ai_Cl si_t si_ms e) (sp_Q (some (.inl r)) I J Rf G) 54 [some (.inr (.inr th)), some (.inl w1_54), z2_x54] [] (0, 0) I J Rf G := by
    intro w1_54 z2_x54 hq
    have h : m_223_x4_54 th I w1_54 = some r := hc4_54 w1_54 hq.symm
    unfold m_223_x4_54 at h
    refine go_iload_n (pc' := 55) rfl rfl rfl ?_
    refine go_if_eq (pt := 98) (pc' := 58) rfl rfl rfl (fun h55 => ?_) (fun h55 => ?_)
    · replace h := o_t h55 h
      refine go_iconst (pc' := 99) (v := (nI 0)) rfl rfl rfl ?_
      cases h
      exact go_iret rfl (rfl) ⟨rfl, rfl, rfl, rfl, rfl⟩
    · replace h := o_f h55 h
      refine go_aload_n (pc' := 59) rfl rfl rfl ?_
      refine go_getI (pc' := 62) rfl rfl (by decide) (by decide) hth rfl ?_
      refine go_i2l (pc' := 63) rfl rfl ?_
      refine go_ldc2_w (pc' := 66) (v := .inr (.inl (2 : Int64))) rfl rfl rfl ?_
      refine go_ldc2_w (pc' := 69) (v := .inr (.inl (8 : Int64))) rfl rfl rfl ?_
      obtain ⟨r_69, q_69, h⟩ := o_b1E h
      refine go_callS (pc' := 72) (B' := (0, 0)) (st' := [.inl r_69]) rfl rfl (Or.inl (by decide)) rfl rfl trivial (md_189 (by omega) q_69) rfl rfl rfl ?_
      refine go_if_eq (pt := 98) (pc' := 75) rfl rfl rfl (fun h72 => ?_) (fun h72 => ?_)
      · replace h := o_t h72 h
        refine go_iconst (pc' := 99) (v := (nI 0)) rfl rfl rfl ?_
        cases h
        exact go_iret rfl (rfl) ⟨rfl, rfl, rfl, rfl, rfl⟩
      · replace h := o_f h72 h
        refine go_aload_n (pc' := 76) rfl rfl rfl ?_
        refine go_getI (pc' := 79) rfl rfl (by decide) (by decide) hth rfl ?_
        refine go_i2l (pc' := 80) rfl rfl ?_
        refine go_lconst (pc' := 81) (v := (1 : Int64)) rfl rfl rfl ?_
        refine go_aload_n (pc' := 82) rfl rfl rfl ?_
        refine go_getI (pc' := 85) rfl rfl (by decide) (by decide) hth rfl ?_
        refine go_iconst (pc' := 86) (v := (nI 1)) rfl rfl rfl ?_
        refine go_isub (pc' := 87) rfl rfl ?_
        refine go_i2l (pc' := 88) rfl rfl ?_
        obtain ⟨r_88, q_88, h⟩ := o_b1E h
        refine go_callS (pc' := 91) (B' := (0, 0)) (st' := [.inl r_88]) rfl rfl (Or.inl (by decide)) rfl rfl trivial (md_189 (by omega) q_88) rfl rfl rfl ?_
        refine go_if_eq (pt := 98) (pc' := 94) rfl rfl rfl (fun h91 => ?_) (fun h91 => ?_)
        · replace h := o_t h91 h
          refine go_iconst (pc' := 99) (v := (nI 0)) rfl rfl rfl ?_
          cases h
          exact go_iret rfl (rfl) ⟨rfl, rfl, rfl, rfl, rfl⟩
        · replace h := o_f h91 h
          refine go_iconst (pc' := 95) (v := (nI 1)) rfl rfl rfl ?_
          refine go_goto (pc' := 99) rfl rfl ?_
          cases h
          exact go_iret rfl (rfl) ⟨rfl, rfl, rfl, rfl, rfl⟩
  have lo4 : ∀ n s, lp (fun s => m_223_b4 th I Rf G s.1 s.2) n s = some q4 → (fun s => ai_Go si_t (11, false, 3, cd_223) (ai_Cl si_t si_ms e) (sp_Q (some (.inl r)) I J Rf G) 4 [some (.inr (.inr th)), some (.inl s.1), some (.inl s.2)] [] (0, 0) I J Rf G) s := lp_go (fun s x4 hx hk4 => by
    obtain ⟨v1_4, v2_4⟩ := s
    have h : m_223_b4 th I Rf G v1_4 v2_4 = some x4 := hx
    clear hx
    show ai_Go si_t (11, false, 3, cd_223) (ai_Cl si_t si_ms e) (sp_Q (some (.inl r)) I J Rf G) 4 [some (.inr (.inr th)), some (.inl v1_4), some (.inl v2_4)] [] (0, 0) I J Rf G
    unfold m_223_b4 at h
    refine go_iload_n (pc' := 5) rfl rfl rfl ?_
    refine go_sipush (pc' := 8) (v := (nI 256)) rfl rfl rfl ?_
    refine go_icmp_ge (pt := 54) (pc' := 11) rfl rfl rfl (fun h8 => ?_) (fun h8 => ?_)
    · replace h := o_t h8 h
      exact ex4_54 _ (some (.inl v2_4)) (lp_exitE h hk4)
    · replace h := o_f h8 h
      refine go_aload_n (pc' := 12) rfl rfl rfl ?_
      refine go_getR (pc' := 15) rfl rfl hth rfl ?_
      refine go_iload_n (pc' := 16) rfl rfl rfl ?_
      obtain ⟨g0, h⟩ := o_gE h
      refine go_iaload (pc' := 17) rfl (o_inK g0) (o_inB g0) rfl ?_
      refine go_ldc (pc' := 19) (v := .inl (-2147483648 : Int32)) rfl rfl rfl ?_
      refine go_icmp_ne (pt := 25) (pc' := 22) rfl rfl rfl (fun h19 => ?_) (fun h19 => ?_)
      · replace h := o_f h19 h
        refine go_iconst (pc' := 26) (v := (nI 1)) rfl rfl rfl ?_
        refine go_istore_n (pc' := 27) (lo' := [some (.inr (.inr th)), some (.inl (nI 1)), some (.inl v2_4)]) rfl rfl rfl ?_
        refine go_aload_n (pc' := 28) rfl rfl rfl ?_
        refine go_getR (pc' := 31) rfl rfl hth rfl ?_
        refine go_iload_n (pc' := 32) rfl rfl rfl ?_
        obtain ⟨g1, h⟩ := o_gE h
        refine go_iaload (pc' := 33) rfl (o_inK g1) (o_inB g1) rfl ?_
        refine go_i2l (pc' := 34) rfl rfl ?_
        refine go_ldc2_w (pc' := 37) (v := .inr (.inl (-1000000 : Int64))) rfl rfl rfl ?_
        refine go_ldc2_w (pc' := 40) (v := .inr (.inl (1000000 : Int64))) rfl rfl rfl ?_
        obtain ⟨r_40, q_40, h⟩ := o_b1E h
        refine go_callS (pc' := 43) (B' := (0, 0)) (st' := [.inl r_40]) rfl rfl (Or.inl (by decide)) rfl rfl trivial (md_189 (by omega) q_40) rfl rfl rfl ?_
        refine go_if_ne (pt := 48) (pc' := 46) rfl rfl rfl (fun h43 => ?_) (fun h43 => ?_)
        · replace h := o_f h43 h
          obtain ⟨x2_48, ex2_48, h⟩ := o_b1E h
          refine go_iincE (pc' := 51) rfl rfl (y := (nI 1)) rfl ex2_48 (lo' := [some (.inr (.inr th)), some (.inl (nI 1)), some (.inl x2_48)]) rfl rfl ?_
          refine go_goto (pc' := 4) rfl rfl ?_
          exact (lp_backE h hk4 :)
        · replace h := o_t (Decidable.of_not_not h43) h
          exact ex4_46  (some (.inl (nI 1))) (some (.inl v2_4)) (lp_exitE h hk4)
      · replace h := o_t (Decidable.of_not_not h19) h
        refine go_goto (pc' := 48) rfl rfl ?_
        obtain ⟨x2_48, ex2_48, h⟩ := o_b1E h
        refine go_iincE (pc' := 51) rfl rfl (y := (nI 1)) rfl ex2_48 (lo' := [some (.inr (.inr th)), some (.inl v1_4), some (.inl x2_48)]) rfl rfl ?_
        refine go_goto (pc' := 4) rfl rfl ?_
        exact (lp_backE h hk4 :))
  exact lo4 _ ((nI 0), (nI 0)) hl4 
