/-! Models of methods and their proofs, piece 3. Printed by wip/whole/pr10.py. -/
/-- PricedBases$Law.<init>()V -/
def m_31 (th : Nat) (I : ai_I) (Rf : ai_R) (G : ai_G) : Option (ai_I × ai_R × ai_G) :=
  o_g (o_nn th) (o_g (o_lt9 G) (o_b1 (some (va_up I (G.2.2 + 1) (fun _ => 0))) (fun I_8 => o_b1 (some (va_up G.1 (G.2.2 + 1) 13, va_up G.2.1 (G.2.2 + 1) 256, G.2.2 + 1)) (fun G_8 => o_b1 (some (G.2.2 + 1)) (fun n_8 => o_g (o_kd G_8 th 2) (o_b1 (some (va_up Rf th (va_up (Rf th) 3 n_8))) (fun R_10 => some (I_8, R_10, G_8))))))))
theorem md_31 {d : Nat} {I : ai_I} {J : ai_J} {Rf : ai_R} {G : ai_G} {th : Nat} {I1 : ai_I} {R1 : ai_R} {G1 : ai_G} (hd : 1 ≤ d) (hth : G.1 th = 2) (h : m_31 th I Rf G = some (I1, R1, G1)) : ai_Cl si_t si_ms d 31 [.inr (.inr th)] I J Rf G none I1 J R1 G1 := by
  obtain ⟨e, rfl⟩ : ∃ e, d = e + 1 := ⟨d - 1, by omega⟩
  unfold m_31 at h
  refine sp_in (lo := [some (.inr (.inr th))]) (B := (1, 256)) rfl (Nat.le_of_ble_eq_true rfl) rfl rfl ?_
  refine go_aload_n (pc' := 1) rfl rfl rfl ?_
  obtain ⟨g0, h⟩ := o_gE h
  refine go_obj (pc' := 4) rfl rfl (o_nnE g0) (Nat.le_of_ble_eq_true rfl) rfl ?_
  refine go_aload_n (pc' := 5) rfl rfl rfl ?_
  refine go_sipush (pc' := 8) (v := (nI 256)) rfl rfl rfl ?_
  obtain ⟨g1, h⟩ := o_gE h
  refine go_newI (pc' := 10) (N := 256) rfl (by decide) (by decide) (by decide) (by decide) (by decide) (o_lt9E g1) rfl ?_
  obtain ⟨I_8, eI_8, h⟩ := o_b1E h
  obtain ⟨G_8, eG_8, h⟩ := o_b1E h
  obtain ⟨n_8, en_8, h⟩ := o_b1E h
  refine go_ndMI eI_8 ?_
  refine go_ndMG eG_8 ?_
  refine go_ndR en_8 ?_
  refine go_ndB (B' := (0, 0)) rfl ?_
  obtain ⟨g2, h⟩ := o_gE h
  obtain ⟨R_10, eR_10, h⟩ := o_b1E h
  refine go_putR (pc' := 13) rfl rfl (fun _ => ⟨rfl, rfl⟩) (o_kdE g2) rfl ?_
  refine go_ndMR eR_10 ?_
  cases h
  exact go_vret rfl (rfl) ⟨rfl, rfl, rfl, rfl, rfl⟩
def m_34_x19_86 (w6_86 : Int32) : Option (Int32) :=
  some w6_86
def m_34_x19_95 : Option (Int32) :=
  some (-2 : Int32)
def m_34_b19 (a0 : Nat) (a1 : Int32) (a2 : Int32) (a3 : Int32) (I : ai_I) (G : ai_G) (x4_7 : Int32) (x5_14 : Int32) (v6_19 : Int32) : Option (Int32 ⊕ (Int32 ⊕ Unit)) :=
  if (nI 8) ≤ v6_19 then (some (Sum.inr (Sum.inr ()))) else (o_b1 (m_183 x5_14 v6_19) (fun r_30 => if r_30 = 0 then (o_b1 (some (v6_19 + (nI 1))) (fun x6_89 => some (Sum.inl x6_89))) else (o_b1 (some (((nI 1) <<< (a3 &&& 31)) ||| ((nI 1) <<< (v6_19 &&& 31)))) (fun x7_44 => o_g (o_in G 13 a0 (a1 ^^^ x7_44)) (o_b1 (some (I a0 (a1 ^^^ x7_44).toNatClampNeg)) (fun x8_52 => o_g (o_in G 13 a0 (a2 ^^^ x7_44)) (o_b1 (some (I a0 (a2 ^^^ x7_44).toNatClampNeg)) (fun x9_60 => if x8_52 = (-2147483648 : Int32) then (o_b1 (some (v6_19 + (nI 1))) (fun x6_89 => some (Sum.inl x6_89))) else (if x9_60 = (-2147483648 : Int32) then (o_b1 (some (v6_19 + (nI 1))) (fun x6_89 => some (Sum.inl x6_89))) else (if (x8_52 + x9_60) < x4_7 then (o_b1 (some (v6_19 + (nI 1))) (fun x6_89 => some (Sum.inl x6_89))) else (some (Sum.inr (Sum.inl v6_19)))))))))))))
/-- PricedBases$Law.partner([IIII)I -/
def m_34 (a0 : Nat) (a1 : Int32) (a2 : Int32) (a3 : Int32) (I : ai_I) (G : ai_G) : Option (Int32) :=
  o_g (o_in G 13 a0 a1) (o_g (o_in G 13 a0 a2) (o_b1 (some ((I a0 a1.toNatClampNeg) + (I a0 a2.toNatClampNeg))) (fun x4_7 => o_b1 (some (a2 &&& (a1 ^^^ (-1 : Int32)))) (fun x5_14 => o_s2 (lp (fun s => m_34_b19 a0 a1 a2 a3 I G x4_7 x5_14 s) o_N (nI 0)) (fun t => m_34_x19_86 t) (fun t => m_34_x19_95)))))
theorem md_34 {d : Nat} {I : ai_I} {J : ai_J} {Rf : ai_R} {G : ai_G} {a0 : Nat} {a1 : Int32} {a2 : Int32} {a3 : Int32} {r : Int32} (hd : 2 ≤ d) (h : m_34 a0 a1 a2 a3 I G = some r) : ai_Cl si_t si_ms d 34 [.inr (.inr a0), .inl a1, .inl a2, .inl a3] I J Rf G (some (.inl r)) I J Rf G := by
  obtain ⟨e, rfl⟩ : ∃ e, d = e + 1 := ⟨d - 1, by omega⟩
  unfold m_34 at h
  refine sp_in (lo := [some (.inr (.inr a0)), some (.inl a1), some (.inl a2), some (.inl a3), none, none, none, none, none, none]) (B := (0, 0)) rfl (Nat.le_of_ble_eq_true rfl) rfl rfl ?_
  refine go_aload_n (pc' := 1) rfl rfl rfl ?_
  refine go_iload_n (pc' := 2) rfl rfl rfl ?_
  obtain ⟨g0, h⟩ := o_gE h
  refine go_iaload (pc' := 3) rfl (o_inK g0) (o_inB g0) rfl ?_
  refine go_aload_n (pc' := 4) rfl rfl rfl ?_
  refine go_iload_n (pc' := 5) rfl rfl rfl ?_
  obtain ⟨g1, h⟩ := o_gE h
  refine go_iaload (pc' := 6) rfl (o_inK g1) (o_inB g1) rfl ?_
  refine go_iadd (pc' := 7) rfl rfl ?_
  obtain ⟨x4_7, ex4_7, h⟩ := o_b1E h
  refine go_ndI ex4_7 ?_
  refine go_istore (pc' := 9) (lo' := [some (.inr (.inr a0)), some (.inl a1), some (.inl a2), some (.inl a3), some (.inl x4_7), none, none, none, none, none]) rfl rfl rfl ?_
  refine go_iload_n (pc' := 10) rfl rfl rfl ?_
  refine go_iload_n (pc' := 11) rfl rfl rfl ?_
  refine go_iconst (pc' := 12) (v := (-1 : Int32)) rfl rfl rfl ?_
  refine go_ixor (pc' := 13) rfl rfl ?_
  refine go_iand (pc' := 14) rfl rfl ?_
  obtain ⟨x5_14, ex5_14, h⟩ := o_b1E h
  refine go_ndI ex5_14 ?_
  refine go_istore (pc' := 16) (lo' := [some (.inr (.inr a0)), some (.inl a1), some (.inl a2), some (.inl a3), some (.inl x4_7), some (.inl x5_14), none, none, none, none]) rfl rfl rfl ?_
  refine go_iconst (pc' := 17) (v := (nI 0)) rfl rfl rfl ?_
  refine go_istore (pc' := 19) (lo' := [some (.inr (.inr a0)), some (.inl a1), some (.inl a2), some (.inl a3), some (.inl x4_7), some (.inl x5_14), some (.inl (nI 0)), none, none, none]) rfl rfl rfl ?_
  obtain ⟨q19, hl19, hc19_86, hc19_95⟩ := o_s2E h
  have ex19_86 : ∀ (w6_86 : Int32) (z7_x86 : Option ai_V) (z8_x86 : Option ai_V) (z9_x86 : Option ai_V), (Sum.inl w6_86) = q19 → ai_Go si_t (2, false, 0, cd_34) (ai_Cl si_t si_ms e) (sp_Q (some (.inl r)) I J Rf G) 86 [some (.inr (.inr a0)), some (.inl a1), some (.inl a2), some (.inl a3), some (.inl x4_7), some (.inl x5_14), some (.inl w6_86), z7_x86, z8_x86, z9_x86] [] (0, 0) I J Rf G := by
    intro w6_86 z7_x86 z8_x86 z9_x86 hq
    have h : m_34_x19_86 w6_86 = some r := hc19_86 w6_86 hq.symm
    unfold m_34_x19_86 at h
    refine go_iload (pc' := 88) rfl rfl rfl ?_
    cases h
    exact go_iret rfl (trivial) ⟨rfl, rfl, rfl, rfl, rfl⟩
  have ex19_95 : ∀ (z6_x95 : Option ai_V) (z7_x95 : Option ai_V) (z8_x95 : Option ai_V) (z9_x95 : Option ai_V), (Sum.inr ()) = q19 → ai_Go si_t (2, false, 0, cd_34) (ai_Cl si_t si_ms e) (sp_Q (some (.inl r)) I J Rf G) 95 [some (.inr (.inr a0)), some (.inl a1), some (.inl a2), some (.inl a3), some (.inl x4_7), some (.inl x5_14), z6_x95, z7_x95, z8_x95, z9_x95] [] (0, 0) I J Rf G := by
    intro z6_x95 z7_x95 z8_x95 z9_x95 hq
    have h : m_34_x19_95 = some r := hc19_95 () hq.symm
    unfold m_34_x19_95 at h
    refine go_bipush (pc' := 97) (v := (-2 : Int32)) rfl rfl rfl ?_
    cases h
    exact go_iret rfl (trivial) ⟨rfl, rfl, rfl, rfl, rfl⟩
  have lo19 : ∀ n s, lp (fun s => m_34_b19 a0 a1 a2 a3 I G x4_7 x5_14 s) n s = some q19 → (fun s => ∀ (z7_19 : Option ai_V) (z8_19 : Option ai_V) (z9_19 : Option ai_V), ai_Go si_t (2, false, 0, cd_34) (ai_Cl si_t si_ms e) (sp_Q (some (.inl r)) I J Rf G) 19 [some (.inr (.inr a0)), some (.inl a1), some (.inl a2), some (.inl a3), some (.inl x4_7), some (.inl x5_14), some (.inl s), z7_19, z8_19, z9_19] [] (0, 0) I J Rf G) s := lp_go (fun s x19 hx hk19 => by
    revert s; intro v6_19 hx
    intro z7_19 z8_19 z9_19
    have h : m_34_b19 a0 a1 a2 a3 I G x4_7 x5_14 v6_19 = some x19 := hx
    clear hx
    show ai_Go si_t (2, false, 0, cd_34) (ai_Cl si_t si_ms e) (sp_Q (some (.inl r)) I J Rf G) 19 [some (.inr (.inr a0)), some (.inl a1), some (.inl a2), some (.inl a3), some (.inl x4_7), some (.inl x5_14), some (.inl v6_19), z7_19, z8_19, z9_19] [] (0, 0) I J Rf G
    unfold m_34_b19 at h
    refine go_iload (pc' := 21) rfl rfl rfl ?_
    refine go_bipush (pc' := 23) (v := (nI 8)) rfl rfl rfl ?_
    refine go_icmp_ge (pt := 95) (pc' := 26) rfl rfl rfl (fun h23 => ?_) (fun h23 => ?_)
    · replace h := o_t h23 h
      exact ex19_95  (some (.inl v6_19)) z7_19 z8_19 z9_19 (lp_exitE h hk19)
    · replace h := o_f h23 h
      refine go_iload (pc' := 28) rfl rfl rfl ?_
      refine go_iload (pc' := 30) rfl rfl rfl ?_
      obtain ⟨r_30, q_30, h⟩ := o_b1E h
      refine go_callS (pc' := 33) (B' := (0, 0)) (st' := [.inl r_30]) rfl rfl (Or.inl (by decide)) rfl rfl trivial (md_183 (by omega) q_30) rfl rfl rfl ?_
      refine go_if_eq (pt := 89) (pc' := 36) rfl rfl rfl (fun h33 => ?_) (fun h33 => ?_)
      · replace h := o_t h33 h
        obtain ⟨x6_89, ex6_89, h⟩ := o_b1E h
        refine go_iincE (pc' := 92) rfl rfl (y := (nI 1)) rfl ex6_89 (lo' := [some (.inr (.inr a0)), some (.inl a1), some (.inl a2), some (.inl a3), some (.inl x4_7), some (.inl x5_14), some (.inl x6_89), z7_19, z8_19, z9_19]) rfl rfl ?_
        refine go_goto (pc' := 19) rfl rfl ?_
        exact (lp_backE h hk19 z7_19 z8_19 z9_19 :)
      · replace h := o_f h33 h
        refine go_iconst (pc' := 37) (v := (nI 1)) rfl rfl rfl ?_
        refine go_iload_n (pc' := 38) rfl rfl rfl ?_
        refine go_ishl (pc' := 39) rfl rfl ?_
        refine go_iconst (pc' := 40) (v := (nI 1)) rfl rfl rfl ?_
        refine go_iload (pc' := 42) rfl rfl rfl ?_
        refine go_ishl (pc' := 43) rfl rfl ?_
        refine go_ior (pc' := 44) rfl rfl ?_
        obtain ⟨x7_44, ex7_44, h⟩ := o_b1E h
        refine go_ndI ex7_44 ?_
        refine go_istore (pc' := 46) (lo' := [some (.inr (.inr a0)), some (.inl a1), some (.inl a2), some (.inl a3), some (.inl x4_7), some (.inl x5_14), some (.inl v6_19), some (.inl x7_44), z8_19, z9_19]) rfl rfl rfl ?_
        refine go_aload_n (pc' := 47) rfl rfl rfl ?_
        refine go_iload_n (pc' := 48) rfl rfl rfl ?_
        refine go_iload (pc' := 50) rfl rfl rfl ?_
        refine go_ixor (pc' := 51) rfl rfl ?_
        obtain ⟨g2, h⟩ := o_gE h
        refine go_iaload (pc' := 52) rfl (o_inK g2) (o_inB g2) rfl ?_
        obtain ⟨x8_52, ex8_52, h⟩ := o_b1E h
        refine go_ndI ex8_52 ?_
        refine go_istore (pc' := 54) (lo' := [some (.inr (.inr a0)), some (.inl a1), some (.inl a2), some (.inl a3), some (.inl x4_7), some (.inl x5_14), some (.inl v6_19), some (.inl x7_44), some (.inl x8_52), z9_19]) rfl rfl rfl ?_
        refine go_aload_n (pc' := 55) rfl rfl rfl ?_
        refine go_iload_n (pc' := 56) rfl rfl rfl ?_
        refine go_iload (pc' := 58) rfl rfl rfl ?_
        refine go_ixor (pc' := 59) rfl rfl ?_
        obtain ⟨g3, h⟩ := o_gE h
        refine go_iaload (pc' := 60) rfl (o_inK g3) (o_inB g3) rfl ?_
        obtain ⟨x9_60, ex9_60, h⟩ := o_b1E h
        refine go_ndI ex9_60 ?_
        refine go_istore (pc' := 62) (lo' := [some (.inr (.inr a0)), some (.inl a1), some (.inl a2), some (.inl a3), some (.inl x4_7), some (.inl x5_14), some (.inl v6_19), some (.inl x7_44), some (.inl x8_52), some (.inl x9_60)]) rfl rfl rfl ?_
        refine go_iload (pc' := 64) rfl rfl rfl ?_
        refine go_ldc (pc' := 66) (v := .inl (-2147483648 : Int32)) rfl rfl rfl ?_
        refine go_icmp_eq (pt := 89) (pc' := 69) rfl rfl rfl (fun h66 => ?_) (fun h66 => ?_)
        · replace h := o_t h66 h
          obtain ⟨x6_89, ex6_89, h⟩ := o_b1E h
          refine go_iincE (pc' := 92) rfl rfl (y := (nI 1)) rfl ex6_89 (lo' := [some (.inr (.inr a0)), some (.inl a1), some (.inl a2), some (.inl a3), some (.inl x4_7), some (.inl x5_14), some (.inl x6_89), some (.inl x7_44), some (.inl x8_52), some (.inl x9_60)]) rfl rfl ?_
          refine go_goto (pc' := 19) rfl rfl ?_
          exact (lp_backE h hk19 (some (.inl x7_44)) (some (.inl x8_52)) (some (.inl x9_60)) :)
        · replace h := o_f h66 h
          refine go_iload (pc' := 71) rfl rfl rfl ?_
          refine go_ldc (pc' := 73) (v := .inl (-2147483648 : Int32)) rfl rfl rfl ?_
          refine go_icmp_eq (pt := 89) (pc' := 76) rfl rfl rfl (fun h73 => ?_) (fun h73 => ?_)
          · replace h := o_t h73 h
            obtain ⟨x6_89, ex6_89, h⟩ := o_b1E h
            refine go_iincE (pc' := 92) rfl rfl (y := (nI 1)) rfl ex6_89 (lo' := [some (.inr (.inr a0)), some (.inl a1), some (.inl a2), some (.inl a3), some (.inl x4_7), some (.inl x5_14), some (.inl x6_89), some (.inl x7_44), some (.inl x8_52), some (.inl x9_60)]) rfl rfl ?_
            refine go_goto (pc' := 19) rfl rfl ?_
            exact (lp_backE h hk19 (some (.inl x7_44)) (some (.inl x8_52)) (some (.inl x9_60)) :)
          · replace h := o_f h73 h
            refine go_iload (pc' := 78) rfl rfl rfl ?_
            refine go_iload (pc' := 80) rfl rfl rfl ?_
            refine go_iadd (pc' := 81) rfl rfl ?_
            refine go_iload (pc' := 83) rfl rfl rfl ?_
            refine go_icmp_lt (pt := 89) (pc' := 86) rfl rfl rfl (fun h83 => ?_) (fun h83 => ?_)
            · replace h := o_t h83 h
              obtain ⟨x6_89, ex6_89, h⟩ := o_b1E h
              refine go_iincE (pc' := 92) rfl rfl (y := (nI 1)) rfl ex6_89 (lo' := [some (.inr (.inr a0)), some (.inl a1), some (.inl a2), some (.inl a3), some (.inl x4_7), some (.inl x5_14), some (.inl x6_89), some (.inl x7_44), some (.inl x8_52), some (.inl x9_60)]) rfl rfl ?_
              refine go_goto (pc' := 19) rfl rfl ?_
              exact (lp_backE h hk19 (some (.inl x7_44)) (some (.inl x8_52)) (some (.inl x9_60)) :)
            · replace h := o_f h83 h
              exact ex19_86 _ (some (.inl x7_44)) (some (.inl x8_52)) (some (.inl x9_60)) (lp_exitE h hk19))
  exact lo19 _ (nI 0) hl19 none none none
def m_33_x33_93 (w6_93 : Int32) (Ix_93 : ai_I) : Option (Int32 × ai_I) :=
  some (w6_93, Ix_93)
def m_33_b33 (th : Nat) (a0 : Nat) (a1 : Int32) (a2 : Int32) (a4 : Int32) (G : ai_G) (x7_28 : Int32) (v6_33 : Int32) (v8_33 : Int32) (I_33 : ai_I) : Option ((Int32 × Int32 × ai_I) ⊕ (Int32 × ai_I)) :=
  if (nI 8) ≤ v8_33 then (some (Sum.inr (v6_33, I_33))) else (if a4 < v6_33 then (some (Sum.inr (v6_33, I_33))) else (o_b1 (m_183 x7_28 v8_33) (fun r_51 => if r_51 = 0 then (o_b1 (some (v8_33 + (nI 1))) (fun x8_87 => some (Sum.inl (v6_33, x8_87, I_33)))) else (o_b1 (m_34 a0 a1 a2 v8_33 I_33 G) (fun r_62 => if 0 ≤ r_62 then (o_b1 (some (v8_33 + (nI 1))) (fun x8_87 => some (Sum.inl (v6_33, x8_87, I_33)))) else (o_b1 (some (va_up I_33 th (va_up (I_33 th) 0 a1))) (fun I_70 => o_b1 (some (va_up I_70 th (va_up (I_70 th) 1 a2))) (fun I_75 => o_b1 (some (va_up I_75 th (va_up (I_75 th) 2 v8_33))) (fun I_81 => o_b1 (some (v6_33 + (nI 1))) (fun x6_84 => o_b1 (some (v8_33 + (nI 1))) (fun x8_87 => some (Sum.inl (x6_84, x8_87, I_81)))))))))))))
/-- PricedBases$Law.meetsFor([IIIII)I -/
def m_33 (th : Nat) (a0 : Nat) (a1 : Int32) (a2 : Int32) (a3 : Int32) (a4 : Int32) (I : ai_I) (G : ai_G) : Option (Int32 × ai_I) :=
  o_g (o_in G 13 a0 a1) (if (I a0 a1.toNatClampNeg) = (-2147483648 : Int32) then (some (a3, I)) else (o_g (o_in G 13 a0 a2) (if (I a0 a2.toNatClampNeg) = (-2147483648 : Int32) then (some (a3, I)) else (o_b1 (some (a1 &&& (a2 ^^^ (-1 : Int32)))) (fun x7_28 => o_s1 (lp (fun s => m_33_b33 th a0 a1 a2 a4 G x7_28 s.1 s.2.1 s.2.2) o_N (a3, (nI 0), I)) (fun t => m_33_x33_93 t.1 t.2))))))
theorem md_33 {d : Nat} {I : ai_I} {J : ai_J} {Rf : ai_R} {G : ai_G} {th : Nat} {a0 : Nat} {a1 : Int32} {a2 : Int32} {a3 : Int32} {a4 : Int32} {r : Int32} {I1 : ai_I} (hd : 3 ≤ d) (hth : G.1 th = 2) (h : m_33 th a0 a1 a2 a3 a4 I G = some (r, I1)) : ai_Cl si_t si_ms d 33 [.inr (.inr th), .inr (.inr a0), .inl a1, .inl a2, .inl a3, .inl a4] I J Rf G (some (.inl r)) I1 J Rf G := by
  obtain ⟨e, rfl⟩ : ∃ e, d = e + 1 := ⟨d - 1, by omega⟩
  unfold m_33 at h
  refine sp_in (lo := [some (.inr (.inr th)), some (.inr (.inr a0)), some (.inl a1), some (.inl a2), some (.inl a3), some (.inl a4), none, none, none]) (B := (0, 0)) rfl (Nat.le_of_ble_eq_true rfl) rfl rfl ?_
  refine go_aload_n (pc' := 1) rfl rfl rfl ?_
  refine go_iload_n (pc' := 2) rfl rfl rfl ?_
  obtain ⟨g0, h⟩ := o_gE h
  refine go_iaload (pc' := 3) rfl (o_inK g0) (o_inB g0) rfl ?_
  refine go_ldc (pc' := 5) (v := .inl (-2147483648 : Int32)) rfl rfl rfl ?_
  refine go_icmp_eq (pt := 16) (pc' := 8) rfl rfl rfl (fun h5 => ?_) (fun h5 => ?_)
  · replace h := o_t h5 h
    refine go_iload (pc' := 18) rfl rfl rfl ?_
    cases h
    exact go_iret rfl (trivial) ⟨rfl, rfl, rfl, rfl, rfl⟩
  · replace h := o_f h5 h
    refine go_aload_n (pc' := 9) rfl rfl rfl ?_
    refine go_iload_n (pc' := 10) rfl rfl rfl ?_
    obtain ⟨g1, h⟩ := o_gE h
    refine go_iaload (pc' := 11) rfl (o_inK g1) (o_inB g1) rfl ?_
    refine go_ldc (pc' := 13) (v := .inl (-2147483648 : Int32)) rfl rfl rfl ?_
    refine go_icmp_ne (pt := 19) (pc' := 16) rfl rfl rfl (fun h13 => ?_) (fun h13 => ?_)
    · replace h := o_f h13 h
      refine go_iload (pc' := 21) rfl rfl rfl ?_
      refine go_istore (pc' := 23) (lo' := [some (.inr (.inr th)), some (.inr (.inr a0)), some (.inl a1), some (.inl a2), some (.inl a3), some (.inl a4), some (.inl a3), none, none]) rfl rfl rfl ?_
      refine go_iload_n (pc' := 24) rfl rfl rfl ?_
      refine go_iload_n (pc' := 25) rfl rfl rfl ?_
      refine go_iconst (pc' := 26) (v := (-1 : Int32)) rfl rfl rfl ?_
      refine go_ixor (pc' := 27) rfl rfl ?_
      refine go_iand (pc' := 28) rfl rfl ?_
      obtain ⟨x7_28, ex7_28, h⟩ := o_b1E h
      refine go_ndI ex7_28 ?_
      refine go_istore (pc' := 30) (lo' := [some (.inr (.inr th)), some (.inr (.inr a0)), some (.inl a1), some (.inl a2), some (.inl a3), some (.inl a4), some (.inl a3), some (.inl x7_28), none]) rfl rfl rfl ?_
      refine go_iconst (pc' := 31) (v := (nI 0)) rfl rfl rfl ?_
      refine go_istore (pc' := 33) (lo' := [some (.inr (.inr th)), some (.inr (.inr a0)), some (.inl a1), some (.inl a2), some (.inl a3), some (.inl a4), some (.inl a3), some (.inl x7_28), some (.inl (nI 0))]) rfl rfl rfl ?_
      obtain ⟨q33, hl33, hc33_93⟩ := o_s1E h
      have ex33_93 : ∀ (w6_93 : Int32) (Ix_93 : ai_I) (z8_x93 : Option ai_V), (w6_93, Ix_93) = q33 → ai_Go si_t (2, false, 0, cd_33) (ai_Cl si_t si_ms e) (sp_Q (some (.inl r)) I1 J Rf G) 93 [some (.inr (.inr th)), some (.inr (.inr a0)), some (.inl a1), some (.inl a2), some (.inl a3), some (.inl a4), some (.inl w6_93), some (.inl x7_28), z8_x93] [] (0, 0) Ix_93 J Rf G := by
        intro w6_93 Ix_93 z8_x93 hq
        have h : m_33_x33_93 w6_93 Ix_93 = some (r, I1) := hc33_93 (w6_93, Ix_93) hq.symm
        unfold m_33_x33_93 at h
        refine go_iload (pc' := 95) rfl rfl rfl ?_
        cases h
        exact go_iret rfl (trivial) ⟨rfl, rfl, rfl, rfl, rfl⟩
      have lo33 : ∀ n s, lp (fun s => m_33_b33 th a0 a1 a2 a4 G x7_28 s.1 s.2.1 s.2.2) n s = some q33 → (fun s => ai_Go si_t (2, false, 0, cd_33) (ai_Cl si_t si_ms e) (sp_Q (some (.inl r)) I1 J Rf G) 33 [some (.inr (.inr th)), some (.inr (.inr a0)), some (.inl a1), some (.inl a2), some (.inl a3), some (.inl a4), some (.inl s.1), some (.inl x7_28), some (.inl s.2.1)] [] (0, 0) s.2.2 J Rf G) s := lp_go (fun s x33 hx hk33 => by
        obtain ⟨v6_33, v8_33, I_33⟩ := s
        have h : m_33_b33 th a0 a1 a2 a4 G x7_28 v6_33 v8_33 I_33 = some x33 := hx
        clear hx
        show ai_Go si_t (2, false, 0, cd_33) (ai_Cl si_t si_ms e) (sp_Q (some (.inl r)) I1 J Rf G) 33 [some (.inr (.inr th)), some (.inr (.inr a0)), some (.inl a1), some (.inl a2), some (.inl a3), some (.inl a4), some (.inl v6_33), some (.inl x7_28), some (.inl v8_33)] [] (0, 0) I_33 J Rf G
        unfold m_33_b33 at h
        refine go_iload (pc' := 35) rfl rfl rfl ?_
        refine go_bipush (pc' := 37) (v := (nI 8)) rfl rfl rfl ?_
        refine go_icmp_ge (pt := 93) (pc' := 40) rfl rfl rfl (fun h37 => ?_) (fun h37 => ?_)
        · replace h := o_t h37 h
          exact ex33_93 _ _ (some (.inl v8_33)) (lp_exitE h hk33)
        · replace h := o_f h37 h
          refine go_iload (pc' := 42) rfl rfl rfl ?_
          refine go_iload (pc' := 44) rfl rfl rfl ?_
          refine go_icmp_gt (pt := 93) (pc' := 47) rfl rfl rfl (fun h44 => ?_) (fun h44 => ?_)
          · replace h := o_t h44 h
            exact ex33_93 _ _ (some (.inl v8_33)) (lp_exitE h hk33)
          · replace h := o_f h44 h
            refine go_iload (pc' := 49) rfl rfl rfl ?_
            refine go_iload (pc' := 51) rfl rfl rfl ?_
            obtain ⟨r_51, q_51, h⟩ := o_b1E h
            refine go_callS (pc' := 54) (B' := (0, 0)) (st' := [.inl r_51]) rfl rfl (Or.inl (by decide)) rfl rfl trivial (md_183 (by omega) q_51) rfl rfl rfl ?_
            refine go_if_eq (pt := 87) (pc' := 57) rfl rfl rfl (fun h54 => ?_) (fun h54 => ?_)
            · replace h := o_t h54 h
              obtain ⟨x8_87, ex8_87, h⟩ := o_b1E h
              refine go_iincE (pc' := 90) rfl rfl (y := (nI 1)) rfl ex8_87 (lo' := [some (.inr (.inr th)), some (.inr (.inr a0)), some (.inl a1), some (.inl a2), some (.inl a3), some (.inl a4), some (.inl v6_33), some (.inl x7_28), some (.inl x8_87)]) rfl rfl ?_
              refine go_goto (pc' := 33) rfl rfl ?_
              exact (lp_backE h hk33 :)
            · replace h := o_f h54 h
              refine go_aload_n (pc' := 58) rfl rfl rfl ?_
              refine go_iload_n (pc' := 59) rfl rfl rfl ?_
              refine go_iload_n (pc' := 60) rfl rfl rfl ?_
              refine go_iload (pc' := 62) rfl rfl rfl ?_
              obtain ⟨r_62, q_62, h⟩ := o_b1E h
              refine go_callS (pc' := 65) (B' := (0, 0)) (st' := [.inl r_62]) rfl rfl (Or.inl (by decide)) rfl rfl trivial (md_34 (by omega) q_62) rfl rfl rfl ?_
              refine go_if_ge (pt := 87) (pc' := 68) rfl rfl rfl (fun h65 => ?_) (fun h65 => ?_)
              · replace h := o_t h65 h
                obtain ⟨x8_87, ex8_87, h⟩ := o_b1E h
                refine go_iincE (pc' := 90) rfl rfl (y := (nI 1)) rfl ex8_87 (lo' := [some (.inr (.inr th)), some (.inr (.inr a0)), some (.inl a1), some (.inl a2), some (.inl a3), some (.inl a4), some (.inl v6_33), some (.inl x7_28), some (.inl x8_87)]) rfl rfl ?_
                refine go_goto (pc' := 33) rfl rfl ?_
                exact (lp_backE h hk33 :)
              · replace h := o_f h65 h
                refine go_aload_n (pc' := 69) rfl rfl rfl ?_
                refine go_iload_n (pc' := 70) rfl rfl rfl ?_
                obtain ⟨I_70, eI_70, h⟩ := o_b1E h
                refine go_putI (pc' := 73) rfl rfl (fun h => by cases h) hth rfl ?_
                refine go_ndMI eI_70 ?_
                refine go_aload_n (pc' := 74) rfl rfl rfl ?_
                refine go_iload_n (pc' := 75) rfl rfl rfl ?_
                obtain ⟨I_75, eI_75, h⟩ := o_b1E h
                refine go_putI (pc' := 78) rfl rfl (fun h => by cases h) hth rfl ?_
                refine go_ndMI eI_75 ?_
                refine go_aload_n (pc' := 79) rfl rfl rfl ?_
                refine go_iload (pc' := 81) rfl rfl rfl ?_
                obtain ⟨I_81, eI_81, h⟩ := o_b1E h
                refine go_putI (pc' := 84) rfl rfl (fun h => by cases h) hth rfl ?_
                refine go_ndMI eI_81 ?_
                obtain ⟨x6_84, ex6_84, h⟩ := o_b1E h
                refine go_iincE (pc' := 87) rfl rfl (y := (nI 1)) rfl ex6_84 (lo' := [some (.inr (.inr th)), some (.inr (.inr a0)), some (.inl a1), some (.inl a2), some (.inl a3), some (.inl a4), some (.inl x6_84), some (.inl x7_28), some (.inl v8_33)]) rfl rfl ?_
                obtain ⟨x8_87, ex8_87, h⟩ := o_b1E h
                refine go_iincE (pc' := 90) rfl rfl (y := (nI 1)) rfl ex8_87 (lo' := [some (.inr (.inr th)), some (.inr (.inr a0)), some (.inl a1), some (.inl a2), some (.inl a3), some (.inl a4), some (.inl x6_84), some (.inl x7_28), some (.inl x8_87)]) rfl rfl ?_
                refine go_goto (pc' := 33) rfl rfl ?_
                exact (lp_backE h hk33 :))
      exact lo33 _ (a3, (nI 0), I) hl33 
    · replace h := o_t (Decidable.of_not_not h13) h
      refine go_iload (pc' := 18) rfl rfl rfl ?_
      cases h
      exact go_iret rfl (trivial) ⟨rfl, rfl, rfl, rfl, rfl⟩
def m_32_x6_57 (w4_57 : Int32) (Ix_57 : ai_I) : Option (Int32 × ai_I) :=
  some (w4_57, Ix_57)
def m_32_x6_72 (w4_72 : Int32) (Ix_72 : ai_I) : Option (Int32 × ai_I) :=
  some (w4_72, Ix_72)
def m_32_x18_57 (w4_57 : Int32) (Ix_57 : ai_I) : Option ((Int32 × Int32 × ai_I) ⊕ ((Int32 × ai_I) ⊕ (Int32 × ai_I))) :=
  some (Sum.inr (Sum.inl (w4_57, Ix_57)))
def m_32_x18_66 (v5_6 : Int32) (w4_66 : Int32) (Ix_66 : ai_I) : Option ((Int32 × Int32 × ai_I) ⊕ ((Int32 × ai_I) ⊕ (Int32 × ai_I))) :=
  o_b1 (some (v5_6 + (nI 1))) (fun x5_66 => some (Sum.inl (w4_66, x5_66, Ix_66)))
def m_32_b18 (th : Nat) (a0 : Nat) (a1 : Nat) (a2 : Int32) (Rf : ai_R) (G : ai_G) (v5_6 : Int32) (v4_18 : Int32) (v6_18 : Int32) (I_18 : ai_I) : Option ((Int32 × Int32 × ai_I) ⊕ ((Int32 × ai_I) ⊕ (Int32 × ai_I))) :=
  if (I_18 a0 2) ≤ v6_18 then (some (Sum.inr (Sum.inr (v4_18, I_18)))) else (o_g (o_in G 13 (Rf a0 5) v5_6) (o_g (o_in G 13 (Rf a0 5) v6_18) (o_b2 (m_33 th a1 (I_18 (Rf a0 5) v5_6.toNatClampNeg) (I_18 (Rf a0 5) v6_18.toNatClampNeg) v4_18 a2 I_18 G) (fun r_46 I_46 => if r_46 ≤ a2 then (o_b1 (some (v6_18 + (nI 1))) (fun x6_60 => some (Sum.inl (r_46, x6_60, I_46)))) else (some (Sum.inr (Sum.inl (r_46, I_46))))))))
def m_32_b6 (th : Nat) (a0 : Nat) (a1 : Nat) (a2 : Int32) (Rf : ai_R) (G : ai_G) (v4_6 : Int32) (v5_6 : Int32) (I_6 : ai_I) : Option ((Int32 × Int32 × ai_I) ⊕ ((Int32 × ai_I) ⊕ (Int32 × ai_I))) :=
  o_g (o_kd G a0 8) (if (I_6 a0 2) ≤ v5_6 then (some (Sum.inr (Sum.inr (v4_6, I_6)))) else (o_s2 (lp (fun s => m_32_b18 th a0 a1 a2 Rf G v5_6 s.1 s.2.1 s.2.2) o_N (v4_6, (nI 0), I_6)) (fun t => m_32_x18_57 t.1 t.2) (fun t => m_32_x18_66 v5_6 t.1 t.2)))
/-- PricedBases$Law.meets(LPricedBases$Valuation;[II)I -/
def m_32 (th : Nat) (a0 : Nat) (a1 : Nat) (a2 : Int32) (I : ai_I) (Rf : ai_R) (G : ai_G) : Option (Int32 × ai_I) :=
  o_s2 (lp (fun s => m_32_b6 th a0 a1 a2 Rf G s.1 s.2.1 s.2.2) o_N ((nI 0), (nI 0), I)) (fun t => m_32_x6_57 t.1 t.2) (fun t => m_32_x6_72 t.1 t.2)
theorem md_32 {d : Nat} {I : ai_I} {J : ai_J} {Rf : ai_R} {G : ai_G} {th : Nat} {a0 : Nat} {a1 : Nat} {a2 : Int32} {r : Int32} {I1 : ai_I} (hd : 4 ≤ d) (hth : G.1 th = 2) (h : m_32 th a0 a1 a2 I Rf G = some (r, I1)) : ai_Cl si_t si_ms d 32 [.inr (.inr th), .inr (.inr a0), .inr (.inr a1), .inl a2] I J Rf G (some (.inl r)) I1 J Rf G := by
  obtain ⟨e, rfl⟩ : ∃ e, d = e + 1 := ⟨d - 1, by omega⟩
  unfold m_32 at h
  refine sp_in (lo := [some (.inr (.inr th)), some (.inr (.inr a0)), some (.inr (.inr a1)), some (.inl a2), none, none, none]) (B := (0, 0)) rfl (Nat.le_of_ble_eq_true rfl) rfl rfl ?_
  refine go_iconst (pc' := 1) (v := (nI 0)) rfl rfl rfl ?_
  refine go_istore (pc' := 3) (lo' := [some (.inr (.inr th)), some (.inr (.inr a0)), some (.inr (.inr a1)), some (.inl a2), some (.inl (nI 0)), none, none]) rfl rfl rfl ?_
  refine go_iconst (pc' := 4) (v := (nI 0)) rfl rfl rfl ?_
  refine go_istore (pc' := 6) (lo' := [some (.inr (.inr th)), some (.inr (.inr a0)), some (.inr (.inr a1)), some (.inl a2), some (.inl (nI 0)), some (.inl (nI 0)), none]) rfl rfl rfl ?_
  obtain ⟨q6, hl6, hc6_57, hc6_72⟩ := o_s2E h
  have ex6_57 : ∀ (w4_57 : Int32) (Ix_57 : ai_I) (z5_x57 : Option ai_V) (z6_x57 : Option ai_V), (Sum.inl (w4_57, Ix_57)) = q6 → ai_Go si_t (2, false, 0, cd_32) (ai_Cl si_t si_ms e) (sp_Q (some (.inl r)) I1 J Rf G) 57 [some (.inr (.inr th)), some (.inr (.inr a0)), some (.inr (.inr a1)), some (.inl a2), some (.inl w4_57), z5_x57, z6_x57] [] (0, 0) Ix_57 J Rf G := by
    intro w4_57 Ix_57 z5_x57 z6_x57 hq
    have h : m_32_x6_57 w4_57 Ix_57 = some (r, I1) := hc6_57 (w4_57, Ix_57) hq.symm
    unfold m_32_x6_57 at h
    refine go_iload (pc' := 59) rfl rfl rfl ?_
    cases h
    exact go_iret rfl (trivial) ⟨rfl, rfl, rfl, rfl, rfl⟩
  have ex6_72 : ∀ (w4_72 : Int32) (Ix_72 : ai_I) (z5_x72 : Option ai_V) (z6_x72 : Option ai_V), (Sum.inr (w4_72, Ix_72)) = q6 → ai_Go si_t (2, false, 0, cd_32) (ai_Cl si_t si_ms e) (sp_Q (some (.inl r)) I1 J Rf G) 72 [some (.inr (.inr th)), some (.inr (.inr a0)), some (.inr (.inr a1)), some (.inl a2), some (.inl w4_72), z5_x72, z6_x72] [] (0, 0) Ix_72 J Rf G := by
    intro w4_72 Ix_72 z5_x72 z6_x72 hq
    have h : m_32_x6_72 w4_72 Ix_72 = some (r, I1) := hc6_72 (w4_72, Ix_72) hq.symm
    unfold m_32_x6_72 at h
    refine go_iload (pc' := 74) rfl rfl rfl ?_
    cases h
    exact go_iret rfl (trivial) ⟨rfl, rfl, rfl, rfl, rfl⟩
  have lo6 : ∀ n s, lp (fun s => m_32_b6 th a0 a1 a2 Rf G s.1 s.2.1 s.2.2) n s = some q6 → (fun s => ∀ (z6_6 : Option ai_V), ai_Go si_t (2, false, 0, cd_32) (ai_Cl si_t si_ms e) (sp_Q (some (.inl r)) I1 J Rf G) 6 [some (.inr (.inr th)), some (.inr (.inr a0)), some (.inr (.inr a1)), some (.inl a2), some (.inl s.1), some (.inl s.2.1), z6_6] [] (0, 0) s.2.2 J Rf G) s := lp_go (fun s x6 hx hk6 => by
    obtain ⟨v4_6, v5_6, I_6⟩ := s
    intro z6_6
    have h : m_32_b6 th a0 a1 a2 Rf G v4_6 v5_6 I_6 = some x6 := hx
    clear hx
    show ai_Go si_t (2, false, 0, cd_32) (ai_Cl si_t si_ms e) (sp_Q (some (.inl r)) I1 J Rf G) 6 [some (.inr (.inr th)), some (.inr (.inr a0)), some (.inr (.inr a1)), some (.inl a2), some (.inl v4_6), some (.inl v5_6), z6_6] [] (0, 0) I_6 J Rf G
    unfold m_32_b6 at h
    refine go_iload (pc' := 8) rfl rfl rfl ?_
    refine go_aload_n (pc' := 9) rfl rfl rfl ?_
    obtain ⟨g0, h⟩ := o_gE h
    refine go_getI (pc' := 12) rfl rfl (by decide) (by decide) (o_kdE g0) rfl ?_
    refine go_icmp_ge (pt := 72) (pc' := 15) rfl rfl rfl (fun h12 => ?_) (fun h12 => ?_)
    · replace h := o_t h12 h
      exact ex6_72 _ _ (some (.inl v5_6)) z6_6 (lp_exitE h hk6)
    · replace h := o_f h12 h
      refine go_iconst (pc' := 16) (v := (nI 0)) rfl rfl rfl ?_
      refine go_istore (pc' := 18) (lo' := [some (.inr (.inr th)), some (.inr (.inr a0)), some (.inr (.inr a1)), some (.inl a2), some (.inl v4_6), some (.inl v5_6), some (.inl (nI 0))]) rfl rfl rfl ?_
      obtain ⟨q18, hl18, hc18_57, hc18_66⟩ := o_s2E h
      have ex18_57 : ∀ (w4_57 : Int32) (Ix_57 : ai_I) (z6_x57 : Option ai_V), (Sum.inl (w4_57, Ix_57)) = q18 → ai_Go si_t (2, false, 0, cd_32) (ai_Cl si_t si_ms e) (sp_Q (some (.inl r)) I1 J Rf G) 57 [some (.inr (.inr th)), some (.inr (.inr a0)), some (.inr (.inr a1)), some (.inl a2), some (.inl w4_57), some (.inl v5_6), z6_x57] [] (0, 0) Ix_57 J Rf G := by
        intro w4_57 Ix_57 z6_x57 hq
        have h : m_32_x18_57 w4_57 Ix_57 = some x6 := hc18_57 (w4_57, Ix_57) hq.symm
        unfold m_32_x18_57 at h
        exact ex6_57 _ _ (some (.inl v5_6)) z6_x57 (lp_exitE h hk6)
      have ex18_66 : ∀ (w4_66 : Int32) (Ix_66 : ai_I) (z6_x66 : Option ai_V), (Sum.inr (w4_66, Ix_66)) = q18 → ai_Go si_t (2, false, 0, cd_32) (ai_Cl si_t si_ms e) (sp_Q (some (.inl r)) I1 J Rf G) 66 [some (.inr (.inr th)), some (.inr (.inr a0)), some (.inr (.inr a1)), some (.inl a2), some (.inl w4_66), some (.inl v5_6), z6_x66] [] (0, 0) Ix_66 J Rf G := by
        intro w4_66 Ix_66 z6_x66 hq
        have h : m_32_x18_66 v5_6 w4_66 Ix_66 = some x6 := hc18_66 (w4_66, Ix_66) hq.symm
        unfold m_32_x18_66 at h
        obtain ⟨x5_66, ex5_66, h⟩ := o_b1E h
        refine go_iincE (pc' := 69) rfl rfl (y := (nI 1)) rfl ex5_66 (lo' := [some (.inr (.inr th)), some (.inr (.inr a0)), some (.inr (.inr a1)), some (.inl a2), some (.inl w4_66), some (.inl x5_66), z6_x66]) rfl rfl ?_
        refine go_goto (pc' := 6) rfl rfl ?_
        exact (lp_backE h hk6 z6_x66 :)
      have lo18 : ∀ n s, lp (fun s => m_32_b18 th a0 a1 a2 Rf G v5_6 s.1 s.2.1 s.2.2) n s = some q18 → (fun s => ai_Go si_t (2, false, 0, cd_32) (ai_Cl si_t si_ms e) (sp_Q (some (.inl r)) I1 J Rf G) 18 [some (.inr (.inr th)), some (.inr (.inr a0)), some (.inr (.inr a1)), some (.inl a2), some (.inl s.1), some (.inl v5_6), some (.inl s.2.1)] [] (0, 0) s.2.2 J Rf G) s := lp_go (fun s x18 hx hk18 => by
        obtain ⟨v4_18, v6_18, I_18⟩ := s
        have h : m_32_b18 th a0 a1 a2 Rf G v5_6 v4_18 v6_18 I_18 = some x18 := hx
        clear hx
        show ai_Go si_t (2, false, 0, cd_32) (ai_Cl si_t si_ms e) (sp_Q (some (.inl r)) I1 J Rf G) 18 [some (.inr (.inr th)), some (.inr (.inr a0)), some (.inr (.inr a1)), some (.inl a2), some (.inl v4_18), some (.inl v5_6), some (.inl v6_18)] [] (0, 0) I_18 J Rf G
        unfold m_32_b18 at h
        refine go_iload (pc' := 20) rfl rfl rfl ?_
        refine go_aload_n (pc' := 21) rfl rfl rfl ?_
        refine go_getI (pc' := 24) rfl rfl (by decide) (by decide) (o_kdE g0) rfl ?_
        refine go_icmp_ge (pt := 66) (pc' := 27) rfl rfl rfl (fun h24 => ?_) (fun h24 => ?_)
        · replace h := o_t h24 h
          exact ex18_66 _ _ (some (.inl v6_18)) (lp_exitE h hk18)
        · replace h := o_f h24 h
          refine go_aload_n (pc' := 28) rfl rfl rfl ?_
          refine go_aload_n (pc' := 29) rfl rfl rfl ?_
          refine go_aload_n (pc' := 30) rfl rfl rfl ?_
          refine go_getR (pc' := 33) rfl rfl (o_kdE g0) rfl ?_
          refine go_iload (pc' := 35) rfl rfl rfl ?_
          obtain ⟨g1, h⟩ := o_gE h
          refine go_iaload (pc' := 36) rfl (o_inK g1) (o_inB g1) rfl ?_
          refine go_aload_n (pc' := 37) rfl rfl rfl ?_
          refine go_getR (pc' := 40) rfl rfl (o_kdE g0) rfl ?_
          refine go_iload (pc' := 42) rfl rfl rfl ?_
          obtain ⟨g2, h⟩ := o_gE h
          refine go_iaload (pc' := 43) rfl (o_inK g2) (o_inB g2) rfl ?_
          refine go_iload (pc' := 45) rfl rfl rfl ?_
          refine go_iload_n (pc' := 46) rfl rfl rfl ?_
          obtain ⟨r_46, I_46, q_46, h⟩ := o_b2E h
          refine go_callV (pc' := 49) (B' := (0, 0)) (st' := [.inl r_46]) rfl rfl (Or.inl (by decide)) rfl rfl hth (md_33 (by omega) hth q_46) rfl rfl rfl ?_
          refine go_istore (pc' := 51) (lo' := [some (.inr (.inr th)), some (.inr (.inr a0)), some (.inr (.inr a1)), some (.inl a2), some (.inl r_46), some (.inl v5_6), some (.inl v6_18)]) rfl rfl rfl ?_
          refine go_iload (pc' := 53) rfl rfl rfl ?_
          refine go_iload_n (pc' := 54) rfl rfl rfl ?_
          refine go_icmp_le (pt := 60) (pc' := 57) rfl rfl rfl (fun h54 => ?_) (fun h54 => ?_)
          · replace h := o_t h54 h
            obtain ⟨x6_60, ex6_60, h⟩ := o_b1E h
            refine go_iincE (pc' := 63) rfl rfl (y := (nI 1)) rfl ex6_60 (lo' := [some (.inr (.inr th)), some (.inr (.inr a0)), some (.inr (.inr a1)), some (.inl a2), some (.inl r_46), some (.inl v5_6), some (.inl x6_60)]) rfl rfl ?_
            refine go_goto (pc' := 18) rfl rfl ?_
            exact (lp_backE h hk18 :)
          · replace h := o_f h54 h
            exact ex18_57 _ _ (some (.inl v6_18)) (lp_exitE h hk18))
      exact lo18 _ (v4_6, (nI 0), I_6) hl18 )
  exact lo6 _ ((nI 0), (nI 0), I) hl6 none
def m_35_x11_37 (th : Nat) (Rf : ai_R) (Ix_37 : ai_I) : Option (Nat × ai_I) :=
  some (Rf th 3, Ix_37)
def m_35_b11 (th : Nat) (a0 : Nat) (Rf : ai_R) (G : ai_G) (v2_11 : Int32) (I_11 : ai_I) : Option ((Int32 × ai_I) ⊕ ai_I) :=
  o_g (o_kd G a0 8) (if (I_11 a0 2) ≤ v2_11 then (some (Sum.inr I_11)) else (o_g (o_in G 13 (Rf a0 5) v2_11) (o_g (o_in G 13 (Rf th 3) (I_11 (Rf a0 5) v2_11.toNatClampNeg)) (o_b1 (some (va_up I_11 (Rf th 3) (va_up (I_11 (Rf th 3)) (I_11 (Rf a0 5) v2_11.toNatClampNeg).toNatClampNeg (nI 0)))) (fun I_30 => o_b1 (some (v2_11 + (nI 1))) (fun x2_31 => some (Sum.inl (x2_31, I_30))))))))
/-- PricedBases$Law.flat(LPricedBases$Valuation;)[I -/
def m_35 (th : Nat) (a0 : Nat) (I : ai_I) (Rf : ai_R) (G : ai_G) : Option (Nat × ai_I) :=
  o_b1 (m_332 (Rf th 3) (-2147483648 : Int32) I G) (fun I_6 => o_s1 (lp (fun s => m_35_b11 th a0 Rf G s.1 s.2) o_N ((nI 0), I_6)) (fun t => m_35_x11_37 th Rf t))
theorem md_35 {d : Nat} {I : ai_I} {J : ai_J} {Rf : ai_R} {G : ai_G} {th : Nat} {a0 : Nat} {r : Nat} {I1 : ai_I} (hd : 2 ≤ d) (hth : G.1 th = 2) (h : m_35 th a0 I Rf G = some (r, I1)) : ai_Cl si_t si_ms d 35 [.inr (.inr th), .inr (.inr a0)] I J Rf G (some (.inr (.inr r))) I1 J Rf G := by
  obtain ⟨e, rfl⟩ : ∃ e, d = e + 1 := ⟨d - 1, by omega⟩
  unfold m_35 at h
  refine sp_in (lo := [some (.inr (.inr th)), some (.inr (.inr a0)), none]) (B := (0, 0)) rfl (Nat.le_of_ble_eq_true rfl) rfl rfl ?_
  refine go_aload_n (pc' := 1) rfl rfl rfl ?_
  refine go_getR (pc' := 4) rfl rfl hth rfl ?_
  refine go_ldc (pc' := 6) (v := .inl (-2147483648 : Int32)) rfl rfl rfl ?_
  obtain ⟨I_6, q_6, h⟩ := o_b1E h
  refine go_callS (pc' := 9) (B' := (0, 0)) (st' := []) rfl rfl (Or.inl (by decide)) rfl rfl trivial (md_332 (by omega) q_6) rfl rfl rfl ?_
  refine go_iconst (pc' := 10) (v := (nI 0)) rfl rfl rfl ?_
  refine go_istore_n (pc' := 11) (lo' := [some (.inr (.inr th)), some (.inr (.inr a0)), some (.inl (nI 0))]) rfl rfl rfl ?_
  obtain ⟨q11, hl11, hc11_37⟩ := o_s1E h
  have ex11_37 : ∀ (Ix_37 : ai_I) (z2_x37 : Option ai_V), Ix_37 = q11 → ai_Go si_t (2, false, 2, cd_35) (ai_Cl si_t si_ms e) (sp_Q (some (.inr (.inr r))) I1 J Rf G) 37 [some (.inr (.inr th)), some (.inr (.inr a0)), z2_x37] [] (0, 0) Ix_37 J Rf G := by
    intro Ix_37 z2_x37 hq
    have h : m_35_x11_37 th Rf Ix_37 = some (r, I1) := hc11_37 Ix_37 hq.symm
    unfold m_35_x11_37 at h
    refine go_aload_n (pc' := 38) rfl rfl rfl ?_
    refine go_getR (pc' := 41) rfl rfl hth rfl ?_
    cases h
    exact go_aret rfl (rfl) ⟨rfl, rfl, rfl, rfl, rfl⟩
  have lo11 : ∀ n s, lp (fun s => m_35_b11 th a0 Rf G s.1 s.2) n s = some q11 → (fun s => ai_Go si_t (2, false, 2, cd_35) (ai_Cl si_t si_ms e) (sp_Q (some (.inr (.inr r))) I1 J Rf G) 11 [some (.inr (.inr th)), some (.inr (.inr a0)), some (.inl s.1)] [] (0, 0) s.2 J Rf G) s := lp_go (fun s x11 hx hk11 => by
    obtain ⟨v2_11, I_11⟩ := s
    have h : m_35_b11 th a0 Rf G v2_11 I_11 = some x11 := hx
    clear hx
    show ai_Go si_t (2, false, 2, cd_35) (ai_Cl si_t si_ms e) (sp_Q (some (.inr (.inr r))) I1 J Rf G) 11 [some (.inr (.inr th)), some (.inr (.inr a0)), some (.inl v2_11)] [] (0, 0) I_11 J Rf G
    unfold m_35_b11 at h
    refine go_iload_n (pc' := 12) rfl rfl rfl ?_
    refine go_aload_n (pc' := 13) rfl rfl rfl ?_
    obtain ⟨g0, h⟩ := o_gE h
    refine go_getI (pc' := 16) rfl rfl (by decide) (by decide) (o_kdE g0) rfl ?_
    refine go_icmp_ge (pt := 37) (pc' := 19) rfl rfl rfl (fun h16 => ?_) (fun h16 => ?_)
    · replace h := o_t h16 h
      exact ex11_37 _ (some (.inl v2_11)) (lp_exitE h hk11)
    · replace h := o_f h16 h
      refine go_aload_n (pc' := 20) rfl rfl rfl ?_
      refine go_getR (pc' := 23) rfl rfl hth rfl ?_
      refine go_aload_n (pc' := 24) rfl rfl rfl ?_
      refine go_getR (pc' := 27) rfl rfl (o_kdE g0) rfl ?_
      refine go_iload_n (pc' := 28) rfl rfl rfl ?_
      obtain ⟨g1, h⟩ := o_gE h
      refine go_iaload (pc' := 29) rfl (o_inK g1) (o_inB g1) rfl ?_
      refine go_iconst (pc' := 30) (v := (nI 0)) rfl rfl rfl ?_
      obtain ⟨g2, h⟩ := o_gE h
      obtain ⟨I_30, eI_30, h⟩ := o_b1E h
      refine go_iastore (pc' := 31) rfl (o_inK g2) (o_inB g2) rfl ?_
      refine go_ndMI eI_30 ?_
      obtain ⟨x2_31, ex2_31, h⟩ := o_b1E h
      refine go_iincE (pc' := 34) rfl rfl (y := (nI 1)) rfl ex2_31 (lo' := [some (.inr (.inr th)), some (.inr (.inr a0)), some (.inl x2_31)]) rfl rfl ?_
      refine go_goto (pc' := 11) rfl rfl ?_
      exact (lp_backE h hk11 :))
  exact lo11 _ ((nI 0), I_6) hl11 
/-- PricedBases$Sums.isGreatest(I)Z -/
def m_105 (th : Nat) (a0 : Int32) (I : ai_I) (Rf : ai_R) (G : ai_G) : Option (Int32) :=
  o_g (o_in G 13 (Rf th 0) a0) (if (I (Rf th 0) a0.toNatClampNeg) = (I th 1) then (some (nI 1)) else (some (nI 0)))
theorem md_105 {d : Nat} {I : ai_I} {J : ai_J} {Rf : ai_R} {G : ai_G} {th : Nat} {a0 : Int32} {r : Int32} (hd : 1 ≤ d) (hth : G.1 th = 7) (h : m_105 th a0 I Rf G = some r) : ai_Cl si_t si_ms d 105 [.inr (.inr th), .inl a0] I J Rf G (some (.inl r)) I J Rf G := by
  obtain ⟨e, rfl⟩ : ∃ e, d = e + 1 := ⟨d - 1, by omega⟩
  unfold m_105 at h
  refine sp_in (lo := [some (.inr (.inr th)), some (.inl a0)]) (B := (0, 0)) rfl (Nat.le_of_ble_eq_true rfl) rfl rfl ?_
  refine go_aload_n (pc' := 1) rfl rfl rfl ?_
  refine go_getR (pc' := 4) rfl rfl hth rfl ?_
  refine go_iload_n (pc' := 5) rfl rfl rfl ?_
  obtain ⟨g0, h⟩ := o_gE h
  refine go_iaload (pc' := 6) rfl (o_inK g0) (o_inB g0) rfl ?_
  refine go_aload_n (pc' := 7) rfl rfl rfl ?_
  refine go_getI (pc' := 10) rfl rfl (by decide) (by decide) hth rfl ?_
  refine go_icmp_ne (pt := 17) (pc' := 13) rfl rfl rfl (fun h10 => ?_) (fun h10 => ?_)
  · replace h := o_f h10 h
    refine go_iconst (pc' := 18) (v := (nI 0)) rfl rfl rfl ?_
    cases h
    exact go_iret rfl (rfl) ⟨rfl, rfl, rfl, rfl, rfl⟩
  · replace h := o_t (Decidable.of_not_not h10) h
    refine go_iconst (pc' := 14) (v := (nI 1)) rfl rfl rfl ?_
    refine go_goto (pc' := 18) rfl rfl ?_
    cases h
    exact go_iret rfl (rfl) ⟨rfl, rfl, rfl, rfl, rfl⟩
def m_36_x11_50 (th : Nat) (Rf : ai_R) (Ix_50 : ai_I) : Option (Nat × ai_I) :=
  some (Rf th 3, Ix_50)
def m_36_b11 (th : Nat) (a0 : Nat) (a1 : Nat) (Rf : ai_R) (G : ai_G) (v3_11 : Int32) (I_11 : ai_I) : Option ((Int32 × ai_I) ⊕ ai_I) :=
  o_g (o_kd G a0 8) (if (I_11 a0 2) ≤ v3_11 then (some (Sum.inr I_11)) else (o_g (o_in G 13 (Rf a0 5) v3_11) (o_g (o_kd G a1 7) (o_b1 (m_105 a1 (I_11 (Rf a0 5) v3_11.toNatClampNeg) I_11 Rf G) (fun r_26 => if r_26 = 0 then (o_b1 (some (v3_11 + (nI 1))) (fun x3_44 => some (Sum.inl (x3_44, I_11)))) else (o_g (o_in G 13 (Rf a0 5) v3_11) (o_g (o_in G 13 (Rf th 3) (I_11 (Rf a0 5) v3_11.toNatClampNeg)) (o_b1 (some (va_up I_11 (Rf th 3) (va_up (I_11 (Rf th 3)) (I_11 (Rf a0 5) v3_11.toNatClampNeg).toNatClampNeg (nI 0)))) (fun I_43 => o_b1 (some (v3_11 + (nI 1))) (fun x3_44 => some (Sum.inl (x3_44, I_43))))))))))))
/-- PricedBases$Law.flatGreatest(LPricedBases$Valuation;LPricedBases$Sums;)[I -/
def m_36 (th : Nat) (a0 : Nat) (a1 : Nat) (I : ai_I) (Rf : ai_R) (G : ai_G) : Option (Nat × ai_I) :=
  o_b1 (m_332 (Rf th 3) (-2147483648 : Int32) I G) (fun I_6 => o_s1 (lp (fun s => m_36_b11 th a0 a1 Rf G s.1 s.2) o_N ((nI 0), I_6)) (fun t => m_36_x11_50 th Rf t))
theorem md_36 {d : Nat} {I : ai_I} {J : ai_J} {Rf : ai_R} {G : ai_G} {th : Nat} {a0 : Nat} {a1 : Nat} {r : Nat} {I1 : ai_I} (hd : 2 ≤ d) (hth : G.1 th = 2) (h : m_36 th a0 a1 I Rf G = some (r, I1)) : ai_Cl si_t si_ms d 36 [.inr (.inr th), .inr (.inr a0), .inr (.inr a1)] I J Rf G (some (.inr (.inr r))) I1 J Rf G := by
  obtain ⟨e, rfl⟩ : ∃ e, d = e + 1 := ⟨d - 1, by omega⟩
  unfold m_36 at h
  refine sp_in (lo := [some (.inr (.inr th)), some (.inr (.inr a0)), some (.inr (.inr a1)), none]) (B := (0, 0)) rfl (Nat.le_of_ble_eq_true rfl) rfl rfl ?_
  refine go_aload_n (pc' := 1) rfl rfl rfl ?_
  refine go_getR (pc' := 4) rfl rfl hth rfl ?_
  refine go_ldc (pc' := 6) (v := .inl (-2147483648 : Int32)) rfl rfl rfl ?_
  obtain ⟨I_6, q_6, h⟩ := o_b1E h
  refine go_callS (pc' := 9) (B' := (0, 0)) (st' := []) rfl rfl (Or.inl (by decide)) rfl rfl trivial (md_332 (by omega) q_6) rfl rfl rfl ?_
  refine go_iconst (pc' := 10) (v := (nI 0)) rfl rfl rfl ?_
  refine go_istore_n (pc' := 11) (lo' := [some (.inr (.inr th)), some (.inr (.inr a0)), some (.inr (.inr a1)), some (.inl (nI 0))]) rfl rfl rfl ?_
  obtain ⟨q11, hl11, hc11_50⟩ := o_s1E h
  have ex11_50 : ∀ (Ix_50 : ai_I) (z3_x50 : Option ai_V), Ix_50 = q11 → ai_Go si_t (2, false, 2, cd_36) (ai_Cl si_t si_ms e) (sp_Q (some (.inr (.inr r))) I1 J Rf G) 50 [some (.inr (.inr th)), some (.inr (.inr a0)), some (.inr (.inr a1)), z3_x50] [] (0, 0) Ix_50 J Rf G := by
    intro Ix_50 z3_x50 hq
    have h : m_36_x11_50 th Rf Ix_50 = some (r, I1) := hc11_50 Ix_50 hq.symm
    unfold m_36_x11_50 at h
    refine go_aload_n (pc' := 51) rfl rfl rfl ?_
    refine go_getR (pc' := 54) rfl rfl hth rfl ?_
    cases h
    exact go_aret rfl (rfl) ⟨rfl, rfl, rfl, rfl, rfl⟩
  have lo11 : ∀ n s, lp (fun s => m_36_b11 th a0 a1 Rf G s.1 s.2) n s = some q11 → (fun s => ai_Go si_t (2, false, 2, cd_36) (ai_Cl si_t si_ms e) (sp_Q (some (.inr (.inr r))) I1 J Rf G) 11 [some (.inr (.inr th)), some (.inr (.inr a0)), some (.inr (.inr a1)), some (.inl s.1)] [] (0, 0) s.2 J Rf G) s := lp_go (fun s x11 hx hk11 => by
    obtain ⟨v3_11, I_11⟩ := s
    have h : m_36_b11 th a0 a1 Rf G v3_11 I_11 = some x11 := hx
    clear hx
    show ai_Go si_t (2, false, 2, cd_36) (ai_Cl si_t si_ms e) (sp_Q (some (.inr (.inr r))) I1 J Rf G) 11 [some (.inr (.inr th)), some (.inr (.inr a0)), some (.inr (.inr a1)), some (.inl v3_11)] [] (0, 0) I_11 J Rf G
    unfold m_36_b11 at h
    refine go_iload_n (pc' := 12) rfl rfl rfl ?_
    refine go_aload_n (pc' := 13) rfl rfl rfl ?_
    obtain ⟨g0, h⟩ := o_gE h
    refine go_getI (pc' := 16) rfl rfl (by decide) (by decide) (o_kdE g0) rfl ?_
    refine go_icmp_ge (pt := 50) (pc' := 19) rfl rfl rfl (fun h16 => ?_) (fun h16 => ?_)
    · replace h := o_t h16 h
      exact ex11_50 _ (some (.inl v3_11)) (lp_exitE h hk11)
    · replace h := o_f h16 h
      refine go_aload_n (pc' := 20) rfl rfl rfl ?_
      refine go_aload_n (pc' := 21) rfl rfl rfl ?_
      refine go_getR (pc' := 24) rfl rfl (o_kdE g0) rfl ?_
      refine go_iload_n (pc' := 25) rfl rfl rfl ?_
      obtain ⟨g1, h⟩ := o_gE h
      refine go_iaload (pc' := 26) rfl (o_inK g1) (o_inB g1) rfl ?_
      obtain ⟨g2, h⟩ := o_gE h
      obtain ⟨r_26, q_26, h⟩ := o_b1E h
      refine go_callV (pc' := 29) (B' := (0, 0)) (st' := [.inl r_26]) rfl rfl (Or.inl (by decide)) rfl rfl (o_kdE g2) (md_105 (by omega) (o_kdE g2) q_26) rfl rfl rfl ?_
      refine go_if_eq (pt := 44) (pc' := 32) rfl rfl rfl (fun h29 => ?_) (fun h29 => ?_)
      · replace h := o_t h29 h
        obtain ⟨x3_44, ex3_44, h⟩ := o_b1E h
        refine go_iincE (pc' := 47) rfl rfl (y := (nI 1)) rfl ex3_44 (lo' := [some (.inr (.inr th)), some (.inr (.inr a0)), some (.inr (.inr a1)), some (.inl x3_44)]) rfl rfl ?_
        refine go_goto (pc' := 11) rfl rfl ?_
        exact (lp_backE h hk11 :)
      · replace h := o_f h29 h
        refine go_aload_n (pc' := 33) rfl rfl rfl ?_
        refine go_getR (pc' := 36) rfl rfl hth rfl ?_
        refine go_aload_n (pc' := 37) rfl rfl rfl ?_
        refine go_getR (pc' := 40) rfl rfl (o_kdE g0) rfl ?_
        refine go_iload_n (pc' := 41) rfl rfl rfl ?_
        obtain ⟨g3, h⟩ := o_gE h
        refine go_iaload (pc' := 42) rfl (o_inK g3) (o_inB g3) rfl ?_
        refine go_iconst (pc' := 43) (v := (nI 0)) rfl rfl rfl ?_
        obtain ⟨g4, h⟩ := o_gE h
        obtain ⟨I_43, eI_43, h⟩ := o_b1E h
        refine go_iastore (pc' := 44) rfl (o_inK g4) (o_inB g4) rfl ?_
        refine go_ndMI eI_43 ?_
        obtain ⟨x3_44, ex3_44, h⟩ := o_b1E h
        refine go_iincE (pc' := 47) rfl rfl (y := (nI 1)) rfl ex3_44 (lo' := [some (.inr (.inr th)), some (.inr (.inr a0)), some (.inr (.inr a1)), some (.inl x3_44)]) rfl rfl ?_
        refine go_goto (pc' := 11) rfl rfl ?_
        exact (lp_backE h hk11 :))
  exact lo11 _ ((nI 0), I_6) hl11 
/-- PricedBases$Valuation.<init>()V -/
def m_111 (th : Nat) (I : ai_I) (Rf : ai_R) (G : ai_G) : Option (ai_I × ai_R × ai_G) :=
  o_g (o_nn th) (o_g (o_lt9 G) (o_b1 (some (va_up I (G.2.2 + 1) (fun _ => 0))) (fun I_8 => o_b1 (some (va_up G.1 (G.2.2 + 1) 13, va_up G.2.1 (G.2.2 + 1) 256, G.2.2 + 1)) (fun G_8 => o_b1 (some (G.2.2 + 1)) (fun n_8 => o_g (o_kd G_8 th 8) (o_b1 (some (va_up Rf th (va_up (Rf th) 3 n_8))) (fun R_10 => o_g (o_lt9 G_8) (o_b1 (some (va_up I_8 (G_8.2.2 + 1) (fun _ => 0))) (fun I_17 => o_b1 (some (va_up G_8.1 (G_8.2.2 + 1) 13, va_up G_8.2.1 (G_8.2.2 + 1) 256, G_8.2.2 + 1)) (fun G_17 => o_b1 (some (G_8.2.2 + 1)) (fun n_17 => o_g (o_kd G_17 th 8) (o_b1 (some (va_up R_10 th (va_up (R_10 th) 4 n_17))) (fun R_19 => o_g (o_lt9 G_17) (o_b1 (some (va_up I_17 (G_17.2.2 + 1) (fun _ => 0))) (fun I_25 => o_b1 (some (va_up G_17.1 (G_17.2.2 + 1) 13, va_up G_17.2.1 (G_17.2.2 + 1) 70, G_17.2.2 + 1)) (fun G_25 => o_b1 (some (G_17.2.2 + 1)) (fun n_25 => o_g (o_kd G_25 th 8) (o_b1 (some (va_up R_19 th (va_up (R_19 th) 5 n_25))) (fun R_27 => some (I_25, R_27, G_25))))))))))))))))))))
theorem md_111 {d : Nat} {I : ai_I} {J : ai_J} {Rf : ai_R} {G : ai_G} {th : Nat} {I1 : ai_I} {R1 : ai_R} {G1 : ai_G} (hd : 1 ≤ d) (hth : G.1 th = 8) (h : m_111 th I Rf G = some (I1, R1, G1)) : ai_Cl si_t si_ms d 111 [.inr (.inr th)] I J Rf G none I1 J R1 G1 := by
  obtain ⟨e, rfl⟩ : ∃ e, d = e + 1 := ⟨d - 1, by omega⟩
  unfold m_111 at h
  refine sp_in (lo := [some (.inr (.inr th))]) (B := (3, 582)) rfl (Nat.le_of_ble_eq_true rfl) rfl rfl ?_
  refine go_aload_n (pc' := 1) rfl rfl rfl ?_
  obtain ⟨g0, h⟩ := o_gE h
  refine go_obj (pc' := 4) rfl rfl (o_nnE g0) (Nat.le_of_ble_eq_true rfl) rfl ?_
  refine go_aload_n (pc' := 5) rfl rfl rfl ?_
  refine go_sipush (pc' := 8) (v := (nI 256)) rfl rfl rfl ?_
  obtain ⟨g1, h⟩ := o_gE h
  refine go_newI (pc' := 10) (N := 256) rfl (by decide) (by decide) (by decide) (by decide) (by decide) (o_lt9E g1) rfl ?_
  obtain ⟨I_8, eI_8, h⟩ := o_b1E h
  obtain ⟨G_8, eG_8, h⟩ := o_b1E h
  obtain ⟨n_8, en_8, h⟩ := o_b1E h
  refine go_ndMI eI_8 ?_
  refine go_ndMG eG_8 ?_
  refine go_ndR en_8 ?_
  refine go_ndB (B' := (2, 326)) rfl ?_
  obtain ⟨g2, h⟩ := o_gE h
  obtain ⟨R_10, eR_10, h⟩ := o_b1E h
  refine go_putR (pc' := 13) rfl rfl (fun _ => ⟨rfl, rfl⟩) (o_kdE g2) rfl ?_
  refine go_ndMR eR_10 ?_
  refine go_aload_n (pc' := 14) rfl rfl rfl ?_
  refine go_sipush (pc' := 17) (v := (nI 256)) rfl rfl rfl ?_
  obtain ⟨g3, h⟩ := o_gE h
  refine go_newI (pc' := 19) (N := 256) rfl (by decide) (by decide) (by decide) (by decide) (by decide) (o_lt9E g3) rfl ?_
  obtain ⟨I_17, eI_17, h⟩ := o_b1E h
  obtain ⟨G_17, eG_17, h⟩ := o_b1E h
  obtain ⟨n_17, en_17, h⟩ := o_b1E h
  refine go_ndMI eI_17 ?_
  refine go_ndMG eG_17 ?_
  refine go_ndR en_17 ?_
  refine go_ndB (B' := (1, 70)) rfl ?_
  obtain ⟨g4, h⟩ := o_gE h
  obtain ⟨R_19, eR_19, h⟩ := o_b1E h
  refine go_putR (pc' := 22) rfl rfl (fun _ => ⟨rfl, rfl⟩) (o_kdE g4) rfl ?_
  refine go_ndMR eR_19 ?_
  refine go_aload_n (pc' := 23) rfl rfl rfl ?_
  refine go_bipush (pc' := 25) (v := (nI 70)) rfl rfl rfl ?_
  obtain ⟨g5, h⟩ := o_gE h
  refine go_newI (pc' := 27) (N := 70) rfl (by decide) (by decide) (by decide) (by decide) (by decide) (o_lt9E g5) rfl ?_
  obtain ⟨I_25, eI_25, h⟩ := o_b1E h
  obtain ⟨G_25, eG_25, h⟩ := o_b1E h
  obtain ⟨n_25, en_25, h⟩ := o_b1E h
  refine go_ndMI eI_25 ?_
  refine go_ndMG eG_25 ?_
  refine go_ndR en_25 ?_
  refine go_ndB (B' := (0, 0)) rfl ?_
  obtain ⟨g6, h⟩ := o_gE h
  obtain ⟨R_27, eR_27, h⟩ := o_b1E h
  refine go_putR (pc' := 30) rfl rfl (fun _ => ⟨rfl, rfl⟩) (o_kdE g6) rfl ?_
  refine go_ndMR eR_27 ?_
  cases h
  exact go_vret rfl (rfl) ⟨rfl, rfl, rfl, rfl, rfl⟩
/-- PricedBases$Maker.<init>()V -/
def m_37 (th : Nat) (I : ai_I) (J : ai_J) (Rf : ai_R) (G : ai_G) : Option (ai_I × ai_J × ai_R × ai_G) :=
  o_g (o_nn th) (o_g (o_lt9 G) (o_b1 (some (va_up I (G.2.2 + 1) (fun _ => 0))) (fun I_5 => o_b1 (some (va_up J (G.2.2 + 1) (fun _ => 0))) (fun J_5 => o_b1 (some (va_up Rf (G.2.2 + 1) (fun _ => 0))) (fun R_5 => o_b1 (some (va_up G.1 (G.2.2 + 1) 8, G.2.1, G.2.2 + 1)) (fun G_5 => o_b1 (some (G.2.2 + 1)) (fun n_5 => o_b3 (m_111 n_5 I_5 R_5 G_5) (fun I_9 R_9 G_9 => o_g (o_kd G_9 th 3) (o_b1 (some (va_up R_9 th (va_up (R_9 th) 0 n_5))) (fun R_12 => o_g (o_lt9 G_9) (o_b1 (some (va_up I_9 (G_9.2.2 + 1) (fun _ => 0))) (fun I_19 => o_b1 (some (va_up G_9.1 (G_9.2.2 + 1) 13, va_up G_9.2.1 (G_9.2.2 + 1) 256, G_9.2.2 + 1)) (fun G_19 => o_b1 (some (G_9.2.2 + 1)) (fun n_19 => o_g (o_kd G_19 th 3) (o_b1 (some (va_up R_12 th (va_up (R_12 th) 1 n_19))) (fun R_21 => some (I_19, J_5, R_21, G_19)))))))))))))))))
theorem md_37 {d : Nat} {I : ai_I} {J : ai_J} {Rf : ai_R} {G : ai_G} {th : Nat} {I1 : ai_I} {J1 : ai_J} {R1 : ai_R} {G1 : ai_G} (hd : 2 ≤ d) (hth : G.1 th = 3) (h : m_37 th I J Rf G = some (I1, J1, R1, G1)) : ai_Cl si_t si_ms d 37 [.inr (.inr th)] I J Rf G none I1 J1 R1 G1 := by
  obtain ⟨e, rfl⟩ : ∃ e, d = e + 1 := ⟨d - 1, by omega⟩
  unfold m_37 at h
  refine sp_in (lo := [some (.inr (.inr th))]) (B := (5, 844)) rfl (Nat.le_of_ble_eq_true rfl) rfl rfl ?_
  refine go_aload_n (pc' := 1) rfl rfl rfl ?_
  obtain ⟨g0, h⟩ := o_gE h
  refine go_obj (pc' := 4) rfl rfl (o_nnE g0) (Nat.le_of_ble_eq_true rfl) rfl ?_
  refine go_aload_n (pc' := 5) rfl rfl rfl ?_
  obtain ⟨g1, h⟩ := o_gE h
  refine go_new (pc' := 8) (q := 8) (nf := 6) rfl rfl rfl (by decide) (by decide) (o_lt9E g1) rfl ?_
  obtain ⟨I_5, eI_5, h⟩ := o_b1E h
  obtain ⟨J_5, eJ_5, h⟩ := o_b1E h
  obtain ⟨R_5, eR_5, h⟩ := o_b1E h
  obtain ⟨G_5, eG_5, h⟩ := o_b1E h
  obtain ⟨n_5, en_5, h⟩ := o_b1E h
  refine go_ndMI eI_5 ?_
  refine go_ndMJ eJ_5 ?_
  refine go_ndMR eR_5 ?_
  refine go_ndMG eG_5 ?_
  refine go_ndR en_5 ?_
  have gk_5 : G_5.1 n_5 = 8 := o_newK en_5 eG_5
  refine go_ndB (B' := (4, 838)) rfl ?_
  refine go_dupR (pc' := 9) rfl rfl ?_
  obtain ⟨I_9, R_9, G_9, q_9, h⟩ := o_b3E h
  refine go_callI (pc' := 12) (B' := (1, 256)) (st' := [.inr (.inr n_5), .inr (.inr th)]) rfl rfl (Or.inl (by decide)) rfl rfl gk_5 (md_111 (by omega) gk_5 q_9) rfl rfl rfl ?_
  obtain ⟨g2, h⟩ := o_gE h
  obtain ⟨R_12, eR_12, h⟩ := o_b1E h
  refine go_putR (pc' := 15) rfl rfl (fun _ => ⟨rfl, rfl⟩) (o_kdE g2) rfl ?_
  refine go_ndMR eR_12 ?_
  refine go_aload_n (pc' := 16) rfl rfl rfl ?_
  refine go_sipush (pc' := 19) (v := (nI 256)) rfl rfl rfl ?_
  obtain ⟨g3, h⟩ := o_gE h
  refine go_newI (pc' := 21) (N := 256) rfl (by decide) (by decide) (by decide) (by decide) (by decide) (o_lt9E g3) rfl ?_
  obtain ⟨I_19, eI_19, h⟩ := o_b1E h
  obtain ⟨G_19, eG_19, h⟩ := o_b1E h
  obtain ⟨n_19, en_19, h⟩ := o_b1E h
  refine go_ndMI eI_19 ?_
  refine go_ndMG eG_19 ?_
  refine go_ndR en_19 ?_
  refine go_ndB (B' := (0, 0)) rfl ?_
  obtain ⟨g4, h⟩ := o_gE h
  obtain ⟨R_21, eR_21, h⟩ := o_b1E h
  refine go_putR (pc' := 24) rfl rfl (fun _ => ⟨rfl, rfl⟩) (o_kdE g4) rfl ?_
  refine go_ndMR eR_21 ?_
  cases h
  exact go_vret rfl (rfl) ⟨rfl, rfl, rfl, rfl, rfl⟩
/-- PricedBases$Valuation.open(II)V -/
def m_112 (th : Nat) (a0 : Int32) (a1 : Int32) (I : ai_I) (Rf : ai_R) (G : ai_G) : Option (ai_I) :=
  o_b1 (some (va_up I th (va_up (I th) 0 a0))) (fun I_2 => o_b1 (some (va_up I_2 th (va_up (I_2 th) 1 a1))) (fun I_7 => o_b1 (some (va_up I_7 th (va_up (I_7 th) 2 (nI 0)))) (fun I_12 => o_b1 (m_332 (Rf th 3) (-2147483648 : Int32) I_12 G) (fun I_21 => some I_21))))
theorem md_112 {d : Nat} {I : ai_I} {J : ai_J} {Rf : ai_R} {G : ai_G} {th : Nat} {a0 : Int32} {a1 : Int32} {I1 : ai_I} (hd : 2 ≤ d) (hth : G.1 th = 8) (h : m_112 th a0 a1 I Rf G = some I1) : ai_Cl si_t si_ms d 112 [.inr (.inr th), .inl a0, .inl a1] I J Rf G none I1 J Rf G := by
  obtain ⟨e, rfl⟩ : ∃ e, d = e + 1 := ⟨d - 1, by omega⟩
  unfold m_112 at h
  refine sp_in (lo := [some (.inr (.inr th)), some (.inl a0), some (.inl a1)]) (B := (0, 0)) rfl (Nat.le_of_ble_eq_true rfl) rfl rfl ?_
  refine go_aload_n (pc' := 1) rfl rfl rfl ?_
  refine go_iload_n (pc' := 2) rfl rfl rfl ?_
  obtain ⟨I_2, eI_2, h⟩ := o_b1E h
  refine go_putI (pc' := 5) rfl rfl (fun h => by cases h) hth rfl ?_
  refine go_ndMI eI_2 ?_
  refine go_aload_n (pc' := 6) rfl rfl rfl ?_
  refine go_iload_n (pc' := 7) rfl rfl rfl ?_
  obtain ⟨I_7, eI_7, h⟩ := o_b1E h
  refine go_putI (pc' := 10) rfl rfl (fun h => by cases h) hth rfl ?_
  refine go_ndMI eI_7 ?_
  refine go_aload_n (pc' := 11) rfl rfl rfl ?_
  refine go_iconst (pc' := 12) (v := (nI 0)) rfl rfl rfl ?_
  obtain ⟨I_12, eI_12, h⟩ := o_b1E h
  refine go_putI (pc' := 15) rfl rfl (fun h => by cases h) hth rfl ?_
  refine go_ndMI eI_12 ?_
  refine go_aload_n (pc' := 16) rfl rfl rfl ?_
  refine go_getR (pc' := 19) rfl rfl hth rfl ?_
  refine go_ldc (pc' := 21) (v := .inl (-2147483648 : Int32)) rfl rfl rfl ?_
  obtain ⟨I_21, q_21, h⟩ := o_b1E h
  refine go_callS (pc' := 24) (B' := (0, 0)) (st' := []) rfl rfl (Or.inl (by decide)) rfl rfl trivial (md_332 (by omega) q_21) rfl rfl rfl ?_
  cases h
  exact go_vret rfl (rfl) ⟨rfl, rfl, rfl, rfl, rfl⟩
/-- PricedBases$Maker.isOpened(II)Z -/
def m_41 (th : Nat) (a0 : Int32) (a1 : Int32) (I : ai_I) (Rf : ai_R) (G : ai_G) : Option (Int32 × ai_I) :=
  if a0 < (nI 2) then (some ((nI 0), I)) else (if (nI 8) < a0 then (some ((nI 0), I)) else (if a1 < (nI 1) then (some ((nI 0), I)) else (if a1 ≤ (a0 - (nI 1)) then (o_g (o_kd G (Rf th 0) 8) (o_b1 (m_112 (Rf th 0) a0 a1 I Rf G) (fun I_31 => some ((nI 1), I_31)))) else (some ((nI 0), I)))))
theorem md_41 {d : Nat} {I : ai_I} {J : ai_J} {Rf : ai_R} {G : ai_G} {th : Nat} {a0 : Int32} {a1 : Int32} {r : Int32} {I1 : ai_I} (hd : 3 ≤ d) (hth : G.1 th = 3) (h : m_41 th a0 a1 I Rf G = some (r, I1)) : ai_Cl si_t si_ms d 41 [.inr (.inr th), .inl a0, .inl a1] I J Rf G (some (.inl r)) I1 J Rf G := by
  obtain ⟨e, rfl⟩ : ∃ e, d = e + 1 := ⟨d - 1, by omega⟩
  unfold m_41 at h
  refine sp_in (lo := [some (.inr (.inr th)), some (.inl a0), some (.inl a1)]) (B := (0, 0)) rfl (Nat.le_of_ble_eq_true rfl) rfl rfl ?_
  refine go_iload_n (pc' := 1) rfl rfl rfl ?_
  refine go_iconst (pc' := 2) (v := (nI 2)) rfl rfl rfl ?_
  refine go_icmp_lt (pt := 23) (pc' := 5) rfl rfl rfl (fun h2 => ?_) (fun h2 => ?_)
  · replace h := o_t h2 h
    refine go_iconst (pc' := 24) (v := (nI 0)) rfl rfl rfl ?_
    cases h
    exact go_iret rfl (rfl) ⟨rfl, rfl, rfl, rfl, rfl⟩
  · replace h := o_f h2 h
    refine go_iload_n (pc' := 6) rfl rfl rfl ?_
    refine go_bipush (pc' := 8) (v := (nI 8)) rfl rfl rfl ?_
    refine go_icmp_gt (pt := 23) (pc' := 11) rfl rfl rfl (fun h8 => ?_) (fun h8 => ?_)
    · replace h := o_t h8 h
      refine go_iconst (pc' := 24) (v := (nI 0)) rfl rfl rfl ?_
      cases h
      exact go_iret rfl (rfl) ⟨rfl, rfl, rfl, rfl, rfl⟩
    · replace h := o_f h8 h
      refine go_iload_n (pc' := 12) rfl rfl rfl ?_
      refine go_iconst (pc' := 13) (v := (nI 1)) rfl rfl rfl ?_
      refine go_icmp_lt (pt := 23) (pc' := 16) rfl rfl rfl (fun h13 => ?_) (fun h13 => ?_)
      · replace h := o_t h13 h
        refine go_iconst (pc' := 24) (v := (nI 0)) rfl rfl rfl ?_
        cases h
        exact go_iret rfl (rfl) ⟨rfl, rfl, rfl, rfl, rfl⟩
      · replace h := o_f h13 h
        refine go_iload_n (pc' := 17) rfl rfl rfl ?_
        refine go_iload_n (pc' := 18) rfl rfl rfl ?_
        refine go_iconst (pc' := 19) (v := (nI 1)) rfl rfl rfl ?_
        refine go_isub (pc' := 20) rfl rfl ?_
        refine go_icmp_le (pt := 25) (pc' := 23) rfl rfl rfl (fun h20 => ?_) (fun h20 => ?_)
        · replace h := o_t h20 h
          refine go_aload_n (pc' := 26) rfl rfl rfl ?_
          refine go_getR (pc' := 29) rfl rfl hth rfl ?_
          refine go_iload_n (pc' := 30) rfl rfl rfl ?_
          refine go_iload_n (pc' := 31) rfl rfl rfl ?_
          obtain ⟨g0, h⟩ := o_gE h
          obtain ⟨I_31, q_31, h⟩ := o_b1E h
          refine go_callV (pc' := 34) (B' := (0, 0)) (st' := []) rfl rfl (Or.inl (by decide)) rfl rfl (o_kdE g0) (md_112 (by omega) (o_kdE g0) q_31) rfl rfl rfl ?_
          refine go_iconst (pc' := 35) (v := (nI 1)) rfl rfl rfl ?_
          cases h
          exact go_iret rfl (rfl) ⟨rfl, rfl, rfl, rfl, rfl⟩
        · replace h := o_f h20 h
          refine go_iconst (pc' := 24) (v := (nI 0)) rfl rfl rfl ?_
          cases h
          exact go_iret rfl (rfl) ⟨rfl, rfl, rfl, rfl, rfl⟩
/-- PricedBases$Valuation.offer(II)V -/
def m_113 (th : Nat) (a0 : Int32) (a1 : Int32) (I : ai_I) (Rf : ai_R) (G : ai_G) : Option (ai_I) :=
  if a0 < 0 then (some I) else (if (nI 256) ≤ a0 then (some I) else (o_g (o_in G 13 (Rf th 3) a0) (o_b1 (some (if (I (Rf th 3) a0.toNatClampNeg) < a1 then a1 else (I (Rf th 3) a0.toNatClampNeg))) (fun r_23 => o_g (o_in G 13 (Rf th 3) a0) (o_b1 (some (va_up I (Rf th 3) (va_up (I (Rf th 3)) a0.toNatClampNeg r_23))) (fun I_26 => some I_26))))))
theorem md_113 {d : Nat} {I : ai_I} {J : ai_J} {Rf : ai_R} {G : ai_G} {th : Nat} {a0 : Int32} {a1 : Int32} {I1 : ai_I} (hd : 1 ≤ d) (hth : G.1 th = 8) (h : m_113 th a0 a1 I Rf G = some I1) : ai_Cl si_t si_ms d 113 [.inr (.inr th), .inl a0, .inl a1] I J Rf G none I1 J Rf G := by
  obtain ⟨e, rfl⟩ : ∃ e, d = e + 1 := ⟨d - 1, by omega⟩
  unfold m_113 at h
  refine sp_in (lo := [some (.inr (.inr th)), some (.inl a0), some (.inl a1)]) (B := (0, 0)) rfl (Nat.le_of_ble_eq_true rfl) rfl rfl ?_
  refine go_iload_n (pc' := 1) rfl rfl rfl ?_
  refine go_if_lt (pt := 27) (pc' := 4) rfl rfl rfl (fun h1 => ?_) (fun h1 => ?_)
  · replace h := o_t h1 h
    cases h
    exact go_vret rfl (rfl) ⟨rfl, rfl, rfl, rfl, rfl⟩
  · replace h := o_f h1 h
    refine go_iload_n (pc' := 5) rfl rfl rfl ?_
    refine go_sipush (pc' := 8) (v := (nI 256)) rfl rfl rfl ?_
    refine go_icmp_ge (pt := 27) (pc' := 11) rfl rfl rfl (fun h8 => ?_) (fun h8 => ?_)
    · replace h := o_t h8 h
      cases h
      exact go_vret rfl (rfl) ⟨rfl, rfl, rfl, rfl, rfl⟩
    · replace h := o_f h8 h
      refine go_aload_n (pc' := 12) rfl rfl rfl ?_
      refine go_getR (pc' := 15) rfl rfl hth rfl ?_
      refine go_iload_n (pc' := 16) rfl rfl rfl ?_
      refine go_aload_n (pc' := 17) rfl rfl rfl ?_
      refine go_getR (pc' := 20) rfl rfl hth rfl ?_
      refine go_iload_n (pc' := 21) rfl rfl rfl ?_
      obtain ⟨g0, h⟩ := o_gE h
      refine go_iaload (pc' := 22) rfl (o_inK g0) (o_inB g0) rfl ?_
      refine go_iload_n (pc' := 23) rfl rfl rfl ?_
      refine go_max (pc' := 26) rfl rfl (Nat.le_of_ble_eq_true rfl) rfl ?_
      obtain ⟨r_23, er_23, h⟩ := o_b1E h
      refine go_ndI er_23 ?_
      obtain ⟨g1, h⟩ := o_gE h
      obtain ⟨I_26, eI_26, h⟩ := o_b1E h
      refine go_iastore (pc' := 27) rfl (o_inK g1) (o_inB g1) rfl ?_
      refine go_ndMI eI_26 ?_
      cases h
      exact go_vret rfl (rfl) ⟨rfl, rfl, rfl, rfl, rfl⟩
def m_43_x2_42 (Ix_42 : ai_I) : Option (ai_I) :=
  some Ix_42
def m_43_b2 (th : Nat) (Rf : ai_R) (G : ai_G) (v1_2 : Int32) (I_2 : ai_I) : Option ((Int32 × ai_I) ⊕ ai_I) :=
  o_g (o_kd G (Rf th 0) 8) (o_b1 (m_118 (Rf th 0) I_2) (fun r_7 => if r_7 ≤ v1_2 then (some (Sum.inr I_2)) else (o_b1 (m_331 v1_2) (fun r_14 => if r_14 = (I_2 (Rf th 0) 1) then (o_b1 (m_113 (Rf th 0) v1_2 (nI 0) I_2 Rf G) (fun I_33 => o_b1 (some (v1_2 + (nI 1))) (fun x1_36 => some (Sum.inl (x1_36, I_33))))) else (o_b1 (some (v1_2 + (nI 1))) (fun x1_36 => some (Sum.inl (x1_36, I_2))))))))
/-- PricedBases$Maker.makeUniform()V -/
def m_43 (th : Nat) (I : ai_I) (Rf : ai_R) (G : ai_G) : Option (ai_I) :=
  o_s1 (lp (fun s => m_43_b2 th Rf G s.1 s.2) o_N ((nI 0), I)) (fun t => m_43_x2_42 t)
theorem md_43 {d : Nat} {I : ai_I} {J : ai_J} {Rf : ai_R} {G : ai_G} {th : Nat} {I1 : ai_I} (hd : 2 ≤ d) (hth : G.1 th = 3) (h : m_43 th I Rf G = some I1) : ai_Cl si_t si_ms d 43 [.inr (.inr th)] I J Rf G none I1 J Rf G := by
  obtain ⟨e, rfl⟩ : ∃ e, d = e + 1 := ⟨d - 1, by omega⟩
  unfold m_43 at h
  refine sp_in (lo := [some (.inr (.inr th)), none]) (B := (0, 0)) rfl (Nat.le_of_ble_eq_true rfl) rfl rfl ?_
  refine go_iconst (pc' := 1) (v := (nI 0)) rfl rfl rfl ?_
  refine go_istore_n (pc' := 2) (lo' := [some (.inr (.inr th)), some (.inl (nI 0))]) rfl rfl rfl ?_
  obtain ⟨q2, hl2, hc2_42⟩ := o_s1E h
  have ex2_42 : ∀ (Ix_42 : ai_I) (z1_x42 : Option ai_V), Ix_42 = q2 → ai_Go si_t (3, false, 9, cd_43) (ai_Cl si_t si_ms e) (sp_Q none I1 J Rf G) 42 [some (.inr (.inr th)), z1_x42] [] (0, 0) Ix_42 J Rf G := by
    intro Ix_42 z1_x42 hq
    have h : m_43_x2_42 Ix_42 = some I1 := hc2_42 Ix_42 hq.symm
    unfold m_43_x2_42 at h
    cases h
    exact go_vret rfl (rfl) ⟨rfl, rfl, rfl, rfl, rfl⟩
  have lo2 : ∀ n s, lp (fun s => m_43_b2 th Rf G s.1 s.2) n s = some q2 → (fun s => ai_Go si_t (3, false, 9, cd_43) (ai_Cl si_t si_ms e) (sp_Q none I1 J Rf G) 2 [some (.inr (.inr th)), some (.inl s.1)] [] (0, 0) s.2 J Rf G) s := lp_go (fun s x2 hx hk2 => by
    obtain ⟨v1_2, I_2⟩ := s
    have h : m_43_b2 th Rf G v1_2 I_2 = some x2 := hx
    clear hx
    show ai_Go si_t (3, false, 9, cd_43) (ai_Cl si_t si_ms e) (sp_Q none I1 J Rf G) 2 [some (.inr (.inr th)), some (.inl v1_2)] [] (0, 0) I_2 J Rf G
    unfold m_43_b2 at h
    refine go_iload_n (pc' := 3) rfl rfl rfl ?_
    refine go_aload_n (pc' := 4) rfl rfl rfl ?_
    refine go_getR (pc' := 7) rfl rfl hth rfl ?_
    obtain ⟨g0, h⟩ := o_gE h
    obtain ⟨r_7, q_7, h⟩ := o_b1E h
    refine go_callV (pc' := 10) (B' := (0, 0)) (st' := [.inl r_7, .inl v1_2]) rfl rfl (Or.inl (by decide)) rfl rfl (o_kdE g0) (md_118 (by omega) (o_kdE g0) q_7) rfl rfl rfl ?_
    refine go_icmp_ge (pt := 42) (pc' := 13) rfl rfl rfl (fun h10 => ?_) (fun h10 => ?_)
    · replace h := o_t h10 h
      exact ex2_42 _ (some (.inl v1_2)) (lp_exitE h hk2)
    · replace h := o_f h10 h
      refine go_iload_n (pc' := 14) rfl rfl rfl ?_
      obtain ⟨r_14, q_14, h⟩ := o_b1E h
      refine go_callS (pc' := 17) (B' := (0, 0)) (st' := [.inl r_14]) rfl rfl (Or.inl (by decide)) rfl rfl trivial (md_331 (by omega) q_14) rfl rfl rfl ?_
      refine go_aload_n (pc' := 18) rfl rfl rfl ?_
      refine go_getR (pc' := 21) rfl rfl hth rfl ?_
      refine go_getI (pc' := 24) rfl rfl (by decide) (by decide) (o_kdE g0) rfl ?_
      refine go_icmp_ne (pt := 36) (pc' := 27) rfl rfl rfl (fun h24 => ?_) (fun h24 => ?_)
      · replace h := o_f h24 h
        obtain ⟨x1_36, ex1_36, h⟩ := o_b1E h
        refine go_iincE (pc' := 39) rfl rfl (y := (nI 1)) rfl ex1_36 (lo' := [some (.inr (.inr th)), some (.inl x1_36)]) rfl rfl ?_
        refine go_goto (pc' := 2) rfl rfl ?_
        exact (lp_backE h hk2 :)
      · replace h := o_t (Decidable.of_not_not h24) h
        refine go_aload_n (pc' := 28) rfl rfl rfl ?_
        refine go_getR (pc' := 31) rfl rfl hth rfl ?_
        refine go_iload_n (pc' := 32) rfl rfl rfl ?_
        refine go_iconst (pc' := 33) (v := (nI 0)) rfl rfl rfl ?_
        obtain ⟨I_33, q_33, h⟩ := o_b1E h
        refine go_callV (pc' := 36) (B' := (0, 0)) (st' := []) rfl rfl (Or.inl (by decide)) rfl rfl (o_kdE g0) (md_113 (by omega) (o_kdE g0) q_33) rfl rfl rfl ?_
        obtain ⟨x1_36, ex1_36, h⟩ := o_b1E h
        refine go_iincE (pc' := 39) rfl rfl (y := (nI 1)) rfl ex1_36 (lo' := [some (.inr (.inr th)), some (.inl x1_36)]) rfl rfl ?_
        refine go_goto (pc' := 2) rfl rfl ?_
        exact (lp_backE h hk2 :))
  exact lo2 _ ((nI 0), I) hl2 
def m_45_x7_73 (w5_73 : Int32) : Option (Int32) :=
  some w5_73
def m_45_b7 (th : Nat) (a0 : Int32) (a1 : Int32) (a2 : Nat) (a3 : Int32) (I : ai_I) (Rf : ai_R) (G : ai_G) (v5_7 : Int32) (v6_7 : Int32) : Option ((Int32 × Int32) ⊕ Int32) :=
  o_g (o_kd G (Rf th 0) 8) (if (I (Rf th 0) 0) ≤ v6_7 then (some (Sum.inr v5_7)) else (o_b1 (m_183 a0 v6_7) (fun r_22 => if r_22 = 0 then (o_b1 (some (v6_7 + (nI 1))) (fun x6_67 => some (Sum.inl (v5_7, x6_67)))) else (o_g (o_in G 13 (Rf th 1) (a0 ^^^ ((nI 1) <<< (v6_7 &&& 31)))) (o_g (o_kd G a2 0) (o_b1 (m_4 a2 a3 (((nI 3) + (a1 * (I (Rf th 0) 0))) + v6_7) I Rf G) (fun r_58 => o_b1 (some (if v5_7 < ((I (Rf th 1) (a0 ^^^ ((nI 1) <<< (v6_7 &&& 31))).toNatClampNeg) + r_58) then ((I (Rf th 1) (a0 ^^^ ((nI 1) <<< (v6_7 &&& 31))).toNatClampNeg) + r_58) else v5_7)) (fun r_62 => o_b1 (some (v6_7 + (nI 1))) (fun x6_67 => some (Sum.inl (r_62, x6_67)))))))))))
/-- PricedBases$Maker.bestMatch(IILPricedBases$Clauses;I)I -/
def m_45 (th : Nat) (a0 : Int32) (a1 : Int32) (a2 : Nat) (a3 : Int32) (I : ai_I) (Rf : ai_R) (G : ai_G) : Option (Int32) :=
  o_s1 (lp (fun s => m_45_b7 th a0 a1 a2 a3 I Rf G s.1 s.2) o_N ((-2147483648 : Int32), (nI 0))) (fun t => m_45_x7_73 t)
theorem md_45 {d : Nat} {I : ai_I} {J : ai_J} {Rf : ai_R} {G : ai_G} {th : Nat} {a0 : Int32} {a1 : Int32} {a2 : Nat} {a3 : Int32} {r : Int32} (hd : 2 ≤ d) (hth : G.1 th = 3) (h : m_45 th a0 a1 a2 a3 I Rf G = some r) : ai_Cl si_t si_ms d 45 [.inr (.inr th), .inl a0, .inl a1, .inr (.inr a2), .inl a3] I J Rf G (some (.inl r)) I J Rf G := by
  obtain ⟨e, rfl⟩ : ∃ e, d = e + 1 := ⟨d - 1, by omega⟩
  unfold m_45 at h
  refine sp_in (lo := [some (.inr (.inr th)), some (.inl a0), some (.inl a1), some (.inr (.inr a2)), some (.inl a3), none, none]) (B := (0, 0)) rfl (Nat.le_of_ble_eq_true rfl) rfl rfl ?_
  refine go_ldc (pc' := 2) (v := .inl (-2147483648 : Int32)) rfl rfl rfl ?_
  refine go_istore (pc' := 4) (lo' := [some (.inr (.inr th)), some (.inl a0), some (.inl a1), some (.inr (.inr a2)), some (.inl a3), some (.inl (-2147483648 : Int32)), none]) rfl rfl rfl ?_
  refine go_iconst (pc' := 5) (v := (nI 0)) rfl rfl rfl ?_
  refine go_istore (pc' := 7) (lo' := [some (.inr (.inr th)), some (.inl a0), some (.inl a1), some (.inr (.inr a2)), some (.inl a3), some (.inl (-2147483648 : Int32)), some (.inl (nI 0))]) rfl rfl rfl ?_
  obtain ⟨q7, hl7, hc7_73⟩ := o_s1E h
  have ex7_73 : ∀ (w5_73 : Int32) (z6_x73 : Option ai_V), w5_73 = q7 → ai_Go si_t (3, false, 0, cd_45) (ai_Cl si_t si_ms e) (sp_Q (some (.inl r)) I J Rf G) 73 [some (.inr (.inr th)), some (.inl a0), some (.inl a1), some (.inr (.inr a2)), some (.inl a3), some (.inl w5_73), z6_x73] [] (0, 0) I J Rf G := by
    intro w5_73 z6_x73 hq
    have h : m_45_x7_73 w5_73 = some r := hc7_73 w5_73 hq.symm
    unfold m_45_x7_73 at h
    refine go_iload (pc' := 75) rfl rfl rfl ?_
    cases h
    exact go_iret rfl (trivial) ⟨rfl, rfl, rfl, rfl, rfl⟩
  have lo7 : ∀ n s, lp (fun s => m_45_b7 th a0 a1 a2 a3 I Rf G s.1 s.2) n s = some q7 → (fun s => ai_Go si_t (3, false, 0, cd_45) (ai_Cl si_t si_ms e) (sp_Q (some (.inl r)) I J Rf G) 7 [some (.inr (.inr th)), some (.inl a0), some (.inl a1), some (.inr (.inr a2)), some (.inl a3), some (.inl s.1), some (.inl s.2)] [] (0, 0) I J Rf G) s := lp_go (fun s x7 hx hk7 => by
    obtain ⟨v5_7, v6_7⟩ := s
    have h : m_45_b7 th a0 a1 a2 a3 I Rf G v5_7 v6_7 = some x7 := hx
    clear hx
    show ai_Go si_t (3, false, 0, cd_45) (ai_Cl si_t si_ms e) (sp_Q (some (.inl r)) I J Rf G) 7 [some (.inr (.inr th)), some (.inl a0), some (.inl a1), some (.inr (.inr a2)), some (.inl a3), some (.inl v5_7), some (.inl v6_7)] [] (0, 0) I J Rf G
    unfold m_45_b7 at h
    refine go_iload (pc' := 9) rfl rfl rfl ?_
    refine go_aload_n (pc' := 10) rfl rfl rfl ?_
    refine go_getR (pc' := 13) rfl rfl hth rfl ?_
    obtain ⟨g0, h⟩ := o_gE h
    refine go_getI (pc' := 16) rfl rfl (by decide) (by decide) (o_kdE g0) rfl ?_
    refine go_icmp_ge (pt := 73) (pc' := 19) rfl rfl rfl (fun h16 => ?_) (fun h16 => ?_)
    · replace h := o_t h16 h
      exact ex7_73 _ (some (.inl v6_7)) (lp_exitE h hk7)
    · replace h := o_f h16 h
      refine go_iload_n (pc' := 20) rfl rfl rfl ?_
      refine go_iload (pc' := 22) rfl rfl rfl ?_
      obtain ⟨r_22, q_22, h⟩ := o_b1E h
      refine go_callS (pc' := 25) (B' := (0, 0)) (st' := [.inl r_22]) rfl rfl (Or.inl (by decide)) rfl rfl trivial (md_183 (by omega) q_22) rfl rfl rfl ?_
      refine go_if_eq (pt := 67) (pc' := 28) rfl rfl rfl (fun h25 => ?_) (fun h25 => ?_)
      · replace h := o_t h25 h
        obtain ⟨x6_67, ex6_67, h⟩ := o_b1E h
        refine go_iincE (pc' := 70) rfl rfl (y := (nI 1)) rfl ex6_67 (lo' := [some (.inr (.inr th)), some (.inl a0), some (.inl a1), some (.inr (.inr a2)), some (.inl a3), some (.inl v5_7), some (.inl x6_67)]) rfl rfl ?_
        refine go_goto (pc' := 7) rfl rfl ?_
        exact (lp_backE h hk7 :)
      · replace h := o_f h25 h
        refine go_iload (pc' := 30) rfl rfl rfl ?_
        refine go_aload_n (pc' := 31) rfl rfl rfl ?_
        refine go_getR (pc' := 34) rfl rfl hth rfl ?_
        refine go_iload_n (pc' := 35) rfl rfl rfl ?_
        refine go_iconst (pc' := 36) (v := (nI 1)) rfl rfl rfl ?_
        refine go_iload (pc' := 38) rfl rfl rfl ?_
        refine go_ishl (pc' := 39) rfl rfl ?_
        refine go_ixor (pc' := 40) rfl rfl ?_
        obtain ⟨g1, h⟩ := o_gE h
        refine go_iaload (pc' := 41) rfl (o_inK g1) (o_inB g1) rfl ?_
        refine go_aload_n (pc' := 42) rfl rfl rfl ?_
        refine go_iload (pc' := 44) rfl rfl rfl ?_
        refine go_iconst (pc' := 45) (v := (nI 3)) rfl rfl rfl ?_
        refine go_iload_n (pc' := 46) rfl rfl rfl ?_
        refine go_aload_n (pc' := 47) rfl rfl rfl ?_
        refine go_getR (pc' := 50) rfl rfl hth rfl ?_
        refine go_getI (pc' := 53) rfl rfl (by decide) (by decide) (o_kdE g0) rfl ?_
        refine go_imul (pc' := 54) rfl rfl ?_
        refine go_iadd (pc' := 55) rfl rfl ?_
        refine go_iload (pc' := 57) rfl rfl rfl ?_
        refine go_iadd (pc' := 58) rfl rfl ?_
        obtain ⟨g2, h⟩ := o_gE h
        obtain ⟨r_58, q_58, h⟩ := o_b1E h
        refine go_callV (pc' := 61) (B' := (0, 0)) (st' := [.inl r_58, .inl (I (Rf th 1) (a0 ^^^ ((nI 1) <<< (v6_7 &&& 31))).toNatClampNeg), .inl v5_7]) rfl rfl (Or.inl (by decide)) rfl rfl (o_kdE g2) (md_4 (by omega) (o_kdE g2) q_58) rfl rfl rfl ?_
        refine go_iadd (pc' := 62) rfl rfl ?_
        refine go_max (pc' := 65) rfl rfl (Nat.le_of_ble_eq_true rfl) rfl ?_
        obtain ⟨r_62, er_62, h⟩ := o_b1E h
        refine go_ndI er_62 ?_
        refine go_istore (pc' := 67) (lo' := [some (.inr (.inr th)), some (.inl a0), some (.inl a1), some (.inr (.inr a2)), some (.inl a3), some (.inl r_62), some (.inl v6_7)]) rfl rfl rfl ?_
        obtain ⟨x6_67, ex6_67, h⟩ := o_b1E h
        refine go_iincE (pc' := 70) rfl rfl (y := (nI 1)) rfl ex6_67 (lo' := [some (.inr (.inr th)), some (.inl a0), some (.inl a1), some (.inr (.inr a2)), some (.inl a3), some (.inl r_62), some (.inl x6_67)]) rfl rfl ?_
        refine go_goto (pc' := 7) rfl rfl ?_
        exact (lp_backE h hk7 :))
  exact lo7 _ ((-2147483648 : Int32), (nI 0)) hl7 
def m_44_x9_89 (Ix_89 : ai_I) : Option (ai_I) :=
  some Ix_89
def m_44_b9 (th : Nat) (a0 : Nat) (a1 : Int32) (Rf : ai_R) (G : ai_G) (v3_9 : Int32) (I_9 : ai_I) : Option ((Int32 × ai_I) ⊕ ai_I) :=
  o_g (o_kd G (Rf th 0) 8) (o_b1 (m_118 (Rf th 0) I_9) (fun r_14 => if r_14 ≤ v3_9 then (some (Sum.inr I_9)) else (o_b1 (m_331 v3_9) (fun r_21 => o_b1 (some (r_21 - (nI 1))) (fun x4_26 => if (I_9 (Rf th 0) 1) ≤ x4_26 then (o_b1 (some (v3_9 + (nI 1))) (fun x3_83 => some (Sum.inl (x3_83, I_9)))) else (o_b1 (m_45 th v3_9 x4_26 a0 a1 I_9 Rf G) (fun r_51 => o_g (o_in G 13 (Rf th 1) v3_9) (o_b1 (some (va_up I_9 (Rf th 1) (va_up (I_9 (Rf th 1)) v3_9.toNatClampNeg r_51))) (fun I_54 => if x4_26 = ((I_54 (Rf th 0) 1) - (nI 1)) then (o_g (o_in G 13 (Rf th 1) v3_9) (o_b1 (m_113 (Rf th 0) v3_9 (I_54 (Rf th 1) v3_9.toNatClampNeg) I_54 Rf G) (fun I_80 => o_b1 (some (v3_9 + (nI 1))) (fun x3_83 => some (Sum.inl (x3_83, I_80)))))) else (o_b1 (some (v3_9 + (nI 1))) (fun x3_83 => some (Sum.inl (x3_83, I_54)))))))))))))
/-- PricedBases$Maker.makeMatch(LPricedBases$Clauses;I)V -/
def m_44 (th : Nat) (a0 : Nat) (a1 : Int32) (I : ai_I) (Rf : ai_R) (G : ai_G) : Option (ai_I) :=
  o_g (o_in G 13 (Rf th 1) (nI 0)) (o_b1 (some (va_up I (Rf th 1) (va_up (I (Rf th 1)) (nI 0).toNatClampNeg (nI 0)))) (fun I_6 => o_s1 (lp (fun s => m_44_b9 th a0 a1 Rf G s.1 s.2) o_N ((nI 1), I_6)) (fun t => m_44_x9_89 t)))
theorem md_44 {d : Nat} {I : ai_I} {J : ai_J} {Rf : ai_R} {G : ai_G} {th : Nat} {a0 : Nat} {a1 : Int32} {I1 : ai_I} (hd : 3 ≤ d) (hth : G.1 th = 3) (h : m_44 th a0 a1 I Rf G = some I1) : ai_Cl si_t si_ms d 44 [.inr (.inr th), .inr (.inr a0), .inl a1] I J Rf G none I1 J Rf G := by
  obtain ⟨e, rfl⟩ : ∃ e, d = e + 1 := ⟨d - 1, by omega⟩
  unfold m_44 at h
  refine sp_in (lo := [some (.inr (.inr th)), some (.inr (.inr a0)), some (.inl a1), none, none]) (B := (0, 0)) rfl (Nat.le_of_ble_eq_true rfl) rfl rfl ?_
  refine go_aload_n (pc' := 1) rfl rfl rfl ?_
  refine go_getR (pc' := 4) rfl rfl hth rfl ?_
  refine go_iconst (pc' := 5) (v := (nI 0)) rfl rfl rfl ?_
  refine go_iconst (pc' := 6) (v := (nI 0)) rfl rfl rfl ?_
  obtain ⟨g0, h⟩ := o_gE h
  obtain ⟨I_6, eI_6, h⟩ := o_b1E h
  refine go_iastore (pc' := 7) rfl (o_inK g0) (o_inB g0) rfl ?_
  refine go_ndMI eI_6 ?_
  refine go_iconst (pc' := 8) (v := (nI 1)) rfl rfl rfl ?_
  refine go_istore_n (pc' := 9) (lo' := [some (.inr (.inr th)), some (.inr (.inr a0)), some (.inl a1), some (.inl (nI 1)), none]) rfl rfl rfl ?_
  obtain ⟨q9, hl9, hc9_89⟩ := o_s1E h
  have ex9_89 : ∀ (Ix_89 : ai_I) (z3_x89 : Option ai_V) (z4_x89 : Option ai_V), Ix_89 = q9 → ai_Go si_t (3, false, 9, cd_44) (ai_Cl si_t si_ms e) (sp_Q none I1 J Rf G) 89 [some (.inr (.inr th)), some (.inr (.inr a0)), some (.inl a1), z3_x89, z4_x89] [] (0, 0) Ix_89 J Rf G := by
    intro Ix_89 z3_x89 z4_x89 hq
    have h : m_44_x9_89 Ix_89 = some I1 := hc9_89 Ix_89 hq.symm
    unfold m_44_x9_89 at h
    cases h
    exact go_vret rfl (rfl) ⟨rfl, rfl, rfl, rfl, rfl⟩
  have lo9 : ∀ n s, lp (fun s => m_44_b9 th a0 a1 Rf G s.1 s.2) n s = some q9 → (fun s => ∀ (z4_9 : Option ai_V), ai_Go si_t (3, false, 9, cd_44) (ai_Cl si_t si_ms e) (sp_Q none I1 J Rf G) 9 [some (.inr (.inr th)), some (.inr (.inr a0)), some (.inl a1), some (.inl s.1), z4_9] [] (0, 0) s.2 J Rf G) s := lp_go (fun s x9 hx hk9 => by
    obtain ⟨v3_9, I_9⟩ := s
    intro z4_9
    have h : m_44_b9 th a0 a1 Rf G v3_9 I_9 = some x9 := hx
    clear hx
    show ai_Go si_t (3, false, 9, cd_44) (ai_Cl si_t si_ms e) (sp_Q none I1 J Rf G) 9 [some (.inr (.inr th)), some (.inr (.inr a0)), some (.inl a1), some (.inl v3_9), z4_9] [] (0, 0) I_9 J Rf G
    unfold m_44_b9 at h
    refine go_iload_n (pc' := 10) rfl rfl rfl ?_
    refine go_aload_n (pc' := 11) rfl rfl rfl ?_
    refine go_getR (pc' := 14) rfl rfl hth rfl ?_
    obtain ⟨g1, h⟩ := o_gE h
    obtain ⟨r_14, q_14, h⟩ := o_b1E h
    refine go_callV (pc' := 17) (B' := (0, 0)) (st' := [.inl r_14, .inl v3_9]) rfl rfl (Or.inl (by decide)) rfl rfl (o_kdE g1) (md_118 (by omega) (o_kdE g1) q_14) rfl rfl rfl ?_
    refine go_icmp_ge (pt := 89) (pc' := 20) rfl rfl rfl (fun h17 => ?_) (fun h17 => ?_)
    · replace h := o_t h17 h
      exact ex9_89 _ (some (.inl v3_9)) z4_9 (lp_exitE h hk9)
    · replace h := o_f h17 h
      refine go_iload_n (pc' := 21) rfl rfl rfl ?_
      obtain ⟨r_21, q_21, h⟩ := o_b1E h
      refine go_callS (pc' := 24) (B' := (0, 0)) (st' := [.inl r_21]) rfl rfl (Or.inl (by decide)) rfl rfl trivial (md_331 (by omega) q_21) rfl rfl rfl ?_
      refine go_iconst (pc' := 25) (v := (nI 1)) rfl rfl rfl ?_
      refine go_isub (pc' := 26) rfl rfl ?_
      obtain ⟨x4_26, ex4_26, h⟩ := o_b1E h
      refine go_ndI ex4_26 ?_
      refine go_istore (pc' := 28) (lo' := [some (.inr (.inr th)), some (.inr (.inr a0)), some (.inl a1), some (.inl v3_9), some (.inl x4_26)]) rfl rfl rfl ?_
      refine go_iload (pc' := 30) rfl rfl rfl ?_
      refine go_aload_n (pc' := 31) rfl rfl rfl ?_
      refine go_getR (pc' := 34) rfl rfl hth rfl ?_
      refine go_getI (pc' := 37) rfl rfl (by decide) (by decide) (o_kdE g1) rfl ?_
      refine go_icmp_ge (pt := 83) (pc' := 40) rfl rfl rfl (fun h37 => ?_) (fun h37 => ?_)
      · replace h := o_t h37 h
        obtain ⟨x3_83, ex3_83, h⟩ := o_b1E h
        refine go_iincE (pc' := 86) rfl rfl (y := (nI 1)) rfl ex3_83 (lo' := [some (.inr (.inr th)), some (.inr (.inr a0)), some (.inl a1), some (.inl x3_83), some (.inl x4_26)]) rfl rfl ?_
        refine go_goto (pc' := 9) rfl rfl ?_
        exact (lp_backE h hk9 (some (.inl x4_26)) :)
      · replace h := o_f h37 h
        refine go_aload_n (pc' := 41) rfl rfl rfl ?_
        refine go_getR (pc' := 44) rfl rfl hth rfl ?_
        refine go_iload_n (pc' := 45) rfl rfl rfl ?_
        refine go_aload_n (pc' := 46) rfl rfl rfl ?_
        refine go_iload_n (pc' := 47) rfl rfl rfl ?_
        refine go_iload (pc' := 49) rfl rfl rfl ?_
        refine go_aload_n (pc' := 50) rfl rfl rfl ?_
        refine go_iload_n (pc' := 51) rfl rfl rfl ?_
        obtain ⟨r_51, q_51, h⟩ := o_b1E h
        refine go_callV (pc' := 54) (B' := (0, 0)) (st' := [.inl r_51, .inl v3_9, .inr (.inr (Rf th 1))]) rfl rfl (Or.inl (by decide)) rfl rfl hth (md_45 (by omega) hth q_51) rfl rfl rfl ?_
        obtain ⟨g2, h⟩ := o_gE h
        obtain ⟨I_54, eI_54, h⟩ := o_b1E h
        refine go_iastore (pc' := 55) rfl (o_inK g2) (o_inB g2) rfl ?_
        refine go_ndMI eI_54 ?_
        refine go_iload (pc' := 57) rfl rfl rfl ?_
        refine go_aload_n (pc' := 58) rfl rfl rfl ?_
        refine go_getR (pc' := 61) rfl rfl hth rfl ?_
        refine go_getI (pc' := 64) rfl rfl (by decide) (by decide) (o_kdE g1) rfl ?_
        refine go_iconst (pc' := 65) (v := (nI 1)) rfl rfl rfl ?_
        refine go_isub (pc' := 66) rfl rfl ?_
        refine go_icmp_ne (pt := 83) (pc' := 69) rfl rfl rfl (fun h66 => ?_) (fun h66 => ?_)
        · replace h := o_f h66 h
          obtain ⟨x3_83, ex3_83, h⟩ := o_b1E h
          refine go_iincE (pc' := 86) rfl rfl (y := (nI 1)) rfl ex3_83 (lo' := [some (.inr (.inr th)), some (.inr (.inr a0)), some (.inl a1), some (.inl x3_83), some (.inl x4_26)]) rfl rfl ?_
          refine go_goto (pc' := 9) rfl rfl ?_
          exact (lp_backE h hk9 (some (.inl x4_26)) :)
        · replace h := o_t (Decidable.of_not_not h66) h
          refine go_aload_n (pc' := 70) rfl rfl rfl ?_
          refine go_getR (pc' := 73) rfl rfl hth rfl ?_
          refine go_iload_n (pc' := 74) rfl rfl rfl ?_
          refine go_aload_n (pc' := 75) rfl rfl rfl ?_
          refine go_getR (pc' := 78) rfl rfl hth rfl ?_
          refine go_iload_n (pc' := 79) rfl rfl rfl ?_
          obtain ⟨g3, h⟩ := o_gE h
          refine go_iaload (pc' := 80) rfl (o_inK g3) (o_inB g3) rfl ?_
          obtain ⟨I_80, q_80, h⟩ := o_b1E h
          refine go_callV (pc' := 83) (B' := (0, 0)) (st' := []) rfl rfl (Or.inl (by decide)) rfl rfl (o_kdE g1) (md_113 (by omega) (o_kdE g1) q_80) rfl rfl rfl ?_
          obtain ⟨x3_83, ex3_83, h⟩ := o_b1E h
          refine go_iincE (pc' := 86) rfl rfl (y := (nI 1)) rfl ex3_83 (lo' := [some (.inr (.inr th)), some (.inr (.inr a0)), some (.inl a1), some (.inl x3_83), some (.inl x4_26)]) rfl rfl ?_
          refine go_goto (pc' := 9) rfl rfl ?_
          exact (lp_backE h hk9 (some (.inl x4_26)) :))
  exact lo9 _ ((nI 1), I_6) hl9 none
def m_47_x17_104 (x4_9 : Int32) (w5_104 : Int32) : Option (Int32) :=
  if w5_104 = (((nI 1) <<< (x4_9 &&& 31)) - (nI 1)) then (some (nI 1)) else (some (nI 0))
def m_47_x27_98 (v6_17 : Int32) (w5_98 : Int32) : Option ((Int32 × Int32) ⊕ Int32) :=
  o_b1 (some (v6_17 + (nI 1))) (fun x6_98 => some (Sum.inl (w5_98, x6_98)))
def m_47_b27 (th : Nat) (a0 : Int32) (a1 : Nat) (a2 : Int32) (I : ai_I) (Rf : ai_R) (G : ai_G) (v5_27 : Int32) (v7_27 : Int32) : Option ((Int32 × Int32) ⊕ Int32) :=
  if (I (Rf th 0) 0) ≤ v7_27 then (some (Sum.inr v5_27)) else (o_g (o_kd G a1 0) (o_b1 (m_4 a1 a2 ((nI 3) + ((nI 2) * v7_27)) I Rf G) (fun r_48 => o_b1 (m_4 a1 a2 ((nI 4) + ((nI 2) * v7_27)) I Rf G) (fun r_61 => o_b1 (some (((nI 1) <<< (r_48 &&& 31)) ||| ((nI 1) <<< (r_61 &&& 31)))) (fun x8_66 => o_b1 (m_183 a0 v7_27) (fun r_71 => if r_71 = 0 then (o_b1 (some (v7_27 + (nI 1))) (fun x7_92 => some (Sum.inl (v5_27, x7_92)))) else (if (v5_27 &&& x8_66) = 0 then (o_b1 (some (v7_27 + (nI 1))) (fun x7_92 => some (Sum.inl (v5_27, x7_92)))) else (o_b1 (some (v5_27 ||| x8_66)) (fun x5_90 => o_b1 (some (v7_27 + (nI 1))) (fun x7_92 => some (Sum.inl (x5_90, x7_92))))))))))))
def m_47_b17 (th : Nat) (a0 : Int32) (a1 : Nat) (a2 : Int32) (I : ai_I) (Rf : ai_R) (G : ai_G) (x4_9 : Int32) (v5_17 : Int32) (v6_17 : Int32) : Option ((Int32 × Int32) ⊕ Int32) :=
  if x4_9 ≤ v6_17 then (some (Sum.inr v5_17)) else (o_s1 (lp (fun s => m_47_b27 th a0 a1 a2 I Rf G s.1 s.2) o_N (v5_17, (nI 0))) (fun t => m_47_x27_98 v6_17 t))
/-- PricedBases$Maker.isTree(ILPricedBases$Clauses;I)Z -/
def m_47 (th : Nat) (a0 : Int32) (a1 : Nat) (a2 : Int32) (I : ai_I) (Rf : ai_R) (G : ai_G) : Option (Int32) :=
  o_g (o_kd G (Rf th 0) 8) (o_b1 (some ((I (Rf th 0) 1) + (nI 1))) (fun x4_9 => o_s1 (lp (fun s => m_47_b17 th a0 a1 a2 I Rf G x4_9 s.1 s.2) o_N ((nI 1), (nI 0))) (fun t => m_47_x17_104 x4_9 t)))
theorem md_47 {d : Nat} {I : ai_I} {J : ai_J} {Rf : ai_R} {G : ai_G} {th : Nat} {a0 : Int32} {a1 : Nat} {a2 : Int32} {r : Int32} (hd : 2 ≤ d) (hth : G.1 th = 3) (h : m_47 th a0 a1 a2 I Rf G = some r) : ai_Cl si_t si_ms d 47 [.inr (.inr th), .inl a0, .inr (.inr a1), .inl a2] I J Rf G (some (.inl r)) I J Rf G := by
  obtain ⟨e, rfl⟩ : ∃ e, d = e + 1 := ⟨d - 1, by omega⟩
  unfold m_47 at h
  refine sp_in (lo := [some (.inr (.inr th)), some (.inl a0), some (.inr (.inr a1)), some (.inl a2), none, none, none, none, none]) (B := (0, 0)) rfl (Nat.le_of_ble_eq_true rfl) rfl rfl ?_
  refine go_aload_n (pc' := 1) rfl rfl rfl ?_
  refine go_getR (pc' := 4) rfl rfl hth rfl ?_
  obtain ⟨g0, h⟩ := o_gE h
  refine go_getI (pc' := 7) rfl rfl (by decide) (by decide) (o_kdE g0) rfl ?_
  refine go_iconst (pc' := 8) (v := (nI 1)) rfl rfl rfl ?_
  refine go_iadd (pc' := 9) rfl rfl ?_
  obtain ⟨x4_9, ex4_9, h⟩ := o_b1E h
  refine go_ndI ex4_9 ?_
  refine go_istore (pc' := 11) (lo' := [some (.inr (.inr th)), some (.inl a0), some (.inr (.inr a1)), some (.inl a2), some (.inl x4_9), none, none, none, none]) rfl rfl rfl ?_
  refine go_iconst (pc' := 12) (v := (nI 1)) rfl rfl rfl ?_
  refine go_istore (pc' := 14) (lo' := [some (.inr (.inr th)), some (.inl a0), some (.inr (.inr a1)), some (.inl a2), some (.inl x4_9), some (.inl (nI 1)), none, none, none]) rfl rfl rfl ?_
  refine go_iconst (pc' := 15) (v := (nI 0)) rfl rfl rfl ?_
  refine go_istore (pc' := 17) (lo' := [some (.inr (.inr th)), some (.inl a0), some (.inr (.inr a1)), some (.inl a2), some (.inl x4_9), some (.inl (nI 1)), some (.inl (nI 0)), none, none]) rfl rfl rfl ?_
  obtain ⟨q17, hl17, hc17_104⟩ := o_s1E h
  have ex17_104 : ∀ (w5_104 : Int32) (z6_x104 : Option ai_V) (z7_x104 : Option ai_V) (z8_x104 : Option ai_V), w5_104 = q17 → ai_Go si_t (3, false, 3, cd_47) (ai_Cl si_t si_ms e) (sp_Q (some (.inl r)) I J Rf G) 104 [some (.inr (.inr th)), some (.inl a0), some (.inr (.inr a1)), some (.inl a2), some (.inl x4_9), some (.inl w5_104), z6_x104, z7_x104, z8_x104] [] (0, 0) I J Rf G := by
    intro w5_104 z6_x104 z7_x104 z8_x104 hq
    have h : m_47_x17_104 x4_9 w5_104 = some r := hc17_104 w5_104 hq.symm
    unfold m_47_x17_104 at h
    refine go_iload (pc' := 106) rfl rfl rfl ?_
    refine go_iconst (pc' := 107) (v := (nI 1)) rfl rfl rfl ?_
    refine go_iload (pc' := 109) rfl rfl rfl ?_
    refine go_ishl (pc' := 110) rfl rfl ?_
    refine go_iconst (pc' := 111) (v := (nI 1)) rfl rfl rfl ?_
    refine go_isub (pc' := 112) rfl rfl ?_
    refine go_icmp_ne (pt := 119) (pc' := 115) rfl rfl rfl (fun h112 => ?_) (fun h112 => ?_)
    · replace h := o_f h112 h
      refine go_iconst (pc' := 120) (v := (nI 0)) rfl rfl rfl ?_
      cases h
      exact go_iret rfl (rfl) ⟨rfl, rfl, rfl, rfl, rfl⟩
    · replace h := o_t (Decidable.of_not_not h112) h
      refine go_iconst (pc' := 116) (v := (nI 1)) rfl rfl rfl ?_
      refine go_goto (pc' := 120) rfl rfl ?_
      cases h
      exact go_iret rfl (rfl) ⟨rfl, rfl, rfl, rfl, rfl⟩
  have lo17 : ∀ n s, lp (fun s => m_47_b17 th a0 a1 a2 I Rf G x4_9 s.1 s.2) n s = some q17 → (fun s => ∀ (z7_17 : Option ai_V) (z8_17 : Option ai_V), ai_Go si_t (3, false, 3, cd_47) (ai_Cl si_t si_ms e) (sp_Q (some (.inl r)) I J Rf G) 17 [some (.inr (.inr th)), some (.inl a0), some (.inr (.inr a1)), some (.inl a2), some (.inl x4_9), some (.inl s.1), some (.inl s.2), z7_17, z8_17] [] (0, 0) I J Rf G) s := lp_go (fun s x17 hx hk17 => by
    obtain ⟨v5_17, v6_17⟩ := s
    intro z7_17 z8_17
    have h : m_47_b17 th a0 a1 a2 I Rf G x4_9 v5_17 v6_17 = some x17 := hx
    clear hx
    show ai_Go si_t (3, false, 3, cd_47) (ai_Cl si_t si_ms e) (sp_Q (some (.inl r)) I J Rf G) 17 [some (.inr (.inr th)), some (.inl a0), some (.inr (.inr a1)), some (.inl a2), some (.inl x4_9), some (.inl v5_17), some (.inl v6_17), z7_17, z8_17] [] (0, 0) I J Rf G
    unfold m_47_b17 at h
    refine go_iload (pc' := 19) rfl rfl rfl ?_
    refine go_iload (pc' := 21) rfl rfl rfl ?_
    refine go_icmp_ge (pt := 104) (pc' := 24) rfl rfl rfl (fun h21 => ?_) (fun h21 => ?_)
    · replace h := o_t h21 h
      exact ex17_104 _ (some (.inl v6_17)) z7_17 z8_17 (lp_exitE h hk17)
    · replace h := o_f h21 h
      refine go_iconst (pc' := 25) (v := (nI 0)) rfl rfl rfl ?_
      refine go_istore (pc' := 27) (lo' := [some (.inr (.inr th)), some (.inl a0), some (.inr (.inr a1)), some (.inl a2), some (.inl x4_9), some (.inl v5_17), some (.inl v6_17), some (.inl (nI 0)), z8_17]) rfl rfl rfl ?_
      obtain ⟨q27, hl27, hc27_98⟩ := o_s1E h
      have ex27_98 : ∀ (w5_98 : Int32) (z7_x98 : Option ai_V) (z8_x98 : Option ai_V), w5_98 = q27 → ai_Go si_t (3, false, 3, cd_47) (ai_Cl si_t si_ms e) (sp_Q (some (.inl r)) I J Rf G) 98 [some (.inr (.inr th)), some (.inl a0), some (.inr (.inr a1)), some (.inl a2), some (.inl x4_9), some (.inl w5_98), some (.inl v6_17), z7_x98, z8_x98] [] (0, 0) I J Rf G := by
        intro w5_98 z7_x98 z8_x98 hq
        have h : m_47_x27_98 v6_17 w5_98 = some x17 := hc27_98 w5_98 hq.symm
        unfold m_47_x27_98 at h
        obtain ⟨x6_98, ex6_98, h⟩ := o_b1E h
        refine go_iincE (pc' := 101) rfl rfl (y := (nI 1)) rfl ex6_98 (lo' := [some (.inr (.inr th)), some (.inl a0), some (.inr (.inr a1)), some (.inl a2), some (.inl x4_9), some (.inl w5_98), some (.inl x6_98), z7_x98, z8_x98]) rfl rfl ?_
        refine go_goto (pc' := 17) rfl rfl ?_
        exact (lp_backE h hk17 z7_x98 z8_x98 :)
      have lo27 : ∀ n s, lp (fun s => m_47_b27 th a0 a1 a2 I Rf G s.1 s.2) n s = some q27 → (fun s => ∀ (z8_27 : Option ai_V), ai_Go si_t (3, false, 3, cd_47) (ai_Cl si_t si_ms e) (sp_Q (some (.inl r)) I J Rf G) 27 [some (.inr (.inr th)), some (.inl a0), some (.inr (.inr a1)), some (.inl a2), some (.inl x4_9), some (.inl s.1), some (.inl v6_17), some (.inl s.2), z8_27] [] (0, 0) I J Rf G) s := lp_go (fun s x27 hx hk27 => by
        obtain ⟨v5_27, v7_27⟩ := s
        intro z8_27
        have h : m_47_b27 th a0 a1 a2 I Rf G v5_27 v7_27 = some x27 := hx
        clear hx
        show ai_Go si_t (3, false, 3, cd_47) (ai_Cl si_t si_ms e) (sp_Q (some (.inl r)) I J Rf G) 27 [some (.inr (.inr th)), some (.inl a0), some (.inr (.inr a1)), some (.inl a2), some (.inl x4_9), some (.inl v5_27), some (.inl v6_17), some (.inl v7_27), z8_27] [] (0, 0) I J Rf G
        unfold m_47_b27 at h
        refine go_iload (pc' := 29) rfl rfl rfl ?_
        refine go_aload_n (pc' := 30) rfl rfl rfl ?_
        refine go_getR (pc' := 33) rfl rfl hth rfl ?_
        refine go_getI (pc' := 36) rfl rfl (by decide) (by decide) (o_kdE g0) rfl ?_
        refine go_icmp_ge (pt := 98) (pc' := 39) rfl rfl rfl (fun h36 => ?_) (fun h36 => ?_)
        · replace h := o_t h36 h
          exact ex27_98 _ (some (.inl v7_27)) z8_27 (lp_exitE h hk27)
        · replace h := o_f h36 h
          refine go_iconst (pc' := 40) (v := (nI 1)) rfl rfl rfl ?_
          refine go_aload_n (pc' := 41) rfl rfl rfl ?_
          refine go_iload_n (pc' := 42) rfl rfl rfl ?_
          refine go_iconst (pc' := 43) (v := (nI 3)) rfl rfl rfl ?_
          refine go_iconst (pc' := 44) (v := (nI 2)) rfl rfl rfl ?_
          refine go_iload (pc' := 46) rfl rfl rfl ?_
          refine go_imul (pc' := 47) rfl rfl ?_
          refine go_iadd (pc' := 48) rfl rfl ?_
          obtain ⟨g1, h⟩ := o_gE h
          obtain ⟨r_48, q_48, h⟩ := o_b1E h
          refine go_callV (pc' := 51) (B' := (0, 0)) (st' := [.inl r_48, .inl (nI 1)]) rfl rfl (Or.inl (by decide)) rfl rfl (o_kdE g1) (md_4 (by omega) (o_kdE g1) q_48) rfl rfl rfl ?_
          refine go_ishl (pc' := 52) rfl rfl ?_
          refine go_iconst (pc' := 53) (v := (nI 1)) rfl rfl rfl ?_
          refine go_aload_n (pc' := 54) rfl rfl rfl ?_
          refine go_iload_n (pc' := 55) rfl rfl rfl ?_
          refine go_iconst (pc' := 56) (v := (nI 4)) rfl rfl rfl ?_
          refine go_iconst (pc' := 57) (v := (nI 2)) rfl rfl rfl ?_
          refine go_iload (pc' := 59) rfl rfl rfl ?_
          refine go_imul (pc' := 60) rfl rfl ?_
          refine go_iadd (pc' := 61) rfl rfl ?_
          obtain ⟨r_61, q_61, h⟩ := o_b1E h
          refine go_callV (pc' := 64) (B' := (0, 0)) (st' := [.inl r_61, .inl (nI 1), .inl ((nI 1) <<< (r_48 &&& 31))]) rfl rfl (Or.inl (by decide)) rfl rfl (o_kdE g1) (md_4 (by omega) (o_kdE g1) q_61) rfl rfl rfl ?_
          refine go_ishl (pc' := 65) rfl rfl ?_
          refine go_ior (pc' := 66) rfl rfl ?_
          obtain ⟨x8_66, ex8_66, h⟩ := o_b1E h
          refine go_ndI ex8_66 ?_
          refine go_istore (pc' := 68) (lo' := [some (.inr (.inr th)), some (.inl a0), some (.inr (.inr a1)), some (.inl a2), some (.inl x4_9), some (.inl v5_27), some (.inl v6_17), some (.inl v7_27), some (.inl x8_66)]) rfl rfl rfl ?_
          refine go_iload_n (pc' := 69) rfl rfl rfl ?_
          refine go_iload (pc' := 71) rfl rfl rfl ?_
          obtain ⟨r_71, q_71, h⟩ := o_b1E h
          refine go_callS (pc' := 74) (B' := (0, 0)) (st' := [.inl r_71]) rfl rfl (Or.inl (by decide)) rfl rfl trivial (md_183 (by omega) q_71) rfl rfl rfl ?_
          refine go_if_eq (pt := 92) (pc' := 77) rfl rfl rfl (fun h74 => ?_) (fun h74 => ?_)
          · replace h := o_t h74 h
            obtain ⟨x7_92, ex7_92, h⟩ := o_b1E h
            refine go_iincE (pc' := 95) rfl rfl (y := (nI 1)) rfl ex7_92 (lo' := [some (.inr (.inr th)), some (.inl a0), some (.inr (.inr a1)), some (.inl a2), some (.inl x4_9), some (.inl v5_27), some (.inl v6_17), some (.inl x7_92), some (.inl x8_66)]) rfl rfl ?_
            refine go_goto (pc' := 27) rfl rfl ?_
            exact (lp_backE h hk27 (some (.inl x8_66)) :)
          · replace h := o_f h74 h
            refine go_iload (pc' := 79) rfl rfl rfl ?_
            refine go_iload (pc' := 81) rfl rfl rfl ?_
            refine go_iand (pc' := 82) rfl rfl ?_
            refine go_if_eq (pt := 92) (pc' := 85) rfl rfl rfl (fun h82 => ?_) (fun h82 => ?_)
            · replace h := o_t h82 h
              obtain ⟨x7_92, ex7_92, h⟩ := o_b1E h
              refine go_iincE (pc' := 95) rfl rfl (y := (nI 1)) rfl ex7_92 (lo' := [some (.inr (.inr th)), some (.inl a0), some (.inr (.inr a1)), some (.inl a2), some (.inl x4_9), some (.inl v5_27), some (.inl v6_17), some (.inl x7_92), some (.inl x8_66)]) rfl rfl ?_
              refine go_goto (pc' := 27) rfl rfl ?_
              exact (lp_backE h hk27 (some (.inl x8_66)) :)
            · replace h := o_f h82 h
              refine go_iload (pc' := 87) rfl rfl rfl ?_
              refine go_iload (pc' := 89) rfl rfl rfl ?_
              refine go_ior (pc' := 90) rfl rfl ?_
              obtain ⟨x5_90, ex5_90, h⟩ := o_b1E h
              refine go_ndI ex5_90 ?_
              refine go_istore (pc' := 92) (lo' := [some (.inr (.inr th)), some (.inl a0), some (.inr (.inr a1)), some (.inl a2), some (.inl x4_9), some (.inl x5_90), some (.inl v6_17), some (.inl v7_27), some (.inl x8_66)]) rfl rfl rfl ?_
              obtain ⟨x7_92, ex7_92, h⟩ := o_b1E h
              refine go_iincE (pc' := 95) rfl rfl (y := (nI 1)) rfl ex7_92 (lo' := [some (.inr (.inr th)), some (.inl a0), some (.inr (.inr a1)), some (.inl a2), some (.inl x4_9), some (.inl x5_90), some (.inl v6_17), some (.inl x7_92), some (.inl x8_66)]) rfl rfl ?_
              refine go_goto (pc' := 27) rfl rfl ?_
              exact (lp_backE h hk27 (some (.inl x8_66)) :))
      exact lo27 _ (v5_17, (nI 0)) hl27 z8_17)
  exact lo17 _ ((nI 1), (nI 0)) hl17 none none
def m_46_x2_52 (Ix_52 : ai_I) : Option (ai_I) :=
  some Ix_52
def m_46_b2 (th : Nat) (a0 : Nat) (a1 : Int32) (Rf : ai_R) (G : ai_G) (v3_2 : Int32) (I_2 : ai_I) : Option ((Int32 × ai_I) ⊕ ai_I) :=
  o_g (o_kd G (Rf th 0) 8) (o_b1 (m_118 (Rf th 0) I_2) (fun r_7 => if r_7 ≤ v3_2 then (some (Sum.inr I_2)) else (o_b1 (m_331 v3_2) (fun r_14 => if r_14 = (I_2 (Rf th 0) 1) then (o_b1 (m_47 th v3_2 a0 a1 I_2 Rf G) (fun r_31 => if r_31 = 0 then (o_b1 (some (v3_2 + (nI 1))) (fun x3_46 => some (Sum.inl (x3_46, I_2)))) else (o_b1 (m_113 (Rf th 0) v3_2 (nI 0) I_2 Rf G) (fun I_43 => o_b1 (some (v3_2 + (nI 1))) (fun x3_46 => some (Sum.inl (x3_46, I_43))))))) else (o_b1 (some (v3_2 + (nI 1))) (fun x3_46 => some (Sum.inl (x3_46, I_2))))))))
/-- PricedBases$Maker.makeGraph(LPricedBases$Clauses;I)V -/
def m_46 (th : Nat) (a0 : Nat) (a1 : Int32) (I : ai_I) (Rf : ai_R) (G : ai_G) : Option (ai_I) :=
  o_s1 (lp (fun s => m_46_b2 th a0 a1 Rf G s.1 s.2) o_N ((nI 0), I)) (fun t => m_46_x2_52 t)
theorem md_46 {d : Nat} {I : ai_I} {J : ai_J} {Rf : ai_R} {G : ai_G} {th : Nat} {a0 : Nat} {a1 : Int32} {I1 : ai_I} (hd : 3 ≤ d) (hth : G.1 th = 3) (h : m_46 th a0 a1 I Rf G = some I1) : ai_Cl si_t si_ms d 46 [.inr (.inr th), .inr (.inr a0), .inl a1] I J Rf G none I1 J Rf G := by
  obtain ⟨e, rfl⟩ : ∃ e, d = e + 1 := ⟨d - 1, by omega⟩
  unfold m_46 at h
  refine sp_in (lo := [some (.inr (.inr th)), some (.inr (.inr a0)), some (.inl a1), none]) (B := (0, 0)) rfl (Nat.le_of_ble_eq_true rfl) rfl rfl ?_
  refine go_iconst (pc' := 1) (v := (nI 0)) rfl rfl rfl ?_
  refine go_istore_n (pc' := 2) (lo' := [some (.inr (.inr th)), some (.inr (.inr a0)), some (.inl a1), some (.inl (nI 0))]) rfl rfl rfl ?_
  obtain ⟨q2, hl2, hc2_52⟩ := o_s1E h
  have ex2_52 : ∀ (Ix_52 : ai_I) (z3_x52 : Option ai_V), Ix_52 = q2 → ai_Go si_t (3, false, 9, cd_46) (ai_Cl si_t si_ms e) (sp_Q none I1 J Rf G) 52 [some (.inr (.inr th)), some (.inr (.inr a0)), some (.inl a1), z3_x52] [] (0, 0) Ix_52 J Rf G := by
    intro Ix_52 z3_x52 hq
    have h : m_46_x2_52 Ix_52 = some I1 := hc2_52 Ix_52 hq.symm
    unfold m_46_x2_52 at h
    cases h
    exact go_vret rfl (rfl) ⟨rfl, rfl, rfl, rfl, rfl⟩
  have lo2 : ∀ n s, lp (fun s => m_46_b2 th a0 a1 Rf G s.1 s.2) n s = some q2 → (fun s => ai_Go si_t (3, false, 9, cd_46) (ai_Cl si_t si_ms e) (sp_Q none I1 J Rf G) 2 [some (.inr (.inr th)), some (.inr (.inr a0)), some (.inl a1), some (.inl s.1)] [] (0, 0) s.2 J Rf G) s := lp_go (fun s x2 hx hk2 => by
    obtain ⟨v3_2, I_2⟩ := s
    have h : m_46_b2 th a0 a1 Rf G v3_2 I_2 = some x2 := hx
    clear hx
    show ai_Go si_t (3, false, 9, cd_46) (ai_Cl si_t si_ms e) (sp_Q none I1 J Rf G) 2 [some (.inr (.inr th)), some (.inr (.inr a0)), some (.inl a1), some (.inl v3_2)] [] (0, 0) I_2 J Rf G
    unfold m_46_b2 at h
    refine go_iload_n (pc' := 3) rfl rfl rfl ?_
    refine go_aload_n (pc' := 4) rfl rfl rfl ?_
    refine go_getR (pc' := 7) rfl rfl hth rfl ?_
    obtain ⟨g0, h⟩ := o_gE h
    obtain ⟨r_7, q_7, h⟩ := o_b1E h
    refine go_callV (pc' := 10) (B' := (0, 0)) (st' := [.inl r_7, .inl v3_2]) rfl rfl (Or.inl (by decide)) rfl rfl (o_kdE g0) (md_118 (by omega) (o_kdE g0) q_7) rfl rfl rfl ?_
    refine go_icmp_ge (pt := 52) (pc' := 13) rfl rfl rfl (fun h10 => ?_) (fun h10 => ?_)
    · replace h := o_t h10 h
      exact ex2_52 _ (some (.inl v3_2)) (lp_exitE h hk2)
    · replace h := o_f h10 h
      refine go_iload_n (pc' := 14) rfl rfl rfl ?_
      obtain ⟨r_14, q_14, h⟩ := o_b1E h
      refine go_callS (pc' := 17) (B' := (0, 0)) (st' := [.inl r_14]) rfl rfl (Or.inl (by decide)) rfl rfl trivial (md_331 (by omega) q_14) rfl rfl rfl ?_
      refine go_aload_n (pc' := 18) rfl rfl rfl ?_
      refine go_getR (pc' := 21) rfl rfl hth rfl ?_
      refine go_getI (pc' := 24) rfl rfl (by decide) (by decide) (o_kdE g0) rfl ?_
      refine go_icmp_ne (pt := 46) (pc' := 27) rfl rfl rfl (fun h24 => ?_) (fun h24 => ?_)
      · replace h := o_f h24 h
        obtain ⟨x3_46, ex3_46, h⟩ := o_b1E h
        refine go_iincE (pc' := 49) rfl rfl (y := (nI 1)) rfl ex3_46 (lo' := [some (.inr (.inr th)), some (.inr (.inr a0)), some (.inl a1), some (.inl x3_46)]) rfl rfl ?_
        refine go_goto (pc' := 2) rfl rfl ?_
        exact (lp_backE h hk2 :)
      · replace h := o_t (Decidable.of_not_not h24) h
        refine go_aload_n (pc' := 28) rfl rfl rfl ?_
        refine go_iload_n (pc' := 29) rfl rfl rfl ?_
        refine go_aload_n (pc' := 30) rfl rfl rfl ?_
        refine go_iload_n (pc' := 31) rfl rfl rfl ?_
        obtain ⟨r_31, q_31, h⟩ := o_b1E h
        refine go_callV (pc' := 34) (B' := (0, 0)) (st' := [.inl r_31]) rfl rfl (Or.inl (by decide)) rfl rfl hth (md_47 (by omega) hth q_31) rfl rfl rfl ?_
        refine go_if_eq (pt := 46) (pc' := 37) rfl rfl rfl (fun h34 => ?_) (fun h34 => ?_)
        · replace h := o_t h34 h
          obtain ⟨x3_46, ex3_46, h⟩ := o_b1E h
          refine go_iincE (pc' := 49) rfl rfl (y := (nI 1)) rfl ex3_46 (lo' := [some (.inr (.inr th)), some (.inr (.inr a0)), some (.inl a1), some (.inl x3_46)]) rfl rfl ?_
          refine go_goto (pc' := 2) rfl rfl ?_
          exact (lp_backE h hk2 :)
        · replace h := o_f h34 h
          refine go_aload_n (pc' := 38) rfl rfl rfl ?_
          refine go_getR (pc' := 41) rfl rfl hth rfl ?_
          refine go_iload_n (pc' := 42) rfl rfl rfl ?_
          refine go_iconst (pc' := 43) (v := (nI 0)) rfl rfl rfl ?_
          obtain ⟨I_43, q_43, h⟩ := o_b1E h
          refine go_callV (pc' := 46) (B' := (0, 0)) (st' := []) rfl rfl (Or.inl (by decide)) rfl rfl (o_kdE g0) (md_113 (by omega) (o_kdE g0) q_43) rfl rfl rfl ?_
          obtain ⟨x3_46, ex3_46, h⟩ := o_b1E h
          refine go_iincE (pc' := 49) rfl rfl (y := (nI 1)) rfl ex3_46 (lo' := [some (.inr (.inr th)), some (.inr (.inr a0)), some (.inl a1), some (.inl x3_46)]) rfl rfl ?_
          refine go_goto (pc' := 2) rfl rfl ?_
          exact (lp_backE h hk2 :))
  exact lo2 _ ((nI 0), I) hl2 
def m_48_x2_40 (Ix_40 : ai_I) : Option (ai_I) :=
  some Ix_40
def m_48_b2 (th : Nat) (a0 : Nat) (a1 : Int32) (Rf : ai_R) (G : ai_G) (v3_2 : Int32) (I_2 : ai_I) : Option ((Int32 × ai_I) ⊕ ai_I) :=
  o_g (o_kd G a0 0) (o_b1 (m_3 a0 a1 I_2 Rf G) (fun r_7 => if r_7 ≤ (v3_2 + (nI 1)) then (some (Sum.inr I_2)) else (o_b1 (m_4 a0 a1 v3_2 I_2 Rf G) (fun r_20 => o_b1 (m_4 a0 a1 (v3_2 + (nI 1)) I_2 Rf G) (fun r_28 => o_g (o_kd G (Rf th 0) 8) (o_b1 (m_113 (Rf th 0) r_20 r_28 I_2 Rf G) (fun I_31 => o_b1 (some (v3_2 + (nI 2))) (fun x3_34 => some (Sum.inl (x3_34, I_31))))))))))
/-- PricedBases$Maker.makeTold(LPricedBases$Clauses;I)V -/
def m_48 (th : Nat) (a0 : Nat) (a1 : Int32) (I : ai_I) (Rf : ai_R) (G : ai_G) : Option (ai_I) :=
  o_s1 (lp (fun s => m_48_b2 th a0 a1 Rf G s.1 s.2) o_N ((nI 3), I)) (fun t => m_48_x2_40 t)
theorem md_48 {d : Nat} {I : ai_I} {J : ai_J} {Rf : ai_R} {G : ai_G} {th : Nat} {a0 : Nat} {a1 : Int32} {I1 : ai_I} (hd : 2 ≤ d) (hth : G.1 th = 3) (h : m_48 th a0 a1 I Rf G = some I1) : ai_Cl si_t si_ms d 48 [.inr (.inr th), .inr (.inr a0), .inl a1] I J Rf G none I1 J Rf G := by
  obtain ⟨e, rfl⟩ : ∃ e, d = e + 1 := ⟨d - 1, by omega⟩
  unfold m_48 at h
  refine sp_in (lo := [some (.inr (.inr th)), some (.inr (.inr a0)), some (.inl a1), none]) (B := (0, 0)) rfl (Nat.le_of_ble_eq_true rfl) rfl rfl ?_
  refine go_iconst (pc' := 1) (v := (nI 3)) rfl rfl rfl ?_
  refine go_istore_n (pc' := 2) (lo' := [some (.inr (.inr th)), some (.inr (.inr a0)), some (.inl a1), some (.inl (nI 3))]) rfl rfl rfl ?_
  obtain ⟨q2, hl2, hc2_40⟩ := o_s1E h
  have ex2_40 : ∀ (Ix_40 : ai_I) (z3_x40 : Option ai_V), Ix_40 = q2 → ai_Go si_t (3, false, 9, cd_48) (ai_Cl si_t si_ms e) (sp_Q none I1 J Rf G) 40 [some (.inr (.inr th)), some (.inr (.inr a0)), some (.inl a1), z3_x40] [] (0, 0) Ix_40 J Rf G := by
    intro Ix_40 z3_x40 hq
    have h : m_48_x2_40 Ix_40 = some I1 := hc2_40 Ix_40 hq.symm
    unfold m_48_x2_40 at h
    cases h
    exact go_vret rfl (rfl) ⟨rfl, rfl, rfl, rfl, rfl⟩
  have lo2 : ∀ n s, lp (fun s => m_48_b2 th a0 a1 Rf G s.1 s.2) n s = some q2 → (fun s => ai_Go si_t (3, false, 9, cd_48) (ai_Cl si_t si_ms e) (sp_Q none I1 J Rf G) 2 [some (.inr (.inr th)), some (.inr (.inr a0)), some (.inl a1), some (.inl s.1)] [] (0, 0) s.2 J Rf G) s := lp_go (fun s x2 hx hk2 => by
    obtain ⟨v3_2, I_2⟩ := s
    have h : m_48_b2 th a0 a1 Rf G v3_2 I_2 = some x2 := hx
    clear hx
    show ai_Go si_t (3, false, 9, cd_48) (ai_Cl si_t si_ms e) (sp_Q none I1 J Rf G) 2 [some (.inr (.inr th)), some (.inr (.inr a0)), some (.inl a1), some (.inl v3_2)] [] (0, 0) I_2 J Rf G
    unfold m_48_b2 at h
    refine go_iload_n (pc' := 3) rfl rfl rfl ?_
    refine go_iconst (pc' := 4) (v := (nI 1)) rfl rfl rfl ?_
    refine go_iadd (pc' := 5) rfl rfl ?_
    refine go_aload_n (pc' := 6) rfl rfl rfl ?_
    refine go_iload_n (pc' := 7) rfl rfl rfl ?_
    obtain ⟨g0, h⟩ := o_gE h
    obtain ⟨r_7, q_7, h⟩ := o_b1E h
    refine go_callV (pc' := 10) (B' := (0, 0)) (st' := [.inl r_7, .inl (v3_2 + (nI 1))]) rfl rfl (Or.inl (by decide)) rfl rfl (o_kdE g0) (md_3 (by omega) (o_kdE g0) q_7) rfl rfl rfl ?_
    refine go_icmp_ge (pt := 40) (pc' := 13) rfl rfl rfl (fun h10 => ?_) (fun h10 => ?_)
    · replace h := o_t h10 h
      exact ex2_40 _ (some (.inl v3_2)) (lp_exitE h hk2)
    · replace h := o_f h10 h
      refine go_aload_n (pc' := 14) rfl rfl rfl ?_
      refine go_getR (pc' := 17) rfl rfl hth rfl ?_
      refine go_aload_n (pc' := 18) rfl rfl rfl ?_
      refine go_iload_n (pc' := 19) rfl rfl rfl ?_
      refine go_iload_n (pc' := 20) rfl rfl rfl ?_
      obtain ⟨r_20, q_20, h⟩ := o_b1E h
      refine go_callV (pc' := 23) (B' := (0, 0)) (st' := [.inl r_20, .inr (.inr (Rf th 0))]) rfl rfl (Or.inl (by decide)) rfl rfl (o_kdE g0) (md_4 (by omega) (o_kdE g0) q_20) rfl rfl rfl ?_
      refine go_aload_n (pc' := 24) rfl rfl rfl ?_
      refine go_iload_n (pc' := 25) rfl rfl rfl ?_
      refine go_iload_n (pc' := 26) rfl rfl rfl ?_
      refine go_iconst (pc' := 27) (v := (nI 1)) rfl rfl rfl ?_
      refine go_iadd (pc' := 28) rfl rfl ?_
      obtain ⟨r_28, q_28, h⟩ := o_b1E h
      refine go_callV (pc' := 31) (B' := (0, 0)) (st' := [.inl r_28, .inl r_20, .inr (.inr (Rf th 0))]) rfl rfl (Or.inl (by decide)) rfl rfl (o_kdE g0) (md_4 (by omega) (o_kdE g0) q_28) rfl rfl rfl ?_
      obtain ⟨g1, h⟩ := o_gE h
      obtain ⟨I_31, q_31, h⟩ := o_b1E h
      refine go_callV (pc' := 34) (B' := (0, 0)) (st' := []) rfl rfl (Or.inl (by decide)) rfl rfl (o_kdE g1) (md_113 (by omega) (o_kdE g1) q_31) rfl rfl rfl ?_
      obtain ⟨x3_34, ex3_34, h⟩ := o_b1E h
      refine go_iincE (pc' := 37) rfl rfl (y := (nI 2)) rfl ex3_34 (lo' := [some (.inr (.inr th)), some (.inr (.inr a0)), some (.inl a1), some (.inl x3_34)]) rfl rfl ?_
      refine go_goto (pc' := 2) rfl rfl ?_
      exact (lp_backE h hk2 :))
  exact lo2 _ ((nI 3), I) hl2 
def m_39_j22 (th : Nat) (a0 : Int32) (a1 : Nat) (a2 : Int32) (I : ai_I) (Rf : ai_R) (G : ai_G) (t0_22 : Int32) : Option (Int32 × ai_I) :=
  o_g (o_kd G a1 0) (o_b1 (m_4 a1 a2 (nI 1) I Rf G) (fun r_28 => o_b2 (m_41 th r_28 t0_22 I Rf G) (fun r_33 I_33 => if r_33 = 0 then (some ((nI 0), I_33)) else (if a0 = (nI 1) then (o_b1 (m_43 th I_33 Rf G) (fun I_47 => some ((nI 1), I_47))) else (if a0 = (nI 2) then (o_b1 (m_44 th a1 a2 I_33 Rf G) (fun I_61 => some ((nI 1), I_61))) else (if a0 = (nI 3) then (o_b1 (m_46 th a1 a2 I_33 Rf G) (fun I_75 => some ((nI 1), I_75))) else (o_b1 (m_48 th a1 a2 I_33 Rf G) (fun I_84 => some ((nI 1), I_84)))))))))
/-- PricedBases$Maker.isTable(ILPricedBases$Clauses;I)Z -/
def m_39 (th : Nat) (a0 : Int32) (a1 : Nat) (a2 : Int32) (I : ai_I) (Rf : ai_R) (G : ai_G) : Option (Int32 × ai_I) :=
  if a0 = (nI 3) then (o_g (o_kd G a1 0) (o_b1 (m_4 a1 a2 (nI 2) I Rf G) (fun r_8 => m_39_j22 th a0 a1 a2 I Rf G (r_8 - (nI 1))))) else (o_g (o_kd G a1 0) (o_b1 (m_4 a1 a2 (nI 2) I Rf G) (fun r_19 => m_39_j22 th a0 a1 a2 I Rf G r_19)))
theorem md_39 {d : Nat} {I : ai_I} {J : ai_J} {Rf : ai_R} {G : ai_G} {th : Nat} {a0 : Int32} {a1 : Nat} {a2 : Int32} {r : Int32} {I1 : ai_I} (hd : 4 ≤ d) (hth : G.1 th = 3) (h : m_39 th a0 a1 a2 I Rf G = some (r, I1)) : ai_Cl si_t si_ms d 39 [.inr (.inr th), .inl a0, .inr (.inr a1), .inl a2] I J Rf G (some (.inl r)) I1 J Rf G := by
  obtain ⟨e, rfl⟩ : ∃ e, d = e + 1 := ⟨d - 1, by omega⟩
  unfold m_39 at h
  refine sp_in (lo := [some (.inr (.inr th)), some (.inl a0), some (.inr (.inr a1)), some (.inl a2), none]) (B := (0, 0)) rfl (Nat.le_of_ble_eq_true rfl) rfl rfl ?_
  refine go_iload_n (pc' := 1) rfl rfl rfl ?_
  refine go_iconst (pc' := 2) (v := (nI 3)) rfl rfl rfl ?_
  have jn22 : ∀ (t0_22 : Int32), m_39_j22 th a0 a1 a2 I Rf G t0_22 = some (r, I1) → ai_Go si_t (3, false, 3, cd_39) (ai_Cl si_t si_ms e) (sp_Q (some (.inl r)) I1 J Rf G) 22 [some (.inr (.inr th)), some (.inl a0), some (.inr (.inr a1)), some (.inl a2), none] [.inl t0_22] (0, 0) I J Rf G := by
    intro t0_22 h
    unfold m_39_j22 at h
    refine go_istore (pc' := 24) (lo' := [some (.inr (.inr th)), some (.inl a0), some (.inr (.inr a1)), some (.inl a2), some (.inl t0_22)]) rfl rfl rfl ?_
    refine go_aload_n (pc' := 25) rfl rfl rfl ?_
    refine go_aload_n (pc' := 26) rfl rfl rfl ?_
    refine go_iload_n (pc' := 27) rfl rfl rfl ?_
    refine go_iconst (pc' := 28) (v := (nI 1)) rfl rfl rfl ?_
    obtain ⟨g0, h⟩ := o_gE h
    obtain ⟨r_28, q_28, h⟩ := o_b1E h
    refine go_callV (pc' := 31) (B' := (0, 0)) (st' := [.inl r_28, .inr (.inr th)]) rfl rfl (Or.inl (by decide)) rfl rfl (o_kdE g0) (md_4 (by omega) (o_kdE g0) q_28) rfl rfl rfl ?_
    refine go_iload (pc' := 33) rfl rfl rfl ?_
    obtain ⟨r_33, I_33, q_33, h⟩ := o_b2E h
    refine go_callV (pc' := 36) (B' := (0, 0)) (st' := [.inl r_33]) rfl rfl (Or.inl (by decide)) rfl rfl hth (md_41 (by omega) hth q_33) rfl rfl rfl ?_
    refine go_if_ne (pt := 41) (pc' := 39) rfl rfl rfl (fun h36 => ?_) (fun h36 => ?_)
    · replace h := o_f h36 h
      refine go_iload_n (pc' := 42) rfl rfl rfl ?_
      refine go_iconst (pc' := 43) (v := (nI 1)) rfl rfl rfl ?_
      refine go_icmp_ne (pt := 53) (pc' := 46) rfl rfl rfl (fun h43 => ?_) (fun h43 => ?_)
      · replace h := o_f h43 h
        refine go_iload_n (pc' := 54) rfl rfl rfl ?_
        refine go_iconst (pc' := 55) (v := (nI 2)) rfl rfl rfl ?_
        refine go_icmp_ne (pt := 67) (pc' := 58) rfl rfl rfl (fun h55 => ?_) (fun h55 => ?_)
        · replace h := o_f h55 h
          refine go_iload_n (pc' := 68) rfl rfl rfl ?_
          refine go_iconst (pc' := 69) (v := (nI 3)) rfl rfl rfl ?_
          refine go_icmp_ne (pt := 81) (pc' := 72) rfl rfl rfl (fun h69 => ?_) (fun h69 => ?_)
          · replace h := o_f h69 h
            refine go_aload_n (pc' := 82) rfl rfl rfl ?_
            refine go_aload_n (pc' := 83) rfl rfl rfl ?_
            refine go_iload_n (pc' := 84) rfl rfl rfl ?_
            obtain ⟨I_84, q_84, h⟩ := o_b1E h
            refine go_callV (pc' := 87) (B' := (0, 0)) (st' := []) rfl rfl (Or.inl (by decide)) rfl rfl hth (md_48 (by omega) hth q_84) rfl rfl rfl ?_
            refine go_iconst (pc' := 88) (v := (nI 1)) rfl rfl rfl ?_
            cases h
            exact go_iret rfl (rfl) ⟨rfl, rfl, rfl, rfl, rfl⟩
          · replace h := o_t (Decidable.of_not_not h69) h
            refine go_aload_n (pc' := 73) rfl rfl rfl ?_
            refine go_aload_n (pc' := 74) rfl rfl rfl ?_
            refine go_iload_n (pc' := 75) rfl rfl rfl ?_
            obtain ⟨I_75, q_75, h⟩ := o_b1E h
            refine go_callV (pc' := 78) (B' := (0, 0)) (st' := []) rfl rfl (Or.inl (by decide)) rfl rfl hth (md_46 (by omega) hth q_75) rfl rfl rfl ?_
            refine go_goto (pc' := 87) rfl rfl ?_
            refine go_iconst (pc' := 88) (v := (nI 1)) rfl rfl rfl ?_
            cases h
            exact go_iret rfl (rfl) ⟨rfl, rfl, rfl, rfl, rfl⟩
        · replace h := o_t (Decidable.of_not_not h55) h
          refine go_aload_n (pc' := 59) rfl rfl rfl ?_
          refine go_aload_n (pc' := 60) rfl rfl rfl ?_
          refine go_iload_n (pc' := 61) rfl rfl rfl ?_
          obtain ⟨I_61, q_61, h⟩ := o_b1E h
          refine go_callV (pc' := 64) (B' := (0, 0)) (st' := []) rfl rfl (Or.inl (by decide)) rfl rfl hth (md_44 (by omega) hth q_61) rfl rfl rfl ?_
          refine go_goto (pc' := 87) rfl rfl ?_
          refine go_iconst (pc' := 88) (v := (nI 1)) rfl rfl rfl ?_
          cases h
          exact go_iret rfl (rfl) ⟨rfl, rfl, rfl, rfl, rfl⟩
      · replace h := o_t (Decidable.of_not_not h43) h
        refine go_aload_n (pc' := 47) rfl rfl rfl ?_
        obtain ⟨I_47, q_47, h⟩ := o_b1E h
        refine go_callV (pc' := 50) (B' := (0, 0)) (st' := []) rfl rfl (Or.inl (by decide)) rfl rfl hth (md_43 (by omega) hth q_47) rfl rfl rfl ?_
        refine go_goto (pc' := 87) rfl rfl ?_
        refine go_iconst (pc' := 88) (v := (nI 1)) rfl rfl rfl ?_
        cases h
        exact go_iret rfl (rfl) ⟨rfl, rfl, rfl, rfl, rfl⟩
    · replace h := o_t (Decidable.of_not_not h36) h
      refine go_iconst (pc' := 40) (v := (nI 0)) rfl rfl rfl ?_
      cases h
      exact go_iret rfl (rfl) ⟨rfl, rfl, rfl, rfl, rfl⟩
  refine go_icmp_ne (pt := 16) (pc' := 5) rfl rfl rfl (fun h2 => ?_) (fun h2 => ?_)
  · replace h := o_f h2 h
    refine go_aload_n (pc' := 17) rfl rfl rfl ?_
    refine go_iload_n (pc' := 18) rfl rfl rfl ?_
    refine go_iconst (pc' := 19) (v := (nI 2)) rfl rfl rfl ?_
    obtain ⟨g1, h⟩ := o_gE h
    obtain ⟨r_19, q_19, h⟩ := o_b1E h
    refine go_callV (pc' := 22) (B' := (0, 0)) (st' := [.inl r_19]) rfl rfl (Or.inl (by decide)) rfl rfl (o_kdE g1) (md_4 (by omega) (o_kdE g1) q_19) rfl rfl rfl ?_
    exact jn22 r_19 h
  · replace h := o_t (Decidable.of_not_not h2) h
    refine go_aload_n (pc' := 6) rfl rfl rfl ?_
    refine go_iload_n (pc' := 7) rfl rfl rfl ?_
    refine go_iconst (pc' := 8) (v := (nI 2)) rfl rfl rfl ?_
    obtain ⟨g2, h⟩ := o_gE h
    obtain ⟨r_8, q_8, h⟩ := o_b1E h
    refine go_callV (pc' := 11) (B' := (0, 0)) (st' := [.inl r_8]) rfl rfl (Or.inl (by decide)) rfl rfl (o_kdE g2) (md_4 (by omega) (o_kdE g2) q_8) rfl rfl rfl ?_
    refine go_iconst (pc' := 12) (v := (nI 1)) rfl rfl rfl ?_
    refine go_isub (pc' := 13) rfl rfl ?_
    refine go_goto (pc' := 22) rfl rfl ?_
    exact jn22 (r_8 - (nI 1)) h
/-- PricedBases$Valuation.all()I -/
def m_119 (th : Nat) (I : ai_I) : Option (Int32) :=
  o_b1 (m_118 th I) (fun r_1 => some (r_1 - (nI 1)))
theorem md_119 {d : Nat} {I : ai_I} {J : ai_J} {Rf : ai_R} {G : ai_G} {th : Nat} {r : Int32} (hd : 2 ≤ d) (hth : G.1 th = 8) (h : m_119 th I = some r) : ai_Cl si_t si_ms d 119 [.inr (.inr th)] I J Rf G (some (.inl r)) I J Rf G := by
  obtain ⟨e, rfl⟩ : ∃ e, d = e + 1 := ⟨d - 1, by omega⟩
  unfold m_119 at h
  refine sp_in (lo := [some (.inr (.inr th))]) (B := (0, 0)) rfl (Nat.le_of_ble_eq_true rfl) rfl rfl ?_
  refine go_aload_n (pc' := 1) rfl rfl rfl ?_
  obtain ⟨r_1, q_1, h⟩ := o_b1E h
  refine go_callV (pc' := 4) (B' := (0, 0)) (st' := [.inl r_1]) rfl rfl (Or.inl (by decide)) rfl rfl hth (md_118 (by omega) hth q_1) rfl rfl rfl ?_
  refine go_iconst (pc' := 5) (v := (nI 1)) rfl rfl rfl ?_
  refine go_isub (pc' := 6) rfl rfl ?_
  cases h
  exact go_iret rfl (trivial) ⟨rfl, rfl, rfl, rfl, rfl⟩
def m_49_x24_64 (Ix_64 : ai_I) : Option (Int32 × ai_I) :=
  some ((nI 1), Ix_64)
def m_49_b24 (th : Nat) (a0 : Nat) (Rf : ai_R) (G : ai_G) (v2_24 : Int32) (I_24 : ai_I) : Option ((Int32 × ai_I) ⊕ ai_I) :=
  if (I_24 a0 2) ≤ v2_24 then (some (Sum.inr I_24)) else (o_g (o_in G 13 (Rf a0 5) v2_24) (o_b1 (some (I_24 (Rf a0 5) v2_24.toNatClampNeg)) (fun x3_38 => o_b1 (m_119 a0 I_24) (fun r_44 => o_g (o_in G 13 (Rf a0 3) x3_38) (o_g (o_kd G (Rf th 0) 8) (o_b1 (m_113 (Rf th 0) (r_44 ^^^ x3_38) (I_24 (Rf a0 3) x3_38.toNatClampNeg) I_24 Rf G) (fun I_55 => o_b1 (some (v2_24 + (nI 1))) (fun x2_58 => some (Sum.inl (x2_58, I_55))))))))))
/-- PricedBases$Maker.isDual(LPricedBases$Valuation;)Z -/
def m_49 (th : Nat) (a0 : Nat) (I : ai_I) (Rf : ai_R) (G : ai_G) : Option (Int32 × ai_I) :=
  o_g (o_kd G a0 8) (o_b2 (m_41 th (I a0 0) ((I a0 0) - (I a0 1)) I Rf G) (fun r_14 I_14 => if r_14 = 0 then (some ((nI 0), I_14)) else (o_s1 (lp (fun s => m_49_b24 th a0 Rf G s.1 s.2) o_N ((nI 0), I_14)) (fun t => m_49_x24_64 t))))
theorem md_49 {d : Nat} {I : ai_I} {J : ai_J} {Rf : ai_R} {G : ai_G} {th : Nat} {a0 : Nat} {r : Int32} {I1 : ai_I} (hd : 4 ≤ d) (hth : G.1 th = 3) (h : m_49 th a0 I Rf G = some (r, I1)) : ai_Cl si_t si_ms d 49 [.inr (.inr th), .inr (.inr a0)] I J Rf G (some (.inl r)) I1 J Rf G := by
  obtain ⟨e, rfl⟩ : ∃ e, d = e + 1 := ⟨d - 1, by omega⟩
  unfold m_49 at h
  refine sp_in (lo := [some (.inr (.inr th)), some (.inr (.inr a0)), none, none]) (B := (0, 0)) rfl (Nat.le_of_ble_eq_true rfl) rfl rfl ?_
  refine go_aload_n (pc' := 1) rfl rfl rfl ?_
  refine go_aload_n (pc' := 2) rfl rfl rfl ?_
  obtain ⟨g0, h⟩ := o_gE h
  refine go_getI (pc' := 5) rfl rfl (by decide) (by decide) (o_kdE g0) rfl ?_
  refine go_aload_n (pc' := 6) rfl rfl rfl ?_
  refine go_getI (pc' := 9) rfl rfl (by decide) (by decide) (o_kdE g0) rfl ?_
  refine go_aload_n (pc' := 10) rfl rfl rfl ?_
  refine go_getI (pc' := 13) rfl rfl (by decide) (by decide) (o_kdE g0) rfl ?_
  refine go_isub (pc' := 14) rfl rfl ?_
  obtain ⟨r_14, I_14, q_14, h⟩ := o_b2E h
  refine go_callV (pc' := 17) (B' := (0, 0)) (st' := [.inl r_14]) rfl rfl (Or.inl (by decide)) rfl rfl hth (md_41 (by omega) hth q_14) rfl rfl rfl ?_
  refine go_if_ne (pt := 22) (pc' := 20) rfl rfl rfl (fun h17 => ?_) (fun h17 => ?_)
  · replace h := o_f h17 h
    refine go_iconst (pc' := 23) (v := (nI 0)) rfl rfl rfl ?_
    refine go_istore_n (pc' := 24) (lo' := [some (.inr (.inr th)), some (.inr (.inr a0)), some (.inl (nI 0)), none]) rfl rfl rfl ?_
    obtain ⟨q24, hl24, hc24_64⟩ := o_s1E h
    have ex24_64 : ∀ (Ix_64 : ai_I) (z2_x64 : Option ai_V) (z3_x64 : Option ai_V), Ix_64 = q24 → ai_Go si_t (3, false, 3, cd_49) (ai_Cl si_t si_ms e) (sp_Q (some (.inl r)) I1 J Rf G) 64 [some (.inr (.inr th)), some (.inr (.inr a0)), z2_x64, z3_x64] [] (0, 0) Ix_64 J Rf G := by
      intro Ix_64 z2_x64 z3_x64 hq
      have h : m_49_x24_64 Ix_64 = some (r, I1) := hc24_64 Ix_64 hq.symm
      unfold m_49_x24_64 at h
      refine go_iconst (pc' := 65) (v := (nI 1)) rfl rfl rfl ?_
      cases h
      exact go_iret rfl (rfl) ⟨rfl, rfl, rfl, rfl, rfl⟩
    have lo24 : ∀ n s, lp (fun s => m_49_b24 th a0 Rf G s.1 s.2) n s = some q24 → (fun s => ∀ (z3_24 : Option ai_V), ai_Go si_t (3, false, 3, cd_49) (ai_Cl si_t si_ms e) (sp_Q (some (.inl r)) I1 J Rf G) 24 [some (.inr (.inr th)), some (.inr (.inr a0)), some (.inl s.1), z3_24] [] (0, 0) s.2 J Rf G) s := lp_go (fun s x24 hx hk24 => by
      obtain ⟨v2_24, I_24⟩ := s
      intro z3_24
      have h : m_49_b24 th a0 Rf G v2_24 I_24 = some x24 := hx
      clear hx
      show ai_Go si_t (3, false, 3, cd_49) (ai_Cl si_t si_ms e) (sp_Q (some (.inl r)) I1 J Rf G) 24 [some (.inr (.inr th)), some (.inr (.inr a0)), some (.inl v2_24), z3_24] [] (0, 0) I_24 J Rf G
      unfold m_49_b24 at h
      refine go_iload_n (pc' := 25) rfl rfl rfl ?_
      refine go_aload_n (pc' := 26) rfl rfl rfl ?_
      refine go_getI (pc' := 29) rfl rfl (by decide) (by decide) (o_kdE g0) rfl ?_
      refine go_icmp_ge (pt := 64) (pc' := 32) rfl rfl rfl (fun h29 => ?_) (fun h29 => ?_)
      · replace h := o_t h29 h
        exact ex24_64 _ (some (.inl v2_24)) z3_24 (lp_exitE h hk24)
      · replace h := o_f h29 h
        refine go_aload_n (pc' := 33) rfl rfl rfl ?_
        refine go_getR (pc' := 36) rfl rfl (o_kdE g0) rfl ?_
        refine go_iload_n (pc' := 37) rfl rfl rfl ?_
        obtain ⟨g1, h⟩ := o_gE h
        refine go_iaload (pc' := 38) rfl (o_inK g1) (o_inB g1) rfl ?_
        obtain ⟨x3_38, ex3_38, h⟩ := o_b1E h
        refine go_ndI ex3_38 ?_
        refine go_istore_n (pc' := 39) (lo' := [some (.inr (.inr th)), some (.inr (.inr a0)), some (.inl v2_24), some (.inl x3_38)]) rfl rfl rfl ?_
        refine go_aload_n (pc' := 40) rfl rfl rfl ?_
        refine go_getR (pc' := 43) rfl rfl hth rfl ?_
        refine go_aload_n (pc' := 44) rfl rfl rfl ?_
        obtain ⟨r_44, q_44, h⟩ := o_b1E h
        refine go_callV (pc' := 47) (B' := (0, 0)) (st' := [.inl r_44, .inr (.inr (Rf th 0))]) rfl rfl (Or.inl (by decide)) rfl rfl (o_kdE g0) (md_119 (by omega) (o_kdE g0) q_44) rfl rfl rfl ?_
        refine go_iload_n (pc' := 48) rfl rfl rfl ?_
        refine go_ixor (pc' := 49) rfl rfl ?_
        refine go_aload_n (pc' := 50) rfl rfl rfl ?_
        refine go_getR (pc' := 53) rfl rfl (o_kdE g0) rfl ?_
        refine go_iload_n (pc' := 54) rfl rfl rfl ?_
        obtain ⟨g2, h⟩ := o_gE h
        refine go_iaload (pc' := 55) rfl (o_inK g2) (o_inB g2) rfl ?_
        obtain ⟨g3, h⟩ := o_gE h
        obtain ⟨I_55, q_55, h⟩ := o_b1E h
        refine go_callV (pc' := 58) (B' := (0, 0)) (st' := []) rfl rfl (Or.inl (by decide)) rfl rfl (o_kdE g3) (md_113 (by omega) (o_kdE g3) q_55) rfl rfl rfl ?_
        obtain ⟨x2_58, ex2_58, h⟩ := o_b1E h
        refine go_iincE (pc' := 61) rfl rfl (y := (nI 1)) rfl ex2_58 (lo' := [some (.inr (.inr th)), some (.inr (.inr a0)), some (.inl x2_58), some (.inl x3_38)]) rfl rfl ?_
        refine go_goto (pc' := 24) rfl rfl ?_
        exact (lp_backE h hk24 (some (.inl x3_38)) :))
    exact lo24 _ ((nI 0), I_14) hl24 none
  · replace h := o_t (Decidable.of_not_not h17) h
    refine go_iconst (pc' := 21) (v := (nI 0)) rfl rfl rfl ?_
    cases h
    exact go_iret rfl (rfl) ⟨rfl, rfl, rfl, rfl, rfl⟩
