/-! Models of methods and their proofs, piece 9. Printed by wip/whole/pr10.py. -/
/-- PricedBases.isDone(I)Z -/
def m_140 (th : Nat) (a0 : Int32) (I : ai_I) (Rf : ai_R) (G : ai_G) : Option (Int32 × ai_I) :=
  o_g (o_kd G (Rf th 5) 0) (o_b1 (m_4 (Rf th 5) a0 (nI 0) I Rf G) (fun r_6 => o_b1 (m_2 (Rf th 5) a0 I Rf G) (fun r_15 => if r_15 = 0 then (o_b1 (m_4 (Rf th 5) a0 (nI 1) I Rf G) (fun r_32 => o_g (o_kd G (Rf th 0) 6) (o_b1 (m_97 (Rf th 0) r_6 r_32 I Rf G) (fun I_35 => some ((nI 1), I_35))))) else (o_g (o_kd G (Rf th 0) 6) (o_b1 (m_96 (Rf th 0) r_6 Rf G) (fun r_45 => if r_45 = 0 then (some ((nI 0), I)) else (o_g (o_kd G (Rf th 6) 3) (o_b2 (m_38 (Rf th 6) (Rf th 5) a0 (Rf th 0) I Rf G) (fun r_66 I_66 => if r_66 = 0 then (some ((nI 0), I_66)) else (o_g (o_kd G r_45 8) (o_g (o_kd G (Rf (Rf th 6) 0) 8) (o_b1 (m_98 (Rf th 0) r_6 (I_66 r_45 2) (I_66 (Rf (Rf th 6) 0) 2) (I_66 (Rf (Rf th 6) 0) 0) I_66 Rf G) (fun I_103 => o_b1 (m_117 r_45 (Rf (Rf th 6) 0) I_103 Rf G) (fun I_114 => some ((nI 1), I_114)))))))))))))))
theorem md_140 {d : Nat} {I : ai_I} {J : ai_J} {Rf : ai_R} {G : ai_G} {th : Nat} {a0 : Int32} {r : Int32} {I1 : ai_I} (hd : 7 ≤ d) (hth : G.1 th = 10) (h : m_140 th a0 I Rf G = some (r, I1)) : ai_Cl si_t si_ms d 140 [.inr (.inr th), .inl a0] I J Rf G (some (.inl r)) I1 J Rf G := by
  obtain ⟨e, rfl⟩ : ∃ e, d = e + 1 := ⟨d - 1, by omega⟩
  unfold m_140 at h
  refine sp_in (lo := [some (.inr (.inr th)), some (.inl a0), none, none]) (B := (0, 0)) rfl (Nat.le_of_ble_eq_true rfl) rfl rfl ?_
  refine go_aload_n (pc' := 1) rfl rfl rfl ?_
  refine go_getR (pc' := 4) rfl rfl hth rfl ?_
  refine go_iload_n (pc' := 5) rfl rfl rfl ?_
  refine go_iconst (pc' := 6) (v := (nI 0)) rfl rfl rfl ?_
  obtain ⟨g0, h⟩ := o_gE h
  obtain ⟨r_6, q_6, h⟩ := o_b1E h
  refine go_callV (pc' := 9) (B' := (0, 0)) (st' := [.inl r_6]) rfl rfl (Or.inl (by decide)) rfl rfl (o_kdE g0) (md_4 (by omega) (o_kdE g0) q_6) rfl rfl rfl ?_
  refine go_istore_n (pc' := 10) (lo' := [some (.inr (.inr th)), some (.inl a0), some (.inl r_6), none]) rfl rfl rfl ?_
  refine go_aload_n (pc' := 11) rfl rfl rfl ?_
  refine go_getR (pc' := 14) rfl rfl hth rfl ?_
  refine go_iload_n (pc' := 15) rfl rfl rfl ?_
  obtain ⟨r_15, q_15, h⟩ := o_b1E h
  refine go_callV (pc' := 18) (B' := (0, 0)) (st' := [.inl r_15]) rfl rfl (Or.inl (by decide)) rfl rfl (o_kdE g0) (md_2 (by omega) (o_kdE g0) q_15) rfl rfl rfl ?_
  refine go_if_ne (pt := 40) (pc' := 21) rfl rfl rfl (fun h18 => ?_) (fun h18 => ?_)
  · replace h := o_f h18 h
    refine go_aload_n (pc' := 41) rfl rfl rfl ?_
    refine go_getR (pc' := 44) rfl rfl hth rfl ?_
    refine go_iload_n (pc' := 45) rfl rfl rfl ?_
    obtain ⟨g1, h⟩ := o_gE h
    obtain ⟨r_45, q_45, h⟩ := o_b1E h
    refine go_callV (pc' := 48) (B' := (0, 0)) (st' := [.inr (.inr r_45)]) rfl rfl (Or.inl (by decide)) rfl rfl (o_kdE g1) (md_96 (by omega) (o_kdE g1) q_45) rfl rfl rfl ?_
    refine go_astore_n (pc' := 49) (lo' := [some (.inr (.inr th)), some (.inl a0), some (.inl r_6), some (.inr (.inr r_45))]) rfl rfl rfl ?_
    refine go_aload_n (pc' := 50) rfl rfl rfl ?_
    refine go_ifnull (pt := 72) (pc' := 53) rfl rfl rfl (fun h50 => ?_) (fun h50 => ?_)
    · replace h := o_t h50 h
      refine go_iconst (pc' := 73) (v := (nI 0)) rfl rfl rfl ?_
      cases h
      exact go_iret rfl (rfl) ⟨rfl, rfl, rfl, rfl, rfl⟩
    · replace h := o_f h50 h
      refine go_aload_n (pc' := 54) rfl rfl rfl ?_
      refine go_getR (pc' := 57) rfl rfl hth rfl ?_
      refine go_aload_n (pc' := 58) rfl rfl rfl ?_
      refine go_getR (pc' := 61) rfl rfl hth rfl ?_
      refine go_iload_n (pc' := 62) rfl rfl rfl ?_
      refine go_aload_n (pc' := 63) rfl rfl rfl ?_
      refine go_getR (pc' := 66) rfl rfl hth rfl ?_
      obtain ⟨g2, h⟩ := o_gE h
      obtain ⟨r_66, I_66, q_66, h⟩ := o_b2E h
      refine go_callV (pc' := 69) (B' := (0, 0)) (st' := [.inl r_66]) rfl rfl (Or.inl (by decide)) rfl rfl (o_kdE g2) (md_38 (by omega) (o_kdE g2) q_66) rfl rfl rfl ?_
      refine go_if_ne (pt := 74) (pc' := 72) rfl rfl rfl (fun h69 => ?_) (fun h69 => ?_)
      · replace h := o_f h69 h
        refine go_aload_n (pc' := 75) rfl rfl rfl ?_
        refine go_getR (pc' := 78) rfl rfl hth rfl ?_
        refine go_iload_n (pc' := 79) rfl rfl rfl ?_
        refine go_aload_n (pc' := 80) rfl rfl rfl ?_
        obtain ⟨g3, h⟩ := o_gE h
        refine go_getI (pc' := 83) rfl rfl (by decide) (by decide) (o_kdE g3) rfl ?_
        refine go_aload_n (pc' := 84) rfl rfl rfl ?_
        refine go_getR (pc' := 87) rfl rfl hth rfl ?_
        refine go_getR (pc' := 90) rfl rfl (o_kdE g2) rfl ?_
        obtain ⟨g4, h⟩ := o_gE h
        refine go_getI (pc' := 93) rfl rfl (by decide) (by decide) (o_kdE g4) rfl ?_
        refine go_aload_n (pc' := 94) rfl rfl rfl ?_
        refine go_getR (pc' := 97) rfl rfl hth rfl ?_
        refine go_getR (pc' := 100) rfl rfl (o_kdE g2) rfl ?_
        refine go_getI (pc' := 103) rfl rfl (by decide) (by decide) (o_kdE g4) rfl ?_
        obtain ⟨I_103, q_103, h⟩ := o_b1E h
        refine go_callV (pc' := 106) (B' := (0, 0)) (st' := []) rfl rfl (Or.inl (by decide)) rfl rfl (o_kdE g1) (md_98 (by omega) (o_kdE g1) q_103) rfl rfl rfl ?_
        refine go_aload_n (pc' := 107) rfl rfl rfl ?_
        refine go_aload_n (pc' := 108) rfl rfl rfl ?_
        refine go_getR (pc' := 111) rfl rfl hth rfl ?_
        refine go_getR (pc' := 114) rfl rfl (o_kdE g2) rfl ?_
        obtain ⟨I_114, q_114, h⟩ := o_b1E h
        refine go_callV (pc' := 117) (B' := (0, 0)) (st' := []) rfl rfl (Or.inl (by decide)) rfl rfl (o_kdE g3) (md_117 (by omega) (o_kdE g3) q_114) rfl rfl rfl ?_
        refine go_iconst (pc' := 118) (v := (nI 1)) rfl rfl rfl ?_
        cases h
        exact go_iret rfl (rfl) ⟨rfl, rfl, rfl, rfl, rfl⟩
      · replace h := o_t (Decidable.of_not_not h69) h
        refine go_iconst (pc' := 73) (v := (nI 0)) rfl rfl rfl ?_
        cases h
        exact go_iret rfl (rfl) ⟨rfl, rfl, rfl, rfl, rfl⟩
  · replace h := o_t (Decidable.of_not_not h18) h
    refine go_aload_n (pc' := 22) rfl rfl rfl ?_
    refine go_getR (pc' := 25) rfl rfl hth rfl ?_
    refine go_iload_n (pc' := 26) rfl rfl rfl ?_
    refine go_aload_n (pc' := 27) rfl rfl rfl ?_
    refine go_getR (pc' := 30) rfl rfl hth rfl ?_
    refine go_iload_n (pc' := 31) rfl rfl rfl ?_
    refine go_iconst (pc' := 32) (v := (nI 1)) rfl rfl rfl ?_
    obtain ⟨r_32, q_32, h⟩ := o_b1E h
    refine go_callV (pc' := 35) (B' := (0, 0)) (st' := [.inl r_32, .inl r_6, .inr (.inr (Rf th 0))]) rfl rfl (Or.inl (by decide)) rfl rfl (o_kdE g0) (md_4 (by omega) (o_kdE g0) q_32) rfl rfl rfl ?_
    obtain ⟨g5, h⟩ := o_gE h
    obtain ⟨I_35, q_35, h⟩ := o_b1E h
    refine go_callV (pc' := 38) (B' := (0, 0)) (st' := []) rfl rfl (Or.inl (by decide)) rfl rfl (o_kdE g5) (md_97 (by omega) (o_kdE g5) q_35) rfl rfl rfl ?_
    refine go_iconst (pc' := 39) (v := (nI 1)) rfl rfl rfl ?_
    cases h
    exact go_iret rfl (rfl) ⟨rfl, rfl, rfl, rfl, rfl⟩
def m_139_x59_78 (R_31 : ai_R) (w2_78 : Int32) (Ix_78 : ai_I) : Option (Int32 × ai_I × ai_R) :=
  some (w2_78, Ix_78, R_31)
def m_139_x59_86 (th : Nat) (R_31 : ai_R) (Ix_86 : ai_I) : Option (Int32 × ai_I × ai_R) :=
  some (Ix_86 (R_31 th 5) 0, Ix_86, R_31)
def m_139_b59 (th : Nat) (G : ai_G) (R_31 : ai_R) (v2_59 : Int32) (I_59 : ai_I) : Option ((Int32 × ai_I) ⊕ ((Int32 × ai_I) ⊕ ai_I)) :=
  if (I_59 (R_31 th 5) 0) ≤ v2_59 then (some (Sum.inr (Sum.inr I_59))) else (o_b2 (m_140 th v2_59 I_59 R_31 G) (fun r_72 I_72 => if r_72 = 0 then (some (Sum.inr (Sum.inl (v2_59, I_72)))) else (o_b1 (some (v2_59 + (nI 1))) (fun x2_80 => some (Sum.inl (x2_80, I_72))))))
/-- PricedBases.orders(I)I -/
def m_139 (th : Nat) (a0 : Int32) (I : ai_I) (Rf : ai_R) (G : ai_G) : Option (Int32 × ai_I × ai_R) :=
  if a0 < (nI 1) then (some ((-1 : Int32), I, Rf)) else (if (nI 200) < a0 then (some ((-1 : Int32), I, Rf)) else (if a0 ≤ (I th 4) then (o_g (o_kd G (Rf th 5) 0) (o_b2 (m_1 (Rf th 5) (Rf th 3) a0 I Rf G) (fun I_31 R_31 => o_b1 (some (va_up I_31 th (va_up (I_31 th) 4 (nI 0)))) (fun I_36 => o_g (o_kd G (R_31 th 5) 0) (if (I_36 (R_31 th 5) 1) = 0 then (o_s2 (lp (fun s => m_139_b59 th G R_31 s.1 s.2) o_N ((nI 0), I_36)) (fun t => m_139_x59_78 R_31 t.1 t.2) (fun t => m_139_x59_86 th R_31 t)) else (some (I_36 (R_31 th 5) 1, I_36, R_31))))))) else (some ((-1 : Int32), I, Rf))))
theorem md_139 {d : Nat} {I : ai_I} {J : ai_J} {Rf : ai_R} {G : ai_G} {th : Nat} {a0 : Int32} {r : Int32} {I1 : ai_I} {R1 : ai_R} (hd : 10 ≤ d) (hth : G.1 th = 10) (h : m_139 th a0 I Rf G = some (r, I1, R1)) : ai_Cl si_t si_ms d 139 [.inr (.inr th), .inl a0] I J Rf G (some (.inl r)) I1 J R1 G := by
  obtain ⟨e, rfl⟩ : ∃ e, d = e + 1 := ⟨d - 1, by omega⟩
  unfold m_139 at h
  refine sp_in (lo := [some (.inr (.inr th)), some (.inl a0), none]) (B := (0, 0)) rfl (Nat.le_of_ble_eq_true rfl) rfl rfl ?_
  refine go_iload_n (pc' := 1) rfl rfl rfl ?_
  refine go_iconst (pc' := 2) (v := (nI 1)) rfl rfl rfl ?_
  refine go_icmp_lt (pt := 20) (pc' := 5) rfl rfl rfl (fun h2 => ?_) (fun h2 => ?_)
  · replace h := o_t h2 h
    refine go_iconst (pc' := 21) (v := (-1 : Int32)) rfl rfl rfl ?_
    cases h
    exact go_iret rfl (trivial) ⟨rfl, rfl, rfl, rfl, rfl⟩
  · replace h := o_f h2 h
    refine go_iload_n (pc' := 6) rfl rfl rfl ?_
    refine go_sipush (pc' := 9) (v := (nI 200)) rfl rfl rfl ?_
    refine go_icmp_gt (pt := 20) (pc' := 12) rfl rfl rfl (fun h9 => ?_) (fun h9 => ?_)
    · replace h := o_t h9 h
      refine go_iconst (pc' := 21) (v := (-1 : Int32)) rfl rfl rfl ?_
      cases h
      exact go_iret rfl (trivial) ⟨rfl, rfl, rfl, rfl, rfl⟩
    · replace h := o_f h9 h
      refine go_iload_n (pc' := 13) rfl rfl rfl ?_
      refine go_aload_n (pc' := 14) rfl rfl rfl ?_
      refine go_getI (pc' := 17) rfl rfl (by decide) (by decide) hth rfl ?_
      refine go_icmp_le (pt := 22) (pc' := 20) rfl rfl rfl (fun h17 => ?_) (fun h17 => ?_)
      · replace h := o_t h17 h
        refine go_aload_n (pc' := 23) rfl rfl rfl ?_
        refine go_getR (pc' := 26) rfl rfl hth rfl ?_
        refine go_aload_n (pc' := 27) rfl rfl rfl ?_
        refine go_getR (pc' := 30) rfl rfl hth rfl ?_
        refine go_iload_n (pc' := 31) rfl rfl rfl ?_
        obtain ⟨g0, h⟩ := o_gE h
        obtain ⟨I_31, R_31, q_31, h⟩ := o_b2E h
        refine go_callV (pc' := 34) (B' := (0, 0)) (st' := []) rfl rfl (Or.inl (by decide)) rfl rfl (o_kdE g0) (md_1 (by omega) (o_kdE g0) q_31) rfl rfl rfl ?_
        refine go_aload_n (pc' := 35) rfl rfl rfl ?_
        refine go_iconst (pc' := 36) (v := (nI 0)) rfl rfl rfl ?_
        obtain ⟨I_36, eI_36, h⟩ := o_b1E h
        refine go_putI (pc' := 39) rfl rfl (fun h => by cases h) hth rfl ?_
        refine go_ndMI eI_36 ?_
        refine go_aload_n (pc' := 40) rfl rfl rfl ?_
        refine go_getR (pc' := 43) rfl rfl hth rfl ?_
        obtain ⟨g1, h⟩ := o_gE h
        refine go_getI (pc' := 46) rfl rfl (by decide) (by decide) (o_kdE g1) rfl ?_
        refine go_if_eq (pt := 57) (pc' := 49) rfl rfl rfl (fun h46 => ?_) (fun h46 => ?_)
        · replace h := o_t h46 h
          refine go_iconst (pc' := 58) (v := (nI 0)) rfl rfl rfl ?_
          refine go_istore_n (pc' := 59) (lo' := [some (.inr (.inr th)), some (.inl a0), some (.inl (nI 0))]) rfl rfl rfl ?_
          obtain ⟨q59, hl59, hc59_78, hc59_86⟩ := o_s2E h
          have ex59_78 : ∀ (w2_78 : Int32) (Ix_78 : ai_I), (Sum.inl (w2_78, Ix_78)) = q59 → ai_Go si_t (10, false, 0, cd_139) (ai_Cl si_t si_ms e) (sp_Q (some (.inl r)) I1 J R1 G) 78 [some (.inr (.inr th)), some (.inl a0), some (.inl w2_78)] [] (0, 0) Ix_78 J R_31 G := by
            intro w2_78 Ix_78 hq
            have h : m_139_x59_78 R_31 w2_78 Ix_78 = some (r, I1, R1) := hc59_78 (w2_78, Ix_78) hq.symm
            unfold m_139_x59_78 at h
            refine go_iload_n (pc' := 79) rfl rfl rfl ?_
            cases h
            exact go_iret rfl (trivial) ⟨rfl, rfl, rfl, rfl, rfl⟩
          have ex59_86 : ∀ (Ix_86 : ai_I) (z2_x86 : Option ai_V), (Sum.inr Ix_86) = q59 → ai_Go si_t (10, false, 0, cd_139) (ai_Cl si_t si_ms e) (sp_Q (some (.inl r)) I1 J R1 G) 86 [some (.inr (.inr th)), some (.inl a0), z2_x86] [] (0, 0) Ix_86 J R_31 G := by
            intro Ix_86 z2_x86 hq
            have h : m_139_x59_86 th R_31 Ix_86 = some (r, I1, R1) := hc59_86 Ix_86 hq.symm
            unfold m_139_x59_86 at h
            refine go_aload_n (pc' := 87) rfl rfl rfl ?_
            refine go_getR (pc' := 90) rfl rfl hth rfl ?_
            refine go_getI (pc' := 93) rfl rfl (by decide) (by decide) (o_kdE g1) rfl ?_
            cases h
            exact go_iret rfl (trivial) ⟨rfl, rfl, rfl, rfl, rfl⟩
          have lo59 : ∀ n s, lp (fun s => m_139_b59 th G R_31 s.1 s.2) n s = some q59 → (fun s => ai_Go si_t (10, false, 0, cd_139) (ai_Cl si_t si_ms e) (sp_Q (some (.inl r)) I1 J R1 G) 59 [some (.inr (.inr th)), some (.inl a0), some (.inl s.1)] [] (0, 0) s.2 J R_31 G) s := lp_go (fun s x59 hx hk59 => by
            obtain ⟨v2_59, I_59⟩ := s
            have h : m_139_b59 th G R_31 v2_59 I_59 = some x59 := hx
            clear hx
            show ai_Go si_t (10, false, 0, cd_139) (ai_Cl si_t si_ms e) (sp_Q (some (.inl r)) I1 J R1 G) 59 [some (.inr (.inr th)), some (.inl a0), some (.inl v2_59)] [] (0, 0) I_59 J R_31 G
            unfold m_139_b59 at h
            refine go_iload_n (pc' := 60) rfl rfl rfl ?_
            refine go_aload_n (pc' := 61) rfl rfl rfl ?_
            refine go_getR (pc' := 64) rfl rfl hth rfl ?_
            refine go_getI (pc' := 67) rfl rfl (by decide) (by decide) (o_kdE g1) rfl ?_
            refine go_icmp_ge (pt := 86) (pc' := 70) rfl rfl rfl (fun h67 => ?_) (fun h67 => ?_)
            · replace h := o_t h67 h
              exact ex59_86 _ (some (.inl v2_59)) (lp_exitE h hk59)
            · replace h := o_f h67 h
              refine go_aload_n (pc' := 71) rfl rfl rfl ?_
              refine go_iload_n (pc' := 72) rfl rfl rfl ?_
              obtain ⟨r_72, I_72, q_72, h⟩ := o_b2E h
              refine go_callV (pc' := 75) (B' := (0, 0)) (st' := [.inl r_72]) rfl rfl (Or.inl (by decide)) rfl rfl hth (md_140 (by omega) hth q_72) rfl rfl rfl ?_
              refine go_if_ne (pt := 80) (pc' := 78) rfl rfl rfl (fun h75 => ?_) (fun h75 => ?_)
              · replace h := o_f h75 h
                obtain ⟨x2_80, ex2_80, h⟩ := o_b1E h
                refine go_iincE (pc' := 83) rfl rfl (y := (nI 1)) rfl ex2_80 (lo' := [some (.inr (.inr th)), some (.inl a0), some (.inl x2_80)]) rfl rfl ?_
                refine go_goto (pc' := 59) rfl rfl ?_
                exact (lp_backE h hk59 :)
              · replace h := o_t (Decidable.of_not_not h75) h
                exact ex59_78 _ _  (lp_exitE h hk59))
          exact lo59 _ ((nI 0), I_36) hl59 
        · replace h := o_f h46 h
          refine go_aload_n (pc' := 50) rfl rfl rfl ?_
          refine go_getR (pc' := 53) rfl rfl hth rfl ?_
          refine go_getI (pc' := 56) rfl rfl (by decide) (by decide) (o_kdE g1) rfl ?_
          cases h
          exact go_iret rfl (trivial) ⟨rfl, rfl, rfl, rfl, rfl⟩
      · replace h := o_f h17 h
        refine go_iconst (pc' := 21) (v := (-1 : Int32)) rfl rfl rfl ?_
        cases h
        exact go_iret rfl (trivial) ⟨rfl, rfl, rfl, rfl, rfl⟩
/-- PricedBases.price(II)I -/
def m_141 (th : Nat) (a0 : Int32) (a1 : Int32) (I : ai_I) (Rf : ai_R) (G : ai_G) : Option (Int32 × ai_I) :=
  if a0 < 0 then (some ((-2147483648 : Int32), I)) else (if (nI 8) ≤ a0 then (some ((-2147483648 : Int32), I)) else (if a1 < (-1000 : Int32) then (some ((-2147483648 : Int32), I)) else (if a1 ≤ (nI 1000) then (o_g (o_kd G (Rf th 0) 6) (o_g (o_in G 13 (Rf (Rf th 0) 1) a0) (o_b1 (some (I (Rf (Rf th 0) 1) a0.toNatClampNeg)) (fun x3_36 => o_b1 (m_97 (Rf th 0) a0 a1 I Rf G) (fun I_43 => some (x3_36, I_43)))))) else (some ((-2147483648 : Int32), I)))))
theorem md_141 {d : Nat} {I : ai_I} {J : ai_J} {Rf : ai_R} {G : ai_G} {th : Nat} {a0 : Int32} {a1 : Int32} {r : Int32} {I1 : ai_I} (hd : 2 ≤ d) (hth : G.1 th = 10) (h : m_141 th a0 a1 I Rf G = some (r, I1)) : ai_Cl si_t si_ms d 141 [.inr (.inr th), .inl a0, .inl a1] I J Rf G (some (.inl r)) I1 J Rf G := by
  obtain ⟨e, rfl⟩ : ∃ e, d = e + 1 := ⟨d - 1, by omega⟩
  unfold m_141 at h
  refine sp_in (lo := [some (.inr (.inr th)), some (.inl a0), some (.inl a1), none]) (B := (0, 0)) rfl (Nat.le_of_ble_eq_true rfl) rfl rfl ?_
  refine go_iload_n (pc' := 1) rfl rfl rfl ?_
  refine go_if_lt (pt := 24) (pc' := 4) rfl rfl rfl (fun h1 => ?_) (fun h1 => ?_)
  · replace h := o_t h1 h
    refine go_ldc (pc' := 26) (v := .inl (-2147483648 : Int32)) rfl rfl rfl ?_
    cases h
    exact go_iret rfl (trivial) ⟨rfl, rfl, rfl, rfl, rfl⟩
  · replace h := o_f h1 h
    refine go_iload_n (pc' := 5) rfl rfl rfl ?_
    refine go_bipush (pc' := 7) (v := (nI 8)) rfl rfl rfl ?_
    refine go_icmp_ge (pt := 24) (pc' := 10) rfl rfl rfl (fun h7 => ?_) (fun h7 => ?_)
    · replace h := o_t h7 h
      refine go_ldc (pc' := 26) (v := .inl (-2147483648 : Int32)) rfl rfl rfl ?_
      cases h
      exact go_iret rfl (trivial) ⟨rfl, rfl, rfl, rfl, rfl⟩
    · replace h := o_f h7 h
      refine go_iload_n (pc' := 11) rfl rfl rfl ?_
      refine go_sipush (pc' := 14) (v := (-1000 : Int32)) rfl rfl rfl ?_
      refine go_icmp_lt (pt := 24) (pc' := 17) rfl rfl rfl (fun h14 => ?_) (fun h14 => ?_)
      · replace h := o_t h14 h
        refine go_ldc (pc' := 26) (v := .inl (-2147483648 : Int32)) rfl rfl rfl ?_
        cases h
        exact go_iret rfl (trivial) ⟨rfl, rfl, rfl, rfl, rfl⟩
      · replace h := o_f h14 h
        refine go_iload_n (pc' := 18) rfl rfl rfl ?_
        refine go_sipush (pc' := 21) (v := (nI 1000)) rfl rfl rfl ?_
        refine go_icmp_le (pt := 27) (pc' := 24) rfl rfl rfl (fun h21 => ?_) (fun h21 => ?_)
        · replace h := o_t h21 h
          refine go_aload_n (pc' := 28) rfl rfl rfl ?_
          refine go_getR (pc' := 31) rfl rfl hth rfl ?_
          obtain ⟨g0, h⟩ := o_gE h
          refine go_getR (pc' := 34) rfl rfl (o_kdE g0) rfl ?_
          refine go_iload_n (pc' := 35) rfl rfl rfl ?_
          obtain ⟨g1, h⟩ := o_gE h
          refine go_iaload (pc' := 36) rfl (o_inK g1) (o_inB g1) rfl ?_
          obtain ⟨x3_36, ex3_36, h⟩ := o_b1E h
          refine go_ndI ex3_36 ?_
          refine go_istore_n (pc' := 37) (lo' := [some (.inr (.inr th)), some (.inl a0), some (.inl a1), some (.inl x3_36)]) rfl rfl rfl ?_
          refine go_aload_n (pc' := 38) rfl rfl rfl ?_
          refine go_getR (pc' := 41) rfl rfl hth rfl ?_
          refine go_iload_n (pc' := 42) rfl rfl rfl ?_
          refine go_iload_n (pc' := 43) rfl rfl rfl ?_
          obtain ⟨I_43, q_43, h⟩ := o_b1E h
          refine go_callV (pc' := 46) (B' := (0, 0)) (st' := []) rfl rfl (Or.inl (by decide)) rfl rfl (o_kdE g0) (md_97 (by omega) (o_kdE g0) q_43) rfl rfl rfl ?_
          refine go_iload_n (pc' := 47) rfl rfl rfl ?_
          cases h
          exact go_iret rfl (trivial) ⟨rfl, rfl, rfl, rfl, rfl⟩
        · replace h := o_f h21 h
          refine go_ldc (pc' := 26) (v := .inl (-2147483648 : Int32)) rfl rfl rfl ?_
          cases h
          exact go_iret rfl (trivial) ⟨rfl, rfl, rfl, rfl, rfl⟩
def m_142_j140 (I_129 : ai_I) (t0_140 : Int32) : Option (Int32 × ai_I) :=
  o_b1 (m_182 t0_140) (fun r_140 => some (r_140, I_129))
def m_142_j169 (I_158 : ai_I) (t0_169 : Int32) : Option (Int32 × ai_I) :=
  o_b1 (m_182 t0_169) (fun r_169 => some (r_169, I_158))
/-- PricedBases.shelf(II)I -/
def m_142 (th : Nat) (a0 : Int32) (a1 : Int32) (I : ai_I) (Rf : ai_R) (G : ai_G) : Option (Int32 × ai_I) :=
  o_g (o_kd G (Rf th 0) 6) (o_b1 (m_96 (Rf th 0) a0 Rf G) (fun r_5 => if r_5 = 0 then (some ((-2147483648 : Int32), I)) else (if a1 = (0 : Int32) then (o_g (o_kd G r_5 8) (some (I r_5 0, I))) else (if a1 = (1 : Int32) then (o_g (o_kd G r_5 8) (some (I r_5 1, I))) else (if a1 = (2 : Int32) then (o_g (o_kd G r_5 8) (some (I r_5 2, I))) else (if a1 = (3 : Int32) then (o_g (o_kd G r_5 8) (o_b1 (m_124 r_5 I Rf G) (fun r_100 => some (r_100, I)))) else (if a1 = (4 : Int32) then (o_g (o_kd G r_5 8) (o_b1 (m_125 r_5 I Rf G) (fun r_105 => some (r_105, I)))) else (if a1 = (5 : Int32) then (o_b1 (m_66 r_5 I Rf G) (fun r_110 => some (r_110, I))) else (if a1 = (6 : Int32) then (o_b1 (m_67 r_5 I Rf G) (fun r_115 => some (r_115, I))) else (if a1 = (7 : Int32) then (o_g (o_kd G r_5 8) (o_g (o_kd G (Rf th 7) 2) (o_b2 (m_32 (Rf th 7) r_5 (Rf r_5 3) (nI 0) I Rf G) (fun r_129 I_129 => if r_129 = 0 then (m_142_j140 I_129 (nI 1)) else (m_142_j140 I_129 (nI 0)))))) else (if a1 = (8 : Int32) then (o_g (o_kd G (Rf th 7) 2) (o_b2 (m_35 (Rf th 7) r_5 I Rf G) (fun r_154 I_154 => o_b2 (m_32 (Rf th 7) r_5 r_154 (nI 0) I_154 Rf G) (fun r_158 I_158 => if r_158 = 0 then (m_142_j169 I_158 (nI 1)) else (m_142_j169 I_158 (nI 0)))))) else (if a1 = (9 : Int32) then (o_b1 (m_68 r_5 I Rf G) (fun r_174 => some (r_174, I))) else (if a1 = (10 : Int32) then (o_b1 (m_71 r_5 I Rf G) (fun r_179 => some (r_179, I))) else (if a1 = (11 : Int32) then (o_b1 (m_74 r_5 I Rf G) (fun r_184 => some (r_184, I))) else (if a1 = (12 : Int32) then (o_g (o_kd G r_5 8) (o_g (o_kd G (Rf th 7) 2) (o_b2 (m_32 (Rf th 7) r_5 (Rf r_5 3) (nI 2147483647) I Rf G) (fun r_199 I_199 => some (r_199, I_199))))) else (some ((-2147483648 : Int32), I)))))))))))))))))
theorem md_142 {d : Nat} {I : ai_I} {J : ai_J} {Rf : ai_R} {G : ai_G} {th : Nat} {a0 : Int32} {a1 : Int32} {r : Int32} {I1 : ai_I} (hd : 5 ≤ d) (hth : G.1 th = 10) (h : m_142 th a0 a1 I Rf G = some (r, I1)) : ai_Cl si_t si_ms d 142 [.inr (.inr th), .inl a0, .inl a1] I J Rf G (some (.inl r)) I1 J Rf G := by
  obtain ⟨e, rfl⟩ : ∃ e, d = e + 1 := ⟨d - 1, by omega⟩
  unfold m_142 at h
  refine sp_in (lo := [some (.inr (.inr th)), some (.inl a0), some (.inl a1), none]) (B := (0, 0)) rfl (Nat.le_of_ble_eq_true rfl) rfl rfl ?_
  refine go_aload_n (pc' := 1) rfl rfl rfl ?_
  refine go_getR (pc' := 4) rfl rfl hth rfl ?_
  refine go_iload_n (pc' := 5) rfl rfl rfl ?_
  obtain ⟨g0, h⟩ := o_gE h
  obtain ⟨r_5, q_5, h⟩ := o_b1E h
  refine go_callV (pc' := 8) (B' := (0, 0)) (st' := [.inr (.inr r_5)]) rfl rfl (Or.inl (by decide)) rfl rfl (o_kdE g0) (md_96 (by omega) (o_kdE g0) q_5) rfl rfl rfl ?_
  refine go_astore_n (pc' := 9) (lo' := [some (.inr (.inr th)), some (.inl a0), some (.inl a1), some (.inr (.inr r_5))]) rfl rfl rfl ?_
  refine go_aload_n (pc' := 10) rfl rfl rfl ?_
  refine go_ifnonnull (pt := 16) (pc' := 13) rfl rfl rfl (fun h10 => ?_) (fun h10 => ?_)
  · replace h := o_f h10 h
    refine go_iload_n (pc' := 17) rfl rfl rfl ?_
    by_cases c17_0 : a1 = (0 : Int32)
    · replace h := o_t c17_0 h
      refine go_swIn (pc' := 84) 0 rfl rfl (by rw [c17_0]; decide) (by rw [c17_0]; decide) rfl ?_
      refine go_aload_n (pc' := 85) rfl rfl rfl ?_
      obtain ⟨g1, h⟩ := o_gE h
      refine go_getI (pc' := 88) rfl rfl (by decide) (by decide) (o_kdE g1) rfl ?_
      cases h
      exact go_iret rfl (trivial) ⟨rfl, rfl, rfl, rfl, rfl⟩
    replace h := o_f c17_0 h
    by_cases c17_1 : a1 = (1 : Int32)
    · replace h := o_t c17_1 h
      refine go_swIn (pc' := 89) 1 rfl rfl (by rw [c17_1]; decide) (by rw [c17_1]; decide) rfl ?_
      refine go_aload_n (pc' := 90) rfl rfl rfl ?_
      obtain ⟨g2, h⟩ := o_gE h
      refine go_getI (pc' := 93) rfl rfl (by decide) (by decide) (o_kdE g2) rfl ?_
      cases h
      exact go_iret rfl (trivial) ⟨rfl, rfl, rfl, rfl, rfl⟩
    replace h := o_f c17_1 h
    by_cases c17_2 : a1 = (2 : Int32)
    · replace h := o_t c17_2 h
      refine go_swIn (pc' := 94) 2 rfl rfl (by rw [c17_2]; decide) (by rw [c17_2]; decide) rfl ?_
      refine go_aload_n (pc' := 95) rfl rfl rfl ?_
      obtain ⟨g3, h⟩ := o_gE h
      refine go_getI (pc' := 98) rfl rfl (by decide) (by decide) (o_kdE g3) rfl ?_
      cases h
      exact go_iret rfl (trivial) ⟨rfl, rfl, rfl, rfl, rfl⟩
    replace h := o_f c17_2 h
    by_cases c17_3 : a1 = (3 : Int32)
    · replace h := o_t c17_3 h
      refine go_swIn (pc' := 99) 3 rfl rfl (by rw [c17_3]; decide) (by rw [c17_3]; decide) rfl ?_
      refine go_aload_n (pc' := 100) rfl rfl rfl ?_
      obtain ⟨g4, h⟩ := o_gE h
      obtain ⟨r_100, q_100, h⟩ := o_b1E h
      refine go_callV (pc' := 103) (B' := (0, 0)) (st' := [.inl r_100]) rfl rfl (Or.inl (by decide)) rfl rfl (o_kdE g4) (md_124 (by omega) (o_kdE g4) q_100) rfl rfl rfl ?_
      cases h
      exact go_iret rfl (trivial) ⟨rfl, rfl, rfl, rfl, rfl⟩
    replace h := o_f c17_3 h
    by_cases c17_4 : a1 = (4 : Int32)
    · replace h := o_t c17_4 h
      refine go_swIn (pc' := 104) 4 rfl rfl (by rw [c17_4]; decide) (by rw [c17_4]; decide) rfl ?_
      refine go_aload_n (pc' := 105) rfl rfl rfl ?_
      obtain ⟨g5, h⟩ := o_gE h
      obtain ⟨r_105, q_105, h⟩ := o_b1E h
      refine go_callV (pc' := 108) (B' := (0, 0)) (st' := [.inl r_105]) rfl rfl (Or.inl (by decide)) rfl rfl (o_kdE g5) (md_125 (by omega) (o_kdE g5) q_105) rfl rfl rfl ?_
      cases h
      exact go_iret rfl (trivial) ⟨rfl, rfl, rfl, rfl, rfl⟩
    replace h := o_f c17_4 h
    by_cases c17_5 : a1 = (5 : Int32)
    · replace h := o_t c17_5 h
      refine go_swIn (pc' := 109) 5 rfl rfl (by rw [c17_5]; decide) (by rw [c17_5]; decide) rfl ?_
      refine go_aload_n (pc' := 110) rfl rfl rfl ?_
      obtain ⟨r_110, q_110, h⟩ := o_b1E h
      refine go_callS (pc' := 113) (B' := (0, 0)) (st' := [.inl r_110]) rfl rfl (Or.inl (by decide)) rfl rfl trivial (md_66 (by omega) q_110) rfl rfl rfl ?_
      cases h
      exact go_iret rfl (trivial) ⟨rfl, rfl, rfl, rfl, rfl⟩
    replace h := o_f c17_5 h
    by_cases c17_6 : a1 = (6 : Int32)
    · replace h := o_t c17_6 h
      refine go_swIn (pc' := 114) 6 rfl rfl (by rw [c17_6]; decide) (by rw [c17_6]; decide) rfl ?_
      refine go_aload_n (pc' := 115) rfl rfl rfl ?_
      obtain ⟨r_115, q_115, h⟩ := o_b1E h
      refine go_callS (pc' := 118) (B' := (0, 0)) (st' := [.inl r_115]) rfl rfl (Or.inl (by decide)) rfl rfl trivial (md_67 (by omega) q_115) rfl rfl rfl ?_
      cases h
      exact go_iret rfl (trivial) ⟨rfl, rfl, rfl, rfl, rfl⟩
    replace h := o_f c17_6 h
    by_cases c17_7 : a1 = (7 : Int32)
    · replace h := o_t c17_7 h
      refine go_swIn (pc' := 119) 7 rfl rfl (by rw [c17_7]; decide) (by rw [c17_7]; decide) rfl ?_
      refine go_aload_n (pc' := 120) rfl rfl rfl ?_
      refine go_getR (pc' := 123) rfl rfl hth rfl ?_
      refine go_aload_n (pc' := 124) rfl rfl rfl ?_
      refine go_aload_n (pc' := 125) rfl rfl rfl ?_
      obtain ⟨g6, h⟩ := o_gE h
      refine go_getR (pc' := 128) rfl rfl (o_kdE g6) rfl ?_
      refine go_iconst (pc' := 129) (v := (nI 0)) rfl rfl rfl ?_
      obtain ⟨g7, h⟩ := o_gE h
      obtain ⟨r_129, I_129, q_129, h⟩ := o_b2E h
      refine go_callV (pc' := 132) (B' := (0, 0)) (st' := [.inl r_129]) rfl rfl (Or.inl (by decide)) rfl rfl (o_kdE g7) (md_32 (by omega) (o_kdE g7) q_129) rfl rfl rfl ?_
      have jn140 : ∀ (t0_140 : Int32), m_142_j140 I_129 t0_140 = some (r, I1) → ai_Go si_t (10, false, 0, cd_142) (ai_Cl si_t si_ms e) (sp_Q (some (.inl r)) I1 J Rf G) 140 [some (.inr (.inr th)), some (.inl a0), some (.inl a1), some (.inr (.inr r_5))] [.inl t0_140] (0, 0) I_129 J Rf G := by
        intro t0_140 h
        unfold m_142_j140 at h
        obtain ⟨r_140, q_140, h⟩ := o_b1E h
        refine go_callS (pc' := 143) (B' := (0, 0)) (st' := [.inl r_140]) rfl rfl (Or.inl (by decide)) rfl rfl trivial (md_182 (by omega) q_140) rfl rfl rfl ?_
        cases h
        exact go_iret rfl (trivial) ⟨rfl, rfl, rfl, rfl, rfl⟩
      refine go_if_ne (pt := 139) (pc' := 135) rfl rfl rfl (fun h132 => ?_) (fun h132 => ?_)
      · replace h := o_f h132 h
        refine go_iconst (pc' := 140) (v := (nI 0)) rfl rfl rfl ?_
        exact jn140 (nI 0) h
      · replace h := o_t (Decidable.of_not_not h132) h
        refine go_iconst (pc' := 136) (v := (nI 1)) rfl rfl rfl ?_
        refine go_goto (pc' := 140) rfl rfl ?_
        exact jn140 (nI 1) h
    replace h := o_f c17_7 h
    by_cases c17_8 : a1 = (8 : Int32)
    · replace h := o_t c17_8 h
      refine go_swIn (pc' := 144) 8 rfl rfl (by rw [c17_8]; decide) (by rw [c17_8]; decide) rfl ?_
      refine go_aload_n (pc' := 145) rfl rfl rfl ?_
      refine go_getR (pc' := 148) rfl rfl hth rfl ?_
      refine go_aload_n (pc' := 149) rfl rfl rfl ?_
      refine go_aload_n (pc' := 150) rfl rfl rfl ?_
      refine go_getR (pc' := 153) rfl rfl hth rfl ?_
      refine go_aload_n (pc' := 154) rfl rfl rfl ?_
      obtain ⟨g8, h⟩ := o_gE h
      obtain ⟨r_154, I_154, q_154, h⟩ := o_b2E h
      refine go_callV (pc' := 157) (B' := (0, 0)) (st' := [.inr (.inr r_154), .inr (.inr r_5), .inr (.inr (Rf th 7))]) rfl rfl (Or.inl (by decide)) rfl rfl (o_kdE g8) (md_35 (by omega) (o_kdE g8) q_154) rfl rfl rfl ?_
      refine go_iconst (pc' := 158) (v := (nI 0)) rfl rfl rfl ?_
      obtain ⟨r_158, I_158, q_158, h⟩ := o_b2E h
      refine go_callV (pc' := 161) (B' := (0, 0)) (st' := [.inl r_158]) rfl rfl (Or.inl (by decide)) rfl rfl (o_kdE g8) (md_32 (by omega) (o_kdE g8) q_158) rfl rfl rfl ?_
      have jn169 : ∀ (t0_169 : Int32), m_142_j169 I_158 t0_169 = some (r, I1) → ai_Go si_t (10, false, 0, cd_142) (ai_Cl si_t si_ms e) (sp_Q (some (.inl r)) I1 J Rf G) 169 [some (.inr (.inr th)), some (.inl a0), some (.inl a1), some (.inr (.inr r_5))] [.inl t0_169] (0, 0) I_158 J Rf G := by
        intro t0_169 h
        unfold m_142_j169 at h
        obtain ⟨r_169, q_169, h⟩ := o_b1E h
        refine go_callS (pc' := 172) (B' := (0, 0)) (st' := [.inl r_169]) rfl rfl (Or.inl (by decide)) rfl rfl trivial (md_182 (by omega) q_169) rfl rfl rfl ?_
        cases h
        exact go_iret rfl (trivial) ⟨rfl, rfl, rfl, rfl, rfl⟩
      refine go_if_ne (pt := 168) (pc' := 164) rfl rfl rfl (fun h161 => ?_) (fun h161 => ?_)
      · replace h := o_f h161 h
        refine go_iconst (pc' := 169) (v := (nI 0)) rfl rfl rfl ?_
        exact jn169 (nI 0) h
      · replace h := o_t (Decidable.of_not_not h161) h
        refine go_iconst (pc' := 165) (v := (nI 1)) rfl rfl rfl ?_
        refine go_goto (pc' := 169) rfl rfl ?_
        exact jn169 (nI 1) h
    replace h := o_f c17_8 h
    by_cases c17_9 : a1 = (9 : Int32)
    · replace h := o_t c17_9 h
      refine go_swIn (pc' := 173) 9 rfl rfl (by rw [c17_9]; decide) (by rw [c17_9]; decide) rfl ?_
      refine go_aload_n (pc' := 174) rfl rfl rfl ?_
      obtain ⟨r_174, q_174, h⟩ := o_b1E h
      refine go_callS (pc' := 177) (B' := (0, 0)) (st' := [.inl r_174]) rfl rfl (Or.inl (by decide)) rfl rfl trivial (md_68 (by omega) q_174) rfl rfl rfl ?_
      cases h
      exact go_iret rfl (trivial) ⟨rfl, rfl, rfl, rfl, rfl⟩
    replace h := o_f c17_9 h
    by_cases c17_10 : a1 = (10 : Int32)
    · replace h := o_t c17_10 h
      refine go_swIn (pc' := 178) 10 rfl rfl (by rw [c17_10]; decide) (by rw [c17_10]; decide) rfl ?_
      refine go_aload_n (pc' := 179) rfl rfl rfl ?_
      obtain ⟨r_179, q_179, h⟩ := o_b1E h
      refine go_callS (pc' := 182) (B' := (0, 0)) (st' := [.inl r_179]) rfl rfl (Or.inl (by decide)) rfl rfl trivial (md_71 (by omega) q_179) rfl rfl rfl ?_
      cases h
      exact go_iret rfl (trivial) ⟨rfl, rfl, rfl, rfl, rfl⟩
    replace h := o_f c17_10 h
    by_cases c17_11 : a1 = (11 : Int32)
    · replace h := o_t c17_11 h
      refine go_swIn (pc' := 183) 11 rfl rfl (by rw [c17_11]; decide) (by rw [c17_11]; decide) rfl ?_
      refine go_aload_n (pc' := 184) rfl rfl rfl ?_
      obtain ⟨r_184, q_184, h⟩ := o_b1E h
      refine go_callS (pc' := 187) (B' := (0, 0)) (st' := [.inl r_184]) rfl rfl (Or.inl (by decide)) rfl rfl trivial (md_74 (by omega) q_184) rfl rfl rfl ?_
      cases h
      exact go_iret rfl (trivial) ⟨rfl, rfl, rfl, rfl, rfl⟩
    replace h := o_f c17_11 h
    by_cases c17_12 : a1 = (12 : Int32)
    · replace h := o_t c17_12 h
      refine go_swIn (pc' := 188) 12 rfl rfl (by rw [c17_12]; decide) (by rw [c17_12]; decide) rfl ?_
      refine go_aload_n (pc' := 189) rfl rfl rfl ?_
      refine go_getR (pc' := 192) rfl rfl hth rfl ?_
      refine go_aload_n (pc' := 193) rfl rfl rfl ?_
      refine go_aload_n (pc' := 194) rfl rfl rfl ?_
      obtain ⟨g9, h⟩ := o_gE h
      refine go_getR (pc' := 197) rfl rfl (o_kdE g9) rfl ?_
      refine go_ldc (pc' := 199) (v := .inl (nI 2147483647)) rfl rfl rfl ?_
      obtain ⟨g10, h⟩ := o_gE h
      obtain ⟨r_199, I_199, q_199, h⟩ := o_b2E h
      refine go_callV (pc' := 202) (B' := (0, 0)) (st' := [.inl r_199]) rfl rfl (Or.inl (by decide)) rfl rfl (o_kdE g10) (md_32 (by omega) (o_kdE g10) q_199) rfl rfl rfl ?_
      cases h
      exact go_iret rfl (trivial) ⟨rfl, rfl, rfl, rfl, rfl⟩
    replace h := o_f c17_12 h
    refine go_swOut (pc' := 203) rfl (by
        rw [← Int32.toInt_inj] at c17_0
        rw [← Int32.toInt_inj] at c17_1
        rw [← Int32.toInt_inj] at c17_2
        rw [← Int32.toInt_inj] at c17_3
        rw [← Int32.toInt_inj] at c17_4
        rw [← Int32.toInt_inj] at c17_5
        rw [← Int32.toInt_inj] at c17_6
        rw [← Int32.toInt_inj] at c17_7
        rw [← Int32.toInt_inj] at c17_8
        rw [← Int32.toInt_inj] at c17_9
        rw [← Int32.toInt_inj] at c17_10
        rw [← Int32.toInt_inj] at c17_11
        rw [← Int32.toInt_inj] at c17_12
        have c17_0 : ¬ a1.toInt = 0 := c17_0
        have c17_1 : ¬ a1.toInt = 1 := c17_1
        have c17_2 : ¬ a1.toInt = 2 := c17_2
        have c17_3 : ¬ a1.toInt = 3 := c17_3
        have c17_4 : ¬ a1.toInt = 4 := c17_4
        have c17_5 : ¬ a1.toInt = 5 := c17_5
        have c17_6 : ¬ a1.toInt = 6 := c17_6
        have c17_7 : ¬ a1.toInt = 7 := c17_7
        have c17_8 : ¬ a1.toInt = 8 := c17_8
        have c17_9 : ¬ a1.toInt = 9 := c17_9
        have c17_10 : ¬ a1.toInt = 10 := c17_10
        have c17_11 : ¬ a1.toInt = 11 := c17_11
        have c17_12 : ¬ a1.toInt = 12 := c17_12
        show a1.toInt < 0 ∨ 0 + ((13 : Nat) : Int) ≤ a1.toInt
        omega) rfl ?_
    refine go_ldc (pc' := 205) (v := .inl (-2147483648 : Int32)) rfl rfl rfl ?_
    cases h
    exact go_iret rfl (trivial) ⟨rfl, rfl, rfl, rfl, rfl⟩
  · replace h := o_t (h10) h
    refine go_ldc (pc' := 15) (v := .inl (-2147483648 : Int32)) rfl rfl rfl ?_
    cases h
    exact go_iret rfl (trivial) ⟨rfl, rfl, rfl, rfl, rfl⟩
/-- PricedBases.value(II)I -/
def m_143 (th : Nat) (a0 : Int32) (a1 : Int32) (I : ai_I) (Rf : ai_R) (G : ai_G) : Option (Int32) :=
  o_g (o_kd G (Rf th 0) 6) (o_b1 (m_96 (Rf th 0) a0 Rf G) (fun r_5 => if r_5 = 0 then (some (-2147483648 : Int32)) else (o_g (o_kd G r_5 8) (o_b1 (m_122 r_5 a1 I Rf G) (fun r_15 => if r_15 = 0 then (some (-2147483648 : Int32)) else (o_g (o_in G 13 (Rf r_5 3) a1) (some (I (Rf r_5 3) a1.toNatClampNeg))))))))
theorem md_143 {d : Nat} {I : ai_I} {J : ai_J} {Rf : ai_R} {G : ai_G} {th : Nat} {a0 : Int32} {a1 : Int32} {r : Int32} (hd : 3 ≤ d) (hth : G.1 th = 10) (h : m_143 th a0 a1 I Rf G = some r) : ai_Cl si_t si_ms d 143 [.inr (.inr th), .inl a0, .inl a1] I J Rf G (some (.inl r)) I J Rf G := by
  obtain ⟨e, rfl⟩ : ∃ e, d = e + 1 := ⟨d - 1, by omega⟩
  unfold m_143 at h
  refine sp_in (lo := [some (.inr (.inr th)), some (.inl a0), some (.inl a1), none]) (B := (0, 0)) rfl (Nat.le_of_ble_eq_true rfl) rfl rfl ?_
  refine go_aload_n (pc' := 1) rfl rfl rfl ?_
  refine go_getR (pc' := 4) rfl rfl hth rfl ?_
  refine go_iload_n (pc' := 5) rfl rfl rfl ?_
  obtain ⟨g0, h⟩ := o_gE h
  obtain ⟨r_5, q_5, h⟩ := o_b1E h
  refine go_callV (pc' := 8) (B' := (0, 0)) (st' := [.inr (.inr r_5)]) rfl rfl (Or.inl (by decide)) rfl rfl (o_kdE g0) (md_96 (by omega) (o_kdE g0) q_5) rfl rfl rfl ?_
  refine go_astore_n (pc' := 9) (lo' := [some (.inr (.inr th)), some (.inl a0), some (.inl a1), some (.inr (.inr r_5))]) rfl rfl rfl ?_
  refine go_aload_n (pc' := 10) rfl rfl rfl ?_
  refine go_ifnull (pt := 21) (pc' := 13) rfl rfl rfl (fun h10 => ?_) (fun h10 => ?_)
  · replace h := o_t h10 h
    refine go_ldc (pc' := 23) (v := .inl (-2147483648 : Int32)) rfl rfl rfl ?_
    refine go_goto (pc' := 32) rfl rfl ?_
    cases h
    exact go_iret rfl (trivial) ⟨rfl, rfl, rfl, rfl, rfl⟩
  · replace h := o_f h10 h
    refine go_aload_n (pc' := 14) rfl rfl rfl ?_
    refine go_iload_n (pc' := 15) rfl rfl rfl ?_
    obtain ⟨g1, h⟩ := o_gE h
    obtain ⟨r_15, q_15, h⟩ := o_b1E h
    refine go_callV (pc' := 18) (B' := (0, 0)) (st' := [.inl r_15]) rfl rfl (Or.inl (by decide)) rfl rfl (o_kdE g1) (md_122 (by omega) (o_kdE g1) q_15) rfl rfl rfl ?_
    refine go_if_ne (pt := 26) (pc' := 21) rfl rfl rfl (fun h18 => ?_) (fun h18 => ?_)
    · replace h := o_f h18 h
      refine go_aload_n (pc' := 27) rfl rfl rfl ?_
      refine go_getR (pc' := 30) rfl rfl (o_kdE g1) rfl ?_
      refine go_iload_n (pc' := 31) rfl rfl rfl ?_
      obtain ⟨g2, h⟩ := o_gE h
      refine go_iaload (pc' := 32) rfl (o_inK g2) (o_inB g2) rfl ?_
      cases h
      exact go_iret rfl (trivial) ⟨rfl, rfl, rfl, rfl, rfl⟩
    · replace h := o_t (Decidable.of_not_not h18) h
      refine go_ldc (pc' := 23) (v := .inl (-2147483648 : Int32)) rfl rfl rfl ?_
      refine go_goto (pc' := 32) rfl rfl ?_
      cases h
      exact go_iret rfl (trivial) ⟨rfl, rfl, rfl, rfl, rfl⟩
/-- PricedBases.base(II)I -/
def m_144 (th : Nat) (a0 : Int32) (a1 : Int32) (I : ai_I) (Rf : ai_R) (G : ai_G) : Option (Int32) :=
  o_g (o_kd G (Rf th 0) 6) (o_b1 (m_96 (Rf th 0) a0 Rf G) (fun r_5 => if r_5 = 0 then (some (-1 : Int32)) else (if 0 ≤ a1 then (o_g (o_kd G r_5 8) (if (I r_5 2) ≤ a1 then (some (-4 : Int32)) else (o_g (o_in G 13 (Rf r_5 5) a1) (some (I (Rf r_5 5) a1.toNatClampNeg))))) else (some (-1 : Int32)))))
theorem md_144 {d : Nat} {I : ai_I} {J : ai_J} {Rf : ai_R} {G : ai_G} {th : Nat} {a0 : Int32} {a1 : Int32} {r : Int32} (hd : 2 ≤ d) (hth : G.1 th = 10) (h : m_144 th a0 a1 I Rf G = some r) : ai_Cl si_t si_ms d 144 [.inr (.inr th), .inl a0, .inl a1] I J Rf G (some (.inl r)) I J Rf G := by
  obtain ⟨e, rfl⟩ : ∃ e, d = e + 1 := ⟨d - 1, by omega⟩
  unfold m_144 at h
  refine sp_in (lo := [some (.inr (.inr th)), some (.inl a0), some (.inl a1), none]) (B := (0, 0)) rfl (Nat.le_of_ble_eq_true rfl) rfl rfl ?_
  refine go_aload_n (pc' := 1) rfl rfl rfl ?_
  refine go_getR (pc' := 4) rfl rfl hth rfl ?_
  refine go_iload_n (pc' := 5) rfl rfl rfl ?_
  obtain ⟨g0, h⟩ := o_gE h
  obtain ⟨r_5, q_5, h⟩ := o_b1E h
  refine go_callV (pc' := 8) (B' := (0, 0)) (st' := [.inr (.inr r_5)]) rfl rfl (Or.inl (by decide)) rfl rfl (o_kdE g0) (md_96 (by omega) (o_kdE g0) q_5) rfl rfl rfl ?_
  refine go_astore_n (pc' := 9) (lo' := [some (.inr (.inr th)), some (.inl a0), some (.inl a1), some (.inr (.inr r_5))]) rfl rfl rfl ?_
  refine go_aload_n (pc' := 10) rfl rfl rfl ?_
  refine go_ifnull (pt := 17) (pc' := 13) rfl rfl rfl (fun h10 => ?_) (fun h10 => ?_)
  · replace h := o_t h10 h
    refine go_iconst (pc' := 18) (v := (-1 : Int32)) rfl rfl rfl ?_
    cases h
    exact go_iret rfl (trivial) ⟨rfl, rfl, rfl, rfl, rfl⟩
  · replace h := o_f h10 h
    refine go_iload_n (pc' := 14) rfl rfl rfl ?_
    refine go_if_ge (pt := 19) (pc' := 17) rfl rfl rfl (fun h14 => ?_) (fun h14 => ?_)
    · replace h := o_t h14 h
      refine go_iload_n (pc' := 20) rfl rfl rfl ?_
      refine go_aload_n (pc' := 21) rfl rfl rfl ?_
      obtain ⟨g1, h⟩ := o_gE h
      refine go_getI (pc' := 24) rfl rfl (by decide) (by decide) (o_kdE g1) rfl ?_
      refine go_icmp_ge (pt := 36) (pc' := 27) rfl rfl rfl (fun h24 => ?_) (fun h24 => ?_)
      · replace h := o_t h24 h
        refine go_bipush (pc' := 38) (v := (-4 : Int32)) rfl rfl rfl ?_
        cases h
        exact go_iret rfl (trivial) ⟨rfl, rfl, rfl, rfl, rfl⟩
      · replace h := o_f h24 h
        refine go_aload_n (pc' := 28) rfl rfl rfl ?_
        refine go_getR (pc' := 31) rfl rfl (o_kdE g1) rfl ?_
        refine go_iload_n (pc' := 32) rfl rfl rfl ?_
        obtain ⟨g2, h⟩ := o_gE h
        refine go_iaload (pc' := 33) rfl (o_inK g2) (o_inB g2) rfl ?_
        refine go_goto (pc' := 38) rfl rfl ?_
        cases h
        exact go_iret rfl (trivial) ⟨rfl, rfl, rfl, rfl, rfl⟩
    · replace h := o_f h14 h
      refine go_iconst (pc' := 18) (v := (-1 : Int32)) rfl rfl rfl ?_
      cases h
      exact go_iret rfl (trivial) ⟨rfl, rfl, rfl, rfl, rfl⟩
/-- PricedBases.fault(III)I -/
def m_145 (th : Nat) (a0 : Int32) (a1 : Int32) (a2 : Int32) (I : ai_I) (Rf : ai_R) (G : ai_G) : Option (Int32 × ai_I) :=
  o_g (o_kd G (Rf th 0) 6) (o_b1 (m_96 (Rf th 0) a0 Rf G) (fun r_5 => if r_5 = 0 then (some ((-1 : Int32), I)) else (if a1 < 0 then (some ((-1 : Int32), I)) else (if a2 < 0 then (some ((-1 : Int32), I)) else (if a2 ≤ (nI 2) then (o_g (o_kd G r_5 8) (o_g (o_kd G (Rf th 7) 2) (o_b2 (m_32 (Rf th 7) r_5 (Rf r_5 3) a1 I Rf G) (fun r_42 I_42 => if a1 < r_42 then (if a2 = 0 then (some (I_42 (Rf th 7) 0, I_42)) else (if a2 = (nI 1) then (some (I_42 (Rf th 7) 1, I_42)) else (some (I_42 (Rf th 7) 2, I_42)))) else (some ((-4 : Int32), I_42)))))) else (some ((-1 : Int32), I)))))))
theorem md_145 {d : Nat} {I : ai_I} {J : ai_J} {Rf : ai_R} {G : ai_G} {th : Nat} {a0 : Int32} {a1 : Int32} {a2 : Int32} {r : Int32} {I1 : ai_I} (hd : 5 ≤ d) (hth : G.1 th = 10) (h : m_145 th a0 a1 a2 I Rf G = some (r, I1)) : ai_Cl si_t si_ms d 145 [.inr (.inr th), .inl a0, .inl a1, .inl a2] I J Rf G (some (.inl r)) I1 J Rf G := by
  obtain ⟨e, rfl⟩ : ∃ e, d = e + 1 := ⟨d - 1, by omega⟩
  unfold m_145 at h
  refine sp_in (lo := [some (.inr (.inr th)), some (.inl a0), some (.inl a1), some (.inl a2), none]) (B := (0, 0)) rfl (Nat.le_of_ble_eq_true rfl) rfl rfl ?_
  refine go_aload_n (pc' := 1) rfl rfl rfl ?_
  refine go_getR (pc' := 4) rfl rfl hth rfl ?_
  refine go_iload_n (pc' := 5) rfl rfl rfl ?_
  obtain ⟨g0, h⟩ := o_gE h
  obtain ⟨r_5, q_5, h⟩ := o_b1E h
  refine go_callV (pc' := 8) (B' := (0, 0)) (st' := [.inr (.inr r_5)]) rfl rfl (Or.inl (by decide)) rfl rfl (o_kdE g0) (md_96 (by omega) (o_kdE g0) q_5) rfl rfl rfl ?_
  refine go_astore (pc' := 10) (lo' := [some (.inr (.inr th)), some (.inl a0), some (.inl a1), some (.inl a2), some (.inr (.inr r_5))]) rfl rfl rfl ?_
  refine go_aload (pc' := 12) rfl rfl rfl ?_
  refine go_ifnull (pt := 28) (pc' := 15) rfl rfl rfl (fun h12 => ?_) (fun h12 => ?_)
  · replace h := o_t h12 h
    refine go_iconst (pc' := 29) (v := (-1 : Int32)) rfl rfl rfl ?_
    cases h
    exact go_iret rfl (trivial) ⟨rfl, rfl, rfl, rfl, rfl⟩
  · replace h := o_f h12 h
    refine go_iload_n (pc' := 16) rfl rfl rfl ?_
    refine go_if_lt (pt := 28) (pc' := 19) rfl rfl rfl (fun h16 => ?_) (fun h16 => ?_)
    · replace h := o_t h16 h
      refine go_iconst (pc' := 29) (v := (-1 : Int32)) rfl rfl rfl ?_
      cases h
      exact go_iret rfl (trivial) ⟨rfl, rfl, rfl, rfl, rfl⟩
    · replace h := o_f h16 h
      refine go_iload_n (pc' := 20) rfl rfl rfl ?_
      refine go_if_lt (pt := 28) (pc' := 23) rfl rfl rfl (fun h20 => ?_) (fun h20 => ?_)
      · replace h := o_t h20 h
        refine go_iconst (pc' := 29) (v := (-1 : Int32)) rfl rfl rfl ?_
        cases h
        exact go_iret rfl (trivial) ⟨rfl, rfl, rfl, rfl, rfl⟩
      · replace h := o_f h20 h
        refine go_iload_n (pc' := 24) rfl rfl rfl ?_
        refine go_iconst (pc' := 25) (v := (nI 2)) rfl rfl rfl ?_
        refine go_icmp_le (pt := 30) (pc' := 28) rfl rfl rfl (fun h25 => ?_) (fun h25 => ?_)
        · replace h := o_t h25 h
          refine go_aload_n (pc' := 31) rfl rfl rfl ?_
          refine go_getR (pc' := 34) rfl rfl hth rfl ?_
          refine go_aload (pc' := 36) rfl rfl rfl ?_
          refine go_aload (pc' := 38) rfl rfl rfl ?_
          obtain ⟨g1, h⟩ := o_gE h
          refine go_getR (pc' := 41) rfl rfl (o_kdE g1) rfl ?_
          refine go_iload_n (pc' := 42) rfl rfl rfl ?_
          obtain ⟨g2, h⟩ := o_gE h
          obtain ⟨r_42, I_42, q_42, h⟩ := o_b2E h
          refine go_callV (pc' := 45) (B' := (0, 0)) (st' := [.inl r_42]) rfl rfl (Or.inl (by decide)) rfl rfl (o_kdE g2) (md_32 (by omega) (o_kdE g2) q_42) rfl rfl rfl ?_
          refine go_iload_n (pc' := 46) rfl rfl rfl ?_
          refine go_icmp_gt (pt := 52) (pc' := 49) rfl rfl rfl (fun h46 => ?_) (fun h46 => ?_)
          · replace h := o_t h46 h
            refine go_iload_n (pc' := 53) rfl rfl rfl ?_
            refine go_if_ne (pt := 66) (pc' := 56) rfl rfl rfl (fun h53 => ?_) (fun h53 => ?_)
            · replace h := o_f h53 h
              refine go_iload_n (pc' := 67) rfl rfl rfl ?_
              refine go_iconst (pc' := 68) (v := (nI 1)) rfl rfl rfl ?_
              refine go_icmp_ne (pt := 81) (pc' := 71) rfl rfl rfl (fun h68 => ?_) (fun h68 => ?_)
              · replace h := o_f h68 h
                refine go_aload_n (pc' := 82) rfl rfl rfl ?_
                refine go_getR (pc' := 85) rfl rfl hth rfl ?_
                refine go_getI (pc' := 88) rfl rfl (by decide) (by decide) (o_kdE g2) rfl ?_
                cases h
                exact go_iret rfl (trivial) ⟨rfl, rfl, rfl, rfl, rfl⟩
              · replace h := o_t (Decidable.of_not_not h68) h
                refine go_aload_n (pc' := 72) rfl rfl rfl ?_
                refine go_getR (pc' := 75) rfl rfl hth rfl ?_
                refine go_getI (pc' := 78) rfl rfl (by decide) (by decide) (o_kdE g2) rfl ?_
                refine go_goto (pc' := 88) rfl rfl ?_
                cases h
                exact go_iret rfl (trivial) ⟨rfl, rfl, rfl, rfl, rfl⟩
            · replace h := o_t (Decidable.of_not_not h53) h
              refine go_aload_n (pc' := 57) rfl rfl rfl ?_
              refine go_getR (pc' := 60) rfl rfl hth rfl ?_
              refine go_getI (pc' := 63) rfl rfl (by decide) (by decide) (o_kdE g2) rfl ?_
              refine go_goto (pc' := 88) rfl rfl ?_
              cases h
              exact go_iret rfl (trivial) ⟨rfl, rfl, rfl, rfl, rfl⟩
          · replace h := o_f h46 h
            refine go_bipush (pc' := 51) (v := (-4 : Int32)) rfl rfl rfl ?_
            cases h
            exact go_iret rfl (trivial) ⟨rfl, rfl, rfl, rfl, rfl⟩
        · replace h := o_f h25 h
          refine go_iconst (pc' := 29) (v := (-1 : Int32)) rfl rfl rfl ?_
          cases h
          exact go_iret rfl (trivial) ⟨rfl, rfl, rfl, rfl, rfl⟩
/-- PricedBases.exchange(IIII)I -/
def m_146 (th : Nat) (a0 : Int32) (a1 : Int32) (a2 : Int32) (a3 : Int32) (I : ai_I) (Rf : ai_R) (G : ai_G) : Option (Int32) :=
  o_g (o_kd G (Rf th 0) 6) (o_b1 (m_96 (Rf th 0) a0 Rf G) (fun r_5 => if r_5 = 0 then (some (-1 : Int32)) else (o_g (o_kd G r_5 8) (o_b1 (m_122 r_5 a1 I Rf G) (fun r_18 => if r_18 = 0 then (some (-1 : Int32)) else (o_b1 (m_122 r_5 a2 I Rf G) (fun r_27 => if r_27 = 0 then (some (-1 : Int32)) else (o_b1 (m_120 r_5 a3 I) (fun r_37 => if r_37 = 0 then (some (-1 : Int32)) else (o_b1 (m_183 (a1 &&& (a2 ^^^ (-1 : Int32))) a3) (fun r_52 => if r_52 = 0 then (some (-1 : Int32)) else (o_b1 (m_34 (Rf r_5 3) a1 a2 a3 I G) (fun r_67 => some r_67)))))))))))))
theorem md_146 {d : Nat} {I : ai_I} {J : ai_J} {Rf : ai_R} {G : ai_G} {th : Nat} {a0 : Int32} {a1 : Int32} {a2 : Int32} {a3 : Int32} {r : Int32} (hd : 3 ≤ d) (hth : G.1 th = 10) (h : m_146 th a0 a1 a2 a3 I Rf G = some r) : ai_Cl si_t si_ms d 146 [.inr (.inr th), .inl a0, .inl a1, .inl a2, .inl a3] I J Rf G (some (.inl r)) I J Rf G := by
  obtain ⟨e, rfl⟩ : ∃ e, d = e + 1 := ⟨d - 1, by omega⟩
  unfold m_146 at h
  refine sp_in (lo := [some (.inr (.inr th)), some (.inl a0), some (.inl a1), some (.inl a2), some (.inl a3), none]) (B := (0, 0)) rfl (Nat.le_of_ble_eq_true rfl) rfl rfl ?_
  refine go_aload_n (pc' := 1) rfl rfl rfl ?_
  refine go_getR (pc' := 4) rfl rfl hth rfl ?_
  refine go_iload_n (pc' := 5) rfl rfl rfl ?_
  obtain ⟨g0, h⟩ := o_gE h
  obtain ⟨r_5, q_5, h⟩ := o_b1E h
  refine go_callV (pc' := 8) (B' := (0, 0)) (st' := [.inr (.inr r_5)]) rfl rfl (Or.inl (by decide)) rfl rfl (o_kdE g0) (md_96 (by omega) (o_kdE g0) q_5) rfl rfl rfl ?_
  refine go_astore (pc' := 10) (lo' := [some (.inr (.inr th)), some (.inl a0), some (.inl a1), some (.inl a2), some (.inl a3), some (.inr (.inr r_5))]) rfl rfl rfl ?_
  refine go_aload (pc' := 12) rfl rfl rfl ?_
  refine go_ifnull (pt := 43) (pc' := 15) rfl rfl rfl (fun h12 => ?_) (fun h12 => ?_)
  · replace h := o_t h12 h
    refine go_iconst (pc' := 44) (v := (-1 : Int32)) rfl rfl rfl ?_
    cases h
    exact go_iret rfl (trivial) ⟨rfl, rfl, rfl, rfl, rfl⟩
  · replace h := o_f h12 h
    refine go_aload (pc' := 17) rfl rfl rfl ?_
    refine go_iload_n (pc' := 18) rfl rfl rfl ?_
    obtain ⟨g1, h⟩ := o_gE h
    obtain ⟨r_18, q_18, h⟩ := o_b1E h
    refine go_callV (pc' := 21) (B' := (0, 0)) (st' := [.inl r_18]) rfl rfl (Or.inl (by decide)) rfl rfl (o_kdE g1) (md_122 (by omega) (o_kdE g1) q_18) rfl rfl rfl ?_
    refine go_if_eq (pt := 43) (pc' := 24) rfl rfl rfl (fun h21 => ?_) (fun h21 => ?_)
    · replace h := o_t h21 h
      refine go_iconst (pc' := 44) (v := (-1 : Int32)) rfl rfl rfl ?_
      cases h
      exact go_iret rfl (trivial) ⟨rfl, rfl, rfl, rfl, rfl⟩
    · replace h := o_f h21 h
      refine go_aload (pc' := 26) rfl rfl rfl ?_
      refine go_iload_n (pc' := 27) rfl rfl rfl ?_
      obtain ⟨r_27, q_27, h⟩ := o_b1E h
      refine go_callV (pc' := 30) (B' := (0, 0)) (st' := [.inl r_27]) rfl rfl (Or.inl (by decide)) rfl rfl (o_kdE g1) (md_122 (by omega) (o_kdE g1) q_27) rfl rfl rfl ?_
      refine go_if_eq (pt := 43) (pc' := 33) rfl rfl rfl (fun h30 => ?_) (fun h30 => ?_)
      · replace h := o_t h30 h
        refine go_iconst (pc' := 44) (v := (-1 : Int32)) rfl rfl rfl ?_
        cases h
        exact go_iret rfl (trivial) ⟨rfl, rfl, rfl, rfl, rfl⟩
      · replace h := o_f h30 h
        refine go_aload (pc' := 35) rfl rfl rfl ?_
        refine go_iload (pc' := 37) rfl rfl rfl ?_
        obtain ⟨r_37, q_37, h⟩ := o_b1E h
        refine go_callV (pc' := 40) (B' := (0, 0)) (st' := [.inl r_37]) rfl rfl (Or.inl (by decide)) rfl rfl (o_kdE g1) (md_120 (by omega) (o_kdE g1) q_37) rfl rfl rfl ?_
        refine go_if_ne (pt := 45) (pc' := 43) rfl rfl rfl (fun h40 => ?_) (fun h40 => ?_)
        · replace h := o_f h40 h
          refine go_iload_n (pc' := 46) rfl rfl rfl ?_
          refine go_iload_n (pc' := 47) rfl rfl rfl ?_
          refine go_iconst (pc' := 48) (v := (-1 : Int32)) rfl rfl rfl ?_
          refine go_ixor (pc' := 49) rfl rfl ?_
          refine go_iand (pc' := 50) rfl rfl ?_
          refine go_iload (pc' := 52) rfl rfl rfl ?_
          obtain ⟨r_52, q_52, h⟩ := o_b1E h
          refine go_callS (pc' := 55) (B' := (0, 0)) (st' := [.inl r_52]) rfl rfl (Or.inl (by decide)) rfl rfl trivial (md_183 (by omega) q_52) rfl rfl rfl ?_
          refine go_if_eq (pt := 73) (pc' := 58) rfl rfl rfl (fun h55 => ?_) (fun h55 => ?_)
          · replace h := o_t h55 h
            refine go_iconst (pc' := 74) (v := (-1 : Int32)) rfl rfl rfl ?_
            cases h
            exact go_iret rfl (trivial) ⟨rfl, rfl, rfl, rfl, rfl⟩
          · replace h := o_f h55 h
            refine go_aload (pc' := 60) rfl rfl rfl ?_
            refine go_getR (pc' := 63) rfl rfl (o_kdE g1) rfl ?_
            refine go_iload_n (pc' := 64) rfl rfl rfl ?_
            refine go_iload_n (pc' := 65) rfl rfl rfl ?_
            refine go_iload (pc' := 67) rfl rfl rfl ?_
            obtain ⟨r_67, q_67, h⟩ := o_b1E h
            refine go_callS (pc' := 70) (B' := (0, 0)) (st' := [.inl r_67]) rfl rfl (Or.inl (by decide)) rfl rfl trivial (md_34 (by omega) q_67) rfl rfl rfl ?_
            refine go_goto (pc' := 74) rfl rfl ?_
            cases h
            exact go_iret rfl (trivial) ⟨rfl, rfl, rfl, rfl, rfl⟩
        · replace h := o_t (Decidable.of_not_not h40) h
          refine go_iconst (pc' := 44) (v := (-1 : Int32)) rfl rfl rfl ?_
          cases h
          exact go_iret rfl (trivial) ⟨rfl, rfl, rfl, rfl, rfl⟩
/-- PricedBases.rank(II)I -/
def m_147 (th : Nat) (a0 : Int32) (a1 : Int32) (I : ai_I) (Rf : ai_R) (G : ai_G) : Option (Int32) :=
  o_g (o_kd G (Rf th 0) 6) (o_b1 (m_96 (Rf th 0) a0 Rf G) (fun r_5 => if r_5 = 0 then (some (-1 : Int32)) else (o_g (o_kd G r_5 8) (o_b1 (m_121 r_5 a1 I) (fun r_15 => if r_15 = 0 then (some (-1 : Int32)) else (o_g (o_in G 13 (Rf r_5 4) a1) (some (I (Rf r_5 4) a1.toNatClampNeg))))))))
theorem md_147 {d : Nat} {I : ai_I} {J : ai_J} {Rf : ai_R} {G : ai_G} {th : Nat} {a0 : Int32} {a1 : Int32} {r : Int32} (hd : 2 ≤ d) (hth : G.1 th = 10) (h : m_147 th a0 a1 I Rf G = some r) : ai_Cl si_t si_ms d 147 [.inr (.inr th), .inl a0, .inl a1] I J Rf G (some (.inl r)) I J Rf G := by
  obtain ⟨e, rfl⟩ : ∃ e, d = e + 1 := ⟨d - 1, by omega⟩
  unfold m_147 at h
  refine sp_in (lo := [some (.inr (.inr th)), some (.inl a0), some (.inl a1), none]) (B := (0, 0)) rfl (Nat.le_of_ble_eq_true rfl) rfl rfl ?_
  refine go_aload_n (pc' := 1) rfl rfl rfl ?_
  refine go_getR (pc' := 4) rfl rfl hth rfl ?_
  refine go_iload_n (pc' := 5) rfl rfl rfl ?_
  obtain ⟨g0, h⟩ := o_gE h
  obtain ⟨r_5, q_5, h⟩ := o_b1E h
  refine go_callV (pc' := 8) (B' := (0, 0)) (st' := [.inr (.inr r_5)]) rfl rfl (Or.inl (by decide)) rfl rfl (o_kdE g0) (md_96 (by omega) (o_kdE g0) q_5) rfl rfl rfl ?_
  refine go_astore_n (pc' := 9) (lo' := [some (.inr (.inr th)), some (.inl a0), some (.inl a1), some (.inr (.inr r_5))]) rfl rfl rfl ?_
  refine go_aload_n (pc' := 10) rfl rfl rfl ?_
  refine go_ifnull (pt := 21) (pc' := 13) rfl rfl rfl (fun h10 => ?_) (fun h10 => ?_)
  · replace h := o_t h10 h
    refine go_iconst (pc' := 22) (v := (-1 : Int32)) rfl rfl rfl ?_
    refine go_goto (pc' := 31) rfl rfl ?_
    cases h
    exact go_iret rfl (trivial) ⟨rfl, rfl, rfl, rfl, rfl⟩
  · replace h := o_f h10 h
    refine go_aload_n (pc' := 14) rfl rfl rfl ?_
    refine go_iload_n (pc' := 15) rfl rfl rfl ?_
    obtain ⟨g1, h⟩ := o_gE h
    obtain ⟨r_15, q_15, h⟩ := o_b1E h
    refine go_callV (pc' := 18) (B' := (0, 0)) (st' := [.inl r_15]) rfl rfl (Or.inl (by decide)) rfl rfl (o_kdE g1) (md_121 (by omega) (o_kdE g1) q_15) rfl rfl rfl ?_
    refine go_if_ne (pt := 25) (pc' := 21) rfl rfl rfl (fun h18 => ?_) (fun h18 => ?_)
    · replace h := o_f h18 h
      refine go_aload_n (pc' := 26) rfl rfl rfl ?_
      refine go_getR (pc' := 29) rfl rfl (o_kdE g1) rfl ?_
      refine go_iload_n (pc' := 30) rfl rfl rfl ?_
      obtain ⟨g2, h⟩ := o_gE h
      refine go_iaload (pc' := 31) rfl (o_inK g2) (o_inB g2) rfl ?_
      cases h
      exact go_iret rfl (trivial) ⟨rfl, rfl, rfl, rfl, rfl⟩
    · replace h := o_t (Decidable.of_not_not h18) h
      refine go_iconst (pc' := 22) (v := (-1 : Int32)) rfl rfl rfl ?_
      refine go_goto (pc' := 31) rfl rfl ?_
      cases h
      exact go_iret rfl (trivial) ⟨rfl, rfl, rfl, rfl, rfl⟩
/-- PricedBases.closure(II)I -/
def m_148 (th : Nat) (a0 : Int32) (a1 : Int32) (I : ai_I) (Rf : ai_R) (G : ai_G) : Option (Int32) :=
  o_g (o_kd G (Rf th 0) 6) (o_b1 (m_96 (Rf th 0) a0 Rf G) (fun r_5 => if r_5 = 0 then (some (-1 : Int32)) else (o_g (o_kd G r_5 8) (o_b1 (m_121 r_5 a1 I) (fun r_15 => if r_15 = 0 then (some (-1 : Int32)) else (o_b1 (m_70 r_5 a1 I Rf G) (fun r_27 => some r_27)))))))
theorem md_148 {d : Nat} {I : ai_I} {J : ai_J} {Rf : ai_R} {G : ai_G} {th : Nat} {a0 : Int32} {a1 : Int32} {r : Int32} (hd : 2 ≤ d) (hth : G.1 th = 10) (h : m_148 th a0 a1 I Rf G = some r) : ai_Cl si_t si_ms d 148 [.inr (.inr th), .inl a0, .inl a1] I J Rf G (some (.inl r)) I J Rf G := by
  obtain ⟨e, rfl⟩ : ∃ e, d = e + 1 := ⟨d - 1, by omega⟩
  unfold m_148 at h
  refine sp_in (lo := [some (.inr (.inr th)), some (.inl a0), some (.inl a1), none]) (B := (0, 0)) rfl (Nat.le_of_ble_eq_true rfl) rfl rfl ?_
  refine go_aload_n (pc' := 1) rfl rfl rfl ?_
  refine go_getR (pc' := 4) rfl rfl hth rfl ?_
  refine go_iload_n (pc' := 5) rfl rfl rfl ?_
  obtain ⟨g0, h⟩ := o_gE h
  obtain ⟨r_5, q_5, h⟩ := o_b1E h
  refine go_callV (pc' := 8) (B' := (0, 0)) (st' := [.inr (.inr r_5)]) rfl rfl (Or.inl (by decide)) rfl rfl (o_kdE g0) (md_96 (by omega) (o_kdE g0) q_5) rfl rfl rfl ?_
  refine go_astore_n (pc' := 9) (lo' := [some (.inr (.inr th)), some (.inl a0), some (.inl a1), some (.inr (.inr r_5))]) rfl rfl rfl ?_
  refine go_aload_n (pc' := 10) rfl rfl rfl ?_
  refine go_ifnull (pt := 21) (pc' := 13) rfl rfl rfl (fun h10 => ?_) (fun h10 => ?_)
  · replace h := o_t h10 h
    refine go_iconst (pc' := 22) (v := (-1 : Int32)) rfl rfl rfl ?_
    refine go_goto (pc' := 30) rfl rfl ?_
    cases h
    exact go_iret rfl (trivial) ⟨rfl, rfl, rfl, rfl, rfl⟩
  · replace h := o_f h10 h
    refine go_aload_n (pc' := 14) rfl rfl rfl ?_
    refine go_iload_n (pc' := 15) rfl rfl rfl ?_
    obtain ⟨g1, h⟩ := o_gE h
    obtain ⟨r_15, q_15, h⟩ := o_b1E h
    refine go_callV (pc' := 18) (B' := (0, 0)) (st' := [.inl r_15]) rfl rfl (Or.inl (by decide)) rfl rfl (o_kdE g1) (md_121 (by omega) (o_kdE g1) q_15) rfl rfl rfl ?_
    refine go_if_ne (pt := 25) (pc' := 21) rfl rfl rfl (fun h18 => ?_) (fun h18 => ?_)
    · replace h := o_f h18 h
      refine go_aload_n (pc' := 26) rfl rfl rfl ?_
      refine go_iload_n (pc' := 27) rfl rfl rfl ?_
      obtain ⟨r_27, q_27, h⟩ := o_b1E h
      refine go_callS (pc' := 30) (B' := (0, 0)) (st' := [.inl r_27]) rfl rfl (Or.inl (by decide)) rfl rfl trivial (md_70 (by omega) q_27) rfl rfl rfl ?_
      cases h
      exact go_iret rfl (trivial) ⟨rfl, rfl, rfl, rfl, rfl⟩
    · replace h := o_t (Decidable.of_not_not h18) h
      refine go_iconst (pc' := 22) (v := (-1 : Int32)) rfl rfl rfl ?_
      refine go_goto (pc' := 30) rfl rfl ?_
      cases h
      exact go_iret rfl (trivial) ⟨rfl, rfl, rfl, rfl, rfl⟩
/-- PricedBases.circuit(II)I -/
def m_149 (th : Nat) (a0 : Int32) (a1 : Int32) (I : ai_I) (Rf : ai_R) (G : ai_G) : Option (Int32) :=
  o_g (o_kd G (Rf th 0) 6) (o_b1 (m_96 (Rf th 0) a0 Rf G) (fun r_5 => if r_5 = 0 then (some (-1 : Int32)) else (if 0 ≤ a1 then (o_b1 (m_75 r_5 a1 I Rf G) (fun r_23 => some r_23)) else (some (-1 : Int32)))))
theorem md_149 {d : Nat} {I : ai_I} {J : ai_J} {Rf : ai_R} {G : ai_G} {th : Nat} {a0 : Int32} {a1 : Int32} {r : Int32} (hd : 5 ≤ d) (hth : G.1 th = 10) (h : m_149 th a0 a1 I Rf G = some r) : ai_Cl si_t si_ms d 149 [.inr (.inr th), .inl a0, .inl a1] I J Rf G (some (.inl r)) I J Rf G := by
  obtain ⟨e, rfl⟩ : ∃ e, d = e + 1 := ⟨d - 1, by omega⟩
  unfold m_149 at h
  refine sp_in (lo := [some (.inr (.inr th)), some (.inl a0), some (.inl a1), none]) (B := (0, 0)) rfl (Nat.le_of_ble_eq_true rfl) rfl rfl ?_
  refine go_aload_n (pc' := 1) rfl rfl rfl ?_
  refine go_getR (pc' := 4) rfl rfl hth rfl ?_
  refine go_iload_n (pc' := 5) rfl rfl rfl ?_
  obtain ⟨g0, h⟩ := o_gE h
  obtain ⟨r_5, q_5, h⟩ := o_b1E h
  refine go_callV (pc' := 8) (B' := (0, 0)) (st' := [.inr (.inr r_5)]) rfl rfl (Or.inl (by decide)) rfl rfl (o_kdE g0) (md_96 (by omega) (o_kdE g0) q_5) rfl rfl rfl ?_
  refine go_astore_n (pc' := 9) (lo' := [some (.inr (.inr th)), some (.inl a0), some (.inl a1), some (.inr (.inr r_5))]) rfl rfl rfl ?_
  refine go_aload_n (pc' := 10) rfl rfl rfl ?_
  refine go_ifnull (pt := 17) (pc' := 13) rfl rfl rfl (fun h10 => ?_) (fun h10 => ?_)
  · replace h := o_t h10 h
    refine go_iconst (pc' := 18) (v := (-1 : Int32)) rfl rfl rfl ?_
    refine go_goto (pc' := 26) rfl rfl ?_
    cases h
    exact go_iret rfl (trivial) ⟨rfl, rfl, rfl, rfl, rfl⟩
  · replace h := o_f h10 h
    refine go_iload_n (pc' := 14) rfl rfl rfl ?_
    refine go_if_ge (pt := 21) (pc' := 17) rfl rfl rfl (fun h14 => ?_) (fun h14 => ?_)
    · replace h := o_t h14 h
      refine go_aload_n (pc' := 22) rfl rfl rfl ?_
      refine go_iload_n (pc' := 23) rfl rfl rfl ?_
      obtain ⟨r_23, q_23, h⟩ := o_b1E h
      refine go_callS (pc' := 26) (B' := (0, 0)) (st' := [.inl r_23]) rfl rfl (Or.inl (by decide)) rfl rfl trivial (md_75 (by omega) q_23) rfl rfl rfl ?_
      cases h
      exact go_iret rfl (trivial) ⟨rfl, rfl, rfl, rfl, rfl⟩
    · replace h := o_f h14 h
      refine go_iconst (pc' := 18) (v := (-1 : Int32)) rfl rfl rfl ?_
      refine go_goto (pc' := 26) rfl rfl ?_
      cases h
      exact go_iret rfl (trivial) ⟨rfl, rfl, rfl, rfl, rfl⟩
/-- PricedBases.greedy(III)I -/
def m_150 (th : Nat) (a0 : Int32) (a1 : Int32) (a2 : Int32) (I : ai_I) (Rf : ai_R) (G : ai_G) : Option (Int32 × ai_I) :=
  o_g (o_kd G (Rf th 0) 6) (o_b1 (m_96 (Rf th 0) a0 Rf G) (fun r_5 => if r_5 = 0 then (some ((-2147483648 : Int32), I)) else (o_g (o_kd G r_5 8) (o_b1 (m_122 r_5 a1 I Rf G) (fun r_18 => if r_18 = 0 then (some ((-2147483648 : Int32), I)) else (o_g (o_kd G (Rf th 8) 7) (o_b1 (m_104 (Rf th 8) r_5 (Rf (Rf th 0) 1) I Rf G) (fun I_40 => o_b1 (m_106 (Rf th 8) r_5 a1 I_40 Rf G) (fun I_50 => if a2 = (0 : Int32) then (some (I_50 (Rf th 8) 2, I_50)) else (if a2 = (1 : Int32) then (o_g (o_in G 13 (Rf (Rf th 8) 0) (I_50 (Rf th 8) 2)) (some (I_50 (Rf (Rf th 8) 0) (I_50 (Rf th 8) 2).toNatClampNeg, I_50))) else (if a2 = (2 : Int32) then (some (I_50 (Rf th 8) 3, I_50)) else (if a2 = (3 : Int32) then (o_b1 (m_105 (Rf th 8) (I_50 (Rf th 8) 2) I_50 Rf G) (fun r_127 => o_b1 (m_182 r_127) (fun r_130 => some (r_130, I_50)))) else (some ((-2147483648 : Int32), I_50))))))))))))))
theorem md_150 {d : Nat} {I : ai_I} {J : ai_J} {Rf : ai_R} {G : ai_G} {th : Nat} {a0 : Int32} {a1 : Int32} {a2 : Int32} {r : Int32} {I1 : ai_I} (hd : 4 ≤ d) (hth : G.1 th = 10) (h : m_150 th a0 a1 a2 I Rf G = some (r, I1)) : ai_Cl si_t si_ms d 150 [.inr (.inr th), .inl a0, .inl a1, .inl a2] I J Rf G (some (.inl r)) I1 J Rf G := by
  obtain ⟨e, rfl⟩ : ∃ e, d = e + 1 := ⟨d - 1, by omega⟩
  unfold m_150 at h
  refine sp_in (lo := [some (.inr (.inr th)), some (.inl a0), some (.inl a1), some (.inl a2), none]) (B := (0, 0)) rfl (Nat.le_of_ble_eq_true rfl) rfl rfl ?_
  refine go_aload_n (pc' := 1) rfl rfl rfl ?_
  refine go_getR (pc' := 4) rfl rfl hth rfl ?_
  refine go_iload_n (pc' := 5) rfl rfl rfl ?_
  obtain ⟨g0, h⟩ := o_gE h
  obtain ⟨r_5, q_5, h⟩ := o_b1E h
  refine go_callV (pc' := 8) (B' := (0, 0)) (st' := [.inr (.inr r_5)]) rfl rfl (Or.inl (by decide)) rfl rfl (o_kdE g0) (md_96 (by omega) (o_kdE g0) q_5) rfl rfl rfl ?_
  refine go_astore (pc' := 10) (lo' := [some (.inr (.inr th)), some (.inl a0), some (.inl a1), some (.inl a2), some (.inr (.inr r_5))]) rfl rfl rfl ?_
  refine go_aload (pc' := 12) rfl rfl rfl ?_
  refine go_ifnull (pt := 24) (pc' := 15) rfl rfl rfl (fun h12 => ?_) (fun h12 => ?_)
  · replace h := o_t h12 h
    refine go_ldc (pc' := 26) (v := .inl (-2147483648 : Int32)) rfl rfl rfl ?_
    cases h
    exact go_iret rfl (trivial) ⟨rfl, rfl, rfl, rfl, rfl⟩
  · replace h := o_f h12 h
    refine go_aload (pc' := 17) rfl rfl rfl ?_
    refine go_iload_n (pc' := 18) rfl rfl rfl ?_
    obtain ⟨g1, h⟩ := o_gE h
    obtain ⟨r_18, q_18, h⟩ := o_b1E h
    refine go_callV (pc' := 21) (B' := (0, 0)) (st' := [.inl r_18]) rfl rfl (Or.inl (by decide)) rfl rfl (o_kdE g1) (md_122 (by omega) (o_kdE g1) q_18) rfl rfl rfl ?_
    refine go_if_ne (pt := 27) (pc' := 24) rfl rfl rfl (fun h21 => ?_) (fun h21 => ?_)
    · replace h := o_f h21 h
      refine go_aload_n (pc' := 28) rfl rfl rfl ?_
      refine go_getR (pc' := 31) rfl rfl hth rfl ?_
      refine go_aload (pc' := 33) rfl rfl rfl ?_
      refine go_aload_n (pc' := 34) rfl rfl rfl ?_
      refine go_getR (pc' := 37) rfl rfl hth rfl ?_
      refine go_getR (pc' := 40) rfl rfl (o_kdE g0) rfl ?_
      obtain ⟨g2, h⟩ := o_gE h
      obtain ⟨I_40, q_40, h⟩ := o_b1E h
      refine go_callV (pc' := 43) (B' := (0, 0)) (st' := []) rfl rfl (Or.inl (by decide)) rfl rfl (o_kdE g2) (md_104 (by omega) (o_kdE g2) q_40) rfl rfl rfl ?_
      refine go_aload_n (pc' := 44) rfl rfl rfl ?_
      refine go_getR (pc' := 47) rfl rfl hth rfl ?_
      refine go_aload (pc' := 49) rfl rfl rfl ?_
      refine go_iload_n (pc' := 50) rfl rfl rfl ?_
      obtain ⟨I_50, q_50, h⟩ := o_b1E h
      refine go_callV (pc' := 53) (B' := (0, 0)) (st' := []) rfl rfl (Or.inl (by decide)) rfl rfl (o_kdE g2) (md_106 (by omega) (o_kdE g2) q_50) rfl rfl rfl ?_
      refine go_iload_n (pc' := 54) rfl rfl rfl ?_
      by_cases c54_0 : a2 = (0 : Int32)
      · replace h := o_t c54_0 h
        refine go_swIn (pc' := 84) 0 rfl rfl (by rw [c54_0]; decide) (by rw [c54_0]; decide) rfl ?_
        refine go_aload_n (pc' := 85) rfl rfl rfl ?_
        refine go_getR (pc' := 88) rfl rfl hth rfl ?_
        refine go_getI (pc' := 91) rfl rfl (by decide) (by decide) (o_kdE g2) rfl ?_
        cases h
        exact go_iret rfl (trivial) ⟨rfl, rfl, rfl, rfl, rfl⟩
      replace h := o_f c54_0 h
      by_cases c54_1 : a2 = (1 : Int32)
      · replace h := o_t c54_1 h
        refine go_swIn (pc' := 92) 1 rfl rfl (by rw [c54_1]; decide) (by rw [c54_1]; decide) rfl ?_
        refine go_aload_n (pc' := 93) rfl rfl rfl ?_
        refine go_getR (pc' := 96) rfl rfl hth rfl ?_
        refine go_getR (pc' := 99) rfl rfl (o_kdE g2) rfl ?_
        refine go_aload_n (pc' := 100) rfl rfl rfl ?_
        refine go_getR (pc' := 103) rfl rfl hth rfl ?_
        refine go_getI (pc' := 106) rfl rfl (by decide) (by decide) (o_kdE g2) rfl ?_
        obtain ⟨g3, h⟩ := o_gE h
        refine go_iaload (pc' := 107) rfl (o_inK g3) (o_inB g3) rfl ?_
        cases h
        exact go_iret rfl (trivial) ⟨rfl, rfl, rfl, rfl, rfl⟩
      replace h := o_f c54_1 h
      by_cases c54_2 : a2 = (2 : Int32)
      · replace h := o_t c54_2 h
        refine go_swIn (pc' := 108) 2 rfl rfl (by rw [c54_2]; decide) (by rw [c54_2]; decide) rfl ?_
        refine go_aload_n (pc' := 109) rfl rfl rfl ?_
        refine go_getR (pc' := 112) rfl rfl hth rfl ?_
        refine go_getI (pc' := 115) rfl rfl (by decide) (by decide) (o_kdE g2) rfl ?_
        cases h
        exact go_iret rfl (trivial) ⟨rfl, rfl, rfl, rfl, rfl⟩
      replace h := o_f c54_2 h
      by_cases c54_3 : a2 = (3 : Int32)
      · replace h := o_t c54_3 h
        refine go_swIn (pc' := 116) 3 rfl rfl (by rw [c54_3]; decide) (by rw [c54_3]; decide) rfl ?_
        refine go_aload_n (pc' := 117) rfl rfl rfl ?_
        refine go_getR (pc' := 120) rfl rfl hth rfl ?_
        refine go_aload_n (pc' := 121) rfl rfl rfl ?_
        refine go_getR (pc' := 124) rfl rfl hth rfl ?_
        refine go_getI (pc' := 127) rfl rfl (by decide) (by decide) (o_kdE g2) rfl ?_
        obtain ⟨r_127, q_127, h⟩ := o_b1E h
        refine go_callV (pc' := 130) (B' := (0, 0)) (st' := [.inl r_127]) rfl rfl (Or.inl (by decide)) rfl rfl (o_kdE g2) (md_105 (by omega) (o_kdE g2) q_127) rfl rfl rfl ?_
        obtain ⟨r_130, q_130, h⟩ := o_b1E h
        refine go_callS (pc' := 133) (B' := (0, 0)) (st' := [.inl r_130]) rfl rfl (Or.inl (by decide)) rfl rfl trivial (md_182 (by omega) q_130) rfl rfl rfl ?_
        cases h
        exact go_iret rfl (trivial) ⟨rfl, rfl, rfl, rfl, rfl⟩
      replace h := o_f c54_3 h
      refine go_swOut (pc' := 134) rfl (by
          rw [← Int32.toInt_inj] at c54_0
          rw [← Int32.toInt_inj] at c54_1
          rw [← Int32.toInt_inj] at c54_2
          rw [← Int32.toInt_inj] at c54_3
          have c54_0 : ¬ a2.toInt = 0 := c54_0
          have c54_1 : ¬ a2.toInt = 1 := c54_1
          have c54_2 : ¬ a2.toInt = 2 := c54_2
          have c54_3 : ¬ a2.toInt = 3 := c54_3
          show a2.toInt < 0 ∨ 0 + ((4 : Nat) : Int) ≤ a2.toInt
          omega) rfl ?_
      refine go_ldc (pc' := 136) (v := .inl (-2147483648 : Int32)) rfl rfl rfl ?_
      cases h
      exact go_iret rfl (trivial) ⟨rfl, rfl, rfl, rfl, rfl⟩
    · replace h := o_t (Decidable.of_not_not h21) h
      refine go_ldc (pc' := 26) (v := .inl (-2147483648 : Int32)) rfl rfl rfl ?_
      cases h
      exact go_iret rfl (trivial) ⟨rfl, rfl, rfl, rfl, rfl⟩
def m_151_x35_85 (w3_85 : Int32) (Ix_85 : ai_I) : Option (Int32 × ai_I) :=
  some (w3_85, Ix_85)
def m_151_b35 (th : Nat) (Rf : ai_R) (G : ai_G) (r_5 : Nat) (v3_35 : Int32) (v4_35 : Int32) (I_35 : ai_I) : Option ((Int32 × Int32 × ai_I) ⊕ (Int32 × ai_I)) :=
  o_g (o_kd G r_5 8) (if (I_35 r_5 2) ≤ v4_35 then (some (Sum.inr (v3_35, I_35))) else (o_g (o_in G 13 (Rf r_5 5) v4_35) (o_b1 (m_106 (Rf th 8) r_5 (I_35 (Rf r_5 5) v4_35.toNatClampNeg) I_35 Rf G) (fun I_56 => o_b1 (m_105 (Rf th 8) (I_56 (Rf th 8) 2) I_56 Rf G) (fun r_71 => o_b1 (m_182 r_71) (fun r_74 => o_b1 (some (v3_35 + r_74)) (fun x3_78 => o_b1 (some (v4_35 + (nI 1))) (fun x4_79 => some (Sum.inl (x3_78, x4_79, I_56))))))))))
/-- PricedBases.arrive(I)I -/
def m_151 (th : Nat) (a0 : Int32) (I : ai_I) (Rf : ai_R) (G : ai_G) : Option (Int32 × ai_I) :=
  o_g (o_kd G (Rf th 0) 6) (o_b1 (m_96 (Rf th 0) a0 Rf G) (fun r_5 => if r_5 = 0 then (some ((-1 : Int32), I)) else (o_g (o_kd G (Rf th 8) 7) (o_b1 (m_104 (Rf th 8) r_5 (Rf (Rf th 0) 1) I Rf G) (fun I_27 => o_s1 (lp (fun s => m_151_b35 th Rf G r_5 s.1 s.2.1 s.2.2) o_N ((nI 0), (nI 0), I_27)) (fun t => m_151_x35_85 t.1 t.2))))))
theorem md_151 {d : Nat} {I : ai_I} {J : ai_J} {Rf : ai_R} {G : ai_G} {th : Nat} {a0 : Int32} {r : Int32} {I1 : ai_I} (hd : 4 ≤ d) (hth : G.1 th = 10) (h : m_151 th a0 I Rf G = some (r, I1)) : ai_Cl si_t si_ms d 151 [.inr (.inr th), .inl a0] I J Rf G (some (.inl r)) I1 J Rf G := by
  obtain ⟨e, rfl⟩ : ∃ e, d = e + 1 := ⟨d - 1, by omega⟩
  unfold m_151 at h
  refine sp_in (lo := [some (.inr (.inr th)), some (.inl a0), none, none, none]) (B := (0, 0)) rfl (Nat.le_of_ble_eq_true rfl) rfl rfl ?_
  refine go_aload_n (pc' := 1) rfl rfl rfl ?_
  refine go_getR (pc' := 4) rfl rfl hth rfl ?_
  refine go_iload_n (pc' := 5) rfl rfl rfl ?_
  obtain ⟨g0, h⟩ := o_gE h
  obtain ⟨r_5, q_5, h⟩ := o_b1E h
  refine go_callV (pc' := 8) (B' := (0, 0)) (st' := [.inr (.inr r_5)]) rfl rfl (Or.inl (by decide)) rfl rfl (o_kdE g0) (md_96 (by omega) (o_kdE g0) q_5) rfl rfl rfl ?_
  refine go_astore_n (pc' := 9) (lo' := [some (.inr (.inr th)), some (.inl a0), some (.inr (.inr r_5)), none, none]) rfl rfl rfl ?_
  refine go_aload_n (pc' := 10) rfl rfl rfl ?_
  refine go_ifnonnull (pt := 15) (pc' := 13) rfl rfl rfl (fun h10 => ?_) (fun h10 => ?_)
  · replace h := o_f h10 h
    refine go_aload_n (pc' := 16) rfl rfl rfl ?_
    refine go_getR (pc' := 19) rfl rfl hth rfl ?_
    refine go_aload_n (pc' := 20) rfl rfl rfl ?_
    refine go_aload_n (pc' := 21) rfl rfl rfl ?_
    refine go_getR (pc' := 24) rfl rfl hth rfl ?_
    refine go_getR (pc' := 27) rfl rfl (o_kdE g0) rfl ?_
    obtain ⟨g1, h⟩ := o_gE h
    obtain ⟨I_27, q_27, h⟩ := o_b1E h
    refine go_callV (pc' := 30) (B' := (0, 0)) (st' := []) rfl rfl (Or.inl (by decide)) rfl rfl (o_kdE g1) (md_104 (by omega) (o_kdE g1) q_27) rfl rfl rfl ?_
    refine go_iconst (pc' := 31) (v := (nI 0)) rfl rfl rfl ?_
    refine go_istore_n (pc' := 32) (lo' := [some (.inr (.inr th)), some (.inl a0), some (.inr (.inr r_5)), some (.inl (nI 0)), none]) rfl rfl rfl ?_
    refine go_iconst (pc' := 33) (v := (nI 0)) rfl rfl rfl ?_
    refine go_istore (pc' := 35) (lo' := [some (.inr (.inr th)), some (.inl a0), some (.inr (.inr r_5)), some (.inl (nI 0)), some (.inl (nI 0))]) rfl rfl rfl ?_
    obtain ⟨q35, hl35, hc35_85⟩ := o_s1E h
    have ex35_85 : ∀ (w3_85 : Int32) (Ix_85 : ai_I) (z4_x85 : Option ai_V), (w3_85, Ix_85) = q35 → ai_Go si_t (10, false, 0, cd_151) (ai_Cl si_t si_ms e) (sp_Q (some (.inl r)) I1 J Rf G) 85 [some (.inr (.inr th)), some (.inl a0), some (.inr (.inr r_5)), some (.inl w3_85), z4_x85] [] (0, 0) Ix_85 J Rf G := by
      intro w3_85 Ix_85 z4_x85 hq
      have h : m_151_x35_85 w3_85 Ix_85 = some (r, I1) := hc35_85 (w3_85, Ix_85) hq.symm
      unfold m_151_x35_85 at h
      refine go_iload_n (pc' := 86) rfl rfl rfl ?_
      cases h
      exact go_iret rfl (trivial) ⟨rfl, rfl, rfl, rfl, rfl⟩
    have lo35 : ∀ n s, lp (fun s => m_151_b35 th Rf G r_5 s.1 s.2.1 s.2.2) n s = some q35 → (fun s => ai_Go si_t (10, false, 0, cd_151) (ai_Cl si_t si_ms e) (sp_Q (some (.inl r)) I1 J Rf G) 35 [some (.inr (.inr th)), some (.inl a0), some (.inr (.inr r_5)), some (.inl s.1), some (.inl s.2.1)] [] (0, 0) s.2.2 J Rf G) s := lp_go (fun s x35 hx hk35 => by
      obtain ⟨v3_35, v4_35, I_35⟩ := s
      have h : m_151_b35 th Rf G r_5 v3_35 v4_35 I_35 = some x35 := hx
      clear hx
      show ai_Go si_t (10, false, 0, cd_151) (ai_Cl si_t si_ms e) (sp_Q (some (.inl r)) I1 J Rf G) 35 [some (.inr (.inr th)), some (.inl a0), some (.inr (.inr r_5)), some (.inl v3_35), some (.inl v4_35)] [] (0, 0) I_35 J Rf G
      unfold m_151_b35 at h
      refine go_iload (pc' := 37) rfl rfl rfl ?_
      refine go_aload_n (pc' := 38) rfl rfl rfl ?_
      obtain ⟨g2, h⟩ := o_gE h
      refine go_getI (pc' := 41) rfl rfl (by decide) (by decide) (o_kdE g2) rfl ?_
      refine go_icmp_ge (pt := 85) (pc' := 44) rfl rfl rfl (fun h41 => ?_) (fun h41 => ?_)
      · replace h := o_t h41 h
        exact ex35_85 _ _ (some (.inl v4_35)) (lp_exitE h hk35)
      · replace h := o_f h41 h
        refine go_aload_n (pc' := 45) rfl rfl rfl ?_
        refine go_getR (pc' := 48) rfl rfl hth rfl ?_
        refine go_aload_n (pc' := 49) rfl rfl rfl ?_
        refine go_aload_n (pc' := 50) rfl rfl rfl ?_
        refine go_getR (pc' := 53) rfl rfl (o_kdE g2) rfl ?_
        refine go_iload (pc' := 55) rfl rfl rfl ?_
        obtain ⟨g3, h⟩ := o_gE h
        refine go_iaload (pc' := 56) rfl (o_inK g3) (o_inB g3) rfl ?_
        obtain ⟨I_56, q_56, h⟩ := o_b1E h
        refine go_callV (pc' := 59) (B' := (0, 0)) (st' := []) rfl rfl (Or.inl (by decide)) rfl rfl (o_kdE g1) (md_106 (by omega) (o_kdE g1) q_56) rfl rfl rfl ?_
        refine go_iload_n (pc' := 60) rfl rfl rfl ?_
        refine go_aload_n (pc' := 61) rfl rfl rfl ?_
        refine go_getR (pc' := 64) rfl rfl hth rfl ?_
        refine go_aload_n (pc' := 65) rfl rfl rfl ?_
        refine go_getR (pc' := 68) rfl rfl hth rfl ?_
        refine go_getI (pc' := 71) rfl rfl (by decide) (by decide) (o_kdE g1) rfl ?_
        obtain ⟨r_71, q_71, h⟩ := o_b1E h
        refine go_callV (pc' := 74) (B' := (0, 0)) (st' := [.inl r_71, .inl v3_35]) rfl rfl (Or.inl (by decide)) rfl rfl (o_kdE g1) (md_105 (by omega) (o_kdE g1) q_71) rfl rfl rfl ?_
        obtain ⟨r_74, q_74, h⟩ := o_b1E h
        refine go_callS (pc' := 77) (B' := (0, 0)) (st' := [.inl r_74, .inl v3_35]) rfl rfl (Or.inl (by decide)) rfl rfl trivial (md_182 (by omega) q_74) rfl rfl rfl ?_
        refine go_iadd (pc' := 78) rfl rfl ?_
        obtain ⟨x3_78, ex3_78, h⟩ := o_b1E h
        refine go_ndI ex3_78 ?_
        refine go_istore_n (pc' := 79) (lo' := [some (.inr (.inr th)), some (.inl a0), some (.inr (.inr r_5)), some (.inl x3_78), some (.inl v4_35)]) rfl rfl rfl ?_
        obtain ⟨x4_79, ex4_79, h⟩ := o_b1E h
        refine go_iincE (pc' := 82) rfl rfl (y := (nI 1)) rfl ex4_79 (lo' := [some (.inr (.inr th)), some (.inl a0), some (.inr (.inr r_5)), some (.inl x3_78), some (.inl x4_79)]) rfl rfl ?_
        refine go_goto (pc' := 35) rfl rfl ?_
        exact (lp_backE h hk35 :))
    exact lo35 _ ((nI 0), (nI 0), I_27) hl35 
  · replace h := o_t (h10) h
    refine go_iconst (pc' := 14) (v := (-1 : Int32)) rfl rfl rfl ?_
    cases h
    exact go_iret rfl (trivial) ⟨rfl, rfl, rfl, rfl, rfl⟩
def m_152_j122 (I_111 : ai_I) (t0_122 : Int32) : Option (Int32 × ai_I) :=
  o_b1 (m_182 t0_122) (fun r_122 => some (r_122, I_111))
/-- PricedBases.initial(II)I -/
def m_152 (th : Nat) (a0 : Int32) (a1 : Int32) (I : ai_I) (Rf : ai_R) (G : ai_G) : Option (Int32 × ai_I) :=
  o_g (o_kd G (Rf th 0) 6) (o_b1 (m_96 (Rf th 0) a0 Rf G) (fun r_5 => if r_5 = 0 then (some ((-2147483648 : Int32), I)) else (o_g (o_kd G (Rf th 8) 7) (o_b1 (m_104 (Rf th 8) r_5 (Rf (Rf th 0) 1) I Rf G) (fun I_28 => if a1 < (nI 10) then (if a1 = (0 : Int32) then (o_b1 (m_108 (Rf th 8) r_5 I_28 Rf G) (fun r_81 => some (r_81, I_28))) else (if a1 = (1 : Int32) then (some (I_28 (Rf th 8) 1, I_28)) else (if a1 = (2 : Int32) then (o_g (o_kd G (Rf th 7) 2) (o_b2 (m_36 (Rf th 7) r_5 (Rf th 8) I_28 Rf G) (fun r_107 I_107 => o_b2 (m_32 (Rf th 7) r_5 r_107 (nI 0) I_107 Rf G) (fun r_111 I_111 => if r_111 = 0 then (m_152_j122 I_111 (nI 1)) else (m_152_j122 I_111 (nI 0)))))) else (some ((-2147483648 : Int32), I_28))))) else (o_b1 (m_109 (Rf th 8) r_5 (a1 - (nI 10)) I_28 Rf G) (fun r_46 => some (r_46, I_28))))))))
theorem md_152 {d : Nat} {I : ai_I} {J : ai_J} {Rf : ai_R} {G : ai_G} {th : Nat} {a0 : Int32} {a1 : Int32} {r : Int32} {I1 : ai_I} (hd : 5 ≤ d) (hth : G.1 th = 10) (h : m_152 th a0 a1 I Rf G = some (r, I1)) : ai_Cl si_t si_ms d 152 [.inr (.inr th), .inl a0, .inl a1] I J Rf G (some (.inl r)) I1 J Rf G := by
  obtain ⟨e, rfl⟩ : ∃ e, d = e + 1 := ⟨d - 1, by omega⟩
  unfold m_152 at h
  refine sp_in (lo := [some (.inr (.inr th)), some (.inl a0), some (.inl a1), none]) (B := (0, 0)) rfl (Nat.le_of_ble_eq_true rfl) rfl rfl ?_
  refine go_aload_n (pc' := 1) rfl rfl rfl ?_
  refine go_getR (pc' := 4) rfl rfl hth rfl ?_
  refine go_iload_n (pc' := 5) rfl rfl rfl ?_
  obtain ⟨g0, h⟩ := o_gE h
  obtain ⟨r_5, q_5, h⟩ := o_b1E h
  refine go_callV (pc' := 8) (B' := (0, 0)) (st' := [.inr (.inr r_5)]) rfl rfl (Or.inl (by decide)) rfl rfl (o_kdE g0) (md_96 (by omega) (o_kdE g0) q_5) rfl rfl rfl ?_
  refine go_astore_n (pc' := 9) (lo' := [some (.inr (.inr th)), some (.inl a0), some (.inl a1), some (.inr (.inr r_5))]) rfl rfl rfl ?_
  refine go_aload_n (pc' := 10) rfl rfl rfl ?_
  refine go_ifnonnull (pt := 16) (pc' := 13) rfl rfl rfl (fun h10 => ?_) (fun h10 => ?_)
  · replace h := o_f h10 h
    refine go_aload_n (pc' := 17) rfl rfl rfl ?_
    refine go_getR (pc' := 20) rfl rfl hth rfl ?_
    refine go_aload_n (pc' := 21) rfl rfl rfl ?_
    refine go_aload_n (pc' := 22) rfl rfl rfl ?_
    refine go_getR (pc' := 25) rfl rfl hth rfl ?_
    refine go_getR (pc' := 28) rfl rfl (o_kdE g0) rfl ?_
    obtain ⟨g1, h⟩ := o_gE h
    obtain ⟨I_28, q_28, h⟩ := o_b1E h
    refine go_callV (pc' := 31) (B' := (0, 0)) (st' := []) rfl rfl (Or.inl (by decide)) rfl rfl (o_kdE g1) (md_104 (by omega) (o_kdE g1) q_28) rfl rfl rfl ?_
    refine go_iload_n (pc' := 32) rfl rfl rfl ?_
    refine go_bipush (pc' := 34) (v := (nI 10)) rfl rfl rfl ?_
    refine go_icmp_lt (pt := 50) (pc' := 37) rfl rfl rfl (fun h34 => ?_) (fun h34 => ?_)
    · replace h := o_t h34 h
      refine go_iload_n (pc' := 51) rfl rfl rfl ?_
      by_cases c51_0 : a1 = (0 : Int32)
      · replace h := o_t c51_0 h
        refine go_swIn (pc' := 76) 0 rfl rfl (by rw [c51_0]; decide) (by rw [c51_0]; decide) rfl ?_
        refine go_aload_n (pc' := 77) rfl rfl rfl ?_
        refine go_getR (pc' := 80) rfl rfl hth rfl ?_
        refine go_aload_n (pc' := 81) rfl rfl rfl ?_
        obtain ⟨r_81, q_81, h⟩ := o_b1E h
        refine go_callV (pc' := 84) (B' := (0, 0)) (st' := [.inl r_81]) rfl rfl (Or.inl (by decide)) rfl rfl (o_kdE g1) (md_108 (by omega) (o_kdE g1) q_81) rfl rfl rfl ?_
        cases h
        exact go_iret rfl (trivial) ⟨rfl, rfl, rfl, rfl, rfl⟩
      replace h := o_f c51_0 h
      by_cases c51_1 : a1 = (1 : Int32)
      · replace h := o_t c51_1 h
        refine go_swIn (pc' := 85) 1 rfl rfl (by rw [c51_1]; decide) (by rw [c51_1]; decide) rfl ?_
        refine go_aload_n (pc' := 86) rfl rfl rfl ?_
        refine go_getR (pc' := 89) rfl rfl hth rfl ?_
        refine go_getI (pc' := 92) rfl rfl (by decide) (by decide) (o_kdE g1) rfl ?_
        cases h
        exact go_iret rfl (trivial) ⟨rfl, rfl, rfl, rfl, rfl⟩
      replace h := o_f c51_1 h
      by_cases c51_2 : a1 = (2 : Int32)
      · replace h := o_t c51_2 h
        refine go_swIn (pc' := 93) 2 rfl rfl (by rw [c51_2]; decide) (by rw [c51_2]; decide) rfl ?_
        refine go_aload_n (pc' := 94) rfl rfl rfl ?_
        refine go_getR (pc' := 97) rfl rfl hth rfl ?_
        refine go_aload_n (pc' := 98) rfl rfl rfl ?_
        refine go_aload_n (pc' := 99) rfl rfl rfl ?_
        refine go_getR (pc' := 102) rfl rfl hth rfl ?_
        refine go_aload_n (pc' := 103) rfl rfl rfl ?_
        refine go_aload_n (pc' := 104) rfl rfl rfl ?_
        refine go_getR (pc' := 107) rfl rfl hth rfl ?_
        obtain ⟨g2, h⟩ := o_gE h
        obtain ⟨r_107, I_107, q_107, h⟩ := o_b2E h
        refine go_callV (pc' := 110) (B' := (0, 0)) (st' := [.inr (.inr r_107), .inr (.inr r_5), .inr (.inr (Rf th 7))]) rfl rfl (Or.inl (by decide)) rfl rfl (o_kdE g2) (md_36 (by omega) (o_kdE g2) q_107) rfl rfl rfl ?_
        refine go_iconst (pc' := 111) (v := (nI 0)) rfl rfl rfl ?_
        obtain ⟨r_111, I_111, q_111, h⟩ := o_b2E h
        refine go_callV (pc' := 114) (B' := (0, 0)) (st' := [.inl r_111]) rfl rfl (Or.inl (by decide)) rfl rfl (o_kdE g2) (md_32 (by omega) (o_kdE g2) q_111) rfl rfl rfl ?_
        have jn122 : ∀ (t0_122 : Int32), m_152_j122 I_111 t0_122 = some (r, I1) → ai_Go si_t (10, false, 0, cd_152) (ai_Cl si_t si_ms e) (sp_Q (some (.inl r)) I1 J Rf G) 122 [some (.inr (.inr th)), some (.inl a0), some (.inl a1), some (.inr (.inr r_5))] [.inl t0_122] (0, 0) I_111 J Rf G := by
          intro t0_122 h
          unfold m_152_j122 at h
          obtain ⟨r_122, q_122, h⟩ := o_b1E h
          refine go_callS (pc' := 125) (B' := (0, 0)) (st' := [.inl r_122]) rfl rfl (Or.inl (by decide)) rfl rfl trivial (md_182 (by omega) q_122) rfl rfl rfl ?_
          cases h
          exact go_iret rfl (trivial) ⟨rfl, rfl, rfl, rfl, rfl⟩
        refine go_if_ne (pt := 121) (pc' := 117) rfl rfl rfl (fun h114 => ?_) (fun h114 => ?_)
        · replace h := o_f h114 h
          refine go_iconst (pc' := 122) (v := (nI 0)) rfl rfl rfl ?_
          exact jn122 (nI 0) h
        · replace h := o_t (Decidable.of_not_not h114) h
          refine go_iconst (pc' := 118) (v := (nI 1)) rfl rfl rfl ?_
          refine go_goto (pc' := 122) rfl rfl ?_
          exact jn122 (nI 1) h
      replace h := o_f c51_2 h
      refine go_swOut (pc' := 126) rfl (by
          rw [← Int32.toInt_inj] at c51_0
          rw [← Int32.toInt_inj] at c51_1
          rw [← Int32.toInt_inj] at c51_2
          have c51_0 : ¬ a1.toInt = 0 := c51_0
          have c51_1 : ¬ a1.toInt = 1 := c51_1
          have c51_2 : ¬ a1.toInt = 2 := c51_2
          show a1.toInt < 0 ∨ 0 + ((3 : Nat) : Int) ≤ a1.toInt
          omega) rfl ?_
      refine go_ldc (pc' := 128) (v := .inl (-2147483648 : Int32)) rfl rfl rfl ?_
      cases h
      exact go_iret rfl (trivial) ⟨rfl, rfl, rfl, rfl, rfl⟩
    · replace h := o_f h34 h
      refine go_aload_n (pc' := 38) rfl rfl rfl ?_
      refine go_getR (pc' := 41) rfl rfl hth rfl ?_
      refine go_aload_n (pc' := 42) rfl rfl rfl ?_
      refine go_iload_n (pc' := 43) rfl rfl rfl ?_
      refine go_bipush (pc' := 45) (v := (nI 10)) rfl rfl rfl ?_
      refine go_isub (pc' := 46) rfl rfl ?_
      obtain ⟨r_46, q_46, h⟩ := o_b1E h
      refine go_callV (pc' := 49) (B' := (0, 0)) (st' := [.inl r_46]) rfl rfl (Or.inl (by decide)) rfl rfl (o_kdE g1) (md_109 (by omega) (o_kdE g1) q_46) rfl rfl rfl ?_
      cases h
      exact go_iret rfl (trivial) ⟨rfl, rfl, rfl, rfl, rfl⟩
  · replace h := o_t (h10) h
    refine go_ldc (pc' := 15) (v := .inl (-2147483648 : Int32)) rfl rfl rfl ?_
    cases h
    exact go_iret rfl (trivial) ⟨rfl, rfl, rfl, rfl, rfl⟩
/-- PricedBases.space(I)I -/
def m_153 (th : Nat) (a0 : Int32) (I : ai_I) (Rf : ai_R) (G : ai_G) : Option (Int32 × ai_I) :=
  o_g (o_kd G (Rf th 0) 6) (o_b1 (m_96 (Rf th 0) a0 Rf G) (fun r_5 => if r_5 = 0 then (some ((-1 : Int32), I)) else (o_g (o_kd G (Rf th 9) 5) (o_b1 (m_88 (Rf th 9) r_5 (Rf (Rf th 0) 1) I Rf G) (fun I_27 => o_b1 (m_93 (Rf th 9) r_5 I_27 Rf G) (fun r_35 => o_b1 (m_182 r_35) (fun r_38 => some (r_38, I_27))))))))
theorem md_153 {d : Nat} {I : ai_I} {J : ai_J} {Rf : ai_R} {G : ai_G} {th : Nat} {a0 : Int32} {r : Int32} {I1 : ai_I} (hd : 6 ≤ d) (hth : G.1 th = 10) (h : m_153 th a0 I Rf G = some (r, I1)) : ai_Cl si_t si_ms d 153 [.inr (.inr th), .inl a0] I J Rf G (some (.inl r)) I1 J Rf G := by
  obtain ⟨e, rfl⟩ : ∃ e, d = e + 1 := ⟨d - 1, by omega⟩
  unfold m_153 at h
  refine sp_in (lo := [some (.inr (.inr th)), some (.inl a0), none]) (B := (0, 0)) rfl (Nat.le_of_ble_eq_true rfl) rfl rfl ?_
  refine go_aload_n (pc' := 1) rfl rfl rfl ?_
  refine go_getR (pc' := 4) rfl rfl hth rfl ?_
  refine go_iload_n (pc' := 5) rfl rfl rfl ?_
  obtain ⟨g0, h⟩ := o_gE h
  obtain ⟨r_5, q_5, h⟩ := o_b1E h
  refine go_callV (pc' := 8) (B' := (0, 0)) (st' := [.inr (.inr r_5)]) rfl rfl (Or.inl (by decide)) rfl rfl (o_kdE g0) (md_96 (by omega) (o_kdE g0) q_5) rfl rfl rfl ?_
  refine go_astore_n (pc' := 9) (lo' := [some (.inr (.inr th)), some (.inl a0), some (.inr (.inr r_5))]) rfl rfl rfl ?_
  refine go_aload_n (pc' := 10) rfl rfl rfl ?_
  refine go_ifnonnull (pt := 15) (pc' := 13) rfl rfl rfl (fun h10 => ?_) (fun h10 => ?_)
  · replace h := o_f h10 h
    refine go_aload_n (pc' := 16) rfl rfl rfl ?_
    refine go_getR (pc' := 19) rfl rfl hth rfl ?_
    refine go_aload_n (pc' := 20) rfl rfl rfl ?_
    refine go_aload_n (pc' := 21) rfl rfl rfl ?_
    refine go_getR (pc' := 24) rfl rfl hth rfl ?_
    refine go_getR (pc' := 27) rfl rfl (o_kdE g0) rfl ?_
    obtain ⟨g1, h⟩ := o_gE h
    obtain ⟨I_27, q_27, h⟩ := o_b1E h
    refine go_callV (pc' := 30) (B' := (0, 0)) (st' := []) rfl rfl (Or.inl (by decide)) rfl rfl (o_kdE g1) (md_88 (by omega) (o_kdE g1) q_27) rfl rfl rfl ?_
    refine go_aload_n (pc' := 31) rfl rfl rfl ?_
    refine go_getR (pc' := 34) rfl rfl hth rfl ?_
    refine go_aload_n (pc' := 35) rfl rfl rfl ?_
    obtain ⟨r_35, q_35, h⟩ := o_b1E h
    refine go_callV (pc' := 38) (B' := (0, 0)) (st' := [.inl r_35]) rfl rfl (Or.inl (by decide)) rfl rfl (o_kdE g1) (md_93 (by omega) (o_kdE g1) q_35) rfl rfl rfl ?_
    obtain ⟨r_38, q_38, h⟩ := o_b1E h
    refine go_callS (pc' := 41) (B' := (0, 0)) (st' := [.inl r_38]) rfl rfl (Or.inl (by decide)) rfl rfl trivial (md_182 (by omega) q_38) rfl rfl rfl ?_
    cases h
    exact go_iret rfl (trivial) ⟨rfl, rfl, rfl, rfl, rfl⟩
  · replace h := o_t (h10) h
    refine go_iconst (pc' := 14) (v := (-1 : Int32)) rfl rfl rfl ?_
    cases h
    exact go_iret rfl (trivial) ⟨rfl, rfl, rfl, rfl, rfl⟩
/-- PricedBases.failing(II)I -/
def m_154 (th : Nat) (a0 : Int32) (a1 : Int32) (I : ai_I) (Rf : ai_R) (G : ai_G) : Option (Int32 × ai_I) :=
  o_g (o_kd G (Rf th 0) 6) (o_b1 (m_96 (Rf th 0) a0 Rf G) (fun r_5 => if r_5 = 0 then (some ((-1 : Int32), I)) else (if (-1 : Int32) ≤ a1 then (o_g (o_kd G (Rf th 9) 5) (o_b1 (m_88 (Rf th 9) r_5 (Rf (Rf th 0) 1) I Rf G) (fun I_32 => if a1 = (-1 : Int32) then (o_b1 (m_92 (Rf th 9) r_5 I_32 Rf G) (fun r_45 => some (r_45, I_32))) else (o_b1 (m_91 (Rf th 9) r_5 a1 I_32 Rf G) (fun r_57 => some (r_57, I_32)))))) else (some ((-1 : Int32), I)))))
theorem md_154 {d : Nat} {I : ai_I} {J : ai_J} {Rf : ai_R} {G : ai_G} {th : Nat} {a0 : Int32} {a1 : Int32} {r : Int32} {I1 : ai_I} (hd : 5 ≤ d) (hth : G.1 th = 10) (h : m_154 th a0 a1 I Rf G = some (r, I1)) : ai_Cl si_t si_ms d 154 [.inr (.inr th), .inl a0, .inl a1] I J Rf G (some (.inl r)) I1 J Rf G := by
  obtain ⟨e, rfl⟩ : ∃ e, d = e + 1 := ⟨d - 1, by omega⟩
  unfold m_154 at h
  refine sp_in (lo := [some (.inr (.inr th)), some (.inl a0), some (.inl a1), none]) (B := (0, 0)) rfl (Nat.le_of_ble_eq_true rfl) rfl rfl ?_
  refine go_aload_n (pc' := 1) rfl rfl rfl ?_
  refine go_getR (pc' := 4) rfl rfl hth rfl ?_
  refine go_iload_n (pc' := 5) rfl rfl rfl ?_
  obtain ⟨g0, h⟩ := o_gE h
  obtain ⟨r_5, q_5, h⟩ := o_b1E h
  refine go_callV (pc' := 8) (B' := (0, 0)) (st' := [.inr (.inr r_5)]) rfl rfl (Or.inl (by decide)) rfl rfl (o_kdE g0) (md_96 (by omega) (o_kdE g0) q_5) rfl rfl rfl ?_
  refine go_astore_n (pc' := 9) (lo' := [some (.inr (.inr th)), some (.inl a0), some (.inl a1), some (.inr (.inr r_5))]) rfl rfl rfl ?_
  refine go_aload_n (pc' := 10) rfl rfl rfl ?_
  refine go_ifnull (pt := 18) (pc' := 13) rfl rfl rfl (fun h10 => ?_) (fun h10 => ?_)
  · replace h := o_t h10 h
    refine go_iconst (pc' := 19) (v := (-1 : Int32)) rfl rfl rfl ?_
    cases h
    exact go_iret rfl (trivial) ⟨rfl, rfl, rfl, rfl, rfl⟩
  · replace h := o_f h10 h
    refine go_iload_n (pc' := 14) rfl rfl rfl ?_
    refine go_iconst (pc' := 15) (v := (-1 : Int32)) rfl rfl rfl ?_
    refine go_icmp_ge (pt := 20) (pc' := 18) rfl rfl rfl (fun h15 => ?_) (fun h15 => ?_)
    · replace h := o_t h15 h
      refine go_aload_n (pc' := 21) rfl rfl rfl ?_
      refine go_getR (pc' := 24) rfl rfl hth rfl ?_
      refine go_aload_n (pc' := 25) rfl rfl rfl ?_
      refine go_aload_n (pc' := 26) rfl rfl rfl ?_
      refine go_getR (pc' := 29) rfl rfl hth rfl ?_
      refine go_getR (pc' := 32) rfl rfl (o_kdE g0) rfl ?_
      obtain ⟨g1, h⟩ := o_gE h
      obtain ⟨I_32, q_32, h⟩ := o_b1E h
      refine go_callV (pc' := 35) (B' := (0, 0)) (st' := []) rfl rfl (Or.inl (by decide)) rfl rfl (o_kdE g1) (md_88 (by omega) (o_kdE g1) q_32) rfl rfl rfl ?_
      refine go_iload_n (pc' := 36) rfl rfl rfl ?_
      refine go_iconst (pc' := 37) (v := (-1 : Int32)) rfl rfl rfl ?_
      refine go_icmp_ne (pt := 51) (pc' := 40) rfl rfl rfl (fun h37 => ?_) (fun h37 => ?_)
      · replace h := o_f h37 h
        refine go_aload_n (pc' := 52) rfl rfl rfl ?_
        refine go_getR (pc' := 55) rfl rfl hth rfl ?_
        refine go_aload_n (pc' := 56) rfl rfl rfl ?_
        refine go_iload_n (pc' := 57) rfl rfl rfl ?_
        obtain ⟨r_57, q_57, h⟩ := o_b1E h
        refine go_callV (pc' := 60) (B' := (0, 0)) (st' := [.inl r_57]) rfl rfl (Or.inl (by decide)) rfl rfl (o_kdE g1) (md_91 (by omega) (o_kdE g1) q_57) rfl rfl rfl ?_
        cases h
        exact go_iret rfl (trivial) ⟨rfl, rfl, rfl, rfl, rfl⟩
      · replace h := o_t (Decidable.of_not_not h37) h
        refine go_aload_n (pc' := 41) rfl rfl rfl ?_
        refine go_getR (pc' := 44) rfl rfl hth rfl ?_
        refine go_aload_n (pc' := 45) rfl rfl rfl ?_
        obtain ⟨r_45, q_45, h⟩ := o_b1E h
        refine go_callV (pc' := 48) (B' := (0, 0)) (st' := [.inl r_45]) rfl rfl (Or.inl (by decide)) rfl rfl (o_kdE g1) (md_92 (by omega) (o_kdE g1) q_45) rfl rfl rfl ?_
        refine go_goto (pc' := 60) rfl rfl ?_
        cases h
        exact go_iret rfl (trivial) ⟨rfl, rfl, rfl, rfl, rfl⟩
    · replace h := o_f h15 h
      refine go_iconst (pc' := 19) (v := (-1 : Int32)) rfl rfl rfl ?_
      cases h
      exact go_iret rfl (trivial) ⟨rfl, rfl, rfl, rfl, rfl⟩
/-- PricedBases.spanned(II)I -/
def m_155 (th : Nat) (a0 : Int32) (a1 : Int32) (I : ai_I) (Rf : ai_R) (G : ai_G) : Option (Int32 × ai_I) :=
  o_g (o_kd G (Rf th 0) 6) (o_b1 (m_96 (Rf th 0) a0 Rf G) (fun r_5 => if r_5 = 0 then (some ((-1 : Int32), I)) else (if a1 < 0 then (some ((-1 : Int32), I)) else (if a1 ≤ (nI 1) then (if a1 = 0 then (o_g (o_kd G r_5 8) (o_b1 (m_69 r_5 ((I r_5 1) - (nI 1)) I Rf G) (fun r_35 => some (r_35, I)))) else (o_g (o_kd G (Rf th 9) 5) (o_b2 (m_94 (Rf th 9) r_5 I Rf G) (fun r_46 I_46 => some (r_46, I_46))))) else (some ((-1 : Int32), I))))))
theorem md_155 {d : Nat} {I : ai_I} {J : ai_J} {Rf : ai_R} {G : ai_G} {th : Nat} {a0 : Int32} {a1 : Int32} {r : Int32} {I1 : ai_I} (hd : 7 ≤ d) (hth : G.1 th = 10) (h : m_155 th a0 a1 I Rf G = some (r, I1)) : ai_Cl si_t si_ms d 155 [.inr (.inr th), .inl a0, .inl a1] I J Rf G (some (.inl r)) I1 J Rf G := by
  obtain ⟨e, rfl⟩ : ∃ e, d = e + 1 := ⟨d - 1, by omega⟩
  unfold m_155 at h
  refine sp_in (lo := [some (.inr (.inr th)), some (.inl a0), some (.inl a1), none]) (B := (0, 0)) rfl (Nat.le_of_ble_eq_true rfl) rfl rfl ?_
  refine go_aload_n (pc' := 1) rfl rfl rfl ?_
  refine go_getR (pc' := 4) rfl rfl hth rfl ?_
  refine go_iload_n (pc' := 5) rfl rfl rfl ?_
  obtain ⟨g0, h⟩ := o_gE h
  obtain ⟨r_5, q_5, h⟩ := o_b1E h
  refine go_callV (pc' := 8) (B' := (0, 0)) (st' := [.inr (.inr r_5)]) rfl rfl (Or.inl (by decide)) rfl rfl (o_kdE g0) (md_96 (by omega) (o_kdE g0) q_5) rfl rfl rfl ?_
  refine go_astore_n (pc' := 9) (lo' := [some (.inr (.inr th)), some (.inl a0), some (.inl a1), some (.inr (.inr r_5))]) rfl rfl rfl ?_
  refine go_aload_n (pc' := 10) rfl rfl rfl ?_
  refine go_ifnull (pt := 22) (pc' := 13) rfl rfl rfl (fun h10 => ?_) (fun h10 => ?_)
  · replace h := o_t h10 h
    refine go_iconst (pc' := 23) (v := (-1 : Int32)) rfl rfl rfl ?_
    cases h
    exact go_iret rfl (trivial) ⟨rfl, rfl, rfl, rfl, rfl⟩
  · replace h := o_f h10 h
    refine go_iload_n (pc' := 14) rfl rfl rfl ?_
    refine go_if_lt (pt := 22) (pc' := 17) rfl rfl rfl (fun h14 => ?_) (fun h14 => ?_)
    · replace h := o_t h14 h
      refine go_iconst (pc' := 23) (v := (-1 : Int32)) rfl rfl rfl ?_
      cases h
      exact go_iret rfl (trivial) ⟨rfl, rfl, rfl, rfl, rfl⟩
    · replace h := o_f h14 h
      refine go_iload_n (pc' := 18) rfl rfl rfl ?_
      refine go_iconst (pc' := 19) (v := (nI 1)) rfl rfl rfl ?_
      refine go_icmp_le (pt := 24) (pc' := 22) rfl rfl rfl (fun h19 => ?_) (fun h19 => ?_)
      · replace h := o_t h19 h
        refine go_iload_n (pc' := 25) rfl rfl rfl ?_
        refine go_if_ne (pt := 41) (pc' := 28) rfl rfl rfl (fun h25 => ?_) (fun h25 => ?_)
        · replace h := o_f h25 h
          refine go_aload_n (pc' := 42) rfl rfl rfl ?_
          refine go_getR (pc' := 45) rfl rfl hth rfl ?_
          refine go_aload_n (pc' := 46) rfl rfl rfl ?_
          obtain ⟨g1, h⟩ := o_gE h
          obtain ⟨r_46, I_46, q_46, h⟩ := o_b2E h
          refine go_callV (pc' := 49) (B' := (0, 0)) (st' := [.inl r_46]) rfl rfl (Or.inl (by decide)) rfl rfl (o_kdE g1) (md_94 (by omega) (o_kdE g1) q_46) rfl rfl rfl ?_
          cases h
          exact go_iret rfl (trivial) ⟨rfl, rfl, rfl, rfl, rfl⟩
        · replace h := o_t (Decidable.of_not_not h25) h
          refine go_aload_n (pc' := 29) rfl rfl rfl ?_
          refine go_aload_n (pc' := 30) rfl rfl rfl ?_
          obtain ⟨g2, h⟩ := o_gE h
          refine go_getI (pc' := 33) rfl rfl (by decide) (by decide) (o_kdE g2) rfl ?_
          refine go_iconst (pc' := 34) (v := (nI 1)) rfl rfl rfl ?_
          refine go_isub (pc' := 35) rfl rfl ?_
          obtain ⟨r_35, q_35, h⟩ := o_b1E h
          refine go_callS (pc' := 38) (B' := (0, 0)) (st' := [.inl r_35]) rfl rfl (Or.inl (by decide)) rfl rfl trivial (md_69 (by omega) q_35) rfl rfl rfl ?_
          refine go_goto (pc' := 49) rfl rfl ?_
          cases h
          exact go_iret rfl (trivial) ⟨rfl, rfl, rfl, rfl, rfl⟩
      · replace h := o_f h19 h
        refine go_iconst (pc' := 23) (v := (-1 : Int32)) rfl rfl rfl ?_
        cases h
        exact go_iret rfl (trivial) ⟨rfl, rfl, rfl, rfl, rfl⟩
/-- PricedBases.areAlike(LPricedBases$Valuation;LPricedBases$Valuation;)Z -/
def m_186 (a0 : Nat) (a1 : Nat) (I : ai_I) (G : ai_G) : Option (Int32) :=
  o_b1 (m_185 a0 a1 I G) (fun r_2 => if r_2 = 0 then (some (nI 0)) else (o_g (o_kd G a0 8) (o_g (o_kd G a1 8) (if (I a0 1) = (I a1 1) then (some (nI 1)) else (some (nI 0))))))
theorem md_186 {d : Nat} {I : ai_I} {J : ai_J} {Rf : ai_R} {G : ai_G} {a0 : Nat} {a1 : Nat} {r : Int32} (hd : 2 ≤ d) (h : m_186 a0 a1 I G = some r) : ai_Cl si_t si_ms d 186 [.inr (.inr a0), .inr (.inr a1)] I J Rf G (some (.inl r)) I J Rf G := by
  obtain ⟨e, rfl⟩ : ∃ e, d = e + 1 := ⟨d - 1, by omega⟩
  unfold m_186 at h
  refine sp_in (lo := [some (.inr (.inr a0)), some (.inr (.inr a1))]) (B := (0, 0)) rfl (Nat.le_of_ble_eq_true rfl) rfl rfl ?_
  refine go_aload_n (pc' := 1) rfl rfl rfl ?_
  refine go_aload_n (pc' := 2) rfl rfl rfl ?_
  obtain ⟨r_2, q_2, h⟩ := o_b1E h
  refine go_callS (pc' := 5) (B' := (0, 0)) (st' := [.inl r_2]) rfl rfl (Or.inl (by decide)) rfl rfl trivial (md_185 (by omega) q_2) rfl rfl rfl ?_
  refine go_if_eq (pt := 23) (pc' := 8) rfl rfl rfl (fun h5 => ?_) (fun h5 => ?_)
  · replace h := o_t h5 h
    refine go_iconst (pc' := 24) (v := (nI 0)) rfl rfl rfl ?_
    cases h
    exact go_iret rfl (rfl) ⟨rfl, rfl, rfl, rfl, rfl⟩
  · replace h := o_f h5 h
    refine go_aload_n (pc' := 9) rfl rfl rfl ?_
    obtain ⟨g0, h⟩ := o_gE h
    refine go_getI (pc' := 12) rfl rfl (by decide) (by decide) (o_kdE g0) rfl ?_
    refine go_aload_n (pc' := 13) rfl rfl rfl ?_
    obtain ⟨g1, h⟩ := o_gE h
    refine go_getI (pc' := 16) rfl rfl (by decide) (by decide) (o_kdE g1) rfl ?_
    refine go_icmp_ne (pt := 23) (pc' := 19) rfl rfl rfl (fun h16 => ?_) (fun h16 => ?_)
    · replace h := o_f h16 h
      refine go_iconst (pc' := 24) (v := (nI 0)) rfl rfl rfl ?_
      cases h
      exact go_iret rfl (rfl) ⟨rfl, rfl, rfl, rfl, rfl⟩
    · replace h := o_t (Decidable.of_not_not h16) h
      refine go_iconst (pc' := 20) (v := (nI 1)) rfl rfl rfl ?_
      refine go_goto (pc' := 24) rfl rfl ?_
      cases h
      exact go_iret rfl (rfl) ⟨rfl, rfl, rfl, rfl, rfl⟩
/-- PricedBases.both(III)I -/
def m_156 (th : Nat) (a0 : Int32) (a1 : Int32) (a2 : Int32) (I : ai_I) (Rf : ai_R) (G : ai_G) : Option (Int32 × ai_I) :=
  o_g (o_kd G (Rf th 0) 6) (o_b1 (m_96 (Rf th 0) a0 Rf G) (fun r_5 => o_b1 (m_96 (Rf th 0) a1 Rf G) (fun r_15 => o_b1 (m_186 r_5 r_15 I G) (fun r_24 => if r_24 = 0 then (some ((-2147483648 : Int32), I)) else (o_g (o_kd G (Rf th 10) 1) (o_b1 (m_23 (Rf th 10) r_5 r_15 I Rf G) (fun I_41 => if a2 = (0 : Int32) then (some (I_41 (Rf th 10) 0, I_41)) else (if a2 = (1 : Int32) then (if (I_41 (Rf th 10) 0) = 0 then (some ((-2 : Int32), I_41)) else (some (I_41 (Rf th 10) 1, I_41))) else (if a2 = (2 : Int32) then (if (I_41 (Rf th 10) 0) = 0 then (some ((-2147483648 : Int32), I_41)) else (some (I_41 (Rf th 10) 2, I_41))) else (if a2 = (3 : Int32) then (o_b2 (m_27 (Rf th 10) r_5 r_15 I_41 Rf G) (fun r_138 I_138 => o_b1 (m_182 r_138) (fun r_141 => some (r_141, I_138)))) else (some ((-2147483648 : Int32), I_41))))))))))))
theorem md_156 {d : Nat} {I : ai_I} {J : ai_J} {Rf : ai_R} {G : ai_G} {th : Nat} {a0 : Int32} {a1 : Int32} {a2 : Int32} {r : Int32} {I1 : ai_I} (hd : 6 ≤ d) (hth : G.1 th = 10) (h : m_156 th a0 a1 a2 I Rf G = some (r, I1)) : ai_Cl si_t si_ms d 156 [.inr (.inr th), .inl a0, .inl a1, .inl a2] I J Rf G (some (.inl r)) I1 J Rf G := by
  obtain ⟨e, rfl⟩ : ∃ e, d = e + 1 := ⟨d - 1, by omega⟩
  unfold m_156 at h
  refine sp_in (lo := [some (.inr (.inr th)), some (.inl a0), some (.inl a1), some (.inl a2), none, none]) (B := (0, 0)) rfl (Nat.le_of_ble_eq_true rfl) rfl rfl ?_
  refine go_aload_n (pc' := 1) rfl rfl rfl ?_
  refine go_getR (pc' := 4) rfl rfl hth rfl ?_
  refine go_iload_n (pc' := 5) rfl rfl rfl ?_
  obtain ⟨g0, h⟩ := o_gE h
  obtain ⟨r_5, q_5, h⟩ := o_b1E h
  refine go_callV (pc' := 8) (B' := (0, 0)) (st' := [.inr (.inr r_5)]) rfl rfl (Or.inl (by decide)) rfl rfl (o_kdE g0) (md_96 (by omega) (o_kdE g0) q_5) rfl rfl rfl ?_
  refine go_astore (pc' := 10) (lo' := [some (.inr (.inr th)), some (.inl a0), some (.inl a1), some (.inl a2), some (.inr (.inr r_5)), none]) rfl rfl rfl ?_
  refine go_aload_n (pc' := 11) rfl rfl rfl ?_
  refine go_getR (pc' := 14) rfl rfl hth rfl ?_
  refine go_iload_n (pc' := 15) rfl rfl rfl ?_
  obtain ⟨r_15, q_15, h⟩ := o_b1E h
  refine go_callV (pc' := 18) (B' := (0, 0)) (st' := [.inr (.inr r_15)]) rfl rfl (Or.inl (by decide)) rfl rfl (o_kdE g0) (md_96 (by omega) (o_kdE g0) q_15) rfl rfl rfl ?_
  refine go_astore (pc' := 20) (lo' := [some (.inr (.inr th)), some (.inl a0), some (.inl a1), some (.inl a2), some (.inr (.inr r_5)), some (.inr (.inr r_15))]) rfl rfl rfl ?_
  refine go_aload (pc' := 22) rfl rfl rfl ?_
  refine go_aload (pc' := 24) rfl rfl rfl ?_
  obtain ⟨r_24, q_24, h⟩ := o_b1E h
  refine go_callS (pc' := 27) (B' := (0, 0)) (st' := [.inl r_24]) rfl rfl (Or.inl (by decide)) rfl rfl trivial (md_186 (by omega) q_24) rfl rfl rfl ?_
  refine go_if_ne (pt := 33) (pc' := 30) rfl rfl rfl (fun h27 => ?_) (fun h27 => ?_)
  · replace h := o_f h27 h
    refine go_aload_n (pc' := 34) rfl rfl rfl ?_
    refine go_getR (pc' := 37) rfl rfl hth rfl ?_
    refine go_aload (pc' := 39) rfl rfl rfl ?_
    refine go_aload (pc' := 41) rfl rfl rfl ?_
    obtain ⟨g1, h⟩ := o_gE h
    obtain ⟨I_41, q_41, h⟩ := o_b1E h
    refine go_callV (pc' := 44) (B' := (0, 0)) (st' := []) rfl rfl (Or.inl (by decide)) rfl rfl (o_kdE g1) (md_23 (by omega) (o_kdE g1) q_41) rfl rfl rfl ?_
    refine go_iload_n (pc' := 45) rfl rfl rfl ?_
    by_cases c45_0 : a2 = (0 : Int32)
    · replace h := o_t c45_0 h
      refine go_swIn (pc' := 76) 0 rfl rfl (by rw [c45_0]; decide) (by rw [c45_0]; decide) rfl ?_
      refine go_aload_n (pc' := 77) rfl rfl rfl ?_
      refine go_getR (pc' := 80) rfl rfl hth rfl ?_
      refine go_getI (pc' := 83) rfl rfl (by decide) (by decide) (o_kdE g1) rfl ?_
      cases h
      exact go_iret rfl (trivial) ⟨rfl, rfl, rfl, rfl, rfl⟩
    replace h := o_f c45_0 h
    by_cases c45_1 : a2 = (1 : Int32)
    · replace h := o_t c45_1 h
      refine go_swIn (pc' := 84) 1 rfl rfl (by rw [c45_1]; decide) (by rw [c45_1]; decide) rfl ?_
      refine go_aload_n (pc' := 85) rfl rfl rfl ?_
      refine go_getR (pc' := 88) rfl rfl hth rfl ?_
      refine go_getI (pc' := 91) rfl rfl (by decide) (by decide) (o_kdE g1) rfl ?_
      refine go_if_ne (pt := 99) (pc' := 94) rfl rfl rfl (fun h91 => ?_) (fun h91 => ?_)
      · replace h := o_f h91 h
        refine go_aload_n (pc' := 100) rfl rfl rfl ?_
        refine go_getR (pc' := 103) rfl rfl hth rfl ?_
        refine go_getI (pc' := 106) rfl rfl (by decide) (by decide) (o_kdE g1) rfl ?_
        cases h
        exact go_iret rfl (trivial) ⟨rfl, rfl, rfl, rfl, rfl⟩
      · replace h := o_t (Decidable.of_not_not h91) h
        refine go_bipush (pc' := 96) (v := (-2 : Int32)) rfl rfl rfl ?_
        refine go_goto (pc' := 106) rfl rfl ?_
        cases h
        exact go_iret rfl (trivial) ⟨rfl, rfl, rfl, rfl, rfl⟩
    replace h := o_f c45_1 h
    by_cases c45_2 : a2 = (2 : Int32)
    · replace h := o_t c45_2 h
      refine go_swIn (pc' := 107) 2 rfl rfl (by rw [c45_2]; decide) (by rw [c45_2]; decide) rfl ?_
      refine go_aload_n (pc' := 108) rfl rfl rfl ?_
      refine go_getR (pc' := 111) rfl rfl hth rfl ?_
      refine go_getI (pc' := 114) rfl rfl (by decide) (by decide) (o_kdE g1) rfl ?_
      refine go_if_ne (pt := 122) (pc' := 117) rfl rfl rfl (fun h114 => ?_) (fun h114 => ?_)
      · replace h := o_f h114 h
        refine go_aload_n (pc' := 123) rfl rfl rfl ?_
        refine go_getR (pc' := 126) rfl rfl hth rfl ?_
        refine go_getI (pc' := 129) rfl rfl (by decide) (by decide) (o_kdE g1) rfl ?_
        cases h
        exact go_iret rfl (trivial) ⟨rfl, rfl, rfl, rfl, rfl⟩
      · replace h := o_t (Decidable.of_not_not h114) h
        refine go_ldc (pc' := 119) (v := .inl (-2147483648 : Int32)) rfl rfl rfl ?_
        refine go_goto (pc' := 129) rfl rfl ?_
        cases h
        exact go_iret rfl (trivial) ⟨rfl, rfl, rfl, rfl, rfl⟩
    replace h := o_f c45_2 h
    by_cases c45_3 : a2 = (3 : Int32)
    · replace h := o_t c45_3 h
      refine go_swIn (pc' := 130) 3 rfl rfl (by rw [c45_3]; decide) (by rw [c45_3]; decide) rfl ?_
      refine go_aload_n (pc' := 131) rfl rfl rfl ?_
      refine go_getR (pc' := 134) rfl rfl hth rfl ?_
      refine go_aload (pc' := 136) rfl rfl rfl ?_
      refine go_aload (pc' := 138) rfl rfl rfl ?_
      obtain ⟨r_138, I_138, q_138, h⟩ := o_b2E h
      refine go_callV (pc' := 141) (B' := (0, 0)) (st' := [.inl r_138]) rfl rfl (Or.inl (by decide)) rfl rfl (o_kdE g1) (md_27 (by omega) (o_kdE g1) q_138) rfl rfl rfl ?_
      obtain ⟨r_141, q_141, h⟩ := o_b1E h
      refine go_callS (pc' := 144) (B' := (0, 0)) (st' := [.inl r_141]) rfl rfl (Or.inl (by decide)) rfl rfl trivial (md_182 (by omega) q_141) rfl rfl rfl ?_
      cases h
      exact go_iret rfl (trivial) ⟨rfl, rfl, rfl, rfl, rfl⟩
    replace h := o_f c45_3 h
    refine go_swOut (pc' := 145) rfl (by
        rw [← Int32.toInt_inj] at c45_0
        rw [← Int32.toInt_inj] at c45_1
        rw [← Int32.toInt_inj] at c45_2
        rw [← Int32.toInt_inj] at c45_3
        have c45_0 : ¬ a2.toInt = 0 := c45_0
        have c45_1 : ¬ a2.toInt = 1 := c45_1
        have c45_2 : ¬ a2.toInt = 2 := c45_2
        have c45_3 : ¬ a2.toInt = 3 := c45_3
        show a2.toInt < 0 ∨ 0 + ((4 : Nat) : Int) ≤ a2.toInt
        omega) rfl ?_
    refine go_ldc (pc' := 147) (v := .inl (-2147483648 : Int32)) rfl rfl rfl ?_
    cases h
    exact go_iret rfl (trivial) ⟨rfl, rfl, rfl, rfl, rfl⟩
  · replace h := o_t (Decidable.of_not_not h27) h
    refine go_ldc (pc' := 32) (v := .inl (-2147483648 : Int32)) rfl rfl rfl ?_
    cases h
    exact go_iret rfl (trivial) ⟨rfl, rfl, rfl, rfl, rfl⟩
