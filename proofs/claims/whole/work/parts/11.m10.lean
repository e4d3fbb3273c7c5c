/-! Models of methods and their proofs, piece 10. Printed by wip/whole/pr10.py. -/
/-- PricedBases.potential(III)I -/
def m_157 (th : Nat) (a0 : Int32) (a1 : Int32) (a2 : Int32) (I : ai_I) (Rf : ai_R) (G : ai_G) : Option (Int32 × ai_I) :=
  o_g (o_kd G (Rf th 0) 6) (o_b1 (m_96 (Rf th 0) a0 Rf G) (fun r_5 => o_b1 (m_96 (Rf th 0) a1 Rf G) (fun r_15 => o_b1 (m_186 r_5 r_15 I G) (fun r_24 => if r_24 = 0 then (some ((-2147483648 : Int32), I)) else (o_g (o_kd G r_5 8) (o_b1 (m_120 r_5 a2 I) (fun r_33 => if r_33 = 0 then (some ((-2147483648 : Int32), I)) else (o_g (o_kd G (Rf th 10) 1) (o_b1 (m_23 (Rf th 10) r_5 r_15 I Rf G) (fun I_50 => o_b2 (m_27 (Rf th 10) r_5 r_15 I_50 Rf G) (fun r_61 I_61 => if r_61 = 0 then (some ((-2147483648 : Int32), I_61)) else (o_g (o_in G 13 (Rf (Rf th 10) 3) a2) (some (I_61 (Rf (Rf th 10) 3) a2.toNatClampNeg, I_61))))))))))))))
theorem md_157 {d : Nat} {I : ai_I} {J : ai_J} {Rf : ai_R} {G : ai_G} {th : Nat} {a0 : Int32} {a1 : Int32} {a2 : Int32} {r : Int32} {I1 : ai_I} (hd : 6 ≤ d) (hth : G.1 th = 10) (h : m_157 th a0 a1 a2 I Rf G = some (r, I1)) : ai_Cl si_t si_ms d 157 [.inr (.inr th), .inl a0, .inl a1, .inl a2] I J Rf G (some (.inl r)) I1 J Rf G := by
  obtain ⟨e, rfl⟩ : ∃ e, d = e + 1 := ⟨d - 1, by omega⟩
  unfold m_157 at h
  refine sp_in (lo := [some (.inr (.inr th)), some (.inl a0), some (.inl a1), some (.inl a2), none, none]) (B := (0, 0)) rfl (Nat.le_of_ble_eq_true rfl) rfl rfl ?_
  refine go_aload_n (pc' := 1) rfl rfl rfl ?_
  refine go_getR (pc' := 4) rfl rfl hth rfl ?_
  refine go_iload_n (pc' := 5) rfl rfl rfl ?_
  obtain ⟨g0, h⟩ := o_gE h
  obtain ⟨r_5, q_5, h⟩ := o_b1E h
  refine go_callV (pc' := 8) (B' := (0, 0)) (st' := [.inr (.inr r_5)]) rfl rfl (Or.inl (by decide)) rfl rfl (o_kdE g0) (md_96 (by omega) (o_kdE g0) q_5) rfl rfl rfl ?_
  refine go_astore (pc' := 10) (lo' := [some (.inr (.inr th)), some (.inl a0), some (.inl a1), some (.inl a2), some (.inr (.inr r_5)), none]) rfl rfl rfl ?_
  refine go_aload_n (pc' := 11) rfl rfl rfl ?_
  refine go_getR (pc' := 14) rfl rfl hth rfl ?_
  refine go_iload_n (pc' := 15) rfl rfl rfl ?_
  obtain ⟨r_15, q_15, h⟩ := o_b1E h
  refine go_callV (pc' := 18) (B' := (0, 0)) (st' := [.inr (.inr r_15)]) rfl rfl (Or.inl (by decide)) rfl rfl (o_kdE g0) (md_96 (by omega) (o_kdE g0) q_15) rfl rfl rfl ?_
  refine go_astore (pc' := 20) (lo' := [some (.inr (.inr th)), some (.inl a0), some (.inl a1), some (.inl a2), some (.inr (.inr r_5)), some (.inr (.inr r_15))]) rfl rfl rfl ?_
  refine go_aload (pc' := 22) rfl rfl rfl ?_
  refine go_aload (pc' := 24) rfl rfl rfl ?_
  obtain ⟨r_24, q_24, h⟩ := o_b1E h
  refine go_callS (pc' := 27) (B' := (0, 0)) (st' := [.inl r_24]) rfl rfl (Or.inl (by decide)) rfl rfl trivial (md_186 (by omega) q_24) rfl rfl rfl ?_
  refine go_if_eq (pt := 39) (pc' := 30) rfl rfl rfl (fun h27 => ?_) (fun h27 => ?_)
  · replace h := o_t h27 h
    refine go_ldc (pc' := 41) (v := .inl (-2147483648 : Int32)) rfl rfl rfl ?_
    cases h
    exact go_iret rfl (trivial) ⟨rfl, rfl, rfl, rfl, rfl⟩
  · replace h := o_f h27 h
    refine go_aload (pc' := 32) rfl rfl rfl ?_
    refine go_iload_n (pc' := 33) rfl rfl rfl ?_
    obtain ⟨g1, h⟩ := o_gE h
    obtain ⟨r_33, q_33, h⟩ := o_b1E h
    refine go_callV (pc' := 36) (B' := (0, 0)) (st' := [.inl r_33]) rfl rfl (Or.inl (by decide)) rfl rfl (o_kdE g1) (md_120 (by omega) (o_kdE g1) q_33) rfl rfl rfl ?_
    refine go_if_ne (pt := 42) (pc' := 39) rfl rfl rfl (fun h36 => ?_) (fun h36 => ?_)
    · replace h := o_f h36 h
      refine go_aload_n (pc' := 43) rfl rfl rfl ?_
      refine go_getR (pc' := 46) rfl rfl hth rfl ?_
      refine go_aload (pc' := 48) rfl rfl rfl ?_
      refine go_aload (pc' := 50) rfl rfl rfl ?_
      obtain ⟨g2, h⟩ := o_gE h
      obtain ⟨I_50, q_50, h⟩ := o_b1E h
      refine go_callV (pc' := 53) (B' := (0, 0)) (st' := []) rfl rfl (Or.inl (by decide)) rfl rfl (o_kdE g2) (md_23 (by omega) (o_kdE g2) q_50) rfl rfl rfl ?_
      refine go_aload_n (pc' := 54) rfl rfl rfl ?_
      refine go_getR (pc' := 57) rfl rfl hth rfl ?_
      refine go_aload (pc' := 59) rfl rfl rfl ?_
      refine go_aload (pc' := 61) rfl rfl rfl ?_
      obtain ⟨r_61, I_61, q_61, h⟩ := o_b2E h
      refine go_callV (pc' := 64) (B' := (0, 0)) (st' := [.inl r_61]) rfl rfl (Or.inl (by decide)) rfl rfl (o_kdE g2) (md_27 (by omega) (o_kdE g2) q_61) rfl rfl rfl ?_
      refine go_if_eq (pt := 79) (pc' := 67) rfl rfl rfl (fun h64 => ?_) (fun h64 => ?_)
      · replace h := o_t h64 h
        refine go_ldc (pc' := 81) (v := .inl (-2147483648 : Int32)) rfl rfl rfl ?_
        cases h
        exact go_iret rfl (trivial) ⟨rfl, rfl, rfl, rfl, rfl⟩
      · replace h := o_f h64 h
        refine go_aload_n (pc' := 68) rfl rfl rfl ?_
        refine go_getR (pc' := 71) rfl rfl hth rfl ?_
        refine go_getR (pc' := 74) rfl rfl (o_kdE g2) rfl ?_
        refine go_iload_n (pc' := 75) rfl rfl rfl ?_
        obtain ⟨g3, h⟩ := o_gE h
        refine go_iaload (pc' := 76) rfl (o_inK g3) (o_inB g3) rfl ?_
        refine go_goto (pc' := 81) rfl rfl ?_
        cases h
        exact go_iret rfl (trivial) ⟨rfl, rfl, rfl, rfl, rfl⟩
    · replace h := o_t (Decidable.of_not_not h36) h
      refine go_ldc (pc' := 41) (v := .inl (-2147483648 : Int32)) rfl rfl rfl ?_
      cases h
      exact go_iret rfl (trivial) ⟨rfl, rfl, rfl, rfl, rfl⟩
/-- PricedBases.together(II)I -/
def m_158 (th : Nat) (a0 : Int32) (a1 : Int32) (I : ai_I) (Rf : ai_R) (G : ai_G) : Option (Int32 × ai_I) :=
  o_g (o_kd G (Rf th 0) 6) (o_b1 (m_96 (Rf th 0) a0 Rf G) (fun r_5 => if r_5 = 0 then (some ((-1 : Int32), I)) else (if a1 < 0 then (some ((-1 : Int32), I)) else (if a1 ≤ (nI 1) then (if a1 = 0 then (o_b2 (m_77 r_5 (Rf th 13) I Rf G) (fun r_33 I_33 => some (r_33, I_33))) else (o_b2 (m_78 r_5 (Rf th 13) I Rf G) (fun r_44 I_44 => some (r_44, I_44)))) else (some ((-1 : Int32), I))))))
theorem md_158 {d : Nat} {I : ai_I} {J : ai_J} {Rf : ai_R} {G : ai_G} {th : Nat} {a0 : Int32} {a1 : Int32} {r : Int32} {I1 : ai_I} (hd : 5 ≤ d) (hth : G.1 th = 10) (h : m_158 th a0 a1 I Rf G = some (r, I1)) : ai_Cl si_t si_ms d 158 [.inr (.inr th), .inl a0, .inl a1] I J Rf G (some (.inl r)) I1 J Rf G := by
  obtain ⟨e, rfl⟩ : ∃ e, d = e + 1 := ⟨d - 1, by omega⟩
  unfold m_158 at h
  refine sp_in (lo := [some (.inr (.inr th)), some (.inl a0), some (.inl a1), none]) (B := (0, 0)) rfl (Nat.le_of_ble_eq_true rfl) rfl rfl ?_
  refine go_aload_n (pc' := 1) rfl rfl rfl ?_
  refine go_getR (pc' := 4) rfl rfl hth rfl ?_
  refine go_iload_n (pc' := 5) rfl rfl rfl ?_
  obtain ⟨g0, h⟩ := o_gE h
  obtain ⟨r_5, q_5, h⟩ := o_b1E h
  refine go_callV (pc' := 8) (B' := (0, 0)) (st' := [.inr (.inr r_5)]) rfl rfl (Or.inl (by decide)) rfl rfl (o_kdE g0) (md_96 (by omega) (o_kdE g0) q_5) rfl rfl rfl ?_
  refine go_astore_n (pc' := 9) (lo' := [some (.inr (.inr th)), some (.inl a0), some (.inl a1), some (.inr (.inr r_5))]) rfl rfl rfl ?_
  refine go_aload_n (pc' := 10) rfl rfl rfl ?_
  refine go_ifnull (pt := 22) (pc' := 13) rfl rfl rfl (fun h10 => ?_) (fun h10 => ?_)
  · replace h := o_t h10 h
    refine go_iconst (pc' := 23) (v := (-1 : Int32)) rfl rfl rfl ?_
    cases h
    exact go_iret rfl (trivial) ⟨rfl, rfl, rfl, rfl, rfl⟩
  · replace h := o_f h10 h
    refine go_iload_n (pc' := 14) rfl rfl rfl ?_
    refine go_if_lt (pt := 22) (pc' := 17) rfl rfl rfl (fun h14 => ?_) (fun h14 => ?_)
    · replace h := o_t h14 h
      refine go_iconst (pc' := 23) (v := (-1 : Int32)) rfl rfl rfl ?_
      cases h
      exact go_iret rfl (trivial) ⟨rfl, rfl, rfl, rfl, rfl⟩
    · replace h := o_f h14 h
      refine go_iload_n (pc' := 18) rfl rfl rfl ?_
      refine go_iconst (pc' := 19) (v := (nI 1)) rfl rfl rfl ?_
      refine go_icmp_le (pt := 24) (pc' := 22) rfl rfl rfl (fun h19 => ?_) (fun h19 => ?_)
      · replace h := o_t h19 h
        refine go_iload_n (pc' := 25) rfl rfl rfl ?_
        refine go_if_ne (pt := 39) (pc' := 28) rfl rfl rfl (fun h25 => ?_) (fun h25 => ?_)
        · replace h := o_f h25 h
          refine go_aload_n (pc' := 40) rfl rfl rfl ?_
          refine go_aload_n (pc' := 41) rfl rfl rfl ?_
          refine go_getR (pc' := 44) rfl rfl hth rfl ?_
          obtain ⟨r_44, I_44, q_44, h⟩ := o_b2E h
          refine go_callS (pc' := 47) (B' := (0, 0)) (st' := [.inl r_44]) rfl rfl (Or.inl (by decide)) rfl rfl trivial (md_78 (by omega) q_44) rfl rfl rfl ?_
          cases h
          exact go_iret rfl (trivial) ⟨rfl, rfl, rfl, rfl, rfl⟩
        · replace h := o_t (Decidable.of_not_not h25) h
          refine go_aload_n (pc' := 29) rfl rfl rfl ?_
          refine go_aload_n (pc' := 30) rfl rfl rfl ?_
          refine go_getR (pc' := 33) rfl rfl hth rfl ?_
          obtain ⟨r_33, I_33, q_33, h⟩ := o_b2E h
          refine go_callS (pc' := 36) (B' := (0, 0)) (st' := [.inl r_33]) rfl rfl (Or.inl (by decide)) rfl rfl trivial (md_77 (by omega) q_33) rfl rfl rfl ?_
          refine go_goto (pc' := 47) rfl rfl ?_
          cases h
          exact go_iret rfl (trivial) ⟨rfl, rfl, rfl, rfl, rfl⟩
      · replace h := o_f h19 h
        refine go_iconst (pc' := 23) (v := (-1 : Int32)) rfl rfl rfl ?_
        cases h
        exact go_iret rfl (trivial) ⟨rfl, rfl, rfl, rfl, rfl⟩
/-- PricedBases.sized(II)I -/
def m_159 (th : Nat) (a0 : Int32) (a1 : Int32) (I : ai_I) (Rf : ai_R) (G : ai_G) : Option (Int32) :=
  o_g (o_kd G (Rf th 0) 6) (o_b1 (m_96 (Rf th 0) a0 Rf G) (fun r_5 => if r_5 = 0 then (some (-1 : Int32)) else (if a1 < 0 then (some (-1 : Int32)) else (o_g (o_kd G r_5 8) (if a1 ≤ (I r_5 0) then (o_b1 (m_69 r_5 a1 I Rf G) (fun r_31 => some r_31)) else (some (-1 : Int32)))))))
theorem md_159 {d : Nat} {I : ai_I} {J : ai_J} {Rf : ai_R} {G : ai_G} {th : Nat} {a0 : Int32} {a1 : Int32} {r : Int32} (hd : 4 ≤ d) (hth : G.1 th = 10) (h : m_159 th a0 a1 I Rf G = some r) : ai_Cl si_t si_ms d 159 [.inr (.inr th), .inl a0, .inl a1] I J Rf G (some (.inl r)) I J Rf G := by
  obtain ⟨e, rfl⟩ : ∃ e, d = e + 1 := ⟨d - 1, by omega⟩
  unfold m_159 at h
  refine sp_in (lo := [some (.inr (.inr th)), some (.inl a0), some (.inl a1), none]) (B := (0, 0)) rfl (Nat.le_of_ble_eq_true rfl) rfl rfl ?_
  refine go_aload_n (pc' := 1) rfl rfl rfl ?_
  refine go_getR (pc' := 4) rfl rfl hth rfl ?_
  refine go_iload_n (pc' := 5) rfl rfl rfl ?_
  obtain ⟨g0, h⟩ := o_gE h
  obtain ⟨r_5, q_5, h⟩ := o_b1E h
  refine go_callV (pc' := 8) (B' := (0, 0)) (st' := [.inr (.inr r_5)]) rfl rfl (Or.inl (by decide)) rfl rfl (o_kdE g0) (md_96 (by omega) (o_kdE g0) q_5) rfl rfl rfl ?_
  refine go_astore_n (pc' := 9) (lo' := [some (.inr (.inr th)), some (.inl a0), some (.inl a1), some (.inr (.inr r_5))]) rfl rfl rfl ?_
  refine go_aload_n (pc' := 10) rfl rfl rfl ?_
  refine go_ifnull (pt := 25) (pc' := 13) rfl rfl rfl (fun h10 => ?_) (fun h10 => ?_)
  · replace h := o_t h10 h
    refine go_iconst (pc' := 26) (v := (-1 : Int32)) rfl rfl rfl ?_
    refine go_goto (pc' := 34) rfl rfl ?_
    cases h
    exact go_iret rfl (trivial) ⟨rfl, rfl, rfl, rfl, rfl⟩
  · replace h := o_f h10 h
    refine go_iload_n (pc' := 14) rfl rfl rfl ?_
    refine go_if_lt (pt := 25) (pc' := 17) rfl rfl rfl (fun h14 => ?_) (fun h14 => ?_)
    · replace h := o_t h14 h
      refine go_iconst (pc' := 26) (v := (-1 : Int32)) rfl rfl rfl ?_
      refine go_goto (pc' := 34) rfl rfl ?_
      cases h
      exact go_iret rfl (trivial) ⟨rfl, rfl, rfl, rfl, rfl⟩
    · replace h := o_f h14 h
      refine go_iload_n (pc' := 18) rfl rfl rfl ?_
      refine go_aload_n (pc' := 19) rfl rfl rfl ?_
      obtain ⟨g1, h⟩ := o_gE h
      refine go_getI (pc' := 22) rfl rfl (by decide) (by decide) (o_kdE g1) rfl ?_
      refine go_icmp_le (pt := 29) (pc' := 25) rfl rfl rfl (fun h22 => ?_) (fun h22 => ?_)
      · replace h := o_t h22 h
        refine go_aload_n (pc' := 30) rfl rfl rfl ?_
        refine go_iload_n (pc' := 31) rfl rfl rfl ?_
        obtain ⟨r_31, q_31, h⟩ := o_b1E h
        refine go_callS (pc' := 34) (B' := (0, 0)) (st' := [.inl r_31]) rfl rfl (Or.inl (by decide)) rfl rfl trivial (md_69 (by omega) q_31) rfl rfl rfl ?_
        cases h
        exact go_iret rfl (trivial) ⟨rfl, rfl, rfl, rfl, rfl⟩
      · replace h := o_f h22 h
        refine go_iconst (pc' := 26) (v := (-1 : Int32)) rfl rfl rfl ?_
        refine go_goto (pc' := 34) rfl rfl ?_
        cases h
        exact go_iret rfl (trivial) ⟨rfl, rfl, rfl, rfl, rfl⟩
/-- PricedBases.tutte(III)J -/
def m_160 (th : Nat) (a0 : Int32) (a1 : Int32) (a2 : Int32) (I : ai_I) (Rf : ai_R) (G : ai_G) : Option (Int64) :=
  o_g (o_kd G (Rf th 0) 6) (o_b1 (m_96 (Rf th 0) a0 Rf G) (fun r_5 => if r_5 = 0 then (some (-2147483648 : Int64)) else (if a1 < (-3 : Int32) then (some (-2147483648 : Int64)) else (if (nI 4) < a1 then (some (-2147483648 : Int64)) else (if a2 < (-3 : Int32) then (some (-2147483648 : Int64)) else (if a2 ≤ (nI 4) then (o_b1 (m_79 r_5 (a1 - (nI 1)) (a2 - (nI 1)) I Rf G) (fun r_49 => some r_49)) else (some (-2147483648 : Int64))))))))
theorem md_160 {d : Nat} {I : ai_I} {J : ai_J} {Rf : ai_R} {G : ai_G} {th : Nat} {a0 : Int32} {a1 : Int32} {a2 : Int32} {r : Int64} (hd : 3 ≤ d) (hth : G.1 th = 10) (h : m_160 th a0 a1 a2 I Rf G = some r) : ai_Cl si_t si_ms d 160 [.inr (.inr th), .inl a0, .inl a1, .inl a2] I J Rf G (some (.inr (.inl r))) I J Rf G := by
  obtain ⟨e, rfl⟩ : ∃ e, d = e + 1 := ⟨d - 1, by omega⟩
  unfold m_160 at h
  refine sp_in (lo := [some (.inr (.inr th)), some (.inl a0), some (.inl a1), some (.inl a2), none]) (B := (0, 0)) rfl (Nat.le_of_ble_eq_true rfl) rfl rfl ?_
  refine go_aload_n (pc' := 1) rfl rfl rfl ?_
  refine go_getR (pc' := 4) rfl rfl hth rfl ?_
  refine go_iload_n (pc' := 5) rfl rfl rfl ?_
  obtain ⟨g0, h⟩ := o_gE h
  obtain ⟨r_5, q_5, h⟩ := o_b1E h
  refine go_callV (pc' := 8) (B' := (0, 0)) (st' := [.inr (.inr r_5)]) rfl rfl (Or.inl (by decide)) rfl rfl (o_kdE g0) (md_96 (by omega) (o_kdE g0) q_5) rfl rfl rfl ?_
  refine go_astore (pc' := 10) (lo' := [some (.inr (.inr th)), some (.inl a0), some (.inl a1), some (.inl a2), some (.inr (.inr r_5))]) rfl rfl rfl ?_
  refine go_aload (pc' := 12) rfl rfl rfl ?_
  refine go_ifnull (pt := 37) (pc' := 15) rfl rfl rfl (fun h12 => ?_) (fun h12 => ?_)
  · replace h := o_t h12 h
    refine go_ldc2_w (pc' := 40) (v := .inr (.inl (-2147483648 : Int64))) rfl rfl rfl ?_
    cases h
    exact go_lret rfl (rfl) ⟨rfl, rfl, rfl, rfl, rfl⟩
  · replace h := o_f h12 h
    refine go_iload_n (pc' := 16) rfl rfl rfl ?_
    refine go_bipush (pc' := 18) (v := (-3 : Int32)) rfl rfl rfl ?_
    refine go_icmp_lt (pt := 37) (pc' := 21) rfl rfl rfl (fun h18 => ?_) (fun h18 => ?_)
    · replace h := o_t h18 h
      refine go_ldc2_w (pc' := 40) (v := .inr (.inl (-2147483648 : Int64))) rfl rfl rfl ?_
      cases h
      exact go_lret rfl (rfl) ⟨rfl, rfl, rfl, rfl, rfl⟩
    · replace h := o_f h18 h
      refine go_iload_n (pc' := 22) rfl rfl rfl ?_
      refine go_iconst (pc' := 23) (v := (nI 4)) rfl rfl rfl ?_
      refine go_icmp_gt (pt := 37) (pc' := 26) rfl rfl rfl (fun h23 => ?_) (fun h23 => ?_)
      · replace h := o_t h23 h
        refine go_ldc2_w (pc' := 40) (v := .inr (.inl (-2147483648 : Int64))) rfl rfl rfl ?_
        cases h
        exact go_lret rfl (rfl) ⟨rfl, rfl, rfl, rfl, rfl⟩
      · replace h := o_f h23 h
        refine go_iload_n (pc' := 27) rfl rfl rfl ?_
        refine go_bipush (pc' := 29) (v := (-3 : Int32)) rfl rfl rfl ?_
        refine go_icmp_lt (pt := 37) (pc' := 32) rfl rfl rfl (fun h29 => ?_) (fun h29 => ?_)
        · replace h := o_t h29 h
          refine go_ldc2_w (pc' := 40) (v := .inr (.inl (-2147483648 : Int64))) rfl rfl rfl ?_
          cases h
          exact go_lret rfl (rfl) ⟨rfl, rfl, rfl, rfl, rfl⟩
        · replace h := o_f h29 h
          refine go_iload_n (pc' := 33) rfl rfl rfl ?_
          refine go_iconst (pc' := 34) (v := (nI 4)) rfl rfl rfl ?_
          refine go_icmp_le (pt := 41) (pc' := 37) rfl rfl rfl (fun h34 => ?_) (fun h34 => ?_)
          · replace h := o_t h34 h
            refine go_aload (pc' := 43) rfl rfl rfl ?_
            refine go_iload_n (pc' := 44) rfl rfl rfl ?_
            refine go_iconst (pc' := 45) (v := (nI 1)) rfl rfl rfl ?_
            refine go_isub (pc' := 46) rfl rfl ?_
            refine go_iload_n (pc' := 47) rfl rfl rfl ?_
            refine go_iconst (pc' := 48) (v := (nI 1)) rfl rfl rfl ?_
            refine go_isub (pc' := 49) rfl rfl ?_
            obtain ⟨r_49, q_49, h⟩ := o_b1E h
            refine go_callS (pc' := 52) (B' := (0, 0)) (st' := [.inr (.inl r_49)]) rfl rfl (Or.inl (by decide)) rfl rfl trivial (md_79 (by omega) q_49) rfl rfl rfl ?_
            cases h
            exact go_lret rfl (rfl) ⟨rfl, rfl, rfl, rfl, rfl⟩
          · replace h := o_f h34 h
            refine go_ldc2_w (pc' := 40) (v := .inr (.inl (-2147483648 : Int64))) rfl rfl rfl ?_
            cases h
            exact go_lret rfl (rfl) ⟨rfl, rfl, rfl, rfl, rfl⟩
/-- PricedBases.share(III)J -/
def m_161 (th : Nat) (a0 : Int32) (a1 : Int32) (a2 : Int32) (I : ai_I) (Rf : ai_R) (G : ai_G) : Option (Int64) :=
  o_g (o_kd G (Rf th 0) 6) (o_b1 (m_96 (Rf th 0) a0 Rf G) (fun r_5 => if r_5 = 0 then (some (-2147483648 : Int64)) else (o_g (o_kd G r_5 8) (o_b1 (m_120 r_5 a1 I) (fun r_18 => if r_18 = 0 then (some (-2147483648 : Int64)) else (if a2 < 0 then (some (-2147483648 : Int64)) else (if a2 ≤ (nI 1) then (o_b1 (m_82 r_5 a1 I Rf G) (fun r_40 => o_b1 (m_81 (I r_5 0)) (fun r_50 => o_b1 (m_83 r_40 r_50) (fun r_59 => if (ai_cmp r_59 (0 : Int64)) = 0 then (some (-2147483648 : Int64)) else (if a2 = 0 then (o_g (o_nzJ r_59) (some (r_40 / r_59))) else (o_g (o_nzJ r_59) (some (r_50 / r_59)))))))) else (some (-2147483648 : Int64)))))))))
theorem md_161 {d : Nat} {I : ai_I} {J : ai_J} {Rf : ai_R} {G : ai_G} {th : Nat} {a0 : Int32} {a1 : Int32} {a2 : Int32} {r : Int64} (hd : 3 ≤ d) (hth : G.1 th = 10) (h : m_161 th a0 a1 a2 I Rf G = some r) : ai_Cl si_t si_ms d 161 [.inr (.inr th), .inl a0, .inl a1, .inl a2] I J Rf G (some (.inr (.inl r))) I J Rf G := by
  obtain ⟨e, rfl⟩ : ∃ e, d = e + 1 := ⟨d - 1, by omega⟩
  unfold m_161 at h
  refine sp_in (lo := [some (.inr (.inr th)), some (.inl a0), some (.inl a1), some (.inl a2), none, none, none, none, none, none, none]) (B := (0, 0)) rfl (Nat.le_of_ble_eq_true rfl) rfl rfl ?_
  refine go_aload_n (pc' := 1) rfl rfl rfl ?_
  refine go_getR (pc' := 4) rfl rfl hth rfl ?_
  refine go_iload_n (pc' := 5) rfl rfl rfl ?_
  obtain ⟨g0, h⟩ := o_gE h
  obtain ⟨r_5, q_5, h⟩ := o_b1E h
  refine go_callV (pc' := 8) (B' := (0, 0)) (st' := [.inr (.inr r_5)]) rfl rfl (Or.inl (by decide)) rfl rfl (o_kdE g0) (md_96 (by omega) (o_kdE g0) q_5) rfl rfl rfl ?_
  refine go_astore (pc' := 10) (lo' := [some (.inr (.inr th)), some (.inl a0), some (.inl a1), some (.inl a2), some (.inr (.inr r_5)), none, none, none, none, none, none]) rfl rfl rfl ?_
  refine go_aload (pc' := 12) rfl rfl rfl ?_
  refine go_ifnull (pt := 33) (pc' := 15) rfl rfl rfl (fun h12 => ?_) (fun h12 => ?_)
  · replace h := o_t h12 h
    refine go_ldc2_w (pc' := 36) (v := .inr (.inl (-2147483648 : Int64))) rfl rfl rfl ?_
    cases h
    exact go_lret rfl (rfl) ⟨rfl, rfl, rfl, rfl, rfl⟩
  · replace h := o_f h12 h
    refine go_aload (pc' := 17) rfl rfl rfl ?_
    refine go_iload_n (pc' := 18) rfl rfl rfl ?_
    obtain ⟨g1, h⟩ := o_gE h
    obtain ⟨r_18, q_18, h⟩ := o_b1E h
    refine go_callV (pc' := 21) (B' := (0, 0)) (st' := [.inl r_18]) rfl rfl (Or.inl (by decide)) rfl rfl (o_kdE g1) (md_120 (by omega) (o_kdE g1) q_18) rfl rfl rfl ?_
    refine go_if_eq (pt := 33) (pc' := 24) rfl rfl rfl (fun h21 => ?_) (fun h21 => ?_)
    · replace h := o_t h21 h
      refine go_ldc2_w (pc' := 36) (v := .inr (.inl (-2147483648 : Int64))) rfl rfl rfl ?_
      cases h
      exact go_lret rfl (rfl) ⟨rfl, rfl, rfl, rfl, rfl⟩
    · replace h := o_f h21 h
      refine go_iload_n (pc' := 25) rfl rfl rfl ?_
      refine go_if_lt (pt := 33) (pc' := 28) rfl rfl rfl (fun h25 => ?_) (fun h25 => ?_)
      · replace h := o_t h25 h
        refine go_ldc2_w (pc' := 36) (v := .inr (.inl (-2147483648 : Int64))) rfl rfl rfl ?_
        cases h
        exact go_lret rfl (rfl) ⟨rfl, rfl, rfl, rfl, rfl⟩
      · replace h := o_f h25 h
        refine go_iload_n (pc' := 29) rfl rfl rfl ?_
        refine go_iconst (pc' := 30) (v := (nI 1)) rfl rfl rfl ?_
        refine go_icmp_le (pt := 37) (pc' := 33) rfl rfl rfl (fun h30 => ?_) (fun h30 => ?_)
        · replace h := o_t h30 h
          refine go_aload (pc' := 39) rfl rfl rfl ?_
          refine go_iload_n (pc' := 40) rfl rfl rfl ?_
          obtain ⟨r_40, q_40, h⟩ := o_b1E h
          refine go_callS (pc' := 43) (B' := (0, 0)) (st' := [.inr (.inl r_40)]) rfl rfl (Or.inl (by decide)) rfl rfl trivial (md_82 (by omega) q_40) rfl rfl rfl ?_
          refine go_lstore (pc' := 45) (lo' := [some (.inr (.inr th)), some (.inl a0), some (.inl a1), some (.inl a2), some (.inr (.inr r_5)), some (.inr (.inl r_40)), none, none, none, none, none]) rfl rfl rfl ?_
          refine go_aload (pc' := 47) rfl rfl rfl ?_
          refine go_getI (pc' := 50) rfl rfl (by decide) (by decide) (o_kdE g1) rfl ?_
          obtain ⟨r_50, q_50, h⟩ := o_b1E h
          refine go_callS (pc' := 53) (B' := (0, 0)) (st' := [.inr (.inl r_50)]) rfl rfl (Or.inl (by decide)) rfl rfl trivial (md_81 (by omega) q_50) rfl rfl rfl ?_
          refine go_lstore (pc' := 55) (lo' := [some (.inr (.inr th)), some (.inl a0), some (.inl a1), some (.inl a2), some (.inr (.inr r_5)), some (.inr (.inl r_40)), none, some (.inr (.inl r_50)), none, none, none]) rfl rfl rfl ?_
          refine go_lload (pc' := 57) rfl rfl rfl ?_
          refine go_lload (pc' := 59) rfl rfl rfl ?_
          obtain ⟨r_59, q_59, h⟩ := o_b1E h
          refine go_callS (pc' := 62) (B' := (0, 0)) (st' := [.inr (.inl r_59)]) rfl rfl (Or.inl (by decide)) rfl rfl trivial (md_83 (by omega) q_59) rfl rfl rfl ?_
          refine go_lstore (pc' := 64) (lo' := [some (.inr (.inr th)), some (.inl a0), some (.inl a1), some (.inl a2), some (.inr (.inr r_5)), some (.inr (.inl r_40)), none, some (.inr (.inl r_50)), none, some (.inr (.inl r_59)), none]) rfl rfl rfl ?_
          refine go_lload (pc' := 66) rfl rfl rfl ?_
          refine go_lconst (pc' := 67) (v := (0 : Int64)) rfl rfl rfl ?_
          refine go_lcmp (pc' := 68) rfl rfl ?_
          refine go_if_ne (pt := 75) (pc' := 71) rfl rfl rfl (fun h68 => ?_) (fun h68 => ?_)
          · replace h := o_f h68 h
            refine go_iload_n (pc' := 76) rfl rfl rfl ?_
            refine go_if_ne (pt := 84) (pc' := 79) rfl rfl rfl (fun h76 => ?_) (fun h76 => ?_)
            · replace h := o_f h76 h
              refine go_lload (pc' := 86) rfl rfl rfl ?_
              refine go_lload (pc' := 88) rfl rfl rfl ?_
              obtain ⟨g2, h⟩ := o_gE h
              refine go_ldiv (pc' := 89) rfl (o_nzJE g2) rfl ?_
              cases h
              exact go_lret rfl (rfl) ⟨rfl, rfl, rfl, rfl, rfl⟩
            · replace h := o_t (Decidable.of_not_not h76) h
              refine go_lload (pc' := 81) rfl rfl rfl ?_
              refine go_goto (pc' := 86) rfl rfl ?_
              refine go_lload (pc' := 88) rfl rfl rfl ?_
              obtain ⟨g3, h⟩ := o_gE h
              refine go_ldiv (pc' := 89) rfl (o_nzJE g3) rfl ?_
              cases h
              exact go_lret rfl (rfl) ⟨rfl, rfl, rfl, rfl, rfl⟩
          · replace h := o_t (Decidable.of_not_not h68) h
            refine go_ldc2_w (pc' := 74) (v := .inr (.inl (-2147483648 : Int64))) rfl rfl rfl ?_
            cases h
            exact go_lret rfl (rfl) ⟨rfl, rfl, rfl, rfl, rfl⟩
        · replace h := o_f h30 h
          refine go_ldc2_w (pc' := 36) (v := .inr (.inl (-2147483648 : Int64))) rfl rfl rfl ?_
          cases h
          exact go_lret rfl (rfl) ⟨rfl, rfl, rfl, rfl, rfl⟩
/-- PricedBases.component(II)I -/
def m_162 (th : Nat) (a0 : Int32) (a1 : Int32) (I : ai_I) (Rf : ai_R) (G : ai_G) : Option (Int32) :=
  o_g (o_kd G (Rf th 0) 6) (o_b1 (m_96 (Rf th 0) a0 Rf G) (fun r_5 => if r_5 = 0 then (some (-1 : Int32)) else (o_g (o_kd G r_5 8) (o_b1 (m_120 r_5 a1 I) (fun r_15 => if r_15 = 0 then (some (-1 : Int32)) else (o_b1 (m_76 r_5 a1 I Rf G) (fun r_27 => some r_27)))))))
theorem md_162 {d : Nat} {I : ai_I} {J : ai_J} {Rf : ai_R} {G : ai_G} {th : Nat} {a0 : Int32} {a1 : Int32} {r : Int32} (hd : 5 ≤ d) (hth : G.1 th = 10) (h : m_162 th a0 a1 I Rf G = some r) : ai_Cl si_t si_ms d 162 [.inr (.inr th), .inl a0, .inl a1] I J Rf G (some (.inl r)) I J Rf G := by
  obtain ⟨e, rfl⟩ : ∃ e, d = e + 1 := ⟨d - 1, by omega⟩
  unfold m_162 at h
  refine sp_in (lo := [some (.inr (.inr th)), some (.inl a0), some (.inl a1), none]) (B := (0, 0)) rfl (Nat.le_of_ble_eq_true rfl) rfl rfl ?_
  refine go_aload_n (pc' := 1) rfl rfl rfl ?_
  refine go_getR (pc' := 4) rfl rfl hth rfl ?_
  refine go_iload_n (pc' := 5) rfl rfl rfl ?_
  obtain ⟨g0, h⟩ := o_gE h
  obtain ⟨r_5, q_5, h⟩ := o_b1E h
  refine go_callV (pc' := 8) (B' := (0, 0)) (st' := [.inr (.inr r_5)]) rfl rfl (Or.inl (by decide)) rfl rfl (o_kdE g0) (md_96 (by omega) (o_kdE g0) q_5) rfl rfl rfl ?_
  refine go_astore_n (pc' := 9) (lo' := [some (.inr (.inr th)), some (.inl a0), some (.inl a1), some (.inr (.inr r_5))]) rfl rfl rfl ?_
  refine go_aload_n (pc' := 10) rfl rfl rfl ?_
  refine go_ifnull (pt := 21) (pc' := 13) rfl rfl rfl (fun h10 => ?_) (fun h10 => ?_)
  · replace h := o_t h10 h
    refine go_iconst (pc' := 22) (v := (-1 : Int32)) rfl rfl rfl ?_
    refine go_goto (pc' := 30) rfl rfl ?_
    cases h
    exact go_iret rfl (trivial) ⟨rfl, rfl, rfl, rfl, rfl⟩
  · replace h := o_f h10 h
    refine go_aload_n (pc' := 14) rfl rfl rfl ?_
    refine go_iload_n (pc' := 15) rfl rfl rfl ?_
    obtain ⟨g1, h⟩ := o_gE h
    obtain ⟨r_15, q_15, h⟩ := o_b1E h
    refine go_callV (pc' := 18) (B' := (0, 0)) (st' := [.inl r_15]) rfl rfl (Or.inl (by decide)) rfl rfl (o_kdE g1) (md_120 (by omega) (o_kdE g1) q_15) rfl rfl rfl ?_
    refine go_if_ne (pt := 25) (pc' := 21) rfl rfl rfl (fun h18 => ?_) (fun h18 => ?_)
    · replace h := o_f h18 h
      refine go_aload_n (pc' := 26) rfl rfl rfl ?_
      refine go_iload_n (pc' := 27) rfl rfl rfl ?_
      obtain ⟨r_27, q_27, h⟩ := o_b1E h
      refine go_callS (pc' := 30) (B' := (0, 0)) (st' := [.inl r_27]) rfl rfl (Or.inl (by decide)) rfl rfl trivial (md_76 (by omega) q_27) rfl rfl rfl ?_
      cases h
      exact go_iret rfl (trivial) ⟨rfl, rfl, rfl, rfl, rfl⟩
    · replace h := o_t (Decidable.of_not_not h18) h
      refine go_iconst (pc' := 22) (v := (-1 : Int32)) rfl rfl rfl ?_
      refine go_goto (pc' := 30) rfl rfl ?_
      cases h
      exact go_iret rfl (trivial) ⟨rfl, rfl, rfl, rfl, rfl⟩
/-- PricedBases.quotient(II)I -/
def m_163 (th : Nat) (a0 : Int32) (a1 : Int32) (I : ai_I) (Rf : ai_R) (G : ai_G) : Option (Int32) :=
  o_g (o_kd G (Rf th 0) 6) (o_b1 (m_96 (Rf th 0) a0 Rf G) (fun r_5 => o_b1 (m_96 (Rf th 0) a1 Rf G) (fun r_14 => o_b1 (m_185 r_5 r_14 I G) (fun r_22 => if r_22 = 0 then (some (-1 : Int32)) else (o_b1 (m_72 r_5 r_14 I Rf G) (fun r_31 => o_b1 (m_182 r_31) (fun r_34 => some r_34)))))))
theorem md_163 {d : Nat} {I : ai_I} {J : ai_J} {Rf : ai_R} {G : ai_G} {th : Nat} {a0 : Int32} {a1 : Int32} {r : Int32} (hd : 3 ≤ d) (hth : G.1 th = 10) (h : m_163 th a0 a1 I Rf G = some r) : ai_Cl si_t si_ms d 163 [.inr (.inr th), .inl a0, .inl a1] I J Rf G (some (.inl r)) I J Rf G := by
  obtain ⟨e, rfl⟩ : ∃ e, d = e + 1 := ⟨d - 1, by omega⟩
  unfold m_163 at h
  refine sp_in (lo := [some (.inr (.inr th)), some (.inl a0), some (.inl a1), none, none]) (B := (0, 0)) rfl (Nat.le_of_ble_eq_true rfl) rfl rfl ?_
  refine go_aload_n (pc' := 1) rfl rfl rfl ?_
  refine go_getR (pc' := 4) rfl rfl hth rfl ?_
  refine go_iload_n (pc' := 5) rfl rfl rfl ?_
  obtain ⟨g0, h⟩ := o_gE h
  obtain ⟨r_5, q_5, h⟩ := o_b1E h
  refine go_callV (pc' := 8) (B' := (0, 0)) (st' := [.inr (.inr r_5)]) rfl rfl (Or.inl (by decide)) rfl rfl (o_kdE g0) (md_96 (by omega) (o_kdE g0) q_5) rfl rfl rfl ?_
  refine go_astore_n (pc' := 9) (lo' := [some (.inr (.inr th)), some (.inl a0), some (.inl a1), some (.inr (.inr r_5)), none]) rfl rfl rfl ?_
  refine go_aload_n (pc' := 10) rfl rfl rfl ?_
  refine go_getR (pc' := 13) rfl rfl hth rfl ?_
  refine go_iload_n (pc' := 14) rfl rfl rfl ?_
  obtain ⟨r_14, q_14, h⟩ := o_b1E h
  refine go_callV (pc' := 17) (B' := (0, 0)) (st' := [.inr (.inr r_14)]) rfl rfl (Or.inl (by decide)) rfl rfl (o_kdE g0) (md_96 (by omega) (o_kdE g0) q_14) rfl rfl rfl ?_
  refine go_astore (pc' := 19) (lo' := [some (.inr (.inr th)), some (.inl a0), some (.inl a1), some (.inr (.inr r_5)), some (.inr (.inr r_14))]) rfl rfl rfl ?_
  refine go_aload_n (pc' := 20) rfl rfl rfl ?_
  refine go_aload (pc' := 22) rfl rfl rfl ?_
  obtain ⟨r_22, q_22, h⟩ := o_b1E h
  refine go_callS (pc' := 25) (B' := (0, 0)) (st' := [.inl r_22]) rfl rfl (Or.inl (by decide)) rfl rfl trivial (md_185 (by omega) q_22) rfl rfl rfl ?_
  refine go_if_eq (pt := 40) (pc' := 28) rfl rfl rfl (fun h25 => ?_) (fun h25 => ?_)
  · replace h := o_t h25 h
    refine go_iconst (pc' := 41) (v := (-1 : Int32)) rfl rfl rfl ?_
    cases h
    exact go_iret rfl (trivial) ⟨rfl, rfl, rfl, rfl, rfl⟩
  · replace h := o_f h25 h
    refine go_aload_n (pc' := 29) rfl rfl rfl ?_
    refine go_aload (pc' := 31) rfl rfl rfl ?_
    obtain ⟨r_31, q_31, h⟩ := o_b1E h
    refine go_callS (pc' := 34) (B' := (0, 0)) (st' := [.inl r_31]) rfl rfl (Or.inl (by decide)) rfl rfl trivial (md_72 (by omega) q_31) rfl rfl rfl ?_
    obtain ⟨r_34, q_34, h⟩ := o_b1E h
    refine go_callS (pc' := 37) (B' := (0, 0)) (st' := [.inl r_34]) rfl rfl (Or.inl (by decide)) rfl rfl trivial (md_182 (by omega) q_34) rfl rfl rfl ?_
    refine go_goto (pc' := 41) rfl rfl ?_
    cases h
    exact go_iret rfl (trivial) ⟨rfl, rfl, rfl, rfl, rfl⟩
def m_164_j68 (th : Nat) (a1 : Int32) (Rf : ai_R) (G : ai_G) (r_5 : Nat) (I_49 : ai_I) (t3_68 : Int32) : Option (Int32 × ai_I) :=
  o_b1 (m_110 (Rf th 8) r_5 a1 t3_68 I_49 Rf G) (fun r_68 => some (r_68, I_49))
/-- PricedBases.gap(III)I -/
def m_164 (th : Nat) (a0 : Int32) (a1 : Int32) (a2 : Int32) (I : ai_I) (Rf : ai_R) (G : ai_G) : Option (Int32 × ai_I) :=
  o_g (o_kd G (Rf th 0) 6) (o_b1 (m_96 (Rf th 0) a0 Rf G) (fun r_5 => if r_5 = 0 then (some ((-2147483648 : Int32), I)) else (o_g (o_kd G r_5 8) (o_b1 (m_120 r_5 a1 I) (fun r_18 => if r_18 = 0 then (some ((-2147483648 : Int32), I)) else (if a2 < 0 then (some ((-2147483648 : Int32), I)) else (if a2 ≤ (nI 1) then (o_g (o_kd G (Rf th 8) 7) (o_b1 (m_104 (Rf th 8) r_5 (Rf (Rf th 0) 1) I Rf G) (fun I_49 => if a2 = 0 then (m_164_j68 th a1 Rf G r_5 I_49 (nI 1)) else (m_164_j68 th a1 Rf G r_5 I_49 (nI 0))))) else (some ((-2147483648 : Int32), I)))))))))
theorem md_164 {d : Nat} {I : ai_I} {J : ai_J} {Rf : ai_R} {G : ai_G} {th : Nat} {a0 : Int32} {a1 : Int32} {a2 : Int32} {r : Int32} {I1 : ai_I} (hd : 4 ≤ d) (hth : G.1 th = 10) (h : m_164 th a0 a1 a2 I Rf G = some (r, I1)) : ai_Cl si_t si_ms d 164 [.inr (.inr th), .inl a0, .inl a1, .inl a2] I J Rf G (some (.inl r)) I1 J Rf G := by
  obtain ⟨e, rfl⟩ : ∃ e, d = e + 1 := ⟨d - 1, by omega⟩
  unfold m_164 at h
  refine sp_in (lo := [some (.inr (.inr th)), some (.inl a0), some (.inl a1), some (.inl a2), none]) (B := (0, 0)) rfl (Nat.le_of_ble_eq_true rfl) rfl rfl ?_
  refine go_aload_n (pc' := 1) rfl rfl rfl ?_
  refine go_getR (pc' := 4) rfl rfl hth rfl ?_
  refine go_iload_n (pc' := 5) rfl rfl rfl ?_
  obtain ⟨g0, h⟩ := o_gE h
  obtain ⟨r_5, q_5, h⟩ := o_b1E h
  refine go_callV (pc' := 8) (B' := (0, 0)) (st' := [.inr (.inr r_5)]) rfl rfl (Or.inl (by decide)) rfl rfl (o_kdE g0) (md_96 (by omega) (o_kdE g0) q_5) rfl rfl rfl ?_
  refine go_astore (pc' := 10) (lo' := [some (.inr (.inr th)), some (.inl a0), some (.inl a1), some (.inl a2), some (.inr (.inr r_5))]) rfl rfl rfl ?_
  refine go_aload (pc' := 12) rfl rfl rfl ?_
  refine go_ifnull (pt := 33) (pc' := 15) rfl rfl rfl (fun h12 => ?_) (fun h12 => ?_)
  · replace h := o_t h12 h
    refine go_ldc (pc' := 35) (v := .inl (-2147483648 : Int32)) rfl rfl rfl ?_
    cases h
    exact go_iret rfl (trivial) ⟨rfl, rfl, rfl, rfl, rfl⟩
  · replace h := o_f h12 h
    refine go_aload (pc' := 17) rfl rfl rfl ?_
    refine go_iload_n (pc' := 18) rfl rfl rfl ?_
    obtain ⟨g1, h⟩ := o_gE h
    obtain ⟨r_18, q_18, h⟩ := o_b1E h
    refine go_callV (pc' := 21) (B' := (0, 0)) (st' := [.inl r_18]) rfl rfl (Or.inl (by decide)) rfl rfl (o_kdE g1) (md_120 (by omega) (o_kdE g1) q_18) rfl rfl rfl ?_
    refine go_if_eq (pt := 33) (pc' := 24) rfl rfl rfl (fun h21 => ?_) (fun h21 => ?_)
    · replace h := o_t h21 h
      refine go_ldc (pc' := 35) (v := .inl (-2147483648 : Int32)) rfl rfl rfl ?_
      cases h
      exact go_iret rfl (trivial) ⟨rfl, rfl, rfl, rfl, rfl⟩
    · replace h := o_f h21 h
      refine go_iload_n (pc' := 25) rfl rfl rfl ?_
      refine go_if_lt (pt := 33) (pc' := 28) rfl rfl rfl (fun h25 => ?_) (fun h25 => ?_)
      · replace h := o_t h25 h
        refine go_ldc (pc' := 35) (v := .inl (-2147483648 : Int32)) rfl rfl rfl ?_
        cases h
        exact go_iret rfl (trivial) ⟨rfl, rfl, rfl, rfl, rfl⟩
      · replace h := o_f h25 h
        refine go_iload_n (pc' := 29) rfl rfl rfl ?_
        refine go_iconst (pc' := 30) (v := (nI 1)) rfl rfl rfl ?_
        refine go_icmp_le (pt := 36) (pc' := 33) rfl rfl rfl (fun h30 => ?_) (fun h30 => ?_)
        · replace h := o_t h30 h
          refine go_aload_n (pc' := 37) rfl rfl rfl ?_
          refine go_getR (pc' := 40) rfl rfl hth rfl ?_
          refine go_aload (pc' := 42) rfl rfl rfl ?_
          refine go_aload_n (pc' := 43) rfl rfl rfl ?_
          refine go_getR (pc' := 46) rfl rfl hth rfl ?_
          refine go_getR (pc' := 49) rfl rfl (o_kdE g0) rfl ?_
          obtain ⟨g2, h⟩ := o_gE h
          obtain ⟨I_49, q_49, h⟩ := o_b1E h
          refine go_callV (pc' := 52) (B' := (0, 0)) (st' := []) rfl rfl (Or.inl (by decide)) rfl rfl (o_kdE g2) (md_104 (by omega) (o_kdE g2) q_49) rfl rfl rfl ?_
          refine go_aload_n (pc' := 53) rfl rfl rfl ?_
          refine go_getR (pc' := 56) rfl rfl hth rfl ?_
          refine go_aload (pc' := 58) rfl rfl rfl ?_
          refine go_iload_n (pc' := 59) rfl rfl rfl ?_
          refine go_iload_n (pc' := 60) rfl rfl rfl ?_
          have jn68 : ∀ (t3_68 : Int32), m_164_j68 th a1 Rf G r_5 I_49 t3_68 = some (r, I1) → ai_Go si_t (10, false, 0, cd_164) (ai_Cl si_t si_ms e) (sp_Q (some (.inl r)) I1 J Rf G) 68 [some (.inr (.inr th)), some (.inl a0), some (.inl a1), some (.inl a2), some (.inr (.inr r_5))] [.inl t3_68, .inl a1, .inr (.inr r_5), .inr (.inr (Rf th 8))] (0, 0) I_49 J Rf G := by
            intro t3_68 h
            unfold m_164_j68 at h
            obtain ⟨r_68, q_68, h⟩ := o_b1E h
            refine go_callV (pc' := 71) (B' := (0, 0)) (st' := [.inl r_68]) rfl rfl (Or.inl (by decide)) rfl rfl (o_kdE g2) (md_110 (by omega) (o_kdE g2) q_68) rfl rfl rfl ?_
            cases h
            exact go_iret rfl (trivial) ⟨rfl, rfl, rfl, rfl, rfl⟩
          refine go_if_ne (pt := 67) (pc' := 63) rfl rfl rfl (fun h60 => ?_) (fun h60 => ?_)
          · replace h := o_f h60 h
            refine go_iconst (pc' := 68) (v := (nI 0)) rfl rfl rfl ?_
            exact jn68 (nI 0) h
          · replace h := o_t (Decidable.of_not_not h60) h
            refine go_iconst (pc' := 64) (v := (nI 1)) rfl rfl rfl ?_
            refine go_goto (pc' := 68) rfl rfl ?_
            exact jn68 (nI 1) h
        · replace h := o_f h30 h
          refine go_ldc (pc' := 35) (v := .inl (-2147483648 : Int32)) rfl rfl rfl ?_
          cases h
          exact go_iret rfl (trivial) ⟨rfl, rfl, rfl, rfl, rfl⟩
/-- PricedBases.tips(II)I -/
def m_165 (th : Nat) (a0 : Int32) (a1 : Int32) (I : ai_I) (Rf : ai_R) (G : ai_G) : Option (Int32 × ai_I) :=
  o_g (o_kd G (Rf th 0) 6) (o_b1 (m_96 (Rf th 0) a0 Rf G) (fun r_5 => if r_5 = 0 then (some ((-2147483648 : Int32), I)) else (o_g (o_kd G r_5 8) (o_b1 (m_120 r_5 a1 I) (fun r_15 => if r_15 = 0 then (some ((-2147483648 : Int32), I)) else (o_g (o_kd G (Rf th 8) 7) (o_b1 (m_104 (Rf th 8) r_5 (Rf (Rf th 0) 1) I Rf G) (fun I_36 => o_b1 (m_110 (Rf th 8) r_5 a1 (nI 1) I_36 Rf G) (fun r_46 => o_b1 (m_110 (Rf th 8) r_5 a1 (nI 0) I_36 Rf G) (fun r_58 => if r_46 = (-2147483648 : Int32) then (some ((-2147483648 : Int32), I_36)) else (if r_58 = (-2147483648 : Int32) then (some ((-2147483648 : Int32), I_36)) else (o_g (o_in G 13 (Rf (Rf th 0) 1) a1) (some (((I_36 (Rf (Rf th 0) 1) a1.toNatClampNeg) + r_58) - r_46, I_36))))))))))))))
theorem md_165 {d : Nat} {I : ai_I} {J : ai_J} {Rf : ai_R} {G : ai_G} {th : Nat} {a0 : Int32} {a1 : Int32} {r : Int32} {I1 : ai_I} (hd : 4 ≤ d) (hth : G.1 th = 10) (h : m_165 th a0 a1 I Rf G = some (r, I1)) : ai_Cl si_t si_ms d 165 [.inr (.inr th), .inl a0, .inl a1] I J Rf G (some (.inl r)) I1 J Rf G := by
  obtain ⟨e, rfl⟩ : ∃ e, d = e + 1 := ⟨d - 1, by omega⟩
  unfold m_165 at h
  refine sp_in (lo := [some (.inr (.inr th)), some (.inl a0), some (.inl a1), none, none, none]) (B := (0, 0)) rfl (Nat.le_of_ble_eq_true rfl) rfl rfl ?_
  refine go_aload_n (pc' := 1) rfl rfl rfl ?_
  refine go_getR (pc' := 4) rfl rfl hth rfl ?_
  refine go_iload_n (pc' := 5) rfl rfl rfl ?_
  obtain ⟨g0, h⟩ := o_gE h
  obtain ⟨r_5, q_5, h⟩ := o_b1E h
  refine go_callV (pc' := 8) (B' := (0, 0)) (st' := [.inr (.inr r_5)]) rfl rfl (Or.inl (by decide)) rfl rfl (o_kdE g0) (md_96 (by omega) (o_kdE g0) q_5) rfl rfl rfl ?_
  refine go_astore_n (pc' := 9) (lo' := [some (.inr (.inr th)), some (.inl a0), some (.inl a1), some (.inr (.inr r_5)), none, none]) rfl rfl rfl ?_
  refine go_aload_n (pc' := 10) rfl rfl rfl ?_
  refine go_ifnull (pt := 21) (pc' := 13) rfl rfl rfl (fun h10 => ?_) (fun h10 => ?_)
  · replace h := o_t h10 h
    refine go_ldc (pc' := 23) (v := .inl (-2147483648 : Int32)) rfl rfl rfl ?_
    cases h
    exact go_iret rfl (trivial) ⟨rfl, rfl, rfl, rfl, rfl⟩
  · replace h := o_f h10 h
    refine go_aload_n (pc' := 14) rfl rfl rfl ?_
    refine go_iload_n (pc' := 15) rfl rfl rfl ?_
    obtain ⟨g1, h⟩ := o_gE h
    obtain ⟨r_15, q_15, h⟩ := o_b1E h
    refine go_callV (pc' := 18) (B' := (0, 0)) (st' := [.inl r_15]) rfl rfl (Or.inl (by decide)) rfl rfl (o_kdE g1) (md_120 (by omega) (o_kdE g1) q_15) rfl rfl rfl ?_
    refine go_if_ne (pt := 24) (pc' := 21) rfl rfl rfl (fun h18 => ?_) (fun h18 => ?_)
    · replace h := o_f h18 h
      refine go_aload_n (pc' := 25) rfl rfl rfl ?_
      refine go_getR (pc' := 28) rfl rfl hth rfl ?_
      refine go_aload_n (pc' := 29) rfl rfl rfl ?_
      refine go_aload_n (pc' := 30) rfl rfl rfl ?_
      refine go_getR (pc' := 33) rfl rfl hth rfl ?_
      refine go_getR (pc' := 36) rfl rfl (o_kdE g0) rfl ?_
      obtain ⟨g2, h⟩ := o_gE h
      obtain ⟨I_36, q_36, h⟩ := o_b1E h
      refine go_callV (pc' := 39) (B' := (0, 0)) (st' := []) rfl rfl (Or.inl (by decide)) rfl rfl (o_kdE g2) (md_104 (by omega) (o_kdE g2) q_36) rfl rfl rfl ?_
      refine go_aload_n (pc' := 40) rfl rfl rfl ?_
      refine go_getR (pc' := 43) rfl rfl hth rfl ?_
      refine go_aload_n (pc' := 44) rfl rfl rfl ?_
      refine go_iload_n (pc' := 45) rfl rfl rfl ?_
      refine go_iconst (pc' := 46) (v := (nI 1)) rfl rfl rfl ?_
      obtain ⟨r_46, q_46, h⟩ := o_b1E h
      refine go_callV (pc' := 49) (B' := (0, 0)) (st' := [.inl r_46]) rfl rfl (Or.inl (by decide)) rfl rfl (o_kdE g2) (md_110 (by omega) (o_kdE g2) q_46) rfl rfl rfl ?_
      refine go_istore (pc' := 51) (lo' := [some (.inr (.inr th)), some (.inl a0), some (.inl a1), some (.inr (.inr r_5)), some (.inl r_46), none]) rfl rfl rfl ?_
      refine go_aload_n (pc' := 52) rfl rfl rfl ?_
      refine go_getR (pc' := 55) rfl rfl hth rfl ?_
      refine go_aload_n (pc' := 56) rfl rfl rfl ?_
      refine go_iload_n (pc' := 57) rfl rfl rfl ?_
      refine go_iconst (pc' := 58) (v := (nI 0)) rfl rfl rfl ?_
      obtain ⟨r_58, q_58, h⟩ := o_b1E h
      refine go_callV (pc' := 61) (B' := (0, 0)) (st' := [.inl r_58]) rfl rfl (Or.inl (by decide)) rfl rfl (o_kdE g2) (md_110 (by omega) (o_kdE g2) q_58) rfl rfl rfl ?_
      refine go_istore (pc' := 63) (lo' := [some (.inr (.inr th)), some (.inl a0), some (.inl a1), some (.inr (.inr r_5)), some (.inl r_46), some (.inl r_58)]) rfl rfl rfl ?_
      refine go_iload (pc' := 65) rfl rfl rfl ?_
      refine go_ldc (pc' := 67) (v := .inl (-2147483648 : Int32)) rfl rfl rfl ?_
      refine go_icmp_eq (pt := 77) (pc' := 70) rfl rfl rfl (fun h67 => ?_) (fun h67 => ?_)
      · replace h := o_t h67 h
        refine go_ldc (pc' := 79) (v := .inl (-2147483648 : Int32)) rfl rfl rfl ?_
        cases h
        exact go_iret rfl (trivial) ⟨rfl, rfl, rfl, rfl, rfl⟩
      · replace h := o_f h67 h
        refine go_iload (pc' := 72) rfl rfl rfl ?_
        refine go_ldc (pc' := 74) (v := .inl (-2147483648 : Int32)) rfl rfl rfl ?_
        refine go_icmp_ne (pt := 80) (pc' := 77) rfl rfl rfl (fun h74 => ?_) (fun h74 => ?_)
        · replace h := o_f h74 h
          refine go_aload_n (pc' := 81) rfl rfl rfl ?_
          refine go_getR (pc' := 84) rfl rfl hth rfl ?_
          refine go_getR (pc' := 87) rfl rfl (o_kdE g0) rfl ?_
          refine go_iload_n (pc' := 88) rfl rfl rfl ?_
          obtain ⟨g3, h⟩ := o_gE h
          refine go_iaload (pc' := 89) rfl (o_inK g3) (o_inB g3) rfl ?_
          refine go_iload (pc' := 91) rfl rfl rfl ?_
          refine go_iadd (pc' := 92) rfl rfl ?_
          refine go_iload (pc' := 94) rfl rfl rfl ?_
          refine go_isub (pc' := 95) rfl rfl ?_
          cases h
          exact go_iret rfl (trivial) ⟨rfl, rfl, rfl, rfl, rfl⟩
        · replace h := o_t (Decidable.of_not_not h74) h
          refine go_ldc (pc' := 79) (v := .inl (-2147483648 : Int32)) rfl rfl rfl ?_
          cases h
          exact go_iret rfl (trivial) ⟨rfl, rfl, rfl, rfl, rfl⟩
    · replace h := o_t (Decidable.of_not_not h18) h
      refine go_ldc (pc' := 23) (v := .inl (-2147483648 : Int32)) rfl rfl rfl ?_
      cases h
      exact go_iret rfl (trivial) ⟨rfl, rfl, rfl, rfl, rfl⟩
/-- PricedBases.stairs(IIII)I -/
def m_166 (th : Nat) (a0 : Int32) (a1 : Int32) (a2 : Int32) (a3 : Int32) (I : ai_I) (Rf : ai_R) (G : ai_G) : Option (Int32 × ai_I) :=
  o_g (o_kd G (Rf th 0) 6) (o_b1 (m_96 (Rf th 0) a0 Rf G) (fun r_5 => if r_5 = 0 then (some ((-2147483648 : Int32), I)) else (o_g (o_kd G r_5 8) (o_b1 (m_122 r_5 a1 I Rf G) (fun r_18 => if r_18 = 0 then (some ((-2147483648 : Int32), I)) else (o_b1 (m_122 r_5 a2 I Rf G) (fun r_27 => if r_27 = 0 then (some ((-2147483648 : Int32), I)) else (if a3 < 0 then (some ((-2147483648 : Int32), I)) else (if a3 ≤ (nI 1) then (if a3 = 0 then (o_g (o_kd G (Rf th 11) 9) (o_b2 (m_127 (Rf th 11) r_5 a1 I Rf G) (fun r_59 I_59 => o_g (o_in G 13 (Rf (Rf th 11) 0) a2) (if 0 ≤ (I_59 (Rf (Rf th 11) 0) a2.toNatClampNeg) then (o_g (o_in G 13 (Rf (Rf th 11) 0) a2) (some (I_59 (Rf (Rf th 11) 0) a2.toNatClampNeg, I_59))) else (some ((-2 : Int32), I_59)))))) else (o_g (o_kd G (Rf th 8) 7) (o_b1 (m_104 (Rf th 8) r_5 (Rf (Rf th 0) 1) I Rf G) (fun I_103 => o_g (o_kd G (Rf th 11) 9) (o_b1 (m_130 (Rf th 11) r_5 a1 (Rf (Rf th 8) 0) I_103 Rf G) (fun I_120 => o_g (o_in G 13 (Rf (Rf th 11) 1) a2) (some (I_120 (Rf (Rf th 11) 1) a2.toNatClampNeg, I_120)))))))) else (some ((-2147483648 : Int32), I)))))))))))
theorem md_166 {d : Nat} {I : ai_I} {J : ai_J} {Rf : ai_R} {G : ai_G} {th : Nat} {a0 : Int32} {a1 : Int32} {a2 : Int32} {a3 : Int32} {r : Int32} {I1 : ai_I} (hd : 5 ≤ d) (hth : G.1 th = 10) (h : m_166 th a0 a1 a2 a3 I Rf G = some (r, I1)) : ai_Cl si_t si_ms d 166 [.inr (.inr th), .inl a0, .inl a1, .inl a2, .inl a3] I J Rf G (some (.inl r)) I1 J Rf G := by
  obtain ⟨e, rfl⟩ : ∃ e, d = e + 1 := ⟨d - 1, by omega⟩
  unfold m_166 at h
  refine sp_in (lo := [some (.inr (.inr th)), some (.inl a0), some (.inl a1), some (.inl a2), some (.inl a3), none]) (B := (0, 0)) rfl (Nat.le_of_ble_eq_true rfl) rfl rfl ?_
  refine go_aload_n (pc' := 1) rfl rfl rfl ?_
  refine go_getR (pc' := 4) rfl rfl hth rfl ?_
  refine go_iload_n (pc' := 5) rfl rfl rfl ?_
  obtain ⟨g0, h⟩ := o_gE h
  obtain ⟨r_5, q_5, h⟩ := o_b1E h
  refine go_callV (pc' := 8) (B' := (0, 0)) (st' := [.inr (.inr r_5)]) rfl rfl (Or.inl (by decide)) rfl rfl (o_kdE g0) (md_96 (by omega) (o_kdE g0) q_5) rfl rfl rfl ?_
  refine go_astore (pc' := 10) (lo' := [some (.inr (.inr th)), some (.inl a0), some (.inl a1), some (.inl a2), some (.inl a3), some (.inr (.inr r_5))]) rfl rfl rfl ?_
  refine go_aload (pc' := 12) rfl rfl rfl ?_
  refine go_ifnull (pt := 44) (pc' := 15) rfl rfl rfl (fun h12 => ?_) (fun h12 => ?_)
  · replace h := o_t h12 h
    refine go_ldc (pc' := 46) (v := .inl (-2147483648 : Int32)) rfl rfl rfl ?_
    cases h
    exact go_iret rfl (trivial) ⟨rfl, rfl, rfl, rfl, rfl⟩
  · replace h := o_f h12 h
    refine go_aload (pc' := 17) rfl rfl rfl ?_
    refine go_iload_n (pc' := 18) rfl rfl rfl ?_
    obtain ⟨g1, h⟩ := o_gE h
    obtain ⟨r_18, q_18, h⟩ := o_b1E h
    refine go_callV (pc' := 21) (B' := (0, 0)) (st' := [.inl r_18]) rfl rfl (Or.inl (by decide)) rfl rfl (o_kdE g1) (md_122 (by omega) (o_kdE g1) q_18) rfl rfl rfl ?_
    refine go_if_eq (pt := 44) (pc' := 24) rfl rfl rfl (fun h21 => ?_) (fun h21 => ?_)
    · replace h := o_t h21 h
      refine go_ldc (pc' := 46) (v := .inl (-2147483648 : Int32)) rfl rfl rfl ?_
      cases h
      exact go_iret rfl (trivial) ⟨rfl, rfl, rfl, rfl, rfl⟩
    · replace h := o_f h21 h
      refine go_aload (pc' := 26) rfl rfl rfl ?_
      refine go_iload_n (pc' := 27) rfl rfl rfl ?_
      obtain ⟨r_27, q_27, h⟩ := o_b1E h
      refine go_callV (pc' := 30) (B' := (0, 0)) (st' := [.inl r_27]) rfl rfl (Or.inl (by decide)) rfl rfl (o_kdE g1) (md_122 (by omega) (o_kdE g1) q_27) rfl rfl rfl ?_
      refine go_if_eq (pt := 44) (pc' := 33) rfl rfl rfl (fun h30 => ?_) (fun h30 => ?_)
      · replace h := o_t h30 h
        refine go_ldc (pc' := 46) (v := .inl (-2147483648 : Int32)) rfl rfl rfl ?_
        cases h
        exact go_iret rfl (trivial) ⟨rfl, rfl, rfl, rfl, rfl⟩
      · replace h := o_f h30 h
        refine go_iload (pc' := 35) rfl rfl rfl ?_
        refine go_if_lt (pt := 44) (pc' := 38) rfl rfl rfl (fun h35 => ?_) (fun h35 => ?_)
        · replace h := o_t h35 h
          refine go_ldc (pc' := 46) (v := .inl (-2147483648 : Int32)) rfl rfl rfl ?_
          cases h
          exact go_iret rfl (trivial) ⟨rfl, rfl, rfl, rfl, rfl⟩
        · replace h := o_f h35 h
          refine go_iload (pc' := 40) rfl rfl rfl ?_
          refine go_iconst (pc' := 41) (v := (nI 1)) rfl rfl rfl ?_
          refine go_icmp_le (pt := 47) (pc' := 44) rfl rfl rfl (fun h41 => ?_) (fun h41 => ?_)
          · replace h := o_t h41 h
            refine go_iload (pc' := 49) rfl rfl rfl ?_
            refine go_if_ne (pt := 90) (pc' := 52) rfl rfl rfl (fun h49 => ?_) (fun h49 => ?_)
            · replace h := o_f h49 h
              refine go_aload_n (pc' := 91) rfl rfl rfl ?_
              refine go_getR (pc' := 94) rfl rfl hth rfl ?_
              refine go_aload (pc' := 96) rfl rfl rfl ?_
              refine go_aload_n (pc' := 97) rfl rfl rfl ?_
              refine go_getR (pc' := 100) rfl rfl hth rfl ?_
              refine go_getR (pc' := 103) rfl rfl (o_kdE g0) rfl ?_
              obtain ⟨g2, h⟩ := o_gE h
              obtain ⟨I_103, q_103, h⟩ := o_b1E h
              refine go_callV (pc' := 106) (B' := (0, 0)) (st' := []) rfl rfl (Or.inl (by decide)) rfl rfl (o_kdE g2) (md_104 (by omega) (o_kdE g2) q_103) rfl rfl rfl ?_
              refine go_aload_n (pc' := 107) rfl rfl rfl ?_
              refine go_getR (pc' := 110) rfl rfl hth rfl ?_
              refine go_aload (pc' := 112) rfl rfl rfl ?_
              refine go_iload_n (pc' := 113) rfl rfl rfl ?_
              refine go_aload_n (pc' := 114) rfl rfl rfl ?_
              refine go_getR (pc' := 117) rfl rfl hth rfl ?_
              refine go_getR (pc' := 120) rfl rfl (o_kdE g2) rfl ?_
              obtain ⟨g3, h⟩ := o_gE h
              obtain ⟨I_120, q_120, h⟩ := o_b1E h
              refine go_callV (pc' := 123) (B' := (0, 0)) (st' := []) rfl rfl (Or.inl (by decide)) rfl rfl (o_kdE g3) (md_130 (by omega) (o_kdE g3) q_120) rfl rfl rfl ?_
              refine go_aload_n (pc' := 124) rfl rfl rfl ?_
              refine go_getR (pc' := 127) rfl rfl hth rfl ?_
              refine go_getR (pc' := 130) rfl rfl (o_kdE g3) rfl ?_
              refine go_iload_n (pc' := 131) rfl rfl rfl ?_
              obtain ⟨g4, h⟩ := o_gE h
              refine go_iaload (pc' := 132) rfl (o_inK g4) (o_inB g4) rfl ?_
              cases h
              exact go_iret rfl (trivial) ⟨rfl, rfl, rfl, rfl, rfl⟩
            · replace h := o_t (Decidable.of_not_not h49) h
              refine go_aload_n (pc' := 53) rfl rfl rfl ?_
              refine go_getR (pc' := 56) rfl rfl hth rfl ?_
              refine go_aload (pc' := 58) rfl rfl rfl ?_
              refine go_iload_n (pc' := 59) rfl rfl rfl ?_
              obtain ⟨g5, h⟩ := o_gE h
              obtain ⟨r_59, I_59, q_59, h⟩ := o_b2E h
              refine go_callV (pc' := 62) (B' := (0, 0)) (st' := [.inl r_59]) rfl rfl (Or.inl (by decide)) rfl rfl (o_kdE g5) (md_127 (by omega) (o_kdE g5) q_59) rfl rfl rfl ?_
              refine go_popI (pc' := 63) rfl rfl ?_
              refine go_aload_n (pc' := 64) rfl rfl rfl ?_
              refine go_getR (pc' := 67) rfl rfl hth rfl ?_
              refine go_getR (pc' := 70) rfl rfl (o_kdE g5) rfl ?_
              refine go_iload_n (pc' := 71) rfl rfl rfl ?_
              obtain ⟨g6, h⟩ := o_gE h
              refine go_iaload (pc' := 72) rfl (o_inK g6) (o_inB g6) rfl ?_
              refine go_if_ge (pt := 80) (pc' := 75) rfl rfl rfl (fun h72 => ?_) (fun h72 => ?_)
              · replace h := o_t h72 h
                refine go_aload_n (pc' := 81) rfl rfl rfl ?_
                refine go_getR (pc' := 84) rfl rfl hth rfl ?_
                refine go_getR (pc' := 87) rfl rfl (o_kdE g5) rfl ?_
                refine go_iload_n (pc' := 88) rfl rfl rfl ?_
                obtain ⟨g7, h⟩ := o_gE h
                refine go_iaload (pc' := 89) rfl (o_inK g7) (o_inB g7) rfl ?_
                cases h
                exact go_iret rfl (trivial) ⟨rfl, rfl, rfl, rfl, rfl⟩
              · replace h := o_f h72 h
                refine go_bipush (pc' := 77) (v := (-2 : Int32)) rfl rfl rfl ?_
                refine go_goto (pc' := 89) rfl rfl ?_
                cases h
                exact go_iret rfl (trivial) ⟨rfl, rfl, rfl, rfl, rfl⟩
          · replace h := o_f h41 h
            refine go_ldc (pc' := 46) (v := .inl (-2147483648 : Int32)) rfl rfl rfl ?_
            cases h
            exact go_iret rfl (trivial) ⟨rfl, rfl, rfl, rfl, rfl⟩
/-- PricedBases.told(II)I -/
def m_167 (th : Nat) (a0 : Int32) (a1 : Int32) (I : ai_I) (Rf : ai_R) (G : ai_G) : Option (Int32 × ai_I) :=
  o_g (o_kd G (Rf th 0) 6) (o_b1 (m_96 (Rf th 0) a0 Rf G) (fun r_5 => if r_5 = 0 then (some ((-1 : Int32), I)) else (if (-1 : Int32) ≤ a1 then (o_g (o_kd G (Rf th 5) 0) (o_b1 (m_19 (Rf th 5) r_5 a0 I Rf G) (fun I_26 => if a1 = (-1 : Int32) then (some (I_26 (Rf th 5) 10, I_26)) else (if (I_26 (Rf th 5) 10) ≤ a1 then (some ((-4 : Int32), I_26)) else (o_g (o_in G 12 (Rf (Rf th 5) 9) a1) (some (I_26 (Rf (Rf th 5) 9) a1.toNatClampNeg, I_26))))))) else (some ((-1 : Int32), I)))))
theorem md_167 {d : Nat} {I : ai_I} {J : ai_J} {Rf : ai_R} {G : ai_G} {th : Nat} {a0 : Int32} {a1 : Int32} {r : Int32} {I1 : ai_I} (hd : 7 ≤ d) (hth : G.1 th = 10) (h : m_167 th a0 a1 I Rf G = some (r, I1)) : ai_Cl si_t si_ms d 167 [.inr (.inr th), .inl a0, .inl a1] I J Rf G (some (.inl r)) I1 J Rf G := by
  obtain ⟨e, rfl⟩ : ∃ e, d = e + 1 := ⟨d - 1, by omega⟩
  unfold m_167 at h
  refine sp_in (lo := [some (.inr (.inr th)), some (.inl a0), some (.inl a1), none]) (B := (0, 0)) rfl (Nat.le_of_ble_eq_true rfl) rfl rfl ?_
  refine go_aload_n (pc' := 1) rfl rfl rfl ?_
  refine go_getR (pc' := 4) rfl rfl hth rfl ?_
  refine go_iload_n (pc' := 5) rfl rfl rfl ?_
  obtain ⟨g0, h⟩ := o_gE h
  obtain ⟨r_5, q_5, h⟩ := o_b1E h
  refine go_callV (pc' := 8) (B' := (0, 0)) (st' := [.inr (.inr r_5)]) rfl rfl (Or.inl (by decide)) rfl rfl (o_kdE g0) (md_96 (by omega) (o_kdE g0) q_5) rfl rfl rfl ?_
  refine go_astore_n (pc' := 9) (lo' := [some (.inr (.inr th)), some (.inl a0), some (.inl a1), some (.inr (.inr r_5))]) rfl rfl rfl ?_
  refine go_aload_n (pc' := 10) rfl rfl rfl ?_
  refine go_ifnull (pt := 18) (pc' := 13) rfl rfl rfl (fun h10 => ?_) (fun h10 => ?_)
  · replace h := o_t h10 h
    refine go_iconst (pc' := 19) (v := (-1 : Int32)) rfl rfl rfl ?_
    cases h
    exact go_iret rfl (trivial) ⟨rfl, rfl, rfl, rfl, rfl⟩
  · replace h := o_f h10 h
    refine go_iload_n (pc' := 14) rfl rfl rfl ?_
    refine go_iconst (pc' := 15) (v := (-1 : Int32)) rfl rfl rfl ?_
    refine go_icmp_ge (pt := 20) (pc' := 18) rfl rfl rfl (fun h15 => ?_) (fun h15 => ?_)
    · replace h := o_t h15 h
      refine go_aload_n (pc' := 21) rfl rfl rfl ?_
      refine go_getR (pc' := 24) rfl rfl hth rfl ?_
      refine go_aload_n (pc' := 25) rfl rfl rfl ?_
      refine go_iload_n (pc' := 26) rfl rfl rfl ?_
      obtain ⟨g1, h⟩ := o_gE h
      obtain ⟨I_26, q_26, h⟩ := o_b1E h
      refine go_callV (pc' := 29) (B' := (0, 0)) (st' := []) rfl rfl (Or.inl (by decide)) rfl rfl (o_kdE g1) (md_19 (by omega) (o_kdE g1) q_26) rfl rfl rfl ?_
      refine go_iload_n (pc' := 30) rfl rfl rfl ?_
      refine go_iconst (pc' := 31) (v := (-1 : Int32)) rfl rfl rfl ?_
      refine go_icmp_ne (pt := 42) (pc' := 34) rfl rfl rfl (fun h31 => ?_) (fun h31 => ?_)
      · replace h := o_f h31 h
        refine go_iload_n (pc' := 43) rfl rfl rfl ?_
        refine go_aload_n (pc' := 44) rfl rfl rfl ?_
        refine go_getR (pc' := 47) rfl rfl hth rfl ?_
        refine go_getI (pc' := 50) rfl rfl (by decide) (by decide) (o_kdE g1) rfl ?_
        refine go_icmp_ge (pt := 65) (pc' := 53) rfl rfl rfl (fun h50 => ?_) (fun h50 => ?_)
        · replace h := o_t h50 h
          refine go_bipush (pc' := 67) (v := (-4 : Int32)) rfl rfl rfl ?_
          cases h
          exact go_iret rfl (trivial) ⟨rfl, rfl, rfl, rfl, rfl⟩
        · replace h := o_f h50 h
          refine go_aload_n (pc' := 54) rfl rfl rfl ?_
          refine go_getR (pc' := 57) rfl rfl hth rfl ?_
          refine go_getR (pc' := 60) rfl rfl (o_kdE g1) rfl ?_
          refine go_iload_n (pc' := 61) rfl rfl rfl ?_
          obtain ⟨g2, h⟩ := o_gE h
          refine go_baload (pc' := 62) rfl (o_inK g2) (o_inB g2) rfl ?_
          refine go_goto (pc' := 67) rfl rfl ?_
          cases h
          exact go_iret rfl (trivial) ⟨rfl, rfl, rfl, rfl, rfl⟩
      · replace h := o_t (Decidable.of_not_not h31) h
        refine go_aload_n (pc' := 35) rfl rfl rfl ?_
        refine go_getR (pc' := 38) rfl rfl hth rfl ?_
        refine go_getI (pc' := 41) rfl rfl (by decide) (by decide) (o_kdE g1) rfl ?_
        cases h
        exact go_iret rfl (trivial) ⟨rfl, rfl, rfl, rfl, rfl⟩
    · replace h := o_f h15 h
      refine go_iconst (pc' := 19) (v := (-1 : Int32)) rfl rfl rfl ?_
      cases h
      exact go_iret rfl (trivial) ⟨rfl, rfl, rfl, rfl, rfl⟩
/-- PricedBases.onto(III)I -/
def m_168 (th : Nat) (a0 : Int32) (a1 : Int32) (a2 : Int32) (I : ai_I) (J : ai_J) (Rf : ai_R) (G : ai_G) : Option (Int32 × ai_I × ai_J) :=
  o_g (o_kd G (Rf th 0) 6) (o_b1 (m_96 (Rf th 0) a0 Rf G) (fun r_5 => o_b1 (m_96 (Rf th 0) a1 Rf G) (fun r_15 => o_b1 (m_186 r_5 r_15 I G) (fun r_24 => if r_24 = 0 then (some ((-1 : Int32), I, J)) else (if a2 < 0 then (some ((-1 : Int32), I, J)) else (o_g (o_kd G r_5 8) (if a2 ≤ (I r_5 0) then (o_g (o_kd G (Rf th 12) 4) (o_b3 (m_59 (Rf th 12) r_5 r_15 I J Rf G) (fun r_53 I_53 J_53 => if a2 = 0 then (if r_53 = 0 then (some ((nI 0), I_53, J_53)) else (o_b2 (m_61 (Rf th 12) r_5 r_15 I_53 J_53 Rf G) (fun r_75 I_75 => some (r_75, I_75, J_53)))) else (if r_53 = 0 then (some ((-2 : Int32), I_53, J_53)) else (o_g (o_in G 13 (Rf (Rf th 12) 0) (a2 - (nI 1))) (some (I_53 (Rf (Rf th 12) 0) (a2 - (nI 1)).toNatClampNeg, I_53, J_53))))))) else (some ((-1 : Int32), I, J)))))))))
theorem md_168 {d : Nat} {I : ai_I} {J : ai_J} {Rf : ai_R} {G : ai_G} {th : Nat} {a0 : Int32} {a1 : Int32} {a2 : Int32} {r : Int32} {I1 : ai_I} {J1 : ai_J} (hd : 5 ≤ d) (hth : G.1 th = 10) (h : m_168 th a0 a1 a2 I J Rf G = some (r, I1, J1)) : ai_Cl si_t si_ms d 168 [.inr (.inr th), .inl a0, .inl a1, .inl a2] I J Rf G (some (.inl r)) I1 J1 Rf G := by
  obtain ⟨e, rfl⟩ : ∃ e, d = e + 1 := ⟨d - 1, by omega⟩
  unfold m_168 at h
  refine sp_in (lo := [some (.inr (.inr th)), some (.inl a0), some (.inl a1), some (.inl a2), none, none, none]) (B := (0, 0)) rfl (Nat.le_of_ble_eq_true rfl) rfl rfl ?_
  refine go_aload_n (pc' := 1) rfl rfl rfl ?_
  refine go_getR (pc' := 4) rfl rfl hth rfl ?_
  refine go_iload_n (pc' := 5) rfl rfl rfl ?_
  obtain ⟨g0, h⟩ := o_gE h
  obtain ⟨r_5, q_5, h⟩ := o_b1E h
  refine go_callV (pc' := 8) (B' := (0, 0)) (st' := [.inr (.inr r_5)]) rfl rfl (Or.inl (by decide)) rfl rfl (o_kdE g0) (md_96 (by omega) (o_kdE g0) q_5) rfl rfl rfl ?_
  refine go_astore (pc' := 10) (lo' := [some (.inr (.inr th)), some (.inl a0), some (.inl a1), some (.inl a2), some (.inr (.inr r_5)), none, none]) rfl rfl rfl ?_
  refine go_aload_n (pc' := 11) rfl rfl rfl ?_
  refine go_getR (pc' := 14) rfl rfl hth rfl ?_
  refine go_iload_n (pc' := 15) rfl rfl rfl ?_
  obtain ⟨r_15, q_15, h⟩ := o_b1E h
  refine go_callV (pc' := 18) (B' := (0, 0)) (st' := [.inr (.inr r_15)]) rfl rfl (Or.inl (by decide)) rfl rfl (o_kdE g0) (md_96 (by omega) (o_kdE g0) q_15) rfl rfl rfl ?_
  refine go_astore (pc' := 20) (lo' := [some (.inr (.inr th)), some (.inl a0), some (.inl a1), some (.inl a2), some (.inr (.inr r_5)), some (.inr (.inr r_15)), none]) rfl rfl rfl ?_
  refine go_aload (pc' := 22) rfl rfl rfl ?_
  refine go_aload (pc' := 24) rfl rfl rfl ?_
  obtain ⟨r_24, q_24, h⟩ := o_b1E h
  refine go_callS (pc' := 27) (B' := (0, 0)) (st' := [.inl r_24]) rfl rfl (Or.inl (by decide)) rfl rfl trivial (md_186 (by omega) q_24) rfl rfl rfl ?_
  refine go_if_eq (pt := 43) (pc' := 30) rfl rfl rfl (fun h27 => ?_) (fun h27 => ?_)
  · replace h := o_t h27 h
    refine go_iconst (pc' := 44) (v := (-1 : Int32)) rfl rfl rfl ?_
    cases h
    exact go_iret rfl (trivial) ⟨rfl, rfl, rfl, rfl, rfl⟩
  · replace h := o_f h27 h
    refine go_iload_n (pc' := 31) rfl rfl rfl ?_
    refine go_if_lt (pt := 43) (pc' := 34) rfl rfl rfl (fun h31 => ?_) (fun h31 => ?_)
    · replace h := o_t h31 h
      refine go_iconst (pc' := 44) (v := (-1 : Int32)) rfl rfl rfl ?_
      cases h
      exact go_iret rfl (trivial) ⟨rfl, rfl, rfl, rfl, rfl⟩
    · replace h := o_f h31 h
      refine go_iload_n (pc' := 35) rfl rfl rfl ?_
      refine go_aload (pc' := 37) rfl rfl rfl ?_
      obtain ⟨g1, h⟩ := o_gE h
      refine go_getI (pc' := 40) rfl rfl (by decide) (by decide) (o_kdE g1) rfl ?_
      refine go_icmp_le (pt := 45) (pc' := 43) rfl rfl rfl (fun h40 => ?_) (fun h40 => ?_)
      · replace h := o_t h40 h
        refine go_aload_n (pc' := 46) rfl rfl rfl ?_
        refine go_getR (pc' := 49) rfl rfl hth rfl ?_
        refine go_aload (pc' := 51) rfl rfl rfl ?_
        refine go_aload (pc' := 53) rfl rfl rfl ?_
        obtain ⟨g2, h⟩ := o_gE h
        obtain ⟨r_53, I_53, J_53, q_53, h⟩ := o_b3E h
        refine go_callV (pc' := 56) (B' := (0, 0)) (st' := [.inl r_53]) rfl rfl (Or.inl (by decide)) rfl rfl (o_kdE g2) (md_59 (by omega) (o_kdE g2) q_53) rfl rfl rfl ?_
        refine go_istore (pc' := 58) (lo' := [some (.inr (.inr th)), some (.inl a0), some (.inl a1), some (.inl a2), some (.inr (.inr r_5)), some (.inr (.inr r_15)), some (.inl r_53)]) rfl rfl rfl ?_
        refine go_iload_n (pc' := 59) rfl rfl rfl ?_
        refine go_if_ne (pt := 83) (pc' := 62) rfl rfl rfl (fun h59 => ?_) (fun h59 => ?_)
        · replace h := o_f h59 h
          refine go_iload (pc' := 85) rfl rfl rfl ?_
          refine go_if_eq (pt := 102) (pc' := 88) rfl rfl rfl (fun h85 => ?_) (fun h85 => ?_)
          · replace h := o_t h85 h
            refine go_bipush (pc' := 104) (v := (-2 : Int32)) rfl rfl rfl ?_
            cases h
            exact go_iret rfl (trivial) ⟨rfl, rfl, rfl, rfl, rfl⟩
          · replace h := o_f h85 h
            refine go_aload_n (pc' := 89) rfl rfl rfl ?_
            refine go_getR (pc' := 92) rfl rfl hth rfl ?_
            refine go_getR (pc' := 95) rfl rfl (o_kdE g2) rfl ?_
            refine go_iload_n (pc' := 96) rfl rfl rfl ?_
            refine go_iconst (pc' := 97) (v := (nI 1)) rfl rfl rfl ?_
            refine go_isub (pc' := 98) rfl rfl ?_
            obtain ⟨g3, h⟩ := o_gE h
            refine go_iaload (pc' := 99) rfl (o_inK g3) (o_inB g3) rfl ?_
            refine go_goto (pc' := 104) rfl rfl ?_
            cases h
            exact go_iret rfl (trivial) ⟨rfl, rfl, rfl, rfl, rfl⟩
        · replace h := o_t (Decidable.of_not_not h59) h
          refine go_iload (pc' := 64) rfl rfl rfl ?_
          refine go_if_eq (pt := 81) (pc' := 67) rfl rfl rfl (fun h64 => ?_) (fun h64 => ?_)
          · replace h := o_t h64 h
            refine go_iconst (pc' := 82) (v := (nI 0)) rfl rfl rfl ?_
            cases h
            exact go_iret rfl (trivial) ⟨rfl, rfl, rfl, rfl, rfl⟩
          · replace h := o_f h64 h
            refine go_aload_n (pc' := 68) rfl rfl rfl ?_
            refine go_getR (pc' := 71) rfl rfl hth rfl ?_
            refine go_aload (pc' := 73) rfl rfl rfl ?_
            refine go_aload (pc' := 75) rfl rfl rfl ?_
            obtain ⟨r_75, I_75, q_75, h⟩ := o_b2E h
            refine go_callV (pc' := 78) (B' := (0, 0)) (st' := [.inl r_75]) rfl rfl (Or.inl (by decide)) rfl rfl (o_kdE g2) (md_61 (by omega) (o_kdE g2) q_75) rfl rfl rfl ?_
            refine go_goto (pc' := 82) rfl rfl ?_
            cases h
            exact go_iret rfl (trivial) ⟨rfl, rfl, rfl, rfl, rfl⟩
      · replace h := o_f h40 h
        refine go_iconst (pc' := 44) (v := (-1 : Int32)) rfl rfl rfl ?_
        cases h
        exact go_iret rfl (trivial) ⟨rfl, rfl, rfl, rfl, rfl⟩
/-- PricedBases.binary(I)I -/
def m_169 (th : Nat) (a0 : Int32) (I : ai_I) (Rf : ai_R) (G : ai_G) : Option (Int32) :=
  o_g (o_kd G (Rf th 0) 6) (o_b1 (m_96 (Rf th 0) a0 Rf G) (fun r_5 => if r_5 = 0 then (some (-1 : Int32)) else (o_b1 (m_84 r_5 I Rf G) (fun r_18 => o_b1 (m_182 r_18) (fun r_21 => some r_21)))))
theorem md_169 {d : Nat} {I : ai_I} {J : ai_J} {Rf : ai_R} {G : ai_G} {th : Nat} {a0 : Int32} {r : Int32} (hd : 4 ≤ d) (hth : G.1 th = 10) (h : m_169 th a0 I Rf G = some r) : ai_Cl si_t si_ms d 169 [.inr (.inr th), .inl a0] I J Rf G (some (.inl r)) I J Rf G := by
  obtain ⟨e, rfl⟩ : ∃ e, d = e + 1 := ⟨d - 1, by omega⟩
  unfold m_169 at h
  refine sp_in (lo := [some (.inr (.inr th)), some (.inl a0), none]) (B := (0, 0)) rfl (Nat.le_of_ble_eq_true rfl) rfl rfl ?_
  refine go_aload_n (pc' := 1) rfl rfl rfl ?_
  refine go_getR (pc' := 4) rfl rfl hth rfl ?_
  refine go_iload_n (pc' := 5) rfl rfl rfl ?_
  obtain ⟨g0, h⟩ := o_gE h
  obtain ⟨r_5, q_5, h⟩ := o_b1E h
  refine go_callV (pc' := 8) (B' := (0, 0)) (st' := [.inr (.inr r_5)]) rfl rfl (Or.inl (by decide)) rfl rfl (o_kdE g0) (md_96 (by omega) (o_kdE g0) q_5) rfl rfl rfl ?_
  refine go_astore_n (pc' := 9) (lo' := [some (.inr (.inr th)), some (.inl a0), some (.inr (.inr r_5))]) rfl rfl rfl ?_
  refine go_aload_n (pc' := 10) rfl rfl rfl ?_
  refine go_ifnonnull (pt := 17) (pc' := 13) rfl rfl rfl (fun h10 => ?_) (fun h10 => ?_)
  · replace h := o_f h10 h
    refine go_aload_n (pc' := 18) rfl rfl rfl ?_
    obtain ⟨r_18, q_18, h⟩ := o_b1E h
    refine go_callS (pc' := 21) (B' := (0, 0)) (st' := [.inl r_18]) rfl rfl (Or.inl (by decide)) rfl rfl trivial (md_84 (by omega) q_18) rfl rfl rfl ?_
    obtain ⟨r_21, q_21, h⟩ := o_b1E h
    refine go_callS (pc' := 24) (B' := (0, 0)) (st' := [.inl r_21]) rfl rfl (Or.inl (by decide)) rfl rfl trivial (md_182 (by omega) q_21) rfl rfl rfl ?_
    cases h
    exact go_iret rfl (trivial) ⟨rfl, rfl, rfl, rfl, rfl⟩
  · replace h := o_t (h10) h
    refine go_iconst (pc' := 14) (v := (-1 : Int32)) rfl rfl rfl ?_
    refine go_goto (pc' := 24) rfl rfl ?_
    cases h
    exact go_iret rfl (trivial) ⟨rfl, rfl, rfl, rfl, rfl⟩
/-- PricedBases.shared(IIII)I -/
def m_170 (th : Nat) (a0 : Int32) (a1 : Int32) (a2 : Int32) (a3 : Int32) (I : ai_I) (Rf : ai_R) (G : ai_G) : Option (Int32 × ai_I) :=
  o_g (o_kd G (Rf th 0) 6) (o_b1 (m_96 (Rf th 0) a0 Rf G) (fun r_5 => o_b1 (m_96 (Rf th 0) a1 Rf G) (fun r_15 => o_b1 (m_185 r_5 r_15 I G) (fun r_24 => if r_24 = 0 then (some ((-2147483648 : Int32), I)) else (if a2 < 0 then (some ((-2147483648 : Int32), I)) else (o_g (o_kd G r_5 8) (if a2 ≤ (I r_5 0) then (o_g (o_kd G (Rf th 10) 1) (o_b1 (m_24 (Rf th 10) r_5 r_15 a2 (Rf (Rf th 0) 1) I Rf G) (fun I_62 => if a3 = (0 : Int32) then (some (I_62 (Rf th 10) 0, I_62)) else (if a3 = (1 : Int32) then (if (I_62 (Rf th 10) 0) = 0 then (some ((-2147483648 : Int32), I_62)) else (some (I_62 (Rf th 10) 2, I_62))) else (if a3 = (2 : Int32) then (if (I_62 (Rf th 10) 0) = 0 then (some ((-2 : Int32), I_62)) else (some (I_62 (Rf th 10) 1, I_62))) else (some ((-2147483648 : Int32), I_62))))))) else (some ((-2147483648 : Int32), I)))))))))
theorem md_170 {d : Nat} {I : ai_I} {J : ai_J} {Rf : ai_R} {G : ai_G} {th : Nat} {a0 : Int32} {a1 : Int32} {a2 : Int32} {a3 : Int32} {r : Int32} {I1 : ai_I} (hd : 4 ≤ d) (hth : G.1 th = 10) (h : m_170 th a0 a1 a2 a3 I Rf G = some (r, I1)) : ai_Cl si_t si_ms d 170 [.inr (.inr th), .inl a0, .inl a1, .inl a2, .inl a3] I J Rf G (some (.inl r)) I1 J Rf G := by
  obtain ⟨e, rfl⟩ : ∃ e, d = e + 1 := ⟨d - 1, by omega⟩
  unfold m_170 at h
  refine sp_in (lo := [some (.inr (.inr th)), some (.inl a0), some (.inl a1), some (.inl a2), some (.inl a3), none, none]) (B := (0, 0)) rfl (Nat.le_of_ble_eq_true rfl) rfl rfl ?_
  refine go_aload_n (pc' := 1) rfl rfl rfl ?_
  refine go_getR (pc' := 4) rfl rfl hth rfl ?_
  refine go_iload_n (pc' := 5) rfl rfl rfl ?_
  obtain ⟨g0, h⟩ := o_gE h
  obtain ⟨r_5, q_5, h⟩ := o_b1E h
  refine go_callV (pc' := 8) (B' := (0, 0)) (st' := [.inr (.inr r_5)]) rfl rfl (Or.inl (by decide)) rfl rfl (o_kdE g0) (md_96 (by omega) (o_kdE g0) q_5) rfl rfl rfl ?_
  refine go_astore (pc' := 10) (lo' := [some (.inr (.inr th)), some (.inl a0), some (.inl a1), some (.inl a2), some (.inl a3), some (.inr (.inr r_5)), none]) rfl rfl rfl ?_
  refine go_aload_n (pc' := 11) rfl rfl rfl ?_
  refine go_getR (pc' := 14) rfl rfl hth rfl ?_
  refine go_iload_n (pc' := 15) rfl rfl rfl ?_
  obtain ⟨r_15, q_15, h⟩ := o_b1E h
  refine go_callV (pc' := 18) (B' := (0, 0)) (st' := [.inr (.inr r_15)]) rfl rfl (Or.inl (by decide)) rfl rfl (o_kdE g0) (md_96 (by omega) (o_kdE g0) q_15) rfl rfl rfl ?_
  refine go_astore (pc' := 20) (lo' := [some (.inr (.inr th)), some (.inl a0), some (.inl a1), some (.inl a2), some (.inl a3), some (.inr (.inr r_5)), some (.inr (.inr r_15))]) rfl rfl rfl ?_
  refine go_aload (pc' := 22) rfl rfl rfl ?_
  refine go_aload (pc' := 24) rfl rfl rfl ?_
  obtain ⟨r_24, q_24, h⟩ := o_b1E h
  refine go_callS (pc' := 27) (B' := (0, 0)) (st' := [.inl r_24]) rfl rfl (Or.inl (by decide)) rfl rfl trivial (md_185 (by omega) q_24) rfl rfl rfl ?_
  refine go_if_eq (pt := 43) (pc' := 30) rfl rfl rfl (fun h27 => ?_) (fun h27 => ?_)
  · replace h := o_t h27 h
    refine go_ldc (pc' := 45) (v := .inl (-2147483648 : Int32)) rfl rfl rfl ?_
    cases h
    exact go_iret rfl (trivial) ⟨rfl, rfl, rfl, rfl, rfl⟩
  · replace h := o_f h27 h
    refine go_iload_n (pc' := 31) rfl rfl rfl ?_
    refine go_if_lt (pt := 43) (pc' := 34) rfl rfl rfl (fun h31 => ?_) (fun h31 => ?_)
    · replace h := o_t h31 h
      refine go_ldc (pc' := 45) (v := .inl (-2147483648 : Int32)) rfl rfl rfl ?_
      cases h
      exact go_iret rfl (trivial) ⟨rfl, rfl, rfl, rfl, rfl⟩
    · replace h := o_f h31 h
      refine go_iload_n (pc' := 35) rfl rfl rfl ?_
      refine go_aload (pc' := 37) rfl rfl rfl ?_
      obtain ⟨g1, h⟩ := o_gE h
      refine go_getI (pc' := 40) rfl rfl (by decide) (by decide) (o_kdE g1) rfl ?_
      refine go_icmp_le (pt := 46) (pc' := 43) rfl rfl rfl (fun h40 => ?_) (fun h40 => ?_)
      · replace h := o_t h40 h
        refine go_aload_n (pc' := 47) rfl rfl rfl ?_
        refine go_getR (pc' := 50) rfl rfl hth rfl ?_
        refine go_aload (pc' := 52) rfl rfl rfl ?_
        refine go_aload (pc' := 54) rfl rfl rfl ?_
        refine go_iload_n (pc' := 55) rfl rfl rfl ?_
        refine go_aload_n (pc' := 56) rfl rfl rfl ?_
        refine go_getR (pc' := 59) rfl rfl hth rfl ?_
        refine go_getR (pc' := 62) rfl rfl (o_kdE g0) rfl ?_
        obtain ⟨g2, h⟩ := o_gE h
        obtain ⟨I_62, q_62, h⟩ := o_b1E h
        refine go_callV (pc' := 65) (B' := (0, 0)) (st' := []) rfl rfl (Or.inl (by decide)) rfl rfl (o_kdE g2) (md_24 (by omega) (o_kdE g2) q_62) rfl rfl rfl ?_
        refine go_iload (pc' := 67) rfl rfl rfl ?_
        by_cases c67_0 : a3 = (0 : Int32)
        · replace h := o_t c67_0 h
          refine go_swIn (pc' := 92) 0 rfl rfl (by rw [c67_0]; decide) (by rw [c67_0]; decide) rfl ?_
          refine go_aload_n (pc' := 93) rfl rfl rfl ?_
          refine go_getR (pc' := 96) rfl rfl hth rfl ?_
          refine go_getI (pc' := 99) rfl rfl (by decide) (by decide) (o_kdE g2) rfl ?_
          cases h
          exact go_iret rfl (trivial) ⟨rfl, rfl, rfl, rfl, rfl⟩
        replace h := o_f c67_0 h
        by_cases c67_1 : a3 = (1 : Int32)
        · replace h := o_t c67_1 h
          refine go_swIn (pc' := 100) 1 rfl rfl (by rw [c67_1]; decide) (by rw [c67_1]; decide) rfl ?_
          refine go_aload_n (pc' := 101) rfl rfl rfl ?_
          refine go_getR (pc' := 104) rfl rfl hth rfl ?_
          refine go_getI (pc' := 107) rfl rfl (by decide) (by decide) (o_kdE g2) rfl ?_
          refine go_if_ne (pt := 115) (pc' := 110) rfl rfl rfl (fun h107 => ?_) (fun h107 => ?_)
          · replace h := o_f h107 h
            refine go_aload_n (pc' := 116) rfl rfl rfl ?_
            refine go_getR (pc' := 119) rfl rfl hth rfl ?_
            refine go_getI (pc' := 122) rfl rfl (by decide) (by decide) (o_kdE g2) rfl ?_
            cases h
            exact go_iret rfl (trivial) ⟨rfl, rfl, rfl, rfl, rfl⟩
          · replace h := o_t (Decidable.of_not_not h107) h
            refine go_ldc (pc' := 112) (v := .inl (-2147483648 : Int32)) rfl rfl rfl ?_
            refine go_goto (pc' := 122) rfl rfl ?_
            cases h
            exact go_iret rfl (trivial) ⟨rfl, rfl, rfl, rfl, rfl⟩
        replace h := o_f c67_1 h
        by_cases c67_2 : a3 = (2 : Int32)
        · replace h := o_t c67_2 h
          refine go_swIn (pc' := 123) 2 rfl rfl (by rw [c67_2]; decide) (by rw [c67_2]; decide) rfl ?_
          refine go_aload_n (pc' := 124) rfl rfl rfl ?_
          refine go_getR (pc' := 127) rfl rfl hth rfl ?_
          refine go_getI (pc' := 130) rfl rfl (by decide) (by decide) (o_kdE g2) rfl ?_
          refine go_if_ne (pt := 138) (pc' := 133) rfl rfl rfl (fun h130 => ?_) (fun h130 => ?_)
          · replace h := o_f h130 h
            refine go_aload_n (pc' := 139) rfl rfl rfl ?_
            refine go_getR (pc' := 142) rfl rfl hth rfl ?_
            refine go_getI (pc' := 145) rfl rfl (by decide) (by decide) (o_kdE g2) rfl ?_
            cases h
            exact go_iret rfl (trivial) ⟨rfl, rfl, rfl, rfl, rfl⟩
          · replace h := o_t (Decidable.of_not_not h130) h
            refine go_bipush (pc' := 135) (v := (-2 : Int32)) rfl rfl rfl ?_
            refine go_goto (pc' := 145) rfl rfl ?_
            cases h
            exact go_iret rfl (trivial) ⟨rfl, rfl, rfl, rfl, rfl⟩
        replace h := o_f c67_2 h
        refine go_swOut (pc' := 146) rfl (by
            rw [← Int32.toInt_inj] at c67_0
            rw [← Int32.toInt_inj] at c67_1
            rw [← Int32.toInt_inj] at c67_2
            have c67_0 : ¬ a3.toInt = 0 := c67_0
            have c67_1 : ¬ a3.toInt = 1 := c67_1
            have c67_2 : ¬ a3.toInt = 2 := c67_2
            show a3.toInt < 0 ∨ 0 + ((3 : Nat) : Int) ≤ a3.toInt
            omega) rfl ?_
        refine go_ldc (pc' := 148) (v := .inl (-2147483648 : Int32)) rfl rfl rfl ?_
        cases h
        exact go_iret rfl (trivial) ⟨rfl, rfl, rfl, rfl, rfl⟩
      · replace h := o_f h40 h
        refine go_ldc (pc' := 45) (v := .inl (-2147483648 : Int32)) rfl rfl rfl ?_
        cases h
        exact go_iret rfl (trivial) ⟨rfl, rfl, rfl, rfl, rfl⟩
/-- PricedBases.game(II)I -/
def m_171 (th : Nat) (a0 : Int32) (a1 : Int32) (I : ai_I) (Rf : ai_R) (G : ai_G) : Option (Int32 × ai_I) :=
  o_g (o_kd G (Rf th 0) 6) (o_b1 (m_96 (Rf th 0) a0 Rf G) (fun r_5 => if r_5 = 0 then (some ((-1 : Int32), I)) else (o_g (o_kd G r_5 8) (o_b1 (m_121 r_5 a1 I) (fun r_15 => if r_15 = 0 then (some ((-1 : Int32), I)) else (o_b1 (m_123 r_5 a1 I Rf G) (fun r_23 => if r_23 = 0 then (some ((-1 : Int32), I)) else (o_b1 (m_86 r_5 (Rf th 13) I Rf G) (fun I_36 => o_g (o_in G 13 (Rf th 13) a1) (some (I_36 (Rf th 13) a1.toNatClampNeg, I_36)))))))))))
theorem md_171 {d : Nat} {I : ai_I} {J : ai_J} {Rf : ai_R} {G : ai_G} {th : Nat} {a0 : Int32} {a1 : Int32} {r : Int32} {I1 : ai_I} (hd : 4 ≤ d) (hth : G.1 th = 10) (h : m_171 th a0 a1 I Rf G = some (r, I1)) : ai_Cl si_t si_ms d 171 [.inr (.inr th), .inl a0, .inl a1] I J Rf G (some (.inl r)) I1 J Rf G := by
  obtain ⟨e, rfl⟩ : ∃ e, d = e + 1 := ⟨d - 1, by omega⟩
  unfold m_171 at h
  refine sp_in (lo := [some (.inr (.inr th)), some (.inl a0), some (.inl a1), none]) (B := (0, 0)) rfl (Nat.le_of_ble_eq_true rfl) rfl rfl ?_
  refine go_aload_n (pc' := 1) rfl rfl rfl ?_
  refine go_getR (pc' := 4) rfl rfl hth rfl ?_
  refine go_iload_n (pc' := 5) rfl rfl rfl ?_
  obtain ⟨g0, h⟩ := o_gE h
  obtain ⟨r_5, q_5, h⟩ := o_b1E h
  refine go_callV (pc' := 8) (B' := (0, 0)) (st' := [.inr (.inr r_5)]) rfl rfl (Or.inl (by decide)) rfl rfl (o_kdE g0) (md_96 (by omega) (o_kdE g0) q_5) rfl rfl rfl ?_
  refine go_astore_n (pc' := 9) (lo' := [some (.inr (.inr th)), some (.inl a0), some (.inl a1), some (.inr (.inr r_5))]) rfl rfl rfl ?_
  refine go_aload_n (pc' := 10) rfl rfl rfl ?_
  refine go_ifnull (pt := 29) (pc' := 13) rfl rfl rfl (fun h10 => ?_) (fun h10 => ?_)
  · replace h := o_t h10 h
    refine go_iconst (pc' := 30) (v := (-1 : Int32)) rfl rfl rfl ?_
    cases h
    exact go_iret rfl (trivial) ⟨rfl, rfl, rfl, rfl, rfl⟩
  · replace h := o_f h10 h
    refine go_aload_n (pc' := 14) rfl rfl rfl ?_
    refine go_iload_n (pc' := 15) rfl rfl rfl ?_
    obtain ⟨g1, h⟩ := o_gE h
    obtain ⟨r_15, q_15, h⟩ := o_b1E h
    refine go_callV (pc' := 18) (B' := (0, 0)) (st' := [.inl r_15]) rfl rfl (Or.inl (by decide)) rfl rfl (o_kdE g1) (md_121 (by omega) (o_kdE g1) q_15) rfl rfl rfl ?_
    refine go_if_eq (pt := 29) (pc' := 21) rfl rfl rfl (fun h18 => ?_) (fun h18 => ?_)
    · replace h := o_t h18 h
      refine go_iconst (pc' := 30) (v := (-1 : Int32)) rfl rfl rfl ?_
      cases h
      exact go_iret rfl (trivial) ⟨rfl, rfl, rfl, rfl, rfl⟩
    · replace h := o_f h18 h
      refine go_aload_n (pc' := 22) rfl rfl rfl ?_
      refine go_iload_n (pc' := 23) rfl rfl rfl ?_
      obtain ⟨r_23, q_23, h⟩ := o_b1E h
      refine go_callV (pc' := 26) (B' := (0, 0)) (st' := [.inl r_23]) rfl rfl (Or.inl (by decide)) rfl rfl (o_kdE g1) (md_123 (by omega) (o_kdE g1) q_23) rfl rfl rfl ?_
      refine go_if_ne (pt := 31) (pc' := 29) rfl rfl rfl (fun h26 => ?_) (fun h26 => ?_)
      · replace h := o_f h26 h
        refine go_aload_n (pc' := 32) rfl rfl rfl ?_
        refine go_aload_n (pc' := 33) rfl rfl rfl ?_
        refine go_getR (pc' := 36) rfl rfl hth rfl ?_
        obtain ⟨I_36, q_36, h⟩ := o_b1E h
        refine go_callS (pc' := 39) (B' := (0, 0)) (st' := []) rfl rfl (Or.inl (by decide)) rfl rfl trivial (md_86 (by omega) q_36) rfl rfl rfl ?_
        refine go_aload_n (pc' := 40) rfl rfl rfl ?_
        refine go_getR (pc' := 43) rfl rfl hth rfl ?_
        refine go_iload_n (pc' := 44) rfl rfl rfl ?_
        obtain ⟨g2, h⟩ := o_gE h
        refine go_iaload (pc' := 45) rfl (o_inK g2) (o_inB g2) rfl ?_
        cases h
        exact go_iret rfl (trivial) ⟨rfl, rfl, rfl, rfl, rfl⟩
      · replace h := o_t (Decidable.of_not_not h26) h
        refine go_iconst (pc' := 30) (v := (-1 : Int32)) rfl rfl rfl ?_
        cases h
        exact go_iret rfl (trivial) ⟨rfl, rfl, rfl, rfl, rfl⟩
/-- PricedBases.far(II)I -/
def m_172 (th : Nat) (a0 : Int32) (a1 : Int32) (I : ai_I) (Rf : ai_R) (G : ai_G) : Option (Int32) :=
  o_g (o_kd G (Rf th 0) 6) (o_b1 (m_96 (Rf th 0) a0 Rf G) (fun r_5 => o_b1 (m_96 (Rf th 0) a1 Rf G) (fun r_14 => o_b1 (m_186 r_5 r_14 I G) (fun r_22 => if r_22 = 0 then (some (-1 : Int32)) else (o_b1 (m_30 r_5 r_14 I Rf G) (fun r_31 => some r_31))))))
theorem md_172 {d : Nat} {I : ai_I} {J : ai_J} {Rf : ai_R} {G : ai_G} {th : Nat} {a0 : Int32} {a1 : Int32} {r : Int32} (hd : 4 ≤ d) (hth : G.1 th = 10) (h : m_172 th a0 a1 I Rf G = some r) : ai_Cl si_t si_ms d 172 [.inr (.inr th), .inl a0, .inl a1] I J Rf G (some (.inl r)) I J Rf G := by
  obtain ⟨e, rfl⟩ : ∃ e, d = e + 1 := ⟨d - 1, by omega⟩
  unfold m_172 at h
  refine sp_in (lo := [some (.inr (.inr th)), some (.inl a0), some (.inl a1), none, none]) (B := (0, 0)) rfl (Nat.le_of_ble_eq_true rfl) rfl rfl ?_
  refine go_aload_n (pc' := 1) rfl rfl rfl ?_
  refine go_getR (pc' := 4) rfl rfl hth rfl ?_
  refine go_iload_n (pc' := 5) rfl rfl rfl ?_
  obtain ⟨g0, h⟩ := o_gE h
  obtain ⟨r_5, q_5, h⟩ := o_b1E h
  refine go_callV (pc' := 8) (B' := (0, 0)) (st' := [.inr (.inr r_5)]) rfl rfl (Or.inl (by decide)) rfl rfl (o_kdE g0) (md_96 (by omega) (o_kdE g0) q_5) rfl rfl rfl ?_
  refine go_astore_n (pc' := 9) (lo' := [some (.inr (.inr th)), some (.inl a0), some (.inl a1), some (.inr (.inr r_5)), none]) rfl rfl rfl ?_
  refine go_aload_n (pc' := 10) rfl rfl rfl ?_
  refine go_getR (pc' := 13) rfl rfl hth rfl ?_
  refine go_iload_n (pc' := 14) rfl rfl rfl ?_
  obtain ⟨r_14, q_14, h⟩ := o_b1E h
  refine go_callV (pc' := 17) (B' := (0, 0)) (st' := [.inr (.inr r_14)]) rfl rfl (Or.inl (by decide)) rfl rfl (o_kdE g0) (md_96 (by omega) (o_kdE g0) q_14) rfl rfl rfl ?_
  refine go_astore (pc' := 19) (lo' := [some (.inr (.inr th)), some (.inl a0), some (.inl a1), some (.inr (.inr r_5)), some (.inr (.inr r_14))]) rfl rfl rfl ?_
  refine go_aload_n (pc' := 20) rfl rfl rfl ?_
  refine go_aload (pc' := 22) rfl rfl rfl ?_
  obtain ⟨r_22, q_22, h⟩ := o_b1E h
  refine go_callS (pc' := 25) (B' := (0, 0)) (st' := [.inl r_22]) rfl rfl (Or.inl (by decide)) rfl rfl trivial (md_186 (by omega) q_22) rfl rfl rfl ?_
  refine go_if_eq (pt := 37) (pc' := 28) rfl rfl rfl (fun h25 => ?_) (fun h25 => ?_)
  · replace h := o_t h25 h
    refine go_iconst (pc' := 38) (v := (-1 : Int32)) rfl rfl rfl ?_
    cases h
    exact go_iret rfl (trivial) ⟨rfl, rfl, rfl, rfl, rfl⟩
  · replace h := o_f h25 h
    refine go_aload_n (pc' := 29) rfl rfl rfl ?_
    refine go_aload (pc' := 31) rfl rfl rfl ?_
    obtain ⟨r_31, q_31, h⟩ := o_b1E h
    refine go_callS (pc' := 34) (B' := (0, 0)) (st' := [.inl r_31]) rfl rfl (Or.inl (by decide)) rfl rfl trivial (md_30 (by omega) q_31) rfl rfl rfl ?_
    refine go_goto (pc' := 38) rfl rfl ?_
    cases h
    exact go_iret rfl (trivial) ⟨rfl, rfl, rfl, rfl, rfl⟩
/-- PricedBases.beside(II)I -/
def m_173 (th : Nat) (a0 : Int32) (a1 : Int32) (I : ai_I) (Rf : ai_R) (G : ai_G) : Option (Int32 × ai_I) :=
  o_g (o_kd G (Rf th 0) 6) (o_b1 (m_96 (Rf th 0) a0 Rf G) (fun r_5 => if r_5 = 0 then (some ((-1 : Int32), I)) else (if a1 = (0 : Int32) then (o_b1 (m_134 r_5 I Rf G) (fun r_49 => some (r_49, I))) else (if a1 = (1 : Int32) then (o_g (o_kd G (Rf th 11) 9) (o_b2 (m_132 (Rf th 11) r_5 I Rf G) (fun r_58 I_58 => some (r_58, I_58)))) else (if a1 = (2 : Int32) then (o_g (o_kd G r_5 8) (o_b1 (m_135 r_5 I Rf G) (fun r_67 => o_g (o_in G 13 (Rf r_5 5) r_67) (some (I (Rf r_5 5) r_67.toNatClampNeg, I))))) else (if a1 = (3 : Int32) then (o_g (o_kd G r_5 8) (o_b1 (m_135 r_5 I Rf G) (fun r_78 => o_g (o_in G 13 (Rf r_5 5) r_78) (o_b1 (m_133 r_5 (I (Rf r_5 5) r_78.toNatClampNeg) I Rf G) (fun r_82 => some (r_82, I)))))) else (some ((-1 : Int32), I))))))))
theorem md_173 {d : Nat} {I : ai_I} {J : ai_J} {Rf : ai_R} {G : ai_G} {th : Nat} {a0 : Int32} {a1 : Int32} {r : Int32} {I1 : ai_I} (hd : 6 ≤ d) (hth : G.1 th = 10) (h : m_173 th a0 a1 I Rf G = some (r, I1)) : ai_Cl si_t si_ms d 173 [.inr (.inr th), .inl a0, .inl a1] I J Rf G (some (.inl r)) I1 J Rf G := by
  obtain ⟨e, rfl⟩ : ∃ e, d = e + 1 := ⟨d - 1, by omega⟩
  unfold m_173 at h
  refine sp_in (lo := [some (.inr (.inr th)), some (.inl a0), some (.inl a1), none]) (B := (0, 0)) rfl (Nat.le_of_ble_eq_true rfl) rfl rfl ?_
  refine go_aload_n (pc' := 1) rfl rfl rfl ?_
  refine go_getR (pc' := 4) rfl rfl hth rfl ?_
  refine go_iload_n (pc' := 5) rfl rfl rfl ?_
  obtain ⟨g0, h⟩ := o_gE h
  obtain ⟨r_5, q_5, h⟩ := o_b1E h
  refine go_callV (pc' := 8) (B' := (0, 0)) (st' := [.inr (.inr r_5)]) rfl rfl (Or.inl (by decide)) rfl rfl (o_kdE g0) (md_96 (by omega) (o_kdE g0) q_5) rfl rfl rfl ?_
  refine go_astore_n (pc' := 9) (lo' := [some (.inr (.inr th)), some (.inl a0), some (.inl a1), some (.inr (.inr r_5))]) rfl rfl rfl ?_
  refine go_aload_n (pc' := 10) rfl rfl rfl ?_
  refine go_ifnonnull (pt := 15) (pc' := 13) rfl rfl rfl (fun h10 => ?_) (fun h10 => ?_)
  · replace h := o_f h10 h
    refine go_iload_n (pc' := 16) rfl rfl rfl ?_
    by_cases c16_0 : a1 = (0 : Int32)
    · replace h := o_t c16_0 h
      refine go_swIn (pc' := 48) 0 rfl rfl (by rw [c16_0]; decide) (by rw [c16_0]; decide) rfl ?_
      refine go_aload_n (pc' := 49) rfl rfl rfl ?_
      obtain ⟨r_49, q_49, h⟩ := o_b1E h
      refine go_callS (pc' := 52) (B' := (0, 0)) (st' := [.inl r_49]) rfl rfl (Or.inl (by decide)) rfl rfl trivial (md_134 (by omega) q_49) rfl rfl rfl ?_
      cases h
      exact go_iret rfl (trivial) ⟨rfl, rfl, rfl, rfl, rfl⟩
    replace h := o_f c16_0 h
    by_cases c16_1 : a1 = (1 : Int32)
    · replace h := o_t c16_1 h
      refine go_swIn (pc' := 53) 1 rfl rfl (by rw [c16_1]; decide) (by rw [c16_1]; decide) rfl ?_
      refine go_aload_n (pc' := 54) rfl rfl rfl ?_
      refine go_getR (pc' := 57) rfl rfl hth rfl ?_
      refine go_aload_n (pc' := 58) rfl rfl rfl ?_
      obtain ⟨g1, h⟩ := o_gE h
      obtain ⟨r_58, I_58, q_58, h⟩ := o_b2E h
      refine go_callV (pc' := 61) (B' := (0, 0)) (st' := [.inl r_58]) rfl rfl (Or.inl (by decide)) rfl rfl (o_kdE g1) (md_132 (by omega) (o_kdE g1) q_58) rfl rfl rfl ?_
      cases h
      exact go_iret rfl (trivial) ⟨rfl, rfl, rfl, rfl, rfl⟩
    replace h := o_f c16_1 h
    by_cases c16_2 : a1 = (2 : Int32)
    · replace h := o_t c16_2 h
      refine go_swIn (pc' := 62) 2 rfl rfl (by rw [c16_2]; decide) (by rw [c16_2]; decide) rfl ?_
      refine go_aload_n (pc' := 63) rfl rfl rfl ?_
      obtain ⟨g2, h⟩ := o_gE h
      refine go_getR (pc' := 66) rfl rfl (o_kdE g2) rfl ?_
      refine go_aload_n (pc' := 67) rfl rfl rfl ?_
      obtain ⟨r_67, q_67, h⟩ := o_b1E h
      refine go_callS (pc' := 70) (B' := (0, 0)) (st' := [.inl r_67, .inr (.inr (Rf r_5 5))]) rfl rfl (Or.inl (by decide)) rfl rfl trivial (md_135 (by omega) q_67) rfl rfl rfl ?_
      obtain ⟨g3, h⟩ := o_gE h
      refine go_iaload (pc' := 71) rfl (o_inK g3) (o_inB g3) rfl ?_
      cases h
      exact go_iret rfl (trivial) ⟨rfl, rfl, rfl, rfl, rfl⟩
    replace h := o_f c16_2 h
    by_cases c16_3 : a1 = (3 : Int32)
    · replace h := o_t c16_3 h
      refine go_swIn (pc' := 72) 3 rfl rfl (by rw [c16_3]; decide) (by rw [c16_3]; decide) rfl ?_
      refine go_aload_n (pc' := 73) rfl rfl rfl ?_
      refine go_aload_n (pc' := 74) rfl rfl rfl ?_
      obtain ⟨g4, h⟩ := o_gE h
      refine go_getR (pc' := 77) rfl rfl (o_kdE g4) rfl ?_
      refine go_aload_n (pc' := 78) rfl rfl rfl ?_
      obtain ⟨r_78, q_78, h⟩ := o_b1E h
      refine go_callS (pc' := 81) (B' := (0, 0)) (st' := [.inl r_78, .inr (.inr (Rf r_5 5)), .inr (.inr r_5)]) rfl rfl (Or.inl (by decide)) rfl rfl trivial (md_135 (by omega) q_78) rfl rfl rfl ?_
      obtain ⟨g5, h⟩ := o_gE h
      refine go_iaload (pc' := 82) rfl (o_inK g5) (o_inB g5) rfl ?_
      obtain ⟨r_82, q_82, h⟩ := o_b1E h
      refine go_callS (pc' := 85) (B' := (0, 0)) (st' := [.inl r_82]) rfl rfl (Or.inl (by decide)) rfl rfl trivial (md_133 (by omega) q_82) rfl rfl rfl ?_
      cases h
      exact go_iret rfl (trivial) ⟨rfl, rfl, rfl, rfl, rfl⟩
    replace h := o_f c16_3 h
    refine go_swOut (pc' := 86) rfl (by
        rw [← Int32.toInt_inj] at c16_0
        rw [← Int32.toInt_inj] at c16_1
        rw [← Int32.toInt_inj] at c16_2
        rw [← Int32.toInt_inj] at c16_3
        have c16_0 : ¬ a1.toInt = 0 := c16_0
        have c16_1 : ¬ a1.toInt = 1 := c16_1
        have c16_2 : ¬ a1.toInt = 2 := c16_2
        have c16_3 : ¬ a1.toInt = 3 := c16_3
        show a1.toInt < 0 ∨ 0 + ((4 : Nat) : Int) ≤ a1.toInt
        omega) rfl ?_
    refine go_iconst (pc' := 87) (v := (-1 : Int32)) rfl rfl rfl ?_
    cases h
    exact go_iret rfl (trivial) ⟨rfl, rfl, rfl, rfl, rfl⟩
  · replace h := o_t (h10) h
    refine go_iconst (pc' := 14) (v := (-1 : Int32)) rfl rfl rfl ?_
    cases h
    exact go_iret rfl (trivial) ⟨rfl, rfl, rfl, rfl, rfl⟩
/-- PricedBases.past(II)I -/
def m_174 (th : Nat) (a0 : Int32) (a1 : Int32) (I : ai_I) (Rf : ai_R) (G : ai_G) : Option (Int32) :=
  if a0 < 0 then (some (-1 : Int32)) else (o_g (o_kd G (Rf th 0) 6) (if (I (Rf th 0) 3) ≤ a0 then (some (-1 : Int32)) else (if a1 < 0 then (some (-1 : Int32)) else (if a1 ≤ (nI 3) then (o_g (o_in G 13 (Rf (Rf th 0) 2) ((a0 * (nI 4)) + a1)) (some (I (Rf (Rf th 0) 2) ((a0 * (nI 4)) + a1).toNatClampNeg))) else (some (-1 : Int32))))))
theorem md_174 {d : Nat} {I : ai_I} {J : ai_J} {Rf : ai_R} {G : ai_G} {th : Nat} {a0 : Int32} {a1 : Int32} {r : Int32} (hd : 1 ≤ d) (hth : G.1 th = 10) (h : m_174 th a0 a1 I Rf G = some r) : ai_Cl si_t si_ms d 174 [.inr (.inr th), .inl a0, .inl a1] I J Rf G (some (.inl r)) I J Rf G := by
  obtain ⟨e, rfl⟩ : ∃ e, d = e + 1 := ⟨d - 1, by omega⟩
  unfold m_174 at h
  refine sp_in (lo := [some (.inr (.inr th)), some (.inl a0), some (.inl a1)]) (B := (0, 0)) rfl (Nat.le_of_ble_eq_true rfl) rfl rfl ?_
  refine go_iload_n (pc' := 1) rfl rfl rfl ?_
  refine go_if_lt (pt := 24) (pc' := 4) rfl rfl rfl (fun h1 => ?_) (fun h1 => ?_)
  · replace h := o_t h1 h
    refine go_iconst (pc' := 25) (v := (-1 : Int32)) rfl rfl rfl ?_
    refine go_goto (pc' := 41) rfl rfl ?_
    cases h
    exact go_iret rfl (trivial) ⟨rfl, rfl, rfl, rfl, rfl⟩
  · replace h := o_f h1 h
    refine go_iload_n (pc' := 5) rfl rfl rfl ?_
    refine go_aload_n (pc' := 6) rfl rfl rfl ?_
    refine go_getR (pc' := 9) rfl rfl hth rfl ?_
    obtain ⟨g0, h⟩ := o_gE h
    refine go_getI (pc' := 12) rfl rfl (by decide) (by decide) (o_kdE g0) rfl ?_
    refine go_icmp_ge (pt := 24) (pc' := 15) rfl rfl rfl (fun h12 => ?_) (fun h12 => ?_)
    · replace h := o_t h12 h
      refine go_iconst (pc' := 25) (v := (-1 : Int32)) rfl rfl rfl ?_
      refine go_goto (pc' := 41) rfl rfl ?_
      cases h
      exact go_iret rfl (trivial) ⟨rfl, rfl, rfl, rfl, rfl⟩
    · replace h := o_f h12 h
      refine go_iload_n (pc' := 16) rfl rfl rfl ?_
      refine go_if_lt (pt := 24) (pc' := 19) rfl rfl rfl (fun h16 => ?_) (fun h16 => ?_)
      · replace h := o_t h16 h
        refine go_iconst (pc' := 25) (v := (-1 : Int32)) rfl rfl rfl ?_
        refine go_goto (pc' := 41) rfl rfl ?_
        cases h
        exact go_iret rfl (trivial) ⟨rfl, rfl, rfl, rfl, rfl⟩
      · replace h := o_f h16 h
        refine go_iload_n (pc' := 20) rfl rfl rfl ?_
        refine go_iconst (pc' := 21) (v := (nI 3)) rfl rfl rfl ?_
        refine go_icmp_le (pt := 28) (pc' := 24) rfl rfl rfl (fun h21 => ?_) (fun h21 => ?_)
        · replace h := o_t h21 h
          refine go_aload_n (pc' := 29) rfl rfl rfl ?_
          refine go_getR (pc' := 32) rfl rfl hth rfl ?_
          refine go_getR (pc' := 35) rfl rfl (o_kdE g0) rfl ?_
          refine go_iload_n (pc' := 36) rfl rfl rfl ?_
          refine go_iconst (pc' := 37) (v := (nI 4)) rfl rfl rfl ?_
          refine go_imul (pc' := 38) rfl rfl ?_
          refine go_iload_n (pc' := 39) rfl rfl rfl ?_
          refine go_iadd (pc' := 40) rfl rfl ?_
          obtain ⟨g1, h⟩ := o_gE h
          refine go_iaload (pc' := 41) rfl (o_inK g1) (o_inB g1) rfl ?_
          cases h
          exact go_iret rfl (trivial) ⟨rfl, rfl, rfl, rfl, rfl⟩
        · replace h := o_f h21 h
          refine go_iconst (pc' := 25) (v := (-1 : Int32)) rfl rfl rfl ?_
          refine go_goto (pc' := 41) rfl rfl ?_
          cases h
          exact go_iret rfl (trivial) ⟨rfl, rfl, rfl, rfl, rfl⟩
/-- PricedBases.next(I)I -/
def m_184 (a0 : Int32) : Option (Int32) :=
  some ((((nI 25173) * a0) + (nI 13849)) &&& (nI 65535))
theorem md_184 {d : Nat} {I : ai_I} {J : ai_J} {Rf : ai_R} {G : ai_G} {a0 : Int32} {r : Int32} (hd : 1 ≤ d) (h : m_184 a0 = some r) : ai_Cl si_t si_ms d 184 [.inl a0] I J Rf G (some (.inl r)) I J Rf G := by
  obtain ⟨e, rfl⟩ : ∃ e, d = e + 1 := ⟨d - 1, by omega⟩
  unfold m_184 at h
  refine sp_in (lo := [some (.inl a0)]) (B := (0, 0)) rfl (Nat.le_of_ble_eq_true rfl) rfl rfl ?_
  refine go_sipush (pc' := 3) (v := (nI 25173)) rfl rfl rfl ?_
  refine go_iload_n (pc' := 4) rfl rfl rfl ?_
  refine go_imul (pc' := 5) rfl rfl ?_
  refine go_sipush (pc' := 8) (v := (nI 13849)) rfl rfl rfl ?_
  refine go_iadd (pc' := 9) rfl rfl ?_
  refine go_ldc_w (pc' := 12) (v := .inl (nI 65535)) rfl rfl rfl ?_
  refine go_iand (pc' := 13) rfl rfl ?_
  cases h
  exact go_iret rfl (trivial) ⟨rfl, rfl, rfl, rfl, rfl⟩
def m_175_x62_145 (a2 : Int32) (w6_145 : Int32) (w7_145 : Int32) : Option (Int32) :=
  if a2 = 0 then (some w6_145) else (some w7_145)
def m_175_b62 (a1 : Int32) (I : ai_I) (Rf : ai_R) (G : ai_G) (r_5 : Nat) (v5_62 : Int32) (v6_62 : Int32) (v7_62 : Int32) (v8_62 : Int32) : Option ((Int32 × Int32 × Int32 × Int32) ⊕ (Int32 × Int32)) :=
  if a1 ≤ v8_62 then (some (Sum.inr (v6_62, v7_62))) else (o_b1 (m_184 v5_62) (fun r_70 => o_b1 (m_187 v6_62 r_70) (fun r_79 => o_b1 (m_184 r_70) (fun r_86 => o_b1 (m_119 r_5 I) (fun r_93 => o_b1 (m_187 (r_93 &&& (v6_62 ^^^ (-1 : Int32))) r_86) (fun r_103 => o_b1 (some ((v6_62 ^^^ ((nI 1) <<< (r_79 &&& 31))) ^^^ ((nI 1) <<< (r_103 &&& 31)))) (fun x11_120 => o_b1 (m_122 r_5 x11_120 I Rf G) (fun r_126 => if r_126 = 0 then (o_b1 (some (v8_62 + (nI 1))) (fun x8_139 => some (Sum.inl (r_86, v6_62, v7_62, x8_139)))) else (o_b1 (some (v7_62 + (nI 1))) (fun x7_136 => o_b1 (some (v8_62 + (nI 1))) (fun x8_139 => some (Sum.inl (r_86, x11_120, x7_136, x8_139)))))))))))))
/-- PricedBases.walk(III)I -/
def m_175 (th : Nat) (a0 : Int32) (a1 : Int32) (a2 : Int32) (I : ai_I) (Rf : ai_R) (G : ai_G) : Option (Int32) :=
  o_g (o_kd G (Rf th 0) 6) (o_b1 (m_96 (Rf th 0) a0 Rf G) (fun r_5 => if r_5 = 0 then (some (-1 : Int32)) else (if a1 < (nI 1) then (some (-1 : Int32)) else (if (nI 1000) < a1 then (some (-1 : Int32)) else (if a2 < 0 then (some (-1 : Int32)) else (if a2 ≤ (nI 1) then (o_b1 (some (I (Rf th 0) 4)) (fun x5_45 => o_g (o_kd G r_5 8) (o_g (o_in G 13 (Rf r_5 5) (nI 0)) (o_b1 (some (I (Rf r_5 5) (nI 0).toNatClampNeg)) (fun x6_54 => o_s1 (lp (fun s => m_175_b62 a1 I Rf G r_5 s.1 s.2.1 s.2.2.1 s.2.2.2) o_N (x5_45, x6_54, (nI 0), (nI 0))) (fun t => m_175_x62_145 a2 t.1 t.2)))))) else (some (-1 : Int32))))))))
theorem md_175 {d : Nat} {I : ai_I} {J : ai_J} {Rf : ai_R} {G : ai_G} {th : Nat} {a0 : Int32} {a1 : Int32} {a2 : Int32} {r : Int32} (hd : 3 ≤ d) (hth : G.1 th = 10) (h : m_175 th a0 a1 a2 I Rf G = some r) : ai_Cl si_t si_ms d 175 [.inr (.inr th), .inl a0, .inl a1, .inl a2] I J Rf G (some (.inl r)) I J Rf G := by
  obtain ⟨e, rfl⟩ : ∃ e, d = e + 1 := ⟨d - 1, by omega⟩
  unfold m_175 at h
  refine sp_in (lo := [some (.inr (.inr th)), some (.inl a0), some (.inl a1), some (.inl a2), none, none, none, none, none, none, none, none]) (B := (0, 0)) rfl (Nat.le_of_ble_eq_true rfl) rfl rfl ?_
  refine go_aload_n (pc' := 1) rfl rfl rfl ?_
  refine go_getR (pc' := 4) rfl rfl hth rfl ?_
  refine go_iload_n (pc' := 5) rfl rfl rfl ?_
  obtain ⟨g0, h⟩ := o_gE h
  obtain ⟨r_5, q_5, h⟩ := o_b1E h
  refine go_callV (pc' := 8) (B' := (0, 0)) (st' := [.inr (.inr r_5)]) rfl rfl (Or.inl (by decide)) rfl rfl (o_kdE g0) (md_96 (by omega) (o_kdE g0) q_5) rfl rfl rfl ?_
  refine go_astore (pc' := 10) (lo' := [some (.inr (.inr th)), some (.inl a0), some (.inl a1), some (.inl a2), some (.inr (.inr r_5)), none, none, none, none, none, none, none]) rfl rfl rfl ?_
  refine go_aload (pc' := 12) rfl rfl rfl ?_
  refine go_ifnull (pt := 36) (pc' := 15) rfl rfl rfl (fun h12 => ?_) (fun h12 => ?_)
  · replace h := o_t h12 h
    refine go_iconst (pc' := 37) (v := (-1 : Int32)) rfl rfl rfl ?_
    cases h
    exact go_iret rfl (trivial) ⟨rfl, rfl, rfl, rfl, rfl⟩
  · replace h := o_f h12 h
    refine go_iload_n (pc' := 16) rfl rfl rfl ?_
    refine go_iconst (pc' := 17) (v := (nI 1)) rfl rfl rfl ?_
    refine go_icmp_lt (pt := 36) (pc' := 20) rfl rfl rfl (fun h17 => ?_) (fun h17 => ?_)
    · replace h := o_t h17 h
      refine go_iconst (pc' := 37) (v := (-1 : Int32)) rfl rfl rfl ?_
      cases h
      exact go_iret rfl (trivial) ⟨rfl, rfl, rfl, rfl, rfl⟩
    · replace h := o_f h17 h
      refine go_iload_n (pc' := 21) rfl rfl rfl ?_
      refine go_sipush (pc' := 24) (v := (nI 1000)) rfl rfl rfl ?_
      refine go_icmp_gt (pt := 36) (pc' := 27) rfl rfl rfl (fun h24 => ?_) (fun h24 => ?_)
      · replace h := o_t h24 h
        refine go_iconst (pc' := 37) (v := (-1 : Int32)) rfl rfl rfl ?_
        cases h
        exact go_iret rfl (trivial) ⟨rfl, rfl, rfl, rfl, rfl⟩
      · replace h := o_f h24 h
        refine go_iload_n (pc' := 28) rfl rfl rfl ?_
        refine go_if_lt (pt := 36) (pc' := 31) rfl rfl rfl (fun h28 => ?_) (fun h28 => ?_)
        · replace h := o_t h28 h
          refine go_iconst (pc' := 37) (v := (-1 : Int32)) rfl rfl rfl ?_
          cases h
          exact go_iret rfl (trivial) ⟨rfl, rfl, rfl, rfl, rfl⟩
        · replace h := o_f h28 h
          refine go_iload_n (pc' := 32) rfl rfl rfl ?_
          refine go_iconst (pc' := 33) (v := (nI 1)) rfl rfl rfl ?_
          refine go_icmp_le (pt := 38) (pc' := 36) rfl rfl rfl (fun h33 => ?_) (fun h33 => ?_)
          · replace h := o_t h33 h
            refine go_aload_n (pc' := 39) rfl rfl rfl ?_
            refine go_getR (pc' := 42) rfl rfl hth rfl ?_
            refine go_getI (pc' := 45) rfl rfl (by decide) (by decide) (o_kdE g0) rfl ?_
            obtain ⟨x5_45, ex5_45, h⟩ := o_b1E h
            refine go_ndI ex5_45 ?_
            refine go_istore (pc' := 47) (lo' := [some (.inr (.inr th)), some (.inl a0), some (.inl a1), some (.inl a2), some (.inr (.inr r_5)), some (.inl x5_45), none, none, none, none, none, none]) rfl rfl rfl ?_
            refine go_aload (pc' := 49) rfl rfl rfl ?_
            obtain ⟨g1, h⟩ := o_gE h
            refine go_getR (pc' := 52) rfl rfl (o_kdE g1) rfl ?_
            refine go_iconst (pc' := 53) (v := (nI 0)) rfl rfl rfl ?_
            obtain ⟨g2, h⟩ := o_gE h
            refine go_iaload (pc' := 54) rfl (o_inK g2) (o_inB g2) rfl ?_
            obtain ⟨x6_54, ex6_54, h⟩ := o_b1E h
            refine go_ndI ex6_54 ?_
            refine go_istore (pc' := 56) (lo' := [some (.inr (.inr th)), some (.inl a0), some (.inl a1), some (.inl a2), some (.inr (.inr r_5)), some (.inl x5_45), some (.inl x6_54), none, none, none, none, none]) rfl rfl rfl ?_
            refine go_iconst (pc' := 57) (v := (nI 0)) rfl rfl rfl ?_
            refine go_istore (pc' := 59) (lo' := [some (.inr (.inr th)), some (.inl a0), some (.inl a1), some (.inl a2), some (.inr (.inr r_5)), some (.inl x5_45), some (.inl x6_54), some (.inl (nI 0)), none, none, none, none]) rfl rfl rfl ?_
            refine go_iconst (pc' := 60) (v := (nI 0)) rfl rfl rfl ?_
            refine go_istore (pc' := 62) (lo' := [some (.inr (.inr th)), some (.inl a0), some (.inl a1), some (.inl a2), some (.inr (.inr r_5)), some (.inl x5_45), some (.inl x6_54), some (.inl (nI 0)), some (.inl (nI 0)), none, none, none]) rfl rfl rfl ?_
            obtain ⟨q62, hl62, hc62_145⟩ := o_s1E h
            have ex62_145 : ∀ (w6_145 : Int32) (w7_145 : Int32) (z5_x145 : Option ai_V) (z8_x145 : Option ai_V) (z9_x145 : Option ai_V) (z10_x145 : Option ai_V) (z11_x145 : Option ai_V), (w6_145, w7_145) = q62 → ai_Go si_t (10, false, 0, cd_175) (ai_Cl si_t si_ms e) (sp_Q (some (.inl r)) I J Rf G) 145 [some (.inr (.inr th)), some (.inl a0), some (.inl a1), some (.inl a2), some (.inr (.inr r_5)), z5_x145, some (.inl w6_145), some (.inl w7_145), z8_x145, z9_x145, z10_x145, z11_x145] [] (0, 0) I J Rf G := by
              intro w6_145 w7_145 z5_x145 z8_x145 z9_x145 z10_x145 z11_x145 hq
              have h : m_175_x62_145 a2 w6_145 w7_145 = some r := hc62_145 (w6_145, w7_145) hq.symm
              unfold m_175_x62_145 at h
              refine go_iload_n (pc' := 146) rfl rfl rfl ?_
              refine go_if_ne (pt := 154) (pc' := 149) rfl rfl rfl (fun h146 => ?_) (fun h146 => ?_)
              · replace h := o_f h146 h
                refine go_iload (pc' := 156) rfl rfl rfl ?_
                cases h
                exact go_iret rfl (trivial) ⟨rfl, rfl, rfl, rfl, rfl⟩
              · replace h := o_t (Decidable.of_not_not h146) h
                refine go_iload (pc' := 151) rfl rfl rfl ?_
                refine go_goto (pc' := 156) rfl rfl ?_
                cases h
                exact go_iret rfl (trivial) ⟨rfl, rfl, rfl, rfl, rfl⟩
            have lo62 : ∀ n s, lp (fun s => m_175_b62 a1 I Rf G r_5 s.1 s.2.1 s.2.2.1 s.2.2.2) n s = some q62 → (fun s => ∀ (z9_62 : Option ai_V) (z10_62 : Option ai_V) (z11_62 : Option ai_V), ai_Go si_t (10, false, 0, cd_175) (ai_Cl si_t si_ms e) (sp_Q (some (.inl r)) I J Rf G) 62 [some (.inr (.inr th)), some (.inl a0), some (.inl a1), some (.inl a2), some (.inr (.inr r_5)), some (.inl s.1), some (.inl s.2.1), some (.inl s.2.2.1), some (.inl s.2.2.2), z9_62, z10_62, z11_62] [] (0, 0) I J Rf G) s := lp_go (fun s x62 hx hk62 => by
              obtain ⟨v5_62, v6_62, v7_62, v8_62⟩ := s
              intro z9_62 z10_62 z11_62
              have h : m_175_b62 a1 I Rf G r_5 v5_62 v6_62 v7_62 v8_62 = some x62 := hx
              clear hx
              show ai_Go si_t (10, false, 0, cd_175) (ai_Cl si_t si_ms e) (sp_Q (some (.inl r)) I J Rf G) 62 [some (.inr (.inr th)), some (.inl a0), some (.inl a1), some (.inl a2), some (.inr (.inr r_5)), some (.inl v5_62), some (.inl v6_62), some (.inl v7_62), some (.inl v8_62), z9_62, z10_62, z11_62] [] (0, 0) I J Rf G
              unfold m_175_b62 at h
              refine go_iload (pc' := 64) rfl rfl rfl ?_
              refine go_iload_n (pc' := 65) rfl rfl rfl ?_
              refine go_icmp_ge (pt := 145) (pc' := 68) rfl rfl rfl (fun h65 => ?_) (fun h65 => ?_)
              · replace h := o_t h65 h
                exact ex62_145 _ _ (some (.inl v5_62)) (some (.inl v8_62)) z9_62 z10_62 z11_62 (lp_exitE h hk62)
              · replace h := o_f h65 h
                refine go_iload (pc' := 70) rfl rfl rfl ?_
                obtain ⟨r_70, q_70, h⟩ := o_b1E h
                refine go_callS (pc' := 73) (B' := (0, 0)) (st' := [.inl r_70]) rfl rfl (Or.inl (by decide)) rfl rfl trivial (md_184 (by omega) q_70) rfl rfl rfl ?_
                refine go_istore (pc' := 75) (lo' := [some (.inr (.inr th)), some (.inl a0), some (.inl a1), some (.inl a2), some (.inr (.inr r_5)), some (.inl r_70), some (.inl v6_62), some (.inl v7_62), some (.inl v8_62), z9_62, z10_62, z11_62]) rfl rfl rfl ?_
                refine go_iload (pc' := 77) rfl rfl rfl ?_
                refine go_iload (pc' := 79) rfl rfl rfl ?_
                obtain ⟨r_79, q_79, h⟩ := o_b1E h
                refine go_callS (pc' := 82) (B' := (0, 0)) (st' := [.inl r_79]) rfl rfl (Or.inl (by decide)) rfl rfl trivial (md_187 (by omega) q_79) rfl rfl rfl ?_
                refine go_istore (pc' := 84) (lo' := [some (.inr (.inr th)), some (.inl a0), some (.inl a1), some (.inl a2), some (.inr (.inr r_5)), some (.inl r_70), some (.inl v6_62), some (.inl v7_62), some (.inl v8_62), some (.inl r_79), z10_62, z11_62]) rfl rfl rfl ?_
                refine go_iload (pc' := 86) rfl rfl rfl ?_
                obtain ⟨r_86, q_86, h⟩ := o_b1E h
                refine go_callS (pc' := 89) (B' := (0, 0)) (st' := [.inl r_86]) rfl rfl (Or.inl (by decide)) rfl rfl trivial (md_184 (by omega) q_86) rfl rfl rfl ?_
                refine go_istore (pc' := 91) (lo' := [some (.inr (.inr th)), some (.inl a0), some (.inl a1), some (.inl a2), some (.inr (.inr r_5)), some (.inl r_86), some (.inl v6_62), some (.inl v7_62), some (.inl v8_62), some (.inl r_79), z10_62, z11_62]) rfl rfl rfl ?_
                refine go_aload (pc' := 93) rfl rfl rfl ?_
                obtain ⟨r_93, q_93, h⟩ := o_b1E h
                refine go_callV (pc' := 96) (B' := (0, 0)) (st' := [.inl r_93]) rfl rfl (Or.inl (by decide)) rfl rfl (o_kdE g1) (md_119 (by omega) (o_kdE g1) q_93) rfl rfl rfl ?_
                refine go_iload (pc' := 98) rfl rfl rfl ?_
                refine go_iconst (pc' := 99) (v := (-1 : Int32)) rfl rfl rfl ?_
                refine go_ixor (pc' := 100) rfl rfl ?_
                refine go_iand (pc' := 101) rfl rfl ?_
                refine go_iload (pc' := 103) rfl rfl rfl ?_
                obtain ⟨r_103, q_103, h⟩ := o_b1E h
                refine go_callS (pc' := 106) (B' := (0, 0)) (st' := [.inl r_103]) rfl rfl (Or.inl (by decide)) rfl rfl trivial (md_187 (by omega) q_103) rfl rfl rfl ?_
                refine go_istore (pc' := 108) (lo' := [some (.inr (.inr th)), some (.inl a0), some (.inl a1), some (.inl a2), some (.inr (.inr r_5)), some (.inl r_86), some (.inl v6_62), some (.inl v7_62), some (.inl v8_62), some (.inl r_79), some (.inl r_103), z11_62]) rfl rfl rfl ?_
                refine go_iload (pc' := 110) rfl rfl rfl ?_
                refine go_iconst (pc' := 111) (v := (nI 1)) rfl rfl rfl ?_
                refine go_iload (pc' := 113) rfl rfl rfl ?_
                refine go_ishl (pc' := 114) rfl rfl ?_
                refine go_ixor (pc' := 115) rfl rfl ?_
                refine go_iconst (pc' := 116) (v := (nI 1)) rfl rfl rfl ?_
                refine go_iload (pc' := 118) rfl rfl rfl ?_
                refine go_ishl (pc' := 119) rfl rfl ?_
                refine go_ixor (pc' := 120) rfl rfl ?_
                obtain ⟨x11_120, ex11_120, h⟩ := o_b1E h
                refine go_ndI ex11_120 ?_
                refine go_istore (pc' := 122) (lo' := [some (.inr (.inr th)), some (.inl a0), some (.inl a1), some (.inl a2), some (.inr (.inr r_5)), some (.inl r_86), some (.inl v6_62), some (.inl v7_62), some (.inl v8_62), some (.inl r_79), some (.inl r_103), some (.inl x11_120)]) rfl rfl rfl ?_
                refine go_aload (pc' := 124) rfl rfl rfl ?_
                refine go_iload (pc' := 126) rfl rfl rfl ?_
                obtain ⟨r_126, q_126, h⟩ := o_b1E h
                refine go_callV (pc' := 129) (B' := (0, 0)) (st' := [.inl r_126]) rfl rfl (Or.inl (by decide)) rfl rfl (o_kdE g1) (md_122 (by omega) (o_kdE g1) q_126) rfl rfl rfl ?_
                refine go_if_eq (pt := 139) (pc' := 132) rfl rfl rfl (fun h129 => ?_) (fun h129 => ?_)
                · replace h := o_t h129 h
                  obtain ⟨x8_139, ex8_139, h⟩ := o_b1E h
                  refine go_iincE (pc' := 142) rfl rfl (y := (nI 1)) rfl ex8_139 (lo' := [some (.inr (.inr th)), some (.inl a0), some (.inl a1), some (.inl a2), some (.inr (.inr r_5)), some (.inl r_86), some (.inl v6_62), some (.inl v7_62), some (.inl x8_139), some (.inl r_79), some (.inl r_103), some (.inl x11_120)]) rfl rfl ?_
                  refine go_goto (pc' := 62) rfl rfl ?_
                  exact (lp_backE h hk62 (some (.inl r_79)) (some (.inl r_103)) (some (.inl x11_120)) :)
                · replace h := o_f h129 h
                  refine go_iload (pc' := 134) rfl rfl rfl ?_
                  refine go_istore (pc' := 136) (lo' := [some (.inr (.inr th)), some (.inl a0), some (.inl a1), some (.inl a2), some (.inr (.inr r_5)), some (.inl r_86), some (.inl x11_120), some (.inl v7_62), some (.inl v8_62), some (.inl r_79), some (.inl r_103), some (.inl x11_120)]) rfl rfl rfl ?_
                  obtain ⟨x7_136, ex7_136, h⟩ := o_b1E h
                  refine go_iincE (pc' := 139) rfl rfl (y := (nI 1)) rfl ex7_136 (lo' := [some (.inr (.inr th)), some (.inl a0), some (.inl a1), some (.inl a2), some (.inr (.inr r_5)), some (.inl r_86), some (.inl x11_120), some (.inl x7_136), some (.inl v8_62), some (.inl r_79), some (.inl r_103), some (.inl x11_120)]) rfl rfl ?_
                  obtain ⟨x8_139, ex8_139, h⟩ := o_b1E h
                  refine go_iincE (pc' := 142) rfl rfl (y := (nI 1)) rfl ex8_139 (lo' := [some (.inr (.inr th)), some (.inl a0), some (.inl a1), some (.inl a2), some (.inr (.inr r_5)), some (.inl r_86), some (.inl x11_120), some (.inl x7_136), some (.inl x8_139), some (.inl r_79), some (.inl r_103), some (.inl x11_120)]) rfl rfl ?_
                  refine go_goto (pc' := 62) rfl rfl ?_
                  exact (lp_backE h hk62 (some (.inl r_79)) (some (.inl r_103)) (some (.inl x11_120)) :))
            exact lo62 _ (x5_45, x6_54, (nI 0), (nI 0)) hl62 none none none
          · replace h := o_f h33 h
            refine go_iconst (pc' := 37) (v := (-1 : Int32)) rfl rfl rfl ?_
            cases h
            exact go_iret rfl (trivial) ⟨rfl, rfl, rfl, rfl, rfl⟩
