/-! Models of methods and their proofs, piece 7. Printed by wip/p46/pr10.py. -/
def m_106_x35_85 (w3_85 : Int32) (Ix_85 : ai_I) : Option (Int32 × ai_I) :=
  some (w3_85, Ix_85)
def m_106_b35 (th : Nat) (Rf : ai_R) (G : ai_G) (r_5 : Nat) (v3_35 : Int32) (v4_35 : Int32) (I_35 : ai_I) : Option ((Int32 × Int32 × ai_I) ⊕ (Int32 × ai_I)) :=
  o_g (o_kd G r_5 8) (if (I_35 r_5 2) ≤ v4_35 then (some (Sum.inr (v3_35, I_35))) else (o_g (o_in G 13 (Rf r_5 5) v4_35) (o_b1 (m_74 (Rf th 8) r_5 (I_35 (Rf r_5 5) v4_35.toNatClampNeg) I_35 Rf G) (fun I_56 => o_b1 (m_73 (Rf th 8) (I_56 (Rf th 8) 2) I_56 Rf G) (fun r_71 => o_b1 (m_112 r_71) (fun r_74 => o_b1 (some (v3_35 + r_74)) (fun x3_78 => o_b1 (some (v4_35 + (nI 1))) (fun x4_79 => some (Sum.inl (x3_78, x4_79, I_56))))))))))
/-- PricedBases.arrive(I)I -/
def m_106 (th : Nat) (a0 : Int32) (I : ai_I) (Rf : ai_R) (G : ai_G) : Option (Int32 × ai_I) :=
  o_g (o_kd G (Rf th 0) 6) (o_b1 (m_65 (Rf th 0) a0 Rf G) (fun r_5 => if r_5 = 0 then (some ((-1 : Int32), I)) else (o_g (o_kd G (Rf th 8) 7) (o_b1 (m_72 (Rf th 8) r_5 (Rf (Rf th 0) 1) I Rf G) (fun I_27 => o_s1 (lp (fun s => m_106_b35 th Rf G r_5 s.1 s.2.1 s.2.2) o_N ((nI 0), (nI 0), I_27)) (fun t => m_106_x35_85 t.1 t.2))))))
theorem md_106 {d : Nat} {I : ai_I} {J : ai_J} {Rf : ai_R} {G : ai_G} {th : Nat} {a0 : Int32} {r : Int32} {I1 : ai_I} (hd : 4 ≤ d) (hth : G.1 th = 10) (h : m_106 th a0 I Rf G = some (r, I1)) : ai_Cl si_t si_ms d 106 [.inr (.inr th), .inl a0] I J Rf G (some (.inl r)) I1 J Rf G := by
  obtain ⟨e, rfl⟩ : ∃ e, d = e + 1 := ⟨d - 1, by omega⟩
  unfold m_106 at h
  refine sp_in (lo := [some (.inr (.inr th)), some (.inl a0), none, none, none]) (B := (0, 0)) rfl (Nat.le_of_ble_eq_true rfl) rfl rfl ?_
  refine go_aload_n (pc' := 1) rfl rfl rfl ?_
  refine go_getR (pc' := 4) rfl rfl hth rfl ?_
  refine go_iload_n (pc' := 5) rfl rfl rfl ?_
  obtain ⟨g0, h⟩ := o_gE h
  obtain ⟨r_5, q_5, h⟩ := o_b1E h
  refine go_callV (pc' := 8) (B' := (0, 0)) (st' := [.inr (.inr r_5)]) rfl rfl (Or.inl (by decide)) rfl rfl (o_kdE g0) (md_65 (by omega) (o_kdE g0) q_5) rfl rfl rfl ?_
  refine go_astore_n (pc' := 9) (lo' := [some (.inr (.inr th)), some (.inl a0), some (.inr (.inr r_5)), none, none]) rfl rfl rfl ?_
  refine go_aload_n (pc' := 10) rfl rfl rfl ?_
  refine go_ifnonnull (pt := 15) (pc' := 13) rfl rfl rfl (fun h10 => ?_) (fun h10 => ?_)
  · replace h := o_f h10 h
    refine go_aload_n (pc' := 16) rfl rfl rfl ?_
    refine go_getR (pc' := 19) rfl rfl hth rfl ?_
    refine go_aload_n (pc' := 20) rfl rfl rfl ?_
    refine go_aload_n (pc' := 21) rfl rfl rfl ?_
    refine go_getR (pc' := 24) rfl rfl hth rfl ?_
    refine go_getR (pc' := 27) rfl rfl (o_kdE g0) rfl ?_
    obtain ⟨g1, h⟩ := o_gE h
    obtain ⟨I_27, q_27, h⟩ := o_b1E h
    refine go_callV (pc' := 30) (B' := (0, 0)) (st' := []) rfl rfl (Or.inl (by decide)) rfl rfl (o_kdE g1) (md_72 (by omega) (o_kdE g1) q_27) rfl rfl rfl ?_
    refine go_iconst (pc' := 31) (v := (nI 0)) rfl rfl rfl ?_
    refine go_istore_n (pc' := 32) (lo' := [some (.inr (.inr th)), some (.inl a0), some (.inr (.inr r_5)), some (.inl (nI 0)), none]) rfl rfl rfl ?_
    refine go_iconst (pc' := 33) (v := (nI 0)) rfl rfl rfl ?_
    refine go_istore (pc' := 35) (lo' := [some (.inr (.inr th)), some (.inl a0), some (.inr (.inr r_5)), some (.inl (nI 0)), some (.inl (nI 0))]) rfl rfl rfl ?_
    obtain ⟨q35, hl35, hc35_85⟩ := o_s1E h
    have ex35_85 : ∀ (w3_85 : Int32) (Ix_85 : ai_I) (z4_x85 : Option ai_V), (w3_85, Ix_85) = q35 → ai_Go si_t (10, false, 0, cd_106) (ai_Cl si_t si_ms e) (sp_Q (some (.inl r)) I1 J Rf G) 85 [some (.inr (.inr th)), some (.inl a0), some (.inr (.inr r_5)), some (.inl w3_85), z4_x85] [] (0, 0) Ix_85 J Rf G := by
      intro w3_85 Ix_85 z4_x85 hq
      have h : m_106_x35_85 w3_85 Ix_85 = some (r, I1) := hc35_85 (w3_85, Ix_85) hq.symm
      unfold m_106_x35_85 at h
      refine go_iload_n (pc' := 86) rfl rfl rfl ?_
      cases h
      exact go_iret rfl (trivial) ⟨rfl, rfl, rfl, rfl, rfl⟩
    have lo35 : ∀ n s, lp (fun s => m_106_b35 th Rf G r_5 s.1 s.2.1 s.2.2) n s = some q35 → (fun s => ai_Go si_t (10, false, 0, cd_106) (ai_Cl si_t si_ms e) (sp_Q (some (.inl r)) I1 J Rf G) 35 [some (.inr (.inr th)), some (.inl a0), some (.inr (.inr r_5)), some (.inl s.1), some (.inl s.2.1)] [] (0, 0) s.2.2 J Rf G) s := lp_go (fun s x35 hx hk35 => by
      obtain ⟨v3_35, v4_35, I_35⟩ := s
      have h : m_106_b35 th Rf G r_5 v3_35 v4_35 I_35 = some x35 := hx
      clear hx
      show ai_Go si_t (10, false, 0, cd_106) (ai_Cl si_t si_ms e) (sp_Q (some (.inl r)) I1 J Rf G) 35 [some (.inr (.inr th)), some (.inl a0), some (.inr (.inr r_5)), some (.inl v3_35), some (.inl v4_35)] [] (0, 0) I_35 J Rf G
      unfold m_106_b35 at h
      refine go_iload (pc' := 37) rfl rfl rfl ?_
      refine go_aload_n (pc' := 38) rfl rfl rfl ?_
      obtain ⟨g2, h⟩ := o_gE h
      refine go_getI (pc' := 41) rfl rfl (by decide) (by decide) (o_kdE g2) rfl ?_
      refine go_icmp_ge (pt := 85) (pc' := 44) rfl rfl rfl (fun h41 => ?_) (fun h41 => ?_)
      · replace h := o_t h41 h
        exact ex35_85 _ _ (some (.inl v4_35)) (lp_exitE h hk35)
      · replace h := o_f h41 h
        refine go_aload_n (pc' := 45) rfl rfl rfl ?_
        refine go_getR (pc' := 48) rfl rfl hth rfl ?_
        refine go_aload_n (pc' := 49) rfl rfl rfl ?_
        refine go_aload_n (pc' := 50) rfl rfl rfl ?_
        refine go_getR (pc' := 53) rfl rfl (o_kdE g2) rfl ?_
        refine go_iload (pc' := 55) rfl rfl rfl ?_
        obtain ⟨g3, h⟩ := o_gE h
        refine go_iaload (pc' := 56) rfl (o_inK g3) (o_inB g3) rfl ?_
        obtain ⟨I_56, q_56, h⟩ := o_b1E h
        refine go_callV (pc' := 59) (B' := (0, 0)) (st' := []) rfl rfl (Or.inl (by decide)) rfl rfl (o_kdE g1) (md_74 (by omega) (o_kdE g1) q_56) rfl rfl rfl ?_
        refine go_iload_n (pc' := 60) rfl rfl rfl ?_
        refine go_aload_n (pc' := 61) rfl rfl rfl ?_
        refine go_getR (pc' := 64) rfl rfl hth rfl ?_
        refine go_aload_n (pc' := 65) rfl rfl rfl ?_
        refine go_getR (pc' := 68) rfl rfl hth rfl ?_
        refine go_getI (pc' := 71) rfl rfl (by decide) (by decide) (o_kdE g1) rfl ?_
        obtain ⟨r_71, q_71, h⟩ := o_b1E h
        refine go_callV (pc' := 74) (B' := (0, 0)) (st' := [.inl r_71, .inl v3_35]) rfl rfl (Or.inl (by decide)) rfl rfl (o_kdE g1) (md_73 (by omega) (o_kdE g1) q_71) rfl rfl rfl ?_
        obtain ⟨r_74, q_74, h⟩ := o_b1E h
        refine go_callS (pc' := 77) (B' := (0, 0)) (st' := [.inl r_74, .inl v3_35]) rfl rfl (Or.inl (by decide)) rfl rfl trivial (md_112 (by omega) q_74) rfl rfl rfl ?_
        refine go_iadd (pc' := 78) rfl rfl ?_
        obtain ⟨x3_78, ex3_78, h⟩ := o_b1E h
        refine go_ndI ex3_78 ?_
        refine go_istore_n (pc' := 79) (lo' := [some (.inr (.inr th)), some (.inl a0), some (.inr (.inr r_5)), some (.inl x3_78), some (.inl v4_35)]) rfl rfl rfl ?_
        obtain ⟨x4_79, ex4_79, h⟩ := o_b1E h
        refine go_iincE (pc' := 82) rfl rfl (y := (nI 1)) rfl ex4_79 (lo' := [some (.inr (.inr th)), some (.inl a0), some (.inr (.inr r_5)), some (.inl x3_78), some (.inl x4_79)]) rfl rfl ?_
        refine go_goto (pc' := 35) rfl rfl ?_
        exact (lp_backE h hk35 :))
    exact lo35 _ ((nI 0), (nI 0), I_27) hl35 
  · replace h := o_t (h10) h
    refine go_iconst (pc' := 14) (v := (-1 : Int32)) rfl rfl rfl ?_
    cases h
    exact go_iret rfl (trivial) ⟨rfl, rfl, rfl, rfl, rfl⟩
def m_107_j122 (I_111 : ai_I) (t0_122 : Int32) : Option (Int32 × ai_I) :=
  o_b1 (m_112 t0_122) (fun r_122 => some (r_122, I_111))
/-- PricedBases.initial(II)I -/
def m_107 (th : Nat) (a0 : Int32) (a1 : Int32) (I : ai_I) (Rf : ai_R) (G : ai_G) : Option (Int32 × ai_I) :=
  o_g (o_kd G (Rf th 0) 6) (o_b1 (m_65 (Rf th 0) a0 Rf G) (fun r_5 => if r_5 = 0 then (some ((-2147483648 : Int32), I)) else (o_g (o_kd G (Rf th 8) 7) (o_b1 (m_72 (Rf th 8) r_5 (Rf (Rf th 0) 1) I Rf G) (fun I_28 => if a1 < (nI 10) then (if a1 = (0 : Int32) then (o_b1 (m_76 (Rf th 8) r_5 I_28 Rf G) (fun r_81 => some (r_81, I_28))) else (if a1 = (1 : Int32) then (some (I_28 (Rf th 8) 1, I_28)) else (if a1 = (2 : Int32) then (o_g (o_kd G (Rf th 7) 2) (o_b2 (m_25 (Rf th 7) r_5 (Rf th 8) I_28 Rf G) (fun r_107 I_107 => o_b2 (m_21 (Rf th 7) r_5 r_107 (nI 0) I_107 Rf G) (fun r_111 I_111 => if r_111 = 0 then (m_107_j122 I_111 (nI 1)) else (m_107_j122 I_111 (nI 0)))))) else (some ((-2147483648 : Int32), I_28))))) else (o_b1 (m_77 (Rf th 8) r_5 (a1 - (nI 10)) I_28 Rf G) (fun r_46 => some (r_46, I_28))))))))
theorem md_107 {d : Nat} {I : ai_I} {J : ai_J} {Rf : ai_R} {G : ai_G} {th : Nat} {a0 : Int32} {a1 : Int32} {r : Int32} {I1 : ai_I} (hd : 5 ≤ d) (hth : G.1 th = 10) (h : m_107 th a0 a1 I Rf G = some (r, I1)) : ai_Cl si_t si_ms d 107 [.inr (.inr th), .inl a0, .inl a1] I J Rf G (some (.inl r)) I1 J Rf G := by
  obtain ⟨e, rfl⟩ : ∃ e, d = e + 1 := ⟨d - 1, by omega⟩
  unfold m_107 at h
  refine sp_in (lo := [some (.inr (.inr th)), some (.inl a0), some (.inl a1), none]) (B := (0, 0)) rfl (Nat.le_of_ble_eq_true rfl) rfl rfl ?_
  refine go_aload_n (pc' := 1) rfl rfl rfl ?_
  refine go_getR (pc' := 4) rfl rfl hth rfl ?_
  refine go_iload_n (pc' := 5) rfl rfl rfl ?_
  obtain ⟨g0, h⟩ := o_gE h
  obtain ⟨r_5, q_5, h⟩ := o_b1E h
  refine go_callV (pc' := 8) (B' := (0, 0)) (st' := [.inr (.inr r_5)]) rfl rfl (Or.inl (by decide)) rfl rfl (o_kdE g0) (md_65 (by omega) (o_kdE g0) q_5) rfl rfl rfl ?_
  refine go_astore_n (pc' := 9) (lo' := [some (.inr (.inr th)), some (.inl a0), some (.inl a1), some (.inr (.inr r_5))]) rfl rfl rfl ?_
  refine go_aload_n (pc' := 10) rfl rfl rfl ?_
  refine go_ifnonnull (pt := 16) (pc' := 13) rfl rfl rfl (fun h10 => ?_) (fun h10 => ?_)
  · replace h := o_f h10 h
    refine go_aload_n (pc' := 17) rfl rfl rfl ?_
    refine go_getR (pc' := 20) rfl rfl hth rfl ?_
    refine go_aload_n (pc' := 21) rfl rfl rfl ?_
    refine go_aload_n (pc' := 22) rfl rfl rfl ?_
    refine go_getR (pc' := 25) rfl rfl hth rfl ?_
    refine go_getR (pc' := 28) rfl rfl (o_kdE g0) rfl ?_
    obtain ⟨g1, h⟩ := o_gE h
    obtain ⟨I_28, q_28, h⟩ := o_b1E h
    refine go_callV (pc' := 31) (B' := (0, 0)) (st' := []) rfl rfl (Or.inl (by decide)) rfl rfl (o_kdE g1) (md_72 (by omega) (o_kdE g1) q_28) rfl rfl rfl ?_
    refine go_iload_n (pc' := 32) rfl rfl rfl ?_
    refine go_bipush (pc' := 34) (v := (nI 10)) rfl rfl rfl ?_
    refine go_icmp_lt (pt := 50) (pc' := 37) rfl rfl rfl (fun h34 => ?_) (fun h34 => ?_)
    · replace h := o_t h34 h
      refine go_iload_n (pc' := 51) rfl rfl rfl ?_
      by_cases c51_0 : a1 = (0 : Int32)
      · replace h := o_t c51_0 h
        refine go_swIn (pc' := 76) 0 rfl rfl (by rw [c51_0]; decide) (by rw [c51_0]; decide) rfl ?_
        refine go_aload_n (pc' := 77) rfl rfl rfl ?_
        refine go_getR (pc' := 80) rfl rfl hth rfl ?_
        refine go_aload_n (pc' := 81) rfl rfl rfl ?_
        obtain ⟨r_81, q_81, h⟩ := o_b1E h
        refine go_callV (pc' := 84) (B' := (0, 0)) (st' := [.inl r_81]) rfl rfl (Or.inl (by decide)) rfl rfl (o_kdE g1) (md_76 (by omega) (o_kdE g1) q_81) rfl rfl rfl ?_
        cases h
        exact go_iret rfl (trivial) ⟨rfl, rfl, rfl, rfl, rfl⟩
      replace h := o_f c51_0 h
      by_cases c51_1 : a1 = (1 : Int32)
      · replace h := o_t c51_1 h
        refine go_swIn (pc' := 85) 1 rfl rfl (by rw [c51_1]; decide) (by rw [c51_1]; decide) rfl ?_
        refine go_aload_n (pc' := 86) rfl rfl rfl ?_
        refine go_getR (pc' := 89) rfl rfl hth rfl ?_
        refine go_getI (pc' := 92) rfl rfl (by decide) (by decide) (o_kdE g1) rfl ?_
        cases h
        exact go_iret rfl (trivial) ⟨rfl, rfl, rfl, rfl, rfl⟩
      replace h := o_f c51_1 h
      by_cases c51_2 : a1 = (2 : Int32)
      · replace h := o_t c51_2 h
        refine go_swIn (pc' := 93) 2 rfl rfl (by rw [c51_2]; decide) (by rw [c51_2]; decide) rfl ?_
        refine go_aload_n (pc' := 94) rfl rfl rfl ?_
        refine go_getR (pc' := 97) rfl rfl hth rfl ?_
        refine go_aload_n (pc' := 98) rfl rfl rfl ?_
        refine go_aload_n (pc' := 99) rfl rfl rfl ?_
        refine go_getR (pc' := 102) rfl rfl hth rfl ?_
        refine go_aload_n (pc' := 103) rfl rfl rfl ?_
        refine go_aload_n (pc' := 104) rfl rfl rfl ?_
        refine go_getR (pc' := 107) rfl rfl hth rfl ?_
        obtain ⟨g2, h⟩ := o_gE h
        obtain ⟨r_107, I_107, q_107, h⟩ := o_b2E h
        refine go_callV (pc' := 110) (B' := (0, 0)) (st' := [.inr (.inr r_107), .inr (.inr r_5), .inr (.inr (Rf th 7))]) rfl rfl (Or.inl (by decide)) rfl rfl (o_kdE g2) (md_25 (by omega) (o_kdE g2) q_107) rfl rfl rfl ?_
        refine go_iconst (pc' := 111) (v := (nI 0)) rfl rfl rfl ?_
        obtain ⟨r_111, I_111, q_111, h⟩ := o_b2E h
        refine go_callV (pc' := 114) (B' := (0, 0)) (st' := [.inl r_111]) rfl rfl (Or.inl (by decide)) rfl rfl (o_kdE g2) (md_21 (by omega) (o_kdE g2) q_111) rfl rfl rfl ?_
        have jn122 : ∀ (t0_122 : Int32), m_107_j122 I_111 t0_122 = some (r, I1) → ai_Go si_t (10, false, 0, cd_107) (ai_Cl si_t si_ms e) (sp_Q (some (.inl r)) I1 J Rf G) 122 [some (.inr (.inr th)), some (.inl a0), some (.inl a1), some (.inr (.inr r_5))] [.inl t0_122] (0, 0) I_111 J Rf G := by
          intro t0_122 h
          unfold m_107_j122 at h
          obtain ⟨r_122, q_122, h⟩ := o_b1E h
          refine go_callS (pc' := 125) (B' := (0, 0)) (st' := [.inl r_122]) rfl rfl (Or.inl (by decide)) rfl rfl trivial (md_112 (by omega) q_122) rfl rfl rfl ?_
          cases h
          exact go_iret rfl (trivial) ⟨rfl, rfl, rfl, rfl, rfl⟩
        refine go_if_ne (pt := 121) (pc' := 117) rfl rfl rfl (fun h114 => ?_) (fun h114 => ?_)
        · replace h := o_f h114 h
          refine go_iconst (pc' := 122) (v := (nI 0)) rfl rfl rfl ?_
          exact jn122 (nI 0) h
        · replace h := o_t (Decidable.of_not_not h114) h
          refine go_iconst (pc' := 118) (v := (nI 1)) rfl rfl rfl ?_
          refine go_goto (pc' := 122) rfl rfl ?_
          exact jn122 (nI 1) h
      replace h := o_f c51_2 h
      refine go_swOut (pc' := 126) rfl (by
          rw [← Int32.toInt_inj] at c51_0
          rw [← Int32.toInt_inj] at c51_1
          rw [← Int32.toInt_inj] at c51_2
          have c51_0 : ¬ a1.toInt = 0 := c51_0
          have c51_1 : ¬ a1.toInt = 1 := c51_1
          have c51_2 : ¬ a1.toInt = 2 := c51_2
          show a1.toInt < 0 ∨ 0 + ((3 : Nat) : Int) ≤ a1.toInt
          omega) rfl ?_
      refine go_ldc (pc' := 128) (v := .inl (-2147483648 : Int32)) rfl rfl rfl ?_
      cases h
      exact go_iret rfl (trivial) ⟨rfl, rfl, rfl, rfl, rfl⟩
    · replace h := o_f h34 h
      refine go_aload_n (pc' := 38) rfl rfl rfl ?_
      refine go_getR (pc' := 41) rfl rfl hth rfl ?_
      refine go_aload_n (pc' := 42) rfl rfl rfl ?_
      refine go_iload_n (pc' := 43) rfl rfl rfl ?_
      refine go_bipush (pc' := 45) (v := (nI 10)) rfl rfl rfl ?_
      refine go_isub (pc' := 46) rfl rfl ?_
      obtain ⟨r_46, q_46, h⟩ := o_b1E h
      refine go_callV (pc' := 49) (B' := (0, 0)) (st' := [.inl r_46]) rfl rfl (Or.inl (by decide)) rfl rfl (o_kdE g1) (md_77 (by omega) (o_kdE g1) q_46) rfl rfl rfl ?_
      cases h
      exact go_iret rfl (trivial) ⟨rfl, rfl, rfl, rfl, rfl⟩
  · replace h := o_t (h10) h
    refine go_ldc (pc' := 15) (v := .inl (-2147483648 : Int32)) rfl rfl rfl ?_
    cases h
    exact go_iret rfl (trivial) ⟨rfl, rfl, rfl, rfl, rfl⟩
/-- PricedBases.space(I)I -/
def m_108 (th : Nat) (a0 : Int32) (I : ai_I) (Rf : ai_R) (G : ai_G) : Option (Int32 × ai_I) :=
  o_g (o_kd G (Rf th 0) 6) (o_b1 (m_65 (Rf th 0) a0 Rf G) (fun r_5 => if r_5 = 0 then (some ((-1 : Int32), I)) else (o_g (o_kd G (Rf th 9) 5) (o_b1 (m_57 (Rf th 9) r_5 (Rf (Rf th 0) 1) I Rf G) (fun I_27 => o_b1 (m_62 (Rf th 9) r_5 I_27 Rf G) (fun r_35 => o_b1 (m_112 r_35) (fun r_38 => some (r_38, I_27))))))))
theorem md_108 {d : Nat} {I : ai_I} {J : ai_J} {Rf : ai_R} {G : ai_G} {th : Nat} {a0 : Int32} {r : Int32} {I1 : ai_I} (hd : 6 ≤ d) (hth : G.1 th = 10) (h : m_108 th a0 I Rf G = some (r, I1)) : ai_Cl si_t si_ms d 108 [.inr (.inr th), .inl a0] I J Rf G (some (.inl r)) I1 J Rf G := by
  obtain ⟨e, rfl⟩ : ∃ e, d = e + 1 := ⟨d - 1, by omega⟩
  unfold m_108 at h
  refine sp_in (lo := [some (.inr (.inr th)), some (.inl a0), none]) (B := (0, 0)) rfl (Nat.le_of_ble_eq_true rfl) rfl rfl ?_
  refine go_aload_n (pc' := 1) rfl rfl rfl ?_
  refine go_getR (pc' := 4) rfl rfl hth rfl ?_
  refine go_iload_n (pc' := 5) rfl rfl rfl ?_
  obtain ⟨g0, h⟩ := o_gE h
  obtain ⟨r_5, q_5, h⟩ := o_b1E h
  refine go_callV (pc' := 8) (B' := (0, 0)) (st' := [.inr (.inr r_5)]) rfl rfl (Or.inl (by decide)) rfl rfl (o_kdE g0) (md_65 (by omega) (o_kdE g0) q_5) rfl rfl rfl ?_
  refine go_astore_n (pc' := 9) (lo' := [some (.inr (.inr th)), some (.inl a0), some (.inr (.inr r_5))]) rfl rfl rfl ?_
  refine go_aload_n (pc' := 10) rfl rfl rfl ?_
  refine go_ifnonnull (pt := 15) (pc' := 13) rfl rfl rfl (fun h10 => ?_) (fun h10 => ?_)
  · replace h := o_f h10 h
    refine go_aload_n (pc' := 16) rfl rfl rfl ?_
    refine go_getR (pc' := 19) rfl rfl hth rfl ?_
    refine go_aload_n (pc' := 20) rfl rfl rfl ?_
    refine go_aload_n (pc' := 21) rfl rfl rfl ?_
    refine go_getR (pc' := 24) rfl rfl hth rfl ?_
    refine go_getR (pc' := 27) rfl rfl (o_kdE g0) rfl ?_
    obtain ⟨g1, h⟩ := o_gE h
    obtain ⟨I_27, q_27, h⟩ := o_b1E h
    refine go_callV (pc' := 30) (B' := (0, 0)) (st' := []) rfl rfl (Or.inl (by decide)) rfl rfl (o_kdE g1) (md_57 (by omega) (o_kdE g1) q_27) rfl rfl rfl ?_
    refine go_aload_n (pc' := 31) rfl rfl rfl ?_
    refine go_getR (pc' := 34) rfl rfl hth rfl ?_
    refine go_aload_n (pc' := 35) rfl rfl rfl ?_
    obtain ⟨r_35, q_35, h⟩ := o_b1E h
    refine go_callV (pc' := 38) (B' := (0, 0)) (st' := [.inl r_35]) rfl rfl (Or.inl (by decide)) rfl rfl (o_kdE g1) (md_62 (by omega) (o_kdE g1) q_35) rfl rfl rfl ?_
    obtain ⟨r_38, q_38, h⟩ := o_b1E h
    refine go_callS (pc' := 41) (B' := (0, 0)) (st' := [.inl r_38]) rfl rfl (Or.inl (by decide)) rfl rfl trivial (md_112 (by omega) q_38) rfl rfl rfl ?_
    cases h
    exact go_iret rfl (trivial) ⟨rfl, rfl, rfl, rfl, rfl⟩
  · replace h := o_t (h10) h
    refine go_iconst (pc' := 14) (v := (-1 : Int32)) rfl rfl rfl ?_
    cases h
    exact go_iret rfl (trivial) ⟨rfl, rfl, rfl, rfl, rfl⟩
/-- PricedBases.failing(II)I -/
def m_109 (th : Nat) (a0 : Int32) (a1 : Int32) (I : ai_I) (Rf : ai_R) (G : ai_G) : Option (Int32 × ai_I) :=
  o_g (o_kd G (Rf th 0) 6) (o_b1 (m_65 (Rf th 0) a0 Rf G) (fun r_5 => if r_5 = 0 then (some ((-1 : Int32), I)) else (if (-1 : Int32) ≤ a1 then (o_g (o_kd G (Rf th 9) 5) (o_b1 (m_57 (Rf th 9) r_5 (Rf (Rf th 0) 1) I Rf G) (fun I_32 => if a1 = (-1 : Int32) then (o_b1 (m_61 (Rf th 9) r_5 I_32 Rf G) (fun r_45 => some (r_45, I_32))) else (o_b1 (m_60 (Rf th 9) r_5 a1 I_32 Rf G) (fun r_57 => some (r_57, I_32)))))) else (some ((-1 : Int32), I)))))
theorem md_109 {d : Nat} {I : ai_I} {J : ai_J} {Rf : ai_R} {G : ai_G} {th : Nat} {a0 : Int32} {a1 : Int32} {r : Int32} {I1 : ai_I} (hd : 5 ≤ d) (hth : G.1 th = 10) (h : m_109 th a0 a1 I Rf G = some (r, I1)) : ai_Cl si_t si_ms d 109 [.inr (.inr th), .inl a0, .inl a1] I J Rf G (some (.inl r)) I1 J Rf G := by
  obtain ⟨e, rfl⟩ : ∃ e, d = e + 1 := ⟨d - 1, by omega⟩
  unfold m_109 at h
  refine sp_in (lo := [some (.inr (.inr th)), some (.inl a0), some (.inl a1), none]) (B := (0, 0)) rfl (Nat.le_of_ble_eq_true rfl) rfl rfl ?_
  refine go_aload_n (pc' := 1) rfl rfl rfl ?_
  refine go_getR (pc' := 4) rfl rfl hth rfl ?_
  refine go_iload_n (pc' := 5) rfl rfl rfl ?_
  obtain ⟨g0, h⟩ := o_gE h
  obtain ⟨r_5, q_5, h⟩ := o_b1E h
  refine go_callV (pc' := 8) (B' := (0, 0)) (st' := [.inr (.inr r_5)]) rfl rfl (Or.inl (by decide)) rfl rfl (o_kdE g0) (md_65 (by omega) (o_kdE g0) q_5) rfl rfl rfl ?_
  refine go_astore_n (pc' := 9) (lo' := [some (.inr (.inr th)), some (.inl a0), some (.inl a1), some (.inr (.inr r_5))]) rfl rfl rfl ?_
  refine go_aload_n (pc' := 10) rfl rfl rfl ?_
  refine go_ifnull (pt := 18) (pc' := 13) rfl rfl rfl (fun h10 => ?_) (fun h10 => ?_)
  · replace h := o_t h10 h
    refine go_iconst (pc' := 19) (v := (-1 : Int32)) rfl rfl rfl ?_
    cases h
    exact go_iret rfl (trivial) ⟨rfl, rfl, rfl, rfl, rfl⟩
  · replace h := o_f h10 h
    refine go_iload_n (pc' := 14) rfl rfl rfl ?_
    refine go_iconst (pc' := 15) (v := (-1 : Int32)) rfl rfl rfl ?_
    refine go_icmp_ge (pt := 20) (pc' := 18) rfl rfl rfl (fun h15 => ?_) (fun h15 => ?_)
    · replace h := o_t h15 h
      refine go_aload_n (pc' := 21) rfl rfl rfl ?_
      refine go_getR (pc' := 24) rfl rfl hth rfl ?_
      refine go_aload_n (pc' := 25) rfl rfl rfl ?_
      refine go_aload_n (pc' := 26) rfl rfl rfl ?_
      refine go_getR (pc' := 29) rfl rfl hth rfl ?_
      refine go_getR (pc' := 32) rfl rfl (o_kdE g0) rfl ?_
      obtain ⟨g1, h⟩ := o_gE h
      obtain ⟨I_32, q_32, h⟩ := o_b1E h
      refine go_callV (pc' := 35) (B' := (0, 0)) (st' := []) rfl rfl (Or.inl (by decide)) rfl rfl (o_kdE g1) (md_57 (by omega) (o_kdE g1) q_32) rfl rfl rfl ?_
      refine go_iload_n (pc' := 36) rfl rfl rfl ?_
      refine go_iconst (pc' := 37) (v := (-1 : Int32)) rfl rfl rfl ?_
      refine go_icmp_ne (pt := 51) (pc' := 40) rfl rfl rfl (fun h37 => ?_) (fun h37 => ?_)
      · replace h := o_f h37 h
        refine go_aload_n (pc' := 52) rfl rfl rfl ?_
        refine go_getR (pc' := 55) rfl rfl hth rfl ?_
        refine go_aload_n (pc' := 56) rfl rfl rfl ?_
        refine go_iload_n (pc' := 57) rfl rfl rfl ?_
        obtain ⟨r_57, q_57, h⟩ := o_b1E h
        refine go_callV (pc' := 60) (B' := (0, 0)) (st' := [.inl r_57]) rfl rfl (Or.inl (by decide)) rfl rfl (o_kdE g1) (md_60 (by omega) (o_kdE g1) q_57) rfl rfl rfl ?_
        cases h
        exact go_iret rfl (trivial) ⟨rfl, rfl, rfl, rfl, rfl⟩
      · replace h := o_t (Decidable.of_not_not h37) h
        refine go_aload_n (pc' := 41) rfl rfl rfl ?_
        refine go_getR (pc' := 44) rfl rfl hth rfl ?_
        refine go_aload_n (pc' := 45) rfl rfl rfl ?_
        obtain ⟨r_45, q_45, h⟩ := o_b1E h
        refine go_callV (pc' := 48) (B' := (0, 0)) (st' := [.inl r_45]) rfl rfl (Or.inl (by decide)) rfl rfl (o_kdE g1) (md_61 (by omega) (o_kdE g1) q_45) rfl rfl rfl ?_
        refine go_goto (pc' := 60) rfl rfl ?_
        cases h
        exact go_iret rfl (trivial) ⟨rfl, rfl, rfl, rfl, rfl⟩
    · replace h := o_f h15 h
      refine go_iconst (pc' := 19) (v := (-1 : Int32)) rfl rfl rfl ?_
      cases h
      exact go_iret rfl (trivial) ⟨rfl, rfl, rfl, rfl, rfl⟩
/-- PricedBases.spanned(II)I -/
def m_110 (th : Nat) (a0 : Int32) (a1 : Int32) (I : ai_I) (Rf : ai_R) (G : ai_G) : Option (Int32 × ai_I) :=
  o_g (o_kd G (Rf th 0) 6) (o_b1 (m_65 (Rf th 0) a0 Rf G) (fun r_5 => if r_5 = 0 then (some ((-1 : Int32), I)) else (if a1 < 0 then (some ((-1 : Int32), I)) else (if a1 ≤ (nI 1) then (if a1 = 0 then (o_g (o_kd G r_5 8) (o_b1 (m_51 r_5 ((I r_5 1) - (nI 1)) I Rf G) (fun r_35 => some (r_35, I)))) else (o_g (o_kd G (Rf th 9) 5) (o_b2 (m_63 (Rf th 9) r_5 I Rf G) (fun r_46 I_46 => some (r_46, I_46))))) else (some ((-1 : Int32), I))))))
theorem md_110 {d : Nat} {I : ai_I} {J : ai_J} {Rf : ai_R} {G : ai_G} {th : Nat} {a0 : Int32} {a1 : Int32} {r : Int32} {I1 : ai_I} (hd : 7 ≤ d) (hth : G.1 th = 10) (h : m_110 th a0 a1 I Rf G = some (r, I1)) : ai_Cl si_t si_ms d 110 [.inr (.inr th), .inl a0, .inl a1] I J Rf G (some (.inl r)) I1 J Rf G := by
  obtain ⟨e, rfl⟩ : ∃ e, d = e + 1 := ⟨d - 1, by omega⟩
  unfold m_110 at h
  refine sp_in (lo := [some (.inr (.inr th)), some (.inl a0), some (.inl a1), none]) (B := (0, 0)) rfl (Nat.le_of_ble_eq_true rfl) rfl rfl ?_
  refine go_aload_n (pc' := 1) rfl rfl rfl ?_
  refine go_getR (pc' := 4) rfl rfl hth rfl ?_
  refine go_iload_n (pc' := 5) rfl rfl rfl ?_
  obtain ⟨g0, h⟩ := o_gE h
  obtain ⟨r_5, q_5, h⟩ := o_b1E h
  refine go_callV (pc' := 8) (B' := (0, 0)) (st' := [.inr (.inr r_5)]) rfl rfl (Or.inl (by decide)) rfl rfl (o_kdE g0) (md_65 (by omega) (o_kdE g0) q_5) rfl rfl rfl ?_
  refine go_astore_n (pc' := 9) (lo' := [some (.inr (.inr th)), some (.inl a0), some (.inl a1), some (.inr (.inr r_5))]) rfl rfl rfl ?_
  refine go_aload_n (pc' := 10) rfl rfl rfl ?_
  refine go_ifnull (pt := 22) (pc' := 13) rfl rfl rfl (fun h10 => ?_) (fun h10 => ?_)
  · replace h := o_t h10 h
    refine go_iconst (pc' := 23) (v := (-1 : Int32)) rfl rfl rfl ?_
    cases h
    exact go_iret rfl (trivial) ⟨rfl, rfl, rfl, rfl, rfl⟩
  · replace h := o_f h10 h
    refine go_iload_n (pc' := 14) rfl rfl rfl ?_
    refine go_if_lt (pt := 22) (pc' := 17) rfl rfl rfl (fun h14 => ?_) (fun h14 => ?_)
    · replace h := o_t h14 h
      refine go_iconst (pc' := 23) (v := (-1 : Int32)) rfl rfl rfl ?_
      cases h
      exact go_iret rfl (trivial) ⟨rfl, rfl, rfl, rfl, rfl⟩
    · replace h := o_f h14 h
      refine go_iload_n (pc' := 18) rfl rfl rfl ?_
      refine go_iconst (pc' := 19) (v := (nI 1)) rfl rfl rfl ?_
      refine go_icmp_le (pt := 24) (pc' := 22) rfl rfl rfl (fun h19 => ?_) (fun h19 => ?_)
      · replace h := o_t h19 h
        refine go_iload_n (pc' := 25) rfl rfl rfl ?_
        refine go_if_ne (pt := 41) (pc' := 28) rfl rfl rfl (fun h25 => ?_) (fun h25 => ?_)
        · replace h := o_f h25 h
          refine go_aload_n (pc' := 42) rfl rfl rfl ?_
          refine go_getR (pc' := 45) rfl rfl hth rfl ?_
          refine go_aload_n (pc' := 46) rfl rfl rfl ?_
          obtain ⟨g1, h⟩ := o_gE h
          obtain ⟨r_46, I_46, q_46, h⟩ := o_b2E h
          refine go_callV (pc' := 49) (B' := (0, 0)) (st' := [.inl r_46]) rfl rfl (Or.inl (by decide)) rfl rfl (o_kdE g1) (md_63 (by omega) (o_kdE g1) q_46) rfl rfl rfl ?_
          cases h
          exact go_iret rfl (trivial) ⟨rfl, rfl, rfl, rfl, rfl⟩
        · replace h := o_t (Decidable.of_not_not h25) h
          refine go_aload_n (pc' := 29) rfl rfl rfl ?_
          refine go_aload_n (pc' := 30) rfl rfl rfl ?_
          obtain ⟨g2, h⟩ := o_gE h
          refine go_getI (pc' := 33) rfl rfl (by decide) (by decide) (o_kdE g2) rfl ?_
          refine go_iconst (pc' := 34) (v := (nI 1)) rfl rfl rfl ?_
          refine go_isub (pc' := 35) rfl rfl ?_
          obtain ⟨r_35, q_35, h⟩ := o_b1E h
          refine go_callS (pc' := 38) (B' := (0, 0)) (st' := [.inl r_35]) rfl rfl (Or.inl (by decide)) rfl rfl trivial (md_51 (by omega) q_35) rfl rfl rfl ?_
          refine go_goto (pc' := 49) rfl rfl ?_
          cases h
          exact go_iret rfl (trivial) ⟨rfl, rfl, rfl, rfl, rfl⟩
      · replace h := o_f h19 h
        refine go_iconst (pc' := 23) (v := (-1 : Int32)) rfl rfl rfl ?_
        cases h
        exact go_iret rfl (trivial) ⟨rfl, rfl, rfl, rfl, rfl⟩
/-- PricedBases.count(I)I -/
def m_111 (th : Nat) (a0 : Int32) (I : ai_I) (Rf : ai_R) (G : ai_G) : Option (Int32) :=
  if a0 = (0 : Int32) then (some (I th 4)) else (if a0 = (1 : Int32) then (o_g (o_kd G (Rf th 0) 6) (some (I (Rf th 0) 4))) else (if a0 = (2 : Int32) then (o_g (o_kd G (Rf th 0) 6) (o_b1 (m_68 (Rf th 0) I Rf G) (fun r_45 => some r_45))) else (some (-1 : Int32))))
theorem md_111 {d : Nat} {I : ai_I} {J : ai_J} {Rf : ai_R} {G : ai_G} {th : Nat} {a0 : Int32} {r : Int32} (hd : 2 ≤ d) (hth : G.1 th = 10) (h : m_111 th a0 I Rf G = some r) : ai_Cl si_t si_ms d 111 [.inr (.inr th), .inl a0] I J Rf G (some (.inl r)) I J Rf G := by
  obtain ⟨e, rfl⟩ : ∃ e, d = e + 1 := ⟨d - 1, by omega⟩
  unfold m_111 at h
  refine sp_in (lo := [some (.inr (.inr th)), some (.inl a0)]) (B := (0, 0)) rfl (Nat.le_of_ble_eq_true rfl) rfl rfl ?_
  refine go_iload_n (pc' := 1) rfl rfl rfl ?_
  by_cases c1_0 : a0 = (0 : Int32)
  · replace h := o_t c1_0 h
    refine go_swIn (pc' := 28) 0 rfl rfl (by rw [c1_0]; decide) (by rw [c1_0]; decide) rfl ?_
    refine go_aload_n (pc' := 29) rfl rfl rfl ?_
    refine go_getI (pc' := 32) rfl rfl (by decide) (by decide) hth rfl ?_
    cases h
    exact go_iret rfl (trivial) ⟨rfl, rfl, rfl, rfl, rfl⟩
  replace h := o_f c1_0 h
  by_cases c1_1 : a0 = (1 : Int32)
  · replace h := o_t c1_1 h
    refine go_swIn (pc' := 33) 1 rfl rfl (by rw [c1_1]; decide) (by rw [c1_1]; decide) rfl ?_
    refine go_aload_n (pc' := 34) rfl rfl rfl ?_
    refine go_getR (pc' := 37) rfl rfl hth rfl ?_
    obtain ⟨g0, h⟩ := o_gE h
    refine go_getI (pc' := 40) rfl rfl (by decide) (by decide) (o_kdE g0) rfl ?_
    cases h
    exact go_iret rfl (trivial) ⟨rfl, rfl, rfl, rfl, rfl⟩
  replace h := o_f c1_1 h
  by_cases c1_2 : a0 = (2 : Int32)
  · replace h := o_t c1_2 h
    refine go_swIn (pc' := 41) 2 rfl rfl (by rw [c1_2]; decide) (by rw [c1_2]; decide) rfl ?_
    refine go_aload_n (pc' := 42) rfl rfl rfl ?_
    refine go_getR (pc' := 45) rfl rfl hth rfl ?_
    obtain ⟨g1, h⟩ := o_gE h
    obtain ⟨r_45, q_45, h⟩ := o_b1E h
    refine go_callV (pc' := 48) (B' := (0, 0)) (st' := [.inl r_45]) rfl rfl (Or.inl (by decide)) rfl rfl (o_kdE g1) (md_68 (by omega) (o_kdE g1) q_45) rfl rfl rfl ?_
    cases h
    exact go_iret rfl (trivial) ⟨rfl, rfl, rfl, rfl, rfl⟩
  replace h := o_f c1_2 h
  refine go_swOut (pc' := 49) rfl (by
      rw [← Int32.toInt_inj] at c1_0
      rw [← Int32.toInt_inj] at c1_1
      rw [← Int32.toInt_inj] at c1_2
      have c1_0 : ¬ a0.toInt = 0 := c1_0
      have c1_1 : ¬ a0.toInt = 1 := c1_1
      have c1_2 : ¬ a0.toInt = 2 := c1_2
      show a0.toInt < 0 ∨ 0 + ((3 : Nat) : Int) ≤ a0.toInt
      omega) rfl ?_
  refine go_iconst (pc' := 50) (v := (-1 : Int32)) rfl rfl rfl ?_
  cases h
  exact go_iret rfl (trivial) ⟨rfl, rfl, rfl, rfl, rfl⟩
def m_117_x2_119 (Ix_119 : ai_I) (Gx_119 : ai_G) (Bx_119 : Nat × Nat) : Option (ai_I × ai_G) :=
  some (Ix_119, Gx_119)
def m_117_x35_88 (a0 : Nat) (Rf : ai_R) (v3_2 : Int32) (G_8 : ai_G) (n_8 : Nat) (B_8 : Nat × Nat) (Ix_88 : ai_I) : Option ((Int32 × ai_I × ai_G × Nat × Nat) ⊕ (ai_I × ai_G × Nat × Nat)) :=
  o_g (o_in G_8 13 n_8 (nI 0)) (o_g (o_in G_8 13 n_8 (nI 1)) (o_g (o_in G_8 13 n_8 (nI 2)) (o_g (o_in G_8 13 n_8 (nI 3)) (o_g (o_in G_8 13 n_8 (nI 4)) (o_g (o_kd G_8 a0 10) (o_b2 (m_95 a0 (Ix_88 n_8 (nI 0).toNatClampNeg) (Ix_88 n_8 (nI 1).toNatClampNeg) (Ix_88 n_8 (nI 2).toNatClampNeg) (Ix_88 n_8 (nI 3).toNatClampNeg) (Ix_88 n_8 (nI 4).toNatClampNeg) Ix_88 Rf G_8) (fun r_109 I_109 => o_b1 (some (v3_2 + (nI 20))) (fun x3_113 => some (Sum.inl (x3_113, I_109, G_8, B_8))))))))))
def m_117_j80 (G_8 : ai_G) (n_8 : Nat) (v5_35 : Int32) (I_35 : ai_I) (t3_80 : Int32) : Option ((Int32 × ai_I) ⊕ ai_I) :=
  o_g (o_in G_8 13 n_8 (v5_35 / (nI 4))) (o_b1 (some (va_up I_35 n_8 (va_up (I_35 n_8) (v5_35 / (nI 4)).toNatClampNeg (((I_35 n_8 (v5_35 / (nI 4)).toNatClampNeg) <<< ((nI 8) &&& 31)) ||| t3_80)))) (fun I_81 => o_b1 (some (v5_35 + (nI 1))) (fun x5_82 => some (Sum.inl (x5_82, I_81)))))
def m_117_b35 (a1 : Nat) (a2 : Int32) (v3_2 : Int32) (G_8 : ai_G) (n_8 : Nat) (v5_35 : Int32) (I_35 : ai_I) : Option ((Int32 × ai_I) ⊕ ai_I) :=
  if (nI 20) ≤ v5_35 then (some (Sum.inr I_35)) else (o_g (o_in G_8 13 n_8 (v5_35 / (nI 4))) (if a2 ≤ (v3_2 + v5_35) then (m_117_j80 G_8 n_8 v5_35 I_35 (nI 0)) else (o_g (o_in G_8 13 a1 (v3_2 + v5_35)) (m_117_j80 G_8 n_8 v5_35 I_35 ((I_35 a1 (v3_2 + v5_35).toNatClampNeg) &&& (nI 255))))))
def m_117_b2 (a0 : Nat) (a1 : Nat) (a2 : Int32) (Rf : ai_R) (v3_2 : Int32) (I_2 : ai_I) (G_2 : ai_G) (B_2 : Nat × Nat) : Option ((Int32 × ai_I × ai_G × Nat × Nat) ⊕ (ai_I × ai_G × Nat × Nat)) :=
  if a2 ≤ v3_2 then (some (Sum.inr (I_2, G_2, B_2))) else (o_g (o_lt9 G_2) (o_g (o_bd B_2 1 5) (o_b1 (some (va_up I_2 (G_2.2.2 + 1) (fun _ => 0))) (fun I_8 => o_b1 (some (va_up G_2.1 (G_2.2.2 + 1) 13, va_up G_2.2.1 (G_2.2.2 + 1) 5, G_2.2.2 + 1)) (fun G_8 => o_b1 (some (G_2.2.2 + 1)) (fun n_8 => o_b1 (some ((B_2.1 - 1, B_2.2 - 5) : Nat × Nat)) (fun B_8 => o_s1 (lp (fun s => m_117_b35 a1 a2 v3_2 G_8 n_8 s.1 s.2) o_N ((nI 0), I_8)) (fun t => m_117_x35_88 a0 Rf v3_2 G_8 n_8 B_8 t))))))))
/-- PricedBasesLaw.tell(LPricedBases;[II)V -/
def m_117 (a0 : Nat) (a1 : Nat) (a2 : Int32) (I : ai_I) (Rf : ai_R) (G : ai_G) : Option (ai_I × ai_G) :=
  o_b1 (some ((11, 55) : Nat × Nat)) (fun B_00 => o_s1 (lp (fun s => m_117_b2 a0 a1 a2 Rf s.1 s.2.1 s.2.2.1 s.2.2.2) o_N ((nI 0), I, G, B_00)) (fun t => m_117_x2_119 t.1 t.2.1 t.2.2))
theorem md_117 {d : Nat} {I : ai_I} {J : ai_J} {Rf : ai_R} {G : ai_G} {a0 : Nat} {a1 : Nat} {a2 : Int32} {I1 : ai_I} {G1 : ai_G} (hd : 3 ≤ d) (h : m_117 a0 a1 a2 I Rf G = some (I1, G1)) : ai_Cl si_t si_ms d 117 [.inr (.inr a0), .inr (.inr a1), .inl a2] I J Rf G none I1 J Rf G1 := by
  obtain ⟨e, rfl⟩ : ∃ e, d = e + 1 := ⟨d - 1, by omega⟩
  unfold m_117 at h
  refine sp_in (lo := [some (.inr (.inr a0)), some (.inr (.inr a1)), some (.inl a2), none, none, none]) (B := (11, 55)) rfl (Nat.le_of_ble_eq_true rfl) rfl rfl ?_
  obtain ⟨B_00, eB_00, h⟩ := o_b1E h
  refine go_ndBs eB_00 ?_
  refine go_iconst (pc' := 1) (v := (nI 0)) rfl rfl rfl ?_
  refine go_istore_n (pc' := 2) (lo' := [some (.inr (.inr a0)), some (.inr (.inr a1)), some (.inl a2), some (.inl (nI 0)), none, none]) rfl rfl rfl ?_
  obtain ⟨q2, hl2, hc2_119⟩ := o_s1E h
  have ex2_119 : ∀ (Ix_119 : ai_I) (Gx_119 : ai_G) (Bx_119 : Nat × Nat) (z3_x119 : Option ai_V) (h_z3_x119 : ai_isL z3_x119 = false) (z4_x119 : Option ai_V) (h_z4_x119 : ai_isL z4_x119 = false) (z5_x119 : Option ai_V) (h_z5_x119 : ai_isL z5_x119 = false), (Ix_119, Gx_119, Bx_119) = q2 → ai_Go si_t (23, false, 9, cd_117) (ai_Cl si_t si_ms e) (sp_Q none I1 J Rf G1) 119 [some (.inr (.inr a0)), some (.inr (.inr a1)), some (.inl a2), z3_x119, z4_x119, z5_x119] [] Bx_119 Ix_119 J Rf Gx_119 := by
    intro Ix_119 Gx_119 Bx_119 z3_x119 h_z3_x119 z4_x119 h_z4_x119 z5_x119 h_z5_x119 hq
    have h : m_117_x2_119 Ix_119 Gx_119 Bx_119 = some (I1, G1) := hc2_119 (Ix_119, Gx_119, Bx_119) hq.symm
    unfold m_117_x2_119 at h
    cases h
    exact go_vret rfl (rfl) ⟨rfl, rfl, rfl, rfl, rfl⟩
  have lo2 : ∀ n s, lp (fun s => m_117_b2 a0 a1 a2 Rf s.1 s.2.1 s.2.2.1 s.2.2.2) n s = some q2 → (fun s => ∀ (z4_2 : Option ai_V) (h_z4_2 : ai_isL z4_2 = false) (z5_2 : Option ai_V) (h_z5_2 : ai_isL z5_2 = false), ai_Go si_t (23, false, 9, cd_117) (ai_Cl si_t si_ms e) (sp_Q none I1 J Rf G1) 2 [some (.inr (.inr a0)), some (.inr (.inr a1)), some (.inl a2), some (.inl s.1), z4_2, z5_2] [] s.2.2.2 s.2.1 J Rf s.2.2.1) s := lp_go (fun s x2 hx hk2 => by
    obtain ⟨v3_2, I_2, G_2, B_2⟩ := s
    intro z4_2 h_z4_2 z5_2 h_z5_2
    have h : m_117_b2 a0 a1 a2 Rf v3_2 I_2 G_2 B_2 = some x2 := hx
    clear hx
    show ai_Go si_t (23, false, 9, cd_117) (ai_Cl si_t si_ms e) (sp_Q none I1 J Rf G1) 2 [some (.inr (.inr a0)), some (.inr (.inr a1)), some (.inl a2), some (.inl v3_2), z4_2, z5_2] [] B_2 I_2 J Rf G_2
    unfold m_117_b2 at h
    refine go_iload_n (pc' := 3) rfl rfl rfl ?_
    refine go_iload_n (pc' := 4) rfl rfl rfl ?_
    refine go_icmp_ge (pt := 119) (pc' := 7) rfl rfl rfl (fun h4 => ?_) (fun h4 => ?_)
    · replace h := o_t h4 h
      exact ex2_119 _ _ _ (some (.inl v3_2)) rfl z4_2 h_z4_2 z5_2 h_z5_2 (lp_exitE h hk2)
    · replace h := o_f h4 h
      refine go_iconst (pc' := 8) (v := (nI 5)) rfl rfl rfl ?_
      obtain ⟨g0, h⟩ := o_gE h
      obtain ⟨g1, h⟩ := o_gE h
      refine go_newI (pc' := 10) (N := 5) rfl (by decide) (by decide) (o_bdE1 g1) (o_bdE2 g1) (by decide) (o_lt9E g0) rfl ?_
      obtain ⟨I_8, eI_8, h⟩ := o_b1E h
      obtain ⟨G_8, eG_8, h⟩ := o_b1E h
      obtain ⟨n_8, en_8, h⟩ := o_b1E h
      refine go_ndMI eI_8 ?_
      refine go_ndMG eG_8 ?_
      refine go_ndR en_8 ?_
      obtain ⟨B_8, eB_8, h⟩ := o_b1E h
      refine go_ndBs eB_8 ?_
      refine go_dupR (pc' := 11) rfl rfl ?_
      refine go_iconst (pc' := 12) (v := (nI 0)) rfl rfl rfl ?_
      refine go_iconst (pc' := 13) (v := (nI 0)) rfl rfl rfl ?_
      refine go_iast0 (pc' := 14) rfl (o_newK en_8 eG_8) (o_newI0 en_8 eG_8 (Nat.le_of_ble_eq_true rfl) (Nat.le_of_ble_eq_true rfl)) (o_newZ en_8 eI_8) rfl ?_
      refine go_dupR (pc' := 15) rfl rfl ?_
      refine go_iconst (pc' := 16) (v := (nI 1)) rfl rfl rfl ?_
      refine go_iconst (pc' := 17) (v := (nI 0)) rfl rfl rfl ?_
      refine go_iast0 (pc' := 18) rfl (o_newK en_8 eG_8) (o_newI0 en_8 eG_8 (Nat.le_of_ble_eq_true rfl) (Nat.le_of_ble_eq_true rfl)) (o_newZ en_8 eI_8) rfl ?_
      refine go_dupR (pc' := 19) rfl rfl ?_
      refine go_iconst (pc' := 20) (v := (nI 2)) rfl rfl rfl ?_
      refine go_iconst (pc' := 21) (v := (nI 0)) rfl rfl rfl ?_
      refine go_iast0 (pc' := 22) rfl (o_newK en_8 eG_8) (o_newI0 en_8 eG_8 (Nat.le_of_ble_eq_true rfl) (Nat.le_of_ble_eq_true rfl)) (o_newZ en_8 eI_8) rfl ?_
      refine go_dupR (pc' := 23) rfl rfl ?_
      refine go_iconst (pc' := 24) (v := (nI 3)) rfl rfl rfl ?_
      refine go_iconst (pc' := 25) (v := (nI 0)) rfl rfl rfl ?_
      refine go_iast0 (pc' := 26) rfl (o_newK en_8 eG_8) (o_newI0 en_8 eG_8 (Nat.le_of_ble_eq_true rfl) (Nat.le_of_ble_eq_true rfl)) (o_newZ en_8 eI_8) rfl ?_
      refine go_dupR (pc' := 27) rfl rfl ?_
      refine go_iconst (pc' := 28) (v := (nI 4)) rfl rfl rfl ?_
      refine go_iconst (pc' := 29) (v := (nI 0)) rfl rfl rfl ?_
      refine go_iast0 (pc' := 30) rfl (o_newK en_8 eG_8) (o_newI0 en_8 eG_8 (Nat.le_of_ble_eq_true rfl) (Nat.le_of_ble_eq_true rfl)) (o_newZ en_8 eI_8) rfl ?_
      refine go_astore (pc' := 32) (lo' := [some (.inr (.inr a0)), some (.inr (.inr a1)), some (.inl a2), some (.inl v3_2), some (.inr (.inr n_8)), z5_2]) rfl rfl rfl ?_
      refine go_iconst (pc' := 33) (v := (nI 0)) rfl rfl rfl ?_
      refine go_istore (pc' := 35) (lo' := [some (.inr (.inr a0)), some (.inr (.inr a1)), some (.inl a2), some (.inl v3_2), some (.inr (.inr n_8)), some (.inl (nI 0))]) rfl rfl rfl ?_
      obtain ⟨q35, hl35, hc35_88⟩ := o_s1E h
      have ex35_88 : ∀ (Ix_88 : ai_I) (z5_x88 : Option ai_V) (h_z5_x88 : ai_isL z5_x88 = false), Ix_88 = q35 → ai_Go si_t (23, false, 9, cd_117) (ai_Cl si_t si_ms e) (sp_Q none I1 J Rf G1) 88 [some (.inr (.inr a0)), some (.inr (.inr a1)), some (.inl a2), some (.inl v3_2), some (.inr (.inr n_8)), z5_x88] [] B_8 Ix_88 J Rf G_8 := by
        intro Ix_88 z5_x88 h_z5_x88 hq
        have h : m_117_x35_88 a0 Rf v3_2 G_8 n_8 B_8 Ix_88 = some x2 := hc35_88 Ix_88 hq.symm
        unfold m_117_x35_88 at h
        refine go_aload_n (pc' := 89) rfl rfl rfl ?_
        refine go_aload (pc' := 91) rfl rfl rfl ?_
        refine go_iconst (pc' := 92) (v := (nI 0)) rfl rfl rfl ?_
        obtain ⟨g2, h⟩ := o_gE h
        refine go_iaload (pc' := 93) rfl (o_inK g2) (o_inB g2) rfl ?_
        refine go_aload (pc' := 95) rfl rfl rfl ?_
        refine go_iconst (pc' := 96) (v := (nI 1)) rfl rfl rfl ?_
        obtain ⟨g3, h⟩ := o_gE h
        refine go_iaload (pc' := 97) rfl (o_inK g3) (o_inB g3) rfl ?_
        refine go_aload (pc' := 99) rfl rfl rfl ?_
        refine go_iconst (pc' := 100) (v := (nI 2)) rfl rfl rfl ?_
        obtain ⟨g4, h⟩ := o_gE h
        refine go_iaload (pc' := 101) rfl (o_inK g4) (o_inB g4) rfl ?_
        refine go_aload (pc' := 103) rfl rfl rfl ?_
        refine go_iconst (pc' := 104) (v := (nI 3)) rfl rfl rfl ?_
        obtain ⟨g5, h⟩ := o_gE h
        refine go_iaload (pc' := 105) rfl (o_inK g5) (o_inB g5) rfl ?_
        refine go_aload (pc' := 107) rfl rfl rfl ?_
        refine go_iconst (pc' := 108) (v := (nI 4)) rfl rfl rfl ?_
        obtain ⟨g6, h⟩ := o_gE h
        refine go_iaload (pc' := 109) rfl (o_inK g6) (o_inB g6) rfl ?_
        obtain ⟨g7, h⟩ := o_gE h
        obtain ⟨r_109, I_109, q_109, h⟩ := o_b2E h
        refine go_callVb (pc' := 112) (b1 := 0) (b2 := 0) (st' := [.inl r_109]) rfl rfl (Or.inl (by decide)) rfl rfl rfl o_bd0 rfl (o_kdE g7) (md_95 (by omega) (o_kdE g7) q_109) rfl rfl rfl ?_
        refine go_popI (pc' := 113) rfl rfl ?_
        obtain ⟨x3_113, ex3_113, h⟩ := o_b1E h
        refine go_iincE (pc' := 116) rfl rfl (y := (nI 20)) rfl ex3_113 (lo' := [some (.inr (.inr a0)), some (.inr (.inr a1)), some (.inl a2), some (.inl x3_113), some (.inr (.inr n_8)), z5_x88]) rfl rfl ?_
        refine go_goto (pc' := 2) rfl rfl ?_
        exact (lp_backE h hk2 (some (.inr (.inr n_8))) rfl z5_x88 h_z5_x88 :)
      have lo35 : ∀ n s, lp (fun s => m_117_b35 a1 a2 v3_2 G_8 n_8 s.1 s.2) n s = some q35 → (fun s => ai_Go si_t (23, false, 9, cd_117) (ai_Cl si_t si_ms e) (sp_Q none I1 J Rf G1) 35 [some (.inr (.inr a0)), some (.inr (.inr a1)), some (.inl a2), some (.inl v3_2), some (.inr (.inr n_8)), some (.inl s.1)] [] B_8 s.2 J Rf G_8) s := lp_go (fun s x35 hx hk35 => by
        obtain ⟨v5_35, I_35⟩ := s
        have h : m_117_b35 a1 a2 v3_2 G_8 n_8 v5_35 I_35 = some x35 := hx
        clear hx
        show ai_Go si_t (23, false, 9, cd_117) (ai_Cl si_t si_ms e) (sp_Q none I1 J Rf G1) 35 [some (.inr (.inr a0)), some (.inr (.inr a1)), some (.inl a2), some (.inl v3_2), some (.inr (.inr n_8)), some (.inl v5_35)] [] B_8 I_35 J Rf G_8
        unfold m_117_b35 at h
        refine go_iload (pc' := 37) rfl rfl rfl ?_
        refine go_bipush (pc' := 39) (v := (nI 20)) rfl rfl rfl ?_
        refine go_icmp_ge (pt := 88) (pc' := 42) rfl rfl rfl (fun h39 => ?_) (fun h39 => ?_)
        · replace h := o_t h39 h
          exact ex35_88 _ (some (.inl v5_35)) rfl (lp_exitE h hk35)
        · replace h := o_f h39 h
          refine go_aload (pc' := 44) rfl rfl rfl ?_
          refine go_iload (pc' := 46) rfl rfl rfl ?_
          refine go_iconst (pc' := 47) (v := (nI 4)) rfl rfl rfl ?_
          refine go_idiv (pc' := 48) rfl (by decide) rfl ?_
          refine go_aload (pc' := 50) rfl rfl rfl ?_
          refine go_iload (pc' := 52) rfl rfl rfl ?_
          refine go_iconst (pc' := 53) (v := (nI 4)) rfl rfl rfl ?_
          refine go_idiv (pc' := 54) rfl (by decide) rfl ?_
          obtain ⟨g8, h⟩ := o_gE h
          refine go_iaload (pc' := 55) rfl (o_inK g8) (o_inB g8) rfl ?_
          refine go_bipush (pc' := 57) (v := (nI 8)) rfl rfl rfl ?_
          refine go_ishl (pc' := 58) rfl rfl ?_
          refine go_iload_n (pc' := 59) rfl rfl rfl ?_
          refine go_iload (pc' := 61) rfl rfl rfl ?_
          refine go_iadd (pc' := 62) rfl rfl ?_
          refine go_iload_n (pc' := 63) rfl rfl rfl ?_
          have jn80 : ∀ (t3_80 : Int32), m_117_j80 G_8 n_8 v5_35 I_35 t3_80 = some x35 → ai_Go si_t (23, false, 9, cd_117) (ai_Cl si_t si_ms e) (sp_Q none I1 J Rf G1) 80 [some (.inr (.inr a0)), some (.inr (.inr a1)), some (.inl a2), some (.inl v3_2), some (.inr (.inr n_8)), some (.inl v5_35)] [.inl t3_80, .inl ((I_35 n_8 (v5_35 / (nI 4)).toNatClampNeg) <<< ((nI 8) &&& 31)), .inl (v5_35 / (nI 4)), .inr (.inr n_8)] B_8 I_35 J Rf G_8 := by
            intro t3_80 h
            unfold m_117_j80 at h
            refine go_ior (pc' := 81) rfl rfl ?_
            obtain ⟨g9, h⟩ := o_gE h
            obtain ⟨I_81, eI_81, h⟩ := o_b1E h
            refine go_iastore (pc' := 82) rfl (o_inK g9) (o_inB g9) rfl ?_
            refine go_ndMI eI_81 ?_
            obtain ⟨x5_82, ex5_82, h⟩ := o_b1E h
            refine go_iincE (pc' := 85) rfl rfl (y := (nI 1)) rfl ex5_82 (lo' := [some (.inr (.inr a0)), some (.inr (.inr a1)), some (.inl a2), some (.inl v3_2), some (.inr (.inr n_8)), some (.inl x5_82)]) rfl rfl ?_
            refine go_goto (pc' := 35) rfl rfl ?_
            exact (lp_backE h hk35 :)
          refine go_icmp_ge (pt := 79) (pc' := 66) rfl rfl rfl (fun h63 => ?_) (fun h63 => ?_)
          · replace h := o_t h63 h
            refine go_iconst (pc' := 80) (v := (nI 0)) rfl rfl rfl ?_
            exact jn80 (nI 0) h
          · replace h := o_f h63 h
            refine go_aload_n (pc' := 67) rfl rfl rfl ?_
            refine go_iload_n (pc' := 68) rfl rfl rfl ?_
            refine go_iload (pc' := 70) rfl rfl rfl ?_
            refine go_iadd (pc' := 71) rfl rfl ?_
            obtain ⟨g10, h⟩ := o_gE h
            refine go_iaload (pc' := 72) rfl (o_inK g10) (o_inB g10) rfl ?_
            refine go_sipush (pc' := 75) (v := (nI 255)) rfl rfl rfl ?_
            refine go_iand (pc' := 76) rfl rfl ?_
            refine go_goto (pc' := 80) rfl rfl ?_
            exact jn80 ((I_35 a1 (v3_2 + v5_35).toNatClampNeg) &&& (nI 255)) h)
      exact lo35 _ ((nI 0), I_8) hl35 )
  exact lo2 _ ((nI 0), I, G, B_00) hl2 none rfl none rfl
/-- PricedBasesLaw.next([I)I -/
def m_118 (a0 : Nat) (I : ai_I) (G : ai_G) : Option (Int32 × ai_I) :=
  o_g (o_in G 13 a0 (nI 0)) (o_g (o_in G 13 a0 (nI 0)) (o_b1 (some (va_up I a0 (va_up (I a0) (nI 0).toNatClampNeg (((I a0 (nI 0).toNatClampNeg) * (nI 1103515245)) + (nI 12345))))) (fun I_12 => o_g (o_in G 13 a0 (nI 0)) (o_g (o_in G 13 a0 (nI 0)) (o_g (o_in G 13 a0 (nI 0)) (o_b1 (some (va_up I_12 a0 (va_up (I_12 a0) (nI 0).toNatClampNeg ((I_12 a0 (nI 0).toNatClampNeg) ^^^ (((I_12 a0 (nI 0).toNatClampNeg).toUInt32 >>> ((nI 15).toUInt32 &&& Int32.toUInt32 31)).toInt32))))) (fun I_24 => o_g (o_in G 13 a0 (nI 0)) (some (((I_24 a0 (nI 0).toNatClampNeg).toUInt32 >>> ((nI 9).toUInt32 &&& Int32.toUInt32 31)).toInt32, I_24)))))))))
theorem md_118 {d : Nat} {I : ai_I} {J : ai_J} {Rf : ai_R} {G : ai_G} {a0 : Nat} {r : Int32} {I1 : ai_I} (hd : 1 ≤ d) (h : m_118 a0 I G = some (r, I1)) : ai_Cl si_t si_ms d 118 [.inr (.inr a0)] I J Rf G (some (.inl r)) I1 J Rf G := by
  obtain ⟨e, rfl⟩ : ∃ e, d = e + 1 := ⟨d - 1, by omega⟩
  unfold m_118 at h
  refine sp_in (lo := [some (.inr (.inr a0))]) (B := (0, 0)) rfl (Nat.le_of_ble_eq_true rfl) rfl rfl ?_
  refine go_aload_n (pc' := 1) rfl rfl rfl ?_
  refine go_iconst (pc' := 2) (v := (nI 0)) rfl rfl rfl ?_
  refine go_aload_n (pc' := 3) rfl rfl rfl ?_
  refine go_iconst (pc' := 4) (v := (nI 0)) rfl rfl rfl ?_
  obtain ⟨g0, h⟩ := o_gE h
  refine go_iaload (pc' := 5) rfl (o_inK g0) (o_inB g0) rfl ?_
  refine go_ldc (pc' := 7) (v := .inl (nI 1103515245)) rfl rfl rfl ?_
  refine go_imul (pc' := 8) rfl rfl ?_
  refine go_sipush (pc' := 11) (v := (nI 12345)) rfl rfl rfl ?_
  refine go_iadd (pc' := 12) rfl rfl ?_
  obtain ⟨g1, h⟩ := o_gE h
  obtain ⟨I_12, eI_12, h⟩ := o_b1E h
  refine go_iastore (pc' := 13) rfl (o_inK g1) (o_inB g1) rfl ?_
  refine go_ndMI eI_12 ?_
  refine go_aload_n (pc' := 14) rfl rfl rfl ?_
  refine go_iconst (pc' := 15) (v := (nI 0)) rfl rfl rfl ?_
  refine go_dup2 (pc' := 16) rfl rfl ?_
  obtain ⟨g2, h⟩ := o_gE h
  refine go_iaload (pc' := 17) rfl (o_inK g2) (o_inB g2) rfl ?_
  refine go_aload_n (pc' := 18) rfl rfl rfl ?_
  refine go_iconst (pc' := 19) (v := (nI 0)) rfl rfl rfl ?_
  obtain ⟨g3, h⟩ := o_gE h
  refine go_iaload (pc' := 20) rfl (o_inK g3) (o_inB g3) rfl ?_
  refine go_bipush (pc' := 22) (v := (nI 15)) rfl rfl rfl ?_
  refine go_iushr (pc' := 23) rfl rfl ?_
  refine go_ixor (pc' := 24) rfl rfl ?_
  obtain ⟨g4, h⟩ := o_gE h
  obtain ⟨I_24, eI_24, h⟩ := o_b1E h
  refine go_iastore (pc' := 25) rfl (o_inK g4) (o_inB g4) rfl ?_
  refine go_ndMI eI_24 ?_
  refine go_aload_n (pc' := 26) rfl rfl rfl ?_
  refine go_iconst (pc' := 27) (v := (nI 0)) rfl rfl rfl ?_
  obtain ⟨g5, h⟩ := o_gE h
  refine go_iaload (pc' := 28) rfl (o_inK g5) (o_inB g5) rfl ?_
  refine go_bipush (pc' := 30) (v := (nI 9)) rfl rfl rfl ?_
  refine go_iushr (pc' := 31) rfl rfl ?_
  cases h
  exact go_iret rfl (trivial) ⟨rfl, rfl, rfl, rfl, rfl⟩
def m_119_x54_86 (w3_86 : Int32) (Ix_86 : ai_I) : Option (Int32 × ai_I) :=
  some (w3_86, Ix_86)
def m_119_b54 (a0 : Nat) (G : ai_G) (r_22 : Int32) (v3_54 : Int32) (v6_54 : Int32) (I_54 : ai_I) : Option ((Int32 × Int32 × ai_I) ⊕ (Int32 × ai_I)) :=
  if v6_54 ≤ 0 then (some (Sum.inr (v3_54, I_54))) else (o_g (o_nzI v6_54) (o_g (o_in G 13 a0 v3_54) (o_b1 (some (va_up I_54 a0 (va_up (I_54 a0) v3_54.toNatClampNeg ((nI 48) + ((r_22 / v6_54) - (r_22 / v6_54) / (nI 10) * (nI 10)))))) (fun I_72 => o_b1 (some (v3_54 + (nI 1))) (fun x3_73 => o_b1 (some (v6_54 / (nI 10))) (fun x6_81 => some (Sum.inl (x3_73, x6_81, I_72))))))))
def m_119_x30_50 (a0 : Nat) (G : ai_G) (y3_21 : Int32) (I_21 : ai_I) (r_22 : Int32) (w5_50 : Int32) : Option (Int32 × ai_I) :=
  o_s1 (lp (fun s => m_119_b54 a0 G r_22 s.1 s.2.1 s.2.2) o_N (y3_21, w5_50, I_21)) (fun t => m_119_x54_86 t.1 t.2)
def m_119_b30 (r_22 : Int32) (v5_30 : Int32) : Option (Int32 ⊕ Int32) :=
  o_g (o_nzI v5_30) (if (r_22 / v5_30) ≤ (nI 9) then (some (Sum.inr v5_30)) else (o_b1 (some (v5_30 * (nI 10))) (fun x5_45 => some (Sum.inl x5_45))))
def m_119_j21 (a0 : Nat) (a2 : Int32) (G : ai_G) (y3_21 : Int32) (I_21 : ai_I) : Option (Int32 × ai_I) :=
  o_b1 (some (if 0 ≤ a2 then a2 else 0 - a2)) (fun r_22 => o_s1 (lp (fun s => m_119_b30 r_22 s) o_N (nI 1)) (fun t => m_119_x30_50 a0 G y3_21 I_21 r_22 t))
/-- PricedBasesLaw.number([III)I -/
def m_119 (a0 : Nat) (a1 : Int32) (a2 : Int32) (I : ai_I) (G : ai_G) : Option (Int32 × ai_I) :=
  o_b1 (some (a1 + (nI 1))) (fun x3_3 => o_g (o_in G 13 a0 a1) (o_b1 (some (va_up I a0 (va_up (I a0) a1.toNatClampNeg (nI 32)))) (fun I_8 => if 0 ≤ a2 then (m_119_j21 a0 a2 G x3_3 I_8) else (o_g (o_in G 13 a0 x3_3) (o_b1 (some (va_up I_8 a0 (va_up (I_8 a0) x3_3.toNatClampNeg (nI 45)))) (fun I_17 => o_b1 (some (x3_3 + (nI 1))) (fun x3_18 => m_119_j21 a0 a2 G x3_18 I_17)))))))
theorem md_119 {d : Nat} {I : ai_I} {J : ai_J} {Rf : ai_R} {G : ai_G} {a0 : Nat} {a1 : Int32} {a2 : Int32} {r : Int32} {I1 : ai_I} (hd : 1 ≤ d) (h : m_119 a0 a1 a2 I G = some (r, I1)) : ai_Cl si_t si_ms d 119 [.inr (.inr a0), .inl a1, .inl a2] I J Rf G (some (.inl r)) I1 J Rf G := by
  obtain ⟨e, rfl⟩ : ∃ e, d = e + 1 := ⟨d - 1, by omega⟩
  unfold m_119 at h
  refine sp_in (lo := [some (.inr (.inr a0)), some (.inl a1), some (.inl a2), none, none, none, none]) (B := (0, 0)) rfl (Nat.le_of_ble_eq_true rfl) rfl rfl ?_
  refine go_iload_n (pc' := 1) rfl rfl rfl ?_
  refine go_iconst (pc' := 2) (v := (nI 1)) rfl rfl rfl ?_
  refine go_iadd (pc' := 3) rfl rfl ?_
  obtain ⟨x3_3, ex3_3, h⟩ := o_b1E h
  refine go_ndI ex3_3 ?_
  refine go_istore_n (pc' := 4) (lo' := [some (.inr (.inr a0)), some (.inl a1), some (.inl a2), some (.inl x3_3), none, none, none]) rfl rfl rfl ?_
  refine go_aload_n (pc' := 5) rfl rfl rfl ?_
  refine go_iload_n (pc' := 6) rfl rfl rfl ?_
  refine go_bipush (pc' := 8) (v := (nI 32)) rfl rfl rfl ?_
  obtain ⟨g0, h⟩ := o_gE h
  obtain ⟨I_8, eI_8, h⟩ := o_b1E h
  refine go_iastore (pc' := 9) rfl (o_inK g0) (o_inB g0) rfl ?_
  refine go_ndMI eI_8 ?_
  refine go_iload_n (pc' := 10) rfl rfl rfl ?_
  have jn21 : ∀ (y3_21 : Int32) (I_21 : ai_I), m_119_j21 a0 a2 G y3_21 I_21 = some (r, I1) → ai_Go si_t (23, false, 0, cd_119) (ai_Cl si_t si_ms e) (sp_Q (some (.inl r)) I1 J Rf G) 21 [some (.inr (.inr a0)), some (.inl a1), some (.inl a2), some (.inl y3_21), none, none, none] [] (0, 0) I_21 J Rf G := by
    intro y3_21 I_21 h
    unfold m_119_j21 at h
    refine go_iload_n (pc' := 22) rfl rfl rfl ?_
    refine go_abs (pc' := 25) rfl rfl (Nat.le_of_ble_eq_true rfl) rfl ?_
    obtain ⟨r_22, er_22, h⟩ := o_b1E h
    refine go_ndI er_22 ?_
    refine go_istore (pc' := 27) (lo' := [some (.inr (.inr a0)), some (.inl a1), some (.inl a2), some (.inl y3_21), some (.inl r_22), none, none]) rfl rfl rfl ?_
    refine go_iconst (pc' := 28) (v := (nI 1)) rfl rfl rfl ?_
    refine go_istore (pc' := 30) (lo' := [some (.inr (.inr a0)), some (.inl a1), some (.inl a2), some (.inl y3_21), some (.inl r_22), some (.inl (nI 1)), none]) rfl rfl rfl ?_
    obtain ⟨q30, hl30, hc30_50⟩ := o_s1E h
    have ex30_50 : ∀ (w5_50 : Int32), w5_50 = q30 → ai_Go si_t (23, false, 0, cd_119) (ai_Cl si_t si_ms e) (sp_Q (some (.inl r)) I1 J Rf G) 50 [some (.inr (.inr a0)), some (.inl a1), some (.inl a2), some (.inl y3_21), some (.inl r_22), some (.inl w5_50), none] [] (0, 0) I_21 J Rf G := by
      intro w5_50 hq
      have h : m_119_x30_50 a0 G y3_21 I_21 r_22 w5_50 = some (r, I1) := hc30_50 w5_50 hq.symm
      unfold m_119_x30_50 at h
      refine go_iload (pc' := 52) rfl rfl rfl ?_
      refine go_istore (pc' := 54) (lo' := [some (.inr (.inr a0)), some (.inl a1), some (.inl a2), some (.inl y3_21), some (.inl r_22), some (.inl w5_50), some (.inl w5_50)]) rfl rfl rfl ?_
      obtain ⟨q54, hl54, hc54_86⟩ := o_s1E h
      have ex54_86 : ∀ (w3_86 : Int32) (Ix_86 : ai_I) (z6_x86 : Option ai_V) (h_z6_x86 : ai_isL z6_x86 = false), (w3_86, Ix_86) = q54 → ai_Go si_t (23, false, 0, cd_119) (ai_Cl si_t si_ms e) (sp_Q (some (.inl r)) I1 J Rf G) 86 [some (.inr (.inr a0)), some (.inl a1), some (.inl a2), some (.inl w3_86), some (.inl r_22), some (.inl w5_50), z6_x86] [] (0, 0) Ix_86 J Rf G := by
        intro w3_86 Ix_86 z6_x86 h_z6_x86 hq
        have h : m_119_x54_86 w3_86 Ix_86 = some (r, I1) := hc54_86 (w3_86, Ix_86) hq.symm
        unfold m_119_x54_86 at h
        refine go_iload_n (pc' := 87) rfl rfl rfl ?_
        cases h
        exact go_iret rfl (trivial) ⟨rfl, rfl, rfl, rfl, rfl⟩
      have lo54 : ∀ n s, lp (fun s => m_119_b54 a0 G r_22 s.1 s.2.1 s.2.2) n s = some q54 → (fun s => ai_Go si_t (23, false, 0, cd_119) (ai_Cl si_t si_ms e) (sp_Q (some (.inl r)) I1 J Rf G) 54 [some (.inr (.inr a0)), some (.inl a1), some (.inl a2), some (.inl s.1), some (.inl r_22), some (.inl w5_50), some (.inl s.2.1)] [] (0, 0) s.2.2 J Rf G) s := lp_go (fun s x54 hx hk54 => by
        obtain ⟨v3_54, v6_54, I_54⟩ := s
        have h : m_119_b54 a0 G r_22 v3_54 v6_54 I_54 = some x54 := hx
        clear hx
        show ai_Go si_t (23, false, 0, cd_119) (ai_Cl si_t si_ms e) (sp_Q (some (.inl r)) I1 J Rf G) 54 [some (.inr (.inr a0)), some (.inl a1), some (.inl a2), some (.inl v3_54), some (.inl r_22), some (.inl w5_50), some (.inl v6_54)] [] (0, 0) I_54 J Rf G
        unfold m_119_b54 at h
        refine go_iload (pc' := 56) rfl rfl rfl ?_
        refine go_if_le (pt := 86) (pc' := 59) rfl rfl rfl (fun h56 => ?_) (fun h56 => ?_)
        · replace h := o_t h56 h
          exact ex54_86 _ _ (some (.inl v6_54)) rfl (lp_exitE h hk54)
        · replace h := o_f h56 h
          refine go_aload_n (pc' := 60) rfl rfl rfl ?_
          refine go_iload_n (pc' := 61) rfl rfl rfl ?_
          refine go_bipush (pc' := 63) (v := (nI 48)) rfl rfl rfl ?_
          refine go_iload (pc' := 65) rfl rfl rfl ?_
          refine go_iload (pc' := 67) rfl rfl rfl ?_
          obtain ⟨g1, h⟩ := o_gE h
          refine go_idiv (pc' := 68) rfl (o_nzIE g1) rfl ?_
          refine go_bipush (pc' := 70) (v := (nI 10)) rfl rfl rfl ?_
          refine go_irem (pc' := 71) rfl (by decide) rfl ?_
          refine go_iadd (pc' := 72) rfl rfl ?_
          obtain ⟨g2, h⟩ := o_gE h
          obtain ⟨I_72, eI_72, h⟩ := o_b1E h
          refine go_iastore (pc' := 73) rfl (o_inK g2) (o_inB g2) rfl ?_
          refine go_ndMI eI_72 ?_
          obtain ⟨x3_73, ex3_73, h⟩ := o_b1E h
          refine go_iincE (pc' := 76) rfl rfl (y := (nI 1)) rfl ex3_73 (lo' := [some (.inr (.inr a0)), some (.inl a1), some (.inl a2), some (.inl x3_73), some (.inl r_22), some (.inl w5_50), some (.inl v6_54)]) rfl rfl ?_
          refine go_iload (pc' := 78) rfl rfl rfl ?_
          refine go_bipush (pc' := 80) (v := (nI 10)) rfl rfl rfl ?_
          refine go_idiv (pc' := 81) rfl (by decide) rfl ?_
          obtain ⟨x6_81, ex6_81, h⟩ := o_b1E h
          refine go_ndI ex6_81 ?_
          refine go_istore (pc' := 83) (lo' := [some (.inr (.inr a0)), some (.inl a1), some (.inl a2), some (.inl x3_73), some (.inl r_22), some (.inl w5_50), some (.inl x6_81)]) rfl rfl rfl ?_
          refine go_goto (pc' := 54) rfl rfl ?_
          exact (lp_backE h hk54 :))
      exact lo54 _ (y3_21, w5_50, I_21) hl54 
    have lo30 : ∀ n s, lp (fun s => m_119_b30 r_22 s) n s = some q30 → (fun s => ai_Go si_t (23, false, 0, cd_119) (ai_Cl si_t si_ms e) (sp_Q (some (.inl r)) I1 J Rf G) 30 [some (.inr (.inr a0)), some (.inl a1), some (.inl a2), some (.inl y3_21), some (.inl r_22), some (.inl s), none] [] (0, 0) I_21 J Rf G) s := lp_go (fun s x30 hx hk30 => by
      revert s; intro v5_30 hx
      have h : m_119_b30 r_22 v5_30 = some x30 := hx
      clear hx
      show ai_Go si_t (23, false, 0, cd_119) (ai_Cl si_t si_ms e) (sp_Q (some (.inl r)) I1 J Rf G) 30 [some (.inr (.inr a0)), some (.inl a1), some (.inl a2), some (.inl y3_21), some (.inl r_22), some (.inl v5_30), none] [] (0, 0) I_21 J Rf G
      unfold m_119_b30 at h
      refine go_iload (pc' := 32) rfl rfl rfl ?_
      refine go_iload (pc' := 34) rfl rfl rfl ?_
      obtain ⟨g3, h⟩ := o_gE h
      refine go_idiv (pc' := 35) rfl (o_nzIE g3) rfl ?_
      refine go_bipush (pc' := 37) (v := (nI 9)) rfl rfl rfl ?_
      refine go_icmp_le (pt := 50) (pc' := 40) rfl rfl rfl (fun h37 => ?_) (fun h37 => ?_)
      · replace h := o_t h37 h
        exact ex30_50 _  (lp_exitE h hk30)
      · replace h := o_f h37 h
        refine go_iload (pc' := 42) rfl rfl rfl ?_
        refine go_bipush (pc' := 44) (v := (nI 10)) rfl rfl rfl ?_
        refine go_imul (pc' := 45) rfl rfl ?_
        obtain ⟨x5_45, ex5_45, h⟩ := o_b1E h
        refine go_ndI ex5_45 ?_
        refine go_istore (pc' := 47) (lo' := [some (.inr (.inr a0)), some (.inl a1), some (.inl a2), some (.inl y3_21), some (.inl r_22), some (.inl x5_45), none]) rfl rfl rfl ?_
        refine go_goto (pc' := 30) rfl rfl ?_
        exact (lp_backE h hk30 :))
    exact lo30 _ (nI 1) hl30 
  refine go_if_ge (pt := 21) (pc' := 13) rfl rfl rfl (fun h10 => ?_) (fun h10 => ?_)
  · replace h := o_t h10 h
    exact jn21 x3_3 I_8 h
  · replace h := o_f h10 h
    refine go_aload_n (pc' := 14) rfl rfl rfl ?_
    refine go_iload_n (pc' := 15) rfl rfl rfl ?_
    refine go_bipush (pc' := 17) (v := (nI 45)) rfl rfl rfl ?_
    obtain ⟨g4, h⟩ := o_gE h
    obtain ⟨I_17, eI_17, h⟩ := o_b1E h
    refine go_iastore (pc' := 18) rfl (o_inK g4) (o_inB g4) rfl ?_
    refine go_ndMI eI_17 ?_
    obtain ⟨x3_18, ex3_18, h⟩ := o_b1E h
    refine go_iincE (pc' := 21) rfl rfl (y := (nI 1)) rfl ex3_18 (lo' := [some (.inr (.inr a0)), some (.inl a1), some (.inl a2), some (.inl x3_18), none, none, none]) rfl rfl ?_
    exact jn21 x3_18 I_17 h
def m_120_x17_40 (a2 : Nat) (G : ai_G) (y3_14 : Int32) (Ix_40 : ai_I) : Option (Int32 × ai_I) :=
  o_g (o_al G a2) (some (y3_14 + (Int32.ofNat (G.2.1 a2)), Ix_40))
def m_120_b17 (a0 : Nat) (a2 : Nat) (G : ai_G) (y3_14 : Int32) (v4_17 : Int32) (I_17 : ai_I) : Option ((Int32 × ai_I) ⊕ ai_I) :=
  o_g (o_al G a2) (if (Int32.ofNat (G.2.1 a2)) ≤ v4_17 then (some (Sum.inr I_17)) else (o_g (o_in G 13 a2 v4_17) (o_g (o_in G 13 a0 (y3_14 + v4_17)) (o_b1 (some (va_up I_17 a0 (va_up (I_17 a0) (y3_14 + v4_17).toNatClampNeg (I_17 a2 v4_17.toNatClampNeg)))) (fun I_33 => o_b1 (some (v4_17 + (nI 1))) (fun x4_34 => some (Sum.inl (x4_34, I_33))))))))
def m_120_j14 (a0 : Nat) (a2 : Nat) (G : ai_G) (y3_14 : Int32) (I_14 : ai_I) : Option (Int32 × ai_I) :=
  o_s1 (lp (fun s => m_120_b17 a0 a2 G y3_14 s.1 s.2) o_N ((nI 0), I_14)) (fun t => m_120_x17_40 a2 G y3_14 t)
/-- PricedBasesLaw.word([II[I)I -/
def m_120 (a0 : Nat) (a1 : Int32) (a2 : Nat) (I : ai_I) (G : ai_G) : Option (Int32 × ai_I) :=
  if a1 ≤ 0 then (m_120_j14 a0 a2 G a1 I) else (o_g (o_in G 13 a0 a1) (o_b1 (some (va_up I a0 (va_up (I a0) a1.toNatClampNeg (nI 59)))) (fun I_10 => o_b1 (some (a1 + (nI 1))) (fun x3_11 => m_120_j14 a0 a2 G x3_11 I_10))))
theorem md_120 {d : Nat} {I : ai_I} {J : ai_J} {Rf : ai_R} {G : ai_G} {a0 : Nat} {a1 : Int32} {a2 : Nat} {r : Int32} {I1 : ai_I} (hd : 1 ≤ d) (h : m_120 a0 a1 a2 I G = some (r, I1)) : ai_Cl si_t si_ms d 120 [.inr (.inr a0), .inl a1, .inr (.inr a2)] I J Rf G (some (.inl r)) I1 J Rf G := by
  obtain ⟨e, rfl⟩ : ∃ e, d = e + 1 := ⟨d - 1, by omega⟩
  unfold m_120 at h
  refine sp_in (lo := [some (.inr (.inr a0)), some (.inl a1), some (.inr (.inr a2)), none, none]) (B := (0, 0)) rfl (Nat.le_of_ble_eq_true rfl) rfl rfl ?_
  refine go_iload_n (pc' := 1) rfl rfl rfl ?_
  refine go_istore_n (pc' := 2) (lo' := [some (.inr (.inr a0)), some (.inl a1), some (.inr (.inr a2)), some (.inl a1), none]) rfl rfl rfl ?_
  refine go_iload_n (pc' := 3) rfl rfl rfl ?_
  have jn14 : ∀ (y3_14 : Int32) (I_14 : ai_I), m_120_j14 a0 a2 G y3_14 I_14 = some (r, I1) → ai_Go si_t (23, false, 0, cd_120) (ai_Cl si_t si_ms e) (sp_Q (some (.inl r)) I1 J Rf G) 14 [some (.inr (.inr a0)), some (.inl a1), some (.inr (.inr a2)), some (.inl y3_14), none] [] (0, 0) I_14 J Rf G := by
    intro y3_14 I_14 h
    unfold m_120_j14 at h
    refine go_iconst (pc' := 15) (v := (nI 0)) rfl rfl rfl ?_
    refine go_istore (pc' := 17) (lo' := [some (.inr (.inr a0)), some (.inl a1), some (.inr (.inr a2)), some (.inl y3_14), some (.inl (nI 0))]) rfl rfl rfl ?_
    obtain ⟨q17, hl17, hc17_40⟩ := o_s1E h
    have ex17_40 : ∀ (Ix_40 : ai_I) (z4_x40 : Option ai_V) (h_z4_x40 : ai_isL z4_x40 = false), Ix_40 = q17 → ai_Go si_t (23, false, 0, cd_120) (ai_Cl si_t si_ms e) (sp_Q (some (.inl r)) I1 J Rf G) 40 [some (.inr (.inr a0)), some (.inl a1), some (.inr (.inr a2)), some (.inl y3_14), z4_x40] [] (0, 0) Ix_40 J Rf G := by
      intro Ix_40 z4_x40 h_z4_x40 hq
      have h : m_120_x17_40 a2 G y3_14 Ix_40 = some (r, I1) := hc17_40 Ix_40 hq.symm
      unfold m_120_x17_40 at h
      refine go_iload_n (pc' := 41) rfl rfl rfl ?_
      refine go_aload_n (pc' := 42) rfl rfl rfl ?_
      obtain ⟨g0, h⟩ := o_gE h
      refine go_alen (pc' := 43) (n := G.2.1 a2) rfl (o_alE g0) rfl rfl ?_
      refine go_iadd (pc' := 44) rfl rfl ?_
      cases h
      exact go_iret rfl (trivial) ⟨rfl, rfl, rfl, rfl, rfl⟩
    have lo17 : ∀ n s, lp (fun s => m_120_b17 a0 a2 G y3_14 s.1 s.2) n s = some q17 → (fun s => ai_Go si_t (23, false, 0, cd_120) (ai_Cl si_t si_ms e) (sp_Q (some (.inl r)) I1 J Rf G) 17 [some (.inr (.inr a0)), some (.inl a1), some (.inr (.inr a2)), some (.inl y3_14), some (.inl s.1)] [] (0, 0) s.2 J Rf G) s := lp_go (fun s x17 hx hk17 => by
      obtain ⟨v4_17, I_17⟩ := s
      have h : m_120_b17 a0 a2 G y3_14 v4_17 I_17 = some x17 := hx
      clear hx
      show ai_Go si_t (23, false, 0, cd_120) (ai_Cl si_t si_ms e) (sp_Q (some (.inl r)) I1 J Rf G) 17 [some (.inr (.inr a0)), some (.inl a1), some (.inr (.inr a2)), some (.inl y3_14), some (.inl v4_17)] [] (0, 0) I_17 J Rf G
      unfold m_120_b17 at h
      refine go_iload (pc' := 19) rfl rfl rfl ?_
      refine go_aload_n (pc' := 20) rfl rfl rfl ?_
      obtain ⟨g1, h⟩ := o_gE h
      refine go_alen (pc' := 21) (n := G.2.1 a2) rfl (o_alE g1) rfl rfl ?_
      refine go_icmp_ge (pt := 40) (pc' := 24) rfl rfl rfl (fun h21 => ?_) (fun h21 => ?_)
      · replace h := o_t h21 h
        exact ex17_40 _ (some (.inl v4_17)) rfl (lp_exitE h hk17)
      · replace h := o_f h21 h
        refine go_aload_n (pc' := 25) rfl rfl rfl ?_
        refine go_iload_n (pc' := 26) rfl rfl rfl ?_
        refine go_iload (pc' := 28) rfl rfl rfl ?_
        refine go_iadd (pc' := 29) rfl rfl ?_
        refine go_aload_n (pc' := 30) rfl rfl rfl ?_
        refine go_iload (pc' := 32) rfl rfl rfl ?_
        obtain ⟨g2, h⟩ := o_gE h
        refine go_iaload (pc' := 33) rfl (o_inK g2) (o_inB g2) rfl ?_
        obtain ⟨g3, h⟩ := o_gE h
        obtain ⟨I_33, eI_33, h⟩ := o_b1E h
        refine go_iastore (pc' := 34) rfl (o_inK g3) (o_inB g3) rfl ?_
        refine go_ndMI eI_33 ?_
        obtain ⟨x4_34, ex4_34, h⟩ := o_b1E h
        refine go_iincE (pc' := 37) rfl rfl (y := (nI 1)) rfl ex4_34 (lo' := [some (.inr (.inr a0)), some (.inl a1), some (.inr (.inr a2)), some (.inl y3_14), some (.inl x4_34)]) rfl rfl ?_
        refine go_goto (pc' := 17) rfl rfl ?_
        exact (lp_backE h hk17 :))
    exact lo17 _ ((nI 0), I_14) hl17 
  refine go_if_le (pt := 14) (pc' := 6) rfl rfl rfl (fun h3 => ?_) (fun h3 => ?_)
  · replace h := o_t h3 h
    exact jn14 a1 I h
  · replace h := o_f h3 h
    refine go_aload_n (pc' := 7) rfl rfl rfl ?_
    refine go_iload_n (pc' := 8) rfl rfl rfl ?_
    refine go_bipush (pc' := 10) (v := (nI 59)) rfl rfl rfl ?_
    obtain ⟨g4, h⟩ := o_gE h
    obtain ⟨I_10, eI_10, h⟩ := o_b1E h
    refine go_iastore (pc' := 11) rfl (o_inK g4) (o_inB g4) rfl ?_
    refine go_ndMI eI_10 ?_
    obtain ⟨x3_11, ex3_11, h⟩ := o_b1E h
    refine go_iincE (pc' := 14) rfl rfl (y := (nI 1)) rfl ex3_11 (lo' := [some (.inr (.inr a0)), some (.inl a1), some (.inr (.inr a2)), some (.inl x3_11), none]) rfl rfl ?_
    exact jn14 x3_11 I_10 h
/-- PricedBasesLaw.has(II)Z -/
def m_121 (a0 : Int32) (a1 : Int32) : Option (Int32) :=
  if ((a0 >>> (a1 &&& 31)) &&& (nI 1)) = (nI 1) then (some (nI 1)) else (some (nI 0))
theorem md_121 {d : Nat} {I : ai_I} {J : ai_J} {Rf : ai_R} {G : ai_G} {a0 : Int32} {a1 : Int32} {r : Int32} (hd : 1 ≤ d) (h : m_121 a0 a1 = some r) : ai_Cl si_t si_ms d 121 [.inl a0, .inl a1] I J Rf G (some (.inl r)) I J Rf G := by
  obtain ⟨e, rfl⟩ : ∃ e, d = e + 1 := ⟨d - 1, by omega⟩
  unfold m_121 at h
  refine sp_in (lo := [some (.inl a0), some (.inl a1)]) (B := (0, 0)) rfl (Nat.le_of_ble_eq_true rfl) rfl rfl ?_
  refine go_iload_n (pc' := 1) rfl rfl rfl ?_
  refine go_iload_n (pc' := 2) rfl rfl rfl ?_
  refine go_ishr (pc' := 3) rfl rfl ?_
  refine go_iconst (pc' := 4) (v := (nI 1)) rfl rfl rfl ?_
  refine go_iand (pc' := 5) rfl rfl ?_
  refine go_iconst (pc' := 6) (v := (nI 1)) rfl rfl rfl ?_
  refine go_icmp_ne (pt := 13) (pc' := 9) rfl rfl rfl (fun h6 => ?_) (fun h6 => ?_)
  · replace h := o_f h6 h
    refine go_iconst (pc' := 14) (v := (nI 0)) rfl rfl rfl ?_
    cases h
    exact go_iret rfl (rfl) ⟨rfl, rfl, rfl, rfl, rfl⟩
  · replace h := o_t (Decidable.of_not_not h6) h
    refine go_iconst (pc' := 10) (v := (nI 1)) rfl rfl rfl ?_
    refine go_goto (pc' := 14) rfl rfl ?_
    cases h
    exact go_iret rfl (rfl) ⟨rfl, rfl, rfl, rfl, rfl⟩
