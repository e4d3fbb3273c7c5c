/-! Models of methods and their proofs, piece 15. Printed by wip/whole/pr10.py. -/
def m_246_x4_94 (w3_94 : Int32) (w4_94 : Int32) (w5_94 : Int32) : Option (Int32) :=
  some ((((nI 2048) * w3_94) + ((nI 8) * w4_94)) + w5_94)
def m_246_x4_131 (a0 : Int32) (w2_131 : Int32) : Option (Int32) :=
  if 0 ≤ a0 then (some (-4 : Int32)) else (some w2_131)
def m_246_x14_94 (v3_4 : Int32) (w4_94 : Int32) (w5_94 : Int32) : Option ((Int32 × Int32) ⊕ ((Int32 × Int32 × Int32) ⊕ Int32)) :=
  some (Sum.inr (Sum.inl (v3_4, w4_94, w5_94)))
def m_246_x14_125 (v3_4 : Int32) (w2_125 : Int32) : Option ((Int32 × Int32) ⊕ ((Int32 × Int32 × Int32) ⊕ Int32)) :=
  o_b1 (some (v3_4 + (nI 1))) (fun x3_125 => some (Sum.inl (w2_125, x3_125)))
def m_246_x36_94 (v4_14 : Int32) (w5_94 : Int32) : Option ((Int32 × Int32) ⊕ ((Int32 × Int32) ⊕ Int32)) :=
  some (Sum.inr (Sum.inl (v4_14, w5_94)))
def m_246_x36_119 (v4_14 : Int32) (w2_119 : Int32) : Option ((Int32 × Int32) ⊕ ((Int32 × Int32) ⊕ Int32)) :=
  o_b1 (some (v4_14 + (nI 1))) (fun x4_119 => some (Sum.inl (w2_119, x4_119)))
def m_246_b36 (th : Nat) (a0 : Int32) (I : ai_I) (Rf : ai_R) (G : ai_G) (v3_4 : Int32) (v4_14 : Int32) (v2_36 : Int32) (v5_36 : Int32) : Option ((Int32 × Int32) ⊕ (Int32 ⊕ Int32)) :=
  if (nI 8) ≤ v5_36 then (some (Sum.inr (Sum.inr v2_36))) else (o_g (o_in G 13 (Rf th 20) v4_14) (if (I (Rf th 20) v4_14.toNatClampNeg) = (-2147483648 : Int32) then (some (Sum.inr (Sum.inr v2_36))) else (o_b1 (m_192 v3_4 v5_36) (fun r_58 => if r_58 = 0 then (o_b1 (some (v5_36 + (nI 1))) (fun x5_113 => some (Sum.inl (v2_36, x5_113)))) else (o_b1 (m_192 v4_14 v5_36) (fun r_68 => if r_68 = 0 then (o_b1 (m_245 th v3_4 v4_14 v5_36 I Rf G) (fun r_80 => if r_80 < 0 then (if v2_36 = a0 then (some (Sum.inr (Sum.inl v5_36))) else (o_b1 (some (v2_36 + (nI 1))) (fun x2_112 => o_b1 (some (v5_36 + (nI 1))) (fun x5_113 => some (Sum.inl (x2_112, x5_113)))))) else (o_b1 (some (v5_36 + (nI 1))) (fun x5_113 => some (Sum.inl (v2_36, x5_113)))))) else (o_b1 (some (v5_36 + (nI 1))) (fun x5_113 => some (Sum.inl (v2_36, x5_113))))))))))
def m_246_b14 (th : Nat) (a0 : Int32) (I : ai_I) (Rf : ai_R) (G : ai_G) (v3_4 : Int32) (v2_14 : Int32) (v4_14 : Int32) : Option ((Int32 × Int32) ⊕ ((Int32 × Int32) ⊕ Int32)) :=
  if (nI 256) ≤ v4_14 then (some (Sum.inr (Sum.inr v2_14))) else (o_g (o_in G 13 (Rf th 20) v3_4) (if (I (Rf th 20) v3_4.toNatClampNeg) = (-2147483648 : Int32) then (some (Sum.inr (Sum.inr v2_14))) else (o_s2 (lp (fun s => m_246_b36 th a0 I Rf G v3_4 v4_14 s.1 s.2) o_N (v2_14, (nI 0))) (fun t => m_246_x36_94 v4_14 t) (fun t => m_246_x36_119 v4_14 t))))
def m_246_b4 (th : Nat) (a0 : Int32) (I : ai_I) (Rf : ai_R) (G : ai_G) (v2_4 : Int32) (v3_4 : Int32) : Option ((Int32 × Int32) ⊕ ((Int32 × Int32 × Int32) ⊕ Int32)) :=
  if (nI 256) ≤ v3_4 then (some (Sum.inr (Sum.inr v2_4))) else (o_s2 (lp (fun s => m_246_b14 th a0 I Rf G v3_4 s.1 s.2) o_N (v2_4, (nI 0))) (fun t => m_246_x14_94 v3_4 t.1 t.2) (fun t => m_246_x14_125 v3_4 t))
/-- PricedBasesModel.faultAt(I)I -/
def m_246 (th : Nat) (a0 : Int32) (I : ai_I) (Rf : ai_R) (G : ai_G) : Option (Int32) :=
  o_s2 (lp (fun s => m_246_b4 th a0 I Rf G s.1 s.2) o_N ((nI 0), (nI 0))) (fun t => m_246_x4_94 t.1 t.2.1 t.2.2) (fun t => m_246_x4_131 a0 t)
theorem md_246 {d : Nat} {I : ai_I} {J : ai_J} {Rf : ai_R} {G : ai_G} {th : Nat} {a0 : Int32} {r : Int32} (hd : 3 ≤ d) (hth : G.1 th = 11) (h : m_246 th a0 I Rf G = some r) : ai_Cl si_t si_ms d 246 [.inr (.inr th), .inl a0] I J Rf G (some (.inl r)) I J Rf G := by
  obtain ⟨e, rfl⟩ : ∃ e, d = e + 1 := ⟨d - 1, by omega⟩
  unfold m_246 at h
  refine sp_in (lo := [some (.inr (.inr th)), some (.inl a0), none, none, none, none]) (B := (0, 0)) rfl (Nat.le_of_ble_eq_true rfl) rfl rfl ?_
  refine go_iconst (pc' := 1) (v := (nI 0)) rfl rfl rfl ?_
  refine go_istore_n (pc' := 2) (lo' := [some (.inr (.inr th)), some (.inl a0), some (.inl (nI 0)), none, none, none]) rfl rfl rfl ?_
  refine go_iconst (pc' := 3) (v := (nI 0)) rfl rfl rfl ?_
  refine go_istore_n (pc' := 4) (lo' := [some (.inr (.inr th)), some (.inl a0), some (.inl (nI 0)), some (.inl (nI 0)), none, none]) rfl rfl rfl ?_
  obtain ⟨q4, hl4, hc4_94, hc4_131⟩ := o_s2E h
  have ex4_94 : ∀ (w3_94 : Int32) (w4_94 : Int32) (w5_94 : Int32) (z2_x94 : Option ai_V), (Sum.inl (w3_94, w4_94, w5_94)) = q4 → ai_Go si_t (11, false, 0, cd_246) (ai_Cl si_t si_ms e) (sp_Q (some (.inl r)) I J Rf G) 94 [some (.inr (.inr th)), some (.inl a0), z2_x94, some (.inl w3_94), some (.inl w4_94), some (.inl w5_94)] [] (0, 0) I J Rf G := by
    intro w3_94 w4_94 w5_94 z2_x94 hq
    have h : m_246_x4_94 w3_94 w4_94 w5_94 = some r := hc4_94 (w3_94, w4_94, w5_94) hq.symm
    unfold m_246_x4_94 at h
    refine go_sipush (pc' := 97) (v := (nI 2048)) rfl rfl rfl ?_
    refine go_iload_n (pc' := 98) rfl rfl rfl ?_
    refine go_imul (pc' := 99) rfl rfl ?_
    refine go_bipush (pc' := 101) (v := (nI 8)) rfl rfl rfl ?_
    refine go_iload (pc' := 103) rfl rfl rfl ?_
    refine go_imul (pc' := 104) rfl rfl ?_
    refine go_iadd (pc' := 105) rfl rfl ?_
    refine go_iload (pc' := 107) rfl rfl rfl ?_
    refine go_iadd (pc' := 108) rfl rfl ?_
    cases h
    exact go_iret rfl (trivial) ⟨rfl, rfl, rfl, rfl, rfl⟩
  have ex4_131 : ∀ (w2_131 : Int32) (z3_x131 : Option ai_V) (z4_x131 : Option ai_V) (z5_x131 : Option ai_V), (Sum.inr w2_131) = q4 → ai_Go si_t (11, false, 0, cd_246) (ai_Cl si_t si_ms e) (sp_Q (some (.inl r)) I J Rf G) 131 [some (.inr (.inr th)), some (.inl a0), some (.inl w2_131), z3_x131, z4_x131, z5_x131] [] (0, 0) I J Rf G := by
    intro w2_131 z3_x131 z4_x131 z5_x131 hq
    have h : m_246_x4_131 a0 w2_131 = some r := hc4_131 w2_131 hq.symm
    unfold m_246_x4_131 at h
    refine go_iload_n (pc' := 132) rfl rfl rfl ?_
    refine go_if_ge (pt := 139) (pc' := 135) rfl rfl rfl (fun h132 => ?_) (fun h132 => ?_)
    · replace h := o_t h132 h
      refine go_bipush (pc' := 141) (v := (-4 : Int32)) rfl rfl rfl ?_
      cases h
      exact go_iret rfl (trivial) ⟨rfl, rfl, rfl, rfl, rfl⟩
    · replace h := o_f h132 h
      refine go_iload_n (pc' := 136) rfl rfl rfl ?_
      refine go_goto (pc' := 141) rfl rfl ?_
      cases h
      exact go_iret rfl (trivial) ⟨rfl, rfl, rfl, rfl, rfl⟩
  have lo4 : ∀ n s, lp (fun s => m_246_b4 th a0 I Rf G s.1 s.2) n s = some q4 → (fun s => ∀ (z4_4 : Option ai_V) (z5_4 : Option ai_V), ai_Go si_t (11, false, 0, cd_246) (ai_Cl si_t si_ms e) (sp_Q (some (.inl r)) I J Rf G) 4 [some (.inr (.inr th)), some (.inl a0), some (.inl s.1), some (.inl s.2), z4_4, z5_4] [] (0, 0) I J Rf G) s := lp_go (fun s x4 hx hk4 => by
    obtain ⟨v2_4, v3_4⟩ := s
    intro z4_4 z5_4
    have h : m_246_b4 th a0 I Rf G v2_4 v3_4 = some x4 := hx
    clear hx
    show ai_Go si_t (11, false, 0, cd_246) (ai_Cl si_t si_ms e) (sp_Q (some (.inl r)) I J Rf G) 4 [some (.inr (.inr th)), some (.inl a0), some (.inl v2_4), some (.inl v3_4), z4_4, z5_4] [] (0, 0) I J Rf G
    unfold m_246_b4 at h
    refine go_iload_n (pc' := 5) rfl rfl rfl ?_
    refine go_sipush (pc' := 8) (v := (nI 256)) rfl rfl rfl ?_
    refine go_icmp_ge (pt := 131) (pc' := 11) rfl rfl rfl (fun h8 => ?_) (fun h8 => ?_)
    · replace h := o_t h8 h
      exact ex4_131 _ (some (.inl v3_4)) z4_4 z5_4 (lp_exitE h hk4)
    · replace h := o_f h8 h
      refine go_iconst (pc' := 12) (v := (nI 0)) rfl rfl rfl ?_
      refine go_istore (pc' := 14) (lo' := [some (.inr (.inr th)), some (.inl a0), some (.inl v2_4), some (.inl v3_4), some (.inl (nI 0)), z5_4]) rfl rfl rfl ?_
      obtain ⟨q14, hl14, hc14_94, hc14_125⟩ := o_s2E h
      have ex14_94 : ∀ (w4_94 : Int32) (w5_94 : Int32) (z2_x94 : Option ai_V), (Sum.inl (w4_94, w5_94)) = q14 → ai_Go si_t (11, false, 0, cd_246) (ai_Cl si_t si_ms e) (sp_Q (some (.inl r)) I J Rf G) 94 [some (.inr (.inr th)), some (.inl a0), z2_x94, some (.inl v3_4), some (.inl w4_94), some (.inl w5_94)] [] (0, 0) I J Rf G := by
        intro w4_94 w5_94 z2_x94 hq
        have h : m_246_x14_94 v3_4 w4_94 w5_94 = some x4 := hc14_94 (w4_94, w5_94) hq.symm
        unfold m_246_x14_94 at h
        exact ex4_94 _ _ _ z2_x94 (lp_exitE h hk4)
      have ex14_125 : ∀ (w2_125 : Int32) (z4_x125 : Option ai_V) (z5_x125 : Option ai_V), (Sum.inr w2_125) = q14 → ai_Go si_t (11, false, 0, cd_246) (ai_Cl si_t si_ms e) (sp_Q (some (.inl r)) I J Rf G) 125 [some (.inr (.inr th)), some (.inl a0), some (.inl w2_125), some (.inl v3_4), z4_x125, z5_x125] [] (0, 0) I J Rf G := by
        intro w2_125 z4_x125 z5_x125 hq
        have h : m_246_x14_125 v3_4 w2_125 = some x4 := hc14_125 w2_125 hq.symm
        unfold m_246_x14_125 at h
        obtain ⟨x3_125, ex3_125, h⟩ := o_b1E h
        refine go_iincE (pc' := 128) rfl rfl (y := (nI 1)) rfl ex3_125 (lo' := [some (.inr (.inr th)), some (.inl a0), some (.inl w2_125), some (.inl x3_125), z4_x125, z5_x125]) rfl rfl ?_
        refine go_goto (pc' := 4) rfl rfl ?_
        exact (lp_backE h hk4 z4_x125 z5_x125 :)
      have lo14 : ∀ n s, lp (fun s => m_246_b14 th a0 I Rf G v3_4 s.1 s.2) n s = some q14 → (fun s => ∀ (z5_14 : Option ai_V), ai_Go si_t (11, false, 0, cd_246) (ai_Cl si_t si_ms e) (sp_Q (some (.inl r)) I J Rf G) 14 [some (.inr (.inr th)), some (.inl a0), some (.inl s.1), some (.inl v3_4), some (.inl s.2), z5_14] [] (0, 0) I J Rf G) s := lp_go (fun s x14 hx hk14 => by
        obtain ⟨v2_14, v4_14⟩ := s
        intro z5_14
        have h : m_246_b14 th a0 I Rf G v3_4 v2_14 v4_14 = some x14 := hx
        clear hx
        show ai_Go si_t (11, false, 0, cd_246) (ai_Cl si_t si_ms e) (sp_Q (some (.inl r)) I J Rf G) 14 [some (.inr (.inr th)), some (.inl a0), some (.inl v2_14), some (.inl v3_4), some (.inl v4_14), z5_14] [] (0, 0) I J Rf G
        unfold m_246_b14 at h
        refine go_iload (pc' := 16) rfl rfl rfl ?_
        refine go_sipush (pc' := 19) (v := (nI 256)) rfl rfl rfl ?_
        refine go_icmp_ge (pt := 125) (pc' := 22) rfl rfl rfl (fun h19 => ?_) (fun h19 => ?_)
        · replace h := o_t h19 h
          exact ex14_125 _ (some (.inl v4_14)) z5_14 (lp_exitE h hk14)
        · replace h := o_f h19 h
          refine go_aload_n (pc' := 23) rfl rfl rfl ?_
          refine go_getR (pc' := 26) rfl rfl hth rfl ?_
          refine go_iload_n (pc' := 27) rfl rfl rfl ?_
          obtain ⟨g0, h⟩ := o_gE h
          refine go_iaload (pc' := 28) rfl (o_inK g0) (o_inB g0) rfl ?_
          refine go_ldc (pc' := 30) (v := .inl (-2147483648 : Int32)) rfl rfl rfl ?_
          refine go_icmp_eq (pt := 125) (pc' := 33) rfl rfl rfl (fun h30 => ?_) (fun h30 => ?_)
          · replace h := o_t h30 h
            exact ex14_125 _ (some (.inl v4_14)) z5_14 (lp_exitE h hk14)
          · replace h := o_f h30 h
            refine go_iconst (pc' := 34) (v := (nI 0)) rfl rfl rfl ?_
            refine go_istore (pc' := 36) (lo' := [some (.inr (.inr th)), some (.inl a0), some (.inl v2_14), some (.inl v3_4), some (.inl v4_14), some (.inl (nI 0))]) rfl rfl rfl ?_
            obtain ⟨q36, hl36, hc36_94, hc36_119⟩ := o_s2E h
            have ex36_94 : ∀ (w5_94 : Int32) (z2_x94 : Option ai_V), (Sum.inl w5_94) = q36 → ai_Go si_t (11, false, 0, cd_246) (ai_Cl si_t si_ms e) (sp_Q (some (.inl r)) I J Rf G) 94 [some (.inr (.inr th)), some (.inl a0), z2_x94, some (.inl v3_4), some (.inl v4_14), some (.inl w5_94)] [] (0, 0) I J Rf G := by
              intro w5_94 z2_x94 hq
              have h : m_246_x36_94 v4_14 w5_94 = some x14 := hc36_94 w5_94 hq.symm
              unfold m_246_x36_94 at h
              exact ex14_94 _ _ z2_x94 (lp_exitE h hk14)
            have ex36_119 : ∀ (w2_119 : Int32) (z5_x119 : Option ai_V), (Sum.inr w2_119) = q36 → ai_Go si_t (11, false, 0, cd_246) (ai_Cl si_t si_ms e) (sp_Q (some (.inl r)) I J Rf G) 119 [some (.inr (.inr th)), some (.inl a0), some (.inl w2_119), some (.inl v3_4), some (.inl v4_14), z5_x119] [] (0, 0) I J Rf G := by
              intro w2_119 z5_x119 hq
              have h : m_246_x36_119 v4_14 w2_119 = some x14 := hc36_119 w2_119 hq.symm
              unfold m_246_x36_119 at h
              obtain ⟨x4_119, ex4_119, h⟩ := o_b1E h
              refine go_iincE (pc' := 122) rfl rfl (y := (nI 1)) rfl ex4_119 (lo' := [some (.inr (.inr th)), some (.inl a0), some (.inl w2_119), some (.inl v3_4), some (.inl x4_119), z5_x119]) rfl rfl ?_
              refine go_goto (pc' := 14) rfl rfl ?_
              exact (lp_backE h hk14 z5_x119 :)
            have lo36 : ∀ n s, lp (fun s => m_246_b36 th a0 I Rf G v3_4 v4_14 s.1 s.2) n s = some q36 → (fun s => ai_Go si_t (11, false, 0, cd_246) (ai_Cl si_t si_ms e) (sp_Q (some (.inl r)) I J Rf G) 36 [some (.inr (.inr th)), some (.inl a0), some (.inl s.1), some (.inl v3_4), some (.inl v4_14), some (.inl s.2)] [] (0, 0) I J Rf G) s := lp_go (fun s x36 hx hk36 => by
              obtain ⟨v2_36, v5_36⟩ := s
              have h : m_246_b36 th a0 I Rf G v3_4 v4_14 v2_36 v5_36 = some x36 := hx
              clear hx
              show ai_Go si_t (11, false, 0, cd_246) (ai_Cl si_t si_ms e) (sp_Q (some (.inl r)) I J Rf G) 36 [some (.inr (.inr th)), some (.inl a0), some (.inl v2_36), some (.inl v3_4), some (.inl v4_14), some (.inl v5_36)] [] (0, 0) I J Rf G
              unfold m_246_b36 at h
              refine go_iload (pc' := 38) rfl rfl rfl ?_
              refine go_bipush (pc' := 40) (v := (nI 8)) rfl rfl rfl ?_
              refine go_icmp_ge (pt := 119) (pc' := 43) rfl rfl rfl (fun h40 => ?_) (fun h40 => ?_)
              · replace h := o_t h40 h
                exact ex36_119 _ (some (.inl v5_36)) (lp_exitE h hk36)
              · replace h := o_f h40 h
                refine go_aload_n (pc' := 44) rfl rfl rfl ?_
                refine go_getR (pc' := 47) rfl rfl hth rfl ?_
                refine go_iload (pc' := 49) rfl rfl rfl ?_
                obtain ⟨g1, h⟩ := o_gE h
                refine go_iaload (pc' := 50) rfl (o_inK g1) (o_inB g1) rfl ?_
                refine go_ldc (pc' := 52) (v := .inl (-2147483648 : Int32)) rfl rfl rfl ?_
                refine go_icmp_eq (pt := 119) (pc' := 55) rfl rfl rfl (fun h52 => ?_) (fun h52 => ?_)
                · replace h := o_t h52 h
                  exact ex36_119 _ (some (.inl v5_36)) (lp_exitE h hk36)
                · replace h := o_f h52 h
                  refine go_iload_n (pc' := 56) rfl rfl rfl ?_
                  refine go_iload (pc' := 58) rfl rfl rfl ?_
                  obtain ⟨r_58, q_58, h⟩ := o_b1E h
                  refine go_callS (pc' := 61) (B' := (0, 0)) (st' := [.inl r_58]) rfl rfl (Or.inl (by decide)) rfl rfl trivial (md_192 (by omega) q_58) rfl rfl rfl ?_
                  refine go_if_eq (pt := 113) (pc' := 64) rfl rfl rfl (fun h61 => ?_) (fun h61 => ?_)
                  · replace h := o_t h61 h
                    obtain ⟨x5_113, ex5_113, h⟩ := o_b1E h
                    refine go_iincE (pc' := 116) rfl rfl (y := (nI 1)) rfl ex5_113 (lo' := [some (.inr (.inr th)), some (.inl a0), some (.inl v2_36), some (.inl v3_4), some (.inl v4_14), some (.inl x5_113)]) rfl rfl ?_
                    refine go_goto (pc' := 36) rfl rfl ?_
                    exact (lp_backE h hk36 :)
                  · replace h := o_f h61 h
                    refine go_iload (pc' := 66) rfl rfl rfl ?_
                    refine go_iload (pc' := 68) rfl rfl rfl ?_
                    obtain ⟨r_68, q_68, h⟩ := o_b1E h
                    refine go_callS (pc' := 71) (B' := (0, 0)) (st' := [.inl r_68]) rfl rfl (Or.inl (by decide)) rfl rfl trivial (md_192 (by omega) q_68) rfl rfl rfl ?_
                    refine go_if_ne (pt := 113) (pc' := 74) rfl rfl rfl (fun h71 => ?_) (fun h71 => ?_)
                    · replace h := o_f h71 h
                      obtain ⟨x5_113, ex5_113, h⟩ := o_b1E h
                      refine go_iincE (pc' := 116) rfl rfl (y := (nI 1)) rfl ex5_113 (lo' := [some (.inr (.inr th)), some (.inl a0), some (.inl v2_36), some (.inl v3_4), some (.inl v4_14), some (.inl x5_113)]) rfl rfl ?_
                      refine go_goto (pc' := 36) rfl rfl ?_
                      exact (lp_backE h hk36 :)
                    · replace h := o_t (Decidable.of_not_not h71) h
                      refine go_aload_n (pc' := 75) rfl rfl rfl ?_
                      refine go_iload_n (pc' := 76) rfl rfl rfl ?_
                      refine go_iload (pc' := 78) rfl rfl rfl ?_
                      refine go_iload (pc' := 80) rfl rfl rfl ?_
                      obtain ⟨r_80, q_80, h⟩ := o_b1E h
                      refine go_callV (pc' := 83) (B' := (0, 0)) (st' := [.inl r_80]) rfl rfl (Or.inl (by decide)) rfl rfl hth (md_245 (by omega) hth q_80) rfl rfl rfl ?_
                      refine go_if_lt (pt := 89) (pc' := 86) rfl rfl rfl (fun h83 => ?_) (fun h83 => ?_)
                      · replace h := o_t h83 h
                        refine go_iload_n (pc' := 90) rfl rfl rfl ?_
                        refine go_iload_n (pc' := 91) rfl rfl rfl ?_
                        refine go_icmp_ne (pt := 109) (pc' := 94) rfl rfl rfl (fun h91 => ?_) (fun h91 => ?_)
                        · replace h := o_f h91 h
                          refine go_iload_n (pc' := 110) rfl rfl rfl ?_
                          refine go_iconst (pc' := 111) (v := (nI 1)) rfl rfl rfl ?_
                          refine go_iadd (pc' := 112) rfl rfl ?_
                          obtain ⟨x2_112, ex2_112, h⟩ := o_b1E h
                          refine go_ndI ex2_112 ?_
                          refine go_istore_n (pc' := 113) (lo' := [some (.inr (.inr th)), some (.inl a0), some (.inl x2_112), some (.inl v3_4), some (.inl v4_14), some (.inl v5_36)]) rfl rfl rfl ?_
                          obtain ⟨x5_113, ex5_113, h⟩ := o_b1E h
                          refine go_iincE (pc' := 116) rfl rfl (y := (nI 1)) rfl ex5_113 (lo' := [some (.inr (.inr th)), some (.inl a0), some (.inl x2_112), some (.inl v3_4), some (.inl v4_14), some (.inl x5_113)]) rfl rfl ?_
                          refine go_goto (pc' := 36) rfl rfl ?_
                          exact (lp_backE h hk36 :)
                        · replace h := o_t (Decidable.of_not_not h91) h
                          exact ex36_94 _ (some (.inl v2_36)) (lp_exitE h hk36)
                      · replace h := o_f h83 h
                        refine go_goto (pc' := 113) rfl rfl ?_
                        obtain ⟨x5_113, ex5_113, h⟩ := o_b1E h
                        refine go_iincE (pc' := 116) rfl rfl (y := (nI 1)) rfl ex5_113 (lo' := [some (.inr (.inr th)), some (.inl a0), some (.inl v2_36), some (.inl v3_4), some (.inl v4_14), some (.inl x5_113)]) rfl rfl ?_
                        refine go_goto (pc' := 36) rfl rfl ?_
                        exact (lp_backE h hk36 :))
            exact lo36 _ (v2_14, (nI 0)) hl36 )
      exact lo14 _ (v2_4, (nI 0)) hl14 z5_4)
  exact lo4 _ ((nI 0), (nI 0)) hl4 none none
/-- PricedBasesModel.holds()Z -/
def m_247 (th : Nat) (I : ai_I) (Rf : ai_R) (G : ai_G) : Option (Int32) :=
  o_b1 (m_246 th (nI 0) I Rf G) (fun r_2 => if r_2 = (-4 : Int32) then (some (nI 1)) else (some (nI 0)))
theorem md_247 {d : Nat} {I : ai_I} {J : ai_J} {Rf : ai_R} {G : ai_G} {th : Nat} {r : Int32} (hd : 4 ≤ d) (hth : G.1 th = 11) (h : m_247 th I Rf G = some r) : ai_Cl si_t si_ms d 247 [.inr (.inr th)] I J Rf G (some (.inl r)) I J Rf G := by
  obtain ⟨e, rfl⟩ : ∃ e, d = e + 1 := ⟨d - 1, by omega⟩
  unfold m_247 at h
  refine sp_in (lo := [some (.inr (.inr th))]) (B := (0, 0)) rfl (Nat.le_of_ble_eq_true rfl) rfl rfl ?_
  refine go_aload_n (pc' := 1) rfl rfl rfl ?_
  refine go_iconst (pc' := 2) (v := (nI 0)) rfl rfl rfl ?_
  obtain ⟨r_2, q_2, h⟩ := o_b1E h
  refine go_callV (pc' := 5) (B' := (0, 0)) (st' := [.inl r_2]) rfl rfl (Or.inl (by decide)) rfl rfl hth (md_246 (by omega) hth q_2) rfl rfl rfl ?_
  refine go_bipush (pc' := 7) (v := (-4 : Int32)) rfl rfl rfl ?_
  refine go_icmp_ne (pt := 14) (pc' := 10) rfl rfl rfl (fun h7 => ?_) (fun h7 => ?_)
  · replace h := o_f h7 h
    refine go_iconst (pc' := 15) (v := (nI 0)) rfl rfl rfl ?_
    cases h
    exact go_iret rfl (rfl) ⟨rfl, rfl, rfl, rfl, rfl⟩
  · replace h := o_t (Decidable.of_not_not h7) h
    refine go_iconst (pc' := 11) (v := (nI 1)) rfl rfl rfl ?_
    refine go_goto (pc' := 15) rfl rfl ?_
    cases h
    exact go_iret rfl (rfl) ⟨rfl, rfl, rfl, rfl, rfl⟩
/-- PricedBasesModel.fault(III)I -/
def m_248 (th : Nat) (a0 : Int32) (a1 : Int32) (a2 : Int32) (I : ai_I) (Rf : ai_R) (G : ai_G) : Option (Int32 × ai_I) :=
  o_b1 (m_200 a0) (fun r_1 => if r_1 = 0 then (some ((-1 : Int32), I)) else (if a1 < 0 then (some ((-1 : Int32), I)) else (o_b1 (m_189 a2.toInt64 (0 : Int64) (2 : Int64)) (fun r_17 => if r_17 = 0 then (some ((-1 : Int32), I)) else (o_b1 (m_244 th a0 (nI 0) I Rf G) (fun I_28 => o_b1 (m_246 th a1 I_28 Rf G) (fun r_33 => if 0 ≤ r_33 then (if a2 = 0 then (some (r_33 / (nI 2048), I_28)) else (if a2 = (nI 1) then (some ((r_33 / (nI 8)) - (r_33 / (nI 8)) / (nI 256) * (nI 256), I_28)) else (some (r_33 - r_33 / (nI 8) * (nI 8), I_28)))) else (some ((-4 : Int32), I_28)))))))))
theorem md_248 {d : Nat} {I : ai_I} {J : ai_J} {Rf : ai_R} {G : ai_G} {th : Nat} {a0 : Int32} {a1 : Int32} {a2 : Int32} {r : Int32} {I1 : ai_I} (hd : 4 ≤ d) (hth : G.1 th = 11) (h : m_248 th a0 a1 a2 I Rf G = some (r, I1)) : ai_Cl si_t si_ms d 248 [.inr (.inr th), .inl a0, .inl a1, .inl a2] I J Rf G (some (.inl r)) I1 J Rf G := by
  obtain ⟨e, rfl⟩ : ∃ e, d = e + 1 := ⟨d - 1, by omega⟩
  unfold m_248 at h
  refine sp_in (lo := [some (.inr (.inr th)), some (.inl a0), some (.inl a1), some (.inl a2), none]) (B := (0, 0)) rfl (Nat.le_of_ble_eq_true rfl) rfl rfl ?_
  refine go_iload_n (pc' := 1) rfl rfl rfl ?_
  obtain ⟨r_1, q_1, h⟩ := o_b1E h
  refine go_callS (pc' := 4) (B' := (0, 0)) (st' := [.inl r_1]) rfl rfl (Or.inl (by decide)) rfl rfl trivial (md_200 (by omega) q_1) rfl rfl rfl ?_
  refine go_if_eq (pt := 23) (pc' := 7) rfl rfl rfl (fun h4 => ?_) (fun h4 => ?_)
  · replace h := o_t h4 h
    refine go_iconst (pc' := 24) (v := (-1 : Int32)) rfl rfl rfl ?_
    cases h
    exact go_iret rfl (trivial) ⟨rfl, rfl, rfl, rfl, rfl⟩
  · replace h := o_f h4 h
    refine go_iload_n (pc' := 8) rfl rfl rfl ?_
    refine go_if_lt (pt := 23) (pc' := 11) rfl rfl rfl (fun h8 => ?_) (fun h8 => ?_)
    · replace h := o_t h8 h
      refine go_iconst (pc' := 24) (v := (-1 : Int32)) rfl rfl rfl ?_
      cases h
      exact go_iret rfl (trivial) ⟨rfl, rfl, rfl, rfl, rfl⟩
    · replace h := o_f h8 h
      refine go_iload_n (pc' := 12) rfl rfl rfl ?_
      refine go_i2l (pc' := 13) rfl rfl ?_
      refine go_lconst (pc' := 14) (v := (0 : Int64)) rfl rfl rfl ?_
      refine go_ldc2_w (pc' := 17) (v := .inr (.inl (2 : Int64))) rfl rfl rfl ?_
      obtain ⟨r_17, q_17, h⟩ := o_b1E h
      refine go_callS (pc' := 20) (B' := (0, 0)) (st' := [.inl r_17]) rfl rfl (Or.inl (by decide)) rfl rfl trivial (md_189 (by omega) q_17) rfl rfl rfl ?_
      refine go_if_ne (pt := 25) (pc' := 23) rfl rfl rfl (fun h20 => ?_) (fun h20 => ?_)
      · replace h := o_f h20 h
        refine go_aload_n (pc' := 26) rfl rfl rfl ?_
        refine go_iload_n (pc' := 27) rfl rfl rfl ?_
        refine go_iconst (pc' := 28) (v := (nI 0)) rfl rfl rfl ?_
        obtain ⟨I_28, q_28, h⟩ := o_b1E h
        refine go_callV (pc' := 31) (B' := (0, 0)) (st' := []) rfl rfl (Or.inl (by decide)) rfl rfl hth (md_244 (by omega) hth q_28) rfl rfl rfl ?_
        refine go_aload_n (pc' := 32) rfl rfl rfl ?_
        refine go_iload_n (pc' := 33) rfl rfl rfl ?_
        obtain ⟨r_33, q_33, h⟩ := o_b1E h
        refine go_callV (pc' := 36) (B' := (0, 0)) (st' := [.inl r_33]) rfl rfl (Or.inl (by decide)) rfl rfl hth (md_246 (by omega) hth q_33) rfl rfl rfl ?_
        refine go_istore (pc' := 38) (lo' := [some (.inr (.inr th)), some (.inl a0), some (.inl a1), some (.inl a2), some (.inl r_33)]) rfl rfl rfl ?_
        refine go_iload (pc' := 40) rfl rfl rfl ?_
        refine go_if_ge (pt := 48) (pc' := 43) rfl rfl rfl (fun h40 => ?_) (fun h40 => ?_)
        · replace h := o_t h40 h
          refine go_iload_n (pc' := 49) rfl rfl rfl ?_
          refine go_if_ne (pt := 61) (pc' := 52) rfl rfl rfl (fun h49 => ?_) (fun h49 => ?_)
          · replace h := o_f h49 h
            refine go_iload_n (pc' := 62) rfl rfl rfl ?_
            refine go_iconst (pc' := 63) (v := (nI 1)) rfl rfl rfl ?_
            refine go_icmp_ne (pt := 78) (pc' := 66) rfl rfl rfl (fun h63 => ?_) (fun h63 => ?_)
            · replace h := o_f h63 h
              refine go_iload (pc' := 80) rfl rfl rfl ?_
              refine go_bipush (pc' := 82) (v := (nI 8)) rfl rfl rfl ?_
              refine go_irem (pc' := 83) rfl (by decide) rfl ?_
              cases h
              exact go_iret rfl (trivial) ⟨rfl, rfl, rfl, rfl, rfl⟩
            · replace h := o_t (Decidable.of_not_not h63) h
              refine go_iload (pc' := 68) rfl rfl rfl ?_
              refine go_bipush (pc' := 70) (v := (nI 8)) rfl rfl rfl ?_
              refine go_idiv (pc' := 71) rfl (by decide) rfl ?_
              refine go_sipush (pc' := 74) (v := (nI 256)) rfl rfl rfl ?_
              refine go_irem (pc' := 75) rfl (by decide) rfl ?_
              refine go_goto (pc' := 83) rfl rfl ?_
              cases h
              exact go_iret rfl (trivial) ⟨rfl, rfl, rfl, rfl, rfl⟩
          · replace h := o_t (Decidable.of_not_not h49) h
            refine go_iload (pc' := 54) rfl rfl rfl ?_
            refine go_sipush (pc' := 57) (v := (nI 2048)) rfl rfl rfl ?_
            refine go_idiv (pc' := 58) rfl (by decide) rfl ?_
            refine go_goto (pc' := 83) rfl rfl ?_
            cases h
            exact go_iret rfl (trivial) ⟨rfl, rfl, rfl, rfl, rfl⟩
        · replace h := o_f h40 h
          refine go_bipush (pc' := 45) (v := (-4 : Int32)) rfl rfl rfl ?_
          refine go_goto (pc' := 83) rfl rfl ?_
          cases h
          exact go_iret rfl (trivial) ⟨rfl, rfl, rfl, rfl, rfl⟩
      · replace h := o_t (Decidable.of_not_not h20) h
        refine go_iconst (pc' := 24) (v := (-1 : Int32)) rfl rfl rfl ?_
        cases h
        exact go_iret rfl (trivial) ⟨rfl, rfl, rfl, rfl, rfl⟩
/-- PricedBasesModel.exchange(IIII)I -/
def m_249 (th : Nat) (a0 : Int32) (a1 : Int32) (a2 : Int32) (a3 : Int32) (I : ai_I) (Rf : ai_R) (G : ai_G) : Option (Int32 × ai_I) :=
  o_b1 (m_200 a0) (fun r_1 => if r_1 = 0 then (some ((-1 : Int32), I)) else (o_b1 (m_199 th a0 a1 I Rf G) (fun r_10 => if r_10 = 0 then (some ((-1 : Int32), I)) else (o_b1 (m_199 th a0 a2 I Rf G) (fun r_19 => if r_19 = 0 then (some ((-1 : Int32), I)) else (o_b1 (m_202 th a0 a3 I Rf G) (fun r_29 => if r_29 = 0 then (some ((-1 : Int32), I)) else (o_b1 (m_192 a1 a3) (fun r_38 => if r_38 = 0 then (some ((-1 : Int32), I)) else (o_b1 (m_192 a2 a3) (fun r_47 => if r_47 = 0 then (o_b1 (m_244 th a0 (nI 0) I Rf G) (fun I_58 => o_b1 (m_245 th a1 a2 a3 I_58 Rf G) (fun r_66 => some (r_66, I_58)))) else (some ((-1 : Int32), I)))))))))))))
theorem md_249 {d : Nat} {I : ai_I} {J : ai_J} {Rf : ai_R} {G : ai_G} {th : Nat} {a0 : Int32} {a1 : Int32} {a2 : Int32} {a3 : Int32} {r : Int32} {I1 : ai_I} (hd : 4 ≤ d) (hth : G.1 th = 11) (h : m_249 th a0 a1 a2 a3 I Rf G = some (r, I1)) : ai_Cl si_t si_ms d 249 [.inr (.inr th), .inl a0, .inl a1, .inl a2, .inl a3] I J Rf G (some (.inl r)) I1 J Rf G := by
  obtain ⟨e, rfl⟩ : ∃ e, d = e + 1 := ⟨d - 1, by omega⟩
  unfold m_249 at h
  refine sp_in (lo := [some (.inr (.inr th)), some (.inl a0), some (.inl a1), some (.inl a2), some (.inl a3)]) (B := (0, 0)) rfl (Nat.le_of_ble_eq_true rfl) rfl rfl ?_
  refine go_iload_n (pc' := 1) rfl rfl rfl ?_
  obtain ⟨r_1, q_1, h⟩ := o_b1E h
  refine go_callS (pc' := 4) (B' := (0, 0)) (st' := [.inl r_1]) rfl rfl (Or.inl (by decide)) rfl rfl trivial (md_200 (by omega) q_1) rfl rfl rfl ?_
  refine go_if_eq (pt := 53) (pc' := 7) rfl rfl rfl (fun h4 => ?_) (fun h4 => ?_)
  · replace h := o_t h4 h
    refine go_iconst (pc' := 54) (v := (-1 : Int32)) rfl rfl rfl ?_
    cases h
    exact go_iret rfl (trivial) ⟨rfl, rfl, rfl, rfl, rfl⟩
  · replace h := o_f h4 h
    refine go_aload_n (pc' := 8) rfl rfl rfl ?_
    refine go_iload_n (pc' := 9) rfl rfl rfl ?_
    refine go_iload_n (pc' := 10) rfl rfl rfl ?_
    obtain ⟨r_10, q_10, h⟩ := o_b1E h
    refine go_callV (pc' := 13) (B' := (0, 0)) (st' := [.inl r_10]) rfl rfl (Or.inl (by decide)) rfl rfl hth (md_199 (by omega) hth q_10) rfl rfl rfl ?_
    refine go_if_eq (pt := 53) (pc' := 16) rfl rfl rfl (fun h13 => ?_) (fun h13 => ?_)
    · replace h := o_t h13 h
      refine go_iconst (pc' := 54) (v := (-1 : Int32)) rfl rfl rfl ?_
      cases h
      exact go_iret rfl (trivial) ⟨rfl, rfl, rfl, rfl, rfl⟩
    · replace h := o_f h13 h
      refine go_aload_n (pc' := 17) rfl rfl rfl ?_
      refine go_iload_n (pc' := 18) rfl rfl rfl ?_
      refine go_iload_n (pc' := 19) rfl rfl rfl ?_
      obtain ⟨r_19, q_19, h⟩ := o_b1E h
      refine go_callV (pc' := 22) (B' := (0, 0)) (st' := [.inl r_19]) rfl rfl (Or.inl (by decide)) rfl rfl hth (md_199 (by omega) hth q_19) rfl rfl rfl ?_
      refine go_if_eq (pt := 53) (pc' := 25) rfl rfl rfl (fun h22 => ?_) (fun h22 => ?_)
      · replace h := o_t h22 h
        refine go_iconst (pc' := 54) (v := (-1 : Int32)) rfl rfl rfl ?_
        cases h
        exact go_iret rfl (trivial) ⟨rfl, rfl, rfl, rfl, rfl⟩
      · replace h := o_f h22 h
        refine go_aload_n (pc' := 26) rfl rfl rfl ?_
        refine go_iload_n (pc' := 27) rfl rfl rfl ?_
        refine go_iload (pc' := 29) rfl rfl rfl ?_
        obtain ⟨r_29, q_29, h⟩ := o_b1E h
        refine go_callV (pc' := 32) (B' := (0, 0)) (st' := [.inl r_29]) rfl rfl (Or.inl (by decide)) rfl rfl hth (md_202 (by omega) hth q_29) rfl rfl rfl ?_
        refine go_if_eq (pt := 53) (pc' := 35) rfl rfl rfl (fun h32 => ?_) (fun h32 => ?_)
        · replace h := o_t h32 h
          refine go_iconst (pc' := 54) (v := (-1 : Int32)) rfl rfl rfl ?_
          cases h
          exact go_iret rfl (trivial) ⟨rfl, rfl, rfl, rfl, rfl⟩
        · replace h := o_f h32 h
          refine go_iload_n (pc' := 36) rfl rfl rfl ?_
          refine go_iload (pc' := 38) rfl rfl rfl ?_
          obtain ⟨r_38, q_38, h⟩ := o_b1E h
          refine go_callS (pc' := 41) (B' := (0, 0)) (st' := [.inl r_38]) rfl rfl (Or.inl (by decide)) rfl rfl trivial (md_192 (by omega) q_38) rfl rfl rfl ?_
          refine go_if_eq (pt := 53) (pc' := 44) rfl rfl rfl (fun h41 => ?_) (fun h41 => ?_)
          · replace h := o_t h41 h
            refine go_iconst (pc' := 54) (v := (-1 : Int32)) rfl rfl rfl ?_
            cases h
            exact go_iret rfl (trivial) ⟨rfl, rfl, rfl, rfl, rfl⟩
          · replace h := o_f h41 h
            refine go_iload_n (pc' := 45) rfl rfl rfl ?_
            refine go_iload (pc' := 47) rfl rfl rfl ?_
            obtain ⟨r_47, q_47, h⟩ := o_b1E h
            refine go_callS (pc' := 50) (B' := (0, 0)) (st' := [.inl r_47]) rfl rfl (Or.inl (by decide)) rfl rfl trivial (md_192 (by omega) q_47) rfl rfl rfl ?_
            refine go_if_eq (pt := 55) (pc' := 53) rfl rfl rfl (fun h50 => ?_) (fun h50 => ?_)
            · replace h := o_t h50 h
              refine go_aload_n (pc' := 56) rfl rfl rfl ?_
              refine go_iload_n (pc' := 57) rfl rfl rfl ?_
              refine go_iconst (pc' := 58) (v := (nI 0)) rfl rfl rfl ?_
              obtain ⟨I_58, q_58, h⟩ := o_b1E h
              refine go_callV (pc' := 61) (B' := (0, 0)) (st' := []) rfl rfl (Or.inl (by decide)) rfl rfl hth (md_244 (by omega) hth q_58) rfl rfl rfl ?_
              refine go_aload_n (pc' := 62) rfl rfl rfl ?_
              refine go_iload_n (pc' := 63) rfl rfl rfl ?_
              refine go_iload_n (pc' := 64) rfl rfl rfl ?_
              refine go_iload (pc' := 66) rfl rfl rfl ?_
              obtain ⟨r_66, q_66, h⟩ := o_b1E h
              refine go_callV (pc' := 69) (B' := (0, 0)) (st' := [.inl r_66]) rfl rfl (Or.inl (by decide)) rfl rfl hth (md_245 (by omega) hth q_66) rfl rfl rfl ?_
              cases h
              exact go_iret rfl (trivial) ⟨rfl, rfl, rfl, rfl, rfl⟩
            · replace h := o_f h50 h
              refine go_iconst (pc' := 54) (v := (-1 : Int32)) rfl rfl rfl ?_
              cases h
              exact go_iret rfl (trivial) ⟨rfl, rfl, rfl, rfl, rfl⟩
def m_250_x5_41 (w3_41 : Int32) : Option (Int32) :=
  some w3_41
def m_250_b5 (th : Nat) (a0 : Int32) (a1 : Int32) (I : ai_I) (Rf : ai_R) (G : ai_G) (v3_5 : Int32) (v4_5 : Int32) : Option ((Int32 × Int32) ⊕ Int32) :=
  if (nI 256) ≤ v4_5 then (some (Sum.inr v3_5)) else (o_b1 (m_199 th a0 v4_5 I Rf G) (fun r_17 => if r_17 = 0 then (o_b1 (some (v4_5 + (nI 1))) (fun x4_35 => some (Sum.inl (v3_5, x4_35)))) else (o_b1 (m_193 (v4_5 &&& a1)) (fun r_28 => o_b1 (m_191 v3_5 r_28) (fun r_31 => o_b1 (some (v4_5 + (nI 1))) (fun x4_35 => some (Sum.inl (r_31, x4_35))))))))
/-- PricedBasesModel.rankOf(II)I -/
def m_250 (th : Nat) (a0 : Int32) (a1 : Int32) (I : ai_I) (Rf : ai_R) (G : ai_G) : Option (Int32) :=
  o_s1 (lp (fun s => m_250_b5 th a0 a1 I Rf G s.1 s.2) o_N ((nI 0), (nI 0))) (fun t => m_250_x5_41 t)
theorem md_250 {d : Nat} {I : ai_I} {J : ai_J} {Rf : ai_R} {G : ai_G} {th : Nat} {a0 : Int32} {a1 : Int32} {r : Int32} (hd : 3 ≤ d) (hth : G.1 th = 11) (h : m_250 th a0 a1 I Rf G = some r) : ai_Cl si_t si_ms d 250 [.inr (.inr th), .inl a0, .inl a1] I J Rf G (some (.inl r)) I J Rf G := by
  obtain ⟨e, rfl⟩ : ∃ e, d = e + 1 := ⟨d - 1, by omega⟩
  unfold m_250 at h
  refine sp_in (lo := [some (.inr (.inr th)), some (.inl a0), some (.inl a1), none, none]) (B := (0, 0)) rfl (Nat.le_of_ble_eq_true rfl) rfl rfl ?_
  refine go_iconst (pc' := 1) (v := (nI 0)) rfl rfl rfl ?_
  refine go_istore_n (pc' := 2) (lo' := [some (.inr (.inr th)), some (.inl a0), some (.inl a1), some (.inl (nI 0)), none]) rfl rfl rfl ?_
  refine go_iconst (pc' := 3) (v := (nI 0)) rfl rfl rfl ?_
  refine go_istore (pc' := 5) (lo' := [some (.inr (.inr th)), some (.inl a0), some (.inl a1), some (.inl (nI 0)), some (.inl (nI 0))]) rfl rfl rfl ?_
  obtain ⟨q5, hl5, hc5_41⟩ := o_s1E h
  have ex5_41 : ∀ (w3_41 : Int32) (z4_x41 : Option ai_V), w3_41 = q5 → ai_Go si_t (11, false, 0, cd_250) (ai_Cl si_t si_ms e) (sp_Q (some (.inl r)) I J Rf G) 41 [some (.inr (.inr th)), some (.inl a0), some (.inl a1), some (.inl w3_41), z4_x41] [] (0, 0) I J Rf G := by
    intro w3_41 z4_x41 hq
    have h : m_250_x5_41 w3_41 = some r := hc5_41 w3_41 hq.symm
    unfold m_250_x5_41 at h
    refine go_iload_n (pc' := 42) rfl rfl rfl ?_
    cases h
    exact go_iret rfl (trivial) ⟨rfl, rfl, rfl, rfl, rfl⟩
  have lo5 : ∀ n s, lp (fun s => m_250_b5 th a0 a1 I Rf G s.1 s.2) n s = some q5 → (fun s => ai_Go si_t (11, false, 0, cd_250) (ai_Cl si_t si_ms e) (sp_Q (some (.inl r)) I J Rf G) 5 [some (.inr (.inr th)), some (.inl a0), some (.inl a1), some (.inl s.1), some (.inl s.2)] [] (0, 0) I J Rf G) s := lp_go (fun s x5 hx hk5 => by
    obtain ⟨v3_5, v4_5⟩ := s
    have h : m_250_b5 th a0 a1 I Rf G v3_5 v4_5 = some x5 := hx
    clear hx
    show ai_Go si_t (11, false, 0, cd_250) (ai_Cl si_t si_ms e) (sp_Q (some (.inl r)) I J Rf G) 5 [some (.inr (.inr th)), some (.inl a0), some (.inl a1), some (.inl v3_5), some (.inl v4_5)] [] (0, 0) I J Rf G
    unfold m_250_b5 at h
    refine go_iload (pc' := 7) rfl rfl rfl ?_
    refine go_sipush (pc' := 10) (v := (nI 256)) rfl rfl rfl ?_
    refine go_icmp_ge (pt := 41) (pc' := 13) rfl rfl rfl (fun h10 => ?_) (fun h10 => ?_)
    · replace h := o_t h10 h
      exact ex5_41 _ (some (.inl v4_5)) (lp_exitE h hk5)
    · replace h := o_f h10 h
      refine go_aload_n (pc' := 14) rfl rfl rfl ?_
      refine go_iload_n (pc' := 15) rfl rfl rfl ?_
      refine go_iload (pc' := 17) rfl rfl rfl ?_
      obtain ⟨r_17, q_17, h⟩ := o_b1E h
      refine go_callV (pc' := 20) (B' := (0, 0)) (st' := [.inl r_17]) rfl rfl (Or.inl (by decide)) rfl rfl hth (md_199 (by omega) hth q_17) rfl rfl rfl ?_
      refine go_if_eq (pt := 35) (pc' := 23) rfl rfl rfl (fun h20 => ?_) (fun h20 => ?_)
      · replace h := o_t h20 h
        obtain ⟨x4_35, ex4_35, h⟩ := o_b1E h
        refine go_iincE (pc' := 38) rfl rfl (y := (nI 1)) rfl ex4_35 (lo' := [some (.inr (.inr th)), some (.inl a0), some (.inl a1), some (.inl v3_5), some (.inl x4_35)]) rfl rfl ?_
        refine go_goto (pc' := 5) rfl rfl ?_
        exact (lp_backE h hk5 :)
      · replace h := o_f h20 h
        refine go_iload_n (pc' := 24) rfl rfl rfl ?_
        refine go_iload (pc' := 26) rfl rfl rfl ?_
        refine go_iload_n (pc' := 27) rfl rfl rfl ?_
        refine go_iand (pc' := 28) rfl rfl ?_
        obtain ⟨r_28, q_28, h⟩ := o_b1E h
        refine go_callS (pc' := 31) (B' := (0, 0)) (st' := [.inl r_28, .inl v3_5]) rfl rfl (Or.inl (by decide)) rfl rfl trivial (md_193 (by omega) q_28) rfl rfl rfl ?_
        obtain ⟨r_31, q_31, h⟩ := o_b1E h
        refine go_callS (pc' := 34) (B' := (0, 0)) (st' := [.inl r_31]) rfl rfl (Or.inl (by decide)) rfl rfl trivial (md_191 (by omega) q_31) rfl rfl rfl ?_
        refine go_istore_n (pc' := 35) (lo' := [some (.inr (.inr th)), some (.inl a0), some (.inl a1), some (.inl r_31), some (.inl v4_5)]) rfl rfl rfl ?_
        obtain ⟨x4_35, ex4_35, h⟩ := o_b1E h
        refine go_iincE (pc' := 38) rfl rfl (y := (nI 1)) rfl ex4_35 (lo' := [some (.inr (.inr th)), some (.inl a0), some (.inl a1), some (.inl r_31), some (.inl x4_35)]) rfl rfl ?_
        refine go_goto (pc' := 5) rfl rfl ?_
        exact (lp_backE h hk5 :))
  exact lo5 _ ((nI 0), (nI 0)) hl5 
def m_251_x13_53 (w4_53 : Int32) : Option (Int32) :=
  some w4_53
def m_251_b13 (th : Nat) (a0 : Int32) (a1 : Int32) (I : ai_I) (Rf : ai_R) (G : ai_G) (r_3 : Int32) (v4_13 : Int32) (v5_13 : Int32) : Option ((Int32 × Int32) ⊕ Int32) :=
  o_b1 (m_195 th a0 I Rf G) (fun r_17 => if r_17 ≤ v5_13 then (some (Sum.inr v4_13)) else (o_b1 (m_250 th a0 (a1 ||| ((nI 1) <<< (v5_13 &&& 31))) I Rf G) (fun r_31 => if r_31 = r_3 then (o_b1 (some (v4_13 ||| ((nI 1) <<< (v5_13 &&& 31)))) (fun x4_45 => o_b1 (some (v5_13 + (nI 1))) (fun x5_47 => some (Sum.inl (x4_45, x5_47))))) else (o_b1 (some (v5_13 + (nI 1))) (fun x5_47 => some (Sum.inl (v4_13, x5_47)))))))
/-- PricedBasesModel.closureOf(II)I -/
def m_251 (th : Nat) (a0 : Int32) (a1 : Int32) (I : ai_I) (Rf : ai_R) (G : ai_G) : Option (Int32) :=
  o_b1 (m_250 th a0 a1 I Rf G) (fun r_3 => o_s1 (lp (fun s => m_251_b13 th a0 a1 I Rf G r_3 s.1 s.2) o_N (a1, (nI 0))) (fun t => m_251_x13_53 t))
theorem md_251 {d : Nat} {I : ai_I} {J : ai_J} {Rf : ai_R} {G : ai_G} {th : Nat} {a0 : Int32} {a1 : Int32} {r : Int32} (hd : 4 ≤ d) (hth : G.1 th = 11) (h : m_251 th a0 a1 I Rf G = some r) : ai_Cl si_t si_ms d 251 [.inr (.inr th), .inl a0, .inl a1] I J Rf G (some (.inl r)) I J Rf G := by
  obtain ⟨e, rfl⟩ : ∃ e, d = e + 1 := ⟨d - 1, by omega⟩
  unfold m_251 at h
  refine sp_in (lo := [some (.inr (.inr th)), some (.inl a0), some (.inl a1), none, none, none]) (B := (0, 0)) rfl (Nat.le_of_ble_eq_true rfl) rfl rfl ?_
  refine go_aload_n (pc' := 1) rfl rfl rfl ?_
  refine go_iload_n (pc' := 2) rfl rfl rfl ?_
  refine go_iload_n (pc' := 3) rfl rfl rfl ?_
  obtain ⟨r_3, q_3, h⟩ := o_b1E h
  refine go_callV (pc' := 6) (B' := (0, 0)) (st' := [.inl r_3]) rfl rfl (Or.inl (by decide)) rfl rfl hth (md_250 (by omega) hth q_3) rfl rfl rfl ?_
  refine go_istore_n (pc' := 7) (lo' := [some (.inr (.inr th)), some (.inl a0), some (.inl a1), some (.inl r_3), none, none]) rfl rfl rfl ?_
  refine go_iload_n (pc' := 8) rfl rfl rfl ?_
  refine go_istore (pc' := 10) (lo' := [some (.inr (.inr th)), some (.inl a0), some (.inl a1), some (.inl r_3), some (.inl a1), none]) rfl rfl rfl ?_
  refine go_iconst (pc' := 11) (v := (nI 0)) rfl rfl rfl ?_
  refine go_istore (pc' := 13) (lo' := [some (.inr (.inr th)), some (.inl a0), some (.inl a1), some (.inl r_3), some (.inl a1), some (.inl (nI 0))]) rfl rfl rfl ?_
  obtain ⟨q13, hl13, hc13_53⟩ := o_s1E h
  have ex13_53 : ∀ (w4_53 : Int32) (z5_x53 : Option ai_V), w4_53 = q13 → ai_Go si_t (11, false, 0, cd_251) (ai_Cl si_t si_ms e) (sp_Q (some (.inl r)) I J Rf G) 53 [some (.inr (.inr th)), some (.inl a0), some (.inl a1), some (.inl r_3), some (.inl w4_53), z5_x53] [] (0, 0) I J Rf G := by
    intro w4_53 z5_x53 hq
    have h : m_251_x13_53 w4_53 = some r := hc13_53 w4_53 hq.symm
    unfold m_251_x13_53 at h
    refine go_iload (pc' := 55) rfl rfl rfl ?_
    cases h
    exact go_iret rfl (trivial) ⟨rfl, rfl, rfl, rfl, rfl⟩
  have lo13 : ∀ n s, lp (fun s => m_251_b13 th a0 a1 I Rf G r_3 s.1 s.2) n s = some q13 → (fun s => ai_Go si_t (11, false, 0, cd_251) (ai_Cl si_t si_ms e) (sp_Q (some (.inl r)) I J Rf G) 13 [some (.inr (.inr th)), some (.inl a0), some (.inl a1), some (.inl r_3), some (.inl s.1), some (.inl s.2)] [] (0, 0) I J Rf G) s := lp_go (fun s x13 hx hk13 => by
    obtain ⟨v4_13, v5_13⟩ := s
    have h : m_251_b13 th a0 a1 I Rf G r_3 v4_13 v5_13 = some x13 := hx
    clear hx
    show ai_Go si_t (11, false, 0, cd_251) (ai_Cl si_t si_ms e) (sp_Q (some (.inl r)) I J Rf G) 13 [some (.inr (.inr th)), some (.inl a0), some (.inl a1), some (.inl r_3), some (.inl v4_13), some (.inl v5_13)] [] (0, 0) I J Rf G
    unfold m_251_b13 at h
    refine go_iload (pc' := 15) rfl rfl rfl ?_
    refine go_aload_n (pc' := 16) rfl rfl rfl ?_
    refine go_iload_n (pc' := 17) rfl rfl rfl ?_
    obtain ⟨r_17, q_17, h⟩ := o_b1E h
    refine go_callV (pc' := 20) (B' := (0, 0)) (st' := [.inl r_17, .inl v5_13]) rfl rfl (Or.inl (by decide)) rfl rfl hth (md_195 (by omega) hth q_17) rfl rfl rfl ?_
    refine go_icmp_ge (pt := 53) (pc' := 23) rfl rfl rfl (fun h20 => ?_) (fun h20 => ?_)
    · replace h := o_t h20 h
      exact ex13_53 _ (some (.inl v5_13)) (lp_exitE h hk13)
    · replace h := o_f h20 h
      refine go_aload_n (pc' := 24) rfl rfl rfl ?_
      refine go_iload_n (pc' := 25) rfl rfl rfl ?_
      refine go_iload_n (pc' := 26) rfl rfl rfl ?_
      refine go_iconst (pc' := 27) (v := (nI 1)) rfl rfl rfl ?_
      refine go_iload (pc' := 29) rfl rfl rfl ?_
      refine go_ishl (pc' := 30) rfl rfl ?_
      refine go_ior (pc' := 31) rfl rfl ?_
      obtain ⟨r_31, q_31, h⟩ := o_b1E h
      refine go_callV (pc' := 34) (B' := (0, 0)) (st' := [.inl r_31]) rfl rfl (Or.inl (by decide)) rfl rfl hth (md_250 (by omega) hth q_31) rfl rfl rfl ?_
      refine go_iload_n (pc' := 35) rfl rfl rfl ?_
      refine go_icmp_ne (pt := 47) (pc' := 38) rfl rfl rfl (fun h35 => ?_) (fun h35 => ?_)
      · replace h := o_f h35 h
        obtain ⟨x5_47, ex5_47, h⟩ := o_b1E h
        refine go_iincE (pc' := 50) rfl rfl (y := (nI 1)) rfl ex5_47 (lo' := [some (.inr (.inr th)), some (.inl a0), some (.inl a1), some (.inl r_3), some (.inl v4_13), some (.inl x5_47)]) rfl rfl ?_
        refine go_goto (pc' := 13) rfl rfl ?_
        exact (lp_backE h hk13 :)
      · replace h := o_t (Decidable.of_not_not h35) h
        refine go_iload (pc' := 40) rfl rfl rfl ?_
        refine go_iconst (pc' := 41) (v := (nI 1)) rfl rfl rfl ?_
        refine go_iload (pc' := 43) rfl rfl rfl ?_
        refine go_ishl (pc' := 44) rfl rfl ?_
        refine go_ior (pc' := 45) rfl rfl ?_
        obtain ⟨x4_45, ex4_45, h⟩ := o_b1E h
        refine go_ndI ex4_45 ?_
        refine go_istore (pc' := 47) (lo' := [some (.inr (.inr th)), some (.inl a0), some (.inl a1), some (.inl r_3), some (.inl x4_45), some (.inl v5_13)]) rfl rfl rfl ?_
        obtain ⟨x5_47, ex5_47, h⟩ := o_b1E h
        refine go_iincE (pc' := 50) rfl rfl (y := (nI 1)) rfl ex5_47 (lo' := [some (.inr (.inr th)), some (.inl a0), some (.inl a1), some (.inl r_3), some (.inl x4_45), some (.inl x5_47)]) rfl rfl ?_
        refine go_goto (pc' := 13) rfl rfl ?_
        exact (lp_backE h hk13 :))
  exact lo13 _ (a1, (nI 0)) hl13 
/-- PricedBasesModel.isFree(II)Z -/
def m_252 (th : Nat) (a0 : Int32) (a1 : Int32) (I : ai_I) (Rf : ai_R) (G : ai_G) : Option (Int32) :=
  o_b1 (m_250 th a0 a1 I Rf G) (fun r_3 => o_b1 (m_193 a1) (fun r_7 => if r_3 = r_7 then (some (nI 1)) else (some (nI 0))))
theorem md_252 {d : Nat} {I : ai_I} {J : ai_J} {Rf : ai_R} {G : ai_G} {th : Nat} {a0 : Int32} {a1 : Int32} {r : Int32} (hd : 4 ≤ d) (hth : G.1 th = 11) (h : m_252 th a0 a1 I Rf G = some r) : ai_Cl si_t si_ms d 252 [.inr (.inr th), .inl a0, .inl a1] I J Rf G (some (.inl r)) I J Rf G := by
  obtain ⟨e, rfl⟩ : ∃ e, d = e + 1 := ⟨d - 1, by omega⟩
  unfold m_252 at h
  refine sp_in (lo := [some (.inr (.inr th)), some (.inl a0), some (.inl a1)]) (B := (0, 0)) rfl (Nat.le_of_ble_eq_true rfl) rfl rfl ?_
  refine go_aload_n (pc' := 1) rfl rfl rfl ?_
  refine go_iload_n (pc' := 2) rfl rfl rfl ?_
  refine go_iload_n (pc' := 3) rfl rfl rfl ?_
  obtain ⟨r_3, q_3, h⟩ := o_b1E h
  refine go_callV (pc' := 6) (B' := (0, 0)) (st' := [.inl r_3]) rfl rfl (Or.inl (by decide)) rfl rfl hth (md_250 (by omega) hth q_3) rfl rfl rfl ?_
  refine go_iload_n (pc' := 7) rfl rfl rfl ?_
  obtain ⟨r_7, q_7, h⟩ := o_b1E h
  refine go_callS (pc' := 10) (B' := (0, 0)) (st' := [.inl r_7, .inl r_3]) rfl rfl (Or.inl (by decide)) rfl rfl trivial (md_193 (by omega) q_7) rfl rfl rfl ?_
  refine go_icmp_ne (pt := 17) (pc' := 13) rfl rfl rfl (fun h10 => ?_) (fun h10 => ?_)
  · replace h := o_f h10 h
    refine go_iconst (pc' := 18) (v := (nI 0)) rfl rfl rfl ?_
    cases h
    exact go_iret rfl (rfl) ⟨rfl, rfl, rfl, rfl, rfl⟩
  · replace h := o_t (Decidable.of_not_not h10) h
    refine go_iconst (pc' := 14) (v := (nI 1)) rfl rfl rfl ?_
    refine go_goto (pc' := 18) rfl rfl ?_
    cases h
    exact go_iret rfl (rfl) ⟨rfl, rfl, rfl, rfl, rfl⟩
/-- PricedBasesModel.isFlat(II)Z -/
def m_253 (th : Nat) (a0 : Int32) (a1 : Int32) (I : ai_I) (Rf : ai_R) (G : ai_G) : Option (Int32) :=
  o_b1 (m_251 th a0 a1 I Rf G) (fun r_3 => if r_3 = a1 then (some (nI 1)) else (some (nI 0)))
theorem md_253 {d : Nat} {I : ai_I} {J : ai_J} {Rf : ai_R} {G : ai_G} {th : Nat} {a0 : Int32} {a1 : Int32} {r : Int32} (hd : 5 ≤ d) (hth : G.1 th = 11) (h : m_253 th a0 a1 I Rf G = some r) : ai_Cl si_t si_ms d 253 [.inr (.inr th), .inl a0, .inl a1] I J Rf G (some (.inl r)) I J Rf G := by
  obtain ⟨e, rfl⟩ : ∃ e, d = e + 1 := ⟨d - 1, by omega⟩
  unfold m_253 at h
  refine sp_in (lo := [some (.inr (.inr th)), some (.inl a0), some (.inl a1)]) (B := (0, 0)) rfl (Nat.le_of_ble_eq_true rfl) rfl rfl ?_
  refine go_aload_n (pc' := 1) rfl rfl rfl ?_
  refine go_iload_n (pc' := 2) rfl rfl rfl ?_
  refine go_iload_n (pc' := 3) rfl rfl rfl ?_
  obtain ⟨r_3, q_3, h⟩ := o_b1E h
  refine go_callV (pc' := 6) (B' := (0, 0)) (st' := [.inl r_3]) rfl rfl (Or.inl (by decide)) rfl rfl hth (md_251 (by omega) hth q_3) rfl rfl rfl ?_
  refine go_iload_n (pc' := 7) rfl rfl rfl ?_
  refine go_icmp_ne (pt := 14) (pc' := 10) rfl rfl rfl (fun h7 => ?_) (fun h7 => ?_)
  · replace h := o_f h7 h
    refine go_iconst (pc' := 15) (v := (nI 0)) rfl rfl rfl ?_
    cases h
    exact go_iret rfl (rfl) ⟨rfl, rfl, rfl, rfl, rfl⟩
  · replace h := o_t (Decidable.of_not_not h7) h
    refine go_iconst (pc' := 11) (v := (nI 1)) rfl rfl rfl ?_
    refine go_goto (pc' := 15) rfl rfl ?_
    cases h
    exact go_iret rfl (rfl) ⟨rfl, rfl, rfl, rfl, rfl⟩
def m_254_x13_40 : Option (Int32) :=
  some (nI 0)
def m_254_x13_48 : Option (Int32) :=
  some (nI 1)
def m_254_b13 (th : Nat) (a0 : Int32) (a1 : Int32) (I : ai_I) (Rf : ai_R) (G : ai_G) (v3_13 : Int32) : Option (Int32 ⊕ (Unit ⊕ Unit)) :=
  if (nI 8) ≤ v3_13 then (some (Sum.inr (Sum.inr ()))) else (o_b1 (m_192 a1 v3_13) (fun r_21 => if r_21 = 0 then (o_b1 (some (v3_13 + (nI 1))) (fun x3_42 => some (Sum.inl x3_42))) else (o_b1 (m_252 th a0 (a1 ^^^ ((nI 1) <<< (v3_13 &&& 31))) I Rf G) (fun r_34 => if r_34 = 0 then (some (Sum.inr (Sum.inl ()))) else (o_b1 (some (v3_13 + (nI 1))) (fun x3_42 => some (Sum.inl x3_42)))))))
/-- PricedBasesModel.isCircuit(II)Z -/
def m_254 (th : Nat) (a0 : Int32) (a1 : Int32) (I : ai_I) (Rf : ai_R) (G : ai_G) : Option (Int32) :=
  o_b1 (m_252 th a0 a1 I Rf G) (fun r_3 => if r_3 = 0 then (o_s2 (lp (fun s => m_254_b13 th a0 a1 I Rf G s) o_N (nI 0)) (fun t => m_254_x13_40) (fun t => m_254_x13_48)) else (some (nI 0)))
theorem md_254 {d : Nat} {I : ai_I} {J : ai_J} {Rf : ai_R} {G : ai_G} {th : Nat} {a0 : Int32} {a1 : Int32} {r : Int32} (hd : 5 ≤ d) (hth : G.1 th = 11) (h : m_254 th a0 a1 I Rf G = some r) : ai_Cl si_t si_ms d 254 [.inr (.inr th), .inl a0, .inl a1] I J Rf G (some (.inl r)) I J Rf G := by
  obtain ⟨e, rfl⟩ : ∃ e, d = e + 1 := ⟨d - 1, by omega⟩
  unfold m_254 at h
  refine sp_in (lo := [some (.inr (.inr th)), some (.inl a0), some (.inl a1), none]) (B := (0, 0)) rfl (Nat.le_of_ble_eq_true rfl) rfl rfl ?_
  refine go_aload_n (pc' := 1) rfl rfl rfl ?_
  refine go_iload_n (pc' := 2) rfl rfl rfl ?_
  refine go_iload_n (pc' := 3) rfl rfl rfl ?_
  obtain ⟨r_3, q_3, h⟩ := o_b1E h
  refine go_callV (pc' := 6) (B' := (0, 0)) (st' := [.inl r_3]) rfl rfl (Or.inl (by decide)) rfl rfl hth (md_252 (by omega) hth q_3) rfl rfl rfl ?_
  refine go_if_eq (pt := 11) (pc' := 9) rfl rfl rfl (fun h6 => ?_) (fun h6 => ?_)
  · replace h := o_t h6 h
    refine go_iconst (pc' := 12) (v := (nI 0)) rfl rfl rfl ?_
    refine go_istore_n (pc' := 13) (lo' := [some (.inr (.inr th)), some (.inl a0), some (.inl a1), some (.inl (nI 0))]) rfl rfl rfl ?_
    obtain ⟨q13, hl13, hc13_40, hc13_48⟩ := o_s2E h
    have ex13_40 : ∀ (z3_x40 : Option ai_V), (Sum.inl ()) = q13 → ai_Go si_t (11, false, 3, cd_254) (ai_Cl si_t si_ms e) (sp_Q (some (.inl r)) I J Rf G) 40 [some (.inr (.inr th)), some (.inl a0), some (.inl a1), z3_x40] [] (0, 0) I J Rf G := by
      intro z3_x40 hq
      have h : m_254_x13_40 = some r := hc13_40 () hq.symm
      unfold m_254_x13_40 at h
      refine go_iconst (pc' := 41) (v := (nI 0)) rfl rfl rfl ?_
      cases h
      exact go_iret rfl (rfl) ⟨rfl, rfl, rfl, rfl, rfl⟩
    have ex13_48 : ∀ (z3_x48 : Option ai_V), (Sum.inr ()) = q13 → ai_Go si_t (11, false, 3, cd_254) (ai_Cl si_t si_ms e) (sp_Q (some (.inl r)) I J Rf G) 48 [some (.inr (.inr th)), some (.inl a0), some (.inl a1), z3_x48] [] (0, 0) I J Rf G := by
      intro z3_x48 hq
      have h : m_254_x13_48 = some r := hc13_48 () hq.symm
      unfold m_254_x13_48 at h
      refine go_iconst (pc' := 49) (v := (nI 1)) rfl rfl rfl ?_
      cases h
      exact go_iret rfl (rfl) ⟨rfl, rfl, rfl, rfl, rfl⟩
    have lo13 : ∀ n s, lp (fun s => m_254_b13 th a0 a1 I Rf G s) n s = some q13 → (fun s => ai_Go si_t (11, false, 3, cd_254) (ai_Cl si_t si_ms e) (sp_Q (some (.inl r)) I J Rf G) 13 [some (.inr (.inr th)), some (.inl a0), some (.inl a1), some (.inl s)] [] (0, 0) I J Rf G) s := lp_go (fun s x13 hx hk13 => by
      revert s; intro v3_13 hx
      have h : m_254_b13 th a0 a1 I Rf G v3_13 = some x13 := hx
      clear hx
      show ai_Go si_t (11, false, 3, cd_254) (ai_Cl si_t si_ms e) (sp_Q (some (.inl r)) I J Rf G) 13 [some (.inr (.inr th)), some (.inl a0), some (.inl a1), some (.inl v3_13)] [] (0, 0) I J Rf G
      unfold m_254_b13 at h
      refine go_iload_n (pc' := 14) rfl rfl rfl ?_
      refine go_bipush (pc' := 16) (v := (nI 8)) rfl rfl rfl ?_
      refine go_icmp_ge (pt := 48) (pc' := 19) rfl rfl rfl (fun h16 => ?_) (fun h16 => ?_)
      · replace h := o_t h16 h
        exact ex13_48  (some (.inl v3_13)) (lp_exitE h hk13)
      · replace h := o_f h16 h
        refine go_iload_n (pc' := 20) rfl rfl rfl ?_
        refine go_iload_n (pc' := 21) rfl rfl rfl ?_
        obtain ⟨r_21, q_21, h⟩ := o_b1E h
        refine go_callS (pc' := 24) (B' := (0, 0)) (st' := [.inl r_21]) rfl rfl (Or.inl (by decide)) rfl rfl trivial (md_192 (by omega) q_21) rfl rfl rfl ?_
        refine go_if_eq (pt := 42) (pc' := 27) rfl rfl rfl (fun h24 => ?_) (fun h24 => ?_)
        · replace h := o_t h24 h
          obtain ⟨x3_42, ex3_42, h⟩ := o_b1E h
          refine go_iincE (pc' := 45) rfl rfl (y := (nI 1)) rfl ex3_42 (lo' := [some (.inr (.inr th)), some (.inl a0), some (.inl a1), some (.inl x3_42)]) rfl rfl ?_
          refine go_goto (pc' := 13) rfl rfl ?_
          exact (lp_backE h hk13 :)
        · replace h := o_f h24 h
          refine go_aload_n (pc' := 28) rfl rfl rfl ?_
          refine go_iload_n (pc' := 29) rfl rfl rfl ?_
          refine go_iload_n (pc' := 30) rfl rfl rfl ?_
          refine go_iconst (pc' := 31) (v := (nI 1)) rfl rfl rfl ?_
          refine go_iload_n (pc' := 32) rfl rfl rfl ?_
          refine go_ishl (pc' := 33) rfl rfl ?_
          refine go_ixor (pc' := 34) rfl rfl ?_
          obtain ⟨r_34, q_34, h⟩ := o_b1E h
          refine go_callV (pc' := 37) (B' := (0, 0)) (st' := [.inl r_34]) rfl rfl (Or.inl (by decide)) rfl rfl hth (md_252 (by omega) hth q_34) rfl rfl rfl ?_
          refine go_if_ne (pt := 42) (pc' := 40) rfl rfl rfl (fun h37 => ?_) (fun h37 => ?_)
          · replace h := o_f h37 h
            obtain ⟨x3_42, ex3_42, h⟩ := o_b1E h
            refine go_iincE (pc' := 45) rfl rfl (y := (nI 1)) rfl ex3_42 (lo' := [some (.inr (.inr th)), some (.inl a0), some (.inl a1), some (.inl x3_42)]) rfl rfl ?_
            refine go_goto (pc' := 13) rfl rfl ?_
            exact (lp_backE h hk13 :)
          · replace h := o_t (Decidable.of_not_not h37) h
            exact ex13_40  (some (.inl v3_13)) (lp_exitE h hk13))
    exact lo13 _ (nI 0) hl13 
  · replace h := o_f h6 h
    refine go_iconst (pc' := 10) (v := (nI 0)) rfl rfl rfl ?_
    cases h
    exact go_iret rfl (rfl) ⟨rfl, rfl, rfl, rfl, rfl⟩
/-- PricedBasesModel.rank(II)I -/
def m_255 (th : Nat) (a0 : Int32) (a1 : Int32) (I : ai_I) (Rf : ai_R) (G : ai_G) : Option (Int32) :=
  o_b1 (m_200 a0) (fun r_1 => if r_1 = 0 then (some (-1 : Int32)) else (o_b1 (m_201 th a0 a1 I Rf G) (fun r_10 => if r_10 = 0 then (some (-1 : Int32)) else (o_b1 (m_250 th a0 a1 I Rf G) (fun r_19 => some r_19)))))
theorem md_255 {d : Nat} {I : ai_I} {J : ai_J} {Rf : ai_R} {G : ai_G} {th : Nat} {a0 : Int32} {a1 : Int32} {r : Int32} (hd : 4 ≤ d) (hth : G.1 th = 11) (h : m_255 th a0 a1 I Rf G = some r) : ai_Cl si_t si_ms d 255 [.inr (.inr th), .inl a0, .inl a1] I J Rf G (some (.inl r)) I J Rf G := by
  obtain ⟨e, rfl⟩ : ∃ e, d = e + 1 := ⟨d - 1, by omega⟩
  unfold m_255 at h
  refine sp_in (lo := [some (.inr (.inr th)), some (.inl a0), some (.inl a1)]) (B := (0, 0)) rfl (Nat.le_of_ble_eq_true rfl) rfl rfl ?_
  refine go_iload_n (pc' := 1) rfl rfl rfl ?_
  obtain ⟨r_1, q_1, h⟩ := o_b1E h
  refine go_callS (pc' := 4) (B' := (0, 0)) (st' := [.inl r_1]) rfl rfl (Or.inl (by decide)) rfl rfl trivial (md_200 (by omega) q_1) rfl rfl rfl ?_
  refine go_if_eq (pt := 25) (pc' := 7) rfl rfl rfl (fun h4 => ?_) (fun h4 => ?_)
  · replace h := o_t h4 h
    refine go_iconst (pc' := 26) (v := (-1 : Int32)) rfl rfl rfl ?_
    cases h
    exact go_iret rfl (trivial) ⟨rfl, rfl, rfl, rfl, rfl⟩
  · replace h := o_f h4 h
    refine go_aload_n (pc' := 8) rfl rfl rfl ?_
    refine go_iload_n (pc' := 9) rfl rfl rfl ?_
    refine go_iload_n (pc' := 10) rfl rfl rfl ?_
    obtain ⟨r_10, q_10, h⟩ := o_b1E h
    refine go_callV (pc' := 13) (B' := (0, 0)) (st' := [.inl r_10]) rfl rfl (Or.inl (by decide)) rfl rfl hth (md_201 (by omega) hth q_10) rfl rfl rfl ?_
    refine go_if_eq (pt := 25) (pc' := 16) rfl rfl rfl (fun h13 => ?_) (fun h13 => ?_)
    · replace h := o_t h13 h
      refine go_iconst (pc' := 26) (v := (-1 : Int32)) rfl rfl rfl ?_
      cases h
      exact go_iret rfl (trivial) ⟨rfl, rfl, rfl, rfl, rfl⟩
    · replace h := o_f h13 h
      refine go_aload_n (pc' := 17) rfl rfl rfl ?_
      refine go_iload_n (pc' := 18) rfl rfl rfl ?_
      refine go_iload_n (pc' := 19) rfl rfl rfl ?_
      obtain ⟨r_19, q_19, h⟩ := o_b1E h
      refine go_callV (pc' := 22) (B' := (0, 0)) (st' := [.inl r_19]) rfl rfl (Or.inl (by decide)) rfl rfl hth (md_250 (by omega) hth q_19) rfl rfl rfl ?_
      refine go_goto (pc' := 26) rfl rfl ?_
      cases h
      exact go_iret rfl (trivial) ⟨rfl, rfl, rfl, rfl, rfl⟩
/-- PricedBasesModel.closure(II)I -/
def m_256 (th : Nat) (a0 : Int32) (a1 : Int32) (I : ai_I) (Rf : ai_R) (G : ai_G) : Option (Int32) :=
  o_b1 (m_200 a0) (fun r_1 => if r_1 = 0 then (some (-1 : Int32)) else (o_b1 (m_201 th a0 a1 I Rf G) (fun r_10 => if r_10 = 0 then (some (-1 : Int32)) else (o_b1 (m_251 th a0 a1 I Rf G) (fun r_19 => some r_19)))))
theorem md_256 {d : Nat} {I : ai_I} {J : ai_J} {Rf : ai_R} {G : ai_G} {th : Nat} {a0 : Int32} {a1 : Int32} {r : Int32} (hd : 5 ≤ d) (hth : G.1 th = 11) (h : m_256 th a0 a1 I Rf G = some r) : ai_Cl si_t si_ms d 256 [.inr (.inr th), .inl a0, .inl a1] I J Rf G (some (.inl r)) I J Rf G := by
  obtain ⟨e, rfl⟩ : ∃ e, d = e + 1 := ⟨d - 1, by omega⟩
  unfold m_256 at h
  refine sp_in (lo := [some (.inr (.inr th)), some (.inl a0), some (.inl a1)]) (B := (0, 0)) rfl (Nat.le_of_ble_eq_true rfl) rfl rfl ?_
  refine go_iload_n (pc' := 1) rfl rfl rfl ?_
  obtain ⟨r_1, q_1, h⟩ := o_b1E h
  refine go_callS (pc' := 4) (B' := (0, 0)) (st' := [.inl r_1]) rfl rfl (Or.inl (by decide)) rfl rfl trivial (md_200 (by omega) q_1) rfl rfl rfl ?_
  refine go_if_eq (pt := 25) (pc' := 7) rfl rfl rfl (fun h4 => ?_) (fun h4 => ?_)
  · replace h := o_t h4 h
    refine go_iconst (pc' := 26) (v := (-1 : Int32)) rfl rfl rfl ?_
    cases h
    exact go_iret rfl (trivial) ⟨rfl, rfl, rfl, rfl, rfl⟩
  · replace h := o_f h4 h
    refine go_aload_n (pc' := 8) rfl rfl rfl ?_
    refine go_iload_n (pc' := 9) rfl rfl rfl ?_
    refine go_iload_n (pc' := 10) rfl rfl rfl ?_
    obtain ⟨r_10, q_10, h⟩ := o_b1E h
    refine go_callV (pc' := 13) (B' := (0, 0)) (st' := [.inl r_10]) rfl rfl (Or.inl (by decide)) rfl rfl hth (md_201 (by omega) hth q_10) rfl rfl rfl ?_
    refine go_if_eq (pt := 25) (pc' := 16) rfl rfl rfl (fun h13 => ?_) (fun h13 => ?_)
    · replace h := o_t h13 h
      refine go_iconst (pc' := 26) (v := (-1 : Int32)) rfl rfl rfl ?_
      cases h
      exact go_iret rfl (trivial) ⟨rfl, rfl, rfl, rfl, rfl⟩
    · replace h := o_f h13 h
      refine go_aload_n (pc' := 17) rfl rfl rfl ?_
      refine go_iload_n (pc' := 18) rfl rfl rfl ?_
      refine go_iload_n (pc' := 19) rfl rfl rfl ?_
      obtain ⟨r_19, q_19, h⟩ := o_b1E h
      refine go_callV (pc' := 22) (B' := (0, 0)) (st' := [.inl r_19]) rfl rfl (Or.inl (by decide)) rfl rfl hth (md_251 (by omega) hth q_19) rfl rfl rfl ?_
      refine go_goto (pc' := 26) rfl rfl ?_
      cases h
      exact go_iret rfl (trivial) ⟨rfl, rfl, rfl, rfl, rfl⟩
def m_257_x18_46 (w4_46 : Int32) : Option (Int32) :=
  some w4_46
def m_257_x18_59 : Option (Int32) :=
  some (-4 : Int32)
def m_257_b18 (th : Nat) (a0 : Int32) (a1 : Int32) (I : ai_I) (Rf : ai_R) (G : ai_G) (v3_18 : Int32) (v4_18 : Int32) : Option ((Int32 × Int32) ⊕ (Int32 ⊕ Unit)) :=
  o_b1 (m_197 th a0 I Rf G) (fun r_22 => if r_22 < v4_18 then (some (Sum.inr (Sum.inr ()))) else (o_b1 (m_254 th a0 v4_18 I Rf G) (fun r_32 => if r_32 = 0 then (o_b1 (some (v4_18 + (nI 1))) (fun x4_53 => some (Sum.inl (v3_18, x4_53)))) else (if v3_18 = a1 then (some (Sum.inr (Sum.inl v4_18))) else (o_b1 (some (v3_18 + (nI 1))) (fun x3_52 => o_b1 (some (v4_18 + (nI 1))) (fun x4_53 => some (Sum.inl (x3_52, x4_53)))))))))
/-- PricedBasesModel.circuit(II)I -/
def m_257 (th : Nat) (a0 : Int32) (a1 : Int32) (I : ai_I) (Rf : ai_R) (G : ai_G) : Option (Int32) :=
  o_b1 (m_200 a0) (fun r_1 => if r_1 = 0 then (some (-1 : Int32)) else (if 0 ≤ a1 then (o_s2 (lp (fun s => m_257_b18 th a0 a1 I Rf G s.1 s.2) o_N ((nI 0), (nI 0))) (fun t => m_257_x18_46 t) (fun t => m_257_x18_59)) else (some (-1 : Int32))))
theorem md_257 {d : Nat} {I : ai_I} {J : ai_J} {Rf : ai_R} {G : ai_G} {th : Nat} {a0 : Int32} {a1 : Int32} {r : Int32} (hd : 6 ≤ d) (hth : G.1 th = 11) (h : m_257 th a0 a1 I Rf G = some r) : ai_Cl si_t si_ms d 257 [.inr (.inr th), .inl a0, .inl a1] I J Rf G (some (.inl r)) I J Rf G := by
  obtain ⟨e, rfl⟩ : ∃ e, d = e + 1 := ⟨d - 1, by omega⟩
  unfold m_257 at h
  refine sp_in (lo := [some (.inr (.inr th)), some (.inl a0), some (.inl a1), none, none]) (B := (0, 0)) rfl (Nat.le_of_ble_eq_true rfl) rfl rfl ?_
  refine go_iload_n (pc' := 1) rfl rfl rfl ?_
  obtain ⟨r_1, q_1, h⟩ := o_b1E h
  refine go_callS (pc' := 4) (B' := (0, 0)) (st' := [.inl r_1]) rfl rfl (Or.inl (by decide)) rfl rfl trivial (md_200 (by omega) q_1) rfl rfl rfl ?_
  refine go_if_eq (pt := 11) (pc' := 7) rfl rfl rfl (fun h4 => ?_) (fun h4 => ?_)
  · replace h := o_t h4 h
    refine go_iconst (pc' := 12) (v := (-1 : Int32)) rfl rfl rfl ?_
    cases h
    exact go_iret rfl (trivial) ⟨rfl, rfl, rfl, rfl, rfl⟩
  · replace h := o_f h4 h
    refine go_iload_n (pc' := 8) rfl rfl rfl ?_
    refine go_if_ge (pt := 13) (pc' := 11) rfl rfl rfl (fun h8 => ?_) (fun h8 => ?_)
    · replace h := o_t h8 h
      refine go_iconst (pc' := 14) (v := (nI 0)) rfl rfl rfl ?_
      refine go_istore_n (pc' := 15) (lo' := [some (.inr (.inr th)), some (.inl a0), some (.inl a1), some (.inl (nI 0)), none]) rfl rfl rfl ?_
      refine go_iconst (pc' := 16) (v := (nI 0)) rfl rfl rfl ?_
      refine go_istore (pc' := 18) (lo' := [some (.inr (.inr th)), some (.inl a0), some (.inl a1), some (.inl (nI 0)), some (.inl (nI 0))]) rfl rfl rfl ?_
      obtain ⟨q18, hl18, hc18_46, hc18_59⟩ := o_s2E h
      have ex18_46 : ∀ (w4_46 : Int32) (z3_x46 : Option ai_V), (Sum.inl w4_46) = q18 → ai_Go si_t (11, false, 0, cd_257) (ai_Cl si_t si_ms e) (sp_Q (some (.inl r)) I J Rf G) 46 [some (.inr (.inr th)), some (.inl a0), some (.inl a1), z3_x46, some (.inl w4_46)] [] (0, 0) I J Rf G := by
        intro w4_46 z3_x46 hq
        have h : m_257_x18_46 w4_46 = some r := hc18_46 w4_46 hq.symm
        unfold m_257_x18_46 at h
        refine go_iload (pc' := 48) rfl rfl rfl ?_
        cases h
        exact go_iret rfl (trivial) ⟨rfl, rfl, rfl, rfl, rfl⟩
      have ex18_59 : ∀ (z3_x59 : Option ai_V) (z4_x59 : Option ai_V), (Sum.inr ()) = q18 → ai_Go si_t (11, false, 0, cd_257) (ai_Cl si_t si_ms e) (sp_Q (some (.inl r)) I J Rf G) 59 [some (.inr (.inr th)), some (.inl a0), some (.inl a1), z3_x59, z4_x59] [] (0, 0) I J Rf G := by
        intro z3_x59 z4_x59 hq
        have h : m_257_x18_59 = some r := hc18_59 () hq.symm
        unfold m_257_x18_59 at h
        refine go_bipush (pc' := 61) (v := (-4 : Int32)) rfl rfl rfl ?_
        cases h
        exact go_iret rfl (trivial) ⟨rfl, rfl, rfl, rfl, rfl⟩
      have lo18 : ∀ n s, lp (fun s => m_257_b18 th a0 a1 I Rf G s.1 s.2) n s = some q18 → (fun s => ai_Go si_t (11, false, 0, cd_257) (ai_Cl si_t si_ms e) (sp_Q (some (.inl r)) I J Rf G) 18 [some (.inr (.inr th)), some (.inl a0), some (.inl a1), some (.inl s.1), some (.inl s.2)] [] (0, 0) I J Rf G) s := lp_go (fun s x18 hx hk18 => by
        obtain ⟨v3_18, v4_18⟩ := s
        have h : m_257_b18 th a0 a1 I Rf G v3_18 v4_18 = some x18 := hx
        clear hx
        show ai_Go si_t (11, false, 0, cd_257) (ai_Cl si_t si_ms e) (sp_Q (some (.inl r)) I J Rf G) 18 [some (.inr (.inr th)), some (.inl a0), some (.inl a1), some (.inl v3_18), some (.inl v4_18)] [] (0, 0) I J Rf G
        unfold m_257_b18 at h
        refine go_iload (pc' := 20) rfl rfl rfl ?_
        refine go_aload_n (pc' := 21) rfl rfl rfl ?_
        refine go_iload_n (pc' := 22) rfl rfl rfl ?_
        obtain ⟨r_22, q_22, h⟩ := o_b1E h
        refine go_callV (pc' := 25) (B' := (0, 0)) (st' := [.inl r_22, .inl v4_18]) rfl rfl (Or.inl (by decide)) rfl rfl hth (md_197 (by omega) hth q_22) rfl rfl rfl ?_
        refine go_icmp_gt (pt := 59) (pc' := 28) rfl rfl rfl (fun h25 => ?_) (fun h25 => ?_)
        · replace h := o_t h25 h
          exact ex18_59  (some (.inl v3_18)) (some (.inl v4_18)) (lp_exitE h hk18)
        · replace h := o_f h25 h
          refine go_aload_n (pc' := 29) rfl rfl rfl ?_
          refine go_iload_n (pc' := 30) rfl rfl rfl ?_
          refine go_iload (pc' := 32) rfl rfl rfl ?_
          obtain ⟨r_32, q_32, h⟩ := o_b1E h
          refine go_callV (pc' := 35) (B' := (0, 0)) (st' := [.inl r_32]) rfl rfl (Or.inl (by decide)) rfl rfl hth (md_254 (by omega) hth q_32) rfl rfl rfl ?_
          refine go_if_ne (pt := 41) (pc' := 38) rfl rfl rfl (fun h35 => ?_) (fun h35 => ?_)
          · replace h := o_f h35 h
            refine go_iload_n (pc' := 42) rfl rfl rfl ?_
            refine go_iload_n (pc' := 43) rfl rfl rfl ?_
            refine go_icmp_ne (pt := 49) (pc' := 46) rfl rfl rfl (fun h43 => ?_) (fun h43 => ?_)
            · replace h := o_f h43 h
              refine go_iload_n (pc' := 50) rfl rfl rfl ?_
              refine go_iconst (pc' := 51) (v := (nI 1)) rfl rfl rfl ?_
              refine go_iadd (pc' := 52) rfl rfl ?_
              obtain ⟨x3_52, ex3_52, h⟩ := o_b1E h
              refine go_ndI ex3_52 ?_
              refine go_istore_n (pc' := 53) (lo' := [some (.inr (.inr th)), some (.inl a0), some (.inl a1), some (.inl x3_52), some (.inl v4_18)]) rfl rfl rfl ?_
              obtain ⟨x4_53, ex4_53, h⟩ := o_b1E h
              refine go_iincE (pc' := 56) rfl rfl (y := (nI 1)) rfl ex4_53 (lo' := [some (.inr (.inr th)), some (.inl a0), some (.inl a1), some (.inl x3_52), some (.inl x4_53)]) rfl rfl ?_
              refine go_goto (pc' := 18) rfl rfl ?_
              exact (lp_backE h hk18 :)
            · replace h := o_t (Decidable.of_not_not h43) h
              exact ex18_46 _ (some (.inl v3_18)) (lp_exitE h hk18)
          · replace h := o_t (Decidable.of_not_not h35) h
            refine go_goto (pc' := 53) rfl rfl ?_
            obtain ⟨x4_53, ex4_53, h⟩ := o_b1E h
            refine go_iincE (pc' := 56) rfl rfl (y := (nI 1)) rfl ex4_53 (lo' := [some (.inr (.inr th)), some (.inl a0), some (.inl a1), some (.inl v3_18), some (.inl x4_53)]) rfl rfl ?_
            refine go_goto (pc' := 18) rfl rfl ?_
            exact (lp_backE h hk18 :))
      exact lo18 _ ((nI 0), (nI 0)) hl18 
    · replace h := o_f h8 h
      refine go_iconst (pc' := 12) (v := (-1 : Int32)) rfl rfl rfl ?_
      cases h
      exact go_iret rfl (trivial) ⟨rfl, rfl, rfl, rfl, rfl⟩
def m_258_x5_70 (w3_70 : Int32) : Option (Int32) :=
  some w3_70
def m_258_j60 (v3_5 : Int32) (v4_5 : Int32) : Option ((Int32 × Int32) ⊕ Int32) :=
  o_b1 (some (v3_5 + (nI 1))) (fun x3_63 => o_b1 (some (v4_5 + (nI 1))) (fun x4_64 => some (Sum.inl (x3_63, x4_64))))
def m_258_b5 (th : Nat) (a0 : Int32) (a1 : Int32) (I : ai_I) (Rf : ai_R) (G : ai_G) (v3_5 : Int32) (v4_5 : Int32) : Option ((Int32 × Int32) ⊕ Int32) :=
  o_b1 (m_197 th a0 I Rf G) (fun r_9 => if r_9 < v4_5 then (some (Sum.inr v3_5)) else (if a1 = 0 then (o_b1 (m_252 th a0 v4_5 I Rf G) (fun r_23 => if r_23 = 0 then (o_b1 (some (v4_5 + (nI 1))) (fun x4_64 => some (Sum.inl (v3_5, x4_64)))) else (m_258_j60 v3_5 v4_5))) else (if a1 = (nI 1) then (o_b1 (m_253 th a0 v4_5 I Rf G) (fun r_41 => if r_41 = 0 then (o_b1 (some (v4_5 + (nI 1))) (fun x4_64 => some (Sum.inl (v3_5, x4_64)))) else (m_258_j60 v3_5 v4_5))) else (o_b1 (m_254 th a0 v4_5 I Rf G) (fun r_54 => if r_54 = 0 then (o_b1 (some (v4_5 + (nI 1))) (fun x4_64 => some (Sum.inl (v3_5, x4_64)))) else (m_258_j60 v3_5 v4_5))))))
/-- PricedBasesModel.setsOf(II)I -/
def m_258 (th : Nat) (a0 : Int32) (a1 : Int32) (I : ai_I) (Rf : ai_R) (G : ai_G) : Option (Int32) :=
  o_s1 (lp (fun s => m_258_b5 th a0 a1 I Rf G s.1 s.2) o_N ((nI 0), (nI 0))) (fun t => m_258_x5_70 t)
theorem md_258 {d : Nat} {I : ai_I} {J : ai_J} {Rf : ai_R} {G : ai_G} {th : Nat} {a0 : Int32} {a1 : Int32} {r : Int32} (hd : 6 ≤ d) (hth : G.1 th = 11) (h : m_258 th a0 a1 I Rf G = some r) : ai_Cl si_t si_ms d 258 [.inr (.inr th), .inl a0, .inl a1] I J Rf G (some (.inl r)) I J Rf G := by
  obtain ⟨e, rfl⟩ : ∃ e, d = e + 1 := ⟨d - 1, by omega⟩
  unfold m_258 at h
  refine sp_in (lo := [some (.inr (.inr th)), some (.inl a0), some (.inl a1), none, none]) (B := (0, 0)) rfl (Nat.le_of_ble_eq_true rfl) rfl rfl ?_
  refine go_iconst (pc' := 1) (v := (nI 0)) rfl rfl rfl ?_
  refine go_istore_n (pc' := 2) (lo' := [some (.inr (.inr th)), some (.inl a0), some (.inl a1), some (.inl (nI 0)), none]) rfl rfl rfl ?_
  refine go_iconst (pc' := 3) (v := (nI 0)) rfl rfl rfl ?_
  refine go_istore (pc' := 5) (lo' := [some (.inr (.inr th)), some (.inl a0), some (.inl a1), some (.inl (nI 0)), some (.inl (nI 0))]) rfl rfl rfl ?_
  obtain ⟨q5, hl5, hc5_70⟩ := o_s1E h
  have ex5_70 : ∀ (w3_70 : Int32) (z4_x70 : Option ai_V), w3_70 = q5 → ai_Go si_t (11, false, 0, cd_258) (ai_Cl si_t si_ms e) (sp_Q (some (.inl r)) I J Rf G) 70 [some (.inr (.inr th)), some (.inl a0), some (.inl a1), some (.inl w3_70), z4_x70] [] (0, 0) I J Rf G := by
    intro w3_70 z4_x70 hq
    have h : m_258_x5_70 w3_70 = some r := hc5_70 w3_70 hq.symm
    unfold m_258_x5_70 at h
    refine go_iload_n (pc' := 71) rfl rfl rfl ?_
    cases h
    exact go_iret rfl (trivial) ⟨rfl, rfl, rfl, rfl, rfl⟩
  have lo5 : ∀ n s, lp (fun s => m_258_b5 th a0 a1 I Rf G s.1 s.2) n s = some q5 → (fun s => ai_Go si_t (11, false, 0, cd_258) (ai_Cl si_t si_ms e) (sp_Q (some (.inl r)) I J Rf G) 5 [some (.inr (.inr th)), some (.inl a0), some (.inl a1), some (.inl s.1), some (.inl s.2)] [] (0, 0) I J Rf G) s := lp_go (fun s x5 hx hk5 => by
    obtain ⟨v3_5, v4_5⟩ := s
    have h : m_258_b5 th a0 a1 I Rf G v3_5 v4_5 = some x5 := hx
    clear hx
    show ai_Go si_t (11, false, 0, cd_258) (ai_Cl si_t si_ms e) (sp_Q (some (.inl r)) I J Rf G) 5 [some (.inr (.inr th)), some (.inl a0), some (.inl a1), some (.inl v3_5), some (.inl v4_5)] [] (0, 0) I J Rf G
    unfold m_258_b5 at h
    refine go_iload (pc' := 7) rfl rfl rfl ?_
    refine go_aload_n (pc' := 8) rfl rfl rfl ?_
    refine go_iload_n (pc' := 9) rfl rfl rfl ?_
    obtain ⟨r_9, q_9, h⟩ := o_b1E h
    refine go_callV (pc' := 12) (B' := (0, 0)) (st' := [.inl r_9, .inl v4_5]) rfl rfl (Or.inl (by decide)) rfl rfl hth (md_197 (by omega) hth q_9) rfl rfl rfl ?_
    refine go_icmp_gt (pt := 70) (pc' := 15) rfl rfl rfl (fun h12 => ?_) (fun h12 => ?_)
    · replace h := o_t h12 h
      exact ex5_70 _ (some (.inl v4_5)) (lp_exitE h hk5)
    · replace h := o_f h12 h
      refine go_iload_n (pc' := 16) rfl rfl rfl ?_
      have jn60 : m_258_j60 v3_5 v4_5 = some x5 → ai_Go si_t (11, false, 0, cd_258) (ai_Cl si_t si_ms e) (sp_Q (some (.inl r)) I J Rf G) 60 [some (.inr (.inr th)), some (.inl a0), some (.inl a1), some (.inl v3_5), some (.inl v4_5)] [] (0, 0) I J Rf G := by
        intro h
        unfold m_258_j60 at h
        refine go_iload_n (pc' := 61) rfl rfl rfl ?_
        refine go_iconst (pc' := 62) (v := (nI 1)) rfl rfl rfl ?_
        refine go_iadd (pc' := 63) rfl rfl ?_
        obtain ⟨x3_63, ex3_63, h⟩ := o_b1E h
        refine go_ndI ex3_63 ?_
        refine go_istore_n (pc' := 64) (lo' := [some (.inr (.inr th)), some (.inl a0), some (.inl a1), some (.inl x3_63), some (.inl v4_5)]) rfl rfl rfl ?_
        obtain ⟨x4_64, ex4_64, h⟩ := o_b1E h
        refine go_iincE (pc' := 67) rfl rfl (y := (nI 1)) rfl ex4_64 (lo' := [some (.inr (.inr th)), some (.inl a0), some (.inl a1), some (.inl x3_63), some (.inl x4_64)]) rfl rfl ?_
        refine go_goto (pc' := 5) rfl rfl ?_
        exact (lp_backE h hk5 :)
      refine go_if_ne (pt := 32) (pc' := 19) rfl rfl rfl (fun h16 => ?_) (fun h16 => ?_)
      · replace h := o_f h16 h
        refine go_iload_n (pc' := 33) rfl rfl rfl ?_
        refine go_iconst (pc' := 34) (v := (nI 1)) rfl rfl rfl ?_
        refine go_icmp_ne (pt := 50) (pc' := 37) rfl rfl rfl (fun h34 => ?_) (fun h34 => ?_)
        · replace h := o_f h34 h
          refine go_aload_n (pc' := 51) rfl rfl rfl ?_
          refine go_iload_n (pc' := 52) rfl rfl rfl ?_
          refine go_iload (pc' := 54) rfl rfl rfl ?_
          obtain ⟨r_54, q_54, h⟩ := o_b1E h
          refine go_callV (pc' := 57) (B' := (0, 0)) (st' := [.inl r_54]) rfl rfl (Or.inl (by decide)) rfl rfl hth (md_254 (by omega) hth q_54) rfl rfl rfl ?_
          refine go_if_eq (pt := 64) (pc' := 60) rfl rfl rfl (fun h57 => ?_) (fun h57 => ?_)
          · replace h := o_t h57 h
            obtain ⟨x4_64, ex4_64, h⟩ := o_b1E h
            refine go_iincE (pc' := 67) rfl rfl (y := (nI 1)) rfl ex4_64 (lo' := [some (.inr (.inr th)), some (.inl a0), some (.inl a1), some (.inl v3_5), some (.inl x4_64)]) rfl rfl ?_
            refine go_goto (pc' := 5) rfl rfl ?_
            exact (lp_backE h hk5 :)
          · replace h := o_f h57 h
            exact jn60  h
        · replace h := o_t (Decidable.of_not_not h34) h
          refine go_aload_n (pc' := 38) rfl rfl rfl ?_
          refine go_iload_n (pc' := 39) rfl rfl rfl ?_
          refine go_iload (pc' := 41) rfl rfl rfl ?_
          obtain ⟨r_41, q_41, h⟩ := o_b1E h
          refine go_callV (pc' := 44) (B' := (0, 0)) (st' := [.inl r_41]) rfl rfl (Or.inl (by decide)) rfl rfl hth (md_253 (by omega) hth q_41) rfl rfl rfl ?_
          refine go_if_eq (pt := 64) (pc' := 47) rfl rfl rfl (fun h44 => ?_) (fun h44 => ?_)
          · replace h := o_t h44 h
            obtain ⟨x4_64, ex4_64, h⟩ := o_b1E h
            refine go_iincE (pc' := 67) rfl rfl (y := (nI 1)) rfl ex4_64 (lo' := [some (.inr (.inr th)), some (.inl a0), some (.inl a1), some (.inl v3_5), some (.inl x4_64)]) rfl rfl ?_
            refine go_goto (pc' := 5) rfl rfl ?_
            exact (lp_backE h hk5 :)
          · replace h := o_f h44 h
            refine go_goto (pc' := 60) rfl rfl ?_
            exact jn60  h
      · replace h := o_t (Decidable.of_not_not h16) h
        refine go_aload_n (pc' := 20) rfl rfl rfl ?_
        refine go_iload_n (pc' := 21) rfl rfl rfl ?_
        refine go_iload (pc' := 23) rfl rfl rfl ?_
        obtain ⟨r_23, q_23, h⟩ := o_b1E h
        refine go_callV (pc' := 26) (B' := (0, 0)) (st' := [.inl r_23]) rfl rfl (Or.inl (by decide)) rfl rfl hth (md_252 (by omega) hth q_23) rfl rfl rfl ?_
        refine go_if_eq (pt := 64) (pc' := 29) rfl rfl rfl (fun h26 => ?_) (fun h26 => ?_)
        · replace h := o_t h26 h
          obtain ⟨x4_64, ex4_64, h⟩ := o_b1E h
          refine go_iincE (pc' := 67) rfl rfl (y := (nI 1)) rfl ex4_64 (lo' := [some (.inr (.inr th)), some (.inl a0), some (.inl a1), some (.inl v3_5), some (.inl x4_64)]) rfl rfl ?_
          refine go_goto (pc' := 5) rfl rfl ?_
          exact (lp_backE h hk5 :)
        · replace h := o_f h26 h
          refine go_goto (pc' := 60) rfl rfl ?_
          exact jn60  h)
  exact lo5 _ ((nI 0), (nI 0)) hl5 
def m_259_x5_29 (w2_29 : Int32) : Option (Int32) :=
  some w2_29
def m_259_b5 (th : Nat) (a0 : Int32) (I : ai_I) (Rf : ai_R) (G : ai_G) (v2_5 : Int32) (v3_5 : Int32) : Option ((Int32 × Int32) ⊕ Int32) :=
  if (nI 256) ≤ v3_5 then (some (Sum.inr v2_5)) else (o_b1 (m_198 th a0 v3_5 I Rf G) (fun r_16 => o_b1 (m_191 v2_5 r_16) (fun r_19 => o_b1 (some (v3_5 + (nI 1))) (fun x3_23 => some (Sum.inl (r_19, x3_23))))))
/-- PricedBasesModel.greatestValue(I)I -/
def m_259 (th : Nat) (a0 : Int32) (I : ai_I) (Rf : ai_R) (G : ai_G) : Option (Int32) :=
  o_s1 (lp (fun s => m_259_b5 th a0 I Rf G s.1 s.2) o_N ((-2147483648 : Int32), (nI 0))) (fun t => m_259_x5_29 t)
theorem md_259 {d : Nat} {I : ai_I} {J : ai_J} {Rf : ai_R} {G : ai_G} {th : Nat} {a0 : Int32} {r : Int32} (hd : 2 ≤ d) (hth : G.1 th = 11) (h : m_259 th a0 I Rf G = some r) : ai_Cl si_t si_ms d 259 [.inr (.inr th), .inl a0] I J Rf G (some (.inl r)) I J Rf G := by
  obtain ⟨e, rfl⟩ : ∃ e, d = e + 1 := ⟨d - 1, by omega⟩
  unfold m_259 at h
  refine sp_in (lo := [some (.inr (.inr th)), some (.inl a0), none, none]) (B := (0, 0)) rfl (Nat.le_of_ble_eq_true rfl) rfl rfl ?_
  refine go_ldc (pc' := 2) (v := .inl (-2147483648 : Int32)) rfl rfl rfl ?_
  refine go_istore_n (pc' := 3) (lo' := [some (.inr (.inr th)), some (.inl a0), some (.inl (-2147483648 : Int32)), none]) rfl rfl rfl ?_
  refine go_iconst (pc' := 4) (v := (nI 0)) rfl rfl rfl ?_
  refine go_istore_n (pc' := 5) (lo' := [some (.inr (.inr th)), some (.inl a0), some (.inl (-2147483648 : Int32)), some (.inl (nI 0))]) rfl rfl rfl ?_
  obtain ⟨q5, hl5, hc5_29⟩ := o_s1E h
  have ex5_29 : ∀ (w2_29 : Int32) (z3_x29 : Option ai_V), w2_29 = q5 → ai_Go si_t (11, false, 0, cd_259) (ai_Cl si_t si_ms e) (sp_Q (some (.inl r)) I J Rf G) 29 [some (.inr (.inr th)), some (.inl a0), some (.inl w2_29), z3_x29] [] (0, 0) I J Rf G := by
    intro w2_29 z3_x29 hq
    have h : m_259_x5_29 w2_29 = some r := hc5_29 w2_29 hq.symm
    unfold m_259_x5_29 at h
    refine go_iload_n (pc' := 30) rfl rfl rfl ?_
    cases h
    exact go_iret rfl (trivial) ⟨rfl, rfl, rfl, rfl, rfl⟩
  have lo5 : ∀ n s, lp (fun s => m_259_b5 th a0 I Rf G s.1 s.2) n s = some q5 → (fun s => ai_Go si_t (11, false, 0, cd_259) (ai_Cl si_t si_ms e) (sp_Q (some (.inl r)) I J Rf G) 5 [some (.inr (.inr th)), some (.inl a0), some (.inl s.1), some (.inl s.2)] [] (0, 0) I J Rf G) s := lp_go (fun s x5 hx hk5 => by
    obtain ⟨v2_5, v3_5⟩ := s
    have h : m_259_b5 th a0 I Rf G v2_5 v3_5 = some x5 := hx
    clear hx
    show ai_Go si_t (11, false, 0, cd_259) (ai_Cl si_t si_ms e) (sp_Q (some (.inl r)) I J Rf G) 5 [some (.inr (.inr th)), some (.inl a0), some (.inl v2_5), some (.inl v3_5)] [] (0, 0) I J Rf G
    unfold m_259_b5 at h
    refine go_iload_n (pc' := 6) rfl rfl rfl ?_
    refine go_sipush (pc' := 9) (v := (nI 256)) rfl rfl rfl ?_
    refine go_icmp_ge (pt := 29) (pc' := 12) rfl rfl rfl (fun h9 => ?_) (fun h9 => ?_)
    · replace h := o_t h9 h
      exact ex5_29 _ (some (.inl v3_5)) (lp_exitE h hk5)
    · replace h := o_f h9 h
      refine go_iload_n (pc' := 13) rfl rfl rfl ?_
      refine go_aload_n (pc' := 14) rfl rfl rfl ?_
      refine go_iload_n (pc' := 15) rfl rfl rfl ?_
      refine go_iload_n (pc' := 16) rfl rfl rfl ?_
      obtain ⟨r_16, q_16, h⟩ := o_b1E h
      refine go_callV (pc' := 19) (B' := (0, 0)) (st' := [.inl r_16, .inl v2_5]) rfl rfl (Or.inl (by decide)) rfl rfl hth (md_198 (by omega) hth q_16) rfl rfl rfl ?_
      obtain ⟨r_19, q_19, h⟩ := o_b1E h
      refine go_callS (pc' := 22) (B' := (0, 0)) (st' := [.inl r_19]) rfl rfl (Or.inl (by decide)) rfl rfl trivial (md_191 (by omega) q_19) rfl rfl rfl ?_
      refine go_istore_n (pc' := 23) (lo' := [some (.inr (.inr th)), some (.inl a0), some (.inl r_19), some (.inl v3_5)]) rfl rfl rfl ?_
      obtain ⟨x3_23, ex3_23, h⟩ := o_b1E h
      refine go_iincE (pc' := 26) rfl rfl (y := (nI 1)) rfl ex3_23 (lo' := [some (.inr (.inr th)), some (.inl a0), some (.inl r_19), some (.inl x3_23)]) rfl rfl ?_
      refine go_goto (pc' := 5) rfl rfl ?_
      exact (lp_backE h hk5 :))
  exact lo5 _ ((-2147483648 : Int32), (nI 0)) hl5 
def m_260_x2_19 (w3_19 : Int32) : Option (Int32) :=
  some w3_19
def m_260_b2 (th : Nat) (a0 : Int32) (a1 : Int32) (I : ai_I) (Rf : ai_R) (G : ai_G) (v3_2 : Int32) : Option (Int32 ⊕ Int32) :=
  o_b1 (m_198 th a0 v3_2 I Rf G) (fun r_5 => if r_5 = a1 then (some (Sum.inr v3_2)) else (o_b1 (some (v3_2 + (nI 1))) (fun x3_15 => some (Sum.inl x3_15))))
/-- PricedBasesModel.leastWith(II)I -/
def m_260 (th : Nat) (a0 : Int32) (a1 : Int32) (I : ai_I) (Rf : ai_R) (G : ai_G) : Option (Int32) :=
  o_s1 (lp (fun s => m_260_b2 th a0 a1 I Rf G s) o_N (nI 0)) (fun t => m_260_x2_19 t)
theorem md_260 {d : Nat} {I : ai_I} {J : ai_J} {Rf : ai_R} {G : ai_G} {th : Nat} {a0 : Int32} {a1 : Int32} {r : Int32} (hd : 2 ≤ d) (hth : G.1 th = 11) (h : m_260 th a0 a1 I Rf G = some r) : ai_Cl si_t si_ms d 260 [.inr (.inr th), .inl a0, .inl a1] I J Rf G (some (.inl r)) I J Rf G := by
  obtain ⟨e, rfl⟩ : ∃ e, d = e + 1 := ⟨d - 1, by omega⟩
  unfold m_260 at h
  refine sp_in (lo := [some (.inr (.inr th)), some (.inl a0), some (.inl a1), none]) (B := (0, 0)) rfl (Nat.le_of_ble_eq_true rfl) rfl rfl ?_
  refine go_iconst (pc' := 1) (v := (nI 0)) rfl rfl rfl ?_
  refine go_istore_n (pc' := 2) (lo' := [some (.inr (.inr th)), some (.inl a0), some (.inl a1), some (.inl (nI 0))]) rfl rfl rfl ?_
  obtain ⟨q2, hl2, hc2_19⟩ := o_s1E h
  have ex2_19 : ∀ (w3_19 : Int32), w3_19 = q2 → ai_Go si_t (11, false, 0, cd_260) (ai_Cl si_t si_ms e) (sp_Q (some (.inl r)) I J Rf G) 19 [some (.inr (.inr th)), some (.inl a0), some (.inl a1), some (.inl w3_19)] [] (0, 0) I J Rf G := by
    intro w3_19 hq
    have h : m_260_x2_19 w3_19 = some r := hc2_19 w3_19 hq.symm
    unfold m_260_x2_19 at h
    refine go_iload_n (pc' := 20) rfl rfl rfl ?_
    cases h
    exact go_iret rfl (trivial) ⟨rfl, rfl, rfl, rfl, rfl⟩
  have lo2 : ∀ n s, lp (fun s => m_260_b2 th a0 a1 I Rf G s) n s = some q2 → (fun s => ai_Go si_t (11, false, 0, cd_260) (ai_Cl si_t si_ms e) (sp_Q (some (.inl r)) I J Rf G) 2 [some (.inr (.inr th)), some (.inl a0), some (.inl a1), some (.inl s)] [] (0, 0) I J Rf G) s := lp_go (fun s x2 hx hk2 => by
    revert s; intro v3_2 hx
    have h : m_260_b2 th a0 a1 I Rf G v3_2 = some x2 := hx
    clear hx
    show ai_Go si_t (11, false, 0, cd_260) (ai_Cl si_t si_ms e) (sp_Q (some (.inl r)) I J Rf G) 2 [some (.inr (.inr th)), some (.inl a0), some (.inl a1), some (.inl v3_2)] [] (0, 0) I J Rf G
    unfold m_260_b2 at h
    refine go_aload_n (pc' := 3) rfl rfl rfl ?_
    refine go_iload_n (pc' := 4) rfl rfl rfl ?_
    refine go_iload_n (pc' := 5) rfl rfl rfl ?_
    obtain ⟨r_5, q_5, h⟩ := o_b1E h
    refine go_callV (pc' := 8) (B' := (0, 0)) (st' := [.inl r_5]) rfl rfl (Or.inl (by decide)) rfl rfl hth (md_198 (by omega) hth q_5) rfl rfl rfl ?_
    refine go_iload_n (pc' := 9) rfl rfl rfl ?_
    refine go_icmp_eq (pt := 19) (pc' := 12) rfl rfl rfl (fun h9 => ?_) (fun h9 => ?_)
    · replace h := o_t h9 h
      exact ex2_19 _  (lp_exitE h hk2)
    · replace h := o_f h9 h
      refine go_iload_n (pc' := 13) rfl rfl rfl ?_
      refine go_iconst (pc' := 14) (v := (nI 1)) rfl rfl rfl ?_
      refine go_iadd (pc' := 15) rfl rfl ?_
      obtain ⟨x3_15, ex3_15, h⟩ := o_b1E h
      refine go_ndI ex3_15 ?_
      refine go_istore_n (pc' := 16) (lo' := [some (.inr (.inr th)), some (.inl a0), some (.inl a1), some (.inl x3_15)]) rfl rfl rfl ?_
      refine go_goto (pc' := 2) rfl rfl ?_
      exact (lp_backE h hk2 :))
  exact lo2 _ (nI 0) hl2 
def m_261_x12_51 (th : Nat) (a0 : Int32) (a1 : Int32) (I : ai_I) (Rf : ai_R) (G : ai_G) (w3_51 : Int32) (w4_51 : Int32) : Option (Int32) :=
  if a1 = 0 then (o_b1 (m_197 th a0 I Rf G) (fun r_62 => some (r_62 &&& (w3_51 ^^^ (-1 : Int32))))) else (some w4_51)
def m_261_b12 (th : Nat) (a0 : Int32) (I : ai_I) (Rf : ai_R) (G : ai_G) (v3_12 : Int32) (v4_12 : Int32) (v5_12 : Int32) : Option ((Int32 × Int32 × Int32) ⊕ (Int32 × Int32)) :=
  if (nI 256) ≤ v5_12 then (some (Sum.inr (v3_12, v4_12))) else (o_b1 (m_199 th a0 v5_12 I Rf G) (fun r_24 => if r_24 = 0 then (o_b1 (some (v5_12 + (nI 1))) (fun x5_45 => some (Sum.inl (v3_12, v4_12, x5_45)))) else (o_b1 (some (v3_12 ||| v5_12)) (fun x3_37 => o_b1 (some (v4_12 &&& v5_12)) (fun x4_43 => o_b1 (some (v5_12 + (nI 1))) (fun x5_45 => some (Sum.inl (x3_37, x4_43, x5_45))))))))
/-- PricedBasesModel.inBases(IZ)I -/
def m_261 (th : Nat) (a0 : Int32) (a1 : Int32) (I : ai_I) (Rf : ai_R) (G : ai_G) : Option (Int32) :=
  o_b1 (m_197 th a0 I Rf G) (fun r_4 => o_s1 (lp (fun s => m_261_b12 th a0 I Rf G s.1 s.2.1 s.2.2) o_N ((nI 0), r_4, (nI 0))) (fun t => m_261_x12_51 th a0 a1 I Rf G t.1 t.2))
theorem md_261 {d : Nat} {I : ai_I} {J : ai_J} {Rf : ai_R} {G : ai_G} {th : Nat} {a0 : Int32} {a1 : Int32} {r : Int32} (hd : 3 ≤ d) (hth : G.1 th = 11) (h : m_261 th a0 a1 I Rf G = some r) : ai_Cl si_t si_ms d 261 [.inr (.inr th), .inl a0, .inl a1] I J Rf G (some (.inl r)) I J Rf G := by
  obtain ⟨e, rfl⟩ : ∃ e, d = e + 1 := ⟨d - 1, by omega⟩
  unfold m_261 at h
  refine sp_in (lo := [some (.inr (.inr th)), some (.inl a0), some (.inl a1), none, none, none]) (B := (0, 0)) rfl (Nat.le_of_ble_eq_true rfl) rfl rfl ?_
  refine go_iconst (pc' := 1) (v := (nI 0)) rfl rfl rfl ?_
  refine go_istore_n (pc' := 2) (lo' := [some (.inr (.inr th)), some (.inl a0), some (.inl a1), some (.inl (nI 0)), none, none]) rfl rfl rfl ?_
  refine go_aload_n (pc' := 3) rfl rfl rfl ?_
  refine go_iload_n (pc' := 4) rfl rfl rfl ?_
  obtain ⟨r_4, q_4, h⟩ := o_b1E h
  refine go_callV (pc' := 7) (B' := (0, 0)) (st' := [.inl r_4]) rfl rfl (Or.inl (by decide)) rfl rfl hth (md_197 (by omega) hth q_4) rfl rfl rfl ?_
  refine go_istore (pc' := 9) (lo' := [some (.inr (.inr th)), some (.inl a0), some (.inl a1), some (.inl (nI 0)), some (.inl r_4), none]) rfl rfl rfl ?_
  refine go_iconst (pc' := 10) (v := (nI 0)) rfl rfl rfl ?_
  refine go_istore (pc' := 12) (lo' := [some (.inr (.inr th)), some (.inl a0), some (.inl a1), some (.inl (nI 0)), some (.inl r_4), some (.inl (nI 0))]) rfl rfl rfl ?_
  obtain ⟨q12, hl12, hc12_51⟩ := o_s1E h
  have ex12_51 : ∀ (w3_51 : Int32) (w4_51 : Int32) (z5_x51 : Option ai_V), (w3_51, w4_51) = q12 → ai_Go si_t (11, false, 0, cd_261) (ai_Cl si_t si_ms e) (sp_Q (some (.inl r)) I J Rf G) 51 [some (.inr (.inr th)), some (.inl a0), some (.inl a1), some (.inl w3_51), some (.inl w4_51), z5_x51] [] (0, 0) I J Rf G := by
    intro w3_51 w4_51 z5_x51 hq
    have h : m_261_x12_51 th a0 a1 I Rf G w3_51 w4_51 = some r := hc12_51 (w3_51, w4_51) hq.symm
    unfold m_261_x12_51 at h
    refine go_iload_n (pc' := 52) rfl rfl rfl ?_
    refine go_if_eq (pt := 60) (pc' := 55) rfl rfl rfl (fun h52 => ?_) (fun h52 => ?_)
    · replace h := o_t h52 h
      refine go_aload_n (pc' := 61) rfl rfl rfl ?_
      refine go_iload_n (pc' := 62) rfl rfl rfl ?_
      obtain ⟨r_62, q_62, h⟩ := o_b1E h
      refine go_callV (pc' := 65) (B' := (0, 0)) (st' := [.inl r_62]) rfl rfl (Or.inl (by decide)) rfl rfl hth (md_197 (by omega) hth q_62) rfl rfl rfl ?_
      refine go_iload_n (pc' := 66) rfl rfl rfl ?_
      refine go_iconst (pc' := 67) (v := (-1 : Int32)) rfl rfl rfl ?_
      refine go_ixor (pc' := 68) rfl rfl ?_
      refine go_iand (pc' := 69) rfl rfl ?_
      cases h
      exact go_iret rfl (trivial) ⟨rfl, rfl, rfl, rfl, rfl⟩
    · replace h := o_f h52 h
      refine go_iload (pc' := 57) rfl rfl rfl ?_
      refine go_goto (pc' := 69) rfl rfl ?_
      cases h
      exact go_iret rfl (trivial) ⟨rfl, rfl, rfl, rfl, rfl⟩
  have lo12 : ∀ n s, lp (fun s => m_261_b12 th a0 I Rf G s.1 s.2.1 s.2.2) n s = some q12 → (fun s => ai_Go si_t (11, false, 0, cd_261) (ai_Cl si_t si_ms e) (sp_Q (some (.inl r)) I J Rf G) 12 [some (.inr (.inr th)), some (.inl a0), some (.inl a1), some (.inl s.1), some (.inl s.2.1), some (.inl s.2.2)] [] (0, 0) I J Rf G) s := lp_go (fun s x12 hx hk12 => by
    obtain ⟨v3_12, v4_12, v5_12⟩ := s
    have h : m_261_b12 th a0 I Rf G v3_12 v4_12 v5_12 = some x12 := hx
    clear hx
    show ai_Go si_t (11, false, 0, cd_261) (ai_Cl si_t si_ms e) (sp_Q (some (.inl r)) I J Rf G) 12 [some (.inr (.inr th)), some (.inl a0), some (.inl a1), some (.inl v3_12), some (.inl v4_12), some (.inl v5_12)] [] (0, 0) I J Rf G
    unfold m_261_b12 at h
    refine go_iload (pc' := 14) rfl rfl rfl ?_
    refine go_sipush (pc' := 17) (v := (nI 256)) rfl rfl rfl ?_
    refine go_icmp_ge (pt := 51) (pc' := 20) rfl rfl rfl (fun h17 => ?_) (fun h17 => ?_)
    · replace h := o_t h17 h
      exact ex12_51 _ _ (some (.inl v5_12)) (lp_exitE h hk12)
    · replace h := o_f h17 h
      refine go_aload_n (pc' := 21) rfl rfl rfl ?_
      refine go_iload_n (pc' := 22) rfl rfl rfl ?_
      refine go_iload (pc' := 24) rfl rfl rfl ?_
      obtain ⟨r_24, q_24, h⟩ := o_b1E h
      refine go_callV (pc' := 27) (B' := (0, 0)) (st' := [.inl r_24]) rfl rfl (Or.inl (by decide)) rfl rfl hth (md_199 (by omega) hth q_24) rfl rfl rfl ?_
      refine go_if_ne (pt := 33) (pc' := 30) rfl rfl rfl (fun h27 => ?_) (fun h27 => ?_)
      · replace h := o_f h27 h
        refine go_iload_n (pc' := 34) rfl rfl rfl ?_
        refine go_iload (pc' := 36) rfl rfl rfl ?_
        refine go_ior (pc' := 37) rfl rfl ?_
        obtain ⟨x3_37, ex3_37, h⟩ := o_b1E h
        refine go_ndI ex3_37 ?_
        refine go_istore_n (pc' := 38) (lo' := [some (.inr (.inr th)), some (.inl a0), some (.inl a1), some (.inl x3_37), some (.inl v4_12), some (.inl v5_12)]) rfl rfl rfl ?_
        refine go_iload (pc' := 40) rfl rfl rfl ?_
        refine go_iload (pc' := 42) rfl rfl rfl ?_
        refine go_iand (pc' := 43) rfl rfl ?_
        obtain ⟨x4_43, ex4_43, h⟩ := o_b1E h
        refine go_ndI ex4_43 ?_
        refine go_istore (pc' := 45) (lo' := [some (.inr (.inr th)), some (.inl a0), some (.inl a1), some (.inl x3_37), some (.inl x4_43), some (.inl v5_12)]) rfl rfl rfl ?_
        obtain ⟨x5_45, ex5_45, h⟩ := o_b1E h
        refine go_iincE (pc' := 48) rfl rfl (y := (nI 1)) rfl ex5_45 (lo' := [some (.inr (.inr th)), some (.inl a0), some (.inl a1), some (.inl x3_37), some (.inl x4_43), some (.inl x5_45)]) rfl rfl ?_
        refine go_goto (pc' := 12) rfl rfl ?_
        exact (lp_backE h hk12 :)
      · replace h := o_t (Decidable.of_not_not h27) h
        refine go_goto (pc' := 45) rfl rfl ?_
        obtain ⟨x5_45, ex5_45, h⟩ := o_b1E h
        refine go_iincE (pc' := 48) rfl rfl (y := (nI 1)) rfl ex5_45 (lo' := [some (.inr (.inr th)), some (.inl a0), some (.inl a1), some (.inl v3_12), some (.inl v4_12), some (.inl x5_45)]) rfl rfl ?_
        refine go_goto (pc' := 12) rfl rfl ?_
        exact (lp_backE h hk12 :))
  exact lo12 _ ((nI 0), r_4, (nI 0)) hl12 
def m_262_j35 (th : Nat) (a0 : Int32) (a1 : Int32) (I : ai_I) (Rf : ai_R) (G : ai_G) (t2_35 : Int32) : Option (Int32 × ai_I) :=
  o_b1 (m_244 th a0 t2_35 I Rf G) (fun I_35 => if a1 = (0 : Int32) then (o_b1 (m_195 th a0 I_35 Rf G) (fun r_106 => some (r_106, I_35))) else (if a1 = (1 : Int32) then (o_b1 (m_196 th a0 I_35 Rf G) (fun r_112 => some (r_112, I_35))) else (if a1 = (2 : Int32) then (o_b1 (m_204 th a0 I_35 Rf G) (fun r_118 => some (r_118, I_35))) else (if a1 = (3 : Int32) then (o_b1 (m_259 th a0 I_35 Rf G) (fun r_124 => some (r_124, I_35))) else (if a1 = (4 : Int32) then (o_b1 (m_259 th a0 I_35 Rf G) (fun r_132 => o_b1 (m_260 th a0 r_132 I_35 Rf G) (fun r_135 => some (r_135, I_35)))) else (if a1 = (5 : Int32) then (o_b1 (m_261 th a0 (nI 0) I_35 Rf G) (fun r_142 => some (r_142, I_35))) else (if a1 = (6 : Int32) then (o_b1 (m_261 th a0 (nI 1) I_35 Rf G) (fun r_149 => some (r_149, I_35))) else (if a1 = (7 : Int32) then (o_b1 (m_247 th I_35 Rf G) (fun r_154 => if r_154 = 0 then (some ((nI 0), I_35)) else (some ((nI 1), I_35)))) else (if a1 = (8 : Int32) then (o_b1 (m_247 th I_35 Rf G) (fun r_154 => if r_154 = 0 then (some ((nI 0), I_35)) else (some ((nI 1), I_35)))) else (if a1 = (12 : Int32) then (o_b1 (m_246 th (-1 : Int32) I_35 Rf G) (fun r_168 => some (r_168, I_35))) else (o_b1 (m_258 th a0 (a1 - (nI 9)) I_35 Rf G) (fun r_178 => some (r_178, I_35)))))))))))))
/-- PricedBasesModel.shelf(II)I -/
def m_262 (th : Nat) (a0 : Int32) (a1 : Int32) (I : ai_I) (Rf : ai_R) (G : ai_G) : Option (Int32 × ai_I) :=
  o_b1 (m_200 a0) (fun r_1 => if r_1 = 0 then (some ((-2147483648 : Int32), I)) else (o_b1 (m_189 a1.toInt64 (0 : Int64) (12 : Int64)) (fun r_13 => if r_13 = 0 then (some ((-2147483648 : Int32), I)) else (if a1 = (nI 8) then (m_262_j35 th a0 a1 I Rf G (nI 1)) else (m_262_j35 th a0 a1 I Rf G (nI 0))))))
theorem md_262 {d : Nat} {I : ai_I} {J : ai_J} {Rf : ai_R} {G : ai_G} {th : Nat} {a0 : Int32} {a1 : Int32} {r : Int32} {I1 : ai_I} (hd : 7 ≤ d) (hth : G.1 th = 11) (h : m_262 th a0 a1 I Rf G = some (r, I1)) : ai_Cl si_t si_ms d 262 [.inr (.inr th), .inl a0, .inl a1] I J Rf G (some (.inl r)) I1 J Rf G := by
  obtain ⟨e, rfl⟩ : ∃ e, d = e + 1 := ⟨d - 1, by omega⟩
  unfold m_262 at h
  refine sp_in (lo := [some (.inr (.inr th)), some (.inl a0), some (.inl a1)]) (B := (0, 0)) rfl (Nat.le_of_ble_eq_true rfl) rfl rfl ?_
  refine go_iload_n (pc' := 1) rfl rfl rfl ?_
  obtain ⟨r_1, q_1, h⟩ := o_b1E h
  refine go_callS (pc' := 4) (B' := (0, 0)) (st' := [.inl r_1]) rfl rfl (Or.inl (by decide)) rfl rfl trivial (md_200 (by omega) q_1) rfl rfl rfl ?_
  refine go_if_eq (pt := 19) (pc' := 7) rfl rfl rfl (fun h4 => ?_) (fun h4 => ?_)
  · replace h := o_t h4 h
    refine go_ldc (pc' := 21) (v := .inl (-2147483648 : Int32)) rfl rfl rfl ?_
    cases h
    exact go_iret rfl (trivial) ⟨rfl, rfl, rfl, rfl, rfl⟩
  · replace h := o_f h4 h
    refine go_iload_n (pc' := 8) rfl rfl rfl ?_
    refine go_i2l (pc' := 9) rfl rfl ?_
    refine go_lconst (pc' := 10) (v := (0 : Int64)) rfl rfl rfl ?_
    refine go_ldc2_w (pc' := 13) (v := .inr (.inl (12 : Int64))) rfl rfl rfl ?_
    obtain ⟨r_13, q_13, h⟩ := o_b1E h
    refine go_callS (pc' := 16) (B' := (0, 0)) (st' := [.inl r_13]) rfl rfl (Or.inl (by decide)) rfl rfl trivial (md_189 (by omega) q_13) rfl rfl rfl ?_
    refine go_if_ne (pt := 22) (pc' := 19) rfl rfl rfl (fun h16 => ?_) (fun h16 => ?_)
    · replace h := o_f h16 h
      refine go_aload_n (pc' := 23) rfl rfl rfl ?_
      refine go_iload_n (pc' := 24) rfl rfl rfl ?_
      refine go_iload_n (pc' := 25) rfl rfl rfl ?_
      refine go_bipush (pc' := 27) (v := (nI 8)) rfl rfl rfl ?_
      have jn35 : ∀ (t2_35 : Int32), m_262_j35 th a0 a1 I Rf G t2_35 = some (r, I1) → ai_Go si_t (11, false, 0, cd_262) (ai_Cl si_t si_ms e) (sp_Q (some (.inl r)) I1 J Rf G) 35 [some (.inr (.inr th)), some (.inl a0), some (.inl a1)] [.inl t2_35, .inl a0, .inr (.inr th)] (0, 0) I J Rf G := by
        intro t2_35 h
        unfold m_262_j35 at h
        obtain ⟨I_35, q_35, h⟩ := o_b1E h
        refine go_callV (pc' := 38) (B' := (0, 0)) (st' := []) rfl rfl (Or.inl (by decide)) rfl rfl hth (md_244 (by omega) hth q_35) rfl rfl rfl ?_
        refine go_iload_n (pc' := 39) rfl rfl rfl ?_
        by_cases c39_0 : a1 = (0 : Int32)
        · replace h := o_t c39_0 h
          refine go_swIn (pc' := 104) 0 rfl rfl (by rw [c39_0]; decide) (by rw [c39_0]; decide) rfl ?_
          refine go_aload_n (pc' := 105) rfl rfl rfl ?_
          refine go_iload_n (pc' := 106) rfl rfl rfl ?_
          obtain ⟨r_106, q_106, h⟩ := o_b1E h
          refine go_callV (pc' := 109) (B' := (0, 0)) (st' := [.inl r_106]) rfl rfl (Or.inl (by decide)) rfl rfl hth (md_195 (by omega) hth q_106) rfl rfl rfl ?_
          cases h
          exact go_iret rfl (trivial) ⟨rfl, rfl, rfl, rfl, rfl⟩
        replace h := o_f c39_0 h
        by_cases c39_1 : a1 = (1 : Int32)
        · replace h := o_t c39_1 h
          refine go_swIn (pc' := 110) 1 rfl rfl (by rw [c39_1]; decide) (by rw [c39_1]; decide) rfl ?_
          refine go_aload_n (pc' := 111) rfl rfl rfl ?_
          refine go_iload_n (pc' := 112) rfl rfl rfl ?_
          obtain ⟨r_112, q_112, h⟩ := o_b1E h
          refine go_callV (pc' := 115) (B' := (0, 0)) (st' := [.inl r_112]) rfl rfl (Or.inl (by decide)) rfl rfl hth (md_196 (by omega) hth q_112) rfl rfl rfl ?_
          cases h
          exact go_iret rfl (trivial) ⟨rfl, rfl, rfl, rfl, rfl⟩
        replace h := o_f c39_1 h
        by_cases c39_2 : a1 = (2 : Int32)
        · replace h := o_t c39_2 h
          refine go_swIn (pc' := 116) 2 rfl rfl (by rw [c39_2]; decide) (by rw [c39_2]; decide) rfl ?_
          refine go_aload_n (pc' := 117) rfl rfl rfl ?_
          refine go_iload_n (pc' := 118) rfl rfl rfl ?_
          obtain ⟨r_118, q_118, h⟩ := o_b1E h
          refine go_callV (pc' := 121) (B' := (0, 0)) (st' := [.inl r_118]) rfl rfl (Or.inl (by decide)) rfl rfl hth (md_204 (by omega) hth q_118) rfl rfl rfl ?_
          cases h
          exact go_iret rfl (trivial) ⟨rfl, rfl, rfl, rfl, rfl⟩
        replace h := o_f c39_2 h
        by_cases c39_3 : a1 = (3 : Int32)
        · replace h := o_t c39_3 h
          refine go_swIn (pc' := 122) 3 rfl rfl (by rw [c39_3]; decide) (by rw [c39_3]; decide) rfl ?_
          refine go_aload_n (pc' := 123) rfl rfl rfl ?_
          refine go_iload_n (pc' := 124) rfl rfl rfl ?_
          obtain ⟨r_124, q_124, h⟩ := o_b1E h
          refine go_callV (pc' := 127) (B' := (0, 0)) (st' := [.inl r_124]) rfl rfl (Or.inl (by decide)) rfl rfl hth (md_259 (by omega) hth q_124) rfl rfl rfl ?_
          cases h
          exact go_iret rfl (trivial) ⟨rfl, rfl, rfl, rfl, rfl⟩
        replace h := o_f c39_3 h
        by_cases c39_4 : a1 = (4 : Int32)
        · replace h := o_t c39_4 h
          refine go_swIn (pc' := 128) 4 rfl rfl (by rw [c39_4]; decide) (by rw [c39_4]; decide) rfl ?_
          refine go_aload_n (pc' := 129) rfl rfl rfl ?_
          refine go_iload_n (pc' := 130) rfl rfl rfl ?_
          refine go_aload_n (pc' := 131) rfl rfl rfl ?_
          refine go_iload_n (pc' := 132) rfl rfl rfl ?_
          obtain ⟨r_132, q_132, h⟩ := o_b1E h
          refine go_callV (pc' := 135) (B' := (0, 0)) (st' := [.inl r_132, .inl a0, .inr (.inr th)]) rfl rfl (Or.inl (by decide)) rfl rfl hth (md_259 (by omega) hth q_132) rfl rfl rfl ?_
          obtain ⟨r_135, q_135, h⟩ := o_b1E h
          refine go_callV (pc' := 138) (B' := (0, 0)) (st' := [.inl r_135]) rfl rfl (Or.inl (by decide)) rfl rfl hth (md_260 (by omega) hth q_135) rfl rfl rfl ?_
          cases h
          exact go_iret rfl (trivial) ⟨rfl, rfl, rfl, rfl, rfl⟩
        replace h := o_f c39_4 h
        by_cases c39_5 : a1 = (5 : Int32)
        · replace h := o_t c39_5 h
          refine go_swIn (pc' := 139) 5 rfl rfl (by rw [c39_5]; decide) (by rw [c39_5]; decide) rfl ?_
          refine go_aload_n (pc' := 140) rfl rfl rfl ?_
          refine go_iload_n (pc' := 141) rfl rfl rfl ?_
          refine go_iconst (pc' := 142) (v := (nI 0)) rfl rfl rfl ?_
          obtain ⟨r_142, q_142, h⟩ := o_b1E h
          refine go_callV (pc' := 145) (B' := (0, 0)) (st' := [.inl r_142]) rfl rfl (Or.inl (by decide)) rfl rfl hth (md_261 (by omega) hth q_142) rfl rfl rfl ?_
          cases h
          exact go_iret rfl (trivial) ⟨rfl, rfl, rfl, rfl, rfl⟩
        replace h := o_f c39_5 h
        by_cases c39_6 : a1 = (6 : Int32)
        · replace h := o_t c39_6 h
          refine go_swIn (pc' := 146) 6 rfl rfl (by rw [c39_6]; decide) (by rw [c39_6]; decide) rfl ?_
          refine go_aload_n (pc' := 147) rfl rfl rfl ?_
          refine go_iload_n (pc' := 148) rfl rfl rfl ?_
          refine go_iconst (pc' := 149) (v := (nI 1)) rfl rfl rfl ?_
          obtain ⟨r_149, q_149, h⟩ := o_b1E h
          refine go_callV (pc' := 152) (B' := (0, 0)) (st' := [.inl r_149]) rfl rfl (Or.inl (by decide)) rfl rfl hth (md_261 (by omega) hth q_149) rfl rfl rfl ?_
          cases h
          exact go_iret rfl (trivial) ⟨rfl, rfl, rfl, rfl, rfl⟩
        replace h := o_f c39_6 h
        by_cases c39_7 : a1 = (7 : Int32)
        · replace h := o_t c39_7 h
          refine go_swIn (pc' := 153) 7 rfl rfl (by rw [c39_7]; decide) (by rw [c39_7]; decide) rfl ?_
          refine go_aload_n (pc' := 154) rfl rfl rfl ?_
          obtain ⟨r_154, q_154, h⟩ := o_b1E h
          refine go_callV (pc' := 157) (B' := (0, 0)) (st' := [.inl r_154]) rfl rfl (Or.inl (by decide)) rfl rfl hth (md_247 (by omega) hth q_154) rfl rfl rfl ?_
          refine go_if_eq (pt := 164) (pc' := 160) rfl rfl rfl (fun h157 => ?_) (fun h157 => ?_)
          · replace h := o_t h157 h
            refine go_iconst (pc' := 165) (v := (nI 0)) rfl rfl rfl ?_
            cases h
            exact go_iret rfl (trivial) ⟨rfl, rfl, rfl, rfl, rfl⟩
          · replace h := o_f h157 h
            refine go_iconst (pc' := 161) (v := (nI 1)) rfl rfl rfl ?_
            refine go_goto (pc' := 165) rfl rfl ?_
            cases h
            exact go_iret rfl (trivial) ⟨rfl, rfl, rfl, rfl, rfl⟩
        replace h := o_f c39_7 h
        by_cases c39_8 : a1 = (8 : Int32)
        · replace h := o_t c39_8 h
          refine go_swIn (pc' := 153) 8 rfl rfl (by rw [c39_8]; decide) (by rw [c39_8]; decide) rfl ?_
          refine go_aload_n (pc' := 154) rfl rfl rfl ?_
          obtain ⟨r_154, q_154, h⟩ := o_b1E h
          refine go_callV (pc' := 157) (B' := (0, 0)) (st' := [.inl r_154]) rfl rfl (Or.inl (by decide)) rfl rfl hth (md_247 (by omega) hth q_154) rfl rfl rfl ?_
          refine go_if_eq (pt := 164) (pc' := 160) rfl rfl rfl (fun h157 => ?_) (fun h157 => ?_)
          · replace h := o_t h157 h
            refine go_iconst (pc' := 165) (v := (nI 0)) rfl rfl rfl ?_
            cases h
            exact go_iret rfl (trivial) ⟨rfl, rfl, rfl, rfl, rfl⟩
          · replace h := o_f h157 h
            refine go_iconst (pc' := 161) (v := (nI 1)) rfl rfl rfl ?_
            refine go_goto (pc' := 165) rfl rfl ?_
            cases h
            exact go_iret rfl (trivial) ⟨rfl, rfl, rfl, rfl, rfl⟩
        replace h := o_f c39_8 h
        by_cases c39_12 : a1 = (12 : Int32)
        · replace h := o_t c39_12 h
          refine go_swIn (pc' := 166) 12 rfl rfl (by rw [c39_12]; decide) (by rw [c39_12]; decide) rfl ?_
          refine go_aload_n (pc' := 167) rfl rfl rfl ?_
          refine go_iconst (pc' := 168) (v := (-1 : Int32)) rfl rfl rfl ?_
          obtain ⟨r_168, q_168, h⟩ := o_b1E h
          refine go_callV (pc' := 171) (B' := (0, 0)) (st' := [.inl r_168]) rfl rfl (Or.inl (by decide)) rfl rfl hth (md_246 (by omega) hth q_168) rfl rfl rfl ?_
          cases h
          exact go_iret rfl (trivial) ⟨rfl, rfl, rfl, rfl, rfl⟩
        replace h := o_f c39_12 h
        by_cases c39_9 : a1 = (9 : Int32)
        · refine go_swIn (pc' := 172) 9 rfl rfl (by rw [c39_9]; decide) (by rw [c39_9]; decide) rfl ?_
          refine go_aload_n (pc' := 173) rfl rfl rfl ?_
          refine go_iload_n (pc' := 174) rfl rfl rfl ?_
          refine go_iload_n (pc' := 175) rfl rfl rfl ?_
          refine go_bipush (pc' := 177) (v := (nI 9)) rfl rfl rfl ?_
          refine go_isub (pc' := 178) rfl rfl ?_
          obtain ⟨r_178, q_178, h⟩ := o_b1E h
          refine go_callV (pc' := 181) (B' := (0, 0)) (st' := [.inl r_178]) rfl rfl (Or.inl (by decide)) rfl rfl hth (md_258 (by omega) hth q_178) rfl rfl rfl ?_
          cases h
          exact go_iret rfl (trivial) ⟨rfl, rfl, rfl, rfl, rfl⟩
        by_cases c39_10 : a1 = (10 : Int32)
        · refine go_swIn (pc' := 172) 10 rfl rfl (by rw [c39_10]; decide) (by rw [c39_10]; decide) rfl ?_
          refine go_aload_n (pc' := 173) rfl rfl rfl ?_
          refine go_iload_n (pc' := 174) rfl rfl rfl ?_
          refine go_iload_n (pc' := 175) rfl rfl rfl ?_
          refine go_bipush (pc' := 177) (v := (nI 9)) rfl rfl rfl ?_
          refine go_isub (pc' := 178) rfl rfl ?_
          obtain ⟨r_178, q_178, h⟩ := o_b1E h
          refine go_callV (pc' := 181) (B' := (0, 0)) (st' := [.inl r_178]) rfl rfl (Or.inl (by decide)) rfl rfl hth (md_258 (by omega) hth q_178) rfl rfl rfl ?_
          cases h
          exact go_iret rfl (trivial) ⟨rfl, rfl, rfl, rfl, rfl⟩
        by_cases c39_11 : a1 = (11 : Int32)
        · refine go_swIn (pc' := 172) 11 rfl rfl (by rw [c39_11]; decide) (by rw [c39_11]; decide) rfl ?_
          refine go_aload_n (pc' := 173) rfl rfl rfl ?_
          refine go_iload_n (pc' := 174) rfl rfl rfl ?_
          refine go_iload_n (pc' := 175) rfl rfl rfl ?_
          refine go_bipush (pc' := 177) (v := (nI 9)) rfl rfl rfl ?_
          refine go_isub (pc' := 178) rfl rfl ?_
          obtain ⟨r_178, q_178, h⟩ := o_b1E h
          refine go_callV (pc' := 181) (B' := (0, 0)) (st' := [.inl r_178]) rfl rfl (Or.inl (by decide)) rfl rfl hth (md_258 (by omega) hth q_178) rfl rfl rfl ?_
          cases h
          exact go_iret rfl (trivial) ⟨rfl, rfl, rfl, rfl, rfl⟩
        refine go_swOut (pc' := 172) rfl (by
            rw [← Int32.toInt_inj] at c39_0
            rw [← Int32.toInt_inj] at c39_1
            rw [← Int32.toInt_inj] at c39_2
            rw [← Int32.toInt_inj] at c39_3
            rw [← Int32.toInt_inj] at c39_4
            rw [← Int32.toInt_inj] at c39_5
            rw [← Int32.toInt_inj] at c39_6
            rw [← Int32.toInt_inj] at c39_7
            rw [← Int32.toInt_inj] at c39_8
            rw [← Int32.toInt_inj] at c39_12
            rw [← Int32.toInt_inj] at c39_9
            rw [← Int32.toInt_inj] at c39_10
            rw [← Int32.toInt_inj] at c39_11
            have c39_0 : ¬ a1.toInt = 0 := c39_0
            have c39_1 : ¬ a1.toInt = 1 := c39_1
            have c39_2 : ¬ a1.toInt = 2 := c39_2
            have c39_3 : ¬ a1.toInt = 3 := c39_3
            have c39_4 : ¬ a1.toInt = 4 := c39_4
            have c39_5 : ¬ a1.toInt = 5 := c39_5
            have c39_6 : ¬ a1.toInt = 6 := c39_6
            have c39_7 : ¬ a1.toInt = 7 := c39_7
            have c39_8 : ¬ a1.toInt = 8 := c39_8
            have c39_12 : ¬ a1.toInt = 12 := c39_12
            have c39_9 : ¬ a1.toInt = 9 := c39_9
            have c39_10 : ¬ a1.toInt = 10 := c39_10
            have c39_11 : ¬ a1.toInt = 11 := c39_11
            show a1.toInt < 0 ∨ 0 + ((13 : Nat) : Int) ≤ a1.toInt
            omega) rfl ?_
        refine go_aload_n (pc' := 173) rfl rfl rfl ?_
        refine go_iload_n (pc' := 174) rfl rfl rfl ?_
        refine go_iload_n (pc' := 175) rfl rfl rfl ?_
        refine go_bipush (pc' := 177) (v := (nI 9)) rfl rfl rfl ?_
        refine go_isub (pc' := 178) rfl rfl ?_
        obtain ⟨r_178, q_178, h⟩ := o_b1E h
        refine go_callV (pc' := 181) (B' := (0, 0)) (st' := [.inl r_178]) rfl rfl (Or.inl (by decide)) rfl rfl hth (md_258 (by omega) hth q_178) rfl rfl rfl ?_
        cases h
        exact go_iret rfl (trivial) ⟨rfl, rfl, rfl, rfl, rfl⟩
      refine go_icmp_ne (pt := 34) (pc' := 30) rfl rfl rfl (fun h27 => ?_) (fun h27 => ?_)
      · replace h := o_f h27 h
        refine go_iconst (pc' := 35) (v := (nI 0)) rfl rfl rfl ?_
        exact jn35 (nI 0) h
      · replace h := o_t (Decidable.of_not_not h27) h
        refine go_iconst (pc' := 31) (v := (nI 1)) rfl rfl rfl ?_
        refine go_goto (pc' := 35) rfl rfl ?_
        exact jn35 (nI 1) h
    · replace h := o_t (Decidable.of_not_not h16) h
      refine go_ldc (pc' := 21) (v := .inl (-2147483648 : Int32)) rfl rfl rfl ?_
      cases h
      exact go_iret rfl (trivial) ⟨rfl, rfl, rfl, rfl, rfl⟩
/-- PricedBasesModel.value(II)I -/
def m_263 (th : Nat) (a0 : Int32) (a1 : Int32) (I : ai_I) (Rf : ai_R) (G : ai_G) : Option (Int32) :=
  o_b1 (m_200 a0) (fun r_1 => if r_1 = 0 then (some (-2147483648 : Int32)) else (o_b1 (m_199 th a0 a1 I Rf G) (fun r_10 => if r_10 = 0 then (some (-2147483648 : Int32)) else (o_b1 (m_198 th a0 a1 I Rf G) (fun r_19 => some r_19)))))
theorem md_263 {d : Nat} {I : ai_I} {J : ai_J} {Rf : ai_R} {G : ai_G} {th : Nat} {a0 : Int32} {a1 : Int32} {r : Int32} (hd : 3 ≤ d) (hth : G.1 th = 11) (h : m_263 th a0 a1 I Rf G = some r) : ai_Cl si_t si_ms d 263 [.inr (.inr th), .inl a0, .inl a1] I J Rf G (some (.inl r)) I J Rf G := by
  obtain ⟨e, rfl⟩ : ∃ e, d = e + 1 := ⟨d - 1, by omega⟩
  unfold m_263 at h
  refine sp_in (lo := [some (.inr (.inr th)), some (.inl a0), some (.inl a1)]) (B := (0, 0)) rfl (Nat.le_of_ble_eq_true rfl) rfl rfl ?_
  refine go_iload_n (pc' := 1) rfl rfl rfl ?_
  obtain ⟨r_1, q_1, h⟩ := o_b1E h
  refine go_callS (pc' := 4) (B' := (0, 0)) (st' := [.inl r_1]) rfl rfl (Or.inl (by decide)) rfl rfl trivial (md_200 (by omega) q_1) rfl rfl rfl ?_
  refine go_if_eq (pt := 25) (pc' := 7) rfl rfl rfl (fun h4 => ?_) (fun h4 => ?_)
  · replace h := o_t h4 h
    refine go_ldc (pc' := 27) (v := .inl (-2147483648 : Int32)) rfl rfl rfl ?_
    cases h
    exact go_iret rfl (trivial) ⟨rfl, rfl, rfl, rfl, rfl⟩
  · replace h := o_f h4 h
    refine go_aload_n (pc' := 8) rfl rfl rfl ?_
    refine go_iload_n (pc' := 9) rfl rfl rfl ?_
    refine go_iload_n (pc' := 10) rfl rfl rfl ?_
    obtain ⟨r_10, q_10, h⟩ := o_b1E h
    refine go_callV (pc' := 13) (B' := (0, 0)) (st' := [.inl r_10]) rfl rfl (Or.inl (by decide)) rfl rfl hth (md_199 (by omega) hth q_10) rfl rfl rfl ?_
    refine go_if_eq (pt := 25) (pc' := 16) rfl rfl rfl (fun h13 => ?_) (fun h13 => ?_)
    · replace h := o_t h13 h
      refine go_ldc (pc' := 27) (v := .inl (-2147483648 : Int32)) rfl rfl rfl ?_
      cases h
      exact go_iret rfl (trivial) ⟨rfl, rfl, rfl, rfl, rfl⟩
    · replace h := o_f h13 h
      refine go_aload_n (pc' := 17) rfl rfl rfl ?_
      refine go_iload_n (pc' := 18) rfl rfl rfl ?_
      refine go_iload_n (pc' := 19) rfl rfl rfl ?_
      obtain ⟨r_19, q_19, h⟩ := o_b1E h
      refine go_callV (pc' := 22) (B' := (0, 0)) (st' := [.inl r_19]) rfl rfl (Or.inl (by decide)) rfl rfl hth (md_198 (by omega) hth q_19) rfl rfl rfl ?_
      refine go_goto (pc' := 27) rfl rfl ?_
      cases h
      exact go_iret rfl (trivial) ⟨rfl, rfl, rfl, rfl, rfl⟩
def m_264_x18_44 (w4_44 : Int32) : Option (Int32) :=
  some w4_44
def m_264_x18_57 : Option (Int32) :=
  some (-4 : Int32)
def m_264_b18 (th : Nat) (a0 : Int32) (a1 : Int32) (I : ai_I) (Rf : ai_R) (G : ai_G) (v3_18 : Int32) (v4_18 : Int32) : Option ((Int32 × Int32) ⊕ (Int32 ⊕ Unit)) :=
  if (nI 256) ≤ v4_18 then (some (Sum.inr (Sum.inr ()))) else (o_b1 (m_199 th a0 v4_18 I Rf G) (fun r_30 => if r_30 = 0 then (o_b1 (some (v4_18 + (nI 1))) (fun x4_51 => some (Sum.inl (v3_18, x4_51)))) else (if v3_18 = a1 then (some (Sum.inr (Sum.inl v4_18))) else (o_b1 (some (v3_18 + (nI 1))) (fun x3_50 => o_b1 (some (v4_18 + (nI 1))) (fun x4_51 => some (Sum.inl (x3_50, x4_51))))))))
/-- PricedBasesModel.base(II)I -/
def m_264 (th : Nat) (a0 : Int32) (a1 : Int32) (I : ai_I) (Rf : ai_R) (G : ai_G) : Option (Int32) :=
  o_b1 (m_200 a0) (fun r_1 => if r_1 = 0 then (some (-1 : Int32)) else (if 0 ≤ a1 then (o_s2 (lp (fun s => m_264_b18 th a0 a1 I Rf G s.1 s.2) o_N ((nI 0), (nI 0))) (fun t => m_264_x18_44 t) (fun t => m_264_x18_57)) else (some (-1 : Int32))))
theorem md_264 {d : Nat} {I : ai_I} {J : ai_J} {Rf : ai_R} {G : ai_G} {th : Nat} {a0 : Int32} {a1 : Int32} {r : Int32} (hd : 3 ≤ d) (hth : G.1 th = 11) (h : m_264 th a0 a1 I Rf G = some r) : ai_Cl si_t si_ms d 264 [.inr (.inr th), .inl a0, .inl a1] I J Rf G (some (.inl r)) I J Rf G := by
  obtain ⟨e, rfl⟩ : ∃ e, d = e + 1 := ⟨d - 1, by omega⟩
  unfold m_264 at h
  refine sp_in (lo := [some (.inr (.inr th)), some (.inl a0), some (.inl a1), none, none]) (B := (0, 0)) rfl (Nat.le_of_ble_eq_true rfl) rfl rfl ?_
  refine go_iload_n (pc' := 1) rfl rfl rfl ?_
  obtain ⟨r_1, q_1, h⟩ := o_b1E h
  refine go_callS (pc' := 4) (B' := (0, 0)) (st' := [.inl r_1]) rfl rfl (Or.inl (by decide)) rfl rfl trivial (md_200 (by omega) q_1) rfl rfl rfl ?_
  refine go_if_eq (pt := 11) (pc' := 7) rfl rfl rfl (fun h4 => ?_) (fun h4 => ?_)
  · replace h := o_t h4 h
    refine go_iconst (pc' := 12) (v := (-1 : Int32)) rfl rfl rfl ?_
    cases h
    exact go_iret rfl (trivial) ⟨rfl, rfl, rfl, rfl, rfl⟩
  · replace h := o_f h4 h
    refine go_iload_n (pc' := 8) rfl rfl rfl ?_
    refine go_if_ge (pt := 13) (pc' := 11) rfl rfl rfl (fun h8 => ?_) (fun h8 => ?_)
    · replace h := o_t h8 h
      refine go_iconst (pc' := 14) (v := (nI 0)) rfl rfl rfl ?_
      refine go_istore_n (pc' := 15) (lo' := [some (.inr (.inr th)), some (.inl a0), some (.inl a1), some (.inl (nI 0)), none]) rfl rfl rfl ?_
      refine go_iconst (pc' := 16) (v := (nI 0)) rfl rfl rfl ?_
      refine go_istore (pc' := 18) (lo' := [some (.inr (.inr th)), some (.inl a0), some (.inl a1), some (.inl (nI 0)), some (.inl (nI 0))]) rfl rfl rfl ?_
      obtain ⟨q18, hl18, hc18_44, hc18_57⟩ := o_s2E h
      have ex18_44 : ∀ (w4_44 : Int32) (z3_x44 : Option ai_V), (Sum.inl w4_44) = q18 → ai_Go si_t (11, false, 0, cd_264) (ai_Cl si_t si_ms e) (sp_Q (some (.inl r)) I J Rf G) 44 [some (.inr (.inr th)), some (.inl a0), some (.inl a1), z3_x44, some (.inl w4_44)] [] (0, 0) I J Rf G := by
        intro w4_44 z3_x44 hq
        have h : m_264_x18_44 w4_44 = some r := hc18_44 w4_44 hq.symm
        unfold m_264_x18_44 at h
        refine go_iload (pc' := 46) rfl rfl rfl ?_
        cases h
        exact go_iret rfl (trivial) ⟨rfl, rfl, rfl, rfl, rfl⟩
      have ex18_57 : ∀ (z3_x57 : Option ai_V) (z4_x57 : Option ai_V), (Sum.inr ()) = q18 → ai_Go si_t (11, false, 0, cd_264) (ai_Cl si_t si_ms e) (sp_Q (some (.inl r)) I J Rf G) 57 [some (.inr (.inr th)), some (.inl a0), some (.inl a1), z3_x57, z4_x57] [] (0, 0) I J Rf G := by
        intro z3_x57 z4_x57 hq
        have h : m_264_x18_57 = some r := hc18_57 () hq.symm
        unfold m_264_x18_57 at h
        refine go_bipush (pc' := 59) (v := (-4 : Int32)) rfl rfl rfl ?_
        cases h
        exact go_iret rfl (trivial) ⟨rfl, rfl, rfl, rfl, rfl⟩
      have lo18 : ∀ n s, lp (fun s => m_264_b18 th a0 a1 I Rf G s.1 s.2) n s = some q18 → (fun s => ai_Go si_t (11, false, 0, cd_264) (ai_Cl si_t si_ms e) (sp_Q (some (.inl r)) I J Rf G) 18 [some (.inr (.inr th)), some (.inl a0), some (.inl a1), some (.inl s.1), some (.inl s.2)] [] (0, 0) I J Rf G) s := lp_go (fun s x18 hx hk18 => by
        obtain ⟨v3_18, v4_18⟩ := s
        have h : m_264_b18 th a0 a1 I Rf G v3_18 v4_18 = some x18 := hx
        clear hx
        show ai_Go si_t (11, false, 0, cd_264) (ai_Cl si_t si_ms e) (sp_Q (some (.inl r)) I J Rf G) 18 [some (.inr (.inr th)), some (.inl a0), some (.inl a1), some (.inl v3_18), some (.inl v4_18)] [] (0, 0) I J Rf G
        unfold m_264_b18 at h
        refine go_iload (pc' := 20) rfl rfl rfl ?_
        refine go_sipush (pc' := 23) (v := (nI 256)) rfl rfl rfl ?_
        refine go_icmp_ge (pt := 57) (pc' := 26) rfl rfl rfl (fun h23 => ?_) (fun h23 => ?_)
        · replace h := o_t h23 h
          exact ex18_57  (some (.inl v3_18)) (some (.inl v4_18)) (lp_exitE h hk18)
        · replace h := o_f h23 h
          refine go_aload_n (pc' := 27) rfl rfl rfl ?_
          refine go_iload_n (pc' := 28) rfl rfl rfl ?_
          refine go_iload (pc' := 30) rfl rfl rfl ?_
          obtain ⟨r_30, q_30, h⟩ := o_b1E h
          refine go_callV (pc' := 33) (B' := (0, 0)) (st' := [.inl r_30]) rfl rfl (Or.inl (by decide)) rfl rfl hth (md_199 (by omega) hth q_30) rfl rfl rfl ?_
          refine go_if_ne (pt := 39) (pc' := 36) rfl rfl rfl (fun h33 => ?_) (fun h33 => ?_)
          · replace h := o_f h33 h
            refine go_iload_n (pc' := 40) rfl rfl rfl ?_
            refine go_iload_n (pc' := 41) rfl rfl rfl ?_
            refine go_icmp_ne (pt := 47) (pc' := 44) rfl rfl rfl (fun h41 => ?_) (fun h41 => ?_)
            · replace h := o_f h41 h
              refine go_iload_n (pc' := 48) rfl rfl rfl ?_
              refine go_iconst (pc' := 49) (v := (nI 1)) rfl rfl rfl ?_
              refine go_iadd (pc' := 50) rfl rfl ?_
              obtain ⟨x3_50, ex3_50, h⟩ := o_b1E h
              refine go_ndI ex3_50 ?_
              refine go_istore_n (pc' := 51) (lo' := [some (.inr (.inr th)), some (.inl a0), some (.inl a1), some (.inl x3_50), some (.inl v4_18)]) rfl rfl rfl ?_
              obtain ⟨x4_51, ex4_51, h⟩ := o_b1E h
              refine go_iincE (pc' := 54) rfl rfl (y := (nI 1)) rfl ex4_51 (lo' := [some (.inr (.inr th)), some (.inl a0), some (.inl a1), some (.inl x3_50), some (.inl x4_51)]) rfl rfl ?_
              refine go_goto (pc' := 18) rfl rfl ?_
              exact (lp_backE h hk18 :)
            · replace h := o_t (Decidable.of_not_not h41) h
              exact ex18_44 _ (some (.inl v3_18)) (lp_exitE h hk18)
          · replace h := o_t (Decidable.of_not_not h33) h
            refine go_goto (pc' := 51) rfl rfl ?_
            obtain ⟨x4_51, ex4_51, h⟩ := o_b1E h
            refine go_iincE (pc' := 54) rfl rfl (y := (nI 1)) rfl ex4_51 (lo' := [some (.inr (.inr th)), some (.inl a0), some (.inl a1), some (.inl v3_18), some (.inl x4_51)]) rfl rfl ?_
            refine go_goto (pc' := 18) rfl rfl ?_
            exact (lp_backE h hk18 :))
      exact lo18 _ ((nI 0), (nI 0)) hl18 
    · replace h := o_f h8 h
      refine go_iconst (pc' := 12) (v := (-1 : Int32)) rfl rfl rfl ?_
      cases h
      exact go_iret rfl (trivial) ⟨rfl, rfl, rfl, rfl, rfl⟩
/-- PricedBasesModel.areBeside(II)Z -/
def m_267 (a0 : Int32) (a1 : Int32) : Option (Int32) :=
  if a0 = a1 then (some (nI 0)) else (o_b1 (m_193 (a0 &&& (a1 ^^^ (-1 : Int32)))) (fun r_10 => if r_10 = (nI 1) then (some (nI 1)) else (some (nI 0))))
theorem md_267 {d : Nat} {I : ai_I} {J : ai_J} {Rf : ai_R} {G : ai_G} {a0 : Int32} {a1 : Int32} {r : Int32} (hd : 2 ≤ d) (h : m_267 a0 a1 = some r) : ai_Cl si_t si_ms d 267 [.inl a0, .inl a1] I J Rf G (some (.inl r)) I J Rf G := by
  obtain ⟨e, rfl⟩ : ∃ e, d = e + 1 := ⟨d - 1, by omega⟩
  unfold m_267 at h
  refine sp_in (lo := [some (.inl a0), some (.inl a1)]) (B := (0, 0)) rfl (Nat.le_of_ble_eq_true rfl) rfl rfl ?_
  refine go_iload_n (pc' := 1) rfl rfl rfl ?_
  refine go_iload_n (pc' := 2) rfl rfl rfl ?_
  refine go_icmp_eq (pt := 21) (pc' := 5) rfl rfl rfl (fun h2 => ?_) (fun h2 => ?_)
  · replace h := o_t h2 h
    refine go_iconst (pc' := 22) (v := (nI 0)) rfl rfl rfl ?_
    cases h
    exact go_iret rfl (rfl) ⟨rfl, rfl, rfl, rfl, rfl⟩
  · replace h := o_f h2 h
    refine go_iload_n (pc' := 6) rfl rfl rfl ?_
    refine go_iload_n (pc' := 7) rfl rfl rfl ?_
    refine go_iconst (pc' := 8) (v := (-1 : Int32)) rfl rfl rfl ?_
    refine go_ixor (pc' := 9) rfl rfl ?_
    refine go_iand (pc' := 10) rfl rfl ?_
    obtain ⟨r_10, q_10, h⟩ := o_b1E h
    refine go_callS (pc' := 13) (B' := (0, 0)) (st' := [.inl r_10]) rfl rfl (Or.inl (by decide)) rfl rfl trivial (md_193 (by omega) q_10) rfl rfl rfl ?_
    refine go_iconst (pc' := 14) (v := (nI 1)) rfl rfl rfl ?_
    refine go_icmp_ne (pt := 21) (pc' := 17) rfl rfl rfl (fun h14 => ?_) (fun h14 => ?_)
    · replace h := o_f h14 h
      refine go_iconst (pc' := 22) (v := (nI 0)) rfl rfl rfl ?_
      cases h
      exact go_iret rfl (rfl) ⟨rfl, rfl, rfl, rfl, rfl⟩
    · replace h := o_t (Decidable.of_not_not h14) h
      refine go_iconst (pc' := 18) (v := (nI 1)) rfl rfl rfl ?_
      refine go_goto (pc' := 22) rfl rfl ?_
      cases h
      exact go_iret rfl (rfl) ⟨rfl, rfl, rfl, rfl, rfl⟩
