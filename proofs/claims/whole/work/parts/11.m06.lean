/-! Models of methods and their proofs, piece 6. Printed by wip/whole/pr10.py. -/
def m_75_x4_24 (w3_24 : Int32) : Option (Int32) :=
  some w3_24
def m_75_x4_35 : Option (Int32) :=
  some (-4 : Int32)
def m_75_b4 (a0 : Nat) (I : ai_I) (Rf : ai_R) (G : ai_G) (v2_4 : Int32) (v3_4 : Int32) : Option ((Int32 × Int32) ⊕ (Int32 ⊕ Unit)) :=
  o_g (o_kd G a0 8) (o_b1 (m_118 a0 I) (fun r_6 => if r_6 ≤ v3_4 then (some (Sum.inr (Sum.inr ()))) else (o_b1 (m_73 a0 v3_4 I Rf G) (fun r_14 => if r_14 = 0 then (o_b1 (some (v3_4 + (nI 1))) (fun x3_29 => some (Sum.inl (v2_4, x3_29)))) else (if v2_4 = 0 then (some (Sum.inr (Sum.inl v3_4))) else (o_b1 (some (v2_4 + (-1 : Int32))) (fun x2_26 => o_b1 (some (v3_4 + (nI 1))) (fun x3_29 => some (Sum.inl (x2_26, x3_29))))))))))
/-- PricedBases$Shape.circuitAt(LPricedBases$Valuation;I)I -/
def m_75 (a0 : Nat) (a1 : Int32) (I : ai_I) (Rf : ai_R) (G : ai_G) : Option (Int32) :=
  o_s2 (lp (fun s => m_75_b4 a0 I Rf G s.1 s.2) o_N (a1, (nI 0))) (fun t => m_75_x4_24 t) (fun t => m_75_x4_35)
theorem md_75 {d : Nat} {I : ai_I} {J : ai_J} {Rf : ai_R} {G : ai_G} {a0 : Nat} {a1 : Int32} {r : Int32} (hd : 4 ≤ d) (h : m_75 a0 a1 I Rf G = some r) : ai_Cl si_t si_ms d 75 [.inr (.inr a0), .inl a1] I J Rf G (some (.inl r)) I J Rf G := by
  obtain ⟨e, rfl⟩ : ∃ e, d = e + 1 := ⟨d - 1, by omega⟩
  unfold m_75 at h
  refine sp_in (lo := [some (.inr (.inr a0)), some (.inl a1), none, none]) (B := (0, 0)) rfl (Nat.le_of_ble_eq_true rfl) rfl rfl ?_
  refine go_iload_n (pc' := 1) rfl rfl rfl ?_
  refine go_istore_n (pc' := 2) (lo' := [some (.inr (.inr a0)), some (.inl a1), some (.inl a1), none]) rfl rfl rfl ?_
  refine go_iconst (pc' := 3) (v := (nI 0)) rfl rfl rfl ?_
  refine go_istore_n (pc' := 4) (lo' := [some (.inr (.inr a0)), some (.inl a1), some (.inl a1), some (.inl (nI 0))]) rfl rfl rfl ?_
  obtain ⟨q4, hl4, hc4_24, hc4_35⟩ := o_s2E h
  have ex4_24 : ∀ (w3_24 : Int32) (z2_x24 : Option ai_V), (Sum.inl w3_24) = q4 → ai_Go si_t (20, false, 0, cd_75) (ai_Cl si_t si_ms e) (sp_Q (some (.inl r)) I J Rf G) 24 [some (.inr (.inr a0)), some (.inl a1), z2_x24, some (.inl w3_24)] [] (0, 0) I J Rf G := by
    intro w3_24 z2_x24 hq
    have h : m_75_x4_24 w3_24 = some r := hc4_24 w3_24 hq.symm
    unfold m_75_x4_24 at h
    refine go_iload_n (pc' := 25) rfl rfl rfl ?_
    cases h
    exact go_iret rfl (trivial) ⟨rfl, rfl, rfl, rfl, rfl⟩
  have ex4_35 : ∀ (z2_x35 : Option ai_V) (z3_x35 : Option ai_V), (Sum.inr ()) = q4 → ai_Go si_t (20, false, 0, cd_75) (ai_Cl si_t si_ms e) (sp_Q (some (.inl r)) I J Rf G) 35 [some (.inr (.inr a0)), some (.inl a1), z2_x35, z3_x35] [] (0, 0) I J Rf G := by
    intro z2_x35 z3_x35 hq
    have h : m_75_x4_35 = some r := hc4_35 () hq.symm
    unfold m_75_x4_35 at h
    refine go_bipush (pc' := 37) (v := (-4 : Int32)) rfl rfl rfl ?_
    cases h
    exact go_iret rfl (trivial) ⟨rfl, rfl, rfl, rfl, rfl⟩
  have lo4 : ∀ n s, lp (fun s => m_75_b4 a0 I Rf G s.1 s.2) n s = some q4 → (fun s => ai_Go si_t (20, false, 0, cd_75) (ai_Cl si_t si_ms e) (sp_Q (some (.inl r)) I J Rf G) 4 [some (.inr (.inr a0)), some (.inl a1), some (.inl s.1), some (.inl s.2)] [] (0, 0) I J Rf G) s := lp_go (fun s x4 hx hk4 => by
    obtain ⟨v2_4, v3_4⟩ := s
    have h : m_75_b4 a0 I Rf G v2_4 v3_4 = some x4 := hx
    clear hx
    show ai_Go si_t (20, false, 0, cd_75) (ai_Cl si_t si_ms e) (sp_Q (some (.inl r)) I J Rf G) 4 [some (.inr (.inr a0)), some (.inl a1), some (.inl v2_4), some (.inl v3_4)] [] (0, 0) I J Rf G
    unfold m_75_b4 at h
    refine go_iload_n (pc' := 5) rfl rfl rfl ?_
    refine go_aload_n (pc' := 6) rfl rfl rfl ?_
    obtain ⟨g0, h⟩ := o_gE h
    obtain ⟨r_6, q_6, h⟩ := o_b1E h
    refine go_callV (pc' := 9) (B' := (0, 0)) (st' := [.inl r_6, .inl v3_4]) rfl rfl (Or.inl (by decide)) rfl rfl (o_kdE g0) (md_118 (by omega) (o_kdE g0) q_6) rfl rfl rfl ?_
    refine go_icmp_ge (pt := 35) (pc' := 12) rfl rfl rfl (fun h9 => ?_) (fun h9 => ?_)
    · replace h := o_t h9 h
      exact ex4_35  (some (.inl v2_4)) (some (.inl v3_4)) (lp_exitE h hk4)
    · replace h := o_f h9 h
      refine go_aload_n (pc' := 13) rfl rfl rfl ?_
      refine go_iload_n (pc' := 14) rfl rfl rfl ?_
      obtain ⟨r_14, q_14, h⟩ := o_b1E h
      refine go_callS (pc' := 17) (B' := (0, 0)) (st' := [.inl r_14]) rfl rfl (Or.inl (by decide)) rfl rfl trivial (md_73 (by omega) q_14) rfl rfl rfl ?_
      refine go_if_eq (pt := 29) (pc' := 20) rfl rfl rfl (fun h17 => ?_) (fun h17 => ?_)
      · replace h := o_t h17 h
        obtain ⟨x3_29, ex3_29, h⟩ := o_b1E h
        refine go_iincE (pc' := 32) rfl rfl (y := (nI 1)) rfl ex3_29 (lo' := [some (.inr (.inr a0)), some (.inl a1), some (.inl v2_4), some (.inl x3_29)]) rfl rfl ?_
        refine go_goto (pc' := 4) rfl rfl ?_
        exact (lp_backE h hk4 :)
      · replace h := o_f h17 h
        refine go_iload_n (pc' := 21) rfl rfl rfl ?_
        refine go_if_ne (pt := 26) (pc' := 24) rfl rfl rfl (fun h21 => ?_) (fun h21 => ?_)
        · replace h := o_f h21 h
          obtain ⟨x2_26, ex2_26, h⟩ := o_b1E h
          refine go_iincE (pc' := 29) rfl rfl (y := (-1 : Int32)) rfl ex2_26 (lo' := [some (.inr (.inr a0)), some (.inl a1), some (.inl x2_26), some (.inl v3_4)]) rfl rfl ?_
          obtain ⟨x3_29, ex3_29, h⟩ := o_b1E h
          refine go_iincE (pc' := 32) rfl rfl (y := (nI 1)) rfl ex3_29 (lo' := [some (.inr (.inr a0)), some (.inl a1), some (.inl x2_26), some (.inl x3_29)]) rfl rfl ?_
          refine go_goto (pc' := 4) rfl rfl ?_
          exact (lp_backE h hk4 :)
        · replace h := o_t (Decidable.of_not_not h21) h
          exact ex4_24 _ (some (.inl v2_4)) (lp_exitE h hk4))
  exact lo4 _ (a1, (nI 0)) hl4 
def m_187_x22_42 (w4_42 : Int32) : Option (Int32) :=
  some w4_42
def m_187_x22_54 : Option (Int32) :=
  some (nI 0)
def m_187_b22 (a0 : Int32) (v3_22 : Int32) (v4_22 : Int32) : Option ((Int32 × Int32) ⊕ (Int32 ⊕ Unit)) :=
  if (nI 8) ≤ v4_22 then (some (Sum.inr (Sum.inr ()))) else (o_b1 (m_183 a0 v4_22) (fun r_32 => if r_32 = 0 then (o_b1 (some (v4_22 + (nI 1))) (fun x4_48 => some (Sum.inl (v3_22, x4_48)))) else (if v3_22 = 0 then (some (Sum.inr (Sum.inl v4_22))) else (o_b1 (some (v3_22 + (-1 : Int32))) (fun x3_45 => o_b1 (some (v4_22 + (nI 1))) (fun x4_48 => some (Sum.inl (x3_45, x4_48))))))))
/-- PricedBases.elementBehind(II)I -/
def m_187 (a0 : Int32) (a1 : Int32) : Option (Int32) :=
  o_b1 (m_331 a0) (fun r_1 => if r_1 = 0 then (some (nI 0)) else (if 0 ≤ a1 then (o_g (o_nzI r_1) (o_b1 (some (a1 - a1 / r_1 * r_1)) (fun x3_18 => o_s2 (lp (fun s => m_187_b22 a0 s.1 s.2) o_N (x3_18, (nI 0))) (fun t => m_187_x22_42 t) (fun t => m_187_x22_54)))) else (some (nI 0))))
theorem md_187 {d : Nat} {I : ai_I} {J : ai_J} {Rf : ai_R} {G : ai_G} {a0 : Int32} {a1 : Int32} {r : Int32} (hd : 2 ≤ d) (h : m_187 a0 a1 = some r) : ai_Cl si_t si_ms d 187 [.inl a0, .inl a1] I J Rf G (some (.inl r)) I J Rf G := by
  obtain ⟨e, rfl⟩ : ∃ e, d = e + 1 := ⟨d - 1, by omega⟩
  unfold m_187 at h
  refine sp_in (lo := [some (.inl a0), some (.inl a1), none, none, none]) (B := (0, 0)) rfl (Nat.le_of_ble_eq_true rfl) rfl rfl ?_
  refine go_iload_n (pc' := 1) rfl rfl rfl ?_
  obtain ⟨r_1, q_1, h⟩ := o_b1E h
  refine go_callS (pc' := 4) (B' := (0, 0)) (st' := [.inl r_1]) rfl rfl (Or.inl (by decide)) rfl rfl trivial (md_331 (by omega) q_1) rfl rfl rfl ?_
  refine go_istore_n (pc' := 5) (lo' := [some (.inl a0), some (.inl a1), some (.inl r_1), none, none]) rfl rfl rfl ?_
  refine go_iload_n (pc' := 6) rfl rfl rfl ?_
  refine go_if_eq (pt := 13) (pc' := 9) rfl rfl rfl (fun h6 => ?_) (fun h6 => ?_)
  · replace h := o_t h6 h
    refine go_iconst (pc' := 14) (v := (nI 0)) rfl rfl rfl ?_
    cases h
    exact go_iret rfl (trivial) ⟨rfl, rfl, rfl, rfl, rfl⟩
  · replace h := o_f h6 h
    refine go_iload_n (pc' := 10) rfl rfl rfl ?_
    refine go_if_ge (pt := 15) (pc' := 13) rfl rfl rfl (fun h10 => ?_) (fun h10 => ?_)
    · replace h := o_t h10 h
      refine go_iload_n (pc' := 16) rfl rfl rfl ?_
      refine go_iload_n (pc' := 17) rfl rfl rfl ?_
      obtain ⟨g0, h⟩ := o_gE h
      refine go_irem (pc' := 18) rfl (o_nzIE g0) rfl ?_
      obtain ⟨x3_18, ex3_18, h⟩ := o_b1E h
      refine go_ndI ex3_18 ?_
      refine go_istore_n (pc' := 19) (lo' := [some (.inl a0), some (.inl a1), some (.inl r_1), some (.inl x3_18), none]) rfl rfl rfl ?_
      refine go_iconst (pc' := 20) (v := (nI 0)) rfl rfl rfl ?_
      refine go_istore (pc' := 22) (lo' := [some (.inl a0), some (.inl a1), some (.inl r_1), some (.inl x3_18), some (.inl (nI 0))]) rfl rfl rfl ?_
      obtain ⟨q22, hl22, hc22_42, hc22_54⟩ := o_s2E h
      have ex22_42 : ∀ (w4_42 : Int32) (z3_x42 : Option ai_V), (Sum.inl w4_42) = q22 → ai_Go si_t (10, false, 0, cd_187) (ai_Cl si_t si_ms e) (sp_Q (some (.inl r)) I J Rf G) 42 [some (.inl a0), some (.inl a1), some (.inl r_1), z3_x42, some (.inl w4_42)] [] (0, 0) I J Rf G := by
        intro w4_42 z3_x42 hq
        have h : m_187_x22_42 w4_42 = some r := hc22_42 w4_42 hq.symm
        unfold m_187_x22_42 at h
        refine go_iload (pc' := 44) rfl rfl rfl ?_
        cases h
        exact go_iret rfl (trivial) ⟨rfl, rfl, rfl, rfl, rfl⟩
      have ex22_54 : ∀ (z3_x54 : Option ai_V) (z4_x54 : Option ai_V), (Sum.inr ()) = q22 → ai_Go si_t (10, false, 0, cd_187) (ai_Cl si_t si_ms e) (sp_Q (some (.inl r)) I J Rf G) 54 [some (.inl a0), some (.inl a1), some (.inl r_1), z3_x54, z4_x54] [] (0, 0) I J Rf G := by
        intro z3_x54 z4_x54 hq
        have h : m_187_x22_54 = some r := hc22_54 () hq.symm
        unfold m_187_x22_54 at h
        refine go_iconst (pc' := 55) (v := (nI 0)) rfl rfl rfl ?_
        cases h
        exact go_iret rfl (trivial) ⟨rfl, rfl, rfl, rfl, rfl⟩
      have lo22 : ∀ n s, lp (fun s => m_187_b22 a0 s.1 s.2) n s = some q22 → (fun s => ai_Go si_t (10, false, 0, cd_187) (ai_Cl si_t si_ms e) (sp_Q (some (.inl r)) I J Rf G) 22 [some (.inl a0), some (.inl a1), some (.inl r_1), some (.inl s.1), some (.inl s.2)] [] (0, 0) I J Rf G) s := lp_go (fun s x22 hx hk22 => by
        obtain ⟨v3_22, v4_22⟩ := s
        have h : m_187_b22 a0 v3_22 v4_22 = some x22 := hx
        clear hx
        show ai_Go si_t (10, false, 0, cd_187) (ai_Cl si_t si_ms e) (sp_Q (some (.inl r)) I J Rf G) 22 [some (.inl a0), some (.inl a1), some (.inl r_1), some (.inl v3_22), some (.inl v4_22)] [] (0, 0) I J Rf G
        unfold m_187_b22 at h
        refine go_iload (pc' := 24) rfl rfl rfl ?_
        refine go_bipush (pc' := 26) (v := (nI 8)) rfl rfl rfl ?_
        refine go_icmp_ge (pt := 54) (pc' := 29) rfl rfl rfl (fun h26 => ?_) (fun h26 => ?_)
        · replace h := o_t h26 h
          exact ex22_54  (some (.inl v3_22)) (some (.inl v4_22)) (lp_exitE h hk22)
        · replace h := o_f h26 h
          refine go_iload_n (pc' := 30) rfl rfl rfl ?_
          refine go_iload (pc' := 32) rfl rfl rfl ?_
          obtain ⟨r_32, q_32, h⟩ := o_b1E h
          refine go_callS (pc' := 35) (B' := (0, 0)) (st' := [.inl r_32]) rfl rfl (Or.inl (by decide)) rfl rfl trivial (md_183 (by omega) q_32) rfl rfl rfl ?_
          refine go_if_eq (pt := 48) (pc' := 38) rfl rfl rfl (fun h35 => ?_) (fun h35 => ?_)
          · replace h := o_t h35 h
            obtain ⟨x4_48, ex4_48, h⟩ := o_b1E h
            refine go_iincE (pc' := 51) rfl rfl (y := (nI 1)) rfl ex4_48 (lo' := [some (.inl a0), some (.inl a1), some (.inl r_1), some (.inl v3_22), some (.inl x4_48)]) rfl rfl ?_
            refine go_goto (pc' := 22) rfl rfl ?_
            exact (lp_backE h hk22 :)
          · replace h := o_f h35 h
            refine go_iload_n (pc' := 39) rfl rfl rfl ?_
            refine go_if_ne (pt := 45) (pc' := 42) rfl rfl rfl (fun h39 => ?_) (fun h39 => ?_)
            · replace h := o_f h39 h
              obtain ⟨x3_45, ex3_45, h⟩ := o_b1E h
              refine go_iincE (pc' := 48) rfl rfl (y := (-1 : Int32)) rfl ex3_45 (lo' := [some (.inl a0), some (.inl a1), some (.inl r_1), some (.inl x3_45), some (.inl v4_22)]) rfl rfl ?_
              obtain ⟨x4_48, ex4_48, h⟩ := o_b1E h
              refine go_iincE (pc' := 51) rfl rfl (y := (nI 1)) rfl ex4_48 (lo' := [some (.inl a0), some (.inl a1), some (.inl r_1), some (.inl x3_45), some (.inl x4_48)]) rfl rfl ?_
              refine go_goto (pc' := 22) rfl rfl ?_
              exact (lp_backE h hk22 :)
            · replace h := o_t (Decidable.of_not_not h39) h
              exact ex22_42 _ (some (.inl v3_22)) (lp_exitE h hk22))
      exact lo22 _ (x3_18, (nI 0)) hl22 
    · replace h := o_f h10 h
      refine go_iconst (pc' := 14) (v := (nI 0)) rfl rfl rfl ?_
      cases h
      exact go_iret rfl (trivial) ⟨rfl, rfl, rfl, rfl, rfl⟩
def m_76_x6_59 (w2_59 : Int32) : Option (Int32) :=
  o_b1 (m_187 w2_59 (nI 0)) (fun r_61 => some r_61)
def m_76_x17_53 (v3_6 : Int32) (w2_53 : Int32) : Option ((Int32 × Int32) ⊕ Int32) :=
  o_b1 (some (v3_6 + (nI 1))) (fun x3_53 => some (Sum.inl (w2_53, x3_53)))
def m_76_b17 (a0 : Nat) (I : ai_I) (Rf : ai_R) (G : ai_G) (v2_17 : Int32) (v4_17 : Int32) : Option ((Int32 × Int32) ⊕ Int32) :=
  o_b1 (m_118 a0 I) (fun r_20 => if r_20 ≤ v4_17 then (some (Sum.inr v2_17)) else (if (v4_17 &&& v2_17) = 0 then (o_b1 (some (v4_17 + (nI 1))) (fun x4_47 => some (Sum.inl (v2_17, x4_47)))) else (o_b1 (m_73 a0 v4_17 I Rf G) (fun r_36 => if r_36 = 0 then (o_b1 (some (v4_17 + (nI 1))) (fun x4_47 => some (Sum.inl (v2_17, x4_47)))) else (o_b1 (some (v2_17 ||| v4_17)) (fun x2_46 => o_b1 (some (v4_17 + (nI 1))) (fun x4_47 => some (Sum.inl (x2_46, x4_47)))))))))
def m_76_b6 (a0 : Nat) (I : ai_I) (Rf : ai_R) (G : ai_G) (v2_6 : Int32) (v3_6 : Int32) : Option ((Int32 × Int32) ⊕ Int32) :=
  o_g (o_kd G a0 8) (if (I a0 0) ≤ v3_6 then (some (Sum.inr v2_6)) else (o_s1 (lp (fun s => m_76_b17 a0 I Rf G s.1 s.2) o_N (v2_6, (nI 0))) (fun t => m_76_x17_53 v3_6 t)))
/-- PricedBases$Shape.leastHanging(LPricedBases$Valuation;I)I -/
def m_76 (a0 : Nat) (a1 : Int32) (I : ai_I) (Rf : ai_R) (G : ai_G) : Option (Int32) :=
  o_b1 (some ((nI 1) <<< (a1 &&& 31))) (fun x2_3 => o_s1 (lp (fun s => m_76_b6 a0 I Rf G s.1 s.2) o_N (x2_3, (nI 0))) (fun t => m_76_x6_59 t))
theorem md_76 {d : Nat} {I : ai_I} {J : ai_J} {Rf : ai_R} {G : ai_G} {a0 : Nat} {a1 : Int32} {r : Int32} (hd : 4 ≤ d) (h : m_76 a0 a1 I Rf G = some r) : ai_Cl si_t si_ms d 76 [.inr (.inr a0), .inl a1] I J Rf G (some (.inl r)) I J Rf G := by
  obtain ⟨e, rfl⟩ : ∃ e, d = e + 1 := ⟨d - 1, by omega⟩
  unfold m_76 at h
  refine sp_in (lo := [some (.inr (.inr a0)), some (.inl a1), none, none, none]) (B := (0, 0)) rfl (Nat.le_of_ble_eq_true rfl) rfl rfl ?_
  refine go_iconst (pc' := 1) (v := (nI 1)) rfl rfl rfl ?_
  refine go_iload_n (pc' := 2) rfl rfl rfl ?_
  refine go_ishl (pc' := 3) rfl rfl ?_
  obtain ⟨x2_3, ex2_3, h⟩ := o_b1E h
  refine go_ndI ex2_3 ?_
  refine go_istore_n (pc' := 4) (lo' := [some (.inr (.inr a0)), some (.inl a1), some (.inl x2_3), none, none]) rfl rfl rfl ?_
  refine go_iconst (pc' := 5) (v := (nI 0)) rfl rfl rfl ?_
  refine go_istore_n (pc' := 6) (lo' := [some (.inr (.inr a0)), some (.inl a1), some (.inl x2_3), some (.inl (nI 0)), none]) rfl rfl rfl ?_
  obtain ⟨q6, hl6, hc6_59⟩ := o_s1E h
  have ex6_59 : ∀ (w2_59 : Int32) (z3_x59 : Option ai_V) (z4_x59 : Option ai_V), w2_59 = q6 → ai_Go si_t (20, false, 0, cd_76) (ai_Cl si_t si_ms e) (sp_Q (some (.inl r)) I J Rf G) 59 [some (.inr (.inr a0)), some (.inl a1), some (.inl w2_59), z3_x59, z4_x59] [] (0, 0) I J Rf G := by
    intro w2_59 z3_x59 z4_x59 hq
    have h : m_76_x6_59 w2_59 = some r := hc6_59 w2_59 hq.symm
    unfold m_76_x6_59 at h
    refine go_iload_n (pc' := 60) rfl rfl rfl ?_
    refine go_iconst (pc' := 61) (v := (nI 0)) rfl rfl rfl ?_
    obtain ⟨r_61, q_61, h⟩ := o_b1E h
    refine go_callS (pc' := 64) (B' := (0, 0)) (st' := [.inl r_61]) rfl rfl (Or.inl (by decide)) rfl rfl trivial (md_187 (by omega) q_61) rfl rfl rfl ?_
    cases h
    exact go_iret rfl (trivial) ⟨rfl, rfl, rfl, rfl, rfl⟩
  have lo6 : ∀ n s, lp (fun s => m_76_b6 a0 I Rf G s.1 s.2) n s = some q6 → (fun s => ∀ (z4_6 : Option ai_V), ai_Go si_t (20, false, 0, cd_76) (ai_Cl si_t si_ms e) (sp_Q (some (.inl r)) I J Rf G) 6 [some (.inr (.inr a0)), some (.inl a1), some (.inl s.1), some (.inl s.2), z4_6] [] (0, 0) I J Rf G) s := lp_go (fun s x6 hx hk6 => by
    obtain ⟨v2_6, v3_6⟩ := s
    intro z4_6
    have h : m_76_b6 a0 I Rf G v2_6 v3_6 = some x6 := hx
    clear hx
    show ai_Go si_t (20, false, 0, cd_76) (ai_Cl si_t si_ms e) (sp_Q (some (.inl r)) I J Rf G) 6 [some (.inr (.inr a0)), some (.inl a1), some (.inl v2_6), some (.inl v3_6), z4_6] [] (0, 0) I J Rf G
    unfold m_76_b6 at h
    refine go_iload_n (pc' := 7) rfl rfl rfl ?_
    refine go_aload_n (pc' := 8) rfl rfl rfl ?_
    obtain ⟨g0, h⟩ := o_gE h
    refine go_getI (pc' := 11) rfl rfl (by decide) (by decide) (o_kdE g0) rfl ?_
    refine go_icmp_ge (pt := 59) (pc' := 14) rfl rfl rfl (fun h11 => ?_) (fun h11 => ?_)
    · replace h := o_t h11 h
      exact ex6_59 _ (some (.inl v3_6)) z4_6 (lp_exitE h hk6)
    · replace h := o_f h11 h
      refine go_iconst (pc' := 15) (v := (nI 0)) rfl rfl rfl ?_
      refine go_istore (pc' := 17) (lo' := [some (.inr (.inr a0)), some (.inl a1), some (.inl v2_6), some (.inl v3_6), some (.inl (nI 0))]) rfl rfl rfl ?_
      obtain ⟨q17, hl17, hc17_53⟩ := o_s1E h
      have ex17_53 : ∀ (w2_53 : Int32) (z4_x53 : Option ai_V), w2_53 = q17 → ai_Go si_t (20, false, 0, cd_76) (ai_Cl si_t si_ms e) (sp_Q (some (.inl r)) I J Rf G) 53 [some (.inr (.inr a0)), some (.inl a1), some (.inl w2_53), some (.inl v3_6), z4_x53] [] (0, 0) I J Rf G := by
        intro w2_53 z4_x53 hq
        have h : m_76_x17_53 v3_6 w2_53 = some x6 := hc17_53 w2_53 hq.symm
        unfold m_76_x17_53 at h
        obtain ⟨x3_53, ex3_53, h⟩ := o_b1E h
        refine go_iincE (pc' := 56) rfl rfl (y := (nI 1)) rfl ex3_53 (lo' := [some (.inr (.inr a0)), some (.inl a1), some (.inl w2_53), some (.inl x3_53), z4_x53]) rfl rfl ?_
        refine go_goto (pc' := 6) rfl rfl ?_
        exact (lp_backE h hk6 z4_x53 :)
      have lo17 : ∀ n s, lp (fun s => m_76_b17 a0 I Rf G s.1 s.2) n s = some q17 → (fun s => ai_Go si_t (20, false, 0, cd_76) (ai_Cl si_t si_ms e) (sp_Q (some (.inl r)) I J Rf G) 17 [some (.inr (.inr a0)), some (.inl a1), some (.inl s.1), some (.inl v3_6), some (.inl s.2)] [] (0, 0) I J Rf G) s := lp_go (fun s x17 hx hk17 => by
        obtain ⟨v2_17, v4_17⟩ := s
        have h : m_76_b17 a0 I Rf G v2_17 v4_17 = some x17 := hx
        clear hx
        show ai_Go si_t (20, false, 0, cd_76) (ai_Cl si_t si_ms e) (sp_Q (some (.inl r)) I J Rf G) 17 [some (.inr (.inr a0)), some (.inl a1), some (.inl v2_17), some (.inl v3_6), some (.inl v4_17)] [] (0, 0) I J Rf G
        unfold m_76_b17 at h
        refine go_iload (pc' := 19) rfl rfl rfl ?_
        refine go_aload_n (pc' := 20) rfl rfl rfl ?_
        obtain ⟨r_20, q_20, h⟩ := o_b1E h
        refine go_callV (pc' := 23) (B' := (0, 0)) (st' := [.inl r_20, .inl v4_17]) rfl rfl (Or.inl (by decide)) rfl rfl (o_kdE g0) (md_118 (by omega) (o_kdE g0) q_20) rfl rfl rfl ?_
        refine go_icmp_ge (pt := 53) (pc' := 26) rfl rfl rfl (fun h23 => ?_) (fun h23 => ?_)
        · replace h := o_t h23 h
          exact ex17_53 _ (some (.inl v4_17)) (lp_exitE h hk17)
        · replace h := o_f h23 h
          refine go_iload (pc' := 28) rfl rfl rfl ?_
          refine go_iload_n (pc' := 29) rfl rfl rfl ?_
          refine go_iand (pc' := 30) rfl rfl ?_
          refine go_if_eq (pt := 47) (pc' := 33) rfl rfl rfl (fun h30 => ?_) (fun h30 => ?_)
          · replace h := o_t h30 h
            obtain ⟨x4_47, ex4_47, h⟩ := o_b1E h
            refine go_iincE (pc' := 50) rfl rfl (y := (nI 1)) rfl ex4_47 (lo' := [some (.inr (.inr a0)), some (.inl a1), some (.inl v2_17), some (.inl v3_6), some (.inl x4_47)]) rfl rfl ?_
            refine go_goto (pc' := 17) rfl rfl ?_
            exact (lp_backE h hk17 :)
          · replace h := o_f h30 h
            refine go_aload_n (pc' := 34) rfl rfl rfl ?_
            refine go_iload (pc' := 36) rfl rfl rfl ?_
            obtain ⟨r_36, q_36, h⟩ := o_b1E h
            refine go_callS (pc' := 39) (B' := (0, 0)) (st' := [.inl r_36]) rfl rfl (Or.inl (by decide)) rfl rfl trivial (md_73 (by omega) q_36) rfl rfl rfl ?_
            refine go_if_eq (pt := 47) (pc' := 42) rfl rfl rfl (fun h39 => ?_) (fun h39 => ?_)
            · replace h := o_t h39 h
              obtain ⟨x4_47, ex4_47, h⟩ := o_b1E h
              refine go_iincE (pc' := 50) rfl rfl (y := (nI 1)) rfl ex4_47 (lo' := [some (.inr (.inr a0)), some (.inl a1), some (.inl v2_17), some (.inl v3_6), some (.inl x4_47)]) rfl rfl ?_
              refine go_goto (pc' := 17) rfl rfl ?_
              exact (lp_backE h hk17 :)
            · replace h := o_f h39 h
              refine go_iload_n (pc' := 43) rfl rfl rfl ?_
              refine go_iload (pc' := 45) rfl rfl rfl ?_
              refine go_ior (pc' := 46) rfl rfl ?_
              obtain ⟨x2_46, ex2_46, h⟩ := o_b1E h
              refine go_ndI ex2_46 ?_
              refine go_istore_n (pc' := 47) (lo' := [some (.inr (.inr a0)), some (.inl a1), some (.inl x2_46), some (.inl v3_6), some (.inl v4_17)]) rfl rfl rfl ?_
              obtain ⟨x4_47, ex4_47, h⟩ := o_b1E h
              refine go_iincE (pc' := 50) rfl rfl (y := (nI 1)) rfl ex4_47 (lo' := [some (.inr (.inr a0)), some (.inl a1), some (.inl x2_46), some (.inl v3_6), some (.inl x4_47)]) rfl rfl ?_
              refine go_goto (pc' := 17) rfl rfl ?_
              exact (lp_backE h hk17 :))
      exact lo17 _ (v2_6, (nI 0)) hl17 )
  exact lo6 _ (x2_3, (nI 0)) hl6 none
def m_77_x16_87 (a0 : Nat) (a1 : Nat) (G : ai_G) (Ix_87 : ai_I) : Option (Int32 × ai_I) :=
  o_g (o_kd G a0 8) (o_b1 (m_119 a0 Ix_87) (fun r_89 => o_g (o_in G 13 a1 r_89) (some (Ix_87 a1 r_89.toNatClampNeg, Ix_87))))
def m_77_x30_77 (a1 : Nat) (G : ai_G) (v2_16 : Int32) (I_16 : ai_I) (w3_77 : Int32) : Option ((Int32 × ai_I) ⊕ ai_I) :=
  o_g (o_in G 13 a1 v2_16) (o_b1 (some (va_up I_16 a1 (va_up (I_16 a1) v2_16.toNatClampNeg w3_77))) (fun I_80 => o_b1 (some (v2_16 + (nI 1))) (fun x2_81 => some (Sum.inl (x2_81, I_80)))))
def m_77_b30 (a0 : Nat) (a1 : Nat) (Rf : ai_R) (G : ai_G) (v2_16 : Int32) (I_16 : ai_I) (v3_30 : Int32) (v4_30 : Int32) : Option ((Int32 × Int32) ⊕ Int32) :=
  if (I_16 a0 2) ≤ v4_30 then (some (Sum.inr v3_30)) else (o_g (o_in G 13 (Rf a0 5) v4_30) (if (v2_16 &&& (I_16 (Rf a0 5) v4_30.toNatClampNeg)) = 0 then (o_b1 (some (v4_30 + (nI 1))) (fun x4_71 => some (Sum.inl (v3_30, x4_71)))) else (o_g (o_in G 13 (Rf a0 5) v4_30) (o_g (o_in G 13 a1 (v2_16 &&& ((I_16 (Rf a0 5) v4_30.toNatClampNeg) ^^^ (-1 : Int32)))) (o_b1 (some (if ((I_16 a1 (v2_16 &&& ((I_16 (Rf a0 5) v4_30.toNatClampNeg) ^^^ (-1 : Int32))).toNatClampNeg) + (nI 1)) < v3_30 then ((I_16 a1 (v2_16 &&& ((I_16 (Rf a0 5) v4_30.toNatClampNeg) ^^^ (-1 : Int32))).toNatClampNeg) + (nI 1)) else v3_30)) (fun r_67 => o_b1 (some (v4_30 + (nI 1))) (fun x4_71 => some (Sum.inl (r_67, x4_71)))))))))
def m_77_b16 (a0 : Nat) (a1 : Nat) (Rf : ai_R) (G : ai_G) (v2_16 : Int32) (I_16 : ai_I) : Option ((Int32 × ai_I) ⊕ ai_I) :=
  o_g (o_kd G a0 8) (o_b1 (m_118 a0 I_16) (fun r_18 => if r_18 ≤ v2_16 then (some (Sum.inr I_16)) else (o_s1 (lp (fun s => m_77_b30 a0 a1 Rf G v2_16 I_16 s.1 s.2) o_N ((nI 8), (nI 0))) (fun t => m_77_x30_77 a1 G v2_16 I_16 t))))
/-- PricedBases$Shape.covers(LPricedBases$Valuation;[I)I -/
def m_77 (a0 : Nat) (a1 : Nat) (I : ai_I) (Rf : ai_R) (G : ai_G) : Option (Int32 × ai_I) :=
  o_b1 (m_66 a0 I Rf G) (fun r_1 => if r_1 = 0 then (o_g (o_in G 13 a1 (nI 0)) (o_b1 (some (va_up I a1 (va_up (I a1) (nI 0).toNatClampNeg (nI 0)))) (fun I_13 => o_s1 (lp (fun s => m_77_b16 a0 a1 Rf G s.1 s.2) o_N ((nI 1), I_13)) (fun t => m_77_x16_87 a0 a1 G t)))) else (some ((-2 : Int32), I)))
theorem md_77 {d : Nat} {I : ai_I} {J : ai_J} {Rf : ai_R} {G : ai_G} {a0 : Nat} {a1 : Nat} {r : Int32} {I1 : ai_I} (hd : 4 ≤ d) (h : m_77 a0 a1 I Rf G = some (r, I1)) : ai_Cl si_t si_ms d 77 [.inr (.inr a0), .inr (.inr a1)] I J Rf G (some (.inl r)) I1 J Rf G := by
  obtain ⟨e, rfl⟩ : ∃ e, d = e + 1 := ⟨d - 1, by omega⟩
  unfold m_77 at h
  refine sp_in (lo := [some (.inr (.inr a0)), some (.inr (.inr a1)), none, none, none]) (B := (0, 0)) rfl (Nat.le_of_ble_eq_true rfl) rfl rfl ?_
  refine go_aload_n (pc' := 1) rfl rfl rfl ?_
  obtain ⟨r_1, q_1, h⟩ := o_b1E h
  refine go_callS (pc' := 4) (B' := (0, 0)) (st' := [.inl r_1]) rfl rfl (Or.inl (by decide)) rfl rfl trivial (md_66 (by omega) q_1) rfl rfl rfl ?_
  refine go_if_eq (pt := 10) (pc' := 7) rfl rfl rfl (fun h4 => ?_) (fun h4 => ?_)
  · replace h := o_t h4 h
    refine go_aload_n (pc' := 11) rfl rfl rfl ?_
    refine go_iconst (pc' := 12) (v := (nI 0)) rfl rfl rfl ?_
    refine go_iconst (pc' := 13) (v := (nI 0)) rfl rfl rfl ?_
    obtain ⟨g0, h⟩ := o_gE h
    obtain ⟨I_13, eI_13, h⟩ := o_b1E h
    refine go_iastore (pc' := 14) rfl (o_inK g0) (o_inB g0) rfl ?_
    refine go_ndMI eI_13 ?_
    refine go_iconst (pc' := 15) (v := (nI 1)) rfl rfl rfl ?_
    refine go_istore_n (pc' := 16) (lo' := [some (.inr (.inr a0)), some (.inr (.inr a1)), some (.inl (nI 1)), none, none]) rfl rfl rfl ?_
    obtain ⟨q16, hl16, hc16_87⟩ := o_s1E h
    have ex16_87 : ∀ (Ix_87 : ai_I) (z2_x87 : Option ai_V) (z3_x87 : Option ai_V) (z4_x87 : Option ai_V), Ix_87 = q16 → ai_Go si_t (20, false, 0, cd_77) (ai_Cl si_t si_ms e) (sp_Q (some (.inl r)) I1 J Rf G) 87 [some (.inr (.inr a0)), some (.inr (.inr a1)), z2_x87, z3_x87, z4_x87] [] (0, 0) Ix_87 J Rf G := by
      intro Ix_87 z2_x87 z3_x87 z4_x87 hq
      have h : m_77_x16_87 a0 a1 G Ix_87 = some (r, I1) := hc16_87 Ix_87 hq.symm
      unfold m_77_x16_87 at h
      refine go_aload_n (pc' := 88) rfl rfl rfl ?_
      refine go_aload_n (pc' := 89) rfl rfl rfl ?_
      obtain ⟨g1, h⟩ := o_gE h
      obtain ⟨r_89, q_89, h⟩ := o_b1E h
      refine go_callV (pc' := 92) (B' := (0, 0)) (st' := [.inl r_89, .inr (.inr a1)]) rfl rfl (Or.inl (by decide)) rfl rfl (o_kdE g1) (md_119 (by omega) (o_kdE g1) q_89) rfl rfl rfl ?_
      obtain ⟨g2, h⟩ := o_gE h
      refine go_iaload (pc' := 93) rfl (o_inK g2) (o_inB g2) rfl ?_
      cases h
      exact go_iret rfl (trivial) ⟨rfl, rfl, rfl, rfl, rfl⟩
    have lo16 : ∀ n s, lp (fun s => m_77_b16 a0 a1 Rf G s.1 s.2) n s = some q16 → (fun s => ∀ (z3_16 : Option ai_V) (z4_16 : Option ai_V), ai_Go si_t (20, false, 0, cd_77) (ai_Cl si_t si_ms e) (sp_Q (some (.inl r)) I1 J Rf G) 16 [some (.inr (.inr a0)), some (.inr (.inr a1)), some (.inl s.1), z3_16, z4_16] [] (0, 0) s.2 J Rf G) s := lp_go (fun s x16 hx hk16 => by
      obtain ⟨v2_16, I_16⟩ := s
      intro z3_16 z4_16
      have h : m_77_b16 a0 a1 Rf G v2_16 I_16 = some x16 := hx
      clear hx
      show ai_Go si_t (20, false, 0, cd_77) (ai_Cl si_t si_ms e) (sp_Q (some (.inl r)) I1 J Rf G) 16 [some (.inr (.inr a0)), some (.inr (.inr a1)), some (.inl v2_16), z3_16, z4_16] [] (0, 0) I_16 J Rf G
      unfold m_77_b16 at h
      refine go_iload_n (pc' := 17) rfl rfl rfl ?_
      refine go_aload_n (pc' := 18) rfl rfl rfl ?_
      obtain ⟨g3, h⟩ := o_gE h
      obtain ⟨r_18, q_18, h⟩ := o_b1E h
      refine go_callV (pc' := 21) (B' := (0, 0)) (st' := [.inl r_18, .inl v2_16]) rfl rfl (Or.inl (by decide)) rfl rfl (o_kdE g3) (md_118 (by omega) (o_kdE g3) q_18) rfl rfl rfl ?_
      refine go_icmp_ge (pt := 87) (pc' := 24) rfl rfl rfl (fun h21 => ?_) (fun h21 => ?_)
      · replace h := o_t h21 h
        exact ex16_87 _ (some (.inl v2_16)) z3_16 z4_16 (lp_exitE h hk16)
      · replace h := o_f h21 h
        refine go_bipush (pc' := 26) (v := (nI 8)) rfl rfl rfl ?_
        refine go_istore_n (pc' := 27) (lo' := [some (.inr (.inr a0)), some (.inr (.inr a1)), some (.inl v2_16), some (.inl (nI 8)), z4_16]) rfl rfl rfl ?_
        refine go_iconst (pc' := 28) (v := (nI 0)) rfl rfl rfl ?_
        refine go_istore (pc' := 30) (lo' := [some (.inr (.inr a0)), some (.inr (.inr a1)), some (.inl v2_16), some (.inl (nI 8)), some (.inl (nI 0))]) rfl rfl rfl ?_
        obtain ⟨q30, hl30, hc30_77⟩ := o_s1E h
        have ex30_77 : ∀ (w3_77 : Int32) (z4_x77 : Option ai_V), w3_77 = q30 → ai_Go si_t (20, false, 0, cd_77) (ai_Cl si_t si_ms e) (sp_Q (some (.inl r)) I1 J Rf G) 77 [some (.inr (.inr a0)), some (.inr (.inr a1)), some (.inl v2_16), some (.inl w3_77), z4_x77] [] (0, 0) I_16 J Rf G := by
          intro w3_77 z4_x77 hq
          have h : m_77_x30_77 a1 G v2_16 I_16 w3_77 = some x16 := hc30_77 w3_77 hq.symm
          unfold m_77_x30_77 at h
          refine go_aload_n (pc' := 78) rfl rfl rfl ?_
          refine go_iload_n (pc' := 79) rfl rfl rfl ?_
          refine go_iload_n (pc' := 80) rfl rfl rfl ?_
          obtain ⟨g4, h⟩ := o_gE h
          obtain ⟨I_80, eI_80, h⟩ := o_b1E h
          refine go_iastore (pc' := 81) rfl (o_inK g4) (o_inB g4) rfl ?_
          refine go_ndMI eI_80 ?_
          obtain ⟨x2_81, ex2_81, h⟩ := o_b1E h
          refine go_iincE (pc' := 84) rfl rfl (y := (nI 1)) rfl ex2_81 (lo' := [some (.inr (.inr a0)), some (.inr (.inr a1)), some (.inl x2_81), some (.inl w3_77), z4_x77]) rfl rfl ?_
          refine go_goto (pc' := 16) rfl rfl ?_
          exact (lp_backE h hk16 (some (.inl w3_77)) z4_x77 :)
        have lo30 : ∀ n s, lp (fun s => m_77_b30 a0 a1 Rf G v2_16 I_16 s.1 s.2) n s = some q30 → (fun s => ai_Go si_t (20, false, 0, cd_77) (ai_Cl si_t si_ms e) (sp_Q (some (.inl r)) I1 J Rf G) 30 [some (.inr (.inr a0)), some (.inr (.inr a1)), some (.inl v2_16), some (.inl s.1), some (.inl s.2)] [] (0, 0) I_16 J Rf G) s := lp_go (fun s x30 hx hk30 => by
          obtain ⟨v3_30, v4_30⟩ := s
          have h : m_77_b30 a0 a1 Rf G v2_16 I_16 v3_30 v4_30 = some x30 := hx
          clear hx
          show ai_Go si_t (20, false, 0, cd_77) (ai_Cl si_t si_ms e) (sp_Q (some (.inl r)) I1 J Rf G) 30 [some (.inr (.inr a0)), some (.inr (.inr a1)), some (.inl v2_16), some (.inl v3_30), some (.inl v4_30)] [] (0, 0) I_16 J Rf G
          unfold m_77_b30 at h
          refine go_iload (pc' := 32) rfl rfl rfl ?_
          refine go_aload_n (pc' := 33) rfl rfl rfl ?_
          refine go_getI (pc' := 36) rfl rfl (by decide) (by decide) (o_kdE g3) rfl ?_
          refine go_icmp_ge (pt := 77) (pc' := 39) rfl rfl rfl (fun h36 => ?_) (fun h36 => ?_)
          · replace h := o_t h36 h
            exact ex30_77 _ (some (.inl v4_30)) (lp_exitE h hk30)
          · replace h := o_f h36 h
            refine go_iload_n (pc' := 40) rfl rfl rfl ?_
            refine go_aload_n (pc' := 41) rfl rfl rfl ?_
            refine go_getR (pc' := 44) rfl rfl (o_kdE g3) rfl ?_
            refine go_iload (pc' := 46) rfl rfl rfl ?_
            obtain ⟨g5, h⟩ := o_gE h
            refine go_iaload (pc' := 47) rfl (o_inK g5) (o_inB g5) rfl ?_
            refine go_iand (pc' := 48) rfl rfl ?_
            refine go_if_eq (pt := 71) (pc' := 51) rfl rfl rfl (fun h48 => ?_) (fun h48 => ?_)
            · replace h := o_t h48 h
              obtain ⟨x4_71, ex4_71, h⟩ := o_b1E h
              refine go_iincE (pc' := 74) rfl rfl (y := (nI 1)) rfl ex4_71 (lo' := [some (.inr (.inr a0)), some (.inr (.inr a1)), some (.inl v2_16), some (.inl v3_30), some (.inl x4_71)]) rfl rfl ?_
              refine go_goto (pc' := 30) rfl rfl ?_
              exact (lp_backE h hk30 :)
            · replace h := o_f h48 h
              refine go_iload_n (pc' := 52) rfl rfl rfl ?_
              refine go_aload_n (pc' := 53) rfl rfl rfl ?_
              refine go_iload_n (pc' := 54) rfl rfl rfl ?_
              refine go_aload_n (pc' := 55) rfl rfl rfl ?_
              refine go_getR (pc' := 58) rfl rfl (o_kdE g3) rfl ?_
              refine go_iload (pc' := 60) rfl rfl rfl ?_
              obtain ⟨g6, h⟩ := o_gE h
              refine go_iaload (pc' := 61) rfl (o_inK g6) (o_inB g6) rfl ?_
              refine go_iconst (pc' := 62) (v := (-1 : Int32)) rfl rfl rfl ?_
              refine go_ixor (pc' := 63) rfl rfl ?_
              refine go_iand (pc' := 64) rfl rfl ?_
              obtain ⟨g7, h⟩ := o_gE h
              refine go_iaload (pc' := 65) rfl (o_inK g7) (o_inB g7) rfl ?_
              refine go_iconst (pc' := 66) (v := (nI 1)) rfl rfl rfl ?_
              refine go_iadd (pc' := 67) rfl rfl ?_
              refine go_min (pc' := 70) rfl rfl (Nat.le_of_ble_eq_true rfl) rfl ?_
              obtain ⟨r_67, er_67, h⟩ := o_b1E h
              refine go_ndI er_67 ?_
              refine go_istore_n (pc' := 71) (lo' := [some (.inr (.inr a0)), some (.inr (.inr a1)), some (.inl v2_16), some (.inl r_67), some (.inl v4_30)]) rfl rfl rfl ?_
              obtain ⟨x4_71, ex4_71, h⟩ := o_b1E h
              refine go_iincE (pc' := 74) rfl rfl (y := (nI 1)) rfl ex4_71 (lo' := [some (.inr (.inr a0)), some (.inr (.inr a1)), some (.inl v2_16), some (.inl r_67), some (.inl x4_71)]) rfl rfl ?_
              refine go_goto (pc' := 30) rfl rfl ?_
              exact (lp_backE h hk30 :))
        exact lo30 _ ((nI 8), (nI 0)) hl30 )
    exact lo16 _ ((nI 1), I_13) hl16 none none
  · replace h := o_f h4 h
    refine go_bipush (pc' := 9) (v := (-2 : Int32)) rfl rfl rfl ?_
    cases h
    exact go_iret rfl (trivial) ⟨rfl, rfl, rfl, rfl, rfl⟩
def m_78_x2_72 (a0 : Nat) (a1 : Nat) (G : ai_G) (Ix_72 : ai_I) : Option (Int32 × ai_I) :=
  o_g (o_kd G a0 8) (o_b1 (m_119 a0 Ix_72) (fun r_74 => o_g (o_in G 13 a1 r_74) (some (Ix_72 a1 r_74.toNatClampNeg, Ix_72))))
def m_78_x15_62 (a1 : Nat) (G : ai_G) (v2_2 : Int32) (I_2 : ai_I) (w3_62 : Int32) : Option ((Int32 × ai_I) ⊕ ai_I) :=
  o_g (o_in G 13 a1 v2_2) (o_b1 (some (va_up I_2 a1 (va_up (I_2 a1) v2_2.toNatClampNeg w3_62))) (fun I_65 => o_b1 (some (v2_2 + (nI 1))) (fun x2_66 => some (Sum.inl (x2_66, I_65)))))
def m_78_b15 (a0 : Nat) (a1 : Nat) (Rf : ai_R) (G : ai_G) (v2_2 : Int32) (I_2 : ai_I) (v3_15 : Int32) (v4_15 : Int32) : Option ((Int32 × Int32) ⊕ Int32) :=
  if (I_2 a0 2) ≤ v4_15 then (some (Sum.inr v3_15)) else (o_g (o_in G 13 (Rf a0 5) v4_15) (if ((I_2 (Rf a0 5) v4_15.toNatClampNeg) &&& (v2_2 ^^^ (-1 : Int32))) = 0 then (o_g (o_in G 13 (Rf a0 5) v4_15) (o_g (o_in G 13 a1 (v2_2 ^^^ (I_2 (Rf a0 5) v4_15.toNatClampNeg))) (o_b1 (some (if v3_15 < ((I_2 a1 (v2_2 ^^^ (I_2 (Rf a0 5) v4_15.toNatClampNeg)).toNatClampNeg) + (nI 1)) then ((I_2 a1 (v2_2 ^^^ (I_2 (Rf a0 5) v4_15.toNatClampNeg)).toNatClampNeg) + (nI 1)) else v3_15)) (fun r_52 => o_b1 (some (v4_15 + (nI 1))) (fun x4_56 => some (Sum.inl (r_52, x4_56))))))) else (o_b1 (some (v4_15 + (nI 1))) (fun x4_56 => some (Sum.inl (v3_15, x4_56))))))
def m_78_b2 (a0 : Nat) (a1 : Nat) (Rf : ai_R) (G : ai_G) (v2_2 : Int32) (I_2 : ai_I) : Option ((Int32 × ai_I) ⊕ ai_I) :=
  o_g (o_kd G a0 8) (o_b1 (m_118 a0 I_2) (fun r_4 => if r_4 ≤ v2_2 then (some (Sum.inr I_2)) else (o_s1 (lp (fun s => m_78_b15 a0 a1 Rf G v2_2 I_2 s.1 s.2) o_N ((nI 0), (nI 0))) (fun t => m_78_x15_62 a1 G v2_2 I_2 t))))
/-- PricedBases$Shape.packs(LPricedBases$Valuation;[I)I -/
def m_78 (a0 : Nat) (a1 : Nat) (I : ai_I) (Rf : ai_R) (G : ai_G) : Option (Int32 × ai_I) :=
  o_s1 (lp (fun s => m_78_b2 a0 a1 Rf G s.1 s.2) o_N ((nI 0), I)) (fun t => m_78_x2_72 a0 a1 G t)
theorem md_78 {d : Nat} {I : ai_I} {J : ai_J} {Rf : ai_R} {G : ai_G} {a0 : Nat} {a1 : Nat} {r : Int32} {I1 : ai_I} (hd : 3 ≤ d) (h : m_78 a0 a1 I Rf G = some (r, I1)) : ai_Cl si_t si_ms d 78 [.inr (.inr a0), .inr (.inr a1)] I J Rf G (some (.inl r)) I1 J Rf G := by
  obtain ⟨e, rfl⟩ : ∃ e, d = e + 1 := ⟨d - 1, by omega⟩
  unfold m_78 at h
  refine sp_in (lo := [some (.inr (.inr a0)), some (.inr (.inr a1)), none, none, none]) (B := (0, 0)) rfl (Nat.le_of_ble_eq_true rfl) rfl rfl ?_
  refine go_iconst (pc' := 1) (v := (nI 0)) rfl rfl rfl ?_
  refine go_istore_n (pc' := 2) (lo' := [some (.inr (.inr a0)), some (.inr (.inr a1)), some (.inl (nI 0)), none, none]) rfl rfl rfl ?_
  obtain ⟨q2, hl2, hc2_72⟩ := o_s1E h
  have ex2_72 : ∀ (Ix_72 : ai_I) (z2_x72 : Option ai_V) (z3_x72 : Option ai_V) (z4_x72 : Option ai_V), Ix_72 = q2 → ai_Go si_t (20, false, 0, cd_78) (ai_Cl si_t si_ms e) (sp_Q (some (.inl r)) I1 J Rf G) 72 [some (.inr (.inr a0)), some (.inr (.inr a1)), z2_x72, z3_x72, z4_x72] [] (0, 0) Ix_72 J Rf G := by
    intro Ix_72 z2_x72 z3_x72 z4_x72 hq
    have h : m_78_x2_72 a0 a1 G Ix_72 = some (r, I1) := hc2_72 Ix_72 hq.symm
    unfold m_78_x2_72 at h
    refine go_aload_n (pc' := 73) rfl rfl rfl ?_
    refine go_aload_n (pc' := 74) rfl rfl rfl ?_
    obtain ⟨g0, h⟩ := o_gE h
    obtain ⟨r_74, q_74, h⟩ := o_b1E h
    refine go_callV (pc' := 77) (B' := (0, 0)) (st' := [.inl r_74, .inr (.inr a1)]) rfl rfl (Or.inl (by decide)) rfl rfl (o_kdE g0) (md_119 (by omega) (o_kdE g0) q_74) rfl rfl rfl ?_
    obtain ⟨g1, h⟩ := o_gE h
    refine go_iaload (pc' := 78) rfl (o_inK g1) (o_inB g1) rfl ?_
    cases h
    exact go_iret rfl (trivial) ⟨rfl, rfl, rfl, rfl, rfl⟩
  have lo2 : ∀ n s, lp (fun s => m_78_b2 a0 a1 Rf G s.1 s.2) n s = some q2 → (fun s => ∀ (z3_2 : Option ai_V) (z4_2 : Option ai_V), ai_Go si_t (20, false, 0, cd_78) (ai_Cl si_t si_ms e) (sp_Q (some (.inl r)) I1 J Rf G) 2 [some (.inr (.inr a0)), some (.inr (.inr a1)), some (.inl s.1), z3_2, z4_2] [] (0, 0) s.2 J Rf G) s := lp_go (fun s x2 hx hk2 => by
    obtain ⟨v2_2, I_2⟩ := s
    intro z3_2 z4_2
    have h : m_78_b2 a0 a1 Rf G v2_2 I_2 = some x2 := hx
    clear hx
    show ai_Go si_t (20, false, 0, cd_78) (ai_Cl si_t si_ms e) (sp_Q (some (.inl r)) I1 J Rf G) 2 [some (.inr (.inr a0)), some (.inr (.inr a1)), some (.inl v2_2), z3_2, z4_2] [] (0, 0) I_2 J Rf G
    unfold m_78_b2 at h
    refine go_iload_n (pc' := 3) rfl rfl rfl ?_
    refine go_aload_n (pc' := 4) rfl rfl rfl ?_
    obtain ⟨g2, h⟩ := o_gE h
    obtain ⟨r_4, q_4, h⟩ := o_b1E h
    refine go_callV (pc' := 7) (B' := (0, 0)) (st' := [.inl r_4, .inl v2_2]) rfl rfl (Or.inl (by decide)) rfl rfl (o_kdE g2) (md_118 (by omega) (o_kdE g2) q_4) rfl rfl rfl ?_
    refine go_icmp_ge (pt := 72) (pc' := 10) rfl rfl rfl (fun h7 => ?_) (fun h7 => ?_)
    · replace h := o_t h7 h
      exact ex2_72 _ (some (.inl v2_2)) z3_2 z4_2 (lp_exitE h hk2)
    · replace h := o_f h7 h
      refine go_iconst (pc' := 11) (v := (nI 0)) rfl rfl rfl ?_
      refine go_istore_n (pc' := 12) (lo' := [some (.inr (.inr a0)), some (.inr (.inr a1)), some (.inl v2_2), some (.inl (nI 0)), z4_2]) rfl rfl rfl ?_
      refine go_iconst (pc' := 13) (v := (nI 0)) rfl rfl rfl ?_
      refine go_istore (pc' := 15) (lo' := [some (.inr (.inr a0)), some (.inr (.inr a1)), some (.inl v2_2), some (.inl (nI 0)), some (.inl (nI 0))]) rfl rfl rfl ?_
      obtain ⟨q15, hl15, hc15_62⟩ := o_s1E h
      have ex15_62 : ∀ (w3_62 : Int32) (z4_x62 : Option ai_V), w3_62 = q15 → ai_Go si_t (20, false, 0, cd_78) (ai_Cl si_t si_ms e) (sp_Q (some (.inl r)) I1 J Rf G) 62 [some (.inr (.inr a0)), some (.inr (.inr a1)), some (.inl v2_2), some (.inl w3_62), z4_x62] [] (0, 0) I_2 J Rf G := by
        intro w3_62 z4_x62 hq
        have h : m_78_x15_62 a1 G v2_2 I_2 w3_62 = some x2 := hc15_62 w3_62 hq.symm
        unfold m_78_x15_62 at h
        refine go_aload_n (pc' := 63) rfl rfl rfl ?_
        refine go_iload_n (pc' := 64) rfl rfl rfl ?_
        refine go_iload_n (pc' := 65) rfl rfl rfl ?_
        obtain ⟨g3, h⟩ := o_gE h
        obtain ⟨I_65, eI_65, h⟩ := o_b1E h
        refine go_iastore (pc' := 66) rfl (o_inK g3) (o_inB g3) rfl ?_
        refine go_ndMI eI_65 ?_
        obtain ⟨x2_66, ex2_66, h⟩ := o_b1E h
        refine go_iincE (pc' := 69) rfl rfl (y := (nI 1)) rfl ex2_66 (lo' := [some (.inr (.inr a0)), some (.inr (.inr a1)), some (.inl x2_66), some (.inl w3_62), z4_x62]) rfl rfl ?_
        refine go_goto (pc' := 2) rfl rfl ?_
        exact (lp_backE h hk2 (some (.inl w3_62)) z4_x62 :)
      have lo15 : ∀ n s, lp (fun s => m_78_b15 a0 a1 Rf G v2_2 I_2 s.1 s.2) n s = some q15 → (fun s => ai_Go si_t (20, false, 0, cd_78) (ai_Cl si_t si_ms e) (sp_Q (some (.inl r)) I1 J Rf G) 15 [some (.inr (.inr a0)), some (.inr (.inr a1)), some (.inl v2_2), some (.inl s.1), some (.inl s.2)] [] (0, 0) I_2 J Rf G) s := lp_go (fun s x15 hx hk15 => by
        obtain ⟨v3_15, v4_15⟩ := s
        have h : m_78_b15 a0 a1 Rf G v2_2 I_2 v3_15 v4_15 = some x15 := hx
        clear hx
        show ai_Go si_t (20, false, 0, cd_78) (ai_Cl si_t si_ms e) (sp_Q (some (.inl r)) I1 J Rf G) 15 [some (.inr (.inr a0)), some (.inr (.inr a1)), some (.inl v2_2), some (.inl v3_15), some (.inl v4_15)] [] (0, 0) I_2 J Rf G
        unfold m_78_b15 at h
        refine go_iload (pc' := 17) rfl rfl rfl ?_
        refine go_aload_n (pc' := 18) rfl rfl rfl ?_
        refine go_getI (pc' := 21) rfl rfl (by decide) (by decide) (o_kdE g2) rfl ?_
        refine go_icmp_ge (pt := 62) (pc' := 24) rfl rfl rfl (fun h21 => ?_) (fun h21 => ?_)
        · replace h := o_t h21 h
          exact ex15_62 _ (some (.inl v4_15)) (lp_exitE h hk15)
        · replace h := o_f h21 h
          refine go_aload_n (pc' := 25) rfl rfl rfl ?_
          refine go_getR (pc' := 28) rfl rfl (o_kdE g2) rfl ?_
          refine go_iload (pc' := 30) rfl rfl rfl ?_
          obtain ⟨g4, h⟩ := o_gE h
          refine go_iaload (pc' := 31) rfl (o_inK g4) (o_inB g4) rfl ?_
          refine go_iload_n (pc' := 32) rfl rfl rfl ?_
          refine go_iconst (pc' := 33) (v := (-1 : Int32)) rfl rfl rfl ?_
          refine go_ixor (pc' := 34) rfl rfl ?_
          refine go_iand (pc' := 35) rfl rfl ?_
          refine go_if_ne (pt := 56) (pc' := 38) rfl rfl rfl (fun h35 => ?_) (fun h35 => ?_)
          · replace h := o_f h35 h
            obtain ⟨x4_56, ex4_56, h⟩ := o_b1E h
            refine go_iincE (pc' := 59) rfl rfl (y := (nI 1)) rfl ex4_56 (lo' := [some (.inr (.inr a0)), some (.inr (.inr a1)), some (.inl v2_2), some (.inl v3_15), some (.inl x4_56)]) rfl rfl ?_
            refine go_goto (pc' := 15) rfl rfl ?_
            exact (lp_backE h hk15 :)
          · replace h := o_t (Decidable.of_not_not h35) h
            refine go_iload_n (pc' := 39) rfl rfl rfl ?_
            refine go_aload_n (pc' := 40) rfl rfl rfl ?_
            refine go_iload_n (pc' := 41) rfl rfl rfl ?_
            refine go_aload_n (pc' := 42) rfl rfl rfl ?_
            refine go_getR (pc' := 45) rfl rfl (o_kdE g2) rfl ?_
            refine go_iload (pc' := 47) rfl rfl rfl ?_
            obtain ⟨g5, h⟩ := o_gE h
            refine go_iaload (pc' := 48) rfl (o_inK g5) (o_inB g5) rfl ?_
            refine go_ixor (pc' := 49) rfl rfl ?_
            obtain ⟨g6, h⟩ := o_gE h
            refine go_iaload (pc' := 50) rfl (o_inK g6) (o_inB g6) rfl ?_
            refine go_iconst (pc' := 51) (v := (nI 1)) rfl rfl rfl ?_
            refine go_iadd (pc' := 52) rfl rfl ?_
            refine go_max (pc' := 55) rfl rfl (Nat.le_of_ble_eq_true rfl) rfl ?_
            obtain ⟨r_52, er_52, h⟩ := o_b1E h
            refine go_ndI er_52 ?_
            refine go_istore_n (pc' := 56) (lo' := [some (.inr (.inr a0)), some (.inr (.inr a1)), some (.inl v2_2), some (.inl r_52), some (.inl v4_15)]) rfl rfl rfl ?_
            obtain ⟨x4_56, ex4_56, h⟩ := o_b1E h
            refine go_iincE (pc' := 59) rfl rfl (y := (nI 1)) rfl ex4_56 (lo' := [some (.inr (.inr a0)), some (.inr (.inr a1)), some (.inl v2_2), some (.inl r_52), some (.inl x4_56)]) rfl rfl ?_
            refine go_goto (pc' := 15) rfl rfl ?_
            exact (lp_backE h hk15 :))
      exact lo15 _ ((nI 0), (nI 0)) hl15 )
  exact lo2 _ ((nI 0), I) hl2 none none
def m_80_x5_22 (w2_22 : Int64) : Option (Int64) :=
  some w2_22
def m_80_b5 (a0 : Int32) (a1 : Int32) (v2_5 : Int64) (v4_5 : Int32) : Option ((Int64 × Int32) ⊕ Int64) :=
  if a1 ≤ v4_5 then (some (Sum.inr v2_5)) else (o_b1 (some (v2_5 * a0.toInt64)) (fun x2_15 => o_b1 (some (v4_5 + (nI 1))) (fun x4_16 => some (Sum.inl (x2_15, x4_16)))))
/-- PricedBases$Shape.power(II)J -/
def m_80 (a0 : Int32) (a1 : Int32) : Option (Int64) :=
  o_s1 (lp (fun s => m_80_b5 a0 a1 s.1 s.2) o_N ((1 : Int64), (nI 0))) (fun t => m_80_x5_22 t)
theorem md_80 {d : Nat} {I : ai_I} {J : ai_J} {Rf : ai_R} {G : ai_G} {a0 : Int32} {a1 : Int32} {r : Int64} (hd : 1 ≤ d) (h : m_80 a0 a1 = some r) : ai_Cl si_t si_ms d 80 [.inl a0, .inl a1] I J Rf G (some (.inr (.inl r))) I J Rf G := by
  obtain ⟨e, rfl⟩ : ∃ e, d = e + 1 := ⟨d - 1, by omega⟩
  unfold m_80 at h
  refine sp_in (lo := [some (.inl a0), some (.inl a1), none, none, none]) (B := (0, 0)) rfl (Nat.le_of_ble_eq_true rfl) rfl rfl ?_
  refine go_lconst (pc' := 1) (v := (1 : Int64)) rfl rfl rfl ?_
  refine go_lstore_n (pc' := 2) (lo' := [some (.inl a0), some (.inl a1), some (.inr (.inl (1 : Int64))), none, none]) rfl rfl rfl ?_
  refine go_iconst (pc' := 3) (v := (nI 0)) rfl rfl rfl ?_
  refine go_istore (pc' := 5) (lo' := [some (.inl a0), some (.inl a1), some (.inr (.inl (1 : Int64))), none, some (.inl (nI 0))]) rfl rfl rfl ?_
  obtain ⟨q5, hl5, hc5_22⟩ := o_s1E h
  have ex5_22 : ∀ (w2_22 : Int64) (z4_x22 : Option ai_V), w2_22 = q5 → ai_Go si_t (20, false, 1, cd_80) (ai_Cl si_t si_ms e) (sp_Q (some (.inr (.inl r))) I J Rf G) 22 [some (.inl a0), some (.inl a1), some (.inr (.inl w2_22)), none, z4_x22] [] (0, 0) I J Rf G := by
    intro w2_22 z4_x22 hq
    have h : m_80_x5_22 w2_22 = some r := hc5_22 w2_22 hq.symm
    unfold m_80_x5_22 at h
    refine go_lload_n (pc' := 23) rfl rfl rfl ?_
    cases h
    exact go_lret rfl (rfl) ⟨rfl, rfl, rfl, rfl, rfl⟩
  have lo5 : ∀ n s, lp (fun s => m_80_b5 a0 a1 s.1 s.2) n s = some q5 → (fun s => ai_Go si_t (20, false, 1, cd_80) (ai_Cl si_t si_ms e) (sp_Q (some (.inr (.inl r))) I J Rf G) 5 [some (.inl a0), some (.inl a1), some (.inr (.inl s.1)), none, some (.inl s.2)] [] (0, 0) I J Rf G) s := lp_go (fun s x5 hx hk5 => by
    obtain ⟨v2_5, v4_5⟩ := s
    have h : m_80_b5 a0 a1 v2_5 v4_5 = some x5 := hx
    clear hx
    show ai_Go si_t (20, false, 1, cd_80) (ai_Cl si_t si_ms e) (sp_Q (some (.inr (.inl r))) I J Rf G) 5 [some (.inl a0), some (.inl a1), some (.inr (.inl v2_5)), none, some (.inl v4_5)] [] (0, 0) I J Rf G
    unfold m_80_b5 at h
    refine go_iload (pc' := 7) rfl rfl rfl ?_
    refine go_iload_n (pc' := 8) rfl rfl rfl ?_
    refine go_icmp_ge (pt := 22) (pc' := 11) rfl rfl rfl (fun h8 => ?_) (fun h8 => ?_)
    · replace h := o_t h8 h
      exact ex5_22 _ (some (.inl v4_5)) (lp_exitE h hk5)
    · replace h := o_f h8 h
      refine go_lload_n (pc' := 12) rfl rfl rfl ?_
      refine go_iload_n (pc' := 13) rfl rfl rfl ?_
      refine go_i2l (pc' := 14) rfl rfl ?_
      refine go_lmul (pc' := 15) rfl rfl ?_
      obtain ⟨x2_15, ex2_15, h⟩ := o_b1E h
      refine go_ndJ ex2_15 ?_
      refine go_lstore_n (pc' := 16) (lo' := [some (.inl a0), some (.inl a1), some (.inr (.inl x2_15)), none, some (.inl v4_5)]) rfl rfl rfl ?_
      obtain ⟨x4_16, ex4_16, h⟩ := o_b1E h
      refine go_iincE (pc' := 19) rfl rfl (y := (nI 1)) rfl ex4_16 (lo' := [some (.inl a0), some (.inl a1), some (.inr (.inl x2_15)), none, some (.inl x4_16)]) rfl rfl ?_
      refine go_goto (pc' := 5) rfl rfl ?_
      exact (lp_backE h hk5 :))
  exact lo5 _ ((1 : Int64), (nI 0)) hl5 
def m_79_x5_56 (w3_56 : Int64) : Option (Int64) :=
  some w3_56
def m_79_b5 (a0 : Nat) (a1 : Int32) (a2 : Int32) (I : ai_I) (Rf : ai_R) (G : ai_G) (v3_5 : Int64) (v5_5 : Int32) : Option ((Int64 × Int32) ⊕ Int64) :=
  o_g (o_kd G a0 8) (o_b1 (m_118 a0 I) (fun r_8 => if r_8 ≤ v5_5 then (some (Sum.inr v3_5)) else (o_g (o_in G 13 (Rf a0 4) v5_5) (o_b1 (some (I (Rf a0 4) v5_5.toNatClampNeg)) (fun x6_21 => o_b1 (m_80 a1 ((I a0 1) - x6_21)) (fun r_32 => o_b1 (m_331 v5_5) (fun r_38 => o_b1 (m_80 a2 (r_38 - x6_21)) (fun r_44 => o_b1 (some (v3_5 + (r_32 * r_44))) (fun x3_49 => o_b1 (some (v5_5 + (nI 1))) (fun x5_50 => some (Sum.inl (x3_49, x5_50))))))))))))
/-- PricedBases$Shape.tutteSum(LPricedBases$Valuation;II)J -/
def m_79 (a0 : Nat) (a1 : Int32) (a2 : Int32) (I : ai_I) (Rf : ai_R) (G : ai_G) : Option (Int64) :=
  o_s1 (lp (fun s => m_79_b5 a0 a1 a2 I Rf G s.1 s.2) o_N ((0 : Int64), (nI 0))) (fun t => m_79_x5_56 t)
theorem md_79 {d : Nat} {I : ai_I} {J : ai_J} {Rf : ai_R} {G : ai_G} {a0 : Nat} {a1 : Int32} {a2 : Int32} {r : Int64} (hd : 2 ≤ d) (h : m_79 a0 a1 a2 I Rf G = some r) : ai_Cl si_t si_ms d 79 [.inr (.inr a0), .inl a1, .inl a2] I J Rf G (some (.inr (.inl r))) I J Rf G := by
  obtain ⟨e, rfl⟩ : ∃ e, d = e + 1 := ⟨d - 1, by omega⟩
  unfold m_79 at h
  refine sp_in (lo := [some (.inr (.inr a0)), some (.inl a1), some (.inl a2), none, none, none, none]) (B := (0, 0)) rfl (Nat.le_of_ble_eq_true rfl) rfl rfl ?_
  refine go_lconst (pc' := 1) (v := (0 : Int64)) rfl rfl rfl ?_
  refine go_lstore_n (pc' := 2) (lo' := [some (.inr (.inr a0)), some (.inl a1), some (.inl a2), some (.inr (.inl (0 : Int64))), none, none, none]) rfl rfl rfl ?_
  refine go_iconst (pc' := 3) (v := (nI 0)) rfl rfl rfl ?_
  refine go_istore (pc' := 5) (lo' := [some (.inr (.inr a0)), some (.inl a1), some (.inl a2), some (.inr (.inl (0 : Int64))), none, some (.inl (nI 0)), none]) rfl rfl rfl ?_
  obtain ⟨q5, hl5, hc5_56⟩ := o_s1E h
  have ex5_56 : ∀ (w3_56 : Int64) (z5_x56 : Option ai_V) (z6_x56 : Option ai_V), w3_56 = q5 → ai_Go si_t (20, false, 1, cd_79) (ai_Cl si_t si_ms e) (sp_Q (some (.inr (.inl r))) I J Rf G) 56 [some (.inr (.inr a0)), some (.inl a1), some (.inl a2), some (.inr (.inl w3_56)), none, z5_x56, z6_x56] [] (0, 0) I J Rf G := by
    intro w3_56 z5_x56 z6_x56 hq
    have h : m_79_x5_56 w3_56 = some r := hc5_56 w3_56 hq.symm
    unfold m_79_x5_56 at h
    refine go_lload_n (pc' := 57) rfl rfl rfl ?_
    cases h
    exact go_lret rfl (rfl) ⟨rfl, rfl, rfl, rfl, rfl⟩
  have lo5 : ∀ n s, lp (fun s => m_79_b5 a0 a1 a2 I Rf G s.1 s.2) n s = some q5 → (fun s => ∀ (z6_5 : Option ai_V), ai_Go si_t (20, false, 1, cd_79) (ai_Cl si_t si_ms e) (sp_Q (some (.inr (.inl r))) I J Rf G) 5 [some (.inr (.inr a0)), some (.inl a1), some (.inl a2), some (.inr (.inl s.1)), none, some (.inl s.2), z6_5] [] (0, 0) I J Rf G) s := lp_go (fun s x5 hx hk5 => by
    obtain ⟨v3_5, v5_5⟩ := s
    intro z6_5
    have h : m_79_b5 a0 a1 a2 I Rf G v3_5 v5_5 = some x5 := hx
    clear hx
    show ai_Go si_t (20, false, 1, cd_79) (ai_Cl si_t si_ms e) (sp_Q (some (.inr (.inl r))) I J Rf G) 5 [some (.inr (.inr a0)), some (.inl a1), some (.inl a2), some (.inr (.inl v3_5)), none, some (.inl v5_5), z6_5] [] (0, 0) I J Rf G
    unfold m_79_b5 at h
    refine go_iload (pc' := 7) rfl rfl rfl ?_
    refine go_aload_n (pc' := 8) rfl rfl rfl ?_
    obtain ⟨g0, h⟩ := o_gE h
    obtain ⟨r_8, q_8, h⟩ := o_b1E h
    refine go_callV (pc' := 11) (B' := (0, 0)) (st' := [.inl r_8, .inl v5_5]) rfl rfl (Or.inl (by decide)) rfl rfl (o_kdE g0) (md_118 (by omega) (o_kdE g0) q_8) rfl rfl rfl ?_
    refine go_icmp_ge (pt := 56) (pc' := 14) rfl rfl rfl (fun h11 => ?_) (fun h11 => ?_)
    · replace h := o_t h11 h
      exact ex5_56 _ (some (.inl v5_5)) z6_5 (lp_exitE h hk5)
    · replace h := o_f h11 h
      refine go_aload_n (pc' := 15) rfl rfl rfl ?_
      refine go_getR (pc' := 18) rfl rfl (o_kdE g0) rfl ?_
      refine go_iload (pc' := 20) rfl rfl rfl ?_
      obtain ⟨g1, h⟩ := o_gE h
      refine go_iaload (pc' := 21) rfl (o_inK g1) (o_inB g1) rfl ?_
      obtain ⟨x6_21, ex6_21, h⟩ := o_b1E h
      refine go_ndI ex6_21 ?_
      refine go_istore (pc' := 23) (lo' := [some (.inr (.inr a0)), some (.inl a1), some (.inl a2), some (.inr (.inl v3_5)), none, some (.inl v5_5), some (.inl x6_21)]) rfl rfl rfl ?_
      refine go_lload_n (pc' := 24) rfl rfl rfl ?_
      refine go_iload_n (pc' := 25) rfl rfl rfl ?_
      refine go_aload_n (pc' := 26) rfl rfl rfl ?_
      refine go_getI (pc' := 29) rfl rfl (by decide) (by decide) (o_kdE g0) rfl ?_
      refine go_iload (pc' := 31) rfl rfl rfl ?_
      refine go_isub (pc' := 32) rfl rfl ?_
      obtain ⟨r_32, q_32, h⟩ := o_b1E h
      refine go_callS (pc' := 35) (B' := (0, 0)) (st' := [.inr (.inl r_32), .inr (.inl v3_5)]) rfl rfl (Or.inl (by decide)) rfl rfl trivial (md_80 (by omega) q_32) rfl rfl rfl ?_
      refine go_iload_n (pc' := 36) rfl rfl rfl ?_
      refine go_iload (pc' := 38) rfl rfl rfl ?_
      obtain ⟨r_38, q_38, h⟩ := o_b1E h
      refine go_callS (pc' := 41) (B' := (0, 0)) (st' := [.inl r_38, .inl a2, .inr (.inl r_32), .inr (.inl v3_5)]) rfl rfl (Or.inl (by decide)) rfl rfl trivial (md_331 (by omega) q_38) rfl rfl rfl ?_
      refine go_iload (pc' := 43) rfl rfl rfl ?_
      refine go_isub (pc' := 44) rfl rfl ?_
      obtain ⟨r_44, q_44, h⟩ := o_b1E h
      refine go_callS (pc' := 47) (B' := (0, 0)) (st' := [.inr (.inl r_44), .inr (.inl r_32), .inr (.inl v3_5)]) rfl rfl (Or.inl (by decide)) rfl rfl trivial (md_80 (by omega) q_44) rfl rfl rfl ?_
      refine go_lmul (pc' := 48) rfl rfl ?_
      refine go_ladd (pc' := 49) rfl rfl ?_
      obtain ⟨x3_49, ex3_49, h⟩ := o_b1E h
      refine go_ndJ ex3_49 ?_
      refine go_lstore_n (pc' := 50) (lo' := [some (.inr (.inr a0)), some (.inl a1), some (.inl a2), some (.inr (.inl x3_49)), none, some (.inl v5_5), some (.inl x6_21)]) rfl rfl rfl ?_
      obtain ⟨x5_50, ex5_50, h⟩ := o_b1E h
      refine go_iincE (pc' := 53) rfl rfl (y := (nI 1)) rfl ex5_50 (lo' := [some (.inr (.inr a0)), some (.inl a1), some (.inl a2), some (.inr (.inl x3_49)), none, some (.inl x5_50), some (.inl x6_21)]) rfl rfl ?_
      refine go_goto (pc' := 5) rfl rfl ?_
      exact (lp_backE h hk5 (some (.inl x6_21)) :))
  exact lo5 _ ((0 : Int64), (nI 0)) hl5 none
def m_81_x4_20 (w1_20 : Int64) : Option (Int64) :=
  some w1_20
def m_81_b4 (a0 : Int32) (v1_4 : Int64) (v3_4 : Int32) : Option ((Int64 × Int32) ⊕ Int64) :=
  if a0 < v3_4 then (some (Sum.inr v1_4)) else (o_b1 (some (v1_4 * v3_4.toInt64)) (fun x1_13 => o_b1 (some (v3_4 + (nI 1))) (fun x3_14 => some (Sum.inl (x1_13, x3_14)))))
/-- PricedBases$Shape.factorial(I)J -/
def m_81 (a0 : Int32) : Option (Int64) :=
  o_s1 (lp (fun s => m_81_b4 a0 s.1 s.2) o_N ((1 : Int64), (nI 2))) (fun t => m_81_x4_20 t)
theorem md_81 {d : Nat} {I : ai_I} {J : ai_J} {Rf : ai_R} {G : ai_G} {a0 : Int32} {r : Int64} (hd : 1 ≤ d) (h : m_81 a0 = some r) : ai_Cl si_t si_ms d 81 [.inl a0] I J Rf G (some (.inr (.inl r))) I J Rf G := by
  obtain ⟨e, rfl⟩ : ∃ e, d = e + 1 := ⟨d - 1, by omega⟩
  unfold m_81 at h
  refine sp_in (lo := [some (.inl a0), none, none, none]) (B := (0, 0)) rfl (Nat.le_of_ble_eq_true rfl) rfl rfl ?_
  refine go_lconst (pc' := 1) (v := (1 : Int64)) rfl rfl rfl ?_
  refine go_lstore_n (pc' := 2) (lo' := [some (.inl a0), some (.inr (.inl (1 : Int64))), none, none]) rfl rfl rfl ?_
  refine go_iconst (pc' := 3) (v := (nI 2)) rfl rfl rfl ?_
  refine go_istore_n (pc' := 4) (lo' := [some (.inl a0), some (.inr (.inl (1 : Int64))), none, some (.inl (nI 2))]) rfl rfl rfl ?_
  obtain ⟨q4, hl4, hc4_20⟩ := o_s1E h
  have ex4_20 : ∀ (w1_20 : Int64) (z3_x20 : Option ai_V), w1_20 = q4 → ai_Go si_t (20, false, 1, cd_81) (ai_Cl si_t si_ms e) (sp_Q (some (.inr (.inl r))) I J Rf G) 20 [some (.inl a0), some (.inr (.inl w1_20)), none, z3_x20] [] (0, 0) I J Rf G := by
    intro w1_20 z3_x20 hq
    have h : m_81_x4_20 w1_20 = some r := hc4_20 w1_20 hq.symm
    unfold m_81_x4_20 at h
    refine go_lload_n (pc' := 21) rfl rfl rfl ?_
    cases h
    exact go_lret rfl (rfl) ⟨rfl, rfl, rfl, rfl, rfl⟩
  have lo4 : ∀ n s, lp (fun s => m_81_b4 a0 s.1 s.2) n s = some q4 → (fun s => ai_Go si_t (20, false, 1, cd_81) (ai_Cl si_t si_ms e) (sp_Q (some (.inr (.inl r))) I J Rf G) 4 [some (.inl a0), some (.inr (.inl s.1)), none, some (.inl s.2)] [] (0, 0) I J Rf G) s := lp_go (fun s x4 hx hk4 => by
    obtain ⟨v1_4, v3_4⟩ := s
    have h : m_81_b4 a0 v1_4 v3_4 = some x4 := hx
    clear hx
    show ai_Go si_t (20, false, 1, cd_81) (ai_Cl si_t si_ms e) (sp_Q (some (.inr (.inl r))) I J Rf G) 4 [some (.inl a0), some (.inr (.inl v1_4)), none, some (.inl v3_4)] [] (0, 0) I J Rf G
    unfold m_81_b4 at h
    refine go_iload_n (pc' := 5) rfl rfl rfl ?_
    refine go_iload_n (pc' := 6) rfl rfl rfl ?_
    refine go_icmp_gt (pt := 20) (pc' := 9) rfl rfl rfl (fun h6 => ?_) (fun h6 => ?_)
    · replace h := o_t h6 h
      exact ex4_20 _ (some (.inl v3_4)) (lp_exitE h hk4)
    · replace h := o_f h6 h
      refine go_lload_n (pc' := 10) rfl rfl rfl ?_
      refine go_iload_n (pc' := 11) rfl rfl rfl ?_
      refine go_i2l (pc' := 12) rfl rfl ?_
      refine go_lmul (pc' := 13) rfl rfl ?_
      obtain ⟨x1_13, ex1_13, h⟩ := o_b1E h
      refine go_ndJ ex1_13 ?_
      refine go_lstore_n (pc' := 14) (lo' := [some (.inl a0), some (.inr (.inl x1_13)), none, some (.inl v3_4)]) rfl rfl rfl ?_
      obtain ⟨x3_14, ex3_14, h⟩ := o_b1E h
      refine go_iincE (pc' := 17) rfl rfl (y := (nI 1)) rfl ex3_14 (lo' := [some (.inl a0), some (.inr (.inl x1_13)), none, some (.inl x3_14)]) rfl rfl ?_
      refine go_goto (pc' := 4) rfl rfl ?_
      exact (lp_backE h hk4 :))
  exact lo4 _ ((1 : Int64), (nI 2)) hl4 
def m_82_x5_82 (w2_82 : Int64) : Option (Int64) :=
  some w2_82
def m_82_b5 (a0 : Nat) (a1 : Int32) (I : ai_I) (Rf : ai_R) (G : ai_G) (v2_5 : Int64) (v4_5 : Int32) : Option ((Int64 × Int32) ⊕ Int64) :=
  o_g (o_kd G a0 8) (o_b1 (m_118 a0 I) (fun r_8 => if r_8 ≤ v4_5 then (some (Sum.inr v2_5)) else (o_b1 (m_183 v4_5 a1) (fun r_17 => if r_17 = 0 then (o_b1 (m_331 v4_5) (fun r_25 => o_g (o_in G 13 (Rf a0 4) (v4_5 ||| ((nI 1) <<< (a1 &&& 31)))) (o_g (o_in G 13 (Rf a0 4) v4_5) (o_b1 (some ((I (Rf a0 4) (v4_5 ||| ((nI 1) <<< (a1 &&& 31))).toNatClampNeg) - (I (Rf a0 4) v4_5.toNatClampNeg))) (fun x6_49 => o_b1 (m_81 r_25) (fun r_57 => o_b1 (m_81 (((I a0 0) - (nI 1)) - r_25)) (fun r_70 => o_b1 (some (v2_5 + ((x6_49.toInt64 * r_57) * r_70))) (fun x2_75 => o_b1 (some (v4_5 + (nI 1))) (fun x4_76 => some (Sum.inl (x2_75, x4_76))))))))))) else (o_b1 (some (v4_5 + (nI 1))) (fun x4_76 => some (Sum.inl (v2_5, x4_76))))))))
/-- PricedBases$Shape.raisingOrders(LPricedBases$Valuation;I)J -/
def m_82 (a0 : Nat) (a1 : Int32) (I : ai_I) (Rf : ai_R) (G : ai_G) : Option (Int64) :=
  o_s1 (lp (fun s => m_82_b5 a0 a1 I Rf G s.1 s.2) o_N ((0 : Int64), (nI 0))) (fun t => m_82_x5_82 t)
theorem md_82 {d : Nat} {I : ai_I} {J : ai_J} {Rf : ai_R} {G : ai_G} {a0 : Nat} {a1 : Int32} {r : Int64} (hd : 2 ≤ d) (h : m_82 a0 a1 I Rf G = some r) : ai_Cl si_t si_ms d 82 [.inr (.inr a0), .inl a1] I J Rf G (some (.inr (.inl r))) I J Rf G := by
  obtain ⟨e, rfl⟩ : ∃ e, d = e + 1 := ⟨d - 1, by omega⟩
  unfold m_82 at h
  refine sp_in (lo := [some (.inr (.inr a0)), some (.inl a1), none, none, none, none, none]) (B := (0, 0)) rfl (Nat.le_of_ble_eq_true rfl) rfl rfl ?_
  refine go_lconst (pc' := 1) (v := (0 : Int64)) rfl rfl rfl ?_
  refine go_lstore_n (pc' := 2) (lo' := [some (.inr (.inr a0)), some (.inl a1), some (.inr (.inl (0 : Int64))), none, none, none, none]) rfl rfl rfl ?_
  refine go_iconst (pc' := 3) (v := (nI 0)) rfl rfl rfl ?_
  refine go_istore (pc' := 5) (lo' := [some (.inr (.inr a0)), some (.inl a1), some (.inr (.inl (0 : Int64))), none, some (.inl (nI 0)), none, none]) rfl rfl rfl ?_
  obtain ⟨q5, hl5, hc5_82⟩ := o_s1E h
  have ex5_82 : ∀ (w2_82 : Int64) (z4_x82 : Option ai_V) (z5_x82 : Option ai_V) (z6_x82 : Option ai_V), w2_82 = q5 → ai_Go si_t (20, false, 1, cd_82) (ai_Cl si_t si_ms e) (sp_Q (some (.inr (.inl r))) I J Rf G) 82 [some (.inr (.inr a0)), some (.inl a1), some (.inr (.inl w2_82)), none, z4_x82, z5_x82, z6_x82] [] (0, 0) I J Rf G := by
    intro w2_82 z4_x82 z5_x82 z6_x82 hq
    have h : m_82_x5_82 w2_82 = some r := hc5_82 w2_82 hq.symm
    unfold m_82_x5_82 at h
    refine go_lload_n (pc' := 83) rfl rfl rfl ?_
    cases h
    exact go_lret rfl (rfl) ⟨rfl, rfl, rfl, rfl, rfl⟩
  have lo5 : ∀ n s, lp (fun s => m_82_b5 a0 a1 I Rf G s.1 s.2) n s = some q5 → (fun s => ∀ (z5_5 : Option ai_V) (z6_5 : Option ai_V), ai_Go si_t (20, false, 1, cd_82) (ai_Cl si_t si_ms e) (sp_Q (some (.inr (.inl r))) I J Rf G) 5 [some (.inr (.inr a0)), some (.inl a1), some (.inr (.inl s.1)), none, some (.inl s.2), z5_5, z6_5] [] (0, 0) I J Rf G) s := lp_go (fun s x5 hx hk5 => by
    obtain ⟨v2_5, v4_5⟩ := s
    intro z5_5 z6_5
    have h : m_82_b5 a0 a1 I Rf G v2_5 v4_5 = some x5 := hx
    clear hx
    show ai_Go si_t (20, false, 1, cd_82) (ai_Cl si_t si_ms e) (sp_Q (some (.inr (.inl r))) I J Rf G) 5 [some (.inr (.inr a0)), some (.inl a1), some (.inr (.inl v2_5)), none, some (.inl v4_5), z5_5, z6_5] [] (0, 0) I J Rf G
    unfold m_82_b5 at h
    refine go_iload (pc' := 7) rfl rfl rfl ?_
    refine go_aload_n (pc' := 8) rfl rfl rfl ?_
    obtain ⟨g0, h⟩ := o_gE h
    obtain ⟨r_8, q_8, h⟩ := o_b1E h
    refine go_callV (pc' := 11) (B' := (0, 0)) (st' := [.inl r_8, .inl v4_5]) rfl rfl (Or.inl (by decide)) rfl rfl (o_kdE g0) (md_118 (by omega) (o_kdE g0) q_8) rfl rfl rfl ?_
    refine go_icmp_ge (pt := 82) (pc' := 14) rfl rfl rfl (fun h11 => ?_) (fun h11 => ?_)
    · replace h := o_t h11 h
      exact ex5_82 _ (some (.inl v4_5)) z5_5 z6_5 (lp_exitE h hk5)
    · replace h := o_f h11 h
      refine go_iload (pc' := 16) rfl rfl rfl ?_
      refine go_iload_n (pc' := 17) rfl rfl rfl ?_
      obtain ⟨r_17, q_17, h⟩ := o_b1E h
      refine go_callS (pc' := 20) (B' := (0, 0)) (st' := [.inl r_17]) rfl rfl (Or.inl (by decide)) rfl rfl trivial (md_183 (by omega) q_17) rfl rfl rfl ?_
      refine go_if_ne (pt := 76) (pc' := 23) rfl rfl rfl (fun h20 => ?_) (fun h20 => ?_)
      · replace h := o_f h20 h
        obtain ⟨x4_76, ex4_76, h⟩ := o_b1E h
        refine go_iincE (pc' := 79) rfl rfl (y := (nI 1)) rfl ex4_76 (lo' := [some (.inr (.inr a0)), some (.inl a1), some (.inr (.inl v2_5)), none, some (.inl x4_76), z5_5, z6_5]) rfl rfl ?_
        refine go_goto (pc' := 5) rfl rfl ?_
        exact (lp_backE h hk5 z5_5 z6_5 :)
      · replace h := o_t (Decidable.of_not_not h20) h
        refine go_iload (pc' := 25) rfl rfl rfl ?_
        obtain ⟨r_25, q_25, h⟩ := o_b1E h
        refine go_callS (pc' := 28) (B' := (0, 0)) (st' := [.inl r_25]) rfl rfl (Or.inl (by decide)) rfl rfl trivial (md_331 (by omega) q_25) rfl rfl rfl ?_
        refine go_istore (pc' := 30) (lo' := [some (.inr (.inr a0)), some (.inl a1), some (.inr (.inl v2_5)), none, some (.inl v4_5), some (.inl r_25), z6_5]) rfl rfl rfl ?_
        refine go_aload_n (pc' := 31) rfl rfl rfl ?_
        refine go_getR (pc' := 34) rfl rfl (o_kdE g0) rfl ?_
        refine go_iload (pc' := 36) rfl rfl rfl ?_
        refine go_iconst (pc' := 37) (v := (nI 1)) rfl rfl rfl ?_
        refine go_iload_n (pc' := 38) rfl rfl rfl ?_
        refine go_ishl (pc' := 39) rfl rfl ?_
        refine go_ior (pc' := 40) rfl rfl ?_
        obtain ⟨g1, h⟩ := o_gE h
        refine go_iaload (pc' := 41) rfl (o_inK g1) (o_inB g1) rfl ?_
        refine go_aload_n (pc' := 42) rfl rfl rfl ?_
        refine go_getR (pc' := 45) rfl rfl (o_kdE g0) rfl ?_
        refine go_iload (pc' := 47) rfl rfl rfl ?_
        obtain ⟨g2, h⟩ := o_gE h
        refine go_iaload (pc' := 48) rfl (o_inK g2) (o_inB g2) rfl ?_
        refine go_isub (pc' := 49) rfl rfl ?_
        obtain ⟨x6_49, ex6_49, h⟩ := o_b1E h
        refine go_ndI ex6_49 ?_
        refine go_istore (pc' := 51) (lo' := [some (.inr (.inr a0)), some (.inl a1), some (.inr (.inl v2_5)), none, some (.inl v4_5), some (.inl r_25), some (.inl x6_49)]) rfl rfl rfl ?_
        refine go_lload_n (pc' := 52) rfl rfl rfl ?_
        refine go_iload (pc' := 54) rfl rfl rfl ?_
        refine go_i2l (pc' := 55) rfl rfl ?_
        refine go_iload (pc' := 57) rfl rfl rfl ?_
        obtain ⟨r_57, q_57, h⟩ := o_b1E h
        refine go_callS (pc' := 60) (B' := (0, 0)) (st' := [.inr (.inl r_57), .inr (.inl x6_49.toInt64), .inr (.inl v2_5)]) rfl rfl (Or.inl (by decide)) rfl rfl trivial (md_81 (by omega) q_57) rfl rfl rfl ?_
        refine go_lmul (pc' := 61) rfl rfl ?_
        refine go_aload_n (pc' := 62) rfl rfl rfl ?_
        refine go_getI (pc' := 65) rfl rfl (by decide) (by decide) (o_kdE g0) rfl ?_
        refine go_iconst (pc' := 66) (v := (nI 1)) rfl rfl rfl ?_
        refine go_isub (pc' := 67) rfl rfl ?_
        refine go_iload (pc' := 69) rfl rfl rfl ?_
        refine go_isub (pc' := 70) rfl rfl ?_
        obtain ⟨r_70, q_70, h⟩ := o_b1E h
        refine go_callS (pc' := 73) (B' := (0, 0)) (st' := [.inr (.inl r_70), .inr (.inl (x6_49.toInt64 * r_57)), .inr (.inl v2_5)]) rfl rfl (Or.inl (by decide)) rfl rfl trivial (md_81 (by omega) q_70) rfl rfl rfl ?_
        refine go_lmul (pc' := 74) rfl rfl ?_
        refine go_ladd (pc' := 75) rfl rfl ?_
        obtain ⟨x2_75, ex2_75, h⟩ := o_b1E h
        refine go_ndJ ex2_75 ?_
        refine go_lstore_n (pc' := 76) (lo' := [some (.inr (.inr a0)), some (.inl a1), some (.inr (.inl x2_75)), none, some (.inl v4_5), some (.inl r_25), some (.inl x6_49)]) rfl rfl rfl ?_
        obtain ⟨x4_76, ex4_76, h⟩ := o_b1E h
        refine go_iincE (pc' := 79) rfl rfl (y := (nI 1)) rfl ex4_76 (lo' := [some (.inr (.inr a0)), some (.inl a1), some (.inr (.inl x2_75)), none, some (.inl x4_76), some (.inl r_25), some (.inl x6_49)]) rfl rfl ?_
        refine go_goto (pc' := 5) rfl rfl ?_
        exact (lp_backE h hk5 (some (.inl r_25)) (some (.inl x6_49)) :))
  exact lo5 _ ((0 : Int64), (nI 0)) hl5 none none
def m_83_x9_44 (w4_44 : Int64) : Option (Int64) :=
  some w4_44
def m_83_b9 (v4_9 : Int64) (v6_9 : Int64) (v8_9 : Int32) : Option ((Int64 × Int64 × Int32) ⊕ Int64) :=
  if (nI 64) ≤ v8_9 then (some (Sum.inr v4_9)) else (if (ai_cmp v6_9 (0 : Int64)) = 0 then (some (Sum.inr v4_9)) else (o_g (o_nzJ v6_9) (o_b1 (some (v4_9 - v4_9 / v6_9 * v6_9)) (fun x9_28 => o_b1 (some (v8_9 + (nI 1))) (fun x8_38 => some (Sum.inl (v6_9, x9_28, x8_38)))))))
/-- PricedBases$Shape.commonDivisor(JJ)J -/
def m_83 (a0 : Int64) (a1 : Int64) : Option (Int64) :=
  o_s1 (lp (fun s => m_83_b9 s.1 s.2.1 s.2.2) o_N (a0, a1, (nI 0))) (fun t => m_83_x9_44 t)
theorem md_83 {d : Nat} {I : ai_I} {J : ai_J} {Rf : ai_R} {G : ai_G} {a0 : Int64} {a1 : Int64} {r : Int64} (hd : 1 ≤ d) (h : m_83 a0 a1 = some r) : ai_Cl si_t si_ms d 83 [.inr (.inl a0), .inr (.inl a1)] I J Rf G (some (.inr (.inl r))) I J Rf G := by
  obtain ⟨e, rfl⟩ : ∃ e, d = e + 1 := ⟨d - 1, by omega⟩
  unfold m_83 at h
  refine sp_in (lo := [some (.inr (.inl a0)), none, some (.inr (.inl a1)), none, none, none, none, none, none, none, none]) (B := (0, 0)) rfl (Nat.le_of_ble_eq_true rfl) rfl rfl ?_
  refine go_lload_n (pc' := 1) rfl rfl rfl ?_
  refine go_lstore (pc' := 3) (lo' := [some (.inr (.inl a0)), none, some (.inr (.inl a1)), none, some (.inr (.inl a0)), none, none, none, none, none, none]) rfl rfl rfl ?_
  refine go_lload_n (pc' := 4) rfl rfl rfl ?_
  refine go_lstore (pc' := 6) (lo' := [some (.inr (.inl a0)), none, some (.inr (.inl a1)), none, some (.inr (.inl a0)), none, some (.inr (.inl a1)), none, none, none, none]) rfl rfl rfl ?_
  refine go_iconst (pc' := 7) (v := (nI 0)) rfl rfl rfl ?_
  refine go_istore (pc' := 9) (lo' := [some (.inr (.inl a0)), none, some (.inr (.inl a1)), none, some (.inr (.inl a0)), none, some (.inr (.inl a1)), none, some (.inl (nI 0)), none, none]) rfl rfl rfl ?_
  obtain ⟨q9, hl9, hc9_44⟩ := o_s1E h
  have ex9_44 : ∀ (w4_44 : Int64) (z6_x44 : Option ai_V) (z7_x44 : Option ai_V) (z8_x44 : Option ai_V) (z9_x44 : Option ai_V) (z10_x44 : Option ai_V), w4_44 = q9 → ai_Go si_t (20, false, 1, cd_83) (ai_Cl si_t si_ms e) (sp_Q (some (.inr (.inl r))) I J Rf G) 44 [some (.inr (.inl a0)), none, some (.inr (.inl a1)), none, some (.inr (.inl w4_44)), none, z6_x44, z7_x44, z8_x44, z9_x44, z10_x44] [] (0, 0) I J Rf G := by
    intro w4_44 z6_x44 z7_x44 z8_x44 z9_x44 z10_x44 hq
    have h : m_83_x9_44 w4_44 = some r := hc9_44 w4_44 hq.symm
    unfold m_83_x9_44 at h
    refine go_lload (pc' := 46) rfl rfl rfl ?_
    cases h
    exact go_lret rfl (rfl) ⟨rfl, rfl, rfl, rfl, rfl⟩
  have lo9 : ∀ n s, lp (fun s => m_83_b9 s.1 s.2.1 s.2.2) n s = some q9 → (fun s => ∀ (z9_9 : Option ai_V) (z10_9 : Option ai_V), ai_Go si_t (20, false, 1, cd_83) (ai_Cl si_t si_ms e) (sp_Q (some (.inr (.inl r))) I J Rf G) 9 [some (.inr (.inl a0)), none, some (.inr (.inl a1)), none, some (.inr (.inl s.1)), none, some (.inr (.inl s.2.1)), none, some (.inl s.2.2), z9_9, z10_9] [] (0, 0) I J Rf G) s := lp_go (fun s x9 hx hk9 => by
    obtain ⟨v4_9, v6_9, v8_9⟩ := s
    intro z9_9 z10_9
    have h : m_83_b9 v4_9 v6_9 v8_9 = some x9 := hx
    clear hx
    show ai_Go si_t (20, false, 1, cd_83) (ai_Cl si_t si_ms e) (sp_Q (some (.inr (.inl r))) I J Rf G) 9 [some (.inr (.inl a0)), none, some (.inr (.inl a1)), none, some (.inr (.inl v4_9)), none, some (.inr (.inl v6_9)), none, some (.inl v8_9), z9_9, z10_9] [] (0, 0) I J Rf G
    unfold m_83_b9 at h
    refine go_iload (pc' := 11) rfl rfl rfl ?_
    refine go_bipush (pc' := 13) (v := (nI 64)) rfl rfl rfl ?_
    refine go_icmp_ge (pt := 44) (pc' := 16) rfl rfl rfl (fun h13 => ?_) (fun h13 => ?_)
    · replace h := o_t h13 h
      exact ex9_44 _ (some (.inr (.inl v6_9))) none (some (.inl v8_9)) z9_9 z10_9 (lp_exitE h hk9)
    · replace h := o_f h13 h
      refine go_lload (pc' := 18) rfl rfl rfl ?_
      refine go_lconst (pc' := 19) (v := (0 : Int64)) rfl rfl rfl ?_
      refine go_lcmp (pc' := 20) rfl rfl ?_
      refine go_if_eq (pt := 44) (pc' := 23) rfl rfl rfl (fun h20 => ?_) (fun h20 => ?_)
      · replace h := o_t h20 h
        exact ex9_44 _ (some (.inr (.inl v6_9))) none (some (.inl v8_9)) z9_9 z10_9 (lp_exitE h hk9)
      · replace h := o_f h20 h
        refine go_lload (pc' := 25) rfl rfl rfl ?_
        refine go_lload (pc' := 27) rfl rfl rfl ?_
        obtain ⟨g0, h⟩ := o_gE h
        refine go_lrem (pc' := 28) rfl (o_nzJE g0) rfl ?_
        obtain ⟨x9_28, ex9_28, h⟩ := o_b1E h
        refine go_ndJ ex9_28 ?_
        refine go_lstore (pc' := 30) (lo' := [some (.inr (.inl a0)), none, some (.inr (.inl a1)), none, some (.inr (.inl v4_9)), none, some (.inr (.inl v6_9)), none, some (.inl v8_9), some (.inr (.inl x9_28)), none]) rfl rfl rfl ?_
        refine go_lload (pc' := 32) rfl rfl rfl ?_
        refine go_lstore (pc' := 34) (lo' := [some (.inr (.inl a0)), none, some (.inr (.inl a1)), none, some (.inr (.inl v6_9)), none, some (.inr (.inl v6_9)), none, some (.inl v8_9), some (.inr (.inl x9_28)), none]) rfl rfl rfl ?_
        refine go_lload (pc' := 36) rfl rfl rfl ?_
        refine go_lstore (pc' := 38) (lo' := [some (.inr (.inl a0)), none, some (.inr (.inl a1)), none, some (.inr (.inl v6_9)), none, some (.inr (.inl x9_28)), none, some (.inl v8_9), some (.inr (.inl x9_28)), none]) rfl rfl rfl ?_
        obtain ⟨x8_38, ex8_38, h⟩ := o_b1E h
        refine go_iincE (pc' := 41) rfl rfl (y := (nI 1)) rfl ex8_38 (lo' := [some (.inr (.inl a0)), none, some (.inr (.inl a1)), none, some (.inr (.inl v6_9)), none, some (.inr (.inl x9_28)), none, some (.inl x8_38), some (.inr (.inl x9_28)), none]) rfl rfl ?_
        refine go_goto (pc' := 9) rfl rfl ?_
        exact (lp_backE h hk9 (some (.inr (.inl x9_28))) none :))
  exact lo9 _ (a0, a1, (nI 0)) hl9 none none
def m_85_x26_88 : Option (Int32) :=
  some (nI 0)
def m_85_x26_102 : Option (Int32) :=
  some (nI 1)
def m_85_x41_88 : Option (Int32 ⊕ (Unit ⊕ Unit)) :=
  some (Sum.inr (Sum.inl ()))
def m_85_x41_96 (v4_26 : Int32) : Option (Int32 ⊕ (Unit ⊕ Unit)) :=
  o_b1 (some (v4_26 + (nI 1))) (fun x4_96 => some (Sum.inl x4_96))
def m_85_b41 (a0 : Nat) (a1 : Int32) (a2 : Int32) (I : ai_I) (Rf : ai_R) (G : ai_G) (x3_8 : Int32) (v4_26 : Int32) (v5_41 : Int32) : Option (Int32 ⊕ (Unit ⊕ Unit)) :=
  if (I a0 0) ≤ v5_41 then (some (Sum.inr (Sum.inr ()))) else (o_b1 (m_183 a2 v4_26) (fun r_53 => if r_53 = 0 then (o_b1 (some (v5_41 + (nI 1))) (fun x5_90 => some (Sum.inl x5_90))) else (o_b1 (m_183 a2 v5_41) (fun r_62 => if r_62 = 0 then (o_b1 (some (v5_41 + (nI 1))) (fun x5_90 => some (Sum.inl x5_90))) else (o_g (o_in G 13 (Rf a0 4) ((a1 ||| ((nI 1) <<< (v4_26 &&& 31))) ||| ((nI 1) <<< (v5_41 &&& 31)))) (if (I (Rf a0 4) ((a1 ||| ((nI 1) <<< (v4_26 &&& 31))) ||| ((nI 1) <<< (v5_41 &&& 31))).toNatClampNeg) = x3_8 then (o_b1 (some (v5_41 + (nI 1))) (fun x5_90 => some (Sum.inl x5_90))) else (some (Sum.inr (Sum.inl ())))))))))
def m_85_b26 (a0 : Nat) (a1 : Int32) (a2 : Int32) (I : ai_I) (Rf : ai_R) (G : ai_G) (x3_8 : Int32) (v4_26 : Int32) : Option (Int32 ⊕ (Unit ⊕ Unit)) :=
  if (I a0 0) ≤ v4_26 then (some (Sum.inr (Sum.inr ()))) else (o_b1 (some (v4_26 + (nI 1))) (fun x5_39 => o_s2 (lp (fun s => m_85_b41 a0 a1 a2 I Rf G x3_8 v4_26 s) o_N x5_39) (fun t => m_85_x41_88) (fun t => m_85_x41_96 v4_26)))
/-- PricedBases$Shape.isLine(LPricedBases$Valuation;II)Z -/
def m_85 (a0 : Nat) (a1 : Int32) (a2 : Int32) (I : ai_I) (Rf : ai_R) (G : ai_G) : Option (Int32) :=
  o_g (o_kd G a0 8) (o_g (o_in G 13 (Rf a0 4) a1) (o_b1 (some ((I (Rf a0 4) a1.toNatClampNeg) + (nI 2))) (fun x3_8 => o_g (o_in G 13 (Rf a0 4) (a1 ||| a2)) (if (I (Rf a0 4) (a1 ||| a2).toNatClampNeg) = x3_8 then (o_s2 (lp (fun s => m_85_b26 a0 a1 a2 I Rf G x3_8 s) o_N (nI 0)) (fun t => m_85_x26_88) (fun t => m_85_x26_102)) else (some (nI 0))))))
theorem md_85 {d : Nat} {I : ai_I} {J : ai_J} {Rf : ai_R} {G : ai_G} {a0 : Nat} {a1 : Int32} {a2 : Int32} {r : Int32} (hd : 2 ≤ d) (h : m_85 a0 a1 a2 I Rf G = some r) : ai_Cl si_t si_ms d 85 [.inr (.inr a0), .inl a1, .inl a2] I J Rf G (some (.inl r)) I J Rf G := by
  obtain ⟨e, rfl⟩ : ∃ e, d = e + 1 := ⟨d - 1, by omega⟩
  unfold m_85 at h
  refine sp_in (lo := [some (.inr (.inr a0)), some (.inl a1), some (.inl a2), none, none, none]) (B := (0, 0)) rfl (Nat.le_of_ble_eq_true rfl) rfl rfl ?_
  refine go_aload_n (pc' := 1) rfl rfl rfl ?_
  obtain ⟨g0, h⟩ := o_gE h
  refine go_getR (pc' := 4) rfl rfl (o_kdE g0) rfl ?_
  refine go_iload_n (pc' := 5) rfl rfl rfl ?_
  obtain ⟨g1, h⟩ := o_gE h
  refine go_iaload (pc' := 6) rfl (o_inK g1) (o_inB g1) rfl ?_
  refine go_iconst (pc' := 7) (v := (nI 2)) rfl rfl rfl ?_
  refine go_iadd (pc' := 8) rfl rfl ?_
  obtain ⟨x3_8, ex3_8, h⟩ := o_b1E h
  refine go_ndI ex3_8 ?_
  refine go_istore_n (pc' := 9) (lo' := [some (.inr (.inr a0)), some (.inl a1), some (.inl a2), some (.inl x3_8), none, none]) rfl rfl rfl ?_
  refine go_aload_n (pc' := 10) rfl rfl rfl ?_
  refine go_getR (pc' := 13) rfl rfl (o_kdE g0) rfl ?_
  refine go_iload_n (pc' := 14) rfl rfl rfl ?_
  refine go_iload_n (pc' := 15) rfl rfl rfl ?_
  refine go_ior (pc' := 16) rfl rfl ?_
  obtain ⟨g2, h⟩ := o_gE h
  refine go_iaload (pc' := 17) rfl (o_inK g2) (o_inB g2) rfl ?_
  refine go_iload_n (pc' := 18) rfl rfl rfl ?_
  refine go_icmp_eq (pt := 23) (pc' := 21) rfl rfl rfl (fun h18 => ?_) (fun h18 => ?_)
  · replace h := o_t h18 h
    refine go_iconst (pc' := 24) (v := (nI 0)) rfl rfl rfl ?_
    refine go_istore (pc' := 26) (lo' := [some (.inr (.inr a0)), some (.inl a1), some (.inl a2), some (.inl x3_8), some (.inl (nI 0)), none]) rfl rfl rfl ?_
    obtain ⟨q26, hl26, hc26_88, hc26_102⟩ := o_s2E h
    have ex26_88 : ∀ (z4_x88 : Option ai_V) (z5_x88 : Option ai_V), (Sum.inl ()) = q26 → ai_Go si_t (20, false, 3, cd_85) (ai_Cl si_t si_ms e) (sp_Q (some (.inl r)) I J Rf G) 88 [some (.inr (.inr a0)), some (.inl a1), some (.inl a2), some (.inl x3_8), z4_x88, z5_x88] [] (0, 0) I J Rf G := by
      intro z4_x88 z5_x88 hq
      have h : m_85_x26_88 = some r := hc26_88 () hq.symm
      unfold m_85_x26_88 at h
      refine go_iconst (pc' := 89) (v := (nI 0)) rfl rfl rfl ?_
      cases h
      exact go_iret rfl (rfl) ⟨rfl, rfl, rfl, rfl, rfl⟩
    have ex26_102 : ∀ (z4_x102 : Option ai_V) (z5_x102 : Option ai_V), (Sum.inr ()) = q26 → ai_Go si_t (20, false, 3, cd_85) (ai_Cl si_t si_ms e) (sp_Q (some (.inl r)) I J Rf G) 102 [some (.inr (.inr a0)), some (.inl a1), some (.inl a2), some (.inl x3_8), z4_x102, z5_x102] [] (0, 0) I J Rf G := by
      intro z4_x102 z5_x102 hq
      have h : m_85_x26_102 = some r := hc26_102 () hq.symm
      unfold m_85_x26_102 at h
      refine go_iconst (pc' := 103) (v := (nI 1)) rfl rfl rfl ?_
      cases h
      exact go_iret rfl (rfl) ⟨rfl, rfl, rfl, rfl, rfl⟩
    have lo26 : ∀ n s, lp (fun s => m_85_b26 a0 a1 a2 I Rf G x3_8 s) n s = some q26 → (fun s => ∀ (z5_26 : Option ai_V), ai_Go si_t (20, false, 3, cd_85) (ai_Cl si_t si_ms e) (sp_Q (some (.inl r)) I J Rf G) 26 [some (.inr (.inr a0)), some (.inl a1), some (.inl a2), some (.inl x3_8), some (.inl s), z5_26] [] (0, 0) I J Rf G) s := lp_go (fun s x26 hx hk26 => by
      revert s; intro v4_26 hx
      intro z5_26
      have h : m_85_b26 a0 a1 a2 I Rf G x3_8 v4_26 = some x26 := hx
      clear hx
      show ai_Go si_t (20, false, 3, cd_85) (ai_Cl si_t si_ms e) (sp_Q (some (.inl r)) I J Rf G) 26 [some (.inr (.inr a0)), some (.inl a1), some (.inl a2), some (.inl x3_8), some (.inl v4_26), z5_26] [] (0, 0) I J Rf G
      unfold m_85_b26 at h
      refine go_iload (pc' := 28) rfl rfl rfl ?_
      refine go_aload_n (pc' := 29) rfl rfl rfl ?_
      refine go_getI (pc' := 32) rfl rfl (by decide) (by decide) (o_kdE g0) rfl ?_
      refine go_icmp_ge (pt := 102) (pc' := 35) rfl rfl rfl (fun h32 => ?_) (fun h32 => ?_)
      · replace h := o_t h32 h
        exact ex26_102  (some (.inl v4_26)) z5_26 (lp_exitE h hk26)
      · replace h := o_f h32 h
        refine go_iload (pc' := 37) rfl rfl rfl ?_
        refine go_iconst (pc' := 38) (v := (nI 1)) rfl rfl rfl ?_
        refine go_iadd (pc' := 39) rfl rfl ?_
        obtain ⟨x5_39, ex5_39, h⟩ := o_b1E h
        refine go_ndI ex5_39 ?_
        refine go_istore (pc' := 41) (lo' := [some (.inr (.inr a0)), some (.inl a1), some (.inl a2), some (.inl x3_8), some (.inl v4_26), some (.inl x5_39)]) rfl rfl rfl ?_
        obtain ⟨q41, hl41, hc41_88, hc41_96⟩ := o_s2E h
        have ex41_88 : ∀ (z5_x88 : Option ai_V), (Sum.inl ()) = q41 → ai_Go si_t (20, false, 3, cd_85) (ai_Cl si_t si_ms e) (sp_Q (some (.inl r)) I J Rf G) 88 [some (.inr (.inr a0)), some (.inl a1), some (.inl a2), some (.inl x3_8), some (.inl v4_26), z5_x88] [] (0, 0) I J Rf G := by
          intro z5_x88 hq
          have h : m_85_x41_88 = some x26 := hc41_88 () hq.symm
          unfold m_85_x41_88 at h
          exact ex26_88  (some (.inl v4_26)) z5_x88 (lp_exitE h hk26)
        have ex41_96 : ∀ (z5_x96 : Option ai_V), (Sum.inr ()) = q41 → ai_Go si_t (20, false, 3, cd_85) (ai_Cl si_t si_ms e) (sp_Q (some (.inl r)) I J Rf G) 96 [some (.inr (.inr a0)), some (.inl a1), some (.inl a2), some (.inl x3_8), some (.inl v4_26), z5_x96] [] (0, 0) I J Rf G := by
          intro z5_x96 hq
          have h : m_85_x41_96 v4_26 = some x26 := hc41_96 () hq.symm
          unfold m_85_x41_96 at h
          obtain ⟨x4_96, ex4_96, h⟩ := o_b1E h
          refine go_iincE (pc' := 99) rfl rfl (y := (nI 1)) rfl ex4_96 (lo' := [some (.inr (.inr a0)), some (.inl a1), some (.inl a2), some (.inl x3_8), some (.inl x4_96), z5_x96]) rfl rfl ?_
          refine go_goto (pc' := 26) rfl rfl ?_
          exact (lp_backE h hk26 z5_x96 :)
        have lo41 : ∀ n s, lp (fun s => m_85_b41 a0 a1 a2 I Rf G x3_8 v4_26 s) n s = some q41 → (fun s => ai_Go si_t (20, false, 3, cd_85) (ai_Cl si_t si_ms e) (sp_Q (some (.inl r)) I J Rf G) 41 [some (.inr (.inr a0)), some (.inl a1), some (.inl a2), some (.inl x3_8), some (.inl v4_26), some (.inl s)] [] (0, 0) I J Rf G) s := lp_go (fun s x41 hx hk41 => by
          revert s; intro v5_41 hx
          have h : m_85_b41 a0 a1 a2 I Rf G x3_8 v4_26 v5_41 = some x41 := hx
          clear hx
          show ai_Go si_t (20, false, 3, cd_85) (ai_Cl si_t si_ms e) (sp_Q (some (.inl r)) I J Rf G) 41 [some (.inr (.inr a0)), some (.inl a1), some (.inl a2), some (.inl x3_8), some (.inl v4_26), some (.inl v5_41)] [] (0, 0) I J Rf G
          unfold m_85_b41 at h
          refine go_iload (pc' := 43) rfl rfl rfl ?_
          refine go_aload_n (pc' := 44) rfl rfl rfl ?_
          refine go_getI (pc' := 47) rfl rfl (by decide) (by decide) (o_kdE g0) rfl ?_
          refine go_icmp_ge (pt := 96) (pc' := 50) rfl rfl rfl (fun h47 => ?_) (fun h47 => ?_)
          · replace h := o_t h47 h
            exact ex41_96  (some (.inl v5_41)) (lp_exitE h hk41)
          · replace h := o_f h47 h
            refine go_iload_n (pc' := 51) rfl rfl rfl ?_
            refine go_iload (pc' := 53) rfl rfl rfl ?_
            obtain ⟨r_53, q_53, h⟩ := o_b1E h
            refine go_callS (pc' := 56) (B' := (0, 0)) (st' := [.inl r_53]) rfl rfl (Or.inl (by decide)) rfl rfl trivial (md_183 (by omega) q_53) rfl rfl rfl ?_
            refine go_if_eq (pt := 90) (pc' := 59) rfl rfl rfl (fun h56 => ?_) (fun h56 => ?_)
            · replace h := o_t h56 h
              obtain ⟨x5_90, ex5_90, h⟩ := o_b1E h
              refine go_iincE (pc' := 93) rfl rfl (y := (nI 1)) rfl ex5_90 (lo' := [some (.inr (.inr a0)), some (.inl a1), some (.inl a2), some (.inl x3_8), some (.inl v4_26), some (.inl x5_90)]) rfl rfl ?_
              refine go_goto (pc' := 41) rfl rfl ?_
              exact (lp_backE h hk41 :)
            · replace h := o_f h56 h
              refine go_iload_n (pc' := 60) rfl rfl rfl ?_
              refine go_iload (pc' := 62) rfl rfl rfl ?_
              obtain ⟨r_62, q_62, h⟩ := o_b1E h
              refine go_callS (pc' := 65) (B' := (0, 0)) (st' := [.inl r_62]) rfl rfl (Or.inl (by decide)) rfl rfl trivial (md_183 (by omega) q_62) rfl rfl rfl ?_
              refine go_if_eq (pt := 90) (pc' := 68) rfl rfl rfl (fun h65 => ?_) (fun h65 => ?_)
              · replace h := o_t h65 h
                obtain ⟨x5_90, ex5_90, h⟩ := o_b1E h
                refine go_iincE (pc' := 93) rfl rfl (y := (nI 1)) rfl ex5_90 (lo' := [some (.inr (.inr a0)), some (.inl a1), some (.inl a2), some (.inl x3_8), some (.inl v4_26), some (.inl x5_90)]) rfl rfl ?_
                refine go_goto (pc' := 41) rfl rfl ?_
                exact (lp_backE h hk41 :)
              · replace h := o_f h65 h
                refine go_aload_n (pc' := 69) rfl rfl rfl ?_
                refine go_getR (pc' := 72) rfl rfl (o_kdE g0) rfl ?_
                refine go_iload_n (pc' := 73) rfl rfl rfl ?_
                refine go_iconst (pc' := 74) (v := (nI 1)) rfl rfl rfl ?_
                refine go_iload (pc' := 76) rfl rfl rfl ?_
                refine go_ishl (pc' := 77) rfl rfl ?_
                refine go_ior (pc' := 78) rfl rfl ?_
                refine go_iconst (pc' := 79) (v := (nI 1)) rfl rfl rfl ?_
                refine go_iload (pc' := 81) rfl rfl rfl ?_
                refine go_ishl (pc' := 82) rfl rfl ?_
                refine go_ior (pc' := 83) rfl rfl ?_
                obtain ⟨g3, h⟩ := o_gE h
                refine go_iaload (pc' := 84) rfl (o_inK g3) (o_inB g3) rfl ?_
                refine go_iload_n (pc' := 85) rfl rfl rfl ?_
                refine go_icmp_eq (pt := 90) (pc' := 88) rfl rfl rfl (fun h85 => ?_) (fun h85 => ?_)
                · replace h := o_t h85 h
                  obtain ⟨x5_90, ex5_90, h⟩ := o_b1E h
                  refine go_iincE (pc' := 93) rfl rfl (y := (nI 1)) rfl ex5_90 (lo' := [some (.inr (.inr a0)), some (.inl a1), some (.inl a2), some (.inl x3_8), some (.inl v4_26), some (.inl x5_90)]) rfl rfl ?_
                  refine go_goto (pc' := 41) rfl rfl ?_
                  exact (lp_backE h hk41 :)
                · replace h := o_f h85 h
                  exact ex41_88  (some (.inl v5_41)) (lp_exitE h hk41))
        exact lo41 _ x5_39 hl41 )
    exact lo26 _ (nI 0) hl26 none
  · replace h := o_f h18 h
    refine go_iconst (pc' := 22) (v := (nI 0)) rfl rfl rfl ?_
    cases h
    exact go_iret rfl (rfl) ⟨rfl, rfl, rfl, rfl, rfl⟩
def m_84_x2_43 : Option (Int32) :=
  some (nI 0)
def m_84_x2_57 : Option (Int32) :=
  some (nI 1)
def m_84_x20_43 : Option (Int32 ⊕ (Unit ⊕ Unit)) :=
  some (Sum.inr (Sum.inl ()))
def m_84_x20_51 (v1_2 : Int32) : Option (Int32 ⊕ (Unit ⊕ Unit)) :=
  o_b1 (some (v1_2 + (nI 1))) (fun x1_51 => some (Sum.inl x1_51))
def m_84_b20 (a0 : Nat) (I : ai_I) (Rf : ai_R) (G : ai_G) (v1_2 : Int32) (v2_20 : Int32) : Option (Int32 ⊕ (Unit ⊕ Unit)) :=
  o_b1 (m_118 a0 I) (fun r_22 => if r_22 ≤ v2_20 then (some (Sum.inr (Sum.inr ()))) else (if (v2_20 &&& v1_2) = 0 then (o_b1 (m_85 a0 v2_20 v1_2 I Rf G) (fun r_37 => if r_37 = 0 then (o_b1 (some (v2_20 + (nI 1))) (fun x2_45 => some (Sum.inl x2_45))) else (some (Sum.inr (Sum.inl ()))))) else (o_b1 (some (v2_20 + (nI 1))) (fun x2_45 => some (Sum.inl x2_45)))))
def m_84_b2 (a0 : Nat) (I : ai_I) (Rf : ai_R) (G : ai_G) (v1_2 : Int32) : Option (Int32 ⊕ (Unit ⊕ Unit)) :=
  o_g (o_kd G a0 8) (o_b1 (m_118 a0 I) (fun r_4 => if r_4 ≤ v1_2 then (some (Sum.inr (Sum.inr ()))) else (o_b1 (m_331 v1_2) (fun r_11 => if r_11 = (nI 4) then (o_s2 (lp (fun s => m_84_b20 a0 I Rf G v1_2 s) o_N (nI 0)) (fun t => m_84_x20_43) (fun t => m_84_x20_51 v1_2)) else (o_b1 (some (v1_2 + (nI 1))) (fun x1_51 => some (Sum.inl x1_51)))))))
/-- PricedBases$Shape.isBinary(LPricedBases$Valuation;)Z -/
def m_84 (a0 : Nat) (I : ai_I) (Rf : ai_R) (G : ai_G) : Option (Int32) :=
  o_s2 (lp (fun s => m_84_b2 a0 I Rf G s) o_N (nI 0)) (fun t => m_84_x2_43) (fun t => m_84_x2_57)
theorem md_84 {d : Nat} {I : ai_I} {J : ai_J} {Rf : ai_R} {G : ai_G} {a0 : Nat} {r : Int32} (hd : 3 ≤ d) (h : m_84 a0 I Rf G = some r) : ai_Cl si_t si_ms d 84 [.inr (.inr a0)] I J Rf G (some (.inl r)) I J Rf G := by
  obtain ⟨e, rfl⟩ : ∃ e, d = e + 1 := ⟨d - 1, by omega⟩
  unfold m_84 at h
  refine sp_in (lo := [some (.inr (.inr a0)), none, none]) (B := (0, 0)) rfl (Nat.le_of_ble_eq_true rfl) rfl rfl ?_
  refine go_iconst (pc' := 1) (v := (nI 0)) rfl rfl rfl ?_
  refine go_istore_n (pc' := 2) (lo' := [some (.inr (.inr a0)), some (.inl (nI 0)), none]) rfl rfl rfl ?_
  obtain ⟨q2, hl2, hc2_43, hc2_57⟩ := o_s2E h
  have ex2_43 : ∀ (z1_x43 : Option ai_V) (z2_x43 : Option ai_V), (Sum.inl ()) = q2 → ai_Go si_t (20, false, 3, cd_84) (ai_Cl si_t si_ms e) (sp_Q (some (.inl r)) I J Rf G) 43 [some (.inr (.inr a0)), z1_x43, z2_x43] [] (0, 0) I J Rf G := by
    intro z1_x43 z2_x43 hq
    have h : m_84_x2_43 = some r := hc2_43 () hq.symm
    unfold m_84_x2_43 at h
    refine go_iconst (pc' := 44) (v := (nI 0)) rfl rfl rfl ?_
    cases h
    exact go_iret rfl (rfl) ⟨rfl, rfl, rfl, rfl, rfl⟩
  have ex2_57 : ∀ (z1_x57 : Option ai_V) (z2_x57 : Option ai_V), (Sum.inr ()) = q2 → ai_Go si_t (20, false, 3, cd_84) (ai_Cl si_t si_ms e) (sp_Q (some (.inl r)) I J Rf G) 57 [some (.inr (.inr a0)), z1_x57, z2_x57] [] (0, 0) I J Rf G := by
    intro z1_x57 z2_x57 hq
    have h : m_84_x2_57 = some r := hc2_57 () hq.symm
    unfold m_84_x2_57 at h
    refine go_iconst (pc' := 58) (v := (nI 1)) rfl rfl rfl ?_
    cases h
    exact go_iret rfl (rfl) ⟨rfl, rfl, rfl, rfl, rfl⟩
  have lo2 : ∀ n s, lp (fun s => m_84_b2 a0 I Rf G s) n s = some q2 → (fun s => ∀ (z2_2 : Option ai_V), ai_Go si_t (20, false, 3, cd_84) (ai_Cl si_t si_ms e) (sp_Q (some (.inl r)) I J Rf G) 2 [some (.inr (.inr a0)), some (.inl s), z2_2] [] (0, 0) I J Rf G) s := lp_go (fun s x2 hx hk2 => by
    revert s; intro v1_2 hx
    intro z2_2
    have h : m_84_b2 a0 I Rf G v1_2 = some x2 := hx
    clear hx
    show ai_Go si_t (20, false, 3, cd_84) (ai_Cl si_t si_ms e) (sp_Q (some (.inl r)) I J Rf G) 2 [some (.inr (.inr a0)), some (.inl v1_2), z2_2] [] (0, 0) I J Rf G
    unfold m_84_b2 at h
    refine go_iload_n (pc' := 3) rfl rfl rfl ?_
    refine go_aload_n (pc' := 4) rfl rfl rfl ?_
    obtain ⟨g0, h⟩ := o_gE h
    obtain ⟨r_4, q_4, h⟩ := o_b1E h
    refine go_callV (pc' := 7) (B' := (0, 0)) (st' := [.inl r_4, .inl v1_2]) rfl rfl (Or.inl (by decide)) rfl rfl (o_kdE g0) (md_118 (by omega) (o_kdE g0) q_4) rfl rfl rfl ?_
    refine go_icmp_ge (pt := 57) (pc' := 10) rfl rfl rfl (fun h7 => ?_) (fun h7 => ?_)
    · replace h := o_t h7 h
      exact ex2_57  (some (.inl v1_2)) z2_2 (lp_exitE h hk2)
    · replace h := o_f h7 h
      refine go_iload_n (pc' := 11) rfl rfl rfl ?_
      obtain ⟨r_11, q_11, h⟩ := o_b1E h
      refine go_callS (pc' := 14) (B' := (0, 0)) (st' := [.inl r_11]) rfl rfl (Or.inl (by decide)) rfl rfl trivial (md_331 (by omega) q_11) rfl rfl rfl ?_
      refine go_iconst (pc' := 15) (v := (nI 4)) rfl rfl rfl ?_
      refine go_icmp_ne (pt := 51) (pc' := 18) rfl rfl rfl (fun h15 => ?_) (fun h15 => ?_)
      · replace h := o_f h15 h
        obtain ⟨x1_51, ex1_51, h⟩ := o_b1E h
        refine go_iincE (pc' := 54) rfl rfl (y := (nI 1)) rfl ex1_51 (lo' := [some (.inr (.inr a0)), some (.inl x1_51), z2_2]) rfl rfl ?_
        refine go_goto (pc' := 2) rfl rfl ?_
        exact (lp_backE h hk2 z2_2 :)
      · replace h := o_t (Decidable.of_not_not h15) h
        refine go_iconst (pc' := 19) (v := (nI 0)) rfl rfl rfl ?_
        refine go_istore_n (pc' := 20) (lo' := [some (.inr (.inr a0)), some (.inl v1_2), some (.inl (nI 0))]) rfl rfl rfl ?_
        obtain ⟨q20, hl20, hc20_43, hc20_51⟩ := o_s2E h
        have ex20_43 : ∀ (z2_x43 : Option ai_V), (Sum.inl ()) = q20 → ai_Go si_t (20, false, 3, cd_84) (ai_Cl si_t si_ms e) (sp_Q (some (.inl r)) I J Rf G) 43 [some (.inr (.inr a0)), some (.inl v1_2), z2_x43] [] (0, 0) I J Rf G := by
          intro z2_x43 hq
          have h : m_84_x20_43 = some x2 := hc20_43 () hq.symm
          unfold m_84_x20_43 at h
          exact ex2_43  (some (.inl v1_2)) z2_x43 (lp_exitE h hk2)
        have ex20_51 : ∀ (z2_x51 : Option ai_V), (Sum.inr ()) = q20 → ai_Go si_t (20, false, 3, cd_84) (ai_Cl si_t si_ms e) (sp_Q (some (.inl r)) I J Rf G) 51 [some (.inr (.inr a0)), some (.inl v1_2), z2_x51] [] (0, 0) I J Rf G := by
          intro z2_x51 hq
          have h : m_84_x20_51 v1_2 = some x2 := hc20_51 () hq.symm
          unfold m_84_x20_51 at h
          obtain ⟨x1_51, ex1_51, h⟩ := o_b1E h
          refine go_iincE (pc' := 54) rfl rfl (y := (nI 1)) rfl ex1_51 (lo' := [some (.inr (.inr a0)), some (.inl x1_51), z2_x51]) rfl rfl ?_
          refine go_goto (pc' := 2) rfl rfl ?_
          exact (lp_backE h hk2 z2_x51 :)
        have lo20 : ∀ n s, lp (fun s => m_84_b20 a0 I Rf G v1_2 s) n s = some q20 → (fun s => ai_Go si_t (20, false, 3, cd_84) (ai_Cl si_t si_ms e) (sp_Q (some (.inl r)) I J Rf G) 20 [some (.inr (.inr a0)), some (.inl v1_2), some (.inl s)] [] (0, 0) I J Rf G) s := lp_go (fun s x20 hx hk20 => by
          revert s; intro v2_20 hx
          have h : m_84_b20 a0 I Rf G v1_2 v2_20 = some x20 := hx
          clear hx
          show ai_Go si_t (20, false, 3, cd_84) (ai_Cl si_t si_ms e) (sp_Q (some (.inl r)) I J Rf G) 20 [some (.inr (.inr a0)), some (.inl v1_2), some (.inl v2_20)] [] (0, 0) I J Rf G
          unfold m_84_b20 at h
          refine go_iload_n (pc' := 21) rfl rfl rfl ?_
          refine go_aload_n (pc' := 22) rfl rfl rfl ?_
          obtain ⟨r_22, q_22, h⟩ := o_b1E h
          refine go_callV (pc' := 25) (B' := (0, 0)) (st' := [.inl r_22, .inl v2_20]) rfl rfl (Or.inl (by decide)) rfl rfl (o_kdE g0) (md_118 (by omega) (o_kdE g0) q_22) rfl rfl rfl ?_
          refine go_icmp_ge (pt := 51) (pc' := 28) rfl rfl rfl (fun h25 => ?_) (fun h25 => ?_)
          · replace h := o_t h25 h
            exact ex20_51  (some (.inl v2_20)) (lp_exitE h hk20)
          · replace h := o_f h25 h
            refine go_iload_n (pc' := 29) rfl rfl rfl ?_
            refine go_iload_n (pc' := 30) rfl rfl rfl ?_
            refine go_iand (pc' := 31) rfl rfl ?_
            refine go_if_ne (pt := 45) (pc' := 34) rfl rfl rfl (fun h31 => ?_) (fun h31 => ?_)
            · replace h := o_f h31 h
              obtain ⟨x2_45, ex2_45, h⟩ := o_b1E h
              refine go_iincE (pc' := 48) rfl rfl (y := (nI 1)) rfl ex2_45 (lo' := [some (.inr (.inr a0)), some (.inl v1_2), some (.inl x2_45)]) rfl rfl ?_
              refine go_goto (pc' := 20) rfl rfl ?_
              exact (lp_backE h hk20 :)
            · replace h := o_t (Decidable.of_not_not h31) h
              refine go_aload_n (pc' := 35) rfl rfl rfl ?_
              refine go_iload_n (pc' := 36) rfl rfl rfl ?_
              refine go_iload_n (pc' := 37) rfl rfl rfl ?_
              obtain ⟨r_37, q_37, h⟩ := o_b1E h
              refine go_callS (pc' := 40) (B' := (0, 0)) (st' := [.inl r_37]) rfl rfl (Or.inl (by decide)) rfl rfl trivial (md_85 (by omega) q_37) rfl rfl rfl ?_
              refine go_if_eq (pt := 45) (pc' := 43) rfl rfl rfl (fun h40 => ?_) (fun h40 => ?_)
              · replace h := o_t h40 h
                obtain ⟨x2_45, ex2_45, h⟩ := o_b1E h
                refine go_iincE (pc' := 48) rfl rfl (y := (nI 1)) rfl ex2_45 (lo' := [some (.inr (.inr a0)), some (.inl v1_2), some (.inl x2_45)]) rfl rfl ?_
                refine go_goto (pc' := 20) rfl rfl ?_
                exact (lp_backE h hk20 :)
              · replace h := o_f h40 h
                exact ex20_43  (some (.inl v2_20)) (lp_exitE h hk20))
        exact lo20 _ (nI 0) hl20 )
  exact lo2 _ (nI 0) hl2 none
def m_86_x5_71 (Ix_71 : ai_I) : Option (ai_I) :=
  some Ix_71
def m_86_x20_65 (v2_5 : Int32) (Ix_65 : ai_I) : Option ((Int32 × ai_I) ⊕ ai_I) :=
  o_b1 (some (v2_5 + (-1 : Int32))) (fun x2_65 => some (Sum.inl (x2_65, Ix_65)))
def m_86_b20 (a0 : Nat) (a1 : Nat) (Rf : ai_R) (G : ai_G) (v2_5 : Int32) (v3_20 : Int32) (I_20 : ai_I) : Option ((Int32 × ai_I) ⊕ ai_I) :=
  if v3_20 < 0 then (some (Sum.inr I_20)) else (o_b1 (some (v2_5 ||| ((nI 1) <<< (v3_20 &&& 31)))) (fun x4_29 => if x4_29 = v2_5 then (o_b1 (some (v3_20 + (-1 : Int32))) (fun x3_59 => some (Sum.inl (x3_59, I_20)))) else (o_b1 (m_123 a0 x4_29 I_20 Rf G) (fun r_40 => if r_40 = 0 then (o_b1 (some (v3_20 + (-1 : Int32))) (fun x3_59 => some (Sum.inl (x3_59, I_20)))) else (o_g (o_in G 13 a1 x4_29) (if (I_20 a1 x4_29.toNatClampNeg) = 0 then (o_g (o_in G 13 a1 v2_5) (o_b1 (some (va_up I_20 a1 (va_up (I_20 a1) v2_5.toNatClampNeg ((nI 1) + v3_20)))) (fun I_58 => o_b1 (some (v3_20 + (-1 : Int32))) (fun x3_59 => some (Sum.inl (x3_59, I_58)))))) else (o_b1 (some (v3_20 + (-1 : Int32))) (fun x3_59 => some (Sum.inl (x3_59, I_20))))))))))
def m_86_b5 (a0 : Nat) (a1 : Nat) (Rf : ai_R) (G : ai_G) (v2_5 : Int32) (I_5 : ai_I) : Option ((Int32 × ai_I) ⊕ ai_I) :=
  if v2_5 < 0 then (some (Sum.inr I_5)) else (o_g (o_in G 13 a1 v2_5) (o_b1 (some (va_up I_5 a1 (va_up (I_5 a1) v2_5.toNatClampNeg (nI 0)))) (fun I_12 => o_b1 (some ((I_12 a0 0) - (nI 1))) (fun x3_19 => o_s1 (lp (fun s => m_86_b20 a0 a1 Rf G v2_5 s.1 s.2) o_N (x3_19, I_12)) (fun t => m_86_x20_65 v2_5 t)))))
/-- PricedBases$Shape.play(LPricedBases$Valuation;[I)V -/
def m_86 (a0 : Nat) (a1 : Nat) (I : ai_I) (Rf : ai_R) (G : ai_G) : Option (ai_I) :=
  o_g (o_kd G a0 8) (o_b1 (m_119 a0 I) (fun r_1 => o_s1 (lp (fun s => m_86_b5 a0 a1 Rf G s.1 s.2) o_N (r_1, I)) (fun t => m_86_x5_71 t)))
theorem md_86 {d : Nat} {I : ai_I} {J : ai_J} {Rf : ai_R} {G : ai_G} {a0 : Nat} {a1 : Nat} {I1 : ai_I} (hd : 3 ≤ d) (h : m_86 a0 a1 I Rf G = some I1) : ai_Cl si_t si_ms d 86 [.inr (.inr a0), .inr (.inr a1)] I J Rf G none I1 J Rf G := by
  obtain ⟨e, rfl⟩ : ∃ e, d = e + 1 := ⟨d - 1, by omega⟩
  unfold m_86 at h
  refine sp_in (lo := [some (.inr (.inr a0)), some (.inr (.inr a1)), none, none, none]) (B := (0, 0)) rfl (Nat.le_of_ble_eq_true rfl) rfl rfl ?_
  refine go_aload_n (pc' := 1) rfl rfl rfl ?_
  obtain ⟨g0, h⟩ := o_gE h
  obtain ⟨r_1, q_1, h⟩ := o_b1E h
  refine go_callV (pc' := 4) (B' := (0, 0)) (st' := [.inl r_1]) rfl rfl (Or.inl (by decide)) rfl rfl (o_kdE g0) (md_119 (by omega) (o_kdE g0) q_1) rfl rfl rfl ?_
  refine go_istore_n (pc' := 5) (lo' := [some (.inr (.inr a0)), some (.inr (.inr a1)), some (.inl r_1), none, none]) rfl rfl rfl ?_
  obtain ⟨q5, hl5, hc5_71⟩ := o_s1E h
  have ex5_71 : ∀ (Ix_71 : ai_I) (z2_x71 : Option ai_V) (z3_x71 : Option ai_V) (z4_x71 : Option ai_V), Ix_71 = q5 → ai_Go si_t (20, false, 9, cd_86) (ai_Cl si_t si_ms e) (sp_Q none I1 J Rf G) 71 [some (.inr (.inr a0)), some (.inr (.inr a1)), z2_x71, z3_x71, z4_x71] [] (0, 0) Ix_71 J Rf G := by
    intro Ix_71 z2_x71 z3_x71 z4_x71 hq
    have h : m_86_x5_71 Ix_71 = some I1 := hc5_71 Ix_71 hq.symm
    unfold m_86_x5_71 at h
    cases h
    exact go_vret rfl (rfl) ⟨rfl, rfl, rfl, rfl, rfl⟩
  have lo5 : ∀ n s, lp (fun s => m_86_b5 a0 a1 Rf G s.1 s.2) n s = some q5 → (fun s => ∀ (z3_5 : Option ai_V) (z4_5 : Option ai_V), ai_Go si_t (20, false, 9, cd_86) (ai_Cl si_t si_ms e) (sp_Q none I1 J Rf G) 5 [some (.inr (.inr a0)), some (.inr (.inr a1)), some (.inl s.1), z3_5, z4_5] [] (0, 0) s.2 J Rf G) s := lp_go (fun s x5 hx hk5 => by
    obtain ⟨v2_5, I_5⟩ := s
    intro z3_5 z4_5
    have h : m_86_b5 a0 a1 Rf G v2_5 I_5 = some x5 := hx
    clear hx
    show ai_Go si_t (20, false, 9, cd_86) (ai_Cl si_t si_ms e) (sp_Q none I1 J Rf G) 5 [some (.inr (.inr a0)), some (.inr (.inr a1)), some (.inl v2_5), z3_5, z4_5] [] (0, 0) I_5 J Rf G
    unfold m_86_b5 at h
    refine go_iload_n (pc' := 6) rfl rfl rfl ?_
    refine go_if_lt (pt := 71) (pc' := 9) rfl rfl rfl (fun h6 => ?_) (fun h6 => ?_)
    · replace h := o_t h6 h
      exact ex5_71 _ (some (.inl v2_5)) z3_5 z4_5 (lp_exitE h hk5)
    · replace h := o_f h6 h
      refine go_aload_n (pc' := 10) rfl rfl rfl ?_
      refine go_iload_n (pc' := 11) rfl rfl rfl ?_
      refine go_iconst (pc' := 12) (v := (nI 0)) rfl rfl rfl ?_
      obtain ⟨g1, h⟩ := o_gE h
      obtain ⟨I_12, eI_12, h⟩ := o_b1E h
      refine go_iastore (pc' := 13) rfl (o_inK g1) (o_inB g1) rfl ?_
      refine go_ndMI eI_12 ?_
      refine go_aload_n (pc' := 14) rfl rfl rfl ?_
      refine go_getI (pc' := 17) rfl rfl (by decide) (by decide) (o_kdE g0) rfl ?_
      refine go_iconst (pc' := 18) (v := (nI 1)) rfl rfl rfl ?_
      refine go_isub (pc' := 19) rfl rfl ?_
      obtain ⟨x3_19, ex3_19, h⟩ := o_b1E h
      refine go_ndI ex3_19 ?_
      refine go_istore_n (pc' := 20) (lo' := [some (.inr (.inr a0)), some (.inr (.inr a1)), some (.inl v2_5), some (.inl x3_19), z4_5]) rfl rfl rfl ?_
      obtain ⟨q20, hl20, hc20_65⟩ := o_s1E h
      have ex20_65 : ∀ (Ix_65 : ai_I) (z3_x65 : Option ai_V) (z4_x65 : Option ai_V), Ix_65 = q20 → ai_Go si_t (20, false, 9, cd_86) (ai_Cl si_t si_ms e) (sp_Q none I1 J Rf G) 65 [some (.inr (.inr a0)), some (.inr (.inr a1)), some (.inl v2_5), z3_x65, z4_x65] [] (0, 0) Ix_65 J Rf G := by
        intro Ix_65 z3_x65 z4_x65 hq
        have h : m_86_x20_65 v2_5 Ix_65 = some x5 := hc20_65 Ix_65 hq.symm
        unfold m_86_x20_65 at h
        obtain ⟨x2_65, ex2_65, h⟩ := o_b1E h
        refine go_iincE (pc' := 68) rfl rfl (y := (-1 : Int32)) rfl ex2_65 (lo' := [some (.inr (.inr a0)), some (.inr (.inr a1)), some (.inl x2_65), z3_x65, z4_x65]) rfl rfl ?_
        refine go_goto (pc' := 5) rfl rfl ?_
        exact (lp_backE h hk5 z3_x65 z4_x65 :)
      have lo20 : ∀ n s, lp (fun s => m_86_b20 a0 a1 Rf G v2_5 s.1 s.2) n s = some q20 → (fun s => ∀ (z4_20 : Option ai_V), ai_Go si_t (20, false, 9, cd_86) (ai_Cl si_t si_ms e) (sp_Q none I1 J Rf G) 20 [some (.inr (.inr a0)), some (.inr (.inr a1)), some (.inl v2_5), some (.inl s.1), z4_20] [] (0, 0) s.2 J Rf G) s := lp_go (fun s x20 hx hk20 => by
        obtain ⟨v3_20, I_20⟩ := s
        intro z4_20
        have h : m_86_b20 a0 a1 Rf G v2_5 v3_20 I_20 = some x20 := hx
        clear hx
        show ai_Go si_t (20, false, 9, cd_86) (ai_Cl si_t si_ms e) (sp_Q none I1 J Rf G) 20 [some (.inr (.inr a0)), some (.inr (.inr a1)), some (.inl v2_5), some (.inl v3_20), z4_20] [] (0, 0) I_20 J Rf G
        unfold m_86_b20 at h
        refine go_iload_n (pc' := 21) rfl rfl rfl ?_
        refine go_if_lt (pt := 65) (pc' := 24) rfl rfl rfl (fun h21 => ?_) (fun h21 => ?_)
        · replace h := o_t h21 h
          exact ex20_65 _ (some (.inl v3_20)) z4_20 (lp_exitE h hk20)
        · replace h := o_f h21 h
          refine go_iload_n (pc' := 25) rfl rfl rfl ?_
          refine go_iconst (pc' := 26) (v := (nI 1)) rfl rfl rfl ?_
          refine go_iload_n (pc' := 27) rfl rfl rfl ?_
          refine go_ishl (pc' := 28) rfl rfl ?_
          refine go_ior (pc' := 29) rfl rfl ?_
          obtain ⟨x4_29, ex4_29, h⟩ := o_b1E h
          refine go_ndI ex4_29 ?_
          refine go_istore (pc' := 31) (lo' := [some (.inr (.inr a0)), some (.inr (.inr a1)), some (.inl v2_5), some (.inl v3_20), some (.inl x4_29)]) rfl rfl rfl ?_
          refine go_iload (pc' := 33) rfl rfl rfl ?_
          refine go_iload_n (pc' := 34) rfl rfl rfl ?_
          refine go_icmp_eq (pt := 59) (pc' := 37) rfl rfl rfl (fun h34 => ?_) (fun h34 => ?_)
          · replace h := o_t h34 h
            obtain ⟨x3_59, ex3_59, h⟩ := o_b1E h
            refine go_iincE (pc' := 62) rfl rfl (y := (-1 : Int32)) rfl ex3_59 (lo' := [some (.inr (.inr a0)), some (.inr (.inr a1)), some (.inl v2_5), some (.inl x3_59), some (.inl x4_29)]) rfl rfl ?_
            refine go_goto (pc' := 20) rfl rfl ?_
            exact (lp_backE h hk20 (some (.inl x4_29)) :)
          · replace h := o_f h34 h
            refine go_aload_n (pc' := 38) rfl rfl rfl ?_
            refine go_iload (pc' := 40) rfl rfl rfl ?_
            obtain ⟨r_40, q_40, h⟩ := o_b1E h
            refine go_callV (pc' := 43) (B' := (0, 0)) (st' := [.inl r_40]) rfl rfl (Or.inl (by decide)) rfl rfl (o_kdE g0) (md_123 (by omega) (o_kdE g0) q_40) rfl rfl rfl ?_
            refine go_if_eq (pt := 59) (pc' := 46) rfl rfl rfl (fun h43 => ?_) (fun h43 => ?_)
            · replace h := o_t h43 h
              obtain ⟨x3_59, ex3_59, h⟩ := o_b1E h
              refine go_iincE (pc' := 62) rfl rfl (y := (-1 : Int32)) rfl ex3_59 (lo' := [some (.inr (.inr a0)), some (.inr (.inr a1)), some (.inl v2_5), some (.inl x3_59), some (.inl x4_29)]) rfl rfl ?_
              refine go_goto (pc' := 20) rfl rfl ?_
              exact (lp_backE h hk20 (some (.inl x4_29)) :)
            · replace h := o_f h43 h
              refine go_aload_n (pc' := 47) rfl rfl rfl ?_
              refine go_iload (pc' := 49) rfl rfl rfl ?_
              obtain ⟨g2, h⟩ := o_gE h
              refine go_iaload (pc' := 50) rfl (o_inK g2) (o_inB g2) rfl ?_
              refine go_if_ne (pt := 59) (pc' := 53) rfl rfl rfl (fun h50 => ?_) (fun h50 => ?_)
              · replace h := o_f h50 h
                obtain ⟨x3_59, ex3_59, h⟩ := o_b1E h
                refine go_iincE (pc' := 62) rfl rfl (y := (-1 : Int32)) rfl ex3_59 (lo' := [some (.inr (.inr a0)), some (.inr (.inr a1)), some (.inl v2_5), some (.inl x3_59), some (.inl x4_29)]) rfl rfl ?_
                refine go_goto (pc' := 20) rfl rfl ?_
                exact (lp_backE h hk20 (some (.inl x4_29)) :)
              · replace h := o_t (Decidable.of_not_not h50) h
                refine go_aload_n (pc' := 54) rfl rfl rfl ?_
                refine go_iload_n (pc' := 55) rfl rfl rfl ?_
                refine go_iconst (pc' := 56) (v := (nI 1)) rfl rfl rfl ?_
                refine go_iload_n (pc' := 57) rfl rfl rfl ?_
                refine go_iadd (pc' := 58) rfl rfl ?_
                obtain ⟨g3, h⟩ := o_gE h
                obtain ⟨I_58, eI_58, h⟩ := o_b1E h
                refine go_iastore (pc' := 59) rfl (o_inK g3) (o_inB g3) rfl ?_
                refine go_ndMI eI_58 ?_
                obtain ⟨x3_59, ex3_59, h⟩ := o_b1E h
                refine go_iincE (pc' := 62) rfl rfl (y := (-1 : Int32)) rfl ex3_59 (lo' := [some (.inr (.inr a0)), some (.inr (.inr a1)), some (.inl v2_5), some (.inl x3_59), some (.inl x4_29)]) rfl rfl ?_
                refine go_goto (pc' := 20) rfl rfl ?_
                exact (lp_backE h hk20 (some (.inl x4_29)) :))
      exact lo20 _ (x3_19, I_12) hl20 z4_5)
  exact lo5 _ (r_1, I) hl5 none none
/-- PricedBases$Space.<init>()V -/
def m_87 (th : Nat) (I : ai_I) (Rf : ai_R) (G : ai_G) : Option (ai_I × ai_R × ai_G) :=
  o_g (o_nn th) (o_g (o_lt9 G) (o_b1 (some (va_up I (G.2.2 + 1) (fun _ => 0))) (fun I_7 => o_b1 (some (va_up G.1 (G.2.2 + 1) 13, va_up G.2.1 (G.2.2 + 1) 8, G.2.2 + 1)) (fun G_7 => o_b1 (some (G.2.2 + 1)) (fun n_7 => o_g (o_kd G_7 th 5) (o_b1 (some (va_up Rf th (va_up (Rf th) 0 n_7))) (fun R_9 => some (I_7, R_9, G_7))))))))
theorem md_87 {d : Nat} {I : ai_I} {J : ai_J} {Rf : ai_R} {G : ai_G} {th : Nat} {I1 : ai_I} {R1 : ai_R} {G1 : ai_G} (hd : 1 ≤ d) (hth : G.1 th = 5) (h : m_87 th I Rf G = some (I1, R1, G1)) : ai_Cl si_t si_ms d 87 [.inr (.inr th)] I J Rf G none I1 J R1 G1 := by
  obtain ⟨e, rfl⟩ : ∃ e, d = e + 1 := ⟨d - 1, by omega⟩
  unfold m_87 at h
  refine sp_in (lo := [some (.inr (.inr th))]) (B := (1, 8)) rfl (Nat.le_of_ble_eq_true rfl) rfl rfl ?_
  refine go_aload_n (pc' := 1) rfl rfl rfl ?_
  obtain ⟨g0, h⟩ := o_gE h
  refine go_obj (pc' := 4) rfl rfl (o_nnE g0) (Nat.le_of_ble_eq_true rfl) rfl ?_
  refine go_aload_n (pc' := 5) rfl rfl rfl ?_
  refine go_bipush (pc' := 7) (v := (nI 8)) rfl rfl rfl ?_
  obtain ⟨g1, h⟩ := o_gE h
  refine go_newI (pc' := 9) (N := 8) rfl (by decide) (by decide) (by decide) (by decide) (by decide) (o_lt9E g1) rfl ?_
  obtain ⟨I_7, eI_7, h⟩ := o_b1E h
  obtain ⟨G_7, eG_7, h⟩ := o_b1E h
  obtain ⟨n_7, en_7, h⟩ := o_b1E h
  refine go_ndMI eI_7 ?_
  refine go_ndMG eG_7 ?_
  refine go_ndR en_7 ?_
  refine go_ndB (B' := (0, 0)) rfl ?_
  obtain ⟨g2, h⟩ := o_gE h
  obtain ⟨R_9, eR_9, h⟩ := o_b1E h
  refine go_putR (pc' := 12) rfl rfl (fun _ => ⟨rfl, rfl⟩) (o_kdE g2) rfl ?_
  refine go_ndMR eR_9 ?_
  cases h
  exact go_vret rfl (rfl) ⟨rfl, rfl, rfl, rfl, rfl⟩
/-- PricedBases$Space.takePrices(LPricedBases$Valuation;[I)V -/
def m_88 (th : Nat) (a0 : Nat) (a1 : Nat) (I : ai_I) (Rf : ai_R) (G : ai_G) : Option (ai_I) :=
  o_g (o_cpy G a1 (Rf th 0) (nI 0) (nI 0) (nI 8)) (o_b1 (some (va_up I (Rf th 0) (va_cpy (I a1) (I (Rf th 0)) (nI 0).toNatClampNeg (nI 0).toNatClampNeg (nI 8).toNatClampNeg))) (fun I_9 => o_g (o_kd G a0 8) (o_b1 (m_119 a0 I_9) (fun r_14 => o_b1 (some (va_up I_9 th (va_up (I_9 th) 1 r_14))) (fun I_17 => some I_17)))))
theorem md_88 {d : Nat} {I : ai_I} {J : ai_J} {Rf : ai_R} {G : ai_G} {th : Nat} {a0 : Nat} {a1 : Nat} {I1 : ai_I} (hd : 3 ≤ d) (hth : G.1 th = 5) (h : m_88 th a0 a1 I Rf G = some I1) : ai_Cl si_t si_ms d 88 [.inr (.inr th), .inr (.inr a0), .inr (.inr a1)] I J Rf G none I1 J Rf G := by
  obtain ⟨e, rfl⟩ : ∃ e, d = e + 1 := ⟨d - 1, by omega⟩
  unfold m_88 at h
  refine sp_in (lo := [some (.inr (.inr th)), some (.inr (.inr a0)), some (.inr (.inr a1))]) (B := (0, 0)) rfl (Nat.le_of_ble_eq_true rfl) rfl rfl ?_
  refine go_aload_n (pc' := 1) rfl rfl rfl ?_
  refine go_iconst (pc' := 2) (v := (nI 0)) rfl rfl rfl ?_
  refine go_aload_n (pc' := 3) rfl rfl rfl ?_
  refine go_getR (pc' := 6) rfl rfl hth rfl ?_
  refine go_iconst (pc' := 7) (v := (nI 0)) rfl rfl rfl ?_
  refine go_bipush (pc' := 9) (v := (nI 8)) rfl rfl rfl ?_
  obtain ⟨g0, h⟩ := o_gE h
  obtain ⟨I_9, eI_9, h⟩ := o_b1E h
  refine go_copy (pc' := 12) rfl rfl (o_cpyE g0) (Nat.le_of_ble_eq_true rfl) rfl ?_
  refine go_ndMI eI_9 ?_
  refine go_aload_n (pc' := 13) rfl rfl rfl ?_
  refine go_aload_n (pc' := 14) rfl rfl rfl ?_
  obtain ⟨g1, h⟩ := o_gE h
  obtain ⟨r_14, q_14, h⟩ := o_b1E h
  refine go_callV (pc' := 17) (B' := (0, 0)) (st' := [.inl r_14, .inr (.inr th)]) rfl rfl (Or.inl (by decide)) rfl rfl (o_kdE g1) (md_119 (by omega) (o_kdE g1) q_14) rfl rfl rfl ?_
  obtain ⟨I_17, eI_17, h⟩ := o_b1E h
  refine go_putI (pc' := 20) rfl rfl (fun h => by cases h) hth rfl ?_
  refine go_ndMI eI_17 ?_
  cases h
  exact go_vret rfl (rfl) ⟨rfl, rfl, rfl, rfl, rfl⟩
def m_89_x7_69 (Ix_69 : ai_I) : Option (ai_I) :=
  some Ix_69
def m_89_b7 (th : Nat) (a0 : Nat) (a1 : Int32) (Rf : ai_R) (G : ai_G) (v3_7 : Int32) (I_7 : ai_I) : Option ((Int32 × ai_I) ⊕ ai_I) :=
  o_g (o_kd G a0 8) (if (I_7 a0 0) ≤ v3_7 then (some (Sum.inr I_7)) else (o_b1 (m_183 a1 v3_7) (fun r_17 => if r_17 = 0 then (o_b1 (m_122 a0 (a1 ||| ((nI 1) <<< (v3_7 &&& 31))) I_7 Rf G) (fun r_29 => if r_29 = 0 then (o_b1 (some (v3_7 + (nI 1))) (fun x3_63 => some (Sum.inl (x3_63, I_7)))) else (o_g (o_in G 13 (Rf a0 3) (a1 ||| ((nI 1) <<< (v3_7 &&& 31)))) (o_g (o_in G 13 (Rf th 0) v3_7) (o_b1 (some (va_up I_7 (Rf th 0) (va_up (I_7 (Rf th 0)) v3_7.toNatClampNeg (I_7 (Rf a0 3) (a1 ||| ((nI 1) <<< (v3_7 &&& 31))).toNatClampNeg)))) (fun I_50 => o_b1 (some (va_up I_50 th (va_up (I_50 th) 1 ((I_50 th 1) ||| ((nI 1) <<< (v3_7 &&& 31)))))) (fun I_60 => o_b1 (some (v3_7 + (nI 1))) (fun x3_63 => some (Sum.inl (x3_63, I_60)))))))))) else (o_b1 (some (v3_7 + (nI 1))) (fun x3_63 => some (Sum.inl (x3_63, I_7)))))))
/-- PricedBases$Space.takeAround(LPricedBases$Valuation;I)V -/
def m_89 (th : Nat) (a0 : Nat) (a1 : Int32) (I : ai_I) (Rf : ai_R) (G : ai_G) : Option (ai_I) :=
  o_b1 (some (va_up I th (va_up (I th) 1 (nI 0)))) (fun I_2 => o_s1 (lp (fun s => m_89_b7 th a0 a1 Rf G s.1 s.2) o_N ((nI 0), I_2)) (fun t => m_89_x7_69 t))
theorem md_89 {d : Nat} {I : ai_I} {J : ai_J} {Rf : ai_R} {G : ai_G} {th : Nat} {a0 : Nat} {a1 : Int32} {I1 : ai_I} (hd : 3 ≤ d) (hth : G.1 th = 5) (h : m_89 th a0 a1 I Rf G = some I1) : ai_Cl si_t si_ms d 89 [.inr (.inr th), .inr (.inr a0), .inl a1] I J Rf G none I1 J Rf G := by
  obtain ⟨e, rfl⟩ : ∃ e, d = e + 1 := ⟨d - 1, by omega⟩
  unfold m_89 at h
  refine sp_in (lo := [some (.inr (.inr th)), some (.inr (.inr a0)), some (.inl a1), none]) (B := (0, 0)) rfl (Nat.le_of_ble_eq_true rfl) rfl rfl ?_
  refine go_aload_n (pc' := 1) rfl rfl rfl ?_
  refine go_iconst (pc' := 2) (v := (nI 0)) rfl rfl rfl ?_
  obtain ⟨I_2, eI_2, h⟩ := o_b1E h
  refine go_putI (pc' := 5) rfl rfl (fun h => by cases h) hth rfl ?_
  refine go_ndMI eI_2 ?_
  refine go_iconst (pc' := 6) (v := (nI 0)) rfl rfl rfl ?_
  refine go_istore_n (pc' := 7) (lo' := [some (.inr (.inr th)), some (.inr (.inr a0)), some (.inl a1), some (.inl (nI 0))]) rfl rfl rfl ?_
  obtain ⟨q7, hl7, hc7_69⟩ := o_s1E h
  have ex7_69 : ∀ (Ix_69 : ai_I) (z3_x69 : Option ai_V), Ix_69 = q7 → ai_Go si_t (5, false, 9, cd_89) (ai_Cl si_t si_ms e) (sp_Q none I1 J Rf G) 69 [some (.inr (.inr th)), some (.inr (.inr a0)), some (.inl a1), z3_x69] [] (0, 0) Ix_69 J Rf G := by
    intro Ix_69 z3_x69 hq
    have h : m_89_x7_69 Ix_69 = some I1 := hc7_69 Ix_69 hq.symm
    unfold m_89_x7_69 at h
    cases h
    exact go_vret rfl (rfl) ⟨rfl, rfl, rfl, rfl, rfl⟩
  have lo7 : ∀ n s, lp (fun s => m_89_b7 th a0 a1 Rf G s.1 s.2) n s = some q7 → (fun s => ai_Go si_t (5, false, 9, cd_89) (ai_Cl si_t si_ms e) (sp_Q none I1 J Rf G) 7 [some (.inr (.inr th)), some (.inr (.inr a0)), some (.inl a1), some (.inl s.1)] [] (0, 0) s.2 J Rf G) s := lp_go (fun s x7 hx hk7 => by
    obtain ⟨v3_7, I_7⟩ := s
    have h : m_89_b7 th a0 a1 Rf G v3_7 I_7 = some x7 := hx
    clear hx
    show ai_Go si_t (5, false, 9, cd_89) (ai_Cl si_t si_ms e) (sp_Q none I1 J Rf G) 7 [some (.inr (.inr th)), some (.inr (.inr a0)), some (.inl a1), some (.inl v3_7)] [] (0, 0) I_7 J Rf G
    unfold m_89_b7 at h
    refine go_iload_n (pc' := 8) rfl rfl rfl ?_
    refine go_aload_n (pc' := 9) rfl rfl rfl ?_
    obtain ⟨g0, h⟩ := o_gE h
    refine go_getI (pc' := 12) rfl rfl (by decide) (by decide) (o_kdE g0) rfl ?_
    refine go_icmp_ge (pt := 69) (pc' := 15) rfl rfl rfl (fun h12 => ?_) (fun h12 => ?_)
    · replace h := o_t h12 h
      exact ex7_69 _ (some (.inl v3_7)) (lp_exitE h hk7)
    · replace h := o_f h12 h
      refine go_iload_n (pc' := 16) rfl rfl rfl ?_
      refine go_iload_n (pc' := 17) rfl rfl rfl ?_
      obtain ⟨r_17, q_17, h⟩ := o_b1E h
      refine go_callS (pc' := 20) (B' := (0, 0)) (st' := [.inl r_17]) rfl rfl (Or.inl (by decide)) rfl rfl trivial (md_183 (by omega) q_17) rfl rfl rfl ?_
      refine go_if_ne (pt := 63) (pc' := 23) rfl rfl rfl (fun h20 => ?_) (fun h20 => ?_)
      · replace h := o_f h20 h
        obtain ⟨x3_63, ex3_63, h⟩ := o_b1E h
        refine go_iincE (pc' := 66) rfl rfl (y := (nI 1)) rfl ex3_63 (lo' := [some (.inr (.inr th)), some (.inr (.inr a0)), some (.inl a1), some (.inl x3_63)]) rfl rfl ?_
        refine go_goto (pc' := 7) rfl rfl ?_
        exact (lp_backE h hk7 :)
      · replace h := o_t (Decidable.of_not_not h20) h
        refine go_aload_n (pc' := 24) rfl rfl rfl ?_
        refine go_iload_n (pc' := 25) rfl rfl rfl ?_
        refine go_iconst (pc' := 26) (v := (nI 1)) rfl rfl rfl ?_
        refine go_iload_n (pc' := 27) rfl rfl rfl ?_
        refine go_ishl (pc' := 28) rfl rfl ?_
        refine go_ior (pc' := 29) rfl rfl ?_
        obtain ⟨r_29, q_29, h⟩ := o_b1E h
        refine go_callV (pc' := 32) (B' := (0, 0)) (st' := [.inl r_29]) rfl rfl (Or.inl (by decide)) rfl rfl (o_kdE g0) (md_122 (by omega) (o_kdE g0) q_29) rfl rfl rfl ?_
        refine go_if_eq (pt := 63) (pc' := 35) rfl rfl rfl (fun h32 => ?_) (fun h32 => ?_)
        · replace h := o_t h32 h
          obtain ⟨x3_63, ex3_63, h⟩ := o_b1E h
          refine go_iincE (pc' := 66) rfl rfl (y := (nI 1)) rfl ex3_63 (lo' := [some (.inr (.inr th)), some (.inr (.inr a0)), some (.inl a1), some (.inl x3_63)]) rfl rfl ?_
          refine go_goto (pc' := 7) rfl rfl ?_
          exact (lp_backE h hk7 :)
        · replace h := o_f h32 h
          refine go_aload_n (pc' := 36) rfl rfl rfl ?_
          refine go_getR (pc' := 39) rfl rfl hth rfl ?_
          refine go_iload_n (pc' := 40) rfl rfl rfl ?_
          refine go_aload_n (pc' := 41) rfl rfl rfl ?_
          refine go_getR (pc' := 44) rfl rfl (o_kdE g0) rfl ?_
          refine go_iload_n (pc' := 45) rfl rfl rfl ?_
          refine go_iconst (pc' := 46) (v := (nI 1)) rfl rfl rfl ?_
          refine go_iload_n (pc' := 47) rfl rfl rfl ?_
          refine go_ishl (pc' := 48) rfl rfl ?_
          refine go_ior (pc' := 49) rfl rfl ?_
          obtain ⟨g1, h⟩ := o_gE h
          refine go_iaload (pc' := 50) rfl (o_inK g1) (o_inB g1) rfl ?_
          obtain ⟨g2, h⟩ := o_gE h
          obtain ⟨I_50, eI_50, h⟩ := o_b1E h
          refine go_iastore (pc' := 51) rfl (o_inK g2) (o_inB g2) rfl ?_
          refine go_ndMI eI_50 ?_
          refine go_aload_n (pc' := 52) rfl rfl rfl ?_
          refine go_dupR (pc' := 53) rfl rfl ?_
          refine go_getI (pc' := 56) rfl rfl (by decide) (by decide) hth rfl ?_
          refine go_iconst (pc' := 57) (v := (nI 1)) rfl rfl rfl ?_
          refine go_iload_n (pc' := 58) rfl rfl rfl ?_
          refine go_ishl (pc' := 59) rfl rfl ?_
          refine go_ior (pc' := 60) rfl rfl ?_
          obtain ⟨I_60, eI_60, h⟩ := o_b1E h
          refine go_putI (pc' := 63) rfl rfl (fun h => by cases h) hth rfl ?_
          refine go_ndMI eI_60 ?_
          obtain ⟨x3_63, ex3_63, h⟩ := o_b1E h
          refine go_iincE (pc' := 66) rfl rfl (y := (nI 1)) rfl ex3_63 (lo' := [some (.inr (.inr th)), some (.inr (.inr a0)), some (.inl a1), some (.inl x3_63)]) rfl rfl ?_
          refine go_goto (pc' := 7) rfl rfl ?_
          exact (lp_backE h hk7 :))
  exact lo7 _ ((nI 0), I_2) hl7 
