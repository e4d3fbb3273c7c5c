/-! Models of methods and their proofs, piece 16. Printed by wip/whole/pr10.py. -/
def m_268_x5_62 (th : Nat) (a0 : Int32) (a1 : Int32) (I : ai_I) (Rf : ai_R) (G : ai_G) (w3_62 : Int32) : Option (Int32) :=
  if w3_62 = (-1 : Int32) then (some (-1 : Int32)) else (o_b1 (m_265 th a0 w3_62 I Rf G) (fun r_70 => o_b1 (m_265 th a0 a1 I Rf G) (fun r_76 => if r_70 ≤ r_76 then (some (-1 : Int32)) else (some w3_62))))
def m_268_b5 (th : Nat) (a0 : Int32) (a1 : Int32) (I : ai_I) (Rf : ai_R) (G : ai_G) (v3_5 : Int32) (v4_5 : Int32) : Option ((Int32 × Int32) ⊕ Int32) :=
  if (nI 256) ≤ v4_5 then (some (Sum.inr v3_5)) else (o_b1 (m_199 th a0 v4_5 I Rf G) (fun r_17 => if r_17 = 0 then (o_b1 (some (v4_5 + (nI 1))) (fun x4_56 => some (Sum.inl (v3_5, x4_56)))) else (o_b1 (m_267 a1 v4_5) (fun r_26 => if r_26 = 0 then (o_b1 (some (v4_5 + (nI 1))) (fun x4_56 => some (Sum.inl (v3_5, x4_56)))) else (if v3_5 = (-1 : Int32) then (o_b1 (some (v4_5 + (nI 1))) (fun x4_56 => some (Sum.inl (v4_5, x4_56)))) else (o_b1 (m_265 th a0 v4_5 I Rf G) (fun r_41 => o_b1 (m_265 th a0 v3_5 I Rf G) (fun r_47 => if r_41 ≤ r_47 then (o_b1 (some (v4_5 + (nI 1))) (fun x4_56 => some (Sum.inl (v3_5, x4_56)))) else (o_b1 (some (v4_5 + (nI 1))) (fun x4_56 => some (Sum.inl (v4_5, x4_56))))))))))))
/-- PricedBasesModel.nextBase(II)I -/
def m_268 (th : Nat) (a0 : Int32) (a1 : Int32) (I : ai_I) (Rf : ai_R) (G : ai_G) : Option (Int32) :=
  o_s1 (lp (fun s => m_268_b5 th a0 a1 I Rf G s.1 s.2) o_N ((-1 : Int32), (nI 0))) (fun t => m_268_x5_62 th a0 a1 I Rf G t)
theorem md_268 {d : Nat} {I : ai_I} {J : ai_J} {Rf : ai_R} {G : ai_G} {th : Nat} {a0 : Int32} {a1 : Int32} {r : Int32} (hd : 4 ≤ d) (hth : G.1 th = 11) (h : m_268 th a0 a1 I Rf G = some r) : ai_Cl si_t si_ms d 268 [.inr (.inr th), .inl a0, .inl a1] I J Rf G (some (.inl r)) I J Rf G := by
  obtain ⟨e, rfl⟩ : ∃ e, d = e + 1 := ⟨d - 1, by omega⟩
  unfold m_268 at h
  refine sp_in (lo := [some (.inr (.inr th)), some (.inl a0), some (.inl a1), none, none]) (B := (0, 0)) rfl (Nat.le_of_ble_eq_true rfl) rfl rfl ?_
  refine go_iconst (pc' := 1) (v := (-1 : Int32)) rfl rfl rfl ?_
  refine go_istore_n (pc' := 2) (lo' := [some (.inr (.inr th)), some (.inl a0), some (.inl a1), some (.inl (-1 : Int32)), none]) rfl rfl rfl ?_
  refine go_iconst (pc' := 3) (v := (nI 0)) rfl rfl rfl ?_
  refine go_istore (pc' := 5) (lo' := [some (.inr (.inr th)), some (.inl a0), some (.inl a1), some (.inl (-1 : Int32)), some (.inl (nI 0))]) rfl rfl rfl ?_
  obtain ⟨q5, hl5, hc5_62⟩ := o_s1E h
  have ex5_62 : ∀ (w3_62 : Int32) (z4_x62 : Option ai_V), w3_62 = q5 → ai_Go si_t (11, false, 0, cd_268) (ai_Cl si_t si_ms e) (sp_Q (some (.inl r)) I J Rf G) 62 [some (.inr (.inr th)), some (.inl a0), some (.inl a1), some (.inl w3_62), z4_x62] [] (0, 0) I J Rf G := by
    intro w3_62 z4_x62 hq
    have h : m_268_x5_62 th a0 a1 I Rf G w3_62 = some r := hc5_62 w3_62 hq.symm
    unfold m_268_x5_62 at h
    refine go_iload_n (pc' := 63) rfl rfl rfl ?_
    refine go_iconst (pc' := 64) (v := (-1 : Int32)) rfl rfl rfl ?_
    refine go_icmp_eq (pt := 86) (pc' := 67) rfl rfl rfl (fun h64 => ?_) (fun h64 => ?_)
    · replace h := o_t h64 h
      refine go_iconst (pc' := 87) (v := (-1 : Int32)) rfl rfl rfl ?_
      cases h
      exact go_iret rfl (trivial) ⟨rfl, rfl, rfl, rfl, rfl⟩
    · replace h := o_f h64 h
      refine go_aload_n (pc' := 68) rfl rfl rfl ?_
      refine go_iload_n (pc' := 69) rfl rfl rfl ?_
      refine go_iload_n (pc' := 70) rfl rfl rfl ?_
      obtain ⟨r_70, q_70, h⟩ := o_b1E h
      refine go_callV (pc' := 73) (B' := (0, 0)) (st' := [.inl r_70]) rfl rfl (Or.inl (by decide)) rfl rfl hth (md_265 (by omega) hth q_70) rfl rfl rfl ?_
      refine go_aload_n (pc' := 74) rfl rfl rfl ?_
      refine go_iload_n (pc' := 75) rfl rfl rfl ?_
      refine go_iload_n (pc' := 76) rfl rfl rfl ?_
      obtain ⟨r_76, q_76, h⟩ := o_b1E h
      refine go_callV (pc' := 79) (B' := (0, 0)) (st' := [.inl r_76, .inl r_70]) rfl rfl (Or.inl (by decide)) rfl rfl hth (md_265 (by omega) hth q_76) rfl rfl rfl ?_
      refine go_icmp_le (pt := 86) (pc' := 82) rfl rfl rfl (fun h79 => ?_) (fun h79 => ?_)
      · replace h := o_t h79 h
        refine go_iconst (pc' := 87) (v := (-1 : Int32)) rfl rfl rfl ?_
        cases h
        exact go_iret rfl (trivial) ⟨rfl, rfl, rfl, rfl, rfl⟩
      · replace h := o_f h79 h
        refine go_iload_n (pc' := 83) rfl rfl rfl ?_
        refine go_goto (pc' := 87) rfl rfl ?_
        cases h
        exact go_iret rfl (trivial) ⟨rfl, rfl, rfl, rfl, rfl⟩
  have lo5 : ∀ n s, lp (fun s => m_268_b5 th a0 a1 I Rf G s.1 s.2) n s = some q5 → (fun s => ai_Go si_t (11, false, 0, cd_268) (ai_Cl si_t si_ms e) (sp_Q (some (.inl r)) I J Rf G) 5 [some (.inr (.inr th)), some (.inl a0), some (.inl a1), some (.inl s.1), some (.inl s.2)] [] (0, 0) I J Rf G) s := lp_go (fun s x5 hx hk5 => by
    obtain ⟨v3_5, v4_5⟩ := s
    have h : m_268_b5 th a0 a1 I Rf G v3_5 v4_5 = some x5 := hx
    clear hx
    show ai_Go si_t (11, false, 0, cd_268) (ai_Cl si_t si_ms e) (sp_Q (some (.inl r)) I J Rf G) 5 [some (.inr (.inr th)), some (.inl a0), some (.inl a1), some (.inl v3_5), some (.inl v4_5)] [] (0, 0) I J Rf G
    unfold m_268_b5 at h
    refine go_iload (pc' := 7) rfl rfl rfl ?_
    refine go_sipush (pc' := 10) (v := (nI 256)) rfl rfl rfl ?_
    refine go_icmp_ge (pt := 62) (pc' := 13) rfl rfl rfl (fun h10 => ?_) (fun h10 => ?_)
    · replace h := o_t h10 h
      exact ex5_62 _ (some (.inl v4_5)) (lp_exitE h hk5)
    · replace h := o_f h10 h
      refine go_aload_n (pc' := 14) rfl rfl rfl ?_
      refine go_iload_n (pc' := 15) rfl rfl rfl ?_
      refine go_iload (pc' := 17) rfl rfl rfl ?_
      obtain ⟨r_17, q_17, h⟩ := o_b1E h
      refine go_callV (pc' := 20) (B' := (0, 0)) (st' := [.inl r_17]) rfl rfl (Or.inl (by decide)) rfl rfl hth (md_199 (by omega) hth q_17) rfl rfl rfl ?_
      refine go_if_eq (pt := 56) (pc' := 23) rfl rfl rfl (fun h20 => ?_) (fun h20 => ?_)
      · replace h := o_t h20 h
        obtain ⟨x4_56, ex4_56, h⟩ := o_b1E h
        refine go_iincE (pc' := 59) rfl rfl (y := (nI 1)) rfl ex4_56 (lo' := [some (.inr (.inr th)), some (.inl a0), some (.inl a1), some (.inl v3_5), some (.inl x4_56)]) rfl rfl ?_
        refine go_goto (pc' := 5) rfl rfl ?_
        exact (lp_backE h hk5 :)
      · replace h := o_f h20 h
        refine go_iload_n (pc' := 24) rfl rfl rfl ?_
        refine go_iload (pc' := 26) rfl rfl rfl ?_
        obtain ⟨r_26, q_26, h⟩ := o_b1E h
        refine go_callS (pc' := 29) (B' := (0, 0)) (st' := [.inl r_26]) rfl rfl (Or.inl (by decide)) rfl rfl trivial (md_267 (by omega) q_26) rfl rfl rfl ?_
        refine go_if_eq (pt := 56) (pc' := 32) rfl rfl rfl (fun h29 => ?_) (fun h29 => ?_)
        · replace h := o_t h29 h
          obtain ⟨x4_56, ex4_56, h⟩ := o_b1E h
          refine go_iincE (pc' := 59) rfl rfl (y := (nI 1)) rfl ex4_56 (lo' := [some (.inr (.inr th)), some (.inl a0), some (.inl a1), some (.inl v3_5), some (.inl x4_56)]) rfl rfl ?_
          refine go_goto (pc' := 5) rfl rfl ?_
          exact (lp_backE h hk5 :)
        · replace h := o_f h29 h
          refine go_iload_n (pc' := 33) rfl rfl rfl ?_
          refine go_iconst (pc' := 34) (v := (-1 : Int32)) rfl rfl rfl ?_
          refine go_icmp_eq (pt := 53) (pc' := 37) rfl rfl rfl (fun h34 => ?_) (fun h34 => ?_)
          · replace h := o_t h34 h
            refine go_iload (pc' := 55) rfl rfl rfl ?_
            refine go_istore_n (pc' := 56) (lo' := [some (.inr (.inr th)), some (.inl a0), some (.inl a1), some (.inl v4_5), some (.inl v4_5)]) rfl rfl rfl ?_
            obtain ⟨x4_56, ex4_56, h⟩ := o_b1E h
            refine go_iincE (pc' := 59) rfl rfl (y := (nI 1)) rfl ex4_56 (lo' := [some (.inr (.inr th)), some (.inl a0), some (.inl a1), some (.inl v4_5), some (.inl x4_56)]) rfl rfl ?_
            refine go_goto (pc' := 5) rfl rfl ?_
            exact (lp_backE h hk5 :)
          · replace h := o_f h34 h
            refine go_aload_n (pc' := 38) rfl rfl rfl ?_
            refine go_iload_n (pc' := 39) rfl rfl rfl ?_
            refine go_iload (pc' := 41) rfl rfl rfl ?_
            obtain ⟨r_41, q_41, h⟩ := o_b1E h
            refine go_callV (pc' := 44) (B' := (0, 0)) (st' := [.inl r_41]) rfl rfl (Or.inl (by decide)) rfl rfl hth (md_265 (by omega) hth q_41) rfl rfl rfl ?_
            refine go_aload_n (pc' := 45) rfl rfl rfl ?_
            refine go_iload_n (pc' := 46) rfl rfl rfl ?_
            refine go_iload_n (pc' := 47) rfl rfl rfl ?_
            obtain ⟨r_47, q_47, h⟩ := o_b1E h
            refine go_callV (pc' := 50) (B' := (0, 0)) (st' := [.inl r_47, .inl r_41]) rfl rfl (Or.inl (by decide)) rfl rfl hth (md_265 (by omega) hth q_47) rfl rfl rfl ?_
            refine go_icmp_le (pt := 56) (pc' := 53) rfl rfl rfl (fun h50 => ?_) (fun h50 => ?_)
            · replace h := o_t h50 h
              obtain ⟨x4_56, ex4_56, h⟩ := o_b1E h
              refine go_iincE (pc' := 59) rfl rfl (y := (nI 1)) rfl ex4_56 (lo' := [some (.inr (.inr th)), some (.inl a0), some (.inl a1), some (.inl v3_5), some (.inl x4_56)]) rfl rfl ?_
              refine go_goto (pc' := 5) rfl rfl ?_
              exact (lp_backE h hk5 :)
            · replace h := o_f h50 h
              refine go_iload (pc' := 55) rfl rfl rfl ?_
              refine go_istore_n (pc' := 56) (lo' := [some (.inr (.inr th)), some (.inl a0), some (.inl a1), some (.inl v4_5), some (.inl v4_5)]) rfl rfl rfl ?_
              obtain ⟨x4_56, ex4_56, h⟩ := o_b1E h
              refine go_iincE (pc' := 59) rfl rfl (y := (nI 1)) rfl ex4_56 (lo' := [some (.inr (.inr th)), some (.inl a0), some (.inl a1), some (.inl v4_5), some (.inl x4_56)]) rfl rfl ?_
              refine go_goto (pc' := 5) rfl rfl ?_
              exact (lp_backE h hk5 :))
  exact lo5 _ ((-1 : Int32), (nI 0)) hl5 
def m_269_x15_45 (w3_45 : Int32) (Ix_45 : ai_I) : Option (Int32 × ai_I) :=
  some (w3_45, Ix_45)
def m_269_b15 (th : Nat) (a0 : Int32) (Rf : ai_R) (G : ai_G) (v3_15 : Int32) (v4_15 : Int32) (I_15 : ai_I) : Option ((Int32 × Int32 × ai_I) ⊕ (Int32 × ai_I)) :=
  if v4_15 = (-1 : Int32) then (some (Sum.inr (v3_15, I_15))) else (o_b1 (some (va_up I_15 th (va_up (I_15 th) 21 ((I_15 th 21) + (nI 1))))) (fun I_28 => o_b1 (m_268 th a0 v4_15 I_28 Rf G) (fun r_37 => some (Sum.inl (v4_15, r_37, I_28)))))
/-- PricedBasesModel.greedyFrom(II)I -/
def m_269 (th : Nat) (a0 : Int32) (a1 : Int32) (I : ai_I) (Rf : ai_R) (G : ai_G) : Option (Int32 × ai_I) :=
  o_b1 (m_268 th a0 a1 I Rf G) (fun r_5 => o_b1 (some (va_up I th (va_up (I th) 21 (nI 0)))) (fun I_12 => o_s1 (lp (fun s => m_269_b15 th a0 Rf G s.1 s.2.1 s.2.2) o_N (a1, r_5, I_12)) (fun t => m_269_x15_45 t.1 t.2)))
theorem md_269 {d : Nat} {I : ai_I} {J : ai_J} {Rf : ai_R} {G : ai_G} {th : Nat} {a0 : Int32} {a1 : Int32} {r : Int32} {I1 : ai_I} (hd : 5 ≤ d) (hth : G.1 th = 11) (h : m_269 th a0 a1 I Rf G = some (r, I1)) : ai_Cl si_t si_ms d 269 [.inr (.inr th), .inl a0, .inl a1] I J Rf G (some (.inl r)) I1 J Rf G := by
  obtain ⟨e, rfl⟩ : ∃ e, d = e + 1 := ⟨d - 1, by omega⟩
  unfold m_269 at h
  refine sp_in (lo := [some (.inr (.inr th)), some (.inl a0), some (.inl a1), none, none]) (B := (0, 0)) rfl (Nat.le_of_ble_eq_true rfl) rfl rfl ?_
  refine go_iload_n (pc' := 1) rfl rfl rfl ?_
  refine go_istore_n (pc' := 2) (lo' := [some (.inr (.inr th)), some (.inl a0), some (.inl a1), some (.inl a1), none]) rfl rfl rfl ?_
  refine go_aload_n (pc' := 3) rfl rfl rfl ?_
  refine go_iload_n (pc' := 4) rfl rfl rfl ?_
  refine go_iload_n (pc' := 5) rfl rfl rfl ?_
  obtain ⟨r_5, q_5, h⟩ := o_b1E h
  refine go_callV (pc' := 8) (B' := (0, 0)) (st' := [.inl r_5]) rfl rfl (Or.inl (by decide)) rfl rfl hth (md_268 (by omega) hth q_5) rfl rfl rfl ?_
  refine go_istore (pc' := 10) (lo' := [some (.inr (.inr th)), some (.inl a0), some (.inl a1), some (.inl a1), some (.inl r_5)]) rfl rfl rfl ?_
  refine go_aload_n (pc' := 11) rfl rfl rfl ?_
  refine go_iconst (pc' := 12) (v := (nI 0)) rfl rfl rfl ?_
  obtain ⟨I_12, eI_12, h⟩ := o_b1E h
  refine go_putI (pc' := 15) rfl rfl (fun h => by cases h) hth rfl ?_
  refine go_ndMI eI_12 ?_
  obtain ⟨q15, hl15, hc15_45⟩ := o_s1E h
  have ex15_45 : ∀ (w3_45 : Int32) (Ix_45 : ai_I) (z4_x45 : Option ai_V), (w3_45, Ix_45) = q15 → ai_Go si_t (11, false, 0, cd_269) (ai_Cl si_t si_ms e) (sp_Q (some (.inl r)) I1 J Rf G) 45 [some (.inr (.inr th)), some (.inl a0), some (.inl a1), some (.inl w3_45), z4_x45] [] (0, 0) Ix_45 J Rf G := by
    intro w3_45 Ix_45 z4_x45 hq
    have h : m_269_x15_45 w3_45 Ix_45 = some (r, I1) := hc15_45 (w3_45, Ix_45) hq.symm
    unfold m_269_x15_45 at h
    refine go_iload_n (pc' := 46) rfl rfl rfl ?_
    cases h
    exact go_iret rfl (trivial) ⟨rfl, rfl, rfl, rfl, rfl⟩
  have lo15 : ∀ n s, lp (fun s => m_269_b15 th a0 Rf G s.1 s.2.1 s.2.2) n s = some q15 → (fun s => ai_Go si_t (11, false, 0, cd_269) (ai_Cl si_t si_ms e) (sp_Q (some (.inl r)) I1 J Rf G) 15 [some (.inr (.inr th)), some (.inl a0), some (.inl a1), some (.inl s.1), some (.inl s.2.1)] [] (0, 0) s.2.2 J Rf G) s := lp_go (fun s x15 hx hk15 => by
    obtain ⟨v3_15, v4_15, I_15⟩ := s
    have h : m_269_b15 th a0 Rf G v3_15 v4_15 I_15 = some x15 := hx
    clear hx
    show ai_Go si_t (11, false, 0, cd_269) (ai_Cl si_t si_ms e) (sp_Q (some (.inl r)) I1 J Rf G) 15 [some (.inr (.inr th)), some (.inl a0), some (.inl a1), some (.inl v3_15), some (.inl v4_15)] [] (0, 0) I_15 J Rf G
    unfold m_269_b15 at h
    refine go_iload (pc' := 17) rfl rfl rfl ?_
    refine go_iconst (pc' := 18) (v := (-1 : Int32)) rfl rfl rfl ?_
    refine go_icmp_eq (pt := 45) (pc' := 21) rfl rfl rfl (fun h18 => ?_) (fun h18 => ?_)
    · replace h := o_t h18 h
      exact ex15_45 _ _ (some (.inl v4_15)) (lp_exitE h hk15)
    · replace h := o_f h18 h
      refine go_aload_n (pc' := 22) rfl rfl rfl ?_
      refine go_aload_n (pc' := 23) rfl rfl rfl ?_
      refine go_getI (pc' := 26) rfl rfl (by decide) (by decide) hth rfl ?_
      refine go_iconst (pc' := 27) (v := (nI 1)) rfl rfl rfl ?_
      refine go_iadd (pc' := 28) rfl rfl ?_
      obtain ⟨I_28, eI_28, h⟩ := o_b1E h
      refine go_putI (pc' := 31) rfl rfl (fun h => by cases h) hth rfl ?_
      refine go_ndMI eI_28 ?_
      refine go_iload (pc' := 33) rfl rfl rfl ?_
      refine go_istore_n (pc' := 34) (lo' := [some (.inr (.inr th)), some (.inl a0), some (.inl a1), some (.inl v4_15), some (.inl v4_15)]) rfl rfl rfl ?_
      refine go_aload_n (pc' := 35) rfl rfl rfl ?_
      refine go_iload_n (pc' := 36) rfl rfl rfl ?_
      refine go_iload_n (pc' := 37) rfl rfl rfl ?_
      obtain ⟨r_37, q_37, h⟩ := o_b1E h
      refine go_callV (pc' := 40) (B' := (0, 0)) (st' := [.inl r_37]) rfl rfl (Or.inl (by decide)) rfl rfl hth (md_268 (by omega) hth q_37) rfl rfl rfl ?_
      refine go_istore (pc' := 42) (lo' := [some (.inr (.inr th)), some (.inl a0), some (.inl a1), some (.inl v4_15), some (.inl r_37)]) rfl rfl rfl ?_
      refine go_goto (pc' := 15) rfl rfl ?_
      exact (lp_backE h hk15 :))
  exact lo15 _ (a1, r_5, I_12) hl15 
/-- PricedBasesModel.greedy(III)I -/
def m_270 (th : Nat) (a0 : Int32) (a1 : Int32) (a2 : Int32) (I : ai_I) (Rf : ai_R) (G : ai_G) : Option (Int32 × ai_I) :=
  o_b1 (m_200 a0) (fun r_1 => if r_1 = 0 then (some ((-2147483648 : Int32), I)) else (o_b1 (m_199 th a0 a1 I Rf G) (fun r_10 => if r_10 = 0 then (some ((-2147483648 : Int32), I)) else (o_b1 (m_189 a2.toInt64 (0 : Int64) (3 : Int64)) (fun r_22 => if r_22 = 0 then (some ((-2147483648 : Int32), I)) else (o_b2 (m_269 th a0 a1 I Rf G) (fun r_34 I_34 => if a2 = 0 then (some (r_34, I_34)) else (if a2 = (nI 1) then (o_b1 (m_265 th a0 r_34 I_34 Rf G) (fun r_57 => some (r_57, I_34))) else (if a2 = (nI 2) then (some (I_34 th 21, I_34)) else (o_b1 (m_265 th a0 r_34 I_34 Rf G) (fun r_79 => o_b1 (m_266 th a0 I_34 Rf G) (fun r_84 => if r_79 = r_84 then (some ((nI 1), I_34)) else (some ((nI 0), I_34))))))))))))))
theorem md_270 {d : Nat} {I : ai_I} {J : ai_J} {Rf : ai_R} {G : ai_G} {th : Nat} {a0 : Int32} {a1 : Int32} {a2 : Int32} {r : Int32} {I1 : ai_I} (hd : 6 ≤ d) (hth : G.1 th = 11) (h : m_270 th a0 a1 a2 I Rf G = some (r, I1)) : ai_Cl si_t si_ms d 270 [.inr (.inr th), .inl a0, .inl a1, .inl a2] I J Rf G (some (.inl r)) I1 J Rf G := by
  obtain ⟨e, rfl⟩ : ∃ e, d = e + 1 := ⟨d - 1, by omega⟩
  unfold m_270 at h
  refine sp_in (lo := [some (.inr (.inr th)), some (.inl a0), some (.inl a1), some (.inl a2), none]) (B := (0, 0)) rfl (Nat.le_of_ble_eq_true rfl) rfl rfl ?_
  refine go_iload_n (pc' := 1) rfl rfl rfl ?_
  obtain ⟨r_1, q_1, h⟩ := o_b1E h
  refine go_callS (pc' := 4) (B' := (0, 0)) (st' := [.inl r_1]) rfl rfl (Or.inl (by decide)) rfl rfl trivial (md_200 (by omega) q_1) rfl rfl rfl ?_
  refine go_if_eq (pt := 28) (pc' := 7) rfl rfl rfl (fun h4 => ?_) (fun h4 => ?_)
  · replace h := o_t h4 h
    refine go_ldc (pc' := 30) (v := .inl (-2147483648 : Int32)) rfl rfl rfl ?_
    cases h
    exact go_iret rfl (trivial) ⟨rfl, rfl, rfl, rfl, rfl⟩
  · replace h := o_f h4 h
    refine go_aload_n (pc' := 8) rfl rfl rfl ?_
    refine go_iload_n (pc' := 9) rfl rfl rfl ?_
    refine go_iload_n (pc' := 10) rfl rfl rfl ?_
    obtain ⟨r_10, q_10, h⟩ := o_b1E h
    refine go_callV (pc' := 13) (B' := (0, 0)) (st' := [.inl r_10]) rfl rfl (Or.inl (by decide)) rfl rfl hth (md_199 (by omega) hth q_10) rfl rfl rfl ?_
    refine go_if_eq (pt := 28) (pc' := 16) rfl rfl rfl (fun h13 => ?_) (fun h13 => ?_)
    · replace h := o_t h13 h
      refine go_ldc (pc' := 30) (v := .inl (-2147483648 : Int32)) rfl rfl rfl ?_
      cases h
      exact go_iret rfl (trivial) ⟨rfl, rfl, rfl, rfl, rfl⟩
    · replace h := o_f h13 h
      refine go_iload_n (pc' := 17) rfl rfl rfl ?_
      refine go_i2l (pc' := 18) rfl rfl ?_
      refine go_lconst (pc' := 19) (v := (0 : Int64)) rfl rfl rfl ?_
      refine go_ldc2_w (pc' := 22) (v := .inr (.inl (3 : Int64))) rfl rfl rfl ?_
      obtain ⟨r_22, q_22, h⟩ := o_b1E h
      refine go_callS (pc' := 25) (B' := (0, 0)) (st' := [.inl r_22]) rfl rfl (Or.inl (by decide)) rfl rfl trivial (md_189 (by omega) q_22) rfl rfl rfl ?_
      refine go_if_ne (pt := 31) (pc' := 28) rfl rfl rfl (fun h25 => ?_) (fun h25 => ?_)
      · replace h := o_f h25 h
        refine go_aload_n (pc' := 32) rfl rfl rfl ?_
        refine go_iload_n (pc' := 33) rfl rfl rfl ?_
        refine go_iload_n (pc' := 34) rfl rfl rfl ?_
        obtain ⟨r_34, I_34, q_34, h⟩ := o_b2E h
        refine go_callV (pc' := 37) (B' := (0, 0)) (st' := [.inl r_34]) rfl rfl (Or.inl (by decide)) rfl rfl hth (md_269 (by omega) hth q_34) rfl rfl rfl ?_
        refine go_istore (pc' := 39) (lo' := [some (.inr (.inr th)), some (.inl a0), some (.inl a1), some (.inl a2), some (.inl r_34)]) rfl rfl rfl ?_
        refine go_iload_n (pc' := 40) rfl rfl rfl ?_
        refine go_if_ne (pt := 48) (pc' := 43) rfl rfl rfl (fun h40 => ?_) (fun h40 => ?_)
        · replace h := o_f h40 h
          refine go_iload_n (pc' := 49) rfl rfl rfl ?_
          refine go_iconst (pc' := 50) (v := (nI 1)) rfl rfl rfl ?_
          refine go_icmp_ne (pt := 63) (pc' := 53) rfl rfl rfl (fun h50 => ?_) (fun h50 => ?_)
          · replace h := o_f h50 h
            refine go_iload_n (pc' := 64) rfl rfl rfl ?_
            refine go_iconst (pc' := 65) (v := (nI 2)) rfl rfl rfl ?_
            refine go_icmp_ne (pt := 75) (pc' := 68) rfl rfl rfl (fun h65 => ?_) (fun h65 => ?_)
            · replace h := o_f h65 h
              refine go_aload_n (pc' := 76) rfl rfl rfl ?_
              refine go_iload_n (pc' := 77) rfl rfl rfl ?_
              refine go_iload (pc' := 79) rfl rfl rfl ?_
              obtain ⟨r_79, q_79, h⟩ := o_b1E h
              refine go_callV (pc' := 82) (B' := (0, 0)) (st' := [.inl r_79]) rfl rfl (Or.inl (by decide)) rfl rfl hth (md_265 (by omega) hth q_79) rfl rfl rfl ?_
              refine go_aload_n (pc' := 83) rfl rfl rfl ?_
              refine go_iload_n (pc' := 84) rfl rfl rfl ?_
              obtain ⟨r_84, q_84, h⟩ := o_b1E h
              refine go_callV (pc' := 87) (B' := (0, 0)) (st' := [.inl r_84, .inl r_79]) rfl rfl (Or.inl (by decide)) rfl rfl hth (md_266 (by omega) hth q_84) rfl rfl rfl ?_
              refine go_icmp_ne (pt := 94) (pc' := 90) rfl rfl rfl (fun h87 => ?_) (fun h87 => ?_)
              · replace h := o_f h87 h
                refine go_iconst (pc' := 95) (v := (nI 0)) rfl rfl rfl ?_
                cases h
                exact go_iret rfl (trivial) ⟨rfl, rfl, rfl, rfl, rfl⟩
              · replace h := o_t (Decidable.of_not_not h87) h
                refine go_iconst (pc' := 91) (v := (nI 1)) rfl rfl rfl ?_
                refine go_goto (pc' := 95) rfl rfl ?_
                cases h
                exact go_iret rfl (trivial) ⟨rfl, rfl, rfl, rfl, rfl⟩
            · replace h := o_t (Decidable.of_not_not h65) h
              refine go_aload_n (pc' := 69) rfl rfl rfl ?_
              refine go_getI (pc' := 72) rfl rfl (by decide) (by decide) hth rfl ?_
              refine go_goto (pc' := 95) rfl rfl ?_
              cases h
              exact go_iret rfl (trivial) ⟨rfl, rfl, rfl, rfl, rfl⟩
          · replace h := o_t (Decidable.of_not_not h50) h
            refine go_aload_n (pc' := 54) rfl rfl rfl ?_
            refine go_iload_n (pc' := 55) rfl rfl rfl ?_
            refine go_iload (pc' := 57) rfl rfl rfl ?_
            obtain ⟨r_57, q_57, h⟩ := o_b1E h
            refine go_callV (pc' := 60) (B' := (0, 0)) (st' := [.inl r_57]) rfl rfl (Or.inl (by decide)) rfl rfl hth (md_265 (by omega) hth q_57) rfl rfl rfl ?_
            refine go_goto (pc' := 95) rfl rfl ?_
            cases h
            exact go_iret rfl (trivial) ⟨rfl, rfl, rfl, rfl, rfl⟩
        · replace h := o_t (Decidable.of_not_not h40) h
          refine go_iload (pc' := 45) rfl rfl rfl ?_
          refine go_goto (pc' := 95) rfl rfl ?_
          cases h
          exact go_iret rfl (trivial) ⟨rfl, rfl, rfl, rfl, rfl⟩
      · replace h := o_t (Decidable.of_not_not h25) h
        refine go_ldc (pc' := 30) (v := .inl (-2147483648 : Int32)) rfl rfl rfl ?_
        cases h
        exact go_iret rfl (trivial) ⟨rfl, rfl, rfl, rfl, rfl⟩
def m_271_x20_64 (w3_64 : Int32) (Ix_64 : ai_I) : Option (Int32 × ai_I) :=
  some (w3_64, Ix_64)
def m_271_b20 (th : Nat) (a0 : Int32) (Rf : ai_R) (G : ai_G) (r_11 : Int32) (v3_20 : Int32) (v4_20 : Int32) (I_20 : ai_I) : Option ((Int32 × Int32 × ai_I) ⊕ (Int32 × ai_I)) :=
  if (nI 256) ≤ v4_20 then (some (Sum.inr (v3_20, I_20))) else (o_b1 (m_199 th a0 v4_20 I_20 Rf G) (fun r_32 => if r_32 = 0 then (o_b1 (some (v4_20 + (nI 1))) (fun x4_58 => some (Sum.inl (v3_20, x4_58, I_20)))) else (o_b2 (m_269 th a0 v4_20 I_20 Rf G) (fun r_44 I_44 => o_b1 (m_265 th a0 r_44 I_44 Rf G) (fun r_47 => if r_47 = r_11 then (o_b1 (some (v3_20 + (nI 1))) (fun x3_57 => o_b1 (some (v4_20 + (nI 1))) (fun x4_58 => some (Sum.inl (x3_57, x4_58, I_44))))) else (o_b1 (some (v4_20 + (nI 1))) (fun x4_58 => some (Sum.inl (v3_20, x4_58, I_44)))))))))
/-- PricedBasesModel.arrive(I)I -/
def m_271 (th : Nat) (a0 : Int32) (I : ai_I) (Rf : ai_R) (G : ai_G) : Option (Int32 × ai_I) :=
  o_b1 (m_200 a0) (fun r_1 => if r_1 = 0 then (some ((-1 : Int32), I)) else (o_b1 (m_266 th a0 I Rf G) (fun r_11 => o_s1 (lp (fun s => m_271_b20 th a0 Rf G r_11 s.1 s.2.1 s.2.2) o_N ((nI 0), (nI 0), I)) (fun t => m_271_x20_64 t.1 t.2))))
theorem md_271 {d : Nat} {I : ai_I} {J : ai_J} {Rf : ai_R} {G : ai_G} {th : Nat} {a0 : Int32} {r : Int32} {I1 : ai_I} (hd : 6 ≤ d) (hth : G.1 th = 11) (h : m_271 th a0 I Rf G = some (r, I1)) : ai_Cl si_t si_ms d 271 [.inr (.inr th), .inl a0] I J Rf G (some (.inl r)) I1 J Rf G := by
  obtain ⟨e, rfl⟩ : ∃ e, d = e + 1 := ⟨d - 1, by omega⟩
  unfold m_271 at h
  refine sp_in (lo := [some (.inr (.inr th)), some (.inl a0), none, none, none]) (B := (0, 0)) rfl (Nat.le_of_ble_eq_true rfl) rfl rfl ?_
  refine go_iload_n (pc' := 1) rfl rfl rfl ?_
  obtain ⟨r_1, q_1, h⟩ := o_b1E h
  refine go_callS (pc' := 4) (B' := (0, 0)) (st' := [.inl r_1]) rfl rfl (Or.inl (by decide)) rfl rfl trivial (md_200 (by omega) q_1) rfl rfl rfl ?_
  refine go_if_ne (pt := 9) (pc' := 7) rfl rfl rfl (fun h4 => ?_) (fun h4 => ?_)
  · replace h := o_f h4 h
    refine go_aload_n (pc' := 10) rfl rfl rfl ?_
    refine go_iload_n (pc' := 11) rfl rfl rfl ?_
    obtain ⟨r_11, q_11, h⟩ := o_b1E h
    refine go_callV (pc' := 14) (B' := (0, 0)) (st' := [.inl r_11]) rfl rfl (Or.inl (by decide)) rfl rfl hth (md_266 (by omega) hth q_11) rfl rfl rfl ?_
    refine go_istore_n (pc' := 15) (lo' := [some (.inr (.inr th)), some (.inl a0), some (.inl r_11), none, none]) rfl rfl rfl ?_
    refine go_iconst (pc' := 16) (v := (nI 0)) rfl rfl rfl ?_
    refine go_istore_n (pc' := 17) (lo' := [some (.inr (.inr th)), some (.inl a0), some (.inl r_11), some (.inl (nI 0)), none]) rfl rfl rfl ?_
    refine go_iconst (pc' := 18) (v := (nI 0)) rfl rfl rfl ?_
    refine go_istore (pc' := 20) (lo' := [some (.inr (.inr th)), some (.inl a0), some (.inl r_11), some (.inl (nI 0)), some (.inl (nI 0))]) rfl rfl rfl ?_
    obtain ⟨q20, hl20, hc20_64⟩ := o_s1E h
    have ex20_64 : ∀ (w3_64 : Int32) (Ix_64 : ai_I) (z4_x64 : Option ai_V), (w3_64, Ix_64) = q20 → ai_Go si_t (11, false, 0, cd_271) (ai_Cl si_t si_ms e) (sp_Q (some (.inl r)) I1 J Rf G) 64 [some (.inr (.inr th)), some (.inl a0), some (.inl r_11), some (.inl w3_64), z4_x64] [] (0, 0) Ix_64 J Rf G := by
      intro w3_64 Ix_64 z4_x64 hq
      have h : m_271_x20_64 w3_64 Ix_64 = some (r, I1) := hc20_64 (w3_64, Ix_64) hq.symm
      unfold m_271_x20_64 at h
      refine go_iload_n (pc' := 65) rfl rfl rfl ?_
      cases h
      exact go_iret rfl (trivial) ⟨rfl, rfl, rfl, rfl, rfl⟩
    have lo20 : ∀ n s, lp (fun s => m_271_b20 th a0 Rf G r_11 s.1 s.2.1 s.2.2) n s = some q20 → (fun s => ai_Go si_t (11, false, 0, cd_271) (ai_Cl si_t si_ms e) (sp_Q (some (.inl r)) I1 J Rf G) 20 [some (.inr (.inr th)), some (.inl a0), some (.inl r_11), some (.inl s.1), some (.inl s.2.1)] [] (0, 0) s.2.2 J Rf G) s := lp_go (fun s x20 hx hk20 => by
      obtain ⟨v3_20, v4_20, I_20⟩ := s
      have h : m_271_b20 th a0 Rf G r_11 v3_20 v4_20 I_20 = some x20 := hx
      clear hx
      show ai_Go si_t (11, false, 0, cd_271) (ai_Cl si_t si_ms e) (sp_Q (some (.inl r)) I1 J Rf G) 20 [some (.inr (.inr th)), some (.inl a0), some (.inl r_11), some (.inl v3_20), some (.inl v4_20)] [] (0, 0) I_20 J Rf G
      unfold m_271_b20 at h
      refine go_iload (pc' := 22) rfl rfl rfl ?_
      refine go_sipush (pc' := 25) (v := (nI 256)) rfl rfl rfl ?_
      refine go_icmp_ge (pt := 64) (pc' := 28) rfl rfl rfl (fun h25 => ?_) (fun h25 => ?_)
      · replace h := o_t h25 h
        exact ex20_64 _ _ (some (.inl v4_20)) (lp_exitE h hk20)
      · replace h := o_f h25 h
        refine go_aload_n (pc' := 29) rfl rfl rfl ?_
        refine go_iload_n (pc' := 30) rfl rfl rfl ?_
        refine go_iload (pc' := 32) rfl rfl rfl ?_
        obtain ⟨r_32, q_32, h⟩ := o_b1E h
        refine go_callV (pc' := 35) (B' := (0, 0)) (st' := [.inl r_32]) rfl rfl (Or.inl (by decide)) rfl rfl hth (md_199 (by omega) hth q_32) rfl rfl rfl ?_
        refine go_if_eq (pt := 58) (pc' := 38) rfl rfl rfl (fun h35 => ?_) (fun h35 => ?_)
        · replace h := o_t h35 h
          obtain ⟨x4_58, ex4_58, h⟩ := o_b1E h
          refine go_iincE (pc' := 61) rfl rfl (y := (nI 1)) rfl ex4_58 (lo' := [some (.inr (.inr th)), some (.inl a0), some (.inl r_11), some (.inl v3_20), some (.inl x4_58)]) rfl rfl ?_
          refine go_goto (pc' := 20) rfl rfl ?_
          exact (lp_backE h hk20 :)
        · replace h := o_f h35 h
          refine go_aload_n (pc' := 39) rfl rfl rfl ?_
          refine go_iload_n (pc' := 40) rfl rfl rfl ?_
          refine go_aload_n (pc' := 41) rfl rfl rfl ?_
          refine go_iload_n (pc' := 42) rfl rfl rfl ?_
          refine go_iload (pc' := 44) rfl rfl rfl ?_
          obtain ⟨r_44, I_44, q_44, h⟩ := o_b2E h
          refine go_callV (pc' := 47) (B' := (0, 0)) (st' := [.inl r_44, .inl a0, .inr (.inr th)]) rfl rfl (Or.inl (by decide)) rfl rfl hth (md_269 (by omega) hth q_44) rfl rfl rfl ?_
          obtain ⟨r_47, q_47, h⟩ := o_b1E h
          refine go_callV (pc' := 50) (B' := (0, 0)) (st' := [.inl r_47]) rfl rfl (Or.inl (by decide)) rfl rfl hth (md_265 (by omega) hth q_47) rfl rfl rfl ?_
          refine go_iload_n (pc' := 51) rfl rfl rfl ?_
          refine go_icmp_ne (pt := 58) (pc' := 54) rfl rfl rfl (fun h51 => ?_) (fun h51 => ?_)
          · replace h := o_f h51 h
            obtain ⟨x4_58, ex4_58, h⟩ := o_b1E h
            refine go_iincE (pc' := 61) rfl rfl (y := (nI 1)) rfl ex4_58 (lo' := [some (.inr (.inr th)), some (.inl a0), some (.inl r_11), some (.inl v3_20), some (.inl x4_58)]) rfl rfl ?_
            refine go_goto (pc' := 20) rfl rfl ?_
            exact (lp_backE h hk20 :)
          · replace h := o_t (Decidable.of_not_not h51) h
            refine go_iload_n (pc' := 55) rfl rfl rfl ?_
            refine go_iconst (pc' := 56) (v := (nI 1)) rfl rfl rfl ?_
            refine go_iadd (pc' := 57) rfl rfl ?_
            obtain ⟨x3_57, ex3_57, h⟩ := o_b1E h
            refine go_ndI ex3_57 ?_
            refine go_istore_n (pc' := 58) (lo' := [some (.inr (.inr th)), some (.inl a0), some (.inl r_11), some (.inl x3_57), some (.inl v4_20)]) rfl rfl rfl ?_
            obtain ⟨x4_58, ex4_58, h⟩ := o_b1E h
            refine go_iincE (pc' := 61) rfl rfl (y := (nI 1)) rfl ex4_58 (lo' := [some (.inr (.inr th)), some (.inl a0), some (.inl r_11), some (.inl x3_57), some (.inl x4_58)]) rfl rfl ?_
            refine go_goto (pc' := 20) rfl rfl ?_
            exact (lp_backE h hk20 :))
    exact lo20 _ ((nI 0), (nI 0), I) hl20 
  · replace h := o_t (Decidable.of_not_not h4) h
    refine go_iconst (pc' := 8) (v := (-1 : Int32)) rfl rfl rfl ?_
    cases h
    exact go_iret rfl (trivial) ⟨rfl, rfl, rfl, rfl, rfl⟩
/-- PricedBasesModel.isInitial(III)Z -/
def m_272 (th : Nat) (a0 : Int32) (a1 : Int32) (a2 : Int32) (I : ai_I) (Rf : ai_R) (G : ai_G) : Option (Int32) :=
  o_b1 (m_199 th a0 a1 I Rf G) (fun r_3 => if r_3 = 0 then (some (nI 0)) else (o_b1 (m_265 th a0 a1 I Rf G) (fun r_12 => if r_12 = a2 then (some (nI 1)) else (some (nI 0)))))
theorem md_272 {d : Nat} {I : ai_I} {J : ai_J} {Rf : ai_R} {G : ai_G} {th : Nat} {a0 : Int32} {a1 : Int32} {a2 : Int32} {r : Int32} (hd : 4 ≤ d) (hth : G.1 th = 11) (h : m_272 th a0 a1 a2 I Rf G = some r) : ai_Cl si_t si_ms d 272 [.inr (.inr th), .inl a0, .inl a1, .inl a2] I J Rf G (some (.inl r)) I J Rf G := by
  obtain ⟨e, rfl⟩ : ∃ e, d = e + 1 := ⟨d - 1, by omega⟩
  unfold m_272 at h
  refine sp_in (lo := [some (.inr (.inr th)), some (.inl a0), some (.inl a1), some (.inl a2)]) (B := (0, 0)) rfl (Nat.le_of_ble_eq_true rfl) rfl rfl ?_
  refine go_aload_n (pc' := 1) rfl rfl rfl ?_
  refine go_iload_n (pc' := 2) rfl rfl rfl ?_
  refine go_iload_n (pc' := 3) rfl rfl rfl ?_
  obtain ⟨r_3, q_3, h⟩ := o_b1E h
  refine go_callV (pc' := 6) (B' := (0, 0)) (st' := [.inl r_3]) rfl rfl (Or.inl (by decide)) rfl rfl hth (md_199 (by omega) hth q_3) rfl rfl rfl ?_
  refine go_if_eq (pt := 23) (pc' := 9) rfl rfl rfl (fun h6 => ?_) (fun h6 => ?_)
  · replace h := o_t h6 h
    refine go_iconst (pc' := 24) (v := (nI 0)) rfl rfl rfl ?_
    cases h
    exact go_iret rfl (rfl) ⟨rfl, rfl, rfl, rfl, rfl⟩
  · replace h := o_f h6 h
    refine go_aload_n (pc' := 10) rfl rfl rfl ?_
    refine go_iload_n (pc' := 11) rfl rfl rfl ?_
    refine go_iload_n (pc' := 12) rfl rfl rfl ?_
    obtain ⟨r_12, q_12, h⟩ := o_b1E h
    refine go_callV (pc' := 15) (B' := (0, 0)) (st' := [.inl r_12]) rfl rfl (Or.inl (by decide)) rfl rfl hth (md_265 (by omega) hth q_12) rfl rfl rfl ?_
    refine go_iload_n (pc' := 16) rfl rfl rfl ?_
    refine go_icmp_ne (pt := 23) (pc' := 19) rfl rfl rfl (fun h16 => ?_) (fun h16 => ?_)
    · replace h := o_f h16 h
      refine go_iconst (pc' := 24) (v := (nI 0)) rfl rfl rfl ?_
      cases h
      exact go_iret rfl (rfl) ⟨rfl, rfl, rfl, rfl, rfl⟩
    · replace h := o_t (Decidable.of_not_not h16) h
      refine go_iconst (pc' := 20) (v := (nI 1)) rfl rfl rfl ?_
      refine go_goto (pc' := 24) rfl rfl ?_
      cases h
      exact go_iret rfl (rfl) ⟨rfl, rfl, rfl, rfl, rfl⟩
def m_273_x47_103 (w5_103 : Int32) (Ix_103 : ai_I) : Option (Int32 × ai_I) :=
  some (w5_103, Ix_103)
def m_273_x47_118 (th : Nat) (a1 : Int32) (Rf : ai_R) (G : ai_G) (w4_118 : Int32) (Ix_118 : ai_I) : Option (Int32 × ai_I) :=
  if a1 = 0 then (some (w4_118, Ix_118)) else (if a1 = (nI 2) then (o_b1 (m_247 th Ix_118 Rf G) (fun r_133 => if r_133 = 0 then (some ((nI 0), Ix_118)) else (some ((nI 1), Ix_118)))) else (some ((-4 : Int32), Ix_118)))
def m_273_j78 (th : Nat) (a1 : Int32) (Rf : ai_R) (G : ai_G) (v4_47 : Int32) (v5_47 : Int32) (I_47 : ai_I) (t2_78 : Int32) : Option ((Int32 × Int32 × ai_I) ⊕ ((Int32 × ai_I) ⊕ (Int32 × ai_I))) :=
  o_g (o_in G 13 (Rf th 20) v5_47) (o_b1 (some (va_up I_47 (Rf th 20) (va_up (I_47 (Rf th 20)) v5_47.toNatClampNeg t2_78))) (fun I_78 => o_g (o_in G 13 (Rf th 20) v5_47) (if (I_78 (Rf th 20) v5_47.toNatClampNeg) = (-2147483648 : Int32) then (o_b1 (some (v5_47 + (nI 1))) (fun x5_112 => some (Sum.inl (v4_47, x5_112, I_78)))) else (if v4_47 = (a1 - (nI 10)) then (some (Sum.inr (Sum.inl (v5_47, I_78)))) else (o_b1 (some (v4_47 + (nI 1))) (fun x4_110 => o_b1 (some (v5_47 + (nI 1))) (fun x5_112 => some (Sum.inl (x4_110, x5_112, I_78)))))))))
def m_273_b47 (th : Nat) (a0 : Int32) (a1 : Int32) (Rf : ai_R) (G : ai_G) (r_30 : Int32) (v4_47 : Int32) (v5_47 : Int32) (I_47 : ai_I) : Option ((Int32 × Int32 × ai_I) ⊕ ((Int32 × ai_I) ⊕ (Int32 × ai_I))) :=
  if (nI 256) ≤ v5_47 then (some (Sum.inr (Sum.inr (v4_47, I_47)))) else (o_b1 (m_272 th a0 v5_47 r_30 I_47 Rf G) (fun r_66 => if r_66 = 0 then (m_273_j78 th a1 Rf G v4_47 v5_47 I_47 (-2147483648 : Int32)) else (m_273_j78 th a1 Rf G v4_47 v5_47 I_47 (nI 0))))
def m_273_j28 (th : Nat) (a0 : Int32) (a1 : Int32) (I : ai_I) (Rf : ai_R) (G : ai_G) : Option (Int32 × ai_I) :=
  o_b1 (m_266 th a0 I Rf G) (fun r_30 => if a1 = (nI 1) then (some (r_30, I)) else (o_s2 (lp (fun s => m_273_b47 th a0 a1 Rf G r_30 s.1 s.2.1 s.2.2) o_N ((nI 0), (nI 0), I)) (fun t => m_273_x47_103 t.1 t.2) (fun t => m_273_x47_118 th a1 Rf G t.1 t.2)))
/-- PricedBasesModel.initial(II)I -/
def m_273 (th : Nat) (a0 : Int32) (a1 : Int32) (I : ai_I) (Rf : ai_R) (G : ai_G) : Option (Int32 × ai_I) :=
  o_b1 (m_200 a0) (fun r_1 => if r_1 = 0 then (some ((-2147483648 : Int32), I)) else (o_b1 (m_189 a1.toInt64 (0 : Int64) (2 : Int64)) (fun r_13 => if r_13 = 0 then (if (nI 10) ≤ a1 then (m_273_j28 th a0 a1 I Rf G) else (some ((-2147483648 : Int32), I))) else (m_273_j28 th a0 a1 I Rf G))))
theorem md_273 {d : Nat} {I : ai_I} {J : ai_J} {Rf : ai_R} {G : ai_G} {th : Nat} {a0 : Int32} {a1 : Int32} {r : Int32} {I1 : ai_I} (hd : 5 ≤ d) (hth : G.1 th = 11) (h : m_273 th a0 a1 I Rf G = some (r, I1)) : ai_Cl si_t si_ms d 273 [.inr (.inr th), .inl a0, .inl a1] I J Rf G (some (.inl r)) I1 J Rf G := by
  obtain ⟨e, rfl⟩ : ∃ e, d = e + 1 := ⟨d - 1, by omega⟩
  unfold m_273 at h
  refine sp_in (lo := [some (.inr (.inr th)), some (.inl a0), some (.inl a1), none, none, none]) (B := (0, 0)) rfl (Nat.le_of_ble_eq_true rfl) rfl rfl ?_
  refine go_iload_n (pc' := 1) rfl rfl rfl ?_
  obtain ⟨r_1, q_1, h⟩ := o_b1E h
  refine go_callS (pc' := 4) (B' := (0, 0)) (st' := [.inl r_1]) rfl rfl (Or.inl (by decide)) rfl rfl trivial (md_200 (by omega) q_1) rfl rfl rfl ?_
  refine go_if_eq (pt := 25) (pc' := 7) rfl rfl rfl (fun h4 => ?_) (fun h4 => ?_)
  · replace h := o_t h4 h
    refine go_ldc (pc' := 27) (v := .inl (-2147483648 : Int32)) rfl rfl rfl ?_
    cases h
    exact go_iret rfl (trivial) ⟨rfl, rfl, rfl, rfl, rfl⟩
  · replace h := o_f h4 h
    refine go_iload_n (pc' := 8) rfl rfl rfl ?_
    refine go_i2l (pc' := 9) rfl rfl ?_
    refine go_lconst (pc' := 10) (v := (0 : Int64)) rfl rfl rfl ?_
    refine go_ldc2_w (pc' := 13) (v := .inr (.inl (2 : Int64))) rfl rfl rfl ?_
    obtain ⟨r_13, q_13, h⟩ := o_b1E h
    refine go_callS (pc' := 16) (B' := (0, 0)) (st' := [.inl r_13]) rfl rfl (Or.inl (by decide)) rfl rfl trivial (md_189 (by omega) q_13) rfl rfl rfl ?_
    have jn28 : m_273_j28 th a0 a1 I Rf G = some (r, I1) → ai_Go si_t (11, false, 0, cd_273) (ai_Cl si_t si_ms e) (sp_Q (some (.inl r)) I1 J Rf G) 28 [some (.inr (.inr th)), some (.inl a0), some (.inl a1), none, none, none] [] (0, 0) I J Rf G := by
      intro h
      unfold m_273_j28 at h
      refine go_aload_n (pc' := 29) rfl rfl rfl ?_
      refine go_iload_n (pc' := 30) rfl rfl rfl ?_
      obtain ⟨r_30, q_30, h⟩ := o_b1E h
      refine go_callV (pc' := 33) (B' := (0, 0)) (st' := [.inl r_30]) rfl rfl (Or.inl (by decide)) rfl rfl hth (md_266 (by omega) hth q_30) rfl rfl rfl ?_
      refine go_istore_n (pc' := 34) (lo' := [some (.inr (.inr th)), some (.inl a0), some (.inl a1), some (.inl r_30), none, none]) rfl rfl rfl ?_
      refine go_iload_n (pc' := 35) rfl rfl rfl ?_
      refine go_iconst (pc' := 36) (v := (nI 1)) rfl rfl rfl ?_
      refine go_icmp_ne (pt := 41) (pc' := 39) rfl rfl rfl (fun h36 => ?_) (fun h36 => ?_)
      · replace h := o_f h36 h
        refine go_iconst (pc' := 42) (v := (nI 0)) rfl rfl rfl ?_
        refine go_istore (pc' := 44) (lo' := [some (.inr (.inr th)), some (.inl a0), some (.inl a1), some (.inl r_30), some (.inl (nI 0)), none]) rfl rfl rfl ?_
        refine go_iconst (pc' := 45) (v := (nI 0)) rfl rfl rfl ?_
        refine go_istore (pc' := 47) (lo' := [some (.inr (.inr th)), some (.inl a0), some (.inl a1), some (.inl r_30), some (.inl (nI 0)), some (.inl (nI 0))]) rfl rfl rfl ?_
        obtain ⟨q47, hl47, hc47_103, hc47_118⟩ := o_s2E h
        have ex47_103 : ∀ (w5_103 : Int32) (Ix_103 : ai_I) (z4_x103 : Option ai_V), (Sum.inl (w5_103, Ix_103)) = q47 → ai_Go si_t (11, false, 0, cd_273) (ai_Cl si_t si_ms e) (sp_Q (some (.inl r)) I1 J Rf G) 103 [some (.inr (.inr th)), some (.inl a0), some (.inl a1), some (.inl r_30), z4_x103, some (.inl w5_103)] [] (0, 0) Ix_103 J Rf G := by
          intro w5_103 Ix_103 z4_x103 hq
          have h : m_273_x47_103 w5_103 Ix_103 = some (r, I1) := hc47_103 (w5_103, Ix_103) hq.symm
          unfold m_273_x47_103 at h
          refine go_iload (pc' := 105) rfl rfl rfl ?_
          cases h
          exact go_iret rfl (trivial) ⟨rfl, rfl, rfl, rfl, rfl⟩
        have ex47_118 : ∀ (w4_118 : Int32) (Ix_118 : ai_I) (z5_x118 : Option ai_V), (Sum.inr (w4_118, Ix_118)) = q47 → ai_Go si_t (11, false, 0, cd_273) (ai_Cl si_t si_ms e) (sp_Q (some (.inl r)) I1 J Rf G) 118 [some (.inr (.inr th)), some (.inl a0), some (.inl a1), some (.inl r_30), some (.inl w4_118), z5_x118] [] (0, 0) Ix_118 J Rf G := by
          intro w4_118 Ix_118 z5_x118 hq
          have h : m_273_x47_118 th a1 Rf G w4_118 Ix_118 = some (r, I1) := hc47_118 (w4_118, Ix_118) hq.symm
          unfold m_273_x47_118 at h
          refine go_iload_n (pc' := 119) rfl rfl rfl ?_
          refine go_if_ne (pt := 127) (pc' := 122) rfl rfl rfl (fun h119 => ?_) (fun h119 => ?_)
          · replace h := o_f h119 h
            refine go_iload_n (pc' := 128) rfl rfl rfl ?_
            refine go_iconst (pc' := 129) (v := (nI 2)) rfl rfl rfl ?_
            refine go_icmp_ne (pt := 147) (pc' := 132) rfl rfl rfl (fun h129 => ?_) (fun h129 => ?_)
            · replace h := o_f h129 h
              refine go_bipush (pc' := 149) (v := (-4 : Int32)) rfl rfl rfl ?_
              cases h
              exact go_iret rfl (trivial) ⟨rfl, rfl, rfl, rfl, rfl⟩
            · replace h := o_t (Decidable.of_not_not h129) h
              refine go_aload_n (pc' := 133) rfl rfl rfl ?_
              obtain ⟨r_133, q_133, h⟩ := o_b1E h
              refine go_callV (pc' := 136) (B' := (0, 0)) (st' := [.inl r_133]) rfl rfl (Or.inl (by decide)) rfl rfl hth (md_247 (by omega) hth q_133) rfl rfl rfl ?_
              refine go_if_eq (pt := 143) (pc' := 139) rfl rfl rfl (fun h136 => ?_) (fun h136 => ?_)
              · replace h := o_t h136 h
                refine go_iconst (pc' := 144) (v := (nI 0)) rfl rfl rfl ?_
                refine go_goto (pc' := 149) rfl rfl ?_
                cases h
                exact go_iret rfl (trivial) ⟨rfl, rfl, rfl, rfl, rfl⟩
              · replace h := o_f h136 h
                refine go_iconst (pc' := 140) (v := (nI 1)) rfl rfl rfl ?_
                refine go_goto (pc' := 149) rfl rfl ?_
                cases h
                exact go_iret rfl (trivial) ⟨rfl, rfl, rfl, rfl, rfl⟩
          · replace h := o_t (Decidable.of_not_not h119) h
            refine go_iload (pc' := 124) rfl rfl rfl ?_
            refine go_goto (pc' := 149) rfl rfl ?_
            cases h
            exact go_iret rfl (trivial) ⟨rfl, rfl, rfl, rfl, rfl⟩
        have lo47 : ∀ n s, lp (fun s => m_273_b47 th a0 a1 Rf G r_30 s.1 s.2.1 s.2.2) n s = some q47 → (fun s => ai_Go si_t (11, false, 0, cd_273) (ai_Cl si_t si_ms e) (sp_Q (some (.inl r)) I1 J Rf G) 47 [some (.inr (.inr th)), some (.inl a0), some (.inl a1), some (.inl r_30), some (.inl s.1), some (.inl s.2.1)] [] (0, 0) s.2.2 J Rf G) s := lp_go (fun s x47 hx hk47 => by
          obtain ⟨v4_47, v5_47, I_47⟩ := s
          have h : m_273_b47 th a0 a1 Rf G r_30 v4_47 v5_47 I_47 = some x47 := hx
          clear hx
          show ai_Go si_t (11, false, 0, cd_273) (ai_Cl si_t si_ms e) (sp_Q (some (.inl r)) I1 J Rf G) 47 [some (.inr (.inr th)), some (.inl a0), some (.inl a1), some (.inl r_30), some (.inl v4_47), some (.inl v5_47)] [] (0, 0) I_47 J Rf G
          unfold m_273_b47 at h
          refine go_iload (pc' := 49) rfl rfl rfl ?_
          refine go_sipush (pc' := 52) (v := (nI 256)) rfl rfl rfl ?_
          refine go_icmp_ge (pt := 118) (pc' := 55) rfl rfl rfl (fun h52 => ?_) (fun h52 => ?_)
          · replace h := o_t h52 h
            exact ex47_118 _ _ (some (.inl v5_47)) (lp_exitE h hk47)
          · replace h := o_f h52 h
            refine go_aload_n (pc' := 56) rfl rfl rfl ?_
            refine go_getR (pc' := 59) rfl rfl hth rfl ?_
            refine go_iload (pc' := 61) rfl rfl rfl ?_
            refine go_aload_n (pc' := 62) rfl rfl rfl ?_
            refine go_iload_n (pc' := 63) rfl rfl rfl ?_
            refine go_iload (pc' := 65) rfl rfl rfl ?_
            refine go_iload_n (pc' := 66) rfl rfl rfl ?_
            obtain ⟨r_66, q_66, h⟩ := o_b1E h
            refine go_callV (pc' := 69) (B' := (0, 0)) (st' := [.inl r_66, .inl v5_47, .inr (.inr (Rf th 20))]) rfl rfl (Or.inl (by decide)) rfl rfl hth (md_272 (by omega) hth q_66) rfl rfl rfl ?_
            have jn78 : ∀ (t2_78 : Int32), m_273_j78 th a1 Rf G v4_47 v5_47 I_47 t2_78 = some x47 → ai_Go si_t (11, false, 0, cd_273) (ai_Cl si_t si_ms e) (sp_Q (some (.inl r)) I1 J Rf G) 78 [some (.inr (.inr th)), some (.inl a0), some (.inl a1), some (.inl r_30), some (.inl v4_47), some (.inl v5_47)] [.inl t2_78, .inl v5_47, .inr (.inr (Rf th 20))] (0, 0) I_47 J Rf G := by
              intro t2_78 h
              unfold m_273_j78 at h
              obtain ⟨g0, h⟩ := o_gE h
              obtain ⟨I_78, eI_78, h⟩ := o_b1E h
              refine go_iastore (pc' := 79) rfl (o_inK g0) (o_inB g0) rfl ?_
              refine go_ndMI eI_78 ?_
              refine go_aload_n (pc' := 80) rfl rfl rfl ?_
              refine go_getR (pc' := 83) rfl rfl hth rfl ?_
              refine go_iload (pc' := 85) rfl rfl rfl ?_
              obtain ⟨g1, h⟩ := o_gE h
              refine go_iaload (pc' := 86) rfl (o_inK g1) (o_inB g1) rfl ?_
              refine go_ldc (pc' := 88) (v := .inl (-2147483648 : Int32)) rfl rfl rfl ?_
              refine go_icmp_ne (pt := 94) (pc' := 91) rfl rfl rfl (fun h88 => ?_) (fun h88 => ?_)
              · replace h := o_f h88 h
                refine go_iload (pc' := 96) rfl rfl rfl ?_
                refine go_iload_n (pc' := 97) rfl rfl rfl ?_
                refine go_bipush (pc' := 99) (v := (nI 10)) rfl rfl rfl ?_
                refine go_isub (pc' := 100) rfl rfl ?_
                refine go_icmp_ne (pt := 106) (pc' := 103) rfl rfl rfl (fun h100 => ?_) (fun h100 => ?_)
                · replace h := o_f h100 h
                  refine go_iload (pc' := 108) rfl rfl rfl ?_
                  refine go_iconst (pc' := 109) (v := (nI 1)) rfl rfl rfl ?_
                  refine go_iadd (pc' := 110) rfl rfl ?_
                  obtain ⟨x4_110, ex4_110, h⟩ := o_b1E h
                  refine go_ndI ex4_110 ?_
                  refine go_istore (pc' := 112) (lo' := [some (.inr (.inr th)), some (.inl a0), some (.inl a1), some (.inl r_30), some (.inl x4_110), some (.inl v5_47)]) rfl rfl rfl ?_
                  obtain ⟨x5_112, ex5_112, h⟩ := o_b1E h
                  refine go_iincE (pc' := 115) rfl rfl (y := (nI 1)) rfl ex5_112 (lo' := [some (.inr (.inr th)), some (.inl a0), some (.inl a1), some (.inl r_30), some (.inl x4_110), some (.inl x5_112)]) rfl rfl ?_
                  refine go_goto (pc' := 47) rfl rfl ?_
                  exact (lp_backE h hk47 :)
                · replace h := o_t (Decidable.of_not_not h100) h
                  exact ex47_103 _ _ (some (.inl v4_47)) (lp_exitE h hk47)
              · replace h := o_t (Decidable.of_not_not h88) h
                refine go_goto (pc' := 112) rfl rfl ?_
                obtain ⟨x5_112, ex5_112, h⟩ := o_b1E h
                refine go_iincE (pc' := 115) rfl rfl (y := (nI 1)) rfl ex5_112 (lo' := [some (.inr (.inr th)), some (.inl a0), some (.inl a1), some (.inl r_30), some (.inl v4_47), some (.inl x5_112)]) rfl rfl ?_
                refine go_goto (pc' := 47) rfl rfl ?_
                exact (lp_backE h hk47 :)
            refine go_if_eq (pt := 76) (pc' := 72) rfl rfl rfl (fun h69 => ?_) (fun h69 => ?_)
            · replace h := o_t h69 h
              refine go_ldc (pc' := 78) (v := .inl (-2147483648 : Int32)) rfl rfl rfl ?_
              exact jn78 (-2147483648 : Int32) h
            · replace h := o_f h69 h
              refine go_iconst (pc' := 73) (v := (nI 0)) rfl rfl rfl ?_
              refine go_goto (pc' := 78) rfl rfl ?_
              exact jn78 (nI 0) h)
        exact lo47 _ ((nI 0), (nI 0), I) hl47 
      · replace h := o_t (Decidable.of_not_not h36) h
        refine go_iload_n (pc' := 40) rfl rfl rfl ?_
        cases h
        exact go_iret rfl (trivial) ⟨rfl, rfl, rfl, rfl, rfl⟩
    refine go_if_ne (pt := 28) (pc' := 19) rfl rfl rfl (fun h16 => ?_) (fun h16 => ?_)
    · replace h := o_f h16 h
      exact jn28  h
    · replace h := o_t (Decidable.of_not_not h16) h
      refine go_iload_n (pc' := 20) rfl rfl rfl ?_
      refine go_bipush (pc' := 22) (v := (nI 10)) rfl rfl rfl ?_
      refine go_icmp_ge (pt := 28) (pc' := 25) rfl rfl rfl (fun h22 => ?_) (fun h22 => ?_)
      · replace h := o_t h22 h
        exact jn28  h
      · replace h := o_f h22 h
        refine go_ldc (pc' := 27) (v := .inl (-2147483648 : Int32)) rfl rfl rfl ?_
        cases h
        exact go_iret rfl (trivial) ⟨rfl, rfl, rfl, rfl, rfl⟩
def m_274_x9_103 (w3_103 : Int32) : Option (Int32) :=
  if w3_103 = (nI 1) then (some (nI 0)) else (some (nI 1))
def m_274_j77 (v4_9 : Int32) (v5_9 : Int32) (x6_66 : Int32) (y3_77 : Int32) : Option ((Int32 × Int32 × Int32) ⊕ Int32) :=
  o_b1 (m_191 v4_9 x6_66) (fun r_81 => if x6_66 = r_81 then (o_b1 (some (y3_77 + (nI 1))) (fun x3_96 => o_b1 (some (v5_9 + (nI 1))) (fun x5_97 => some (Sum.inl (x3_96, r_81, x5_97))))) else (o_b1 (some (v5_9 + (nI 1))) (fun x5_97 => some (Sum.inl (y3_77, r_81, x5_97)))))
def m_274_b9 (th : Nat) (a0 : Int32) (a1 : Int32) (I : ai_I) (Rf : ai_R) (G : ai_G) (v3_9 : Int32) (v4_9 : Int32) (v5_9 : Int32) : Option ((Int32 × Int32 × Int32) ⊕ Int32) :=
  if (nI 8) ≤ v5_9 then (some (Sum.inr v3_9)) else (o_b1 (m_192 (a1 &&& (I th 23)) v5_9) (fun r_24 => if r_24 = 0 then (o_b1 (some (v5_9 + (nI 1))) (fun x5_97 => some (Sum.inl (v3_9, v4_9, x5_97)))) else (o_b1 (m_199 th a0 (a1 ^^^ ((nI 1) <<< (v5_9 &&& 31))) I Rf G) (fun r_38 => if r_38 = 0 then (o_b1 (some (v5_9 + (nI 1))) (fun x5_97 => some (Sum.inl (v3_9, v4_9, x5_97)))) else (o_b1 (m_198 th a0 (a1 ^^^ ((nI 1) <<< (v5_9 &&& 31))) I Rf G) (fun r_55 => o_g (o_in G 13 (Rf th 22) v5_9) (o_b1 (some (r_55 + (I (Rf th 22) v5_9.toNatClampNeg))) (fun x6_66 => if x6_66 ≤ v4_9 then (m_274_j77 v4_9 v5_9 x6_66 v3_9) else (m_274_j77 v4_9 v5_9 x6_66 (nI 0))))))))))
/-- PricedBasesModel.meetsTwice(II)Z -/
def m_274 (th : Nat) (a0 : Int32) (a1 : Int32) (I : ai_I) (Rf : ai_R) (G : ai_G) : Option (Int32) :=
  o_s1 (lp (fun s => m_274_b9 th a0 a1 I Rf G s.1 s.2.1 s.2.2) o_N ((nI 0), (-2147483648 : Int32), (nI 0))) (fun t => m_274_x9_103 t)
theorem md_274 {d : Nat} {I : ai_I} {J : ai_J} {Rf : ai_R} {G : ai_G} {th : Nat} {a0 : Int32} {a1 : Int32} {r : Int32} (hd : 3 ≤ d) (hth : G.1 th = 11) (h : m_274 th a0 a1 I Rf G = some r) : ai_Cl si_t si_ms d 274 [.inr (.inr th), .inl a0, .inl a1] I J Rf G (some (.inl r)) I J Rf G := by
  obtain ⟨e, rfl⟩ : ∃ e, d = e + 1 := ⟨d - 1, by omega⟩
  unfold m_274 at h
  refine sp_in (lo := [some (.inr (.inr th)), some (.inl a0), some (.inl a1), none, none, none, none]) (B := (0, 0)) rfl (Nat.le_of_ble_eq_true rfl) rfl rfl ?_
  refine go_iconst (pc' := 1) (v := (nI 0)) rfl rfl rfl ?_
  refine go_istore_n (pc' := 2) (lo' := [some (.inr (.inr th)), some (.inl a0), some (.inl a1), some (.inl (nI 0)), none, none, none]) rfl rfl rfl ?_
  refine go_ldc (pc' := 4) (v := .inl (-2147483648 : Int32)) rfl rfl rfl ?_
  refine go_istore (pc' := 6) (lo' := [some (.inr (.inr th)), some (.inl a0), some (.inl a1), some (.inl (nI 0)), some (.inl (-2147483648 : Int32)), none, none]) rfl rfl rfl ?_
  refine go_iconst (pc' := 7) (v := (nI 0)) rfl rfl rfl ?_
  refine go_istore (pc' := 9) (lo' := [some (.inr (.inr th)), some (.inl a0), some (.inl a1), some (.inl (nI 0)), some (.inl (-2147483648 : Int32)), some (.inl (nI 0)), none]) rfl rfl rfl ?_
  obtain ⟨q9, hl9, hc9_103⟩ := o_s1E h
  have ex9_103 : ∀ (w3_103 : Int32) (z4_x103 : Option ai_V) (z5_x103 : Option ai_V) (z6_x103 : Option ai_V), w3_103 = q9 → ai_Go si_t (11, false, 3, cd_274) (ai_Cl si_t si_ms e) (sp_Q (some (.inl r)) I J Rf G) 103 [some (.inr (.inr th)), some (.inl a0), some (.inl a1), some (.inl w3_103), z4_x103, z5_x103, z6_x103] [] (0, 0) I J Rf G := by
    intro w3_103 z4_x103 z5_x103 z6_x103 hq
    have h : m_274_x9_103 w3_103 = some r := hc9_103 w3_103 hq.symm
    unfold m_274_x9_103 at h
    refine go_iload_n (pc' := 104) rfl rfl rfl ?_
    refine go_iconst (pc' := 105) (v := (nI 1)) rfl rfl rfl ?_
    refine go_icmp_eq (pt := 112) (pc' := 108) rfl rfl rfl (fun h105 => ?_) (fun h105 => ?_)
    · replace h := o_t h105 h
      refine go_iconst (pc' := 113) (v := (nI 0)) rfl rfl rfl ?_
      cases h
      exact go_iret rfl (rfl) ⟨rfl, rfl, rfl, rfl, rfl⟩
    · replace h := o_f h105 h
      refine go_iconst (pc' := 109) (v := (nI 1)) rfl rfl rfl ?_
      refine go_goto (pc' := 113) rfl rfl ?_
      cases h
      exact go_iret rfl (rfl) ⟨rfl, rfl, rfl, rfl, rfl⟩
  have lo9 : ∀ n s, lp (fun s => m_274_b9 th a0 a1 I Rf G s.1 s.2.1 s.2.2) n s = some q9 → (fun s => ∀ (z6_9 : Option ai_V), ai_Go si_t (11, false, 3, cd_274) (ai_Cl si_t si_ms e) (sp_Q (some (.inl r)) I J Rf G) 9 [some (.inr (.inr th)), some (.inl a0), some (.inl a1), some (.inl s.1), some (.inl s.2.1), some (.inl s.2.2), z6_9] [] (0, 0) I J Rf G) s := lp_go (fun s x9 hx hk9 => by
    obtain ⟨v3_9, v4_9, v5_9⟩ := s
    intro z6_9
    have h : m_274_b9 th a0 a1 I Rf G v3_9 v4_9 v5_9 = some x9 := hx
    clear hx
    show ai_Go si_t (11, false, 3, cd_274) (ai_Cl si_t si_ms e) (sp_Q (some (.inl r)) I J Rf G) 9 [some (.inr (.inr th)), some (.inl a0), some (.inl a1), some (.inl v3_9), some (.inl v4_9), some (.inl v5_9), z6_9] [] (0, 0) I J Rf G
    unfold m_274_b9 at h
    refine go_iload (pc' := 11) rfl rfl rfl ?_
    refine go_bipush (pc' := 13) (v := (nI 8)) rfl rfl rfl ?_
    refine go_icmp_ge (pt := 103) (pc' := 16) rfl rfl rfl (fun h13 => ?_) (fun h13 => ?_)
    · replace h := o_t h13 h
      exact ex9_103 _ (some (.inl v4_9)) (some (.inl v5_9)) z6_9 (lp_exitE h hk9)
    · replace h := o_f h13 h
      refine go_iload_n (pc' := 17) rfl rfl rfl ?_
      refine go_aload_n (pc' := 18) rfl rfl rfl ?_
      refine go_getI (pc' := 21) rfl rfl (by decide) (by decide) hth rfl ?_
      refine go_iand (pc' := 22) rfl rfl ?_
      refine go_iload (pc' := 24) rfl rfl rfl ?_
      obtain ⟨r_24, q_24, h⟩ := o_b1E h
      refine go_callS (pc' := 27) (B' := (0, 0)) (st' := [.inl r_24]) rfl rfl (Or.inl (by decide)) rfl rfl trivial (md_192 (by omega) q_24) rfl rfl rfl ?_
      refine go_if_eq (pt := 97) (pc' := 30) rfl rfl rfl (fun h27 => ?_) (fun h27 => ?_)
      · replace h := o_t h27 h
        obtain ⟨x5_97, ex5_97, h⟩ := o_b1E h
        refine go_iincE (pc' := 100) rfl rfl (y := (nI 1)) rfl ex5_97 (lo' := [some (.inr (.inr th)), some (.inl a0), some (.inl a1), some (.inl v3_9), some (.inl v4_9), some (.inl x5_97), z6_9]) rfl rfl ?_
        refine go_goto (pc' := 9) rfl rfl ?_
        exact (lp_backE h hk9 z6_9 :)
      · replace h := o_f h27 h
        refine go_aload_n (pc' := 31) rfl rfl rfl ?_
        refine go_iload_n (pc' := 32) rfl rfl rfl ?_
        refine go_iload_n (pc' := 33) rfl rfl rfl ?_
        refine go_iconst (pc' := 34) (v := (nI 1)) rfl rfl rfl ?_
        refine go_iload (pc' := 36) rfl rfl rfl ?_
        refine go_ishl (pc' := 37) rfl rfl ?_
        refine go_ixor (pc' := 38) rfl rfl ?_
        obtain ⟨r_38, q_38, h⟩ := o_b1E h
        refine go_callV (pc' := 41) (B' := (0, 0)) (st' := [.inl r_38]) rfl rfl (Or.inl (by decide)) rfl rfl hth (md_199 (by omega) hth q_38) rfl rfl rfl ?_
        refine go_if_ne (pt := 47) (pc' := 44) rfl rfl rfl (fun h41 => ?_) (fun h41 => ?_)
        · replace h := o_f h41 h
          refine go_aload_n (pc' := 48) rfl rfl rfl ?_
          refine go_iload_n (pc' := 49) rfl rfl rfl ?_
          refine go_iload_n (pc' := 50) rfl rfl rfl ?_
          refine go_iconst (pc' := 51) (v := (nI 1)) rfl rfl rfl ?_
          refine go_iload (pc' := 53) rfl rfl rfl ?_
          refine go_ishl (pc' := 54) rfl rfl ?_
          refine go_ixor (pc' := 55) rfl rfl ?_
          obtain ⟨r_55, q_55, h⟩ := o_b1E h
          refine go_callV (pc' := 58) (B' := (0, 0)) (st' := [.inl r_55]) rfl rfl (Or.inl (by decide)) rfl rfl hth (md_198 (by omega) hth q_55) rfl rfl rfl ?_
          refine go_aload_n (pc' := 59) rfl rfl rfl ?_
          refine go_getR (pc' := 62) rfl rfl hth rfl ?_
          refine go_iload (pc' := 64) rfl rfl rfl ?_
          obtain ⟨g0, h⟩ := o_gE h
          refine go_iaload (pc' := 65) rfl (o_inK g0) (o_inB g0) rfl ?_
          refine go_iadd (pc' := 66) rfl rfl ?_
          obtain ⟨x6_66, ex6_66, h⟩ := o_b1E h
          refine go_ndI ex6_66 ?_
          refine go_istore (pc' := 68) (lo' := [some (.inr (.inr th)), some (.inl a0), some (.inl a1), some (.inl v3_9), some (.inl v4_9), some (.inl v5_9), some (.inl x6_66)]) rfl rfl rfl ?_
          refine go_iload (pc' := 70) rfl rfl rfl ?_
          refine go_iload (pc' := 72) rfl rfl rfl ?_
          have jn77 : ∀ (y3_77 : Int32), m_274_j77 v4_9 v5_9 x6_66 y3_77 = some x9 → ai_Go si_t (11, false, 3, cd_274) (ai_Cl si_t si_ms e) (sp_Q (some (.inl r)) I J Rf G) 77 [some (.inr (.inr th)), some (.inl a0), some (.inl a1), some (.inl y3_77), some (.inl v4_9), some (.inl v5_9), some (.inl x6_66)] [] (0, 0) I J Rf G := by
            intro y3_77 h
            unfold m_274_j77 at h
            refine go_iload (pc' := 79) rfl rfl rfl ?_
            refine go_iload (pc' := 81) rfl rfl rfl ?_
            obtain ⟨r_81, q_81, h⟩ := o_b1E h
            refine go_callS (pc' := 84) (B' := (0, 0)) (st' := [.inl r_81]) rfl rfl (Or.inl (by decide)) rfl rfl trivial (md_191 (by omega) q_81) rfl rfl rfl ?_
            refine go_istore (pc' := 86) (lo' := [some (.inr (.inr th)), some (.inl a0), some (.inl a1), some (.inl y3_77), some (.inl r_81), some (.inl v5_9), some (.inl x6_66)]) rfl rfl rfl ?_
            refine go_iload (pc' := 88) rfl rfl rfl ?_
            refine go_iload (pc' := 90) rfl rfl rfl ?_
            refine go_icmp_ne (pt := 97) (pc' := 93) rfl rfl rfl (fun h90 => ?_) (fun h90 => ?_)
            · replace h := o_f h90 h
              obtain ⟨x5_97, ex5_97, h⟩ := o_b1E h
              refine go_iincE (pc' := 100) rfl rfl (y := (nI 1)) rfl ex5_97 (lo' := [some (.inr (.inr th)), some (.inl a0), some (.inl a1), some (.inl y3_77), some (.inl r_81), some (.inl x5_97), some (.inl x6_66)]) rfl rfl ?_
              refine go_goto (pc' := 9) rfl rfl ?_
              exact (lp_backE h hk9 (some (.inl x6_66)) :)
            · replace h := o_t (Decidable.of_not_not h90) h
              refine go_iload_n (pc' := 94) rfl rfl rfl ?_
              refine go_iconst (pc' := 95) (v := (nI 1)) rfl rfl rfl ?_
              refine go_iadd (pc' := 96) rfl rfl ?_
              obtain ⟨x3_96, ex3_96, h⟩ := o_b1E h
              refine go_ndI ex3_96 ?_
              refine go_istore_n (pc' := 97) (lo' := [some (.inr (.inr th)), some (.inl a0), some (.inl a1), some (.inl x3_96), some (.inl r_81), some (.inl v5_9), some (.inl x6_66)]) rfl rfl rfl ?_
              obtain ⟨x5_97, ex5_97, h⟩ := o_b1E h
              refine go_iincE (pc' := 100) rfl rfl (y := (nI 1)) rfl ex5_97 (lo' := [some (.inr (.inr th)), some (.inl a0), some (.inl a1), some (.inl x3_96), some (.inl r_81), some (.inl x5_97), some (.inl x6_66)]) rfl rfl ?_
              refine go_goto (pc' := 9) rfl rfl ?_
              exact (lp_backE h hk9 (some (.inl x6_66)) :)
          refine go_icmp_le (pt := 77) (pc' := 75) rfl rfl rfl (fun h72 => ?_) (fun h72 => ?_)
          · replace h := o_t h72 h
            exact jn77 v3_9 h
          · replace h := o_f h72 h
            refine go_iconst (pc' := 76) (v := (nI 0)) rfl rfl rfl ?_
            refine go_istore_n (pc' := 77) (lo' := [some (.inr (.inr th)), some (.inl a0), some (.inl a1), some (.inl (nI 0)), some (.inl v4_9), some (.inl v5_9), some (.inl x6_66)]) rfl rfl rfl ?_
            exact jn77 (nI 0) h
        · replace h := o_t (Decidable.of_not_not h41) h
          refine go_goto (pc' := 97) rfl rfl ?_
          obtain ⟨x5_97, ex5_97, h⟩ := o_b1E h
          refine go_iincE (pc' := 100) rfl rfl (y := (nI 1)) rfl ex5_97 (lo' := [some (.inr (.inr th)), some (.inl a0), some (.inl a1), some (.inl v3_9), some (.inl v4_9), some (.inl x5_97), z6_9]) rfl rfl ?_
          refine go_goto (pc' := 9) rfl rfl ?_
          exact (lp_backE h hk9 z6_9 :))
  exact lo9 _ ((nI 0), (-2147483648 : Int32), (nI 0)) hl9 none
def m_275_x5_48 (w4_48 : Int32) : Option (Int32) :=
  some w4_48
def m_275_x5_61 (a1 : Int32) (w3_61 : Int32) : Option (Int32) :=
  if 0 ≤ a1 then (some (-4 : Int32)) else (some w3_61)
def m_275_b5 (th : Nat) (a0 : Int32) (a1 : Int32) (I : ai_I) (Rf : ai_R) (G : ai_G) (v3_5 : Int32) (v4_5 : Int32) : Option ((Int32 × Int32) ⊕ (Int32 ⊕ Int32)) :=
  o_b1 (m_197 th a0 I Rf G) (fun r_9 => if r_9 < v4_5 then (some (Sum.inr (Sum.inr v3_5))) else (o_b1 (m_193 v4_5) (fun r_17 => o_b1 (m_196 th a0 I Rf G) (fun r_22 => if r_17 = (r_22 + (nI 1)) then (o_b1 (m_274 th a0 v4_5 I Rf G) (fun r_34 => if r_34 = 0 then (if v3_5 = a1 then (some (Sum.inr (Sum.inl v4_5))) else (o_b1 (some (v3_5 + (nI 1))) (fun x3_54 => o_b1 (some (v4_5 + (nI 1))) (fun x4_55 => some (Sum.inl (x3_54, x4_55)))))) else (o_b1 (some (v4_5 + (nI 1))) (fun x4_55 => some (Sum.inl (v3_5, x4_55)))))) else (o_b1 (some (v4_5 + (nI 1))) (fun x4_55 => some (Sum.inl (v3_5, x4_55))))))))
/-- PricedBasesModel.failingAt(II)I -/
def m_275 (th : Nat) (a0 : Int32) (a1 : Int32) (I : ai_I) (Rf : ai_R) (G : ai_G) : Option (Int32) :=
  o_s2 (lp (fun s => m_275_b5 th a0 a1 I Rf G s.1 s.2) o_N ((nI 0), (nI 0))) (fun t => m_275_x5_48 t) (fun t => m_275_x5_61 a1 t)
theorem md_275 {d : Nat} {I : ai_I} {J : ai_J} {Rf : ai_R} {G : ai_G} {th : Nat} {a0 : Int32} {a1 : Int32} {r : Int32} (hd : 4 ≤ d) (hth : G.1 th = 11) (h : m_275 th a0 a1 I Rf G = some r) : ai_Cl si_t si_ms d 275 [.inr (.inr th), .inl a0, .inl a1] I J Rf G (some (.inl r)) I J Rf G := by
  obtain ⟨e, rfl⟩ : ∃ e, d = e + 1 := ⟨d - 1, by omega⟩
  unfold m_275 at h
  refine sp_in (lo := [some (.inr (.inr th)), some (.inl a0), some (.inl a1), none, none]) (B := (0, 0)) rfl (Nat.le_of_ble_eq_true rfl) rfl rfl ?_
  refine go_iconst (pc' := 1) (v := (nI 0)) rfl rfl rfl ?_
  refine go_istore_n (pc' := 2) (lo' := [some (.inr (.inr th)), some (.inl a0), some (.inl a1), some (.inl (nI 0)), none]) rfl rfl rfl ?_
  refine go_iconst (pc' := 3) (v := (nI 0)) rfl rfl rfl ?_
  refine go_istore (pc' := 5) (lo' := [some (.inr (.inr th)), some (.inl a0), some (.inl a1), some (.inl (nI 0)), some (.inl (nI 0))]) rfl rfl rfl ?_
  obtain ⟨q5, hl5, hc5_48, hc5_61⟩ := o_s2E h
  have ex5_48 : ∀ (w4_48 : Int32) (z3_x48 : Option ai_V), (Sum.inl w4_48) = q5 → ai_Go si_t (11, false, 0, cd_275) (ai_Cl si_t si_ms e) (sp_Q (some (.inl r)) I J Rf G) 48 [some (.inr (.inr th)), some (.inl a0), some (.inl a1), z3_x48, some (.inl w4_48)] [] (0, 0) I J Rf G := by
    intro w4_48 z3_x48 hq
    have h : m_275_x5_48 w4_48 = some r := hc5_48 w4_48 hq.symm
    unfold m_275_x5_48 at h
    refine go_iload (pc' := 50) rfl rfl rfl ?_
    cases h
    exact go_iret rfl (trivial) ⟨rfl, rfl, rfl, rfl, rfl⟩
  have ex5_61 : ∀ (w3_61 : Int32) (z4_x61 : Option ai_V), (Sum.inr w3_61) = q5 → ai_Go si_t (11, false, 0, cd_275) (ai_Cl si_t si_ms e) (sp_Q (some (.inl r)) I J Rf G) 61 [some (.inr (.inr th)), some (.inl a0), some (.inl a1), some (.inl w3_61), z4_x61] [] (0, 0) I J Rf G := by
    intro w3_61 z4_x61 hq
    have h : m_275_x5_61 a1 w3_61 = some r := hc5_61 w3_61 hq.symm
    unfold m_275_x5_61 at h
    refine go_iload_n (pc' := 62) rfl rfl rfl ?_
    refine go_if_ge (pt := 69) (pc' := 65) rfl rfl rfl (fun h62 => ?_) (fun h62 => ?_)
    · replace h := o_t h62 h
      refine go_bipush (pc' := 71) (v := (-4 : Int32)) rfl rfl rfl ?_
      cases h
      exact go_iret rfl (trivial) ⟨rfl, rfl, rfl, rfl, rfl⟩
    · replace h := o_f h62 h
      refine go_iload_n (pc' := 66) rfl rfl rfl ?_
      refine go_goto (pc' := 71) rfl rfl ?_
      cases h
      exact go_iret rfl (trivial) ⟨rfl, rfl, rfl, rfl, rfl⟩
  have lo5 : ∀ n s, lp (fun s => m_275_b5 th a0 a1 I Rf G s.1 s.2) n s = some q5 → (fun s => ai_Go si_t (11, false, 0, cd_275) (ai_Cl si_t si_ms e) (sp_Q (some (.inl r)) I J Rf G) 5 [some (.inr (.inr th)), some (.inl a0), some (.inl a1), some (.inl s.1), some (.inl s.2)] [] (0, 0) I J Rf G) s := lp_go (fun s x5 hx hk5 => by
    obtain ⟨v3_5, v4_5⟩ := s
    have h : m_275_b5 th a0 a1 I Rf G v3_5 v4_5 = some x5 := hx
    clear hx
    show ai_Go si_t (11, false, 0, cd_275) (ai_Cl si_t si_ms e) (sp_Q (some (.inl r)) I J Rf G) 5 [some (.inr (.inr th)), some (.inl a0), some (.inl a1), some (.inl v3_5), some (.inl v4_5)] [] (0, 0) I J Rf G
    unfold m_275_b5 at h
    refine go_iload (pc' := 7) rfl rfl rfl ?_
    refine go_aload_n (pc' := 8) rfl rfl rfl ?_
    refine go_iload_n (pc' := 9) rfl rfl rfl ?_
    obtain ⟨r_9, q_9, h⟩ := o_b1E h
    refine go_callV (pc' := 12) (B' := (0, 0)) (st' := [.inl r_9, .inl v4_5]) rfl rfl (Or.inl (by decide)) rfl rfl hth (md_197 (by omega) hth q_9) rfl rfl rfl ?_
    refine go_icmp_gt (pt := 61) (pc' := 15) rfl rfl rfl (fun h12 => ?_) (fun h12 => ?_)
    · replace h := o_t h12 h
      exact ex5_61 _ (some (.inl v4_5)) (lp_exitE h hk5)
    · replace h := o_f h12 h
      refine go_iload (pc' := 17) rfl rfl rfl ?_
      obtain ⟨r_17, q_17, h⟩ := o_b1E h
      refine go_callS (pc' := 20) (B' := (0, 0)) (st' := [.inl r_17]) rfl rfl (Or.inl (by decide)) rfl rfl trivial (md_193 (by omega) q_17) rfl rfl rfl ?_
      refine go_aload_n (pc' := 21) rfl rfl rfl ?_
      refine go_iload_n (pc' := 22) rfl rfl rfl ?_
      obtain ⟨r_22, q_22, h⟩ := o_b1E h
      refine go_callV (pc' := 25) (B' := (0, 0)) (st' := [.inl r_22, .inl r_17]) rfl rfl (Or.inl (by decide)) rfl rfl hth (md_196 (by omega) hth q_22) rfl rfl rfl ?_
      refine go_iconst (pc' := 26) (v := (nI 1)) rfl rfl rfl ?_
      refine go_iadd (pc' := 27) rfl rfl ?_
      refine go_icmp_ne (pt := 55) (pc' := 30) rfl rfl rfl (fun h27 => ?_) (fun h27 => ?_)
      · replace h := o_f h27 h
        obtain ⟨x4_55, ex4_55, h⟩ := o_b1E h
        refine go_iincE (pc' := 58) rfl rfl (y := (nI 1)) rfl ex4_55 (lo' := [some (.inr (.inr th)), some (.inl a0), some (.inl a1), some (.inl v3_5), some (.inl x4_55)]) rfl rfl ?_
        refine go_goto (pc' := 5) rfl rfl ?_
        exact (lp_backE h hk5 :)
      · replace h := o_t (Decidable.of_not_not h27) h
        refine go_aload_n (pc' := 31) rfl rfl rfl ?_
        refine go_iload_n (pc' := 32) rfl rfl rfl ?_
        refine go_iload (pc' := 34) rfl rfl rfl ?_
        obtain ⟨r_34, q_34, h⟩ := o_b1E h
        refine go_callV (pc' := 37) (B' := (0, 0)) (st' := [.inl r_34]) rfl rfl (Or.inl (by decide)) rfl rfl hth (md_274 (by omega) hth q_34) rfl rfl rfl ?_
        refine go_if_eq (pt := 43) (pc' := 40) rfl rfl rfl (fun h37 => ?_) (fun h37 => ?_)
        · replace h := o_t h37 h
          refine go_iload_n (pc' := 44) rfl rfl rfl ?_
          refine go_iload_n (pc' := 45) rfl rfl rfl ?_
          refine go_icmp_ne (pt := 51) (pc' := 48) rfl rfl rfl (fun h45 => ?_) (fun h45 => ?_)
          · replace h := o_f h45 h
            refine go_iload_n (pc' := 52) rfl rfl rfl ?_
            refine go_iconst (pc' := 53) (v := (nI 1)) rfl rfl rfl ?_
            refine go_iadd (pc' := 54) rfl rfl ?_
            obtain ⟨x3_54, ex3_54, h⟩ := o_b1E h
            refine go_ndI ex3_54 ?_
            refine go_istore_n (pc' := 55) (lo' := [some (.inr (.inr th)), some (.inl a0), some (.inl a1), some (.inl x3_54), some (.inl v4_5)]) rfl rfl rfl ?_
            obtain ⟨x4_55, ex4_55, h⟩ := o_b1E h
            refine go_iincE (pc' := 58) rfl rfl (y := (nI 1)) rfl ex4_55 (lo' := [some (.inr (.inr th)), some (.inl a0), some (.inl a1), some (.inl x3_54), some (.inl x4_55)]) rfl rfl ?_
            refine go_goto (pc' := 5) rfl rfl ?_
            exact (lp_backE h hk5 :)
          · replace h := o_t (Decidable.of_not_not h45) h
            exact ex5_48 _ (some (.inl v3_5)) (lp_exitE h hk5)
        · replace h := o_f h37 h
          refine go_goto (pc' := 55) rfl rfl ?_
          obtain ⟨x4_55, ex4_55, h⟩ := o_b1E h
          refine go_iincE (pc' := 58) rfl rfl (y := (nI 1)) rfl ex4_55 (lo' := [some (.inr (.inr th)), some (.inl a0), some (.inl a1), some (.inl v3_5), some (.inl x4_55)]) rfl rfl ?_
          refine go_goto (pc' := 5) rfl rfl ?_
          exact (lp_backE h hk5 :))
  exact lo5 _ ((nI 0), (nI 0)) hl5 
def m_276_x11_39 (Ix_39 : ai_I) : Option (ai_I) :=
  some Ix_39
def m_276_b11 (th : Nat) (Rf : ai_R) (G : ai_G) (v2_11 : Int32) (I_11 : ai_I) : Option ((Int32 × ai_I) ⊕ ai_I) :=
  if (nI 8) ≤ v2_11 then (some (Sum.inr I_11)) else (o_g (o_in G 13 (Rf th 0) ((nI 1032) + v2_11)) (o_g (o_in G 13 (Rf th 22) v2_11) (o_b1 (some (va_up I_11 (Rf th 22) (va_up (I_11 (Rf th 22)) v2_11.toNatClampNeg (I_11 (Rf th 0) ((nI 1032) + v2_11).toNatClampNeg)))) (fun I_32 => o_b1 (some (v2_11 + (nI 1))) (fun x2_33 => some (Sum.inl (x2_33, I_32)))))))
/-- PricedBasesModel.numbersByPrices(I)V -/
def m_276 (th : Nat) (a0 : Int32) (I : ai_I) (Rf : ai_R) (G : ai_G) : Option (ai_I) :=
  o_b1 (m_197 th a0 I Rf G) (fun r_3 => o_b1 (some (va_up I th (va_up (I th) 23 r_3))) (fun I_6 => o_s1 (lp (fun s => m_276_b11 th Rf G s.1 s.2) o_N ((nI 0), I_6)) (fun t => m_276_x11_39 t)))
theorem md_276 {d : Nat} {I : ai_I} {J : ai_J} {Rf : ai_R} {G : ai_G} {th : Nat} {a0 : Int32} {I1 : ai_I} (hd : 3 ≤ d) (hth : G.1 th = 11) (h : m_276 th a0 I Rf G = some I1) : ai_Cl si_t si_ms d 276 [.inr (.inr th), .inl a0] I J Rf G none I1 J Rf G := by
  obtain ⟨e, rfl⟩ : ∃ e, d = e + 1 := ⟨d - 1, by omega⟩
  unfold m_276 at h
  refine sp_in (lo := [some (.inr (.inr th)), some (.inl a0), none]) (B := (0, 0)) rfl (Nat.le_of_ble_eq_true rfl) rfl rfl ?_
  refine go_aload_n (pc' := 1) rfl rfl rfl ?_
  refine go_aload_n (pc' := 2) rfl rfl rfl ?_
  refine go_iload_n (pc' := 3) rfl rfl rfl ?_
  obtain ⟨r_3, q_3, h⟩ := o_b1E h
  refine go_callV (pc' := 6) (B' := (0, 0)) (st' := [.inl r_3, .inr (.inr th)]) rfl rfl (Or.inl (by decide)) rfl rfl hth (md_197 (by omega) hth q_3) rfl rfl rfl ?_
  obtain ⟨I_6, eI_6, h⟩ := o_b1E h
  refine go_putI (pc' := 9) rfl rfl (fun h => by cases h) hth rfl ?_
  refine go_ndMI eI_6 ?_
  refine go_iconst (pc' := 10) (v := (nI 0)) rfl rfl rfl ?_
  refine go_istore_n (pc' := 11) (lo' := [some (.inr (.inr th)), some (.inl a0), some (.inl (nI 0))]) rfl rfl rfl ?_
  obtain ⟨q11, hl11, hc11_39⟩ := o_s1E h
  have ex11_39 : ∀ (Ix_39 : ai_I) (z2_x39 : Option ai_V), Ix_39 = q11 → ai_Go si_t (11, false, 9, cd_276) (ai_Cl si_t si_ms e) (sp_Q none I1 J Rf G) 39 [some (.inr (.inr th)), some (.inl a0), z2_x39] [] (0, 0) Ix_39 J Rf G := by
    intro Ix_39 z2_x39 hq
    have h : m_276_x11_39 Ix_39 = some I1 := hc11_39 Ix_39 hq.symm
    unfold m_276_x11_39 at h
    cases h
    exact go_vret rfl (rfl) ⟨rfl, rfl, rfl, rfl, rfl⟩
  have lo11 : ∀ n s, lp (fun s => m_276_b11 th Rf G s.1 s.2) n s = some q11 → (fun s => ai_Go si_t (11, false, 9, cd_276) (ai_Cl si_t si_ms e) (sp_Q none I1 J Rf G) 11 [some (.inr (.inr th)), some (.inl a0), some (.inl s.1)] [] (0, 0) s.2 J Rf G) s := lp_go (fun s x11 hx hk11 => by
    obtain ⟨v2_11, I_11⟩ := s
    have h : m_276_b11 th Rf G v2_11 I_11 = some x11 := hx
    clear hx
    show ai_Go si_t (11, false, 9, cd_276) (ai_Cl si_t si_ms e) (sp_Q none I1 J Rf G) 11 [some (.inr (.inr th)), some (.inl a0), some (.inl v2_11)] [] (0, 0) I_11 J Rf G
    unfold m_276_b11 at h
    refine go_iload_n (pc' := 12) rfl rfl rfl ?_
    refine go_bipush (pc' := 14) (v := (nI 8)) rfl rfl rfl ?_
    refine go_icmp_ge (pt := 39) (pc' := 17) rfl rfl rfl (fun h14 => ?_) (fun h14 => ?_)
    · replace h := o_t h14 h
      exact ex11_39 _ (some (.inl v2_11)) (lp_exitE h hk11)
    · replace h := o_f h14 h
      refine go_aload_n (pc' := 18) rfl rfl rfl ?_
      refine go_getR (pc' := 21) rfl rfl hth rfl ?_
      refine go_iload_n (pc' := 22) rfl rfl rfl ?_
      refine go_aload_n (pc' := 23) rfl rfl rfl ?_
      refine go_getR (pc' := 26) rfl rfl hth rfl ?_
      refine go_sipush (pc' := 29) (v := (nI 1032)) rfl rfl rfl ?_
      refine go_iload_n (pc' := 30) rfl rfl rfl ?_
      refine go_iadd (pc' := 31) rfl rfl ?_
      obtain ⟨g0, h⟩ := o_gE h
      refine go_iaload (pc' := 32) rfl (o_inK g0) (o_inB g0) rfl ?_
      obtain ⟨g1, h⟩ := o_gE h
      obtain ⟨I_32, eI_32, h⟩ := o_b1E h
      refine go_iastore (pc' := 33) rfl (o_inK g1) (o_inB g1) rfl ?_
      refine go_ndMI eI_32 ?_
      obtain ⟨x2_33, ex2_33, h⟩ := o_b1E h
      refine go_iincE (pc' := 36) rfl rfl (y := (nI 1)) rfl ex2_33 (lo' := [some (.inr (.inr th)), some (.inl a0), some (.inl x2_33)]) rfl rfl ?_
      refine go_goto (pc' := 11) rfl rfl ?_
      exact (lp_backE h hk11 :))
  exact lo11 _ ((nI 0), I_6) hl11 
/-- PricedBasesModel.space(I)I -/
def m_277 (th : Nat) (a0 : Int32) (I : ai_I) (Rf : ai_R) (G : ai_G) : Option (Int32 × ai_I) :=
  o_b1 (m_200 a0) (fun r_1 => if r_1 = 0 then (some ((-1 : Int32), I)) else (o_b1 (m_276 th a0 I Rf G) (fun I_11 => o_b1 (m_275 th a0 (-1 : Int32) I_11 Rf G) (fun r_17 => if r_17 = 0 then (some ((nI 1), I_11)) else (some ((nI 0), I_11))))))
theorem md_277 {d : Nat} {I : ai_I} {J : ai_J} {Rf : ai_R} {G : ai_G} {th : Nat} {a0 : Int32} {r : Int32} {I1 : ai_I} (hd : 5 ≤ d) (hth : G.1 th = 11) (h : m_277 th a0 I Rf G = some (r, I1)) : ai_Cl si_t si_ms d 277 [.inr (.inr th), .inl a0] I J Rf G (some (.inl r)) I1 J Rf G := by
  obtain ⟨e, rfl⟩ : ∃ e, d = e + 1 := ⟨d - 1, by omega⟩
  unfold m_277 at h
  refine sp_in (lo := [some (.inr (.inr th)), some (.inl a0)]) (B := (0, 0)) rfl (Nat.le_of_ble_eq_true rfl) rfl rfl ?_
  refine go_iload_n (pc' := 1) rfl rfl rfl ?_
  obtain ⟨r_1, q_1, h⟩ := o_b1E h
  refine go_callS (pc' := 4) (B' := (0, 0)) (st' := [.inl r_1]) rfl rfl (Or.inl (by decide)) rfl rfl trivial (md_200 (by omega) q_1) rfl rfl rfl ?_
  refine go_if_ne (pt := 9) (pc' := 7) rfl rfl rfl (fun h4 => ?_) (fun h4 => ?_)
  · replace h := o_f h4 h
    refine go_aload_n (pc' := 10) rfl rfl rfl ?_
    refine go_iload_n (pc' := 11) rfl rfl rfl ?_
    obtain ⟨I_11, q_11, h⟩ := o_b1E h
    refine go_callV (pc' := 14) (B' := (0, 0)) (st' := []) rfl rfl (Or.inl (by decide)) rfl rfl hth (md_276 (by omega) hth q_11) rfl rfl rfl ?_
    refine go_aload_n (pc' := 15) rfl rfl rfl ?_
    refine go_iload_n (pc' := 16) rfl rfl rfl ?_
    refine go_iconst (pc' := 17) (v := (-1 : Int32)) rfl rfl rfl ?_
    obtain ⟨r_17, q_17, h⟩ := o_b1E h
    refine go_callV (pc' := 20) (B' := (0, 0)) (st' := [.inl r_17]) rfl rfl (Or.inl (by decide)) rfl rfl hth (md_275 (by omega) hth q_17) rfl rfl rfl ?_
    refine go_if_ne (pt := 27) (pc' := 23) rfl rfl rfl (fun h20 => ?_) (fun h20 => ?_)
    · replace h := o_f h20 h
      refine go_iconst (pc' := 28) (v := (nI 0)) rfl rfl rfl ?_
      cases h
      exact go_iret rfl (trivial) ⟨rfl, rfl, rfl, rfl, rfl⟩
    · replace h := o_t (Decidable.of_not_not h20) h
      refine go_iconst (pc' := 24) (v := (nI 1)) rfl rfl rfl ?_
      refine go_goto (pc' := 28) rfl rfl ?_
      cases h
      exact go_iret rfl (trivial) ⟨rfl, rfl, rfl, rfl, rfl⟩
  · replace h := o_t (Decidable.of_not_not h4) h
    refine go_iconst (pc' := 8) (v := (-1 : Int32)) rfl rfl rfl ?_
    cases h
    exact go_iret rfl (trivial) ⟨rfl, rfl, rfl, rfl, rfl⟩
/-- PricedBasesModel.failing(II)I -/
def m_278 (th : Nat) (a0 : Int32) (a1 : Int32) (I : ai_I) (Rf : ai_R) (G : ai_G) : Option (Int32 × ai_I) :=
  o_b1 (m_200 a0) (fun r_1 => if r_1 = 0 then (some ((-1 : Int32), I)) else (if (-1 : Int32) ≤ a1 then (o_b1 (m_276 th a0 I Rf G) (fun I_16 => o_b1 (m_275 th a0 a1 I_16 Rf G) (fun r_22 => some (r_22, I_16)))) else (some ((-1 : Int32), I))))
theorem md_278 {d : Nat} {I : ai_I} {J : ai_J} {Rf : ai_R} {G : ai_G} {th : Nat} {a0 : Int32} {a1 : Int32} {r : Int32} {I1 : ai_I} (hd : 5 ≤ d) (hth : G.1 th = 11) (h : m_278 th a0 a1 I Rf G = some (r, I1)) : ai_Cl si_t si_ms d 278 [.inr (.inr th), .inl a0, .inl a1] I J Rf G (some (.inl r)) I1 J Rf G := by
  obtain ⟨e, rfl⟩ : ∃ e, d = e + 1 := ⟨d - 1, by omega⟩
  unfold m_278 at h
  refine sp_in (lo := [some (.inr (.inr th)), some (.inl a0), some (.inl a1)]) (B := (0, 0)) rfl (Nat.le_of_ble_eq_true rfl) rfl rfl ?_
  refine go_iload_n (pc' := 1) rfl rfl rfl ?_
  obtain ⟨r_1, q_1, h⟩ := o_b1E h
  refine go_callS (pc' := 4) (B' := (0, 0)) (st' := [.inl r_1]) rfl rfl (Or.inl (by decide)) rfl rfl trivial (md_200 (by omega) q_1) rfl rfl rfl ?_
  refine go_if_eq (pt := 12) (pc' := 7) rfl rfl rfl (fun h4 => ?_) (fun h4 => ?_)
  · replace h := o_t h4 h
    refine go_iconst (pc' := 13) (v := (-1 : Int32)) rfl rfl rfl ?_
    cases h
    exact go_iret rfl (trivial) ⟨rfl, rfl, rfl, rfl, rfl⟩
  · replace h := o_f h4 h
    refine go_iload_n (pc' := 8) rfl rfl rfl ?_
    refine go_iconst (pc' := 9) (v := (-1 : Int32)) rfl rfl rfl ?_
    refine go_icmp_ge (pt := 14) (pc' := 12) rfl rfl rfl (fun h9 => ?_) (fun h9 => ?_)
    · replace h := o_t h9 h
      refine go_aload_n (pc' := 15) rfl rfl rfl ?_
      refine go_iload_n (pc' := 16) rfl rfl rfl ?_
      obtain ⟨I_16, q_16, h⟩ := o_b1E h
      refine go_callV (pc' := 19) (B' := (0, 0)) (st' := []) rfl rfl (Or.inl (by decide)) rfl rfl hth (md_276 (by omega) hth q_16) rfl rfl rfl ?_
      refine go_aload_n (pc' := 20) rfl rfl rfl ?_
      refine go_iload_n (pc' := 21) rfl rfl rfl ?_
      refine go_iload_n (pc' := 22) rfl rfl rfl ?_
      obtain ⟨r_22, q_22, h⟩ := o_b1E h
      refine go_callV (pc' := 25) (B' := (0, 0)) (st' := [.inl r_22]) rfl rfl (Or.inl (by decide)) rfl rfl hth (md_275 (by omega) hth q_22) rfl rfl rfl ?_
      cases h
      exact go_iret rfl (trivial) ⟨rfl, rfl, rfl, rfl, rfl⟩
    · replace h := o_f h9 h
      refine go_iconst (pc' := 13) (v := (-1 : Int32)) rfl rfl rfl ?_
      cases h
      exact go_iret rfl (trivial) ⟨rfl, rfl, rfl, rfl, rfl⟩
def m_279_x7_74 (th : Nat) (Ix_74 : ai_I) : Option (Int32 × ai_I) :=
  if (Ix_74 th 23) = 0 then (some ((nI 0), Ix_74)) else (some ((nI 1), Ix_74))
def m_279_b7 (th : Nat) (a0 : Int32) (a1 : Int32) (Rf : ai_R) (G : ai_G) (v3_7 : Int32) (I_7 : ai_I) : Option ((Int32 × ai_I) ⊕ ai_I) :=
  o_b1 (m_195 th a0 I_7 Rf G) (fun r_10 => if r_10 ≤ v3_7 then (some (Sum.inr I_7)) else (o_b1 (m_192 a1 v3_7) (fun r_18 => if r_18 = 0 then (o_b1 (m_199 th a0 (a1 ||| ((nI 1) <<< (v3_7 &&& 31))) I_7 Rf G) (fun r_31 => if r_31 = 0 then (o_b1 (some (v3_7 + (nI 1))) (fun x3_68 => some (Sum.inl (x3_68, I_7)))) else (o_b1 (some (va_up I_7 th (va_up (I_7 th) 23 ((I_7 th 23) ||| ((nI 1) <<< (v3_7 &&& 31)))))) (fun I_49 => o_b1 (m_198 th a0 (a1 ||| ((nI 1) <<< (v3_7 &&& 31))) I_49 Rf G) (fun r_64 => o_g (o_in G 13 (Rf th 22) v3_7) (o_b1 (some (va_up I_49 (Rf th 22) (va_up (I_49 (Rf th 22)) v3_7.toNatClampNeg r_64))) (fun I_67 => o_b1 (some (v3_7 + (nI 1))) (fun x3_68 => some (Sum.inl (x3_68, I_67)))))))))) else (o_b1 (some (v3_7 + (nI 1))) (fun x3_68 => some (Sum.inl (x3_68, I_7)))))))
/-- PricedBasesModel.numbersBy(II)Z -/
def m_279 (th : Nat) (a0 : Int32) (a1 : Int32) (I : ai_I) (Rf : ai_R) (G : ai_G) : Option (Int32 × ai_I) :=
  o_b1 (some (va_up I th (va_up (I th) 23 (nI 0)))) (fun I_2 => o_s1 (lp (fun s => m_279_b7 th a0 a1 Rf G s.1 s.2) o_N ((nI 0), I_2)) (fun t => m_279_x7_74 th t))
theorem md_279 {d : Nat} {I : ai_I} {J : ai_J} {Rf : ai_R} {G : ai_G} {th : Nat} {a0 : Int32} {a1 : Int32} {r : Int32} {I1 : ai_I} (hd : 3 ≤ d) (hth : G.1 th = 11) (h : m_279 th a0 a1 I Rf G = some (r, I1)) : ai_Cl si_t si_ms d 279 [.inr (.inr th), .inl a0, .inl a1] I J Rf G (some (.inl r)) I1 J Rf G := by
  obtain ⟨e, rfl⟩ : ∃ e, d = e + 1 := ⟨d - 1, by omega⟩
  unfold m_279 at h
  refine sp_in (lo := [some (.inr (.inr th)), some (.inl a0), some (.inl a1), none]) (B := (0, 0)) rfl (Nat.le_of_ble_eq_true rfl) rfl rfl ?_
  refine go_aload_n (pc' := 1) rfl rfl rfl ?_
  refine go_iconst (pc' := 2) (v := (nI 0)) rfl rfl rfl ?_
  obtain ⟨I_2, eI_2, h⟩ := o_b1E h
  refine go_putI (pc' := 5) rfl rfl (fun h => by cases h) hth rfl ?_
  refine go_ndMI eI_2 ?_
  refine go_iconst (pc' := 6) (v := (nI 0)) rfl rfl rfl ?_
  refine go_istore_n (pc' := 7) (lo' := [some (.inr (.inr th)), some (.inl a0), some (.inl a1), some (.inl (nI 0))]) rfl rfl rfl ?_
  obtain ⟨q7, hl7, hc7_74⟩ := o_s1E h
  have ex7_74 : ∀ (Ix_74 : ai_I) (z3_x74 : Option ai_V), Ix_74 = q7 → ai_Go si_t (11, false, 3, cd_279) (ai_Cl si_t si_ms e) (sp_Q (some (.inl r)) I1 J Rf G) 74 [some (.inr (.inr th)), some (.inl a0), some (.inl a1), z3_x74] [] (0, 0) Ix_74 J Rf G := by
    intro Ix_74 z3_x74 hq
    have h : m_279_x7_74 th Ix_74 = some (r, I1) := hc7_74 Ix_74 hq.symm
    unfold m_279_x7_74 at h
    refine go_aload_n (pc' := 75) rfl rfl rfl ?_
    refine go_getI (pc' := 78) rfl rfl (by decide) (by decide) hth rfl ?_
    refine go_if_eq (pt := 85) (pc' := 81) rfl rfl rfl (fun h78 => ?_) (fun h78 => ?_)
    · replace h := o_t h78 h
      refine go_iconst (pc' := 86) (v := (nI 0)) rfl rfl rfl ?_
      cases h
      exact go_iret rfl (rfl) ⟨rfl, rfl, rfl, rfl, rfl⟩
    · replace h := o_f h78 h
      refine go_iconst (pc' := 82) (v := (nI 1)) rfl rfl rfl ?_
      refine go_goto (pc' := 86) rfl rfl ?_
      cases h
      exact go_iret rfl (rfl) ⟨rfl, rfl, rfl, rfl, rfl⟩
  have lo7 : ∀ n s, lp (fun s => m_279_b7 th a0 a1 Rf G s.1 s.2) n s = some q7 → (fun s => ai_Go si_t (11, false, 3, cd_279) (ai_Cl si_t si_ms e) (sp_Q (some (.inl r)) I1 J Rf G) 7 [some (.inr (.inr th)), some (.inl a0), some (.inl a1), some (.inl s.1)] [] (0, 0) s.2 J Rf G) s := lp_go (fun s x7 hx hk7 => by
    obtain ⟨v3_7, I_7⟩ := s
    have h : m_279_b7 th a0 a1 Rf G v3_7 I_7 = some x7 := hx
    clear hx
    show ai_Go si_t (11, false, 3, cd_279) (ai_Cl si_t si_ms e) (sp_Q (some (.inl r)) I1 J Rf G) 7 [some (.inr (.inr th)), some (.inl a0), some (.inl a1), some (.inl v3_7)] [] (0, 0) I_7 J Rf G
    unfold m_279_b7 at h
    refine go_iload_n (pc' := 8) rfl rfl rfl ?_
    refine go_aload_n (pc' := 9) rfl rfl rfl ?_
    refine go_iload_n (pc' := 10) rfl rfl rfl ?_
    obtain ⟨r_10, q_10, h⟩ := o_b1E h
    refine go_callV (pc' := 13) (B' := (0, 0)) (st' := [.inl r_10, .inl v3_7]) rfl rfl (Or.inl (by decide)) rfl rfl hth (md_195 (by omega) hth q_10) rfl rfl rfl ?_
    refine go_icmp_ge (pt := 74) (pc' := 16) rfl rfl rfl (fun h13 => ?_) (fun h13 => ?_)
    · replace h := o_t h13 h
      exact ex7_74 _ (some (.inl v3_7)) (lp_exitE h hk7)
    · replace h := o_f h13 h
      refine go_iload_n (pc' := 17) rfl rfl rfl ?_
      refine go_iload_n (pc' := 18) rfl rfl rfl ?_
      obtain ⟨r_18, q_18, h⟩ := o_b1E h
      refine go_callS (pc' := 21) (B' := (0, 0)) (st' := [.inl r_18]) rfl rfl (Or.inl (by decide)) rfl rfl trivial (md_192 (by omega) q_18) rfl rfl rfl ?_
      refine go_if_ne (pt := 68) (pc' := 24) rfl rfl rfl (fun h21 => ?_) (fun h21 => ?_)
      · replace h := o_f h21 h
        obtain ⟨x3_68, ex3_68, h⟩ := o_b1E h
        refine go_iincE (pc' := 71) rfl rfl (y := (nI 1)) rfl ex3_68 (lo' := [some (.inr (.inr th)), some (.inl a0), some (.inl a1), some (.inl x3_68)]) rfl rfl ?_
        refine go_goto (pc' := 7) rfl rfl ?_
        exact (lp_backE h hk7 :)
      · replace h := o_t (Decidable.of_not_not h21) h
        refine go_aload_n (pc' := 25) rfl rfl rfl ?_
        refine go_iload_n (pc' := 26) rfl rfl rfl ?_
        refine go_iload_n (pc' := 27) rfl rfl rfl ?_
        refine go_iconst (pc' := 28) (v := (nI 1)) rfl rfl rfl ?_
        refine go_iload_n (pc' := 29) rfl rfl rfl ?_
        refine go_ishl (pc' := 30) rfl rfl ?_
        refine go_ior (pc' := 31) rfl rfl ?_
        obtain ⟨r_31, q_31, h⟩ := o_b1E h
        refine go_callV (pc' := 34) (B' := (0, 0)) (st' := [.inl r_31]) rfl rfl (Or.inl (by decide)) rfl rfl hth (md_199 (by omega) hth q_31) rfl rfl rfl ?_
        refine go_if_ne (pt := 40) (pc' := 37) rfl rfl rfl (fun h34 => ?_) (fun h34 => ?_)
        · replace h := o_f h34 h
          refine go_aload_n (pc' := 41) rfl rfl rfl ?_
          refine go_aload_n (pc' := 42) rfl rfl rfl ?_
          refine go_getI (pc' := 45) rfl rfl (by decide) (by decide) hth rfl ?_
          refine go_iconst (pc' := 46) (v := (nI 1)) rfl rfl rfl ?_
          refine go_iload_n (pc' := 47) rfl rfl rfl ?_
          refine go_ishl (pc' := 48) rfl rfl ?_
          refine go_ior (pc' := 49) rfl rfl ?_
          obtain ⟨I_49, eI_49, h⟩ := o_b1E h
          refine go_putI (pc' := 52) rfl rfl (fun h => by cases h) hth rfl ?_
          refine go_ndMI eI_49 ?_
          refine go_aload_n (pc' := 53) rfl rfl rfl ?_
          refine go_getR (pc' := 56) rfl rfl hth rfl ?_
          refine go_iload_n (pc' := 57) rfl rfl rfl ?_
          refine go_aload_n (pc' := 58) rfl rfl rfl ?_
          refine go_iload_n (pc' := 59) rfl rfl rfl ?_
          refine go_iload_n (pc' := 60) rfl rfl rfl ?_
          refine go_iconst (pc' := 61) (v := (nI 1)) rfl rfl rfl ?_
          refine go_iload_n (pc' := 62) rfl rfl rfl ?_
          refine go_ishl (pc' := 63) rfl rfl ?_
          refine go_ior (pc' := 64) rfl rfl ?_
          obtain ⟨r_64, q_64, h⟩ := o_b1E h
          refine go_callV (pc' := 67) (B' := (0, 0)) (st' := [.inl r_64, .inl v3_7, .inr (.inr (Rf th 22))]) rfl rfl (Or.inl (by decide)) rfl rfl hth (md_198 (by omega) hth q_64) rfl rfl rfl ?_
          obtain ⟨g0, h⟩ := o_gE h
          obtain ⟨I_67, eI_67, h⟩ := o_b1E h
          refine go_iastore (pc' := 68) rfl (o_inK g0) (o_inB g0) rfl ?_
          refine go_ndMI eI_67 ?_
          obtain ⟨x3_68, ex3_68, h⟩ := o_b1E h
          refine go_iincE (pc' := 71) rfl rfl (y := (nI 1)) rfl ex3_68 (lo' := [some (.inr (.inr th)), some (.inl a0), some (.inl a1), some (.inl x3_68)]) rfl rfl ?_
          refine go_goto (pc' := 7) rfl rfl ?_
          exact (lp_backE h hk7 :)
        · replace h := o_t (Decidable.of_not_not h34) h
          refine go_goto (pc' := 68) rfl rfl ?_
          obtain ⟨x3_68, ex3_68, h⟩ := o_b1E h
          refine go_iincE (pc' := 71) rfl rfl (y := (nI 1)) rfl ex3_68 (lo' := [some (.inr (.inr th)), some (.inl a0), some (.inl a1), some (.inl x3_68)]) rfl rfl ?_
          refine go_goto (pc' := 7) rfl rfl ?_
          exact (lp_backE h hk7 :))
  exact lo7 _ ((nI 0), I_2) hl7 
def m_280_x27_90 (a1 : Int32) (w3_90 : Int32) (w4_90 : Int32) (Ix_90 : ai_I) : Option (Int32 × ai_I) :=
  if a1 = 0 then (some (w3_90, Ix_90)) else (some (w4_90, Ix_90))
def m_280_b27 (th : Nat) (a0 : Int32) (Rf : ai_R) (G : ai_G) (v3_27 : Int32) (v4_27 : Int32) (v5_27 : Int32) (I_27 : ai_I) : Option ((Int32 × Int32 × Int32 × ai_I) ⊕ (Int32 × Int32 × ai_I)) :=
  o_b1 (m_197 th a0 I_27 Rf G) (fun r_31 => if r_31 < v5_27 then (some (Sum.inr (v3_27, v4_27, I_27))) else (o_b1 (m_193 v5_27) (fun r_39 => o_b1 (m_196 th a0 I_27 Rf G) (fun r_44 => if r_39 = (r_44 - (nI 1)) then (o_b2 (m_279 th a0 v5_27 I_27 Rf G) (fun r_56 I_56 => if r_56 = 0 then (o_b1 (some (v5_27 + (nI 1))) (fun x5_84 => some (Sum.inl (v3_27, v4_27, x5_84, I_56)))) else (o_b1 (some (v3_27 + (nI 1))) (fun x3_68 => o_b1 (m_275 th a0 (-1 : Int32) I_56 Rf G) (fun r_72 => if r_72 = 0 then (o_b1 (some (v4_27 + (nI 1))) (fun x4_82 => o_b1 (some (v5_27 + (nI 1))) (fun x5_84 => some (Sum.inl (x3_68, x4_82, x5_84, I_56))))) else (o_b1 (some (v5_27 + (nI 1))) (fun x5_84 => some (Sum.inl (x3_68, v4_27, x5_84, I_56))))))))) else (o_b1 (some (v5_27 + (nI 1))) (fun x5_84 => some (Sum.inl (v3_27, v4_27, x5_84, I_27))))))))
/-- PricedBasesModel.spanned(II)I -/
def m_280 (th : Nat) (a0 : Int32) (a1 : Int32) (I : ai_I) (Rf : ai_R) (G : ai_G) : Option (Int32 × ai_I) :=
  o_b1 (m_200 a0) (fun r_1 => if r_1 = 0 then (some ((-1 : Int32), I)) else (o_b1 (m_189 a1.toInt64 (0 : Int64) (1 : Int64)) (fun r_11 => if r_11 = 0 then (some ((-1 : Int32), I)) else (o_s1 (lp (fun s => m_280_b27 th a0 Rf G s.1 s.2.1 s.2.2.1 s.2.2.2) o_N ((nI 0), (nI 0), (nI 0), I)) (fun t => m_280_x27_90 a1 t.1 t.2.1 t.2.2)))))
theorem md_280 {d : Nat} {I : ai_I} {J : ai_J} {Rf : ai_R} {G : ai_G} {th : Nat} {a0 : Int32} {a1 : Int32} {r : Int32} {I1 : ai_I} (hd : 5 ≤ d) (hth : G.1 th = 11) (h : m_280 th a0 a1 I Rf G = some (r, I1)) : ai_Cl si_t si_ms d 280 [.inr (.inr th), .inl a0, .inl a1] I J Rf G (some (.inl r)) I1 J Rf G := by
  obtain ⟨e, rfl⟩ : ∃ e, d = e + 1 := ⟨d - 1, by omega⟩
  unfold m_280 at h
  refine sp_in (lo := [some (.inr (.inr th)), some (.inl a0), some (.inl a1), none, none, none]) (B := (0, 0)) rfl (Nat.le_of_ble_eq_true rfl) rfl rfl ?_
  refine go_iload_n (pc' := 1) rfl rfl rfl ?_
  obtain ⟨r_1, q_1, h⟩ := o_b1E h
  refine go_callS (pc' := 4) (B' := (0, 0)) (st' := [.inl r_1]) rfl rfl (Or.inl (by decide)) rfl rfl trivial (md_200 (by omega) q_1) rfl rfl rfl ?_
  refine go_if_eq (pt := 17) (pc' := 7) rfl rfl rfl (fun h4 => ?_) (fun h4 => ?_)
  · replace h := o_t h4 h
    refine go_iconst (pc' := 18) (v := (-1 : Int32)) rfl rfl rfl ?_
    cases h
    exact go_iret rfl (trivial) ⟨rfl, rfl, rfl, rfl, rfl⟩
  · replace h := o_f h4 h
    refine go_iload_n (pc' := 8) rfl rfl rfl ?_
    refine go_i2l (pc' := 9) rfl rfl ?_
    refine go_lconst (pc' := 10) (v := (0 : Int64)) rfl rfl rfl ?_
    refine go_lconst (pc' := 11) (v := (1 : Int64)) rfl rfl rfl ?_
    obtain ⟨r_11, q_11, h⟩ := o_b1E h
    refine go_callS (pc' := 14) (B' := (0, 0)) (st' := [.inl r_11]) rfl rfl (Or.inl (by decide)) rfl rfl trivial (md_189 (by omega) q_11) rfl rfl rfl ?_
    refine go_if_ne (pt := 19) (pc' := 17) rfl rfl rfl (fun h14 => ?_) (fun h14 => ?_)
    · replace h := o_f h14 h
      refine go_iconst (pc' := 20) (v := (nI 0)) rfl rfl rfl ?_
      refine go_istore_n (pc' := 21) (lo' := [some (.inr (.inr th)), some (.inl a0), some (.inl a1), some (.inl (nI 0)), none, none]) rfl rfl rfl ?_
      refine go_iconst (pc' := 22) (v := (nI 0)) rfl rfl rfl ?_
      refine go_istore (pc' := 24) (lo' := [some (.inr (.inr th)), some (.inl a0), some (.inl a1), some (.inl (nI 0)), some (.inl (nI 0)), none]) rfl rfl rfl ?_
      refine go_iconst (pc' := 25) (v := (nI 0)) rfl rfl rfl ?_
      refine go_istore (pc' := 27) (lo' := [some (.inr (.inr th)), some (.inl a0), some (.inl a1), some (.inl (nI 0)), some (.inl (nI 0)), some (.inl (nI 0))]) rfl rfl rfl ?_
      obtain ⟨q27, hl27, hc27_90⟩ := o_s1E h
      have ex27_90 : ∀ (w3_90 : Int32) (w4_90 : Int32) (Ix_90 : ai_I) (z5_x90 : Option ai_V), (w3_90, w4_90, Ix_90) = q27 → ai_Go si_t (11, false, 0, cd_280) (ai_Cl si_t si_ms e) (sp_Q (some (.inl r)) I1 J Rf G) 90 [some (.inr (.inr th)), some (.inl a0), some (.inl a1), some (.inl w3_90), some (.inl w4_90), z5_x90] [] (0, 0) Ix_90 J Rf G := by
        intro w3_90 w4_90 Ix_90 z5_x90 hq
        have h : m_280_x27_90 a1 w3_90 w4_90 Ix_90 = some (r, I1) := hc27_90 (w3_90, w4_90, Ix_90) hq.symm
        unfold m_280_x27_90 at h
        refine go_iload_n (pc' := 91) rfl rfl rfl ?_
        refine go_if_ne (pt := 98) (pc' := 94) rfl rfl rfl (fun h91 => ?_) (fun h91 => ?_)
        · replace h := o_f h91 h
          refine go_iload (pc' := 100) rfl rfl rfl ?_
          cases h
          exact go_iret rfl (trivial) ⟨rfl, rfl, rfl, rfl, rfl⟩
        · replace h := o_t (Decidable.of_not_not h91) h
          refine go_iload_n (pc' := 95) rfl rfl rfl ?_
          refine go_goto (pc' := 100) rfl rfl ?_
          cases h
          exact go_iret rfl (trivial) ⟨rfl, rfl, rfl, rfl, rfl⟩
      have lo27 : ∀ n s, lp (fun s => m_280_b27 th a0 Rf G s.1 s.2.1 s.2.2.1 s.2.2.2) n s = some q27 → (fun s => ai_Go si_t (11, false, 0, cd_280) (ai_Cl si_t si_ms e) (sp_Q (some (.inl r)) I1 J Rf G) 27 [some (.inr (.inr th)), some (.inl a0), some (.inl a1), some (.inl s.1), some (.inl s.2.1), some (.inl s.2.2.1)] [] (0, 0) s.2.2.2 J Rf G) s := lp_go (fun s x27 hx hk27 => by
        obtain ⟨v3_27, v4_27, v5_27, I_27⟩ := s
        have h : m_280_b27 th a0 Rf G v3_27 v4_27 v5_27 I_27 = some x27 := hx
        clear hx
        show ai_Go si_t (11, false, 0, cd_280) (ai_Cl si_t si_ms e) (sp_Q (some (.inl r)) I1 J Rf G) 27 [some (.inr (.inr th)), some (.inl a0), some (.inl a1), some (.inl v3_27), some (.inl v4_27), some (.inl v5_27)] [] (0, 0) I_27 J Rf G
        unfold m_280_b27 at h
        refine go_iload (pc' := 29) rfl rfl rfl ?_
        refine go_aload_n (pc' := 30) rfl rfl rfl ?_
        refine go_iload_n (pc' := 31) rfl rfl rfl ?_
        obtain ⟨r_31, q_31, h⟩ := o_b1E h
        refine go_callV (pc' := 34) (B' := (0, 0)) (st' := [.inl r_31, .inl v5_27]) rfl rfl (Or.inl (by decide)) rfl rfl hth (md_197 (by omega) hth q_31) rfl rfl rfl ?_
        refine go_icmp_gt (pt := 90) (pc' := 37) rfl rfl rfl (fun h34 => ?_) (fun h34 => ?_)
        · replace h := o_t h34 h
          exact ex27_90 _ _ _ (some (.inl v5_27)) (lp_exitE h hk27)
        · replace h := o_f h34 h
          refine go_iload (pc' := 39) rfl rfl rfl ?_
          obtain ⟨r_39, q_39, h⟩ := o_b1E h
          refine go_callS (pc' := 42) (B' := (0, 0)) (st' := [.inl r_39]) rfl rfl (Or.inl (by decide)) rfl rfl trivial (md_193 (by omega) q_39) rfl rfl rfl ?_
          refine go_aload_n (pc' := 43) rfl rfl rfl ?_
          refine go_iload_n (pc' := 44) rfl rfl rfl ?_
          obtain ⟨r_44, q_44, h⟩ := o_b1E h
          refine go_callV (pc' := 47) (B' := (0, 0)) (st' := [.inl r_44, .inl r_39]) rfl rfl (Or.inl (by decide)) rfl rfl hth (md_196 (by omega) hth q_44) rfl rfl rfl ?_
          refine go_iconst (pc' := 48) (v := (nI 1)) rfl rfl rfl ?_
          refine go_isub (pc' := 49) rfl rfl ?_
          refine go_icmp_ne (pt := 84) (pc' := 52) rfl rfl rfl (fun h49 => ?_) (fun h49 => ?_)
          · replace h := o_f h49 h
            obtain ⟨x5_84, ex5_84, h⟩ := o_b1E h
            refine go_iincE (pc' := 87) rfl rfl (y := (nI 1)) rfl ex5_84 (lo' := [some (.inr (.inr th)), some (.inl a0), some (.inl a1), some (.inl v3_27), some (.inl v4_27), some (.inl x5_84)]) rfl rfl ?_
            refine go_goto (pc' := 27) rfl rfl ?_
            exact (lp_backE h hk27 :)
          · replace h := o_t (Decidable.of_not_not h49) h
            refine go_aload_n (pc' := 53) rfl rfl rfl ?_
            refine go_iload_n (pc' := 54) rfl rfl rfl ?_
            refine go_iload (pc' := 56) rfl rfl rfl ?_
            obtain ⟨r_56, I_56, q_56, h⟩ := o_b2E h
            refine go_callV (pc' := 59) (B' := (0, 0)) (st' := [.inl r_56]) rfl rfl (Or.inl (by decide)) rfl rfl hth (md_279 (by omega) hth q_56) rfl rfl rfl ?_
            refine go_if_ne (pt := 65) (pc' := 62) rfl rfl rfl (fun h59 => ?_) (fun h59 => ?_)
            · replace h := o_f h59 h
              refine go_iload_n (pc' := 66) rfl rfl rfl ?_
              refine go_iconst (pc' := 67) (v := (nI 1)) rfl rfl rfl ?_
              refine go_iadd (pc' := 68) rfl rfl ?_
              obtain ⟨x3_68, ex3_68, h⟩ := o_b1E h
              refine go_ndI ex3_68 ?_
              refine go_istore_n (pc' := 69) (lo' := [some (.inr (.inr th)), some (.inl a0), some (.inl a1), some (.inl x3_68), some (.inl v4_27), some (.inl v5_27)]) rfl rfl rfl ?_
              refine go_aload_n (pc' := 70) rfl rfl rfl ?_
              refine go_iload_n (pc' := 71) rfl rfl rfl ?_
              refine go_iconst (pc' := 72) (v := (-1 : Int32)) rfl rfl rfl ?_
              obtain ⟨r_72, q_72, h⟩ := o_b1E h
              refine go_callV (pc' := 75) (B' := (0, 0)) (st' := [.inl r_72]) rfl rfl (Or.inl (by decide)) rfl rfl hth (md_275 (by omega) hth q_72) rfl rfl rfl ?_
              refine go_if_ne (pt := 84) (pc' := 78) rfl rfl rfl (fun h75 => ?_) (fun h75 => ?_)
              · replace h := o_f h75 h
                obtain ⟨x5_84, ex5_84, h⟩ := o_b1E h
                refine go_iincE (pc' := 87) rfl rfl (y := (nI 1)) rfl ex5_84 (lo' := [some (.inr (.inr th)), some (.inl a0), some (.inl a1), some (.inl x3_68), some (.inl v4_27), some (.inl x5_84)]) rfl rfl ?_
                refine go_goto (pc' := 27) rfl rfl ?_
                exact (lp_backE h hk27 :)
              · replace h := o_t (Decidable.of_not_not h75) h
                refine go_iload (pc' := 80) rfl rfl rfl ?_
                refine go_iconst (pc' := 81) (v := (nI 1)) rfl rfl rfl ?_
                refine go_iadd (pc' := 82) rfl rfl ?_
                obtain ⟨x4_82, ex4_82, h⟩ := o_b1E h
                refine go_ndI ex4_82 ?_
                refine go_istore (pc' := 84) (lo' := [some (.inr (.inr th)), some (.inl a0), some (.inl a1), some (.inl x3_68), some (.inl x4_82), some (.inl v5_27)]) rfl rfl rfl ?_
                obtain ⟨x5_84, ex5_84, h⟩ := o_b1E h
                refine go_iincE (pc' := 87) rfl rfl (y := (nI 1)) rfl ex5_84 (lo' := [some (.inr (.inr th)), some (.inl a0), some (.inl a1), some (.inl x3_68), some (.inl x4_82), some (.inl x5_84)]) rfl rfl ?_
                refine go_goto (pc' := 27) rfl rfl ?_
                exact (lp_backE h hk27 :)
            · replace h := o_t (Decidable.of_not_not h59) h
              refine go_goto (pc' := 84) rfl rfl ?_
              obtain ⟨x5_84, ex5_84, h⟩ := o_b1E h
              refine go_iincE (pc' := 87) rfl rfl (y := (nI 1)) rfl ex5_84 (lo' := [some (.inr (.inr th)), some (.inl a0), some (.inl a1), some (.inl v3_27), some (.inl v4_27), some (.inl x5_84)]) rfl rfl ?_
              refine go_goto (pc' := 27) rfl rfl ?_
              exact (lp_backE h hk27 :))
      exact lo27 _ ((nI 0), (nI 0), (nI 0), I) hl27 
    · replace h := o_t (Decidable.of_not_not h14) h
      refine go_iconst (pc' := 18) (v := (-1 : Int32)) rfl rfl rfl ?_
      cases h
      exact go_iret rfl (trivial) ⟨rfl, rfl, rfl, rfl, rfl⟩
/-- PricedBasesModel.isBoth(III)Z -/
def m_281 (th : Nat) (a0 : Int32) (a1 : Int32) (a2 : Int32) (I : ai_I) (Rf : ai_R) (G : ai_G) : Option (Int32) :=
  o_b1 (m_199 th a0 a2 I Rf G) (fun r_3 => if r_3 = 0 then (some (nI 0)) else (o_b1 (m_199 th a1 a2 I Rf G) (fun r_12 => if r_12 = 0 then (some (nI 0)) else (some (nI 1)))))
theorem md_281 {d : Nat} {I : ai_I} {J : ai_J} {Rf : ai_R} {G : ai_G} {th : Nat} {a0 : Int32} {a1 : Int32} {a2 : Int32} {r : Int32} (hd : 3 ≤ d) (hth : G.1 th = 11) (h : m_281 th a0 a1 a2 I Rf G = some r) : ai_Cl si_t si_ms d 281 [.inr (.inr th), .inl a0, .inl a1, .inl a2] I J Rf G (some (.inl r)) I J Rf G := by
  obtain ⟨e, rfl⟩ : ∃ e, d = e + 1 := ⟨d - 1, by omega⟩
  unfold m_281 at h
  refine sp_in (lo := [some (.inr (.inr th)), some (.inl a0), some (.inl a1), some (.inl a2)]) (B := (0, 0)) rfl (Nat.le_of_ble_eq_true rfl) rfl rfl ?_
  refine go_aload_n (pc' := 1) rfl rfl rfl ?_
  refine go_iload_n (pc' := 2) rfl rfl rfl ?_
  refine go_iload_n (pc' := 3) rfl rfl rfl ?_
  obtain ⟨r_3, q_3, h⟩ := o_b1E h
  refine go_callV (pc' := 6) (B' := (0, 0)) (st' := [.inl r_3]) rfl rfl (Or.inl (by decide)) rfl rfl hth (md_199 (by omega) hth q_3) rfl rfl rfl ?_
  refine go_if_eq (pt := 22) (pc' := 9) rfl rfl rfl (fun h6 => ?_) (fun h6 => ?_)
  · replace h := o_t h6 h
    refine go_iconst (pc' := 23) (v := (nI 0)) rfl rfl rfl ?_
    cases h
    exact go_iret rfl (rfl) ⟨rfl, rfl, rfl, rfl, rfl⟩
  · replace h := o_f h6 h
    refine go_aload_n (pc' := 10) rfl rfl rfl ?_
    refine go_iload_n (pc' := 11) rfl rfl rfl ?_
    refine go_iload_n (pc' := 12) rfl rfl rfl ?_
    obtain ⟨r_12, q_12, h⟩ := o_b1E h
    refine go_callV (pc' := 15) (B' := (0, 0)) (st' := [.inl r_12]) rfl rfl (Or.inl (by decide)) rfl rfl hth (md_199 (by omega) hth q_12) rfl rfl rfl ?_
    refine go_if_eq (pt := 22) (pc' := 18) rfl rfl rfl (fun h15 => ?_) (fun h15 => ?_)
    · replace h := o_t h15 h
      refine go_iconst (pc' := 23) (v := (nI 0)) rfl rfl rfl ?_
      cases h
      exact go_iret rfl (rfl) ⟨rfl, rfl, rfl, rfl, rfl⟩
    · replace h := o_f h15 h
      refine go_iconst (pc' := 19) (v := (nI 1)) rfl rfl rfl ?_
      refine go_goto (pc' := 23) rfl rfl ?_
      cases h
      exact go_iret rfl (rfl) ⟨rfl, rfl, rfl, rfl, rfl⟩
def m_282_x6_69 (w3_69 : Int32) : Option (Int32) :=
  some w3_69
def m_282_b6 (th : Nat) (a0 : Int32) (a1 : Int32) (I : ai_I) (Rf : ai_R) (G : ai_G) (v3_6 : Int32) (v4_6 : Int32) : Option ((Int32 × Int32) ⊕ Int32) :=
  if (nI 256) ≤ v4_6 then (some (Sum.inr v3_6)) else (o_b1 (m_281 th a0 a1 v4_6 I Rf G) (fun r_19 => if r_19 = 0 then (o_b1 (some (v4_6 + (nI 1))) (fun x4_63 => some (Sum.inl (v3_6, x4_63)))) else (if v3_6 < 0 then (o_b1 (some (v4_6 + (nI 1))) (fun x4_63 => some (Sum.inl (v4_6, x4_63)))) else (o_b1 (m_198 th a0 v4_6 I Rf G) (fun r_33 => o_b1 (m_198 th a1 v4_6 I Rf G) (fun r_40 => o_b1 (m_198 th a0 v3_6 I Rf G) (fun r_47 => o_b1 (m_198 th a1 v3_6 I Rf G) (fun r_53 => if (r_33 + r_40) ≤ (r_47 + r_53) then (o_b1 (some (v4_6 + (nI 1))) (fun x4_63 => some (Sum.inl (v3_6, x4_63)))) else (o_b1 (some (v4_6 + (nI 1))) (fun x4_63 => some (Sum.inl (v4_6, x4_63))))))))))))
/-- PricedBasesModel.common(II)I -/
def m_282 (th : Nat) (a0 : Int32) (a1 : Int32) (I : ai_I) (Rf : ai_R) (G : ai_G) : Option (Int32) :=
  o_s1 (lp (fun s => m_282_b6 th a0 a1 I Rf G s.1 s.2) o_N ((-2 : Int32), (nI 0))) (fun t => m_282_x6_69 t)
theorem md_282 {d : Nat} {I : ai_I} {J : ai_J} {Rf : ai_R} {G : ai_G} {th : Nat} {a0 : Int32} {a1 : Int32} {r : Int32} (hd : 4 ≤ d) (hth : G.1 th = 11) (h : m_282 th a0 a1 I Rf G = some r) : ai_Cl si_t si_ms d 282 [.inr (.inr th), .inl a0, .inl a1] I J Rf G (some (.inl r)) I J Rf G := by
  obtain ⟨e, rfl⟩ : ∃ e, d = e + 1 := ⟨d - 1, by omega⟩
  unfold m_282 at h
  refine sp_in (lo := [some (.inr (.inr th)), some (.inl a0), some (.inl a1), none, none]) (B := (0, 0)) rfl (Nat.le_of_ble_eq_true rfl) rfl rfl ?_
  refine go_bipush (pc' := 2) (v := (-2 : Int32)) rfl rfl rfl ?_
  refine go_istore_n (pc' := 3) (lo' := [some (.inr (.inr th)), some (.inl a0), some (.inl a1), some (.inl (-2 : Int32)), none]) rfl rfl rfl ?_
  refine go_iconst (pc' := 4) (v := (nI 0)) rfl rfl rfl ?_
  refine go_istore (pc' := 6) (lo' := [some (.inr (.inr th)), some (.inl a0), some (.inl a1), some (.inl (-2 : Int32)), some (.inl (nI 0))]) rfl rfl rfl ?_
  obtain ⟨q6, hl6, hc6_69⟩ := o_s1E h
  have ex6_69 : ∀ (w3_69 : Int32) (z4_x69 : Option ai_V), w3_69 = q6 → ai_Go si_t (11, false, 0, cd_282) (ai_Cl si_t si_ms e) (sp_Q (some (.inl r)) I J Rf G) 69 [some (.inr (.inr th)), some (.inl a0), some (.inl a1), some (.inl w3_69), z4_x69] [] (0, 0) I J Rf G := by
    intro w3_69 z4_x69 hq
    have h : m_282_x6_69 w3_69 = some r := hc6_69 w3_69 hq.symm
    unfold m_282_x6_69 at h
    refine go_iload_n (pc' := 70) rfl rfl rfl ?_
    cases h
    exact go_iret rfl (trivial) ⟨rfl, rfl, rfl, rfl, rfl⟩
  have lo6 : ∀ n s, lp (fun s => m_282_b6 th a0 a1 I Rf G s.1 s.2) n s = some q6 → (fun s => ai_Go si_t (11, false, 0, cd_282) (ai_Cl si_t si_ms e) (sp_Q (some (.inl r)) I J Rf G) 6 [some (.inr (.inr th)), some (.inl a0), some (.inl a1), some (.inl s.1), some (.inl s.2)] [] (0, 0) I J Rf G) s := lp_go (fun s x6 hx hk6 => by
    obtain ⟨v3_6, v4_6⟩ := s
    have h : m_282_b6 th a0 a1 I Rf G v3_6 v4_6 = some x6 := hx
    clear hx
    show ai_Go si_t (11, false, 0, cd_282) (ai_Cl si_t si_ms e) (sp_Q (some (.inl r)) I J Rf G) 6 [some (.inr (.inr th)), some (.inl a0), some (.inl a1), some (.inl v3_6), some (.inl v4_6)] [] (0, 0) I J Rf G
    unfold m_282_b6 at h
    refine go_iload (pc' := 8) rfl rfl rfl ?_
    refine go_sipush (pc' := 11) (v := (nI 256)) rfl rfl rfl ?_
    refine go_icmp_ge (pt := 69) (pc' := 14) rfl rfl rfl (fun h11 => ?_) (fun h11 => ?_)
    · replace h := o_t h11 h
      exact ex6_69 _ (some (.inl v4_6)) (lp_exitE h hk6)
    · replace h := o_f h11 h
      refine go_aload_n (pc' := 15) rfl rfl rfl ?_
      refine go_iload_n (pc' := 16) rfl rfl rfl ?_
      refine go_iload_n (pc' := 17) rfl rfl rfl ?_
      refine go_iload (pc' := 19) rfl rfl rfl ?_
      obtain ⟨r_19, q_19, h⟩ := o_b1E h
      refine go_callV (pc' := 22) (B' := (0, 0)) (st' := [.inl r_19]) rfl rfl (Or.inl (by decide)) rfl rfl hth (md_281 (by omega) hth q_19) rfl rfl rfl ?_
      refine go_if_eq (pt := 63) (pc' := 25) rfl rfl rfl (fun h22 => ?_) (fun h22 => ?_)
      · replace h := o_t h22 h
        obtain ⟨x4_63, ex4_63, h⟩ := o_b1E h
        refine go_iincE (pc' := 66) rfl rfl (y := (nI 1)) rfl ex4_63 (lo' := [some (.inr (.inr th)), some (.inl a0), some (.inl a1), some (.inl v3_6), some (.inl x4_63)]) rfl rfl ?_
        refine go_goto (pc' := 6) rfl rfl ?_
        exact (lp_backE h hk6 :)
      · replace h := o_f h22 h
        refine go_iload_n (pc' := 26) rfl rfl rfl ?_
        refine go_if_lt (pt := 60) (pc' := 29) rfl rfl rfl (fun h26 => ?_) (fun h26 => ?_)
        · replace h := o_t h26 h
          refine go_iload (pc' := 62) rfl rfl rfl ?_
          refine go_istore_n (pc' := 63) (lo' := [some (.inr (.inr th)), some (.inl a0), some (.inl a1), some (.inl v4_6), some (.inl v4_6)]) rfl rfl rfl ?_
          obtain ⟨x4_63, ex4_63, h⟩ := o_b1E h
          refine go_iincE (pc' := 66) rfl rfl (y := (nI 1)) rfl ex4_63 (lo' := [some (.inr (.inr th)), some (.inl a0), some (.inl a1), some (.inl v4_6), some (.inl x4_63)]) rfl rfl ?_
          refine go_goto (pc' := 6) rfl rfl ?_
          exact (lp_backE h hk6 :)
        · replace h := o_f h26 h
          refine go_aload_n (pc' := 30) rfl rfl rfl ?_
          refine go_iload_n (pc' := 31) rfl rfl rfl ?_
          refine go_iload (pc' := 33) rfl rfl rfl ?_
          obtain ⟨r_33, q_33, h⟩ := o_b1E h
          refine go_callV (pc' := 36) (B' := (0, 0)) (st' := [.inl r_33]) rfl rfl (Or.inl (by decide)) rfl rfl hth (md_198 (by omega) hth q_33) rfl rfl rfl ?_
          refine go_aload_n (pc' := 37) rfl rfl rfl ?_
          refine go_iload_n (pc' := 38) rfl rfl rfl ?_
          refine go_iload (pc' := 40) rfl rfl rfl ?_
          obtain ⟨r_40, q_40, h⟩ := o_b1E h
          refine go_callV (pc' := 43) (B' := (0, 0)) (st' := [.inl r_40, .inl r_33]) rfl rfl (Or.inl (by decide)) rfl rfl hth (md_198 (by omega) hth q_40) rfl rfl rfl ?_
          refine go_iadd (pc' := 44) rfl rfl ?_
          refine go_aload_n (pc' := 45) rfl rfl rfl ?_
          refine go_iload_n (pc' := 46) rfl rfl rfl ?_
          refine go_iload_n (pc' := 47) rfl rfl rfl ?_
          obtain ⟨r_47, q_47, h⟩ := o_b1E h
          refine go_callV (pc' := 50) (B' := (0, 0)) (st' := [.inl r_47, .inl (r_33 + r_40)]) rfl rfl (Or.inl (by decide)) rfl rfl hth (md_198 (by omega) hth q_47) rfl rfl rfl ?_
          refine go_aload_n (pc' := 51) rfl rfl rfl ?_
          refine go_iload_n (pc' := 52) rfl rfl rfl ?_
          refine go_iload_n (pc' := 53) rfl rfl rfl ?_
          obtain ⟨r_53, q_53, h⟩ := o_b1E h
          refine go_callV (pc' := 56) (B' := (0, 0)) (st' := [.inl r_53, .inl r_47, .inl (r_33 + r_40)]) rfl rfl (Or.inl (by decide)) rfl rfl hth (md_198 (by omega) hth q_53) rfl rfl rfl ?_
          refine go_iadd (pc' := 57) rfl rfl ?_
          refine go_icmp_le (pt := 63) (pc' := 60) rfl rfl rfl (fun h57 => ?_) (fun h57 => ?_)
          · replace h := o_t h57 h
            obtain ⟨x4_63, ex4_63, h⟩ := o_b1E h
            refine go_iincE (pc' := 66) rfl rfl (y := (nI 1)) rfl ex4_63 (lo' := [some (.inr (.inr th)), some (.inl a0), some (.inl a1), some (.inl v3_6), some (.inl x4_63)]) rfl rfl ?_
            refine go_goto (pc' := 6) rfl rfl ?_
            exact (lp_backE h hk6 :)
          · replace h := o_f h57 h
            refine go_iload (pc' := 62) rfl rfl rfl ?_
            refine go_istore_n (pc' := 63) (lo' := [some (.inr (.inr th)), some (.inl a0), some (.inl a1), some (.inl v4_6), some (.inl v4_6)]) rfl rfl rfl ?_
            obtain ⟨x4_63, ex4_63, h⟩ := o_b1E h
            refine go_iincE (pc' := 66) rfl rfl (y := (nI 1)) rfl ex4_63 (lo' := [some (.inr (.inr th)), some (.inl a0), some (.inl a1), some (.inl v4_6), some (.inl x4_63)]) rfl rfl ?_
            refine go_goto (pc' := 6) rfl rfl ?_
            exact (lp_backE h hk6 :))
  exact lo6 _ ((-2 : Int32), (nI 0)) hl6 
/-- PricedBasesModel.lowers(II)Z -/
def m_283 (th : Nat) (a0 : Int32) (a1 : Int32) (I : ai_I) (Rf : ai_R) (G : ai_G) : Option (Int32 × ai_I) :=
  o_g (o_in G 13 (Rf th 24) a0) (if a1 < (I (Rf th 24) a0.toNatClampNeg) then (o_g (o_in G 13 (Rf th 24) a0) (o_b1 (some (va_up I (Rf th 24) (va_up (I (Rf th 24)) a0.toNatClampNeg a1))) (fun I_18 => some ((nI 1), I_18)))) else (some ((nI 0), I)))
theorem md_283 {d : Nat} {I : ai_I} {J : ai_J} {Rf : ai_R} {G : ai_G} {th : Nat} {a0 : Int32} {a1 : Int32} {r : Int32} {I1 : ai_I} (hd : 1 ≤ d) (hth : G.1 th = 11) (h : m_283 th a0 a1 I Rf G = some (r, I1)) : ai_Cl si_t si_ms d 283 [.inr (.inr th), .inl a0, .inl a1] I J Rf G (some (.inl r)) I1 J Rf G := by
  obtain ⟨e, rfl⟩ : ∃ e, d = e + 1 := ⟨d - 1, by omega⟩
  unfold m_283 at h
  refine sp_in (lo := [some (.inr (.inr th)), some (.inl a0), some (.inl a1)]) (B := (0, 0)) rfl (Nat.le_of_ble_eq_true rfl) rfl rfl ?_
  refine go_iload_n (pc' := 1) rfl rfl rfl ?_
  refine go_aload_n (pc' := 2) rfl rfl rfl ?_
  refine go_getR (pc' := 5) rfl rfl hth rfl ?_
  refine go_iload_n (pc' := 6) rfl rfl rfl ?_
  obtain ⟨g0, h⟩ := o_gE h
  refine go_iaload (pc' := 7) rfl (o_inK g0) (o_inB g0) rfl ?_
  refine go_icmp_lt (pt := 12) (pc' := 10) rfl rfl rfl (fun h7 => ?_) (fun h7 => ?_)
  · replace h := o_t h7 h
    refine go_aload_n (pc' := 13) rfl rfl rfl ?_
    refine go_getR (pc' := 16) rfl rfl hth rfl ?_
    refine go_iload_n (pc' := 17) rfl rfl rfl ?_
    refine go_iload_n (pc' := 18) rfl rfl rfl ?_
    obtain ⟨g1, h⟩ := o_gE h
    obtain ⟨I_18, eI_18, h⟩ := o_b1E h
    refine go_iastore (pc' := 19) rfl (o_inK g1) (o_inB g1) rfl ?_
    refine go_ndMI eI_18 ?_
    refine go_iconst (pc' := 20) (v := (nI 1)) rfl rfl rfl ?_
    cases h
    exact go_iret rfl (rfl) ⟨rfl, rfl, rfl, rfl, rfl⟩
  · replace h := o_f h7 h
    refine go_iconst (pc' := 11) (v := (nI 0)) rfl rfl rfl ?_
    cases h
    exact go_iret rfl (rfl) ⟨rfl, rfl, rfl, rfl, rfl⟩
