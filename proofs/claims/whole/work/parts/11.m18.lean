/-! Models of methods and their proofs, piece 18. Printed by wip/whole/pr10.py. -/
def m_297_x82_100 (w4_100 : Int32) : Option (Int32) :=
  some w4_100
def m_297_b82 (w3_79 : Int32) (v4_82 : Int32) : Option (Int32 ⊕ Int32) :=
  o_b1 (m_192 w3_79 v4_82) (fun r_85 => if r_85 = 0 then (o_b1 (some (v4_82 + (nI 1))) (fun x4_95 => some (Sum.inl x4_95))) else (some (Sum.inr v4_82)))
def m_297_x25_79 (w3_79 : Int32) : Option (Int32) :=
  o_s1 (lp (fun s => m_297_b82 w3_79 s) o_N (nI 0)) (fun t => m_297_x82_100 t)
def m_297_x35_73 (v4_25 : Int32) (w3_73 : Int32) : Option ((Int32 × Int32) ⊕ Int32) :=
  o_b1 (some (v4_25 + (nI 1))) (fun x4_73 => some (Sum.inl (w3_73, x4_73)))
def m_297_b35 (th : Nat) (a0 : Int32) (I : ai_I) (Rf : ai_R) (G : ai_G) (v3_35 : Int32) (v5_35 : Int32) : Option ((Int32 × Int32) ⊕ Int32) :=
  o_b1 (m_197 th a0 I Rf G) (fun r_39 => if r_39 < v5_35 then (some (Sum.inr v3_35)) else (if (v5_35 &&& v3_35) = 0 then (o_b1 (some (v5_35 + (nI 1))) (fun x5_67 => some (Sum.inl (v3_35, x5_67)))) else (o_b1 (m_254 th a0 v5_35 I Rf G) (fun r_56 => if r_56 = 0 then (o_b1 (some (v5_35 + (nI 1))) (fun x5_67 => some (Sum.inl (v3_35, x5_67)))) else (o_b1 (some (v3_35 ||| v5_35)) (fun x3_66 => o_b1 (some (v5_35 + (nI 1))) (fun x5_67 => some (Sum.inl (x3_66, x5_67)))))))))
def m_297_b25 (th : Nat) (a0 : Int32) (I : ai_I) (Rf : ai_R) (G : ai_G) (v3_25 : Int32) (v4_25 : Int32) : Option ((Int32 × Int32) ⊕ Int32) :=
  if (nI 8) ≤ v4_25 then (some (Sum.inr v3_25)) else (o_s1 (lp (fun s => m_297_b35 th a0 I Rf G s.1 s.2) o_N (v3_25, (nI 0))) (fun t => m_297_x35_73 v4_25 t))
/-- PricedBasesModel.component(II)I -/
def m_297 (th : Nat) (a0 : Int32) (a1 : Int32) (I : ai_I) (Rf : ai_R) (G : ai_G) : Option (Int32) :=
  o_b1 (m_200 a0) (fun r_1 => if r_1 = 0 then (some (-1 : Int32)) else (o_b1 (m_202 th a0 a1 I Rf G) (fun r_10 => if r_10 = 0 then (some (-1 : Int32)) else (o_b1 (some ((nI 1) <<< (a1 &&& 31))) (fun x3_21 => o_s1 (lp (fun s => m_297_b25 th a0 I Rf G s.1 s.2) o_N (x3_21, (nI 0))) (fun t => m_297_x25_79 t))))))
theorem md_297 {d : Nat} {I : ai_I} {J : ai_J} {Rf : ai_R} {G : ai_G} {th : Nat} {a0 : Int32} {a1 : Int32} {r : Int32} (hd : 6 ≤ d) (hth : G.1 th = 11) (h : m_297 th a0 a1 I Rf G = some r) : ai_Cl si_t si_ms d 297 [.inr (.inr th), .inl a0, .inl a1] I J Rf G (some (.inl r)) I J Rf G := by
  obtain ⟨e, rfl⟩ : ∃ e, d = e + 1 := ⟨d - 1, by omega⟩
  unfold m_297 at h
  refine sp_in (lo := [some (.inr (.inr th)), some (.inl a0), some (.inl a1), none, none, none]) (B := (0, 0)) rfl (Nat.le_of_ble_eq_true rfl) rfl rfl ?_
  refine go_iload_n (pc' := 1) rfl rfl rfl ?_
  obtain ⟨r_1, q_1, h⟩ := o_b1E h
  refine go_callS (pc' := 4) (B' := (0, 0)) (st' := [.inl r_1]) rfl rfl (Or.inl (by decide)) rfl rfl trivial (md_200 (by omega) q_1) rfl rfl rfl ?_
  refine go_if_eq (pt := 16) (pc' := 7) rfl rfl rfl (fun h4 => ?_) (fun h4 => ?_)
  · replace h := o_t h4 h
    refine go_iconst (pc' := 17) (v := (-1 : Int32)) rfl rfl rfl ?_
    cases h
    exact go_iret rfl (trivial) ⟨rfl, rfl, rfl, rfl, rfl⟩
  · replace h := o_f h4 h
    refine go_aload_n (pc' := 8) rfl rfl rfl ?_
    refine go_iload_n (pc' := 9) rfl rfl rfl ?_
    refine go_iload_n (pc' := 10) rfl rfl rfl ?_
    obtain ⟨r_10, q_10, h⟩ := o_b1E h
    refine go_callV (pc' := 13) (B' := (0, 0)) (st' := [.inl r_10]) rfl rfl (Or.inl (by decide)) rfl rfl hth (md_202 (by omega) hth q_10) rfl rfl rfl ?_
    refine go_if_ne (pt := 18) (pc' := 16) rfl rfl rfl (fun h13 => ?_) (fun h13 => ?_)
    · replace h := o_f h13 h
      refine go_iconst (pc' := 19) (v := (nI 1)) rfl rfl rfl ?_
      refine go_iload_n (pc' := 20) rfl rfl rfl ?_
      refine go_ishl (pc' := 21) rfl rfl ?_
      obtain ⟨x3_21, ex3_21, h⟩ := o_b1E h
      refine go_ndI ex3_21 ?_
      refine go_istore_n (pc' := 22) (lo' := [some (.inr (.inr th)), some (.inl a0), some (.inl a1), some (.inl x3_21), none, none]) rfl rfl rfl ?_
      refine go_iconst (pc' := 23) (v := (nI 0)) rfl rfl rfl ?_
      refine go_istore (pc' := 25) (lo' := [some (.inr (.inr th)), some (.inl a0), some (.inl a1), some (.inl x3_21), some (.inl (nI 0)), none]) rfl rfl rfl ?_
      obtain ⟨q25, hl25, hc25_79⟩ := o_s1E h
      have ex25_79 : ∀ (w3_79 : Int32) (z4_x79 : Option ai_V) (z5_x79 : Option ai_V), w3_79 = q25 → ai_Go si_t (11, false, 0, cd_297) (ai_Cl si_t si_ms e) (sp_Q (some (.inl r)) I J Rf G) 79 [some (.inr (.inr th)), some (.inl a0), some (.inl a1), some (.inl w3_79), z4_x79, z5_x79] [] (0, 0) I J Rf G := by
        intro w3_79 z4_x79 z5_x79 hq
        have h : m_297_x25_79 w3_79 = some r := hc25_79 w3_79 hq.symm
        unfold m_297_x25_79 at h
        refine go_iconst (pc' := 80) (v := (nI 0)) rfl rfl rfl ?_
        refine go_istore (pc' := 82) (lo' := [some (.inr (.inr th)), some (.inl a0), some (.inl a1), some (.inl w3_79), some (.inl (nI 0)), z5_x79]) rfl rfl rfl ?_
        obtain ⟨q82, hl82, hc82_100⟩ := o_s1E h
        have ex82_100 : ∀ (w4_100 : Int32), w4_100 = q82 → ai_Go si_t (11, false, 0, cd_297) (ai_Cl si_t si_ms e) (sp_Q (some (.inl r)) I J Rf G) 100 [some (.inr (.inr th)), some (.inl a0), some (.inl a1), some (.inl w3_79), some (.inl w4_100), z5_x79] [] (0, 0) I J Rf G := by
          intro w4_100 hq
          have h : m_297_x82_100 w4_100 = some r := hc82_100 w4_100 hq.symm
          unfold m_297_x82_100 at h
          refine go_iload (pc' := 102) rfl rfl rfl ?_
          cases h
          exact go_iret rfl (trivial) ⟨rfl, rfl, rfl, rfl, rfl⟩
        have lo82 : ∀ n s, lp (fun s => m_297_b82 w3_79 s) n s = some q82 → (fun s => ai_Go si_t (11, false, 0, cd_297) (ai_Cl si_t si_ms e) (sp_Q (some (.inl r)) I J Rf G) 82 [some (.inr (.inr th)), some (.inl a0), some (.inl a1), some (.inl w3_79), some (.inl s), z5_x79] [] (0, 0) I J Rf G) s := lp_go (fun s x82 hx hk82 => by
          revert s; intro v4_82 hx
          have h : m_297_b82 w3_79 v4_82 = some x82 := hx
          clear hx
          show ai_Go si_t (11, false, 0, cd_297) (ai_Cl si_t si_ms e) (sp_Q (some (.inl r)) I J Rf G) 82 [some (.inr (.inr th)), some (.inl a0), some (.inl a1), some (.inl w3_79), some (.inl v4_82), z5_x79] [] (0, 0) I J Rf G
          unfold m_297_b82 at h
          refine go_iload_n (pc' := 83) rfl rfl rfl ?_
          refine go_iload (pc' := 85) rfl rfl rfl ?_
          obtain ⟨r_85, q_85, h⟩ := o_b1E h
          refine go_callS (pc' := 88) (B' := (0, 0)) (st' := [.inl r_85]) rfl rfl (Or.inl (by decide)) rfl rfl trivial (md_192 (by omega) q_85) rfl rfl rfl ?_
          refine go_if_ne (pt := 100) (pc' := 91) rfl rfl rfl (fun h88 => ?_) (fun h88 => ?_)
          · replace h := o_f h88 h
            exact ex82_100 _  (lp_exitE h hk82)
          · replace h := o_t (Decidable.of_not_not h88) h
            refine go_iload (pc' := 93) rfl rfl rfl ?_
            refine go_iconst (pc' := 94) (v := (nI 1)) rfl rfl rfl ?_
            refine go_iadd (pc' := 95) rfl rfl ?_
            obtain ⟨x4_95, ex4_95, h⟩ := o_b1E h
            refine go_ndI ex4_95 ?_
            refine go_istore (pc' := 97) (lo' := [some (.inr (.inr th)), some (.inl a0), some (.inl a1), some (.inl w3_79), some (.inl x4_95), z5_x79]) rfl rfl rfl ?_
            refine go_goto (pc' := 82) rfl rfl ?_
            exact (lp_backE h hk82 :))
        exact lo82 _ (nI 0) hl82 
      have lo25 : ∀ n s, lp (fun s => m_297_b25 th a0 I Rf G s.1 s.2) n s = some q25 → (fun s => ∀ (z5_25 : Option ai_V), ai_Go si_t (11, false, 0, cd_297) (ai_Cl si_t si_ms e) (sp_Q (some (.inl r)) I J Rf G) 25 [some (.inr (.inr th)), some (.inl a0), some (.inl a1), some (.inl s.1), some (.inl s.2), z5_25] [] (0, 0) I J Rf G) s := lp_go (fun s x25 hx hk25 => by
        obtain ⟨v3_25, v4_25⟩ := s
        intro z5_25
        have h : m_297_b25 th a0 I Rf G v3_25 v4_25 = some x25 := hx
        clear hx
        show ai_Go si_t (11, false, 0, cd_297) (ai_Cl si_t si_ms e) (sp_Q (some (.inl r)) I J Rf G) 25 [some (.inr (.inr th)), some (.inl a0), some (.inl a1), some (.inl v3_25), some (.inl v4_25), z5_25] [] (0, 0) I J Rf G
        unfold m_297_b25 at h
        refine go_iload (pc' := 27) rfl rfl rfl ?_
        refine go_bipush (pc' := 29) (v := (nI 8)) rfl rfl rfl ?_
        refine go_icmp_ge (pt := 79) (pc' := 32) rfl rfl rfl (fun h29 => ?_) (fun h29 => ?_)
        · replace h := o_t h29 h
          exact ex25_79 _ (some (.inl v4_25)) z5_25 (lp_exitE h hk25)
        · replace h := o_f h29 h
          refine go_iconst (pc' := 33) (v := (nI 0)) rfl rfl rfl ?_
          refine go_istore (pc' := 35) (lo' := [some (.inr (.inr th)), some (.inl a0), some (.inl a1), some (.inl v3_25), some (.inl v4_25), some (.inl (nI 0))]) rfl rfl rfl ?_
          obtain ⟨q35, hl35, hc35_73⟩ := o_s1E h
          have ex35_73 : ∀ (w3_73 : Int32) (z5_x73 : Option ai_V), w3_73 = q35 → ai_Go si_t (11, false, 0, cd_297) (ai_Cl si_t si_ms e) (sp_Q (some (.inl r)) I J Rf G) 73 [some (.inr (.inr th)), some (.inl a0), some (.inl a1), some (.inl w3_73), some (.inl v4_25), z5_x73] [] (0, 0) I J Rf G := by
            intro w3_73 z5_x73 hq
            have h : m_297_x35_73 v4_25 w3_73 = some x25 := hc35_73 w3_73 hq.symm
            unfold m_297_x35_73 at h
            obtain ⟨x4_73, ex4_73, h⟩ := o_b1E h
            refine go_iincE (pc' := 76) rfl rfl (y := (nI 1)) rfl ex4_73 (lo' := [some (.inr (.inr th)), some (.inl a0), some (.inl a1), some (.inl w3_73), some (.inl x4_73), z5_x73]) rfl rfl ?_
            refine go_goto (pc' := 25) rfl rfl ?_
            exact (lp_backE h hk25 z5_x73 :)
          have lo35 : ∀ n s, lp (fun s => m_297_b35 th a0 I Rf G s.1 s.2) n s = some q35 → (fun s => ai_Go si_t (11, false, 0, cd_297) (ai_Cl si_t si_ms e) (sp_Q (some (.inl r)) I J Rf G) 35 [some (.inr (.inr th)), some (.inl a0), some (.inl a1), some (.inl s.1), some (.inl v4_25), some (.inl s.2)] [] (0, 0) I J Rf G) s := lp_go (fun s x35 hx hk35 => by
            obtain ⟨v3_35, v5_35⟩ := s
            have h : m_297_b35 th a0 I Rf G v3_35 v5_35 = some x35 := hx
            clear hx
            show ai_Go si_t (11, false, 0, cd_297) (ai_Cl si_t si_ms e) (sp_Q (some (.inl r)) I J Rf G) 35 [some (.inr (.inr th)), some (.inl a0), some (.inl a1), some (.inl v3_35), some (.inl v4_25), some (.inl v5_35)] [] (0, 0) I J Rf G
            unfold m_297_b35 at h
            refine go_iload (pc' := 37) rfl rfl rfl ?_
            refine go_aload_n (pc' := 38) rfl rfl rfl ?_
            refine go_iload_n (pc' := 39) rfl rfl rfl ?_
            obtain ⟨r_39, q_39, h⟩ := o_b1E h
            refine go_callV (pc' := 42) (B' := (0, 0)) (st' := [.inl r_39, .inl v5_35]) rfl rfl (Or.inl (by decide)) rfl rfl hth (md_197 (by omega) hth q_39) rfl rfl rfl ?_
            refine go_icmp_gt (pt := 73) (pc' := 45) rfl rfl rfl (fun h42 => ?_) (fun h42 => ?_)
            · replace h := o_t h42 h
              exact ex35_73 _ (some (.inl v5_35)) (lp_exitE h hk35)
            · replace h := o_f h42 h
              refine go_iload (pc' := 47) rfl rfl rfl ?_
              refine go_iload_n (pc' := 48) rfl rfl rfl ?_
              refine go_iand (pc' := 49) rfl rfl ?_
              refine go_if_eq (pt := 67) (pc' := 52) rfl rfl rfl (fun h49 => ?_) (fun h49 => ?_)
              · replace h := o_t h49 h
                obtain ⟨x5_67, ex5_67, h⟩ := o_b1E h
                refine go_iincE (pc' := 70) rfl rfl (y := (nI 1)) rfl ex5_67 (lo' := [some (.inr (.inr th)), some (.inl a0), some (.inl a1), some (.inl v3_35), some (.inl v4_25), some (.inl x5_67)]) rfl rfl ?_
                refine go_goto (pc' := 35) rfl rfl ?_
                exact (lp_backE h hk35 :)
              · replace h := o_f h49 h
                refine go_aload_n (pc' := 53) rfl rfl rfl ?_
                refine go_iload_n (pc' := 54) rfl rfl rfl ?_
                refine go_iload (pc' := 56) rfl rfl rfl ?_
                obtain ⟨r_56, q_56, h⟩ := o_b1E h
                refine go_callV (pc' := 59) (B' := (0, 0)) (st' := [.inl r_56]) rfl rfl (Or.inl (by decide)) rfl rfl hth (md_254 (by omega) hth q_56) rfl rfl rfl ?_
                refine go_if_eq (pt := 67) (pc' := 62) rfl rfl rfl (fun h59 => ?_) (fun h59 => ?_)
                · replace h := o_t h59 h
                  obtain ⟨x5_67, ex5_67, h⟩ := o_b1E h
                  refine go_iincE (pc' := 70) rfl rfl (y := (nI 1)) rfl ex5_67 (lo' := [some (.inr (.inr th)), some (.inl a0), some (.inl a1), some (.inl v3_35), some (.inl v4_25), some (.inl x5_67)]) rfl rfl ?_
                  refine go_goto (pc' := 35) rfl rfl ?_
                  exact (lp_backE h hk35 :)
                · replace h := o_f h59 h
                  refine go_iload_n (pc' := 63) rfl rfl rfl ?_
                  refine go_iload (pc' := 65) rfl rfl rfl ?_
                  refine go_ior (pc' := 66) rfl rfl ?_
                  obtain ⟨x3_66, ex3_66, h⟩ := o_b1E h
                  refine go_ndI ex3_66 ?_
                  refine go_istore_n (pc' := 67) (lo' := [some (.inr (.inr th)), some (.inl a0), some (.inl a1), some (.inl x3_66), some (.inl v4_25), some (.inl v5_35)]) rfl rfl rfl ?_
                  obtain ⟨x5_67, ex5_67, h⟩ := o_b1E h
                  refine go_iincE (pc' := 70) rfl rfl (y := (nI 1)) rfl ex5_67 (lo' := [some (.inr (.inr th)), some (.inl a0), some (.inl a1), some (.inl x3_66), some (.inl v4_25), some (.inl x5_67)]) rfl rfl ?_
                  refine go_goto (pc' := 35) rfl rfl ?_
                  exact (lp_backE h hk35 :))
          exact lo35 _ (v3_25, (nI 0)) hl35 )
      exact lo25 _ (x3_21, (nI 0)) hl25 none
    · replace h := o_t (Decidable.of_not_not h13) h
      refine go_iconst (pc' := 17) (v := (-1 : Int32)) rfl rfl rfl ?_
      cases h
      exact go_iret rfl (trivial) ⟨rfl, rfl, rfl, rfl, rfl⟩
def m_298_x31_58 : Option (Int32) :=
  some (nI 0)
def m_298_x31_66 : Option (Int32) :=
  some (nI 1)
def m_298_b31 (th : Nat) (a0 : Int32) (a1 : Int32) (I : ai_I) (Rf : ai_R) (G : ai_G) (v3_31 : Int32) : Option (Int32 ⊕ (Unit ⊕ Unit)) :=
  o_b1 (m_197 th a0 I Rf G) (fun r_34 => if r_34 < v3_31 then (some (Sum.inr (Sum.inr ()))) else (o_b1 (m_253 th a1 v3_31 I Rf G) (fun r_43 => if r_43 = 0 then (o_b1 (some (v3_31 + (nI 1))) (fun x3_60 => some (Sum.inl x3_60))) else (o_b1 (m_253 th a0 v3_31 I Rf G) (fun r_52 => if r_52 = 0 then (some (Sum.inr (Sum.inl ()))) else (o_b1 (some (v3_31 + (nI 1))) (fun x3_60 => some (Sum.inl x3_60))))))))
/-- PricedBasesModel.quotient(II)I -/
def m_298 (th : Nat) (a0 : Int32) (a1 : Int32) (I : ai_I) (Rf : ai_R) (G : ai_G) : Option (Int32) :=
  o_b1 (m_200 a0) (fun r_1 => if r_1 = 0 then (some (-1 : Int32)) else (o_b1 (m_200 a1) (fun r_8 => if r_8 = 0 then (some (-1 : Int32)) else (o_b1 (m_195 th a0 I Rf G) (fun r_16 => o_b1 (m_195 th a1 I Rf G) (fun r_21 => if r_16 = r_21 then (o_s2 (lp (fun s => m_298_b31 th a0 a1 I Rf G s) o_N (nI 0)) (fun t => m_298_x31_58) (fun t => m_298_x31_66)) else (some (-1 : Int32))))))))
theorem md_298 {d : Nat} {I : ai_I} {J : ai_J} {Rf : ai_R} {G : ai_G} {th : Nat} {a0 : Int32} {a1 : Int32} {r : Int32} (hd : 6 ≤ d) (hth : G.1 th = 11) (h : m_298 th a0 a1 I Rf G = some r) : ai_Cl si_t si_ms d 298 [.inr (.inr th), .inl a0, .inl a1] I J Rf G (some (.inl r)) I J Rf G := by
  obtain ⟨e, rfl⟩ : ∃ e, d = e + 1 := ⟨d - 1, by omega⟩
  unfold m_298 at h
  refine sp_in (lo := [some (.inr (.inr th)), some (.inl a0), some (.inl a1), none]) (B := (0, 0)) rfl (Nat.le_of_ble_eq_true rfl) rfl rfl ?_
  refine go_iload_n (pc' := 1) rfl rfl rfl ?_
  obtain ⟨r_1, q_1, h⟩ := o_b1E h
  refine go_callS (pc' := 4) (B' := (0, 0)) (st' := [.inl r_1]) rfl rfl (Or.inl (by decide)) rfl rfl trivial (md_200 (by omega) q_1) rfl rfl rfl ?_
  refine go_if_eq (pt := 27) (pc' := 7) rfl rfl rfl (fun h4 => ?_) (fun h4 => ?_)
  · replace h := o_t h4 h
    refine go_iconst (pc' := 28) (v := (-1 : Int32)) rfl rfl rfl ?_
    cases h
    exact go_iret rfl (trivial) ⟨rfl, rfl, rfl, rfl, rfl⟩
  · replace h := o_f h4 h
    refine go_iload_n (pc' := 8) rfl rfl rfl ?_
    obtain ⟨r_8, q_8, h⟩ := o_b1E h
    refine go_callS (pc' := 11) (B' := (0, 0)) (st' := [.inl r_8]) rfl rfl (Or.inl (by decide)) rfl rfl trivial (md_200 (by omega) q_8) rfl rfl rfl ?_
    refine go_if_eq (pt := 27) (pc' := 14) rfl rfl rfl (fun h11 => ?_) (fun h11 => ?_)
    · replace h := o_t h11 h
      refine go_iconst (pc' := 28) (v := (-1 : Int32)) rfl rfl rfl ?_
      cases h
      exact go_iret rfl (trivial) ⟨rfl, rfl, rfl, rfl, rfl⟩
    · replace h := o_f h11 h
      refine go_aload_n (pc' := 15) rfl rfl rfl ?_
      refine go_iload_n (pc' := 16) rfl rfl rfl ?_
      obtain ⟨r_16, q_16, h⟩ := o_b1E h
      refine go_callV (pc' := 19) (B' := (0, 0)) (st' := [.inl r_16]) rfl rfl (Or.inl (by decide)) rfl rfl hth (md_195 (by omega) hth q_16) rfl rfl rfl ?_
      refine go_aload_n (pc' := 20) rfl rfl rfl ?_
      refine go_iload_n (pc' := 21) rfl rfl rfl ?_
      obtain ⟨r_21, q_21, h⟩ := o_b1E h
      refine go_callV (pc' := 24) (B' := (0, 0)) (st' := [.inl r_21, .inl r_16]) rfl rfl (Or.inl (by decide)) rfl rfl hth (md_195 (by omega) hth q_21) rfl rfl rfl ?_
      refine go_icmp_eq (pt := 29) (pc' := 27) rfl rfl rfl (fun h24 => ?_) (fun h24 => ?_)
      · replace h := o_t h24 h
        refine go_iconst (pc' := 30) (v := (nI 0)) rfl rfl rfl ?_
        refine go_istore_n (pc' := 31) (lo' := [some (.inr (.inr th)), some (.inl a0), some (.inl a1), some (.inl (nI 0))]) rfl rfl rfl ?_
        obtain ⟨q31, hl31, hc31_58, hc31_66⟩ := o_s2E h
        have ex31_58 : ∀ (z3_x58 : Option ai_V), (Sum.inl ()) = q31 → ai_Go si_t (11, false, 0, cd_298) (ai_Cl si_t si_ms e) (sp_Q (some (.inl r)) I J Rf G) 58 [some (.inr (.inr th)), some (.inl a0), some (.inl a1), z3_x58] [] (0, 0) I J Rf G := by
          intro z3_x58 hq
          have h : m_298_x31_58 = some r := hc31_58 () hq.symm
          unfold m_298_x31_58 at h
          refine go_iconst (pc' := 59) (v := (nI 0)) rfl rfl rfl ?_
          cases h
          exact go_iret rfl (trivial) ⟨rfl, rfl, rfl, rfl, rfl⟩
        have ex31_66 : ∀ (z3_x66 : Option ai_V), (Sum.inr ()) = q31 → ai_Go si_t (11, false, 0, cd_298) (ai_Cl si_t si_ms e) (sp_Q (some (.inl r)) I J Rf G) 66 [some (.inr (.inr th)), some (.inl a0), some (.inl a1), z3_x66] [] (0, 0) I J Rf G := by
          intro z3_x66 hq
          have h : m_298_x31_66 = some r := hc31_66 () hq.symm
          unfold m_298_x31_66 at h
          refine go_iconst (pc' := 67) (v := (nI 1)) rfl rfl rfl ?_
          cases h
          exact go_iret rfl (trivial) ⟨rfl, rfl, rfl, rfl, rfl⟩
        have lo31 : ∀ n s, lp (fun s => m_298_b31 th a0 a1 I Rf G s) n s = some q31 → (fun s => ai_Go si_t (11, false, 0, cd_298) (ai_Cl si_t si_ms e) (sp_Q (some (.inl r)) I J Rf G) 31 [some (.inr (.inr th)), some (.inl a0), some (.inl a1), some (.inl s)] [] (0, 0) I J Rf G) s := lp_go (fun s x31 hx hk31 => by
          revert s; intro v3_31 hx
          have h : m_298_b31 th a0 a1 I Rf G v3_31 = some x31 := hx
          clear hx
          show ai_Go si_t (11, false, 0, cd_298) (ai_Cl si_t si_ms e) (sp_Q (some (.inl r)) I J Rf G) 31 [some (.inr (.inr th)), some (.inl a0), some (.inl a1), some (.inl v3_31)] [] (0, 0) I J Rf G
          unfold m_298_b31 at h
          refine go_iload_n (pc' := 32) rfl rfl rfl ?_
          refine go_aload_n (pc' := 33) rfl rfl rfl ?_
          refine go_iload_n (pc' := 34) rfl rfl rfl ?_
          obtain ⟨r_34, q_34, h⟩ := o_b1E h
          refine go_callV (pc' := 37) (B' := (0, 0)) (st' := [.inl r_34, .inl v3_31]) rfl rfl (Or.inl (by decide)) rfl rfl hth (md_197 (by omega) hth q_34) rfl rfl rfl ?_
          refine go_icmp_gt (pt := 66) (pc' := 40) rfl rfl rfl (fun h37 => ?_) (fun h37 => ?_)
          · replace h := o_t h37 h
            exact ex31_66  (some (.inl v3_31)) (lp_exitE h hk31)
          · replace h := o_f h37 h
            refine go_aload_n (pc' := 41) rfl rfl rfl ?_
            refine go_iload_n (pc' := 42) rfl rfl rfl ?_
            refine go_iload_n (pc' := 43) rfl rfl rfl ?_
            obtain ⟨r_43, q_43, h⟩ := o_b1E h
            refine go_callV (pc' := 46) (B' := (0, 0)) (st' := [.inl r_43]) rfl rfl (Or.inl (by decide)) rfl rfl hth (md_253 (by omega) hth q_43) rfl rfl rfl ?_
            refine go_if_eq (pt := 60) (pc' := 49) rfl rfl rfl (fun h46 => ?_) (fun h46 => ?_)
            · replace h := o_t h46 h
              obtain ⟨x3_60, ex3_60, h⟩ := o_b1E h
              refine go_iincE (pc' := 63) rfl rfl (y := (nI 1)) rfl ex3_60 (lo' := [some (.inr (.inr th)), some (.inl a0), some (.inl a1), some (.inl x3_60)]) rfl rfl ?_
              refine go_goto (pc' := 31) rfl rfl ?_
              exact (lp_backE h hk31 :)
            · replace h := o_f h46 h
              refine go_aload_n (pc' := 50) rfl rfl rfl ?_
              refine go_iload_n (pc' := 51) rfl rfl rfl ?_
              refine go_iload_n (pc' := 52) rfl rfl rfl ?_
              obtain ⟨r_52, q_52, h⟩ := o_b1E h
              refine go_callV (pc' := 55) (B' := (0, 0)) (st' := [.inl r_52]) rfl rfl (Or.inl (by decide)) rfl rfl hth (md_253 (by omega) hth q_52) rfl rfl rfl ?_
              refine go_if_ne (pt := 60) (pc' := 58) rfl rfl rfl (fun h55 => ?_) (fun h55 => ?_)
              · replace h := o_f h55 h
                obtain ⟨x3_60, ex3_60, h⟩ := o_b1E h
                refine go_iincE (pc' := 63) rfl rfl (y := (nI 1)) rfl ex3_60 (lo' := [some (.inr (.inr th)), some (.inl a0), some (.inl a1), some (.inl x3_60)]) rfl rfl ?_
                refine go_goto (pc' := 31) rfl rfl ?_
                exact (lp_backE h hk31 :)
              · replace h := o_t (Decidable.of_not_not h55) h
                exact ex31_58  (some (.inl v3_31)) (lp_exitE h hk31))
        exact lo31 _ (nI 0) hl31 
      · replace h := o_f h24 h
        refine go_iconst (pc' := 28) (v := (-1 : Int32)) rfl rfl rfl ?_
        cases h
        exact go_iret rfl (trivial) ⟨rfl, rfl, rfl, rfl, rfl⟩
def m_299_x7_55 (w4_55 : Int32) : Option (Int32) :=
  some w4_55
def m_299_b7 (th : Nat) (a0 : Int32) (a1 : Int32) (a2 : Int32) (I : ai_I) (Rf : ai_R) (G : ai_G) (v4_7 : Int32) (v5_7 : Int32) : Option ((Int32 × Int32) ⊕ Int32) :=
  if (nI 256) ≤ v5_7 then (some (Sum.inr v4_7)) else (o_b1 (m_199 th a0 v5_7 I Rf G) (fun r_19 => if r_19 = 0 then (o_b1 (some (v5_7 + (nI 1))) (fun x5_49 => some (Sum.inl (v4_7, x5_49)))) else (o_b1 (m_192 v5_7 a1) (fun r_28 => if r_28 = a2 then (o_b1 (m_265 th a0 v5_7 I Rf G) (fun r_41 => o_b1 (m_191 v4_7 r_41) (fun r_44 => o_b1 (some (v5_7 + (nI 1))) (fun x5_49 => some (Sum.inl (r_44, x5_49)))))) else (o_b1 (some (v5_7 + (nI 1))) (fun x5_49 => some (Sum.inl (v4_7, x5_49))))))))
/-- PricedBasesModel.gapOf(IIZ)I -/
def m_299 (th : Nat) (a0 : Int32) (a1 : Int32) (a2 : Int32) (I : ai_I) (Rf : ai_R) (G : ai_G) : Option (Int32) :=
  o_s1 (lp (fun s => m_299_b7 th a0 a1 a2 I Rf G s.1 s.2) o_N ((-2147483648 : Int32), (nI 0))) (fun t => m_299_x7_55 t)
theorem md_299 {d : Nat} {I : ai_I} {J : ai_J} {Rf : ai_R} {G : ai_G} {th : Nat} {a0 : Int32} {a1 : Int32} {a2 : Int32} {r : Int32} (hd : 4 ≤ d) (hth : G.1 th = 11) (h : m_299 th a0 a1 a2 I Rf G = some r) : ai_Cl si_t si_ms d 299 [.inr (.inr th), .inl a0, .inl a1, .inl a2] I J Rf G (some (.inl r)) I J Rf G := by
  obtain ⟨e, rfl⟩ : ∃ e, d = e + 1 := ⟨d - 1, by omega⟩
  unfold m_299 at h
  refine sp_in (lo := [some (.inr (.inr th)), some (.inl a0), some (.inl a1), some (.inl a2), none, none]) (B := (0, 0)) rfl (Nat.le_of_ble_eq_true rfl) rfl rfl ?_
  refine go_ldc (pc' := 2) (v := .inl (-2147483648 : Int32)) rfl rfl rfl ?_
  refine go_istore (pc' := 4) (lo' := [some (.inr (.inr th)), some (.inl a0), some (.inl a1), some (.inl a2), some (.inl (-2147483648 : Int32)), none]) rfl rfl rfl ?_
  refine go_iconst (pc' := 5) (v := (nI 0)) rfl rfl rfl ?_
  refine go_istore (pc' := 7) (lo' := [some (.inr (.inr th)), some (.inl a0), some (.inl a1), some (.inl a2), some (.inl (-2147483648 : Int32)), some (.inl (nI 0))]) rfl rfl rfl ?_
  obtain ⟨q7, hl7, hc7_55⟩ := o_s1E h
  have ex7_55 : ∀ (w4_55 : Int32) (z5_x55 : Option ai_V), w4_55 = q7 → ai_Go si_t (11, false, 0, cd_299) (ai_Cl si_t si_ms e) (sp_Q (some (.inl r)) I J Rf G) 55 [some (.inr (.inr th)), some (.inl a0), some (.inl a1), some (.inl a2), some (.inl w4_55), z5_x55] [] (0, 0) I J Rf G := by
    intro w4_55 z5_x55 hq
    have h : m_299_x7_55 w4_55 = some r := hc7_55 w4_55 hq.symm
    unfold m_299_x7_55 at h
    refine go_iload (pc' := 57) rfl rfl rfl ?_
    cases h
    exact go_iret rfl (trivial) ⟨rfl, rfl, rfl, rfl, rfl⟩
  have lo7 : ∀ n s, lp (fun s => m_299_b7 th a0 a1 a2 I Rf G s.1 s.2) n s = some q7 → (fun s => ai_Go si_t (11, false, 0, cd_299) (ai_Cl si_t si_ms e) (sp_Q (some (.inl r)) I J Rf G) 7 [some (.inr (.inr th)), some (.inl a0), some (.inl a1), some (.inl a2), some (.inl s.1), some (.inl s.2)] [] (0, 0) I J Rf G) s := lp_go (fun s x7 hx hk7 => by
    obtain ⟨v4_7, v5_7⟩ := s
    have h : m_299_b7 th a0 a1 a2 I Rf G v4_7 v5_7 = some x7 := hx
    clear hx
    show ai_Go si_t (11, false, 0, cd_299) (ai_Cl si_t si_ms e) (sp_Q (some (.inl r)) I J Rf G) 7 [some (.inr (.inr th)), some (.inl a0), some (.inl a1), some (.inl a2), some (.inl v4_7), some (.inl v5_7)] [] (0, 0) I J Rf G
    unfold m_299_b7 at h
    refine go_iload (pc' := 9) rfl rfl rfl ?_
    refine go_sipush (pc' := 12) (v := (nI 256)) rfl rfl rfl ?_
    refine go_icmp_ge (pt := 55) (pc' := 15) rfl rfl rfl (fun h12 => ?_) (fun h12 => ?_)
    · replace h := o_t h12 h
      exact ex7_55 _ (some (.inl v5_7)) (lp_exitE h hk7)
    · replace h := o_f h12 h
      refine go_aload_n (pc' := 16) rfl rfl rfl ?_
      refine go_iload_n (pc' := 17) rfl rfl rfl ?_
      refine go_iload (pc' := 19) rfl rfl rfl ?_
      obtain ⟨r_19, q_19, h⟩ := o_b1E h
      refine go_callV (pc' := 22) (B' := (0, 0)) (st' := [.inl r_19]) rfl rfl (Or.inl (by decide)) rfl rfl hth (md_199 (by omega) hth q_19) rfl rfl rfl ?_
      refine go_if_eq (pt := 49) (pc' := 25) rfl rfl rfl (fun h22 => ?_) (fun h22 => ?_)
      · replace h := o_t h22 h
        obtain ⟨x5_49, ex5_49, h⟩ := o_b1E h
        refine go_iincE (pc' := 52) rfl rfl (y := (nI 1)) rfl ex5_49 (lo' := [some (.inr (.inr th)), some (.inl a0), some (.inl a1), some (.inl a2), some (.inl v4_7), some (.inl x5_49)]) rfl rfl ?_
        refine go_goto (pc' := 7) rfl rfl ?_
        exact (lp_backE h hk7 :)
      · replace h := o_f h22 h
        refine go_iload (pc' := 27) rfl rfl rfl ?_
        refine go_iload_n (pc' := 28) rfl rfl rfl ?_
        obtain ⟨r_28, q_28, h⟩ := o_b1E h
        refine go_callS (pc' := 31) (B' := (0, 0)) (st' := [.inl r_28]) rfl rfl (Or.inl (by decide)) rfl rfl trivial (md_192 (by omega) q_28) rfl rfl rfl ?_
        refine go_iload_n (pc' := 32) rfl rfl rfl ?_
        refine go_icmp_ne (pt := 49) (pc' := 35) rfl rfl rfl (fun h32 => ?_) (fun h32 => ?_)
        · replace h := o_f h32 h
          obtain ⟨x5_49, ex5_49, h⟩ := o_b1E h
          refine go_iincE (pc' := 52) rfl rfl (y := (nI 1)) rfl ex5_49 (lo' := [some (.inr (.inr th)), some (.inl a0), some (.inl a1), some (.inl a2), some (.inl v4_7), some (.inl x5_49)]) rfl rfl ?_
          refine go_goto (pc' := 7) rfl rfl ?_
          exact (lp_backE h hk7 :)
        · replace h := o_t (Decidable.of_not_not h32) h
          refine go_iload (pc' := 37) rfl rfl rfl ?_
          refine go_aload_n (pc' := 38) rfl rfl rfl ?_
          refine go_iload_n (pc' := 39) rfl rfl rfl ?_
          refine go_iload (pc' := 41) rfl rfl rfl ?_
          obtain ⟨r_41, q_41, h⟩ := o_b1E h
          refine go_callV (pc' := 44) (B' := (0, 0)) (st' := [.inl r_41, .inl v4_7]) rfl rfl (Or.inl (by decide)) rfl rfl hth (md_265 (by omega) hth q_41) rfl rfl rfl ?_
          obtain ⟨r_44, q_44, h⟩ := o_b1E h
          refine go_callS (pc' := 47) (B' := (0, 0)) (st' := [.inl r_44]) rfl rfl (Or.inl (by decide)) rfl rfl trivial (md_191 (by omega) q_44) rfl rfl rfl ?_
          refine go_istore (pc' := 49) (lo' := [some (.inr (.inr th)), some (.inl a0), some (.inl a1), some (.inl a2), some (.inl r_44), some (.inl v5_7)]) rfl rfl rfl ?_
          obtain ⟨x5_49, ex5_49, h⟩ := o_b1E h
          refine go_iincE (pc' := 52) rfl rfl (y := (nI 1)) rfl ex5_49 (lo' := [some (.inr (.inr th)), some (.inl a0), some (.inl a1), some (.inl a2), some (.inl r_44), some (.inl x5_49)]) rfl rfl ?_
          refine go_goto (pc' := 7) rfl rfl ?_
          exact (lp_backE h hk7 :))
  exact lo7 _ ((-2147483648 : Int32), (nI 0)) hl7 
def m_300_j41 (th : Nat) (a0 : Int32) (a1 : Int32) (I : ai_I) (Rf : ai_R) (G : ai_G) (t3_41 : Int32) : Option (Int32) :=
  o_b1 (m_299 th a0 a1 t3_41 I Rf G) (fun r_41 => some r_41)
/-- PricedBasesModel.gap(III)I -/
def m_300 (th : Nat) (a0 : Int32) (a1 : Int32) (a2 : Int32) (I : ai_I) (Rf : ai_R) (G : ai_G) : Option (Int32) :=
  o_b1 (m_200 a0) (fun r_1 => if r_1 = 0 then (some (-2147483648 : Int32)) else (o_b1 (m_202 th a0 a1 I Rf G) (fun r_10 => if r_10 = 0 then (some (-2147483648 : Int32)) else (o_b1 (m_189 a2.toInt64 (0 : Int64) (1 : Int64)) (fun r_20 => if r_20 = 0 then (some (-2147483648 : Int32)) else (if a2 = 0 then (m_300_j41 th a0 a1 I Rf G (nI 1)) else (m_300_j41 th a0 a1 I Rf G (nI 0))))))))
theorem md_300 {d : Nat} {I : ai_I} {J : ai_J} {Rf : ai_R} {G : ai_G} {th : Nat} {a0 : Int32} {a1 : Int32} {a2 : Int32} {r : Int32} (hd : 5 ≤ d) (hth : G.1 th = 11) (h : m_300 th a0 a1 a2 I Rf G = some r) : ai_Cl si_t si_ms d 300 [.inr (.inr th), .inl a0, .inl a1, .inl a2] I J Rf G (some (.inl r)) I J Rf G := by
  obtain ⟨e, rfl⟩ : ∃ e, d = e + 1 := ⟨d - 1, by omega⟩
  unfold m_300 at h
  refine sp_in (lo := [some (.inr (.inr th)), some (.inl a0), some (.inl a1), some (.inl a2)]) (B := (0, 0)) rfl (Nat.le_of_ble_eq_true rfl) rfl rfl ?_
  refine go_iload_n (pc' := 1) rfl rfl rfl ?_
  obtain ⟨r_1, q_1, h⟩ := o_b1E h
  refine go_callS (pc' := 4) (B' := (0, 0)) (st' := [.inl r_1]) rfl rfl (Or.inl (by decide)) rfl rfl trivial (md_200 (by omega) q_1) rfl rfl rfl ?_
  refine go_if_eq (pt := 26) (pc' := 7) rfl rfl rfl (fun h4 => ?_) (fun h4 => ?_)
  · replace h := o_t h4 h
    refine go_ldc (pc' := 28) (v := .inl (-2147483648 : Int32)) rfl rfl rfl ?_
    cases h
    exact go_iret rfl (trivial) ⟨rfl, rfl, rfl, rfl, rfl⟩
  · replace h := o_f h4 h
    refine go_aload_n (pc' := 8) rfl rfl rfl ?_
    refine go_iload_n (pc' := 9) rfl rfl rfl ?_
    refine go_iload_n (pc' := 10) rfl rfl rfl ?_
    obtain ⟨r_10, q_10, h⟩ := o_b1E h
    refine go_callV (pc' := 13) (B' := (0, 0)) (st' := [.inl r_10]) rfl rfl (Or.inl (by decide)) rfl rfl hth (md_202 (by omega) hth q_10) rfl rfl rfl ?_
    refine go_if_eq (pt := 26) (pc' := 16) rfl rfl rfl (fun h13 => ?_) (fun h13 => ?_)
    · replace h := o_t h13 h
      refine go_ldc (pc' := 28) (v := .inl (-2147483648 : Int32)) rfl rfl rfl ?_
      cases h
      exact go_iret rfl (trivial) ⟨rfl, rfl, rfl, rfl, rfl⟩
    · replace h := o_f h13 h
      refine go_iload_n (pc' := 17) rfl rfl rfl ?_
      refine go_i2l (pc' := 18) rfl rfl ?_
      refine go_lconst (pc' := 19) (v := (0 : Int64)) rfl rfl rfl ?_
      refine go_lconst (pc' := 20) (v := (1 : Int64)) rfl rfl rfl ?_
      obtain ⟨r_20, q_20, h⟩ := o_b1E h
      refine go_callS (pc' := 23) (B' := (0, 0)) (st' := [.inl r_20]) rfl rfl (Or.inl (by decide)) rfl rfl trivial (md_189 (by omega) q_20) rfl rfl rfl ?_
      refine go_if_ne (pt := 29) (pc' := 26) rfl rfl rfl (fun h23 => ?_) (fun h23 => ?_)
      · replace h := o_f h23 h
        refine go_aload_n (pc' := 30) rfl rfl rfl ?_
        refine go_iload_n (pc' := 31) rfl rfl rfl ?_
        refine go_iload_n (pc' := 32) rfl rfl rfl ?_
        refine go_iload_n (pc' := 33) rfl rfl rfl ?_
        have jn41 : ∀ (t3_41 : Int32), m_300_j41 th a0 a1 I Rf G t3_41 = some r → ai_Go si_t (11, false, 0, cd_300) (ai_Cl si_t si_ms e) (sp_Q (some (.inl r)) I J Rf G) 41 [some (.inr (.inr th)), some (.inl a0), some (.inl a1), some (.inl a2)] [.inl t3_41, .inl a1, .inl a0, .inr (.inr th)] (0, 0) I J Rf G := by
          intro t3_41 h
          unfold m_300_j41 at h
          obtain ⟨r_41, q_41, h⟩ := o_b1E h
          refine go_callV (pc' := 44) (B' := (0, 0)) (st' := [.inl r_41]) rfl rfl (Or.inl (by decide)) rfl rfl hth (md_299 (by omega) hth q_41) rfl rfl rfl ?_
          cases h
          exact go_iret rfl (trivial) ⟨rfl, rfl, rfl, rfl, rfl⟩
        refine go_if_ne (pt := 40) (pc' := 36) rfl rfl rfl (fun h33 => ?_) (fun h33 => ?_)
        · replace h := o_f h33 h
          refine go_iconst (pc' := 41) (v := (nI 0)) rfl rfl rfl ?_
          exact jn41 (nI 0) h
        · replace h := o_t (Decidable.of_not_not h33) h
          refine go_iconst (pc' := 37) (v := (nI 1)) rfl rfl rfl ?_
          refine go_goto (pc' := 41) rfl rfl ?_
          exact jn41 (nI 1) h
      · replace h := o_t (Decidable.of_not_not h23) h
        refine go_ldc (pc' := 28) (v := .inl (-2147483648 : Int32)) rfl rfl rfl ?_
        cases h
        exact go_iret rfl (trivial) ⟨rfl, rfl, rfl, rfl, rfl⟩
/-- PricedBasesModel.tips(II)I -/
def m_301 (th : Nat) (a0 : Int32) (a1 : Int32) (I : ai_I) (Rf : ai_R) (G : ai_G) : Option (Int32) :=
  o_b1 (m_200 a0) (fun r_1 => if r_1 = 0 then (some (-2147483648 : Int32)) else (o_b1 (m_202 th a0 a1 I Rf G) (fun r_10 => if r_10 = 0 then (some (-2147483648 : Int32)) else (o_b1 (m_299 th a0 a1 (nI 1) I Rf G) (fun r_23 => o_b1 (m_299 th a0 a1 (nI 0) I Rf G) (fun r_31 => if r_23 = (-2147483648 : Int32) then (some (-2147483648 : Int32)) else (if r_31 = (-2147483648 : Int32) then (some (-2147483648 : Int32)) else (o_g (o_in G 13 (Rf th 0) ((nI 1032) + a1)) (some (((I (Rf th 0) ((nI 1032) + a1).toNatClampNeg) + r_31) - r_23))))))))))
theorem md_301 {d : Nat} {I : ai_I} {J : ai_J} {Rf : ai_R} {G : ai_G} {th : Nat} {a0 : Int32} {a1 : Int32} {r : Int32} (hd : 5 ≤ d) (hth : G.1 th = 11) (h : m_301 th a0 a1 I Rf G = some r) : ai_Cl si_t si_ms d 301 [.inr (.inr th), .inl a0, .inl a1] I J Rf G (some (.inl r)) I J Rf G := by
  obtain ⟨e, rfl⟩ : ∃ e, d = e + 1 := ⟨d - 1, by omega⟩
  unfold m_301 at h
  refine sp_in (lo := [some (.inr (.inr th)), some (.inl a0), some (.inl a1), none, none]) (B := (0, 0)) rfl (Nat.le_of_ble_eq_true rfl) rfl rfl ?_
  refine go_iload_n (pc' := 1) rfl rfl rfl ?_
  obtain ⟨r_1, q_1, h⟩ := o_b1E h
  refine go_callS (pc' := 4) (B' := (0, 0)) (st' := [.inl r_1]) rfl rfl (Or.inl (by decide)) rfl rfl trivial (md_200 (by omega) q_1) rfl rfl rfl ?_
  refine go_if_eq (pt := 16) (pc' := 7) rfl rfl rfl (fun h4 => ?_) (fun h4 => ?_)
  · replace h := o_t h4 h
    refine go_ldc (pc' := 18) (v := .inl (-2147483648 : Int32)) rfl rfl rfl ?_
    cases h
    exact go_iret rfl (trivial) ⟨rfl, rfl, rfl, rfl, rfl⟩
  · replace h := o_f h4 h
    refine go_aload_n (pc' := 8) rfl rfl rfl ?_
    refine go_iload_n (pc' := 9) rfl rfl rfl ?_
    refine go_iload_n (pc' := 10) rfl rfl rfl ?_
    obtain ⟨r_10, q_10, h⟩ := o_b1E h
    refine go_callV (pc' := 13) (B' := (0, 0)) (st' := [.inl r_10]) rfl rfl (Or.inl (by decide)) rfl rfl hth (md_202 (by omega) hth q_10) rfl rfl rfl ?_
    refine go_if_ne (pt := 19) (pc' := 16) rfl rfl rfl (fun h13 => ?_) (fun h13 => ?_)
    · replace h := o_f h13 h
      refine go_aload_n (pc' := 20) rfl rfl rfl ?_
      refine go_iload_n (pc' := 21) rfl rfl rfl ?_
      refine go_iload_n (pc' := 22) rfl rfl rfl ?_
      refine go_iconst (pc' := 23) (v := (nI 1)) rfl rfl rfl ?_
      obtain ⟨r_23, q_23, h⟩ := o_b1E h
      refine go_callV (pc' := 26) (B' := (0, 0)) (st' := [.inl r_23]) rfl rfl (Or.inl (by decide)) rfl rfl hth (md_299 (by omega) hth q_23) rfl rfl rfl ?_
      refine go_istore_n (pc' := 27) (lo' := [some (.inr (.inr th)), some (.inl a0), some (.inl a1), some (.inl r_23), none]) rfl rfl rfl ?_
      refine go_aload_n (pc' := 28) rfl rfl rfl ?_
      refine go_iload_n (pc' := 29) rfl rfl rfl ?_
      refine go_iload_n (pc' := 30) rfl rfl rfl ?_
      refine go_iconst (pc' := 31) (v := (nI 0)) rfl rfl rfl ?_
      obtain ⟨r_31, q_31, h⟩ := o_b1E h
      refine go_callV (pc' := 34) (B' := (0, 0)) (st' := [.inl r_31]) rfl rfl (Or.inl (by decide)) rfl rfl hth (md_299 (by omega) hth q_31) rfl rfl rfl ?_
      refine go_istore (pc' := 36) (lo' := [some (.inr (.inr th)), some (.inl a0), some (.inl a1), some (.inl r_23), some (.inl r_31)]) rfl rfl rfl ?_
      refine go_iload_n (pc' := 37) rfl rfl rfl ?_
      refine go_ldc (pc' := 39) (v := .inl (-2147483648 : Int32)) rfl rfl rfl ?_
      refine go_icmp_eq (pt := 49) (pc' := 42) rfl rfl rfl (fun h39 => ?_) (fun h39 => ?_)
      · replace h := o_t h39 h
        refine go_ldc (pc' := 51) (v := .inl (-2147483648 : Int32)) rfl rfl rfl ?_
        refine go_goto (pc' := 69) rfl rfl ?_
        cases h
        exact go_iret rfl (trivial) ⟨rfl, rfl, rfl, rfl, rfl⟩
      · replace h := o_f h39 h
        refine go_iload (pc' := 44) rfl rfl rfl ?_
        refine go_ldc (pc' := 46) (v := .inl (-2147483648 : Int32)) rfl rfl rfl ?_
        refine go_icmp_ne (pt := 54) (pc' := 49) rfl rfl rfl (fun h46 => ?_) (fun h46 => ?_)
        · replace h := o_f h46 h
          refine go_aload_n (pc' := 55) rfl rfl rfl ?_
          refine go_getR (pc' := 58) rfl rfl hth rfl ?_
          refine go_sipush (pc' := 61) (v := (nI 1032)) rfl rfl rfl ?_
          refine go_iload_n (pc' := 62) rfl rfl rfl ?_
          refine go_iadd (pc' := 63) rfl rfl ?_
          obtain ⟨g0, h⟩ := o_gE h
          refine go_iaload (pc' := 64) rfl (o_inK g0) (o_inB g0) rfl ?_
          refine go_iload (pc' := 66) rfl rfl rfl ?_
          refine go_iadd (pc' := 67) rfl rfl ?_
          refine go_iload_n (pc' := 68) rfl rfl rfl ?_
          refine go_isub (pc' := 69) rfl rfl ?_
          cases h
          exact go_iret rfl (trivial) ⟨rfl, rfl, rfl, rfl, rfl⟩
        · replace h := o_t (Decidable.of_not_not h46) h
          refine go_ldc (pc' := 51) (v := .inl (-2147483648 : Int32)) rfl rfl rfl ?_
          refine go_goto (pc' := 69) rfl rfl ?_
          cases h
          exact go_iret rfl (trivial) ⟨rfl, rfl, rfl, rfl, rfl⟩
    · replace h := o_t (Decidable.of_not_not h13) h
      refine go_ldc (pc' := 18) (v := .inl (-2147483648 : Int32)) rfl rfl rfl ?_
      cases h
      exact go_iret rfl (trivial) ⟨rfl, rfl, rfl, rfl, rfl⟩
def m_302_x41_142 (Ix_142 : ai_I) : Option (ai_I) :=
  some Ix_142
def m_302_x50_136 (v4_41 : Int32) (w3_136 : Int32) (Ix_136 : ai_I) : Option ((Int32 × Int32 × ai_I) ⊕ ai_I) :=
  o_b1 (some (v4_41 + (nI 1))) (fun x4_136 => some (Sum.inl (w3_136, x4_136, Ix_136)))
def m_302_b50 (th : Nat) (a0 : Int32) (Rf : ai_R) (G : ai_G) (v4_41 : Int32) (v3_50 : Int32) (v5_50 : Int32) (I_50 : ai_I) : Option ((Int32 × Int32 × ai_I) ⊕ (Int32 × ai_I)) :=
  if (nI 256) ≤ v5_50 then (some (Sum.inr (v3_50, I_50))) else (o_b1 (m_199 th a0 v5_50 I_50 Rf G) (fun r_62 => if r_62 = 0 then (o_b1 (some (v5_50 + (nI 1))) (fun x5_130 => some (Sum.inl (v3_50, x5_130, I_50)))) else (o_g (o_in G 13 (Rf th 26) v5_50) (if (I_50 (Rf th 26) v5_50.toNatClampNeg) = (-1 : Int32) then (o_g (o_in G 13 (Rf th 28) v4_41) (o_b1 (m_267 (I_50 (Rf th 28) v4_41.toNatClampNeg) v5_50) (fun r_88 => if r_88 = 0 then (o_b1 (some (v5_50 + (nI 1))) (fun x5_130 => some (Sum.inl (v3_50, x5_130, I_50)))) else (o_g (o_in G 13 (Rf th 28) v4_41) (o_g (o_in G 13 (Rf th 26) (I_50 (Rf th 28) v4_41.toNatClampNeg)) (o_g (o_in G 13 (Rf th 26) v5_50) (o_b1 (some (va_up I_50 (Rf th 26) (va_up (I_50 (Rf th 26)) v5_50.toNatClampNeg ((I_50 (Rf th 26) (I_50 (Rf th 28) v4_41.toNatClampNeg).toNatClampNeg) + (nI 1))))) (fun I_117 => o_g (o_in G 13 (Rf th 28) v3_50) (o_b1 (some (va_up I_117 (Rf th 28) (va_up (I_117 (Rf th 28)) v3_50.toNatClampNeg v5_50))) (fun I_125 => o_b1 (some (v3_50 + (nI 1))) (fun x3_129 => o_b1 (some (v5_50 + (nI 1))) (fun x5_130 => some (Sum.inl (x3_129, x5_130, I_125)))))))))))))) else (o_b1 (some (v5_50 + (nI 1))) (fun x5_130 => some (Sum.inl (v3_50, x5_130, I_50))))))))
def m_302_b41 (th : Nat) (a0 : Int32) (Rf : ai_R) (G : ai_G) (v3_41 : Int32) (v4_41 : Int32) (I_41 : ai_I) : Option ((Int32 × Int32 × ai_I) ⊕ ai_I) :=
  if v3_41 ≤ v4_41 then (some (Sum.inr I_41)) else (o_s1 (lp (fun s => m_302_b50 th a0 Rf G v4_41 s.1 s.2.1 s.2.2) o_N (v3_41, (nI 0), I_41)) (fun t => m_302_x50_136 v4_41 t.1 t.2))
def m_302_x2_22 (th : Nat) (a0 : Int32) (a1 : Int32) (Rf : ai_R) (G : ai_G) (Ix_22 : ai_I) : Option (ai_I) :=
  o_g (o_in G 13 (Rf th 26) a1) (o_b1 (some (va_up Ix_22 (Rf th 26) (va_up (Ix_22 (Rf th 26)) a1.toNatClampNeg (nI 0)))) (fun I_28 => o_g (o_in G 13 (Rf th 28) (nI 0)) (o_b1 (some (va_up I_28 (Rf th 28) (va_up (I_28 (Rf th 28)) (nI 0).toNatClampNeg a1))) (fun I_35 => o_s1 (lp (fun s => m_302_b41 th a0 Rf G s.1 s.2.1 s.2.2) o_N ((nI 1), (nI 0), I_35)) (fun t => m_302_x41_142 t)))))
def m_302_b2 (th : Nat) (Rf : ai_R) (G : ai_G) (v3_2 : Int32) (I_2 : ai_I) : Option ((Int32 × ai_I) ⊕ ai_I) :=
  if (nI 256) ≤ v3_2 then (some (Sum.inr I_2)) else (o_g (o_in G 13 (Rf th 26) v3_2) (o_b1 (some (va_up I_2 (Rf th 26) (va_up (I_2 (Rf th 26)) v3_2.toNatClampNeg (-1 : Int32)))) (fun I_15 => o_b1 (some (v3_2 + (nI 1))) (fun x3_16 => some (Sum.inl (x3_16, I_15))))))
/-- PricedBasesModel.climbs(II)V -/
def m_302 (th : Nat) (a0 : Int32) (a1 : Int32) (I : ai_I) (Rf : ai_R) (G : ai_G) : Option (ai_I) :=
  o_s1 (lp (fun s => m_302_b2 th Rf G s.1 s.2) o_N ((nI 0), I)) (fun t => m_302_x2_22 th a0 a1 Rf G t)
theorem md_302 {d : Nat} {I : ai_I} {J : ai_J} {Rf : ai_R} {G : ai_G} {th : Nat} {a0 : Int32} {a1 : Int32} {I1 : ai_I} (hd : 3 ≤ d) (hth : G.1 th = 11) (h : m_302 th a0 a1 I Rf G = some I1) : ai_Cl si_t si_ms d 302 [.inr (.inr th), .inl a0, .inl a1] I J Rf G none I1 J Rf G := by
  obtain ⟨e, rfl⟩ : ∃ e, d = e + 1 := ⟨d - 1, by omega⟩
  unfold m_302 at h
  refine sp_in (lo := [some (.inr (.inr th)), some (.inl a0), some (.inl a1), none, none, none]) (B := (0, 0)) rfl (Nat.le_of_ble_eq_true rfl) rfl rfl ?_
  refine go_iconst (pc' := 1) (v := (nI 0)) rfl rfl rfl ?_
  refine go_istore_n (pc' := 2) (lo' := [some (.inr (.inr th)), some (.inl a0), some (.inl a1), some (.inl (nI 0)), none, none]) rfl rfl rfl ?_
  obtain ⟨q2, hl2, hc2_22⟩ := o_s1E h
  have ex2_22 : ∀ (Ix_22 : ai_I) (z3_x22 : Option ai_V), Ix_22 = q2 → ai_Go si_t (11, false, 9, cd_302) (ai_Cl si_t si_ms e) (sp_Q none I1 J Rf G) 22 [some (.inr (.inr th)), some (.inl a0), some (.inl a1), z3_x22, none, none] [] (0, 0) Ix_22 J Rf G := by
    intro Ix_22 z3_x22 hq
    have h : m_302_x2_22 th a0 a1 Rf G Ix_22 = some I1 := hc2_22 Ix_22 hq.symm
    unfold m_302_x2_22 at h
    refine go_aload_n (pc' := 23) rfl rfl rfl ?_
    refine go_getR (pc' := 26) rfl rfl hth rfl ?_
    refine go_iload_n (pc' := 27) rfl rfl rfl ?_
    refine go_iconst (pc' := 28) (v := (nI 0)) rfl rfl rfl ?_
    obtain ⟨g0, h⟩ := o_gE h
    obtain ⟨I_28, eI_28, h⟩ := o_b1E h
    refine go_iastore (pc' := 29) rfl (o_inK g0) (o_inB g0) rfl ?_
    refine go_ndMI eI_28 ?_
    refine go_aload_n (pc' := 30) rfl rfl rfl ?_
    refine go_getR (pc' := 33) rfl rfl hth rfl ?_
    refine go_iconst (pc' := 34) (v := (nI 0)) rfl rfl rfl ?_
    refine go_iload_n (pc' := 35) rfl rfl rfl ?_
    obtain ⟨g1, h⟩ := o_gE h
    obtain ⟨I_35, eI_35, h⟩ := o_b1E h
    refine go_iastore (pc' := 36) rfl (o_inK g1) (o_inB g1) rfl ?_
    refine go_ndMI eI_35 ?_
    refine go_iconst (pc' := 37) (v := (nI 1)) rfl rfl rfl ?_
    refine go_istore_n (pc' := 38) (lo' := [some (.inr (.inr th)), some (.inl a0), some (.inl a1), some (.inl (nI 1)), none, none]) rfl rfl rfl ?_
    refine go_iconst (pc' := 39) (v := (nI 0)) rfl rfl rfl ?_
    refine go_istore (pc' := 41) (lo' := [some (.inr (.inr th)), some (.inl a0), some (.inl a1), some (.inl (nI 1)), some (.inl (nI 0)), none]) rfl rfl rfl ?_
    obtain ⟨q41, hl41, hc41_142⟩ := o_s1E h
    have ex41_142 : ∀ (Ix_142 : ai_I) (z3_x142 : Option ai_V) (z4_x142 : Option ai_V) (z5_x142 : Option ai_V), Ix_142 = q41 → ai_Go si_t (11, false, 9, cd_302) (ai_Cl si_t si_ms e) (sp_Q none I1 J Rf G) 142 [some (.inr (.inr th)), some (.inl a0), some (.inl a1), z3_x142, z4_x142, z5_x142] [] (0, 0) Ix_142 J Rf G := by
      intro Ix_142 z3_x142 z4_x142 z5_x142 hq
      have h : m_302_x41_142 Ix_142 = some I1 := hc41_142 Ix_142 hq.symm
      unfold m_302_x41_142 at h
      cases h
      exact go_vret rfl (rfl) ⟨rfl, rfl, rfl, rfl, rfl⟩
    have lo41 : ∀ n s, lp (fun s => m_302_b41 th a0 Rf G s.1 s.2.1 s.2.2) n s = some q41 → (fun s => ∀ (z5_41 : Option ai_V), ai_Go si_t (11, false, 9, cd_302) (ai_Cl si_t si_ms e) (sp_Q none I1 J Rf G) 41 [some (.inr (.inr th)), some (.inl a0), some (.inl a1), some (.inl s.1), some (.inl s.2.1), z5_41] [] (0, 0) s.2.2 J Rf G) s := lp_go (fun s x41 hx hk41 => by
      obtain ⟨v3_41, v4_41, I_41⟩ := s
      intro z5_41
      have h : m_302_b41 th a0 Rf G v3_41 v4_41 I_41 = some x41 := hx
      clear hx
      show ai_Go si_t (11, false, 9, cd_302) (ai_Cl si_t si_ms e) (sp_Q none I1 J Rf G) 41 [some (.inr (.inr th)), some (.inl a0), some (.inl a1), some (.inl v3_41), some (.inl v4_41), z5_41] [] (0, 0) I_41 J Rf G
      unfold m_302_b41 at h
      refine go_iload (pc' := 43) rfl rfl rfl ?_
      refine go_iload_n (pc' := 44) rfl rfl rfl ?_
      refine go_icmp_ge (pt := 142) (pc' := 47) rfl rfl rfl (fun h44 => ?_) (fun h44 => ?_)
      · replace h := o_t h44 h
        exact ex41_142 _ (some (.inl v3_41)) (some (.inl v4_41)) z5_41 (lp_exitE h hk41)
      · replace h := o_f h44 h
        refine go_iconst (pc' := 48) (v := (nI 0)) rfl rfl rfl ?_
        refine go_istore (pc' := 50) (lo' := [some (.inr (.inr th)), some (.inl a0), some (.inl a1), some (.inl v3_41), some (.inl v4_41), some (.inl (nI 0))]) rfl rfl rfl ?_
        obtain ⟨q50, hl50, hc50_136⟩ := o_s1E h
        have ex50_136 : ∀ (w3_136 : Int32) (Ix_136 : ai_I) (z5_x136 : Option ai_V), (w3_136, Ix_136) = q50 → ai_Go si_t (11, false, 9, cd_302) (ai_Cl si_t si_ms e) (sp_Q none I1 J Rf G) 136 [some (.inr (.inr th)), some (.inl a0), some (.inl a1), some (.inl w3_136), some (.inl v4_41), z5_x136] [] (0, 0) Ix_136 J Rf G := by
          intro w3_136 Ix_136 z5_x136 hq
          have h : m_302_x50_136 v4_41 w3_136 Ix_136 = some x41 := hc50_136 (w3_136, Ix_136) hq.symm
          unfold m_302_x50_136 at h
          obtain ⟨x4_136, ex4_136, h⟩ := o_b1E h
          refine go_iincE (pc' := 139) rfl rfl (y := (nI 1)) rfl ex4_136 (lo' := [some (.inr (.inr th)), some (.inl a0), some (.inl a1), some (.inl w3_136), some (.inl x4_136), z5_x136]) rfl rfl ?_
          refine go_goto (pc' := 41) rfl rfl ?_
          exact (lp_backE h hk41 z5_x136 :)
        have lo50 : ∀ n s, lp (fun s => m_302_b50 th a0 Rf G v4_41 s.1 s.2.1 s.2.2) n s = some q50 → (fun s => ai_Go si_t (11, false, 9, cd_302) (ai_Cl si_t si_ms e) (sp_Q none I1 J Rf G) 50 [some (.inr (.inr th)), some (.inl a0), some (.inl a1), some (.inl s.1), some (.inl v4_41), some (.inl s.2.1)] [] (0, 0) s.2.2 J Rf G) s := lp_go (fun s x50 hx hk50 => by
          obtain ⟨v3_50, v5_50, I_50⟩ := s
          have h : m_302_b50 th a0 Rf G v4_41 v3_50 v5_50 I_50 = some x50 := hx
          clear hx
          show ai_Go si_t (11, false, 9, cd_302) (ai_Cl si_t si_ms e) (sp_Q none I1 J Rf G) 50 [some (.inr (.inr th)), some (.inl a0), some (.inl a1), some (.inl v3_50), some (.inl v4_41), some (.inl v5_50)] [] (0, 0) I_50 J Rf G
          unfold m_302_b50 at h
          refine go_iload (pc' := 52) rfl rfl rfl ?_
          refine go_sipush (pc' := 55) (v := (nI 256)) rfl rfl rfl ?_
          refine go_icmp_ge (pt := 136) (pc' := 58) rfl rfl rfl (fun h55 => ?_) (fun h55 => ?_)
          · replace h := o_t h55 h
            exact ex50_136 _ _ (some (.inl v5_50)) (lp_exitE h hk50)
          · replace h := o_f h55 h
            refine go_aload_n (pc' := 59) rfl rfl rfl ?_
            refine go_iload_n (pc' := 60) rfl rfl rfl ?_
            refine go_iload (pc' := 62) rfl rfl rfl ?_
            obtain ⟨r_62, q_62, h⟩ := o_b1E h
            refine go_callV (pc' := 65) (B' := (0, 0)) (st' := [.inl r_62]) rfl rfl (Or.inl (by decide)) rfl rfl hth (md_199 (by omega) hth q_62) rfl rfl rfl ?_
            refine go_if_eq (pt := 130) (pc' := 68) rfl rfl rfl (fun h65 => ?_) (fun h65 => ?_)
            · replace h := o_t h65 h
              obtain ⟨x5_130, ex5_130, h⟩ := o_b1E h
              refine go_iincE (pc' := 133) rfl rfl (y := (nI 1)) rfl ex5_130 (lo' := [some (.inr (.inr th)), some (.inl a0), some (.inl a1), some (.inl v3_50), some (.inl v4_41), some (.inl x5_130)]) rfl rfl ?_
              refine go_goto (pc' := 50) rfl rfl ?_
              exact (lp_backE h hk50 :)
            · replace h := o_f h65 h
              refine go_aload_n (pc' := 69) rfl rfl rfl ?_
              refine go_getR (pc' := 72) rfl rfl hth rfl ?_
              refine go_iload (pc' := 74) rfl rfl rfl ?_
              obtain ⟨g2, h⟩ := o_gE h
              refine go_iaload (pc' := 75) rfl (o_inK g2) (o_inB g2) rfl ?_
              refine go_iconst (pc' := 76) (v := (-1 : Int32)) rfl rfl rfl ?_
              refine go_icmp_ne (pt := 130) (pc' := 79) rfl rfl rfl (fun h76 => ?_) (fun h76 => ?_)
              · replace h := o_f h76 h
                obtain ⟨x5_130, ex5_130, h⟩ := o_b1E h
                refine go_iincE (pc' := 133) rfl rfl (y := (nI 1)) rfl ex5_130 (lo' := [some (.inr (.inr th)), some (.inl a0), some (.inl a1), some (.inl v3_50), some (.inl v4_41), some (.inl x5_130)]) rfl rfl ?_
                refine go_goto (pc' := 50) rfl rfl ?_
                exact (lp_backE h hk50 :)
              · replace h := o_t (Decidable.of_not_not h76) h
                refine go_aload_n (pc' := 80) rfl rfl rfl ?_
                refine go_getR (pc' := 83) rfl rfl hth rfl ?_
                refine go_iload (pc' := 85) rfl rfl rfl ?_
                obtain ⟨g3, h⟩ := o_gE h
                refine go_iaload (pc' := 86) rfl (o_inK g3) (o_inB g3) rfl ?_
                refine go_iload (pc' := 88) rfl rfl rfl ?_
                obtain ⟨r_88, q_88, h⟩ := o_b1E h
                refine go_callS (pc' := 91) (B' := (0, 0)) (st' := [.inl r_88]) rfl rfl (Or.inl (by decide)) rfl rfl trivial (md_267 (by omega) q_88) rfl rfl rfl ?_
                refine go_if_ne (pt := 97) (pc' := 94) rfl rfl rfl (fun h91 => ?_) (fun h91 => ?_)
                · replace h := o_f h91 h
                  refine go_aload_n (pc' := 98) rfl rfl rfl ?_
                  refine go_getR (pc' := 101) rfl rfl hth rfl ?_
                  refine go_iload (pc' := 103) rfl rfl rfl ?_
                  refine go_aload_n (pc' := 104) rfl rfl rfl ?_
                  refine go_getR (pc' := 107) rfl rfl hth rfl ?_
                  refine go_aload_n (pc' := 108) rfl rfl rfl ?_
                  refine go_getR (pc' := 111) rfl rfl hth rfl ?_
                  refine go_iload (pc' := 113) rfl rfl rfl ?_
                  obtain ⟨g4, h⟩ := o_gE h
                  refine go_iaload (pc' := 114) rfl (o_inK g4) (o_inB g4) rfl ?_
                  obtain ⟨g5, h⟩ := o_gE h
                  refine go_iaload (pc' := 115) rfl (o_inK g5) (o_inB g5) rfl ?_
                  refine go_iconst (pc' := 116) (v := (nI 1)) rfl rfl rfl ?_
                  refine go_iadd (pc' := 117) rfl rfl ?_
                  obtain ⟨g6, h⟩ := o_gE h
                  obtain ⟨I_117, eI_117, h⟩ := o_b1E h
                  refine go_iastore (pc' := 118) rfl (o_inK g6) (o_inB g6) rfl ?_
                  refine go_ndMI eI_117 ?_
                  refine go_aload_n (pc' := 119) rfl rfl rfl ?_
                  refine go_getR (pc' := 122) rfl rfl hth rfl ?_
                  refine go_iload_n (pc' := 123) rfl rfl rfl ?_
                  refine go_iload (pc' := 125) rfl rfl rfl ?_
                  obtain ⟨g7, h⟩ := o_gE h
                  obtain ⟨I_125, eI_125, h⟩ := o_b1E h
                  refine go_iastore (pc' := 126) rfl (o_inK g7) (o_inB g7) rfl ?_
                  refine go_ndMI eI_125 ?_
                  refine go_iload_n (pc' := 127) rfl rfl rfl ?_
                  refine go_iconst (pc' := 128) (v := (nI 1)) rfl rfl rfl ?_
                  refine go_iadd (pc' := 129) rfl rfl ?_
                  obtain ⟨x3_129, ex3_129, h⟩ := o_b1E h
                  refine go_ndI ex3_129 ?_
                  refine go_istore_n (pc' := 130) (lo' := [some (.inr (.inr th)), some (.inl a0), some (.inl a1), some (.inl x3_129), some (.inl v4_41), some (.inl v5_50)]) rfl rfl rfl ?_
                  obtain ⟨x5_130, ex5_130, h⟩ := o_b1E h
                  refine go_iincE (pc' := 133) rfl rfl (y := (nI 1)) rfl ex5_130 (lo' := [some (.inr (.inr th)), some (.inl a0), some (.inl a1), some (.inl x3_129), some (.inl v4_41), some (.inl x5_130)]) rfl rfl ?_
                  refine go_goto (pc' := 50) rfl rfl ?_
                  exact (lp_backE h hk50 :)
                · replace h := o_t (Decidable.of_not_not h91) h
                  refine go_goto (pc' := 130) rfl rfl ?_
                  obtain ⟨x5_130, ex5_130, h⟩ := o_b1E h
                  refine go_iincE (pc' := 133) rfl rfl (y := (nI 1)) rfl ex5_130 (lo' := [some (.inr (.inr th)), some (.inl a0), some (.inl a1), some (.inl v3_50), some (.inl v4_41), some (.inl x5_130)]) rfl rfl ?_
                  refine go_goto (pc' := 50) rfl rfl ?_
                  exact (lp_backE h hk50 :))
        exact lo50 _ (v3_41, (nI 0), I_41) hl50 )
    exact lo41 _ ((nI 1), (nI 0), I_35) hl41 none
  have lo2 : ∀ n s, lp (fun s => m_302_b2 th Rf G s.1 s.2) n s = some q2 → (fun s => ai_Go si_t (11, false, 9, cd_302) (ai_Cl si_t si_ms e) (sp_Q none I1 J Rf G) 2 [some (.inr (.inr th)), some (.inl a0), some (.inl a1), some (.inl s.1), none, none] [] (0, 0) s.2 J Rf G) s := lp_go (fun s x2 hx hk2 => by
    obtain ⟨v3_2, I_2⟩ := s
    have h : m_302_b2 th Rf G v3_2 I_2 = some x2 := hx
    clear hx
    show ai_Go si_t (11, false, 9, cd_302) (ai_Cl si_t si_ms e) (sp_Q none I1 J Rf G) 2 [some (.inr (.inr th)), some (.inl a0), some (.inl a1), some (.inl v3_2), none, none] [] (0, 0) I_2 J Rf G
    unfold m_302_b2 at h
    refine go_iload_n (pc' := 3) rfl rfl rfl ?_
    refine go_sipush (pc' := 6) (v := (nI 256)) rfl rfl rfl ?_
    refine go_icmp_ge (pt := 22) (pc' := 9) rfl rfl rfl (fun h6 => ?_) (fun h6 => ?_)
    · replace h := o_t h6 h
      exact ex2_22 _ (some (.inl v3_2)) (lp_exitE h hk2)
    · replace h := o_f h6 h
      refine go_aload_n (pc' := 10) rfl rfl rfl ?_
      refine go_getR (pc' := 13) rfl rfl hth rfl ?_
      refine go_iload_n (pc' := 14) rfl rfl rfl ?_
      refine go_iconst (pc' := 15) (v := (-1 : Int32)) rfl rfl rfl ?_
      obtain ⟨g8, h⟩ := o_gE h
      obtain ⟨I_15, eI_15, h⟩ := o_b1E h
      refine go_iastore (pc' := 16) rfl (o_inK g8) (o_inB g8) rfl ?_
      refine go_ndMI eI_15 ?_
      obtain ⟨x3_16, ex3_16, h⟩ := o_b1E h
      refine go_iincE (pc' := 19) rfl rfl (y := (nI 1)) rfl ex3_16 (lo' := [some (.inr (.inr th)), some (.inl a0), some (.inl a1), some (.inl x3_16), none, none]) rfl rfl ?_
      refine go_goto (pc' := 2) rfl rfl ?_
      exact (lp_backE h hk2 :))
  exact lo2 _ ((nI 0), I) hl2 
def m_303_x37_168 (Ix_168 : ai_I) : Option (ai_I) :=
  some Ix_168
def m_303_x46_165 (w3_165 : Int32) (Ix_165 : ai_I) : Option ((Int32 × ai_I) ⊕ ai_I) :=
  some (Sum.inl (w3_165, Ix_165))
def m_303_x57_159 (v4_46 : Int32) (w3_159 : Int32) (Ix_159 : ai_I) : Option ((Int32 × Int32 × ai_I) ⊕ (Int32 × ai_I)) :=
  o_b1 (some (v4_46 + (nI 1))) (fun x4_159 => some (Sum.inl (w3_159, x4_159, Ix_159)))
def m_303_b57 (th : Nat) (a0 : Int32) (Rf : ai_R) (G : ai_G) (v4_46 : Int32) (v3_57 : Int32) (v5_57 : Int32) (I_57 : ai_I) : Option ((Int32 × Int32 × ai_I) ⊕ (Int32 × ai_I)) :=
  if (nI 256) ≤ v5_57 then (some (Sum.inr (v3_57, I_57))) else (o_g (o_in G 13 (Rf th 27) v4_46) (if (I_57 (Rf th 27) v4_46.toNatClampNeg) = (-2147483648 : Int32) then (some (Sum.inr (v3_57, I_57))) else (o_b1 (m_199 th a0 v5_57 I_57 Rf G) (fun r_81 => if r_81 = 0 then (o_b1 (some (v5_57 + (nI 1))) (fun x5_153 => some (Sum.inl (v3_57, x5_153, I_57)))) else (o_b1 (m_267 v4_46 v5_57) (fun r_91 => if r_91 = 0 then (o_b1 (some (v5_57 + (nI 1))) (fun x5_153 => some (Sum.inl (v3_57, x5_153, I_57)))) else (o_g (o_in G 13 (Rf th 27) v4_46) (o_b1 (m_265 th a0 v5_57 I_57 Rf G) (fun r_108 => o_b1 (m_190 (I_57 (Rf th 27) v4_46.toNatClampNeg) r_108) (fun r_111 => o_g (o_in G 13 (Rf th 27) v5_57) (if (I_57 (Rf th 27) v5_57.toNatClampNeg) < r_111 then (o_g (o_in G 13 (Rf th 27) v4_46) (o_b1 (m_265 th a0 v5_57 I_57 Rf G) (fun r_144 => o_b1 (m_190 (I_57 (Rf th 27) v4_46.toNatClampNeg) r_144) (fun r_147 => o_g (o_in G 13 (Rf th 27) v5_57) (o_b1 (some (va_up I_57 (Rf th 27) (va_up (I_57 (Rf th 27)) v5_57.toNatClampNeg r_147))) (fun I_150 => o_b1 (some (v5_57 + (nI 1))) (fun x5_153 => some (Sum.inl ((nI 1), x5_153, I_150))))))))) else (o_b1 (some (v5_57 + (nI 1))) (fun x5_153 => some (Sum.inl (v3_57, x5_153, I_57)))))))))))))))
def m_303_b46 (th : Nat) (a0 : Int32) (Rf : ai_R) (G : ai_G) (v3_46 : Int32) (v4_46 : Int32) (I_46 : ai_I) : Option ((Int32 × Int32 × ai_I) ⊕ (Int32 × ai_I)) :=
  if (nI 256) ≤ v4_46 then (some (Sum.inr (v3_46, I_46))) else (o_s1 (lp (fun s => m_303_b57 th a0 Rf G v4_46 s.1 s.2.1 s.2.2) o_N (v3_46, (nI 0), I_46)) (fun t => m_303_x57_159 v4_46 t.1 t.2))
def m_303_b37 (th : Nat) (a0 : Int32) (Rf : ai_R) (G : ai_G) (v3_37 : Int32) (I_37 : ai_I) : Option ((Int32 × ai_I) ⊕ ai_I) :=
  if v3_37 = 0 then (some (Sum.inr I_37)) else (o_s1 (lp (fun s => m_303_b46 th a0 Rf G s.1 s.2.1 s.2.2) o_N ((nI 0), (nI 0), I_37)) (fun t => m_303_x46_165 t.1 t.2))
def m_303_x2_23 (th : Nat) (a0 : Int32) (a1 : Int32) (Rf : ai_R) (G : ai_G) (Ix_23 : ai_I) : Option (ai_I) :=
  o_b1 (m_265 th a0 a1 Ix_23 Rf G) (fun r_31 => o_g (o_in G 13 (Rf th 27) a1) (o_b1 (some (va_up Ix_23 (Rf th 27) (va_up (Ix_23 (Rf th 27)) a1.toNatClampNeg r_31))) (fun I_34 => o_s1 (lp (fun s => m_303_b37 th a0 Rf G s.1 s.2) o_N ((nI 1), I_34)) (fun t => m_303_x37_168 t))))
def m_303_b2 (th : Nat) (Rf : ai_R) (G : ai_G) (v3_2 : Int32) (I_2 : ai_I) : Option ((Int32 × ai_I) ⊕ ai_I) :=
  if (nI 256) ≤ v3_2 then (some (Sum.inr I_2)) else (o_g (o_in G 13 (Rf th 27) v3_2) (o_b1 (some (va_up I_2 (Rf th 27) (va_up (I_2 (Rf th 27)) v3_2.toNatClampNeg (-2147483648 : Int32)))) (fun I_16 => o_b1 (some (v3_2 + (nI 1))) (fun x3_17 => some (Sum.inl (x3_17, I_16))))))
/-- PricedBasesModel.holdsUp(II)V -/
def m_303 (th : Nat) (a0 : Int32) (a1 : Int32) (I : ai_I) (Rf : ai_R) (G : ai_G) : Option (ai_I) :=
  o_s1 (lp (fun s => m_303_b2 th Rf G s.1 s.2) o_N ((nI 0), I)) (fun t => m_303_x2_23 th a0 a1 Rf G t)
theorem md_303 {d : Nat} {I : ai_I} {J : ai_J} {Rf : ai_R} {G : ai_G} {th : Nat} {a0 : Int32} {a1 : Int32} {I1 : ai_I} (hd : 4 ≤ d) (hth : G.1 th = 11) (h : m_303 th a0 a1 I Rf G = some I1) : ai_Cl si_t si_ms d 303 [.inr (.inr th), .inl a0, .inl a1] I J Rf G none I1 J Rf G := by
  obtain ⟨e, rfl⟩ : ∃ e, d = e + 1 := ⟨d - 1, by omega⟩
  unfold m_303 at h
  refine sp_in (lo := [some (.inr (.inr th)), some (.inl a0), some (.inl a1), none, none, none]) (B := (0, 0)) rfl (Nat.le_of_ble_eq_true rfl) rfl rfl ?_
  refine go_iconst (pc' := 1) (v := (nI 0)) rfl rfl rfl ?_
  refine go_istore_n (pc' := 2) (lo' := [some (.inr (.inr th)), some (.inl a0), some (.inl a1), some (.inl (nI 0)), none, none]) rfl rfl rfl ?_
  obtain ⟨q2, hl2, hc2_23⟩ := o_s1E h
  have ex2_23 : ∀ (Ix_23 : ai_I) (z3_x23 : Option ai_V), Ix_23 = q2 → ai_Go si_t (11, false, 9, cd_303) (ai_Cl si_t si_ms e) (sp_Q none I1 J Rf G) 23 [some (.inr (.inr th)), some (.inl a0), some (.inl a1), z3_x23, none, none] [] (0, 0) Ix_23 J Rf G := by
    intro Ix_23 z3_x23 hq
    have h : m_303_x2_23 th a0 a1 Rf G Ix_23 = some I1 := hc2_23 Ix_23 hq.symm
    unfold m_303_x2_23 at h
    refine go_aload_n (pc' := 24) rfl rfl rfl ?_
    refine go_getR (pc' := 27) rfl rfl hth rfl ?_
    refine go_iload_n (pc' := 28) rfl rfl rfl ?_
    refine go_aload_n (pc' := 29) rfl rfl rfl ?_
    refine go_iload_n (pc' := 30) rfl rfl rfl ?_
    refine go_iload_n (pc' := 31) rfl rfl rfl ?_
    obtain ⟨r_31, q_31, h⟩ := o_b1E h
    refine go_callV (pc' := 34) (B' := (0, 0)) (st' := [.inl r_31, .inl a1, .inr (.inr (Rf th 27))]) rfl rfl (Or.inl (by decide)) rfl rfl hth (md_265 (by omega) hth q_31) rfl rfl rfl ?_
    obtain ⟨g0, h⟩ := o_gE h
    obtain ⟨I_34, eI_34, h⟩ := o_b1E h
    refine go_iastore (pc' := 35) rfl (o_inK g0) (o_inB g0) rfl ?_
    refine go_ndMI eI_34 ?_
    refine go_iconst (pc' := 36) (v := (nI 1)) rfl rfl rfl ?_
    refine go_istore_n (pc' := 37) (lo' := [some (.inr (.inr th)), some (.inl a0), some (.inl a1), some (.inl (nI 1)), none, none]) rfl rfl rfl ?_
    obtain ⟨q37, hl37, hc37_168⟩ := o_s1E h
    have ex37_168 : ∀ (Ix_168 : ai_I) (z3_x168 : Option ai_V) (z4_x168 : Option ai_V) (z5_x168 : Option ai_V), Ix_168 = q37 → ai_Go si_t (11, false, 9, cd_303) (ai_Cl si_t si_ms e) (sp_Q none I1 J Rf G) 168 [some (.inr (.inr th)), some (.inl a0), some (.inl a1), z3_x168, z4_x168, z5_x168] [] (0, 0) Ix_168 J Rf G := by
      intro Ix_168 z3_x168 z4_x168 z5_x168 hq
      have h : m_303_x37_168 Ix_168 = some I1 := hc37_168 Ix_168 hq.symm
      unfold m_303_x37_168 at h
      cases h
      exact go_vret rfl (rfl) ⟨rfl, rfl, rfl, rfl, rfl⟩
    have lo37 : ∀ n s, lp (fun s => m_303_b37 th a0 Rf G s.1 s.2) n s = some q37 → (fun s => ∀ (z4_37 : Option ai_V) (z5_37 : Option ai_V), ai_Go si_t (11, false, 9, cd_303) (ai_Cl si_t si_ms e) (sp_Q none I1 J Rf G) 37 [some (.inr (.inr th)), some (.inl a0), some (.inl a1), some (.inl s.1), z4_37, z5_37] [] (0, 0) s.2 J Rf G) s := lp_go (fun s x37 hx hk37 => by
      obtain ⟨v3_37, I_37⟩ := s
      intro z4_37 z5_37
      have h : m_303_b37 th a0 Rf G v3_37 I_37 = some x37 := hx
      clear hx
      show ai_Go si_t (11, false, 9, cd_303) (ai_Cl si_t si_ms e) (sp_Q none I1 J Rf G) 37 [some (.inr (.inr th)), some (.inl a0), some (.inl a1), some (.inl v3_37), z4_37, z5_37] [] (0, 0) I_37 J Rf G
      unfold m_303_b37 at h
      refine go_iload_n (pc' := 38) rfl rfl rfl ?_
      refine go_if_eq (pt := 168) (pc' := 41) rfl rfl rfl (fun h38 => ?_) (fun h38 => ?_)
      · replace h := o_t h38 h
        exact ex37_168 _ (some (.inl v3_37)) z4_37 z5_37 (lp_exitE h hk37)
      · replace h := o_f h38 h
        refine go_iconst (pc' := 42) (v := (nI 0)) rfl rfl rfl ?_
        refine go_istore_n (pc' := 43) (lo' := [some (.inr (.inr th)), some (.inl a0), some (.inl a1), some (.inl (nI 0)), z4_37, z5_37]) rfl rfl rfl ?_
        refine go_iconst (pc' := 44) (v := (nI 0)) rfl rfl rfl ?_
        refine go_istore (pc' := 46) (lo' := [some (.inr (.inr th)), some (.inl a0), some (.inl a1), some (.inl (nI 0)), some (.inl (nI 0)), z5_37]) rfl rfl rfl ?_
        obtain ⟨q46, hl46, hc46_165⟩ := o_s1E h
        have ex46_165 : ∀ (w3_165 : Int32) (Ix_165 : ai_I) (z4_x165 : Option ai_V) (z5_x165 : Option ai_V), (w3_165, Ix_165) = q46 → ai_Go si_t (11, false, 9, cd_303) (ai_Cl si_t si_ms e) (sp_Q none I1 J Rf G) 165 [some (.inr (.inr th)), some (.inl a0), some (.inl a1), some (.inl w3_165), z4_x165, z5_x165] [] (0, 0) Ix_165 J Rf G := by
          intro w3_165 Ix_165 z4_x165 z5_x165 hq
          have h : m_303_x46_165 w3_165 Ix_165 = some x37 := hc46_165 (w3_165, Ix_165) hq.symm
          unfold m_303_x46_165 at h
          refine go_goto (pc' := 37) rfl rfl ?_
          exact (lp_backE h hk37 z4_x165 z5_x165 :)
        have lo46 : ∀ n s, lp (fun s => m_303_b46 th a0 Rf G s.1 s.2.1 s.2.2) n s = some q46 → (fun s => ∀ (z5_46 : Option ai_V), ai_Go si_t (11, false, 9, cd_303) (ai_Cl si_t si_ms e) (sp_Q none I1 J Rf G) 46 [some (.inr (.inr th)), some (.inl a0), some (.inl a1), some (.inl s.1), some (.inl s.2.1), z5_46] [] (0, 0) s.2.2 J Rf G) s := lp_go (fun s x46 hx hk46 => by
          obtain ⟨v3_46, v4_46, I_46⟩ := s
          intro z5_46
          have h : m_303_b46 th a0 Rf G v3_46 v4_46 I_46 = some x46 := hx
          clear hx
          show ai_Go si_t (11, false, 9, cd_303) (ai_Cl si_t si_ms e) (sp_Q none I1 J Rf G) 46 [some (.inr (.inr th)), some (.inl a0), some (.inl a1), some (.inl v3_46), some (.inl v4_46), z5_46] [] (0, 0) I_46 J Rf G
          unfold m_303_b46 at h
          refine go_iload (pc' := 48) rfl rfl rfl ?_
          refine go_sipush (pc' := 51) (v := (nI 256)) rfl rfl rfl ?_
          refine go_icmp_ge (pt := 165) (pc' := 54) rfl rfl rfl (fun h51 => ?_) (fun h51 => ?_)
          · replace h := o_t h51 h
            exact ex46_165 _ _ (some (.inl v4_46)) z5_46 (lp_exitE h hk46)
          · replace h := o_f h51 h
            refine go_iconst (pc' := 55) (v := (nI 0)) rfl rfl rfl ?_
            refine go_istore (pc' := 57) (lo' := [some (.inr (.inr th)), some (.inl a0), some (.inl a1), some (.inl v3_46), some (.inl v4_46), some (.inl (nI 0))]) rfl rfl rfl ?_
            obtain ⟨q57, hl57, hc57_159⟩ := o_s1E h
            have ex57_159 : ∀ (w3_159 : Int32) (Ix_159 : ai_I) (z5_x159 : Option ai_V), (w3_159, Ix_159) = q57 → ai_Go si_t (11, false, 9, cd_303) (ai_Cl si_t si_ms e) (sp_Q none I1 J Rf G) 159 [some (.inr (.inr th)), some (.inl a0), some (.inl a1), some (.inl w3_159), some (.inl v4_46), z5_x159] [] (0, 0) Ix_159 J Rf G := by
              intro w3_159 Ix_159 z5_x159 hq
              have h : m_303_x57_159 v4_46 w3_159 Ix_159 = some x46 := hc57_159 (w3_159, Ix_159) hq.symm
              unfold m_303_x57_159 at h
              obtain ⟨x4_159, ex4_159, h⟩ := o_b1E h
              refine go_iincE (pc' := 162) rfl rfl (y := (nI 1)) rfl ex4_159 (lo' := [some (.inr (.inr th)), some (.inl a0), some (.inl a1), some (.inl w3_159), some (.inl x4_159), z5_x159]) rfl rfl ?_
              refine go_goto (pc' := 46) rfl rfl ?_
              exact (lp_backE h hk46 z5_x159 :)
            have lo57 : ∀ n s, lp (fun s => m_303_b57 th a0 Rf G v4_46 s.1 s.2.1 s.2.2) n s = some q57 → (fun s => ai_Go si_t (11, false, 9, cd_303) (ai_Cl si_t si_ms e) (sp_Q none I1 J Rf G) 57 [some (.inr (.inr th)), some (.inl a0), some (.inl a1), some (.inl s.1), some (.inl v4_46), some (.inl s.2.1)] [] (0, 0) s.2.2 J Rf G) s := lp_go (fun s x57 hx hk57 => by
              obtain ⟨v3_57, v5_57, I_57⟩ := s
              have h : m_303_b57 th a0 Rf G v4_46 v3_57 v5_57 I_57 = some x57 := hx
              clear hx
              show ai_Go si_t (11, false, 9, cd_303) (ai_Cl si_t si_ms e) (sp_Q none I1 J Rf G) 57 [some (.inr (.inr th)), some (.inl a0), some (.inl a1), some (.inl v3_57), some (.inl v4_46), some (.inl v5_57)] [] (0, 0) I_57 J Rf G
              unfold m_303_b57 at h
              refine go_iload (pc' := 59) rfl rfl rfl ?_
              refine go_sipush (pc' := 62) (v := (nI 256)) rfl rfl rfl ?_
              refine go_icmp_ge (pt := 159) (pc' := 65) rfl rfl rfl (fun h62 => ?_) (fun h62 => ?_)
              · replace h := o_t h62 h
                exact ex57_159 _ _ (some (.inl v5_57)) (lp_exitE h hk57)
              · replace h := o_f h62 h
                refine go_aload_n (pc' := 66) rfl rfl rfl ?_
                refine go_getR (pc' := 69) rfl rfl hth rfl ?_
                refine go_iload (pc' := 71) rfl rfl rfl ?_
                obtain ⟨g1, h⟩ := o_gE h
                refine go_iaload (pc' := 72) rfl (o_inK g1) (o_inB g1) rfl ?_
                refine go_ldc (pc' := 74) (v := .inl (-2147483648 : Int32)) rfl rfl rfl ?_
                refine go_icmp_eq (pt := 159) (pc' := 77) rfl rfl rfl (fun h74 => ?_) (fun h74 => ?_)
                · replace h := o_t h74 h
                  exact ex57_159 _ _ (some (.inl v5_57)) (lp_exitE h hk57)
                · replace h := o_f h74 h
                  refine go_aload_n (pc' := 78) rfl rfl rfl ?_
                  refine go_iload_n (pc' := 79) rfl rfl rfl ?_
                  refine go_iload (pc' := 81) rfl rfl rfl ?_
                  obtain ⟨r_81, q_81, h⟩ := o_b1E h
                  refine go_callV (pc' := 84) (B' := (0, 0)) (st' := [.inl r_81]) rfl rfl (Or.inl (by decide)) rfl rfl hth (md_199 (by omega) hth q_81) rfl rfl rfl ?_
                  refine go_if_eq (pt := 153) (pc' := 87) rfl rfl rfl (fun h84 => ?_) (fun h84 => ?_)
                  · replace h := o_t h84 h
                    obtain ⟨x5_153, ex5_153, h⟩ := o_b1E h
                    refine go_iincE (pc' := 156) rfl rfl (y := (nI 1)) rfl ex5_153 (lo' := [some (.inr (.inr th)), some (.inl a0), some (.inl a1), some (.inl v3_57), some (.inl v4_46), some (.inl x5_153)]) rfl rfl ?_
                    refine go_goto (pc' := 57) rfl rfl ?_
                    exact (lp_backE h hk57 :)
                  · replace h := o_f h84 h
                    refine go_iload (pc' := 89) rfl rfl rfl ?_
                    refine go_iload (pc' := 91) rfl rfl rfl ?_
                    obtain ⟨r_91, q_91, h⟩ := o_b1E h
                    refine go_callS (pc' := 94) (B' := (0, 0)) (st' := [.inl r_91]) rfl rfl (Or.inl (by decide)) rfl rfl trivial (md_267 (by omega) q_91) rfl rfl rfl ?_
                    refine go_if_eq (pt := 153) (pc' := 97) rfl rfl rfl (fun h94 => ?_) (fun h94 => ?_)
                    · replace h := o_t h94 h
                      obtain ⟨x5_153, ex5_153, h⟩ := o_b1E h
                      refine go_iincE (pc' := 156) rfl rfl (y := (nI 1)) rfl ex5_153 (lo' := [some (.inr (.inr th)), some (.inl a0), some (.inl a1), some (.inl v3_57), some (.inl v4_46), some (.inl x5_153)]) rfl rfl ?_
                      refine go_goto (pc' := 57) rfl rfl ?_
                      exact (lp_backE h hk57 :)
                    · replace h := o_f h94 h
                      refine go_aload_n (pc' := 98) rfl rfl rfl ?_
                      refine go_getR (pc' := 101) rfl rfl hth rfl ?_
                      refine go_iload (pc' := 103) rfl rfl rfl ?_
                      obtain ⟨g2, h⟩ := o_gE h
                      refine go_iaload (pc' := 104) rfl (o_inK g2) (o_inB g2) rfl ?_
                      refine go_aload_n (pc' := 105) rfl rfl rfl ?_
                      refine go_iload_n (pc' := 106) rfl rfl rfl ?_
                      refine go_iload (pc' := 108) rfl rfl rfl ?_
                      obtain ⟨r_108, q_108, h⟩ := o_b1E h
                      refine go_callV (pc' := 111) (B' := (0, 0)) (st' := [.inl r_108, .inl (I_57 (Rf th 27) v4_46.toNatClampNeg)]) rfl rfl (Or.inl (by decide)) rfl rfl hth (md_265 (by omega) hth q_108) rfl rfl rfl ?_
                      obtain ⟨r_111, q_111, h⟩ := o_b1E h
                      refine go_callS (pc' := 114) (B' := (0, 0)) (st' := [.inl r_111]) rfl rfl (Or.inl (by decide)) rfl rfl trivial (md_190 (by omega) q_111) rfl rfl rfl ?_
                      refine go_aload_n (pc' := 115) rfl rfl rfl ?_
                      refine go_getR (pc' := 118) rfl rfl hth rfl ?_
                      refine go_iload (pc' := 120) rfl rfl rfl ?_
                      obtain ⟨g3, h⟩ := o_gE h
                      refine go_iaload (pc' := 121) rfl (o_inK g3) (o_inB g3) rfl ?_
                      refine go_icmp_gt (pt := 127) (pc' := 124) rfl rfl rfl (fun h121 => ?_) (fun h121 => ?_)
                      · replace h := o_t h121 h
                        refine go_aload_n (pc' := 128) rfl rfl rfl ?_
                        refine go_getR (pc' := 131) rfl rfl hth rfl ?_
                        refine go_iload (pc' := 133) rfl rfl rfl ?_
                        refine go_aload_n (pc' := 134) rfl rfl rfl ?_
                        refine go_getR (pc' := 137) rfl rfl hth rfl ?_
                        refine go_iload (pc' := 139) rfl rfl rfl ?_
                        obtain ⟨g4, h⟩ := o_gE h
                        refine go_iaload (pc' := 140) rfl (o_inK g4) (o_inB g4) rfl ?_
                        refine go_aload_n (pc' := 141) rfl rfl rfl ?_
                        refine go_iload_n (pc' := 142) rfl rfl rfl ?_
                        refine go_iload (pc' := 144) rfl rfl rfl ?_
                        obtain ⟨r_144, q_144, h⟩ := o_b1E h
                        refine go_callV (pc' := 147) (B' := (0, 0)) (st' := [.inl r_144, .inl (I_57 (Rf th 27) v4_46.toNatClampNeg), .inl v5_57, .inr (.inr (Rf th 27))]) rfl rfl (Or.inl (by decide)) rfl rfl hth (md_265 (by omega) hth q_144) rfl rfl rfl ?_
                        obtain ⟨r_147, q_147, h⟩ := o_b1E h
                        refine go_callS (pc' := 150) (B' := (0, 0)) (st' := [.inl r_147, .inl v5_57, .inr (.inr (Rf th 27))]) rfl rfl (Or.inl (by decide)) rfl rfl trivial (md_190 (by omega) q_147) rfl rfl rfl ?_
                        obtain ⟨g5, h⟩ := o_gE h
                        obtain ⟨I_150, eI_150, h⟩ := o_b1E h
                        refine go_iastore (pc' := 151) rfl (o_inK g5) (o_inB g5) rfl ?_
                        refine go_ndMI eI_150 ?_
                        refine go_iconst (pc' := 152) (v := (nI 1)) rfl rfl rfl ?_
                        refine go_istore_n (pc' := 153) (lo' := [some (.inr (.inr th)), some (.inl a0), some (.inl a1), some (.inl (nI 1)), some (.inl v4_46), some (.inl v5_57)]) rfl rfl rfl ?_
                        obtain ⟨x5_153, ex5_153, h⟩ := o_b1E h
                        refine go_iincE (pc' := 156) rfl rfl (y := (nI 1)) rfl ex5_153 (lo' := [some (.inr (.inr th)), some (.inl a0), some (.inl a1), some (.inl (nI 1)), some (.inl v4_46), some (.inl x5_153)]) rfl rfl ?_
                        refine go_goto (pc' := 57) rfl rfl ?_
                        exact (lp_backE h hk57 :)
                      · replace h := o_f h121 h
                        refine go_goto (pc' := 153) rfl rfl ?_
                        obtain ⟨x5_153, ex5_153, h⟩ := o_b1E h
                        refine go_iincE (pc' := 156) rfl rfl (y := (nI 1)) rfl ex5_153 (lo' := [some (.inr (.inr th)), some (.inl a0), some (.inl a1), some (.inl v3_57), some (.inl v4_46), some (.inl x5_153)]) rfl rfl ?_
                        refine go_goto (pc' := 57) rfl rfl ?_
                        exact (lp_backE h hk57 :))
            exact lo57 _ (v3_46, (nI 0), I_46) hl57 )
        exact lo46 _ ((nI 0), (nI 0), I_37) hl46 z5_37)
    exact lo37 _ ((nI 1), I_34) hl37 none none
  have lo2 : ∀ n s, lp (fun s => m_303_b2 th Rf G s.1 s.2) n s = some q2 → (fun s => ai_Go si_t (11, false, 9, cd_303) (ai_Cl si_t si_ms e) (sp_Q none I1 J Rf G) 2 [some (.inr (.inr th)), some (.inl a0), some (.inl a1), some (.inl s.1), none, none] [] (0, 0) s.2 J Rf G) s := lp_go (fun s x2 hx hk2 => by
    obtain ⟨v3_2, I_2⟩ := s
    have h : m_303_b2 th Rf G v3_2 I_2 = some x2 := hx
    clear hx
    show ai_Go si_t (11, false, 9, cd_303) (ai_Cl si_t si_ms e) (sp_Q none I1 J Rf G) 2 [some (.inr (.inr th)), some (.inl a0), some (.inl a1), some (.inl v3_2), none, none] [] (0, 0) I_2 J Rf G
    unfold m_303_b2 at h
    refine go_iload_n (pc' := 3) rfl rfl rfl ?_
    refine go_sipush (pc' := 6) (v := (nI 256)) rfl rfl rfl ?_
    refine go_icmp_ge (pt := 23) (pc' := 9) rfl rfl rfl (fun h6 => ?_) (fun h6 => ?_)
    · replace h := o_t h6 h
      exact ex2_23 _ (some (.inl v3_2)) (lp_exitE h hk2)
    · replace h := o_f h6 h
      refine go_aload_n (pc' := 10) rfl rfl rfl ?_
      refine go_getR (pc' := 13) rfl rfl hth rfl ?_
      refine go_iload_n (pc' := 14) rfl rfl rfl ?_
      refine go_ldc (pc' := 16) (v := .inl (-2147483648 : Int32)) rfl rfl rfl ?_
      obtain ⟨g6, h⟩ := o_gE h
      obtain ⟨I_16, eI_16, h⟩ := o_b1E h
      refine go_iastore (pc' := 17) rfl (o_inK g6) (o_inB g6) rfl ?_
      refine go_ndMI eI_16 ?_
      obtain ⟨x3_17, ex3_17, h⟩ := o_b1E h
      refine go_iincE (pc' := 20) rfl rfl (y := (nI 1)) rfl ex3_17 (lo' := [some (.inr (.inr th)), some (.inl a0), some (.inl a1), some (.inl x3_17), none, none]) rfl rfl ?_
      refine go_goto (pc' := 2) rfl rfl ?_
      exact (lp_backE h hk2 :))
  exact lo2 _ ((nI 0), I) hl2 
/-- PricedBasesModel.stairs(IIII)I -/
def m_304 (th : Nat) (a0 : Int32) (a1 : Int32) (a2 : Int32) (a3 : Int32) (I : ai_I) (Rf : ai_R) (G : ai_G) : Option (Int32 × ai_I) :=
  o_b1 (m_200 a0) (fun r_1 => if r_1 = 0 then (some ((-2147483648 : Int32), I)) else (o_b1 (m_199 th a0 a1 I Rf G) (fun r_10 => if r_10 = 0 then (some ((-2147483648 : Int32), I)) else (o_b1 (m_199 th a0 a2 I Rf G) (fun r_19 => if r_19 = 0 then (some ((-2147483648 : Int32), I)) else (o_b1 (m_189 a3.toInt64 (0 : Int64) (1 : Int64)) (fun r_30 => if r_30 = 0 then (some ((-2147483648 : Int32), I)) else (if a3 = (nI 1) then (o_b1 (m_303 th a0 a1 I Rf G) (fun I_48 => o_g (o_in G 13 (Rf th 27) a2) (some (I_48 (Rf th 27) a2.toNatClampNeg, I_48)))) else (o_b1 (m_302 th a0 a1 I Rf G) (fun I_61 => o_g (o_in G 13 (Rf th 26) a2) (if (I_61 (Rf th 26) a2.toNatClampNeg) = (-1 : Int32) then (some ((-2 : Int32), I_61)) else (o_g (o_in G 13 (Rf th 26) a2) (some (I_61 (Rf th 26) a2.toNatClampNeg, I_61))))))))))))))
theorem md_304 {d : Nat} {I : ai_I} {J : ai_J} {Rf : ai_R} {G : ai_G} {th : Nat} {a0 : Int32} {a1 : Int32} {a2 : Int32} {a3 : Int32} {r : Int32} {I1 : ai_I} (hd : 5 ≤ d) (hth : G.1 th = 11) (h : m_304 th a0 a1 a2 a3 I Rf G = some (r, I1)) : ai_Cl si_t si_ms d 304 [.inr (.inr th), .inl a0, .inl a1, .inl a2, .inl a3] I J Rf G (some (.inl r)) I1 J Rf G := by
  obtain ⟨e, rfl⟩ : ∃ e, d = e + 1 := ⟨d - 1, by omega⟩
  unfold m_304 at h
  refine sp_in (lo := [some (.inr (.inr th)), some (.inl a0), some (.inl a1), some (.inl a2), some (.inl a3)]) (B := (0, 0)) rfl (Nat.le_of_ble_eq_true rfl) rfl rfl ?_
  refine go_iload_n (pc' := 1) rfl rfl rfl ?_
  obtain ⟨r_1, q_1, h⟩ := o_b1E h
  refine go_callS (pc' := 4) (B' := (0, 0)) (st' := [.inl r_1]) rfl rfl (Or.inl (by decide)) rfl rfl trivial (md_200 (by omega) q_1) rfl rfl rfl ?_
  refine go_if_eq (pt := 36) (pc' := 7) rfl rfl rfl (fun h4 => ?_) (fun h4 => ?_)
  · replace h := o_t h4 h
    refine go_ldc (pc' := 38) (v := .inl (-2147483648 : Int32)) rfl rfl rfl ?_
    cases h
    exact go_iret rfl (trivial) ⟨rfl, rfl, rfl, rfl, rfl⟩
  · replace h := o_f h4 h
    refine go_aload_n (pc' := 8) rfl rfl rfl ?_
    refine go_iload_n (pc' := 9) rfl rfl rfl ?_
    refine go_iload_n (pc' := 10) rfl rfl rfl ?_
    obtain ⟨r_10, q_10, h⟩ := o_b1E h
    refine go_callV (pc' := 13) (B' := (0, 0)) (st' := [.inl r_10]) rfl rfl (Or.inl (by decide)) rfl rfl hth (md_199 (by omega) hth q_10) rfl rfl rfl ?_
    refine go_if_eq (pt := 36) (pc' := 16) rfl rfl rfl (fun h13 => ?_) (fun h13 => ?_)
    · replace h := o_t h13 h
      refine go_ldc (pc' := 38) (v := .inl (-2147483648 : Int32)) rfl rfl rfl ?_
      cases h
      exact go_iret rfl (trivial) ⟨rfl, rfl, rfl, rfl, rfl⟩
    · replace h := o_f h13 h
      refine go_aload_n (pc' := 17) rfl rfl rfl ?_
      refine go_iload_n (pc' := 18) rfl rfl rfl ?_
      refine go_iload_n (pc' := 19) rfl rfl rfl ?_
      obtain ⟨r_19, q_19, h⟩ := o_b1E h
      refine go_callV (pc' := 22) (B' := (0, 0)) (st' := [.inl r_19]) rfl rfl (Or.inl (by decide)) rfl rfl hth (md_199 (by omega) hth q_19) rfl rfl rfl ?_
      refine go_if_eq (pt := 36) (pc' := 25) rfl rfl rfl (fun h22 => ?_) (fun h22 => ?_)
      · replace h := o_t h22 h
        refine go_ldc (pc' := 38) (v := .inl (-2147483648 : Int32)) rfl rfl rfl ?_
        cases h
        exact go_iret rfl (trivial) ⟨rfl, rfl, rfl, rfl, rfl⟩
      · replace h := o_f h22 h
        refine go_iload (pc' := 27) rfl rfl rfl ?_
        refine go_i2l (pc' := 28) rfl rfl ?_
        refine go_lconst (pc' := 29) (v := (0 : Int64)) rfl rfl rfl ?_
        refine go_lconst (pc' := 30) (v := (1 : Int64)) rfl rfl rfl ?_
        obtain ⟨r_30, q_30, h⟩ := o_b1E h
        refine go_callS (pc' := 33) (B' := (0, 0)) (st' := [.inl r_30]) rfl rfl (Or.inl (by decide)) rfl rfl trivial (md_189 (by omega) q_30) rfl rfl rfl ?_
        refine go_if_ne (pt := 39) (pc' := 36) rfl rfl rfl (fun h33 => ?_) (fun h33 => ?_)
        · replace h := o_f h33 h
          refine go_iload (pc' := 41) rfl rfl rfl ?_
          refine go_iconst (pc' := 42) (v := (nI 1)) rfl rfl rfl ?_
          refine go_icmp_ne (pt := 58) (pc' := 45) rfl rfl rfl (fun h42 => ?_) (fun h42 => ?_)
          · replace h := o_f h42 h
            refine go_aload_n (pc' := 59) rfl rfl rfl ?_
            refine go_iload_n (pc' := 60) rfl rfl rfl ?_
            refine go_iload_n (pc' := 61) rfl rfl rfl ?_
            obtain ⟨I_61, q_61, h⟩ := o_b1E h
            refine go_callV (pc' := 64) (B' := (0, 0)) (st' := []) rfl rfl (Or.inl (by decide)) rfl rfl hth (md_302 (by omega) hth q_61) rfl rfl rfl ?_
            refine go_aload_n (pc' := 65) rfl rfl rfl ?_
            refine go_getR (pc' := 68) rfl rfl hth rfl ?_
            refine go_iload_n (pc' := 69) rfl rfl rfl ?_
            obtain ⟨g0, h⟩ := o_gE h
            refine go_iaload (pc' := 70) rfl (o_inK g0) (o_inB g0) rfl ?_
            refine go_iconst (pc' := 71) (v := (-1 : Int32)) rfl rfl rfl ?_
            refine go_icmp_ne (pt := 79) (pc' := 74) rfl rfl rfl (fun h71 => ?_) (fun h71 => ?_)
            · replace h := o_f h71 h
              refine go_aload_n (pc' := 80) rfl rfl rfl ?_
              refine go_getR (pc' := 83) rfl rfl hth rfl ?_
              refine go_iload_n (pc' := 84) rfl rfl rfl ?_
              obtain ⟨g1, h⟩ := o_gE h
              refine go_iaload (pc' := 85) rfl (o_inK g1) (o_inB g1) rfl ?_
              cases h
              exact go_iret rfl (trivial) ⟨rfl, rfl, rfl, rfl, rfl⟩
            · replace h := o_t (Decidable.of_not_not h71) h
              refine go_bipush (pc' := 76) (v := (-2 : Int32)) rfl rfl rfl ?_
              refine go_goto (pc' := 85) rfl rfl ?_
              cases h
              exact go_iret rfl (trivial) ⟨rfl, rfl, rfl, rfl, rfl⟩
          · replace h := o_t (Decidable.of_not_not h42) h
            refine go_aload_n (pc' := 46) rfl rfl rfl ?_
            refine go_iload_n (pc' := 47) rfl rfl rfl ?_
            refine go_iload_n (pc' := 48) rfl rfl rfl ?_
            obtain ⟨I_48, q_48, h⟩ := o_b1E h
            refine go_callV (pc' := 51) (B' := (0, 0)) (st' := []) rfl rfl (Or.inl (by decide)) rfl rfl hth (md_303 (by omega) hth q_48) rfl rfl rfl ?_
            refine go_aload_n (pc' := 52) rfl rfl rfl ?_
            refine go_getR (pc' := 55) rfl rfl hth rfl ?_
            refine go_iload_n (pc' := 56) rfl rfl rfl ?_
            obtain ⟨g2, h⟩ := o_gE h
            refine go_iaload (pc' := 57) rfl (o_inK g2) (o_inB g2) rfl ?_
            cases h
            exact go_iret rfl (trivial) ⟨rfl, rfl, rfl, rfl, rfl⟩
        · replace h := o_t (Decidable.of_not_not h33) h
          refine go_ldc (pc' := 38) (v := .inl (-2147483648 : Int32)) rfl rfl rfl ?_
          cases h
          exact go_iret rfl (trivial) ⟨rfl, rfl, rfl, rfl, rfl⟩
def m_305_x5_42 (w3_42 : Int32) : Option (Int32) :=
  some w3_42
def m_305_b5 (th : Nat) (a0 : Int32) (a1 : Int32) (I : ai_I) (Rf : ai_R) (G : ai_G) (v3_5 : Int32) (v4_5 : Int32) : Option ((Int32 × Int32) ⊕ Int32) :=
  if (nI 256) ≤ v4_5 then (some (Sum.inr v3_5)) else (o_b1 (m_199 th a0 v4_5 I Rf G) (fun r_17 => if r_17 = 0 then (o_b1 (some (v4_5 + (nI 1))) (fun x4_36 => some (Sum.inl (v3_5, x4_36)))) else (o_b1 (m_267 a1 v4_5) (fun r_26 => if r_26 = 0 then (o_b1 (some (v4_5 + (nI 1))) (fun x4_36 => some (Sum.inl (v3_5, x4_36)))) else (o_b1 (some (v3_5 + (nI 1))) (fun x3_35 => o_b1 (some (v4_5 + (nI 1))) (fun x4_36 => some (Sum.inl (x3_35, x4_36)))))))))
/-- PricedBasesModel.besideOf(II)I -/
def m_305 (th : Nat) (a0 : Int32) (a1 : Int32) (I : ai_I) (Rf : ai_R) (G : ai_G) : Option (Int32) :=
  o_s1 (lp (fun s => m_305_b5 th a0 a1 I Rf G s.1 s.2) o_N ((nI 0), (nI 0))) (fun t => m_305_x5_42 t)
theorem md_305 {d : Nat} {I : ai_I} {J : ai_J} {Rf : ai_R} {G : ai_G} {th : Nat} {a0 : Int32} {a1 : Int32} {r : Int32} (hd : 3 ≤ d) (hth : G.1 th = 11) (h : m_305 th a0 a1 I Rf G = some r) : ai_Cl si_t si_ms d 305 [.inr (.inr th), .inl a0, .inl a1] I J Rf G (some (.inl r)) I J Rf G := by
  obtain ⟨e, rfl⟩ : ∃ e, d = e + 1 := ⟨d - 1, by omega⟩
  unfold m_305 at h
  refine sp_in (lo := [some (.inr (.inr th)), some (.inl a0), some (.inl a1), none, none]) (B := (0, 0)) rfl (Nat.le_of_ble_eq_true rfl) rfl rfl ?_
  refine go_iconst (pc' := 1) (v := (nI 0)) rfl rfl rfl ?_
  refine go_istore_n (pc' := 2) (lo' := [some (.inr (.inr th)), some (.inl a0), some (.inl a1), some (.inl (nI 0)), none]) rfl rfl rfl ?_
  refine go_iconst (pc' := 3) (v := (nI 0)) rfl rfl rfl ?_
  refine go_istore (pc' := 5) (lo' := [some (.inr (.inr th)), some (.inl a0), some (.inl a1), some (.inl (nI 0)), some (.inl (nI 0))]) rfl rfl rfl ?_
  obtain ⟨q5, hl5, hc5_42⟩ := o_s1E h
  have ex5_42 : ∀ (w3_42 : Int32) (z4_x42 : Option ai_V), w3_42 = q5 → ai_Go si_t (11, false, 0, cd_305) (ai_Cl si_t si_ms e) (sp_Q (some (.inl r)) I J Rf G) 42 [some (.inr (.inr th)), some (.inl a0), some (.inl a1), some (.inl w3_42), z4_x42] [] (0, 0) I J Rf G := by
    intro w3_42 z4_x42 hq
    have h : m_305_x5_42 w3_42 = some r := hc5_42 w3_42 hq.symm
    unfold m_305_x5_42 at h
    refine go_iload_n (pc' := 43) rfl rfl rfl ?_
    cases h
    exact go_iret rfl (trivial) ⟨rfl, rfl, rfl, rfl, rfl⟩
  have lo5 : ∀ n s, lp (fun s => m_305_b5 th a0 a1 I Rf G s.1 s.2) n s = some q5 → (fun s => ai_Go si_t (11, false, 0, cd_305) (ai_Cl si_t si_ms e) (sp_Q (some (.inl r)) I J Rf G) 5 [some (.inr (.inr th)), some (.inl a0), some (.inl a1), some (.inl s.1), some (.inl s.2)] [] (0, 0) I J Rf G) s := lp_go (fun s x5 hx hk5 => by
    obtain ⟨v3_5, v4_5⟩ := s
    have h : m_305_b5 th a0 a1 I Rf G v3_5 v4_5 = some x5 := hx
    clear hx
    show ai_Go si_t (11, false, 0, cd_305) (ai_Cl si_t si_ms e) (sp_Q (some (.inl r)) I J Rf G) 5 [some (.inr (.inr th)), some (.inl a0), some (.inl a1), some (.inl v3_5), some (.inl v4_5)] [] (0, 0) I J Rf G
    unfold m_305_b5 at h
    refine go_iload (pc' := 7) rfl rfl rfl ?_
    refine go_sipush (pc' := 10) (v := (nI 256)) rfl rfl rfl ?_
    refine go_icmp_ge (pt := 42) (pc' := 13) rfl rfl rfl (fun h10 => ?_) (fun h10 => ?_)
    · replace h := o_t h10 h
      exact ex5_42 _ (some (.inl v4_5)) (lp_exitE h hk5)
    · replace h := o_f h10 h
      refine go_aload_n (pc' := 14) rfl rfl rfl ?_
      refine go_iload_n (pc' := 15) rfl rfl rfl ?_
      refine go_iload (pc' := 17) rfl rfl rfl ?_
      obtain ⟨r_17, q_17, h⟩ := o_b1E h
      refine go_callV (pc' := 20) (B' := (0, 0)) (st' := [.inl r_17]) rfl rfl (Or.inl (by decide)) rfl rfl hth (md_199 (by omega) hth q_17) rfl rfl rfl ?_
      refine go_if_eq (pt := 36) (pc' := 23) rfl rfl rfl (fun h20 => ?_) (fun h20 => ?_)
      · replace h := o_t h20 h
        obtain ⟨x4_36, ex4_36, h⟩ := o_b1E h
        refine go_iincE (pc' := 39) rfl rfl (y := (nI 1)) rfl ex4_36 (lo' := [some (.inr (.inr th)), some (.inl a0), some (.inl a1), some (.inl v3_5), some (.inl x4_36)]) rfl rfl ?_
        refine go_goto (pc' := 5) rfl rfl ?_
        exact (lp_backE h hk5 :)
      · replace h := o_f h20 h
        refine go_iload_n (pc' := 24) rfl rfl rfl ?_
        refine go_iload (pc' := 26) rfl rfl rfl ?_
        obtain ⟨r_26, q_26, h⟩ := o_b1E h
        refine go_callS (pc' := 29) (B' := (0, 0)) (st' := [.inl r_26]) rfl rfl (Or.inl (by decide)) rfl rfl trivial (md_267 (by omega) q_26) rfl rfl rfl ?_
        refine go_if_eq (pt := 36) (pc' := 32) rfl rfl rfl (fun h29 => ?_) (fun h29 => ?_)
        · replace h := o_t h29 h
          obtain ⟨x4_36, ex4_36, h⟩ := o_b1E h
          refine go_iincE (pc' := 39) rfl rfl (y := (nI 1)) rfl ex4_36 (lo' := [some (.inr (.inr th)), some (.inl a0), some (.inl a1), some (.inl v3_5), some (.inl x4_36)]) rfl rfl ?_
          refine go_goto (pc' := 5) rfl rfl ?_
          exact (lp_backE h hk5 :)
        · replace h := o_f h29 h
          refine go_iload_n (pc' := 33) rfl rfl rfl ?_
          refine go_iconst (pc' := 34) (v := (nI 1)) rfl rfl rfl ?_
          refine go_iadd (pc' := 35) rfl rfl ?_
          obtain ⟨x3_35, ex3_35, h⟩ := o_b1E h
          refine go_ndI ex3_35 ?_
          refine go_istore_n (pc' := 36) (lo' := [some (.inr (.inr th)), some (.inl a0), some (.inl a1), some (.inl x3_35), some (.inl v4_5)]) rfl rfl rfl ?_
          obtain ⟨x4_36, ex4_36, h⟩ := o_b1E h
          refine go_iincE (pc' := 39) rfl rfl (y := (nI 1)) rfl ex4_36 (lo' := [some (.inr (.inr th)), some (.inl a0), some (.inl a1), some (.inl x3_35), some (.inl x4_36)]) rfl rfl ?_
          refine go_goto (pc' := 5) rfl rfl ?_
          exact (lp_backE h hk5 :))
  exact lo5 _ ((nI 0), (nI 0)) hl5 
def m_306_x4_61 (Ix_61 : ai_I) : Option (Int32 × ai_I) :=
  some ((-2 : Int32), Ix_61)
def m_306_x4_98 (w2_98 : Int32) (Ix_98 : ai_I) : Option (Int32 × ai_I) :=
  some (w2_98, Ix_98)
def m_306_x32_61 (I_26 : ai_I) : Option ((Int32 × Int32 × ai_I) ⊕ (ai_I ⊕ (Int32 × ai_I))) :=
  some (Sum.inr (Sum.inl I_26))
def m_306_x32_92 (v3_4 : Int32) (I_26 : ai_I) (w2_92 : Int32) : Option ((Int32 × Int32 × ai_I) ⊕ (ai_I ⊕ (Int32 × ai_I))) :=
  o_b1 (some (v3_4 + (nI 1))) (fun x3_92 => some (Sum.inl (w2_92, x3_92, I_26)))
def m_306_j64 (th : Nat) (a0 : Int32) (Rf : ai_R) (G : ai_G) (I_26 : ai_I) (v2_32 : Int32) (v4_32 : Int32) : Option ((Int32 × Int32) ⊕ (Unit ⊕ Int32)) :=
  o_b1 (m_199 th a0 v4_32 I_26 Rf G) (fun r_68 => if r_68 = 0 then (o_b1 (some (v4_32 + (nI 1))) (fun x4_86 => some (Sum.inl (v2_32, x4_86)))) else (o_g (o_in G 13 (Rf th 26) v4_32) (o_b1 (m_191 v2_32 (I_26 (Rf th 26) v4_32.toNatClampNeg)) (fun r_82 => o_b1 (some (v4_32 + (nI 1))) (fun x4_86 => some (Sum.inl (r_82, x4_86)))))))
def m_306_b32 (th : Nat) (a0 : Int32) (Rf : ai_R) (G : ai_G) (I_26 : ai_I) (v2_32 : Int32) (v4_32 : Int32) : Option ((Int32 × Int32) ⊕ (Unit ⊕ Int32)) :=
  if (nI 256) ≤ v4_32 then (some (Sum.inr (Sum.inr v2_32))) else (o_b1 (m_199 th a0 v4_32 I_26 Rf G) (fun r_44 => if r_44 = 0 then (m_306_j64 th a0 Rf G I_26 v2_32 v4_32) else (o_g (o_in G 13 (Rf th 26) v4_32) (if (I_26 (Rf th 26) v4_32.toNatClampNeg) = (-1 : Int32) then (some (Sum.inr (Sum.inl ()))) else (m_306_j64 th a0 Rf G I_26 v2_32 v4_32)))))
def m_306_b4 (th : Nat) (a0 : Int32) (Rf : ai_R) (G : ai_G) (v2_4 : Int32) (v3_4 : Int32) (I_4 : ai_I) : Option ((Int32 × Int32 × ai_I) ⊕ (ai_I ⊕ (Int32 × ai_I))) :=
  if (nI 256) ≤ v3_4 then (some (Sum.inr (Sum.inr (v2_4, I_4)))) else (o_b1 (m_199 th a0 v3_4 I_4 Rf G) (fun r_14 => if r_14 = 0 then (o_b1 (some (v3_4 + (nI 1))) (fun x3_92 => some (Sum.inl (v2_4, x3_92, I_4)))) else (o_b1 (m_302 th a0 v3_4 I_4 Rf G) (fun I_26 => o_s2 (lp (fun s => m_306_b32 th a0 Rf G I_26 s.1 s.2) o_N (v2_4, (nI 0))) (fun t => m_306_x32_61 I_26) (fun t => m_306_x32_92 v3_4 I_26 t)))))
/-- PricedBasesModel.widest(I)I -/
def m_306 (th : Nat) (a0 : Int32) (I : ai_I) (Rf : ai_R) (G : ai_G) : Option (Int32 × ai_I) :=
  o_s2 (lp (fun s => m_306_b4 th a0 Rf G s.1 s.2.1 s.2.2) o_N ((nI 0), (nI 0), I)) (fun t => m_306_x4_61 t) (fun t => m_306_x4_98 t.1 t.2)
theorem md_306 {d : Nat} {I : ai_I} {J : ai_J} {Rf : ai_R} {G : ai_G} {th : Nat} {a0 : Int32} {r : Int32} {I1 : ai_I} (hd : 4 ≤ d) (hth : G.1 th = 11) (h : m_306 th a0 I Rf G = some (r, I1)) : ai_Cl si_t si_ms d 306 [.inr (.inr th), .inl a0] I J Rf G (some (.inl r)) I1 J Rf G := by
  obtain ⟨e, rfl⟩ : ∃ e, d = e + 1 := ⟨d - 1, by omega⟩
  unfold m_306 at h
  refine sp_in (lo := [some (.inr (.inr th)), some (.inl a0), none, none, none]) (B := (0, 0)) rfl (Nat.le_of_ble_eq_true rfl) rfl rfl ?_
  refine go_iconst (pc' := 1) (v := (nI 0)) rfl rfl rfl ?_
  refine go_istore_n (pc' := 2) (lo' := [some (.inr (.inr th)), some (.inl a0), some (.inl (nI 0)), none, none]) rfl rfl rfl ?_
  refine go_iconst (pc' := 3) (v := (nI 0)) rfl rfl rfl ?_
  refine go_istore_n (pc' := 4) (lo' := [some (.inr (.inr th)), some (.inl a0), some (.inl (nI 0)), some (.inl (nI 0)), none]) rfl rfl rfl ?_
  obtain ⟨q4, hl4, hc4_61, hc4_98⟩ := o_s2E h
  have ex4_61 : ∀ (Ix_61 : ai_I) (z2_x61 : Option ai_V) (z3_x61 : Option ai_V) (z4_x61 : Option ai_V), (Sum.inl Ix_61) = q4 → ai_Go si_t (11, false, 0, cd_306) (ai_Cl si_t si_ms e) (sp_Q (some (.inl r)) I1 J Rf G) 61 [some (.inr (.inr th)), some (.inl a0), z2_x61, z3_x61, z4_x61] [] (0, 0) Ix_61 J Rf G := by
    intro Ix_61 z2_x61 z3_x61 z4_x61 hq
    have h : m_306_x4_61 Ix_61 = some (r, I1) := hc4_61 Ix_61 hq.symm
    unfold m_306_x4_61 at h
    refine go_bipush (pc' := 63) (v := (-2 : Int32)) rfl rfl rfl ?_
    cases h
    exact go_iret rfl (trivial) ⟨rfl, rfl, rfl, rfl, rfl⟩
  have ex4_98 : ∀ (w2_98 : Int32) (Ix_98 : ai_I) (z3_x98 : Option ai_V) (z4_x98 : Option ai_V), (Sum.inr (w2_98, Ix_98)) = q4 → ai_Go si_t (11, false, 0, cd_306) (ai_Cl si_t si_ms e) (sp_Q (some (.inl r)) I1 J Rf G) 98 [some (.inr (.inr th)), some (.inl a0), some (.inl w2_98), z3_x98, z4_x98] [] (0, 0) Ix_98 J Rf G := by
    intro w2_98 Ix_98 z3_x98 z4_x98 hq
    have h : m_306_x4_98 w2_98 Ix_98 = some (r, I1) := hc4_98 (w2_98, Ix_98) hq.symm
    unfold m_306_x4_98 at h
    refine go_iload_n (pc' := 99) rfl rfl rfl ?_
    cases h
    exact go_iret rfl (trivial) ⟨rfl, rfl, rfl, rfl, rfl⟩
  have lo4 : ∀ n s, lp (fun s => m_306_b4 th a0 Rf G s.1 s.2.1 s.2.2) n s = some q4 → (fun s => ∀ (z4_4 : Option ai_V), ai_Go si_t (11, false, 0, cd_306) (ai_Cl si_t si_ms e) (sp_Q (some (.inl r)) I1 J Rf G) 4 [some (.inr (.inr th)), some (.inl a0), some (.inl s.1), some (.inl s.2.1), z4_4] [] (0, 0) s.2.2 J Rf G) s := lp_go (fun s x4 hx hk4 => by
    obtain ⟨v2_4, v3_4, I_4⟩ := s
    intro z4_4
    have h : m_306_b4 th a0 Rf G v2_4 v3_4 I_4 = some x4 := hx
    clear hx
    show ai_Go si_t (11, false, 0, cd_306) (ai_Cl si_t si_ms e) (sp_Q (some (.inl r)) I1 J Rf G) 4 [some (.inr (.inr th)), some (.inl a0), some (.inl v2_4), some (.inl v3_4), z4_4] [] (0, 0) I_4 J Rf G
    unfold m_306_b4 at h
    refine go_iload_n (pc' := 5) rfl rfl rfl ?_
    refine go_sipush (pc' := 8) (v := (nI 256)) rfl rfl rfl ?_
    refine go_icmp_ge (pt := 98) (pc' := 11) rfl rfl rfl (fun h8 => ?_) (fun h8 => ?_)
    · replace h := o_t h8 h
      exact ex4_98 _ _ (some (.inl v3_4)) z4_4 (lp_exitE h hk4)
    · replace h := o_f h8 h
      refine go_aload_n (pc' := 12) rfl rfl rfl ?_
      refine go_iload_n (pc' := 13) rfl rfl rfl ?_
      refine go_iload_n (pc' := 14) rfl rfl rfl ?_
      obtain ⟨r_14, q_14, h⟩ := o_b1E h
      refine go_callV (pc' := 17) (B' := (0, 0)) (st' := [.inl r_14]) rfl rfl (Or.inl (by decide)) rfl rfl hth (md_199 (by omega) hth q_14) rfl rfl rfl ?_
      refine go_if_ne (pt := 23) (pc' := 20) rfl rfl rfl (fun h17 => ?_) (fun h17 => ?_)
      · replace h := o_f h17 h
        refine go_aload_n (pc' := 24) rfl rfl rfl ?_
        refine go_iload_n (pc' := 25) rfl rfl rfl ?_
        refine go_iload_n (pc' := 26) rfl rfl rfl ?_
        obtain ⟨I_26, q_26, h⟩ := o_b1E h
        refine go_callV (pc' := 29) (B' := (0, 0)) (st' := []) rfl rfl (Or.inl (by decide)) rfl rfl hth (md_302 (by omega) hth q_26) rfl rfl rfl ?_
        refine go_iconst (pc' := 30) (v := (nI 0)) rfl rfl rfl ?_
        refine go_istore (pc' := 32) (lo' := [some (.inr (.inr th)), some (.inl a0), some (.inl v2_4), some (.inl v3_4), some (.inl (nI 0))]) rfl rfl rfl ?_
        obtain ⟨q32, hl32, hc32_61, hc32_92⟩ := o_s2E h
        have ex32_61 : ∀ (z2_x61 : Option ai_V) (z4_x61 : Option ai_V), (Sum.inl ()) = q32 → ai_Go si_t (11, false, 0, cd_306) (ai_Cl si_t si_ms e) (sp_Q (some (.inl r)) I1 J Rf G) 61 [some (.inr (.inr th)), some (.inl a0), z2_x61, some (.inl v3_4), z4_x61] [] (0, 0) I_26 J Rf G := by
          intro z2_x61 z4_x61 hq
          have h : m_306_x32_61 I_26 = some x4 := hc32_61 () hq.symm
          unfold m_306_x32_61 at h
          exact ex4_61 _ z2_x61 (some (.inl v3_4)) z4_x61 (lp_exitE h hk4)
        have ex32_92 : ∀ (w2_92 : Int32) (z4_x92 : Option ai_V), (Sum.inr w2_92) = q32 → ai_Go si_t (11, false, 0, cd_306) (ai_Cl si_t si_ms e) (sp_Q (some (.inl r)) I1 J Rf G) 92 [some (.inr (.inr th)), some (.inl a0), some (.inl w2_92), some (.inl v3_4), z4_x92] [] (0, 0) I_26 J Rf G := by
          intro w2_92 z4_x92 hq
          have h : m_306_x32_92 v3_4 I_26 w2_92 = some x4 := hc32_92 w2_92 hq.symm
          unfold m_306_x32_92 at h
          obtain ⟨x3_92, ex3_92, h⟩ := o_b1E h
          refine go_iincE (pc' := 95) rfl rfl (y := (nI 1)) rfl ex3_92 (lo' := [some (.inr (.inr th)), some (.inl a0), some (.inl w2_92), some (.inl x3_92), z4_x92]) rfl rfl ?_
          refine go_goto (pc' := 4) rfl rfl ?_
          exact (lp_backE h hk4 z4_x92 :)
        have lo32 : ∀ n s, lp (fun s => m_306_b32 th a0 Rf G I_26 s.1 s.2) n s = some q32 → (fun s => ai_Go si_t (11, false, 0, cd_306) (ai_Cl si_t si_ms e) (sp_Q (some (.inl r)) I1 J Rf G) 32 [some (.inr (.inr th)), some (.inl a0), some (.inl s.1), some (.inl v3_4), some (.inl s.2)] [] (0, 0) I_26 J Rf G) s := lp_go (fun s x32 hx hk32 => by
          obtain ⟨v2_32, v4_32⟩ := s
          have h : m_306_b32 th a0 Rf G I_26 v2_32 v4_32 = some x32 := hx
          clear hx
          show ai_Go si_t (11, false, 0, cd_306) (ai_Cl si_t si_ms e) (sp_Q (some (.inl r)) I1 J Rf G) 32 [some (.inr (.inr th)), some (.inl a0), some (.inl v2_32), some (.inl v3_4), some (.inl v4_32)] [] (0, 0) I_26 J Rf G
          unfold m_306_b32 at h
          refine go_iload (pc' := 34) rfl rfl rfl ?_
          refine go_sipush (pc' := 37) (v := (nI 256)) rfl rfl rfl ?_
          refine go_icmp_ge (pt := 92) (pc' := 40) rfl rfl rfl (fun h37 => ?_) (fun h37 => ?_)
          · replace h := o_t h37 h
            exact ex32_92 _ (some (.inl v4_32)) (lp_exitE h hk32)
          · replace h := o_f h37 h
            refine go_aload_n (pc' := 41) rfl rfl rfl ?_
            refine go_iload_n (pc' := 42) rfl rfl rfl ?_
            refine go_iload (pc' := 44) rfl rfl rfl ?_
            obtain ⟨r_44, q_44, h⟩ := o_b1E h
            refine go_callV (pc' := 47) (B' := (0, 0)) (st' := [.inl r_44]) rfl rfl (Or.inl (by decide)) rfl rfl hth (md_199 (by omega) hth q_44) rfl rfl rfl ?_
            have jn64 : m_306_j64 th a0 Rf G I_26 v2_32 v4_32 = some x32 → ai_Go si_t (11, false, 0, cd_306) (ai_Cl si_t si_ms e) (sp_Q (some (.inl r)) I1 J Rf G) 64 [some (.inr (.inr th)), some (.inl a0), some (.inl v2_32), some (.inl v3_4), some (.inl v4_32)] [] (0, 0) I_26 J Rf G := by
              intro h
              unfold m_306_j64 at h
              refine go_aload_n (pc' := 65) rfl rfl rfl ?_
              refine go_iload_n (pc' := 66) rfl rfl rfl ?_
              refine go_iload (pc' := 68) rfl rfl rfl ?_
              obtain ⟨r_68, q_68, h⟩ := o_b1E h
              refine go_callV (pc' := 71) (B' := (0, 0)) (st' := [.inl r_68]) rfl rfl (Or.inl (by decide)) rfl rfl hth (md_199 (by omega) hth q_68) rfl rfl rfl ?_
              refine go_if_eq (pt := 86) (pc' := 74) rfl rfl rfl (fun h71 => ?_) (fun h71 => ?_)
              · replace h := o_t h71 h
                obtain ⟨x4_86, ex4_86, h⟩ := o_b1E h
                refine go_iincE (pc' := 89) rfl rfl (y := (nI 1)) rfl ex4_86 (lo' := [some (.inr (.inr th)), some (.inl a0), some (.inl v2_32), some (.inl v3_4), some (.inl x4_86)]) rfl rfl ?_
                refine go_goto (pc' := 32) rfl rfl ?_
                exact (lp_backE h hk32 :)
              · replace h := o_f h71 h
                refine go_iload_n (pc' := 75) rfl rfl rfl ?_
                refine go_aload_n (pc' := 76) rfl rfl rfl ?_
                refine go_getR (pc' := 79) rfl rfl hth rfl ?_
                refine go_iload (pc' := 81) rfl rfl rfl ?_
                obtain ⟨g0, h⟩ := o_gE h
                refine go_iaload (pc' := 82) rfl (o_inK g0) (o_inB g0) rfl ?_
                obtain ⟨r_82, q_82, h⟩ := o_b1E h
                refine go_callS (pc' := 85) (B' := (0, 0)) (st' := [.inl r_82]) rfl rfl (Or.inl (by decide)) rfl rfl trivial (md_191 (by omega) q_82) rfl rfl rfl ?_
                refine go_istore_n (pc' := 86) (lo' := [some (.inr (.inr th)), some (.inl a0), some (.inl r_82), some (.inl v3_4), some (.inl v4_32)]) rfl rfl rfl ?_
                obtain ⟨x4_86, ex4_86, h⟩ := o_b1E h
                refine go_iincE (pc' := 89) rfl rfl (y := (nI 1)) rfl ex4_86 (lo' := [some (.inr (.inr th)), some (.inl a0), some (.inl r_82), some (.inl v3_4), some (.inl x4_86)]) rfl rfl ?_
                refine go_goto (pc' := 32) rfl rfl ?_
                exact (lp_backE h hk32 :)
            refine go_if_eq (pt := 64) (pc' := 50) rfl rfl rfl (fun h47 => ?_) (fun h47 => ?_)
            · replace h := o_t h47 h
              exact jn64  h
            · replace h := o_f h47 h
              refine go_aload_n (pc' := 51) rfl rfl rfl ?_
              refine go_getR (pc' := 54) rfl rfl hth rfl ?_
              refine go_iload (pc' := 56) rfl rfl rfl ?_
              obtain ⟨g1, h⟩ := o_gE h
              refine go_iaload (pc' := 57) rfl (o_inK g1) (o_inB g1) rfl ?_
              refine go_iconst (pc' := 58) (v := (-1 : Int32)) rfl rfl rfl ?_
              refine go_icmp_ne (pt := 64) (pc' := 61) rfl rfl rfl (fun h58 => ?_) (fun h58 => ?_)
              · replace h := o_f h58 h
                exact jn64  h
              · replace h := o_t (Decidable.of_not_not h58) h
                exact ex32_61  (some (.inl v2_32)) (some (.inl v4_32)) (lp_exitE h hk32))
        exact lo32 _ (v2_4, (nI 0)) hl32 
      · replace h := o_t (Decidable.of_not_not h17) h
        refine go_goto (pc' := 92) rfl rfl ?_
        obtain ⟨x3_92, ex3_92, h⟩ := o_b1E h
        refine go_iincE (pc' := 95) rfl rfl (y := (nI 1)) rfl ex3_92 (lo' := [some (.inr (.inr th)), some (.inl a0), some (.inl v2_4), some (.inl x3_92), z4_4]) rfl rfl ?_
        refine go_goto (pc' := 4) rfl rfl ?_
        exact (lp_backE h hk4 z4_4 :))
  exact lo4 _ ((nI 0), (nI 0), I) hl4 none
def m_307_x44_102 (th : Nat) (a0 : Int32) (a1 : Int32) (I : ai_I) (Rf : ai_R) (G : ai_G) (w3_102 : Int32) (w4_102 : Int32) : Option (Int32 × ai_I) :=
  if a1 = 0 then (some (w3_102 / (nI 2), I)) else (if a1 = (nI 2) then (some (w4_102, I)) else (o_b1 (m_305 th a0 w4_102 I Rf G) (fun r_126 => some (r_126, I))))
def m_307_b44 (th : Nat) (a0 : Int32) (I : ai_I) (Rf : ai_R) (G : ai_G) (v3_44 : Int32) (v4_44 : Int32) (v5_44 : Int32) : Option ((Int32 × Int32 × Int32) ⊕ (Int32 × Int32)) :=
  if (nI 256) ≤ v5_44 then (some (Sum.inr (v3_44, v4_44))) else (o_b1 (m_199 th a0 v5_44 I Rf G) (fun r_56 => if r_56 = 0 then (o_b1 (some (v5_44 + (nI 1))) (fun x5_96 => some (Sum.inl (v3_44, v4_44, x5_96)))) else (o_b1 (m_305 th a0 v5_44 I Rf G) (fun r_70 => o_b1 (some (v3_44 + r_70)) (fun x3_74 => o_b1 (m_305 th a0 v5_44 I Rf G) (fun r_79 => o_b1 (m_305 th a0 v4_44 I Rf G) (fun r_86 => if r_79 ≤ r_86 then (o_b1 (some (v5_44 + (nI 1))) (fun x5_96 => some (Sum.inl (x3_74, v4_44, x5_96)))) else (o_b1 (some (v5_44 + (nI 1))) (fun x5_96 => some (Sum.inl (x3_74, v5_44, x5_96)))))))))))
/-- PricedBasesModel.beside(II)I -/
def m_307 (th : Nat) (a0 : Int32) (a1 : Int32) (I : ai_I) (Rf : ai_R) (G : ai_G) : Option (Int32 × ai_I) :=
  o_b1 (m_200 a0) (fun r_1 => if r_1 = 0 then (some ((-1 : Int32), I)) else (o_b1 (m_189 a1.toInt64 (0 : Int64) (3 : Int64)) (fun r_13 => if r_13 = 0 then (some ((-1 : Int32), I)) else (if a1 = (nI 1) then (o_b2 (m_306 th a0 I Rf G) (fun r_28 I_28 => some (r_28, I_28))) else (o_b1 (m_205 th a0 I Rf G) (fun r_36 => o_s1 (lp (fun s => m_307_b44 th a0 I Rf G s.1 s.2.1 s.2.2) o_N ((nI 0), r_36, (nI 0))) (fun t => m_307_x44_102 th a0 a1 I Rf G t.1 t.2)))))))
theorem md_307 {d : Nat} {I : ai_I} {J : ai_J} {Rf : ai_R} {G : ai_G} {th : Nat} {a0 : Int32} {a1 : Int32} {r : Int32} {I1 : ai_I} (hd : 5 ≤ d) (hth : G.1 th = 11) (h : m_307 th a0 a1 I Rf G = some (r, I1)) : ai_Cl si_t si_ms d 307 [.inr (.inr th), .inl a0, .inl a1] I J Rf G (some (.inl r)) I1 J Rf G := by
  obtain ⟨e, rfl⟩ : ∃ e, d = e + 1 := ⟨d - 1, by omega⟩
  unfold m_307 at h
  refine sp_in (lo := [some (.inr (.inr th)), some (.inl a0), some (.inl a1), none, none, none]) (B := (0, 0)) rfl (Nat.le_of_ble_eq_true rfl) rfl rfl ?_
  refine go_iload_n (pc' := 1) rfl rfl rfl ?_
  obtain ⟨r_1, q_1, h⟩ := o_b1E h
  refine go_callS (pc' := 4) (B' := (0, 0)) (st' := [.inl r_1]) rfl rfl (Or.inl (by decide)) rfl rfl trivial (md_200 (by omega) q_1) rfl rfl rfl ?_
  refine go_if_eq (pt := 19) (pc' := 7) rfl rfl rfl (fun h4 => ?_) (fun h4 => ?_)
  · replace h := o_t h4 h
    refine go_iconst (pc' := 20) (v := (-1 : Int32)) rfl rfl rfl ?_
    cases h
    exact go_iret rfl (trivial) ⟨rfl, rfl, rfl, rfl, rfl⟩
  · replace h := o_f h4 h
    refine go_iload_n (pc' := 8) rfl rfl rfl ?_
    refine go_i2l (pc' := 9) rfl rfl ?_
    refine go_lconst (pc' := 10) (v := (0 : Int64)) rfl rfl rfl ?_
    refine go_ldc2_w (pc' := 13) (v := .inr (.inl (3 : Int64))) rfl rfl rfl ?_
    obtain ⟨r_13, q_13, h⟩ := o_b1E h
    refine go_callS (pc' := 16) (B' := (0, 0)) (st' := [.inl r_13]) rfl rfl (Or.inl (by decide)) rfl rfl trivial (md_189 (by omega) q_13) rfl rfl rfl ?_
    refine go_if_ne (pt := 21) (pc' := 19) rfl rfl rfl (fun h16 => ?_) (fun h16 => ?_)
    · replace h := o_f h16 h
      refine go_iload_n (pc' := 22) rfl rfl rfl ?_
      refine go_iconst (pc' := 23) (v := (nI 1)) rfl rfl rfl ?_
      refine go_icmp_ne (pt := 32) (pc' := 26) rfl rfl rfl (fun h23 => ?_) (fun h23 => ?_)
      · replace h := o_f h23 h
        refine go_iconst (pc' := 33) (v := (nI 0)) rfl rfl rfl ?_
        refine go_istore_n (pc' := 34) (lo' := [some (.inr (.inr th)), some (.inl a0), some (.inl a1), some (.inl (nI 0)), none, none]) rfl rfl rfl ?_
        refine go_aload_n (pc' := 35) rfl rfl rfl ?_
        refine go_iload_n (pc' := 36) rfl rfl rfl ?_
        obtain ⟨r_36, q_36, h⟩ := o_b1E h
        refine go_callV (pc' := 39) (B' := (0, 0)) (st' := [.inl r_36]) rfl rfl (Or.inl (by decide)) rfl rfl hth (md_205 (by omega) hth q_36) rfl rfl rfl ?_
        refine go_istore (pc' := 41) (lo' := [some (.inr (.inr th)), some (.inl a0), some (.inl a1), some (.inl (nI 0)), some (.inl r_36), none]) rfl rfl rfl ?_
        refine go_iconst (pc' := 42) (v := (nI 0)) rfl rfl rfl ?_
        refine go_istore (pc' := 44) (lo' := [some (.inr (.inr th)), some (.inl a0), some (.inl a1), some (.inl (nI 0)), some (.inl r_36), some (.inl (nI 0))]) rfl rfl rfl ?_
        obtain ⟨q44, hl44, hc44_102⟩ := o_s1E h
        have ex44_102 : ∀ (w3_102 : Int32) (w4_102 : Int32) (z5_x102 : Option ai_V), (w3_102, w4_102) = q44 → ai_Go si_t (11, false, 0, cd_307) (ai_Cl si_t si_ms e) (sp_Q (some (.inl r)) I1 J Rf G) 102 [some (.inr (.inr th)), some (.inl a0), some (.inl a1), some (.inl w3_102), some (.inl w4_102), z5_x102] [] (0, 0) I J Rf G := by
          intro w3_102 w4_102 z5_x102 hq
          have h : m_307_x44_102 th a0 a1 I Rf G w3_102 w4_102 = some (r, I1) := hc44_102 (w3_102, w4_102) hq.symm
          unfold m_307_x44_102 at h
          refine go_iload_n (pc' := 103) rfl rfl rfl ?_
          refine go_if_ne (pt := 112) (pc' := 106) rfl rfl rfl (fun h103 => ?_) (fun h103 => ?_)
          · replace h := o_f h103 h
            refine go_iload_n (pc' := 113) rfl rfl rfl ?_
            refine go_iconst (pc' := 114) (v := (nI 2)) rfl rfl rfl ?_
            refine go_icmp_ne (pt := 122) (pc' := 117) rfl rfl rfl (fun h114 => ?_) (fun h114 => ?_)
            · replace h := o_f h114 h
              refine go_aload_n (pc' := 123) rfl rfl rfl ?_
              refine go_iload_n (pc' := 124) rfl rfl rfl ?_
              refine go_iload (pc' := 126) rfl rfl rfl ?_
              obtain ⟨r_126, q_126, h⟩ := o_b1E h
              refine go_callV (pc' := 129) (B' := (0, 0)) (st' := [.inl r_126]) rfl rfl (Or.inl (by decide)) rfl rfl hth (md_305 (by omega) hth q_126) rfl rfl rfl ?_
              cases h
              exact go_iret rfl (trivial) ⟨rfl, rfl, rfl, rfl, rfl⟩
            · replace h := o_t (Decidable.of_not_not h114) h
              refine go_iload (pc' := 119) rfl rfl rfl ?_
              refine go_goto (pc' := 129) rfl rfl ?_
              cases h
              exact go_iret rfl (trivial) ⟨rfl, rfl, rfl, rfl, rfl⟩
          · replace h := o_t (Decidable.of_not_not h103) h
            refine go_iload_n (pc' := 107) rfl rfl rfl ?_
            refine go_iconst (pc' := 108) (v := (nI 2)) rfl rfl rfl ?_
            refine go_idiv (pc' := 109) rfl (by decide) rfl ?_
            refine go_goto (pc' := 129) rfl rfl ?_
            cases h
            exact go_iret rfl (trivial) ⟨rfl, rfl, rfl, rfl, rfl⟩
        have lo44 : ∀ n s, lp (fun s => m_307_b44 th a0 I Rf G s.1 s.2.1 s.2.2) n s = some q44 → (fun s => ai_Go si_t (11, false, 0, cd_307) (ai_Cl si_t si_ms e) (sp_Q (some (.inl r)) I1 J Rf G) 44 [some (.inr (.inr th)), some (.inl a0), some (.inl a1), some (.inl s.1), some (.inl s.2.1), some (.inl s.2.2)] [] (0, 0) I J Rf G) s := lp_go (fun s x44 hx hk44 => by
          obtain ⟨v3_44, v4_44, v5_44⟩ := s
          have h : m_307_b44 th a0 I Rf G v3_44 v4_44 v5_44 = some x44 := hx
          clear hx
          show ai_Go si_t (11, false, 0, cd_307) (ai_Cl si_t si_ms e) (sp_Q (some (.inl r)) I1 J Rf G) 44 [some (.inr (.inr th)), some (.inl a0), some (.inl a1), some (.inl v3_44), some (.inl v4_44), some (.inl v5_44)] [] (0, 0) I J Rf G
          unfold m_307_b44 at h
          refine go_iload (pc' := 46) rfl rfl rfl ?_
          refine go_sipush (pc' := 49) (v := (nI 256)) rfl rfl rfl ?_
          refine go_icmp_ge (pt := 102) (pc' := 52) rfl rfl rfl (fun h49 => ?_) (fun h49 => ?_)
          · replace h := o_t h49 h
            exact ex44_102 _ _ (some (.inl v5_44)) (lp_exitE h hk44)
          · replace h := o_f h49 h
            refine go_aload_n (pc' := 53) rfl rfl rfl ?_
            refine go_iload_n (pc' := 54) rfl rfl rfl ?_
            refine go_iload (pc' := 56) rfl rfl rfl ?_
            obtain ⟨r_56, q_56, h⟩ := o_b1E h
            refine go_callV (pc' := 59) (B' := (0, 0)) (st' := [.inl r_56]) rfl rfl (Or.inl (by decide)) rfl rfl hth (md_199 (by omega) hth q_56) rfl rfl rfl ?_
            refine go_if_ne (pt := 65) (pc' := 62) rfl rfl rfl (fun h59 => ?_) (fun h59 => ?_)
            · replace h := o_f h59 h
              refine go_iload_n (pc' := 66) rfl rfl rfl ?_
              refine go_aload_n (pc' := 67) rfl rfl rfl ?_
              refine go_iload_n (pc' := 68) rfl rfl rfl ?_
              refine go_iload (pc' := 70) rfl rfl rfl ?_
              obtain ⟨r_70, q_70, h⟩ := o_b1E h
              refine go_callV (pc' := 73) (B' := (0, 0)) (st' := [.inl r_70, .inl v3_44]) rfl rfl (Or.inl (by decide)) rfl rfl hth (md_305 (by omega) hth q_70) rfl rfl rfl ?_
              refine go_iadd (pc' := 74) rfl rfl ?_
              obtain ⟨x3_74, ex3_74, h⟩ := o_b1E h
              refine go_ndI ex3_74 ?_
              refine go_istore_n (pc' := 75) (lo' := [some (.inr (.inr th)), some (.inl a0), some (.inl a1), some (.inl x3_74), some (.inl v4_44), some (.inl v5_44)]) rfl rfl rfl ?_
              refine go_aload_n (pc' := 76) rfl rfl rfl ?_
              refine go_iload_n (pc' := 77) rfl rfl rfl ?_
              refine go_iload (pc' := 79) rfl rfl rfl ?_
              obtain ⟨r_79, q_79, h⟩ := o_b1E h
              refine go_callV (pc' := 82) (B' := (0, 0)) (st' := [.inl r_79]) rfl rfl (Or.inl (by decide)) rfl rfl hth (md_305 (by omega) hth q_79) rfl rfl rfl ?_
              refine go_aload_n (pc' := 83) rfl rfl rfl ?_
              refine go_iload_n (pc' := 84) rfl rfl rfl ?_
              refine go_iload (pc' := 86) rfl rfl rfl ?_
              obtain ⟨r_86, q_86, h⟩ := o_b1E h
              refine go_callV (pc' := 89) (B' := (0, 0)) (st' := [.inl r_86, .inl r_79]) rfl rfl (Or.inl (by decide)) rfl rfl hth (md_305 (by omega) hth q_86) rfl rfl rfl ?_
              refine go_icmp_le (pt := 96) (pc' := 92) rfl rfl rfl (fun h89 => ?_) (fun h89 => ?_)
              · replace h := o_t h89 h
                obtain ⟨x5_96, ex5_96, h⟩ := o_b1E h
                refine go_iincE (pc' := 99) rfl rfl (y := (nI 1)) rfl ex5_96 (lo' := [some (.inr (.inr th)), some (.inl a0), some (.inl a1), some (.inl x3_74), some (.inl v4_44), some (.inl x5_96)]) rfl rfl ?_
                refine go_goto (pc' := 44) rfl rfl ?_
                exact (lp_backE h hk44 :)
              · replace h := o_f h89 h
                refine go_iload (pc' := 94) rfl rfl rfl ?_
                refine go_istore (pc' := 96) (lo' := [some (.inr (.inr th)), some (.inl a0), some (.inl a1), some (.inl x3_74), some (.inl v5_44), some (.inl v5_44)]) rfl rfl rfl ?_
                obtain ⟨x5_96, ex5_96, h⟩ := o_b1E h
                refine go_iincE (pc' := 99) rfl rfl (y := (nI 1)) rfl ex5_96 (lo' := [some (.inr (.inr th)), some (.inl a0), some (.inl a1), some (.inl x3_74), some (.inl v5_44), some (.inl x5_96)]) rfl rfl ?_
                refine go_goto (pc' := 44) rfl rfl ?_
                exact (lp_backE h hk44 :)
            · replace h := o_t (Decidable.of_not_not h59) h
              refine go_goto (pc' := 96) rfl rfl ?_
              obtain ⟨x5_96, ex5_96, h⟩ := o_b1E h
              refine go_iincE (pc' := 99) rfl rfl (y := (nI 1)) rfl ex5_96 (lo' := [some (.inr (.inr th)), some (.inl a0), some (.inl a1), some (.inl v3_44), some (.inl v4_44), some (.inl x5_96)]) rfl rfl ?_
              refine go_goto (pc' := 44) rfl rfl ?_
              exact (lp_backE h hk44 :))
        exact lo44 _ ((nI 0), r_36, (nI 0)) hl44 
      · replace h := o_t (Decidable.of_not_not h23) h
        refine go_aload_n (pc' := 27) rfl rfl rfl ?_
        refine go_iload_n (pc' := 28) rfl rfl rfl ?_
        obtain ⟨r_28, I_28, q_28, h⟩ := o_b2E h
        refine go_callV (pc' := 31) (B' := (0, 0)) (st' := [.inl r_28]) rfl rfl (Or.inl (by decide)) rfl rfl hth (md_306 (by omega) hth q_28) rfl rfl rfl ?_
        cases h
        exact go_iret rfl (trivial) ⟨rfl, rfl, rfl, rfl, rfl⟩
    · replace h := o_t (Decidable.of_not_not h16) h
      refine go_iconst (pc' := 20) (v := (-1 : Int32)) rfl rfl rfl ?_
      cases h
      exact go_iret rfl (trivial) ⟨rfl, rfl, rfl, rfl, rfl⟩
/-- PricedBasesModel.says(I)V -/
def m_308 (th : Nat) (a0 : Int32) (I : ai_I) (Rf : ai_R) (G : ai_G) : Option (ai_I) :=
  o_g (o_in G 12 (Rf th 29) (I th 30)) (o_b1 (some (va_up I (Rf th 29) (va_up (I (Rf th 29)) (I th 30).toNatClampNeg a0.toInt8.toInt32.toInt8.toInt32))) (fun I_10 => o_b1 (some (va_up I_10 th (va_up (I_10 th) 30 ((I_10 th 30) + (nI 1))))) (fun I_18 => some I_18)))
theorem md_308 {d : Nat} {I : ai_I} {J : ai_J} {Rf : ai_R} {G : ai_G} {th : Nat} {a0 : Int32} {I1 : ai_I} (hd : 1 ≤ d) (hth : G.1 th = 11) (h : m_308 th a0 I Rf G = some I1) : ai_Cl si_t si_ms d 308 [.inr (.inr th), .inl a0] I J Rf G none I1 J Rf G := by
  obtain ⟨e, rfl⟩ : ∃ e, d = e + 1 := ⟨d - 1, by omega⟩
  unfold m_308 at h
  refine sp_in (lo := [some (.inr (.inr th)), some (.inl a0)]) (B := (0, 0)) rfl (Nat.le_of_ble_eq_true rfl) rfl rfl ?_
  refine go_aload_n (pc' := 1) rfl rfl rfl ?_
  refine go_getR (pc' := 4) rfl rfl hth rfl ?_
  refine go_aload_n (pc' := 5) rfl rfl rfl ?_
  refine go_getI (pc' := 8) rfl rfl (by decide) (by decide) hth rfl ?_
  refine go_iload_n (pc' := 9) rfl rfl rfl ?_
  refine go_i2b (pc' := 10) rfl rfl ?_
  obtain ⟨g0, h⟩ := o_gE h
  obtain ⟨I_10, eI_10, h⟩ := o_b1E h
  refine go_bastore (pc' := 11) rfl (o_inK g0) (o_inB g0) rfl ?_
  refine go_ndMI eI_10 ?_
  refine go_aload_n (pc' := 12) rfl rfl rfl ?_
  refine go_aload_n (pc' := 13) rfl rfl rfl ?_
  refine go_getI (pc' := 16) rfl rfl (by decide) (by decide) hth rfl ?_
  refine go_iconst (pc' := 17) (v := (nI 1)) rfl rfl rfl ?_
  refine go_iadd (pc' := 18) rfl rfl ?_
  obtain ⟨I_18, eI_18, h⟩ := o_b1E h
  refine go_putI (pc' := 21) rfl rfl (fun h => by cases h) hth rfl ?_
  refine go_ndMI eI_18 ?_
  cases h
  exact go_vret rfl (rfl) ⟨rfl, rfl, rfl, rfl, rfl⟩
def m_309_x45_70 (Ix_70 : ai_I) : Option (ai_I) :=
  some Ix_70
def m_309_b45 (th : Nat) (Rf : ai_R) (G : ai_G) (t0_26 : Int32) (v3_45 : Int32) (I_45 : ai_I) : Option ((Int32 × ai_I) ⊕ ai_I) :=
  if v3_45 ≤ 0 then (some (Sum.inr I_45)) else (o_g (o_nzI v3_45) (o_b1 (m_308 th ((nI 48) + ((t0_26 / v3_45) - (t0_26 / v3_45) / (nI 10) * (nI 10))) I_45 Rf G) (fun I_59 => o_b1 (some (v3_45 / (nI 10))) (fun x3_66 => some (Sum.inl (x3_66, I_59))))))
def m_309_x29_45 (th : Nat) (Rf : ai_R) (G : ai_G) (I_16 : ai_I) (t0_26 : Int32) (w3_45 : Int32) : Option (ai_I) :=
  o_s1 (lp (fun s => m_309_b45 th Rf G t0_26 s.1 s.2) o_N (w3_45, I_16)) (fun t => m_309_x45_70 t)
def m_309_b29 (t0_26 : Int32) (v3_29 : Int32) : Option (Int32 ⊕ Int32) :=
  o_g (o_nzI v3_29) (if (t0_26 / v3_29) ≤ (nI 9) then (some (Sum.inr v3_29)) else (o_b1 (some (v3_29 * (nI 10))) (fun x3_41 => some (Sum.inl x3_41))))
def m_309_j26 (th : Nat) (Rf : ai_R) (G : ai_G) (I_16 : ai_I) (t0_26 : Int32) : Option (ai_I) :=
  o_s1 (lp (fun s => m_309_b29 t0_26 s) o_N (nI 1)) (fun t => m_309_x29_45 th Rf G I_16 t0_26 t)
def m_309_j16 (th : Nat) (a0 : Int32) (Rf : ai_R) (G : ai_G) (I_16 : ai_I) : Option (ai_I) :=
  if 0 ≤ a0 then (m_309_j26 th Rf G I_16 a0) else (m_309_j26 th Rf G I_16 (-a0))
/-- PricedBasesModel.saysNumber(I)V -/
def m_309 (th : Nat) (a0 : Int32) (I : ai_I) (Rf : ai_R) (G : ai_G) : Option (ai_I) :=
  o_b1 (m_308 th (nI 32) I Rf G) (fun I_3 => if 0 ≤ a0 then (m_309_j16 th a0 Rf G I_3) else (o_b1 (m_308 th (nI 45) I_3 Rf G) (fun I_13 => m_309_j16 th a0 Rf G I_13)))
theorem md_309 {d : Nat} {I : ai_I} {J : ai_J} {Rf : ai_R} {G : ai_G} {th : Nat} {a0 : Int32} {I1 : ai_I} (hd : 2 ≤ d) (hth : G.1 th = 11) (h : m_309 th a0 I Rf G = some I1) : ai_Cl si_t si_ms d 309 [.inr (.inr th), .inl a0] I J Rf G none I1 J Rf G := by
  obtain ⟨e, rfl⟩ : ∃ e, d = e + 1 := ⟨d - 1, by omega⟩
  unfold m_309 at h
  refine sp_in (lo := [some (.inr (.inr th)), some (.inl a0), none, none]) (B := (0, 0)) rfl (Nat.le_of_ble_eq_true rfl) rfl rfl ?_
  refine go_aload_n (pc' := 1) rfl rfl rfl ?_
  refine go_bipush (pc' := 3) (v := (nI 32)) rfl rfl rfl ?_
  obtain ⟨I_3, q_3, h⟩ := o_b1E h
  refine go_callV (pc' := 6) (B' := (0, 0)) (st' := []) rfl rfl (Or.inl (by decide)) rfl rfl hth (md_308 (by omega) hth q_3) rfl rfl rfl ?_
  refine go_iload_n (pc' := 7) rfl rfl rfl ?_
  have jn16 : ∀ (I_16 : ai_I), m_309_j16 th a0 Rf G I_16 = some I1 → ai_Go si_t (11, false, 9, cd_309) (ai_Cl si_t si_ms e) (sp_Q none I1 J Rf G) 16 [some (.inr (.inr th)), some (.inl a0), none, none] [] (0, 0) I_16 J Rf G := by
    intro I_16 h
    unfold m_309_j16 at h
    refine go_iload_n (pc' := 17) rfl rfl rfl ?_
    have jn26 : ∀ (t0_26 : Int32), m_309_j26 th Rf G I_16 t0_26 = some I1 → ai_Go si_t (11, false, 9, cd_309) (ai_Cl si_t si_ms e) (sp_Q none I1 J Rf G) 26 [some (.inr (.inr th)), some (.inl a0), none, none] [.inl t0_26] (0, 0) I_16 J Rf G := by
      intro t0_26 h
      unfold m_309_j26 at h
      refine go_istore_n (pc' := 27) (lo' := [some (.inr (.inr th)), some (.inl a0), some (.inl t0_26), none]) rfl rfl rfl ?_
      refine go_iconst (pc' := 28) (v := (nI 1)) rfl rfl rfl ?_
      refine go_istore_n (pc' := 29) (lo' := [some (.inr (.inr th)), some (.inl a0), some (.inl t0_26), some (.inl (nI 1))]) rfl rfl rfl ?_
      obtain ⟨q29, hl29, hc29_45⟩ := o_s1E h
      have ex29_45 : ∀ (w3_45 : Int32), w3_45 = q29 → ai_Go si_t (11, false, 9, cd_309) (ai_Cl si_t si_ms e) (sp_Q none I1 J Rf G) 45 [some (.inr (.inr th)), some (.inl a0), some (.inl t0_26), some (.inl w3_45)] [] (0, 0) I_16 J Rf G := by
        intro w3_45 hq
        have h : m_309_x29_45 th Rf G I_16 t0_26 w3_45 = some I1 := hc29_45 w3_45 hq.symm
        unfold m_309_x29_45 at h
        obtain ⟨q45, hl45, hc45_70⟩ := o_s1E h
        have ex45_70 : ∀ (Ix_70 : ai_I) (z3_x70 : Option ai_V), Ix_70 = q45 → ai_Go si_t (11, false, 9, cd_309) (ai_Cl si_t si_ms e) (sp_Q none I1 J Rf G) 70 [some (.inr (.inr th)), some (.inl a0), some (.inl t0_26), z3_x70] [] (0, 0) Ix_70 J Rf G := by
          intro Ix_70 z3_x70 hq
          have h : m_309_x45_70 Ix_70 = some I1 := hc45_70 Ix_70 hq.symm
          unfold m_309_x45_70 at h
          cases h
          exact go_vret rfl (rfl) ⟨rfl, rfl, rfl, rfl, rfl⟩
        have lo45 : ∀ n s, lp (fun s => m_309_b45 th Rf G t0_26 s.1 s.2) n s = some q45 → (fun s => ai_Go si_t (11, false, 9, cd_309) (ai_Cl si_t si_ms e) (sp_Q none I1 J Rf G) 45 [some (.inr (.inr th)), some (.inl a0), some (.inl t0_26), some (.inl s.1)] [] (0, 0) s.2 J Rf G) s := lp_go (fun s x45 hx hk45 => by
          obtain ⟨v3_45, I_45⟩ := s
          have h : m_309_b45 th Rf G t0_26 v3_45 I_45 = some x45 := hx
          clear hx
          show ai_Go si_t (11, false, 9, cd_309) (ai_Cl si_t si_ms e) (sp_Q none I1 J Rf G) 45 [some (.inr (.inr th)), some (.inl a0), some (.inl t0_26), some (.inl v3_45)] [] (0, 0) I_45 J Rf G
          unfold m_309_b45 at h
          refine go_iload_n (pc' := 46) rfl rfl rfl ?_
          refine go_if_le (pt := 70) (pc' := 49) rfl rfl rfl (fun h46 => ?_) (fun h46 => ?_)
          · replace h := o_t h46 h
            exact ex45_70 _ (some (.inl v3_45)) (lp_exitE h hk45)
          · replace h := o_f h46 h
            refine go_aload_n (pc' := 50) rfl rfl rfl ?_
            refine go_bipush (pc' := 52) (v := (nI 48)) rfl rfl rfl ?_
            refine go_iload_n (pc' := 53) rfl rfl rfl ?_
            refine go_iload_n (pc' := 54) rfl rfl rfl ?_
            obtain ⟨g0, h⟩ := o_gE h
            refine go_idiv (pc' := 55) rfl (o_nzIE g0) rfl ?_
            refine go_bipush (pc' := 57) (v := (nI 10)) rfl rfl rfl ?_
            refine go_irem (pc' := 58) rfl (by decide) rfl ?_
            refine go_iadd (pc' := 59) rfl rfl ?_
            obtain ⟨I_59, q_59, h⟩ := o_b1E h
            refine go_callV (pc' := 62) (B' := (0, 0)) (st' := []) rfl rfl (Or.inl (by decide)) rfl rfl hth (md_308 (by omega) hth q_59) rfl rfl rfl ?_
            refine go_iload_n (pc' := 63) rfl rfl rfl ?_
            refine go_bipush (pc' := 65) (v := (nI 10)) rfl rfl rfl ?_
            refine go_idiv (pc' := 66) rfl (by decide) rfl ?_
            obtain ⟨x3_66, ex3_66, h⟩ := o_b1E h
            refine go_ndI ex3_66 ?_
            refine go_istore_n (pc' := 67) (lo' := [some (.inr (.inr th)), some (.inl a0), some (.inl t0_26), some (.inl x3_66)]) rfl rfl rfl ?_
            refine go_goto (pc' := 45) rfl rfl ?_
            exact (lp_backE h hk45 :))
        exact lo45 _ (w3_45, I_16) hl45 
      have lo29 : ∀ n s, lp (fun s => m_309_b29 t0_26 s) n s = some q29 → (fun s => ai_Go si_t (11, false, 9, cd_309) (ai_Cl si_t si_ms e) (sp_Q none I1 J Rf G) 29 [some (.inr (.inr th)), some (.inl a0), some (.inl t0_26), some (.inl s)] [] (0, 0) I_16 J Rf G) s := lp_go (fun s x29 hx hk29 => by
        revert s; intro v3_29 hx
        have h : m_309_b29 t0_26 v3_29 = some x29 := hx
        clear hx
        show ai_Go si_t (11, false, 9, cd_309) (ai_Cl si_t si_ms e) (sp_Q none I1 J Rf G) 29 [some (.inr (.inr th)), some (.inl a0), some (.inl t0_26), some (.inl v3_29)] [] (0, 0) I_16 J Rf G
        unfold m_309_b29 at h
        refine go_iload_n (pc' := 30) rfl rfl rfl ?_
        refine go_iload_n (pc' := 31) rfl rfl rfl ?_
        obtain ⟨g1, h⟩ := o_gE h
        refine go_idiv (pc' := 32) rfl (o_nzIE g1) rfl ?_
        refine go_bipush (pc' := 34) (v := (nI 9)) rfl rfl rfl ?_
        refine go_icmp_le (pt := 45) (pc' := 37) rfl rfl rfl (fun h34 => ?_) (fun h34 => ?_)
        · replace h := o_t h34 h
          exact ex29_45 _  (lp_exitE h hk29)
        · replace h := o_f h34 h
          refine go_iload_n (pc' := 38) rfl rfl rfl ?_
          refine go_bipush (pc' := 40) (v := (nI 10)) rfl rfl rfl ?_
          refine go_imul (pc' := 41) rfl rfl ?_
          obtain ⟨x3_41, ex3_41, h⟩ := o_b1E h
          refine go_ndI ex3_41 ?_
          refine go_istore_n (pc' := 42) (lo' := [some (.inr (.inr th)), some (.inl a0), some (.inl t0_26), some (.inl x3_41)]) rfl rfl rfl ?_
          refine go_goto (pc' := 29) rfl rfl ?_
          exact (lp_backE h hk29 :))
      exact lo29 _ (nI 1) hl29 
    refine go_if_ge (pt := 25) (pc' := 20) rfl rfl rfl (fun h17 => ?_) (fun h17 => ?_)
    · replace h := o_t h17 h
      refine go_iload_n (pc' := 26) rfl rfl rfl ?_
      exact jn26 a0 h
    · replace h := o_f h17 h
      refine go_iload_n (pc' := 21) rfl rfl rfl ?_
      refine go_ineg (pc' := 22) rfl rfl ?_
      refine go_goto (pc' := 26) rfl rfl ?_
      exact jn26 (-a0) h
  refine go_if_ge (pt := 16) (pc' := 10) rfl rfl rfl (fun h7 => ?_) (fun h7 => ?_)
  · replace h := o_t h7 h
    exact jn16 I_3 h
  · replace h := o_f h7 h
    refine go_aload_n (pc' := 11) rfl rfl rfl ?_
    refine go_bipush (pc' := 13) (v := (nI 45)) rfl rfl rfl ?_
    obtain ⟨I_13, q_13, h⟩ := o_b1E h
    refine go_callV (pc' := 16) (B' := (0, 0)) (st' := []) rfl rfl (Or.inl (by decide)) rfl rfl hth (md_308 (by omega) hth q_13) rfl rfl rfl ?_
    exact jn16 I_13 h
