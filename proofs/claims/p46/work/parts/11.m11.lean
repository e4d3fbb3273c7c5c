/-! Models of methods and their proofs, piece 11. Printed by wip/p46/pr10.py. -/
def m_132_x26_139 (a0 : Nat) (a1 : Int32) (a2 : Int32) (I : ai_I) (Rf : ai_R) (G : ai_G) (w5_139 : Int32) (w6_139 : Int32) (w7_139 : Int32) (w8_139 : Int32) (w9_139 : Int32) (w10_139 : Int32) : Option (Int32 × ai_I) :=
  if w10_139 = 0 then (some ((nI 0), I)) else (if w5_139 ≤ 0 then (some ((nI 0), I)) else (o_g (o_kd G a0 10) (o_b1 (m_102 a0 a1 w5_139 I Rf G) (fun r_153 => if r_153 = (-4 : Int32) then (o_b2 (m_100 a0 a1 (nI 2) I Rf G) (fun r_164 I_164 => if r_164 = w5_139 then (o_b2 (m_100 a0 a1 (nI 3) I_164 Rf G) (fun r_175 I_175 => if r_175 = w8_139 then (o_b2 (m_100 a0 a1 (nI 4) I_175 Rf G) (fun r_186 I_186 => if r_186 = w9_139 then (o_b2 (m_100 a0 a1 (nI 5) I_186 Rf G) (fun r_197 I_197 => if r_197 = ((((nI 1) <<< (a2 &&& 31)) - (nI 1)) &&& (w6_139 ^^^ (-1 : Int32))) then (o_b2 (m_100 a0 a1 (nI 6) I_197 Rf G) (fun r_217 I_217 => if r_217 = w7_139 then (some ((nI 1), I_217)) else (some ((nI 0), I_217)))) else (some ((nI 0), I_197)))) else (some ((nI 0), I_186)))) else (some ((nI 0), I_175)))) else (some ((nI 0), I_164)))) else (some ((nI 0), I))))))
def m_132_j119 (a4 : Nat) (I : ai_I) (G : ai_G) (v8_26 : Int32) (v11_26 : Int32) (t0_83 : Int32) (x5_85 : Int32) (x6_93 : Int32) (x7_100 : Int32) (t0_119 : Int32) : Option ((Int32 × Int32 × Int32 × Int32 × Int32 × Int32 × Int32) ⊕ (Int32 × Int32 × Int32 × Int32 × Int32 × Int32)) :=
  o_g (o_in G 13 a4 v11_26) (o_b1 (some (if v8_26 < (I a4 v11_26.toNatClampNeg) then (I a4 v11_26.toNatClampNeg) else v8_26)) (fun r_128 => o_b1 (some (v11_26 + (nI 1))) (fun x11_133 => some (Sum.inl (x5_85, x6_93, x7_100, r_128, t0_119, t0_83, x11_133)))))
def m_132_j83 (a4 : Nat) (I : ai_I) (G : ai_G) (v5_26 : Int32) (v6_26 : Int32) (v7_26 : Int32) (v8_26 : Int32) (v9_26 : Int32) (v11_26 : Int32) (t0_83 : Int32) : Option ((Int32 × Int32 × Int32 × Int32 × Int32 × Int32 × Int32) ⊕ (Int32 × Int32 × Int32 × Int32 × Int32 × Int32)) :=
  o_b1 (some (v5_26 + (nI 1))) (fun x5_85 => o_b1 (some (v6_26 ||| v11_26)) (fun x6_93 => o_b1 (some (v7_26 &&& v11_26)) (fun x7_100 => o_g (o_in G 13 a4 v11_26) (if (I a4 v11_26.toNatClampNeg) ≤ v8_26 then (m_132_j119 a4 I G v8_26 v11_26 t0_83 x5_85 x6_93 x7_100 v9_26) else (m_132_j119 a4 I G v8_26 v11_26 t0_83 x5_85 x6_93 x7_100 v11_26)))))
def m_132_j82 (a4 : Nat) (I : ai_I) (G : ai_G) (v5_26 : Int32) (v6_26 : Int32) (v7_26 : Int32) (v8_26 : Int32) (v9_26 : Int32) (v11_26 : Int32) : Option ((Int32 × Int32 × Int32 × Int32 × Int32 × Int32 × Int32) ⊕ (Int32 × Int32 × Int32 × Int32 × Int32 × Int32)) :=
  m_132_j83 a4 I G v5_26 v6_26 v7_26 v8_26 v9_26 v11_26 (nI 0)
def m_132_b26 (a0 : Nat) (a1 : Int32) (a2 : Int32) (a3 : Int32) (a4 : Nat) (I : ai_I) (Rf : ai_R) (G : ai_G) (v5_26 : Int32) (v6_26 : Int32) (v7_26 : Int32) (v8_26 : Int32) (v9_26 : Int32) (v10_26 : Int32) (v11_26 : Int32) : Option ((Int32 × Int32 × Int32 × Int32 × Int32 × Int32 × Int32) ⊕ (Int32 × Int32 × Int32 × Int32 × Int32 × Int32)) :=
  if (nI 256) ≤ v11_26 then (some (Sum.inr (v5_26, v6_26, v7_26, v8_26, v9_26, v10_26))) else (o_b1 (m_126 a4 v11_26 I G) (fun r_38 => if r_38 = 0 then (o_b1 (some (v11_26 + (nI 1))) (fun x11_133 => some (Sum.inl (v5_26, v6_26, v7_26, v8_26, v9_26, v10_26, x11_133)))) else (if v10_26 = 0 then (m_132_j82 a4 I G v5_26 v6_26 v7_26 v8_26 v9_26 v11_26) else (o_g (o_kd G a0 10) (o_b1 (m_102 a0 a1 v5_26 I Rf G) (fun r_53 => if r_53 = v11_26 then (o_b1 (m_115 v11_26) (fun r_63 => if r_63 = a3 then (if ((nI 1) <<< (a2 &&& 31)) ≤ v11_26 then (m_132_j82 a4 I G v5_26 v6_26 v7_26 v8_26 v9_26 v11_26) else (m_132_j83 a4 I G v5_26 v6_26 v7_26 v8_26 v9_26 v11_26 (nI 1))) else (m_132_j82 a4 I G v5_26 v6_26 v7_26 v8_26 v9_26 v11_26))) else (m_132_j82 a4 I G v5_26 v6_26 v7_26 v8_26 v9_26 v11_26)))))))
/-- PricedBasesLaw.bases(LPricedBases;III[I)Z -/
def m_132 (a0 : Nat) (a1 : Int32) (a2 : Int32) (a3 : Int32) (a4 : Nat) (I : ai_I) (Rf : ai_R) (G : ai_G) : Option (Int32 × ai_I) :=
  o_b1 (some (((nI 1) <<< (a2 &&& 31)) - (nI 1))) (fun x7_11 => o_s1 (lp (fun s => m_132_b26 a0 a1 a2 a3 a4 I Rf G s.1 s.2.1 s.2.2.1 s.2.2.2.1 s.2.2.2.2.1 s.2.2.2.2.2.1 s.2.2.2.2.2.2) o_N ((nI 0), (nI 0), x7_11, (-99999999 : Int32), (-1 : Int32), (nI 1), (nI 0))) (fun t => m_132_x26_139 a0 a1 a2 I Rf G t.1 t.2.1 t.2.2.1 t.2.2.2.1 t.2.2.2.2.1 t.2.2.2.2.2))
set_option maxRecDepth 100000 in
theorem md_132 {d : Nat} {I : ai_I} {J : ai_J} {Rf : ai_R} {G : ai_G} {a0 : Nat} {a1 : Int32} {a2 : Int32} {a3 : Int32} {a4 : Nat} {r : Int32} {I1 : ai_I} (hd : 6 ≤ d) (h : m_132 a0 a1 a2 a3 a4 I Rf G = some (r, I1)) : ai_Cl si_t si_ms d 132 [.inr (.inr a0), .inl a1, .inl a2, .inl a3, .inr (.inr a4)] I J Rf G (some (.inl r)) I1 J Rf G := by
  obtain ⟨e, rfl⟩ : ∃ e, d = e + 1 := ⟨d - 1, by omega⟩
  unfold m_132 at h
  refine sp_in (lo := [some (.inr (.inr a0)), some (.inl a1), some (.inl a2), some (.inl a3), some (.inr (.inr a4)), none, none, none, none, none, none, none]) (B := (0, 0)) rfl (Nat.le_of_ble_eq_true rfl) rfl rfl ?_
  refine go_iconst (pc' := 1) (v := (nI 0)) rfl rfl rfl ?_
  refine go_istore (pc' := 3) (lo' := [some (.inr (.inr a0)), some (.inl a1), some (.inl a2), some (.inl a3), some (.inr (.inr a4)), some (.inl (nI 0)), none, none, none, none, none, none]) rfl rfl rfl ?_
  refine go_iconst (pc' := 4) (v := (nI 0)) rfl rfl rfl ?_
  refine go_istore (pc' := 6) (lo' := [some (.inr (.inr a0)), some (.inl a1), some (.inl a2), some (.inl a3), some (.inr (.inr a4)), some (.inl (nI 0)), some (.inl (nI 0)), none, none, none, none, none]) rfl rfl rfl ?_
  refine go_iconst (pc' := 7) (v := (nI 1)) rfl rfl rfl ?_
  refine go_iload_n (pc' := 8) rfl rfl rfl ?_
  refine go_ishl (pc' := 9) rfl rfl ?_
  refine go_iconst (pc' := 10) (v := (nI 1)) rfl rfl rfl ?_
  refine go_isub (pc' := 11) rfl rfl ?_
  obtain ⟨x7_11, ex7_11, h⟩ := o_b1E h
  refine go_ndI ex7_11 ?_
  refine go_istore (pc' := 13) (lo' := [some (.inr (.inr a0)), some (.inl a1), some (.inl a2), some (.inl a3), some (.inr (.inr a4)), some (.inl (nI 0)), some (.inl (nI 0)), some (.inl x7_11), none, none, none, none]) rfl rfl rfl ?_
  refine go_ldc (pc' := 15) (v := .inl (-99999999 : Int32)) rfl rfl rfl ?_
  refine go_istore (pc' := 17) (lo' := [some (.inr (.inr a0)), some (.inl a1), some (.inl a2), some (.inl a3), some (.inr (.inr a4)), some (.inl (nI 0)), some (.inl (nI 0)), some (.inl x7_11), some (.inl (-99999999 : Int32)), none, none, none]) rfl rfl rfl ?_
  refine go_iconst (pc' := 18) (v := (-1 : Int32)) rfl rfl rfl ?_
  refine go_istore (pc' := 20) (lo' := [some (.inr (.inr a0)), some (.inl a1), some (.inl a2), some (.inl a3), some (.inr (.inr a4)), some (.inl (nI 0)), some (.inl (nI 0)), some (.inl x7_11), some (.inl (-99999999 : Int32)), some (.inl (-1 : Int32)), none, none]) rfl rfl rfl ?_
  refine go_iconst (pc' := 21) (v := (nI 1)) rfl rfl rfl ?_
  refine go_istore (pc' := 23) (lo' := [some (.inr (.inr a0)), some (.inl a1), some (.inl a2), some (.inl a3), some (.inr (.inr a4)), some (.inl (nI 0)), some (.inl (nI 0)), some (.inl x7_11), some (.inl (-99999999 : Int32)), some (.inl (-1 : Int32)), some (.inl (nI 1)), none]) rfl rfl rfl ?_
  refine go_iconst (pc' := 24) (v := (nI 0)) rfl rfl rfl ?_
  refine go_istore (pc' := 26) (lo' := [some (.inr (.inr a0)), some (.inl a1), some (.inl a2), some (.inl a3), some (.inr (.inr a4)), some (.inl (nI 0)), some (.inl (nI 0)), some (.inl x7_11), some (.inl (-99999999 : Int32)), some (.inl (-1 : Int32)), some (.inl (nI 1)), some (.inl (nI 0))]) rfl rfl rfl ?_
  obtain ⟨q26, hl26, hc26_139⟩ := o_s1E h
  have ex26_139 : ∀ (w5_139 : Int32) (w6_139 : Int32) (w7_139 : Int32) (w8_139 : Int32) (w9_139 : Int32) (w10_139 : Int32) (z11_x139 : Option ai_V) (h_z11_x139 : ai_isL z11_x139 = false), (w5_139, w6_139, w7_139, w8_139, w9_139, w10_139) = q26 → ai_Go si_t (23, false, 3, cd_132) (ai_Cl si_t si_ms e) (sp_Q (some (.inl r)) I1 J Rf G) 139 [some (.inr (.inr a0)), some (.inl a1), some (.inl a2), some (.inl a3), some (.inr (.inr a4)), some (.inl w5_139), some (.inl w6_139), some (.inl w7_139), some (.inl w8_139), some (.inl w9_139), some (.inl w10_139), z11_x139] [] (0, 0) I J Rf G := by
    intro w5_139 w6_139 w7_139 w8_139 w9_139 w10_139 z11_x139 h_z11_x139 hq
    have h : m_132_x26_139 a0 a1 a2 I Rf G w5_139 w6_139 w7_139 w8_139 w9_139 w10_139 = some (r, I1) := hc26_139 (w5_139, w6_139, w7_139, w8_139, w9_139, w10_139) hq.symm
    unfold m_132_x26_139 at h
    refine go_iload (pc' := 141) rfl rfl rfl ?_
    refine go_if_eq (pt := 229) (pc' := 144) rfl rfl rfl (fun h141 => ?_) (fun h141 => ?_)
    · replace h := o_t h141 h
      refine go_iconst (pc' := 230) (v := (nI 0)) rfl rfl rfl ?_
      cases h
      exact go_iret rfl (rfl) ⟨rfl, rfl, rfl, rfl, rfl⟩
    · replace h := o_f h141 h
      refine go_iload (pc' := 146) rfl rfl rfl ?_
      refine go_if_le (pt := 229) (pc' := 149) rfl rfl rfl (fun h146 => ?_) (fun h146 => ?_)
      · replace h := o_t h146 h
        refine go_iconst (pc' := 230) (v := (nI 0)) rfl rfl rfl ?_
        cases h
        exact go_iret rfl (rfl) ⟨rfl, rfl, rfl, rfl, rfl⟩
      · replace h := o_f h146 h
        refine go_aload_n (pc' := 150) rfl rfl rfl ?_
        refine go_iload_n (pc' := 151) rfl rfl rfl ?_
        refine go_iload (pc' := 153) rfl rfl rfl ?_
        obtain ⟨g0, h⟩ := o_gE h
        obtain ⟨r_153, q_153, h⟩ := o_b1E h
        refine go_callV (pc' := 156) (B' := (0, 0)) (st' := [.inl r_153]) rfl rfl (Or.inl (by decide)) rfl rfl (o_kdE g0) (md_102 (by omega) (o_kdE g0) q_153) rfl rfl rfl ?_
        refine go_bipush (pc' := 158) (v := (-4 : Int32)) rfl rfl rfl ?_
        refine go_icmp_ne (pt := 229) (pc' := 161) rfl rfl rfl (fun h158 => ?_) (fun h158 => ?_)
        · replace h := o_f h158 h
          refine go_iconst (pc' := 230) (v := (nI 0)) rfl rfl rfl ?_
          cases h
          exact go_iret rfl (rfl) ⟨rfl, rfl, rfl, rfl, rfl⟩
        · replace h := o_t (Decidable.of_not_not h158) h
          refine go_aload_n (pc' := 162) rfl rfl rfl ?_
          refine go_iload_n (pc' := 163) rfl rfl rfl ?_
          refine go_iconst (pc' := 164) (v := (nI 2)) rfl rfl rfl ?_
          obtain ⟨r_164, I_164, q_164, h⟩ := o_b2E h
          refine go_callV (pc' := 167) (B' := (0, 0)) (st' := [.inl r_164]) rfl rfl (Or.inl (by decide)) rfl rfl (o_kdE g0) (md_100 (by omega) (o_kdE g0) q_164) rfl rfl rfl ?_
          refine go_iload (pc' := 169) rfl rfl rfl ?_
          refine go_icmp_ne (pt := 229) (pc' := 172) rfl rfl rfl (fun h169 => ?_) (fun h169 => ?_)
          · replace h := o_f h169 h
            refine go_iconst (pc' := 230) (v := (nI 0)) rfl rfl rfl ?_
            cases h
            exact go_iret rfl (rfl) ⟨rfl, rfl, rfl, rfl, rfl⟩
          · replace h := o_t (Decidable.of_not_not h169) h
            refine go_aload_n (pc' := 173) rfl rfl rfl ?_
            refine go_iload_n (pc' := 174) rfl rfl rfl ?_
            refine go_iconst (pc' := 175) (v := (nI 3)) rfl rfl rfl ?_
            obtain ⟨r_175, I_175, q_175, h⟩ := o_b2E h
            refine go_callV (pc' := 178) (B' := (0, 0)) (st' := [.inl r_175]) rfl rfl (Or.inl (by decide)) rfl rfl (o_kdE g0) (md_100 (by omega) (o_kdE g0) q_175) rfl rfl rfl ?_
            refine go_iload (pc' := 180) rfl rfl rfl ?_
            refine go_icmp_ne (pt := 229) (pc' := 183) rfl rfl rfl (fun h180 => ?_) (fun h180 => ?_)
            · replace h := o_f h180 h
              refine go_iconst (pc' := 230) (v := (nI 0)) rfl rfl rfl ?_
              cases h
              exact go_iret rfl (rfl) ⟨rfl, rfl, rfl, rfl, rfl⟩
            · replace h := o_t (Decidable.of_not_not h180) h
              refine go_aload_n (pc' := 184) rfl rfl rfl ?_
              refine go_iload_n (pc' := 185) rfl rfl rfl ?_
              refine go_iconst (pc' := 186) (v := (nI 4)) rfl rfl rfl ?_
              obtain ⟨r_186, I_186, q_186, h⟩ := o_b2E h
              refine go_callV (pc' := 189) (B' := (0, 0)) (st' := [.inl r_186]) rfl rfl (Or.inl (by decide)) rfl rfl (o_kdE g0) (md_100 (by omega) (o_kdE g0) q_186) rfl rfl rfl ?_
              refine go_iload (pc' := 191) rfl rfl rfl ?_
              refine go_icmp_ne (pt := 229) (pc' := 194) rfl rfl rfl (fun h191 => ?_) (fun h191 => ?_)
              · replace h := o_f h191 h
                refine go_iconst (pc' := 230) (v := (nI 0)) rfl rfl rfl ?_
                cases h
                exact go_iret rfl (rfl) ⟨rfl, rfl, rfl, rfl, rfl⟩
              · replace h := o_t (Decidable.of_not_not h191) h
                refine go_aload_n (pc' := 195) rfl rfl rfl ?_
                refine go_iload_n (pc' := 196) rfl rfl rfl ?_
                refine go_iconst (pc' := 197) (v := (nI 5)) rfl rfl rfl ?_
                obtain ⟨r_197, I_197, q_197, h⟩ := o_b2E h
                refine go_callV (pc' := 200) (B' := (0, 0)) (st' := [.inl r_197]) rfl rfl (Or.inl (by decide)) rfl rfl (o_kdE g0) (md_100 (by omega) (o_kdE g0) q_197) rfl rfl rfl ?_
                refine go_iconst (pc' := 201) (v := (nI 1)) rfl rfl rfl ?_
                refine go_iload_n (pc' := 202) rfl rfl rfl ?_
                refine go_ishl (pc' := 203) rfl rfl ?_
                refine go_iconst (pc' := 204) (v := (nI 1)) rfl rfl rfl ?_
                refine go_isub (pc' := 205) rfl rfl ?_
                refine go_iload (pc' := 207) rfl rfl rfl ?_
                refine go_iconst (pc' := 208) (v := (-1 : Int32)) rfl rfl rfl ?_
                refine go_ixor (pc' := 209) rfl rfl ?_
                refine go_iand (pc' := 210) rfl rfl ?_
                refine go_icmp_ne (pt := 229) (pc' := 213) rfl rfl rfl (fun h210 => ?_) (fun h210 => ?_)
                · replace h := o_f h210 h
                  refine go_iconst (pc' := 230) (v := (nI 0)) rfl rfl rfl ?_
                  cases h
                  exact go_iret rfl (rfl) ⟨rfl, rfl, rfl, rfl, rfl⟩
                · replace h := o_t (Decidable.of_not_not h210) h
                  refine go_aload_n (pc' := 214) rfl rfl rfl ?_
                  refine go_iload_n (pc' := 215) rfl rfl rfl ?_
                  refine go_bipush (pc' := 217) (v := (nI 6)) rfl rfl rfl ?_
                  obtain ⟨r_217, I_217, q_217, h⟩ := o_b2E h
                  refine go_callV (pc' := 220) (B' := (0, 0)) (st' := [.inl r_217]) rfl rfl (Or.inl (by decide)) rfl rfl (o_kdE g0) (md_100 (by omega) (o_kdE g0) q_217) rfl rfl rfl ?_
                  refine go_iload (pc' := 222) rfl rfl rfl ?_
                  refine go_icmp_ne (pt := 229) (pc' := 225) rfl rfl rfl (fun h222 => ?_) (fun h222 => ?_)
                  · replace h := o_f h222 h
                    refine go_iconst (pc' := 230) (v := (nI 0)) rfl rfl rfl ?_
                    cases h
                    exact go_iret rfl (rfl) ⟨rfl, rfl, rfl, rfl, rfl⟩
                  · replace h := o_t (Decidable.of_not_not h222) h
                    refine go_iconst (pc' := 226) (v := (nI 1)) rfl rfl rfl ?_
                    refine go_goto (pc' := 230) rfl rfl ?_
                    cases h
                    exact go_iret rfl (rfl) ⟨rfl, rfl, rfl, rfl, rfl⟩
  have lo26 : ∀ n s, lp (fun s => m_132_b26 a0 a1 a2 a3 a4 I Rf G s.1 s.2.1 s.2.2.1 s.2.2.2.1 s.2.2.2.2.1 s.2.2.2.2.2.1 s.2.2.2.2.2.2) n s = some q26 → (fun s => ai_Go si_t (23, false, 3, cd_132) (ai_Cl si_t si_ms e) (sp_Q (some (.inl r)) I1 J Rf G) 26 [some (.inr (.inr a0)), some (.inl a1), some (.inl a2), some (.inl a3), some (.inr (.inr a4)), some (.inl s.1), some (.inl s.2.1), some (.inl s.2.2.1), some (.inl s.2.2.2.1), some (.inl s.2.2.2.2.1), some (.inl s.2.2.2.2.2.1), some (.inl s.2.2.2.2.2.2)] [] (0, 0) I J Rf G) s := lp_go (fun s x26 hx hk26 => by
    obtain ⟨v5_26, v6_26, v7_26, v8_26, v9_26, v10_26, v11_26⟩ := s
    have h : m_132_b26 a0 a1 a2 a3 a4 I Rf G v5_26 v6_26 v7_26 v8_26 v9_26 v10_26 v11_26 = some x26 := hx
    clear hx
    show ai_Go si_t (23, false, 3, cd_132) (ai_Cl si_t si_ms e) (sp_Q (some (.inl r)) I1 J Rf G) 26 [some (.inr (.inr a0)), some (.inl a1), some (.inl a2), some (.inl a3), some (.inr (.inr a4)), some (.inl v5_26), some (.inl v6_26), some (.inl v7_26), some (.inl v8_26), some (.inl v9_26), some (.inl v10_26), some (.inl v11_26)] [] (0, 0) I J Rf G
    unfold m_132_b26 at h
    refine go_iload (pc' := 28) rfl rfl rfl ?_
    refine go_sipush (pc' := 31) (v := (nI 256)) rfl rfl rfl ?_
    refine go_icmp_ge (pt := 139) (pc' := 34) rfl rfl rfl (fun h31 => ?_) (fun h31 => ?_)
    · replace h := o_t h31 h
      exact ex26_139 _ _ _ _ _ _ (some (.inl v11_26)) rfl (lp_exitE h hk26)
    · replace h := o_f h31 h
      refine go_aload (pc' := 36) rfl rfl rfl ?_
      refine go_iload (pc' := 38) rfl rfl rfl ?_
      obtain ⟨r_38, q_38, h⟩ := o_b1E h
      refine go_callS (pc' := 41) (B' := (0, 0)) (st' := [.inl r_38]) rfl rfl (Or.inl (by decide)) rfl rfl trivial (md_126 (by omega) q_38) rfl rfl rfl ?_
      refine go_if_eq (pt := 133) (pc' := 44) rfl rfl rfl (fun h41 => ?_) (fun h41 => ?_)
      · replace h := o_t h41 h
        obtain ⟨x11_133, ex11_133, h⟩ := o_b1E h
        refine go_iincE (pc' := 136) rfl rfl (y := (nI 1)) rfl ex11_133 (lo' := [some (.inr (.inr a0)), some (.inl a1), some (.inl a2), some (.inl a3), some (.inr (.inr a4)), some (.inl v5_26), some (.inl v6_26), some (.inl v7_26), some (.inl v8_26), some (.inl v9_26), some (.inl v10_26), some (.inl x11_133)]) rfl rfl ?_
        refine go_goto (pc' := 26) rfl rfl ?_
        exact (lp_backE h hk26 :)
      · replace h := o_f h41 h
        refine go_iload (pc' := 46) rfl rfl rfl ?_
        have jn83 : ∀ (t0_83 : Int32), m_132_j83 a4 I G v5_26 v6_26 v7_26 v8_26 v9_26 v11_26 t0_83 = some x26 → ai_Go si_t (23, false, 3, cd_132) (ai_Cl si_t si_ms e) (sp_Q (some (.inl r)) I1 J Rf G) 83 [some (.inr (.inr a0)), some (.inl a1), some (.inl a2), some (.inl a3), some (.inr (.inr a4)), some (.inl v5_26), some (.inl v6_26), some (.inl v7_26), some (.inl v8_26), some (.inl v9_26), some (.inl v10_26), some (.inl v11_26)] [.inl t0_83] (0, 0) I J Rf G := by
          intro t0_83 h
          unfold m_132_j83 at h
          refine go_istore (pc' := 85) (lo' := [some (.inr (.inr a0)), some (.inl a1), some (.inl a2), some (.inl a3), some (.inr (.inr a4)), some (.inl v5_26), some (.inl v6_26), some (.inl v7_26), some (.inl v8_26), some (.inl v9_26), some (.inl t0_83), some (.inl v11_26)]) rfl rfl rfl ?_
          obtain ⟨x5_85, ex5_85, h⟩ := o_b1E h
          refine go_iincE (pc' := 88) rfl rfl (y := (nI 1)) rfl ex5_85 (lo' := [some (.inr (.inr a0)), some (.inl a1), some (.inl a2), some (.inl a3), some (.inr (.inr a4)), some (.inl x5_85), some (.inl v6_26), some (.inl v7_26), some (.inl v8_26), some (.inl v9_26), some (.inl t0_83), some (.inl v11_26)]) rfl rfl ?_
          refine go_iload (pc' := 90) rfl rfl rfl ?_
          refine go_iload (pc' := 92) rfl rfl rfl ?_
          refine go_ior (pc' := 93) rfl rfl ?_
          obtain ⟨x6_93, ex6_93, h⟩ := o_b1E h
          refine go_ndI ex6_93 ?_
          refine go_istore (pc' := 95) (lo' := [some (.inr (.inr a0)), some (.inl a1), some (.inl a2), some (.inl a3), some (.inr (.inr a4)), some (.inl x5_85), some (.inl x6_93), some (.inl v7_26), some (.inl v8_26), some (.inl v9_26), some (.inl t0_83), some (.inl v11_26)]) rfl rfl rfl ?_
          refine go_iload (pc' := 97) rfl rfl rfl ?_
          refine go_iload (pc' := 99) rfl rfl rfl ?_
          refine go_iand (pc' := 100) rfl rfl ?_
          obtain ⟨x7_100, ex7_100, h⟩ := o_b1E h
          refine go_ndI ex7_100 ?_
          refine go_istore (pc' := 102) (lo' := [some (.inr (.inr a0)), some (.inl a1), some (.inl a2), some (.inl a3), some (.inr (.inr a4)), some (.inl x5_85), some (.inl x6_93), some (.inl x7_100), some (.inl v8_26), some (.inl v9_26), some (.inl t0_83), some (.inl v11_26)]) rfl rfl rfl ?_
          refine go_aload (pc' := 104) rfl rfl rfl ?_
          refine go_iload (pc' := 106) rfl rfl rfl ?_
          obtain ⟨g1, h⟩ := o_gE h
          refine go_iaload (pc' := 107) rfl (o_inK g1) (o_inB g1) rfl ?_
          refine go_iload (pc' := 109) rfl rfl rfl ?_
          have jn119 : ∀ (t0_119 : Int32), m_132_j119 a4 I G v8_26 v11_26 t0_83 x5_85 x6_93 x7_100 t0_119 = some x26 → ai_Go si_t (23, false, 3, cd_132) (ai_Cl si_t si_ms e) (sp_Q (some (.inl r)) I1 J Rf G) 119 [some (.inr (.inr a0)), some (.inl a1), some (.inl a2), some (.inl a3), some (.inr (.inr a4)), some (.inl x5_85), some (.inl x6_93), some (.inl x7_100), some (.inl v8_26), some (.inl v9_26), some (.inl t0_83), some (.inl v11_26)] [.inl t0_119] (0, 0) I J Rf G := by
            intro t0_119 h
            unfold m_132_j119 at h
            refine go_istore (pc' := 121) (lo' := [some (.inr (.inr a0)), some (.inl a1), some (.inl a2), some (.inl a3), some (.inr (.inr a4)), some (.inl x5_85), some (.inl x6_93), some (.inl x7_100), some (.inl v8_26), some (.inl t0_119), some (.inl t0_83), some (.inl v11_26)]) rfl rfl rfl ?_
            refine go_iload (pc' := 123) rfl rfl rfl ?_
            refine go_aload (pc' := 125) rfl rfl rfl ?_
            refine go_iload (pc' := 127) rfl rfl rfl ?_
            obtain ⟨g2, h⟩ := o_gE h
            refine go_iaload (pc' := 128) rfl (o_inK g2) (o_inB g2) rfl ?_
            refine go_max (pc' := 131) rfl rfl (Nat.le_of_ble_eq_true rfl) rfl ?_
            obtain ⟨r_128, er_128, h⟩ := o_b1E h
            refine go_ndI er_128 ?_
            refine go_istore (pc' := 133) (lo' := [some (.inr (.inr a0)), some (.inl a1), some (.inl a2), some (.inl a3), some (.inr (.inr a4)), some (.inl x5_85), some (.inl x6_93), some (.inl x7_100), some (.inl r_128), some (.inl t0_119), some (.inl t0_83), some (.inl v11_26)]) rfl rfl rfl ?_
            obtain ⟨x11_133, ex11_133, h⟩ := o_b1E h
            refine go_iincE (pc' := 136) rfl rfl (y := (nI 1)) rfl ex11_133 (lo' := [some (.inr (.inr a0)), some (.inl a1), some (.inl a2), some (.inl a3), some (.inr (.inr a4)), some (.inl x5_85), some (.inl x6_93), some (.inl x7_100), some (.inl r_128), some (.inl t0_119), some (.inl t0_83), some (.inl x11_133)]) rfl rfl ?_
            refine go_goto (pc' := 26) rfl rfl ?_
            exact (lp_backE h hk26 :)
          refine go_icmp_le (pt := 117) (pc' := 112) rfl rfl rfl (fun h109 => ?_) (fun h109 => ?_)
          · replace h := o_t h109 h
            refine go_iload (pc' := 119) rfl rfl rfl ?_
            exact jn119 v9_26 h
          · replace h := o_f h109 h
            refine go_iload (pc' := 114) rfl rfl rfl ?_
            refine go_goto (pc' := 119) rfl rfl ?_
            exact jn119 v11_26 h
        have jn82 : m_132_j82 a4 I G v5_26 v6_26 v7_26 v8_26 v9_26 v11_26 = some x26 → ai_Go si_t (23, false, 3, cd_132) (ai_Cl si_t si_ms e) (sp_Q (some (.inl r)) I1 J Rf G) 82 [some (.inr (.inr a0)), some (.inl a1), some (.inl a2), some (.inl a3), some (.inr (.inr a4)), some (.inl v5_26), some (.inl v6_26), some (.inl v7_26), some (.inl v8_26), some (.inl v9_26), some (.inl v10_26), some (.inl v11_26)] [] (0, 0) I J Rf G := by
          intro h
          unfold m_132_j82 at h
          refine go_iconst (pc' := 83) (v := (nI 0)) rfl rfl rfl ?_
          exact jn83 (nI 0) h
        refine go_if_eq (pt := 82) (pc' := 49) rfl rfl rfl (fun h46 => ?_) (fun h46 => ?_)
        · replace h := o_t h46 h
          exact jn82  h
        · replace h := o_f h46 h
          refine go_aload_n (pc' := 50) rfl rfl rfl ?_
          refine go_iload_n (pc' := 51) rfl rfl rfl ?_
          refine go_iload (pc' := 53) rfl rfl rfl ?_
          obtain ⟨g3, h⟩ := o_gE h
          obtain ⟨r_53, q_53, h⟩ := o_b1E h
          refine go_callV (pc' := 56) (B' := (0, 0)) (st' := [.inl r_53]) rfl rfl (Or.inl (by decide)) rfl rfl (o_kdE g3) (md_102 (by omega) (o_kdE g3) q_53) rfl rfl rfl ?_
          refine go_iload (pc' := 58) rfl rfl rfl ?_
          refine go_icmp_ne (pt := 82) (pc' := 61) rfl rfl rfl (fun h58 => ?_) (fun h58 => ?_)
          · replace h := o_f h58 h
            exact jn82  h
          · replace h := o_t (Decidable.of_not_not h58) h
            refine go_iload (pc' := 63) rfl rfl rfl ?_
            obtain ⟨r_63, q_63, h⟩ := o_b1E h
            refine go_callS (pc' := 66) (B' := (0, 0)) (st' := [.inl r_63]) rfl rfl (Or.inl (by decide)) rfl rfl trivial (md_115 (by omega) q_63) rfl rfl rfl ?_
            refine go_iload_n (pc' := 67) rfl rfl rfl ?_
            refine go_icmp_ne (pt := 82) (pc' := 70) rfl rfl rfl (fun h67 => ?_) (fun h67 => ?_)
            · replace h := o_f h67 h
              exact jn82  h
            · replace h := o_t (Decidable.of_not_not h67) h
              refine go_iload (pc' := 72) rfl rfl rfl ?_
              refine go_iconst (pc' := 73) (v := (nI 1)) rfl rfl rfl ?_
              refine go_iload_n (pc' := 74) rfl rfl rfl ?_
              refine go_ishl (pc' := 75) rfl rfl ?_
              refine go_icmp_ge (pt := 82) (pc' := 78) rfl rfl rfl (fun h75 => ?_) (fun h75 => ?_)
              · replace h := o_t h75 h
                exact jn82  h
              · replace h := o_f h75 h
                refine go_iconst (pc' := 79) (v := (nI 1)) rfl rfl rfl ?_
                refine go_goto (pc' := 83) rfl rfl ?_
                exact jn83 (nI 1) h)
  exact lo26 _ ((nI 0), (nI 0), x7_11, (-99999999 : Int32), (-1 : Int32), (nI 1), (nI 0)) hl26 
