/-! The law as a model, with its proof. Printed by wip/p46/pr10.py. -/
def m_133_x108_280 (n_0 : Nat) (w5_280 : Int32) (Ix_280 : ai_I) (Rx_280 : ai_R) (Gx_280 : ai_G) (Bx_280 : Nat × Nat) : Option (Int32) :=
  if w5_280 = 0 then (some (nI 0)) else (o_g (o_kd Gx_280 n_0 10) (o_b2 (m_99 n_0 (nI 8) (nI 0) Ix_280 Rx_280 Gx_280) (fun r_289 I_289 => if r_289 = (-2147483648 : Int32) then (o_b2 (m_99 n_0 (nI 0) (nI 1001) I_289 Rx_280 Gx_280) (fun r_302 I_302 => if r_302 = (-2147483648 : Int32) then (o_b2 (m_100 n_0 (nI 4) (nI 0) I_302 Rx_280 Gx_280) (fun r_313 I_313 => if r_313 = (-2147483648 : Int32) then (o_b2 (m_100 n_0 (nI 0) (nI 13) I_313 Rx_280 Gx_280) (fun r_325 I_325 => if r_325 = (-2147483648 : Int32) then (o_b1 (m_101 n_0 (nI 4) (nI 1) I_325 Rx_280 Gx_280) (fun r_336 => if r_336 = (-2147483648 : Int32) then (o_b1 (m_101 n_0 (nI 0) (nI 256) I_325 Rx_280 Gx_280) (fun r_349 => if r_349 = (-2147483648 : Int32) then (o_b1 (m_101 n_0 (nI 0) (-1 : Int32) I_325 Rx_280 Gx_280) (fun r_360 => if r_360 = (-2147483648 : Int32) then (o_b1 (m_102 n_0 (nI 0) (-1 : Int32) I_325 Rx_280 Gx_280) (fun r_371 => if r_371 = (-1 : Int32) then (o_b2 (m_103 n_0 (nI 0) (-1 : Int32) (nI 0) I_325 Rx_280 Gx_280) (fun r_382 I_382 => if r_382 = (-1 : Int32) then (o_b2 (m_103 n_0 (nI 0) (nI 0) (nI 3) I_382 Rx_280 Gx_280) (fun r_393 I_393 => if r_393 = (-1 : Int32) then (o_b1 (m_104 n_0 (nI 0) (nI 0) (nI 1) (nI 0) I_393 Rx_280 Gx_280) (fun r_405 => if r_405 = (-1 : Int32) then (o_b2 (m_105 n_0 (nI 0) (nI 0) (nI 0) I_393 Rx_280 Gx_280) (fun r_416 I_416 => if r_416 = (-2147483648 : Int32) then (o_b2 (m_106 n_0 (nI 4) I_416 Rx_280 Gx_280) (fun r_426 I_426 => if r_426 = (-1 : Int32) then (o_b2 (m_107 n_0 (nI 0) (nI 3) I_426 Rx_280 Gx_280) (fun r_436 I_436 => if r_436 = (-2147483648 : Int32) then (o_b2 (m_108 n_0 (nI 4) I_436 Rx_280 Gx_280) (fun r_446 I_446 => if r_446 = (-1 : Int32) then (o_b2 (m_109 n_0 (nI 0) (-2 : Int32) I_446 Rx_280 Gx_280) (fun r_457 I_457 => if r_457 = (-1 : Int32) then (o_b2 (m_110 n_0 (nI 0) (nI 2) I_457 Rx_280 Gx_280) (fun r_467 I_467 => if r_467 = (-1 : Int32) then (some (nI 1)) else (some (nI 0)))) else (some (nI 0)))) else (some (nI 0)))) else (some (nI 0)))) else (some (nI 0)))) else (some (nI 0)))) else (some (nI 0)))) else (some (nI 0)))) else (some (nI 0)))) else (some (nI 0)))) else (some (nI 0)))) else (some (nI 0)))) else (some (nI 0)))) else (some (nI 0)))) else (some (nI 0)))) else (some (nI 0)))) else (some (nI 0)))))
def m_133_j134 (n_0 : Nat) (n_9 : Nat) (v5_108 : Int32) (v6_108 : Int32) (I_108 : ai_I) (R_108 : ai_R) (G_108 : ai_G) (B_108 : Nat × Nat) (t3_134 : Int32) : Option ((Int32 × Int32 × ai_I × ai_R × ai_G × Nat × Nat) ⊕ (Int32 × ai_I × ai_R × ai_G × Nat × Nat)) :=
  o_g (o_in G_108 13 n_9 (nI 0)) (o_b1 (some (va_up I_108 n_9 (va_up (I_108 n_9) (nI 0).toNatClampNeg ((I_108 n_9 (nI 0).toNatClampNeg) ^^^ t3_134)))) (fun I_135 => o_b2 (m_118 n_9 I_135 G_108) (fun r_138 I_138 => o_b1 (some ((nI 3) + (r_138 - r_138 / (nI 4) * (nI 4)))) (fun x7_144 => o_b2 (m_118 n_9 I_138 G_108) (fun r_147 I_147 => o_b1 (some (r_147 - r_147 / (nI 4) * (nI 4))) (fun x8_152 => o_b2 (m_118 n_9 I_147 G_108) (fun r_160 I_160 => o_b4 (m_122 n_0 x8_152 x7_144 (r_160 - r_160 / (nI 4) * (nI 4)) n_9 I_160 R_108 G_108) (fun r_166 I_166 R_166 G_166 => o_g (o_bd B_108 16 316) (o_b1 (some ((B_108.1 - 16, B_108.2 - 316) : Nat × Nat)) (fun B_166 => o_b3 (m_125 n_0 n_9 I_166 R_166 G_166) (fun r_173 I_173 G_173 => o_g (o_bd B_166 1 8) (o_b1 (some ((B_166.1 - 1, B_166.2 - 8) : Nat × Nat)) (fun B_173 => o_b3 (m_123 n_0 x8_152 I_173 R_166 G_173) (fun r_181 I_181 G_181 => o_g (o_bd B_173 1 256) (o_b1 (some ((B_173.1 - 1, B_173.2 - 256) : Nat × Nat)) (fun B_181 => if v5_108 = 0 then (o_b1 (some (v6_108 + (nI 1))) (fun x6_274 => some (Sum.inl ((nI 0), x6_274, I_181, R_166, G_181, B_181)))) else (if r_166 ≤ 0 then (o_b1 (some (v6_108 + (nI 1))) (fun x6_274 => some (Sum.inl ((nI 0), x6_274, I_181, R_166, G_181, B_181)))) else (o_b2 (m_132 n_0 x8_152 x7_144 r_166 r_181 I_181 R_166 G_181) (fun r_205 I_205 => if r_205 = 0 then (o_b1 (some (v6_108 + (nI 1))) (fun x6_274 => some (Sum.inl ((nI 0), x6_274, I_205, R_166, G_181, B_181)))) else (o_b2 (m_128 n_0 x8_152 r_181 n_9 I_205 R_166 G_181) (fun r_217 I_217 => if r_217 = 0 then (o_b1 (some (v6_108 + (nI 1))) (fun x6_274 => some (Sum.inl ((nI 0), x6_274, I_217, R_166, G_181, B_181)))) else (o_b3 (m_129 n_0 x8_152 r_181 r_173 I_217 R_166 G_181) (fun r_230 I_230 G_230 => o_g (o_bd B_181 1 256) (o_b1 (some ((B_181.1 - 1, B_181.2 - 256) : Nat × Nat)) (fun B_230 => if r_230 = 0 then (o_b1 (some (v6_108 + (nI 1))) (fun x6_274 => some (Sum.inl ((nI 0), x6_274, I_230, R_166, G_230, B_230)))) else (o_b3 (m_131 n_0 x8_152 x7_144 r_166 r_181 r_173 I_230 R_166 G_230) (fun r_247 I_247 G_247 => o_g (o_bd B_230 24 192) (o_b1 (some ((B_230.1 - 24, B_230.2 - 192) : Nat × Nat)) (fun B_247 => if r_247 = 0 then (o_b1 (some (v6_108 + (nI 1))) (fun x6_274 => some (Sum.inl ((nI 0), x6_274, I_247, R_166, G_247, B_247)))) else (o_g (o_kd G_247 n_0 10) (o_b2 (m_99 n_0 (nI 3) (nI 7) I_247 R_166 G_247) (fun r_257 I_257 => o_g (o_in G_247 13 r_173 (nI 3)) (if r_257 = (I_257 r_173 (nI 3).toNatClampNeg) then (o_b1 (some (v6_108 + (nI 1))) (fun x6_274 => some (Sum.inl ((nI 1), x6_274, I_257, R_166, G_247, B_247)))) else (o_b1 (some (v6_108 + (nI 1))) (fun x6_274 => some (Sum.inl ((nI 0), x6_274, I_257, R_166, G_247, B_247)))))))))))))))))))))))))))))))))))))
def m_133_b108 (n_0 : Nat) (n_9 : Nat) (v5_108 : Int32) (v6_108 : Int32) (I_108 : ai_I) (R_108 : ai_R) (G_108 : ai_G) (B_108 : Nat × Nat) : Option ((Int32 × Int32 × ai_I × ai_R × ai_G × Nat × Nat) ⊕ (Int32 × ai_I × ai_R × ai_G × Nat × Nat)) :=
  if (nI 6) ≤ v6_108 then (some (Sum.inr (v5_108, I_108, R_108, G_108, B_108))) else (o_g (o_in G_108 13 n_9 (nI 0)) (if (Int32.ofNat (G_108.2.1 1999)) ≤ v6_108 then (m_133_j134 n_0 n_9 v5_108 v6_108 I_108 R_108 G_108 B_108 (nI 0)) else (o_g (o_il G_108 v6_108) (m_133_j134 n_0 n_9 v5_108 v6_108 I_108 R_108 G_108 B_108 (I_108 1999 v6_108.toNatClampNeg)))))
def m_133_j103 (n_0 : Nat) (R_4 : ai_R) (n_9 : Nat) (t0_103 : Int32) (I_103 : ai_I) (G_103 : ai_G) (B_103 : Nat × Nat) : Option (Int32) :=
  o_s1 (lp (fun s => m_133_b108 n_0 n_9 s.1 s.2.1 s.2.2.1 s.2.2.2.1 s.2.2.2.2.1 s.2.2.2.2.2) o_N (t0_103, (nI 0), I_103, R_4, G_103, B_103)) (fun t => m_133_x108_280 n_0 t.1 t.2.1 t.2.2.1 t.2.2.2.1 t.2.2.2.2)
def m_133_j102 (n_0 : Nat) (R_4 : ai_R) (n_9 : Nat) (I_102 : ai_I) (G_102 : ai_G) (B_102 : Nat × Nat) : Option (Int32) :=
  m_133_j103 n_0 R_4 n_9 (nI 0) I_102 G_102 B_102
def m_133_j27 (n_0 : Nat) (R_4 : ai_R) (I_9 : ai_I) (G_9 : ai_G) (n_9 : Nat) (B_9 : Nat × Nat) (t3_27 : Int32) : Option (Int32) :=
  o_g (o_in G_9 13 n_9 (nI 0)) (o_b1 (some (va_up I_9 n_9 (va_up (I_9 n_9) (nI 0).toNatClampNeg t3_27))) (fun I_27 => o_g (o_lt9 G_9) (o_g (o_bd B_9 1 8) (o_b1 (some (va_up I_27 (G_9.2.2 + 1) (fun _ => 0))) (fun I_31 => o_b1 (some (va_up G_9.1 (G_9.2.2 + 1) 13, va_up G_9.2.1 (G_9.2.2 + 1) 8, G_9.2.2 + 1)) (fun G_31 => o_b1 (some (G_9.2.2 + 1)) (fun n_31 => o_b1 (some ((B_9.1 - 1, B_9.2 - 8) : Nat × Nat)) (fun B_31 => o_b3 (m_123 n_0 (nI 3) I_31 R_4 G_31) (fun r_36 I_36 G_36 => o_g (o_bd B_31 1 256) (o_b1 (some ((B_31.1 - 1, B_31.2 - 256) : Nat × Nat)) (fun B_36 => o_g (o_kd G_36 n_0 10) (o_b1 (m_111 n_0 (nI 2) I_36 R_4 G_36) (fun r_43 => if r_43 = (nI 8) then (o_b2 (m_132 n_0 (nI 3) (nI 2) (nI 1) r_36 I_36 R_4 G_36) (fun r_57 I_57 => if r_57 = 0 then (m_133_j102 n_0 R_4 n_9 I_57 G_36 B_36) else (o_b2 (m_128 n_0 (nI 3) r_36 n_9 I_57 R_4 G_36) (fun r_68 I_68 => if r_68 = 0 then (m_133_j102 n_0 R_4 n_9 I_68 G_36 B_36) else (o_b3 (m_129 n_0 (nI 3) r_36 n_31 I_68 R_4 G_36) (fun r_79 I_79 G_79 => o_g (o_bd B_36 1 256) (o_b1 (some ((B_36.1 - 1, B_36.2 - 256) : Nat × Nat)) (fun B_79 => if r_79 = 0 then (m_133_j102 n_0 R_4 n_9 I_79 G_79 B_79) else (o_b3 (m_131 n_0 (nI 3) (nI 2) (nI 1) r_36 n_31 I_79 R_4 G_79) (fun r_92 I_92 G_92 => o_g (o_bd B_79 24 192) (o_b1 (some ((B_79.1 - 24, B_79.2 - 192) : Nat × Nat)) (fun B_92 => if r_92 = 0 then (m_133_j102 n_0 R_4 n_9 I_92 G_92 B_92) else (m_133_j103 n_0 R_4 n_9 (nI 1) I_92 G_92 B_92))))))))))))) else (m_133_j102 n_0 R_4 n_9 I_36 G_36 B_36))))))))))))))
/-- PricedBasesLaw.law([I)Z -/
def m_133 (I : ai_I) (J : ai_J) (Rf : ai_R) (G : ai_G) : Option (Int32) :=
  o_b1 (some ((600000, 7302250) : Nat × Nat)) (fun B_00 => o_g (o_lt9 G) (o_g (o_bd B_00 1 15) (o_b1 (some (va_up I (G.2.2 + 1) (fun _ => 0))) (fun I_0 => o_b1 (some (va_up J (G.2.2 + 1) (fun _ => 0))) (fun J_0 => o_b1 (some (va_up Rf (G.2.2 + 1) (fun _ => 0))) (fun R_0 => o_b1 (some (va_up G.1 (G.2.2 + 1) 10, G.2.1, G.2.2 + 1)) (fun G_0 => o_b1 (some (G.2.2 + 1)) (fun n_0 => o_b1 (some ((B_00.1 - 1, B_00.2 - 15) : Nat × Nat)) (fun B_0 => o_b4 (m_94 n_0 I_0 J_0 R_0 G_0) (fun I_4 J_4 R_4 G_4 => o_g (o_bd B_0 73 8836) (o_b1 (some ((B_0.1 - 73, B_0.2 - 8836) : Nat × Nat)) (fun B_4 => o_g (o_lt9 G_4) (o_g (o_bd B_4 1 1) (o_b1 (some (va_up I_4 (G_4.2.2 + 1) (fun _ => 0))) (fun I_9 => o_b1 (some (va_up G_4.1 (G_4.2.2 + 1) 13, va_up G_4.2.1 (G_4.2.2 + 1) 1, G_4.2.2 + 1)) (fun G_9 => o_b1 (some (G_4.2.2 + 1)) (fun n_9 => o_b1 (some ((B_4.1 - 1, B_4.2 - 1) : Nat × Nat)) (fun B_9 => if (Int32.ofNat (G_9.2.1 1999)) = 0 then (m_133_j27 n_0 R_4 I_9 G_9 n_9 B_9 (nI 2095)) else (o_g (o_il G_9 (nI 0)) (m_133_j27 n_0 R_4 I_9 G_9 n_9 B_9 (I_9 1999 (nI 0).toNatClampNeg)))))))))))))))))))))
set_option maxHeartbeats 20000000 in
set_option maxRecDepth 100000 in
theorem md_law {I : ai_I} {J : ai_J} {Rf : ai_R} {G : ai_G} {r : Int32} (h : m_133 I J Rf G = some r) : ai_Go si_t si_F (ai_Cl si_t si_ms 11) (fun v _ _ _ _ => v = some (.inl r)) 0 (ai_ent 12 [.inr (.inr 1999)]) [] (600000, 7302250) I J Rf G := by
  unfold m_133 at h
  show ai_Go si_t si_F (ai_Cl si_t si_ms 11) (fun v _ _ _ _ => v = some (.inl r)) 0 [some (.inr (.inr 1999)), none, none, none, none, none, none, none, none, none, none, none] [] ((600000, 7302250)) I J Rf G
  obtain ⟨B_00, eB_00, h⟩ := o_b1E h
  refine go_ndBs eB_00 ?_
  obtain ⟨g0, h⟩ := o_gE h
  obtain ⟨g1, h⟩ := o_gE h
  refine go_new (pc' := 3) (q := 10) (nf := 15) rfl rfl rfl (o_bdE1 g1) (o_bdE2 g1) (o_lt9E g0) rfl ?_
  obtain ⟨I_0, eI_0, h⟩ := o_b1E h
  obtain ⟨J_0, eJ_0, h⟩ := o_b1E h
  obtain ⟨R_0, eR_0, h⟩ := o_b1E h
  obtain ⟨G_0, eG_0, h⟩ := o_b1E h
  obtain ⟨n_0, en_0, h⟩ := o_b1E h
  refine go_ndMI eI_0 ?_
  refine go_ndMJ eJ_0 ?_
  refine go_ndMR eR_0 ?_
  refine go_ndMG eG_0 ?_
  refine go_ndR en_0 ?_
  have gk_0 : G_0.1 n_0 = 10 := o_newK en_0 eG_0
  obtain ⟨B_0, eB_0, h⟩ := o_b1E h
  refine go_ndBs eB_0 ?_
  refine go_dupR (pc' := 4) rfl rfl ?_
  obtain ⟨I_4, J_4, R_4, G_4, q_4, h⟩ := o_b4E h
  obtain ⟨g2, h⟩ := o_gE h
  obtain ⟨B_4, eB_4, h⟩ := o_b1E h
  refine go_callIb (pc' := 7) (b1 := 73) (b2 := 8836) (st' := [.inr (.inr n_0)]) rfl rfl (Or.inl (by decide)) rfl rfl rfl g2 rfl gk_0 (md_94 (by omega) gk_0 q_4) rfl (o_bdN eB_4) rfl ?_
  refine go_astore_n (pc' := 8) (lo' := [some (.inr (.inr 1999)), some (.inr (.inr n_0)), none, none, none, none, none, none, none, none, none, none]) rfl rfl rfl ?_
  refine go_iconst (pc' := 9) (v := (nI 1)) rfl rfl rfl ?_
  obtain ⟨g3, h⟩ := o_gE h
  obtain ⟨g4, h⟩ := o_gE h
  refine go_newI (pc' := 11) (N := 1) rfl (by decide) (by decide) (o_bdE1 g4) (o_bdE2 g4) (by decide) (o_lt9E g3) rfl ?_
  obtain ⟨I_9, eI_9, h⟩ := o_b1E h
  obtain ⟨G_9, eG_9, h⟩ := o_b1E h
  obtain ⟨n_9, en_9, h⟩ := o_b1E h
  refine go_ndMI eI_9 ?_
  refine go_ndMG eG_9 ?_
  refine go_ndR en_9 ?_
  obtain ⟨B_9, eB_9, h⟩ := o_b1E h
  refine go_ndBs eB_9 ?_
  refine go_dupR (pc' := 12) rfl rfl ?_
  refine go_iconst (pc' := 13) (v := (nI 0)) rfl rfl rfl ?_
  refine go_aload_n (pc' := 14) rfl rfl rfl ?_
  refine go_alen (pc' := 15) (n := G_9.2.1 1999) rfl (Or.inr rfl) rfl rfl ?_
  have jn27 : ∀ (t3_27 : Int32), m_133_j27 n_0 R_4 I_9 G_9 n_9 B_9 t3_27 = some r → ai_Go si_t si_F (ai_Cl si_t si_ms 11) (fun v _ _ _ _ => v = some (.inl r)) 27 [some (.inr (.inr 1999)), some (.inr (.inr n_0)), none, none, none, none, none, none, none, none, none, none] [.inl t3_27, .inl (nI 0), .inr (.inr n_9), .inr (.inr n_9)] B_9 I_9 J_4 R_4 G_9 := by
    intro t3_27 h
    unfold m_133_j27 at h
    obtain ⟨g5, h⟩ := o_gE h
    obtain ⟨I_27, eI_27, h⟩ := o_b1E h
    refine go_iastore (pc' := 28) rfl (o_inK g5) (o_inB g5) rfl ?_
    refine go_ndMI eI_27 ?_
    refine go_astore_n (pc' := 29) (lo' := [some (.inr (.inr 1999)), some (.inr (.inr n_0)), some (.inr (.inr n_9)), none, none, none, none, none, none, none, none, none]) rfl rfl rfl ?_
    refine go_bipush (pc' := 31) (v := (nI 8)) rfl rfl rfl ?_
    obtain ⟨g6, h⟩ := o_gE h
    obtain ⟨g7, h⟩ := o_gE h
    refine go_newI (pc' := 33) (N := 8) rfl (by decide) (by decide) (o_bdE1 g7) (o_bdE2 g7) (by decide) (o_lt9E g6) rfl ?_
    obtain ⟨I_31, eI_31, h⟩ := o_b1E h
    obtain ⟨G_31, eG_31, h⟩ := o_b1E h
    obtain ⟨n_31, en_31, h⟩ := o_b1E h
    refine go_ndMI eI_31 ?_
    refine go_ndMG eG_31 ?_
    refine go_ndR en_31 ?_
    obtain ⟨B_31, eB_31, h⟩ := o_b1E h
    refine go_ndBs eB_31 ?_
    refine go_astore_n (pc' := 34) (lo' := [some (.inr (.inr 1999)), some (.inr (.inr n_0)), some (.inr (.inr n_9)), some (.inr (.inr n_31)), none, none, none, none, none, none, none, none]) rfl rfl rfl ?_
    refine go_aload_n (pc' := 35) rfl rfl rfl ?_
    refine go_iconst (pc' := 36) (v := (nI 3)) rfl rfl rfl ?_
    obtain ⟨r_36, I_36, G_36, q_36, h⟩ := o_b3E h
    obtain ⟨g8, h⟩ := o_gE h
    obtain ⟨B_36, eB_36, h⟩ := o_b1E h
    refine go_callSb (pc' := 39) (b1 := 1) (b2 := 256) (st' := [.inr (.inr r_36)]) rfl rfl (Or.inl (by decide)) rfl rfl rfl g8 rfl trivial (md_123 (by omega) q_36) rfl (o_bdN eB_36) rfl ?_
    refine go_astore (pc' := 41) (lo' := [some (.inr (.inr 1999)), some (.inr (.inr n_0)), some (.inr (.inr n_9)), some (.inr (.inr n_31)), some (.inr (.inr r_36)), none, none, none, none, none, none, none]) rfl rfl rfl ?_
    refine go_aload_n (pc' := 42) rfl rfl rfl ?_
    refine go_iconst (pc' := 43) (v := (nI 2)) rfl rfl rfl ?_
    obtain ⟨g9, h⟩ := o_gE h
    obtain ⟨r_43, q_43, h⟩ := o_b1E h
    refine go_callVb (pc' := 46) (b1 := 0) (b2 := 0) (st' := [.inl r_43]) rfl rfl (Or.inl (by decide)) rfl rfl rfl o_bd0 rfl (o_kdE g9) (md_111 (by omega) (o_kdE g9) q_43) rfl rfl rfl ?_
    refine go_bipush (pc' := 48) (v := (nI 8)) rfl rfl rfl ?_
    have jn103 : ∀ (t0_103 : Int32) (I_103 : ai_I) (G_103 : ai_G) (B_103 : Nat × Nat), m_133_j103 n_0 R_4 n_9 t0_103 I_103 G_103 B_103 = some r → ai_Go si_t si_F (ai_Cl si_t si_ms 11) (fun v _ _ _ _ => v = some (.inl r)) 103 [some (.inr (.inr 1999)), some (.inr (.inr n_0)), some (.inr (.inr n_9)), some (.inr (.inr n_31)), some (.inr (.inr r_36)), none, none, none, none, none, none, none] [.inl t0_103] B_103 I_103 J_4 R_4 G_103 := by
      intro t0_103 I_103 G_103 B_103 h
      unfold m_133_j103 at h
      refine go_istore (pc' := 105) (lo' := [some (.inr (.inr 1999)), some (.inr (.inr n_0)), some (.inr (.inr n_9)), some (.inr (.inr n_31)), some (.inr (.inr r_36)), some (.inl t0_103), none, none, none, none, none, none]) rfl rfl rfl ?_
      refine go_iconst (pc' := 106) (v := (nI 0)) rfl rfl rfl ?_
      refine go_istore (pc' := 108) (lo' := [some (.inr (.inr 1999)), some (.inr (.inr n_0)), some (.inr (.inr n_9)), some (.inr (.inr n_31)), some (.inr (.inr r_36)), some (.inl t0_103), some (.inl (nI 0)), none, none, none, none, none]) rfl rfl rfl ?_
      obtain ⟨q108, hl108, hc108_280⟩ := o_s1E h
      have ex108_280 : ∀ (w5_280 : Int32) (Ix_280 : ai_I) (Rx_280 : ai_R) (Gx_280 : ai_G) (Bx_280 : Nat × Nat) (z6_x280 : Option ai_V) (h_z6_x280 : ai_isL z6_x280 = false) (z7_x280 : Option ai_V) (h_z7_x280 : ai_isL z7_x280 = false) (z8_x280 : Option ai_V) (h_z8_x280 : ai_isL z8_x280 = false) (z9_x280 : Option ai_V) (h_z9_x280 : ai_isL z9_x280 = false) (z10_x280 : Option ai_V) (h_z10_x280 : ai_isL z10_x280 = false) (z11_x280 : Option ai_V) (h_z11_x280 : ai_isL z11_x280 = false), (w5_280, Ix_280, Rx_280, Gx_280, Bx_280) = q108 → ai_Go si_t si_F (ai_Cl si_t si_ms 11) (fun v _ _ _ _ => v = some (.inl r)) 280 [some (.inr (.inr 1999)), some (.inr (.inr n_0)), some (.inr (.inr n_9)), some (.inr (.inr n_31)), some (.inr (.inr r_36)), some (.inl w5_280), z6_x280, z7_x280, z8_x280, z9_x280, z10_x280, z11_x280] [] Bx_280 Ix_280 J_4 Rx_280 Gx_280 := by
        intro w5_280 Ix_280 Rx_280 Gx_280 Bx_280 z6_x280 h_z6_x280 z7_x280 h_z7_x280 z8_x280 h_z8_x280 z9_x280 h_z9_x280 z10_x280 h_z10_x280 z11_x280 h_z11_x280 hq
        have h : m_133_x108_280 n_0 w5_280 Ix_280 Rx_280 Gx_280 Bx_280 = some r := hc108_280 (w5_280, Ix_280, Rx_280, Gx_280, Bx_280) hq.symm
        unfold m_133_x108_280 at h
        refine go_iload (pc' := 282) rfl rfl rfl ?_
        refine go_if_eq (pt := 478) (pc' := 285) rfl rfl rfl (fun h282 => ?_) (fun h282 => ?_)
        · replace h := o_t h282 h
          refine go_iconst (pc' := 479) (v := (nI 0)) rfl rfl rfl ?_
          cases h
          exact go_iret rfl (rfl) rfl
        · replace h := o_f h282 h
          refine go_aload_n (pc' := 286) rfl rfl rfl ?_
          refine go_bipush (pc' := 288) (v := (nI 8)) rfl rfl rfl ?_
          refine go_iconst (pc' := 289) (v := (nI 0)) rfl rfl rfl ?_
          obtain ⟨g10, h⟩ := o_gE h
          obtain ⟨r_289, I_289, q_289, h⟩ := o_b2E h
          refine go_callVb (pc' := 292) (b1 := 0) (b2 := 0) (st' := [.inl r_289]) rfl rfl (Or.inl (by decide)) rfl rfl rfl o_bd0 rfl (o_kdE g10) (md_99 (by omega) (o_kdE g10) q_289) rfl rfl rfl ?_
          refine go_ldc (pc' := 294) (v := .inl (-2147483648 : Int32)) rfl rfl rfl ?_
          refine go_icmp_ne (pt := 478) (pc' := 297) rfl rfl rfl (fun h294 => ?_) (fun h294 => ?_)
          · replace h := o_f h294 h
            refine go_iconst (pc' := 479) (v := (nI 0)) rfl rfl rfl ?_
            cases h
            exact go_iret rfl (rfl) rfl
          · replace h := o_t (Decidable.of_not_not h294) h
            refine go_aload_n (pc' := 298) rfl rfl rfl ?_
            refine go_iconst (pc' := 299) (v := (nI 0)) rfl rfl rfl ?_
            refine go_sipush (pc' := 302) (v := (nI 1001)) rfl rfl rfl ?_
            obtain ⟨r_302, I_302, q_302, h⟩ := o_b2E h
            refine go_callVb (pc' := 305) (b1 := 0) (b2 := 0) (st' := [.inl r_302]) rfl rfl (Or.inl (by decide)) rfl rfl rfl o_bd0 rfl (o_kdE g10) (md_99 (by omega) (o_kdE g10) q_302) rfl rfl rfl ?_
            refine go_ldc (pc' := 307) (v := .inl (-2147483648 : Int32)) rfl rfl rfl ?_
            refine go_icmp_ne (pt := 478) (pc' := 310) rfl rfl rfl (fun h307 => ?_) (fun h307 => ?_)
            · replace h := o_f h307 h
              refine go_iconst (pc' := 479) (v := (nI 0)) rfl rfl rfl ?_
              cases h
              exact go_iret rfl (rfl) rfl
            · replace h := o_t (Decidable.of_not_not h307) h
              refine go_aload_n (pc' := 311) rfl rfl rfl ?_
              refine go_iconst (pc' := 312) (v := (nI 4)) rfl rfl rfl ?_
              refine go_iconst (pc' := 313) (v := (nI 0)) rfl rfl rfl ?_
              obtain ⟨r_313, I_313, q_313, h⟩ := o_b2E h
              refine go_callVb (pc' := 316) (b1 := 0) (b2 := 0) (st' := [.inl r_313]) rfl rfl (Or.inl (by decide)) rfl rfl rfl o_bd0 rfl (o_kdE g10) (md_100 (by omega) (o_kdE g10) q_313) rfl rfl rfl ?_
              refine go_ldc (pc' := 318) (v := .inl (-2147483648 : Int32)) rfl rfl rfl ?_
              refine go_icmp_ne (pt := 478) (pc' := 321) rfl rfl rfl (fun h318 => ?_) (fun h318 => ?_)
              · replace h := o_f h318 h
                refine go_iconst (pc' := 479) (v := (nI 0)) rfl rfl rfl ?_
                cases h
                exact go_iret rfl (rfl) rfl
              · replace h := o_t (Decidable.of_not_not h318) h
                refine go_aload_n (pc' := 322) rfl rfl rfl ?_
                refine go_iconst (pc' := 323) (v := (nI 0)) rfl rfl rfl ?_
                refine go_bipush (pc' := 325) (v := (nI 13)) rfl rfl rfl ?_
                obtain ⟨r_325, I_325, q_325, h⟩ := o_b2E h
                refine go_callVb (pc' := 328) (b1 := 0) (b2 := 0) (st' := [.inl r_325]) rfl rfl (Or.inl (by decide)) rfl rfl rfl o_bd0 rfl (o_kdE g10) (md_100 (by omega) (o_kdE g10) q_325) rfl rfl rfl ?_
                refine go_ldc (pc' := 330) (v := .inl (-2147483648 : Int32)) rfl rfl rfl ?_
                refine go_icmp_ne (pt := 478) (pc' := 333) rfl rfl rfl (fun h330 => ?_) (fun h330 => ?_)
                · replace h := o_f h330 h
                  refine go_iconst (pc' := 479) (v := (nI 0)) rfl rfl rfl ?_
                  cases h
                  exact go_iret rfl (rfl) rfl
                · replace h := o_t (Decidable.of_not_not h330) h
                  refine go_aload_n (pc' := 334) rfl rfl rfl ?_
                  refine go_iconst (pc' := 335) (v := (nI 4)) rfl rfl rfl ?_
                  refine go_iconst (pc' := 336) (v := (nI 1)) rfl rfl rfl ?_
                  obtain ⟨r_336, q_336, h⟩ := o_b1E h
                  refine go_callVb (pc' := 339) (b1 := 0) (b2 := 0) (st' := [.inl r_336]) rfl rfl (Or.inl (by decide)) rfl rfl rfl o_bd0 rfl (o_kdE g10) (md_101 (by omega) (o_kdE g10) q_336) rfl rfl rfl ?_
                  refine go_ldc (pc' := 341) (v := .inl (-2147483648 : Int32)) rfl rfl rfl ?_
                  refine go_icmp_ne (pt := 478) (pc' := 344) rfl rfl rfl (fun h341 => ?_) (fun h341 => ?_)
                  · replace h := o_f h341 h
                    refine go_iconst (pc' := 479) (v := (nI 0)) rfl rfl rfl ?_
                    cases h
                    exact go_iret rfl (rfl) rfl
                  · replace h := o_t (Decidable.of_not_not h341) h
                    refine go_aload_n (pc' := 345) rfl rfl rfl ?_
                    refine go_iconst (pc' := 346) (v := (nI 0)) rfl rfl rfl ?_
                    refine go_sipush (pc' := 349) (v := (nI 256)) rfl rfl rfl ?_
                    obtain ⟨r_349, q_349, h⟩ := o_b1E h
                    refine go_callVb (pc' := 352) (b1 := 0) (b2 := 0) (st' := [.inl r_349]) rfl rfl (Or.inl (by decide)) rfl rfl rfl o_bd0 rfl (o_kdE g10) (md_101 (by omega) (o_kdE g10) q_349) rfl rfl rfl ?_
                    refine go_ldc (pc' := 354) (v := .inl (-2147483648 : Int32)) rfl rfl rfl ?_
                    refine go_icmp_ne (pt := 478) (pc' := 357) rfl rfl rfl (fun h354 => ?_) (fun h354 => ?_)
                    · replace h := o_f h354 h
                      refine go_iconst (pc' := 479) (v := (nI 0)) rfl rfl rfl ?_
                      cases h
                      exact go_iret rfl (rfl) rfl
                    · replace h := o_t (Decidable.of_not_not h354) h
                      refine go_aload_n (pc' := 358) rfl rfl rfl ?_
                      refine go_iconst (pc' := 359) (v := (nI 0)) rfl rfl rfl ?_
                      refine go_iconst (pc' := 360) (v := (-1 : Int32)) rfl rfl rfl ?_
                      obtain ⟨r_360, q_360, h⟩ := o_b1E h
                      refine go_callVb (pc' := 363) (b1 := 0) (b2 := 0) (st' := [.inl r_360]) rfl rfl (Or.inl (by decide)) rfl rfl rfl o_bd0 rfl (o_kdE g10) (md_101 (by omega) (o_kdE g10) q_360) rfl rfl rfl ?_
                      refine go_ldc (pc' := 365) (v := .inl (-2147483648 : Int32)) rfl rfl rfl ?_
                      refine go_icmp_ne (pt := 478) (pc' := 368) rfl rfl rfl (fun h365 => ?_) (fun h365 => ?_)
                      · replace h := o_f h365 h
                        refine go_iconst (pc' := 479) (v := (nI 0)) rfl rfl rfl ?_
                        cases h
                        exact go_iret rfl (rfl) rfl
                      · replace h := o_t (Decidable.of_not_not h365) h
                        refine go_aload_n (pc' := 369) rfl rfl rfl ?_
                        refine go_iconst (pc' := 370) (v := (nI 0)) rfl rfl rfl ?_
                        refine go_iconst (pc' := 371) (v := (-1 : Int32)) rfl rfl rfl ?_
                        obtain ⟨r_371, q_371, h⟩ := o_b1E h
                        refine go_callVb (pc' := 374) (b1 := 0) (b2 := 0) (st' := [.inl r_371]) rfl rfl (Or.inl (by decide)) rfl rfl rfl o_bd0 rfl (o_kdE g10) (md_102 (by omega) (o_kdE g10) q_371) rfl rfl rfl ?_
                        refine go_iconst (pc' := 375) (v := (-1 : Int32)) rfl rfl rfl ?_
                        refine go_icmp_ne (pt := 478) (pc' := 378) rfl rfl rfl (fun h375 => ?_) (fun h375 => ?_)
                        · replace h := o_f h375 h
                          refine go_iconst (pc' := 479) (v := (nI 0)) rfl rfl rfl ?_
                          cases h
                          exact go_iret rfl (rfl) rfl
                        · replace h := o_t (Decidable.of_not_not h375) h
                          refine go_aload_n (pc' := 379) rfl rfl rfl ?_
                          refine go_iconst (pc' := 380) (v := (nI 0)) rfl rfl rfl ?_
                          refine go_iconst (pc' := 381) (v := (-1 : Int32)) rfl rfl rfl ?_
                          refine go_iconst (pc' := 382) (v := (nI 0)) rfl rfl rfl ?_
                          obtain ⟨r_382, I_382, q_382, h⟩ := o_b2E h
                          refine go_callVb (pc' := 385) (b1 := 0) (b2 := 0) (st' := [.inl r_382]) rfl rfl (Or.inl (by decide)) rfl rfl rfl o_bd0 rfl (o_kdE g10) (md_103 (by omega) (o_kdE g10) q_382) rfl rfl rfl ?_
                          refine go_iconst (pc' := 386) (v := (-1 : Int32)) rfl rfl rfl ?_
                          refine go_icmp_ne (pt := 478) (pc' := 389) rfl rfl rfl (fun h386 => ?_) (fun h386 => ?_)
                          · replace h := o_f h386 h
                            refine go_iconst (pc' := 479) (v := (nI 0)) rfl rfl rfl ?_
                            cases h
                            exact go_iret rfl (rfl) rfl
                          · replace h := o_t (Decidable.of_not_not h386) h
                            refine go_aload_n (pc' := 390) rfl rfl rfl ?_
                            refine go_iconst (pc' := 391) (v := (nI 0)) rfl rfl rfl ?_
                            refine go_iconst (pc' := 392) (v := (nI 0)) rfl rfl rfl ?_
                            refine go_iconst (pc' := 393) (v := (nI 3)) rfl rfl rfl ?_
                            obtain ⟨r_393, I_393, q_393, h⟩ := o_b2E h
                            refine go_callVb (pc' := 396) (b1 := 0) (b2 := 0) (st' := [.inl r_393]) rfl rfl (Or.inl (by decide)) rfl rfl rfl o_bd0 rfl (o_kdE g10) (md_103 (by omega) (o_kdE g10) q_393) rfl rfl rfl ?_
                            refine go_iconst (pc' := 397) (v := (-1 : Int32)) rfl rfl rfl ?_
                            refine go_icmp_ne (pt := 478) (pc' := 400) rfl rfl rfl (fun h397 => ?_) (fun h397 => ?_)
                            · replace h := o_f h397 h
                              refine go_iconst (pc' := 479) (v := (nI 0)) rfl rfl rfl ?_
                              cases h
                              exact go_iret rfl (rfl) rfl
                            · replace h := o_t (Decidable.of_not_not h397) h
                              refine go_aload_n (pc' := 401) rfl rfl rfl ?_
                              refine go_iconst (pc' := 402) (v := (nI 0)) rfl rfl rfl ?_
                              refine go_iconst (pc' := 403) (v := (nI 0)) rfl rfl rfl ?_
                              refine go_iconst (pc' := 404) (v := (nI 1)) rfl rfl rfl ?_
                              refine go_iconst (pc' := 405) (v := (nI 0)) rfl rfl rfl ?_
                              obtain ⟨r_405, q_405, h⟩ := o_b1E h
                              refine go_callVb (pc' := 408) (b1 := 0) (b2 := 0) (st' := [.inl r_405]) rfl rfl (Or.inl (by decide)) rfl rfl rfl o_bd0 rfl (o_kdE g10) (md_104 (by omega) (o_kdE g10) q_405) rfl rfl rfl ?_
                              refine go_iconst (pc' := 409) (v := (-1 : Int32)) rfl rfl rfl ?_
                              refine go_icmp_ne (pt := 478) (pc' := 412) rfl rfl rfl (fun h409 => ?_) (fun h409 => ?_)
                              · replace h := o_f h409 h
                                refine go_iconst (pc' := 479) (v := (nI 0)) rfl rfl rfl ?_
                                cases h
                                exact go_iret rfl (rfl) rfl
                              · replace h := o_t (Decidable.of_not_not h409) h
                                refine go_aload_n (pc' := 413) rfl rfl rfl ?_
                                refine go_iconst (pc' := 414) (v := (nI 0)) rfl rfl rfl ?_
                                refine go_iconst (pc' := 415) (v := (nI 0)) rfl rfl rfl ?_
                                refine go_iconst (pc' := 416) (v := (nI 0)) rfl rfl rfl ?_
                                obtain ⟨r_416, I_416, q_416, h⟩ := o_b2E h
                                refine go_callVb (pc' := 419) (b1 := 0) (b2 := 0) (st' := [.inl r_416]) rfl rfl (Or.inl (by decide)) rfl rfl rfl o_bd0 rfl (o_kdE g10) (md_105 (by omega) (o_kdE g10) q_416) rfl rfl rfl ?_
                                refine go_ldc (pc' := 421) (v := .inl (-2147483648 : Int32)) rfl rfl rfl ?_
                                refine go_icmp_ne (pt := 478) (pc' := 424) rfl rfl rfl (fun h421 => ?_) (fun h421 => ?_)
                                · replace h := o_f h421 h
                                  refine go_iconst (pc' := 479) (v := (nI 0)) rfl rfl rfl ?_
                                  cases h
                                  exact go_iret rfl (rfl) rfl
                                · replace h := o_t (Decidable.of_not_not h421) h
                                  refine go_aload_n (pc' := 425) rfl rfl rfl ?_
                                  refine go_iconst (pc' := 426) (v := (nI 4)) rfl rfl rfl ?_
                                  obtain ⟨r_426, I_426, q_426, h⟩ := o_b2E h
                                  refine go_callVb (pc' := 429) (b1 := 0) (b2 := 0) (st' := [.inl r_426]) rfl rfl (Or.inl (by decide)) rfl rfl rfl o_bd0 rfl (o_kdE g10) (md_106 (by omega) (o_kdE g10) q_426) rfl rfl rfl ?_
                                  refine go_iconst (pc' := 430) (v := (-1 : Int32)) rfl rfl rfl ?_
                                  refine go_icmp_ne (pt := 478) (pc' := 433) rfl rfl rfl (fun h430 => ?_) (fun h430 => ?_)
                                  · replace h := o_f h430 h
                                    refine go_iconst (pc' := 479) (v := (nI 0)) rfl rfl rfl ?_
                                    cases h
                                    exact go_iret rfl (rfl) rfl
                                  · replace h := o_t (Decidable.of_not_not h430) h
                                    refine go_aload_n (pc' := 434) rfl rfl rfl ?_
                                    refine go_iconst (pc' := 435) (v := (nI 0)) rfl rfl rfl ?_
                                    refine go_iconst (pc' := 436) (v := (nI 3)) rfl rfl rfl ?_
                                    obtain ⟨r_436, I_436, q_436, h⟩ := o_b2E h
                                    refine go_callVb (pc' := 439) (b1 := 0) (b2 := 0) (st' := [.inl r_436]) rfl rfl (Or.inl (by decide)) rfl rfl rfl o_bd0 rfl (o_kdE g10) (md_107 (by omega) (o_kdE g10) q_436) rfl rfl rfl ?_
                                    refine go_ldc (pc' := 441) (v := .inl (-2147483648 : Int32)) rfl rfl rfl ?_
                                    refine go_icmp_ne (pt := 478) (pc' := 444) rfl rfl rfl (fun h441 => ?_) (fun h441 => ?_)
                                    · replace h := o_f h441 h
                                      refine go_iconst (pc' := 479) (v := (nI 0)) rfl rfl rfl ?_
                                      cases h
                                      exact go_iret rfl (rfl) rfl
                                    · replace h := o_t (Decidable.of_not_not h441) h
                                      refine go_aload_n (pc' := 445) rfl rfl rfl ?_
                                      refine go_iconst (pc' := 446) (v := (nI 4)) rfl rfl rfl ?_
                                      obtain ⟨r_446, I_446, q_446, h⟩ := o_b2E h
                                      refine go_callVb (pc' := 449) (b1 := 0) (b2 := 0) (st' := [.inl r_446]) rfl rfl (Or.inl (by decide)) rfl rfl rfl o_bd0 rfl (o_kdE g10) (md_108 (by omega) (o_kdE g10) q_446) rfl rfl rfl ?_
                                      refine go_iconst (pc' := 450) (v := (-1 : Int32)) rfl rfl rfl ?_
                                      refine go_icmp_ne (pt := 478) (pc' := 453) rfl rfl rfl (fun h450 => ?_) (fun h450 => ?_)
                                      · replace h := o_f h450 h
                                        refine go_iconst (pc' := 479) (v := (nI 0)) rfl rfl rfl ?_
                                        cases h
                                        exact go_iret rfl (rfl) rfl
                                      · replace h := o_t (Decidable.of_not_not h450) h
                                        refine go_aload_n (pc' := 454) rfl rfl rfl ?_
                                        refine go_iconst (pc' := 455) (v := (nI 0)) rfl rfl rfl ?_
                                        refine go_bipush (pc' := 457) (v := (-2 : Int32)) rfl rfl rfl ?_
                                        obtain ⟨r_457, I_457, q_457, h⟩ := o_b2E h
                                        refine go_callVb (pc' := 460) (b1 := 0) (b2 := 0) (st' := [.inl r_457]) rfl rfl (Or.inl (by decide)) rfl rfl rfl o_bd0 rfl (o_kdE g10) (md_109 (by omega) (o_kdE g10) q_457) rfl rfl rfl ?_
                                        refine go_iconst (pc' := 461) (v := (-1 : Int32)) rfl rfl rfl ?_
                                        refine go_icmp_ne (pt := 478) (pc' := 464) rfl rfl rfl (fun h461 => ?_) (fun h461 => ?_)
                                        · replace h := o_f h461 h
                                          refine go_iconst (pc' := 479) (v := (nI 0)) rfl rfl rfl ?_
                                          cases h
                                          exact go_iret rfl (rfl) rfl
                                        · replace h := o_t (Decidable.of_not_not h461) h
                                          refine go_aload_n (pc' := 465) rfl rfl rfl ?_
                                          refine go_iconst (pc' := 466) (v := (nI 0)) rfl rfl rfl ?_
                                          refine go_iconst (pc' := 467) (v := (nI 2)) rfl rfl rfl ?_
                                          obtain ⟨r_467, I_467, q_467, h⟩ := o_b2E h
                                          refine go_callVb (pc' := 470) (b1 := 0) (b2 := 0) (st' := [.inl r_467]) rfl rfl (Or.inl (by decide)) rfl rfl rfl o_bd0 rfl (o_kdE g10) (md_110 (by omega) (o_kdE g10) q_467) rfl rfl rfl ?_
                                          refine go_iconst (pc' := 471) (v := (-1 : Int32)) rfl rfl rfl ?_
                                          refine go_icmp_ne (pt := 478) (pc' := 474) rfl rfl rfl (fun h471 => ?_) (fun h471 => ?_)
                                          · replace h := o_f h471 h
                                            refine go_iconst (pc' := 479) (v := (nI 0)) rfl rfl rfl ?_
                                            cases h
                                            exact go_iret rfl (rfl) rfl
                                          · replace h := o_t (Decidable.of_not_not h471) h
                                            refine go_iconst (pc' := 475) (v := (nI 1)) rfl rfl rfl ?_
                                            refine go_goto (pc' := 479) rfl rfl ?_
                                            cases h
                                            exact go_iret rfl (rfl) rfl
      have lo108 : ∀ n s, lp (fun s => m_133_b108 n_0 n_9 s.1 s.2.1 s.2.2.1 s.2.2.2.1 s.2.2.2.2.1 s.2.2.2.2.2) n s = some q108 → (fun s => ∀ (z7_108 : Option ai_V) (h_z7_108 : ai_isL z7_108 = false) (z8_108 : Option ai_V) (h_z8_108 : ai_isL z8_108 = false) (z9_108 : Option ai_V) (h_z9_108 : ai_isL z9_108 = false) (z10_108 : Option ai_V) (h_z10_108 : ai_isL z10_108 = false) (z11_108 : Option ai_V) (h_z11_108 : ai_isL z11_108 = false), ai_Go si_t si_F (ai_Cl si_t si_ms 11) (fun v _ _ _ _ => v = some (.inl r)) 108 [some (.inr (.inr 1999)), some (.inr (.inr n_0)), some (.inr (.inr n_9)), some (.inr (.inr n_31)), some (.inr (.inr r_36)), some (.inl s.1), some (.inl s.2.1), z7_108, z8_108, z9_108, z10_108, z11_108] [] s.2.2.2.2.2 s.2.2.1 J_4 s.2.2.2.1 s.2.2.2.2.1) s := lp_go (fun s x108 hx hk108 => by
        obtain ⟨v5_108, v6_108, I_108, R_108, G_108, B_108⟩ := s
        intro z7_108 h_z7_108 z8_108 h_z8_108 z9_108 h_z9_108 z10_108 h_z10_108 z11_108 h_z11_108
        have h : m_133_b108 n_0 n_9 v5_108 v6_108 I_108 R_108 G_108 B_108 = some x108 := hx
        clear hx
        show ai_Go si_t si_F (ai_Cl si_t si_ms 11) (fun v _ _ _ _ => v = some (.inl r)) 108 [some (.inr (.inr 1999)), some (.inr (.inr n_0)), some (.inr (.inr n_9)), some (.inr (.inr n_31)), some (.inr (.inr r_36)), some (.inl v5_108), some (.inl v6_108), z7_108, z8_108, z9_108, z10_108, z11_108] [] B_108 I_108 J_4 R_108 G_108
        unfold m_133_b108 at h
        refine go_iload (pc' := 110) rfl rfl rfl ?_
        refine go_bipush (pc' := 112) (v := (nI 6)) rfl rfl rfl ?_
        refine go_icmp_ge (pt := 280) (pc' := 115) rfl rfl rfl (fun h112 => ?_) (fun h112 => ?_)
        · replace h := o_t h112 h
          exact ex108_280 _ _ _ _ _ (some (.inl v6_108)) rfl z7_108 h_z7_108 z8_108 h_z8_108 z9_108 h_z9_108 z10_108 h_z10_108 z11_108 h_z11_108 (lp_exitE h hk108)
        · replace h := o_f h112 h
          refine go_aload_n (pc' := 116) rfl rfl rfl ?_
          refine go_iconst (pc' := 117) (v := (nI 0)) rfl rfl rfl ?_
          refine go_dup2 (pc' := 118) rfl rfl ?_
          obtain ⟨g11, h⟩ := o_gE h
          refine go_iaload (pc' := 119) rfl (Or.inl (o_inK g11)) (o_inB g11) rfl ?_
          refine go_iload (pc' := 121) rfl rfl rfl ?_
          refine go_aload_n (pc' := 122) rfl rfl rfl ?_
          refine go_alen (pc' := 123) (n := G_108.2.1 1999) rfl (Or.inr rfl) rfl rfl ?_
          have jn134 : ∀ (t3_134 : Int32) (z7_134 : Option ai_V) (h_z7_134 : ai_isL z7_134 = false) (z8_134 : Option ai_V) (h_z8_134 : ai_isL z8_134 = false) (z9_134 : Option ai_V) (h_z9_134 : ai_isL z9_134 = false) (z10_134 : Option ai_V) (h_z10_134 : ai_isL z10_134 = false) (z11_134 : Option ai_V) (h_z11_134 : ai_isL z11_134 = false), m_133_j134 n_0 n_9 v5_108 v6_108 I_108 R_108 G_108 B_108 t3_134 = some x108 → ai_Go si_t si_F (ai_Cl si_t si_ms 11) (fun v _ _ _ _ => v = some (.inl r)) 134 [some (.inr (.inr 1999)), some (.inr (.inr n_0)), some (.inr (.inr n_9)), some (.inr (.inr n_31)), some (.inr (.inr r_36)), some (.inl v5_108), some (.inl v6_108), z7_134, z8_134, z9_134, z10_134, z11_134] [.inl t3_134, .inl (I_108 n_9 (nI 0).toNatClampNeg), .inl (nI 0), .inr (.inr n_9)] B_108 I_108 J_4 R_108 G_108 := by
            intro t3_134 z7_134 h_z7_134 z8_134 h_z8_134 z9_134 h_z9_134 z10_134 h_z10_134 z11_134 h_z11_134 h
            unfold m_133_j134 at h
            refine go_ixor (pc' := 135) rfl rfl ?_
            obtain ⟨g12, h⟩ := o_gE h
            obtain ⟨I_135, eI_135, h⟩ := o_b1E h
            refine go_iastore (pc' := 136) rfl (o_inK g12) (o_inB g12) rfl ?_
            refine go_ndMI eI_135 ?_
            refine go_iconst (pc' := 137) (v := (nI 3)) rfl rfl rfl ?_
            refine go_aload_n (pc' := 138) rfl rfl rfl ?_
            obtain ⟨r_138, I_138, q_138, h⟩ := o_b2E h
            refine go_callSb (pc' := 141) (b1 := 0) (b2 := 0) (st' := [.inl r_138, .inl (nI 3)]) rfl rfl (Or.inl (by decide)) rfl rfl rfl o_bd0 rfl trivial (md_118 (by omega) q_138) rfl rfl rfl ?_
            refine go_iconst (pc' := 142) (v := (nI 4)) rfl rfl rfl ?_
            refine go_irem (pc' := 143) rfl (by decide) rfl ?_
            refine go_iadd (pc' := 144) rfl rfl ?_
            obtain ⟨x7_144, ex7_144, h⟩ := o_b1E h
            refine go_ndI ex7_144 ?_
            refine go_istore (pc' := 146) (lo' := [some (.inr (.inr 1999)), some (.inr (.inr n_0)), some (.inr (.inr n_9)), some (.inr (.inr n_31)), some (.inr (.inr r_36)), some (.inl v5_108), some (.inl v6_108), some (.inl x7_144), z8_134, z9_134, z10_134, z11_134]) rfl rfl rfl ?_
            refine go_aload_n (pc' := 147) rfl rfl rfl ?_
            obtain ⟨r_147, I_147, q_147, h⟩ := o_b2E h
            refine go_callSb (pc' := 150) (b1 := 0) (b2 := 0) (st' := [.inl r_147]) rfl rfl (Or.inl (by decide)) rfl rfl rfl o_bd0 rfl trivial (md_118 (by omega) q_147) rfl rfl rfl ?_
            refine go_iconst (pc' := 151) (v := (nI 4)) rfl rfl rfl ?_
            refine go_irem (pc' := 152) rfl (by decide) rfl ?_
            obtain ⟨x8_152, ex8_152, h⟩ := o_b1E h
            refine go_ndI ex8_152 ?_
            refine go_istore (pc' := 154) (lo' := [some (.inr (.inr 1999)), some (.inr (.inr n_0)), some (.inr (.inr n_9)), some (.inr (.inr n_31)), some (.inr (.inr r_36)), some (.inl v5_108), some (.inl v6_108), some (.inl x7_144), some (.inl x8_152), z9_134, z10_134, z11_134]) rfl rfl rfl ?_
            refine go_aload_n (pc' := 155) rfl rfl rfl ?_
            refine go_iload (pc' := 157) rfl rfl rfl ?_
            refine go_iload (pc' := 159) rfl rfl rfl ?_
            refine go_aload_n (pc' := 160) rfl rfl rfl ?_
            obtain ⟨r_160, I_160, q_160, h⟩ := o_b2E h
            refine go_callSb (pc' := 163) (b1 := 0) (b2 := 0) (st' := [.inl r_160, .inl x7_144, .inl x8_152, .inr (.inr n_0)]) rfl rfl (Or.inl (by decide)) rfl rfl rfl o_bd0 rfl trivial (md_118 (by omega) q_160) rfl rfl rfl ?_
            refine go_iconst (pc' := 164) (v := (nI 4)) rfl rfl rfl ?_
            refine go_irem (pc' := 165) rfl (by decide) rfl ?_
            refine go_aload_n (pc' := 166) rfl rfl rfl ?_
            obtain ⟨r_166, I_166, R_166, G_166, q_166, h⟩ := o_b4E h
            obtain ⟨g13, h⟩ := o_gE h
            obtain ⟨B_166, eB_166, h⟩ := o_b1E h
            refine go_callSb (pc' := 169) (b1 := 16) (b2 := 316) (st' := [.inl r_166]) rfl rfl (Or.inl (by decide)) rfl rfl rfl g13 rfl trivial (md_122 (by omega) q_166) rfl (o_bdN eB_166) rfl ?_
            refine go_istore (pc' := 171) (lo' := [some (.inr (.inr 1999)), some (.inr (.inr n_0)), some (.inr (.inr n_9)), some (.inr (.inr n_31)), some (.inr (.inr r_36)), some (.inl v5_108), some (.inl v6_108), some (.inl x7_144), some (.inl x8_152), some (.inl r_166), z10_134, z11_134]) rfl rfl rfl ?_
            refine go_aload_n (pc' := 172) rfl rfl rfl ?_
            refine go_aload_n (pc' := 173) rfl rfl rfl ?_
            obtain ⟨r_173, I_173, G_173, q_173, h⟩ := o_b3E h
            obtain ⟨g14, h⟩ := o_gE h
            obtain ⟨B_173, eB_173, h⟩ := o_b1E h
            refine go_callSb (pc' := 176) (b1 := 1) (b2 := 8) (st' := [.inr (.inr r_173)]) rfl rfl (Or.inl (by decide)) rfl rfl rfl g14 rfl trivial (md_125 (by omega) q_173) rfl (o_bdN eB_173) rfl ?_
            refine go_astore (pc' := 178) (lo' := [some (.inr (.inr 1999)), some (.inr (.inr n_0)), some (.inr (.inr n_9)), some (.inr (.inr n_31)), some (.inr (.inr r_36)), some (.inl v5_108), some (.inl v6_108), some (.inl x7_144), some (.inl x8_152), some (.inl r_166), some (.inr (.inr r_173)), z11_134]) rfl rfl rfl ?_
            refine go_aload_n (pc' := 179) rfl rfl rfl ?_
            refine go_iload (pc' := 181) rfl rfl rfl ?_
            obtain ⟨r_181, I_181, G_181, q_181, h⟩ := o_b3E h
            obtain ⟨g15, h⟩ := o_gE h
            obtain ⟨B_181, eB_181, h⟩ := o_b1E h
            refine go_callSb (pc' := 184) (b1 := 1) (b2 := 256) (st' := [.inr (.inr r_181)]) rfl rfl (Or.inl (by decide)) rfl rfl rfl g15 rfl trivial (md_123 (by omega) q_181) rfl (o_bdN eB_181) rfl ?_
            refine go_astore (pc' := 186) (lo' := [some (.inr (.inr 1999)), some (.inr (.inr n_0)), some (.inr (.inr n_9)), some (.inr (.inr n_31)), some (.inr (.inr r_36)), some (.inl v5_108), some (.inl v6_108), some (.inl x7_144), some (.inl x8_152), some (.inl r_166), some (.inr (.inr r_173)), some (.inr (.inr r_181))]) rfl rfl rfl ?_
            refine go_iload (pc' := 188) rfl rfl rfl ?_
            refine go_if_eq (pt := 271) (pc' := 191) rfl rfl rfl (fun h188 => ?_) (fun h188 => ?_)
            · replace h := o_t h188 h
              refine go_iconst (pc' := 272) (v := (nI 0)) rfl rfl rfl ?_
              refine go_istore (pc' := 274) (lo' := [some (.inr (.inr 1999)), some (.inr (.inr n_0)), some (.inr (.inr n_9)), some (.inr (.inr n_31)), some (.inr (.inr r_36)), some (.inl (nI 0)), some (.inl v6_108), some (.inl x7_144), some (.inl x8_152), some (.inl r_166), some (.inr (.inr r_173)), some (.inr (.inr r_181))]) rfl rfl rfl ?_
              obtain ⟨x6_274, ex6_274, h⟩ := o_b1E h
              refine go_iincE (pc' := 277) rfl rfl (y := (nI 1)) rfl ex6_274 (lo' := [some (.inr (.inr 1999)), some (.inr (.inr n_0)), some (.inr (.inr n_9)), some (.inr (.inr n_31)), some (.inr (.inr r_36)), some (.inl (nI 0)), some (.inl x6_274), some (.inl x7_144), some (.inl x8_152), some (.inl r_166), some (.inr (.inr r_173)), some (.inr (.inr r_181))]) rfl rfl ?_
              refine go_goto (pc' := 108) rfl rfl ?_
              exact (lp_backE h hk108 (some (.inl x7_144)) rfl (some (.inl x8_152)) rfl (some (.inl r_166)) rfl (some (.inr (.inr r_173))) rfl (some (.inr (.inr r_181))) rfl :)
            · replace h := o_f h188 h
              refine go_iload (pc' := 193) rfl rfl rfl ?_
              refine go_if_le (pt := 271) (pc' := 196) rfl rfl rfl (fun h193 => ?_) (fun h193 => ?_)
              · replace h := o_t h193 h
                refine go_iconst (pc' := 272) (v := (nI 0)) rfl rfl rfl ?_
                refine go_istore (pc' := 274) (lo' := [some (.inr (.inr 1999)), some (.inr (.inr n_0)), some (.inr (.inr n_9)), some (.inr (.inr n_31)), some (.inr (.inr r_36)), some (.inl (nI 0)), some (.inl v6_108), some (.inl x7_144), some (.inl x8_152), some (.inl r_166), some (.inr (.inr r_173)), some (.inr (.inr r_181))]) rfl rfl rfl ?_
                obtain ⟨x6_274, ex6_274, h⟩ := o_b1E h
                refine go_iincE (pc' := 277) rfl rfl (y := (nI 1)) rfl ex6_274 (lo' := [some (.inr (.inr 1999)), some (.inr (.inr n_0)), some (.inr (.inr n_9)), some (.inr (.inr n_31)), some (.inr (.inr r_36)), some (.inl (nI 0)), some (.inl x6_274), some (.inl x7_144), some (.inl x8_152), some (.inl r_166), some (.inr (.inr r_173)), some (.inr (.inr r_181))]) rfl rfl ?_
                refine go_goto (pc' := 108) rfl rfl ?_
                exact (lp_backE h hk108 (some (.inl x7_144)) rfl (some (.inl x8_152)) rfl (some (.inl r_166)) rfl (some (.inr (.inr r_173))) rfl (some (.inr (.inr r_181))) rfl :)
              · replace h := o_f h193 h
                refine go_aload_n (pc' := 197) rfl rfl rfl ?_
                refine go_iload (pc' := 199) rfl rfl rfl ?_
                refine go_iload (pc' := 201) rfl rfl rfl ?_
                refine go_iload (pc' := 203) rfl rfl rfl ?_
                refine go_aload (pc' := 205) rfl rfl rfl ?_
                obtain ⟨r_205, I_205, q_205, h⟩ := o_b2E h
                refine go_callSb (pc' := 208) (b1 := 0) (b2 := 0) (st' := [.inl r_205]) rfl rfl (Or.inl (by decide)) rfl rfl rfl o_bd0 rfl trivial (md_132 (by omega) q_205) rfl rfl rfl ?_
                refine go_if_eq (pt := 271) (pc' := 211) rfl rfl rfl (fun h208 => ?_) (fun h208 => ?_)
                · replace h := o_t h208 h
                  refine go_iconst (pc' := 272) (v := (nI 0)) rfl rfl rfl ?_
                  refine go_istore (pc' := 274) (lo' := [some (.inr (.inr 1999)), some (.inr (.inr n_0)), some (.inr (.inr n_9)), some (.inr (.inr n_31)), some (.inr (.inr r_36)), some (.inl (nI 0)), some (.inl v6_108), some (.inl x7_144), some (.inl x8_152), some (.inl r_166), some (.inr (.inr r_173)), some (.inr (.inr r_181))]) rfl rfl rfl ?_
                  obtain ⟨x6_274, ex6_274, h⟩ := o_b1E h
                  refine go_iincE (pc' := 277) rfl rfl (y := (nI 1)) rfl ex6_274 (lo' := [some (.inr (.inr 1999)), some (.inr (.inr n_0)), some (.inr (.inr n_9)), some (.inr (.inr n_31)), some (.inr (.inr r_36)), some (.inl (nI 0)), some (.inl x6_274), some (.inl x7_144), some (.inl x8_152), some (.inl r_166), some (.inr (.inr r_173)), some (.inr (.inr r_181))]) rfl rfl ?_
                  refine go_goto (pc' := 108) rfl rfl ?_
                  exact (lp_backE h hk108 (some (.inl x7_144)) rfl (some (.inl x8_152)) rfl (some (.inl r_166)) rfl (some (.inr (.inr r_173))) rfl (some (.inr (.inr r_181))) rfl :)
                · replace h := o_f h208 h
                  refine go_aload_n (pc' := 212) rfl rfl rfl ?_
                  refine go_iload (pc' := 214) rfl rfl rfl ?_
                  refine go_aload (pc' := 216) rfl rfl rfl ?_
                  refine go_aload_n (pc' := 217) rfl rfl rfl ?_
                  obtain ⟨r_217, I_217, q_217, h⟩ := o_b2E h
                  refine go_callSb (pc' := 220) (b1 := 0) (b2 := 0) (st' := [.inl r_217]) rfl rfl (Or.inl (by decide)) rfl rfl rfl o_bd0 rfl trivial (md_128 (by omega) q_217) rfl rfl rfl ?_
                  refine go_if_eq (pt := 271) (pc' := 223) rfl rfl rfl (fun h220 => ?_) (fun h220 => ?_)
                  · replace h := o_t h220 h
                    refine go_iconst (pc' := 272) (v := (nI 0)) rfl rfl rfl ?_
                    refine go_istore (pc' := 274) (lo' := [some (.inr (.inr 1999)), some (.inr (.inr n_0)), some (.inr (.inr n_9)), some (.inr (.inr n_31)), some (.inr (.inr r_36)), some (.inl (nI 0)), some (.inl v6_108), some (.inl x7_144), some (.inl x8_152), some (.inl r_166), some (.inr (.inr r_173)), some (.inr (.inr r_181))]) rfl rfl rfl ?_
                    obtain ⟨x6_274, ex6_274, h⟩ := o_b1E h
                    refine go_iincE (pc' := 277) rfl rfl (y := (nI 1)) rfl ex6_274 (lo' := [some (.inr (.inr 1999)), some (.inr (.inr n_0)), some (.inr (.inr n_9)), some (.inr (.inr n_31)), some (.inr (.inr r_36)), some (.inl (nI 0)), some (.inl x6_274), some (.inl x7_144), some (.inl x8_152), some (.inl r_166), some (.inr (.inr r_173)), some (.inr (.inr r_181))]) rfl rfl ?_
                    refine go_goto (pc' := 108) rfl rfl ?_
                    exact (lp_backE h hk108 (some (.inl x7_144)) rfl (some (.inl x8_152)) rfl (some (.inl r_166)) rfl (some (.inr (.inr r_173))) rfl (some (.inr (.inr r_181))) rfl :)
                  · replace h := o_f h220 h
                    refine go_aload_n (pc' := 224) rfl rfl rfl ?_
                    refine go_iload (pc' := 226) rfl rfl rfl ?_
                    refine go_aload (pc' := 228) rfl rfl rfl ?_
                    refine go_aload (pc' := 230) rfl rfl rfl ?_
                    obtain ⟨r_230, I_230, G_230, q_230, h⟩ := o_b3E h
                    obtain ⟨g16, h⟩ := o_gE h
                    obtain ⟨B_230, eB_230, h⟩ := o_b1E h
                    refine go_callSb (pc' := 233) (b1 := 1) (b2 := 256) (st' := [.inl r_230]) rfl rfl (Or.inl (by decide)) rfl rfl rfl g16 rfl trivial (md_129 (by omega) q_230) rfl (o_bdN eB_230) rfl ?_
                    refine go_if_eq (pt := 271) (pc' := 236) rfl rfl rfl (fun h233 => ?_) (fun h233 => ?_)
                    · replace h := o_t h233 h
                      refine go_iconst (pc' := 272) (v := (nI 0)) rfl rfl rfl ?_
                      refine go_istore (pc' := 274) (lo' := [some (.inr (.inr 1999)), some (.inr (.inr n_0)), some (.inr (.inr n_9)), some (.inr (.inr n_31)), some (.inr (.inr r_36)), some (.inl (nI 0)), some (.inl v6_108), some (.inl x7_144), some (.inl x8_152), some (.inl r_166), some (.inr (.inr r_173)), some (.inr (.inr r_181))]) rfl rfl rfl ?_
                      obtain ⟨x6_274, ex6_274, h⟩ := o_b1E h
                      refine go_iincE (pc' := 277) rfl rfl (y := (nI 1)) rfl ex6_274 (lo' := [some (.inr (.inr 1999)), some (.inr (.inr n_0)), some (.inr (.inr n_9)), some (.inr (.inr n_31)), some (.inr (.inr r_36)), some (.inl (nI 0)), some (.inl x6_274), some (.inl x7_144), some (.inl x8_152), some (.inl r_166), some (.inr (.inr r_173)), some (.inr (.inr r_181))]) rfl rfl ?_
                      refine go_goto (pc' := 108) rfl rfl ?_
                      exact (lp_backE h hk108 (some (.inl x7_144)) rfl (some (.inl x8_152)) rfl (some (.inl r_166)) rfl (some (.inr (.inr r_173))) rfl (some (.inr (.inr r_181))) rfl :)
                    · replace h := o_f h233 h
                      refine go_aload_n (pc' := 237) rfl rfl rfl ?_
                      refine go_iload (pc' := 239) rfl rfl rfl ?_
                      refine go_iload (pc' := 241) rfl rfl rfl ?_
                      refine go_iload (pc' := 243) rfl rfl rfl ?_
                      refine go_aload (pc' := 245) rfl rfl rfl ?_
                      refine go_aload (pc' := 247) rfl rfl rfl ?_
                      obtain ⟨r_247, I_247, G_247, q_247, h⟩ := o_b3E h
                      obtain ⟨g17, h⟩ := o_gE h
                      obtain ⟨B_247, eB_247, h⟩ := o_b1E h
                      refine go_callSb (pc' := 250) (b1 := 24) (b2 := 192) (st' := [.inl r_247]) rfl rfl (Or.inl (by decide)) rfl rfl rfl g17 rfl trivial (md_131 (by omega) q_247) rfl (o_bdN eB_247) rfl ?_
                      refine go_if_eq (pt := 271) (pc' := 253) rfl rfl rfl (fun h250 => ?_) (fun h250 => ?_)
                      · replace h := o_t h250 h
                        refine go_iconst (pc' := 272) (v := (nI 0)) rfl rfl rfl ?_
                        refine go_istore (pc' := 274) (lo' := [some (.inr (.inr 1999)), some (.inr (.inr n_0)), some (.inr (.inr n_9)), some (.inr (.inr n_31)), some (.inr (.inr r_36)), some (.inl (nI 0)), some (.inl v6_108), some (.inl x7_144), some (.inl x8_152), some (.inl r_166), some (.inr (.inr r_173)), some (.inr (.inr r_181))]) rfl rfl rfl ?_
                        obtain ⟨x6_274, ex6_274, h⟩ := o_b1E h
                        refine go_iincE (pc' := 277) rfl rfl (y := (nI 1)) rfl ex6_274 (lo' := [some (.inr (.inr 1999)), some (.inr (.inr n_0)), some (.inr (.inr n_9)), some (.inr (.inr n_31)), some (.inr (.inr r_36)), some (.inl (nI 0)), some (.inl x6_274), some (.inl x7_144), some (.inl x8_152), some (.inl r_166), some (.inr (.inr r_173)), some (.inr (.inr r_181))]) rfl rfl ?_
                        refine go_goto (pc' := 108) rfl rfl ?_
                        exact (lp_backE h hk108 (some (.inl x7_144)) rfl (some (.inl x8_152)) rfl (some (.inl r_166)) rfl (some (.inr (.inr r_173))) rfl (some (.inr (.inr r_181))) rfl :)
                      · replace h := o_f h250 h
                        refine go_aload_n (pc' := 254) rfl rfl rfl ?_
                        refine go_iconst (pc' := 255) (v := (nI 3)) rfl rfl rfl ?_
                        refine go_bipush (pc' := 257) (v := (nI 7)) rfl rfl rfl ?_
                        obtain ⟨g18, h⟩ := o_gE h
                        obtain ⟨r_257, I_257, q_257, h⟩ := o_b2E h
                        refine go_callVb (pc' := 260) (b1 := 0) (b2 := 0) (st' := [.inl r_257]) rfl rfl (Or.inl (by decide)) rfl rfl rfl o_bd0 rfl (o_kdE g18) (md_99 (by omega) (o_kdE g18) q_257) rfl rfl rfl ?_
                        refine go_aload (pc' := 262) rfl rfl rfl ?_
                        refine go_iconst (pc' := 263) (v := (nI 3)) rfl rfl rfl ?_
                        obtain ⟨g19, h⟩ := o_gE h
                        refine go_iaload (pc' := 264) rfl (Or.inl (o_inK g19)) (o_inB g19) rfl ?_
                        refine go_icmp_ne (pt := 271) (pc' := 267) rfl rfl rfl (fun h264 => ?_) (fun h264 => ?_)
                        · replace h := o_f h264 h
                          refine go_iconst (pc' := 272) (v := (nI 0)) rfl rfl rfl ?_
                          refine go_istore (pc' := 274) (lo' := [some (.inr (.inr 1999)), some (.inr (.inr n_0)), some (.inr (.inr n_9)), some (.inr (.inr n_31)), some (.inr (.inr r_36)), some (.inl (nI 0)), some (.inl v6_108), some (.inl x7_144), some (.inl x8_152), some (.inl r_166), some (.inr (.inr r_173)), some (.inr (.inr r_181))]) rfl rfl rfl ?_
                          obtain ⟨x6_274, ex6_274, h⟩ := o_b1E h
                          refine go_iincE (pc' := 277) rfl rfl (y := (nI 1)) rfl ex6_274 (lo' := [some (.inr (.inr 1999)), some (.inr (.inr n_0)), some (.inr (.inr n_9)), some (.inr (.inr n_31)), some (.inr (.inr r_36)), some (.inl (nI 0)), some (.inl x6_274), some (.inl x7_144), some (.inl x8_152), some (.inl r_166), some (.inr (.inr r_173)), some (.inr (.inr r_181))]) rfl rfl ?_
                          refine go_goto (pc' := 108) rfl rfl ?_
                          exact (lp_backE h hk108 (some (.inl x7_144)) rfl (some (.inl x8_152)) rfl (some (.inl r_166)) rfl (some (.inr (.inr r_173))) rfl (some (.inr (.inr r_181))) rfl :)
                        · replace h := o_t (Decidable.of_not_not h264) h
                          refine go_iconst (pc' := 268) (v := (nI 1)) rfl rfl rfl ?_
                          refine go_goto (pc' := 272) rfl rfl ?_
                          refine go_istore (pc' := 274) (lo' := [some (.inr (.inr 1999)), some (.inr (.inr n_0)), some (.inr (.inr n_9)), some (.inr (.inr n_31)), some (.inr (.inr r_36)), some (.inl (nI 1)), some (.inl v6_108), some (.inl x7_144), some (.inl x8_152), some (.inl r_166), some (.inr (.inr r_173)), some (.inr (.inr r_181))]) rfl rfl rfl ?_
                          obtain ⟨x6_274, ex6_274, h⟩ := o_b1E h
                          refine go_iincE (pc' := 277) rfl rfl (y := (nI 1)) rfl ex6_274 (lo' := [some (.inr (.inr 1999)), some (.inr (.inr n_0)), some (.inr (.inr n_9)), some (.inr (.inr n_31)), some (.inr (.inr r_36)), some (.inl (nI 1)), some (.inl x6_274), some (.inl x7_144), some (.inl x8_152), some (.inl r_166), some (.inr (.inr r_173)), some (.inr (.inr r_181))]) rfl rfl ?_
                          refine go_goto (pc' := 108) rfl rfl ?_
                          exact (lp_backE h hk108 (some (.inl x7_144)) rfl (some (.inl x8_152)) rfl (some (.inl r_166)) rfl (some (.inr (.inr r_173))) rfl (some (.inr (.inr r_181))) rfl :)
          refine go_icmp_ge (pt := 133) (pc' := 126) rfl rfl rfl (fun h123 => ?_) (fun h123 => ?_)
          · replace h := o_t h123 h
            refine go_iconst (pc' := 134) (v := (nI 0)) rfl rfl rfl ?_
            exact jn134 (nI 0) z7_108 h_z7_108 z8_108 h_z8_108 z9_108 h_z9_108 z10_108 h_z10_108 z11_108 h_z11_108 h
          · replace h := o_f h123 h
            refine go_aload_n (pc' := 127) rfl rfl rfl ?_
            refine go_iload (pc' := 129) rfl rfl rfl ?_
            obtain ⟨g20, h⟩ := o_gE h
            refine go_iaload (pc' := 130) rfl (Or.inr rfl) (o_ilE g20) rfl ?_
            refine go_goto (pc' := 134) rfl rfl ?_
            exact jn134 (I_108 1999 v6_108.toNatClampNeg) z7_108 h_z7_108 z8_108 h_z8_108 z9_108 h_z9_108 z10_108 h_z10_108 z11_108 h_z11_108 h)
      exact lo108 _ (t0_103, (nI 0), I_103, R_4, G_103, B_103) hl108 none rfl none rfl none rfl none rfl none rfl
    have jn102 : ∀ (I_102 : ai_I) (G_102 : ai_G) (B_102 : Nat × Nat), m_133_j102 n_0 R_4 n_9 I_102 G_102 B_102 = some r → ai_Go si_t si_F (ai_Cl si_t si_ms 11) (fun v _ _ _ _ => v = some (.inl r)) 102 [some (.inr (.inr 1999)), some (.inr (.inr n_0)), some (.inr (.inr n_9)), some (.inr (.inr n_31)), some (.inr (.inr r_36)), none, none, none, none, none, none, none] [] B_102 I_102 J_4 R_4 G_102 := by
      intro I_102 G_102 B_102 h
      unfold m_133_j102 at h
      refine go_iconst (pc' := 103) (v := (nI 0)) rfl rfl rfl ?_
      exact jn103 (nI 0) I_102 G_102 B_102 h
    refine go_icmp_ne (pt := 102) (pc' := 51) rfl rfl rfl (fun h48 => ?_) (fun h48 => ?_)
    · replace h := o_f h48 h
      exact jn102 I_36 G_36 B_36 h
    · replace h := o_t (Decidable.of_not_not h48) h
      refine go_aload_n (pc' := 52) rfl rfl rfl ?_
      refine go_iconst (pc' := 53) (v := (nI 3)) rfl rfl rfl ?_
      refine go_iconst (pc' := 54) (v := (nI 2)) rfl rfl rfl ?_
      refine go_iconst (pc' := 55) (v := (nI 1)) rfl rfl rfl ?_
      refine go_aload (pc' := 57) rfl rfl rfl ?_
      obtain ⟨r_57, I_57, q_57, h⟩ := o_b2E h
      refine go_callSb (pc' := 60) (b1 := 0) (b2 := 0) (st' := [.inl r_57]) rfl rfl (Or.inl (by decide)) rfl rfl rfl o_bd0 rfl trivial (md_132 (by omega) q_57) rfl rfl rfl ?_
      refine go_if_eq (pt := 102) (pc' := 63) rfl rfl rfl (fun h60 => ?_) (fun h60 => ?_)
      · replace h := o_t h60 h
        exact jn102 I_57 G_36 B_36 h
      · replace h := o_f h60 h
        refine go_aload_n (pc' := 64) rfl rfl rfl ?_
        refine go_iconst (pc' := 65) (v := (nI 3)) rfl rfl rfl ?_
        refine go_aload (pc' := 67) rfl rfl rfl ?_
        refine go_aload_n (pc' := 68) rfl rfl rfl ?_
        obtain ⟨r_68, I_68, q_68, h⟩ := o_b2E h
        refine go_callSb (pc' := 71) (b1 := 0) (b2 := 0) (st' := [.inl r_68]) rfl rfl (Or.inl (by decide)) rfl rfl rfl o_bd0 rfl trivial (md_128 (by omega) q_68) rfl rfl rfl ?_
        refine go_if_eq (pt := 102) (pc' := 74) rfl rfl rfl (fun h71 => ?_) (fun h71 => ?_)
        · replace h := o_t h71 h
          exact jn102 I_68 G_36 B_36 h
        · replace h := o_f h71 h
          refine go_aload_n (pc' := 75) rfl rfl rfl ?_
          refine go_iconst (pc' := 76) (v := (nI 3)) rfl rfl rfl ?_
          refine go_aload (pc' := 78) rfl rfl rfl ?_
          refine go_aload_n (pc' := 79) rfl rfl rfl ?_
          obtain ⟨r_79, I_79, G_79, q_79, h⟩ := o_b3E h
          obtain ⟨g21, h⟩ := o_gE h
          obtain ⟨B_79, eB_79, h⟩ := o_b1E h
          refine go_callSb (pc' := 82) (b1 := 1) (b2 := 256) (st' := [.inl r_79]) rfl rfl (Or.inl (by decide)) rfl rfl rfl g21 rfl trivial (md_129 (by omega) q_79) rfl (o_bdN eB_79) rfl ?_
          refine go_if_eq (pt := 102) (pc' := 85) rfl rfl rfl (fun h82 => ?_) (fun h82 => ?_)
          · replace h := o_t h82 h
            exact jn102 I_79 G_79 B_79 h
          · replace h := o_f h82 h
            refine go_aload_n (pc' := 86) rfl rfl rfl ?_
            refine go_iconst (pc' := 87) (v := (nI 3)) rfl rfl rfl ?_
            refine go_iconst (pc' := 88) (v := (nI 2)) rfl rfl rfl ?_
            refine go_iconst (pc' := 89) (v := (nI 1)) rfl rfl rfl ?_
            refine go_aload (pc' := 91) rfl rfl rfl ?_
            refine go_aload_n (pc' := 92) rfl rfl rfl ?_
            obtain ⟨r_92, I_92, G_92, q_92, h⟩ := o_b3E h
            obtain ⟨g22, h⟩ := o_gE h
            obtain ⟨B_92, eB_92, h⟩ := o_b1E h
            refine go_callSb (pc' := 95) (b1 := 24) (b2 := 192) (st' := [.inl r_92]) rfl rfl (Or.inl (by decide)) rfl rfl rfl g22 rfl trivial (md_131 (by omega) q_92) rfl (o_bdN eB_92) rfl ?_
            refine go_if_eq (pt := 102) (pc' := 98) rfl rfl rfl (fun h95 => ?_) (fun h95 => ?_)
            · replace h := o_t h95 h
              exact jn102 I_92 G_92 B_92 h
            · replace h := o_f h95 h
              refine go_iconst (pc' := 99) (v := (nI 1)) rfl rfl rfl ?_
              refine go_goto (pc' := 103) rfl rfl ?_
              exact jn103 (nI 1) I_92 G_92 B_92 h
  refine go_if_ne (pt := 24) (pc' := 18) rfl rfl rfl (fun h15 => ?_) (fun h15 => ?_)
  · replace h := o_f h15 h
    refine go_aload_n (pc' := 25) rfl rfl rfl ?_
    refine go_iconst (pc' := 26) (v := (nI 0)) rfl rfl rfl ?_
    obtain ⟨g23, h⟩ := o_gE h
    refine go_iaload (pc' := 27) rfl (Or.inr rfl) (o_ilE g23) rfl ?_
    exact jn27 (I_9 1999 (nI 0).toNatClampNeg) h
  · replace h := o_t (Decidable.of_not_not h15) h
    refine go_sipush (pc' := 21) (v := (nI 2095)) rfl rfl rfl ?_
    refine go_goto (pc' := 27) rfl rfl ?_
    exact jn27 (nI 2095) h
/-- the law's run, out of its model -/
theorem si_law_of (h : ∀ (L : Nat) (xs : Nat → Int32), L ≤ 260 → m_133 (si_I0 xs) si_J0 si_R0 (si_G0 L) = some (nI 1)) : si_law := fun L xs hL => md_law (h L xs hL)
