/-! The law as a model, with its proof. Printed by wip/whole/pr10.py. -/
def m_333_x18_281 (Ix_281 : ai_I) (Jx_281 : ai_J) (Rx_281 : ai_R) : Option (Int32) :=
  some (nI 0)
def m_333_x18_1717 (Ix_1717 : ai_I) (Jx_1717 : ai_J) (Rx_1717 : ai_R) : Option (Int32) :=
  some (nI 1)
def m_333_b18 (n_0 : Nat) (n_8 : Nat) (G_12 : ai_G) (v3_18 : Int32) (I_18 : ai_I) (J_18 : ai_J) (R_18 : ai_R) : Option ((Int32 × ai_I × ai_J × ai_R) ⊕ ((ai_I × ai_J × ai_R) ⊕ (ai_I × ai_J × ai_R))) :=
  if ((Int32.ofNat (G_12.2.1 1999)) - (nI 6)) < v3_18 then (some (Sum.inr (Sum.inr (I_18, J_18, R_18)))) else (o_g (o_il G_12 v3_18) (o_b1 (some ((I_18 1999 v3_18.toNatClampNeg) &&& (nI 63))) (fun d_33 => if d_33 = (0 : Int32) then (o_g (o_il G_12 (v3_18 + (nI 1))) (o_g (o_il G_12 (v3_18 + (nI 2))) (o_g (o_il G_12 (v3_18 + (nI 3))) (o_g (o_il G_12 (v3_18 + (nI 4))) (o_g (o_il G_12 (v3_18 + (nI 5))) (o_g (o_kd G_12 n_0 10) (o_b2 (m_137 n_0 (I_18 1999 (v3_18 + (nI 1)).toNatClampNeg) (I_18 1999 (v3_18 + (nI 2)).toNatClampNeg) (I_18 1999 (v3_18 + (nI 3)).toNatClampNeg) (I_18 1999 (v3_18 + (nI 4)).toNatClampNeg) (I_18 1999 (v3_18 + (nI 5)).toNatClampNeg) I_18 R_18 G_12) (fun r_246 I_246 => o_g (o_il G_12 (v3_18 + (nI 1))) (o_g (o_il G_12 (v3_18 + (nI 2))) (o_g (o_il G_12 (v3_18 + (nI 3))) (o_g (o_il G_12 (v3_18 + (nI 4))) (o_g (o_il G_12 (v3_18 + (nI 5))) (o_g (o_kd G_12 n_8 11) (o_b2 (m_207 n_8 (I_246 1999 (v3_18 + (nI 1)).toNatClampNeg) (I_246 1999 (v3_18 + (nI 2)).toNatClampNeg) (I_246 1999 (v3_18 + (nI 3)).toNatClampNeg) (I_246 1999 (v3_18 + (nI 4)).toNatClampNeg) (I_246 1999 (v3_18 + (nI 5)).toNatClampNeg) I_246 R_18 G_12) (fun r_275 I_275 => if r_246 = r_275 then (o_b1 (some (v3_18 + (nI 6))) (fun x3_1711 => some (Sum.inl (x3_1711, I_275, J_18, R_18)))) else (some (Sum.inr (Sum.inl (I_275, J_18, R_18))))))))))))))))))) else (if d_33 = (1 : Int32) then (o_g (o_il G_12 (v3_18 + (nI 1))) (o_g (o_kd G_12 n_0 10) (o_b3 (m_139 n_0 (I_18 1999 (v3_18 + (nI 1)).toNatClampNeg) I_18 R_18 G_12) (fun r_289 I_289 R_289 => o_g (o_il G_12 (v3_18 + (nI 1))) (o_g (o_kd G_12 n_8 11) (o_b3 (m_218 n_8 (I_289 1999 (v3_18 + (nI 1)).toNatClampNeg) I_289 J_18 R_289 G_12) (fun r_298 I_298 J_298 => if r_289 = r_298 then (o_b1 (some (v3_18 + (nI 6))) (fun x3_1711 => some (Sum.inl (x3_1711, I_298, J_298, R_289)))) else (some (Sum.inr (Sum.inl (I_298, J_298, R_289))))))))))) else (if d_33 = (2 : Int32) then (o_g (o_il G_12 (v3_18 + (nI 1))) (o_g (o_il G_12 (v3_18 + (nI 2))) (o_g (o_kd G_12 n_0 10) (o_b2 (m_141 n_0 (I_18 1999 (v3_18 + (nI 1)).toNatClampNeg) (I_18 1999 (v3_18 + (nI 2)).toNatClampNeg) I_18 R_18 G_12) (fun r_317 I_317 => o_g (o_il G_12 (v3_18 + (nI 1))) (o_g (o_il G_12 (v3_18 + (nI 2))) (o_g (o_kd G_12 n_8 11) (o_b2 (m_242 n_8 (I_317 1999 (v3_18 + (nI 1)).toNatClampNeg) (I_317 1999 (v3_18 + (nI 2)).toNatClampNeg) I_317 R_18 G_12) (fun r_331 I_331 => if r_317 = r_331 then (o_b1 (some (v3_18 + (nI 6))) (fun x3_1711 => some (Sum.inl (x3_1711, I_331, J_18, R_18)))) else (some (Sum.inr (Sum.inl (I_331, J_18, R_18))))))))))))) else (if d_33 = (3 : Int32) then (o_g (o_il G_12 (v3_18 + (nI 1))) (o_g (o_il G_12 (v3_18 + (nI 2))) (o_g (o_kd G_12 n_0 10) (o_b2 (m_142 n_0 (I_18 1999 (v3_18 + (nI 1)).toNatClampNeg) (I_18 1999 (v3_18 + (nI 2)).toNatClampNeg) I_18 R_18 G_12) (fun r_350 I_350 => o_g (o_il G_12 (v3_18 + (nI 1))) (o_g (o_il G_12 (v3_18 + (nI 2))) (o_g (o_kd G_12 n_8 11) (o_b2 (m_262 n_8 (I_350 1999 (v3_18 + (nI 1)).toNatClampNeg) (I_350 1999 (v3_18 + (nI 2)).toNatClampNeg) I_350 R_18 G_12) (fun r_364 I_364 => if r_350 = r_364 then (o_b1 (some (v3_18 + (nI 6))) (fun x3_1711 => some (Sum.inl (x3_1711, I_364, J_18, R_18)))) else (some (Sum.inr (Sum.inl (I_364, J_18, R_18))))))))))))) else (if d_33 = (4 : Int32) then (o_g (o_il G_12 (v3_18 + (nI 1))) (o_g (o_il G_12 (v3_18 + (nI 2))) (o_g (o_kd G_12 n_0 10) (o_b1 (m_143 n_0 (I_18 1999 (v3_18 + (nI 1)).toNatClampNeg) (I_18 1999 (v3_18 + (nI 2)).toNatClampNeg) I_18 R_18 G_12) (fun r_383 => o_g (o_il G_12 (v3_18 + (nI 1))) (o_g (o_il G_12 (v3_18 + (nI 2))) (o_g (o_kd G_12 n_8 11) (o_b1 (m_263 n_8 (I_18 1999 (v3_18 + (nI 1)).toNatClampNeg) (I_18 1999 (v3_18 + (nI 2)).toNatClampNeg) I_18 R_18 G_12) (fun r_397 => if r_383 = r_397 then (o_b1 (some (v3_18 + (nI 6))) (fun x3_1711 => some (Sum.inl (x3_1711, I_18, J_18, R_18)))) else (some (Sum.inr (Sum.inl (I_18, J_18, R_18))))))))))))) else (if d_33 = (5 : Int32) then (o_g (o_il G_12 (v3_18 + (nI 1))) (o_g (o_il G_12 (v3_18 + (nI 2))) (o_g (o_kd G_12 n_0 10) (o_b1 (m_144 n_0 (I_18 1999 (v3_18 + (nI 1)).toNatClampNeg) (I_18 1999 (v3_18 + (nI 2)).toNatClampNeg) I_18 R_18 G_12) (fun r_416 => o_g (o_il G_12 (v3_18 + (nI 1))) (o_g (o_il G_12 (v3_18 + (nI 2))) (o_g (o_kd G_12 n_8 11) (o_b1 (m_264 n_8 (I_18 1999 (v3_18 + (nI 1)).toNatClampNeg) (I_18 1999 (v3_18 + (nI 2)).toNatClampNeg) I_18 R_18 G_12) (fun r_430 => if r_416 = r_430 then (o_b1 (some (v3_18 + (nI 6))) (fun x3_1711 => some (Sum.inl (x3_1711, I_18, J_18, R_18)))) else (some (Sum.inr (Sum.inl (I_18, J_18, R_18))))))))))))) else (if d_33 = (6 : Int32) then (o_g (o_il G_12 (v3_18 + (nI 1))) (o_g (o_il G_12 (v3_18 + (nI 2))) (o_g (o_il G_12 (v3_18 + (nI 3))) (o_g (o_kd G_12 n_0 10) (o_b2 (m_145 n_0 (I_18 1999 (v3_18 + (nI 1)).toNatClampNeg) (I_18 1999 (v3_18 + (nI 2)).toNatClampNeg) (I_18 1999 (v3_18 + (nI 3)).toNatClampNeg) I_18 R_18 G_12) (fun r_454 I_454 => o_g (o_il G_12 (v3_18 + (nI 1))) (o_g (o_il G_12 (v3_18 + (nI 2))) (o_g (o_il G_12 (v3_18 + (nI 3))) (o_g (o_kd G_12 n_8 11) (o_b2 (m_248 n_8 (I_454 1999 (v3_18 + (nI 1)).toNatClampNeg) (I_454 1999 (v3_18 + (nI 2)).toNatClampNeg) (I_454 1999 (v3_18 + (nI 3)).toNatClampNeg) I_454 R_18 G_12) (fun r_473 I_473 => if r_454 = r_473 then (o_b1 (some (v3_18 + (nI 6))) (fun x3_1711 => some (Sum.inl (x3_1711, I_473, J_18, R_18)))) else (some (Sum.inr (Sum.inl (I_473, J_18, R_18))))))))))))))) else (if d_33 = (7 : Int32) then (o_g (o_il G_12 (v3_18 + (nI 1))) (o_g (o_il G_12 (v3_18 + (nI 2))) (o_g (o_il G_12 (v3_18 + (nI 3))) (o_g (o_il G_12 (v3_18 + (nI 4))) (o_g (o_kd G_12 n_0 10) (o_b1 (m_146 n_0 (I_18 1999 (v3_18 + (nI 1)).toNatClampNeg) (I_18 1999 (v3_18 + (nI 2)).toNatClampNeg) (I_18 1999 (v3_18 + (nI 3)).toNatClampNeg) (I_18 1999 (v3_18 + (nI 4)).toNatClampNeg) I_18 R_18 G_12) (fun r_502 => o_g (o_il G_12 (v3_18 + (nI 1))) (o_g (o_il G_12 (v3_18 + (nI 2))) (o_g (o_il G_12 (v3_18 + (nI 3))) (o_g (o_il G_12 (v3_18 + (nI 4))) (o_g (o_kd G_12 n_8 11) (o_b2 (m_249 n_8 (I_18 1999 (v3_18 + (nI 1)).toNatClampNeg) (I_18 1999 (v3_18 + (nI 2)).toNatClampNeg) (I_18 1999 (v3_18 + (nI 3)).toNatClampNeg) (I_18 1999 (v3_18 + (nI 4)).toNatClampNeg) I_18 R_18 G_12) (fun r_526 I_526 => if r_502 = r_526 then (o_b1 (some (v3_18 + (nI 6))) (fun x3_1711 => some (Sum.inl (x3_1711, I_526, J_18, R_18)))) else (some (Sum.inr (Sum.inl (I_526, J_18, R_18))))))))))))))))) else (if d_33 = (8 : Int32) then (o_g (o_il G_12 (v3_18 + (nI 1))) (o_g (o_il G_12 (v3_18 + (nI 2))) (o_g (o_kd G_12 n_0 10) (o_b1 (m_147 n_0 (I_18 1999 (v3_18 + (nI 1)).toNatClampNeg) (I_18 1999 (v3_18 + (nI 2)).toNatClampNeg) I_18 R_18 G_12) (fun r_545 => o_g (o_il G_12 (v3_18 + (nI 1))) (o_g (o_il G_12 (v3_18 + (nI 2))) (o_g (o_kd G_12 n_8 11) (o_b1 (m_255 n_8 (I_18 1999 (v3_18 + (nI 1)).toNatClampNeg) (I_18 1999 (v3_18 + (nI 2)).toNatClampNeg) I_18 R_18 G_12) (fun r_559 => if r_545 = r_559 then (o_b1 (some (v3_18 + (nI 6))) (fun x3_1711 => some (Sum.inl (x3_1711, I_18, J_18, R_18)))) else (some (Sum.inr (Sum.inl (I_18, J_18, R_18))))))))))))) else (if d_33 = (9 : Int32) then (o_g (o_il G_12 (v3_18 + (nI 1))) (o_g (o_il G_12 (v3_18 + (nI 2))) (o_g (o_kd G_12 n_0 10) (o_b1 (m_148 n_0 (I_18 1999 (v3_18 + (nI 1)).toNatClampNeg) (I_18 1999 (v3_18 + (nI 2)).toNatClampNeg) I_18 R_18 G_12) (fun r_578 => o_g (o_il G_12 (v3_18 + (nI 1))) (o_g (o_il G_12 (v3_18 + (nI 2))) (o_g (o_kd G_12 n_8 11) (o_b1 (m_256 n_8 (I_18 1999 (v3_18 + (nI 1)).toNatClampNeg) (I_18 1999 (v3_18 + (nI 2)).toNatClampNeg) I_18 R_18 G_12) (fun r_592 => if r_578 = r_592 then (o_b1 (some (v3_18 + (nI 6))) (fun x3_1711 => some (Sum.inl (x3_1711, I_18, J_18, R_18)))) else (some (Sum.inr (Sum.inl (I_18, J_18, R_18))))))))))))) else (if d_33 = (10 : Int32) then (o_g (o_il G_12 (v3_18 + (nI 1))) (o_g (o_il G_12 (v3_18 + (nI 2))) (o_g (o_kd G_12 n_0 10) (o_b1 (m_149 n_0 (I_18 1999 (v3_18 + (nI 1)).toNatClampNeg) (I_18 1999 (v3_18 + (nI 2)).toNatClampNeg) I_18 R_18 G_12) (fun r_611 => o_g (o_il G_12 (v3_18 + (nI 1))) (o_g (o_il G_12 (v3_18 + (nI 2))) (o_g (o_kd G_12 n_8 11) (o_b1 (m_257 n_8 (I_18 1999 (v3_18 + (nI 1)).toNatClampNeg) (I_18 1999 (v3_18 + (nI 2)).toNatClampNeg) I_18 R_18 G_12) (fun r_625 => if r_611 = r_625 then (o_b1 (some (v3_18 + (nI 6))) (fun x3_1711 => some (Sum.inl (x3_1711, I_18, J_18, R_18)))) else (some (Sum.inr (Sum.inl (I_18, J_18, R_18))))))))))))) else (if d_33 = (11 : Int32) then (o_g (o_il G_12 (v3_18 + (nI 1))) (o_g (o_il G_12 (v3_18 + (nI 2))) (o_g (o_il G_12 (v3_18 + (nI 3))) (o_g (o_kd G_12 n_0 10) (o_b2 (m_150 n_0 (I_18 1999 (v3_18 + (nI 1)).toNatClampNeg) (I_18 1999 (v3_18 + (nI 2)).toNatClampNeg) (I_18 1999 (v3_18 + (nI 3)).toNatClampNeg) I_18 R_18 G_12) (fun r_649 I_649 => o_g (o_il G_12 (v3_18 + (nI 1))) (o_g (o_il G_12 (v3_18 + (nI 2))) (o_g (o_il G_12 (v3_18 + (nI 3))) (o_g (o_kd G_12 n_8 11) (o_b2 (m_270 n_8 (I_649 1999 (v3_18 + (nI 1)).toNatClampNeg) (I_649 1999 (v3_18 + (nI 2)).toNatClampNeg) (I_649 1999 (v3_18 + (nI 3)).toNatClampNeg) I_649 R_18 G_12) (fun r_668 I_668 => if r_649 = r_668 then (o_b1 (some (v3_18 + (nI 6))) (fun x3_1711 => some (Sum.inl (x3_1711, I_668, J_18, R_18)))) else (some (Sum.inr (Sum.inl (I_668, J_18, R_18))))))))))))))) else (if d_33 = (12 : Int32) then (o_g (o_il G_12 (v3_18 + (nI 1))) (o_g (o_kd G_12 n_0 10) (o_b2 (m_151 n_0 (I_18 1999 (v3_18 + (nI 1)).toNatClampNeg) I_18 R_18 G_12) (fun r_682 I_682 => o_g (o_il G_12 (v3_18 + (nI 1))) (o_g (o_kd G_12 n_8 11) (o_b2 (m_271 n_8 (I_682 1999 (v3_18 + (nI 1)).toNatClampNeg) I_682 R_18 G_12) (fun r_691 I_691 => if r_682 = r_691 then (o_b1 (some (v3_18 + (nI 6))) (fun x3_1711 => some (Sum.inl (x3_1711, I_691, J_18, R_18)))) else (some (Sum.inr (Sum.inl (I_691, J_18, R_18))))))))))) else (if d_33 = (13 : Int32) then (o_g (o_il G_12 (v3_18 + (nI 1))) (o_g (o_il G_12 (v3_18 + (nI 2))) (o_g (o_kd G_12 n_0 10) (o_b2 (m_152 n_0 (I_18 1999 (v3_18 + (nI 1)).toNatClampNeg) (I_18 1999 (v3_18 + (nI 2)).toNatClampNeg) I_18 R_18 G_12) (fun r_710 I_710 => o_g (o_il G_12 (v3_18 + (nI 1))) (o_g (o_il G_12 (v3_18 + (nI 2))) (o_g (o_kd G_12 n_8 11) (o_b2 (m_273 n_8 (I_710 1999 (v3_18 + (nI 1)).toNatClampNeg) (I_710 1999 (v3_18 + (nI 2)).toNatClampNeg) I_710 R_18 G_12) (fun r_724 I_724 => if r_710 = r_724 then (o_b1 (some (v3_18 + (nI 6))) (fun x3_1711 => some (Sum.inl (x3_1711, I_724, J_18, R_18)))) else (some (Sum.inr (Sum.inl (I_724, J_18, R_18))))))))))))) else (if d_33 = (14 : Int32) then (o_g (o_il G_12 (v3_18 + (nI 1))) (o_g (o_kd G_12 n_0 10) (o_b2 (m_153 n_0 (I_18 1999 (v3_18 + (nI 1)).toNatClampNeg) I_18 R_18 G_12) (fun r_738 I_738 => o_g (o_il G_12 (v3_18 + (nI 1))) (o_g (o_kd G_12 n_8 11) (o_b2 (m_277 n_8 (I_738 1999 (v3_18 + (nI 1)).toNatClampNeg) I_738 R_18 G_12) (fun r_747 I_747 => if r_738 = r_747 then (o_b1 (some (v3_18 + (nI 6))) (fun x3_1711 => some (Sum.inl (x3_1711, I_747, J_18, R_18)))) else (some (Sum.inr (Sum.inl (I_747, J_18, R_18))))))))))) else (if d_33 = (15 : Int32) then (o_g (o_il G_12 (v3_18 + (nI 1))) (o_g (o_il G_12 (v3_18 + (nI 2))) (o_g (o_kd G_12 n_0 10) (o_b2 (m_154 n_0 (I_18 1999 (v3_18 + (nI 1)).toNatClampNeg) (I_18 1999 (v3_18 + (nI 2)).toNatClampNeg) I_18 R_18 G_12) (fun r_766 I_766 => o_g (o_il G_12 (v3_18 + (nI 1))) (o_g (o_il G_12 (v3_18 + (nI 2))) (o_g (o_kd G_12 n_8 11) (o_b2 (m_278 n_8 (I_766 1999 (v3_18 + (nI 1)).toNatClampNeg) (I_766 1999 (v3_18 + (nI 2)).toNatClampNeg) I_766 R_18 G_12) (fun r_780 I_780 => if r_766 = r_780 then (o_b1 (some (v3_18 + (nI 6))) (fun x3_1711 => some (Sum.inl (x3_1711, I_780, J_18, R_18)))) else (some (Sum.inr (Sum.inl (I_780, J_18, R_18))))))))))))) else (if d_33 = (16 : Int32) then (o_g (o_il G_12 (v3_18 + (nI 1))) (o_g (o_il G_12 (v3_18 + (nI 2))) (o_g (o_kd G_12 n_0 10) (o_b2 (m_155 n_0 (I_18 1999 (v3_18 + (nI 1)).toNatClampNeg) (I_18 1999 (v3_18 + (nI 2)).toNatClampNeg) I_18 R_18 G_12) (fun r_799 I_799 => o_g (o_il G_12 (v3_18 + (nI 1))) (o_g (o_il G_12 (v3_18 + (nI 2))) (o_g (o_kd G_12 n_8 11) (o_b2 (m_280 n_8 (I_799 1999 (v3_18 + (nI 1)).toNatClampNeg) (I_799 1999 (v3_18 + (nI 2)).toNatClampNeg) I_799 R_18 G_12) (fun r_813 I_813 => if r_799 = r_813 then (o_b1 (some (v3_18 + (nI 6))) (fun x3_1711 => some (Sum.inl (x3_1711, I_813, J_18, R_18)))) else (some (Sum.inr (Sum.inl (I_813, J_18, R_18))))))))))))) else (if d_33 = (17 : Int32) then (o_g (o_il G_12 (v3_18 + (nI 1))) (o_g (o_il G_12 (v3_18 + (nI 2))) (o_g (o_il G_12 (v3_18 + (nI 3))) (o_g (o_kd G_12 n_0 10) (o_b2 (m_156 n_0 (I_18 1999 (v3_18 + (nI 1)).toNatClampNeg) (I_18 1999 (v3_18 + (nI 2)).toNatClampNeg) (I_18 1999 (v3_18 + (nI 3)).toNatClampNeg) I_18 R_18 G_12) (fun r_837 I_837 => o_g (o_il G_12 (v3_18 + (nI 1))) (o_g (o_il G_12 (v3_18 + (nI 2))) (o_g (o_il G_12 (v3_18 + (nI 3))) (o_g (o_kd G_12 n_8 11) (o_b2 (m_286 n_8 (I_837 1999 (v3_18 + (nI 1)).toNatClampNeg) (I_837 1999 (v3_18 + (nI 2)).toNatClampNeg) (I_837 1999 (v3_18 + (nI 3)).toNatClampNeg) I_837 R_18 G_12) (fun r_856 I_856 => if r_837 = r_856 then (o_b1 (some (v3_18 + (nI 6))) (fun x3_1711 => some (Sum.inl (x3_1711, I_856, J_18, R_18)))) else (some (Sum.inr (Sum.inl (I_856, J_18, R_18))))))))))))))) else (if d_33 = (18 : Int32) then (o_g (o_il G_12 (v3_18 + (nI 1))) (o_g (o_il G_12 (v3_18 + (nI 2))) (o_g (o_il G_12 (v3_18 + (nI 3))) (o_g (o_kd G_12 n_0 10) (o_b2 (m_157 n_0 (I_18 1999 (v3_18 + (nI 1)).toNatClampNeg) (I_18 1999 (v3_18 + (nI 2)).toNatClampNeg) (I_18 1999 (v3_18 + (nI 3)).toNatClampNeg) I_18 R_18 G_12) (fun r_880 I_880 => o_g (o_il G_12 (v3_18 + (nI 1))) (o_g (o_il G_12 (v3_18 + (nI 2))) (o_g (o_il G_12 (v3_18 + (nI 3))) (o_g (o_kd G_12 n_8 11) (o_b2 (m_287 n_8 (I_880 1999 (v3_18 + (nI 1)).toNatClampNeg) (I_880 1999 (v3_18 + (nI 2)).toNatClampNeg) (I_880 1999 (v3_18 + (nI 3)).toNatClampNeg) I_880 R_18 G_12) (fun r_899 I_899 => if r_880 = r_899 then (o_b1 (some (v3_18 + (nI 6))) (fun x3_1711 => some (Sum.inl (x3_1711, I_899, J_18, R_18)))) else (some (Sum.inr (Sum.inl (I_899, J_18, R_18))))))))))))))) else (if d_33 = (19 : Int32) then (o_g (o_il G_12 (v3_18 + (nI 1))) (o_g (o_il G_12 (v3_18 + (nI 2))) (o_g (o_kd G_12 n_0 10) (o_b2 (m_158 n_0 (I_18 1999 (v3_18 + (nI 1)).toNatClampNeg) (I_18 1999 (v3_18 + (nI 2)).toNatClampNeg) I_18 R_18 G_12) (fun r_918 I_918 => o_g (o_il G_12 (v3_18 + (nI 1))) (o_g (o_il G_12 (v3_18 + (nI 2))) (o_g (o_kd G_12 n_8 11) (o_b2 (m_290 n_8 (I_918 1999 (v3_18 + (nI 1)).toNatClampNeg) (I_918 1999 (v3_18 + (nI 2)).toNatClampNeg) I_918 R_18 G_12) (fun r_932 I_932 => if r_918 = r_932 then (o_b1 (some (v3_18 + (nI 6))) (fun x3_1711 => some (Sum.inl (x3_1711, I_932, J_18, R_18)))) else (some (Sum.inr (Sum.inl (I_932, J_18, R_18))))))))))))) else (if d_33 = (20 : Int32) then (o_g (o_il G_12 (v3_18 + (nI 1))) (o_g (o_il G_12 (v3_18 + (nI 2))) (o_g (o_kd G_12 n_0 10) (o_b1 (m_159 n_0 (I_18 1999 (v3_18 + (nI 1)).toNatClampNeg) (I_18 1999 (v3_18 + (nI 2)).toNatClampNeg) I_18 R_18 G_12) (fun r_951 => o_g (o_il G_12 (v3_18 + (nI 1))) (o_g (o_il G_12 (v3_18 + (nI 2))) (o_g (o_kd G_12 n_8 11) (o_b1 (m_291 n_8 (I_18 1999 (v3_18 + (nI 1)).toNatClampNeg) (I_18 1999 (v3_18 + (nI 2)).toNatClampNeg) I_18 R_18 G_12) (fun r_965 => if r_951 = r_965 then (o_b1 (some (v3_18 + (nI 6))) (fun x3_1711 => some (Sum.inl (x3_1711, I_18, J_18, R_18)))) else (some (Sum.inr (Sum.inl (I_18, J_18, R_18))))))))))))) else (if d_33 = (21 : Int32) then (o_g (o_il G_12 (v3_18 + (nI 1))) (o_g (o_il G_12 (v3_18 + (nI 2))) (o_g (o_il G_12 (v3_18 + (nI 3))) (o_g (o_kd G_12 n_0 10) (o_b1 (m_160 n_0 (I_18 1999 (v3_18 + (nI 1)).toNatClampNeg) (I_18 1999 (v3_18 + (nI 2)).toNatClampNeg) (I_18 1999 (v3_18 + (nI 3)).toNatClampNeg) I_18 R_18 G_12) (fun r_989 => o_g (o_il G_12 (v3_18 + (nI 1))) (o_g (o_il G_12 (v3_18 + (nI 2))) (o_g (o_il G_12 (v3_18 + (nI 3))) (o_g (o_kd G_12 n_8 11) (o_b1 (m_293 n_8 (I_18 1999 (v3_18 + (nI 1)).toNatClampNeg) (I_18 1999 (v3_18 + (nI 2)).toNatClampNeg) (I_18 1999 (v3_18 + (nI 3)).toNatClampNeg) I_18 R_18 G_12) (fun r_1008 => if (ai_cmp r_989 r_1008) = 0 then (o_b1 (some (v3_18 + (nI 6))) (fun x3_1711 => some (Sum.inl (x3_1711, I_18, J_18, R_18)))) else (some (Sum.inr (Sum.inl (I_18, J_18, R_18))))))))))))))) else (if d_33 = (22 : Int32) then (o_g (o_il G_12 (v3_18 + (nI 1))) (o_g (o_il G_12 (v3_18 + (nI 2))) (o_g (o_il G_12 (v3_18 + (nI 3))) (o_g (o_kd G_12 n_0 10) (o_b1 (m_161 n_0 (I_18 1999 (v3_18 + (nI 1)).toNatClampNeg) (I_18 1999 (v3_18 + (nI 2)).toNatClampNeg) (I_18 1999 (v3_18 + (nI 3)).toNatClampNeg) I_18 R_18 G_12) (fun r_1033 => o_g (o_il G_12 (v3_18 + (nI 1))) (o_g (o_il G_12 (v3_18 + (nI 2))) (o_g (o_il G_12 (v3_18 + (nI 3))) (o_g (o_kd G_12 n_8 11) (o_b1 (m_296 n_8 (I_18 1999 (v3_18 + (nI 1)).toNatClampNeg) (I_18 1999 (v3_18 + (nI 2)).toNatClampNeg) (I_18 1999 (v3_18 + (nI 3)).toNatClampNeg) I_18 R_18 G_12) (fun r_1052 => if (ai_cmp r_1033 r_1052) = 0 then (o_b1 (some (v3_18 + (nI 6))) (fun x3_1711 => some (Sum.inl (x3_1711, I_18, J_18, R_18)))) else (some (Sum.inr (Sum.inl (I_18, J_18, R_18))))))))))))))) else (if d_33 = (23 : Int32) then (o_g (o_il G_12 (v3_18 + (nI 1))) (o_g (o_il G_12 (v3_18 + (nI 2))) (o_g (o_kd G_12 n_0 10) (o_b1 (m_162 n_0 (I_18 1999 (v3_18 + (nI 1)).toNatClampNeg) (I_18 1999 (v3_18 + (nI 2)).toNatClampNeg) I_18 R_18 G_12) (fun r_1072 => o_g (o_il G_12 (v3_18 + (nI 1))) (o_g (o_il G_12 (v3_18 + (nI 2))) (o_g (o_kd G_12 n_8 11) (o_b1 (m_297 n_8 (I_18 1999 (v3_18 + (nI 1)).toNatClampNeg) (I_18 1999 (v3_18 + (nI 2)).toNatClampNeg) I_18 R_18 G_12) (fun r_1086 => if r_1072 = r_1086 then (o_b1 (some (v3_18 + (nI 6))) (fun x3_1711 => some (Sum.inl (x3_1711, I_18, J_18, R_18)))) else (some (Sum.inr (Sum.inl (I_18, J_18, R_18))))))))))))) else (if d_33 = (24 : Int32) then (o_g (o_il G_12 (v3_18 + (nI 1))) (o_g (o_il G_12 (v3_18 + (nI 2))) (o_g (o_kd G_12 n_0 10) (o_b1 (m_163 n_0 (I_18 1999 (v3_18 + (nI 1)).toNatClampNeg) (I_18 1999 (v3_18 + (nI 2)).toNatClampNeg) I_18 R_18 G_12) (fun r_1105 => o_g (o_il G_12 (v3_18 + (nI 1))) (o_g (o_il G_12 (v3_18 + (nI 2))) (o_g (o_kd G_12 n_8 11) (o_b1 (m_298 n_8 (I_18 1999 (v3_18 + (nI 1)).toNatClampNeg) (I_18 1999 (v3_18 + (nI 2)).toNatClampNeg) I_18 R_18 G_12) (fun r_1119 => if r_1105 = r_1119 then (o_b1 (some (v3_18 + (nI 6))) (fun x3_1711 => some (Sum.inl (x3_1711, I_18, J_18, R_18)))) else (some (Sum.inr (Sum.inl (I_18, J_18, R_18))))))))))))) else (if d_33 = (25 : Int32) then (o_g (o_il G_12 (v3_18 + (nI 1))) (o_g (o_il G_12 (v3_18 + (nI 2))) (o_g (o_il G_12 (v3_18 + (nI 3))) (o_g (o_kd G_12 n_0 10) (o_b2 (m_164 n_0 (I_18 1999 (v3_18 + (nI 1)).toNatClampNeg) (I_18 1999 (v3_18 + (nI 2)).toNatClampNeg) (I_18 1999 (v3_18 + (nI 3)).toNatClampNeg) I_18 R_18 G_12) (fun r_1143 I_1143 => o_g (o_il G_12 (v3_18 + (nI 1))) (o_g (o_il G_12 (v3_18 + (nI 2))) (o_g (o_il G_12 (v3_18 + (nI 3))) (o_g (o_kd G_12 n_8 11) (o_b1 (m_300 n_8 (I_1143 1999 (v3_18 + (nI 1)).toNatClampNeg) (I_1143 1999 (v3_18 + (nI 2)).toNatClampNeg) (I_1143 1999 (v3_18 + (nI 3)).toNatClampNeg) I_1143 R_18 G_12) (fun r_1162 => if r_1143 = r_1162 then (o_b1 (some (v3_18 + (nI 6))) (fun x3_1711 => some (Sum.inl (x3_1711, I_1143, J_18, R_18)))) else (some (Sum.inr (Sum.inl (I_1143, J_18, R_18))))))))))))))) else (if d_33 = (26 : Int32) then (o_g (o_il G_12 (v3_18 + (nI 1))) (o_g (o_il G_12 (v3_18 + (nI 2))) (o_g (o_kd G_12 n_0 10) (o_b2 (m_165 n_0 (I_18 1999 (v3_18 + (nI 1)).toNatClampNeg) (I_18 1999 (v3_18 + (nI 2)).toNatClampNeg) I_18 R_18 G_12) (fun r_1181 I_1181 => o_g (o_il G_12 (v3_18 + (nI 1))) (o_g (o_il G_12 (v3_18 + (nI 2))) (o_g (o_kd G_12 n_8 11) (o_b1 (m_301 n_8 (I_1181 1999 (v3_18 + (nI 1)).toNatClampNeg) (I_1181 1999 (v3_18 + (nI 2)).toNatClampNeg) I_1181 R_18 G_12) (fun r_1195 => if r_1181 = r_1195 then (o_b1 (some (v3_18 + (nI 6))) (fun x3_1711 => some (Sum.inl (x3_1711, I_1181, J_18, R_18)))) else (some (Sum.inr (Sum.inl (I_1181, J_18, R_18))))))))))))) else (if d_33 = (27 : Int32) then (o_g (o_il G_12 (v3_18 + (nI 1))) (o_g (o_il G_12 (v3_18 + (nI 2))) (o_g (o_il G_12 (v3_18 + (nI 3))) (o_g (o_il G_12 (v3_18 + (nI 4))) (o_g (o_kd G_12 n_0 10) (o_b2 (m_166 n_0 (I_18 1999 (v3_18 + (nI 1)).toNatClampNeg) (I_18 1999 (v3_18 + (nI 2)).toNatClampNeg) (I_18 1999 (v3_18 + (nI 3)).toNatClampNeg) (I_18 1999 (v3_18 + (nI 4)).toNatClampNeg) I_18 R_18 G_12) (fun r_1224 I_1224 => o_g (o_il G_12 (v3_18 + (nI 1))) (o_g (o_il G_12 (v3_18 + (nI 2))) (o_g (o_il G_12 (v3_18 + (nI 3))) (o_g (o_il G_12 (v3_18 + (nI 4))) (o_g (o_kd G_12 n_8 11) (o_b2 (m_304 n_8 (I_1224 1999 (v3_18 + (nI 1)).toNatClampNeg) (I_1224 1999 (v3_18 + (nI 2)).toNatClampNeg) (I_1224 1999 (v3_18 + (nI 3)).toNatClampNeg) (I_1224 1999 (v3_18 + (nI 4)).toNatClampNeg) I_1224 R_18 G_12) (fun r_1248 I_1248 => if r_1224 = r_1248 then (o_b1 (some (v3_18 + (nI 6))) (fun x3_1711 => some (Sum.inl (x3_1711, I_1248, J_18, R_18)))) else (some (Sum.inr (Sum.inl (I_1248, J_18, R_18))))))))))))))))) else (if d_33 = (28 : Int32) then (o_g (o_il G_12 (v3_18 + (nI 1))) (o_g (o_il G_12 (v3_18 + (nI 2))) (o_g (o_kd G_12 n_0 10) (o_b2 (m_167 n_0 (I_18 1999 (v3_18 + (nI 1)).toNatClampNeg) (I_18 1999 (v3_18 + (nI 2)).toNatClampNeg) I_18 R_18 G_12) (fun r_1267 I_1267 => o_g (o_il G_12 (v3_18 + (nI 1))) (o_g (o_il G_12 (v3_18 + (nI 2))) (o_g (o_kd G_12 n_8 11) (o_b2 (m_310 n_8 (I_1267 1999 (v3_18 + (nI 1)).toNatClampNeg) (I_1267 1999 (v3_18 + (nI 2)).toNatClampNeg) I_1267 R_18 G_12) (fun r_1281 I_1281 => if r_1267 = r_1281 then (o_b1 (some (v3_18 + (nI 6))) (fun x3_1711 => some (Sum.inl (x3_1711, I_1281, J_18, R_18)))) else (some (Sum.inr (Sum.inl (I_1281, J_18, R_18))))))))))))) else (if d_33 = (29 : Int32) then (o_g (o_il G_12 (v3_18 + (nI 1))) (o_g (o_il G_12 (v3_18 + (nI 2))) (o_g (o_il G_12 (v3_18 + (nI 3))) (o_g (o_kd G_12 n_0 10) (o_b3 (m_168 n_0 (I_18 1999 (v3_18 + (nI 1)).toNatClampNeg) (I_18 1999 (v3_18 + (nI 2)).toNatClampNeg) (I_18 1999 (v3_18 + (nI 3)).toNatClampNeg) I_18 J_18 R_18 G_12) (fun r_1305 I_1305 J_1305 => o_g (o_il G_12 (v3_18 + (nI 1))) (o_g (o_il G_12 (v3_18 + (nI 2))) (o_g (o_il G_12 (v3_18 + (nI 3))) (o_g (o_kd G_12 n_8 11) (o_b2 (m_315 n_8 (I_1305 1999 (v3_18 + (nI 1)).toNatClampNeg) (I_1305 1999 (v3_18 + (nI 2)).toNatClampNeg) (I_1305 1999 (v3_18 + (nI 3)).toNatClampNeg) I_1305 R_18 G_12) (fun r_1324 I_1324 => if r_1305 = r_1324 then (o_b1 (some (v3_18 + (nI 6))) (fun x3_1711 => some (Sum.inl (x3_1711, I_1324, J_1305, R_18)))) else (some (Sum.inr (Sum.inl (I_1324, J_1305, R_18))))))))))))))) else (if d_33 = (30 : Int32) then (o_g (o_il G_12 (v3_18 + (nI 1))) (o_g (o_kd G_12 n_0 10) (o_b1 (m_169 n_0 (I_18 1999 (v3_18 + (nI 1)).toNatClampNeg) I_18 R_18 G_12) (fun r_1338 => o_g (o_il G_12 (v3_18 + (nI 1))) (o_g (o_kd G_12 n_8 11) (o_b1 (m_318 n_8 (I_18 1999 (v3_18 + (nI 1)).toNatClampNeg) I_18 R_18 G_12) (fun r_1347 => if r_1338 = r_1347 then (o_b1 (some (v3_18 + (nI 6))) (fun x3_1711 => some (Sum.inl (x3_1711, I_18, J_18, R_18)))) else (some (Sum.inr (Sum.inl (I_18, J_18, R_18))))))))))) else (if d_33 = (31 : Int32) then (o_g (o_il G_12 (v3_18 + (nI 1))) (o_g (o_il G_12 (v3_18 + (nI 2))) (o_g (o_il G_12 (v3_18 + (nI 3))) (o_g (o_il G_12 (v3_18 + (nI 4))) (o_g (o_kd G_12 n_0 10) (o_b2 (m_170 n_0 (I_18 1999 (v3_18 + (nI 1)).toNatClampNeg) (I_18 1999 (v3_18 + (nI 2)).toNatClampNeg) (I_18 1999 (v3_18 + (nI 3)).toNatClampNeg) (I_18 1999 (v3_18 + (nI 4)).toNatClampNeg) I_18 R_18 G_12) (fun r_1376 I_1376 => o_g (o_il G_12 (v3_18 + (nI 1))) (o_g (o_il G_12 (v3_18 + (nI 2))) (o_g (o_il G_12 (v3_18 + (nI 3))) (o_g (o_il G_12 (v3_18 + (nI 4))) (o_g (o_kd G_12 n_8 11) (o_b1 (m_319 n_8 (I_1376 1999 (v3_18 + (nI 1)).toNatClampNeg) (I_1376 1999 (v3_18 + (nI 2)).toNatClampNeg) (I_1376 1999 (v3_18 + (nI 3)).toNatClampNeg) (I_1376 1999 (v3_18 + (nI 4)).toNatClampNeg) I_1376 R_18 G_12) (fun r_1400 => if r_1376 = r_1400 then (o_b1 (some (v3_18 + (nI 6))) (fun x3_1711 => some (Sum.inl (x3_1711, I_1376, J_18, R_18)))) else (some (Sum.inr (Sum.inl (I_1376, J_18, R_18))))))))))))))))) else (if d_33 = (32 : Int32) then (o_g (o_il G_12 (v3_18 + (nI 1))) (o_g (o_il G_12 (v3_18 + (nI 2))) (o_g (o_kd G_12 n_0 10) (o_b2 (m_171 n_0 (I_18 1999 (v3_18 + (nI 1)).toNatClampNeg) (I_18 1999 (v3_18 + (nI 2)).toNatClampNeg) I_18 R_18 G_12) (fun r_1419 I_1419 => o_g (o_il G_12 (v3_18 + (nI 1))) (o_g (o_il G_12 (v3_18 + (nI 2))) (o_g (o_kd G_12 n_8 11) (o_b2 (m_320 n_8 (I_1419 1999 (v3_18 + (nI 1)).toNatClampNeg) (I_1419 1999 (v3_18 + (nI 2)).toNatClampNeg) I_1419 R_18 G_12) (fun r_1433 I_1433 => if r_1419 = r_1433 then (o_b1 (some (v3_18 + (nI 6))) (fun x3_1711 => some (Sum.inl (x3_1711, I_1433, J_18, R_18)))) else (some (Sum.inr (Sum.inl (I_1433, J_18, R_18))))))))))))) else (if d_33 = (33 : Int32) then (o_g (o_il G_12 (v3_18 + (nI 1))) (o_g (o_il G_12 (v3_18 + (nI 2))) (o_g (o_kd G_12 n_0 10) (o_b1 (m_172 n_0 (I_18 1999 (v3_18 + (nI 1)).toNatClampNeg) (I_18 1999 (v3_18 + (nI 2)).toNatClampNeg) I_18 R_18 G_12) (fun r_1452 => o_g (o_il G_12 (v3_18 + (nI 1))) (o_g (o_il G_12 (v3_18 + (nI 2))) (o_g (o_kd G_12 n_8 11) (o_b1 (m_321 n_8 (I_18 1999 (v3_18 + (nI 1)).toNatClampNeg) (I_18 1999 (v3_18 + (nI 2)).toNatClampNeg) I_18 R_18 G_12) (fun r_1466 => if r_1452 = r_1466 then (o_b1 (some (v3_18 + (nI 6))) (fun x3_1711 => some (Sum.inl (x3_1711, I_18, J_18, R_18)))) else (some (Sum.inr (Sum.inl (I_18, J_18, R_18))))))))))))) else (if d_33 = (34 : Int32) then (o_g (o_il G_12 (v3_18 + (nI 1))) (o_g (o_il G_12 (v3_18 + (nI 2))) (o_g (o_kd G_12 n_0 10) (o_b2 (m_173 n_0 (I_18 1999 (v3_18 + (nI 1)).toNatClampNeg) (I_18 1999 (v3_18 + (nI 2)).toNatClampNeg) I_18 R_18 G_12) (fun r_1485 I_1485 => o_g (o_il G_12 (v3_18 + (nI 1))) (o_g (o_il G_12 (v3_18 + (nI 2))) (o_g (o_kd G_12 n_8 11) (o_b2 (m_307 n_8 (I_1485 1999 (v3_18 + (nI 1)).toNatClampNeg) (I_1485 1999 (v3_18 + (nI 2)).toNatClampNeg) I_1485 R_18 G_12) (fun r_1499 I_1499 => if r_1485 = r_1499 then (o_b1 (some (v3_18 + (nI 6))) (fun x3_1711 => some (Sum.inl (x3_1711, I_1499, J_18, R_18)))) else (some (Sum.inr (Sum.inl (I_1499, J_18, R_18))))))))))))) else (if d_33 = (35 : Int32) then (o_g (o_il G_12 (v3_18 + (nI 1))) (o_g (o_il G_12 (v3_18 + (nI 2))) (o_g (o_kd G_12 n_0 10) (o_b1 (m_174 n_0 (I_18 1999 (v3_18 + (nI 1)).toNatClampNeg) (I_18 1999 (v3_18 + (nI 2)).toNatClampNeg) I_18 R_18 G_12) (fun r_1518 => o_g (o_il G_12 (v3_18 + (nI 1))) (o_g (o_il G_12 (v3_18 + (nI 2))) (o_g (o_kd G_12 n_8 11) (o_b1 (m_243 n_8 (I_18 1999 (v3_18 + (nI 1)).toNatClampNeg) (I_18 1999 (v3_18 + (nI 2)).toNatClampNeg) I_18 R_18 G_12) (fun r_1532 => if r_1518 = r_1532 then (o_b1 (some (v3_18 + (nI 6))) (fun x3_1711 => some (Sum.inl (x3_1711, I_18, J_18, R_18)))) else (some (Sum.inr (Sum.inl (I_18, J_18, R_18))))))))))))) else (if d_33 = (36 : Int32) then (o_g (o_il G_12 (v3_18 + (nI 1))) (o_g (o_il G_12 (v3_18 + (nI 2))) (o_g (o_il G_12 (v3_18 + (nI 3))) (o_g (o_kd G_12 n_0 10) (o_b1 (m_175 n_0 (I_18 1999 (v3_18 + (nI 1)).toNatClampNeg) (I_18 1999 (v3_18 + (nI 2)).toNatClampNeg) (I_18 1999 (v3_18 + (nI 3)).toNatClampNeg) I_18 R_18 G_12) (fun r_1556 => o_g (o_il G_12 (v3_18 + (nI 1))) (o_g (o_il G_12 (v3_18 + (nI 2))) (o_g (o_il G_12 (v3_18 + (nI 3))) (o_g (o_kd G_12 n_8 11) (o_b2 (m_324 n_8 (I_18 1999 (v3_18 + (nI 1)).toNatClampNeg) (I_18 1999 (v3_18 + (nI 2)).toNatClampNeg) (I_18 1999 (v3_18 + (nI 3)).toNatClampNeg) I_18 R_18 G_12) (fun r_1575 I_1575 => if r_1556 = r_1575 then (o_b1 (some (v3_18 + (nI 6))) (fun x3_1711 => some (Sum.inl (x3_1711, I_1575, J_18, R_18)))) else (some (Sum.inr (Sum.inl (I_1575, J_18, R_18))))))))))))))) else (if d_33 = (37 : Int32) then (o_g (o_il G_12 (v3_18 + (nI 1))) (o_g (o_il G_12 (v3_18 + (nI 2))) (o_g (o_kd G_12 n_0 10) (o_b2 (m_176 n_0 (I_18 1999 (v3_18 + (nI 1)).toNatClampNeg) (I_18 1999 (v3_18 + (nI 2)).toNatClampNeg) I_18 R_18 G_12) (fun r_1594 I_1594 => o_g (o_il G_12 (v3_18 + (nI 1))) (o_g (o_il G_12 (v3_18 + (nI 2))) (o_g (o_kd G_12 n_8 11) (o_b2 (m_325 n_8 (I_1594 1999 (v3_18 + (nI 1)).toNatClampNeg) (I_1594 1999 (v3_18 + (nI 2)).toNatClampNeg) I_1594 R_18 G_12) (fun r_1608 I_1608 => if r_1594 = r_1608 then (o_b1 (some (v3_18 + (nI 6))) (fun x3_1711 => some (Sum.inl (x3_1711, I_1608, J_18, R_18)))) else (some (Sum.inr (Sum.inl (I_1608, J_18, R_18))))))))))))) else (if d_33 = (38 : Int32) then (o_g (o_il G_12 (v3_18 + (nI 1))) (o_g (o_kd G_12 n_0 10) (o_b2 (m_177 n_0 (I_18 1999 (v3_18 + (nI 1)).toNatClampNeg) I_18 R_18 G_12) (fun r_1622 I_1622 => o_g (o_il G_12 (v3_18 + (nI 1))) (o_g (o_kd G_12 n_8 11) (o_b2 (m_326 n_8 (I_1622 1999 (v3_18 + (nI 1)).toNatClampNeg) I_1622 R_18 G_12) (fun r_1631 I_1631 => if r_1622 = r_1631 then (o_b1 (some (v3_18 + (nI 6))) (fun x3_1711 => some (Sum.inl (x3_1711, I_1631, J_18, R_18)))) else (some (Sum.inr (Sum.inl (I_1631, J_18, R_18))))))))))) else (if d_33 = (39 : Int32) then (o_g (o_il G_12 (v3_18 + (nI 1))) (o_g (o_kd G_12 n_0 10) (o_b1 (m_178 n_0 (I_18 1999 (v3_18 + (nI 1)).toNatClampNeg) I_18 R_18 G_12) (fun r_1645 => o_g (o_il G_12 (v3_18 + (nI 1))) (o_g (o_kd G_12 n_8 11) (o_b1 (m_327 n_8 (I_18 1999 (v3_18 + (nI 1)).toNatClampNeg) I_18 R_18 G_12) (fun r_1654 => if r_1645 = r_1654 then (o_b1 (some (v3_18 + (nI 6))) (fun x3_1711 => some (Sum.inl (x3_1711, I_18, J_18, R_18)))) else (some (Sum.inr (Sum.inl (I_18, J_18, R_18))))))))))) else (if d_33 = (40 : Int32) then (o_g (o_kd G_12 n_0 10) (o_b2 (m_179 n_0 I_18 R_18 G_12) (fun r_1663 I_1663 => o_g (o_kd G_12 n_8 11) (o_b2 (m_328 n_8 I_1663 R_18 G_12) (fun r_1667 I_1667 => if r_1663 = r_1667 then (o_b1 (some (v3_18 + (nI 6))) (fun x3_1711 => some (Sum.inl (x3_1711, I_1667, J_18, R_18)))) else (some (Sum.inr (Sum.inl (I_1667, J_18, R_18))))))))) else (if d_33 = (41 : Int32) then (o_g (o_kd G_12 n_0 10) (o_b2 (m_180 n_0 I_18 R_18 G_12) (fun r_1676 I_1676 => o_g (o_kd G_12 n_8 11) (o_b2 (m_329 n_8 I_1676 R_18 G_12) (fun r_1680 I_1680 => if r_1676 = r_1680 then (o_b1 (some (v3_18 + (nI 6))) (fun x3_1711 => some (Sum.inl (x3_1711, I_1680, J_18, R_18)))) else (some (Sum.inr (Sum.inl (I_1680, J_18, R_18))))))))) else (if d_33 = (42 : Int32) then (o_g (o_il G_12 (v3_18 + (nI 1))) (o_g (o_kd G_12 n_0 10) (o_b2 (m_181 n_0 (I_18 1999 (v3_18 + (nI 1)).toNatClampNeg) I_18 R_18 G_12) (fun r_1694 I_1694 => o_g (o_il G_12 (v3_18 + (nI 1))) (o_g (o_kd G_12 n_8 11) (o_b2 (m_330 n_8 (I_1694 1999 (v3_18 + (nI 1)).toNatClampNeg) I_1694 R_18 G_12) (fun r_1703 I_1703 => if r_1694 = r_1703 then (o_b1 (some (v3_18 + (nI 6))) (fun x3_1711 => some (Sum.inl (x3_1711, I_1703, J_18, R_18)))) else (some (Sum.inr (Sum.inl (I_1703, J_18, R_18))))))))))) else (o_b1 (some (v3_18 + (nI 6))) (fun x3_1711 => some (Sum.inl (x3_1711, I_18, J_18, R_18)))))))))))))))))))))))))))))))))))))))))))))))))
/-- PricedBasesLaw.law([I)Z -/
def m_333 (I : ai_I) (J : ai_J) (Rf : ai_R) (G : ai_G) : Option (Int32) :=
  o_g (o_lt9 G) (o_b1 (some (va_up I (G.2.2 + 1) (fun _ => 0))) (fun I_0 => o_b1 (some (va_up J (G.2.2 + 1) (fun _ => 0))) (fun J_0 => o_b1 (some (va_up Rf (G.2.2 + 1) (fun _ => 0))) (fun R_0 => o_b1 (some (va_up G.1 (G.2.2 + 1) 10, G.2.1, G.2.2 + 1)) (fun G_0 => o_b1 (some (G.2.2 + 1)) (fun n_0 => o_b4 (m_136 n_0 I_0 J_0 R_0 G_0) (fun I_4 J_4 R_4 G_4 => o_g (o_lt9 G_4) (o_b1 (some (va_up I_4 (G_4.2.2 + 1) (fun _ => 0))) (fun I_8 => o_b1 (some (va_up J_4 (G_4.2.2 + 1) (fun _ => 0))) (fun J_8 => o_b1 (some (va_up R_4 (G_4.2.2 + 1) (fun _ => 0))) (fun R_8 => o_b1 (some (va_up G_4.1 (G_4.2.2 + 1) 11, G_4.2.1, G_4.2.2 + 1)) (fun G_8 => o_b1 (some (G_4.2.2 + 1)) (fun n_8 => o_b4 (m_188 n_8 I_8 J_8 R_8 G_8) (fun I_12 J_12 R_12 G_12 => o_s2 (lp (fun s => m_333_b18 n_0 n_8 G_12 s.1 s.2.1 s.2.2.1 s.2.2.2) o_N ((nI 0), I_12, J_12, R_12)) (fun t => m_333_x18_281 t.1 t.2.1 t.2.2) (fun t => m_333_x18_1717 t.1 t.2.1 t.2.2)))))))))))))))
set_option maxHeartbeats 20000000 in
set_option maxRecDepth 100000 in
theorem md_law {I : ai_I} {J : ai_J} {Rf : ai_R} {G : ai_G} {r : Int32} (h : m_333 I J Rf G = some r) : ai_Go si_t si_F (ai_Cl si_t si_ms 11) (fun v _ _ _ _ => v = some (.inl r)) 0 (ai_ent 4 [.inr (.inr 1999)]) [] (600000, 7302250) I J Rf G := by
  unfold m_333 at h
  show ai_Go si_t si_F (ai_Cl si_t si_ms 11) (fun v _ _ _ _ => v = some (.inl r)) 0 [some (.inr (.inr 1999)), none, none, none] [] (600000, 7302250) I J Rf G
  obtain ⟨g0, h⟩ := o_gE h
  refine go_new (pc' := 3) (q := 10) (nf := 15) rfl rfl rfl (by decide) (by decide) (o_lt9E g0) rfl ?_
  obtain ⟨I_0, eI_0, h⟩ := o_b1E h
  obtain ⟨J_0, eJ_0, h⟩ := o_b1E h
  obtain ⟨R_0, eR_0, h⟩ := o_b1E h
  obtain ⟨G_0, eG_0, h⟩ := o_b1E h
  obtain ⟨n_0, en_0, h⟩ := o_b1E h
  refine go_ndMI eI_0 ?_
  refine go_ndMJ eJ_0 ?_
  refine go_ndMR eR_0 ?_
  refine go_ndMG eG_0 ?_
  refine go_ndR en_0 ?_
  have gk_0 : G_0.1 n_0 = 10 := o_newK en_0 eG_0
  refine go_ndB (B' := (599999, 7302235)) rfl ?_
  refine go_dupR (pc' := 4) rfl rfl ?_
  obtain ⟨I_4, J_4, R_4, G_4, q_4, h⟩ := o_b4E h
  refine go_callI (pc' := 7) (B' := (599926, 7293399)) (st' := [.inr (.inr n_0)]) rfl rfl (Or.inl (by decide)) rfl rfl gk_0 (md_136 (by omega) gk_0 q_4) rfl rfl rfl ?_
  refine go_astore_n (pc' := 8) (lo' := [some (.inr (.inr 1999)), some (.inr (.inr n_0)), none, none]) rfl rfl rfl ?_
  obtain ⟨g1, h⟩ := o_gE h
  refine go_new (pc' := 11) (q := 11) (nf := 34) rfl rfl rfl (by decide) (by decide) (o_lt9E g1) rfl ?_
  obtain ⟨I_8, eI_8, h⟩ := o_b1E h
  obtain ⟨J_8, eJ_8, h⟩ := o_b1E h
  obtain ⟨R_8, eR_8, h⟩ := o_b1E h
  obtain ⟨G_8, eG_8, h⟩ := o_b1E h
  obtain ⟨n_8, en_8, h⟩ := o_b1E h
  refine go_ndMI eI_8 ?_
  refine go_ndMJ eJ_8 ?_
  refine go_ndMR eR_8 ?_
  refine go_ndMG eG_8 ?_
  refine go_ndR en_8 ?_
  have gk_8 : G_8.1 n_8 = 11 := o_newK en_8 eG_8
  refine go_ndB (B' := (599925, 7293365)) rfl ?_
  refine go_dupR (pc' := 12) rfl rfl ?_
  obtain ⟨I_12, J_12, R_12, G_12, q_12, h⟩ := o_b4E h
  refine go_callI (pc' := 15) (B' := (599907, 7285527)) (st' := [.inr (.inr n_8)]) rfl rfl (Or.inl (by decide)) rfl rfl gk_8 (md_188 (by omega) gk_8 q_12) rfl rfl rfl ?_
  refine go_astore_n (pc' := 16) (lo' := [some (.inr (.inr 1999)), some (.inr (.inr n_0)), some (.inr (.inr n_8)), none]) rfl rfl rfl ?_
  refine go_iconst (pc' := 17) (v := (nI 0)) rfl rfl rfl ?_
  refine go_istore_n (pc' := 18) (lo' := [some (.inr (.inr 1999)), some (.inr (.inr n_0)), some (.inr (.inr n_8)), some (.inl (nI 0))]) rfl rfl rfl ?_
  obtain ⟨q18, hl18, hc18_281, hc18_1717⟩ := o_s2E h
  have ex18_281 : ∀ (Ix_281 : ai_I) (Jx_281 : ai_J) (Rx_281 : ai_R) (z3_x281 : Option ai_V), (Sum.inl (Ix_281, Jx_281, Rx_281)) = q18 → ai_Go si_t si_F (ai_Cl si_t si_ms 11) (fun v _ _ _ _ => v = some (.inl r)) 281 [some (.inr (.inr 1999)), some (.inr (.inr n_0)), some (.inr (.inr n_8)), z3_x281] [] (599907, 7285527) Ix_281 Jx_281 Rx_281 G_12 := by
    intro Ix_281 Jx_281 Rx_281 z3_x281 hq
    have h : m_333_x18_281 Ix_281 Jx_281 Rx_281 = some r := hc18_281 (Ix_281, Jx_281, Rx_281) hq.symm
    unfold m_333_x18_281 at h
    refine go_iconst (pc' := 282) (v := (nI 0)) rfl rfl rfl ?_
    cases h
    exact go_iret rfl (rfl) rfl
  have ex18_1717 : ∀ (Ix_1717 : ai_I) (Jx_1717 : ai_J) (Rx_1717 : ai_R) (z3_x1717 : Option ai_V), (Sum.inr (Ix_1717, Jx_1717, Rx_1717)) = q18 → ai_Go si_t si_F (ai_Cl si_t si_ms 11) (fun v _ _ _ _ => v = some (.inl r)) 1717 [some (.inr (.inr 1999)), some (.inr (.inr n_0)), some (.inr (.inr n_8)), z3_x1717] [] (599907, 7285527) Ix_1717 Jx_1717 Rx_1717 G_12 := by
    intro Ix_1717 Jx_1717 Rx_1717 z3_x1717 hq
    have h : m_333_x18_1717 Ix_1717 Jx_1717 Rx_1717 = some r := hc18_1717 (Ix_1717, Jx_1717, Rx_1717) hq.symm
    unfold m_333_x18_1717 at h
    refine go_iconst (pc' := 1718) (v := (nI 1)) rfl rfl rfl ?_
    cases h
    exact go_iret rfl (rfl) rfl
  have lo18 : ∀ n s, lp (fun s => m_333_b18 n_0 n_8 G_12 s.1 s.2.1 s.2.2.1 s.2.2.2) n s = some q18 → (fun s => ai_Go si_t si_F (ai_Cl si_t si_ms 11) (fun v _ _ _ _ => v = some (.inl r)) 18 [some (.inr (.inr 1999)), some (.inr (.inr n_0)), some (.inr (.inr n_8)), some (.inl s.1)] [] (599907, 7285527) s.2.1 s.2.2.1 s.2.2.2 G_12) s := lp_go (fun s x18 hx hk18 => by
    obtain ⟨v3_18, I_18, J_18, R_18⟩ := s
    have h : m_333_b18 n_0 n_8 G_12 v3_18 I_18 J_18 R_18 = some x18 := hx
    clear hx
    show ai_Go si_t si_F (ai_Cl si_t si_ms 11) (fun v _ _ _ _ => v = some (.inl r)) 18 [some (.inr (.inr 1999)), some (.inr (.inr n_0)), some (.inr (.inr n_8)), some (.inl v3_18)] [] (599907, 7285527) I_18 J_18 R_18 G_12
    unfold m_333_b18 at h
    refine go_iload_n (pc' := 19) rfl rfl rfl ?_
    refine go_aload_n (pc' := 20) rfl rfl rfl ?_
    refine go_alen (pc' := 21) (n := G_12.2.1 1999) rfl (Or.inr rfl) rfl rfl ?_
    refine go_bipush (pc' := 23) (v := (nI 6)) rfl rfl rfl ?_
    refine go_isub (pc' := 24) rfl rfl ?_
    refine go_icmp_gt (pt := 1717) (pc' := 27) rfl rfl rfl (fun h24 => ?_) (fun h24 => ?_)
    · replace h := o_t h24 h
      exact ex18_1717 _ _ _ (some (.inl v3_18)) (lp_exitE h hk18)
    · replace h := o_f h24 h
      refine go_aload_n (pc' := 28) rfl rfl rfl ?_
      refine go_iload_n (pc' := 29) rfl rfl rfl ?_
      obtain ⟨g2, h⟩ := o_gE h
      refine go_iaload (pc' := 30) rfl (Or.inr rfl) (o_ilE g2) rfl ?_
      refine go_bipush (pc' := 32) (v := (nI 63)) rfl rfl rfl ?_
      refine go_iand (pc' := 33) rfl rfl ?_
      obtain ⟨d_33, ed_33, h⟩ := o_b1E h
      refine go_ndI ed_33 ?_
      by_cases c33_0 : d_33 = (0 : Int32)
      · replace h := o_t c33_0 h
        refine go_swIn (pc' := 220) 0 rfl rfl (by rw [c33_0]; decide) (by rw [c33_0]; decide) rfl ?_
        refine go_aload_n (pc' := 221) rfl rfl rfl ?_
        refine go_aload_n (pc' := 222) rfl rfl rfl ?_
        refine go_iload_n (pc' := 223) rfl rfl rfl ?_
        refine go_iconst (pc' := 224) (v := (nI 1)) rfl rfl rfl ?_
        refine go_iadd (pc' := 225) rfl rfl ?_
        obtain ⟨g3, h⟩ := o_gE h
        refine go_iaload (pc' := 226) rfl (Or.inr rfl) (o_ilE g3) rfl ?_
        refine go_aload_n (pc' := 227) rfl rfl rfl ?_
        refine go_iload_n (pc' := 228) rfl rfl rfl ?_
        refine go_iconst (pc' := 229) (v := (nI 2)) rfl rfl rfl ?_
        refine go_iadd (pc' := 230) rfl rfl ?_
        obtain ⟨g4, h⟩ := o_gE h
        refine go_iaload (pc' := 231) rfl (Or.inr rfl) (o_ilE g4) rfl ?_
        refine go_aload_n (pc' := 232) rfl rfl rfl ?_
        refine go_iload_n (pc' := 233) rfl rfl rfl ?_
        refine go_iconst (pc' := 234) (v := (nI 3)) rfl rfl rfl ?_
        refine go_iadd (pc' := 235) rfl rfl ?_
        obtain ⟨g5, h⟩ := o_gE h
        refine go_iaload (pc' := 236) rfl (Or.inr rfl) (o_ilE g5) rfl ?_
        refine go_aload_n (pc' := 237) rfl rfl rfl ?_
        refine go_iload_n (pc' := 238) rfl rfl rfl ?_
        refine go_iconst (pc' := 239) (v := (nI 4)) rfl rfl rfl ?_
        refine go_iadd (pc' := 240) rfl rfl ?_
        obtain ⟨g6, h⟩ := o_gE h
        refine go_iaload (pc' := 241) rfl (Or.inr rfl) (o_ilE g6) rfl ?_
        refine go_aload_n (pc' := 242) rfl rfl rfl ?_
        refine go_iload_n (pc' := 243) rfl rfl rfl ?_
        refine go_iconst (pc' := 244) (v := (nI 5)) rfl rfl rfl ?_
        refine go_iadd (pc' := 245) rfl rfl ?_
        obtain ⟨g7, h⟩ := o_gE h
        refine go_iaload (pc' := 246) rfl (Or.inr rfl) (o_ilE g7) rfl ?_
        obtain ⟨g8, h⟩ := o_gE h
        obtain ⟨r_246, I_246, q_246, h⟩ := o_b2E h
        refine go_callV (pc' := 249) (B' := (599907, 7285527)) (st' := [.inl r_246]) rfl rfl (Or.inl (by decide)) rfl rfl (o_kdE g8) (md_137 (by omega) (o_kdE g8) q_246) rfl rfl rfl ?_
        refine go_aload_n (pc' := 250) rfl rfl rfl ?_
        refine go_aload_n (pc' := 251) rfl rfl rfl ?_
        refine go_iload_n (pc' := 252) rfl rfl rfl ?_
        refine go_iconst (pc' := 253) (v := (nI 1)) rfl rfl rfl ?_
        refine go_iadd (pc' := 254) rfl rfl ?_
        obtain ⟨g9, h⟩ := o_gE h
        refine go_iaload (pc' := 255) rfl (Or.inr rfl) (o_ilE g9) rfl ?_
        refine go_aload_n (pc' := 256) rfl rfl rfl ?_
        refine go_iload_n (pc' := 257) rfl rfl rfl ?_
        refine go_iconst (pc' := 258) (v := (nI 2)) rfl rfl rfl ?_
        refine go_iadd (pc' := 259) rfl rfl ?_
        obtain ⟨g10, h⟩ := o_gE h
        refine go_iaload (pc' := 260) rfl (Or.inr rfl) (o_ilE g10) rfl ?_
        refine go_aload_n (pc' := 261) rfl rfl rfl ?_
        refine go_iload_n (pc' := 262) rfl rfl rfl ?_
        refine go_iconst (pc' := 263) (v := (nI 3)) rfl rfl rfl ?_
        refine go_iadd (pc' := 264) rfl rfl ?_
        obtain ⟨g11, h⟩ := o_gE h
        refine go_iaload (pc' := 265) rfl (Or.inr rfl) (o_ilE g11) rfl ?_
        refine go_aload_n (pc' := 266) rfl rfl rfl ?_
        refine go_iload_n (pc' := 267) rfl rfl rfl ?_
        refine go_iconst (pc' := 268) (v := (nI 4)) rfl rfl rfl ?_
        refine go_iadd (pc' := 269) rfl rfl ?_
        obtain ⟨g12, h⟩ := o_gE h
        refine go_iaload (pc' := 270) rfl (Or.inr rfl) (o_ilE g12) rfl ?_
        refine go_aload_n (pc' := 271) rfl rfl rfl ?_
        refine go_iload_n (pc' := 272) rfl rfl rfl ?_
        refine go_iconst (pc' := 273) (v := (nI 5)) rfl rfl rfl ?_
        refine go_iadd (pc' := 274) rfl rfl ?_
        obtain ⟨g13, h⟩ := o_gE h
        refine go_iaload (pc' := 275) rfl (Or.inr rfl) (o_ilE g13) rfl ?_
        obtain ⟨g14, h⟩ := o_gE h
        obtain ⟨r_275, I_275, q_275, h⟩ := o_b2E h
        refine go_callV (pc' := 278) (B' := (599907, 7285527)) (st' := [.inl r_275, .inl r_246]) rfl rfl (Or.inl (by decide)) rfl rfl (o_kdE g14) (md_207 (by omega) (o_kdE g14) q_275) rfl rfl rfl ?_
        refine go_icmp_eq (pt := 1711) (pc' := 281) rfl rfl rfl (fun h278 => ?_) (fun h278 => ?_)
        · replace h := o_t h278 h
          obtain ⟨x3_1711, ex3_1711, h⟩ := o_b1E h
          refine go_iincE (pc' := 1714) rfl rfl (y := (nI 6)) rfl ex3_1711 (lo' := [some (.inr (.inr 1999)), some (.inr (.inr n_0)), some (.inr (.inr n_8)), some (.inl x3_1711)]) rfl rfl ?_
          refine go_goto (pc' := 18) rfl rfl ?_
          exact (lp_backE h hk18 :)
        · replace h := o_f h278 h
          exact ex18_281 _ _ _ (some (.inl v3_18)) (lp_exitE h hk18)
      replace h := o_f c33_0 h
      by_cases c33_1 : d_33 = (1 : Int32)
      · replace h := o_t c33_1 h
        refine go_swIn (pc' := 283) 1 rfl rfl (by rw [c33_1]; decide) (by rw [c33_1]; decide) rfl ?_
        refine go_aload_n (pc' := 284) rfl rfl rfl ?_
        refine go_aload_n (pc' := 285) rfl rfl rfl ?_
        refine go_iload_n (pc' := 286) rfl rfl rfl ?_
        refine go_iconst (pc' := 287) (v := (nI 1)) rfl rfl rfl ?_
        refine go_iadd (pc' := 288) rfl rfl ?_
        obtain ⟨g15, h⟩ := o_gE h
        refine go_iaload (pc' := 289) rfl (Or.inr rfl) (o_ilE g15) rfl ?_
        obtain ⟨g16, h⟩ := o_gE h
        obtain ⟨r_289, I_289, R_289, q_289, h⟩ := o_b3E h
        refine go_callV (pc' := 292) (B' := (599907, 7285527)) (st' := [.inl r_289]) rfl rfl (Or.inl (by decide)) rfl rfl (o_kdE g16) (md_139 (by omega) (o_kdE g16) q_289) rfl rfl rfl ?_
        refine go_aload_n (pc' := 293) rfl rfl rfl ?_
        refine go_aload_n (pc' := 294) rfl rfl rfl ?_
        refine go_iload_n (pc' := 295) rfl rfl rfl ?_
        refine go_iconst (pc' := 296) (v := (nI 1)) rfl rfl rfl ?_
        refine go_iadd (pc' := 297) rfl rfl ?_
        obtain ⟨g17, h⟩ := o_gE h
        refine go_iaload (pc' := 298) rfl (Or.inr rfl) (o_ilE g17) rfl ?_
        obtain ⟨g18, h⟩ := o_gE h
        obtain ⟨r_298, I_298, J_298, q_298, h⟩ := o_b3E h
        refine go_callV (pc' := 301) (B' := (599907, 7285527)) (st' := [.inl r_298, .inl r_289]) rfl rfl (Or.inl (by decide)) rfl rfl (o_kdE g18) (md_218 (by omega) (o_kdE g18) q_298) rfl rfl rfl ?_
        refine go_icmp_eq (pt := 1711) (pc' := 304) rfl rfl rfl (fun h301 => ?_) (fun h301 => ?_)
        · replace h := o_t h301 h
          obtain ⟨x3_1711, ex3_1711, h⟩ := o_b1E h
          refine go_iincE (pc' := 1714) rfl rfl (y := (nI 6)) rfl ex3_1711 (lo' := [some (.inr (.inr 1999)), some (.inr (.inr n_0)), some (.inr (.inr n_8)), some (.inl x3_1711)]) rfl rfl ?_
          refine go_goto (pc' := 18) rfl rfl ?_
          exact (lp_backE h hk18 :)
        · replace h := o_f h301 h
          have h := hc18_281 (I_298, J_298, R_289) (lp_exitE h hk18).symm
          replace h : some (nI 0) = some r := h
          refine go_iconst (pc' := 305) (v := (nI 0)) rfl rfl rfl ?_
          cases h
          exact go_iret rfl (rfl) rfl
      replace h := o_f c33_1 h
      by_cases c33_2 : d_33 = (2 : Int32)
      · replace h := o_t c33_2 h
        refine go_swIn (pc' := 306) 2 rfl rfl (by rw [c33_2]; decide) (by rw [c33_2]; decide) rfl ?_
        refine go_aload_n (pc' := 307) rfl rfl rfl ?_
        refine go_aload_n (pc' := 308) rfl rfl rfl ?_
        refine go_iload_n (pc' := 309) rfl rfl rfl ?_
        refine go_iconst (pc' := 310) (v := (nI 1)) rfl rfl rfl ?_
        refine go_iadd (pc' := 311) rfl rfl ?_
        obtain ⟨g19, h⟩ := o_gE h
        refine go_iaload (pc' := 312) rfl (Or.inr rfl) (o_ilE g19) rfl ?_
        refine go_aload_n (pc' := 313) rfl rfl rfl ?_
        refine go_iload_n (pc' := 314) rfl rfl rfl ?_
        refine go_iconst (pc' := 315) (v := (nI 2)) rfl rfl rfl ?_
        refine go_iadd (pc' := 316) rfl rfl ?_
        obtain ⟨g20, h⟩ := o_gE h
        refine go_iaload (pc' := 317) rfl (Or.inr rfl) (o_ilE g20) rfl ?_
        obtain ⟨g21, h⟩ := o_gE h
        obtain ⟨r_317, I_317, q_317, h⟩ := o_b2E h
        refine go_callV (pc' := 320) (B' := (599907, 7285527)) (st' := [.inl r_317]) rfl rfl (Or.inl (by decide)) rfl rfl (o_kdE g21) (md_141 (by omega) (o_kdE g21) q_317) rfl rfl rfl ?_
        refine go_aload_n (pc' := 321) rfl rfl rfl ?_
        refine go_aload_n (pc' := 322) rfl rfl rfl ?_
        refine go_iload_n (pc' := 323) rfl rfl rfl ?_
        refine go_iconst (pc' := 324) (v := (nI 1)) rfl rfl rfl ?_
        refine go_iadd (pc' := 325) rfl rfl ?_
        obtain ⟨g22, h⟩ := o_gE h
        refine go_iaload (pc' := 326) rfl (Or.inr rfl) (o_ilE g22) rfl ?_
        refine go_aload_n (pc' := 327) rfl rfl rfl ?_
        refine go_iload_n (pc' := 328) rfl rfl rfl ?_
        refine go_iconst (pc' := 329) (v := (nI 2)) rfl rfl rfl ?_
        refine go_iadd (pc' := 330) rfl rfl ?_
        obtain ⟨g23, h⟩ := o_gE h
        refine go_iaload (pc' := 331) rfl (Or.inr rfl) (o_ilE g23) rfl ?_
        obtain ⟨g24, h⟩ := o_gE h
        obtain ⟨r_331, I_331, q_331, h⟩ := o_b2E h
        refine go_callV (pc' := 334) (B' := (599907, 7285527)) (st' := [.inl r_331, .inl r_317]) rfl rfl (Or.inl (by decide)) rfl rfl (o_kdE g24) (md_242 (by omega) (o_kdE g24) q_331) rfl rfl rfl ?_
        refine go_icmp_eq (pt := 1711) (pc' := 337) rfl rfl rfl (fun h334 => ?_) (fun h334 => ?_)
        · replace h := o_t h334 h
          obtain ⟨x3_1711, ex3_1711, h⟩ := o_b1E h
          refine go_iincE (pc' := 1714) rfl rfl (y := (nI 6)) rfl ex3_1711 (lo' := [some (.inr (.inr 1999)), some (.inr (.inr n_0)), some (.inr (.inr n_8)), some (.inl x3_1711)]) rfl rfl ?_
          refine go_goto (pc' := 18) rfl rfl ?_
          exact (lp_backE h hk18 :)
        · replace h := o_f h334 h
          have h := hc18_281 (I_331, J_18, R_18) (lp_exitE h hk18).symm
          replace h : some (nI 0) = some r := h
          refine go_iconst (pc' := 338) (v := (nI 0)) rfl rfl rfl ?_
          cases h
          exact go_iret rfl (rfl) rfl
      replace h := o_f c33_2 h
      by_cases c33_3 : d_33 = (3 : Int32)
      · replace h := o_t c33_3 h
        refine go_swIn (pc' := 339) 3 rfl rfl (by rw [c33_3]; decide) (by rw [c33_3]; decide) rfl ?_
        refine go_aload_n (pc' := 340) rfl rfl rfl ?_
        refine go_aload_n (pc' := 341) rfl rfl rfl ?_
        refine go_iload_n (pc' := 342) rfl rfl rfl ?_
        refine go_iconst (pc' := 343) (v := (nI 1)) rfl rfl rfl ?_
        refine go_iadd (pc' := 344) rfl rfl ?_
        obtain ⟨g25, h⟩ := o_gE h
        refine go_iaload (pc' := 345) rfl (Or.inr rfl) (o_ilE g25) rfl ?_
        refine go_aload_n (pc' := 346) rfl rfl rfl ?_
        refine go_iload_n (pc' := 347) rfl rfl rfl ?_
        refine go_iconst (pc' := 348) (v := (nI 2)) rfl rfl rfl ?_
        refine go_iadd (pc' := 349) rfl rfl ?_
        obtain ⟨g26, h⟩ := o_gE h
        refine go_iaload (pc' := 350) rfl (Or.inr rfl) (o_ilE g26) rfl ?_
        obtain ⟨g27, h⟩ := o_gE h
        obtain ⟨r_350, I_350, q_350, h⟩ := o_b2E h
        refine go_callV (pc' := 353) (B' := (599907, 7285527)) (st' := [.inl r_350]) rfl rfl (Or.inl (by decide)) rfl rfl (o_kdE g27) (md_142 (by omega) (o_kdE g27) q_350) rfl rfl rfl ?_
        refine go_aload_n (pc' := 354) rfl rfl rfl ?_
        refine go_aload_n (pc' := 355) rfl rfl rfl ?_
        refine go_iload_n (pc' := 356) rfl rfl rfl ?_
        refine go_iconst (pc' := 357) (v := (nI 1)) rfl rfl rfl ?_
        refine go_iadd (pc' := 358) rfl rfl ?_
        obtain ⟨g28, h⟩ := o_gE h
        refine go_iaload (pc' := 359) rfl (Or.inr rfl) (o_ilE g28) rfl ?_
        refine go_aload_n (pc' := 360) rfl rfl rfl ?_
        refine go_iload_n (pc' := 361) rfl rfl rfl ?_
        refine go_iconst (pc' := 362) (v := (nI 2)) rfl rfl rfl ?_
        refine go_iadd (pc' := 363) rfl rfl ?_
        obtain ⟨g29, h⟩ := o_gE h
        refine go_iaload (pc' := 364) rfl (Or.inr rfl) (o_ilE g29) rfl ?_
        obtain ⟨g30, h⟩ := o_gE h
        obtain ⟨r_364, I_364, q_364, h⟩ := o_b2E h
        refine go_callV (pc' := 367) (B' := (599907, 7285527)) (st' := [.inl r_364, .inl r_350]) rfl rfl (Or.inl (by decide)) rfl rfl (o_kdE g30) (md_262 (by omega) (o_kdE g30) q_364) rfl rfl rfl ?_
        refine go_icmp_eq (pt := 1711) (pc' := 370) rfl rfl rfl (fun h367 => ?_) (fun h367 => ?_)
        · replace h := o_t h367 h
          obtain ⟨x3_1711, ex3_1711, h⟩ := o_b1E h
          refine go_iincE (pc' := 1714) rfl rfl (y := (nI 6)) rfl ex3_1711 (lo' := [some (.inr (.inr 1999)), some (.inr (.inr n_0)), some (.inr (.inr n_8)), some (.inl x3_1711)]) rfl rfl ?_
          refine go_goto (pc' := 18) rfl rfl ?_
          exact (lp_backE h hk18 :)
        · replace h := o_f h367 h
          have h := hc18_281 (I_364, J_18, R_18) (lp_exitE h hk18).symm
          replace h : some (nI 0) = some r := h
          refine go_iconst (pc' := 371) (v := (nI 0)) rfl rfl rfl ?_
          cases h
          exact go_iret rfl (rfl) rfl
      replace h := o_f c33_3 h
      by_cases c33_4 : d_33 = (4 : Int32)
      · replace h := o_t c33_4 h
        refine go_swIn (pc' := 372) 4 rfl rfl (by rw [c33_4]; decide) (by rw [c33_4]; decide) rfl ?_
        refine go_aload_n (pc' := 373) rfl rfl rfl ?_
        refine go_aload_n (pc' := 374) rfl rfl rfl ?_
        refine go_iload_n (pc' := 375) rfl rfl rfl ?_
        refine go_iconst (pc' := 376) (v := (nI 1)) rfl rfl rfl ?_
        refine go_iadd (pc' := 377) rfl rfl ?_
        obtain ⟨g31, h⟩ := o_gE h
        refine go_iaload (pc' := 378) rfl (Or.inr rfl) (o_ilE g31) rfl ?_
        refine go_aload_n (pc' := 379) rfl rfl rfl ?_
        refine go_iload_n (pc' := 380) rfl rfl rfl ?_
        refine go_iconst (pc' := 381) (v := (nI 2)) rfl rfl rfl ?_
        refine go_iadd (pc' := 382) rfl rfl ?_
        obtain ⟨g32, h⟩ := o_gE h
        refine go_iaload (pc' := 383) rfl (Or.inr rfl) (o_ilE g32) rfl ?_
        obtain ⟨g33, h⟩ := o_gE h
        obtain ⟨r_383, q_383, h⟩ := o_b1E h
        refine go_callV (pc' := 386) (B' := (599907, 7285527)) (st' := [.inl r_383]) rfl rfl (Or.inl (by decide)) rfl rfl (o_kdE g33) (md_143 (by omega) (o_kdE g33) q_383) rfl rfl rfl ?_
        refine go_aload_n (pc' := 387) rfl rfl rfl ?_
        refine go_aload_n (pc' := 388) rfl rfl rfl ?_
        refine go_iload_n (pc' := 389) rfl rfl rfl ?_
        refine go_iconst (pc' := 390) (v := (nI 1)) rfl rfl rfl ?_
        refine go_iadd (pc' := 391) rfl rfl ?_
        obtain ⟨g34, h⟩ := o_gE h
        refine go_iaload (pc' := 392) rfl (Or.inr rfl) (o_ilE g34) rfl ?_
        refine go_aload_n (pc' := 393) rfl rfl rfl ?_
        refine go_iload_n (pc' := 394) rfl rfl rfl ?_
        refine go_iconst (pc' := 395) (v := (nI 2)) rfl rfl rfl ?_
        refine go_iadd (pc' := 396) rfl rfl ?_
        obtain ⟨g35, h⟩ := o_gE h
        refine go_iaload (pc' := 397) rfl (Or.inr rfl) (o_ilE g35) rfl ?_
        obtain ⟨g36, h⟩ := o_gE h
        obtain ⟨r_397, q_397, h⟩ := o_b1E h
        refine go_callV (pc' := 400) (B' := (599907, 7285527)) (st' := [.inl r_397, .inl r_383]) rfl rfl (Or.inl (by decide)) rfl rfl (o_kdE g36) (md_263 (by omega) (o_kdE g36) q_397) rfl rfl rfl ?_
        refine go_icmp_eq (pt := 1711) (pc' := 403) rfl rfl rfl (fun h400 => ?_) (fun h400 => ?_)
        · replace h := o_t h400 h
          obtain ⟨x3_1711, ex3_1711, h⟩ := o_b1E h
          refine go_iincE (pc' := 1714) rfl rfl (y := (nI 6)) rfl ex3_1711 (lo' := [some (.inr (.inr 1999)), some (.inr (.inr n_0)), some (.inr (.inr n_8)), some (.inl x3_1711)]) rfl rfl ?_
          refine go_goto (pc' := 18) rfl rfl ?_
          exact (lp_backE h hk18 :)
        · replace h := o_f h400 h
          have h := hc18_281 (I_18, J_18, R_18) (lp_exitE h hk18).symm
          replace h : some (nI 0) = some r := h
          refine go_iconst (pc' := 404) (v := (nI 0)) rfl rfl rfl ?_
          cases h
          exact go_iret rfl (rfl) rfl
      replace h := o_f c33_4 h
      by_cases c33_5 : d_33 = (5 : Int32)
      · replace h := o_t c33_5 h
        refine go_swIn (pc' := 405) 5 rfl rfl (by rw [c33_5]; decide) (by rw [c33_5]; decide) rfl ?_
        refine go_aload_n (pc' := 406) rfl rfl rfl ?_
        refine go_aload_n (pc' := 407) rfl rfl rfl ?_
        refine go_iload_n (pc' := 408) rfl rfl rfl ?_
        refine go_iconst (pc' := 409) (v := (nI 1)) rfl rfl rfl ?_
        refine go_iadd (pc' := 410) rfl rfl ?_
        obtain ⟨g37, h⟩ := o_gE h
        refine go_iaload (pc' := 411) rfl (Or.inr rfl) (o_ilE g37) rfl ?_
        refine go_aload_n (pc' := 412) rfl rfl rfl ?_
        refine go_iload_n (pc' := 413) rfl rfl rfl ?_
        refine go_iconst (pc' := 414) (v := (nI 2)) rfl rfl rfl ?_
        refine go_iadd (pc' := 415) rfl rfl ?_
        obtain ⟨g38, h⟩ := o_gE h
        refine go_iaload (pc' := 416) rfl (Or.inr rfl) (o_ilE g38) rfl ?_
        obtain ⟨g39, h⟩ := o_gE h
        obtain ⟨r_416, q_416, h⟩ := o_b1E h
        refine go_callV (pc' := 419) (B' := (599907, 7285527)) (st' := [.inl r_416]) rfl rfl (Or.inl (by decide)) rfl rfl (o_kdE g39) (md_144 (by omega) (o_kdE g39) q_416) rfl rfl rfl ?_
        refine go_aload_n (pc' := 420) rfl rfl rfl ?_
        refine go_aload_n (pc' := 421) rfl rfl rfl ?_
        refine go_iload_n (pc' := 422) rfl rfl rfl ?_
        refine go_iconst (pc' := 423) (v := (nI 1)) rfl rfl rfl ?_
        refine go_iadd (pc' := 424) rfl rfl ?_
        obtain ⟨g40, h⟩ := o_gE h
        refine go_iaload (pc' := 425) rfl (Or.inr rfl) (o_ilE g40) rfl ?_
        refine go_aload_n (pc' := 426) rfl rfl rfl ?_
        refine go_iload_n (pc' := 427) rfl rfl rfl ?_
        refine go_iconst (pc' := 428) (v := (nI 2)) rfl rfl rfl ?_
        refine go_iadd (pc' := 429) rfl rfl ?_
        obtain ⟨g41, h⟩ := o_gE h
        refine go_iaload (pc' := 430) rfl (Or.inr rfl) (o_ilE g41) rfl ?_
        obtain ⟨g42, h⟩ := o_gE h
        obtain ⟨r_430, q_430, h⟩ := o_b1E h
        refine go_callV (pc' := 433) (B' := (599907, 7285527)) (st' := [.inl r_430, .inl r_416]) rfl rfl (Or.inl (by decide)) rfl rfl (o_kdE g42) (md_264 (by omega) (o_kdE g42) q_430) rfl rfl rfl ?_
        refine go_icmp_eq (pt := 1711) (pc' := 436) rfl rfl rfl (fun h433 => ?_) (fun h433 => ?_)
        · replace h := o_t h433 h
          obtain ⟨x3_1711, ex3_1711, h⟩ := o_b1E h
          refine go_iincE (pc' := 1714) rfl rfl (y := (nI 6)) rfl ex3_1711 (lo' := [some (.inr (.inr 1999)), some (.inr (.inr n_0)), some (.inr (.inr n_8)), some (.inl x3_1711)]) rfl rfl ?_
          refine go_goto (pc' := 18) rfl rfl ?_
          exact (lp_backE h hk18 :)
        · replace h := o_f h433 h
          have h := hc18_281 (I_18, J_18, R_18) (lp_exitE h hk18).symm
          replace h : some (nI 0) = some r := h
          refine go_iconst (pc' := 437) (v := (nI 0)) rfl rfl rfl ?_
          cases h
          exact go_iret rfl (rfl) rfl
      replace h := o_f c33_5 h
      by_cases c33_6 : d_33 = (6 : Int32)
      · replace h := o_t c33_6 h
        refine go_swIn (pc' := 438) 6 rfl rfl (by rw [c33_6]; decide) (by rw [c33_6]; decide) rfl ?_
        refine go_aload_n (pc' := 439) rfl rfl rfl ?_
        refine go_aload_n (pc' := 440) rfl rfl rfl ?_
        refine go_iload_n (pc' := 441) rfl rfl rfl ?_
        refine go_iconst (pc' := 442) (v := (nI 1)) rfl rfl rfl ?_
        refine go_iadd (pc' := 443) rfl rfl ?_
        obtain ⟨g43, h⟩ := o_gE h
        refine go_iaload (pc' := 444) rfl (Or.inr rfl) (o_ilE g43) rfl ?_
        refine go_aload_n (pc' := 445) rfl rfl rfl ?_
        refine go_iload_n (pc' := 446) rfl rfl rfl ?_
        refine go_iconst (pc' := 447) (v := (nI 2)) rfl rfl rfl ?_
        refine go_iadd (pc' := 448) rfl rfl ?_
        obtain ⟨g44, h⟩ := o_gE h
        refine go_iaload (pc' := 449) rfl (Or.inr rfl) (o_ilE g44) rfl ?_
        refine go_aload_n (pc' := 450) rfl rfl rfl ?_
        refine go_iload_n (pc' := 451) rfl rfl rfl ?_
        refine go_iconst (pc' := 452) (v := (nI 3)) rfl rfl rfl ?_
        refine go_iadd (pc' := 453) rfl rfl ?_
        obtain ⟨g45, h⟩ := o_gE h
        refine go_iaload (pc' := 454) rfl (Or.inr rfl) (o_ilE g45) rfl ?_
        obtain ⟨g46, h⟩ := o_gE h
        obtain ⟨r_454, I_454, q_454, h⟩ := o_b2E h
        refine go_callV (pc' := 457) (B' := (599907, 7285527)) (st' := [.inl r_454]) rfl rfl (Or.inl (by decide)) rfl rfl (o_kdE g46) (md_145 (by omega) (o_kdE g46) q_454) rfl rfl rfl ?_
        refine go_aload_n (pc' := 458) rfl rfl rfl ?_
        refine go_aload_n (pc' := 459) rfl rfl rfl ?_
        refine go_iload_n (pc' := 460) rfl rfl rfl ?_
        refine go_iconst (pc' := 461) (v := (nI 1)) rfl rfl rfl ?_
        refine go_iadd (pc' := 462) rfl rfl ?_
        obtain ⟨g47, h⟩ := o_gE h
        refine go_iaload (pc' := 463) rfl (Or.inr rfl) (o_ilE g47) rfl ?_
        refine go_aload_n (pc' := 464) rfl rfl rfl ?_
        refine go_iload_n (pc' := 465) rfl rfl rfl ?_
        refine go_iconst (pc' := 466) (v := (nI 2)) rfl rfl rfl ?_
        refine go_iadd (pc' := 467) rfl rfl ?_
        obtain ⟨g48, h⟩ := o_gE h
        refine go_iaload (pc' := 468) rfl (Or.inr rfl) (o_ilE g48) rfl ?_
        refine go_aload_n (pc' := 469) rfl rfl rfl ?_
        refine go_iload_n (pc' := 470) rfl rfl rfl ?_
        refine go_iconst (pc' := 471) (v := (nI 3)) rfl rfl rfl ?_
        refine go_iadd (pc' := 472) rfl rfl ?_
        obtain ⟨g49, h⟩ := o_gE h
        refine go_iaload (pc' := 473) rfl (Or.inr rfl) (o_ilE g49) rfl ?_
        obtain ⟨g50, h⟩ := o_gE h
        obtain ⟨r_473, I_473, q_473, h⟩ := o_b2E h
        refine go_callV (pc' := 476) (B' := (599907, 7285527)) (st' := [.inl r_473, .inl r_454]) rfl rfl (Or.inl (by decide)) rfl rfl (o_kdE g50) (md_248 (by omega) (o_kdE g50) q_473) rfl rfl rfl ?_
        refine go_icmp_eq (pt := 1711) (pc' := 479) rfl rfl rfl (fun h476 => ?_) (fun h476 => ?_)
        · replace h := o_t h476 h
          obtain ⟨x3_1711, ex3_1711, h⟩ := o_b1E h
          refine go_iincE (pc' := 1714) rfl rfl (y := (nI 6)) rfl ex3_1711 (lo' := [some (.inr (.inr 1999)), some (.inr (.inr n_0)), some (.inr (.inr n_8)), some (.inl x3_1711)]) rfl rfl ?_
          refine go_goto (pc' := 18) rfl rfl ?_
          exact (lp_backE h hk18 :)
        · replace h := o_f h476 h
          have h := hc18_281 (I_473, J_18, R_18) (lp_exitE h hk18).symm
          replace h : some (nI 0) = some r := h
          refine go_iconst (pc' := 480) (v := (nI 0)) rfl rfl rfl ?_
          cases h
          exact go_iret rfl (rfl) rfl
      replace h := o_f c33_6 h
      by_cases c33_7 : d_33 = (7 : Int32)
      · replace h := o_t c33_7 h
        refine go_swIn (pc' := 481) 7 rfl rfl (by rw [c33_7]; decide) (by rw [c33_7]; decide) rfl ?_
        refine go_aload_n (pc' := 482) rfl rfl rfl ?_
        refine go_aload_n (pc' := 483) rfl rfl rfl ?_
        refine go_iload_n (pc' := 484) rfl rfl rfl ?_
        refine go_iconst (pc' := 485) (v := (nI 1)) rfl rfl rfl ?_
        refine go_iadd (pc' := 486) rfl rfl ?_
        obtain ⟨g51, h⟩ := o_gE h
        refine go_iaload (pc' := 487) rfl (Or.inr rfl) (o_ilE g51) rfl ?_
        refine go_aload_n (pc' := 488) rfl rfl rfl ?_
        refine go_iload_n (pc' := 489) rfl rfl rfl ?_
        refine go_iconst (pc' := 490) (v := (nI 2)) rfl rfl rfl ?_
        refine go_iadd (pc' := 491) rfl rfl ?_
        obtain ⟨g52, h⟩ := o_gE h
        refine go_iaload (pc' := 492) rfl (Or.inr rfl) (o_ilE g52) rfl ?_
        refine go_aload_n (pc' := 493) rfl rfl rfl ?_
        refine go_iload_n (pc' := 494) rfl rfl rfl ?_
        refine go_iconst (pc' := 495) (v := (nI 3)) rfl rfl rfl ?_
        refine go_iadd (pc' := 496) rfl rfl ?_
        obtain ⟨g53, h⟩ := o_gE h
        refine go_iaload (pc' := 497) rfl (Or.inr rfl) (o_ilE g53) rfl ?_
        refine go_aload_n (pc' := 498) rfl rfl rfl ?_
        refine go_iload_n (pc' := 499) rfl rfl rfl ?_
        refine go_iconst (pc' := 500) (v := (nI 4)) rfl rfl rfl ?_
        refine go_iadd (pc' := 501) rfl rfl ?_
        obtain ⟨g54, h⟩ := o_gE h
        refine go_iaload (pc' := 502) rfl (Or.inr rfl) (o_ilE g54) rfl ?_
        obtain ⟨g55, h⟩ := o_gE h
        obtain ⟨r_502, q_502, h⟩ := o_b1E h
        refine go_callV (pc' := 505) (B' := (599907, 7285527)) (st' := [.inl r_502]) rfl rfl (Or.inl (by decide)) rfl rfl (o_kdE g55) (md_146 (by omega) (o_kdE g55) q_502) rfl rfl rfl ?_
        refine go_aload_n (pc' := 506) rfl rfl rfl ?_
        refine go_aload_n (pc' := 507) rfl rfl rfl ?_
        refine go_iload_n (pc' := 508) rfl rfl rfl ?_
        refine go_iconst (pc' := 509) (v := (nI 1)) rfl rfl rfl ?_
        refine go_iadd (pc' := 510) rfl rfl ?_
        obtain ⟨g56, h⟩ := o_gE h
        refine go_iaload (pc' := 511) rfl (Or.inr rfl) (o_ilE g56) rfl ?_
        refine go_aload_n (pc' := 512) rfl rfl rfl ?_
        refine go_iload_n (pc' := 513) rfl rfl rfl ?_
        refine go_iconst (pc' := 514) (v := (nI 2)) rfl rfl rfl ?_
        refine go_iadd (pc' := 515) rfl rfl ?_
        obtain ⟨g57, h⟩ := o_gE h
        refine go_iaload (pc' := 516) rfl (Or.inr rfl) (o_ilE g57) rfl ?_
        refine go_aload_n (pc' := 517) rfl rfl rfl ?_
        refine go_iload_n (pc' := 518) rfl rfl rfl ?_
        refine go_iconst (pc' := 519) (v := (nI 3)) rfl rfl rfl ?_
        refine go_iadd (pc' := 520) rfl rfl ?_
        obtain ⟨g58, h⟩ := o_gE h
        refine go_iaload (pc' := 521) rfl (Or.inr rfl) (o_ilE g58) rfl ?_
        refine go_aload_n (pc' := 522) rfl rfl rfl ?_
        refine go_iload_n (pc' := 523) rfl rfl rfl ?_
        refine go_iconst (pc' := 524) (v := (nI 4)) rfl rfl rfl ?_
        refine go_iadd (pc' := 525) rfl rfl ?_
        obtain ⟨g59, h⟩ := o_gE h
        refine go_iaload (pc' := 526) rfl (Or.inr rfl) (o_ilE g59) rfl ?_
        obtain ⟨g60, h⟩ := o_gE h
        obtain ⟨r_526, I_526, q_526, h⟩ := o_b2E h
        refine go_callV (pc' := 529) (B' := (599907, 7285527)) (st' := [.inl r_526, .inl r_502]) rfl rfl (Or.inl (by decide)) rfl rfl (o_kdE g60) (md_249 (by omega) (o_kdE g60) q_526) rfl rfl rfl ?_
        refine go_icmp_eq (pt := 1711) (pc' := 532) rfl rfl rfl (fun h529 => ?_) (fun h529 => ?_)
        · replace h := o_t h529 h
          obtain ⟨x3_1711, ex3_1711, h⟩ := o_b1E h
          refine go_iincE (pc' := 1714) rfl rfl (y := (nI 6)) rfl ex3_1711 (lo' := [some (.inr (.inr 1999)), some (.inr (.inr n_0)), some (.inr (.inr n_8)), some (.inl x3_1711)]) rfl rfl ?_
          refine go_goto (pc' := 18) rfl rfl ?_
          exact (lp_backE h hk18 :)
        · replace h := o_f h529 h
          have h := hc18_281 (I_526, J_18, R_18) (lp_exitE h hk18).symm
          replace h : some (nI 0) = some r := h
          refine go_iconst (pc' := 533) (v := (nI 0)) rfl rfl rfl ?_
          cases h
          exact go_iret rfl (rfl) rfl
      replace h := o_f c33_7 h
      by_cases c33_8 : d_33 = (8 : Int32)
      · replace h := o_t c33_8 h
        refine go_swIn (pc' := 534) 8 rfl rfl (by rw [c33_8]; decide) (by rw [c33_8]; decide) rfl ?_
        refine go_aload_n (pc' := 535) rfl rfl rfl ?_
        refine go_aload_n (pc' := 536) rfl rfl rfl ?_
        refine go_iload_n (pc' := 537) rfl rfl rfl ?_
        refine go_iconst (pc' := 538) (v := (nI 1)) rfl rfl rfl ?_
        refine go_iadd (pc' := 539) rfl rfl ?_
        obtain ⟨g61, h⟩ := o_gE h
        refine go_iaload (pc' := 540) rfl (Or.inr rfl) (o_ilE g61) rfl ?_
        refine go_aload_n (pc' := 541) rfl rfl rfl ?_
        refine go_iload_n (pc' := 542) rfl rfl rfl ?_
        refine go_iconst (pc' := 543) (v := (nI 2)) rfl rfl rfl ?_
        refine go_iadd (pc' := 544) rfl rfl ?_
        obtain ⟨g62, h⟩ := o_gE h
        refine go_iaload (pc' := 545) rfl (Or.inr rfl) (o_ilE g62) rfl ?_
        obtain ⟨g63, h⟩ := o_gE h
        obtain ⟨r_545, q_545, h⟩ := o_b1E h
        refine go_callV (pc' := 548) (B' := (599907, 7285527)) (st' := [.inl r_545]) rfl rfl (Or.inl (by decide)) rfl rfl (o_kdE g63) (md_147 (by omega) (o_kdE g63) q_545) rfl rfl rfl ?_
        refine go_aload_n (pc' := 549) rfl rfl rfl ?_
        refine go_aload_n (pc' := 550) rfl rfl rfl ?_
        refine go_iload_n (pc' := 551) rfl rfl rfl ?_
        refine go_iconst (pc' := 552) (v := (nI 1)) rfl rfl rfl ?_
        refine go_iadd (pc' := 553) rfl rfl ?_
        obtain ⟨g64, h⟩ := o_gE h
        refine go_iaload (pc' := 554) rfl (Or.inr rfl) (o_ilE g64) rfl ?_
        refine go_aload_n (pc' := 555) rfl rfl rfl ?_
        refine go_iload_n (pc' := 556) rfl rfl rfl ?_
        refine go_iconst (pc' := 557) (v := (nI 2)) rfl rfl rfl ?_
        refine go_iadd (pc' := 558) rfl rfl ?_
        obtain ⟨g65, h⟩ := o_gE h
        refine go_iaload (pc' := 559) rfl (Or.inr rfl) (o_ilE g65) rfl ?_
        obtain ⟨g66, h⟩ := o_gE h
        obtain ⟨r_559, q_559, h⟩ := o_b1E h
        refine go_callV (pc' := 562) (B' := (599907, 7285527)) (st' := [.inl r_559, .inl r_545]) rfl rfl (Or.inl (by decide)) rfl rfl (o_kdE g66) (md_255 (by omega) (o_kdE g66) q_559) rfl rfl rfl ?_
        refine go_icmp_eq (pt := 1711) (pc' := 565) rfl rfl rfl (fun h562 => ?_) (fun h562 => ?_)
        · replace h := o_t h562 h
          obtain ⟨x3_1711, ex3_1711, h⟩ := o_b1E h
          refine go_iincE (pc' := 1714) rfl rfl (y := (nI 6)) rfl ex3_1711 (lo' := [some (.inr (.inr 1999)), some (.inr (.inr n_0)), some (.inr (.inr n_8)), some (.inl x3_1711)]) rfl rfl ?_
          refine go_goto (pc' := 18) rfl rfl ?_
          exact (lp_backE h hk18 :)
        · replace h := o_f h562 h
          have h := hc18_281 (I_18, J_18, R_18) (lp_exitE h hk18).symm
          replace h : some (nI 0) = some r := h
          refine go_iconst (pc' := 566) (v := (nI 0)) rfl rfl rfl ?_
          cases h
          exact go_iret rfl (rfl) rfl
      replace h := o_f c33_8 h
      by_cases c33_9 : d_33 = (9 : Int32)
      · replace h := o_t c33_9 h
        refine go_swIn (pc' := 567) 9 rfl rfl (by rw [c33_9]; decide) (by rw [c33_9]; decide) rfl ?_
        refine go_aload_n (pc' := 568) rfl rfl rfl ?_
        refine go_aload_n (pc' := 569) rfl rfl rfl ?_
        refine go_iload_n (pc' := 570) rfl rfl rfl ?_
        refine go_iconst (pc' := 571) (v := (nI 1)) rfl rfl rfl ?_
        refine go_iadd (pc' := 572) rfl rfl ?_
        obtain ⟨g67, h⟩ := o_gE h
        refine go_iaload (pc' := 573) rfl (Or.inr rfl) (o_ilE g67) rfl ?_
        refine go_aload_n (pc' := 574) rfl rfl rfl ?_
        refine go_iload_n (pc' := 575) rfl rfl rfl ?_
        refine go_iconst (pc' := 576) (v := (nI 2)) rfl rfl rfl ?_
        refine go_iadd (pc' := 577) rfl rfl ?_
        obtain ⟨g68, h⟩ := o_gE h
        refine go_iaload (pc' := 578) rfl (Or.inr rfl) (o_ilE g68) rfl ?_
        obtain ⟨g69, h⟩ := o_gE h
        obtain ⟨r_578, q_578, h⟩ := o_b1E h
        refine go_callV (pc' := 581) (B' := (599907, 7285527)) (st' := [.inl r_578]) rfl rfl (Or.inl (by decide)) rfl rfl (o_kdE g69) (md_148 (by omega) (o_kdE g69) q_578) rfl rfl rfl ?_
        refine go_aload_n (pc' := 582) rfl rfl rfl ?_
        refine go_aload_n (pc' := 583) rfl rfl rfl ?_
        refine go_iload_n (pc' := 584) rfl rfl rfl ?_
        refine go_iconst (pc' := 585) (v := (nI 1)) rfl rfl rfl ?_
        refine go_iadd (pc' := 586) rfl rfl ?_
        obtain ⟨g70, h⟩ := o_gE h
        refine go_iaload (pc' := 587) rfl (Or.inr rfl) (o_ilE g70) rfl ?_
        refine go_aload_n (pc' := 588) rfl rfl rfl ?_
        refine go_iload_n (pc' := 589) rfl rfl rfl ?_
        refine go_iconst (pc' := 590) (v := (nI 2)) rfl rfl rfl ?_
        refine go_iadd (pc' := 591) rfl rfl ?_
        obtain ⟨g71, h⟩ := o_gE h
        refine go_iaload (pc' := 592) rfl (Or.inr rfl) (o_ilE g71) rfl ?_
        obtain ⟨g72, h⟩ := o_gE h
        obtain ⟨r_592, q_592, h⟩ := o_b1E h
        refine go_callV (pc' := 595) (B' := (599907, 7285527)) (st' := [.inl r_592, .inl r_578]) rfl rfl (Or.inl (by decide)) rfl rfl (o_kdE g72) (md_256 (by omega) (o_kdE g72) q_592) rfl rfl rfl ?_
        refine go_icmp_eq (pt := 1711) (pc' := 598) rfl rfl rfl (fun h595 => ?_) (fun h595 => ?_)
        · replace h := o_t h595 h
          obtain ⟨x3_1711, ex3_1711, h⟩ := o_b1E h
          refine go_iincE (pc' := 1714) rfl rfl (y := (nI 6)) rfl ex3_1711 (lo' := [some (.inr (.inr 1999)), some (.inr (.inr n_0)), some (.inr (.inr n_8)), some (.inl x3_1711)]) rfl rfl ?_
          refine go_goto (pc' := 18) rfl rfl ?_
          exact (lp_backE h hk18 :)
        · replace h := o_f h595 h
          have h := hc18_281 (I_18, J_18, R_18) (lp_exitE h hk18).symm
          replace h : some (nI 0) = some r := h
          refine go_iconst (pc' := 599) (v := (nI 0)) rfl rfl rfl ?_
          cases h
          exact go_iret rfl (rfl) rfl
      replace h := o_f c33_9 h
      by_cases c33_10 : d_33 = (10 : Int32)
      · replace h := o_t c33_10 h
        refine go_swIn (pc' := 600) 10 rfl rfl (by rw [c33_10]; decide) (by rw [c33_10]; decide) rfl ?_
        refine go_aload_n (pc' := 601) rfl rfl rfl ?_
        refine go_aload_n (pc' := 602) rfl rfl rfl ?_
        refine go_iload_n (pc' := 603) rfl rfl rfl ?_
        refine go_iconst (pc' := 604) (v := (nI 1)) rfl rfl rfl ?_
        refine go_iadd (pc' := 605) rfl rfl ?_
        obtain ⟨g73, h⟩ := o_gE h
        refine go_iaload (pc' := 606) rfl (Or.inr rfl) (o_ilE g73) rfl ?_
        refine go_aload_n (pc' := 607) rfl rfl rfl ?_
        refine go_iload_n (pc' := 608) rfl rfl rfl ?_
        refine go_iconst (pc' := 609) (v := (nI 2)) rfl rfl rfl ?_
        refine go_iadd (pc' := 610) rfl rfl ?_
        obtain ⟨g74, h⟩ := o_gE h
        refine go_iaload (pc' := 611) rfl (Or.inr rfl) (o_ilE g74) rfl ?_
        obtain ⟨g75, h⟩ := o_gE h
        obtain ⟨r_611, q_611, h⟩ := o_b1E h
        refine go_callV (pc' := 614) (B' := (599907, 7285527)) (st' := [.inl r_611]) rfl rfl (Or.inl (by decide)) rfl rfl (o_kdE g75) (md_149 (by omega) (o_kdE g75) q_611) rfl rfl rfl ?_
        refine go_aload_n (pc' := 615) rfl rfl rfl ?_
        refine go_aload_n (pc' := 616) rfl rfl rfl ?_
        refine go_iload_n (pc' := 617) rfl rfl rfl ?_
        refine go_iconst (pc' := 618) (v := (nI 1)) rfl rfl rfl ?_
        refine go_iadd (pc' := 619) rfl rfl ?_
        obtain ⟨g76, h⟩ := o_gE h
        refine go_iaload (pc' := 620) rfl (Or.inr rfl) (o_ilE g76) rfl ?_
        refine go_aload_n (pc' := 621) rfl rfl rfl ?_
        refine go_iload_n (pc' := 622) rfl rfl rfl ?_
        refine go_iconst (pc' := 623) (v := (nI 2)) rfl rfl rfl ?_
        refine go_iadd (pc' := 624) rfl rfl ?_
        obtain ⟨g77, h⟩ := o_gE h
        refine go_iaload (pc' := 625) rfl (Or.inr rfl) (o_ilE g77) rfl ?_
        obtain ⟨g78, h⟩ := o_gE h
        obtain ⟨r_625, q_625, h⟩ := o_b1E h
        refine go_callV (pc' := 628) (B' := (599907, 7285527)) (st' := [.inl r_625, .inl r_611]) rfl rfl (Or.inl (by decide)) rfl rfl (o_kdE g78) (md_257 (by omega) (o_kdE g78) q_625) rfl rfl rfl ?_
        refine go_icmp_eq (pt := 1711) (pc' := 631) rfl rfl rfl (fun h628 => ?_) (fun h628 => ?_)
        · replace h := o_t h628 h
          obtain ⟨x3_1711, ex3_1711, h⟩ := o_b1E h
          refine go_iincE (pc' := 1714) rfl rfl (y := (nI 6)) rfl ex3_1711 (lo' := [some (.inr (.inr 1999)), some (.inr (.inr n_0)), some (.inr (.inr n_8)), some (.inl x3_1711)]) rfl rfl ?_
          refine go_goto (pc' := 18) rfl rfl ?_
          exact (lp_backE h hk18 :)
        · replace h := o_f h628 h
          have h := hc18_281 (I_18, J_18, R_18) (lp_exitE h hk18).symm
          replace h : some (nI 0) = some r := h
          refine go_iconst (pc' := 632) (v := (nI 0)) rfl rfl rfl ?_
          cases h
          exact go_iret rfl (rfl) rfl
      replace h := o_f c33_10 h
      by_cases c33_11 : d_33 = (11 : Int32)
      · replace h := o_t c33_11 h
        refine go_swIn (pc' := 633) 11 rfl rfl (by rw [c33_11]; decide) (by rw [c33_11]; decide) rfl ?_
        refine go_aload_n (pc' := 634) rfl rfl rfl ?_
        refine go_aload_n (pc' := 635) rfl rfl rfl ?_
        refine go_iload_n (pc' := 636) rfl rfl rfl ?_
        refine go_iconst (pc' := 637) (v := (nI 1)) rfl rfl rfl ?_
        refine go_iadd (pc' := 638) rfl rfl ?_
        obtain ⟨g79, h⟩ := o_gE h
        refine go_iaload (pc' := 639) rfl (Or.inr rfl) (o_ilE g79) rfl ?_
        refine go_aload_n (pc' := 640) rfl rfl rfl ?_
        refine go_iload_n (pc' := 641) rfl rfl rfl ?_
        refine go_iconst (pc' := 642) (v := (nI 2)) rfl rfl rfl ?_
        refine go_iadd (pc' := 643) rfl rfl ?_
        obtain ⟨g80, h⟩ := o_gE h
        refine go_iaload (pc' := 644) rfl (Or.inr rfl) (o_ilE g80) rfl ?_
        refine go_aload_n (pc' := 645) rfl rfl rfl ?_
        refine go_iload_n (pc' := 646) rfl rfl rfl ?_
        refine go_iconst (pc' := 647) (v := (nI 3)) rfl rfl rfl ?_
        refine go_iadd (pc' := 648) rfl rfl ?_
        obtain ⟨g81, h⟩ := o_gE h
        refine go_iaload (pc' := 649) rfl (Or.inr rfl) (o_ilE g81) rfl ?_
        obtain ⟨g82, h⟩ := o_gE h
        obtain ⟨r_649, I_649, q_649, h⟩ := o_b2E h
        refine go_callV (pc' := 652) (B' := (599907, 7285527)) (st' := [.inl r_649]) rfl rfl (Or.inl (by decide)) rfl rfl (o_kdE g82) (md_150 (by omega) (o_kdE g82) q_649) rfl rfl rfl ?_
        refine go_aload_n (pc' := 653) rfl rfl rfl ?_
        refine go_aload_n (pc' := 654) rfl rfl rfl ?_
        refine go_iload_n (pc' := 655) rfl rfl rfl ?_
        refine go_iconst (pc' := 656) (v := (nI 1)) rfl rfl rfl ?_
        refine go_iadd (pc' := 657) rfl rfl ?_
        obtain ⟨g83, h⟩ := o_gE h
        refine go_iaload (pc' := 658) rfl (Or.inr rfl) (o_ilE g83) rfl ?_
        refine go_aload_n (pc' := 659) rfl rfl rfl ?_
        refine go_iload_n (pc' := 660) rfl rfl rfl ?_
        refine go_iconst (pc' := 661) (v := (nI 2)) rfl rfl rfl ?_
        refine go_iadd (pc' := 662) rfl rfl ?_
        obtain ⟨g84, h⟩ := o_gE h
        refine go_iaload (pc' := 663) rfl (Or.inr rfl) (o_ilE g84) rfl ?_
        refine go_aload_n (pc' := 664) rfl rfl rfl ?_
        refine go_iload_n (pc' := 665) rfl rfl rfl ?_
        refine go_iconst (pc' := 666) (v := (nI 3)) rfl rfl rfl ?_
        refine go_iadd (pc' := 667) rfl rfl ?_
        obtain ⟨g85, h⟩ := o_gE h
        refine go_iaload (pc' := 668) rfl (Or.inr rfl) (o_ilE g85) rfl ?_
        obtain ⟨g86, h⟩ := o_gE h
        obtain ⟨r_668, I_668, q_668, h⟩ := o_b2E h
        refine go_callV (pc' := 671) (B' := (599907, 7285527)) (st' := [.inl r_668, .inl r_649]) rfl rfl (Or.inl (by decide)) rfl rfl (o_kdE g86) (md_270 (by omega) (o_kdE g86) q_668) rfl rfl rfl ?_
        refine go_icmp_eq (pt := 1711) (pc' := 674) rfl rfl rfl (fun h671 => ?_) (fun h671 => ?_)
        · replace h := o_t h671 h
          obtain ⟨x3_1711, ex3_1711, h⟩ := o_b1E h
          refine go_iincE (pc' := 1714) rfl rfl (y := (nI 6)) rfl ex3_1711 (lo' := [some (.inr (.inr 1999)), some (.inr (.inr n_0)), some (.inr (.inr n_8)), some (.inl x3_1711)]) rfl rfl ?_
          refine go_goto (pc' := 18) rfl rfl ?_
          exact (lp_backE h hk18 :)
        · replace h := o_f h671 h
          have h := hc18_281 (I_668, J_18, R_18) (lp_exitE h hk18).symm
          replace h : some (nI 0) = some r := h
          refine go_iconst (pc' := 675) (v := (nI 0)) rfl rfl rfl ?_
          cases h
          exact go_iret rfl (rfl) rfl
      replace h := o_f c33_11 h
      by_cases c33_12 : d_33 = (12 : Int32)
      · replace h := o_t c33_12 h
        refine go_swIn (pc' := 676) 12 rfl rfl (by rw [c33_12]; decide) (by rw [c33_12]; decide) rfl ?_
        refine go_aload_n (pc' := 677) rfl rfl rfl ?_
        refine go_aload_n (pc' := 678) rfl rfl rfl ?_
        refine go_iload_n (pc' := 679) rfl rfl rfl ?_
        refine go_iconst (pc' := 680) (v := (nI 1)) rfl rfl rfl ?_
        refine go_iadd (pc' := 681) rfl rfl ?_
        obtain ⟨g87, h⟩ := o_gE h
        refine go_iaload (pc' := 682) rfl (Or.inr rfl) (o_ilE g87) rfl ?_
        obtain ⟨g88, h⟩ := o_gE h
        obtain ⟨r_682, I_682, q_682, h⟩ := o_b2E h
        refine go_callV (pc' := 685) (B' := (599907, 7285527)) (st' := [.inl r_682]) rfl rfl (Or.inl (by decide)) rfl rfl (o_kdE g88) (md_151 (by omega) (o_kdE g88) q_682) rfl rfl rfl ?_
        refine go_aload_n (pc' := 686) rfl rfl rfl ?_
        refine go_aload_n (pc' := 687) rfl rfl rfl ?_
        refine go_iload_n (pc' := 688) rfl rfl rfl ?_
        refine go_iconst (pc' := 689) (v := (nI 1)) rfl rfl rfl ?_
        refine go_iadd (pc' := 690) rfl rfl ?_
        obtain ⟨g89, h⟩ := o_gE h
        refine go_iaload (pc' := 691) rfl (Or.inr rfl) (o_ilE g89) rfl ?_
        obtain ⟨g90, h⟩ := o_gE h
        obtain ⟨r_691, I_691, q_691, h⟩ := o_b2E h
        refine go_callV (pc' := 694) (B' := (599907, 7285527)) (st' := [.inl r_691, .inl r_682]) rfl rfl (Or.inl (by decide)) rfl rfl (o_kdE g90) (md_271 (by omega) (o_kdE g90) q_691) rfl rfl rfl ?_
        refine go_icmp_eq (pt := 1711) (pc' := 697) rfl rfl rfl (fun h694 => ?_) (fun h694 => ?_)
        · replace h := o_t h694 h
          obtain ⟨x3_1711, ex3_1711, h⟩ := o_b1E h
          refine go_iincE (pc' := 1714) rfl rfl (y := (nI 6)) rfl ex3_1711 (lo' := [some (.inr (.inr 1999)), some (.inr (.inr n_0)), some (.inr (.inr n_8)), some (.inl x3_1711)]) rfl rfl ?_
          refine go_goto (pc' := 18) rfl rfl ?_
          exact (lp_backE h hk18 :)
        · replace h := o_f h694 h
          have h := hc18_281 (I_691, J_18, R_18) (lp_exitE h hk18).symm
          replace h : some (nI 0) = some r := h
          refine go_iconst (pc' := 698) (v := (nI 0)) rfl rfl rfl ?_
          cases h
          exact go_iret rfl (rfl) rfl
      replace h := o_f c33_12 h
      by_cases c33_13 : d_33 = (13 : Int32)
      · replace h := o_t c33_13 h
        refine go_swIn (pc' := 699) 13 rfl rfl (by rw [c33_13]; decide) (by rw [c33_13]; decide) rfl ?_
        refine go_aload_n (pc' := 700) rfl rfl rfl ?_
        refine go_aload_n (pc' := 701) rfl rfl rfl ?_
        refine go_iload_n (pc' := 702) rfl rfl rfl ?_
        refine go_iconst (pc' := 703) (v := (nI 1)) rfl rfl rfl ?_
        refine go_iadd (pc' := 704) rfl rfl ?_
        obtain ⟨g91, h⟩ := o_gE h
        refine go_iaload (pc' := 705) rfl (Or.inr rfl) (o_ilE g91) rfl ?_
        refine go_aload_n (pc' := 706) rfl rfl rfl ?_
        refine go_iload_n (pc' := 707) rfl rfl rfl ?_
        refine go_iconst (pc' := 708) (v := (nI 2)) rfl rfl rfl ?_
        refine go_iadd (pc' := 709) rfl rfl ?_
        obtain ⟨g92, h⟩ := o_gE h
        refine go_iaload (pc' := 710) rfl (Or.inr rfl) (o_ilE g92) rfl ?_
        obtain ⟨g93, h⟩ := o_gE h
        obtain ⟨r_710, I_710, q_710, h⟩ := o_b2E h
        refine go_callV (pc' := 713) (B' := (599907, 7285527)) (st' := [.inl r_710]) rfl rfl (Or.inl (by decide)) rfl rfl (o_kdE g93) (md_152 (by omega) (o_kdE g93) q_710) rfl rfl rfl ?_
        refine go_aload_n (pc' := 714) rfl rfl rfl ?_
        refine go_aload_n (pc' := 715) rfl rfl rfl ?_
        refine go_iload_n (pc' := 716) rfl rfl rfl ?_
        refine go_iconst (pc' := 717) (v := (nI 1)) rfl rfl rfl ?_
        refine go_iadd (pc' := 718) rfl rfl ?_
        obtain ⟨g94, h⟩ := o_gE h
        refine go_iaload (pc' := 719) rfl (Or.inr rfl) (o_ilE g94) rfl ?_
        refine go_aload_n (pc' := 720) rfl rfl rfl ?_
        refine go_iload_n (pc' := 721) rfl rfl rfl ?_
        refine go_iconst (pc' := 722) (v := (nI 2)) rfl rfl rfl ?_
        refine go_iadd (pc' := 723) rfl rfl ?_
        obtain ⟨g95, h⟩ := o_gE h
        refine go_iaload (pc' := 724) rfl (Or.inr rfl) (o_ilE g95) rfl ?_
        obtain ⟨g96, h⟩ := o_gE h
        obtain ⟨r_724, I_724, q_724, h⟩ := o_b2E h
        refine go_callV (pc' := 727) (B' := (599907, 7285527)) (st' := [.inl r_724, .inl r_710]) rfl rfl (Or.inl (by decide)) rfl rfl (o_kdE g96) (md_273 (by omega) (o_kdE g96) q_724) rfl rfl rfl ?_
        refine go_icmp_eq (pt := 1711) (pc' := 730) rfl rfl rfl (fun h727 => ?_) (fun h727 => ?_)
        · replace h := o_t h727 h
          obtain ⟨x3_1711, ex3_1711, h⟩ := o_b1E h
          refine go_iincE (pc' := 1714) rfl rfl (y := (nI 6)) rfl ex3_1711 (lo' := [some (.inr (.inr 1999)), some (.inr (.inr n_0)), some (.inr (.inr n_8)), some (.inl x3_1711)]) rfl rfl ?_
          refine go_goto (pc' := 18) rfl rfl ?_
          exact (lp_backE h hk18 :)
        · replace h := o_f h727 h
          have h := hc18_281 (I_724, J_18, R_18) (lp_exitE h hk18).symm
          replace h : some (nI 0) = some r := h
          refine go_iconst (pc' := 731) (v := (nI 0)) rfl rfl rfl ?_
          cases h
          exact go_iret rfl (rfl) rfl
      replace h := o_f c33_13 h
      by_cases c33_14 : d_33 = (14 : Int32)
      · replace h := o_t c33_14 h
        refine go_swIn (pc' := 732) 14 rfl rfl (by rw [c33_14]; decide) (by rw [c33_14]; decide) rfl ?_
        refine go_aload_n (pc' := 733) rfl rfl rfl ?_
        refine go_aload_n (pc' := 734) rfl rfl rfl ?_
        refine go_iload_n (pc' := 735) rfl rfl rfl ?_
        refine go_iconst (pc' := 736) (v := (nI 1)) rfl rfl rfl ?_
        refine go_iadd (pc' := 737) rfl rfl ?_
        obtain ⟨g97, h⟩ := o_gE h
        refine go_iaload (pc' := 738) rfl (Or.inr rfl) (o_ilE g97) rfl ?_
        obtain ⟨g98, h⟩ := o_gE h
        obtain ⟨r_738, I_738, q_738, h⟩ := o_b2E h
        refine go_callV (pc' := 741) (B' := (599907, 7285527)) (st' := [.inl r_738]) rfl rfl (Or.inl (by decide)) rfl rfl (o_kdE g98) (md_153 (by omega) (o_kdE g98) q_738) rfl rfl rfl ?_
        refine go_aload_n (pc' := 742) rfl rfl rfl ?_
        refine go_aload_n (pc' := 743) rfl rfl rfl ?_
        refine go_iload_n (pc' := 744) rfl rfl rfl ?_
        refine go_iconst (pc' := 745) (v := (nI 1)) rfl rfl rfl ?_
        refine go_iadd (pc' := 746) rfl rfl ?_
        obtain ⟨g99, h⟩ := o_gE h
        refine go_iaload (pc' := 747) rfl (Or.inr rfl) (o_ilE g99) rfl ?_
        obtain ⟨g100, h⟩ := o_gE h
        obtain ⟨r_747, I_747, q_747, h⟩ := o_b2E h
        refine go_callV (pc' := 750) (B' := (599907, 7285527)) (st' := [.inl r_747, .inl r_738]) rfl rfl (Or.inl (by decide)) rfl rfl (o_kdE g100) (md_277 (by omega) (o_kdE g100) q_747) rfl rfl rfl ?_
        refine go_icmp_eq (pt := 1711) (pc' := 753) rfl rfl rfl (fun h750 => ?_) (fun h750 => ?_)
        · replace h := o_t h750 h
          obtain ⟨x3_1711, ex3_1711, h⟩ := o_b1E h
          refine go_iincE (pc' := 1714) rfl rfl (y := (nI 6)) rfl ex3_1711 (lo' := [some (.inr (.inr 1999)), some (.inr (.inr n_0)), some (.inr (.inr n_8)), some (.inl x3_1711)]) rfl rfl ?_
          refine go_goto (pc' := 18) rfl rfl ?_
          exact (lp_backE h hk18 :)
        · replace h := o_f h750 h
          have h := hc18_281 (I_747, J_18, R_18) (lp_exitE h hk18).symm
          replace h : some (nI 0) = some r := h
          refine go_iconst (pc' := 754) (v := (nI 0)) rfl rfl rfl ?_
          cases h
          exact go_iret rfl (rfl) rfl
      replace h := o_f c33_14 h
      by_cases c33_15 : d_33 = (15 : Int32)
      · replace h := o_t c33_15 h
        refine go_swIn (pc' := 755) 15 rfl rfl (by rw [c33_15]; decide) (by rw [c33_15]; decide) rfl ?_
        refine go_aload_n (pc' := 756) rfl rfl rfl ?_
        refine go_aload_n (pc' := 757) rfl rfl rfl ?_
        refine go_iload_n (pc' := 758) rfl rfl rfl ?_
        refine go_iconst (pc' := 759) (v := (nI 1)) rfl rfl rfl ?_
        refine go_iadd (pc' := 760) rfl rfl ?_
        obtain ⟨g101, h⟩ := o_gE h
        refine go_iaload (pc' := 761) rfl (Or.inr rfl) (o_ilE g101) rfl ?_
        refine go_aload_n (pc' := 762) rfl rfl rfl ?_
        refine go_iload_n (pc' := 763) rfl rfl rfl ?_
        refine go_iconst (pc' := 764) (v := (nI 2)) rfl rfl rfl ?_
        refine go_iadd (pc' := 765) rfl rfl ?_
        obtain ⟨g102, h⟩ := o_gE h
        refine go_iaload (pc' := 766) rfl (Or.inr rfl) (o_ilE g102) rfl ?_
        obtain ⟨g103, h⟩ := o_gE h
        obtain ⟨r_766, I_766, q_766, h⟩ := o_b2E h
        refine go_callV (pc' := 769) (B' := (599907, 7285527)) (st' := [.inl r_766]) rfl rfl (Or.inl (by decide)) rfl rfl (o_kdE g103) (md_154 (by omega) (o_kdE g103) q_766) rfl rfl rfl ?_
        refine go_aload_n (pc' := 770) rfl rfl rfl ?_
        refine go_aload_n (pc' := 771) rfl rfl rfl ?_
        refine go_iload_n (pc' := 772) rfl rfl rfl ?_
        refine go_iconst (pc' := 773) (v := (nI 1)) rfl rfl rfl ?_
        refine go_iadd (pc' := 774) rfl rfl ?_
        obtain ⟨g104, h⟩ := o_gE h
        refine go_iaload (pc' := 775) rfl (Or.inr rfl) (o_ilE g104) rfl ?_
        refine go_aload_n (pc' := 776) rfl rfl rfl ?_
        refine go_iload_n (pc' := 777) rfl rfl rfl ?_
        refine go_iconst (pc' := 778) (v := (nI 2)) rfl rfl rfl ?_
        refine go_iadd (pc' := 779) rfl rfl ?_
        obtain ⟨g105, h⟩ := o_gE h
        refine go_iaload (pc' := 780) rfl (Or.inr rfl) (o_ilE g105) rfl ?_
        obtain ⟨g106, h⟩ := o_gE h
        obtain ⟨r_780, I_780, q_780, h⟩ := o_b2E h
        refine go_callV (pc' := 783) (B' := (599907, 7285527)) (st' := [.inl r_780, .inl r_766]) rfl rfl (Or.inl (by decide)) rfl rfl (o_kdE g106) (md_278 (by omega) (o_kdE g106) q_780) rfl rfl rfl ?_
        refine go_icmp_eq (pt := 1711) (pc' := 786) rfl rfl rfl (fun h783 => ?_) (fun h783 => ?_)
        · replace h := o_t h783 h
          obtain ⟨x3_1711, ex3_1711, h⟩ := o_b1E h
          refine go_iincE (pc' := 1714) rfl rfl (y := (nI 6)) rfl ex3_1711 (lo' := [some (.inr (.inr 1999)), some (.inr (.inr n_0)), some (.inr (.inr n_8)), some (.inl x3_1711)]) rfl rfl ?_
          refine go_goto (pc' := 18) rfl rfl ?_
          exact (lp_backE h hk18 :)
        · replace h := o_f h783 h
          have h := hc18_281 (I_780, J_18, R_18) (lp_exitE h hk18).symm
          replace h : some (nI 0) = some r := h
          refine go_iconst (pc' := 787) (v := (nI 0)) rfl rfl rfl ?_
          cases h
          exact go_iret rfl (rfl) rfl
      replace h := o_f c33_15 h
      by_cases c33_16 : d_33 = (16 : Int32)
      · replace h := o_t c33_16 h
        refine go_swIn (pc' := 788) 16 rfl rfl (by rw [c33_16]; decide) (by rw [c33_16]; decide) rfl ?_
        refine go_aload_n (pc' := 789) rfl rfl rfl ?_
        refine go_aload_n (pc' := 790) rfl rfl rfl ?_
        refine go_iload_n (pc' := 791) rfl rfl rfl ?_
        refine go_iconst (pc' := 792) (v := (nI 1)) rfl rfl rfl ?_
        refine go_iadd (pc' := 793) rfl rfl ?_
        obtain ⟨g107, h⟩ := o_gE h
        refine go_iaload (pc' := 794) rfl (Or.inr rfl) (o_ilE g107) rfl ?_
        refine go_aload_n (pc' := 795) rfl rfl rfl ?_
        refine go_iload_n (pc' := 796) rfl rfl rfl ?_
        refine go_iconst (pc' := 797) (v := (nI 2)) rfl rfl rfl ?_
        refine go_iadd (pc' := 798) rfl rfl ?_
        obtain ⟨g108, h⟩ := o_gE h
        refine go_iaload (pc' := 799) rfl (Or.inr rfl) (o_ilE g108) rfl ?_
        obtain ⟨g109, h⟩ := o_gE h
        obtain ⟨r_799, I_799, q_799, h⟩ := o_b2E h
        refine go_callV (pc' := 802) (B' := (599907, 7285527)) (st' := [.inl r_799]) rfl rfl (Or.inl (by decide)) rfl rfl (o_kdE g109) (md_155 (by omega) (o_kdE g109) q_799) rfl rfl rfl ?_
        refine go_aload_n (pc' := 803) rfl rfl rfl ?_
        refine go_aload_n (pc' := 804) rfl rfl rfl ?_
        refine go_iload_n (pc' := 805) rfl rfl rfl ?_
        refine go_iconst (pc' := 806) (v := (nI 1)) rfl rfl rfl ?_
        refine go_iadd (pc' := 807) rfl rfl ?_
        obtain ⟨g110, h⟩ := o_gE h
        refine go_iaload (pc' := 808) rfl (Or.inr rfl) (o_ilE g110) rfl ?_
        refine go_aload_n (pc' := 809) rfl rfl rfl ?_
        refine go_iload_n (pc' := 810) rfl rfl rfl ?_
        refine go_iconst (pc' := 811) (v := (nI 2)) rfl rfl rfl ?_
        refine go_iadd (pc' := 812) rfl rfl ?_
        obtain ⟨g111, h⟩ := o_gE h
        refine go_iaload (pc' := 813) rfl (Or.inr rfl) (o_ilE g111) rfl ?_
        obtain ⟨g112, h⟩ := o_gE h
        obtain ⟨r_813, I_813, q_813, h⟩ := o_b2E h
        refine go_callV (pc' := 816) (B' := (599907, 7285527)) (st' := [.inl r_813, .inl r_799]) rfl rfl (Or.inl (by decide)) rfl rfl (o_kdE g112) (md_280 (by omega) (o_kdE g112) q_813) rfl rfl rfl ?_
        refine go_icmp_eq (pt := 1711) (pc' := 819) rfl rfl rfl (fun h816 => ?_) (fun h816 => ?_)
        · replace h := o_t h816 h
          obtain ⟨x3_1711, ex3_1711, h⟩ := o_b1E h
          refine go_iincE (pc' := 1714) rfl rfl (y := (nI 6)) rfl ex3_1711 (lo' := [some (.inr (.inr 1999)), some (.inr (.inr n_0)), some (.inr (.inr n_8)), some (.inl x3_1711)]) rfl rfl ?_
          refine go_goto (pc' := 18) rfl rfl ?_
          exact (lp_backE h hk18 :)
        · replace h := o_f h816 h
          have h := hc18_281 (I_813, J_18, R_18) (lp_exitE h hk18).symm
          replace h : some (nI 0) = some r := h
          refine go_iconst (pc' := 820) (v := (nI 0)) rfl rfl rfl ?_
          cases h
          exact go_iret rfl (rfl) rfl
      replace h := o_f c33_16 h
      by_cases c33_17 : d_33 = (17 : Int32)
      · replace h := o_t c33_17 h
        refine go_swIn (pc' := 821) 17 rfl rfl (by rw [c33_17]; decide) (by rw [c33_17]; decide) rfl ?_
        refine go_aload_n (pc' := 822) rfl rfl rfl ?_
        refine go_aload_n (pc' := 823) rfl rfl rfl ?_
        refine go_iload_n (pc' := 824) rfl rfl rfl ?_
        refine go_iconst (pc' := 825) (v := (nI 1)) rfl rfl rfl ?_
        refine go_iadd (pc' := 826) rfl rfl ?_
        obtain ⟨g113, h⟩ := o_gE h
        refine go_iaload (pc' := 827) rfl (Or.inr rfl) (o_ilE g113) rfl ?_
        refine go_aload_n (pc' := 828) rfl rfl rfl ?_
        refine go_iload_n (pc' := 829) rfl rfl rfl ?_
        refine go_iconst (pc' := 830) (v := (nI 2)) rfl rfl rfl ?_
        refine go_iadd (pc' := 831) rfl rfl ?_
        obtain ⟨g114, h⟩ := o_gE h
        refine go_iaload (pc' := 832) rfl (Or.inr rfl) (o_ilE g114) rfl ?_
        refine go_aload_n (pc' := 833) rfl rfl rfl ?_
        refine go_iload_n (pc' := 834) rfl rfl rfl ?_
        refine go_iconst (pc' := 835) (v := (nI 3)) rfl rfl rfl ?_
        refine go_iadd (pc' := 836) rfl rfl ?_
        obtain ⟨g115, h⟩ := o_gE h
        refine go_iaload (pc' := 837) rfl (Or.inr rfl) (o_ilE g115) rfl ?_
        obtain ⟨g116, h⟩ := o_gE h
        obtain ⟨r_837, I_837, q_837, h⟩ := o_b2E h
        refine go_callV (pc' := 840) (B' := (599907, 7285527)) (st' := [.inl r_837]) rfl rfl (Or.inl (by decide)) rfl rfl (o_kdE g116) (md_156 (by omega) (o_kdE g116) q_837) rfl rfl rfl ?_
        refine go_aload_n (pc' := 841) rfl rfl rfl ?_
        refine go_aload_n (pc' := 842) rfl rfl rfl ?_
        refine go_iload_n (pc' := 843) rfl rfl rfl ?_
        refine go_iconst (pc' := 844) (v := (nI 1)) rfl rfl rfl ?_
        refine go_iadd (pc' := 845) rfl rfl ?_
        obtain ⟨g117, h⟩ := o_gE h
        refine go_iaload (pc' := 846) rfl (Or.inr rfl) (o_ilE g117) rfl ?_
        refine go_aload_n (pc' := 847) rfl rfl rfl ?_
        refine go_iload_n (pc' := 848) rfl rfl rfl ?_
        refine go_iconst (pc' := 849) (v := (nI 2)) rfl rfl rfl ?_
        refine go_iadd (pc' := 850) rfl rfl ?_
        obtain ⟨g118, h⟩ := o_gE h
        refine go_iaload (pc' := 851) rfl (Or.inr rfl) (o_ilE g118) rfl ?_
        refine go_aload_n (pc' := 852) rfl rfl rfl ?_
        refine go_iload_n (pc' := 853) rfl rfl rfl ?_
        refine go_iconst (pc' := 854) (v := (nI 3)) rfl rfl rfl ?_
        refine go_iadd (pc' := 855) rfl rfl ?_
        obtain ⟨g119, h⟩ := o_gE h
        refine go_iaload (pc' := 856) rfl (Or.inr rfl) (o_ilE g119) rfl ?_
        obtain ⟨g120, h⟩ := o_gE h
        obtain ⟨r_856, I_856, q_856, h⟩ := o_b2E h
        refine go_callV (pc' := 859) (B' := (599907, 7285527)) (st' := [.inl r_856, .inl r_837]) rfl rfl (Or.inl (by decide)) rfl rfl (o_kdE g120) (md_286 (by omega) (o_kdE g120) q_856) rfl rfl rfl ?_
        refine go_icmp_eq (pt := 1711) (pc' := 862) rfl rfl rfl (fun h859 => ?_) (fun h859 => ?_)
        · replace h := o_t h859 h
          obtain ⟨x3_1711, ex3_1711, h⟩ := o_b1E h
          refine go_iincE (pc' := 1714) rfl rfl (y := (nI 6)) rfl ex3_1711 (lo' := [some (.inr (.inr 1999)), some (.inr (.inr n_0)), some (.inr (.inr n_8)), some (.inl x3_1711)]) rfl rfl ?_
          refine go_goto (pc' := 18) rfl rfl ?_
          exact (lp_backE h hk18 :)
        · replace h := o_f h859 h
          have h := hc18_281 (I_856, J_18, R_18) (lp_exitE h hk18).symm
          replace h : some (nI 0) = some r := h
          refine go_iconst (pc' := 863) (v := (nI 0)) rfl rfl rfl ?_
          cases h
          exact go_iret rfl (rfl) rfl
      replace h := o_f c33_17 h
      by_cases c33_18 : d_33 = (18 : Int32)
      · replace h := o_t c33_18 h
        refine go_swIn (pc' := 864) 18 rfl rfl (by rw [c33_18]; decide) (by rw [c33_18]; decide) rfl ?_
        refine go_aload_n (pc' := 865) rfl rfl rfl ?_
        refine go_aload_n (pc' := 866) rfl rfl rfl ?_
        refine go_iload_n (pc' := 867) rfl rfl rfl ?_
        refine go_iconst (pc' := 868) (v := (nI 1)) rfl rfl rfl ?_
        refine go_iadd (pc' := 869) rfl rfl ?_
        obtain ⟨g121, h⟩ := o_gE h
        refine go_iaload (pc' := 870) rfl (Or.inr rfl) (o_ilE g121) rfl ?_
        refine go_aload_n (pc' := 871) rfl rfl rfl ?_
        refine go_iload_n (pc' := 872) rfl rfl rfl ?_
        refine go_iconst (pc' := 873) (v := (nI 2)) rfl rfl rfl ?_
        refine go_iadd (pc' := 874) rfl rfl ?_
        obtain ⟨g122, h⟩ := o_gE h
        refine go_iaload (pc' := 875) rfl (Or.inr rfl) (o_ilE g122) rfl ?_
        refine go_aload_n (pc' := 876) rfl rfl rfl ?_
        refine go_iload_n (pc' := 877) rfl rfl rfl ?_
        refine go_iconst (pc' := 878) (v := (nI 3)) rfl rfl rfl ?_
        refine go_iadd (pc' := 879) rfl rfl ?_
        obtain ⟨g123, h⟩ := o_gE h
        refine go_iaload (pc' := 880) rfl (Or.inr rfl) (o_ilE g123) rfl ?_
        obtain ⟨g124, h⟩ := o_gE h
        obtain ⟨r_880, I_880, q_880, h⟩ := o_b2E h
        refine go_callV (pc' := 883) (B' := (599907, 7285527)) (st' := [.inl r_880]) rfl rfl (Or.inl (by decide)) rfl rfl (o_kdE g124) (md_157 (by omega) (o_kdE g124) q_880) rfl rfl rfl ?_
        refine go_aload_n (pc' := 884) rfl rfl rfl ?_
        refine go_aload_n (pc' := 885) rfl rfl rfl ?_
        refine go_iload_n (pc' := 886) rfl rfl rfl ?_
        refine go_iconst (pc' := 887) (v := (nI 1)) rfl rfl rfl ?_
        refine go_iadd (pc' := 888) rfl rfl ?_
        obtain ⟨g125, h⟩ := o_gE h
        refine go_iaload (pc' := 889) rfl (Or.inr rfl) (o_ilE g125) rfl ?_
        refine go_aload_n (pc' := 890) rfl rfl rfl ?_
        refine go_iload_n (pc' := 891) rfl rfl rfl ?_
        refine go_iconst (pc' := 892) (v := (nI 2)) rfl rfl rfl ?_
        refine go_iadd (pc' := 893) rfl rfl ?_
        obtain ⟨g126, h⟩ := o_gE h
        refine go_iaload (pc' := 894) rfl (Or.inr rfl) (o_ilE g126) rfl ?_
        refine go_aload_n (pc' := 895) rfl rfl rfl ?_
        refine go_iload_n (pc' := 896) rfl rfl rfl ?_
        refine go_iconst (pc' := 897) (v := (nI 3)) rfl rfl rfl ?_
        refine go_iadd (pc' := 898) rfl rfl ?_
        obtain ⟨g127, h⟩ := o_gE h
        refine go_iaload (pc' := 899) rfl (Or.inr rfl) (o_ilE g127) rfl ?_
        obtain ⟨g128, h⟩ := o_gE h
        obtain ⟨r_899, I_899, q_899, h⟩ := o_b2E h
        refine go_callV (pc' := 902) (B' := (599907, 7285527)) (st' := [.inl r_899, .inl r_880]) rfl rfl (Or.inl (by decide)) rfl rfl (o_kdE g128) (md_287 (by omega) (o_kdE g128) q_899) rfl rfl rfl ?_
        refine go_icmp_eq (pt := 1711) (pc' := 905) rfl rfl rfl (fun h902 => ?_) (fun h902 => ?_)
        · replace h := o_t h902 h
          obtain ⟨x3_1711, ex3_1711, h⟩ := o_b1E h
          refine go_iincE (pc' := 1714) rfl rfl (y := (nI 6)) rfl ex3_1711 (lo' := [some (.inr (.inr 1999)), some (.inr (.inr n_0)), some (.inr (.inr n_8)), some (.inl x3_1711)]) rfl rfl ?_
          refine go_goto (pc' := 18) rfl rfl ?_
          exact (lp_backE h hk18 :)
        · replace h := o_f h902 h
          have h := hc18_281 (I_899, J_18, R_18) (lp_exitE h hk18).symm
          replace h : some (nI 0) = some r := h
          refine go_iconst (pc' := 906) (v := (nI 0)) rfl rfl rfl ?_
          cases h
          exact go_iret rfl (rfl) rfl
      replace h := o_f c33_18 h
      by_cases c33_19 : d_33 = (19 : Int32)
      · replace h := o_t c33_19 h
        refine go_swIn (pc' := 907) 19 rfl rfl (by rw [c33_19]; decide) (by rw [c33_19]; decide) rfl ?_
        refine go_aload_n (pc' := 908) rfl rfl rfl ?_
        refine go_aload_n (pc' := 909) rfl rfl rfl ?_
        refine go_iload_n (pc' := 910) rfl rfl rfl ?_
        refine go_iconst (pc' := 911) (v := (nI 1)) rfl rfl rfl ?_
        refine go_iadd (pc' := 912) rfl rfl ?_
        obtain ⟨g129, h⟩ := o_gE h
        refine go_iaload (pc' := 913) rfl (Or.inr rfl) (o_ilE g129) rfl ?_
        refine go_aload_n (pc' := 914) rfl rfl rfl ?_
        refine go_iload_n (pc' := 915) rfl rfl rfl ?_
        refine go_iconst (pc' := 916) (v := (nI 2)) rfl rfl rfl ?_
        refine go_iadd (pc' := 917) rfl rfl ?_
        obtain ⟨g130, h⟩ := o_gE h
        refine go_iaload (pc' := 918) rfl (Or.inr rfl) (o_ilE g130) rfl ?_
        obtain ⟨g131, h⟩ := o_gE h
        obtain ⟨r_918, I_918, q_918, h⟩ := o_b2E h
        refine go_callV (pc' := 921) (B' := (599907, 7285527)) (st' := [.inl r_918]) rfl rfl (Or.inl (by decide)) rfl rfl (o_kdE g131) (md_158 (by omega) (o_kdE g131) q_918) rfl rfl rfl ?_
        refine go_aload_n (pc' := 922) rfl rfl rfl ?_
        refine go_aload_n (pc' := 923) rfl rfl rfl ?_
        refine go_iload_n (pc' := 924) rfl rfl rfl ?_
        refine go_iconst (pc' := 925) (v := (nI 1)) rfl rfl rfl ?_
        refine go_iadd (pc' := 926) rfl rfl ?_
        obtain ⟨g132, h⟩ := o_gE h
        refine go_iaload (pc' := 927) rfl (Or.inr rfl) (o_ilE g132) rfl ?_
        refine go_aload_n (pc' := 928) rfl rfl rfl ?_
        refine go_iload_n (pc' := 929) rfl rfl rfl ?_
        refine go_iconst (pc' := 930) (v := (nI 2)) rfl rfl rfl ?_
        refine go_iadd (pc' := 931) rfl rfl ?_
        obtain ⟨g133, h⟩ := o_gE h
        refine go_iaload (pc' := 932) rfl (Or.inr rfl) (o_ilE g133) rfl ?_
        obtain ⟨g134, h⟩ := o_gE h
        obtain ⟨r_932, I_932, q_932, h⟩ := o_b2E h
        refine go_callV (pc' := 935) (B' := (599907, 7285527)) (st' := [.inl r_932, .inl r_918]) rfl rfl (Or.inl (by decide)) rfl rfl (o_kdE g134) (md_290 (by omega) (o_kdE g134) q_932) rfl rfl rfl ?_
        refine go_icmp_eq (pt := 1711) (pc' := 938) rfl rfl rfl (fun h935 => ?_) (fun h935 => ?_)
        · replace h := o_t h935 h
          obtain ⟨x3_1711, ex3_1711, h⟩ := o_b1E h
          refine go_iincE (pc' := 1714) rfl rfl (y := (nI 6)) rfl ex3_1711 (lo' := [some (.inr (.inr 1999)), some (.inr (.inr n_0)), some (.inr (.inr n_8)), some (.inl x3_1711)]) rfl rfl ?_
          refine go_goto (pc' := 18) rfl rfl ?_
          exact (lp_backE h hk18 :)
        · replace h := o_f h935 h
          have h := hc18_281 (I_932, J_18, R_18) (lp_exitE h hk18).symm
          replace h : some (nI 0) = some r := h
          refine go_iconst (pc' := 939) (v := (nI 0)) rfl rfl rfl ?_
          cases h
          exact go_iret rfl (rfl) rfl
      replace h := o_f c33_19 h
      by_cases c33_20 : d_33 = (20 : Int32)
      · replace h := o_t c33_20 h
        refine go_swIn (pc' := 940) 20 rfl rfl (by rw [c33_20]; decide) (by rw [c33_20]; decide) rfl ?_
        refine go_aload_n (pc' := 941) rfl rfl rfl ?_
        refine go_aload_n (pc' := 942) rfl rfl rfl ?_
        refine go_iload_n (pc' := 943) rfl rfl rfl ?_
        refine go_iconst (pc' := 944) (v := (nI 1)) rfl rfl rfl ?_
        refine go_iadd (pc' := 945) rfl rfl ?_
        obtain ⟨g135, h⟩ := o_gE h
        refine go_iaload (pc' := 946) rfl (Or.inr rfl) (o_ilE g135) rfl ?_
        refine go_aload_n (pc' := 947) rfl rfl rfl ?_
        refine go_iload_n (pc' := 948) rfl rfl rfl ?_
        refine go_iconst (pc' := 949) (v := (nI 2)) rfl rfl rfl ?_
        refine go_iadd (pc' := 950) rfl rfl ?_
        obtain ⟨g136, h⟩ := o_gE h
        refine go_iaload (pc' := 951) rfl (Or.inr rfl) (o_ilE g136) rfl ?_
        obtain ⟨g137, h⟩ := o_gE h
        obtain ⟨r_951, q_951, h⟩ := o_b1E h
        refine go_callV (pc' := 954) (B' := (599907, 7285527)) (st' := [.inl r_951]) rfl rfl (Or.inl (by decide)) rfl rfl (o_kdE g137) (md_159 (by omega) (o_kdE g137) q_951) rfl rfl rfl ?_
        refine go_aload_n (pc' := 955) rfl rfl rfl ?_
        refine go_aload_n (pc' := 956) rfl rfl rfl ?_
        refine go_iload_n (pc' := 957) rfl rfl rfl ?_
        refine go_iconst (pc' := 958) (v := (nI 1)) rfl rfl rfl ?_
        refine go_iadd (pc' := 959) rfl rfl ?_
        obtain ⟨g138, h⟩ := o_gE h
        refine go_iaload (pc' := 960) rfl (Or.inr rfl) (o_ilE g138) rfl ?_
        refine go_aload_n (pc' := 961) rfl rfl rfl ?_
        refine go_iload_n (pc' := 962) rfl rfl rfl ?_
        refine go_iconst (pc' := 963) (v := (nI 2)) rfl rfl rfl ?_
        refine go_iadd (pc' := 964) rfl rfl ?_
        obtain ⟨g139, h⟩ := o_gE h
        refine go_iaload (pc' := 965) rfl (Or.inr rfl) (o_ilE g139) rfl ?_
        obtain ⟨g140, h⟩ := o_gE h
        obtain ⟨r_965, q_965, h⟩ := o_b1E h
        refine go_callV (pc' := 968) (B' := (599907, 7285527)) (st' := [.inl r_965, .inl r_951]) rfl rfl (Or.inl (by decide)) rfl rfl (o_kdE g140) (md_291 (by omega) (o_kdE g140) q_965) rfl rfl rfl ?_
        refine go_icmp_eq (pt := 1711) (pc' := 971) rfl rfl rfl (fun h968 => ?_) (fun h968 => ?_)
        · replace h := o_t h968 h
          obtain ⟨x3_1711, ex3_1711, h⟩ := o_b1E h
          refine go_iincE (pc' := 1714) rfl rfl (y := (nI 6)) rfl ex3_1711 (lo' := [some (.inr (.inr 1999)), some (.inr (.inr n_0)), some (.inr (.inr n_8)), some (.inl x3_1711)]) rfl rfl ?_
          refine go_goto (pc' := 18) rfl rfl ?_
          exact (lp_backE h hk18 :)
        · replace h := o_f h968 h
          have h := hc18_281 (I_18, J_18, R_18) (lp_exitE h hk18).symm
          replace h : some (nI 0) = some r := h
          refine go_iconst (pc' := 972) (v := (nI 0)) rfl rfl rfl ?_
          cases h
          exact go_iret rfl (rfl) rfl
      replace h := o_f c33_20 h
      by_cases c33_21 : d_33 = (21 : Int32)
      · replace h := o_t c33_21 h
        refine go_swIn (pc' := 973) 21 rfl rfl (by rw [c33_21]; decide) (by rw [c33_21]; decide) rfl ?_
        refine go_aload_n (pc' := 974) rfl rfl rfl ?_
        refine go_aload_n (pc' := 975) rfl rfl rfl ?_
        refine go_iload_n (pc' := 976) rfl rfl rfl ?_
        refine go_iconst (pc' := 977) (v := (nI 1)) rfl rfl rfl ?_
        refine go_iadd (pc' := 978) rfl rfl ?_
        obtain ⟨g141, h⟩ := o_gE h
        refine go_iaload (pc' := 979) rfl (Or.inr rfl) (o_ilE g141) rfl ?_
        refine go_aload_n (pc' := 980) rfl rfl rfl ?_
        refine go_iload_n (pc' := 981) rfl rfl rfl ?_
        refine go_iconst (pc' := 982) (v := (nI 2)) rfl rfl rfl ?_
        refine go_iadd (pc' := 983) rfl rfl ?_
        obtain ⟨g142, h⟩ := o_gE h
        refine go_iaload (pc' := 984) rfl (Or.inr rfl) (o_ilE g142) rfl ?_
        refine go_aload_n (pc' := 985) rfl rfl rfl ?_
        refine go_iload_n (pc' := 986) rfl rfl rfl ?_
        refine go_iconst (pc' := 987) (v := (nI 3)) rfl rfl rfl ?_
        refine go_iadd (pc' := 988) rfl rfl ?_
        obtain ⟨g143, h⟩ := o_gE h
        refine go_iaload (pc' := 989) rfl (Or.inr rfl) (o_ilE g143) rfl ?_
        obtain ⟨g144, h⟩ := o_gE h
        obtain ⟨r_989, q_989, h⟩ := o_b1E h
        refine go_callV (pc' := 992) (B' := (599907, 7285527)) (st' := [.inr (.inl r_989)]) rfl rfl (Or.inl (by decide)) rfl rfl (o_kdE g144) (md_160 (by omega) (o_kdE g144) q_989) rfl rfl rfl ?_
        refine go_aload_n (pc' := 993) rfl rfl rfl ?_
        refine go_aload_n (pc' := 994) rfl rfl rfl ?_
        refine go_iload_n (pc' := 995) rfl rfl rfl ?_
        refine go_iconst (pc' := 996) (v := (nI 1)) rfl rfl rfl ?_
        refine go_iadd (pc' := 997) rfl rfl ?_
        obtain ⟨g145, h⟩ := o_gE h
        refine go_iaload (pc' := 998) rfl (Or.inr rfl) (o_ilE g145) rfl ?_
        refine go_aload_n (pc' := 999) rfl rfl rfl ?_
        refine go_iload_n (pc' := 1000) rfl rfl rfl ?_
        refine go_iconst (pc' := 1001) (v := (nI 2)) rfl rfl rfl ?_
        refine go_iadd (pc' := 1002) rfl rfl ?_
        obtain ⟨g146, h⟩ := o_gE h
        refine go_iaload (pc' := 1003) rfl (Or.inr rfl) (o_ilE g146) rfl ?_
        refine go_aload_n (pc' := 1004) rfl rfl rfl ?_
        refine go_iload_n (pc' := 1005) rfl rfl rfl ?_
        refine go_iconst (pc' := 1006) (v := (nI 3)) rfl rfl rfl ?_
        refine go_iadd (pc' := 1007) rfl rfl ?_
        obtain ⟨g147, h⟩ := o_gE h
        refine go_iaload (pc' := 1008) rfl (Or.inr rfl) (o_ilE g147) rfl ?_
        obtain ⟨g148, h⟩ := o_gE h
        obtain ⟨r_1008, q_1008, h⟩ := o_b1E h
        refine go_callV (pc' := 1011) (B' := (599907, 7285527)) (st' := [.inr (.inl r_1008), .inr (.inl r_989)]) rfl rfl (Or.inl (by decide)) rfl rfl (o_kdE g148) (md_293 (by omega) (o_kdE g148) q_1008) rfl rfl rfl ?_
        refine go_lcmp (pc' := 1012) rfl rfl ?_
        refine go_if_eq (pt := 1711) (pc' := 1015) rfl rfl rfl (fun h1012 => ?_) (fun h1012 => ?_)
        · replace h := o_t h1012 h
          obtain ⟨x3_1711, ex3_1711, h⟩ := o_b1E h
          refine go_iincE (pc' := 1714) rfl rfl (y := (nI 6)) rfl ex3_1711 (lo' := [some (.inr (.inr 1999)), some (.inr (.inr n_0)), some (.inr (.inr n_8)), some (.inl x3_1711)]) rfl rfl ?_
          refine go_goto (pc' := 18) rfl rfl ?_
          exact (lp_backE h hk18 :)
        · replace h := o_f h1012 h
          have h := hc18_281 (I_18, J_18, R_18) (lp_exitE h hk18).symm
          replace h : some (nI 0) = some r := h
          refine go_iconst (pc' := 1016) (v := (nI 0)) rfl rfl rfl ?_
          cases h
          exact go_iret rfl (rfl) rfl
      replace h := o_f c33_21 h
      by_cases c33_22 : d_33 = (22 : Int32)
      · replace h := o_t c33_22 h
        refine go_swIn (pc' := 1017) 22 rfl rfl (by rw [c33_22]; decide) (by rw [c33_22]; decide) rfl ?_
        refine go_aload_n (pc' := 1018) rfl rfl rfl ?_
        refine go_aload_n (pc' := 1019) rfl rfl rfl ?_
        refine go_iload_n (pc' := 1020) rfl rfl rfl ?_
        refine go_iconst (pc' := 1021) (v := (nI 1)) rfl rfl rfl ?_
        refine go_iadd (pc' := 1022) rfl rfl ?_
        obtain ⟨g149, h⟩ := o_gE h
        refine go_iaload (pc' := 1023) rfl (Or.inr rfl) (o_ilE g149) rfl ?_
        refine go_aload_n (pc' := 1024) rfl rfl rfl ?_
        refine go_iload_n (pc' := 1025) rfl rfl rfl ?_
        refine go_iconst (pc' := 1026) (v := (nI 2)) rfl rfl rfl ?_
        refine go_iadd (pc' := 1027) rfl rfl ?_
        obtain ⟨g150, h⟩ := o_gE h
        refine go_iaload (pc' := 1028) rfl (Or.inr rfl) (o_ilE g150) rfl ?_
        refine go_aload_n (pc' := 1029) rfl rfl rfl ?_
        refine go_iload_n (pc' := 1030) rfl rfl rfl ?_
        refine go_iconst (pc' := 1031) (v := (nI 3)) rfl rfl rfl ?_
        refine go_iadd (pc' := 1032) rfl rfl ?_
        obtain ⟨g151, h⟩ := o_gE h
        refine go_iaload (pc' := 1033) rfl (Or.inr rfl) (o_ilE g151) rfl ?_
        obtain ⟨g152, h⟩ := o_gE h
        obtain ⟨r_1033, q_1033, h⟩ := o_b1E h
        refine go_callV (pc' := 1036) (B' := (599907, 7285527)) (st' := [.inr (.inl r_1033)]) rfl rfl (Or.inl (by decide)) rfl rfl (o_kdE g152) (md_161 (by omega) (o_kdE g152) q_1033) rfl rfl rfl ?_
        refine go_aload_n (pc' := 1037) rfl rfl rfl ?_
        refine go_aload_n (pc' := 1038) rfl rfl rfl ?_
        refine go_iload_n (pc' := 1039) rfl rfl rfl ?_
        refine go_iconst (pc' := 1040) (v := (nI 1)) rfl rfl rfl ?_
        refine go_iadd (pc' := 1041) rfl rfl ?_
        obtain ⟨g153, h⟩ := o_gE h
        refine go_iaload (pc' := 1042) rfl (Or.inr rfl) (o_ilE g153) rfl ?_
        refine go_aload_n (pc' := 1043) rfl rfl rfl ?_
        refine go_iload_n (pc' := 1044) rfl rfl rfl ?_
        refine go_iconst (pc' := 1045) (v := (nI 2)) rfl rfl rfl ?_
        refine go_iadd (pc' := 1046) rfl rfl ?_
        obtain ⟨g154, h⟩ := o_gE h
        refine go_iaload (pc' := 1047) rfl (Or.inr rfl) (o_ilE g154) rfl ?_
        refine go_aload_n (pc' := 1048) rfl rfl rfl ?_
        refine go_iload_n (pc' := 1049) rfl rfl rfl ?_
        refine go_iconst (pc' := 1050) (v := (nI 3)) rfl rfl rfl ?_
        refine go_iadd (pc' := 1051) rfl rfl ?_
        obtain ⟨g155, h⟩ := o_gE h
        refine go_iaload (pc' := 1052) rfl (Or.inr rfl) (o_ilE g155) rfl ?_
        obtain ⟨g156, h⟩ := o_gE h
        obtain ⟨r_1052, q_1052, h⟩ := o_b1E h
        refine go_callV (pc' := 1055) (B' := (599907, 7285527)) (st' := [.inr (.inl r_1052), .inr (.inl r_1033)]) rfl rfl (Or.inl (by decide)) rfl rfl (o_kdE g156) (md_296 (by omega) (o_kdE g156) q_1052) rfl rfl rfl ?_
        refine go_lcmp (pc' := 1056) rfl rfl ?_
        refine go_if_eq (pt := 1711) (pc' := 1059) rfl rfl rfl (fun h1056 => ?_) (fun h1056 => ?_)
        · replace h := o_t h1056 h
          obtain ⟨x3_1711, ex3_1711, h⟩ := o_b1E h
          refine go_iincE (pc' := 1714) rfl rfl (y := (nI 6)) rfl ex3_1711 (lo' := [some (.inr (.inr 1999)), some (.inr (.inr n_0)), some (.inr (.inr n_8)), some (.inl x3_1711)]) rfl rfl ?_
          refine go_goto (pc' := 18) rfl rfl ?_
          exact (lp_backE h hk18 :)
        · replace h := o_f h1056 h
          have h := hc18_281 (I_18, J_18, R_18) (lp_exitE h hk18).symm
          replace h : some (nI 0) = some r := h
          refine go_iconst (pc' := 1060) (v := (nI 0)) rfl rfl rfl ?_
          cases h
          exact go_iret rfl (rfl) rfl
      replace h := o_f c33_22 h
      by_cases c33_23 : d_33 = (23 : Int32)
      · replace h := o_t c33_23 h
        refine go_swIn (pc' := 1061) 23 rfl rfl (by rw [c33_23]; decide) (by rw [c33_23]; decide) rfl ?_
        refine go_aload_n (pc' := 1062) rfl rfl rfl ?_
        refine go_aload_n (pc' := 1063) rfl rfl rfl ?_
        refine go_iload_n (pc' := 1064) rfl rfl rfl ?_
        refine go_iconst (pc' := 1065) (v := (nI 1)) rfl rfl rfl ?_
        refine go_iadd (pc' := 1066) rfl rfl ?_
        obtain ⟨g157, h⟩ := o_gE h
        refine go_iaload (pc' := 1067) rfl (Or.inr rfl) (o_ilE g157) rfl ?_
        refine go_aload_n (pc' := 1068) rfl rfl rfl ?_
        refine go_iload_n (pc' := 1069) rfl rfl rfl ?_
        refine go_iconst (pc' := 1070) (v := (nI 2)) rfl rfl rfl ?_
        refine go_iadd (pc' := 1071) rfl rfl ?_
        obtain ⟨g158, h⟩ := o_gE h
        refine go_iaload (pc' := 1072) rfl (Or.inr rfl) (o_ilE g158) rfl ?_
        obtain ⟨g159, h⟩ := o_gE h
        obtain ⟨r_1072, q_1072, h⟩ := o_b1E h
        refine go_callV (pc' := 1075) (B' := (599907, 7285527)) (st' := [.inl r_1072]) rfl rfl (Or.inl (by decide)) rfl rfl (o_kdE g159) (md_162 (by omega) (o_kdE g159) q_1072) rfl rfl rfl ?_
        refine go_aload_n (pc' := 1076) rfl rfl rfl ?_
        refine go_aload_n (pc' := 1077) rfl rfl rfl ?_
        refine go_iload_n (pc' := 1078) rfl rfl rfl ?_
        refine go_iconst (pc' := 1079) (v := (nI 1)) rfl rfl rfl ?_
        refine go_iadd (pc' := 1080) rfl rfl ?_
        obtain ⟨g160, h⟩ := o_gE h
        refine go_iaload (pc' := 1081) rfl (Or.inr rfl) (o_ilE g160) rfl ?_
        refine go_aload_n (pc' := 1082) rfl rfl rfl ?_
        refine go_iload_n (pc' := 1083) rfl rfl rfl ?_
        refine go_iconst (pc' := 1084) (v := (nI 2)) rfl rfl rfl ?_
        refine go_iadd (pc' := 1085) rfl rfl ?_
        obtain ⟨g161, h⟩ := o_gE h
        refine go_iaload (pc' := 1086) rfl (Or.inr rfl) (o_ilE g161) rfl ?_
        obtain ⟨g162, h⟩ := o_gE h
        obtain ⟨r_1086, q_1086, h⟩ := o_b1E h
        refine go_callV (pc' := 1089) (B' := (599907, 7285527)) (st' := [.inl r_1086, .inl r_1072]) rfl rfl (Or.inl (by decide)) rfl rfl (o_kdE g162) (md_297 (by omega) (o_kdE g162) q_1086) rfl rfl rfl ?_
        refine go_icmp_eq (pt := 1711) (pc' := 1092) rfl rfl rfl (fun h1089 => ?_) (fun h1089 => ?_)
        · replace h := o_t h1089 h
          obtain ⟨x3_1711, ex3_1711, h⟩ := o_b1E h
          refine go_iincE (pc' := 1714) rfl rfl (y := (nI 6)) rfl ex3_1711 (lo' := [some (.inr (.inr 1999)), some (.inr (.inr n_0)), some (.inr (.inr n_8)), some (.inl x3_1711)]) rfl rfl ?_
          refine go_goto (pc' := 18) rfl rfl ?_
          exact (lp_backE h hk18 :)
        · replace h := o_f h1089 h
          have h := hc18_281 (I_18, J_18, R_18) (lp_exitE h hk18).symm
          replace h : some (nI 0) = some r := h
          refine go_iconst (pc' := 1093) (v := (nI 0)) rfl rfl rfl ?_
          cases h
          exact go_iret rfl (rfl) rfl
      replace h := o_f c33_23 h
      by_cases c33_24 : d_33 = (24 : Int32)
      · replace h := o_t c33_24 h
        refine go_swIn (pc' := 1094) 24 rfl rfl (by rw [c33_24]; decide) (by rw [c33_24]; decide) rfl ?_
        refine go_aload_n (pc' := 1095) rfl rfl rfl ?_
        refine go_aload_n (pc' := 1096) rfl rfl rfl ?_
        refine go_iload_n (pc' := 1097) rfl rfl rfl ?_
        refine go_iconst (pc' := 1098) (v := (nI 1)) rfl rfl rfl ?_
        refine go_iadd (pc' := 1099) rfl rfl ?_
        obtain ⟨g163, h⟩ := o_gE h
        refine go_iaload (pc' := 1100) rfl (Or.inr rfl) (o_ilE g163) rfl ?_
        refine go_aload_n (pc' := 1101) rfl rfl rfl ?_
        refine go_iload_n (pc' := 1102) rfl rfl rfl ?_
        refine go_iconst (pc' := 1103) (v := (nI 2)) rfl rfl rfl ?_
        refine go_iadd (pc' := 1104) rfl rfl ?_
        obtain ⟨g164, h⟩ := o_gE h
        refine go_iaload (pc' := 1105) rfl (Or.inr rfl) (o_ilE g164) rfl ?_
        obtain ⟨g165, h⟩ := o_gE h
        obtain ⟨r_1105, q_1105, h⟩ := o_b1E h
        refine go_callV (pc' := 1108) (B' := (599907, 7285527)) (st' := [.inl r_1105]) rfl rfl (Or.inl (by decide)) rfl rfl (o_kdE g165) (md_163 (by omega) (o_kdE g165) q_1105) rfl rfl rfl ?_
        refine go_aload_n (pc' := 1109) rfl rfl rfl ?_
        refine go_aload_n (pc' := 1110) rfl rfl rfl ?_
        refine go_iload_n (pc' := 1111) rfl rfl rfl ?_
        refine go_iconst (pc' := 1112) (v := (nI 1)) rfl rfl rfl ?_
        refine go_iadd (pc' := 1113) rfl rfl ?_
        obtain ⟨g166, h⟩ := o_gE h
        refine go_iaload (pc' := 1114) rfl (Or.inr rfl) (o_ilE g166) rfl ?_
        refine go_aload_n (pc' := 1115) rfl rfl rfl ?_
        refine go_iload_n (pc' := 1116) rfl rfl rfl ?_
        refine go_iconst (pc' := 1117) (v := (nI 2)) rfl rfl rfl ?_
        refine go_iadd (pc' := 1118) rfl rfl ?_
        obtain ⟨g167, h⟩ := o_gE h
        refine go_iaload (pc' := 1119) rfl (Or.inr rfl) (o_ilE g167) rfl ?_
        obtain ⟨g168, h⟩ := o_gE h
        obtain ⟨r_1119, q_1119, h⟩ := o_b1E h
        refine go_callV (pc' := 1122) (B' := (599907, 7285527)) (st' := [.inl r_1119, .inl r_1105]) rfl rfl (Or.inl (by decide)) rfl rfl (o_kdE g168) (md_298 (by omega) (o_kdE g168) q_1119) rfl rfl rfl ?_
        refine go_icmp_eq (pt := 1711) (pc' := 1125) rfl rfl rfl (fun h1122 => ?_) (fun h1122 => ?_)
        · replace h := o_t h1122 h
          obtain ⟨x3_1711, ex3_1711, h⟩ := o_b1E h
          refine go_iincE (pc' := 1714) rfl rfl (y := (nI 6)) rfl ex3_1711 (lo' := [some (.inr (.inr 1999)), some (.inr (.inr n_0)), some (.inr (.inr n_8)), some (.inl x3_1711)]) rfl rfl ?_
          refine go_goto (pc' := 18) rfl rfl ?_
          exact (lp_backE h hk18 :)
        · replace h := o_f h1122 h
          have h := hc18_281 (I_18, J_18, R_18) (lp_exitE h hk18).symm
          replace h : some (nI 0) = some r := h
          refine go_iconst (pc' := 1126) (v := (nI 0)) rfl rfl rfl ?_
          cases h
          exact go_iret rfl (rfl) rfl
      replace h := o_f c33_24 h
      by_cases c33_25 : d_33 = (25 : Int32)
      · replace h := o_t c33_25 h
        refine go_swIn (pc' := 1127) 25 rfl rfl (by rw [c33_25]; decide) (by rw [c33_25]; decide) rfl ?_
        refine go_aload_n (pc' := 1128) rfl rfl rfl ?_
        refine go_aload_n (pc' := 1129) rfl rfl rfl ?_
        refine go_iload_n (pc' := 1130) rfl rfl rfl ?_
        refine go_iconst (pc' := 1131) (v := (nI 1)) rfl rfl rfl ?_
        refine go_iadd (pc' := 1132) rfl rfl ?_
        obtain ⟨g169, h⟩ := o_gE h
        refine go_iaload (pc' := 1133) rfl (Or.inr rfl) (o_ilE g169) rfl ?_
        refine go_aload_n (pc' := 1134) rfl rfl rfl ?_
        refine go_iload_n (pc' := 1135) rfl rfl rfl ?_
        refine go_iconst (pc' := 1136) (v := (nI 2)) rfl rfl rfl ?_
        refine go_iadd (pc' := 1137) rfl rfl ?_
        obtain ⟨g170, h⟩ := o_gE h
        refine go_iaload (pc' := 1138) rfl (Or.inr rfl) (o_ilE g170) rfl ?_
        refine go_aload_n (pc' := 1139) rfl rfl rfl ?_
        refine go_iload_n (pc' := 1140) rfl rfl rfl ?_
        refine go_iconst (pc' := 1141) (v := (nI 3)) rfl rfl rfl ?_
        refine go_iadd (pc' := 1142) rfl rfl ?_
        obtain ⟨g171, h⟩ := o_gE h
        refine go_iaload (pc' := 1143) rfl (Or.inr rfl) (o_ilE g171) rfl ?_
        obtain ⟨g172, h⟩ := o_gE h
        obtain ⟨r_1143, I_1143, q_1143, h⟩ := o_b2E h
        refine go_callV (pc' := 1146) (B' := (599907, 7285527)) (st' := [.inl r_1143]) rfl rfl (Or.inl (by decide)) rfl rfl (o_kdE g172) (md_164 (by omega) (o_kdE g172) q_1143) rfl rfl rfl ?_
        refine go_aload_n (pc' := 1147) rfl rfl rfl ?_
        refine go_aload_n (pc' := 1148) rfl rfl rfl ?_
        refine go_iload_n (pc' := 1149) rfl rfl rfl ?_
        refine go_iconst (pc' := 1150) (v := (nI 1)) rfl rfl rfl ?_
        refine go_iadd (pc' := 1151) rfl rfl ?_
        obtain ⟨g173, h⟩ := o_gE h
        refine go_iaload (pc' := 1152) rfl (Or.inr rfl) (o_ilE g173) rfl ?_
        refine go_aload_n (pc' := 1153) rfl rfl rfl ?_
        refine go_iload_n (pc' := 1154) rfl rfl rfl ?_
        refine go_iconst (pc' := 1155) (v := (nI 2)) rfl rfl rfl ?_
        refine go_iadd (pc' := 1156) rfl rfl ?_
        obtain ⟨g174, h⟩ := o_gE h
        refine go_iaload (pc' := 1157) rfl (Or.inr rfl) (o_ilE g174) rfl ?_
        refine go_aload_n (pc' := 1158) rfl rfl rfl ?_
        refine go_iload_n (pc' := 1159) rfl rfl rfl ?_
        refine go_iconst (pc' := 1160) (v := (nI 3)) rfl rfl rfl ?_
        refine go_iadd (pc' := 1161) rfl rfl ?_
        obtain ⟨g175, h⟩ := o_gE h
        refine go_iaload (pc' := 1162) rfl (Or.inr rfl) (o_ilE g175) rfl ?_
        obtain ⟨g176, h⟩ := o_gE h
        obtain ⟨r_1162, q_1162, h⟩ := o_b1E h
        refine go_callV (pc' := 1165) (B' := (599907, 7285527)) (st' := [.inl r_1162, .inl r_1143]) rfl rfl (Or.inl (by decide)) rfl rfl (o_kdE g176) (md_300 (by omega) (o_kdE g176) q_1162) rfl rfl rfl ?_
        refine go_icmp_eq (pt := 1711) (pc' := 1168) rfl rfl rfl (fun h1165 => ?_) (fun h1165 => ?_)
        · replace h := o_t h1165 h
          obtain ⟨x3_1711, ex3_1711, h⟩ := o_b1E h
          refine go_iincE (pc' := 1714) rfl rfl (y := (nI 6)) rfl ex3_1711 (lo' := [some (.inr (.inr 1999)), some (.inr (.inr n_0)), some (.inr (.inr n_8)), some (.inl x3_1711)]) rfl rfl ?_
          refine go_goto (pc' := 18) rfl rfl ?_
          exact (lp_backE h hk18 :)
        · replace h := o_f h1165 h
          have h := hc18_281 (I_1143, J_18, R_18) (lp_exitE h hk18).symm
          replace h : some (nI 0) = some r := h
          refine go_iconst (pc' := 1169) (v := (nI 0)) rfl rfl rfl ?_
          cases h
          exact go_iret rfl (rfl) rfl
      replace h := o_f c33_25 h
      by_cases c33_26 : d_33 = (26 : Int32)
      · replace h := o_t c33_26 h
        refine go_swIn (pc' := 1170) 26 rfl rfl (by rw [c33_26]; decide) (by rw [c33_26]; decide) rfl ?_
        refine go_aload_n (pc' := 1171) rfl rfl rfl ?_
        refine go_aload_n (pc' := 1172) rfl rfl rfl ?_
        refine go_iload_n (pc' := 1173) rfl rfl rfl ?_
        refine go_iconst (pc' := 1174) (v := (nI 1)) rfl rfl rfl ?_
        refine go_iadd (pc' := 1175) rfl rfl ?_
        obtain ⟨g177, h⟩ := o_gE h
        refine go_iaload (pc' := 1176) rfl (Or.inr rfl) (o_ilE g177) rfl ?_
        refine go_aload_n (pc' := 1177) rfl rfl rfl ?_
        refine go_iload_n (pc' := 1178) rfl rfl rfl ?_
        refine go_iconst (pc' := 1179) (v := (nI 2)) rfl rfl rfl ?_
        refine go_iadd (pc' := 1180) rfl rfl ?_
        obtain ⟨g178, h⟩ := o_gE h
        refine go_iaload (pc' := 1181) rfl (Or.inr rfl) (o_ilE g178) rfl ?_
        obtain ⟨g179, h⟩ := o_gE h
        obtain ⟨r_1181, I_1181, q_1181, h⟩ := o_b2E h
        refine go_callV (pc' := 1184) (B' := (599907, 7285527)) (st' := [.inl r_1181]) rfl rfl (Or.inl (by decide)) rfl rfl (o_kdE g179) (md_165 (by omega) (o_kdE g179) q_1181) rfl rfl rfl ?_
        refine go_aload_n (pc' := 1185) rfl rfl rfl ?_
        refine go_aload_n (pc' := 1186) rfl rfl rfl ?_
        refine go_iload_n (pc' := 1187) rfl rfl rfl ?_
        refine go_iconst (pc' := 1188) (v := (nI 1)) rfl rfl rfl ?_
        refine go_iadd (pc' := 1189) rfl rfl ?_
        obtain ⟨g180, h⟩ := o_gE h
        refine go_iaload (pc' := 1190) rfl (Or.inr rfl) (o_ilE g180) rfl ?_
        refine go_aload_n (pc' := 1191) rfl rfl rfl ?_
        refine go_iload_n (pc' := 1192) rfl rfl rfl ?_
        refine go_iconst (pc' := 1193) (v := (nI 2)) rfl rfl rfl ?_
        refine go_iadd (pc' := 1194) rfl rfl ?_
        obtain ⟨g181, h⟩ := o_gE h
        refine go_iaload (pc' := 1195) rfl (Or.inr rfl) (o_ilE g181) rfl ?_
        obtain ⟨g182, h⟩ := o_gE h
        obtain ⟨r_1195, q_1195, h⟩ := o_b1E h
        refine go_callV (pc' := 1198) (B' := (599907, 7285527)) (st' := [.inl r_1195, .inl r_1181]) rfl rfl (Or.inl (by decide)) rfl rfl (o_kdE g182) (md_301 (by omega) (o_kdE g182) q_1195) rfl rfl rfl ?_
        refine go_icmp_eq (pt := 1711) (pc' := 1201) rfl rfl rfl (fun h1198 => ?_) (fun h1198 => ?_)
        · replace h := o_t h1198 h
          obtain ⟨x3_1711, ex3_1711, h⟩ := o_b1E h
          refine go_iincE (pc' := 1714) rfl rfl (y := (nI 6)) rfl ex3_1711 (lo' := [some (.inr (.inr 1999)), some (.inr (.inr n_0)), some (.inr (.inr n_8)), some (.inl x3_1711)]) rfl rfl ?_
          refine go_goto (pc' := 18) rfl rfl ?_
          exact (lp_backE h hk18 :)
        · replace h := o_f h1198 h
          have h := hc18_281 (I_1181, J_18, R_18) (lp_exitE h hk18).symm
          replace h : some (nI 0) = some r := h
          refine go_iconst (pc' := 1202) (v := (nI 0)) rfl rfl rfl ?_
          cases h
          exact go_iret rfl (rfl) rfl
      replace h := o_f c33_26 h
      by_cases c33_27 : d_33 = (27 : Int32)
      · replace h := o_t c33_27 h
        refine go_swIn (pc' := 1203) 27 rfl rfl (by rw [c33_27]; decide) (by rw [c33_27]; decide) rfl ?_
        refine go_aload_n (pc' := 1204) rfl rfl rfl ?_
        refine go_aload_n (pc' := 1205) rfl rfl rfl ?_
        refine go_iload_n (pc' := 1206) rfl rfl rfl ?_
        refine go_iconst (pc' := 1207) (v := (nI 1)) rfl rfl rfl ?_
        refine go_iadd (pc' := 1208) rfl rfl ?_
        obtain ⟨g183, h⟩ := o_gE h
        refine go_iaload (pc' := 1209) rfl (Or.inr rfl) (o_ilE g183) rfl ?_
        refine go_aload_n (pc' := 1210) rfl rfl rfl ?_
        refine go_iload_n (pc' := 1211) rfl rfl rfl ?_
        refine go_iconst (pc' := 1212) (v := (nI 2)) rfl rfl rfl ?_
        refine go_iadd (pc' := 1213) rfl rfl ?_
        obtain ⟨g184, h⟩ := o_gE h
        refine go_iaload (pc' := 1214) rfl (Or.inr rfl) (o_ilE g184) rfl ?_
        refine go_aload_n (pc' := 1215) rfl rfl rfl ?_
        refine go_iload_n (pc' := 1216) rfl rfl rfl ?_
        refine go_iconst (pc' := 1217) (v := (nI 3)) rfl rfl rfl ?_
        refine go_iadd (pc' := 1218) rfl rfl ?_
        obtain ⟨g185, h⟩ := o_gE h
        refine go_iaload (pc' := 1219) rfl (Or.inr rfl) (o_ilE g185) rfl ?_
        refine go_aload_n (pc' := 1220) rfl rfl rfl ?_
        refine go_iload_n (pc' := 1221) rfl rfl rfl ?_
        refine go_iconst (pc' := 1222) (v := (nI 4)) rfl rfl rfl ?_
        refine go_iadd (pc' := 1223) rfl rfl ?_
        obtain ⟨g186, h⟩ := o_gE h
        refine go_iaload (pc' := 1224) rfl (Or.inr rfl) (o_ilE g186) rfl ?_
        obtain ⟨g187, h⟩ := o_gE h
        obtain ⟨r_1224, I_1224, q_1224, h⟩ := o_b2E h
        refine go_callV (pc' := 1227) (B' := (599907, 7285527)) (st' := [.inl r_1224]) rfl rfl (Or.inl (by decide)) rfl rfl (o_kdE g187) (md_166 (by omega) (o_kdE g187) q_1224) rfl rfl rfl ?_
        refine go_aload_n (pc' := 1228) rfl rfl rfl ?_
        refine go_aload_n (pc' := 1229) rfl rfl rfl ?_
        refine go_iload_n (pc' := 1230) rfl rfl rfl ?_
        refine go_iconst (pc' := 1231) (v := (nI 1)) rfl rfl rfl ?_
        refine go_iadd (pc' := 1232) rfl rfl ?_
        obtain ⟨g188, h⟩ := o_gE h
        refine go_iaload (pc' := 1233) rfl (Or.inr rfl) (o_ilE g188) rfl ?_
        refine go_aload_n (pc' := 1234) rfl rfl rfl ?_
        refine go_iload_n (pc' := 1235) rfl rfl rfl ?_
        refine go_iconst (pc' := 1236) (v := (nI 2)) rfl rfl rfl ?_
        refine go_iadd (pc' := 1237) rfl rfl ?_
        obtain ⟨g189, h⟩ := o_gE h
        refine go_iaload (pc' := 1238) rfl (Or.inr rfl) (o_ilE g189) rfl ?_
        refine go_aload_n (pc' := 1239) rfl rfl rfl ?_
        refine go_iload_n (pc' := 1240) rfl rfl rfl ?_
        refine go_iconst (pc' := 1241) (v := (nI 3)) rfl rfl rfl ?_
        refine go_iadd (pc' := 1242) rfl rfl ?_
        obtain ⟨g190, h⟩ := o_gE h
        refine go_iaload (pc' := 1243) rfl (Or.inr rfl) (o_ilE g190) rfl ?_
        refine go_aload_n (pc' := 1244) rfl rfl rfl ?_
        refine go_iload_n (pc' := 1245) rfl rfl rfl ?_
        refine go_iconst (pc' := 1246) (v := (nI 4)) rfl rfl rfl ?_
        refine go_iadd (pc' := 1247) rfl rfl ?_
        obtain ⟨g191, h⟩ := o_gE h
        refine go_iaload (pc' := 1248) rfl (Or.inr rfl) (o_ilE g191) rfl ?_
        obtain ⟨g192, h⟩ := o_gE h
        obtain ⟨r_1248, I_1248, q_1248, h⟩ := o_b2E h
        refine go_callV (pc' := 1251) (B' := (599907, 7285527)) (st' := [.inl r_1248, .inl r_1224]) rfl rfl (Or.inl (by decide)) rfl rfl (o_kdE g192) (md_304 (by omega) (o_kdE g192) q_1248) rfl rfl rfl ?_
        refine go_icmp_eq (pt := 1711) (pc' := 1254) rfl rfl rfl (fun h1251 => ?_) (fun h1251 => ?_)
        · replace h := o_t h1251 h
          obtain ⟨x3_1711, ex3_1711, h⟩ := o_b1E h
          refine go_iincE (pc' := 1714) rfl rfl (y := (nI 6)) rfl ex3_1711 (lo' := [some (.inr (.inr 1999)), some (.inr (.inr n_0)), some (.inr (.inr n_8)), some (.inl x3_1711)]) rfl rfl ?_
          refine go_goto (pc' := 18) rfl rfl ?_
          exact (lp_backE h hk18 :)
        · replace h := o_f h1251 h
          have h := hc18_281 (I_1248, J_18, R_18) (lp_exitE h hk18).symm
          replace h : some (nI 0) = some r := h
          refine go_iconst (pc' := 1255) (v := (nI 0)) rfl rfl rfl ?_
          cases h
          exact go_iret rfl (rfl) rfl
      replace h := o_f c33_27 h
      by_cases c33_28 : d_33 = (28 : Int32)
      · replace h := o_t c33_28 h
        refine go_swIn (pc' := 1256) 28 rfl rfl (by rw [c33_28]; decide) (by rw [c33_28]; decide) rfl ?_
        refine go_aload_n (pc' := 1257) rfl rfl rfl ?_
        refine go_aload_n (pc' := 1258) rfl rfl rfl ?_
        refine go_iload_n (pc' := 1259) rfl rfl rfl ?_
        refine go_iconst (pc' := 1260) (v := (nI 1)) rfl rfl rfl ?_
        refine go_iadd (pc' := 1261) rfl rfl ?_
        obtain ⟨g193, h⟩ := o_gE h
        refine go_iaload (pc' := 1262) rfl (Or.inr rfl) (o_ilE g193) rfl ?_
        refine go_aload_n (pc' := 1263) rfl rfl rfl ?_
        refine go_iload_n (pc' := 1264) rfl rfl rfl ?_
        refine go_iconst (pc' := 1265) (v := (nI 2)) rfl rfl rfl ?_
        refine go_iadd (pc' := 1266) rfl rfl ?_
        obtain ⟨g194, h⟩ := o_gE h
        refine go_iaload (pc' := 1267) rfl (Or.inr rfl) (o_ilE g194) rfl ?_
        obtain ⟨g195, h⟩ := o_gE h
        obtain ⟨r_1267, I_1267, q_1267, h⟩ := o_b2E h
        refine go_callV (pc' := 1270) (B' := (599907, 7285527)) (st' := [.inl r_1267]) rfl rfl (Or.inl (by decide)) rfl rfl (o_kdE g195) (md_167 (by omega) (o_kdE g195) q_1267) rfl rfl rfl ?_
        refine go_aload_n (pc' := 1271) rfl rfl rfl ?_
        refine go_aload_n (pc' := 1272) rfl rfl rfl ?_
        refine go_iload_n (pc' := 1273) rfl rfl rfl ?_
        refine go_iconst (pc' := 1274) (v := (nI 1)) rfl rfl rfl ?_
        refine go_iadd (pc' := 1275) rfl rfl ?_
        obtain ⟨g196, h⟩ := o_gE h
        refine go_iaload (pc' := 1276) rfl (Or.inr rfl) (o_ilE g196) rfl ?_
        refine go_aload_n (pc' := 1277) rfl rfl rfl ?_
        refine go_iload_n (pc' := 1278) rfl rfl rfl ?_
        refine go_iconst (pc' := 1279) (v := (nI 2)) rfl rfl rfl ?_
        refine go_iadd (pc' := 1280) rfl rfl ?_
        obtain ⟨g197, h⟩ := o_gE h
        refine go_iaload (pc' := 1281) rfl (Or.inr rfl) (o_ilE g197) rfl ?_
        obtain ⟨g198, h⟩ := o_gE h
        obtain ⟨r_1281, I_1281, q_1281, h⟩ := o_b2E h
        refine go_callV (pc' := 1284) (B' := (599907, 7285527)) (st' := [.inl r_1281, .inl r_1267]) rfl rfl (Or.inl (by decide)) rfl rfl (o_kdE g198) (md_310 (by omega) (o_kdE g198) q_1281) rfl rfl rfl ?_
        refine go_icmp_eq (pt := 1711) (pc' := 1287) rfl rfl rfl (fun h1284 => ?_) (fun h1284 => ?_)
        · replace h := o_t h1284 h
          obtain ⟨x3_1711, ex3_1711, h⟩ := o_b1E h
          refine go_iincE (pc' := 1714) rfl rfl (y := (nI 6)) rfl ex3_1711 (lo' := [some (.inr (.inr 1999)), some (.inr (.inr n_0)), some (.inr (.inr n_8)), some (.inl x3_1711)]) rfl rfl ?_
          refine go_goto (pc' := 18) rfl rfl ?_
          exact (lp_backE h hk18 :)
        · replace h := o_f h1284 h
          have h := hc18_281 (I_1281, J_18, R_18) (lp_exitE h hk18).symm
          replace h : some (nI 0) = some r := h
          refine go_iconst (pc' := 1288) (v := (nI 0)) rfl rfl rfl ?_
          cases h
          exact go_iret rfl (rfl) rfl
      replace h := o_f c33_28 h
      by_cases c33_29 : d_33 = (29 : Int32)
      · replace h := o_t c33_29 h
        refine go_swIn (pc' := 1289) 29 rfl rfl (by rw [c33_29]; decide) (by rw [c33_29]; decide) rfl ?_
        refine go_aload_n (pc' := 1290) rfl rfl rfl ?_
        refine go_aload_n (pc' := 1291) rfl rfl rfl ?_
        refine go_iload_n (pc' := 1292) rfl rfl rfl ?_
        refine go_iconst (pc' := 1293) (v := (nI 1)) rfl rfl rfl ?_
        refine go_iadd (pc' := 1294) rfl rfl ?_
        obtain ⟨g199, h⟩ := o_gE h
        refine go_iaload (pc' := 1295) rfl (Or.inr rfl) (o_ilE g199) rfl ?_
        refine go_aload_n (pc' := 1296) rfl rfl rfl ?_
        refine go_iload_n (pc' := 1297) rfl rfl rfl ?_
        refine go_iconst (pc' := 1298) (v := (nI 2)) rfl rfl rfl ?_
        refine go_iadd (pc' := 1299) rfl rfl ?_
        obtain ⟨g200, h⟩ := o_gE h
        refine go_iaload (pc' := 1300) rfl (Or.inr rfl) (o_ilE g200) rfl ?_
        refine go_aload_n (pc' := 1301) rfl rfl rfl ?_
        refine go_iload_n (pc' := 1302) rfl rfl rfl ?_
        refine go_iconst (pc' := 1303) (v := (nI 3)) rfl rfl rfl ?_
        refine go_iadd (pc' := 1304) rfl rfl ?_
        obtain ⟨g201, h⟩ := o_gE h
        refine go_iaload (pc' := 1305) rfl (Or.inr rfl) (o_ilE g201) rfl ?_
        obtain ⟨g202, h⟩ := o_gE h
        obtain ⟨r_1305, I_1305, J_1305, q_1305, h⟩ := o_b3E h
        refine go_callV (pc' := 1308) (B' := (599907, 7285527)) (st' := [.inl r_1305]) rfl rfl (Or.inl (by decide)) rfl rfl (o_kdE g202) (md_168 (by omega) (o_kdE g202) q_1305) rfl rfl rfl ?_
        refine go_aload_n (pc' := 1309) rfl rfl rfl ?_
        refine go_aload_n (pc' := 1310) rfl rfl rfl ?_
        refine go_iload_n (pc' := 1311) rfl rfl rfl ?_
        refine go_iconst (pc' := 1312) (v := (nI 1)) rfl rfl rfl ?_
        refine go_iadd (pc' := 1313) rfl rfl ?_
        obtain ⟨g203, h⟩ := o_gE h
        refine go_iaload (pc' := 1314) rfl (Or.inr rfl) (o_ilE g203) rfl ?_
        refine go_aload_n (pc' := 1315) rfl rfl rfl ?_
        refine go_iload_n (pc' := 1316) rfl rfl rfl ?_
        refine go_iconst (pc' := 1317) (v := (nI 2)) rfl rfl rfl ?_
        refine go_iadd (pc' := 1318) rfl rfl ?_
        obtain ⟨g204, h⟩ := o_gE h
        refine go_iaload (pc' := 1319) rfl (Or.inr rfl) (o_ilE g204) rfl ?_
        refine go_aload_n (pc' := 1320) rfl rfl rfl ?_
        refine go_iload_n (pc' := 1321) rfl rfl rfl ?_
        refine go_iconst (pc' := 1322) (v := (nI 3)) rfl rfl rfl ?_
        refine go_iadd (pc' := 1323) rfl rfl ?_
        obtain ⟨g205, h⟩ := o_gE h
        refine go_iaload (pc' := 1324) rfl (Or.inr rfl) (o_ilE g205) rfl ?_
        obtain ⟨g206, h⟩ := o_gE h
        obtain ⟨r_1324, I_1324, q_1324, h⟩ := o_b2E h
        refine go_callV (pc' := 1327) (B' := (599907, 7285527)) (st' := [.inl r_1324, .inl r_1305]) rfl rfl (Or.inl (by decide)) rfl rfl (o_kdE g206) (md_315 (by omega) (o_kdE g206) q_1324) rfl rfl rfl ?_
        refine go_icmp_eq (pt := 1711) (pc' := 1330) rfl rfl rfl (fun h1327 => ?_) (fun h1327 => ?_)
        · replace h := o_t h1327 h
          obtain ⟨x3_1711, ex3_1711, h⟩ := o_b1E h
          refine go_iincE (pc' := 1714) rfl rfl (y := (nI 6)) rfl ex3_1711 (lo' := [some (.inr (.inr 1999)), some (.inr (.inr n_0)), some (.inr (.inr n_8)), some (.inl x3_1711)]) rfl rfl ?_
          refine go_goto (pc' := 18) rfl rfl ?_
          exact (lp_backE h hk18 :)
        · replace h := o_f h1327 h
          have h := hc18_281 (I_1324, J_1305, R_18) (lp_exitE h hk18).symm
          replace h : some (nI 0) = some r := h
          refine go_iconst (pc' := 1331) (v := (nI 0)) rfl rfl rfl ?_
          cases h
          exact go_iret rfl (rfl) rfl
      replace h := o_f c33_29 h
      by_cases c33_30 : d_33 = (30 : Int32)
      · replace h := o_t c33_30 h
        refine go_swIn (pc' := 1332) 30 rfl rfl (by rw [c33_30]; decide) (by rw [c33_30]; decide) rfl ?_
        refine go_aload_n (pc' := 1333) rfl rfl rfl ?_
        refine go_aload_n (pc' := 1334) rfl rfl rfl ?_
        refine go_iload_n (pc' := 1335) rfl rfl rfl ?_
        refine go_iconst (pc' := 1336) (v := (nI 1)) rfl rfl rfl ?_
        refine go_iadd (pc' := 1337) rfl rfl ?_
        obtain ⟨g207, h⟩ := o_gE h
        refine go_iaload (pc' := 1338) rfl (Or.inr rfl) (o_ilE g207) rfl ?_
        obtain ⟨g208, h⟩ := o_gE h
        obtain ⟨r_1338, q_1338, h⟩ := o_b1E h
        refine go_callV (pc' := 1341) (B' := (599907, 7285527)) (st' := [.inl r_1338]) rfl rfl (Or.inl (by decide)) rfl rfl (o_kdE g208) (md_169 (by omega) (o_kdE g208) q_1338) rfl rfl rfl ?_
        refine go_aload_n (pc' := 1342) rfl rfl rfl ?_
        refine go_aload_n (pc' := 1343) rfl rfl rfl ?_
        refine go_iload_n (pc' := 1344) rfl rfl rfl ?_
        refine go_iconst (pc' := 1345) (v := (nI 1)) rfl rfl rfl ?_
        refine go_iadd (pc' := 1346) rfl rfl ?_
        obtain ⟨g209, h⟩ := o_gE h
        refine go_iaload (pc' := 1347) rfl (Or.inr rfl) (o_ilE g209) rfl ?_
        obtain ⟨g210, h⟩ := o_gE h
        obtain ⟨r_1347, q_1347, h⟩ := o_b1E h
        refine go_callV (pc' := 1350) (B' := (599907, 7285527)) (st' := [.inl r_1347, .inl r_1338]) rfl rfl (Or.inl (by decide)) rfl rfl (o_kdE g210) (md_318 (by omega) (o_kdE g210) q_1347) rfl rfl rfl ?_
        refine go_icmp_eq (pt := 1711) (pc' := 1353) rfl rfl rfl (fun h1350 => ?_) (fun h1350 => ?_)
        · replace h := o_t h1350 h
          obtain ⟨x3_1711, ex3_1711, h⟩ := o_b1E h
          refine go_iincE (pc' := 1714) rfl rfl (y := (nI 6)) rfl ex3_1711 (lo' := [some (.inr (.inr 1999)), some (.inr (.inr n_0)), some (.inr (.inr n_8)), some (.inl x3_1711)]) rfl rfl ?_
          refine go_goto (pc' := 18) rfl rfl ?_
          exact (lp_backE h hk18 :)
        · replace h := o_f h1350 h
          have h := hc18_281 (I_18, J_18, R_18) (lp_exitE h hk18).symm
          replace h : some (nI 0) = some r := h
          refine go_iconst (pc' := 1354) (v := (nI 0)) rfl rfl rfl ?_
          cases h
          exact go_iret rfl (rfl) rfl
      replace h := o_f c33_30 h
      by_cases c33_31 : d_33 = (31 : Int32)
      · replace h := o_t c33_31 h
        refine go_swIn (pc' := 1355) 31 rfl rfl (by rw [c33_31]; decide) (by rw [c33_31]; decide) rfl ?_
        refine go_aload_n (pc' := 1356) rfl rfl rfl ?_
        refine go_aload_n (pc' := 1357) rfl rfl rfl ?_
        refine go_iload_n (pc' := 1358) rfl rfl rfl ?_
        refine go_iconst (pc' := 1359) (v := (nI 1)) rfl rfl rfl ?_
        refine go_iadd (pc' := 1360) rfl rfl ?_
        obtain ⟨g211, h⟩ := o_gE h
        refine go_iaload (pc' := 1361) rfl (Or.inr rfl) (o_ilE g211) rfl ?_
        refine go_aload_n (pc' := 1362) rfl rfl rfl ?_
        refine go_iload_n (pc' := 1363) rfl rfl rfl ?_
        refine go_iconst (pc' := 1364) (v := (nI 2)) rfl rfl rfl ?_
        refine go_iadd (pc' := 1365) rfl rfl ?_
        obtain ⟨g212, h⟩ := o_gE h
        refine go_iaload (pc' := 1366) rfl (Or.inr rfl) (o_ilE g212) rfl ?_
        refine go_aload_n (pc' := 1367) rfl rfl rfl ?_
        refine go_iload_n (pc' := 1368) rfl rfl rfl ?_
        refine go_iconst (pc' := 1369) (v := (nI 3)) rfl rfl rfl ?_
        refine go_iadd (pc' := 1370) rfl rfl ?_
        obtain ⟨g213, h⟩ := o_gE h
        refine go_iaload (pc' := 1371) rfl (Or.inr rfl) (o_ilE g213) rfl ?_
        refine go_aload_n (pc' := 1372) rfl rfl rfl ?_
        refine go_iload_n (pc' := 1373) rfl rfl rfl ?_
        refine go_iconst (pc' := 1374) (v := (nI 4)) rfl rfl rfl ?_
        refine go_iadd (pc' := 1375) rfl rfl ?_
        obtain ⟨g214, h⟩ := o_gE h
        refine go_iaload (pc' := 1376) rfl (Or.inr rfl) (o_ilE g214) rfl ?_
        obtain ⟨g215, h⟩ := o_gE h
        obtain ⟨r_1376, I_1376, q_1376, h⟩ := o_b2E h
        refine go_callV (pc' := 1379) (B' := (599907, 7285527)) (st' := [.inl r_1376]) rfl rfl (Or.inl (by decide)) rfl rfl (o_kdE g215) (md_170 (by omega) (o_kdE g215) q_1376) rfl rfl rfl ?_
        refine go_aload_n (pc' := 1380) rfl rfl rfl ?_
        refine go_aload_n (pc' := 1381) rfl rfl rfl ?_
        refine go_iload_n (pc' := 1382) rfl rfl rfl ?_
        refine go_iconst (pc' := 1383) (v := (nI 1)) rfl rfl rfl ?_
        refine go_iadd (pc' := 1384) rfl rfl ?_
        obtain ⟨g216, h⟩ := o_gE h
        refine go_iaload (pc' := 1385) rfl (Or.inr rfl) (o_ilE g216) rfl ?_
        refine go_aload_n (pc' := 1386) rfl rfl rfl ?_
        refine go_iload_n (pc' := 1387) rfl rfl rfl ?_
        refine go_iconst (pc' := 1388) (v := (nI 2)) rfl rfl rfl ?_
        refine go_iadd (pc' := 1389) rfl rfl ?_
        obtain ⟨g217, h⟩ := o_gE h
        refine go_iaload (pc' := 1390) rfl (Or.inr rfl) (o_ilE g217) rfl ?_
        refine go_aload_n (pc' := 1391) rfl rfl rfl ?_
        refine go_iload_n (pc' := 1392) rfl rfl rfl ?_
        refine go_iconst (pc' := 1393) (v := (nI 3)) rfl rfl rfl ?_
        refine go_iadd (pc' := 1394) rfl rfl ?_
        obtain ⟨g218, h⟩ := o_gE h
        refine go_iaload (pc' := 1395) rfl (Or.inr rfl) (o_ilE g218) rfl ?_
        refine go_aload_n (pc' := 1396) rfl rfl rfl ?_
        refine go_iload_n (pc' := 1397) rfl rfl rfl ?_
        refine go_iconst (pc' := 1398) (v := (nI 4)) rfl rfl rfl ?_
        refine go_iadd (pc' := 1399) rfl rfl ?_
        obtain ⟨g219, h⟩ := o_gE h
        refine go_iaload (pc' := 1400) rfl (Or.inr rfl) (o_ilE g219) rfl ?_
        obtain ⟨g220, h⟩ := o_gE h
        obtain ⟨r_1400, q_1400, h⟩ := o_b1E h
        refine go_callV (pc' := 1403) (B' := (599907, 7285527)) (st' := [.inl r_1400, .inl r_1376]) rfl rfl (Or.inl (by decide)) rfl rfl (o_kdE g220) (md_319 (by omega) (o_kdE g220) q_1400) rfl rfl rfl ?_
        refine go_icmp_eq (pt := 1711) (pc' := 1406) rfl rfl rfl (fun h1403 => ?_) (fun h1403 => ?_)
        · replace h := o_t h1403 h
          obtain ⟨x3_1711, ex3_1711, h⟩ := o_b1E h
          refine go_iincE (pc' := 1714) rfl rfl (y := (nI 6)) rfl ex3_1711 (lo' := [some (.inr (.inr 1999)), some (.inr (.inr n_0)), some (.inr (.inr n_8)), some (.inl x3_1711)]) rfl rfl ?_
          refine go_goto (pc' := 18) rfl rfl ?_
          exact (lp_backE h hk18 :)
        · replace h := o_f h1403 h
          have h := hc18_281 (I_1376, J_18, R_18) (lp_exitE h hk18).symm
          replace h : some (nI 0) = some r := h
          refine go_iconst (pc' := 1407) (v := (nI 0)) rfl rfl rfl ?_
          cases h
          exact go_iret rfl (rfl) rfl
      replace h := o_f c33_31 h
      by_cases c33_32 : d_33 = (32 : Int32)
      · replace h := o_t c33_32 h
        refine go_swIn (pc' := 1408) 32 rfl rfl (by rw [c33_32]; decide) (by rw [c33_32]; decide) rfl ?_
        refine go_aload_n (pc' := 1409) rfl rfl rfl ?_
        refine go_aload_n (pc' := 1410) rfl rfl rfl ?_
        refine go_iload_n (pc' := 1411) rfl rfl rfl ?_
        refine go_iconst (pc' := 1412) (v := (nI 1)) rfl rfl rfl ?_
        refine go_iadd (pc' := 1413) rfl rfl ?_
        obtain ⟨g221, h⟩ := o_gE h
        refine go_iaload (pc' := 1414) rfl (Or.inr rfl) (o_ilE g221) rfl ?_
        refine go_aload_n (pc' := 1415) rfl rfl rfl ?_
        refine go_iload_n (pc' := 1416) rfl rfl rfl ?_
        refine go_iconst (pc' := 1417) (v := (nI 2)) rfl rfl rfl ?_
        refine go_iadd (pc' := 1418) rfl rfl ?_
        obtain ⟨g222, h⟩ := o_gE h
        refine go_iaload (pc' := 1419) rfl (Or.inr rfl) (o_ilE g222) rfl ?_
        obtain ⟨g223, h⟩ := o_gE h
        obtain ⟨r_1419, I_1419, q_1419, h⟩ := o_b2E h
        refine go_callV (pc' := 1422) (B' := (599907, 7285527)) (st' := [.inl r_1419]) rfl rfl (Or.inl (by decide)) rfl rfl (o_kdE g223) (md_171 (by omega) (o_kdE g223) q_1419) rfl rfl rfl ?_
        refine go_aload_n (pc' := 1423) rfl rfl rfl ?_
        refine go_aload_n (pc' := 1424) rfl rfl rfl ?_
        refine go_iload_n (pc' := 1425) rfl rfl rfl ?_
        refine go_iconst (pc' := 1426) (v := (nI 1)) rfl rfl rfl ?_
        refine go_iadd (pc' := 1427) rfl rfl ?_
        obtain ⟨g224, h⟩ := o_gE h
        refine go_iaload (pc' := 1428) rfl (Or.inr rfl) (o_ilE g224) rfl ?_
        refine go_aload_n (pc' := 1429) rfl rfl rfl ?_
        refine go_iload_n (pc' := 1430) rfl rfl rfl ?_
        refine go_iconst (pc' := 1431) (v := (nI 2)) rfl rfl rfl ?_
        refine go_iadd (pc' := 1432) rfl rfl ?_
        obtain ⟨g225, h⟩ := o_gE h
        refine go_iaload (pc' := 1433) rfl (Or.inr rfl) (o_ilE g225) rfl ?_
        obtain ⟨g226, h⟩ := o_gE h
        obtain ⟨r_1433, I_1433, q_1433, h⟩ := o_b2E h
        refine go_callV (pc' := 1436) (B' := (599907, 7285527)) (st' := [.inl r_1433, .inl r_1419]) rfl rfl (Or.inl (by decide)) rfl rfl (o_kdE g226) (md_320 (by omega) (o_kdE g226) q_1433) rfl rfl rfl ?_
        refine go_icmp_eq (pt := 1711) (pc' := 1439) rfl rfl rfl (fun h1436 => ?_) (fun h1436 => ?_)
        · replace h := o_t h1436 h
          obtain ⟨x3_1711, ex3_1711, h⟩ := o_b1E h
          refine go_iincE (pc' := 1714) rfl rfl (y := (nI 6)) rfl ex3_1711 (lo' := [some (.inr (.inr 1999)), some (.inr (.inr n_0)), some (.inr (.inr n_8)), some (.inl x3_1711)]) rfl rfl ?_
          refine go_goto (pc' := 18) rfl rfl ?_
          exact (lp_backE h hk18 :)
        · replace h := o_f h1436 h
          have h := hc18_281 (I_1433, J_18, R_18) (lp_exitE h hk18).symm
          replace h : some (nI 0) = some r := h
          refine go_iconst (pc' := 1440) (v := (nI 0)) rfl rfl rfl ?_
          cases h
          exact go_iret rfl (rfl) rfl
      replace h := o_f c33_32 h
      by_cases c33_33 : d_33 = (33 : Int32)
      · replace h := o_t c33_33 h
        refine go_swIn (pc' := 1441) 33 rfl rfl (by rw [c33_33]; decide) (by rw [c33_33]; decide) rfl ?_
        refine go_aload_n (pc' := 1442) rfl rfl rfl ?_
        refine go_aload_n (pc' := 1443) rfl rfl rfl ?_
        refine go_iload_n (pc' := 1444) rfl rfl rfl ?_
        refine go_iconst (pc' := 1445) (v := (nI 1)) rfl rfl rfl ?_
        refine go_iadd (pc' := 1446) rfl rfl ?_
        obtain ⟨g227, h⟩ := o_gE h
        refine go_iaload (pc' := 1447) rfl (Or.inr rfl) (o_ilE g227) rfl ?_
        refine go_aload_n (pc' := 1448) rfl rfl rfl ?_
        refine go_iload_n (pc' := 1449) rfl rfl rfl ?_
        refine go_iconst (pc' := 1450) (v := (nI 2)) rfl rfl rfl ?_
        refine go_iadd (pc' := 1451) rfl rfl ?_
        obtain ⟨g228, h⟩ := o_gE h
        refine go_iaload (pc' := 1452) rfl (Or.inr rfl) (o_ilE g228) rfl ?_
        obtain ⟨g229, h⟩ := o_gE h
        obtain ⟨r_1452, q_1452, h⟩ := o_b1E h
        refine go_callV (pc' := 1455) (B' := (599907, 7285527)) (st' := [.inl r_1452]) rfl rfl (Or.inl (by decide)) rfl rfl (o_kdE g229) (md_172 (by omega) (o_kdE g229) q_1452) rfl rfl rfl ?_
        refine go_aload_n (pc' := 1456) rfl rfl rfl ?_
        refine go_aload_n (pc' := 1457) rfl rfl rfl ?_
        refine go_iload_n (pc' := 1458) rfl rfl rfl ?_
        refine go_iconst (pc' := 1459) (v := (nI 1)) rfl rfl rfl ?_
        refine go_iadd (pc' := 1460) rfl rfl ?_
        obtain ⟨g230, h⟩ := o_gE h
        refine go_iaload (pc' := 1461) rfl (Or.inr rfl) (o_ilE g230) rfl ?_
        refine go_aload_n (pc' := 1462) rfl rfl rfl ?_
        refine go_iload_n (pc' := 1463) rfl rfl rfl ?_
        refine go_iconst (pc' := 1464) (v := (nI 2)) rfl rfl rfl ?_
        refine go_iadd (pc' := 1465) rfl rfl ?_
        obtain ⟨g231, h⟩ := o_gE h
        refine go_iaload (pc' := 1466) rfl (Or.inr rfl) (o_ilE g231) rfl ?_
        obtain ⟨g232, h⟩ := o_gE h
        obtain ⟨r_1466, q_1466, h⟩ := o_b1E h
        refine go_callV (pc' := 1469) (B' := (599907, 7285527)) (st' := [.inl r_1466, .inl r_1452]) rfl rfl (Or.inl (by decide)) rfl rfl (o_kdE g232) (md_321 (by omega) (o_kdE g232) q_1466) rfl rfl rfl ?_
        refine go_icmp_eq (pt := 1711) (pc' := 1472) rfl rfl rfl (fun h1469 => ?_) (fun h1469 => ?_)
        · replace h := o_t h1469 h
          obtain ⟨x3_1711, ex3_1711, h⟩ := o_b1E h
          refine go_iincE (pc' := 1714) rfl rfl (y := (nI 6)) rfl ex3_1711 (lo' := [some (.inr (.inr 1999)), some (.inr (.inr n_0)), some (.inr (.inr n_8)), some (.inl x3_1711)]) rfl rfl ?_
          refine go_goto (pc' := 18) rfl rfl ?_
          exact (lp_backE h hk18 :)
        · replace h := o_f h1469 h
          have h := hc18_281 (I_18, J_18, R_18) (lp_exitE h hk18).symm
          replace h : some (nI 0) = some r := h
          refine go_iconst (pc' := 1473) (v := (nI 0)) rfl rfl rfl ?_
          cases h
          exact go_iret rfl (rfl) rfl
      replace h := o_f c33_33 h
      by_cases c33_34 : d_33 = (34 : Int32)
      · replace h := o_t c33_34 h
        refine go_swIn (pc' := 1474) 34 rfl rfl (by rw [c33_34]; decide) (by rw [c33_34]; decide) rfl ?_
        refine go_aload_n (pc' := 1475) rfl rfl rfl ?_
        refine go_aload_n (pc' := 1476) rfl rfl rfl ?_
        refine go_iload_n (pc' := 1477) rfl rfl rfl ?_
        refine go_iconst (pc' := 1478) (v := (nI 1)) rfl rfl rfl ?_
        refine go_iadd (pc' := 1479) rfl rfl ?_
        obtain ⟨g233, h⟩ := o_gE h
        refine go_iaload (pc' := 1480) rfl (Or.inr rfl) (o_ilE g233) rfl ?_
        refine go_aload_n (pc' := 1481) rfl rfl rfl ?_
        refine go_iload_n (pc' := 1482) rfl rfl rfl ?_
        refine go_iconst (pc' := 1483) (v := (nI 2)) rfl rfl rfl ?_
        refine go_iadd (pc' := 1484) rfl rfl ?_
        obtain ⟨g234, h⟩ := o_gE h
        refine go_iaload (pc' := 1485) rfl (Or.inr rfl) (o_ilE g234) rfl ?_
        obtain ⟨g235, h⟩ := o_gE h
        obtain ⟨r_1485, I_1485, q_1485, h⟩ := o_b2E h
        refine go_callV (pc' := 1488) (B' := (599907, 7285527)) (st' := [.inl r_1485]) rfl rfl (Or.inl (by decide)) rfl rfl (o_kdE g235) (md_173 (by omega) (o_kdE g235) q_1485) rfl rfl rfl ?_
        refine go_aload_n (pc' := 1489) rfl rfl rfl ?_
        refine go_aload_n (pc' := 1490) rfl rfl rfl ?_
        refine go_iload_n (pc' := 1491) rfl rfl rfl ?_
        refine go_iconst (pc' := 1492) (v := (nI 1)) rfl rfl rfl ?_
        refine go_iadd (pc' := 1493) rfl rfl ?_
        obtain ⟨g236, h⟩ := o_gE h
        refine go_iaload (pc' := 1494) rfl (Or.inr rfl) (o_ilE g236) rfl ?_
        refine go_aload_n (pc' := 1495) rfl rfl rfl ?_
        refine go_iload_n (pc' := 1496) rfl rfl rfl ?_
        refine go_iconst (pc' := 1497) (v := (nI 2)) rfl rfl rfl ?_
        refine go_iadd (pc' := 1498) rfl rfl ?_
        obtain ⟨g237, h⟩ := o_gE h
        refine go_iaload (pc' := 1499) rfl (Or.inr rfl) (o_ilE g237) rfl ?_
        obtain ⟨g238, h⟩ := o_gE h
        obtain ⟨r_1499, I_1499, q_1499, h⟩ := o_b2E h
        refine go_callV (pc' := 1502) (B' := (599907, 7285527)) (st' := [.inl r_1499, .inl r_1485]) rfl rfl (Or.inl (by decide)) rfl rfl (o_kdE g238) (md_307 (by omega) (o_kdE g238) q_1499) rfl rfl rfl ?_
        refine go_icmp_eq (pt := 1711) (pc' := 1505) rfl rfl rfl (fun h1502 => ?_) (fun h1502 => ?_)
        · replace h := o_t h1502 h
          obtain ⟨x3_1711, ex3_1711, h⟩ := o_b1E h
          refine go_iincE (pc' := 1714) rfl rfl (y := (nI 6)) rfl ex3_1711 (lo' := [some (.inr (.inr 1999)), some (.inr (.inr n_0)), some (.inr (.inr n_8)), some (.inl x3_1711)]) rfl rfl ?_
          refine go_goto (pc' := 18) rfl rfl ?_
          exact (lp_backE h hk18 :)
        · replace h := o_f h1502 h
          have h := hc18_281 (I_1499, J_18, R_18) (lp_exitE h hk18).symm
          replace h : some (nI 0) = some r := h
          refine go_iconst (pc' := 1506) (v := (nI 0)) rfl rfl rfl ?_
          cases h
          exact go_iret rfl (rfl) rfl
      replace h := o_f c33_34 h
      by_cases c33_35 : d_33 = (35 : Int32)
      · replace h := o_t c33_35 h
        refine go_swIn (pc' := 1507) 35 rfl rfl (by rw [c33_35]; decide) (by rw [c33_35]; decide) rfl ?_
        refine go_aload_n (pc' := 1508) rfl rfl rfl ?_
        refine go_aload_n (pc' := 1509) rfl rfl rfl ?_
        refine go_iload_n (pc' := 1510) rfl rfl rfl ?_
        refine go_iconst (pc' := 1511) (v := (nI 1)) rfl rfl rfl ?_
        refine go_iadd (pc' := 1512) rfl rfl ?_
        obtain ⟨g239, h⟩ := o_gE h
        refine go_iaload (pc' := 1513) rfl (Or.inr rfl) (o_ilE g239) rfl ?_
        refine go_aload_n (pc' := 1514) rfl rfl rfl ?_
        refine go_iload_n (pc' := 1515) rfl rfl rfl ?_
        refine go_iconst (pc' := 1516) (v := (nI 2)) rfl rfl rfl ?_
        refine go_iadd (pc' := 1517) rfl rfl ?_
        obtain ⟨g240, h⟩ := o_gE h
        refine go_iaload (pc' := 1518) rfl (Or.inr rfl) (o_ilE g240) rfl ?_
        obtain ⟨g241, h⟩ := o_gE h
        obtain ⟨r_1518, q_1518, h⟩ := o_b1E h
        refine go_callV (pc' := 1521) (B' := (599907, 7285527)) (st' := [.inl r_1518]) rfl rfl (Or.inl (by decide)) rfl rfl (o_kdE g241) (md_174 (by omega) (o_kdE g241) q_1518) rfl rfl rfl ?_
        refine go_aload_n (pc' := 1522) rfl rfl rfl ?_
        refine go_aload_n (pc' := 1523) rfl rfl rfl ?_
        refine go_iload_n (pc' := 1524) rfl rfl rfl ?_
        refine go_iconst (pc' := 1525) (v := (nI 1)) rfl rfl rfl ?_
        refine go_iadd (pc' := 1526) rfl rfl ?_
        obtain ⟨g242, h⟩ := o_gE h
        refine go_iaload (pc' := 1527) rfl (Or.inr rfl) (o_ilE g242) rfl ?_
        refine go_aload_n (pc' := 1528) rfl rfl rfl ?_
        refine go_iload_n (pc' := 1529) rfl rfl rfl ?_
        refine go_iconst (pc' := 1530) (v := (nI 2)) rfl rfl rfl ?_
        refine go_iadd (pc' := 1531) rfl rfl ?_
        obtain ⟨g243, h⟩ := o_gE h
        refine go_iaload (pc' := 1532) rfl (Or.inr rfl) (o_ilE g243) rfl ?_
        obtain ⟨g244, h⟩ := o_gE h
        obtain ⟨r_1532, q_1532, h⟩ := o_b1E h
        refine go_callV (pc' := 1535) (B' := (599907, 7285527)) (st' := [.inl r_1532, .inl r_1518]) rfl rfl (Or.inl (by decide)) rfl rfl (o_kdE g244) (md_243 (by omega) (o_kdE g244) q_1532) rfl rfl rfl ?_
        refine go_icmp_eq (pt := 1711) (pc' := 1538) rfl rfl rfl (fun h1535 => ?_) (fun h1535 => ?_)
        · replace h := o_t h1535 h
          obtain ⟨x3_1711, ex3_1711, h⟩ := o_b1E h
          refine go_iincE (pc' := 1714) rfl rfl (y := (nI 6)) rfl ex3_1711 (lo' := [some (.inr (.inr 1999)), some (.inr (.inr n_0)), some (.inr (.inr n_8)), some (.inl x3_1711)]) rfl rfl ?_
          refine go_goto (pc' := 18) rfl rfl ?_
          exact (lp_backE h hk18 :)
        · replace h := o_f h1535 h
          have h := hc18_281 (I_18, J_18, R_18) (lp_exitE h hk18).symm
          replace h : some (nI 0) = some r := h
          refine go_iconst (pc' := 1539) (v := (nI 0)) rfl rfl rfl ?_
          cases h
          exact go_iret rfl (rfl) rfl
      replace h := o_f c33_35 h
      by_cases c33_36 : d_33 = (36 : Int32)
      · replace h := o_t c33_36 h
        refine go_swIn (pc' := 1540) 36 rfl rfl (by rw [c33_36]; decide) (by rw [c33_36]; decide) rfl ?_
        refine go_aload_n (pc' := 1541) rfl rfl rfl ?_
        refine go_aload_n (pc' := 1542) rfl rfl rfl ?_
        refine go_iload_n (pc' := 1543) rfl rfl rfl ?_
        refine go_iconst (pc' := 1544) (v := (nI 1)) rfl rfl rfl ?_
        refine go_iadd (pc' := 1545) rfl rfl ?_
        obtain ⟨g245, h⟩ := o_gE h
        refine go_iaload (pc' := 1546) rfl (Or.inr rfl) (o_ilE g245) rfl ?_
        refine go_aload_n (pc' := 1547) rfl rfl rfl ?_
        refine go_iload_n (pc' := 1548) rfl rfl rfl ?_
        refine go_iconst (pc' := 1549) (v := (nI 2)) rfl rfl rfl ?_
        refine go_iadd (pc' := 1550) rfl rfl ?_
        obtain ⟨g246, h⟩ := o_gE h
        refine go_iaload (pc' := 1551) rfl (Or.inr rfl) (o_ilE g246) rfl ?_
        refine go_aload_n (pc' := 1552) rfl rfl rfl ?_
        refine go_iload_n (pc' := 1553) rfl rfl rfl ?_
        refine go_iconst (pc' := 1554) (v := (nI 3)) rfl rfl rfl ?_
        refine go_iadd (pc' := 1555) rfl rfl ?_
        obtain ⟨g247, h⟩ := o_gE h
        refine go_iaload (pc' := 1556) rfl (Or.inr rfl) (o_ilE g247) rfl ?_
        obtain ⟨g248, h⟩ := o_gE h
        obtain ⟨r_1556, q_1556, h⟩ := o_b1E h
        refine go_callV (pc' := 1559) (B' := (599907, 7285527)) (st' := [.inl r_1556]) rfl rfl (Or.inl (by decide)) rfl rfl (o_kdE g248) (md_175 (by omega) (o_kdE g248) q_1556) rfl rfl rfl ?_
        refine go_aload_n (pc' := 1560) rfl rfl rfl ?_
        refine go_aload_n (pc' := 1561) rfl rfl rfl ?_
        refine go_iload_n (pc' := 1562) rfl rfl rfl ?_
        refine go_iconst (pc' := 1563) (v := (nI 1)) rfl rfl rfl ?_
        refine go_iadd (pc' := 1564) rfl rfl ?_
        obtain ⟨g249, h⟩ := o_gE h
        refine go_iaload (pc' := 1565) rfl (Or.inr rfl) (o_ilE g249) rfl ?_
        refine go_aload_n (pc' := 1566) rfl rfl rfl ?_
        refine go_iload_n (pc' := 1567) rfl rfl rfl ?_
        refine go_iconst (pc' := 1568) (v := (nI 2)) rfl rfl rfl ?_
        refine go_iadd (pc' := 1569) rfl rfl ?_
        obtain ⟨g250, h⟩ := o_gE h
        refine go_iaload (pc' := 1570) rfl (Or.inr rfl) (o_ilE g250) rfl ?_
        refine go_aload_n (pc' := 1571) rfl rfl rfl ?_
        refine go_iload_n (pc' := 1572) rfl rfl rfl ?_
        refine go_iconst (pc' := 1573) (v := (nI 3)) rfl rfl rfl ?_
        refine go_iadd (pc' := 1574) rfl rfl ?_
        obtain ⟨g251, h⟩ := o_gE h
        refine go_iaload (pc' := 1575) rfl (Or.inr rfl) (o_ilE g251) rfl ?_
        obtain ⟨g252, h⟩ := o_gE h
        obtain ⟨r_1575, I_1575, q_1575, h⟩ := o_b2E h
        refine go_callV (pc' := 1578) (B' := (599907, 7285527)) (st' := [.inl r_1575, .inl r_1556]) rfl rfl (Or.inl (by decide)) rfl rfl (o_kdE g252) (md_324 (by omega) (o_kdE g252) q_1575) rfl rfl rfl ?_
        refine go_icmp_eq (pt := 1711) (pc' := 1581) rfl rfl rfl (fun h1578 => ?_) (fun h1578 => ?_)
        · replace h := o_t h1578 h
          obtain ⟨x3_1711, ex3_1711, h⟩ := o_b1E h
          refine go_iincE (pc' := 1714) rfl rfl (y := (nI 6)) rfl ex3_1711 (lo' := [some (.inr (.inr 1999)), some (.inr (.inr n_0)), some (.inr (.inr n_8)), some (.inl x3_1711)]) rfl rfl ?_
          refine go_goto (pc' := 18) rfl rfl ?_
          exact (lp_backE h hk18 :)
        · replace h := o_f h1578 h
          have h := hc18_281 (I_1575, J_18, R_18) (lp_exitE h hk18).symm
          replace h : some (nI 0) = some r := h
          refine go_iconst (pc' := 1582) (v := (nI 0)) rfl rfl rfl ?_
          cases h
          exact go_iret rfl (rfl) rfl
      replace h := o_f c33_36 h
      by_cases c33_37 : d_33 = (37 : Int32)
      · replace h := o_t c33_37 h
        refine go_swIn (pc' := 1583) 37 rfl rfl (by rw [c33_37]; decide) (by rw [c33_37]; decide) rfl ?_
        refine go_aload_n (pc' := 1584) rfl rfl rfl ?_
        refine go_aload_n (pc' := 1585) rfl rfl rfl ?_
        refine go_iload_n (pc' := 1586) rfl rfl rfl ?_
        refine go_iconst (pc' := 1587) (v := (nI 1)) rfl rfl rfl ?_
        refine go_iadd (pc' := 1588) rfl rfl ?_
        obtain ⟨g253, h⟩ := o_gE h
        refine go_iaload (pc' := 1589) rfl (Or.inr rfl) (o_ilE g253) rfl ?_
        refine go_aload_n (pc' := 1590) rfl rfl rfl ?_
        refine go_iload_n (pc' := 1591) rfl rfl rfl ?_
        refine go_iconst (pc' := 1592) (v := (nI 2)) rfl rfl rfl ?_
        refine go_iadd (pc' := 1593) rfl rfl ?_
        obtain ⟨g254, h⟩ := o_gE h
        refine go_iaload (pc' := 1594) rfl (Or.inr rfl) (o_ilE g254) rfl ?_
        obtain ⟨g255, h⟩ := o_gE h
        obtain ⟨r_1594, I_1594, q_1594, h⟩ := o_b2E h
        refine go_callV (pc' := 1597) (B' := (599907, 7285527)) (st' := [.inl r_1594]) rfl rfl (Or.inl (by decide)) rfl rfl (o_kdE g255) (md_176 (by omega) (o_kdE g255) q_1594) rfl rfl rfl ?_
        refine go_aload_n (pc' := 1598) rfl rfl rfl ?_
        refine go_aload_n (pc' := 1599) rfl rfl rfl ?_
        refine go_iload_n (pc' := 1600) rfl rfl rfl ?_
        refine go_iconst (pc' := 1601) (v := (nI 1)) rfl rfl rfl ?_
        refine go_iadd (pc' := 1602) rfl rfl ?_
        obtain ⟨g256, h⟩ := o_gE h
        refine go_iaload (pc' := 1603) rfl (Or.inr rfl) (o_ilE g256) rfl ?_
        refine go_aload_n (pc' := 1604) rfl rfl rfl ?_
        refine go_iload_n (pc' := 1605) rfl rfl rfl ?_
        refine go_iconst (pc' := 1606) (v := (nI 2)) rfl rfl rfl ?_
        refine go_iadd (pc' := 1607) rfl rfl ?_
        obtain ⟨g257, h⟩ := o_gE h
        refine go_iaload (pc' := 1608) rfl (Or.inr rfl) (o_ilE g257) rfl ?_
        obtain ⟨g258, h⟩ := o_gE h
        obtain ⟨r_1608, I_1608, q_1608, h⟩ := o_b2E h
        refine go_callV (pc' := 1611) (B' := (599907, 7285527)) (st' := [.inl r_1608, .inl r_1594]) rfl rfl (Or.inl (by decide)) rfl rfl (o_kdE g258) (md_325 (by omega) (o_kdE g258) q_1608) rfl rfl rfl ?_
        refine go_icmp_eq (pt := 1711) (pc' := 1614) rfl rfl rfl (fun h1611 => ?_) (fun h1611 => ?_)
        · replace h := o_t h1611 h
          obtain ⟨x3_1711, ex3_1711, h⟩ := o_b1E h
          refine go_iincE (pc' := 1714) rfl rfl (y := (nI 6)) rfl ex3_1711 (lo' := [some (.inr (.inr 1999)), some (.inr (.inr n_0)), some (.inr (.inr n_8)), some (.inl x3_1711)]) rfl rfl ?_
          refine go_goto (pc' := 18) rfl rfl ?_
          exact (lp_backE h hk18 :)
        · replace h := o_f h1611 h
          have h := hc18_281 (I_1608, J_18, R_18) (lp_exitE h hk18).symm
          replace h : some (nI 0) = some r := h
          refine go_iconst (pc' := 1615) (v := (nI 0)) rfl rfl rfl ?_
          cases h
          exact go_iret rfl (rfl) rfl
      replace h := o_f c33_37 h
      by_cases c33_38 : d_33 = (38 : Int32)
      · replace h := o_t c33_38 h
        refine go_swIn (pc' := 1616) 38 rfl rfl (by rw [c33_38]; decide) (by rw [c33_38]; decide) rfl ?_
        refine go_aload_n (pc' := 1617) rfl rfl rfl ?_
        refine go_aload_n (pc' := 1618) rfl rfl rfl ?_
        refine go_iload_n (pc' := 1619) rfl rfl rfl ?_
        refine go_iconst (pc' := 1620) (v := (nI 1)) rfl rfl rfl ?_
        refine go_iadd (pc' := 1621) rfl rfl ?_
        obtain ⟨g259, h⟩ := o_gE h
        refine go_iaload (pc' := 1622) rfl (Or.inr rfl) (o_ilE g259) rfl ?_
        obtain ⟨g260, h⟩ := o_gE h
        obtain ⟨r_1622, I_1622, q_1622, h⟩ := o_b2E h
        refine go_callV (pc' := 1625) (B' := (599907, 7285527)) (st' := [.inl r_1622]) rfl rfl (Or.inl (by decide)) rfl rfl (o_kdE g260) (md_177 (by omega) (o_kdE g260) q_1622) rfl rfl rfl ?_
        refine go_aload_n (pc' := 1626) rfl rfl rfl ?_
        refine go_aload_n (pc' := 1627) rfl rfl rfl ?_
        refine go_iload_n (pc' := 1628) rfl rfl rfl ?_
        refine go_iconst (pc' := 1629) (v := (nI 1)) rfl rfl rfl ?_
        refine go_iadd (pc' := 1630) rfl rfl ?_
        obtain ⟨g261, h⟩ := o_gE h
        refine go_iaload (pc' := 1631) rfl (Or.inr rfl) (o_ilE g261) rfl ?_
        obtain ⟨g262, h⟩ := o_gE h
        obtain ⟨r_1631, I_1631, q_1631, h⟩ := o_b2E h
        refine go_callV (pc' := 1634) (B' := (599907, 7285527)) (st' := [.inl r_1631, .inl r_1622]) rfl rfl (Or.inl (by decide)) rfl rfl (o_kdE g262) (md_326 (by omega) (o_kdE g262) q_1631) rfl rfl rfl ?_
        refine go_icmp_eq (pt := 1711) (pc' := 1637) rfl rfl rfl (fun h1634 => ?_) (fun h1634 => ?_)
        · replace h := o_t h1634 h
          obtain ⟨x3_1711, ex3_1711, h⟩ := o_b1E h
          refine go_iincE (pc' := 1714) rfl rfl (y := (nI 6)) rfl ex3_1711 (lo' := [some (.inr (.inr 1999)), some (.inr (.inr n_0)), some (.inr (.inr n_8)), some (.inl x3_1711)]) rfl rfl ?_
          refine go_goto (pc' := 18) rfl rfl ?_
          exact (lp_backE h hk18 :)
        · replace h := o_f h1634 h
          have h := hc18_281 (I_1631, J_18, R_18) (lp_exitE h hk18).symm
          replace h : some (nI 0) = some r := h
          refine go_iconst (pc' := 1638) (v := (nI 0)) rfl rfl rfl ?_
          cases h
          exact go_iret rfl (rfl) rfl
      replace h := o_f c33_38 h
      by_cases c33_39 : d_33 = (39 : Int32)
      · replace h := o_t c33_39 h
        refine go_swIn (pc' := 1639) 39 rfl rfl (by rw [c33_39]; decide) (by rw [c33_39]; decide) rfl ?_
        refine go_aload_n (pc' := 1640) rfl rfl rfl ?_
        refine go_aload_n (pc' := 1641) rfl rfl rfl ?_
        refine go_iload_n (pc' := 1642) rfl rfl rfl ?_
        refine go_iconst (pc' := 1643) (v := (nI 1)) rfl rfl rfl ?_
        refine go_iadd (pc' := 1644) rfl rfl ?_
        obtain ⟨g263, h⟩ := o_gE h
        refine go_iaload (pc' := 1645) rfl (Or.inr rfl) (o_ilE g263) rfl ?_
        obtain ⟨g264, h⟩ := o_gE h
        obtain ⟨r_1645, q_1645, h⟩ := o_b1E h
        refine go_callV (pc' := 1648) (B' := (599907, 7285527)) (st' := [.inl r_1645]) rfl rfl (Or.inl (by decide)) rfl rfl (o_kdE g264) (md_178 (by omega) (o_kdE g264) q_1645) rfl rfl rfl ?_
        refine go_aload_n (pc' := 1649) rfl rfl rfl ?_
        refine go_aload_n (pc' := 1650) rfl rfl rfl ?_
        refine go_iload_n (pc' := 1651) rfl rfl rfl ?_
        refine go_iconst (pc' := 1652) (v := (nI 1)) rfl rfl rfl ?_
        refine go_iadd (pc' := 1653) rfl rfl ?_
        obtain ⟨g265, h⟩ := o_gE h
        refine go_iaload (pc' := 1654) rfl (Or.inr rfl) (o_ilE g265) rfl ?_
        obtain ⟨g266, h⟩ := o_gE h
        obtain ⟨r_1654, q_1654, h⟩ := o_b1E h
        refine go_callV (pc' := 1657) (B' := (599907, 7285527)) (st' := [.inl r_1654, .inl r_1645]) rfl rfl (Or.inl (by decide)) rfl rfl (o_kdE g266) (md_327 (by omega) (o_kdE g266) q_1654) rfl rfl rfl ?_
        refine go_icmp_eq (pt := 1711) (pc' := 1660) rfl rfl rfl (fun h1657 => ?_) (fun h1657 => ?_)
        · replace h := o_t h1657 h
          obtain ⟨x3_1711, ex3_1711, h⟩ := o_b1E h
          refine go_iincE (pc' := 1714) rfl rfl (y := (nI 6)) rfl ex3_1711 (lo' := [some (.inr (.inr 1999)), some (.inr (.inr n_0)), some (.inr (.inr n_8)), some (.inl x3_1711)]) rfl rfl ?_
          refine go_goto (pc' := 18) rfl rfl ?_
          exact (lp_backE h hk18 :)
        · replace h := o_f h1657 h
          have h := hc18_281 (I_18, J_18, R_18) (lp_exitE h hk18).symm
          replace h : some (nI 0) = some r := h
          refine go_iconst (pc' := 1661) (v := (nI 0)) rfl rfl rfl ?_
          cases h
          exact go_iret rfl (rfl) rfl
      replace h := o_f c33_39 h
      by_cases c33_40 : d_33 = (40 : Int32)
      · replace h := o_t c33_40 h
        refine go_swIn (pc' := 1662) 40 rfl rfl (by rw [c33_40]; decide) (by rw [c33_40]; decide) rfl ?_
        refine go_aload_n (pc' := 1663) rfl rfl rfl ?_
        obtain ⟨g267, h⟩ := o_gE h
        obtain ⟨r_1663, I_1663, q_1663, h⟩ := o_b2E h
        refine go_callV (pc' := 1666) (B' := (599907, 7285527)) (st' := [.inl r_1663]) rfl rfl (Or.inl (by decide)) rfl rfl (o_kdE g267) (md_179 (by omega) (o_kdE g267) q_1663) rfl rfl rfl ?_
        refine go_aload_n (pc' := 1667) rfl rfl rfl ?_
        obtain ⟨g268, h⟩ := o_gE h
        obtain ⟨r_1667, I_1667, q_1667, h⟩ := o_b2E h
        refine go_callV (pc' := 1670) (B' := (599907, 7285527)) (st' := [.inl r_1667, .inl r_1663]) rfl rfl (Or.inl (by decide)) rfl rfl (o_kdE g268) (md_328 (by omega) (o_kdE g268) q_1667) rfl rfl rfl ?_
        refine go_icmp_eq (pt := 1711) (pc' := 1673) rfl rfl rfl (fun h1670 => ?_) (fun h1670 => ?_)
        · replace h := o_t h1670 h
          obtain ⟨x3_1711, ex3_1711, h⟩ := o_b1E h
          refine go_iincE (pc' := 1714) rfl rfl (y := (nI 6)) rfl ex3_1711 (lo' := [some (.inr (.inr 1999)), some (.inr (.inr n_0)), some (.inr (.inr n_8)), some (.inl x3_1711)]) rfl rfl ?_
          refine go_goto (pc' := 18) rfl rfl ?_
          exact (lp_backE h hk18 :)
        · replace h := o_f h1670 h
          have h := hc18_281 (I_1667, J_18, R_18) (lp_exitE h hk18).symm
          replace h : some (nI 0) = some r := h
          refine go_iconst (pc' := 1674) (v := (nI 0)) rfl rfl rfl ?_
          cases h
          exact go_iret rfl (rfl) rfl
      replace h := o_f c33_40 h
      by_cases c33_41 : d_33 = (41 : Int32)
      · replace h := o_t c33_41 h
        refine go_swIn (pc' := 1675) 41 rfl rfl (by rw [c33_41]; decide) (by rw [c33_41]; decide) rfl ?_
        refine go_aload_n (pc' := 1676) rfl rfl rfl ?_
        obtain ⟨g269, h⟩ := o_gE h
        obtain ⟨r_1676, I_1676, q_1676, h⟩ := o_b2E h
        refine go_callV (pc' := 1679) (B' := (599907, 7285527)) (st' := [.inl r_1676]) rfl rfl (Or.inl (by decide)) rfl rfl (o_kdE g269) (md_180 (by omega) (o_kdE g269) q_1676) rfl rfl rfl ?_
        refine go_aload_n (pc' := 1680) rfl rfl rfl ?_
        obtain ⟨g270, h⟩ := o_gE h
        obtain ⟨r_1680, I_1680, q_1680, h⟩ := o_b2E h
        refine go_callV (pc' := 1683) (B' := (599907, 7285527)) (st' := [.inl r_1680, .inl r_1676]) rfl rfl (Or.inl (by decide)) rfl rfl (o_kdE g270) (md_329 (by omega) (o_kdE g270) q_1680) rfl rfl rfl ?_
        refine go_icmp_eq (pt := 1711) (pc' := 1686) rfl rfl rfl (fun h1683 => ?_) (fun h1683 => ?_)
        · replace h := o_t h1683 h
          obtain ⟨x3_1711, ex3_1711, h⟩ := o_b1E h
          refine go_iincE (pc' := 1714) rfl rfl (y := (nI 6)) rfl ex3_1711 (lo' := [some (.inr (.inr 1999)), some (.inr (.inr n_0)), some (.inr (.inr n_8)), some (.inl x3_1711)]) rfl rfl ?_
          refine go_goto (pc' := 18) rfl rfl ?_
          exact (lp_backE h hk18 :)
        · replace h := o_f h1683 h
          have h := hc18_281 (I_1680, J_18, R_18) (lp_exitE h hk18).symm
          replace h : some (nI 0) = some r := h
          refine go_iconst (pc' := 1687) (v := (nI 0)) rfl rfl rfl ?_
          cases h
          exact go_iret rfl (rfl) rfl
      replace h := o_f c33_41 h
      by_cases c33_42 : d_33 = (42 : Int32)
      · replace h := o_t c33_42 h
        refine go_swIn (pc' := 1688) 42 rfl rfl (by rw [c33_42]; decide) (by rw [c33_42]; decide) rfl ?_
        refine go_aload_n (pc' := 1689) rfl rfl rfl ?_
        refine go_aload_n (pc' := 1690) rfl rfl rfl ?_
        refine go_iload_n (pc' := 1691) rfl rfl rfl ?_
        refine go_iconst (pc' := 1692) (v := (nI 1)) rfl rfl rfl ?_
        refine go_iadd (pc' := 1693) rfl rfl ?_
        obtain ⟨g271, h⟩ := o_gE h
        refine go_iaload (pc' := 1694) rfl (Or.inr rfl) (o_ilE g271) rfl ?_
        obtain ⟨g272, h⟩ := o_gE h
        obtain ⟨r_1694, I_1694, q_1694, h⟩ := o_b2E h
        refine go_callV (pc' := 1697) (B' := (599907, 7285527)) (st' := [.inl r_1694]) rfl rfl (Or.inl (by decide)) rfl rfl (o_kdE g272) (md_181 (by omega) (o_kdE g272) q_1694) rfl rfl rfl ?_
        refine go_aload_n (pc' := 1698) rfl rfl rfl ?_
        refine go_aload_n (pc' := 1699) rfl rfl rfl ?_
        refine go_iload_n (pc' := 1700) rfl rfl rfl ?_
        refine go_iconst (pc' := 1701) (v := (nI 1)) rfl rfl rfl ?_
        refine go_iadd (pc' := 1702) rfl rfl ?_
        obtain ⟨g273, h⟩ := o_gE h
        refine go_iaload (pc' := 1703) rfl (Or.inr rfl) (o_ilE g273) rfl ?_
        obtain ⟨g274, h⟩ := o_gE h
        obtain ⟨r_1703, I_1703, q_1703, h⟩ := o_b2E h
        refine go_callV (pc' := 1706) (B' := (599907, 7285527)) (st' := [.inl r_1703, .inl r_1694]) rfl rfl (Or.inl (by decide)) rfl rfl (o_kdE g274) (md_330 (by omega) (o_kdE g274) q_1703) rfl rfl rfl ?_
        refine go_icmp_eq (pt := 1711) (pc' := 1709) rfl rfl rfl (fun h1706 => ?_) (fun h1706 => ?_)
        · replace h := o_t h1706 h
          obtain ⟨x3_1711, ex3_1711, h⟩ := o_b1E h
          refine go_iincE (pc' := 1714) rfl rfl (y := (nI 6)) rfl ex3_1711 (lo' := [some (.inr (.inr 1999)), some (.inr (.inr n_0)), some (.inr (.inr n_8)), some (.inl x3_1711)]) rfl rfl ?_
          refine go_goto (pc' := 18) rfl rfl ?_
          exact (lp_backE h hk18 :)
        · replace h := o_f h1706 h
          have h := hc18_281 (I_1703, J_18, R_18) (lp_exitE h hk18).symm
          replace h : some (nI 0) = some r := h
          refine go_iconst (pc' := 1710) (v := (nI 0)) rfl rfl rfl ?_
          cases h
          exact go_iret rfl (rfl) rfl
      replace h := o_f c33_42 h
      refine go_swOut (pc' := 1711) rfl (by
          rw [← Int32.toInt_inj] at c33_0
          rw [← Int32.toInt_inj] at c33_1
          rw [← Int32.toInt_inj] at c33_2
          rw [← Int32.toInt_inj] at c33_3
          rw [← Int32.toInt_inj] at c33_4
          rw [← Int32.toInt_inj] at c33_5
          rw [← Int32.toInt_inj] at c33_6
          rw [← Int32.toInt_inj] at c33_7
          rw [← Int32.toInt_inj] at c33_8
          rw [← Int32.toInt_inj] at c33_9
          rw [← Int32.toInt_inj] at c33_10
          rw [← Int32.toInt_inj] at c33_11
          rw [← Int32.toInt_inj] at c33_12
          rw [← Int32.toInt_inj] at c33_13
          rw [← Int32.toInt_inj] at c33_14
          rw [← Int32.toInt_inj] at c33_15
          rw [← Int32.toInt_inj] at c33_16
          rw [← Int32.toInt_inj] at c33_17
          rw [← Int32.toInt_inj] at c33_18
          rw [← Int32.toInt_inj] at c33_19
          rw [← Int32.toInt_inj] at c33_20
          rw [← Int32.toInt_inj] at c33_21
          rw [← Int32.toInt_inj] at c33_22
          rw [← Int32.toInt_inj] at c33_23
          rw [← Int32.toInt_inj] at c33_24
          rw [← Int32.toInt_inj] at c33_25
          rw [← Int32.toInt_inj] at c33_26
          rw [← Int32.toInt_inj] at c33_27
          rw [← Int32.toInt_inj] at c33_28
          rw [← Int32.toInt_inj] at c33_29
          rw [← Int32.toInt_inj] at c33_30
          rw [← Int32.toInt_inj] at c33_31
          rw [← Int32.toInt_inj] at c33_32
          rw [← Int32.toInt_inj] at c33_33
          rw [← Int32.toInt_inj] at c33_34
          rw [← Int32.toInt_inj] at c33_35
          rw [← Int32.toInt_inj] at c33_36
          rw [← Int32.toInt_inj] at c33_37
          rw [← Int32.toInt_inj] at c33_38
          rw [← Int32.toInt_inj] at c33_39
          rw [← Int32.toInt_inj] at c33_40
          rw [← Int32.toInt_inj] at c33_41
          rw [← Int32.toInt_inj] at c33_42
          have c33_0 : ¬ d_33.toInt = 0 := c33_0
          have c33_1 : ¬ d_33.toInt = 1 := c33_1
          have c33_2 : ¬ d_33.toInt = 2 := c33_2
          have c33_3 : ¬ d_33.toInt = 3 := c33_3
          have c33_4 : ¬ d_33.toInt = 4 := c33_4
          have c33_5 : ¬ d_33.toInt = 5 := c33_5
          have c33_6 : ¬ d_33.toInt = 6 := c33_6
          have c33_7 : ¬ d_33.toInt = 7 := c33_7
          have c33_8 : ¬ d_33.toInt = 8 := c33_8
          have c33_9 : ¬ d_33.toInt = 9 := c33_9
          have c33_10 : ¬ d_33.toInt = 10 := c33_10
          have c33_11 : ¬ d_33.toInt = 11 := c33_11
          have c33_12 : ¬ d_33.toInt = 12 := c33_12
          have c33_13 : ¬ d_33.toInt = 13 := c33_13
          have c33_14 : ¬ d_33.toInt = 14 := c33_14
          have c33_15 : ¬ d_33.toInt = 15 := c33_15
          have c33_16 : ¬ d_33.toInt = 16 := c33_16
          have c33_17 : ¬ d_33.toInt = 17 := c33_17
          have c33_18 : ¬ d_33.toInt = 18 := c33_18
          have c33_19 : ¬ d_33.toInt = 19 := c33_19
          have c33_20 : ¬ d_33.toInt = 20 := c33_20
          have c33_21 : ¬ d_33.toInt = 21 := c33_21
          have c33_22 : ¬ d_33.toInt = 22 := c33_22
          have c33_23 : ¬ d_33.toInt = 23 := c33_23
          have c33_24 : ¬ d_33.toInt = 24 := c33_24
          have c33_25 : ¬ d_33.toInt = 25 := c33_25
          have c33_26 : ¬ d_33.toInt = 26 := c33_26
          have c33_27 : ¬ d_33.toInt = 27 := c33_27
          have c33_28 : ¬ d_33.toInt = 28 := c33_28
          have c33_29 : ¬ d_33.toInt = 29 := c33_29
          have c33_30 : ¬ d_33.toInt = 30 := c33_30
          have c33_31 : ¬ d_33.toInt = 31 := c33_31
          have c33_32 : ¬ d_33.toInt = 32 := c33_32
          have c33_33 : ¬ d_33.toInt = 33 := c33_33
          have c33_34 : ¬ d_33.toInt = 34 := c33_34
          have c33_35 : ¬ d_33.toInt = 35 := c33_35
          have c33_36 : ¬ d_33.toInt = 36 := c33_36
          have c33_37 : ¬ d_33.toInt = 37 := c33_37
          have c33_38 : ¬ d_33.toInt = 38 := c33_38
          have c33_39 : ¬ d_33.toInt = 39 := c33_39
          have c33_40 : ¬ d_33.toInt = 40 := c33_40
          have c33_41 : ¬ d_33.toInt = 41 := c33_41
          have c33_42 : ¬ d_33.toInt = 42 := c33_42
          show d_33.toInt < 0 ∨ 0 + ((43 : Nat) : Int) ≤ d_33.toInt
          omega) rfl ?_
      obtain ⟨x3_1711, ex3_1711, h⟩ := o_b1E h
      refine go_iincE (pc' := 1714) rfl rfl (y := (nI 6)) rfl ex3_1711 (lo' := [some (.inr (.inr 1999)), some (.inr (.inr n_0)), some (.inr (.inr n_8)), some (.inl x3_1711)]) rfl rfl ?_
      refine go_goto (pc' := 18) rfl rfl ?_
      exact (lp_backE h hk18 :))
  exact lo18 _ ((nI 0), I_12, J_12, R_12) hl18 
/-- the law's run, out of its model -/
theorem si_law_of (h : ∀ (L : Nat) (xs : Nat → Int32), L ≤ 3072 → m_333 (si_I0 xs) si_J0 si_R0 (si_G0 L) = some (nI 1)) : si_law := fun L xs hL => md_law (h L xs hL)
