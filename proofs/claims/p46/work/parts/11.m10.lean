/-! Models of methods and their proofs, piece 10. Printed by wip/p46/pr10.py. -/
def m_129_j629 (a0 : Nat) (a1 : Int32) (Rf : ai_R) (G_83 : ai_G) (w7_447 : Int32) (I_603 : ai_I) : Option (Int32 × ai_I × ai_G) :=
  o_b2 (m_107 a0 a1 ((nI 10) + w7_447) I_603 Rf G_83) (fun r_636 I_636 => if r_636 = (-4 : Int32) then (some ((nI 1), I_636, G_83)) else (some ((nI 0), I_636, G_83)))
def m_129_j616 (a0 : Nat) (a1 : Int32) (Rf : ai_R) (t0_78 : Int32) (G_83 : ai_G) (w7_447 : Int32) (w10_563 : Int32) (r_603 : Int32) (I_603 : ai_I) (t1_616 : Int32) : Option (Int32 × ai_I × ai_G) :=
  if r_603 = t1_616 then (if t0_78 = 0 then (m_129_j629 a0 a1 Rf G_83 w7_447 I_603) else (if w10_563 = 0 then (some ((nI 0), I_603, G_83)) else (m_129_j629 a0 a1 Rf G_83 w7_447 I_603))) else (some ((nI 0), I_603, G_83))
def m_129_x453_563 (a0 : Nat) (a1 : Int32) (Rf : ai_R) (w4_56 : Int32) (t0_78 : Int32) (G_83 : ai_G) (w5_447 : Int32) (w6_447 : Int32) (w7_447 : Int32) (Ix_447 : ai_I) (w10_563 : Int32) : Option (Int32 × ai_I × ai_G) :=
  if w5_447 = 0 then (some ((nI 0), Ix_447, G_83)) else (o_g (o_kd G_83 a0 10) (o_b2 (m_106 a0 a1 Ix_447 Rf G_83) (fun r_570 I_570 => if r_570 = w6_447 then (o_b2 (m_107 a0 a1 (nI 0) I_570 Rf G_83) (fun r_581 I_581 => if r_581 = w7_447 then (o_b2 (m_107 a0 a1 (nI 1) I_581 Rf G_83) (fun r_592 I_592 => if r_592 = w4_56 then (o_b2 (m_107 a0 a1 (nI 2) I_592 Rf G_83) (fun r_603 I_603 => if w10_563 = 0 then (m_129_j616 a0 a1 Rf t0_78 G_83 w7_447 w10_563 r_603 I_603 (nI 0)) else (m_129_j616 a0 a1 Rf t0_78 G_83 w7_447 w10_563 r_603 I_603 (nI 1)))) else (some ((nI 0), I_592, G_83)))) else (some ((nI 0), I_581, G_83)))) else (some ((nI 0), I_570, G_83)))))
def m_129_x464_557 (v11_453 : Int32) (w10_557 : Int32) : Option ((Int32 × Int32) ⊕ Int32) :=
  o_b1 (some (v11_453 + (nI 1))) (fun x11_557 => some (Sum.inl (w10_557, x11_557)))
def m_129_x483_551 (v12_464 : Int32) (w10_551 : Int32) : Option ((Int32 × Int32) ⊕ Int32) :=
  o_b1 (some (v12_464 + (nI 1))) (fun x12_551 => some (Sum.inl (w10_551, x12_551)))
def m_129_b483 (G_83 : ai_G) (n_83 : Nat) (Ix_447 : ai_I) (v11_453 : Int32) (v12_464 : Int32) (v10_483 : Int32) (v13_483 : Int32) : Option ((Int32 × Int32) ⊕ Int32) :=
  if (nI 8) ≤ v13_483 then (some (Sum.inr v10_483)) else (o_g (o_in G_83 13 n_83 v12_464) (if (Ix_447 n_83 v12_464.toNatClampNeg) = 0 then (if v10_483 = 0 then (o_b1 (some (v13_483 + (nI 1))) (fun x13_545 => some (Sum.inl ((nI 0), x13_545)))) else (o_b1 (m_121 v11_453 v13_483) (fun r_507 => if r_507 = 0 then (o_b1 (some (v13_483 + (nI 1))) (fun x13_545 => some (Sum.inl ((nI 1), x13_545)))) else (o_b1 (m_121 v12_464 v13_483) (fun r_517 => if r_517 = 0 then (o_b1 (m_127 n_83 v11_453 v12_464 v13_483 (nI 1) Ix_447 G_83) (fun r_532 => if r_532 < 0 then (o_b1 (some (v13_483 + (nI 1))) (fun x13_545 => some (Sum.inl ((nI 0), x13_545)))) else (o_b1 (some (v13_483 + (nI 1))) (fun x13_545 => some (Sum.inl ((nI 1), x13_545)))))) else (o_b1 (some (v13_483 + (nI 1))) (fun x13_545 => some (Sum.inl ((nI 1), x13_545))))))))) else (some (Sum.inr v10_483))))
def m_129_b464 (G_83 : ai_G) (n_83 : Nat) (Ix_447 : ai_I) (v11_453 : Int32) (v10_464 : Int32) (v12_464 : Int32) : Option ((Int32 × Int32) ⊕ Int32) :=
  if (nI 256) ≤ v12_464 then (some (Sum.inr v10_464)) else (o_g (o_in G_83 13 n_83 v11_453) (if (Ix_447 n_83 v11_453.toNatClampNeg) = 0 then (o_s1 (lp (fun s => m_129_b483 G_83 n_83 Ix_447 v11_453 v12_464 s.1 s.2) o_N (v10_464, (nI 0))) (fun t => m_129_x483_551 v12_464 t)) else (some (Sum.inr v10_464))))
def m_129_b453 (G_83 : ai_G) (n_83 : Nat) (Ix_447 : ai_I) (v10_453 : Int32) (v11_453 : Int32) : Option ((Int32 × Int32) ⊕ Int32) :=
  if (nI 256) ≤ v11_453 then (some (Sum.inr v10_453)) else (o_s1 (lp (fun s => m_129_b464 G_83 n_83 Ix_447 v11_453 s.1 s.2) o_N (v10_453, (nI 0))) (fun t => m_129_x464_557 v11_453 t))
def m_129_x90_447 (a0 : Nat) (a1 : Int32) (Rf : ai_R) (w4_56 : Int32) (t0_78 : Int32) (G_83 : ai_G) (n_83 : Nat) (w5_447 : Int32) (w6_447 : Int32) (w7_447 : Int32) (Ix_447 : ai_I) : Option (Int32 × ai_I × ai_G) :=
  o_s1 (lp (fun s => m_129_b453 G_83 n_83 Ix_447 s.1 s.2) o_N ((nI 1), (nI 0))) (fun t => m_129_x453_563 a0 a1 Rf w4_56 t0_78 G_83 w5_447 w6_447 w7_447 Ix_447 t)
def m_129_j422 (w4_56 : Int32) (v6_90 : Int32) (v10_90 : Int32) (y7_181 : Int32) (x14_336 : Int32) (t0_422 : Int32) (I_422 : ai_I) : Option ((Int32 × Int32 × Int32 × Int32 × ai_I) ⊕ (Int32 × Int32 × Int32 × ai_I)) :=
  if x14_336 = w4_56 then (o_b1 (some (v6_90 + (nI 1))) (fun x6_439 => o_b1 (some (v10_90 + (nI 1))) (fun x10_441 => some (Sum.inl (t0_422, x6_439, y7_181, x10_441, I_422))))) else (o_b1 (some (v6_90 + (nI 0))) (fun x6_439 => o_b1 (some (v10_90 + (nI 1))) (fun x10_441 => some (Sum.inl (t0_422, x6_439, y7_181, x10_441, I_422)))))
def m_129_j421 (w4_56 : Int32) (v6_90 : Int32) (v10_90 : Int32) (y7_181 : Int32) (x14_336 : Int32) (I_421 : ai_I) : Option ((Int32 × Int32 × Int32 × Int32 × ai_I) ⊕ (Int32 × Int32 × Int32 × ai_I)) :=
  m_129_j422 w4_56 v6_90 v10_90 y7_181 x14_336 (nI 0) I_421
def m_129_j417 (w4_56 : Int32) (v6_90 : Int32) (v10_90 : Int32) (y7_181 : Int32) (x14_336 : Int32) (I_387 : ai_I) : Option ((Int32 × Int32 × Int32 × Int32 × ai_I) ⊕ (Int32 × Int32 × Int32 × ai_I)) :=
  m_129_j422 w4_56 v6_90 v10_90 y7_181 x14_336 (nI 1) I_387
def m_129_j402 (w4_56 : Int32) (t0_78 : Int32) (v6_90 : Int32) (v10_90 : Int32) (y7_181 : Int32) (x14_336 : Int32) (r_387 : Int32) (I_387 : ai_I) (t1_402 : Int32) : Option ((Int32 × Int32 × Int32 × Int32 × ai_I) ⊕ (Int32 × Int32 × Int32 × ai_I)) :=
  if r_387 = t1_402 then (if t0_78 = 0 then (m_129_j417 w4_56 v6_90 v10_90 y7_181 x14_336 I_387) else (if x14_336 = w4_56 then (m_129_j417 w4_56 v6_90 v10_90 y7_181 x14_336 I_387) else (m_129_j421 w4_56 v6_90 v10_90 y7_181 x14_336 I_387))) else (m_129_j421 w4_56 v6_90 v10_90 y7_181 x14_336 I_387)
def m_129_x192_325 (a0 : Nat) (a1 : Int32) (a2 : Nat) (a3 : Nat) (Rf : ai_R) (w4_56 : Int32) (t0_78 : Int32) (G_83 : ai_G) (v6_90 : Int32) (v10_90 : Int32) (y5_181 : Int32) (y7_181 : Int32) (I_181 : ai_I) (w11_325 : Int32) (w12_325 : Int32) : Option ((Int32 × Int32 × Int32 × Int32 × ai_I) ⊕ (Int32 × Int32 × Int32 × ai_I)) :=
  o_g (o_in G_83 13 a2 w11_325) (o_b1 (m_124 a3 w11_325 I_181 G_83) (fun r_332 => o_b1 (some ((I_181 a2 w11_325.toNatClampNeg) + r_332)) (fun x14_336 => if y5_181 = 0 then (m_129_j421 w4_56 v6_90 v10_90 y7_181 x14_336 I_181) else (o_g (o_kd G_83 a0 10) (o_b2 (m_105 a0 a1 v10_90 (nI 0) I_181 Rf G_83) (fun r_348 I_348 => if r_348 = w11_325 then (o_b2 (m_105 a0 a1 v10_90 (nI 1) I_348 Rf G_83) (fun r_361 I_361 => if r_361 = x14_336 then (o_b2 (m_105 a0 a1 v10_90 (nI 2) I_361 Rf G_83) (fun r_374 I_374 => if r_374 = w12_325 then (o_b2 (m_105 a0 a1 v10_90 (nI 3) I_374 Rf G_83) (fun r_387 I_387 => if x14_336 = w4_56 then (m_129_j402 w4_56 t0_78 v6_90 v10_90 y7_181 x14_336 r_387 I_387 (nI 1)) else (m_129_j402 w4_56 t0_78 v6_90 v10_90 y7_181 x14_336 r_387 I_387 (nI 0)))) else (m_129_j421 w4_56 v6_90 v10_90 y7_181 x14_336 I_374))) else (m_129_j421 w4_56 v6_90 v10_90 y7_181 x14_336 I_361))) else (m_129_j421 w4_56 v6_90 v10_90 y7_181 x14_336 I_348)))))))
def m_129_x212_322 (v13_192 : Int32) (x12_201 : Int32) (w13_322 : Int32) : Option ((Int32 × Int32 × Int32) ⊕ (Int32 × Int32)) :=
  some (Sum.inl (v13_192, x12_201, w13_322))
def m_129_j245 (a2 : Nat) (a3 : Nat) (G_83 : ai_G) (I_181 : ai_I) (v13_192 : Int32) (v13_212 : Int32) (v14_212 : Int32) (t0_245 : Int32) : Option ((Int32 × Int32) ⊕ Int32) :=
  if t0_245 = 0 then (o_b1 (some (v14_212 + (-1 : Int32))) (fun x14_316 => some (Sum.inl (v13_212, x14_316)))) else (o_g (o_in G_83 13 a2 v14_212) (o_b1 (m_124 a3 v14_212 I_181 G_83) (fun r_259 => o_g (o_in G_83 13 a2 v13_192) (o_b1 (m_124 a3 v13_192 I_181 G_83) (fun r_270 => if ((I_181 a2 v14_212.toNatClampNeg) + r_259) ≤ ((I_181 a2 v13_192.toNatClampNeg) + r_270) then (o_b1 (some (v14_212 + (-1 : Int32))) (fun x14_316 => some (Sum.inl (v13_212, x14_316)))) else (if v13_212 < 0 then (o_b1 (some (v14_212 + (-1 : Int32))) (fun x14_316 => some (Sum.inl (v14_212, x14_316)))) else (o_g (o_in G_83 13 a2 v14_212) (o_b1 (m_124 a3 v14_212 I_181 G_83) (fun r_289 => o_g (o_in G_83 13 a2 v13_212) (o_b1 (m_124 a3 v13_212 I_181 G_83) (fun r_300 => if ((I_181 a2 v14_212.toNatClampNeg) + r_289) < ((I_181 a2 v13_212.toNatClampNeg) + r_300) then (o_b1 (some (v14_212 + (-1 : Int32))) (fun x14_316 => some (Sum.inl (v13_212, x14_316)))) else (o_b1 (some (v14_212 + (-1 : Int32))) (fun x14_316 => some (Sum.inl (v14_212, x14_316)))))))))))))))
def m_129_j244 (a2 : Nat) (a3 : Nat) (G_83 : ai_G) (I_181 : ai_I) (v13_192 : Int32) (v13_212 : Int32) (v14_212 : Int32) : Option ((Int32 × Int32) ⊕ Int32) :=
  m_129_j245 a2 a3 G_83 I_181 v13_192 v13_212 v14_212 (nI 0)
def m_129_b212 (a2 : Nat) (a3 : Nat) (G_83 : ai_G) (I_181 : ai_I) (v13_192 : Int32) (v13_212 : Int32) (v14_212 : Int32) : Option ((Int32 × Int32) ⊕ Int32) :=
  if v14_212 < 0 then (some (Sum.inr v13_212)) else (o_b1 (m_126 a2 v14_212 I_181 G_83) (fun r_220 => if r_220 = 0 then (m_129_j244 a2 a3 G_83 I_181 v13_192 v13_212 v14_212) else (o_b1 (m_115 (v14_212 &&& (v13_192 ^^^ (-1 : Int32)))) (fun r_233 => if r_233 = (nI 1) then (m_129_j245 a2 a3 G_83 I_181 v13_192 v13_212 v14_212 (nI 1)) else (m_129_j244 a2 a3 G_83 I_181 v13_192 v13_212 v14_212)))))
def m_129_b192 (a2 : Nat) (a3 : Nat) (G_83 : ai_G) (I_181 : ai_I) (v11_192 : Int32) (v12_192 : Int32) (v13_192 : Int32) : Option ((Int32 × Int32 × Int32) ⊕ (Int32 × Int32)) :=
  if v13_192 < 0 then (some (Sum.inr (v11_192, v12_192))) else (o_b1 (some (v12_192 + (nI 1))) (fun x12_201 => o_s1 (lp (fun s => m_129_b212 a2 a3 G_83 I_181 v13_192 s.1 s.2) o_N ((-1 : Int32), (nI 255))) (fun t => m_129_x212_322 v13_192 x12_201 t)))
def m_129_j181 (a0 : Nat) (a1 : Int32) (a2 : Nat) (a3 : Nat) (Rf : ai_R) (w4_56 : Int32) (t0_78 : Int32) (G_83 : ai_G) (v6_90 : Int32) (v10_90 : Int32) (y5_181 : Int32) (y7_181 : Int32) (I_181 : ai_I) : Option ((Int32 × Int32 × Int32 × Int32 × ai_I) ⊕ (Int32 × Int32 × Int32 × ai_I)) :=
  o_s1 (lp (fun s => m_129_b192 a2 a3 G_83 I_181 s.1 s.2.1 s.2.2) o_N (v10_90, (-1 : Int32), v10_90)) (fun t => m_129_x192_325 a0 a1 a2 a3 Rf w4_56 t0_78 G_83 v6_90 v10_90 y5_181 y7_181 I_181 t.1 t.2)
def m_129_j176 (a0 : Nat) (a1 : Int32) (a2 : Nat) (a3 : Nat) (Rf : ai_R) (w4_56 : Int32) (t0_78 : Int32) (G_83 : ai_G) (v6_90 : Int32) (v7_90 : Int32) (v10_90 : Int32) (t0_176 : Int32) (I_176 : ai_I) : Option ((Int32 × Int32 × Int32 × Int32 × ai_I) ⊕ (Int32 × Int32 × Int32 × ai_I)) :=
  o_b1 (some (v7_90 + (nI 1))) (fun x7_178 => m_129_j181 a0 a1 a2 a3 Rf w4_56 t0_78 G_83 v6_90 v10_90 t0_176 x7_178 I_176)
def m_129_j175 (a0 : Nat) (a1 : Int32) (a2 : Nat) (a3 : Nat) (Rf : ai_R) (w4_56 : Int32) (t0_78 : Int32) (G_83 : ai_G) (v6_90 : Int32) (v7_90 : Int32) (v10_90 : Int32) (I_175 : ai_I) : Option ((Int32 × Int32 × Int32 × Int32 × ai_I) ⊕ (Int32 × Int32 × Int32 × ai_I)) :=
  m_129_j176 a0 a1 a2 a3 Rf w4_56 t0_78 G_83 v6_90 v7_90 v10_90 (nI 0) I_175
def m_129_j133 (a0 : Nat) (a1 : Int32) (a2 : Nat) (a3 : Nat) (Rf : ai_R) (w4_56 : Int32) (t0_78 : Int32) (G_83 : ai_G) (n_83 : Nat) (v5_90 : Int32) (v6_90 : Int32) (v7_90 : Int32) (v10_90 : Int32) (I_90 : ai_I) (t2_133 : Int32) : Option ((Int32 × Int32 × Int32 × Int32 × ai_I) ⊕ (Int32 × Int32 × Int32 × ai_I)) :=
  o_g (o_in G_83 13 n_83 v10_90) (o_b1 (some (va_up I_90 n_83 (va_up (I_90 n_83) v10_90.toNatClampNeg t2_133))) (fun I_133 => o_b1 (m_126 a2 v10_90 I_133 G_83) (fun r_137 => if r_137 = 0 then (o_b1 (some (v10_90 + (nI 1))) (fun x10_441 => some (Sum.inl (v5_90, v6_90, v7_90, x10_441, I_133)))) else (o_g (o_in G_83 13 n_83 v10_90) (if (I_133 n_83 v10_90.toNatClampNeg) = 0 then (if v5_90 = 0 then (m_129_j175 a0 a1 a2 a3 Rf w4_56 t0_78 G_83 v6_90 v7_90 v10_90 I_133) else (o_g (o_kd G_83 a0 10) (o_b2 (m_107 a0 a1 ((nI 10) + v7_90) I_133 Rf G_83) (fun r_163 I_163 => if r_163 = v10_90 then (m_129_j176 a0 a1 a2 a3 Rf w4_56 t0_78 G_83 v6_90 v7_90 v10_90 (nI 1) I_163) else (m_129_j175 a0 a1 a2 a3 Rf w4_56 t0_78 G_83 v6_90 v7_90 v10_90 I_163))))) else (m_129_j181 a0 a1 a2 a3 Rf w4_56 t0_78 G_83 v6_90 v10_90 v5_90 v7_90 I_133))))))
def m_129_j131 (a0 : Nat) (a1 : Int32) (a2 : Nat) (a3 : Nat) (Rf : ai_R) (w4_56 : Int32) (t0_78 : Int32) (G_83 : ai_G) (n_83 : Nat) (v5_90 : Int32) (v6_90 : Int32) (v7_90 : Int32) (v10_90 : Int32) (I_90 : ai_I) : Option ((Int32 × Int32 × Int32 × Int32 × ai_I) ⊕ (Int32 × Int32 × Int32 × ai_I)) :=
  m_129_j133 a0 a1 a2 a3 Rf w4_56 t0_78 G_83 n_83 v5_90 v6_90 v7_90 v10_90 I_90 (-2147483648 : Int32)
def m_129_b90 (a0 : Nat) (a1 : Int32) (a2 : Nat) (a3 : Nat) (Rf : ai_R) (w4_56 : Int32) (t0_78 : Int32) (G_83 : ai_G) (n_83 : Nat) (v5_90 : Int32) (v6_90 : Int32) (v7_90 : Int32) (v10_90 : Int32) (I_90 : ai_I) : Option ((Int32 × Int32 × Int32 × Int32 × ai_I) ⊕ (Int32 × Int32 × Int32 × ai_I)) :=
  if (nI 256) ≤ v10_90 then (some (Sum.inr (v5_90, v6_90, v7_90, I_90))) else (o_b1 (m_126 a2 v10_90 I_90 G_83) (fun r_105 => if r_105 = 0 then (m_129_j131 a0 a1 a2 a3 Rf w4_56 t0_78 G_83 n_83 v5_90 v6_90 v7_90 v10_90 I_90) else (o_g (o_in G_83 13 a2 v10_90) (o_b1 (m_124 a3 v10_90 I_90 G_83) (fun r_118 => if ((I_90 a2 v10_90.toNatClampNeg) + r_118) = w4_56 then (m_129_j133 a0 a1 a2 a3 Rf w4_56 t0_78 G_83 n_83 v5_90 v6_90 v7_90 v10_90 I_90 (nI 0)) else (m_129_j131 a0 a1 a2 a3 Rf w4_56 t0_78 G_83 n_83 v5_90 v6_90 v7_90 v10_90 I_90))))))
def m_129_j78 (a0 : Nat) (a1 : Int32) (a2 : Nat) (a3 : Nat) (Rf : ai_R) (G : ai_G) (w4_56 : Int32) (I_66 : ai_I) (t0_78 : Int32) : Option (Int32 × ai_I × ai_G) :=
  o_g (o_lt9 G) (o_b1 (some (va_up I_66 (G.2.2 + 1) (fun _ => 0))) (fun I_83 => o_b1 (some (va_up G.1 (G.2.2 + 1) 13, va_up G.2.1 (G.2.2 + 1) 256, G.2.2 + 1)) (fun G_83 => o_b1 (some (G.2.2 + 1)) (fun n_83 => o_s1 (lp (fun s => m_129_b90 a0 a1 a2 a3 Rf w4_56 t0_78 G_83 n_83 s.1 s.2.1 s.2.2.1 s.2.2.2.1 s.2.2.2.2) o_N ((nI 1), (nI 0), (nI 0), (nI 0), I_83)) (fun t => m_129_x90_447 a0 a1 Rf w4_56 t0_78 G_83 n_83 t.1 t.2.1 t.2.2.1 t.2.2.2)))))
def m_129_x10_56 (a0 : Nat) (a1 : Int32) (a2 : Nat) (a3 : Nat) (I : ai_I) (Rf : ai_R) (G : ai_G) (w4_56 : Int32) : Option (Int32 × ai_I × ai_G) :=
  o_g (o_kd G a0 10) (o_b2 (m_100 a0 a1 (nI 7) I Rf G) (fun r_66 I_66 => if r_66 = (nI 1) then (m_129_j78 a0 a1 a2 a3 Rf G w4_56 I_66 (nI 1)) else (m_129_j78 a0 a1 a2 a3 Rf G w4_56 I_66 (nI 0))))
def m_129_b10 (a2 : Nat) (a3 : Nat) (I : ai_I) (G : ai_G) (v4_10 : Int32) (v6_10 : Int32) : Option ((Int32 × Int32) ⊕ Int32) :=
  if (nI 256) ≤ v6_10 then (some (Sum.inr v4_10)) else (o_b1 (m_126 a2 v6_10 I G) (fun r_21 => if r_21 = 0 then (o_b1 (some (v6_10 + (nI 1))) (fun x6_50 => some (Sum.inl (v4_10, x6_50)))) else (o_g (o_in G 13 a2 v6_10) (o_b1 (m_124 a3 v6_10 I G) (fun r_36 => o_b1 (some (if v4_10 < ((I a2 v6_10.toNatClampNeg) + r_36) then ((I a2 v6_10.toNatClampNeg) + r_36) else v4_10)) (fun r_40 => o_b1 (some (v6_10 + (nI 1))) (fun x6_50 => some (Sum.inl (r_40, x6_50)))))))))
/-- PricedBasesLaw.greedy(LPricedBases;I[I[I)Z -/
def m_129 (a0 : Nat) (a1 : Int32) (a2 : Nat) (a3 : Nat) (I : ai_I) (Rf : ai_R) (G : ai_G) : Option (Int32 × ai_I × ai_G) :=
  o_s1 (lp (fun s => m_129_b10 a2 a3 I G s.1 s.2) o_N ((-99999999 : Int32), (nI 0))) (fun t => m_129_x10_56 a0 a1 a2 a3 I Rf G t)
set_option maxHeartbeats 20000000 in
set_option maxRecDepth 100000 in
theorem md_129 {d : Nat} {I : ai_I} {J : ai_J} {Rf : ai_R} {G : ai_G} {a0 : Nat} {a1 : Int32} {a2 : Nat} {a3 : Nat} {r : Int32} {I1 : ai_I} {G1 : ai_G} (hd : 6 ≤ d) (h : m_129 a0 a1 a2 a3 I Rf G = some (r, I1, G1)) : ai_Cl si_t si_ms d 129 [.inr (.inr a0), .inl a1, .inr (.inr a2), .inr (.inr a3)] I J Rf G (some (.inl r)) I1 J Rf G1 := by
  obtain ⟨e, rfl⟩ : ∃ e, d = e + 1 := ⟨d - 1, by omega⟩
  unfold m_129 at h
  refine sp_in (lo := [some (.inr (.inr a0)), some (.inl a1), some (.inr (.inr a2)), some (.inr (.inr a3)), none, none, none, none, none, none, none, none, none, none, none, none]) (B := (1, 256)) rfl (Nat.le_of_ble_eq_true rfl) rfl rfl ?_
  refine go_ldc (pc' := 2) (v := .inl (-99999999 : Int32)) rfl rfl rfl ?_
  refine go_istore (pc' := 4) (lo' := [some (.inr (.inr a0)), some (.inl a1), some (.inr (.inr a2)), some (.inr (.inr a3)), some (.inl (-99999999 : Int32)), none, none, none, none, none, none, none, none, none, none, none]) rfl rfl rfl ?_
  refine go_iconst (pc' := 5) (v := (nI 1)) rfl rfl rfl ?_
  refine go_istore (pc' := 7) (lo' := [some (.inr (.inr a0)), some (.inl a1), some (.inr (.inr a2)), some (.inr (.inr a3)), some (.inl (-99999999 : Int32)), some (.inl (nI 1)), none, none, none, none, none, none, none, none, none, none]) rfl rfl rfl ?_
  refine go_iconst (pc' := 8) (v := (nI 0)) rfl rfl rfl ?_
  refine go_istore (pc' := 10) (lo' := [some (.inr (.inr a0)), some (.inl a1), some (.inr (.inr a2)), some (.inr (.inr a3)), some (.inl (-99999999 : Int32)), some (.inl (nI 1)), some (.inl (nI 0)), none, none, none, none, none, none, none, none, none]) rfl rfl rfl ?_
  obtain ⟨q10, hl10, hc10_56⟩ := o_s1E h
  have ex10_56 : ∀ (w4_56 : Int32) (z6_x56 : Option ai_V) (h_z6_x56 : ai_isL z6_x56 = false), w4_56 = q10 → ai_Go si_t (23, false, 3, cd_129) (ai_Cl si_t si_ms e) (sp_Q (some (.inl r)) I1 J Rf G1) 56 [some (.inr (.inr a0)), some (.inl a1), some (.inr (.inr a2)), some (.inr (.inr a3)), some (.inl w4_56), some (.inl (nI 1)), z6_x56, none, none, none, none, none, none, none, none, none] [] (1, 256) I J Rf G := by
    intro w4_56 z6_x56 h_z6_x56 hq
    have h : m_129_x10_56 a0 a1 a2 a3 I Rf G w4_56 = some (r, I1, G1) := hc10_56 w4_56 hq.symm
    unfold m_129_x10_56 at h
    refine go_iconst (pc' := 57) (v := (nI 0)) rfl rfl rfl ?_
    refine go_istore (pc' := 59) (lo' := [some (.inr (.inr a0)), some (.inl a1), some (.inr (.inr a2)), some (.inr (.inr a3)), some (.inl w4_56), some (.inl (nI 1)), some (.inl (nI 0)), none, none, none, none, none, none, none, none, none]) rfl rfl rfl ?_
    refine go_iconst (pc' := 60) (v := (nI 0)) rfl rfl rfl ?_
    refine go_istore (pc' := 62) (lo' := [some (.inr (.inr a0)), some (.inl a1), some (.inr (.inr a2)), some (.inr (.inr a3)), some (.inl w4_56), some (.inl (nI 1)), some (.inl (nI 0)), some (.inl (nI 0)), none, none, none, none, none, none, none, none]) rfl rfl rfl ?_
    refine go_aload_n (pc' := 63) rfl rfl rfl ?_
    refine go_iload_n (pc' := 64) rfl rfl rfl ?_
    refine go_bipush (pc' := 66) (v := (nI 7)) rfl rfl rfl ?_
    obtain ⟨g0, h⟩ := o_gE h
    obtain ⟨r_66, I_66, q_66, h⟩ := o_b2E h
    refine go_callV (pc' := 69) (B' := (1, 256)) (st' := [.inl r_66]) rfl rfl (Or.inl (by decide)) rfl rfl (o_kdE g0) (md_100 (by omega) (o_kdE g0) q_66) rfl rfl rfl ?_
    refine go_iconst (pc' := 70) (v := (nI 1)) rfl rfl rfl ?_
    have jn78 : ∀ (t0_78 : Int32), m_129_j78 a0 a1 a2 a3 Rf G w4_56 I_66 t0_78 = some (r, I1, G1) → ai_Go si_t (23, false, 3, cd_129) (ai_Cl si_t si_ms e) (sp_Q (some (.inl r)) I1 J Rf G1) 78 [some (.inr (.inr a0)), some (.inl a1), some (.inr (.inr a2)), some (.inr (.inr a3)), some (.inl w4_56), some (.inl (nI 1)), some (.inl (nI 0)), some (.inl (nI 0)), none, none, none, none, none, none, none, none] [.inl t0_78] (1, 256) I_66 J Rf G := by
      intro t0_78 h
      unfold m_129_j78 at h
      refine go_istore (pc' := 80) (lo' := [some (.inr (.inr a0)), some (.inl a1), some (.inr (.inr a2)), some (.inr (.inr a3)), some (.inl w4_56), some (.inl (nI 1)), some (.inl (nI 0)), some (.inl (nI 0)), some (.inl t0_78), none, none, none, none, none, none, none]) rfl rfl rfl ?_
      refine go_sipush (pc' := 83) (v := (nI 256)) rfl rfl rfl ?_
      obtain ⟨g1, h⟩ := o_gE h
      refine go_newI (pc' := 85) (N := 256) rfl (by decide) (by decide) (by decide) (by decide) (by decide) (o_lt9E g1) rfl ?_
      obtain ⟨I_83, eI_83, h⟩ := o_b1E h
      obtain ⟨G_83, eG_83, h⟩ := o_b1E h
      obtain ⟨n_83, en_83, h⟩ := o_b1E h
      refine go_ndMI eI_83 ?_
      refine go_ndMG eG_83 ?_
      refine go_ndR en_83 ?_
      refine go_ndB (B' := (0, 0)) rfl ?_
      refine go_astore (pc' := 87) (lo' := [some (.inr (.inr a0)), some (.inl a1), some (.inr (.inr a2)), some (.inr (.inr a3)), some (.inl w4_56), some (.inl (nI 1)), some (.inl (nI 0)), some (.inl (nI 0)), some (.inl t0_78), some (.inr (.inr n_83)), none, none, none, none, none, none]) rfl rfl rfl ?_
      refine go_iconst (pc' := 88) (v := (nI 0)) rfl rfl rfl ?_
      refine go_istore (pc' := 90) (lo' := [some (.inr (.inr a0)), some (.inl a1), some (.inr (.inr a2)), some (.inr (.inr a3)), some (.inl w4_56), some (.inl (nI 1)), some (.inl (nI 0)), some (.inl (nI 0)), some (.inl t0_78), some (.inr (.inr n_83)), some (.inl (nI 0)), none, none, none, none, none]) rfl rfl rfl ?_
      obtain ⟨q90, hl90, hc90_447⟩ := o_s1E h
      have ex90_447 : ∀ (w5_447 : Int32) (w6_447 : Int32) (w7_447 : Int32) (Ix_447 : ai_I) (z10_x447 : Option ai_V) (h_z10_x447 : ai_isL z10_x447 = false) (z11_x447 : Option ai_V) (h_z11_x447 : ai_isL z11_x447 = false) (z12_x447 : Option ai_V) (h_z12_x447 : ai_isL z12_x447 = false) (z13_x447 : Option ai_V) (h_z13_x447 : ai_isL z13_x447 = false) (z14_x447 : Option ai_V) (h_z14_x447 : ai_isL z14_x447 = false) (z15_x447 : Option ai_V) (h_z15_x447 : ai_isL z15_x447 = false), (w5_447, w6_447, w7_447, Ix_447) = q90 → ai_Go si_t (23, false, 3, cd_129) (ai_Cl si_t si_ms e) (sp_Q (some (.inl r)) I1 J Rf G1) 447 [some (.inr (.inr a0)), some (.inl a1), some (.inr (.inr a2)), some (.inr (.inr a3)), some (.inl w4_56), some (.inl w5_447), some (.inl w6_447), some (.inl w7_447), some (.inl t0_78), some (.inr (.inr n_83)), z10_x447, z11_x447, z12_x447, z13_x447, z14_x447, z15_x447] [] (0, 0) Ix_447 J Rf G_83 := by
        intro w5_447 w6_447 w7_447 Ix_447 z10_x447 h_z10_x447 z11_x447 h_z11_x447 z12_x447 h_z12_x447 z13_x447 h_z13_x447 z14_x447 h_z14_x447 z15_x447 h_z15_x447 hq
        have h : m_129_x90_447 a0 a1 Rf w4_56 t0_78 G_83 n_83 w5_447 w6_447 w7_447 Ix_447 = some (r, I1, G1) := hc90_447 (w5_447, w6_447, w7_447, Ix_447) hq.symm
        unfold m_129_x90_447 at h
        refine go_iconst (pc' := 448) (v := (nI 1)) rfl rfl rfl ?_
        refine go_istore (pc' := 450) (lo' := [some (.inr (.inr a0)), some (.inl a1), some (.inr (.inr a2)), some (.inr (.inr a3)), some (.inl w4_56), some (.inl w5_447), some (.inl w6_447), some (.inl w7_447), some (.inl t0_78), some (.inr (.inr n_83)), some (.inl (nI 1)), z11_x447, z12_x447, z13_x447, z14_x447, z15_x447]) rfl rfl rfl ?_
        refine go_iconst (pc' := 451) (v := (nI 0)) rfl rfl rfl ?_
        refine go_istore (pc' := 453) (lo' := [some (.inr (.inr a0)), some (.inl a1), some (.inr (.inr a2)), some (.inr (.inr a3)), some (.inl w4_56), some (.inl w5_447), some (.inl w6_447), some (.inl w7_447), some (.inl t0_78), some (.inr (.inr n_83)), some (.inl (nI 1)), some (.inl (nI 0)), z12_x447, z13_x447, z14_x447, z15_x447]) rfl rfl rfl ?_
        obtain ⟨q453, hl453, hc453_563⟩ := o_s1E h
        have ex453_563 : ∀ (w10_563 : Int32) (z11_x563 : Option ai_V) (h_z11_x563 : ai_isL z11_x563 = false) (z12_x563 : Option ai_V) (h_z12_x563 : ai_isL z12_x563 = false) (z13_x563 : Option ai_V) (h_z13_x563 : ai_isL z13_x563 = false), w10_563 = q453 → ai_Go si_t (23, false, 3, cd_129) (ai_Cl si_t si_ms e) (sp_Q (some (.inl r)) I1 J Rf G1) 563 [some (.inr (.inr a0)), some (.inl a1), some (.inr (.inr a2)), some (.inr (.inr a3)), some (.inl w4_56), some (.inl w5_447), some (.inl w6_447), some (.inl w7_447), some (.inl t0_78), some (.inr (.inr n_83)), some (.inl w10_563), z11_x563, z12_x563, z13_x563, z14_x447, z15_x447] [] (0, 0) Ix_447 J Rf G_83 := by
          intro w10_563 z11_x563 h_z11_x563 z12_x563 h_z12_x563 z13_x563 h_z13_x563 hq
          have h : m_129_x453_563 a0 a1 Rf w4_56 t0_78 G_83 w5_447 w6_447 w7_447 Ix_447 w10_563 = some (r, I1, G1) := hc453_563 w10_563 hq.symm
          unfold m_129_x453_563 at h
          refine go_iload (pc' := 565) rfl rfl rfl ?_
          refine go_if_eq (pt := 648) (pc' := 568) rfl rfl rfl (fun h565 => ?_) (fun h565 => ?_)
          · replace h := o_t h565 h
            refine go_iconst (pc' := 649) (v := (nI 0)) rfl rfl rfl ?_
            cases h
            exact go_iret rfl (rfl) ⟨rfl, rfl, rfl, rfl, rfl⟩
          · replace h := o_f h565 h
            refine go_aload_n (pc' := 569) rfl rfl rfl ?_
            refine go_iload_n (pc' := 570) rfl rfl rfl ?_
            obtain ⟨g2, h⟩ := o_gE h
            obtain ⟨r_570, I_570, q_570, h⟩ := o_b2E h
            refine go_callV (pc' := 573) (B' := (0, 0)) (st' := [.inl r_570]) rfl rfl (Or.inl (by decide)) rfl rfl (o_kdE g2) (md_106 (by omega) (o_kdE g2) q_570) rfl rfl rfl ?_
            refine go_iload (pc' := 575) rfl rfl rfl ?_
            refine go_icmp_ne (pt := 648) (pc' := 578) rfl rfl rfl (fun h575 => ?_) (fun h575 => ?_)
            · replace h := o_f h575 h
              refine go_iconst (pc' := 649) (v := (nI 0)) rfl rfl rfl ?_
              cases h
              exact go_iret rfl (rfl) ⟨rfl, rfl, rfl, rfl, rfl⟩
            · replace h := o_t (Decidable.of_not_not h575) h
              refine go_aload_n (pc' := 579) rfl rfl rfl ?_
              refine go_iload_n (pc' := 580) rfl rfl rfl ?_
              refine go_iconst (pc' := 581) (v := (nI 0)) rfl rfl rfl ?_
              obtain ⟨r_581, I_581, q_581, h⟩ := o_b2E h
              refine go_callV (pc' := 584) (B' := (0, 0)) (st' := [.inl r_581]) rfl rfl (Or.inl (by decide)) rfl rfl (o_kdE g2) (md_107 (by omega) (o_kdE g2) q_581) rfl rfl rfl ?_
              refine go_iload (pc' := 586) rfl rfl rfl ?_
              refine go_icmp_ne (pt := 648) (pc' := 589) rfl rfl rfl (fun h586 => ?_) (fun h586 => ?_)
              · replace h := o_f h586 h
                refine go_iconst (pc' := 649) (v := (nI 0)) rfl rfl rfl ?_
                cases h
                exact go_iret rfl (rfl) ⟨rfl, rfl, rfl, rfl, rfl⟩
              · replace h := o_t (Decidable.of_not_not h586) h
                refine go_aload_n (pc' := 590) rfl rfl rfl ?_
                refine go_iload_n (pc' := 591) rfl rfl rfl ?_
                refine go_iconst (pc' := 592) (v := (nI 1)) rfl rfl rfl ?_
                obtain ⟨r_592, I_592, q_592, h⟩ := o_b2E h
                refine go_callV (pc' := 595) (B' := (0, 0)) (st' := [.inl r_592]) rfl rfl (Or.inl (by decide)) rfl rfl (o_kdE g2) (md_107 (by omega) (o_kdE g2) q_592) rfl rfl rfl ?_
                refine go_iload (pc' := 597) rfl rfl rfl ?_
                refine go_icmp_ne (pt := 648) (pc' := 600) rfl rfl rfl (fun h597 => ?_) (fun h597 => ?_)
                · replace h := o_f h597 h
                  refine go_iconst (pc' := 649) (v := (nI 0)) rfl rfl rfl ?_
                  cases h
                  exact go_iret rfl (rfl) ⟨rfl, rfl, rfl, rfl, rfl⟩
                · replace h := o_t (Decidable.of_not_not h597) h
                  refine go_aload_n (pc' := 601) rfl rfl rfl ?_
                  refine go_iload_n (pc' := 602) rfl rfl rfl ?_
                  refine go_iconst (pc' := 603) (v := (nI 2)) rfl rfl rfl ?_
                  obtain ⟨r_603, I_603, q_603, h⟩ := o_b2E h
                  refine go_callV (pc' := 606) (B' := (0, 0)) (st' := [.inl r_603]) rfl rfl (Or.inl (by decide)) rfl rfl (o_kdE g2) (md_107 (by omega) (o_kdE g2) q_603) rfl rfl rfl ?_
                  refine go_iload (pc' := 608) rfl rfl rfl ?_
                  have jn616 : ∀ (t1_616 : Int32) (z11_616 : Option ai_V) (h_z11_616 : ai_isL z11_616 = false) (z12_616 : Option ai_V) (h_z12_616 : ai_isL z12_616 = false) (z13_616 : Option ai_V) (h_z13_616 : ai_isL z13_616 = false) (z14_616 : Option ai_V) (h_z14_616 : ai_isL z14_616 = false) (z15_616 : Option ai_V) (h_z15_616 : ai_isL z15_616 = false), m_129_j616 a0 a1 Rf t0_78 G_83 w7_447 w10_563 r_603 I_603 t1_616 = some (r, I1, G1) → ai_Go si_t (23, false, 3, cd_129) (ai_Cl si_t si_ms e) (sp_Q (some (.inl r)) I1 J Rf G1) 616 [some (.inr (.inr a0)), some (.inl a1), some (.inr (.inr a2)), some (.inr (.inr a3)), some (.inl w4_56), some (.inl w5_447), some (.inl w6_447), some (.inl w7_447), some (.inl t0_78), some (.inr (.inr n_83)), some (.inl w10_563), z11_616, z12_616, z13_616, z14_616, z15_616] [.inl t1_616, .inl r_603] (0, 0) I_603 J Rf G_83 := by
                    intro t1_616 z11_616 h_z11_616 z12_616 h_z12_616 z13_616 h_z13_616 z14_616 h_z14_616 z15_616 h_z15_616 h
                    unfold m_129_j616 at h
                    refine go_icmp_ne (pt := 648) (pc' := 619) rfl rfl rfl (fun h616 => ?_) (fun h616 => ?_)
                    · replace h := o_f h616 h
                      refine go_iconst (pc' := 649) (v := (nI 0)) rfl rfl rfl ?_
                      cases h
                      exact go_iret rfl (rfl) ⟨rfl, rfl, rfl, rfl, rfl⟩
                    · replace h := o_t (Decidable.of_not_not h616) h
                      refine go_iload (pc' := 621) rfl rfl rfl ?_
                      have jn629 : ∀ (z11_629 : Option ai_V) (h_z11_629 : ai_isL z11_629 = false) (z12_629 : Option ai_V) (h_z12_629 : ai_isL z12_629 = false) (z13_629 : Option ai_V) (h_z13_629 : ai_isL z13_629 = false) (z14_629 : Option ai_V) (h_z14_629 : ai_isL z14_629 = false) (z15_629 : Option ai_V) (h_z15_629 : ai_isL z15_629 = false), m_129_j629 a0 a1 Rf G_83 w7_447 I_603 = some (r, I1, G1) → ai_Go si_t (23, false, 3, cd_129) (ai_Cl si_t si_ms e) (sp_Q (some (.inl r)) I1 J Rf G1) 629 [some (.inr (.inr a0)), some (.inl a1), some (.inr (.inr a2)), some (.inr (.inr a3)), some (.inl w4_56), some (.inl w5_447), some (.inl w6_447), some (.inl w7_447), some (.inl t0_78), some (.inr (.inr n_83)), some (.inl w10_563), z11_629, z12_629, z13_629, z14_629, z15_629] [] (0, 0) I_603 J Rf G_83 := by
                        intro z11_629 h_z11_629 z12_629 h_z12_629 z13_629 h_z13_629 z14_629 h_z14_629 z15_629 h_z15_629 h
                        unfold m_129_j629 at h
                        refine go_aload_n (pc' := 630) rfl rfl rfl ?_
                        refine go_iload_n (pc' := 631) rfl rfl rfl ?_
                        refine go_bipush (pc' := 633) (v := (nI 10)) rfl rfl rfl ?_
                        refine go_iload (pc' := 635) rfl rfl rfl ?_
                        refine go_iadd (pc' := 636) rfl rfl ?_
                        obtain ⟨r_636, I_636, q_636, h⟩ := o_b2E h
                        refine go_callV (pc' := 639) (B' := (0, 0)) (st' := [.inl r_636]) rfl rfl (Or.inl (by decide)) rfl rfl (o_kdE g2) (md_107 (by omega) (o_kdE g2) q_636) rfl rfl rfl ?_
                        refine go_bipush (pc' := 641) (v := (-4 : Int32)) rfl rfl rfl ?_
                        refine go_icmp_ne (pt := 648) (pc' := 644) rfl rfl rfl (fun h641 => ?_) (fun h641 => ?_)
                        · replace h := o_f h641 h
                          refine go_iconst (pc' := 649) (v := (nI 0)) rfl rfl rfl ?_
                          cases h
                          exact go_iret rfl (rfl) ⟨rfl, rfl, rfl, rfl, rfl⟩
                        · replace h := o_t (Decidable.of_not_not h641) h
                          refine go_iconst (pc' := 645) (v := (nI 1)) rfl rfl rfl ?_
                          refine go_goto (pc' := 649) rfl rfl ?_
                          cases h
                          exact go_iret rfl (rfl) ⟨rfl, rfl, rfl, rfl, rfl⟩
                      refine go_if_eq (pt := 629) (pc' := 624) rfl rfl rfl (fun h621 => ?_) (fun h621 => ?_)
                      · replace h := o_t h621 h
                        exact jn629 z11_616 h_z11_616 z12_616 h_z12_616 z13_616 h_z13_616 z14_616 h_z14_616 z15_616 h_z15_616 h
                      · replace h := o_f h621 h
                        refine go_iload (pc' := 626) rfl rfl rfl ?_
                        refine go_if_eq (pt := 648) (pc' := 629) rfl rfl rfl (fun h626 => ?_) (fun h626 => ?_)
                        · replace h := o_t h626 h
                          refine go_iconst (pc' := 649) (v := (nI 0)) rfl rfl rfl ?_
                          cases h
                          exact go_iret rfl (rfl) ⟨rfl, rfl, rfl, rfl, rfl⟩
                        · replace h := o_f h626 h
                          exact jn629 z11_616 h_z11_616 z12_616 h_z12_616 z13_616 h_z13_616 z14_616 h_z14_616 z15_616 h_z15_616 h
                  refine go_if_eq (pt := 615) (pc' := 611) rfl rfl rfl (fun h608 => ?_) (fun h608 => ?_)
                  · replace h := o_t h608 h
                    refine go_iconst (pc' := 616) (v := (nI 0)) rfl rfl rfl ?_
                    exact jn616 (nI 0) z11_x563 h_z11_x563 z12_x563 h_z12_x563 z13_x563 h_z13_x563 z14_x447 h_z14_x447 z15_x447 h_z15_x447 h
                  · replace h := o_f h608 h
                    refine go_iconst (pc' := 612) (v := (nI 1)) rfl rfl rfl ?_
                    refine go_goto (pc' := 616) rfl rfl ?_
                    exact jn616 (nI 1) z11_x563 h_z11_x563 z12_x563 h_z12_x563 z13_x563 h_z13_x563 z14_x447 h_z14_x447 z15_x447 h_z15_x447 h
        have lo453 : ∀ n s, lp (fun s => m_129_b453 G_83 n_83 Ix_447 s.1 s.2) n s = some q453 → (fun s => ∀ (z12_453 : Option ai_V) (h_z12_453 : ai_isL z12_453 = false) (z13_453 : Option ai_V) (h_z13_453 : ai_isL z13_453 = false), ai_Go si_t (23, false, 3, cd_129) (ai_Cl si_t si_ms e) (sp_Q (some (.inl r)) I1 J Rf G1) 453 [some (.inr (.inr a0)), some (.inl a1), some (.inr (.inr a2)), some (.inr (.inr a3)), some (.inl w4_56), some (.inl w5_447), some (.inl w6_447), some (.inl w7_447), some (.inl t0_78), some (.inr (.inr n_83)), some (.inl s.1), some (.inl s.2), z12_453, z13_453, z14_x447, z15_x447] [] (0, 0) Ix_447 J Rf G_83) s := lp_go (fun s x453 hx hk453 => by
          obtain ⟨v10_453, v11_453⟩ := s
          intro z12_453 h_z12_453 z13_453 h_z13_453
          have h : m_129_b453 G_83 n_83 Ix_447 v10_453 v11_453 = some x453 := hx
          clear hx
          show ai_Go si_t (23, false, 3, cd_129) (ai_Cl si_t si_ms e) (sp_Q (some (.inl r)) I1 J Rf G1) 453 [some (.inr (.inr a0)), some (.inl a1), some (.inr (.inr a2)), some (.inr (.inr a3)), some (.inl w4_56), some (.inl w5_447), some (.inl w6_447), some (.inl w7_447), some (.inl t0_78), some (.inr (.inr n_83)), some (.inl v10_453), some (.inl v11_453), z12_453, z13_453, z14_x447, z15_x447] [] (0, 0) Ix_447 J Rf G_83
          unfold m_129_b453 at h
          refine go_iload (pc' := 455) rfl rfl rfl ?_
          refine go_sipush (pc' := 458) (v := (nI 256)) rfl rfl rfl ?_
          refine go_icmp_ge (pt := 563) (pc' := 461) rfl rfl rfl (fun h458 => ?_) (fun h458 => ?_)
          · replace h := o_t h458 h
            exact ex453_563 _ (some (.inl v11_453)) rfl z12_453 h_z12_453 z13_453 h_z13_453 (lp_exitE h hk453)
          · replace h := o_f h458 h
            refine go_iconst (pc' := 462) (v := (nI 0)) rfl rfl rfl ?_
            refine go_istore (pc' := 464) (lo' := [some (.inr (.inr a0)), some (.inl a1), some (.inr (.inr a2)), some (.inr (.inr a3)), some (.inl w4_56), some (.inl w5_447), some (.inl w6_447), some (.inl w7_447), some (.inl t0_78), some (.inr (.inr n_83)), some (.inl v10_453), some (.inl v11_453), some (.inl (nI 0)), z13_453, z14_x447, z15_x447]) rfl rfl rfl ?_
            obtain ⟨q464, hl464, hc464_557⟩ := o_s1E h
            have ex464_557 : ∀ (w10_557 : Int32) (z12_x557 : Option ai_V) (h_z12_x557 : ai_isL z12_x557 = false) (z13_x557 : Option ai_V) (h_z13_x557 : ai_isL z13_x557 = false), w10_557 = q464 → ai_Go si_t (23, false, 3, cd_129) (ai_Cl si_t si_ms e) (sp_Q (some (.inl r)) I1 J Rf G1) 557 [some (.inr (.inr a0)), some (.inl a1), some (.inr (.inr a2)), some (.inr (.inr a3)), some (.inl w4_56), some (.inl w5_447), some (.inl w6_447), some (.inl w7_447), some (.inl t0_78), some (.inr (.inr n_83)), some (.inl w10_557), some (.inl v11_453), z12_x557, z13_x557, z14_x447, z15_x447] [] (0, 0) Ix_447 J Rf G_83 := by
              intro w10_557 z12_x557 h_z12_x557 z13_x557 h_z13_x557 hq
              have h : m_129_x464_557 v11_453 w10_557 = some x453 := hc464_557 w10_557 hq.symm
              unfold m_129_x464_557 at h
              obtain ⟨x11_557, ex11_557, h⟩ := o_b1E h
              refine go_iincE (pc' := 560) rfl rfl (y := (nI 1)) rfl ex11_557 (lo' := [some (.inr (.inr a0)), some (.inl a1), some (.inr (.inr a2)), some (.inr (.inr a3)), some (.inl w4_56), some (.inl w5_447), some (.inl w6_447), some (.inl w7_447), some (.inl t0_78), some (.inr (.inr n_83)), some (.inl w10_557), some (.inl x11_557), z12_x557, z13_x557, z14_x447, z15_x447]) rfl rfl ?_
              refine go_goto (pc' := 453) rfl rfl ?_
              exact (lp_backE h hk453 z12_x557 h_z12_x557 z13_x557 h_z13_x557 :)
            have lo464 : ∀ n s, lp (fun s => m_129_b464 G_83 n_83 Ix_447 v11_453 s.1 s.2) n s = some q464 → (fun s => ∀ (z13_464 : Option ai_V) (h_z13_464 : ai_isL z13_464 = false), ai_Go si_t (23, false, 3, cd_129) (ai_Cl si_t si_ms e) (sp_Q (some (.inl r)) I1 J Rf G1) 464 [some (.inr (.inr a0)), some (.inl a1), some (.inr (.inr a2)), some (.inr (.inr a3)), some (.inl w4_56), some (.inl w5_447), some (.inl w6_447), some (.inl w7_447), some (.inl t0_78), some (.inr (.inr n_83)), some (.inl s.1), some (.inl v11_453), some (.inl s.2), z13_464, z14_x447, z15_x447] [] (0, 0) Ix_447 J Rf G_83) s := lp_go (fun s x464 hx hk464 => by
              obtain ⟨v10_464, v12_464⟩ := s
              intro z13_464 h_z13_464
              have h : m_129_b464 G_83 n_83 Ix_447 v11_453 v10_464 v12_464 = some x464 := hx
              clear hx
              show ai_Go si_t (23, false, 3, cd_129) (ai_Cl si_t si_ms e) (sp_Q (some (.inl r)) I1 J Rf G1) 464 [some (.inr (.inr a0)), some (.inl a1), some (.inr (.inr a2)), some (.inr (.inr a3)), some (.inl w4_56), some (.inl w5_447), some (.inl w6_447), some (.inl w7_447), some (.inl t0_78), some (.inr (.inr n_83)), some (.inl v10_464), some (.inl v11_453), some (.inl v12_464), z13_464, z14_x447, z15_x447] [] (0, 0) Ix_447 J Rf G_83
              unfold m_129_b464 at h
              refine go_iload (pc' := 466) rfl rfl rfl ?_
              refine go_sipush (pc' := 469) (v := (nI 256)) rfl rfl rfl ?_
              refine go_icmp_ge (pt := 557) (pc' := 472) rfl rfl rfl (fun h469 => ?_) (fun h469 => ?_)
              · replace h := o_t h469 h
                exact ex464_557 _ (some (.inl v12_464)) rfl z13_464 h_z13_464 (lp_exitE h hk464)
              · replace h := o_f h469 h
                refine go_aload (pc' := 474) rfl rfl rfl ?_
                refine go_iload (pc' := 476) rfl rfl rfl ?_
                obtain ⟨g3, h⟩ := o_gE h
                refine go_iaload (pc' := 477) rfl (o_inK g3) (o_inB g3) rfl ?_
                refine go_if_ne (pt := 557) (pc' := 480) rfl rfl rfl (fun h477 => ?_) (fun h477 => ?_)
                · replace h := o_f h477 h
                  exact ex464_557 _ (some (.inl v12_464)) rfl z13_464 h_z13_464 (lp_exitE h hk464)
                · replace h := o_t (Decidable.of_not_not h477) h
                  refine go_iconst (pc' := 481) (v := (nI 0)) rfl rfl rfl ?_
                  refine go_istore (pc' := 483) (lo' := [some (.inr (.inr a0)), some (.inl a1), some (.inr (.inr a2)), some (.inr (.inr a3)), some (.inl w4_56), some (.inl w5_447), some (.inl w6_447), some (.inl w7_447), some (.inl t0_78), some (.inr (.inr n_83)), some (.inl v10_464), some (.inl v11_453), some (.inl v12_464), some (.inl (nI 0)), z14_x447, z15_x447]) rfl rfl rfl ?_
                  obtain ⟨q483, hl483, hc483_551⟩ := o_s1E h
                  have ex483_551 : ∀ (w10_551 : Int32) (z13_x551 : Option ai_V) (h_z13_x551 : ai_isL z13_x551 = false), w10_551 = q483 → ai_Go si_t (23, false, 3, cd_129) (ai_Cl si_t si_ms e) (sp_Q (some (.inl r)) I1 J Rf G1) 551 [some (.inr (.inr a0)), some (.inl a1), some (.inr (.inr a2)), some (.inr (.inr a3)), some (.inl w4_56), some (.inl w5_447), some (.inl w6_447), some (.inl w7_447), some (.inl t0_78), some (.inr (.inr n_83)), some (.inl w10_551), some (.inl v11_453), some (.inl v12_464), z13_x551, z14_x447, z15_x447] [] (0, 0) Ix_447 J Rf G_83 := by
                    intro w10_551 z13_x551 h_z13_x551 hq
                    have h : m_129_x483_551 v12_464 w10_551 = some x464 := hc483_551 w10_551 hq.symm
                    unfold m_129_x483_551 at h
                    obtain ⟨x12_551, ex12_551, h⟩ := o_b1E h
                    refine go_iincE (pc' := 554) rfl rfl (y := (nI 1)) rfl ex12_551 (lo' := [some (.inr (.inr a0)), some (.inl a1), some (.inr (.inr a2)), some (.inr (.inr a3)), some (.inl w4_56), some (.inl w5_447), some (.inl w6_447), some (.inl w7_447), some (.inl t0_78), some (.inr (.inr n_83)), some (.inl w10_551), some (.inl v11_453), some (.inl x12_551), z13_x551, z14_x447, z15_x447]) rfl rfl ?_
                    refine go_goto (pc' := 464) rfl rfl ?_
                    exact (lp_backE h hk464 z13_x551 h_z13_x551 :)
                  have lo483 : ∀ n s, lp (fun s => m_129_b483 G_83 n_83 Ix_447 v11_453 v12_464 s.1 s.2) n s = some q483 → (fun s => ai_Go si_t (23, false, 3, cd_129) (ai_Cl si_t si_ms e) (sp_Q (some (.inl r)) I1 J Rf G1) 483 [some (.inr (.inr a0)), some (.inl a1), some (.inr (.inr a2)), some (.inr (.inr a3)), some (.inl w4_56), some (.inl w5_447), some (.inl w6_447), some (.inl w7_447), some (.inl t0_78), some (.inr (.inr n_83)), some (.inl s.1), some (.inl v11_453), some (.inl v12_464), some (.inl s.2), z14_x447, z15_x447] [] (0, 0) Ix_447 J Rf G_83) s := lp_go (fun s x483 hx hk483 => by
                    obtain ⟨v10_483, v13_483⟩ := s
                    have h : m_129_b483 G_83 n_83 Ix_447 v11_453 v12_464 v10_483 v13_483 = some x483 := hx
                    clear hx
                    show ai_Go si_t (23, false, 3, cd_129) (ai_Cl si_t si_ms e) (sp_Q (some (.inl r)) I1 J Rf G1) 483 [some (.inr (.inr a0)), some (.inl a1), some (.inr (.inr a2)), some (.inr (.inr a3)), some (.inl w4_56), some (.inl w5_447), some (.inl w6_447), some (.inl w7_447), some (.inl t0_78), some (.inr (.inr n_83)), some (.inl v10_483), some (.inl v11_453), some (.inl v12_464), some (.inl v13_483), z14_x447, z15_x447] [] (0, 0) Ix_447 J Rf G_83
                    unfold m_129_b483 at h
                    refine go_iload (pc' := 485) rfl rfl rfl ?_
                    refine go_bipush (pc' := 487) (v := (nI 8)) rfl rfl rfl ?_
                    refine go_icmp_ge (pt := 551) (pc' := 490) rfl rfl rfl (fun h487 => ?_) (fun h487 => ?_)
                    · replace h := o_t h487 h
                      exact ex483_551 _ (some (.inl v13_483)) rfl (lp_exitE h hk483)
                    · replace h := o_f h487 h
                      refine go_aload (pc' := 492) rfl rfl rfl ?_
                      refine go_iload (pc' := 494) rfl rfl rfl ?_
                      obtain ⟨g4, h⟩ := o_gE h
                      refine go_iaload (pc' := 495) rfl (o_inK g4) (o_inB g4) rfl ?_
                      refine go_if_ne (pt := 551) (pc' := 498) rfl rfl rfl (fun h495 => ?_) (fun h495 => ?_)
                      · replace h := o_f h495 h
                        exact ex483_551 _ (some (.inl v13_483)) rfl (lp_exitE h hk483)
                      · replace h := o_t (Decidable.of_not_not h495) h
                        refine go_iload (pc' := 500) rfl rfl rfl ?_
                        refine go_if_eq (pt := 542) (pc' := 503) rfl rfl rfl (fun h500 => ?_) (fun h500 => ?_)
                        · replace h := o_t h500 h
                          refine go_iconst (pc' := 543) (v := (nI 0)) rfl rfl rfl ?_
                          refine go_istore (pc' := 545) (lo' := [some (.inr (.inr a0)), some (.inl a1), some (.inr (.inr a2)), some (.inr (.inr a3)), some (.inl w4_56), some (.inl w5_447), some (.inl w6_447), some (.inl w7_447), some (.inl t0_78), some (.inr (.inr n_83)), some (.inl (nI 0)), some (.inl v11_453), some (.inl v12_464), some (.inl v13_483), z14_x447, z15_x447]) rfl rfl rfl ?_
                          obtain ⟨x13_545, ex13_545, h⟩ := o_b1E h
                          refine go_iincE (pc' := 548) rfl rfl (y := (nI 1)) rfl ex13_545 (lo' := [some (.inr (.inr a0)), some (.inl a1), some (.inr (.inr a2)), some (.inr (.inr a3)), some (.inl w4_56), some (.inl w5_447), some (.inl w6_447), some (.inl w7_447), some (.inl t0_78), some (.inr (.inr n_83)), some (.inl (nI 0)), some (.inl v11_453), some (.inl v12_464), some (.inl x13_545), z14_x447, z15_x447]) rfl rfl ?_
                          refine go_goto (pc' := 483) rfl rfl ?_
                          exact (lp_backE h hk483 :)
                        · replace h := o_f h500 h
                          refine go_iload (pc' := 505) rfl rfl rfl ?_
                          refine go_iload (pc' := 507) rfl rfl rfl ?_
                          obtain ⟨r_507, q_507, h⟩ := o_b1E h
                          refine go_callS (pc' := 510) (B' := (0, 0)) (st' := [.inl r_507]) rfl rfl (Or.inl (by decide)) rfl rfl trivial (md_121 (by omega) q_507) rfl rfl rfl ?_
                          refine go_if_eq (pt := 538) (pc' := 513) rfl rfl rfl (fun h510 => ?_) (fun h510 => ?_)
                          · replace h := o_t h510 h
                            refine go_iconst (pc' := 539) (v := (nI 1)) rfl rfl rfl ?_
                            refine go_goto (pc' := 543) rfl rfl ?_
                            refine go_istore (pc' := 545) (lo' := [some (.inr (.inr a0)), some (.inl a1), some (.inr (.inr a2)), some (.inr (.inr a3)), some (.inl w4_56), some (.inl w5_447), some (.inl w6_447), some (.inl w7_447), some (.inl t0_78), some (.inr (.inr n_83)), some (.inl (nI 1)), some (.inl v11_453), some (.inl v12_464), some (.inl v13_483), z14_x447, z15_x447]) rfl rfl rfl ?_
                            obtain ⟨x13_545, ex13_545, h⟩ := o_b1E h
                            refine go_iincE (pc' := 548) rfl rfl (y := (nI 1)) rfl ex13_545 (lo' := [some (.inr (.inr a0)), some (.inl a1), some (.inr (.inr a2)), some (.inr (.inr a3)), some (.inl w4_56), some (.inl w5_447), some (.inl w6_447), some (.inl w7_447), some (.inl t0_78), some (.inr (.inr n_83)), some (.inl (nI 1)), some (.inl v11_453), some (.inl v12_464), some (.inl x13_545), z14_x447, z15_x447]) rfl rfl ?_
                            refine go_goto (pc' := 483) rfl rfl ?_
                            exact (lp_backE h hk483 :)
                          · replace h := o_f h510 h
                            refine go_iload (pc' := 515) rfl rfl rfl ?_
                            refine go_iload (pc' := 517) rfl rfl rfl ?_
                            obtain ⟨r_517, q_517, h⟩ := o_b1E h
                            refine go_callS (pc' := 520) (B' := (0, 0)) (st' := [.inl r_517]) rfl rfl (Or.inl (by decide)) rfl rfl trivial (md_121 (by omega) q_517) rfl rfl rfl ?_
                            refine go_if_ne (pt := 538) (pc' := 523) rfl rfl rfl (fun h520 => ?_) (fun h520 => ?_)
                            · replace h := o_f h520 h
                              refine go_iconst (pc' := 539) (v := (nI 1)) rfl rfl rfl ?_
                              refine go_goto (pc' := 543) rfl rfl ?_
                              refine go_istore (pc' := 545) (lo' := [some (.inr (.inr a0)), some (.inl a1), some (.inr (.inr a2)), some (.inr (.inr a3)), some (.inl w4_56), some (.inl w5_447), some (.inl w6_447), some (.inl w7_447), some (.inl t0_78), some (.inr (.inr n_83)), some (.inl (nI 1)), some (.inl v11_453), some (.inl v12_464), some (.inl v13_483), z14_x447, z15_x447]) rfl rfl rfl ?_
                              obtain ⟨x13_545, ex13_545, h⟩ := o_b1E h
                              refine go_iincE (pc' := 548) rfl rfl (y := (nI 1)) rfl ex13_545 (lo' := [some (.inr (.inr a0)), some (.inl a1), some (.inr (.inr a2)), some (.inr (.inr a3)), some (.inl w4_56), some (.inl w5_447), some (.inl w6_447), some (.inl w7_447), some (.inl t0_78), some (.inr (.inr n_83)), some (.inl (nI 1)), some (.inl v11_453), some (.inl v12_464), some (.inl x13_545), z14_x447, z15_x447]) rfl rfl ?_
                              refine go_goto (pc' := 483) rfl rfl ?_
                              exact (lp_backE h hk483 :)
                            · replace h := o_t (Decidable.of_not_not h520) h
                              refine go_aload (pc' := 525) rfl rfl rfl ?_
                              refine go_iload (pc' := 527) rfl rfl rfl ?_
                              refine go_iload (pc' := 529) rfl rfl rfl ?_
                              refine go_iload (pc' := 531) rfl rfl rfl ?_
                              refine go_iconst (pc' := 532) (v := (nI 1)) rfl rfl rfl ?_
                              obtain ⟨r_532, q_532, h⟩ := o_b1E h
                              refine go_callS (pc' := 535) (B' := (0, 0)) (st' := [.inl r_532]) rfl rfl (Or.inl (by decide)) rfl rfl trivial (md_127 (by omega) q_532) rfl rfl rfl ?_
                              refine go_if_lt (pt := 542) (pc' := 538) rfl rfl rfl (fun h535 => ?_) (fun h535 => ?_)
                              · replace h := o_t h535 h
                                refine go_iconst (pc' := 543) (v := (nI 0)) rfl rfl rfl ?_
                                refine go_istore (pc' := 545) (lo' := [some (.inr (.inr a0)), some (.inl a1), some (.inr (.inr a2)), some (.inr (.inr a3)), some (.inl w4_56), some (.inl w5_447), some (.inl w6_447), some (.inl w7_447), some (.inl t0_78), some (.inr (.inr n_83)), some (.inl (nI 0)), some (.inl v11_453), some (.inl v12_464), some (.inl v13_483), z14_x447, z15_x447]) rfl rfl rfl ?_
                                obtain ⟨x13_545, ex13_545, h⟩ := o_b1E h
                                refine go_iincE (pc' := 548) rfl rfl (y := (nI 1)) rfl ex13_545 (lo' := [some (.inr (.inr a0)), some (.inl a1), some (.inr (.inr a2)), some (.inr (.inr a3)), some (.inl w4_56), some (.inl w5_447), some (.inl w6_447), some (.inl w7_447), some (.inl t0_78), some (.inr (.inr n_83)), some (.inl (nI 0)), some (.inl v11_453), some (.inl v12_464), some (.inl x13_545), z14_x447, z15_x447]) rfl rfl ?_
                                refine go_goto (pc' := 483) rfl rfl ?_
                                exact (lp_backE h hk483 :)
                              · replace h := o_f h535 h
                                refine go_iconst (pc' := 539) (v := (nI 1)) rfl rfl rfl ?_
                                refine go_goto (pc' := 543) rfl rfl ?_
                                refine go_istore (pc' := 545) (lo' := [some (.inr (.inr a0)), some (.inl a1), some (.inr (.inr a2)), some (.inr (.inr a3)), some (.inl w4_56), some (.inl w5_447), some (.inl w6_447), some (.inl w7_447), some (.inl t0_78), some (.inr (.inr n_83)), some (.inl (nI 1)), some (.inl v11_453), some (.inl v12_464), some (.inl v13_483), z14_x447, z15_x447]) rfl rfl rfl ?_
                                obtain ⟨x13_545, ex13_545, h⟩ := o_b1E h
                                refine go_iincE (pc' := 548) rfl rfl (y := (nI 1)) rfl ex13_545 (lo' := [some (.inr (.inr a0)), some (.inl a1), some (.inr (.inr a2)), some (.inr (.inr a3)), some (.inl w4_56), some (.inl w5_447), some (.inl w6_447), some (.inl w7_447), some (.inl t0_78), some (.inr (.inr n_83)), some (.inl (nI 1)), some (.inl v11_453), some (.inl v12_464), some (.inl x13_545), z14_x447, z15_x447]) rfl rfl ?_
                                refine go_goto (pc' := 483) rfl rfl ?_
                                exact (lp_backE h hk483 :))
                  exact lo483 _ (v10_464, (nI 0)) hl483 )
            exact lo464 _ (v10_453, (nI 0)) hl464 z13_453 h_z13_453)
        exact lo453 _ ((nI 1), (nI 0)) hl453 z12_x447 h_z12_x447 z13_x447 h_z13_x447
      have lo90 : ∀ n s, lp (fun s => m_129_b90 a0 a1 a2 a3 Rf w4_56 t0_78 G_83 n_83 s.1 s.2.1 s.2.2.1 s.2.2.2.1 s.2.2.2.2) n s = some q90 → (fun s => ∀ (z11_90 : Option ai_V) (h_z11_90 : ai_isL z11_90 = false) (z12_90 : Option ai_V) (h_z12_90 : ai_isL z12_90 = false) (z13_90 : Option ai_V) (h_z13_90 : ai_isL z13_90 = false) (z14_90 : Option ai_V) (h_z14_90 : ai_isL z14_90 = false) (z15_90 : Option ai_V) (h_z15_90 : ai_isL z15_90 = false), ai_Go si_t (23, false, 3, cd_129) (ai_Cl si_t si_ms e) (sp_Q (some (.inl r)) I1 J Rf G1) 90 [some (.inr (.inr a0)), some (.inl a1), some (.inr (.inr a2)), some (.inr (.inr a3)), some (.inl w4_56), some (.inl s.1), some (.inl s.2.1), some (.inl s.2.2.1), some (.inl t0_78), some (.inr (.inr n_83)), some (.inl s.2.2.2.1), z11_90, z12_90, z13_90, z14_90, z15_90] [] (0, 0) s.2.2.2.2 J Rf G_83) s := lp_go (fun s x90 hx hk90 => by
        obtain ⟨v5_90, v6_90, v7_90, v10_90, I_90⟩ := s
        intro z11_90 h_z11_90 z12_90 h_z12_90 z13_90 h_z13_90 z14_90 h_z14_90 z15_90 h_z15_90
        have h : m_129_b90 a0 a1 a2 a3 Rf w4_56 t0_78 G_83 n_83 v5_90 v6_90 v7_90 v10_90 I_90 = some x90 := hx
        clear hx
        show ai_Go si_t (23, false, 3, cd_129) (ai_Cl si_t si_ms e) (sp_Q (some (.inl r)) I1 J Rf G1) 90 [some (.inr (.inr a0)), some (.inl a1), some (.inr (.inr a2)), some (.inr (.inr a3)), some (.inl w4_56), some (.inl v5_90), some (.inl v6_90), some (.inl v7_90), some (.inl t0_78), some (.inr (.inr n_83)), some (.inl v10_90), z11_90, z12_90, z13_90, z14_90, z15_90] [] (0, 0) I_90 J Rf G_83
        unfold m_129_b90 at h
        refine go_iload (pc' := 92) rfl rfl rfl ?_
        refine go_sipush (pc' := 95) (v := (nI 256)) rfl rfl rfl ?_
        refine go_icmp_ge (pt := 447) (pc' := 98) rfl rfl rfl (fun h95 => ?_) (fun h95 => ?_)
        · replace h := o_t h95 h
          exact ex90_447 _ _ _ _ (some (.inl v10_90)) rfl z11_90 h_z11_90 z12_90 h_z12_90 z13_90 h_z13_90 z14_90 h_z14_90 z15_90 h_z15_90 (lp_exitE h hk90)
        · replace h := o_f h95 h
          refine go_aload (pc' := 100) rfl rfl rfl ?_
          refine go_iload (pc' := 102) rfl rfl rfl ?_
          refine go_aload_n (pc' := 103) rfl rfl rfl ?_
          refine go_iload (pc' := 105) rfl rfl rfl ?_
          obtain ⟨r_105, q_105, h⟩ := o_b1E h
          refine go_callS (pc' := 108) (B' := (0, 0)) (st' := [.inl r_105, .inl v10_90, .inr (.inr n_83)]) rfl rfl (Or.inl (by decide)) rfl rfl trivial (md_126 (by omega) q_105) rfl rfl rfl ?_
          have jn133 : ∀ (t2_133 : Int32) (z11_133 : Option ai_V) (h_z11_133 : ai_isL z11_133 = false) (z12_133 : Option ai_V) (h_z12_133 : ai_isL z12_133 = false) (z13_133 : Option ai_V) (h_z13_133 : ai_isL z13_133 = false) (z14_133 : Option ai_V) (h_z14_133 : ai_isL z14_133 = false) (z15_133 : Option ai_V) (h_z15_133 : ai_isL z15_133 = false), m_129_j133 a0 a1 a2 a3 Rf w4_56 t0_78 G_83 n_83 v5_90 v6_90 v7_90 v10_90 I_90 t2_133 = some x90 → ai_Go si_t (23, false, 3, cd_129) (ai_Cl si_t si_ms e) (sp_Q (some (.inl r)) I1 J Rf G1) 133 [some (.inr (.inr a0)), some (.inl a1), some (.inr (.inr a2)), some (.inr (.inr a3)), some (.inl w4_56), some (.inl v5_90), some (.inl v6_90), some (.inl v7_90), some (.inl t0_78), some (.inr (.inr n_83)), some (.inl v10_90), z11_133, z12_133, z13_133, z14_133, z15_133] [.inl t2_133, .inl v10_90, .inr (.inr n_83)] (0, 0) I_90 J Rf G_83 := by
            intro t2_133 z11_133 h_z11_133 z12_133 h_z12_133 z13_133 h_z13_133 z14_133 h_z14_133 z15_133 h_z15_133 h
            unfold m_129_j133 at h
            obtain ⟨g5, h⟩ := o_gE h
            obtain ⟨I_133, eI_133, h⟩ := o_b1E h
            refine go_iastore (pc' := 134) rfl (o_inK g5) (o_inB g5) rfl ?_
            refine go_ndMI eI_133 ?_
            refine go_aload_n (pc' := 135) rfl rfl rfl ?_
            refine go_iload (pc' := 137) rfl rfl rfl ?_
            obtain ⟨r_137, q_137, h⟩ := o_b1E h
            refine go_callS (pc' := 140) (B' := (0, 0)) (st' := [.inl r_137]) rfl rfl (Or.inl (by decide)) rfl rfl trivial (md_126 (by omega) q_137) rfl rfl rfl ?_
            refine go_if_eq (pt := 441) (pc' := 143) rfl rfl rfl (fun h140 => ?_) (fun h140 => ?_)
            · replace h := o_t h140 h
              obtain ⟨x10_441, ex10_441, h⟩ := o_b1E h
              refine go_iincE (pc' := 444) rfl rfl (y := (nI 1)) rfl ex10_441 (lo' := [some (.inr (.inr a0)), some (.inl a1), some (.inr (.inr a2)), some (.inr (.inr a3)), some (.inl w4_56), some (.inl v5_90), some (.inl v6_90), some (.inl v7_90), some (.inl t0_78), some (.inr (.inr n_83)), some (.inl x10_441), z11_133, z12_133, z13_133, z14_133, z15_133]) rfl rfl ?_
              refine go_goto (pc' := 90) rfl rfl ?_
              exact (lp_backE h hk90 z11_133 h_z11_133 z12_133 h_z12_133 z13_133 h_z13_133 z14_133 h_z14_133 z15_133 h_z15_133 :)
            · replace h := o_f h140 h
              refine go_aload (pc' := 145) rfl rfl rfl ?_
              refine go_iload (pc' := 147) rfl rfl rfl ?_
              obtain ⟨g6, h⟩ := o_gE h
              refine go_iaload (pc' := 148) rfl (o_inK g6) (o_inB g6) rfl ?_
              have jn181 : ∀ (y5_181 : Int32) (y7_181 : Int32) (I_181 : ai_I) (z11_181 : Option ai_V) (h_z11_181 : ai_isL z11_181 = false) (z12_181 : Option ai_V) (h_z12_181 : ai_isL z12_181 = false) (z13_181 : Option ai_V) (h_z13_181 : ai_isL z13_181 = false) (z14_181 : Option ai_V) (h_z14_181 : ai_isL z14_181 = false) (z15_181 : Option ai_V) (h_z15_181 : ai_isL z15_181 = false), m_129_j181 a0 a1 a2 a3 Rf w4_56 t0_78 G_83 v6_90 v10_90 y5_181 y7_181 I_181 = some x90 → ai_Go si_t (23, false, 3, cd_129) (ai_Cl si_t si_ms e) (sp_Q (some (.inl r)) I1 J Rf G1) 181 [some (.inr (.inr a0)), some (.inl a1), some (.inr (.inr a2)), some (.inr (.inr a3)), some (.inl w4_56), some (.inl y5_181), some (.inl v6_90), some (.inl y7_181), some (.inl t0_78), some (.inr (.inr n_83)), some (.inl v10_90), z11_181, z12_181, z13_181, z14_181, z15_181] [] (0, 0) I_181 J Rf G_83 := by
                intro y5_181 y7_181 I_181 z11_181 h_z11_181 z12_181 h_z12_181 z13_181 h_z13_181 z14_181 h_z14_181 z15_181 h_z15_181 h
                unfold m_129_j181 at h
                refine go_iload (pc' := 183) rfl rfl rfl ?_
                refine go_istore (pc' := 185) (lo' := [some (.inr (.inr a0)), some (.inl a1), some (.inr (.inr a2)), some (.inr (.inr a3)), some (.inl w4_56), some (.inl y5_181), some (.inl v6_90), some (.inl y7_181), some (.inl t0_78), some (.inr (.inr n_83)), some (.inl v10_90), some (.inl v10_90), z12_181, z13_181, z14_181, z15_181]) rfl rfl rfl ?_
                refine go_iconst (pc' := 186) (v := (-1 : Int32)) rfl rfl rfl ?_
                refine go_istore (pc' := 188) (lo' := [some (.inr (.inr a0)), some (.inl a1), some (.inr (.inr a2)), some (.inr (.inr a3)), some (.inl w4_56), some (.inl y5_181), some (.inl v6_90), some (.inl y7_181), some (.inl t0_78), some (.inr (.inr n_83)), some (.inl v10_90), some (.inl v10_90), some (.inl (-1 : Int32)), z13_181, z14_181, z15_181]) rfl rfl rfl ?_
                refine go_iload (pc' := 190) rfl rfl rfl ?_
                refine go_istore (pc' := 192) (lo' := [some (.inr (.inr a0)), some (.inl a1), some (.inr (.inr a2)), some (.inr (.inr a3)), some (.inl w4_56), some (.inl y5_181), some (.inl v6_90), some (.inl y7_181), some (.inl t0_78), some (.inr (.inr n_83)), some (.inl v10_90), some (.inl v10_90), some (.inl (-1 : Int32)), some (.inl v10_90), z14_181, z15_181]) rfl rfl rfl ?_
                obtain ⟨q192, hl192, hc192_325⟩ := o_s1E h
                have ex192_325 : ∀ (w11_325 : Int32) (w12_325 : Int32) (z13_x325 : Option ai_V) (h_z13_x325 : ai_isL z13_x325 = false) (z14_x325 : Option ai_V) (h_z14_x325 : ai_isL z14_x325 = false) (z15_x325 : Option ai_V) (h_z15_x325 : ai_isL z15_x325 = false), (w11_325, w12_325) = q192 → ai_Go si_t (23, false, 3, cd_129) (ai_Cl si_t si_ms e) (sp_Q (some (.inl r)) I1 J Rf G1) 325 [some (.inr (.inr a0)), some (.inl a1), some (.inr (.inr a2)), some (.inr (.inr a3)), some (.inl w4_56), some (.inl y5_181), some (.inl v6_90), some (.inl y7_181), some (.inl t0_78), some (.inr (.inr n_83)), some (.inl v10_90), some (.inl w11_325), some (.inl w12_325), z13_x325, z14_x325, z15_x325] [] (0, 0) I_181 J Rf G_83 := by
                  intro w11_325 w12_325 z13_x325 h_z13_x325 z14_x325 h_z14_x325 z15_x325 h_z15_x325 hq
                  have h : m_129_x192_325 a0 a1 a2 a3 Rf w4_56 t0_78 G_83 v6_90 v10_90 y5_181 y7_181 I_181 w11_325 w12_325 = some x90 := hc192_325 (w11_325, w12_325) hq.symm
                  unfold m_129_x192_325 at h
                  refine go_aload_n (pc' := 326) rfl rfl rfl ?_
                  refine go_iload (pc' := 328) rfl rfl rfl ?_
                  obtain ⟨g7, h⟩ := o_gE h
                  refine go_iaload (pc' := 329) rfl (o_inK g7) (o_inB g7) rfl ?_
                  refine go_aload_n (pc' := 330) rfl rfl rfl ?_
                  refine go_iload (pc' := 332) rfl rfl rfl ?_
                  obtain ⟨r_332, q_332, h⟩ := o_b1E h
                  refine go_callS (pc' := 335) (B' := (0, 0)) (st' := [.inl r_332, .inl (I_181 a2 w11_325.toNatClampNeg)]) rfl rfl (Or.inl (by decide)) rfl rfl trivial (md_124 (by omega) q_332) rfl rfl rfl ?_
                  refine go_iadd (pc' := 336) rfl rfl ?_
                  obtain ⟨x14_336, ex14_336, h⟩ := o_b1E h
                  refine go_ndI ex14_336 ?_
                  refine go_istore (pc' := 338) (lo' := [some (.inr (.inr a0)), some (.inl a1), some (.inr (.inr a2)), some (.inr (.inr a3)), some (.inl w4_56), some (.inl y5_181), some (.inl v6_90), some (.inl y7_181), some (.inl t0_78), some (.inr (.inr n_83)), some (.inl v10_90), some (.inl w11_325), some (.inl w12_325), z13_x325, some (.inl x14_336), z15_x325]) rfl (ai_putZ h_z13_x325) rfl ?_
                  refine go_iload (pc' := 340) rfl rfl rfl ?_
                  have jn422 : ∀ (t0_422 : Int32) (I_422 : ai_I) (z13_422 : Option ai_V) (h_z13_422 : ai_isL z13_422 = false) (z15_422 : Option ai_V) (h_z15_422 : ai_isL z15_422 = false), m_129_j422 w4_56 v6_90 v10_90 y7_181 x14_336 t0_422 I_422 = some x90 → ai_Go si_t (23, false, 3, cd_129) (ai_Cl si_t si_ms e) (sp_Q (some (.inl r)) I1 J Rf G1) 422 [some (.inr (.inr a0)), some (.inl a1), some (.inr (.inr a2)), some (.inr (.inr a3)), some (.inl w4_56), some (.inl y5_181), some (.inl v6_90), some (.inl y7_181), some (.inl t0_78), some (.inr (.inr n_83)), some (.inl v10_90), some (.inl w11_325), some (.inl w12_325), z13_422, some (.inl x14_336), z15_422] [.inl t0_422] (0, 0) I_422 J Rf G_83 := by
                    intro t0_422 I_422 z13_422 h_z13_422 z15_422 h_z15_422 h
                    unfold m_129_j422 at h
                    refine go_istore (pc' := 424) (lo' := [some (.inr (.inr a0)), some (.inl a1), some (.inr (.inr a2)), some (.inr (.inr a3)), some (.inl w4_56), some (.inl t0_422), some (.inl v6_90), some (.inl y7_181), some (.inl t0_78), some (.inr (.inr n_83)), some (.inl v10_90), some (.inl w11_325), some (.inl w12_325), z13_422, some (.inl x14_336), z15_422]) rfl rfl rfl ?_
                    refine go_iload (pc' := 426) rfl rfl rfl ?_
                    refine go_iload (pc' := 428) rfl rfl rfl ?_
                    refine go_iload (pc' := 430) rfl rfl rfl ?_
                    refine go_icmp_ne (pt := 437) (pc' := 433) rfl rfl rfl (fun h430 => ?_) (fun h430 => ?_)
                    · replace h := o_f h430 h
                      refine go_iconst (pc' := 438) (v := (nI 0)) rfl rfl rfl ?_
                      refine go_iadd (pc' := 439) rfl rfl ?_
                      obtain ⟨x6_439, ex6_439, h⟩ := o_b1E h
                      refine go_ndI ex6_439 ?_
                      refine go_istore (pc' := 441) (lo' := [some (.inr (.inr a0)), some (.inl a1), some (.inr (.inr a2)), some (.inr (.inr a3)), some (.inl w4_56), some (.inl t0_422), some (.inl x6_439), some (.inl y7_181), some (.inl t0_78), some (.inr (.inr n_83)), some (.inl v10_90), some (.inl w11_325), some (.inl w12_325), z13_422, some (.inl x14_336), z15_422]) rfl rfl rfl ?_
                      obtain ⟨x10_441, ex10_441, h⟩ := o_b1E h
                      refine go_iincE (pc' := 444) rfl rfl (y := (nI 1)) rfl ex10_441 (lo' := [some (.inr (.inr a0)), some (.inl a1), some (.inr (.inr a2)), some (.inr (.inr a3)), some (.inl w4_56), some (.inl t0_422), some (.inl x6_439), some (.inl y7_181), some (.inl t0_78), some (.inr (.inr n_83)), some (.inl x10_441), some (.inl w11_325), some (.inl w12_325), z13_422, some (.inl x14_336), z15_422]) rfl rfl ?_
                      refine go_goto (pc' := 90) rfl rfl ?_
                      exact (lp_backE h hk90 (some (.inl w11_325)) rfl (some (.inl w12_325)) rfl z13_422 h_z13_422 (some (.inl x14_336)) rfl z15_422 h_z15_422 :)
                    · replace h := o_t (Decidable.of_not_not h430) h
                      refine go_iconst (pc' := 434) (v := (nI 1)) rfl rfl rfl ?_
                      refine go_goto (pc' := 438) rfl rfl ?_
                      refine go_iadd (pc' := 439) rfl rfl ?_
                      obtain ⟨x6_439, ex6_439, h⟩ := o_b1E h
                      refine go_ndI ex6_439 ?_
                      refine go_istore (pc' := 441) (lo' := [some (.inr (.inr a0)), some (.inl a1), some (.inr (.inr a2)), some (.inr (.inr a3)), some (.inl w4_56), some (.inl t0_422), some (.inl x6_439), some (.inl y7_181), some (.inl t0_78), some (.inr (.inr n_83)), some (.inl v10_90), some (.inl w11_325), some (.inl w12_325), z13_422, some (.inl x14_336), z15_422]) rfl rfl rfl ?_
                      obtain ⟨x10_441, ex10_441, h⟩ := o_b1E h
                      refine go_iincE (pc' := 444) rfl rfl (y := (nI 1)) rfl ex10_441 (lo' := [some (.inr (.inr a0)), some (.inl a1), some (.inr (.inr a2)), some (.inr (.inr a3)), some (.inl w4_56), some (.inl t0_422), some (.inl x6_439), some (.inl y7_181), some (.inl t0_78), some (.inr (.inr n_83)), some (.inl x10_441), some (.inl w11_325), some (.inl w12_325), z13_422, some (.inl x14_336), z15_422]) rfl rfl ?_
                      refine go_goto (pc' := 90) rfl rfl ?_
                      exact (lp_backE h hk90 (some (.inl w11_325)) rfl (some (.inl w12_325)) rfl z13_422 h_z13_422 (some (.inl x14_336)) rfl z15_422 h_z15_422 :)
                  have jn421 : ∀ (I_421 : ai_I) (z13_421 : Option ai_V) (h_z13_421 : ai_isL z13_421 = false) (z15_421 : Option ai_V) (h_z15_421 : ai_isL z15_421 = false), m_129_j421 w4_56 v6_90 v10_90 y7_181 x14_336 I_421 = some x90 → ai_Go si_t (23, false, 3, cd_129) (ai_Cl si_t si_ms e) (sp_Q (some (.inl r)) I1 J Rf G1) 421 [some (.inr (.inr a0)), some (.inl a1), some (.inr (.inr a2)), some (.inr (.inr a3)), some (.inl w4_56), some (.inl y5_181), some (.inl v6_90), some (.inl y7_181), some (.inl t0_78), some (.inr (.inr n_83)), some (.inl v10_90), some (.inl w11_325), some (.inl w12_325), z13_421, some (.inl x14_336), z15_421] [] (0, 0) I_421 J Rf G_83 := by
                    intro I_421 z13_421 h_z13_421 z15_421 h_z15_421 h
                    unfold m_129_j421 at h
                    refine go_iconst (pc' := 422) (v := (nI 0)) rfl rfl rfl ?_
                    exact jn422 (nI 0) I_421 z13_421 h_z13_421 z15_421 h_z15_421 h
                  refine go_if_eq (pt := 421) (pc' := 343) rfl rfl rfl (fun h340 => ?_) (fun h340 => ?_)
                  · replace h := o_t h340 h
                    exact jn421 I_181 z13_x325 h_z13_x325 z15_x325 h_z15_x325 h
                  · replace h := o_f h340 h
                    refine go_aload_n (pc' := 344) rfl rfl rfl ?_
                    refine go_iload_n (pc' := 345) rfl rfl rfl ?_
                    refine go_iload (pc' := 347) rfl rfl rfl ?_
                    refine go_iconst (pc' := 348) (v := (nI 0)) rfl rfl rfl ?_
                    obtain ⟨g8, h⟩ := o_gE h
                    obtain ⟨r_348, I_348, q_348, h⟩ := o_b2E h
                    refine go_callV (pc' := 351) (B' := (0, 0)) (st' := [.inl r_348]) rfl rfl (Or.inl (by decide)) rfl rfl (o_kdE g8) (md_105 (by omega) (o_kdE g8) q_348) rfl rfl rfl ?_
                    refine go_iload (pc' := 353) rfl rfl rfl ?_
                    refine go_icmp_ne (pt := 421) (pc' := 356) rfl rfl rfl (fun h353 => ?_) (fun h353 => ?_)
                    · replace h := o_f h353 h
                      exact jn421 I_348 z13_x325 h_z13_x325 z15_x325 h_z15_x325 h
                    · replace h := o_t (Decidable.of_not_not h353) h
                      refine go_aload_n (pc' := 357) rfl rfl rfl ?_
                      refine go_iload_n (pc' := 358) rfl rfl rfl ?_
                      refine go_iload (pc' := 360) rfl rfl rfl ?_
                      refine go_iconst (pc' := 361) (v := (nI 1)) rfl rfl rfl ?_
                      obtain ⟨r_361, I_361, q_361, h⟩ := o_b2E h
                      refine go_callV (pc' := 364) (B' := (0, 0)) (st' := [.inl r_361]) rfl rfl (Or.inl (by decide)) rfl rfl (o_kdE g8) (md_105 (by omega) (o_kdE g8) q_361) rfl rfl rfl ?_
                      refine go_iload (pc' := 366) rfl rfl rfl ?_
                      refine go_icmp_ne (pt := 421) (pc' := 369) rfl rfl rfl (fun h366 => ?_) (fun h366 => ?_)
                      · replace h := o_f h366 h
                        exact jn421 I_361 z13_x325 h_z13_x325 z15_x325 h_z15_x325 h
                      · replace h := o_t (Decidable.of_not_not h366) h
                        refine go_aload_n (pc' := 370) rfl rfl rfl ?_
                        refine go_iload_n (pc' := 371) rfl rfl rfl ?_
                        refine go_iload (pc' := 373) rfl rfl rfl ?_
                        refine go_iconst (pc' := 374) (v := (nI 2)) rfl rfl rfl ?_
                        obtain ⟨r_374, I_374, q_374, h⟩ := o_b2E h
                        refine go_callV (pc' := 377) (B' := (0, 0)) (st' := [.inl r_374]) rfl rfl (Or.inl (by decide)) rfl rfl (o_kdE g8) (md_105 (by omega) (o_kdE g8) q_374) rfl rfl rfl ?_
                        refine go_iload (pc' := 379) rfl rfl rfl ?_
                        refine go_icmp_ne (pt := 421) (pc' := 382) rfl rfl rfl (fun h379 => ?_) (fun h379 => ?_)
                        · replace h := o_f h379 h
                          exact jn421 I_374 z13_x325 h_z13_x325 z15_x325 h_z15_x325 h
                        · replace h := o_t (Decidable.of_not_not h379) h
                          refine go_aload_n (pc' := 383) rfl rfl rfl ?_
                          refine go_iload_n (pc' := 384) rfl rfl rfl ?_
                          refine go_iload (pc' := 386) rfl rfl rfl ?_
                          refine go_iconst (pc' := 387) (v := (nI 3)) rfl rfl rfl ?_
                          obtain ⟨r_387, I_387, q_387, h⟩ := o_b2E h
                          refine go_callV (pc' := 390) (B' := (0, 0)) (st' := [.inl r_387]) rfl rfl (Or.inl (by decide)) rfl rfl (o_kdE g8) (md_105 (by omega) (o_kdE g8) q_387) rfl rfl rfl ?_
                          refine go_iload (pc' := 392) rfl rfl rfl ?_
                          refine go_iload (pc' := 394) rfl rfl rfl ?_
                          have jn402 : ∀ (t1_402 : Int32) (z13_402 : Option ai_V) (h_z13_402 : ai_isL z13_402 = false) (z15_402 : Option ai_V) (h_z15_402 : ai_isL z15_402 = false), m_129_j402 w4_56 t0_78 v6_90 v10_90 y7_181 x14_336 r_387 I_387 t1_402 = some x90 → ai_Go si_t (23, false, 3, cd_129) (ai_Cl si_t si_ms e) (sp_Q (some (.inl r)) I1 J Rf G1) 402 [some (.inr (.inr a0)), some (.inl a1), some (.inr (.inr a2)), some (.inr (.inr a3)), some (.inl w4_56), some (.inl y5_181), some (.inl v6_90), some (.inl y7_181), some (.inl t0_78), some (.inr (.inr n_83)), some (.inl v10_90), some (.inl w11_325), some (.inl w12_325), z13_402, some (.inl x14_336), z15_402] [.inl t1_402, .inl r_387] (0, 0) I_387 J Rf G_83 := by
                            intro t1_402 z13_402 h_z13_402 z15_402 h_z15_402 h
                            unfold m_129_j402 at h
                            refine go_icmp_ne (pt := 421) (pc' := 405) rfl rfl rfl (fun h402 => ?_) (fun h402 => ?_)
                            · replace h := o_f h402 h
                              exact jn421 I_387 z13_402 h_z13_402 z15_402 h_z15_402 h
                            · replace h := o_t (Decidable.of_not_not h402) h
                              refine go_iload (pc' := 407) rfl rfl rfl ?_
                              have jn417 : ∀ (z13_417 : Option ai_V) (h_z13_417 : ai_isL z13_417 = false) (z15_417 : Option ai_V) (h_z15_417 : ai_isL z15_417 = false), m_129_j417 w4_56 v6_90 v10_90 y7_181 x14_336 I_387 = some x90 → ai_Go si_t (23, false, 3, cd_129) (ai_Cl si_t si_ms e) (sp_Q (some (.inl r)) I1 J Rf G1) 417 [some (.inr (.inr a0)), some (.inl a1), some (.inr (.inr a2)), some (.inr (.inr a3)), some (.inl w4_56), some (.inl y5_181), some (.inl v6_90), some (.inl y7_181), some (.inl t0_78), some (.inr (.inr n_83)), some (.inl v10_90), some (.inl w11_325), some (.inl w12_325), z13_417, some (.inl x14_336), z15_417] [] (0, 0) I_387 J Rf G_83 := by
                                intro z13_417 h_z13_417 z15_417 h_z15_417 h
                                unfold m_129_j417 at h
                                refine go_iconst (pc' := 418) (v := (nI 1)) rfl rfl rfl ?_
                                refine go_goto (pc' := 422) rfl rfl ?_
                                exact jn422 (nI 1) I_387 z13_417 h_z13_417 z15_417 h_z15_417 h
                              refine go_if_eq (pt := 417) (pc' := 410) rfl rfl rfl (fun h407 => ?_) (fun h407 => ?_)
                              · replace h := o_t h407 h
                                exact jn417 z13_402 h_z13_402 z15_402 h_z15_402 h
                              · replace h := o_f h407 h
                                refine go_iload (pc' := 412) rfl rfl rfl ?_
                                refine go_iload (pc' := 414) rfl rfl rfl ?_
                                refine go_icmp_ne (pt := 421) (pc' := 417) rfl rfl rfl (fun h414 => ?_) (fun h414 => ?_)
                                · replace h := o_f h414 h
                                  exact jn421 I_387 z13_402 h_z13_402 z15_402 h_z15_402 h
                                · replace h := o_t (Decidable.of_not_not h414) h
                                  exact jn417 z13_402 h_z13_402 z15_402 h_z15_402 h
                          refine go_icmp_ne (pt := 401) (pc' := 397) rfl rfl rfl (fun h394 => ?_) (fun h394 => ?_)
                          · replace h := o_f h394 h
                            refine go_iconst (pc' := 402) (v := (nI 0)) rfl rfl rfl ?_
                            exact jn402 (nI 0) z13_x325 h_z13_x325 z15_x325 h_z15_x325 h
                          · replace h := o_t (Decidable.of_not_not h394) h
                            refine go_iconst (pc' := 398) (v := (nI 1)) rfl rfl rfl ?_
                            refine go_goto (pc' := 402) rfl rfl ?_
                            exact jn402 (nI 1) z13_x325 h_z13_x325 z15_x325 h_z15_x325 h
                have lo192 : ∀ n s, lp (fun s => m_129_b192 a2 a3 G_83 I_181 s.1 s.2.1 s.2.2) n s = some q192 → (fun s => ∀ (z14_192 : Option ai_V) (h_z14_192 : ai_isL z14_192 = false) (z15_192 : Option ai_V) (h_z15_192 : ai_isL z15_192 = false), ai_Go si_t (23, false, 3, cd_129) (ai_Cl si_t si_ms e) (sp_Q (some (.inl r)) I1 J Rf G1) 192 [some (.inr (.inr a0)), some (.inl a1), some (.inr (.inr a2)), some (.inr (.inr a3)), some (.inl w4_56), some (.inl y5_181), some (.inl v6_90), some (.inl y7_181), some (.inl t0_78), some (.inr (.inr n_83)), some (.inl v10_90), some (.inl s.1), some (.inl s.2.1), some (.inl s.2.2), z14_192, z15_192] [] (0, 0) I_181 J Rf G_83) s := lp_go (fun s x192 hx hk192 => by
                  obtain ⟨v11_192, v12_192, v13_192⟩ := s
                  intro z14_192 h_z14_192 z15_192 h_z15_192
                  have h : m_129_b192 a2 a3 G_83 I_181 v11_192 v12_192 v13_192 = some x192 := hx
                  clear hx
                  show ai_Go si_t (23, false, 3, cd_129) (ai_Cl si_t si_ms e) (sp_Q (some (.inl r)) I1 J Rf G1) 192 [some (.inr (.inr a0)), some (.inl a1), some (.inr (.inr a2)), some (.inr (.inr a3)), some (.inl w4_56), some (.inl y5_181), some (.inl v6_90), some (.inl y7_181), some (.inl t0_78), some (.inr (.inr n_83)), some (.inl v10_90), some (.inl v11_192), some (.inl v12_192), some (.inl v13_192), z14_192, z15_192] [] (0, 0) I_181 J Rf G_83
                  unfold m_129_b192 at h
                  refine go_iload (pc' := 194) rfl rfl rfl ?_
                  refine go_if_lt (pt := 325) (pc' := 197) rfl rfl rfl (fun h194 => ?_) (fun h194 => ?_)
                  · replace h := o_t h194 h
                    exact ex192_325 _ _ (some (.inl v13_192)) rfl z14_192 h_z14_192 z15_192 h_z15_192 (lp_exitE h hk192)
                  · replace h := o_f h194 h
                    refine go_iload (pc' := 199) rfl rfl rfl ?_
                    refine go_istore (pc' := 201) (lo' := [some (.inr (.inr a0)), some (.inl a1), some (.inr (.inr a2)), some (.inr (.inr a3)), some (.inl w4_56), some (.inl y5_181), some (.inl v6_90), some (.inl y7_181), some (.inl t0_78), some (.inr (.inr n_83)), some (.inl v10_90), some (.inl v13_192), some (.inl v12_192), some (.inl v13_192), z14_192, z15_192]) rfl rfl rfl ?_
                    obtain ⟨x12_201, ex12_201, h⟩ := o_b1E h
                    refine go_iincE (pc' := 204) rfl rfl (y := (nI 1)) rfl ex12_201 (lo' := [some (.inr (.inr a0)), some (.inl a1), some (.inr (.inr a2)), some (.inr (.inr a3)), some (.inl w4_56), some (.inl y5_181), some (.inl v6_90), some (.inl y7_181), some (.inl t0_78), some (.inr (.inr n_83)), some (.inl v10_90), some (.inl v13_192), some (.inl x12_201), some (.inl v13_192), z14_192, z15_192]) rfl rfl ?_
                    refine go_iconst (pc' := 205) (v := (-1 : Int32)) rfl rfl rfl ?_
                    refine go_istore (pc' := 207) (lo' := [some (.inr (.inr a0)), some (.inl a1), some (.inr (.inr a2)), some (.inr (.inr a3)), some (.inl w4_56), some (.inl y5_181), some (.inl v6_90), some (.inl y7_181), some (.inl t0_78), some (.inr (.inr n_83)), some (.inl v10_90), some (.inl v13_192), some (.inl x12_201), some (.inl (-1 : Int32)), z14_192, z15_192]) rfl rfl rfl ?_
                    refine go_sipush (pc' := 210) (v := (nI 255)) rfl rfl rfl ?_
                    refine go_istore (pc' := 212) (lo' := [some (.inr (.inr a0)), some (.inl a1), some (.inr (.inr a2)), some (.inr (.inr a3)), some (.inl w4_56), some (.inl y5_181), some (.inl v6_90), some (.inl y7_181), some (.inl t0_78), some (.inr (.inr n_83)), some (.inl v10_90), some (.inl v13_192), some (.inl x12_201), some (.inl (-1 : Int32)), some (.inl (nI 255)), z15_192]) rfl rfl rfl ?_
                    obtain ⟨q212, hl212, hc212_322⟩ := o_s1E h
                    have ex212_322 : ∀ (w13_322 : Int32) (z14_x322 : Option ai_V) (h_z14_x322 : ai_isL z14_x322 = false) (z15_x322 : Option ai_V) (h_z15_x322 : ai_isL z15_x322 = false), w13_322 = q212 → ai_Go si_t (23, false, 3, cd_129) (ai_Cl si_t si_ms e) (sp_Q (some (.inl r)) I1 J Rf G1) 322 [some (.inr (.inr a0)), some (.inl a1), some (.inr (.inr a2)), some (.inr (.inr a3)), some (.inl w4_56), some (.inl y5_181), some (.inl v6_90), some (.inl y7_181), some (.inl t0_78), some (.inr (.inr n_83)), some (.inl v10_90), some (.inl v13_192), some (.inl x12_201), some (.inl w13_322), z14_x322, z15_x322] [] (0, 0) I_181 J Rf G_83 := by
                      intro w13_322 z14_x322 h_z14_x322 z15_x322 h_z15_x322 hq
                      have h : m_129_x212_322 v13_192 x12_201 w13_322 = some x192 := hc212_322 w13_322 hq.symm
                      unfold m_129_x212_322 at h
                      refine go_goto (pc' := 192) rfl rfl ?_
                      exact (lp_backE h hk192 z14_x322 h_z14_x322 z15_x322 h_z15_x322 :)
                    have lo212 : ∀ n s, lp (fun s => m_129_b212 a2 a3 G_83 I_181 v13_192 s.1 s.2) n s = some q212 → (fun s => ∀ (z15_212 : Option ai_V) (h_z15_212 : ai_isL z15_212 = false), ai_Go si_t (23, false, 3, cd_129) (ai_Cl si_t si_ms e) (sp_Q (some (.inl r)) I1 J Rf G1) 212 [some (.inr (.inr a0)), some (.inl a1), some (.inr (.inr a2)), some (.inr (.inr a3)), some (.inl w4_56), some (.inl y5_181), some (.inl v6_90), some (.inl y7_181), some (.inl t0_78), some (.inr (.inr n_83)), some (.inl v10_90), some (.inl v13_192), some (.inl x12_201), some (.inl s.1), some (.inl s.2), z15_212] [] (0, 0) I_181 J Rf G_83) s := lp_go (fun s x212 hx hk212 => by
                      obtain ⟨v13_212, v14_212⟩ := s
                      intro z15_212 h_z15_212
                      have h : m_129_b212 a2 a3 G_83 I_181 v13_192 v13_212 v14_212 = some x212 := hx
                      clear hx
                      show ai_Go si_t (23, false, 3, cd_129) (ai_Cl si_t si_ms e) (sp_Q (some (.inl r)) I1 J Rf G1) 212 [some (.inr (.inr a0)), some (.inl a1), some (.inr (.inr a2)), some (.inr (.inr a3)), some (.inl w4_56), some (.inl y5_181), some (.inl v6_90), some (.inl y7_181), some (.inl t0_78), some (.inr (.inr n_83)), some (.inl v10_90), some (.inl v13_192), some (.inl x12_201), some (.inl v13_212), some (.inl v14_212), z15_212] [] (0, 0) I_181 J Rf G_83
                      unfold m_129_b212 at h
                      refine go_iload (pc' := 214) rfl rfl rfl ?_
                      refine go_if_lt (pt := 322) (pc' := 217) rfl rfl rfl (fun h214 => ?_) (fun h214 => ?_)
                      · replace h := o_t h214 h
                        exact ex212_322 _ (some (.inl v14_212)) rfl z15_212 h_z15_212 (lp_exitE h hk212)
                      · replace h := o_f h214 h
                        refine go_aload_n (pc' := 218) rfl rfl rfl ?_
                        refine go_iload (pc' := 220) rfl rfl rfl ?_
                        obtain ⟨r_220, q_220, h⟩ := o_b1E h
                        refine go_callS (pc' := 223) (B' := (0, 0)) (st' := [.inl r_220]) rfl rfl (Or.inl (by decide)) rfl rfl trivial (md_126 (by omega) q_220) rfl rfl rfl ?_
                        have jn245 : ∀ (t0_245 : Int32) (z15_245 : Option ai_V) (h_z15_245 : ai_isL z15_245 = false), m_129_j245 a2 a3 G_83 I_181 v13_192 v13_212 v14_212 t0_245 = some x212 → ai_Go si_t (23, false, 3, cd_129) (ai_Cl si_t si_ms e) (sp_Q (some (.inl r)) I1 J Rf G1) 245 [some (.inr (.inr a0)), some (.inl a1), some (.inr (.inr a2)), some (.inr (.inr a3)), some (.inl w4_56), some (.inl y5_181), some (.inl v6_90), some (.inl y7_181), some (.inl t0_78), some (.inr (.inr n_83)), some (.inl v10_90), some (.inl v13_192), some (.inl x12_201), some (.inl v13_212), some (.inl v14_212), z15_245] [.inl t0_245] (0, 0) I_181 J Rf G_83 := by
                          intro t0_245 z15_245 h_z15_245 h
                          unfold m_129_j245 at h
                          refine go_istore (pc' := 247) (lo' := [some (.inr (.inr a0)), some (.inl a1), some (.inr (.inr a2)), some (.inr (.inr a3)), some (.inl w4_56), some (.inl y5_181), some (.inl v6_90), some (.inl y7_181), some (.inl t0_78), some (.inr (.inr n_83)), some (.inl v10_90), some (.inl v13_192), some (.inl x12_201), some (.inl v13_212), some (.inl v14_212), some (.inl t0_245)]) rfl rfl rfl ?_
                          refine go_iload (pc' := 249) rfl rfl rfl ?_
                          refine go_if_eq (pt := 312) (pc' := 252) rfl rfl rfl (fun h249 => ?_) (fun h249 => ?_)
                          · replace h := o_t h249 h
                            refine go_iload (pc' := 314) rfl rfl rfl ?_
                            refine go_istore (pc' := 316) (lo' := [some (.inr (.inr a0)), some (.inl a1), some (.inr (.inr a2)), some (.inr (.inr a3)), some (.inl w4_56), some (.inl y5_181), some (.inl v6_90), some (.inl y7_181), some (.inl t0_78), some (.inr (.inr n_83)), some (.inl v10_90), some (.inl v13_192), some (.inl x12_201), some (.inl v13_212), some (.inl v14_212), some (.inl t0_245)]) rfl rfl rfl ?_
                            obtain ⟨x14_316, ex14_316, h⟩ := o_b1E h
                            refine go_iincE (pc' := 319) rfl rfl (y := (-1 : Int32)) rfl ex14_316 (lo' := [some (.inr (.inr a0)), some (.inl a1), some (.inr (.inr a2)), some (.inr (.inr a3)), some (.inl w4_56), some (.inl y5_181), some (.inl v6_90), some (.inl y7_181), some (.inl t0_78), some (.inr (.inr n_83)), some (.inl v10_90), some (.inl v13_192), some (.inl x12_201), some (.inl v13_212), some (.inl x14_316), some (.inl t0_245)]) rfl rfl ?_
                            refine go_goto (pc' := 212) rfl rfl ?_
                            exact (lp_backE h hk212 (some (.inl t0_245)) rfl :)
                          · replace h := o_f h249 h
                            refine go_aload_n (pc' := 253) rfl rfl rfl ?_
                            refine go_iload (pc' := 255) rfl rfl rfl ?_
                            obtain ⟨g9, h⟩ := o_gE h
                            refine go_iaload (pc' := 256) rfl (o_inK g9) (o_inB g9) rfl ?_
                            refine go_aload_n (pc' := 257) rfl rfl rfl ?_
                            refine go_iload (pc' := 259) rfl rfl rfl ?_
                            obtain ⟨r_259, q_259, h⟩ := o_b1E h
                            refine go_callS (pc' := 262) (B' := (0, 0)) (st' := [.inl r_259, .inl (I_181 a2 v14_212.toNatClampNeg)]) rfl rfl (Or.inl (by decide)) rfl rfl trivial (md_124 (by omega) q_259) rfl rfl rfl ?_
                            refine go_iadd (pc' := 263) rfl rfl ?_
                            refine go_aload_n (pc' := 264) rfl rfl rfl ?_
                            refine go_iload (pc' := 266) rfl rfl rfl ?_
                            obtain ⟨g10, h⟩ := o_gE h
                            refine go_iaload (pc' := 267) rfl (o_inK g10) (o_inB g10) rfl ?_
                            refine go_aload_n (pc' := 268) rfl rfl rfl ?_
                            refine go_iload (pc' := 270) rfl rfl rfl ?_
                            obtain ⟨r_270, q_270, h⟩ := o_b1E h
                            refine go_callS (pc' := 273) (B' := (0, 0)) (st' := [.inl r_270, .inl (I_181 a2 v13_192.toNatClampNeg), .inl ((I_181 a2 v14_212.toNatClampNeg) + r_259)]) rfl rfl (Or.inl (by decide)) rfl rfl trivial (md_124 (by omega) q_270) rfl rfl rfl ?_
                            refine go_iadd (pc' := 274) rfl rfl ?_
                            refine go_icmp_le (pt := 312) (pc' := 277) rfl rfl rfl (fun h274 => ?_) (fun h274 => ?_)
                            · replace h := o_t h274 h
                              refine go_iload (pc' := 314) rfl rfl rfl ?_
                              refine go_istore (pc' := 316) (lo' := [some (.inr (.inr a0)), some (.inl a1), some (.inr (.inr a2)), some (.inr (.inr a3)), some (.inl w4_56), some (.inl y5_181), some (.inl v6_90), some (.inl y7_181), some (.inl t0_78), some (.inr (.inr n_83)), some (.inl v10_90), some (.inl v13_192), some (.inl x12_201), some (.inl v13_212), some (.inl v14_212), some (.inl t0_245)]) rfl rfl rfl ?_
                              obtain ⟨x14_316, ex14_316, h⟩ := o_b1E h
                              refine go_iincE (pc' := 319) rfl rfl (y := (-1 : Int32)) rfl ex14_316 (lo' := [some (.inr (.inr a0)), some (.inl a1), some (.inr (.inr a2)), some (.inr (.inr a3)), some (.inl w4_56), some (.inl y5_181), some (.inl v6_90), some (.inl y7_181), some (.inl t0_78), some (.inr (.inr n_83)), some (.inl v10_90), some (.inl v13_192), some (.inl x12_201), some (.inl v13_212), some (.inl x14_316), some (.inl t0_245)]) rfl rfl ?_
                              refine go_goto (pc' := 212) rfl rfl ?_
                              exact (lp_backE h hk212 (some (.inl t0_245)) rfl :)
                            · replace h := o_f h274 h
                              refine go_iload (pc' := 279) rfl rfl rfl ?_
                              refine go_if_lt (pt := 307) (pc' := 282) rfl rfl rfl (fun h279 => ?_) (fun h279 => ?_)
                              · replace h := o_t h279 h
                                refine go_iload (pc' := 309) rfl rfl rfl ?_
                                refine go_goto (pc' := 314) rfl rfl ?_
                                refine go_istore (pc' := 316) (lo' := [some (.inr (.inr a0)), some (.inl a1), some (.inr (.inr a2)), some (.inr (.inr a3)), some (.inl w4_56), some (.inl y5_181), some (.inl v6_90), some (.inl y7_181), some (.inl t0_78), some (.inr (.inr n_83)), some (.inl v10_90), some (.inl v13_192), some (.inl x12_201), some (.inl v14_212), some (.inl v14_212), some (.inl t0_245)]) rfl rfl rfl ?_
                                obtain ⟨x14_316, ex14_316, h⟩ := o_b1E h
                                refine go_iincE (pc' := 319) rfl rfl (y := (-1 : Int32)) rfl ex14_316 (lo' := [some (.inr (.inr a0)), some (.inl a1), some (.inr (.inr a2)), some (.inr (.inr a3)), some (.inl w4_56), some (.inl y5_181), some (.inl v6_90), some (.inl y7_181), some (.inl t0_78), some (.inr (.inr n_83)), some (.inl v10_90), some (.inl v13_192), some (.inl x12_201), some (.inl v14_212), some (.inl x14_316), some (.inl t0_245)]) rfl rfl ?_
                                refine go_goto (pc' := 212) rfl rfl ?_
                                exact (lp_backE h hk212 (some (.inl t0_245)) rfl :)
                              · replace h := o_f h279 h
                                refine go_aload_n (pc' := 283) rfl rfl rfl ?_
                                refine go_iload (pc' := 285) rfl rfl rfl ?_
                                obtain ⟨g11, h⟩ := o_gE h
                                refine go_iaload (pc' := 286) rfl (o_inK g11) (o_inB g11) rfl ?_
                                refine go_aload_n (pc' := 287) rfl rfl rfl ?_
                                refine go_iload (pc' := 289) rfl rfl rfl ?_
                                obtain ⟨r_289, q_289, h⟩ := o_b1E h
                                refine go_callS (pc' := 292) (B' := (0, 0)) (st' := [.inl r_289, .inl (I_181 a2 v14_212.toNatClampNeg)]) rfl rfl (Or.inl (by decide)) rfl rfl trivial (md_124 (by omega) q_289) rfl rfl rfl ?_
                                refine go_iadd (pc' := 293) rfl rfl ?_
                                refine go_aload_n (pc' := 294) rfl rfl rfl ?_
                                refine go_iload (pc' := 296) rfl rfl rfl ?_
                                obtain ⟨g12, h⟩ := o_gE h
                                refine go_iaload (pc' := 297) rfl (o_inK g12) (o_inB g12) rfl ?_
                                refine go_aload_n (pc' := 298) rfl rfl rfl ?_
                                refine go_iload (pc' := 300) rfl rfl rfl ?_
                                obtain ⟨r_300, q_300, h⟩ := o_b1E h
                                refine go_callS (pc' := 303) (B' := (0, 0)) (st' := [.inl r_300, .inl (I_181 a2 v13_212.toNatClampNeg), .inl ((I_181 a2 v14_212.toNatClampNeg) + r_289)]) rfl rfl (Or.inl (by decide)) rfl rfl trivial (md_124 (by omega) q_300) rfl rfl rfl ?_
                                refine go_iadd (pc' := 304) rfl rfl ?_
                                refine go_icmp_lt (pt := 312) (pc' := 307) rfl rfl rfl (fun h304 => ?_) (fun h304 => ?_)
                                · replace h := o_t h304 h
                                  refine go_iload (pc' := 314) rfl rfl rfl ?_
                                  refine go_istore (pc' := 316) (lo' := [some (.inr (.inr a0)), some (.inl a1), some (.inr (.inr a2)), some (.inr (.inr a3)), some (.inl w4_56), some (.inl y5_181), some (.inl v6_90), some (.inl y7_181), some (.inl t0_78), some (.inr (.inr n_83)), some (.inl v10_90), some (.inl v13_192), some (.inl x12_201), some (.inl v13_212), some (.inl v14_212), some (.inl t0_245)]) rfl rfl rfl ?_
                                  obtain ⟨x14_316, ex14_316, h⟩ := o_b1E h
                                  refine go_iincE (pc' := 319) rfl rfl (y := (-1 : Int32)) rfl ex14_316 (lo' := [some (.inr (.inr a0)), some (.inl a1), some (.inr (.inr a2)), some (.inr (.inr a3)), some (.inl w4_56), some (.inl y5_181), some (.inl v6_90), some (.inl y7_181), some (.inl t0_78), some (.inr (.inr n_83)), some (.inl v10_90), some (.inl v13_192), some (.inl x12_201), some (.inl v13_212), some (.inl x14_316), some (.inl t0_245)]) rfl rfl ?_
                                  refine go_goto (pc' := 212) rfl rfl ?_
                                  exact (lp_backE h hk212 (some (.inl t0_245)) rfl :)
                                · replace h := o_f h304 h
                                  refine go_iload (pc' := 309) rfl rfl rfl ?_
                                  refine go_goto (pc' := 314) rfl rfl ?_
                                  refine go_istore (pc' := 316) (lo' := [some (.inr (.inr a0)), some (.inl a1), some (.inr (.inr a2)), some (.inr (.inr a3)), some (.inl w4_56), some (.inl y5_181), some (.inl v6_90), some (.inl y7_181), some (.inl t0_78), some (.inr (.inr n_83)), some (.inl v10_90), some (.inl v13_192), some (.inl x12_201), some (.inl v14_212), some (.inl v14_212), some (.inl t0_245)]) rfl rfl rfl ?_
                                  obtain ⟨x14_316, ex14_316, h⟩ := o_b1E h
                                  refine go_iincE (pc' := 319) rfl rfl (y := (-1 : Int32)) rfl ex14_316 (lo' := [some (.inr (.inr a0)), some (.inl a1), some (.inr (.inr a2)), some (.inr (.inr a3)), some (.inl w4_56), some (.inl y5_181), some (.inl v6_90), some (.inl y7_181), some (.inl t0_78), some (.inr (.inr n_83)), some (.inl v10_90), some (.inl v13_192), some (.inl x12_201), some (.inl v14_212), some (.inl x14_316), some (.inl t0_245)]) rfl rfl ?_
                                  refine go_goto (pc' := 212) rfl rfl ?_
                                  exact (lp_backE h hk212 (some (.inl t0_245)) rfl :)
                        have jn244 : ∀ (z15_244 : Option ai_V) (h_z15_244 : ai_isL z15_244 = false), m_129_j244 a2 a3 G_83 I_181 v13_192 v13_212 v14_212 = some x212 → ai_Go si_t (23, false, 3, cd_129) (ai_Cl si_t si_ms e) (sp_Q (some (.inl r)) I1 J Rf G1) 244 [some (.inr (.inr a0)), some (.inl a1), some (.inr (.inr a2)), some (.inr (.inr a3)), some (.inl w4_56), some (.inl y5_181), some (.inl v6_90), some (.inl y7_181), some (.inl t0_78), some (.inr (.inr n_83)), some (.inl v10_90), some (.inl v13_192), some (.inl x12_201), some (.inl v13_212), some (.inl v14_212), z15_244] [] (0, 0) I_181 J Rf G_83 := by
                          intro z15_244 h_z15_244 h
                          unfold m_129_j244 at h
                          refine go_iconst (pc' := 245) (v := (nI 0)) rfl rfl rfl ?_
                          exact jn245 (nI 0) z15_244 h_z15_244 h
                        refine go_if_eq (pt := 244) (pc' := 226) rfl rfl rfl (fun h223 => ?_) (fun h223 => ?_)
                        · replace h := o_t h223 h
                          exact jn244 z15_212 h_z15_212 h
                        · replace h := o_f h223 h
                          refine go_iload (pc' := 228) rfl rfl rfl ?_
                          refine go_iload (pc' := 230) rfl rfl rfl ?_
                          refine go_iconst (pc' := 231) (v := (-1 : Int32)) rfl rfl rfl ?_
                          refine go_ixor (pc' := 232) rfl rfl ?_
                          refine go_iand (pc' := 233) rfl rfl ?_
                          obtain ⟨r_233, q_233, h⟩ := o_b1E h
                          refine go_callS (pc' := 236) (B' := (0, 0)) (st' := [.inl r_233]) rfl rfl (Or.inl (by decide)) rfl rfl trivial (md_115 (by omega) q_233) rfl rfl rfl ?_
                          refine go_iconst (pc' := 237) (v := (nI 1)) rfl rfl rfl ?_
                          refine go_icmp_ne (pt := 244) (pc' := 240) rfl rfl rfl (fun h237 => ?_) (fun h237 => ?_)
                          · replace h := o_f h237 h
                            exact jn244 z15_212 h_z15_212 h
                          · replace h := o_t (Decidable.of_not_not h237) h
                            refine go_iconst (pc' := 241) (v := (nI 1)) rfl rfl rfl ?_
                            refine go_goto (pc' := 245) rfl rfl ?_
                            exact jn245 (nI 1) z15_212 h_z15_212 h)
                    exact lo212 _ ((-1 : Int32), (nI 255)) hl212 z15_192 h_z15_192)
                exact lo192 _ (v10_90, (-1 : Int32), v10_90) hl192 z14_181 h_z14_181 z15_181 h_z15_181
              refine go_if_ne (pt := 181) (pc' := 151) rfl rfl rfl (fun h148 => ?_) (fun h148 => ?_)
              · replace h := o_f h148 h
                exact jn181 v5_90 v7_90 I_133 z11_133 h_z11_133 z12_133 h_z12_133 z13_133 h_z13_133 z14_133 h_z14_133 z15_133 h_z15_133 h
              · replace h := o_t (Decidable.of_not_not h148) h
                refine go_iload (pc' := 153) rfl rfl rfl ?_
                have jn176 : ∀ (t0_176 : Int32) (I_176 : ai_I) (z11_176 : Option ai_V) (h_z11_176 : ai_isL z11_176 = false) (z12_176 : Option ai_V) (h_z12_176 : ai_isL z12_176 = false) (z13_176 : Option ai_V) (h_z13_176 : ai_isL z13_176 = false) (z14_176 : Option ai_V) (h_z14_176 : ai_isL z14_176 = false) (z15_176 : Option ai_V) (h_z15_176 : ai_isL z15_176 = false), m_129_j176 a0 a1 a2 a3 Rf w4_56 t0_78 G_83 v6_90 v7_90 v10_90 t0_176 I_176 = some x90 → ai_Go si_t (23, false, 3, cd_129) (ai_Cl si_t si_ms e) (sp_Q (some (.inl r)) I1 J Rf G1) 176 [some (.inr (.inr a0)), some (.inl a1), some (.inr (.inr a2)), some (.inr (.inr a3)), some (.inl w4_56), some (.inl v5_90), some (.inl v6_90), some (.inl v7_90), some (.inl t0_78), some (.inr (.inr n_83)), some (.inl v10_90), z11_176, z12_176, z13_176, z14_176, z15_176] [.inl t0_176] (0, 0) I_176 J Rf G_83 := by
                  intro t0_176 I_176 z11_176 h_z11_176 z12_176 h_z12_176 z13_176 h_z13_176 z14_176 h_z14_176 z15_176 h_z15_176 h
                  unfold m_129_j176 at h
                  refine go_istore (pc' := 178) (lo' := [some (.inr (.inr a0)), some (.inl a1), some (.inr (.inr a2)), some (.inr (.inr a3)), some (.inl w4_56), some (.inl t0_176), some (.inl v6_90), some (.inl v7_90), some (.inl t0_78), some (.inr (.inr n_83)), some (.inl v10_90), z11_176, z12_176, z13_176, z14_176, z15_176]) rfl rfl rfl ?_
                  obtain ⟨x7_178, ex7_178, h⟩ := o_b1E h
                  refine go_iincE (pc' := 181) rfl rfl (y := (nI 1)) rfl ex7_178 (lo' := [some (.inr (.inr a0)), some (.inl a1), some (.inr (.inr a2)), some (.inr (.inr a3)), some (.inl w4_56), some (.inl t0_176), some (.inl v6_90), some (.inl x7_178), some (.inl t0_78), some (.inr (.inr n_83)), some (.inl v10_90), z11_176, z12_176, z13_176, z14_176, z15_176]) rfl rfl ?_
                  exact jn181 t0_176 x7_178 I_176 z11_176 h_z11_176 z12_176 h_z12_176 z13_176 h_z13_176 z14_176 h_z14_176 z15_176 h_z15_176 h
                have jn175 : ∀ (I_175 : ai_I) (z11_175 : Option ai_V) (h_z11_175 : ai_isL z11_175 = false) (z12_175 : Option ai_V) (h_z12_175 : ai_isL z12_175 = false) (z13_175 : Option ai_V) (h_z13_175 : ai_isL z13_175 = false) (z14_175 : Option ai_V) (h_z14_175 : ai_isL z14_175 = false) (z15_175 : Option ai_V) (h_z15_175 : ai_isL z15_175 = false), m_129_j175 a0 a1 a2 a3 Rf w4_56 t0_78 G_83 v6_90 v7_90 v10_90 I_175 = some x90 → ai_Go si_t (23, false, 3, cd_129) (ai_Cl si_t si_ms e) (sp_Q (some (.inl r)) I1 J Rf G1) 175 [some (.inr (.inr a0)), some (.inl a1), some (.inr (.inr a2)), some (.inr (.inr a3)), some (.inl w4_56), some (.inl v5_90), some (.inl v6_90), some (.inl v7_90), some (.inl t0_78), some (.inr (.inr n_83)), some (.inl v10_90), z11_175, z12_175, z13_175, z14_175, z15_175] [] (0, 0) I_175 J Rf G_83 := by
                  intro I_175 z11_175 h_z11_175 z12_175 h_z12_175 z13_175 h_z13_175 z14_175 h_z14_175 z15_175 h_z15_175 h
                  unfold m_129_j175 at h
                  refine go_iconst (pc' := 176) (v := (nI 0)) rfl rfl rfl ?_
                  exact jn176 (nI 0) I_175 z11_175 h_z11_175 z12_175 h_z12_175 z13_175 h_z13_175 z14_175 h_z14_175 z15_175 h_z15_175 h
                refine go_if_eq (pt := 175) (pc' := 156) rfl rfl rfl (fun h153 => ?_) (fun h153 => ?_)
                · replace h := o_t h153 h
                  exact jn175 I_133 z11_133 h_z11_133 z12_133 h_z12_133 z13_133 h_z13_133 z14_133 h_z14_133 z15_133 h_z15_133 h
                · replace h := o_f h153 h
                  refine go_aload_n (pc' := 157) rfl rfl rfl ?_
                  refine go_iload_n (pc' := 158) rfl rfl rfl ?_
                  refine go_bipush (pc' := 160) (v := (nI 10)) rfl rfl rfl ?_
                  refine go_iload (pc' := 162) rfl rfl rfl ?_
                  refine go_iadd (pc' := 163) rfl rfl ?_
                  obtain ⟨g13, h⟩ := o_gE h
                  obtain ⟨r_163, I_163, q_163, h⟩ := o_b2E h
                  refine go_callV (pc' := 166) (B' := (0, 0)) (st' := [.inl r_163]) rfl rfl (Or.inl (by decide)) rfl rfl (o_kdE g13) (md_107 (by omega) (o_kdE g13) q_163) rfl rfl rfl ?_
                  refine go_iload (pc' := 168) rfl rfl rfl ?_
                  refine go_icmp_ne (pt := 175) (pc' := 171) rfl rfl rfl (fun h168 => ?_) (fun h168 => ?_)
                  · replace h := o_f h168 h
                    exact jn175 I_163 z11_133 h_z11_133 z12_133 h_z12_133 z13_133 h_z13_133 z14_133 h_z14_133 z15_133 h_z15_133 h
                  · replace h := o_t (Decidable.of_not_not h168) h
                    refine go_iconst (pc' := 172) (v := (nI 1)) rfl rfl rfl ?_
                    refine go_goto (pc' := 176) rfl rfl ?_
                    exact jn176 (nI 1) I_163 z11_133 h_z11_133 z12_133 h_z12_133 z13_133 h_z13_133 z14_133 h_z14_133 z15_133 h_z15_133 h
          have jn131 : ∀ (z11_131 : Option ai_V) (h_z11_131 : ai_isL z11_131 = false) (z12_131 : Option ai_V) (h_z12_131 : ai_isL z12_131 = false) (z13_131 : Option ai_V) (h_z13_131 : ai_isL z13_131 = false) (z14_131 : Option ai_V) (h_z14_131 : ai_isL z14_131 = false) (z15_131 : Option ai_V) (h_z15_131 : ai_isL z15_131 = false), m_129_j131 a0 a1 a2 a3 Rf w4_56 t0_78 G_83 n_83 v5_90 v6_90 v7_90 v10_90 I_90 = some x90 → ai_Go si_t (23, false, 3, cd_129) (ai_Cl si_t si_ms e) (sp_Q (some (.inl r)) I1 J Rf G1) 131 [some (.inr (.inr a0)), some (.inl a1), some (.inr (.inr a2)), some (.inr (.inr a3)), some (.inl w4_56), some (.inl v5_90), some (.inl v6_90), some (.inl v7_90), some (.inl t0_78), some (.inr (.inr n_83)), some (.inl v10_90), z11_131, z12_131, z13_131, z14_131, z15_131] [.inl v10_90, .inr (.inr n_83)] (0, 0) I_90 J Rf G_83 := by
            intro z11_131 h_z11_131 z12_131 h_z12_131 z13_131 h_z13_131 z14_131 h_z14_131 z15_131 h_z15_131 h
            unfold m_129_j131 at h
            refine go_ldc (pc' := 133) (v := .inl (-2147483648 : Int32)) rfl rfl rfl ?_
            exact jn133 (-2147483648 : Int32) z11_131 h_z11_131 z12_131 h_z12_131 z13_131 h_z13_131 z14_131 h_z14_131 z15_131 h_z15_131 h
          refine go_if_eq (pt := 131) (pc' := 111) rfl rfl rfl (fun h108 => ?_) (fun h108 => ?_)
          · replace h := o_t h108 h
            exact jn131 z11_90 h_z11_90 z12_90 h_z12_90 z13_90 h_z13_90 z14_90 h_z14_90 z15_90 h_z15_90 h
          · replace h := o_f h108 h
            refine go_aload_n (pc' := 112) rfl rfl rfl ?_
            refine go_iload (pc' := 114) rfl rfl rfl ?_
            obtain ⟨g14, h⟩ := o_gE h
            refine go_iaload (pc' := 115) rfl (o_inK g14) (o_inB g14) rfl ?_
            refine go_aload_n (pc' := 116) rfl rfl rfl ?_
            refine go_iload (pc' := 118) rfl rfl rfl ?_
            obtain ⟨r_118, q_118, h⟩ := o_b1E h
            refine go_callS (pc' := 121) (B' := (0, 0)) (st' := [.inl r_118, .inl (I_90 a2 v10_90.toNatClampNeg), .inl v10_90, .inr (.inr n_83)]) rfl rfl (Or.inl (by decide)) rfl rfl trivial (md_124 (by omega) q_118) rfl rfl rfl ?_
            refine go_iadd (pc' := 122) rfl rfl ?_
            refine go_iload (pc' := 124) rfl rfl rfl ?_
            refine go_icmp_ne (pt := 131) (pc' := 127) rfl rfl rfl (fun h124 => ?_) (fun h124 => ?_)
            · replace h := o_f h124 h
              exact jn131 z11_90 h_z11_90 z12_90 h_z12_90 z13_90 h_z13_90 z14_90 h_z14_90 z15_90 h_z15_90 h
            · replace h := o_t (Decidable.of_not_not h124) h
              refine go_iconst (pc' := 128) (v := (nI 0)) rfl rfl rfl ?_
              refine go_goto (pc' := 133) rfl rfl ?_
              exact jn133 (nI 0) z11_90 h_z11_90 z12_90 h_z12_90 z13_90 h_z13_90 z14_90 h_z14_90 z15_90 h_z15_90 h)
      exact lo90 _ ((nI 1), (nI 0), (nI 0), (nI 0), I_83) hl90 none rfl none rfl none rfl none rfl none rfl
    refine go_icmp_ne (pt := 77) (pc' := 73) rfl rfl rfl (fun h70 => ?_) (fun h70 => ?_)
    · replace h := o_f h70 h
      refine go_iconst (pc' := 78) (v := (nI 0)) rfl rfl rfl ?_
      exact jn78 (nI 0) h
    · replace h := o_t (Decidable.of_not_not h70) h
      refine go_iconst (pc' := 74) (v := (nI 1)) rfl rfl rfl ?_
      refine go_goto (pc' := 78) rfl rfl ?_
      exact jn78 (nI 1) h
  have lo10 : ∀ n s, lp (fun s => m_129_b10 a2 a3 I G s.1 s.2) n s = some q10 → (fun s => ai_Go si_t (23, false, 3, cd_129) (ai_Cl si_t si_ms e) (sp_Q (some (.inl r)) I1 J Rf G1) 10 [some (.inr (.inr a0)), some (.inl a1), some (.inr (.inr a2)), some (.inr (.inr a3)), some (.inl s.1), some (.inl (nI 1)), some (.inl s.2), none, none, none, none, none, none, none, none, none] [] (1, 256) I J Rf G) s := lp_go (fun s x10 hx hk10 => by
    obtain ⟨v4_10, v6_10⟩ := s
    have h : m_129_b10 a2 a3 I G v4_10 v6_10 = some x10 := hx
    clear hx
    show ai_Go si_t (23, false, 3, cd_129) (ai_Cl si_t si_ms e) (sp_Q (some (.inl r)) I1 J Rf G1) 10 [some (.inr (.inr a0)), some (.inl a1), some (.inr (.inr a2)), some (.inr (.inr a3)), some (.inl v4_10), some (.inl (nI 1)), some (.inl v6_10), none, none, none, none, none, none, none, none, none] [] (1, 256) I J Rf G
    unfold m_129_b10 at h
    refine go_iload (pc' := 12) rfl rfl rfl ?_
    refine go_sipush (pc' := 15) (v := (nI 256)) rfl rfl rfl ?_
    refine go_icmp_ge (pt := 56) (pc' := 18) rfl rfl rfl (fun h15 => ?_) (fun h15 => ?_)
    · replace h := o_t h15 h
      exact ex10_56 _ (some (.inl v6_10)) rfl (lp_exitE h hk10)
    · replace h := o_f h15 h
      refine go_aload_n (pc' := 19) rfl rfl rfl ?_
      refine go_iload (pc' := 21) rfl rfl rfl ?_
      obtain ⟨r_21, q_21, h⟩ := o_b1E h
      refine go_callS (pc' := 24) (B' := (1, 256)) (st' := [.inl r_21]) rfl rfl (Or.inl (by decide)) rfl rfl trivial (md_126 (by omega) q_21) rfl rfl rfl ?_
      refine go_if_eq (pt := 46) (pc' := 27) rfl rfl rfl (fun h24 => ?_) (fun h24 => ?_)
      · replace h := o_t h24 h
        refine go_iload (pc' := 48) rfl rfl rfl ?_
        refine go_istore (pc' := 50) (lo' := [some (.inr (.inr a0)), some (.inl a1), some (.inr (.inr a2)), some (.inr (.inr a3)), some (.inl v4_10), some (.inl (nI 1)), some (.inl v6_10), none, none, none, none, none, none, none, none, none]) rfl rfl rfl ?_
        obtain ⟨x6_50, ex6_50, h⟩ := o_b1E h
        refine go_iincE (pc' := 53) rfl rfl (y := (nI 1)) rfl ex6_50 (lo' := [some (.inr (.inr a0)), some (.inl a1), some (.inr (.inr a2)), some (.inr (.inr a3)), some (.inl v4_10), some (.inl (nI 1)), some (.inl x6_50), none, none, none, none, none, none, none, none, none]) rfl rfl ?_
        refine go_goto (pc' := 10) rfl rfl ?_
        exact (lp_backE h hk10 :)
      · replace h := o_f h24 h
        refine go_iload (pc' := 29) rfl rfl rfl ?_
        refine go_aload_n (pc' := 30) rfl rfl rfl ?_
        refine go_iload (pc' := 32) rfl rfl rfl ?_
        obtain ⟨g15, h⟩ := o_gE h
        refine go_iaload (pc' := 33) rfl (o_inK g15) (o_inB g15) rfl ?_
        refine go_aload_n (pc' := 34) rfl rfl rfl ?_
        refine go_iload (pc' := 36) rfl rfl rfl ?_
        obtain ⟨r_36, q_36, h⟩ := o_b1E h
        refine go_callS (pc' := 39) (B' := (1, 256)) (st' := [.inl r_36, .inl (I a2 v6_10.toNatClampNeg), .inl v4_10]) rfl rfl (Or.inl (by decide)) rfl rfl trivial (md_124 (by omega) q_36) rfl rfl rfl ?_
        refine go_iadd (pc' := 40) rfl rfl ?_
        refine go_max (pc' := 43) rfl rfl (Nat.le_of_ble_eq_true rfl) rfl ?_
        obtain ⟨r_40, er_40, h⟩ := o_b1E h
        refine go_ndI er_40 ?_
        refine go_goto (pc' := 48) rfl rfl ?_
        refine go_istore (pc' := 50) (lo' := [some (.inr (.inr a0)), some (.inl a1), some (.inr (.inr a2)), some (.inr (.inr a3)), some (.inl r_40), some (.inl (nI 1)), some (.inl v6_10), none, none, none, none, none, none, none, none, none]) rfl rfl rfl ?_
        obtain ⟨x6_50, ex6_50, h⟩ := o_b1E h
        refine go_iincE (pc' := 53) rfl rfl (y := (nI 1)) rfl ex6_50 (lo' := [some (.inr (.inr a0)), some (.inl a1), some (.inr (.inr a2)), some (.inr (.inr a3)), some (.inl r_40), some (.inl (nI 1)), some (.inl x6_50), none, none, none, none, none, none, none, none, none]) rfl rfl ?_
        refine go_goto (pc' := 10) rfl rfl ?_
        exact (lp_backE h hk10 :))
  exact lo10 _ ((-99999999 : Int32), (nI 0)) hl10 
def m_130_x10_104 (w5_104 : Int32) : Option (Int32) :=
  if w5_104 = (nI 1) then (some (nI 0)) else (some (nI 1))
def m_130_j87 (v4_10 : Int32) (v6_10 : Int32) (x7_58 : Int32) (t0_87 : Int32) : Option ((Int32 × Int32 × Int32) ⊕ Int32) :=
  o_b1 (some (if v4_10 < x7_58 then x7_58 else v4_10)) (fun r_93 => o_b1 (some (v6_10 + (nI 1))) (fun x6_98 => some (Sum.inl (r_93, t0_87, x6_98))))
def m_130_b10 (a0 : Nat) (a1 : Nat) (a2 : Int32) (a3 : Int32) (I : ai_I) (G : ai_G) (v4_10 : Int32) (v5_10 : Int32) (v6_10 : Int32) : Option ((Int32 × Int32 × Int32) ⊕ Int32) :=
  if (nI 8) ≤ v6_10 then (some (Sum.inr v5_10)) else (o_b1 (m_121 (a3 &&& a2) v6_10) (fun r_22 => if r_22 = 0 then (o_b1 (some (v6_10 + (nI 1))) (fun x6_98 => some (Sum.inl (v4_10, v5_10, x6_98)))) else (o_b1 (m_126 a0 (a3 &&& (((nI 1) <<< (v6_10 &&& 31)) ^^^ (-1 : Int32))) I G) (fun r_37 => if r_37 = 0 then (o_b1 (some (v6_10 + (nI 1))) (fun x6_98 => some (Sum.inl (v4_10, v5_10, x6_98)))) else (o_g (o_in G 13 a0 (a3 &&& (((nI 1) <<< (v6_10 &&& 31)) ^^^ (-1 : Int32)))) (o_g (o_in G 13 a1 v6_10) (o_b1 (some ((I a0 (a3 &&& (((nI 1) <<< (v6_10 &&& 31)) ^^^ (-1 : Int32))).toNatClampNeg) + (I a1 v6_10.toNatClampNeg))) (fun x7_58 => if x7_58 ≤ v4_10 then (if x7_58 = v4_10 then (m_130_j87 v4_10 v6_10 x7_58 (v5_10 + (nI 1))) else (m_130_j87 v4_10 v6_10 x7_58 v5_10)) else (m_130_j87 v4_10 v6_10 x7_58 (nI 1))))))))))
/-- PricedBasesLaw.twice([I[III)Z -/
def m_130 (a0 : Nat) (a1 : Nat) (a2 : Int32) (a3 : Int32) (I : ai_I) (G : ai_G) : Option (Int32) :=
  o_s1 (lp (fun s => m_130_b10 a0 a1 a2 a3 I G s.1 s.2.1 s.2.2) o_N ((-99999999 : Int32), (nI 0), (nI 0))) (fun t => m_130_x10_104 t)
theorem md_130 {d : Nat} {I : ai_I} {J : ai_J} {Rf : ai_R} {G : ai_G} {a0 : Nat} {a1 : Nat} {a2 : Int32} {a3 : Int32} {r : Int32} (hd : 2 ≤ d) (h : m_130 a0 a1 a2 a3 I G = some r) : ai_Cl si_t si_ms d 130 [.inr (.inr a0), .inr (.inr a1), .inl a2, .inl a3] I J Rf G (some (.inl r)) I J Rf G := by
  obtain ⟨e, rfl⟩ : ∃ e, d = e + 1 := ⟨d - 1, by omega⟩
  unfold m_130 at h
  refine sp_in (lo := [some (.inr (.inr a0)), some (.inr (.inr a1)), some (.inl a2), some (.inl a3), none, none, none, none]) (B := (0, 0)) rfl (Nat.le_of_ble_eq_true rfl) rfl rfl ?_
  refine go_ldc (pc' := 2) (v := .inl (-99999999 : Int32)) rfl rfl rfl ?_
  refine go_istore (pc' := 4) (lo' := [some (.inr (.inr a0)), some (.inr (.inr a1)), some (.inl a2), some (.inl a3), some (.inl (-99999999 : Int32)), none, none, none]) rfl rfl rfl ?_
  refine go_iconst (pc' := 5) (v := (nI 0)) rfl rfl rfl ?_
  refine go_istore (pc' := 7) (lo' := [some (.inr (.inr a0)), some (.inr (.inr a1)), some (.inl a2), some (.inl a3), some (.inl (-99999999 : Int32)), some (.inl (nI 0)), none, none]) rfl rfl rfl ?_
  refine go_iconst (pc' := 8) (v := (nI 0)) rfl rfl rfl ?_
  refine go_istore (pc' := 10) (lo' := [some (.inr (.inr a0)), some (.inr (.inr a1)), some (.inl a2), some (.inl a3), some (.inl (-99999999 : Int32)), some (.inl (nI 0)), some (.inl (nI 0)), none]) rfl rfl rfl ?_
  obtain ⟨q10, hl10, hc10_104⟩ := o_s1E h
  have ex10_104 : ∀ (w5_104 : Int32) (z4_x104 : Option ai_V) (h_z4_x104 : ai_isL z4_x104 = false) (z6_x104 : Option ai_V) (h_z6_x104 : ai_isL z6_x104 = false) (z7_x104 : Option ai_V) (h_z7_x104 : ai_isL z7_x104 = false), w5_104 = q10 → ai_Go si_t (23, false, 3, cd_130) (ai_Cl si_t si_ms e) (sp_Q (some (.inl r)) I J Rf G) 104 [some (.inr (.inr a0)), some (.inr (.inr a1)), some (.inl a2), some (.inl a3), z4_x104, some (.inl w5_104), z6_x104, z7_x104] [] (0, 0) I J Rf G := by
    intro w5_104 z4_x104 h_z4_x104 z6_x104 h_z6_x104 z7_x104 h_z7_x104 hq
    have h : m_130_x10_104 w5_104 = some r := hc10_104 w5_104 hq.symm
    unfold m_130_x10_104 at h
    refine go_iload (pc' := 106) rfl rfl rfl ?_
    refine go_iconst (pc' := 107) (v := (nI 1)) rfl rfl rfl ?_
    refine go_icmp_eq (pt := 114) (pc' := 110) rfl rfl rfl (fun h107 => ?_) (fun h107 => ?_)
    · replace h := o_t h107 h
      refine go_iconst (pc' := 115) (v := (nI 0)) rfl rfl rfl ?_
      cases h
      exact go_iret rfl (rfl) ⟨rfl, rfl, rfl, rfl, rfl⟩
    · replace h := o_f h107 h
      refine go_iconst (pc' := 111) (v := (nI 1)) rfl rfl rfl ?_
      refine go_goto (pc' := 115) rfl rfl ?_
      cases h
      exact go_iret rfl (rfl) ⟨rfl, rfl, rfl, rfl, rfl⟩
  have lo10 : ∀ n s, lp (fun s => m_130_b10 a0 a1 a2 a3 I G s.1 s.2.1 s.2.2) n s = some q10 → (fun s => ∀ (z7_10 : Option ai_V) (h_z7_10 : ai_isL z7_10 = false), ai_Go si_t (23, false, 3, cd_130) (ai_Cl si_t si_ms e) (sp_Q (some (.inl r)) I J Rf G) 10 [some (.inr (.inr a0)), some (.inr (.inr a1)), some (.inl a2), some (.inl a3), some (.inl s.1), some (.inl s.2.1), some (.inl s.2.2), z7_10] [] (0, 0) I J Rf G) s := lp_go (fun s x10 hx hk10 => by
    obtain ⟨v4_10, v5_10, v6_10⟩ := s
    intro z7_10 h_z7_10
    have h : m_130_b10 a0 a1 a2 a3 I G v4_10 v5_10 v6_10 = some x10 := hx
    clear hx
    show ai_Go si_t (23, false, 3, cd_130) (ai_Cl si_t si_ms e) (sp_Q (some (.inl r)) I J Rf G) 10 [some (.inr (.inr a0)), some (.inr (.inr a1)), some (.inl a2), some (.inl a3), some (.inl v4_10), some (.inl v5_10), some (.inl v6_10), z7_10] [] (0, 0) I J Rf G
    unfold m_130_b10 at h
    refine go_iload (pc' := 12) rfl rfl rfl ?_
    refine go_bipush (pc' := 14) (v := (nI 8)) rfl rfl rfl ?_
    refine go_icmp_ge (pt := 104) (pc' := 17) rfl rfl rfl (fun h14 => ?_) (fun h14 => ?_)
    · replace h := o_t h14 h
      exact ex10_104 _ (some (.inl v4_10)) rfl (some (.inl v6_10)) rfl z7_10 h_z7_10 (lp_exitE h hk10)
    · replace h := o_f h14 h
      refine go_iload_n (pc' := 18) rfl rfl rfl ?_
      refine go_iload_n (pc' := 19) rfl rfl rfl ?_
      refine go_iand (pc' := 20) rfl rfl ?_
      refine go_iload (pc' := 22) rfl rfl rfl ?_
      obtain ⟨r_22, q_22, h⟩ := o_b1E h
      refine go_callS (pc' := 25) (B' := (0, 0)) (st' := [.inl r_22]) rfl rfl (Or.inl (by decide)) rfl rfl trivial (md_121 (by omega) q_22) rfl rfl rfl ?_
      refine go_if_eq (pt := 98) (pc' := 28) rfl rfl rfl (fun h25 => ?_) (fun h25 => ?_)
      · replace h := o_t h25 h
        obtain ⟨x6_98, ex6_98, h⟩ := o_b1E h
        refine go_iincE (pc' := 101) rfl rfl (y := (nI 1)) rfl ex6_98 (lo' := [some (.inr (.inr a0)), some (.inr (.inr a1)), some (.inl a2), some (.inl a3), some (.inl v4_10), some (.inl v5_10), some (.inl x6_98), z7_10]) rfl rfl ?_
        refine go_goto (pc' := 10) rfl rfl ?_
        exact (lp_backE h hk10 z7_10 h_z7_10 :)
      · replace h := o_f h25 h
        refine go_aload_n (pc' := 29) rfl rfl rfl ?_
        refine go_iload_n (pc' := 30) rfl rfl rfl ?_
        refine go_iconst (pc' := 31) (v := (nI 1)) rfl rfl rfl ?_
        refine go_iload (pc' := 33) rfl rfl rfl ?_
        refine go_ishl (pc' := 34) rfl rfl ?_
        refine go_iconst (pc' := 35) (v := (-1 : Int32)) rfl rfl rfl ?_
        refine go_ixor (pc' := 36) rfl rfl ?_
        refine go_iand (pc' := 37) rfl rfl ?_
        obtain ⟨r_37, q_37, h⟩ := o_b1E h
        refine go_callS (pc' := 40) (B' := (0, 0)) (st' := [.inl r_37]) rfl rfl (Or.inl (by decide)) rfl rfl trivial (md_126 (by omega) q_37) rfl rfl rfl ?_
        refine go_if_eq (pt := 98) (pc' := 43) rfl rfl rfl (fun h40 => ?_) (fun h40 => ?_)
        · replace h := o_t h40 h
          obtain ⟨x6_98, ex6_98, h⟩ := o_b1E h
          refine go_iincE (pc' := 101) rfl rfl (y := (nI 1)) rfl ex6_98 (lo' := [some (.inr (.inr a0)), some (.inr (.inr a1)), some (.inl a2), some (.inl a3), some (.inl v4_10), some (.inl v5_10), some (.inl x6_98), z7_10]) rfl rfl ?_
          refine go_goto (pc' := 10) rfl rfl ?_
          exact (lp_backE h hk10 z7_10 h_z7_10 :)
        · replace h := o_f h40 h
          refine go_aload_n (pc' := 44) rfl rfl rfl ?_
          refine go_iload_n (pc' := 45) rfl rfl rfl ?_
          refine go_iconst (pc' := 46) (v := (nI 1)) rfl rfl rfl ?_
          refine go_iload (pc' := 48) rfl rfl rfl ?_
          refine go_ishl (pc' := 49) rfl rfl ?_
          refine go_iconst (pc' := 50) (v := (-1 : Int32)) rfl rfl rfl ?_
          refine go_ixor (pc' := 51) rfl rfl ?_
          refine go_iand (pc' := 52) rfl rfl ?_
          obtain ⟨g0, h⟩ := o_gE h
          refine go_iaload (pc' := 53) rfl (o_inK g0) (o_inB g0) rfl ?_
          refine go_aload_n (pc' := 54) rfl rfl rfl ?_
          refine go_iload (pc' := 56) rfl rfl rfl ?_
          obtain ⟨g1, h⟩ := o_gE h
          refine go_iaload (pc' := 57) rfl (o_inK g1) (o_inB g1) rfl ?_
          refine go_iadd (pc' := 58) rfl rfl ?_
          obtain ⟨x7_58, ex7_58, h⟩ := o_b1E h
          refine go_ndI ex7_58 ?_
          refine go_istore (pc' := 60) (lo' := [some (.inr (.inr a0)), some (.inr (.inr a1)), some (.inl a2), some (.inl a3), some (.inl v4_10), some (.inl v5_10), some (.inl v6_10), some (.inl x7_58)]) rfl rfl rfl ?_
          refine go_iload (pc' := 62) rfl rfl rfl ?_
          refine go_iload (pc' := 64) rfl rfl rfl ?_
          have jn87 : ∀ (t0_87 : Int32), m_130_j87 v4_10 v6_10 x7_58 t0_87 = some x10 → ai_Go si_t (23, false, 3, cd_130) (ai_Cl si_t si_ms e) (sp_Q (some (.inl r)) I J Rf G) 87 [some (.inr (.inr a0)), some (.inr (.inr a1)), some (.inl a2), some (.inl a3), some (.inl v4_10), some (.inl v5_10), some (.inl v6_10), some (.inl x7_58)] [.inl t0_87] (0, 0) I J Rf G := by
            intro t0_87 h
            unfold m_130_j87 at h
            refine go_istore (pc' := 89) (lo' := [some (.inr (.inr a0)), some (.inr (.inr a1)), some (.inl a2), some (.inl a3), some (.inl v4_10), some (.inl t0_87), some (.inl v6_10), some (.inl x7_58)]) rfl rfl rfl ?_
            refine go_iload (pc' := 91) rfl rfl rfl ?_
            refine go_iload (pc' := 93) rfl rfl rfl ?_
            refine go_max (pc' := 96) rfl rfl (Nat.le_of_ble_eq_true rfl) rfl ?_
            obtain ⟨r_93, er_93, h⟩ := o_b1E h
            refine go_ndI er_93 ?_
            refine go_istore (pc' := 98) (lo' := [some (.inr (.inr a0)), some (.inr (.inr a1)), some (.inl a2), some (.inl a3), some (.inl r_93), some (.inl t0_87), some (.inl v6_10), some (.inl x7_58)]) rfl rfl rfl ?_
            obtain ⟨x6_98, ex6_98, h⟩ := o_b1E h
            refine go_iincE (pc' := 101) rfl rfl (y := (nI 1)) rfl ex6_98 (lo' := [some (.inr (.inr a0)), some (.inr (.inr a1)), some (.inl a2), some (.inl a3), some (.inl r_93), some (.inl t0_87), some (.inl x6_98), some (.inl x7_58)]) rfl rfl ?_
            refine go_goto (pc' := 10) rfl rfl ?_
            exact (lp_backE h hk10 (some (.inl x7_58)) rfl :)
          refine go_icmp_le (pt := 71) (pc' := 67) rfl rfl rfl (fun h64 => ?_) (fun h64 => ?_)
          · replace h := o_t h64 h
            refine go_iload (pc' := 73) rfl rfl rfl ?_
            refine go_iload (pc' := 75) rfl rfl rfl ?_
            refine go_icmp_ne (pt := 85) (pc' := 78) rfl rfl rfl (fun h75 => ?_) (fun h75 => ?_)
            · replace h := o_f h75 h
              refine go_iload (pc' := 87) rfl rfl rfl ?_
              exact jn87 v5_10 h
            · replace h := o_t (Decidable.of_not_not h75) h
              refine go_iload (pc' := 80) rfl rfl rfl ?_
              refine go_iconst (pc' := 81) (v := (nI 1)) rfl rfl rfl ?_
              refine go_iadd (pc' := 82) rfl rfl ?_
              refine go_goto (pc' := 87) rfl rfl ?_
              exact jn87 (v5_10 + (nI 1)) h
          · replace h := o_f h64 h
            refine go_iconst (pc' := 68) (v := (nI 1)) rfl rfl rfl ?_
            refine go_goto (pc' := 87) rfl rfl ?_
            exact jn87 (nI 1) h)
  exact lo10 _ ((-99999999 : Int32), (nI 0), (nI 0)) hl10 none rfl
def m_131_j301 (a0 : Nat) (a1 : Int32) (Rf : ai_R) (w8_258 : Int32) (w9_258 : Int32) (Gx_258 : ai_G) (r_288 : Int32) (I_288 : ai_I) (t1_301 : Int32) : Option (Int32 × ai_I × ai_G) :=
  if r_288 = t1_301 then (o_b2 (m_110 a0 a1 (nI 0) I_288 Rf Gx_258) (fun r_307 I_307 => if r_307 = w8_258 then (o_b2 (m_110 a0 a1 (nI 1) I_307 Rf Gx_258) (fun r_318 I_318 => if r_318 = w9_258 then (o_b2 (m_100 a0 a1 (nI 7) I_318 Rf Gx_258) (fun r_330 I_330 => if r_330 = 0 then (some ((nI 1), I_330, Gx_258)) else (if w9_258 = w8_258 then (some ((nI 1), I_330, Gx_258)) else (some ((nI 0), I_330, Gx_258))))) else (some ((nI 0), I_318, Gx_258)))) else (some ((nI 0), I_307, Gx_258)))) else (some ((nI 0), I_288, Gx_258))
def m_131_x15_258 (a0 : Nat) (a1 : Int32) (Rf : ai_R) (w6_258 : Int32) (w7_258 : Int32) (w8_258 : Int32) (w9_258 : Int32) (Ix_258 : ai_I) (Gx_258 : ai_G) (Bx_258 : Nat × Nat) : Option (Int32 × ai_I × ai_G) :=
  if w6_258 = 0 then (some ((nI 0), Ix_258, Gx_258)) else (o_g (o_kd Gx_258 a0 10) (o_b2 (m_109 a0 a1 (-1 : Int32) Ix_258 Rf Gx_258) (fun r_266 I_266 => if r_266 = w7_258 then (o_b2 (m_109 a0 a1 w7_258 I_266 Rf Gx_258) (fun r_278 I_278 => if r_278 = (-4 : Int32) then (o_b2 (m_108 a0 a1 I_278 Rf Gx_258) (fun r_288 I_288 => if w7_258 = 0 then (m_131_j301 a0 a1 Rf w8_258 w9_258 Gx_258 r_288 I_288 (nI 1)) else (m_131_j301 a0 a1 Rf w8_258 w9_258 Gx_258 r_288 I_288 (nI 0)))) else (some ((nI 0), I_278, Gx_258)))) else (some ((nI 0), I_266, Gx_258)))))
def m_131_j229 (v8_15 : Int32) (v9_15 : Int32) (v10_15 : Int32) (y6_76 : Int32) (y7_76 : Int32) (G_89 : ai_G) (B_89 : Nat × Nat) (w12_160 : Int32) (Ix_160 : ai_I) (w13_217 : Int32) (t1_229 : Int32) : Option ((Int32 × Int32 × Int32 × Int32 × Int32 × ai_I × ai_G × Nat × Nat) ⊕ (Int32 × Int32 × Int32 × Int32 × ai_I × ai_G × Nat × Nat)) :=
  o_b1 (some (v8_15 + t1_229)) (fun x8_230 => if w12_160 ≤ 0 then (o_b1 (some (v9_15 + (nI 0))) (fun x9_250 => o_b1 (some (v10_15 + (nI 1))) (fun x10_252 => some (Sum.inl (y6_76, y7_76, x8_230, x9_250, x10_252, Ix_160, G_89, B_89))))) else (if w13_217 = 0 then (o_b1 (some (v9_15 + (nI 0))) (fun x9_250 => o_b1 (some (v10_15 + (nI 1))) (fun x10_252 => some (Sum.inl (y6_76, y7_76, x8_230, x9_250, x10_252, Ix_160, G_89, B_89))))) else (o_b1 (some (v9_15 + (nI 1))) (fun x9_250 => o_b1 (some (v10_15 + (nI 1))) (fun x10_252 => some (Sum.inl (y6_76, y7_76, x8_230, x9_250, x10_252, Ix_160, G_89, B_89)))))))
def m_131_x166_217 (v8_15 : Int32) (v9_15 : Int32) (v10_15 : Int32) (y6_76 : Int32) (y7_76 : Int32) (G_89 : ai_G) (B_89 : Nat × Nat) (w12_160 : Int32) (Ix_160 : ai_I) (w13_217 : Int32) : Option ((Int32 × Int32 × Int32 × Int32 × Int32 × ai_I × ai_G × Nat × Nat) ⊕ (Int32 × Int32 × Int32 × Int32 × ai_I × ai_G × Nat × Nat)) :=
  if w12_160 ≤ 0 then (m_131_j229 v8_15 v9_15 v10_15 y6_76 y7_76 G_89 B_89 w12_160 Ix_160 w13_217 (nI 0)) else (m_131_j229 v8_15 v9_15 v10_15 y6_76 y7_76 G_89 B_89 w12_160 Ix_160 w13_217 (nI 1))
def m_131_b166 (a2 : Int32) (a3 : Int32) (a4 : Nat) (G_89 : ai_G) (n_89 : Nat) (w12_160 : Int32) (Ix_160 : ai_I) (v13_166 : Int32) (v14_166 : Int32) : Option ((Int32 × Int32) ⊕ Int32) :=
  if ((nI 1) <<< (a2 &&& 31)) ≤ v14_166 then (some (Sum.inr v13_166)) else (if v13_166 = 0 then (o_b1 (some (v14_166 + (nI 1))) (fun x14_211 => some (Sum.inl ((nI 0), x14_211)))) else (o_b1 (m_115 v14_166) (fun r_181 => if r_181 = (a3 + (nI 1)) then (o_b1 (m_130 a4 n_89 w12_160 v14_166 Ix_160 G_89) (fun r_198 => if r_198 = 0 then (o_b1 (some (v14_166 + (nI 1))) (fun x14_211 => some (Sum.inl ((nI 0), x14_211)))) else (o_b1 (some (v14_166 + (nI 1))) (fun x14_211 => some (Sum.inl ((nI 1), x14_211)))))) else (o_b1 (some (v14_166 + (nI 1))) (fun x14_211 => some (Sum.inl ((nI 1), x14_211)))))))
def m_131_x99_160 (a2 : Int32) (a3 : Int32) (a4 : Nat) (v8_15 : Int32) (v9_15 : Int32) (v10_15 : Int32) (y6_76 : Int32) (y7_76 : Int32) (G_89 : ai_G) (n_89 : Nat) (B_89 : Nat × Nat) (w12_160 : Int32) (Ix_160 : ai_I) : Option ((Int32 × Int32 × Int32 × Int32 × Int32 × ai_I × ai_G × Nat × Nat) ⊕ (Int32 × Int32 × Int32 × Int32 × ai_I × ai_G × Nat × Nat)) :=
  o_s1 (lp (fun s => m_131_b166 a2 a3 a4 G_89 n_89 w12_160 Ix_160 s.1 s.2) o_N ((nI 1), (nI 0))) (fun t => m_131_x166_217 v8_15 v9_15 v10_15 y6_76 y7_76 G_89 B_89 w12_160 Ix_160 t)
def m_131_b99 (a2 : Int32) (a4 : Nat) (v10_15 : Int32) (G_89 : ai_G) (n_89 : Nat) (v12_99 : Int32) (v13_99 : Int32) (I_99 : ai_I) : Option ((Int32 × Int32 × ai_I) ⊕ (Int32 × ai_I)) :=
  if a2 ≤ v13_99 then (some (Sum.inr (v12_99, I_99))) else (o_b1 (m_121 v10_15 v13_99) (fun r_109 => if r_109 = 0 then (o_b1 (m_126 a4 (v10_15 ||| ((nI 1) <<< (v13_99 &&& 31))) I_99 G_89) (fun r_124 => if r_124 = 0 then (o_b1 (some (v13_99 + (nI 1))) (fun x13_154 => some (Sum.inl (v12_99, x13_154, I_99)))) else (o_b1 (some (v12_99 ||| ((nI 1) <<< (v13_99 &&& 31)))) (fun x12_137 => o_g (o_in G_89 13 a4 (v10_15 ||| ((nI 1) <<< (v13_99 &&& 31)))) (o_g (o_in G_89 13 n_89 v13_99) (o_b1 (some (va_up I_99 n_89 (va_up (I_99 n_89) v13_99.toNatClampNeg (I_99 a4 (v10_15 ||| ((nI 1) <<< (v13_99 &&& 31))).toNatClampNeg)))) (fun I_153 => o_b1 (some (v13_99 + (nI 1))) (fun x13_154 => some (Sum.inl (x12_137, x13_154, I_153)))))))))) else (o_b1 (some (v13_99 + (nI 1))) (fun x13_154 => some (Sum.inl (v12_99, x13_154, I_99))))))
def m_131_j76 (a2 : Int32) (a3 : Int32) (a4 : Nat) (v8_15 : Int32) (v9_15 : Int32) (v10_15 : Int32) (G_15 : ai_G) (B_15 : Nat × Nat) (y6_76 : Int32) (y7_76 : Int32) (I_76 : ai_I) : Option ((Int32 × Int32 × Int32 × Int32 × Int32 × ai_I × ai_G × Nat × Nat) ⊕ (Int32 × Int32 × Int32 × Int32 × ai_I × ai_G × Nat × Nat)) :=
  o_b1 (m_115 v10_15) (fun r_78 => if r_78 = (a3 - (nI 1)) then (o_g (o_lt9 G_15) (o_g (o_bd B_15 1 8) (o_b1 (some (va_up I_76 (G_15.2.2 + 1) (fun _ => 0))) (fun I_89 => o_b1 (some (va_up G_15.1 (G_15.2.2 + 1) 13, va_up G_15.2.1 (G_15.2.2 + 1) 8, G_15.2.2 + 1)) (fun G_89 => o_b1 (some (G_15.2.2 + 1)) (fun n_89 => o_b1 (some ((B_15.1 - 1, B_15.2 - 8) : Nat × Nat)) (fun B_89 => o_s1 (lp (fun s => m_131_b99 a2 a4 v10_15 G_89 n_89 s.1 s.2.1 s.2.2) o_N ((nI 0), (nI 0), I_89)) (fun t => m_131_x99_160 a2 a3 a4 v8_15 v9_15 v10_15 y6_76 y7_76 G_89 n_89 B_89 t.1 t.2)))))))) else (o_b1 (some (v10_15 + (nI 1))) (fun x10_252 => some (Sum.inl (y6_76, y7_76, v8_15, v9_15, x10_252, I_76, G_15, B_15)))))
def m_131_j71 (a2 : Int32) (a3 : Int32) (a4 : Nat) (v7_15 : Int32) (v8_15 : Int32) (v9_15 : Int32) (v10_15 : Int32) (G_15 : ai_G) (B_15 : Nat × Nat) (t0_71 : Int32) (I_71 : ai_I) : Option ((Int32 × Int32 × Int32 × Int32 × Int32 × ai_I × ai_G × Nat × Nat) ⊕ (Int32 × Int32 × Int32 × Int32 × ai_I × ai_G × Nat × Nat)) :=
  o_b1 (some (v7_15 + (nI 1))) (fun x7_73 => m_131_j76 a2 a3 a4 v8_15 v9_15 v10_15 G_15 B_15 t0_71 x7_73 I_71)
def m_131_j70 (a2 : Int32) (a3 : Int32) (a4 : Nat) (v7_15 : Int32) (v8_15 : Int32) (v9_15 : Int32) (v10_15 : Int32) (G_15 : ai_G) (B_15 : Nat × Nat) (I_70 : ai_I) : Option ((Int32 × Int32 × Int32 × Int32 × Int32 × ai_I × ai_G × Nat × Nat) ⊕ (Int32 × Int32 × Int32 × Int32 × ai_I × ai_G × Nat × Nat)) :=
  m_131_j71 a2 a3 a4 v7_15 v8_15 v9_15 v10_15 G_15 B_15 (nI 0) I_70
def m_131_b15 (a0 : Nat) (a1 : Int32) (a2 : Int32) (a3 : Int32) (a4 : Nat) (a5 : Nat) (Rf : ai_R) (v6_15 : Int32) (v7_15 : Int32) (v8_15 : Int32) (v9_15 : Int32) (v10_15 : Int32) (I_15 : ai_I) (G_15 : ai_G) (B_15 : Nat × Nat) : Option ((Int32 × Int32 × Int32 × Int32 × Int32 × ai_I × ai_G × Nat × Nat) ⊕ (Int32 × Int32 × Int32 × Int32 × ai_I × ai_G × Nat × Nat)) :=
  if ((nI 1) <<< (a2 &&& 31)) ≤ v10_15 then (some (Sum.inr (v6_15, v7_15, v8_15, v9_15, I_15, G_15, B_15))) else (o_b1 (m_115 v10_15) (fun r_25 => if r_25 = (a3 + (nI 1)) then (o_b1 (m_130 a4 a5 (nI 255) v10_15 I_15 G_15) (fun r_43 => if r_43 = 0 then (if v6_15 = 0 then (m_131_j70 a2 a3 a4 v7_15 v8_15 v9_15 v10_15 G_15 B_15 I_15) else (o_g (o_kd G_15 a0 10) (o_b2 (m_109 a0 a1 v7_15 I_15 Rf G_15) (fun r_58 I_58 => if r_58 = v10_15 then (m_131_j71 a2 a3 a4 v7_15 v8_15 v9_15 v10_15 G_15 B_15 (nI 1) I_58) else (m_131_j70 a2 a3 a4 v7_15 v8_15 v9_15 v10_15 G_15 B_15 I_58))))) else (m_131_j76 a2 a3 a4 v8_15 v9_15 v10_15 G_15 B_15 v6_15 v7_15 I_15))) else (m_131_j76 a2 a3 a4 v8_15 v9_15 v10_15 G_15 B_15 v6_15 v7_15 I_15)))
/-- PricedBasesLaw.spaces(LPricedBases;III[I[I)Z -/
def m_131 (a0 : Nat) (a1 : Int32) (a2 : Int32) (a3 : Int32) (a4 : Nat) (a5 : Nat) (I : ai_I) (Rf : ai_R) (G : ai_G) : Option (Int32 × ai_I × ai_G) :=
  o_b1 (some ((24, 192) : Nat × Nat)) (fun B_00 => o_s1 (lp (fun s => m_131_b15 a0 a1 a2 a3 a4 a5 Rf s.1 s.2.1 s.2.2.1 s.2.2.2.1 s.2.2.2.2.1 s.2.2.2.2.2.1 s.2.2.2.2.2.2.1 s.2.2.2.2.2.2.2) o_N ((nI 1), (nI 0), (nI 0), (nI 0), (nI 0), I, G, B_00)) (fun t => m_131_x15_258 a0 a1 Rf t.1 t.2.1 t.2.2.1 t.2.2.2.1 t.2.2.2.2.1 t.2.2.2.2.2.1 t.2.2.2.2.2.2))
set_option maxHeartbeats 20000000 in
set_option maxRecDepth 100000 in
theorem md_131 {d : Nat} {I : ai_I} {J : ai_J} {Rf : ai_R} {G : ai_G} {a0 : Nat} {a1 : Int32} {a2 : Int32} {a3 : Int32} {a4 : Nat} {a5 : Nat} {r : Int32} {I1 : ai_I} {G1 : ai_G} (hd : 8 ≤ d) (h : m_131 a0 a1 a2 a3 a4 a5 I Rf G = some (r, I1, G1)) : ai_Cl si_t si_ms d 131 [.inr (.inr a0), .inl a1, .inl a2, .inl a3, .inr (.inr a4), .inr (.inr a5)] I J Rf G (some (.inl r)) I1 J Rf G1 := by
  obtain ⟨e, rfl⟩ : ∃ e, d = e + 1 := ⟨d - 1, by omega⟩
  unfold m_131 at h
  refine sp_in (lo := [some (.inr (.inr a0)), some (.inl a1), some (.inl a2), some (.inl a3), some (.inr (.inr a4)), some (.inr (.inr a5)), none, none, none, none, none, none, none, none, none]) (B := (24, 192)) rfl (Nat.le_of_ble_eq_true rfl) rfl rfl ?_
  obtain ⟨B_00, eB_00, h⟩ := o_b1E h
  refine go_ndBs eB_00 ?_
  refine go_iconst (pc' := 1) (v := (nI 1)) rfl rfl rfl ?_
  refine go_istore (pc' := 3) (lo' := [some (.inr (.inr a0)), some (.inl a1), some (.inl a2), some (.inl a3), some (.inr (.inr a4)), some (.inr (.inr a5)), some (.inl (nI 1)), none, none, none, none, none, none, none, none]) rfl rfl rfl ?_
  refine go_iconst (pc' := 4) (v := (nI 0)) rfl rfl rfl ?_
  refine go_istore (pc' := 6) (lo' := [some (.inr (.inr a0)), some (.inl a1), some (.inl a2), some (.inl a3), some (.inr (.inr a4)), some (.inr (.inr a5)), some (.inl (nI 1)), some (.inl (nI 0)), none, none, none, none, none, none, none]) rfl rfl rfl ?_
  refine go_iconst (pc' := 7) (v := (nI 0)) rfl rfl rfl ?_
  refine go_istore (pc' := 9) (lo' := [some (.inr (.inr a0)), some (.inl a1), some (.inl a2), some (.inl a3), some (.inr (.inr a4)), some (.inr (.inr a5)), some (.inl (nI 1)), some (.inl (nI 0)), some (.inl (nI 0)), none, none, none, none, none, none]) rfl rfl rfl ?_
  refine go_iconst (pc' := 10) (v := (nI 0)) rfl rfl rfl ?_
  refine go_istore (pc' := 12) (lo' := [some (.inr (.inr a0)), some (.inl a1), some (.inl a2), some (.inl a3), some (.inr (.inr a4)), some (.inr (.inr a5)), some (.inl (nI 1)), some (.inl (nI 0)), some (.inl (nI 0)), some (.inl (nI 0)), none, none, none, none, none]) rfl rfl rfl ?_
  refine go_iconst (pc' := 13) (v := (nI 0)) rfl rfl rfl ?_
  refine go_istore (pc' := 15) (lo' := [some (.inr (.inr a0)), some (.inl a1), some (.inl a2), some (.inl a3), some (.inr (.inr a4)), some (.inr (.inr a5)), some (.inl (nI 1)), some (.inl (nI 0)), some (.inl (nI 0)), some (.inl (nI 0)), some (.inl (nI 0)), none, none, none, none]) rfl rfl rfl ?_
  obtain ⟨q15, hl15, hc15_258⟩ := o_s1E h
  have ex15_258 : ∀ (w6_258 : Int32) (w7_258 : Int32) (w8_258 : Int32) (w9_258 : Int32) (Ix_258 : ai_I) (Gx_258 : ai_G) (Bx_258 : Nat × Nat) (z10_x258 : Option ai_V) (h_z10_x258 : ai_isL z10_x258 = false) (z11_x258 : Option ai_V) (h_z11_x258 : ai_isL z11_x258 = false) (z12_x258 : Option ai_V) (h_z12_x258 : ai_isL z12_x258 = false) (z13_x258 : Option ai_V) (h_z13_x258 : ai_isL z13_x258 = false) (z14_x258 : Option ai_V) (h_z14_x258 : ai_isL z14_x258 = false), (w6_258, w7_258, w8_258, w9_258, Ix_258, Gx_258, Bx_258) = q15 → ai_Go si_t (23, false, 3, cd_131) (ai_Cl si_t si_ms e) (sp_Q (some (.inl r)) I1 J Rf G1) 258 [some (.inr (.inr a0)), some (.inl a1), some (.inl a2), some (.inl a3), some (.inr (.inr a4)), some (.inr (.inr a5)), some (.inl w6_258), some (.inl w7_258), some (.inl w8_258), some (.inl w9_258), z10_x258, z11_x258, z12_x258, z13_x258, z14_x258] [] Bx_258 Ix_258 J Rf Gx_258 := by
    intro w6_258 w7_258 w8_258 w9_258 Ix_258 Gx_258 Bx_258 z10_x258 h_z10_x258 z11_x258 h_z11_x258 z12_x258 h_z12_x258 z13_x258 h_z13_x258 z14_x258 h_z14_x258 hq
    have h : m_131_x15_258 a0 a1 Rf w6_258 w7_258 w8_258 w9_258 Ix_258 Gx_258 Bx_258 = some (r, I1, G1) := hc15_258 (w6_258, w7_258, w8_258, w9_258, Ix_258, Gx_258, Bx_258) hq.symm
    unfold m_131_x15_258 at h
    refine go_iload (pc' := 260) rfl rfl rfl ?_
    refine go_if_eq (pt := 347) (pc' := 263) rfl rfl rfl (fun h260 => ?_) (fun h260 => ?_)
    · replace h := o_t h260 h
      refine go_iconst (pc' := 348) (v := (nI 0)) rfl rfl rfl ?_
      cases h
      exact go_iret rfl (rfl) ⟨rfl, rfl, rfl, rfl, rfl⟩
    · replace h := o_f h260 h
      refine go_aload_n (pc' := 264) rfl rfl rfl ?_
      refine go_iload_n (pc' := 265) rfl rfl rfl ?_
      refine go_iconst (pc' := 266) (v := (-1 : Int32)) rfl rfl rfl ?_
      obtain ⟨g0, h⟩ := o_gE h
      obtain ⟨r_266, I_266, q_266, h⟩ := o_b2E h
      refine go_callVb (pc' := 269) (b1 := 0) (b2 := 0) (st' := [.inl r_266]) rfl rfl (Or.inl (by decide)) rfl rfl rfl o_bd0 rfl (o_kdE g0) (md_109 (by omega) (o_kdE g0) q_266) rfl rfl rfl ?_
      refine go_iload (pc' := 271) rfl rfl rfl ?_
      refine go_icmp_ne (pt := 347) (pc' := 274) rfl rfl rfl (fun h271 => ?_) (fun h271 => ?_)
      · replace h := o_f h271 h
        refine go_iconst (pc' := 348) (v := (nI 0)) rfl rfl rfl ?_
        cases h
        exact go_iret rfl (rfl) ⟨rfl, rfl, rfl, rfl, rfl⟩
      · replace h := o_t (Decidable.of_not_not h271) h
        refine go_aload_n (pc' := 275) rfl rfl rfl ?_
        refine go_iload_n (pc' := 276) rfl rfl rfl ?_
        refine go_iload (pc' := 278) rfl rfl rfl ?_
        obtain ⟨r_278, I_278, q_278, h⟩ := o_b2E h
        refine go_callVb (pc' := 281) (b1 := 0) (b2 := 0) (st' := [.inl r_278]) rfl rfl (Or.inl (by decide)) rfl rfl rfl o_bd0 rfl (o_kdE g0) (md_109 (by omega) (o_kdE g0) q_278) rfl rfl rfl ?_
        refine go_bipush (pc' := 283) (v := (-4 : Int32)) rfl rfl rfl ?_
        refine go_icmp_ne (pt := 347) (pc' := 286) rfl rfl rfl (fun h283 => ?_) (fun h283 => ?_)
        · replace h := o_f h283 h
          refine go_iconst (pc' := 348) (v := (nI 0)) rfl rfl rfl ?_
          cases h
          exact go_iret rfl (rfl) ⟨rfl, rfl, rfl, rfl, rfl⟩
        · replace h := o_t (Decidable.of_not_not h283) h
          refine go_aload_n (pc' := 287) rfl rfl rfl ?_
          refine go_iload_n (pc' := 288) rfl rfl rfl ?_
          obtain ⟨r_288, I_288, q_288, h⟩ := o_b2E h
          refine go_callVb (pc' := 291) (b1 := 0) (b2 := 0) (st' := [.inl r_288]) rfl rfl (Or.inl (by decide)) rfl rfl rfl o_bd0 rfl (o_kdE g0) (md_108 (by omega) (o_kdE g0) q_288) rfl rfl rfl ?_
          refine go_iload (pc' := 293) rfl rfl rfl ?_
          have jn301 : ∀ (t1_301 : Int32) (z10_301 : Option ai_V) (h_z10_301 : ai_isL z10_301 = false) (z11_301 : Option ai_V) (h_z11_301 : ai_isL z11_301 = false) (z12_301 : Option ai_V) (h_z12_301 : ai_isL z12_301 = false) (z13_301 : Option ai_V) (h_z13_301 : ai_isL z13_301 = false) (z14_301 : Option ai_V) (h_z14_301 : ai_isL z14_301 = false), m_131_j301 a0 a1 Rf w8_258 w9_258 Gx_258 r_288 I_288 t1_301 = some (r, I1, G1) → ai_Go si_t (23, false, 3, cd_131) (ai_Cl si_t si_ms e) (sp_Q (some (.inl r)) I1 J Rf G1) 301 [some (.inr (.inr a0)), some (.inl a1), some (.inl a2), some (.inl a3), some (.inr (.inr a4)), some (.inr (.inr a5)), some (.inl w6_258), some (.inl w7_258), some (.inl w8_258), some (.inl w9_258), z10_301, z11_301, z12_301, z13_301, z14_301] [.inl t1_301, .inl r_288] Bx_258 I_288 J Rf Gx_258 := by
            intro t1_301 z10_301 h_z10_301 z11_301 h_z11_301 z12_301 h_z12_301 z13_301 h_z13_301 z14_301 h_z14_301 h
            unfold m_131_j301 at h
            refine go_icmp_ne (pt := 347) (pc' := 304) rfl rfl rfl (fun h301 => ?_) (fun h301 => ?_)
            · replace h := o_f h301 h
              refine go_iconst (pc' := 348) (v := (nI 0)) rfl rfl rfl ?_
              cases h
              exact go_iret rfl (rfl) ⟨rfl, rfl, rfl, rfl, rfl⟩
            · replace h := o_t (Decidable.of_not_not h301) h
              refine go_aload_n (pc' := 305) rfl rfl rfl ?_
              refine go_iload_n (pc' := 306) rfl rfl rfl ?_
              refine go_iconst (pc' := 307) (v := (nI 0)) rfl rfl rfl ?_
              obtain ⟨r_307, I_307, q_307, h⟩ := o_b2E h
              refine go_callVb (pc' := 310) (b1 := 0) (b2 := 0) (st' := [.inl r_307]) rfl rfl (Or.inl (by decide)) rfl rfl rfl o_bd0 rfl (o_kdE g0) (md_110 (by omega) (o_kdE g0) q_307) rfl rfl rfl ?_
              refine go_iload (pc' := 312) rfl rfl rfl ?_
              refine go_icmp_ne (pt := 347) (pc' := 315) rfl rfl rfl (fun h312 => ?_) (fun h312 => ?_)
              · replace h := o_f h312 h
                refine go_iconst (pc' := 348) (v := (nI 0)) rfl rfl rfl ?_
                cases h
                exact go_iret rfl (rfl) ⟨rfl, rfl, rfl, rfl, rfl⟩
              · replace h := o_t (Decidable.of_not_not h312) h
                refine go_aload_n (pc' := 316) rfl rfl rfl ?_
                refine go_iload_n (pc' := 317) rfl rfl rfl ?_
                refine go_iconst (pc' := 318) (v := (nI 1)) rfl rfl rfl ?_
                obtain ⟨r_318, I_318, q_318, h⟩ := o_b2E h
                refine go_callVb (pc' := 321) (b1 := 0) (b2 := 0) (st' := [.inl r_318]) rfl rfl (Or.inl (by decide)) rfl rfl rfl o_bd0 rfl (o_kdE g0) (md_110 (by omega) (o_kdE g0) q_318) rfl rfl rfl ?_
                refine go_iload (pc' := 323) rfl rfl rfl ?_
                refine go_icmp_ne (pt := 347) (pc' := 326) rfl rfl rfl (fun h323 => ?_) (fun h323 => ?_)
                · replace h := o_f h323 h
                  refine go_iconst (pc' := 348) (v := (nI 0)) rfl rfl rfl ?_
                  cases h
                  exact go_iret rfl (rfl) ⟨rfl, rfl, rfl, rfl, rfl⟩
                · replace h := o_t (Decidable.of_not_not h323) h
                  refine go_aload_n (pc' := 327) rfl rfl rfl ?_
                  refine go_iload_n (pc' := 328) rfl rfl rfl ?_
                  refine go_bipush (pc' := 330) (v := (nI 7)) rfl rfl rfl ?_
                  obtain ⟨r_330, I_330, q_330, h⟩ := o_b2E h
                  refine go_callVb (pc' := 333) (b1 := 0) (b2 := 0) (st' := [.inl r_330]) rfl rfl (Or.inl (by decide)) rfl rfl rfl o_bd0 rfl (o_kdE g0) (md_100 (by omega) (o_kdE g0) q_330) rfl rfl rfl ?_
                  refine go_if_eq (pt := 343) (pc' := 336) rfl rfl rfl (fun h333 => ?_) (fun h333 => ?_)
                  · replace h := o_t h333 h
                    refine go_iconst (pc' := 344) (v := (nI 1)) rfl rfl rfl ?_
                    refine go_goto (pc' := 348) rfl rfl ?_
                    cases h
                    exact go_iret rfl (rfl) ⟨rfl, rfl, rfl, rfl, rfl⟩
                  · replace h := o_f h333 h
                    refine go_iload (pc' := 338) rfl rfl rfl ?_
                    refine go_iload (pc' := 340) rfl rfl rfl ?_
                    refine go_icmp_ne (pt := 347) (pc' := 343) rfl rfl rfl (fun h340 => ?_) (fun h340 => ?_)
                    · replace h := o_f h340 h
                      refine go_iconst (pc' := 348) (v := (nI 0)) rfl rfl rfl ?_
                      cases h
                      exact go_iret rfl (rfl) ⟨rfl, rfl, rfl, rfl, rfl⟩
                    · replace h := o_t (Decidable.of_not_not h340) h
                      refine go_iconst (pc' := 344) (v := (nI 1)) rfl rfl rfl ?_
                      refine go_goto (pc' := 348) rfl rfl ?_
                      cases h
                      exact go_iret rfl (rfl) ⟨rfl, rfl, rfl, rfl, rfl⟩
          refine go_if_ne (pt := 300) (pc' := 296) rfl rfl rfl (fun h293 => ?_) (fun h293 => ?_)
          · replace h := o_f h293 h
            refine go_iconst (pc' := 301) (v := (nI 0)) rfl rfl rfl ?_
            exact jn301 (nI 0) z10_x258 h_z10_x258 z11_x258 h_z11_x258 z12_x258 h_z12_x258 z13_x258 h_z13_x258 z14_x258 h_z14_x258 h
          · replace h := o_t (Decidable.of_not_not h293) h
            refine go_iconst (pc' := 297) (v := (nI 1)) rfl rfl rfl ?_
            refine go_goto (pc' := 301) rfl rfl ?_
            exact jn301 (nI 1) z10_x258 h_z10_x258 z11_x258 h_z11_x258 z12_x258 h_z12_x258 z13_x258 h_z13_x258 z14_x258 h_z14_x258 h
  have lo15 : ∀ n s, lp (fun s => m_131_b15 a0 a1 a2 a3 a4 a5 Rf s.1 s.2.1 s.2.2.1 s.2.2.2.1 s.2.2.2.2.1 s.2.2.2.2.2.1 s.2.2.2.2.2.2.1 s.2.2.2.2.2.2.2) n s = some q15 → (fun s => ∀ (z11_15 : Option ai_V) (h_z11_15 : ai_isL z11_15 = false) (z12_15 : Option ai_V) (h_z12_15 : ai_isL z12_15 = false) (z13_15 : Option ai_V) (h_z13_15 : ai_isL z13_15 = false) (z14_15 : Option ai_V) (h_z14_15 : ai_isL z14_15 = false), ai_Go si_t (23, false, 3, cd_131) (ai_Cl si_t si_ms e) (sp_Q (some (.inl r)) I1 J Rf G1) 15 [some (.inr (.inr a0)), some (.inl a1), some (.inl a2), some (.inl a3), some (.inr (.inr a4)), some (.inr (.inr a5)), some (.inl s.1), some (.inl s.2.1), some (.inl s.2.2.1), some (.inl s.2.2.2.1), some (.inl s.2.2.2.2.1), z11_15, z12_15, z13_15, z14_15] [] s.2.2.2.2.2.2.2 s.2.2.2.2.2.1 J Rf s.2.2.2.2.2.2.1) s := lp_go (fun s x15 hx hk15 => by
    obtain ⟨v6_15, v7_15, v8_15, v9_15, v10_15, I_15, G_15, B_15⟩ := s
    intro z11_15 h_z11_15 z12_15 h_z12_15 z13_15 h_z13_15 z14_15 h_z14_15
    have h : m_131_b15 a0 a1 a2 a3 a4 a5 Rf v6_15 v7_15 v8_15 v9_15 v10_15 I_15 G_15 B_15 = some x15 := hx
    clear hx
    show ai_Go si_t (23, false, 3, cd_131) (ai_Cl si_t si_ms e) (sp_Q (some (.inl r)) I1 J Rf G1) 15 [some (.inr (.inr a0)), some (.inl a1), some (.inl a2), some (.inl a3), some (.inr (.inr a4)), some (.inr (.inr a5)), some (.inl v6_15), some (.inl v7_15), some (.inl v8_15), some (.inl v9_15), some (.inl v10_15), z11_15, z12_15, z13_15, z14_15] [] B_15 I_15 J Rf G_15
    unfold m_131_b15 at h
    refine go_iload (pc' := 17) rfl rfl rfl ?_
    refine go_iconst (pc' := 18) (v := (nI 1)) rfl rfl rfl ?_
    refine go_iload_n (pc' := 19) rfl rfl rfl ?_
    refine go_ishl (pc' := 20) rfl rfl ?_
    refine go_icmp_ge (pt := 258) (pc' := 23) rfl rfl rfl (fun h20 => ?_) (fun h20 => ?_)
    · replace h := o_t h20 h
      exact ex15_258 _ _ _ _ _ _ _ (some (.inl v10_15)) rfl z11_15 h_z11_15 z12_15 h_z12_15 z13_15 h_z13_15 z14_15 h_z14_15 (lp_exitE h hk15)
    · replace h := o_f h20 h
      refine go_iload (pc' := 25) rfl rfl rfl ?_
      obtain ⟨r_25, q_25, h⟩ := o_b1E h
      refine go_callSb (pc' := 28) (b1 := 0) (b2 := 0) (st' := [.inl r_25]) rfl rfl (Or.inl (by decide)) rfl rfl rfl o_bd0 rfl trivial (md_115 (by omega) q_25) rfl rfl rfl ?_
      refine go_iload_n (pc' := 29) rfl rfl rfl ?_
      refine go_iconst (pc' := 30) (v := (nI 1)) rfl rfl rfl ?_
      refine go_iadd (pc' := 31) rfl rfl ?_
      have jn76 : ∀ (y6_76 : Int32) (y7_76 : Int32) (I_76 : ai_I) (z11_76 : Option ai_V) (h_z11_76 : ai_isL z11_76 = false) (z12_76 : Option ai_V) (h_z12_76 : ai_isL z12_76 = false) (z13_76 : Option ai_V) (h_z13_76 : ai_isL z13_76 = false) (z14_76 : Option ai_V) (h_z14_76 : ai_isL z14_76 = false), m_131_j76 a2 a3 a4 v8_15 v9_15 v10_15 G_15 B_15 y6_76 y7_76 I_76 = some x15 → ai_Go si_t (23, false, 3, cd_131) (ai_Cl si_t si_ms e) (sp_Q (some (.inl r)) I1 J Rf G1) 76 [some (.inr (.inr a0)), some (.inl a1), some (.inl a2), some (.inl a3), some (.inr (.inr a4)), some (.inr (.inr a5)), some (.inl y6_76), some (.inl y7_76), some (.inl v8_15), some (.inl v9_15), some (.inl v10_15), z11_76, z12_76, z13_76, z14_76] [] B_15 I_76 J Rf G_15 := by
        intro y6_76 y7_76 I_76 z11_76 h_z11_76 z12_76 h_z12_76 z13_76 h_z13_76 z14_76 h_z14_76 h
        unfold m_131_j76 at h
        refine go_iload (pc' := 78) rfl rfl rfl ?_
        obtain ⟨r_78, q_78, h⟩ := o_b1E h
        refine go_callSb (pc' := 81) (b1 := 0) (b2 := 0) (st' := [.inl r_78]) rfl rfl (Or.inl (by decide)) rfl rfl rfl o_bd0 rfl trivial (md_115 (by omega) q_78) rfl rfl rfl ?_
        refine go_iload_n (pc' := 82) rfl rfl rfl ?_
        refine go_iconst (pc' := 83) (v := (nI 1)) rfl rfl rfl ?_
        refine go_isub (pc' := 84) rfl rfl ?_
        refine go_icmp_ne (pt := 252) (pc' := 87) rfl rfl rfl (fun h84 => ?_) (fun h84 => ?_)
        · replace h := o_f h84 h
          obtain ⟨x10_252, ex10_252, h⟩ := o_b1E h
          refine go_iincE (pc' := 255) rfl rfl (y := (nI 1)) rfl ex10_252 (lo' := [some (.inr (.inr a0)), some (.inl a1), some (.inl a2), some (.inl a3), some (.inr (.inr a4)), some (.inr (.inr a5)), some (.inl y6_76), some (.inl y7_76), some (.inl v8_15), some (.inl v9_15), some (.inl x10_252), z11_76, z12_76, z13_76, z14_76]) rfl rfl ?_
          refine go_goto (pc' := 15) rfl rfl ?_
          exact (lp_backE h hk15 z11_76 h_z11_76 z12_76 h_z12_76 z13_76 h_z13_76 z14_76 h_z14_76 :)
        · replace h := o_t (Decidable.of_not_not h84) h
          refine go_bipush (pc' := 89) (v := (nI 8)) rfl rfl rfl ?_
          obtain ⟨g1, h⟩ := o_gE h
          obtain ⟨g2, h⟩ := o_gE h
          refine go_newI (pc' := 91) (N := 8) rfl (by decide) (by decide) (o_bdE1 g2) (o_bdE2 g2) (by decide) (o_lt9E g1) rfl ?_
          obtain ⟨I_89, eI_89, h⟩ := o_b1E h
          obtain ⟨G_89, eG_89, h⟩ := o_b1E h
          obtain ⟨n_89, en_89, h⟩ := o_b1E h
          refine go_ndMI eI_89 ?_
          refine go_ndMG eG_89 ?_
          refine go_ndR en_89 ?_
          obtain ⟨B_89, eB_89, h⟩ := o_b1E h
          refine go_ndBs eB_89 ?_
          refine go_astore (pc' := 93) (lo' := [some (.inr (.inr a0)), some (.inl a1), some (.inl a2), some (.inl a3), some (.inr (.inr a4)), some (.inr (.inr a5)), some (.inl y6_76), some (.inl y7_76), some (.inl v8_15), some (.inl v9_15), some (.inl v10_15), some (.inr (.inr n_89)), z12_76, z13_76, z14_76]) rfl rfl rfl ?_
          refine go_iconst (pc' := 94) (v := (nI 0)) rfl rfl rfl ?_
          refine go_istore (pc' := 96) (lo' := [some (.inr (.inr a0)), some (.inl a1), some (.inl a2), some (.inl a3), some (.inr (.inr a4)), some (.inr (.inr a5)), some (.inl y6_76), some (.inl y7_76), some (.inl v8_15), some (.inl v9_15), some (.inl v10_15), some (.inr (.inr n_89)), some (.inl (nI 0)), z13_76, z14_76]) rfl rfl rfl ?_
          refine go_iconst (pc' := 97) (v := (nI 0)) rfl rfl rfl ?_
          refine go_istore (pc' := 99) (lo' := [some (.inr (.inr a0)), some (.inl a1), some (.inl a2), some (.inl a3), some (.inr (.inr a4)), some (.inr (.inr a5)), some (.inl y6_76), some (.inl y7_76), some (.inl v8_15), some (.inl v9_15), some (.inl v10_15), some (.inr (.inr n_89)), some (.inl (nI 0)), some (.inl (nI 0)), z14_76]) rfl rfl rfl ?_
          obtain ⟨q99, hl99, hc99_160⟩ := o_s1E h
          have ex99_160 : ∀ (w12_160 : Int32) (Ix_160 : ai_I) (z13_x160 : Option ai_V) (h_z13_x160 : ai_isL z13_x160 = false), (w12_160, Ix_160) = q99 → ai_Go si_t (23, false, 3, cd_131) (ai_Cl si_t si_ms e) (sp_Q (some (.inl r)) I1 J Rf G1) 160 [some (.inr (.inr a0)), some (.inl a1), some (.inl a2), some (.inl a3), some (.inr (.inr a4)), some (.inr (.inr a5)), some (.inl y6_76), some (.inl y7_76), some (.inl v8_15), some (.inl v9_15), some (.inl v10_15), some (.inr (.inr n_89)), some (.inl w12_160), z13_x160, z14_76] [] B_89 Ix_160 J Rf G_89 := by
            intro w12_160 Ix_160 z13_x160 h_z13_x160 hq
            have h : m_131_x99_160 a2 a3 a4 v8_15 v9_15 v10_15 y6_76 y7_76 G_89 n_89 B_89 w12_160 Ix_160 = some x15 := hc99_160 (w12_160, Ix_160) hq.symm
            unfold m_131_x99_160 at h
            refine go_iconst (pc' := 161) (v := (nI 1)) rfl rfl rfl ?_
            refine go_istore (pc' := 163) (lo' := [some (.inr (.inr a0)), some (.inl a1), some (.inl a2), some (.inl a3), some (.inr (.inr a4)), some (.inr (.inr a5)), some (.inl y6_76), some (.inl y7_76), some (.inl v8_15), some (.inl v9_15), some (.inl v10_15), some (.inr (.inr n_89)), some (.inl w12_160), some (.inl (nI 1)), z14_76]) rfl rfl rfl ?_
            refine go_iconst (pc' := 164) (v := (nI 0)) rfl rfl rfl ?_
            refine go_istore (pc' := 166) (lo' := [some (.inr (.inr a0)), some (.inl a1), some (.inl a2), some (.inl a3), some (.inr (.inr a4)), some (.inr (.inr a5)), some (.inl y6_76), some (.inl y7_76), some (.inl v8_15), some (.inl v9_15), some (.inl v10_15), some (.inr (.inr n_89)), some (.inl w12_160), some (.inl (nI 1)), some (.inl (nI 0))]) rfl rfl rfl ?_
            obtain ⟨q166, hl166, hc166_217⟩ := o_s1E h
            have ex166_217 : ∀ (w13_217 : Int32) (z14_x217 : Option ai_V) (h_z14_x217 : ai_isL z14_x217 = false), w13_217 = q166 → ai_Go si_t (23, false, 3, cd_131) (ai_Cl si_t si_ms e) (sp_Q (some (.inl r)) I1 J Rf G1) 217 [some (.inr (.inr a0)), some (.inl a1), some (.inl a2), some (.inl a3), some (.inr (.inr a4)), some (.inr (.inr a5)), some (.inl y6_76), some (.inl y7_76), some (.inl v8_15), some (.inl v9_15), some (.inl v10_15), some (.inr (.inr n_89)), some (.inl w12_160), some (.inl w13_217), z14_x217] [] B_89 Ix_160 J Rf G_89 := by
              intro w13_217 z14_x217 h_z14_x217 hq
              have h : m_131_x166_217 v8_15 v9_15 v10_15 y6_76 y7_76 G_89 B_89 w12_160 Ix_160 w13_217 = some x15 := hc166_217 w13_217 hq.symm
              unfold m_131_x166_217 at h
              refine go_iload (pc' := 219) rfl rfl rfl ?_
              refine go_iload (pc' := 221) rfl rfl rfl ?_
              have jn229 : ∀ (t1_229 : Int32) (z14_229 : Option ai_V) (h_z14_229 : ai_isL z14_229 = false), m_131_j229 v8_15 v9_15 v10_15 y6_76 y7_76 G_89 B_89 w12_160 Ix_160 w13_217 t1_229 = some x15 → ai_Go si_t (23, false, 3, cd_131) (ai_Cl si_t si_ms e) (sp_Q (some (.inl r)) I1 J Rf G1) 229 [some (.inr (.inr a0)), some (.inl a1), some (.inl a2), some (.inl a3), some (.inr (.inr a4)), some (.inr (.inr a5)), some (.inl y6_76), some (.inl y7_76), some (.inl v8_15), some (.inl v9_15), some (.inl v10_15), some (.inr (.inr n_89)), some (.inl w12_160), some (.inl w13_217), z14_229] [.inl t1_229, .inl v8_15] B_89 Ix_160 J Rf G_89 := by
                intro t1_229 z14_229 h_z14_229 h
                unfold m_131_j229 at h
                refine go_iadd (pc' := 230) rfl rfl ?_
                obtain ⟨x8_230, ex8_230, h⟩ := o_b1E h
                refine go_ndI ex8_230 ?_
                refine go_istore (pc' := 232) (lo' := [some (.inr (.inr a0)), some (.inl a1), some (.inl a2), some (.inl a3), some (.inr (.inr a4)), some (.inr (.inr a5)), some (.inl y6_76), some (.inl y7_76), some (.inl x8_230), some (.inl v9_15), some (.inl v10_15), some (.inr (.inr n_89)), some (.inl w12_160), some (.inl w13_217), z14_229]) rfl rfl rfl ?_
                refine go_iload (pc' := 234) rfl rfl rfl ?_
                refine go_iload (pc' := 236) rfl rfl rfl ?_
                refine go_if_le (pt := 248) (pc' := 239) rfl rfl rfl (fun h236 => ?_) (fun h236 => ?_)
                · replace h := o_t h236 h
                  refine go_iconst (pc' := 249) (v := (nI 0)) rfl rfl rfl ?_
                  refine go_iadd (pc' := 250) rfl rfl ?_
                  obtain ⟨x9_250, ex9_250, h⟩ := o_b1E h
                  refine go_ndI ex9_250 ?_
                  refine go_istore (pc' := 252) (lo' := [some (.inr (.inr a0)), some (.inl a1), some (.inl a2), some (.inl a3), some (.inr (.inr a4)), some (.inr (.inr a5)), some (.inl y6_76), some (.inl y7_76), some (.inl x8_230), some (.inl x9_250), some (.inl v10_15), some (.inr (.inr n_89)), some (.inl w12_160), some (.inl w13_217), z14_229]) rfl rfl rfl ?_
                  obtain ⟨x10_252, ex10_252, h⟩ := o_b1E h
                  refine go_iincE (pc' := 255) rfl rfl (y := (nI 1)) rfl ex10_252 (lo' := [some (.inr (.inr a0)), some (.inl a1), some (.inl a2), some (.inl a3), some (.inr (.inr a4)), some (.inr (.inr a5)), some (.inl y6_76), some (.inl y7_76), some (.inl x8_230), some (.inl x9_250), some (.inl x10_252), some (.inr (.inr n_89)), some (.inl w12_160), some (.inl w13_217), z14_229]) rfl rfl ?_
                  refine go_goto (pc' := 15) rfl rfl ?_
                  exact (lp_backE h hk15 (some (.inr (.inr n_89))) rfl (some (.inl w12_160)) rfl (some (.inl w13_217)) rfl z14_229 h_z14_229 :)
                · replace h := o_f h236 h
                  refine go_iload (pc' := 241) rfl rfl rfl ?_
                  refine go_if_eq (pt := 248) (pc' := 244) rfl rfl rfl (fun h241 => ?_) (fun h241 => ?_)
                  · replace h := o_t h241 h
                    refine go_iconst (pc' := 249) (v := (nI 0)) rfl rfl rfl ?_
                    refine go_iadd (pc' := 250) rfl rfl ?_
                    obtain ⟨x9_250, ex9_250, h⟩ := o_b1E h
                    refine go_ndI ex9_250 ?_
                    refine go_istore (pc' := 252) (lo' := [some (.inr (.inr a0)), some (.inl a1), some (.inl a2), some (.inl a3), some (.inr (.inr a4)), some (.inr (.inr a5)), some (.inl y6_76), some (.inl y7_76), some (.inl x8_230), some (.inl x9_250), some (.inl v10_15), some (.inr (.inr n_89)), some (.inl w12_160), some (.inl w13_217), z14_229]) rfl rfl rfl ?_
                    obtain ⟨x10_252, ex10_252, h⟩ := o_b1E h
                    refine go_iincE (pc' := 255) rfl rfl (y := (nI 1)) rfl ex10_252 (lo' := [some (.inr (.inr a0)), some (.inl a1), some (.inl a2), some (.inl a3), some (.inr (.inr a4)), some (.inr (.inr a5)), some (.inl y6_76), some (.inl y7_76), some (.inl x8_230), some (.inl x9_250), some (.inl x10_252), some (.inr (.inr n_89)), some (.inl w12_160), some (.inl w13_217), z14_229]) rfl rfl ?_
                    refine go_goto (pc' := 15) rfl rfl ?_
                    exact (lp_backE h hk15 (some (.inr (.inr n_89))) rfl (some (.inl w12_160)) rfl (some (.inl w13_217)) rfl z14_229 h_z14_229 :)
                  · replace h := o_f h241 h
                    refine go_iconst (pc' := 245) (v := (nI 1)) rfl rfl rfl ?_
                    refine go_goto (pc' := 249) rfl rfl ?_
                    refine go_iadd (pc' := 250) rfl rfl ?_
                    obtain ⟨x9_250, ex9_250, h⟩ := o_b1E h
                    refine go_ndI ex9_250 ?_
                    refine go_istore (pc' := 252) (lo' := [some (.inr (.inr a0)), some (.inl a1), some (.inl a2), some (.inl a3), some (.inr (.inr a4)), some (.inr (.inr a5)), some (.inl y6_76), some (.inl y7_76), some (.inl x8_230), some (.inl x9_250), some (.inl v10_15), some (.inr (.inr n_89)), some (.inl w12_160), some (.inl w13_217), z14_229]) rfl rfl rfl ?_
                    obtain ⟨x10_252, ex10_252, h⟩ := o_b1E h
                    refine go_iincE (pc' := 255) rfl rfl (y := (nI 1)) rfl ex10_252 (lo' := [some (.inr (.inr a0)), some (.inl a1), some (.inl a2), some (.inl a3), some (.inr (.inr a4)), some (.inr (.inr a5)), some (.inl y6_76), some (.inl y7_76), some (.inl x8_230), some (.inl x9_250), some (.inl x10_252), some (.inr (.inr n_89)), some (.inl w12_160), some (.inl w13_217), z14_229]) rfl rfl ?_
                    refine go_goto (pc' := 15) rfl rfl ?_
                    exact (lp_backE h hk15 (some (.inr (.inr n_89))) rfl (some (.inl w12_160)) rfl (some (.inl w13_217)) rfl z14_229 h_z14_229 :)
              refine go_if_le (pt := 228) (pc' := 224) rfl rfl rfl (fun h221 => ?_) (fun h221 => ?_)
              · replace h := o_t h221 h
                refine go_iconst (pc' := 229) (v := (nI 0)) rfl rfl rfl ?_
                exact jn229 (nI 0) z14_x217 h_z14_x217 h
              · replace h := o_f h221 h
                refine go_iconst (pc' := 225) (v := (nI 1)) rfl rfl rfl ?_
                refine go_goto (pc' := 229) rfl rfl ?_
                exact jn229 (nI 1) z14_x217 h_z14_x217 h
            have lo166 : ∀ n s, lp (fun s => m_131_b166 a2 a3 a4 G_89 n_89 w12_160 Ix_160 s.1 s.2) n s = some q166 → (fun s => ai_Go si_t (23, false, 3, cd_131) (ai_Cl si_t si_ms e) (sp_Q (some (.inl r)) I1 J Rf G1) 166 [some (.inr (.inr a0)), some (.inl a1), some (.inl a2), some (.inl a3), some (.inr (.inr a4)), some (.inr (.inr a5)), some (.inl y6_76), some (.inl y7_76), some (.inl v8_15), some (.inl v9_15), some (.inl v10_15), some (.inr (.inr n_89)), some (.inl w12_160), some (.inl s.1), some (.inl s.2)] [] B_89 Ix_160 J Rf G_89) s := lp_go (fun s x166 hx hk166 => by
              obtain ⟨v13_166, v14_166⟩ := s
              have h : m_131_b166 a2 a3 a4 G_89 n_89 w12_160 Ix_160 v13_166 v14_166 = some x166 := hx
              clear hx
              show ai_Go si_t (23, false, 3, cd_131) (ai_Cl si_t si_ms e) (sp_Q (some (.inl r)) I1 J Rf G1) 166 [some (.inr (.inr a0)), some (.inl a1), some (.inl a2), some (.inl a3), some (.inr (.inr a4)), some (.inr (.inr a5)), some (.inl y6_76), some (.inl y7_76), some (.inl v8_15), some (.inl v9_15), some (.inl v10_15), some (.inr (.inr n_89)), some (.inl w12_160), some (.inl v13_166), some (.inl v14_166)] [] B_89 Ix_160 J Rf G_89
              unfold m_131_b166 at h
              refine go_iload (pc' := 168) rfl rfl rfl ?_
              refine go_iconst (pc' := 169) (v := (nI 1)) rfl rfl rfl ?_
              refine go_iload_n (pc' := 170) rfl rfl rfl ?_
              refine go_ishl (pc' := 171) rfl rfl ?_
              refine go_icmp_ge (pt := 217) (pc' := 174) rfl rfl rfl (fun h171 => ?_) (fun h171 => ?_)
              · replace h := o_t h171 h
                exact ex166_217 _ (some (.inl v14_166)) rfl (lp_exitE h hk166)
              · replace h := o_f h171 h
                refine go_iload (pc' := 176) rfl rfl rfl ?_
                refine go_if_eq (pt := 208) (pc' := 179) rfl rfl rfl (fun h176 => ?_) (fun h176 => ?_)
                · replace h := o_t h176 h
                  refine go_iconst (pc' := 209) (v := (nI 0)) rfl rfl rfl ?_
                  refine go_istore (pc' := 211) (lo' := [some (.inr (.inr a0)), some (.inl a1), some (.inl a2), some (.inl a3), some (.inr (.inr a4)), some (.inr (.inr a5)), some (.inl y6_76), some (.inl y7_76), some (.inl v8_15), some (.inl v9_15), some (.inl v10_15), some (.inr (.inr n_89)), some (.inl w12_160), some (.inl (nI 0)), some (.inl v14_166)]) rfl rfl rfl ?_
                  obtain ⟨x14_211, ex14_211, h⟩ := o_b1E h
                  refine go_iincE (pc' := 214) rfl rfl (y := (nI 1)) rfl ex14_211 (lo' := [some (.inr (.inr a0)), some (.inl a1), some (.inl a2), some (.inl a3), some (.inr (.inr a4)), some (.inr (.inr a5)), some (.inl y6_76), some (.inl y7_76), some (.inl v8_15), some (.inl v9_15), some (.inl v10_15), some (.inr (.inr n_89)), some (.inl w12_160), some (.inl (nI 0)), some (.inl x14_211)]) rfl rfl ?_
                  refine go_goto (pc' := 166) rfl rfl ?_
                  exact (lp_backE h hk166 :)
                · replace h := o_f h176 h
                  refine go_iload (pc' := 181) rfl rfl rfl ?_
                  obtain ⟨r_181, q_181, h⟩ := o_b1E h
                  refine go_callSb (pc' := 184) (b1 := 0) (b2 := 0) (st' := [.inl r_181]) rfl rfl (Or.inl (by decide)) rfl rfl rfl o_bd0 rfl trivial (md_115 (by omega) q_181) rfl rfl rfl ?_
                  refine go_iload_n (pc' := 185) rfl rfl rfl ?_
                  refine go_iconst (pc' := 186) (v := (nI 1)) rfl rfl rfl ?_
                  refine go_iadd (pc' := 187) rfl rfl ?_
                  refine go_icmp_ne (pt := 204) (pc' := 190) rfl rfl rfl (fun h187 => ?_) (fun h187 => ?_)
                  · replace h := o_f h187 h
                    refine go_iconst (pc' := 205) (v := (nI 1)) rfl rfl rfl ?_
                    refine go_goto (pc' := 209) rfl rfl ?_
                    refine go_istore (pc' := 211) (lo' := [some (.inr (.inr a0)), some (.inl a1), some (.inl a2), some (.inl a3), some (.inr (.inr a4)), some (.inr (.inr a5)), some (.inl y6_76), some (.inl y7_76), some (.inl v8_15), some (.inl v9_15), some (.inl v10_15), some (.inr (.inr n_89)), some (.inl w12_160), some (.inl (nI 1)), some (.inl v14_166)]) rfl rfl rfl ?_
                    obtain ⟨x14_211, ex14_211, h⟩ := o_b1E h
                    refine go_iincE (pc' := 214) rfl rfl (y := (nI 1)) rfl ex14_211 (lo' := [some (.inr (.inr a0)), some (.inl a1), some (.inl a2), some (.inl a3), some (.inr (.inr a4)), some (.inr (.inr a5)), some (.inl y6_76), some (.inl y7_76), some (.inl v8_15), some (.inl v9_15), some (.inl v10_15), some (.inr (.inr n_89)), some (.inl w12_160), some (.inl (nI 1)), some (.inl x14_211)]) rfl rfl ?_
                    refine go_goto (pc' := 166) rfl rfl ?_
                    exact (lp_backE h hk166 :)
                  · replace h := o_t (Decidable.of_not_not h187) h
                    refine go_aload (pc' := 192) rfl rfl rfl ?_
                    refine go_aload (pc' := 194) rfl rfl rfl ?_
                    refine go_iload (pc' := 196) rfl rfl rfl ?_
                    refine go_iload (pc' := 198) rfl rfl rfl ?_
                    obtain ⟨r_198, q_198, h⟩ := o_b1E h
                    refine go_callSb (pc' := 201) (b1 := 0) (b2 := 0) (st' := [.inl r_198]) rfl rfl (Or.inl (by decide)) rfl rfl rfl o_bd0 rfl trivial (md_130 (by omega) q_198) rfl rfl rfl ?_
                    refine go_if_eq (pt := 208) (pc' := 204) rfl rfl rfl (fun h201 => ?_) (fun h201 => ?_)
                    · replace h := o_t h201 h
                      refine go_iconst (pc' := 209) (v := (nI 0)) rfl rfl rfl ?_
                      refine go_istore (pc' := 211) (lo' := [some (.inr (.inr a0)), some (.inl a1), some (.inl a2), some (.inl a3), some (.inr (.inr a4)), some (.inr (.inr a5)), some (.inl y6_76), some (.inl y7_76), some (.inl v8_15), some (.inl v9_15), some (.inl v10_15), some (.inr (.inr n_89)), some (.inl w12_160), some (.inl (nI 0)), some (.inl v14_166)]) rfl rfl rfl ?_
                      obtain ⟨x14_211, ex14_211, h⟩ := o_b1E h
                      refine go_iincE (pc' := 214) rfl rfl (y := (nI 1)) rfl ex14_211 (lo' := [some (.inr (.inr a0)), some (.inl a1), some (.inl a2), some (.inl a3), some (.inr (.inr a4)), some (.inr (.inr a5)), some (.inl y6_76), some (.inl y7_76), some (.inl v8_15), some (.inl v9_15), some (.inl v10_15), some (.inr (.inr n_89)), some (.inl w12_160), some (.inl (nI 0)), some (.inl x14_211)]) rfl rfl ?_
                      refine go_goto (pc' := 166) rfl rfl ?_
                      exact (lp_backE h hk166 :)
                    · replace h := o_f h201 h
                      refine go_iconst (pc' := 205) (v := (nI 1)) rfl rfl rfl ?_
                      refine go_goto (pc' := 209) rfl rfl ?_
                      refine go_istore (pc' := 211) (lo' := [some (.inr (.inr a0)), some (.inl a1), some (.inl a2), some (.inl a3), some (.inr (.inr a4)), some (.inr (.inr a5)), some (.inl y6_76), some (.inl y7_76), some (.inl v8_15), some (.inl v9_15), some (.inl v10_15), some (.inr (.inr n_89)), some (.inl w12_160), some (.inl (nI 1)), some (.inl v14_166)]) rfl rfl rfl ?_
                      obtain ⟨x14_211, ex14_211, h⟩ := o_b1E h
                      refine go_iincE (pc' := 214) rfl rfl (y := (nI 1)) rfl ex14_211 (lo' := [some (.inr (.inr a0)), some (.inl a1), some (.inl a2), some (.inl a3), some (.inr (.inr a4)), some (.inr (.inr a5)), some (.inl y6_76), some (.inl y7_76), some (.inl v8_15), some (.inl v9_15), some (.inl v10_15), some (.inr (.inr n_89)), some (.inl w12_160), some (.inl (nI 1)), some (.inl x14_211)]) rfl rfl ?_
                      refine go_goto (pc' := 166) rfl rfl ?_
                      exact (lp_backE h hk166 :))
            exact lo166 _ ((nI 1), (nI 0)) hl166 
          have lo99 : ∀ n s, lp (fun s => m_131_b99 a2 a4 v10_15 G_89 n_89 s.1 s.2.1 s.2.2) n s = some q99 → (fun s => ai_Go si_t (23, false, 3, cd_131) (ai_Cl si_t si_ms e) (sp_Q (some (.inl r)) I1 J Rf G1) 99 [some (.inr (.inr a0)), some (.inl a1), some (.inl a2), some (.inl a3), some (.inr (.inr a4)), some (.inr (.inr a5)), some (.inl y6_76), some (.inl y7_76), some (.inl v8_15), some (.inl v9_15), some (.inl v10_15), some (.inr (.inr n_89)), some (.inl s.1), some (.inl s.2.1), z14_76] [] B_89 s.2.2 J Rf G_89) s := lp_go (fun s x99 hx hk99 => by
            obtain ⟨v12_99, v13_99, I_99⟩ := s
            have h : m_131_b99 a2 a4 v10_15 G_89 n_89 v12_99 v13_99 I_99 = some x99 := hx
            clear hx
            show ai_Go si_t (23, false, 3, cd_131) (ai_Cl si_t si_ms e) (sp_Q (some (.inl r)) I1 J Rf G1) 99 [some (.inr (.inr a0)), some (.inl a1), some (.inl a2), some (.inl a3), some (.inr (.inr a4)), some (.inr (.inr a5)), some (.inl y6_76), some (.inl y7_76), some (.inl v8_15), some (.inl v9_15), some (.inl v10_15), some (.inr (.inr n_89)), some (.inl v12_99), some (.inl v13_99), z14_76] [] B_89 I_99 J Rf G_89
            unfold m_131_b99 at h
            refine go_iload (pc' := 101) rfl rfl rfl ?_
            refine go_iload_n (pc' := 102) rfl rfl rfl ?_
            refine go_icmp_ge (pt := 160) (pc' := 105) rfl rfl rfl (fun h102 => ?_) (fun h102 => ?_)
            · replace h := o_t h102 h
              exact ex99_160 _ _ (some (.inl v13_99)) rfl (lp_exitE h hk99)
            · replace h := o_f h102 h
              refine go_iload (pc' := 107) rfl rfl rfl ?_
              refine go_iload (pc' := 109) rfl rfl rfl ?_
              obtain ⟨r_109, q_109, h⟩ := o_b1E h
              refine go_callSb (pc' := 112) (b1 := 0) (b2 := 0) (st' := [.inl r_109]) rfl rfl (Or.inl (by decide)) rfl rfl rfl o_bd0 rfl trivial (md_121 (by omega) q_109) rfl rfl rfl ?_
              refine go_if_ne (pt := 154) (pc' := 115) rfl rfl rfl (fun h112 => ?_) (fun h112 => ?_)
              · replace h := o_f h112 h
                obtain ⟨x13_154, ex13_154, h⟩ := o_b1E h
                refine go_iincE (pc' := 157) rfl rfl (y := (nI 1)) rfl ex13_154 (lo' := [some (.inr (.inr a0)), some (.inl a1), some (.inl a2), some (.inl a3), some (.inr (.inr a4)), some (.inr (.inr a5)), some (.inl y6_76), some (.inl y7_76), some (.inl v8_15), some (.inl v9_15), some (.inl v10_15), some (.inr (.inr n_89)), some (.inl v12_99), some (.inl x13_154), z14_76]) rfl rfl ?_
                refine go_goto (pc' := 99) rfl rfl ?_
                exact (lp_backE h hk99 :)
              · replace h := o_t (Decidable.of_not_not h112) h
                refine go_aload (pc' := 117) rfl rfl rfl ?_
                refine go_iload (pc' := 119) rfl rfl rfl ?_
                refine go_iconst (pc' := 120) (v := (nI 1)) rfl rfl rfl ?_
                refine go_iload (pc' := 122) rfl rfl rfl ?_
                refine go_ishl (pc' := 123) rfl rfl ?_
                refine go_ior (pc' := 124) rfl rfl ?_
                obtain ⟨r_124, q_124, h⟩ := o_b1E h
                refine go_callSb (pc' := 127) (b1 := 0) (b2 := 0) (st' := [.inl r_124]) rfl rfl (Or.inl (by decide)) rfl rfl rfl o_bd0 rfl trivial (md_126 (by omega) q_124) rfl rfl rfl ?_
                refine go_if_eq (pt := 154) (pc' := 130) rfl rfl rfl (fun h127 => ?_) (fun h127 => ?_)
                · replace h := o_t h127 h
                  obtain ⟨x13_154, ex13_154, h⟩ := o_b1E h
                  refine go_iincE (pc' := 157) rfl rfl (y := (nI 1)) rfl ex13_154 (lo' := [some (.inr (.inr a0)), some (.inl a1), some (.inl a2), some (.inl a3), some (.inr (.inr a4)), some (.inr (.inr a5)), some (.inl y6_76), some (.inl y7_76), some (.inl v8_15), some (.inl v9_15), some (.inl v10_15), some (.inr (.inr n_89)), some (.inl v12_99), some (.inl x13_154), z14_76]) rfl rfl ?_
                  refine go_goto (pc' := 99) rfl rfl ?_
                  exact (lp_backE h hk99 :)
                · replace h := o_f h127 h
                  refine go_iload (pc' := 132) rfl rfl rfl ?_
                  refine go_iconst (pc' := 133) (v := (nI 1)) rfl rfl rfl ?_
                  refine go_iload (pc' := 135) rfl rfl rfl ?_
                  refine go_ishl (pc' := 136) rfl rfl ?_
                  refine go_ior (pc' := 137) rfl rfl ?_
                  obtain ⟨x12_137, ex12_137, h⟩ := o_b1E h
                  refine go_ndI ex12_137 ?_
                  refine go_istore (pc' := 139) (lo' := [some (.inr (.inr a0)), some (.inl a1), some (.inl a2), some (.inl a3), some (.inr (.inr a4)), some (.inr (.inr a5)), some (.inl y6_76), some (.inl y7_76), some (.inl v8_15), some (.inl v9_15), some (.inl v10_15), some (.inr (.inr n_89)), some (.inl x12_137), some (.inl v13_99), z14_76]) rfl rfl rfl ?_
                  refine go_aload (pc' := 141) rfl rfl rfl ?_
                  refine go_iload (pc' := 143) rfl rfl rfl ?_
                  refine go_aload (pc' := 145) rfl rfl rfl ?_
                  refine go_iload (pc' := 147) rfl rfl rfl ?_
                  refine go_iconst (pc' := 148) (v := (nI 1)) rfl rfl rfl ?_
                  refine go_iload (pc' := 150) rfl rfl rfl ?_
                  refine go_ishl (pc' := 151) rfl rfl ?_
                  refine go_ior (pc' := 152) rfl rfl ?_
                  obtain ⟨g3, h⟩ := o_gE h
                  refine go_iaload (pc' := 153) rfl (o_inK g3) (o_inB g3) rfl ?_
                  obtain ⟨g4, h⟩ := o_gE h
                  obtain ⟨I_153, eI_153, h⟩ := o_b1E h
                  refine go_iastore (pc' := 154) rfl (o_inK g4) (o_inB g4) rfl ?_
                  refine go_ndMI eI_153 ?_
                  obtain ⟨x13_154, ex13_154, h⟩ := o_b1E h
                  refine go_iincE (pc' := 157) rfl rfl (y := (nI 1)) rfl ex13_154 (lo' := [some (.inr (.inr a0)), some (.inl a1), some (.inl a2), some (.inl a3), some (.inr (.inr a4)), some (.inr (.inr a5)), some (.inl y6_76), some (.inl y7_76), some (.inl v8_15), some (.inl v9_15), some (.inl v10_15), some (.inr (.inr n_89)), some (.inl x12_137), some (.inl x13_154), z14_76]) rfl rfl ?_
                  refine go_goto (pc' := 99) rfl rfl ?_
                  exact (lp_backE h hk99 :))
          exact lo99 _ ((nI 0), (nI 0), I_89) hl99 
      refine go_icmp_ne (pt := 76) (pc' := 34) rfl rfl rfl (fun h31 => ?_) (fun h31 => ?_)
      · replace h := o_f h31 h
        exact jn76 v6_15 v7_15 I_15 z11_15 h_z11_15 z12_15 h_z12_15 z13_15 h_z13_15 z14_15 h_z14_15 h
      · replace h := o_t (Decidable.of_not_not h31) h
        refine go_aload (pc' := 36) rfl rfl rfl ?_
        refine go_aload (pc' := 38) rfl rfl rfl ?_
        refine go_sipush (pc' := 41) (v := (nI 255)) rfl rfl rfl ?_
        refine go_iload (pc' := 43) rfl rfl rfl ?_
        obtain ⟨r_43, q_43, h⟩ := o_b1E h
        refine go_callSb (pc' := 46) (b1 := 0) (b2 := 0) (st' := [.inl r_43]) rfl rfl (Or.inl (by decide)) rfl rfl rfl o_bd0 rfl trivial (md_130 (by omega) q_43) rfl rfl rfl ?_
        refine go_if_ne (pt := 76) (pc' := 49) rfl rfl rfl (fun h46 => ?_) (fun h46 => ?_)
        · replace h := o_f h46 h
          exact jn76 v6_15 v7_15 I_15 z11_15 h_z11_15 z12_15 h_z12_15 z13_15 h_z13_15 z14_15 h_z14_15 h
        · replace h := o_t (Decidable.of_not_not h46) h
          refine go_iload (pc' := 51) rfl rfl rfl ?_
          have jn71 : ∀ (t0_71 : Int32) (I_71 : ai_I) (z11_71 : Option ai_V) (h_z11_71 : ai_isL z11_71 = false) (z12_71 : Option ai_V) (h_z12_71 : ai_isL z12_71 = false) (z13_71 : Option ai_V) (h_z13_71 : ai_isL z13_71 = false) (z14_71 : Option ai_V) (h_z14_71 : ai_isL z14_71 = false), m_131_j71 a2 a3 a4 v7_15 v8_15 v9_15 v10_15 G_15 B_15 t0_71 I_71 = some x15 → ai_Go si_t (23, false, 3, cd_131) (ai_Cl si_t si_ms e) (sp_Q (some (.inl r)) I1 J Rf G1) 71 [some (.inr (.inr a0)), some (.inl a1), some (.inl a2), some (.inl a3), some (.inr (.inr a4)), some (.inr (.inr a5)), some (.inl v6_15), some (.inl v7_15), some (.inl v8_15), some (.inl v9_15), some (.inl v10_15), z11_71, z12_71, z13_71, z14_71] [.inl t0_71] B_15 I_71 J Rf G_15 := by
            intro t0_71 I_71 z11_71 h_z11_71 z12_71 h_z12_71 z13_71 h_z13_71 z14_71 h_z14_71 h
            unfold m_131_j71 at h
            refine go_istore (pc' := 73) (lo' := [some (.inr (.inr a0)), some (.inl a1), some (.inl a2), some (.inl a3), some (.inr (.inr a4)), some (.inr (.inr a5)), some (.inl t0_71), some (.inl v7_15), some (.inl v8_15), some (.inl v9_15), some (.inl v10_15), z11_71, z12_71, z13_71, z14_71]) rfl rfl rfl ?_
            obtain ⟨x7_73, ex7_73, h⟩ := o_b1E h
            refine go_iincE (pc' := 76) rfl rfl (y := (nI 1)) rfl ex7_73 (lo' := [some (.inr (.inr a0)), some (.inl a1), some (.inl a2), some (.inl a3), some (.inr (.inr a4)), some (.inr (.inr a5)), some (.inl t0_71), some (.inl x7_73), some (.inl v8_15), some (.inl v9_15), some (.inl v10_15), z11_71, z12_71, z13_71, z14_71]) rfl rfl ?_
            exact jn76 t0_71 x7_73 I_71 z11_71 h_z11_71 z12_71 h_z12_71 z13_71 h_z13_71 z14_71 h_z14_71 h
          have jn70 : ∀ (I_70 : ai_I) (z11_70 : Option ai_V) (h_z11_70 : ai_isL z11_70 = false) (z12_70 : Option ai_V) (h_z12_70 : ai_isL z12_70 = false) (z13_70 : Option ai_V) (h_z13_70 : ai_isL z13_70 = false) (z14_70 : Option ai_V) (h_z14_70 : ai_isL z14_70 = false), m_131_j70 a2 a3 a4 v7_15 v8_15 v9_15 v10_15 G_15 B_15 I_70 = some x15 → ai_Go si_t (23, false, 3, cd_131) (ai_Cl si_t si_ms e) (sp_Q (some (.inl r)) I1 J Rf G1) 70 [some (.inr (.inr a0)), some (.inl a1), some (.inl a2), some (.inl a3), some (.inr (.inr a4)), some (.inr (.inr a5)), some (.inl v6_15), some (.inl v7_15), some (.inl v8_15), some (.inl v9_15), some (.inl v10_15), z11_70, z12_70, z13_70, z14_70] [] B_15 I_70 J Rf G_15 := by
            intro I_70 z11_70 h_z11_70 z12_70 h_z12_70 z13_70 h_z13_70 z14_70 h_z14_70 h
            unfold m_131_j70 at h
            refine go_iconst (pc' := 71) (v := (nI 0)) rfl rfl rfl ?_
            exact jn71 (nI 0) I_70 z11_70 h_z11_70 z12_70 h_z12_70 z13_70 h_z13_70 z14_70 h_z14_70 h
          refine go_if_eq (pt := 70) (pc' := 54) rfl rfl rfl (fun h51 => ?_) (fun h51 => ?_)
          · replace h := o_t h51 h
            exact jn70 I_15 z11_15 h_z11_15 z12_15 h_z12_15 z13_15 h_z13_15 z14_15 h_z14_15 h
          · replace h := o_f h51 h
            refine go_aload_n (pc' := 55) rfl rfl rfl ?_
            refine go_iload_n (pc' := 56) rfl rfl rfl ?_
            refine go_iload (pc' := 58) rfl rfl rfl ?_
            obtain ⟨g5, h⟩ := o_gE h
            obtain ⟨r_58, I_58, q_58, h⟩ := o_b2E h
            refine go_callVb (pc' := 61) (b1 := 0) (b2 := 0) (st' := [.inl r_58]) rfl rfl (Or.inl (by decide)) rfl rfl rfl o_bd0 rfl (o_kdE g5) (md_109 (by omega) (o_kdE g5) q_58) rfl rfl rfl ?_
            refine go_iload (pc' := 63) rfl rfl rfl ?_
            refine go_icmp_ne (pt := 70) (pc' := 66) rfl rfl rfl (fun h63 => ?_) (fun h63 => ?_)
            · replace h := o_f h63 h
              exact jn70 I_58 z11_15 h_z11_15 z12_15 h_z12_15 z13_15 h_z13_15 z14_15 h_z14_15 h
            · replace h := o_t (Decidable.of_not_not h63) h
              refine go_iconst (pc' := 67) (v := (nI 1)) rfl rfl rfl ?_
              refine go_goto (pc' := 71) rfl rfl ?_
              exact jn71 (nI 1) I_58 z11_15 h_z11_15 z12_15 h_z12_15 z13_15 h_z13_15 z14_15 h_z14_15 h)
  exact lo15 _ ((nI 1), (nI 0), (nI 0), (nI 0), (nI 0), I, G, B_00) hl15 none rfl none rfl none rfl none rfl
