/-! Models of methods and their proofs, piece 8. Printed by wip/p46/pr10.py. -/
def m_122_j1863 (y10_1811 : Int32) (G_1816 : ai_G) (t0_1863 : Int32) (I_1863 : ai_I) (R_1863 : ai_R) : Option (Int32 × ai_I × ai_R × ai_G) :=
  if t0_1863 = 0 then (some ((nI 0), I_1863, R_1863, G_1816)) else (some (y10_1811, I_1863, R_1863, G_1816))
def m_122_j1862 (y10_1811 : Int32) (G_1816 : ai_G) (I_1862 : ai_I) (R_1862 : ai_R) : Option (Int32 × ai_I × ai_R × ai_G) :=
  m_122_j1863 y10_1811 G_1816 (nI 0) I_1862 R_1862
def m_122_j1811 (a0 : Nat) (a1 : Int32) (a2 : Int32) (Rf : ai_R) (n_3 : Nat) (G_1416 : ai_G) (y10_1811 : Int32) (y11_1811 : Int32) (I_1811 : ai_I) : Option (Int32 × ai_I × ai_R × ai_G) :=
  o_b2 (m_117 a0 n_3 y11_1811 I_1811 Rf G_1416) (fun I_1816 G_1816 => if (nI 201) ≤ y11_1811 then (m_122_j1862 y10_1811 G_1816 I_1816 Rf) else (o_g (o_kd G_1816 a0 10) (o_b3 (m_97 a0 y11_1811 I_1816 Rf G_1816) (fun r_1830 I_1830 R_1830 => if r_1830 = (nI 1) then (o_b2 (m_100 a0 a1 (nI 0) I_1830 R_1830 G_1816) (fun r_1840 I_1840 => if r_1840 = a2 then (o_b2 (m_100 a0 a1 (nI 1) I_1840 R_1830 G_1816) (fun r_1850 I_1850 => if r_1850 = y10_1811 then (m_122_j1863 y10_1811 G_1816 (nI 1) I_1850 R_1830) else (m_122_j1862 y10_1811 G_1816 I_1850 R_1830))) else (m_122_j1862 y10_1811 G_1816 I_1840 R_1830))) else (m_122_j1862 y10_1811 G_1816 I_1830 R_1830)))))
def m_122_x1735_1811 (a0 : Nat) (a1 : Int32) (a2 : Int32) (Rf : ai_R) (n_3 : Nat) (G_1416 : ai_G) (x10_1455 : Int32) (w11_1811 : Int32) (Ix_1811 : ai_I) : Option (Int32 × ai_I × ai_R × ai_G) :=
  m_122_j1811 a0 a1 a2 Rf n_3 G_1416 x10_1455 w11_1811 Ix_1811
def m_122_j1775 (a4 : Nat) (n_3 : Nat) (G_1416 : ai_G) (v11_1735 : Int32) (v12_1735 : Int32) (v13_1735 : Int32) (I_1762 : ai_I) : Option ((Int32 × Int32 × Int32 × ai_I) ⊕ (Int32 × ai_I)) :=
  o_b2 (m_119 n_3 v11_1735 v13_1735 I_1762 G_1416) (fun r_1783 I_1783 => o_b2 (m_118 a4 I_1783 G_1416) (fun r_1788 I_1788 => o_b2 (m_119 n_3 r_1783 ((r_1788 - r_1788 / (nI 30) * (nI 30)) - (nI 15)) I_1788 G_1416) (fun r_1797 I_1797 => o_b1 (some (v12_1735 + (nI 1))) (fun x12_1802 => o_b1 (some (v13_1735 + (nI 1))) (fun x13_1805 => some (Sum.inl (r_1797, x12_1802, x13_1805, I_1797)))))))
def m_122_b1735 (a2 : Int32) (a4 : Nat) (n_3 : Nat) (G_1416 : ai_G) (x10_1455 : Int32) (v11_1735 : Int32) (v12_1735 : Int32) (v13_1735 : Int32) (I_1735 : ai_I) : Option ((Int32 × Int32 × Int32 × ai_I) ⊕ (Int32 × ai_I)) :=
  if ((nI 1) <<< (a2 &&& 31)) ≤ v13_1735 then (some (Sum.inr (v11_1735, I_1735))) else (if (nI 12) ≤ v12_1735 then (some (Sum.inr (v11_1735, I_1735))) else (o_b1 (m_115 v13_1735) (fun r_1752 => if r_1752 = x10_1455 then (o_b2 (m_118 a4 I_1735 G_1416) (fun r_1762 I_1762 => if 0 < (r_1762 - r_1762 / (nI 3) * (nI 3)) then (m_122_j1775 a4 n_3 G_1416 v11_1735 v12_1735 v13_1735 I_1762) else (if v12_1735 = 0 then (m_122_j1775 a4 n_3 G_1416 v11_1735 v12_1735 v13_1735 I_1762) else (o_b1 (some (v13_1735 + (nI 1))) (fun x13_1805 => some (Sum.inl (v11_1735, v12_1735, x13_1805, I_1762))))))) else (o_b1 (some (v13_1735 + (nI 1))) (fun x13_1805 => some (Sum.inl (v11_1735, v12_1735, x13_1805, I_1735)))))))
def m_122_x1625_1715 (a0 : Nat) (a1 : Int32) (a2 : Int32) (Rf : ai_R) (n_3 : Nat) (G_1416 : ai_G) (x10_1609 : Int32) (w11_1715 : Int32) (Ix_1715 : ai_I) : Option (Int32 × ai_I × ai_R × ai_G) :=
  m_122_j1811 a0 a1 a2 Rf n_3 G_1416 x10_1609 w11_1715 Ix_1715
def m_122_j1689 (n_3 : Nat) (G_1416 : ai_G) (v11_1625 : Int32) (v13_1625 : Int32) (t0_1653 : Int32) (t0_1689 : Int32) (I_1689 : ai_I) : Option ((Int32 × Int32 × ai_I) ⊕ (Int32 × ai_I)) :=
  o_b2 (m_119 n_3 v11_1625 t0_1653 I_1689 G_1416) (fun r_1699 I_1699 => o_b2 (m_119 n_3 r_1699 t0_1689 I_1699 G_1416) (fun r_1704 I_1704 => o_b1 (some (v13_1625 + (nI 1))) (fun x13_1709 => some (Sum.inl (r_1704, x13_1709, I_1704)))))
def m_122_j1653 (a4 : Nat) (n_3 : Nat) (G_1416 : ai_G) (x12_1603 : Int32) (v11_1625 : Int32) (v13_1625 : Int32) (t0_1653 : Int32) (I_1653 : ai_I) : Option ((Int32 × Int32 × ai_I) ⊕ (Int32 × ai_I)) :=
  if (x12_1603 - (nI 1)) ≤ v13_1625 then (o_b2 (m_118 a4 I_1653 G_1416) (fun r_1677 I_1677 => o_g (o_nzI (x12_1603 - (nI 1))) (o_g (o_nzI x12_1603) (m_122_j1689 n_3 G_1416 v11_1625 v13_1625 t0_1653 (((t0_1653 + (nI 1)) + (r_1677 - r_1677 / (x12_1603 - (nI 1)) * (x12_1603 - (nI 1)))) - ((t0_1653 + (nI 1)) + (r_1677 - r_1677 / (x12_1603 - (nI 1)) * (x12_1603 - (nI 1)))) / x12_1603 * x12_1603) I_1677)))) else (m_122_j1689 n_3 G_1416 v11_1625 v13_1625 t0_1653 (v13_1625 + (nI 1)) I_1653)
def m_122_b1625 (a2 : Int32) (a4 : Nat) (n_3 : Nat) (G_1416 : ai_G) (x12_1603 : Int32) (v11_1625 : Int32) (v13_1625 : Int32) (I_1625 : ai_I) : Option ((Int32 × Int32 × ai_I) ⊕ (Int32 × ai_I)) :=
  if a2 ≤ v13_1625 then (some (Sum.inr (v11_1625, I_1625))) else (if (x12_1603 - (nI 1)) ≤ v13_1625 then (o_b2 (m_118 a4 I_1625 G_1416) (fun r_1647 I_1647 => o_g (o_nzI x12_1603) (m_122_j1653 a4 n_3 G_1416 x12_1603 v11_1625 v13_1625 (r_1647 - r_1647 / x12_1603 * x12_1603) I_1647))) else (m_122_j1653 a4 n_3 G_1416 x12_1603 v11_1625 v13_1625 v13_1625 I_1625))
def m_122_x1545_1580 (a0 : Nat) (a1 : Int32) (a2 : Int32) (Rf : ai_R) (n_3 : Nat) (G_1416 : ai_G) (x10_1455 : Int32) (w11_1580 : Int32) (Ix_1580 : ai_I) : Option (Int32 × ai_I × ai_R × ai_G) :=
  m_122_j1811 a0 a1 a2 Rf n_3 G_1416 x10_1455 w11_1580 Ix_1580
def m_122_b1545 (a2 : Int32) (a4 : Nat) (n_3 : Nat) (G_1416 : ai_G) (x10_1455 : Int32) (v11_1545 : Int32) (v12_1545 : Int32) (I_1545 : ai_I) : Option ((Int32 × Int32 × ai_I) ⊕ (Int32 × ai_I)) :=
  if (x10_1455 * a2) ≤ v12_1545 then (some (Sum.inr (v11_1545, I_1545))) else (o_b2 (m_118 a4 I_1545 G_1416) (fun r_1560 I_1560 => o_b2 (m_119 n_3 v11_1545 ((r_1560 - r_1560 / (nI 41) * (nI 41)) - (nI 20)) I_1560 G_1416) (fun r_1569 I_1569 => o_b1 (some (v12_1545 + (nI 1))) (fun x12_1574 => some (Sum.inl (r_1569, x12_1574, I_1569))))))
def m_122_j1495 (a0 : Nat) (a1 : Int32) (a2 : Int32) (a3 : Int32) (a4 : Nat) (Rf : ai_R) (n_3 : Nat) (G_1416 : ai_G) (I_1443 : ai_I) (x10_1455 : Int32) (t4_1495 : Nat) : Option (Int32 × ai_I × ai_R × ai_G) :=
  o_b2 (m_120 n_3 (nI 0) t4_1495 I_1443 G_1416) (fun r_1495 I_1495 => o_b2 (m_119 n_3 r_1495 a1 I_1495 G_1416) (fun r_1499 I_1499 => o_b2 (m_119 n_3 r_1499 a2 I_1499 G_1416) (fun r_1503 I_1503 => if a3 = 0 then (o_b2 (m_119 n_3 r_1503 x10_1455 I_1503 G_1416) (fun r_1518 I_1518 => m_122_j1811 a0 a1 a2 Rf n_3 G_1416 x10_1455 r_1518 I_1518)) else (if a3 = (nI 1) then (o_b2 (m_119 n_3 r_1503 x10_1455 I_1503 G_1416) (fun r_1537 I_1537 => o_s1 (lp (fun s => m_122_b1545 a2 a4 n_3 G_1416 x10_1455 s.1 s.2.1 s.2.2) o_N (r_1537, (nI 0), I_1537)) (fun t => m_122_x1545_1580 a0 a1 a2 Rf n_3 G_1416 x10_1455 t.1 t.2))) else (if a3 = (nI 2) then (o_b2 (m_118 a4 I_1503 G_1416) (fun r_1591 I_1591 => o_b1 (some (if (a2 - (nI 1)) < (nI 4) then (a2 - (nI 1)) else (nI 4))) (fun r_1598 => o_g (o_nzI r_1598) (o_b1 (some ((nI 2) + (r_1591 - r_1591 / r_1598 * r_1598))) (fun x12_1603 => o_b1 (some (x12_1603 - (nI 1))) (fun x10_1609 => o_b2 (m_119 n_3 r_1503 x12_1603 I_1591 G_1416) (fun r_1617 I_1617 => o_s1 (lp (fun s => m_122_b1625 a2 a4 n_3 G_1416 x12_1603 s.1 s.2.1 s.2.2) o_N (r_1617, (nI 0), I_1617)) (fun t => m_122_x1625_1715 a0 a1 a2 Rf n_3 G_1416 x10_1609 t.1 t.2)))))))) else (o_b2 (m_119 n_3 r_1503 x10_1455 I_1503 G_1416) (fun r_1724 I_1724 => o_s1 (lp (fun s => m_122_b1735 a2 a4 n_3 G_1416 x10_1455 s.1 s.2.1 s.2.2.1 s.2.2.2) o_N (r_1724, (nI 0), (nI 0), I_1724)) (fun t => m_122_x1735_1811 a0 a1 a2 Rf n_3 G_1416 x10_1455 t.1 t.2))))))))
/-- PricedBasesLaw.made(LPricedBases;III[I)I -/
def m_122 (a0 : Nat) (a1 : Int32) (a2 : Int32) (a3 : Int32) (a4 : Nat) (I : ai_I) (Rf : ai_R) (G : ai_G) : Option (Int32 × ai_I × ai_R × ai_G) :=
  o_g (o_lt9 G) (o_b1 (some (va_up I (G.2.2 + 1) (fun _ => 0))) (fun I_3 => o_b1 (some (va_up G.1 (G.2.2 + 1) 13, va_up G.2.1 (G.2.2 + 1) 240, G.2.2 + 1)) (fun G_3 => o_b1 (some (G.2.2 + 1)) (fun n_3 => o_g (o_lt9 G_3) (o_b1 (some (va_up I_3 (G_3.2.2 + 1) (fun _ => 0))) (fun I_1315 => o_b1 (some (va_up G_3.1 (G_3.2.2 + 1) 13, va_up G_3.2.1 (G_3.2.2 + 1) 7, G_3.2.2 + 1)) (fun G_1315 => o_b1 (some (G_3.2.2 + 1)) (fun n_1315 => o_g (o_in G_1315 13 n_1315 (nI 0)) (o_b1 (some (va_up I_1315 n_1315 (va_up (I_1315 n_1315) (nI 0).toNatClampNeg (nI 117)))) (fun I_1321 => o_g (o_in G_1315 13 n_1315 (nI 1)) (o_b1 (some (va_up I_1321 n_1315 (va_up (I_1321 n_1315) (nI 1).toNatClampNeg (nI 110)))) (fun I_1326 => o_g (o_in G_1315 13 n_1315 (nI 2)) (o_b1 (some (va_up I_1326 n_1315 (va_up (I_1326 n_1315) (nI 2).toNatClampNeg (nI 105)))) (fun I_1331 => o_g (o_in G_1315 13 n_1315 (nI 3)) (o_b1 (some (va_up I_1331 n_1315 (va_up (I_1331 n_1315) (nI 3).toNatClampNeg (nI 102)))) (fun I_1336 => o_g (o_in G_1315 13 n_1315 (nI 4)) (o_b1 (some (va_up I_1336 n_1315 (va_up (I_1336 n_1315) (nI 4).toNatClampNeg (nI 111)))) (fun I_1341 => o_g (o_in G_1315 13 n_1315 (nI 5)) (o_b1 (some (va_up I_1341 n_1315 (va_up (I_1341 n_1315) (nI 5).toNatClampNeg (nI 114)))) (fun I_1346 => o_g (o_in G_1315 13 n_1315 (nI 6)) (o_b1 (some (va_up I_1346 n_1315 (va_up (I_1346 n_1315) (nI 6).toNatClampNeg (nI 109)))) (fun I_1352 => o_g (o_lt9 G_1315) (o_b1 (some (va_up I_1352 (G_1315.2.2 + 1) (fun _ => 0))) (fun I_1356 => o_b1 (some (va_up G_1315.1 (G_1315.2.2 + 1) 13, va_up G_1315.2.1 (G_1315.2.2 + 1) 5, G_1315.2.2 + 1)) (fun G_1356 => o_b1 (some (G_1315.2.2 + 1)) (fun n_1356 => o_g (o_in G_1356 13 n_1356 (nI 0)) (o_b1 (some (va_up I_1356 n_1356 (va_up (I_1356 n_1356) (nI 0).toNatClampNeg (nI 109)))) (fun I_1362 => o_g (o_in G_1356 13 n_1356 (nI 1)) (o_b1 (some (va_up I_1362 n_1356 (va_up (I_1362 n_1356) (nI 1).toNatClampNeg (nI 97)))) (fun I_1367 => o_g (o_in G_1356 13 n_1356 (nI 2)) (o_b1 (some (va_up I_1367 n_1356 (va_up (I_1367 n_1356) (nI 2).toNatClampNeg (nI 116)))) (fun I_1372 => o_g (o_in G_1356 13 n_1356 (nI 3)) (o_b1 (some (va_up I_1372 n_1356 (va_up (I_1372 n_1356) (nI 3).toNatClampNeg (nI 99)))) (fun I_1377 => o_g (o_in G_1356 13 n_1356 (nI 4)) (o_b1 (some (va_up I_1377 n_1356 (va_up (I_1377 n_1356) (nI 4).toNatClampNeg (nI 104)))) (fun I_1382 => o_g (o_lt9 G_1356) (o_b1 (some (va_up I_1382 (G_1356.2.2 + 1) (fun _ => 0))) (fun I_1386 => o_b1 (some (va_up G_1356.1 (G_1356.2.2 + 1) 13, va_up G_1356.2.1 (G_1356.2.2 + 1) 5, G_1356.2.2 + 1)) (fun G_1386 => o_b1 (some (G_1356.2.2 + 1)) (fun n_1386 => o_g (o_in G_1386 13 n_1386 (nI 0)) (o_b1 (some (va_up I_1386 n_1386 (va_up (I_1386 n_1386) (nI 0).toNatClampNeg (nI 103)))) (fun I_1392 => o_g (o_in G_1386 13 n_1386 (nI 1)) (o_b1 (some (va_up I_1392 n_1386 (va_up (I_1392 n_1386) (nI 1).toNatClampNeg (nI 114)))) (fun I_1397 => o_g (o_in G_1386 13 n_1386 (nI 2)) (o_b1 (some (va_up I_1397 n_1386 (va_up (I_1397 n_1386) (nI 2).toNatClampNeg (nI 97)))) (fun I_1402 => o_g (o_in G_1386 13 n_1386 (nI 3)) (o_b1 (some (va_up I_1402 n_1386 (va_up (I_1402 n_1386) (nI 3).toNatClampNeg (nI 112)))) (fun I_1407 => o_g (o_in G_1386 13 n_1386 (nI 4)) (o_b1 (some (va_up I_1407 n_1386 (va_up (I_1407 n_1386) (nI 4).toNatClampNeg (nI 104)))) (fun I_1412 => o_g (o_lt9 G_1386) (o_b1 (some (va_up I_1412 (G_1386.2.2 + 1) (fun _ => 0))) (fun I_1416 => o_b1 (some (va_up G_1386.1 (G_1386.2.2 + 1) 13, va_up G_1386.2.1 (G_1386.2.2 + 1) 4, G_1386.2.2 + 1)) (fun G_1416 => o_b1 (some (G_1386.2.2 + 1)) (fun n_1416 => o_g (o_in G_1416 13 n_1416 (nI 0)) (o_b1 (some (va_up I_1416 n_1416 (va_up (I_1416 n_1416) (nI 0).toNatClampNeg (nI 116)))) (fun I_1422 => o_g (o_in G_1416 13 n_1416 (nI 1)) (o_b1 (some (va_up I_1422 n_1416 (va_up (I_1422 n_1416) (nI 1).toNatClampNeg (nI 111)))) (fun I_1427 => o_g (o_in G_1416 13 n_1416 (nI 2)) (o_b1 (some (va_up I_1427 n_1416 (va_up (I_1427 n_1416) (nI 2).toNatClampNeg (nI 108)))) (fun I_1432 => o_g (o_in G_1416 13 n_1416 (nI 3)) (o_b1 (some (va_up I_1432 n_1416 (va_up (I_1432 n_1416) (nI 3).toNatClampNeg (nI 100)))) (fun I_1437 => o_b2 (m_118 a4 I_1437 G_1416) (fun r_1443 I_1443 => o_b1 (some (if (a2 - (nI 1)) < (nI 3) then (a2 - (nI 1)) else (nI 3))) (fun r_1450 => o_g (o_nzI r_1450) (o_b1 (some ((nI 1) + (r_1443 - r_1443 / r_1450 * r_1450))) (fun x10_1455 => if a3 = 0 then (m_122_j1495 a0 a1 a2 a3 a4 Rf n_3 G_1416 I_1443 x10_1455 n_1315) else (if a3 = (nI 1) then (m_122_j1495 a0 a1 a2 a3 a4 Rf n_3 G_1416 I_1443 x10_1455 n_1356) else (if a3 = (nI 2) then (m_122_j1495 a0 a1 a2 a3 a4 Rf n_3 G_1416 I_1443 x10_1455 n_1386) else (m_122_j1495 a0 a1 a2 a3 a4 Rf n_3 G_1416 I_1443 x10_1455 n_1416)))))))))))))))))))))))))))))))))))))))))))))))))))))))))))))))))))))
set_option maxHeartbeats 20000000 in
set_option maxRecDepth 100000 in
theorem md_122 {d : Nat} {I : ai_I} {J : ai_J} {Rf : ai_R} {G : ai_G} {a0 : Nat} {a1 : Int32} {a2 : Int32} {a3 : Int32} {a4 : Nat} {r : Int32} {I1 : ai_I} {R1 : ai_R} {G1 : ai_G} (hd : 11 ≤ d) (h : m_122 a0 a1 a2 a3 a4 I Rf G = some (r, I1, R1, G1)) : ai_Cl si_t si_ms d 122 [.inr (.inr a0), .inl a1, .inl a2, .inl a3, .inr (.inr a4)] I J Rf G (some (.inl r)) I1 J R1 G1 := by
  obtain ⟨e, rfl⟩ : ∃ e, d = e + 1 := ⟨d - 1, by omega⟩
  unfold m_122 at h
  refine sp_in (lo := [some (.inr (.inr a0)), some (.inl a1), some (.inl a2), some (.inl a3), some (.inr (.inr a4)), none, none, none, none, none, none, none, none, none, none, none]) (B := (16, 316)) rfl (Nat.le_of_ble_eq_true rfl) rfl rfl ?_
  refine go_sipush (pc' := 3) (v := (nI 240)) rfl rfl rfl ?_
  obtain ⟨g0, h⟩ := o_gE h
  refine go_newI (pc' := 5) (N := 240) rfl (by decide) (by decide) (by decide) (by decide) (by decide) (o_lt9E g0) rfl ?_
  obtain ⟨I_3, eI_3, h⟩ := o_b1E h
  obtain ⟨G_3, eG_3, h⟩ := o_b1E h
  obtain ⟨n_3, en_3, h⟩ := o_b1E h
  refine go_ndMI eI_3 ?_
  refine go_ndMG eG_3 ?_
  refine go_ndR en_3 ?_
  refine go_ndB (B' := (15, 76)) rfl ?_
  refine go_dupR (pc' := 6) rfl rfl ?_
  refine go_iconst (pc' := 7) (v := (nI 0)) rfl rfl rfl ?_
  refine go_iconst (pc' := 8) (v := (nI 0)) rfl rfl rfl ?_
  refine go_iast0 (pc' := 9) rfl (o_newK en_3 eG_3) (o_newI0 en_3 eG_3 (Nat.le_of_ble_eq_true rfl) (Nat.le_of_ble_eq_true rfl)) (o_newZ en_3 eI_3) rfl ?_
  refine go_dupR (pc' := 10) rfl rfl ?_
  refine go_iconst (pc' := 11) (v := (nI 1)) rfl rfl rfl ?_
  refine go_iconst (pc' := 12) (v := (nI 0)) rfl rfl rfl ?_
  refine go_iast0 (pc' := 13) rfl (o_newK en_3 eG_3) (o_newI0 en_3 eG_3 (Nat.le_of_ble_eq_true rfl) (Nat.le_of_ble_eq_true rfl)) (o_newZ en_3 eI_3) rfl ?_
  refine go_dupR (pc' := 14) rfl rfl ?_
  refine go_iconst (pc' := 15) (v := (nI 2)) rfl rfl rfl ?_
  refine go_iconst (pc' := 16) (v := (nI 0)) rfl rfl rfl ?_
  refine go_iast0 (pc' := 17) rfl (o_newK en_3 eG_3) (o_newI0 en_3 eG_3 (Nat.le_of_ble_eq_true rfl) (Nat.le_of_ble_eq_true rfl)) (o_newZ en_3 eI_3) rfl ?_
  refine go_dupR (pc' := 18) rfl rfl ?_
  refine go_iconst (pc' := 19) (v := (nI 3)) rfl rfl rfl ?_
  refine go_iconst (pc' := 20) (v := (nI 0)) rfl rfl rfl ?_
  refine go_iast0 (pc' := 21) rfl (o_newK en_3 eG_3) (o_newI0 en_3 eG_3 (Nat.le_of_ble_eq_true rfl) (Nat.le_of_ble_eq_true rfl)) (o_newZ en_3 eI_3) rfl ?_
  refine go_dupR (pc' := 22) rfl rfl ?_
  refine go_iconst (pc' := 23) (v := (nI 4)) rfl rfl rfl ?_
  refine go_iconst (pc' := 24) (v := (nI 0)) rfl rfl rfl ?_
  refine go_iast0 (pc' := 25) rfl (o_newK en_3 eG_3) (o_newI0 en_3 eG_3 (Nat.le_of_ble_eq_true rfl) (Nat.le_of_ble_eq_true rfl)) (o_newZ en_3 eI_3) rfl ?_
  refine go_dupR (pc' := 26) rfl rfl ?_
  refine go_iconst (pc' := 27) (v := (nI 5)) rfl rfl rfl ?_
  refine go_iconst (pc' := 28) (v := (nI 0)) rfl rfl rfl ?_
  refine go_iast0 (pc' := 29) rfl (o_newK en_3 eG_3) (o_newI0 en_3 eG_3 (Nat.le_of_ble_eq_true rfl) (Nat.le_of_ble_eq_true rfl)) (o_newZ en_3 eI_3) rfl ?_
  refine go_dupR (pc' := 30) rfl rfl ?_
  refine go_bipush (pc' := 32) (v := (nI 6)) rfl rfl rfl ?_
  refine go_iconst (pc' := 33) (v := (nI 0)) rfl rfl rfl ?_
  refine go_iast0 (pc' := 34) rfl (o_newK en_3 eG_3) (o_newI0 en_3 eG_3 (Nat.le_of_ble_eq_true rfl) (Nat.le_of_ble_eq_true rfl)) (o_newZ en_3 eI_3) rfl ?_
  refine go_dupR (pc' := 35) rfl rfl ?_
  refine go_bipush (pc' := 37) (v := (nI 7)) rfl rfl rfl ?_
  refine go_iconst (pc' := 38) (v := (nI 0)) rfl rfl rfl ?_
  refine go_iast0 (pc' := 39) rfl (o_newK en_3 eG_3) (o_newI0 en_3 eG_3 (Nat.le_of_ble_eq_true rfl) (Nat.le_of_ble_eq_true rfl)) (o_newZ en_3 eI_3) rfl ?_
  refine go_dupR (pc' := 40) rfl rfl ?_
  refine go_bipush (pc' := 42) (v := (nI 8)) rfl rfl rfl ?_
  refine go_iconst (pc' := 43) (v := (nI 0)) rfl rfl rfl ?_
  refine go_iast0 (pc' := 44) rfl (o_newK en_3 eG_3) (o_newI0 en_3 eG_3 (Nat.le_of_ble_eq_true rfl) (Nat.le_of_ble_eq_true rfl)) (o_newZ en_3 eI_3) rfl ?_
  refine go_dupR (pc' := 45) rfl rfl ?_
  refine go_bipush (pc' := 47) (v := (nI 9)) rfl rfl rfl ?_
  refine go_iconst (pc' := 48) (v := (nI 0)) rfl rfl rfl ?_
  refine go_iast0 (pc' := 49) rfl (o_newK en_3 eG_3) (o_newI0 en_3 eG_3 (Nat.le_of_ble_eq_true rfl) (Nat.le_of_ble_eq_true rfl)) (o_newZ en_3 eI_3) rfl ?_
  refine go_dupR (pc' := 50) rfl rfl ?_
  refine go_bipush (pc' := 52) (v := (nI 10)) rfl rfl rfl ?_
  refine go_iconst (pc' := 53) (v := (nI 0)) rfl rfl rfl ?_
  refine go_iast0 (pc' := 54) rfl (o_newK en_3 eG_3) (o_newI0 en_3 eG_3 (Nat.le_of_ble_eq_true rfl) (Nat.le_of_ble_eq_true rfl)) (o_newZ en_3 eI_3) rfl ?_
  refine go_dupR (pc' := 55) rfl rfl ?_
  refine go_bipush (pc' := 57) (v := (nI 11)) rfl rfl rfl ?_
  refine go_iconst (pc' := 58) (v := (nI 0)) rfl rfl rfl ?_
  refine go_iast0 (pc' := 59) rfl (o_newK en_3 eG_3) (o_newI0 en_3 eG_3 (Nat.le_of_ble_eq_true rfl) (Nat.le_of_ble_eq_true rfl)) (o_newZ en_3 eI_3) rfl ?_
  refine go_dupR (pc' := 60) rfl rfl ?_
  refine go_bipush (pc' := 62) (v := (nI 12)) rfl rfl rfl ?_
  refine go_iconst (pc' := 63) (v := (nI 0)) rfl rfl rfl ?_
  refine go_iast0 (pc' := 64) rfl (o_newK en_3 eG_3) (o_newI0 en_3 eG_3 (Nat.le_of_ble_eq_true rfl) (Nat.le_of_ble_eq_true rfl)) (o_newZ en_3 eI_3) rfl ?_
  refine go_dupR (pc' := 65) rfl rfl ?_
  refine go_bipush (pc' := 67) (v := (nI 13)) rfl rfl rfl ?_
  refine go_iconst (pc' := 68) (v := (nI 0)) rfl rfl rfl ?_
  refine go_iast0 (pc' := 69) rfl (o_newK en_3 eG_3) (o_newI0 en_3 eG_3 (Nat.le_of_ble_eq_true rfl) (Nat.le_of_ble_eq_true rfl)) (o_newZ en_3 eI_3) rfl ?_
  refine go_dupR (pc' := 70) rfl rfl ?_
  refine go_bipush (pc' := 72) (v := (nI 14)) rfl rfl rfl ?_
  refine go_iconst (pc' := 73) (v := (nI 0)) rfl rfl rfl ?_
  refine go_iast0 (pc' := 74) rfl (o_newK en_3 eG_3) (o_newI0 en_3 eG_3 (Nat.le_of_ble_eq_true rfl) (Nat.le_of_ble_eq_true rfl)) (o_newZ en_3 eI_3) rfl ?_
  refine go_dupR (pc' := 75) rfl rfl ?_
  refine go_bipush (pc' := 77) (v := (nI 15)) rfl rfl rfl ?_
  refine go_iconst (pc' := 78) (v := (nI 0)) rfl rfl rfl ?_
  refine go_iast0 (pc' := 79) rfl (o_newK en_3 eG_3) (o_newI0 en_3 eG_3 (Nat.le_of_ble_eq_true rfl) (Nat.le_of_ble_eq_true rfl)) (o_newZ en_3 eI_3) rfl ?_
  refine go_dupR (pc' := 80) rfl rfl ?_
  refine go_bipush (pc' := 82) (v := (nI 16)) rfl rfl rfl ?_
  refine go_iconst (pc' := 83) (v := (nI 0)) rfl rfl rfl ?_
  refine go_iast0 (pc' := 84) rfl (o_newK en_3 eG_3) (o_newI0 en_3 eG_3 (Nat.le_of_ble_eq_true rfl) (Nat.le_of_ble_eq_true rfl)) (o_newZ en_3 eI_3) rfl ?_
  refine go_dupR (pc' := 85) rfl rfl ?_
  refine go_bipush (pc' := 87) (v := (nI 17)) rfl rfl rfl ?_
  refine go_iconst (pc' := 88) (v := (nI 0)) rfl rfl rfl ?_
  refine go_iast0 (pc' := 89) rfl (o_newK en_3 eG_3) (o_newI0 en_3 eG_3 (Nat.le_of_ble_eq_true rfl) (Nat.le_of_ble_eq_true rfl)) (o_newZ en_3 eI_3) rfl ?_
  refine go_dupR (pc' := 90) rfl rfl ?_
  refine go_bipush (pc' := 92) (v := (nI 18)) rfl rfl rfl ?_
  refine go_iconst (pc' := 93) (v := (nI 0)) rfl rfl rfl ?_
  refine go_iast0 (pc' := 94) rfl (o_newK en_3 eG_3) (o_newI0 en_3 eG_3 (Nat.le_of_ble_eq_true rfl) (Nat.le_of_ble_eq_true rfl)) (o_newZ en_3 eI_3) rfl ?_
  refine go_dupR (pc' := 95) rfl rfl ?_
  refine go_bipush (pc' := 97) (v := (nI 19)) rfl rfl rfl ?_
  refine go_iconst (pc' := 98) (v := (nI 0)) rfl rfl rfl ?_
  refine go_iast0 (pc' := 99) rfl (o_newK en_3 eG_3) (o_newI0 en_3 eG_3 (Nat.le_of_ble_eq_true rfl) (Nat.le_of_ble_eq_true rfl)) (o_newZ en_3 eI_3) rfl ?_
  refine go_dupR (pc' := 100) rfl rfl ?_
  refine go_bipush (pc' := 102) (v := (nI 20)) rfl rfl rfl ?_
  refine go_iconst (pc' := 103) (v := (nI 0)) rfl rfl rfl ?_
  refine go_iast0 (pc' := 104) rfl (o_newK en_3 eG_3) (o_newI0 en_3 eG_3 (Nat.le_of_ble_eq_true rfl) (Nat.le_of_ble_eq_true rfl)) (o_newZ en_3 eI_3) rfl ?_
  refine go_dupR (pc' := 105) rfl rfl ?_
  refine go_bipush (pc' := 107) (v := (nI 21)) rfl rfl rfl ?_
  refine go_iconst (pc' := 108) (v := (nI 0)) rfl rfl rfl ?_
  refine go_iast0 (pc' := 109) rfl (o_newK en_3 eG_3) (o_newI0 en_3 eG_3 (Nat.le_of_ble_eq_true rfl) (Nat.le_of_ble_eq_true rfl)) (o_newZ en_3 eI_3) rfl ?_
  refine go_dupR (pc' := 110) rfl rfl ?_
  refine go_bipush (pc' := 112) (v := (nI 22)) rfl rfl rfl ?_
  refine go_iconst (pc' := 113) (v := (nI 0)) rfl rfl rfl ?_
  refine go_iast0 (pc' := 114) rfl (o_newK en_3 eG_3) (o_newI0 en_3 eG_3 (Nat.le_of_ble_eq_true rfl) (Nat.le_of_ble_eq_true rfl)) (o_newZ en_3 eI_3) rfl ?_
  refine go_dupR (pc' := 115) rfl rfl ?_
  refine go_bipush (pc' := 117) (v := (nI 23)) rfl rfl rfl ?_
  refine go_iconst (pc' := 118) (v := (nI 0)) rfl rfl rfl ?_
  refine go_iast0 (pc' := 119) rfl (o_newK en_3 eG_3) (o_newI0 en_3 eG_3 (Nat.le_of_ble_eq_true rfl) (Nat.le_of_ble_eq_true rfl)) (o_newZ en_3 eI_3) rfl ?_
  refine go_dupR (pc' := 120) rfl rfl ?_
  refine go_bipush (pc' := 122) (v := (nI 24)) rfl rfl rfl ?_
  refine go_iconst (pc' := 123) (v := (nI 0)) rfl rfl rfl ?_
  refine go_iast0 (pc' := 124) rfl (o_newK en_3 eG_3) (o_newI0 en_3 eG_3 (Nat.le_of_ble_eq_true rfl) (Nat.le_of_ble_eq_true rfl)) (o_newZ en_3 eI_3) rfl ?_
  refine go_dupR (pc' := 125) rfl rfl ?_
  refine go_bipush (pc' := 127) (v := (nI 25)) rfl rfl rfl ?_
  refine go_iconst (pc' := 128) (v := (nI 0)) rfl rfl rfl ?_
  refine go_iast0 (pc' := 129) rfl (o_newK en_3 eG_3) (o_newI0 en_3 eG_3 (Nat.le_of_ble_eq_true rfl) (Nat.le_of_ble_eq_true rfl)) (o_newZ en_3 eI_3) rfl ?_
  refine go_dupR (pc' := 130) rfl rfl ?_
  refine go_bipush (pc' := 132) (v := (nI 26)) rfl rfl rfl ?_
  refine go_iconst (pc' := 133) (v := (nI 0)) rfl rfl rfl ?_
  refine go_iast0 (pc' := 134) rfl (o_newK en_3 eG_3) (o_newI0 en_3 eG_3 (Nat.le_of_ble_eq_true rfl) (Nat.le_of_ble_eq_true rfl)) (o_newZ en_3 eI_3) rfl ?_
  refine go_dupR (pc' := 135) rfl rfl ?_
  refine go_bipush (pc' := 137) (v := (nI 27)) rfl rfl rfl ?_
  refine go_iconst (pc' := 138) (v := (nI 0)) rfl rfl rfl ?_
  refine go_iast0 (pc' := 139) rfl (o_newK en_3 eG_3) (o_newI0 en_3 eG_3 (Nat.le_of_ble_eq_true rfl) (Nat.le_of_ble_eq_true rfl)) (o_newZ en_3 eI_3) rfl ?_
  refine go_dupR (pc' := 140) rfl rfl ?_
  refine go_bipush (pc' := 142) (v := (nI 28)) rfl rfl rfl ?_
  refine go_iconst (pc' := 143) (v := (nI 0)) rfl rfl rfl ?_
  refine go_iast0 (pc' := 144) rfl (o_newK en_3 eG_3) (o_newI0 en_3 eG_3 (Nat.le_of_ble_eq_true rfl) (Nat.le_of_ble_eq_true rfl)) (o_newZ en_3 eI_3) rfl ?_
  refine go_dupR (pc' := 145) rfl rfl ?_
  refine go_bipush (pc' := 147) (v := (nI 29)) rfl rfl rfl ?_
  refine go_iconst (pc' := 148) (v := (nI 0)) rfl rfl rfl ?_
  refine go_iast0 (pc' := 149) rfl (o_newK en_3 eG_3) (o_newI0 en_3 eG_3 (Nat.le_of_ble_eq_true rfl) (Nat.le_of_ble_eq_true rfl)) (o_newZ en_3 eI_3) rfl ?_
  refine go_dupR (pc' := 150) rfl rfl ?_
  refine go_bipush (pc' := 152) (v := (nI 30)) rfl rfl rfl ?_
  refine go_iconst (pc' := 153) (v := (nI 0)) rfl rfl rfl ?_
  refine go_iast0 (pc' := 154) rfl (o_newK en_3 eG_3) (o_newI0 en_3 eG_3 (Nat.le_of_ble_eq_true rfl) (Nat.le_of_ble_eq_true rfl)) (o_newZ en_3 eI_3) rfl ?_
  refine go_dupR (pc' := 155) rfl rfl ?_
  refine go_bipush (pc' := 157) (v := (nI 31)) rfl rfl rfl ?_
  refine go_iconst (pc' := 158) (v := (nI 0)) rfl rfl rfl ?_
  refine go_iast0 (pc' := 159) rfl (o_newK en_3 eG_3) (o_newI0 en_3 eG_3 (Nat.le_of_ble_eq_true rfl) (Nat.le_of_ble_eq_true rfl)) (o_newZ en_3 eI_3) rfl ?_
  refine go_dupR (pc' := 160) rfl rfl ?_
  refine go_bipush (pc' := 162) (v := (nI 32)) rfl rfl rfl ?_
  refine go_iconst (pc' := 163) (v := (nI 0)) rfl rfl rfl ?_
  refine go_iast0 (pc' := 164) rfl (o_newK en_3 eG_3) (o_newI0 en_3 eG_3 (Nat.le_of_ble_eq_true rfl) (Nat.le_of_ble_eq_true rfl)) (o_newZ en_3 eI_3) rfl ?_
  refine go_dupR (pc' := 165) rfl rfl ?_
  refine go_bipush (pc' := 167) (v := (nI 33)) rfl rfl rfl ?_
  refine go_iconst (pc' := 168) (v := (nI 0)) rfl rfl rfl ?_
  refine go_iast0 (pc' := 169) rfl (o_newK en_3 eG_3) (o_newI0 en_3 eG_3 (Nat.le_of_ble_eq_true rfl) (Nat.le_of_ble_eq_true rfl)) (o_newZ en_3 eI_3) rfl ?_
  refine go_dupR (pc' := 170) rfl rfl ?_
  refine go_bipush (pc' := 172) (v := (nI 34)) rfl rfl rfl ?_
  refine go_iconst (pc' := 173) (v := (nI 0)) rfl rfl rfl ?_
  refine go_iast0 (pc' := 174) rfl (o_newK en_3 eG_3) (o_newI0 en_3 eG_3 (Nat.le_of_ble_eq_true rfl) (Nat.le_of_ble_eq_true rfl)) (o_newZ en_3 eI_3) rfl ?_
  refine go_dupR (pc' := 175) rfl rfl ?_
  refine go_bipush (pc' := 177) (v := (nI 35)) rfl rfl rfl ?_
  refine go_iconst (pc' := 178) (v := (nI 0)) rfl rfl rfl ?_
  refine go_iast0 (pc' := 179) rfl (o_newK en_3 eG_3) (o_newI0 en_3 eG_3 (Nat.le_of_ble_eq_true rfl) (Nat.le_of_ble_eq_true rfl)) (o_newZ en_3 eI_3) rfl ?_
  refine go_dupR (pc' := 180) rfl rfl ?_
  refine go_bipush (pc' := 182) (v := (nI 36)) rfl rfl rfl ?_
  refine go_iconst (pc' := 183) (v := (nI 0)) rfl rfl rfl ?_
  refine go_iast0 (pc' := 184) rfl (o_newK en_3 eG_3) (o_newI0 en_3 eG_3 (Nat.le_of_ble_eq_true rfl) (Nat.le_of_ble_eq_true rfl)) (o_newZ en_3 eI_3) rfl ?_
  refine go_dupR (pc' := 185) rfl rfl ?_
  refine go_bipush (pc' := 187) (v := (nI 37)) rfl rfl rfl ?_
  refine go_iconst (pc' := 188) (v := (nI 0)) rfl rfl rfl ?_
  refine go_iast0 (pc' := 189) rfl (o_newK en_3 eG_3) (o_newI0 en_3 eG_3 (Nat.le_of_ble_eq_true rfl) (Nat.le_of_ble_eq_true rfl)) (o_newZ en_3 eI_3) rfl ?_
  refine go_dupR (pc' := 190) rfl rfl ?_
  refine go_bipush (pc' := 192) (v := (nI 38)) rfl rfl rfl ?_
  refine go_iconst (pc' := 193) (v := (nI 0)) rfl rfl rfl ?_
  refine go_iast0 (pc' := 194) rfl (o_newK en_3 eG_3) (o_newI0 en_3 eG_3 (Nat.le_of_ble_eq_true rfl) (Nat.le_of_ble_eq_true rfl)) (o_newZ en_3 eI_3) rfl ?_
  refine go_dupR (pc' := 195) rfl rfl ?_
  refine go_bipush (pc' := 197) (v := (nI 39)) rfl rfl rfl ?_
  refine go_iconst (pc' := 198) (v := (nI 0)) rfl rfl rfl ?_
  refine go_iast0 (pc' := 199) rfl (o_newK en_3 eG_3) (o_newI0 en_3 eG_3 (Nat.le_of_ble_eq_true rfl) (Nat.le_of_ble_eq_true rfl)) (o_newZ en_3 eI_3) rfl ?_
  refine go_dupR (pc' := 200) rfl rfl ?_
  refine go_bipush (pc' := 202) (v := (nI 40)) rfl rfl rfl ?_
  refine go_iconst (pc' := 203) (v := (nI 0)) rfl rfl rfl ?_
  refine go_iast0 (pc' := 204) rfl (o_newK en_3 eG_3) (o_newI0 en_3 eG_3 (Nat.le_of_ble_eq_true rfl) (Nat.le_of_ble_eq_true rfl)) (o_newZ en_3 eI_3) rfl ?_
  refine go_dupR (pc' := 205) rfl rfl ?_
  refine go_bipush (pc' := 207) (v := (nI 41)) rfl rfl rfl ?_
  refine go_iconst (pc' := 208) (v := (nI 0)) rfl rfl rfl ?_
  refine go_iast0 (pc' := 209) rfl (o_newK en_3 eG_3) (o_newI0 en_3 eG_3 (Nat.le_of_ble_eq_true rfl) (Nat.le_of_ble_eq_true rfl)) (o_newZ en_3 eI_3) rfl ?_
  refine go_dupR (pc' := 210) rfl rfl ?_
  refine go_bipush (pc' := 212) (v := (nI 42)) rfl rfl rfl ?_
  refine go_iconst (pc' := 213) (v := (nI 0)) rfl rfl rfl ?_
  refine go_iast0 (pc' := 214) rfl (o_newK en_3 eG_3) (o_newI0 en_3 eG_3 (Nat.le_of_ble_eq_true rfl) (Nat.le_of_ble_eq_true rfl)) (o_newZ en_3 eI_3) rfl ?_
  refine go_dupR (pc' := 215) rfl rfl ?_
  refine go_bipush (pc' := 217) (v := (nI 43)) rfl rfl rfl ?_
  refine go_iconst (pc' := 218) (v := (nI 0)) rfl rfl rfl ?_
  refine go_iast0 (pc' := 219) rfl (o_newK en_3 eG_3) (o_newI0 en_3 eG_3 (Nat.le_of_ble_eq_true rfl) (Nat.le_of_ble_eq_true rfl)) (o_newZ en_3 eI_3) rfl ?_
  refine go_dupR (pc' := 220) rfl rfl ?_
  refine go_bipush (pc' := 222) (v := (nI 44)) rfl rfl rfl ?_
  refine go_iconst (pc' := 223) (v := (nI 0)) rfl rfl rfl ?_
  refine go_iast0 (pc' := 224) rfl (o_newK en_3 eG_3) (o_newI0 en_3 eG_3 (Nat.le_of_ble_eq_true rfl) (Nat.le_of_ble_eq_true rfl)) (o_newZ en_3 eI_3) rfl ?_
  refine go_dupR (pc' := 225) rfl rfl ?_
  refine go_bipush (pc' := 227) (v := (nI 45)) rfl rfl rfl ?_
  refine go_iconst (pc' := 228) (v := (nI 0)) rfl rfl rfl ?_
  refine go_iast0 (pc' := 229) rfl (o_newK en_3 eG_3) (o_newI0 en_3 eG_3 (Nat.le_of_ble_eq_true rfl) (Nat.le_of_ble_eq_true rfl)) (o_newZ en_3 eI_3) rfl ?_
  refine go_dupR (pc' := 230) rfl rfl ?_
  refine go_bipush (pc' := 232) (v := (nI 46)) rfl rfl rfl ?_
  refine go_iconst (pc' := 233) (v := (nI 0)) rfl rfl rfl ?_
  refine go_iast0 (pc' := 234) rfl (o_newK en_3 eG_3) (o_newI0 en_3 eG_3 (Nat.le_of_ble_eq_true rfl) (Nat.le_of_ble_eq_true rfl)) (o_newZ en_3 eI_3) rfl ?_
  refine go_dupR (pc' := 235) rfl rfl ?_
  refine go_bipush (pc' := 237) (v := (nI 47)) rfl rfl rfl ?_
  refine go_iconst (pc' := 238) (v := (nI 0)) rfl rfl rfl ?_
  refine go_iast0 (pc' := 239) rfl (o_newK en_3 eG_3) (o_newI0 en_3 eG_3 (Nat.le_of_ble_eq_true rfl) (Nat.le_of_ble_eq_true rfl)) (o_newZ en_3 eI_3) rfl ?_
  refine go_dupR (pc' := 240) rfl rfl ?_
  refine go_bipush (pc' := 242) (v := (nI 48)) rfl rfl rfl ?_
  refine go_iconst (pc' := 243) (v := (nI 0)) rfl rfl rfl ?_
  refine go_iast0 (pc' := 244) rfl (o_newK en_3 eG_3) (o_newI0 en_3 eG_3 (Nat.le_of_ble_eq_true rfl) (Nat.le_of_ble_eq_true rfl)) (o_newZ en_3 eI_3) rfl ?_
  refine go_dupR (pc' := 245) rfl rfl ?_
  refine go_bipush (pc' := 247) (v := (nI 49)) rfl rfl rfl ?_
  refine go_iconst (pc' := 248) (v := (nI 0)) rfl rfl rfl ?_
  refine go_iast0 (pc' := 249) rfl (o_newK en_3 eG_3) (o_newI0 en_3 eG_3 (Nat.le_of_ble_eq_true rfl) (Nat.le_of_ble_eq_true rfl)) (o_newZ en_3 eI_3) rfl ?_
  refine go_dupR (pc' := 250) rfl rfl ?_
  refine go_bipush (pc' := 252) (v := (nI 50)) rfl rfl rfl ?_
  refine go_iconst (pc' := 253) (v := (nI 0)) rfl rfl rfl ?_
  refine go_iast0 (pc' := 254) rfl (o_newK en_3 eG_3) (o_newI0 en_3 eG_3 (Nat.le_of_ble_eq_true rfl) (Nat.le_of_ble_eq_true rfl)) (o_newZ en_3 eI_3) rfl ?_
  refine go_dupR (pc' := 255) rfl rfl ?_
  refine go_bipush (pc' := 257) (v := (nI 51)) rfl rfl rfl ?_
  refine go_iconst (pc' := 258) (v := (nI 0)) rfl rfl rfl ?_
  refine go_iast0 (pc' := 259) rfl (o_newK en_3 eG_3) (o_newI0 en_3 eG_3 (Nat.le_of_ble_eq_true rfl) (Nat.le_of_ble_eq_true rfl)) (o_newZ en_3 eI_3) rfl ?_
  refine go_dupR (pc' := 260) rfl rfl ?_
  refine go_bipush (pc' := 262) (v := (nI 52)) rfl rfl rfl ?_
  refine go_iconst (pc' := 263) (v := (nI 0)) rfl rfl rfl ?_
  refine go_iast0 (pc' := 264) rfl (o_newK en_3 eG_3) (o_newI0 en_3 eG_3 (Nat.le_of_ble_eq_true rfl) (Nat.le_of_ble_eq_true rfl)) (o_newZ en_3 eI_3) rfl ?_
  refine go_dupR (pc' := 265) rfl rfl ?_
  refine go_bipush (pc' := 267) (v := (nI 53)) rfl rfl rfl ?_
  refine go_iconst (pc' := 268) (v := (nI 0)) rfl rfl rfl ?_
  refine go_iast0 (pc' := 269) rfl (o_newK en_3 eG_3) (o_newI0 en_3 eG_3 (Nat.le_of_ble_eq_true rfl) (Nat.le_of_ble_eq_true rfl)) (o_newZ en_3 eI_3) rfl ?_
  refine go_dupR (pc' := 270) rfl rfl ?_
  refine go_bipush (pc' := 272) (v := (nI 54)) rfl rfl rfl ?_
  refine go_iconst (pc' := 273) (v := (nI 0)) rfl rfl rfl ?_
  refine go_iast0 (pc' := 274) rfl (o_newK en_3 eG_3) (o_newI0 en_3 eG_3 (Nat.le_of_ble_eq_true rfl) (Nat.le_of_ble_eq_true rfl)) (o_newZ en_3 eI_3) rfl ?_
  refine go_dupR (pc' := 275) rfl rfl ?_
  refine go_bipush (pc' := 277) (v := (nI 55)) rfl rfl rfl ?_
  refine go_iconst (pc' := 278) (v := (nI 0)) rfl rfl rfl ?_
  refine go_iast0 (pc' := 279) rfl (o_newK en_3 eG_3) (o_newI0 en_3 eG_3 (Nat.le_of_ble_eq_true rfl) (Nat.le_of_ble_eq_true rfl)) (o_newZ en_3 eI_3) rfl ?_
  refine go_dupR (pc' := 280) rfl rfl ?_
  refine go_bipush (pc' := 282) (v := (nI 56)) rfl rfl rfl ?_
  refine go_iconst (pc' := 283) (v := (nI 0)) rfl rfl rfl ?_
  refine go_iast0 (pc' := 284) rfl (o_newK en_3 eG_3) (o_newI0 en_3 eG_3 (Nat.le_of_ble_eq_true rfl) (Nat.le_of_ble_eq_true rfl)) (o_newZ en_3 eI_3) rfl ?_
  refine go_dupR (pc' := 285) rfl rfl ?_
  refine go_bipush (pc' := 287) (v := (nI 57)) rfl rfl rfl ?_
  refine go_iconst (pc' := 288) (v := (nI 0)) rfl rfl rfl ?_
  refine go_iast0 (pc' := 289) rfl (o_newK en_3 eG_3) (o_newI0 en_3 eG_3 (Nat.le_of_ble_eq_true rfl) (Nat.le_of_ble_eq_true rfl)) (o_newZ en_3 eI_3) rfl ?_
  refine go_dupR (pc' := 290) rfl rfl ?_
  refine go_bipush (pc' := 292) (v := (nI 58)) rfl rfl rfl ?_
  refine go_iconst (pc' := 293) (v := (nI 0)) rfl rfl rfl ?_
  refine go_iast0 (pc' := 294) rfl (o_newK en_3 eG_3) (o_newI0 en_3 eG_3 (Nat.le_of_ble_eq_true rfl) (Nat.le_of_ble_eq_true rfl)) (o_newZ en_3 eI_3) rfl ?_
  refine go_dupR (pc' := 295) rfl rfl ?_
  refine go_bipush (pc' := 297) (v := (nI 59)) rfl rfl rfl ?_
  refine go_iconst (pc' := 298) (v := (nI 0)) rfl rfl rfl ?_
  refine go_iast0 (pc' := 299) rfl (o_newK en_3 eG_3) (o_newI0 en_3 eG_3 (Nat.le_of_ble_eq_true rfl) (Nat.le_of_ble_eq_true rfl)) (o_newZ en_3 eI_3) rfl ?_
  refine go_dupR (pc' := 300) rfl rfl ?_
  refine go_bipush (pc' := 302) (v := (nI 60)) rfl rfl rfl ?_
  refine go_iconst (pc' := 303) (v := (nI 0)) rfl rfl rfl ?_
  refine go_iast0 (pc' := 304) rfl (o_newK en_3 eG_3) (o_newI0 en_3 eG_3 (Nat.le_of_ble_eq_true rfl) (Nat.le_of_ble_eq_true rfl)) (o_newZ en_3 eI_3) rfl ?_
  refine go_dupR (pc' := 305) rfl rfl ?_
  refine go_bipush (pc' := 307) (v := (nI 61)) rfl rfl rfl ?_
  refine go_iconst (pc' := 308) (v := (nI 0)) rfl rfl rfl ?_
  refine go_iast0 (pc' := 309) rfl (o_newK en_3 eG_3) (o_newI0 en_3 eG_3 (Nat.le_of_ble_eq_true rfl) (Nat.le_of_ble_eq_true rfl)) (o_newZ en_3 eI_3) rfl ?_
  refine go_dupR (pc' := 310) rfl rfl ?_
  refine go_bipush (pc' := 312) (v := (nI 62)) rfl rfl rfl ?_
  refine go_iconst (pc' := 313) (v := (nI 0)) rfl rfl rfl ?_
  refine go_iast0 (pc' := 314) rfl (o_newK en_3 eG_3) (o_newI0 en_3 eG_3 (Nat.le_of_ble_eq_true rfl) (Nat.le_of_ble_eq_true rfl)) (o_newZ en_3 eI_3) rfl ?_
  refine go_dupR (pc' := 315) rfl rfl ?_
  refine go_bipush (pc' := 317) (v := (nI 63)) rfl rfl rfl ?_
  refine go_iconst (pc' := 318) (v := (nI 0)) rfl rfl rfl ?_
  refine go_iast0 (pc' := 319) rfl (o_newK en_3 eG_3) (o_newI0 en_3 eG_3 (Nat.le_of_ble_eq_true rfl) (Nat.le_of_ble_eq_true rfl)) (o_newZ en_3 eI_3) rfl ?_
  refine go_dupR (pc' := 320) rfl rfl ?_
  refine go_bipush (pc' := 322) (v := (nI 64)) rfl rfl rfl ?_
  refine go_iconst (pc' := 323) (v := (nI 0)) rfl rfl rfl ?_
  refine go_iast0 (pc' := 324) rfl (o_newK en_3 eG_3) (o_newI0 en_3 eG_3 (Nat.le_of_ble_eq_true rfl) (Nat.le_of_ble_eq_true rfl)) (o_newZ en_3 eI_3) rfl ?_
  refine go_dupR (pc' := 325) rfl rfl ?_
  refine go_bipush (pc' := 327) (v := (nI 65)) rfl rfl rfl ?_
  refine go_iconst (pc' := 328) (v := (nI 0)) rfl rfl rfl ?_
  refine go_iast0 (pc' := 329) rfl (o_newK en_3 eG_3) (o_newI0 en_3 eG_3 (Nat.le_of_ble_eq_true rfl) (Nat.le_of_ble_eq_true rfl)) (o_newZ en_3 eI_3) rfl ?_
  refine go_dupR (pc' := 330) rfl rfl ?_
  refine go_bipush (pc' := 332) (v := (nI 66)) rfl rfl rfl ?_
  refine go_iconst (pc' := 333) (v := (nI 0)) rfl rfl rfl ?_
  refine go_iast0 (pc' := 334) rfl (o_newK en_3 eG_3) (o_newI0 en_3 eG_3 (Nat.le_of_ble_eq_true rfl) (Nat.le_of_ble_eq_true rfl)) (o_newZ en_3 eI_3) rfl ?_
  refine go_dupR (pc' := 335) rfl rfl ?_
  refine go_bipush (pc' := 337) (v := (nI 67)) rfl rfl rfl ?_
  refine go_iconst (pc' := 338) (v := (nI 0)) rfl rfl rfl ?_
  refine go_iast0 (pc' := 339) rfl (o_newK en_3 eG_3) (o_newI0 en_3 eG_3 (Nat.le_of_ble_eq_true rfl) (Nat.le_of_ble_eq_true rfl)) (o_newZ en_3 eI_3) rfl ?_
  refine go_dupR (pc' := 340) rfl rfl ?_
  refine go_bipush (pc' := 342) (v := (nI 68)) rfl rfl rfl ?_
  refine go_iconst (pc' := 343) (v := (nI 0)) rfl rfl rfl ?_
  refine go_iast0 (pc' := 344) rfl (o_newK en_3 eG_3) (o_newI0 en_3 eG_3 (Nat.le_of_ble_eq_true rfl) (Nat.le_of_ble_eq_true rfl)) (o_newZ en_3 eI_3) rfl ?_
  refine go_dupR (pc' := 345) rfl rfl ?_
  refine go_bipush (pc' := 347) (v := (nI 69)) rfl rfl rfl ?_
  refine go_iconst (pc' := 348) (v := (nI 0)) rfl rfl rfl ?_
  refine go_iast0 (pc' := 349) rfl (o_newK en_3 eG_3) (o_newI0 en_3 eG_3 (Nat.le_of_ble_eq_true rfl) (Nat.le_of_ble_eq_true rfl)) (o_newZ en_3 eI_3) rfl ?_
  refine go_dupR (pc' := 350) rfl rfl ?_
  refine go_bipush (pc' := 352) (v := (nI 70)) rfl rfl rfl ?_
  refine go_iconst (pc' := 353) (v := (nI 0)) rfl rfl rfl ?_
  refine go_iast0 (pc' := 354) rfl (o_newK en_3 eG_3) (o_newI0 en_3 eG_3 (Nat.le_of_ble_eq_true rfl) (Nat.le_of_ble_eq_true rfl)) (o_newZ en_3 eI_3) rfl ?_
  refine go_dupR (pc' := 355) rfl rfl ?_
  refine go_bipush (pc' := 357) (v := (nI 71)) rfl rfl rfl ?_
  refine go_iconst (pc' := 358) (v := (nI 0)) rfl rfl rfl ?_
  refine go_iast0 (pc' := 359) rfl (o_newK en_3 eG_3) (o_newI0 en_3 eG_3 (Nat.le_of_ble_eq_true rfl) (Nat.le_of_ble_eq_true rfl)) (o_newZ en_3 eI_3) rfl ?_
  refine go_dupR (pc' := 360) rfl rfl ?_
  refine go_bipush (pc' := 362) (v := (nI 72)) rfl rfl rfl ?_
  refine go_iconst (pc' := 363) (v := (nI 0)) rfl rfl rfl ?_
  refine go_iast0 (pc' := 364) rfl (o_newK en_3 eG_3) (o_newI0 en_3 eG_3 (Nat.le_of_ble_eq_true rfl) (Nat.le_of_ble_eq_true rfl)) (o_newZ en_3 eI_3) rfl ?_
  refine go_dupR (pc' := 365) rfl rfl ?_
  refine go_bipush (pc' := 367) (v := (nI 73)) rfl rfl rfl ?_
  refine go_iconst (pc' := 368) (v := (nI 0)) rfl rfl rfl ?_
  refine go_iast0 (pc' := 369) rfl (o_newK en_3 eG_3) (o_newI0 en_3 eG_3 (Nat.le_of_ble_eq_true rfl) (Nat.le_of_ble_eq_true rfl)) (o_newZ en_3 eI_3) rfl ?_
  refine go_dupR (pc' := 370) rfl rfl ?_
  refine go_bipush (pc' := 372) (v := (nI 74)) rfl rfl rfl ?_
  refine go_iconst (pc' := 373) (v := (nI 0)) rfl rfl rfl ?_
  refine go_iast0 (pc' := 374) rfl (o_newK en_3 eG_3) (o_newI0 en_3 eG_3 (Nat.le_of_ble_eq_true rfl) (Nat.le_of_ble_eq_true rfl)) (o_newZ en_3 eI_3) rfl ?_
  refine go_dupR (pc' := 375) rfl rfl ?_
  refine go_bipush (pc' := 377) (v := (nI 75)) rfl rfl rfl ?_
  refine go_iconst (pc' := 378) (v := (nI 0)) rfl rfl rfl ?_
  refine go_iast0 (pc' := 379) rfl (o_newK en_3 eG_3) (o_newI0 en_3 eG_3 (Nat.le_of_ble_eq_true rfl) (Nat.le_of_ble_eq_true rfl)) (o_newZ en_3 eI_3) rfl ?_
  refine go_dupR (pc' := 380) rfl rfl ?_
  refine go_bipush (pc' := 382) (v := (nI 76)) rfl rfl rfl ?_
  refine go_iconst (pc' := 383) (v := (nI 0)) rfl rfl rfl ?_
  refine go_iast0 (pc' := 384) rfl (o_newK en_3 eG_3) (o_newI0 en_3 eG_3 (Nat.le_of_ble_eq_true rfl) (Nat.le_of_ble_eq_true rfl)) (o_newZ en_3 eI_3) rfl ?_
  refine go_dupR (pc' := 385) rfl rfl ?_
  refine go_bipush (pc' := 387) (v := (nI 77)) rfl rfl rfl ?_
  refine go_iconst (pc' := 388) (v := (nI 0)) rfl rfl rfl ?_
  refine go_iast0 (pc' := 389) rfl (o_newK en_3 eG_3) (o_newI0 en_3 eG_3 (Nat.le_of_ble_eq_true rfl) (Nat.le_of_ble_eq_true rfl)) (o_newZ en_3 eI_3) rfl ?_
  refine go_dupR (pc' := 390) rfl rfl ?_
  refine go_bipush (pc' := 392) (v := (nI 78)) rfl rfl rfl ?_
  refine go_iconst (pc' := 393) (v := (nI 0)) rfl rfl rfl ?_
  refine go_iast0 (pc' := 394) rfl (o_newK en_3 eG_3) (o_newI0 en_3 eG_3 (Nat.le_of_ble_eq_true rfl) (Nat.le_of_ble_eq_true rfl)) (o_newZ en_3 eI_3) rfl ?_
  refine go_dupR (pc' := 395) rfl rfl ?_
  refine go_bipush (pc' := 397) (v := (nI 79)) rfl rfl rfl ?_
  refine go_iconst (pc' := 398) (v := (nI 0)) rfl rfl rfl ?_
  refine go_iast0 (pc' := 399) rfl (o_newK en_3 eG_3) (o_newI0 en_3 eG_3 (Nat.le_of_ble_eq_true rfl) (Nat.le_of_ble_eq_true rfl)) (o_newZ en_3 eI_3) rfl ?_
  refine go_dupR (pc' := 400) rfl rfl ?_
  refine go_bipush (pc' := 402) (v := (nI 80)) rfl rfl rfl ?_
  refine go_iconst (pc' := 403) (v := (nI 0)) rfl rfl rfl ?_
  refine go_iast0 (pc' := 404) rfl (o_newK en_3 eG_3) (o_newI0 en_3 eG_3 (Nat.le_of_ble_eq_true rfl) (Nat.le_of_ble_eq_true rfl)) (o_newZ en_3 eI_3) rfl ?_
  refine go_dupR (pc' := 405) rfl rfl ?_
  refine go_bipush (pc' := 407) (v := (nI 81)) rfl rfl rfl ?_
  refine go_iconst (pc' := 408) (v := (nI 0)) rfl rfl rfl ?_
  refine go_iast0 (pc' := 409) rfl (o_newK en_3 eG_3) (o_newI0 en_3 eG_3 (Nat.le_of_ble_eq_true rfl) (Nat.le_of_ble_eq_true rfl)) (o_newZ en_3 eI_3) rfl ?_
  refine go_dupR (pc' := 410) rfl rfl ?_
  refine go_bipush (pc' := 412) (v := (nI 82)) rfl rfl rfl ?_
  refine go_iconst (pc' := 413) (v := (nI 0)) rfl rfl rfl ?_
  refine go_iast0 (pc' := 414) rfl (o_newK en_3 eG_3) (o_newI0 en_3 eG_3 (Nat.le_of_ble_eq_true rfl) (Nat.le_of_ble_eq_true rfl)) (o_newZ en_3 eI_3) rfl ?_
  refine go_dupR (pc' := 415) rfl rfl ?_
  refine go_bipush (pc' := 417) (v := (nI 83)) rfl rfl rfl ?_
  refine go_iconst (pc' := 418) (v := (nI 0)) rfl rfl rfl ?_
  refine go_iast0 (pc' := 419) rfl (o_newK en_3 eG_3) (o_newI0 en_3 eG_3 (Nat.le_of_ble_eq_true rfl) (Nat.le_of_ble_eq_true rfl)) (o_newZ en_3 eI_3) rfl ?_
  refine go_dupR (pc' := 420) rfl rfl ?_
  refine go_bipush (pc' := 422) (v := (nI 84)) rfl rfl rfl ?_
  refine go_iconst (pc' := 423) (v := (nI 0)) rfl rfl rfl ?_
  refine go_iast0 (pc' := 424) rfl (o_newK en_3 eG_3) (o_newI0 en_3 eG_3 (Nat.le_of_ble_eq_true rfl) (Nat.le_of_ble_eq_true rfl)) (o_newZ en_3 eI_3) rfl ?_
  refine go_dupR (pc' := 425) rfl rfl ?_
  refine go_bipush (pc' := 427) (v := (nI 85)) rfl rfl rfl ?_
  refine go_iconst (pc' := 428) (v := (nI 0)) rfl rfl rfl ?_
  refine go_iast0 (pc' := 429) rfl (o_newK en_3 eG_3) (o_newI0 en_3 eG_3 (Nat.le_of_ble_eq_true rfl) (Nat.le_of_ble_eq_true rfl)) (o_newZ en_3 eI_3) rfl ?_
  refine go_dupR (pc' := 430) rfl rfl ?_
  refine go_bipush (pc' := 432) (v := (nI 86)) rfl rfl rfl ?_
  refine go_iconst (pc' := 433) (v := (nI 0)) rfl rfl rfl ?_
  refine go_iast0 (pc' := 434) rfl (o_newK en_3 eG_3) (o_newI0 en_3 eG_3 (Nat.le_of_ble_eq_true rfl) (Nat.le_of_ble_eq_true rfl)) (o_newZ en_3 eI_3) rfl ?_
  refine go_dupR (pc' := 435) rfl rfl ?_
  refine go_bipush (pc' := 437) (v := (nI 87)) rfl rfl rfl ?_
  refine go_iconst (pc' := 438) (v := (nI 0)) rfl rfl rfl ?_
  refine go_iast0 (pc' := 439) rfl (o_newK en_3 eG_3) (o_newI0 en_3 eG_3 (Nat.le_of_ble_eq_true rfl) (Nat.le_of_ble_eq_true rfl)) (o_newZ en_3 eI_3) rfl ?_
  refine go_dupR (pc' := 440) rfl rfl ?_
  refine go_bipush (pc' := 442) (v := (nI 88)) rfl rfl rfl ?_
  refine go_iconst (pc' := 443) (v := (nI 0)) rfl rfl rfl ?_
  refine go_iast0 (pc' := 444) rfl (o_newK en_3 eG_3) (o_newI0 en_3 eG_3 (Nat.le_of_ble_eq_true rfl) (Nat.le_of_ble_eq_true rfl)) (o_newZ en_3 eI_3) rfl ?_
  refine go_dupR (pc' := 445) rfl rfl ?_
  refine go_bipush (pc' := 447) (v := (nI 89)) rfl rfl rfl ?_
  refine go_iconst (pc' := 448) (v := (nI 0)) rfl rfl rfl ?_
  refine go_iast0 (pc' := 449) rfl (o_newK en_3 eG_3) (o_newI0 en_3 eG_3 (Nat.le_of_ble_eq_true rfl) (Nat.le_of_ble_eq_true rfl)) (o_newZ en_3 eI_3) rfl ?_
  refine go_dupR (pc' := 450) rfl rfl ?_
  refine go_bipush (pc' := 452) (v := (nI 90)) rfl rfl rfl ?_
  refine go_iconst (pc' := 453) (v := (nI 0)) rfl rfl rfl ?_
  refine go_iast0 (pc' := 454) rfl (o_newK en_3 eG_3) (o_newI0 en_3 eG_3 (Nat.le_of_ble_eq_true rfl) (Nat.le_of_ble_eq_true rfl)) (o_newZ en_3 eI_3) rfl ?_
  refine go_dupR (pc' := 455) rfl rfl ?_
  refine go_bipush (pc' := 457) (v := (nI 91)) rfl rfl rfl ?_
  refine go_iconst (pc' := 458) (v := (nI 0)) rfl rfl rfl ?_
  refine go_iast0 (pc' := 459) rfl (o_newK en_3 eG_3) (o_newI0 en_3 eG_3 (Nat.le_of_ble_eq_true rfl) (Nat.le_of_ble_eq_true rfl)) (o_newZ en_3 eI_3) rfl ?_
  refine go_dupR (pc' := 460) rfl rfl ?_
  refine go_bipush (pc' := 462) (v := (nI 92)) rfl rfl rfl ?_
  refine go_iconst (pc' := 463) (v := (nI 0)) rfl rfl rfl ?_
  refine go_iast0 (pc' := 464) rfl (o_newK en_3 eG_3) (o_newI0 en_3 eG_3 (Nat.le_of_ble_eq_true rfl) (Nat.le_of_ble_eq_true rfl)) (o_newZ en_3 eI_3) rfl ?_
  refine go_dupR (pc' := 465) rfl rfl ?_
  refine go_bipush (pc' := 467) (v := (nI 93)) rfl rfl rfl ?_
  refine go_iconst (pc' := 468) (v := (nI 0)) rfl rfl rfl ?_
  refine go_iast0 (pc' := 469) rfl (o_newK en_3 eG_3) (o_newI0 en_3 eG_3 (Nat.le_of_ble_eq_true rfl) (Nat.le_of_ble_eq_true rfl)) (o_newZ en_3 eI_3) rfl ?_
  refine go_dupR (pc' := 470) rfl rfl ?_
  refine go_bipush (pc' := 472) (v := (nI 94)) rfl rfl rfl ?_
  refine go_iconst (pc' := 473) (v := (nI 0)) rfl rfl rfl ?_
  refine go_iast0 (pc' := 474) rfl (o_newK en_3 eG_3) (o_newI0 en_3 eG_3 (Nat.le_of_ble_eq_true rfl) (Nat.le_of_ble_eq_true rfl)) (o_newZ en_3 eI_3) rfl ?_
  refine go_dupR (pc' := 475) rfl rfl ?_
  refine go_bipush (pc' := 477) (v := (nI 95)) rfl rfl rfl ?_
  refine go_iconst (pc' := 478) (v := (nI 0)) rfl rfl rfl ?_
  refine go_iast0 (pc' := 479) rfl (o_newK en_3 eG_3) (o_newI0 en_3 eG_3 (Nat.le_of_ble_eq_true rfl) (Nat.le_of_ble_eq_true rfl)) (o_newZ en_3 eI_3) rfl ?_
  refine go_dupR (pc' := 480) rfl rfl ?_
  refine go_bipush (pc' := 482) (v := (nI 96)) rfl rfl rfl ?_
  refine go_iconst (pc' := 483) (v := (nI 0)) rfl rfl rfl ?_
  refine go_iast0 (pc' := 484) rfl (o_newK en_3 eG_3) (o_newI0 en_3 eG_3 (Nat.le_of_ble_eq_true rfl) (Nat.le_of_ble_eq_true rfl)) (o_newZ en_3 eI_3) rfl ?_
  refine go_dupR (pc' := 485) rfl rfl ?_
  refine go_bipush (pc' := 487) (v := (nI 97)) rfl rfl rfl ?_
  refine go_iconst (pc' := 488) (v := (nI 0)) rfl rfl rfl ?_
  refine go_iast0 (pc' := 489) rfl (o_newK en_3 eG_3) (o_newI0 en_3 eG_3 (Nat.le_of_ble_eq_true rfl) (Nat.le_of_ble_eq_true rfl)) (o_newZ en_3 eI_3) rfl ?_
  refine go_dupR (pc' := 490) rfl rfl ?_
  refine go_bipush (pc' := 492) (v := (nI 98)) rfl rfl rfl ?_
  refine go_iconst (pc' := 493) (v := (nI 0)) rfl rfl rfl ?_
  refine go_iast0 (pc' := 494) rfl (o_newK en_3 eG_3) (o_newI0 en_3 eG_3 (Nat.le_of_ble_eq_true rfl) (Nat.le_of_ble_eq_true rfl)) (o_newZ en_3 eI_3) rfl ?_
  refine go_dupR (pc' := 495) rfl rfl ?_
  refine go_bipush (pc' := 497) (v := (nI 99)) rfl rfl rfl ?_
  refine go_iconst (pc' := 498) (v := (nI 0)) rfl rfl rfl ?_
  refine go_iast0 (pc' := 499) rfl (o_newK en_3 eG_3) (o_newI0 en_3 eG_3 (Nat.le_of_ble_eq_true rfl) (Nat.le_of_ble_eq_true rfl)) (o_newZ en_3 eI_3) rfl ?_
  refine go_dupR (pc' := 500) rfl rfl ?_
  refine go_bipush (pc' := 502) (v := (nI 100)) rfl rfl rfl ?_
  refine go_iconst (pc' := 503) (v := (nI 0)) rfl rfl rfl ?_
  refine go_iast0 (pc' := 504) rfl (o_newK en_3 eG_3) (o_newI0 en_3 eG_3 (Nat.le_of_ble_eq_true rfl) (Nat.le_of_ble_eq_true rfl)) (o_newZ en_3 eI_3) rfl ?_
  refine go_dupR (pc' := 505) rfl rfl ?_
  refine go_bipush (pc' := 507) (v := (nI 101)) rfl rfl rfl ?_
  refine go_iconst (pc' := 508) (v := (nI 0)) rfl rfl rfl ?_
  refine go_iast0 (pc' := 509) rfl (o_newK en_3 eG_3) (o_newI0 en_3 eG_3 (Nat.le_of_ble_eq_true rfl) (Nat.le_of_ble_eq_true rfl)) (o_newZ en_3 eI_3) rfl ?_
  refine go_dupR (pc' := 510) rfl rfl ?_
  refine go_bipush (pc' := 512) (v := (nI 102)) rfl rfl rfl ?_
  refine go_iconst (pc' := 513) (v := (nI 0)) rfl rfl rfl ?_
  refine go_iast0 (pc' := 514) rfl (o_newK en_3 eG_3) (o_newI0 en_3 eG_3 (Nat.le_of_ble_eq_true rfl) (Nat.le_of_ble_eq_true rfl)) (o_newZ en_3 eI_3) rfl ?_
  refine go_dupR (pc' := 515) rfl rfl ?_
  refine go_bipush (pc' := 517) (v := (nI 103)) rfl rfl rfl ?_
  refine go_iconst (pc' := 518) (v := (nI 0)) rfl rfl rfl ?_
  refine go_iast0 (pc' := 519) rfl (o_newK en_3 eG_3) (o_newI0 en_3 eG_3 (Nat.le_of_ble_eq_true rfl) (Nat.le_of_ble_eq_true rfl)) (o_newZ en_3 eI_3) rfl ?_
  refine go_dupR (pc' := 520) rfl rfl ?_
  refine go_bipush (pc' := 522) (v := (nI 104)) rfl rfl rfl ?_
  refine go_iconst (pc' := 523) (v := (nI 0)) rfl rfl rfl ?_
  refine go_iast0 (pc' := 524) rfl (o_newK en_3 eG_3) (o_newI0 en_3 eG_3 (Nat.le_of_ble_eq_true rfl) (Nat.le_of_ble_eq_true rfl)) (o_newZ en_3 eI_3) rfl ?_
  refine go_dupR (pc' := 525) rfl rfl ?_
  refine go_bipush (pc' := 527) (v := (nI 105)) rfl rfl rfl ?_
  refine go_iconst (pc' := 528) (v := (nI 0)) rfl rfl rfl ?_
  refine go_iast0 (pc' := 529) rfl (o_newK en_3 eG_3) (o_newI0 en_3 eG_3 (Nat.le_of_ble_eq_true rfl) (Nat.le_of_ble_eq_true rfl)) (o_newZ en_3 eI_3) rfl ?_
  refine go_dupR (pc' := 530) rfl rfl ?_
  refine go_bipush (pc' := 532) (v := (nI 106)) rfl rfl rfl ?_
  refine go_iconst (pc' := 533) (v := (nI 0)) rfl rfl rfl ?_
  refine go_iast0 (pc' := 534) rfl (o_newK en_3 eG_3) (o_newI0 en_3 eG_3 (Nat.le_of_ble_eq_true rfl) (Nat.le_of_ble_eq_true rfl)) (o_newZ en_3 eI_3) rfl ?_
  refine go_dupR (pc' := 535) rfl rfl ?_
  refine go_bipush (pc' := 537) (v := (nI 107)) rfl rfl rfl ?_
  refine go_iconst (pc' := 538) (v := (nI 0)) rfl rfl rfl ?_
  refine go_iast0 (pc' := 539) rfl (o_newK en_3 eG_3) (o_newI0 en_3 eG_3 (Nat.le_of_ble_eq_true rfl) (Nat.le_of_ble_eq_true rfl)) (o_newZ en_3 eI_3) rfl ?_
  refine go_dupR (pc' := 540) rfl rfl ?_
  refine go_bipush (pc' := 542) (v := (nI 108)) rfl rfl rfl ?_
  refine go_iconst (pc' := 543) (v := (nI 0)) rfl rfl rfl ?_
  refine go_iast0 (pc' := 544) rfl (o_newK en_3 eG_3) (o_newI0 en_3 eG_3 (Nat.le_of_ble_eq_true rfl) (Nat.le_of_ble_eq_true rfl)) (o_newZ en_3 eI_3) rfl ?_
  refine go_dupR (pc' := 545) rfl rfl ?_
  refine go_bipush (pc' := 547) (v := (nI 109)) rfl rfl rfl ?_
  refine go_iconst (pc' := 548) (v := (nI 0)) rfl rfl rfl ?_
  refine go_iast0 (pc' := 549) rfl (o_newK en_3 eG_3) (o_newI0 en_3 eG_3 (Nat.le_of_ble_eq_true rfl) (Nat.le_of_ble_eq_true rfl)) (o_newZ en_3 eI_3) rfl ?_
  refine go_dupR (pc' := 550) rfl rfl ?_
  refine go_bipush (pc' := 552) (v := (nI 110)) rfl rfl rfl ?_
  refine go_iconst (pc' := 553) (v := (nI 0)) rfl rfl rfl ?_
  refine go_iast0 (pc' := 554) rfl (o_newK en_3 eG_3) (o_newI0 en_3 eG_3 (Nat.le_of_ble_eq_true rfl) (Nat.le_of_ble_eq_true rfl)) (o_newZ en_3 eI_3) rfl ?_
  refine go_dupR (pc' := 555) rfl rfl ?_
  refine go_bipush (pc' := 557) (v := (nI 111)) rfl rfl rfl ?_
  refine go_iconst (pc' := 558) (v := (nI 0)) rfl rfl rfl ?_
  refine go_iast0 (pc' := 559) rfl (o_newK en_3 eG_3) (o_newI0 en_3 eG_3 (Nat.le_of_ble_eq_true rfl) (Nat.le_of_ble_eq_true rfl)) (o_newZ en_3 eI_3) rfl ?_
  refine go_dupR (pc' := 560) rfl rfl ?_
  refine go_bipush (pc' := 562) (v := (nI 112)) rfl rfl rfl ?_
  refine go_iconst (pc' := 563) (v := (nI 0)) rfl rfl rfl ?_
  refine go_iast0 (pc' := 564) rfl (o_newK en_3 eG_3) (o_newI0 en_3 eG_3 (Nat.le_of_ble_eq_true rfl) (Nat.le_of_ble_eq_true rfl)) (o_newZ en_3 eI_3) rfl ?_
  refine go_dupR (pc' := 565) rfl rfl ?_
  refine go_bipush (pc' := 567) (v := (nI 113)) rfl rfl rfl ?_
  refine go_iconst (pc' := 568) (v := (nI 0)) rfl rfl rfl ?_
  refine go_iast0 (pc' := 569) rfl (o_newK en_3 eG_3) (o_newI0 en_3 eG_3 (Nat.le_of_ble_eq_true rfl) (Nat.le_of_ble_eq_true rfl)) (o_newZ en_3 eI_3) rfl ?_
  refine go_dupR (pc' := 570) rfl rfl ?_
  refine go_bipush (pc' := 572) (v := (nI 114)) rfl rfl rfl ?_
  refine go_iconst (pc' := 573) (v := (nI 0)) rfl rfl rfl ?_
  refine go_iast0 (pc' := 574) rfl (o_newK en_3 eG_3) (o_newI0 en_3 eG_3 (Nat.le_of_ble_eq_true rfl) (Nat.le_of_ble_eq_true rfl)) (o_newZ en_3 eI_3) rfl ?_
  refine go_dupR (pc' := 575) rfl rfl ?_
  refine go_bipush (pc' := 577) (v := (nI 115)) rfl rfl rfl ?_
  refine go_iconst (pc' := 578) (v := (nI 0)) rfl rfl rfl ?_
  refine go_iast0 (pc' := 579) rfl (o_newK en_3 eG_3) (o_newI0 en_3 eG_3 (Nat.le_of_ble_eq_true rfl) (Nat.le_of_ble_eq_true rfl)) (o_newZ en_3 eI_3) rfl ?_
  refine go_dupR (pc' := 580) rfl rfl ?_
  refine go_bipush (pc' := 582) (v := (nI 116)) rfl rfl rfl ?_
  refine go_iconst (pc' := 583) (v := (nI 0)) rfl rfl rfl ?_
  refine go_iast0 (pc' := 584) rfl (o_newK en_3 eG_3) (o_newI0 en_3 eG_3 (Nat.le_of_ble_eq_true rfl) (Nat.le_of_ble_eq_true rfl)) (o_newZ en_3 eI_3) rfl ?_
  refine go_dupR (pc' := 585) rfl rfl ?_
  refine go_bipush (pc' := 587) (v := (nI 117)) rfl rfl rfl ?_
  refine go_iconst (pc' := 588) (v := (nI 0)) rfl rfl rfl ?_
  refine go_iast0 (pc' := 589) rfl (o_newK en_3 eG_3) (o_newI0 en_3 eG_3 (Nat.le_of_ble_eq_true rfl) (Nat.le_of_ble_eq_true rfl)) (o_newZ en_3 eI_3) rfl ?_
  refine go_dupR (pc' := 590) rfl rfl ?_
  refine go_bipush (pc' := 592) (v := (nI 118)) rfl rfl rfl ?_
  refine go_iconst (pc' := 593) (v := (nI 0)) rfl rfl rfl ?_
  refine go_iast0 (pc' := 594) rfl (o_newK en_3 eG_3) (o_newI0 en_3 eG_3 (Nat.le_of_ble_eq_true rfl) (Nat.le_of_ble_eq_true rfl)) (o_newZ en_3 eI_3) rfl ?_
  refine go_dupR (pc' := 595) rfl rfl ?_
  refine go_bipush (pc' := 597) (v := (nI 119)) rfl rfl rfl ?_
  refine go_iconst (pc' := 598) (v := (nI 0)) rfl rfl rfl ?_
  refine go_iast0 (pc' := 599) rfl (o_newK en_3 eG_3) (o_newI0 en_3 eG_3 (Nat.le_of_ble_eq_true rfl) (Nat.le_of_ble_eq_true rfl)) (o_newZ en_3 eI_3) rfl ?_
  refine go_dupR (pc' := 600) rfl rfl ?_
  refine go_bipush (pc' := 602) (v := (nI 120)) rfl rfl rfl ?_
  refine go_iconst (pc' := 603) (v := (nI 0)) rfl rfl rfl ?_
  refine go_iast0 (pc' := 604) rfl (o_newK en_3 eG_3) (o_newI0 en_3 eG_3 (Nat.le_of_ble_eq_true rfl) (Nat.le_of_ble_eq_true rfl)) (o_newZ en_3 eI_3) rfl ?_
  refine go_dupR (pc' := 605) rfl rfl ?_
  refine go_bipush (pc' := 607) (v := (nI 121)) rfl rfl rfl ?_
  refine go_iconst (pc' := 608) (v := (nI 0)) rfl rfl rfl ?_
  refine go_iast0 (pc' := 609) rfl (o_newK en_3 eG_3) (o_newI0 en_3 eG_3 (Nat.le_of_ble_eq_true rfl) (Nat.le_of_ble_eq_true rfl)) (o_newZ en_3 eI_3) rfl ?_
  refine go_dupR (pc' := 610) rfl rfl ?_
  refine go_bipush (pc' := 612) (v := (nI 122)) rfl rfl rfl ?_
  refine go_iconst (pc' := 613) (v := (nI 0)) rfl rfl rfl ?_
  refine go_iast0 (pc' := 614) rfl (o_newK en_3 eG_3) (o_newI0 en_3 eG_3 (Nat.le_of_ble_eq_true rfl) (Nat.le_of_ble_eq_true rfl)) (o_newZ en_3 eI_3) rfl ?_
  refine go_dupR (pc' := 615) rfl rfl ?_
  refine go_bipush (pc' := 617) (v := (nI 123)) rfl rfl rfl ?_
  refine go_iconst (pc' := 618) (v := (nI 0)) rfl rfl rfl ?_
  refine go_iast0 (pc' := 619) rfl (o_newK en_3 eG_3) (o_newI0 en_3 eG_3 (Nat.le_of_ble_eq_true rfl) (Nat.le_of_ble_eq_true rfl)) (o_newZ en_3 eI_3) rfl ?_
  refine go_dupR (pc' := 620) rfl rfl ?_
  refine go_bipush (pc' := 622) (v := (nI 124)) rfl rfl rfl ?_
  refine go_iconst (pc' := 623) (v := (nI 0)) rfl rfl rfl ?_
  refine go_iast0 (pc' := 624) rfl (o_newK en_3 eG_3) (o_newI0 en_3 eG_3 (Nat.le_of_ble_eq_true rfl) (Nat.le_of_ble_eq_true rfl)) (o_newZ en_3 eI_3) rfl ?_
  refine go_dupR (pc' := 625) rfl rfl ?_
  refine go_bipush (pc' := 627) (v := (nI 125)) rfl rfl rfl ?_
  refine go_iconst (pc' := 628) (v := (nI 0)) rfl rfl rfl ?_
  refine go_iast0 (pc' := 629) rfl (o_newK en_3 eG_3) (o_newI0 en_3 eG_3 (Nat.le_of_ble_eq_true rfl) (Nat.le_of_ble_eq_true rfl)) (o_newZ en_3 eI_3) rfl ?_
  refine go_dupR (pc' := 630) rfl rfl ?_
  refine go_bipush (pc' := 632) (v := (nI 126)) rfl rfl rfl ?_
  refine go_iconst (pc' := 633) (v := (nI 0)) rfl rfl rfl ?_
  refine go_iast0 (pc' := 634) rfl (o_newK en_3 eG_3) (o_newI0 en_3 eG_3 (Nat.le_of_ble_eq_true rfl) (Nat.le_of_ble_eq_true rfl)) (o_newZ en_3 eI_3) rfl ?_
  refine go_dupR (pc' := 635) rfl rfl ?_
  refine go_bipush (pc' := 637) (v := (nI 127)) rfl rfl rfl ?_
  refine go_iconst (pc' := 638) (v := (nI 0)) rfl rfl rfl ?_
  refine go_iast0 (pc' := 639) rfl (o_newK en_3 eG_3) (o_newI0 en_3 eG_3 (Nat.le_of_ble_eq_true rfl) (Nat.le_of_ble_eq_true rfl)) (o_newZ en_3 eI_3) rfl ?_
  refine go_dupR (pc' := 640) rfl rfl ?_
  refine go_sipush (pc' := 643) (v := (nI 128)) rfl rfl rfl ?_
  refine go_iconst (pc' := 644) (v := (nI 0)) rfl rfl rfl ?_
  refine go_iast0 (pc' := 645) rfl (o_newK en_3 eG_3) (o_newI0 en_3 eG_3 (Nat.le_of_ble_eq_true rfl) (Nat.le_of_ble_eq_true rfl)) (o_newZ en_3 eI_3) rfl ?_
  refine go_dupR (pc' := 646) rfl rfl ?_
  refine go_sipush (pc' := 649) (v := (nI 129)) rfl rfl rfl ?_
  refine go_iconst (pc' := 650) (v := (nI 0)) rfl rfl rfl ?_
  refine go_iast0 (pc' := 651) rfl (o_newK en_3 eG_3) (o_newI0 en_3 eG_3 (Nat.le_of_ble_eq_true rfl) (Nat.le_of_ble_eq_true rfl)) (o_newZ en_3 eI_3) rfl ?_
  refine go_dupR (pc' := 652) rfl rfl ?_
  refine go_sipush (pc' := 655) (v := (nI 130)) rfl rfl rfl ?_
  refine go_iconst (pc' := 656) (v := (nI 0)) rfl rfl rfl ?_
  refine go_iast0 (pc' := 657) rfl (o_newK en_3 eG_3) (o_newI0 en_3 eG_3 (Nat.le_of_ble_eq_true rfl) (Nat.le_of_ble_eq_true rfl)) (o_newZ en_3 eI_3) rfl ?_
  refine go_dupR (pc' := 658) rfl rfl ?_
  refine go_sipush (pc' := 661) (v := (nI 131)) rfl rfl rfl ?_
  refine go_iconst (pc' := 662) (v := (nI 0)) rfl rfl rfl ?_
  refine go_iast0 (pc' := 663) rfl (o_newK en_3 eG_3) (o_newI0 en_3 eG_3 (Nat.le_of_ble_eq_true rfl) (Nat.le_of_ble_eq_true rfl)) (o_newZ en_3 eI_3) rfl ?_
  refine go_dupR (pc' := 664) rfl rfl ?_
  refine go_sipush (pc' := 667) (v := (nI 132)) rfl rfl rfl ?_
  refine go_iconst (pc' := 668) (v := (nI 0)) rfl rfl rfl ?_
  refine go_iast0 (pc' := 669) rfl (o_newK en_3 eG_3) (o_newI0 en_3 eG_3 (Nat.le_of_ble_eq_true rfl) (Nat.le_of_ble_eq_true rfl)) (o_newZ en_3 eI_3) rfl ?_
  refine go_dupR (pc' := 670) rfl rfl ?_
  refine go_sipush (pc' := 673) (v := (nI 133)) rfl rfl rfl ?_
  refine go_iconst (pc' := 674) (v := (nI 0)) rfl rfl rfl ?_
  refine go_iast0 (pc' := 675) rfl (o_newK en_3 eG_3) (o_newI0 en_3 eG_3 (Nat.le_of_ble_eq_true rfl) (Nat.le_of_ble_eq_true rfl)) (o_newZ en_3 eI_3) rfl ?_
  refine go_dupR (pc' := 676) rfl rfl ?_
  refine go_sipush (pc' := 679) (v := (nI 134)) rfl rfl rfl ?_
  refine go_iconst (pc' := 680) (v := (nI 0)) rfl rfl rfl ?_
  refine go_iast0 (pc' := 681) rfl (o_newK en_3 eG_3) (o_newI0 en_3 eG_3 (Nat.le_of_ble_eq_true rfl) (Nat.le_of_ble_eq_true rfl)) (o_newZ en_3 eI_3) rfl ?_
  refine go_dupR (pc' := 682) rfl rfl ?_
  refine go_sipush (pc' := 685) (v := (nI 135)) rfl rfl rfl ?_
  refine go_iconst (pc' := 686) (v := (nI 0)) rfl rfl rfl ?_
  refine go_iast0 (pc' := 687) rfl (o_newK en_3 eG_3) (o_newI0 en_3 eG_3 (Nat.le_of_ble_eq_true rfl) (Nat.le_of_ble_eq_true rfl)) (o_newZ en_3 eI_3) rfl ?_
  refine go_dupR (pc' := 688) rfl rfl ?_
  refine go_sipush (pc' := 691) (v := (nI 136)) rfl rfl rfl ?_
  refine go_iconst (pc' := 692) (v := (nI 0)) rfl rfl rfl ?_
  refine go_iast0 (pc' := 693) rfl (o_newK en_3 eG_3) (o_newI0 en_3 eG_3 (Nat.le_of_ble_eq_true rfl) (Nat.le_of_ble_eq_true rfl)) (o_newZ en_3 eI_3) rfl ?_
  refine go_dupR (pc' := 694) rfl rfl ?_
  refine go_sipush (pc' := 697) (v := (nI 137)) rfl rfl rfl ?_
  refine go_iconst (pc' := 698) (v := (nI 0)) rfl rfl rfl ?_
  refine go_iast0 (pc' := 699) rfl (o_newK en_3 eG_3) (o_newI0 en_3 eG_3 (Nat.le_of_ble_eq_true rfl) (Nat.le_of_ble_eq_true rfl)) (o_newZ en_3 eI_3) rfl ?_
  refine go_dupR (pc' := 700) rfl rfl ?_
  refine go_sipush (pc' := 703) (v := (nI 138)) rfl rfl rfl ?_
  refine go_iconst (pc' := 704) (v := (nI 0)) rfl rfl rfl ?_
  refine go_iast0 (pc' := 705) rfl (o_newK en_3 eG_3) (o_newI0 en_3 eG_3 (Nat.le_of_ble_eq_true rfl) (Nat.le_of_ble_eq_true rfl)) (o_newZ en_3 eI_3) rfl ?_
  refine go_dupR (pc' := 706) rfl rfl ?_
  refine go_sipush (pc' := 709) (v := (nI 139)) rfl rfl rfl ?_
  refine go_iconst (pc' := 710) (v := (nI 0)) rfl rfl rfl ?_
  refine go_iast0 (pc' := 711) rfl (o_newK en_3 eG_3) (o_newI0 en_3 eG_3 (Nat.le_of_ble_eq_true rfl) (Nat.le_of_ble_eq_true rfl)) (o_newZ en_3 eI_3) rfl ?_
  refine go_dupR (pc' := 712) rfl rfl ?_
  refine go_sipush (pc' := 715) (v := (nI 140)) rfl rfl rfl ?_
  refine go_iconst (pc' := 716) (v := (nI 0)) rfl rfl rfl ?_
  refine go_iast0 (pc' := 717) rfl (o_newK en_3 eG_3) (o_newI0 en_3 eG_3 (Nat.le_of_ble_eq_true rfl) (Nat.le_of_ble_eq_true rfl)) (o_newZ en_3 eI_3) rfl ?_
  refine go_dupR (pc' := 718) rfl rfl ?_
  refine go_sipush (pc' := 721) (v := (nI 141)) rfl rfl rfl ?_
  refine go_iconst (pc' := 722) (v := (nI 0)) rfl rfl rfl ?_
  refine go_iast0 (pc' := 723) rfl (o_newK en_3 eG_3) (o_newI0 en_3 eG_3 (Nat.le_of_ble_eq_true rfl) (Nat.le_of_ble_eq_true rfl)) (o_newZ en_3 eI_3) rfl ?_
  refine go_dupR (pc' := 724) rfl rfl ?_
  refine go_sipush (pc' := 727) (v := (nI 142)) rfl rfl rfl ?_
  refine go_iconst (pc' := 728) (v := (nI 0)) rfl rfl rfl ?_
  refine go_iast0 (pc' := 729) rfl (o_newK en_3 eG_3) (o_newI0 en_3 eG_3 (Nat.le_of_ble_eq_true rfl) (Nat.le_of_ble_eq_true rfl)) (o_newZ en_3 eI_3) rfl ?_
  refine go_dupR (pc' := 730) rfl rfl ?_
  refine go_sipush (pc' := 733) (v := (nI 143)) rfl rfl rfl ?_
  refine go_iconst (pc' := 734) (v := (nI 0)) rfl rfl rfl ?_
  refine go_iast0 (pc' := 735) rfl (o_newK en_3 eG_3) (o_newI0 en_3 eG_3 (Nat.le_of_ble_eq_true rfl) (Nat.le_of_ble_eq_true rfl)) (o_newZ en_3 eI_3) rfl ?_
  refine go_dupR (pc' := 736) rfl rfl ?_
  refine go_sipush (pc' := 739) (v := (nI 144)) rfl rfl rfl ?_
  refine go_iconst (pc' := 740) (v := (nI 0)) rfl rfl rfl ?_
  refine go_iast0 (pc' := 741) rfl (o_newK en_3 eG_3) (o_newI0 en_3 eG_3 (Nat.le_of_ble_eq_true rfl) (Nat.le_of_ble_eq_true rfl)) (o_newZ en_3 eI_3) rfl ?_
  refine go_dupR (pc' := 742) rfl rfl ?_
  refine go_sipush (pc' := 745) (v := (nI 145)) rfl rfl rfl ?_
  refine go_iconst (pc' := 746) (v := (nI 0)) rfl rfl rfl ?_
  refine go_iast0 (pc' := 747) rfl (o_newK en_3 eG_3) (o_newI0 en_3 eG_3 (Nat.le_of_ble_eq_true rfl) (Nat.le_of_ble_eq_true rfl)) (o_newZ en_3 eI_3) rfl ?_
  refine go_dupR (pc' := 748) rfl rfl ?_
  refine go_sipush (pc' := 751) (v := (nI 146)) rfl rfl rfl ?_
  refine go_iconst (pc' := 752) (v := (nI 0)) rfl rfl rfl ?_
  refine go_iast0 (pc' := 753) rfl (o_newK en_3 eG_3) (o_newI0 en_3 eG_3 (Nat.le_of_ble_eq_true rfl) (Nat.le_of_ble_eq_true rfl)) (o_newZ en_3 eI_3) rfl ?_
  refine go_dupR (pc' := 754) rfl rfl ?_
  refine go_sipush (pc' := 757) (v := (nI 147)) rfl rfl rfl ?_
  refine go_iconst (pc' := 758) (v := (nI 0)) rfl rfl rfl ?_
  refine go_iast0 (pc' := 759) rfl (o_newK en_3 eG_3) (o_newI0 en_3 eG_3 (Nat.le_of_ble_eq_true rfl) (Nat.le_of_ble_eq_true rfl)) (o_newZ en_3 eI_3) rfl ?_
  refine go_dupR (pc' := 760) rfl rfl ?_
  refine go_sipush (pc' := 763) (v := (nI 148)) rfl rfl rfl ?_
  refine go_iconst (pc' := 764) (v := (nI 0)) rfl rfl rfl ?_
  refine go_iast0 (pc' := 765) rfl (o_newK en_3 eG_3) (o_newI0 en_3 eG_3 (Nat.le_of_ble_eq_true rfl) (Nat.le_of_ble_eq_true rfl)) (o_newZ en_3 eI_3) rfl ?_
  refine go_dupR (pc' := 766) rfl rfl ?_
  refine go_sipush (pc' := 769) (v := (nI 149)) rfl rfl rfl ?_
  refine go_iconst (pc' := 770) (v := (nI 0)) rfl rfl rfl ?_
  refine go_iast0 (pc' := 771) rfl (o_newK en_3 eG_3) (o_newI0 en_3 eG_3 (Nat.le_of_ble_eq_true rfl) (Nat.le_of_ble_eq_true rfl)) (o_newZ en_3 eI_3) rfl ?_
  refine go_dupR (pc' := 772) rfl rfl ?_
  refine go_sipush (pc' := 775) (v := (nI 150)) rfl rfl rfl ?_
  refine go_iconst (pc' := 776) (v := (nI 0)) rfl rfl rfl ?_
  refine go_iast0 (pc' := 777) rfl (o_newK en_3 eG_3) (o_newI0 en_3 eG_3 (Nat.le_of_ble_eq_true rfl) (Nat.le_of_ble_eq_true rfl)) (o_newZ en_3 eI_3) rfl ?_
  refine go_dupR (pc' := 778) rfl rfl ?_
  refine go_sipush (pc' := 781) (v := (nI 151)) rfl rfl rfl ?_
  refine go_iconst (pc' := 782) (v := (nI 0)) rfl rfl rfl ?_
  refine go_iast0 (pc' := 783) rfl (o_newK en_3 eG_3) (o_newI0 en_3 eG_3 (Nat.le_of_ble_eq_true rfl) (Nat.le_of_ble_eq_true rfl)) (o_newZ en_3 eI_3) rfl ?_
  refine go_dupR (pc' := 784) rfl rfl ?_
  refine go_sipush (pc' := 787) (v := (nI 152)) rfl rfl rfl ?_
  refine go_iconst (pc' := 788) (v := (nI 0)) rfl rfl rfl ?_
  refine go_iast0 (pc' := 789) rfl (o_newK en_3 eG_3) (o_newI0 en_3 eG_3 (Nat.le_of_ble_eq_true rfl) (Nat.le_of_ble_eq_true rfl)) (o_newZ en_3 eI_3) rfl ?_
  refine go_dupR (pc' := 790) rfl rfl ?_
  refine go_sipush (pc' := 793) (v := (nI 153)) rfl rfl rfl ?_
  refine go_iconst (pc' := 794) (v := (nI 0)) rfl rfl rfl ?_
  refine go_iast0 (pc' := 795) rfl (o_newK en_3 eG_3) (o_newI0 en_3 eG_3 (Nat.le_of_ble_eq_true rfl) (Nat.le_of_ble_eq_true rfl)) (o_newZ en_3 eI_3) rfl ?_
  refine go_dupR (pc' := 796) rfl rfl ?_
  refine go_sipush (pc' := 799) (v := (nI 154)) rfl rfl rfl ?_
  refine go_iconst (pc' := 800) (v := (nI 0)) rfl rfl rfl ?_
  refine go_iast0 (pc' := 801) rfl (o_newK en_3 eG_3) (o_newI0 en_3 eG_3 (Nat.le_of_ble_eq_true rfl) (Nat.le_of_ble_eq_true rfl)) (o_newZ en_3 eI_3) rfl ?_
  refine go_dupR (pc' := 802) rfl rfl ?_
  refine go_sipush (pc' := 805) (v := (nI 155)) rfl rfl rfl ?_
  refine go_iconst (pc' := 806) (v := (nI 0)) rfl rfl rfl ?_
  refine go_iast0 (pc' := 807) rfl (o_newK en_3 eG_3) (o_newI0 en_3 eG_3 (Nat.le_of_ble_eq_true rfl) (Nat.le_of_ble_eq_true rfl)) (o_newZ en_3 eI_3) rfl ?_
  refine go_dupR (pc' := 808) rfl rfl ?_
  refine go_sipush (pc' := 811) (v := (nI 156)) rfl rfl rfl ?_
  refine go_iconst (pc' := 812) (v := (nI 0)) rfl rfl rfl ?_
  refine go_iast0 (pc' := 813) rfl (o_newK en_3 eG_3) (o_newI0 en_3 eG_3 (Nat.le_of_ble_eq_true rfl) (Nat.le_of_ble_eq_true rfl)) (o_newZ en_3 eI_3) rfl ?_
  refine go_dupR (pc' := 814) rfl rfl ?_
  refine go_sipush (pc' := 817) (v := (nI 157)) rfl rfl rfl ?_
  refine go_iconst (pc' := 818) (v := (nI 0)) rfl rfl rfl ?_
  refine go_iast0 (pc' := 819) rfl (o_newK en_3 eG_3) (o_newI0 en_3 eG_3 (Nat.le_of_ble_eq_true rfl) (Nat.le_of_ble_eq_true rfl)) (o_newZ en_3 eI_3) rfl ?_
  refine go_dupR (pc' := 820) rfl rfl ?_
  refine go_sipush (pc' := 823) (v := (nI 158)) rfl rfl rfl ?_
  refine go_iconst (pc' := 824) (v := (nI 0)) rfl rfl rfl ?_
  refine go_iast0 (pc' := 825) rfl (o_newK en_3 eG_3) (o_newI0 en_3 eG_3 (Nat.le_of_ble_eq_true rfl) (Nat.le_of_ble_eq_true rfl)) (o_newZ en_3 eI_3) rfl ?_
  refine go_dupR (pc' := 826) rfl rfl ?_
  refine go_sipush (pc' := 829) (v := (nI 159)) rfl rfl rfl ?_
  refine go_iconst (pc' := 830) (v := (nI 0)) rfl rfl rfl ?_
  refine go_iast0 (pc' := 831) rfl (o_newK en_3 eG_3) (o_newI0 en_3 eG_3 (Nat.le_of_ble_eq_true rfl) (Nat.le_of_ble_eq_true rfl)) (o_newZ en_3 eI_3) rfl ?_
  refine go_dupR (pc' := 832) rfl rfl ?_
  refine go_sipush (pc' := 835) (v := (nI 160)) rfl rfl rfl ?_
  refine go_iconst (pc' := 836) (v := (nI 0)) rfl rfl rfl ?_
  refine go_iast0 (pc' := 837) rfl (o_newK en_3 eG_3) (o_newI0 en_3 eG_3 (Nat.le_of_ble_eq_true rfl) (Nat.le_of_ble_eq_true rfl)) (o_newZ en_3 eI_3) rfl ?_
  refine go_dupR (pc' := 838) rfl rfl ?_
  refine go_sipush (pc' := 841) (v := (nI 161)) rfl rfl rfl ?_
  refine go_iconst (pc' := 842) (v := (nI 0)) rfl rfl rfl ?_
  refine go_iast0 (pc' := 843) rfl (o_newK en_3 eG_3) (o_newI0 en_3 eG_3 (Nat.le_of_ble_eq_true rfl) (Nat.le_of_ble_eq_true rfl)) (o_newZ en_3 eI_3) rfl ?_
  refine go_dupR (pc' := 844) rfl rfl ?_
  refine go_sipush (pc' := 847) (v := (nI 162)) rfl rfl rfl ?_
  refine go_iconst (pc' := 848) (v := (nI 0)) rfl rfl rfl ?_
  refine go_iast0 (pc' := 849) rfl (o_newK en_3 eG_3) (o_newI0 en_3 eG_3 (Nat.le_of_ble_eq_true rfl) (Nat.le_of_ble_eq_true rfl)) (o_newZ en_3 eI_3) rfl ?_
  refine go_dupR (pc' := 850) rfl rfl ?_
  refine go_sipush (pc' := 853) (v := (nI 163)) rfl rfl rfl ?_
  refine go_iconst (pc' := 854) (v := (nI 0)) rfl rfl rfl ?_
  refine go_iast0 (pc' := 855) rfl (o_newK en_3 eG_3) (o_newI0 en_3 eG_3 (Nat.le_of_ble_eq_true rfl) (Nat.le_of_ble_eq_true rfl)) (o_newZ en_3 eI_3) rfl ?_
  refine go_dupR (pc' := 856) rfl rfl ?_
  refine go_sipush (pc' := 859) (v := (nI 164)) rfl rfl rfl ?_
  refine go_iconst (pc' := 860) (v := (nI 0)) rfl rfl rfl ?_
  refine go_iast0 (pc' := 861) rfl (o_newK en_3 eG_3) (o_newI0 en_3 eG_3 (Nat.le_of_ble_eq_true rfl) (Nat.le_of_ble_eq_true rfl)) (o_newZ en_3 eI_3) rfl ?_
  refine go_dupR (pc' := 862) rfl rfl ?_
  refine go_sipush (pc' := 865) (v := (nI 165)) rfl rfl rfl ?_
  refine go_iconst (pc' := 866) (v := (nI 0)) rfl rfl rfl ?_
  refine go_iast0 (pc' := 867) rfl (o_newK en_3 eG_3) (o_newI0 en_3 eG_3 (Nat.le_of_ble_eq_true rfl) (Nat.le_of_ble_eq_true rfl)) (o_newZ en_3 eI_3) rfl ?_
  refine go_dupR (pc' := 868) rfl rfl ?_
  refine go_sipush (pc' := 871) (v := (nI 166)) rfl rfl rfl ?_
  refine go_iconst (pc' := 872) (v := (nI 0)) rfl rfl rfl ?_
  refine go_iast0 (pc' := 873) rfl (o_newK en_3 eG_3) (o_newI0 en_3 eG_3 (Nat.le_of_ble_eq_true rfl) (Nat.le_of_ble_eq_true rfl)) (o_newZ en_3 eI_3) rfl ?_
  refine go_dupR (pc' := 874) rfl rfl ?_
  refine go_sipush (pc' := 877) (v := (nI 167)) rfl rfl rfl ?_
  refine go_iconst (pc' := 878) (v := (nI 0)) rfl rfl rfl ?_
  refine go_iast0 (pc' := 879) rfl (o_newK en_3 eG_3) (o_newI0 en_3 eG_3 (Nat.le_of_ble_eq_true rfl) (Nat.le_of_ble_eq_true rfl)) (o_newZ en_3 eI_3) rfl ?_
  refine go_dupR (pc' := 880) rfl rfl ?_
  refine go_sipush (pc' := 883) (v := (nI 168)) rfl rfl rfl ?_
  refine go_iconst (pc' := 884) (v := (nI 0)) rfl rfl rfl ?_
  refine go_iast0 (pc' := 885) rfl (o_newK en_3 eG_3) (o_newI0 en_3 eG_3 (Nat.le_of_ble_eq_true rfl) (Nat.le_of_ble_eq_true rfl)) (o_newZ en_3 eI_3) rfl ?_
  refine go_dupR (pc' := 886) rfl rfl ?_
  refine go_sipush (pc' := 889) (v := (nI 169)) rfl rfl rfl ?_
  refine go_iconst (pc' := 890) (v := (nI 0)) rfl rfl rfl ?_
  refine go_iast0 (pc' := 891) rfl (o_newK en_3 eG_3) (o_newI0 en_3 eG_3 (Nat.le_of_ble_eq_true rfl) (Nat.le_of_ble_eq_true rfl)) (o_newZ en_3 eI_3) rfl ?_
  refine go_dupR (pc' := 892) rfl rfl ?_
  refine go_sipush (pc' := 895) (v := (nI 170)) rfl rfl rfl ?_
  refine go_iconst (pc' := 896) (v := (nI 0)) rfl rfl rfl ?_
  refine go_iast0 (pc' := 897) rfl (o_newK en_3 eG_3) (o_newI0 en_3 eG_3 (Nat.le_of_ble_eq_true rfl) (Nat.le_of_ble_eq_true rfl)) (o_newZ en_3 eI_3) rfl ?_
  refine go_dupR (pc' := 898) rfl rfl ?_
  refine go_sipush (pc' := 901) (v := (nI 171)) rfl rfl rfl ?_
  refine go_iconst (pc' := 902) (v := (nI 0)) rfl rfl rfl ?_
  refine go_iast0 (pc' := 903) rfl (o_newK en_3 eG_3) (o_newI0 en_3 eG_3 (Nat.le_of_ble_eq_true rfl) (Nat.le_of_ble_eq_true rfl)) (o_newZ en_3 eI_3) rfl ?_
  refine go_dupR (pc' := 904) rfl rfl ?_
  refine go_sipush (pc' := 907) (v := (nI 172)) rfl rfl rfl ?_
  refine go_iconst (pc' := 908) (v := (nI 0)) rfl rfl rfl ?_
  refine go_iast0 (pc' := 909) rfl (o_newK en_3 eG_3) (o_newI0 en_3 eG_3 (Nat.le_of_ble_eq_true rfl) (Nat.le_of_ble_eq_true rfl)) (o_newZ en_3 eI_3) rfl ?_
  refine go_dupR (pc' := 910) rfl rfl ?_
  refine go_sipush (pc' := 913) (v := (nI 173)) rfl rfl rfl ?_
  refine go_iconst (pc' := 914) (v := (nI 0)) rfl rfl rfl ?_
  refine go_iast0 (pc' := 915) rfl (o_newK en_3 eG_3) (o_newI0 en_3 eG_3 (Nat.le_of_ble_eq_true rfl) (Nat.le_of_ble_eq_true rfl)) (o_newZ en_3 eI_3) rfl ?_
  refine go_dupR (pc' := 916) rfl rfl ?_
  refine go_sipush (pc' := 919) (v := (nI 174)) rfl rfl rfl ?_
  refine go_iconst (pc' := 920) (v := (nI 0)) rfl rfl rfl ?_
  refine go_iast0 (pc' := 921) rfl (o_newK en_3 eG_3) (o_newI0 en_3 eG_3 (Nat.le_of_ble_eq_true rfl) (Nat.le_of_ble_eq_true rfl)) (o_newZ en_3 eI_3) rfl ?_
  refine go_dupR (pc' := 922) rfl rfl ?_
  refine go_sipush (pc' := 925) (v := (nI 175)) rfl rfl rfl ?_
  refine go_iconst (pc' := 926) (v := (nI 0)) rfl rfl rfl ?_
  refine go_iast0 (pc' := 927) rfl (o_newK en_3 eG_3) (o_newI0 en_3 eG_3 (Nat.le_of_ble_eq_true rfl) (Nat.le_of_ble_eq_true rfl)) (o_newZ en_3 eI_3) rfl ?_
  refine go_dupR (pc' := 928) rfl rfl ?_
  refine go_sipush (pc' := 931) (v := (nI 176)) rfl rfl rfl ?_
  refine go_iconst (pc' := 932) (v := (nI 0)) rfl rfl rfl ?_
  refine go_iast0 (pc' := 933) rfl (o_newK en_3 eG_3) (o_newI0 en_3 eG_3 (Nat.le_of_ble_eq_true rfl) (Nat.le_of_ble_eq_true rfl)) (o_newZ en_3 eI_3) rfl ?_
  refine go_dupR (pc' := 934) rfl rfl ?_
  refine go_sipush (pc' := 937) (v := (nI 177)) rfl rfl rfl ?_
  refine go_iconst (pc' := 938) (v := (nI 0)) rfl rfl rfl ?_
  refine go_iast0 (pc' := 939) rfl (o_newK en_3 eG_3) (o_newI0 en_3 eG_3 (Nat.le_of_ble_eq_true rfl) (Nat.le_of_ble_eq_true rfl)) (o_newZ en_3 eI_3) rfl ?_
  refine go_dupR (pc' := 940) rfl rfl ?_
  refine go_sipush (pc' := 943) (v := (nI 178)) rfl rfl rfl ?_
  refine go_iconst (pc' := 944) (v := (nI 0)) rfl rfl rfl ?_
  refine go_iast0 (pc' := 945) rfl (o_newK en_3 eG_3) (o_newI0 en_3 eG_3 (Nat.le_of_ble_eq_true rfl) (Nat.le_of_ble_eq_true rfl)) (o_newZ en_3 eI_3) rfl ?_
  refine go_dupR (pc' := 946) rfl rfl ?_
  refine go_sipush (pc' := 949) (v := (nI 179)) rfl rfl rfl ?_
  refine go_iconst (pc' := 950) (v := (nI 0)) rfl rfl rfl ?_
  refine go_iast0 (pc' := 951) rfl (o_newK en_3 eG_3) (o_newI0 en_3 eG_3 (Nat.le_of_ble_eq_true rfl) (Nat.le_of_ble_eq_true rfl)) (o_newZ en_3 eI_3) rfl ?_
  refine go_dupR (pc' := 952) rfl rfl ?_
  refine go_sipush (pc' := 955) (v := (nI 180)) rfl rfl rfl ?_
  refine go_iconst (pc' := 956) (v := (nI 0)) rfl rfl rfl ?_
  refine go_iast0 (pc' := 957) rfl (o_newK en_3 eG_3) (o_newI0 en_3 eG_3 (Nat.le_of_ble_eq_true rfl) (Nat.le_of_ble_eq_true rfl)) (o_newZ en_3 eI_3) rfl ?_
  refine go_dupR (pc' := 958) rfl rfl ?_
  refine go_sipush (pc' := 961) (v := (nI 181)) rfl rfl rfl ?_
  refine go_iconst (pc' := 962) (v := (nI 0)) rfl rfl rfl ?_
  refine go_iast0 (pc' := 963) rfl (o_newK en_3 eG_3) (o_newI0 en_3 eG_3 (Nat.le_of_ble_eq_true rfl) (Nat.le_of_ble_eq_true rfl)) (o_newZ en_3 eI_3) rfl ?_
  refine go_dupR (pc' := 964) rfl rfl ?_
  refine go_sipush (pc' := 967) (v := (nI 182)) rfl rfl rfl ?_
  refine go_iconst (pc' := 968) (v := (nI 0)) rfl rfl rfl ?_
  refine go_iast0 (pc' := 969) rfl (o_newK en_3 eG_3) (o_newI0 en_3 eG_3 (Nat.le_of_ble_eq_true rfl) (Nat.le_of_ble_eq_true rfl)) (o_newZ en_3 eI_3) rfl ?_
  refine go_dupR (pc' := 970) rfl rfl ?_
  refine go_sipush (pc' := 973) (v := (nI 183)) rfl rfl rfl ?_
  refine go_iconst (pc' := 974) (v := (nI 0)) rfl rfl rfl ?_
  refine go_iast0 (pc' := 975) rfl (o_newK en_3 eG_3) (o_newI0 en_3 eG_3 (Nat.le_of_ble_eq_true rfl) (Nat.le_of_ble_eq_true rfl)) (o_newZ en_3 eI_3) rfl ?_
  refine go_dupR (pc' := 976) rfl rfl ?_
  refine go_sipush (pc' := 979) (v := (nI 184)) rfl rfl rfl ?_
  refine go_iconst (pc' := 980) (v := (nI 0)) rfl rfl rfl ?_
  refine go_iast0 (pc' := 981) rfl (o_newK en_3 eG_3) (o_newI0 en_3 eG_3 (Nat.le_of_ble_eq_true rfl) (Nat.le_of_ble_eq_true rfl)) (o_newZ en_3 eI_3) rfl ?_
  refine go_dupR (pc' := 982) rfl rfl ?_
  refine go_sipush (pc' := 985) (v := (nI 185)) rfl rfl rfl ?_
  refine go_iconst (pc' := 986) (v := (nI 0)) rfl rfl rfl ?_
  refine go_iast0 (pc' := 987) rfl (o_newK en_3 eG_3) (o_newI0 en_3 eG_3 (Nat.le_of_ble_eq_true rfl) (Nat.le_of_ble_eq_true rfl)) (o_newZ en_3 eI_3) rfl ?_
  refine go_dupR (pc' := 988) rfl rfl ?_
  refine go_sipush (pc' := 991) (v := (nI 186)) rfl rfl rfl ?_
  refine go_iconst (pc' := 992) (v := (nI 0)) rfl rfl rfl ?_
  refine go_iast0 (pc' := 993) rfl (o_newK en_3 eG_3) (o_newI0 en_3 eG_3 (Nat.le_of_ble_eq_true rfl) (Nat.le_of_ble_eq_true rfl)) (o_newZ en_3 eI_3) rfl ?_
  refine go_dupR (pc' := 994) rfl rfl ?_
  refine go_sipush (pc' := 997) (v := (nI 187)) rfl rfl rfl ?_
  refine go_iconst (pc' := 998) (v := (nI 0)) rfl rfl rfl ?_
  refine go_iast0 (pc' := 999) rfl (o_newK en_3 eG_3) (o_newI0 en_3 eG_3 (Nat.le_of_ble_eq_true rfl) (Nat.le_of_ble_eq_true rfl)) (o_newZ en_3 eI_3) rfl ?_
  refine go_dupR (pc' := 1000) rfl rfl ?_
  refine go_sipush (pc' := 1003) (v := (nI 188)) rfl rfl rfl ?_
  refine go_iconst (pc' := 1004) (v := (nI 0)) rfl rfl rfl ?_
  refine go_iast0 (pc' := 1005) rfl (o_newK en_3 eG_3) (o_newI0 en_3 eG_3 (Nat.le_of_ble_eq_true rfl) (Nat.le_of_ble_eq_true rfl)) (o_newZ en_3 eI_3) rfl ?_
  refine go_dupR (pc' := 1006) rfl rfl ?_
  refine go_sipush (pc' := 1009) (v := (nI 189)) rfl rfl rfl ?_
  refine go_iconst (pc' := 1010) (v := (nI 0)) rfl rfl rfl ?_
  refine go_iast0 (pc' := 1011) rfl (o_newK en_3 eG_3) (o_newI0 en_3 eG_3 (Nat.le_of_ble_eq_true rfl) (Nat.le_of_ble_eq_true rfl)) (o_newZ en_3 eI_3) rfl ?_
  refine go_dupR (pc' := 1012) rfl rfl ?_
  refine go_sipush (pc' := 1015) (v := (nI 190)) rfl rfl rfl ?_
  refine go_iconst (pc' := 1016) (v := (nI 0)) rfl rfl rfl ?_
  refine go_iast0 (pc' := 1017) rfl (o_newK en_3 eG_3) (o_newI0 en_3 eG_3 (Nat.le_of_ble_eq_true rfl) (Nat.le_of_ble_eq_true rfl)) (o_newZ en_3 eI_3) rfl ?_
  refine go_dupR (pc' := 1018) rfl rfl ?_
  refine go_sipush (pc' := 1021) (v := (nI 191)) rfl rfl rfl ?_
  refine go_iconst (pc' := 1022) (v := (nI 0)) rfl rfl rfl ?_
  refine go_iast0 (pc' := 1023) rfl (o_newK en_3 eG_3) (o_newI0 en_3 eG_3 (Nat.le_of_ble_eq_true rfl) (Nat.le_of_ble_eq_true rfl)) (o_newZ en_3 eI_3) rfl ?_
  refine go_dupR (pc' := 1024) rfl rfl ?_
  refine go_sipush (pc' := 1027) (v := (nI 192)) rfl rfl rfl ?_
  refine go_iconst (pc' := 1028) (v := (nI 0)) rfl rfl rfl ?_
  refine go_iast0 (pc' := 1029) rfl (o_newK en_3 eG_3) (o_newI0 en_3 eG_3 (Nat.le_of_ble_eq_true rfl) (Nat.le_of_ble_eq_true rfl)) (o_newZ en_3 eI_3) rfl ?_
  refine go_dupR (pc' := 1030) rfl rfl ?_
  refine go_sipush (pc' := 1033) (v := (nI 193)) rfl rfl rfl ?_
  refine go_iconst (pc' := 1034) (v := (nI 0)) rfl rfl rfl ?_
  refine go_iast0 (pc' := 1035) rfl (o_newK en_3 eG_3) (o_newI0 en_3 eG_3 (Nat.le_of_ble_eq_true rfl) (Nat.le_of_ble_eq_true rfl)) (o_newZ en_3 eI_3) rfl ?_
  refine go_dupR (pc' := 1036) rfl rfl ?_
  refine go_sipush (pc' := 1039) (v := (nI 194)) rfl rfl rfl ?_
  refine go_iconst (pc' := 1040) (v := (nI 0)) rfl rfl rfl ?_
  refine go_iast0 (pc' := 1041) rfl (o_newK en_3 eG_3) (o_newI0 en_3 eG_3 (Nat.le_of_ble_eq_true rfl) (Nat.le_of_ble_eq_true rfl)) (o_newZ en_3 eI_3) rfl ?_
  refine go_dupR (pc' := 1042) rfl rfl ?_
  refine go_sipush (pc' := 1045) (v := (nI 195)) rfl rfl rfl ?_
  refine go_iconst (pc' := 1046) (v := (nI 0)) rfl rfl rfl ?_
  refine go_iast0 (pc' := 1047) rfl (o_newK en_3 eG_3) (o_newI0 en_3 eG_3 (Nat.le_of_ble_eq_true rfl) (Nat.le_of_ble_eq_true rfl)) (o_newZ en_3 eI_3) rfl ?_
  refine go_dupR (pc' := 1048) rfl rfl ?_
  refine go_sipush (pc' := 1051) (v := (nI 196)) rfl rfl rfl ?_
  refine go_iconst (pc' := 1052) (v := (nI 0)) rfl rfl rfl ?_
  refine go_iast0 (pc' := 1053) rfl (o_newK en_3 eG_3) (o_newI0 en_3 eG_3 (Nat.le_of_ble_eq_true rfl) (Nat.le_of_ble_eq_true rfl)) (o_newZ en_3 eI_3) rfl ?_
  refine go_dupR (pc' := 1054) rfl rfl ?_
  refine go_sipush (pc' := 1057) (v := (nI 197)) rfl rfl rfl ?_
  refine go_iconst (pc' := 1058) (v := (nI 0)) rfl rfl rfl ?_
  refine go_iast0 (pc' := 1059) rfl (o_newK en_3 eG_3) (o_newI0 en_3 eG_3 (Nat.le_of_ble_eq_true rfl) (Nat.le_of_ble_eq_true rfl)) (o_newZ en_3 eI_3) rfl ?_
  refine go_dupR (pc' := 1060) rfl rfl ?_
  refine go_sipush (pc' := 1063) (v := (nI 198)) rfl rfl rfl ?_
  refine go_iconst (pc' := 1064) (v := (nI 0)) rfl rfl rfl ?_
  refine go_iast0 (pc' := 1065) rfl (o_newK en_3 eG_3) (o_newI0 en_3 eG_3 (Nat.le_of_ble_eq_true rfl) (Nat.le_of_ble_eq_true rfl)) (o_newZ en_3 eI_3) rfl ?_
  refine go_dupR (pc' := 1066) rfl rfl ?_
  refine go_sipush (pc' := 1069) (v := (nI 199)) rfl rfl rfl ?_
  refine go_iconst (pc' := 1070) (v := (nI 0)) rfl rfl rfl ?_
  refine go_iast0 (pc' := 1071) rfl (o_newK en_3 eG_3) (o_newI0 en_3 eG_3 (Nat.le_of_ble_eq_true rfl) (Nat.le_of_ble_eq_true rfl)) (o_newZ en_3 eI_3) rfl ?_
  refine go_dupR (pc' := 1072) rfl rfl ?_
  refine go_sipush (pc' := 1075) (v := (nI 200)) rfl rfl rfl ?_
  refine go_iconst (pc' := 1076) (v := (nI 0)) rfl rfl rfl ?_
  refine go_iast0 (pc' := 1077) rfl (o_newK en_3 eG_3) (o_newI0 en_3 eG_3 (Nat.le_of_ble_eq_true rfl) (Nat.le_of_ble_eq_true rfl)) (o_newZ en_3 eI_3) rfl ?_
  refine go_dupR (pc' := 1078) rfl rfl ?_
  refine go_sipush (pc' := 1081) (v := (nI 201)) rfl rfl rfl ?_
  refine go_iconst (pc' := 1082) (v := (nI 0)) rfl rfl rfl ?_
  refine go_iast0 (pc' := 1083) rfl (o_newK en_3 eG_3) (o_newI0 en_3 eG_3 (Nat.le_of_ble_eq_true rfl) (Nat.le_of_ble_eq_true rfl)) (o_newZ en_3 eI_3) rfl ?_
  refine go_dupR (pc' := 1084) rfl rfl ?_
  refine go_sipush (pc' := 1087) (v := (nI 202)) rfl rfl rfl ?_
  refine go_iconst (pc' := 1088) (v := (nI 0)) rfl rfl rfl ?_
  refine go_iast0 (pc' := 1089) rfl (o_newK en_3 eG_3) (o_newI0 en_3 eG_3 (Nat.le_of_ble_eq_true rfl) (Nat.le_of_ble_eq_true rfl)) (o_newZ en_3 eI_3) rfl ?_
  refine go_dupR (pc' := 1090) rfl rfl ?_
  refine go_sipush (pc' := 1093) (v := (nI 203)) rfl rfl rfl ?_
  refine go_iconst (pc' := 1094) (v := (nI 0)) rfl rfl rfl ?_
  refine go_iast0 (pc' := 1095) rfl (o_newK en_3 eG_3) (o_newI0 en_3 eG_3 (Nat.le_of_ble_eq_true rfl) (Nat.le_of_ble_eq_true rfl)) (o_newZ en_3 eI_3) rfl ?_
  refine go_dupR (pc' := 1096) rfl rfl ?_
  refine go_sipush (pc' := 1099) (v := (nI 204)) rfl rfl rfl ?_
  refine go_iconst (pc' := 1100) (v := (nI 0)) rfl rfl rfl ?_
  refine go_iast0 (pc' := 1101) rfl (o_newK en_3 eG_3) (o_newI0 en_3 eG_3 (Nat.le_of_ble_eq_true rfl) (Nat.le_of_ble_eq_true rfl)) (o_newZ en_3 eI_3) rfl ?_
  refine go_dupR (pc' := 1102) rfl rfl ?_
  refine go_sipush (pc' := 1105) (v := (nI 205)) rfl rfl rfl ?_
  refine go_iconst (pc' := 1106) (v := (nI 0)) rfl rfl rfl ?_
  refine go_iast0 (pc' := 1107) rfl (o_newK en_3 eG_3) (o_newI0 en_3 eG_3 (Nat.le_of_ble_eq_true rfl) (Nat.le_of_ble_eq_true rfl)) (o_newZ en_3 eI_3) rfl ?_
  refine go_dupR (pc' := 1108) rfl rfl ?_
  refine go_sipush (pc' := 1111) (v := (nI 206)) rfl rfl rfl ?_
  refine go_iconst (pc' := 1112) (v := (nI 0)) rfl rfl rfl ?_
  refine go_iast0 (pc' := 1113) rfl (o_newK en_3 eG_3) (o_newI0 en_3 eG_3 (Nat.le_of_ble_eq_true rfl) (Nat.le_of_ble_eq_true rfl)) (o_newZ en_3 eI_3) rfl ?_
  refine go_dupR (pc' := 1114) rfl rfl ?_
  refine go_sipush (pc' := 1117) (v := (nI 207)) rfl rfl rfl ?_
  refine go_iconst (pc' := 1118) (v := (nI 0)) rfl rfl rfl ?_
  refine go_iast0 (pc' := 1119) rfl (o_newK en_3 eG_3) (o_newI0 en_3 eG_3 (Nat.le_of_ble_eq_true rfl) (Nat.le_of_ble_eq_true rfl)) (o_newZ en_3 eI_3) rfl ?_
  refine go_dupR (pc' := 1120) rfl rfl ?_
  refine go_sipush (pc' := 1123) (v := (nI 208)) rfl rfl rfl ?_
  refine go_iconst (pc' := 1124) (v := (nI 0)) rfl rfl rfl ?_
  refine go_iast0 (pc' := 1125) rfl (o_newK en_3 eG_3) (o_newI0 en_3 eG_3 (Nat.le_of_ble_eq_true rfl) (Nat.le_of_ble_eq_true rfl)) (o_newZ en_3 eI_3) rfl ?_
  refine go_dupR (pc' := 1126) rfl rfl ?_
  refine go_sipush (pc' := 1129) (v := (nI 209)) rfl rfl rfl ?_
  refine go_iconst (pc' := 1130) (v := (nI 0)) rfl rfl rfl ?_
  refine go_iast0 (pc' := 1131) rfl (o_newK en_3 eG_3) (o_newI0 en_3 eG_3 (Nat.le_of_ble_eq_true rfl) (Nat.le_of_ble_eq_true rfl)) (o_newZ en_3 eI_3) rfl ?_
  refine go_dupR (pc' := 1132) rfl rfl ?_
  refine go_sipush (pc' := 1135) (v := (nI 210)) rfl rfl rfl ?_
  refine go_iconst (pc' := 1136) (v := (nI 0)) rfl rfl rfl ?_
  refine go_iast0 (pc' := 1137) rfl (o_newK en_3 eG_3) (o_newI0 en_3 eG_3 (Nat.le_of_ble_eq_true rfl) (Nat.le_of_ble_eq_true rfl)) (o_newZ en_3 eI_3) rfl ?_
  refine go_dupR (pc' := 1138) rfl rfl ?_
  refine go_sipush (pc' := 1141) (v := (nI 211)) rfl rfl rfl ?_
  refine go_iconst (pc' := 1142) (v := (nI 0)) rfl rfl rfl ?_
  refine go_iast0 (pc' := 1143) rfl (o_newK en_3 eG_3) (o_newI0 en_3 eG_3 (Nat.le_of_ble_eq_true rfl) (Nat.le_of_ble_eq_true rfl)) (o_newZ en_3 eI_3) rfl ?_
  refine go_dupR (pc' := 1144) rfl rfl ?_
  refine go_sipush (pc' := 1147) (v := (nI 212)) rfl rfl rfl ?_
  refine go_iconst (pc' := 1148) (v := (nI 0)) rfl rfl rfl ?_
  refine go_iast0 (pc' := 1149) rfl (o_newK en_3 eG_3) (o_newI0 en_3 eG_3 (Nat.le_of_ble_eq_true rfl) (Nat.le_of_ble_eq_true rfl)) (o_newZ en_3 eI_3) rfl ?_
  refine go_dupR (pc' := 1150) rfl rfl ?_
  refine go_sipush (pc' := 1153) (v := (nI 213)) rfl rfl rfl ?_
  refine go_iconst (pc' := 1154) (v := (nI 0)) rfl rfl rfl ?_
  refine go_iast0 (pc' := 1155) rfl (o_newK en_3 eG_3) (o_newI0 en_3 eG_3 (Nat.le_of_ble_eq_true rfl) (Nat.le_of_ble_eq_true rfl)) (o_newZ en_3 eI_3) rfl ?_
  refine go_dupR (pc' := 1156) rfl rfl ?_
  refine go_sipush (pc' := 1159) (v := (nI 214)) rfl rfl rfl ?_
  refine go_iconst (pc' := 1160) (v := (nI 0)) rfl rfl rfl ?_
  refine go_iast0 (pc' := 1161) rfl (o_newK en_3 eG_3) (o_newI0 en_3 eG_3 (Nat.le_of_ble_eq_true rfl) (Nat.le_of_ble_eq_true rfl)) (o_newZ en_3 eI_3) rfl ?_
  refine go_dupR (pc' := 1162) rfl rfl ?_
  refine go_sipush (pc' := 1165) (v := (nI 215)) rfl rfl rfl ?_
  refine go_iconst (pc' := 1166) (v := (nI 0)) rfl rfl rfl ?_
  refine go_iast0 (pc' := 1167) rfl (o_newK en_3 eG_3) (o_newI0 en_3 eG_3 (Nat.le_of_ble_eq_true rfl) (Nat.le_of_ble_eq_true rfl)) (o_newZ en_3 eI_3) rfl ?_
  refine go_dupR (pc' := 1168) rfl rfl ?_
  refine go_sipush (pc' := 1171) (v := (nI 216)) rfl rfl rfl ?_
  refine go_iconst (pc' := 1172) (v := (nI 0)) rfl rfl rfl ?_
  refine go_iast0 (pc' := 1173) rfl (o_newK en_3 eG_3) (o_newI0 en_3 eG_3 (Nat.le_of_ble_eq_true rfl) (Nat.le_of_ble_eq_true rfl)) (o_newZ en_3 eI_3) rfl ?_
  refine go_dupR (pc' := 1174) rfl rfl ?_
  refine go_sipush (pc' := 1177) (v := (nI 217)) rfl rfl rfl ?_
  refine go_iconst (pc' := 1178) (v := (nI 0)) rfl rfl rfl ?_
  refine go_iast0 (pc' := 1179) rfl (o_newK en_3 eG_3) (o_newI0 en_3 eG_3 (Nat.le_of_ble_eq_true rfl) (Nat.le_of_ble_eq_true rfl)) (o_newZ en_3 eI_3) rfl ?_
  refine go_dupR (pc' := 1180) rfl rfl ?_
  refine go_sipush (pc' := 1183) (v := (nI 218)) rfl rfl rfl ?_
  refine go_iconst (pc' := 1184) (v := (nI 0)) rfl rfl rfl ?_
  refine go_iast0 (pc' := 1185) rfl (o_newK en_3 eG_3) (o_newI0 en_3 eG_3 (Nat.le_of_ble_eq_true rfl) (Nat.le_of_ble_eq_true rfl)) (o_newZ en_3 eI_3) rfl ?_
  refine go_dupR (pc' := 1186) rfl rfl ?_
  refine go_sipush (pc' := 1189) (v := (nI 219)) rfl rfl rfl ?_
  refine go_iconst (pc' := 1190) (v := (nI 0)) rfl rfl rfl ?_
  refine go_iast0 (pc' := 1191) rfl (o_newK en_3 eG_3) (o_newI0 en_3 eG_3 (Nat.le_of_ble_eq_true rfl) (Nat.le_of_ble_eq_true rfl)) (o_newZ en_3 eI_3) rfl ?_
  refine go_dupR (pc' := 1192) rfl rfl ?_
  refine go_sipush (pc' := 1195) (v := (nI 220)) rfl rfl rfl ?_
  refine go_iconst (pc' := 1196) (v := (nI 0)) rfl rfl rfl ?_
  refine go_iast0 (pc' := 1197) rfl (o_newK en_3 eG_3) (o_newI0 en_3 eG_3 (Nat.le_of_ble_eq_true rfl) (Nat.le_of_ble_eq_true rfl)) (o_newZ en_3 eI_3) rfl ?_
  refine go_dupR (pc' := 1198) rfl rfl ?_
  refine go_sipush (pc' := 1201) (v := (nI 221)) rfl rfl rfl ?_
  refine go_iconst (pc' := 1202) (v := (nI 0)) rfl rfl rfl ?_
  refine go_iast0 (pc' := 1203) rfl (o_newK en_3 eG_3) (o_newI0 en_3 eG_3 (Nat.le_of_ble_eq_true rfl) (Nat.le_of_ble_eq_true rfl)) (o_newZ en_3 eI_3) rfl ?_
  refine go_dupR (pc' := 1204) rfl rfl ?_
  refine go_sipush (pc' := 1207) (v := (nI 222)) rfl rfl rfl ?_
  refine go_iconst (pc' := 1208) (v := (nI 0)) rfl rfl rfl ?_
  refine go_iast0 (pc' := 1209) rfl (o_newK en_3 eG_3) (o_newI0 en_3 eG_3 (Nat.le_of_ble_eq_true rfl) (Nat.le_of_ble_eq_true rfl)) (o_newZ en_3 eI_3) rfl ?_
  refine go_dupR (pc' := 1210) rfl rfl ?_
  refine go_sipush (pc' := 1213) (v := (nI 223)) rfl rfl rfl ?_
  refine go_iconst (pc' := 1214) (v := (nI 0)) rfl rfl rfl ?_
  refine go_iast0 (pc' := 1215) rfl (o_newK en_3 eG_3) (o_newI0 en_3 eG_3 (Nat.le_of_ble_eq_true rfl) (Nat.le_of_ble_eq_true rfl)) (o_newZ en_3 eI_3) rfl ?_
  refine go_dupR (pc' := 1216) rfl rfl ?_
  refine go_sipush (pc' := 1219) (v := (nI 224)) rfl rfl rfl ?_
  refine go_iconst (pc' := 1220) (v := (nI 0)) rfl rfl rfl ?_
  refine go_iast0 (pc' := 1221) rfl (o_newK en_3 eG_3) (o_newI0 en_3 eG_3 (Nat.le_of_ble_eq_true rfl) (Nat.le_of_ble_eq_true rfl)) (o_newZ en_3 eI_3) rfl ?_
  refine go_dupR (pc' := 1222) rfl rfl ?_
  refine go_sipush (pc' := 1225) (v := (nI 225)) rfl rfl rfl ?_
  refine go_iconst (pc' := 1226) (v := (nI 0)) rfl rfl rfl ?_
  refine go_iast0 (pc' := 1227) rfl (o_newK en_3 eG_3) (o_newI0 en_3 eG_3 (Nat.le_of_ble_eq_true rfl) (Nat.le_of_ble_eq_true rfl)) (o_newZ en_3 eI_3) rfl ?_
  refine go_dupR (pc' := 1228) rfl rfl ?_
  refine go_sipush (pc' := 1231) (v := (nI 226)) rfl rfl rfl ?_
  refine go_iconst (pc' := 1232) (v := (nI 0)) rfl rfl rfl ?_
  refine go_iast0 (pc' := 1233) rfl (o_newK en_3 eG_3) (o_newI0 en_3 eG_3 (Nat.le_of_ble_eq_true rfl) (Nat.le_of_ble_eq_true rfl)) (o_newZ en_3 eI_3) rfl ?_
  refine go_dupR (pc' := 1234) rfl rfl ?_
  refine go_sipush (pc' := 1237) (v := (nI 227)) rfl rfl rfl ?_
  refine go_iconst (pc' := 1238) (v := (nI 0)) rfl rfl rfl ?_
  refine go_iast0 (pc' := 1239) rfl (o_newK en_3 eG_3) (o_newI0 en_3 eG_3 (Nat.le_of_ble_eq_true rfl) (Nat.le_of_ble_eq_true rfl)) (o_newZ en_3 eI_3) rfl ?_
  refine go_dupR (pc' := 1240) rfl rfl ?_
  refine go_sipush (pc' := 1243) (v := (nI 228)) rfl rfl rfl ?_
  refine go_iconst (pc' := 1244) (v := (nI 0)) rfl rfl rfl ?_
  refine go_iast0 (pc' := 1245) rfl (o_newK en_3 eG_3) (o_newI0 en_3 eG_3 (Nat.le_of_ble_eq_true rfl) (Nat.le_of_ble_eq_true rfl)) (o_newZ en_3 eI_3) rfl ?_
  refine go_dupR (pc' := 1246) rfl rfl ?_
  refine go_sipush (pc' := 1249) (v := (nI 229)) rfl rfl rfl ?_
  refine go_iconst (pc' := 1250) (v := (nI 0)) rfl rfl rfl ?_
  refine go_iast0 (pc' := 1251) rfl (o_newK en_3 eG_3) (o_newI0 en_3 eG_3 (Nat.le_of_ble_eq_true rfl) (Nat.le_of_ble_eq_true rfl)) (o_newZ en_3 eI_3) rfl ?_
  refine go_dupR (pc' := 1252) rfl rfl ?_
  refine go_sipush (pc' := 1255) (v := (nI 230)) rfl rfl rfl ?_
  refine go_iconst (pc' := 1256) (v := (nI 0)) rfl rfl rfl ?_
  refine go_iast0 (pc' := 1257) rfl (o_newK en_3 eG_3) (o_newI0 en_3 eG_3 (Nat.le_of_ble_eq_true rfl) (Nat.le_of_ble_eq_true rfl)) (o_newZ en_3 eI_3) rfl ?_
  refine go_dupR (pc' := 1258) rfl rfl ?_
  refine go_sipush (pc' := 1261) (v := (nI 231)) rfl rfl rfl ?_
  refine go_iconst (pc' := 1262) (v := (nI 0)) rfl rfl rfl ?_
  refine go_iast0 (pc' := 1263) rfl (o_newK en_3 eG_3) (o_newI0 en_3 eG_3 (Nat.le_of_ble_eq_true rfl) (Nat.le_of_ble_eq_true rfl)) (o_newZ en_3 eI_3) rfl ?_
  refine go_dupR (pc' := 1264) rfl rfl ?_
  refine go_sipush (pc' := 1267) (v := (nI 232)) rfl rfl rfl ?_
  refine go_iconst (pc' := 1268) (v := (nI 0)) rfl rfl rfl ?_
  refine go_iast0 (pc' := 1269) rfl (o_newK en_3 eG_3) (o_newI0 en_3 eG_3 (Nat.le_of_ble_eq_true rfl) (Nat.le_of_ble_eq_true rfl)) (o_newZ en_3 eI_3) rfl ?_
  refine go_dupR (pc' := 1270) rfl rfl ?_
  refine go_sipush (pc' := 1273) (v := (nI 233)) rfl rfl rfl ?_
  refine go_iconst (pc' := 1274) (v := (nI 0)) rfl rfl rfl ?_
  refine go_iast0 (pc' := 1275) rfl (o_newK en_3 eG_3) (o_newI0 en_3 eG_3 (Nat.le_of_ble_eq_true rfl) (Nat.le_of_ble_eq_true rfl)) (o_newZ en_3 eI_3) rfl ?_
  refine go_dupR (pc' := 1276) rfl rfl ?_
  refine go_sipush (pc' := 1279) (v := (nI 234)) rfl rfl rfl ?_
  refine go_iconst (pc' := 1280) (v := (nI 0)) rfl rfl rfl ?_
  refine go_iast0 (pc' := 1281) rfl (o_newK en_3 eG_3) (o_newI0 en_3 eG_3 (Nat.le_of_ble_eq_true rfl) (Nat.le_of_ble_eq_true rfl)) (o_newZ en_3 eI_3) rfl ?_
  refine go_dupR (pc' := 1282) rfl rfl ?_
  refine go_sipush (pc' := 1285) (v := (nI 235)) rfl rfl rfl ?_
  refine go_iconst (pc' := 1286) (v := (nI 0)) rfl rfl rfl ?_
  refine go_iast0 (pc' := 1287) rfl (o_newK en_3 eG_3) (o_newI0 en_3 eG_3 (Nat.le_of_ble_eq_true rfl) (Nat.le_of_ble_eq_true rfl)) (o_newZ en_3 eI_3) rfl ?_
  refine go_dupR (pc' := 1288) rfl rfl ?_
  refine go_sipush (pc' := 1291) (v := (nI 236)) rfl rfl rfl ?_
  refine go_iconst (pc' := 1292) (v := (nI 0)) rfl rfl rfl ?_
  refine go_iast0 (pc' := 1293) rfl (o_newK en_3 eG_3) (o_newI0 en_3 eG_3 (Nat.le_of_ble_eq_true rfl) (Nat.le_of_ble_eq_true rfl)) (o_newZ en_3 eI_3) rfl ?_
  refine go_dupR (pc' := 1294) rfl rfl ?_
  refine go_sipush (pc' := 1297) (v := (nI 237)) rfl rfl rfl ?_
  refine go_iconst (pc' := 1298) (v := (nI 0)) rfl rfl rfl ?_
  refine go_iast0 (pc' := 1299) rfl (o_newK en_3 eG_3) (o_newI0 en_3 eG_3 (Nat.le_of_ble_eq_true rfl) (Nat.le_of_ble_eq_true rfl)) (o_newZ en_3 eI_3) rfl ?_
  refine go_dupR (pc' := 1300) rfl rfl ?_
  refine go_sipush (pc' := 1303) (v := (nI 238)) rfl rfl rfl ?_
  refine go_iconst (pc' := 1304) (v := (nI 0)) rfl rfl rfl ?_
  refine go_iast0 (pc' := 1305) rfl (o_newK en_3 eG_3) (o_newI0 en_3 eG_3 (Nat.le_of_ble_eq_true rfl) (Nat.le_of_ble_eq_true rfl)) (o_newZ en_3 eI_3) rfl ?_
  refine go_dupR (pc' := 1306) rfl rfl ?_
  refine go_sipush (pc' := 1309) (v := (nI 239)) rfl rfl rfl ?_
  refine go_iconst (pc' := 1310) (v := (nI 0)) rfl rfl rfl ?_
  refine go_iast0 (pc' := 1311) rfl (o_newK en_3 eG_3) (o_newI0 en_3 eG_3 (Nat.le_of_ble_eq_true rfl) (Nat.le_of_ble_eq_true rfl)) (o_newZ en_3 eI_3) rfl ?_
  refine go_astore (pc' := 1313) (lo' := [some (.inr (.inr a0)), some (.inl a1), some (.inl a2), some (.inl a3), some (.inr (.inr a4)), some (.inr (.inr n_3)), none, none, none, none, none, none, none, none, none, none]) rfl rfl rfl ?_
  refine go_bipush (pc' := 1315) (v := (nI 7)) rfl rfl rfl ?_
  obtain ⟨g1, h⟩ := o_gE h
  refine go_newI (pc' := 1317) (N := 7) rfl (by decide) (by decide) (by decide) (by decide) (by decide) (o_lt9E g1) rfl ?_
  obtain ⟨I_1315, eI_1315, h⟩ := o_b1E h
  obtain ⟨G_1315, eG_1315, h⟩ := o_b1E h
  obtain ⟨n_1315, en_1315, h⟩ := o_b1E h
  refine go_ndMI eI_1315 ?_
  refine go_ndMG eG_1315 ?_
  refine go_ndR en_1315 ?_
  refine go_ndB (B' := (14, 69)) rfl ?_
  refine go_dupR (pc' := 1318) rfl rfl ?_
  refine go_iconst (pc' := 1319) (v := (nI 0)) rfl rfl rfl ?_
  refine go_bipush (pc' := 1321) (v := (nI 117)) rfl rfl rfl ?_
  obtain ⟨g2, h⟩ := o_gE h
  obtain ⟨I_1321, eI_1321, h⟩ := o_b1E h
  refine go_iastore (pc' := 1322) rfl (o_inK g2) (o_inB g2) rfl ?_
  refine go_ndMI eI_1321 ?_
  refine go_dupR (pc' := 1323) rfl rfl ?_
  refine go_iconst (pc' := 1324) (v := (nI 1)) rfl rfl rfl ?_
  refine go_bipush (pc' := 1326) (v := (nI 110)) rfl rfl rfl ?_
  obtain ⟨g3, h⟩ := o_gE h
  obtain ⟨I_1326, eI_1326, h⟩ := o_b1E h
  refine go_iastore (pc' := 1327) rfl (o_inK g3) (o_inB g3) rfl ?_
  refine go_ndMI eI_1326 ?_
  refine go_dupR (pc' := 1328) rfl rfl ?_
  refine go_iconst (pc' := 1329) (v := (nI 2)) rfl rfl rfl ?_
  refine go_bipush (pc' := 1331) (v := (nI 105)) rfl rfl rfl ?_
  obtain ⟨g4, h⟩ := o_gE h
  obtain ⟨I_1331, eI_1331, h⟩ := o_b1E h
  refine go_iastore (pc' := 1332) rfl (o_inK g4) (o_inB g4) rfl ?_
  refine go_ndMI eI_1331 ?_
  refine go_dupR (pc' := 1333) rfl rfl ?_
  refine go_iconst (pc' := 1334) (v := (nI 3)) rfl rfl rfl ?_
  refine go_bipush (pc' := 1336) (v := (nI 102)) rfl rfl rfl ?_
  obtain ⟨g5, h⟩ := o_gE h
  obtain ⟨I_1336, eI_1336, h⟩ := o_b1E h
  refine go_iastore (pc' := 1337) rfl (o_inK g5) (o_inB g5) rfl ?_
  refine go_ndMI eI_1336 ?_
  refine go_dupR (pc' := 1338) rfl rfl ?_
  refine go_iconst (pc' := 1339) (v := (nI 4)) rfl rfl rfl ?_
  refine go_bipush (pc' := 1341) (v := (nI 111)) rfl rfl rfl ?_
  obtain ⟨g6, h⟩ := o_gE h
  obtain ⟨I_1341, eI_1341, h⟩ := o_b1E h
  refine go_iastore (pc' := 1342) rfl (o_inK g6) (o_inB g6) rfl ?_
  refine go_ndMI eI_1341 ?_
  refine go_dupR (pc' := 1343) rfl rfl ?_
  refine go_iconst (pc' := 1344) (v := (nI 5)) rfl rfl rfl ?_
  refine go_bipush (pc' := 1346) (v := (nI 114)) rfl rfl rfl ?_
  obtain ⟨g7, h⟩ := o_gE h
  obtain ⟨I_1346, eI_1346, h⟩ := o_b1E h
  refine go_iastore (pc' := 1347) rfl (o_inK g7) (o_inB g7) rfl ?_
  refine go_ndMI eI_1346 ?_
  refine go_dupR (pc' := 1348) rfl rfl ?_
  refine go_bipush (pc' := 1350) (v := (nI 6)) rfl rfl rfl ?_
  refine go_bipush (pc' := 1352) (v := (nI 109)) rfl rfl rfl ?_
  obtain ⟨g8, h⟩ := o_gE h
  obtain ⟨I_1352, eI_1352, h⟩ := o_b1E h
  refine go_iastore (pc' := 1353) rfl (o_inK g8) (o_inB g8) rfl ?_
  refine go_ndMI eI_1352 ?_
  refine go_astore (pc' := 1355) (lo' := [some (.inr (.inr a0)), some (.inl a1), some (.inl a2), some (.inl a3), some (.inr (.inr a4)), some (.inr (.inr n_3)), some (.inr (.inr n_1315)), none, none, none, none, none, none, none, none, none]) rfl rfl rfl ?_
  refine go_iconst (pc' := 1356) (v := (nI 5)) rfl rfl rfl ?_
  obtain ⟨g9, h⟩ := o_gE h
  refine go_newI (pc' := 1358) (N := 5) rfl (by decide) (by decide) (by decide) (by decide) (by decide) (o_lt9E g9) rfl ?_
  obtain ⟨I_1356, eI_1356, h⟩ := o_b1E h
  obtain ⟨G_1356, eG_1356, h⟩ := o_b1E h
  obtain ⟨n_1356, en_1356, h⟩ := o_b1E h
  refine go_ndMI eI_1356 ?_
  refine go_ndMG eG_1356 ?_
  refine go_ndR en_1356 ?_
  refine go_ndB (B' := (13, 64)) rfl ?_
  refine go_dupR (pc' := 1359) rfl rfl ?_
  refine go_iconst (pc' := 1360) (v := (nI 0)) rfl rfl rfl ?_
  refine go_bipush (pc' := 1362) (v := (nI 109)) rfl rfl rfl ?_
  obtain ⟨g10, h⟩ := o_gE h
  obtain ⟨I_1362, eI_1362, h⟩ := o_b1E h
  refine go_iastore (pc' := 1363) rfl (o_inK g10) (o_inB g10) rfl ?_
  refine go_ndMI eI_1362 ?_
  refine go_dupR (pc' := 1364) rfl rfl ?_
  refine go_iconst (pc' := 1365) (v := (nI 1)) rfl rfl rfl ?_
  refine go_bipush (pc' := 1367) (v := (nI 97)) rfl rfl rfl ?_
  obtain ⟨g11, h⟩ := o_gE h
  obtain ⟨I_1367, eI_1367, h⟩ := o_b1E h
  refine go_iastore (pc' := 1368) rfl (o_inK g11) (o_inB g11) rfl ?_
  refine go_ndMI eI_1367 ?_
  refine go_dupR (pc' := 1369) rfl rfl ?_
  refine go_iconst (pc' := 1370) (v := (nI 2)) rfl rfl rfl ?_
  refine go_bipush (pc' := 1372) (v := (nI 116)) rfl rfl rfl ?_
  obtain ⟨g12, h⟩ := o_gE h
  obtain ⟨I_1372, eI_1372, h⟩ := o_b1E h
  refine go_iastore (pc' := 1373) rfl (o_inK g12) (o_inB g12) rfl ?_
  refine go_ndMI eI_1372 ?_
  refine go_dupR (pc' := 1374) rfl rfl ?_
  refine go_iconst (pc' := 1375) (v := (nI 3)) rfl rfl rfl ?_
  refine go_bipush (pc' := 1377) (v := (nI 99)) rfl rfl rfl ?_
  obtain ⟨g13, h⟩ := o_gE h
  obtain ⟨I_1377, eI_1377, h⟩ := o_b1E h
  refine go_iastore (pc' := 1378) rfl (o_inK g13) (o_inB g13) rfl ?_
  refine go_ndMI eI_1377 ?_
  refine go_dupR (pc' := 1379) rfl rfl ?_
  refine go_iconst (pc' := 1380) (v := (nI 4)) rfl rfl rfl ?_
  refine go_bipush (pc' := 1382) (v := (nI 104)) rfl rfl rfl ?_
  obtain ⟨g14, h⟩ := o_gE h
  obtain ⟨I_1382, eI_1382, h⟩ := o_b1E h
  refine go_iastore (pc' := 1383) rfl (o_inK g14) (o_inB g14) rfl ?_
  refine go_ndMI eI_1382 ?_
  refine go_astore (pc' := 1385) (lo' := [some (.inr (.inr a0)), some (.inl a1), some (.inl a2), some (.inl a3), some (.inr (.inr a4)), some (.inr (.inr n_3)), some (.inr (.inr n_1315)), some (.inr (.inr n_1356)), none, none, none, none, none, none, none, none]) rfl rfl rfl ?_
  refine go_iconst (pc' := 1386) (v := (nI 5)) rfl rfl rfl ?_
  obtain ⟨g15, h⟩ := o_gE h
  refine go_newI (pc' := 1388) (N := 5) rfl (by decide) (by decide) (by decide) (by decide) (by decide) (o_lt9E g15) rfl ?_
  obtain ⟨I_1386, eI_1386, h⟩ := o_b1E h
  obtain ⟨G_1386, eG_1386, h⟩ := o_b1E h
  obtain ⟨n_1386, en_1386, h⟩ := o_b1E h
  refine go_ndMI eI_1386 ?_
  refine go_ndMG eG_1386 ?_
  refine go_ndR en_1386 ?_
  refine go_ndB (B' := (12, 59)) rfl ?_
  refine go_dupR (pc' := 1389) rfl rfl ?_
  refine go_iconst (pc' := 1390) (v := (nI 0)) rfl rfl rfl ?_
  refine go_bipush (pc' := 1392) (v := (nI 103)) rfl rfl rfl ?_
  obtain ⟨g16, h⟩ := o_gE h
  obtain ⟨I_1392, eI_1392, h⟩ := o_b1E h
  refine go_iastore (pc' := 1393) rfl (o_inK g16) (o_inB g16) rfl ?_
  refine go_ndMI eI_1392 ?_
  refine go_dupR (pc' := 1394) rfl rfl ?_
  refine go_iconst (pc' := 1395) (v := (nI 1)) rfl rfl rfl ?_
  refine go_bipush (pc' := 1397) (v := (nI 114)) rfl rfl rfl ?_
  obtain ⟨g17, h⟩ := o_gE h
  obtain ⟨I_1397, eI_1397, h⟩ := o_b1E h
  refine go_iastore (pc' := 1398) rfl (o_inK g17) (o_inB g17) rfl ?_
  refine go_ndMI eI_1397 ?_
  refine go_dupR (pc' := 1399) rfl rfl ?_
  refine go_iconst (pc' := 1400) (v := (nI 2)) rfl rfl rfl ?_
  refine go_bipush (pc' := 1402) (v := (nI 97)) rfl rfl rfl ?_
  obtain ⟨g18, h⟩ := o_gE h
  obtain ⟨I_1402, eI_1402, h⟩ := o_b1E h
  refine go_iastore (pc' := 1403) rfl (o_inK g18) (o_inB g18) rfl ?_
  refine go_ndMI eI_1402 ?_
  refine go_dupR (pc' := 1404) rfl rfl ?_
  refine go_iconst (pc' := 1405) (v := (nI 3)) rfl rfl rfl ?_
  refine go_bipush (pc' := 1407) (v := (nI 112)) rfl rfl rfl ?_
  obtain ⟨g19, h⟩ := o_gE h
  obtain ⟨I_1407, eI_1407, h⟩ := o_b1E h
  refine go_iastore (pc' := 1408) rfl (o_inK g19) (o_inB g19) rfl ?_
  refine go_ndMI eI_1407 ?_
  refine go_dupR (pc' := 1409) rfl rfl ?_
  refine go_iconst (pc' := 1410) (v := (nI 4)) rfl rfl rfl ?_
  refine go_bipush (pc' := 1412) (v := (nI 104)) rfl rfl rfl ?_
  obtain ⟨g20, h⟩ := o_gE h
  obtain ⟨I_1412, eI_1412, h⟩ := o_b1E h
  refine go_iastore (pc' := 1413) rfl (o_inK g20) (o_inB g20) rfl ?_
  refine go_ndMI eI_1412 ?_
  refine go_astore (pc' := 1415) (lo' := [some (.inr (.inr a0)), some (.inl a1), some (.inl a2), some (.inl a3), some (.inr (.inr a4)), some (.inr (.inr n_3)), some (.inr (.inr n_1315)), some (.inr (.inr n_1356)), some (.inr (.inr n_1386)), none, none, none, none, none, none, none]) rfl rfl rfl ?_
  refine go_iconst (pc' := 1416) (v := (nI 4)) rfl rfl rfl ?_
  obtain ⟨g21, h⟩ := o_gE h
  refine go_newI (pc' := 1418) (N := 4) rfl (by decide) (by decide) (by decide) (by decide) (by decide) (o_lt9E g21) rfl ?_
  obtain ⟨I_1416, eI_1416, h⟩ := o_b1E h
  obtain ⟨G_1416, eG_1416, h⟩ := o_b1E h
  obtain ⟨n_1416, en_1416, h⟩ := o_b1E h
  refine go_ndMI eI_1416 ?_
  refine go_ndMG eG_1416 ?_
  refine go_ndR en_1416 ?_
  refine go_ndB (B' := (11, 55)) rfl ?_
  refine go_dupR (pc' := 1419) rfl rfl ?_
  refine go_iconst (pc' := 1420) (v := (nI 0)) rfl rfl rfl ?_
  refine go_bipush (pc' := 1422) (v := (nI 116)) rfl rfl rfl ?_
  obtain ⟨g22, h⟩ := o_gE h
  obtain ⟨I_1422, eI_1422, h⟩ := o_b1E h
  refine go_iastore (pc' := 1423) rfl (o_inK g22) (o_inB g22) rfl ?_
  refine go_ndMI eI_1422 ?_
  refine go_dupR (pc' := 1424) rfl rfl ?_
  refine go_iconst (pc' := 1425) (v := (nI 1)) rfl rfl rfl ?_
  refine go_bipush (pc' := 1427) (v := (nI 111)) rfl rfl rfl ?_
  obtain ⟨g23, h⟩ := o_gE h
  obtain ⟨I_1427, eI_1427, h⟩ := o_b1E h
  refine go_iastore (pc' := 1428) rfl (o_inK g23) (o_inB g23) rfl ?_
  refine go_ndMI eI_1427 ?_
  refine go_dupR (pc' := 1429) rfl rfl ?_
  refine go_iconst (pc' := 1430) (v := (nI 2)) rfl rfl rfl ?_
  refine go_bipush (pc' := 1432) (v := (nI 108)) rfl rfl rfl ?_
  obtain ⟨g24, h⟩ := o_gE h
  obtain ⟨I_1432, eI_1432, h⟩ := o_b1E h
  refine go_iastore (pc' := 1433) rfl (o_inK g24) (o_inB g24) rfl ?_
  refine go_ndMI eI_1432 ?_
  refine go_dupR (pc' := 1434) rfl rfl ?_
  refine go_iconst (pc' := 1435) (v := (nI 3)) rfl rfl rfl ?_
  refine go_bipush (pc' := 1437) (v := (nI 100)) rfl rfl rfl ?_
  obtain ⟨g25, h⟩ := o_gE h
  obtain ⟨I_1437, eI_1437, h⟩ := o_b1E h
  refine go_iastore (pc' := 1438) rfl (o_inK g25) (o_inB g25) rfl ?_
  refine go_ndMI eI_1437 ?_
  refine go_astore (pc' := 1440) (lo' := [some (.inr (.inr a0)), some (.inl a1), some (.inl a2), some (.inl a3), some (.inr (.inr a4)), some (.inr (.inr n_3)), some (.inr (.inr n_1315)), some (.inr (.inr n_1356)), some (.inr (.inr n_1386)), some (.inr (.inr n_1416)), none, none, none, none, none, none]) rfl rfl rfl ?_
  refine go_iconst (pc' := 1441) (v := (nI 1)) rfl rfl rfl ?_
  refine go_aload (pc' := 1443) rfl rfl rfl ?_
  obtain ⟨r_1443, I_1443, q_1443, h⟩ := o_b2E h
  refine go_callS (pc' := 1446) (B' := (11, 55)) (st' := [.inl r_1443, .inl (nI 1)]) rfl rfl (Or.inl (by decide)) rfl rfl trivial (md_118 (by omega) q_1443) rfl rfl rfl ?_
  refine go_iconst (pc' := 1447) (v := (nI 3)) rfl rfl rfl ?_
  refine go_iload_n (pc' := 1448) rfl rfl rfl ?_
  refine go_iconst (pc' := 1449) (v := (nI 1)) rfl rfl rfl ?_
  refine go_isub (pc' := 1450) rfl rfl ?_
  refine go_min (pc' := 1453) rfl rfl (Nat.le_of_ble_eq_true rfl) rfl ?_
  obtain ⟨r_1450, er_1450, h⟩ := o_b1E h
  refine go_ndI er_1450 ?_
  obtain ⟨g26, h⟩ := o_gE h
  refine go_irem (pc' := 1454) rfl (o_nzIE g26) rfl ?_
  refine go_iadd (pc' := 1455) rfl rfl ?_
  obtain ⟨x10_1455, ex10_1455, h⟩ := o_b1E h
  refine go_ndI ex10_1455 ?_
  refine go_istore (pc' := 1457) (lo' := [some (.inr (.inr a0)), some (.inl a1), some (.inl a2), some (.inl a3), some (.inr (.inr a4)), some (.inr (.inr n_3)), some (.inr (.inr n_1315)), some (.inr (.inr n_1356)), some (.inr (.inr n_1386)), some (.inr (.inr n_1416)), some (.inl x10_1455), none, none, none, none, none]) rfl rfl rfl ?_
  refine go_aload (pc' := 1459) rfl rfl rfl ?_
  refine go_aload (pc' := 1461) rfl rfl rfl ?_
  refine go_aload (pc' := 1463) rfl rfl rfl ?_
  refine go_iconst (pc' := 1464) (v := (nI 0)) rfl rfl rfl ?_
  refine go_iload_n (pc' := 1465) rfl rfl rfl ?_
  have jn1495 : ∀ (t4_1495 : Nat), m_122_j1495 a0 a1 a2 a3 a4 Rf n_3 G_1416 I_1443 x10_1455 t4_1495 = some (r, I1, R1, G1) → ai_Go si_t (23, false, 0, cd_122) (ai_Cl si_t si_ms e) (sp_Q (some (.inl r)) I1 J R1 G1) 1495 [some (.inr (.inr a0)), some (.inl a1), some (.inl a2), some (.inl a3), some (.inr (.inr a4)), some (.inr (.inr n_3)), some (.inr (.inr n_1315)), some (.inr (.inr n_1356)), some (.inr (.inr n_1386)), some (.inr (.inr n_1416)), some (.inl x10_1455), none, none, none, none, none] [.inr (.inr t4_1495), .inl (nI 0), .inr (.inr n_3), .inr (.inr n_3), .inr (.inr n_3)] (11, 55) I_1443 J Rf G_1416 := by
    intro t4_1495 h
    unfold m_122_j1495 at h
    obtain ⟨r_1495, I_1495, q_1495, h⟩ := o_b2E h
    refine go_callS (pc' := 1498) (B' := (11, 55)) (st' := [.inl r_1495, .inr (.inr n_3), .inr (.inr n_3)]) rfl rfl (Or.inl (by decide)) rfl rfl trivial (md_120 (by omega) q_1495) rfl rfl rfl ?_
    refine go_iload_n (pc' := 1499) rfl rfl rfl ?_
    obtain ⟨r_1499, I_1499, q_1499, h⟩ := o_b2E h
    refine go_callS (pc' := 1502) (B' := (11, 55)) (st' := [.inl r_1499, .inr (.inr n_3)]) rfl rfl (Or.inl (by decide)) rfl rfl trivial (md_119 (by omega) q_1499) rfl rfl rfl ?_
    refine go_iload_n (pc' := 1503) rfl rfl rfl ?_
    obtain ⟨r_1503, I_1503, q_1503, h⟩ := o_b2E h
    refine go_callS (pc' := 1506) (B' := (11, 55)) (st' := [.inl r_1503]) rfl rfl (Or.inl (by decide)) rfl rfl trivial (md_119 (by omega) q_1503) rfl rfl rfl ?_
    refine go_istore (pc' := 1508) (lo' := [some (.inr (.inr a0)), some (.inl a1), some (.inl a2), some (.inl a3), some (.inr (.inr a4)), some (.inr (.inr n_3)), some (.inr (.inr n_1315)), some (.inr (.inr n_1356)), some (.inr (.inr n_1386)), some (.inr (.inr n_1416)), some (.inl x10_1455), some (.inl r_1503), none, none, none, none]) rfl rfl rfl ?_
    refine go_iload_n (pc' := 1509) rfl rfl rfl ?_
    have jn1811 : ∀ (y10_1811 : Int32) (y11_1811 : Int32) (I_1811 : ai_I) (z12_1811 : Option ai_V) (h_z12_1811 : ai_isL z12_1811 = false) (z13_1811 : Option ai_V) (h_z13_1811 : ai_isL z13_1811 = false) (z14_1811 : Option ai_V) (h_z14_1811 : ai_isL z14_1811 = false) (z15_1811 : Option ai_V) (h_z15_1811 : ai_isL z15_1811 = false), m_122_j1811 a0 a1 a2 Rf n_3 G_1416 y10_1811 y11_1811 I_1811 = some (r, I1, R1, G1) → ai_Go si_t (23, false, 0, cd_122) (ai_Cl si_t si_ms e) (sp_Q (some (.inl r)) I1 J R1 G1) 1811 [some (.inr (.inr a0)), some (.inl a1), some (.inl a2), some (.inl a3), some (.inr (.inr a4)), some (.inr (.inr n_3)), some (.inr (.inr n_1315)), some (.inr (.inr n_1356)), some (.inr (.inr n_1386)), some (.inr (.inr n_1416)), some (.inl y10_1811), some (.inl y11_1811), z12_1811, z13_1811, z14_1811, z15_1811] [] (11, 55) I_1811 J Rf G_1416 := by
      intro y10_1811 y11_1811 I_1811 z12_1811 h_z12_1811 z13_1811 h_z13_1811 z14_1811 h_z14_1811 z15_1811 h_z15_1811 h
      unfold m_122_j1811 at h
      refine go_aload_n (pc' := 1812) rfl rfl rfl ?_
      refine go_aload (pc' := 1814) rfl rfl rfl ?_
      refine go_iload (pc' := 1816) rfl rfl rfl ?_
      obtain ⟨I_1816, G_1816, q_1816, h⟩ := o_b2E h
      refine go_callS (pc' := 1819) (B' := (0, 0)) (st' := []) rfl rfl (Or.inl (by decide)) rfl rfl trivial (md_117 (by omega) q_1816) rfl rfl rfl ?_
      refine go_iload (pc' := 1821) rfl rfl rfl ?_
      refine go_sipush (pc' := 1824) (v := (nI 201)) rfl rfl rfl ?_
      have jn1863 : ∀ (t0_1863 : Int32) (I_1863 : ai_I) (R_1863 : ai_R) (z12_1863 : Option ai_V) (h_z12_1863 : ai_isL z12_1863 = false) (z13_1863 : Option ai_V) (h_z13_1863 : ai_isL z13_1863 = false) (z14_1863 : Option ai_V) (h_z14_1863 : ai_isL z14_1863 = false) (z15_1863 : Option ai_V) (h_z15_1863 : ai_isL z15_1863 = false), m_122_j1863 y10_1811 G_1816 t0_1863 I_1863 R_1863 = some (r, I1, R1, G1) → ai_Go si_t (23, false, 0, cd_122) (ai_Cl si_t si_ms e) (sp_Q (some (.inl r)) I1 J R1 G1) 1863 [some (.inr (.inr a0)), some (.inl a1), some (.inl a2), some (.inl a3), some (.inr (.inr a4)), some (.inr (.inr n_3)), some (.inr (.inr n_1315)), some (.inr (.inr n_1356)), some (.inr (.inr n_1386)), some (.inr (.inr n_1416)), some (.inl y10_1811), some (.inl y11_1811), z12_1863, z13_1863, z14_1863, z15_1863] [.inl t0_1863] (0, 0) I_1863 J R_1863 G_1816 := by
        intro t0_1863 I_1863 R_1863 z12_1863 h_z12_1863 z13_1863 h_z13_1863 z14_1863 h_z14_1863 z15_1863 h_z15_1863 h
        unfold m_122_j1863 at h
        refine go_istore (pc' := 1865) (lo' := [some (.inr (.inr a0)), some (.inl a1), some (.inl a2), some (.inl a3), some (.inr (.inr a4)), some (.inr (.inr n_3)), some (.inr (.inr n_1315)), some (.inr (.inr n_1356)), some (.inr (.inr n_1386)), some (.inr (.inr n_1416)), some (.inl y10_1811), some (.inl y11_1811), some (.inl t0_1863), z13_1863, z14_1863, z15_1863]) rfl rfl rfl ?_
        refine go_iload (pc' := 1867) rfl rfl rfl ?_
        refine go_if_eq (pt := 1875) (pc' := 1870) rfl rfl rfl (fun h1867 => ?_) (fun h1867 => ?_)
        · replace h := o_t h1867 h
          refine go_iconst (pc' := 1876) (v := (nI 0)) rfl rfl rfl ?_
          cases h
          exact go_iret rfl (trivial) ⟨rfl, rfl, rfl, rfl, rfl⟩
        · replace h := o_f h1867 h
          refine go_iload (pc' := 1872) rfl rfl rfl ?_
          refine go_goto (pc' := 1876) rfl rfl ?_
          cases h
          exact go_iret rfl (trivial) ⟨rfl, rfl, rfl, rfl, rfl⟩
      have jn1862 : ∀ (I_1862 : ai_I) (R_1862 : ai_R) (z12_1862 : Option ai_V) (h_z12_1862 : ai_isL z12_1862 = false) (z13_1862 : Option ai_V) (h_z13_1862 : ai_isL z13_1862 = false) (z14_1862 : Option ai_V) (h_z14_1862 : ai_isL z14_1862 = false) (z15_1862 : Option ai_V) (h_z15_1862 : ai_isL z15_1862 = false), m_122_j1862 y10_1811 G_1816 I_1862 R_1862 = some (r, I1, R1, G1) → ai_Go si_t (23, false, 0, cd_122) (ai_Cl si_t si_ms e) (sp_Q (some (.inl r)) I1 J R1 G1) 1862 [some (.inr (.inr a0)), some (.inl a1), some (.inl a2), some (.inl a3), some (.inr (.inr a4)), some (.inr (.inr n_3)), some (.inr (.inr n_1315)), some (.inr (.inr n_1356)), some (.inr (.inr n_1386)), some (.inr (.inr n_1416)), some (.inl y10_1811), some (.inl y11_1811), z12_1862, z13_1862, z14_1862, z15_1862] [] (0, 0) I_1862 J R_1862 G_1816 := by
        intro I_1862 R_1862 z12_1862 h_z12_1862 z13_1862 h_z13_1862 z14_1862 h_z14_1862 z15_1862 h_z15_1862 h
        unfold m_122_j1862 at h
        refine go_iconst (pc' := 1863) (v := (nI 0)) rfl rfl rfl ?_
        exact jn1863 (nI 0) I_1862 R_1862 z12_1862 h_z12_1862 z13_1862 h_z13_1862 z14_1862 h_z14_1862 z15_1862 h_z15_1862 h
      refine go_icmp_ge (pt := 1862) (pc' := 1827) rfl rfl rfl (fun h1824 => ?_) (fun h1824 => ?_)
      · replace h := o_t h1824 h
        exact jn1862 I_1816 Rf z12_1811 h_z12_1811 z13_1811 h_z13_1811 z14_1811 h_z14_1811 z15_1811 h_z15_1811 h
      · replace h := o_f h1824 h
        refine go_aload_n (pc' := 1828) rfl rfl rfl ?_
        refine go_iload (pc' := 1830) rfl rfl rfl ?_
        obtain ⟨g27, h⟩ := o_gE h
        obtain ⟨r_1830, I_1830, R_1830, q_1830, h⟩ := o_b3E h
        refine go_callV (pc' := 1833) (B' := (0, 0)) (st' := [.inl r_1830]) rfl rfl (Or.inl (by decide)) rfl rfl (o_kdE g27) (md_97 (by omega) (o_kdE g27) q_1830) rfl rfl rfl ?_
        refine go_iconst (pc' := 1834) (v := (nI 1)) rfl rfl rfl ?_
        refine go_icmp_ne (pt := 1862) (pc' := 1837) rfl rfl rfl (fun h1834 => ?_) (fun h1834 => ?_)
        · replace h := o_f h1834 h
          exact jn1862 I_1830 R_1830 z12_1811 h_z12_1811 z13_1811 h_z13_1811 z14_1811 h_z14_1811 z15_1811 h_z15_1811 h
        · replace h := o_t (Decidable.of_not_not h1834) h
          refine go_aload_n (pc' := 1838) rfl rfl rfl ?_
          refine go_iload_n (pc' := 1839) rfl rfl rfl ?_
          refine go_iconst (pc' := 1840) (v := (nI 0)) rfl rfl rfl ?_
          obtain ⟨r_1840, I_1840, q_1840, h⟩ := o_b2E h
          refine go_callV (pc' := 1843) (B' := (0, 0)) (st' := [.inl r_1840]) rfl rfl (Or.inl (by decide)) rfl rfl (o_kdE g27) (md_100 (by omega) (o_kdE g27) q_1840) rfl rfl rfl ?_
          refine go_iload_n (pc' := 1844) rfl rfl rfl ?_
          refine go_icmp_ne (pt := 1862) (pc' := 1847) rfl rfl rfl (fun h1844 => ?_) (fun h1844 => ?_)
          · replace h := o_f h1844 h
            exact jn1862 I_1840 R_1830 z12_1811 h_z12_1811 z13_1811 h_z13_1811 z14_1811 h_z14_1811 z15_1811 h_z15_1811 h
          · replace h := o_t (Decidable.of_not_not h1844) h
            refine go_aload_n (pc' := 1848) rfl rfl rfl ?_
            refine go_iload_n (pc' := 1849) rfl rfl rfl ?_
            refine go_iconst (pc' := 1850) (v := (nI 1)) rfl rfl rfl ?_
            obtain ⟨r_1850, I_1850, q_1850, h⟩ := o_b2E h
            refine go_callV (pc' := 1853) (B' := (0, 0)) (st' := [.inl r_1850]) rfl rfl (Or.inl (by decide)) rfl rfl (o_kdE g27) (md_100 (by omega) (o_kdE g27) q_1850) rfl rfl rfl ?_
            refine go_iload (pc' := 1855) rfl rfl rfl ?_
            refine go_icmp_ne (pt := 1862) (pc' := 1858) rfl rfl rfl (fun h1855 => ?_) (fun h1855 => ?_)
            · replace h := o_f h1855 h
              exact jn1862 I_1850 R_1830 z12_1811 h_z12_1811 z13_1811 h_z13_1811 z14_1811 h_z14_1811 z15_1811 h_z15_1811 h
            · replace h := o_t (Decidable.of_not_not h1855) h
              refine go_iconst (pc' := 1859) (v := (nI 1)) rfl rfl rfl ?_
              refine go_goto (pc' := 1863) rfl rfl ?_
              exact jn1863 (nI 1) I_1850 R_1830 z12_1811 h_z12_1811 z13_1811 h_z13_1811 z14_1811 h_z14_1811 z15_1811 h_z15_1811 h
    refine go_if_ne (pt := 1526) (pc' := 1512) rfl rfl rfl (fun h1509 => ?_) (fun h1509 => ?_)
    · replace h := o_f h1509 h
      refine go_iload_n (pc' := 1527) rfl rfl rfl ?_
      refine go_iconst (pc' := 1528) (v := (nI 1)) rfl rfl rfl ?_
      refine go_icmp_ne (pt := 1583) (pc' := 1531) rfl rfl rfl (fun h1528 => ?_) (fun h1528 => ?_)
      · replace h := o_f h1528 h
        refine go_iload_n (pc' := 1584) rfl rfl rfl ?_
        refine go_iconst (pc' := 1585) (v := (nI 2)) rfl rfl rfl ?_
        refine go_icmp_ne (pt := 1718) (pc' := 1588) rfl rfl rfl (fun h1585 => ?_) (fun h1585 => ?_)
        · replace h := o_f h1585 h
          refine go_aload (pc' := 1720) rfl rfl rfl ?_
          refine go_iload (pc' := 1722) rfl rfl rfl ?_
          refine go_iload (pc' := 1724) rfl rfl rfl ?_
          obtain ⟨r_1724, I_1724, q_1724, h⟩ := o_b2E h
          refine go_callS (pc' := 1727) (B' := (11, 55)) (st' := [.inl r_1724]) rfl rfl (Or.inl (by decide)) rfl rfl trivial (md_119 (by omega) q_1724) rfl rfl rfl ?_
          refine go_istore (pc' := 1729) (lo' := [some (.inr (.inr a0)), some (.inl a1), some (.inl a2), some (.inl a3), some (.inr (.inr a4)), some (.inr (.inr n_3)), some (.inr (.inr n_1315)), some (.inr (.inr n_1356)), some (.inr (.inr n_1386)), some (.inr (.inr n_1416)), some (.inl x10_1455), some (.inl r_1724), none, none, none, none]) rfl rfl rfl ?_
          refine go_iconst (pc' := 1730) (v := (nI 0)) rfl rfl rfl ?_
          refine go_istore (pc' := 1732) (lo' := [some (.inr (.inr a0)), some (.inl a1), some (.inl a2), some (.inl a3), some (.inr (.inr a4)), some (.inr (.inr n_3)), some (.inr (.inr n_1315)), some (.inr (.inr n_1356)), some (.inr (.inr n_1386)), some (.inr (.inr n_1416)), some (.inl x10_1455), some (.inl r_1724), some (.inl (nI 0)), none, none, none]) rfl rfl rfl ?_
          refine go_iconst (pc' := 1733) (v := (nI 0)) rfl rfl rfl ?_
          refine go_istore (pc' := 1735) (lo' := [some (.inr (.inr a0)), some (.inl a1), some (.inl a2), some (.inl a3), some (.inr (.inr a4)), some (.inr (.inr n_3)), some (.inr (.inr n_1315)), some (.inr (.inr n_1356)), some (.inr (.inr n_1386)), some (.inr (.inr n_1416)), some (.inl x10_1455), some (.inl r_1724), some (.inl (nI 0)), some (.inl (nI 0)), none, none]) rfl rfl rfl ?_
          obtain ⟨q1735, hl1735, hc1735_1811⟩ := o_s1E h
          have ex1735_1811 : ∀ (w11_1811 : Int32) (Ix_1811 : ai_I) (z12_x1811 : Option ai_V) (h_z12_x1811 : ai_isL z12_x1811 = false) (z13_x1811 : Option ai_V) (h_z13_x1811 : ai_isL z13_x1811 = false), (w11_1811, Ix_1811) = q1735 → ai_Go si_t (23, false, 0, cd_122) (ai_Cl si_t si_ms e) (sp_Q (some (.inl r)) I1 J R1 G1) 1811 [some (.inr (.inr a0)), some (.inl a1), some (.inl a2), some (.inl a3), some (.inr (.inr a4)), some (.inr (.inr n_3)), some (.inr (.inr n_1315)), some (.inr (.inr n_1356)), some (.inr (.inr n_1386)), some (.inr (.inr n_1416)), some (.inl x10_1455), some (.inl w11_1811), z12_x1811, z13_x1811, none, none] [] (11, 55) Ix_1811 J Rf G_1416 := by
            intro w11_1811 Ix_1811 z12_x1811 h_z12_x1811 z13_x1811 h_z13_x1811 hq
            have h : m_122_x1735_1811 a0 a1 a2 Rf n_3 G_1416 x10_1455 w11_1811 Ix_1811 = some (r, I1, R1, G1) := hc1735_1811 (w11_1811, Ix_1811) hq.symm
            unfold m_122_x1735_1811 at h
            exact jn1811 x10_1455 w11_1811 Ix_1811 z12_x1811 h_z12_x1811 z13_x1811 h_z13_x1811 none rfl none rfl h
          have lo1735 : ∀ n s, lp (fun s => m_122_b1735 a2 a4 n_3 G_1416 x10_1455 s.1 s.2.1 s.2.2.1 s.2.2.2) n s = some q1735 → (fun s => ai_Go si_t (23, false, 0, cd_122) (ai_Cl si_t si_ms e) (sp_Q (some (.inl r)) I1 J R1 G1) 1735 [some (.inr (.inr a0)), some (.inl a1), some (.inl a2), some (.inl a3), some (.inr (.inr a4)), some (.inr (.inr n_3)), some (.inr (.inr n_1315)), some (.inr (.inr n_1356)), some (.inr (.inr n_1386)), some (.inr (.inr n_1416)), some (.inl x10_1455), some (.inl s.1), some (.inl s.2.1), some (.inl s.2.2.1), none, none] [] (11, 55) s.2.2.2 J Rf G_1416) s := lp_go (fun s x1735 hx hk1735 => by
            obtain ⟨v11_1735, v12_1735, v13_1735, I_1735⟩ := s
            have h : m_122_b1735 a2 a4 n_3 G_1416 x10_1455 v11_1735 v12_1735 v13_1735 I_1735 = some x1735 := hx
            clear hx
            show ai_Go si_t (23, false, 0, cd_122) (ai_Cl si_t si_ms e) (sp_Q (some (.inl r)) I1 J R1 G1) 1735 [some (.inr (.inr a0)), some (.inl a1), some (.inl a2), some (.inl a3), some (.inr (.inr a4)), some (.inr (.inr n_3)), some (.inr (.inr n_1315)), some (.inr (.inr n_1356)), some (.inr (.inr n_1386)), some (.inr (.inr n_1416)), some (.inl x10_1455), some (.inl v11_1735), some (.inl v12_1735), some (.inl v13_1735), none, none] [] (11, 55) I_1735 J Rf G_1416
            unfold m_122_b1735 at h
            refine go_iload (pc' := 1737) rfl rfl rfl ?_
            refine go_iconst (pc' := 1738) (v := (nI 1)) rfl rfl rfl ?_
            refine go_iload_n (pc' := 1739) rfl rfl rfl ?_
            refine go_ishl (pc' := 1740) rfl rfl ?_
            refine go_icmp_ge (pt := 1811) (pc' := 1743) rfl rfl rfl (fun h1740 => ?_) (fun h1740 => ?_)
            · replace h := o_t h1740 h
              exact ex1735_1811 _ _ (some (.inl v12_1735)) rfl (some (.inl v13_1735)) rfl (lp_exitE h hk1735)
            · replace h := o_f h1740 h
              refine go_iload (pc' := 1745) rfl rfl rfl ?_
              refine go_bipush (pc' := 1747) (v := (nI 12)) rfl rfl rfl ?_
              refine go_icmp_ge (pt := 1811) (pc' := 1750) rfl rfl rfl (fun h1747 => ?_) (fun h1747 => ?_)
              · replace h := o_t h1747 h
                exact ex1735_1811 _ _ (some (.inl v12_1735)) rfl (some (.inl v13_1735)) rfl (lp_exitE h hk1735)
              · replace h := o_f h1747 h
                refine go_iload (pc' := 1752) rfl rfl rfl ?_
                obtain ⟨r_1752, q_1752, h⟩ := o_b1E h
                refine go_callS (pc' := 1755) (B' := (11, 55)) (st' := [.inl r_1752]) rfl rfl (Or.inl (by decide)) rfl rfl trivial (md_115 (by omega) q_1752) rfl rfl rfl ?_
                refine go_iload (pc' := 1757) rfl rfl rfl ?_
                refine go_icmp_ne (pt := 1805) (pc' := 1760) rfl rfl rfl (fun h1757 => ?_) (fun h1757 => ?_)
                · replace h := o_f h1757 h
                  obtain ⟨x13_1805, ex13_1805, h⟩ := o_b1E h
                  refine go_iincE (pc' := 1808) rfl rfl (y := (nI 1)) rfl ex13_1805 (lo' := [some (.inr (.inr a0)), some (.inl a1), some (.inl a2), some (.inl a3), some (.inr (.inr a4)), some (.inr (.inr n_3)), some (.inr (.inr n_1315)), some (.inr (.inr n_1356)), some (.inr (.inr n_1386)), some (.inr (.inr n_1416)), some (.inl x10_1455), some (.inl v11_1735), some (.inl v12_1735), some (.inl x13_1805), none, none]) rfl rfl ?_
                  refine go_goto (pc' := 1735) rfl rfl ?_
                  exact (lp_backE h hk1735 :)
                · replace h := o_t (Decidable.of_not_not h1757) h
                  refine go_aload (pc' := 1762) rfl rfl rfl ?_
                  obtain ⟨r_1762, I_1762, q_1762, h⟩ := o_b2E h
                  refine go_callS (pc' := 1765) (B' := (11, 55)) (st' := [.inl r_1762]) rfl rfl (Or.inl (by decide)) rfl rfl trivial (md_118 (by omega) q_1762) rfl rfl rfl ?_
                  refine go_iconst (pc' := 1766) (v := (nI 3)) rfl rfl rfl ?_
                  refine go_irem (pc' := 1767) rfl (by decide) rfl ?_
                  have jn1775 : m_122_j1775 a4 n_3 G_1416 v11_1735 v12_1735 v13_1735 I_1762 = some x1735 → ai_Go si_t (23, false, 0, cd_122) (ai_Cl si_t si_ms e) (sp_Q (some (.inl r)) I1 J R1 G1) 1775 [some (.inr (.inr a0)), some (.inl a1), some (.inl a2), some (.inl a3), some (.inr (.inr a4)), some (.inr (.inr n_3)), some (.inr (.inr n_1315)), some (.inr (.inr n_1356)), some (.inr (.inr n_1386)), some (.inr (.inr n_1416)), some (.inl x10_1455), some (.inl v11_1735), some (.inl v12_1735), some (.inl v13_1735), none, none] [] (11, 55) I_1762 J Rf G_1416 := by
                    intro h
                    unfold m_122_j1775 at h
                    refine go_aload (pc' := 1777) rfl rfl rfl ?_
                    refine go_aload (pc' := 1779) rfl rfl rfl ?_
                    refine go_iload (pc' := 1781) rfl rfl rfl ?_
                    refine go_iload (pc' := 1783) rfl rfl rfl ?_
                    obtain ⟨r_1783, I_1783, q_1783, h⟩ := o_b2E h
                    refine go_callS (pc' := 1786) (B' := (11, 55)) (st' := [.inl r_1783, .inr (.inr n_3)]) rfl rfl (Or.inl (by decide)) rfl rfl trivial (md_119 (by omega) q_1783) rfl rfl rfl ?_
                    refine go_aload (pc' := 1788) rfl rfl rfl ?_
                    obtain ⟨r_1788, I_1788, q_1788, h⟩ := o_b2E h
                    refine go_callS (pc' := 1791) (B' := (11, 55)) (st' := [.inl r_1788, .inl r_1783, .inr (.inr n_3)]) rfl rfl (Or.inl (by decide)) rfl rfl trivial (md_118 (by omega) q_1788) rfl rfl rfl ?_
                    refine go_bipush (pc' := 1793) (v := (nI 30)) rfl rfl rfl ?_
                    refine go_irem (pc' := 1794) rfl (by decide) rfl ?_
                    refine go_bipush (pc' := 1796) (v := (nI 15)) rfl rfl rfl ?_
                    refine go_isub (pc' := 1797) rfl rfl ?_
                    obtain ⟨r_1797, I_1797, q_1797, h⟩ := o_b2E h
                    refine go_callS (pc' := 1800) (B' := (11, 55)) (st' := [.inl r_1797]) rfl rfl (Or.inl (by decide)) rfl rfl trivial (md_119 (by omega) q_1797) rfl rfl rfl ?_
                    refine go_istore (pc' := 1802) (lo' := [some (.inr (.inr a0)), some (.inl a1), some (.inl a2), some (.inl a3), some (.inr (.inr a4)), some (.inr (.inr n_3)), some (.inr (.inr n_1315)), some (.inr (.inr n_1356)), some (.inr (.inr n_1386)), some (.inr (.inr n_1416)), some (.inl x10_1455), some (.inl r_1797), some (.inl v12_1735), some (.inl v13_1735), none, none]) rfl rfl rfl ?_
                    obtain ⟨x12_1802, ex12_1802, h⟩ := o_b1E h
                    refine go_iincE (pc' := 1805) rfl rfl (y := (nI 1)) rfl ex12_1802 (lo' := [some (.inr (.inr a0)), some (.inl a1), some (.inl a2), some (.inl a3), some (.inr (.inr a4)), some (.inr (.inr n_3)), some (.inr (.inr n_1315)), some (.inr (.inr n_1356)), some (.inr (.inr n_1386)), some (.inr (.inr n_1416)), some (.inl x10_1455), some (.inl r_1797), some (.inl x12_1802), some (.inl v13_1735), none, none]) rfl rfl ?_
                    obtain ⟨x13_1805, ex13_1805, h⟩ := o_b1E h
                    refine go_iincE (pc' := 1808) rfl rfl (y := (nI 1)) rfl ex13_1805 (lo' := [some (.inr (.inr a0)), some (.inl a1), some (.inl a2), some (.inl a3), some (.inr (.inr a4)), some (.inr (.inr n_3)), some (.inr (.inr n_1315)), some (.inr (.inr n_1356)), some (.inr (.inr n_1386)), some (.inr (.inr n_1416)), some (.inl x10_1455), some (.inl r_1797), some (.inl x12_1802), some (.inl x13_1805), none, none]) rfl rfl ?_
                    refine go_goto (pc' := 1735) rfl rfl ?_
                    exact (lp_backE h hk1735 :)
                  refine go_if_gt (pt := 1775) (pc' := 1770) rfl rfl rfl (fun h1767 => ?_) (fun h1767 => ?_)
                  · replace h := o_t h1767 h
                    exact jn1775  h
                  · replace h := o_f h1767 h
                    refine go_iload (pc' := 1772) rfl rfl rfl ?_
                    refine go_if_ne (pt := 1805) (pc' := 1775) rfl rfl rfl (fun h1772 => ?_) (fun h1772 => ?_)
                    · replace h := o_f h1772 h
                      obtain ⟨x13_1805, ex13_1805, h⟩ := o_b1E h
                      refine go_iincE (pc' := 1808) rfl rfl (y := (nI 1)) rfl ex13_1805 (lo' := [some (.inr (.inr a0)), some (.inl a1), some (.inl a2), some (.inl a3), some (.inr (.inr a4)), some (.inr (.inr n_3)), some (.inr (.inr n_1315)), some (.inr (.inr n_1356)), some (.inr (.inr n_1386)), some (.inr (.inr n_1416)), some (.inl x10_1455), some (.inl v11_1735), some (.inl v12_1735), some (.inl x13_1805), none, none]) rfl rfl ?_
                      refine go_goto (pc' := 1735) rfl rfl ?_
                      exact (lp_backE h hk1735 :)
                    · replace h := o_t (Decidable.of_not_not h1772) h
                      exact jn1775  h)
          exact lo1735 _ (r_1724, (nI 0), (nI 0), I_1724) hl1735 
        · replace h := o_t (Decidable.of_not_not h1585) h
          refine go_iconst (pc' := 1589) (v := (nI 2)) rfl rfl rfl ?_
          refine go_aload (pc' := 1591) rfl rfl rfl ?_
          obtain ⟨r_1591, I_1591, q_1591, h⟩ := o_b2E h
          refine go_callS (pc' := 1594) (B' := (11, 55)) (st' := [.inl r_1591, .inl (nI 2)]) rfl rfl (Or.inl (by decide)) rfl rfl trivial (md_118 (by omega) q_1591) rfl rfl rfl ?_
          refine go_iconst (pc' := 1595) (v := (nI 4)) rfl rfl rfl ?_
          refine go_iload_n (pc' := 1596) rfl rfl rfl ?_
          refine go_iconst (pc' := 1597) (v := (nI 1)) rfl rfl rfl ?_
          refine go_isub (pc' := 1598) rfl rfl ?_
          refine go_min (pc' := 1601) rfl rfl (Nat.le_of_ble_eq_true rfl) rfl ?_
          obtain ⟨r_1598, er_1598, h⟩ := o_b1E h
          refine go_ndI er_1598 ?_
          obtain ⟨g28, h⟩ := o_gE h
          refine go_irem (pc' := 1602) rfl (o_nzIE g28) rfl ?_
          refine go_iadd (pc' := 1603) rfl rfl ?_
          obtain ⟨x12_1603, ex12_1603, h⟩ := o_b1E h
          refine go_ndI ex12_1603 ?_
          refine go_istore (pc' := 1605) (lo' := [some (.inr (.inr a0)), some (.inl a1), some (.inl a2), some (.inl a3), some (.inr (.inr a4)), some (.inr (.inr n_3)), some (.inr (.inr n_1315)), some (.inr (.inr n_1356)), some (.inr (.inr n_1386)), some (.inr (.inr n_1416)), some (.inl x10_1455), some (.inl r_1503), some (.inl x12_1603), none, none, none]) rfl rfl rfl ?_
          refine go_iload (pc' := 1607) rfl rfl rfl ?_
          refine go_iconst (pc' := 1608) (v := (nI 1)) rfl rfl rfl ?_
          refine go_isub (pc' := 1609) rfl rfl ?_
          obtain ⟨x10_1609, ex10_1609, h⟩ := o_b1E h
          refine go_ndI ex10_1609 ?_
          refine go_istore (pc' := 1611) (lo' := [some (.inr (.inr a0)), some (.inl a1), some (.inl a2), some (.inl a3), some (.inr (.inr a4)), some (.inr (.inr n_3)), some (.inr (.inr n_1315)), some (.inr (.inr n_1356)), some (.inr (.inr n_1386)), some (.inr (.inr n_1416)), some (.inl x10_1609), some (.inl r_1503), some (.inl x12_1603), none, none, none]) rfl rfl rfl ?_
          refine go_aload (pc' := 1613) rfl rfl rfl ?_
          refine go_iload (pc' := 1615) rfl rfl rfl ?_
          refine go_iload (pc' := 1617) rfl rfl rfl ?_
          obtain ⟨r_1617, I_1617, q_1617, h⟩ := o_b2E h
          refine go_callS (pc' := 1620) (B' := (11, 55)) (st' := [.inl r_1617]) rfl rfl (Or.inl (by decide)) rfl rfl trivial (md_119 (by omega) q_1617) rfl rfl rfl ?_
          refine go_istore (pc' := 1622) (lo' := [some (.inr (.inr a0)), some (.inl a1), some (.inl a2), some (.inl a3), some (.inr (.inr a4)), some (.inr (.inr n_3)), some (.inr (.inr n_1315)), some (.inr (.inr n_1356)), some (.inr (.inr n_1386)), some (.inr (.inr n_1416)), some (.inl x10_1609), some (.inl r_1617), some (.inl x12_1603), none, none, none]) rfl rfl rfl ?_
          refine go_iconst (pc' := 1623) (v := (nI 0)) rfl rfl rfl ?_
          refine go_istore (pc' := 1625) (lo' := [some (.inr (.inr a0)), some (.inl a1), some (.inl a2), some (.inl a3), some (.inr (.inr a4)), some (.inr (.inr n_3)), some (.inr (.inr n_1315)), some (.inr (.inr n_1356)), some (.inr (.inr n_1386)), some (.inr (.inr n_1416)), some (.inl x10_1609), some (.inl r_1617), some (.inl x12_1603), some (.inl (nI 0)), none, none]) rfl rfl rfl ?_
          obtain ⟨q1625, hl1625, hc1625_1715⟩ := o_s1E h
          have ex1625_1715 : ∀ (w11_1715 : Int32) (Ix_1715 : ai_I) (z13_x1715 : Option ai_V) (h_z13_x1715 : ai_isL z13_x1715 = false) (z14_x1715 : Option ai_V) (h_z14_x1715 : ai_isL z14_x1715 = false) (z15_x1715 : Option ai_V) (h_z15_x1715 : ai_isL z15_x1715 = false), (w11_1715, Ix_1715) = q1625 → ai_Go si_t (23, false, 0, cd_122) (ai_Cl si_t si_ms e) (sp_Q (some (.inl r)) I1 J R1 G1) 1715 [some (.inr (.inr a0)), some (.inl a1), some (.inl a2), some (.inl a3), some (.inr (.inr a4)), some (.inr (.inr n_3)), some (.inr (.inr n_1315)), some (.inr (.inr n_1356)), some (.inr (.inr n_1386)), some (.inr (.inr n_1416)), some (.inl x10_1609), some (.inl w11_1715), some (.inl x12_1603), z13_x1715, z14_x1715, z15_x1715] [] (11, 55) Ix_1715 J Rf G_1416 := by
            intro w11_1715 Ix_1715 z13_x1715 h_z13_x1715 z14_x1715 h_z14_x1715 z15_x1715 h_z15_x1715 hq
            have h : m_122_x1625_1715 a0 a1 a2 Rf n_3 G_1416 x10_1609 w11_1715 Ix_1715 = some (r, I1, R1, G1) := hc1625_1715 (w11_1715, Ix_1715) hq.symm
            unfold m_122_x1625_1715 at h
            refine go_goto (pc' := 1811) rfl rfl ?_
            exact jn1811 x10_1609 w11_1715 Ix_1715 (some (.inl x12_1603)) rfl z13_x1715 h_z13_x1715 z14_x1715 h_z14_x1715 z15_x1715 h_z15_x1715 h
          have lo1625 : ∀ n s, lp (fun s => m_122_b1625 a2 a4 n_3 G_1416 x12_1603 s.1 s.2.1 s.2.2) n s = some q1625 → (fun s => ∀ (z14_1625 : Option ai_V) (h_z14_1625 : ai_isL z14_1625 = false) (z15_1625 : Option ai_V) (h_z15_1625 : ai_isL z15_1625 = false), ai_Go si_t (23, false, 0, cd_122) (ai_Cl si_t si_ms e) (sp_Q (some (.inl r)) I1 J R1 G1) 1625 [some (.inr (.inr a0)), some (.inl a1), some (.inl a2), some (.inl a3), some (.inr (.inr a4)), some (.inr (.inr n_3)), some (.inr (.inr n_1315)), some (.inr (.inr n_1356)), some (.inr (.inr n_1386)), some (.inr (.inr n_1416)), some (.inl x10_1609), some (.inl s.1), some (.inl x12_1603), some (.inl s.2.1), z14_1625, z15_1625] [] (11, 55) s.2.2 J Rf G_1416) s := lp_go (fun s x1625 hx hk1625 => by
            obtain ⟨v11_1625, v13_1625, I_1625⟩ := s
            intro z14_1625 h_z14_1625 z15_1625 h_z15_1625
            have h : m_122_b1625 a2 a4 n_3 G_1416 x12_1603 v11_1625 v13_1625 I_1625 = some x1625 := hx
            clear hx
            show ai_Go si_t (23, false, 0, cd_122) (ai_Cl si_t si_ms e) (sp_Q (some (.inl r)) I1 J R1 G1) 1625 [some (.inr (.inr a0)), some (.inl a1), some (.inl a2), some (.inl a3), some (.inr (.inr a4)), some (.inr (.inr n_3)), some (.inr (.inr n_1315)), some (.inr (.inr n_1356)), some (.inr (.inr n_1386)), some (.inr (.inr n_1416)), some (.inl x10_1609), some (.inl v11_1625), some (.inl x12_1603), some (.inl v13_1625), z14_1625, z15_1625] [] (11, 55) I_1625 J Rf G_1416
            unfold m_122_b1625 at h
            refine go_iload (pc' := 1627) rfl rfl rfl ?_
            refine go_iload_n (pc' := 1628) rfl rfl rfl ?_
            refine go_icmp_ge (pt := 1715) (pc' := 1631) rfl rfl rfl (fun h1628 => ?_) (fun h1628 => ?_)
            · replace h := o_t h1628 h
              exact ex1625_1715 _ _ (some (.inl v13_1625)) rfl z14_1625 h_z14_1625 z15_1625 h_z15_1625 (lp_exitE h hk1625)
            · replace h := o_f h1628 h
              refine go_iload (pc' := 1633) rfl rfl rfl ?_
              refine go_iload (pc' := 1635) rfl rfl rfl ?_
              refine go_iconst (pc' := 1636) (v := (nI 1)) rfl rfl rfl ?_
              refine go_isub (pc' := 1637) rfl rfl ?_
              have jn1653 : ∀ (t0_1653 : Int32) (I_1653 : ai_I) (z14_1653 : Option ai_V) (h_z14_1653 : ai_isL z14_1653 = false) (z15_1653 : Option ai_V) (h_z15_1653 : ai_isL z15_1653 = false), m_122_j1653 a4 n_3 G_1416 x12_1603 v11_1625 v13_1625 t0_1653 I_1653 = some x1625 → ai_Go si_t (23, false, 0, cd_122) (ai_Cl si_t si_ms e) (sp_Q (some (.inl r)) I1 J R1 G1) 1653 [some (.inr (.inr a0)), some (.inl a1), some (.inl a2), some (.inl a3), some (.inr (.inr a4)), some (.inr (.inr n_3)), some (.inr (.inr n_1315)), some (.inr (.inr n_1356)), some (.inr (.inr n_1386)), some (.inr (.inr n_1416)), some (.inl x10_1609), some (.inl v11_1625), some (.inl x12_1603), some (.inl v13_1625), z14_1653, z15_1653] [.inl t0_1653] (11, 55) I_1653 J Rf G_1416 := by
                intro t0_1653 I_1653 z14_1653 h_z14_1653 z15_1653 h_z15_1653 h
                unfold m_122_j1653 at h
                refine go_istore (pc' := 1655) (lo' := [some (.inr (.inr a0)), some (.inl a1), some (.inl a2), some (.inl a3), some (.inr (.inr a4)), some (.inr (.inr n_3)), some (.inr (.inr n_1315)), some (.inr (.inr n_1356)), some (.inr (.inr n_1386)), some (.inr (.inr n_1416)), some (.inl x10_1609), some (.inl v11_1625), some (.inl x12_1603), some (.inl v13_1625), some (.inl t0_1653), z15_1653]) rfl rfl rfl ?_
                refine go_iload (pc' := 1657) rfl rfl rfl ?_
                refine go_iload (pc' := 1659) rfl rfl rfl ?_
                refine go_iconst (pc' := 1660) (v := (nI 1)) rfl rfl rfl ?_
                refine go_isub (pc' := 1661) rfl rfl ?_
                have jn1689 : ∀ (t0_1689 : Int32) (I_1689 : ai_I) (z15_1689 : Option ai_V) (h_z15_1689 : ai_isL z15_1689 = false), m_122_j1689 n_3 G_1416 v11_1625 v13_1625 t0_1653 t0_1689 I_1689 = some x1625 → ai_Go si_t (23, false, 0, cd_122) (ai_Cl si_t si_ms e) (sp_Q (some (.inl r)) I1 J R1 G1) 1689 [some (.inr (.inr a0)), some (.inl a1), some (.inl a2), some (.inl a3), some (.inr (.inr a4)), some (.inr (.inr n_3)), some (.inr (.inr n_1315)), some (.inr (.inr n_1356)), some (.inr (.inr n_1386)), some (.inr (.inr n_1416)), some (.inl x10_1609), some (.inl v11_1625), some (.inl x12_1603), some (.inl v13_1625), some (.inl t0_1653), z15_1689] [.inl t0_1689] (11, 55) I_1689 J Rf G_1416 := by
                  intro t0_1689 I_1689 z15_1689 h_z15_1689 h
                  unfold m_122_j1689 at h
                  refine go_istore (pc' := 1691) (lo' := [some (.inr (.inr a0)), some (.inl a1), some (.inl a2), some (.inl a3), some (.inr (.inr a4)), some (.inr (.inr n_3)), some (.inr (.inr n_1315)), some (.inr (.inr n_1356)), some (.inr (.inr n_1386)), some (.inr (.inr n_1416)), some (.inl x10_1609), some (.inl v11_1625), some (.inl x12_1603), some (.inl v13_1625), some (.inl t0_1653), some (.inl t0_1689)]) rfl rfl rfl ?_
                  refine go_aload (pc' := 1693) rfl rfl rfl ?_
                  refine go_aload (pc' := 1695) rfl rfl rfl ?_
                  refine go_iload (pc' := 1697) rfl rfl rfl ?_
                  refine go_iload (pc' := 1699) rfl rfl rfl ?_
                  obtain ⟨r_1699, I_1699, q_1699, h⟩ := o_b2E h
                  refine go_callS (pc' := 1702) (B' := (11, 55)) (st' := [.inl r_1699, .inr (.inr n_3)]) rfl rfl (Or.inl (by decide)) rfl rfl trivial (md_119 (by omega) q_1699) rfl rfl rfl ?_
                  refine go_iload (pc' := 1704) rfl rfl rfl ?_
                  obtain ⟨r_1704, I_1704, q_1704, h⟩ := o_b2E h
                  refine go_callS (pc' := 1707) (B' := (11, 55)) (st' := [.inl r_1704]) rfl rfl (Or.inl (by decide)) rfl rfl trivial (md_119 (by omega) q_1704) rfl rfl rfl ?_
                  refine go_istore (pc' := 1709) (lo' := [some (.inr (.inr a0)), some (.inl a1), some (.inl a2), some (.inl a3), some (.inr (.inr a4)), some (.inr (.inr n_3)), some (.inr (.inr n_1315)), some (.inr (.inr n_1356)), some (.inr (.inr n_1386)), some (.inr (.inr n_1416)), some (.inl x10_1609), some (.inl r_1704), some (.inl x12_1603), some (.inl v13_1625), some (.inl t0_1653), some (.inl t0_1689)]) rfl rfl rfl ?_
                  obtain ⟨x13_1709, ex13_1709, h⟩ := o_b1E h
                  refine go_iincE (pc' := 1712) rfl rfl (y := (nI 1)) rfl ex13_1709 (lo' := [some (.inr (.inr a0)), some (.inl a1), some (.inl a2), some (.inl a3), some (.inr (.inr a4)), some (.inr (.inr n_3)), some (.inr (.inr n_1315)), some (.inr (.inr n_1356)), some (.inr (.inr n_1386)), some (.inr (.inr n_1416)), some (.inl x10_1609), some (.inl r_1704), some (.inl x12_1603), some (.inl x13_1709), some (.inl t0_1653), some (.inl t0_1689)]) rfl rfl ?_
                  refine go_goto (pc' := 1625) rfl rfl ?_
                  exact (lp_backE h hk1625 (some (.inl t0_1653)) rfl (some (.inl t0_1689)) rfl :)
                refine go_icmp_ge (pt := 1671) (pc' := 1664) rfl rfl rfl (fun h1661 => ?_) (fun h1661 => ?_)
                · replace h := o_t h1661 h
                  refine go_iload (pc' := 1673) rfl rfl rfl ?_
                  refine go_iconst (pc' := 1674) (v := (nI 1)) rfl rfl rfl ?_
                  refine go_iadd (pc' := 1675) rfl rfl ?_
                  refine go_aload (pc' := 1677) rfl rfl rfl ?_
                  obtain ⟨r_1677, I_1677, q_1677, h⟩ := o_b2E h
                  refine go_callS (pc' := 1680) (B' := (11, 55)) (st' := [.inl r_1677, .inl (t0_1653 + (nI 1))]) rfl rfl (Or.inl (by decide)) rfl rfl trivial (md_118 (by omega) q_1677) rfl rfl rfl ?_
                  refine go_iload (pc' := 1682) rfl rfl rfl ?_
                  refine go_iconst (pc' := 1683) (v := (nI 1)) rfl rfl rfl ?_
                  refine go_isub (pc' := 1684) rfl rfl ?_
                  obtain ⟨g29, h⟩ := o_gE h
                  refine go_irem (pc' := 1685) rfl (o_nzIE g29) rfl ?_
                  refine go_iadd (pc' := 1686) rfl rfl ?_
                  refine go_iload (pc' := 1688) rfl rfl rfl ?_
                  obtain ⟨g30, h⟩ := o_gE h
                  refine go_irem (pc' := 1689) rfl (o_nzIE g30) rfl ?_
                  exact jn1689 (((t0_1653 + (nI 1)) + (r_1677 - r_1677 / (x12_1603 - (nI 1)) * (x12_1603 - (nI 1)))) - ((t0_1653 + (nI 1)) + (r_1677 - r_1677 / (x12_1603 - (nI 1)) * (x12_1603 - (nI 1)))) / x12_1603 * x12_1603) I_1677 z15_1653 h_z15_1653 h
                · replace h := o_f h1661 h
                  refine go_iload (pc' := 1666) rfl rfl rfl ?_
                  refine go_iconst (pc' := 1667) (v := (nI 1)) rfl rfl rfl ?_
                  refine go_iadd (pc' := 1668) rfl rfl ?_
                  refine go_goto (pc' := 1689) rfl rfl ?_
                  exact jn1689 (v13_1625 + (nI 1)) I_1653 z15_1653 h_z15_1653 h
              refine go_icmp_ge (pt := 1645) (pc' := 1640) rfl rfl rfl (fun h1637 => ?_) (fun h1637 => ?_)
              · replace h := o_t h1637 h
                refine go_aload (pc' := 1647) rfl rfl rfl ?_
                obtain ⟨r_1647, I_1647, q_1647, h⟩ := o_b2E h
                refine go_callS (pc' := 1650) (B' := (11, 55)) (st' := [.inl r_1647]) rfl rfl (Or.inl (by decide)) rfl rfl trivial (md_118 (by omega) q_1647) rfl rfl rfl ?_
                refine go_iload (pc' := 1652) rfl rfl rfl ?_
                obtain ⟨g31, h⟩ := o_gE h
                refine go_irem (pc' := 1653) rfl (o_nzIE g31) rfl ?_
                exact jn1653 (r_1647 - r_1647 / x12_1603 * x12_1603) I_1647 z14_1625 h_z14_1625 z15_1625 h_z15_1625 h
              · replace h := o_f h1637 h
                refine go_iload (pc' := 1642) rfl rfl rfl ?_
                refine go_goto (pc' := 1653) rfl rfl ?_
                exact jn1653 v13_1625 I_1625 z14_1625 h_z14_1625 z15_1625 h_z15_1625 h)
          exact lo1625 _ (r_1617, (nI 0), I_1617) hl1625 none rfl none rfl
      · replace h := o_t (Decidable.of_not_not h1528) h
        refine go_aload (pc' := 1533) rfl rfl rfl ?_
        refine go_iload (pc' := 1535) rfl rfl rfl ?_
        refine go_iload (pc' := 1537) rfl rfl rfl ?_
        obtain ⟨r_1537, I_1537, q_1537, h⟩ := o_b2E h
        refine go_callS (pc' := 1540) (B' := (11, 55)) (st' := [.inl r_1537]) rfl rfl (Or.inl (by decide)) rfl rfl trivial (md_119 (by omega) q_1537) rfl rfl rfl ?_
        refine go_istore (pc' := 1542) (lo' := [some (.inr (.inr a0)), some (.inl a1), some (.inl a2), some (.inl a3), some (.inr (.inr a4)), some (.inr (.inr n_3)), some (.inr (.inr n_1315)), some (.inr (.inr n_1356)), some (.inr (.inr n_1386)), some (.inr (.inr n_1416)), some (.inl x10_1455), some (.inl r_1537), none, none, none, none]) rfl rfl rfl ?_
        refine go_iconst (pc' := 1543) (v := (nI 0)) rfl rfl rfl ?_
        refine go_istore (pc' := 1545) (lo' := [some (.inr (.inr a0)), some (.inl a1), some (.inl a2), some (.inl a3), some (.inr (.inr a4)), some (.inr (.inr n_3)), some (.inr (.inr n_1315)), some (.inr (.inr n_1356)), some (.inr (.inr n_1386)), some (.inr (.inr n_1416)), some (.inl x10_1455), some (.inl r_1537), some (.inl (nI 0)), none, none, none]) rfl rfl rfl ?_
        obtain ⟨q1545, hl1545, hc1545_1580⟩ := o_s1E h
        have ex1545_1580 : ∀ (w11_1580 : Int32) (Ix_1580 : ai_I) (z12_x1580 : Option ai_V) (h_z12_x1580 : ai_isL z12_x1580 = false), (w11_1580, Ix_1580) = q1545 → ai_Go si_t (23, false, 0, cd_122) (ai_Cl si_t si_ms e) (sp_Q (some (.inl r)) I1 J R1 G1) 1580 [some (.inr (.inr a0)), some (.inl a1), some (.inl a2), some (.inl a3), some (.inr (.inr a4)), some (.inr (.inr n_3)), some (.inr (.inr n_1315)), some (.inr (.inr n_1356)), some (.inr (.inr n_1386)), some (.inr (.inr n_1416)), some (.inl x10_1455), some (.inl w11_1580), z12_x1580, none, none, none] [] (11, 55) Ix_1580 J Rf G_1416 := by
          intro w11_1580 Ix_1580 z12_x1580 h_z12_x1580 hq
          have h : m_122_x1545_1580 a0 a1 a2 Rf n_3 G_1416 x10_1455 w11_1580 Ix_1580 = some (r, I1, R1, G1) := hc1545_1580 (w11_1580, Ix_1580) hq.symm
          unfold m_122_x1545_1580 at h
          refine go_goto (pc' := 1811) rfl rfl ?_
          exact jn1811 x10_1455 w11_1580 Ix_1580 z12_x1580 h_z12_x1580 none rfl none rfl none rfl h
        have lo1545 : ∀ n s, lp (fun s => m_122_b1545 a2 a4 n_3 G_1416 x10_1455 s.1 s.2.1 s.2.2) n s = some q1545 → (fun s => ai_Go si_t (23, false, 0, cd_122) (ai_Cl si_t si_ms e) (sp_Q (some (.inl r)) I1 J R1 G1) 1545 [some (.inr (.inr a0)), some (.inl a1), some (.inl a2), some (.inl a3), some (.inr (.inr a4)), some (.inr (.inr n_3)), some (.inr (.inr n_1315)), some (.inr (.inr n_1356)), some (.inr (.inr n_1386)), some (.inr (.inr n_1416)), some (.inl x10_1455), some (.inl s.1), some (.inl s.2.1), none, none, none] [] (11, 55) s.2.2 J Rf G_1416) s := lp_go (fun s x1545 hx hk1545 => by
          obtain ⟨v11_1545, v12_1545, I_1545⟩ := s
          have h : m_122_b1545 a2 a4 n_3 G_1416 x10_1455 v11_1545 v12_1545 I_1545 = some x1545 := hx
          clear hx
          show ai_Go si_t (23, false, 0, cd_122) (ai_Cl si_t si_ms e) (sp_Q (some (.inl r)) I1 J R1 G1) 1545 [some (.inr (.inr a0)), some (.inl a1), some (.inl a2), some (.inl a3), some (.inr (.inr a4)), some (.inr (.inr n_3)), some (.inr (.inr n_1315)), some (.inr (.inr n_1356)), some (.inr (.inr n_1386)), some (.inr (.inr n_1416)), some (.inl x10_1455), some (.inl v11_1545), some (.inl v12_1545), none, none, none] [] (11, 55) I_1545 J Rf G_1416
          unfold m_122_b1545 at h
          refine go_iload (pc' := 1547) rfl rfl rfl ?_
          refine go_iload (pc' := 1549) rfl rfl rfl ?_
          refine go_iload_n (pc' := 1550) rfl rfl rfl ?_
          refine go_imul (pc' := 1551) rfl rfl ?_
          refine go_icmp_ge (pt := 1580) (pc' := 1554) rfl rfl rfl (fun h1551 => ?_) (fun h1551 => ?_)
          · replace h := o_t h1551 h
            exact ex1545_1580 _ _ (some (.inl v12_1545)) rfl (lp_exitE h hk1545)
          · replace h := o_f h1551 h
            refine go_aload (pc' := 1556) rfl rfl rfl ?_
            refine go_iload (pc' := 1558) rfl rfl rfl ?_
            refine go_aload (pc' := 1560) rfl rfl rfl ?_
            obtain ⟨r_1560, I_1560, q_1560, h⟩ := o_b2E h
            refine go_callS (pc' := 1563) (B' := (11, 55)) (st' := [.inl r_1560, .inl v11_1545, .inr (.inr n_3)]) rfl rfl (Or.inl (by decide)) rfl rfl trivial (md_118 (by omega) q_1560) rfl rfl rfl ?_
            refine go_bipush (pc' := 1565) (v := (nI 41)) rfl rfl rfl ?_
            refine go_irem (pc' := 1566) rfl (by decide) rfl ?_
            refine go_bipush (pc' := 1568) (v := (nI 20)) rfl rfl rfl ?_
            refine go_isub (pc' := 1569) rfl rfl ?_
            obtain ⟨r_1569, I_1569, q_1569, h⟩ := o_b2E h
            refine go_callS (pc' := 1572) (B' := (11, 55)) (st' := [.inl r_1569]) rfl rfl (Or.inl (by decide)) rfl rfl trivial (md_119 (by omega) q_1569) rfl rfl rfl ?_
            refine go_istore (pc' := 1574) (lo' := [some (.inr (.inr a0)), some (.inl a1), some (.inl a2), some (.inl a3), some (.inr (.inr a4)), some (.inr (.inr n_3)), some (.inr (.inr n_1315)), some (.inr (.inr n_1356)), some (.inr (.inr n_1386)), some (.inr (.inr n_1416)), some (.inl x10_1455), some (.inl r_1569), some (.inl v12_1545), none, none, none]) rfl rfl rfl ?_
            obtain ⟨x12_1574, ex12_1574, h⟩ := o_b1E h
            refine go_iincE (pc' := 1577) rfl rfl (y := (nI 1)) rfl ex12_1574 (lo' := [some (.inr (.inr a0)), some (.inl a1), some (.inl a2), some (.inl a3), some (.inr (.inr a4)), some (.inr (.inr n_3)), some (.inr (.inr n_1315)), some (.inr (.inr n_1356)), some (.inr (.inr n_1386)), some (.inr (.inr n_1416)), some (.inl x10_1455), some (.inl r_1569), some (.inl x12_1574), none, none, none]) rfl rfl ?_
            refine go_goto (pc' := 1545) rfl rfl ?_
            exact (lp_backE h hk1545 :))
        exact lo1545 _ (r_1537, (nI 0), I_1537) hl1545 
    · replace h := o_t (Decidable.of_not_not h1509) h
      refine go_aload (pc' := 1514) rfl rfl rfl ?_
      refine go_iload (pc' := 1516) rfl rfl rfl ?_
      refine go_iload (pc' := 1518) rfl rfl rfl ?_
      obtain ⟨r_1518, I_1518, q_1518, h⟩ := o_b2E h
      refine go_callS (pc' := 1521) (B' := (11, 55)) (st' := [.inl r_1518]) rfl rfl (Or.inl (by decide)) rfl rfl trivial (md_119 (by omega) q_1518) rfl rfl rfl ?_
      refine go_istore (pc' := 1523) (lo' := [some (.inr (.inr a0)), some (.inl a1), some (.inl a2), some (.inl a3), some (.inr (.inr a4)), some (.inr (.inr n_3)), some (.inr (.inr n_1315)), some (.inr (.inr n_1356)), some (.inr (.inr n_1386)), some (.inr (.inr n_1416)), some (.inl x10_1455), some (.inl r_1518), none, none, none, none]) rfl rfl rfl ?_
      refine go_goto (pc' := 1811) rfl rfl ?_
      exact jn1811 x10_1455 r_1518 I_1518 none rfl none rfl none rfl none rfl h
  refine go_if_ne (pt := 1473) (pc' := 1468) rfl rfl rfl (fun h1465 => ?_) (fun h1465 => ?_)
  · replace h := o_f h1465 h
    refine go_iload_n (pc' := 1474) rfl rfl rfl ?_
    refine go_iconst (pc' := 1475) (v := (nI 1)) rfl rfl rfl ?_
    refine go_icmp_ne (pt := 1483) (pc' := 1478) rfl rfl rfl (fun h1475 => ?_) (fun h1475 => ?_)
    · replace h := o_f h1475 h
      refine go_iload_n (pc' := 1484) rfl rfl rfl ?_
      refine go_iconst (pc' := 1485) (v := (nI 2)) rfl rfl rfl ?_
      refine go_icmp_ne (pt := 1493) (pc' := 1488) rfl rfl rfl (fun h1485 => ?_) (fun h1485 => ?_)
      · replace h := o_f h1485 h
        refine go_aload (pc' := 1495) rfl rfl rfl ?_
        exact jn1495 n_1416 h
      · replace h := o_t (Decidable.of_not_not h1485) h
        refine go_aload (pc' := 1490) rfl rfl rfl ?_
        refine go_goto (pc' := 1495) rfl rfl ?_
        exact jn1495 n_1386 h
    · replace h := o_t (Decidable.of_not_not h1475) h
      refine go_aload (pc' := 1480) rfl rfl rfl ?_
      refine go_goto (pc' := 1495) rfl rfl ?_
      exact jn1495 n_1356 h
  · replace h := o_t (Decidable.of_not_not h1465) h
    refine go_aload (pc' := 1470) rfl rfl rfl ?_
    refine go_goto (pc' := 1495) rfl rfl ?_
    exact jn1495 n_1315 h
