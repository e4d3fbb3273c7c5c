/-! The tables of part 05 against lw_tbl. -/
def si_aTs : List Cond := lw_tbl.filter goodWord
def si_fchk (o : Nat) : List (Nat × Nat × Nat × Nat × Bool) → List Nat → Bool
  | [], _ => true
  | _ :: _, [] => false
  | r :: l, q :: ps => decide (lw_tbl[q]? = some (Cond.fieldLink (si_RS o) r.1 (si_RS r.2.1) (si_T r.2.1 r.2.2.1).2.1 (si_T r.2.1 r.2.2.1).2.2.1)) && (decide (r.2.1 < 11 ∧ r.2.2.1 < si_N r.2.1 ∧ (si_T r.2.1 r.2.2.1).1 = si_RS r.2.1 ∧ (si_T r.2.1 r.2.2.1).2.2.2 = r.2.2.2.2 ∧ si_ty r.2.1 r.2.2.1 = r.2.2.2.1) && si_fchk o l ps)
set_option maxRecDepth 100000 in
theorem si_fk_0 : si_fchk 0 (si_fd 0) (si_fdp 0) = true := by decide +kernel
set_option maxRecDepth 100000 in
theorem si_fk_1 : si_fchk 1 (si_fd 1) (si_fdp 1) = true := by decide +kernel
set_option maxRecDepth 100000 in
theorem si_fk_2 : si_fchk 2 (si_fd 2) (si_fdp 2) = true := by decide +kernel
set_option maxRecDepth 100000 in
theorem si_fk_3 : si_fchk 3 (si_fd 3) (si_fdp 3) = true := by decide +kernel
set_option maxRecDepth 100000 in
theorem si_fk_4 : si_fchk 4 (si_fd 4) (si_fdp 4) = true := by decide +kernel
set_option maxRecDepth 100000 in
theorem si_fk_5 : si_fchk 5 (si_fd 5) (si_fdp 5) = true := by decide +kernel
set_option maxRecDepth 100000 in
theorem si_fk_6 : si_fchk 6 (si_fd 6) (si_fdp 6) = true := by decide +kernel
set_option maxRecDepth 100000 in
theorem si_fk_7 : si_fchk 7 (si_fd 7) (si_fdp 7) = true := by decide +kernel
set_option maxRecDepth 100000 in
theorem si_fk_8 : si_fchk 8 (si_fd 8) (si_fdp 8) = true := by decide +kernel
set_option maxRecDepth 100000 in
theorem si_fk_9 : si_fchk 9 (si_fd 9) (si_fdp 9) = true := by decide +kernel
set_option maxRecDepth 100000 in
theorem si_fk_10 : si_fchk 10 (si_fd 10) (si_fdp 10) = true := by decide +kernel
set_option maxRecDepth 100000 in
theorem si_fk_20 : si_fchk 20 (si_fd 20) (si_fdp 20) = true := by decide +kernel
/-- of each method: does the row of the table fit its name (code, what comes back, arguments, receiver) -/
def si_kfit (y : Nat) (n : MethodName × ByteArray × Option FieldType) (q : ai_F × Nat × Nat × Nat) : Bool :=
  decide (n.1.cls = si_RS q.1.1 ∧ q.1.2.1 = decide (n.1.name = "<init>") ∧ n.1.cls ≠ "java/lang/invoke/MethodHandle" ∧ n.1.cls ≠ "java/lang/invoke/VarHandle" ∧ (parseMethodDescriptor n.1.desc).map (fun d => d.parameters.length) = some (q.2.2.1 - (if q.2.2.2 = 0 then 0 else 1)) ∧ (q.2.2.2 = 0 ∨ (q.2.2.2 = q.1.1 + 1 ∧ 1 ≤ q.2.2.1 ∧ q.1.1 < 11)) ∧ (q.1.2.1 = true → n.2.2 = none ∧ ¬ q.2.2.2 = 0) ∧ q.2.1 ≤ 16 ∧ plainName n.1.cls = true) && (match q.1.2.2.1, n.2.2 with
    | 0, some .int => true
    | 1, some .long => true
    | 2, some (.object _) => true
    | 2, some (.array _) => true
    | 3, some .boolean => true
    | 4, some .byte => true
    | 5, some .char => true
    | 9, none => true
    | _, _ => false)
def si_beq (a b : ByteArray) : Bool := a.data.toList == b.data.toList
theorem si_beq_eq {a b : ByteArray} (h : si_beq a b = true) : a = b := by
  have h1 : a.data.toList = b.data.toList := by simpa [si_beq] using h
  have h2 : a.data = b.data := Array.toList_inj.mp h1
  cases a
  cases b
  simp at h2
  rw [h2]
def si_isC (w : Option Cond) (y : MethodName) (b : ByteArray) (x : Nat) (r : Option FieldType) : Bool := match w with
  | some (.code y2 b2 x2 r2) => decide (y2 = y ∧ x2 = x ∧ r2 = r) && si_beq b2 b
  | _ => false
theorem si_isC_eq {w : Option Cond} {y : MethodName} {b : ByteArray} {x : Nat} {r : Option FieldType} (h : si_isC w y b x r = true) : w = some (.code y b x r) := by
  unfold si_isC at h
  split at h
  · simp only [Bool.and_eq_true, decide_eq_true_eq] at h
    obtain ⟨⟨h1, h2, h3⟩, h4⟩ := h
    rw [h1, h2, h3, si_beq_eq h4]
  · cases h
def si_kchk1 (y : Nat) (ps : Nat × Nat × Nat × Nat) : Bool := match si_nq y, si_mq y with
  | some n, some q => si_isC lw_tbl[ps.1]? n.1 n.2.1 q.2.1 n.2.2 && (decide (lw_tbl[ps.2.2.2]? = some (Cond.initialized n.1.cls)) && (si_kfit y n q && (match q.2.2.2 with
    | 0 => decide (lw_tbl[ps.2.1]? = some (Cond.static n.1))
    | _ => decide (lw_tbl[ps.2.1]? = some (Cond.instanceMethod n.1)) && (q.1.2.1 || decide (lw_tbl[ps.2.2.1]? = some (Cond.selects n.1.cls n.1 n.1))))))
  | _, _ => false
def si_kchk : Nat → List (Nat × Nat × Nat × Nat) → Bool
  | _, [] => true
  | y, p :: l => si_kchk1 y p && si_kchk (y + 1) l
def si_kp_0 : List (Nat × Nat × Nat × Nat) := [(184, 183, 0, 46), (667, 665, 666, 46), (801, 799, 800, 46), (850, 848, 849, 46), (773, 771, 772, 46), (754, 753, 11, 46), (680, 679, 9, 46), (672, 671, 7, 46), (676, 675, 8, 46), (702, 701, 10, 46), (683, 682, 0, 46), (758, 757, 12, 46), (777, 776, 15, 46), (781, 780, 16, 46), (785, 784, 17, 46), (790, 789, 18, 46), (762, 761, 13, 46), (766, 765, 14, 46), (769, 768, 0, 46), (300, 299, 0, 51)]
set_option maxRecDepth 100000 in
theorem si_kk_0 : si_kchk 0 si_kp_0 = true := by decide +kernel
def si_kp_1 : List (Nat × Nat × Nat × Nat) := [(242, 241, 0, 48), (440, 438, 439, 48), (444, 443, 2, 48), (449, 448, 0, 48), (456, 454, 455, 48), (562, 560, 561, 48), (226, 225, 0, 47), (805, 803, 804, 47), (810, 809, 20, 47), (855, 854, 28, 47), (815, 814, 21, 47), (902, 901, 38, 47), (820, 819, 22, 47), (827, 826, 23, 47), (831, 830, 24, 47), (838, 837, 25, 47), (842, 841, 26, 47), (846, 845, 27, 47), (859, 858, 29, 47), (864, 863, 30, 47)]
set_option maxRecDepth 100000 in
theorem si_kk_1 : si_kchk 20 si_kp_1 = true := by decide +kernel
def si_kp_2 : List (Nat × Nat × Nat × Nat) := [(869, 868, 31, 47), (874, 873, 32, 47), (878, 877, 33, 47), (891, 890, 36, 47), (882, 881, 34, 47), (886, 885, 35, 47), (895, 894, 37, 47), (332, 331, 0, 53), (425, 424, 0, 54), (436, 435, 0, 54), (460, 459, 0, 54), (609, 608, 0, 54), (472, 471, 0, 54), (469, 468, 0, 54), (478, 477, 0, 54), (475, 474, 0, 54), (287, 286, 0, 50), (571, 569, 570, 50), (619, 618, 5, 50), (589, 588, 4, 50)]
set_option maxRecDepth 100000 in
theorem si_kk_2 : si_kchk 40 si_kp_2 = true := by decide +kernel
def si_kp_3 : List (Nat × Nat × Nat × Nat) := [(583, 581, 582, 50), (601, 599, 600, 50), (579, 577, 578, 50), (614, 612, 613, 50), (72, 71, 0, 41), (413, 411, 412, 41), (405, 403, 404, 41), (909, 907, 908, 41), (628, 626, 627, 41), (264, 263, 0, 49), (526, 525, 0, 49), (523, 522, 0, 49), (518, 516, 517, 49), (540, 538, 539, 49), (531, 529, 530, 49), (535, 534, 3, 49), (557, 555, 556, 49), (552, 550, 551, 49), (79, 78, 0, 42), (128, 126, 127, 42)]
set_option maxRecDepth 100000 in
theorem si_kk_3 : si_kchk 60 si_kp_3 = true := by decide +kernel
def si_kp_4 : List (Nat × Nat × Nat × Nat) := [(136, 134, 135, 42), (143, 141, 142, 42), (147, 146, 0, 42), (160, 159, 1, 42), (915, 913, 914, 42), (433, 431, 432, 42), (429, 427, 428, 42), (508, 506, 507, 42), (492, 490, 491, 42), (488, 486, 487, 42), (465, 463, 464, 42), (417, 415, 416, 42), (421, 419, 420, 42), (316, 315, 0, 52), (64, 63, 0, 40), (655, 653, 654, 40), (659, 658, 6, 40), (663, 661, 662, 40), (796, 795, 19, 40), (400, 398, 399, 40)]
set_option maxRecDepth 100000 in
theorem si_kk_4 : si_kchk 80 si_kp_4 = true := by decide +kernel
def si_kp_5 : List (Nat × Nat × Nat × Nat) := [(409, 407, 408, 40), (484, 482, 483, 40), (496, 494, 495, 40), (500, 498, 499, 40), (504, 502, 503, 40), (514, 512, 513, 40), (544, 542, 543, 40), (548, 546, 547, 40), (567, 565, 566, 40), (597, 595, 596, 40), (606, 604, 605, 40), (624, 622, 623, 40), (452, 451, 0, 40), (150, 149, 0, 40), (898, 897, 0, 40), (153, 152, 0, 45), (132, 131, 0, 43), (651, 650, 0, 39), (631, 630, 0, 39), (644, 643, 0, 39)]
set_option maxRecDepth 100000 in
theorem si_kk_5 : si_kchk 100 si_kp_5 = true := by decide +kernel
def si_kp_6 : List (Nat × Nat × Nat × Nat) := [(641, 640, 0, 39), (932, 931, 0, 39), (635, 634, 0, 39), (919, 918, 0, 39), (942, 941, 0, 39), (922, 921, 0, 39), (928, 927, 0, 39), (935, 934, 0, 39), (925, 924, 0, 39), (938, 937, 0, 39), (949, 948, 0, 39), (946, 945, 0, 39), (952, 951, 0, 39)]
set_option maxRecDepth 100000 in
theorem si_kk_6 : si_kchk 120 si_kp_6 = true := by decide +kernel
/-- a call's link -/
def si_mchk1 (o : Nat) (r : Nat × Nat × Nat) (q : Nat) : Bool := match r.2.2 with
  | 9 => (match r.2.1 with
    | 999 => decide (lw_tbl[q]? = some (Cond.methodLink (si_RS o) r.1 Lib.objectInit))
    | 995 => decide (lw_tbl[q]? = some (Cond.methodLink (si_RS o) r.1 Lib.Math.max.name))
    | 994 => decide (lw_tbl[q]? = some (Cond.methodLink (si_RS o) r.1 Lib.Math.min.name))
    | 993 => decide (lw_tbl[q]? = some (Cond.methodLink (si_RS o) r.1 Lib.Math.abs.name))
    | 998 => decide (lw_tbl[q]? = some (Cond.methodLink (si_RS o) r.1 arraycopyName))
    | 997 => decide (lw_tbl[q]? = some (Cond.methodLink (si_RS o) r.1 ⟨"java/lang/String", "length", "()I"⟩) ∧ o = 0)
    | 996 => decide (lw_tbl[q]? = some (Cond.methodLink (si_RS o) r.1 ⟨"java/lang/String", "charAt", "(I)C"⟩) ∧ o = 0)
    | _ => false)
  | md => decide (r.2.1 < 133 ∧ md ≤ 5) && (match si_nq r.2.1, si_mq r.2.1 with
    | some n, some u => (if md < 3 then decide (lw_tbl[q]? = some (Cond.methodLink (si_RS o) r.1 n.1)) else decide (lw_tbl[q]? = some (Cond.methodLinkNest (si_RS o) r.1 n.1 "PricedBases"))) && decide ((md % 3 = 0 → ¬ u.2.2.2 = 0 ∧ u.1.2.1 = false) ∧ (md % 3 = 1 → u.2.2.2 = 0) ∧ (md % 3 = 2 → u.1.2.1 = true))
    | _, _ => false)
def si_mchk (o : Nat) : List (Nat × Nat × Nat) → List Nat → Bool
  | [], _ => true
  | _ :: _, [] => false
  | r :: l, q :: ps => si_mchk1 o r q && si_mchk o l ps
set_option maxRecDepth 100000 in
theorem si_mk_0 : si_mchk 0 (si_mh 0) (si_mhp 0) = true := by decide +kernel
set_option maxRecDepth 100000 in
theorem si_mk_1 : si_mchk 1 (si_mh 1) (si_mhp 1) = true := by decide +kernel
set_option maxRecDepth 100000 in
theorem si_mk_2 : si_mchk 2 (si_mh 2) (si_mhp 2) = true := by decide +kernel
set_option maxRecDepth 100000 in
theorem si_mk_3 : si_mchk 3 (si_mh 3) (si_mhp 3) = true := by decide +kernel
set_option maxRecDepth 100000 in
theorem si_mk_4 : si_mchk 4 (si_mh 4) (si_mhp 4) = true := by decide +kernel
set_option maxRecDepth 100000 in
theorem si_mk_5 : si_mchk 5 (si_mh 5) (si_mhp 5) = true := by decide +kernel
set_option maxRecDepth 100000 in
theorem si_mk_6 : si_mchk 6 (si_mh 6) (si_mhp 6) = true := by decide +kernel
set_option maxRecDepth 100000 in
theorem si_mk_7 : si_mchk 7 (si_mh 7) (si_mhp 7) = true := by decide +kernel
set_option maxRecDepth 100000 in
theorem si_mk_8 : si_mchk 8 (si_mh 8) (si_mhp 8) = true := by decide +kernel
set_option maxRecDepth 100000 in
theorem si_mk_9 : si_mchk 9 (si_mh 9) (si_mhp 9) = true := by decide +kernel
set_option maxRecDepth 100000 in
theorem si_mk_10 : si_mchk 10 (si_mh 10) (si_mhp 10) = true := by decide +kernel
set_option maxRecDepth 100000 in
theorem si_mk_20 : si_mchk 20 (si_mh 20) (si_mhp 20) = true := by decide +kernel
set_option maxRecDepth 100000 in
theorem si_mk_21 : si_mchk 21 (si_mh 21) (si_mhp 21) = true := by decide +kernel
set_option maxRecDepth 100000 in
theorem si_mk_23 : si_mchk 23 (si_mh 23) (si_mhp 23) = true := by decide +kernel
def si_cchk1 (o : Nat) (r : Nat × ai_V) (q : Nat) : Bool := match r.2 with
  | .inl x => decide (lw_tbl[q]? = some (Cond.constant (si_RS o) r.1 x))
  | .inr (.inl x) => decide (lw_tbl[q]? = some (Cond.constantLong (si_RS o) r.1 x))
  | .inr (.inr k) => decide (o = 0 ∧ 2000 ≤ k) && (match si_nth si_txs (k - 2000) with
    | some u => decide (u.1 = r.1 ∧ lw_tbl[q]? = some (Cond.stringRef (si_RS o) r.1 u.2))
    | none => false)
def si_cchk (o : Nat) : List (Nat × ai_V) → List Nat → Bool
  | [], _ => true
  | _ :: _, [] => false
  | r :: l, q :: ps => si_cchk1 o r q && si_cchk o l ps
set_option maxRecDepth 100000 in
theorem si_ck_0 : si_cchk 0 (si_ct 0) (si_ctp 0) = true := by decide +kernel
set_option maxRecDepth 100000 in
theorem si_ck_2 : si_cchk 2 (si_ct 2) (si_ctp 2) = true := by decide +kernel
set_option maxRecDepth 100000 in
theorem si_ck_3 : si_cchk 3 (si_ct 3) (si_ctp 3) = true := by decide +kernel
set_option maxRecDepth 100000 in
theorem si_ck_5 : si_cchk 5 (si_ct 5) (si_ctp 5) = true := by decide +kernel
set_option maxRecDepth 100000 in
theorem si_ck_7 : si_cchk 7 (si_ct 7) (si_ctp 7) = true := by decide +kernel
set_option maxRecDepth 100000 in
theorem si_ck_8 : si_cchk 8 (si_ct 8) (si_ctp 8) = true := by decide +kernel
set_option maxRecDepth 100000 in
theorem si_ck_10 : si_cchk 10 (si_ct 10) (si_ctp 10) = true := by decide +kernel
set_option maxRecDepth 100000 in
theorem si_ck_21 : si_cchk 21 (si_ct 21) (si_ctp 21) = true := by decide +kernel
set_option maxRecDepth 100000 in
theorem si_ck_22 : si_cchk 22 (si_ct 22) (si_ctp 22) = true := by decide +kernel
set_option maxRecDepth 100000 in
theorem si_ck_23 : si_cchk 23 (si_ct 23) (si_ctp 23) = true := by decide +kernel
def si_nchk (o : Nat) : List (Nat × Nat) → List Nat → Bool
  | [], _ => true
  | _ :: _, [] => false
  | r :: l, q :: ps => decide (lw_tbl[q]? = some (Cond.classLink (si_RS o) r.1 (si_RS r.2)) ∧ r.2 < 11) && si_nchk o l ps
set_option maxRecDepth 100000 in
theorem si_nk_3 : si_nchk 3 (si_kt 3) (si_ktp 3) = true := by decide +kernel
set_option maxRecDepth 100000 in
theorem si_nk_6 : si_nchk 6 (si_kt 6) (si_ktp 6) = true := by decide +kernel
set_option maxRecDepth 100000 in
theorem si_nk_10 : si_nchk 10 (si_kt 10) (si_ktp 10) = true := by decide +kernel
set_option maxRecDepth 100000 in
theorem si_nk_21 : si_nchk 21 (si_kt 21) (si_ktp 21) = true := by decide +kernel
set_option maxRecDepth 100000 in
theorem si_nk_23 : si_nchk 23 (si_kt 23) (si_ktp 23) = true := by decide +kernel
def si_lp (k : Nat) : List Nat := match k with
  | 0 => [198, 200, 202, 204, 206, 208, 210, 212, 214, 216, 218]
  | 1 => [303, 305, 307, 309]
  | 2 => [251, 253, 255, 257]
  | 3 => [233, 235]
  | 4 => [339, 341, 343, 345, 347]
  | 5 => [291, 293]
  | 6 => [169, 171, 173, 175, 177]
  | 7 => [274, 276, 278, 280]
  | 8 => [111, 113, 115, 117, 119, 121]
  | 9 => [321, 323, 325]
  | 10 => [366, 368, 370, 372, 374, 376, 378, 380, 382, 384, 386, 388, 390, 392, 394]
  | _ => []
def si_lp2 (k : Nat) : Nat × Nat := match k with
  | 0 => (181, 46)
  | 1 => (297, 51)
  | 2 => (239, 48)
  | 3 => (223, 47)
  | 4 => (329, 53)
  | 5 => (284, 50)
  | 6 => (69, 41)
  | 7 => (261, 49)
  | 8 => (76, 42)
  | 9 => (313, 52)
  | 10 => (61, 40)
  | _ => (0, 0)
def si_gchk1 (k : Nat) : Nat → List Nat → Bool
  | j, q :: ps => decide (lw_tbl[q]? = some (u_lay (si_RS k) (si_T k) j) ∧ parseFieldDescriptor (si_T k j).2.2.1 = some (si_ft k j) ∧ si_code (si_ft k j) = si_ty k j ∧ si_ty k j ≤ 3) && si_gchk1 k (j + 1) ps
  | j, [] => decide (si_N k ≤ j)
def si_gchk (k : Nat) : Bool := si_gchk1 k 0 (si_lp k) && (decide (lw_tbl[(si_lp2 k).1]? = some (Cond.instantiable (si_RS k) (si_N k)) ∧ lw_tbl[(si_lp2 k).2]? = some (Cond.initialized (si_RS k))) && (List.range (si_N k)).all (fun x => (List.range (si_N k)).all (fun y => decide (x = y ∨ (si_T k x).2.1 ≠ (si_T k y).2.1))))
theorem si_cl_0 : si_cl[0]? = some (si_RS 0, si_T 0, si_N 0) := rfl
theorem si_cl_1 : si_cl[1]? = some (si_RS 1, si_T 1, si_N 1) := rfl
theorem si_cl_2 : si_cl[2]? = some (si_RS 2, si_T 2, si_N 2) := rfl
theorem si_cl_3 : si_cl[3]? = some (si_RS 3, si_T 3, si_N 3) := rfl
theorem si_cl_4 : si_cl[4]? = some (si_RS 4, si_T 4, si_N 4) := rfl
theorem si_cl_5 : si_cl[5]? = some (si_RS 5, si_T 5, si_N 5) := rfl
theorem si_cl_6 : si_cl[6]? = some (si_RS 6, si_T 6, si_N 6) := rfl
theorem si_cl_7 : si_cl[7]? = some (si_RS 7, si_T 7, si_N 7) := rfl
theorem si_cl_8 : si_cl[8]? = some (si_RS 8, si_T 8, si_N 8) := rfl
theorem si_cl_9 : si_cl[9]? = some (si_RS 9, si_T 9, si_N 9) := rfl
theorem si_cl_10 : si_cl[10]? = some (si_RS 10, si_T 10, si_N 10) := rfl
set_option maxRecDepth 100000 in
theorem si_gk_0 : si_gchk 0 = true := by decide +kernel
set_option maxRecDepth 100000 in
theorem si_gk_1 : si_gchk 1 = true := by decide +kernel
set_option maxRecDepth 100000 in
theorem si_gk_2 : si_gchk 2 = true := by decide +kernel
set_option maxRecDepth 100000 in
theorem si_gk_3 : si_gchk 3 = true := by decide +kernel
set_option maxRecDepth 100000 in
theorem si_gk_4 : si_gchk 4 = true := by decide +kernel
set_option maxRecDepth 100000 in
theorem si_gk_5 : si_gchk 5 = true := by decide +kernel
set_option maxRecDepth 100000 in
theorem si_gk_6 : si_gchk 6 = true := by decide +kernel
set_option maxRecDepth 100000 in
theorem si_gk_7 : si_gchk 7 = true := by decide +kernel
set_option maxRecDepth 100000 in
theorem si_gk_8 : si_gchk 8 = true := by decide +kernel
set_option maxRecDepth 100000 in
theorem si_gk_9 : si_gchk 9 = true := by decide +kernel
set_option maxRecDepth 100000 in
theorem si_gk_10 : si_gchk 10 = true := by decide +kernel
set_option maxRecDepth 100000 in
theorem si_w_0 : Cond.code Lib.objectInit ⟨#[0xb1]⟩ 1 none ∈ lw_tbl := List.mem_of_getElem? (i := 67) (by decide +kernel)
set_option maxRecDepth 100000 in
theorem si_w_1 : Cond.instanceMethod Lib.objectInit ∈ lw_tbl := List.mem_of_getElem? (i := 66) (by decide +kernel)
set_option maxRecDepth 100000 in
theorem si_w_2 : Cond.native arraycopyName ∈ lw_tbl := List.mem_of_getElem? (i := 574) (by decide +kernel)
set_option maxRecDepth 100000 in
theorem si_w_3 : Cond.static arraycopyName ∈ lw_tbl := List.mem_of_getElem? (i := 573) (by decide +kernel)
set_option maxRecDepth 100000 in
theorem si_w_4 : Cond.initialized "java/lang/System" ∈ lw_tbl := List.mem_of_getElem? (i := 55) (by decide +kernel)
set_option maxRecDepth 100000 in
theorem si_w_5 : Cond.arrayClass .byte ∈ lw_tbl := List.mem_of_getElem? (i := 221) (by decide +kernel)
set_option maxRecDepth 100000 in
theorem si_w_6 : Cond.arrayClass .int ∈ lw_tbl := List.mem_of_getElem? (i := 124) (by decide +kernel)
set_option maxRecDepth 100000 in
theorem si_w_7 : Cond.arrayClass .long ∈ lw_tbl := List.mem_of_getElem? (i := 350) (by decide +kernel)
set_option maxRecDepth 100000 in
theorem si_w_8 : Cond.arrayOver (.object "PricedBases$Valuation") ∈ lw_tbl := List.mem_of_getElem? (i := 75) (by decide +kernel)
set_option maxRecDepth 100000 in
theorem si_w_9 : Cond.initialized "java/lang/Math" ∈ lw_tbl := List.mem_of_getElem? (i := 44) (by decide +kernel)
set_option maxRecDepth 100000 in
theorem si_w_10 : Cond.static Lib.Math.max.name ∈ lw_tbl := List.mem_of_getElem? (i := 138) (by decide +kernel)
set_option maxRecDepth 100000 in
theorem si_w_11 : Cond.static Lib.Math.min.name ∈ lw_tbl := List.mem_of_getElem? (i := 637) (by decide +kernel)
set_option maxRecDepth 100000 in
theorem si_w_12 : Cond.static Lib.Math.abs.name ∈ lw_tbl := List.mem_of_getElem? (i := 646) (by decide +kernel)
set_option maxRecDepth 100000 in
theorem si_w_13 : Cond.initialized "java/lang/String" ∈ lw_tbl := List.mem_of_getElem? (i := 56) (by decide +kernel)
set_option maxRecDepth 100000 in
theorem si_w_14 : Cond.instanceMethod ⟨"java/lang/String", "length", "()I"⟩ ∈ lw_tbl := List.mem_of_getElem? (i := 704) (by decide +kernel)
set_option maxRecDepth 100000 in
theorem si_w_15 : Cond.selects "java/lang/String" ⟨"java/lang/String", "length", "()I"⟩ ⟨"java/lang/String", "length", "()I"⟩ ∈ lw_tbl := List.mem_of_getElem? (i := 705) (by decide +kernel)
set_option maxRecDepth 100000 in
theorem si_w_16 : Cond.instanceMethod ⟨"java/lang/String", "charAt", "(I)C"⟩ ∈ lw_tbl := List.mem_of_getElem? (i := 714) (by decide +kernel)
set_option maxRecDepth 100000 in
theorem si_w_17 : Cond.selects "java/lang/String" ⟨"java/lang/String", "charAt", "(I)C"⟩ ⟨"java/lang/String", "charAt", "(I)C"⟩ ∈ lw_tbl := List.mem_of_getElem? (i := 715) (by decide +kernel)
set_option maxRecDepth 100000 in
theorem si_wm_0 : Cond.code Lib.Math.max.name Lib.Math.max.code 2 (some .int) ∈ lw_tbl := List.mem_of_getElem? (i := 139) (si_isC_eq (by decide +kernel))
set_option maxRecDepth 100000 in
theorem si_wm_1 : Cond.code Lib.Math.min.name Lib.Math.min.code 2 (some .int) ∈ lw_tbl := List.mem_of_getElem? (i := 638) (si_isC_eq (by decide +kernel))
set_option maxRecDepth 100000 in
theorem si_wm_2 : Cond.code Lib.Math.abs.name Lib.Math.abs.code 1 (some .int) ∈ lw_tbl := List.mem_of_getElem? (i := 647) (si_isC_eq (by decide +kernel))
set_option maxRecDepth 100000 in
theorem si_wt_0 : Cond.code ⟨"java/lang/String", "length", "()I"⟩ prog_17_method_54_code 1 (some .int) ∈ lw_tbl := List.mem_of_getElem? (i := 706) (si_isC_eq (by decide +kernel))
set_option maxRecDepth 100000 in
theorem si_wt_1 : Cond.code ⟨"java/lang/String", "charAt", "(I)C"⟩ prog_17_method_56_code 2 (some .char) ∈ lw_tbl := List.mem_of_getElem? (i := 716) (si_isC_eq (by decide +kernel))
