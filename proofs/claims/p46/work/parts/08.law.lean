/-! The law: its start out of the Statement; whole_start out of one run of the abstract machine. The rows up to lw_At are the skeleton's. -/
def R_law : String := "PricedBasesLaw"
def lw_P (b : Addr) (xs : List Int32) (args : Array Value) (s : State) : Prop := args = #[.ref b] ∧ s.IntsAt b xs ∧ xs.length ≤ 260 ∧ (Jvm.Cond.and given_1 narrow_1).before args s = true
def lw_Q (_ : Array Value) (s : State) (o : Outcome) (t : State) : Prop := o = .returned (some (.int 1)) ∧ Framed s o t [] 600000 7302250
def lw_Z (below : List Frame) (a : Array Value) (s : State) : State → Prop := fun t => ∃ o, t.status = .running ∧ Ended t below o ∧ lw_Q a s o t
/-- the law's own end, with 1 on the stack, nothing written that was there before, its room as the claim has it -/
theorem lw_ret {p : Program} {l : Launch} {e : Env} {s : State} {m : MethodId} {below : List Frame} {meth : Method} {c : Code} {b : Nat} (hx : p.tables.exec = Jvm.exec) (hb : c.code = code) (hr : meth.sig.returnType = ret) (hlocks : meth.locks = false) {pc : Nat} {H : Heap} {ls : Array Slot} (hdg : decode code pc = .ok (.ireturn, 1)) : W p l e room_1 s m #[Value.ref b] below meth c H [] 600000 7302250 (lw_Z below #[Value.ref b] s) (F0 m pc ls [.int 1]) := by
  intro T hT X
  obtain ⟨fs, hret, hrun, hended, hW, hframe⟩ := X.leave (v := some (.int 1)) (hlocks := hlocks) (fun h => by rw [hr] at h; cases h)
  have hmeth' : T.vm.method? m = some meth := X.method'
  refine ⟨T.setFrames fs, ?_, .returned (some (.int 1)), hrun, hended, rfl, ⟨_, rfl⟩, hW, hframe⟩
  jvm_step X.here [X.here.top, hx, hb, hdg, hmeth', hr, ret, narrow_b1]
  (try refine ⟨rfl, ?_⟩); (try refine ⟨rfl, ?_⟩)
  first | (intro acts; rw [hret _ acts rfl rfl rfl]) | rw [hret _ _ rfl rfl rfl]
  exact Steps.refl _
/-- what holds at the law's entry: the machine, the code, the tables' words (any of lw_tbl by 'hts w (by decide +kernel)'), the script of L ints xs at the cell b, what the Statement gives of the start (any of its parts by flat_of_before) -/
def lw_At (p : Program) (s : State) (m : MethodId) (meth : Method) (c : Code) (b L : Nat) (xs : Nat → Int32) : Prop :=
  p.tables.exec = Jvm.exec ∧ c.code = code ∧ meth.sig.returnType = ret ∧ c.maxLocals = 12 ∧ s.vm.findClass R_law = some m.cls ∧ (∀ w ∈ lw_tbl, w.before #[Value.ref b] s = true) ∧ va_X b L xs s s.heap ∧ b < s.heap.size ∧ meth.locks = false ∧ (Jvm.Cond.and given_1 narrow_1).before #[Value.ref b] s = true
def si_en (i : Nat) : Nat := (si_tx.getD i (0, [])).1
def si_nl : List Cond := flatC (Jvm.Cond.and given_1 narrow_1)
abbrev si_sv (i : Nat) : Term := .field (.string "PricedBases$Clauses" (si_en i)) "java/lang/String" "value" "[B"
set_option maxRecDepth 100000 in
theorem sl_ex : ∀ i, i < 15 → Cond.exactly (.string "PricedBases$Clauses" (si_en i)) "java/lang/String" ∈ si_nl := by decide +kernel
set_option maxRecDepth 100000 in
theorem sl_co : ∀ i, i < 15 → Cond.eq (.field (.string "PricedBases$Clauses" (si_en i)) "java/lang/String" "coder" "B") (.int 0) ∈ si_nl := by decide +kernel
set_option maxRecDepth 100000 in
theorem sl_ar : ∀ i, i < 15 → Cond.arrayOf (si_sv i) .byte ∈ si_nl := by decide +kernel
set_option maxRecDepth 100000 in
theorem sl_le : ∀ i, i < 15 → Cond.eq (.length (si_sv i)) (.int (Int32.ofNat (si_len.getD i 0))) ∈ si_nl := by decide +kernel
set_option maxRecDepth 100000 in
theorem sl_el : ∀ i, i < 15 → ∀ j, j < si_len.getD i 0 → Cond.eq (.elem (si_sv i) (.int (Int32.ofNat j))) (.int ((si_byt.getD i []).getD j 0)) ∈ si_nl := by decide +kernel
def sl_nt : List (Nat × Nat × Nat) := [(0, 1, 29), (0, 2, 39), (0, 3, 50), (0, 4, 61), (0, 5, 73), (0, 6, 89), (0, 7, 101), (0, 8, 117), (0, 9, 133), (0, 10, 149), (0, 11, 170), (0, 12, 190), (0, 13, 210), (0, 14, 227), (1, 2, 40), (1, 3, 51), (1, 4, 62), (1, 5, 74), (1, 6, 90), (1, 7, 102), (1, 8, 118), (1, 9, 134), (1, 10, 150), (1, 11, 171), (1, 12, 191), (1, 13, 211), (1, 14, 228), (2, 3, 52), (2, 4, 63), (2, 5, 75), (2, 6, 91), (2, 7, 103), (2, 8, 119), (2, 9, 135), (2, 10, 151), (2, 11, 172), (2, 12, 192), (2, 13, 212), (2, 14, 229), (3, 4, 64), (3, 5, 76), (3, 6, 92), (3, 7, 104), (3, 8, 120), (3, 9, 136), (3, 10, 152), (3, 11, 173), (3, 12, 193), (3, 13, 213), (3, 14, 230), (4, 5, 77), (4, 6, 93), (4, 7, 105), (4, 8, 121), (4, 9, 137), (4, 10, 153), (4, 11, 174), (4, 12, 194), (4, 13, 214), (4, 14, 231), (5, 6, 94), (5, 7, 106), (5, 8, 122), (5, 9, 138), (5, 10, 154), (5, 11, 175), (5, 12, 195), (5, 13, 215), (5, 14, 232), (6, 7, 107), (6, 8, 123), (6, 9, 139), (6, 10, 155), (6, 11, 176), (6, 12, 196), (6, 13, 216), (6, 14, 233), (7, 8, 124), (7, 9, 140), (7, 10, 156), (7, 11, 177), (7, 12, 197), (7, 13, 217), (7, 14, 234), (8, 9, 141), (8, 10, 157), (8, 11, 178), (8, 12, 198), (8, 13, 218), (8, 14, 235), (9, 10, 158), (9, 11, 179), (9, 12, 199), (9, 13, 219), (9, 14, 236), (10, 11, 180), (10, 12, 200), (10, 13, 220), (10, 14, 237), (11, 12, 201), (11, 13, 221), (11, 14, 238), (12, 13, 222), (12, 14, 239), (13, 14, 240)]
set_option maxRecDepth 100000 in
theorem sl_n1 : sl_nt.all (fun q => decide (si_nl[q.2.2]? = some (Cond.not (Cond.eq (.string "PricedBases$Clauses" (si_en q.1)) (.string "PricedBases$Clauses" (si_en q.2.1)))))) = true := by decide +kernel
set_option maxRecDepth 100000 in
theorem sl_n2 : (List.range 15).all (fun i => (List.range 15).all (fun j => decide (i = j) || (sl_nt.any (fun q => decide (q.1 = i ∧ q.2.1 = j)) || sl_nt.any (fun q => decide (q.1 = j ∧ q.2.1 = i))))) = true := by decide +kernel
theorem sl_n3 {i j : Nat} (h : sl_nt.any (fun q => decide (q.1 = i ∧ q.2.1 = j)) = true) : Cond.not (Cond.eq (.string "PricedBases$Clauses" (si_en i)) (.string "PricedBases$Clauses" (si_en j))) ∈ si_nl := by
  rw [List.any_eq_true] at h
  obtain ⟨q, hq, h2⟩ := h
  obtain ⟨h3, h4⟩ := of_decide_eq_true h2
  have h5 := sl_n1
  rw [List.all_eq_true] at h5
  have h6 := of_decide_eq_true (h5 q hq)
  rw [h3, h4] at h6
  exact List.mem_of_getElem? h6
theorem sl_ne : ∀ i, i < 15 → ∀ j, j < 15 → i ≠ j → Cond.not (Cond.eq (.string "PricedBases$Clauses" (si_en i)) (.string "PricedBases$Clauses" (si_en j))) ∈ si_nl ∨ Cond.not (Cond.eq (.string "PricedBases$Clauses" (si_en j)) (.string "PricedBases$Clauses" (si_en i))) ∈ si_nl := by
  intro i hi j hj hij
  have h := sl_n2
  rw [List.all_eq_true] at h
  have h2 := h i (List.mem_range.mpr hi)
  rw [List.all_eq_true] at h2
  have h3 := h2 j (List.mem_range.mpr hj)
  simp only [Bool.or_eq_true, decide_eq_true_eq] at h3
  rcases h3 with h3 | h3 | h3
  · exact absurd h3 hij
  · exact Or.inl (sl_n3 h3)
  · exact Or.inr (sl_n3 h3)
set_option maxRecDepth 100000 in
theorem sl_cs : Cond.eq (.static "java/lang/String" "COMPACT_STRINGS" "Z") (.int 1) ∈ si_nl := by decide +kernel
set_option maxRecDepth 100000 in
theorem sl_si : Cond.isRef (.static "jdk/internal/util/Preconditions" "SIOOBE_FORMATTER" "Ljava/util/function/BiFunction;") ∈ si_nl := by decide +kernel
set_option maxRecDepth 100000 in
theorem sl_l0 : Cond.laysStatic "java/lang/String" "COMPACT_STRINGS" "Z" ∈ lw_tbl := List.mem_of_getElem? (i := 712) (by decide +kernel)
set_option maxRecDepth 100000 in
theorem sl_l1 : Cond.laysStatic "jdk/internal/util/Preconditions" "SIOOBE_FORMATTER" "Ljava/util/function/BiFunction;" ∈ lw_tbl := List.mem_of_getElem? (i := 728) (by decide +kernel)
set_option maxRecDepth 100000 in
theorem sl_i1 : Cond.initialized "jdk/internal/util/Preconditions" ∈ lw_tbl := List.mem_of_getElem? (i := 58) (by decide +kernel)
set_option maxRecDepth 100000 in
theorem sl_sr_0 : Cond.stringRef (si_RS 0) 96 "price" ∈ lw_tbl := List.mem_of_getElem? (i := 684) (by decide +kernel)
set_option maxRecDepth 100000 in
theorem sl_sr_1 : Cond.stringRef (si_RS 0) 98 "uniform" ∈ lw_tbl := List.mem_of_getElem? (i := 685) (by decide +kernel)
set_option maxRecDepth 100000 in
theorem sl_sr_2 : Cond.stringRef (si_RS 0) 100 "match" ∈ lw_tbl := List.mem_of_getElem? (i := 686) (by decide +kernel)
set_option maxRecDepth 100000 in
theorem sl_sr_3 : Cond.stringRef (si_RS 0) 102 "graph" ∈ lw_tbl := List.mem_of_getElem? (i := 687) (by decide +kernel)
set_option maxRecDepth 100000 in
theorem sl_sr_4 : Cond.stringRef (si_RS 0) 104 "told" ∈ lw_tbl := List.mem_of_getElem? (i := 688) (by decide +kernel)
set_option maxRecDepth 100000 in
theorem sl_sr_5 : Cond.stringRef (si_RS 0) 106 "dual" ∈ lw_tbl := List.mem_of_getElem? (i := 689) (by decide +kernel)
set_option maxRecDepth 100000 in
theorem sl_sr_6 : Cond.stringRef (si_RS 0) 108 "without" ∈ lw_tbl := List.mem_of_getElem? (i := 690) (by decide +kernel)
set_option maxRecDepth 100000 in
theorem sl_sr_7 : Cond.stringRef (si_RS 0) 110 "by" ∈ lw_tbl := List.mem_of_getElem? (i := 691) (by decide +kernel)
set_option maxRecDepth 100000 in
theorem sl_sr_8 : Cond.stringRef (si_RS 0) 112 "shift" ∈ lw_tbl := List.mem_of_getElem? (i := 692) (by decide +kernel)
set_option maxRecDepth 100000 in
theorem sl_sr_9 : Cond.stringRef (si_RS 0) 114 "plus" ∈ lw_tbl := List.mem_of_getElem? (i := 693) (by decide +kernel)
set_option maxRecDepth 100000 in
theorem sl_sr_10 : Cond.stringRef (si_RS 0) 116 "cut" ∈ lw_tbl := List.mem_of_getElem? (i := 694) (by decide +kernel)
set_option maxRecDepth 100000 in
theorem sl_sr_11 : Cond.stringRef (si_RS 0) 118 "initial" ∈ lw_tbl := List.mem_of_getElem? (i := 695) (by decide +kernel)
set_option maxRecDepth 100000 in
theorem sl_sr_12 : Cond.stringRef (si_RS 0) 120 "raise" ∈ lw_tbl := List.mem_of_getElem? (i := 696) (by decide +kernel)
set_option maxRecDepth 100000 in
theorem sl_sr_13 : Cond.stringRef (si_RS 0) 122 "join" ∈ lw_tbl := List.mem_of_getElem? (i := 697) (by decide +kernel)
set_option maxRecDepth 100000 in
theorem sl_sr_14 : Cond.stringRef (si_RS 0) 124 "" ∈ lw_tbl := List.mem_of_getElem? (i := 698) (by decide +kernel)
theorem sl_sr {k : Nat} {u : Nat × String} (h : si_nth si_txs k = some u) : Cond.stringRef (si_RS 0) u.1 u.2 ∈ lw_tbl ∧ u.1 = si_en k ∧ k < 15 := by
  match k, h with
  | 0, h => cases h; exact ⟨sl_sr_0, rfl, by decide⟩
  | 1, h => cases h; exact ⟨sl_sr_1, rfl, by decide⟩
  | 2, h => cases h; exact ⟨sl_sr_2, rfl, by decide⟩
  | 3, h => cases h; exact ⟨sl_sr_3, rfl, by decide⟩
  | 4, h => cases h; exact ⟨sl_sr_4, rfl, by decide⟩
  | 5, h => cases h; exact ⟨sl_sr_5, rfl, by decide⟩
  | 6, h => cases h; exact ⟨sl_sr_6, rfl, by decide⟩
  | 7, h => cases h; exact ⟨sl_sr_7, rfl, by decide⟩
  | 8, h => cases h; exact ⟨sl_sr_8, rfl, by decide⟩
  | 9, h => cases h; exact ⟨sl_sr_9, rfl, by decide⟩
  | 10, h => cases h; exact ⟨sl_sr_10, rfl, by decide⟩
  | 11, h => cases h; exact ⟨sl_sr_11, rfl, by decide⟩
  | 12, h => cases h; exact ⟨sl_sr_12, rfl, by decide⟩
  | 13, h => cases h; exact ⟨sl_sr_13, rfl, by decide⟩
  | 14, h => cases h; exact ⟨sl_sr_14, rfl, by decide⟩
  | n + 15, h =>
    exfalso
    have e : si_nth si_txs (n + 15) = none := rfl
    rw [e] at h
    cases h
theorem si_mchk_mem {o : Nat} : ∀ {l : List (Nat × Nat × Nat)} {ps : List Nat}, si_mchk o l ps = true → ∀ r ∈ l, ∃ q, si_mchk1 o r q = true
  | [], _, _, r, h => by cases h
  | r0 :: l, [], hc, r, h => by cases hc
  | r0 :: l, q :: ps, hc, r, h => by
    unfold si_mchk at hc
    simp only [Bool.and_eq_true] at hc
    rcases List.mem_cons.mp h with e | e
    · rw [e]
      exact ⟨q, hc.1⟩
    · exact si_mchk_mem hc.2 r e
theorem si_nest {o : Nat} {r : Nat × Nat × Nat} {n : MethodName × ByteArray × Option FieldType} (hr : r ∈ si_mh o) (h3 : 3 ≤ r.2.2) (h5 : r.2.2 ≤ 5) (hn : si_nq r.2.1 = some n) : Cond.methodLinkNest (si_RS o) r.1 n.1 "PricedBases" ∈ lw_tbl := by
  obtain ⟨q, hq⟩ := si_mchk_mem (si_mh_all o) r hr
  unfold si_mchk1 at hq
  split at hq
  · rename_i e
    omega
  · simp only [Bool.and_eq_true, decide_eq_true_eq] at hq
    obtain ⟨-, h3'⟩ := hq
    split at h3'
    · rename_i n2 u hn2 hu
      simp only [Bool.and_eq_true, decide_eq_true_eq] at h3'
      rw [hn] at hn2
      cases hn2
      have h4 := h3'.1
      rw [if_neg (by omega)] at h4
      exact si_at_mem (of_decide_eq_true h4)
    · cases h3'
theorem si_arr {s : State} {args : Array Value} {ty : FieldType} (hp : refKind ty = false) (h : (Cond.arrayClass ty).before args s = true) : ∃ cA : ClassId, ArrOfT s cA ty ∧ va_RA s cA ty := by
  obtain ⟨cA, kA, comp, h1, h2, h3⟩ := Cond.arrayClass_spec h
  refine ⟨cA, fun n z => ⟨fun k h => (by cases h), kA, h2, comp, h3⟩, ?_⟩
  cases ty <;> first | exact h1 | (cases hp)
theorem si_arrO {s : State} {args : Array Value} {C : String} (h : (Cond.arrayOver (.object C)).before args s = true) : ∃ cA : ClassId, ArrOfT s cA (.object C) ∧ va_RA s cA (.object C) := by
  obtain ⟨comp, cA, kA, h1, h2, h3, h4, h5⟩ := Cond.arrayOver_spec h
  exact ⟨cA, fun n z => ⟨fun k h => (by cases h), kA, h3, comp, h4⟩, kA, comp, h3, h4, h1, h5⟩
/-- the start: what lies there of the abstract machine's things -/
def si_I0 (xs : Nat → Int32) : ai_I := fun a => if a = 1999 then xs else fun _ => 0
def si_J0 : ai_J := fun _ _ => 0
def si_R0 : ai_R := fun _ _ => 0
def si_G0 (L : Nat) : ai_G := (fun a => if a = 1999 then 16 else 99, fun a => if a = 1999 then L else 0, 0)
theorem si_start {s : State} {args : Array Value} {b L : Nat} {xs : Nat → Int32} (hts : ∀ w ∈ lw_tbl, w.before args s = true) (hgv : (Jvm.Cond.and given_1 narrow_1).before args s = true) (hbl : b < s.heap.size) :
    ∃ (E : si_E) (adV : Nat → Nat), E.1 + 1 = s.heap.size ∧ E.2.1 = b ∧ E.2.2.1 = L ∧ E.2.2.2.1 = xs ∧ si_K E s ∧ si_X E adV s ∧ si_P E s.heap (si_I0 xs) si_J0 si_R0 (si_G0 L) := by
  have hn : ∀ w ∈ si_nl, w.before args s = true := flat_of_before _ hgv
  have hz : s.heap.size - 1 + 1 = s.heap.size := by omega
  have hA : ∀ a : Nat, a < s.heap.size → ¬ (fun q : Nat => s.heap.size - 1 < q) a := fun a h h2 => by
    have h2 : s.heap.size - 1 < a := h2
    omega
  obtain ⟨adK, adV, hS, hE⟩ := vk_Sof (args := args) (s := s) (N := 15) (tm := fun i => .string "PricedBases$Clauses" (si_en i)) (len := si_len) (byt := si_byt) (A := fun q : Nat => s.heap.size - 1 < q) (by decide +kernel) (fun i hi => hn _ (sl_ex i hi)) (fun i hi => hn _ (sl_co i hi)) (fun i hi => hn _ (sl_ar i hi)) (fun i hi => hn _ (sl_le i hi)) (fun i hi j hj => hn _ (sl_el i hi j hj)) (fun i j hi hj hij => by
    rcases sl_ne i hi j hj hij with h | h
    · exact Or.inl (hn _ h)
    · exact Or.inr (hn _ h)) hA
  have hcl : ∀ k : Nat, ∃ q : ClassId × (Nat → Nat), k < 11 → u_Kn s (si_RS k) (si_T k) (si_N k) q.1 q.2 := by
    intro k
    by_cases hk : k < 11
    · obtain ⟨c1, c2, c3, c4, c5, c6⟩ := si_cls hk
      have hts2 : ∀ w ∈ si_aTs, w.before args s = true := fun w hw => hts w (List.mem_filter.mp hw).1
      obtain ⟨cC, iS, h⟩ := u_known hts2 c1 (hts2 _ c5)
      exact ⟨(cC, iS), fun _ => h⟩
    · exact ⟨(0, fun _ => 0), fun h => absurd h hk⟩
  obtain ⟨ck, hck⟩ := Classical.axiomOfChoice hcl
  obtain ⟨a12, b12⟩ := si_arr (ty := .byte) rfl (hts _ si_w_5)
  obtain ⟨a13, b13⟩ := si_arr (ty := .int) rfl (hts _ si_w_6)
  obtain ⟨a14, b14⟩ := si_arr (ty := .long) rfl (hts _ si_w_7)
  obtain ⟨a15, b15⟩ := si_arrO (hts _ si_w_8)
  refine ⟨(s.heap.size - 1, b, L, xs, adK, (fun k => (ck k).1, fun k => (ck k).2), fun k => if k = 12 then a12 else if k = 13 then a13 else if k = 14 then a14 else a15), adV, hz, rfl, rfl, rfl, ?_, ?_, ?_⟩
  · refine ⟨fun k q hq => ?_, fun k q hq => ?_⟩
    · have hk : k < 11 := (List.getElem?_eq_some_iff.mp hq).1
      rw [si_cl_all hk] at hq
      cases hq
      exact hck k hk
    · match k, hq with
      | 0, hq => cases hq; exact b12
      | 1, hq => cases hq; exact b13
      | 2, hq => cases hq; exact b14
      | 3, hq => cases hq; exact b15
      | n + 4, hq => simp [si_tys] at hq
  · have had : ∀ k : Nat, si_ad (s.heap.size - 1, b, L, xs, adK, (fun k => (ck k).1, fun k => (ck k).2), fun k => if k = 12 then a12 else if k = 13 then a13 else if k = 14 then a14 else a15) (2000 + k) = adK k := by
      intro k
      unfold si_ad
      rw [if_neg (by omega), if_neg (by omega)]
      show adK (2000 + k - 2000) = adK k
      rw [show 2000 + k - 2000 = k by omega]
    refine ⟨fun o r n h1 h2 h3 h4 => va_Nw.of rfl (hts _ (si_nest h1 h2 h3 h4)), va_AO.of (hts _ si_w_8), fun k u hu => ?_, ?_, ?_, ?_⟩
    · obtain ⟨h1, h2, h3⟩ := sl_sr hu
      rw [had k]
      refine vk_R.of (hts _ h1) ?_
      rw [h2]
      exact hE k h3
    · rw [show (fun k => si_ad (s.heap.size - 1, b, L, xs, adK, (fun k => (ck k).1, fun k => (ck k).2), fun k => if k = 12 then a12 else if k = 13 then a13 else if k = 14 then a14 else a15) (2000 + k)) = adK from funext had]
      exact hS
    · exact va_Zof (hts _ sl_l0) (hts _ si_w_13) (va_eqt (hn _ sl_cs)) hA
    · exact va_Zqof (hts _ sl_l1) (hts _ sl_i1) (hn _ sl_si) hA
  · refine ⟨hz.symm, Nat.zero_le _, fun a ha => ?_, rfl, rfl⟩
    exfalso
    change (if a = 1999 then 16 else 99) ≤ 15 at ha
    split at ha <;> omega
/-- the law's frame: class 21, a static method, its code -/
def si_F : ai_F := (21, false, 3, cd_law.flatten)
def si_law : Prop := ∀ (L : Nat) (xs : Nat → Int32), L ≤ 260 → ai_Go si_t si_F (ai_Cl si_t si_ms 11) (fun v _ _ _ _ => v = some (.inl 1)) 0 (ai_ent 12 [.inr (.inr 1999)]) [] (600000, 7302250) (si_I0 xs) si_J0 si_R0 (si_G0 L)
theorem si_law_dec (pc : Nat) (q : Instr × Nat) (h : ai_lkp cd_law.flatten pc = some q) : decode code pc = .ok q := by
  have hm := ai_lkp_mem h
  obtain ⟨us, h1, h2⟩ := List.mem_flatten.mp hm
  have key : ∀ us ∈ cd_law, vd_ok code us = true := by
    unfold cd_law
    simp only [List.forall_mem_cons]
    exact ⟨vd_law_0, vd_law_1, vd_law_2, vd_law_3, vd_law_4, by simp⟩
  exact vd_ok_mem (key us h1) h2
set_option maxRecDepth 100000 in
theorem si_law_ck : (cd_law.flatten).all (fun q => si_ck 21 12 q.1 q.2.1 q.2.2) = true := by decide +kernel
/-- the owed part of the skeleton, out of the law's run on the abstract machine -/
theorem si_whole (hstr : ∀ (l : Launch) (E : si_E) (adV : Nat → Nat), si_strs l E adV) (hlaw : si_law) {p : Program} {e : Env} {s : State} {m : MethodId} {below : List Frame} {meth : Method} {c : Code} (l : Launch) {b L : Nat} {xs : Nat → Int32} (hL : L ≤ 260) (C0 : lw_At p s m meth c b L xs) : W p l e room_1 s m #[Value.ref b] below meth c s.heap [] 0 0 (lw_Z below #[Value.ref b] s) (entryFrame m ([Value.ref b] : List Value).toArray 12) := by
  obtain ⟨hx, hb, hr, hml, hown, hts, hX0, hbl, hlocks, hgv⟩ := C0
  obtain ⟨E, adV, z1, z2, z3, z4, hK, hX, hP⟩ := si_start (L := L) (xs := xs) hts hgv hbl
  obtain ⟨nn, h⟩ := hlaw L xs hL
  have hE : ([.inr (.inr 1999)] : List ai_V).map (si_v E) = [Value.ref b] := by
    show [va_rf (si_o E 1999)] = _
    rw [si_o_pos (by decide)]
    show [Value.ref (si_ad E 1999)] = _
    unfold si_ad
    rw [if_neg (by decide), if_pos rfl, z2]
  have C1 : si_C p room_1 s m #[Value.ref b] meth c code E adV 12 21 false := ⟨hx, hb, hml, hown, fun w hw => hts w (List.mem_filter.mp hw).1, hK, hX, (fun h => by cases h), fun _ => ⟨by rw [z2, z3, z4]; exact hX0, by rw [z2]; exact hbl, by rw [z2]; omega⟩, by omega, by decide, by decide⟩
  have hcode : ∀ (pc : Nat) (q : Instr × Nat), ai_lkp si_F.2.2.2 pc = some q → decode code pc = .ok q ∧ si_ck 21 12 pc q.1 q.2 = true := by
    intro pc q hq
    refine ⟨si_law_dec pc q hq, ?_⟩
    have h1 := si_law_ck
    rw [List.all_eq_true] at h1
    exact h1 (pc, q) (ai_lkp_mem hq)
  have hend : si_end p l e room_1 s m #[Value.ref b] below meth c (lw_Z below #[Value.ref b] s) code E si_F.2.2.1 (fun v _ _ _ _ => v = some (.inl 1)) := by
    intro pc op st v I J Rf G H locs cells slots ls hd hro hpost hP2 hS hc2 hs2
    rcases hro with ⟨rfl, x, rfl, rfl, hf⟩ | ⟨rfl, x, rfl, rfl, hf⟩ | ⟨rfl, x, rfl, rfl, hf⟩ | ⟨rfl, rfl, rfl, hf⟩
    · cases hpost
      refine va_forget (fun q hq => ?_) ?_
      · have := hS.2.2 q hq
        have : E.1 < q.base := this
        omega
      · refine W.widen (k := 600000) (n := 7302250) hc2 hs2 ?_
        exact lw_ret hx hb hr hlocks hd
    · cases hpost
    · cases hpost
    · cases hpost
  have hrun := si_run (d := 11) (F := si_F) C1 rfl rfl (si_sim (hstr l E adV) 11) (by decide) (by decide) hend hcode nn 0 _ [] (600000, 7302250) (si_I0 xs) si_J0 si_R0 (si_G0 L) s.heap [] 0 0 _ h ⟨hP, si_L.ent [.inr (.inr 1999)] 12 (by decide), va_S.rf, by decide, by decide⟩
  rw [hE] at hrun
  rw [lg_entry_eq]
  exact hrun
