/-! Calls, ends, and the run: the abstract machine's call gives the kit's contract. -/
theorem ai_td : ∀ (n : Nat) (st : List ai_V), ai_takes n st ++ ai_drops n st = st
  | 0, st => rfl
  | _ + 1, [] => rfl
  | n + 1, v :: l => by show v :: (ai_takes n l ++ ai_drops n l) = _; rw [ai_td n l]
theorem ai_rvs_eq : ∀ (l acc : List ai_V), ai_rvs l acc = l.reverse ++ acc
  | [], _ => rfl
  | v :: l, acc => by show ai_rvs l (v :: acc) = _; rw [ai_rvs_eq l (v :: acc)]; simp
theorem ai_long_len : ∀ (n : Nat) (st : List ai_V), ai_long n st = true → (ai_takes n st).length = n
  | 0, _, _ => rfl
  | _ + 1, [], h => by cases h
  | n + 1, _ :: l, h => by show (ai_takes n l).length + 1 = _; rw [ai_long_len n l h]
theorem si_kchk_spec : ∀ {ps : List (Nat × Nat × Nat × Nat)} {y : Nat}, si_kchk y ps = true → ∀ i : Nat, i < ps.length → ∃ p, si_kchk1 (y + i) p = true
  | [], y, _, i, hi => by simp at hi
  | p :: l, y, h, i, hi => by
    unfold si_kchk at h
    simp only [Bool.and_eq_true] at h
    cases i with
    | zero => exact ⟨p, h.1⟩
    | succ j =>
      obtain ⟨q, hq⟩ := si_kchk_spec h.2 j (by simpa using hi)
      exact ⟨q, by rw [show y + (j + 1) = y + 1 + j by omega]; exact hq⟩
theorem si_k_all {y : Nat} (h : y < 133) : ∃ p, si_kchk1 y p = true := by
  rcases (by omega : 0 ≤ y ∧ y < 20 ∨ 20 ≤ y ∧ y < 40 ∨ 40 ≤ y ∧ y < 60 ∨ 60 ≤ y ∧ y < 80 ∨ 80 ≤ y ∧ y < 100 ∨ 100 ≤ y ∧ y < 120 ∨ 120 ≤ y ∧ y < 133) with h0 | h1 | h2 | h3 | h4 | h5 | h6
  · obtain ⟨p, hp⟩ := si_kchk_spec si_kk_0 (y - 0) (by show y - 0 < 20; omega)
    exact ⟨p, by rw [show 0 + (y - 0) = y by omega] at hp; exact hp⟩
  · obtain ⟨p, hp⟩ := si_kchk_spec si_kk_1 (y - 20) (by show y - 20 < 20; omega)
    exact ⟨p, by rw [show 20 + (y - 20) = y by omega] at hp; exact hp⟩
  · obtain ⟨p, hp⟩ := si_kchk_spec si_kk_2 (y - 40) (by show y - 40 < 20; omega)
    exact ⟨p, by rw [show 40 + (y - 40) = y by omega] at hp; exact hp⟩
  · obtain ⟨p, hp⟩ := si_kchk_spec si_kk_3 (y - 60) (by show y - 60 < 20; omega)
    exact ⟨p, by rw [show 60 + (y - 60) = y by omega] at hp; exact hp⟩
  · obtain ⟨p, hp⟩ := si_kchk_spec si_kk_4 (y - 80) (by show y - 80 < 20; omega)
    exact ⟨p, by rw [show 80 + (y - 80) = y by omega] at hp; exact hp⟩
  · obtain ⟨p, hp⟩ := si_kchk_spec si_kk_5 (y - 100) (by show y - 100 < 20; omega)
    exact ⟨p, by rw [show 100 + (y - 100) = y by omega] at hp; exact hp⟩
  · obtain ⟨p, hp⟩ := si_kchk_spec si_kk_6 (y - 120) (by show y - 120 < 13; omega)
    exact ⟨p, by rw [show 120 + (y - 120) = y by omega] at hp; exact hp⟩
/-- a method: its row of the table, its words -/
theorem si_meth {y : Nat} (h : y < 133) : ∃ (n : MethodName × ByteArray × Option FieldType) (u : ai_F × Nat × Nat × Nat), si_nq y = some n ∧ si_mq y = some u ∧ Cond.code n.1 n.2.1 u.2.1 n.2.2 ∈ si_aTs ∧ Cond.initialized n.1.cls ∈ si_aTs ∧ si_kfit y n u = true ∧
    (u.2.2.2 = 0 → Cond.static n.1 ∈ si_aTs) ∧ (¬ u.2.2.2 = 0 → Cond.instanceMethod n.1 ∈ si_aTs ∧ (u.1.2.1 = false → Cond.selects n.1.cls n.1 n.1 ∈ si_aTs)) := by
  obtain ⟨p, hp⟩ := si_k_all h
  unfold si_kchk1 at hp
  split at hp
  · rename_i n u hn hu
    simp only [Bool.and_eq_true, decide_eq_true_eq] at hp
    obtain ⟨h1, h2, h3, h4⟩ := hp
    refine ⟨n, u, hn, hu, si_good (si_at_mem (si_isC_eq h1)) rfl, si_good (si_at_mem h2) rfl, h3, fun e => ?_, fun e => ?_⟩
    · rw [e] at h4
      simp only [decide_eq_true_eq] at h4
      exact si_good (si_at_mem h4) rfl
    · split at h4
      · rename_i e2
        exact absurd e2 e
      · simp only [Bool.and_eq_true, Bool.or_eq_true, decide_eq_true_eq] at h4
        refine ⟨si_good (si_at_mem h4.1) rfl, fun e3 => ?_⟩
        rcases h4.2 with q | q
        · rw [e3] at q
          cases q
        · exact si_good (si_at_mem q) rfl
  · cases hp
theorem si_mchk_spec {o : Nat} : ∀ {l : List (Nat × Nat × Nat)} {ps : List Nat}, si_mchk o l ps = true → ∀ (ix : Nat) (v : Nat × Nat), ai_lkp l ix = some v → (ix, v) ∈ l ∧ ∃ q, si_mchk1 o (ix, v) q = true
  | [], _, _, ix, v, h => by cases h
  | r :: l, [], hc, ix, v, h => by cases hc
  | r :: l, q :: ps, hc, ix, v, h => by
    unfold si_mchk at hc
    simp only [Bool.and_eq_true] at hc
    obtain ⟨h1, h2⟩ := hc
    unfold ai_lkp at h
    by_cases e : r.1 = ix
    · rw [if_pos e] at h
      cases h
      have : (ix, r.2) = r := by rw [← e]
      rw [this]
      exact ⟨List.mem_cons_self, q, h1⟩
    · rw [if_neg e] at h
      obtain ⟨g1, g2⟩ := si_mchk_spec h2 ix v h
      exact ⟨List.mem_cons_of_mem _ g1, g2⟩
theorem si_mh_all (o : Nat) : si_mchk o (si_mh o) (si_mhp o) = true := by
  by_cases h0 : o = 0
  · subst h0
    exact si_mk_0
  by_cases h1 : o = 1
  · subst h1
    exact si_mk_1
  by_cases h2 : o = 2
  · subst h2
    exact si_mk_2
  by_cases h3 : o = 3
  · subst h3
    exact si_mk_3
  by_cases h4 : o = 4
  · subst h4
    exact si_mk_4
  by_cases h5 : o = 5
  · subst h5
    exact si_mk_5
  by_cases h6 : o = 6
  · subst h6
    exact si_mk_6
  by_cases h7 : o = 7
  · subst h7
    exact si_mk_7
  by_cases h8 : o = 8
  · subst h8
    exact si_mk_8
  by_cases h9 : o = 9
  · subst h9
    exact si_mk_9
  by_cases h10 : o = 10
  · subst h10
    exact si_mk_10
  by_cases h20 : o = 20
  · subst h20
    exact si_mk_20
  by_cases h21 : o = 21
  · subst h21
    exact si_mk_21
  by_cases h23 : o = 23
  · subst h23
    exact si_mk_23
  have e : si_mh o = [] := by
    unfold si_mh
    split <;> first | contradiction | rfl
  rw [e]
  rfl
/-- a call's link -/
theorem si_link {o ix y md : Nat} (h : ai_lkp (si_mh o) ix = some (y, md)) (hmd : ¬ md = 9) : y < 133 ∧ ∃ (n : MethodName × ByteArray × Option FieldType) (u : ai_F × Nat × Nat × Nat), si_nq y = some n ∧ si_mq y = some u ∧ md ≤ 5 ∧ (md < 3 → Cond.methodLink (si_RS o) ix n.1 ∈ si_aTs) ∧ (ix, y, md) ∈ si_mh o ∧
    (md % 3 = 0 → ¬ u.2.2.2 = 0 ∧ u.1.2.1 = false) ∧ (md % 3 = 1 → u.2.2.2 = 0) ∧ (md % 3 = 2 → u.1.2.1 = true) := by
  obtain ⟨hm, q, hq⟩ := si_mchk_spec (si_mh_all o) ix _ h
  unfold si_mchk1 at hq
  split at hq
  · rename_i e
    exact absurd e hmd
  · simp only [Bool.and_eq_true, decide_eq_true_eq] at hq
    obtain ⟨⟨h1, h2⟩, h3⟩ := hq
    split at h3
    · rename_i n u hn hu
      simp only [Bool.and_eq_true, decide_eq_true_eq] at h3
      obtain ⟨h4, h5⟩ := h3
      refine ⟨h1, n, u, hn, hu, h2, fun h6 => ?_, hm, h5⟩
      rw [if_pos h6] at h4
      exact si_good (si_at_mem (of_decide_eq_true h4)) rfl
    · cases h3
/-! what else holds, moved -/
theorem si_mode_nest {o : Nat} {r : Nat × Nat × Nat} {n : MethodName × ByteArray × Option FieldType} {E : si_E} {adV : Nat → Nat} {U : State} (hX : si_X E adV U) (hr : r ∈ si_mh o) (h3 : 3 ≤ r.2.2) (h5 : r.2.2 ≤ 5) (hn : si_nq r.2.1 = some n) : va_Nw (.methodLinkNest (si_RS o) r.1 n.1 "PricedBases") U := hX.1 o r n hr h3 h5 hn
theorem si_X.same {E : si_E} {adV : Nat → Nat} {u U : State} (hv : U.vm = u.vm) (hh : U.heap = u.heap) (h : si_X E adV u) : si_X E adV U := by
  obtain ⟨h1, h2, h3, h4, h5, h6⟩ := h
  have hal : u.vm.Alike U.vm := by rw [hv]; exact Vm.Alike.refl _
  refine ⟨fun o r n a b c d => va_Nw.same rfl hv.symm (h1 o r n a b c d), va_AO.moved hal h2, fun k u2 hk => vk_R.same hv (h3 k u2 hk), ?_, ?_, ?_⟩
  · rw [hh]
    exact h4.moved hal
  · rw [hh]
    exact h5.moved hal
  · rw [hh]
    exact h6.moved hal
theorem si_X.warm {E : si_E} {adV : Nat → Nat} {s U : State} (hW : s.WarmedH U.vm) (hq : ∀ a : Nat, a < s.heap.size → ¬ si_A E a → U.heap[a]? = s.heap[a]?) (h : si_X E adV s) : si_X E adV U := by
  obtain ⟨h1, h2, h3, h4, h5, h6⟩ := h
  exact ⟨fun o r n a b c d => va_Nw.warmM hW (h1 o r n a b c d), va_AO.moved hW.alike h2, fun k u2 hk => vk_R.warm hW (h3 k u2 hk), (h4.moved hW.alike).kept hq, (h5.moved hW.alike).kept hq, (h6.moved hW.alike).kept hq⟩
/-- a method's room, at depth d -/
def si_rm (d y : Nat) : Room := { frames := d, locals := 42 * d, cells := (si_bl y).1, slots := (si_bl y).2 }
def si_B (E : si_E) (adV : Nat → Nat) (I : ai_I) (J : ai_J) (Rf : ai_R) (G : ai_G) (U : State) : Prop := si_P E U.heap I J Rf G ∧ si_K E U ∧ si_X E adV U
def si_Qc (E : si_E) (v : Option ai_V) (I : ai_I) (J : ai_J) (Rf : ai_R) (G : ai_G) : Array Value → State → Outcome → State → Prop := fun _ st oc t => oc = .returned (v.map (si_v E)) ∧ si_P E t.heap I J Rf G ∧ va_F (si_A E) st t
theorem si_blind {E : si_E} {adV : Nat → Nat} {I : ai_I} {J : ai_J} {Rf : ai_R} {G : ai_G} {av : List Value} : FrameBlind (va_Pc av (si_B E adV I J Rf G)) := by
  intro a U g mk h
  obtain ⟨h1, h2, h3, h4⟩ := h
  exact ⟨h1, h2, va_K.moved (u := U) (U := U.calling g mk a) (Vm.Alike.refl U.vm) h3, si_X.same (u := U) (U := U.calling g mk a) rfl rfl h4⟩
theorem si_goodIn {w : Cond} (h : w ∈ si_aTs) : GoodIn si_aTs (w :: si_aTs) := by
  intro w2 hw
  have hw2 : w2 ∈ si_aTs := by
    rcases List.mem_cons.mp hw with e | e
    · rw [e]; exact h
    · exact e
  exact ⟨hw2, good_of_word (List.mem_filter.mp hw2).2⟩
/-- a contract of a method for one start and one end -/
def si_Met (l : Launch) (E : si_E) (adV : Nat → Nat) (d : Nat) (n : MethodName × ByteArray × Option FieldType) (mx y : Nat) (as : List ai_V) (I : ai_I) (J : ai_J) (Rf : ai_R) (G : ai_G) (v : Option ai_V) (I1 : ai_I) (J1 : ai_J) (R1 : ai_R) (G1 : ai_G) : Prop :=
  Met l n.1 (.code n.1 n.2.1 mx n.2.2 :: si_aTs) (si_rm d y) (va_Pc (as.map (si_v E)) (si_B E adV I J Rf G)) (si_Qc E v I1 J1 R1 G1) (si_bl y).1 (si_bl y).2 (si_A E)
/-- String.length and String.charAt -/
def si_sn (y : Nat) : MethodName × ByteArray × Option FieldType := match y with
  | 997 => (⟨"java/lang/String", "length", "()I"⟩, prog_17_method_54_code, some .int)
  | _ => (⟨"java/lang/String", "charAt", "(I)C"⟩, prog_17_method_56_code, some .char)
def si_smx (y : Nat) : Nat := match y with
  | 997 => 1
  | _ => 2
def si_call (l : Launch) (E : si_E) (adV : Nat → Nat) (d : Nat) (call : ai_C) : Prop := ∀ (y : Nat) (as : List ai_V) (I : ai_I) (J : ai_J) (Rf : ai_R) (G : ai_G) (v : Option ai_V) (I1 : ai_I) (J1 : ai_J) (R1 : ai_R) (G1 : ai_G), call y as I J Rf G v I1 J1 R1 G1 →
  (y < 133 → ∀ n u, si_nq y = some n → si_mq y = some u → si_Met l E adV d n u.2.1 y as I J Rf G v I1 J1 R1 G1) ∧
  ((y = 997 ∨ y = 996) → (∃ (a : Nat) (r : List ai_V) (tx : List Nat), as = .inr (.inr a) :: r ∧ ai_txt si_t a = some tx) ∧ si_Met l E adV d (si_sn y) (si_smx y) y as I J Rf G v I1 J1 R1 G1)
section
variable {p : Program} {l : Launch} {e : Env} {R : Room} {s : State} {m : MethodId} {args : Array Value} {below : List Frame} {meth : Method} {c : Code} {Q : State → Prop} {cc : ByteArray} {E : si_E} {adV : Nat → Nat} {nL o d : Nat} {ini : Bool}
variable {F : ai_F} {call : ai_C} {post : ai_Q} {k : ai_K} {len pc : Nat} {lo : List (Option ai_V)} {st : List ai_V} {B : Nat × Nat} {I : ai_I} {J : ai_J} {Rf : ai_R} {G : ai_G} {H : Heap} {locs : List Loc} {cells slots : Nat} {ls : Array Slot}
/-- behind a call -/
theorem si_after {mc ms : Nat} {st0 : List Value} {rest : List ai_V} {a : Array Value} {v : Option ai_V} {I1 : ai_I} {J1 : ai_J} {R1 : ai_R} {G1 : ai_G} (hk : si_ok p l e R s m args below meth c Q E nL k) (hr : va_Run p l e R s m args below meth c H locs cells slots mc ms (F0 m pc ls st0) (rest.map (si_v E)) (si_Qc E v I1 J1 R1 G1 a) (si_A E))
    (S : si_S E s R nL H locs cells slots ls lo B I J Rf G) (hmc : mc ≤ B.1) (hms : ms ≤ B.2) (h : k (pc + 3) lo (v.toList ++ rest) (B.1 - mc, B.2 - ms) I1 J1 R1 G1) : W p l e R s m args below meth c H locs cells slots Q (F0 m pc ls st0) := by
  intro T hT X
  obtain ⟨v2, st₀, t, T', L, h0, X', hL, e1, e2, ⟨hv, hP, hz, hkp⟩, stp⟩ := hr T hT X
  have hv2 : v2 = v.map (si_v E) := by
    have := hv
    simpa using this
  subst hv2
  rw [h0] at hz hkp
  have hS : si_S E s R nL T'.heap (locs ++ L) (cells + mc) (slots + ms) ls lo (B.1 - mc, B.2 - ms) I1 J1 R1 G1 := by
    refine ⟨by rw [e1]; exact hP, S.2.1, ⟨?_, fun q g1 g2 => ?_, fun q hq => ?_⟩, by have := S.2.2.2.1; show cells + mc + (B.1 - mc) ≤ _; omega, by have := S.2.2.2.2; show slots + ms + (B.2 - ms) ≤ _; omega⟩
    · rw [e1]
      exact Nat.le_trans S.2.2.1.1 hz
    · rw [e1, hkp q (Nat.lt_of_lt_of_le g1 S.2.2.1.1) g2]
      exact S.2.2.1.2.1 q g1 g2
    · rcases List.mem_append.mp hq with g | g
      · exact S.2.2.1.2.2 q g
      · exact hL q g
  obtain ⟨t2, a1, b1⟩ := hk _ _ _ _ _ _ _ _ _ _ _ _ _ h hS T' rfl X'
  refine ⟨t2, stp t2 ?_, b1⟩
  have ev : ((v.map (si_v E)).toList ++ rest.map (si_v E)) = (v.toList ++ rest).map (si_v E) := by
    cases v <;> rfl
  show Steps _ _ _ (T'.setTop { F0 m pc ls st0 with pc := pc + 3, stack := (v.map (si_v E)).toList ++ rest.map (si_v E) }) t2
  rw [ev]
  exact a1
theorem si_pre {as : List ai_V} (S : si_S E s R nL H locs cells slots ls lo B I J Rf G) (hK : si_K E s) (hX : si_X E adV s) : ∀ U : State, U.heap = H → s.WarmedH U.vm → va_Pc (as.map (si_v E)) (si_B E adV I J Rf G) (as.map (si_v E)).toArray U := by
  intro U hU hW
  refine ⟨rfl, by rw [hU]; exact S.1, va_K.moved hW.alike hK, hX.warm hW (fun a h1 h2 => ?_)⟩
  rw [hU]
  exact S.2.2.1.2.1 a h1 h2
/-- the operand stack at a call -/
theorem si_stk {n : Nat} {as : List ai_V} (h : ai_rvs (ai_takes n st) [] = as) : st.map (si_v E) = (as.map (si_v E)).reverse ++ (ai_drops n st).map (si_v E) := by
  rw [← h, ai_rvs_eq, List.append_nil, List.map_reverse, List.reverse_reverse, ← List.map_append, ai_td]
theorem si_as_len {n : Nat} {as : List ai_V} (h : ai_rvs (ai_takes n st) [] = as) (hl : ai_long n st = true) : as.length = n := by
  rw [← h, ai_rvs_eq, List.append_nil, List.length_reverse, ai_long_len n st hl]
/-- a call of a method of the table -/
theorem si_inv_tbl {ix y md : Nat} {as : List ai_V} {op : Instr} {v : Option ai_V} {I1 : ai_I} {J1 : ai_J} {R1 : ai_R} {G1 : ai_G} (C0 : si_C p R s m args meth c cc E adV nL o ini) (hk : si_ok p l e R s m args below meth c Q E nL k) (hd : decode cc pc = .ok (op, 3)) (S : si_S E s R nL H locs cells slots ls lo B I J Rf G)
    (hy : ai_lkp (si_mh o) ix = some (y, md)) (hmd : ¬ md = 9) (hop : (md % 3 = 0 → op = .invokevirtual ix) ∧ (md % 3 = 1 → op = .invokestatic ix) ∧ (md % 3 = 2 → op = .invokespecial ix)) (hfr : d + 1 ≤ R.frames) (hlo : 42 * d + 42 ≤ R.locals)
    (has : ai_rvs (ai_takes (ai_nar si_t y) st) [] = as) (hlong : ai_long (ai_nar si_t y) st = true) (hb1 : (si_bl y).1 ≤ B.1) (hb2 : (si_bl y).2 ≤ B.2) (hwt : ai_wgt (ai_drops (ai_nar si_t y) st) ≤ 8) (hrc : ai_recv (ai_rcv si_t y) as G.1)
    (hM : ∀ n u, si_nq y = some n → si_mq y = some u → si_Met l E adV d n u.2.1 y as I J Rf G v I1 J1 R1 G1)
    (h : k (pc + 3) lo (v.toList ++ ai_drops (ai_nar si_t y) st) (B.1 - (si_bl y).1, B.2 - (si_bl y).2) I1 J1 R1 G1) : W p l e R s m args below meth c H locs cells slots Q (F0 m pc ls (st.map (si_v E))) := by
  obtain ⟨hx, hb, hml, hown, hts, hK, hX, hin, hlaw, hz, -, -⟩ := C0
  obtain ⟨hy336, n, u, hn, hu, hmd5, hlk, hmem, hm0, hm1, hm2⟩ := si_link hy hmd
  obtain ⟨n', u', hn', hu', w1, w2, w3, w4, w5⟩ := si_meth hy336
  rw [hn] at hn'
  rw [hu] at hu'
  cases hn'
  cases hu'
  have hnar : ai_nar si_t y = u.2.2.1 := by
    show ((si_mq y).map (fun q => q.2.2.1)).getD _ = _
    rw [hu]
    rfl
  have hrcv : ai_rcv si_t y = u.2.2.2 := by
    show ((si_mq y).map (fun q => q.2.2.2)).getD 0 = _
    rw [hu]
    rfl
  have hM := hM n u hn hu
  have hNw : 3 ≤ md → va_Nw (.methodLinkNest (si_RS o) ix n.1 "PricedBases") s := fun q => si_mode_nest hX hmem q hmd5 hn
  clear hn
  obtain ⟨n1, n2, n3⟩ := n
  unfold si_Met at hM
  unfold si_kfit at w3
  simp only [Bool.and_eq_true, decide_eq_true_eq] at w3
  obtain ⟨⟨k1, k2, k3, k4, k5, k6, k7, k8, k9⟩, k10⟩ := w3
  have hlen := si_as_len has hlong
  rw [hnar] at hlen
  have hgood := si_goodIn w1
  have hR : (si_rm d y).frames + 1 ≤ R.frames ∧ 8 + (u.2.1 + 11) + (si_rm d y).locals ≤ R.locals := ⟨hfr, by show 8 + (u.2.1 + 11) + 42 * d ≤ _; omega⟩
  have hWt : 2 * (F0 m pc ls (st.map (si_v E))).monitorRoom + (((ai_drops (ai_nar si_t y) st).map (si_v E)).map fun v => v.category).sum ≤ 8 := lv_room (by rw [si_wgt]; exact hwt)
  have hcb : cells + (si_bl y).1 ≤ R.cells ∧ slots + (si_bl y).2 ≤ R.slots := ⟨by have := S.2.2.2.1; omega, by have := S.2.2.2.2; omega⟩
  have hstk := si_stk (E := E) has
  have hsz : (F0 m pc ls (st.map (si_v E))).locals.size = nL := S.2.1.1
  by_cases hst : u.2.2.2 = 0
  · have hmode : md % 3 = 1 := by
      rcases (by omega : md % 3 = 0 ∨ md % 3 = 1 ∨ md % 3 = 2) with q | q | q
      · exact absurd hst (hm0 q).1
      · exact q
      · exact absurd hst (k7 (hm2 q)).2
    have e1 := hop.2.1 hmode
    subst e1
    have hpar : (parseMethodDescriptor n1.desc).map (fun d => d.parameters.length) = some u.2.2.1 := by rw [k5, if_pos hst]; rfl
    by_cases hnest : md < 3
    · exact si_after hk (va_runS ⟨hx, hb, hml, hown, hts⟩ hM ⟨callB_of u.2.2.1 hts hgood rfl rfl rfl (hts _ w2) (hts _ (hlk hnest)) ⟨k3, k4, hpar⟩ hR, hts _ (w4 hst)⟩ ⟨si_blind, si_pre S hK hX⟩ rfl (by rw [List.length_map]; exact hlen) hsz hstk hWt hd hcb) S hb1 hb2 h
    · exact si_after hk (va_runSN ⟨hx, hb, hml, hown, hts⟩ hM ⟨va_cnB u.2.2.1 hts hgood rfl rfl rfl (hNw (by omega)) (hts _ w2) ⟨k3, k4, hpar⟩ hR, hts _ (w4 hst), trivial⟩ ⟨si_blind, si_pre S hK hX⟩ rfl (by rw [List.length_map]; exact hlen) hsz hstk hWt hd hcb) S hb1 hb2 h
  · obtain ⟨w5a, w5b⟩ := w5 hst
    have hrcv2 : u.2.2.2 = u.1.1 + 1 ∧ 1 ≤ u.2.2.1 ∧ u.1.1 < 11 := by
      rcases k6 with q | q
      · exact absurd q hst
      · exact q
    rw [hrcv, hrcv2.1] at hrc
    have hpar : (parseMethodDescriptor n1.desc).map (fun d => d.parameters.length) = some (u.2.2.1 - 1) := by rw [k5, if_neg hst]
    cases as with
    | nil => exact hrc.elim
    | cons a0 ar =>
      obtain ⟨a, rfl⟩ : ∃ a, a0 = .inr (.inr a) := by
        rcases a0 with x | x | a
        · exact hrc.elim
        · exact hrc.elim
        · exact ⟨a, rfl⟩
      have hrk : G.1 a = u.1.1 := hrc
      have ha := (S.1.2.2.1 a (by omega)).1
      have hav : (Sum.inr (Sum.inr a) :: ar : List ai_V).map (si_v E) = .ref (si_ad E a) :: ar.map (si_v E) := by
        rw [← si_v_pos ha]
        rfl
      have hpre := si_pre (as := .inr (.inr a) :: ar) (E := E) S hK hX
      rw [hav] at hM hpre hstk
      have hstk2 : st.map (si_v E) = (ar.map (si_v E)).reverse ++ .ref (si_ad E a) :: (ai_drops (ai_nar si_t y) st).map (si_v E) := by
        rw [hstk]
        simp
      have hal : (ar.map (si_v E)).length = u.2.2.1 - 1 := by
        have : ar.length + 1 = u.2.2.1 := hlen
        rw [List.length_map]
        omega
      by_cases hini : u.1.2.1 = true
      · have hmode : md % 3 = 2 := by
          rcases (by omega : md % 3 = 0 ∨ md % 3 = 1 ∨ md % 3 = 2) with q | q | q
          · have := (hm0 q).2
            rw [hini] at this
            cases this
          · exact absurd (hm1 q) hst
          · exact q
        have e1 := hop.2.2 hmode
        subst e1
        have hret : n3 = none := (k7 hini).1
        subst hret
        have hnm : n1.name = "<init>" := by
          rw [hini] at k2
          exact of_decide_eq_true k2.symm
        by_cases hnest : md < 3
        · exact si_after hk (va_runI ⟨hx, hb, hml, hown, hts⟩ hM ⟨callB_of (u.2.2.1 - 1) hts hgood rfl rfl rfl (hts _ w2) (hts _ (hlk hnest)) ⟨k3, k4, hpar⟩ hR, hnm, hts _ w5a⟩ ⟨si_blind, hpre⟩ rfl hal hsz hstk2 hWt hd hcb) S hb1 hb2 h
        · exact si_after hk (va_runIN ⟨hx, hb, hml, hown, hts⟩ hM ⟨va_cnB (u.2.2.1 - 1) hts hgood rfl rfl rfl (hNw (by omega)) (hts _ w2) ⟨k3, k4, hpar⟩ hR, hnm, hts _ w5a⟩ ⟨si_blind, hpre⟩ rfl hal hsz hstk2 hWt hd hcb) S hb1 hb2 h
      · have hini : u.1.2.1 = false := by
          cases hq : u.1.2.1
          · rfl
          · exact absurd hq hini
        have hmode : md % 3 = 0 := by
          rcases (by omega : md % 3 = 0 ∨ md % 3 = 1 ∨ md % 3 = 2) with q | q | q
          · exact q
          · exact absurd (hm1 q) hst
          · have := hm2 q
            rw [hini] at this
            cases this
        have e1 := hop.1 hmode
        subst e1
        have hrecv : ∃ cellB : Cell, H[si_ad E a]? = some cellB ∧ cellB.vm.isStatics = false ∧ s.vm.findClass n1.cls = some cellB.cls := by
          have := va_recv hK (S.1.at1 (a := a) (by omega) (si_cellO hrk (Nat.lt_succ_of_lt hrcv2.2.2))) (si_cl_all hrcv2.2.2) (q0 := 0) rfl
          rw [show n1.cls = si_RS u.1.1 from k1]
          exact this
        by_cases hnest : md < 3
        · exact si_after hk (va_runV ⟨hx, hb, hml, hown, hts⟩ hM ⟨callB_of (u.2.2.1 - 1) hts hgood rfl rfl rfl (hts _ w2) (hts _ (hlk hnest)) ⟨k3, k4, hpar⟩ hR, hts _ w5a, hts _ (w5b hini)⟩ ⟨si_blind, hrecv, hpre⟩ rfl hal hsz hstk2 hWt hd hcb) S hb1 hb2 h
        · exact si_after hk (va_runVN ⟨hx, hb, hml, hown, hts⟩ hM ⟨va_cnB (u.2.2.1 - 1) hts hgood rfl rfl rfl (hNw (by omega)) (hts _ w2) ⟨k3, k4, hpar⟩ hR, hts _ w5a, hts _ (w5b hini)⟩ ⟨si_blind, hrecv, hpre⟩ rfl hal hsz hstk2 hWt hd hcb) S hb1 hb2 h
end
