/-! String.length and String.charAt, as the JDK has them, over the string constants. -/
set_option maxRecDepth 100000 in
theorem st_w_155 : Cond.initialized "java/lang/StringLatin1" ∈ lw_tbl := List.mem_of_getElem? (i := 57) (by decide +kernel)
set_option maxRecDepth 100000 in
theorem st_w_156 : Cond.initialized "jdk/internal/util/Preconditions" ∈ lw_tbl := List.mem_of_getElem? (i := 58) (by decide +kernel)
set_option maxRecDepth 100000 in
theorem st_w_587 : Cond.methodLink "java/lang/String" 335 ⟨"java/lang/String", "coder", "()B"⟩ ∈ lw_tbl := List.mem_of_getElem? (i := 707) (by decide +kernel)
set_option maxRecDepth 100000 in
theorem st_w_588 : Cond.instanceMethod ⟨"java/lang/String", "coder", "()B"⟩ ∈ lw_tbl := List.mem_of_getElem? (i := 708) (by decide +kernel)
set_option maxRecDepth 100000 in
theorem st_w_589 : Cond.selects "java/lang/String" ⟨"java/lang/String", "coder", "()B"⟩ ⟨"java/lang/String", "coder", "()B"⟩ ∈ lw_tbl := List.mem_of_getElem? (i := 709) (by decide +kernel)
set_option maxRecDepth 100000 in
theorem st_w_590 : Cond.code ⟨"java/lang/String", "coder", "()B"⟩ prog_17_method_152_code 1 (some .byte) ∈ lw_tbl := List.mem_of_getElem? (i := 710) (si_isC_eq (by decide +kernel))
set_option maxRecDepth 100000 in
theorem st_w_591 : Cond.fieldLink "java/lang/String" 38 "java/lang/String" "COMPACT_STRINGS" "Z" ∈ lw_tbl := List.mem_of_getElem? (i := 711) (by decide +kernel)
set_option maxRecDepth 100000 in
theorem st_w_597 : Cond.methodLink "java/lang/String" 492 ⟨"java/lang/String", "isLatin1", "()Z"⟩ ∈ lw_tbl := List.mem_of_getElem? (i := 717) (by decide +kernel)
set_option maxRecDepth 100000 in
theorem st_w_598 : Cond.instanceMethod ⟨"java/lang/String", "isLatin1", "()Z"⟩ ∈ lw_tbl := List.mem_of_getElem? (i := 718) (by decide +kernel)
set_option maxRecDepth 100000 in
theorem st_w_599 : Cond.selects "java/lang/String" ⟨"java/lang/String", "isLatin1", "()Z"⟩ ⟨"java/lang/String", "isLatin1", "()Z"⟩ ∈ lw_tbl := List.mem_of_getElem? (i := 719) (by decide +kernel)
set_option maxRecDepth 100000 in
theorem st_w_600 : Cond.code ⟨"java/lang/String", "isLatin1", "()Z"⟩ prog_17_method_154_code 1 (some .boolean) ∈ lw_tbl := List.mem_of_getElem? (i := 720) (si_isC_eq (by decide +kernel))
set_option maxRecDepth 100000 in
theorem st_w_601 : Cond.methodLink "java/lang/String" 495 ⟨"java/lang/StringLatin1", "charAt", "([BI)C"⟩ ∈ lw_tbl := List.mem_of_getElem? (i := 721) (by decide +kernel)
set_option maxRecDepth 100000 in
theorem st_w_602 : Cond.static ⟨"java/lang/StringLatin1", "charAt", "([BI)C"⟩ ∈ lw_tbl := List.mem_of_getElem? (i := 722) (by decide +kernel)
set_option maxRecDepth 100000 in
theorem st_w_603 : Cond.code ⟨"java/lang/StringLatin1", "charAt", "([BI)C"⟩ prog_18_method_2_code 2 (some .char) ∈ lw_tbl := List.mem_of_getElem? (i := 723) (si_isC_eq (by decide +kernel))
set_option maxRecDepth 100000 in
theorem st_w_604 : Cond.methodLink "java/lang/StringLatin1" 9 ⟨"java/lang/String", "checkIndex", "(II)V"⟩ ∈ lw_tbl := List.mem_of_getElem? (i := 724) (by decide +kernel)
set_option maxRecDepth 100000 in
theorem st_w_605 : Cond.static ⟨"java/lang/String", "checkIndex", "(II)V"⟩ ∈ lw_tbl := List.mem_of_getElem? (i := 725) (by decide +kernel)
set_option maxRecDepth 100000 in
theorem st_w_606 : Cond.code ⟨"java/lang/String", "checkIndex", "(II)V"⟩ prog_17_method_155_code 2 none ∈ lw_tbl := List.mem_of_getElem? (i := 726) (si_isC_eq (by decide +kernel))
set_option maxRecDepth 100000 in
theorem st_w_607 : Cond.fieldLink "java/lang/String" 1053 "jdk/internal/util/Preconditions" "SIOOBE_FORMATTER" "Ljava/util/function/BiFunction;" ∈ lw_tbl := List.mem_of_getElem? (i := 727) (by decide +kernel)
set_option maxRecDepth 100000 in
theorem st_w_609 : Cond.methodLink "java/lang/String" 1059 ⟨"jdk/internal/util/Preconditions", "checkIndex", "(IILjava/util/function/BiFunction;)I"⟩ ∈ lw_tbl := List.mem_of_getElem? (i := 729) (by decide +kernel)
set_option maxRecDepth 100000 in
theorem st_w_610 : Cond.static ⟨"jdk/internal/util/Preconditions", "checkIndex", "(IILjava/util/function/BiFunction;)I"⟩ ∈ lw_tbl := List.mem_of_getElem? (i := 730) (by decide +kernel)
set_option maxRecDepth 100000 in
theorem st_w_611 : Cond.code ⟨"jdk/internal/util/Preconditions", "checkIndex", "(IILjava/util/function/BiFunction;)I"⟩ prog_22_method_11_code 3 (some .int) ∈ lw_tbl := List.mem_of_getElem? (i := 731) (si_isC_eq (by decide +kernel))
set_option maxRecDepth 100000 in
theorem st_w_2048 : Cond.fieldLink "java/lang/String" 9 "java/lang/String" "value" "[B" ∈ lw_tbl := List.mem_of_getElem? (i := 953) (by decide +kernel)
set_option maxRecDepth 100000 in
theorem st_w_2049 : Cond.fieldLink "java/lang/String" 15 "java/lang/String" "coder" "B" ∈ lw_tbl := List.mem_of_getElem? (i := 954) (by decide +kernel)
section
variable {l : Launch} {E : si_E} {adV : Nat → Nat} {I : ai_I} {J : ai_J} {Rf : ai_R} {G : ai_G}
theorem st_pre {s : State} {av : List Value} (hB : si_B E adV I J Rf G s) : ∀ U : State, U.heap = s.heap → s.WarmedH U.vm → va_Pc av (si_B E adV I J Rf G) av.toArray U := fun U hU hW =>
  ⟨rfl, by rw [hU]; exact hB.1, va_K.moved hW.alike hB.2.1, hB.2.2.warm hW (fun a _ _ => by rw [hU])⟩
/-- a method's frame at its start -/
theorem st_met {y : MethodName} {cc : ByteArray} {maxL k z : Nat} {ret : Option FieldType} {av : List Value} {Qc : Array Value → State → Outcome → State → Prop} {free : Addr → Prop} (hpl : plainName y.cls = true) (hlen : (lg_sl av).length ≤ maxL)
    (hh : ∀ (p : Program) (e : Env) (s : State) (m : MethodId) (below : List Frame) (meth : Method) (c : Code) (ls : Array Slot), p.tables.exec = Jvm.exec → c.code = cc → c.maxLocals = maxL → s.vm.findClass y.cls = some m.cls → (∀ w ∈ si_aTs, w.before av.toArray s = true) → si_B E adV I J Rf G s →
      lv_has ls maxL (lv_args 0 av) → meth.sig.returnType = ret → meth.locks = false → W p l e (si_rm k z) s m av.toArray below meth c s.heap [] 0 0 (MQ below Qc av.toArray s 0 0 free) (F0 m 0 ls [])) :
    Met l y (.code y cc maxL ret :: si_aTs) (si_rm k z) (va_Pc av (si_B E adV I J Rf G)) Qc 0 0 free := by
  refine Met.ofW (cc := cc) (maxL := maxL) (ret := ret) hpl rfl ?_
  intro p e s m args below meth c s₁ B hml hv
  obtain ⟨rfl, hB⟩ := hv
  have hts := atoms_spec B.pre
  rw [lg_entry_eq]
  exact hh p e s m below meth c _ B.exec B.bytes hml (findClass_of_methodNamed B.named) (fun w hw => hts w (List.mem_cons_of_mem _ hw)) hB (lv_entry av hlen) B.returns B.notSynchronized
theorem st_coder {i : Nat} (hi : i < 15) : Met l ⟨"java/lang/String", "coder", "()B"⟩ (.code ⟨"java/lang/String", "coder", "()B"⟩ prog_17_method_152_code 1 (some .byte) :: si_aTs) (si_rm 0 997) (va_Pc [.ref (si_ad E (2000 + i))] (si_B E adV I J Rf G)) (vp_Si (fun r => r = 0)) 0 0 (fun _ => False) := by
  refine st_met (by decide +kernel) (Nat.le_refl 1) ?_
  intro p e s m below meth c ls hx hb hml hown hts hB hl hret hlk
  obtain ⟨hP, hK, hX1, hX2, hX3, hS4, hZ, hZq⟩ := hB
  refine va_gets hx hb hZ va_S.rf hown (hts _ (si_good st_w_591 rfl)) (fun x h => h) (by decide +kernel) ?_
  refine lv_if_eq hx hb (off := 10) (tgt := 13) (by decide +kernel) (by decide) (fun h => absurd h (by decide)) (fun _ => ?_)
  refine lv_aload_n hx hb (k := 0) (by decide +kernel) rfl (lv_at hl 0 rfl) ?_
  refine vk_getf hx hb (hS4.1 i hi).2.1 va_S.rf hown (hts _ (si_good st_w_2049 rfl)) (fun x h => h) (by decide +kernel) ?_
  refine lv_goto hx hb (off := 4) (tgt := 14) (by decide +kernel) (by decide) ?_
  exact W.zret hx hb hret rfl (fun t ht hW => ⟨0, rfl, rfl, ht⟩) (fun q hq => by cases hq) (by decide +kernel) hlk
theorem st_latin {i : Nat} (hi : i < 15) : Met l ⟨"java/lang/String", "isLatin1", "()Z"⟩ (.code ⟨"java/lang/String", "isLatin1", "()Z"⟩ prog_17_method_154_code 1 (some .boolean) :: si_aTs) (si_rm 0 997) (va_Pc [.ref (si_ad E (2000 + i))] (si_B E adV I J Rf G)) (vp_Si (fun r => r = 1)) 0 0 (fun _ => False) := by
  refine st_met (by decide +kernel) (Nat.le_refl 1) ?_
  intro p e s m below meth c ls hx hb hml hown hts hB hl hret hlk
  obtain ⟨hP, hK, hX1, hX2, hX3, hS4, hZ, hZq⟩ := hB
  refine va_gets hx hb hZ va_S.rf hown (hts _ (si_good st_w_591 rfl)) (fun x h => h) (by decide +kernel) ?_
  refine lv_if_eq hx hb (off := 14) (tgt := 17) (by decide +kernel) (by decide) (fun h => absurd h (by decide)) (fun _ => ?_)
  refine lv_aload_n hx hb (k := 0) (by decide +kernel) rfl (lv_at hl 0 rfl) ?_
  refine vk_getf hx hb (hS4.1 i hi).2.1 va_S.rf hown (hts _ (si_good st_w_2049 rfl)) (fun x h => h) (by decide +kernel) ?_
  refine lv_if_ne hx hb (off := 7) (tgt := 17) (by decide +kernel) (by decide) (fun h => absurd rfl h) (fun _ => ?_)
  refine lv_iconst hx hb (n := 1) (v := 1) (by decide +kernel) (by decide) ?_
  refine lv_goto hx hb (off := 4) (tgt := 18) (by decide +kernel) (by decide) ?_
  exact W.zret hx hb hret rfl (fun t ht hW => ⟨1, rfl, rfl, ht⟩) (fun q hq => by cases hq) (by decide +kernel) hlk
theorem st_check {i n : Int32} {v : Value} (hv : (lg_sl [Value.int i, .int n, v]).length ≤ 3) (h0 : ¬ i < 0) (h1 : i < n) : Met l ⟨"jdk/internal/util/Preconditions", "checkIndex", "(IILjava/util/function/BiFunction;)I"⟩ (.code ⟨"jdk/internal/util/Preconditions", "checkIndex", "(IILjava/util/function/BiFunction;)I"⟩ prog_22_method_11_code 3 (some .int) :: si_aTs) (si_rm 0 997) (va_Pc [.int i, .int n, v] (si_B E adV I J Rf G)) (vp_Si (fun r => r = i)) 0 0 (fun _ => False) := by
  refine st_met (by decide +kernel) hv ?_
  intro p e s m below meth c ls hx hb hml hown hts hB hl hret hlk
  refine lv_iload_n hx hb (k := 0) (by decide +kernel) rfl (lv_at hl 0 rfl) ?_
  refine lv_if_lt hx hb (off := 8) (tgt := 9) (by decide +kernel) (by decide) (fun h => absurd h h0) (fun _ => ?_)
  refine lv_iload_n hx hb (k := 0) (by decide +kernel) rfl (lv_at hl 0 rfl) ?_
  refine lv_iload_n hx hb (k := 1) (by decide +kernel) rfl (lv_at hl 1 rfl) ?_
  refine lv_icmp_lt hx hb (off := 10) (tgt := 16) (by decide +kernel) (by decide) (fun _ => ?_) (fun h => absurd h1 h)
  refine lv_iload_n hx hb (k := 0) (by decide +kernel) rfl (lv_at hl 0 rfl) ?_
  exact W.zret hx hb hret rfl (fun t ht hW => ⟨i, rfl, rfl, ht⟩) (fun q hq => by cases hq) (by decide +kernel) hlk
theorem st_index {i n : Int32} (h0 : ¬ i < 0) (h1 : i < n) : Met l ⟨"java/lang/String", "checkIndex", "(II)V"⟩ (.code ⟨"java/lang/String", "checkIndex", "(II)V"⟩ prog_17_method_155_code 2 none :: si_aTs) (si_rm 1 997) (va_Pc [.int i, .int n] (si_B E adV I J Rf G)) (va_Sv (fun _ => True)) 0 0 (fun _ => False) := by
  refine st_met (by decide +kernel) (Nat.le_refl 2) ?_
  intro p e s m below meth c ls hx hb hml hown hts hB hl hret hlk
  have hpre := fun av => st_pre (av := av) hB
  obtain ⟨hP, hK, hX1, hX2, hX3, hS4, hZ, hZq⟩ := hB
  refine lv_iload_n hx hb (k := 0) (by decide +kernel) rfl (lv_at hl 0 rfl) ?_
  refine lv_iload_n hx hb (k := 1) (by decide +kernel) rfl (lv_at hl 1 rfl) ?_
  obtain ⟨v, hv, hZv⟩ : ∃ v, (lg_sl [Value.int i, .int n, v]).length ≤ 3 ∧ va_Z "jdk/internal/util/Preconditions" "SIOOBE_FORMATTER" "Ljava/util/function/BiFunction;" v (si_A E) s s.heap := by
    rcases hZq with h | ⟨t, h⟩
    · exact ⟨.null, Nat.le_refl 3, h⟩
    · exact ⟨.ref t, Nat.le_refl 3, h⟩
  refine va_gets hx hb hZv va_S.rf hown (hts _ (si_good st_w_607 rfl)) (fun x h => h) (by decide +kernel) ?_
  refine vp_callSi (rest := []) (va_runS ⟨hx, hb, hml, hown, hts⟩ (st_check hv h0 h1) ⟨callB_of 3 hts (si_goodIn (si_good st_w_611 rfl)) rfl rfl rfl (hts _ (si_good st_w_156 rfl)) (hts _ (si_good st_w_609 rfl)) ⟨by decide, by decide, by decide +kernel⟩ (by decide), hts _ (si_good st_w_610 rfl)⟩ ⟨si_blind, hpre _⟩ rfl rfl hl.1 rfl (Nat.le_of_ble_eq_true rfl) (by show decode prog_17_method_155_code 5 = _; decide +kernel) ⟨Nat.zero_le _, Nat.zero_le _⟩).run ?_
  intro r hr
  refine lv_pop hx hb (by decide +kernel) rfl ?_
  exact W.vret hx hb hret (fun t ht hW => ⟨rfl, trivial, ht⟩) (fun q hq => by cases hq) (by decide +kernel) hlk
theorem st_at {t n : Nat} {f : Nat → Value} {i x : Int32} (hT : ∀ s : State, si_B E adV I J Rf G s → va_T .byte t n f (si_A E) s s.heap) (h0 : ¬ i < 0) (h1 : i < Int32.ofNat n) (hin : vp_in i n) (hf : f i.toNatClampNeg = .int x) (hx : ((x &&& 255).toUInt32 % 65536).toInt32 = x) (hn : narrow .char (.int x) = .int x) : Met l ⟨"java/lang/StringLatin1", "charAt", "([BI)C"⟩ (.code ⟨"java/lang/StringLatin1", "charAt", "([BI)C"⟩ prog_18_method_2_code 2 (some .char) :: si_aTs) (si_rm 2 997) (va_Pc [.ref t, .int i] (si_B E adV I J Rf G)) (vp_Si (fun r => r = x)) 0 0 (fun _ => False) := by
  have hxc := hx
  refine st_met (by decide +kernel) (Nat.le_refl 2) ?_
  intro p e s m below meth c ls hx hb hml hown hts hB hl hret hlk
  have hpre := fun av => st_pre (av := av) hB
  have hT := hT s hB
  refine lv_iload_n hx hb (k := 1) (by decide +kernel) rfl (lv_at hl 1 rfl) ?_
  refine lv_aload_n hx hb (k := 0) (by decide +kernel) rfl (lv_at hl 0 rfl) ?_
  refine va_tlen hx hb hT va_S.rf rfl (by decide +kernel) ?_
  refine va_csv (rest := []) (va_runS ⟨hx, hb, hml, hown, hts⟩ (st_index h0 h1) ⟨callB_of 2 hts (si_goodIn (si_good st_w_606 rfl)) rfl rfl rfl (hts _ (si_good si_w_13 rfl)) (hts _ (si_good st_w_604 rfl)) ⟨by decide, by decide, by decide +kernel⟩ (by decide), hts _ (si_good st_w_605 rfl)⟩ ⟨si_blind, hpre _⟩ rfl rfl hl.1 rfl (Nat.le_of_ble_eq_true rfl) (by show decode prog_18_method_2_code 3 = _; decide +kernel) ⟨Nat.zero_le _, Nat.zero_le _⟩).run ?_
  intro _
  refine lv_aload_n hx hb (k := 0) (by decide +kernel) rfl (lv_at hl 0 rfl) ?_
  refine lv_iload_n hx hb (k := 1) (by decide +kernel) rfl (lv_at hl 1 rfl) ?_
  refine va_tb hx hb hT va_S.rf hin hf (by decide +kernel) ?_
  refine lv_sipush hx hb (n := 255) (v := 255) (by decide +kernel) (by decide) ?_
  refine lv_iand hx hb (by decide +kernel) ?_
  refine lv_i2c hx hb (v := x) (by decide +kernel) hxc ?_
  exact W.zret hx hb hret hn (fun t ht hW => ⟨x, rfl, rfl, ht⟩) (fun q hq => by cases hq) (by decide +kernel) hlk
theorem st_ch : ∀ c : Nat, c < 128 → ((Int32.ofNat c &&& 255).toUInt32 % 65536).toInt32 = Int32.ofNat c ∧ (Int32.ofNat c).toUInt32.toUInt16.toUInt32.toInt32 = Int32.ofNat c := by decide +kernel
def st_tc (k : Nat) : Bool := match si_nth si_tx k with
  | some q => decide (si_len.getD k 0 = q.2.length ∧ q.2.length < 100 ∧ ∀ j, j < q.2.length → (si_byt.getD k []).getD j 0 = Int32.ofNat (q.2.getD j 0) ∧ q.2.getD j 0 < 128)
  | none => true
theorem st_tcs : ∀ k, k < 15 → st_tc k = true := by decide +kernel
set_option maxRecDepth 10000 in
theorem st_tx {a : Nat} {tx : List Nat} (h : ai_txt si_t a = some tx) : ∃ k, k < 15 ∧ a = 2000 + k ∧ si_len.getD k 0 = tx.length ∧ tx.length < 100 ∧ ∀ j, j < tx.length → (si_byt.getD k []).getD j 0 = Int32.ofNat (tx.getD j 0) ∧ tx.getD j 0 < 128 := by
  obtain ⟨h1, h2⟩ := si_txt_lt h
  have h3 := st_tcs _ h2
  unfold st_tc at h3
  change (si_nth si_tx (a - 2000)).bind (fun q => if a < 2000 then none else some q.2) = some tx at h
  cases hq : si_nth si_tx (a - 2000) with
  | none => rw [hq] at h; cases h
  | some q =>
    rw [hq] at h h3
    change (if a < 2000 then none else some q.2) = some tx at h
    rw [if_neg (by omega)] at h
    cases h
    exact ⟨a - 2000, h2, by omega, of_decide_eq_true h3⟩
theorem st_lt {i : Int32} {n : Nat} (hn : n < 100) (h : ai_in i n) : ¬ i < 0 ∧ i < Int32.ofNat n := by
  refine ⟨fun q => h (Or.inl q), ?_⟩
  obtain ⟨j, hj, rfl⟩ := vp_in_of h (by omega)
  rw [Int32.lt_iff_toInt_lt]
  show (nI j).toInt < (nI n).toInt
  rw [nI_toInt (by omega), nI_toInt (by omega)]
  omega
theorem st_len {d k : Nat} {tx : List Nat} (hd : 4 ≤ d) (hk : k < 15) (h1 : si_len.getD k 0 = tx.length) : si_Met l E adV (d + 1) (si_sn 997) (si_smx 997) 997 [.inr (.inr (2000 + k))] I J Rf G (some (.inl (Int32.ofNat tx.length))) I J Rf G := by
  unfold si_Met
  rw [show ([.inr (.inr (2000 + k))] : List ai_V).map (si_v E) = [.ref (si_ad E (2000 + k))] by rw [← si_v_pos (by omega)]; rfl]
  refine st_met (y := ⟨"java/lang/String", "length", "()I"⟩) (by decide +kernel) (Nat.le_refl 1) ?_
  intro p e s m below meth c ls hx hb hml hown hts hB hl hret hlk
  have hpre := fun av => st_pre (av := av) hB
  have hB2 := hB
  obtain ⟨hP, hK, hX1, hX2, hX3, hS4, hZ, hZq⟩ := hB
  refine lv_aload_n hx hb (k := 0) (by decide +kernel) rfl (lv_at hl 0 rfl) ?_
  refine vk_getf hx hb (hS4.1 k hk).2.2.1 va_S.rf hown (hts _ (si_good st_w_2048 rfl)) (fun x h => h) (by decide +kernel) ?_
  refine va_tlen hx hb (hS4.1 k hk).2.2.2 va_S.rf (by rw [h1]) (by decide +kernel) ?_
  refine lv_aload_n hx hb (k := 0) (by decide +kernel) rfl (lv_at hl 0 rfl) ?_
  refine vp_callSi (rest := [.int (Int32.ofNat tx.length)]) (va_runV (As := []) ⟨hx, hb, hml, hown, hts⟩ (st_coder (i := k) hk) ⟨callB_of 0 hts (si_goodIn (si_good st_w_590 rfl)) rfl rfl rfl (hts _ (si_good si_w_13 rfl)) (hts _ (si_good st_w_587 rfl)) ⟨by decide, by decide, by decide +kernel⟩ ⟨by show 0 + 1 ≤ d + 1; omega, by show 8 + (1 + 11) + 42 * 0 ≤ 42 * (d + 1); omega⟩, hts _ (si_good st_w_588 rfl), hts _ (si_good st_w_589 rfl)⟩ ⟨si_blind, vk_recv hS4 hk va_S.rf, hpre _⟩ rfl rfl hl.1 rfl (Nat.le_of_ble_eq_true rfl) (by show decode prog_17_method_54_code 6 = _; decide +kernel) ⟨Nat.zero_le _, Nat.zero_le _⟩).run ?_
  intro r hr
  subst hr
  refine lv_ishr hx hb (by decide +kernel) ?_
  rw [show Int32.ofNat tx.length >>> ((0 : Int32) &&& 31) = Int32.ofNat tx.length by simp]
  exact W.zret hx hb hret rfl (fun t ht hW => ⟨rfl, by rw [ht]; exact hP, by rw [ht]; exact Nat.le_refl _, fun q _ _ => by rw [ht]⟩) (fun q hq => by cases hq) (by decide +kernel) hlk
theorem st_char {d k : Nat} {i : Int32} {tx : List Nat} (hd : 4 ≤ d) (hk : k < 15) (h1 : si_len.getD k 0 = tx.length) (h2 : tx.length < 100) (h3 : ∀ j, j < tx.length → (si_byt.getD k []).getD j 0 = Int32.ofNat (tx.getD j 0) ∧ tx.getD j 0 < 128) (hi : ai_in i tx.length) : si_Met l E adV (d + 1) (si_sn 996) (si_smx 996) 996 [.inr (.inr (2000 + k)), .inl i] I J Rf G (some (.inl (Int32.ofNat (tx.getD i.toNatClampNeg 0)))) I J Rf G := by
  obtain ⟨g1, g2⟩ := st_lt h2 hi
  have g3 : i.toNatClampNeg < tx.length := Nat.not_le.mp fun q => hi (Or.inr q)
  obtain ⟨g4, g5⟩ := h3 _ g3
  obtain ⟨g6, g7⟩ := st_ch _ g5
  unfold si_Met
  rw [show ([.inr (.inr (2000 + k)), .inl i] : List ai_V).map (si_v E) = [.ref (si_ad E (2000 + k)), .int i] by rw [← si_v_pos (by omega)]; rfl]
  refine st_met (y := ⟨"java/lang/String", "charAt", "(I)C"⟩) (by decide +kernel) (Nat.le_refl 2) ?_
  intro p e s m below meth c ls hx hb hml hown hts hB hl hret hlk
  have hpre := fun av => st_pre (av := av) hB
  obtain ⟨hP, hK, hX1, hX2, hX3, hS4, hZ, hZq⟩ := hB
  refine lv_aload_n hx hb (k := 0) (by decide +kernel) rfl (lv_at hl 0 rfl) ?_
  refine vp_callSi (rest := []) (va_runV (As := []) ⟨hx, hb, hml, hown, hts⟩ (st_latin (i := k) hk) ⟨callB_of 0 hts (si_goodIn (si_good st_w_600 rfl)) rfl rfl rfl (hts _ (si_good si_w_13 rfl)) (hts _ (si_good st_w_597 rfl)) ⟨by decide, by decide, by decide +kernel⟩ ⟨by show 0 + 1 ≤ d + 1; omega, by show 8 + (1 + 11) + 42 * 0 ≤ 42 * (d + 1); omega⟩, hts _ (si_good st_w_598 rfl), hts _ (si_good st_w_599 rfl)⟩ ⟨si_blind, vk_recv hS4 hk va_S.rf, hpre _⟩ rfl rfl hl.1 rfl (Nat.le_of_ble_eq_true rfl) (by show decode prog_17_method_56_code 1 = _; decide +kernel) ⟨Nat.zero_le _, Nat.zero_le _⟩).run ?_
  intro r hr
  subst hr
  refine lv_if_eq hx hb (off := 12) (tgt := 16) (by decide +kernel) (by decide) (fun h => absurd h (by decide)) (fun _ => ?_)
  refine lv_aload_n hx hb (k := 0) (by decide +kernel) rfl (lv_at hl 0 rfl) ?_
  refine vk_getf hx hb (hS4.1 k hk).2.2.1 va_S.rf hown (hts _ (si_good st_w_2048 rfl)) (fun x h => h) (by decide +kernel) ?_
  refine lv_iload_n hx hb (k := 1) (by decide +kernel) rfl (lv_at hl 1 rfl) ?_
  refine vp_callSi (rest := []) (va_runS (As := [.ref (adV k), .int i]) ⟨hx, hb, hml, hown, hts⟩ (st_at (l := l) (E := E) (adV := adV) (I := I) (J := J) (Rf := Rf) (G := G) (t := adV k) (n := si_len.getD k 0) (f := fun j => .int ((si_byt.getD k []).getD j 0)) (x := Int32.ofNat (tx.getD i.toNatClampNeg 0)) (fun s h => (h.2.2.2.2.2.1.1 k hk).2.2.2) g1 (by rw [h1]; exact g2) (by rw [h1]; exact hi) (by rw [g4]) g6 (by show Value.int _ = _; rw [g7])) ⟨callB_of 2 hts (si_goodIn (si_good st_w_603 rfl)) rfl rfl rfl (hts _ (si_good st_w_155 rfl)) (hts _ (si_good st_w_601 rfl)) ⟨by decide, by decide, by decide +kernel⟩ ⟨by show 2 + 1 ≤ d + 1; omega, by show 8 + (2 + 11) + 42 * 2 ≤ 42 * (d + 1); omega⟩, hts _ (si_good st_w_602 rfl)⟩ ⟨si_blind, hpre _⟩ rfl rfl hl.1 rfl (Nat.le_of_ble_eq_true rfl) (by show decode prog_17_method_56_code 12 = _; decide +kernel) ⟨Nat.zero_le _, Nat.zero_le _⟩).run ?_
  intro r hr
  subst hr
  exact W.zret hx hb hret (by show Value.int _ = _; rw [g7]) (fun t ht hW => ⟨rfl, by rw [ht]; exact hP, by rw [ht]; exact Nat.le_refl _, fun q _ _ => by rw [ht]⟩) (fun q hq => by cases hq) (by decide +kernel) hlk
end
theorem st_strs (l : Launch) (E : si_E) (adV : Nat → Nat) : si_strs l E adV := by
  intro d y as v I J Rf G hd h
  unfold ai_prm at h
  split at h
  · obtain ⟨tx, h1, rfl⟩ := h
    obtain ⟨k, hk, rfl, q1, q2, q3⟩ := st_tx h1
    exact st_len hd hk q1
  · obtain ⟨tx, h1, hi, rfl⟩ := h
    obtain ⟨k, hk, rfl, q1, q2, q3⟩ := st_tx h1
    exact st_char hd hk q1 q2 q3 hi
  · exact h.elim
