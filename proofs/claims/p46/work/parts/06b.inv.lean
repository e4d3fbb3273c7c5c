/-! Calls by their instruction, constants, ends; then any one instruction. -/
section
variable {p : Program} {l : Launch} {e : Env} {R : Room} {s : State} {m : MethodId} {args : Array Value} {below : List Frame} {meth : Method} {c : Code} {Q : State → Prop} {cc : ByteArray} {E : si_E} {nL : Nat}
variable {pc : Nat} {lo : List (Option ai_V)} {B : Nat × Nat} {I : ai_I} {J : ai_J} {Rf : ai_R} {G : ai_G} {H : Heap} {locs : List Loc} {cells slots : Nat} {ls : Array Slot}
/-- System.arraycopy of ints -/
theorem si_copy {a0 a : Nat} {rest : List Value} (hexec : p.tables.exec = Jvm.exec) (hb : c.code = cc) (hml : c.maxLocals = ls.size) {own : String} {index : Nat} (hown : s.vm.findClass own = some m.cls) (hlink : (Cond.methodLink own index arraycopyName).before args s = true) (hnat : (Cond.native arraycopyName).before args s = true) (hstat : (Cond.static arraycopyName).before args s = true) (hini : (Cond.initialized "java/lang/System").before args s = true)
    (hK : si_K E s) (S : si_S E s R nL H locs cells slots ls lo B I J Rf G) (k0 : G.1 a0 = 13) (k1 : G.1 a = 13) {sp dp n : Int32} (h1 : ¬ sp < 0) (h2 : ¬ dp < 0) (h3 : ¬ n < 0) (h4 : sp.toNatClampNeg + n.toNatClampNeg ≤ G.2.1 a0) (h5 : dp.toNatClampNeg + n.toNatClampNeg ≤ G.2.1 a)
    (hframes : 1 ≤ R.frames) (hlocals : (rest.map fun v => v.category).sum + (nativeFrameWords "java/lang/System" "arraycopy" 5 + 11) ≤ R.locals) (hdg : decode cc pc = .ok (.invokestatic index, 3))
    (kk : ∀ (H1 : Heap) (locs1 : List Loc), si_S E s R nL H1 locs1 cells slots ls lo B (va_up I a (va_cpy (I a0) (I a) sp.toNatClampNeg dp.toNatClampNeg n.toNatClampNeg)) J Rf G → W p l e R s m args below meth c H1 locs1 cells slots Q (F0 m (pc + 3) ls rest)) :
    W p l e R s m args below meth c H locs cells slots Q (F0 m pc ls (.int n :: .int dp :: .ref (si_ad E a) :: .int sp :: .ref (si_ad E a0) :: rest)) := by
  have nn : ∀ z : Int32, ¬ z < 0 → z.toInt = (z.toNatClampNeg : Int) := by
    intro z hz
    have hz0 : (0 : Int) ≤ z.toInt := by
      have := Int32.not_lt.mp hz
      simpa using Int32.le_iff_toInt_le.mp this
    show z.toInt = ((z.toInt.toNat : Nat) : Int)
    omega
  intro T hT X
  have hc0 : H[si_ad E a0]? = some (vp_cell (si_cA E 13) (G.2.1 a0, .inl (I a0))) := S.1.at1 (a := a0) (by omega) (si_cell13 k0) 0 _ rfl
  have hc1 : H[si_ad E a]? = some (vp_cell (si_cA E 13) (G.2.1 a, .inl (I a))) := S.1.at1 (a := a) (by omega) (si_cell13 k1) 0 _ rfl
  obtain ⟨-, kk0, hk0, cm0, hkk0⟩ := (hK.2 1 _ rfl).1 (G.2.1 a0) (fun j => .int (I a0 j))
  obtain ⟨-, kk1, hk1, cm1, hkk1⟩ := (hK.2 1 _ rfl).1 (G.2.1 a) (fun j => .int (I a j))
  obtain ⟨vm', X', step⟩ := X.arraycopy hexec hown hlink hnat hstat hini (src := si_ad E a0) (dst := si_ad E a) (cs := vp_cell (si_cA E 13) (G.2.1 a0, .inl (I a0))) (cd := vp_cell (si_cA E 13) (G.2.1 a, .inl (I a))) (srcPos := sp) (destPos := dp) (n := n) (by rw [hT]; exact hc0) (by rw [hT]; exact hc1)
    (fun _ h => by cases h) (fun _ h => by cases h) (fun h => by cases h) (fun h => by cases h) hk0 hk1 hkk0 hkk1 (by simp [refKind]) h1 h2 h3
    (by rw [nn sp h1, nn n h3]; show ¬ _ > ((arrV (si_cA E 13) (G.2.1 a0) (fun j => .int (I a0 j))).slots.size : Int); rw [arrV_size]; omega)
    (by rw [nn dp h2, nn n h3]; show ¬ _ > ((arrV (si_cA E 13) (G.2.1 a) (fun j => .int (I a j))).slots.size : Int); rw [arrV_size]; omega)
    (fun vm₁ _ i hi => by
      have e : (vp_cell (si_cA E 13) (G.2.1 a0, .inl (I a0))).slots.getD (sp.toNatClampNeg + i) .null = .int (I a0 (sp.toNatClampNeg + i)) := by
        show (arrV (si_cA E 13) (G.2.1 a0) (fun j => .int (I a0 j))).slots.getD _ _ = _
        rw [Array.getD_eq_getD_getElem?, arrV_read _ _ (by omega)]
        rfl
      refine ⟨?_, ?_⟩
      · rw [e]
        rfl
      · rw [e]
        exact trivial)
    (g := F0 m pc ls (.int n :: .int dp :: .ref (si_ad E a) :: .int sp :: .ref (si_ad E a0) :: rest)) rfl (by rw [hml]) (rest := rest) rfl (by rw [hb]; exact hdg) hframes (by show 2 * 0 + _ + _ ≤ _; omega)
  have e1 : copied (vp_cell (si_cA E 13) (G.2.1 a0, .inl (I a0))) (vp_cell (si_cA E 13) (G.2.1 a, .inl (I a))) sp dp n = vp_cell (si_cA E 13) (G.2.1 a, .inl (va_cpy (I a0) (I a) sp.toNatClampNeg dp.toNatClampNeg n.toNatClampNeg)) := va_copied (fun z => .int z) (si_cA E 13) (si_cA E 13) (I a0) (I a) h4
  rw [e1] at X' step
  have hl : si_ad E a < H.size := (Array.getElem?_eq_some_iff.mp hc1).1
  have hheap : ((T.setVm vm').setCell (si_ad E a) (vp_cell (si_cA E 13) (G.2.1 a, .inl (va_cpy (I a0) (I a) sp.toNatClampNeg dp.toNatClampNeg n.toNatClampNeg)))).heap = H.setIfInBounds (si_ad E a) (vp_cell (si_cA E 13) (G.2.1 a, .inl (va_cpy (I a0) (I a) sp.toNatClampNeg dp.toNatClampNeg n.toNatClampNeg))) := by rw [← hT]; rfl
  have oq : ∀ q : Nat, q ≠ si_ad E a → (H.setIfInBounds (si_ad E a) (vp_cell (si_cA E 13) (G.2.1 a, .inl (va_cpy (I a0) (I a) sp.toNatClampNeg dp.toNatClampNeg n.toNatClampNeg))))[q]? = H[q]? := fun q hq => by simp [Array.getElem?_setIfInBounds, Ne.symm hq]
  have hAa : si_A E (si_ad E a) := by
    have := S.1.2.2.1 a (by omega)
    have := S.1.2.1
    show E.1 < si_ad E a
    rw [si_ad_lt (by omega)]
    omega
  obtain ⟨t, a1, b1⟩ := kk _ _ ⟨S.1.put (a := a) (by omega) (by simp) oq (by
      rw [si_cell13 k1]
      show (H.setIfInBounds (si_ad E a) _)[si_ad E a]? = some _
      simp [Array.getElem?_setIfInBounds, hl, va_up]) (fun b hb => by simp [va_up, hb]) (fun b hb => rfl) (fun b hb => rfl), S.2.1, ⟨by simp; exact S.2.2.1.1, fun q g1 g2 => by
      rw [oq q (fun e => g2 (by rw [e]; exact hAa))]
      exact S.2.2.1.2.1 q g1 g2, fun q hq => by
      rcases List.mem_append.mp hq with h | h
      · exact S.2.2.1.2.2 q h
      · obtain ⟨z, -, hz⟩ := List.mem_map.mp h
        rw [← hz]
        exact hAa⟩, S.2.2.2⟩ _ hheap X'
  exact ⟨t, step t a1, b1⟩
end
theorem ai_cll_inv {t : ai_T} {call : ai_C} {y pc : Nat} {lo : List (Option ai_V)} {st : List ai_V} {B : Nat × Nat} {I : ai_I} {J : ai_J} {Rf : ai_R} {G : ai_G} {k : ai_K} (h : ai_cll t call y pc lo st B I J Rf G k) :
    ai_long (ai_nar t y) st = true ∧ (ai_bud t y).1 ≤ B.1 ∧ (ai_bud t y).2 ≤ B.2 ∧ ai_wgt (ai_drops (ai_nar t y) st) ≤ 8 ∧ ai_recv (ai_rcv t y) (ai_rvs (ai_takes (ai_nar t y) st) []) G.1 ∧ ∃ v I1 J1 R1 G1, call y (ai_rvs (ai_takes (ai_nar t y) st) []) I J Rf G v I1 J1 R1 G1 ∧
      k (pc + 3) lo (v.toList ++ ai_drops (ai_nar t y) st) (B.1 - (ai_bud t y).1, B.2 - (ai_bud t y).2) I1 J1 R1 G1 := by
  unfold ai_cll at h
  split at h
  · rename_i hb
    simp only [Bool.and_eq_true] at hb
    obtain ⟨h1, h2, h3, h4⟩ := hb
    exact ⟨h1, Nat.le_of_ble_eq_true h2, Nat.le_of_ble_eq_true h3, Nat.le_of_ble_eq_true h4, h.1, h.2⟩
  · exact h.elim
theorem ai_inv_y {t : ai_T} {F : ai_F} {call : ai_C} {ix pc y : Nat} {lo : List (Option ai_V)} {st : List ai_V} {B : Nat × Nat} {I : ai_I} {J : ai_J} {Rf : ai_R} {G : ai_G} {k : ai_K} (h : ai_inv t F call ix pc lo st B I J Rf G k) (hy : ai_mth t F.1 ix = y) (n1 : y < 990 ∨ y = 997 ∨ y = 996) : ai_cll t call y pc lo st B I J Rf G k := by
  unfold ai_inv at h
  rw [hy] at h
  split at h <;> first | (exfalso; omega) | exact h
/-- the mode of a call's instruction: 0 virtual, 1 static, 2 special -/
def si_ckM (o ix q : Nat) : Bool := match ai_lkp (si_mh o) ix with
  | some r => (match r.2 with
    | 9 => (match q with
      | 0 => decide (r.1 = 997 ∨ r.1 = 996)
      | 1 => decide (r.1 = 998 ∨ r.1 = 995 ∨ r.1 = 994 ∨ r.1 = 993)
      | _ => decide (r.1 = 999))
    | md => decide (md % 3 = q))
  | none => false
theorem si_ckM_spec {o ix q : Nat} (h : si_ckM o ix q = true) : ∃ y md, ai_lkp (si_mh o) ix = some (y, md) ∧ ai_mth si_t o ix = y ∧ ((md = 9 ∧ ((q = 0 ∧ (y = 997 ∨ y = 996)) ∨ (q = 1 ∧ (y = 998 ∨ y = 995 ∨ y = 994 ∨ y = 993)) ∨ (¬ q = 0 ∧ ¬ q = 1 ∧ y = 999))) ∨ (¬ md = 9 ∧ md % 3 = q)) := by
  unfold si_ckM at h
  cases hl : ai_lkp (si_mh o) ix with
  | none => rw [hl] at h; cases h
  | some r =>
    obtain ⟨y, md⟩ := r
    rw [hl] at h
    refine ⟨y, md, rfl, ?_, ?_⟩
    · show ((ai_lkp (si_mh o) ix).getD (1000, 9)).1 = y
      rw [hl]
      rfl
    · simp only at h
      split at h
      · split at h
        · exact Or.inl ⟨rfl, Or.inl ⟨rfl, of_decide_eq_true h⟩⟩
        · exact Or.inl ⟨rfl, Or.inr (Or.inl ⟨rfl, of_decide_eq_true h⟩)⟩
        · rename_i n0 n1
          exact Or.inl ⟨rfl, Or.inr (Or.inr ⟨n0, n1, of_decide_eq_true h⟩)⟩
      · rename_i e
        exact Or.inr ⟨e, of_decide_eq_true h⟩
theorem si_cchk_spec {o : Nat} : ∀ {l : List (Nat × ai_V)} {ps : List Nat}, si_cchk o l ps = true → ∀ (ix : Nat) (v : ai_V), ai_lkp l ix = some v → ∃ q, si_cchk1 o (ix, v) q = true
  | [], _, _, ix, v, h => by cases h
  | r :: l, [], hc, ix, v, h => by cases hc
  | r :: l, q :: ps, hc, ix, v, h => by
    unfold si_cchk at hc
    simp only [Bool.and_eq_true] at hc
    obtain ⟨h1, h2⟩ := hc
    unfold ai_lkp at h
    by_cases e : r.1 = ix
    · rw [if_pos e] at h
      cases h
      have : (ix, r.2) = r := by rw [← e]
      rw [this]
      exact ⟨q, h1⟩
    · rw [if_neg e] at h
      exact si_cchk_spec h2 ix v h
theorem si_ct_all (o : Nat) : si_cchk o (si_ct o) (si_ctp o) = true := by
  by_cases h0 : o = 0
  · subst h0
    exact si_ck_0
  by_cases h2 : o = 2
  · subst h2
    exact si_ck_2
  by_cases h3 : o = 3
  · subst h3
    exact si_ck_3
  by_cases h5 : o = 5
  · subst h5
    exact si_ck_5
  by_cases h7 : o = 7
  · subst h7
    exact si_ck_7
  by_cases h8 : o = 8
  · subst h8
    exact si_ck_8
  by_cases h10 : o = 10
  · subst h10
    exact si_ck_10
  by_cases h21 : o = 21
  · subst h21
    exact si_ck_21
  by_cases h22 : o = 22
  · subst h22
    exact si_ck_22
  by_cases h23 : o = 23
  · subst h23
    exact si_ck_23
  have e : si_ct o = [] := by
    unfold si_ct
    split <;> first | contradiction | rfl
  rw [e]
  rfl
set_option maxRecDepth 100000 in
theorem si_txt_lt {a : Nat} {tx : List Nat} (h : ai_txt si_t a = some tx) : 2000 ≤ a ∧ a - 2000 < 15 := by
  change (si_nth si_tx (a - 2000)).bind (fun q => if a < 2000 then none else some q.2) = some tx at h
  have h2 : 2000 ≤ a := by
    rcases Nat.lt_or_ge a 2000 with q | q
    · exfalso
      cases hn : si_nth si_tx (a - 2000) with
      | none => rw [hn] at h; cases h
      | some u => rw [hn] at h; simp [q] at h
    · exact q
  refine ⟨h2, ?_⟩
  rcases Nat.lt_or_ge (a - 2000) 15 with q | q
  · exact q
  · exfalso
    have key : ∀ (l : List (Nat × List Nat)) (n : Nat), l.length ≤ n → si_nth l n = none := by
      intro l
      induction l with
      | nil => intro n _; rfl
      | cons u l ih =>
        intro n hn
        cases n with
        | zero => simp at hn
        | succ j => exact ih j (by simpa using hn)
    rw [key si_tx (a - 2000) q] at h
    cases h
section
variable {p : Program} {l : Launch} {e : Env} {R : Room} {s : State} {m : MethodId} {args : Array Value} {below : List Frame} {meth : Method} {c : Code} {Q : State → Prop} {cc : ByteArray} {E : si_E} {adV : Nat → Nat} {nL o d : Nat} {ini : Bool}
variable {F : ai_F} {call : ai_C} {post : ai_Q} {k : ai_K} {len pc : Nat} {lo : List (Option ai_V)} {st : List ai_V} {B : Nat × Nat} {I : ai_I} {J : ai_J} {Rf : ai_R} {G : ai_G} {H : Heap} {locs : List Loc} {cells slots : Nat} {ls : Array Slot}
theorem si_s_ldc {ix : Nat} {v : ai_V} (C0 : si_C p R s m args meth c cc E adV nL o ini) (hk : si_ok p l e R s m args below meth c Q E nL k) (S : si_S E s R nL H locs cells slots ls lo B I J Rf G) (hv : ai_lkp (si_ct o) ix = some v)
    (hd : (decode cc pc = .ok (.ldc ix, 2) ∧ len = 2 ∧ ai_cat v = 1) ∨ (decode cc pc = .ok (.ldc_w ix, 3) ∧ len = 3 ∧ ∃ x, v = .inl x) ∨ (decode cc pc = .ok (.ldc2_w ix, 3) ∧ len = 3 ∧ ∃ x, v = .inr (.inl x)))
    (h : k (pc + len) lo (v :: st) B I J Rf G) : W p l e R s m args below meth c H locs cells slots Q (F0 m pc ls (st.map (si_v E))) := by
  obtain ⟨hx, hb, hml, hown, hts, hK, hX, hin, hlaw, hz, hfr, hlo⟩ := C0
  obtain ⟨q, hq⟩ := si_cchk_spec (si_ct_all o) ix _ hv
  unfold si_cchk1 at hq
  rcases v with x | x | a
  · have hw := hts _ (si_good (si_at_mem (of_decide_eq_true hq)) rfl)
    rcases hd with ⟨hd, rfl, -⟩ | ⟨hd, rfl, -⟩ | ⟨hd, rfl, y, hy⟩
    · exact lv_ldc hx hb hown hw hd (hk _ _ _ _ _ _ _ _ _ _ _ _ _ h S)
    · exact lv_ldcw hx hb hown hw hd (hk _ _ _ _ _ _ _ _ _ _ _ _ _ h S)
    · cases hy
  · have hw := hts _ (si_good (si_at_mem (of_decide_eq_true hq)) rfl)
    rcases hd with ⟨hd, rfl, h2⟩ | ⟨hd, rfl, y, hy⟩ | ⟨hd, rfl, -⟩
    · cases h2
    · cases hy
    · exact lv_ldc2 hx hb hown hw hd (hk _ _ _ _ _ _ _ _ _ _ _ _ _ h S)
  · simp only [Bool.and_eq_true, decide_eq_true_eq] at hq
    obtain ⟨⟨ho, h2000⟩, hq⟩ := hq
    split at hq
    · rename_i u hu
      have hq := of_decide_eq_true hq
      obtain ⟨hq1, hq2⟩ := hq
      have hR := hX.2.2.1 _ _ hu
      rw [hq1, show 2000 + (a - 2000) = a by omega, ← ho] at hR
      rcases hd with ⟨hd, rfl, h2⟩ | ⟨hd, rfl, y, hy⟩ | ⟨hd, rfl, y, hy⟩
      · have hh := hk _ _ _ _ _ _ _ _ _ _ _ _ _ h S
        rw [show (Sum.inr (Sum.inr a) :: st : List ai_V).map (si_v E) = si_v E (.inr (.inr a)) :: st.map (si_v E) from rfl, si_v_pos (by omega)] at hh
        exact va_ldcS hx hb hown hR hd hh
      · cases hy
      · cases hy
    · cases hq
/-- a call of String.length, String.charAt -/
theorem si_inv_str {ix y : Nat} {as : List ai_V} {v : Option ai_V} {I1 : ai_I} {J1 : ai_J} {R1 : ai_R} {G1 : ai_G} (C0 : si_C p R s m args meth c cc E adV nL o ini) (hk : si_ok p l e R s m args below meth c Q E nL k) (hd : decode cc pc = .ok (.invokevirtual ix, 3)) (S : si_S E s R nL H locs cells slots ls lo B I J Rf G)
    (hy : ai_lkp (si_mh o) ix = some (y, 9)) (h2 : y = 997 ∨ y = 996) (hfr : d + 1 ≤ R.frames) (hlo : 42 * d + 42 ≤ R.locals)
    (has : ai_rvs (ai_takes (ai_nar si_t y) st) [] = as) (hlong : ai_long (ai_nar si_t y) st = true) (hwt : ai_wgt (ai_drops (ai_nar si_t y) st) ≤ 8)
    (hM : (∃ (a : Nat) (r : List ai_V) (tx : List Nat), as = .inr (.inr a) :: r ∧ ai_txt si_t a = some tx) ∧ si_Met l E adV d (si_sn y) (si_smx y) y as I J Rf G v I1 J1 R1 G1)
    (h : k (pc + 3) lo (v.toList ++ ai_drops (ai_nar si_t y) st) (B.1, B.2) I1 J1 R1 G1) : W p l e R s m args below meth c H locs cells slots Q (F0 m pc ls (st.map (si_v E))) := by
  obtain ⟨hx, hb, hml, hown, hts, hK, hX, hin, hlaw, hz, -, -⟩ := C0
  obtain ⟨⟨a, ar, tx, rfl, htx⟩, hM⟩ := hM
  obtain ⟨t1, t2⟩ := si_txt_lt htx
  obtain ⟨hm, q, hq⟩ := si_mchk_spec (si_mh_all o) ix _ hy
  unfold si_Met at hM
  have hlen := si_as_len has hlong
  have hWt : 2 * (F0 m pc ls (st.map (si_v E))).monitorRoom + (((ai_drops (ai_nar si_t y) st).map (si_v E)).map fun v => v.category).sum ≤ 8 := lv_room (by rw [si_wgt]; exact hwt)
  have hstk := si_stk (E := E) has
  have hsz : (F0 m pc ls (st.map (si_v E))).locals.size = nL := S.2.1.1
  have hav : (Sum.inr (Sum.inr a) :: ar : List ai_V).map (si_v E) = .ref (si_ad E a) :: ar.map (si_v E) := by
    rw [← si_v_pos (by omega)]
    rfl
  have hpre := si_pre (as := .inr (.inr a) :: ar) (E := E) S hK hX
  rw [hav] at hM hpre hstk
  have hstk2 : st.map (si_v E) = (ar.map (si_v E)).reverse ++ .ref (si_ad E a) :: (ai_drops (ai_nar si_t y) st).map (si_v E) := by
    rw [hstk]
    simp
  have hrecv : ∃ cellB : Cell, H[si_ad E a]? = some cellB ∧ cellB.vm.isStatics = false ∧ s.vm.findClass "java/lang/String" = some cellB.cls := by
    have := vk_recv hX.2.2.2.1 t2 S.2.2.1
    rw [show 2000 + (a - 2000) = a by omega] at this
    exact this
  have hR : ∀ x, x ≤ 2 → (si_rm d y).frames + 1 ≤ R.frames ∧ 8 + (x + 11) + (si_rm d y).locals ≤ R.locals := fun x hx2 => ⟨hfr, by show 8 + (x + 11) + 42 * d ≤ _; omega⟩
  have hini := hts _ (si_good si_w_13 rfl)
  rcases h2 with rfl | rfl
  · have hcb : cells + (si_bl 997).1 ≤ R.cells ∧ slots + (si_bl 997).2 ≤ R.slots := ⟨by have := S.2.2.2.1; show cells + 0 ≤ _; omega, by have := S.2.2.2.2; show slots + 0 ≤ _; omega⟩
    have hlk : Cond.methodLink (si_RS o) ix ⟨"java/lang/String", "length", "()I"⟩ ∈ si_aTs := si_good (si_at_mem (of_decide_eq_true hq).1) rfl
    exact si_after hk (va_runV ⟨hx, hb, hml, hown, hts⟩ hM ⟨callB_of 0 hts (si_goodIn (si_good si_wt_0 rfl)) rfl rfl rfl hini (hts _ hlk) ⟨by decide, by decide, by decide +kernel⟩ (hR 1 (by decide)), hts _ (si_good si_w_14 rfl), hts _ (si_good si_w_15 rfl)⟩ ⟨si_blind, hrecv, hpre⟩ rfl (by
      have : ar.length + 1 = 1 := hlen
      rw [List.length_map]
      omega) hsz hstk2 hWt hd hcb) S (Nat.zero_le _) (Nat.zero_le _) h
  · have hcb : cells + (si_bl 996).1 ≤ R.cells ∧ slots + (si_bl 996).2 ≤ R.slots := ⟨by have := S.2.2.2.1; show cells + 0 ≤ _; omega, by have := S.2.2.2.2; show slots + 0 ≤ _; omega⟩
    have hlk : Cond.methodLink (si_RS o) ix ⟨"java/lang/String", "charAt", "(I)C"⟩ ∈ si_aTs := si_good (si_at_mem (of_decide_eq_true hq).1) rfl
    exact si_after hk (va_runV ⟨hx, hb, hml, hown, hts⟩ hM ⟨callB_of 1 hts (si_goodIn (si_good si_wt_1 rfl)) rfl rfl rfl hini (hts _ hlk) ⟨by decide, by decide, by decide +kernel⟩ (hR 2 (by decide)), hts _ (si_good si_w_16 rfl), hts _ (si_good si_w_17 rfl)⟩ ⟨si_blind, hrecv, hpre⟩ rfl (by
      have : ar.length + 1 = 2 := hlen
      rw [List.length_map]
      omega) hsz hstk2 hWt hd hcb) S (Nat.zero_le _) (Nat.zero_le _) h
/-- a call, virtual -/
theorem si_s_invoke {ix q : Nat} {op : Instr} (hop : (q = 0 ∧ op = .invokevirtual ix) ∨ (q = 1 ∧ op = .invokestatic ix) ∨ (q = 2 ∧ op = .invokespecial ix)) (C0 : si_C p R s m args meth c cc E adV nL o ini) (hk : si_ok p l e R s m args below meth c Q E nL k) (hd : decode cc pc = .ok (op, 3)) (hF : F.1 = o) (hck : si_ckM o ix q = true)
    (hcall : si_call l E adV d call) (hfr : d + 1 ≤ R.frames) (hlo : 42 * d + 42 ≤ R.locals) (S : si_S E s R nL H locs cells slots ls lo B I J Rf G) (h : ai_inv si_t F call ix pc lo st B I J Rf G k) : W p l e R s m args below meth c H locs cells slots Q (F0 m pc ls (st.map (si_v E))) := by
  obtain ⟨y, md, hl, hy, hm⟩ := si_ckM_spec hck
  have hy2 : ai_mth si_t F.1 ix = y := by rw [hF]; exact hy
  obtain ⟨hm1, qq, hq⟩ := si_mchk_spec (si_mh_all o) ix _ hl
  have C1 := C0
  obtain ⟨hx, hb, hml, hown, hts, hK, hX, hin, hlaw, hz, hfr1, hlo1⟩ := C1
  rcases hm with ⟨rfl, hm⟩ | ⟨hmd, hmq⟩
  · rcases hm with ⟨rfl, hm⟩ | ⟨rfl, hm⟩ | ⟨n0, n1, rfl⟩
    · have e1 : op = .invokevirtual ix := by
        rcases hop with ⟨-, e1⟩ | ⟨e1, -⟩ | ⟨e1, -⟩
        · exact e1
        · cases e1
        · cases e1
      subst e1
      obtain ⟨g1, g2, g3, g4, g5, v, I1, J1, R1, G1, g6, g7⟩ := ai_cll_inv (ai_inv_y h hy2 (Or.inr hm))
      have hb0 : ai_bud si_t y = (0, 0) := by rcases hm with rfl | rfl <;> rfl
      rw [hb0] at g7
      exact si_inv_str C0 hk hd S hl hm hfr hlo rfl g1 g4 ((hcall _ _ _ _ _ _ _ _ _ _ _ g6).2 hm) g7
    · have e1 : op = .invokestatic ix := by
        rcases hop with ⟨e1, -⟩ | ⟨-, e1⟩ | ⟨e1, -⟩
        · cases e1
        · exact e1
        · cases e1
      subst e1
      unfold ai_inv at h
      rw [hy2] at h
      unfold si_mchk1 at hq
      rcases hm with rfl | rfl | rfl | rfl
      · change (match (generalizing := false) st with
          | .inl n :: .inl dp :: .inr (.inr a) :: .inl sp :: .inr (.inr a0) :: r => ai_cpyOk G.1 G.2.1 a0 a sp dp n ∧ ai_wgt r ≤ 8 ∧ k (pc + 3) lo r B (va_up I a (va_cpy (I a0) (I a) sp.toNatClampNeg dp.toNatClampNeg n.toNatClampNeg)) J Rf G
          | _ => False) at h
        split at h
        · rename_i n dp a sp a0 r
          obtain ⟨⟨k0, k1, p1, p2, p3, p4, p5⟩, hw, h⟩ := h
          have ha := (S.1.2.2.1 a (by omega))
          have ha0 := (S.1.2.2.1 a0 (by omega)).1
          have hlk : Cond.methodLink (si_RS o) ix arraycopyName ∈ si_aTs := si_good (si_at_mem (of_decide_eq_true hq)) rfl
          rw [show (Sum.inl n :: Sum.inl dp :: Sum.inr (Sum.inr a) :: Sum.inl sp :: Sum.inr (Sum.inr a0) :: r : List ai_V).map (si_v E) = .int n :: .int dp :: si_v E (.inr (.inr a)) :: .int sp :: si_v E (.inr (.inr a0)) :: r.map (si_v E) from rfl, si_v_pos ha.1, si_v_pos ha0]
          refine si_copy hx hb (hml.trans S.2.1.1.symm) hown (hts _ hlk) (hts _ (si_good si_w_2 rfl)) (hts _ (si_good si_w_3 rfl)) (hts _ (si_good si_w_4 rfl)) hK S k0 k1 p1 p2 p3 p4 p5 hfr1 (by rw [si_wgt]; show _ + (7 + 11) ≤ _; omega) hd (fun H1 locs1 S1 => ?_)
          exact hk _ _ _ _ _ _ _ _ _ _ _ _ _ h S1
        · exact h.elim
      · change (match (generalizing := false) st with
          | .inl y :: .inl x :: r => ai_wgt r ≤ 8 ∧ k (pc + 3) lo (.inl (if x < y then y else x) :: r) B I J Rf G
          | _ => False) at h
        split at h
        · exact va_mmax hx hb (hml.trans S.2.1.1.symm) hown (hts _ (si_good (si_at_mem (of_decide_eq_true hq)) rfl)) (hts _ (si_good si_w_10 rfl)) (hts _ (si_good si_w_9 rfl)) (hts _ (si_good si_wm_0 rfl)) hfr1 (by rw [si_wgt]; omega) (by have := S.2.2.2.1; omega) (by have := S.2.2.2.2; omega) hd (hk _ _ _ _ _ _ _ _ _ _ _ _ _ h.2 S)
        · exact h.elim
      · change (match (generalizing := false) st with
          | .inl y :: .inl x :: r => ai_wgt r ≤ 8 ∧ k (pc + 3) lo (.inl (if y < x then y else x) :: r) B I J Rf G
          | _ => False) at h
        split at h
        · exact va_mmin hx hb (hml.trans S.2.1.1.symm) hown (hts _ (si_good (si_at_mem (of_decide_eq_true hq)) rfl)) (hts _ (si_good si_w_11 rfl)) (hts _ (si_good si_w_9 rfl)) (hts _ (si_good si_wm_1 rfl)) hfr1 (by rw [si_wgt]; omega) (by have := S.2.2.2.1; omega) (by have := S.2.2.2.2; omega) hd (hk _ _ _ _ _ _ _ _ _ _ _ _ _ h.2 S)
        · exact h.elim
      · change (match (generalizing := false) st with
          | .inl x :: r => ai_wgt r ≤ 8 ∧ k (pc + 3) lo (.inl (if 0 ≤ x then x else 0 - x) :: r) B I J Rf G
          | _ => False) at h
        split at h
        · exact va_mabs hx hb (hml.trans S.2.1.1.symm) hown (hts _ (si_good (si_at_mem (of_decide_eq_true hq)) rfl)) (hts _ (si_good si_w_12 rfl)) (hts _ (si_good si_w_9 rfl)) (hts _ (si_good si_wm_2 rfl)) hfr1 (by rw [si_wgt]; omega) (by have := S.2.2.2.1; omega) (by have := S.2.2.2.2; omega) hd (hk _ _ _ _ _ _ _ _ _ _ _ _ _ h.2 S)
        · exact h.elim
    · have e1 : op = .invokespecial ix := by
        rcases hop with ⟨e1, -⟩ | ⟨e1, -⟩ | ⟨-, e1⟩
        · exact absurd e1 n0
        · exact absurd e1 n1
        · exact e1
      subst e1
      unfold ai_inv at h
      rw [hy2] at h
      unfold si_mchk1 at hq
      change (match (generalizing := false) st with
        | .inr (.inr a) :: r => ¬ a = 0 ∧ ai_wgt r ≤ 8 ∧ k (pc + 3) lo r B I J Rf G
        | _ => False) at h
      split at h
      · rename_i a r
        rw [show (Sum.inr (Sum.inr a) :: r : List ai_V).map (si_v E) = si_v E (.inr (.inr a)) :: r.map (si_v E) from rfl, si_v_pos (by have := h.1; omega)]
        exact W.objInit hx hb hown (hts _ (si_good (si_at_mem (of_decide_eq_true hq)) rfl)) (hts _ (si_good si_w_1 rfl)) (hts _ (si_good si_w_0 rfl)) rfl (S.2.1.1.trans hml.symm) rfl hd hfr1 (Nat.le_trans (Nat.add_le_add_right (lv_room (by rw [si_wgt]; exact h.2.1)) 12) (by omega)) (hk _ _ _ _ _ _ _ _ _ _ _ _ _ h.2.2 S)
      · exact h.elim
  · obtain ⟨hy333, -⟩ := si_link hl hmd
    obtain ⟨g1, g2, g3, g4, g5, v, I1, J1, R1, G1, g6, g7⟩ := ai_cll_inv (ai_inv_y h hy2 (Or.inl (by omega)))
    refine si_inv_tbl C0 hk hd S hl hmd ⟨fun z => ?_, fun z => ?_, fun z => ?_⟩ hfr hlo rfl g1 g2 g3 g4 g5 ((hcall _ _ _ _ _ _ _ _ _ _ _ g6).1 hy333) g7
    · rcases hop with ⟨e0, e1⟩ | ⟨e0, e1⟩ | ⟨e0, e1⟩
      · exact e1
      · omega
      · omega
    · rcases hop with ⟨e0, e1⟩ | ⟨e0, e1⟩ | ⟨e0, e1⟩
      · omega
      · exact e1
      · omega
    · rcases hop with ⟨e0, e1⟩ | ⟨e0, e1⟩ | ⟨e0, e1⟩
      · omega
      · omega
      · exact e1
end
