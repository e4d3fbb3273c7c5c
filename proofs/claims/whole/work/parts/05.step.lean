/-! One instruction of the abstract machine is one of the claim's machine: a row each. Printed by wip/whole/gen6.py. -/
def si_K (E : si_E) (U : State) : Prop := va_K (si_D E) si_cl (si_tys E) U
/-- the letters of the string constants, as their byte arrays hold them -/
def si_len : List Nat := si_tx.map (fun q => q.2.length)
def si_byt : List (List Int32) := si_tx.map (fun q => q.2.map (fun n => Int32.ofNat n))
/-- what else holds at a method's start: links of nest mates, the array class over valuations, the string constants -/
def si_X (E : si_E) (adV : Nat → Nat) (U : State) : Prop :=
  (∀ (o : Nat) (r : Nat × Nat × Nat) (n : MethodName × ByteArray × Option FieldType), r ∈ si_mh o → 3 ≤ r.2.2 → r.2.2 ≤ 5 → si_nq r.2.1 = some n → va_Nw (.methodLinkNest (si_RS o) r.1 n.1 "PricedBases") U) ∧ va_AO "PricedBases$Valuation" U ∧
  (∀ (k : Nat) (u : Nat × String), si_nth si_txs k = some u → vk_R (si_RS 0) u.1 u.2 (si_ad E (2000 + k)) U) ∧ vk_S 15 si_len si_byt (fun k => si_ad E (2000 + k)) adV (si_A E) U U.heap
/-- what a frame may lean on -/
def si_C (p : Program) (R : Room) (s : State) (m : MethodId) (args : Array Value) (meth : Method) (c : Code) (cc : ByteArray) (E : si_E) (adV : Nat → Nat) (nL o : Nat) (ini : Bool) : Prop :=
  p.tables.exec = Jvm.exec ∧ c.code = cc ∧ c.maxLocals = nL ∧ s.vm.findClass (si_RS o) = some m.cls ∧ (∀ w ∈ si_aTs, w.before args s = true) ∧ si_K E s ∧ si_X E adV s ∧ (ini = true → meth.name = "<init>") ∧
  (o = 21 → va_X E.2.1 E.2.2.1 E.2.2.2.1 s s.heap ∧ E.2.1 < s.heap.size ∧ E.2.1 ≤ E.1) ∧ E.1 < s.heap.size ∧ 1 ≤ R.frames ∧ 34 ≤ R.locals
def si_ok (p : Program) (l : Launch) (e : Env) (R : Room) (s : State) (m : MethodId) (args : Array Value) (below : List Frame) (meth : Method) (c : Code) (Q : State → Prop) (E : si_E) (nL : Nat) (k : ai_K) : Prop :=
  ∀ (pc : Nat) (lo : List (Option ai_V)) (st : List ai_V) (B : Nat × Nat) (I : ai_I) (J : ai_J) (Rf : ai_R) (G : ai_G) (H : Heap) (locs : List Loc) (cells slots : Nat) (ls : Array Slot),
    k pc lo st B I J Rf G → si_S E s R nL H locs cells slots ls lo B I J Rf G → W p l e R s m args below meth c H locs cells slots Q (F0 m pc ls (st.map (si_v E)))
theorem ai_tgt_eq {pc : Nat} {off : Int} (h : 0 ≤ (pc : Int) + off) : (pc : Int) + off = (ai_tgt pc off : Int) := by
  unfold ai_tgt
  omega
theorem ai_1I_inv {f : Int32 → Int32} {st : List ai_V} {k : List ai_V → Prop} (h : ai_1I f st k) : ∃ (x : Int32) (r : List ai_V), st = .inl x :: r ∧ k (.inl (f x) :: r) := by
  unfold ai_1I at h
  split at h
  · exact ⟨_, _, rfl, h⟩
  · exact h.elim
theorem ai_2I_inv {f : Int32 → Int32 → Int32} {st : List ai_V} {k : List ai_V → Prop} (h : ai_2I f st k) : ∃ (x y : Int32) (r : List ai_V), st = .inl y :: .inl x :: r ∧ k (.inl (f x y) :: r) := by
  unfold ai_2I at h
  split at h
  · exact ⟨_, _, _, rfl, h⟩
  · exact h.elim
theorem ai_2D_inv {f : Int32 → Int32 → Int32} {st : List ai_V} {k : List ai_V → Prop} (h : ai_2D f st k) : ∃ (x y : Int32) (r : List ai_V), st = .inl y :: .inl x :: r ∧ ¬ y = 0 ∧ k (.inl (f x y) :: r) := by
  unfold ai_2D at h
  split at h
  · exact ⟨_, _, _, rfl, h⟩
  · exact h.elim
theorem ai_2J_inv {f : Int64 → Int64 → Int64} {st : List ai_V} {k : List ai_V → Prop} (h : ai_2J f st k) : ∃ (x y : Int64) (r : List ai_V), st = .inr (.inl y) :: .inr (.inl x) :: r ∧ k (.inr (.inl (f x y)) :: r) := by
  unfold ai_2J at h
  split at h
  · exact ⟨_, _, _, rfl, h⟩
  · exact h.elim
theorem ai_2E_inv {f : Int64 → Int64 → Int64} {st : List ai_V} {k : List ai_V → Prop} (h : ai_2E f st k) : ∃ (x y : Int64) (r : List ai_V), st = .inr (.inl y) :: .inr (.inl x) :: r ∧ ¬ y = 0 ∧ k (.inr (.inl (f x y)) :: r) := by
  unfold ai_2E at h
  split at h
  · exact ⟨_, _, _, rfl, h⟩
  · exact h.elim
theorem ai_ldI_inv {lo : List (Option ai_V)} {i : Nat} {k : ai_V → Prop} (h : ai_ldI lo i k) : ∃ x : Int32, ai_loc lo i = some (.inl x) ∧ k (.inl x) := by
  unfold ai_ldI at h
  split at h
  · exact ⟨_, by assumption, h⟩
  · exact h.elim
theorem ai_ldJ_inv {lo : List (Option ai_V)} {i : Nat} {k : ai_V → Prop} (h : ai_ldJ lo i k) : ∃ x : Int64, ai_loc lo i = some (.inr (.inl x)) ∧ k (.inr (.inl x)) := by
  unfold ai_ldJ at h
  split at h
  · exact ⟨_, by assumption, h⟩
  · exact h.elim
theorem ai_ldR_inv {lo : List (Option ai_V)} {i : Nat} {k : ai_V → Prop} (h : ai_ldR lo i k) : ∃ x : Nat, ai_loc lo i = some (.inr (.inr x)) ∧ k (.inr (.inr x)) := by
  unfold ai_ldR at h
  split at h
  · exact ⟨_, by assumption, h⟩
  · exact h.elim
theorem ai_stI_inv {lo : List (Option ai_V)} {i : Nat} {st : List ai_V} {k : List (Option ai_V) → List ai_V → Prop} (h : ai_stI lo i st k) : ∃ (x : Int32) (r : List ai_V), st = .inl x :: r ∧ k (ai_put lo i (.inl x)) r := by
  unfold ai_stI at h
  split at h
  · exact ⟨_, _, rfl, h⟩
  · exact h.elim
theorem ai_stJ_inv {lo : List (Option ai_V)} {i : Nat} {st : List ai_V} {k : List (Option ai_V) → List ai_V → Prop} (h : ai_stJ lo i st k) : ∃ (x : Int64) (r : List ai_V), st = .inr (.inl x) :: r ∧ k (ai_putL lo i (.inr (.inl x))) r := by
  unfold ai_stJ at h
  split at h
  · exact ⟨_, _, rfl, h⟩
  · exact h.elim
theorem ai_stR_inv {lo : List (Option ai_V)} {i : Nat} {st : List ai_V} {k : List (Option ai_V) → List ai_V → Prop} (h : ai_stR lo i st k) : ∃ (x : Nat) (r : List ai_V), st = .inr (.inr x) :: r ∧ k (ai_put lo i (.inr (.inr x))) r := by
  unfold ai_stR at h
  split at h
  · exact ⟨_, _, rfl, h⟩
  · exact h.elim
theorem ai_sw_inv {x : Int32} {pc : Nat} {k : Nat → Prop} : ∀ (os : List Int) (lo : Int), ai_sw x pc k lo os → ∀ (i : Nat) (off : Int), os[i]? = some off → x.toInt = lo + (i : Int) → k (ai_tgt pc off)
  | [], _, _, i, off, h, _ => by simp at h
  | q :: os, lo, h, i, off, hi, hx => by
    cases i with
    | zero =>
      simp at hi
      subst hi
      exact h.1 (by simpa using hx)
    | succ j => exact ai_sw_inv os (lo + 1) h.2 j off (by simpa using hi) (by rw [hx]; push_cast; omega)
section
variable {p : Program} {l : Launch} {e : Env} {R : Room} {s : State} {m : MethodId} {args : Array Value} {below : List Frame} {meth : Method} {c : Code} {Q : State → Prop} {cc : ByteArray} {E : si_E} {adV : Nat → Nat} {nL o : Nat} {ini : Bool}
variable {t : ai_T} {F : ai_F} {call : ai_C} {post : ai_Q} {k : ai_K} {len pc : Nat} {lo : List (Option ai_V)} {st : List ai_V} {B : Nat × Nat} {I : ai_I} {J : ai_J} {Rf : ai_R} {G : ai_G} {H : Heap} {locs : List Loc} {cells slots : Nat} {ls : Array Slot}
theorem si_s_iconst (C0 : si_C p R s m args meth c cc E adV nL o ini) (hk : si_ok p l e R s m args below meth c Q E nL k) {n : Int} (hd : decode cc pc = .ok (.iconst n, len)) (hl : len = 1) (S : si_S E s R nL H locs cells slots ls lo B I J Rf G) (h : ai_stp t F call post (.iconst n) len pc lo st B I J Rf G k) : W p l e R s m args below meth c H locs cells slots Q (F0 m pc ls (st.map (si_v E))) := by
  obtain ⟨hx, hb, hml, hown, hts, hK, hX, hin, hlaw, hz, hfr, hlo⟩ := C0
  subst hl
  exact lv_iconst hx hb hd rfl (hk _ _ _ _ _ _ _ _ _ _ _ _ h S)
theorem si_s_bipush (C0 : si_C p R s m args meth c cc E adV nL o ini) (hk : si_ok p l e R s m args below meth c Q E nL k) {n : Int} (hd : decode cc pc = .ok (.bipush n, len)) (hl : len = 2) (S : si_S E s R nL H locs cells slots ls lo B I J Rf G) (h : ai_stp t F call post (.bipush n) len pc lo st B I J Rf G k) : W p l e R s m args below meth c H locs cells slots Q (F0 m pc ls (st.map (si_v E))) := by
  obtain ⟨hx, hb, hml, hown, hts, hK, hX, hin, hlaw, hz, hfr, hlo⟩ := C0
  subst hl
  exact lv_bipush hx hb hd rfl (hk _ _ _ _ _ _ _ _ _ _ _ _ h S)
theorem si_s_sipush (C0 : si_C p R s m args meth c cc E adV nL o ini) (hk : si_ok p l e R s m args below meth c Q E nL k) {n : Int} (hd : decode cc pc = .ok (.sipush n, len)) (hl : len = 3) (S : si_S E s R nL H locs cells slots ls lo B I J Rf G) (h : ai_stp t F call post (.sipush n) len pc lo st B I J Rf G k) : W p l e R s m args below meth c H locs cells slots Q (F0 m pc ls (st.map (si_v E))) := by
  obtain ⟨hx, hb, hml, hown, hts, hK, hX, hin, hlaw, hz, hfr, hlo⟩ := C0
  subst hl
  exact lv_sipush hx hb hd rfl (hk _ _ _ _ _ _ _ _ _ _ _ _ h S)
theorem si_s_lconst (C0 : si_C p R s m args meth c cc E adV nL o ini) (hk : si_ok p l e R s m args below meth c Q E nL k) {n : Fin 2} (hd : decode cc pc = .ok (.lconst n, len)) (hl : len = 1) (S : si_S E s R nL H locs cells slots ls lo B I J Rf G) (h : ai_stp t F call post (.lconst n) len pc lo st B I J Rf G k) : W p l e R s m args below meth c H locs cells slots Q (F0 m pc ls (st.map (si_v E))) := by
  obtain ⟨hx, hb, hml, hown, hts, hK, hX, hin, hlaw, hz, hfr, hlo⟩ := C0
  subst hl
  exact lv_lconst hx hb hd rfl (hk _ _ _ _ _ _ _ _ _ _ _ _ h S)
theorem si_s_aconst_null (C0 : si_C p R s m args meth c cc E adV nL o ini) (hk : si_ok p l e R s m args below meth c Q E nL k) (hd : decode cc pc = .ok (.aconst_null, len)) (hl : len = 1) (S : si_S E s R nL H locs cells slots ls lo B I J Rf G) (h : ai_stp t F call post (.aconst_null) len pc lo st B I J Rf G k) : W p l e R s m args below meth c H locs cells slots Q (F0 m pc ls (st.map (si_v E))) := by
  obtain ⟨hx, hb, hml, hown, hts, hK, hX, hin, hlaw, hz, hfr, hlo⟩ := C0
  subst hl
  exact lv_null hx hb hd (hk _ _ _ _ _ _ _ _ _ _ _ _ h S)
theorem si_s_iload (C0 : si_C p R s m args meth c cc E adV nL o ini) (hk : si_ok p l e R s m args below meth c Q E nL k) {i : Nat} (hd : decode cc pc = .ok (.iload i, len)) (hl : len = 2) (S : si_S E s R nL H locs cells slots ls lo B I J Rf G) (h : ai_stp t F call post (.iload i) len pc lo st B I J Rf G k) : W p l e R s m args below meth c H locs cells slots Q (F0 m pc ls (st.map (si_v E))) := by
  obtain ⟨hx, hb, hml, hown, hts, hK, hX, hin, hlaw, hz, hfr, hlo⟩ := C0
  subst hl
  obtain ⟨x, hv, h⟩ := ai_ldI_inv h
  exact lv_iload hx hb hd (S.2.1.2.2.2 i _ hv) (hk _ _ _ _ _ _ _ _ _ _ _ _ h S)
theorem si_s_iload_n (C0 : si_C p R s m args meth c cc E adV nL o ini) (hk : si_ok p l e R s m args below meth c Q E nL k) {i : Fin 4} (hd : decode cc pc = .ok (.iload_n i, len)) (hl : len = 1) (S : si_S E s R nL H locs cells slots ls lo B I J Rf G) (h : ai_stp t F call post (.iload_n i) len pc lo st B I J Rf G k) : W p l e R s m args below meth c H locs cells slots Q (F0 m pc ls (st.map (si_v E))) := by
  obtain ⟨hx, hb, hml, hown, hts, hK, hX, hin, hlaw, hz, hfr, hlo⟩ := C0
  subst hl
  obtain ⟨x, hv, h⟩ := ai_ldI_inv h
  exact lv_iload_n hx hb hd rfl (S.2.1.2.2.2 _ _ hv) (hk _ _ _ _ _ _ _ _ _ _ _ _ h S)
theorem si_s_lload (C0 : si_C p R s m args meth c cc E adV nL o ini) (hk : si_ok p l e R s m args below meth c Q E nL k) {i : Nat} (hd : decode cc pc = .ok (.lload i, len)) (hl : len = 2) (S : si_S E s R nL H locs cells slots ls lo B I J Rf G) (h : ai_stp t F call post (.lload i) len pc lo st B I J Rf G k) : W p l e R s m args below meth c H locs cells slots Q (F0 m pc ls (st.map (si_v E))) := by
  obtain ⟨hx, hb, hml, hown, hts, hK, hX, hin, hlaw, hz, hfr, hlo⟩ := C0
  subst hl
  obtain ⟨x, hv, h⟩ := ai_ldJ_inv h
  exact lv_lload hx hb hd (S.2.1.2.2.2 i _ hv) (hk _ _ _ _ _ _ _ _ _ _ _ _ h S)
theorem si_s_lload_n (C0 : si_C p R s m args meth c cc E adV nL o ini) (hk : si_ok p l e R s m args below meth c Q E nL k) {i : Fin 4} (hd : decode cc pc = .ok (.lload_n i, len)) (hl : len = 1) (S : si_S E s R nL H locs cells slots ls lo B I J Rf G) (h : ai_stp t F call post (.lload_n i) len pc lo st B I J Rf G k) : W p l e R s m args below meth c H locs cells slots Q (F0 m pc ls (st.map (si_v E))) := by
  obtain ⟨hx, hb, hml, hown, hts, hK, hX, hin, hlaw, hz, hfr, hlo⟩ := C0
  subst hl
  obtain ⟨x, hv, h⟩ := ai_ldJ_inv h
  exact lv_lload_n hx hb hd rfl (S.2.1.2.2.2 _ _ hv) (hk _ _ _ _ _ _ _ _ _ _ _ _ h S)
theorem si_s_aload (C0 : si_C p R s m args meth c cc E adV nL o ini) (hk : si_ok p l e R s m args below meth c Q E nL k) {i : Nat} (hd : decode cc pc = .ok (.aload i, len)) (hl : len = 2) (S : si_S E s R nL H locs cells slots ls lo B I J Rf G) (h : ai_stp t F call post (.aload i) len pc lo st B I J Rf G k) : W p l e R s m args below meth c H locs cells slots Q (F0 m pc ls (st.map (si_v E))) := by
  obtain ⟨hx, hb, hml, hown, hts, hK, hX, hin, hlaw, hz, hfr, hlo⟩ := C0
  subst hl
  obtain ⟨x, hv, h⟩ := ai_ldR_inv h
  have hv2 := S.2.1.2.2.2 _ _ hv
  cases x with
  | zero => exact lv_aloadN hx hb hd hv2 (hk _ _ _ _ _ _ _ _ _ _ _ _ h S)
  | succ q => exact lv_aload hx hb hd hv2 (hk _ _ _ _ _ _ _ _ _ _ _ _ h S)
theorem si_s_istore (C0 : si_C p R s m args meth c cc E adV nL o ini) (hk : si_ok p l e R s m args below meth c Q E nL k) {i : Nat} (hd : decode cc pc = .ok (.istore i, len)) (hl : len = 2) (hi : i < nL) (S : si_S E s R nL H locs cells slots ls lo B I J Rf G) (h : ai_stp t F call post (.istore i) len pc lo st B I J Rf G k) : W p l e R s m args below meth c H locs cells slots Q (F0 m pc ls (st.map (si_v E))) := by
  obtain ⟨hx, hb, hml, hown, hts, hK, hX, hin, hlaw, hz, hfr, hlo⟩ := C0
  subst hl
  obtain ⟨x, r, rfl, h⟩ := ai_stI_inv h
  exact lv_istore hx hb hd S.2.1.has hi rfl (fun ls2 h2 => hk _ _ _ _ _ _ _ _ _ _ _ _ h ⟨S.1, S.2.1.put h2, S.2.2⟩)
theorem si_s_lstore (C0 : si_C p R s m args meth c cc E adV nL o ini) (hk : si_ok p l e R s m args below meth c Q E nL k) {i : Nat} (hd : decode cc pc = .ok (.lstore i, len)) (hl : len = 2) (hi : i + 1 < nL) (S : si_S E s R nL H locs cells slots ls lo B I J Rf G) (h : ai_stp t F call post (.lstore i) len pc lo st B I J Rf G k) : W p l e R s m args below meth c H locs cells slots Q (F0 m pc ls (st.map (si_v E))) := by
  obtain ⟨hx, hb, hml, hown, hts, hK, hX, hin, hlaw, hz, hfr, hlo⟩ := C0
  subst hl
  obtain ⟨x, r, rfl, h⟩ := ai_stJ_inv h
  exact lv_lstore hx hb hd S.2.1.has hi rfl (fun ls2 h2 => hk _ _ _ _ _ _ _ _ _ _ _ _ h ⟨S.1, S.2.1.putL h2, S.2.2⟩)
theorem si_s_astore (C0 : si_C p R s m args meth c cc E adV nL o ini) (hk : si_ok p l e R s m args below meth c Q E nL k) {i : Nat} (hd : decode cc pc = .ok (.astore i, len)) (hl : len = 2) (hi : i < nL) (S : si_S E s R nL H locs cells slots ls lo B I J Rf G) (h : ai_stp t F call post (.astore i) len pc lo st B I J Rf G k) : W p l e R s m args below meth c H locs cells slots Q (F0 m pc ls (st.map (si_v E))) := by
  obtain ⟨hx, hb, hml, hown, hts, hK, hX, hin, hlaw, hz, hfr, hlo⟩ := C0
  subst hl
  obtain ⟨x, r, rfl, h⟩ := ai_stR_inv h
  cases x with
  | zero => exact lv_astoreN hx hb hd S.2.1.has hi rfl (fun ls2 h2 => hk _ _ _ _ _ _ _ _ _ _ _ _ h ⟨S.1, S.2.1.put h2, S.2.2⟩)
  | succ q => exact lv_astore hx hb hd S.2.1.has hi rfl (fun ls2 h2 => hk _ _ _ _ _ _ _ _ _ _ _ _ h ⟨S.1, S.2.1.put h2, S.2.2⟩)
theorem si_s_aload_n (C0 : si_C p R s m args meth c cc E adV nL o ini) (hk : si_ok p l e R s m args below meth c Q E nL k) {i : Fin 4} (hd : decode cc pc = .ok (.aload_n i, len)) (hl : len = 1) (S : si_S E s R nL H locs cells slots ls lo B I J Rf G) (h : ai_stp t F call post (.aload_n i) len pc lo st B I J Rf G k) : W p l e R s m args below meth c H locs cells slots Q (F0 m pc ls (st.map (si_v E))) := by
  obtain ⟨hx, hb, hml, hown, hts, hK, hX, hin, hlaw, hz, hfr, hlo⟩ := C0
  subst hl
  obtain ⟨x, hv, h⟩ := ai_ldR_inv h
  have hv2 := S.2.1.2.2.2 _ _ hv
  cases x with
  | zero => exact lv_aload_nN hx hb hd rfl hv2 (hk _ _ _ _ _ _ _ _ _ _ _ _ h S)
  | succ q => exact lv_aload_n hx hb hd rfl hv2 (hk _ _ _ _ _ _ _ _ _ _ _ _ h S)
theorem si_s_istore_n (C0 : si_C p R s m args meth c cc E adV nL o ini) (hk : si_ok p l e R s m args below meth c Q E nL k) {i : Fin 4} (hd : decode cc pc = .ok (.istore_n i, len)) (hl : len = 1) (hi : i.val < nL) (S : si_S E s R nL H locs cells slots ls lo B I J Rf G) (h : ai_stp t F call post (.istore_n i) len pc lo st B I J Rf G k) : W p l e R s m args below meth c H locs cells slots Q (F0 m pc ls (st.map (si_v E))) := by
  obtain ⟨hx, hb, hml, hown, hts, hK, hX, hin, hlaw, hz, hfr, hlo⟩ := C0
  subst hl
  obtain ⟨x, r, rfl, h⟩ := ai_stI_inv h
  exact lv_istore_n hx hb hd rfl S.2.1.has hi rfl (fun ls2 h2 => hk _ _ _ _ _ _ _ _ _ _ _ _ h ⟨S.1, S.2.1.put h2, S.2.2⟩)
theorem si_s_lstore_n (C0 : si_C p R s m args meth c cc E adV nL o ini) (hk : si_ok p l e R s m args below meth c Q E nL k) {i : Fin 4} (hd : decode cc pc = .ok (.lstore_n i, len)) (hl : len = 1) (hi : i.val + 1 < nL) (S : si_S E s R nL H locs cells slots ls lo B I J Rf G) (h : ai_stp t F call post (.lstore_n i) len pc lo st B I J Rf G k) : W p l e R s m args below meth c H locs cells slots Q (F0 m pc ls (st.map (si_v E))) := by
  obtain ⟨hx, hb, hml, hown, hts, hK, hX, hin, hlaw, hz, hfr, hlo⟩ := C0
  subst hl
  obtain ⟨x, r, rfl, h⟩ := ai_stJ_inv h
  exact lv_lstore_n hx hb hd rfl S.2.1.has hi rfl (fun ls2 h2 => hk _ _ _ _ _ _ _ _ _ _ _ _ h ⟨S.1, S.2.1.putL h2, S.2.2⟩)
theorem si_s_astore_n (C0 : si_C p R s m args meth c cc E adV nL o ini) (hk : si_ok p l e R s m args below meth c Q E nL k) {i : Fin 4} (hd : decode cc pc = .ok (.astore_n i, len)) (hl : len = 1) (hi : i.val < nL) (S : si_S E s R nL H locs cells slots ls lo B I J Rf G) (h : ai_stp t F call post (.astore_n i) len pc lo st B I J Rf G k) : W p l e R s m args below meth c H locs cells slots Q (F0 m pc ls (st.map (si_v E))) := by
  obtain ⟨hx, hb, hml, hown, hts, hK, hX, hin, hlaw, hz, hfr, hlo⟩ := C0
  subst hl
  obtain ⟨x, r, rfl, h⟩ := ai_stR_inv h
  cases x with
  | zero => exact lv_astore_nN hx hb hd rfl S.2.1.has hi rfl (fun ls2 h2 => hk _ _ _ _ _ _ _ _ _ _ _ _ h ⟨S.1, S.2.1.put h2, S.2.2⟩)
  | succ q => exact lv_astore_n hx hb hd rfl S.2.1.has hi rfl (fun ls2 h2 => hk _ _ _ _ _ _ _ _ _ _ _ _ h ⟨S.1, S.2.1.put h2, S.2.2⟩)
theorem si_s_iinc (C0 : si_C p R s m args meth c cc E adV nL o ini) (hk : si_ok p l e R s m args below meth c Q E nL k) {i : Nat} {n : Int} (hd : decode cc pc = .ok (.iinc i n, len)) (hl : len = 3) (S : si_S E s R nL H locs cells slots ls lo B I J Rf G) (h : ai_stp t F call post (.iinc i n) len pc lo st B I J Rf G k) : W p l e R s m args below meth c H locs cells slots Q (F0 m pc ls (st.map (si_v E))) := by
  obtain ⟨hx, hb, hml, hown, hts, hK, hX, hin, hlaw, hz, hfr, hlo⟩ := C0
  subst hl
  change (match ai_loc lo i with | some (.inl x) => k (pc + 3) (ai_put lo i (.inl (x + Int32.ofInt n))) st B I J Rf G | _ => False) at h
  split at h
  · rename_i x hv
    have hlt : i < nL := by rw [← S.2.1.2.2.1]; exact ai_loc_lt hv
    obtain ⟨q, hq⟩ := List.getElem?_of_mem (si_ll_mem (E := E) hv hlt)
    exact lv_iinc hx hb hd S.2.1.has hq rfl hlt rfl (fun ls2 h2 => hk _ _ _ _ _ _ _ _ _ _ _ _ h ⟨S.1, S.2.1.put h2, S.2.2⟩)
  · exact h.elim
theorem si_s_iadd (C0 : si_C p R s m args meth c cc E adV nL o ini) (hk : si_ok p l e R s m args below meth c Q E nL k) (hd : decode cc pc = .ok (.iadd, len)) (hl : len = 1) (S : si_S E s R nL H locs cells slots ls lo B I J Rf G) (h : ai_stp t F call post (.iadd) len pc lo st B I J Rf G k) : W p l e R s m args below meth c H locs cells slots Q (F0 m pc ls (st.map (si_v E))) := by
  obtain ⟨hx, hb, hml, hown, hts, hK, hX, hin, hlaw, hz, hfr, hlo⟩ := C0
  subst hl
  obtain ⟨x, y, r, rfl, h⟩ := ai_2I_inv h
  exact lv_iadd hx hb hd (hk _ _ _ _ _ _ _ _ _ _ _ _ h S)
theorem si_s_isub (C0 : si_C p R s m args meth c cc E adV nL o ini) (hk : si_ok p l e R s m args below meth c Q E nL k) (hd : decode cc pc = .ok (.isub, len)) (hl : len = 1) (S : si_S E s R nL H locs cells slots ls lo B I J Rf G) (h : ai_stp t F call post (.isub) len pc lo st B I J Rf G k) : W p l e R s m args below meth c H locs cells slots Q (F0 m pc ls (st.map (si_v E))) := by
  obtain ⟨hx, hb, hml, hown, hts, hK, hX, hin, hlaw, hz, hfr, hlo⟩ := C0
  subst hl
  obtain ⟨x, y, r, rfl, h⟩ := ai_2I_inv h
  exact lv_isub hx hb hd (hk _ _ _ _ _ _ _ _ _ _ _ _ h S)
theorem si_s_imul (C0 : si_C p R s m args meth c cc E adV nL o ini) (hk : si_ok p l e R s m args below meth c Q E nL k) (hd : decode cc pc = .ok (.imul, len)) (hl : len = 1) (S : si_S E s R nL H locs cells slots ls lo B I J Rf G) (h : ai_stp t F call post (.imul) len pc lo st B I J Rf G k) : W p l e R s m args below meth c H locs cells slots Q (F0 m pc ls (st.map (si_v E))) := by
  obtain ⟨hx, hb, hml, hown, hts, hK, hX, hin, hlaw, hz, hfr, hlo⟩ := C0
  subst hl
  obtain ⟨x, y, r, rfl, h⟩ := ai_2I_inv h
  exact lv_imul hx hb hd (hk _ _ _ _ _ _ _ _ _ _ _ _ h S)
theorem si_s_iand (C0 : si_C p R s m args meth c cc E adV nL o ini) (hk : si_ok p l e R s m args below meth c Q E nL k) (hd : decode cc pc = .ok (.iand, len)) (hl : len = 1) (S : si_S E s R nL H locs cells slots ls lo B I J Rf G) (h : ai_stp t F call post (.iand) len pc lo st B I J Rf G k) : W p l e R s m args below meth c H locs cells slots Q (F0 m pc ls (st.map (si_v E))) := by
  obtain ⟨hx, hb, hml, hown, hts, hK, hX, hin, hlaw, hz, hfr, hlo⟩ := C0
  subst hl
  obtain ⟨x, y, r, rfl, h⟩ := ai_2I_inv h
  exact lv_iand hx hb hd (hk _ _ _ _ _ _ _ _ _ _ _ _ h S)
theorem si_s_ior (C0 : si_C p R s m args meth c cc E adV nL o ini) (hk : si_ok p l e R s m args below meth c Q E nL k) (hd : decode cc pc = .ok (.ior, len)) (hl : len = 1) (S : si_S E s R nL H locs cells slots ls lo B I J Rf G) (h : ai_stp t F call post (.ior) len pc lo st B I J Rf G k) : W p l e R s m args below meth c H locs cells slots Q (F0 m pc ls (st.map (si_v E))) := by
  obtain ⟨hx, hb, hml, hown, hts, hK, hX, hin, hlaw, hz, hfr, hlo⟩ := C0
  subst hl
  obtain ⟨x, y, r, rfl, h⟩ := ai_2I_inv h
  exact lv_ior hx hb hd (hk _ _ _ _ _ _ _ _ _ _ _ _ h S)
theorem si_s_ixor (C0 : si_C p R s m args meth c cc E adV nL o ini) (hk : si_ok p l e R s m args below meth c Q E nL k) (hd : decode cc pc = .ok (.ixor, len)) (hl : len = 1) (S : si_S E s R nL H locs cells slots ls lo B I J Rf G) (h : ai_stp t F call post (.ixor) len pc lo st B I J Rf G k) : W p l e R s m args below meth c H locs cells slots Q (F0 m pc ls (st.map (si_v E))) := by
  obtain ⟨hx, hb, hml, hown, hts, hK, hX, hin, hlaw, hz, hfr, hlo⟩ := C0
  subst hl
  obtain ⟨x, y, r, rfl, h⟩ := ai_2I_inv h
  exact lv_ixor hx hb hd (hk _ _ _ _ _ _ _ _ _ _ _ _ h S)
theorem si_s_ishl (C0 : si_C p R s m args meth c cc E adV nL o ini) (hk : si_ok p l e R s m args below meth c Q E nL k) (hd : decode cc pc = .ok (.ishl, len)) (hl : len = 1) (S : si_S E s R nL H locs cells slots ls lo B I J Rf G) (h : ai_stp t F call post (.ishl) len pc lo st B I J Rf G k) : W p l e R s m args below meth c H locs cells slots Q (F0 m pc ls (st.map (si_v E))) := by
  obtain ⟨hx, hb, hml, hown, hts, hK, hX, hin, hlaw, hz, hfr, hlo⟩ := C0
  subst hl
  obtain ⟨x, y, r, rfl, h⟩ := ai_2I_inv h
  exact lv_ishl hx hb hd (hk _ _ _ _ _ _ _ _ _ _ _ _ h S)
theorem si_s_ishr (C0 : si_C p R s m args meth c cc E adV nL o ini) (hk : si_ok p l e R s m args below meth c Q E nL k) (hd : decode cc pc = .ok (.ishr, len)) (hl : len = 1) (S : si_S E s R nL H locs cells slots ls lo B I J Rf G) (h : ai_stp t F call post (.ishr) len pc lo st B I J Rf G k) : W p l e R s m args below meth c H locs cells slots Q (F0 m pc ls (st.map (si_v E))) := by
  obtain ⟨hx, hb, hml, hown, hts, hK, hX, hin, hlaw, hz, hfr, hlo⟩ := C0
  subst hl
  obtain ⟨x, y, r, rfl, h⟩ := ai_2I_inv h
  exact lv_ishr hx hb hd (hk _ _ _ _ _ _ _ _ _ _ _ _ h S)
theorem si_s_iushr (C0 : si_C p R s m args meth c cc E adV nL o ini) (hk : si_ok p l e R s m args below meth c Q E nL k) (hd : decode cc pc = .ok (.iushr, len)) (hl : len = 1) (S : si_S E s R nL H locs cells slots ls lo B I J Rf G) (h : ai_stp t F call post (.iushr) len pc lo st B I J Rf G k) : W p l e R s m args below meth c H locs cells slots Q (F0 m pc ls (st.map (si_v E))) := by
  obtain ⟨hx, hb, hml, hown, hts, hK, hX, hin, hlaw, hz, hfr, hlo⟩ := C0
  subst hl
  obtain ⟨x, y, r, rfl, h⟩ := ai_2I_inv h
  exact lv_iushr hx hb hd rfl (hk _ _ _ _ _ _ _ _ _ _ _ _ h S)
theorem si_s_ineg (C0 : si_C p R s m args meth c cc E adV nL o ini) (hk : si_ok p l e R s m args below meth c Q E nL k) (hd : decode cc pc = .ok (.ineg, len)) (hl : len = 1) (S : si_S E s R nL H locs cells slots ls lo B I J Rf G) (h : ai_stp t F call post (.ineg) len pc lo st B I J Rf G k) : W p l e R s m args below meth c H locs cells slots Q (F0 m pc ls (st.map (si_v E))) := by
  obtain ⟨hx, hb, hml, hown, hts, hK, hX, hin, hlaw, hz, hfr, hlo⟩ := C0
  subst hl
  obtain ⟨x, r, rfl, h⟩ := ai_1I_inv h
  exact lv_ineg hx hb hd (hk _ _ _ _ _ _ _ _ _ _ _ _ h S)
theorem si_s_i2b (C0 : si_C p R s m args meth c cc E adV nL o ini) (hk : si_ok p l e R s m args below meth c Q E nL k) (hd : decode cc pc = .ok (.i2b, len)) (hl : len = 1) (S : si_S E s R nL H locs cells slots ls lo B I J Rf G) (h : ai_stp t F call post (.i2b) len pc lo st B I J Rf G k) : W p l e R s m args below meth c H locs cells slots Q (F0 m pc ls (st.map (si_v E))) := by
  obtain ⟨hx, hb, hml, hown, hts, hK, hX, hin, hlaw, hz, hfr, hlo⟩ := C0
  subst hl
  obtain ⟨x, r, rfl, h⟩ := ai_1I_inv h
  exact lv_i2b hx hb hd rfl (hk _ _ _ _ _ _ _ _ _ _ _ _ h S)
theorem si_s_idiv (C0 : si_C p R s m args meth c cc E adV nL o ini) (hk : si_ok p l e R s m args below meth c Q E nL k) (hd : decode cc pc = .ok (.idiv, len)) (hl : len = 1) (S : si_S E s R nL H locs cells slots ls lo B I J Rf G) (h : ai_stp t F call post (.idiv) len pc lo st B I J Rf G k) : W p l e R s m args below meth c H locs cells slots Q (F0 m pc ls (st.map (si_v E))) := by
  obtain ⟨hx, hb, hml, hown, hts, hK, hX, hin, hlaw, hz, hfr, hlo⟩ := C0
  subst hl
  obtain ⟨x, y, r, rfl, hne, h⟩ := ai_2D_inv h
  exact lv_idiv hx hb hd hne (hk _ _ _ _ _ _ _ _ _ _ _ _ h S)
theorem si_s_irem (C0 : si_C p R s m args meth c cc E adV nL o ini) (hk : si_ok p l e R s m args below meth c Q E nL k) (hd : decode cc pc = .ok (.irem, len)) (hl : len = 1) (S : si_S E s R nL H locs cells slots ls lo B I J Rf G) (h : ai_stp t F call post (.irem) len pc lo st B I J Rf G k) : W p l e R s m args below meth c H locs cells slots Q (F0 m pc ls (st.map (si_v E))) := by
  obtain ⟨hx, hb, hml, hown, hts, hK, hX, hin, hlaw, hz, hfr, hlo⟩ := C0
  subst hl
  obtain ⟨x, y, r, rfl, hne, h⟩ := ai_2D_inv h
  exact lv_irem hx hb hd hne (hk _ _ _ _ _ _ _ _ _ _ _ _ h S)
theorem si_s_ladd (C0 : si_C p R s m args meth c cc E adV nL o ini) (hk : si_ok p l e R s m args below meth c Q E nL k) (hd : decode cc pc = .ok (.ladd, len)) (hl : len = 1) (S : si_S E s R nL H locs cells slots ls lo B I J Rf G) (h : ai_stp t F call post (.ladd) len pc lo st B I J Rf G k) : W p l e R s m args below meth c H locs cells slots Q (F0 m pc ls (st.map (si_v E))) := by
  obtain ⟨hx, hb, hml, hown, hts, hK, hX, hin, hlaw, hz, hfr, hlo⟩ := C0
  subst hl
  obtain ⟨x, y, r, rfl, h⟩ := ai_2J_inv h
  exact lv_ladd hx hb hd (hk _ _ _ _ _ _ _ _ _ _ _ _ h S)
theorem si_s_lsub (C0 : si_C p R s m args meth c cc E adV nL o ini) (hk : si_ok p l e R s m args below meth c Q E nL k) (hd : decode cc pc = .ok (.lsub, len)) (hl : len = 1) (S : si_S E s R nL H locs cells slots ls lo B I J Rf G) (h : ai_stp t F call post (.lsub) len pc lo st B I J Rf G k) : W p l e R s m args below meth c H locs cells slots Q (F0 m pc ls (st.map (si_v E))) := by
  obtain ⟨hx, hb, hml, hown, hts, hK, hX, hin, hlaw, hz, hfr, hlo⟩ := C0
  subst hl
  obtain ⟨x, y, r, rfl, h⟩ := ai_2J_inv h
  exact lv_lsub hx hb hd (hk _ _ _ _ _ _ _ _ _ _ _ _ h S)
theorem si_s_lmul (C0 : si_C p R s m args meth c cc E adV nL o ini) (hk : si_ok p l e R s m args below meth c Q E nL k) (hd : decode cc pc = .ok (.lmul, len)) (hl : len = 1) (S : si_S E s R nL H locs cells slots ls lo B I J Rf G) (h : ai_stp t F call post (.lmul) len pc lo st B I J Rf G k) : W p l e R s m args below meth c H locs cells slots Q (F0 m pc ls (st.map (si_v E))) := by
  obtain ⟨hx, hb, hml, hown, hts, hK, hX, hin, hlaw, hz, hfr, hlo⟩ := C0
  subst hl
  obtain ⟨x, y, r, rfl, h⟩ := ai_2J_inv h
  exact lv_lmul hx hb hd (hk _ _ _ _ _ _ _ _ _ _ _ _ h S)
theorem si_s_ldiv (C0 : si_C p R s m args meth c cc E adV nL o ini) (hk : si_ok p l e R s m args below meth c Q E nL k) (hd : decode cc pc = .ok (.ldiv, len)) (hl : len = 1) (S : si_S E s R nL H locs cells slots ls lo B I J Rf G) (h : ai_stp t F call post (.ldiv) len pc lo st B I J Rf G k) : W p l e R s m args below meth c H locs cells slots Q (F0 m pc ls (st.map (si_v E))) := by
  obtain ⟨hx, hb, hml, hown, hts, hK, hX, hin, hlaw, hz, hfr, hlo⟩ := C0
  subst hl
  obtain ⟨x, y, r, rfl, hne, h⟩ := ai_2E_inv h
  exact lv_ldiv hx hb hd hne (hk _ _ _ _ _ _ _ _ _ _ _ _ h S)
theorem si_s_lrem (C0 : si_C p R s m args meth c cc E adV nL o ini) (hk : si_ok p l e R s m args below meth c Q E nL k) (hd : decode cc pc = .ok (.lrem, len)) (hl : len = 1) (S : si_S E s R nL H locs cells slots ls lo B I J Rf G) (h : ai_stp t F call post (.lrem) len pc lo st B I J Rf G k) : W p l e R s m args below meth c H locs cells slots Q (F0 m pc ls (st.map (si_v E))) := by
  obtain ⟨hx, hb, hml, hown, hts, hK, hX, hin, hlaw, hz, hfr, hlo⟩ := C0
  subst hl
  obtain ⟨x, y, r, rfl, hne, h⟩ := ai_2E_inv h
  exact lv_lrem hx hb hd hne (hk _ _ _ _ _ _ _ _ _ _ _ _ h S)
theorem si_s_i2l (C0 : si_C p R s m args meth c cc E adV nL o ini) (hk : si_ok p l e R s m args below meth c Q E nL k) (hd : decode cc pc = .ok (.i2l, len)) (hl : len = 1) (S : si_S E s R nL H locs cells slots ls lo B I J Rf G) (h : ai_stp t F call post (.i2l) len pc lo st B I J Rf G k) : W p l e R s m args below meth c H locs cells slots Q (F0 m pc ls (st.map (si_v E))) := by
  obtain ⟨hx, hb, hml, hown, hts, hK, hX, hin, hlaw, hz, hfr, hlo⟩ := C0
  subst hl
  change (match st with | .inl x :: r => k (pc + 1) lo (.inr (.inl x.toInt64) :: r) B I J Rf G | _ => False) at h
  split at h
  · exact lv_i2l hx hb hd rfl (hk _ _ _ _ _ _ _ _ _ _ _ _ h S)
  · exact h.elim
theorem si_s_lcmp (C0 : si_C p R s m args meth c cc E adV nL o ini) (hk : si_ok p l e R s m args below meth c Q E nL k) (hd : decode cc pc = .ok (.lcmp, len)) (hl : len = 1) (S : si_S E s R nL H locs cells slots ls lo B I J Rf G) (h : ai_stp t F call post (.lcmp) len pc lo st B I J Rf G k) : W p l e R s m args below meth c H locs cells slots Q (F0 m pc ls (st.map (si_v E))) := by
  obtain ⟨hx, hb, hml, hown, hts, hK, hX, hin, hlaw, hz, hfr, hlo⟩ := C0
  subst hl
  change (match st with | .inr (.inl y) :: .inr (.inl x) :: r => k (pc + 1) lo (.inl (ai_cmp x y) :: r) B I J Rf G | _ => False) at h
  split at h
  · exact W.lcmp hx hb hd (hk _ _ _ _ _ _ _ _ _ _ _ _ h S)
  · exact h.elim
theorem si_s_dup (C0 : si_C p R s m args meth c cc E adV nL o ini) (hk : si_ok p l e R s m args below meth c Q E nL k) (hd : decode cc pc = .ok (.dup, len)) (hl : len = 1) (S : si_S E s R nL H locs cells slots ls lo B I J Rf G) (h : ai_stp t F call post (.dup) len pc lo st B I J Rf G k) : W p l e R s m args below meth c H locs cells slots Q (F0 m pc ls (st.map (si_v E))) := by
  obtain ⟨hx, hb, hml, hown, hts, hK, hX, hin, hlaw, hz, hfr, hlo⟩ := C0
  subst hl
  change (match st with | .inl x :: r => k (pc + 1) lo (.inl x :: .inl x :: r) B I J Rf G | .inr (.inr a) :: r => k (pc + 1) lo (.inr (.inr a) :: .inr (.inr a) :: r) B I J Rf G | _ => False) at h
  split at h
  · exact lv_dup hx hb hd rfl (hk _ _ _ _ _ _ _ _ _ _ _ _ h S)
  · rename_i a r
    exact lv_dup hx hb hd (by cases a <;> rfl) (hk _ _ _ _ _ _ _ _ _ _ _ _ h S)
  · exact h.elim
theorem si_s_pop (C0 : si_C p R s m args meth c cc E adV nL o ini) (hk : si_ok p l e R s m args below meth c Q E nL k) (hd : decode cc pc = .ok (.pop, len)) (hl : len = 1) (S : si_S E s R nL H locs cells slots ls lo B I J Rf G) (h : ai_stp t F call post (.pop) len pc lo st B I J Rf G k) : W p l e R s m args below meth c H locs cells slots Q (F0 m pc ls (st.map (si_v E))) := by
  obtain ⟨hx, hb, hml, hown, hts, hK, hX, hin, hlaw, hz, hfr, hlo⟩ := C0
  subst hl
  change (match st with | .inl _ :: r => k (pc + 1) lo r B I J Rf G | .inr (.inr _) :: r => k (pc + 1) lo r B I J Rf G | _ => False) at h
  split at h
  · exact lv_pop hx hb hd rfl (hk _ _ _ _ _ _ _ _ _ _ _ _ h S)
  · rename_i a r
    exact lv_pop hx hb hd (by cases a <;> rfl) (hk _ _ _ _ _ _ _ _ _ _ _ _ h S)
  · exact h.elim
theorem si_s_goto (C0 : si_C p R s m args meth c cc E adV nL o ini) (hk : si_ok p l e R s m args below meth c Q E nL k) {off : Int} (hd : decode cc pc = .ok (.goto off, len)) (hl : len = 3) (ho : 0 ≤ (pc : Int) + off) (S : si_S E s R nL H locs cells slots ls lo B I J Rf G) (h : ai_stp t F call post (.goto off) len pc lo st B I J Rf G k) : W p l e R s m args below meth c H locs cells slots Q (F0 m pc ls (st.map (si_v E))) := by
  obtain ⟨hx, hb, hml, hown, hts, hK, hX, hin, hlaw, hz, hfr, hlo⟩ := C0
  subst hl
  exact lv_goto hx hb hd (ai_tgt_eq ho) (hk _ _ _ _ _ _ _ _ _ _ _ _ h S)
theorem si_s_ifCond (C0 : si_C p R s m args meth c cc E adV nL o ini) (hk : si_ok p l e R s m args below meth c Q E nL k) {cn : ClassFile.Cond} {off : Int} (hd : decode cc pc = .ok (.ifCond cn off, len)) (hl : len = 3) (ho : 0 ≤ (pc : Int) + off) (S : si_S E s R nL H locs cells slots ls lo B I J Rf G) (h : ai_stp t F call post (.ifCond cn off) len pc lo st B I J Rf G k) : W p l e R s m args below meth c H locs cells slots Q (F0 m pc ls (st.map (si_v E))) := by
  obtain ⟨hx, hb, hml, hown, hts, hK, hX, hin, hlaw, hz, hfr, hlo⟩ := C0
  subst hl
  change (match st with | .inl x :: r => (ai_cnd cn x 0 → k (ai_tgt pc off) lo r B I J Rf G) ∧ (¬ ai_cnd cn x 0 → k (pc + 3) lo r B I J Rf G) | _ => False) at h
  split at h
  · cases cn with
    | eq => exact lv_if_eq hx hb hd (ai_tgt_eq ho) (fun q => hk _ _ _ _ _ _ _ _ _ _ _ _ (h.1 q) S) (fun q => hk _ _ _ _ _ _ _ _ _ _ _ _ (h.2 q) S)
    | ne => exact lv_if_ne hx hb hd (ai_tgt_eq ho) (fun q => hk _ _ _ _ _ _ _ _ _ _ _ _ (h.1 q) S) (fun q => hk _ _ _ _ _ _ _ _ _ _ _ _ (h.2 (fun z => z q)) S)
    | lt => exact lv_if_lt hx hb hd (ai_tgt_eq ho) (fun q => hk _ _ _ _ _ _ _ _ _ _ _ _ (h.1 q) S) (fun q => hk _ _ _ _ _ _ _ _ _ _ _ _ (h.2 q) S)
    | ge => exact lv_if_ge hx hb hd (ai_tgt_eq ho) (fun q => hk _ _ _ _ _ _ _ _ _ _ _ _ (h.1 q) S) (fun q => hk _ _ _ _ _ _ _ _ _ _ _ _ (h.2 q) S)
    | gt => exact lv_if_gt hx hb hd (ai_tgt_eq ho) (fun q => hk _ _ _ _ _ _ _ _ _ _ _ _ (h.1 q) S) (fun q => hk _ _ _ _ _ _ _ _ _ _ _ _ (h.2 q) S)
    | le => exact lv_if_le hx hb hd (ai_tgt_eq ho) (fun q => hk _ _ _ _ _ _ _ _ _ _ _ _ (h.1 q) S) (fun q => hk _ _ _ _ _ _ _ _ _ _ _ _ (h.2 q) S)
  · exact h.elim
theorem si_s_if_icmp (C0 : si_C p R s m args meth c cc E adV nL o ini) (hk : si_ok p l e R s m args below meth c Q E nL k) {cn : ClassFile.Cond} {off : Int} (hd : decode cc pc = .ok (.if_icmp cn off, len)) (hl : len = 3) (ho : 0 ≤ (pc : Int) + off) (S : si_S E s R nL H locs cells slots ls lo B I J Rf G) (h : ai_stp t F call post (.if_icmp cn off) len pc lo st B I J Rf G k) : W p l e R s m args below meth c H locs cells slots Q (F0 m pc ls (st.map (si_v E))) := by
  obtain ⟨hx, hb, hml, hown, hts, hK, hX, hin, hlaw, hz, hfr, hlo⟩ := C0
  subst hl
  change (match st with | .inl y :: .inl x :: r => (ai_cnd cn x y → k (ai_tgt pc off) lo r B I J Rf G) ∧ (¬ ai_cnd cn x y → k (pc + 3) lo r B I J Rf G) | _ => False) at h
  split at h
  · cases cn with
    | eq => exact lv_icmp_eq hx hb hd (ai_tgt_eq ho) (fun q => hk _ _ _ _ _ _ _ _ _ _ _ _ (h.1 q) S) (fun q => hk _ _ _ _ _ _ _ _ _ _ _ _ (h.2 q) S)
    | ne => exact lv_icmp_ne hx hb hd (ai_tgt_eq ho) (fun q => hk _ _ _ _ _ _ _ _ _ _ _ _ (h.1 q) S) (fun q => hk _ _ _ _ _ _ _ _ _ _ _ _ (h.2 (fun z => z q)) S)
    | lt => exact lv_icmp_lt hx hb hd (ai_tgt_eq ho) (fun q => hk _ _ _ _ _ _ _ _ _ _ _ _ (h.1 q) S) (fun q => hk _ _ _ _ _ _ _ _ _ _ _ _ (h.2 q) S)
    | ge => exact lv_icmp_ge hx hb hd (ai_tgt_eq ho) (fun q => hk _ _ _ _ _ _ _ _ _ _ _ _ (h.1 q) S) (fun q => hk _ _ _ _ _ _ _ _ _ _ _ _ (h.2 q) S)
    | gt => exact lv_icmp_gt hx hb hd (ai_tgt_eq ho) (fun q => hk _ _ _ _ _ _ _ _ _ _ _ _ (h.1 q) S) (fun q => hk _ _ _ _ _ _ _ _ _ _ _ _ (h.2 q) S)
    | le => exact lv_icmp_le hx hb hd (ai_tgt_eq ho) (fun q => hk _ _ _ _ _ _ _ _ _ _ _ _ (h.1 q) S) (fun q => hk _ _ _ _ _ _ _ _ _ _ _ _ (h.2 q) S)
  · exact h.elim
theorem si_s_ifnull (C0 : si_C p R s m args meth c cc E adV nL o ini) (hk : si_ok p l e R s m args below meth c Q E nL k) {off : Int} (hd : decode cc pc = .ok (.ifnull off, len)) (hl : len = 3) (ho : 0 ≤ (pc : Int) + off) (S : si_S E s R nL H locs cells slots ls lo B I J Rf G) (h : ai_stp t F call post (.ifnull off) len pc lo st B I J Rf G k) : W p l e R s m args below meth c H locs cells slots Q (F0 m pc ls (st.map (si_v E))) := by
  obtain ⟨hx, hb, hml, hown, hts, hK, hX, hin, hlaw, hz, hfr, hlo⟩ := C0
  subst hl
  change (match st with | .inr (.inr a) :: r => (a = 0 → k (ai_tgt pc off) lo r B I J Rf G) ∧ (¬ a = 0 → k (pc + 3) lo r B I J Rf G) | _ => False) at h
  split at h
  · rename_i a r
    cases a with
    | zero => exact lv_ifnullN hx hb hd (ai_tgt_eq ho) (hk _ _ _ _ _ _ _ _ _ _ _ _ (h.1 rfl) S)
    | succ q => exact lv_ifnull hx hb hd (hk _ _ _ _ _ _ _ _ _ _ _ _ (h.2 (Nat.succ_ne_zero q)) S)
  · exact h.elim
theorem si_s_ifnonnull (C0 : si_C p R s m args meth c cc E adV nL o ini) (hk : si_ok p l e R s m args below meth c Q E nL k) {off : Int} (hd : decode cc pc = .ok (.ifnonnull off, len)) (hl : len = 3) (ho : 0 ≤ (pc : Int) + off) (S : si_S E s R nL H locs cells slots ls lo B I J Rf G) (h : ai_stp t F call post (.ifnonnull off) len pc lo st B I J Rf G k) : W p l e R s m args below meth c H locs cells slots Q (F0 m pc ls (st.map (si_v E))) := by
  obtain ⟨hx, hb, hml, hown, hts, hK, hX, hin, hlaw, hz, hfr, hlo⟩ := C0
  subst hl
  change (match st with | .inr (.inr a) :: r => (¬ a = 0 → k (ai_tgt pc off) lo r B I J Rf G) ∧ (a = 0 → k (pc + 3) lo r B I J Rf G) | _ => False) at h
  split at h
  · rename_i a r
    cases a with
    | zero => exact lv_ifnonnullN hx hb hd (hk _ _ _ _ _ _ _ _ _ _ _ _ (h.2 rfl) S)
    | succ q => exact lv_ifnonnull hx hb hd (ai_tgt_eq ho) (hk _ _ _ _ _ _ _ _ _ _ _ _ (h.1 (Nat.succ_ne_zero q)) S)
  · exact h.elim
theorem si_s_tableswitch (C0 : si_C p R s m args meth c cc E adV nL o ini) (hk : si_ok p l e R s m args below meth c Q E nL k) {d lq hq : Int} {os : Array Int} (hd : decode cc pc = .ok (.tableswitch d lq hq os, len)) (ho : 0 ≤ (pc : Int) + d) (hos : ∀ off ∈ os.toList, 0 ≤ (pc : Int) + off) (hsz : hq - lq < (os.toList.length : Int)) (S : si_S E s R nL H locs cells slots ls lo B I J Rf G) (h : ai_stp t F call post (.tableswitch d lq hq os) len pc lo st B I J Rf G k) : W p l e R s m args below meth c H locs cells slots Q (F0 m pc ls (st.map (si_v E))) := by
  obtain ⟨hx, hb, hml, hown, hts, hK, hX, hin, hlaw, hz, hfr, hlo⟩ := C0
  change (match st with | .inl x :: r => (x.toInt < lq ∨ hq < x.toInt → k (ai_tgt pc d) lo r B I J Rf G) ∧ ai_sw x pc (fun q => k q lo r B I J Rf G) lq os.toList | _ => False) at h
  split at h
  · rename_i x r
    by_cases hr : x.toInt < lq ∨ hq < x.toInt
    · exact lv_tableOut hx hb hd hr (ai_tgt_eq ho) (hk _ _ _ _ _ _ _ _ _ _ _ _ (h.1 hr) S)
    · have h1 : ¬ x.toInt < lq := fun z => hr (Or.inl z)
      have h2 : ¬ hq < x.toInt := fun z => hr (Or.inr z)
      have hj : (x.toInt - lq).toNat < os.toList.length := by omega
      obtain ⟨off, hoff⟩ : ∃ off, os.toList[(x.toInt - lq).toNat]? = some off := ⟨_, List.getElem?_eq_getElem hj⟩
      have hoff2 : os[(x.toInt - lq).toNat]? = some off := by rw [← Array.getElem?_toList]; exact hoff
      exact lv_tableIn hx hb hd h1 h2 hoff2 (ai_tgt_eq (hos off (List.mem_of_getElem? hoff))) (hk _ _ _ _ _ _ _ _ _ _ _ _ (ai_sw_inv _ _ h.2 _ off hoff (by omega)) S)
  · exact h.elim
