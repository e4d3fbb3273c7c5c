/-! One instruction of the abstract machine is one of the claim's machine: a row each. Printed by wip/p46/gen6.py. -/
def si_K (E : si_E) (U : State) : Prop := va_K (si_D E) si_cl (si_tys E) U
/-- the letters of the string constants, as their byte arrays hold them -/
def si_len : List Nat := si_tx.map (fun q => q.2.length)
def si_byt : List (List Int32) := si_tx.map (fun q => q.2.map (fun n => Int32.ofNat n))
/-- what else holds at a method's start: links of nest mates, the array class over valuations, the string constants -/
def si_X (E : si_E) (adV : Nat → Nat) (U : State) : Prop :=
  (∀ (o : Nat) (r : Nat × Nat × Nat) (n : MethodName × ByteArray × Option FieldType), r ∈ si_mh o → 3 ≤ r.2.2 → r.2.2 ≤ 5 → si_nq r.2.1 = some n → va_Nw (.methodLinkNest (si_RS o) r.1 n.1 "PricedBases") U) ∧ va_AO "PricedBases$Valuation" U ∧
  (∀ (k : Nat) (u : Nat × String), si_nth si_txs k = some u → vk_R (si_RS 0) u.1 u.2 (si_ad E (2000 + k)) U) ∧ vk_S 15 si_len si_byt (fun k => si_ad E (2000 + k)) adV (si_A E) U U.heap ∧
  va_Z "java/lang/String" "COMPACT_STRINGS" "Z" (.int 1) (si_A E) U U.heap ∧ va_Zq "jdk/internal/util/Preconditions" "SIOOBE_FORMATTER" "Ljava/util/function/BiFunction;" (si_A E) U U.heap
/-- what a frame may lean on -/
def si_C (p : Program) (R : Room) (s : State) (m : MethodId) (args : Array Value) (meth : Method) (c : Code) (cc : ByteArray) (E : si_E) (adV : Nat → Nat) (nL o : Nat) (ini : Bool) : Prop :=
  p.tables.exec = Jvm.exec ∧ c.code = cc ∧ c.maxLocals = nL ∧ s.vm.findClass (si_RS o) = some m.cls ∧ (∀ w ∈ si_aTs, w.before args s = true) ∧ si_K E s ∧ si_X E adV s ∧ (ini = true → meth.name = "<init>") ∧
  (o = 21 → va_X E.2.1 E.2.2.1 E.2.2.2.1 s s.heap ∧ E.2.1 < s.heap.size ∧ E.2.1 ≤ E.1) ∧ E.1 < s.heap.size ∧ 1 ≤ R.frames ∧ 42 ≤ R.locals
def si_ok (p : Program) (l : Launch) (e : Env) (R : Room) (s : State) (m : MethodId) (args : Array Value) (below : List Frame) (meth : Method) (c : Code) (Q : State → Prop) (E : si_E) (nL : Nat) (k : ai_K) : Prop :=
  ∀ (pc : Nat) (lo : List (Option ai_V)) (st : List ai_V) (B : Nat × Nat) (I : ai_I) (J : ai_J) (Rf : ai_R) (G : ai_G) (H : Heap) (locs : List Loc) (cells slots : Nat) (ls : Array Slot),
    k pc lo st B I J Rf G → si_S E s R nL H locs cells slots ls lo B I J Rf G → W p l e R s m args below meth c H locs cells slots Q (F0 m pc ls (st.map (si_v E)))
theorem ai_tgt_eq {pc : Nat} {off : Int} (h : 0 ≤ (pc : Int) + off) : (pc : Int) + off = (ai_tgt pc off : Int) := by
  unfold ai_tgt
  omega
theorem ai_1I_inv {f : Int32 → Int32} {st : List ai_V} {k : List ai_V → Prop} (h : ai_1I f st k) : ∃ (x : Int32) (r : List ai_V), st = .inl x :: r ∧ k (.inl (f x) :: r) := by
  unfold ai_1I at h
  split at h
  · exact ⟨_, _, rfl, h⟩
  · exact h.elim
theorem ai_2I_inv {f : Int32 → Int32 → Int32} {st : List ai_V} {k : List ai_V → Prop} (h : ai_2I f st k) : ∃ (x y : Int32) (r : List ai_V), st = .inl y :: .inl x :: r ∧ k (.inl (f x y) :: r) := by
  unfold ai_2I at h
  split at h
  · exact ⟨_, _, _, rfl, h⟩
  · exact h.elim
theorem ai_2D_inv {f : Int32 → Int32 → Int32} {st : List ai_V} {k : List ai_V → Prop} (h : ai_2D f st k) : ∃ (x y : Int32) (r : List ai_V), st = .inl y :: .inl x :: r ∧ ¬ y = 0 ∧ k (.inl (f x y) :: r) := by
  unfold ai_2D at h
  split at h
  · exact ⟨_, _, _, rfl, h⟩
  · exact h.elim
theorem ai_2J_inv {f : Int64 → Int64 → Int64} {st : List ai_V} {k : List ai_V → Prop} (h : ai_2J f st k) : ∃ (x y : Int64) (r : List ai_V), st = .inr (.inl y) :: .inr (.inl x) :: r ∧ k (.inr (.inl (f x y)) :: r) := by
  unfold ai_2J at h
  split at h
  · exact ⟨_, _, _, rfl, h⟩
  · exact h.elim
theorem ai_2E_inv {f : Int64 → Int64 → Int64} {st : List ai_V} {k : List ai_V → Prop} (h : ai_2E f st k) : ∃ (x y : Int64) (r : List ai_V), st = .inr (.inl y) :: .inr (.inl x) :: r ∧ ¬ y = 0 ∧ k (.inr (.inl (f x y)) :: r) := by
  unfold ai_2E at h
  split at h
  · exact ⟨_, _, _, rfl, h⟩
  · exact h.elim
theorem ai_ldI_inv {lo : List (Option ai_V)} {i : Nat} {k : ai_V → Prop} (h : ai_ldI lo i k) : ∃ x : Int32, ai_loc lo i = some (.inl x) ∧ k (.inl x) := by
  unfold ai_ldI at h
  split at h
  · exact ⟨_, by assumption, h⟩
  · exact h.elim
theorem ai_ldJ_inv {lo : List (Option ai_V)} {i : Nat} {k : ai_V → Prop} (h : ai_ldJ lo i k) : ∃ x : Int64, ai_loc lo i = some (.inr (.inl x)) ∧ k (.inr (.inl x)) := by
  unfold ai_ldJ at h
  split at h
  · exact ⟨_, by assumption, h⟩
  · exact h.elim
theorem ai_ldR_inv {lo : List (Option ai_V)} {i : Nat} {k : ai_V → Prop} (h : ai_ldR lo i k) : ∃ x : Nat, ai_loc lo i = some (.inr (.inr x)) ∧ k (.inr (.inr x)) := by
  unfold ai_ldR at h
  split at h
  · exact ⟨_, by assumption, h⟩
  · exact h.elim
theorem ai_stI_inv {lo : List (Option ai_V)} {i : Nat} {st : List ai_V} {k : List (Option ai_V) → List ai_V → Prop} (h : ai_stI lo i st k) : ∃ (x : Int32) (r : List ai_V), st = .inl x :: r ∧ k (ai_put lo i (.inl x)) r := by
  unfold ai_stI at h
  split at h
  · exact ⟨_, _, rfl, h⟩
  · exact h.elim
theorem ai_stJ_inv {lo : List (Option ai_V)} {i : Nat} {st : List ai_V} {k : List (Option ai_V) → List ai_V → Prop} (h : ai_stJ lo i st k) : ∃ (x : Int64) (r : List ai_V), st = .inr (.inl x) :: r ∧ k (ai_putL lo i (.inr (.inl x))) r := by
  unfold ai_stJ at h
  split at h
  · exact ⟨_, _, rfl, h⟩
  · exact h.elim
theorem ai_stR_inv {lo : List (Option ai_V)} {i : Nat} {st : List ai_V} {k : List (Option ai_V) → List ai_V → Prop} (h : ai_stR lo i st k) : ∃ (x : Nat) (r : List ai_V), st = .inr (.inr x) :: r ∧ k (ai_put lo i (.inr (.inr x))) r := by
  unfold ai_stR at h
  split at h
  · exact ⟨_, _, rfl, h⟩
  · exact h.elim
theorem ai_sw_inv {x : Int32} {pc : Nat} {k : Nat → Prop} : ∀ (os : List Int) (lo : Int), ai_sw x pc k lo os → ∀ (i : Nat) (off : Int), os[i]? = some off → x.toInt = lo + (i : Int) → k (ai_tgt pc off)
  | [], _, _, i, off, h, _ => by simp at h
  | q :: os, lo, h, i, off, hi, hx => by
    cases i with
    | zero =>
      simp at hi
      subst hi
      exact h.1 (by simpa using hx)
    | succ j => exact ai_sw_inv os (lo + 1) h.2 j off (by simpa using hi) (by rw [hx]; push_cast; omega)
section
variable {p : Program} {l : Launch} {e : Env} {R : Room} {s : State} {m : MethodId} {args : Array Value} {below : List Frame} {meth : Method} {c : Code} {Q : State → Prop} {cc : ByteArray} {E : si_E} {adV : Nat → Nat} {nL o : Nat} {ini : Bool}
variable {t : ai_T} {F : ai_F} {call : ai_C} {post : ai_Q} {k : ai_K} {len pc : Nat} {lo : List (Option ai_V)} {st : List ai_V} {B : Nat × Nat} {I : ai_I} {J : ai_J} {Rf : ai_R} {G : ai_G} {H : Heap} {locs : List Loc} {cells slots : Nat} {ls : Array Slot}
theorem si_s_iconst (C0 : si_C p R s m args meth c cc E adV nL o ini) (hk : si_ok p l e R s m args below meth c Q E nL k) {n : Int} (hd : decode cc pc = .ok (.iconst n, len)) (hl : len = 1) (S : si_S E s R nL H locs cells slots ls lo B I J Rf G) (h : ai_stp t F call post (.iconst n) len pc lo st B I J Rf G k) : W p l e R s m args below meth c H locs cells slots Q (F0 m pc ls (st.map (si_v E))) := by
  obtain ⟨hx, hb, hml, hown, hts, hK, hX, hin, hlaw, hz, hfr, hlo⟩ := C0
  subst hl
  have hh := hk _ _ _ _ _ _ _ _ _ _ _ _ _ h S
  exact lv_iconst hx hb hd rfl hh
theorem si_s_bipush (C0 : si_C p R s m args meth c cc E adV nL o ini) (hk : si_ok p l e R s m args below meth c Q E nL k) {n : Int} (hd : decode cc pc = .ok (.bipush n, len)) (hl : len = 2) (S : si_S E s R nL H locs cells slots ls lo B I J Rf G) (h : ai_stp t F call post (.bipush n) len pc lo st B I J Rf G k) : W p l e R s m args below meth c H locs cells slots Q (F0 m pc ls (st.map (si_v E))) := by
  obtain ⟨hx, hb, hml, hown, hts, hK, hX, hin, hlaw, hz, hfr, hlo⟩ := C0
  subst hl
  have hh := hk _ _ _ _ _ _ _ _ _ _ _ _ _ h S
  exact lv_bipush hx hb hd rfl hh
theorem si_s_sipush (C0 : si_C p R s m args meth c cc E adV nL o ini) (hk : si_ok p l e R s m args below meth c Q E nL k) {n : Int} (hd : decode cc pc = .ok (.sipush n, len)) (hl : len = 3) (S : si_S E s R nL H locs cells slots ls lo B I J Rf G) (h : ai_stp t F call post (.sipush n) len pc lo st B I J Rf G k) : W p l e R s m args below meth c H locs cells slots Q (F0 m pc ls (st.map (si_v E))) := by
  obtain ⟨hx, hb, hml, hown, hts, hK, hX, hin, hlaw, hz, hfr, hlo⟩ := C0
  subst hl
  have hh := hk _ _ _ _ _ _ _ _ _ _ _ _ _ h S
  exact lv_sipush hx hb hd rfl hh
theorem si_s_lconst (C0 : si_C p R s m args meth c cc E adV nL o ini) (hk : si_ok p l e R s m args below meth c Q E nL k) {n : Fin 2} (hd : decode cc pc = .ok (.lconst n, len)) (hl : len = 1) (S : si_S E s R nL H locs cells slots ls lo B I J Rf G) (h : ai_stp t F call post (.lconst n) len pc lo st B I J Rf G k) : W p l e R s m args below meth c H locs cells slots Q (F0 m pc ls (st.map (si_v E))) := by
  obtain ⟨hx, hb, hml, hown, hts, hK, hX, hin, hlaw, hz, hfr, hlo⟩ := C0
  subst hl
  have hh := hk _ _ _ _ _ _ _ _ _ _ _ _ _ h S
  exact lv_lconst hx hb hd rfl hh
theorem si_s_aconst_null (C0 : si_C p R s m args meth c cc E adV nL o ini) (hk : si_ok p l e R s m args below meth c Q E nL k) (hd : decode cc pc = .ok (.aconst_null, len)) (hl : len = 1) (S : si_S E s R nL H locs cells slots ls lo B I J Rf G) (h : ai_stp t F call post (.aconst_null) len pc lo st B I J Rf G k) : W p l e R s m args below meth c H locs cells slots Q (F0 m pc ls (st.map (si_v E))) := by
  obtain ⟨hx, hb, hml, hown, hts, hK, hX, hin, hlaw, hz, hfr, hlo⟩ := C0
  subst hl
  have hh := hk _ _ _ _ _ _ _ _ _ _ _ _ _ h S
  exact lv_null hx hb hd hh
theorem si_s_iload (C0 : si_C p R s m args meth c cc E adV nL o ini) (hk : si_ok p l e R s m args below meth c Q E nL k) {i : Nat} (hd : decode cc pc = .ok (.iload i, len)) (hl : len = 2) (S : si_S E s R nL H locs cells slots ls lo B I J Rf G) (h : ai_stp t F call post (.iload i) len pc lo st B I J Rf G k) : W p l e R s m args below meth c H locs cells slots Q (F0 m pc ls (st.map (si_v E))) := by
  obtain ⟨hx, hb, hml, hown, hts, hK, hX, hin, hlaw, hz, hfr, hlo⟩ := C0
  subst hl
  change ai_ldI lo i (fun v => k (pc + 2) lo (v :: st) B I J Rf G) at h
  obtain ⟨x, hv, h⟩ := ai_ldI_inv h
  have hh := hk _ _ _ _ _ _ _ _ _ _ _ _ _ h S
  exact lv_iload hx hb hd (S.2.1.2.2.2 i _ hv) hh
theorem si_s_iload_n (C0 : si_C p R s m args meth c cc E adV nL o ini) (hk : si_ok p l e R s m args below meth c Q E nL k) {i : Fin 4} (hd : decode cc pc = .ok (.iload_n i, len)) (hl : len = 1) (S : si_S E s R nL H locs cells slots ls lo B I J Rf G) (h : ai_stp t F call post (.iload_n i) len pc lo st B I J Rf G k) : W p l e R s m args below meth c H locs cells slots Q (F0 m pc ls (st.map (si_v E))) := by
  obtain ⟨hx, hb, hml, hown, hts, hK, hX, hin, hlaw, hz, hfr, hlo⟩ := C0
  subst hl
  change ai_ldI lo i.val (fun v => k (pc + 1) lo (v :: st) B I J Rf G) at h
  obtain ⟨x, hv, h⟩ := ai_ldI_inv h
  have hh := hk _ _ _ _ _ _ _ _ _ _ _ _ _ h S
  exact lv_iload_n hx hb hd rfl (S.2.1.2.2.2 _ _ hv) hh
theorem si_s_lload (C0 : si_C p R s m args meth c cc E adV nL o ini) (hk : si_ok p l e R s m args below meth c Q E nL k) {i : Nat} (hd : decode cc pc = .ok (.lload i, len)) (hl : len = 2) (S : si_S E s R nL H locs cells slots ls lo B I J Rf G) (h : ai_stp t F call post (.lload i) len pc lo st B I J Rf G k) : W p l e R s m args below meth c H locs cells slots Q (F0 m pc ls (st.map (si_v E))) := by
  obtain ⟨hx, hb, hml, hown, hts, hK, hX, hin, hlaw, hz, hfr, hlo⟩ := C0
  subst hl
  change ai_ldJ lo i (fun v => k (pc + 2) lo (v :: st) B I J Rf G) at h
  obtain ⟨x, hv, h⟩ := ai_ldJ_inv h
  have hh := hk _ _ _ _ _ _ _ _ _ _ _ _ _ h S
  exact lv_lload hx hb hd (S.2.1.2.2.2 i _ hv) hh
theorem si_s_lload_n (C0 : si_C p R s m args meth c cc E adV nL o ini) (hk : si_ok p l e R s m args below meth c Q E nL k) {i : Fin 4} (hd : decode cc pc = .ok (.lload_n i, len)) (hl : len = 1) (S : si_S E s R nL H locs cells slots ls lo B I J Rf G) (h : ai_stp t F call post (.lload_n i) len pc lo st B I J Rf G k) : W p l e R s m args below meth c H locs cells slots Q (F0 m pc ls (st.map (si_v E))) := by
  obtain ⟨hx, hb, hml, hown, hts, hK, hX, hin, hlaw, hz, hfr, hlo⟩ := C0
  subst hl
  change ai_ldJ lo i.val (fun v => k (pc + 1) lo (v :: st) B I J Rf G) at h
  obtain ⟨x, hv, h⟩ := ai_ldJ_inv h
  have hh := hk _ _ _ _ _ _ _ _ _ _ _ _ _ h S
  exact lv_lload_n hx hb hd rfl (S.2.1.2.2.2 _ _ hv) hh
theorem si_s_aload (C0 : si_C p R s m args meth c cc E adV nL o ini) (hk : si_ok p l e R s m args below meth c Q E nL k) {i : Nat} (hd : decode cc pc = .ok (.aload i, len)) (hl : len = 2) (S : si_S E s R nL H locs cells slots ls lo B I J Rf G) (h : ai_stp t F call post (.aload i) len pc lo st B I J Rf G k) : W p l e R s m args below meth c H locs cells slots Q (F0 m pc ls (st.map (si_v E))) := by
  obtain ⟨hx, hb, hml, hown, hts, hK, hX, hin, hlaw, hz, hfr, hlo⟩ := C0
  subst hl
  change ai_ldR lo i (fun v => k (pc + 2) lo (v :: st) B I J Rf G) at h
  obtain ⟨x, hv, h⟩ := ai_ldR_inv h
  have hv2 := S.2.1.2.2.2 _ _ hv
  cases x with
  | zero =>
    have hh := hk _ _ _ _ _ _ _ _ _ _ _ _ _ h S
    exact lv_aloadN hx hb hd hv2 hh
  | succ q =>
    have hh := hk _ _ _ _ _ _ _ _ _ _ _ _ _ h S
    exact lv_aload hx hb hd hv2 hh
theorem si_s_istore (C0 : si_C p R s m args meth c cc E adV nL o ini) (hk : si_ok p l e R s m args below meth c Q E nL k) {i : Nat} (hd : decode cc pc = .ok (.istore i, len)) (hl : len = 2) (hi : i < nL) (S : si_S E s R nL H locs cells slots ls lo B I J Rf G) (h : ai_stp t F call post (.istore i) len pc lo st B I J Rf G k) : W p l e R s m args below meth c H locs cells slots Q (F0 m pc ls (st.map (si_v E))) := by
  obtain ⟨hx, hb, hml, hown, hts, hK, hX, hin, hlaw, hz, hfr, hlo⟩ := C0
  subst hl
  change ai_stI lo i st (fun lo st => k (pc + 2) lo st B I J Rf G) at h
  obtain ⟨x, r, rfl, h⟩ := ai_stI_inv h
  exact lv_istore hx hb hd S.2.1.has hi rfl (fun ls2 h2 => hk _ _ _ _ _ _ _ _ _ _ _ _ _ h ⟨S.1, S.2.1.put h2, S.2.2⟩)
theorem si_s_lstore (C0 : si_C p R s m args meth c cc E adV nL o ini) (hk : si_ok p l e R s m args below meth c Q E nL k) {i : Nat} (hd : decode cc pc = .ok (.lstore i, len)) (hl : len = 2) (hi : i + 1 < nL) (S : si_S E s R nL H locs cells slots ls lo B I J Rf G) (h : ai_stp t F call post (.lstore i) len pc lo st B I J Rf G k) : W p l e R s m args below meth c H locs cells slots Q (F0 m pc ls (st.map (si_v E))) := by
  obtain ⟨hx, hb, hml, hown, hts, hK, hX, hin, hlaw, hz, hfr, hlo⟩ := C0
  subst hl
  change ai_stJ lo i st (fun lo st => k (pc + 2) lo st B I J Rf G) at h
  obtain ⟨x, r, rfl, h⟩ := ai_stJ_inv h
  exact lv_lstore hx hb hd S.2.1.has hi rfl (fun ls2 h2 => hk _ _ _ _ _ _ _ _ _ _ _ _ _ h ⟨S.1, S.2.1.putL h2, S.2.2⟩)
theorem si_s_astore (C0 : si_C p R s m args meth c cc E adV nL o ini) (hk : si_ok p l e R s m args below meth c Q E nL k) {i : Nat} (hd : decode cc pc = .ok (.astore i, len)) (hl : len = 2) (hi : i < nL) (S : si_S E s R nL H locs cells slots ls lo B I J Rf G) (h : ai_stp t F call post (.astore i) len pc lo st B I J Rf G k) : W p l e R s m args below meth c H locs cells slots Q (F0 m pc ls (st.map (si_v E))) := by
  obtain ⟨hx, hb, hml, hown, hts, hK, hX, hin, hlaw, hz, hfr, hlo⟩ := C0
  subst hl
  change ai_stR lo i st (fun lo st => k (pc + 2) lo st B I J Rf G) at h
  obtain ⟨x, r, rfl, h⟩ := ai_stR_inv h
  cases x with
  | zero => exact lv_astoreN hx hb hd S.2.1.has hi rfl (fun ls2 h2 => hk _ _ _ _ _ _ _ _ _ _ _ _ _ h ⟨S.1, S.2.1.put h2, S.2.2⟩)
  | succ q => exact lv_astore hx hb hd S.2.1.has hi rfl (fun ls2 h2 => hk _ _ _ _ _ _ _ _ _ _ _ _ _ h ⟨S.1, S.2.1.put h2, S.2.2⟩)
theorem si_s_aload_n (C0 : si_C p R s m args meth c cc E adV nL o ini) (hk : si_ok p l e R s m args below meth c Q E nL k) {i : Fin 4} (hd : decode cc pc = .ok (.aload_n i, len)) (hl : len = 1) (S : si_S E s R nL H locs cells slots ls lo B I J Rf G) (h : ai_stp t F call post (.aload_n i) len pc lo st B I J Rf G k) : W p l e R s m args below meth c H locs cells slots Q (F0 m pc ls (st.map (si_v E))) := by
  obtain ⟨hx, hb, hml, hown, hts, hK, hX, hin, hlaw, hz, hfr, hlo⟩ := C0
  subst hl
  change ai_ldR lo i.val (fun v => k (pc + 1) lo (v :: st) B I J Rf G) at h
  obtain ⟨x, hv, h⟩ := ai_ldR_inv h
  have hv2 := S.2.1.2.2.2 _ _ hv
  cases x with
  | zero =>
    have hh := hk _ _ _ _ _ _ _ _ _ _ _ _ _ h S
    exact lv_aload_nN hx hb hd rfl hv2 hh
  | succ q =>
    have hh := hk _ _ _ _ _ _ _ _ _ _ _ _ _ h S
    exact lv_aload_n hx hb hd rfl hv2 hh
theorem si_s_istore_n (C0 : si_C p R s m args meth c cc E adV nL o ini) (hk : si_ok p l e R s m args below meth c Q E nL k) {i : Fin 4} (hd : decode cc pc = .ok (.istore_n i, len)) (hl : len = 1) (hi : i.val < nL) (S : si_S E s R nL H locs cells slots ls lo B I J Rf G) (h : ai_stp t F call post (.istore_n i) len pc lo st B I J Rf G k) : W p l e R s m args below meth c H locs cells slots Q (F0 m pc ls (st.map (si_v E))) := by
  obtain ⟨hx, hb, hml, hown, hts, hK, hX, hin, hlaw, hz, hfr, hlo⟩ := C0
  subst hl
  change ai_stI lo i.val st (fun lo st => k (pc + 1) lo st B I J Rf G) at h
  obtain ⟨x, r, rfl, h⟩ := ai_stI_inv h
  exact lv_istore_n hx hb hd rfl S.2.1.has hi rfl (fun ls2 h2 => hk _ _ _ _ _ _ _ _ _ _ _ _ _ h ⟨S.1, S.2.1.put h2, S.2.2⟩)
theorem si_s_lstore_n (C0 : si_C p R s m args meth c cc E adV nL o ini) (hk : si_ok p l e R s m args below meth c Q E nL k) {i : Fin 4} (hd : decode cc pc = .ok (.lstore_n i, len)) (hl : len = 1) (hi : i.val + 1 < nL) (S : si_S E s R nL H locs cells slots ls lo B I J Rf G) (h : ai_stp t F call post (.lstore_n i) len pc lo st B I J Rf G k) : W p l e R s m args below meth c H locs cells slots Q (F0 m pc ls (st.map (si_v E))) := by
  obtain ⟨hx, hb, hml, hown, hts, hK, hX, hin, hlaw, hz, hfr, hlo⟩ := C0
  subst hl
  change ai_stJ lo i.val st (fun lo st => k (pc + 1) lo st B I J Rf G) at h
  obtain ⟨x, r, rfl, h⟩ := ai_stJ_inv h
  exact lv_lstore_n hx hb hd rfl S.2.1.has hi rfl (fun ls2 h2 => hk _ _ _ _ _ _ _ _ _ _ _ _ _ h ⟨S.1, S.2.1.putL h2, S.2.2⟩)
theorem si_s_astore_n (C0 : si_C p R s m args meth c cc E adV nL o ini) (hk : si_ok p l e R s m args below meth c Q E nL k) {i : Fin 4} (hd : decode cc pc = .ok (.astore_n i, len)) (hl : len = 1) (hi : i.val < nL) (S : si_S E s R nL H locs cells slots ls lo B I J Rf G) (h : ai_stp t F call post (.astore_n i) len pc lo st B I J Rf G k) : W p l e R s m args below meth c H locs cells slots Q (F0 m pc ls (st.map (si_v E))) := by
  obtain ⟨hx, hb, hml, hown, hts, hK, hX, hin, hlaw, hz, hfr, hlo⟩ := C0
  subst hl
  change ai_stR lo i.val st (fun lo st => k (pc + 1) lo st B I J Rf G) at h
  obtain ⟨x, r, rfl, h⟩ := ai_stR_inv h
  cases x with
  | zero => exact lv_astore_nN hx hb hd rfl S.2.1.has hi rfl (fun ls2 h2 => hk _ _ _ _ _ _ _ _ _ _ _ _ _ h ⟨S.1, S.2.1.put h2, S.2.2⟩)
  | succ q => exact lv_astore_n hx hb hd rfl S.2.1.has hi rfl (fun ls2 h2 => hk _ _ _ _ _ _ _ _ _ _ _ _ _ h ⟨S.1, S.2.1.put h2, S.2.2⟩)
theorem si_s_iinc (C0 : si_C p R s m args meth c cc E adV nL o ini) (hk : si_ok p l e R s m args below meth c Q E nL k) {i : Nat} {n : Int} (hd : decode cc pc = .ok (.iinc i n, len)) (hl : len = 3) (S : si_S E s R nL H locs cells slots ls lo B I J Rf G) (h : ai_stp t F call post (.iinc i n) len pc lo st B I J Rf G k) : W p l e R s m args below meth c H locs cells slots Q (F0 m pc ls (st.map (si_v E))) := by
  obtain ⟨hx, hb, hml, hown, hts, hK, hX, hin, hlaw, hz, hfr, hlo⟩ := C0
  subst hl
  change (match ai_loc lo i with | some (.inl x) => k (pc + 3) (ai_put lo i (.inl (x + Int32.ofInt n))) st B I J Rf G | _ => False) at h
  split at h
  · rename_i x hv
    have hlt : i < nL := by rw [← S.2.1.2.2.1]; exact ai_loc_lt hv
    obtain ⟨q, hq⟩ := List.getElem?_of_mem (si_ll_mem (E := E) hv hlt)
    exact lv_iinc hx hb hd S.2.1.has hq rfl hlt rfl (fun ls2 h2 => hk _ _ _ _ _ _ _ _ _ _ _ _ _ h ⟨S.1, S.2.1.put h2, S.2.2⟩)
  · exact h.elim
theorem si_s_iadd (C0 : si_C p R s m args meth c cc E adV nL o ini) (hk : si_ok p l e R s m args below meth c Q E nL k) (hd : decode cc pc = .ok (.iadd, len)) (hl : len = 1) (S : si_S E s R nL H locs cells slots ls lo B I J Rf G) (h : ai_stp t F call post (.iadd) len pc lo st B I J Rf G k) : W p l e R s m args below meth c H locs cells slots Q (F0 m pc ls (st.map (si_v E))) := by
  obtain ⟨hx, hb, hml, hown, hts, hK, hX, hin, hlaw, hz, hfr, hlo⟩ := C0
  subst hl
  change ai_2I (fun x y => x + y) st (fun st => k (pc + 1) lo st B I J Rf G) at h
  obtain ⟨x, y, r, rfl, h⟩ := ai_2I_inv h
  have hh := hk _ _ _ _ _ _ _ _ _ _ _ _ _ h S
  exact lv_iadd hx hb hd hh
theorem si_s_isub (C0 : si_C p R s m args meth c cc E adV nL o ini) (hk : si_ok p l e R s m args below meth c Q E nL k) (hd : decode cc pc = .ok (.isub, len)) (hl : len = 1) (S : si_S E s R nL H locs cells slots ls lo B I J Rf G) (h : ai_stp t F call post (.isub) len pc lo st B I J Rf G k) : W p l e R s m args below meth c H locs cells slots Q (F0 m pc ls (st.map (si_v E))) := by
  obtain ⟨hx, hb, hml, hown, hts, hK, hX, hin, hlaw, hz, hfr, hlo⟩ := C0
  subst hl
  change ai_2I (fun x y => x - y) st (fun st => k (pc + 1) lo st B I J Rf G) at h
  obtain ⟨x, y, r, rfl, h⟩ := ai_2I_inv h
  have hh := hk _ _ _ _ _ _ _ _ _ _ _ _ _ h S
  exact lv_isub hx hb hd hh
theorem si_s_imul (C0 : si_C p R s m args meth c cc E adV nL o ini) (hk : si_ok p l e R s m args below meth c Q E nL k) (hd : decode cc pc = .ok (.imul, len)) (hl : len = 1) (S : si_S E s R nL H locs cells slots ls lo B I J Rf G) (h : ai_stp t F call post (.imul) len pc lo st B I J Rf G k) : W p l e R s m args below meth c H locs cells slots Q (F0 m pc ls (st.map (si_v E))) := by
  obtain ⟨hx, hb, hml, hown, hts, hK, hX, hin, hlaw, hz, hfr, hlo⟩ := C0
  subst hl
  change ai_2I (fun x y => x * y) st (fun st => k (pc + 1) lo st B I J Rf G) at h
  obtain ⟨x, y, r, rfl, h⟩ := ai_2I_inv h
  have hh := hk _ _ _ _ _ _ _ _ _ _ _ _ _ h S
  exact lv_imul hx hb hd hh
theorem si_s_iand (C0 : si_C p R s m args meth c cc E adV nL o ini) (hk : si_ok p l e R s m args below meth c Q E nL k) (hd : decode cc pc = .ok (.iand, len)) (hl : len = 1) (S : si_S E s R nL H locs cells slots ls lo B I J Rf G) (h : ai_stp t F call post (.iand) len pc lo st B I J Rf G k) : W p l e R s m args below meth c H locs cells slots Q (F0 m pc ls (st.map (si_v E))) := by
  obtain ⟨hx, hb, hml, hown, hts, hK, hX, hin, hlaw, hz, hfr, hlo⟩ := C0
  subst hl
  change ai_2I (fun x y => x &&& y) st (fun st => k (pc + 1) lo st B I J Rf G) at h
  obtain ⟨x, y, r, rfl, h⟩ := ai_2I_inv h
  have hh := hk _ _ _ _ _ _ _ _ _ _ _ _ _ h S
  exact lv_iand hx hb hd hh
theorem si_s_ior (C0 : si_C p R s m args meth c cc E adV nL o ini) (hk : si_ok p l e R s m args below meth c Q E nL k) (hd : decode cc pc = .ok (.ior, len)) (hl : len = 1) (S : si_S E s R nL H locs cells slots ls lo B I J Rf G) (h : ai_stp t F call post (.ior) len pc lo st B I J Rf G k) : W p l e R s m args below meth c H locs cells slots Q (F0 m pc ls (st.map (si_v E))) := by
  obtain ⟨hx, hb, hml, hown, hts, hK, hX, hin, hlaw, hz, hfr, hlo⟩ := C0
  subst hl
  change ai_2I (fun x y => x ||| y) st (fun st => k (pc + 1) lo st B I J Rf G) at h
  obtain ⟨x, y, r, rfl, h⟩ := ai_2I_inv h
  have hh := hk _ _ _ _ _ _ _ _ _ _ _ _ _ h S
  exact lv_ior hx hb hd hh
theorem si_s_ixor (C0 : si_C p R s m args meth c cc E adV nL o ini) (hk : si_ok p l e R s m args below meth c Q E nL k) (hd : decode cc pc = .ok (.ixor, len)) (hl : len = 1) (S : si_S E s R nL H locs cells slots ls lo B I J Rf G) (h : ai_stp t F call post (.ixor) len pc lo st B I J Rf G k) : W p l e R s m args below meth c H locs cells slots Q (F0 m pc ls (st.map (si_v E))) := by
  obtain ⟨hx, hb, hml, hown, hts, hK, hX, hin, hlaw, hz, hfr, hlo⟩ := C0
  subst hl
  change ai_2I (fun x y => x ^^^ y) st (fun st => k (pc + 1) lo st B I J Rf G) at h
  obtain ⟨x, y, r, rfl, h⟩ := ai_2I_inv h
  have hh := hk _ _ _ _ _ _ _ _ _ _ _ _ _ h S
  exact lv_ixor hx hb hd hh
theorem si_s_ishl (C0 : si_C p R s m args meth c cc E adV nL o ini) (hk : si_ok p l e R s m args below meth c Q E nL k) (hd : decode cc pc = .ok (.ishl, len)) (hl : len = 1) (S : si_S E s R nL H locs cells slots ls lo B I J Rf G) (h : ai_stp t F call post (.ishl) len pc lo st B I J Rf G k) : W p l e R s m args below meth c H locs cells slots Q (F0 m pc ls (st.map (si_v E))) := by
  obtain ⟨hx, hb, hml, hown, hts, hK, hX, hin, hlaw, hz, hfr, hlo⟩ := C0
  subst hl
  change ai_2I (fun x y => x <<< (y &&& 31)) st (fun st => k (pc + 1) lo st B I J Rf G) at h
  obtain ⟨x, y, r, rfl, h⟩ := ai_2I_inv h
  have hh := hk _ _ _ _ _ _ _ _ _ _ _ _ _ h S
  exact lv_ishl hx hb hd hh
theorem si_s_ishr (C0 : si_C p R s m args meth c cc E adV nL o ini) (hk : si_ok p l e R s m args below meth c Q E nL k) (hd : decode cc pc = .ok (.ishr, len)) (hl : len = 1) (S : si_S E s R nL H locs cells slots ls lo B I J Rf G) (h : ai_stp t F call post (.ishr) len pc lo st B I J Rf G k) : W p l e R s m args below meth c H locs cells slots Q (F0 m pc ls (st.map (si_v E))) := by
  obtain ⟨hx, hb, hml, hown, hts, hK, hX, hin, hlaw, hz, hfr, hlo⟩ := C0
  subst hl
  change ai_2I (fun x y => x >>> (y &&& 31)) st (fun st => k (pc + 1) lo st B I J Rf G) at h
  obtain ⟨x, y, r, rfl, h⟩ := ai_2I_inv h
  have hh := hk _ _ _ _ _ _ _ _ _ _ _ _ _ h S
  exact lv_ishr hx hb hd hh
theorem si_s_iushr (C0 : si_C p R s m args meth c cc E adV nL o ini) (hk : si_ok p l e R s m args below meth c Q E nL k) (hd : decode cc pc = .ok (.iushr, len)) (hl : len = 1) (S : si_S E s R nL H locs cells slots ls lo B I J Rf G) (h : ai_stp t F call post (.iushr) len pc lo st B I J Rf G k) : W p l e R s m args below meth c H locs cells slots Q (F0 m pc ls (st.map (si_v E))) := by
  obtain ⟨hx, hb, hml, hown, hts, hK, hX, hin, hlaw, hz, hfr, hlo⟩ := C0
  subst hl
  change ai_2I (fun x y => (x.toUInt32 >>> (y.toUInt32 &&& Int32.toUInt32 31)).toInt32) st (fun st => k (pc + 1) lo st B I J Rf G) at h
  obtain ⟨x, y, r, rfl, h⟩ := ai_2I_inv h
  have hh := hk _ _ _ _ _ _ _ _ _ _ _ _ _ h S
  exact lv_iushr hx hb hd rfl hh
theorem si_s_ineg (C0 : si_C p R s m args meth c cc E adV nL o ini) (hk : si_ok p l e R s m args below meth c Q E nL k) (hd : decode cc pc = .ok (.ineg, len)) (hl : len = 1) (S : si_S E s R nL H locs cells slots ls lo B I J Rf G) (h : ai_stp t F call post (.ineg) len pc lo st B I J Rf G k) : W p l e R s m args below meth c H locs cells slots Q (F0 m pc ls (st.map (si_v E))) := by
  obtain ⟨hx, hb, hml, hown, hts, hK, hX, hin, hlaw, hz, hfr, hlo⟩ := C0
  subst hl
  change ai_1I (fun x => -x) st (fun st => k (pc + 1) lo st B I J Rf G) at h
  obtain ⟨x, r, rfl, h⟩ := ai_1I_inv h
  have hh := hk _ _ _ _ _ _ _ _ _ _ _ _ _ h S
  exact lv_ineg hx hb hd hh
theorem si_s_i2b (C0 : si_C p R s m args meth c cc E adV nL o ini) (hk : si_ok p l e R s m args below meth c Q E nL k) (hd : decode cc pc = .ok (.i2b, len)) (hl : len = 1) (S : si_S E s R nL H locs cells slots ls lo B I J Rf G) (h : ai_stp t F call post (.i2b) len pc lo st B I J Rf G k) : W p l e R s m args below meth c H locs cells slots Q (F0 m pc ls (st.map (si_v E))) := by
  obtain ⟨hx, hb, hml, hown, hts, hK, hX, hin, hlaw, hz, hfr, hlo⟩ := C0
  subst hl
  change ai_1I (fun x => x.toInt8.toInt32) st (fun st => k (pc + 1) lo st B I J Rf G) at h
  obtain ⟨x, r, rfl, h⟩ := ai_1I_inv h
  have hh := hk _ _ _ _ _ _ _ _ _ _ _ _ _ h S
  exact lv_i2b hx hb hd rfl hh
theorem si_s_idiv (C0 : si_C p R s m args meth c cc E adV nL o ini) (hk : si_ok p l e R s m args below meth c Q E nL k) (hd : decode cc pc = .ok (.idiv, len)) (hl : len = 1) (S : si_S E s R nL H locs cells slots ls lo B I J Rf G) (h : ai_stp t F call post (.idiv) len pc lo st B I J Rf G k) : W p l e R s m args below meth c H locs cells slots Q (F0 m pc ls (st.map (si_v E))) := by
  obtain ⟨hx, hb, hml, hown, hts, hK, hX, hin, hlaw, hz, hfr, hlo⟩ := C0
  subst hl
  change ai_2D (fun x y => x / y) st (fun st => k (pc + 1) lo st B I J Rf G) at h
  obtain ⟨x, y, r, rfl, hne, h⟩ := ai_2D_inv h
  have hh := hk _ _ _ _ _ _ _ _ _ _ _ _ _ h S
  exact lv_idiv hx hb hd hne hh
theorem si_s_irem (C0 : si_C p R s m args meth c cc E adV nL o ini) (hk : si_ok p l e R s m args below meth c Q E nL k) (hd : decode cc pc = .ok (.irem, len)) (hl : len = 1) (S : si_S E s R nL H locs cells slots ls lo B I J Rf G) (h : ai_stp t F call post (.irem) len pc lo st B I J Rf G k) : W p l e R s m args below meth c H locs cells slots Q (F0 m pc ls (st.map (si_v E))) := by
  obtain ⟨hx, hb, hml, hown, hts, hK, hX, hin, hlaw, hz, hfr, hlo⟩ := C0
  subst hl
  change ai_2D (fun x y => x - x / y * y) st (fun st => k (pc + 1) lo st B I J Rf G) at h
  obtain ⟨x, y, r, rfl, hne, h⟩ := ai_2D_inv h
  have hh := hk _ _ _ _ _ _ _ _ _ _ _ _ _ h S
  exact lv_irem hx hb hd hne hh
theorem si_s_ladd (C0 : si_C p R s m args meth c cc E adV nL o ini) (hk : si_ok p l e R s m args below meth c Q E nL k) (hd : decode cc pc = .ok (.ladd, len)) (hl : len = 1) (S : si_S E s R nL H locs cells slots ls lo B I J Rf G) (h : ai_stp t F call post (.ladd) len pc lo st B I J Rf G k) : W p l e R s m args below meth c H locs cells slots Q (F0 m pc ls (st.map (si_v E))) := by
  obtain ⟨hx, hb, hml, hown, hts, hK, hX, hin, hlaw, hz, hfr, hlo⟩ := C0
  subst hl
  change ai_2J (fun x y => x + y) st (fun st => k (pc + 1) lo st B I J Rf G) at h
  obtain ⟨x, y, r, rfl, h⟩ := ai_2J_inv h
  have hh := hk _ _ _ _ _ _ _ _ _ _ _ _ _ h S
  exact lv_ladd hx hb hd hh
theorem si_s_lsub (C0 : si_C p R s m args meth c cc E adV nL o ini) (hk : si_ok p l e R s m args below meth c Q E nL k) (hd : decode cc pc = .ok (.lsub, len)) (hl : len = 1) (S : si_S E s R nL H locs cells slots ls lo B I J Rf G) (h : ai_stp t F call post (.lsub) len pc lo st B I J Rf G k) : W p l e R s m args below meth c H locs cells slots Q (F0 m pc ls (st.map (si_v E))) := by
  obtain ⟨hx, hb, hml, hown, hts, hK, hX, hin, hlaw, hz, hfr, hlo⟩ := C0
  subst hl
  change ai_2J (fun x y => x - y) st (fun st => k (pc + 1) lo st B I J Rf G) at h
  obtain ⟨x, y, r, rfl, h⟩ := ai_2J_inv h
  have hh := hk _ _ _ _ _ _ _ _ _ _ _ _ _ h S
  exact lv_lsub hx hb hd hh
theorem si_s_lmul (C0 : si_C p R s m args meth c cc E adV nL o ini) (hk : si_ok p l e R s m args below meth c Q E nL k) (hd : decode cc pc = .ok (.lmul, len)) (hl : len = 1) (S : si_S E s R nL H locs cells slots ls lo B I J Rf G) (h : ai_stp t F call post (.lmul) len pc lo st B I J Rf G k) : W p l e R s m args below meth c H locs cells slots Q (F0 m pc ls (st.map (si_v E))) := by
  obtain ⟨hx, hb, hml, hown, hts, hK, hX, hin, hlaw, hz, hfr, hlo⟩ := C0
  subst hl
  change ai_2J (fun x y => x * y) st (fun st => k (pc + 1) lo st B I J Rf G) at h
  obtain ⟨x, y, r, rfl, h⟩ := ai_2J_inv h
  have hh := hk _ _ _ _ _ _ _ _ _ _ _ _ _ h S
  exact lv_lmul hx hb hd hh
theorem si_s_ldiv (C0 : si_C p R s m args meth c cc E adV nL o ini) (hk : si_ok p l e R s m args below meth c Q E nL k) (hd : decode cc pc = .ok (.ldiv, len)) (hl : len = 1) (S : si_S E s R nL H locs cells slots ls lo B I J Rf G) (h : ai_stp t F call post (.ldiv) len pc lo st B I J Rf G k) : W p l e R s m args below meth c H locs cells slots Q (F0 m pc ls (st.map (si_v E))) := by
  obtain ⟨hx, hb, hml, hown, hts, hK, hX, hin, hlaw, hz, hfr, hlo⟩ := C0
  subst hl
  change ai_2E (fun x y => x / y) st (fun st => k (pc + 1) lo st B I J Rf G) at h
  obtain ⟨x, y, r, rfl, hne, h⟩ := ai_2E_inv h
  have hh := hk _ _ _ _ _ _ _ _ _ _ _ _ _ h S
  exact lv_ldiv hx hb hd hne hh
theorem si_s_lrem (C0 : si_C p R s m args meth c cc E adV nL o ini) (hk : si_ok p l e R s m args below meth c Q E nL k) (hd : decode cc pc = .ok (.lrem, len)) (hl : len = 1) (S : si_S E s R nL H locs cells slots ls lo B I J Rf G) (h : ai_stp t F call post (.lrem) len pc lo st B I J Rf G k) : W p l e R s m args below meth c H locs cells slots Q (F0 m pc ls (st.map (si_v E))) := by
  obtain ⟨hx, hb, hml, hown, hts, hK, hX, hin, hlaw, hz, hfr, hlo⟩ := C0
  subst hl
  change ai_2E (fun x y => x - x / y * y) st (fun st => k (pc + 1) lo st B I J Rf G) at h
  obtain ⟨x, y, r, rfl, hne, h⟩ := ai_2E_inv h
  have hh := hk _ _ _ _ _ _ _ _ _ _ _ _ _ h S
  exact lv_lrem hx hb hd hne hh
theorem si_s_i2l (C0 : si_C p R s m args meth c cc E adV nL o ini) (hk : si_ok p l e R s m args below meth c Q E nL k) (hd : decode cc pc = .ok (.i2l, len)) (hl : len = 1) (S : si_S E s R nL H locs cells slots ls lo B I J Rf G) (h : ai_stp t F call post (.i2l) len pc lo st B I J Rf G k) : W p l e R s m args below meth c H locs cells slots Q (F0 m pc ls (st.map (si_v E))) := by
  obtain ⟨hx, hb, hml, hown, hts, hK, hX, hin, hlaw, hz, hfr, hlo⟩ := C0
  subst hl
  change (match (generalizing := false) st with | .inl x :: r => k (pc + 1) lo (.inr (.inl x.toInt64) :: r) B I J Rf G | _ => False) at h
  split at h
  · have hh := hk _ _ _ _ _ _ _ _ _ _ _ _ _ h S
    exact lv_i2l hx hb hd rfl hh
  · exact h.elim
theorem si_s_lcmp (C0 : si_C p R s m args meth c cc E adV nL o ini) (hk : si_ok p l e R s m args below meth c Q E nL k) (hd : decode cc pc = .ok (.lcmp, len)) (hl : len = 1) (S : si_S E s R nL H locs cells slots ls lo B I J Rf G) (h : ai_stp t F call post (.lcmp) len pc lo st B I J Rf G k) : W p l e R s m args below meth c H locs cells slots Q (F0 m pc ls (st.map (si_v E))) := by
  obtain ⟨hx, hb, hml, hown, hts, hK, hX, hin, hlaw, hz, hfr, hlo⟩ := C0
  subst hl
  change (match (generalizing := false) st with | .inr (.inl y) :: .inr (.inl x) :: r => k (pc + 1) lo (.inl (ai_cmp x y) :: r) B I J Rf G | _ => False) at h
  split at h
  · have hh := hk _ _ _ _ _ _ _ _ _ _ _ _ _ h S
    exact W.lcmp hx hb hd hh
  · exact h.elim
theorem si_s_dup (C0 : si_C p R s m args meth c cc E adV nL o ini) (hk : si_ok p l e R s m args below meth c Q E nL k) (hd : decode cc pc = .ok (.dup, len)) (hl : len = 1) (S : si_S E s R nL H locs cells slots ls lo B I J Rf G) (h : ai_stp t F call post (.dup) len pc lo st B I J Rf G k) : W p l e R s m args below meth c H locs cells slots Q (F0 m pc ls (st.map (si_v E))) := by
  obtain ⟨hx, hb, hml, hown, hts, hK, hX, hin, hlaw, hz, hfr, hlo⟩ := C0
  subst hl
  change (match (generalizing := false) st with | .inl x :: r => k (pc + 1) lo (.inl x :: .inl x :: r) B I J Rf G | .inr (.inr a) :: r => k (pc + 1) lo (.inr (.inr a) :: .inr (.inr a) :: r) B I J Rf G | _ => False) at h
  split at h
  · have hh := hk _ _ _ _ _ _ _ _ _ _ _ _ _ h S
    exact lv_dup hx hb hd rfl hh
  · rename_i a r
    have hh := hk _ _ _ _ _ _ _ _ _ _ _ _ _ h S
    exact lv_dup hx hb hd (by cases a <;> rfl) hh
  · exact h.elim
theorem si_s_dup2 (C0 : si_C p R s m args meth c cc E adV nL o ini) (hk : si_ok p l e R s m args below meth c Q E nL k) (hd : decode cc pc = .ok (.dup2, len)) (hl : len = 1) (S : si_S E s R nL H locs cells slots ls lo B I J Rf G) (h : ai_stp t F call post (.dup2) len pc lo st B I J Rf G k) : W p l e R s m args below meth c H locs cells slots Q (F0 m pc ls (st.map (si_v E))) := by
  obtain ⟨hx, hb, hml, hown, hts, hK, hX, hin, hlaw, hz, hfr, hlo⟩ := C0
  subst hl
  change (match (generalizing := false) st with | .inl y :: .inr (.inr a) :: r => k (pc + 1) lo (.inl y :: .inr (.inr a) :: .inl y :: .inr (.inr a) :: r) B I J Rf G | _ => False) at h
  split at h
  · rename_i y a r
    have hh := hk _ _ _ _ _ _ _ _ _ _ _ _ _ h S
    exact lv_dup2_11 hx hb hd rfl (by cases a <;> rfl) hh
  · exact h.elim
theorem si_s_pop (C0 : si_C p R s m args meth c cc E adV nL o ini) (hk : si_ok p l e R s m args below meth c Q E nL k) (hd : decode cc pc = .ok (.pop, len)) (hl : len = 1) (S : si_S E s R nL H locs cells slots ls lo B I J Rf G) (h : ai_stp t F call post (.pop) len pc lo st B I J Rf G k) : W p l e R s m args below meth c H locs cells slots Q (F0 m pc ls (st.map (si_v E))) := by
  obtain ⟨hx, hb, hml, hown, hts, hK, hX, hin, hlaw, hz, hfr, hlo⟩ := C0
  subst hl
  change (match (generalizing := false) st with | .inl _ :: r => k (pc + 1) lo r B I J Rf G | .inr (.inr _) :: r => k (pc + 1) lo r B I J Rf G | _ => False) at h
  split at h
  · have hh := hk _ _ _ _ _ _ _ _ _ _ _ _ _ h S
    exact lv_pop hx hb hd rfl hh
  · rename_i a r
    have hh := hk _ _ _ _ _ _ _ _ _ _ _ _ _ h S
    exact lv_pop hx hb hd (by cases a <;> rfl) hh
  · exact h.elim
theorem si_s_goto (C0 : si_C p R s m args meth c cc E adV nL o ini) (hk : si_ok p l e R s m args below meth c Q E nL k) {off : Int} (hd : decode cc pc = .ok (.goto off, len)) (hl : len = 3) (ho : 0 ≤ (pc : Int) + off) (S : si_S E s R nL H locs cells slots ls lo B I J Rf G) (h : ai_stp t F call post (.goto off) len pc lo st B I J Rf G k) : W p l e R s m args below meth c H locs cells slots Q (F0 m pc ls (st.map (si_v E))) := by
  obtain ⟨hx, hb, hml, hown, hts, hK, hX, hin, hlaw, hz, hfr, hlo⟩ := C0
  subst hl
  have hh := hk _ _ _ _ _ _ _ _ _ _ _ _ _ h S
  exact lv_goto hx hb hd (ai_tgt_eq ho) hh
theorem si_s_ifCond (C0 : si_C p R s m args meth c cc E adV nL o ini) (hk : si_ok p l e R s m args below meth c Q E nL k) {cn : ClassFile.Cond} {off : Int} (hd : decode cc pc = .ok (.ifCond cn off, len)) (hl : len = 3) (ho : 0 ≤ (pc : Int) + off) (S : si_S E s R nL H locs cells slots ls lo B I J Rf G) (h : ai_stp t F call post (.ifCond cn off) len pc lo st B I J Rf G k) : W p l e R s m args below meth c H locs cells slots Q (F0 m pc ls (st.map (si_v E))) := by
  obtain ⟨hx, hb, hml, hown, hts, hK, hX, hin, hlaw, hz, hfr, hlo⟩ := C0
  subst hl
  change (match (generalizing := false) st with | .inl x :: r => (ai_cnd cn x 0 → k (ai_tgt pc off) lo r B I J Rf G) ∧ (¬ ai_cnd cn x 0 → k (pc + 3) lo r B I J Rf G) | _ => False) at h
  split at h
  · cases cn with
    | eq => exact lv_if_eq hx hb hd (ai_tgt_eq ho) (fun q => hk _ _ _ _ _ _ _ _ _ _ _ _ _ (h.1 q) S) (fun q => hk _ _ _ _ _ _ _ _ _ _ _ _ _ (h.2 q) S)
    | ne => exact lv_if_ne hx hb hd (ai_tgt_eq ho) (fun q => hk _ _ _ _ _ _ _ _ _ _ _ _ _ (h.1 q) S) (fun q => hk _ _ _ _ _ _ _ _ _ _ _ _ _ (h.2 (fun z => z q)) S)
    | lt => exact lv_if_lt hx hb hd (ai_tgt_eq ho) (fun q => hk _ _ _ _ _ _ _ _ _ _ _ _ _ (h.1 q) S) (fun q => hk _ _ _ _ _ _ _ _ _ _ _ _ _ (h.2 q) S)
    | ge => exact lv_if_ge hx hb hd (ai_tgt_eq ho) (fun q => hk _ _ _ _ _ _ _ _ _ _ _ _ _ (h.1 q) S) (fun q => hk _ _ _ _ _ _ _ _ _ _ _ _ _ (h.2 q) S)
    | gt => exact lv_if_gt hx hb hd (ai_tgt_eq ho) (fun q => hk _ _ _ _ _ _ _ _ _ _ _ _ _ (h.1 q) S) (fun q => hk _ _ _ _ _ _ _ _ _ _ _ _ _ (h.2 q) S)
    | le => exact lv_if_le hx hb hd (ai_tgt_eq ho) (fun q => hk _ _ _ _ _ _ _ _ _ _ _ _ _ (h.1 q) S) (fun q => hk _ _ _ _ _ _ _ _ _ _ _ _ _ (h.2 q) S)
  · exact h.elim
theorem si_s_if_icmp (C0 : si_C p R s m args meth c cc E adV nL o ini) (hk : si_ok p l e R s m args below meth c Q E nL k) {cn : ClassFile.Cond} {off : Int} (hd : decode cc pc = .ok (.if_icmp cn off, len)) (hl : len = 3) (ho : 0 ≤ (pc : Int) + off) (S : si_S E s R nL H locs cells slots ls lo B I J Rf G) (h : ai_stp t F call post (.if_icmp cn off) len pc lo st B I J Rf G k) : W p l e R s m args below meth c H locs cells slots Q (F0 m pc ls (st.map (si_v E))) := by
  obtain ⟨hx, hb, hml, hown, hts, hK, hX, hin, hlaw, hz, hfr, hlo⟩ := C0
  subst hl
  change (match (generalizing := false) st with | .inl y :: .inl x :: r => (ai_cnd cn x y → k (ai_tgt pc off) lo r B I J Rf G) ∧ (¬ ai_cnd cn x y → k (pc + 3) lo r B I J Rf G) | _ => False) at h
  split at h
  · cases cn with
    | eq => exact lv_icmp_eq hx hb hd (ai_tgt_eq ho) (fun q => hk _ _ _ _ _ _ _ _ _ _ _ _ _ (h.1 q) S) (fun q => hk _ _ _ _ _ _ _ _ _ _ _ _ _ (h.2 q) S)
    | ne => exact lv_icmp_ne hx hb hd (ai_tgt_eq ho) (fun q => hk _ _ _ _ _ _ _ _ _ _ _ _ _ (h.1 q) S) (fun q => hk _ _ _ _ _ _ _ _ _ _ _ _ _ (h.2 (fun z => z q)) S)
    | lt => exact lv_icmp_lt hx hb hd (ai_tgt_eq ho) (fun q => hk _ _ _ _ _ _ _ _ _ _ _ _ _ (h.1 q) S) (fun q => hk _ _ _ _ _ _ _ _ _ _ _ _ _ (h.2 q) S)
    | ge => exact lv_icmp_ge hx hb hd (ai_tgt_eq ho) (fun q => hk _ _ _ _ _ _ _ _ _ _ _ _ _ (h.1 q) S) (fun q => hk _ _ _ _ _ _ _ _ _ _ _ _ _ (h.2 q) S)
    | gt => exact lv_icmp_gt hx hb hd (ai_tgt_eq ho) (fun q => hk _ _ _ _ _ _ _ _ _ _ _ _ _ (h.1 q) S) (fun q => hk _ _ _ _ _ _ _ _ _ _ _ _ _ (h.2 q) S)
    | le => exact lv_icmp_le hx hb hd (ai_tgt_eq ho) (fun q => hk _ _ _ _ _ _ _ _ _ _ _ _ _ (h.1 q) S) (fun q => hk _ _ _ _ _ _ _ _ _ _ _ _ _ (h.2 q) S)
  · exact h.elim
theorem si_s_ifnull (C0 : si_C p R s m args meth c cc E adV nL o ini) (hk : si_ok p l e R s m args below meth c Q E nL k) {off : Int} (hd : decode cc pc = .ok (.ifnull off, len)) (hl : len = 3) (ho : 0 ≤ (pc : Int) + off) (S : si_S E s R nL H locs cells slots ls lo B I J Rf G) (h : ai_stp t F call post (.ifnull off) len pc lo st B I J Rf G k) : W p l e R s m args below meth c H locs cells slots Q (F0 m pc ls (st.map (si_v E))) := by
  obtain ⟨hx, hb, hml, hown, hts, hK, hX, hin, hlaw, hz, hfr, hlo⟩ := C0
  subst hl
  change (match (generalizing := false) st with | .inr (.inr a) :: r => (a = 0 → k (ai_tgt pc off) lo r B I J Rf G) ∧ (¬ a = 0 → k (pc + 3) lo r B I J Rf G) | _ => False) at h
  split at h
  · rename_i a r
    cases a with
    | zero =>
      have hh := hk _ _ _ _ _ _ _ _ _ _ _ _ _ (h.1 rfl) S
      exact lv_ifnullN hx hb hd (ai_tgt_eq ho) hh
    | succ q =>
      have hh := hk _ _ _ _ _ _ _ _ _ _ _ _ _ (h.2 (Nat.succ_ne_zero q)) S
      exact lv_ifnull hx hb hd hh
  · exact h.elim
theorem si_s_ifnonnull (C0 : si_C p R s m args meth c cc E adV nL o ini) (hk : si_ok p l e R s m args below meth c Q E nL k) {off : Int} (hd : decode cc pc = .ok (.ifnonnull off, len)) (hl : len = 3) (ho : 0 ≤ (pc : Int) + off) (S : si_S E s R nL H locs cells slots ls lo B I J Rf G) (h : ai_stp t F call post (.ifnonnull off) len pc lo st B I J Rf G k) : W p l e R s m args below meth c H locs cells slots Q (F0 m pc ls (st.map (si_v E))) := by
  obtain ⟨hx, hb, hml, hown, hts, hK, hX, hin, hlaw, hz, hfr, hlo⟩ := C0
  subst hl
  change (match (generalizing := false) st with | .inr (.inr a) :: r => (¬ a = 0 → k (ai_tgt pc off) lo r B I J Rf G) ∧ (a = 0 → k (pc + 3) lo r B I J Rf G) | _ => False) at h
  split at h
  · rename_i a r
    cases a with
    | zero =>
      have hh := hk _ _ _ _ _ _ _ _ _ _ _ _ _ (h.2 rfl) S
      exact lv_ifnonnullN hx hb hd hh
    | succ q =>
      have hh := hk _ _ _ _ _ _ _ _ _ _ _ _ _ (h.1 (Nat.succ_ne_zero q)) S
      exact lv_ifnonnull hx hb hd (ai_tgt_eq ho) hh
  · exact h.elim
theorem si_s_tableswitch (C0 : si_C p R s m args meth c cc E adV nL o ini) (hk : si_ok p l e R s m args below meth c Q E nL k) {d lq hq : Int} {os : Array Int} (hd : decode cc pc = .ok (.tableswitch d lq hq os, len)) (ho : 0 ≤ (pc : Int) + d) (hos : ∀ off ∈ os.toList, 0 ≤ (pc : Int) + off) (hsz : hq - lq < (os.toList.length : Int)) (S : si_S E s R nL H locs cells slots ls lo B I J Rf G) (h : ai_stp t F call post (.tableswitch d lq hq os) len pc lo st B I J Rf G k) : W p l e R s m args below meth c H locs cells slots Q (F0 m pc ls (st.map (si_v E))) := by
  obtain ⟨hx, hb, hml, hown, hts, hK, hX, hin, hlaw, hz, hfr, hlo⟩ := C0
  change (match (generalizing := false) st with | .inl x :: r => (x.toInt < lq ∨ hq < x.toInt → k (ai_tgt pc d) lo r B I J Rf G) ∧ ai_sw x pc (fun q => k q lo r B I J Rf G) lq os.toList | _ => False) at h
  split at h
  · rename_i x r
    by_cases hr : x.toInt < lq ∨ hq < x.toInt
    · have hh := hk _ _ _ _ _ _ _ _ _ _ _ _ _ (h.1 hr) S
      exact lv_tableOut hx hb hd hr (ai_tgt_eq ho) hh
    · have h1 : ¬ x.toInt < lq := fun z => hr (Or.inl z)
      have h2 : ¬ hq < x.toInt := fun z => hr (Or.inr z)
      have hj : (x.toInt - lq).toNat < os.toList.length := by omega
      obtain ⟨off, hoff⟩ : ∃ off, os.toList[(x.toInt - lq).toNat]? = some off := ⟨_, List.getElem?_eq_getElem hj⟩
      have hoff2 : os[(x.toInt - lq).toNat]? = some off := by rw [← Array.getElem?_toList]; exact hoff
      exact lv_tableIn hx hb hd h1 h2 hoff2 (ai_tgt_eq (hos off (List.mem_of_getElem? hoff))) (hk _ _ _ _ _ _ _ _ _ _ _ _ _ (ai_sw_inv _ _ h.2 _ off hoff (by omega)) S)
  · exact h.elim
theorem si_s_baload (C0 : si_C p R s m args meth c cc E adV nL o ini) (hk : si_ok p l e R s m args below meth c Q E nL k) (hd : decode cc pc = .ok (.baload, len)) (hl : len = 1) (S : si_S E s R nL H locs cells slots ls lo B I J Rf G) (h : ai_stp t F call post (.baload) len pc lo st B I J Rf G k) : W p l e R s m args below meth c H locs cells slots Q (F0 m pc ls (st.map (si_v E))) := by
  obtain ⟨hx, hb, hml, hown, hts, hK, hX, hin, hlaw, hz, hfr, hlo⟩ := C0
  subst hl
  change (match (generalizing := false) st with | .inl i :: .inr (.inr a) :: r => G.1 a = 12 ∧ ai_in i (G.2.1 a) ∧ k (pc + 1) lo (.inl (I a i.toNatClampNeg) :: r) B I J Rf G | _ => False) at h
  split at h
  · rename_i i a r
    obtain ⟨hk1, hi, h⟩ := h
    have ha := (S.1.2.2.1 a (by omega)).1
    have hP := S.1.at1 (by omega) (si_cell12 hk1)
    rw [show (Sum.inl i :: Sum.inr (Sum.inr a) :: r : List ai_V).map (si_v E) = .int i :: si_v E (.inr (.inr a)) :: r.map (si_v E) from rfl, si_v_pos ha]
    have hh := hk _ _ _ _ _ _ _ _ _ _ _ _ _ h S
    exact va_bald hx hb hK hP 0 0 rfl rfl hi hd hh
  · exact h.elim
theorem si_s_laload (C0 : si_C p R s m args meth c cc E adV nL o ini) (hk : si_ok p l e R s m args below meth c Q E nL k) (hd : decode cc pc = .ok (.laload, len)) (hl : len = 1) (S : si_S E s R nL H locs cells slots ls lo B I J Rf G) (h : ai_stp t F call post (.laload) len pc lo st B I J Rf G k) : W p l e R s m args below meth c H locs cells slots Q (F0 m pc ls (st.map (si_v E))) := by
  obtain ⟨hx, hb, hml, hown, hts, hK, hX, hin, hlaw, hz, hfr, hlo⟩ := C0
  subst hl
  change (match (generalizing := false) st with | .inl i :: .inr (.inr a) :: r => G.1 a = 14 ∧ ai_in i (G.2.1 a) ∧ k (pc + 1) lo (.inr (.inl (J a i.toNatClampNeg)) :: r) B I J Rf G | _ => False) at h
  split at h
  · rename_i i a r
    obtain ⟨hk1, hi, h⟩ := h
    have ha := (S.1.2.2.1 a (by omega)).1
    have hP := S.1.at1 (by omega) (si_cell14 hk1)
    rw [show (Sum.inl i :: Sum.inr (Sum.inr a) :: r : List ai_V).map (si_v E) = .int i :: si_v E (.inr (.inr a)) :: r.map (si_v E) from rfl, si_v_pos ha]
    have hh := hk _ _ _ _ _ _ _ _ _ _ _ _ _ h S
    exact va_lald hx hb hK hP 0 2 rfl rfl hi hd hh
  · exact h.elim
theorem si_s_aaload (C0 : si_C p R s m args meth c cc E adV nL o ini) (hk : si_ok p l e R s m args below meth c Q E nL k) (hd : decode cc pc = .ok (.aaload, len)) (hl : len = 1) (S : si_S E s R nL H locs cells slots ls lo B I J Rf G) (h : ai_stp t F call post (.aaload) len pc lo st B I J Rf G k) : W p l e R s m args below meth c H locs cells slots Q (F0 m pc ls (st.map (si_v E))) := by
  obtain ⟨hx, hb, hml, hown, hts, hK, hX, hin, hlaw, hz, hfr, hlo⟩ := C0
  subst hl
  change (match (generalizing := false) st with | .inl i :: .inr (.inr a) :: r => G.1 a = 15 ∧ ai_in i (G.2.1 a) ∧ k (pc + 1) lo (.inr (.inr (Rf a i.toNatClampNeg)) :: r) B I J Rf G | _ => False) at h
  split at h
  · rename_i i a r
    obtain ⟨hk1, hi, h⟩ := h
    have ha := (S.1.2.2.1 a (by omega)).1
    have hP := S.1.at1 (by omega) (si_cell15 hk1)
    rw [show (Sum.inl i :: Sum.inr (Sum.inr a) :: r : List ai_V).map (si_v E) = .int i :: si_v E (.inr (.inr a)) :: r.map (si_v E) from rfl, si_v_pos ha]
    have hh := hk _ _ _ _ _ _ _ _ _ _ _ _ _ h S
    exact va_aldq hx hb hK hP 0 3 rfl rfl hi hd hh
  · exact h.elim
theorem ai_isI_inv {o : Nat} {K : Nat → Nat} {a : Nat} (h : ai_isI o K a) : K a = 13 ∨ (o = 21 ∧ a = 1999) := by
  unfold ai_isI at h
  split at h
  · rcases h with h | h
    · exact Or.inl h
    · exact Or.inr ⟨rfl, h⟩
  · exact Or.inl h
theorem ai_isA_inv {o : Nat} {K : Nat → Nat} {a : Nat} (h : ai_isA o K a) : (12 ≤ K a ∧ K a ≤ 15) ∨ (o = 21 ∧ a = 1999) := by
  unfold ai_isA at h
  split at h
  · rcases h with h | h
    · exact Or.inl h
    · exact Or.inr ⟨rfl, h⟩
  · exact Or.inl h
theorem si_s_iaload (C0 : si_C p R s m args meth c cc E adV nL o ini) (hk : si_ok p l e R s m args below meth c Q E nL k) (hd : decode cc pc = .ok (.iaload, len)) (hl : len = 1) (hF : F.1 = o) (S : si_S E s R nL H locs cells slots ls lo B I J Rf G) (h : ai_stp t F call post (.iaload) len pc lo st B I J Rf G k) : W p l e R s m args below meth c H locs cells slots Q (F0 m pc ls (st.map (si_v E))) := by
  obtain ⟨hx, hb, hml, hown, hts, hK, hX, hin, hlaw, hz, hfr, hlo⟩ := C0
  subst hl
  change (match (generalizing := false) st with | .inl i :: .inr (.inr a) :: r => ai_isI F.1 G.1 a ∧ ai_in i (G.2.1 a) ∧ k (pc + 1) lo (.inl (I a i.toNatClampNeg) :: r) B I J Rf G | _ => False) at h
  split at h
  · rename_i i a r
    obtain ⟨hk1, hi, h⟩ := h
    rcases ai_isI_inv hk1 with hk1 | ⟨ho, rfl⟩
    · have ha := (S.1.2.2.1 a (by omega)).1
      have hP := S.1.at1 (by omega) (si_cell13 hk1)
      rw [show (Sum.inl i :: Sum.inr (Sum.inr a) :: r : List ai_V).map (si_v E) = .int i :: si_v E (.inr (.inr a)) :: r.map (si_v E) from rfl, si_v_pos ha]
      have hh := hk _ _ _ _ _ _ _ _ _ _ _ _ _ h S
      exact va_iald hx hb hK hP 0 1 rfl rfl hi hd hh
    · obtain ⟨q1, q2, q3⟩ := hlaw (hF.symm.trans ho)
      rw [S.1.2.2.2.1] at h
      rw [S.1.2.2.2.2] at hi
      have hh := hk _ _ _ _ _ _ _ _ _ _ _ _ _ h S
      exact va_sld hx hb q1 q2 (by show ¬ E.1 < E.2.1; omega) S.2.2.1 hi hd hh
  · exact h.elim
theorem si_s_arraylength (C0 : si_C p R s m args meth c cc E adV nL o ini) (hk : si_ok p l e R s m args below meth c Q E nL k) (hd : decode cc pc = .ok (.arraylength, len)) (hl : len = 1) (hF : F.1 = o) (S : si_S E s R nL H locs cells slots ls lo B I J Rf G) (h : ai_stp t F call post (.arraylength) len pc lo st B I J Rf G k) : W p l e R s m args below meth c H locs cells slots Q (F0 m pc ls (st.map (si_v E))) := by
  obtain ⟨hx, hb, hml, hown, hts, hK, hX, hin, hlaw, hz, hfr, hlo⟩ := C0
  subst hl
  change (match (generalizing := false) st with | .inr (.inr a) :: r => ai_isA F.1 G.1 a ∧ k (pc + 1) lo (.inl (Int32.ofNat (G.2.1 a)) :: r) B I J Rf G | _ => False) at h
  split at h
  · rename_i a r
    obtain ⟨hk1, h⟩ := h
    rcases ai_isA_inv hk1 with hk1 | ⟨ho, rfl⟩
    · have ha := (S.1.2.2.1 a (by omega)).1
      rw [show (Sum.inr (Sum.inr a) :: r : List ai_V).map (si_v E) = si_v E (.inr (.inr a)) :: r.map (si_v E) from rfl, si_v_pos ha]
      rcases (by omega : G.1 a = 12 ∨ G.1 a = 13 ∨ G.1 a = 14 ∨ G.1 a = 15) with hk1 | hk1 | hk1 | hk1
      · have hh := hk _ _ _ _ _ _ _ _ _ _ _ _ _ h S
        exact va_alen hx hb hK (S.1.at1 (by omega) (si_cell12 hk1)) 0 0 rfl rfl rfl hd hh
      · have hh := hk _ _ _ _ _ _ _ _ _ _ _ _ _ h S
        exact va_alen hx hb hK (S.1.at1 (by omega) (si_cell13 hk1)) 0 1 rfl rfl rfl hd hh
      · have hh := hk _ _ _ _ _ _ _ _ _ _ _ _ _ h S
        exact va_alen hx hb hK (S.1.at1 (by omega) (si_cell14 hk1)) 0 2 rfl rfl rfl hd hh
      · have hh := hk _ _ _ _ _ _ _ _ _ _ _ _ _ h S
        exact va_alen hx hb hK (S.1.at1 (by omega) (si_cell15 hk1)) 0 3 rfl rfl rfl hd hh
    · obtain ⟨q1, q2, q3⟩ := hlaw (hF.symm.trans ho)
      rw [S.1.2.2.2.2] at h
      have hh := hk _ _ _ _ _ _ _ _ _ _ _ _ _ h S
      exact va_slen hx hb q1 q2 (by show ¬ E.1 < E.2.1; omega) S.2.2.1 hd hh
  · exact h.elim
theorem si_s_iastore (C0 : si_C p R s m args meth c cc E adV nL o ini) (hk : si_ok p l e R s m args below meth c Q E nL k) (hd : decode cc pc = .ok (.iastore, len)) (hl : len = 1) (S : si_S E s R nL H locs cells slots ls lo B I J Rf G) (h : ai_stp t F call post (.iastore) len pc lo st B I J Rf G k) : W p l e R s m args below meth c H locs cells slots Q (F0 m pc ls (st.map (si_v E))) := by
  obtain ⟨hx, hb, hml, hown, hts, hK, hX, hin, hlaw, hz, hfr, hlo⟩ := C0
  subst hl
  change (match (generalizing := false) st with | .inl x :: .inl i :: .inr (.inr a) :: r => G.1 a = 13 ∧ ai_in i (G.2.1 a) ∧ k (pc + 1) lo r B (va_up I a (va_up (I a) i.toNatClampNeg x)) J Rf G | _ => False) at h
  split at h
  · rename_i x i a r
    obtain ⟨hk1, hi, h⟩ := h
    have ha := (S.1.2.2.1 a (by omega)).1
    have hP := S.1.at1 (by omega) (si_cell13 hk1)
    rw [show (Sum.inl x :: Sum.inl i :: Sum.inr (Sum.inr a) :: r : List ai_V).map (si_v E) = .int x :: .int i :: si_v E (.inr (.inr a)) :: r.map (si_v E) from rfl, si_v_pos ha]
    refine W.iast hx hb (hP 0 _ rfl) ((hK.2 1 _ rfl).1 (G.2.1 a) (fun j => .int (I a j))) (fun q => by cases q) (by show ¬ (i < 0 ∨ (arrV _ _ _).slots.size ≤ _); rw [arrV_size]; exact hi) rfl rfl hd fun H1 e1 z1 oq => ?_
    refine hk _ _ _ _ _ _ _ _ _ _ _ _ _ h ⟨S.1.put (a := a) (by omega) z1 oq ?_ (fun b hb => by simp [va_up, hb]) (fun b hb => by simp [va_up, hb]) (fun b hb => by simp [va_up, hb]), S.2.1, S.2.2.1.put z1 oq (by have := (S.1.2.2.1 a (by omega)).2.1; have := S.1.2.1; show E.1 < si_ad E a; rw [si_ad_lt (by omega)]; omega), S.2.2.2⟩
    rw [si_cell13 hk1]
    show H1[si_ad E a]? = some (vp_cell _ _)
    rw [e1, vp_cell_i, vp_cell_i, arrV_store]
    congr 2
    funext q
    by_cases hq : q = i.toNatClampNeg
    · subst hq
      simp [updV, va_up]
      try rfl
    · simp [updV, va_up, hq]
  · exact h.elim
theorem si_s_bastore (C0 : si_C p R s m args meth c cc E adV nL o ini) (hk : si_ok p l e R s m args below meth c Q E nL k) (hd : decode cc pc = .ok (.bastore, len)) (hl : len = 1) (S : si_S E s R nL H locs cells slots ls lo B I J Rf G) (h : ai_stp t F call post (.bastore) len pc lo st B I J Rf G k) : W p l e R s m args below meth c H locs cells slots Q (F0 m pc ls (st.map (si_v E))) := by
  obtain ⟨hx, hb, hml, hown, hts, hK, hX, hin, hlaw, hz, hfr, hlo⟩ := C0
  subst hl
  change (match (generalizing := false) st with | .inl x :: .inl i :: .inr (.inr a) :: r => G.1 a = 12 ∧ ai_in i (G.2.1 a) ∧ k (pc + 1) lo r B (va_up I a (va_up (I a) i.toNatClampNeg x.toInt8.toInt32)) J Rf G | _ => False) at h
  split at h
  · rename_i x i a r
    obtain ⟨hk1, hi, h⟩ := h
    have ha := (S.1.2.2.1 a (by omega)).1
    have hP := S.1.at1 (by omega) (si_cell12 hk1)
    rw [show (Sum.inl x :: Sum.inl i :: Sum.inr (Sum.inr a) :: r : List ai_V).map (si_v E) = .int x :: .int i :: si_v E (.inr (.inr a)) :: r.map (si_v E) from rfl, si_v_pos ha]
    refine W.bast hx hb (hP 0 _ rfl) ((hK.2 0 _ rfl).1 (G.2.1 a) (fun j => .int (I a j))) (fun q => by cases q) (by show ¬ (i < 0 ∨ (arrV _ _ _).slots.size ≤ _); rw [arrV_size]; exact hi) rfl rfl hd fun H1 e1 z1 oq => ?_
    refine hk _ _ _ _ _ _ _ _ _ _ _ _ _ h ⟨S.1.put (a := a) (by omega) z1 oq ?_ (fun b hb => by simp [va_up, hb]) (fun b hb => by simp [va_up, hb]) (fun b hb => by simp [va_up, hb]), S.2.1, S.2.2.1.put z1 oq (by have := (S.1.2.2.1 a (by omega)).2.1; have := S.1.2.1; show E.1 < si_ad E a; rw [si_ad_lt (by omega)]; omega), S.2.2.2⟩
    rw [si_cell12 hk1]
    show H1[si_ad E a]? = some (vp_cell _ _)
    rw [e1, vp_cell_i, vp_cell_i, arrV_store]
    congr 2
    funext q
    by_cases hq : q = i.toNatClampNeg
    · subst hq
      simp [updV, va_up]
      try rfl
    · simp [updV, va_up, hq]
  · exact h.elim
theorem si_s_lastore (C0 : si_C p R s m args meth c cc E adV nL o ini) (hk : si_ok p l e R s m args below meth c Q E nL k) (hd : decode cc pc = .ok (.lastore, len)) (hl : len = 1) (S : si_S E s R nL H locs cells slots ls lo B I J Rf G) (h : ai_stp t F call post (.lastore) len pc lo st B I J Rf G k) : W p l e R s m args below meth c H locs cells slots Q (F0 m pc ls (st.map (si_v E))) := by
  obtain ⟨hx, hb, hml, hown, hts, hK, hX, hin, hlaw, hz, hfr, hlo⟩ := C0
  subst hl
  change (match (generalizing := false) st with | .inr (.inl x) :: .inl i :: .inr (.inr a) :: r => G.1 a = 14 ∧ ai_in i (G.2.1 a) ∧ k (pc + 1) lo r B I (va_up J a (va_up (J a) i.toNatClampNeg x)) Rf G | _ => False) at h
  split at h
  · rename_i x i a r
    obtain ⟨hk1, hi, h⟩ := h
    have ha := (S.1.2.2.1 a (by omega)).1
    have hP := S.1.at1 (by omega) (si_cell14 hk1)
    rw [show (Sum.inr (Sum.inl x) :: Sum.inl i :: Sum.inr (Sum.inr a) :: r : List ai_V).map (si_v E) = .long x :: .int i :: si_v E (.inr (.inr a)) :: r.map (si_v E) from rfl, si_v_pos ha]
    refine W.last hx hb (hP 0 _ rfl) ((hK.2 2 _ rfl).1 (G.2.1 a) (fun j => .long (J a j))) (fun q => by cases q) (by show ¬ (i < 0 ∨ (arrV _ _ _).slots.size ≤ _); rw [arrV_size]; exact hi) rfl rfl hd fun H1 e1 z1 oq => ?_
    refine hk _ _ _ _ _ _ _ _ _ _ _ _ _ h ⟨S.1.put (a := a) (by omega) z1 oq ?_ (fun b hb => by simp [va_up, hb]) (fun b hb => by simp [va_up, hb]) (fun b hb => by simp [va_up, hb]), S.2.1, S.2.2.1.put z1 oq (by have := (S.1.2.2.1 a (by omega)).2.1; have := S.1.2.1; show E.1 < si_ad E a; rw [si_ad_lt (by omega)]; omega), S.2.2.2⟩
    rw [si_cell14 hk1]
    show H1[si_ad E a]? = some (vp_cell _ _)
    rw [e1, vp_cell_l, vp_cell_l, arrV_store]
    congr 2
    funext q
    by_cases hq : q = i.toNatClampNeg
    · subst hq
      simp [updV, va_up]
      try rfl
    · simp [updV, va_up, hq]
  · exact h.elim
theorem si_s_aastore (C0 : si_C p R s m args meth c cc E adV nL o ini) (hk : si_ok p l e R s m args below meth c Q E nL k) (hd : decode cc pc = .ok (.aastore, len)) (hl : len = 1) (S : si_S E s R nL H locs cells slots ls lo B I J Rf G) (h : ai_stp t F call post (.aastore) len pc lo st B I J Rf G k) : W p l e R s m args below meth c H locs cells slots Q (F0 m pc ls (st.map (si_v E))) := by
  obtain ⟨hx, hb, hml, hown, hts, hK, hX, hin, hlaw, hz, hfr, hlo⟩ := C0
  subst hl
  change (match (generalizing := false) st with | .inr (.inr b) :: .inl i :: .inr (.inr a) :: r => G.1 a = 15 ∧ ai_in i (G.2.1 a) ∧ G.1 b = 8 ∧ k (pc + 1) lo r B I J (va_up Rf a (va_up (Rf a) i.toNatClampNeg b)) G | _ => False) at h
  split at h
  · rename_i v i a r
    obtain ⟨hk1, hi, hk2, h⟩ := h
    have ha := (S.1.2.2.1 a (by omega)).1
    have hv := (S.1.2.2.1 v (by omega)).1
    have hP := S.1.at1 (by omega) (si_cell15 hk1)
    have hPv := S.1.at1 (a := v) (by omega) (si_cellO hk2 (by decide))
    rw [show (Sum.inr (Sum.inr v) :: Sum.inl i :: Sum.inr (Sum.inr a) :: r : List ai_V).map (si_v E) = si_v E (.inr (.inr v)) :: .int i :: si_v E (.inr (.inr a)) :: r.map (si_v E) from rfl, si_v_pos ha, si_v_pos hv]
    have hlt : i.toNatClampNeg < G.2.1 a := Nat.not_le.mp fun q => hi (Or.inr q)
    have h0 : ¬ i < 0 := fun q => hi (Or.inl q)
    obtain ⟨r1, hr1, cellV, g1, g2, g3, -⟩ := hPv 0 _ rfl
    have hcls := (hK.1 8 _ si_cl_8).2
    obtain ⟨kA, comp, k1, k2, k3, -⟩ := (hK.2 3 _ rfl).2
    have hcomp : comp = (si_D E).1 8 := Option.some.inj (k3.symm.trans hcls.1)
    subst hcomp
    obtain ⟨kC, hkC, -⟩ := hcls.2
    refine W.aast hx hb (hP 0 _ rfl) (fun q h => by cases h) (fun h => by cases h) k1 k2 rfl hkC ⟨h0, by show _ < (arrV _ _ _).slots.size; rw [arrV_size]; exact hlt⟩ g1 (fun q h => by rw [g3] at h; cases h) (by rw [g2]; exact hkC) (by rw [g2]; exact va_assign hcls) rfl rfl hd fun H1 e1 z1 oq => ?_
    refine hk _ _ _ _ _ _ _ _ _ _ _ _ _ h ⟨S.1.put (a := a) (by omega) z1 oq ?_ (fun b hb => by simp [va_up, hb]) (fun b hb => by simp [va_up, hb]) (fun b hb => by simp [va_up, hb]), S.2.1, S.2.2.1.put z1 oq (by have := (S.1.2.2.1 a (by omega)).2.1; have := S.1.2.1; show E.1 < si_ad E a; rw [si_ad_lt (by omega)]; omega), S.2.2.2⟩
    rw [si_cell15 hk1]
    show H1[si_ad E a]? = some (vp_cell _ _)
    rw [e1, vp_cell_q, vp_cell_q, arrV_store]
    congr 2
    funext q
    by_cases hq : q = i.toNatClampNeg
    · subst hq
      simp [updV, va_up, si_o_pos hv, va_rf]
    · simp [updV, va_up, hq]
  · exact h.elim
end
