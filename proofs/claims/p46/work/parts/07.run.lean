/-! Any one instruction; a run; a method. -/
/-- what a program decides of an instruction: its length, where it goes, its links -/
def si_ck (o nL pc : Nat) (op : Instr) (len : Nat) : Bool := match op with
  | .iconst _ => len == 1
  | .bipush _ => len == 2
  | .sipush _ => len == 3
  | .lconst _ => len == 1
  | .aconst_null => len == 1
  | .ldc ix => len == 2 && (match ai_lkp (si_ct o) ix with
    | some v => decide (ai_cat v = 1)
    | none => false)
  | .ldc_w ix => len == 3 && (match ai_lkp (si_ct o) ix with
    | some (.inl _) => true
    | _ => false)
  | .ldc2_w ix => len == 3 && (match ai_lkp (si_ct o) ix with
    | some (.inr (.inl _)) => true
    | _ => false)
  | .iload _ => len == 2
  | .iload_n _ => len == 1
  | .lload _ => len == 2
  | .lload_n _ => len == 1
  | .aload _ => len == 2
  | .aload_n _ => len == 1
  | .istore i => len == 2 && decide (i < nL)
  | .istore_n i => len == 1 && decide (i.val < nL)
  | .lstore i => len == 2 && decide (i + 1 < nL)
  | .lstore_n i => len == 1 && decide (i.val + 1 < nL)
  | .astore i => len == 2 && decide (i < nL)
  | .astore_n i => len == 1 && decide (i.val < nL)
  | .iinc _ _ => len == 3
  | .goto off => len == 3 && decide (0 ≤ (pc : Int) + off)
  | .ifCond _ off => len == 3 && decide (0 ≤ (pc : Int) + off)
  | .if_icmp _ off => len == 3 && decide (0 ≤ (pc : Int) + off)
  | .ifnull off => len == 3 && decide (0 ≤ (pc : Int) + off)
  | .ifnonnull off => len == 3 && decide (0 ≤ (pc : Int) + off)
  | .tableswitch d lq hq os => decide (0 ≤ (pc : Int) + d) && (os.toList.all (fun off => decide (0 ≤ (pc : Int) + off)) && decide (hq - lq < (os.toList.length : Int)))
  | .getfield ix => len == 3 && decide ((ai_fld si_t o ix).1 < 11)
  | .putfield ix => len == 3 && decide ((ai_fld si_t o ix).1 < 11)
  | .new ix => len == 3 && decide (ai_cls si_t o ix < 11)
  | .newarray _ => len == 2
  | .anewarray _ => len == 3
  | .invokevirtual ix => len == 3 && si_ckM o ix 0
  | .invokestatic ix => len == 3 && si_ckM o ix 1
  | .invokespecial ix => len == 3 && si_ckM o ix 2
  | _ => len == 1
/-- the end of a method: what is on the stack, what comes back -/
def ai_rto (rc : Nat) (op : Instr) (st : List ai_V) (v : Option ai_V) : Prop :=
  (op = .ireturn ∧ ∃ x, st = [.inl x] ∧ v = some (.inl x) ∧ ai_fitB rc x) ∨ (op = .lreturn ∧ ∃ x, st = [.inr (.inl x)] ∧ v = some (.inr (.inl x)) ∧ rc = 1) ∨ (op = .areturn ∧ ∃ x, st = [.inr (.inr x)] ∧ v = some (.inr (.inr x)) ∧ rc = 2) ∨ (op = .return_ ∧ st = [] ∧ v = none ∧ rc = 9)
def si_end (p : Program) (l : Launch) (e : Env) (R : Room) (s : State) (m : MethodId) (args : Array Value) (below : List Frame) (meth : Method) (c : Code) (Q : State → Prop) (cc : ByteArray) (E : si_E) (rc : Nat) (post : ai_Q) : Prop :=
  ∀ (pc : Nat) (op : Instr) (st : List ai_V) (v : Option ai_V) (I : ai_I) (J : ai_J) (Rf : ai_R) (G : ai_G) (H : Heap) (locs : List Loc) (cells slots : Nat) (ls : Array Slot), decode cc pc = .ok (op, 1) → ai_rto rc op st v → post v I J Rf G → si_P E H I J Rf G → va_S (si_A E) s.heap H locs → cells ≤ R.cells → slots ≤ R.slots →
    W p l e R s m args below meth c H locs cells slots Q (F0 m pc ls (st.map (si_v E)))
section
variable {p : Program} {l : Launch} {e : Env} {R : Room} {s : State} {m : MethodId} {args : Array Value} {below : List Frame} {meth : Method} {c : Code} {Q : State → Prop} {cc : ByteArray} {E : si_E} {adV : Nat → Nat} {nL o d : Nat} {ini : Bool}
variable {F : ai_F} {call : ai_C} {post : ai_Q} {k : ai_K} {len pc : Nat} {lo : List (Option ai_V)} {st : List ai_V} {B : Nat × Nat} {I : ai_I} {J : ai_J} {Rf : ai_R} {G : ai_G} {H : Heap} {locs : List Loc} {cells slots : Nat} {ls : Array Slot}
set_option maxHeartbeats 4000000 in
theorem si_step {op : Instr} (C0 : si_C p R s m args meth c cc E adV nL o ini) (hk : si_ok p l e R s m args below meth c Q E nL k) (hd : decode cc pc = .ok (op, len)) (hck : si_ck o nL pc op len = true) (hF : F.1 = o) (hF2 : F.2.1 = ini) (hcall : si_call l E adV d call) (hfr : d + 1 ≤ R.frames) (hlo : 42 * d + 42 ≤ R.locals)
    (hend : si_end p l e R s m args below meth c Q cc E F.2.2.1 post) (S : si_S E s R nL H locs cells slots ls lo B I J Rf G) (h : ai_stp si_t F call post op len pc lo st B I J Rf G k) : W p l e R s m args below meth c H locs cells slots Q (F0 m pc ls (st.map (si_v E))) := by
  have hc1 : cells ≤ R.cells := by have := S.2.2.2.1; omega
  have hs1 : slots ≤ R.slots := by have := S.2.2.2.2; omega
  cases op with
  | iconst n => exact si_s_iconst C0 hk hd (by simpa [si_ck] using hck) S h
  | bipush n => exact si_s_bipush C0 hk hd (by simpa [si_ck] using hck) S h
  | sipush n => exact si_s_sipush C0 hk hd (by simpa [si_ck] using hck) S h
  | lconst n => exact si_s_lconst C0 hk hd (by simpa [si_ck] using hck) S h
  | aconst_null => exact si_s_aconst_null C0 hk hd (by simpa [si_ck] using hck) S h
  | iload i => exact si_s_iload C0 hk hd (by simpa [si_ck] using hck) S h
  | iload_n i => exact si_s_iload_n C0 hk hd (by simpa [si_ck] using hck) S h
  | lload i => exact si_s_lload C0 hk hd (by simpa [si_ck] using hck) S h
  | lload_n i => exact si_s_lload_n C0 hk hd (by simpa [si_ck] using hck) S h
  | aload i => exact si_s_aload C0 hk hd (by simpa [si_ck] using hck) S h
  | aload_n i => exact si_s_aload_n C0 hk hd (by simpa [si_ck] using hck) S h
  | iinc i n => exact si_s_iinc C0 hk hd (by simpa [si_ck] using hck) S h
  | iadd => exact si_s_iadd C0 hk hd (by simpa [si_ck] using hck) S h
  | isub => exact si_s_isub C0 hk hd (by simpa [si_ck] using hck) S h
  | imul => exact si_s_imul C0 hk hd (by simpa [si_ck] using hck) S h
  | iand => exact si_s_iand C0 hk hd (by simpa [si_ck] using hck) S h
  | ior => exact si_s_ior C0 hk hd (by simpa [si_ck] using hck) S h
  | ixor => exact si_s_ixor C0 hk hd (by simpa [si_ck] using hck) S h
  | ishl => exact si_s_ishl C0 hk hd (by simpa [si_ck] using hck) S h
  | ishr => exact si_s_ishr C0 hk hd (by simpa [si_ck] using hck) S h
  | iushr => exact si_s_iushr C0 hk hd (by simpa [si_ck] using hck) S h
  | ineg => exact si_s_ineg C0 hk hd (by simpa [si_ck] using hck) S h
  | i2b => exact si_s_i2b C0 hk hd (by simpa [si_ck] using hck) S h
  | idiv => exact si_s_idiv C0 hk hd (by simpa [si_ck] using hck) S h
  | irem => exact si_s_irem C0 hk hd (by simpa [si_ck] using hck) S h
  | ladd => exact si_s_ladd C0 hk hd (by simpa [si_ck] using hck) S h
  | lsub => exact si_s_lsub C0 hk hd (by simpa [si_ck] using hck) S h
  | lmul => exact si_s_lmul C0 hk hd (by simpa [si_ck] using hck) S h
  | ldiv => exact si_s_ldiv C0 hk hd (by simpa [si_ck] using hck) S h
  | lrem => exact si_s_lrem C0 hk hd (by simpa [si_ck] using hck) S h
  | i2l => exact si_s_i2l C0 hk hd (by simpa [si_ck] using hck) S h
  | lcmp => exact si_s_lcmp C0 hk hd (by simpa [si_ck] using hck) S h
  | dup => exact si_s_dup C0 hk hd (by simpa [si_ck] using hck) S h
  | dup2 => exact si_s_dup2 C0 hk hd (by simpa [si_ck] using hck) S h
  | pop => exact si_s_pop C0 hk hd (by simpa [si_ck] using hck) S h
  | baload => exact si_s_baload C0 hk hd (by simpa [si_ck] using hck) S h
  | laload => exact si_s_laload C0 hk hd (by simpa [si_ck] using hck) S h
  | aaload => exact si_s_aaload C0 hk hd (by simpa [si_ck] using hck) S h
  | iastore => exact si_s_iastore C0 hk hd (by simpa [si_ck] using hck) S h
  | bastore => exact si_s_bastore C0 hk hd (by simpa [si_ck] using hck) S h
  | lastore => exact si_s_lastore C0 hk hd (by simpa [si_ck] using hck) S h
  | aastore => exact si_s_aastore C0 hk hd (by simpa [si_ck] using hck) S h
  | iaload => exact si_s_iaload C0 hk hd (by simpa [si_ck] using hck) hF S h
  | arraylength => exact si_s_arraylength C0 hk hd (by simpa [si_ck] using hck) hF S h
  | istore i =>
    simp only [si_ck, Bool.and_eq_true, beq_iff_eq, decide_eq_true_eq] at hck
    exact si_s_istore C0 hk hd hck.1 hck.2 S h
  | istore_n i =>
    simp only [si_ck, Bool.and_eq_true, beq_iff_eq, decide_eq_true_eq] at hck
    exact si_s_istore_n C0 hk hd hck.1 hck.2 S h
  | lstore i =>
    simp only [si_ck, Bool.and_eq_true, beq_iff_eq, decide_eq_true_eq] at hck
    exact si_s_lstore C0 hk hd hck.1 hck.2 S h
  | lstore_n i =>
    simp only [si_ck, Bool.and_eq_true, beq_iff_eq, decide_eq_true_eq] at hck
    exact si_s_lstore_n C0 hk hd hck.1 hck.2 S h
  | astore i =>
    simp only [si_ck, Bool.and_eq_true, beq_iff_eq, decide_eq_true_eq] at hck
    exact si_s_astore C0 hk hd hck.1 hck.2 S h
  | astore_n i =>
    simp only [si_ck, Bool.and_eq_true, beq_iff_eq, decide_eq_true_eq] at hck
    exact si_s_astore_n C0 hk hd hck.1 hck.2 S h
  | goto off =>
    simp only [si_ck, Bool.and_eq_true, beq_iff_eq, decide_eq_true_eq] at hck
    exact si_s_goto C0 hk hd hck.1 hck.2 S h
  | ifCond cn off =>
    simp only [si_ck, Bool.and_eq_true, beq_iff_eq, decide_eq_true_eq] at hck
    exact si_s_ifCond C0 hk hd hck.1 hck.2 S h
  | if_icmp cn off =>
    simp only [si_ck, Bool.and_eq_true, beq_iff_eq, decide_eq_true_eq] at hck
    exact si_s_if_icmp C0 hk hd hck.1 hck.2 S h
  | ifnull off =>
    simp only [si_ck, Bool.and_eq_true, beq_iff_eq, decide_eq_true_eq] at hck
    exact si_s_ifnull C0 hk hd hck.1 hck.2 S h
  | ifnonnull off =>
    simp only [si_ck, Bool.and_eq_true, beq_iff_eq, decide_eq_true_eq] at hck
    exact si_s_ifnonnull C0 hk hd hck.1 hck.2 S h
  | tableswitch dq lq hq os =>
    simp only [si_ck, Bool.and_eq_true, decide_eq_true_eq, List.all_eq_true] at hck
    exact si_s_tableswitch C0 hk hd hck.1 hck.2.1 hck.2.2 S h
  | getfield ix =>
    simp only [si_ck, Bool.and_eq_true, beq_iff_eq, decide_eq_true_eq] at hck
    exact si_s_getfield C0 hk hd hck.1 hF hck.2 S h
  | putfield ix =>
    simp only [si_ck, Bool.and_eq_true, beq_iff_eq, decide_eq_true_eq] at hck
    exact si_s_putfield C0 hk hd hck.1 hF hF2 hck.2 S h
  | new ix =>
    simp only [si_ck, Bool.and_eq_true, beq_iff_eq, decide_eq_true_eq] at hck
    exact si_s_new C0 hk hd hck.1 hF hck.2 S h
  | newarray ty => exact si_s_newarray C0 hk hd (by simpa [si_ck] using hck) S h
  | anewarray ix => exact si_s_anewarray C0 hk hd (by simpa [si_ck] using hck) hF S h
  | invokevirtual ix =>
    simp only [si_ck, Bool.and_eq_true, beq_iff_eq] at hck
    obtain ⟨rfl, hck⟩ := hck
    exact si_s_invoke (Or.inl ⟨rfl, rfl⟩) C0 hk hd hF hck hcall hfr hlo S h
  | invokestatic ix =>
    simp only [si_ck, Bool.and_eq_true, beq_iff_eq] at hck
    obtain ⟨rfl, hck⟩ := hck
    exact si_s_invoke (Or.inr (Or.inl ⟨rfl, rfl⟩)) C0 hk hd hF hck hcall hfr hlo S h
  | invokespecial ix =>
    simp only [si_ck, Bool.and_eq_true, beq_iff_eq] at hck
    obtain ⟨rfl, hck⟩ := hck
    exact si_s_invoke (Or.inr (Or.inr ⟨rfl, rfl⟩)) C0 hk hd hF hck hcall hfr hlo S h
  | ldc ix =>
    simp only [si_ck, Bool.and_eq_true, beq_iff_eq] at hck
    obtain ⟨rfl, hck⟩ := hck
    change (match (generalizing := false) ai_lkp (si_ct F.1) ix with
      | some v => k (pc + 2) lo (v :: st) B I J Rf G
      | none => False) at h
    rw [hF] at h
    cases hv : ai_lkp (si_ct o) ix with
    | none => rw [hv] at h; exact h.elim
    | some v =>
      rw [hv] at h hck
      exact si_s_ldc C0 hk S hv (Or.inl ⟨hd, rfl, of_decide_eq_true hck⟩) h
  | ldc_w ix =>
    simp only [si_ck, Bool.and_eq_true, beq_iff_eq] at hck
    obtain ⟨rfl, hck⟩ := hck
    change (match (generalizing := false) ai_lkp (si_ct F.1) ix with
      | some v => k (pc + 3) lo (v :: st) B I J Rf G
      | none => False) at h
    rw [hF] at h
    cases hv : ai_lkp (si_ct o) ix with
    | none => rw [hv] at h; exact h.elim
    | some v =>
      rw [hv] at h hck
      have hx : ∃ x, v = .inl x := by
        rcases v with x | x | a
        · exact ⟨x, rfl⟩
        · cases hck
        · cases hck
      exact si_s_ldc C0 hk S hv (Or.inr (Or.inl ⟨hd, rfl, hx⟩)) h
  | ldc2_w ix =>
    simp only [si_ck, Bool.and_eq_true, beq_iff_eq] at hck
    obtain ⟨rfl, hck⟩ := hck
    change (match (generalizing := false) ai_lkp (si_ct F.1) ix with
      | some v => k (pc + 3) lo (v :: st) B I J Rf G
      | none => False) at h
    rw [hF] at h
    cases hv : ai_lkp (si_ct o) ix with
    | none => rw [hv] at h; exact h.elim
    | some v =>
      rw [hv] at h hck
      have hx : ∃ x, v = .inr (.inl x) := by
        rcases v with x | x | a
        · cases hck
        · exact ⟨x, rfl⟩
        · cases hck
      exact si_s_ldc C0 hk S hv (Or.inr (Or.inr ⟨hd, rfl, hx⟩)) h
  | ireturn =>
    have hl : len = 1 := by simpa [si_ck] using hck
    subst hl
    change (match (generalizing := false) st with
      | [.inl x] => ai_fitB F.2.2.1 x ∧ post (some (.inl x)) I J Rf G
      | _ => False) at h
    split at h
    · exact hend _ _ _ _ _ _ _ _ _ _ _ _ _ hd (Or.inl ⟨rfl, _, rfl, rfl, h.1⟩) h.2 S.1 S.2.2.1 hc1 hs1
    · exact h.elim
  | lreturn =>
    have hl : len = 1 := by simpa [si_ck] using hck
    subst hl
    change (match (generalizing := false) st with
      | [.inr (.inl x)] => F.2.2.1 = 1 ∧ post (some (.inr (.inl x))) I J Rf G
      | _ => False) at h
    split at h
    · exact hend _ _ _ _ _ _ _ _ _ _ _ _ _ hd (Or.inr (Or.inl ⟨rfl, _, rfl, rfl, h.1⟩)) h.2 S.1 S.2.2.1 hc1 hs1
    · exact h.elim
  | areturn =>
    have hl : len = 1 := by simpa [si_ck] using hck
    subst hl
    change (match (generalizing := false) st with
      | [.inr (.inr x)] => F.2.2.1 = 2 ∧ post (some (.inr (.inr x))) I J Rf G
      | _ => False) at h
    split at h
    · exact hend _ _ _ _ _ _ _ _ _ _ _ _ _ hd (Or.inr (Or.inr (Or.inl ⟨rfl, _, rfl, rfl, h.1⟩))) h.2 S.1 S.2.2.1 hc1 hs1
    · exact h.elim
  | return_ =>
    have hl : len = 1 := by simpa [si_ck] using hck
    subst hl
    change (match (generalizing := false) st with
      | [] => F.2.2.1 = 9 ∧ post none I J Rf G
      | _ => False) at h
    split at h
    · exact hend _ _ _ _ _ _ _ _ _ _ _ _ _ hd (Or.inr (Or.inr (Or.inr ⟨rfl, rfl, rfl, h.1⟩))) h.2 S.1 S.2.2.1 hc1 hs1
    · exact h.elim
  | _ => exact False.elim h
/-- a run -/
theorem si_run (C0 : si_C p R s m args meth c cc E adV nL o ini) (hF : F.1 = o) (hF2 : F.2.1 = ini) (hcall : si_call l E adV d call) (hfr : d + 1 ≤ R.frames) (hlo : 42 * d + 42 ≤ R.locals)
    (hend : si_end p l e R s m args below meth c Q cc E F.2.2.1 post) (hcode : ∀ (pc : Nat) (q : Instr × Nat), ai_lkp F.2.2.2 pc = some q → decode cc pc = .ok q ∧ si_ck o nL pc q.1 q.2 = true) : ∀ n : Nat, si_ok p l e R s m args below meth c Q E nL (ai_W si_t F call post [] n)
  | 0 => fun _ _ _ _ _ _ _ _ _ _ _ _ _ h _ => h.elim
  | n + 1 => by
    intro pc lo st B I J Rf G H locs cells slots ls h S
    change (match (generalizing := false) ai_lkp F.2.2.2 pc with
      | some q => ai_stp si_t F call post q.1 q.2 pc lo st B I J Rf G (ai_W si_t F call post [] n)
      | none => False) at h
    cases hq : ai_lkp F.2.2.2 pc with
    | none => rw [hq] at h; exact h.elim
    | some q =>
      rw [hq] at h
      obtain ⟨h1, h2⟩ := hcode pc q hq
      exact si_step C0 (si_run C0 hF hF2 hcall hfr hlo hend hcode n) h1 h2 hF hF2 hcall hfr hlo hend S h
end
theorem ai_lkp_mem {α : Type} : ∀ {l : List (Nat × α)} {k : Nat} {v : α}, ai_lkp l k = some v → (k, v) ∈ l
  | [], _, _, h => by cases h
  | q :: l, k, v, h => by
    unfold ai_lkp at h
    by_cases e : q.1 = k
    · rw [if_pos e] at h
      cases h
      rw [← e]
      exact List.mem_cons_self
    · rw [if_neg e] at h
      exact List.mem_cons_of_mem _ (ai_lkp_mem h)
/-- each method's list is what its bytes decode to -/
def si_vdl : List (MethodName × ByteArray × Option FieldType) → List (ai_F × Nat × Nat × Nat) → Prop
  | n :: ns, u :: us => vd_ok n.2.1 u.1.2.2.2 = true ∧ si_vdl ns us
  | _, _ => True
theorem si_vdl_nth : ∀ {ns : List (MethodName × ByteArray × Option FieldType)} {us : List (ai_F × Nat × Nat × Nat)} {i : Nat} {n : MethodName × ByteArray × Option FieldType} {u : ai_F × Nat × Nat × Nat}, si_vdl ns us → si_nth ns i = some n → si_nth us i = some u → vd_ok n.2.1 u.1.2.2.2 = true
  | [], _, i, n, u, _, h1, _ => by cases i <;> cases h1
  | _ :: _, [], i, n, u, _, _, h2 => by cases i <;> cases h2
  | n0 :: ns, u0 :: us, i, n, u, h, h1, h2 => by
    cases i with
    | zero => cases h1; cases h2; exact h.1
    | succ j => exact si_vdl_nth h.2 h1 h2
def si_ckl (us : List (ai_F × Nat × Nat × Nat)) : Bool := us.all (fun u => u.1.2.2.2.all (fun q => si_ck u.1.1 u.2.1 q.1 q.2.1 q.2.2))
theorem si_nth_mem {α : Type} : ∀ {l : List α} {i : Nat} {x : α}, si_nth l i = some x → x ∈ l
  | [], i, _, h => by cases i <;> cases h
  | y :: l, i, x, h => by
    cases i with
    | zero => cases h; exact List.mem_cons_self
    | succ j => exact List.mem_cons_of_mem _ (si_nth_mem h)
theorem si_vdb_0 : si_vdl si_nm_0 si_mt_0 := ⟨vd_0, vd_1, vd_2, vd_3, vd_4, vd_5, vd_6, vd_7, vd_8, vd_9, vd_10, vd_11, vd_12, vd_13, vd_14, vd_15, vd_16, vd_17, vd_18, vd_19, trivial⟩
set_option maxRecDepth 100000 in
theorem si_ckb_0 : si_ckl (si_mtb 0) = true := by decide +kernel
theorem si_vdb_1 : si_vdl si_nm_1 si_mt_1 := ⟨vd_20, vd_21, vd_22, vd_23, vd_24, vd_25, vd_26, vd_27, vd_28, vd_29, vd_30, vd_31, vd_32, vd_33, vd_34, vd_35, vd_36, vd_37, vd_38, vd_39, trivial⟩
set_option maxRecDepth 100000 in
theorem si_ckb_1 : si_ckl (si_mtb 1) = true := by decide +kernel
theorem si_vdb_2 : si_vdl si_nm_2 si_mt_2 := ⟨vd_40, vd_41, vd_42, vd_43, vd_44, vd_45, vd_46, vd_47, vd_48, vd_49, vd_50, vd_51, vd_52, vd_53, vd_54, vd_55, vd_56, vd_57, vd_58, vd_59, trivial⟩
set_option maxRecDepth 100000 in
theorem si_ckb_2 : si_ckl (si_mtb 2) = true := by decide +kernel
theorem si_vdb_3 : si_vdl si_nm_3 si_mt_3 := ⟨vd_60, vd_61, vd_62, vd_63, vd_64, vd_65, vd_66, vd_67, vd_68, vd_69, vd_70, vd_71, vd_72, vd_73, vd_74, vd_75, vd_76, vd_77, vd_78, vd_79, trivial⟩
set_option maxRecDepth 100000 in
theorem si_ckb_3 : si_ckl (si_mtb 3) = true := by decide +kernel
theorem si_vdb_4 : si_vdl si_nm_4 si_mt_4 := ⟨vd_80, vd_81, vd_82, vd_83, vd_84, vd_85, vd_86, vd_87, vd_88, vd_89, vd_90, vd_91, vd_92, vd_93, vd_94, vd_95, vd_96, vd_97, vd_98, vd_99, trivial⟩
set_option maxRecDepth 100000 in
theorem si_ckb_4 : si_ckl (si_mtb 4) = true := by decide +kernel
theorem si_vdb_5 : si_vdl si_nm_5 si_mt_5 := ⟨vd_100, vd_101, vd_102, vd_103, vd_104, vd_105, vd_106, vd_107, vd_108, vd_109, vd_110, vd_111, vd_112, vd_113, vd_114, vd_115, vd_116, vd_117, vd_118, vd_119, trivial⟩
set_option maxRecDepth 100000 in
theorem si_ckb_5 : si_ckl (si_mtb 5) = true := by decide +kernel
theorem si_vdb_6 : si_vdl si_nm_6 si_mt_6 := ⟨vd_120, vd_121, vd_122, vd_123, vd_124, vd_125, vd_126, vd_127, vd_128, vd_129, vd_130, vd_131, vd_132, trivial⟩
set_option maxRecDepth 100000 in
theorem si_ckb_6 : si_ckl (si_mtb 6) = true := by decide +kernel
theorem si_ckl_mem {us : List (ai_F × Nat × Nat × Nat)} {u : ai_F × Nat × Nat × Nat} {pc : Nat} {q : Instr × Nat} (h : si_ckl us = true) (hu : u ∈ us) (hm : (pc, q) ∈ u.1.2.2.2) : si_ck u.1.1 u.2.1 pc q.1 q.2 = true := by
  unfold si_ckl at h
  rw [List.all_eq_true] at h
  have h3 := h u hu
  rw [List.all_eq_true] at h3
  exact h3 _ hm
theorem vd_ok_mem {b : ByteArray} {us : List (Nat × Instr × Nat)} {pc : Nat} {q : Instr × Nat} (h : vd_ok b us = true) (hm : (pc, q) ∈ us) : decode b pc = .ok q := by
  unfold vd_ok at h
  simp only [List.all_eq_true, decide_eq_true_eq] at h
  exact h (pc, q) hm
theorem si_code_ok {y : Nat} (hy : y < 133) {n : MethodName × ByteArray × Option FieldType} {u : ai_F × Nat × Nat × Nat} (hn : si_nq y = some n) (hu : si_mq y = some u) (pc : Nat) (q : Instr × Nat) (h : ai_lkp u.1.2.2.2 pc = some q) : decode n.2.1 pc = .ok q ∧ si_ck u.1.1 u.2.1 pc q.1 q.2 = true := by
  have hm := ai_lkp_mem h
  have fin : ∀ {us : List (ai_F × Nat × Nat × Nat)} {ns : List (MethodName × ByteArray × Option FieldType)}, si_nth ns (y % 20) = some n → si_nth us (y % 20) = some u → si_vdl ns us → si_ckl us = true → decode n.2.1 pc = .ok q ∧ si_ck u.1.1 u.2.1 pc q.1 q.2 = true := fun g1 g2 h1 h2 => ⟨vd_ok_mem (si_vdl_nth h1 g1 g2) hm, si_ckl_mem h2 (si_nth_mem g2) hm⟩
  clear h hm
  unfold si_nq at hn
  have hu2 := hu
  unfold si_mq at hu2
  rcases (by omega : y / 20 = 0 ∨ y / 20 = 1 ∨ y / 20 = 2 ∨ y / 20 = 3 ∨ y / 20 = 4 ∨ y / 20 = 5 ∨ y / 20 = 6) with hb | hb | hb | hb | hb | hb | hb
  · rw [hb] at hn hu2
    exact fin hn hu2 si_vdb_0 si_ckb_0
  · rw [hb] at hn hu2
    exact fin hn hu2 si_vdb_1 si_ckb_1
  · rw [hb] at hn hu2
    exact fin hn hu2 si_vdb_2 si_ckb_2
  · rw [hb] at hn hu2
    exact fin hn hu2 si_vdb_3 si_ckb_3
  · rw [hb] at hn hu2
    exact fin hn hu2 si_vdb_4 si_ckb_4
  · rw [hb] at hn hu2
    exact fin hn hu2 si_vdb_5 si_ckb_5
  · rw [hb] at hn hu2
    exact fin hn hu2 si_vdb_6 si_ckb_6
theorem si_ret_z {rc : Nat} {r : Option FieldType} {x : Int32} (h : (match rc, r with
    | 0, some .int => true
    | 1, some .long => true
    | 2, some (.object _) => true
    | 2, some (.array _) => true
    | 3, some .boolean => true
    | 4, some .byte => true
    | 5, some .char => true
    | 9, none => true
    | _, _ => false) = true) (hf : ai_fitB rc x) : ∃ ty, r = some ty ∧ narrow ty (.int x) = .int x := by
  unfold ai_fitB at hf
  split at hf
  · split at h <;> first | (exact ⟨_, rfl, rfl⟩) | contradiction | (simp_all; done)
  · split at h <;> first | (exact ⟨_, rfl, hf⟩) | contradiction | (simp_all; done)
  · split at h <;> first | (exact ⟨_, rfl, hf⟩) | contradiction | (simp_all; done)
  · split at h <;> first | (exact ⟨_, rfl, hf⟩) | contradiction | (simp_all; done)
  · exact hf.elim
theorem si_ret_l {r : Option FieldType} (h : (match (1 : Nat), r with
    | 0, some .int => true
    | 1, some .long => true
    | 2, some (.object _) => true
    | 2, some (.array _) => true
    | 3, some .boolean => true
    | 4, some .byte => true
    | 5, some .char => true
    | 9, none => true
    | _, _ => false) = true) : r = some .long := by
  split at h <;> first | rfl | contradiction | (simp_all; done)
theorem si_ret_a {r : Option FieldType} (h : (match (2 : Nat), r with
    | 0, some .int => true
    | 1, some .long => true
    | 2, some (.object _) => true
    | 2, some (.array _) => true
    | 3, some .boolean => true
    | 4, some .byte => true
    | 5, some .char => true
    | 9, none => true
    | _, _ => false) = true) : ∃ ty, r = some ty ∧ ((∃ n, ty = .object n) ∨ ∃ t, ty = .array t) := by
  split at h <;> first | (exact ⟨_, rfl, Or.inl ⟨_, rfl⟩⟩) | (exact ⟨_, rfl, Or.inr ⟨_, rfl⟩⟩) | contradiction | (simp_all; done)
theorem si_ret_v {r : Option FieldType} (h : (match (9 : Nat), r with
    | 0, some .int => true
    | 1, some .long => true
    | 2, some (.object _) => true
    | 2, some (.array _) => true
    | 3, some .boolean => true
    | 4, some .byte => true
    | 5, some .char => true
    | 9, none => true
    | _, _ => false) = true) : r = none := by
  split at h <;> first | rfl | contradiction | (simp_all; done)
def si_n21 (us : List (ai_F × Nat × Nat × Nat)) : Bool := us.all (fun u => decide (¬ u.1.1 = 21))
theorem si_no21 {y : Nat} (hy : y < 133) {u : ai_F × Nat × Nat × Nat} (hu : si_mq y = some u) : ¬ u.1.1 = 21 := by
  unfold si_mq at hu
  have fin : si_n21 (si_mtb (y / 20)) = true → ¬ u.1.1 = 21 := by
    intro h2
    unfold si_n21 at h2
    rw [List.all_eq_true] at h2
    exact of_decide_eq_true (h2 u (si_nth_mem hu))
  by_cases h16 : y / 20 < 6
  · have key : ∀ b, b < 6 → si_n21 (si_mtb b) = true := by decide +kernel
    exact fin (key _ h16)
  · have e : y = 120 + (y - 120) := by omega
    have key : ∀ i, i < 13 → ((si_nth (si_mtb ((120 + i) / 20)) ((120 + i) % 20)).map (fun u => decide (¬ u.1.1 = 21))) = some true := by decide +kernel
    have k2 := key (y - 120) (by omega)
    rw [← e, hu] at k2
    exact of_decide_eq_true (Option.some.inj k2)
/-- the contracts of String.length and String.charAt (proved in a later part) -/
def si_strs (l : Launch) (E : si_E) (adV : Nat → Nat) : Prop := ∀ (d y : Nat) (as : List ai_V) (v : Option ai_V) (I : ai_I) (J : ai_J) (Rf : ai_R) (G : ai_G), 4 ≤ d → ai_prm si_t y as v → si_Met l E adV (d + 1) (si_sn y) (si_smx y) y as I J Rf G v I J Rf G
theorem ai_prm_txt {y : Nat} {as : List ai_V} {v : Option ai_V} (h : ai_prm si_t y as v) : ∃ (a : Nat) (r : List ai_V) (tx : List Nat), as = .inr (.inr a) :: r ∧ ai_txt si_t a = some tx := by
  unfold ai_prm at h
  split at h
  · obtain ⟨tx, h1, -⟩ := h
    exact ⟨_, _, tx, rfl, h1⟩
  · obtain ⟨tx, h1, -⟩ := h
    exact ⟨_, _, tx, rfl, h1⟩
  · exact h.elim
theorem si_wsum {E : si_E} (as : List ai_V) {n : Nat} (m : MethodId) : entryFrame m (as.map (si_v E)).toArray n = F0 m 0 ((lg_sl (as.map (si_v E)) ++ List.replicate (n - (lg_sl (as.map (si_v E))).length) Slot.unset).toArray) [] := lg_entry_eq m _ n
/-- A CALL OF THE ABSTRACT MACHINE GIVES THE METHOD'S CONTRACT -/
theorem si_sim {l : Launch} {E : si_E} {adV : Nat → Nat} (hstr : si_strs l E adV) : ∀ d : Nat, si_call l E adV d (ai_Cl si_t si_ms d)
  | 0 => fun _ _ _ _ _ _ _ _ _ _ _ h => h.elim
  | d + 1 => by
    intro y as I J Rf G v I1 J1 R1 G1 h
    change (match (generalizing := false) si_ms y with
      | some q => ai_wgt as ≤ q.2 ∧ ai_Go si_t q.1 (ai_Cl si_t si_ms d) (fun v2 I2 J2 R2 G2 => v2 = v ∧ I2 = I1 ∧ J2 = J1 ∧ R2 = R1 ∧ G2 = G1) 0 (ai_ent q.2 as) [] (ai_bud si_t y) I J Rf G
      | none => 4 ≤ d ∧ ai_prm si_t y as v ∧ I1 = I ∧ J1 = J ∧ R1 = Rf ∧ G1 = G) at h
    refine ⟨fun hy n u hn hu => ?_, fun hy => ?_⟩
    · have hms : si_ms y = some (u.1, u.2.1) := by
        show (si_mq y).map (fun q => (q.1, q.2.1)) = _
        rw [hu]
        rfl
      rw [hms] at h
      obtain ⟨hw, nn, h⟩ := h
      obtain ⟨n', u', hn', hu', w1, w2, w3, w4, w5⟩ := si_meth hy
      rw [hn] at hn'
      rw [hu] at hu'
      cases hn'
      cases hu'
      have hcode := si_code_ok hy hn hu
      unfold si_kfit at w3
      simp only [Bool.and_eq_true, decide_eq_true_eq] at w3
      obtain ⟨⟨k1, k2, k3, k4, k5, k6, k7, k8, k9⟩, k10⟩ := w3
      unfold si_Met
      refine Met.ofW (cc := n.2.1) (maxL := u.2.1) (ret := n.2.2) k9 rfl ?_
      intro p e s m args below meth c s₁ B hml hv
      obtain ⟨rfl, hP, hK, hX⟩ := hv
      have hts := atoms_spec B.pre
      have hown : s.vm.findClass (si_RS u.1.1) = some m.cls := by
        rw [← k1]
        exact findClass_of_methodNamed B.named
      have hin : u.1.2.1 = true → meth.name = "<init>" := by
        intro hi
        rw [k2] at hi
        rw [(name_of_methodNamed B.named B.method).1]
        exact of_decide_eq_true hi
      have hlocks := B.notSynchronized
      have hr := B.returns
      have ho21 : ¬ u.1.1 = 21 := si_no21 hy hu
      rw [si_wsum]
      have C0 : si_C p (si_rm (d + 1) y) s m (as.map (si_v E)).toArray meth c n.2.1 E adV u.2.1 u.1.1 u.1.2.1 := ⟨B.exec, B.bytes, hml, hown, fun w hw => hts w (List.mem_cons_of_mem _ hw), hK, hX, hin, fun z => absurd z ho21, by rw [hP.1]; omega, by show 1 ≤ d + 1; omega, by show 42 ≤ 42 * (d + 1); omega⟩
      refine si_run (F := u.1) C0 rfl rfl (si_sim hstr d) (Nat.le_refl _) (by show 42 * d + 42 ≤ 42 * (d + 1); omega) ?_ hcode nn 0 _ [] (si_bl y) I J Rf G s.heap [] 0 0 _ h ⟨hP, si_L.ent as u.2.1 hw, va_S.rf, by show 0 + _ ≤ (si_bl y).1; omega, by show 0 + _ ≤ (si_bl y).2; omega⟩
      intro pc op st v2 I2 J2 R2 G2 H locs cells slots ls hd hro hpost hP2 hS hc2 hs2
      obtain ⟨rfl, rfl, rfl, rfl, rfl⟩ := hpost
      have hq : ∀ t : State, t.heap = H → s.WarmedH t.vm → si_Qc E v2 I2 J2 R2 G2 (as.map (si_v E)).toArray s (.returned (v2.map (si_v E))) t := fun t ht hW => ⟨rfl, by rw [ht]; exact hP2, by rw [ht]; exact hS.1, fun q g1 g2 => by rw [ht]; exact hS.2.1 q g1 g2⟩
      refine W.widen (k := (si_bl y).1) (n := (si_bl y).2) hc2 hs2 ?_
      rcases hro with ⟨rfl, x, rfl, rfl, hf⟩ | ⟨rfl, x, rfl, rfl, hf⟩ | ⟨rfl, x, rfl, rfl, hf⟩ | ⟨rfl, rfl, rfl, hf⟩
      · obtain ⟨ty, e1, e2⟩ := si_ret_z k10 hf
        exact W.zret B.exec B.bytes (hr.trans e1) e2 hq hS.2.2 hd hlocks
      · rw [hf] at k10
        exact W.lret B.exec B.bytes (hr.trans (si_ret_l k10)) hq hS.2.2 hd hlocks
      · rw [hf] at k10
        obtain ⟨ty, e1, e2⟩ := si_ret_a k10
        refine W.aret B.exec B.bytes (hr.trans e1) e2 ?_ hq hS.2.2 hd hlocks
        cases x with
        | zero => exact Or.inl rfl
        | succ j => exact Or.inr ⟨_, rfl⟩
      · rw [hf] at k10
        exact W.vret B.exec B.bytes (hr.trans (si_ret_v k10)) hq hS.2.2 hd hlocks
    · have hms : si_ms y = none := by rcases hy with rfl | rfl <;> rfl
      rw [hms] at h
      obtain ⟨h4, hp, rfl, rfl, rfl, rfl⟩ := h
      exact ⟨ai_prm_txt hp, hstr d y as v _ _ _ _ h4 hp⟩
