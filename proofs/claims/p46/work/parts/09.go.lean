/-! Steps of the abstract machine, 'it goes on to an end' from here because it does from there. Printed by wip/p46/gen9.py. -/
section
variable {t : ai_T} {F : ai_F} {call : ai_C} {post : ai_Q} {len pc pc' : Nat} {lo lo' : List (Option ai_V)} {st r : List ai_V} {B B' : Nat × Nat} {I : ai_I} {J : ai_J} {Rf : ai_R} {G : ai_G}
theorem go_1 {q : Instr × Nat} {m : Nat} (hi : ai_lkp F.2.2.2 pc = some q) (h : ai_stp t F call post q.1 q.2 pc lo st B I J Rf G (ai_W t F call post [] m)) : ai_W t F call post [] (m + 1) pc lo st B I J Rf G := by
  change (match ai_lkp F.2.2.2 pc with
    | some q => ai_stp t F call post q.1 q.2 pc lo st B I J Rf G (ai_W t F call post [] m)
    | none => False)
  rw [hi]
  exact h
theorem go_at (hp : pc = pc') (h : ai_Go t F call post pc' lo st B I J Rf G) : ai_Go t F call post pc lo st B I J Rf G := by
  subst hp
  exact h
theorem go_iconst {n : Int} {v : Int32} (hi : ai_lkp F.2.2.2 pc = some (.iconst n, 1)) (hv : Int32.ofInt n = v) (hp : pc + 1 = pc') (h : ai_Go t F call post pc' lo (.inl v :: st) B I J Rf G) : ai_Go t F call post pc lo st B I J Rf G := by
  subst hp
  subst hv
  obtain ⟨m, h⟩ := h
  exact ⟨m + 1, go_1 hi h⟩
theorem go_bipush {n : Int} {v : Int32} (hi : ai_lkp F.2.2.2 pc = some (.bipush n, 2)) (hv : (Int8.ofInt n).toInt32 = v) (hp : pc + 2 = pc') (h : ai_Go t F call post pc' lo (.inl v :: st) B I J Rf G) : ai_Go t F call post pc lo st B I J Rf G := by
  subst hp
  subst hv
  obtain ⟨m, h⟩ := h
  exact ⟨m + 1, go_1 hi h⟩
theorem go_sipush {n : Int} {v : Int32} (hi : ai_lkp F.2.2.2 pc = some (.sipush n, 3)) (hv : (Int16.ofInt n).toInt32 = v) (hp : pc + 3 = pc') (h : ai_Go t F call post pc' lo (.inl v :: st) B I J Rf G) : ai_Go t F call post pc lo st B I J Rf G := by
  subst hp
  subst hv
  obtain ⟨m, h⟩ := h
  exact ⟨m + 1, go_1 hi h⟩
theorem go_lconst {n : Fin 2} {v : Int64} (hi : ai_lkp F.2.2.2 pc = some (.lconst n, 1)) (hv : Int64.ofNat n.val = v) (hp : pc + 1 = pc') (h : ai_Go t F call post pc' lo (.inr (.inl v) :: st) B I J Rf G) : ai_Go t F call post pc lo st B I J Rf G := by
  subst hp
  subst hv
  obtain ⟨m, h⟩ := h
  exact ⟨m + 1, go_1 hi h⟩
theorem go_null (hi : ai_lkp F.2.2.2 pc = some (.aconst_null, 1)) (hp : pc + 1 = pc') (h : ai_Go t F call post pc' lo (.inr (.inr 0) :: st) B I J Rf G) : ai_Go t F call post pc lo st B I J Rf G := by
  subst hp
  obtain ⟨m, h⟩ := h
  exact ⟨m + 1, go_1 hi h⟩
theorem go_ldc {ix : Nat} {v : ai_V} (hi : ai_lkp F.2.2.2 pc = some (.ldc ix, 2)) (hv : ai_cst t F.1 ix = some v) (hp : pc + 2 = pc') (h : ai_Go t F call post pc' lo (v :: st) B I J Rf G) : ai_Go t F call post pc lo st B I J Rf G := by
  subst hp
  obtain ⟨m, h⟩ := h
  exact ⟨m + 1, go_1 hi (by show (match ai_cst t F.1 ix with | some v => ai_W t F call post [] m (pc + 2) lo (v :: st) B I J Rf G | none => False); rw [hv]; exact h)⟩
theorem go_ldc_w {ix : Nat} {v : ai_V} (hi : ai_lkp F.2.2.2 pc = some (.ldc_w ix, 3)) (hv : ai_cst t F.1 ix = some v) (hp : pc + 3 = pc') (h : ai_Go t F call post pc' lo (v :: st) B I J Rf G) : ai_Go t F call post pc lo st B I J Rf G := by
  subst hp
  obtain ⟨m, h⟩ := h
  exact ⟨m + 1, go_1 hi (by show (match ai_cst t F.1 ix with | some v => ai_W t F call post [] m (pc + 3) lo (v :: st) B I J Rf G | none => False); rw [hv]; exact h)⟩
theorem go_ldc2_w {ix : Nat} {v : ai_V} (hi : ai_lkp F.2.2.2 pc = some (.ldc2_w ix, 3)) (hv : ai_cst t F.1 ix = some v) (hp : pc + 3 = pc') (h : ai_Go t F call post pc' lo (v :: st) B I J Rf G) : ai_Go t F call post pc lo st B I J Rf G := by
  subst hp
  obtain ⟨m, h⟩ := h
  exact ⟨m + 1, go_1 hi (by show (match ai_cst t F.1 ix with | some v => ai_W t F call post [] m (pc + 3) lo (v :: st) B I J Rf G | none => False); rw [hv]; exact h)⟩
theorem go_iload {i : Nat} {x : Int32} (hi : ai_lkp F.2.2.2 pc = some (.iload i, 2)) (hv : ai_loc lo i = some (.inl x)) (hp : pc + 2 = pc') (h : ai_Go t F call post pc' lo (.inl x :: st) B I J Rf G) : ai_Go t F call post pc lo st B I J Rf G := by
  subst hp
  obtain ⟨m, h⟩ := h
  exact ⟨m + 1, go_1 hi (by show ai_ldI lo i (fun v => ai_W t F call post [] m (pc + 2) lo (v :: st) B I J Rf G); unfold ai_ldI; rw [hv]; exact h)⟩
theorem go_istore {i : Nat} {x : Int32} (hi : ai_lkp F.2.2.2 pc = some (.istore i, 2)) (hl : ai_put lo i (.inl x) = lo') (hp : pc + 2 = pc') (h : ai_Go t F call post pc' lo' r B I J Rf G) : ai_Go t F call post pc lo (.inl x :: r) B I J Rf G := by
  subst hp
  subst hl
  obtain ⟨m, h⟩ := h
  exact ⟨m + 1, go_1 hi h⟩
theorem go_iload_n {i : Fin 4} {x : Int32} (hi : ai_lkp F.2.2.2 pc = some (.iload_n i, 1)) (hv : ai_loc lo i.val = some (.inl x)) (hp : pc + 1 = pc') (h : ai_Go t F call post pc' lo (.inl x :: st) B I J Rf G) : ai_Go t F call post pc lo st B I J Rf G := by
  subst hp
  obtain ⟨m, h⟩ := h
  exact ⟨m + 1, go_1 hi (by show ai_ldI lo i.val (fun v => ai_W t F call post [] m (pc + 1) lo (v :: st) B I J Rf G); unfold ai_ldI; rw [hv]; exact h)⟩
theorem go_istore_n {i : Fin 4} {x : Int32} (hi : ai_lkp F.2.2.2 pc = some (.istore_n i, 1)) (hl : ai_put lo i.val (.inl x) = lo') (hp : pc + 1 = pc') (h : ai_Go t F call post pc' lo' r B I J Rf G) : ai_Go t F call post pc lo (.inl x :: r) B I J Rf G := by
  subst hp
  subst hl
  obtain ⟨m, h⟩ := h
  exact ⟨m + 1, go_1 hi h⟩
theorem go_lload {i : Nat} {x : Int64} (hi : ai_lkp F.2.2.2 pc = some (.lload i, 2)) (hv : ai_loc lo i = some (.inr (.inl x))) (hp : pc + 2 = pc') (h : ai_Go t F call post pc' lo (.inr (.inl x) :: st) B I J Rf G) : ai_Go t F call post pc lo st B I J Rf G := by
  subst hp
  obtain ⟨m, h⟩ := h
  exact ⟨m + 1, go_1 hi (by show ai_ldJ lo i (fun v => ai_W t F call post [] m (pc + 2) lo (v :: st) B I J Rf G); unfold ai_ldJ; rw [hv]; exact h)⟩
theorem go_lstore {i : Nat} {x : Int64} (hi : ai_lkp F.2.2.2 pc = some (.lstore i, 2)) (hl : ai_putL lo i (.inr (.inl x)) = lo') (hp : pc + 2 = pc') (h : ai_Go t F call post pc' lo' r B I J Rf G) : ai_Go t F call post pc lo (.inr (.inl x) :: r) B I J Rf G := by
  subst hp
  subst hl
  obtain ⟨m, h⟩ := h
  exact ⟨m + 1, go_1 hi h⟩
theorem go_lload_n {i : Fin 4} {x : Int64} (hi : ai_lkp F.2.2.2 pc = some (.lload_n i, 1)) (hv : ai_loc lo i.val = some (.inr (.inl x))) (hp : pc + 1 = pc') (h : ai_Go t F call post pc' lo (.inr (.inl x) :: st) B I J Rf G) : ai_Go t F call post pc lo st B I J Rf G := by
  subst hp
  obtain ⟨m, h⟩ := h
  exact ⟨m + 1, go_1 hi (by show ai_ldJ lo i.val (fun v => ai_W t F call post [] m (pc + 1) lo (v :: st) B I J Rf G); unfold ai_ldJ; rw [hv]; exact h)⟩
theorem go_lstore_n {i : Fin 4} {x : Int64} (hi : ai_lkp F.2.2.2 pc = some (.lstore_n i, 1)) (hl : ai_putL lo i.val (.inr (.inl x)) = lo') (hp : pc + 1 = pc') (h : ai_Go t F call post pc' lo' r B I J Rf G) : ai_Go t F call post pc lo (.inr (.inl x) :: r) B I J Rf G := by
  subst hp
  subst hl
  obtain ⟨m, h⟩ := h
  exact ⟨m + 1, go_1 hi h⟩
theorem go_aload {i : Nat} {x : Nat} (hi : ai_lkp F.2.2.2 pc = some (.aload i, 2)) (hv : ai_loc lo i = some (.inr (.inr x))) (hp : pc + 2 = pc') (h : ai_Go t F call post pc' lo (.inr (.inr x) :: st) B I J Rf G) : ai_Go t F call post pc lo st B I J Rf G := by
  subst hp
  obtain ⟨m, h⟩ := h
  exact ⟨m + 1, go_1 hi (by show ai_ldR lo i (fun v => ai_W t F call post [] m (pc + 2) lo (v :: st) B I J Rf G); unfold ai_ldR; rw [hv]; exact h)⟩
theorem go_astore {i : Nat} {x : Nat} (hi : ai_lkp F.2.2.2 pc = some (.astore i, 2)) (hl : ai_put lo i (.inr (.inr x)) = lo') (hp : pc + 2 = pc') (h : ai_Go t F call post pc' lo' r B I J Rf G) : ai_Go t F call post pc lo (.inr (.inr x) :: r) B I J Rf G := by
  subst hp
  subst hl
  obtain ⟨m, h⟩ := h
  exact ⟨m + 1, go_1 hi h⟩
theorem go_aload_n {i : Fin 4} {x : Nat} (hi : ai_lkp F.2.2.2 pc = some (.aload_n i, 1)) (hv : ai_loc lo i.val = some (.inr (.inr x))) (hp : pc + 1 = pc') (h : ai_Go t F call post pc' lo (.inr (.inr x) :: st) B I J Rf G) : ai_Go t F call post pc lo st B I J Rf G := by
  subst hp
  obtain ⟨m, h⟩ := h
  exact ⟨m + 1, go_1 hi (by show ai_ldR lo i.val (fun v => ai_W t F call post [] m (pc + 1) lo (v :: st) B I J Rf G); unfold ai_ldR; rw [hv]; exact h)⟩
theorem go_astore_n {i : Fin 4} {x : Nat} (hi : ai_lkp F.2.2.2 pc = some (.astore_n i, 1)) (hl : ai_put lo i.val (.inr (.inr x)) = lo') (hp : pc + 1 = pc') (h : ai_Go t F call post pc' lo' r B I J Rf G) : ai_Go t F call post pc lo (.inr (.inr x) :: r) B I J Rf G := by
  subst hp
  subst hl
  obtain ⟨m, h⟩ := h
  exact ⟨m + 1, go_1 hi h⟩
theorem go_iinc {i : Nat} {n : Int} {x y : Int32} (hi : ai_lkp F.2.2.2 pc = some (.iinc i n, 3)) (hv : ai_loc lo i = some (.inl x)) (hn : Int32.ofInt n = y) (hl : ai_put lo i (.inl (x + y)) = lo') (hp : pc + 3 = pc') (h : ai_Go t F call post pc' lo' st B I J Rf G) : ai_Go t F call post pc lo st B I J Rf G := by
  subst hp
  subst hn
  subst hl
  obtain ⟨m, h⟩ := h
  exact ⟨m + 1, go_1 hi (by show (match ai_loc lo i with | some (.inl x) => ai_W t F call post [] m (pc + 3) (ai_put lo i (.inl (x + Int32.ofInt n))) st B I J Rf G | _ => False); rw [hv]; exact h)⟩
theorem go_iadd {x y : Int32} (hi : ai_lkp F.2.2.2 pc = some (.iadd, 1)) (hp : pc + 1 = pc') (h : ai_Go t F call post pc' lo (.inl (x + y) :: r) B I J Rf G) : ai_Go t F call post pc lo (.inl y :: .inl x :: r) B I J Rf G := by
  subst hp
  obtain ⟨m, h⟩ := h
  exact ⟨m + 1, go_1 hi h⟩
theorem go_isub {x y : Int32} (hi : ai_lkp F.2.2.2 pc = some (.isub, 1)) (hp : pc + 1 = pc') (h : ai_Go t F call post pc' lo (.inl (x - y) :: r) B I J Rf G) : ai_Go t F call post pc lo (.inl y :: .inl x :: r) B I J Rf G := by
  subst hp
  obtain ⟨m, h⟩ := h
  exact ⟨m + 1, go_1 hi h⟩
theorem go_imul {x y : Int32} (hi : ai_lkp F.2.2.2 pc = some (.imul, 1)) (hp : pc + 1 = pc') (h : ai_Go t F call post pc' lo (.inl (x * y) :: r) B I J Rf G) : ai_Go t F call post pc lo (.inl y :: .inl x :: r) B I J Rf G := by
  subst hp
  obtain ⟨m, h⟩ := h
  exact ⟨m + 1, go_1 hi h⟩
theorem go_iand {x y : Int32} (hi : ai_lkp F.2.2.2 pc = some (.iand, 1)) (hp : pc + 1 = pc') (h : ai_Go t F call post pc' lo (.inl (x &&& y) :: r) B I J Rf G) : ai_Go t F call post pc lo (.inl y :: .inl x :: r) B I J Rf G := by
  subst hp
  obtain ⟨m, h⟩ := h
  exact ⟨m + 1, go_1 hi h⟩
theorem go_ior {x y : Int32} (hi : ai_lkp F.2.2.2 pc = some (.ior, 1)) (hp : pc + 1 = pc') (h : ai_Go t F call post pc' lo (.inl (x ||| y) :: r) B I J Rf G) : ai_Go t F call post pc lo (.inl y :: .inl x :: r) B I J Rf G := by
  subst hp
  obtain ⟨m, h⟩ := h
  exact ⟨m + 1, go_1 hi h⟩
theorem go_ixor {x y : Int32} (hi : ai_lkp F.2.2.2 pc = some (.ixor, 1)) (hp : pc + 1 = pc') (h : ai_Go t F call post pc' lo (.inl (x ^^^ y) :: r) B I J Rf G) : ai_Go t F call post pc lo (.inl y :: .inl x :: r) B I J Rf G := by
  subst hp
  obtain ⟨m, h⟩ := h
  exact ⟨m + 1, go_1 hi h⟩
theorem go_ishl {x y : Int32} (hi : ai_lkp F.2.2.2 pc = some (.ishl, 1)) (hp : pc + 1 = pc') (h : ai_Go t F call post pc' lo (.inl (x <<< (y &&& 31)) :: r) B I J Rf G) : ai_Go t F call post pc lo (.inl y :: .inl x :: r) B I J Rf G := by
  subst hp
  obtain ⟨m, h⟩ := h
  exact ⟨m + 1, go_1 hi h⟩
theorem go_ishr {x y : Int32} (hi : ai_lkp F.2.2.2 pc = some (.ishr, 1)) (hp : pc + 1 = pc') (h : ai_Go t F call post pc' lo (.inl (x >>> (y &&& 31)) :: r) B I J Rf G) : ai_Go t F call post pc lo (.inl y :: .inl x :: r) B I J Rf G := by
  subst hp
  obtain ⟨m, h⟩ := h
  exact ⟨m + 1, go_1 hi h⟩
theorem go_iushr {x y : Int32} (hi : ai_lkp F.2.2.2 pc = some (.iushr, 1)) (hp : pc + 1 = pc') (h : ai_Go t F call post pc' lo (.inl ((x.toUInt32 >>> (y.toUInt32 &&& Int32.toUInt32 31)).toInt32) :: r) B I J Rf G) : ai_Go t F call post pc lo (.inl y :: .inl x :: r) B I J Rf G := by
  subst hp
  obtain ⟨m, h⟩ := h
  exact ⟨m + 1, go_1 hi h⟩
theorem go_idiv {x y : Int32} (hi : ai_lkp F.2.2.2 pc = some (.idiv, 1)) (h0 : ¬ y = 0) (hp : pc + 1 = pc') (h : ai_Go t F call post pc' lo (.inl (x / y) :: r) B I J Rf G) : ai_Go t F call post pc lo (.inl y :: .inl x :: r) B I J Rf G := by
  subst hp
  obtain ⟨m, h⟩ := h
  exact ⟨m + 1, go_1 hi ⟨h0, h⟩⟩
theorem go_irem {x y : Int32} (hi : ai_lkp F.2.2.2 pc = some (.irem, 1)) (h0 : ¬ y = 0) (hp : pc + 1 = pc') (h : ai_Go t F call post pc' lo (.inl (x - x / y * y) :: r) B I J Rf G) : ai_Go t F call post pc lo (.inl y :: .inl x :: r) B I J Rf G := by
  subst hp
  obtain ⟨m, h⟩ := h
  exact ⟨m + 1, go_1 hi ⟨h0, h⟩⟩
theorem go_ladd {x y : Int64} (hi : ai_lkp F.2.2.2 pc = some (.ladd, 1)) (hp : pc + 1 = pc') (h : ai_Go t F call post pc' lo (.inr (.inl (x + y)) :: r) B I J Rf G) : ai_Go t F call post pc lo (.inr (.inl y) :: .inr (.inl x) :: r) B I J Rf G := by
  subst hp
  obtain ⟨m, h⟩ := h
  exact ⟨m + 1, go_1 hi h⟩
theorem go_lsub {x y : Int64} (hi : ai_lkp F.2.2.2 pc = some (.lsub, 1)) (hp : pc + 1 = pc') (h : ai_Go t F call post pc' lo (.inr (.inl (x - y)) :: r) B I J Rf G) : ai_Go t F call post pc lo (.inr (.inl y) :: .inr (.inl x) :: r) B I J Rf G := by
  subst hp
  obtain ⟨m, h⟩ := h
  exact ⟨m + 1, go_1 hi h⟩
theorem go_lmul {x y : Int64} (hi : ai_lkp F.2.2.2 pc = some (.lmul, 1)) (hp : pc + 1 = pc') (h : ai_Go t F call post pc' lo (.inr (.inl (x * y)) :: r) B I J Rf G) : ai_Go t F call post pc lo (.inr (.inl y) :: .inr (.inl x) :: r) B I J Rf G := by
  subst hp
  obtain ⟨m, h⟩ := h
  exact ⟨m + 1, go_1 hi h⟩
theorem go_ldiv {x y : Int64} (hi : ai_lkp F.2.2.2 pc = some (.ldiv, 1)) (h0 : ¬ y = 0) (hp : pc + 1 = pc') (h : ai_Go t F call post pc' lo (.inr (.inl (x / y)) :: r) B I J Rf G) : ai_Go t F call post pc lo (.inr (.inl y) :: .inr (.inl x) :: r) B I J Rf G := by
  subst hp
  obtain ⟨m, h⟩ := h
  exact ⟨m + 1, go_1 hi ⟨h0, h⟩⟩
theorem go_lrem {x y : Int64} (hi : ai_lkp F.2.2.2 pc = some (.lrem, 1)) (h0 : ¬ y = 0) (hp : pc + 1 = pc') (h : ai_Go t F call post pc' lo (.inr (.inl (x - x / y * y)) :: r) B I J Rf G) : ai_Go t F call post pc lo (.inr (.inl y) :: .inr (.inl x) :: r) B I J Rf G := by
  subst hp
  obtain ⟨m, h⟩ := h
  exact ⟨m + 1, go_1 hi ⟨h0, h⟩⟩
theorem go_ineg {x : Int32} (hi : ai_lkp F.2.2.2 pc = some (.ineg, 1)) (hp : pc + 1 = pc') (h : ai_Go t F call post pc' lo (.inl (-x) :: r) B I J Rf G) : ai_Go t F call post pc lo (.inl x :: r) B I J Rf G := by
  subst hp
  obtain ⟨m, h⟩ := h
  exact ⟨m + 1, go_1 hi h⟩
theorem go_i2b {x : Int32} (hi : ai_lkp F.2.2.2 pc = some (.i2b, 1)) (hp : pc + 1 = pc') (h : ai_Go t F call post pc' lo (.inl x.toInt8.toInt32 :: r) B I J Rf G) : ai_Go t F call post pc lo (.inl x :: r) B I J Rf G := by
  subst hp
  obtain ⟨m, h⟩ := h
  exact ⟨m + 1, go_1 hi h⟩
theorem go_i2l {x : Int32} (hi : ai_lkp F.2.2.2 pc = some (.i2l, 1)) (hp : pc + 1 = pc') (h : ai_Go t F call post pc' lo (.inr (.inl x.toInt64) :: r) B I J Rf G) : ai_Go t F call post pc lo (.inl x :: r) B I J Rf G := by
  subst hp
  obtain ⟨m, h⟩ := h
  exact ⟨m + 1, go_1 hi h⟩
theorem go_lcmp {x y : Int64} (hi : ai_lkp F.2.2.2 pc = some (.lcmp, 1)) (hp : pc + 1 = pc') (h : ai_Go t F call post pc' lo (.inl (ai_cmp x y) :: r) B I J Rf G) : ai_Go t F call post pc lo (.inr (.inl y) :: .inr (.inl x) :: r) B I J Rf G := by
  subst hp
  obtain ⟨m, h⟩ := h
  exact ⟨m + 1, go_1 hi h⟩
theorem go_dupI {x : Int32} (hi : ai_lkp F.2.2.2 pc = some (.dup, 1)) (hp : pc + 1 = pc') (h : ai_Go t F call post pc' lo (.inl x :: .inl x :: r) B I J Rf G) : ai_Go t F call post pc lo (.inl x :: r) B I J Rf G := by
  subst hp
  obtain ⟨m, h⟩ := h
  exact ⟨m + 1, go_1 hi h⟩
theorem go_dupR {x : Nat} (hi : ai_lkp F.2.2.2 pc = some (.dup, 1)) (hp : pc + 1 = pc') (h : ai_Go t F call post pc' lo (.inr (.inr x) :: .inr (.inr x) :: r) B I J Rf G) : ai_Go t F call post pc lo (.inr (.inr x) :: r) B I J Rf G := by
  subst hp
  obtain ⟨m, h⟩ := h
  exact ⟨m + 1, go_1 hi h⟩
theorem go_popI {x : Int32} (hi : ai_lkp F.2.2.2 pc = some (.pop, 1)) (hp : pc + 1 = pc') (h : ai_Go t F call post pc' lo r B I J Rf G) : ai_Go t F call post pc lo (.inl x :: r) B I J Rf G := by
  subst hp
  obtain ⟨m, h⟩ := h
  exact ⟨m + 1, go_1 hi h⟩
theorem go_dup2 {y : Int32} {x : Nat} (hi : ai_lkp F.2.2.2 pc = some (.dup2, 1)) (hp : pc + 1 = pc') (h : ai_Go t F call post pc' lo (.inl y :: .inr (.inr x) :: .inl y :: .inr (.inr x) :: r) B I J Rf G) : ai_Go t F call post pc lo (.inl y :: .inr (.inr x) :: r) B I J Rf G := by
  subst hp
  obtain ⟨m, h⟩ := h
  exact ⟨m + 1, go_1 hi h⟩
theorem go_popR {x : Nat} (hi : ai_lkp F.2.2.2 pc = some (.pop, 1)) (hp : pc + 1 = pc') (h : ai_Go t F call post pc' lo r B I J Rf G) : ai_Go t F call post pc lo (.inr (.inr x) :: r) B I J Rf G := by
  subst hp
  obtain ⟨m, h⟩ := h
  exact ⟨m + 1, go_1 hi h⟩
theorem go_goto {off : Int} {ln : Nat} (hi : ai_lkp F.2.2.2 pc = some (.goto off, ln)) (hp : ai_tgt pc off = pc') (h : ai_Go t F call post pc' lo st B I J Rf G) : ai_Go t F call post pc lo st B I J Rf G := by
  subst hp
  obtain ⟨m, h⟩ := h
  exact ⟨m + 1, go_1 hi h⟩
theorem go_if_eq {off : Int} {x : Int32} {pt : Nat} {ln : Nat} (hi : ai_lkp F.2.2.2 pc = some (.ifCond .eq off, ln)) (hp : ai_tgt pc off = pt) (hq : pc + 3 = pc') (ht : (x = 0) → ai_Go t F call post pt lo r B I J Rf G) (hf : ¬ (x = 0) → ai_Go t F call post pc' lo r B I J Rf G) : ai_Go t F call post pc lo (.inl x :: r) B I J Rf G := by
  subst hp
  subst hq
  by_cases hc : (x = 0)
  · obtain ⟨m, h⟩ := ht hc
    exact ⟨m + 1, go_1 hi ⟨fun _ => h, fun q => absurd hc q⟩⟩
  · obtain ⟨m, h⟩ := hf hc
    exact ⟨m + 1, go_1 hi ⟨fun q => absurd q hc, fun _ => h⟩⟩
theorem go_icmp_eq {off : Int} {x y : Int32} {pt : Nat} {ln : Nat} (hi : ai_lkp F.2.2.2 pc = some (.if_icmp .eq off, ln)) (hp : ai_tgt pc off = pt) (hq : pc + 3 = pc') (ht : (x = y) → ai_Go t F call post pt lo r B I J Rf G) (hf : ¬ (x = y) → ai_Go t F call post pc' lo r B I J Rf G) : ai_Go t F call post pc lo (.inl y :: .inl x :: r) B I J Rf G := by
  subst hp
  subst hq
  by_cases hc : (x = y)
  · obtain ⟨m, h⟩ := ht hc
    exact ⟨m + 1, go_1 hi ⟨fun _ => h, fun q => absurd hc q⟩⟩
  · obtain ⟨m, h⟩ := hf hc
    exact ⟨m + 1, go_1 hi ⟨fun q => absurd q hc, fun _ => h⟩⟩
theorem go_if_ne {off : Int} {x : Int32} {pt : Nat} {ln : Nat} (hi : ai_lkp F.2.2.2 pc = some (.ifCond .ne off, ln)) (hp : ai_tgt pc off = pt) (hq : pc + 3 = pc') (ht : (¬ x = 0) → ai_Go t F call post pt lo r B I J Rf G) (hf : ¬ (¬ x = 0) → ai_Go t F call post pc' lo r B I J Rf G) : ai_Go t F call post pc lo (.inl x :: r) B I J Rf G := by
  subst hp
  subst hq
  by_cases hc : (¬ x = 0)
  · obtain ⟨m, h⟩ := ht hc
    exact ⟨m + 1, go_1 hi ⟨fun _ => h, fun q => absurd hc q⟩⟩
  · obtain ⟨m, h⟩ := hf hc
    exact ⟨m + 1, go_1 hi ⟨fun q => absurd q hc, fun _ => h⟩⟩
theorem go_icmp_ne {off : Int} {x y : Int32} {pt : Nat} {ln : Nat} (hi : ai_lkp F.2.2.2 pc = some (.if_icmp .ne off, ln)) (hp : ai_tgt pc off = pt) (hq : pc + 3 = pc') (ht : (¬ x = y) → ai_Go t F call post pt lo r B I J Rf G) (hf : ¬ (¬ x = y) → ai_Go t F call post pc' lo r B I J Rf G) : ai_Go t F call post pc lo (.inl y :: .inl x :: r) B I J Rf G := by
  subst hp
  subst hq
  by_cases hc : (¬ x = y)
  · obtain ⟨m, h⟩ := ht hc
    exact ⟨m + 1, go_1 hi ⟨fun _ => h, fun q => absurd hc q⟩⟩
  · obtain ⟨m, h⟩ := hf hc
    exact ⟨m + 1, go_1 hi ⟨fun q => absurd q hc, fun _ => h⟩⟩
theorem go_if_lt {off : Int} {x : Int32} {pt : Nat} {ln : Nat} (hi : ai_lkp F.2.2.2 pc = some (.ifCond .lt off, ln)) (hp : ai_tgt pc off = pt) (hq : pc + 3 = pc') (ht : (x < 0) → ai_Go t F call post pt lo r B I J Rf G) (hf : ¬ (x < 0) → ai_Go t F call post pc' lo r B I J Rf G) : ai_Go t F call post pc lo (.inl x :: r) B I J Rf G := by
  subst hp
  subst hq
  by_cases hc : (x < 0)
  · obtain ⟨m, h⟩ := ht hc
    exact ⟨m + 1, go_1 hi ⟨fun _ => h, fun q => absurd hc q⟩⟩
  · obtain ⟨m, h⟩ := hf hc
    exact ⟨m + 1, go_1 hi ⟨fun q => absurd q hc, fun _ => h⟩⟩
theorem go_icmp_lt {off : Int} {x y : Int32} {pt : Nat} {ln : Nat} (hi : ai_lkp F.2.2.2 pc = some (.if_icmp .lt off, ln)) (hp : ai_tgt pc off = pt) (hq : pc + 3 = pc') (ht : (x < y) → ai_Go t F call post pt lo r B I J Rf G) (hf : ¬ (x < y) → ai_Go t F call post pc' lo r B I J Rf G) : ai_Go t F call post pc lo (.inl y :: .inl x :: r) B I J Rf G := by
  subst hp
  subst hq
  by_cases hc : (x < y)
  · obtain ⟨m, h⟩ := ht hc
    exact ⟨m + 1, go_1 hi ⟨fun _ => h, fun q => absurd hc q⟩⟩
  · obtain ⟨m, h⟩ := hf hc
    exact ⟨m + 1, go_1 hi ⟨fun q => absurd q hc, fun _ => h⟩⟩
theorem go_if_ge {off : Int} {x : Int32} {pt : Nat} {ln : Nat} (hi : ai_lkp F.2.2.2 pc = some (.ifCond .ge off, ln)) (hp : ai_tgt pc off = pt) (hq : pc + 3 = pc') (ht : (0 ≤ x) → ai_Go t F call post pt lo r B I J Rf G) (hf : ¬ (0 ≤ x) → ai_Go t F call post pc' lo r B I J Rf G) : ai_Go t F call post pc lo (.inl x :: r) B I J Rf G := by
  subst hp
  subst hq
  by_cases hc : (0 ≤ x)
  · obtain ⟨m, h⟩ := ht hc
    exact ⟨m + 1, go_1 hi ⟨fun _ => h, fun q => absurd hc q⟩⟩
  · obtain ⟨m, h⟩ := hf hc
    exact ⟨m + 1, go_1 hi ⟨fun q => absurd q hc, fun _ => h⟩⟩
theorem go_icmp_ge {off : Int} {x y : Int32} {pt : Nat} {ln : Nat} (hi : ai_lkp F.2.2.2 pc = some (.if_icmp .ge off, ln)) (hp : ai_tgt pc off = pt) (hq : pc + 3 = pc') (ht : (y ≤ x) → ai_Go t F call post pt lo r B I J Rf G) (hf : ¬ (y ≤ x) → ai_Go t F call post pc' lo r B I J Rf G) : ai_Go t F call post pc lo (.inl y :: .inl x :: r) B I J Rf G := by
  subst hp
  subst hq
  by_cases hc : (y ≤ x)
  · obtain ⟨m, h⟩ := ht hc
    exact ⟨m + 1, go_1 hi ⟨fun _ => h, fun q => absurd hc q⟩⟩
  · obtain ⟨m, h⟩ := hf hc
    exact ⟨m + 1, go_1 hi ⟨fun q => absurd q hc, fun _ => h⟩⟩
theorem go_if_gt {off : Int} {x : Int32} {pt : Nat} {ln : Nat} (hi : ai_lkp F.2.2.2 pc = some (.ifCond .gt off, ln)) (hp : ai_tgt pc off = pt) (hq : pc + 3 = pc') (ht : (0 < x) → ai_Go t F call post pt lo r B I J Rf G) (hf : ¬ (0 < x) → ai_Go t F call post pc' lo r B I J Rf G) : ai_Go t F call post pc lo (.inl x :: r) B I J Rf G := by
  subst hp
  subst hq
  by_cases hc : (0 < x)
  · obtain ⟨m, h⟩ := ht hc
    exact ⟨m + 1, go_1 hi ⟨fun _ => h, fun q => absurd hc q⟩⟩
  · obtain ⟨m, h⟩ := hf hc
    exact ⟨m + 1, go_1 hi ⟨fun q => absurd q hc, fun _ => h⟩⟩
theorem go_icmp_gt {off : Int} {x y : Int32} {pt : Nat} {ln : Nat} (hi : ai_lkp F.2.2.2 pc = some (.if_icmp .gt off, ln)) (hp : ai_tgt pc off = pt) (hq : pc + 3 = pc') (ht : (y < x) → ai_Go t F call post pt lo r B I J Rf G) (hf : ¬ (y < x) → ai_Go t F call post pc' lo r B I J Rf G) : ai_Go t F call post pc lo (.inl y :: .inl x :: r) B I J Rf G := by
  subst hp
  subst hq
  by_cases hc : (y < x)
  · obtain ⟨m, h⟩ := ht hc
    exact ⟨m + 1, go_1 hi ⟨fun _ => h, fun q => absurd hc q⟩⟩
  · obtain ⟨m, h⟩ := hf hc
    exact ⟨m + 1, go_1 hi ⟨fun q => absurd q hc, fun _ => h⟩⟩
theorem go_if_le {off : Int} {x : Int32} {pt : Nat} {ln : Nat} (hi : ai_lkp F.2.2.2 pc = some (.ifCond .le off, ln)) (hp : ai_tgt pc off = pt) (hq : pc + 3 = pc') (ht : (x ≤ 0) → ai_Go t F call post pt lo r B I J Rf G) (hf : ¬ (x ≤ 0) → ai_Go t F call post pc' lo r B I J Rf G) : ai_Go t F call post pc lo (.inl x :: r) B I J Rf G := by
  subst hp
  subst hq
  by_cases hc : (x ≤ 0)
  · obtain ⟨m, h⟩ := ht hc
    exact ⟨m + 1, go_1 hi ⟨fun _ => h, fun q => absurd hc q⟩⟩
  · obtain ⟨m, h⟩ := hf hc
    exact ⟨m + 1, go_1 hi ⟨fun q => absurd q hc, fun _ => h⟩⟩
theorem go_icmp_le {off : Int} {x y : Int32} {pt : Nat} {ln : Nat} (hi : ai_lkp F.2.2.2 pc = some (.if_icmp .le off, ln)) (hp : ai_tgt pc off = pt) (hq : pc + 3 = pc') (ht : (x ≤ y) → ai_Go t F call post pt lo r B I J Rf G) (hf : ¬ (x ≤ y) → ai_Go t F call post pc' lo r B I J Rf G) : ai_Go t F call post pc lo (.inl y :: .inl x :: r) B I J Rf G := by
  subst hp
  subst hq
  by_cases hc : (x ≤ y)
  · obtain ⟨m, h⟩ := ht hc
    exact ⟨m + 1, go_1 hi ⟨fun _ => h, fun q => absurd hc q⟩⟩
  · obtain ⟨m, h⟩ := hf hc
    exact ⟨m + 1, go_1 hi ⟨fun q => absurd q hc, fun _ => h⟩⟩
theorem go_ifnull {off : Int} {x : Nat} {pt : Nat} {ln : Nat} (hi : ai_lkp F.2.2.2 pc = some (.ifnull off, ln)) (hp : ai_tgt pc off = pt) (hq : pc + 3 = pc') (ht : (x = 0) → ai_Go t F call post pt lo r B I J Rf G) (hf : ¬ (x = 0) → ai_Go t F call post pc' lo r B I J Rf G) : ai_Go t F call post pc lo (.inr (.inr x) :: r) B I J Rf G := by
  subst hp
  subst hq
  by_cases hc : (x = 0)
  · obtain ⟨m, h⟩ := ht hc
    exact ⟨m + 1, go_1 hi ⟨fun _ => h, fun q => absurd hc q⟩⟩
  · obtain ⟨m, h⟩ := hf hc
    exact ⟨m + 1, go_1 hi ⟨fun q => absurd q hc, fun _ => h⟩⟩
theorem go_ifnonnull {off : Int} {x : Nat} {pt : Nat} {ln : Nat} (hi : ai_lkp F.2.2.2 pc = some (.ifnonnull off, ln)) (hp : ai_tgt pc off = pt) (hq : pc + 3 = pc') (ht : ¬ x = 0 → ai_Go t F call post pt lo r B I J Rf G) (hf : x = 0 → ai_Go t F call post pc' lo r B I J Rf G) : ai_Go t F call post pc lo (.inr (.inr x) :: r) B I J Rf G := by
  subst hp
  subst hq
  by_cases hc : x = 0
  · obtain ⟨m, h⟩ := hf hc
    exact ⟨m + 1, go_1 hi ⟨fun q => absurd hc q, fun _ => h⟩⟩
  · obtain ⟨m, h⟩ := ht hc
    exact ⟨m + 1, go_1 hi ⟨fun _ => h, fun q => absurd q hc⟩⟩
theorem go_sw_out {x : Int32} {k : Nat → Prop} : ∀ (os : List Int) (lo : Int), x.toInt < lo ∨ lo + (os.length : Int) ≤ x.toInt → ai_sw x pc k lo os
  | [], _, _ => trivial
  | o :: os, lo, h => by
    simp only [List.length_cons] at h
    push_cast at h
    exact ⟨fun e => by exfalso; omega, go_sw_out os (lo + 1) (by omega)⟩
theorem go_sw_in {x : Int32} {k : Nat → Prop} : ∀ (os : List Int) (lo : Int) (i : Nat) (o : Int), os[i]? = some o → x.toInt = lo + (i : Int) → k (ai_tgt pc o) → ai_sw x pc k lo os
  | [], _, i, o, h, _, _ => by simp at h
  | q :: os, lo, i, o, h, hx, hk => by
    cases i with
    | zero =>
      simp at h
      subst h
      refine ⟨fun _ => hk, ?_⟩
      exact go_sw_out os (lo + 1) (Or.inl (by rw [hx]; simp; omega))
    | succ j => exact ⟨fun e => by exfalso; rw [hx] at e; push_cast at e; omega, go_sw_in os (lo + 1) j o (by simpa using h) (by rw [hx]; push_cast; omega) hk⟩
theorem go_swOut {d lq hq : Int} {os : Array Int} {ln : Nat} {x : Int32} (hi : ai_lkp F.2.2.2 pc = some (.tableswitch d lq hq os, ln)) (hx : x.toInt < lq ∨ lq + (os.toList.length : Int) ≤ x.toInt) (hp : ai_tgt pc d = pc') (h : ai_Go t F call post pc' lo r B I J Rf G) : ai_Go t F call post pc lo (.inl x :: r) B I J Rf G := by
  subst hp
  obtain ⟨m, h⟩ := h
  exact ⟨m + 1, go_1 hi (by show (x.toInt < lq ∨ hq < x.toInt → ai_W t F call post [] m (ai_tgt pc d) lo r B I J Rf G) ∧ ai_sw x pc (fun q => ai_W t F call post [] m q lo r B I J Rf G) lq os.toList; exact ⟨fun _ => h, go_sw_out _ _ hx⟩)⟩
theorem go_swIn {d lq hq : Int} {os : Array Int} {ln : Nat} {x : Int32} (i : Nat) {o : Int} (hi : ai_lkp F.2.2.2 pc = some (.tableswitch d lq hq os, ln)) (ho : os.toList[i]? = some o) (hx : x.toInt = lq + (i : Int)) (hh : x.toInt ≤ hq) (hp : ai_tgt pc o = pc') (h : ai_Go t F call post pc' lo r B I J Rf G) : ai_Go t F call post pc lo (.inl x :: r) B I J Rf G := by
  subst hp
  obtain ⟨m, h⟩ := h
  exact ⟨m + 1, go_1 hi (by show (x.toInt < lq ∨ hq < x.toInt → ai_W t F call post [] m (ai_tgt pc d) lo r B I J Rf G) ∧ ai_sw x pc (fun q => ai_W t F call post [] m q lo r B I J Rf G) lq os.toList; exact ⟨fun q => by exfalso; omega, go_sw_in _ _ i o ho hx h⟩)⟩
theorem go_iaload {i : Int32} {c : Nat} (hi : ai_lkp F.2.2.2 pc = some (.iaload, 1)) (hk : ai_isI F.1 G.1 c) (hb : ai_in i (G.2.1 c)) (hp : pc + 1 = pc') (h : ai_Go t F call post pc' lo (.inl (I c i.toNatClampNeg) :: r) B I J Rf G) : ai_Go t F call post pc lo (.inl i :: .inr (.inr c) :: r) B I J Rf G := by
  subst hp
  obtain ⟨m, h⟩ := h
  exact ⟨m + 1, go_1 hi ⟨hk, hb, h⟩⟩
theorem go_baload {i : Int32} {c : Nat} (hi : ai_lkp F.2.2.2 pc = some (.baload, 1)) (hk : G.1 c = 12) (hb : ai_in i (G.2.1 c)) (hp : pc + 1 = pc') (h : ai_Go t F call post pc' lo (.inl (I c i.toNatClampNeg) :: r) B I J Rf G) : ai_Go t F call post pc lo (.inl i :: .inr (.inr c) :: r) B I J Rf G := by
  subst hp
  obtain ⟨m, h⟩ := h
  exact ⟨m + 1, go_1 hi ⟨hk, hb, h⟩⟩
theorem go_laload {i : Int32} {c : Nat} (hi : ai_lkp F.2.2.2 pc = some (.laload, 1)) (hk : G.1 c = 14) (hb : ai_in i (G.2.1 c)) (hp : pc + 1 = pc') (h : ai_Go t F call post pc' lo (.inr (.inl (J c i.toNatClampNeg)) :: r) B I J Rf G) : ai_Go t F call post pc lo (.inl i :: .inr (.inr c) :: r) B I J Rf G := by
  subst hp
  obtain ⟨m, h⟩ := h
  exact ⟨m + 1, go_1 hi ⟨hk, hb, h⟩⟩
theorem go_aaload {i : Int32} {c : Nat} (hi : ai_lkp F.2.2.2 pc = some (.aaload, 1)) (hk : G.1 c = 15) (hb : ai_in i (G.2.1 c)) (hp : pc + 1 = pc') (h : ai_Go t F call post pc' lo (.inr (.inr (Rf c i.toNatClampNeg)) :: r) B I J Rf G) : ai_Go t F call post pc lo (.inl i :: .inr (.inr c) :: r) B I J Rf G := by
  subst hp
  obtain ⟨m, h⟩ := h
  exact ⟨m + 1, go_1 hi ⟨hk, hb, h⟩⟩
theorem go_iastore {i x : Int32} {c : Nat} (hi : ai_lkp F.2.2.2 pc = some (.iastore, 1)) (hk : G.1 c = 13) (hb : ai_in i (G.2.1 c)) (hp : pc + 1 = pc') (h : ai_Go t F call post pc' lo r B (va_up I c (va_up (I c) i.toNatClampNeg x)) J Rf G) : ai_Go t F call post pc lo (.inl x :: .inl i :: .inr (.inr c) :: r) B I J Rf G := by
  subst hp
  obtain ⟨m, h⟩ := h
  exact ⟨m + 1, go_1 hi ⟨hk, hb, h⟩⟩
theorem go_bastore {i x : Int32} {c : Nat} (hi : ai_lkp F.2.2.2 pc = some (.bastore, 1)) (hk : G.1 c = 12) (hb : ai_in i (G.2.1 c)) (hp : pc + 1 = pc') (h : ai_Go t F call post pc' lo r B (va_up I c (va_up (I c) i.toNatClampNeg x.toInt8.toInt32)) J Rf G) : ai_Go t F call post pc lo (.inl x :: .inl i :: .inr (.inr c) :: r) B I J Rf G := by
  subst hp
  obtain ⟨m, h⟩ := h
  exact ⟨m + 1, go_1 hi ⟨hk, hb, h⟩⟩
theorem go_lastore {i : Int32} {x : Int64} {c : Nat} (hi : ai_lkp F.2.2.2 pc = some (.lastore, 1)) (hk : G.1 c = 14) (hb : ai_in i (G.2.1 c)) (hp : pc + 1 = pc') (h : ai_Go t F call post pc' lo r B I (va_up J c (va_up (J c) i.toNatClampNeg x)) Rf G) : ai_Go t F call post pc lo (.inr (.inl x) :: .inl i :: .inr (.inr c) :: r) B I J Rf G := by
  subst hp
  obtain ⟨m, h⟩ := h
  exact ⟨m + 1, go_1 hi ⟨hk, hb, h⟩⟩
theorem go_aastore {i : Int32} {x c : Nat} (hi : ai_lkp F.2.2.2 pc = some (.aastore, 1)) (hk : G.1 c = 15) (hb : ai_in i (G.2.1 c)) (hx : G.1 x = 8) (hp : pc + 1 = pc') (h : ai_Go t F call post pc' lo r B I J (va_up Rf c (va_up (Rf c) i.toNatClampNeg x)) G) : ai_Go t F call post pc lo (.inr (.inr x) :: .inl i :: .inr (.inr c) :: r) B I J Rf G := by
  subst hp
  obtain ⟨m, h⟩ := h
  exact ⟨m + 1, go_1 hi ⟨hk, hb, hx, h⟩⟩
theorem go_alen {c n : Nat} (hi : ai_lkp F.2.2.2 pc = some (.arraylength, 1)) (hk : ai_isA F.1 G.1 c) (hn : G.2.1 c = n) (hp : pc + 1 = pc') (h : ai_Go t F call post pc' lo (.inl (Int32.ofNat n) :: r) B I J Rf G) : ai_Go t F call post pc lo (.inr (.inr c) :: r) B I J Rf G := by
  subst hp
  subst hn
  obtain ⟨m, h⟩ := h
  exact ⟨m + 1, go_1 hi ⟨hk, h⟩⟩
theorem go_getI {ix c : Nat} {q j ty : Nat} {fin : Bool} (hi : ai_lkp F.2.2.2 pc = some (.getfield ix, 3)) (hf : ai_fld t F.1 ix = (q, j, ty, fin)) (h1 : ¬ ty = 1) (h2 : ¬ ty = 2) (hk : G.1 c = q) (hp : pc + 3 = pc') (h : ai_Go t F call post pc' lo (.inl (I c j) :: r) B I J Rf G) : ai_Go t F call post pc lo (.inr (.inr c) :: r) B I J Rf G := by
  subst hp
  obtain ⟨m, h⟩ := h
  exact ⟨m + 1, go_1 hi (by show ai_get t F ix pc lo (.inr (.inr c) :: r) B I J Rf G (ai_W t F call post [] m); unfold ai_get; rw [hf]; exact ⟨hk, (by split <;> first | (exfalso; exact h1 rfl) | (exfalso; exact h2 rfl) | exact h)⟩)⟩
theorem go_getJ {ix c : Nat} {q j : Nat} {fin : Bool} (hi : ai_lkp F.2.2.2 pc = some (.getfield ix, 3)) (hf : ai_fld t F.1 ix = (q, j, 1, fin)) (hk : G.1 c = q) (hp : pc + 3 = pc') (h : ai_Go t F call post pc' lo (.inr (.inl (J c j)) :: r) B I J Rf G) : ai_Go t F call post pc lo (.inr (.inr c) :: r) B I J Rf G := by
  subst hp
  obtain ⟨m, h⟩ := h
  exact ⟨m + 1, go_1 hi (by show ai_get t F ix pc lo (.inr (.inr c) :: r) B I J Rf G (ai_W t F call post [] m); unfold ai_get; rw [hf]; exact ⟨hk, h⟩)⟩
theorem go_getR {ix c : Nat} {q j : Nat} {fin : Bool} (hi : ai_lkp F.2.2.2 pc = some (.getfield ix, 3)) (hf : ai_fld t F.1 ix = (q, j, 2, fin)) (hk : G.1 c = q) (hp : pc + 3 = pc') (h : ai_Go t F call post pc' lo (.inr (.inr (Rf c j)) :: r) B I J Rf G) : ai_Go t F call post pc lo (.inr (.inr c) :: r) B I J Rf G := by
  subst hp
  obtain ⟨m, h⟩ := h
  exact ⟨m + 1, go_1 hi (by show ai_get t F ix pc lo (.inr (.inr c) :: r) B I J Rf G (ai_W t F call post [] m); unfold ai_get; rw [hf]; exact ⟨hk, h⟩)⟩
theorem go_putI {ix c q j : Nat} {fin : Bool} {x : Int32} (hi : ai_lkp F.2.2.2 pc = some (.putfield ix, 3)) (hf : ai_fld t F.1 ix = (q, j, 0, fin)) (hfin : fin = true → F.2.1 = true ∧ F.1 = q) (hk : G.1 c = q) (hp : pc + 3 = pc') (h : ai_Go t F call post pc' lo r B (va_up I c (va_up (I c) j x)) J Rf G) : ai_Go t F call post pc lo (.inl x :: .inr (.inr c) :: r) B I J Rf G := by
  subst hp
  obtain ⟨m, h⟩ := h
  exact ⟨m + 1, go_1 hi (by show ai_sto t F ix pc lo (.inl x :: .inr (.inr c) :: r) B I J Rf G (ai_W t F call post [] m); unfold ai_sto; rw [hf]; exact ⟨hfin, hk, h⟩)⟩
theorem go_putZ {ix c q j : Nat} {fin : Bool} {x : Int32} (hi : ai_lkp F.2.2.2 pc = some (.putfield ix, 3)) (hf : ai_fld t F.1 ix = (q, j, 3, fin)) (hfin : fin = true → F.2.1 = true ∧ F.1 = q) (hk : G.1 c = q) (hz : narrow .boolean (.int x) = .int x) (hp : pc + 3 = pc') (h : ai_Go t F call post pc' lo r B (va_up I c (va_up (I c) j x)) J Rf G) : ai_Go t F call post pc lo (.inl x :: .inr (.inr c) :: r) B I J Rf G := by
  subst hp
  obtain ⟨m, h⟩ := h
  exact ⟨m + 1, go_1 hi (by show ai_sto t F ix pc lo (.inl x :: .inr (.inr c) :: r) B I J Rf G (ai_W t F call post [] m); unfold ai_sto; rw [hf]; exact ⟨hfin, hk, ⟨hz, h⟩⟩)⟩
theorem go_putJ {ix c q j : Nat} {fin : Bool} {x : Int64} (hi : ai_lkp F.2.2.2 pc = some (.putfield ix, 3)) (hf : ai_fld t F.1 ix = (q, j, 1, fin)) (hfin : fin = true → F.2.1 = true ∧ F.1 = q) (hk : G.1 c = q) (hp : pc + 3 = pc') (h : ai_Go t F call post pc' lo r B I (va_up J c (va_up (J c) j x)) Rf G) : ai_Go t F call post pc lo (.inr (.inl x) :: .inr (.inr c) :: r) B I J Rf G := by
  subst hp
  obtain ⟨m, h⟩ := h
  exact ⟨m + 1, go_1 hi (by show ai_sto t F ix pc lo (.inr (.inl x) :: .inr (.inr c) :: r) B I J Rf G (ai_W t F call post [] m); unfold ai_sto; rw [hf]; exact ⟨hfin, hk, h⟩)⟩
theorem go_putR {ix c q j : Nat} {fin : Bool} {x : Nat} (hi : ai_lkp F.2.2.2 pc = some (.putfield ix, 3)) (hf : ai_fld t F.1 ix = (q, j, 2, fin)) (hfin : fin = true → F.2.1 = true ∧ F.1 = q) (hk : G.1 c = q) (hp : pc + 3 = pc') (h : ai_Go t F call post pc' lo r B I J (va_up Rf c (va_up (Rf c) j x)) G) : ai_Go t F call post pc lo (.inr (.inr x) :: .inr (.inr c) :: r) B I J Rf G := by
  subst hp
  obtain ⟨m, h⟩ := h
  exact ⟨m + 1, go_1 hi (by show ai_sto t F ix pc lo (.inr (.inr x) :: .inr (.inr c) :: r) B I J Rf G (ai_W t F call post [] m); unfold ai_sto; rw [hf]; exact ⟨hfin, hk, h⟩)⟩
theorem go_callV {ix y : Nat} {as : List ai_V} {v : Option ai_V} {I1 : ai_I} {J1 : ai_J} {R1 : ai_R} {G1 : ai_G} {st' : List ai_V} (hi : ai_lkp F.2.2.2 pc = some (.invokevirtual ix, 3)) (hy : ai_mth t F.1 ix = y) (n1 : y < 990 ∨ y = 997 ∨ y = 996) (hc : (ai_long (ai_nar t y) st && (Nat.ble (ai_bud t y).1 B.1 && (Nat.ble (ai_bud t y).2 B.2 && Nat.ble (ai_wgt (ai_drops (ai_nar t y) st)) 8))) = true)
    (ha : ai_rvs (ai_takes (ai_nar t y) st) [] = as) (hr : ai_recv (ai_rcv t y) as G.1) (hcl : call y as I J Rf G v I1 J1 R1 G1) (hs : v.toList ++ ai_drops (ai_nar t y) st = st') (hB : (B.1 - (ai_bud t y).1, B.2 - (ai_bud t y).2) = B') (hp : pc + 3 = pc') (h : ai_Go t F call post pc' lo st' B' I1 J1 R1 G1) : ai_Go t F call post pc lo st B I J Rf G := by
  subst hp
  subst hs
  subst hB
  subst ha
  obtain ⟨m, h⟩ := h
  refine ⟨m + 1, go_1 hi ?_⟩
  show ai_inv t F call ix pc lo st B I J Rf G (ai_W t F call post [] m)
  have key : ai_cll t call y pc lo st B I J Rf G (ai_W t F call post [] m) := by
    unfold ai_cll
    rw [hc]
    exact ⟨hr, v, I1, J1, R1, G1, hcl, h⟩
  unfold ai_inv
  rw [hy]
  split <;> first | (exfalso; omega) | exact key
theorem go_callI {ix y : Nat} {as : List ai_V} {v : Option ai_V} {I1 : ai_I} {J1 : ai_J} {R1 : ai_R} {G1 : ai_G} {st' : List ai_V} (hi : ai_lkp F.2.2.2 pc = some (.invokespecial ix, 3)) (hy : ai_mth t F.1 ix = y) (n1 : y < 990 ∨ y = 997 ∨ y = 996) (hc : (ai_long (ai_nar t y) st && (Nat.ble (ai_bud t y).1 B.1 && (Nat.ble (ai_bud t y).2 B.2 && Nat.ble (ai_wgt (ai_drops (ai_nar t y) st)) 8))) = true)
    (ha : ai_rvs (ai_takes (ai_nar t y) st) [] = as) (hr : ai_recv (ai_rcv t y) as G.1) (hcl : call y as I J Rf G v I1 J1 R1 G1) (hs : v.toList ++ ai_drops (ai_nar t y) st = st') (hB : (B.1 - (ai_bud t y).1, B.2 - (ai_bud t y).2) = B') (hp : pc + 3 = pc') (h : ai_Go t F call post pc' lo st' B' I1 J1 R1 G1) : ai_Go t F call post pc lo st B I J Rf G := by
  subst hp
  subst hs
  subst hB
  subst ha
  obtain ⟨m, h⟩ := h
  refine ⟨m + 1, go_1 hi ?_⟩
  show ai_inv t F call ix pc lo st B I J Rf G (ai_W t F call post [] m)
  have key : ai_cll t call y pc lo st B I J Rf G (ai_W t F call post [] m) := by
    unfold ai_cll
    rw [hc]
    exact ⟨hr, v, I1, J1, R1, G1, hcl, h⟩
  unfold ai_inv
  rw [hy]
  split <;> first | (exfalso; omega) | exact key
theorem go_callS {ix y : Nat} {as : List ai_V} {v : Option ai_V} {I1 : ai_I} {J1 : ai_J} {R1 : ai_R} {G1 : ai_G} {st' : List ai_V} (hi : ai_lkp F.2.2.2 pc = some (.invokestatic ix, 3)) (hy : ai_mth t F.1 ix = y) (n1 : y < 990 ∨ y = 997 ∨ y = 996) (hc : (ai_long (ai_nar t y) st && (Nat.ble (ai_bud t y).1 B.1 && (Nat.ble (ai_bud t y).2 B.2 && Nat.ble (ai_wgt (ai_drops (ai_nar t y) st)) 8))) = true)
    (ha : ai_rvs (ai_takes (ai_nar t y) st) [] = as) (hr : ai_recv (ai_rcv t y) as G.1) (hcl : call y as I J Rf G v I1 J1 R1 G1) (hs : v.toList ++ ai_drops (ai_nar t y) st = st') (hB : (B.1 - (ai_bud t y).1, B.2 - (ai_bud t y).2) = B') (hp : pc + 3 = pc') (h : ai_Go t F call post pc' lo st' B' I1 J1 R1 G1) : ai_Go t F call post pc lo st B I J Rf G := by
  subst hp
  subst hs
  subst hB
  subst ha
  obtain ⟨m, h⟩ := h
  refine ⟨m + 1, go_1 hi ?_⟩
  show ai_inv t F call ix pc lo st B I J Rf G (ai_W t F call post [] m)
  have key : ai_cll t call y pc lo st B I J Rf G (ai_W t F call post [] m) := by
    unfold ai_cll
    rw [hc]
    exact ⟨hr, v, I1, J1, R1, G1, hcl, h⟩
  unfold ai_inv
  rw [hy]
  split <;> first | (exfalso; omega) | exact key
theorem go_obj {ix : Nat} {c : Nat} (hi : ai_lkp F.2.2.2 pc = some (.invokespecial ix, 3)) (hy : ai_mth t F.1 ix = 999) (h0 : ¬ c = 0) (hw : ai_wgt r ≤ 8) (hp : pc + 3 = pc') (h : ai_Go t F call post pc' lo r B I J Rf G) : ai_Go t F call post pc lo (.inr (.inr c) :: r) B I J Rf G := by
  subst hp
  obtain ⟨m, h⟩ := h
  refine ⟨m + 1, go_1 hi ?_⟩
  show ai_inv t F call ix pc lo (.inr (.inr c) :: r) B I J Rf G (ai_W t F call post [] m)
  unfold ai_inv
  rw [hy]
  exact ⟨h0, hw, h⟩
theorem go_copy {ix : Nat} {n dp sp : Int32} {c0 c : Nat} (hi : ai_lkp F.2.2.2 pc = some (.invokestatic ix, 3)) (hy : ai_mth t F.1 ix = 998) (hok : ai_cpyOk G.1 G.2.1 c0 c sp dp n) (hw : ai_wgt r ≤ 8) (hp : pc + 3 = pc') (h : ai_Go t F call post pc' lo r B (va_up I c (va_cpy (I c0) (I c) sp.toNatClampNeg dp.toNatClampNeg n.toNatClampNeg)) J Rf G) : ai_Go t F call post pc lo (.inl n :: .inl dp :: .inr (.inr c) :: .inl sp :: .inr (.inr c0) :: r) B I J Rf G := by
  subst hp
  obtain ⟨m, h⟩ := h
  refine ⟨m + 1, go_1 hi ?_⟩
  show ai_inv t F call ix pc lo (.inl n :: .inl dp :: .inr (.inr c) :: .inl sp :: .inr (.inr c0) :: r) B I J Rf G (ai_W t F call post [] m)
  unfold ai_inv
  rw [hy]
  exact ⟨hok, hw, h⟩
theorem go_max {ix : Nat} {x y : Int32} (hi : ai_lkp F.2.2.2 pc = some (.invokestatic ix, 3)) (hy : ai_mth t F.1 ix = 995) (hw : ai_wgt r ≤ 8) (hp : pc + 3 = pc') (h : ai_Go t F call post pc' lo (.inl (if x < y then y else x) :: r) B I J Rf G) : ai_Go t F call post pc lo (.inl y :: .inl x :: r) B I J Rf G := by
  subst hp
  obtain ⟨m, h⟩ := h
  refine ⟨m + 1, go_1 hi ?_⟩
  show ai_inv t F call ix pc lo (.inl y :: .inl x :: r) B I J Rf G (ai_W t F call post [] m)
  unfold ai_inv
  rw [hy]
  exact ⟨hw, h⟩
theorem go_min {ix : Nat} {x y : Int32} (hi : ai_lkp F.2.2.2 pc = some (.invokestatic ix, 3)) (hy : ai_mth t F.1 ix = 994) (hw : ai_wgt r ≤ 8) (hp : pc + 3 = pc') (h : ai_Go t F call post pc' lo (.inl (if y < x then y else x) :: r) B I J Rf G) : ai_Go t F call post pc lo (.inl y :: .inl x :: r) B I J Rf G := by
  subst hp
  obtain ⟨m, h⟩ := h
  refine ⟨m + 1, go_1 hi ?_⟩
  show ai_inv t F call ix pc lo (.inl y :: .inl x :: r) B I J Rf G (ai_W t F call post [] m)
  unfold ai_inv
  rw [hy]
  exact ⟨hw, h⟩
theorem go_abs {ix : Nat} {x : Int32} (hi : ai_lkp F.2.2.2 pc = some (.invokestatic ix, 3)) (hy : ai_mth t F.1 ix = 993) (hw : ai_wgt r ≤ 8) (hp : pc + 3 = pc') (h : ai_Go t F call post pc' lo (.inl (if 0 ≤ x then x else 0 - x) :: r) B I J Rf G) : ai_Go t F call post pc lo (.inl x :: r) B I J Rf G := by
  subst hp
  obtain ⟨m, h⟩ := h
  refine ⟨m + 1, go_1 hi ?_⟩
  show ai_inv t F call ix pc lo (.inl x :: r) B I J Rf G (ai_W t F call post [] m)
  unfold ai_inv
  rw [hy]
  exact ⟨hw, h⟩
theorem go_new {ix q nf : Nat} (hi : ai_lkp F.2.2.2 pc = some (.new ix, 3)) (hq : ai_cls t F.1 ix = q) (hn : ai_nfd t q = nf) (h1 : 1 ≤ B.1) (h2 : nf ≤ B.2) (h9 : G.2.2 < 900) (hp : pc + 3 = pc') (h : ai_Go t F call post pc' lo (.inr (.inr (G.2.2 + 1)) :: st) (B.1 - 1, B.2 - nf) (va_up I (G.2.2 + 1) (fun _ => 0)) (va_up J (G.2.2 + 1) (fun _ => 0)) (va_up Rf (G.2.2 + 1) (fun _ => 0)) (va_up G.1 (G.2.2 + 1) q, G.2.1, G.2.2 + 1)) : ai_Go t F call post pc lo st B I J Rf G := by
  subst hp
  subst hn
  subst hq
  obtain ⟨m, h⟩ := h
  exact ⟨m + 1, go_1 hi ⟨h1, h2, h9, h⟩⟩
theorem go_newB {n : Int32} {N : Nat} (hi : ai_lkp F.2.2.2 pc = some (.newarray .byte, 2)) (h0 : ¬ n < 0) (hN : n.toNatClampNeg = N) (h1 : 1 ≤ B.1) (h2 : N ≤ B.2) (h3 : N ≤ 10000000) (h9 : G.2.2 < 900) (hp : pc + 2 = pc') (h : ai_Go t F call post pc' lo (.inr (.inr (G.2.2 + 1)) :: r) (B.1 - 1, B.2 - N) (va_up I (G.2.2 + 1) (fun _ => 0)) J Rf (va_up G.1 (G.2.2 + 1) 12, va_up G.2.1 (G.2.2 + 1) N, G.2.2 + 1)) : ai_Go t F call post pc lo (.inl n :: r) B I J Rf G := by
  subst hp
  subst hN
  obtain ⟨m, h⟩ := h
  exact ⟨m + 1, go_1 hi ⟨h0, h1, h2, h3, h9, h⟩⟩
theorem go_newI {n : Int32} {N : Nat} (hi : ai_lkp F.2.2.2 pc = some (.newarray .int, 2)) (h0 : ¬ n < 0) (hN : n.toNatClampNeg = N) (h1 : 1 ≤ B.1) (h2 : N ≤ B.2) (h3 : N ≤ 10000000) (h9 : G.2.2 < 900) (hp : pc + 2 = pc') (h : ai_Go t F call post pc' lo (.inr (.inr (G.2.2 + 1)) :: r) (B.1 - 1, B.2 - N) (va_up I (G.2.2 + 1) (fun _ => 0)) J Rf (va_up G.1 (G.2.2 + 1) 13, va_up G.2.1 (G.2.2 + 1) N, G.2.2 + 1)) : ai_Go t F call post pc lo (.inl n :: r) B I J Rf G := by
  subst hp
  subst hN
  obtain ⟨m, h⟩ := h
  exact ⟨m + 1, go_1 hi ⟨h0, h1, h2, h3, h9, h⟩⟩
theorem go_newJ {n : Int32} {N : Nat} (hi : ai_lkp F.2.2.2 pc = some (.newarray .long, 2)) (h0 : ¬ n < 0) (hN : n.toNatClampNeg = N) (h1 : 1 ≤ B.1) (h2 : N ≤ B.2) (h3 : N ≤ 10000000) (h9 : G.2.2 < 900) (hp : pc + 2 = pc') (h : ai_Go t F call post pc' lo (.inr (.inr (G.2.2 + 1)) :: r) (B.1 - 1, B.2 - N) I (va_up J (G.2.2 + 1) (fun _ => 0)) Rf (va_up G.1 (G.2.2 + 1) 14, va_up G.2.1 (G.2.2 + 1) N, G.2.2 + 1)) : ai_Go t F call post pc lo (.inl n :: r) B I J Rf G := by
  subst hp
  subst hN
  obtain ⟨m, h⟩ := h
  exact ⟨m + 1, go_1 hi ⟨h0, h1, h2, h3, h9, h⟩⟩
theorem go_newA {ix : Nat} {n : Int32} {N : Nat} (hi : ai_lkp F.2.2.2 pc = some (.anewarray ix, 3)) (hq : ai_cls t F.1 ix = 8) (h0 : ¬ n < 0) (hN : n.toNatClampNeg = N) (h1 : 1 ≤ B.1) (h2 : N ≤ B.2) (h3 : N ≤ 10000000) (h9 : G.2.2 < 900) (hp : pc + 3 = pc') (h : ai_Go t F call post pc' lo (.inr (.inr (G.2.2 + 1)) :: r) (B.1 - 1, B.2 - N) I J (va_up Rf (G.2.2 + 1) (fun _ => 0)) (va_up G.1 (G.2.2 + 1) 15, va_up G.2.1 (G.2.2 + 1) N, G.2.2 + 1)) : ai_Go t F call post pc lo (.inl n :: r) B I J Rf G := by
  subst hp
  subst hN
  obtain ⟨m, h⟩ := h
  exact ⟨m + 1, go_1 hi ⟨hq, h0, h1, h2, h3, h9, h⟩⟩
theorem go_iret {x : Int32} {ln : Nat} (hi : ai_lkp F.2.2.2 pc = some (.ireturn, ln)) (hf : ai_fitB F.2.2.1 x) (h : post (some (.inl x)) I J Rf G) : ai_Go t F call post pc lo [.inl x] B I J Rf G := ⟨1, go_1 hi ⟨hf, h⟩⟩
theorem go_lret {x : Int64} {ln : Nat} (hi : ai_lkp F.2.2.2 pc = some (.lreturn, ln)) (hf : F.2.2.1 = 1) (h : post (some (.inr (.inl x))) I J Rf G) : ai_Go t F call post pc lo [.inr (.inl x)] B I J Rf G := ⟨1, go_1 hi ⟨hf, h⟩⟩
theorem go_aret {x : Nat} {ln : Nat} (hi : ai_lkp F.2.2.2 pc = some (.areturn, ln)) (hf : F.2.2.1 = 2) (h : post (some (.inr (.inr x))) I J Rf G) : ai_Go t F call post pc lo [.inr (.inr x)] B I J Rf G := ⟨1, go_1 hi ⟨hf, h⟩⟩
theorem go_vret {ln : Nat} (hi : ai_lkp F.2.2.2 pc = some (.return_, ln)) (hf : F.2.2.1 = 9) (h : post none I J Rf G) : ai_Go t F call post pc lo [] B I J Rf G := ⟨1, go_1 hi ⟨hf, h⟩⟩
theorem go_nmI {x : Int32} (h : ∀ y : Int32, y = x → ai_Go t F call post pc lo (.inl y :: r) B I J Rf G) : ai_Go t F call post pc lo (.inl x :: r) B I J Rf G := h x rfl
theorem go_nmJ {x : Int64} (h : ∀ y : Int64, y = x → ai_Go t F call post pc lo (.inr (.inl y) :: r) B I J Rf G) : ai_Go t F call post pc lo (.inr (.inl x) :: r) B I J Rf G := h x rfl
theorem go_nmR {x : Nat} (h : ∀ y : Nat, y = x → ai_Go t F call post pc lo (.inr (.inr y) :: r) B I J Rf G) : ai_Go t F call post pc lo (.inr (.inr x) :: r) B I J Rf G := h x rfl
theorem go_iincN {i : Nat} {n : Int} {x y : Int32} {lo' : Int32 → List (Option ai_V)} (hi : ai_lkp F.2.2.2 pc = some (.iinc i n, 3)) (hv : ai_loc lo i = some (.inl x)) (hn : Int32.ofInt n = y) (hl : ∀ z, ai_put lo i (.inl z) = lo' z) (hp : pc + 3 = pc') (h : ∀ z : Int32, z = x + y → ai_Go t F call post pc' (lo' z) st B I J Rf G) : ai_Go t F call post pc lo st B I J Rf G := go_iinc hi hv hn (hl (x + y)) hp (h (x + y) rfl)
end
/-- a call's end: this answer, this memory -/
abbrev sp_Q (v : Option ai_V) (I1 : ai_I) (J1 : ai_J) (R1 : ai_R) (G1 : ai_G) : ai_Q := fun v2 I2 J2 R2 G2 => v2 = v ∧ I2 = I1 ∧ J2 = J1 ∧ R2 = R1 ∧ G2 = G1
/-- a method's own run gives its call -/
theorem sp_in {e y o rc nL : Nat} {ini : Bool} {cd : List (Nat × Instr × Nat)} {as : List ai_V} {lo : List (Option ai_V)} {B : Nat × Nat} {I : ai_I} {J : ai_J} {Rf : ai_R} {G : ai_G} {v : Option ai_V} {I1 : ai_I} {J1 : ai_J} {R1 : ai_R} {G1 : ai_G} (hms : si_ms y = some ((o, ini, rc, cd), nL)) (hw : ai_wgt as ≤ nL) (hl : ai_ent nL as = lo) (hB : si_bl y = B)
    (h : ai_Go si_t (o, ini, rc, cd) (ai_Cl si_t si_ms e) (sp_Q v I1 J1 R1 G1) 0 lo [] B I J Rf G) : ai_Cl si_t si_ms (e + 1) y as I J Rf G v I1 J1 R1 G1 := by
  subst hl
  subst hB
  show (match si_ms y with
    | some q => ai_wgt as ≤ q.2 ∧ ai_Go si_t q.1 (ai_Cl si_t si_ms e) (sp_Q v I1 J1 R1 G1) 0 (ai_ent q.2 as) [] (ai_bud si_t y) I J Rf G
    | none => 4 ≤ e ∧ ai_prm si_t y as v ∧ I1 = I ∧ J1 = J ∧ R1 = Rf ∧ G1 = G)
  rw [hms]
  exact ⟨hw, h⟩
