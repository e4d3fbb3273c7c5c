/-! An abstract machine, small and total, for the bytecode of the class, the reference and the law: what one instruction asks and does (ai_stp), a run up to cut points (ai_W), a call (ai_Cl). Nothing here speaks of the claim's machine. -/
/-- a value: an int, a long, or a cell by its number (0: null) -/
abbrev ai_V : Type := Int32 ⊕ Int64 ⊕ Nat
/-- ints of fields and of arrays; longs; cells that cells name -/
abbrev ai_I : Type := Nat → Nat → Int32
abbrev ai_J : Type := Nat → Nat → Int64
abbrev ai_R : Type := Nat → Nat → Nat
/-- the kind of each cell, the length of each array, how many cells there are -/
abbrev ai_G : Type := (Nat → Nat) × (Nat → Nat) × Nat
abbrev ai_K : Type := Nat → List (Option ai_V) → List ai_V → Nat × Nat → ai_I → ai_J → ai_R → ai_G → Prop
abbrev ai_Q : Type := Option ai_V → ai_I → ai_J → ai_R → ai_G → Prop
abbrev ai_C : Type := Nat → List ai_V → ai_I → ai_J → ai_R → ai_G → Option ai_V → ai_I → ai_J → ai_R → ai_G → Prop
/-- the program's tables: fields (class, index: the cell's class, place, type 0 int 1 long 2 cell 3 boolean, final), methods (class, index: number), constants, classes made; of a method its arguments with the receiver, the receiver's class and one (0: none), what it may make; of a class its fields; of a cell its letters, if it is a string constant -/
abbrev ai_T : Type := (Nat → Nat → Nat × Nat × Nat × Bool) × (Nat → Nat → Nat) × (Nat → Nat → Option ai_V) × (Nat → Nat → Nat) × (Nat → Nat) × (Nat → Nat) × (Nat → Nat × Nat) × (Nat → Nat) × (Nat → Option (List Nat))
def ai_fld (t : ai_T) : Nat → Nat → Nat × Nat × Nat × Bool := t.1
def ai_mth (t : ai_T) : Nat → Nat → Nat := t.2.1
def ai_cst (t : ai_T) : Nat → Nat → Option ai_V := t.2.2.1
def ai_cls (t : ai_T) : Nat → Nat → Nat := t.2.2.2.1
def ai_nar (t : ai_T) : Nat → Nat := t.2.2.2.2.1
def ai_rcv (t : ai_T) : Nat → Nat := t.2.2.2.2.2.1
def ai_bud (t : ai_T) : Nat → Nat × Nat := t.2.2.2.2.2.2.1
def ai_nfd (t : ai_T) : Nat → Nat := t.2.2.2.2.2.2.2.1
def ai_txt (t : ai_T) : Nat → Option (List Nat) := t.2.2.2.2.2.2.2.2
/-- a method's frame: its class, whether it is a constructor, what it returns (as a field's type; 9: nothing), its code -/
abbrev ai_F : Type := Nat × Bool × Nat × List (Nat × Instr × Nat)
def ai_lkp {α : Type} : List (Nat × α) → Nat → Option α
  | [], _ => none
  | q :: l, k => if q.1 = k then some q.2 else ai_lkp l k
def ai_loc : List (Option ai_V) → Nat → Option ai_V
  | [], _ => none
  | v :: _, 0 => v
  | _ :: l, k + 1 => ai_loc l k
def ai_put1 : List (Option ai_V) → Nat → Option ai_V → List (Option ai_V)
  | [], _, _ => []
  | _ :: l, 0, v => v :: l
  | u :: l, k + 1, v => u :: ai_put1 l k v
def ai_isL : Option ai_V → Bool
  | some (.inr (.inl _)) => true
  | _ => false
/-- a long that ended where an int begins is gone -/
def ai_clr (l : List (Option ai_V)) (i : Nat) : List (Option ai_V) := match i with
  | 0 => l
  | j + 1 => match ai_isL (ai_loc l j) with
    | true => ai_put1 l j none
    | false => l
def ai_put (l : List (Option ai_V)) (i : Nat) (v : ai_V) : List (Option ai_V) := ai_put1 (ai_clr l i) i (some v)
def ai_putL (l : List (Option ai_V)) (i : Nat) (v : ai_V) : List (Option ai_V) := ai_put1 (ai_put1 (ai_clr l i) i (some v)) (i + 1) none
def ai_cat : ai_V → Nat
  | .inr (.inl _) => 2
  | _ => 1
def ai_wgt : List ai_V → Nat
  | [] => 0
  | v :: l => ai_cat v + ai_wgt l
def ai_in (i : Int32) (n : Nat) : Prop := ¬ (i < 0 ∨ n ≤ i.toNatClampNeg)
def ai_cnd (c : ClassFile.Cond) (x y : Int32) : Prop := match c with
  | .eq => x = y
  | .ne => ¬ x = y
  | .lt => x < y
  | .ge => y ≤ x
  | .gt => y < x
  | .le => x ≤ y
def ai_cmp (x y : Int64) : Int32 := if y < x then 1 else if x = y then 0 else -1
def ai_tgt (pc : Nat) (off : Int) : Nat := ((pc : Int) + off).toNat
def ai_1I (f : Int32 → Int32) (st : List ai_V) (k : List ai_V → Prop) : Prop := match st with
  | .inl x :: r => k (.inl (f x) :: r)
  | _ => False
def ai_2I (f : Int32 → Int32 → Int32) (st : List ai_V) (k : List ai_V → Prop) : Prop := match st with
  | .inl y :: .inl x :: r => k (.inl (f x y) :: r)
  | _ => False
def ai_2D (f : Int32 → Int32 → Int32) (st : List ai_V) (k : List ai_V → Prop) : Prop := match st with
  | .inl y :: .inl x :: r => ¬ y = 0 ∧ k (.inl (f x y) :: r)
  | _ => False
def ai_2J (f : Int64 → Int64 → Int64) (st : List ai_V) (k : List ai_V → Prop) : Prop := match st with
  | .inr (.inl y) :: .inr (.inl x) :: r => k (.inr (.inl (f x y)) :: r)
  | _ => False
def ai_2E (f : Int64 → Int64 → Int64) (st : List ai_V) (k : List ai_V → Prop) : Prop := match st with
  | .inr (.inl y) :: .inr (.inl x) :: r => ¬ y = 0 ∧ k (.inr (.inl (f x y)) :: r)
  | _ => False
def ai_ldI (l : List (Option ai_V)) (i : Nat) (k : ai_V → Prop) : Prop := match ai_loc l i with
  | some (.inl x) => k (.inl x)
  | _ => False
def ai_ldJ (l : List (Option ai_V)) (i : Nat) (k : ai_V → Prop) : Prop := match ai_loc l i with
  | some (.inr (.inl x)) => k (.inr (.inl x))
  | _ => False
def ai_ldR (l : List (Option ai_V)) (i : Nat) (k : ai_V → Prop) : Prop := match ai_loc l i with
  | some (.inr (.inr a)) => k (.inr (.inr a))
  | _ => False
def ai_stI (l : List (Option ai_V)) (i : Nat) (st : List ai_V) (k : List (Option ai_V) → List ai_V → Prop) : Prop := match st with
  | .inl x :: r => k (ai_put l i (.inl x)) r
  | _ => False
def ai_stJ (l : List (Option ai_V)) (i : Nat) (st : List ai_V) (k : List (Option ai_V) → List ai_V → Prop) : Prop := match st with
  | .inr (.inl x) :: r => k (ai_putL l i (.inr (.inl x))) r
  | _ => False
def ai_stR (l : List (Option ai_V)) (i : Nat) (st : List ai_V) (k : List (Option ai_V) → List ai_V → Prop) : Prop := match st with
  | .inr (.inr a) :: r => k (ai_put l i (.inr (.inr a))) r
  | _ => False
def ai_sw (x : Int32) (pc : Nat) (k : Nat → Prop) : Int → List Int → Prop
  | _, [] => True
  | lo, o :: os => (x.toInt = lo → k (ai_tgt pc o)) ∧ ai_sw x pc k (lo + 1) os
def ai_takes : Nat → List ai_V → List ai_V
  | 0, _ => []
  | _ + 1, [] => []
  | n + 1, v :: l => v :: ai_takes n l
def ai_drops : Nat → List ai_V → List ai_V
  | 0, l => l
  | _ + 1, [] => []
  | n + 1, _ :: l => ai_drops n l
def ai_rvs : List ai_V → List ai_V → List ai_V
  | [], acc => acc
  | v :: l, acc => ai_rvs l (v :: acc)
def ai_long : Nat → List ai_V → Bool
  | 0, _ => true
  | _ + 1, [] => false
  | n + 1, _ :: l => ai_long n l
/-- the receiver is a cell of its class -/
def ai_recv (rc : Nat) (as : List ai_V) (K : Nat → Nat) : Prop := match rc with
  | 0 => True
  | c + 1 => match as with
    | .inr (.inr a) :: _ => K a = c
    | _ => False
/-- a field's int: a boolean is 0 or 1 -/
def ai_fit (ty : Nat) (x : Int32) : Prop := match ty with
  | 0 => True
  | 3 => narrow .boolean (.int x) = .int x
  | _ => False
def ai_fitB (ty : Nat) (x : Int32) : Prop := match ty with
  | 0 => True
  | 3 => narrow .boolean (.int x) = .int x
  | 4 => narrow .byte (.int x) = .int x
  | 5 => narrow .char (.int x) = .int x
  | _ => False
/-- the bounds of System.arraycopy, and of the cells -/
def ai_cpyOk (K LN : Nat → Nat) (a0 a : Nat) (sp dp n : Int32) : Prop := K a0 = 13 ∧ K a = 13 ∧ ¬ sp < 0 ∧ ¬ dp < 0 ∧ ¬ n < 0 ∧ sp.toNatClampNeg + n.toNatClampNeg ≤ LN a0 ∧ dp.toNatClampNeg + n.toNatClampNeg ≤ LN a
/-- a call of method y -/
def ai_cll (t : ai_T) (call : ai_C) (y pc : Nat) (l : List (Option ai_V)) (st : List ai_V) (B : Nat × Nat) (I : ai_I) (J : ai_J) (R : ai_R) (G : ai_G) (k : ai_K) : Prop :=
  match ai_long (ai_nar t y) st && (Nat.ble (ai_bud t y).1 B.1 && (Nat.ble (ai_bud t y).2 B.2 && Nat.ble (ai_wgt (ai_drops (ai_nar t y) st)) 8)) with
  | true => ai_recv (ai_rcv t y) (ai_rvs (ai_takes (ai_nar t y) st) []) G.1 ∧ ∃ v I1 J1 R1 G1, call y (ai_rvs (ai_takes (ai_nar t y) st) []) I J R G v I1 J1 R1 G1 ∧
      k (pc + 3) l (v.toList ++ ai_drops (ai_nar t y) st) (B.1 - (ai_bud t y).1, B.2 - (ai_bud t y).2) I1 J1 R1 G1
  | false => False
def ai_inv (t : ai_T) (F : ai_F) (call : ai_C) (ix pc : Nat) (l : List (Option ai_V)) (st : List ai_V) (B : Nat × Nat) (I : ai_I) (J : ai_J) (R : ai_R) (G : ai_G) (k : ai_K) : Prop :=
  match ai_mth t F.1 ix with
  | 999 => (match st with
    | .inr (.inr a) :: r => ¬ a = 0 ∧ ai_wgt r ≤ 8 ∧ k (pc + 3) l r B I J R G
    | _ => False)
  | 998 => (match st with
    | .inl n :: .inl dp :: .inr (.inr a) :: .inl sp :: .inr (.inr a0) :: r => ai_cpyOk G.1 G.2.1 a0 a sp dp n ∧ ai_wgt r ≤ 8 ∧ k (pc + 3) l r B (va_up I a (va_cpy (I a0) (I a) sp.toNatClampNeg dp.toNatClampNeg n.toNatClampNeg)) J R G
    | _ => False)
  | 995 => (match st with
    | .inl y :: .inl x :: r => ai_wgt r ≤ 8 ∧ k (pc + 3) l (.inl (if x < y then y else x) :: r) B I J R G
    | _ => False)
  | 994 => (match st with
    | .inl y :: .inl x :: r => ai_wgt r ≤ 8 ∧ k (pc + 3) l (.inl (if y < x then y else x) :: r) B I J R G
    | _ => False)
  | 993 => (match st with
    | .inl x :: r => ai_wgt r ≤ 8 ∧ k (pc + 3) l (.inl (if 0 ≤ x then x else 0 - x) :: r) B I J R G
    | _ => False)
  | y => ai_cll t call y pc l st B I J R G k
def ai_get (t : ai_T) (F : ai_F) (ix pc : Nat) (l : List (Option ai_V)) (st : List ai_V) (B : Nat × Nat) (I : ai_I) (J : ai_J) (R : ai_R) (G : ai_G) (k : ai_K) : Prop :=
  match ai_fld t F.1 ix, st with
  | (c, j, ty, _), .inr (.inr a) :: r => G.1 a = c ∧ (match ty with
    | 1 => k (pc + 3) l (.inr (.inl (J a j)) :: r) B I J R G
    | 2 => k (pc + 3) l (.inr (.inr (R a j)) :: r) B I J R G
    | _ => k (pc + 3) l (.inl (I a j) :: r) B I J R G)
  | _, _ => False
def ai_sto (t : ai_T) (F : ai_F) (ix pc : Nat) (l : List (Option ai_V)) (st : List ai_V) (B : Nat × Nat) (I : ai_I) (J : ai_J) (R : ai_R) (G : ai_G) (k : ai_K) : Prop :=
  match ai_fld t F.1 ix, st with
  | (c, j, ty, fin), v :: .inr (.inr a) :: r => (fin = true → F.2.1 = true ∧ F.1 = c) ∧ G.1 a = c ∧ (match ty, v with
    | 1, .inr (.inl x) => k (pc + 3) l r B I (va_up J a (va_up (J a) j x)) R G
    | 2, .inr (.inr b) => k (pc + 3) l r B I J (va_up R a (va_up (R a) j b)) G
    | 0, .inl x => k (pc + 3) l r B (va_up I a (va_up (I a) j x)) J R G
    | 3, .inl x => narrow .boolean (.int x) = .int x ∧ k (pc + 3) l r B (va_up I a (va_up (I a) j x)) J R G
    | _, _ => False)
  | _, _ => False
/-- an array of ints; in the law (class 21) also the script, cell 1999 -/
def ai_isI (o : Nat) (K : Nat → Nat) (a : Nat) : Prop := match o with
  | 21 => K a = 13 ∨ a = 1999
  | _ => K a = 13
def ai_isA (o : Nat) (K : Nat → Nat) (a : Nat) : Prop := match o with
  | 21 => (12 ≤ K a ∧ K a ≤ 15) ∨ a = 1999
  | _ => 12 ≤ K a ∧ K a ≤ 15
/-- one instruction: what it asks, and what goes on behind it -/
def ai_stp (t : ai_T) (F : ai_F) (call : ai_C) (post : ai_Q) (op : Instr) (len pc : Nat) (l : List (Option ai_V)) (st : List ai_V) (B : Nat × Nat) (I : ai_I) (J : ai_J) (R : ai_R) (G : ai_G) (k : ai_K) : Prop :=
  match op with
  | .iconst n => k (pc + len) l (.inl (Int32.ofInt n) :: st) B I J R G
  | .bipush n => k (pc + len) l (.inl (Int8.ofInt n).toInt32 :: st) B I J R G
  | .sipush n => k (pc + len) l (.inl (Int16.ofInt n).toInt32 :: st) B I J R G
  | .lconst n => k (pc + len) l (.inr (.inl (Int64.ofNat n.val)) :: st) B I J R G
  | .aconst_null => k (pc + len) l (.inr (.inr 0) :: st) B I J R G
  | .ldc ix => (match ai_cst t F.1 ix with
    | some v => k (pc + len) l (v :: st) B I J R G
    | none => False)
  | .ldc_w ix => (match ai_cst t F.1 ix with
    | some v => k (pc + len) l (v :: st) B I J R G
    | none => False)
  | .ldc2_w ix => (match ai_cst t F.1 ix with
    | some v => k (pc + len) l (v :: st) B I J R G
    | none => False)
  | .iload i => ai_ldI l i (fun v => k (pc + len) l (v :: st) B I J R G)
  | .iload_n i => ai_ldI l i.val (fun v => k (pc + len) l (v :: st) B I J R G)
  | .lload i => ai_ldJ l i (fun v => k (pc + len) l (v :: st) B I J R G)
  | .lload_n i => ai_ldJ l i.val (fun v => k (pc + len) l (v :: st) B I J R G)
  | .aload i => ai_ldR l i (fun v => k (pc + len) l (v :: st) B I J R G)
  | .aload_n i => ai_ldR l i.val (fun v => k (pc + len) l (v :: st) B I J R G)
  | .istore i => ai_stI l i st (fun l st => k (pc + len) l st B I J R G)
  | .istore_n i => ai_stI l i.val st (fun l st => k (pc + len) l st B I J R G)
  | .lstore i => ai_stJ l i st (fun l st => k (pc + len) l st B I J R G)
  | .lstore_n i => ai_stJ l i.val st (fun l st => k (pc + len) l st B I J R G)
  | .astore i => ai_stR l i st (fun l st => k (pc + len) l st B I J R G)
  | .astore_n i => ai_stR l i.val st (fun l st => k (pc + len) l st B I J R G)
  | .iinc i n => (match ai_loc l i with
    | some (.inl x) => k (pc + len) (ai_put l i (.inl (x + Int32.ofInt n))) st B I J R G
    | _ => False)
  | .iadd => ai_2I (fun x y => x + y) st (fun st => k (pc + 1) l st B I J R G)
  | .isub => ai_2I (fun x y => x - y) st (fun st => k (pc + 1) l st B I J R G)
  | .imul => ai_2I (fun x y => x * y) st (fun st => k (pc + 1) l st B I J R G)
  | .iand => ai_2I (fun x y => x &&& y) st (fun st => k (pc + 1) l st B I J R G)
  | .ior => ai_2I (fun x y => x ||| y) st (fun st => k (pc + 1) l st B I J R G)
  | .ixor => ai_2I (fun x y => x ^^^ y) st (fun st => k (pc + 1) l st B I J R G)
  | .ishl => ai_2I (fun x y => x <<< (y &&& 31)) st (fun st => k (pc + 1) l st B I J R G)
  | .ishr => ai_2I (fun x y => x >>> (y &&& 31)) st (fun st => k (pc + 1) l st B I J R G)
  | .iushr => ai_2I (fun x y => (x.toUInt32 >>> (y.toUInt32 &&& Int32.toUInt32 31)).toInt32) st (fun st => k (pc + 1) l st B I J R G)
  | .ineg => ai_1I (fun x => -x) st (fun st => k (pc + 1) l st B I J R G)
  | .i2b => ai_1I (fun x => x.toInt8.toInt32) st (fun st => k (pc + 1) l st B I J R G)
  | .idiv => ai_2D (fun x y => x / y) st (fun st => k (pc + 1) l st B I J R G)
  | .irem => ai_2D (fun x y => x - x / y * y) st (fun st => k (pc + 1) l st B I J R G)
  | .ladd => ai_2J (fun x y => x + y) st (fun st => k (pc + 1) l st B I J R G)
  | .lsub => ai_2J (fun x y => x - y) st (fun st => k (pc + 1) l st B I J R G)
  | .lmul => ai_2J (fun x y => x * y) st (fun st => k (pc + 1) l st B I J R G)
  | .ldiv => ai_2E (fun x y => x / y) st (fun st => k (pc + 1) l st B I J R G)
  | .lrem => ai_2E (fun x y => x - x / y * y) st (fun st => k (pc + 1) l st B I J R G)
  | .i2l => (match st with
    | .inl x :: r => k (pc + 1) l (.inr (.inl x.toInt64) :: r) B I J R G
    | _ => False)
  | .lcmp => (match st with
    | .inr (.inl y) :: .inr (.inl x) :: r => k (pc + 1) l (.inl (ai_cmp x y) :: r) B I J R G
    | _ => False)
  | .dup => (match st with
    | .inl x :: r => k (pc + 1) l (.inl x :: .inl x :: r) B I J R G
    | .inr (.inr a) :: r => k (pc + 1) l (.inr (.inr a) :: .inr (.inr a) :: r) B I J R G
    | _ => False)
  | .dup2 => (match st with
    | .inl y :: .inr (.inr a) :: r => k (pc + 1) l (.inl y :: .inr (.inr a) :: .inl y :: .inr (.inr a) :: r) B I J R G
    | _ => False)
  | .pop => (match st with
    | .inl _ :: r => k (pc + 1) l r B I J R G
    | .inr (.inr _) :: r => k (pc + 1) l r B I J R G
    | _ => False)
  | .goto off => k (ai_tgt pc off) l st B I J R G
  | .ifCond c off => (match st with
    | .inl x :: r => (ai_cnd c x 0 → k (ai_tgt pc off) l r B I J R G) ∧ (¬ ai_cnd c x 0 → k (pc + 3) l r B I J R G)
    | _ => False)
  | .if_icmp c off => (match st with
    | .inl y :: .inl x :: r => (ai_cnd c x y → k (ai_tgt pc off) l r B I J R G) ∧ (¬ ai_cnd c x y → k (pc + 3) l r B I J R G)
    | _ => False)
  | .ifnull off => (match st with
    | .inr (.inr a) :: r => (a = 0 → k (ai_tgt pc off) l r B I J R G) ∧ (¬ a = 0 → k (pc + 3) l r B I J R G)
    | _ => False)
  | .ifnonnull off => (match st with
    | .inr (.inr a) :: r => (¬ a = 0 → k (ai_tgt pc off) l r B I J R G) ∧ (a = 0 → k (pc + 3) l r B I J R G)
    | _ => False)
  | .tableswitch d lo hi os => (match st with
    | .inl x :: r => (x.toInt < lo ∨ hi < x.toInt → k (ai_tgt pc d) l r B I J R G) ∧ ai_sw x pc (fun q => k q l r B I J R G) lo os.toList
    | _ => False)
  | .iaload => (match st with
    | .inl i :: .inr (.inr a) :: r => ai_isI F.1 G.1 a ∧ ai_in i (G.2.1 a) ∧ k (pc + 1) l (.inl (I a i.toNatClampNeg) :: r) B I J R G
    | _ => False)
  | .baload => (match st with
    | .inl i :: .inr (.inr a) :: r => G.1 a = 12 ∧ ai_in i (G.2.1 a) ∧ k (pc + 1) l (.inl (I a i.toNatClampNeg) :: r) B I J R G
    | _ => False)
  | .laload => (match st with
    | .inl i :: .inr (.inr a) :: r => G.1 a = 14 ∧ ai_in i (G.2.1 a) ∧ k (pc + 1) l (.inr (.inl (J a i.toNatClampNeg)) :: r) B I J R G
    | _ => False)
  | .aaload => (match st with
    | .inl i :: .inr (.inr a) :: r => G.1 a = 15 ∧ ai_in i (G.2.1 a) ∧ k (pc + 1) l (.inr (.inr (R a i.toNatClampNeg)) :: r) B I J R G
    | _ => False)
  | .iastore => (match st with
    | .inl x :: .inl i :: .inr (.inr a) :: r => G.1 a = 13 ∧ ai_in i (G.2.1 a) ∧ k (pc + 1) l r B (va_up I a (va_up (I a) i.toNatClampNeg x)) J R G
    | _ => False)
  | .bastore => (match st with
    | .inl x :: .inl i :: .inr (.inr a) :: r => G.1 a = 12 ∧ ai_in i (G.2.1 a) ∧ k (pc + 1) l r B (va_up I a (va_up (I a) i.toNatClampNeg x.toInt8.toInt32)) J R G
    | _ => False)
  | .lastore => (match st with
    | .inr (.inl x) :: .inl i :: .inr (.inr a) :: r => G.1 a = 14 ∧ ai_in i (G.2.1 a) ∧ k (pc + 1) l r B I (va_up J a (va_up (J a) i.toNatClampNeg x)) R G
    | _ => False)
  | .aastore => (match st with
    | .inr (.inr b) :: .inl i :: .inr (.inr a) :: r => G.1 a = 15 ∧ ai_in i (G.2.1 a) ∧ G.1 b = 8 ∧ k (pc + 1) l r B I J (va_up R a (va_up (R a) i.toNatClampNeg b)) G
    | _ => False)
  | .arraylength => (match st with
    | .inr (.inr a) :: r => ai_isA F.1 G.1 a ∧ k (pc + 1) l (.inl (Int32.ofNat (G.2.1 a)) :: r) B I J R G
    | _ => False)
  | .getfield ix => ai_get t F ix pc l st B I J R G k
  | .putfield ix => ai_sto t F ix pc l st B I J R G k
  | .invokevirtual ix => ai_inv t F call ix pc l st B I J R G k
  | .invokespecial ix => ai_inv t F call ix pc l st B I J R G k
  | .invokestatic ix => ai_inv t F call ix pc l st B I J R G k
  | .newarray ty => (match st with
    | .inl n :: r => ¬ n < 0 ∧ 1 ≤ B.1 ∧ n.toNatClampNeg ≤ B.2 ∧ n.toNatClampNeg ≤ 10000000 ∧ G.2.2 < 900 ∧ (match ty with
      | .byte => k (pc + len) l (.inr (.inr (G.2.2 + 1)) :: r) (B.1 - 1, B.2 - n.toNatClampNeg) (va_up I (G.2.2 + 1) (fun _ => 0)) J R (va_up G.1 (G.2.2 + 1) 12, va_up G.2.1 (G.2.2 + 1) n.toNatClampNeg, G.2.2 + 1)
      | .int => k (pc + len) l (.inr (.inr (G.2.2 + 1)) :: r) (B.1 - 1, B.2 - n.toNatClampNeg) (va_up I (G.2.2 + 1) (fun _ => 0)) J R (va_up G.1 (G.2.2 + 1) 13, va_up G.2.1 (G.2.2 + 1) n.toNatClampNeg, G.2.2 + 1)
      | .long => k (pc + len) l (.inr (.inr (G.2.2 + 1)) :: r) (B.1 - 1, B.2 - n.toNatClampNeg) I (va_up J (G.2.2 + 1) (fun _ => 0)) R (va_up G.1 (G.2.2 + 1) 14, va_up G.2.1 (G.2.2 + 1) n.toNatClampNeg, G.2.2 + 1)
      | _ => False)
    | _ => False)
  | .anewarray ix => (match st with
    | .inl n :: r => ai_cls t F.1 ix = 8 ∧ ¬ n < 0 ∧ 1 ≤ B.1 ∧ n.toNatClampNeg ≤ B.2 ∧ n.toNatClampNeg ≤ 10000000 ∧ G.2.2 < 900 ∧ k (pc + len) l (.inr (.inr (G.2.2 + 1)) :: r) (B.1 - 1, B.2 - n.toNatClampNeg) I J (va_up R (G.2.2 + 1) (fun _ => 0)) (va_up G.1 (G.2.2 + 1) 15, va_up G.2.1 (G.2.2 + 1) n.toNatClampNeg, G.2.2 + 1)
    | _ => False)
  | .new ix => 1 ≤ B.1 ∧ ai_nfd t (ai_cls t F.1 ix) ≤ B.2 ∧ G.2.2 < 900 ∧ k (pc + len) l (.inr (.inr (G.2.2 + 1)) :: st) (B.1 - 1, B.2 - ai_nfd t (ai_cls t F.1 ix)) (va_up I (G.2.2 + 1) (fun _ => 0)) (va_up J (G.2.2 + 1) (fun _ => 0)) (va_up R (G.2.2 + 1) (fun _ => 0)) (va_up G.1 (G.2.2 + 1) (ai_cls t F.1 ix), G.2.1, G.2.2 + 1)
  | .ireturn => (match st with
    | [.inl x] => ai_fitB F.2.2.1 x ∧ post (some (.inl x)) I J R G
    | _ => False)
  | .lreturn => (match st with
    | [.inr (.inl x)] => F.2.2.1 = 1 ∧ post (some (.inr (.inl x))) I J R G
    | _ => False)
  | .areturn => (match st with
    | [.inr (.inr a)] => F.2.2.1 = 2 ∧ post (some (.inr (.inr a))) I J R G
    | _ => False)
  | .return_ => (match st with
    | [] => F.2.2.1 = 9 ∧ post none I J R G
    | _ => False)
  | _ => False
/-- cut points: what must hold there -/
abbrev ai_U : Type := List (Nat × (List (Option ai_V) → List ai_V → Nat × Nat → ai_I → ai_J → ai_R → ai_G → Prop))
def ai_W (t : ai_T) (F : ai_F) (call : ai_C) (post : ai_Q) (cut : ai_U) : Nat → ai_K
  | 0 => fun _ _ _ _ _ _ _ _ => False
  | n + 1 => fun pc l st B I J R G => match ai_lkp cut pc with
    | some Z => Z l st B I J R G
    | none => match ai_lkp F.2.2.2 pc with
      | some q => ai_stp t F call post q.1 q.2 pc l st B I J R G (ai_W t F call post cut n)
      | none => False
/-- from a cut point on: its own instruction first -/
def ai_W1 (t : ai_T) (F : ai_F) (call : ai_C) (post : ai_Q) (cut : ai_U) (n : Nat) : ai_K := fun pc l st B I J R G => match ai_lkp F.2.2.2 pc with
  | some q => ai_stp t F call post q.1 q.2 pc l st B I J R G (ai_W t F call post cut n)
  | none => False
/-- it goes on to an end -/
def ai_Go (t : ai_T) (F : ai_F) (call : ai_C) (post : ai_Q) : ai_K := fun pc l st B I J R G => ∃ n, ai_W t F call post [] n pc l st B I J R G
def ai_ent : Nat → List ai_V → List (Option ai_V)
  | 0, _ => []
  | n + 1, [] => none :: ai_ent n []
  | n + 1, .inr (.inl x) :: l => some (.inr (.inl x)) :: (match n with
    | 0 => []
    | m + 1 => none :: ai_ent m l)
  | n + 1, v :: l => some v :: ai_ent n l
/-- String.length (997) and charAt (996) of a string constant -/
def ai_prm (t : ai_T) (y : Nat) (as : List ai_V) (v : Option ai_V) : Prop := match y, as with
  | 997, [.inr (.inr a)] => ∃ tx, ai_txt t a = some tx ∧ v = some (.inl (Int32.ofNat tx.length))
  | 996, [.inr (.inr a), .inl i] => ∃ tx, ai_txt t a = some tx ∧ ai_in i tx.length ∧ v = some (.inl (Int32.ofNat (tx.getD i.toNatClampNeg 0)))
  | _, _ => False
def ai_Cl (t : ai_T) (ms : Nat → Option (ai_F × Nat)) : Nat → ai_C
  | 0 => fun _ _ _ _ _ _ _ _ _ _ _ => False
  | d + 1 => fun y as I J R G v I1 J1 R1 G1 => match ms y with
    | some q => ai_wgt as ≤ q.2 ∧ ai_Go t q.1 (ai_Cl t ms d) (fun v2 I2 J2 R2 G2 => v2 = v ∧ I2 = I1 ∧ J2 = J1 ∧ R2 = R1 ∧ G2 = G1) 0 (ai_ent q.2 as) [] (ai_bud t y) I J R G
    | none => 4 ≤ d ∧ ai_prm t y as v ∧ I1 = I ∧ J1 = J ∧ R1 = R ∧ G1 = G
