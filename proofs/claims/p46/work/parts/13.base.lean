/-! Out of whole's part 13.base, by wip/p46/extract.py. -/
def fsI {α ρ : Type} (F : Nat → α → α ⊕ ρ) : Nat → Nat → α → α ⊕ ρ
  | 0, _, a => .inl a
  | n + 1, i, a => match F i a with
    | .inl a2 => fsI F n (i + 1) a2
    | .inr r => .inr r
def ls {α ρ : Type} (F : Nat → α → α ⊕ ρ) : List Nat → α → α ⊕ ρ
  | [], a => .inl a
  | x :: l, a => match F x a with
    | .inl a2 => ls F l a2
    | .inr r => .inr r
/-- a fold without a stop -/
def fd {α : Type} (f : Nat → α → α) : List Nat → α → α
  | [], a => a
  | x :: l, a => fd f l (f x a)
theorem lp_in {σ ρ : Type} {b : σ → Option (σ ⊕ ρ)} {s s2 : σ} {n : Nat} (h : b s = some (.inl s2)) : lp b (n + 1) s = lp b n s2 := by
  show (match b s with
    | some (.inl s2) => lp b n s2
    | some (.inr r) => some r
    | none => none) = lp b n s2
  rw [h]
theorem lp_out {σ ρ : Type} {b : σ → Option (σ ⊕ ρ)} {s : σ} {r : ρ} {n : Nat} (h : b s = some (.inr r)) : lp b (n + 1) s = some r := by
  show (match b s with
    | some (.inl s2) => lp b n s2
    | some (.inr r) => some r
    | none => none) = some r
  rw [h]
/-- a loop by an index, with a stop, and what holds all the while -/
theorem lp_fs {σ ρ α : Type} {b : σ → Option (σ ⊕ ρ)} (enc : Nat → α → σ) (F : Nat → α → α ⊕ ρ) (fin : α → ρ) (P : Nat → α → Prop) (N : Nat)
    (hs : ∀ i a, i < N → P i a → (∀ a2, F i a = .inl a2 → P (i + 1) a2 ∧ b (enc i a) = some (.inl (enc (i + 1) a2))) ∧ (∀ r, F i a = .inr r → b (enc i a) = some (.inr r)))
    (he : ∀ a, P N a → b (enc N a) = some (.inr (fin a))) : ∀ (n i : Nat) (a : α) (fuel : Nat), i + n = N → P i a → n < fuel → lp b fuel (enc i a) = some (match fsI F n i a with | .inl a2 => fin a2 | .inr r => r)
  | 0, i, a, fuel, hi, hp, hf => by
    obtain ⟨f, rfl⟩ : ∃ f, fuel = f + 1 := ⟨fuel - 1, by omega⟩
    obtain rfl : i = N := by omega
    exact lp_out (he a hp)
  | n + 1, i, a, fuel, hi, hp, hf => by
    obtain ⟨f, rfl⟩ : ∃ f, fuel = f + 1 := ⟨fuel - 1, by omega⟩
    obtain ⟨h1, h2⟩ := hs i a (by omega) hp
    match hF : F i a with
    | .inl a2 =>
      obtain ⟨h3, h4⟩ := h1 a2 hF
      rw [lp_in h4, lp_fs enc F fin P N hs he n (i + 1) a2 f (by omega) h3 (by omega)]
      unfold fsI
      rw [hF]
      cases n <;> rfl
    | .inr r =>
      rw [lp_out (h2 r hF)]
      unfold fsI
      rw [hF]
theorem fsI_ls {α ρ : Type} (F : Nat → α → α ⊕ ρ) : ∀ (n i : Nat) (a : α), fsI F n i a = ls F (List.range' i n) a
  | 0, i, a => rfl
  | n + 1, i, a => by
    rw [List.range'_succ]
    unfold fsI ls
    match hF : F i a with
    | .inl a2 => exact fsI_ls F n (i + 1) a2
    | .inr r => rfl
theorem fsI_get {α ρ : Type} (F : Nat → α → α ⊕ ρ) (d : Nat) : ∀ (l p : List Nat) (a : α), fsI (fun i a => F ((p ++ l).getD i d) a) l.length p.length a = ls F l a
  | [], p, a => rfl
  | x :: l, p, a => by
    have hx : (p ++ x :: l).getD p.length d = x := by
      rw [List.getD_eq_getElem?_getD, List.getElem?_append_right (Nat.le_refl _)]
      simp
    have hp : p ++ x :: l = (p ++ [x]) ++ l := by simp
    show fsI (fun i a => F ((p ++ x :: l).getD i d) a) (l.length + 1) p.length a = ls F (x :: l) a
    unfold fsI ls
    rw [hx]
    match hF : F x a with
    | .inl a2 =>
      have h := fsI_get F d l (p ++ [x]) a2
      rw [List.length_append, List.length_singleton] at h
      rw [hp]
      exact h
    | .inr r => rfl
theorem ls_filter {α ρ : Type} (p : Nat → Bool) (F : Nat → α → α ⊕ ρ) : ∀ (l : List Nat) (a : α), ls (fun k a => if p k = true then F k a else .inl a) l a = ls F (l.filter p) a
  | [], a => rfl
  | x :: l, a => by
    by_cases hx : p x = true
    · rw [List.filter_cons_of_pos hx]
      unfold ls
      rw [if_pos hx]
      match hF : F x a with
      | .inl a2 => exact ls_filter p F l a2
      | .inr r => rfl
    · rw [List.filter_cons_of_neg hx]
      show (match (if p x = true then F x a else .inl a) with
        | .inl a2 => ls (fun k a => if p k = true then F k a else .inl a) l a2
        | .inr r => .inr r) = ls F (List.filter p l) a
      rw [if_neg hx]
      exact ls_filter p F l a
theorem ls_fd {α ρ : Type} (f : Nat → α → α) : ∀ (l : List Nat) (a : α), ls (ρ := ρ) (fun k a => .inl (f k a)) l a = .inl (fd f l a)
  | [], a => rfl
  | x :: l, a => by
    unfold ls fd
    exact ls_fd f l (f x a)
theorem fd_filter {α : Type} (p : Nat → Bool) (f : Nat → α → α) : ∀ (l : List Nat) (a : α), fd (fun k a => if p k = true then f k a else a) l a = fd f (l.filter p) a
  | [], a => rfl
  | x :: l, a => by
    by_cases hx : p x = true
    · rw [List.filter_cons_of_pos hx]
      unfold fd
      rw [if_pos hx]
      exact fd_filter p f l _
    · rw [List.filter_cons_of_neg hx]
      show fd (fun k a => if p k = true then f k a else a) l (if p x = true then f x a else a) = fd f (List.filter p l) a
      rw [if_neg hx]
      exact fd_filter p f l _
theorem fd_append {α : Type} (f : Nat → α → α) : ∀ (l l2 : List Nat) (a : α), fd f (l ++ l2) a = fd f l2 (fd f l a)
  | [], l2, a => rfl
  | x :: l, l2, a => by
    show fd f (l ++ l2) (f x a) = fd f l2 (fd f l (f x a))
    exact fd_append f l l2 _
theorem fd_congr {α : Type} {f g : Nat → α → α} : ∀ {l : List Nat} {a : α}, (∀ x ∈ l, ∀ a, f x a = g x a) → fd f l a = fd g l a
  | [], a, h => rfl
  | x :: l, a, h => by
    unfold fd
    rw [h x (List.mem_cons_self ..)]
    exact fd_congr (fun y hy => h y (List.mem_cons_of_mem _ hy))
/-- a loop by an index, to its end: 'f' is done for 0, 1 .. -/
theorem lp_fd {σ ρ α : Type} {b : σ → Option (σ ⊕ ρ)} (enc : Nat → α → σ) (f : Nat → α → α) (fin : α → ρ) (P : Nat → α → Prop) (N : Nat) (a : α)
    (hs : ∀ i a, i < N → P i a → P (i + 1) (f i a) ∧ b (enc i a) = some (.inl (enc (i + 1) (f i a))))
    (he : ∀ a, P N a → b (enc N a) = some (.inr (fin a))) (h0 : P 0 a) (hN : N < 2000000) : lp b o_N (enc 0 a) = some (fin (fd f (List.range N) a)) := by
  have h := lp_fs (ρ := ρ) enc (fun i a => .inl (f i a)) fin P N (fun i a hi hp => ⟨fun a2 e => (by cases e; exact hs i a hi hp), fun r e => (by cases e)⟩) he N 0 a o_N (by omega) h0 hN
  rw [fsI_ls, ls_fd, ← List.range_eq_range'] at h
  exact h
theorem fd_P {α : Type} {f : Nat → α → α} (P : α → Prop) : ∀ {l : List Nat} {a : α}, P a → (∀ x ∈ l, ∀ a, P a → P (f x a)) → P (fd f l a)
  | [], a, h, hs => h
  | x :: l, a, h, hs => fd_P P (l := l) (hs x (List.mem_cons_self ..) a h) (fun y hy => hs y (List.mem_cons_of_mem _ hy))
theorem i_lt {a b : Nat} (ha : a < 2147483648) (hb : b < 2147483648) : (nI a < nI b) = (a < b) := by
  apply propext
  constructor
  · intro h
    by_cases hc : a < b
    · exact hc
    · exact absurd h (nI_nlt (by omega) ha)
  · intro h
    exact nI_lt h hb
theorem i_le {a b : Nat} (ha : a < 2147483648) (hb : b < 2147483648) : (nI a ≤ nI b) = (a ≤ b) := by
  apply propext
  constructor
  · intro h
    by_cases hc : a ≤ b
    · exact hc
    · exact absurd h (nI_ge (by omega) ha)
  · intro h
    exact nI_le h hb
theorem i_eq {a b : Nat} (ha : a < 2147483648) (hb : b < 2147483648) : (nI a = nI b) = (a = b) := by
  apply propext
  constructor
  · intro h
    have h2 := congrArg Int32.toNatClampNeg h
    rw [nI_clamp ha, nI_clamp hb] at h2
    exact h2
  · intro h
    rw [h]
theorem i_cl {a : Nat} (ha : a < 2147483648) : (nI a).toNatClampNeg = a := nI_clamp ha
theorem i_n0 {a : Nat} (ha : a < 2147483648) : (nI a < 0) = False := eq_false (nI_pos ha)
theorem i_0le {a : Nat} (ha : a < 2147483648) : (0 ≤ nI a) = True := eq_true (nI_pos' ha)
theorem i_e0 {a : Nat} (ha : a < 2147483648) : (nI a = 0) = (a = 0) := i_eq (b := 0) ha (by decide)
theorem i_0lt {a : Nat} (ha : a < 2147483648) : (0 < nI a) = (0 < a) := i_lt (a := 0) (by decide) ha
theorem i_le0 {a : Nat} (ha : a < 2147483648) : (nI a ≤ 0) = (a = 0) := by
  rw [show (nI a ≤ 0) = (a ≤ 0) from i_le (b := 0) ha (by decide)]
  exact propext Nat.le_zero
theorem i_bv (a : Nat) : (nI a).toBitVec = BitVec.ofNat 32 a := rfl
theorem i_add (a b : Nat) : nI a + nI b = nI (a + b) := by
  apply Int32.toBitVec_inj.1
  rw [Int32.toBitVec_add, i_bv, i_bv, i_bv]
  exact (BitVec.ofNat_add ..).symm
theorem i_mul (a b : Nat) : nI a * nI b = nI (a * b) := by
  apply Int32.toBitVec_inj.1
  rw [Int32.toBitVec_mul, i_bv, i_bv, i_bv]
  exact (BitVec.ofNat_mul ..).symm
theorem i_sub {a b : Nat} (h : b ≤ a) : nI a - nI b = nI (a - b) := by
  have h2 : nI a = nI (a - b) + nI b := by
    rw [i_add, Nat.sub_add_cancel h]
  rw [h2]
  apply Int32.toBitVec_inj.1
  rw [Int32.toBitVec_sub, Int32.toBitVec_add]
  exact BitVec.add_sub_cancel _ _
theorem i_and (a b : Nat) : nI a &&& nI b = nI (a &&& b) := by
  apply Int32.toBitVec_inj.1
  rw [Int32.toBitVec_and, i_bv, i_bv, i_bv]
  apply BitVec.eq_of_getLsbD_eq
  intro i hi
  simp [BitVec.getLsbD_ofNat, hi]
theorem i_or (a b : Nat) : nI a ||| nI b = nI (a ||| b) := by
  apply Int32.toBitVec_inj.1
  rw [Int32.toBitVec_or, i_bv, i_bv, i_bv]
  apply BitVec.eq_of_getLsbD_eq
  intro i hi
  simp [BitVec.getLsbD_ofNat, hi]
theorem i_xor (a b : Nat) : nI a ^^^ nI b = nI (a ^^^ b) := by
  apply Int32.toBitVec_inj.1
  rw [Int32.toBitVec_xor, i_bv, i_bv, i_bv]
  apply BitVec.eq_of_getLsbD_eq
  intro i hi
  simp [BitVec.getLsbD_ofNat, hi]
/-- a without b -/
def sd (a b : Nat) : Nat := a ^^^ (a &&& b)
theorem sd_bit (a b i : Nat) : (sd a b).testBit i = (a.testBit i && !b.testBit i) := by
  unfold sd
  rw [Nat.testBit_xor, Nat.testBit_and]
  cases a.testBit i <;> cases b.testBit i <;> rfl
/-- Java's 'a & ~b' -/
theorem i_sd (a b : Nat) : nI a &&& (nI b ^^^ (-1 : Int32)) = nI (sd a b) := by
  have h2 : Int32.toBitVec (-1) = BitVec.allOnes 32 := by decide +kernel
  apply Int32.toBitVec_inj.1
  rw [Int32.toBitVec_and, Int32.toBitVec_xor, i_bv, i_bv, i_bv, h2]
  apply BitVec.eq_of_getLsbD_eq
  intro i hi
  rw [BitVec.getLsbD_and, BitVec.getLsbD_xor, BitVec.getLsbD_allOnes, BitVec.getLsbD_ofNat, BitVec.getLsbD_ofNat, BitVec.getLsbD_ofNat, sd_bit, decide_eq_true hi]
  cases a.testBit i <;> cases b.testBit i <;> rfl
theorem i_shl_all : ∀ k, k < 9 → ∀ a, a < 256 → nI a <<< (nI k &&& 31) = nI (a * 2 ^ k) := by decide +kernel
theorem i_shl {a k : Nat} (ha : a < 256) (hk : k < 9) : nI a <<< (nI k &&& 31) = nI (a * 2 ^ k) := i_shl_all k hk a ha
theorem i_shr_all : ∀ k, k < 9 → ∀ a, a < 256 → nI a >>> (nI k &&& 31) = nI (a / 2 ^ k) := by decide +kernel
theorem i_shr {a k : Nat} (ha : a < 256) (hk : k < 9) : nI a >>> (nI k &&& 31) = nI (a / 2 ^ k) := i_shr_all k hk a ha
/-- how many elements -/
def pc (k : Nat) : Nat := k % 2 + k / 2 % 2 + k / 4 % 2 + k / 8 % 2 + k / 16 % 2 + k / 32 % 2 + k / 64 % 2 + k / 128 % 2
theorem i_pow {k : Nat} (hk : k < 9) : 2 ^ k < 512 := by
  have : ∀ k, k < 9 → 2 ^ k < 512 := by decide
  exact this k hk
theorem bit_or_lt {a b : Nat} (ha : a < 256) (hb : b < 256) : a ||| b < 256 := Nat.or_lt_two_pow (n := 8) ha hb
theorem bit_and_lt {a b : Nat} (ha : a < 256) : a &&& b < 256 := Nat.lt_of_le_of_lt Nat.and_le_left ha
theorem bit_xor_lt {a b : Nat} (ha : a < 256) (hb : b < 256) : a ^^^ b < 256 := Nat.xor_lt_two_pow (n := 8) ha hb
/-- the bytecode's compare of longs -/
theorem j_clt (x y : Int64) : (ai_cmp x y < 0) = (x < y) := by
  unfold ai_cmp
  apply propext
  constructor
  · intro h
    by_cases h1 : y < x
    · rw [if_pos h1] at h
      exact absurd h (by decide)
    · rw [if_neg h1] at h
      by_cases h2 : x = y
      · rw [if_pos h2] at h
        exact absurd h (by decide)
      · rcases Int64.lt_or_eq_of_le (Int64.not_lt.1 h1) with h3 | h3
        · exact h3
        · exact absurd h3 h2
  · intro h
    rw [if_neg (fun h1 => Int64.lt_irrefl (Int64.lt_trans h h1)), if_neg (fun h2 => by subst h2; exact Int64.lt_irrefl h)]
    decide
theorem j_cgt (x y : Int64) : (0 < ai_cmp x y) = (y < x) := by
  unfold ai_cmp
  apply propext
  constructor
  · intro h
    by_cases h1 : y < x
    · exact h1
    · rw [if_neg h1] at h
      by_cases h2 : x = y
      · rw [if_pos h2] at h
        exact absurd h (by decide)
      · rw [if_neg h2] at h
        exact absurd h (by decide)
  · intro h
    rw [if_pos h]
    decide
theorem j_ceq (x y : Int64) : (ai_cmp x y = 0) = (x = y) := by
  unfold ai_cmp
  apply propext
  constructor
  · intro h
    by_cases h1 : y < x
    · rw [if_pos h1] at h
      exact absurd h (by decide)
    · rw [if_neg h1] at h
      by_cases h2 : x = y
      · exact h2
      · rw [if_neg h2] at h
        exact absurd h (by decide)
  · intro h
    subst h
    rw [if_neg Int64.lt_irrefl, if_pos rfl]
theorem o_b1_s {α γ : Type} (a : α) (f : α → Option γ) : o_b1 (some a) f = f a := rfl
theorem o_b2_s {α α2 γ : Type} (a : α) (b : α2) (f : α → α2 → Option γ) : o_b2 (some (a, b)) f = f a b := rfl
theorem o_b3_s {α α2 α3 γ : Type} (a : α) (b : α2) (c : α3) (f : α → α2 → α3 → Option γ) : o_b3 (some (a, b, c)) f = f a b c := rfl
theorem o_b4_s {α α2 α3 α4 γ : Type} (a : α) (b : α2) (c : α3) (d : α4) (f : α → α2 → α3 → α4 → Option γ) : o_b4 (some (a, b, c, d)) f = f a b c d := rfl
theorem o_s1_s {α γ : Type} (a : α) (f : α → Option γ) : o_s1 (some a) f = f a := rfl
theorem o_s2_l {α α2 γ : Type} (a : α) (f : α → Option γ) (f2 : α2 → Option γ) : o_s2 (some (.inl a)) f f2 = f a := rfl
theorem o_s2_r {α α2 γ : Type} (a : α2) (f : α → Option γ) (f2 : α2 → Option γ) : o_s2 (some (.inr a)) f f2 = f2 a := rfl
/-- a boolean's int -/
def bz (p : Prop) [Decidable p] : Int32 := if p then nI 1 else nI 0
theorem bz_t {p : Prop} [Decidable p] (h : p) : bz p = nI 1 := if_pos h
theorem bz_f {p : Prop} [Decidable p] (h : ¬ p) : bz p = nI 0 := if_neg h
theorem bz_0 {p : Prop} [Decidable p] : (bz p = 0) = ¬ p := by
  by_cases h : p
  · rw [bz_t h]
    exact propext ⟨fun h2 => absurd h2 (by decide), fun h2 => absurd h h2⟩
  · rw [bz_f h]
    exact propext ⟨fun _ => h, fun _ => rfl⟩
theorem bz_bz {p : Prop} [Decidable p] : o_bz (bz p) = true := by
  by_cases h : p
  · rw [bz_t h]
    rfl
  · rw [bz_f h]
    rfl
theorem bz_c {p q : Prop} [Decidable p] [Decidable q] (h : p ↔ q) : bz p = bz q := by
  by_cases hp : p
  · rw [bz_t hp, bz_t (h.1 hp)]
  · rw [bz_f hp, bz_f (fun hq => hp (h.2 hq))]
theorem x_cases (x : Int32) {n : Nat} (hn : n < 2147483648) : (∃ k, k ≤ n ∧ x = nI k) ∨ ¬ (nI 0 ≤ x ∧ x ≤ nI n) := by
  by_cases h : nI 0 ≤ x ∧ x ≤ nI n
  · exact Or.inl (nI_of2 (nI_toInt hn) (fun h2 => by
      have h3 := h.1
      exact absurd h2 (Int32.not_lt.2 h3)) h.2)
  · exact Or.inr h
section
variable {α : Type} {x y : α} {a b : Nat}
theorem q_00 : (if nI 0 = 0 then x else y) = x := if_pos rfl
theorem q_10 : (if nI 1 = 0 then x else y) = y := if_neg (by decide)
theorem q_leT (hb : b < 2147483648) (h : a ≤ b) : (if nI a ≤ nI b then x else y) = x := if_pos (nI_le h hb)
theorem q_leF (ha : a < 2147483648) (h : b < a) : (if nI a ≤ nI b then x else y) = y := if_neg (nI_ge h ha)
theorem q_ltT (hb : b < 2147483648) (h : a < b) : (if nI a < nI b then x else y) = x := if_pos (nI_lt h hb)
theorem q_ltF (ha : a < 2147483648) (h : b ≤ a) : (if nI a < nI b then x else y) = y := if_neg (nI_nlt h ha)
theorem q_eqT (h : a = b) : (if nI a = nI b then x else y) = x := if_pos (by rw [h])
theorem q_eqF (ha : a < 2147483648) (hb : b < 2147483648) (h : ¬ a = b) : (if nI a = nI b then x else y) = y := if_neg (fun h2 => h (by rw [i_eq ha hb] at h2; exact h2))
theorem q_eq (ha : a < 2147483648) (hb : b < 2147483648) : (if nI a = nI b then x else y) = (if a = b then x else y) := by
  by_cases h : a = b
  · rw [q_eqT h, if_pos h]
  · rw [q_eqF ha hb h, if_neg h]
theorem q_le (ha : a < 2147483648) (hb : b < 2147483648) : (if nI a ≤ nI b then x else y) = (if a ≤ b then x else y) := by
  by_cases h : a ≤ b
  · rw [q_leT hb h, if_pos h]
  · rw [q_leF ha (by omega), if_neg h]
theorem q_lt (ha : a < 2147483648) (hb : b < 2147483648) : (if nI a < nI b then x else y) = (if a < b then x else y) := by
  by_cases h : a < b
  · rw [q_ltT hb h, if_pos h]
  · rw [q_ltF ha (by omega), if_neg h]
theorem q_n0 (ha : a < 2147483648) : (if nI a < 0 then x else y) = y := if_neg (nI_pos ha)
theorem q_p0 (ha : a < 2147483648) : (if 0 ≤ nI a then x else y) = x := if_pos (nI_pos' ha)
theorem q_e0 (ha : a < 2147483648) : (if nI a = 0 then x else y) = (if a = 0 then x else y) := q_eq (b := 0) ha (by decide)
theorem q_0lt (ha : a < 2147483648) : (if 0 < nI a then x else y) = (if 0 < a then x else y) := q_lt (a := 0) (by decide) ha
theorem q_bz {p : Prop} [Decidable p] : (if bz p = 0 then x else y) = (if p then y else x) := by
  by_cases h : p
  · rw [if_pos h, if_neg (fun h2 => by rw [bz_0] at h2; exact h2 h)]
  · rw [if_neg h, if_pos (by rw [bz_0]; exact h)]
theorem q_jlt {c d : Int64} : (if ai_cmp c d < 0 then x else y) = (if c < d then x else y) := by
  by_cases h : c < d
  · rw [if_pos h, if_pos (by rw [j_clt]; exact h)]
  · rw [if_neg h, if_neg (fun h2 => by rw [j_clt] at h2; exact h h2)]
theorem q_jgt {c d : Int64} : (if 0 < ai_cmp c d then x else y) = (if d < c then x else y) := by
  by_cases h : d < c
  · rw [if_pos h, if_pos (by rw [j_cgt]; exact h)]
  · rw [if_neg h, if_neg (fun h2 => by rw [j_cgt] at h2; exact h h2)]
theorem q_jeq {c d : Int64} : (if ai_cmp c d = 0 then x else y) = (if c = d then x else y) := by
  by_cases h : c = d
  · rw [if_pos h, if_pos (by rw [j_ceq]; exact h)]
  · rw [if_neg h, if_neg (fun h2 => by rw [j_ceq] at h2; exact h h2)]
end
theorem lp_fd_s1 {σ ρ α γ : Type} {b : σ → Option (σ ⊕ ρ)} {g : ρ → Option γ} {y : Option γ} (enc : Nat → α → σ) (f : Nat → α → α) (fin : α → ρ) (P : Nat → α → Prop) (N : Nat) (a : α)
    (hs : ∀ i a, i < N → P i a → P (i + 1) (f i a) ∧ b (enc i a) = some (.inl (enc (i + 1) (f i a))))
    (he : ∀ a, P N a → b (enc N a) = some (.inr (fin a))) (h0 : P 0 a) (hN : N < 2000000) (hy : g (fin (fd f (List.range N) a)) = y) : o_s1 (lp b o_N (enc 0 a)) g = y := by
  rw [lp_fd enc f fin P N a hs he h0 hN]
  exact hy
theorem lp_fs_o {σ ρ α : Type} {b : σ → Option (σ ⊕ ρ)} (enc : Nat → α → σ) (F : Nat → α → α ⊕ ρ) (fin : α → ρ) (P : Nat → α → Prop) (N : Nat) (a : α)
    (hs : ∀ i a, i < N → P i a → (∀ a2, F i a = .inl a2 → P (i + 1) a2 ∧ b (enc i a) = some (.inl (enc (i + 1) a2))) ∧ (∀ r, F i a = .inr r → b (enc i a) = some (.inr r)))
    (he : ∀ a, P N a → b (enc N a) = some (.inr (fin a))) (h0 : P 0 a) (hN : N < 2000000) : lp b o_N (enc 0 a) = some (match ls F (List.range N) a with | .inl a2 => fin a2 | .inr r => r) := by
  have h := lp_fs enc F fin P N hs he N 0 a o_N (by omega) h0 hN
  rw [fsI_ls, ← List.range_eq_range'] at h
  exact h
theorem fd_cong {α : Type} {f : Nat → α → α} {l l2 : List Nat} {a b : α} (h : l = l2) (h2 : a = b) : fd f l a = fd f l2 b := by
  subst h
  subst h2
  rfl
theorem fd_rng {α : Type} (f : Nat → α → α) (d : Nat) : ∀ (l p : List Nat) (a : α), fd (fun i a => f ((p ++ l).getD i d) a) (List.range' p.length l.length) a = fd f l a
  | [], p, a => rfl
  | x :: l, p, a => by
    have hx : (p ++ x :: l).getD p.length d = x := by
      rw [List.getD_eq_getElem?_getD, List.getElem?_append_right (Nat.le_refl _)]
      simp
    have hp : p ++ x :: l = (p ++ [x]) ++ l := by simp
    rw [List.length_cons, List.range'_succ]
    show fd (fun i a => f ((p ++ x :: l).getD i d) a) (List.range' (p.length + 1) l.length) (f ((p ++ x :: l).getD p.length d) a) = fd f l (f x a)
    rw [hx]
    have h := fd_rng f d l (p ++ [x]) (f x a)
    rw [List.length_append, List.length_singleton] at h
    rw [hp]
    exact h
/-- a fold over places of a list is one over the list -/
theorem fd_get {α : Type} (f : Nat → α → α) (d : Nat) (l : List Nat) (a : α) : fd (fun i a => f (l.getD i d) a) (List.range l.length) a = fd f l a := by
  have h := fd_rng f d l [] a
  rw [List.range_eq_range']
  exact h
theorem ls_get {α ρ : Type} (F : Nat → α → α ⊕ ρ) (d : Nat) (l : List Nat) (a : α) : ls (fun i a => F (l.getD i d) a) (List.range l.length) a = ls F l a := by
  have h := fsI_get F d l [] a
  rw [fsI_ls] at h
  rw [List.range_eq_range']
  exact h
