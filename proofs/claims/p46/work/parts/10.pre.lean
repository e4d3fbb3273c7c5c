/-! Models in Option: what a method's code computes, with its guards; a model's result is a call's result (md_..). -/
/-- more turns than any loop takes -/
def o_N : Nat := 2000000
def o_g {α : Type} (c : Bool) (k : Option α) : Option α := match c with
  | true => k
  | false => none
theorem o_gE {α : Type} {c : Bool} {k : Option α} {r : α} (h : o_g c k = some r) : c = true ∧ k = some r := by
  cases c with
  | true => exact ⟨rfl, h⟩
  | false => cases h
def o_b1 {α γ : Type} (x : Option α) (f : α → Option γ) : Option γ := match x with
  | some a => f a
  | none => none
theorem o_b1E {α γ : Type} {x : Option α} {f : α → Option γ} {r : γ} (h : o_b1 x f = some r) : ∃ a, x = some a ∧ f a = some r := by
  cases x with
  | some a => exact ⟨a, rfl, h⟩
  | none => cases h
def o_b2 {α α2 γ : Type} (x : Option (α × α2)) (f : α → α2 → Option γ) : Option γ := match x with
  | some a => f a.1 a.2
  | none => none
theorem o_b2E {α α2 γ : Type} {x : Option (α × α2)} {f : α → α2 → Option γ} {r : γ} (h : o_b2 x f = some r) : ∃ a b, x = some (a, b) ∧ f a b = some r := by
  cases x with
  | some a => exact ⟨a.1, a.2, rfl, h⟩
  | none => cases h
def o_b3 {α α2 α3 γ : Type} (x : Option (α × α2 × α3)) (f : α → α2 → α3 → Option γ) : Option γ := match x with
  | some a => f a.1 a.2.1 a.2.2
  | none => none
theorem o_b3E {α α2 α3 γ : Type} {x : Option (α × α2 × α3)} {f : α → α2 → α3 → Option γ} {r : γ} (h : o_b3 x f = some r) : ∃ a b c, x = some (a, b, c) ∧ f a b c = some r := by
  cases x with
  | some a => exact ⟨a.1, a.2.1, a.2.2, rfl, h⟩
  | none => cases h
def o_b4 {α α2 α3 α4 γ : Type} (x : Option (α × α2 × α3 × α4)) (f : α → α2 → α3 → α4 → Option γ) : Option γ := match x with
  | some a => f a.1 a.2.1 a.2.2.1 a.2.2.2
  | none => none
theorem o_b4E {α α2 α3 α4 γ : Type} {x : Option (α × α2 × α3 × α4)} {f : α → α2 → α3 → α4 → Option γ} {r : γ} (h : o_b4 x f = some r) : ∃ a b c d, x = some (a, b, c, d) ∧ f a b c d = some r := by
  cases x with
  | some a => exact ⟨a.1, a.2.1, a.2.2.1, a.2.2.2, rfl, h⟩
  | none => cases h
def o_b5 {α α2 α3 α4 α5 γ : Type} (x : Option (α × α2 × α3 × α4 × α5)) (f : α → α2 → α3 → α4 → α5 → Option γ) : Option γ := match x with
  | some a => f a.1 a.2.1 a.2.2.1 a.2.2.2.1 a.2.2.2.2
  | none => none
theorem o_b5E {α α2 α3 α4 α5 γ : Type} {x : Option (α × α2 × α3 × α4 × α5)} {f : α → α2 → α3 → α4 → α5 → Option γ} {r : γ} (h : o_b5 x f = some r) : ∃ a b c d e, x = some (a, b, c, d, e) ∧ f a b c d e = some r := by
  cases x with
  | some a => exact ⟨a.1, a.2.1, a.2.2.1, a.2.2.2.1, a.2.2.2.2, rfl, h⟩
  | none => cases h
def o_s1 {α γ : Type} (x : Option α) (f : α → Option γ) : Option γ := match x with
  | some a => f a
  | none => none
theorem o_s1E {α γ : Type} {x : Option α} {f : α → Option γ} {r : γ} (h : o_s1 x f = some r) : ∃ q, x = some q ∧ (∀ a, q = a → f a = some r) := by
  cases x with
  | some a => exact ⟨a, rfl, fun b e => by subst e; exact h⟩
  | none => cases h
def o_s2 {α α2 γ : Type} (x : Option (α ⊕ α2)) (f : α → Option γ) (f2 : α2 → Option γ) : Option γ := match x with
  | some (.inl a) => f a
  | some (.inr a) => f2 a
  | none => none
theorem o_s2E {α α2 γ : Type} {x : Option (α ⊕ α2)} {f : α → Option γ} {f2 : α2 → Option γ} {r : γ} (h : o_s2 x f f2 = some r) : ∃ q, x = some q ∧ (∀ a, q = .inl a → f a = some r) ∧ (∀ a, q = .inr a → f2 a = some r) := by
  match x, h with
  | some (.inl a), h => exact ⟨_, rfl, fun b e => (by cases e; exact h), fun b e => (by cases e)⟩
  | some (.inr a), h => exact ⟨_, rfl, fun b e => (by cases e), fun b e => (by cases e; exact h)⟩
  | none, h => cases h
def o_s3 {α α2 α3 γ : Type} (x : Option (α ⊕ α2 ⊕ α3)) (f : α → Option γ) (f2 : α2 → Option γ) (f3 : α3 → Option γ) : Option γ := match x with
  | some (.inl a) => f a
  | some (.inr (.inl a)) => f2 a
  | some (.inr (.inr a)) => f3 a
  | none => none
theorem o_s3E {α α2 α3 γ : Type} {x : Option (α ⊕ α2 ⊕ α3)} {f : α → Option γ} {f2 : α2 → Option γ} {f3 : α3 → Option γ} {r : γ} (h : o_s3 x f f2 f3 = some r) : ∃ q, x = some q ∧ (∀ a, q = .inl a → f a = some r) ∧ (∀ a, q = .inr (.inl a) → f2 a = some r) ∧ (∀ a, q = .inr (.inr a) → f3 a = some r) := by
  match x, h with
  | some (.inl a), h => exact ⟨_, rfl, fun b e => (by cases e; exact h), fun b e => (by cases e), fun b e => (by cases e)⟩
  | some (.inr (.inl a)), h => exact ⟨_, rfl, fun b e => (by cases e), fun b e => (by cases e; exact h), fun b e => (by cases e)⟩
  | some (.inr (.inr a)), h => exact ⟨_, rfl, fun b e => (by cases e), fun b e => (by cases e), fun b e => (by cases e; exact h)⟩
  | none, h => cases h
def o_s4 {α α2 α3 α4 γ : Type} (x : Option (α ⊕ α2 ⊕ α3 ⊕ α4)) (f : α → Option γ) (f2 : α2 → Option γ) (f3 : α3 → Option γ) (f4 : α4 → Option γ) : Option γ := match x with
  | some (.inl a) => f a
  | some (.inr (.inl a)) => f2 a
  | some (.inr (.inr (.inl a))) => f3 a
  | some (.inr (.inr (.inr a))) => f4 a
  | none => none
theorem o_s4E {α α2 α3 α4 γ : Type} {x : Option (α ⊕ α2 ⊕ α3 ⊕ α4)} {f : α → Option γ} {f2 : α2 → Option γ} {f3 : α3 → Option γ} {f4 : α4 → Option γ} {r : γ} (h : o_s4 x f f2 f3 f4 = some r) : ∃ q, x = some q ∧ (∀ a, q = .inl a → f a = some r) ∧ (∀ a, q = .inr (.inl a) → f2 a = some r) ∧ (∀ a, q = .inr (.inr (.inl a)) → f3 a = some r) ∧ (∀ a, q = .inr (.inr (.inr a)) → f4 a = some r) := by
  match x, h with
  | some (.inl a), h => exact ⟨_, rfl, fun b e => (by cases e; exact h), fun b e => (by cases e), fun b e => (by cases e), fun b e => (by cases e)⟩
  | some (.inr (.inl a)), h => exact ⟨_, rfl, fun b e => (by cases e), fun b e => (by cases e; exact h), fun b e => (by cases e), fun b e => (by cases e)⟩
  | some (.inr (.inr (.inl a))), h => exact ⟨_, rfl, fun b e => (by cases e), fun b e => (by cases e), fun b e => (by cases e; exact h), fun b e => (by cases e)⟩
  | some (.inr (.inr (.inr a))), h => exact ⟨_, rfl, fun b e => (by cases e), fun b e => (by cases e), fun b e => (by cases e), fun b e => (by cases e; exact h)⟩
  | none, h => cases h
def lp {σ ρ : Type} (b : σ → Option (σ ⊕ ρ)) : Nat → σ → Option ρ
  | 0, _ => none
  | n + 1, s => match b s with
    | some (.inl s2) => lp b n s2
    | some (.inr r) => some r
    | none => none
theorem lp_go {σ ρ : Type} {b : σ → Option (σ ⊕ ρ)} {P : σ → Prop} {q : ρ} (hs : ∀ s x, b s = some x → ((∃ s2, x = .inl s2 ∧ P s2) ∨ x = .inr q) → P s) : ∀ n s, lp b n s = some q → P s
  | 0, s, h => by cases h
  | n + 1, s, h => by
    unfold lp at h
    match hb : b s, h with
    | some (.inl s2), h => exact hs s _ hb (Or.inl ⟨s2, rfl, lp_go hs n s2 h⟩)
    | some (.inr r), h =>
      cases h
      exact hs s _ hb (Or.inr rfl)
    | none, h => cases h
theorem lp_backE {σ ρ : Type} {P : σ → Prop} {x : σ ⊕ ρ} {s : σ} {q : ρ} (h : some (Sum.inl s) = some x) (hk : (∃ s2, x = .inl s2 ∧ P s2) ∨ x = .inr q) : P s := by
  cases h
  rcases hk with ⟨s2, e, hP⟩ | e
  · cases e
    exact hP
  · cases e
theorem lp_exitE {σ ρ : Type} {P : σ → Prop} {x : σ ⊕ ρ} {r : ρ} {q : ρ} (h : some (Sum.inr r) = some x) (hk : (∃ s2, x = .inl s2 ∧ P s2) ∨ x = .inr q) : r = q := by
  cases h
  rcases hk with ⟨s2, e, hP⟩ | e
  · cases e
  · cases e
    rfl
theorem o_t {c : Prop} [Decidable c] {α : Type} {x y z : α} (hc : c) (h : (if c then x else y) = z) : x = z := by
  rw [if_pos hc] at h
  exact h
theorem o_f {c : Prop} [Decidable c] {α : Type} {x y z : α} (hc : ¬ c) (h : (if c then x else y) = z) : y = z := by
  rw [if_neg hc] at h
  exact h
/-- a place of an array of this kind -/
def o_in (G : ai_G) (k a : Nat) (i : Int32) : Bool := Nat.beq (G.1 a) k && (decide (¬ i < 0) && decide (i.toNatClampNeg < G.2.1 a))
theorem o_inK {G : ai_G} {k a : Nat} {i : Int32} (h : o_in G k a i = true) : G.1 a = k := by
  unfold o_in at h
  rw [Bool.and_eq_true] at h
  exact Nat.eq_of_beq_eq_true h.1
theorem o_inB {G : ai_G} {k a : Nat} {i : Int32} (h : o_in G k a i = true) : ai_in i (G.2.1 a) := by
  unfold o_in at h
  rw [Bool.and_eq_true, Bool.and_eq_true] at h
  have h1 := of_decide_eq_true h.2.1
  have h2 := of_decide_eq_true h.2.2
  intro h3
  rcases h3 with h3 | h3
  · exact h1 h3
  · omega
theorem o_in_of {G : ai_G} {k a : Nat} {i : Int32} (h1 : G.1 a = k) (h2 : ¬ i < 0) (h3 : i.toNatClampNeg < G.2.1 a) : o_in G k a i = true := by
  unfold o_in
  rw [h1, decide_eq_true h2, decide_eq_true h3, Nat.beq_refl]
  rfl
/-- a cell of this kind -/
def o_kd (G : ai_G) (a k : Nat) : Bool := Nat.beq (G.1 a) k
theorem o_kdE {G : ai_G} {a k : Nat} (h : o_kd G a k = true) : G.1 a = k := Nat.eq_of_beq_eq_true h
theorem o_kd_of {G : ai_G} {a k : Nat} (h : G.1 a = k) : o_kd G a k = true := by
  unfold o_kd
  rw [h, Nat.beq_refl]
/-- a place of the law's script -/
def o_il (G : ai_G) (i : Int32) : Bool := decide (¬ i < 0) && decide (i.toNatClampNeg < G.2.1 1999)
theorem o_ilE {G : ai_G} {i : Int32} (h : o_il G i = true) : ai_in i (G.2.1 1999) := by
  unfold o_il at h
  rw [Bool.and_eq_true] at h
  have h1 := of_decide_eq_true h.1
  have h2 := of_decide_eq_true h.2
  intro h3
  rcases h3 with h3 | h3
  · exact h1 h3
  · omega
def o_bz (x : Int32) : Bool := decide (x = 0 ∨ x = 1)
theorem o_bzE {x : Int32} (h : o_bz x = true) : narrow .boolean (.int x) = .int x := by
  rcases of_decide_eq_true h with h | h
  · subst h
    rfl
  · subst h
    rfl
def o_nzI (x : Int32) : Bool := decide (¬ x = 0)
theorem o_nzIE {x : Int32} (h : o_nzI x = true) : ¬ x = 0 := of_decide_eq_true h
def o_nzJ (x : Int64) : Bool := decide (¬ x = 0)
theorem o_nzJE {x : Int64} (h : o_nzJ x = true) : ¬ x = 0 := of_decide_eq_true h
def o_nn (x : Nat) : Bool := decide (¬ x = 0)
theorem o_nnE {x : Nat} (h : o_nn x = true) : ¬ x = 0 := of_decide_eq_true h
def o_lt9 (G : ai_G) : Bool := decide (G.2.2 < 900)
theorem o_lt9E {G : ai_G} (h : o_lt9 G = true) : G.2.2 < 900 := of_decide_eq_true h
def o_al (G : ai_G) (a : Nat) : Bool := decide (12 ≤ G.1 a ∧ G.1 a ≤ 15)
theorem o_alE {G : ai_G} {a : Nat} (h : o_al G a = true) : 12 ≤ G.1 a ∧ G.1 a ≤ 15 := of_decide_eq_true h
def o_cpy (G : ai_G) (a0 a : Nat) (sp dp n : Int32) : Bool := decide (G.1 a0 = 13 ∧ G.1 a = 13 ∧ ¬ sp < 0 ∧ ¬ dp < 0 ∧ ¬ n < 0 ∧ sp.toNatClampNeg + n.toNatClampNeg ≤ G.2.1 a0 ∧ dp.toNatClampNeg + n.toNatClampNeg ≤ G.2.1 a)
theorem o_cpyE {G : ai_G} {a0 a : Nat} {sp dp n : Int32} (h : o_cpy G a0 a sp dp n = true) : ai_cpyOk G.1 G.2.1 a0 a sp dp n := by
  have h2 := of_decide_eq_true h
  exact h2
/-- a new array: all 0, as long as it was made -/
theorem o_newZ {I I1 : ai_I} {m n : Nat} (e : some m = some n) (e2 : some (va_up I m (fun _ => (0 : Int32))) = some I1) : I1 n = fun _ => 0 := by
  cases e
  cases e2
  show va_up I m (fun _ => 0) m = _
  unfold va_up
  rw [if_pos rfl]
theorem o_newI0 {G : ai_G} {k n N i : Nat} {G1 : ai_G} (e : some (G.2.2 + 1) = some n) (e2 : some ((va_up G.1 (G.2.2 + 1) k, va_up G.2.1 (G.2.2 + 1) N, G.2.2 + 1) : ai_G) = some G1) (hi : i < N) (hN : N < 2147483648) : ai_in (nI i) (G1.2.1 n) := by
  cases e
  cases e2
  show ai_in (nI i) (va_up G.2.1 (G.2.2 + 1) N (G.2.2 + 1))
  unfold va_up
  rw [if_pos rfl]
  intro h
  rcases h with h | h
  · exact nI_pos (by omega) h
  · rw [nI_clamp (by omega)] at h
    omega
/-- what a method may still make -/
def o_bd (B : Nat × Nat) (a b : Nat) : Bool := decide (a ≤ B.1 ∧ b ≤ B.2)
theorem o_bdE1 {B : Nat × Nat} {a b : Nat} (h : o_bd B a b = true) : a ≤ B.1 := (of_decide_eq_true h).1
theorem o_bdE2 {B : Nat × Nat} {a b : Nat} (h : o_bd B a b = true) : b ≤ B.2 := (of_decide_eq_true h).2
theorem o_bd0 {B : Nat × Nat} : o_bd B 0 0 = true := decide_eq_true ⟨Nat.zero_le _, Nat.zero_le _⟩
theorem o_bdN {B B' : Nat × Nat} {a b : Nat} (e : some ((B.1 - a, B.2 - b) : Nat × Nat) = some B') : (B.1 - a, B.2 - b) = B' := Option.some.inj e
theorem o_newK {G : ai_G} {k n : Nat} {G1 : ai_G} {ln : Nat → Nat} (e : some (G.2.2 + 1) = some n) (e2 : some ((va_up G.1 (G.2.2 + 1) k, ln, G.2.2 + 1) : ai_G) = some G1) : G1.1 n = k := by
  cases e
  cases e2
  show va_up G.1 (G.2.2 + 1) k (G.2.2 + 1) = k
  unfold va_up
  rw [if_pos rfl]
/-- String.length and charAt of a string constant -/
def o_sl (a : Nat) : Option Int32 := match ai_txt si_t a with
  | some tx => some (Int32.ofNat tx.length)
  | none => none
def o_sc (a : Nat) (i : Int32) : Option Int32 := match ai_txt si_t a with
  | some tx => if ¬ i < 0 ∧ i.toNatClampNeg < tx.length then some (Int32.ofNat (tx.getD i.toNatClampNeg 0)) else none
  | none => none
theorem md_997 {d : Nat} {I : ai_I} {J : ai_J} {Rf : ai_R} {G : ai_G} {a : Nat} {r : Int32} (hd : 5 ≤ d) (h : o_sl a = some r) : ai_Cl si_t si_ms d 997 [.inr (.inr a)] I J Rf G (some (.inl r)) I J Rf G := by
  obtain ⟨e, rfl⟩ : ∃ e, d = e + 1 := ⟨d - 1, by omega⟩
  show (match si_ms 997 with
    | some q => ai_wgt [.inr (.inr a)] ≤ q.2 ∧ ai_Go si_t q.1 (ai_Cl si_t si_ms e) (sp_Q (some (.inl r)) I J Rf G) 0 (ai_ent q.2 [.inr (.inr a)]) [] (ai_bud si_t 997) I J Rf G
    | none => 4 ≤ e ∧ ai_prm si_t 997 [.inr (.inr a)] (some (.inl r)) ∧ I = I ∧ J = J ∧ Rf = Rf ∧ G = G)
  have hm : si_ms 997 = none := rfl
  rw [hm]
  refine ⟨by omega, ?_, rfl, rfl, rfl, rfl⟩
  unfold o_sl at h
  match ht : ai_txt si_t a, h with
  | some tx, h =>
    cases h
    exact ⟨tx, ht, rfl⟩
  | none, h => cases h
theorem md_996 {d : Nat} {I : ai_I} {J : ai_J} {Rf : ai_R} {G : ai_G} {a : Nat} {i r : Int32} (hd : 5 ≤ d) (h : o_sc a i = some r) : ai_Cl si_t si_ms d 996 [.inr (.inr a), .inl i] I J Rf G (some (.inl r)) I J Rf G := by
  obtain ⟨e, rfl⟩ : ∃ e, d = e + 1 := ⟨d - 1, by omega⟩
  show (match si_ms 996 with
    | some q => ai_wgt [.inr (.inr a), .inl i] ≤ q.2 ∧ ai_Go si_t q.1 (ai_Cl si_t si_ms e) (sp_Q (some (.inl r)) I J Rf G) 0 (ai_ent q.2 [.inr (.inr a), .inl i]) [] (ai_bud si_t 996) I J Rf G
    | none => 4 ≤ e ∧ ai_prm si_t 996 [.inr (.inr a), .inl i] (some (.inl r)) ∧ I = I ∧ J = J ∧ Rf = Rf ∧ G = G)
  have hm : si_ms 996 = none := rfl
  rw [hm]
  refine ⟨by omega, ?_, rfl, rfl, rfl, rfl⟩
  unfold o_sc at h
  match ht : ai_txt si_t a, h with
  | some tx, h =>
    change (if ¬ i < 0 ∧ i.toNatClampNeg < tx.length then some (Int32.ofNat (tx.getD i.toNatClampNeg 0)) else none) = some r at h
    by_cases hc : ¬ i < 0 ∧ i.toNatClampNeg < tx.length
    · rw [if_pos hc] at h
      cases h
      exact ⟨tx, ht, (fun h3 => by
        rcases h3 with h3 | h3
        · exact hc.1 h3
        · omega), rfl⟩
    · rw [if_neg hc] at h
      cases h
  | none, h => cases h
theorem ai_putZ {l : List (Option ai_V)} {j : Nat} {v : ai_V} (h : ai_isL (ai_loc l j) = false) : ai_put l (j + 1) v = ai_put1 l (j + 1) (some v) := by
  show ai_put1 (match ai_isL (ai_loc l j) with
    | true => ai_put1 l j none
    | false => l) (j + 1) (some v) = _
  rw [h]
section
variable {t : ai_T} {F : ai_F} {call : ai_C} {post : ai_Q} {len pc pc' : Nat} {lo lo' : List (Option ai_V)} {st r : List ai_V} {B B' : Nat × Nat} {I I' : ai_I} {J J' : ai_J} {Rf Rf' : ai_R} {G G' : ai_G}
theorem go_ndI {x y : Int32} (e : some x = some y) (h : ai_Go t F call post pc lo (.inl y :: r) B I J Rf G) : ai_Go t F call post pc lo (.inl x :: r) B I J Rf G := by
  cases e
  exact h
theorem go_ndJ {x y : Int64} (e : some x = some y) (h : ai_Go t F call post pc lo (.inr (.inl y) :: r) B I J Rf G) : ai_Go t F call post pc lo (.inr (.inl x) :: r) B I J Rf G := by
  cases e
  exact h
theorem go_ndR {x y : Nat} (e : some x = some y) (h : ai_Go t F call post pc lo (.inr (.inr y) :: r) B I J Rf G) : ai_Go t F call post pc lo (.inr (.inr x) :: r) B I J Rf G := by
  cases e
  exact h
theorem go_ndMI (e : some I = some I') (h : ai_Go t F call post pc lo st B I' J Rf G) : ai_Go t F call post pc lo st B I J Rf G := by
  cases e
  exact h
theorem go_ndMJ (e : some J = some J') (h : ai_Go t F call post pc lo st B I J' Rf G) : ai_Go t F call post pc lo st B I J Rf G := by
  cases e
  exact h
theorem go_ndMR (e : some Rf = some Rf') (h : ai_Go t F call post pc lo st B I J Rf' G) : ai_Go t F call post pc lo st B I J Rf G := by
  cases e
  exact h
theorem go_ndMG (e : some G = some G') (h : ai_Go t F call post pc lo st B I J Rf G') : ai_Go t F call post pc lo st B I J Rf G := by
  cases e
  exact h
theorem go_ndB (e : B = B') (h : ai_Go t F call post pc lo st B' I J Rf G) : ai_Go t F call post pc lo st B I J Rf G := by
  cases e
  exact h
theorem go_ndBs (e : some B = some B') (h : ai_Go t F call post pc lo st B' I J Rf G) : ai_Go t F call post pc lo st B I J Rf G := by
  cases e
  exact h
theorem go_iast0 {i : Int32} {c : Nat} (hi : ai_lkp F.2.2.2 pc = some (.iastore, 1)) (hk : G.1 c = 13) (hb : ai_in i (G.2.1 c)) (h0 : I c = fun _ => 0) (hp : pc + 1 = pc') (h : ai_Go t F call post pc' lo r B I J Rf G) : ai_Go t F call post pc lo (.inl (nI 0) :: .inl i :: .inr (.inr c) :: r) B I J Rf G := by
  refine go_iastore hi hk hb hp ?_
  have e : va_up I c (va_up (I c) i.toNatClampNeg (nI 0)) = I := by
    funext a
    unfold va_up
    by_cases ha : a = c
    · rw [if_pos ha, ha, h0]
      funext j
      split <;> rfl
    · rw [if_neg ha]
  rw [e]
  exact h
theorem go_callVb {ix y b1 b2 : Nat} {as : List ai_V} {v : Option ai_V} {I1 : ai_I} {J1 : ai_J} {R1 : ai_R} {G1 : ai_G} {st' : List ai_V} (hi : ai_lkp F.2.2.2 pc = some (.invokevirtual ix, 3)) (hy : ai_mth t F.1 ix = y) (n1 : y < 990 ∨ y = 997 ∨ y = 996) (hl : ai_long (ai_nar t y) st = true) (hw : Nat.ble (ai_wgt (ai_drops (ai_nar t y) st)) 8 = true) (hbu : ai_bud t y = (b1, b2)) (hb : o_bd B b1 b2 = true)
    (ha : ai_rvs (ai_takes (ai_nar t y) st) [] = as) (hr : ai_recv (ai_rcv t y) as G.1) (hcl : call y as I J Rf G v I1 J1 R1 G1) (hs : v.toList ++ ai_drops (ai_nar t y) st = st') (hB : (B.1 - b1, B.2 - b2) = B') (hp : pc + 3 = pc') (h : ai_Go t F call post pc' lo st' B' I1 J1 R1 G1) : ai_Go t F call post pc lo st B I J Rf G := by
  refine go_callV hi hy n1 ?_ ha hr hcl hs (by rw [hbu]; exact hB) hp h
  rw [hl, hw, hbu, Nat.ble_eq_true_of_le (o_bdE1 hb), Nat.ble_eq_true_of_le (o_bdE2 hb)]
  rfl
theorem go_callSb {ix y b1 b2 : Nat} {as : List ai_V} {v : Option ai_V} {I1 : ai_I} {J1 : ai_J} {R1 : ai_R} {G1 : ai_G} {st' : List ai_V} (hi : ai_lkp F.2.2.2 pc = some (.invokestatic ix, 3)) (hy : ai_mth t F.1 ix = y) (n1 : y < 990 ∨ y = 997 ∨ y = 996) (hl : ai_long (ai_nar t y) st = true) (hw : Nat.ble (ai_wgt (ai_drops (ai_nar t y) st)) 8 = true) (hbu : ai_bud t y = (b1, b2)) (hb : o_bd B b1 b2 = true)
    (ha : ai_rvs (ai_takes (ai_nar t y) st) [] = as) (hr : ai_recv (ai_rcv t y) as G.1) (hcl : call y as I J Rf G v I1 J1 R1 G1) (hs : v.toList ++ ai_drops (ai_nar t y) st = st') (hB : (B.1 - b1, B.2 - b2) = B') (hp : pc + 3 = pc') (h : ai_Go t F call post pc' lo st' B' I1 J1 R1 G1) : ai_Go t F call post pc lo st B I J Rf G := by
  refine go_callS hi hy n1 ?_ ha hr hcl hs (by rw [hbu]; exact hB) hp h
  rw [hl, hw, hbu, Nat.ble_eq_true_of_le (o_bdE1 hb), Nat.ble_eq_true_of_le (o_bdE2 hb)]
  rfl
theorem go_callIb {ix y b1 b2 : Nat} {as : List ai_V} {v : Option ai_V} {I1 : ai_I} {J1 : ai_J} {R1 : ai_R} {G1 : ai_G} {st' : List ai_V} (hi : ai_lkp F.2.2.2 pc = some (.invokespecial ix, 3)) (hy : ai_mth t F.1 ix = y) (n1 : y < 990 ∨ y = 997 ∨ y = 996) (hl : ai_long (ai_nar t y) st = true) (hw : Nat.ble (ai_wgt (ai_drops (ai_nar t y) st)) 8 = true) (hbu : ai_bud t y = (b1, b2)) (hb : o_bd B b1 b2 = true)
    (ha : ai_rvs (ai_takes (ai_nar t y) st) [] = as) (hr : ai_recv (ai_rcv t y) as G.1) (hcl : call y as I J Rf G v I1 J1 R1 G1) (hs : v.toList ++ ai_drops (ai_nar t y) st = st') (hB : (B.1 - b1, B.2 - b2) = B') (hp : pc + 3 = pc') (h : ai_Go t F call post pc' lo st' B' I1 J1 R1 G1) : ai_Go t F call post pc lo st B I J Rf G := by
  refine go_callI hi hy n1 ?_ ha hr hcl hs (by rw [hbu]; exact hB) hp h
  rw [hl, hw, hbu, Nat.ble_eq_true_of_le (o_bdE1 hb), Nat.ble_eq_true_of_le (o_bdE2 hb)]
  rfl
theorem go_iincE {i : Nat} {n : Int} {x y z : Int32} (hi : ai_lkp F.2.2.2 pc = some (.iinc i n, 3)) (hv : ai_loc lo i = some (.inl x)) (hn : Int32.ofInt n = y) (hz : some (x + y) = some z) (hl : ai_put lo i (.inl z) = lo') (hp : pc + 3 = pc') (h : ai_Go t F call post pc' lo' st B I J Rf G) : ai_Go t F call post pc lo st B I J Rf G := by
  cases hz
  exact go_iinc hi hv hn hl hp h
end
