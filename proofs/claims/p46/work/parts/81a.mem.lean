/-! The law's memory: the class's cells, and behind them the law's own arrays; the class's state between calls. -/
theorem nI_in03 {k : Nat} (hk : k ≤ 3) : nI 0 ≤ nI k ∧ nI k ≤ nI 3 := ⟨nI_le (by omega) (by omega), nI_le hk (by decide)⟩
/-- an array of the law's own: at a, of n -/
def ary (L : ai_G) (a n : Nat) : Prop := 74 < a ∧ a ≤ L.2.2 ∧ L.1 a = 13 ∧ L.2.1 a = n
theorem ay_k {L : ai_G} {a n : Nat} (h : ary L a n) : (Gc L).1 a = 13 := by
  show (if a ≤ 74 then kL.getD a 99 else L.1 a) = 13
  rw [if_neg (by have := h.1; omega)]
  exact h.2.2.1
theorem ay_n {L : ai_G} {a n : Nat} (h : ary L a n) : (Gc L).2.1 a = n := by
  show (if a ≤ 74 then nL.getD a 0 else L.2.1 a) = n
  rw [if_neg (by have := h.1; omega)]
  exact h.2.2.2
theorem ay_in {L : ai_G} {a n i : Nat} (h : ary L a n) (hi : i < n) (hn : n < 2147483648) : o_in (Gc L) 13 a (nI i) = true := gi (ay_k h) (ay_n h) hi hn
theorem ay_al {L : ai_G} {a n : Nat} (h : ary L a n) : o_al (Gc L) a = true := decide_eq_true (by rw [ay_k h]; decide)
/-- one array more -/
def nw (L : ai_G) (n : Nat) : ai_G := (va_up L.1 (L.2.2 + 1) 13, va_up L.2.1 (L.2.2 + 1) n, L.2.2 + 1)
theorem nw_gc {L : ai_G} {n : Nat} (h : 74 ≤ L.2.2) : ((va_up (Gc L).1 ((Gc L).2.2 + 1) 13, va_up (Gc L).2.1 ((Gc L).2.2 + 1) n, (Gc L).2.2 + 1) : ai_G) = Gc (nw L n) := by
  have e1 : va_up (Gc L).1 (L.2.2 + 1) 13 = (Gc (nw L n)).1 := by
    funext a
    show va_up (Gc L).1 (L.2.2 + 1) 13 a = if a ≤ 74 then kL.getD a 99 else va_up L.1 (L.2.2 + 1) 13 a
    by_cases c : a = L.2.2 + 1
    · rw [c, up_eq, if_neg (by omega), up_eq]
    · rw [up_ne c, up_ne c]
      rfl
  have e2 : va_up (Gc L).2.1 (L.2.2 + 1) n = (Gc (nw L n)).2.1 := by
    funext a
    show va_up (Gc L).2.1 (L.2.2 + 1) n a = if a ≤ 74 then nL.getD a 0 else va_up L.2.1 (L.2.2 + 1) n a
    by_cases c : a = L.2.2 + 1
    · rw [c, up_eq, if_neg (by omega), up_eq]
    · rw [up_ne c, up_ne c]
      rfl
  show (va_up (Gc L).1 (L.2.2 + 1) 13, va_up (Gc L).2.1 (L.2.2 + 1) n, L.2.2 + 1) = ((Gc (nw L n)).1, (Gc (nw L n)).2.1, L.2.2 + 1)
  rw [e1, e2]
theorem nw_new {L : ai_G} {n : Nat} (h : 74 ≤ L.2.2) : ary (nw L n) (L.2.2 + 1) n := ⟨by omega, Nat.le_refl _, up_eq, up_eq⟩
theorem nw_old {L : ai_G} {a m n : Nat} (h : ary L a m) : ary (nw L n) a m := ⟨h.1, Nat.le_succ_of_le h.2.1, (up_ne (by have := h.2.1; omega)).trans h.2.2.1, (up_ne (by have := h.2.1; omega)).trans h.2.2.2⟩
theorem nw_z {L : ai_G} {n : Nat} : (nw L n).2.2 = L.2.2 + 1 := rfl
theorem lt9g {L : ai_G} (h : L.2.2 < 900) : o_lt9 (Gc L) = true := decide_eq_true h
theorem al_n {L : ai_G} {n : Nat} {I : ai_I} {γ : Type} {F : ai_I → ai_G → Nat → Option γ} {Q : γ → Prop} (h74 : 74 ≤ L.2.2) (h9 : L.2.2 < 900) (h : wp (F (va_up I (L.2.2 + 1) (fun _ => 0)) (Gc (nw L n)) (L.2.2 + 1)) Q) : wp (o_g (o_lt9 (Gc L)) (o_b1 (some (va_up I ((Gc L).2.2 + 1) (fun _ => 0))) (fun I' => o_b1 (some (va_up (Gc L).1 ((Gc L).2.2 + 1) 13, va_up (Gc L).2.1 ((Gc L).2.2 + 1) n, (Gc L).2.2 + 1)) (fun G' => o_b1 (some ((Gc L).2.2 + 1)) (fun n' => F I' G' n'))))) Q := by
  rw [lt9g h9, o_g_t, o_b1_s, o_b1_s, o_b1_s, nw_gc h74]
  exact h
theorem bd_t {B : Nat × Nat} {a b : Nat} (h : a ≤ B.1 ∧ b ≤ B.2) : o_bd B a b = true := decide_eq_true h
theorem al_b {L : ai_G} {n : Nat} {I : ai_I} {B : Nat × Nat} {γ : Type} {F : ai_I → ai_G → Nat → Nat × Nat → Option γ} {Q : γ → Prop} (h74 : 74 ≤ L.2.2) (h9 : L.2.2 < 900) (hB : 1 ≤ B.1 ∧ n ≤ B.2) (h : wp (F (va_up I (L.2.2 + 1) (fun _ => 0)) (Gc (nw L n)) (L.2.2 + 1) (B.1 - 1, B.2 - n)) Q) : wp (o_g (o_lt9 (Gc L)) (o_g (o_bd B 1 n) (o_b1 (some (va_up I ((Gc L).2.2 + 1) (fun _ => 0))) (fun I' => o_b1 (some (va_up (Gc L).1 ((Gc L).2.2 + 1) 13, va_up (Gc L).2.1 ((Gc L).2.2 + 1) n, (Gc L).2.2 + 1)) (fun G' => o_b1 (some ((Gc L).2.2 + 1)) (fun n' => o_b1 (some ((B.1 - 1, B.2 - n) : Nat × Nat)) (fun B' => F I' G' n' B'))))))) Q := by
  rw [lt9g h9, o_g_t, bd_t hB, o_g_t, o_b1_s, o_b1_s, o_b1_s, o_b1_s, nw_gc h74]
  exact h
/-- what is there but for the class's own workings: kept, but for cell x, up to cell z -/
def FM (z x : Nat) (I J : ai_I) : Prop := ∀ c, ¬ c = x → (c < 43 ∨ (74 < c ∧ c ≤ z) ∨ c = 1999) → J c = I c
/-- the class has but worked -/
def SM (I J : ai_I) : Prop := ∀ c, (c < 43 ∨ 74 < c) → J c = I c
theorem SM_rf {I : ai_I} : SM I I := fun _ _ => rfl
theorem SM_tr {I J K : ai_I} (h : SM I J) (h2 : SM J K) : SM I K := fun c hc => (h2 c hc).trans (h c hc)
theorem SM_FM {z x : Nat} {I J : ai_I} (h : SM I J) : FM z x I J := fun c _ hc => h c (by omega)
theorem FM_rf {z x : Nat} {I : ai_I} : FM z x I I := fun _ _ _ => rfl
theorem FM_tr {z x : Nat} {I J K : ai_I} (h : FM z x I J) (h2 : FM z x J K) : FM z x I K := fun c hx hc => (h2 c hx hc).trans (h c hx hc)
/-- shelves and prices, as the class holds them -/
def KA (I : ai_I) (A : SV) : Prop := ∃ m nt, CAF I (A, m, nt)
theorem KA_s {I : ai_I} {A : SV} {s : Nat} (h : KA I A) (hs : s < 4) : WF (A.1 s) (A.2.1 s) (A.2.2.1 s) ∧ CS I (6 + 4 * s) (A.1 s) (A.2.1 s) (A.2.2.1 s) := by
  obtain ⟨m, nt, h1, h2, -⟩ := h
  exact ⟨h1 s hs, h2.1 s hs⟩
theorem KA_p {I : ai_I} {A : SV} (h : KA I A) : ∀ e, e < 8 → I 4 e = A.2.2.2 e ∧ -1000 ≤ A.2.2.2 e ∧ A.2.2.2 e ≤ 1000 := fun e he => by
  obtain ⟨m, nt, h1, h2, h3, -⟩ := h
  exact ⟨h2.2 e he, (h3 e he).1, (h3 e he).2⟩
theorem KA_f {I J : ai_I} {A : SV} (h : KA I A) (e : ∀ c, 2 ≤ c → c < 22 → J c = I c) : KA J A := by
  obtain ⟨m, nt, h1, h2, h3, h4, h5, h6⟩ := h
  exact ⟨m, nt, h1, ⟨fun s hs => CS_cong (fun _ _ => rfl) (e _ (by omega) (by omega)) (e _ (by omega) (by omega)) (e _ (by omega) (by omega)) (e _ (by omega) (by omega)) (h2.1 s hs), fun i hi => by rw [e 4 (by decide) (by decide)]; exact h2.2 i hi⟩, h3, h4, by rw [e 2 (by decide) (by decide)]; exact h5, fun k hk j hj => by rw [e 5 (by decide) (by decide)]; exact h6 k hk j hj⟩
theorem KA_sm {I J : ai_I} {A : SV} (h : KA I A) (e : SM I J) : KA J A := KA_f h (fun c _ h2 => e c (by omega))
theorem KA_fm {I J : ai_I} {A : SV} {z x : Nat} (h : KA I A) (hx : 22 ≤ x) (e : FM z x I J) : KA J A := KA_f h (fun c _ h2 => e c (by omega) (by omega))
theorem v_kd2 {L : ai_G} {s : Nat} (hs : s < 4) : (Gc L).1 (6 + 4 * s + 1) = 13 ∧ (Gc L).2.1 (6 + 4 * s + 1) = 256 := by
  match s, hs with
  | 0, _ => exact ⟨rfl, rfl⟩
  | 1, _ => exact ⟨rfl, rfl⟩
  | 2, _ => exact ⟨rfl, rfl⟩
  | 3, _ => exact ⟨rfl, rfl⟩
theorem k_b0 {I : ai_I} {A : SV} {s : Nat} (h : KA I A) (hs : s < 4) : A.2.2.1 s 0 = NO := by
  obtain ⟨hW, -⟩ := KA_s h hs
  refine Classical.byContradiction (fun hV => ?_)
  have h1 := (hW.2.2.2.2.1 0 (by decide) hV).2.1
  have h2 := hW.2.2.1
  have h3 : pc 0 = 0 := rfl
  omega
theorem NO_eq : (-2147483648 : Int32) = NO := rfl
