/-! Out of whole's part 84.ctor, by wip/p46/extract.py. -/
def Gk (L k : Nat) : ai_G := (fun a => if a = 1999 then 16 else if a ≤ k then kL.getD a 99 else 99, fun a => if a = 1999 then L else if a ≤ k then nL.getD a 0 else 0, k)
/-- what points where, by the entries told, the latest first -/
def rf : List (Nat × Nat × Nat) → ai_R
  | [] => fun _ _ => 0
  | (a, j, x) :: l => fun b i => if b = a ∧ i = j then x else rf l b i
theorem rf_set {l : List (Nat × Nat × Nat)} {a j x : Nat} : va_up (rf l) a (va_up (rf l a) j x) = rf ((a, j, x) :: l) := by
  funext b i
  show _ = if b = a ∧ i = j then x else rf l b i
  by_cases c : b = a
  · subst c
    rw [up_eq]
    by_cases d : i = j
    · subst d
      rw [up_eq, if_pos ⟨rfl, rfl⟩]
    · rw [up_ne d, if_neg (fun h => d h.2)]
  · rw [up_ne c, if_neg (fun h => c h.1)]
theorem rf_0 {n : Nat} : ∀ {l : List (Nat × Nat × Nat)}, (∀ e ∈ l, ¬ e.1 = n) → rf l n = fun _ => 0
  | [], _ => rfl
  | (a, j, x) :: l, h => by
    funext i
    show (if n = a ∧ i = j then x else rf l n i) = 0
    rw [if_neg (fun hh => h (a, j, x) List.mem_cons_self hh.1.symm), rf_0 (fun e he => h e (List.mem_cons_of_mem _ he))]
theorem up_self {α : Type} {f : Nat → α} {n : Nat} {x : α} (h : f n = x) : va_up f n x = f := by
  funext a
  by_cases c : a = n
  · rw [c, up_eq, h]
  · rw [up_ne c]
def Zr (k : Nat) (I : ai_I) : Prop := ∀ a, k < a → ¬ a = 1999 → I a = fun _ => 0
theorem Zr_s {k m : Nat} {I : ai_I} (h : Zr k I) (hm : k ≤ m) : Zr m I := fun a h1 h2 => h a (by omega) h2
/-- entries for cells up to k alone -/
def rle (k : Nat) (l : List (Nat × Nat × Nat)) : Prop := ∀ e ∈ l, e.1 ≤ k
theorem rle_s {k m : Nat} {l : List (Nat × Nat × Nat)} (h : rle k l) (hm : k ≤ m) : rle m l := fun e he => Nat.le_trans (h e he) hm
theorem rle_c {k a j x : Nat} {l : List (Nat × Nat × Nat)} (h : rle k l) (ha : a ≤ k) : rle k ((a, j, x) :: l) := fun e he => by
  rcases List.mem_cons.1 he with rfl | he
  · exact ha
  · exact h e he
theorem gk_o {L k kind : Nat} (hk : k < 900) (h1 : kL.getD (k + 1) 99 = kind) (h2 : nL.getD (k + 1) 0 = 0) : (va_up (Gk L k).1 (k + 1) kind, (Gk L k).2.1, k + 1) = Gk L (k + 1) := by
  have e1 : va_up (Gk L k).1 (k + 1) kind = (Gk L (k + 1)).1 := by
    funext a
    show _ = if a = 1999 then 16 else if a ≤ k + 1 then kL.getD a 99 else 99
    by_cases c : a = k + 1
    · subst c
      rw [up_eq, if_neg (by omega), if_pos (Nat.le_refl _), h1]
    · rw [up_ne c]
      show (if a = 1999 then 16 else if a ≤ k then kL.getD a 99 else 99) = _
      by_cases d : a ≤ k
      · rw [if_pos d, if_pos (show a ≤ k + 1 by omega)]
      · rw [if_neg d, if_neg (show ¬ a ≤ k + 1 by omega)]
  have e2 : (Gk L k).2.1 = (Gk L (k + 1)).2.1 := by
    funext a
    show (if a = 1999 then L else if a ≤ k then nL.getD a 0 else 0) = if a = 1999 then L else if a ≤ k + 1 then nL.getD a 0 else 0
    by_cases c : a = k + 1
    · subst c
      rw [if_neg (show ¬ k + 1 ≤ k by omega), if_pos (Nat.le_refl _), h2]
    · by_cases d : a ≤ k
      · rw [if_pos d, if_pos (show a ≤ k + 1 by omega)]
      · rw [if_neg d, if_neg (show ¬ a ≤ k + 1 by omega)]
  rw [e1, e2]
  rfl
theorem gk_a {L k kind len : Nat} (hk : k < 900) (h1 : kL.getD (k + 1) 99 = kind) (h2 : nL.getD (k + 1) 0 = len) : (va_up (Gk L k).1 (k + 1) kind, va_up (Gk L k).2.1 (k + 1) len, k + 1) = Gk L (k + 1) := by
  have e1 : va_up (Gk L k).1 (k + 1) kind = (Gk L (k + 1)).1 := by
    funext a
    show _ = if a = 1999 then 16 else if a ≤ k + 1 then kL.getD a 99 else 99
    by_cases c : a = k + 1
    · subst c
      rw [up_eq, if_neg (by omega), if_pos (Nat.le_refl _), h1]
    · rw [up_ne c]
      show (if a = 1999 then 16 else if a ≤ k then kL.getD a 99 else 99) = _
      by_cases d : a ≤ k
      · rw [if_pos d, if_pos (show a ≤ k + 1 by omega)]
      · rw [if_neg d, if_neg (show ¬ a ≤ k + 1 by omega)]
  have e2 : va_up (Gk L k).2.1 (k + 1) len = (Gk L (k + 1)).2.1 := by
    funext a
    show _ = if a = 1999 then L else if a ≤ k + 1 then nL.getD a 0 else 0
    by_cases c : a = k + 1
    · subst c
      rw [up_eq, if_neg (by omega), if_pos (Nat.le_refl _), h2]
    · rw [up_ne c]
      show (if a = 1999 then L else if a ≤ k then nL.getD a 0 else 0) = _
      by_cases d : a ≤ k
      · rw [if_pos d, if_pos (show a ≤ k + 1 by omega)]
      · rw [if_neg d, if_neg (show ¬ a ≤ k + 1 by omega)]
  rw [e1, e2]
  rfl
theorem lt9 {L k : Nat} (hk : k < 900) : o_lt9 (Gk L k) = true := decide_eq_true hk
/-- an object is made -/
theorem al_o {L k k2 kind : Nat} {I : ai_I} {J : ai_J} {l : List (Nat × Nat × Nat)} {γ : Type} {F : ai_I → ai_J → ai_R → ai_G → Nat → Option γ} {Q : γ → Prop} (e : k + 1 = k2) (hk : k < 900) (h1 : kL.getD k2 99 = kind) (h2 : nL.getD k2 0 = 0) (hZ : Zr k I) (hl : rle k l) (h : ∀ J', wp (F I J' (rf l) (Gk L k2) k2) Q) : wp (o_g (o_lt9 (Gk L k)) (o_b1 (some (va_up I ((Gk L k).2.2 + 1) (fun _ => 0))) (fun I5 => o_b1 (some (va_up J ((Gk L k).2.2 + 1) (fun _ => 0))) (fun J5 => o_b1 (some (va_up (rf l) ((Gk L k).2.2 + 1) (fun _ => 0))) (fun R5 => o_b1 (some (va_up (Gk L k).1 ((Gk L k).2.2 + 1) kind, (Gk L k).2.1, (Gk L k).2.2 + 1)) (fun G5 => o_b1 (some ((Gk L k).2.2 + 1)) (fun n5 => F I5 J5 R5 G5 n5))))))) Q := by
  subst e
  rw [lt9 hk, o_g_t, o_b1_s, o_b1_s, o_b1_s, o_b1_s, o_b1_s, show (Gk L k).2.2 + 1 = k + 1 from rfl, gk_o hk h1 h2, up_self (hZ (k + 1) (by omega) (by omega)), up_self (rf_0 (fun x hx => by have := hl x hx; omega))]
  exact h _
/-- a row of ints or bytes is made -/
theorem al_i {L k k2 kind len : Nat} {I : ai_I} {γ : Type} {F : ai_I → ai_G → Nat → Option γ} {Q : γ → Prop} (e : k + 1 = k2) (hk : k < 900) (h1 : kL.getD k2 99 = kind) (h2 : nL.getD k2 0 = len) (hZ : Zr k I) (h : wp (F I (Gk L k2) k2) Q) : wp (o_g (o_lt9 (Gk L k)) (o_b1 (some (va_up I ((Gk L k).2.2 + 1) (fun _ => 0))) (fun I5 => o_b1 (some (va_up (Gk L k).1 ((Gk L k).2.2 + 1) kind, va_up (Gk L k).2.1 ((Gk L k).2.2 + 1) len, (Gk L k).2.2 + 1)) (fun G5 => o_b1 (some ((Gk L k).2.2 + 1)) (fun n5 => F I5 G5 n5))))) Q := by
  subst e
  rw [lt9 hk, o_g_t, o_b1_s, o_b1_s, o_b1_s, show (Gk L k).2.2 + 1 = k + 1 from rfl, gk_a hk h1 h2, up_self (hZ (k + 1) (by omega) (by omega))]
  exact h
/-- a row of longs is made -/
theorem al_j {L k k2 kind len : Nat} {J : ai_J} {γ : Type} {F : ai_J → ai_G → Nat → Option γ} {Q : γ → Prop} (e : k + 1 = k2) (hk : k < 900) (h1 : kL.getD k2 99 = kind) (h2 : nL.getD k2 0 = len) (h : ∀ J', wp (F J' (Gk L k2) k2) Q) : wp (o_g (o_lt9 (Gk L k)) (o_b1 (some (va_up J ((Gk L k).2.2 + 1) (fun _ => 0))) (fun J5 => o_b1 (some (va_up (Gk L k).1 ((Gk L k).2.2 + 1) kind, va_up (Gk L k).2.1 ((Gk L k).2.2 + 1) len, (Gk L k).2.2 + 1)) (fun G5 => o_b1 (some ((Gk L k).2.2 + 1)) (fun n5 => F J5 G5 n5))))) Q := by
  subst e
  rw [lt9 hk, o_g_t, o_b1_s, o_b1_s, o_b1_s, show (Gk L k).2.2 + 1 = k + 1 from rfl, gk_a hk h1 h2]
  exact h _
/-- a row of references is made -/
theorem al_r {L k k2 kind len : Nat} {l : List (Nat × Nat × Nat)} {γ : Type} {F : ai_R → ai_G → Nat → Option γ} {Q : γ → Prop} (e : k + 1 = k2) (hk : k < 900) (h1 : kL.getD k2 99 = kind) (h2 : nL.getD k2 0 = len) (hl : rle k l) (h : wp (F (rf l) (Gk L k2) k2) Q) : wp (o_g (o_lt9 (Gk L k)) (o_b1 (some (va_up (rf l) ((Gk L k).2.2 + 1) (fun _ => 0))) (fun R5 => o_b1 (some (va_up (Gk L k).1 ((Gk L k).2.2 + 1) kind, va_up (Gk L k).2.1 ((Gk L k).2.2 + 1) len, (Gk L k).2.2 + 1)) (fun G5 => o_b1 (some ((Gk L k).2.2 + 1)) (fun n5 => F R5 G5 n5))))) Q := by
  subst e
  rw [lt9 hk, o_g_t, o_b1_s, o_b1_s, o_b1_s, show (Gk L k).2.2 + 1 = k + 1 from rfl, gk_a hk h1 h2, up_self (rf_0 (fun x hx => by have := hl x hx; omega))]
  exact h
/-- a field points to what was made -/
theorem st_r {L k a j x kd : Nat} {l : List (Nat × Nat × Nat)} {γ : Type} {F : ai_R → Option γ} {Q : γ → Prop} (ha : a ≤ k) (h9 : ¬ a = 1999) (h1 : kL.getD a 99 = kd) (h : wp (F (rf ((a, j, x) :: l))) Q) : wp (o_g (o_kd (Gk L k) a kd) (o_b1 (some (va_up (rf l) a (va_up (rf l a) j x))) (fun R5 => F R5))) Q := by
  rw [o_kd_of (show (Gk L k).1 a = kd by
    show (if a = 1999 then 16 else if a ≤ k then kL.getD a 99 else 99) = kd
    rw [if_neg h9, if_pos ha, h1]), o_g_t, o_b1_s, rf_set]
  exact h
theorem nn_t {a : Nat} (h : 0 < a) : o_nn a = true := decide_eq_true (by omega)
theorem gk_in {L k a i kd n : Nat} (ha : a ≤ k) (h9 : ¬ a = 1999) (h1 : kL.getD a 99 = kd) (h2 : nL.getD a 0 = n) (hi : i < n) (hn : n < 2147483648) : o_in (Gk L k) kd a (nI i) = true := o_in_of (by
    show (if a = 1999 then 16 else if a ≤ k then kL.getD a 99 else 99) = kd
    rw [if_neg h9, if_pos ha, h1]) (nI_pos (by omega)) (by
    show (nI i).toNatClampNeg < (if a = 1999 then L else if a ≤ k then nL.getD a 0 else 0)
    rw [if_neg h9, if_pos ha, h2, i_cl (by omega)]
    exact hi)
/-- where shelves lie -/
theorem vwl : ∀ v ∈ [6, 10, 14, 18, 26, 30, 34, 38], kL.getD v 99 = 8 ∧ nL.getD v 0 = 0 ∧ kL.getD (v + 1) 99 = 13 ∧ nL.getD (v + 1) 0 = 256 ∧ kL.getD (v + 2) 99 = 13 ∧ nL.getD (v + 2) 0 = 256 ∧ kL.getD (v + 3) 99 = 13 ∧ nL.getD (v + 3) 0 = 70 := by decide
theorem vw (k : Nat) (hk : k < 40) (h : k = 2 ∨ k = 22) (i : Nat) (hi : i < 4) : kL.getD (k + 4 + 4 * i) 99 = 8 ∧ nL.getD (k + 4 + 4 * i) 0 = 0 ∧ kL.getD (k + 4 + 4 * i + 1) 99 = 13 ∧ nL.getD (k + 4 + 4 * i + 1) 0 = 256 ∧ kL.getD (k + 4 + 4 * i + 2) 99 = 13 ∧ nL.getD (k + 4 + 4 * i + 2) 0 = 256 ∧ kL.getD (k + 4 + 4 * i + 3) 99 = 13 ∧ nL.getD (k + 4 + 4 * i + 3) 0 = 70 := vwl _ (by
  rcases h with rfl | rfl
  · match i, hi with
    | 0, _ => decide
    | 1, _ => decide
    | 2, _ => decide
    | 3, _ => decide
  · match i, hi with
    | 0, _ => decide
    | 1, _ => decide
    | 2, _ => decide
    | 3, _ => decide)
theorem vk3 : ∀ k, k < 40 → k = 2 ∨ k = 22 → kL.getD k 99 = 6 ∧ kL.getD (k + 1) 99 = 15 ∧ nL.getD (k + 1) 0 = 4 ∧ kL.getD (k + 2) 99 = 13 ∧ nL.getD (k + 2) 0 = 8 ∧ kL.getD (k + 3) 99 = 13 ∧ nL.getD (k + 3) 0 = 80 := by decide +kernel
/-- a shelf is made -/
theorem c_111 {L k : Nat} {I : ai_I} {l : List (Nat × Nat × Nat)} {Q : ai_I × ai_R × ai_G → Prop} (hk0 : 0 < k) (hk : k < 90) (hv : kL.getD k 99 = 8 ∧ kL.getD (k + 1) 99 = 13 ∧ nL.getD (k + 1) 0 = 256 ∧ kL.getD (k + 2) 99 = 13 ∧ nL.getD (k + 2) 0 = 256 ∧ kL.getD (k + 3) 99 = 13 ∧ nL.getD (k + 3) 0 = 70) (hZ : Zr k I) (hQ : Q (I, rf ((k, 5, k + 3) :: (k, 4, k + 2) :: (k, 3, k + 1) :: l), Gk L (k + 3))) : wp (m_78 k I (rf l) (Gk L k)) Q := by
  obtain ⟨v0, v1, v2, v3, v4, v5, v6⟩ := hv
  unfold m_78
  rw [nn_t hk0, o_g_t]
  refine al_i rfl (by omega) v1 v2 hZ ?_
  refine st_r (by omega) (by omega) v0 ?_
  refine al_i rfl (by omega) v3 v4 (Zr_s hZ (by omega)) ?_
  refine st_r (by omega) (by omega) v0 ?_
  refine al_i rfl (by omega) v5 v6 (Zr_s hZ (by omega)) ?_
  refine st_r (by omega) (by omega) v0 ?_
  rw [wp_s]
  exact hQ
theorem c_332g {I : ai_I} {G : ai_G} {a n : Nat} {x : Int32} (hk : G.1 a = 13) (hn : G.2.1 a = n) (hn2 : n < 2000000) : wp (m_116 a x I G) (fun J => (∀ c, ¬ c = a → J c = I c) ∧ ∀ k, k < n → J a k = x) := by
  unfold m_116
  have hal : o_al G a = true := by
    unfold o_al
    rw [hk]
    rfl
  rw [hal, o_g_t, hn, o_b1_s]
  refine wp_s1 (wp_lp (fun i s => s.1 = nI i ∧ (∀ c, ¬ c = a → s.2 c = I c) ∧ ∀ j, j < i → s.2 a j = x) 0 n (Nat.zero_le _) hn2 ⟨rfl, fun _ _ => rfl, fun j hj => absurd hj (Nat.not_lt_zero _)⟩ ?_ ?_)
  · rintro i ⟨y, J⟩ hi ⟨g1, g2, g3⟩
    dsimp only at g1 g2 g3
    subst g1
    unfold m_116_b5
    dsimp only
    rw [if_neg (show ¬ Int32.ofNat n ≤ nI i from nI_ge hi (by omega)), o_in_of hk (nI_pos (by omega)) (by rw [hn, i_cl (by omega)]; exact hi), o_g_t, o_b1_s, i_cl (by omega), i_add, o_b1_s, wp_s, lq_l]
    refine ⟨rfl, fun c hc => by dsimp only; rw [up_ne hc]; exact g2 c hc, fun j hj => ?_⟩
    dsimp only
    rw [up_eq]
    by_cases e : j = i
    · rw [e, up_eq]
    · rw [up_ne e]
      exact g3 j (by omega)
  · rintro ⟨y, J⟩ ⟨g1, g2, g3⟩
    dsimp only at g1 g2 g3
    subst g1
    unfold m_116_b5
    dsimp only
    rw [if_pos (show Int32.ofNat n ≤ nI n from Int32.le_refl _), wp_s, lq_r]
    exact ⟨J, rfl, g2, g3⟩
/-- the shelf that all begin with -/
def V0 (j : Nat) : Int32 := if j = 1 ∨ j = 2 then nI 0 else NO
theorem V0_WF : WF 2 1 V0 := by
  refine ⟨by decide, by decide, by decide, by decide, fun k hk hV => ?_, 1, by decide, by decide⟩
  unfold V0 at hV ⊢
  by_cases c : k = 1 ∨ k = 2
  · rw [if_pos c]
    refine ⟨?_, ?_, by decide, by decide⟩
    · rcases c with rfl | rfl <;> decide
    · rcases c with rfl | rfl <;> decide
  · rw [if_neg c] at hV
    exact absurd rfl hV
theorem c_113g {J : ai_I} {v : Nat} {R : ai_R} {G : ai_G} {k : Nat} {x : Int32} (hG : VG v R G) (hk : k < 256) (hx : J (v + 1) k = NO) : m_80 v (nI k) x J R G = some (va_up J (v + 1) (va_up (J (v + 1)) k x)) := by
  unfold m_80
  have hlt : (if J (v + 1) k < x then x else J (v + 1) k) = x := by
    rw [hx]
    by_cases c : NO < x
    · rw [if_pos c]
    · rw [if_neg c]
      exact Int32.le_antisymm (no_le x) (Int32.not_lt.1 c)
  rw [if_neg (nI_pos (by omega)), if_neg (nI_ge hk (by decide)), hG.1.1, hG.2.1 k hk, o_g_t, i_cl (by omega), hlt, o_b1_s, o_g_t, o_b1_s]
/-- a shelf as it begins -/
theorem c_new {I : ai_I} {v : Nat} {R : ai_R} {G : ai_G} {γ : Type} {F : ai_I → Option γ} {Q : γ → Prop} (hG : VG v R G) (hk : G.1 (v + 1) = 13) (hn : G.2.1 (v + 1) = 256) (h : ∀ K, CS K v 2 1 V0 → (∀ c, ¬ c = v → ¬ c = v + 1 → ¬ c = v + 2 → ¬ c = v + 3 → K c = I c) → wp (F K) Q) : wp (o_b1 (m_79 v (nI 2) (nI 1) I R G) (fun I_56 => o_b1 (m_80 v (nI 1) (nI 0) I_56 R G) (fun I_62 => o_b1 (m_80 v (nI 2) (nI 0) I_62 R G) (fun I_68 => o_b1 (m_81 v I_68 R G) (fun I_72 => F I_72))))) Q := by
  have h112 : wp (m_79 v (nI 2) (nI 1) I R G) (fun J => (∀ c, ¬ c = v → ¬ c = v + 1 → J c = I c) ∧ J v 0 = nI 2 ∧ J v 1 = nI 1 ∧ ∀ j, j < 256 → J (v + 1) j = NO) := by
    unfold m_79
    rw [o_b1_s, o_b1_s, o_b1_s, hG.1.1]
    refine wp_b1 (wp_mono (c_332g hk hn (by decide)) ?_)
    rintro J ⟨j1, j2⟩
    rw [wp_s]
    refine ⟨fun c c1 c2 => by rw [j1 c c2, up_ne c1, up_ne c1, up_ne c1], ?_, ?_, j2⟩
    · rw [j1 v (by omega), up_eq, up_ne (by decide), up_eq, up_ne (by decide), up_eq, up_eq]
    · rw [j1 v (by omega), up_eq, up_ne (by decide), up_eq, up_eq]
  refine wp_b1 (wp_mono h112 ?_)
  rintro J ⟨j1, j2, j3, j4⟩
  rw [c_113g hG (by decide) (j4 1 (by decide)), o_b1_s, c_113g hG (by decide) (by rw [up_eq, up_ne (by decide)]; exact j4 2 (by decide)), o_b1_s, up_eq]
  generalize hM : va_up (va_up J (v + 1) (va_up (J (v + 1)) 1 (nI 0))) (v + 1) (va_up (va_up (J (v + 1)) 1 (nI 0)) 2 (nI 0)) = M
  have m1 : ∀ c, ¬ c = v + 1 → M c = J c := fun c hc => by rw [← hM, up_ne hc, up_ne hc]
  have m2 : ∀ j, j < 256 → M (v + 1) j = V0 j := fun j hj => by
    rw [← hM, up_eq]
    unfold V0
    by_cases c2 : j = 2
    · rw [c2, up_eq, if_pos (Or.inr rfl)]
    · rw [up_ne c2]
      by_cases c1 : j = 1
      · rw [c1, up_eq, if_pos (Or.inl rfl)]
      · rw [up_ne c1, if_neg (by omega)]
        exact j4 j hj
  refine wp_b1 (wp_mono (c_114 hG V0_WF (by rw [m1 v (by omega)]; exact j2) (by rw [m1 v (by omega)]; exact j3) m2) ?_)
  rintro K ⟨k1, k2, k3⟩
  exact h K k1 (fun c c0 c1 c2 c3 => by rw [k2 c c0 c2 c3, m1 c c1, j1 c c0 c1])
def adl (k : Nat) : Nat → List (Nat × Nat × Nat)
  | 0 => []
  | i + 1 => (k + 1, i, k + 4 + 4 * i) :: (k + 4 + 4 * i, 5, k + 4 + 4 * i + 3) :: (k + 4 + 4 * i, 4, k + 4 + 4 * i + 2) :: (k + 4 + 4 * i, 3, k + 4 + 4 * i + 1) :: adl k i
theorem adl_le {k : Nat} : ∀ i, rle (k + 3 + 4 * i) (adl k i)
  | 0 => fun e he => by cases he
  | i + 1 => rle_c (rle_c (rle_c (rle_c (rle_s (adl_le i) (by omega)) (by omega)) (by omega)) (by omega)) (by omega)
theorem adl_gt {k : Nat} : ∀ i, ∀ e ∈ adl k i, k < e.1
  | 0, e, he => by cases he
  | i + 1, e, he => by
    rcases List.mem_cons.1 he with rfl | he
    · show k < k + 1
      omega
    · rcases List.mem_cons.1 he with rfl | he
      · show k < k + 4 + 4 * i
        omega
      · rcases List.mem_cons.1 he with rfl | he
        · show k < k + 4 + 4 * i
          omega
        · rcases List.mem_cons.1 he with rfl | he
          · show k < k + 4 + 4 * i
            omega
          · exact adl_gt i e he
theorem rf_app {b j : Nat} {l : List (Nat × Nat × Nat)} : ∀ {m : List (Nat × Nat × Nat)}, (∀ e ∈ m, ¬ e.1 = b) → rf (m ++ l) b j = rf l b j
  | [], _ => rfl
  | (a, i, x) :: m, h => by
    show (if b = a ∧ j = i then x else rf (m ++ l) b j) = _
    rw [if_neg (fun hh => h (a, i, x) List.mem_cons_self hh.1.symm), rf_app (fun e he => h e (List.mem_cons_of_mem _ he))]
theorem rle_a {k : Nat} {l m : List (Nat × Nat × Nat)} (h : rle k l) (h2 : rle k m) : rle k (l ++ m) := fun e he => by
  rcases List.mem_append.1 he with he | he
  · exact h e he
  · exact h2 e he
/-- a state is made -/
theorem c_95 {L k : Nat} {I : ai_I} {J : ai_J} {l : List (Nat × Nat × Nat)} (hk : k = 2 ∨ k = 22) (hZ : Zr k I) (hz : I k = fun _ => 0) (hl : rle k l) : wp (m_64 k I J (rf l) (Gk L k)) (fun q => q.2.2.1 = rf (adl k 4 ++ (k, 2, k + 3) :: (k, 1, k + 2) :: (k, 0, k + 1) :: l) ∧ q.2.2.2 = Gk L (k + 19) ∧ Zr (k + 19) q.1 ∧ (∀ c, c < k ∨ c = 1999 → q.1 c = I c) ∧ q.1 k 3 = nI 0 ∧ q.1 k 4 = nI 1 ∧ (q.1 (k + 2) = fun _ => 0) ∧ (q.1 (k + 3) = fun _ => 0) ∧ ∀ s, s < 4 → CS q.1 (k + 4 + 4 * s) 2 1 V0) := by
  have hk40 : k < 40 := by omega
  obtain ⟨u1, u2, u3, u4, u5, u6, u7⟩ := vk3 k hk40 hk
  unfold m_64
  rw [nn_t (by omega), o_g_t]
  refine al_r rfl (by omega) u2 u3 hl ?_
  refine st_r (by omega) (by omega) u1 ?_
  refine al_i rfl (by omega) u4 u5 (Zr_s hZ (by omega)) ?_
  refine st_r (by omega) (by omega) u1 ?_
  refine al_i rfl (by omega) u6 u7 (Zr_s hZ (by omega)) ?_
  refine st_r (by omega) (by omega) u1 ?_
  rw [o_b1_s, o_b1_s]
  generalize hI1 : va_up (va_up I k (va_up (I k) 3 (nI 0))) k (va_up (va_up I k (va_up (I k) 3 (nI 0)) k) 4 (nI 1)) = I1
  have i1 : ∀ c, ¬ c = k → I1 c = I c := fun c hc => by rw [← hI1, up_ne hc, up_ne hc]
  have i3 : I1 k 3 = nI 0 := by rw [← hI1, up_eq, up_ne (by decide), up_eq, up_eq]
  have i4 : I1 k 4 = nI 1 := by rw [← hI1, up_eq, up_eq]
  generalize hl2 : ((k, 2, k + 1 + 1 + 1) :: (k, 1, k + 1 + 1) :: (k, 0, k + 1) :: l : List (Nat × Nat × Nat)) = l2
  have hl2' : rle (k + 3) l2 := by
    rw [← hl2]
    exact rle_c (rle_c (rle_c (rle_s hl (by omega)) (by omega)) (by omega)) (by omega)
  refine wp_s1 (wp_lp (fun i s => s.1 = nI i ∧ s.2.2.2.1 = rf (adl k i ++ l2) ∧ s.2.2.2.2 = Gk L (k + 3 + 4 * i) ∧ Zr (k + 3 + 4 * i) s.2.1 ∧ (∀ c, c ≤ k + 3 ∨ c = 1999 → s.2.1 c = I1 c) ∧ ∀ x, x < i → CS s.2.1 (k + 4 + 4 * x) 2 1 V0) 0 4 (Nat.zero_le _) (by omega) ⟨rfl, rfl, rfl, fun a h1 h2 => (i1 a (by omega)).trans (hZ a (by omega) h2), fun _ _ => rfl, fun x hx => absurd hx (Nat.not_lt_zero _)⟩ ?_ ?_)
  · rintro i ⟨x, K, W, R, G⟩ hi ⟨g1, g2, g3, g4, g5, g6⟩
    dsimp only at g1 g2 g3 g4 g5 g6
    subst g1
    subst g2
    subst g3
    obtain ⟨w1, w2, w3, w4, w5, w6, w7, w8⟩ := vw k hk40 hk i hi
    unfold m_64_b40
    dsimp only
    rw [if_neg (nI_ge hi (by decide))]
    refine al_o (k2 := k + 4 + 4 * i) (by omega) (by omega) w1 w2 g4 (rle_a (adl_le i) (rle_s hl2' (by omega))) ?_
    intro J'
    refine wp_b3 (c_111 (by omega) (by omega) ⟨w1, w3, w4, w5, w6, w7, w8⟩ (Zr_s g4 (by omega)) ?_)
    dsimp only
    rw [o_kd_of (show (Gk L (k + 4 + 4 * i + 3)).1 (k + 4 + 4 * i) = 8 by
      show (if k + 4 + 4 * i = 1999 then 16 else if k + 4 + 4 * i ≤ k + 4 + 4 * i + 3 then kL.getD (k + 4 + 4 * i) 99 else 99) = 8
      rw [if_neg (by omega), if_pos (by omega), w1]), o_g_t]
    have hk13 : (Gk L (k + 4 + 4 * i + 3)).1 (k + 4 + 4 * i + 1) = 13 := by
      show (if k + 4 + 4 * i + 1 = 1999 then 16 else if k + 4 + 4 * i + 1 ≤ k + 4 + 4 * i + 3 then kL.getD (k + 4 + 4 * i + 1) 99 else 99) = 13
      rw [if_neg (by omega), if_pos (by omega), w3]
    have hn256 : (Gk L (k + 4 + 4 * i + 3)).2.1 (k + 4 + 4 * i + 1) = 256 := by
      show (if k + 4 + 4 * i + 1 = 1999 then L else if k + 4 + 4 * i + 1 ≤ k + 4 + 4 * i + 3 then nL.getD (k + 4 + 4 * i + 1) 0 else 0) = 256
      rw [if_neg (by omega), if_pos (by omega), w4]
    have hVG : VG (k + 4 + 4 * i) (rf ((k + 4 + 4 * i, 5, k + 4 + 4 * i + 3) :: (k + 4 + 4 * i, 4, k + 4 + 4 * i + 2) :: (k + 4 + 4 * i, 3, k + 4 + 4 * i + 1) :: (adl k i ++ l2))) (Gk L (k + 4 + 4 * i + 3)) := by
      refine ⟨⟨?_, ?_, ?_⟩, fun j hj => gk_in (by omega) (by omega) w3 w4 hj (by decide), fun j hj => gk_in (by omega) (by omega) w5 w6 hj (by decide), fun j hj => gk_in (by omega) (by omega) w7 w8 hj (by decide)⟩
      · unfold rf
        rw [if_neg (fun h => absurd h.2 (by decide))]
        unfold rf
        rw [if_neg (fun h => absurd h.2 (by decide))]
        unfold rf
        rw [if_pos ⟨rfl, rfl⟩]
      · unfold rf
        rw [if_neg (fun h => absurd h.2 (by decide))]
        unfold rf
        rw [if_pos ⟨rfl, rfl⟩]
      · unfold rf
        rw [if_pos ⟨rfl, rfl⟩]
    refine c_new hVG hk13 hn256 ?_
    intro K2 hCS hfr
    have hR : rf ((k + 4 + 4 * i, 5, k + 4 + 4 * i + 3) :: (k + 4 + 4 * i, 4, k + 4 + 4 * i + 2) :: (k + 4 + 4 * i, 3, k + 4 + 4 * i + 1) :: (adl k i ++ l2)) k 0 = k + 1 := by
      have up : ∀ e ∈ ((k + 4 + 4 * i, 5, k + 4 + 4 * i + 3) :: (k + 4 + 4 * i, 4, k + 4 + 4 * i + 2) :: (k + 4 + 4 * i, 3, k + 4 + 4 * i + 1) :: adl k i : List (Nat × Nat × Nat)), ¬ e.1 = k := fun e he => by
        rcases List.mem_cons.1 he with rfl | he
        · show ¬ k + 4 + 4 * i = k
          omega
        · rcases List.mem_cons.1 he with rfl | he
          · show ¬ k + 4 + 4 * i = k
            omega
          · rcases List.mem_cons.1 he with rfl | he
            · show ¬ k + 4 + 4 * i = k
              omega
            · have := adl_gt i e he
              omega
      refine (rf_app up).trans ?_
      rw [← hl2]
      unfold rf
      rw [if_neg (fun h => absurd h.2 (by decide))]
      unfold rf
      rw [if_neg (fun h => absurd h.2 (by decide))]
      unfold rf
      rw [if_pos ⟨rfl, rfl⟩]
    rw [o_kd_of (show (Gk L (k + 4 + 4 * i + 3)).1 k = 6 by
      show (if k = 1999 then 16 else if k ≤ k + 4 + 4 * i + 3 then kL.getD k 99 else 99) = 6
      rw [if_neg (by omega), if_pos (by omega), u1]), o_g_t, hR, gk_in (by omega) (by omega) u2 u3 hi (by decide), o_g_t, i_cl (by omega), rf_set, o_b1_s, i_add, o_b1_s, wp_s, lq_l]
    refine ⟨rfl, rfl, by dsimp only; rw [show k + 4 + 4 * i + 3 = k + 3 + 4 * (i + 1) by omega], fun a h1 h2 => ?_, fun c hc => ?_, fun x hx => ?_⟩
    · dsimp only
      rw [hfr a (by omega) (by omega) (by omega) (by omega)]
      exact g4 a (by omega) h2
    · dsimp only
      rw [hfr c (by omega) (by omega) (by omega) (by omega)]
      exact g5 c hc
    · dsimp only
      by_cases e : x = i
      · rw [e]
        exact hCS
      · exact CS_cong (fun _ _ => rfl) (hfr _ (by omega) (by omega) (by omega) (by omega)) (hfr _ (by omega) (by omega) (by omega) (by omega)) (hfr _ (by omega) (by omega) (by omega) (by omega)) (hfr _ (by omega) (by omega) (by omega) (by omega)) (g6 x (by omega))
  · rintro ⟨x, K, W, R, G⟩ ⟨g1, g2, g3, g4, g5, g6⟩
    dsimp only at g1 g2 g3 g4 g5 g6
    subst g1
    unfold m_64_b40
    dsimp only
    rw [if_pos (Int32.le_refl _), wp_s, lq_r]
    unfold m_64_x40_88
    rw [wp_s]
    refine ⟨?_, g3, g4, fun c hc => by dsimp only; rw [g5 c (by omega), i1 c (by omega)], by dsimp only; rw [g5 k (by omega)]; exact i3, by dsimp only; rw [g5 k (by omega)]; exact i4, by dsimp only; rw [g5 (k + 2) (by omega), i1 (k + 2) (by omega)]; exact hZ _ (by omega) (by omega), by dsimp only; rw [g5 (k + 3) (by omega), i1 (k + 3) (by omega)]; exact hZ _ (by omega) (by omega), g6⟩
    dsimp only
    rw [g2, ← hl2]
