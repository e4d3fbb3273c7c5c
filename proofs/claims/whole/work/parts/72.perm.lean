/-! Rows: counts by injections, codes of rows, how many rows go on. -/
theorem len_inj {φ : Nat → Nat} : ∀ (l l' : List Nat), l.Nodup → (∀ x, x ∈ l → φ x ∈ l') → (∀ x y, x ∈ l → y ∈ l → φ x = φ y → x = y) → l.length ≤ l'.length
  | [], _, _, _, _ => Nat.zero_le _
  | x :: l, l', hn, hs, hi => by
    have hn2 := List.nodup_cons.1 hn
    have hx := hs x List.mem_cons_self
    have h := len_inj l (l'.erase (φ x)) hn2.2 (fun y hy => (List.mem_erase_of_ne (fun e => hn2.1 ((hi x y List.mem_cons_self (List.mem_cons_of_mem _ hy) e.symm).symm ▸ hy))).2 (hs y (List.mem_cons_of_mem _ hy))) (fun a b ha hb => hi a b (List.mem_cons_of_mem _ ha) (List.mem_cons_of_mem _ hb))
    rw [List.length_erase_of_mem hx] at h
    have := List.length_pos_of_mem hx
    rw [List.length_cons]
    omega
theorem len_hit {φ : Nat → Nat} {l l' : List Nat} {y : Nat} (hn : l.Nodup) (hs : ∀ x, x ∈ l → φ x ∈ l') (hi : ∀ x y, x ∈ l → y ∈ l → φ x = φ y → x = y) (hl : l'.length ≤ l.length) (hy : y ∈ l') : ∃ x, x ∈ l ∧ φ x = y := by
  apply Classical.byContradiction
  intro hc
  have h := len_inj (φ := φ) l (l'.erase y) hn (fun x hx => (List.mem_erase_of_ne (fun e => hc ⟨x, hx, e⟩)).2 (hs x hx)) hi
  rw [List.length_erase_of_mem hy] at h
  have := List.length_pos_of_mem hy
  omega
theorem nd_range {k : Nat} : (List.range k).Nodup := List.nodup_range
theorem fln_inj {p q : Nat → Bool} {N M : Nat} (φ : Nat → Nat) (h : ∀ c, c < N → p c = true → φ c < M ∧ q (φ c) = true) (hi : ∀ c d, c < N → d < N → p c = true → p d = true → φ c = φ d → c = d) : fln p N ≤ fln q M := by
  unfold fln
  refine len_inj (φ := φ) _ _ (List.Pairwise.filter _ nd_range) (fun x hx => ?_) (fun x y hx hy => ?_)
  · have h1 := List.mem_filter.1 hx
    have h2 := h x (List.mem_range.1 h1.1) h1.2
    exact List.mem_filter.2 ⟨List.mem_range.2 h2.1, h2.2⟩
  · have h1 := List.mem_filter.1 hx
    have h2 := List.mem_filter.1 hy
    exact hi x y (List.mem_range.1 h1.1) (List.mem_range.1 h2.1) h1.2 h2.2
theorem fln_or {p q s : Nat → Bool} : ∀ (N : Nat), (∀ c, c < N → s c = (p c || q c)) → (∀ c, c < N → p c = true → q c = false) → fln s N = fln p N + fln q N
  | 0, _, _ => rfl
  | N + 1, h, hd => by
    have ih := fln_or N (fun c hc => h c (by omega)) (fun c hc => hd c (by omega))
    rw [fln_succ, fln_succ, fln_succ, h N (by omega), ih]
    cases e : p N with
    | true =>
      rw [hd N (by omega) e]
      show fln p N + fln q N + 1 = fln p N + 1 + fln q N
      omega
    | false =>
      cases e2 : q N with
      | true =>
        show fln p N + fln q N + 1 = fln p N + (fln q N + 1)
        omega
      | false => rfl
theorem fln_0 {p : Nat → Bool} : ∀ (N : Nat), (∀ c, c < N → p c = false) → fln p N = 0
  | 0, _ => rfl
  | N + 1, h => by
    rw [fq_f (h N (by omega))]
    exact fln_0 N (fun c hc => h c (by omega))
theorem cl_iff {p : Nat → Prop} {x : Nat} : cl p x = true ↔ p x := ⟨fun h => @of_decide_eq_true _ (Classical.propDecidable _) h, cl_t⟩
/-- the image of a set -/
def im (σ : Nat → Nat) (S : Nat) : Nat → Nat
  | 0 => 0
  | k + 1 => if S.testBit k = true then im σ S k ||| 2 ^ σ k else im σ S k
theorem im_tb {σ : Nat → Nat} {S x : Nat} : ∀ k, ((im σ S k).testBit x = true ↔ ∃ i, i < k ∧ S.testBit i = true ∧ σ i = x)
  | 0 => by
    show Nat.testBit 0 x = true ↔ _
    rw [Nat.zero_testBit]
    exact ⟨(fun h => by cases h), fun ⟨i, hi, _⟩ => absurd hi (Nat.not_lt_zero _)⟩
  | k + 1 => by
    have ih := im_tb (σ := σ) (S := S) (x := x) k
    show ((if S.testBit k = true then im σ S k ||| 2 ^ σ k else im σ S k).testBit x = true ↔ _)
    by_cases c : S.testBit k = true
    · rw [if_pos c, Nat.testBit_or, Nat.testBit_two_pow]
      constructor
      · intro h
        cases e : (im σ S k).testBit x with
        | true =>
          obtain ⟨i, h1, h2, h3⟩ := ih.1 e
          exact ⟨i, by omega, h2, h3⟩
        | false =>
          rw [e, Bool.false_or] at h
          exact ⟨k, by omega, c, of_decide_eq_true h⟩
      · rintro ⟨i, h1, h2, h3⟩
        by_cases e : i = k
        · subst e
          rw [decide_eq_true h3, Bool.or_true]
        · rw [ih.2 ⟨i, by omega, h2, h3⟩, Bool.true_or]
    · rw [if_neg c, ih]
      constructor
      · rintro ⟨i, h1, h2, h3⟩
        exact ⟨i, by omega, h2, h3⟩
      · rintro ⟨i, h1, h2, h3⟩
        by_cases e : i = k
        · subst e
          exact absurd h2 c
        · exact ⟨i, by omega, h2, h3⟩
theorem tb_ext {a b : Nat} (h : ∀ x, (a.testBit x = true ↔ b.testBit x = true)) : a = b := Nat.eq_of_testBit_eq (fun x => Bool.eq_iff_iff.2 (h x))
theorem im_cong {σ τ : Nat → Nat} {S : Nat} : ∀ k, (∀ i, i < k → σ i = τ i) → im σ S k = im τ S k
  | 0, _ => rfl
  | k + 1, h => by
    show (if _ then _ else _) = (if _ then _ else _)
    rw [im_cong k (fun i hi => h i (by omega)), h k (by omega)]
theorem im_lt {σ : Nat → Nat} {S m : Nat} : ∀ k, (∀ i, i < k → S.testBit i = true → σ i < m) → im σ S k < 2 ^ m
  | 0, _ => Nat.two_pow_pos m
  | k + 1, h => by
    have ih := im_lt k (fun i hi => h i (by omega))
    show (if _ then _ else _) < _
    by_cases c : S.testBit k = true
    · rw [if_pos c]
      exact Nat.or_lt_two_pow ih (Nat.pow_lt_pow_right (by decide) (h k (by omega) c))
    · rw [if_neg c]
      exact ih
theorem im_up {σ : Nat → Nat} {S a : Nat} (hS : S < 2 ^ a) : ∀ k, im σ S (a + k) = im σ S a
  | 0 => rfl
  | k + 1 => by
    show (if S.testBit (a + k) = true then _ else im σ S (a + k)) = _
    rw [Nat.testBit_lt_two_pow (Nat.lt_of_lt_of_le hS (Nat.pow_le_pow_right (by decide) (by omega))), if_neg (by decide), im_up hS k]
theorem im_8 {σ : Nat → Nat} {S a : Nat} (hS : S < 2 ^ a) (ha : a ≤ 8) : im σ S 8 = im σ S a := by
  have h := im_up (σ := σ) hS (8 - a)
  rw [show a + (8 - a) = 8 by omega] at h
  exact h
theorem im_or {σ : Nat → Nat} {b a : Nat} (hb : b < 2 ^ a) : im σ (b ||| 2 ^ a) (a + 1) = im σ b a ||| 2 ^ σ a := by
  show (if (b ||| 2 ^ a).testBit a = true then im σ (b ||| 2 ^ a) a ||| 2 ^ σ a else im σ (b ||| 2 ^ a) a) = _
  have e : im σ (b ||| 2 ^ a) a = im σ b a := tb_ext (fun x => by
    rw [im_tb, im_tb]
    constructor
    · rintro ⟨i, h1, h2, h3⟩
      rw [Nat.testBit_or, Nat.testBit_two_pow, decide_eq_false (by omega), Bool.or_false] at h2
      exact ⟨i, h1, h2, h3⟩
    · rintro ⟨i, h1, h2, h3⟩
      exact ⟨i, h1, by rw [Nat.testBit_or, h2, Bool.true_or], h3⟩)
  rw [if_pos (by rw [Nat.testBit_or, Nat.testBit_two_pow_self, Bool.or_true]), e]
theorem im_comp {σ τ : Nat → Nat} {S : Nat} (h : ∀ i, i < 8 → σ i < 8) : im τ (im σ S 8) 8 = im (fun i => τ (σ i)) S 8 := tb_ext (fun x => by
  rw [im_tb, im_tb]
  constructor
  · rintro ⟨j, h1, h2, h3⟩
    obtain ⟨i, g1, g2, g3⟩ := (im_tb 8).1 h2
    exact ⟨i, g1, g2, by show τ (σ i) = x; rw [g3, h3]⟩
  · rintro ⟨i, h1, h2, h3⟩
    exact ⟨σ i, h i h1, (im_tb 8).2 ⟨i, h1, h2, rfl⟩, h3⟩)
theorem im_id {σ : Nat → Nat} {S : Nat} (h : ∀ i, i < 8 → σ i = i) (hS : S < 256) : im σ S 8 = S := tb_ext (fun x => by
  rw [im_tb]
  constructor
  · rintro ⟨i, h1, h2, h3⟩
    rw [h i h1] at h3
    exact h3 ▸ h2
  · intro h2
    have hx : x < 8 := by
      apply Nat.lt_of_not_le
      intro h3
      rw [tb_hi (n := 8) hS h3] at h2
      cases h2
    exact ⟨x, hx, h2, h x hx⟩)
theorem im_inj {σ : Nat → Nat} {S T : Nat} (h : ∀ i j, i < 8 → j < 8 → σ i = σ j → i = j) (hS : S < 256) (hT : T < 256) (e : im σ S 8 = im σ T 8) : S = T := by
  have one : ∀ {A B : Nat}, A < 256 → im σ A 8 = im σ B 8 → ∀ x, A.testBit x = true → B.testBit x = true := fun {A B} hA e x hx => by
    have hx8 : x < 8 := by
      apply Nat.lt_of_not_le
      intro h3
      rw [tb_hi (n := 8) hA h3] at hx
      cases hx
    have h1 := (im_tb (σ := σ) (S := A) (x := σ x) 8).2 ⟨x, hx8, hx, rfl⟩
    rw [e] at h1
    obtain ⟨i, g1, g2, g3⟩ := (im_tb 8).1 h1
    rw [h i x g1 hx8 g3] at g2
    exact g2
  exact tb_ext (fun x => ⟨one hS e x, one hT e.symm x⟩)
/-- rows of n of eight -/
def PM (n : Nat) (σ : Nat → Nat) : Prop := (∀ i, i < 8 → σ i < 8) ∧ (∀ i j, i < 8 → j < 8 → σ i = σ j → i = j) ∧ ∀ i, n ≤ i → i < 8 → σ i = i
theorem PM_hit {n x : Nat} {σ : Nat → Nat} (h : PM n σ) (hx : x < 8) : ∃ i, i < 8 ∧ σ i = x := by
  obtain ⟨i, h1, h2⟩ := len_hit (φ := σ) (l := List.range 8) (l' := List.range 8) (y := x) nd_range (fun x hx => List.mem_range.2 (h.1 x (List.mem_range.1 hx))) (fun a b ha hb => h.2.1 a b (List.mem_range.1 ha) (List.mem_range.1 hb)) (Nat.le_refl _) (List.mem_range.2 hx)
  exact ⟨i, List.mem_range.1 h1, h2⟩
theorem PM_lt {n i : Nat} {σ : Nat → Nat} (h : PM n σ) (hn : n ≤ 8) (hi : i < n) : σ i < n := by
  apply Nat.lt_of_not_le
  intro h2
  have h3 := h.1 i (by omega)
  have h4 := h.2.1 _ _ h3 (by omega) (h.2.2 _ h2 h3)
  omega
theorem PM_cong {n : Nat} {σ τ : Nat → Nat} (e : ∀ i, i < 8 → σ i = τ i) (h : PM n σ) : PM n τ := ⟨fun i hi => by rw [← e i hi]; exact h.1 i hi, fun i j hi hj => by rw [← e i hi, ← e j hj]; exact h.2.1 i j hi hj, fun i h1 h2 => by rw [← e i h2]; exact h.2.2 i h1 h2⟩
theorem PM_comp {n : Nat} {σ τ : Nat → Nat} (h : PM n σ) (h2 : PM n τ) : PM n (fun i => τ (σ i)) := ⟨fun i hi => h2.1 _ (h.1 i hi), fun i j hi hj e => h.2.1 i j hi hj (h2.2.1 _ _ (h.1 i hi) (h.1 j hj) e), fun i h3 h4 => by show τ (σ i) = i; rw [h.2.2 i h3 h4, h2.2.2 i h3 h4]⟩
theorem PM_im {n S : Nat} {σ : Nat → Nat} (h : PM n σ) (hn : n ≤ 8) (hS : S < 2 ^ n) : im σ S 8 < 2 ^ n := by
  rw [im_8 hS hn]
  exact im_lt n (fun i hi _ => PM_lt h hn hi)
theorem PM_inv {n : Nat} {σ : Nat → Nat} (h : PM n σ) : ∃ τ, PM n τ ∧ (∀ i, i < 8 → τ (σ i) = i) ∧ ∀ x, x < 8 → σ (τ x) = x := by
  have hc : ∀ x, ∃ i, x < 8 → i < 8 ∧ σ i = x := fun x => by
    by_cases hx : x < 8
    · obtain ⟨i, h1⟩ := PM_hit h hx
      exact ⟨i, fun _ => h1⟩
    · exact ⟨0, fun h => absurd h hx⟩
  refine ⟨fun x => Classical.choose (hc x), ?_⟩
  have hs : ∀ x, x < 8 → Classical.choose (hc x) < 8 ∧ σ (Classical.choose (hc x)) = x := fun x => Classical.choose_spec (hc x)
  have h1 : ∀ i, i < 8 → Classical.choose (hc (σ i)) = i := fun i hi => h.2.1 _ _ (hs _ (h.1 i hi)).1 hi (hs _ (h.1 i hi)).2
  refine ⟨⟨fun i hi => (hs i hi).1, fun i j hi hj e => (hs i hi).2.symm.trans ((congrArg σ e).trans (hs j hj).2), fun i h2 h3 => ?_⟩, h1, fun x hx => (hs x hx).2⟩
  have h4 := h1 i h3
  rw [h.2.2 i h2 h3] at h4
  exact h4
/-- rows that carry V over to W -/
def Sol (n : Nat) (V W : Nat → Int32) (σ : Nat → Nat) : Prop := PM n σ ∧ ∀ S, S < 2 ^ n → V S = W (im σ S 8)
theorem Sol_cong {n : Nat} {V W : Nat → Int32} {σ τ : Nat → Nat} (e : ∀ i, i < 8 → σ i = τ i) (h : Sol n V W σ) : Sol n V W τ := ⟨PM_cong e h.1, fun S hS => by rw [← im_cong 8 e]; exact h.2 S hS⟩
theorem Sol_mv {n : Nat} {V W : Nat → Int32} {f g : Nat → Nat} (hn : n ≤ 8) (hf : Sol n V W f) (hg : Sol n V W g) : ∃ ρ, PM n ρ ∧ (∀ i, i < 8 → ρ (f i) = g i) ∧ ∀ σ, Sol n V W σ → Sol n V W (fun i => ρ (σ i)) := by
  obtain ⟨τ, t1, t2, t3⟩ := PM_inv hf.1
  have hρ : PM n (fun x => g (τ x)) := PM_comp (σ := τ) (τ := g) t1 hg.1
  refine ⟨fun x => g (τ x), hρ, fun i hi => by show g (τ (f i)) = _; rw [t2 i hi], fun σ hσ => ⟨PM_comp (σ := σ) (τ := fun x => g (τ x)) hσ.1 hρ, fun S hS => ?_⟩⟩
  have h8 := p2_le hn
  have hX : im σ S 8 < 2 ^ n := PM_im hσ.1 hn hS
  have hY : im τ (im σ S 8) 8 < 2 ^ n := PM_im t1 hn hX
  have e1 : im f (im τ (im σ S 8) 8) 8 = im σ S 8 := by
    rw [im_comp t1.1]
    exact im_id (fun i hi => t3 i hi) (by omega)
  have e2 := hf.2 _ hY
  rw [e1] at e2
  rw [hσ.2 S hS, ← e2, hg.2 _ hY, im_comp t1.1, im_comp hσ.1.1]
/-- codes of rows -/
def cdk (σ : Nat → Nat) : Nat → Nat
  | 0 => 0
  | k + 1 => 8 * cdk σ k + σ k
def cd (σ : Nat → Nat) : Nat := cdk σ 8
def dc (c i : Nat) : Nat := c / 8 ^ (7 - i) % 8
theorem dc_lt {c i : Nat} : dc c i < 8 := Nat.mod_lt _ (by decide)
theorem cdk_cong {σ τ : Nat → Nat} : ∀ k, (∀ i, i < k → σ i = τ i) → cdk σ k = cdk τ k
  | 0, _ => rfl
  | k + 1, h => by
    show 8 * _ + _ = 8 * _ + _
    rw [cdk_cong k (fun i hi => h i (by omega)), h k (by omega)]
theorem cdk_lt {σ : Nat → Nat} (h : ∀ i, i < 8 → σ i < 8) : ∀ k, k ≤ 8 → cdk σ k < 8 ^ k
  | 0, _ => Nat.one_pos
  | k + 1, hk => by
    have ih := cdk_lt h k (by omega)
    have := h k (by omega)
    show 8 * cdk σ k + σ k < _
    rw [Nat.pow_succ]
    omega
theorem cdk_mono {σ τ : Nat → Nat} (h : ∀ i, i < 8 → σ i < 8) {d : Nat} (he : ∀ i, i < d → σ i = τ i) (hd : σ d < τ d) : ∀ k, k < 8 → d ≤ k → cdk σ (k + 1) < cdk τ (k + 1)
  | 0, _, hk => by
    obtain rfl : d = 0 := by omega
    show 8 * 0 + σ 0 < 8 * 0 + τ 0
    omega
  | k + 1, h8, hk => by
    show 8 * cdk σ (k + 1) + σ (k + 1) < 8 * cdk τ (k + 1) + τ (k + 1)
    by_cases e : d = k + 1
    · subst e
      rw [cdk_cong (k + 1) he]
      omega
    · have ih := cdk_mono h he hd k (by omega) (by omega)
      have := h (k + 1) (by omega)
      omega
theorem cdk_div {σ : Nat → Nat} (h : ∀ i, i < 8 → σ i < 8) {k : Nat} : ∀ m, k + m ≤ 8 → cdk σ (k + m) / 8 ^ m = cdk σ k
  | 0, _ => Nat.div_one _
  | m + 1, hm => by
    have ih := cdk_div h (k := k) m (by omega)
    have := h (k + m) (by omega)
    show (8 * cdk σ (k + m) + σ (k + m)) / 8 ^ (m + 1) = _
    rw [show 8 ^ (m + 1) = 8 * 8 ^ m by rw [Nat.pow_succ, Nat.mul_comm], ← Nat.div_div_eq_div_mul, show (8 * cdk σ (k + m) + σ (k + m)) / 8 = cdk σ (k + m) by omega, ih]
theorem dc_cd {σ : Nat → Nat} (h : ∀ i, i < 8 → σ i < 8) {i : Nat} (hi : i < 8) : dc (cd σ) i = σ i := by
  have h1 := cdk_div h (k := i + 1) (7 - i) (by omega)
  rw [show i + 1 + (7 - i) = 8 by omega] at h1
  unfold dc cd
  rw [h1]
  show (8 * cdk σ i + σ i) % 8 = σ i
  have := h i hi
  omega
theorem cd_dc {c : Nat} (hc : c < 8 ^ 8) : cd (dc c) = c := by
  have h : ∀ k, k ≤ 8 → cdk (dc c) k = c / 8 ^ (8 - k) := by
    intro k
    induction k with
    | zero => intro _; exact (Nat.div_eq_of_lt hc).symm
    | succ k ih =>
      intro hk
      show 8 * cdk (dc c) k + dc c k = _
      rw [ih (by omega)]
      unfold dc
      rw [show 8 - k = (7 - k) + 1 by omega, Nat.pow_succ, ← Nat.div_div_eq_div_mul, show 8 - (k + 1) = 7 - k by omega]
      exact Nat.div_add_mod _ _
  exact (h 8 (Nat.le_refl _)).trans (Nat.div_one _)
theorem cd_lt {σ : Nat → Nat} (h : ∀ i, i < 8 → σ i < 8) : cd σ < 8 ^ 8 := cdk_lt h 8 (Nat.le_refl _)
theorem cd_eq {σ τ : Nat → Nat} (h : ∀ i, i < 8 → σ i < 8) (h2 : ∀ i, i < 8 → τ i < 8) (e : cd σ = cd τ) {i : Nat} (hi : i < 8) : σ i = τ i := by rw [← dc_cd h hi, e, dc_cd h2 hi]
theorem fst_df {σ τ : Nat → Nat} : ∀ k, (∀ i, i < k → σ i = τ i) ∨ ∃ d, d < k ∧ (∀ i, i < d → σ i = τ i) ∧ ¬ σ d = τ d
  | 0 => Or.inl (fun i hi => absurd hi (Nat.not_lt_zero _))
  | k + 1 => by
    rcases fst_df (σ := σ) (τ := τ) k with h | ⟨d, h1, h2⟩
    · by_cases e : σ k = τ k
      · refine Or.inl (fun i hi => ?_)
        by_cases e2 : i = k
        · rw [e2]
          exact e
        · exact h i (by omega)
      · exact Or.inr ⟨k, by omega, h, e⟩
    · exact Or.inr ⟨d, by omega, h2⟩
theorem cd_lx {σ τ : Nat → Nat} (h : ∀ i, i < 8 → σ i < 8) (h2 : ∀ i, i < 8 → τ i < 8) (e : cd σ < cd τ) : ∃ d, d < 8 ∧ (∀ i, i < d → σ i = τ i) ∧ σ d < τ d := by
  rcases fst_df (σ := σ) (τ := τ) 8 with h3 | ⟨d, h3, h4, h5⟩
  · have e2 : cd σ = cd τ := cdk_cong 8 h3
    omega
  · refine ⟨d, h3, h4, ?_⟩
    apply Nat.lt_of_not_le
    intro h6
    have h7 : cd τ < cd σ := cdk_mono h2 (fun i hi => (h4 i hi).symm) (show τ d < σ d by omega) 7 (by omega) (by omega)
    omega
theorem lx_cd {σ τ : Nat → Nat} (h : ∀ i, i < 8 → σ i < 8) {d : Nat} (hd : d < 8) (he : ∀ i, i < d → σ i = τ i) (h2 : σ d < τ d) : cd σ < cd τ := cdk_mono h he h2 7 (by omega) (by omega)
/-- how many rows carry V over to W and begin as f does -/
def ag (f : Nat → Nat) (a : Nat) (τ : Nat → Nat) : Prop := ∀ i, i < a → τ i = f i
noncomputable def NS (n : Nat) (V W : Nat → Int32) (f : Nat → Nat) (a : Nat) : Nat := fln (cl (fun c => Sol n V W (dc c) ∧ ag f a (dc c))) (8 ^ 8)
/-- e can stand next -/
def gn (n : Nat) (V W : Nat → Int32) (f : Nat → Nat) (a e : Nat) : Prop := ∃ τ, Sol n V W τ ∧ ag f a τ ∧ τ a = e
theorem NS_le {n : Nat} {V W : Nat → Int32} {f g : Nat → Nat} {p q : (Nat → Nat) → Prop} (hn : n ≤ 8) (hf : Sol n V W f) (hg : Sol n V W g) (hq : ∀ ρ σ, PM n ρ → (∀ i, i < 8 → ρ (f i) = g i) → PM n σ → p σ → q (fun i => ρ (σ i))) (hc : ∀ σ τ, (∀ i, i < 8 → σ i = τ i) → q σ → q τ) : fln (cl (fun c => Sol n V W (dc c) ∧ p (dc c))) (8 ^ 8) ≤ fln (cl (fun c => Sol n V W (dc c) ∧ q (dc c))) (8 ^ 8) := by
  obtain ⟨ρ, r1, r2, r3⟩ := Sol_mv hn hf hg
  refine fln_inj (fun c => cd (fun i => ρ (dc c i))) (fun c hc1 hp => ?_) (fun c d hc1 hd1 hp1 hp2 e => ?_)
  · have h := (cl_iff.1 hp)
    have hb : ∀ i, i < 8 → ρ (dc c i) < 8 := fun i hi => r1.1 _ dc_lt
    refine ⟨cd_lt hb, cl_iff.2 ⟨Sol_cong (fun i hi => (dc_cd hb hi).symm) (r3 _ h.1), hc _ _ (fun i hi => (dc_cd hb hi).symm) (hq ρ _ r1 r2 h.1.1 h.2)⟩⟩
  · have hb : ∀ c i, i < 8 → ρ (dc c i) < 8 := fun c i hi => r1.1 _ dc_lt
    have h1 : cd (dc c) = cd (dc d) := cdk_cong 8 (fun i hi => r1.2.1 _ _ dc_lt dc_lt (cd_eq (hb c) (hb d) e hi))
    rw [cd_dc hc1, cd_dc hd1] at h1
    exact h1
theorem ag_cong {f : Nat → Nat} {a : Nat} {σ τ : Nat → Nat} (ha : a ≤ 8) (e : ∀ i, i < 8 → σ i = τ i) (h : ag f a σ) : ag f a τ := fun i hi => by rw [← e i (by omega)]; exact h i hi
theorem NS_one {n a e : Nat} {V W : Nat → Int32} {f : Nat → Nat} (hn : n ≤ 8) (ha : a < 8) (hf : Sol n V W f) (h : gn n V W f a e) : fln (cl (fun c => Sol n V W (dc c) ∧ (ag f a (dc c) ∧ dc c a = e))) (8 ^ 8) = NS n V W f (a + 1) := by
  obtain ⟨τ, t1, t2, t3⟩ := h
  refine Nat.le_antisymm ?_ ?_
  · exact NS_le (p := fun σ => ag f a σ ∧ σ a = e) (q := ag f (a + 1)) hn t1 hf (fun ρ σ r1 r2 s1 s2 i hi => by
      show ρ (σ i) = f i
      by_cases c : i = a
      · rw [c, s2.2, ← t3, r2 a ha]
      · rw [s2.1 i (by omega), ← t2 i (by omega), r2 i (by omega), t2 i (by omega)]) (fun σ τ e h => ag_cong (by omega) e h)
  · exact NS_le (p := ag f (a + 1)) (q := fun σ => ag f a σ ∧ σ a = e) hn hf t1 (fun ρ σ r1 r2 s1 s2 => ⟨fun i hi => by
      show ρ (σ i) = f i
      rw [s2 i (by omega), r2 i (by omega), t2 i hi], by
      show ρ (σ a) = e
      rw [s2 a (by omega), r2 a ha, t3]⟩) (fun σ τ e h => ⟨ag_cong (by omega) e h.1, by rw [← e a ha]; exact h.2⟩)
theorem NS_sum {n a : Nat} {V W : Nat → Int32} {f : Nat → Nat} (hn : n ≤ 8) (ha : a < 8) (hf : Sol n V W f) : ∀ k, fln (cl (fun c => Sol n V W (dc c) ∧ (ag f a (dc c) ∧ dc c a < k))) (8 ^ 8) = fln (cl (gn n V W f a)) k * NS n V W f (a + 1)
  | 0 => by
    rw [fln_0 _ (fun c _ => cl_f (fun h => absurd h.2.2 (Nat.not_lt_zero _)))]
    exact (Nat.zero_mul _).symm
  | k + 1 => by
    have ih := NS_sum hn ha hf k
    have e : fln (cl (fun c => Sol n V W (dc c) ∧ (ag f a (dc c) ∧ dc c a < k + 1))) (8 ^ 8) = fln (cl (fun c => Sol n V W (dc c) ∧ (ag f a (dc c) ∧ dc c a < k))) (8 ^ 8) + fln (cl (fun c => Sol n V W (dc c) ∧ (ag f a (dc c) ∧ dc c a = k))) (8 ^ 8) := fln_or _ (fun c _ => by
      rw [Bool.eq_iff_iff, Bool.or_eq_true, cl_iff, cl_iff, cl_iff]
      constructor
      · rintro ⟨h1, h2, h3⟩
        by_cases c1 : dc c a = k
        · exact Or.inr ⟨h1, h2, c1⟩
        · exact Or.inl ⟨h1, h2, by omega⟩
      · rintro (⟨h1, h2, h3⟩ | ⟨h1, h2, h3⟩)
        · exact ⟨h1, h2, by omega⟩
        · exact ⟨h1, h2, by omega⟩) (fun c _ h => cl_f (fun h2 => by
          have h1 := (cl_iff.1 h).2.2
          have h3 := h2.2.2
          omega))
    rw [e, ih]
    by_cases g : gn n V W f a k
    · rw [NS_one hn ha hf g, fln_t g, Nat.add_mul, Nat.one_mul]
    · have e0 : fln (cl (fun c => Sol n V W (dc c) ∧ (ag f a (dc c) ∧ dc c a = k))) (8 ^ 8) = 0 := fln_0 _ (fun c _ => cl_f (fun h => g ⟨dc c, h.1, h.2.1, h.2.2⟩))
      rw [fln_f g, e0, Nat.add_zero]
theorem NS_step {n a : Nat} {V W : Nat → Int32} {f : Nat → Nat} (hn : n ≤ 8) (ha : a < n) (hf : Sol n V W f) : NS n V W f a = fln (cl (gn n V W f a)) n * NS n V W f (a + 1) := by
  rw [← NS_sum hn (by omega) hf n]
  refine fln_cong _ (fun c _ => ?_)
  rw [Bool.eq_iff_iff, cl_iff, cl_iff]
  exact ⟨fun h => ⟨h.1, h.2, PM_lt h.1.1 hn ha⟩, fun h => ⟨h.1, h.2.1⟩⟩
theorem fln_one {p : Nat → Bool} {c0 : Nat} : ∀ N, (∀ c, c < N → (p c = true ↔ c = c0)) → fln p N = if c0 < N then 1 else 0
  | 0, _ => rfl
  | N + 1, h => by
    have ih := fln_one N (fun c hc => h c (by omega))
    by_cases e : N = c0
    · rw [fq_t ((h N (by omega)).2 e), ih, if_neg (by omega), if_pos (by omega)]
    · rw [fq_f (by cases h9 : p N; rfl; exact absurd ((h N (by omega)).1 h9) e), ih]
      by_cases c : c0 < N
      · rw [if_pos c, if_pos (by omega)]
      · rw [if_neg c, if_neg (by omega)]
theorem NS_end {n : Nat} {V W : Nat → Int32} {f : Nat → Nat} (hn : n ≤ 8) (hf : Sol n V W f) : NS n V W f n = 1 := by
  unfold NS
  rw [fln_one (c0 := cd f) _ (fun c hc => ?_), if_pos (cd_lt hf.1.1)]
  rw [cl_iff]
  constructor
  · rintro ⟨h1, h2⟩
    rw [← cd_dc hc]
    exact cdk_cong 8 (fun i hi => by
      by_cases c : i < n
      · exact h2 i c
      · rw [h1.1.2.2 i (by omega) hi, hf.1.2.2 i (by omega) hi])
  · rintro rfl
    exact ⟨Sol_cong (fun i hi => (dc_cd hf.1.1 hi).symm) hf, fun i hi => dc_cd hf.1.1 (by omega)⟩
theorem NS_zero {n : Nat} {V W : Nat → Int32} {f : Nat → Nat} : NS n V W f 0 = fln (cl (fun c => Sol n V W (dc c))) (8 ^ 8) := by
  refine fln_cong _ (fun c _ => ?_)
  rw [Bool.eq_iff_iff, cl_iff, cl_iff]
  exact ⟨fun h => h.1, fun h => ⟨h, fun i hi => absurd hi (Nat.not_lt_zero _)⟩⟩
