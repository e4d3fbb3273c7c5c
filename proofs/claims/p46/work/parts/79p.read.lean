/-! Out of whole's part 79p.read, by wip/p46/extract.py. -/
def isA (T : Nat → Nat) (n p c : Nat) : Bool := decide (p < n ∧ T p = c)
def dgt (T : Nat → Nat) (n p : Nat) : Bool := decide (p < n ∧ 48 ≤ T p ∧ T p ≤ 57)
def ltr (T : Nat → Nat) (n p : Nat) : Bool := decide (p < n ∧ 97 ≤ T p ∧ T p ≤ 122)
theorem isA_i {T : Nat → Nat} {n p c : Nat} : isA T n p c = true ↔ p < n ∧ T p = c := decide_eq_true_iff
theorem dgt_i {T : Nat → Nat} {n p : Nat} : dgt T n p = true ↔ p < n ∧ 48 ≤ T p ∧ T p ≤ 57 := decide_eq_true_iff
theorem ltr_i {T : Nat → Nat} {n p : Nat} : ltr T n p = true ↔ p < n ∧ 97 ≤ T p ∧ T p ≤ 122 := decide_eq_true_iff
/-- how many in a row from p on, m at most -/
def rnl (P : Nat → Bool) : Nat → Nat → Nat
  | _, 0 => 0
  | p, m + 1 => if P p = true then 1 + rnl P (p + 1) m else 0
theorem rnl_is {P : Nat → Bool} : ∀ m p i, (∀ j, j < i → P (p + j) = true) → i ≤ m → (i = m ∨ ¬ P (p + i) = true) → rnl P p m = i
  | 0, p, i, h, hi, _ => by
    obtain rfl : i = 0 := by omega
    rfl
  | m + 1, p, 0, h, hi, he => if_neg (by
    rcases he with he | he
    · omega
    · exact he)
  | m + 1, p, i + 1, h, hi, he => by
    have h0 : P p = true := h 0 (by omega)
    unfold rnl
    rw [if_pos h0, rnl_is m (p + 1) i (fun j hj => by rw [show p + 1 + j = p + (j + 1) by omega]; exact h (j + 1) (by omega)) (by omega) (he.imp (fun h => by omega) (fun h h2 => h (by rw [show p + (i + 1) = p + 1 + i by omega]; exact h2)))]
    omega
theorem rnl_all {P : Nat → Bool} : ∀ m p j, j < rnl P p m → P (p + j) = true
  | 0, _, _, h => absurd h (Nat.not_lt_zero _)
  | m + 1, p, j, h => by
    unfold rnl at h
    by_cases c : P p = true
    · rw [if_pos c] at h
      cases j with
      | zero => exact c
      | succ j =>
        rw [show p + (j + 1) = p + 1 + j by omega]
        exact rnl_all m (p + 1) j (by omega)
    · rw [if_neg c] at h
      omega
/-- the number of the first k digits from q on -/
def dv (T : Nat → Nat) (q : Nat) : Nat → Nat
  | 0 => 0
  | k + 1 => 10 * dv T q k + (T (q + k) - 48)
/-- a fault of kind c at p -/
def fa (c p : Nat) : Int32 := (-1000 : Int32) * nI c - nI p
theorem fa_ne_all : ∀ p, p < 256 → ∀ c, c < 8 → 0 < c → fa c p ≠ 0 := by decide +kernel
theorem fa_ne {c p : Nat} (hp : p < 256) (hc : c < 8) (h : 0 < c) : fa c p ≠ 0 := fa_ne_all p hp c hc h
/-- digits from q on, behind a minus or not; a fault, or the number and where it ends -/
def rdT (T : Nat → Nat) (n : Nat) (lo hi : Int32) (at' q : Nat) (w : Bool) : Int32 ⊕ (Int32 × Nat) :=
  if rnl (dgt T n) q 7 = 0 then .inl (fa 1 q) else if dgt T n (q + rnl (dgt T n) q 7) = true then .inl (fa 2 (q + rnl (dgt T n) q 7)) else if lo ≤ (if w = true then -nI (dv T q (rnl (dgt T n) q 7)) else nI (dv T q (rnl (dgt T n) q 7))) ∧ (if w = true then -nI (dv T q (rnl (dgt T n) q 7)) else nI (dv T q (rnl (dgt T n) q 7))) ≤ hi then .inr (if w = true then -nI (dv T q (rnl (dgt T n) q 7)) else nI (dv T q (rnl (dgt T n) q 7)), q + rnl (dgt T n) q 7) else .inl (fa 3 at')
/-- a blank and a number from p on -/
def rdN (T : Nat → Nat) (n : Nat) (lo hi : Int32) (p : Nat) : Int32 ⊕ (Int32 × Nat) :=
  if isA T n p 32 = true then (if isA T n (p + 1) 45 = true then rdT T n lo hi (p + 1) (p + 2) true else rdT T n lo hi (p + 1) (p + 1) false) else .inl (fa 1 p)
/-- a fault; or where one stands, how many numbers were told, which -/
abbrev RS := Int32 ⊕ (Nat × Nat × (Nat → Int32))
def rn (T : Nat → Nat) (n : Nat) (lo hi : Int32) : RS → RS
  | .inl e => .inl e
  | .inr (p, f, N) => match rdN T n lo hi p with
    | .inl e => .inl e
    | .inr (v, q) => .inr (q, f + 1, va_up N f v)
/-- what the text's cell tells -/
def TX (I : ai_I) (T : Nat → Nat) (n : Nat) : Prop := I 43 3 = nI n ∧ n ≤ 200 ∧ ∀ k, k < n → T k < 256 ∧ I 42 k = nI (T k)
def CM (I0 I : ai_I) (p f : Nat) (e : Int32) (N : Nat → Int32) : Prop := (∀ c, ¬ c = 43 → ¬ c = 47 → I c = I0 c) ∧ (∀ j, ¬ j = 1 → ¬ j = 4 → ¬ j = 8 → I 43 j = I0 43 j) ∧ I 43 4 = nI p ∧ I 43 8 = nI f ∧ I 43 1 = e ∧ ∀ k, k < f → I 47 k = N k
/-- the class's reader -/
def CL (I0 : ai_I) (n f0 : Nat) (I : ai_I) : RS → Prop
  | .inl e => e ≠ 0 ∧ ∃ p f N, p ≤ n ∧ f0 ≤ f ∧ f ≤ 100 ∧ CM I0 I p f e N
  | .inr (p, f, N) => p ≤ n ∧ f0 ≤ f ∧ 2 * f ≤ p ∧ CM I0 I p f 0 N
def sgI (T : Nat → Nat) (n p : Nat) : Int32 := if p < n then nI (T p) else -1
theorem r42_2 : Rc 42 43 2 = 42 := rfl
theorem c_6 {I0 I : ai_I} {n p f : Nat} {L : ai_G} {e : Int32} {T : Nat → Nat} {N : Nat → Int32} (hT : TX I0 T n) (hp : p ≤ n) (h : CM I0 I p f e N) : m_6 43 I (Rc 42) (Gc L) = some (sgI T n p) := by
  obtain ⟨t1, t2, t3⟩ := hT
  obtain ⟨h1, h2, h3, h4, h5, h6⟩ := h
  unfold m_6 sgI
  rw [h2 3 (by decide) (by decide) (by decide), t1, h3, r42_2]
  by_cases c : p < n
  · rw [if_neg (nI_ge c (by omega)), if_pos c, g_42 (by omega), o_g_t, i_cl (by omega), h1 42 (by decide) (by decide), (t3 p c).2]
  · rw [if_pos (nI_le (by omega) (by omega)), if_neg c]
theorem sg_eq {T : Nat → Nat} {n p c : Nat} (hT : ∀ k, k < n → T k < 256) (hc : c < 256) : sgI T n p = nI c ↔ isA T n p c = true := by
  rw [isA_i]
  unfold sgI
  by_cases h : p < n
  · have := hT p h
    rw [if_pos h, i_eq (by omega) (by omega)]
    exact ⟨fun e => ⟨h, e⟩, fun e => e.2⟩
  · rw [if_neg h]
    exact ⟨fun e => absurd e.symm (by
      intro e2
      have := nI_pos' (n := c) (by omega)
      rw [e2] at this
      exact absurd this (by decide)), fun e => absurd e.1 h⟩
theorem sg_end {T : Nat → Nat} {n p : Nat} (hT : ∀ k, k < n → T k < 256) : sgI T n p = -1 ↔ ¬ p < n := by
  unfold sgI
  by_cases h : p < n
  · have := hT p h
    rw [if_pos h]
    exact ⟨fun e => absurd e (by
      intro e2
      have := nI_pos' (n := T p) (by omega)
      rw [e2] at this
      exact absurd this (by decide)), fun e => absurd h e⟩
  · rw [if_neg h]
    exact ⟨fun _ => h, fun _ => rfl⟩
theorem sg_in {T : Nat → Nat} {n p a b : Nat} (hT : ∀ k, k < n → T k < 256) (hb : b < 256) (ha : a ≤ b) : (nI a ≤ sgI T n p ∧ sgI T n p ≤ nI b) ↔ (p < n ∧ a ≤ T p ∧ T p ≤ b) := by
  unfold sgI
  by_cases h : p < n
  · have := hT p h
    rw [if_pos h, i_le (by omega) (by omega), i_le (by omega) (by omega)]
    exact ⟨fun e => ⟨h, e⟩, fun e => e.2⟩
  · rw [if_neg h]
    exact ⟨fun e => absurd (Int32.le_trans (nI_pos' (n := a) (by omega)) e.1) (by decide), fun e => absurd e.1 h⟩
theorem c_5 {I0 I : ai_I} {p f : Nat} {a b e : Int32} {N : Nat → Int32} (h : CM I0 I p f e N) : wp (m_5 43 a b I) (fun J => CM I0 J p f (if e = 0 then (-1000 : Int32) * a - b else e) N) := by
  obtain ⟨h1, h2, h3, h4, h5, h6⟩ := h
  unfold m_5
  rw [h5]
  by_cases c : e = 0
  · rw [if_pos c, if_pos c, o_b1_s, wp_s]
    exact ⟨fun c c1 c2 => by rw [up_ne c1]; exact h1 c c1 c2, fun j j1 j2 j3 => by rw [up_eq, up_ne j1]; exact h2 j j1 j2 j3, by rw [up_eq, up_ne (by decide)]; exact h3, by rw [up_eq, up_ne (by decide)]; exact h4, by rw [up_eq, up_eq], fun k hk => by rw [up_ne (by decide)]; exact h6 k hk⟩
  · rw [if_neg c, if_neg c, wp_s]
    exact ⟨h1, h2, h3, h4, h5, h6⟩
theorem CM_p {I0 I : ai_I} {p f q : Nat} {e : Int32} {N : Nat → Int32} (h : CM I0 I p f e N) : CM I0 (va_up I 43 (va_up (I 43) 4 (nI q))) q f e N := by
  obtain ⟨h1, h2, h3, h4, h5, h6⟩ := h
  exact ⟨fun c c1 c2 => by rw [up_ne c1]; exact h1 c c1 c2, fun j j1 j2 j3 => by rw [up_eq, up_ne j2]; exact h2 j j1 j2 j3, by rw [up_eq, up_eq], by rw [up_eq, up_ne (by decide)]; exact h4, by rw [up_eq, up_ne (by decide)]; exact h5, fun k hk => by rw [up_ne (by decide)]; exact h6 k hk⟩
theorem c_18 {T : Nat → Nat} {n p : Nat} (hT : ∀ k, k < n → T k < 256) : m_18 (sgI T n p) = some (bz (dgt T n p = true)) := by
  have e := sg_in (p := p) hT (show 57 < 256 by decide) (show 48 ≤ 57 by decide)
  rw [← dgt_i] at e
  unfold m_18
  by_cases c : dgt T n p = true
  · have := e.2 c
    rw [bz_t c, if_neg (Int32.not_lt.2 this.1), if_neg (Int32.not_lt.2 this.2)]
  · rw [bz_f c]
    by_cases c1 : sgI T n p < nI 48
    · rw [if_pos c1]
    · rw [if_neg c1]
      by_cases c2 : nI 57 < sgI T n p
      · rw [if_pos c2]
      · exact absurd (e.1 ⟨Int32.not_lt.1 c1, Int32.not_lt.1 c2⟩) c
theorem c_17 {I0 I : ai_I} {n q f : Nat} {L : ai_G} {e : Int32} {T : Nat → Nat} {N : Nat → Int32} (hT : TX I0 T n) (hq : q ≤ n) (h : CM I0 I q f e N) : wp (m_17 43 I (Rc 42) (Gc L)) (fun r => r.1 = nI (dv T q (rnl (dgt T n) q 7)) ∧ q + rnl (dgt T n) q 7 ≤ n ∧ CM I0 r.2 (q + rnl (dgt T n) q 7) f (if e = 0 then (if rnl (dgt T n) q 7 = 0 then fa 1 q else if dgt T n (q + rnl (dgt T n) q 7) then fa 2 (q + rnl (dgt T n) q 7) else 0) else e) N) := by
  have hT3 : ∀ k, k < n → T k < 256 := fun k hk => (hT.2.2 k hk).1
  have hn := hT.2.1
  -- what comes at the end
  have fin : ∀ i J, i ≤ 7 → (∀ j, j < i → dgt T n (q + j) = true) → (i = 7 ∨ ¬ dgt T n (q + i) = true) → q + i ≤ n → CM I0 J (q + i) f e N → wp (m_17_x9_54 43 (Rc 42) (Gc L) (nI q) (nI (dv T q i)) J) (fun r => r.1 = nI (dv T q (rnl (dgt T n) q 7)) ∧ q + rnl (dgt T n) q 7 ≤ n ∧ CM I0 r.2 (q + rnl (dgt T n) q 7) f (if e = 0 then (if rnl (dgt T n) q 7 = 0 then fa 1 q else if dgt T n (q + rnl (dgt T n) q 7) then fa 2 (q + rnl (dgt T n) q 7) else 0) else e) N) := fun i J h7 hd he hl hJ => by
    rw [rnl_is 7 q i hd h7 he]
    unfold m_17_x9_54
    rw [hJ.2.2.1]
    by_cases c : i = 0
    · subst c
      rw [if_pos (show nI (q + 0) = nI q from rfl)]
      refine wp_b1 (wp_mono (c_5 hJ) ?_)
      rintro K hK
      rw [wp_s, if_pos rfl]
      exact ⟨rfl, hl, hK⟩
    · rw [if_neg (show ¬ nI (q + i) = nI q by rw [i_eq (by omega) (by omega)]; omega), c_6 hT hl hJ, o_b1_s, c_18 hT3, o_b1_s, q_bz, if_neg c]
      by_cases c2 : dgt T n (q + i) = true
      · rw [if_pos c2, if_pos c2]
        refine wp_b1 (wp_mono (c_5 hJ) ?_)
        rintro K hK
        rw [wp_s]
        exact ⟨rfl, hl, hK⟩
      · rw [if_neg c2, if_neg c2, wp_s]
        refine ⟨rfl, hl, ?_⟩
        by_cases c3 : e = 0
        · rw [if_pos c3, ← c3]
          exact hJ
        · rw [if_neg c3]
          exact hJ
  unfold m_17
  rw [h.2.2.1, o_b1_s]
  refine wp_s1 (wp_lp (fun i s => s.1 = nI (dv T q i) ∧ s.2.1 = nI i ∧ (∀ j, j < i → dgt T n (q + j) = true) ∧ q + i ≤ n ∧ CM I0 s.2.2 (q + i) f e N) 0 7 (Nat.zero_le _) (by omega) ⟨rfl, rfl, fun j hj => absurd hj (Nat.not_lt_zero _), hq, h⟩ ?_ ?_)
  · rintro i ⟨a, b, J⟩ hi ⟨g1, g2, g3, g4, g5⟩
    dsimp only at g1 g2 g3 g4 g5
    subst g1
    subst g2
    unfold m_17_b9
    dsimp only
    rw [if_neg (nI_ge hi (by decide)), c_6 hT g4 g5, o_b1_s, c_18 hT3, o_b1_s, q_bz]
    by_cases c : dgt T n (q + i) = true
    · have c2 := c
      rw [dgt_i] at c2
      rw [if_pos c, o_b1_s, o_b1_s, g5.2.2.1, i_add, o_b1_s, i_add, o_b1_s, wp_s, lq_l]
      refine ⟨?_, rfl, fun j hj => ?_, by omega, CM_p g5⟩
      · dsimp only
        unfold sgI
        rw [if_pos c2.1, i_mul, i_add, i_sub (by omega)]
        rw [show dv T q (i + 1) = 10 * dv T q i + (T (q + i) - 48) from rfl]
        exact congrArg nI (by omega)
      · by_cases e : j = i
        · rw [e]
          exact c
        · exact g3 j (by omega)
    · rw [if_neg c, wp_s, lq_r]
      exact fin i J (by omega) g3 (Or.inr c) g4 g5
  · rintro ⟨a, b, J⟩ ⟨g1, g2, g3, g4, g5⟩
    dsimp only at g1 g2 g3 g4 g5
    subst g1
    subst g2
    unfold m_17_b9
    dsimp only
    rw [if_pos (Int32.le_refl _), wp_s, lq_r]
    exact fin 7 J (Nat.le_refl _) g3 (Or.inl rfl) g4 g5
