/-! Sets free on two shelves: call shared. -/
theorem fd_idx' {α : Type} {f : Nat → α → α} (P : Nat → α → Prop) : ∀ (n i : Nat) (a : α), P i a → (∀ j a, i ≤ j → j < i + n → P j a → P (j + 1) (f j a)) → P (i + n) (fd f (List.range' i n) a)
  | 0, i, a, h, _ => h
  | n + 1, i, a, h, hs => by
    rw [List.range'_succ]
    have h2 := fd_idx' P n (i + 1) (f i a) (hs i a (Nat.le_refl _) (by omega) h) (fun j b h1 h2 h3 => hs j b (by omega) (by omega) h3)
    rw [show i + (n + 1) = i + 1 + n by omega]
    exact h2
theorem fd_idx {α : Type} {f : Nat → α → α} (P : Nat → α → Prop) {N : Nat} {a : α} (h : P 0 a) (hs : ∀ j a, j < N → P j a → P (j + 1) (f j a)) : P N (fd f (List.range N) a) := by
  rw [List.range_eq_range']
  have h2 := fd_idx' P N 0 a h (fun j b _ h2 h3 => hs j b (by omega) h3)
  rw [Nat.zero_add] at h2
  exact h2
/-- prices are small, so are their sums -/
theorem prs_gt {p : Nat → Int32} (h : ∀ e, e < 8 → -1000 ≤ p e ∧ p e ≤ 1000) (x : Nat) : -8000 ≤ (prs p x).toInt ∧ (prs p x).toInt ≤ 8000 := by
  have key : ∀ (k : Nat) (a : Int32), -(1000 * (k : Int)) ≤ a.toInt ∧ a.toInt ≤ 1000 * (k : Int) → k < 8 → -(1000 * ((k + 1 : Nat) : Int)) ≤ (if x.testBit k = true then a + p k else a).toInt ∧ (if x.testBit k = true then a + p k else a).toInt ≤ 1000 * ((k + 1 : Nat) : Int) := by
    intro k a ha hk
    have hp := h k hk
    rw [Int32.le_iff_toInt_le, Int32.le_iff_toInt_le, show (-1000 : Int32).toInt = -1000 from by decide, show (1000 : Int32).toInt = 1000 from by decide] at hp
    by_cases hb : x.testBit k = true
    · rw [if_pos hb, Int32.toInt_add]
      unfold Int.bmod
      dsimp only
      constructor
      · split <;> omega
      · split <;> omega
    · rw [if_neg hb]
      omega
  have h2 := fd_idx (f := fun e a => if x.testBit e = true then a + p e else a) (fun k (a : Int32) => -(1000 * (k : Int)) ≤ a.toInt ∧ a.toInt ≤ 1000 * (k : Int)) (N := 8) (a := nI 0) (by decide) (fun j a hj ha => key j a ha hj)
  exact ⟨by have := h2.1; unfold prs; omega, by have := h2.2; unfold prs; omega⟩
theorem gt_NO {a : Int32} (h : -8000 ≤ a.toInt) : ¬ a ≤ NO := fun h2 => by
  rw [Int32.le_iff_toInt_le, show NO.toInt = -2147483648 from by decide] at h2
  omega
/-- what the class's couple tells: how many, the least with the greatest sum, that sum -/
def fco (p : Nat → Bool) (S : Nat → Int32) (x : Nat) (a : Nat × Nat × Int32) : Nat × Nat × Int32 := if p x = true then (a.1 + 1, if S x ≤ a.2.2 then a.2.1 else x, if S x ≤ a.2.2 then a.2.2 else S x) else a
/-- what the reference finds: how many, the best -/
def fre (p : Nat → Bool) (S : Nat → Int32) (x : Nat) (a : Nat × Option Nat) : Nat × Option Nat := if p x = true then (a.1 + 1, match a.2 with
  | none => some x
  | some j => if S x ≤ S j then some j else some x) else a
def bst (o : Option Nat) : Int32 := match o with
  | none => -2
  | some j => nI j
def co_R (S : Nat → Int32) (a : Nat × Nat × Int32) (b : Nat × Option Nat) : Prop := a.1 = b.1 ∧ ((b.2 = none ∧ a.1 = 0 ∧ a.2.2 = NO) ∨ (∃ j, b.2 = some j ∧ ¬ a.1 = 0 ∧ a.2.1 = j ∧ a.2.2 = S j ∧ j < 256))
theorem co_fd {p : Nat → Bool} {S : Nat → Int32} {l : List Nat} (hl : ∀ x ∈ l, x < 256) (hS : ∀ x, ¬ S x ≤ NO) : co_R S (fd (fco p S) l (0, 0, NO)) (fd (fre p S) l (0, none)) := fd_rel (co_R S) ⟨rfl, Or.inl ⟨rfl, rfl, rfl⟩⟩ (fun x hx a b h => by
  obtain ⟨h1, h2⟩ := h
  unfold fco fre
  by_cases hp : p x = true
  · rw [if_pos hp, if_pos hp]
    refine ⟨by show a.1 + 1 = b.1 + 1; rw [h1], Or.inr ?_⟩
    rcases h2 with ⟨e1, e2, e3⟩ | ⟨j, e1, e2, e3, e4, e5⟩
    · refine ⟨x, ?_, by show ¬ a.1 + 1 = 0; omega, ?_, ?_, hl x hx⟩
      · show (match b.2 with
          | none => some x
          | some j => if S x ≤ S j then some j else some x) = some x
        rw [e1]
      · show (if S x ≤ a.2.2 then a.2.1 else x) = x
        rw [e3, if_neg (hS x)]
      · show (if S x ≤ a.2.2 then a.2.2 else S x) = S x
        rw [e3, if_neg (hS x)]
    · by_cases hc : S x ≤ S j
      · refine ⟨j, ?_, by show ¬ a.1 + 1 = 0; omega, ?_, ?_, e5⟩
        · show (match b.2 with
            | none => some x
            | some j => if S x ≤ S j then some j else some x) = some j
          rw [e1]
          show (if S x ≤ S j then some j else some x) = some j
          rw [if_pos hc]
        · show (if S x ≤ a.2.2 then a.2.1 else x) = j
          rw [e4, if_pos hc, e3]
        · show (if S x ≤ a.2.2 then a.2.2 else S x) = S j
          rw [e4, if_pos hc]
      · refine ⟨x, ?_, by show ¬ a.1 + 1 = 0; omega, ?_, ?_, hl x hx⟩
        · show (match b.2 with
            | none => some x
            | some j => if S x ≤ S j then some j else some x) = some x
          rw [e1]
          show (if S x ≤ S j then some j else some x) = some x
          rw [if_neg hc]
        · show (if S x ≤ a.2.2 then a.2.1 else x) = x
          rw [e4, if_neg hc]
        · show (if S x ≤ a.2.2 then a.2.2 else S x) = S x
          rw [e4, if_neg hc]
  · rw [if_neg hp, if_neg hp]
    exact ⟨h1, h2⟩)
/-- the class's couple, cell 61 -/
def CO (I J : ai_I) (a : Nat × Nat × Int32) : Prop := (∀ c, ¬ c = 61 → J c = I c) ∧ J 61 0 = nI a.1 ∧ J 61 1 = nI a.2.1 ∧ J 61 2 = a.2.2
theorem c_25 (I : ai_I) : ∃ J, m_25 61 I = some J ∧ CO I J (0, 0, NO) := by
  unfold m_25
  rw [o_b1_s, o_b1_s, o_b1_s]
  refine ⟨_, rfl, fun c hc => by rw [up_ne hc, up_ne hc, up_ne hc], ?_, ?_, ?_⟩
  · rw [up_eq, up_ne (by decide), up_eq, up_ne (by decide), up_eq, up_eq]
  · rw [up_eq, up_ne (by decide), up_eq, up_eq]
  · rw [up_eq, up_eq]
theorem c_26 {I J : ai_I} {a : Nat × Nat × Int32} (x : Nat) (s : Int32) (h : CO I J a) : ∃ J2, m_26 61 (nI x) s J = some J2 ∧ CO I J2 (a.1 + 1, if s ≤ a.2.2 then a.2.1 else x, if s ≤ a.2.2 then a.2.2 else s) := by
  obtain ⟨h0, h1, h2, h3⟩ := h
  unfold m_26
  rw [o_b1_s, up_eq, up_ne (by decide), h3, h1, i_add]
  by_cases hc : s ≤ a.2.2
  · rw [if_pos hc, if_pos hc, if_pos hc]
    refine ⟨_, rfl, fun c hc => by rw [up_ne hc]; exact h0 c hc, by rw [up_eq, up_eq], ?_, ?_⟩
    · rw [up_eq, up_ne (by decide)]
      exact h2
    · rw [up_eq, up_ne (by decide)]
      exact h3
  · rw [if_neg hc, if_neg hc, if_neg hc, o_b1_s, o_b1_s]
    refine ⟨_, rfl, fun c hc => by rw [up_ne hc, up_ne hc, up_ne hc]; exact h0 c hc, ?_, ?_, ?_⟩
    · rw [up_eq, up_ne (by decide), up_eq, up_ne (by decide), up_eq]
    · rw [up_eq, up_eq]
    · rw [up_eq, up_ne (by decide), up_eq, up_eq]
theorem CO_same {I J : ai_I} {a : Nat × Nat × Int32} (h : CO I J a) : SAME I J := ⟨fun c hc => h.1 c (by omega), fun j _ => by rw [h.1 76 (by decide)], h.1 77 (by decide), by rw [h.1 75 (by decide)], by rw [h.1 75 (by decide)], h.1 1999 (by decide)⟩
def pfr (V W : Nat → Int32) (k x : Nat) : Bool := decide (pc x = k) && (decide (rk V x = pc x) && decide (rk W x = pc x))
theorem c_24 {I : ai_I} {t L v w n r n2 r2 k : Nat} {V W : Nat → Int32} (hv : v ∈ VC) (hw : w ∈ VC) (hW : WF n r V) (h : CS I v n r V) (h2 : CS I w n2 r2 W) (hk : k < 9) : ∃ J, m_24 61 v w (nI k) 4 I (Rc t) (Gc L) = some J ∧ CO I J (fd (fco (pfr V W k) (prs (I 4))) (List.range (2 ^ n)) (0, 0, NO)) := by
  have hn := hW.2.1
  have h8 := p2_le hn
  have a1 := vc_51 v hv
  have a2 := vc_51 w hw
  unfold m_24
  obtain ⟨J0, j1, j2⟩ := c_25 I
  rw [j1, o_b1_s]
  obtain ⟨J1, h3, h4⟩ := lp_ex (b := fun q => m_24_b7 61 v w (nI k) 4 (Rc t) (Gc L) q.1 q.2) (fun k (J : ai_I) => (nI k, J)) (fun J => J) (fun i J => CO I J (fd (fco (pfr V W k) (prs (I 4))) (List.range i) (0, 0, NO))) (2 ^ n) (fun x J hx hJ => by
    have hpc := pc_le x
    have hC : CS J v n r V := CS_cong (fun _ _ => rfl) (hJ.1 _ (by omega)) (hJ.1 _ (by omega)) (hJ.1 _ (by omega)) (hJ.1 _ (by omega)) h
    have hC2 : CS J w n2 r2 W := CS_cong (fun _ _ => rfl) (hJ.1 _ (by omega)) (hJ.1 _ (by omega)) (hJ.1 _ (by omega)) (hJ.1 _ (by omega)) h2
    obtain ⟨J2, e1, e2⟩ := c_26 x (prs (I 4) x) hJ
    rw [List.range_succ, fd_append]
    show ∃ a2, CO I a2 (fco (pfr V W k) (prs (I 4)) x (fd (fco (pfr V W k) (prs (I 4))) (List.range x) (0, 0, NO))) ∧ m_24_b7 61 v w (nI k) 4 (Rc t) (Gc L) (nI x) J = some (Sum.inl (nI (x + 1), a2))
    unfold m_24_b7 fco pfr
    rw [v_kd hv, o_g_t, c_118 hn hC.1, o_b1_s, q_leF (by omega) hx, s_331 (by omega), o_b1_s, q_eq (by omega) (by omega), c_123 hv hC (by omega), o_b1_s, q_bz, v_kd hw, o_g_t, c_123 hw hC2 (by omega), o_b1_s, q_bz, c_102 (by rfl) (by rfl) (by omega), o_b1_s, hJ.1 4 (by decide), e1, o_b1_s, i_add, o_b1_s, o_b1_s]
    by_cases c1 : pc x = k
    · by_cases c2 : rk V x = pc x
      · by_cases c3 : rk W x = pc x
        · rw [if_pos c1, if_pos c2, if_pos c3, if_pos (show (decide (pc x = k) && (decide (rk V x = pc x) && decide (rk W x = pc x))) = true by simp [c1, c2, c3])]
          exact ⟨J2, e2, rfl⟩
        · rw [if_pos c1, if_pos c2, if_neg c3, if_neg (show ¬ (decide (pc x = k) && (decide (rk V x = pc x) && decide (rk W x = pc x))) = true by simp [c3])]
          exact ⟨J, hJ, rfl⟩
      · rw [if_pos c1, if_neg c2, if_neg (show ¬ (decide (pc x = k) && (decide (rk V x = pc x) && decide (rk W x = pc x))) = true by simp [c2])]
        exact ⟨J, hJ, rfl⟩
    · rw [if_neg c1, if_neg (show ¬ (decide (pc x = k) && (decide (rk V x = pc x) && decide (rk W x = pc x))) = true by simp [c1])]
      exact ⟨J, hJ, rfl⟩) (fun J hJ => by
    have hC : CS J v n r V := CS_cong (fun _ _ => rfl) (hJ.1 _ (by omega)) (hJ.1 _ (by omega)) (hJ.1 _ (by omega)) (hJ.1 _ (by omega)) h
    show m_24_b7 61 v w (nI k) 4 (Rc t) (Gc L) (nI (2 ^ n)) J = _
    unfold m_24_b7
    rw [v_kd hv, o_g_t, c_118 hn hC.1, o_b1_s, q_leT (by omega) (Nat.le_refl _)]) (2 ^ n) 0 J0 o_N (by omega) j2 (show 2 ^ n < 2000000 by omega)
  refine ⟨J1, ?_, h3⟩
  show o_s1 (lp (fun q => m_24_b7 61 v w (nI k) 4 (Rc t) (Gc L) q.1 q.2) o_N (nI 0, J0)) _ = _
  rw [h4, o_s1_s]
  rfl
