/-! How the abstract machine's state lies in the claim's machine: cell a at address z + a. One row an instruction. -/
/-- z (cell a lies at z + a), the script's address, length, ints, the string constants' addresses, the classes' numbers and slots, the array classes by kind -/
abbrev si_E : Type := Nat × Nat × Nat × (Nat → Int32) × (Nat → Nat) × va_G × (Nat → ClassId)
def si_D (E : si_E) : va_G := E.2.2.2.2.2.1
def si_cA (E : si_E) : Nat → ClassId := E.2.2.2.2.2.2
def si_ad (E : si_E) (a : Nat) : Nat := if a < 1999 then E.1 + a else if a = 1999 then E.2.1 else E.2.2.2.2.1 (a - 2000)
def si_o (E : si_E) (a : Nat) : Option Nat := match a with
  | 0 => none
  | k + 1 => some (si_ad E (k + 1))
def si_v (E : si_E) (v : ai_V) : Value := match v with
  | .inl x => .int x
  | .inr (.inl x) => .long x
  | .inr (.inr a) => va_rf (si_o E a)
def si_fv (E : si_E) (ty : Nat) (i : Int32) (j : Int64) (r : Nat) : Value := match ty with
  | 1 => .long j
  | 2 => va_rf (si_o E r)
  | _ => .int i
def si_fs (E : si_E) (k : Nat) (i : Nat → Int32) (j : Nat → Int64) (r : Nat → Nat) : List Value := (List.range (si_N k)).map (fun q => si_fv E (si_ty k q) (i q) (j q) (r q))
def si_tys (E : si_E) : List (ClassId × FieldType) := [(si_cA E 12, .byte), (si_cA E 13, .int), (si_cA E 14, .long), (si_cA E 15, .object "PricedBases$Valuation")]
def si_cell (E : si_E) (I : ai_I) (J : ai_J) (Rf : ai_R) (G : ai_G) (a : Nat) : va_E := match G.1 a with
  | 12 => .inl (si_cA E 12, G.2.1 a, .inl (I a))
  | 13 => .inl (si_cA E 13, G.2.1 a, .inl (I a))
  | 14 => .inl (si_cA E 14, G.2.1 a, .inr (.inl (J a)))
  | 15 => .inl (si_cA E 15, G.2.1 a, .inr (.inr (.inr (.inr (fun q => si_o E (Rf a q))))))
  | k => .inr (k, si_fs E k (I a) (J a) (Rf a))
/-- the heap holds the abstract machine's cells -/
def si_P (E : si_E) (H : Heap) (I : ai_I) (J : ai_J) (Rf : ai_R) (G : ai_G) : Prop :=
  H.size = E.1 + 1 + G.2.2 ∧ G.2.2 ≤ 900 ∧ (∀ a, G.1 a ≤ 15 → 1 ≤ a ∧ a ≤ G.2.2 ∧ va_at (si_D E) si_cl (si_ad E a, si_cell E I J Rf G a) H) ∧ I 1999 = E.2.2.2.1 ∧ G.2.1 1999 = E.2.2.1
/-- the locals -/
def si_L (E : si_E) (ls : Array Slot) (nL : Nat) (lo : List (Option ai_V)) : Prop := ls.size = nL ∧ lv_wf ls ∧ lo.length = nL ∧ ∀ (i : Nat) (v : ai_V), ai_loc lo i = some v → ls[i]? = some (.val (si_v E v))
/-- what may be written: what lies behind z -/
def si_A (E : si_E) : Nat → Prop := fun q => E.1 < q
def si_S (E : si_E) (s : State) (R : Room) (nL : Nat) (H : Heap) (locs : List Loc) (cells slots : Nat) (ls : Array Slot) (lo : List (Option ai_V)) (B : Nat × Nat) (I : ai_I) (J : ai_J) (Rf : ai_R) (G : ai_G) : Prop :=
  si_P E H I J Rf G ∧ si_L E ls nL lo ∧ va_S (si_A E) s.heap H locs ∧ cells + B.1 ≤ R.cells ∧ slots + B.2 ≤ R.slots
theorem si_ad_lt {E : si_E} {a : Nat} (h : a ≤ 900) : si_ad E a = E.1 + a := by
  unfold si_ad
  rw [if_pos (by omega)]
theorem si_o_pos {E : si_E} {a : Nat} (h : 1 ≤ a) : si_o E a = some (si_ad E a) := by
  cases a with
  | zero => omega
  | succ k => rfl
theorem si_v_pos {E : si_E} {a : Nat} (h : 1 ≤ a) : si_v E (.inr (.inr a)) = .ref (si_ad E a) := by
  show va_rf (si_o E a) = _
  rw [si_o_pos h]
  rfl
theorem si_cell12 {E : si_E} {I : ai_I} {J : ai_J} {Rf : ai_R} {G : ai_G} {a : Nat} (hk : G.1 a = 12) : si_cell E I J Rf G a = .inl (si_cA E 12, G.2.1 a, .inl (I a)) := by
  unfold si_cell
  rw [hk]
  rfl
theorem si_cell13 {E : si_E} {I : ai_I} {J : ai_J} {Rf : ai_R} {G : ai_G} {a : Nat} (hk : G.1 a = 13) : si_cell E I J Rf G a = .inl (si_cA E 13, G.2.1 a, .inl (I a)) := by
  unfold si_cell
  rw [hk]
  rfl
theorem si_cell14 {E : si_E} {I : ai_I} {J : ai_J} {Rf : ai_R} {G : ai_G} {a : Nat} (hk : G.1 a = 14) : si_cell E I J Rf G a = .inl (si_cA E 14, G.2.1 a, .inr (.inl (J a))) := by
  unfold si_cell
  rw [hk]
  rfl
theorem si_cell15 {E : si_E} {I : ai_I} {J : ai_J} {Rf : ai_R} {G : ai_G} {a : Nat} (hk : G.1 a = 15) : si_cell E I J Rf G a = .inl (si_cA E 15, G.2.1 a, .inr (.inr (.inr (.inr (fun q => si_o E (Rf a q)))))) := by
  unfold si_cell
  rw [hk]
  rfl
theorem si_cellO {E : si_E} {I : ai_I} {J : ai_J} {Rf : ai_R} {G : ai_G} {a c : Nat} (hk : G.1 a = c) (hc : c < 12) : si_cell E I J Rf G a = .inr (c, si_fs E c (I a) (J a) (Rf a)) := by
  unfold si_cell
  rw [hk]
  split <;> first | omega | rfl
theorem si_P.at1 {E : si_E} {H : Heap} {I : ai_I} {J : ai_J} {Rf : ai_R} {G : ai_G} (h : si_P E H I J Rf G) {a : Nat} (hk : G.1 a ≤ 15) {e : va_E} (he : si_cell E I J Rf G a = e) : va_P (si_D E) si_cl [(si_ad E a, e)] H := by
  obtain ⟨-, -, h3, -⟩ := h
  intro k q hq
  cases k with
  | zero =>
    cases hq
    rw [← he]
    exact (h3 a hk).2.2
  | succ k => simp at hq
theorem si_P.put {E : si_E} {H H1 : Heap} {I I1 : ai_I} {J J1 : ai_J} {Rf R1 : ai_R} {G : ai_G} {a : Nat} (h : si_P E H I J Rf G) (hk : G.1 a ≤ 15) (z1 : H1.size = H.size) (oq : ∀ q : Nat, q ≠ si_ad E a → H1[q]? = H[q]?)
    (hat : va_at (si_D E) si_cl (si_ad E a, si_cell E I1 J1 R1 G a) H1) (hI : ∀ b : Nat, b ≠ a → I1 b = I b) (hJ : ∀ b : Nat, b ≠ a → J1 b = J b) (hR : ∀ b : Nat, b ≠ a → R1 b = Rf b) : si_P E H1 I1 J1 R1 G := by
  obtain ⟨p1, p2, p3, p4, p5⟩ := h
  have ha := p3 a hk
  refine ⟨by rw [z1]; exact p1, p2, fun b hb => ?_, ?_, p5⟩
  · obtain ⟨b1, b2, b3⟩ := p3 b hb
    refine ⟨b1, b2, ?_⟩
    by_cases e : b = a
    · subst e
      exact hat
    · have hc : si_cell E I1 J1 R1 G b = si_cell E I J Rf G b := by
        unfold si_cell
        rw [hI b e, hJ b e, hR b e]
      rw [hc]
      exact b3.kept (oq _ (by show si_ad E b ≠ si_ad E a; rw [si_ad_lt (by omega), si_ad_lt (by omega)]; omega))
  · rw [hI 1999 (by omega)]
    exact p4
/-- a new cell -/
theorem si_P.new {E : si_E} {H H1 : Heap} {I I1 : ai_I} {J J1 : ai_J} {Rf R1 : ai_R} {G : ai_G} {K : Nat → Nat} {LN : Nat → Nat} (h : si_P E H I J Rf G) (hn : G.2.2 < 900) (z1 : H1.size = H.size + 1) (oq : ∀ q : Nat, q < H.size → H1[q]? = H[q]?)
    (hK : ∀ b : Nat, b ≠ G.2.2 + 1 → K b = G.1 b) (hL : ∀ b : Nat, b ≠ G.2.2 + 1 → LN b = G.2.1 b)
    (hat : va_at (si_D E) si_cl (si_ad E (G.2.2 + 1), si_cell E I1 J1 R1 (K, LN, G.2.2 + 1) (G.2.2 + 1)) H1) (hI : ∀ b : Nat, b ≠ G.2.2 + 1 → I1 b = I b) (hJ : ∀ b : Nat, b ≠ G.2.2 + 1 → J1 b = J b) (hR : ∀ b : Nat, b ≠ G.2.2 + 1 → R1 b = Rf b) : si_P E H1 I1 J1 R1 (K, LN, G.2.2 + 1) := by
  obtain ⟨p1, p2, p3, p4, p5⟩ := h
  refine ⟨by rw [z1, p1]; show _ = E.1 + 1 + (G.2.2 + 1); omega, by show G.2.2 + 1 ≤ 900; omega, fun b hb => ?_, ?_, ?_⟩
  · by_cases e : b = G.2.2 + 1
    · subst e
      exact ⟨by omega, Nat.le_refl _, hat⟩
    · have hb' : G.1 b ≤ 15 := by rw [← hK b e]; exact hb
      obtain ⟨b1, b2, b3⟩ := p3 b hb'
      refine ⟨b1, by show b ≤ G.2.2 + 1; omega, ?_⟩
      have hc : si_cell E I1 J1 R1 (K, LN, G.2.2 + 1) b = si_cell E I J Rf G b := by
        unfold si_cell
        rw [hI b e, hJ b e, hR b e]
        show (match K b with
          | 12 => _
          | 13 => _
          | 14 => _
          | 15 => _
          | k => _) = _
        rw [hK b e]
        show (match G.1 b with
          | 12 => Sum.inl (si_cA E 12, LN b, Sum.inl (I b))
          | 13 => Sum.inl (si_cA E 13, LN b, Sum.inl (I b))
          | 14 => Sum.inl (si_cA E 14, LN b, Sum.inr (Sum.inl (J b)))
          | 15 => Sum.inl (si_cA E 15, LN b, Sum.inr (Sum.inr (Sum.inr (Sum.inr (fun q => si_o E (Rf b q))))))
          | k => Sum.inr (k, si_fs E k (I b) (J b) (Rf b))) = _
        rw [hL b e]
      rw [hc]
      exact b3.kept (oq _ (by show si_ad E b < H.size; rw [si_ad_lt (by omega), p1]; omega))
  · rw [hI 1999 (by omega)]
    exact p4
  · show LN 1999 = _
    rw [hL 1999 (by omega)]
    exact p5
/-! locals -/
def si_ll (E : si_E) (lo : List (Option ai_V)) (n : Nat) : List (Nat × Value) := (List.range n).filterMap (fun i => (ai_loc lo i).map (fun v => (i, si_v E v)))
theorem si_ll_mem {E : si_E} {lo : List (Option ai_V)} {n i : Nat} {v : ai_V} (h : ai_loc lo i = some v) (hi : i < n) : (i, si_v E v) ∈ si_ll E lo n := by
  unfold si_ll
  rw [List.mem_filterMap]
  exact ⟨i, List.mem_range.mpr hi, by rw [h]; rfl⟩
theorem ai_loc_lt {lo : List (Option ai_V)} {i : Nat} {v : ai_V} (h : ai_loc lo i = some v) : i < lo.length := by
  induction lo generalizing i with
  | nil => cases h
  | cons u l ih =>
    cases i with
    | zero => exact Nat.zero_lt_succ _
    | succ k => exact Nat.succ_lt_succ (ih h)
theorem si_L.has {E : si_E} {ls : Array Slot} {nL : Nat} {lo : List (Option ai_V)} (h : si_L E ls nL lo) : lv_has ls nL (si_ll E lo nL) := by
  obtain ⟨h1, h2, h3, h4⟩ := h
  refine ⟨h1, h2, fun q hq => ?_⟩
  unfold si_ll at hq
  rw [List.mem_filterMap] at hq
  obtain ⟨i, -, hi⟩ := hq
  cases hv : ai_loc lo i with
  | none => rw [hv] at hi; cases hi
  | some v =>
    rw [hv] at hi
    cases hi
    exact h4 i v hv
theorem ai_put1_len (lo : List (Option ai_V)) (i : Nat) (v : Option ai_V) : (ai_put1 lo i v).length = lo.length := by
  induction lo generalizing i with
  | nil => rfl
  | cons u l ih =>
    cases i with
    | zero => rfl
    | succ k => show (ai_put1 l k v).length + 1 = _; rw [ih]; rfl
theorem ai_put1_self {lo : List (Option ai_V)} {i : Nat} {v : Option ai_V} (h : i < lo.length) : ai_loc (ai_put1 lo i v) i = v := by
  induction lo generalizing i with
  | nil => cases h
  | cons u l ih =>
    cases i with
    | zero => rfl
    | succ k => exact ih (Nat.lt_of_succ_lt_succ h)
theorem ai_put1_ne {lo : List (Option ai_V)} {i j : Nat} {v : Option ai_V} (h : j ≠ i) : ai_loc (ai_put1 lo i v) j = ai_loc lo j := by
  induction lo generalizing i j with
  | nil => rfl
  | cons u l ih =>
    cases i with
    | zero =>
      cases j with
      | zero => exact absurd rfl h
      | succ k => rfl
    | succ k =>
      cases j with
      | zero => rfl
      | succ j' => exact ih (fun e => h (by rw [e]))
theorem ai_clr_len (lo : List (Option ai_V)) (i : Nat) : (ai_clr lo i).length = lo.length := by
  unfold ai_clr
  split
  · rfl
  · split
    · exact ai_put1_len _ _ _
    · rfl
theorem ai_clr_some {lo : List (Option ai_V)} {i j : Nat} {v : ai_V} (h : ai_loc (ai_clr lo i) j = some v) : ai_loc lo j = some v ∧ (j + 1 = i → ai_isL (some v) = false) := by
  unfold ai_clr at h
  split at h
  · exact ⟨h, fun e => by omega⟩
  · rename_i k
    split at h
    · rename_i hL
      by_cases e : j = k
      · subst e
        have hj : j < lo.length := by
          rcases Nat.lt_or_ge j lo.length with q | q
          · exact q
          · exfalso
            have := ai_loc_lt h
            rw [ai_put1_len] at this
            omega
        rw [ai_put1_self hj] at h
        cases h
      · rw [ai_put1_ne e] at h
        exact ⟨h, fun e2 => by omega⟩
    · rename_i hL
      refine ⟨h, fun e => ?_⟩
      have e2 : j = k := by omega
      subst e2
      rw [← h]
      exact hL
theorem si_cat {E : si_E} {v : ai_V} : (si_v E v).category = ai_cat v := by
  rcases v with x | x | a
  · rfl
  · rfl
  · cases a <;> rfl
theorem ai_cat2 {v : ai_V} (h : ai_isL (some v) = false) : ¬ ai_cat v = 2 := by
  rcases v with x | x | a
  · exact fun h => by cases h
  · cases h
  · exact fun h => by cases h
/-- one word is stored -/
theorem si_L.put {E : si_E} {ls ls' : Array Slot} {nL i : Nat} {lo : List (Option ai_V)} {v : ai_V} (h : si_L E ls nL lo)
    (h' : lv_has ls' nL ((i, si_v E v) :: (si_ll E lo nL).filter (fun q => !(q.1 == i) && !(q.1 + 1 == i && q.2.category == 2)))) : si_L E ls' nL (ai_put lo i v) := by
  obtain ⟨h1, h2, h3, h4⟩ := h
  obtain ⟨g1, g2, g3⟩ := h'
  refine ⟨g1, g2, by unfold ai_put; rw [ai_put1_len, ai_clr_len]; exact h3, fun j w hj => ?_⟩
  by_cases e : j = i
  · subst e
    have hl := ai_loc_lt hj
    unfold ai_put at hj hl
    rw [ai_put1_len] at hl
    rw [ai_put1_self hl] at hj
    cases hj
    exact g3 (j, _) List.mem_cons_self
  · unfold ai_put at hj
    rw [ai_put1_ne e] at hj
    obtain ⟨k1, k2⟩ := ai_clr_some hj
    have hlt : j < nL := by rw [← h3]; exact ai_loc_lt k1
    refine g3 (j, si_v E w) (List.mem_cons_of_mem _ (List.mem_filter.mpr ⟨si_ll_mem k1 hlt, ?_⟩))
    have a1 : (j == i) = false := by simp [e]
    by_cases e2 : j + 1 = i
    · have a2 : ((si_v E w).category == 2) = false := by
        rw [si_cat]
        simp [ai_cat2 (k2 e2)]
      simp [a1, a2]
    · have a3 : (j + 1 == i) = false := by simp [e2]
      simp [a1, a3]
/-- a long is stored -/
theorem si_L.putL {E : si_E} {ls ls' : Array Slot} {nL i : Nat} {lo : List (Option ai_V)} {v : ai_V} (h : si_L E ls nL lo)
    (h' : lv_has ls' nL ((i, si_v E v) :: (si_ll E lo nL).filter (fun q => !(q.1 == i) && (!(q.1 == i + 1) && !(q.1 + 1 == i && q.2.category == 2))))) : si_L E ls' nL (ai_putL lo i v) := by
  obtain ⟨h1, h2, h3, h4⟩ := h
  obtain ⟨g1, g2, g3⟩ := h'
  refine ⟨g1, g2, by unfold ai_putL; rw [ai_put1_len, ai_put1_len, ai_clr_len]; exact h3, fun j w hj => ?_⟩
  by_cases e1 : j = i + 1
  · subst e1
    have hl := ai_loc_lt hj
    unfold ai_putL at hj hl
    rw [ai_put1_len] at hl
    rw [ai_put1_self hl] at hj
    cases hj
  · unfold ai_putL at hj
    rw [ai_put1_ne e1] at hj
    by_cases e : j = i
    · subst e
      have hl := ai_loc_lt hj
      rw [ai_put1_len] at hl
      rw [ai_put1_self hl] at hj
      cases hj
      exact g3 (j, _) List.mem_cons_self
    · rw [ai_put1_ne e] at hj
      obtain ⟨k1, k2⟩ := ai_clr_some hj
      have hlt : j < nL := by rw [← h3]; exact ai_loc_lt k1
      refine g3 (j, si_v E w) (List.mem_cons_of_mem _ (List.mem_filter.mpr ⟨si_ll_mem k1 hlt, ?_⟩))
      have a1 : (j == i) = false := by simp [e]
      have a0 : (j == i + 1) = false := by simp [e1]
      by_cases e2 : j + 1 = i
      · have a2 : ((si_v E w).category == 2) = false := by
          rw [si_cat]
          simp [ai_cat2 (k2 e2)]
        simp [a1, a0, a2]
      · have a3 : (j + 1 == i) = false := by simp [e2]
        simp [a1, a0, a3]
/-- the locals at a method's entry -/
theorem si_ent_len : ∀ (n : Nat) (as : List ai_V), (ai_ent n as).length = n
  | 0, _ => rfl
  | n + 1, [] => by show (ai_ent n []).length + 1 = _; rw [si_ent_len n []]
  | 1, .inr (.inl x) :: l => rfl
  | n + 2, .inr (.inl x) :: l => by show (ai_ent n l).length + 1 + 1 = _; rw [si_ent_len n l]
  | n + 1, .inl x :: l => by show (ai_ent n l).length + 1 = _; rw [si_ent_len n l]
  | n + 1, .inr (.inr a) :: l => by show (ai_ent n l).length + 1 = _; rw [si_ent_len n l]
theorem si_ent_mem {E : si_E} : ∀ (n : Nat) (as : List ai_V) (b i : Nat) (v : ai_V), ai_loc (ai_ent n as) i = some v → (b + i, si_v E v) ∈ lv_args b (as.map (si_v E))
  | 0, _, _, _, _, h => by cases h
  | n + 1, [], b, i, v, h => by
    exfalso
    have key : ∀ (n i : Nat), ai_loc (ai_ent n []) i = none := by
      intro n
      induction n with
      | zero => intro i; rfl
      | succ k ih =>
        intro i
        cases i with
        | zero => rfl
        | succ j => exact ih j
    rw [key] at h
    cases h
  | 1, .inr (.inl x) :: l, b, i, v, h => by
    cases i with
    | zero => cases h; exact List.mem_cons_self
    | succ j => cases h
  | n + 2, .inr (.inl x) :: l, b, i, v, h => by
    cases i with
    | zero => cases h; exact List.mem_cons_self
    | succ j =>
      cases j with
      | zero => cases h
      | succ q =>
        have := si_ent_mem (E := E) n l (b + 2) q v h
        refine List.mem_cons_of_mem _ ?_
        rw [show b + (q + 1 + 1) = b + 2 + q by omega]
        exact this
  | n + 1, .inl x :: l, b, i, v, h => by
    cases i with
    | zero => cases h; exact List.mem_cons_self
    | succ q =>
      have := si_ent_mem (E := E) n l (b + 1) q v h
      refine List.mem_cons_of_mem _ ?_
      rw [show b + (q + 1) = b + 1 + q by omega]
      exact this
  | n + 1, .inr (.inr a) :: l, b, i, v, h => by
    cases i with
    | zero => cases h; exact List.mem_cons_self
    | succ q =>
      have := si_ent_mem (E := E) n l (b + 1) q v h
      refine List.mem_cons_of_mem _ ?_
      rw [show b + (q + 1) = b + 1 + q by omega]
      cases a <;> exact this
theorem si_sl_len {E : si_E} (as : List ai_V) : (lg_sl (as.map (si_v E))).length = ai_wgt as := by
  induction as with
  | nil => rfl
  | cons v l ih =>
    show (List.flatMap _ (si_v E v :: l.map (si_v E))).length = ai_cat v + ai_wgt l
    rw [List.flatMap_cons, List.length_append]
    rw [show (List.flatMap (fun v : Value => if v.category = 2 then [Slot.val v, Slot.second] else [Slot.val v]) (l.map (si_v E))).length = ai_wgt l from ih]
    rcases v with x | x | a
    · rfl
    · rfl
    · cases a <;> rfl
theorem si_L.ent {E : si_E} (as : List ai_V) (n : Nat) (h : ai_wgt as ≤ n) : si_L E ((lg_sl (as.map (si_v E)) ++ List.replicate (n - (lg_sl (as.map (si_v E))).length) Slot.unset).toArray) n (ai_ent n as) := by
  obtain ⟨g1, g2, g3⟩ := lv_entry (as.map (si_v E)) (n := n) (by rw [si_sl_len]; exact h)
  refine ⟨g1, g2, si_ent_len n as, fun i v hv => ?_⟩
  have := si_ent_mem (E := E) n as 0 i v hv
  rw [Nat.zero_add] at this
  exact g3 _ this
/-- the weight of a stack -/
theorem si_wgt {E : si_E} (st : List ai_V) : ((st.map (si_v E)).map fun v => v.category).sum = ai_wgt st := by
  induction st with
  | nil => rfl
  | cons v l ih =>
    show (si_v E v).category + ((l.map (si_v E)).map fun v => v.category).sum = ai_cat v + ai_wgt l
    rw [ih, si_cat]
