/-! Potentials: rounds of lowering come to rest as soon as they can. -/
abbrev cst3 : Type := Nat × Nat × Int32
def rel2 (q : cst3) (s : Nat × (Nat → Int32)) : Nat × (Nat → Int32) := if s.2 q.2.1 + q.2.2 < s.2 q.1 then (1, va_up s.2 q.1 (s.2 q.2.1 + q.2.2)) else s
def rfs : List cst3 → Nat × (Nat → Int32) → Nat × (Nat → Int32)
  | [], s => s
  | q :: L, s => rfs L (rel2 q s)
theorem rfs_app : ∀ (A B : List cst3) (s : Nat × (Nat → Int32)), rfs (A ++ B) s = rfs B (rfs A s)
  | [], B, s => rfl
  | q :: A, B, s => rfs_app A B (rel2 q s)
def Pk (L : List cst3) : Nat → Nat → Int32
  | 0 => fun _ => nI 0
  | k + 1 => (rfs L (0, Pk L k)).2
/-- whether the k-th round changes something -/
def Fk (L : List cst3) (k : Nat) : Nat := (rfs L (0, Pk L k)).1
theorem rfs_1 : ∀ (L : List cst3) (s : Nat × (Nat → Int32)), s.1 = 1 → (rfs L s).1 = 1
  | [], s, h => h
  | q :: L, s, h => rfs_1 L _ (by
    unfold rel2
    split
    · rfl
    · exact h)
theorem rfs_01 : ∀ (L : List cst3) (s : Nat × (Nat → Int32)), s.1 ≤ 1 → (rfs L s).1 ≤ 1
  | [], s, h => h
  | q :: L, s, h => rfs_01 L _ (by
    unfold rel2
    split
    · exact Nat.le_refl _
    · exact h)
/-- all that is asked holds -/
def fpx (L : List cst3) (p : Nat → Int32) : Prop := ∀ q, q ∈ L → ¬ p q.2.1 + q.2.2 < p q.1
theorem rfs_0 : ∀ (L : List cst3) (s : Nat × (Nat → Int32)), (rfs L s).1 = 0 → rfs L s = s ∧ fpx L s.2
  | [], s, h => ⟨rfl, fun q hq => absurd hq (List.not_mem_nil)⟩
  | q :: L, s, h => by
    by_cases c : s.2 q.2.1 + q.2.2 < s.2 q.1
    · have e : (rfs L (rel2 q s)).1 = 1 := rfs_1 L _ (by unfold rel2; rw [if_pos c])
      have h2 : (rfs L (rel2 q s)).1 = 0 := h
      omega
    · have e : rel2 q s = s := if_neg c
      have h2 : (rfs L (rel2 q s)).1 = 0 := h
      rw [e] at h2
      obtain ⟨h3, h4⟩ := rfs_0 L s h2
      refine ⟨by show rfs L (rel2 q s) = s; rw [e, h3], fun q2 hq => ?_⟩
      rcases List.mem_cons.1 hq with rfl | hq
      · exact c
      · exact h4 q2 hq
theorem rfs_fp : ∀ (L : List cst3) (s : Nat × (Nat → Int32)), fpx L s.2 → rfs L s = s
  | [], s, h => rfl
  | q :: L, s, h => by
    have e : rel2 q s = s := if_neg (h q (List.mem_cons_self ..))
    show rfs L (rel2 q s) = s
    rw [e]
    exact rfs_fp L s (fun q2 hq => h q2 (List.mem_cons_of_mem _ hq))
theorem Fk_0 {L : List cst3} {k : Nat} (h : Fk L k = 0) : Pk L (k + 1) = Pk L k ∧ fpx L (Pk L k) := by
  obtain ⟨h1, h2⟩ := rfs_0 L (0, Pk L k) h
  exact ⟨by show (rfs L (0, Pk L k)).2 = Pk L k; rw [h1], h2⟩
theorem Fk_fp {L : List cst3} {k : Nat} (h : fpx L (Pk L k)) : Fk L k = 0 := by
  show (rfs L (0, Pk L k)).1 = 0
  rw [rfs_fp L (0, Pk L k) h]
/-- bounds -/
def Bd (B : Int) (p : Nat → Int32) : Prop := ∀ e, -B ≤ (p e).toInt ∧ (p e).toInt ≤ 0
def wbd (L : List cst3) : Prop := ∀ q, q ∈ L → -2000000 ≤ q.2.2.toInt ∧ q.2.2.toInt ≤ 2000000
theorem add_ti {a w : Int32} {B : Int} (hB : B ≤ 2100000000) (h1 : -B ≤ a.toInt) (h2 : a.toInt ≤ 0) (h3 : -2000000 ≤ w.toInt) (h4 : w.toInt ≤ 2000000) : (a + w).toInt = a.toInt + w.toInt := by
  rw [Int32.toInt_add]
  unfold Int.bmod
  dsimp only
  split <;> omega
theorem rel_cond {q : cst3} {p : Nat → Int32} {B : Int} (hB : B ≤ 2100000000) (h : Bd B p) (hw : -2000000 ≤ q.2.2.toInt ∧ q.2.2.toInt ≤ 2000000) : (p q.2.1 + q.2.2 < p q.1) ↔ (p q.2.1).toInt + q.2.2.toInt < (p q.1).toInt := by
  rw [Int32.lt_iff_toInt_lt, add_ti hB (h _).1 (h _).2 hw.1 hw.2]
/-- a value behind one lowering -/
theorem rel_val {q : cst3} {f : Nat} {p : Nat → Int32} {B : Int} (hB : B ≤ 2100000000) (h : Bd B p) (hw : -2000000 ≤ q.2.2.toInt ∧ q.2.2.toInt ≤ 2000000) (e : Nat) : ((rel2 q (f, p)).2 e).toInt = if e = q.1 ∧ (p q.2.1).toInt + q.2.2.toInt < (p q.1).toInt then (p q.2.1).toInt + q.2.2.toInt else (p e).toInt := by
  unfold rel2
  by_cases c : p q.2.1 + q.2.2 < p q.1
  · rw [if_pos c]
    have c2 := (rel_cond hB h hw).1 c
    by_cases e1 : e = q.1
    · rw [if_pos ⟨e1, c2⟩]
      show (va_up p q.1 (p q.2.1 + q.2.2) e).toInt = _
      rw [e1, up_eq, add_ti hB (h _).1 (h _).2 hw.1 hw.2]
    · rw [if_neg (fun h9 => e1 h9.1)]
      show (va_up p q.1 (p q.2.1 + q.2.2) e).toInt = _
      rw [up_ne e1]
  · rw [if_neg c, if_neg (fun h9 => c ((rel_cond hB h hw).2 h9.2))]
theorem rel_Bd {q : cst3} {f : Nat} {p : Nat → Int32} {B : Int} (hB : B ≤ 2100000000) (h : Bd B p) (hw : -2000000 ≤ q.2.2.toInt ∧ q.2.2.toInt ≤ 2000000) : Bd (B + 2000000) (rel2 q (f, p)).2 := fun e => by
  rw [rel_val hB h hw e]
  have h1 := h e
  have h2 := h q.1
  have h3 := h q.2.1
  split
  · omega
  · omega
/-- what a property of values, kept by each lowering, is worth -/
theorem rfs_keep {R : (Nat → Int32) → Prop} : ∀ (L : List cst3) (f : Nat) (p : Nat → Int32) (B : Int), wbd L → B + 2000000 * (L.length : Int) ≤ 2100000000 → Bd B p → R p → (∀ q, q ∈ L → ∀ (f : Nat) (p : Nat → Int32) (B : Int), B ≤ 2100000000 → Bd B p → R p → R (rel2 q (f, p)).2) → R (rfs L (f, p)).2 ∧ Bd (B + 2000000 * (L.length : Int)) (rfs L (f, p)).2
  | [], f, p, B, _, _, hB, hR, _ => ⟨hR, by
    show Bd (B + 2000000 * ((0 : Nat) : Int)) p
    rw [show B + 2000000 * ((0 : Nat) : Int) = B by omega]
    exact hB⟩
  | q :: L, f, p, B, hw, hl, hB, hR, hs => by
    rw [List.length_cons] at hl ⊢
    have hq := hw q (List.mem_cons_self ..)
    have h1 := rel_Bd (f := f) (show B ≤ 2100000000 by omega) hB hq
    have h2 := hs q (List.mem_cons_self ..) f p B (by omega) hB hR
    have ih := rfs_keep (R := R) L (rel2 q (f, p)).1 (rel2 q (f, p)).2 (B + 2000000) (fun q2 h => hw q2 (List.mem_cons_of_mem _ h)) (by omega) h1 h2 (fun q2 h => hs q2 (List.mem_cons_of_mem _ h))
    rw [show B + 2000000 * ((L.length + 1 : Nat) : Int) = B + 2000000 + 2000000 * (L.length : Int) by omega]
    exact ih
theorem Pk_Bd {L : List cst3} (hw : wbd L) (hl : L.length ≤ 112) : ∀ (k : Nat), k ≤ 9 → Bd (2000000 * (L.length : Int) * (k : Int)) (Pk L k)
  | 0, _ => fun e => by
    show _ ≤ (nI 0).toInt ∧ (nI 0).toInt ≤ 0
    rw [show (nI 0).toInt = 0 from by decide]
    omega
  | k + 1, hk => by
    have ih := Pk_Bd hw hl k (by omega)
    have e : (2000000 * (L.length : Int) * ((k + 1 : Nat) : Int)) = 2000000 * (L.length : Int) * (k : Int) + 2000000 * (L.length : Int) := by
      rw [Int.natCast_add, Int.mul_add]
      omega
    have hlen : 2000000 * (L.length : Int) * (k : Int) ≤ 2000000 * 112 * 8 := by
      have h1 : 2000000 * (L.length : Int) ≤ 2000000 * 112 := by omega
      have h2 : (k : Int) ≤ 8 := by omega
      have h3 : 2000000 * (L.length : Int) * (k : Int) ≤ 2000000 * 112 * (k : Int) := Int.mul_le_mul_of_nonneg_right h1 (by omega)
      have h4 : (2000000 * 112 : Int) * (k : Int) ≤ 2000000 * 112 * 8 := Int.mul_le_mul_of_nonneg_left h2 (by omega)
      omega
    rw [e]
    exact (rfs_keep (R := fun _ => True) L 0 (Pk L k) _ hw (by omega) ih trivial (fun _ _ _ _ _ _ _ _ => trivial)).2
theorem Pk_Bd2 {L : List cst3} (hw : wbd L) (hl : L.length ≤ 112) {k : Nat} (hk : k ≤ 8) : ∃ B : Int, B + 2000000 * (L.length : Int) ≤ 2100000000 ∧ Bd B (Pk L k) := by
  refine ⟨2000000 * 112 * 8, by omega, fun e => ?_⟩
  have h := Pk_Bd hw hl k (by omega) e
  have h1 : 2000000 * (L.length : Int) ≤ 2000000 * 112 := by omega
  have h2 : (k : Int) ≤ 8 := by omega
  have h3 : 2000000 * (L.length : Int) * (k : Int) ≤ 2000000 * 112 * (k : Int) := Int.mul_le_mul_of_nonneg_right h1 (by omega)
  have h4 : (2000000 * 112 : Int) * (k : Int) ≤ 2000000 * 112 * 8 := Int.mul_le_mul_of_nonneg_left h2 (by omega)
  omega
/-- what is asked, as numbers -/
def fpi (L : List cst3) (z : Nat → Int32) : Prop := ∀ q, q ∈ L → (z q.1).toInt ≤ (z q.2.1).toInt + q.2.2.toInt
theorem fpx_i {L : List cst3} {z : Nat → Int32} {B : Int} (hw : wbd L) (hB : B ≤ 2100000000) (hz : Bd B z) (h : fpx L z) : fpi L z := fun q hq => by
  have h1 := h q hq
  rw [rel_cond hB hz (hw q hq)] at h1
  omega
theorem fpi_x {L : List cst3} {z : Nat → Int32} {B : Int} (hw : wbd L) (hB : B ≤ 2100000000) (hz : Bd B z) (h : fpi L z) : fpx L z := fun q hq h9 => by
  rw [rel_cond hB hz (hw q hq)] at h9
  have := h q hq
  omega
def geq (z p : Nat → Int32) : Prop := ∀ e, (z e).toInt ≤ (p e).toInt
theorem rel_ge {q : cst3} {f : Nat} {z p : Nat → Int32} {B : Int} (hB : B ≤ 2100000000) (h : Bd B p) (hw : -2000000 ≤ q.2.2.toInt ∧ q.2.2.toInt ≤ 2000000) (hz : (z q.1).toInt ≤ (z q.2.1).toInt + q.2.2.toInt) (hg : geq z p) : geq z (rel2 q (f, p)).2 := fun e => by
  rw [rel_val hB h hw e]
  split
  · rename_i c
    rw [c.1]
    have := hg q.2.1
    omega
  · exact hg e
theorem rel_le {q : cst3} {f : Nat} {p p0 : Nat → Int32} {B : Int} (hB : B ≤ 2100000000) (h : Bd B p) (hw : -2000000 ≤ q.2.2.toInt ∧ q.2.2.toInt ≤ 2000000) (hg : geq p p0) : geq (rel2 q (f, p)).2 p0 := fun e => by
  rw [rel_val hB h hw e]
  have := hg e
  split
  · rename_i c
    rw [c.1] at this ⊢
    omega
  · exact this
theorem rfs_ge {L : List cst3} {f : Nat} {z p : Nat → Int32} {B : Int} (hw : wbd L) (hl : B + 2000000 * (L.length : Int) ≤ 2100000000) (h : Bd B p) (hz : fpi L z) (hg : geq z p) : geq z (rfs L (f, p)).2 := (rfs_keep (R := fun p => geq z p) L f p B hw hl h hg (fun q hq f p B hB hb hR => rel_ge hB hb (hw q hq) (hz q hq) hR)).1
theorem rfs_le {L : List cst3} {f : Nat} {p p0 : Nat → Int32} {B : Int} (hw : wbd L) (hl : B + 2000000 * (L.length : Int) ≤ 2100000000) (h : Bd B p) (hg : geq p p0) : geq (rfs L (f, p)).2 p0 := (rfs_keep (R := fun p => geq p p0) L f p B hw hl h hg (fun q hq f p B hB hb hR => rel_le hB hb (hw q hq) hR)).1
theorem geq_rf {p : Nat → Int32} : geq p p := fun _ => Int.le_refl _
/-- what is tight by something final becomes final -/
theorem rfs_tight {L : List cst3} {f : Nat} {z p : Nat → Int32} {B : Int} {q : cst3} (hw : wbd L) (hl : B + 2000000 * (L.length : Int) ≤ 2100000000) (h : Bd B p) (hz : fpi L z) (hg : geq z p) (hq : q ∈ L) (ht : (z q.2.1).toInt + q.2.2.toInt ≤ (z q.1).toInt) (hd : (p q.2.1).toInt = (z q.2.1).toInt) : ((rfs L (f, p)).2 q.1).toInt = (z q.1).toInt := by
  obtain ⟨A, C, rfl⟩ := List.append_of_mem hq
  have hwA : wbd A := fun x hx => hw x (List.mem_append_left _ hx)
  have hwC : wbd C := fun x hx => hw x (List.mem_append_right _ (List.mem_cons_of_mem _ hx))
  have hzA : fpi A z := fun x hx => hz x (List.mem_append_left _ hx)
  have hzC : fpi C z := fun x hx => hz x (List.mem_append_right _ (List.mem_cons_of_mem _ hx))
  rw [List.length_append, List.length_cons] at hl
  obtain ⟨-, b1⟩ := rfs_keep (R := fun _ => True) A f p B hwA (by omega) h trivial (fun _ _ _ _ _ _ _ _ => trivial)
  have g1 := rfs_ge (f := f) hwA (show B + 2000000 * (A.length : Int) ≤ 2100000000 by omega) h hzA hg
  have l1 := rfs_le (f := f) hwA (show B + 2000000 * (A.length : Int) ≤ 2100000000 by omega) h geq_rf
  have hqw := hw q hq
  have hqz := hz q hq
  rw [rfs_app]
  show ((rfs C (rel2 q (rfs A (f, p)))).2 q.1).toInt = (z q.1).toInt
  have b2 := rel_Bd (f := (rfs A (f, p)).1) (show B + 2000000 * (A.length : Int) ≤ 2100000000 by omega) b1 hqw
  have g2 := rel_ge (f := (rfs A (f, p)).1) (show B + 2000000 * (A.length : Int) ≤ 2100000000 by omega) b1 hqw hqz g1
  have v2 := rel_val (f := (rfs A (f, p)).1) (show B + 2000000 * (A.length : Int) ≤ 2100000000 by omega) b1 hqw q.1
  have g3 := rfs_ge (f := (rel2 q (rfs A (f, p))).1) hwC (show B + 2000000 * (A.length : Int) + 2000000 + 2000000 * (C.length : Int) ≤ 2100000000 by omega) b2 hzC g2 q.1
  have l3 := rfs_le (f := (rel2 q (rfs A (f, p))).1) hwC (show B + 2000000 * (A.length : Int) + 2000000 + 2000000 * (C.length : Int) ≤ 2100000000 by omega) b2 geq_rf q.1
  have l1d := l1 q.2.1
  have g1d := g1 q.2.1
  have e : ((rel2 q (rfs A (f, p))).2 q.1).toInt ≤ (z q.1).toInt := by
    have v3 : ((rel2 q (rfs A (f, p))).2 q.1).toInt = if q.1 = q.1 ∧ ((rfs A (f, p)).2 q.2.1).toInt + q.2.2.toInt < ((rfs A (f, p)).2 q.1).toInt then ((rfs A (f, p)).2 q.2.1).toInt + q.2.2.toInt else ((rfs A (f, p)).2 q.1).toInt := v2
    rw [v3]
    split
    · omega
    · rename_i c
      have : ¬ ((rfs A (f, p)).2 q.2.1).toInt + q.2.2.toInt < ((rfs A (f, p)).2 q.1).toInt := fun h9 => c ⟨rfl, h9⟩
      omega
  have g4 : (z q.1).toInt ≤ ((rfs C (rel2 q (rfs A (f, p)))).2 q.1).toInt := g3
  have l4 : ((rfs C (rel2 q (rfs A (f, p)))).2 q.1).toInt ≤ ((rel2 q (rfs A (f, p))).2 q.1).toInt := l3
  omega
/-- what no final one makes final stays above -/
theorem rfs_stay {L : List cst3} {f : Nat} {z p : Nat → Int32} {B : Int} {X : Nat → Prop} (hw : wbd L) (hl : B + 2000000 * (L.length : Int) ≤ 2100000000) (h : Bd B p) (hz : fpi L z) (hs : ∀ q, q ∈ L → X q.1 → ¬ X q.2.1 → (z q.1).toInt < (z q.2.1).toInt + q.2.2.toInt) (hg : geq z p) (hX : ∀ e, X e → (z e).toInt < (p e).toInt) : ∀ e, X e → (z e).toInt < ((rfs L (f, p)).2 e).toInt := (rfs_keep (R := fun p => geq z p ∧ ∀ e, X e → (z e).toInt < (p e).toInt) L f p B hw hl h ⟨hg, hX⟩ (fun q hq f p B hB hb hR => by
    refine ⟨rel_ge hB hb (hw q hq) (hz q hq) hR.1, fun e he => ?_⟩
    rw [rel_val hB hb (hw q hq) e]
    split
    · rename_i c
      rw [c.1] at he ⊢
      by_cases hd : X q.2.1
      · have := hR.2 _ hd
        have := hz q hq
        omega
      · have := hs q hq he hd
        have := hR.1 q.2.1
        omega
    · exact hR.2 e he)).1.2
