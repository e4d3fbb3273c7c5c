/-! What a clause makes depends on the values of sets alone. -/
theorem od_c2 {V W : Nat → Int32} {φ : Nat → Nat} {g h : Nat → Int32} : ∀ k, (∀ j, j < k → V j = W j ∧ g j = h j) → od V φ g k = od W φ h k
  | 0, _ => rfl
  | k + 1, e => by
    have ih := od_c2 (φ := φ) k (fun j hj => e j (by omega))
    obtain ⟨e1, e2⟩ := e k (by omega)
    by_cases c : V k = NO
    · rw [od_f c, od_f (by rw [← e1]; exact c), ih]
    · rw [od_t c, od_t (by rw [← e1]; exact c), ih, e2]
theorem pin_c2 {W W2 : Nat → Int32} {op : Nat → Nat → Nat} {val val2 : Nat → Nat → Int32} {cond : Nat → Nat → Prop} [∀ a b, Decidable (cond a b)] {k : Nat} {D : Nat → Int32} : ∀ l, (∀ j, j < l → W j = W2 j ∧ val k j = val2 k j) → pin W op val cond k D l = pin W2 op val2 cond k D l
  | 0, _ => rfl
  | l + 1, e => by
    have ih := pin_c2 (op := op) (cond := cond) (k := k) (D := D) l (fun j hj => e j (by omega))
    obtain ⟨e1, e2⟩ := e l (by omega)
    by_cases c : W l ≠ NO ∧ cond k l
    · rw [pin_t c, pin_t (by rw [← e1]; exact c), ih, e2]
    · rw [pin_f c, pin_f (by rw [← e1]; exact c), ih]
theorem pou_c2 {V V2 W W2 : Nat → Int32} {op : Nat → Nat → Nat} {val val2 : Nat → Nat → Int32} {cond : Nat → Nat → Prop} [∀ a b, Decidable (cond a b)] : ∀ k, (∀ j, j < k → V j = V2 j) → (∀ j, j < 256 → W j = W2 j) → (∀ i j, i < k → j < 256 → val i j = val2 i j) → pou V W op val cond k = pou V2 W2 op val2 cond k
  | 0, _, _, _ => rfl
  | k + 1, e, e2, e3 => by
    have ih := pou_c2 (op := op) (cond := cond) k (fun j hj => e j (by omega)) e2 (fun i j hi hj => e3 i j (by omega) hj)
    have e1 := e k (by omega)
    by_cases c : V k = NO
    · rw [pou_f c, pou_f (by rw [← e1]; exact c), ih]
    · rw [pou_t c, pou_t (by rw [← e1]; exact c), ih]
      exact pin_c2 256 (fun j hj => ⟨e2 j hj, e3 k j (by omega) hj⟩)
theorem gs_c2 {f g : Nat → Int32} {l : List Nat} (h : ∀ x, x ∈ l → f x = g x) : gs f l = gs g l := fd_congr (fun x hx a => by
  show mx a (f x) = mx a (g x)
  rw [h x hx])
theorem DRk_cA {A B : SV} {kd cnt n r : Nat} {c D : Nat → Int32} (h1 : ∀ s, s < 4 → A.1 s = B.1 s ∧ A.2.1 s = B.2.1 s ∧ ∀ k, k < 256 → A.2.2.1 s k = B.2.2.1 s k) (h2 : ∀ e, e < 8 → A.2.2.2 e = B.2.2.2 e) (h : DRk A kd c cnt n r D) : DRk B kd c cnt n r D := by
  obtain ⟨⟨g1, g2, g3, g4⟩, h⟩ := h
  refine ⟨⟨g1, g2, g3, g4⟩, ?_⟩
  have h8 := p2_le g2
  have hcd : ∀ s w, s < 4 → ∀ j z, cdt (A.2.2.1 s) w n 256 j z ↔ cdt (B.2.2.1 s) w n 256 j z := fun s w hs j z => by
    have e := (h1 s hs).2.2
    exact ⟨fun ⟨b, i, b1, b2, b3, b4, b5, b6⟩ => ⟨b, i, b1, by rw [← e b b1]; exact b2, b3, b4, b5, by rw [← e b b1]; exact b6⟩, fun ⟨b, i, b1, b2, b3, b4, b5, b6⟩ => ⟨b, i, b1, by rw [e b b1]; exact b2, b3, b4, b5, by rw [e b b1]; exact b6⟩⟩
  have hls : ∀ s e w, s < 4 → lsd (A.2.2.1 s) e w 256 = lsd (B.2.2.1 s) e w 256 := fun s e w hs => od_c2 256 (fun j hj => ⟨by
    unfold hal
    rw [(h1 s hs).2.2 j hj], (h1 s hs).2.2 j hj⟩)
  match kd, h with
  | 1, h => exact h
  | 2, h => exact h
  | 3, h => exact h
  | 4, h => exact h
  | 5, ⟨s, a1, a2, a3, a4, a5⟩ =>
    obtain ⟨e1, e2, e3⟩ := h1 s a1
    refine ⟨s, a1, a2, by rw [← e1]; exact a3, by rw [← e1, ← e2]; exact a4, fun j hj => ?_⟩
    rw [a5 j hj]
    unfold dua
    by_cases c : j < 2 ^ n
    · rw [if_pos c, if_pos c, e3 _ (Nat.lt_of_lt_of_le (al_x c) h8)]
    · rw [if_neg c, if_neg c, e3 j hj]
  | 6, ⟨s, e, a1, a2, a3, a4, a5, a6, a7⟩ =>
    obtain ⟨e1, e2, e3⟩ := h1 s a1
    exact ⟨s, e, a1, a2, a3, by rw [← e1]; exact a4, by rw [← e1]; exact a5, by rw [← e2]; exact a6, fun j hj => by rw [a7 j hj, hls s e _ a1]⟩
  | 7, ⟨s, e, a1, a2, a3, a4, a5, a6, a7⟩ =>
    obtain ⟨e1, e2, e3⟩ := h1 s a1
    exact ⟨s, e, a1, a2, a3, by rw [← e1]; exact a4, by rw [← e1]; exact a5, by rw [← e2]; exact a6, fun j hj => by rw [a7 j hj, hls s e _ a1]⟩
  | 8, ⟨s, a1, a2, a3, a4, a5⟩ =>
    obtain ⟨e1, e2, e3⟩ := h1 s a1
    refine ⟨s, a1, a2, by rw [← e1]; exact a3, by rw [← e2]; exact a4, fun j hj => ?_⟩
    rw [a5 j hj]
    unfold shi
    rw [e3 j hj, prs_cong h2]
  | 9, ⟨s, t, a1, a2, a3, a4, a5, a6, a7⟩ =>
    obtain ⟨e1, e2, e3⟩ := h1 s a1
    obtain ⟨d1, d2, d3⟩ := h1 t a2
    refine ⟨s, t, a1, a2, a3, a4, by rw [← e1, ← d1]; exact a5, by rw [← e2, ← d2]; exact a6, fun j hj => ?_⟩
    rw [a7 j hj, ← e1]
    exact congrFun (pou_c2 256 e3 d3 (fun i j hi hj => by rw [e3 i hi, d3 j hj])) j
  | 10, ⟨s, a1, a2, a3, a4, a5⟩ =>
    obtain ⟨e1, e2, e3⟩ := h1 s a1
    exact ⟨s, a1, a2, by rw [← e1]; exact a3, by rw [← e2]; exact a4, fun j hj => MX_cong (a5 j hj) (hcd s true a1 j)⟩
  | 11, ⟨s, a1, a2, a3, a4, a5⟩ =>
    obtain ⟨e1, e2, e3⟩ := h1 s a1
    refine ⟨s, a1, a2, by rw [← e1]; exact a3, by rw [← e2]; exact a4, fun j hj => ?_⟩
    have ef : ∀ x, x < 256 → A.2.2.1 s x + prs A.2.2.2 x = B.2.2.1 s x + prs B.2.2.2 x := fun x hx => by rw [e3 x hx, prs_cong h2]
    rw [a5 j hj]
    unfold ini
    rw [e3 j hj, BL_cong e3, gs_c2 (f := fun x => A.2.2.1 s x + prs A.2.2.2 x) (g := fun x => B.2.2.1 s x + prs B.2.2.2 x) (fun x hx => ef x (BL_mem.1 hx).1), show (fun x => A.2.2.1 s x + prs A.2.2.2 x) j = (fun x => B.2.2.1 s x + prs B.2.2.2 x) j from ef j hj]
  | 12, ⟨s, a1, a2, a3, a4, a5⟩ =>
    obtain ⟨e1, e2, e3⟩ := h1 s a1
    exact ⟨s, a1, a2, by rw [← e1]; exact a3, by rw [← e2]; exact a4, fun j hj => MX_cong (a5 j hj) (hcd s false a1 j)⟩
  | 13, ⟨s, t, a1, a2, a3, a4, a5, a6, a7, a8⟩ =>
    obtain ⟨e1, e2, e3⟩ := h1 s a1
    obtain ⟨d1, d2, d3⟩ := h1 t a2
    refine ⟨s, t, a1, a2, a3, a4, by rw [← e1, ← d1]; exact a5, by rw [← e1]; exact a6, by rw [← e2, ← d2]; exact a7, fun j hj => ?_⟩
    rw [a8 j hj]
    exact congrFun (pou_c2 256 e3 d3 (fun i j hi hj => by rw [e3 i hi, d3 j hj])) j
  | 0, h => exact h.elim
  | k + 14, h => exact h.elim
