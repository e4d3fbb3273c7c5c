/-! Out of whole's part 79zh.draft, by wip/p46/extract.py. -/
theorem pin_n2 {W : Nat → Int32} {op : Nat → Nat → Nat} {val : Nat → Nat → Int32} {cond : Nat → Nat → Prop} [∀ a b, Decidable (cond a b)] {k j : Nat} {D : Nat → Int32} (hD : D j = NO) : ∀ l, (∀ x, x < l → W x ≠ NO → cond k x → ¬ op k x = j) → pin W op val cond k D l j = NO
  | 0, _ => hD
  | l + 1, h => by
    by_cases c : W l ≠ NO ∧ cond k l
    · rw [pin_t c, up_ne (fun e => h l (by omega) c.1 c.2 e.symm)]
      exact pin_n2 hD l (fun x hx => h x (by omega))
    · rw [pin_f c]
      exact pin_n2 hD l (fun x hx => h x (by omega))
theorem pou_n2 {V W : Nat → Int32} {op : Nat → Nat → Nat} {val : Nat → Nat → Int32} {cond : Nat → Nat → Prop} [∀ a b, Decidable (cond a b)] {j : Nat} : ∀ k, (∀ y x, y < k → V y ≠ NO → x < 256 → W x ≠ NO → cond y x → ¬ op y x = j) → pou V W op val cond k j = NO
  | 0, _ => rfl
  | k + 1, h => by
    have ih := pou_n2 (V := V) (W := W) (op := op) (val := val) (cond := cond) (j := j) k (fun y x hy => h y x (by omega))
    by_cases c : V k = NO
    · rw [pou_f c]
      exact ih
    · rw [pou_t c]
      exact pin_n2 ih 256 (fun x hx hW hc => h k x (by omega) c hx hW hc)
theorem sh_lt2 {n m a b : Nat} (h : a < 2 ^ n) (h2 : b < 2 ^ m) : a ||| b * 2 ^ n < 2 ^ (n + m) := by
  rw [sh_or h]
  have h4 : (b + 1) * 2 ^ n ≤ 2 ^ m * 2 ^ n := Nat.mul_le_mul_right _ h2
  rw [← Nat.pow_add, Nat.add_mul, Nat.one_mul, Nat.add_comm m n] at h4
  omega
def WFA (A : SV) : Prop := ∀ s, s < 4 → WF (A.1 s) (A.2.1 s) (A.2.2.1 s)
theorem MX_n {P : Int32 → Prop} {x : Int32} (h : MX P x) (hx : x ≠ NO) : P x := by
  rcases h with ⟨h, _⟩ | ⟨h, _⟩
  · exact absurd h hx
  · exact h
theorem lsd_n {V : Nat → Int32} {e n r : Nat} {w : Bool} (hW : WF n r V) (he : e < n) : ∀ j, j < 256 → lsd V e w 256 j ≠ NO → j < 2 ^ (n - 1) ∧ pc j = r - w.toNat := fun j hj hV => by
  have hn := hW.2.1
  refine Classical.byContradiction (fun hb => hV ?_)
  refine (od_inj (hal_inj (V := V) (w := w) (show e < 8 by omega)) 256 (Nat.le_refl _) j).2 (fun b hb2 hh e2 => hb ?_)
  unfold hal at hh
  by_cases c : b.testBit e = w
  · rw [if_pos c] at hh
    obtain ⟨g1, g2, -⟩ := hW.2.2.2.2.1 b hb2 hh
    have g3 := pc_wo e (by omega) b hb2
    have g4 := wo_l n (by omega) e he b g1
    rw [e2] at g3 g4
    rw [c] at g3
    exact ⟨g4, by omega⟩
  · rw [if_neg c] at hh
    exact absurd rfl hh
theorem DRk_DW {A : SV} {kd cnt n r : Nat} {c D : Nat → Int32} (hA : WFA A) (hC : CFk kd c cnt) (h : DRk A kd c cnt n r D) : DW n r D := by
  obtain ⟨⟨g1, g2, g3, g4⟩, h⟩ := h
  refine ⟨g1, g2, g3, g4, fun j hj hD => ?_⟩
  match kd, hC, h with
  | 1, _, ⟨a1, a2, a3⟩ =>
    rw [a3 j hj] at hD
    unfold uni at hD
    by_cases c : j < 2 ^ n ∧ pc j = r
    · exact c
    · rw [if_neg c] at hD
      exact absurd rfl hD
  | 2, _, ⟨a1, a2, B, a3, a4⟩ =>
    rw [a4 j hj] at hD
    by_cases c : j < 2 ^ n ∧ pc j = r
    · exact c
    · rw [if_neg c] at hD
      exact absurd rfl hD
  | 3, _, ⟨a1, a2, a3⟩ =>
    rw [a3 j hj] at hD
    unfold gph at hD
    by_cases c : j < 2 ^ n ∧ pc j = r ∧ mt j (fun i => (c (3 + i)).toNatClampNeg) n (r + 1) = 2 ^ (r + 1) - 1
    · exact ⟨c.1, c.2.1⟩
    · rw [if_neg c] at hD
      exact absurd rfl hD
  | 4, hC, ⟨a1, a2, q, a3, a4⟩ =>
    unfold CFk at hC
    rw [if_neg (by decide), if_neg (by decide), if_neg (by decide)] at hC
    obtain ⟨a, b, ⟨-, b1, b2⟩, b3, b4, b5, b6, -, -, b7⟩ := hC
    obtain rfl := n_in (by omega) (by omega) a1 b1
    obtain rfl := n_in (by omega) (by omega) a2 b2
    obtain ⟨q2, b8, b9, -⟩ := b7 rfl
    obtain rfl : q = q2 := by omega
    rw [a4 j hj] at hD
    refine Classical.byContradiction (fun hb => hD (tdr_no q (fun i hi e => hb ?_)))
    obtain ⟨⟨x, x1, x2, x3⟩, -⟩ := b9 i hi
    have := p2_le g2
    rw [x3, i_cl (by omega)] at e
    rw [← e]
    exact ⟨x1, x2⟩
  | 5, _, ⟨s, a1, a2, a3, a4, a5⟩ =>
    have hW := hA s a1
    rw [a5 j hj, a3] at hD
    unfold dua at hD
    have h8 := p2_le hW.2.1
    by_cases c : j < 2 ^ A.1 s
    · rw [if_pos c] at hD
      obtain ⟨w1, w2, -⟩ := hW.2.2.2.2.1 _ (Nat.lt_of_lt_of_le (al_x c) h8) hD
      have := pc_al (A.1 s) (by omega) j c
      exact ⟨by rw [a3]; exact c, by omega⟩
    · rw [if_neg c] at hD
      exact absurd (hW.2.2.2.2.1 _ hj hD).1 c
  | 6, _, ⟨s, e, a1, a2, a3, a4, a5, a6, a7⟩ =>
    rw [a7 j hj] at hD
    rw [a5, a6]
    exact lsd_n (hA s a1) a4 j hj hD
  | 7, _, ⟨s, e, a1, a2, a3, a4, a5, a6, a7⟩ =>
    rw [a7 j hj] at hD
    rw [a5, a6]
    exact lsd_n (hA s a1) a4 j hj hD
  | 8, _, ⟨s, a1, a2, a3, a4, a5⟩ =>
    rw [a5 j hj] at hD
    rw [a3, a4]
    unfold shi at hD
    by_cases c : A.2.2.1 s j = NO
    · rw [if_pos c] at hD
      exact absurd rfl hD
    · have := (hA s a1).2.2.2.2.1 j hj c
      exact ⟨this.1, this.2.1⟩
  | 9, _, ⟨s, t, a1, a2, a3, a4, a5, a6, a7⟩ =>
    have hW := hA s a1
    have hW2 := hA t a2
    rw [a7 j hj] at hD
    refine Classical.byContradiction (fun hb => hD (pou_n2 256 (fun y x hy hVy hx hWx _ e => hb ?_)))
    obtain ⟨y1, y2, -⟩ := hW.2.2.2.2.1 y hy hVy
    obtain ⟨x1, x2, -⟩ := hW2.2.2.2.2.1 x hx hWx
    have h1 := sh_lt2 y1 x1
    have h2 := pc_sh2 (A.1 s) (by omega) y y1 x (Nat.lt_of_lt_of_le x1 (Nat.pow_le_pow_right (by decide) (by omega)))
    rw [e] at h1 h2
    exact ⟨by rw [a5]; exact h1, by omega⟩
  | 10, _, ⟨s, a1, a2, a3, a4, a5⟩ =>
    have hW := hA s a1
    have := MX_n (a5 j hj) hD
    rw [a3] at this
    refine ⟨by rw [a3]; exact cdt_lt hW this (Nat.le_refl _), ?_⟩
    obtain ⟨b, e, e1, e2, e3, e4, e5, e6⟩ := this
    have w := hW.2.2.2.2.1 b e1 e2
    have := pc_x b e1 e (by have := hW.2.1; omega) e4
    rw [← e5] at this
    omega
  | 11, _, ⟨s, a1, a2, a3, a4, a5⟩ =>
    rw [a5 j hj] at hD
    rw [a3, a4]
    unfold ini at hD
    by_cases c : A.2.2.1 s j ≠ NO ∧ (fun x => A.2.2.1 s x + prs A.2.2.2 x) j = gs (fun x => A.2.2.1 s x + prs A.2.2.2 x) (BL (A.2.2.1 s))
    · have := (hA s a1).2.2.2.2.1 j hj c.1
      exact ⟨this.1, this.2.1⟩
    · rw [if_neg c] at hD
      exact absurd rfl hD
  | 12, _, ⟨s, a1, a2, a3, a4, a5⟩ =>
    have hW := hA s a1
    have := MX_n (a5 j hj) hD
    rw [a3] at this
    refine ⟨by rw [a3]; exact cdt_lt hW this (Nat.le_refl _), ?_⟩
    obtain ⟨b, e, e1, e2, e3, e4, e5, e6⟩ := this
    have w := hW.2.2.2.2.1 b e1 e2
    have := pc_y b e1 e (by have := hW.2.1; omega) e4
    rw [← e5] at this
    omega
  | 13, _, ⟨s, t, a1, a2, a3, a4, a5, a6, a7, a8⟩ =>
    have hW := hA s a1
    have hW2 := hA t a2
    rw [a8 j hj] at hD
    refine Classical.byContradiction (fun hb => hD (pou_n2 256 (fun y x hy hVy hx hWx hc e => hb ?_)))
    obtain ⟨y1, y2, -⟩ := hW.2.2.2.2.1 y hy hVy
    obtain ⟨x1, x2, -⟩ := hW2.2.2.2.2.1 x hx hWx
    rw [← a5] at x1
    have h1 := Nat.or_lt_two_pow y1 x1
    have h2 := pc_or2 y hy x hx hc
    rw [e] at h1 h2
    exact ⟨by rw [a6]; exact h1, by omega⟩
  | 0, _, h => exact h.elim
  | k + 14, _, h => exact h.elim
