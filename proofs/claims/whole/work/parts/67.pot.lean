/-! Potentials: they rest by as many rounds as there are elements, if they do. -/
theorem Pk_out {L : List cst3} {e : Nat} (h : ∀ q, q ∈ L → ¬ q.1 = e) : ∀ k, Pk L k e = nI 0
  | 0 => rfl
  | k + 1 => by
    have key : ∀ (M : List cst3) (s : Nat × (Nat → Int32)), (∀ q, q ∈ M → ¬ q.1 = e) → (rfs M s).2 e = s.2 e := by
      intro M
      induction M with
      | nil => intro s _; rfl
      | cons q M ih =>
        intro s hM
        show (rfs M (rel2 q s)).2 e = s.2 e
        rw [ih _ (fun q2 h2 => hM q2 (List.mem_cons_of_mem _ h2))]
        unfold rel2
        split
        · exact up_ne (fun h9 => hM q (List.mem_cons_self ..) h9.symm)
        · rfl
    show (rfs L (0, Pk L k)).2 e = nI 0
    rw [key L _ h]
    exact Pk_out h k
theorem fln_hi {p : Nat → Bool} {n : Nat} : ∀ (j : Nat), (∀ e, n ≤ e → e < n + j → p e = true) → j ≤ fln p (n + j)
  | 0, _ => Nat.zero_le _
  | j + 1, h => by
    have ih := fln_hi (p := p) (n := n) j (fun e h1 h2 => h e h1 (by omega))
    rw [show n + (j + 1) = n + j + 1 by omega, fq_t (h (n + j) (by omega) (by omega))]
    omega
theorem conv {L : List cst3} {n m : Nat} (hw : wbd L) (hl : L.length ≤ 112) (hn : n ≤ 8) (hL : ∀ q, q ∈ L → q.1 < n ∧ q.2.1 < n) (hm : m ≤ 8) (h0 : Fk L m = 0) : ∃ k, k ≤ n ∧ Fk L k = 0 := by
  by_cases hmn : m ≤ n
  · exact ⟨m, hmn, h0⟩
  · obtain ⟨hz1, hz2⟩ := Fk_0 h0
    obtain ⟨Bz, hBz, hbz⟩ := Pk_Bd2 hw hl hm
    have hzi : fpi L (Pk L m) := fpx_i hw (by omega) hbz hz2
    have dec : ∀ k, k ≤ 8 → geq (Pk L (k + 1)) (Pk L k) := fun k hk => by
      obtain ⟨B, hB, hb⟩ := Pk_Bd2 hw hl hk
      exact rfs_le (f := 0) hw hB hb geq_rf
    have dec2 : ∀ j k, k + j ≤ 9 → geq (Pk L (k + j)) (Pk L k) := by
      intro j
      induction j with
      | zero => intro k _; exact geq_rf
      | succ j ih =>
        intro k hk e
        have h1 := ih k (by omega) e
        have h2 := dec (k + j) (by omega) e
        exact Int.le_trans h2 h1
    have hge : ∀ k, k ≤ m → geq (Pk L m) (Pk L k) := fun k hk => by
      have h := dec2 (m - k) k (by omega)
      rw [show k + (m - k) = m by omega] at h
      exact h
    have claim : ∀ k, k ≤ n → (∀ e, e < 8 → (Pk L k e).toInt = (Pk L m e).toInt) ∨ 8 - n + k ≤ fln (fun e => decide ((Pk L k e).toInt = (Pk L m e).toInt)) 8 := by
      intro k
      induction k with
      | zero =>
        intro _
        right
        have h := fln_hi (p := fun e => decide ((Pk L 0 e).toInt = (Pk L m e).toInt)) (n := n) (8 - n) (fun e h1 h2 => by
          have ho := Pk_out (L := L) (e := e) (fun q hq h9 => by have := (hL q hq).1; omega)
          show decide ((Pk L 0 e).toInt = (Pk L m e).toInt) = true
          rw [ho 0, ho m]
          exact decide_eq_true rfl)
        rw [show n + (8 - n) = 8 by omega] at h
        omega
      | succ k ih =>
        intro hk
        obtain ⟨B, hB, hb⟩ := Pk_Bd2 hw hl (show k ≤ 8 by omega)
        have hgk := hge k (by omega)
        have hgk1 := hge (k + 1) (by omega)
        have hd := dec k (by omega)
        rcases ih (by omega) with h | h
        · left
          intro e he
          have h1 := h e he
          have h2 := hgk1 e
          have h3 := hd e
          omega
        · by_cases hall : ∀ e, e < 8 → (Pk L k e).toInt = (Pk L m e).toInt
          · left
            intro e he
            have h1 := hall e he
            have h2 := hgk1 e
            have h3 := hd e
            omega
          · right
            have hnew : ∃ e, e < 8 ∧ ¬ (Pk L k e).toInt = (Pk L m e).toInt ∧ (Pk L (k + 1) e).toInt = (Pk L m e).toInt := by
              apply Decidable.byContradiction
              intro hno
              have hs : ∀ q, q ∈ L → (q.1 < 8 ∧ (Pk L m q.1).toInt < (Pk L k q.1).toInt) → ¬ (q.2.1 < 8 ∧ (Pk L m q.2.1).toInt < (Pk L k q.2.1).toInt) → (Pk L m q.1).toInt < (Pk L m q.2.1).toInt + q.2.2.toInt := fun q hq h1 h2 => by
                apply Decidable.byContradiction
                intro h3
                have hd8 : q.2.1 < 8 := by have := (hL q hq).2; omega
                have h4 : (Pk L k q.2.1).toInt = (Pk L m q.2.1).toInt := by
                  have h5 := hgk q.2.1
                  have h6 : ¬ (Pk L m q.2.1).toInt < (Pk L k q.2.1).toInt := fun h9 => h2 ⟨hd8, h9⟩
                  omega
                have h7 := rfs_tight (f := 0) hw hB hb hzi hgk hq (by omega) h4
                exact hno ⟨q.1, h1.1, by omega, h7⟩
              have stay : ∀ j, k + j ≤ m → ∀ e, (e < 8 ∧ (Pk L m e).toInt < (Pk L k e).toInt) → (Pk L m e).toInt < (Pk L (k + j) e).toInt := by
                intro j
                induction j with
                | zero => intro _ e he; exact he.2
                | succ j ihj =>
                  intro hj
                  obtain ⟨B2, hB2, hb2⟩ := Pk_Bd2 hw hl (show k + j ≤ 8 by omega)
                  exact rfs_stay (f := 0) (X := fun e => e < 8 ∧ (Pk L m e).toInt < (Pk L k e).toInt) hw hB2 hb2 hzi hs (hge (k + j) (by omega)) (ihj (by omega))
              have hfin := stay (m - k) (by omega)
              rw [show k + (m - k) = m by omega] at hfin
              apply hall
              intro e he
              have h1 := hgk e
              apply Decidable.byContradiction
              intro h2
              have := hfin e ⟨he, by omega⟩
              omega
            obtain ⟨e, he, h1, h2⟩ := hnew
            have h3 := filter_lt (p := fun e => decide ((Pk L k e).toInt = (Pk L m e).toInt)) (q := fun e => decide ((Pk L (k + 1) e).toInt = (Pk L m e).toInt)) (l := List.range 8) (x := e) (List.mem_range.2 he) (decide_eq_false h1) (decide_eq_true h2) (fun y _ hy => by
              have h4 := of_decide_eq_true hy
              have h5 := hgk1 y
              have h6 := hd y
              exact decide_eq_true (by omega))
            unfold fln at h ⊢
            omega
    have hall : ∀ e, e < 8 → (Pk L n e).toInt = (Pk L m e).toInt := by
      rcases claim n (Nat.le_refl _) with h | h
      · exact h
      · intro e he
        apply Decidable.byContradiction
        intro h1
        have h3 := filter_lt (p := fun e => decide ((Pk L n e).toInt = (Pk L m e).toInt)) (q := fun _ => true) (l := List.range 8) (x := e) (List.mem_range.2 he) (decide_eq_false h1) rfl (fun _ _ _ => rfl)
        rw [List.filter_eq_self.2 (fun _ _ => rfl), List.length_range] at h3
        unfold fln at h
        omega
    have heq : Pk L n = Pk L m := by
      funext e
      by_cases he : e < 8
      · exact Int32.toInt_inj.1 (hall e he)
      · have ho := Pk_out (L := L) (e := e) (fun q hq h9 => by have := (hL q hq).1; omega)
        rw [ho n, ho m]
    exact ⟨n, Nat.le_refl _, Fk_fp (by rw [heq]; exact hz2)⟩
/-- the first round that changes nothing is the same, by n + 1 rounds or by nine -/
theorem Fk_01 (L : List cst3) (k : Nat) : Fk L k ≤ 1 := rfs_01 L _ (Nat.zero_le _)
theorem Fk_first {L : List cst3} {j k : Nat} (h1 : Fk L j = 0) (h2 : Fk L k = 0) (h3 : ∀ i, i < j → ¬ Fk L i = 0) (h4 : ∀ i, i < k → ¬ Fk L i = 0) : j = k := by
  by_cases c : j < k
  · exact absurd h1 (h4 j c)
  · by_cases c2 : k < j
    · exact absurd h2 (h3 k c2)
    · omega
