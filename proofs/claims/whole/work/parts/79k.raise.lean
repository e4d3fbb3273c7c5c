/-! Makers: raise is dual, cut, dual. -/
theorem al_tb {n e : Nat} : (al n).testBit e = decide (e < n) := Nat.testBit_two_pow_sub_one ..
theorem cdt_lt {V : Nat → Int32} {n r j k : Nat} {z : Int32} {w : Bool} (hW : WF n r V) (h : cdt V w n k j z) (hk : k ≤ 256) : j < 2 ^ n := by
  obtain ⟨b, e, h1, h2, h3, h4, rfl, h6⟩ := h
  exact Nat.xor_lt_two_pow (hW.2.2.2.2.1 b (by omega) h2).1 (Nat.pow_lt_pow_right (by decide) h3)
theorem cdt_dua {V : Nat → Int32} {n r j : Nat} {z : Int32} (hW : WF n r V) : cdt V false n 256 j z ↔ cdt (dua n V) true 8 256 (al n ^^^ j) z := by
  have hn := hW.2.1
  have h8 := p2_le hn
  constructor
  · rintro ⟨b, e, h1, h2, h3, h4, h5, h6⟩
    have hb := (hW.2.2.2.2.1 b h1 h2).1
    have hx := al_x hb
    have hd : dua n V (al n ^^^ b) = V b := by
      unfold dua
      rw [if_pos hx, al_xx]
    refine ⟨al n ^^^ b, e, by omega, by rw [hd]; exact h2, by omega, ?_, ?_, by rw [hd]; exact h6⟩
    · rw [Nat.testBit_xor, al_tb, decide_eq_true h3, h4]
      rfl
    · rw [h5, Nat.xor_assoc]
  · rintro ⟨b, e, h1, h2, h3, h4, h5, h6⟩
    have hb : b < 2 ^ n := by
      apply Nat.lt_of_not_le
      intro h
      unfold dua at h2
      rw [if_neg (by omega)] at h2
      exact h2 (WF_hi hW b h h1)
    have hx := al_x hb
    have he : e < n := by
      apply Nat.lt_of_not_le
      intro h
      rw [tb_hi hb h] at h4
      cases h4
    have hd : dua n V b = V (al n ^^^ b) := if_pos hb
    rw [hd] at h2 h6
    refine ⟨al n ^^^ b, e, by omega, h2, he, ?_, ?_, h6⟩
    · rw [Nat.testBit_xor, al_tb, decide_eq_true he, h4]
      rfl
    · rw [Nat.xor_assoc, ← h5, al_xx]
theorem MX_none {P : Int32 → Prop} {x : Int32} (h : MX P x) (h2 : ∀ y, ¬ P y) : x = NO := by
  rcases h with ⟨h, -⟩ | ⟨h, -⟩
  · exact h
  · exact absurd h (h2 x)
theorem rai_eq {V D D1 : Nat → Int32} {n r : Nat} (hW : WF n r V) (hD : ∀ j, j < 256 → MX (cdt V false n 256 j) (D j)) (hD1 : ∀ j, j < 256 → MX (cdt (dua n V) true 8 256 j) (D1 j)) : ∀ j, j < 256 → D j = dua n D1 j := by
  intro j hj
  have h8 := p2_le hW.2.1
  unfold dua
  by_cases c : j < 2 ^ n
  · have hx := al_x c
    rw [if_pos c]
    exact MX_eq (hD j hj) (hD1 _ (by omega)) (fun z => cdt_dua hW)
  · rw [if_neg c, MX_none (hD j hj) (fun y hy => c (cdt_lt hW hy (Nat.le_refl _)))]
    refine (MX_none (hD1 j hj) (fun y hy => c ?_)).symm
    have h2 : cdt (dua n V) true 8 256 (al n ^^^ (al n ^^^ j)) y := by
      rw [al_xx]
      exact hy
    have h3 := cdt_lt hW ((cdt_dua hW).2 h2) (Nat.le_refl _)
    have h4 := al_x h3
    rw [al_xx] at h4
    exact h4
theorem s_raise {I J : ai_I} {t L n r : Nat} {V D : Nat → Int32} (hW : WF n r V) (hD : ∀ j, j < 256 → MX (cdt V false n 256 j) (D j)) (h : MR I J (nI n) (nI r) V) : wp (o_b1 (m_230 75 J (Rc t) (Gc L)) (fun I_208 => o_b1 (m_235 75 I_208 (Rc t) (Gc L)) (fun I_212 => m_230 75 I_212 (Rc t) (Gc L)))) (fun K => MR I K (nI n) (nI (r + 1)) D) := by
  have hn := hW.2.1
  have hr := hW.2.2.2.1
  refine wp_b1 (wp_mono (s_230 hn (by omega) h) ?_)
  intro M hM
  refine wp_b1 (wp_mono (s_235 hM) ?_)
  rintro M2 ⟨D1, m1, m2⟩
  rw [i_sub (by omega)] at m1
  refine wp_mono (s_230 hn (by omega) m1) ?_
  intro K hK
  rw [show n - (n - r - 1) = r + 1 by omega] at hK
  exact MR_cong hK (fun j hj => (rai_eq hW hD m2 j hj).symm)
