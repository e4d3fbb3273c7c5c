/-! Out of whole's part 79c.cut, by wip/p46/extract.py. -/
/-- x is the greatest of P, or there is none -/
def MX (P : Int32 → Prop) (x : Int32) : Prop := (x = NO ∧ ∀ y, ¬ P y) ∨ (P x ∧ ∀ y, P y → y ≤ x)
theorem MX_add {P : Int32 → Prop} {x y : Int32} (h : MX P x) : MX (fun z => P z ∨ z = y) (mx x y) := by
  rcases h with ⟨rfl, h⟩ | ⟨h1, h2⟩
  · rw [mx_no]
    exact Or.inr ⟨Or.inr rfl, fun z hz => hz.elim (fun hz => absurd hz (h z)) (fun hz => by rw [hz]; exact Int32.le_refl _)⟩
  · refine Or.inr ⟨?_, fun z hz => ?_⟩
    · unfold mx
      by_cases c : x ≤ y
      · rw [if_pos c]
        exact Or.inr rfl
      · rw [if_neg c]
        exact Or.inl h1
    · rcases hz with hz | rfl
      · exact Int32.le_trans (h2 z hz) (mx_l x y)
      · exact mx_r _ _
theorem MX_cong {P Q : Int32 → Prop} {x : Int32} (h : MX P x) (e : ∀ z, P z ↔ Q z) : MX Q x := by
  rcases h with ⟨h1, h2⟩ | ⟨h1, h2⟩
  · exact Or.inl ⟨h1, fun y hy => h2 y ((e y).2 hy)⟩
  · exact Or.inr ⟨(e x).1 h1, fun y hy => h2 y ((e y).2 hy)⟩
theorem MX_eq {P Q : Int32 → Prop} {x y : Int32} (h : MX P x) (h2 : MX Q y) (e : ∀ z, P z ↔ Q z) : x = y := by
  rcases h with ⟨h3, h4⟩ | ⟨h3, h4⟩
  · rcases h2 with ⟨h5, -⟩ | ⟨h5, -⟩
    · rw [h3, h5]
    · exact absurd ((e y).2 h5) (h4 y)
  · rcases h2 with ⟨-, h5⟩ | ⟨h5, h6⟩
    · exact absurd ((e x).1 h3) (h5 x)
    · exact Int32.le_antisymm (h6 x ((e x).1 h3)) (h4 y ((e y).2 h5))
/-- what is offered for j: sets below k, elements below m -/
def cdt (V : Nat → Int32) (w : Bool) (m k j : Nat) (z : Int32) : Prop := ∃ b e, b < k ∧ V b ≠ NO ∧ e < m ∧ b.testBit e = w ∧ j = b ^^^ 2 ^ e ∧ z = V b
theorem cdt_no {V : Nat → Int32} {w : Bool} {m k j : Nat} {z : Int32} (h : V k = NO) : cdt V w m k j z ↔ cdt V w m (k + 1) j z := by
  constructor
  · rintro ⟨b, e, h1, h2, h3⟩
    exact ⟨b, e, by omega, h2, h3⟩
  · rintro ⟨b, e, h1, h2, h3⟩
    refine ⟨b, e, ?_, h2, h3⟩
    by_cases c : b = k
    · exact absurd h (c ▸ h2)
    · omega
def cdi (V : Nat → Int32) (w : Bool) (m k i j : Nat) (z : Int32) : Prop := cdt V w m k j z ∨ ∃ e, e < i ∧ k.testBit e = w ∧ j = k ^^^ 2 ^ e ∧ z = V k
theorem cdi_0 {V : Nat → Int32} {w : Bool} {m k j : Nat} {z : Int32} : cdt V w m k j z ↔ cdi V w m k 0 j z := ⟨Or.inl, fun h => h.resolve_right (fun ⟨e, he, _⟩ => absurd he (Nat.not_lt_zero _))⟩
theorem cdi_m {V : Nat → Int32} {w : Bool} {m k j : Nat} {z : Int32} (hV : V k ≠ NO) : cdi V w m k m j z ↔ cdt V w m (k + 1) j z := by
  constructor
  · rintro (⟨b, e, h1, h2⟩ | ⟨e, h1, h2, h3, h4⟩)
    · exact ⟨b, e, by omega, h2⟩
    · exact ⟨k, e, by omega, hV, h1, h2, h3, h4⟩
  · rintro ⟨b, e, h1, h2, h3, h4, h5, h6⟩
    by_cases c : b = k
    · subst c
      exact Or.inr ⟨e, h3, h4, h5, h6⟩
    · exact Or.inl ⟨b, e, by omega, h2, h3, h4, h5, h6⟩
theorem cdi_f {V : Nat → Int32} {w : Bool} {m k i j : Nat} {z : Int32} (h : ¬ k.testBit i = w) : cdi V w m k i j z ↔ cdi V w m k (i + 1) j z := by
  constructor
  · rintro (h1 | ⟨e, h1, h2⟩)
    · exact Or.inl h1
    · exact Or.inr ⟨e, by omega, h2⟩
  · rintro (h1 | ⟨e, h1, h2, h3⟩)
    · exact Or.inl h1
    · by_cases c : e = i
      · exact absurd h2 (c ▸ h)
      · exact Or.inr ⟨e, by omega, h2, h3⟩
theorem cdi_t {V D : Nat → Int32} {w : Bool} {m k i j : Nat} (h : k.testBit i = w) (hD : ∀ j, j < 256 → MX (cdi V w m k i j) (D j)) (hj : j < 256) : MX (cdi V w m k (i + 1) j) (va_up D (k ^^^ 2 ^ i) (mx (D (k ^^^ 2 ^ i)) (V k)) j) := by
  by_cases c : j = k ^^^ 2 ^ i
  · subst c
    rw [up_eq]
    refine MX_cong (MX_add (hD _ hj)) (fun z => ?_)
    constructor
    · rintro ((h1 | ⟨e, h1, h2⟩) | h1)
      · exact Or.inl h1
      · exact Or.inr ⟨e, by omega, h2⟩
      · exact Or.inr ⟨i, by omega, h, rfl, h1⟩
    · rintro (h1 | ⟨e, h1, h2, h3, h4⟩)
      · exact Or.inl (Or.inl h1)
      · exact Or.inr h4
  · rw [up_ne c]
    refine MX_cong (hD j hj) (fun z => ?_)
    constructor
    · rintro (h1 | ⟨e, h1, h2⟩)
      · exact Or.inl h1
      · exact Or.inr ⟨e, by omega, h2⟩
    · rintro (h1 | ⟨e, h1, h2, h3, h4⟩)
      · exact Or.inl h1
      · by_cases c2 : e = i
        · exact absurd (c2 ▸ h3) c
        · exact Or.inr ⟨e, by omega, h2, h3, h4⟩
theorem bzw {p : Bool} {w : Bool} : (bz (p = true) = bz (w = true)) = (p = w) := by
  cases p <;> cases w <;> decide
theorem c_55 {I J0 : ai_I} {t v n r r2 : Nat} {L : ai_G} {V : Nat → Int32} {w : Bool} (hv : v ∈ VC) (hv4 : v < 40) (hW : WF n r V) (h : CS I v n r V) (h0 : MC I J0 n r2 (fun _ => NO)) : wp (m_44 49 v (bz (w = true)) J0 (Rc t) (Gc L)) (fun K => ∃ D, MC I K n r2 D ∧ ∀ j, j < 256 → MX (cdt V w n 256 j) (D j)) := by
  have b2 := hW.2.1
  have hl := BL_len hW
  have h8 := p2_le b2
  unfold m_44
  refine wp_s1 (wp_lpB V (fun p (J : ai_I) => (nI p, J)) (fun k J => ∃ D, MC I J n r2 D ∧ ∀ j, j < 256 → MX (cdt V w n k j) (D j)) (x0 := J0) hl ⟨_, h0, fun j _ => Or.inl ⟨rfl, fun y ⟨b, e, hb, _⟩ => absurd hb (Nat.not_lt_zero _)⟩⟩ ?_ ?_ ?_)
  · rintro k J hk hV ⟨D, d1, d2⟩
    exact ⟨D, d1, fun j hj => MX_cong (d2 j hj) (fun z => cdt_no hV)⟩
  · rintro p J hp ⟨D, d1, d2⟩
    have hb := BL_at hp
    unfold m_44_b2
    dsimp only
    generalize hbb : (BL V).getD p 0 = bb at hb d2 ⊢
    have hbn := (hW.2.2.2.2.1 bb hb.1 hb.2).1
    rw [v_kd hv, o_g_t, if_neg (show ¬ J v 2 ≤ nI p by rw [d1.1 v (by omega) (by omega), h.2.2.1]; exact nI_ge hp (by omega)), v_rb hv, v_gb hv (by omega), o_g_t, i_cl (by omega), d1.1 (v + 3) (by omega) (by omega), h.2.2.2.2.2 p hp, hbb, o_b1_s]
    refine wp_s1 (wp_lp (fun i s => s.1 = nI i ∧ ∃ D, MC I s.2 n r2 D ∧ ∀ j, j < 256 → MX (cdi V w n bb i j) (D j)) 0 n (Nat.zero_le _) (by omega) ⟨rfl, D, d1, fun j hj => MX_cong (d2 j hj) (fun z => cdi_0)⟩ ?_ ?_)
    · rintro i ⟨s, K⟩ hi ⟨g1, E, e1, e2⟩
      dsimp only at g1 e1
      subst g1
      have hx : bb ^^^ 2 ^ i < 256 := Nat.xor_lt_two_pow (n := 8) hb.1 (p2_lt (by omega))
      unfold m_44_b21
      dsimp only
      rw [if_neg (show ¬ K v 0 ≤ nI i by rw [e1.1 v (by omega) (by omega), h.1]; exact nI_ge hi (by omega)), c_183 hb.1 (by omega), o_b1_s]
      by_cases c : bb.testBit i = w
      · rw [if_pos (show bz (bb.testBit i = true) = bz (w = true) by rw [bzw]; exact c), v_rv hv, v_gv hv hb.1, o_g_t, r_49_0, k_50, o_g_t, i_shl (by decide) (by omega), Nat.one_mul, i_xor, i_cl (by omega), e1.1 (v + 1) (by omega) (by omega), h.2.2.2.1 _ hb.1]
        refine wp_b1 (wp_mono (c_113 (t := t) (L := L) (k := bb ^^^ 2 ^ i) (x := V bb) e1 hx) ?_)
        intro N hN
        rw [i_add, o_b1_s, wp_s, lq_l]
        exact ⟨rfl, _, hN, fun j hj => cdi_t c e2 hj⟩
      · rw [if_neg (show ¬ bz (bb.testBit i = true) = bz (w = true) by rw [bzw]; exact c), i_add, o_b1_s, wp_s, lq_l]
        exact ⟨rfl, E, e1, fun j hj => MX_cong (e2 j hj) (fun z => cdi_f c)⟩
    · rintro ⟨s, K⟩ ⟨g1, E, e1, e2⟩
      dsimp only at g1 e1
      subst g1
      unfold m_44_b21
      dsimp only
      rw [if_pos (show K v 0 ≤ nI n by rw [e1.1 v (by omega) (by omega), h.1]; exact Int32.le_refl _), wp_s, lq_r]
      unfold m_44_x21_68
      rw [i_add, o_b1_s, wp_s, lq_l]
      exact ⟨K, rfl, E, e1, fun j hj => MX_cong (e2 j hj) (fun z => cdi_m hb.2)⟩
  · rintro J ⟨D, d1, d2⟩
    unfold m_44_b2
    dsimp only
    rw [v_kd hv, o_g_t, if_pos (show J v 2 ≤ nI (BL V).length by rw [d1.1 v (by omega) (by omega), h.2.2.1]; exact Int32.le_refl _), wp_s, lq_r]
    exact ⟨J, rfl, D, d1, d2⟩
