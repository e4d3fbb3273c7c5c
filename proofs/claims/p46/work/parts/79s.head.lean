/-! Out of whole's part 79s.head, by wip/p46/extract.py. -/
noncomputable def cif {α : Type} (p : Prop) (x y : α) : α := @ite α p (Classical.propDecidable p) x y
theorem cif_t {α : Type} {p : Prop} {x y : α} (h : p) : cif p x y = x := @if_pos p (Classical.propDecidable p) h α x y
theorem cif_f {α : Type} {p : Prop} {x y : α} (h : ¬ p) : cif p x y = y := @if_neg p (Classical.propDecidable p) h α x y
def rr (T : Nat → Nat) (n : Nat) (s : RS) : RS := rn T n (nI 1) (lst (rn T n (nI 2) (nI 8) (rn T n (nI 0) (nI 3) s)) - nI 1) (rn T n (nI 2) (nI 8) (rn T n (nI 0) (nI 3) s))
def gg (T : Nat → Nat) (n : Nat) (s : RS) : RS := rn T n (nI 2) (nI 6) (rn T n (nI 2) (nI 8) (rn T n (nI 0) (nI 3) s))
def dd (T : Nat → Nat) (n : Nat) (s : RS) : RS := rn T n (nI 0) (nI 3) (rn T n (nI 0) (nI 3) s)
def hdp (T : Nat → Nat) (n kind : Nat) (s : RS) : RS :=
  if kind = 0 then rn T n (-1000) (nI 1000) (rn T n (nI 0) (nI 7) s) else if 4 < kind then (if kind = 6 ∨ kind = 7 then rn T n (nI 0) (nI 7) (dd T n s) else if kind = 9 ∨ kind = 13 then rn T n (nI 0) (nI 3) (dd T n s) else dd T n s) else if kind = 3 then gg T n s else rr T n s
theorem rn_e {T : Nat → Nat} {n : Nat} {lo hi e : Int32} : rn T n lo hi (.inl e) = .inl e := rfl
theorem c_16' {I0 I : ai_I} {n f0 : Nat} {L : ai_G} {T : Nat → Nat} {lo hi : Int32} {s : RS} {Q : Int32 × ai_I → Prop} (hT : TX I0 T n) (h : CL I0 n f0 I s) (hQ : ∀ v K, CL I0 n f0 K (rn T n lo hi s) → (∀ x, rn T n lo hi s = .inr x → v = lst (rn T n lo hi s)) → Q (v, K)) : wp (m_16 43 lo hi I (Rc 42) (Gc L)) Q := wp_mono (c_16 hT h) (fun a ha => hQ a.1 a.2 ha.1 ha.2)
theorem c_11 {I0 I : ai_I} {n f0 kind : Nat} {L : ai_G} {T : Nat → Nat} {s : RS} (hk : kind < 14) (hT : TX I0 T n) (h : CL I0 n f0 I s) : wp (m_11 43 (nI kind) I (Rc 42) (Gc L)) (fun K => CL I0 n f0 K (hdp T n kind s)) := by
  unfold m_11 hdp
  by_cases c0 : kind = 0
  · subst c0
    rw [if_pos (show nI 0 = 0 from rfl), if_pos rfl]
    refine wp_b2 (c_16' (T := T) hT h ?_)
    intro v1 K1 hK1 _
    refine wp_b2 (c_16' (T := T) hT hK1 ?_)
    intro v2 K2 hK2 _
    rw [wp_s]
    exact hK2
  · rw [if_neg (show ¬ nI kind = 0 by rw [i_e0 (by omega)]; exact c0), if_neg c0]
    refine wp_b2 (c_16' (T := T) hT h ?_)
    intro v1 K1 hK1 _
    dsimp only
    by_cases c4 : 4 < kind
    · rw [if_pos (nI_lt c4 (by omega)), if_pos c4]
      refine wp_b2 (c_16' (T := T) hT hK1 ?_)
      intro v2 K2 hK2 _
      have h7 : wp (m_11_j92 43 (Rc 42) (Gc L) K2) (fun K => CL I0 n f0 K (rn T n (nI 0) (nI 7) (dd T n s))) := by
        unfold m_11_j92
        refine wp_b2 (c_16' (T := T) hT hK2 ?_)
        intro v3 K3 hK3 _
        rw [wp_s]
        exact hK3
      have h3 : wp (m_11_j115 43 (Rc 42) (Gc L) K2) (fun K => CL I0 n f0 K (rn T n (nI 0) (nI 3) (dd T n s))) := by
        unfold m_11_j115
        refine wp_b2 (c_16' (T := T) hT hK2 ?_)
        intro v3 K3 hK3 _
        rw [wp_s]
        exact hK3
      dsimp only
      by_cases c6 : kind = 6
      · rw [if_pos (show nI kind = nI 6 by rw [c6]), if_pos (Or.inl c6)]
        exact h7
      · rw [if_neg (show ¬ nI kind = nI 6 by rw [i_eq (by omega) (by omega)]; exact c6)]
        by_cases c7 : kind = 7
        · rw [if_pos (show nI kind = nI 7 by rw [c7]), if_pos (Or.inr c7)]
          exact h7
        · rw [if_neg (show ¬ nI kind = nI 7 by rw [i_eq (by omega) (by omega)]; exact c7), if_neg (show ¬ (kind = 6 ∨ kind = 7) by omega)]
          by_cases c9 : kind = 9
          · rw [if_pos (show nI kind = nI 9 by rw [c9]), if_pos (Or.inl c9)]
            exact h3
          · rw [if_neg (show ¬ nI kind = nI 9 by rw [i_eq (by omega) (by omega)]; exact c9)]
            by_cases c13 : kind = 13
            · rw [if_pos (show nI kind = nI 13 by rw [c13]), if_pos (Or.inr c13)]
              exact h3
            · rw [if_neg (show ¬ nI kind = nI 13 by rw [i_eq (by omega) (by omega)]; exact c13), if_neg (show ¬ (kind = 9 ∨ kind = 13) by omega), wp_s]
              exact hK2
    · rw [if_neg (nI_nlt (by omega) (by omega)), if_neg c4]
      refine wp_b2 (c_16' (T := T) hT hK1 ?_)
      intro v2 K2 hK2 hv2
      dsimp only
      by_cases c3 : kind = 3
      · rw [if_pos (show nI kind = nI 3 by rw [c3]), if_pos c3]
        unfold m_11_j55
        rw [if_pos (show nI kind = nI 3 by rw [c3])]
        unfold m_11_j68
        refine wp_b2 (c_16' (T := T) hT hK2 ?_)
        intro v3 K3 hK3 _
        rw [wp_s]
        exact hK3
      · rw [if_neg (show ¬ nI kind = nI 3 by rw [i_eq (by omega) (by omega)]; exact c3), if_neg c3]
        unfold m_11_j55
        rw [if_neg (show ¬ nI kind = nI 3 by rw [i_eq (by omega) (by omega)]; exact c3)]
        unfold m_11_j68
        refine wp_b2 (c_16' (T := T) hT hK2 ?_)
        intro v3 K3 hK3 _
        rw [wp_s]
        have e : rn T n (nI 1) (v2 - nI 1) (rn T n (nI 2) (nI 8) (rn T n (nI 0) (nI 3) s)) = rr T n s := by
          unfold rr
          cases hs : rn T n (nI 2) (nI 8) (rn T n (nI 0) (nI 3) s) with
          | inl e => rfl
          | inr x => rw [hv2 x hs, hs]
        rw [← e]
        exact hK3
/-- weights -/
def wt (T : Nat → Nat) (n : Nat) (s : RS) : Nat → RS
  | 0 => s
  | i + 1 => rn T n (-999) (nI 999) (wt T n s i)
theorem wt_e {T : Nat → Nat} {n : Nat} {s : RS} {e : Int32} {i : Nat} (h : wt T n s i = .inl e) : ∀ m, wt T n s (i + m) = .inl e
  | 0 => h
  | m + 1 => by
    show rn T n (-999) (nI 999) (wt T n s (i + m)) = _
    rw [wt_e h m]
    rfl
theorem CL_0 {I0 I : ai_I} {n f0 : Nat} {s : RS} (h : CL I0 n f0 I s) : (I 43 1 = 0 ∧ ∃ x, s = .inr x) ∨ (¬ I 43 1 = 0 ∧ ∃ e, s = .inl e) := by
  cases s with
  | inl e =>
    obtain ⟨he, p, f, N, p1, p2, p3, hC⟩ := h
    exact Or.inr ⟨by rw [hC.2.2.2.2.1]; exact he, e, rfl⟩
  | inr x =>
    obtain ⟨p1, p2, p3, hC⟩ := h
    exact Or.inl ⟨hC.2.2.2.2.1, x, rfl⟩
theorem c_12 {I0 I : ai_I} {n f0 m : Nat} {L : ai_G} {T : Nat → Nat} {s : RS} (hm : m < 1000) (hT : TX I0 T n) (h : CL I0 n f0 I s) : wp (m_12 43 (nI m) I (Rc 42) (Gc L)) (fun K => CL I0 n f0 K (wt T n s m)) := by
  unfold m_12
  refine wp_s1 (wp_lp (fun i s2 => s2.1 = nI i ∧ CL I0 n f0 s2.2 (wt T n s i)) 0 m (Nat.zero_le _) (by omega) ⟨rfl, h⟩ ?_ ?_)
  · rintro i ⟨a, K⟩ hi ⟨g1, g2⟩
    dsimp only at g1 g2
    subst g1
    unfold m_12_b2
    dsimp only
    rw [if_neg (nI_ge hi (by omega))]
    rcases CL_0 g2 with ⟨z, -⟩ | ⟨z, e, he⟩
    · rw [if_pos z]
      refine wp_b2 (c_16' (T := T) hT g2 ?_)
      intro v K2 hK2 _
      rw [i_add, o_b1_s, wp_s, lq_l]
      exact ⟨rfl, hK2⟩
    · rw [if_neg z, wp_s, lq_r]
      refine ⟨K, rfl, ?_⟩
      rw [show m = i + (m - i) by omega, wt_e he, ← he]
      exact g2
  · rintro ⟨a, K⟩ ⟨g1, g2⟩
    dsimp only at g1 g2
    subst g1
    unfold m_12_b2
    dsimp only
    rw [if_pos (Int32.le_refl _), wp_s, lq_r]
    exact ⟨K, rfl, g2⟩
theorem c_12e {I0 I : ai_I} {n f0 : Nat} {L : ai_G} {a e : Int32} (h : CL I0 n f0 I (.inl e)) : wp (m_12 43 a I (Rc 42) (Gc L)) (fun K => CL I0 n f0 K (.inl e)) := by
  have z : ¬ I 43 1 = 0 := by
    rcases CL_0 h with ⟨-, x, hx⟩ | ⟨z, -⟩
    · cases hx
    · exact z
  unfold m_12
  refine wp_s1 (wp_lp (fun i s2 => i = 0 ∧ s2.2 = I) 0 1 (Nat.zero_le _) (by omega) ⟨rfl, rfl⟩ ?_ ?_)
  · rintro i ⟨b, K⟩ hi ⟨g1, g2⟩
    dsimp only at g2
    subst g2
    unfold m_12_b2
    dsimp only
    rw [if_neg z]
    split
    · rw [wp_s, lq_r]
      exact ⟨_, rfl, h⟩
    · rw [wp_s, lq_r]
      exact ⟨_, rfl, h⟩
  · rintro ⟨b, K⟩ ⟨g1, g2⟩
    exact absurd g1 (by decide)
