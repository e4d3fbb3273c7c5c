/-! A clause is made, by the reference. -/
theorem W_ne : ∀ a, a < 14 → ∀ b, b < 14 → ¬ a = b → ¬ ai_cmp (WC a) (WC b) = 0 := by decide +kernel
theorem W_eq : ∀ a, a < 14 → ai_cmp (WC a) (WC a) = 0 := by decide +kernel
/-- clause k as the reference holds it: numbers from a to b -/
def RCd (I : ai_I) (a b : Nat) (c : Nat → Int32) : Prop := a ≤ b ∧ b ≤ 100 ∧ ∀ i, i < b - a → I 80 (a + i) = c i
/-- what the shelves of the reference's file are -/
def SVf (I : ai_I) (A : SV) : SV := (A.1, A.2.1, FV I, RP I)
def RAs (I : ai_I) (A : SV) : Prop := (∀ s, s < 4 → I 76 (258 * s) = nI (A.1 s) ∧ I 76 (258 * s + 1) = nI (A.2.1 s) ∧ ∀ k, k < 256 → FV I s k = A.2.2.1 s k) ∧ ∀ e, e < 8 → RP I e = A.2.2.2 e
def RMk (I : ai_I) (A : SV) (kd : Nat) (c : Nat → Int32) (cnt : Nat) (q : Int32 × ai_I) : Prop := (q.1 = nI 0 ∧ ((∀ x, ¬ x = 75 → ¬ x = 81 → ¬ x = 82 → q.2 x = I x) ∧ ∀ j, ¬ j = 18 → ¬ j = 19 → q.2 75 j = I 75 j) ∧ ∀ n r D, ¬ DRk (SVf I A) kd c cnt n r D) ∨ (q.1 = nI 1 ∧ ∃ n r D, MR I q.2 n r D ∧ ((∃ a b, n = nI a ∧ r = nI b ∧ DRk (SVf I A) kd c cnt a b D) ∨ (¬ opn n r ∧ ∀ n r D, ¬ DRk (SVf I A) kd c cnt n r D)))
theorem MR_f {I J : ai_I} {n r : Int32} {V : Nat → Int32} (h : MR I J n r V) : (∀ x, ¬ x = 75 → ¬ x = 81 → ¬ x = 82 → J x = I x) ∧ ∀ j, ¬ j = 18 → ¬ j = 19 → J 75 j = I 75 j := ⟨h.1, h.2.1⟩
section
variable {I : ai_I} {t L kd at' en x5 : Nat} {y5 : Int32} {J : ai_I}
theorem sk_32 (hk : kd < 14) (h : ¬ kd = 2) (a1 a2 : Int32) : m_240_j32 75 (WC kd) a1 a2 (Rc t) (Gc L) y5 J = m_240_j57 75 (WC kd) a1 a2 (Rc t) (Gc L) y5 J := if_neg (W_ne kd hk 2 (by decide) h)
theorem sk_57 (hk : kd < 14) (h : ¬ kd = 3) (a1 a2 : Int32) : m_240_j57 75 (WC kd) a1 a2 (Rc t) (Gc L) y5 J = m_240_j82 75 (WC kd) a1 a2 (Rc t) (Gc L) y5 J := if_neg (W_ne kd hk 3 (by decide) h)
theorem sk_82 (hk : kd < 14) (h : ¬ kd = 4) (a1 a2 : Int32) : m_240_j82 75 (WC kd) a1 a2 (Rc t) (Gc L) y5 J = m_240_j109 75 (WC kd) a1 (Rc t) (Gc L) y5 J := if_neg (W_ne kd hk 4 (by decide) h)
theorem sk_109 (hk : kd ≤ 4) (h : 1 ≤ kd) (a1 : Int32) : m_240_j109 75 (WC kd) a1 (Rc t) (Gc L) y5 J = some (nI 1, J) := by
  unfold m_240_j109
  by_cases c1 : kd = 1
  · exact if_pos (by rw [c1]; exact W_eq 1 (by decide))
  · refine (if_neg (W_ne kd (by omega) 1 (by decide) c1)).trans ?_
    by_cases c2 : kd = 2
    · exact if_pos (by rw [c2]; exact W_eq 2 (by decide))
    · refine (if_neg (W_ne kd (by omega) 2 (by decide) c2)).trans ?_
      by_cases c3 : kd = 3
      · exact if_pos (by rw [c3]; exact W_eq 3 (by decide))
      · refine (if_neg (W_ne kd (by omega) 3 (by decide) c3)).trans ?_
        have c4 : kd = 4 := by omega
        exact if_pos (by rw [c4]; exact W_eq 4 (by decide))
theorem sk_109' (hk : kd < 14) (h : 4 < kd) (h5 : ¬ kd = 5) (a1 : Int32) : m_240_j109 75 (WC kd) a1 (Rc t) (Gc L) y5 J = o_b1 (m_221 75 y5 J (Rc t) (Gc L)) (fun K => m_240_j161 75 (WC kd) a1 (Rc t) (Gc L) y5 K) := by
  unfold m_240_j109
  refine (if_neg (W_ne kd hk 1 (by decide) (by omega))).trans ((if_neg (W_ne kd hk 2 (by decide) (by omega))).trans ((if_neg (W_ne kd hk 3 (by decide) (by omega))).trans ((if_neg (W_ne kd hk 4 (by decide) (by omega))).trans ?_)))
  exact congrArg (o_b1 (m_221 75 y5 J (Rc t) (Gc L))) (funext (fun K => if_neg (W_ne kd hk 5 (by decide) h5)))
theorem sk_161 (hk : kd < 14) (h : ¬ kd = 8) (a1 : Int32) : m_240_j161 75 (WC kd) a1 (Rc t) (Gc L) y5 J = m_240_j173 75 (WC kd) a1 (Rc t) (Gc L) y5 J := if_neg (W_ne kd hk 8 (by decide) h)
theorem sk_173 (hk : kd < 14) (h : ¬ kd = 10) (a1 : Int32) : m_240_j173 75 (WC kd) a1 (Rc t) (Gc L) y5 J = m_240_j185 75 (WC kd) a1 (Rc t) (Gc L) y5 J := if_neg (W_ne kd hk 10 (by decide) h)
theorem sk_185 (hk : kd < 14) (h : ¬ kd = 11) (a1 : Int32) : m_240_j185 75 (WC kd) a1 (Rc t) (Gc L) y5 J = m_240_j199 75 (WC kd) a1 (Rc t) (Gc L) y5 J := if_neg (W_ne kd hk 11 (by decide) h)
theorem sk_199 (hk : kd < 14) (h : ¬ kd = 12) (a1 : Int32) : m_240_j199 75 (WC kd) a1 (Rc t) (Gc L) y5 J = m_240_j219 75 (WC kd) a1 (Rc t) (Gc L) y5 J := if_neg (W_ne kd hk 12 (by decide) h)
theorem sk_219 (hk : kd < 14) (h : ¬ kd = 6) (h2 : ¬ kd = 7) (a1 : Int32) : m_240_j219 75 (WC kd) a1 (Rc t) (Gc L) y5 J = m_240_j277 75 (WC kd) a1 (Rc t) (Gc L) y5 J := (if_neg (W_ne kd hk 6 (by decide) h)).trans (if_neg (W_ne kd hk 7 (by decide) h2))
theorem sk_277 (hk : kd < 14) (h : ¬ kd = 9) (a1 : Int32) : m_240_j277 75 (WC kd) a1 (Rc t) (Gc L) y5 J = m_240_j299 75 (WC kd) a1 (Rc t) (Gc L) y5 J := if_neg (W_ne kd hk 9 (by decide) h)
theorem sk_299 (hk : kd < 14) (h : ¬ kd = 13) (a1 : Int32) : m_240_j299 75 (WC kd) a1 (Rc t) (Gc L) y5 J = some (nI 1, J) := if_neg (W_ne kd hk 13 (by decide) h)
theorem sk_0 (hk : kd < 14) (h : ¬ kd = 1) (a1 a2 : Int32) {v : Int32} (hg : o_in (Gc L) 13 (Rc t 75 15) (a1 + nI 1) = true) (hv : J (Rc t 75 15) (a1 + nI 1).toNatClampNeg = v) : m_240 75 (WC kd) a1 a2 J (Rc t) (Gc L) = m_240_j32 75 (WC kd) a1 a2 (Rc t) (Gc L) v J := by
  unfold m_240
  rw [hg, o_g_t, o_b1_s, hv]
  exact if_neg (W_ne kd hk 1 (by decide) h)
end
