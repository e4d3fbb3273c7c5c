/-! Call feed, whole. -/
theorem op_feed {I : ai_I} {t L : Nat} (h : ST I) (x1 x2 x3 x4 x5 : Int32) : OPw I (m_137 1 x1 x2 x3 x4 x5 I (Rc t) (Gc L)) (fun I1 => m_207 75 x1 x2 x3 x4 x5 I1 (Rc t) (Gc L)) := by
  have hh := h
  obtain ⟨s1, s2, s3, s4, s5, n, hn, h1, h2, h3⟩ := h
  by_cases hc : n + 20 ≤ 240
  · obtain ⟨B, hB⟩ : ∃ B : Nat → Nat, ∀ k, k < n → B k < 256 ∧ I 42 k = nI (B k) ∧ I 77 k = (nI (B k)).toInt8.toInt32 := ⟨fun k => (I 42 k).toNatClampNeg, fun k hk => by
      obtain ⟨b, b1, b2, b3⟩ := h3 k hk
      have e : (I 42 k).toNatClampNeg = b := by rw [b2, i_cl (by omega)]
      show (I 42 k).toNatClampNeg < 256 ∧ I 42 k = nI (I 42 k).toNatClampNeg ∧ I 77 k = (nI (I 42 k).toNatClampNeg).toInt8.toInt32
      rw [e]
      exact ⟨b1, b2, b3⟩⟩
    obtain ⟨J1, a1, a2, a3, a4, a5⟩ := c_138 (t := t) (L := L) x1 (by omega) h1 (fun k hk => (hB k hk).2.1)
    obtain ⟨J2, b1, b2, b3, b4, b5⟩ := c_138 (t := t) (L := L) x2 (by omega) a2 a3
    obtain ⟨J3, c1, c2, c3, c4, c5⟩ := c_138 (t := t) (L := L) x3 (by omega) b2 b3
    obtain ⟨J4, d1, d2, d3, d4, d5⟩ := c_138 (t := t) (L := L) x4 (by omega) c2 c3
    obtain ⟨J5, e1, e2, e3, e4, e5⟩ := c_138 (t := t) (L := L) x5 (by omega) d2 d3
    have f : ∀ c, ¬ c = 1 → ¬ c = 42 → J5 c = I c := fun c q1 q2 => (e4 c q1 q2).trans ((d4 c q1 q2).trans ((c4 c q1 q2).trans ((b4 c q1 q2).trans (a4 c q1 q2))))
    have f1 : ∀ j, ¬ j = 4 → J5 1 j = I 1 j := fun j q => (e5 j q).trans ((d5 j q).trans ((c5 j q).trans ((b5 j q).trans (a5 j q))))
    obtain ⟨K1, k1, k2, k3, k4, k5⟩ := s_206 (t := t) (L := L) (I := J5) (n := n) (B := B) x1 (by omega) (by rw [f 75 (by decide) (by decide)]; exact h2) (fun k hk => by rw [f 77 (by decide) (by decide)]; exact (hB k hk).2.2)
    obtain ⟨K2, l1, l2, l3, l4, l5⟩ := s_206 (t := t) (L := L) x2 (by omega) k2 k3
    obtain ⟨K3, m1, m2, m3, m4, m5⟩ := s_206 (t := t) (L := L) x3 (by omega) l2 l3
    obtain ⟨K4, n1, n2, n3, n4, n5⟩ := s_206 (t := t) (L := L) x4 (by omega) m2 m3
    obtain ⟨K5, o1, o2, o3, o4, o5⟩ := s_206 (t := t) (L := L) x5 (by omega) n2 n3
    have g : ∀ c, ¬ c = 75 → ¬ c = 77 → K5 c = J5 c := fun c q1 q2 => (o4 c q1 q2).trans ((n4 c q1 q2).trans ((m4 c q1 q2).trans ((l4 c q1 q2).trans (k4 c q1 q2))))
    have g1 : ∀ j, ¬ j = 3 → K5 75 j = J5 75 j := fun j q => (o5 j q).trans ((n5 j q).trans ((m5 j q).trans ((l5 j q).trans (k5 j q))))
    refine ⟨nI (n + 4 + 4 + 4 + 4 + 4), J5, K5, ?_, ?_, ?_, ?_, f 1999 (by decide) (by decide)⟩
    · unfold m_137
      rw [h1, i_add, q_leT (by omega) hc, a1, o_b1_s, b1, o_b1_s, c1, o_b1_s, d1, o_b1_s, e1, o_b1_s, e2]
    · show m_207 75 x1 x2 x3 x4 x5 J5 (Rc t) (Gc L) = _
      unfold m_207
      rw [f 75 (by decide) (by decide), h2, i_add, q_leT (by omega) hc, k1, o_b1_s, l1, o_b1_s, m1, o_b1_s, n1, o_b1_s, o1, o_b1_s, o2]
    · have u : ∀ c, ¬ c = 1 → ¬ c = 42 → ¬ c = 75 → ¬ c = 77 → K5 c = I c := fun c q1 q2 q3 q4 => (g c q3 q4).trans (f c q1 q2)
      have u76 : K5 76 = I 76 := u 76 (by decide) (by decide) (by decide) (by decide)
      refine ⟨ST1_of (fun c q1 q2 => u c (by omega) (by omega) (by omega) (by omega)) (fun j _ => by rw [u76]) s1, ST2_of ?_ ?_ (fun c q1 q2 => u c (by omega) (by omega) (by omega) (by omega)) (fun j _ _ => by rw [u76]) s2, PR_of (u _ (by decide) (by decide) (by decide) (by decide)) (fun j _ _ => by rw [u76]) s3, XR_of (by rw [u 2 (by decide) (by decide) (by decide) (by decide)]) (by rw [u76]) s4, PA_of (by rw [u 2 (by decide) (by decide) (by decide) (by decide)]) (u _ (by decide) (by decide) (by decide) (by decide)) (fun j _ _ => by rw [u76]) s5, n + 4 + 4 + 4 + 4 + 4, by omega, ?_, o2, fun k hk => ⟨_, Bx_lt (Bx_lt (Bx_lt (Bx_lt (Bx_lt (fun q hq => (hB q hq).1))))) k hk, ?_, o3 k hk⟩⟩
      · rw [g 1 (by decide) (by decide)]
        exact f1 2 (by decide)
      · rw [g1 1 (by decide), f 75 (by decide) (by decide)]
      · rw [g 1 (by decide) (by decide)]
        exact e2
      · rw [g 42 (by decide) (by decide)]
        exact e3 k hk
    · rw [g 1999 (by decide) (by decide)]
  · refine ⟨-1, I, I, ?_, ?_, hh, rfl, rfl⟩
    · unfold m_137
      rw [h1, i_add, q_leF (by omega) (by omega)]
    · show m_207 75 x1 x2 x3 x4 x5 I (Rc t) (Gc L) = _
      unfold m_207
      rw [h2, i_add, q_leF (by omega) (by omega)]
