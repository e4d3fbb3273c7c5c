/-! Out of whole's part 17.st, by wip/p46/extract.py. -/
def ST1 (I : ai_I) : Prop := ∀ s, s < 4 → ∃ n r, WF n r (FV I s) ∧ CS I (6 + 4 * s) n r (FV I s) ∧ I 76 (258 * s) = nI n ∧ I 76 (258 * s + 1) = nI r
/-- the values of a kept shelf of the reference's file -/
def FK (I : ai_I) (s : Nat) : Nat → Int32 := fun k => I 76 (1122 + 258 * s + 2 + k)
def PR (I : ai_I) (c o : Nat) : Prop := ∀ e, e < 8 → I c e = I 76 (o + e) ∧ -1000 ≤ I c e ∧ I c e ≤ 1000
def XR (I : ai_I) (c o : Nat) : Prop := ∃ x, x < 65536 ∧ I c 4 = nI x ∧ I 76 o = nI x
def PA (I : ai_I) (c c2 o : Nat) : Prop := ∃ m, m ≤ 20 ∧ I c 3 = nI m ∧ I 76 o = nI m ∧ ∀ k, k < m → ∀ j, j < 4 → I c2 (4 * k + j) = I 76 (o + 1 + 4 * (m - 1 - k) + j)
def ST2 (I : ai_I) : Prop := I 1 2 = I 75 1 ∧ (I 1 2 = nI 0 ∨ (I 1 2 = nI 1 ∧ (∀ s, s < 4 → ∃ n r, WF n r (FK I s) ∧ CS I (26 + 4 * s) n r (FK I s) ∧ I 76 (1122 + 258 * s) = nI n ∧ I 76 (1122 + 258 * s + 1) = nI r) ∧ PR I 24 2154 ∧ XR I 22 2162 ∧ PA I 22 25 2163))
def TA (I : ai_I) : Prop := ∃ n, n ≤ 240 ∧ I 1 4 = nI n ∧ I 75 3 = nI n ∧ ∀ k, k < n → ∃ b, b < 256 ∧ I 42 k = nI b ∧ I 77 k = (nI b).toInt8.toInt32
def ST (I : ai_I) : Prop := ST1 I ∧ ST2 I ∧ PR I 4 1032 ∧ XR I 2 1040 ∧ PA I 2 5 1041 ∧ TA I
/-- what a call may write without harm: all but these -/
def SAME (I I2 : ai_I) : Prop := (∀ c, c < 43 → I2 c = I c) ∧ (∀ j, j < 2244 → I2 76 j = I 76 j) ∧ I2 77 = I 77 ∧ I2 75 1 = I 75 1 ∧ I2 75 3 = I 75 3 ∧ I2 1999 = I 1999
theorem BL_cong {V V2 : Nat → Int32} (h : ∀ k, k < 256 → V k = V2 k) : BL V = BL V2 := by
  unfold BL
  apply List.filter_congr
  intro x hx
  rw [h x (List.mem_range.1 hx)]
theorem rk_cong {V V2 : Nat → Int32} (h : ∀ k, k < 256 → V k = V2 k) (set : Nat) : rk V set = rk V2 set := by
  unfold rk
  rw [BL_cong h]
theorem WF_cong {n r : Nat} {V V2 : Nat → Int32} (h : ∀ k, k < 256 → V k = V2 k) (hW : WF n r V) : WF n r V2 := by
  obtain ⟨h1, h2, h3, h4, h5, k, hk, hV⟩ := hW
  exact ⟨h1, h2, h3, h4, fun j hj hN => (by rw [← h j hj] at hN ⊢; exact h5 j hj hN), k, hk, (by rw [← h k hk]; exact hV)⟩
theorem CS_cong {I I2 : ai_I} {v n r : Nat} {V V2 : Nat → Int32} (h : ∀ k, k < 256 → V k = V2 k) (h0 : I2 v = I v) (h1 : I2 (v + 1) = I (v + 1)) (h2 : I2 (v + 2) = I (v + 2)) (h3 : I2 (v + 3) = I (v + 3)) (hC : CS I v n r V) : CS I2 v n r V2 := by
  obtain ⟨c0, c1, c2, c3, c4, c5⟩ := hC
  unfold CS
  rw [h0, h1, h2, h3, ← BL_cong h]
  exact ⟨c0, c1, c2, fun k hk => (c3 k hk).trans (h k hk), fun k hk => (by rw [← rk_cong h]; exact c4 k hk), c5⟩
theorem ST_same {I I2 : ai_I} (hS : SAME I I2) (h : ST I) : ST I2 := by
  obtain ⟨s1, s2, s3, s4, s5, s6⟩ := h
  obtain ⟨e1, e2, e3, e4, e5, -⟩ := hS
  have pr : ∀ c o, c < 43 → o + 8 ≤ 2244 → PR I c o → PR I2 c o := fun c o hc ho h e he => by
    rw [e1 c hc, e2 (o + e) (by omega)]
    exact h e he
  have xr : ∀ c o, c < 43 → o < 2244 → XR I c o → XR I2 c o := fun c o hc ho h => by
    obtain ⟨x, h1, h2, h3⟩ := h
    exact ⟨x, h1, by rw [e1 c hc]; exact h2, by rw [e2 o ho]; exact h3⟩
  have pa : ∀ c c2 o, c < 43 → c2 < 43 → o + 81 ≤ 2244 → PA I c c2 o → PA I2 c c2 o := fun c c2 o hc hc2 ho h => by
    obtain ⟨m, h1, h2, h3, h4⟩ := h
    exact ⟨m, h1, by rw [e1 c hc]; exact h2, by rw [e2 o (by omega)]; exact h3, fun k hk j hj => by rw [e1 c2 hc2, e2 (o + 1 + 4 * (m - 1 - k) + j) (by omega)]; exact h4 k hk j hj⟩
  refine ⟨fun s hs => ?_, ⟨?_, ?_⟩, pr _ _ (by decide) (by decide) s3, xr _ _ (by decide) (by decide) s4, pa _ _ _ (by decide) (by decide) (by decide) s5, ?_⟩
  · obtain ⟨n, r, h1, h2, h3, h4⟩ := s1 s hs
    have hV : ∀ k, k < 256 → FV I s k = FV I2 s k := fun k hk => (e2 _ (by omega)).symm
    exact ⟨n, r, WF_cong hV h1, CS_cong hV (e1 _ (by omega)) (e1 _ (by omega)) (e1 _ (by omega)) (e1 _ (by omega)) h2, by rw [e2 _ (by omega)]; exact h3, by rw [e2 _ (by omega)]; exact h4⟩
  · rw [e1 1 (by decide), e4]
    exact s2.1
  · rw [e1 1 (by decide)]
    rcases s2.2 with h | ⟨h, h1, h2, h3, h4⟩
    · exact Or.inl h
    · refine Or.inr ⟨h, fun s hs => ?_, pr _ _ (by decide) (by decide) h2, xr _ _ (by decide) (by decide) h3, pa _ _ _ (by decide) (by decide) (by decide) h4⟩
      obtain ⟨n, r, k1, k2, k3, k4⟩ := h1 s hs
      have hV : ∀ k, k < 256 → FK I s k = FK I2 s k := fun k hk => (e2 _ (by omega)).symm
      exact ⟨n, r, WF_cong hV k1, CS_cong hV (e1 _ (by omega)) (e1 _ (by omega)) (e1 _ (by omega)) (e1 _ (by omega)) k2, by rw [e2 _ (by omega)]; exact k3, by rw [e2 _ (by omega)]; exact k4⟩
  · obtain ⟨n, h1, h2, h3, h4⟩ := s6
    exact ⟨n, h1, by rw [e1 1 (by decide)]; exact h2, by rw [e5]; exact h3, fun k hk => by rw [e1 42 (by decide), e3]; exact h4 k hk⟩
theorem vc_s {s : Nat} (h : s < 4) : 6 + 4 * s ∈ VC := by
  match s, h with
  | 0, _ => decide
  | 1, _ => decide
  | 2, _ => decide
  | 3, _ => decide
