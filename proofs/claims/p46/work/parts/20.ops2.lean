/-! Out of whole's part 20.ops2, by wip/p46/extract.py. -/
/-- how many of the sets are so -/
def cnt (p : Nat → Bool) (n : Nat) : Nat := ((List.range (2 ^ n)).filter p).length
theorem cnt_le {p : Nat → Bool} {n : Nat} (hn : n ≤ 8) : cnt p n ≤ 256 := by
  have h := List.length_filter_le p (List.range (2 ^ n))
  rw [List.length_range] at h
  exact Nat.le_trans h (p2_le hn)
/-- a loop over places that counts -/
theorem lp_cnt {b : Int32 × Int32 → Option ((Int32 × Int32) ⊕ Int32)} {γ : Type} {g : Int32 → Option γ} {y : Option γ} (p : Nat → Bool) (N : Nat) (hN : N ≤ 256) (hs : ∀ i a, i < N → a ≤ i → b (nI a, nI i) = some (.inl (nI (if p i = true then a + 1 else a), nI (i + 1)))) (he : ∀ a, a ≤ N → b (nI a, nI N) = some (.inr (nI a))) (hy : g (nI ((List.range N).filter p).length) = y) : o_s1 (lp b o_N (nI 0, nI 0)) g = y := by
  refine lp_fd_s1 (fun k a => (nI a, nI k)) (fun k a => if p k = true then a + 1 else a) (fun a => nI a) (fun k a => a ≤ k) N 0 ?_ ?_ (by omega) (by omega) ?_
  · intro i a hi ha
    exact ⟨by split <;> omega, hs i a hi ha⟩
  · intro a ha
    exact he a ha
  · rw [fd_len, Nat.zero_add]
    exact hy
def pFz (V : Nat → Int32) (k x : Nat) : Bool := decide (pc x = k) && decide (rk V x = pc x)
section
variable {I : ai_I} {t v n r k : Nat} {L : ai_G} {V : Nat → Int32}
theorem c_69 (hv : v ∈ VC) (hW : WF n r V) (h : CS I v n r V) (hk : k < 2147483648) : m_51 v (nI k) I (Rc t) (Gc L) = some (nI (cnt (pFz V k) n)) := by
  have hn := hW.2.1
  have h8 := p2_le hn
  unfold m_51
  refine lp_cnt (pFz V k) (2 ^ n) h8 ?_ ?_ rfl
  · intro i a hi ha
    show m_51_b4 v (nI k) I (Rc t) (Gc L) (nI a) (nI i) = _
    have hpc := pc_le i
    unfold m_51_b4 m_51_j33
    rw [v_kd hv, o_g_t, c_118 hn h.1, o_b1_s, q_leF (by omega) hi, s_331 (by omega), o_b1_s, q_eq (by omega) hk, c_123 hv h (by omega), o_b1_s, q_bz]
    unfold pFz
    by_cases h1 : pc i = k
    · by_cases h2 : rk V i = pc i
      · rw [if_pos h1, if_pos h2, if_pos (by simp [h1, h2])]
        unfold m_51_j34
        rw [show m_112 (nI 1) = some (nI 1) from rfl, o_b1_s, i_add, o_b1_s, i_add, o_b1_s]
      · rw [if_pos h1, if_neg h2, if_neg (by simp [h2])]
        unfold m_51_j34
        rw [show m_112 (nI 0) = some (nI 0) from rfl, o_b1_s, i_add, o_b1_s, i_add, o_b1_s]
        rfl
    · rw [if_neg h1, if_neg (by simp [h1])]
      unfold m_51_j34
      rw [show m_112 (nI 0) = some (nI 0) from rfl, o_b1_s, i_add, o_b1_s, i_add, o_b1_s]
      rfl
  · intro a ha
    show m_51_b4 v (nI k) I (Rc t) (Gc L) (nI a) (nI (2 ^ n)) = _
    unfold m_51_b4
    rw [v_kd hv, o_g_t, c_118 hn h.1, o_b1_s, q_leT (by omega) (Nat.le_refl _)]
end
