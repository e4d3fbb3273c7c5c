/-! Out of whole's part 35.feed, by wip/p46/extract.py. -/
def byt (x : Int32) (j : Nat) : Nat := ((x.toBitVec >>> (24 - 8 * j)) &&& 255#32).toNat
theorem byt_lt (x : Int32) (j : Nat) : byt x j < 256 := by
  unfold byt
  rw [BitVec.toNat_and]
  exact Nat.lt_of_le_of_lt Nat.and_le_right (by decide)
theorem byt_nI (x : Int32) (j : Nat) : (nI (byt x j)).toBitVec = (x.toBitVec >>> (24 - 8 * j)) &&& 255#32 := by
  unfold byt
  rw [i_bv, BitVec.ofNat_toNat, BitVec.setWidth_eq]
def ev (k : Nat) : Int32 := match k with
  | 0 => nI 24
  | 1 => nI 16
  | 2 => nI 8
  | 3 => nI 0
  | _ => -8
theorem ur32 (a s : UInt32) (k : Nat) (h : (s.toBitVec % 32).toNat = k) : (a >>> s).toBitVec = a.toBitVec >>> k := by
  subst h
  rfl
theorem sr32 (a s : Int32) (k : Nat) (h : (s.toBitVec.smod 32).toNat = k) : (a >>> s).toBitVec = a.toBitVec.sshiftRight k := by
  subst h
  rfl
theorem cb_byt (x : Int32) {i : Nat} (hi : i < 4) : (x.toUInt32 >>> ((ev i).toUInt32 &&& Int32.toUInt32 31)).toInt32 &&& nI 255 = nI (byt x i) := by
  apply Int32.toBitVec_inj.1
  rw [byt_nI, Int32.toBitVec_and]
  have e : (x.toUInt32 >>> ((ev i).toUInt32 &&& Int32.toUInt32 31)).toBitVec = x.toBitVec >>> (24 - 8 * i) := by
    have e2 := ur32 x.toUInt32 ((ev i).toUInt32 &&& Int32.toUInt32 31) (24 - 8 * i) (by
      match i, hi with
      | 0, _ => decide
      | 1, _ => decide
      | 2, _ => decide
      | 3, _ => decide)
    exact e2
  rw [show (x.toUInt32 >>> ((ev i).toUInt32 &&& Int32.toUInt32 31)).toInt32.toBitVec = (x.toUInt32 >>> ((ev i).toUInt32 &&& Int32.toUInt32 31)).toBitVec from rfl, e]
  rfl
def Bx (B : Nat → Nat) (n : Nat) (x : Int32) (k : Nat) : Nat := if k < n then B k else byt x (k - n)
theorem Bx_lt {B : Nat → Nat} {n : Nat} {x : Int32} (h : ∀ k, k < n → B k < 256) : ∀ k, k < n + 4 → Bx B n x k < 256 := fun k _ => by
  unfold Bx
  by_cases hk : k < n
  · rw [if_pos hk]
    exact h k hk
  · rw [if_neg hk]
    exact byt_lt _ _
/-- one word on the class's tape -/
theorem c_138 {I : ai_I} {t n : Nat} {L : ai_G} {B : Nat → Nat} (x : Int32) (hn : n + 4 ≤ 240) (h1 : I 1 4 = nI n) (h2 : ∀ k, k < n → I 42 k = nI (B k)) : ∃ J, m_96 1 x I (Rc t) (Gc L) = some J ∧ J 1 4 = nI (n + 4) ∧ (∀ k, k < n + 4 → J 42 k = nI (Bx B n x k)) ∧ (∀ c, ¬ c = 1 → ¬ c = 42 → J c = I c) ∧ (∀ j, ¬ j = 4 → J 1 j = I 1 j) := by
  obtain ⟨J, ⟨j1, j2, j3, j4⟩, e⟩ := lp_ex (b := fun q => m_96_b3 1 x (Rc t) (Gc L) q.1 q.2) (fun i (a : ai_I) => (ev i, a)) (fun a => a) (fun i J => J 1 4 = nI (n + i) ∧ (∀ k, k < n + i → J 42 k = nI (Bx B n x k)) ∧ (∀ c, ¬ c = 1 → ¬ c = 42 → J c = I c) ∧ (∀ j, ¬ j = 4 → J 1 j = I 1 j)) 4 (fun i J hi hP => by
    obtain ⟨p1, p2, p3, p4⟩ := hP
    refine ⟨va_up (va_up J 42 (va_up (J 42) (n + i) (nI (byt x i)))) 1 (va_up (J 1) 4 (nI (n + i + 1))), ⟨?_, fun k hk => ?_, fun c hc1 hc2 => ?_, fun j hj => ?_⟩, ?_⟩
    · rw [up_eq, up_eq]
      rfl
    · rw [up_ne (by decide), up_eq]
      by_cases hk2 : k = n + i
      · rw [hk2, up_eq]
        unfold Bx
        rw [if_neg (by omega), show n + i - n = i by omega]
      · rw [up_ne hk2]
        exact p2 k (by omega)
    · rw [up_ne hc1, up_ne hc2]
      exact p3 c hc1 hc2
    · rw [up_eq, up_ne hj]
      exact p4 j hj
    · show m_96_b3 1 x (Rc t) (Gc L) (ev i) J = _
      have e0 : ¬ ev i < 0 := by
        match i, hi with
        | 0, _ => decide
        | 1, _ => decide
        | 2, _ => decide
        | 3, _ => decide
      have e8 : ev i + (-8 : Int32) = ev (i + 1) := by
        match i, hi with
        | 0, _ => decide
        | 1, _ => decide
        | 2, _ => decide
        | 3, _ => decide
      unfold m_96_b3
      rw [if_neg e0, p1, q_leF (by omega) (by omega), r_1_3, g_42 (by omega), o_g_t, cb_byt x hi, i_cl (by omega), o_b1_s, up_ne (show ¬ 1 = 42 by decide), p1, i_add, o_b1_s, e8, o_b1_s]) (fun J hP => by
    show m_96_b3 1 x (Rc t) (Gc L) (-8) J = _
    unfold m_96_b3
    rw [if_pos (by decide)]) 4 0 I o_N (by omega) ⟨h1, fun k hk => by
      unfold Bx
      rw [if_pos (show k < n from hk)]
      exact h2 k hk, fun _ _ _ => rfl, fun _ _ => rfl⟩ (show 4 < 2000000 by decide)
  refine ⟨J, ?_, j1, j2, j3, j4⟩
  show o_s1 (lp (fun q => m_96_b3 1 x (Rc t) (Gc L) q.1 q.2) o_N (nI 24, I)) _ = _
  rw [show (nI 24, I) = (ev 0, I) from rfl, e, o_s1_s]
  rfl
