/-! Out of whole's part 79zg.draft, by wip/p46/extract.py. -/
theorem pc_x2 : ∀ j, j < 256 → ∀ e, e < 8 → j.testBit e = true → pc (j ^^^ 2 ^ e) ≤ pc j := by decide +kernel
theorem BST_un {B B2 : Nat → Int32} {w : Nat → Nat → Int32} {n r i : Nat} (hn : n ≤ 8) (hi : i ≤ 256) (h : BST B w n r i) (h2 : BST B2 w n r i) : ∀ m j, j < m → j < i → pc j ≤ r → B j = B2 j
  | 0, j, hj, _, _ => absurd hj (Nat.not_lt_zero _)
  | m + 1, j, hj, hji, hp => by
    by_cases c : j = 0
    · rw [c, h.1, h2.1]
    · refine MX_eq (h.2 j (by omega) hji hp) (h2.2 j (by omega) hji hp) (fun z => ?_)
      have key : ∀ e, e < n → j.testBit e = true → B (j ^^^ 2 ^ e) = B2 (j ^^^ 2 ^ e) := fun e he hb => by
        have h3 := (xr_all j (by omega) e (by omega) hb).1
        have h4 := pc_x2 j (by omega) e (by omega) hb
        exact BST_un hn hi h h2 m _ (by omega) (by omega) (by omega)
      exact ⟨fun ⟨e, e1, e2, e3⟩ => ⟨e, e1, e2, by rw [← key e e1 e2]; exact e3⟩, fun ⟨e, e1, e2, e3⟩ => ⟨e, e1, e2, by rw [key e e1 e2]; exact e3⟩⟩
/-- the shelves, the prices: sizes, ranks, values -/
abbrev SV := (Nat → Nat) × (Nat → Nat) × (Nat → Nat → Int32) × (Nat → Int32)
def DRb (A : SV) (c : Nat → Int32) (cnt n r : Nat) (D : Nat → Int32) : Nat → Prop
  | 1 => c 1 = nI n ∧ c 2 = nI r ∧ ∀ j, j < 256 → D j = uni n r j
  | 2 => c 1 = nI n ∧ c 2 = nI r ∧ ∃ B, BST B (fun q e => c (3 + q * n + e)) n r (2 ^ n) ∧ ∀ j, j < 256 → D j = if j < 2 ^ n ∧ pc j = r then B j else NO
  | 3 => c 1 = nI n ∧ c 2 = nI (r + 1) ∧ ∀ j, j < 256 → D j = gph (fun i => (c (3 + i)).toNatClampNeg) n r j
  | 4 => c 1 = nI n ∧ c 2 = nI r ∧ ∃ q, cnt = 3 + 2 * q ∧ ∀ j, j < 256 → D j = tdr (fun i => (c (3 + 2 * i)).toNatClampNeg) (fun i => c (3 + 2 * i + 1)) q j
  | 5 => ∃ s, s < 4 ∧ c 1 = nI s ∧ n = A.1 s ∧ r = A.1 s - A.2.1 s ∧ ∀ j, j < 256 → D j = dua n (A.2.2.1 s) j
  | 6 => ∃ s e, s < 4 ∧ c 1 = nI s ∧ c 2 = nI e ∧ e < A.1 s ∧ n = A.1 s - 1 ∧ r = A.2.1 s ∧ ∀ j, j < 256 → D j = lsd (A.2.2.1 s) e false 256 j
  | 7 => ∃ s e, s < 4 ∧ c 1 = nI s ∧ c 2 = nI e ∧ e < A.1 s ∧ n = A.1 s - 1 ∧ r = A.2.1 s - 1 ∧ ∀ j, j < 256 → D j = lsd (A.2.2.1 s) e true 256 j
  | 8 => ∃ s, s < 4 ∧ c 1 = nI s ∧ n = A.1 s ∧ r = A.2.1 s ∧ ∀ j, j < 256 → D j = shi (A.2.2.1 s) A.2.2.2 j
  | 9 => ∃ s s2, s < 4 ∧ s2 < 4 ∧ c 1 = nI s ∧ c 2 = nI s2 ∧ n = A.1 s + A.1 s2 ∧ r = A.2.1 s + A.2.1 s2 ∧ ∀ j, j < 256 → D j = pdr (A.2.2.1 s) (A.2.2.1 s2) (A.1 s) 256 j
  | 10 => ∃ s, s < 4 ∧ c 1 = nI s ∧ n = A.1 s ∧ r + 1 = A.2.1 s ∧ ∀ j, j < 256 → MX (cdt (A.2.2.1 s) true n 256 j) (D j)
  | 11 => ∃ s, s < 4 ∧ c 1 = nI s ∧ n = A.1 s ∧ r = A.2.1 s ∧ ∀ j, j < 256 → D j = ini (A.2.2.1 s) (fun x => A.2.2.1 s x + prs A.2.2.2 x) j
  | 12 => ∃ s, s < 4 ∧ c 1 = nI s ∧ n = A.1 s ∧ r = A.2.1 s + 1 ∧ ∀ j, j < 256 → MX (cdt (A.2.2.1 s) false n 256 j) (D j)
  | 13 => ∃ s s2, s < 4 ∧ s2 < 4 ∧ c 1 = nI s ∧ c 2 = nI s2 ∧ A.1 s = A.1 s2 ∧ n = A.1 s ∧ r = A.2.1 s + A.2.1 s2 ∧ ∀ j, j < 256 → D j = jdr (A.2.2.1 s) (A.2.2.1 s2) 256 j
  | _ => False
def DRk (A : SV) (kd : Nat) (c : Nat → Int32) (cnt n r : Nat) (D : Nat → Int32) : Prop := (2 ≤ n ∧ n ≤ 8 ∧ 1 ≤ r ∧ r < n) ∧ DRb A c cnt n r D kd
theorem n_in {a b : Nat} {x : Int32} (ha : a < 2147483648) (hb : b < 2147483648) (h : x = nI a) (h2 : x = nI b) : a = b := by
  rw [h, i_eq ha hb] at h2
  exact h2
theorem DRk_un {A : SV} {kd cnt n r n2 r2 : Nat} {c D D2 : Nat → Int32} (h : DRk A kd c cnt n r D) (h2 : DRk A kd c cnt n2 r2 D2) : n = n2 ∧ r = r2 ∧ ∀ j, j < 256 → D j = D2 j := by
  obtain ⟨⟨g1, g2, g3, g4⟩, h⟩ := h
  obtain ⟨⟨k1, k2, k3, k4⟩, h2⟩ := h2
  match kd, h, h2 with
  | 1, ⟨a1, a2, a3⟩, ⟨b1, b2, b3⟩ =>
    obtain rfl := n_in (by omega) (by omega) a1 b1
    obtain rfl := n_in (by omega) (by omega) a2 b2
    exact ⟨rfl, rfl, fun j hj => by rw [a3 j hj, b3 j hj]⟩
  | 2, ⟨a1, a2, B, a3, a4⟩, ⟨b1, b2, B2, b3, b4⟩ =>
    obtain rfl := n_in (by omega) (by omega) a1 b1
    obtain rfl := n_in (by omega) (by omega) a2 b2
    refine ⟨rfl, rfl, fun j hj => ?_⟩
    rw [a4 j hj, b4 j hj]
    by_cases c : j < 2 ^ n ∧ pc j = r
    · rw [if_pos c, if_pos c]
      exact BST_un g2 (p2_le g2) a3 b3 (j + 1) j (by omega) c.1 (by omega)
    · rw [if_neg c, if_neg c]
  | 3, ⟨a1, a2, a3⟩, ⟨b1, b2, b3⟩ =>
    obtain rfl := n_in (by omega) (by omega) a1 b1
    have := n_in (by omega) (by omega) a2 b2
    obtain rfl : r = r2 := by omega
    exact ⟨rfl, rfl, fun j hj => by rw [a3 j hj, b3 j hj]⟩
  | 4, ⟨a1, a2, q, a3, a4⟩, ⟨b1, b2, q2, b3, b4⟩ =>
    obtain rfl := n_in (by omega) (by omega) a1 b1
    obtain rfl := n_in (by omega) (by omega) a2 b2
    obtain rfl : q = q2 := by omega
    exact ⟨rfl, rfl, fun j hj => by rw [a4 j hj, b4 j hj]⟩
  | 5, ⟨s, a1, a2, a3, a4, a5⟩, ⟨s2, b1, b2, b3, b4, b5⟩ =>
    obtain rfl := n_in (by omega) (by omega) a2 b2
    subst a3
    subst b3
    exact ⟨rfl, by omega, fun j hj => by rw [a5 j hj, b5 j hj]⟩
  | 6, ⟨s, e, a1, a2, a3, a4, a5, a6, a7⟩, ⟨s2, e2, b1, b2, b3, b4, b5, b6, b7⟩ =>
    obtain rfl := n_in (by omega) (by omega) a2 b2
    obtain rfl := n_in (by omega) (by omega) a3 b3
    exact ⟨by omega, by omega, fun j hj => by rw [a7 j hj, b7 j hj]⟩
  | 7, ⟨s, e, a1, a2, a3, a4, a5, a6, a7⟩, ⟨s2, e2, b1, b2, b3, b4, b5, b6, b7⟩ =>
    obtain rfl := n_in (by omega) (by omega) a2 b2
    obtain rfl := n_in (by omega) (by omega) a3 b3
    exact ⟨by omega, by omega, fun j hj => by rw [a7 j hj, b7 j hj]⟩
  | 8, ⟨s, a1, a2, a3, a4, a5⟩, ⟨s2, b1, b2, b3, b4, b5⟩ =>
    obtain rfl := n_in (by omega) (by omega) a2 b2
    exact ⟨by omega, by omega, fun j hj => by rw [a5 j hj, b5 j hj]⟩
  | 9, ⟨s, t, a1, a2, a3, a4, a5, a6, a7⟩, ⟨s2, t2, b1, b2, b3, b4, b5, b6, b7⟩ =>
    obtain rfl := n_in (by omega) (by omega) a3 b3
    obtain rfl := n_in (by omega) (by omega) a4 b4
    exact ⟨by omega, by omega, fun j hj => by rw [a7 j hj, b7 j hj]⟩
  | 10, ⟨s, a1, a2, a3, a4, a5⟩, ⟨s2, b1, b2, b3, b4, b5⟩ =>
    obtain rfl := n_in (by omega) (by omega) a2 b2
    subst a3
    subst b3
    exact ⟨rfl, by omega, fun j hj => MX_eq (a5 j hj) (b5 j hj) (fun _ => Iff.rfl)⟩
  | 11, ⟨s, a1, a2, a3, a4, a5⟩, ⟨s2, b1, b2, b3, b4, b5⟩ =>
    obtain rfl := n_in (by omega) (by omega) a2 b2
    exact ⟨by omega, by omega, fun j hj => by rw [a5 j hj, b5 j hj]⟩
  | 12, ⟨s, a1, a2, a3, a4, a5⟩, ⟨s2, b1, b2, b3, b4, b5⟩ =>
    obtain rfl := n_in (by omega) (by omega) a2 b2
    subst a3
    subst b3
    exact ⟨rfl, by omega, fun j hj => MX_eq (a5 j hj) (b5 j hj) (fun _ => Iff.rfl)⟩
  | 13, ⟨s, t, a1, a2, a3, a4, a5, a6, a7, a8⟩, ⟨s2, t2, b1, b2, b3, b4, b5, b6, b7, b8⟩ =>
    obtain rfl := n_in (by omega) (by omega) a3 b3
    obtain rfl := n_in (by omega) (by omega) a4 b4
    exact ⟨by omega, by omega, fun j hj => by rw [a8 j hj, b8 j hj]⟩
  | 0, h, _ => exact h.elim
  | k + 14, h, _ => exact h.elim
