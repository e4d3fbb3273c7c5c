/-! Out of whole's part 79r.num, by wip/p46/extract.py. -/
def nxr (f : Nat) (N : Nat → Int32) : Int32 ⊕ (Int32 × Nat) → RS
  | .inl e => .inl e
  | .inr (v, q) => .inr (q, f + 1, va_up N f v)
theorem rn_nx {T : Nat → Nat} {n p f : Nat} {lo hi : Int32} {N : Nat → Int32} : rn T n lo hi (.inr (p, f, N)) = nxr f N (rdN T n lo hi p) := by
  unfold rn
  dsimp only
  cases rdN T n lo hi p with
  | inl e => rfl
  | inr y => rfl
