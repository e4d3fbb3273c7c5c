/-! Out of whole's part 45.comp, by wip/p46/extract.py. -/
/-- one less, as a count goes down -/
def dwn (m : Nat) : Int32 := nI m + (-1)
theorem dwn_s (m : Nat) : dwn (m + 1) = nI m := i_dec m
theorem dwn_0 : dwn 0 = -1 := by decide
theorem wp_lpd {σ ρ : Type} {b : σ → Option (σ ⊕ ρ)} {Q : ρ → Prop} {s0 : σ} (P : Nat → σ → Prop) (a N : Nat) (ha : a ≤ N) (hN : N < 2000000) (h0 : P N s0)
    (hs : ∀ m s, a ≤ m → m < N → P (m + 1) s → wp (b s) (lq (P m) Q)) (he : ∀ s, P a s → wp (b s) (lq (fun _ => False) Q)) : wp (lp b o_N s0) Q := by
  refine wp_lp (fun i s => i ≤ N - a ∧ P (N - i) s) 0 (N - a) (Nat.zero_le _) (by omega) ⟨Nat.zero_le _, h0⟩ ?_ ?_
  · rintro i s hi ⟨h1, h2⟩
    rw [show N - i = N - (i + 1) + 1 by omega] at h2
    refine wp_mono (hs _ _ (by omega) (by omega) h2) ?_
    intro q hq
    cases q with
    | inl s2 => exact ⟨by omega, hq⟩
    | inr r => exact hq
  · rintro s ⟨h1, h2⟩
    rw [show N - (N - a) = a by omega] at h2
    exact he _ h2
theorem pc_2 : ∀ e, e < 8 → pc (2 ^ e) = 1 := by decide
theorem pc_ne : ∀ a, a < 256 → 0 < a → 0 < pc a := by decide +kernel
