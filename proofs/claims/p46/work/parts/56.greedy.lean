/-! Out of whole's part 56.greedy, by wip/p46/extract.py. -/
theorem S_gt {V p : Nat → Int32} {n r : Nat} (hW : WF n r V) (hp : ∀ e, e < 8 → -1000 ≤ p e ∧ p e ≤ 1000) : ∀ x, x ∈ BL V → ¬ V x + prs p x ≤ NO := fun x hx h => by
  have hx2 := BL_mem.1 hx
  obtain ⟨-, -, h1, h2⟩ := hW.2.2.2.2.1 x hx2.1 hx2.2
  have h3 := prs_gt hp x
  rw [Int32.le_iff_toInt_le] at h1 h2 h
  rw [show (-1000000 : Int32).toInt = -1000000 from by decide] at h1
  rw [show (1000000 : Int32).toInt = 1000000 from by decide] at h2
  rw [show NO.toInt = -2147483648 from by decide, Int32.toInt_add] at h
  unfold Int.bmod at h
  dsimp only at h
  split at h <;> omega
noncomputable def cl (p : Nat → Prop) (x : Nat) : Bool := @decide (p x) (Classical.propDecidable _)
theorem cl_t {p : Nat → Prop} {x : Nat} (h : p x) : cl p x = true := @decide_eq_true _ (Classical.propDecidable _) h
theorem cl_f {p : Nat → Prop} {x : Nat} (h : ¬ p x) : cl p x = false := @decide_eq_false _ (Classical.propDecidable _) h
theorem fln_t {p : Nat → Prop} {k : Nat} (h : p k) : fln (cl p) (k + 1) = fln (cl p) k + 1 := by rw [fln_succ, if_pos (cl_t h)]
theorem fln_f {p : Nat → Prop} {k : Nat} (h : ¬ p k) : fln (cl p) (k + 1) = fln (cl p) k := by
  rw [fln_succ, cl_f h]
  rfl
/-- greedy comes from here to a greatest one -/
def arv (V S : Nat → Int32) (g : Int32) (a : Nat) : Prop := a ∈ BL V ∧ ∃ k b, grd V S k a b ∧ S b = g
