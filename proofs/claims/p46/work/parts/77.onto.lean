/-! Out of whole's part 77.onto, by wip/p46/extract.py. -/
noncomputable def fs (n : Nat) (V W : Nat → Int32) (c : Nat) : Nat := fln (cl (fun c => Sol n V W (dc c))) c
