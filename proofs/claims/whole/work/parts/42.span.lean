/-! Call spanned: the class's loop. -/
theorem c_93 {I : ai_I} {t L v n r hav : Nat} {V : Nat → Int32} (hv : v ∈ VC) (hW : WF n r V) (h : CS I v n r V) (hh : I 59 1 = nI hav) (hh2 : hav < 2 ^ n) : m_93 59 v I (Rc t) (Gc L) = some (bz (cnt (flq V (I 60) hav r) n = 0)) := by
  have h8 := p2_le hW.2.1
  unfold m_93
  rw [c_91 hv hW h hh hh2 (by decide), o_b1_s]
  unfold nthE cnt
  cases hl : (List.range (2 ^ n)).filter (flq V (I 60) hav r) with
  | nil => rfl
  | cons y l =>
    have hy : y < 2 ^ n := by
      have hm : y ∈ (List.range (2 ^ n)).filter (flq V (I 60) hav r) := by rw [hl]; exact List.mem_cons_self ..
      exact List.mem_range.1 (List.mem_filter.1 hm).1
    show (if nI y = (-4 : Int32) then some (nI 1) else some (nI 0)) = _
    rw [if_neg (fun h1 => ?_), bz_f (by simp)]
    have h2 := congrArg Int32.toInt h1
    rw [nI_toInt (by omega), show (-4 : Int32).toInt = -4 from by decide] at h2
    omega
