/-! Out of whole's part 27.ops7, by wip/p46/extract.py. -/
/-- the class takes the prices as numbers -/
theorem c_88 {I : ai_I} {t v n : Nat} {L : ai_G} (hv : v ∈ VC) (hn : n ≤ 8) (h : I v 0 = nI n) : ∃ I1, m_57 59 v 4 I (Rc t) (Gc L) = some I1 ∧ (∀ c, ¬ c = 59 → ¬ c = 60 → I1 c = I c) ∧ I1 59 1 = nI (2 ^ n - 1) ∧ ∀ k, k < 8 → I1 60 k = I 4 k := by
  have hvb := vc_51 v hv
  have hc : o_cpy (Gc L) 4 60 (nI 0) (nI 0) (nI 8) = true := decide_eq_true ⟨rfl, rfl, by decide, by decide, by decide, Nat.le_of_ble_eq_true rfl, Nat.le_of_ble_eq_true rfl⟩
  unfold m_57
  rw [r_59_0, hc, o_g_t, o_b1_s, v_kd hv, o_g_t, c_119 hn (by rw [up_ne (by omega)]; exact h), o_b1_s, o_b1_s, i_cl (by decide), i_cl (by decide)]
  refine ⟨_, rfl, fun c c1 c2 => by rw [up_ne c1, up_ne c2], by rw [up_eq, up_eq], fun k hk => ?_⟩
  rw [up_ne (by decide), up_eq, cpy_at hk]
theorem tws_cong {V W num num2 : Nat → Int32} {hav x : Nat} (hV : ∀ k, k < 256 → V k = W k) (hN : ∀ e, e < 8 → num e = num2 e) (hx : x < 256) : tws V num hav x = tws W num2 hav x := fd_congr (fun e he a => by
  have he8 := List.mem_range.1 he
  unfold twc
  rw [hV _ (bit_xor_lt hx (p2_lt he8)), hN e he8])
theorem flq_cong {V W num num2 : Nat → Int32} {hav r n : Nat} (hn : n ≤ 8) (hV : ∀ k, k < 256 → V k = W k) (hN : ∀ e, e < 8 → num e = num2 e) : (List.range (2 ^ n)).filter (flq V num hav r) = (List.range (2 ^ n)).filter (flq W num2 hav r) := List.filter_congr (fun x hx => by
  have h8 := p2_le hn
  have hx2 := List.mem_range.1 hx
  unfold flq
  rw [tws_cong hV hN (by omega)])
