/-! Out of whole's part 23.sums, by wip/p46/extract.py. -/
/-- a loop by an index, with what holds all the while -/
theorem lp_ex {σ ρ α : Type} {b : σ → Option (σ ⊕ ρ)} (enc : Nat → α → σ) (fin : α → ρ) (P : Nat → α → Prop) (N : Nat)
    (hs : ∀ i a, i < N → P i a → ∃ a2, P (i + 1) a2 ∧ b (enc i a) = some (.inl (enc (i + 1) a2)))
    (he : ∀ a, P N a → b (enc N a) = some (.inr (fin a))) : ∀ (n i : Nat) (a : α) (fuel : Nat), i + n = N → P i a → n < fuel → ∃ a2, P N a2 ∧ lp b fuel (enc i a) = some (fin a2)
  | 0, i, a, fuel, hi, hp, hf => by
    obtain ⟨f, rfl⟩ : ∃ f, fuel = f + 1 := ⟨fuel - 1, by omega⟩
    obtain rfl : i = N := by omega
    exact ⟨a, hp, lp_out (he a hp)⟩
  | n + 1, i, a, fuel, hi, hp, hf => by
    obtain ⟨f, rfl⟩ : ∃ f, fuel = f + 1 := ⟨fuel - 1, by omega⟩
    obtain ⟨a2, h3, h4⟩ := hs i a (by omega) hp
    obtain ⟨a3, h5, h6⟩ := lp_ex enc fin P N hs he n (i + 1) a2 f (by omega) h3 (by omega)
    exact ⟨a3, h5, by rw [lp_in h4]; exact h6⟩
theorem c_332 {I : ai_I} {a n : Nat} {L : ai_G} {x : Int32} (hk : (Gc L).1 a = 13) (hn : (Gc L).2.1 a = n) (hn2 : n < 2000000) : ∃ I1, m_116 a x I (Gc L) = some I1 ∧ (∀ c, ¬ c = a → I1 c = I c) ∧ ∀ k, k < n → I1 a k = x := by
  unfold m_116
  have hal : o_al (Gc L) a = true := by
    unfold o_al
    rw [hk]
    rfl
  rw [hal, o_g_t, hn, o_b1_s]
  obtain ⟨I1, ⟨h1, h2⟩, h3⟩ := lp_ex (b := fun s => m_116_b5 a x (Gc L) (nI n) s.1 s.2) (fun k (J : ai_I) => (nI k, J)) (fun J => J) (fun k J => (∀ c, ¬ c = a → J c = I c) ∧ ∀ j, j < k → J a j = x) n (fun i J hi hp => by
    refine ⟨va_up J a (va_up (J a) i x), ⟨fun c hc => by rw [up_ne hc]; exact hp.1 c hc, fun j hj => ?_⟩, ?_⟩
    · rw [up_eq]
      by_cases h : j = i
      · rw [h, up_eq]
      · rw [up_ne h]
        exact hp.2 j (by omega)
    · show m_116_b5 a x (Gc L) (nI n) (nI i) J = _
      unfold m_116_b5
      rw [q_leF (by omega) hi, gi hk hn hi (by omega), o_g_t, o_b1_s, i_cl (by omega), i_add, o_b1_s]) (fun J hp => by
    show m_116_b5 a x (Gc L) (nI n) (nI n) J = _
    unfold m_116_b5
    rw [q_leT (by omega) (Nat.le_refl _)]) n 0 I o_N (by omega) ⟨fun _ _ => rfl, fun j hj => absurd hj (Nat.not_lt_zero _)⟩ hn2
  refine ⟨I1, ?_, h1, h2⟩
  show o_s1 (lp (fun s => m_116_b5 a x (Gc L) (nI n) s.1 s.2) o_N (nI 0, I)) _ = _
  rw [h3, o_s1_s]
  rfl
/-- the sum of a set's prices -/
def prs (p : Nat → Int32) (set : Nat) : Int32 := fd (fun e a => if set.testBit e = true then a + p e else a) (List.range 8) (nI 0)
theorem bit1 : ∀ a, a < 256 → ∀ e, e < 8 → (nI a >>> (nI e &&& 31)) &&& nI 1 = bz (a.testBit e = true) := by decide +kernel
theorem c_102 {I : ai_I} {c set : Nat} {L : ai_G} (hk : (Gc L).1 c = 13) (hn : (Gc L).2.1 c = 8) (hs : set < 256) : m_70 (nI set) c I (Gc L) = some (prs (I c) set) := by
  unfold m_70
  refine lp_fd_s1 (fun k a => (a, nI k)) (fun e a => if set.testBit e = true then a + I c e else a) (fun a => a) (fun _ _ => True) 8 (nI 0) ?_ ?_ trivial (by decide) rfl
  · intro e a he _
    refine ⟨trivial, ?_⟩
    show m_70_b4 (nI set) c I (Gc L) a (nI e) = _
    unfold m_70_b4
    rw [q_leF (by omega) he, gi hk hn he (by decide), o_g_t, bit1 set hs e he, i_cl (by omega), i_add, o_b1_s, o_b1_s]
    by_cases h : set.testBit e = true
    · rw [bz_t h, if_pos h, show nI 1 * I c e = I c e from Int32.one_mul _]
    · rw [bz_f h, if_neg h, show nI 0 * I c e = 0 from Int32.zero_mul, Int32.add_zero]
  · intro a _
    show m_70_b4 (nI set) c I (Gc L) a (nI 8) = _
    unfold m_70_b4
    rw [q_leT (by decide) (Nat.le_refl _)]
theorem prs_cong {p q : Nat → Int32} (h : ∀ e, e < 8 → p e = q e) (set : Nat) : prs p set = prs q set := fd_congr (fun e he a => by
  show (if set.testBit e = true then a + p e else a) = (if set.testBit e = true then a + q e else a)
  rw [h e (List.mem_range.1 he)])
theorem vc_51 : ∀ v ∈ VC, v < 51 ∧ 5 < v := by decide
/-- the greater -/
def mx (a b : Int32) : Int32 := if a ≤ b then b else a
theorem mx_lt (a b : Int32) : (if a < b then b else a) = mx a b := by
  unfold mx
  by_cases h : a < b
  · rw [if_pos h, if_pos (Int32.le_of_lt h)]
  · rw [if_neg h]
    by_cases h2 : a ≤ b
    · rw [if_pos h2]
      exact Int32.le_antisymm h2 (Int32.not_lt.1 h)
    · rw [if_neg h2]
/-- the greatest sum of some bases -/
def gs (S : Nat → Int32) (l : List Nat) : Int32 := fd (fun x m => mx m (S x)) l NO
theorem take_1 {l : List Nat} {k : Nat} (h : k < l.length) : l.take (k + 1) = l.take k ++ [l.getD k 0] := by
  rw [List.getD_eq_getElem?_getD, List.getElem?_eq_getElem h, List.take_succ_eq_append_getElem h]
  rfl
section
variable {I : ai_I} {t v n r p : Nat} {L : ai_G} {V : Nat → Int32}
theorem c_103 (hv : v ∈ VC) (h : CS I v n r V) (hk : (Gc L).1 p = 13) (hn : (Gc L).2.1 p = 8) {x : Nat} (hx : x < 256) : m_71 v (nI x) p I (Rc t) (Gc L) = some (V x + prs (I p) x) := by
  unfold m_71
  rw [v_kd hv, o_g_t, v_rv hv, v_gv hv hx, o_g_t, c_102 hk hn hx, o_b1_s, i_cl (by omega), h.2.2.2.1 x hx]
/-- what the class's fill leaves -/
theorem c_104 (hv : v ∈ VC) (hW : WF n r V) (h : CS I v n r V) (hk : (Gc L).1 p = 13) (hn : (Gc L).2.1 p = 8) (hp : ¬ p = 57 ∧ ¬ p = 58) : ∃ I1, m_72 57 v p I (Rc t) (Gc L) = some I1 ∧ (∀ c, ¬ c = 57 → ¬ c = 58 → I1 c = I c) ∧ (∀ x, x < 256 → I1 58 x = if V x ≠ NO then V x + prs (I p) x else NO) ∧ I1 57 1 = gs (fun x => V x + prs (I p) x) (BL V) := by
  have hl := BL_len hW
  have hvb := vc_51 v hv
  unfold m_72
  rw [r_57_0]
  obtain ⟨J, j1, j2, j3⟩ := c_332 (I := I) (L := L) (a := 58) (n := 256) (x := NO) rfl rfl (by decide)
  rw [j1, o_b1_s, o_b1_s]
  obtain ⟨I1, ⟨h1, h2, h3⟩, h4⟩ := lp_ex (b := fun s => m_72_b17 57 v p (Rc t) (Gc L) s.1 s.2) (fun k (J : ai_I) => (nI k, J)) (fun J => J) (fun k J => (∀ c, ¬ c = 57 → ¬ c = 58 → J c = I c) ∧ (∀ x, x < 256 → J 58 x = if x ∈ (BL V).take k then V x + prs (I p) x else NO) ∧ J 57 1 = gs (fun x => V x + prs (I p) x) ((BL V).take k)) (BL V).length (fun i J hi hJ => by
    obtain ⟨f1, f2, f3⟩ := hJ
    have hb := BL_at hi
    have hC : CS J v n r V := CS_cong (fun _ _ => rfl) (f1 _ (by omega) (by omega)) (f1 _ (by omega) (by omega)) (f1 _ (by omega) (by omega)) (f1 _ (by omega) (by omega)) h
    have hJp : J p = I p := f1 p hp.1 hp.2
    refine ⟨va_up (va_up J 58 (va_up (J 58) ((BL V).getD i 0) (V ((BL V).getD i 0) + prs (I p) ((BL V).getD i 0)))) 57 (va_up (J 57) 1 (mx (J 57 1) (V ((BL V).getD i 0) + prs (I p) ((BL V).getD i 0)))), ⟨fun c c1 c2 => by rw [up_ne c1, up_ne c2]; exact f1 c c1 c2, fun x hx => ?_, ?_⟩, ?_⟩
    · rw [up_ne (by decide), up_eq, take_1 hi]
      by_cases he : x = (BL V).getD i 0
      · rw [he, up_eq, if_pos (by simp)]
      · rw [up_ne he, f2 x hx]
        by_cases hm : x ∈ (BL V).take i
        · rw [if_pos hm, if_pos (by simp [hm])]
        · rw [if_neg hm, if_neg (by simp only [List.mem_append, List.mem_singleton]; exact fun h5 => h5.elim hm he)]
    · rw [up_eq, up_eq, f3, take_1 hi]
      unfold gs
      rw [fd_append]
      rfl
    · show m_72_b17 57 v p (Rc t) (Gc L) (nI i) J = _
      unfold m_72_b17
      rw [v_kd hv, o_g_t, hC.2.2.1, q_leF (by omega) hi, v_rb hv, v_gb hv (by omega), o_g_t, i_cl (by omega), hC.2.2.2.2.2 i hi, o_b1_s, c_103 hv hC hk hn hb.1, o_b1_s, r_57_0, g_58 hb.1, o_g_t, o_b1_s, o_g_t, i_cl (by omega), hJp, up_eq, up_eq, up_ne (show ¬ 57 = 58 by decide), mx_lt, o_b1_s, o_b1_s, i_add, o_b1_s]) (fun J hJ => by
    obtain ⟨f1, f2, f3⟩ := hJ
    show m_72_b17 57 v p (Rc t) (Gc L) (nI (BL V).length) J = _
    unfold m_72_b17
    rw [v_kd hv, o_g_t, f1 v (by omega) (by omega), h.2.2.1, q_leT (by omega) (Nat.le_refl _)]) (BL V).length 0 (va_up J 57 (va_up (J 57) 1 NO)) o_N (by omega) ⟨fun c c1 c2 => by rw [up_ne c1]; exact j2 c c2, fun x hx => by rw [up_ne (by decide), j3 x hx]; simp, by rw [up_eq, up_eq]; rfl⟩ (show (BL V).length < 2000000 by omega)
  refine ⟨I1, ?_, h1, fun x hx => ?_, ?_⟩
  · show o_s1 (lp (fun s => m_72_b17 57 v p (Rc t) (Gc L) s.1 s.2) o_N (nI 0, va_up J 57 (va_up (J 57) 1 NO))) _ = _
    rw [h4, o_s1_s]
    rfl
  · rw [h2 x hx, List.take_length]
    by_cases hV : V x ≠ NO
    · rw [if_pos hV, if_pos (BL_mem.2 ⟨hx, hV⟩)]
    · rw [if_neg hV, if_neg (fun hm => hV (BL_mem.1 hm).2)]
  · rw [h3, List.take_length]
end
