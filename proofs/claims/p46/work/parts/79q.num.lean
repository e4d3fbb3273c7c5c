/-! Out of whole's part 79q.num, by wip/p46/extract.py. -/
theorem rdT_p {T : Nat → Nat} {n a q : Nat} {lo hi : Int32} {w : Bool} {v : Int32} {x : Nat} (hq : q ≤ n) (h : rdT T n lo hi a q w = .inr (v, x)) : q + 1 ≤ x ∧ x ≤ n ∧ lo ≤ v ∧ v ≤ hi := by
  have hle : q + rnl (dgt T n) q 7 ≤ n := by
    by_cases c : rnl (dgt T n) q 7 = 0
    · omega
    · have := (dgt_i.1 (rnl_all (P := dgt T n) 7 q (rnl (dgt T n) q 7 - 1) (by omega))).1
      omega
  unfold rdT at h
  by_cases c : rnl (dgt T n) q 7 = 0
  · rw [if_pos c] at h
    cases h
  · rw [if_neg c] at h
    by_cases c2 : dgt T n (q + rnl (dgt T n) q 7) = true
    · rw [if_pos c2] at h
      cases h
    · rw [if_neg c2] at h
      generalize (if w = true then -nI (dv T q (rnl (dgt T n) q 7)) else nI (dv T q (rnl (dgt T n) q 7))) = z at h
      by_cases c3 : lo ≤ z ∧ z ≤ hi
      · rw [if_pos c3] at h
        cases h
        exact ⟨by omega, hle, c3⟩
      · rw [if_neg c3] at h
        cases h
theorem rdN_p {T : Nat → Nat} {n p : Nat} {lo hi : Int32} {v : Int32} {q : Nat} (h : rdN T n lo hi p = .inr (v, q)) : p + 2 ≤ q ∧ q ≤ n ∧ isA T n p 32 = true ∧ lo ≤ v ∧ v ≤ hi := by
  unfold rdN at h
  by_cases c : isA T n p 32 = true
  · have c' := (isA_i.1 c).1
    rw [if_pos c] at h
    by_cases c2 : isA T n (p + 1) 45 = true
    · have c2' := (isA_i.1 c2).1
      rw [if_pos c2] at h
      obtain ⟨h1, h2, h3⟩ := rdT_p (by omega) h
      exact ⟨by omega, h2, c, h3⟩
    · rw [if_neg c2] at h
      obtain ⟨h1, h2, h3⟩ := rdT_p (by omega) h
      exact ⟨by omega, h2, c, h3⟩
  · rw [if_neg c] at h
    cases h
def lst : RS → Int32
  | .inl _ => nI 0
  | .inr (_, f, N) => N (f - 1)
theorem CL_e {I0 I : ai_I} {n f0 p f : Nat} {e : Int32} {N : Nat → Int32} (he : e ≠ 0) (hp : p ≤ n) (hf : f0 ≤ f) (hf2 : f ≤ 100) (h : CM I0 I p f e N) : CL I0 n f0 I (.inl e) := ⟨he, p, f, N, hp, hf, hf2, h⟩
theorem c_16t {I0 I : ai_I} {n q a f0 f : Nat} {L : ai_G} {T : Nat → Nat} {N : Nat → Int32} {lo hi : Int32} {w : Bool} (hT : TX I0 T n) (hq : q ≤ n) (ha : a < 256) (hf0 : f0 ≤ f) (hf : 2 * f + 1 ≤ q) (hf1 : f < 100) (h : CM I0 I q f 0 N) : wp (m_16_j73 43 lo hi (Rc 42) (Gc L) (nI a) (nI w.toNat) I) (fun r => match rdT T n lo hi a q w with
    | .inl e => CL I0 n f0 r.2 (.inl e)
    | .inr (v, x) => r.1 = v ∧ CL I0 n f0 r.2 (.inr (x, f + 1, va_up N f v))) := by
  unfold m_16_j73
  refine wp_b2 (wp_mono (c_17 hT hq h) ?_)
  rintro ⟨z, J⟩ ⟨g1, g2, g3⟩
  dsimp only at g1 g2 g3
  subst g1
  rw [if_pos rfl] at g3
  have hn := hT.2.1
  have put : ∀ v e K x, x ≤ n → CM I0 K x f e N → wp (m_16_j112 43 (Rc 42) (Gc L) v K) (fun r => r.1 = v ∧ CM I0 r.2 x (f + 1) e (va_up N f v)) := fun v e K x hx hK => by
    obtain ⟨h1, h2, h3, h4, h5, h6⟩ := hK
    unfold m_16_j112
    rw [h4, if_neg (nI_ge hf1 (by decide)), show Rc 42 43 7 = 47 from rfl, g_47 hf1, o_g_t, o_b1_s, i_cl (by omega), o_b1_s, wp_s]
    dsimp only
    refine ⟨rfl, fun c c1 c2 => by rw [up_ne c1, up_ne c2]; exact h1 c c1 c2, fun j j1 j2 j3 => by rw [up_eq, up_ne j3, up_ne (by decide)]; exact h2 j j1 j2 j3, by rw [up_eq, up_ne (by decide), up_ne (by decide)]; exact h3, by rw [up_eq, up_eq, up_ne (by decide), h4, i_add], by rw [up_eq, up_ne (by decide), up_ne (by decide)]; exact h5, fun k hk => ?_⟩
    rw [up_ne (by decide), up_eq]
    by_cases e : k = f
    · rw [e, up_eq, up_eq]
    · rw [up_ne e, up_ne e]
      exact h6 k (by omega)
  have tail : ∀ v e K x, x ≤ n → CM I0 K x f e N → wp (m_16_j92 43 lo hi (Rc 42) (Gc L) (nI a) K v) (fun r => r.1 = v ∧ CM I0 r.2 x (f + 1) (if e = 0 then (if lo ≤ v ∧ v ≤ hi then 0 else fa 3 a) else e) (va_up N f v)) := fun v e K x hx hK => by
    have far : ¬ (lo ≤ v ∧ v ≤ hi) → wp (m_16_j106 43 (Rc 42) (Gc L) (nI a) K v) (fun r => r.1 = v ∧ CM I0 r.2 x (f + 1) (if e = 0 then (if lo ≤ v ∧ v ≤ hi then 0 else fa 3 a) else e) (va_up N f v)) := fun hb => by
      unfold m_16_j106
      refine wp_b1 (wp_mono (c_5 hK) ?_)
      rintro M hM
      rw [if_neg hb]
      exact put _ _ _ _ hx hM
    unfold m_16_j92
    by_cases c1 : v < lo
    · rw [if_pos c1]
      exact far (fun hb => Int32.not_le.2 c1 hb.1)
    · rw [if_neg c1]
      by_cases c2 : v ≤ hi
      · rw [if_pos c2, if_pos (show lo ≤ v ∧ v ≤ hi from ⟨Int32.not_lt.1 c1, c2⟩)]
        have := put v e K x hx hK
        by_cases c3 : e = 0
        · rw [if_pos c3, ← c3]
          exact this
        · rw [if_neg c3]
          exact this
      · rw [if_neg c2]
        exact far (fun hb => c2 hb.2)
  have two : wp (if nI w.toNat = 0 then (m_16_j92 43 lo hi (Rc 42) (Gc L) (nI a) J (nI (dv T q (rnl (dgt T n) q 7)))) else (m_16_j92 43 lo hi (Rc 42) (Gc L) (nI a) J (-(nI (dv T q (rnl (dgt T n) q 7)))))) (fun r => r.1 = (if w = true then -nI (dv T q (rnl (dgt T n) q 7)) else nI (dv T q (rnl (dgt T n) q 7))) ∧ CM I0 r.2 (q + rnl (dgt T n) q 7) (f + 1) (if (if rnl (dgt T n) q 7 = 0 then fa 1 q else if dgt T n (q + rnl (dgt T n) q 7) = true then fa 2 (q + rnl (dgt T n) q 7) else 0) = 0 then (if lo ≤ (if w = true then -nI (dv T q (rnl (dgt T n) q 7)) else nI (dv T q (rnl (dgt T n) q 7))) ∧ (if w = true then -nI (dv T q (rnl (dgt T n) q 7)) else nI (dv T q (rnl (dgt T n) q 7))) ≤ hi then 0 else fa 3 a) else (if rnl (dgt T n) q 7 = 0 then fa 1 q else if dgt T n (q + rnl (dgt T n) q 7) = true then fa 2 (q + rnl (dgt T n) q 7) else 0)) (va_up N f (if w = true then -nI (dv T q (rnl (dgt T n) q 7)) else nI (dv T q (rnl (dgt T n) q 7))))) := by
    cases w with
    | false =>
      rw [if_pos (show nI false.toNat = 0 from rfl), if_neg (show ¬ false = true by decide)]
      exact tail _ _ _ _ g2 g3
    | true =>
      rw [if_neg (show ¬ nI (true.toNat) = 0 by decide), if_pos rfl]
      exact tail _ _ _ _ g2 g3
  refine wp_mono two ?_
  rintro ⟨z, K⟩ ⟨k1, k2⟩
  dsimp only at k1 k2
  unfold rdT
  generalize hz : (if w = true then -nI (dv T q (rnl (dgt T n) q 7)) else nI (dv T q (rnl (dgt T n) q 7))) = y at k1 k2 ⊢
  by_cases c : rnl (dgt T n) q 7 = 0
  · rw [if_pos c]
    rw [if_pos c, if_neg (fa_ne (by omega) (by decide) (by decide))] at k2
    exact CL_e (fa_ne (by omega) (by decide) (by decide)) g2 (by omega) (by omega) k2
  · rw [if_neg c]
    rw [if_neg c] at k2
    by_cases c2 : dgt T n (q + rnl (dgt T n) q 7) = true
    · rw [if_pos c2]
      rw [if_pos c2, if_neg (fa_ne (by omega) (by decide) (by decide))] at k2
      exact CL_e (fa_ne (by omega) (by decide) (by decide)) g2 (by omega) (by omega) k2
    · rw [if_neg c2]
      rw [if_neg c2, if_pos rfl] at k2
      by_cases c3 : lo ≤ y ∧ y ≤ hi
      · rw [if_pos c3]
        rw [if_pos c3] at k2
        exact ⟨k1, g2, by omega, by omega, k2⟩
      · rw [if_neg c3]
        rw [if_neg c3] at k2
        exact CL_e (fa_ne ha (by decide) (by decide)) g2 (by omega) (by omega) k2
theorem c_16 {I0 I : ai_I} {n f0 : Nat} {L : ai_G} {T : Nat → Nat} {lo hi : Int32} {s : RS} (hT : TX I0 T n) (h : CL I0 n f0 I s) : wp (m_16 43 lo hi I (Rc 42) (Gc L)) (fun r => CL I0 n f0 r.2 (rn T n lo hi s) ∧ ∀ x, rn T n lo hi s = .inr x → r.1 = lst (rn T n lo hi s)) := by
  have hT3 : ∀ k, k < n → T k < 256 := fun k hk => (hT.2.2 k hk).1
  have hn := hT.2.1
  cases s with
  | inl e =>
    obtain ⟨he, p, f, N, p1, p2, p3, hC⟩ := h
    have go : ∀ J, CM I0 J p f e N → wp (m_16_j18 43 lo hi (Rc 42) (Gc L) J) (fun r => CL I0 n f0 r.2 (rn T n lo hi (.inl e)) ∧ ∀ x, rn T n lo hi (.inl e) = .inr x → r.1 = lst (rn T n lo hi (.inl e))) := fun J hJ => by
      unfold m_16_j18
      rw [hJ.2.2.2.2.1, if_neg he, wp_s]
      exact ⟨⟨he, p, f, N, p1, p2, p3, hJ⟩, fun x hx => by cases hx⟩
    unfold m_16
    rw [c_6 hT p1 hC, o_b1_s]
    by_cases c : sgI T n p = nI 32
    · rw [if_pos c]
      exact go I hC
    · rw [if_neg c]
      refine wp_b1 (wp_mono (c_5 hC) ?_)
      rintro J hJ
      rw [if_neg he] at hJ
      exact go J hJ
  | inr s =>
    obtain ⟨p, f, N⟩ := s
    obtain ⟨p1, p2, p3, hC⟩ := h
    unfold m_16
    rw [c_6 hT p1 hC, o_b1_s]
    by_cases c : isA T n p 32 = true
    · have c' := (isA_i.1 c).1
      rw [if_pos ((sg_eq hT3 (by decide)).2 c)]
      unfold m_16_j18
      rw [hC.2.2.2.2.1, if_pos rfl, o_b1_s, hC.2.2.1, i_add]
      have hC1 := CM_p (q := p + 1) hC
      rw [hC1.2.2.1, o_b1_s, c_6 hT (by omega) hC1, o_b1_s]
      by_cases c2 : isA T n (p + 1) 45 = true
      · have c2' := (isA_i.1 c2).1
        have e : rdN T n lo hi p = rdT T n lo hi (p + 1) (p + 2) true := by
          unfold rdN
          rw [if_pos c, if_pos c2]
        rw [if_pos ((sg_eq hT3 (by decide)).2 c2)]
        unfold m_16_j56
        rw [if_neg (by decide), hC1.2.2.1, i_add, o_b1_s]
        refine wp_mono (c_16t (w := true) (f0 := f0) (T := T) hT (by omega) (by omega) p2 (by omega) (by omega) (CM_p hC1)) ?_
        rintro ⟨z, K⟩ hK
        show CL I0 n f0 K (match rdN T n lo hi p with | .inl e => .inl e | .inr (v, q) => .inr (q, f + 1, va_up N f v)) ∧ ∀ x, (match rdN T n lo hi p with | .inl e => .inl e | .inr (v, q) => .inr (q, f + 1, va_up N f v)) = Sum.inr x → z = lst (match rdN T n lo hi p with | .inl e => .inl e | .inr (v, q) => .inr (q, f + 1, va_up N f v))
        rw [e]
        revert hK
        cases rdT T n lo hi (p + 1) (p + 2) true with
        | inl e => exact fun hK => ⟨hK, fun x hx => by cases hx⟩
        | inr y => exact fun hK => ⟨hK.2, fun x hx => by
            show z = va_up N f y.1 (f + 1 - 1)
            rw [Nat.add_sub_cancel, up_eq]
            exact hK.1⟩
      · have e : rdN T n lo hi p = rdT T n lo hi (p + 1) (p + 1) false := by
          unfold rdN
          rw [if_pos c, if_neg c2]
        rw [if_neg (fun h => c2 ((sg_eq hT3 (by decide)).1 h))]
        unfold m_16_j56
        rw [if_pos (show nI 0 = 0 from rfl)]
        refine wp_mono (c_16t (w := false) (f0 := f0) (T := T) hT (by omega) (by omega) p2 (by omega) (by omega) hC1) ?_
        rintro ⟨z, K⟩ hK
        show CL I0 n f0 K (match rdN T n lo hi p with | .inl e => .inl e | .inr (v, q) => .inr (q, f + 1, va_up N f v)) ∧ ∀ x, (match rdN T n lo hi p with | .inl e => .inl e | .inr (v, q) => .inr (q, f + 1, va_up N f v)) = Sum.inr x → z = lst (match rdN T n lo hi p with | .inl e => .inl e | .inr (v, q) => .inr (q, f + 1, va_up N f v))
        rw [e]
        revert hK
        cases rdT T n lo hi (p + 1) (p + 1) false with
        | inl e => exact fun hK => ⟨hK, fun x hx => by cases hx⟩
        | inr y => exact fun hK => ⟨hK.2, fun x hx => by
            show z = va_up N f y.1 (f + 1 - 1)
            rw [Nat.add_sub_cancel, up_eq]
            exact hK.1⟩
    · have e : rdN T n lo hi p = .inl (fa 1 p) := by
        unfold rdN
        rw [if_neg c]
      rw [if_neg (fun h => c ((sg_eq hT3 (by decide)).1 h)), hC.2.2.1]
      refine wp_b1 (wp_mono (c_5 hC) ?_)
      rintro J hJ
      rw [if_pos rfl] at hJ
      change CM I0 J p f (fa 1 p) N at hJ
      have hne := fa_ne (c := 1) (p := p) (by omega) (by decide) (by decide)
      unfold m_16_j18
      rw [hJ.2.2.2.2.1, if_neg hne, wp_s]
      show CL I0 n f0 J (match rdN T n lo hi p with | .inl e => .inl e | .inr (v, q) => .inr (q, f + 1, va_up N f v)) ∧ ∀ x, (match rdN T n lo hi p with | .inl e => .inl e | .inr (v, q) => .inr (q, f + 1, va_up N f v)) = Sum.inr x → nI 0 = lst (match rdN T n lo hi p with | .inl e => .inl e | .inr (v, q) => .inr (q, f + 1, va_up N f v))
      rw [e]
      exact ⟨CL_e hne p1 p2 (by omega) hJ, fun x hx => by cases hx⟩
