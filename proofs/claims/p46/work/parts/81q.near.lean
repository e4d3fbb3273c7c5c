/-! The law's own greedy ways. -/
section
variable {I J : ai_I} {t s v p : Nat} {L : ai_G} {A : SV} {V P : Nat → Int32} {n r : Nat}
theorem k_sum {x : Nat} {γ : Type} {F : Int32 → Option γ} {Q : γ → Prop} (hv : ary L v 256) (hp : ary L p 8) (hV : HV I v V) (hP : ∀ e, e < 8 → I p e = P e) (hx : x < 256) (h : wp (F (prs P x)) Q) : wp (o_g (o_in (Gc L) 13 v (nI x)) (o_b1 (m_124 p (nI x) I (Gc L)) F)) Q := by
  rw [ay_in hv hx (by decide), o_g_t, k_prs hp hP hx, o_b1_s]
  exact h
theorem nb_s (hW : WF n r V) {c x : Nat} (hc : c ∈ BL V) (hx : x ∈ BL V) : nb c x ↔ pc (sd x c) = 1 := by
  have c2 := BL_mem.1 hc
  have x2 := BL_mem.1 hx
  have c3 := (hW.2.2.2.2.1 c c2.1 c2.2).2.1
  have x3 := (hW.2.2.2.2.1 x x2.1 x2.2).2.1
  have h1 := pc_split c x
  have h2 := pc_split x c
  rw [Nat.and_comm x c] at h2
  constructor
  · intro h
    have := h.2
    omega
  · intro h
    refine ⟨fun h9 => ?_, by omega⟩
    subst h9
    have h3 : sd c c = 0 := by
      unfold sd
      rw [Nat.and_self, Nat.xor_self]
    rw [h3] at h
    exact absurd h (by decide)
/-- the neighbour found among m .. 255 -/
def NF (V S : Nat → Int32) (c m : Nat) (q : Int32) : Prop := (q = -1 ∧ ∀ x, m ≤ x → x ∈ BL V → nb c x → S x ≤ S c) ∨ ∃ d, m ≤ d ∧ d < 256 ∧ q = nI d ∧ d ∈ BL V ∧ nb c d ∧ S c < S d ∧ ∀ x, m ≤ x → x ∈ BL V → nb c x → S x ≤ S d ∧ (x < d → S x < S d)
theorem NF_skip {S : Nat → Int32} {c m : Nat} {q : Int32} (h : NF V S c (m + 1) q) (hm : m ∈ BL V → nb c m → S m ≤ S c) : NF V S c m q := by
  rcases h with ⟨h1, h2⟩ | ⟨d, h1, h2, h3, h4, h5, h6, h7⟩
  · refine Or.inl ⟨h1, fun x hx hb hn => ?_⟩
    by_cases e : x = m
    · rw [e] at hb hn ⊢
      exact hm hb hn
    · exact h2 x (by omega) hb hn
  · refine Or.inr ⟨d, by omega, h2, h3, h4, h5, h6, fun x hx hb hn => ?_⟩
    by_cases e : x = m
    · rw [e] at hb hn ⊢
      have h8 := Int32.lt_of_le_of_lt (hm hb hn) h6
      exact ⟨Int32.le_of_lt h8, fun _ => h8⟩
    · exact h7 x (by omega) hb hn
theorem k_near {c : Nat} (hW : WF n r V) (hv : ary L v 256) (hp : ary L p 8) (hV : HV I v V) (hP : ∀ e, e < 8 → I p e = P e) (hc : c ∈ BL V) : wp (lp (fun s => m_129_b212 v p (Gc L) I (nI c) s.1 s.2) o_N ((-1 : Int32), nI 255)) (fun q => NF V (smv V P) c 0 q) := by
  have hc2 := (BL_mem.1 hc).1
  refine wp_lpd (fun m s => s.2 = nI m - nI 1 ∧ NF V (smv V P) c m s.1) 0 256 (by decide) (by decide) ⟨rfl, Or.inl ⟨rfl, fun x hx hb _ => by have := (BL_mem.1 hb).1; omega⟩⟩ ?_ ?_
  · rintro m ⟨q, y⟩ - hm ⟨g1, g2⟩
    dsimp only at g1 g2
    subst g1
    rw [i_sub (by omega), Nat.add_sub_cancel]
    have es : nI m + (-1 : Int32) = nI m - nI 1 := (Int32.sub_eq_add_neg _ _).symm
    unfold m_129_b212
    dsimp only
    rw [q_n0 (by omega), k_isB hv hV hm, o_b1_s, q_bz]
    -- it stays as it is
    have no : (m ∈ BL V → nb c m → smv V P m ≤ smv V P c) → wp (m_129_j244 v p (Gc L) I (nI c) q (nI m)) (lq (fun s : Int32 × Int32 => s.2 = nI m - nI 1 ∧ NF V (smv V P) c m s.1) (fun q => NF V (smv V P) c 0 q)) := fun hno => by
      unfold m_129_j244 m_129_j245
      rw [q_00, es, o_b1_s, wp_s, lq_l]
      exact ⟨rfl, NF_skip g2 hno⟩
    by_cases c1 : V m ≠ NO
    · have hmB : m ∈ BL V := BL_mem.2 ⟨hm, c1⟩
      have hsd := sd_lt (b := c) hm
      rw [if_pos c1, i_sd, s_331 hsd, o_b1_s]
      have hpc := pc_le (sd m c)
      rw [q_eq (by omega) (by decide)]
      by_cases c2 : pc (sd m c) = 1
      · rw [if_pos c2]
        have hnb := (nb_s hW hc hmB).2 c2
        unfold m_129_j245
        rw [q_10]
        refine k_sum hv hp hV hP hm (k_sum hv hp hV hP hc2 ?_)
        rw [i_cl (by omega), i_cl (by omega), hV m hm, hV c hc2]
        show wp (if smv V P m ≤ smv V P c then _ else _) _
        by_cases c3 : smv V P m ≤ smv V P c
        · rw [if_pos c3, es, o_b1_s, wp_s, lq_l]
          exact ⟨rfl, NF_skip g2 (fun _ _ => c3)⟩
        · have c4 := Int32.not_le.1 c3
          rw [if_neg c3]
          rcases g2 with ⟨h1, h2⟩ | ⟨d, h1, h2, h3, h4, h5, h6, h7⟩
          · rw [h1, if_pos (by decide), es, o_b1_s, wp_s, lq_l]
            refine ⟨rfl, Or.inr ⟨m, Nat.le_refl _, hm, rfl, hmB, hnb, c4, fun x hx hb hn => ?_⟩⟩
            by_cases e : x = m
            · rw [e]
              exact ⟨Int32.le_refl _, fun h9 => absurd h9 (Nat.lt_irrefl _)⟩
            · exact ⟨Int32.le_of_lt (Int32.lt_of_le_of_lt (h2 x (by omega) hb hn) c4), fun h9 => by omega⟩
          · subst h3
            rw [q_n0 (by omega)]
            refine k_sum hv hp hV hP hm (k_sum hv hp hV hP h2 ?_)
            rw [i_cl (by omega), hV d h2]
            show wp (if smv V P m < smv V P d then _ else _) _
            by_cases c5 : smv V P m < smv V P d
            · rw [if_pos c5, es, o_b1_s, wp_s, lq_l]
              refine ⟨rfl, Or.inr ⟨d, by omega, h2, rfl, h4, h5, h6, fun x hx hb hn => ?_⟩⟩
              by_cases e : x = m
              · rw [e]
                exact ⟨Int32.le_of_lt c5, fun _ => c5⟩
              · exact h7 x (by omega) hb hn
            · have c6 := Int32.not_lt.1 c5
              rw [if_neg c5, es, o_b1_s, wp_s, lq_l]
              refine ⟨rfl, Or.inr ⟨m, Nat.le_refl _, hm, rfl, hmB, hnb, c4, fun x hx hb hn => ?_⟩⟩
              by_cases e : x = m
              · rw [e]
                exact ⟨Int32.le_refl _, fun h9 => absurd h9 (Nat.lt_irrefl _)⟩
              · exact ⟨Int32.le_trans (h7 x (by omega) hb hn).1 c6, fun h9 => by omega⟩
      · rw [if_neg c2]
        exact no (fun hb hn => absurd ((nb_s hW hc hb).1 hn) c2)
    · rw [if_neg c1]
      exact no (fun hb _ => absurd (BL_mem.1 hb).2 c1)
  · rintro ⟨q, y⟩ ⟨g1, g2⟩
    dsimp only at g1 g2
    subst g1
    unfold m_129_b212
    dsimp only
    rw [if_pos (by decide), wp_s, lq_r]
    exact g2
theorem NF_NX {S : Nat → Int32} {c : Nat} {q : Int32} (h : NF V S c 0 q) : (q = -1 ∧ NX V S c none) ∨ ∃ d, d ∈ BL V ∧ q = nI d ∧ NX V S c (some d) := by
  rcases h with ⟨h1, h2⟩ | ⟨d, h1, h2, h3, h4, h5, h6, h7⟩
  · exact Or.inl ⟨h1, fun x hx hn => h2 x (Nat.zero_le _) hx hn⟩
  · exact Or.inr ⟨d, h4, h3, h4, h5, h6, fun x hx hn => h7 x (Nat.zero_le _) hx hn⟩
theorem grd_end {S : Nat → Int32} : ∀ (g a b : Nat), grd V S g a b → NX V S b none
  | 0, a, b, h => h.1 ▸ h.2
  | g + 1, a, b, ⟨c, _, h2⟩ => grd_end g c b h2
/-- a way, walked by the law -/
theorem k_walk {a b g : Nat} (hW : WF n r V) (hv : ary L v 256) (hp : ary L p 8) (hV : HV I v V) (hP : ∀ e, e < 8 → I p e = P e) (ha : a ∈ BL V) (hg : grd V (smv V P) g a b) (hg2 : g < 256) : wp (lp (fun s => m_129_b192 v p (Gc L) I s.1 s.2.1 s.2.2) o_N (nI a, (-1 : Int32), nI a)) (fun q => q = (nI b, nI g)) := by
  refine wp_lp (fun i s => s.2.1 = nI i - nI 1 ∧ ((i ≤ g ∧ ∃ c, s.2.2 = nI c ∧ c ∈ BL V ∧ grd V (smv V P) (g - i) c b) ∨ (i = g + 1 ∧ s.1 = nI b ∧ s.2.2 = -1))) 0 (g + 1) (Nat.zero_le _) (by omega) ⟨rfl, Or.inl ⟨Nat.zero_le _, a, rfl, ha, hg⟩⟩ ?_ ?_
  · rintro i ⟨x, y, z⟩ hi ⟨g1, g2⟩
    dsimp only at g1 g2
    subst g1
    rcases g2 with ⟨h1, c, h2, h3, h4⟩ | ⟨h1, -⟩
    · subst h2
      have hc2 := (BL_mem.1 h3).1
      have ew : nI i - nI 1 + nI 1 = nI (i + 1) - nI 1 := by
        rw [i_sub (show 1 ≤ i + 1 by omega), Nat.add_sub_cancel]
        exact Int32.sub_add_cancel _ _
      unfold m_129_b192
      dsimp only
      rw [q_n0 (by omega), o_b1_s, ew]
      refine wp_s1 (wp_mono (k_near hW hv hp hV hP h3) ?_)
      intro q hq
      unfold m_129_x212_322
      rw [wp_s, lq_l]
      refine ⟨rfl, ?_⟩
      dsimp only
      by_cases e : i = g
      · rw [e, Nat.sub_self] at h4
        obtain ⟨h5, h6⟩ := h4
        rcases NF_NX hq with ⟨q1, q2⟩ | ⟨d, q0, q1, q2⟩
        · exact Or.inr ⟨by omega, by rw [h5], q1⟩
        · cases NX_one h6 q2
      · obtain ⟨m, hm⟩ : ∃ m, g - i = m + 1 := ⟨g - i - 1, by omega⟩
        rw [hm] at h4
        obtain ⟨d', h5, h6⟩ := h4
        rcases NF_NX hq with ⟨q1, q2⟩ | ⟨d, q0, q1, q2⟩
        · cases NX_one q2 h5
        · obtain rfl : d' = d := Option.some.inj (NX_one h5 q2)
          exact Or.inl ⟨by omega, d', q1, q0, by rw [show g - (i + 1) = m by omega]; exact h6⟩
    · omega
  · rintro ⟨x, y, z⟩ ⟨g1, g2⟩
    dsimp only at g1 g2
    subst g1
    rcases g2 with ⟨h1, -⟩ | ⟨h1, h2, h3⟩
    · omega
    · subst h2
      subst h3
      unfold m_129_b192
      dsimp only
      rw [if_pos (by decide), wp_s, lq_r, i_sub (by omega), Nat.add_sub_cancel]
end
