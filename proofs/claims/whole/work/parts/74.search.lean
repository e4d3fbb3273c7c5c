/-! Rows of the class: the search. -/
def EN (n r v w : Nat) (V W : Nat → Int32) (I : ai_I) (J : ai_J) : Prop := (v ∈ VC ∧ w ∈ VC ∧ v < 40 ∧ w < 40) ∧ (WF n r V ∧ WF n r W) ∧ (CS I v n r V ∧ CS I w n r W) ∧ ∀ e, e < n → J 71 e = mk V e 256 ∧ J 72 e = mk W e 256
theorem EN_fr {n r v w : Nat} {V W : Nat → Int32} {I K : ai_I} {J : ai_J} (h : EN n r v w V W I J) (e : ∀ c, c < 43 → K c = I c) : EN n r v w V W K J := by
  obtain ⟨⟨h1, h2, h3, h4⟩, h5, ⟨h6, h7⟩, h8⟩ := h
  exact ⟨⟨h1, h2, h3, h4⟩, h5, ⟨CS_cong (fun _ _ => rfl) (e _ (by omega)) (e _ (by omega)) (e _ (by omega)) (e _ (by omega)) h6, CS_cong (fun _ _ => rfl) (e _ (by omega)) (e _ (by omega)) (e _ (by omega)) (e _ (by omega)) h7⟩, h8⟩
def GPx (n : Nat) (V W : Nat → Int32) (σ : Nat → Nat) (a : Nat) : Prop := (∀ i, i < a → σ i < n) ∧ (∀ i j, i < a → j < a → σ i = σ j → i = j) ∧ ∀ i, i < a → okk V W σ i
def SG (I : ai_I) (σ : Nat → Nat) (a : Nat) : Prop := RWr I σ a ∧ IMg I σ a
theorem SG_dn {I : ai_I} {σ τ : Nat → Nat} {a b : Nat} (h : SG I σ a) (hb : b ≤ a) (e : ∀ i, i < b → σ i = τ i) : SG I τ b := ⟨fun i hi => by rw [h.1 i (by omega), e i hi], fun S h0 hS => by
  have h1 := h.2 S h0 (Nat.lt_of_lt_of_le hS (Nat.pow_le_pow_right (by decide) hb))
  have h2 := im_up (σ := σ) hS (a - b)
  rw [show b + (a - b) = a by omega] at h2
  rw [h1, h2, im_cong b e]⟩
def fc (from' a : Nat) (σ : Nat → Nat) : Int32 × Int32 := if a = from' then (nI from' + (-1 : Int32), nI 0) else (nI (a - 1), nI (σ (a - 1) + 1))
def usd (σ : Nat → Nat) (a e : Nat) : Prop := ∃ k, k < a ∧ σ k = e
theorem dn_lt {a : Nat} (ha : a ≤ 8) : nI a + (-1 : Int32) < nI a := (by decide : ∀ a, a ≤ 8 → nI a + (-1 : Int32) < nI a) a ha
theorem turn {n r v w a l tt from' : Nat} {V W : Nat → Int32} {I : ai_I} {J : ai_J} {t L : Nat} {σ : Nat → Nat} (hE : EN n r v w V W I J) (hfa : from' ≤ a) (ha : a < n) (hl : l ≤ n) (ht : tt < 1000000) (hS : SG I σ a) (hG : GPx n V W σ a) : ∃ s' K, m_62_b9 67 v w (nI from') J (Rc t) (Gc L) (nI a) (nI l) (nI tt) I = some (Sum.inl s') ∧ ot2 I K 69 70 ∧ (((∀ e, l ≤ e → e < n → usd σ a e) ∧ s' = ((fc from' a σ).1, (fc from' a σ).2, nI (tt + 1), K) ∧ SG K σ a) ∨ ∃ x, l ≤ x ∧ x < n ∧ ¬ usd σ a x ∧ (∀ e, l ≤ e → e < x → usd σ a e) ∧ (s' = (nI (a + 1), nI 0, nI (tt + 1), K) ∧ SG K (va_up σ a x) (a + 1) ∧ okk V W (va_up σ a x) a ∨ s' = (nI a, nI (x + 1), nI (tt + 1), K) ∧ SG K σ a ∧ ¬ okk V W (va_up σ a x) a)) := by
  have hE2 := hE
  obtain ⟨⟨hv, hw, hv4, hw4⟩, ⟨hV, hW⟩, ⟨hC, hC2⟩, hJ⟩ := hE
  have hn := hV.2.1
  obtain ⟨q, q1, x, rfl, x1, x2, x3, x4⟩ := c_63 (t := t) (L := L) (I := I) (σ := σ) (a := a) (l := l) (n := n) (by omega) hn hl (fun i hi => by have := hG.1 i hi; omega) hS.1
  unfold m_62_b9
  rw [if_neg (nI_ge ht (by decide)), if_neg (show ¬ nI a < nI from' by rw [i_lt (by omega) (by omega)]; omega), v_kd hv, o_g_t, hC.1, if_neg (nI_ge ha (by omega)), q1, o_b1_s, r_67_1, g_69 (by omega), o_g_t, o_b1_s, o_g_t, i_cl (by omega)]
  generalize hM : va_up I 69 (va_up (I 69) a (nI x)) = M
  have m1 : M 69 a = nI x := by rw [← hM, up_eq, up_eq]
  have m2 : M v 0 = nI n := by rw [← hM, up_ne (by omega), hC.1]
  have m3 : ∀ i, i < a → M 69 i = nI (σ i) := fun i hi => by rw [← hM, up_eq, up_ne (by omega)]; exact hS.1 i hi
  have m4 : ∀ c, ¬ c = 69 → M c = I c := fun c hc => by rw [← hM, up_ne hc]
  have m5 : ot2 I M 69 70 := fun c h1 _ => m4 c h1
  have m6 : SG M σ a := ⟨m3, fun S h0 hS' => by rw [m4 70 (by decide)]; exact hS.2 S h0 hS'⟩
  rw [m1, m2]
  by_cases c : x = n
  · subst c
    rw [if_pos rfl, o_b1_s]
    by_cases e : a = from'
    · subst e
      rw [if_pos (dn_lt (by omega)), i_add, o_b1_s]
      refine ⟨_, M, rfl, m5, Or.inl ⟨x3, ?_, m6⟩⟩
      unfold fc
      rw [if_pos rfl]
    · obtain ⟨p, rfl⟩ : ∃ p, a = p + 1 := ⟨a - 1, by omega⟩
      have hsp := hG.1 p (by omega)
      rw [i_dec, if_neg (show ¬ nI p < nI from' by rw [i_lt (by omega) (by omega)]; omega), g_69 (by omega), o_g_t, i_cl (by omega), m3 p (by omega), i_add, o_b1_s, i_add, o_b1_s]
      refine ⟨_, M, rfl, m5, Or.inl ⟨x3, ?_, m6⟩⟩
      unfold fc
      rw [if_neg e]
      rfl
  · have hx : x < n := by omega
    have hE3 := EN_fr hE2 (fun c hc => m4 c (by omega))
    rw [if_neg (show ¬ nI x = nI n by rw [i_eq (by omega) (by omega)]; exact c)]
    have u1 : ∀ i, i < a → va_up σ a x i = σ i := fun i hi => up_ne (by omega)
    have u2 : va_up σ a x a = x := up_eq
    obtain ⟨y, y1, y2, y3, y4⟩ := c_65 (t := t) (L := L) (I := M) (J := J) (n := n) (r := r) (a := a) (V := V) (W := W) (σ := va_up σ a x) hv hw hv4 hw4 hn hE3.2.2.1.1 hE3.2.2.1.2 ha (fun i hi => by
      by_cases e : i = a
      · rw [e, u2]
        exact hx
      · rw [u1 i (by omega)]
        exact hG.1 i (by omega)) (fun i hi => by
      by_cases e : i = a
      · rw [e, u2]
        exact m1
      · rw [u1 i (by omega)]
        exact m3 i (by omega)) (fun S h0 hS' => by rw [m6.2 S h0 hS', im_cong a (fun i hi => (u1 i hi).symm)]) hJ
    have f1 : ot2 I y.2 69 70 := fun c h1 h2 => (y2 c h2).trans (m5 c h1 h2)
    have yr : ∀ i, y.2 69 i = M 69 i := fun i => by rw [y2 69 (by decide)]
    rw [y1, o_b2]
    rcases y4 with ⟨z1, z2, z3⟩ | ⟨z1, z2⟩
    · rw [z1, q_10, i_add, o_b1_s, i_add, o_b1_s]
      refine ⟨_, y.2, rfl, f1, Or.inr ⟨x, x1, hx, x4 hx, x3, Or.inl ⟨rfl, ⟨fun i hi => ?_, z3⟩, z2⟩⟩⟩
      rw [yr i]
      by_cases e : i = a
      · rw [e, u2]
        exact m1
      · rw [u1 i (by omega)]
        exact m3 i (by omega)
    · rw [z1, q_00, yr a, m1, i_add, o_b1_s, i_add, o_b1_s]
      refine ⟨_, y.2, rfl, f1, Or.inr ⟨x, x1, hx, x4 hx, x3, Or.inr ⟨rfl, ⟨fun i hi => ?_, fun S h0 hS' => ?_⟩, z2⟩⟩⟩
      · rw [yr i]
        exact m3 i hi
      · rw [y3 S h0 hS', im_cong a u1]
/-- how many elements are left -/
noncomputable def unu (n : Nat) (σ : Nat → Nat) (a l : Nat) : Nat := fln (cl (fun e => l ≤ e ∧ ¬ usd σ a e)) n
theorem unu_dec {n a l x : Nat} {σ : Nat → Nat} (h1 : l ≤ x) (h2 : x < n) (h3 : ¬ usd σ a x) (h4 : ∀ e, l ≤ e → e < x → usd σ a e) : unu n σ a l = unu n σ a (x + 1) + 1 := by
  unfold unu fln
  refine cnt_one (b := x) List.pairwise_lt_range (List.mem_range.2 h2) (cl_f (fun h => absurd h.1 (by omega))) (cl_t ⟨h1, h3⟩) (fun y _ hy => ?_)
  rw [Bool.eq_iff_iff, cl_iff, cl_iff]
  constructor
  · rintro ⟨g1, g2⟩
    exact ⟨by omega, g2⟩
  · rintro ⟨g1, g2⟩
    refine ⟨?_, g2⟩
    by_cases c : y < x
    · exact absurd (h4 y g1 c) g2
    · omega
theorem fln_all : ∀ k, fln (fun _ => true) k = k
  | 0 => rfl
  | k + 1 => by rw [fq_t rfl, fln_all k]
theorem unu_0 {n a : Nat} {V W : Nat → Int32} {σ : Nat → Nat} (h : GPx n V W σ a) : unu n σ a 0 ≤ n - a := by
  have h1 : fln (fun _ => true) n = fln (cl (fun e => 0 ≤ e ∧ ¬ usd σ a e)) n + fln (cl (usd σ a)) n := fln_or n (fun c _ => by
    by_cases e : usd σ a c
    · rw [cl_t e, Bool.or_true]
    · rw [cl_t (p := fun e => 0 ≤ e ∧ ¬ usd σ a e) ⟨Nat.zero_le _, e⟩, Bool.true_or]) (fun c _ h2 => cl_f (cl_iff.1 h2).2)
  have h2 : fln (fun _ => true) a ≤ fln (cl (usd σ a)) n := fln_inj σ (fun c hc _ => ⟨h.1 c hc, cl_t ⟨c, hc, rfl⟩⟩) (fun c d hc hd _ _ e => h.2.1 c d hc hd e)
  rw [fln_all] at h1 h2
  unfold unu
  omega
def TT : Nat → Nat
  | 0 => 0
  | d + 1 => 1 + (d + 1) * (1 + TT d)
def cos : Nat → Nat → Nat
  | 0, _ => 0
  | d + 1, c => 1 + c * (1 + TT d)
theorem cos_TT : ∀ d, cos d d = TT d
  | 0 => rfl
  | _ + 1 => rfl
def Los (n : Nat) (V W : Nat → Int32) (σ : Nat → Nat) (a l : Nat) : Prop := ∀ ρ, Sol n V W ρ → ag σ a ρ → (a < n → l ≤ ρ a) → False
def Win (n : Nat) (V W : Nat → Int32) (σ : Nat → Nat) (a l : Nat) (τ : Nat → Nat) : Prop := Sol n V W τ ∧ ag σ a τ ∧ (a < n → l ≤ τ a) ∧ ∀ ρ, Sol n V W ρ → ag σ a ρ → (a < n → l ≤ ρ a) → cd τ ≤ cd ρ
theorem usd_no {n a : Nat} {V W : Nat → Int32} {σ ρ : Nat → Nat} (ha : a < 8) (h : Sol n V W ρ) (h2 : ag σ a ρ) : ¬ usd σ a (ρ a) := fun ⟨k, h3, h4⟩ => by
  rw [← h2 k h3] at h4
  have := h.1.2.1 k a (by omega) ha h4
  omega
theorem ag_up {σ ρ : Nat → Nat} {a x : Nat} (h : ag σ a ρ) (e : ρ a = x) : ag (va_up σ a x) (a + 1) ρ := fun i hi => by
  by_cases c : i = a
  · rw [c, up_eq, e]
  · rw [up_ne c]
    exact h i (by omega)
theorem BS {n r v w from' : Nat} {V W : Nat → Int32} {J : ai_J} {t L : Nat} : ∀ d a, a + d = n → from' ≤ a → ∀ c l tt σ I, l ≤ n → unu n σ a l ≤ c → EN n r v w V W I J → SG I σ a → GPx n V W σ a → tt + cos d c ≤ 1000000 → ∃ k s' K, k ≤ cos d c ∧ (∀ f, lp (fun s => m_62_b9 67 v w (nI from') J (Rc t) (Gc L) s.1 s.2.1 s.2.2.1 s.2.2.2) (f + k) (nI a, nI l, nI tt, I) = lp (fun s => m_62_b9 67 v w (nI from') J (Rc t) (Gc L) s.1 s.2.1 s.2.2.1 s.2.2.2) f s') ∧ ot2 I K 69 70 ∧ ((∃ τ z, s' = (nI n, z, nI (tt + k), K) ∧ Win n V W σ a l τ ∧ SG K τ n) ∨ s' = ((fc from' a σ).1, (fc from' a σ).2, nI (tt + k), K) ∧ SG K σ a ∧ Los n V W σ a l)
  | 0, a, had, hfa => by
    intro c l tt σ I hl hc hE hS hG ht
    obtain rfl : a = n := by omega
    have hn := hE.2.1.1.2.1
    have hsol := okk_Sol hE.2.1.1 hE.2.1.2 hG.1 hG.2.1 hG.2.2
    have he : ∀ i, i < a → ext a σ i = σ i := fun i hi => if_pos hi
    refine ⟨0, (nI a, nI l, nI tt, I), I, Nat.zero_le _, fun f => rfl, fun _ _ _ => rfl, Or.inl ⟨ext a σ, nI l, rfl, ⟨hsol, he, fun h => absurd h (Nat.lt_irrefl _), fun ρ h1 h2 _ => ?_⟩, SG_dn hS (Nat.le_refl _) (fun i hi => (he i hi).symm)⟩⟩
    refine Nat.le_of_eq (cdk_cong 8 (fun i hi => ?_))
    by_cases c1 : i < a
    · rw [he i c1, h2 i c1]
    · rw [hsol.1.2.2 i (by omega) hi, h1.1.2.2 i (by omega) hi]
  | d + 1, a, had, hfa => by
    intro c
    induction c with
    | zero =>
      intro l tt σ I hl hc hE hS hG ht
      have hn := hE.2.1.1.2.1
      have hcc : cos (d + 1) 0 = 1 := by show 1 + 0 * _ = 1; omega
      obtain ⟨s', K, e1, e2, e3⟩ := turn (t := t) (L := L) hE hfa (show a < n by omega) hl (show tt < 1000000 by omega) hS hG
      rcases e3 with ⟨y1, y2, y3⟩ | ⟨x, y1, y2, y3, y4, y5⟩
      · refine ⟨1, s', K, by omega, fun f => lp_in e1, e2, Or.inr ⟨y2, y3, fun ρ h1 h2 h3 => usd_no (by omega) h1 h2 (y1 _ (h3 (by omega)) (PM_lt h1.1 hn (by omega)))⟩⟩
      · rw [unu_dec y1 y2 y3 y4] at hc
        omega
    | succ c ihc =>
      intro l tt σ I hl hc hE hS hG ht
      have hn := hE.2.1.1.2.1
      have hcc : cos (d + 1) (c + 1) = cos (d + 1) c + (1 + TT d) := by
        show 1 + (c + 1) * _ = 1 + c * _ + _
        rw [Nat.add_mul]
        omega
      have hc1 : 1 ≤ cos (d + 1) c := Nat.le_add_right _ _
      obtain ⟨s', K, e1, e2, e3⟩ := turn (t := t) (L := L) hE hfa (show a < n by omega) hl (show tt < 1000000 by omega) hS hG
      rcases e3 with ⟨y1, y2, y3⟩ | ⟨x, y1, y2, y3, y4, y5⟩
      · refine ⟨1, s', K, by omega, fun f => lp_in e1, e2, Or.inr ⟨y2, y3, fun ρ h1 h2 h3 => usd_no (by omega) h1 h2 (y1 _ (h3 (by omega)) (PM_lt h1.1 hn (by omega)))⟩⟩
      · have hc2 : unu n σ a (x + 1) ≤ c := by
          rw [unu_dec y1 y2 y3 y4] at hc
          omega
        have hEK := EN_fr hE (fun c hc => e2 c (by omega) (by omega))
        have ge : ∀ ρ, Sol n V W ρ → ag σ a ρ → (a < n → l ≤ ρ a) → x ≤ ρ a := fun ρ h1 h2 h3 => Nat.le_of_not_lt (fun h4 => usd_no (by omega) h1 h2 (y4 _ (h3 (by omega)) h4))
        -- going on at a with what comes behind x
        have more : ∀ (k1 : Nat) (M : ai_I), k1 ≤ TT d → ot2 I M 69 70 → SG M σ a → (∀ ρ, Sol n V W ρ → ag σ a ρ → ¬ ρ a = x) → (∀ f, lp (fun s => m_62_b9 67 v w (nI from') J (Rc t) (Gc L) s.1 s.2.1 s.2.2.1 s.2.2.2) (f + (1 + k1)) (nI a, nI l, nI tt, I) = lp (fun s => m_62_b9 67 v w (nI from') J (Rc t) (Gc L) s.1 s.2.1 s.2.2.1 s.2.2.2) f (nI a, nI (x + 1), nI (tt + (1 + k1)), M)) → ∃ k s' K, k ≤ cos (d + 1) (c + 1) ∧ (∀ f, lp (fun s => m_62_b9 67 v w (nI from') J (Rc t) (Gc L) s.1 s.2.1 s.2.2.1 s.2.2.2) (f + k) (nI a, nI l, nI tt, I) = lp (fun s => m_62_b9 67 v w (nI from') J (Rc t) (Gc L) s.1 s.2.1 s.2.2.1 s.2.2.2) f s') ∧ ot2 I K 69 70 ∧ ((∃ τ z, s' = (nI n, z, nI (tt + k), K) ∧ Win n V W σ a l τ ∧ SG K τ n) ∨ s' = ((fc from' a σ).1, (fc from' a σ).2, nI (tt + k), K) ∧ SG K σ a ∧ Los n V W σ a l) := by
          intro k1 M g1 g2 g3 g4 g5
          obtain ⟨k2, s2, K2, f1, f2, f3, f4⟩ := ihc (x + 1) (tt + (1 + k1)) σ M (by omega) hc2 (EN_fr hE (fun c hc => g2 c (by omega) (by omega))) g3 hG (by omega)
          refine ⟨1 + k1 + k2, s2, K2, by omega, fun f => ?_, ot2_tr g2 f3, ?_⟩
          · rw [show f + (1 + k1 + k2) = (f + k2) + (1 + k1) by omega, g5, f2]
          · rw [show tt + (1 + k1 + k2) = tt + (1 + k1) + k2 by omega]
            rcases f4 with ⟨τ, z, z1, z2, z3⟩ | ⟨z1, z2, z3⟩
            · refine Or.inl ⟨τ, z, z1, ⟨z2.1, z2.2.1, fun h => by have := z2.2.2.1 h; omega, fun ρ h1 h2 h3 => z2.2.2.2 ρ h1 h2 (fun _ => ?_)⟩, z3⟩
              have := ge ρ h1 h2 h3
              have := g4 ρ h1 h2
              omega
            · refine Or.inr ⟨z1, z2, fun ρ h1 h2 h3 => z3 ρ h1 h2 (fun _ => ?_)⟩
              have := ge ρ h1 h2 h3
              have := g4 ρ h1 h2
              omega
        rcases y5 with ⟨y5, y6, y7⟩ | ⟨y5, y6, y7⟩
        · have hG2 : GPx n V W (va_up σ a x) (a + 1) := by
            refine ⟨fun i hi => ?_, fun i j hi hj e => ?_, fun i hi => ?_⟩
            · by_cases c1 : i = a
              · rw [c1, up_eq]
                exact y2
              · rw [up_ne c1]
                exact hG.1 i (by omega)
            · by_cases c1 : i = a
              · by_cases c2 : j = a
                · omega
                · rw [c1, up_eq, up_ne c2] at e
                  exact absurd ⟨j, by omega, e.symm⟩ y3
              · by_cases c2 : j = a
                · rw [c2, up_eq, up_ne c1] at e
                  exact absurd ⟨i, by omega, e⟩ y3
                · rw [up_ne c1, up_ne c2] at e
                  exact hG.2.1 i j (by omega) (by omega) e
            · by_cases c1 : i = a
              · rw [c1]
                exact y7
              · exact okk_cong (fun j hj => (up_ne (by omega)).symm) (hG.2.2 i (by omega))
          have hu := unu_0 hG2
          rw [show n - (a + 1) = d by omega] at hu
          obtain ⟨k1, s1, K1, f1, f2, f3, f4⟩ := BS (from' := from') (t := t) (L := L) d (a + 1) (by omega) (by omega) d 0 (tt + 1) (va_up σ a x) K (Nat.zero_le _) hu hEK y6 hG2 (by rw [cos_TT]; omega)
          rw [cos_TT] at f1
          have go : ∀ f, lp (fun s => m_62_b9 67 v w (nI from') J (Rc t) (Gc L) s.1 s.2.1 s.2.2.1 s.2.2.2) (f + (1 + k1)) (nI a, nI l, nI tt, I) = lp (fun s => m_62_b9 67 v w (nI from') J (Rc t) (Gc L) s.1 s.2.1 s.2.2.1 s.2.2.2) f s1 := fun f => by
            rw [show f + (1 + k1) = (f + k1) + 1 by omega, lp_in e1, y5, f2]
          rcases f4 with ⟨τ, z, z1, z2, z3⟩ | ⟨z1, z2, z3⟩
          · have hta : τ a = x := (z2.2.1 a (by omega)).trans up_eq
            have hag : ag σ a τ := fun i hi => (z2.2.1 i (by omega)).trans (up_ne (by omega))
            refine ⟨1 + k1, s1, K1, by omega, go, ot2_tr e2 f3, Or.inl ⟨τ, z, by rw [z1, show tt + (1 + k1) = tt + 1 + k1 by omega], ⟨z2.1, hag, fun _ => by omega, fun ρ h1 h2 h3 => ?_⟩, z3⟩⟩
            have h4 := ge ρ h1 h2 h3
            by_cases c1 : ρ a = x
            · exact z2.2.2.2 ρ h1 (ag_up h2 c1) (fun _ => Nat.zero_le _)
            · exact Nat.le_of_lt (lx_cd z2.1.1.1 (show a < 8 by omega) (fun i hi => (hag i hi).trans (h2 i hi).symm) (by omega))
          · refine more k1 K1 f1 (ot2_tr e2 f3) (SG_dn z2 (by omega) (fun i hi => up_ne (by omega))) (fun ρ h1 h2 h3 => z3 ρ h1 (ag_up h2 h3) (fun _ => Nat.zero_le _)) (fun f => ?_)
            rw [go f, z1]
            unfold fc
            rw [if_neg (by omega), show tt + (1 + k1) = tt + 1 + k1 by omega, show a + 1 - 1 = a by omega, up_eq]
        · refine more 0 K (Nat.zero_le _) e2 y6 (fun ρ h1 h2 h3 => y7 (okk_cong (fun i hi => (ag_up h2 h3) i hi) (Sol_okk hE.2.1.1 hE.2.1.2 h1 (by omega)))) (fun f => ?_)
          rw [show f + (1 + 0) = f + 1 from rfl, lp_in e1, y5]
theorem TT_le : ∀ d, d ≤ 8 → TT d ≤ 200000 := by decide
theorem c_62 {n r v w from' : Nat} {V W : Nat → Int32} {I : ai_I} {J : ai_J} {t L : Nat} {σ : Nat → Nat} (hE : EN n r v w V W I J) (hf : from' ≤ n) (hS : SG I σ from') (hG : GPx n V W σ from') : wp (m_62 67 v w (nI from') I J (Rc t) (Gc L)) (fun q => ot2 I q.2 69 70 ∧ ((q.1 = nI 1 ∧ ∃ τ, Win n V W σ from' 0 τ ∧ SG q.2 τ n) ∨ (q.1 = nI 0 ∧ SG q.2 σ from' ∧ Los n V W σ from' 0))) := by
  have hn := hE.2.1.1.2.1
  have hu := unu_0 hG
  have hT := TT_le (n - from') (by omega)
  obtain ⟨k, s', K, k1, k2, k3, k4⟩ := BS (t := t) (L := L) (n - from') from' (by omega) (Nat.le_refl _) (n - from') 0 0 σ I (Nat.zero_le _) hu hE hS hG (by rw [cos_TT]; omega)
  rw [cos_TT] at k1
  have hE3 := EN_fr hE (fun c hc => k3 c (by omega) (by omega))
  have hv := hE.1.1
  have hC := hE3.2.2.1.1
  unfold m_62
  have hN : o_N = (1999999 - k) + 1 + k := by show 2000000 = _; omega
  rw [hN, k2]
  rcases k4 with ⟨τ, z, z1, z2, z3⟩ | ⟨z1, z2, z3⟩
  · subst z1
    have e : m_62_b9 67 v w (nI from') J (Rc t) (Gc L) (nI n) z (nI (0 + k)) K = some (Sum.inr (nI n, K)) := by
      unfold m_62_b9
      rw [if_neg (nI_ge (show 0 + k < 1000000 by omega) (by decide)), if_neg (show ¬ nI n < nI from' by rw [i_lt (by omega) (by omega)]; omega), v_kd hv, o_g_t, hC.1, if_pos (Int32.le_refl _)]
    rw [lp_out e, o_s1_s]
    unfold m_62_x9_128
    dsimp only
    rw [v_kd hv, o_g_t, if_neg (show ¬ nI n < K v 0 by rw [hC.1]; exact fun h => Int32.lt_irrefl h), wp_s]
    exact ⟨k3, Or.inl ⟨rfl, τ, z2, z3⟩⟩
  · subst z1
    unfold fc
    rw [if_pos rfl]
    have e : m_62_b9 67 v w (nI from') J (Rc t) (Gc L) (nI from' + -1) (nI 0) (nI (0 + k)) K = some (Sum.inr (nI from' + -1, K)) := by
      unfold m_62_b9
      rw [if_neg (nI_ge (show 0 + k < 1000000 by omega) (by decide)), if_pos (dn_lt (by omega))]
    rw [lp_out e, o_s1_s]
    unfold m_62_x9_128
    dsimp only
    rw [v_kd hv, o_g_t, if_pos (show nI from' + -1 < K v 0 by rw [hC.1]; exact Int32.lt_of_lt_of_le (dn_lt (by omega)) (nI_le hf (by omega))), wp_s]
    exact ⟨k3, Or.inr ⟨rfl, z2, z3⟩⟩
