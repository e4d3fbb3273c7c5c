/-! New cells: their rows. -/
theorem si_nchk_spec {o : Nat} : ∀ {l : List (Nat × Nat)} {ps : List Nat}, si_nchk o l ps = true → ∀ (ix v : Nat), ai_lkp l ix = some v → Cond.classLink (si_RS o) ix (si_RS v) ∈ lw_tbl ∧ v < 11
  | [], _, _, ix, v, h => by cases h
  | r :: l, [], hc, ix, v, h => by cases hc
  | r :: l, q :: ps, hc, ix, v, h => by
    unfold si_nchk at hc
    simp only [Bool.and_eq_true, decide_eq_true_eq] at hc
    obtain ⟨⟨h1, h2⟩, h3⟩ := hc
    unfold ai_lkp at h
    by_cases e : r.1 = ix
    · rw [if_pos e] at h
      cases h
      rw [← e]
      exact ⟨si_at_mem h1, h2⟩
    · rw [if_neg e] at h
      exact si_nchk_spec h3 ix v h
theorem si_kt_all (o : Nat) : si_nchk o (si_kt o) (si_ktp o) = true := by
  by_cases h3 : o = 3
  · subst h3
    exact si_nk_3
  by_cases h6 : o = 6
  · subst h6
    exact si_nk_6
  by_cases h10 : o = 10
  · subst h10
    exact si_nk_10
  by_cases h21 : o = 21
  · subst h21
    exact si_nk_21
  by_cases h23 : o = 23
  · subst h23
    exact si_nk_23
  have e : si_kt o = [] := by
    unfold si_kt
    split <;> first | contradiction | rfl
  rw [e]
  rfl
theorem si_new {o ix q : Nat} (h : ai_cls si_t o ix = q) (hq : q < 11) : Cond.classLink (si_RS o) ix (si_RS q) ∈ si_aTs := by
  change (ai_lkp (si_kt o) ix).getD 99 = q at h
  cases hl : ai_lkp (si_kt o) ix with
  | none =>
    rw [hl] at h
    change 99 = q at h
    omega
  | some v =>
    rw [hl] at h
    change v = q at h
    subst h
    exact si_good (si_nchk_spec (si_kt_all o) ix _ hl).1 rfl
theorem si_dflt {E : si_E} {q i : Nat} (hq : q < 11) (hi : i < si_N q) : defaultValue (si_ft q i) = si_fv E (si_ty q i) 0 0 0 := by
  obtain ⟨c1, c2, c3, c4, c5, c6⟩ := si_cls hq
  obtain ⟨h1, h2⟩ := c3 i hi
  rcases (by omega : si_ty q i = 0 ∨ si_ty q i = 1 ∨ si_ty q i = 2 ∨ si_ty q i = 3) with e | e | e | e <;> rw [e] at h1 ⊢
  · rw [si_code_0 h1]
    rfl
  · rw [si_code_1 h1]
    rfl
  · rcases si_code_2 h1 with ⟨n, e2⟩ | ⟨g, e2⟩ <;> rw [e2] <;> rfl
  · rw [si_code_3 h1]
    rfl
section
variable {p : Program} {l : Launch} {e : Env} {R : Room} {s : State} {m : MethodId} {args : Array Value} {below : List Frame} {meth : Method} {c : Code} {Q : State → Prop} {cc : ByteArray} {E : si_E} {adV : Nat → Nat} {nL o : Nat} {ini : Bool}
variable {F : ai_F} {call : ai_C} {post : ai_Q} {k : ai_K} {len pc : Nat} {lo : List (Option ai_V)} {st : List ai_V} {B : Nat × Nat} {I : ai_I} {J : ai_J} {Rf : ai_R} {G : ai_G} {H : Heap} {locs : List Loc} {cells slots : Nat} {ls : Array Slot}
/-- what a new cell leaves of the state -/
theorem si_S_new {K LN : Nat → Nat} {H1 : Heap} {I1 : ai_I} {J1 : ai_J} {R1 : ai_R} {n : Nat} (S : si_S E s R nL H locs cells slots ls lo B I J Rf G) (hB : 1 ≤ B.1) (hn : n ≤ B.2) (hz : E.1 < s.heap.size) (h9 : G.2.2 < 900) (z1 : H1.size = si_ad E (G.2.2 + 1) + 1) (oq : ∀ q : Nat, q < si_ad E (G.2.2 + 1) → H1[q]? = H[q]?)
    (hK : ∀ b : Nat, b ≠ G.2.2 + 1 → K b = G.1 b) (hL : ∀ b : Nat, b ≠ G.2.2 + 1 → LN b = G.2.1 b)
    (hat : va_at (si_D E) si_cl (si_ad E (G.2.2 + 1), si_cell E I1 J1 R1 (K, LN, G.2.2 + 1) (G.2.2 + 1)) H1) (hI : ∀ b : Nat, b ≠ G.2.2 + 1 → I1 b = I b) (hJ : ∀ b : Nat, b ≠ G.2.2 + 1 → J1 b = J b) (hR : ∀ b : Nat, b ≠ G.2.2 + 1 → R1 b = Rf b) :
    si_S E s R nL H1 locs (cells + 1) (slots + n) ls lo (B.1 - 1, B.2 - n) I1 J1 R1 (K, LN, G.2.2 + 1) := by
  have hh : H.size = si_ad E (G.2.2 + 1) := by rw [S.1.1, si_ad_lt (by omega)]; omega
  refine ⟨S.1.new h9 (by rw [z1, hh]) (by rw [hh]; exact oq) hK hL hat hI hJ hR, S.2.1, ?_, by have := S.2.2.2.1; show cells + 1 + (B.1 - 1) ≤ _; omega, by have := S.2.2.2.2; show slots + n + (B.2 - n) ≤ _; omega⟩
  obtain ⟨s1, s2, s3⟩ := S.2.2.1
  exact ⟨by rw [z1, ← hh]; omega, fun q h1 h2 => (oq q (by rw [← hh]; omega)).trans (s2 q h1 h2), s3⟩
theorem si_s_new {ix : Nat} (C0 : si_C p R s m args meth c cc E adV nL o ini) (hk : si_ok p l e R s m args below meth c Q E nL k) (hd : decode cc pc = .ok (.new ix, len)) (hl : len = 3) (hF : F.1 = o) (hck : ai_cls si_t o ix < 11) (S : si_S E s R nL H locs cells slots ls lo B I J Rf G)
    (h : ai_stp si_t F call post (.new ix) len pc lo st B I J Rf G k) : W p l e R s m args below meth c H locs cells slots Q (F0 m pc ls (st.map (si_v E))) := by
  obtain ⟨hx, hb, hml, hown, hts, hK, hX, hin, hlaw, hz, hfr, hlo⟩ := C0
  subst hl
  change 1 ≤ B.1 ∧ ai_nfd si_t (ai_cls si_t F.1 ix) ≤ B.2 ∧ G.2.2 < 900 ∧ k (pc + 3) lo (.inr (.inr (G.2.2 + 1)) :: st) (B.1 - 1, B.2 - ai_nfd si_t (ai_cls si_t F.1 ix)) (va_up I (G.2.2 + 1) (fun _ => 0)) (va_up J (G.2.2 + 1) (fun _ => 0)) (va_up Rf (G.2.2 + 1) (fun _ => 0)) (va_up G.1 (G.2.2 + 1) (ai_cls si_t F.1 ix), G.2.1, G.2.2 + 1) at h
  rw [hF] at h
  generalize hq : ai_cls si_t o ix = q at h hck
  change 1 ≤ B.1 ∧ si_N q ≤ B.2 ∧ G.2.2 < 900 ∧ k (pc + 3) lo (.inr (.inr (G.2.2 + 1)) :: st) (B.1 - 1, B.2 - si_N q) (va_up I (G.2.2 + 1) (fun _ => 0)) (va_up J (G.2.2 + 1) (fun _ => 0)) (va_up Rf (G.2.2 + 1) (fun _ => 0)) (va_up G.1 (G.2.2 + 1) q, G.2.1, G.2.2 + 1) at h
  obtain ⟨h1, h2, h9, h⟩ := h
  obtain ⟨c1, c2, c3, c4, c5, c6⟩ := si_cls hck
  have hh : H.size = si_ad E (G.2.2 + 1) := by rw [S.1.1, si_ad_lt (by omega)]; omega
  have hKn := hK.1 q _ (si_cl_all hck)
  refine W.newcK hx hb hown (hts _ (si_new hq hck)) (hts _ c5) (hts _ c6) rfl hd (by have := S.2.2.2.1; omega) (by have := S.2.2.2.2; omega) hKn.2.1 hh fun H1 kC hkC e1 z1 o1 => ?_
  refine hk _ _ _ _ _ _ _ _ _ _ _ _ _ h (si_S_new S h1 h2 hz h9 z1 o1 (fun b hb => by simp [va_up, hb]) (fun b hb => rfl) ?_ (fun b hb => by simp [va_up, hb]) (fun b hb => by simp [va_up, hb]) (fun b hb => by simp [va_up, hb]))
  rw [si_cellO (c := q) (by simp [va_up]) (Nat.lt_succ_of_lt hck)]
  refine ⟨_, si_cl_all hck, (u_born (si_ft q) hts c1 hKn hkC e1 c2).to (fun i hi => ?_)⟩
  rw [si_fs_V hi, si_dflt (E := E) hck hi]
  simp [va_up]
theorem si_s_newarray {ty : ArrayType} (C0 : si_C p R s m args meth c cc E adV nL o ini) (hk : si_ok p l e R s m args below meth c Q E nL k) (hd : decode cc pc = .ok (.newarray ty, len)) (hl : len = 2) (S : si_S E s R nL H locs cells slots ls lo B I J Rf G)
    (h : ai_stp si_t F call post (.newarray ty) len pc lo st B I J Rf G k) : W p l e R s m args below meth c H locs cells slots Q (F0 m pc ls (st.map (si_v E))) := by
  obtain ⟨hx, hb, hml, hown, hts, hK, hX, hin, hlaw, hz, hfr, hlo⟩ := C0
  subst hl
  change (match (generalizing := false) st with
    | .inl n :: r => ¬ n < 0 ∧ 1 ≤ B.1 ∧ n.toNatClampNeg ≤ B.2 ∧ n.toNatClampNeg ≤ 10000000 ∧ G.2.2 < 900 ∧ (match (generalizing := false) ty with
      | .byte => k (pc + 2) lo (.inr (.inr (G.2.2 + 1)) :: r) (B.1 - 1, B.2 - n.toNatClampNeg) (va_up I (G.2.2 + 1) (fun _ => 0)) J Rf (va_up G.1 (G.2.2 + 1) 12, va_up G.2.1 (G.2.2 + 1) n.toNatClampNeg, G.2.2 + 1)
      | .int => k (pc + 2) lo (.inr (.inr (G.2.2 + 1)) :: r) (B.1 - 1, B.2 - n.toNatClampNeg) (va_up I (G.2.2 + 1) (fun _ => 0)) J Rf (va_up G.1 (G.2.2 + 1) 13, va_up G.2.1 (G.2.2 + 1) n.toNatClampNeg, G.2.2 + 1)
      | .long => k (pc + 2) lo (.inr (.inr (G.2.2 + 1)) :: r) (B.1 - 1, B.2 - n.toNatClampNeg) I (va_up J (G.2.2 + 1) (fun _ => 0)) Rf (va_up G.1 (G.2.2 + 1) 14, va_up G.2.1 (G.2.2 + 1) n.toNatClampNeg, G.2.2 + 1)
      | _ => False)
    | _ => False) at h
  split at h
  · rename_i n r
    obtain ⟨h0, h1, h2, h3, h9, h⟩ := h
    have hh : H.size = si_ad E (G.2.2 + 1) := by rw [S.1.1, si_ad_lt (by omega)]; omega
    have hc1 : cells + 1 ≤ R.cells := by have := S.2.2.2.1; omega
    have hs1 : slots + n.toNatClampNeg ≤ R.slots := by have := S.2.2.2.2; omega
    split at h
    · refine va_newaK (atype := .byte) hx hb (hts _ (si_good si_w_5 rfl)) rfl hd rfl h0 rfl (by show _ * 1 ≤ _; omega) hc1 hs1 hh fun H1 cA e1 z1 o1 hA hcA => ?_
      refine hk _ _ _ _ _ _ _ _ _ _ _ _ _ h (si_S_new S h1 h2 hz h9 z1 o1 (fun b hb => by simp [va_up, hb]) (fun b hb => by simp [va_up, hb]) ?_ (fun b hb => by simp [va_up, hb]) (fun b hb => rfl) (fun b hb => rfl))
      have hc : cA = si_cA E 12 := Option.some.inj (hcA.symm.trans (hK.2 0 _ rfl).2)
      rw [si_cell12 (by simp [va_up])]
      show H1[si_ad E (G.2.2 + 1)]? = some (vp_cell _ _)
      rw [e1, vp_cell_i, hc]
      simp [va_up]
      rfl
    · refine va_newaK (atype := .int) hx hb (hts _ (si_good si_w_6 rfl)) rfl hd rfl h0 rfl (by show _ * 4 ≤ _; omega) hc1 hs1 hh fun H1 cA e1 z1 o1 hA hcA => ?_
      refine hk _ _ _ _ _ _ _ _ _ _ _ _ _ h (si_S_new S h1 h2 hz h9 z1 o1 (fun b hb => by simp [va_up, hb]) (fun b hb => by simp [va_up, hb]) ?_ (fun b hb => by simp [va_up, hb]) (fun b hb => rfl) (fun b hb => rfl))
      have hc : cA = si_cA E 13 := Option.some.inj (hcA.symm.trans (hK.2 1 _ rfl).2)
      rw [si_cell13 (by simp [va_up])]
      show H1[si_ad E (G.2.2 + 1)]? = some (vp_cell _ _)
      rw [e1, vp_cell_i, hc]
      simp [va_up]
      rfl
    · refine va_newaK (atype := .long) hx hb (hts _ (si_good si_w_7 rfl)) rfl hd rfl h0 rfl (by show _ * 8 ≤ _; omega) hc1 hs1 hh fun H1 cA e1 z1 o1 hA hcA => ?_
      refine hk _ _ _ _ _ _ _ _ _ _ _ _ _ h (si_S_new S h1 h2 hz h9 z1 o1 (fun b hb => by simp [va_up, hb]) (fun b hb => by simp [va_up, hb]) ?_ (fun b hb => rfl) (fun b hb => by simp [va_up, hb]) (fun b hb => rfl))
      have hc : cA = si_cA E 14 := Option.some.inj (hcA.symm.trans (hK.2 2 _ rfl).2)
      rw [si_cell14 (by simp [va_up])]
      show H1[si_ad E (G.2.2 + 1)]? = some (vp_cell _ _)
      rw [e1, vp_cell_l, hc]
      simp [va_up]
      rfl
    · exact h.elim
  · exact h.elim
theorem si_s_anewarray {ix : Nat} (C0 : si_C p R s m args meth c cc E adV nL o ini) (hk : si_ok p l e R s m args below meth c Q E nL k) (hd : decode cc pc = .ok (.anewarray ix, len)) (hl : len = 3) (hF : F.1 = o) (S : si_S E s R nL H locs cells slots ls lo B I J Rf G)
    (h : ai_stp si_t F call post (.anewarray ix) len pc lo st B I J Rf G k) : W p l e R s m args below meth c H locs cells slots Q (F0 m pc ls (st.map (si_v E))) := by
  obtain ⟨hx, hb, hml, hown, hts, hK, hX, hin, hlaw, hz, hfr, hlo⟩ := C0
  subst hl
  change (match (generalizing := false) st with
    | .inl n :: r => ai_cls si_t F.1 ix = 8 ∧ ¬ n < 0 ∧ 1 ≤ B.1 ∧ n.toNatClampNeg ≤ B.2 ∧ n.toNatClampNeg ≤ 10000000 ∧ G.2.2 < 900 ∧ k (pc + 3) lo (.inr (.inr (G.2.2 + 1)) :: r) (B.1 - 1, B.2 - n.toNatClampNeg) I J (va_up Rf (G.2.2 + 1) (fun _ => 0)) (va_up G.1 (G.2.2 + 1) 15, va_up G.2.1 (G.2.2 + 1) n.toNatClampNeg, G.2.2 + 1)
    | _ => False) at h
  split at h
  · rename_i n r
    obtain ⟨hcl, h0, h1, h2, h3, h9, h⟩ := h
    rw [hF] at hcl
    have hh : H.size = si_ad E (G.2.2 + 1) := by rw [S.1.1, si_ad_lt (by omega)]; omega
    have hc1 : cells + 1 ≤ R.cells := by have := S.2.2.2.1; omega
    have hs1 : slots + n.toNatClampNeg ≤ R.slots := by have := S.2.2.2.2; omega
    refine W.anew hx hb hown (hts _ (si_new hcl (by decide))) (va_AO.use hX.2.1) rfl hd rfl h0 (by omega) hc1 hs1 fun cA kA comp f1 f2 f3 f4 => ?_
    generalize hH1 : H.push ({ cls := cA, slots := Array.replicate n.toNatClampNeg .null, vm := .none } : Cell) = H1
    have z1 : H1.size = H.size + 1 := by rw [← hH1, Array.size_push]
    have e1 : H1[H.size]? = some (arrV cA n.toNatClampNeg (fun _ => .null)) := by rw [← hH1, Array.getElem?_push_size, ← arrV_new]
    have o1 : ∀ q : Nat, q < H.size → H1[q]? = H[q]? := fun q hq => by rw [← hH1, Array.getElem?_push, if_neg (Nat.ne_of_lt hq)]
    rw [hh] at z1 e1 o1 ⊢
    refine hk _ _ _ _ _ _ _ _ _ _ _ _ _ h (si_S_new S h1 h2 hz h9 z1 o1 (fun b hb => by simp [va_up, hb]) (fun b hb => by simp [va_up, hb]) ?_ (fun b hb => rfl) (fun b hb => rfl) (fun b hb => by simp [va_up, hb]))
    obtain ⟨kA', comp', k1, k2, k3, k4⟩ := (hK.2 3 _ rfl).2
    have hc : cA = si_cA E 15 := Option.some.inj (f1.symm.trans k4)
    rw [si_cell15 (by simp [va_up])]
    show H1[si_ad E (G.2.2 + 1)]? = some (vp_cell _ _)
    rw [e1, vp_cell_q, hc]
    simp [va_up]
    rfl
  · exact h.elim
end
