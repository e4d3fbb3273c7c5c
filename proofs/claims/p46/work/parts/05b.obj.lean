/-! Fields and new cells: their rows. What the tables say, out of the checks of part 03b. -/
theorem si_good {w : Cond} (h : w ∈ lw_tbl) (g : goodWord w = true) : w ∈ si_aTs := List.mem_filter.mpr ⟨h, g⟩
theorem si_at_mem {q : Nat} {w : Cond} (h : lw_tbl[q]? = some w) : w ∈ lw_tbl := List.mem_of_getElem? h
theorem si_fchk_spec {o : Nat} : ∀ {l : List (Nat × Nat × Nat × Nat × Bool)} {ps : List Nat}, si_fchk o l ps = true → ∀ (ix : Nat) (v : Nat × Nat × Nat × Bool), ai_lkp l ix = some v →
    Cond.fieldLink (si_RS o) ix (si_RS v.1) (si_T v.1 v.2.1).2.1 (si_T v.1 v.2.1).2.2.1 ∈ lw_tbl ∧ v.1 < 11 ∧ v.2.1 < si_N v.1 ∧ (si_T v.1 v.2.1).1 = si_RS v.1 ∧ (si_T v.1 v.2.1).2.2.2 = v.2.2.2 ∧ si_ty v.1 v.2.1 = v.2.2.1
  | [], _, _, ix, v, h => by cases h
  | r :: l, [], hc, ix, v, h => by cases hc
  | r :: l, q :: ps, hc, ix, v, h => by
    unfold si_fchk at hc
    simp only [Bool.and_eq_true, decide_eq_true_eq] at hc
    obtain ⟨h1, h2, h3⟩ := hc
    unfold ai_lkp at h
    by_cases e : r.1 = ix
    · rw [if_pos e] at h
      cases h
      rw [← e]
      exact ⟨si_at_mem h1, h2⟩
    · rw [if_neg e] at h
      exact si_fchk_spec h3 ix v h
theorem si_fd_all (o : Nat) : si_fchk o (si_fd o) (si_fdp o) = true := by
  by_cases h0 : o = 0
  · subst h0
    exact si_fk_0
  by_cases h1 : o = 1
  · subst h1
    exact si_fk_1
  by_cases h2 : o = 2
  · subst h2
    exact si_fk_2
  by_cases h3 : o = 3
  · subst h3
    exact si_fk_3
  by_cases h4 : o = 4
  · subst h4
    exact si_fk_4
  by_cases h5 : o = 5
  · subst h5
    exact si_fk_5
  by_cases h6 : o = 6
  · subst h6
    exact si_fk_6
  by_cases h7 : o = 7
  · subst h7
    exact si_fk_7
  by_cases h8 : o = 8
  · subst h8
    exact si_fk_8
  by_cases h9 : o = 9
  · subst h9
    exact si_fk_9
  by_cases h10 : o = 10
  · subst h10
    exact si_fk_10
  by_cases h20 : o = 20
  · subst h20
    exact si_fk_20
  have e : si_fd o = [] := by
    unfold si_fd
    split <;> first | contradiction | rfl
  rw [e]
  rfl
theorem si_fld {o ix c j ty : Nat} {fin : Bool} (h : ai_fld si_t o ix = (c, j, ty, fin)) (hc : c < 11) :
    Cond.fieldLink (si_RS o) ix (si_RS c) (si_T c j).2.1 (si_T c j).2.2.1 ∈ si_aTs ∧ j < si_N c ∧ (si_T c j).1 = si_RS c ∧ (si_T c j).2.2.2 = fin ∧ si_ty c j = ty := by
  change (ai_lkp (si_fd o) ix).getD (99, 0, 9, false) = _ at h
  cases hl : ai_lkp (si_fd o) ix with
  | none =>
    rw [hl] at h
    cases h
    omega
  | some v =>
    rw [hl] at h
    change v = _ at h
    subst h
    obtain ⟨h1, -, h3⟩ := si_fchk_spec (si_fd_all o) ix _ hl
    exact ⟨si_good h1 rfl, h3⟩
theorem si_gchk1_spec {k : Nat} : ∀ {ps : List Nat} {j : Nat}, si_gchk1 k j ps = true → ∀ i : Nat, j ≤ i → i < si_N k → u_lay (si_RS k) (si_T k) i ∈ lw_tbl ∧ parseFieldDescriptor (si_T k i).2.2.1 = some (si_ft k i) ∧ si_code (si_ft k i) = si_ty k i ∧ si_ty k i ≤ 3
  | [], j, h, i, h1, h2 => by
    unfold si_gchk1 at h
    simp only [decide_eq_true_eq] at h
    omega
  | q :: ps, j, h, i, h1, h2 => by
    unfold si_gchk1 at h
    simp only [Bool.and_eq_true, decide_eq_true_eq] at h
    obtain ⟨⟨g1, g2⟩, g3⟩ := h
    by_cases e : i = j
    · subst e
      exact ⟨si_at_mem g1, g2⟩
    · exact si_gchk1_spec g3 i (by omega) h2
theorem si_gk_all {k : Nat} (h : k < 11) : si_gchk k = true := by
  match k, h with
  | 0, _ => exact si_gk_0
  | 1, _ => exact si_gk_1
  | 2, _ => exact si_gk_2
  | 3, _ => exact si_gk_3
  | 4, _ => exact si_gk_4
  | 5, _ => exact si_gk_5
  | 6, _ => exact si_gk_6
  | 7, _ => exact si_gk_7
  | 8, _ => exact si_gk_8
  | 9, _ => exact si_gk_9
  | 10, _ => exact si_gk_10
theorem si_cl_all {k : Nat} (h : k < 11) : si_cl[k]? = some (si_RS k, si_T k, si_N k) := by
  match k, h with
  | 0, _ => exact si_cl_0
  | 1, _ => exact si_cl_1
  | 2, _ => exact si_cl_2
  | 3, _ => exact si_cl_3
  | 4, _ => exact si_cl_4
  | 5, _ => exact si_cl_5
  | 6, _ => exact si_cl_6
  | 7, _ => exact si_cl_7
  | 8, _ => exact si_cl_8
  | 9, _ => exact si_cl_9
  | 10, _ => exact si_cl_10
theorem si_lay_good (C : String) (T : u_T) (k : Nat) : goodWord (u_lay C T k) = true := by
  unfold u_lay
  split <;> rfl
/-- a class: its fields are laid, of their types, with names of their own; it can be made -/
theorem si_cls {k : Nat} (h : k < 11) : (∀ w ∈ u_ws (si_RS k) (si_T k) (si_N k), w ∈ si_aTs) ∧ (∀ i, i < si_N k → parseFieldDescriptor (si_T k i).2.2.1 = some (si_ft k i)) ∧ (∀ i, i < si_N k → si_code (si_ft k i) = si_ty k i ∧ si_ty k i ≤ 3) ∧
    (∀ x, x < si_N k → ∀ y, y < si_N k → x ≠ y → (si_T k x).2.1 ≠ (si_T k y).2.1) ∧ Cond.instantiable (si_RS k) (si_N k) ∈ si_aTs ∧ Cond.initialized (si_RS k) ∈ si_aTs := by
  have g := si_gk_all h
  unfold si_gchk at g
  simp only [Bool.and_eq_true, decide_eq_true_eq, List.all_eq_true, List.mem_range] at g
  obtain ⟨g1, ⟨g2, g3⟩, g4⟩ := g
  refine ⟨fun w hw => ?_, fun i hi => (si_gchk1_spec g1 i (Nat.zero_le _) hi).2.1, fun i hi => (si_gchk1_spec g1 i (Nat.zero_le _) hi).2.2, fun x hx y hy hne => ?_, si_good (si_at_mem g2) rfl, si_good (si_at_mem g3) rfl⟩
  · unfold u_ws at hw
    obtain ⟨i, hi, rfl⟩ := List.mem_map.mp hw
    exact si_good (si_gchk1_spec g1 i (Nat.zero_le _) (List.mem_range.mp hi)).1 (si_lay_good _ _ _)
  · rcases g4 x hx y hy with e | e
    · exact absurd e hne
    · exact e
/-- the fields of a cell, by place -/
theorem si_fs_get {E : si_E} {k : Nat} {i : Nat → Int32} {j : Nat → Int64} {r : Nat → Nat} {q : Nat} (h : q < si_N k) : (si_fs E k i j r)[q]? = some (si_fv E (si_ty k q) (i q) (j q) (r q)) := by
  unfold si_fs
  rw [List.getElem?_map, List.getElem?_range h]
  rfl
theorem si_fs_V {E : si_E} {k : Nat} {i : Nat → Int32} {j : Nat → Int64} {r : Nat → Nat} {q : Nat} (h : q < si_N k) : vp_V (si_fs E k i j r) q = si_fv E (si_ty k q) (i q) (j q) (r q) := by
  unfold vp_V
  rw [List.getD_eq_getElem?_getD, si_fs_get h]
  rfl
def si_av (ty : Nat) (i : Int32) (j : Int64) (r : Nat) : ai_V := match ty with
  | 1 => .inr (.inl j)
  | 2 => .inr (.inr r)
  | _ => .inl i
theorem si_av_v {E : si_E} {ty : Nat} {i : Int32} {j : Int64} {r : Nat} : si_v E (si_av ty i j r) = si_fv E ty i j r := by
  cases ty with
  | zero => rfl
  | succ n =>
    cases n with
    | zero => rfl
    | succ n2 => cases n2 <;> rfl
theorem ai_get_inv {t : ai_T} {F : ai_F} {ix pc : Nat} {lo : List (Option ai_V)} {st : List ai_V} {B : Nat × Nat} {I : ai_I} {J : ai_J} {Rf : ai_R} {G : ai_G} {k : ai_K} (h : ai_get t F ix pc lo st B I J Rf G k) :
    ∃ (c j ty : Nat) (fin : Bool) (a : Nat) (r : List ai_V), ai_fld t F.1 ix = (c, j, ty, fin) ∧ st = .inr (.inr a) :: r ∧ G.1 a = c ∧ k (pc + 3) lo (si_av ty (I a j) (J a j) (Rf a j) :: r) B I J Rf G := by
  unfold ai_get at h
  split at h
  · rename_i c j ty fin a r hf
    refine ⟨c, j, ty, fin, a, r, hf, rfl, h.1, ?_⟩
    have h2 := h.2
    cases ty with
    | zero => exact h2
    | succ n =>
      cases n with
      | zero => exact h2
      | succ n2 =>
        cases n2 with
        | zero => exact h2
        | succ n3 => exact h2
  · exact h.elim
section
variable {p : Program} {l : Launch} {e : Env} {R : Room} {s : State} {m : MethodId} {args : Array Value} {below : List Frame} {meth : Method} {c : Code} {Q : State → Prop} {cc : ByteArray} {E : si_E} {adV : Nat → Nat} {nL o : Nat} {ini : Bool}
variable {F : ai_F} {call : ai_C} {post : ai_Q} {k : ai_K} {len pc : Nat} {lo : List (Option ai_V)} {st : List ai_V} {B : Nat × Nat} {I : ai_I} {J : ai_J} {Rf : ai_R} {G : ai_G} {H : Heap} {locs : List Loc} {cells slots : Nat} {ls : Array Slot}
theorem si_s_getfield {ix : Nat} (C0 : si_C p R s m args meth c cc E adV nL o ini) (hk : si_ok p l e R s m args below meth c Q E nL k) (hd : decode cc pc = .ok (.getfield ix, len)) (hl : len = 3) (hF : F.1 = o) (hck : (ai_fld si_t o ix).1 < 11) (S : si_S E s R nL H locs cells slots ls lo B I J Rf G)
    (h : ai_stp si_t F call post (.getfield ix) len pc lo st B I J Rf G k) : W p l e R s m args below meth c H locs cells slots Q (F0 m pc ls (st.map (si_v E))) := by
  obtain ⟨hx, hb, hml, hown, hts, hK, hX, hin, hlaw, hz, hfr, hlo⟩ := C0
  subst hl
  obtain ⟨q, j, ty, fin, a, r, hf, rfl, hk1, h⟩ := ai_get_inv h
  rw [hF] at hf
  rw [hf] at hck
  have hck : q < 11 := hck
  obtain ⟨f1, f2, f3, f4, f5⟩ := si_fld hf hck
  obtain ⟨c1, c2, c3, c4, c5, c6⟩ := si_cls hck
  have ha := (S.1.2.2.1 a (by omega)).1
  have hP := S.1.at1 (by omega) (si_cellO hk1 (Nat.lt_succ_of_lt hck))
  rw [show (Sum.inr (Sum.inr a) :: r : List ai_V).map (si_v E) = si_v E (.inr (.inr a)) :: r.map (si_v E) from rfl, si_v_pos ha]
  have hh := hk _ _ _ _ _ _ _ _ _ _ _ _ _ h S
  rw [show (si_av ty (I a j) (J a j) (Rf a j) :: r : List ai_V).map (si_v E) = si_v E (si_av ty (I a j) (J a j) (Rf a j)) :: r.map (si_v E) from rfl, si_av_v, ← f5] at hh
  exact va_get hx hb hts c1 hown hK hP 0 rfl (si_cl_all hck) j f2 (hts _ f1) (fun x hx2 => by rw [f3] at hx2; exact hx2) (si_fs_get f2) hd hh
/-- a field is written: the heap's sizes are kept -/
theorem si_putf {ix q j a : Nat} {rest : List Value} {v : Value} (C0 : si_C p R s m args meth c cc E adV nL o ini) (hd : decode cc pc = .ok (.putfield ix, 3)) (hq : q < 11) {fin : Bool} {ty : Nat} (hf : ai_fld si_t o ix = (q, j, ty, fin)) (hfin : fin = true → ini = true ∧ o = q)
    {fs : List Value} (hP : va_P (si_D E) si_cl [(a, .inr (q, fs))] H) (hn : narrow (si_ft q j) v = v) (hfit : fits (si_ft q j) v = true)
    (kk : ∀ H1 : Heap, H1.size = H.size → (∀ b : Nat, b ≠ a → H1[b]? = H[b]?) → t_OB a ((si_D E).1 q) (si_N q) ((si_D E).2 q) H1 (updV (vp_V fs) j v) → ∀ sl : Nat, W p l e R s m args below meth c H1 (locs ++ [⟨a, sl⟩]) cells slots Q (F0 m (pc + 3) ls rest)) :
    W p l e R s m args below meth c H locs cells slots Q (F0 m pc ls (v :: .ref a :: rest)) := by
  obtain ⟨hx, hb, hml, hown, hts, hK, hX, hin, hlaw, hz, hfr, hlo⟩ := C0
  obtain ⟨f1, f2, f3, f4, f5⟩ := si_fld hf hq
  obtain ⟨c1, c2, c3, c4, c5, c6⟩ := si_cls hq
  have hc := si_cl_all hq
  have hap := va_apart (own := si_RS q) hts c1 (si_ft q) c2 c4 hK hc
  obtain ⟨r, h1, cell, q1, q2, q3, q4⟩ := hP 0 _ rfl
  have hr : r = (si_RS q, si_T q, si_N q) := Option.some.inj (h1.symm.trans hc)
  subst hr
  obtain ⟨hS, hfc, kC, hkC, hkind⟩ := hK.1 q _ hc
  obtain ⟨cf, kf, fi, f, hi, hsl⟩ := hS j f2
  have hi2 : s.fieldFound? (si_RS q) (si_T q j).2.1 (si_T q j).2.2.1 = some (cf, kf, fi, f) := by rw [← f3]; exact hi
  have hlay := hts _ (c1 _ (u_in_lay f2))
  have hlays := u_lays hts c1 f2
  have hst := (u_facts hfc hkC hlays hi).1
  unfold u_lay at hlay
  cases fin with
  | false =>
    rw [if_neg (by rw [f4]; decide)] at hlay
    have h6 := u_store hfc hkC hkind hlay hi (c2 j f2) hn hfit
    refine W.putK hx hb (f := f) ⟨hown, hts _ f1, ⟨_, _, _, hi2⟩, hst⟩ (by rw [q2]; exact h6) q1 q3 (by rw [hsl]; exact k2_hasslot (q4 j f2)) rfl rfl hd fun H' e1 e2 e3 => ?_
    rw [hsl] at e1
    exact kk H' e2 e3 ⟨_, e1, q2, q3, t_set q4 hap f2 v⟩ _
  | true =>
    rw [if_pos f4] at hlay
    obtain ⟨g1, g2⟩ := hfin rfl
    have hcf : m.cls = cf := by
      obtain ⟨_, _, c', _, _, _, -, -, hf', -, -, -, hown2, -⟩ := Cond.laysFinal_spec hlay
      have e1 : c' = cf := by have := hi.symm.trans hf'; simp at this; exact this.1.symm
      rw [f3, ← g2] at hown2
      rw [← e1]; exact Option.some.inj (hown.symm.trans hown2)
    have h6 := u_fits hfc hkC hkind hlays hi (c2 j f2) hn hfit
    refine W.putFinK hx hb hown (hts _ f1) hi2 hst hcf (hin g1) (by rw [q2]; exact h6) q1 q3 (by rw [hsl]; exact k2_hasslot (q4 j f2)) rfl rfl hd fun H' e1 e2 e3 => ?_
    rw [hsl] at e1
    exact kk H' e2 e3 ⟨_, e1, q2, q3, t_set q4 hap f2 v⟩ _
theorem ai_sto_inv {ix : Nat} (h : ai_sto si_t F ix pc lo st B I J Rf G k) : ∃ (q j ty : Nat) (fin : Bool) (v : ai_V) (a : Nat) (r : List ai_V), ai_fld si_t F.1 ix = (q, j, ty, fin) ∧ st = v :: .inr (.inr a) :: r ∧ (fin = true → F.2.1 = true ∧ F.1 = q) ∧ G.1 a = q ∧
    ((∃ x, v = .inl x ∧ ty = 0 ∧ k (pc + 3) lo r B (va_up I a (va_up (I a) j x)) J Rf G) ∨ (∃ x, v = .inl x ∧ ty = 3 ∧ narrow .boolean (.int x) = .int x ∧ k (pc + 3) lo r B (va_up I a (va_up (I a) j x)) J Rf G) ∨
      (∃ x, v = .inr (.inl x) ∧ ty = 1 ∧ k (pc + 3) lo r B I (va_up J a (va_up (J a) j x)) Rf G) ∨ (∃ b, v = .inr (.inr b) ∧ ty = 2 ∧ k (pc + 3) lo r B I J (va_up Rf a (va_up (Rf a) j b)) G)) := by
  unfold ai_sto at h
  split at h
  · rename_i q j ty fin v a r hf
    refine ⟨q, j, ty, fin, v, a, r, hf, rfl, h.1, h.2.1, ?_⟩
    have h2 := h.2.2
    split at h2
    · exact Or.inr (Or.inr (Or.inl ⟨_, rfl, rfl, h2⟩))
    · exact Or.inr (Or.inr (Or.inr ⟨_, rfl, rfl, h2⟩))
    · exact Or.inl ⟨_, rfl, rfl, h2⟩
    · exact Or.inr (Or.inl ⟨_, rfl, rfl, h2.1, h2.2⟩)
    · exact h2.elim
  · exact h.elim
theorem si_code_0 {f : FieldType} (h : si_code f = 0) : f = .int := by
  cases f <;> first | rfl | (exact absurd h (by decide)) | (simp [si_code] at h)
theorem si_code_1 {f : FieldType} (h : si_code f = 1) : f = .long := by
  cases f <;> first | rfl | (exact absurd h (by decide)) | (simp [si_code] at h)
theorem si_code_3 {f : FieldType} (h : si_code f = 3) : f = .boolean := by
  cases f <;> first | rfl | (exact absurd h (by decide)) | (simp [si_code] at h)
theorem si_code_2 {f : FieldType} (h : si_code f = 2) : (∃ n, f = .object n) ∨ ∃ g, f = .array g := by
  cases f <;> first | (exact Or.inl ⟨_, rfl⟩) | (exact Or.inr ⟨_, rfl⟩) | (exact absurd h (by decide)) | (simp [si_code] at h)
theorem si_bool_fit {x : Int32} (h : narrow .boolean (.int x) = .int x) : fits .boolean (.int x) = true := by
  have h1 : x &&& 1 = x := by
    have : Value.int (x &&& 1) = Value.int x := h
    exact Value.int.inj this
  obtain ⟨j, hj, e2⟩ := pk_andE x (m := 1) 1 (by decide)
  rw [h1] at e2
  subst e2
  rcases (by omega : j = 0 ∨ j = 1) with rfl | rfl
  · rfl
  · rfl
theorem si_put_done {a q j : Nat} {H1 : Heap} {I1 : ai_I} {J1 : ai_J} {R1 : ai_R} {v : Value} {sl : Nat} (S : si_S E s R nL H locs cells slots ls lo B I J Rf G) (hk1 : G.1 a = q) (hq : q < 11) (z1 : H1.size = H.size) (oq : ∀ b : Nat, b ≠ si_ad E a → H1[b]? = H[b]?)
    (hO : t_OB (si_ad E a) ((si_D E).1 q) (si_N q) ((si_D E).2 q) H1 (updV (vp_V (si_fs E q (I a) (J a) (Rf a))) j v))
    (hI : ∀ b : Nat, b ≠ a → I1 b = I b) (hJ : ∀ b : Nat, b ≠ a → J1 b = J b) (hR : ∀ b : Nat, b ≠ a → R1 b = Rf b)
    (hj : v = si_fv E (si_ty q j) (I1 a j) (J1 a j) (R1 a j)) (hn : ∀ i, i ≠ j → I1 a i = I a i ∧ J1 a i = J a i ∧ R1 a i = Rf a i) : si_S E s R nL H1 (locs ++ [⟨si_ad E a, sl⟩]) cells slots ls lo B I1 J1 R1 G := by
  have ha := S.1.2.2.1 a (by omega)
  refine ⟨S.1.put (a := a) (by omega) z1 oq ?_ hI hJ hR, S.2.1, S.2.2.1.put z1 oq (by have := S.1.2.1; show E.1 < si_ad E a; rw [si_ad_lt (by omega)]; omega), S.2.2.2⟩
  rw [si_cellO hk1 (Nat.lt_succ_of_lt hq)]
  refine ⟨_, si_cl_all hq, hO.to (fun i hi => ?_)⟩
  rw [si_fs_V hi]
  by_cases e : i = j
  · subst e
    rw [← hj]
    simp [updV]
  · obtain ⟨n1, n2, n3⟩ := hn i e
    rw [n1, n2, n3]
    simp only [updV, if_neg e]
    exact si_fs_V hi
theorem si_s_putfield {ix : Nat} (C0 : si_C p R s m args meth c cc E adV nL o ini) (hk : si_ok p l e R s m args below meth c Q E nL k) (hd : decode cc pc = .ok (.putfield ix, len)) (hl : len = 3) (hF : F.1 = o) (hF2 : F.2.1 = ini) (hck : (ai_fld si_t o ix).1 < 11) (S : si_S E s R nL H locs cells slots ls lo B I J Rf G)
    (h : ai_stp si_t F call post (.putfield ix) len pc lo st B I J Rf G k) : W p l e R s m args below meth c H locs cells slots Q (F0 m pc ls (st.map (si_v E))) := by
  subst hl
  obtain ⟨q, j, ty, fin, v, a, r, hf, rfl, hfin, hk1, h⟩ := ai_sto_inv h
  rw [hF] at hf
  rw [hf] at hck
  have hck : q < 11 := hck
  obtain ⟨f1, f2, f3, f4, f5⟩ := si_fld hf hck
  obtain ⟨c1, c2, c3, c4, c5, c6⟩ := si_cls hck
  have c3 := (c3 j f2).1
  rw [f5] at c3
  have ha := (S.1.2.2.1 a (by omega)).1
  have hP := S.1.at1 (by omega) (si_cellO hk1 (Nat.lt_succ_of_lt hck))
  rw [show (v :: Sum.inr (Sum.inr a) :: r : List ai_V).map (si_v E) = si_v E v :: si_v E (.inr (.inr a)) :: r.map (si_v E) from rfl, si_v_pos ha]
  have hfin : fin = true → ini = true ∧ o = q := fun z => by rw [← hF, ← hF2]; exact hfin z
  rcases h with ⟨x, rfl, rfl, h⟩ | ⟨x, rfl, rfl, hb1, h⟩ | ⟨x, rfl, rfl, h⟩ | ⟨b, rfl, rfl, h⟩
  · have c3 := si_code_0 c3
    refine si_putf C0 hd hck hf hfin hP (by rw [c3]; rfl) (by rw [c3]; rfl) (fun H1 z1 oq hO sl => hk _ _ _ _ _ _ _ _ _ _ _ _ _ h (si_put_done S hk1 hck z1 oq hO (fun b hb => by simp [va_up, hb]) (fun b hb => rfl) (fun b hb => rfl) ?_ (fun i hi => ⟨by simp [va_up, hi], rfl, rfl⟩)))
    rw [f5]
    show Value.int x = Value.int _
    simp [va_up]
  · have c3 := si_code_3 c3
    refine si_putf C0 hd hck hf hfin hP (by rw [c3]; exact hb1) (by rw [c3]; exact si_bool_fit hb1) (fun H1 z1 oq hO sl => hk _ _ _ _ _ _ _ _ _ _ _ _ _ h (si_put_done S hk1 hck z1 oq hO (fun b hb => by simp [va_up, hb]) (fun b hb => rfl) (fun b hb => rfl) ?_ (fun i hi => ⟨by simp [va_up, hi], rfl, rfl⟩)))
    rw [f5]
    show Value.int x = Value.int _
    simp [va_up]
  · have c3 := si_code_1 c3
    refine si_putf C0 hd hck hf hfin hP (by rw [c3]; rfl) (by rw [c3]; rfl) (fun H1 z1 oq hO sl => hk _ _ _ _ _ _ _ _ _ _ _ _ _ h (si_put_done S hk1 hck z1 oq hO (fun b hb => rfl) (fun b hb => by simp [va_up, hb]) (fun b hb => rfl) ?_ (fun i hi => ⟨rfl, by simp [va_up, hi], rfl⟩)))
    rw [f5]
    show Value.long x = Value.long _
    simp [va_up]
  · have c3 := si_code_2 c3
    have hn : narrow (si_ft q j) (si_v E (.inr (.inr b))) = si_v E (.inr (.inr b)) := by
      rcases c3 with ⟨n, e⟩ | ⟨g, e⟩ <;> rw [e] <;> cases b <;> rfl
    have hft : fits (si_ft q j) (si_v E (.inr (.inr b))) = true := by
      rcases c3 with ⟨n, e⟩ | ⟨g, e⟩ <;> rw [e] <;> cases b <;> rfl
    refine si_putf C0 hd hck hf hfin hP hn hft (fun H1 z1 oq hO sl => hk _ _ _ _ _ _ _ _ _ _ _ _ _ h (si_put_done S hk1 hck z1 oq hO (fun b hb => rfl) (fun b hb => rfl) (fun b hb => by simp [va_up, hb]) ?_ (fun i hi => ⟨rfl, rfl, by simp [va_up, hi]⟩)))
    rw [f5]
    show va_rf (si_o E b) = va_rf (si_o E _)
    simp [va_up]
end
