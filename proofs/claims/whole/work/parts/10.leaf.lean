/-! Specs of small methods on the abstract machine. Printed by wip/whole/specs1.py. -/
/-- Integer.bitCount, as its code counts -/
def jd_b1 (x : Int32) : Int32 := x - (((x.toUInt32 >>> (Int32.toUInt32 1 &&& Int32.toUInt32 31)).toInt32) &&& 1431655765)
def jd_b2 (x : Int32) : Int32 := (x &&& 858993459) + (((x.toUInt32 >>> (Int32.toUInt32 2 &&& Int32.toUInt32 31)).toInt32) &&& 858993459)
def jd_b3 (x : Int32) : Int32 := (x + (x.toUInt32 >>> (Int32.toUInt32 4 &&& Int32.toUInt32 31)).toInt32) &&& 252645135
def jd_b4 (x : Int32) : Int32 := x + (x.toUInt32 >>> (Int32.toUInt32 8 &&& Int32.toUInt32 31)).toInt32
def jd_b5 (x : Int32) : Int32 := x + (x.toUInt32 >>> (Int32.toUInt32 16 &&& Int32.toUInt32 31)).toInt32
def jd_bc (x : Int32) : Int32 := jd_b5 (jd_b4 (jd_b3 (jd_b2 (jd_b1 x)))) &&& 63
/-- java/lang/Integer.bitCount(I)I -/
theorem sp_331 {d : Nat} {I : ai_I} {J : ai_J} {Rf : ai_R} {G : ai_G} {x : Int32} (hd : 1 ≤ d) : ai_Cl si_t si_ms d 331 [.inl x] I J Rf G (some (.inl (jd_bc x))) I J Rf G := by
  obtain ⟨e, rfl⟩ : ∃ e, d = e + 1 := ⟨d - 1, by omega⟩
  refine sp_in (lo := [some (.inl x)]) (B := (0, 0)) rfl (by decide) rfl rfl ?_
  refine go_iload_n (pc' := 1) rfl rfl rfl ?_
  refine go_iload_n (pc' := 2) rfl rfl rfl ?_
  refine go_iconst (pc' := 3) (v := 1) rfl rfl rfl ?_
  refine go_iushr (pc' := 4) rfl rfl ?_
  refine go_ldc_w (pc' := 7) (v := .inl (1431655765 : Int32)) rfl rfl rfl ?_
  refine go_iand (pc' := 8) rfl rfl ?_
  refine go_isub (pc' := 9) rfl rfl ?_
  refine go_nmI (fun x0_9 ex0_9 => ?_)
  refine go_istore_n (pc' := 10) (lo' := [some (.inl x0_9)]) rfl rfl rfl ?_
  refine go_iload_n (pc' := 11) rfl rfl rfl ?_
  refine go_ldc_w (pc' := 14) (v := .inl (858993459 : Int32)) rfl rfl rfl ?_
  refine go_iand (pc' := 15) rfl rfl ?_
  refine go_iload_n (pc' := 16) rfl rfl rfl ?_
  refine go_iconst (pc' := 17) (v := 2) rfl rfl rfl ?_
  refine go_iushr (pc' := 18) rfl rfl ?_
  refine go_ldc_w (pc' := 21) (v := .inl (858993459 : Int32)) rfl rfl rfl ?_
  refine go_iand (pc' := 22) rfl rfl ?_
  refine go_iadd (pc' := 23) rfl rfl ?_
  refine go_nmI (fun x0_23 ex0_23 => ?_)
  refine go_istore_n (pc' := 24) (lo' := [some (.inl x0_23)]) rfl rfl rfl ?_
  refine go_iload_n (pc' := 25) rfl rfl rfl ?_
  refine go_iload_n (pc' := 26) rfl rfl rfl ?_
  refine go_iconst (pc' := 27) (v := 4) rfl rfl rfl ?_
  refine go_iushr (pc' := 28) rfl rfl ?_
  refine go_iadd (pc' := 29) rfl rfl ?_
  refine go_ldc_w (pc' := 32) (v := .inl (252645135 : Int32)) rfl rfl rfl ?_
  refine go_iand (pc' := 33) rfl rfl ?_
  refine go_nmI (fun x0_33 ex0_33 => ?_)
  refine go_istore_n (pc' := 34) (lo' := [some (.inl x0_33)]) rfl rfl rfl ?_
  refine go_iload_n (pc' := 35) rfl rfl rfl ?_
  refine go_iload_n (pc' := 36) rfl rfl rfl ?_
  refine go_bipush (pc' := 38) (v := 8) rfl rfl rfl ?_
  refine go_iushr (pc' := 39) rfl rfl ?_
  refine go_iadd (pc' := 40) rfl rfl ?_
  refine go_nmI (fun x0_40 ex0_40 => ?_)
  refine go_istore_n (pc' := 41) (lo' := [some (.inl x0_40)]) rfl rfl rfl ?_
  refine go_iload_n (pc' := 42) rfl rfl rfl ?_
  refine go_iload_n (pc' := 43) rfl rfl rfl ?_
  refine go_bipush (pc' := 45) (v := 16) rfl rfl rfl ?_
  refine go_iushr (pc' := 46) rfl rfl ?_
  refine go_iadd (pc' := 47) rfl rfl ?_
  refine go_nmI (fun x0_47 ex0_47 => ?_)
  refine go_istore_n (pc' := 48) (lo' := [some (.inl x0_47)]) rfl rfl rfl ?_
  refine go_iload_n (pc' := 49) rfl rfl rfl ?_
  refine go_bipush (pc' := 51) (v := 63) rfl rfl rfl ?_
  refine go_iand (pc' := 52) rfl rfl ?_
  refine go_iret rfl (trivial) ?_
  exact ⟨by subst_vars; rfl, rfl, rfl, rfl, rfl⟩
/-- PricedBases.bit(Z)I -/
theorem sp_182 {d : Nat} {I : ai_I} {J : ai_J} {Rf : ai_R} {G : ai_G} {x : Int32} (hd : 1 ≤ d) : ai_Cl si_t si_ms d 182 [.inl x] I J Rf G (some (.inl (if x = 0 then 0 else 1))) I J Rf G := by
  obtain ⟨e, rfl⟩ : ∃ e, d = e + 1 := ⟨d - 1, by omega⟩
  refine sp_in (lo := [some (.inl x)]) (B := (0, 0)) rfl (by decide) rfl rfl ?_
  refine go_iload_n (pc' := 1) rfl rfl rfl ?_
  refine go_if_eq (pt := 8) (pc' := 4) rfl rfl rfl (fun h1 => ?_) (fun h1 => ?_)
  · refine go_iconst (pc' := 9) (v := 0) rfl rfl rfl ?_
    refine go_iret rfl (trivial) ?_
    exact ⟨by simp [*], rfl, rfl, rfl, rfl⟩
  · refine go_iconst (pc' := 5) (v := 1) rfl rfl rfl ?_
    refine go_goto (pc' := 9) rfl rfl ?_
    refine go_iret rfl (trivial) ?_
    exact ⟨by simp [*], rfl, rfl, rfl, rfl⟩
/-- PricedBases.isIn(II)Z -/
theorem sp_183 {d : Nat} {I : ai_I} {J : ai_J} {Rf : ai_R} {G : ai_G} {x k : Int32} (hd : 1 ≤ d) : ai_Cl si_t si_ms d 183 [.inl x, .inl k] I J Rf G (some (.inl (if (x >>> (k &&& 31)) &&& 1 = 1 then 1 else 0))) I J Rf G := by
  obtain ⟨e, rfl⟩ : ∃ e, d = e + 1 := ⟨d - 1, by omega⟩
  refine sp_in (lo := [some (.inl x), some (.inl k)]) (B := (0, 0)) rfl (by decide) rfl rfl ?_
  refine go_iload_n (pc' := 1) rfl rfl rfl ?_
  refine go_iload_n (pc' := 2) rfl rfl rfl ?_
  refine go_ishr (pc' := 3) rfl rfl ?_
  refine go_iconst (pc' := 4) (v := 1) rfl rfl rfl ?_
  refine go_iand (pc' := 5) rfl rfl ?_
  refine go_iconst (pc' := 6) (v := 1) rfl rfl rfl ?_
  refine go_icmp_ne (pt := 13) (pc' := 9) rfl rfl rfl (fun h6 => ?_) (fun h6 => ?_)
  · refine go_iconst (pc' := 14) (v := 0) rfl rfl rfl ?_
    refine go_iret rfl (by rfl) ?_
    exact ⟨by simp [*], rfl, rfl, rfl, rfl⟩
  · refine go_iconst (pc' := 10) (v := 1) rfl rfl rfl ?_
    refine go_goto (pc' := 14) rfl rfl ?_
    refine go_iret rfl (by rfl) ?_
    exact ⟨by simp [*], rfl, rfl, rfl, rfl⟩
/-- PricedBases.next(I)I -/
theorem sp_184 {d : Nat} {I : ai_I} {J : ai_J} {Rf : ai_R} {G : ai_G} {x : Int32} (hd : 1 ≤ d) : ai_Cl si_t si_ms d 184 [.inl x] I J Rf G (some (.inl ((25173 * x + 13849) &&& 65535))) I J Rf G := by
  obtain ⟨e, rfl⟩ : ∃ e, d = e + 1 := ⟨d - 1, by omega⟩
  refine sp_in (lo := [some (.inl x)]) (B := (0, 0)) rfl (by decide) rfl rfl ?_
  refine go_sipush (pc' := 3) (v := 25173) rfl rfl rfl ?_
  refine go_iload_n (pc' := 4) rfl rfl rfl ?_
  refine go_imul (pc' := 5) rfl rfl ?_
  refine go_sipush (pc' := 8) (v := 13849) rfl rfl rfl ?_
  refine go_iadd (pc' := 9) rfl rfl ?_
  refine go_ldc_w (pc' := 12) (v := .inl (65535 : Int32)) rfl rfl rfl ?_
  refine go_iand (pc' := 13) rfl rfl ?_
  refine go_iret rfl (trivial) ?_
  exact ⟨rfl, rfl, rfl, rfl, rfl⟩
/-- PricedBases$Ways.areBeside(II)Z -/
theorem sp_129 {d : Nat} {I : ai_I} {J : ai_J} {Rf : ai_R} {G : ai_G} {x y : Int32} (hd : 2 ≤ d) : ai_Cl si_t si_ms d 129 [.inl x, .inl y] I J Rf G (some (.inl (if jd_bc (x ^^^ y) = 2 then 1 else 0))) I J Rf G := by
  obtain ⟨e, rfl⟩ : ∃ e, d = e + 1 := ⟨d - 1, by omega⟩
  refine sp_in (lo := [some (.inl x), some (.inl y)]) (B := (0, 0)) rfl (by decide) rfl rfl ?_
  refine go_iload_n (pc' := 1) rfl rfl rfl ?_
  refine go_iload_n (pc' := 2) rfl rfl rfl ?_
  refine go_ixor (pc' := 3) rfl rfl ?_
  refine go_callS (pc' := 6) rfl rfl (Or.inl (by decide)) rfl rfl (trivial) (sp_331 (by omega)) rfl rfl rfl ?_
  refine go_iconst (pc' := 7) (v := 2) rfl rfl rfl ?_
  refine go_icmp_ne (pt := 14) (pc' := 10) rfl rfl rfl (fun h7 => ?_) (fun h7 => ?_)
  · refine go_iconst (pc' := 15) (v := 0) rfl rfl rfl ?_
    refine go_iret rfl (by rfl) ?_
    exact ⟨by simp [*], rfl, rfl, rfl, rfl⟩
  · refine go_iconst (pc' := 11) (v := 1) rfl rfl rfl ?_
    refine go_goto (pc' := 15) rfl rfl ?_
    refine go_iret rfl (by rfl) ?_
    exact ⟨by simp [*], rfl, rfl, rfl, rfl⟩
/-- PricedBases$Valuation.sets()I -/
theorem sp_118 {d : Nat} {I : ai_I} {J : ai_J} {Rf : ai_R} {G : ai_G} {v : Nat} (hv : G.1 v = 8) (hd : 1 ≤ d) : ai_Cl si_t si_ms d 118 [.inr (.inr v)] I J Rf G (some (.inl (1 <<< (I v 0 &&& 31)))) I J Rf G := by
  obtain ⟨e, rfl⟩ : ∃ e, d = e + 1 := ⟨d - 1, by omega⟩
  refine sp_in (lo := [some (.inr (.inr v))]) (B := (0, 0)) rfl (by decide) rfl rfl ?_
  refine go_iconst (pc' := 1) (v := 1) rfl rfl rfl ?_
  refine go_aload_n (pc' := 2) rfl rfl rfl ?_
  refine go_getI (pc' := 5) rfl rfl (by decide) (by decide) (by assumption) rfl ?_
  refine go_ishl (pc' := 6) rfl rfl ?_
  refine go_iret rfl (trivial) ?_
  exact ⟨rfl, rfl, rfl, rfl, rfl⟩
/-- PricedBases$Valuation.all()I -/
theorem sp_119 {d : Nat} {I : ai_I} {J : ai_J} {Rf : ai_R} {G : ai_G} {v : Nat} (hv : G.1 v = 8) (hd : 2 ≤ d) : ai_Cl si_t si_ms d 119 [.inr (.inr v)] I J Rf G (some (.inl ((1 <<< (I v 0 &&& 31)) - 1))) I J Rf G := by
  obtain ⟨e, rfl⟩ : ∃ e, d = e + 1 := ⟨d - 1, by omega⟩
  refine sp_in (lo := [some (.inr (.inr v))]) (B := (0, 0)) rfl (by decide) rfl rfl ?_
  refine go_aload_n (pc' := 1) rfl rfl rfl ?_
  refine go_callV (pc' := 4) rfl rfl (Or.inl (by decide)) rfl rfl (hv) (sp_118 hv (by omega)) rfl rfl rfl ?_
  refine go_iconst (pc' := 5) (v := 1) rfl rfl rfl ?_
  refine go_isub (pc' := 6) rfl rfl ?_
  refine go_iret rfl (trivial) ?_
  exact ⟨rfl, rfl, rfl, rfl, rfl⟩
/-- PricedBases$Valuation.hasElement(I)Z -/
theorem sp_120 {d : Nat} {I : ai_I} {J : ai_J} {Rf : ai_R} {G : ai_G} {v : Nat} {x : Int32} (hv : G.1 v = 8) (hd : 1 ≤ d) : ai_Cl si_t si_ms d 120 [.inr (.inr v), .inl x] I J Rf G (some (.inl (if 0 ≤ x ∧ x < I v 0 then 1 else 0))) I J Rf G := by
  obtain ⟨e, rfl⟩ : ∃ e, d = e + 1 := ⟨d - 1, by omega⟩
  refine sp_in (lo := [some (.inr (.inr v)), some (.inl x)]) (B := (0, 0)) rfl (by decide) rfl rfl ?_
  refine go_iload_n (pc' := 1) rfl rfl rfl ?_
  refine go_if_lt (pt := 16) (pc' := 4) rfl rfl rfl (fun h1 => ?_) (fun h1 => ?_)
  · refine go_iconst (pc' := 17) (v := 0) rfl rfl rfl ?_
    refine go_iret rfl (by rfl) ?_
    exact ⟨by simp_all, rfl, rfl, rfl, rfl⟩
  · refine go_iload_n (pc' := 5) rfl rfl rfl ?_
    refine go_aload_n (pc' := 6) rfl rfl rfl ?_
    refine go_getI (pc' := 9) rfl rfl (by decide) (by decide) (by assumption) rfl ?_
    refine go_icmp_ge (pt := 16) (pc' := 12) rfl rfl rfl (fun h9 => ?_) (fun h9 => ?_)
    · refine go_iconst (pc' := 17) (v := 0) rfl rfl rfl ?_
      refine go_iret rfl (by rfl) ?_
      exact ⟨by simp_all, rfl, rfl, rfl, rfl⟩
    · refine go_iconst (pc' := 13) (v := 1) rfl rfl rfl ?_
      refine go_goto (pc' := 17) rfl rfl ?_
      refine go_iret rfl (by rfl) ?_
      exact ⟨by simp_all, rfl, rfl, rfl, rfl⟩
/-- PricedBases$Valuation.hasSet(I)Z -/
theorem sp_121 {d : Nat} {I : ai_I} {J : ai_J} {Rf : ai_R} {G : ai_G} {v : Nat} {x : Int32} (hv : G.1 v = 8) (hd : 1 ≤ d) : ai_Cl si_t si_ms d 121 [.inr (.inr v), .inl x] I J Rf G (some (.inl (if 0 ≤ x ∧ x < 1 <<< (I v 0 &&& 31) then 1 else 0))) I J Rf G := by
  obtain ⟨e, rfl⟩ : ∃ e, d = e + 1 := ⟨d - 1, by omega⟩
  refine sp_in (lo := [some (.inr (.inr v)), some (.inl x)]) (B := (0, 0)) rfl (by decide) rfl rfl ?_
  refine go_iload_n (pc' := 1) rfl rfl rfl ?_
  refine go_if_lt (pt := 18) (pc' := 4) rfl rfl rfl (fun h1 => ?_) (fun h1 => ?_)
  · refine go_iconst (pc' := 19) (v := 0) rfl rfl rfl ?_
    refine go_iret rfl (by rfl) ?_
    exact ⟨by simp_all, rfl, rfl, rfl, rfl⟩
  · refine go_iload_n (pc' := 5) rfl rfl rfl ?_
    refine go_iconst (pc' := 6) (v := 1) rfl rfl rfl ?_
    refine go_aload_n (pc' := 7) rfl rfl rfl ?_
    refine go_getI (pc' := 10) rfl rfl (by decide) (by decide) (by assumption) rfl ?_
    refine go_ishl (pc' := 11) rfl rfl ?_
    refine go_icmp_ge (pt := 18) (pc' := 14) rfl rfl rfl (fun h11 => ?_) (fun h11 => ?_)
    · refine go_iconst (pc' := 19) (v := 0) rfl rfl rfl ?_
      refine go_iret rfl (by rfl) ?_
      exact ⟨by simp_all, rfl, rfl, rfl, rfl⟩
    · refine go_iconst (pc' := 15) (v := 1) rfl rfl rfl ?_
      refine go_goto (pc' := 19) rfl rfl ?_
      refine go_iret rfl (by rfl) ?_
      exact ⟨by simp_all, rfl, rfl, rfl, rfl⟩
