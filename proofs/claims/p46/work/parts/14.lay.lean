/-! The cells as the constructors leave them: kinds, lengths, what points where. Printed by wip/p46/lay.py. -/
def kL : List Nat := [99, 10, 6, 15, 13, 13, 8, 13, 13, 13, 8, 13, 13, 13, 8, 13, 13, 13, 8, 13, 13, 13, 6, 15, 13, 13, 8, 13, 13, 13, 8, 13, 13, 13, 8, 13, 13, 13, 8, 13, 13, 13, 13, 0, 13, 13, 13, 13, 12, 3, 8, 13, 13, 13, 13, 2, 13, 7, 13, 5, 13, 1, 13, 9, 13, 13, 13, 4, 13, 13, 13, 14, 14, 13, 13]
def nL : List Nat := [0, 0, 0, 4, 8, 80, 0, 256, 256, 70, 0, 256, 256, 70, 0, 256, 256, 70, 0, 256, 256, 70, 0, 4, 8, 80, 0, 256, 256, 70, 0, 256, 256, 70, 0, 256, 256, 70, 0, 256, 256, 70, 240, 0, 0, 16, 17, 100, 1024, 0, 0, 256, 256, 70, 256, 0, 256, 0, 256, 0, 8, 0, 8, 0, 256, 256, 70, 0, 8, 8, 256, 8, 8, 256, 8]
def rL : List (List Nat) := [[], [2, 22, 0, 42, 0, 43, 49, 55, 57, 59, 61, 63, 67, 73, 74], [3, 4, 5], [6, 10, 14, 18], [], [], [0, 0, 0, 7, 8, 9], [], [], [], [0, 0, 0, 11, 12, 13], [], [], [], [0, 0, 0, 15, 16, 17], [], [], [], [0, 0, 0, 19, 20, 21], [], [], [], [23, 24, 25], [26, 30, 34, 38], [], [], [0, 0, 0, 27, 28, 29], [], [], [], [0, 0, 0, 31, 32, 33], [], [], [], [0, 0, 0, 35, 36, 37], [], [], [], [0, 0, 0, 39, 40, 41], [], [], [], [], [0, 0, 44, 0, 0, 45, 46, 47, 0, 48], [], [], [], [], [], [50, 54], [0, 0, 0, 51, 52, 53], [], [], [], [], [0, 0, 0, 56], [], [58], [], [60], [], [0, 0, 0, 62], [], [64, 65, 66], [], [], [], [68, 69, 70, 71, 72], [], [], [], [], [], [], []]
/-- kinds, lengths, how many: the class's cells, and behind them whatever L has -/
def Gc (L : ai_G) : ai_G := (fun a => if a ≤ 74 then kL.getD a 99 else L.1 a, fun a => if a ≤ 74 then nL.getD a 0 else L.2.1 a, L.2.2)
/-- what points where; the reader's text (cell 43, field 2) is t -/
def Rc (t : Nat) : ai_R := fun a j => if a = 43 ∧ j = 2 then t else (rL.getD a []).getD j 0
theorem o_g_t {α : Type} (k : Option α) : o_g true k = k := rfl
theorem gi {L : ai_G} {k a n i : Nat} (hk : (Gc L).1 a = k) (hn : (Gc L).2.1 a = n) (hi : i < n) (hn2 : n < 2147483648) : o_in (Gc L) k a (nI i) = true := o_in_of hk (nI_pos (by omega)) (by rw [hn, nI_clamp (by omega)]; exact hi)
theorem k_1 {L : ai_G} : o_kd (Gc L) 1 10 = true := rfl
theorem r_1_0 {t : Nat} : Rc t 1 0 = 2 := rfl
theorem r_1_1 {t : Nat} : Rc t 1 1 = 22 := rfl
theorem r_1_3 {t : Nat} : Rc t 1 3 = 42 := rfl
theorem r_1_5 {t : Nat} : Rc t 1 5 = 43 := rfl
theorem r_1_6 {t : Nat} : Rc t 1 6 = 49 := rfl
theorem r_1_7 {t : Nat} : Rc t 1 7 = 55 := rfl
theorem r_1_8 {t : Nat} : Rc t 1 8 = 57 := rfl
theorem r_1_9 {t : Nat} : Rc t 1 9 = 59 := rfl
theorem r_1_10 {t : Nat} : Rc t 1 10 = 61 := rfl
theorem r_1_11 {t : Nat} : Rc t 1 11 = 63 := rfl
theorem r_1_12 {t : Nat} : Rc t 1 12 = 67 := rfl
theorem r_1_13 {t : Nat} : Rc t 1 13 = 73 := rfl
theorem r_1_14 {t : Nat} : Rc t 1 14 = 74 := rfl
theorem k_2 {L : ai_G} : o_kd (Gc L) 2 6 = true := rfl
theorem r_2_0 {t : Nat} : Rc t 2 0 = 3 := rfl
theorem r_2_1 {t : Nat} : Rc t 2 1 = 4 := rfl
theorem r_2_2 {t : Nat} : Rc t 2 2 = 5 := rfl
theorem kk_4 {L : ai_G} : (Gc L).1 4 = 13 ∧ (Gc L).2.1 4 = 8 := ⟨rfl, rfl⟩
theorem g_4 {L : ai_G} {i : Nat} (hi : i < 8) : o_in (Gc L) 13 4 (nI i) = true := gi (n := 8) rfl rfl hi (by decide)
theorem kk_5 {L : ai_G} : (Gc L).1 5 = 13 ∧ (Gc L).2.1 5 = 80 := ⟨rfl, rfl⟩
theorem g_5 {L : ai_G} {i : Nat} (hi : i < 80) : o_in (Gc L) 13 5 (nI i) = true := gi (n := 80) rfl rfl hi (by decide)
theorem k_6 {L : ai_G} : o_kd (Gc L) 6 8 = true := rfl
theorem r_6_3 {t : Nat} : Rc t 6 3 = 7 := rfl
theorem r_6_4 {t : Nat} : Rc t 6 4 = 8 := rfl
theorem r_6_5 {t : Nat} : Rc t 6 5 = 9 := rfl
theorem kk_7 {L : ai_G} : (Gc L).1 7 = 13 ∧ (Gc L).2.1 7 = 256 := ⟨rfl, rfl⟩
theorem g_7 {L : ai_G} {i : Nat} (hi : i < 256) : o_in (Gc L) 13 7 (nI i) = true := gi (n := 256) rfl rfl hi (by decide)
theorem kk_8 {L : ai_G} : (Gc L).1 8 = 13 ∧ (Gc L).2.1 8 = 256 := ⟨rfl, rfl⟩
theorem g_8 {L : ai_G} {i : Nat} (hi : i < 256) : o_in (Gc L) 13 8 (nI i) = true := gi (n := 256) rfl rfl hi (by decide)
theorem kk_9 {L : ai_G} : (Gc L).1 9 = 13 ∧ (Gc L).2.1 9 = 70 := ⟨rfl, rfl⟩
theorem g_9 {L : ai_G} {i : Nat} (hi : i < 70) : o_in (Gc L) 13 9 (nI i) = true := gi (n := 70) rfl rfl hi (by decide)
theorem k_10 {L : ai_G} : o_kd (Gc L) 10 8 = true := rfl
theorem r_10_3 {t : Nat} : Rc t 10 3 = 11 := rfl
theorem r_10_4 {t : Nat} : Rc t 10 4 = 12 := rfl
theorem r_10_5 {t : Nat} : Rc t 10 5 = 13 := rfl
theorem kk_11 {L : ai_G} : (Gc L).1 11 = 13 ∧ (Gc L).2.1 11 = 256 := ⟨rfl, rfl⟩
theorem g_11 {L : ai_G} {i : Nat} (hi : i < 256) : o_in (Gc L) 13 11 (nI i) = true := gi (n := 256) rfl rfl hi (by decide)
theorem kk_12 {L : ai_G} : (Gc L).1 12 = 13 ∧ (Gc L).2.1 12 = 256 := ⟨rfl, rfl⟩
theorem g_12 {L : ai_G} {i : Nat} (hi : i < 256) : o_in (Gc L) 13 12 (nI i) = true := gi (n := 256) rfl rfl hi (by decide)
theorem kk_13 {L : ai_G} : (Gc L).1 13 = 13 ∧ (Gc L).2.1 13 = 70 := ⟨rfl, rfl⟩
theorem g_13 {L : ai_G} {i : Nat} (hi : i < 70) : o_in (Gc L) 13 13 (nI i) = true := gi (n := 70) rfl rfl hi (by decide)
theorem k_14 {L : ai_G} : o_kd (Gc L) 14 8 = true := rfl
theorem r_14_3 {t : Nat} : Rc t 14 3 = 15 := rfl
theorem r_14_4 {t : Nat} : Rc t 14 4 = 16 := rfl
theorem r_14_5 {t : Nat} : Rc t 14 5 = 17 := rfl
theorem kk_15 {L : ai_G} : (Gc L).1 15 = 13 ∧ (Gc L).2.1 15 = 256 := ⟨rfl, rfl⟩
theorem g_15 {L : ai_G} {i : Nat} (hi : i < 256) : o_in (Gc L) 13 15 (nI i) = true := gi (n := 256) rfl rfl hi (by decide)
theorem kk_16 {L : ai_G} : (Gc L).1 16 = 13 ∧ (Gc L).2.1 16 = 256 := ⟨rfl, rfl⟩
theorem g_16 {L : ai_G} {i : Nat} (hi : i < 256) : o_in (Gc L) 13 16 (nI i) = true := gi (n := 256) rfl rfl hi (by decide)
theorem kk_17 {L : ai_G} : (Gc L).1 17 = 13 ∧ (Gc L).2.1 17 = 70 := ⟨rfl, rfl⟩
theorem g_17 {L : ai_G} {i : Nat} (hi : i < 70) : o_in (Gc L) 13 17 (nI i) = true := gi (n := 70) rfl rfl hi (by decide)
theorem k_18 {L : ai_G} : o_kd (Gc L) 18 8 = true := rfl
theorem r_18_3 {t : Nat} : Rc t 18 3 = 19 := rfl
theorem r_18_4 {t : Nat} : Rc t 18 4 = 20 := rfl
theorem r_18_5 {t : Nat} : Rc t 18 5 = 21 := rfl
theorem kk_19 {L : ai_G} : (Gc L).1 19 = 13 ∧ (Gc L).2.1 19 = 256 := ⟨rfl, rfl⟩
theorem g_19 {L : ai_G} {i : Nat} (hi : i < 256) : o_in (Gc L) 13 19 (nI i) = true := gi (n := 256) rfl rfl hi (by decide)
theorem kk_20 {L : ai_G} : (Gc L).1 20 = 13 ∧ (Gc L).2.1 20 = 256 := ⟨rfl, rfl⟩
theorem g_20 {L : ai_G} {i : Nat} (hi : i < 256) : o_in (Gc L) 13 20 (nI i) = true := gi (n := 256) rfl rfl hi (by decide)
theorem kk_21 {L : ai_G} : (Gc L).1 21 = 13 ∧ (Gc L).2.1 21 = 70 := ⟨rfl, rfl⟩
theorem g_21 {L : ai_G} {i : Nat} (hi : i < 70) : o_in (Gc L) 13 21 (nI i) = true := gi (n := 70) rfl rfl hi (by decide)
theorem k_22 {L : ai_G} : o_kd (Gc L) 22 6 = true := rfl
theorem r_22_0 {t : Nat} : Rc t 22 0 = 23 := rfl
theorem r_22_1 {t : Nat} : Rc t 22 1 = 24 := rfl
theorem r_22_2 {t : Nat} : Rc t 22 2 = 25 := rfl
theorem kk_24 {L : ai_G} : (Gc L).1 24 = 13 ∧ (Gc L).2.1 24 = 8 := ⟨rfl, rfl⟩
theorem g_24 {L : ai_G} {i : Nat} (hi : i < 8) : o_in (Gc L) 13 24 (nI i) = true := gi (n := 8) rfl rfl hi (by decide)
theorem kk_25 {L : ai_G} : (Gc L).1 25 = 13 ∧ (Gc L).2.1 25 = 80 := ⟨rfl, rfl⟩
theorem g_25 {L : ai_G} {i : Nat} (hi : i < 80) : o_in (Gc L) 13 25 (nI i) = true := gi (n := 80) rfl rfl hi (by decide)
theorem k_26 {L : ai_G} : o_kd (Gc L) 26 8 = true := rfl
theorem r_26_3 {t : Nat} : Rc t 26 3 = 27 := rfl
theorem r_26_4 {t : Nat} : Rc t 26 4 = 28 := rfl
theorem r_26_5 {t : Nat} : Rc t 26 5 = 29 := rfl
theorem kk_27 {L : ai_G} : (Gc L).1 27 = 13 ∧ (Gc L).2.1 27 = 256 := ⟨rfl, rfl⟩
theorem g_27 {L : ai_G} {i : Nat} (hi : i < 256) : o_in (Gc L) 13 27 (nI i) = true := gi (n := 256) rfl rfl hi (by decide)
theorem kk_28 {L : ai_G} : (Gc L).1 28 = 13 ∧ (Gc L).2.1 28 = 256 := ⟨rfl, rfl⟩
theorem g_28 {L : ai_G} {i : Nat} (hi : i < 256) : o_in (Gc L) 13 28 (nI i) = true := gi (n := 256) rfl rfl hi (by decide)
theorem kk_29 {L : ai_G} : (Gc L).1 29 = 13 ∧ (Gc L).2.1 29 = 70 := ⟨rfl, rfl⟩
theorem g_29 {L : ai_G} {i : Nat} (hi : i < 70) : o_in (Gc L) 13 29 (nI i) = true := gi (n := 70) rfl rfl hi (by decide)
theorem k_30 {L : ai_G} : o_kd (Gc L) 30 8 = true := rfl
theorem r_30_3 {t : Nat} : Rc t 30 3 = 31 := rfl
theorem r_30_4 {t : Nat} : Rc t 30 4 = 32 := rfl
theorem r_30_5 {t : Nat} : Rc t 30 5 = 33 := rfl
theorem kk_31 {L : ai_G} : (Gc L).1 31 = 13 ∧ (Gc L).2.1 31 = 256 := ⟨rfl, rfl⟩
theorem g_31 {L : ai_G} {i : Nat} (hi : i < 256) : o_in (Gc L) 13 31 (nI i) = true := gi (n := 256) rfl rfl hi (by decide)
theorem kk_32 {L : ai_G} : (Gc L).1 32 = 13 ∧ (Gc L).2.1 32 = 256 := ⟨rfl, rfl⟩
theorem g_32 {L : ai_G} {i : Nat} (hi : i < 256) : o_in (Gc L) 13 32 (nI i) = true := gi (n := 256) rfl rfl hi (by decide)
theorem kk_33 {L : ai_G} : (Gc L).1 33 = 13 ∧ (Gc L).2.1 33 = 70 := ⟨rfl, rfl⟩
theorem g_33 {L : ai_G} {i : Nat} (hi : i < 70) : o_in (Gc L) 13 33 (nI i) = true := gi (n := 70) rfl rfl hi (by decide)
theorem k_34 {L : ai_G} : o_kd (Gc L) 34 8 = true := rfl
theorem r_34_3 {t : Nat} : Rc t 34 3 = 35 := rfl
theorem r_34_4 {t : Nat} : Rc t 34 4 = 36 := rfl
theorem r_34_5 {t : Nat} : Rc t 34 5 = 37 := rfl
theorem kk_35 {L : ai_G} : (Gc L).1 35 = 13 ∧ (Gc L).2.1 35 = 256 := ⟨rfl, rfl⟩
theorem g_35 {L : ai_G} {i : Nat} (hi : i < 256) : o_in (Gc L) 13 35 (nI i) = true := gi (n := 256) rfl rfl hi (by decide)
theorem kk_36 {L : ai_G} : (Gc L).1 36 = 13 ∧ (Gc L).2.1 36 = 256 := ⟨rfl, rfl⟩
theorem g_36 {L : ai_G} {i : Nat} (hi : i < 256) : o_in (Gc L) 13 36 (nI i) = true := gi (n := 256) rfl rfl hi (by decide)
theorem kk_37 {L : ai_G} : (Gc L).1 37 = 13 ∧ (Gc L).2.1 37 = 70 := ⟨rfl, rfl⟩
theorem g_37 {L : ai_G} {i : Nat} (hi : i < 70) : o_in (Gc L) 13 37 (nI i) = true := gi (n := 70) rfl rfl hi (by decide)
theorem k_38 {L : ai_G} : o_kd (Gc L) 38 8 = true := rfl
theorem r_38_3 {t : Nat} : Rc t 38 3 = 39 := rfl
theorem r_38_4 {t : Nat} : Rc t 38 4 = 40 := rfl
theorem r_38_5 {t : Nat} : Rc t 38 5 = 41 := rfl
theorem kk_39 {L : ai_G} : (Gc L).1 39 = 13 ∧ (Gc L).2.1 39 = 256 := ⟨rfl, rfl⟩
theorem g_39 {L : ai_G} {i : Nat} (hi : i < 256) : o_in (Gc L) 13 39 (nI i) = true := gi (n := 256) rfl rfl hi (by decide)
theorem kk_40 {L : ai_G} : (Gc L).1 40 = 13 ∧ (Gc L).2.1 40 = 256 := ⟨rfl, rfl⟩
theorem g_40 {L : ai_G} {i : Nat} (hi : i < 256) : o_in (Gc L) 13 40 (nI i) = true := gi (n := 256) rfl rfl hi (by decide)
theorem kk_41 {L : ai_G} : (Gc L).1 41 = 13 ∧ (Gc L).2.1 41 = 70 := ⟨rfl, rfl⟩
theorem g_41 {L : ai_G} {i : Nat} (hi : i < 70) : o_in (Gc L) 13 41 (nI i) = true := gi (n := 70) rfl rfl hi (by decide)
theorem kk_42 {L : ai_G} : (Gc L).1 42 = 13 ∧ (Gc L).2.1 42 = 240 := ⟨rfl, rfl⟩
theorem g_42 {L : ai_G} {i : Nat} (hi : i < 240) : o_in (Gc L) 13 42 (nI i) = true := gi (n := 240) rfl rfl hi (by decide)
theorem k_43 {L : ai_G} : o_kd (Gc L) 43 0 = true := rfl
theorem r_43_5 {t : Nat} : Rc t 43 5 = 45 := rfl
theorem r_43_6 {t : Nat} : Rc t 43 6 = 46 := rfl
theorem r_43_7 {t : Nat} : Rc t 43 7 = 47 := rfl
theorem r_43_9 {t : Nat} : Rc t 43 9 = 48 := rfl
theorem kk_45 {L : ai_G} : (Gc L).1 45 = 13 ∧ (Gc L).2.1 45 = 16 := ⟨rfl, rfl⟩
theorem g_45 {L : ai_G} {i : Nat} (hi : i < 16) : o_in (Gc L) 13 45 (nI i) = true := gi (n := 16) rfl rfl hi (by decide)
theorem kk_46 {L : ai_G} : (Gc L).1 46 = 13 ∧ (Gc L).2.1 46 = 17 := ⟨rfl, rfl⟩
theorem g_46 {L : ai_G} {i : Nat} (hi : i < 17) : o_in (Gc L) 13 46 (nI i) = true := gi (n := 17) rfl rfl hi (by decide)
theorem kk_47 {L : ai_G} : (Gc L).1 47 = 13 ∧ (Gc L).2.1 47 = 100 := ⟨rfl, rfl⟩
theorem g_47 {L : ai_G} {i : Nat} (hi : i < 100) : o_in (Gc L) 13 47 (nI i) = true := gi (n := 100) rfl rfl hi (by decide)
theorem kk_48 {L : ai_G} : (Gc L).1 48 = 12 ∧ (Gc L).2.1 48 = 1024 := ⟨rfl, rfl⟩
theorem g_48 {L : ai_G} {i : Nat} (hi : i < 1024) : o_in (Gc L) 12 48 (nI i) = true := gi (n := 1024) rfl rfl hi (by decide)
theorem k_49 {L : ai_G} : o_kd (Gc L) 49 3 = true := rfl
theorem r_49_0 {t : Nat} : Rc t 49 0 = 50 := rfl
theorem r_49_1 {t : Nat} : Rc t 49 1 = 54 := rfl
theorem k_50 {L : ai_G} : o_kd (Gc L) 50 8 = true := rfl
theorem r_50_3 {t : Nat} : Rc t 50 3 = 51 := rfl
theorem r_50_4 {t : Nat} : Rc t 50 4 = 52 := rfl
theorem r_50_5 {t : Nat} : Rc t 50 5 = 53 := rfl
theorem kk_51 {L : ai_G} : (Gc L).1 51 = 13 ∧ (Gc L).2.1 51 = 256 := ⟨rfl, rfl⟩
theorem g_51 {L : ai_G} {i : Nat} (hi : i < 256) : o_in (Gc L) 13 51 (nI i) = true := gi (n := 256) rfl rfl hi (by decide)
theorem kk_52 {L : ai_G} : (Gc L).1 52 = 13 ∧ (Gc L).2.1 52 = 256 := ⟨rfl, rfl⟩
theorem g_52 {L : ai_G} {i : Nat} (hi : i < 256) : o_in (Gc L) 13 52 (nI i) = true := gi (n := 256) rfl rfl hi (by decide)
theorem kk_53 {L : ai_G} : (Gc L).1 53 = 13 ∧ (Gc L).2.1 53 = 70 := ⟨rfl, rfl⟩
theorem g_53 {L : ai_G} {i : Nat} (hi : i < 70) : o_in (Gc L) 13 53 (nI i) = true := gi (n := 70) rfl rfl hi (by decide)
theorem kk_54 {L : ai_G} : (Gc L).1 54 = 13 ∧ (Gc L).2.1 54 = 256 := ⟨rfl, rfl⟩
theorem g_54 {L : ai_G} {i : Nat} (hi : i < 256) : o_in (Gc L) 13 54 (nI i) = true := gi (n := 256) rfl rfl hi (by decide)
theorem k_55 {L : ai_G} : o_kd (Gc L) 55 2 = true := rfl
theorem r_55_3 {t : Nat} : Rc t 55 3 = 56 := rfl
theorem kk_56 {L : ai_G} : (Gc L).1 56 = 13 ∧ (Gc L).2.1 56 = 256 := ⟨rfl, rfl⟩
theorem g_56 {L : ai_G} {i : Nat} (hi : i < 256) : o_in (Gc L) 13 56 (nI i) = true := gi (n := 256) rfl rfl hi (by decide)
theorem k_57 {L : ai_G} : o_kd (Gc L) 57 7 = true := rfl
theorem r_57_0 {t : Nat} : Rc t 57 0 = 58 := rfl
theorem kk_58 {L : ai_G} : (Gc L).1 58 = 13 ∧ (Gc L).2.1 58 = 256 := ⟨rfl, rfl⟩
theorem g_58 {L : ai_G} {i : Nat} (hi : i < 256) : o_in (Gc L) 13 58 (nI i) = true := gi (n := 256) rfl rfl hi (by decide)
theorem k_59 {L : ai_G} : o_kd (Gc L) 59 5 = true := rfl
theorem r_59_0 {t : Nat} : Rc t 59 0 = 60 := rfl
theorem kk_60 {L : ai_G} : (Gc L).1 60 = 13 ∧ (Gc L).2.1 60 = 8 := ⟨rfl, rfl⟩
theorem g_60 {L : ai_G} {i : Nat} (hi : i < 8) : o_in (Gc L) 13 60 (nI i) = true := gi (n := 8) rfl rfl hi (by decide)
theorem k_61 {L : ai_G} : o_kd (Gc L) 61 1 = true := rfl
theorem r_61_3 {t : Nat} : Rc t 61 3 = 62 := rfl
theorem kk_62 {L : ai_G} : (Gc L).1 62 = 13 ∧ (Gc L).2.1 62 = 8 := ⟨rfl, rfl⟩
theorem g_62 {L : ai_G} {i : Nat} (hi : i < 8) : o_in (Gc L) 13 62 (nI i) = true := gi (n := 8) rfl rfl hi (by decide)
theorem k_63 {L : ai_G} : o_kd (Gc L) 63 9 = true := rfl
theorem r_63_0 {t : Nat} : Rc t 63 0 = 64 := rfl
theorem r_63_1 {t : Nat} : Rc t 63 1 = 65 := rfl
theorem r_63_2 {t : Nat} : Rc t 63 2 = 66 := rfl
theorem kk_64 {L : ai_G} : (Gc L).1 64 = 13 ∧ (Gc L).2.1 64 = 256 := ⟨rfl, rfl⟩
theorem g_64 {L : ai_G} {i : Nat} (hi : i < 256) : o_in (Gc L) 13 64 (nI i) = true := gi (n := 256) rfl rfl hi (by decide)
theorem kk_65 {L : ai_G} : (Gc L).1 65 = 13 ∧ (Gc L).2.1 65 = 256 := ⟨rfl, rfl⟩
theorem g_65 {L : ai_G} {i : Nat} (hi : i < 256) : o_in (Gc L) 13 65 (nI i) = true := gi (n := 256) rfl rfl hi (by decide)
theorem kk_66 {L : ai_G} : (Gc L).1 66 = 13 ∧ (Gc L).2.1 66 = 70 := ⟨rfl, rfl⟩
theorem g_66 {L : ai_G} {i : Nat} (hi : i < 70) : o_in (Gc L) 13 66 (nI i) = true := gi (n := 70) rfl rfl hi (by decide)
theorem k_67 {L : ai_G} : o_kd (Gc L) 67 4 = true := rfl
theorem r_67_0 {t : Nat} : Rc t 67 0 = 68 := rfl
theorem r_67_1 {t : Nat} : Rc t 67 1 = 69 := rfl
theorem r_67_2 {t : Nat} : Rc t 67 2 = 70 := rfl
theorem r_67_3 {t : Nat} : Rc t 67 3 = 71 := rfl
theorem r_67_4 {t : Nat} : Rc t 67 4 = 72 := rfl
theorem kk_68 {L : ai_G} : (Gc L).1 68 = 13 ∧ (Gc L).2.1 68 = 8 := ⟨rfl, rfl⟩
theorem g_68 {L : ai_G} {i : Nat} (hi : i < 8) : o_in (Gc L) 13 68 (nI i) = true := gi (n := 8) rfl rfl hi (by decide)
theorem kk_69 {L : ai_G} : (Gc L).1 69 = 13 ∧ (Gc L).2.1 69 = 8 := ⟨rfl, rfl⟩
theorem g_69 {L : ai_G} {i : Nat} (hi : i < 8) : o_in (Gc L) 13 69 (nI i) = true := gi (n := 8) rfl rfl hi (by decide)
theorem kk_70 {L : ai_G} : (Gc L).1 70 = 13 ∧ (Gc L).2.1 70 = 256 := ⟨rfl, rfl⟩
theorem g_70 {L : ai_G} {i : Nat} (hi : i < 256) : o_in (Gc L) 13 70 (nI i) = true := gi (n := 256) rfl rfl hi (by decide)
theorem kk_71 {L : ai_G} : (Gc L).1 71 = 14 ∧ (Gc L).2.1 71 = 8 := ⟨rfl, rfl⟩
theorem g_71 {L : ai_G} {i : Nat} (hi : i < 8) : o_in (Gc L) 14 71 (nI i) = true := gi (n := 8) rfl rfl hi (by decide)
theorem kk_72 {L : ai_G} : (Gc L).1 72 = 14 ∧ (Gc L).2.1 72 = 8 := ⟨rfl, rfl⟩
theorem g_72 {L : ai_G} {i : Nat} (hi : i < 8) : o_in (Gc L) 14 72 (nI i) = true := gi (n := 8) rfl rfl hi (by decide)
theorem kk_73 {L : ai_G} : (Gc L).1 73 = 13 ∧ (Gc L).2.1 73 = 256 := ⟨rfl, rfl⟩
theorem g_73 {L : ai_G} {i : Nat} (hi : i < 256) : o_in (Gc L) 13 73 (nI i) = true := gi (n := 256) rfl rfl hi (by decide)
theorem kk_74 {L : ai_G} : (Gc L).1 74 = 13 ∧ (Gc L).2.1 74 = 8 := ⟨rfl, rfl⟩
theorem g_74 {L : ai_G} {i : Nat} (hi : i < 8) : o_in (Gc L) 13 74 (nI i) = true := gi (n := 8) rfl rfl hi (by decide)
/-- the valuations: shelves, kept shelves, the one that is made -/
def VC : List Nat := [6, 10, 14, 18, 26, 30, 34, 38, 50]
theorem vc_all : ∀ v ∈ VC, kL.getD v 99 = 8 ∧ kL.getD (v + 1) 99 = 13 ∧ kL.getD (v + 2) 99 = 13 ∧ kL.getD (v + 3) 99 = 13 ∧ nL.getD (v + 1) 0 = 256 ∧ nL.getD (v + 2) 0 = 256 ∧ nL.getD (v + 3) 0 = 70 ∧ (rL.getD v []).getD 3 0 = v + 1 ∧ (rL.getD v []).getD 4 0 = v + 2 ∧ (rL.getD v []).getD 5 0 = v + 3 ∧ v < 60 ∧ 5 < v ∧ v ≠ 43 := by decide
theorem v_k {v : Nat} {L : ai_G} (h : v ∈ VC) : (Gc L).1 v = 8 := by
  have h1 := vc_all v h
  show (if v ≤ 74 then kL.getD v 99 else L.1 (v)) = 8
  rw [if_pos (by omega)]
  exact h1.1
theorem v_kd {v : Nat} {L : ai_G} (h : v ∈ VC) : o_kd (Gc L) v 8 = true := o_kd_of (v_k h)
theorem v_gv {v i : Nat} {L : ai_G} (h : v ∈ VC) (hi : i < 256) : o_in (Gc L) 13 (v + 1) (nI i) = true := by
  have h1 := vc_all v h
  refine gi (n := 256) ?_ ?_ hi (by decide)
  · show (if v + 1 ≤ 74 then kL.getD (v + 1) 99 else L.1 (v + 1)) = 13
    rw [if_pos (by omega)]
    exact h1.2.1
  · show (if v + 1 ≤ 74 then nL.getD (v + 1) 0 else L.2.1 (v + 1)) = 256
    rw [if_pos (by omega)]
    exact h1.2.2.2.2.1
theorem v_gr {v i : Nat} {L : ai_G} (h : v ∈ VC) (hi : i < 256) : o_in (Gc L) 13 (v + 2) (nI i) = true := by
  have h1 := vc_all v h
  refine gi (n := 256) ?_ ?_ hi (by decide)
  · show (if v + 2 ≤ 74 then kL.getD (v + 2) 99 else L.1 (v + 2)) = 13
    rw [if_pos (by omega)]
    exact h1.2.2.1
  · show (if v + 2 ≤ 74 then nL.getD (v + 2) 0 else L.2.1 (v + 2)) = 256
    rw [if_pos (by omega)]
    exact h1.2.2.2.2.2.1
theorem v_gb {v i : Nat} {L : ai_G} (h : v ∈ VC) (hi : i < 70) : o_in (Gc L) 13 (v + 3) (nI i) = true := by
  have h1 := vc_all v h
  refine gi (n := 70) ?_ ?_ hi (by decide)
  · show (if v + 3 ≤ 74 then kL.getD (v + 3) 99 else L.1 (v + 3)) = 13
    rw [if_pos (by omega)]
    exact h1.2.2.2.1
  · show (if v + 3 ≤ 74 then nL.getD (v + 3) 0 else L.2.1 (v + 3)) = 70
    rw [if_pos (by omega)]
    exact h1.2.2.2.2.2.2.1
theorem v_rv {v t : Nat} (h : v ∈ VC) : Rc t v 3 = v + 1 := by
  have h1 := vc_all v h
  show (if v = 43 ∧ 3 = 2 then t else (rL.getD v []).getD 3 0) = v + 1
  rw [if_neg (by omega)]
  exact h1.2.2.2.2.2.2.2.1
theorem v_rr {v t : Nat} (h : v ∈ VC) : Rc t v 4 = v + 2 := by
  have h1 := vc_all v h
  show (if v = 43 ∧ 4 = 2 then t else (rL.getD v []).getD 4 0) = v + 2
  rw [if_neg (by omega)]
  exact h1.2.2.2.2.2.2.2.2.1
theorem v_rb {v t : Nat} (h : v ∈ VC) : Rc t v 5 = v + 3 := by
  have h1 := vc_all v h
  show (if v = 43 ∧ 5 = 2 then t else (rL.getD v []).getD 5 0) = v + 3
  rw [if_neg (by omega)]
  exact h1.2.2.2.2.2.2.2.2.2.1
