/-! The cells as the constructors leave them: kinds, lengths, what points where. Printed by wip/whole/lay.py. -/
def kL : List Nat := [99, 10, 6, 15, 13, 13, 8, 13, 13, 13, 8, 13, 13, 13, 8, 13, 13, 13, 8, 13, 13, 13, 6, 15, 13, 13, 8, 13, 13, 13, 8, 13, 13, 13, 8, 13, 13, 13, 8, 13, 13, 13, 13, 0, 13, 13, 13, 13, 12, 3, 8, 13, 13, 13, 13, 2, 13, 7, 13, 5, 13, 1, 13, 9, 13, 13, 13, 4, 13, 13, 13, 14, 14, 13, 13, 11, 13, 12, 14, 13, 13, 13, 13, 13, 13, 13, 13, 13, 13, 13, 12, 13, 13, 13]
def nL : List Nat := [0, 0, 0, 4, 8, 80, 0, 256, 256, 70, 0, 256, 256, 70, 0, 256, 256, 70, 0, 256, 256, 70, 0, 4, 8, 80, 0, 256, 256, 70, 0, 256, 256, 70, 0, 256, 256, 70, 0, 256, 256, 70, 240, 0, 0, 16, 17, 100, 1024, 0, 0, 256, 256, 70, 256, 0, 256, 0, 256, 0, 8, 0, 8, 0, 256, 256, 70, 0, 8, 8, 256, 8, 8, 256, 8, 0, 3366, 240, 16, 16, 120, 256, 256, 256, 8, 8, 256, 256, 256, 256, 2000, 8, 8, 256]
def rL : List (List Nat) := [[], [2, 22, 0, 42, 0, 43, 49, 55, 57, 59, 61, 63, 67, 73, 74], [3, 4, 5], [6, 10, 14, 18], [], [], [0, 0, 0, 7, 8, 9], [], [], [], [0, 0, 0, 11, 12, 13], [], [], [], [0, 0, 0, 15, 16, 17], [], [], [], [0, 0, 0, 19, 20, 21], [], [], [], [23, 24, 25], [26, 30, 34, 38], [], [], [0, 0, 0, 27, 28, 29], [], [], [], [0, 0, 0, 31, 32, 33], [], [], [], [0, 0, 0, 35, 36, 37], [], [], [], [0, 0, 0, 39, 40, 41], [], [], [], [], [0, 0, 44, 0, 0, 45, 46, 47, 0, 48], [], [], [], [], [], [50, 54], [0, 0, 0, 51, 52, 53], [], [], [], [], [0, 0, 0, 56], [], [58], [], [60], [], [0, 0, 0, 62], [], [64, 65, 66], [], [], [], [68, 69, 70, 71, 72], [], [], [], [], [], [], [], [76, 0, 77, 0, 0, 0, 0, 0, 0, 0, 0, 0, 0, 78, 79, 80, 81, 82, 0, 0, 83, 0, 84, 0, 85, 86, 87, 88, 89, 90, 0, 91, 92, 93], [], [], [], [], [], [], [], [], [], [], [], [], [], [], [], [], [], []]
/-- kinds, lengths, how many: behind the constructors (a script of L) -/
def Gc (L : Nat) : ai_G := (fun a => if a = 1999 then 16 else kL.getD a 99, fun a => if a = 1999 then L else nL.getD a 0, 93)
/-- what points where; the reader's text (cell 43, field 2) is t -/
def Rc (t : Nat) : ai_R := fun a j => if a = 43 ∧ j = 2 then t else (rL.getD a []).getD j 0
theorem o_g_t {α : Type} (k : Option α) : o_g true k = k := rfl
theorem gi {L k a n i : Nat} (hk : (Gc L).1 a = k) (hn : (Gc L).2.1 a = n) (hi : i < n) (hn2 : n < 2147483648) : o_in (Gc L) k a (nI i) = true := o_in_of hk (nI_pos (by omega)) (by rw [hn, nI_clamp (by omega)]; exact hi)
theorem k_1 {L : Nat} : o_kd (Gc L) 1 10 = true := rfl
theorem r_1_0 {t : Nat} : Rc t 1 0 = 2 := rfl
theorem r_1_1 {t : Nat} : Rc t 1 1 = 22 := rfl
theorem r_1_3 {t : Nat} : Rc t 1 3 = 42 := rfl
theorem r_1_5 {t : Nat} : Rc t 1 5 = 43 := rfl
theorem r_1_6 {t : Nat} : Rc t 1 6 = 49 := rfl
theorem r_1_7 {t : Nat} : Rc t 1 7 = 55 := rfl
theorem r_1_8 {t : Nat} : Rc t 1 8 = 57 := rfl
theorem r_1_9 {t : Nat} : Rc t 1 9 = 59 := rfl
theorem r_1_10 {t : Nat} : Rc t 1 10 = 61 := rfl
theorem r_1_11 {t : Nat} : Rc t 1 11 = 63 := rfl
theorem r_1_12 {t : Nat} : Rc t 1 12 = 67 := rfl
theorem r_1_13 {t : Nat} : Rc t 1 13 = 73 := rfl
theorem r_1_14 {t : Nat} : Rc t 1 14 = 74 := rfl
theorem k_2 {L : Nat} : o_kd (Gc L) 2 6 = true := rfl
theorem r_2_0 {t : Nat} : Rc t 2 0 = 3 := rfl
theorem r_2_1 {t : Nat} : Rc t 2 1 = 4 := rfl
theorem r_2_2 {t : Nat} : Rc t 2 2 = 5 := rfl
theorem g_4 {L i : Nat} (hi : i < 8) : o_in (Gc L) 13 4 (nI i) = true := gi (n := 8) rfl rfl hi (by decide)
theorem g_5 {L i : Nat} (hi : i < 80) : o_in (Gc L) 13 5 (nI i) = true := gi (n := 80) rfl rfl hi (by decide)
theorem k_6 {L : Nat} : o_kd (Gc L) 6 8 = true := rfl
theorem r_6_3 {t : Nat} : Rc t 6 3 = 7 := rfl
theorem r_6_4 {t : Nat} : Rc t 6 4 = 8 := rfl
theorem r_6_5 {t : Nat} : Rc t 6 5 = 9 := rfl
theorem g_7 {L i : Nat} (hi : i < 256) : o_in (Gc L) 13 7 (nI i) = true := gi (n := 256) rfl rfl hi (by decide)
theorem g_8 {L i : Nat} (hi : i < 256) : o_in (Gc L) 13 8 (nI i) = true := gi (n := 256) rfl rfl hi (by decide)
theorem g_9 {L i : Nat} (hi : i < 70) : o_in (Gc L) 13 9 (nI i) = true := gi (n := 70) rfl rfl hi (by decide)
theorem k_10 {L : Nat} : o_kd (Gc L) 10 8 = true := rfl
theorem r_10_3 {t : Nat} : Rc t 10 3 = 11 := rfl
theorem r_10_4 {t : Nat} : Rc t 10 4 = 12 := rfl
theorem r_10_5 {t : Nat} : Rc t 10 5 = 13 := rfl
theorem g_11 {L i : Nat} (hi : i < 256) : o_in (Gc L) 13 11 (nI i) = true := gi (n := 256) rfl rfl hi (by decide)
theorem g_12 {L i : Nat} (hi : i < 256) : o_in (Gc L) 13 12 (nI i) = true := gi (n := 256) rfl rfl hi (by decide)
theorem g_13 {L i : Nat} (hi : i < 70) : o_in (Gc L) 13 13 (nI i) = true := gi (n := 70) rfl rfl hi (by decide)
theorem k_14 {L : Nat} : o_kd (Gc L) 14 8 = true := rfl
theorem r_14_3 {t : Nat} : Rc t 14 3 = 15 := rfl
theorem r_14_4 {t : Nat} : Rc t 14 4 = 16 := rfl
theorem r_14_5 {t : Nat} : Rc t 14 5 = 17 := rfl
theorem g_15 {L i : Nat} (hi : i < 256) : o_in (Gc L) 13 15 (nI i) = true := gi (n := 256) rfl rfl hi (by decide)
theorem g_16 {L i : Nat} (hi : i < 256) : o_in (Gc L) 13 16 (nI i) = true := gi (n := 256) rfl rfl hi (by decide)
theorem g_17 {L i : Nat} (hi : i < 70) : o_in (Gc L) 13 17 (nI i) = true := gi (n := 70) rfl rfl hi (by decide)
theorem k_18 {L : Nat} : o_kd (Gc L) 18 8 = true := rfl
theorem r_18_3 {t : Nat} : Rc t 18 3 = 19 := rfl
theorem r_18_4 {t : Nat} : Rc t 18 4 = 20 := rfl
theorem r_18_5 {t : Nat} : Rc t 18 5 = 21 := rfl
theorem g_19 {L i : Nat} (hi : i < 256) : o_in (Gc L) 13 19 (nI i) = true := gi (n := 256) rfl rfl hi (by decide)
theorem g_20 {L i : Nat} (hi : i < 256) : o_in (Gc L) 13 20 (nI i) = true := gi (n := 256) rfl rfl hi (by decide)
theorem g_21 {L i : Nat} (hi : i < 70) : o_in (Gc L) 13 21 (nI i) = true := gi (n := 70) rfl rfl hi (by decide)
theorem k_22 {L : Nat} : o_kd (Gc L) 22 6 = true := rfl
theorem r_22_0 {t : Nat} : Rc t 22 0 = 23 := rfl
theorem r_22_1 {t : Nat} : Rc t 22 1 = 24 := rfl
theorem r_22_2 {t : Nat} : Rc t 22 2 = 25 := rfl
theorem g_24 {L i : Nat} (hi : i < 8) : o_in (Gc L) 13 24 (nI i) = true := gi (n := 8) rfl rfl hi (by decide)
theorem g_25 {L i : Nat} (hi : i < 80) : o_in (Gc L) 13 25 (nI i) = true := gi (n := 80) rfl rfl hi (by decide)
theorem k_26 {L : Nat} : o_kd (Gc L) 26 8 = true := rfl
theorem r_26_3 {t : Nat} : Rc t 26 3 = 27 := rfl
theorem r_26_4 {t : Nat} : Rc t 26 4 = 28 := rfl
theorem r_26_5 {t : Nat} : Rc t 26 5 = 29 := rfl
theorem g_27 {L i : Nat} (hi : i < 256) : o_in (Gc L) 13 27 (nI i) = true := gi (n := 256) rfl rfl hi (by decide)
theorem g_28 {L i : Nat} (hi : i < 256) : o_in (Gc L) 13 28 (nI i) = true := gi (n := 256) rfl rfl hi (by decide)
theorem g_29 {L i : Nat} (hi : i < 70) : o_in (Gc L) 13 29 (nI i) = true := gi (n := 70) rfl rfl hi (by decide)
theorem k_30 {L : Nat} : o_kd (Gc L) 30 8 = true := rfl
theorem r_30_3 {t : Nat} : Rc t 30 3 = 31 := rfl
theorem r_30_4 {t : Nat} : Rc t 30 4 = 32 := rfl
theorem r_30_5 {t : Nat} : Rc t 30 5 = 33 := rfl
theorem g_31 {L i : Nat} (hi : i < 256) : o_in (Gc L) 13 31 (nI i) = true := gi (n := 256) rfl rfl hi (by decide)
theorem g_32 {L i : Nat} (hi : i < 256) : o_in (Gc L) 13 32 (nI i) = true := gi (n := 256) rfl rfl hi (by decide)
theorem g_33 {L i : Nat} (hi : i < 70) : o_in (Gc L) 13 33 (nI i) = true := gi (n := 70) rfl rfl hi (by decide)
theorem k_34 {L : Nat} : o_kd (Gc L) 34 8 = true := rfl
theorem r_34_3 {t : Nat} : Rc t 34 3 = 35 := rfl
theorem r_34_4 {t : Nat} : Rc t 34 4 = 36 := rfl
theorem r_34_5 {t : Nat} : Rc t 34 5 = 37 := rfl
theorem g_35 {L i : Nat} (hi : i < 256) : o_in (Gc L) 13 35 (nI i) = true := gi (n := 256) rfl rfl hi (by decide)
theorem g_36 {L i : Nat} (hi : i < 256) : o_in (Gc L) 13 36 (nI i) = true := gi (n := 256) rfl rfl hi (by decide)
theorem g_37 {L i : Nat} (hi : i < 70) : o_in (Gc L) 13 37 (nI i) = true := gi (n := 70) rfl rfl hi (by decide)
theorem k_38 {L : Nat} : o_kd (Gc L) 38 8 = true := rfl
theorem r_38_3 {t : Nat} : Rc t 38 3 = 39 := rfl
theorem r_38_4 {t : Nat} : Rc t 38 4 = 40 := rfl
theorem r_38_5 {t : Nat} : Rc t 38 5 = 41 := rfl
theorem g_39 {L i : Nat} (hi : i < 256) : o_in (Gc L) 13 39 (nI i) = true := gi (n := 256) rfl rfl hi (by decide)
theorem g_40 {L i : Nat} (hi : i < 256) : o_in (Gc L) 13 40 (nI i) = true := gi (n := 256) rfl rfl hi (by decide)
theorem g_41 {L i : Nat} (hi : i < 70) : o_in (Gc L) 13 41 (nI i) = true := gi (n := 70) rfl rfl hi (by decide)
theorem g_42 {L i : Nat} (hi : i < 240) : o_in (Gc L) 13 42 (nI i) = true := gi (n := 240) rfl rfl hi (by decide)
theorem k_43 {L : Nat} : o_kd (Gc L) 43 0 = true := rfl
theorem r_43_5 {t : Nat} : Rc t 43 5 = 45 := rfl
theorem r_43_6 {t : Nat} : Rc t 43 6 = 46 := rfl
theorem r_43_7 {t : Nat} : Rc t 43 7 = 47 := rfl
theorem r_43_9 {t : Nat} : Rc t 43 9 = 48 := rfl
theorem g_45 {L i : Nat} (hi : i < 16) : o_in (Gc L) 13 45 (nI i) = true := gi (n := 16) rfl rfl hi (by decide)
theorem g_46 {L i : Nat} (hi : i < 17) : o_in (Gc L) 13 46 (nI i) = true := gi (n := 17) rfl rfl hi (by decide)
theorem g_47 {L i : Nat} (hi : i < 100) : o_in (Gc L) 13 47 (nI i) = true := gi (n := 100) rfl rfl hi (by decide)
theorem g_48 {L i : Nat} (hi : i < 1024) : o_in (Gc L) 12 48 (nI i) = true := gi (n := 1024) rfl rfl hi (by decide)
theorem k_49 {L : Nat} : o_kd (Gc L) 49 3 = true := rfl
theorem r_49_0 {t : Nat} : Rc t 49 0 = 50 := rfl
theorem r_49_1 {t : Nat} : Rc t 49 1 = 54 := rfl
theorem k_50 {L : Nat} : o_kd (Gc L) 50 8 = true := rfl
theorem r_50_3 {t : Nat} : Rc t 50 3 = 51 := rfl
theorem r_50_4 {t : Nat} : Rc t 50 4 = 52 := rfl
theorem r_50_5 {t : Nat} : Rc t 50 5 = 53 := rfl
theorem g_51 {L i : Nat} (hi : i < 256) : o_in (Gc L) 13 51 (nI i) = true := gi (n := 256) rfl rfl hi (by decide)
theorem g_52 {L i : Nat} (hi : i < 256) : o_in (Gc L) 13 52 (nI i) = true := gi (n := 256) rfl rfl hi (by decide)
theorem g_53 {L i : Nat} (hi : i < 70) : o_in (Gc L) 13 53 (nI i) = true := gi (n := 70) rfl rfl hi (by decide)
theorem g_54 {L i : Nat} (hi : i < 256) : o_in (Gc L) 13 54 (nI i) = true := gi (n := 256) rfl rfl hi (by decide)
theorem k_55 {L : Nat} : o_kd (Gc L) 55 2 = true := rfl
theorem r_55_3 {t : Nat} : Rc t 55 3 = 56 := rfl
theorem g_56 {L i : Nat} (hi : i < 256) : o_in (Gc L) 13 56 (nI i) = true := gi (n := 256) rfl rfl hi (by decide)
theorem k_57 {L : Nat} : o_kd (Gc L) 57 7 = true := rfl
theorem r_57_0 {t : Nat} : Rc t 57 0 = 58 := rfl
theorem g_58 {L i : Nat} (hi : i < 256) : o_in (Gc L) 13 58 (nI i) = true := gi (n := 256) rfl rfl hi (by decide)
theorem k_59 {L : Nat} : o_kd (Gc L) 59 5 = true := rfl
theorem r_59_0 {t : Nat} : Rc t 59 0 = 60 := rfl
theorem g_60 {L i : Nat} (hi : i < 8) : o_in (Gc L) 13 60 (nI i) = true := gi (n := 8) rfl rfl hi (by decide)
theorem k_61 {L : Nat} : o_kd (Gc L) 61 1 = true := rfl
theorem r_61_3 {t : Nat} : Rc t 61 3 = 62 := rfl
theorem g_62 {L i : Nat} (hi : i < 8) : o_in (Gc L) 13 62 (nI i) = true := gi (n := 8) rfl rfl hi (by decide)
theorem k_63 {L : Nat} : o_kd (Gc L) 63 9 = true := rfl
theorem r_63_0 {t : Nat} : Rc t 63 0 = 64 := rfl
theorem r_63_1 {t : Nat} : Rc t 63 1 = 65 := rfl
theorem r_63_2 {t : Nat} : Rc t 63 2 = 66 := rfl
theorem g_64 {L i : Nat} (hi : i < 256) : o_in (Gc L) 13 64 (nI i) = true := gi (n := 256) rfl rfl hi (by decide)
theorem g_65 {L i : Nat} (hi : i < 256) : o_in (Gc L) 13 65 (nI i) = true := gi (n := 256) rfl rfl hi (by decide)
theorem g_66 {L i : Nat} (hi : i < 70) : o_in (Gc L) 13 66 (nI i) = true := gi (n := 70) rfl rfl hi (by decide)
theorem k_67 {L : Nat} : o_kd (Gc L) 67 4 = true := rfl
theorem r_67_0 {t : Nat} : Rc t 67 0 = 68 := rfl
theorem r_67_1 {t : Nat} : Rc t 67 1 = 69 := rfl
theorem r_67_2 {t : Nat} : Rc t 67 2 = 70 := rfl
theorem r_67_3 {t : Nat} : Rc t 67 3 = 71 := rfl
theorem r_67_4 {t : Nat} : Rc t 67 4 = 72 := rfl
theorem g_68 {L i : Nat} (hi : i < 8) : o_in (Gc L) 13 68 (nI i) = true := gi (n := 8) rfl rfl hi (by decide)
theorem g_69 {L i : Nat} (hi : i < 8) : o_in (Gc L) 13 69 (nI i) = true := gi (n := 8) rfl rfl hi (by decide)
theorem g_70 {L i : Nat} (hi : i < 256) : o_in (Gc L) 13 70 (nI i) = true := gi (n := 256) rfl rfl hi (by decide)
theorem g_71 {L i : Nat} (hi : i < 8) : o_in (Gc L) 14 71 (nI i) = true := gi (n := 8) rfl rfl hi (by decide)
theorem g_72 {L i : Nat} (hi : i < 8) : o_in (Gc L) 14 72 (nI i) = true := gi (n := 8) rfl rfl hi (by decide)
theorem g_73 {L i : Nat} (hi : i < 256) : o_in (Gc L) 13 73 (nI i) = true := gi (n := 256) rfl rfl hi (by decide)
theorem g_74 {L i : Nat} (hi : i < 8) : o_in (Gc L) 13 74 (nI i) = true := gi (n := 8) rfl rfl hi (by decide)
theorem k_75 {L : Nat} : o_kd (Gc L) 75 11 = true := rfl
theorem r_75_0 {t : Nat} : Rc t 75 0 = 76 := rfl
theorem r_75_2 {t : Nat} : Rc t 75 2 = 77 := rfl
theorem r_75_13 {t : Nat} : Rc t 75 13 = 78 := rfl
theorem r_75_14 {t : Nat} : Rc t 75 14 = 79 := rfl
theorem r_75_15 {t : Nat} : Rc t 75 15 = 80 := rfl
theorem r_75_16 {t : Nat} : Rc t 75 16 = 81 := rfl
theorem r_75_17 {t : Nat} : Rc t 75 17 = 82 := rfl
theorem r_75_20 {t : Nat} : Rc t 75 20 = 83 := rfl
theorem r_75_22 {t : Nat} : Rc t 75 22 = 84 := rfl
theorem r_75_24 {t : Nat} : Rc t 75 24 = 85 := rfl
theorem r_75_25 {t : Nat} : Rc t 75 25 = 86 := rfl
theorem r_75_26 {t : Nat} : Rc t 75 26 = 87 := rfl
theorem r_75_27 {t : Nat} : Rc t 75 27 = 88 := rfl
theorem r_75_28 {t : Nat} : Rc t 75 28 = 89 := rfl
theorem r_75_29 {t : Nat} : Rc t 75 29 = 90 := rfl
theorem r_75_31 {t : Nat} : Rc t 75 31 = 91 := rfl
theorem r_75_32 {t : Nat} : Rc t 75 32 = 92 := rfl
theorem r_75_33 {t : Nat} : Rc t 75 33 = 93 := rfl
theorem g_76 {L i : Nat} (hi : i < 3366) : o_in (Gc L) 13 76 (nI i) = true := gi (n := 3366) rfl rfl hi (by decide)
theorem g_77 {L i : Nat} (hi : i < 240) : o_in (Gc L) 12 77 (nI i) = true := gi (n := 240) rfl rfl hi (by decide)
theorem g_78 {L i : Nat} (hi : i < 16) : o_in (Gc L) 14 78 (nI i) = true := gi (n := 16) rfl rfl hi (by decide)
theorem g_79 {L i : Nat} (hi : i < 16) : o_in (Gc L) 13 79 (nI i) = true := gi (n := 16) rfl rfl hi (by decide)
theorem g_80 {L i : Nat} (hi : i < 120) : o_in (Gc L) 13 80 (nI i) = true := gi (n := 120) rfl rfl hi (by decide)
theorem g_81 {L i : Nat} (hi : i < 256) : o_in (Gc L) 13 81 (nI i) = true := gi (n := 256) rfl rfl hi (by decide)
theorem g_82 {L i : Nat} (hi : i < 256) : o_in (Gc L) 13 82 (nI i) = true := gi (n := 256) rfl rfl hi (by decide)
theorem g_83 {L i : Nat} (hi : i < 256) : o_in (Gc L) 13 83 (nI i) = true := gi (n := 256) rfl rfl hi (by decide)
theorem g_84 {L i : Nat} (hi : i < 8) : o_in (Gc L) 13 84 (nI i) = true := gi (n := 8) rfl rfl hi (by decide)
theorem g_85 {L i : Nat} (hi : i < 8) : o_in (Gc L) 13 85 (nI i) = true := gi (n := 8) rfl rfl hi (by decide)
theorem g_86 {L i : Nat} (hi : i < 256) : o_in (Gc L) 13 86 (nI i) = true := gi (n := 256) rfl rfl hi (by decide)
theorem g_87 {L i : Nat} (hi : i < 256) : o_in (Gc L) 13 87 (nI i) = true := gi (n := 256) rfl rfl hi (by decide)
theorem g_88 {L i : Nat} (hi : i < 256) : o_in (Gc L) 13 88 (nI i) = true := gi (n := 256) rfl rfl hi (by decide)
theorem g_89 {L i : Nat} (hi : i < 256) : o_in (Gc L) 13 89 (nI i) = true := gi (n := 256) rfl rfl hi (by decide)
theorem g_90 {L i : Nat} (hi : i < 2000) : o_in (Gc L) 12 90 (nI i) = true := gi (n := 2000) rfl rfl hi (by decide)
theorem g_91 {L i : Nat} (hi : i < 8) : o_in (Gc L) 13 91 (nI i) = true := gi (n := 8) rfl rfl hi (by decide)
theorem g_92 {L i : Nat} (hi : i < 8) : o_in (Gc L) 13 92 (nI i) = true := gi (n := 8) rfl rfl hi (by decide)
theorem g_93 {L i : Nat} (hi : i < 256) : o_in (Gc L) 13 93 (nI i) = true := gi (n := 256) rfl rfl hi (by decide)
/-- the valuations: shelves, kept shelves, the one that is made -/
def VC : List Nat := [6, 10, 14, 18, 26, 30, 34, 38, 50]
theorem vc_all : ∀ v ∈ VC, kL.getD v 99 = 8 ∧ kL.getD (v + 1) 99 = 13 ∧ kL.getD (v + 2) 99 = 13 ∧ kL.getD (v + 3) 99 = 13 ∧ nL.getD (v + 1) 0 = 256 ∧ nL.getD (v + 2) 0 = 256 ∧ nL.getD (v + 3) 0 = 70 ∧ (rL.getD v []).getD 3 0 = v + 1 ∧ (rL.getD v []).getD 4 0 = v + 2 ∧ (rL.getD v []).getD 5 0 = v + 3 ∧ v < 60 ∧ 5 < v ∧ v ≠ 43 := by decide

theorem v_k {v L : Nat} (h : v ∈ VC) : (Gc L).1 v = 8 := by
  have h1 := vc_all v h
  show (if v = 1999 then 16 else kL.getD v 99) = 8
  rw [if_neg (by omega)]
  exact h1.1
theorem v_kd {v L : Nat} (h : v ∈ VC) : o_kd (Gc L) v 8 = true := o_kd_of (v_k h)
theorem v_gv {v L i : Nat} (h : v ∈ VC) (hi : i < 256) : o_in (Gc L) 13 (v + 1) (nI i) = true := by
  have h1 := vc_all v h
  refine gi (n := 256) ?_ ?_ hi (by decide)
  · show (if v + 1 = 1999 then 16 else kL.getD (v + 1) 99) = 13
    rw [if_neg (by omega)]
    exact h1.2.1
  · show (if v + 1 = 1999 then L else nL.getD (v + 1) 0) = 256
    rw [if_neg (by omega)]
    exact h1.2.2.2.2.1
theorem v_gr {v L i : Nat} (h : v ∈ VC) (hi : i < 256) : o_in (Gc L) 13 (v + 2) (nI i) = true := by
  have h1 := vc_all v h
  refine gi (n := 256) ?_ ?_ hi (by decide)
  · show (if v + 2 = 1999 then 16 else kL.getD (v + 2) 99) = 13
    rw [if_neg (by omega)]
    exact h1.2.2.1
  · show (if v + 2 = 1999 then L else nL.getD (v + 2) 0) = 256
    rw [if_neg (by omega)]
    exact h1.2.2.2.2.2.1
theorem v_gb {v L i : Nat} (h : v ∈ VC) (hi : i < 70) : o_in (Gc L) 13 (v + 3) (nI i) = true := by
  have h1 := vc_all v h
  refine gi (n := 70) ?_ ?_ hi (by decide)
  · show (if v + 3 = 1999 then 16 else kL.getD (v + 3) 99) = 13
    rw [if_neg (by omega)]
    exact h1.2.2.2.1
  · show (if v + 3 = 1999 then L else nL.getD (v + 3) 0) = 70
    rw [if_neg (by omega)]
    exact h1.2.2.2.2.2.2.1
theorem v_rv {v t : Nat} (h : v ∈ VC) : Rc t v 3 = v + 1 := by
  have h1 := vc_all v h
  show (if v = 43 ∧ 3 = 2 then t else (rL.getD v []).getD 3 0) = v + 1
  rw [if_neg (by omega)]
  exact h1.2.2.2.2.2.2.2.1
theorem v_rr {v t : Nat} (h : v ∈ VC) : Rc t v 4 = v + 2 := by
  have h1 := vc_all v h
  show (if v = 43 ∧ 4 = 2 then t else (rL.getD v []).getD 4 0) = v + 2
  rw [if_neg (by omega)]
  exact h1.2.2.2.2.2.2.2.2.1
theorem v_rb {v t : Nat} (h : v ∈ VC) : Rc t v 5 = v + 3 := by
  have h1 := vc_all v h
  show (if v = 43 ∧ 5 = 2 then t else (rL.getD v []).getD 5 0) = v + 3
  rw [if_neg (by omega)]
  exact h1.2.2.2.2.2.2.2.2.2.1
