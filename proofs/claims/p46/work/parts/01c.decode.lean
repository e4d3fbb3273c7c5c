/-! The lists of part 01b are what the bytes decode to. -/
def vd_ok (b : ByteArray) (l : List (Nat × Instr × Nat)) : Bool := l.all (fun q => decide (decode b q.1 = .ok q.2))
theorem vd_app {b : ByteArray} {l l2 : List (Nat × Instr × Nat)} (h : vd_ok b l = true) (h2 : vd_ok b l2 = true) : vd_ok b (l ++ l2) = true := by
  unfold vd_ok at *
  rw [List.all_append, h, h2]
  rfl
set_option maxRecDepth 100000 in
theorem vd_0 : vd_ok prog_2_method_1_code cd_0 = true := by decide +kernel
set_option maxRecDepth 100000 in
theorem vd_1 : vd_ok prog_2_method_2_code cd_1 = true := by decide +kernel
set_option maxRecDepth 100000 in
theorem vd_2 : vd_ok prog_2_method_3_code cd_2 = true := by decide +kernel
set_option maxRecDepth 100000 in
theorem vd_3 : vd_ok prog_2_method_4_code cd_3 = true := by decide +kernel
set_option maxRecDepth 100000 in
theorem vd_4 : vd_ok prog_2_method_5_code cd_4 = true := by decide +kernel
set_option maxRecDepth 100000 in
theorem vd_5 : vd_ok prog_2_method_6_code cd_5 = true := by decide +kernel
set_option maxRecDepth 100000 in
theorem vd_6 : vd_ok prog_2_method_7_code cd_6 = true := by decide +kernel
set_option maxRecDepth 100000 in
theorem vd_7 : vd_ok prog_2_method_8_code cd_7 = true := by decide +kernel
set_option maxRecDepth 100000 in
theorem vd_8 : vd_ok prog_2_method_9_code cd_8 = true := by decide +kernel
set_option maxRecDepth 100000 in
theorem vd_9 : vd_ok prog_2_method_10_code cd_9 = true := by decide +kernel
set_option maxRecDepth 100000 in
theorem vd_10 : vd_ok prog_2_method_11_code cd_10 = true := by decide +kernel
set_option maxRecDepth 100000 in
theorem vd_11 : vd_ok prog_2_method_12_code cd_11 = true := by decide +kernel
set_option maxRecDepth 100000 in
theorem vd_12 : vd_ok prog_2_method_13_code cd_12 = true := by decide +kernel
set_option maxRecDepth 100000 in
theorem vd_13 : vd_ok prog_2_method_14_code cd_13 = true := by decide +kernel
set_option maxRecDepth 100000 in
theorem vd_14 : vd_ok prog_2_method_15_code cd_14 = true := by decide +kernel
set_option maxRecDepth 100000 in
theorem vd_15 : vd_ok prog_2_method_16_code cd_15 = true := by decide +kernel
set_option maxRecDepth 100000 in
theorem vd_16 : vd_ok prog_2_method_17_code cd_16 = true := by decide +kernel
set_option maxRecDepth 100000 in
theorem vd_17 : vd_ok prog_2_method_18_code cd_17 = true := by decide +kernel
set_option maxRecDepth 100000 in
theorem vd_18 : vd_ok prog_2_method_19_code cd_18 = true := by decide +kernel
set_option maxRecDepth 100000 in
theorem vd_19 : vd_ok prog_3_method_1_code cd_19 = true := by decide +kernel
set_option maxRecDepth 100000 in
theorem vd_20 : vd_ok prog_4_method_1_code cd_20 = true := by decide +kernel
set_option maxRecDepth 100000 in
theorem vd_21 : vd_ok prog_4_method_2_code cd_21 = true := by decide +kernel
set_option maxRecDepth 100000 in
theorem vd_22 : vd_ok prog_4_method_3_code cd_22 = true := by decide +kernel
set_option maxRecDepth 100000 in
theorem vd_23 : vd_ok prog_4_method_4_code cd_23 = true := by decide +kernel
set_option maxRecDepth 100000 in
theorem vd_24 : vd_ok prog_4_method_5_code cd_24 = true := by decide +kernel
set_option maxRecDepth 100000 in
theorem vd_25 : vd_ok prog_4_method_6_code cd_25 = true := by decide +kernel
set_option maxRecDepth 100000 in
theorem vd_26 : vd_ok prog_5_method_1_code cd_26 = true := by decide +kernel
set_option maxRecDepth 100000 in
theorem vd_27 : vd_ok prog_5_method_2_code cd_27 = true := by decide +kernel
set_option maxRecDepth 100000 in
theorem vd_28 : vd_ok prog_5_method_3_code cd_28 = true := by decide +kernel
set_option maxRecDepth 100000 in
theorem vd_29 : vd_ok prog_5_method_4_code cd_29 = true := by decide +kernel
set_option maxRecDepth 100000 in
theorem vd_30 : vd_ok prog_5_method_5_code cd_30 = true := by decide +kernel
set_option maxRecDepth 100000 in
theorem vd_31 : vd_ok prog_5_method_6_code cd_31 = true := by decide +kernel
set_option maxRecDepth 100000 in
theorem vd_32 : vd_ok prog_5_method_7_code cd_32 = true := by decide +kernel
set_option maxRecDepth 100000 in
theorem vd_33 : vd_ok prog_5_method_8_code cd_33 = true := by decide +kernel
set_option maxRecDepth 100000 in
theorem vd_34 : vd_ok prog_5_method_9_code cd_34 = true := by decide +kernel
set_option maxRecDepth 100000 in
theorem vd_35 : vd_ok prog_5_method_10_code cd_35 = true := by decide +kernel
set_option maxRecDepth 100000 in
theorem vd_36 : vd_ok prog_5_method_11_code cd_36 = true := by decide +kernel
set_option maxRecDepth 100000 in
theorem vd_37 : vd_ok prog_5_method_12_code cd_37 = true := by decide +kernel
set_option maxRecDepth 100000 in
theorem vd_38 : vd_ok prog_5_method_13_code cd_38 = true := by decide +kernel
set_option maxRecDepth 100000 in
theorem vd_39 : vd_ok prog_5_method_14_code cd_39 = true := by decide +kernel
set_option maxRecDepth 100000 in
theorem vd_40 : vd_ok prog_5_method_15_code cd_40 = true := by decide +kernel
set_option maxRecDepth 100000 in
theorem vd_41 : vd_ok prog_5_method_16_code cd_41 = true := by decide +kernel
set_option maxRecDepth 100000 in
theorem vd_42 : vd_ok prog_5_method_17_code cd_42 = true := by decide +kernel
set_option maxRecDepth 100000 in
theorem vd_43 : vd_ok prog_5_method_18_code cd_43 = true := by decide +kernel
set_option maxRecDepth 100000 in
theorem vd_44 : vd_ok prog_5_method_19_code cd_44 = true := by decide +kernel
set_option maxRecDepth 100000 in
theorem vd_45 : vd_ok prog_5_method_20_code cd_45 = true := by decide +kernel
set_option maxRecDepth 100000 in
theorem vd_46 : vd_ok prog_5_method_21_code cd_46 = true := by decide +kernel
set_option maxRecDepth 100000 in
theorem vd_47 : vd_ok prog_6_method_1_code cd_47 = true := by decide +kernel
set_option maxRecDepth 100000 in
theorem vd_48 : vd_ok prog_7_method_2_code cd_48 = true := by decide +kernel
set_option maxRecDepth 100000 in
theorem vd_49 : vd_ok prog_7_method_3_code cd_49 = true := by decide +kernel
set_option maxRecDepth 100000 in
theorem vd_50 : vd_ok prog_7_method_4_code cd_50 = true := by decide +kernel
set_option maxRecDepth 100000 in
theorem vd_51 : vd_ok prog_7_method_5_code cd_51 = true := by decide +kernel
set_option maxRecDepth 100000 in
theorem vd_52 : vd_ok prog_7_method_6_code cd_52 = true := by decide +kernel
set_option maxRecDepth 100000 in
theorem vd_53 : vd_ok prog_7_method_7_code cd_53 = true := by decide +kernel
set_option maxRecDepth 100000 in
theorem vd_54 : vd_ok prog_7_method_9_code cd_54 = true := by decide +kernel
set_option maxRecDepth 100000 in
theorem vd_55 : vd_ok prog_7_method_10_code cd_55 = true := by decide +kernel
set_option maxRecDepth 100000 in
theorem vd_56 : vd_ok prog_8_method_1_code cd_56 = true := by decide +kernel
set_option maxRecDepth 100000 in
theorem vd_57 : vd_ok prog_8_method_2_code cd_57 = true := by decide +kernel
set_option maxRecDepth 100000 in
theorem vd_58 : vd_ok prog_8_method_3_code cd_58 = true := by decide +kernel
set_option maxRecDepth 100000 in
theorem vd_59 : vd_ok prog_8_method_4_code cd_59 = true := by decide +kernel
set_option maxRecDepth 100000 in
theorem vd_60 : vd_ok prog_8_method_5_code cd_60 = true := by decide +kernel
set_option maxRecDepth 100000 in
theorem vd_61 : vd_ok prog_8_method_6_code cd_61 = true := by decide +kernel
set_option maxRecDepth 100000 in
theorem vd_62 : vd_ok prog_8_method_7_code cd_62 = true := by decide +kernel
set_option maxRecDepth 100000 in
theorem vd_63 : vd_ok prog_8_method_8_code cd_63 = true := by decide +kernel
set_option maxRecDepth 100000 in
theorem vd_64 : vd_ok prog_9_method_1_code cd_64 = true := by decide +kernel
set_option maxRecDepth 100000 in
theorem vd_65 : vd_ok prog_9_method_2_code cd_65 = true := by decide +kernel
set_option maxRecDepth 100000 in
theorem vd_66 : vd_ok prog_9_method_3_code cd_66 = true := by decide +kernel
set_option maxRecDepth 100000 in
theorem vd_67 : vd_ok prog_9_method_4_code cd_67 = true := by decide +kernel
set_option maxRecDepth 100000 in
theorem vd_68 : vd_ok prog_9_method_5_code cd_68 = true := by decide +kernel
set_option maxRecDepth 100000 in
theorem vd_69 : vd_ok prog_10_method_1_code cd_69 = true := by decide +kernel
set_option maxRecDepth 100000 in
theorem vd_70 : vd_ok prog_10_method_2_code cd_70 = true := by decide +kernel
set_option maxRecDepth 100000 in
theorem vd_71 : vd_ok prog_10_method_3_code cd_71 = true := by decide +kernel
set_option maxRecDepth 100000 in
theorem vd_72 : vd_ok prog_10_method_4_code cd_72 = true := by decide +kernel
set_option maxRecDepth 100000 in
theorem vd_73 : vd_ok prog_10_method_5_code cd_73 = true := by decide +kernel
set_option maxRecDepth 100000 in
theorem vd_74 : vd_ok prog_10_method_6_code cd_74 = true := by decide +kernel
set_option maxRecDepth 100000 in
theorem vd_75 : vd_ok prog_10_method_7_code cd_75 = true := by decide +kernel
set_option maxRecDepth 100000 in
theorem vd_76 : vd_ok prog_10_method_8_code cd_76 = true := by decide +kernel
set_option maxRecDepth 100000 in
theorem vd_77 : vd_ok prog_10_method_9_code cd_77 = true := by decide +kernel
set_option maxRecDepth 100000 in
theorem vd_78 : vd_ok prog_11_method_1_code cd_78 = true := by decide +kernel
set_option maxRecDepth 100000 in
theorem vd_79 : vd_ok prog_11_method_2_code cd_79 = true := by decide +kernel
set_option maxRecDepth 100000 in
theorem vd_80 : vd_ok prog_11_method_3_code cd_80 = true := by decide +kernel
set_option maxRecDepth 100000 in
theorem vd_81 : vd_ok prog_11_method_4_code cd_81 = true := by decide +kernel
set_option maxRecDepth 100000 in
theorem vd_82 : vd_ok prog_11_method_5_code cd_82 = true := by decide +kernel
set_option maxRecDepth 100000 in
theorem vd_83 : vd_ok prog_11_method_6_code cd_83 = true := by decide +kernel
set_option maxRecDepth 100000 in
theorem vd_84 : vd_ok prog_11_method_7_code cd_84 = true := by decide +kernel
set_option maxRecDepth 100000 in
theorem vd_85 : vd_ok prog_11_method_8_code cd_85 = true := by decide +kernel
set_option maxRecDepth 100000 in
theorem vd_86 : vd_ok prog_11_method_9_code cd_86 = true := by decide +kernel
set_option maxRecDepth 100000 in
theorem vd_87 : vd_ok prog_11_method_10_code cd_87 = true := by decide +kernel
set_option maxRecDepth 100000 in
theorem vd_88 : vd_ok prog_11_method_11_code cd_88 = true := by decide +kernel
set_option maxRecDepth 100000 in
theorem vd_89 : vd_ok prog_11_method_12_code cd_89 = true := by decide +kernel
set_option maxRecDepth 100000 in
theorem vd_90 : vd_ok prog_11_method_13_code cd_90 = true := by decide +kernel
set_option maxRecDepth 100000 in
theorem vd_91 : vd_ok prog_11_method_14_code cd_91 = true := by decide +kernel
set_option maxRecDepth 100000 in
theorem vd_92 : vd_ok prog_11_method_15_code cd_92 = true := by decide +kernel
set_option maxRecDepth 100000 in
theorem vd_93 : vd_ok prog_12_method_1_code cd_93 = true := by decide +kernel
set_option maxRecDepth 100000 in
theorem vd_94 : vd_ok prog_1_method_1_code cd_94 = true := by decide +kernel
set_option maxRecDepth 100000 in
theorem vd_95 : vd_ok prog_1_method_2_code cd_95 = true := by decide +kernel
set_option maxRecDepth 100000 in
theorem vd_96 : vd_ok prog_1_method_3_code cd_96 = true := by decide +kernel
set_option maxRecDepth 100000 in
theorem vd_97 : vd_ok prog_1_method_4_code cd_97 = true := by decide +kernel
set_option maxRecDepth 100000 in
theorem vd_98 : vd_ok prog_1_method_5_code cd_98 = true := by decide +kernel
set_option maxRecDepth 100000 in
theorem vd_99 : vd_ok prog_1_method_6_code cd_99 = true := by decide +kernel
set_option maxRecDepth 100000 in
theorem vd_100 : vd_ok prog_1_method_7_code cd_100 = true := by decide +kernel
set_option maxRecDepth 100000 in
theorem vd_101 : vd_ok prog_1_method_8_code cd_101 = true := by decide +kernel
set_option maxRecDepth 100000 in
theorem vd_102 : vd_ok prog_1_method_9_code cd_102 = true := by decide +kernel
set_option maxRecDepth 100000 in
theorem vd_103 : vd_ok prog_1_method_10_code cd_103 = true := by decide +kernel
set_option maxRecDepth 100000 in
theorem vd_104 : vd_ok prog_1_method_11_code cd_104 = true := by decide +kernel
set_option maxRecDepth 100000 in
theorem vd_105 : vd_ok prog_1_method_15_code cd_105 = true := by decide +kernel
set_option maxRecDepth 100000 in
theorem vd_106 : vd_ok prog_1_method_16_code cd_106 = true := by decide +kernel
set_option maxRecDepth 100000 in
theorem vd_107 : vd_ok prog_1_method_17_code cd_107 = true := by decide +kernel
set_option maxRecDepth 100000 in
theorem vd_108 : vd_ok prog_1_method_18_code cd_108 = true := by decide +kernel
set_option maxRecDepth 100000 in
theorem vd_109 : vd_ok prog_1_method_19_code cd_109 = true := by decide +kernel
set_option maxRecDepth 100000 in
theorem vd_110 : vd_ok prog_1_method_20_code cd_110 = true := by decide +kernel
set_option maxRecDepth 100000 in
theorem vd_111 : vd_ok prog_1_method_43_code cd_111 = true := by decide +kernel
set_option maxRecDepth 100000 in
theorem vd_112 : vd_ok prog_1_method_47_code cd_112 = true := by decide +kernel
set_option maxRecDepth 100000 in
theorem vd_113 : vd_ok prog_1_method_48_code cd_113 = true := by decide +kernel
set_option maxRecDepth 100000 in
theorem vd_114 : vd_ok prog_1_method_50_code cd_114 = true := by decide +kernel
set_option maxRecDepth 100000 in
theorem vd_115 : vd_ok prog_15_method_49_code cd_115 = true := by decide +kernel
set_option maxRecDepth 100000 in
theorem vd_116 : vd_ok prog_21_method_103_code cd_116 = true := by decide +kernel
set_option maxRecDepth 100000 in
theorem vd_117 : vd_ok method_2_code cd_117 = true := by decide +kernel
set_option maxRecDepth 100000 in
theorem vd_118 : vd_ok method_3_code cd_118 = true := by decide +kernel
set_option maxRecDepth 100000 in
theorem vd_119 : vd_ok method_4_code cd_119 = true := by decide +kernel
set_option maxRecDepth 100000 in
theorem vd_120 : vd_ok method_5_code cd_120 = true := by decide +kernel
set_option maxRecDepth 100000 in
theorem vd_121 : vd_ok method_6_code cd_121 = true := by decide +kernel
set_option maxRecDepth 100000 in
theorem vd_122_0 : vd_ok method_7_code cd_122_0 = true := by decide +kernel
set_option maxRecDepth 100000 in
theorem vd_122_1 : vd_ok method_7_code cd_122_1 = true := by decide +kernel
set_option maxRecDepth 100000 in
theorem vd_122_2 : vd_ok method_7_code cd_122_2 = true := by decide +kernel
set_option maxRecDepth 100000 in
theorem vd_122_3 : vd_ok method_7_code cd_122_3 = true := by decide +kernel
set_option maxRecDepth 100000 in
theorem vd_122_4 : vd_ok method_7_code cd_122_4 = true := by decide +kernel
set_option maxRecDepth 100000 in
theorem vd_122_5 : vd_ok method_7_code cd_122_5 = true := by decide +kernel
set_option maxRecDepth 100000 in
theorem vd_122_6 : vd_ok method_7_code cd_122_6 = true := by decide +kernel
set_option maxRecDepth 100000 in
theorem vd_122_7 : vd_ok method_7_code cd_122_7 = true := by decide +kernel
set_option maxRecDepth 100000 in
theorem vd_122_8 : vd_ok method_7_code cd_122_8 = true := by decide +kernel
set_option maxRecDepth 100000 in
theorem vd_122_9 : vd_ok method_7_code cd_122_9 = true := by decide +kernel
set_option maxRecDepth 100000 in
theorem vd_122_10 : vd_ok method_7_code cd_122_10 = true := by decide +kernel
set_option maxRecDepth 100000 in
theorem vd_122_11 : vd_ok method_7_code cd_122_11 = true := by decide +kernel
set_option maxRecDepth 100000 in
theorem vd_122_12 : vd_ok method_7_code cd_122_12 = true := by decide +kernel
set_option maxRecDepth 100000 in
theorem vd_122_13 : vd_ok method_7_code cd_122_13 = true := by decide +kernel
set_option maxRecDepth 100000 in
theorem vd_122_14 : vd_ok method_7_code cd_122_14 = true := by decide +kernel
set_option maxRecDepth 100000 in
theorem vd_122_15 : vd_ok method_7_code cd_122_15 = true := by decide +kernel
set_option maxRecDepth 100000 in
theorem vd_122_16 : vd_ok method_7_code cd_122_16 = true := by decide +kernel
set_option maxRecDepth 100000 in
theorem vd_122_17 : vd_ok method_7_code cd_122_17 = true := by decide +kernel
set_option maxRecDepth 100000 in
theorem vd_122_18 : vd_ok method_7_code cd_122_18 = true := by decide +kernel
set_option maxRecDepth 100000 in
theorem vd_122_19 : vd_ok method_7_code cd_122_19 = true := by decide +kernel
set_option maxRecDepth 100000 in
theorem vd_122_20 : vd_ok method_7_code cd_122_20 = true := by decide +kernel
set_option maxRecDepth 100000 in
theorem vd_122_21 : vd_ok method_7_code cd_122_21 = true := by decide +kernel
theorem vd_122 : vd_ok method_7_code cd_122 = true := vd_app vd_122_0 (vd_app vd_122_1 (vd_app vd_122_2 (vd_app vd_122_3 (vd_app vd_122_4 (vd_app vd_122_5 (vd_app vd_122_6 (vd_app vd_122_7 (vd_app vd_122_8 (vd_app vd_122_9 (vd_app vd_122_10 (vd_app vd_122_11 (vd_app vd_122_12 (vd_app vd_122_13 (vd_app vd_122_14 (vd_app vd_122_15 (vd_app vd_122_16 (vd_app vd_122_17 (vd_app vd_122_18 (vd_app vd_122_19 (vd_app vd_122_20 (vd_122_21)))))))))))))))))))))
set_option maxRecDepth 100000 in
theorem vd_123 : vd_ok method_8_code cd_123 = true := by decide +kernel
set_option maxRecDepth 100000 in
theorem vd_124 : vd_ok method_9_code cd_124 = true := by decide +kernel
set_option maxRecDepth 100000 in
theorem vd_125 : vd_ok method_10_code cd_125 = true := by decide +kernel
set_option maxRecDepth 100000 in
theorem vd_126 : vd_ok method_11_code cd_126 = true := by decide +kernel
set_option maxRecDepth 100000 in
theorem vd_127 : vd_ok method_13_code cd_127 = true := by decide +kernel
set_option maxRecDepth 100000 in
theorem vd_128_0 : vd_ok method_14_code cd_128_0 = true := by decide +kernel
set_option maxRecDepth 100000 in
theorem vd_128_1 : vd_ok method_14_code cd_128_1 = true := by decide +kernel
set_option maxRecDepth 100000 in
theorem vd_128_2 : vd_ok method_14_code cd_128_2 = true := by decide +kernel
theorem vd_128 : vd_ok method_14_code cd_128 = true := vd_app vd_128_0 (vd_app vd_128_1 (vd_128_2))
set_option maxRecDepth 100000 in
theorem vd_129_0 : vd_ok method_15_code cd_129_0 = true := by decide +kernel
set_option maxRecDepth 100000 in
theorem vd_129_1 : vd_ok method_15_code cd_129_1 = true := by decide +kernel
set_option maxRecDepth 100000 in
theorem vd_129_2 : vd_ok method_15_code cd_129_2 = true := by decide +kernel
set_option maxRecDepth 100000 in
theorem vd_129_3 : vd_ok method_15_code cd_129_3 = true := by decide +kernel
set_option maxRecDepth 100000 in
theorem vd_129_4 : vd_ok method_15_code cd_129_4 = true := by decide +kernel
set_option maxRecDepth 100000 in
theorem vd_129_5 : vd_ok method_15_code cd_129_5 = true := by decide +kernel
theorem vd_129 : vd_ok method_15_code cd_129 = true := vd_app vd_129_0 (vd_app vd_129_1 (vd_app vd_129_2 (vd_app vd_129_3 (vd_app vd_129_4 (vd_129_5)))))
set_option maxRecDepth 100000 in
theorem vd_130 : vd_ok method_16_code cd_130 = true := by decide +kernel
set_option maxRecDepth 100000 in
theorem vd_131_0 : vd_ok method_17_code cd_131_0 = true := by decide +kernel
set_option maxRecDepth 100000 in
theorem vd_131_1 : vd_ok method_17_code cd_131_1 = true := by decide +kernel
set_option maxRecDepth 100000 in
theorem vd_131_2 : vd_ok method_17_code cd_131_2 = true := by decide +kernel
set_option maxRecDepth 100000 in
theorem vd_131_3 : vd_ok method_17_code cd_131_3 = true := by decide +kernel
theorem vd_131 : vd_ok method_17_code cd_131 = true := vd_app vd_131_0 (vd_app vd_131_1 (vd_app vd_131_2 (vd_131_3)))
set_option maxRecDepth 100000 in
theorem vd_132 : vd_ok method_18_code cd_132 = true := by decide +kernel
