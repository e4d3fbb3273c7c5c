/-! The lists of part 01b are what the bytes decode to. -/
def vd_ok (b : ByteArray) (l : List (Nat × Instr × Nat)) : Bool := l.all (fun q => decide (decode b q.1 = .ok q.2))
set_option maxRecDepth 100000 in
theorem vd_0 : vd_ok prog_2_method_1_code cd_0 = true := by decide +kernel
set_option maxRecDepth 100000 in
theorem vd_1 : vd_ok prog_2_method_2_code cd_1 = true := by decide +kernel
set_option maxRecDepth 100000 in
theorem vd_2 : vd_ok prog_2_method_3_code cd_2 = true := by decide +kernel
set_option maxRecDepth 100000 in
theorem vd_3 : vd_ok prog_2_method_4_code cd_3 = true := by decide +kernel
set_option maxRecDepth 100000 in
theorem vd_4 : vd_ok prog_2_method_5_code cd_4 = true := by decide +kernel
set_option maxRecDepth 100000 in
theorem vd_5 : vd_ok prog_2_method_6_code cd_5 = true := by decide +kernel
set_option maxRecDepth 100000 in
theorem vd_6 : vd_ok prog_2_method_7_code cd_6 = true := by decide +kernel
set_option maxRecDepth 100000 in
theorem vd_7 : vd_ok prog_2_method_8_code cd_7 = true := by decide +kernel
set_option maxRecDepth 100000 in
theorem vd_8 : vd_ok prog_2_method_9_code cd_8 = true := by decide +kernel
set_option maxRecDepth 100000 in
theorem vd_9 : vd_ok prog_2_method_10_code cd_9 = true := by decide +kernel
set_option maxRecDepth 100000 in
theorem vd_10 : vd_ok prog_2_method_11_code cd_10 = true := by decide +kernel
set_option maxRecDepth 100000 in
theorem vd_11 : vd_ok prog_2_method_12_code cd_11 = true := by decide +kernel
set_option maxRecDepth 100000 in
theorem vd_12 : vd_ok prog_2_method_13_code cd_12 = true := by decide +kernel
set_option maxRecDepth 100000 in
theorem vd_13 : vd_ok prog_2_method_14_code cd_13 = true := by decide +kernel
set_option maxRecDepth 100000 in
theorem vd_14 : vd_ok prog_2_method_15_code cd_14 = true := by decide +kernel
set_option maxRecDepth 100000 in
theorem vd_15 : vd_ok prog_2_method_16_code cd_15 = true := by decide +kernel
set_option maxRecDepth 100000 in
theorem vd_16 : vd_ok prog_2_method_17_code cd_16 = true := by decide +kernel
set_option maxRecDepth 100000 in
theorem vd_17 : vd_ok prog_2_method_18_code cd_17 = true := by decide +kernel
set_option maxRecDepth 100000 in
theorem vd_18 : vd_ok prog_2_method_19_code cd_18 = true := by decide +kernel
set_option maxRecDepth 100000 in
theorem vd_19 : vd_ok prog_2_method_20_code cd_19 = true := by decide +kernel
set_option maxRecDepth 100000 in
theorem vd_20 : vd_ok prog_2_method_21_code cd_20 = true := by decide +kernel
set_option maxRecDepth 100000 in
theorem vd_21 : vd_ok prog_2_method_22_code cd_21 = true := by decide +kernel
set_option maxRecDepth 100000 in
theorem vd_22 : vd_ok prog_3_method_1_code cd_22 = true := by decide +kernel
set_option maxRecDepth 100000 in
theorem vd_23 : vd_ok prog_3_method_2_code cd_23 = true := by decide +kernel
set_option maxRecDepth 100000 in
theorem vd_24 : vd_ok prog_3_method_3_code cd_24 = true := by decide +kernel
set_option maxRecDepth 100000 in
theorem vd_25 : vd_ok prog_3_method_4_code cd_25 = true := by decide +kernel
set_option maxRecDepth 100000 in
theorem vd_26 : vd_ok prog_3_method_5_code cd_26 = true := by decide +kernel
set_option maxRecDepth 100000 in
theorem vd_27 : vd_ok prog_3_method_6_code cd_27 = true := by decide +kernel
set_option maxRecDepth 100000 in
theorem vd_28 : vd_ok prog_3_method_7_code cd_28 = true := by decide +kernel
set_option maxRecDepth 100000 in
theorem vd_29 : vd_ok prog_3_method_8_code cd_29 = true := by decide +kernel
set_option maxRecDepth 100000 in
theorem vd_30 : vd_ok prog_3_method_9_code cd_30 = true := by decide +kernel
set_option maxRecDepth 100000 in
theorem vd_31 : vd_ok prog_4_method_1_code cd_31 = true := by decide +kernel
set_option maxRecDepth 100000 in
theorem vd_32 : vd_ok prog_4_method_2_code cd_32 = true := by decide +kernel
set_option maxRecDepth 100000 in
theorem vd_33 : vd_ok prog_4_method_3_code cd_33 = true := by decide +kernel
set_option maxRecDepth 100000 in
theorem vd_34 : vd_ok prog_4_method_4_code cd_34 = true := by decide +kernel
set_option maxRecDepth 100000 in
theorem vd_35 : vd_ok prog_4_method_5_code cd_35 = true := by decide +kernel
set_option maxRecDepth 100000 in
theorem vd_36 : vd_ok prog_4_method_6_code cd_36 = true := by decide +kernel
set_option maxRecDepth 100000 in
theorem vd_37 : vd_ok prog_5_method_1_code cd_37 = true := by decide +kernel
set_option maxRecDepth 100000 in
theorem vd_38 : vd_ok prog_5_method_2_code cd_38 = true := by decide +kernel
set_option maxRecDepth 100000 in
theorem vd_39 : vd_ok prog_5_method_3_code cd_39 = true := by decide +kernel
set_option maxRecDepth 100000 in
theorem vd_40 : vd_ok prog_5_method_4_code cd_40 = true := by decide +kernel
set_option maxRecDepth 100000 in
theorem vd_41 : vd_ok prog_5_method_5_code cd_41 = true := by decide +kernel
set_option maxRecDepth 100000 in
theorem vd_42 : vd_ok prog_5_method_6_code cd_42 = true := by decide +kernel
set_option maxRecDepth 100000 in
theorem vd_43 : vd_ok prog_5_method_7_code cd_43 = true := by decide +kernel
set_option maxRecDepth 100000 in
theorem vd_44 : vd_ok prog_5_method_8_code cd_44 = true := by decide +kernel
set_option maxRecDepth 100000 in
theorem vd_45 : vd_ok prog_5_method_9_code cd_45 = true := by decide +kernel
set_option maxRecDepth 100000 in
theorem vd_46 : vd_ok prog_5_method_10_code cd_46 = true := by decide +kernel
set_option maxRecDepth 100000 in
theorem vd_47 : vd_ok prog_5_method_11_code cd_47 = true := by decide +kernel
set_option maxRecDepth 100000 in
theorem vd_48 : vd_ok prog_5_method_12_code cd_48 = true := by decide +kernel
set_option maxRecDepth 100000 in
theorem vd_49 : vd_ok prog_5_method_13_code cd_49 = true := by decide +kernel
set_option maxRecDepth 100000 in
theorem vd_50 : vd_ok prog_5_method_14_code cd_50 = true := by decide +kernel
set_option maxRecDepth 100000 in
theorem vd_51 : vd_ok prog_5_method_15_code cd_51 = true := by decide +kernel
set_option maxRecDepth 100000 in
theorem vd_52 : vd_ok prog_5_method_16_code cd_52 = true := by decide +kernel
set_option maxRecDepth 100000 in
theorem vd_53 : vd_ok prog_5_method_17_code cd_53 = true := by decide +kernel
set_option maxRecDepth 100000 in
theorem vd_54 : vd_ok prog_5_method_18_code cd_54 = true := by decide +kernel
set_option maxRecDepth 100000 in
theorem vd_55 : vd_ok prog_5_method_19_code cd_55 = true := by decide +kernel
set_option maxRecDepth 100000 in
theorem vd_56 : vd_ok prog_5_method_20_code cd_56 = true := by decide +kernel
set_option maxRecDepth 100000 in
theorem vd_57 : vd_ok prog_5_method_21_code cd_57 = true := by decide +kernel
set_option maxRecDepth 100000 in
theorem vd_58 : vd_ok prog_6_method_1_code cd_58 = true := by decide +kernel
set_option maxRecDepth 100000 in
theorem vd_59 : vd_ok prog_6_method_2_code cd_59 = true := by decide +kernel
set_option maxRecDepth 100000 in
theorem vd_60 : vd_ok prog_6_method_3_code cd_60 = true := by decide +kernel
set_option maxRecDepth 100000 in
theorem vd_61 : vd_ok prog_6_method_4_code cd_61 = true := by decide +kernel
set_option maxRecDepth 100000 in
theorem vd_62 : vd_ok prog_6_method_5_code cd_62 = true := by decide +kernel
set_option maxRecDepth 100000 in
theorem vd_63 : vd_ok prog_6_method_6_code cd_63 = true := by decide +kernel
set_option maxRecDepth 100000 in
theorem vd_64 : vd_ok prog_6_method_7_code cd_64 = true := by decide +kernel
set_option maxRecDepth 100000 in
theorem vd_65 : vd_ok prog_6_method_8_code cd_65 = true := by decide +kernel
set_option maxRecDepth 100000 in
theorem vd_66 : vd_ok prog_7_method_2_code cd_66 = true := by decide +kernel
set_option maxRecDepth 100000 in
theorem vd_67 : vd_ok prog_7_method_3_code cd_67 = true := by decide +kernel
set_option maxRecDepth 100000 in
theorem vd_68 : vd_ok prog_7_method_4_code cd_68 = true := by decide +kernel
set_option maxRecDepth 100000 in
theorem vd_69 : vd_ok prog_7_method_5_code cd_69 = true := by decide +kernel
set_option maxRecDepth 100000 in
theorem vd_70 : vd_ok prog_7_method_6_code cd_70 = true := by decide +kernel
set_option maxRecDepth 100000 in
theorem vd_71 : vd_ok prog_7_method_7_code cd_71 = true := by decide +kernel
set_option maxRecDepth 100000 in
theorem vd_72 : vd_ok prog_7_method_8_code cd_72 = true := by decide +kernel
set_option maxRecDepth 100000 in
theorem vd_73 : vd_ok prog_7_method_9_code cd_73 = true := by decide +kernel
set_option maxRecDepth 100000 in
theorem vd_74 : vd_ok prog_7_method_10_code cd_74 = true := by decide +kernel
set_option maxRecDepth 100000 in
theorem vd_75 : vd_ok prog_7_method_11_code cd_75 = true := by decide +kernel
set_option maxRecDepth 100000 in
theorem vd_76 : vd_ok prog_7_method_12_code cd_76 = true := by decide +kernel
set_option maxRecDepth 100000 in
theorem vd_77 : vd_ok prog_7_method_13_code cd_77 = true := by decide +kernel
set_option maxRecDepth 100000 in
theorem vd_78 : vd_ok prog_7_method_14_code cd_78 = true := by decide +kernel
set_option maxRecDepth 100000 in
theorem vd_79 : vd_ok prog_7_method_15_code cd_79 = true := by decide +kernel
set_option maxRecDepth 100000 in
theorem vd_80 : vd_ok prog_7_method_16_code cd_80 = true := by decide +kernel
set_option maxRecDepth 100000 in
theorem vd_81 : vd_ok prog_7_method_17_code cd_81 = true := by decide +kernel
set_option maxRecDepth 100000 in
theorem vd_82 : vd_ok prog_7_method_18_code cd_82 = true := by decide +kernel
set_option maxRecDepth 100000 in
theorem vd_83 : vd_ok prog_7_method_19_code cd_83 = true := by decide +kernel
set_option maxRecDepth 100000 in
theorem vd_84 : vd_ok prog_7_method_20_code cd_84 = true := by decide +kernel
set_option maxRecDepth 100000 in
theorem vd_85 : vd_ok prog_7_method_21_code cd_85 = true := by decide +kernel
set_option maxRecDepth 100000 in
theorem vd_86 : vd_ok prog_7_method_22_code cd_86 = true := by decide +kernel
set_option maxRecDepth 100000 in
theorem vd_87 : vd_ok prog_8_method_1_code cd_87 = true := by decide +kernel
set_option maxRecDepth 100000 in
theorem vd_88 : vd_ok prog_8_method_2_code cd_88 = true := by decide +kernel
set_option maxRecDepth 100000 in
theorem vd_89 : vd_ok prog_8_method_3_code cd_89 = true := by decide +kernel
set_option maxRecDepth 100000 in
theorem vd_90 : vd_ok prog_8_method_4_code cd_90 = true := by decide +kernel
set_option maxRecDepth 100000 in
theorem vd_91 : vd_ok prog_8_method_5_code cd_91 = true := by decide +kernel
set_option maxRecDepth 100000 in
theorem vd_92 : vd_ok prog_8_method_6_code cd_92 = true := by decide +kernel
set_option maxRecDepth 100000 in
theorem vd_93 : vd_ok prog_8_method_7_code cd_93 = true := by decide +kernel
set_option maxRecDepth 100000 in
theorem vd_94 : vd_ok prog_8_method_8_code cd_94 = true := by decide +kernel
set_option maxRecDepth 100000 in
theorem vd_95 : vd_ok prog_9_method_1_code cd_95 = true := by decide +kernel
set_option maxRecDepth 100000 in
theorem vd_96 : vd_ok prog_9_method_2_code cd_96 = true := by decide +kernel
set_option maxRecDepth 100000 in
theorem vd_97 : vd_ok prog_9_method_3_code cd_97 = true := by decide +kernel
set_option maxRecDepth 100000 in
theorem vd_98 : vd_ok prog_9_method_4_code cd_98 = true := by decide +kernel
set_option maxRecDepth 100000 in
theorem vd_99 : vd_ok prog_9_method_5_code cd_99 = true := by decide +kernel
set_option maxRecDepth 100000 in
theorem vd_100 : vd_ok prog_9_method_6_code cd_100 = true := by decide +kernel
set_option maxRecDepth 100000 in
theorem vd_101 : vd_ok prog_10_method_1_code cd_101 = true := by decide +kernel
set_option maxRecDepth 100000 in
theorem vd_102 : vd_ok prog_10_method_2_code cd_102 = true := by decide +kernel
set_option maxRecDepth 100000 in
theorem vd_103 : vd_ok prog_10_method_3_code cd_103 = true := by decide +kernel
set_option maxRecDepth 100000 in
theorem vd_104 : vd_ok prog_10_method_4_code cd_104 = true := by decide +kernel
set_option maxRecDepth 100000 in
theorem vd_105 : vd_ok prog_10_method_5_code cd_105 = true := by decide +kernel
set_option maxRecDepth 100000 in
theorem vd_106 : vd_ok prog_10_method_6_code cd_106 = true := by decide +kernel
set_option maxRecDepth 100000 in
theorem vd_107 : vd_ok prog_10_method_7_code cd_107 = true := by decide +kernel
set_option maxRecDepth 100000 in
theorem vd_108 : vd_ok prog_10_method_8_code cd_108 = true := by decide +kernel
set_option maxRecDepth 100000 in
theorem vd_109 : vd_ok prog_10_method_9_code cd_109 = true := by decide +kernel
set_option maxRecDepth 100000 in
theorem vd_110 : vd_ok prog_10_method_10_code cd_110 = true := by decide +kernel
set_option maxRecDepth 100000 in
theorem vd_111 : vd_ok prog_11_method_1_code cd_111 = true := by decide +kernel
set_option maxRecDepth 100000 in
theorem vd_112 : vd_ok prog_11_method_2_code cd_112 = true := by decide +kernel
set_option maxRecDepth 100000 in
theorem vd_113 : vd_ok prog_11_method_3_code cd_113 = true := by decide +kernel
set_option maxRecDepth 100000 in
theorem vd_114 : vd_ok prog_11_method_4_code cd_114 = true := by decide +kernel
set_option maxRecDepth 100000 in
theorem vd_115 : vd_ok prog_11_method_5_code cd_115 = true := by decide +kernel
set_option maxRecDepth 100000 in
theorem vd_116 : vd_ok prog_11_method_6_code cd_116 = true := by decide +kernel
set_option maxRecDepth 100000 in
theorem vd_117 : vd_ok prog_11_method_7_code cd_117 = true := by decide +kernel
set_option maxRecDepth 100000 in
theorem vd_118 : vd_ok prog_11_method_8_code cd_118 = true := by decide +kernel
set_option maxRecDepth 100000 in
theorem vd_119 : vd_ok prog_11_method_9_code cd_119 = true := by decide +kernel
set_option maxRecDepth 100000 in
theorem vd_120 : vd_ok prog_11_method_10_code cd_120 = true := by decide +kernel
set_option maxRecDepth 100000 in
theorem vd_121 : vd_ok prog_11_method_11_code cd_121 = true := by decide +kernel
set_option maxRecDepth 100000 in
theorem vd_122 : vd_ok prog_11_method_12_code cd_122 = true := by decide +kernel
set_option maxRecDepth 100000 in
theorem vd_123 : vd_ok prog_11_method_13_code cd_123 = true := by decide +kernel
set_option maxRecDepth 100000 in
theorem vd_124 : vd_ok prog_11_method_14_code cd_124 = true := by decide +kernel
set_option maxRecDepth 100000 in
theorem vd_125 : vd_ok prog_11_method_15_code cd_125 = true := by decide +kernel
set_option maxRecDepth 100000 in
theorem vd_126 : vd_ok prog_12_method_1_code cd_126 = true := by decide +kernel
set_option maxRecDepth 100000 in
theorem vd_127 : vd_ok prog_12_method_2_code cd_127 = true := by decide +kernel
set_option maxRecDepth 100000 in
theorem vd_128 : vd_ok prog_12_method_3_code cd_128 = true := by decide +kernel
set_option maxRecDepth 100000 in
theorem vd_129 : vd_ok prog_12_method_4_code cd_129 = true := by decide +kernel
set_option maxRecDepth 100000 in
theorem vd_130 : vd_ok prog_12_method_5_code cd_130 = true := by decide +kernel
set_option maxRecDepth 100000 in
theorem vd_131 : vd_ok prog_12_method_6_code cd_131 = true := by decide +kernel
set_option maxRecDepth 100000 in
theorem vd_132 : vd_ok prog_12_method_7_code cd_132 = true := by decide +kernel
set_option maxRecDepth 100000 in
theorem vd_133 : vd_ok prog_12_method_8_code cd_133 = true := by decide +kernel
set_option maxRecDepth 100000 in
theorem vd_134 : vd_ok prog_12_method_9_code cd_134 = true := by decide +kernel
set_option maxRecDepth 100000 in
theorem vd_135 : vd_ok prog_12_method_10_code cd_135 = true := by decide +kernel
set_option maxRecDepth 100000 in
theorem vd_136 : vd_ok prog_1_method_1_code cd_136 = true := by decide +kernel
set_option maxRecDepth 100000 in
theorem vd_137 : vd_ok prog_1_method_2_code cd_137 = true := by decide +kernel
set_option maxRecDepth 100000 in
theorem vd_138 : vd_ok prog_1_method_3_code cd_138 = true := by decide +kernel
set_option maxRecDepth 100000 in
theorem vd_139 : vd_ok prog_1_method_4_code cd_139 = true := by decide +kernel
set_option maxRecDepth 100000 in
theorem vd_140 : vd_ok prog_1_method_5_code cd_140 = true := by decide +kernel
set_option maxRecDepth 100000 in
theorem vd_141 : vd_ok prog_1_method_6_code cd_141 = true := by decide +kernel
set_option maxRecDepth 100000 in
theorem vd_142 : vd_ok prog_1_method_7_code cd_142 = true := by decide +kernel
set_option maxRecDepth 100000 in
theorem vd_143 : vd_ok prog_1_method_8_code cd_143 = true := by decide +kernel
set_option maxRecDepth 100000 in
theorem vd_144 : vd_ok prog_1_method_9_code cd_144 = true := by decide +kernel
set_option maxRecDepth 100000 in
theorem vd_145 : vd_ok prog_1_method_10_code cd_145 = true := by decide +kernel
set_option maxRecDepth 100000 in
theorem vd_146 : vd_ok prog_1_method_11_code cd_146 = true := by decide +kernel
set_option maxRecDepth 100000 in
theorem vd_147 : vd_ok prog_1_method_12_code cd_147 = true := by decide +kernel
set_option maxRecDepth 100000 in
theorem vd_148 : vd_ok prog_1_method_13_code cd_148 = true := by decide +kernel
set_option maxRecDepth 100000 in
theorem vd_149 : vd_ok prog_1_method_14_code cd_149 = true := by decide +kernel
set_option maxRecDepth 100000 in
theorem vd_150 : vd_ok prog_1_method_15_code cd_150 = true := by decide +kernel
set_option maxRecDepth 100000 in
theorem vd_151 : vd_ok prog_1_method_16_code cd_151 = true := by decide +kernel
set_option maxRecDepth 100000 in
theorem vd_152 : vd_ok prog_1_method_17_code cd_152 = true := by decide +kernel
set_option maxRecDepth 100000 in
theorem vd_153 : vd_ok prog_1_method_18_code cd_153 = true := by decide +kernel
set_option maxRecDepth 100000 in
theorem vd_154 : vd_ok prog_1_method_19_code cd_154 = true := by decide +kernel
set_option maxRecDepth 100000 in
theorem vd_155 : vd_ok prog_1_method_20_code cd_155 = true := by decide +kernel
set_option maxRecDepth 100000 in
theorem vd_156 : vd_ok prog_1_method_21_code cd_156 = true := by decide +kernel
set_option maxRecDepth 100000 in
theorem vd_157 : vd_ok prog_1_method_22_code cd_157 = true := by decide +kernel
set_option maxRecDepth 100000 in
theorem vd_158 : vd_ok prog_1_method_23_code cd_158 = true := by decide +kernel
set_option maxRecDepth 100000 in
theorem vd_159 : vd_ok prog_1_method_24_code cd_159 = true := by decide +kernel
set_option maxRecDepth 100000 in
theorem vd_160 : vd_ok prog_1_method_25_code cd_160 = true := by decide +kernel
set_option maxRecDepth 100000 in
theorem vd_161 : vd_ok prog_1_method_26_code cd_161 = true := by decide +kernel
set_option maxRecDepth 100000 in
theorem vd_162 : vd_ok prog_1_method_27_code cd_162 = true := by decide +kernel
set_option maxRecDepth 100000 in
theorem vd_163 : vd_ok prog_1_method_28_code cd_163 = true := by decide +kernel
set_option maxRecDepth 100000 in
theorem vd_164 : vd_ok prog_1_method_29_code cd_164 = true := by decide +kernel
set_option maxRecDepth 100000 in
theorem vd_165 : vd_ok prog_1_method_30_code cd_165 = true := by decide +kernel
set_option maxRecDepth 100000 in
theorem vd_166 : vd_ok prog_1_method_31_code cd_166 = true := by decide +kernel
set_option maxRecDepth 100000 in
theorem vd_167 : vd_ok prog_1_method_32_code cd_167 = true := by decide +kernel
set_option maxRecDepth 100000 in
theorem vd_168 : vd_ok prog_1_method_33_code cd_168 = true := by decide +kernel
set_option maxRecDepth 100000 in
theorem vd_169 : vd_ok prog_1_method_34_code cd_169 = true := by decide +kernel
set_option maxRecDepth 100000 in
theorem vd_170 : vd_ok prog_1_method_35_code cd_170 = true := by decide +kernel
set_option maxRecDepth 100000 in
theorem vd_171 : vd_ok prog_1_method_36_code cd_171 = true := by decide +kernel
set_option maxRecDepth 100000 in
theorem vd_172 : vd_ok prog_1_method_37_code cd_172 = true := by decide +kernel
set_option maxRecDepth 100000 in
theorem vd_173 : vd_ok prog_1_method_38_code cd_173 = true := by decide +kernel
set_option maxRecDepth 100000 in
theorem vd_174 : vd_ok prog_1_method_39_code cd_174 = true := by decide +kernel
set_option maxRecDepth 100000 in
theorem vd_175 : vd_ok prog_1_method_40_code cd_175 = true := by decide +kernel
set_option maxRecDepth 100000 in
theorem vd_176 : vd_ok prog_1_method_41_code cd_176 = true := by decide +kernel
set_option maxRecDepth 100000 in
theorem vd_177 : vd_ok prog_1_method_42_code cd_177 = true := by decide +kernel
set_option maxRecDepth 100000 in
theorem vd_178 : vd_ok prog_1_method_43_code cd_178 = true := by decide +kernel
set_option maxRecDepth 100000 in
theorem vd_179 : vd_ok prog_1_method_44_code cd_179 = true := by decide +kernel
set_option maxRecDepth 100000 in
theorem vd_180 : vd_ok prog_1_method_45_code cd_180 = true := by decide +kernel
set_option maxRecDepth 100000 in
theorem vd_181 : vd_ok prog_1_method_46_code cd_181 = true := by decide +kernel
set_option maxRecDepth 100000 in
theorem vd_182 : vd_ok prog_1_method_47_code cd_182 = true := by decide +kernel
set_option maxRecDepth 100000 in
theorem vd_183 : vd_ok prog_1_method_48_code cd_183 = true := by decide +kernel
set_option maxRecDepth 100000 in
theorem vd_184 : vd_ok prog_1_method_49_code cd_184 = true := by decide +kernel
set_option maxRecDepth 100000 in
theorem vd_185 : vd_ok prog_1_method_50_code cd_185 = true := by decide +kernel
set_option maxRecDepth 100000 in
theorem vd_186 : vd_ok prog_1_method_51_code cd_186 = true := by decide +kernel
set_option maxRecDepth 100000 in
theorem vd_187 : vd_ok prog_1_method_52_code cd_187 = true := by decide +kernel
set_option maxRecDepth 100000 in
theorem vd_188 : vd_ok prog_14_method_1_code cd_188 = true := by decide +kernel
set_option maxRecDepth 100000 in
theorem vd_189 : vd_ok prog_14_method_2_code cd_189 = true := by decide +kernel
set_option maxRecDepth 100000 in
theorem vd_190 : vd_ok prog_14_method_3_code cd_190 = true := by decide +kernel
set_option maxRecDepth 100000 in
theorem vd_191 : vd_ok prog_14_method_4_code cd_191 = true := by decide +kernel
set_option maxRecDepth 100000 in
theorem vd_192 : vd_ok prog_14_method_5_code cd_192 = true := by decide +kernel
set_option maxRecDepth 100000 in
theorem vd_193 : vd_ok prog_14_method_6_code cd_193 = true := by decide +kernel
set_option maxRecDepth 100000 in
theorem vd_194 : vd_ok prog_14_method_7_code cd_194 = true := by decide +kernel
set_option maxRecDepth 100000 in
theorem vd_195 : vd_ok prog_14_method_8_code cd_195 = true := by decide +kernel
set_option maxRecDepth 100000 in
theorem vd_196 : vd_ok prog_14_method_9_code cd_196 = true := by decide +kernel
set_option maxRecDepth 100000 in
theorem vd_197 : vd_ok prog_14_method_10_code cd_197 = true := by decide +kernel
set_option maxRecDepth 100000 in
theorem vd_198 : vd_ok prog_14_method_11_code cd_198 = true := by decide +kernel
set_option maxRecDepth 100000 in
theorem vd_199 : vd_ok prog_14_method_12_code cd_199 = true := by decide +kernel
set_option maxRecDepth 100000 in
theorem vd_200 : vd_ok prog_14_method_13_code cd_200 = true := by decide +kernel
set_option maxRecDepth 100000 in
theorem vd_201 : vd_ok prog_14_method_14_code cd_201 = true := by decide +kernel
set_option maxRecDepth 100000 in
theorem vd_202 : vd_ok prog_14_method_15_code cd_202 = true := by decide +kernel
set_option maxRecDepth 100000 in
theorem vd_203 : vd_ok prog_14_method_16_code cd_203 = true := by decide +kernel
set_option maxRecDepth 100000 in
theorem vd_204 : vd_ok prog_14_method_17_code cd_204 = true := by decide +kernel
set_option maxRecDepth 100000 in
theorem vd_205 : vd_ok prog_14_method_18_code cd_205 = true := by decide +kernel
set_option maxRecDepth 100000 in
theorem vd_206 : vd_ok prog_14_method_19_code cd_206 = true := by decide +kernel
set_option maxRecDepth 100000 in
theorem vd_207 : vd_ok prog_14_method_20_code cd_207 = true := by decide +kernel
set_option maxRecDepth 100000 in
theorem vd_208 : vd_ok prog_14_method_21_code cd_208 = true := by decide +kernel
set_option maxRecDepth 100000 in
theorem vd_209 : vd_ok prog_14_method_22_code cd_209 = true := by decide +kernel
set_option maxRecDepth 100000 in
theorem vd_210 : vd_ok prog_14_method_23_code cd_210 = true := by decide +kernel
set_option maxRecDepth 100000 in
theorem vd_211 : vd_ok prog_14_method_24_code cd_211 = true := by decide +kernel
set_option maxRecDepth 100000 in
theorem vd_212 : vd_ok prog_14_method_25_code cd_212 = true := by decide +kernel
set_option maxRecDepth 100000 in
theorem vd_213 : vd_ok prog_14_method_26_code cd_213 = true := by decide +kernel
set_option maxRecDepth 100000 in
theorem vd_214 : vd_ok prog_14_method_27_code cd_214 = true := by decide +kernel
set_option maxRecDepth 100000 in
theorem vd_215 : vd_ok prog_14_method_28_code cd_215 = true := by decide +kernel
set_option maxRecDepth 100000 in
theorem vd_216 : vd_ok prog_14_method_29_code cd_216 = true := by decide +kernel
set_option maxRecDepth 100000 in
theorem vd_217 : vd_ok prog_14_method_30_code cd_217 = true := by decide +kernel
set_option maxRecDepth 100000 in
theorem vd_218 : vd_ok prog_14_method_31_code cd_218 = true := by decide +kernel
set_option maxRecDepth 100000 in
theorem vd_219 : vd_ok prog_14_method_32_code cd_219 = true := by decide +kernel
set_option maxRecDepth 100000 in
theorem vd_220 : vd_ok prog_14_method_33_code cd_220 = true := by decide +kernel
set_option maxRecDepth 100000 in
theorem vd_221 : vd_ok prog_14_method_34_code cd_221 = true := by decide +kernel
set_option maxRecDepth 100000 in
theorem vd_222 : vd_ok prog_14_method_35_code cd_222 = true := by decide +kernel
set_option maxRecDepth 100000 in
theorem vd_223 : vd_ok prog_14_method_36_code cd_223 = true := by decide +kernel
set_option maxRecDepth 100000 in
theorem vd_224 : vd_ok prog_14_method_37_code cd_224 = true := by decide +kernel
set_option maxRecDepth 100000 in
theorem vd_225 : vd_ok prog_14_method_38_code cd_225 = true := by decide +kernel
set_option maxRecDepth 100000 in
theorem vd_226 : vd_ok prog_14_method_39_code cd_226 = true := by decide +kernel
set_option maxRecDepth 100000 in
theorem vd_227 : vd_ok prog_14_method_40_code cd_227 = true := by decide +kernel
set_option maxRecDepth 100000 in
theorem vd_228 : vd_ok prog_14_method_41_code cd_228 = true := by decide +kernel
set_option maxRecDepth 100000 in
theorem vd_229 : vd_ok prog_14_method_42_code cd_229 = true := by decide +kernel
set_option maxRecDepth 100000 in
theorem vd_230 : vd_ok prog_14_method_43_code cd_230 = true := by decide +kernel
set_option maxRecDepth 100000 in
theorem vd_231 : vd_ok prog_14_method_44_code cd_231 = true := by decide +kernel
set_option maxRecDepth 100000 in
theorem vd_232 : vd_ok prog_14_method_45_code cd_232 = true := by decide +kernel
set_option maxRecDepth 100000 in
theorem vd_233 : vd_ok prog_14_method_46_code cd_233 = true := by decide +kernel
set_option maxRecDepth 100000 in
theorem vd_234 : vd_ok prog_14_method_47_code cd_234 = true := by decide +kernel
set_option maxRecDepth 100000 in
theorem vd_235 : vd_ok prog_14_method_48_code cd_235 = true := by decide +kernel
set_option maxRecDepth 100000 in
theorem vd_236 : vd_ok prog_14_method_49_code cd_236 = true := by decide +kernel
set_option maxRecDepth 100000 in
theorem vd_237 : vd_ok prog_14_method_50_code cd_237 = true := by decide +kernel
set_option maxRecDepth 100000 in
theorem vd_238 : vd_ok prog_14_method_51_code cd_238 = true := by decide +kernel
set_option maxRecDepth 100000 in
theorem vd_239 : vd_ok prog_14_method_52_code cd_239 = true := by decide +kernel
set_option maxRecDepth 100000 in
theorem vd_240 : vd_ok prog_14_method_53_code cd_240 = true := by decide +kernel
set_option maxRecDepth 100000 in
theorem vd_241 : vd_ok prog_14_method_54_code cd_241 = true := by decide +kernel
set_option maxRecDepth 100000 in
theorem vd_242 : vd_ok prog_14_method_55_code cd_242 = true := by decide +kernel
set_option maxRecDepth 100000 in
theorem vd_243 : vd_ok prog_14_method_56_code cd_243 = true := by decide +kernel
set_option maxRecDepth 100000 in
theorem vd_244 : vd_ok prog_14_method_57_code cd_244 = true := by decide +kernel
set_option maxRecDepth 100000 in
theorem vd_245 : vd_ok prog_14_method_58_code cd_245 = true := by decide +kernel
set_option maxRecDepth 100000 in
theorem vd_246 : vd_ok prog_14_method_59_code cd_246 = true := by decide +kernel
set_option maxRecDepth 100000 in
theorem vd_247 : vd_ok prog_14_method_60_code cd_247 = true := by decide +kernel
set_option maxRecDepth 100000 in
theorem vd_248 : vd_ok prog_14_method_61_code cd_248 = true := by decide +kernel
set_option maxRecDepth 100000 in
theorem vd_249 : vd_ok prog_14_method_62_code cd_249 = true := by decide +kernel
set_option maxRecDepth 100000 in
theorem vd_250 : vd_ok prog_14_method_63_code cd_250 = true := by decide +kernel
set_option maxRecDepth 100000 in
theorem vd_251 : vd_ok prog_14_method_64_code cd_251 = true := by decide +kernel
set_option maxRecDepth 100000 in
theorem vd_252 : vd_ok prog_14_method_65_code cd_252 = true := by decide +kernel
set_option maxRecDepth 100000 in
theorem vd_253 : vd_ok prog_14_method_66_code cd_253 = true := by decide +kernel
set_option maxRecDepth 100000 in
theorem vd_254 : vd_ok prog_14_method_67_code cd_254 = true := by decide +kernel
set_option maxRecDepth 100000 in
theorem vd_255 : vd_ok prog_14_method_68_code cd_255 = true := by decide +kernel
set_option maxRecDepth 100000 in
theorem vd_256 : vd_ok prog_14_method_69_code cd_256 = true := by decide +kernel
set_option maxRecDepth 100000 in
theorem vd_257 : vd_ok prog_14_method_70_code cd_257 = true := by decide +kernel
set_option maxRecDepth 100000 in
theorem vd_258 : vd_ok prog_14_method_71_code cd_258 = true := by decide +kernel
set_option maxRecDepth 100000 in
theorem vd_259 : vd_ok prog_14_method_72_code cd_259 = true := by decide +kernel
set_option maxRecDepth 100000 in
theorem vd_260 : vd_ok prog_14_method_73_code cd_260 = true := by decide +kernel
set_option maxRecDepth 100000 in
theorem vd_261 : vd_ok prog_14_method_74_code cd_261 = true := by decide +kernel
set_option maxRecDepth 100000 in
theorem vd_262 : vd_ok prog_14_method_75_code cd_262 = true := by decide +kernel
set_option maxRecDepth 100000 in
theorem vd_263 : vd_ok prog_14_method_76_code cd_263 = true := by decide +kernel
set_option maxRecDepth 100000 in
theorem vd_264 : vd_ok prog_14_method_77_code cd_264 = true := by decide +kernel
set_option maxRecDepth 100000 in
theorem vd_265 : vd_ok prog_14_method_78_code cd_265 = true := by decide +kernel
set_option maxRecDepth 100000 in
theorem vd_266 : vd_ok prog_14_method_79_code cd_266 = true := by decide +kernel
set_option maxRecDepth 100000 in
theorem vd_267 : vd_ok prog_14_method_80_code cd_267 = true := by decide +kernel
set_option maxRecDepth 100000 in
theorem vd_268 : vd_ok prog_14_method_81_code cd_268 = true := by decide +kernel
set_option maxRecDepth 100000 in
theorem vd_269 : vd_ok prog_14_method_82_code cd_269 = true := by decide +kernel
set_option maxRecDepth 100000 in
theorem vd_270 : vd_ok prog_14_method_83_code cd_270 = true := by decide +kernel
set_option maxRecDepth 100000 in
theorem vd_271 : vd_ok prog_14_method_84_code cd_271 = true := by decide +kernel
set_option maxRecDepth 100000 in
theorem vd_272 : vd_ok prog_14_method_85_code cd_272 = true := by decide +kernel
set_option maxRecDepth 100000 in
theorem vd_273 : vd_ok prog_14_method_86_code cd_273 = true := by decide +kernel
set_option maxRecDepth 100000 in
theorem vd_274 : vd_ok prog_14_method_87_code cd_274 = true := by decide +kernel
set_option maxRecDepth 100000 in
theorem vd_275 : vd_ok prog_14_method_88_code cd_275 = true := by decide +kernel
set_option maxRecDepth 100000 in
theorem vd_276 : vd_ok prog_14_method_89_code cd_276 = true := by decide +kernel
set_option maxRecDepth 100000 in
theorem vd_277 : vd_ok prog_14_method_90_code cd_277 = true := by decide +kernel
set_option maxRecDepth 100000 in
theorem vd_278 : vd_ok prog_14_method_91_code cd_278 = true := by decide +kernel
set_option maxRecDepth 100000 in
theorem vd_279 : vd_ok prog_14_method_92_code cd_279 = true := by decide +kernel
set_option maxRecDepth 100000 in
theorem vd_280 : vd_ok prog_14_method_93_code cd_280 = true := by decide +kernel
set_option maxRecDepth 100000 in
theorem vd_281 : vd_ok prog_14_method_94_code cd_281 = true := by decide +kernel
set_option maxRecDepth 100000 in
theorem vd_282 : vd_ok prog_14_method_95_code cd_282 = true := by decide +kernel
set_option maxRecDepth 100000 in
theorem vd_283 : vd_ok prog_14_method_96_code cd_283 = true := by decide +kernel
set_option maxRecDepth 100000 in
theorem vd_284 : vd_ok prog_14_method_97_code cd_284 = true := by decide +kernel
set_option maxRecDepth 100000 in
theorem vd_285 : vd_ok prog_14_method_98_code cd_285 = true := by decide +kernel
set_option maxRecDepth 100000 in
theorem vd_286 : vd_ok prog_14_method_99_code cd_286 = true := by decide +kernel
set_option maxRecDepth 100000 in
theorem vd_287 : vd_ok prog_14_method_100_code cd_287 = true := by decide +kernel
set_option maxRecDepth 100000 in
theorem vd_288 : vd_ok prog_14_method_101_code cd_288 = true := by decide +kernel
set_option maxRecDepth 100000 in
theorem vd_289 : vd_ok prog_14_method_102_code cd_289 = true := by decide +kernel
set_option maxRecDepth 100000 in
theorem vd_290 : vd_ok prog_14_method_103_code cd_290 = true := by decide +kernel
set_option maxRecDepth 100000 in
theorem vd_291 : vd_ok prog_14_method_104_code cd_291 = true := by decide +kernel
set_option maxRecDepth 100000 in
theorem vd_292 : vd_ok prog_14_method_105_code cd_292 = true := by decide +kernel
set_option maxRecDepth 100000 in
theorem vd_293 : vd_ok prog_14_method_106_code cd_293 = true := by decide +kernel
set_option maxRecDepth 100000 in
theorem vd_294 : vd_ok prog_14_method_107_code cd_294 = true := by decide +kernel
set_option maxRecDepth 100000 in
theorem vd_295 : vd_ok prog_14_method_108_code cd_295 = true := by decide +kernel
set_option maxRecDepth 100000 in
theorem vd_296 : vd_ok prog_14_method_109_code cd_296 = true := by decide +kernel
set_option maxRecDepth 100000 in
theorem vd_297 : vd_ok prog_14_method_110_code cd_297 = true := by decide +kernel
set_option maxRecDepth 100000 in
theorem vd_298 : vd_ok prog_14_method_111_code cd_298 = true := by decide +kernel
set_option maxRecDepth 100000 in
theorem vd_299 : vd_ok prog_14_method_112_code cd_299 = true := by decide +kernel
set_option maxRecDepth 100000 in
theorem vd_300 : vd_ok prog_14_method_113_code cd_300 = true := by decide +kernel
set_option maxRecDepth 100000 in
theorem vd_301 : vd_ok prog_14_method_114_code cd_301 = true := by decide +kernel
set_option maxRecDepth 100000 in
theorem vd_302 : vd_ok prog_14_method_115_code cd_302 = true := by decide +kernel
set_option maxRecDepth 100000 in
theorem vd_303 : vd_ok prog_14_method_116_code cd_303 = true := by decide +kernel
set_option maxRecDepth 100000 in
theorem vd_304 : vd_ok prog_14_method_117_code cd_304 = true := by decide +kernel
set_option maxRecDepth 100000 in
theorem vd_305 : vd_ok prog_14_method_118_code cd_305 = true := by decide +kernel
set_option maxRecDepth 100000 in
theorem vd_306 : vd_ok prog_14_method_119_code cd_306 = true := by decide +kernel
set_option maxRecDepth 100000 in
theorem vd_307 : vd_ok prog_14_method_120_code cd_307 = true := by decide +kernel
set_option maxRecDepth 100000 in
theorem vd_308 : vd_ok prog_14_method_121_code cd_308 = true := by decide +kernel
set_option maxRecDepth 100000 in
theorem vd_309 : vd_ok prog_14_method_122_code cd_309 = true := by decide +kernel
set_option maxRecDepth 100000 in
theorem vd_310 : vd_ok prog_14_method_123_code cd_310 = true := by decide +kernel
set_option maxRecDepth 100000 in
theorem vd_311 : vd_ok prog_14_method_124_code cd_311 = true := by decide +kernel
set_option maxRecDepth 100000 in
theorem vd_312 : vd_ok prog_14_method_125_code cd_312 = true := by decide +kernel
set_option maxRecDepth 100000 in
theorem vd_313 : vd_ok prog_14_method_126_code cd_313 = true := by decide +kernel
set_option maxRecDepth 100000 in
theorem vd_314 : vd_ok prog_14_method_127_code cd_314 = true := by decide +kernel
set_option maxRecDepth 100000 in
theorem vd_315 : vd_ok prog_14_method_128_code cd_315 = true := by decide +kernel
set_option maxRecDepth 100000 in
theorem vd_316 : vd_ok prog_14_method_129_code cd_316 = true := by decide +kernel
set_option maxRecDepth 100000 in
theorem vd_317 : vd_ok prog_14_method_130_code cd_317 = true := by decide +kernel
set_option maxRecDepth 100000 in
theorem vd_318 : vd_ok prog_14_method_131_code cd_318 = true := by decide +kernel
set_option maxRecDepth 100000 in
theorem vd_319 : vd_ok prog_14_method_132_code cd_319 = true := by decide +kernel
set_option maxRecDepth 100000 in
theorem vd_320 : vd_ok prog_14_method_133_code cd_320 = true := by decide +kernel
set_option maxRecDepth 100000 in
theorem vd_321 : vd_ok prog_14_method_134_code cd_321 = true := by decide +kernel
set_option maxRecDepth 100000 in
theorem vd_322 : vd_ok prog_14_method_135_code cd_322 = true := by decide +kernel
set_option maxRecDepth 100000 in
theorem vd_323 : vd_ok prog_14_method_136_code cd_323 = true := by decide +kernel
set_option maxRecDepth 100000 in
theorem vd_324 : vd_ok prog_14_method_137_code cd_324 = true := by decide +kernel
set_option maxRecDepth 100000 in
theorem vd_325 : vd_ok prog_14_method_138_code cd_325 = true := by decide +kernel
set_option maxRecDepth 100000 in
theorem vd_326 : vd_ok prog_14_method_139_code cd_326 = true := by decide +kernel
set_option maxRecDepth 100000 in
theorem vd_327 : vd_ok prog_14_method_140_code cd_327 = true := by decide +kernel
set_option maxRecDepth 100000 in
theorem vd_328 : vd_ok prog_14_method_141_code cd_328 = true := by decide +kernel
set_option maxRecDepth 100000 in
theorem vd_329 : vd_ok prog_14_method_142_code cd_329 = true := by decide +kernel
set_option maxRecDepth 100000 in
theorem vd_330 : vd_ok prog_14_method_143_code cd_330 = true := by decide +kernel
set_option maxRecDepth 100000 in
theorem vd_331 : vd_ok prog_15_method_49_code cd_331 = true := by decide +kernel
set_option maxRecDepth 100000 in
theorem vd_332 : vd_ok prog_21_method_103_code cd_332 = true := by decide +kernel
