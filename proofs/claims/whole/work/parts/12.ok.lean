theorem ok_0 : okR 0 = true := by decide +kernel
theorem ok_1 : okR 1 = true := by decide +kernel
theorem ok_2 : okR 2 = true := by decide +kernel
theorem ok_3 : okR 3 = true := by decide +kernel
theorem ok_4 : okR 4 = true := by decide +kernel
theorem ok_5 : okR 5 = true := by decide +kernel
theorem ok_6 : okR 6 = true := by decide +kernel
theorem ok_7 : okR 7 = true := by decide +kernel
theorem ok_8 : okR 8 = true := by decide +kernel
theorem ok_9 : okR 9 = true := by decide +kernel
theorem ok_10 : okR 10 = true := by decide +kernel
theorem ok_11 : okR 11 = true := by decide +kernel
theorem ok_12 : okR 12 = true := by decide +kernel
theorem ok_13 : okR 13 = true := by decide +kernel
theorem ok_14 : okR 14 = true := by decide +kernel
theorem ok_15 : okR 15 = true := by decide +kernel
theorem ok_16 : okR 16 = true := by decide +kernel
theorem ok_17 : okR 17 = true := by decide +kernel
theorem ok_18 : okR 18 = true := by decide +kernel
theorem ok_19 : okR 19 = true := by decide +kernel
theorem ok_20 : okR 20 = true := by decide +kernel
theorem ok_21 : okR 21 = true := by decide +kernel
theorem ok_22 : okR 22 = true := by decide +kernel
theorem ok_23 : okR 23 = true := by decide +kernel
theorem ok_24 : okR 24 = true := by decide +kernel
theorem ok_25 : okR 25 = true := by decide +kernel
theorem ok_26 : okR 26 = true := by decide +kernel
theorem ok_27 : okR 27 = true := by decide +kernel
theorem ok_28 : okR 28 = true := by decide +kernel
theorem ok_29 : okR 29 = true := by decide +kernel
theorem ok_30 : okR 30 = true := by decide +kernel
theorem ok_31 : okR 31 = true := by decide +kernel
theorem ok_32 : okR 32 = true := by decide +kernel
theorem ok_33 : okR 33 = true := by decide +kernel
theorem ok_34 : okR 34 = true := by decide +kernel
theorem ok_35 : okR 35 = true := by decide +kernel
theorem ok_36 : okR 36 = true := by decide +kernel
theorem ok_37 : okR 37 = true := by decide +kernel
theorem ok_38 : okR 38 = true := by decide +kernel
theorem ok_39 : okR 39 = true := by decide +kernel
theorem ok_40 : okR 40 = true := by decide +kernel
theorem ok_41 : okR 41 = true := by decide +kernel
theorem ok_42 : okR 42 = true := by decide +kernel
theorem ok_43 : okR 43 = true := by decide +kernel
theorem ok_44 : okR 44 = true := by decide +kernel
theorem ok_45 : okR 45 = true := by decide +kernel
theorem ok_46 : okR 46 = true := by decide +kernel
theorem ok_47 : okR 47 = true := by decide +kernel
theorem ok_48 : okR 48 = true := by decide +kernel
theorem ok_49 : okR 49 = true := by decide +kernel
theorem ok_50 : okR 50 = true := by decide +kernel
theorem ok_51 : okR 51 = true := by decide +kernel
theorem ok_52 : okR 52 = true := by decide +kernel
theorem ok_53 : okR 53 = true := by decide +kernel
theorem ok_54 : okR 54 = true := by decide +kernel
theorem ok_55 : okR 55 = true := by decide +kernel
theorem ok_56 : okR 56 = true := by decide +kernel
theorem ok_57 : okR 57 = true := by decide +kernel
theorem ok_58 : okR 58 = true := by decide +kernel
theorem ok_59 : okR 59 = true := by decide +kernel
theorem ok_60 : okR 60 = true := by decide +kernel
theorem ok_61 : okR 61 = true := by decide +kernel
theorem ok_62 : okR 62 = true := by decide +kernel
theorem ok_63 : okR 63 = true := by decide +kernel
theorem ok_64 : okR 64 = true := by decide +kernel
theorem ok_65 : okR 65 = true := by decide +kernel
theorem ok_66 : okR 66 = true := by decide +kernel
theorem ok_67 : okR 67 = true := by decide +kernel
theorem ok_68 : okR 68 = true := by decide +kernel
theorem ok_69 : okR 69 = true := by decide +kernel
theorem ok_70 : okR 70 = true := by decide +kernel
theorem ok_71 : okR 71 = true := by decide +kernel
theorem ok_72 : okR 72 = true := by decide +kernel
theorem ok_73 : okR 73 = true := by decide +kernel
theorem ok_74 : okR 74 = true := by decide +kernel
theorem ok_75 : okR 75 = true := by decide +kernel
theorem ok_76 : okR 76 = true := by decide +kernel
theorem ok_77 : okR 77 = true := by decide +kernel
theorem ok_78 : okR 78 = true := by decide +kernel
theorem ok_79 : okR 79 = true := by decide +kernel
theorem ok_80 : okR 80 = true := by decide +kernel
theorem ok_81 : okR 81 = true := by decide +kernel
theorem ok_82 : okR 82 = true := by decide +kernel
theorem ok_83 : okR 83 = true := by decide +kernel
theorem ok_84 : okR 84 = true := by decide +kernel
theorem ok_85 : okR 85 = true := by decide +kernel
theorem ok_86 : okR 86 = true := by decide +kernel
theorem ok_87 : okR 87 = true := by decide +kernel
theorem ok_88 : okR 88 = true := by decide +kernel
theorem ok_89 : okR 89 = true := by decide +kernel
theorem ok_90 : okR 90 = true := by decide +kernel
theorem ok_91 : okR 91 = true := by decide +kernel
theorem ok_92 : okR 92 = true := by decide +kernel
theorem ok_93 : okR 93 = true := by decide +kernel
theorem ok_94 : okR 94 = true := by decide +kernel
theorem ok_95 : okR 95 = true := by decide +kernel
theorem ok_96 : okR 96 = true := by decide +kernel
theorem ok_97 : okR 97 = true := by decide +kernel
theorem ok_98 : okR 98 = true := by decide +kernel
theorem ok_99 : okR 99 = true := by decide +kernel
theorem ok_100 : okR 100 = true := by decide +kernel
theorem ok_101 : okR 101 = true := by decide +kernel
theorem ok_102 : okR 102 = true := by decide +kernel
theorem ok_103 : okR 103 = true := by decide +kernel
theorem ok_104 : okR 104 = true := by decide +kernel
theorem ok_105 : okR 105 = true := by decide +kernel
theorem ok_106 : okR 106 = true := by decide +kernel
theorem ok_107 : okR 107 = true := by decide +kernel
theorem ok_108 : okR 108 = true := by decide +kernel
theorem ok_109 : okR 109 = true := by decide +kernel
theorem ok_110 : okR 110 = true := by decide +kernel
theorem ok_111 : okR 111 = true := by decide +kernel
theorem ok_112 : okR 112 = true := by decide +kernel
theorem ok_113 : okR 113 = true := by decide +kernel
theorem ok_114 : okR 114 = true := by decide +kernel
theorem ok_115 : okR 115 = true := by decide +kernel
theorem ok_116 : okR 116 = true := by decide +kernel
theorem ok_117 : okR 117 = true := by decide +kernel
theorem ok_118 : okR 118 = true := by decide +kernel
theorem ok_119 : okR 119 = true := by decide +kernel
theorem ok_120 : okR 120 = true := by decide +kernel
theorem ok_121 : okR 121 = true := by decide +kernel
theorem ok_122 : okR 122 = true := by decide +kernel
theorem ok_123 : okR 123 = true := by decide +kernel
theorem ok_124 : okR 124 = true := by decide +kernel
theorem ok_125 : okR 125 = true := by decide +kernel
theorem ok_126 : okR 126 = true := by decide +kernel
theorem ok_127 : okR 127 = true := by decide +kernel
theorem ok_128 : okR 128 = true := by decide +kernel
theorem ok_129 : okR 129 = true := by decide +kernel
theorem ok_130 : okR 130 = true := by decide +kernel
theorem ok_131 : okR 131 = true := by decide +kernel
theorem ok_132 : okR 132 = true := by decide +kernel
theorem ok_133 : okR 133 = true := by decide +kernel
theorem ok_134 : okR 134 = true := by decide +kernel
theorem ok_135 : okR 135 = true := by decide +kernel
theorem ok_136 : okR 136 = true := by decide +kernel
theorem ok_137 : okR 137 = true := by decide +kernel
theorem ok_138 : okR 138 = true := by decide +kernel
theorem ok_139 : okR 139 = true := by decide +kernel
theorem ok_140 : okR 140 = true := by decide +kernel
theorem ok_141 : okR 141 = true := by decide +kernel
theorem ok_142 : okR 142 = true := by decide +kernel
theorem ok_143 : okR 143 = true := by decide +kernel
theorem ok_144 : okR 144 = true := by decide +kernel
theorem ok_145 : okR 145 = true := by decide +kernel
theorem ok_146 : okR 146 = true := by decide +kernel
theorem ok_147 : okR 147 = true := by decide +kernel
theorem ok_148 : okR 148 = true := by decide +kernel
theorem ok_149 : okR 149 = true := by decide +kernel
theorem ok_150 : okR 150 = true := by decide +kernel
theorem ok_151 : okR 151 = true := by decide +kernel
theorem ok_152 : okR 152 = true := by decide +kernel
theorem ok_153 : okR 153 = true := by decide +kernel
theorem ok_154 : okR 154 = true := by decide +kernel
theorem ok_155 : okR 155 = true := by decide +kernel
theorem ok_156 : okR 156 = true := by decide +kernel
theorem ok_157 : okR 157 = true := by decide +kernel
theorem ok_158 : okR 158 = true := by decide +kernel
theorem ok_159 : okR 159 = true := by decide +kernel
theorem ok_160 : okR 160 = true := by decide +kernel
theorem ok_161 : okR 161 = true := by decide +kernel
theorem ok_162 : okR 162 = true := by decide +kernel
theorem ok_163 : okR 163 = true := by decide +kernel
theorem ok_164 : okR 164 = true := by decide +kernel
theorem ok_165 : okR 165 = true := by decide +kernel
theorem ok_166 : okR 166 = true := by decide +kernel
theorem ok_167 : okR 167 = true := by decide +kernel
theorem ok_168 : okR 168 = true := by decide +kernel
theorem ok_169 : okR 169 = true := by decide +kernel
theorem ok_170 : okR 170 = true := by decide +kernel
theorem ok_171 : okR 171 = true := by decide +kernel
theorem ok_172 : okR 172 = true := by decide +kernel
theorem ok_173 : okR 173 = true := by decide +kernel
theorem ok_174 : okR 174 = true := by decide +kernel
theorem ok_175 : okR 175 = true := by decide +kernel
theorem ok_176 : okR 176 = true := by decide +kernel
theorem ok_177 : okR 177 = true := by decide +kernel
theorem ok_178 : okR 178 = true := by decide +kernel
theorem ok_179 : okR 179 = true := by decide +kernel
theorem ok_180 : okR 180 = true := by decide +kernel
theorem ok_181 : okR 181 = true := by decide +kernel
theorem ok_182 : okR 182 = true := by decide +kernel
theorem ok_183 : okR 183 = true := by decide +kernel
theorem ok_184 : okR 184 = true := by decide +kernel
theorem ok_185 : okR 185 = true := by decide +kernel
theorem ok_186 : okR 186 = true := by decide +kernel
theorem ok_187 : okR 187 = true := by decide +kernel
theorem ok_188 : okR 188 = true := by decide +kernel
theorem ok_189 : okR 189 = true := by decide +kernel
theorem ok_190 : okR 190 = true := by decide +kernel
theorem ok_191 : okR 191 = true := by decide +kernel
theorem ok_192 : okR 192 = true := by decide +kernel
theorem ok_193 : okR 193 = true := by decide +kernel
theorem ok_194 : okR 194 = true := by decide +kernel
theorem ok_195 : okR 195 = true := by decide +kernel
theorem ok_196 : okR 196 = true := by decide +kernel
theorem ok_197 : okR 197 = true := by decide +kernel
theorem ok_198 : okR 198 = true := by decide +kernel
theorem ok_199 : okR 199 = true := by decide +kernel
theorem ok_200 : okR 200 = true := by decide +kernel
theorem ok_201 : okR 201 = true := by decide +kernel
theorem ok_202 : okR 202 = true := by decide +kernel
theorem ok_203 : okR 203 = true := by decide +kernel
theorem ok_204 : okR 204 = true := by decide +kernel
theorem ok_205 : okR 205 = true := by decide +kernel
theorem ok_206 : okR 206 = true := by decide +kernel
theorem ok_207 : okR 207 = true := by decide +kernel
theorem ok_208 : okR 208 = true := by decide +kernel
theorem ok_209 : okR 209 = true := by decide +kernel
theorem ok_210 : okR 210 = true := by decide +kernel
theorem ok_211 : okR 211 = true := by decide +kernel
theorem ok_212 : okR 212 = true := by decide +kernel
theorem ok_213 : okR 213 = true := by decide +kernel
theorem ok_214 : okR 214 = true := by decide +kernel
theorem ok_215 : okR 215 = true := by decide +kernel
set_option maxRecDepth 20000 in
theorem q0_0 : dropTo 0 (mcode 0) = k0_0 := rfl
set_option maxRecDepth 20000 in
theorem q1_0 : dropTo 0 (mcode 1) = k1_0 := rfl
set_option maxRecDepth 20000 in
theorem q2_0 : dropTo 0 (mcode 2) = k2_0 := rfl
set_option maxRecDepth 20000 in
theorem q2_32 : dropTo 32 (mcode 2) = k2_32 := rfl
set_option maxRecDepth 20000 in
theorem q2_41 : dropTo 41 (mcode 2) = k2_41 := rfl
set_option maxRecDepth 20000 in
theorem q2_50 : dropTo 50 (mcode 2) = k2_50 := rfl
set_option maxRecDepth 20000 in
theorem q2_59 : dropTo 59 (mcode 2) = k2_59 := rfl
set_option maxRecDepth 20000 in
theorem q2_68 : dropTo 68 (mcode 2) = k2_68 := rfl
set_option maxRecDepth 20000 in
theorem q2_70 : dropTo 70 (mcode 2) = k2_70 := rfl
set_option maxRecDepth 20000 in
theorem q2_82 : dropTo 82 (mcode 2) = k2_82 := rfl
set_option maxRecDepth 20000 in
theorem q2_83 : dropTo 83 (mcode 2) = k2_83 := rfl
set_option maxRecDepth 20000 in
theorem q3_0 : dropTo 0 (mcode 3) = k3_0 := rfl
set_option maxRecDepth 20000 in
theorem q3_36 : dropTo 36 (mcode 3) = k3_36 := rfl
set_option maxRecDepth 20000 in
theorem q4_0 : dropTo 0 (mcode 4) = k4_0 := rfl
set_option maxRecDepth 20000 in
theorem q4_32 : dropTo 32 (mcode 4) = k4_32 := rfl
set_option maxRecDepth 20000 in
theorem q4_53 : dropTo 53 (mcode 4) = k4_53 := rfl
set_option maxRecDepth 20000 in
theorem q4_82 : dropTo 82 (mcode 4) = k4_82 := rfl
set_option maxRecDepth 20000 in
theorem q4_106 : dropTo 106 (mcode 4) = k4_106 := rfl
set_option maxRecDepth 20000 in
theorem q5_0 : dropTo 0 (mcode 5) = k5_0 := rfl
set_option maxRecDepth 20000 in
theorem q5_36 : dropTo 36 (mcode 5) = k5_36 := rfl
set_option maxRecDepth 20000 in
theorem q5_61 : dropTo 61 (mcode 5) = k5_61 := rfl
set_option maxRecDepth 20000 in
theorem q5_90 : dropTo 90 (mcode 5) = k5_90 := rfl
set_option maxRecDepth 20000 in
theorem q6_0 : dropTo 0 (mcode 6) = k6_0 := rfl
set_option maxRecDepth 20000 in
theorem q6_32 : dropTo 32 (mcode 6) = k6_32 := rfl
set_option maxRecDepth 20000 in
theorem q6_54 : dropTo 54 (mcode 6) = k6_54 := rfl
set_option maxRecDepth 20000 in
theorem q6_81 : dropTo 81 (mcode 6) = k6_81 := rfl
set_option maxRecDepth 20000 in
theorem q7_0 : dropTo 0 (mcode 7) = k7_0 := rfl
set_option maxRecDepth 20000 in
theorem q7_36 : dropTo 36 (mcode 7) = k7_36 := rfl
set_option maxRecDepth 20000 in
theorem q7_68 : dropTo 68 (mcode 7) = k7_68 := rfl
set_option maxRecDepth 20000 in
theorem q7_93 : dropTo 93 (mcode 7) = k7_93 := rfl
set_option maxRecDepth 20000 in
theorem q8_0 : dropTo 0 (mcode 8) = k8_0 := rfl
set_option maxRecDepth 20000 in
theorem q8_18 : dropTo 18 (mcode 8) = k8_18 := rfl
set_option maxRecDepth 20000 in
theorem q9_0 : dropTo 0 (mcode 9) = k9_0 := rfl
set_option maxRecDepth 20000 in
theorem q9_28 : dropTo 28 (mcode 9) = k9_28 := rfl
set_option maxRecDepth 20000 in
theorem q9_37 : dropTo 37 (mcode 9) = k9_37 := rfl
set_option maxRecDepth 20000 in
theorem q9_38 : dropTo 38 (mcode 9) = k9_38 := rfl
set_option maxRecDepth 20000 in
theorem q9_39 : dropTo 39 (mcode 9) = k9_39 := rfl
set_option maxRecDepth 20000 in
theorem q9_41 : dropTo 41 (mcode 9) = k9_41 := rfl
set_option maxRecDepth 20000 in
theorem q10_0 : dropTo 0 (mcode 10) = k10_0 := rfl
set_option maxRecDepth 20000 in
theorem q10_36 : dropTo 36 (mcode 10) = k10_36 := rfl
set_option maxRecDepth 20000 in
theorem q10_39 : dropTo 39 (mcode 10) = k10_39 := rfl
set_option maxRecDepth 20000 in
theorem q10_42 : dropTo 42 (mcode 10) = k10_42 := rfl
set_option maxRecDepth 20000 in
theorem q10_44 : dropTo 44 (mcode 10) = k10_44 := rfl
set_option maxRecDepth 20000 in
theorem q10_46 : dropTo 46 (mcode 10) = k10_46 := rfl
set_option maxRecDepth 20000 in
theorem q10_50 : dropTo 50 (mcode 10) = k10_50 := rfl
set_option maxRecDepth 20000 in
theorem q11_0 : dropTo 0 (mcode 11) = k11_0 := rfl
set_option maxRecDepth 20000 in
theorem q11_32 : dropTo 32 (mcode 11) = k11_32 := rfl
set_option maxRecDepth 20000 in
theorem q11_41 : dropTo 41 (mcode 11) = k11_41 := rfl
set_option maxRecDepth 20000 in
theorem q11_42 : dropTo 42 (mcode 11) = k11_42 := rfl
set_option maxRecDepth 20000 in
theorem q11_43 : dropTo 43 (mcode 11) = k11_43 := rfl
set_option maxRecDepth 20000 in
theorem q11_55 : dropTo 55 (mcode 11) = k11_55 := rfl
set_option maxRecDepth 20000 in
theorem q11_56 : dropTo 56 (mcode 11) = k11_56 := rfl
set_option maxRecDepth 20000 in
theorem q11_57 : dropTo 57 (mcode 11) = k11_57 := rfl
set_option maxRecDepth 20000 in
theorem q12_0 : dropTo 0 (mcode 12) = k12_0 := rfl
set_option maxRecDepth 20000 in
theorem q12_10 : dropTo 10 (mcode 12) = k12_10 := rfl
set_option maxRecDepth 20000 in
theorem q12_14 : dropTo 14 (mcode 12) = k12_14 := rfl
set_option maxRecDepth 20000 in
theorem q12_15 : dropTo 15 (mcode 12) = k12_15 := rfl
set_option maxRecDepth 20000 in
theorem q13_0 : dropTo 0 (mcode 13) = k13_0 := rfl
set_option maxRecDepth 20000 in
theorem q13_4 : dropTo 4 (mcode 13) = k13_4 := rfl
set_option maxRecDepth 20000 in
theorem q13_20 : dropTo 20 (mcode 13) = k13_20 := rfl
set_option maxRecDepth 20000 in
theorem q13_32 : dropTo 32 (mcode 13) = k13_32 := rfl
set_option maxRecDepth 20000 in
theorem q14_0 : dropTo 0 (mcode 14) = k14_0 := rfl
set_option maxRecDepth 20000 in
theorem q14_12 : dropTo 12 (mcode 14) = k14_12 := rfl
set_option maxRecDepth 20000 in
theorem q14_31 : dropTo 31 (mcode 14) = k14_31 := rfl
set_option maxRecDepth 20000 in
theorem q15_0 : dropTo 0 (mcode 15) = k15_0 := rfl
set_option maxRecDepth 20000 in
theorem q15_10 : dropTo 10 (mcode 15) = k15_10 := rfl
set_option maxRecDepth 20000 in
theorem q15_23 : dropTo 23 (mcode 15) = k15_23 := rfl
set_option maxRecDepth 20000 in
theorem q15_24 : dropTo 24 (mcode 15) = k15_24 := rfl
set_option maxRecDepth 20000 in
theorem q16_0 : dropTo 0 (mcode 16) = k16_0 := rfl
set_option maxRecDepth 20000 in
theorem q17_0 : dropTo 0 (mcode 17) = k17_0 := rfl
set_option maxRecDepth 20000 in
theorem q18_0 : dropTo 0 (mcode 18) = k18_0 := rfl
set_option maxRecDepth 20000 in
theorem q18_13 : dropTo 13 (mcode 18) = k18_13 := rfl
set_option maxRecDepth 20000 in
theorem q18_14 : dropTo 14 (mcode 18) = k18_14 := rfl
set_option maxRecDepth 20000 in
theorem q19_0 : dropTo 0 (mcode 19) = k19_0 := rfl
set_option maxRecDepth 20000 in
theorem q19_7 : dropTo 7 (mcode 19) = k19_7 := rfl
set_option maxRecDepth 20000 in
theorem q19_90 : dropTo 90 (mcode 19) = k19_90 := rfl
set_option maxRecDepth 20000 in
theorem q19_96 : dropTo 96 (mcode 19) = k19_96 := rfl
set_option maxRecDepth 20000 in
theorem q19_98 : dropTo 98 (mcode 19) = k19_98 := rfl
set_option maxRecDepth 20000 in
theorem q19_117 : dropTo 117 (mcode 19) = k19_117 := rfl
set_option maxRecDepth 20000 in
theorem q20_0 : dropTo 0 (mcode 20) = k20_0 := rfl
set_option maxRecDepth 20000 in
theorem q20_2 : dropTo 2 (mcode 20) = k20_2 := rfl
set_option maxRecDepth 20000 in
theorem q20_48 : dropTo 48 (mcode 20) = k20_48 := rfl
set_option maxRecDepth 20000 in
theorem q21_0 : dropTo 0 (mcode 21) = k21_0 := rfl
set_option maxRecDepth 20000 in
theorem q21_10 : dropTo 10 (mcode 21) = k21_10 := rfl
set_option maxRecDepth 20000 in
theorem q21_33 : dropTo 33 (mcode 21) = k21_33 := rfl
set_option maxRecDepth 20000 in
theorem q22_0 : dropTo 0 (mcode 22) = k22_0 := rfl
set_option maxRecDepth 20000 in
theorem q22_14 : dropTo 14 (mcode 22) = k22_14 := rfl
set_option maxRecDepth 20000 in
theorem q22_40 : dropTo 40 (mcode 22) = k22_40 := rfl
set_option maxRecDepth 20000 in
theorem q22_42 : dropTo 42 (mcode 22) = k22_42 := rfl
set_option maxRecDepth 20000 in
theorem q22_87 : dropTo 87 (mcode 22) = k22_87 := rfl
set_option maxRecDepth 20000 in
theorem q22_93 : dropTo 93 (mcode 22) = k22_93 := rfl
set_option maxRecDepth 20000 in
theorem q23_0 : dropTo 0 (mcode 23) = k23_0 := rfl
set_option maxRecDepth 20000 in
theorem q23_38 : dropTo 38 (mcode 23) = k23_38 := rfl
set_option maxRecDepth 20000 in
theorem q23_80 : dropTo 80 (mcode 23) = k23_80 := rfl
set_option maxRecDepth 20000 in
theorem q23_95 : dropTo 95 (mcode 23) = k23_95 := rfl
set_option maxRecDepth 20000 in
theorem q23_130 : dropTo 130 (mcode 23) = k23_130 := rfl
set_option maxRecDepth 20000 in
theorem q24_0 : dropTo 0 (mcode 24) = k24_0 := rfl
set_option maxRecDepth 20000 in
theorem q24_19 : dropTo 19 (mcode 24) = k24_19 := rfl
set_option maxRecDepth 20000 in
theorem q24_20 : dropTo 20 (mcode 24) = k24_20 := rfl
set_option maxRecDepth 20000 in
theorem q24_34 : dropTo 34 (mcode 24) = k24_34 := rfl
set_option maxRecDepth 20000 in
theorem q24_42 : dropTo 42 (mcode 24) = k24_42 := rfl
set_option maxRecDepth 20000 in
theorem q24_55 : dropTo 55 (mcode 24) = k24_55 := rfl
set_option maxRecDepth 20000 in
theorem q24_59 : dropTo 59 (mcode 24) = k24_59 := rfl
set_option maxRecDepth 20000 in
theorem q24_105 : dropTo 105 (mcode 24) = k24_105 := rfl
set_option maxRecDepth 20000 in
theorem q24_107 : dropTo 107 (mcode 24) = k24_107 := rfl
set_option maxRecDepth 20000 in
theorem q25_0 : dropTo 0 (mcode 25) = k25_0 := rfl
set_option maxRecDepth 20000 in
theorem q25_29 : dropTo 29 (mcode 25) = k25_29 := rfl
set_option maxRecDepth 20000 in
theorem q25_62 : dropTo 62 (mcode 25) = k25_62 := rfl
set_option maxRecDepth 20000 in
theorem q25_63 : dropTo 63 (mcode 25) = k25_63 := rfl
set_option maxRecDepth 20000 in
theorem q26_0 : dropTo 0 (mcode 26) = k26_0 := rfl
set_option maxRecDepth 20000 in
theorem q26_30 : dropTo 30 (mcode 26) = k26_30 := rfl
set_option maxRecDepth 20000 in
theorem q27_0 : dropTo 0 (mcode 27) = k27_0 := rfl
set_option maxRecDepth 20000 in
theorem q28_0 : dropTo 0 (mcode 28) = k28_0 := rfl
set_option maxRecDepth 20000 in
theorem q28_16 : dropTo 16 (mcode 28) = k28_16 := rfl
set_option maxRecDepth 20000 in
theorem q28_49 : dropTo 49 (mcode 28) = k28_49 := rfl
set_option maxRecDepth 20000 in
theorem q28_60 : dropTo 60 (mcode 28) = k28_60 := rfl
set_option maxRecDepth 20000 in
theorem q29_0 : dropTo 0 (mcode 29) = k29_0 := rfl
set_option maxRecDepth 20000 in
theorem q29_21 : dropTo 21 (mcode 29) = k29_21 := rfl
set_option maxRecDepth 20000 in
theorem q29_38 : dropTo 38 (mcode 29) = k29_38 := rfl
set_option maxRecDepth 20000 in
theorem q29_47 : dropTo 47 (mcode 29) = k29_47 := rfl
set_option maxRecDepth 20000 in
theorem q30_0 : dropTo 0 (mcode 30) = k30_0 := rfl
set_option maxRecDepth 20000 in
theorem q30_11 : dropTo 11 (mcode 30) = k30_11 := rfl
set_option maxRecDepth 20000 in
theorem q30_22 : dropTo 22 (mcode 30) = k30_22 := rfl
set_option maxRecDepth 20000 in
theorem q30_33 : dropTo 33 (mcode 30) = k30_33 := rfl
set_option maxRecDepth 20000 in
theorem q30_44 : dropTo 44 (mcode 30) = k30_44 := rfl
set_option maxRecDepth 20000 in
theorem q30_55 : dropTo 55 (mcode 30) = k30_55 := rfl
set_option maxRecDepth 20000 in
theorem q30_68 : dropTo 68 (mcode 30) = k30_68 := rfl
set_option maxRecDepth 20000 in
theorem q30_70 : dropTo 70 (mcode 30) = k30_70 := rfl
set_option maxRecDepth 20000 in
theorem q31_0 : dropTo 0 (mcode 31) = k31_0 := rfl
set_option maxRecDepth 20000 in
theorem q31_15 : dropTo 15 (mcode 31) = k31_15 := rfl
set_option maxRecDepth 20000 in
theorem q31_24 : dropTo 24 (mcode 31) = k31_24 := rfl
set_option maxRecDepth 20000 in
theorem q31_87 : dropTo 87 (mcode 31) = k31_87 := rfl
set_option maxRecDepth 20000 in
theorem q31_111 : dropTo 111 (mcode 31) = k31_111 := rfl
set_option maxRecDepth 20000 in
theorem q32_0 : dropTo 0 (mcode 32) = k32_0 := rfl
set_option maxRecDepth 20000 in
theorem q32_17 : dropTo 17 (mcode 32) = k32_17 := rfl
set_option maxRecDepth 20000 in
theorem q32_74 : dropTo 74 (mcode 32) = k32_74 := rfl
set_option maxRecDepth 20000 in
theorem q33_0 : dropTo 0 (mcode 33) = k33_0 := rfl
set_option maxRecDepth 20000 in
theorem q33_25 : dropTo 25 (mcode 33) = k33_25 := rfl
set_option maxRecDepth 20000 in
theorem q34_0 : dropTo 0 (mcode 34) = k34_0 := rfl
set_option maxRecDepth 20000 in
theorem q34_38 : dropTo 38 (mcode 34) = k34_38 := rfl
set_option maxRecDepth 20000 in
theorem q35_0 : dropTo 0 (mcode 35) = k35_0 := rfl
set_option maxRecDepth 20000 in
theorem q35_12 : dropTo 12 (mcode 35) = k35_12 := rfl
set_option maxRecDepth 20000 in
theorem q35_64 : dropTo 64 (mcode 35) = k35_64 := rfl
set_option maxRecDepth 20000 in
theorem q36_0 : dropTo 0 (mcode 36) = k36_0 := rfl
set_option maxRecDepth 20000 in
theorem q36_18 : dropTo 18 (mcode 36) = k36_18 := rfl
set_option maxRecDepth 20000 in
theorem q36_20 : dropTo 20 (mcode 36) = k36_20 := rfl
set_option maxRecDepth 20000 in
theorem q36_49 : dropTo 49 (mcode 36) = k36_49 := rfl
set_option maxRecDepth 20000 in
theorem q36_55 : dropTo 55 (mcode 36) = k36_55 := rfl
set_option maxRecDepth 20000 in
theorem q37_0 : dropTo 0 (mcode 37) = k37_0 := rfl
set_option maxRecDepth 20000 in
theorem q37_9 : dropTo 9 (mcode 37) = k37_9 := rfl
set_option maxRecDepth 20000 in
theorem q37_29 : dropTo 29 (mcode 37) = k37_29 := rfl
set_option maxRecDepth 20000 in
theorem q38_0 : dropTo 0 (mcode 38) = k38_0 := rfl
set_option maxRecDepth 20000 in
theorem q38_10 : dropTo 10 (mcode 38) = k38_10 := rfl
set_option maxRecDepth 20000 in
theorem q38_24 : dropTo 24 (mcode 38) = k38_24 := rfl
set_option maxRecDepth 20000 in
theorem q38_94 : dropTo 94 (mcode 38) = k38_94 := rfl
set_option maxRecDepth 20000 in
theorem q38_126 : dropTo 126 (mcode 38) = k38_126 := rfl
set_option maxRecDepth 20000 in
theorem q38_134 : dropTo 134 (mcode 38) = k38_134 := rfl
set_option maxRecDepth 20000 in
theorem q39_0 : dropTo 0 (mcode 39) = k39_0 := rfl
set_option maxRecDepth 20000 in
theorem q39_33 : dropTo 33 (mcode 39) = k39_33 := rfl
set_option maxRecDepth 20000 in
theorem q39_34 : dropTo 34 (mcode 39) = k39_34 := rfl
set_option maxRecDepth 20000 in
theorem q40_0 : dropTo 0 (mcode 40) = k40_0 := rfl
set_option maxRecDepth 20000 in
theorem q40_9 : dropTo 9 (mcode 40) = k40_9 := rfl
set_option maxRecDepth 20000 in
theorem q40_29 : dropTo 29 (mcode 40) = k40_29 := rfl
set_option maxRecDepth 20000 in
theorem q40_37 : dropTo 37 (mcode 40) = k40_37 := rfl
set_option maxRecDepth 20000 in
theorem q41_0 : dropTo 0 (mcode 41) = k41_0 := rfl
set_option maxRecDepth 20000 in
theorem q42_0 : dropTo 0 (mcode 42) = k42_0 := rfl
set_option maxRecDepth 20000 in
theorem q43_0 : dropTo 0 (mcode 43) = k43_0 := rfl
set_option maxRecDepth 20000 in
theorem q44_0 : dropTo 0 (mcode 44) = k44_0 := rfl
set_option maxRecDepth 20000 in
theorem q44_10 : dropTo 10 (mcode 44) = k44_10 := rfl
set_option maxRecDepth 20000 in
theorem q45_0 : dropTo 0 (mcode 45) = k45_0 := rfl
set_option maxRecDepth 20000 in
theorem q46_0 : dropTo 0 (mcode 46) = k46_0 := rfl
set_option maxRecDepth 20000 in
theorem q46_9 : dropTo 9 (mcode 46) = k46_9 := rfl
set_option maxRecDepth 20000 in
theorem q47_0 : dropTo 0 (mcode 47) = k47_0 := rfl
set_option maxRecDepth 20000 in
theorem q47_12 : dropTo 12 (mcode 47) = k47_12 := rfl
set_option maxRecDepth 20000 in
theorem q47_68 : dropTo 68 (mcode 47) = k47_68 := rfl
set_option maxRecDepth 20000 in
theorem q48_0 : dropTo 0 (mcode 48) = k48_0 := rfl
set_option maxRecDepth 20000 in
theorem q48_4 : dropTo 4 (mcode 48) = k48_4 := rfl
set_option maxRecDepth 20000 in
theorem q48_50 : dropTo 50 (mcode 48) = k48_50 := rfl
set_option maxRecDepth 20000 in
theorem q48_56 : dropTo 56 (mcode 48) = k48_56 := rfl
set_option maxRecDepth 20000 in
theorem q49_0 : dropTo 0 (mcode 49) = k49_0 := rfl
set_option maxRecDepth 20000 in
theorem q49_4 : dropTo 4 (mcode 49) = k49_4 := rfl
set_option maxRecDepth 20000 in
theorem q49_29 : dropTo 29 (mcode 49) = k49_29 := rfl
set_option maxRecDepth 20000 in
theorem q49_35 : dropTo 35 (mcode 49) = k49_35 := rfl
set_option maxRecDepth 20000 in
theorem q50_0 : dropTo 0 (mcode 50) = k50_0 := rfl
set_option maxRecDepth 20000 in
theorem q50_4 : dropTo 4 (mcode 50) = k50_4 := rfl
set_option maxRecDepth 20000 in
theorem q50_27 : dropTo 27 (mcode 50) = k50_27 := rfl
set_option maxRecDepth 20000 in
theorem q51_0 : dropTo 0 (mcode 51) = k51_0 := rfl
set_option maxRecDepth 20000 in
theorem q51_4 : dropTo 4 (mcode 51) = k51_4 := rfl
set_option maxRecDepth 20000 in
theorem q51_25 : dropTo 25 (mcode 51) = k51_25 := rfl
set_option maxRecDepth 20000 in
theorem q51_31 : dropTo 31 (mcode 51) = k51_31 := rfl
set_option maxRecDepth 20000 in
theorem q52_0 : dropTo 0 (mcode 52) = k52_0 := rfl
set_option maxRecDepth 20000 in
theorem q52_5 : dropTo 5 (mcode 52) = k52_5 := rfl
set_option maxRecDepth 20000 in
theorem q52_27 : dropTo 27 (mcode 52) = k52_27 := rfl
set_option maxRecDepth 20000 in
theorem q52_44 : dropTo 44 (mcode 52) = k52_44 := rfl
set_option maxRecDepth 20000 in
theorem q53_0 : dropTo 0 (mcode 53) = k53_0 := rfl
set_option maxRecDepth 20000 in
theorem q53_2 : dropTo 2 (mcode 53) = k53_2 := rfl
set_option maxRecDepth 20000 in
theorem q53_31 : dropTo 31 (mcode 53) = k53_31 := rfl
set_option maxRecDepth 20000 in
theorem q53_33 : dropTo 33 (mcode 53) = k53_33 := rfl
set_option maxRecDepth 20000 in
theorem q53_39 : dropTo 39 (mcode 53) = k53_39 := rfl
set_option maxRecDepth 20000 in
theorem q54_0 : dropTo 0 (mcode 54) = k54_0 := rfl
set_option maxRecDepth 20000 in
theorem q54_12 : dropTo 12 (mcode 54) = k54_12 := rfl
set_option maxRecDepth 20000 in
theorem q54_30 : dropTo 30 (mcode 54) = k54_30 := rfl
set_option maxRecDepth 20000 in
theorem q54_33 : dropTo 33 (mcode 54) = k54_33 := rfl
set_option maxRecDepth 20000 in
theorem q54_61 : dropTo 61 (mcode 54) = k54_61 := rfl
set_option maxRecDepth 20000 in
theorem q55_0 : dropTo 0 (mcode 55) = k55_0 := rfl
set_option maxRecDepth 20000 in
theorem q55_29 : dropTo 29 (mcode 55) = k55_29 := rfl
set_option maxRecDepth 20000 in
theorem q56_0 : dropTo 0 (mcode 56) = k56_0 := rfl
set_option maxRecDepth 20000 in
theorem q56_12 : dropTo 12 (mcode 56) = k56_12 := rfl
set_option maxRecDepth 20000 in
theorem q57_0 : dropTo 0 (mcode 57) = k57_0 := rfl
set_option maxRecDepth 20000 in
theorem q57_27 : dropTo 27 (mcode 57) = k57_27 := rfl
set_option maxRecDepth 20000 in
theorem q57_29 : dropTo 29 (mcode 57) = k57_29 := rfl
set_option maxRecDepth 20000 in
theorem q57_43 : dropTo 43 (mcode 57) = k57_43 := rfl
set_option maxRecDepth 20000 in
theorem q58_0 : dropTo 0 (mcode 58) = k58_0 := rfl
set_option maxRecDepth 20000 in
theorem q58_19 : dropTo 19 (mcode 58) = k58_19 := rfl
set_option maxRecDepth 20000 in
theorem q59_0 : dropTo 0 (mcode 59) = k59_0 := rfl
set_option maxRecDepth 20000 in
theorem q59_17 : dropTo 17 (mcode 59) = k59_17 := rfl
set_option maxRecDepth 20000 in
theorem q59_19 : dropTo 19 (mcode 59) = k59_19 := rfl
set_option maxRecDepth 20000 in
theorem q60_0 : dropTo 0 (mcode 60) = k60_0 := rfl
set_option maxRecDepth 20000 in
theorem q60_32 : dropTo 32 (mcode 60) = k60_32 := rfl
set_option maxRecDepth 20000 in
theorem q60_34 : dropTo 34 (mcode 60) = k60_34 := rfl
set_option maxRecDepth 20000 in
theorem q60_49 : dropTo 49 (mcode 60) = k60_49 := rfl
set_option maxRecDepth 20000 in
theorem q61_0 : dropTo 0 (mcode 61) = k61_0 := rfl
set_option maxRecDepth 20000 in
theorem q61_13 : dropTo 13 (mcode 61) = k61_13 := rfl
set_option maxRecDepth 20000 in
theorem q61_64 : dropTo 64 (mcode 61) = k61_64 := rfl
set_option maxRecDepth 20000 in
theorem q61_74 : dropTo 74 (mcode 61) = k61_74 := rfl
set_option maxRecDepth 20000 in
theorem q61_84 : dropTo 84 (mcode 61) = k61_84 := rfl
set_option maxRecDepth 20000 in
theorem q61_94 : dropTo 94 (mcode 61) = k61_94 := rfl
set_option maxRecDepth 20000 in
theorem q61_104 : dropTo 104 (mcode 61) = k61_104 := rfl
set_option maxRecDepth 20000 in
theorem q61_114 : dropTo 114 (mcode 61) = k61_114 := rfl
set_option maxRecDepth 20000 in
theorem q61_124 : dropTo 124 (mcode 61) = k61_124 := rfl
set_option maxRecDepth 20000 in
theorem q61_134 : dropTo 134 (mcode 61) = k61_134 := rfl
set_option maxRecDepth 20000 in
theorem q61_156 : dropTo 156 (mcode 61) = k61_156 := rfl
set_option maxRecDepth 20000 in
theorem q61_178 : dropTo 178 (mcode 61) = k61_178 := rfl
set_option maxRecDepth 20000 in
theorem q62_0 : dropTo 0 (mcode 62) = k62_0 := rfl
set_option maxRecDepth 20000 in
theorem q62_28 : dropTo 28 (mcode 62) = k62_28 := rfl
set_option maxRecDepth 20000 in
theorem q62_30 : dropTo 30 (mcode 62) = k62_30 := rfl
set_option maxRecDepth 20000 in
theorem q63_0 : dropTo 0 (mcode 63) = k63_0 := rfl
set_option maxRecDepth 20000 in
theorem q63_28 : dropTo 28 (mcode 63) = k63_28 := rfl
set_option maxRecDepth 20000 in
theorem q63_30 : dropTo 30 (mcode 63) = k63_30 := rfl
set_option maxRecDepth 20000 in
theorem q64_0 : dropTo 0 (mcode 64) = k64_0 := rfl
set_option maxRecDepth 20000 in
theorem q64_18 : dropTo 18 (mcode 64) = k64_18 := rfl
set_option maxRecDepth 20000 in
theorem q64_20 : dropTo 20 (mcode 64) = k64_20 := rfl
set_option maxRecDepth 20000 in
theorem q65_0 : dropTo 0 (mcode 65) = k65_0 := rfl
set_option maxRecDepth 20000 in
theorem q66_0 : dropTo 0 (mcode 66) = k66_0 := rfl
set_option maxRecDepth 20000 in
theorem q66_12 : dropTo 12 (mcode 66) = k66_12 := rfl
set_option maxRecDepth 20000 in
theorem q66_25 : dropTo 25 (mcode 66) = k66_25 := rfl
set_option maxRecDepth 20000 in
theorem q66_59 : dropTo 59 (mcode 66) = k66_59 := rfl
set_option maxRecDepth 20000 in
theorem q67_0 : dropTo 0 (mcode 67) = k67_0 := rfl
set_option maxRecDepth 20000 in
theorem q67_12 : dropTo 12 (mcode 67) = k67_12 := rfl
set_option maxRecDepth 20000 in
theorem q68_0 : dropTo 0 (mcode 68) = k68_0 := rfl
set_option maxRecDepth 20000 in
theorem q68_13 : dropTo 13 (mcode 68) = k68_13 := rfl
set_option maxRecDepth 20000 in
theorem q68_38 : dropTo 38 (mcode 68) = k68_38 := rfl
set_option maxRecDepth 20000 in
theorem q68_39 : dropTo 39 (mcode 68) = k68_39 := rfl
set_option maxRecDepth 20000 in
theorem q69_0 : dropTo 0 (mcode 69) = k69_0 := rfl
set_option maxRecDepth 20000 in
theorem q70_0 : dropTo 0 (mcode 70) = k70_0 := rfl
set_option maxRecDepth 20000 in
theorem q70_13 : dropTo 13 (mcode 70) = k70_13 := rfl
set_option maxRecDepth 20000 in
theorem q71_0 : dropTo 0 (mcode 71) = k71_0 := rfl
set_option maxRecDepth 20000 in
theorem q71_9 : dropTo 9 (mcode 71) = k71_9 := rfl
set_option maxRecDepth 20000 in
theorem q72_0 : dropTo 0 (mcode 72) = k72_0 := rfl
set_option maxRecDepth 20000 in
theorem q72_23 : dropTo 23 (mcode 72) = k72_23 := rfl
set_option maxRecDepth 20000 in
theorem q72_25 : dropTo 25 (mcode 72) = k72_25 := rfl
set_option maxRecDepth 20000 in
theorem q73_0 : dropTo 0 (mcode 73) = k73_0 := rfl
set_option maxRecDepth 20000 in
theorem q73_13 : dropTo 13 (mcode 73) = k73_13 := rfl
set_option maxRecDepth 20000 in
theorem q73_46 : dropTo 46 (mcode 73) = k73_46 := rfl
set_option maxRecDepth 20000 in
theorem q73_78 : dropTo 78 (mcode 73) = k73_78 := rfl
set_option maxRecDepth 20000 in
theorem q73_89 : dropTo 89 (mcode 73) = k73_89 := rfl
set_option maxRecDepth 20000 in
theorem q74_0 : dropTo 0 (mcode 74) = k74_0 := rfl
set_option maxRecDepth 20000 in
theorem q74_21 : dropTo 21 (mcode 74) = k74_21 := rfl
set_option maxRecDepth 20000 in
theorem q74_23 : dropTo 23 (mcode 74) = k74_23 := rfl
set_option maxRecDepth 20000 in
theorem q74_55 : dropTo 55 (mcode 74) = k74_55 := rfl
set_option maxRecDepth 20000 in
theorem q74_58 : dropTo 58 (mcode 74) = k74_58 := rfl
set_option maxRecDepth 20000 in
theorem q74_91 : dropTo 91 (mcode 74) = k74_91 := rfl
set_option maxRecDepth 20000 in
theorem q74_97 : dropTo 97 (mcode 74) = k74_97 := rfl
set_option maxRecDepth 20000 in
theorem q74_100 : dropTo 100 (mcode 74) = k74_100 := rfl
set_option maxRecDepth 20000 in
theorem q75_0 : dropTo 0 (mcode 75) = k75_0 := rfl
set_option maxRecDepth 20000 in
theorem q75_8 : dropTo 8 (mcode 75) = k75_8 := rfl
set_option maxRecDepth 20000 in
theorem q75_24 : dropTo 24 (mcode 75) = k75_24 := rfl
set_option maxRecDepth 20000 in
theorem q75_68 : dropTo 68 (mcode 75) = k75_68 := rfl
set_option maxRecDepth 20000 in
theorem q75_102 : dropTo 102 (mcode 75) = k75_102 := rfl
set_option maxRecDepth 20000 in
theorem q75_108 : dropTo 108 (mcode 75) = k75_108 := rfl
set_option maxRecDepth 20000 in
theorem q75_114 : dropTo 114 (mcode 75) = k75_114 := rfl
set_option maxRecDepth 20000 in
theorem q76_0 : dropTo 0 (mcode 76) = k76_0 := rfl
set_option maxRecDepth 20000 in
theorem q76_12 : dropTo 12 (mcode 76) = k76_12 := rfl
set_option maxRecDepth 20000 in
theorem q76_14 : dropTo 14 (mcode 76) = k76_14 := rfl
set_option maxRecDepth 20000 in
theorem q76_66 : dropTo 66 (mcode 76) = k76_66 := rfl
set_option maxRecDepth 20000 in
theorem q76_72 : dropTo 72 (mcode 76) = k76_72 := rfl
set_option maxRecDepth 20000 in
theorem q77_0 : dropTo 0 (mcode 77) = k77_0 := rfl
set_option maxRecDepth 20000 in
theorem q77_12 : dropTo 12 (mcode 77) = k77_12 := rfl
set_option maxRecDepth 20000 in
theorem q77_26 : dropTo 26 (mcode 77) = k77_26 := rfl
set_option maxRecDepth 20000 in
theorem q77_41 : dropTo 41 (mcode 77) = k77_41 := rfl
set_option maxRecDepth 20000 in
theorem q77_48 : dropTo 48 (mcode 77) = k77_48 := rfl
set_option maxRecDepth 20000 in
theorem q77_117 : dropTo 117 (mcode 77) = k77_117 := rfl
set_option maxRecDepth 20000 in
theorem q77_129 : dropTo 129 (mcode 77) = k77_129 := rfl
set_option maxRecDepth 20000 in
theorem q77_135 : dropTo 135 (mcode 77) = k77_135 := rfl
set_option maxRecDepth 20000 in
theorem q78_0 : dropTo 0 (mcode 78) = k78_0 := rfl
set_option maxRecDepth 20000 in
theorem q78_15 : dropTo 15 (mcode 78) = k78_15 := rfl
set_option maxRecDepth 20000 in
theorem q78_16 : dropTo 16 (mcode 78) = k78_16 := rfl
set_option maxRecDepth 20000 in
theorem q79_0 : dropTo 0 (mcode 79) = k79_0 := rfl
set_option maxRecDepth 20000 in
theorem q79_10 : dropTo 10 (mcode 79) = k79_10 := rfl
set_option maxRecDepth 20000 in
theorem q79_34 : dropTo 34 (mcode 79) = k79_34 := rfl
set_option maxRecDepth 20000 in
theorem q79_40 : dropTo 40 (mcode 79) = k79_40 := rfl
set_option maxRecDepth 20000 in
theorem q80_0 : dropTo 0 (mcode 80) = k80_0 := rfl
set_option maxRecDepth 20000 in
theorem q81_0 : dropTo 0 (mcode 81) = k81_0 := rfl
set_option maxRecDepth 20000 in
theorem q81_13 : dropTo 13 (mcode 81) = k81_13 := rfl
set_option maxRecDepth 20000 in
theorem q82_0 : dropTo 0 (mcode 82) = k82_0 := rfl
set_option maxRecDepth 20000 in
theorem q82_12 : dropTo 12 (mcode 82) = k82_12 := rfl
set_option maxRecDepth 20000 in
theorem q82_54 : dropTo 54 (mcode 82) = k82_54 := rfl
set_option maxRecDepth 20000 in
theorem q82_78 : dropTo 78 (mcode 82) = k82_78 := rfl
set_option maxRecDepth 20000 in
theorem q83_0 : dropTo 0 (mcode 83) = k83_0 := rfl
set_option maxRecDepth 20000 in
theorem q83_20 : dropTo 20 (mcode 83) = k83_20 := rfl
set_option maxRecDepth 20000 in
theorem q83_22 : dropTo 22 (mcode 83) = k83_22 := rfl
set_option maxRecDepth 20000 in
theorem q84_0 : dropTo 0 (mcode 84) = k84_0 := rfl
set_option maxRecDepth 20000 in
theorem q84_12 : dropTo 12 (mcode 84) = k84_12 := rfl
set_option maxRecDepth 20000 in
theorem q85_0 : dropTo 0 (mcode 85) = k85_0 := rfl
set_option maxRecDepth 20000 in
theorem q85_24 : dropTo 24 (mcode 85) = k85_24 := rfl
set_option maxRecDepth 20000 in
theorem q85_48 : dropTo 48 (mcode 85) = k85_48 := rfl
set_option maxRecDepth 20000 in
theorem q85_73 : dropTo 73 (mcode 85) = k85_73 := rfl
set_option maxRecDepth 20000 in
theorem q85_79 : dropTo 79 (mcode 85) = k85_79 := rfl
set_option maxRecDepth 20000 in
theorem q86_0 : dropTo 0 (mcode 86) = k86_0 := rfl
set_option maxRecDepth 20000 in
theorem q86_43 : dropTo 43 (mcode 86) = k86_43 := rfl
set_option maxRecDepth 20000 in
theorem q86_45 : dropTo 45 (mcode 86) = k86_45 := rfl
set_option maxRecDepth 20000 in
theorem q86_65 : dropTo 65 (mcode 86) = k86_65 := rfl
set_option maxRecDepth 20000 in
theorem q86_77 : dropTo 77 (mcode 86) = k86_77 := rfl
set_option maxRecDepth 20000 in
theorem q86_96 : dropTo 96 (mcode 86) = k86_96 := rfl
set_option maxRecDepth 20000 in
theorem q86_99 : dropTo 99 (mcode 86) = k86_99 := rfl
set_option maxRecDepth 20000 in
theorem q86_143 : dropTo 143 (mcode 86) = k86_143 := rfl
set_option maxRecDepth 20000 in
theorem q87_0 : dropTo 0 (mcode 87) = k87_0 := rfl
set_option maxRecDepth 20000 in
theorem q87_16 : dropTo 16 (mcode 87) = k87_16 := rfl
set_option maxRecDepth 20000 in
theorem q87_18 : dropTo 18 (mcode 87) = k87_18 := rfl
set_option maxRecDepth 20000 in
theorem q87_36 : dropTo 36 (mcode 87) = k87_36 := rfl
set_option maxRecDepth 20000 in
theorem q87_44 : dropTo 44 (mcode 87) = k87_44 := rfl
set_option maxRecDepth 20000 in
theorem q87_51 : dropTo 51 (mcode 87) = k87_51 := rfl
set_option maxRecDepth 20000 in
theorem q88_0 : dropTo 0 (mcode 88) = k88_0 := rfl
set_option maxRecDepth 20000 in
theorem q88_9 : dropTo 9 (mcode 88) = k88_9 := rfl
set_option maxRecDepth 20000 in
theorem q88_29 : dropTo 29 (mcode 88) = k88_29 := rfl
set_option maxRecDepth 20000 in
theorem q88_47 : dropTo 47 (mcode 88) = k88_47 := rfl
set_option maxRecDepth 20000 in
theorem q89_0 : dropTo 0 (mcode 89) = k89_0 := rfl
set_option maxRecDepth 20000 in
theorem q89_14 : dropTo 14 (mcode 89) = k89_14 := rfl
set_option maxRecDepth 20000 in
theorem q89_16 : dropTo 16 (mcode 89) = k89_16 := rfl
set_option maxRecDepth 20000 in
theorem q89_36 : dropTo 36 (mcode 89) = k89_36 := rfl
set_option maxRecDepth 20000 in
theorem q89_48 : dropTo 48 (mcode 89) = k89_48 := rfl
set_option maxRecDepth 20000 in
theorem q89_66 : dropTo 66 (mcode 89) = k89_66 := rfl
set_option maxRecDepth 20000 in
theorem q90_0 : dropTo 0 (mcode 90) = k90_0 := rfl
set_option maxRecDepth 20000 in
theorem q90_9 : dropTo 9 (mcode 90) = k90_9 := rfl
set_option maxRecDepth 20000 in
theorem q90_36 : dropTo 36 (mcode 90) = k90_36 := rfl
set_option maxRecDepth 20000 in
theorem q90_49 : dropTo 49 (mcode 90) = k90_49 := rfl
set_option maxRecDepth 20000 in
theorem q90_61 : dropTo 61 (mcode 90) = k90_61 := rfl
set_option maxRecDepth 20000 in
theorem q90_70 : dropTo 70 (mcode 90) = k90_70 := rfl
set_option maxRecDepth 20000 in
theorem q90_87 : dropTo 87 (mcode 90) = k90_87 := rfl
set_option maxRecDepth 20000 in
theorem q90_98 : dropTo 98 (mcode 90) = k90_98 := rfl
set_option maxRecDepth 20000 in
theorem q91_0 : dropTo 0 (mcode 91) = k91_0 := rfl
set_option maxRecDepth 20000 in
theorem q91_26 : dropTo 26 (mcode 91) = k91_26 := rfl
set_option maxRecDepth 20000 in
theorem q91_28 : dropTo 28 (mcode 91) = k91_28 := rfl
set_option maxRecDepth 20000 in
theorem q91_69 : dropTo 69 (mcode 91) = k91_69 := rfl
set_option maxRecDepth 20000 in
theorem q91_71 : dropTo 71 (mcode 91) = k91_71 := rfl
set_option maxRecDepth 20000 in
theorem q91_72 : dropTo 72 (mcode 91) = k91_72 := rfl
set_option maxRecDepth 20000 in
theorem q91_89 : dropTo 89 (mcode 91) = k91_89 := rfl
set_option maxRecDepth 20000 in
theorem q91_115 : dropTo 115 (mcode 91) = k91_115 := rfl
set_option maxRecDepth 20000 in
theorem q91_117 : dropTo 117 (mcode 91) = k91_117 := rfl
set_option maxRecDepth 20000 in
theorem q92_0 : dropTo 0 (mcode 92) = k92_0 := rfl
set_option maxRecDepth 20000 in
theorem q92_23 : dropTo 23 (mcode 92) = k92_23 := rfl
set_option maxRecDepth 20000 in
theorem q93_0 : dropTo 0 (mcode 93) = k93_0 := rfl
set_option maxRecDepth 20000 in
theorem q93_29 : dropTo 29 (mcode 93) = k93_29 := rfl
set_option maxRecDepth 20000 in
theorem q93_31 : dropTo 31 (mcode 93) = k93_31 := rfl
set_option maxRecDepth 20000 in
theorem q94_0 : dropTo 0 (mcode 94) = k94_0 := rfl
set_option maxRecDepth 20000 in
theorem q94_40 : dropTo 40 (mcode 94) = k94_40 := rfl
set_option maxRecDepth 20000 in
theorem q94_48 : dropTo 48 (mcode 94) = k94_48 := rfl
set_option maxRecDepth 20000 in
theorem q94_56 : dropTo 56 (mcode 94) = k94_56 := rfl
set_option maxRecDepth 20000 in
theorem q94_67 : dropTo 67 (mcode 94) = k94_67 := rfl
set_option maxRecDepth 20000 in
theorem q94_72 : dropTo 72 (mcode 94) = k94_72 := rfl
set_option maxRecDepth 20000 in
theorem q94_80 : dropTo 80 (mcode 94) = k94_80 := rfl
set_option maxRecDepth 20000 in
theorem q94_88 : dropTo 88 (mcode 94) = k94_88 := rfl
set_option maxRecDepth 20000 in
theorem q95_0 : dropTo 0 (mcode 95) = k95_0 := rfl
set_option maxRecDepth 20000 in
theorem q96_0 : dropTo 0 (mcode 96) = k96_0 := rfl
set_option maxRecDepth 20000 in
theorem q96_10 : dropTo 10 (mcode 96) = k96_10 := rfl
set_option maxRecDepth 20000 in
theorem q97_0 : dropTo 0 (mcode 97) = k97_0 := rfl
set_option maxRecDepth 20000 in
theorem q97_14 : dropTo 14 (mcode 97) = k97_14 := rfl
set_option maxRecDepth 20000 in
theorem q97_15 : dropTo 15 (mcode 97) = k97_15 := rfl
set_option maxRecDepth 20000 in
theorem q98_0 : dropTo 0 (mcode 98) = k98_0 := rfl
set_option maxRecDepth 20000 in
theorem q99_0 : dropTo 0 (mcode 99) = k99_0 := rfl
set_option maxRecDepth 20000 in
theorem q100_0 : dropTo 0 (mcode 100) = k100_0 := rfl
set_option maxRecDepth 20000 in
theorem q101_0 : dropTo 0 (mcode 101) = k101_0 := rfl
set_option maxRecDepth 20000 in
theorem q102_0 : dropTo 0 (mcode 102) = k102_0 := rfl
set_option maxRecDepth 20000 in
theorem q103_0 : dropTo 0 (mcode 103) = k103_0 := rfl
set_option maxRecDepth 20000 in
theorem q104_0 : dropTo 0 (mcode 104) = k104_0 := rfl
set_option maxRecDepth 20000 in
theorem q104_27 : dropTo 27 (mcode 104) = k104_27 := rfl
set_option maxRecDepth 20000 in
theorem q104_28 : dropTo 28 (mcode 104) = k104_28 := rfl
set_option maxRecDepth 20000 in
theorem q105_0 : dropTo 0 (mcode 105) = k105_0 := rfl
set_option maxRecDepth 20000 in
theorem q106_0 : dropTo 0 (mcode 106) = k106_0 := rfl
set_option maxRecDepth 20000 in
theorem q106_61 : dropTo 61 (mcode 106) = k106_61 := rfl
set_option maxRecDepth 20000 in
theorem q106_62 : dropTo 62 (mcode 106) = k106_62 := rfl
set_option maxRecDepth 20000 in
theorem q107_0 : dropTo 0 (mcode 107) = k107_0 := rfl
set_option maxRecDepth 20000 in
theorem q108_0 : dropTo 0 (mcode 108) = k108_0 := rfl
set_option maxRecDepth 20000 in
theorem q108_13 : dropTo 13 (mcode 108) = k108_13 := rfl
set_option maxRecDepth 20000 in
theorem q108_48 : dropTo 48 (mcode 108) = k108_48 := rfl
set_option maxRecDepth 20000 in
theorem q108_65 : dropTo 65 (mcode 108) = k108_65 := rfl
set_option maxRecDepth 20000 in
theorem q108_94 : dropTo 94 (mcode 108) = k108_94 := rfl
set_option maxRecDepth 20000 in
theorem q108_95 : dropTo 95 (mcode 108) = k108_95 := rfl
set_option maxRecDepth 20000 in
theorem q108_109 : dropTo 109 (mcode 108) = k108_109 := rfl
set_option maxRecDepth 20000 in
theorem q108_128 : dropTo 128 (mcode 108) = k108_128 := rfl
set_option maxRecDepth 20000 in
theorem q108_136 : dropTo 136 (mcode 108) = k108_136 := rfl
set_option maxRecDepth 20000 in
theorem q109_0 : dropTo 0 (mcode 109) = k109_0 := rfl
set_option maxRecDepth 20000 in
theorem q110_0 : dropTo 0 (mcode 110) = k110_0 := rfl
set_option maxRecDepth 20000 in
theorem q110_2 : dropTo 2 (mcode 110) = k110_2 := rfl
set_option maxRecDepth 20000 in
theorem q110_21 : dropTo 21 (mcode 110) = k110_21 := rfl
set_option maxRecDepth 20000 in
theorem q110_27 : dropTo 27 (mcode 110) = k110_27 := rfl
set_option maxRecDepth 20000 in
theorem q111_0 : dropTo 0 (mcode 111) = k111_0 := rfl
set_option maxRecDepth 20000 in
theorem q111_19 : dropTo 19 (mcode 111) = k111_19 := rfl
set_option maxRecDepth 20000 in
theorem q111_22 : dropTo 22 (mcode 111) = k111_22 := rfl
set_option maxRecDepth 20000 in
theorem q111_47 : dropTo 47 (mcode 111) = k111_47 := rfl
set_option maxRecDepth 20000 in
theorem q111_49 : dropTo 49 (mcode 111) = k111_49 := rfl
set_option maxRecDepth 20000 in
theorem q112_0 : dropTo 0 (mcode 112) = k112_0 := rfl
set_option maxRecDepth 20000 in
theorem q112_14 : dropTo 14 (mcode 112) = k112_14 := rfl
set_option maxRecDepth 20000 in
theorem q112_15 : dropTo 15 (mcode 112) = k112_15 := rfl
set_option maxRecDepth 20000 in
theorem q113_0 : dropTo 0 (mcode 113) = k113_0 := rfl
set_option maxRecDepth 20000 in
theorem q114_0 : dropTo 0 (mcode 114) = k114_0 := rfl
set_option maxRecDepth 20000 in
theorem q115_0 : dropTo 0 (mcode 115) = k115_0 := rfl
set_option maxRecDepth 20000 in
theorem q116_0 : dropTo 0 (mcode 116) = k116_0 := rfl
set_option maxRecDepth 20000 in
theorem q117_0 : dropTo 0 (mcode 117) = k117_0 := rfl
set_option maxRecDepth 20000 in
theorem q118_0 : dropTo 0 (mcode 118) = k118_0 := rfl
set_option maxRecDepth 20000 in
theorem q118_23 : dropTo 23 (mcode 118) = k118_23 := rfl
set_option maxRecDepth 20000 in
theorem q118_24 : dropTo 24 (mcode 118) = k118_24 := rfl
set_option maxRecDepth 20000 in
theorem q119_0 : dropTo 0 (mcode 119) = k119_0 := rfl
set_option maxRecDepth 20000 in
theorem q120_0 : dropTo 0 (mcode 120) = k120_0 := rfl
set_option maxRecDepth 20000 in
theorem q121_0 : dropTo 0 (mcode 121) = k121_0 := rfl
set_option maxRecDepth 20000 in
theorem q121_12 : dropTo 12 (mcode 121) = k121_12 := rfl
set_option maxRecDepth 20000 in
theorem q121_27 : dropTo 27 (mcode 121) = k121_27 := rfl
set_option maxRecDepth 20000 in
theorem q121_30 : dropTo 30 (mcode 121) = k121_30 := rfl
set_option maxRecDepth 20000 in
theorem q121_73 : dropTo 73 (mcode 121) = k121_73 := rfl
set_option maxRecDepth 20000 in
theorem q122_0 : dropTo 0 (mcode 122) = k122_0 := rfl
set_option maxRecDepth 20000 in
theorem q122_17 : dropTo 17 (mcode 122) = k122_17 := rfl
set_option maxRecDepth 20000 in
theorem q122_18 : dropTo 18 (mcode 122) = k122_18 := rfl
set_option maxRecDepth 20000 in
theorem q123_0 : dropTo 0 (mcode 123) = k123_0 := rfl
set_option maxRecDepth 20000 in
theorem q124_0 : dropTo 0 (mcode 124) = k124_0 := rfl
set_option maxRecDepth 20000 in
theorem q125_0 : dropTo 0 (mcode 125) = k125_0 := rfl
set_option maxRecDepth 20000 in
theorem q125_8 : dropTo 8 (mcode 125) = k125_8 := rfl
set_option maxRecDepth 20000 in
theorem q125_34 : dropTo 34 (mcode 125) = k125_34 := rfl
set_option maxRecDepth 20000 in
theorem q125_60 : dropTo 60 (mcode 125) = k125_60 := rfl
set_option maxRecDepth 20000 in
theorem q125_71 : dropTo 71 (mcode 125) = k125_71 := rfl
set_option maxRecDepth 20000 in
theorem q125_82 : dropTo 82 (mcode 125) = k125_82 := rfl
set_option maxRecDepth 20000 in
theorem q125_83 : dropTo 83 (mcode 125) = k125_83 := rfl
set_option maxRecDepth 20000 in
theorem q125_104 : dropTo 104 (mcode 125) = k125_104 := rfl
set_option maxRecDepth 20000 in
theorem q125_105 : dropTo 105 (mcode 125) = k125_105 := rfl
set_option maxRecDepth 20000 in
theorem q125_126 : dropTo 126 (mcode 125) = k125_126 := rfl
set_option maxRecDepth 20000 in
theorem q125_188 : dropTo 188 (mcode 125) = k125_188 := rfl
set_option maxRecDepth 20000 in
theorem q125_191 : dropTo 191 (mcode 125) = k125_191 := rfl
set_option maxRecDepth 20000 in
theorem q125_207 : dropTo 207 (mcode 125) = k125_207 := rfl
set_option maxRecDepth 20000 in
theorem q125_265 : dropTo 265 (mcode 125) = k125_265 := rfl
set_option maxRecDepth 20000 in
theorem q125_266 : dropTo 266 (mcode 125) = k125_266 := rfl
set_option maxRecDepth 20000 in
theorem q125_282 : dropTo 282 (mcode 125) = k125_282 := rfl
set_option maxRecDepth 20000 in
theorem q126_0 : dropTo 0 (mcode 126) = k126_0 := rfl
set_option maxRecDepth 20000 in
theorem q126_21 : dropTo 21 (mcode 126) = k126_21 := rfl
set_option maxRecDepth 20000 in
theorem q126_22 : dropTo 22 (mcode 126) = k126_22 := rfl
set_option maxRecDepth 20000 in
theorem q127_0 : dropTo 0 (mcode 127) = k127_0 := rfl
set_option maxRecDepth 20000 in
theorem q127_20 : dropTo 20 (mcode 127) = k127_20 := rfl
set_option maxRecDepth 20000 in
theorem q127_21 : dropTo 21 (mcode 127) = k127_21 := rfl
set_option maxRecDepth 20000 in
theorem q128_0 : dropTo 0 (mcode 128) = k128_0 := rfl
set_option maxRecDepth 20000 in
theorem q128_14 : dropTo 14 (mcode 128) = k128_14 := rfl
set_option maxRecDepth 20000 in
theorem q128_28 : dropTo 28 (mcode 128) = k128_28 := rfl
set_option maxRecDepth 20000 in
theorem q128_42 : dropTo 42 (mcode 128) = k128_42 := rfl
set_option maxRecDepth 20000 in
theorem q128_56 : dropTo 56 (mcode 128) = k128_56 := rfl
set_option maxRecDepth 20000 in
theorem q128_70 : dropTo 70 (mcode 128) = k128_70 := rfl
set_option maxRecDepth 20000 in
theorem q128_84 : dropTo 84 (mcode 128) = k128_84 := rfl
set_option maxRecDepth 20000 in
theorem q128_85 : dropTo 85 (mcode 128) = k128_85 := rfl
set_option maxRecDepth 20000 in
theorem q129_0 : dropTo 0 (mcode 129) = k129_0 := rfl
set_option maxRecDepth 20000 in
theorem q129_34 : dropTo 34 (mcode 129) = k129_34 := rfl
set_option maxRecDepth 20000 in
theorem q129_35 : dropTo 35 (mcode 129) = k129_35 := rfl
set_option maxRecDepth 20000 in
theorem q129_49 : dropTo 49 (mcode 129) = k129_49 := rfl
set_option maxRecDepth 20000 in
theorem q130_0 : dropTo 0 (mcode 130) = k130_0 := rfl
set_option maxRecDepth 20000 in
theorem q130_20 : dropTo 20 (mcode 130) = k130_20 := rfl
set_option maxRecDepth 20000 in
theorem q130_21 : dropTo 21 (mcode 130) = k130_21 := rfl
set_option maxRecDepth 20000 in
theorem q130_35 : dropTo 35 (mcode 130) = k130_35 := rfl
set_option maxRecDepth 20000 in
theorem q131_0 : dropTo 0 (mcode 131) = k131_0 := rfl
set_option maxRecDepth 20000 in
theorem q131_21 : dropTo 21 (mcode 131) = k131_21 := rfl
set_option maxRecDepth 20000 in
theorem q131_22 : dropTo 22 (mcode 131) = k131_22 := rfl
set_option maxRecDepth 20000 in
theorem q131_36 : dropTo 36 (mcode 131) = k131_36 := rfl
set_option maxRecDepth 20000 in
theorem q132_0 : dropTo 0 (mcode 132) = k132_0 := rfl
set_option maxRecDepth 20000 in
theorem q132_14 : dropTo 14 (mcode 132) = k132_14 := rfl
set_option maxRecDepth 20000 in
theorem q132_15 : dropTo 15 (mcode 132) = k132_15 := rfl
set_option maxRecDepth 20000 in
theorem q132_29 : dropTo 29 (mcode 132) = k132_29 := rfl
set_option maxRecDepth 20000 in
theorem q132_101 : dropTo 101 (mcode 132) = k132_101 := rfl
set_option maxRecDepth 20000 in
theorem q132_174 : dropTo 174 (mcode 132) = k132_174 := rfl
set_option maxRecDepth 20000 in
theorem q133_0 : dropTo 0 (mcode 133) = k133_0 := rfl
set_option maxRecDepth 20000 in
theorem q133_13 : dropTo 13 (mcode 133) = k133_13 := rfl
set_option maxRecDepth 20000 in
theorem q133_14 : dropTo 14 (mcode 133) = k133_14 := rfl
set_option maxRecDepth 20000 in
theorem q133_28 : dropTo 28 (mcode 133) = k133_28 := rfl
set_option maxRecDepth 20000 in
theorem q133_117 : dropTo 117 (mcode 133) = k133_117 := rfl
set_option maxRecDepth 20000 in
theorem q134_0 : dropTo 0 (mcode 134) = k134_0 := rfl
set_option maxRecDepth 20000 in
theorem q134_18 : dropTo 18 (mcode 134) = k134_18 := rfl
set_option maxRecDepth 20000 in
theorem q134_35 : dropTo 35 (mcode 134) = k134_35 := rfl
set_option maxRecDepth 20000 in
theorem q134_67 : dropTo 67 (mcode 134) = k134_67 := rfl
set_option maxRecDepth 20000 in
theorem q134_72 : dropTo 72 (mcode 134) = k134_72 := rfl
set_option maxRecDepth 20000 in
theorem q135_0 : dropTo 0 (mcode 135) = k135_0 := rfl
set_option maxRecDepth 20000 in
theorem q135_29 : dropTo 29 (mcode 135) = k135_29 := rfl
set_option maxRecDepth 20000 in
theorem q135_50 : dropTo 50 (mcode 135) = k135_50 := rfl
set_option maxRecDepth 20000 in
theorem q135_70 : dropTo 70 (mcode 135) = k135_70 := rfl
set_option maxRecDepth 20000 in
theorem q136_0 : dropTo 0 (mcode 136) = k136_0 := rfl
set_option maxRecDepth 20000 in
theorem q136_18 : dropTo 18 (mcode 136) = k136_18 := rfl
set_option maxRecDepth 20000 in
theorem q136_65 : dropTo 65 (mcode 136) = k136_65 := rfl
set_option maxRecDepth 20000 in
theorem q136_82 : dropTo 82 (mcode 136) = k136_82 := rfl
set_option maxRecDepth 20000 in
theorem q136_182 : dropTo 182 (mcode 136) = k136_182 := rfl
set_option maxRecDepth 20000 in
theorem q137_0 : dropTo 0 (mcode 137) = k137_0 := rfl
set_option maxRecDepth 20000 in
theorem q137_12 : dropTo 12 (mcode 137) = k137_12 := rfl
set_option maxRecDepth 20000 in
theorem q138_0 : dropTo 0 (mcode 138) = k138_0 := rfl
set_option maxRecDepth 20000 in
theorem q139_0 : dropTo 0 (mcode 139) = k139_0 := rfl
set_option maxRecDepth 20000 in
theorem q139_24 : dropTo 24 (mcode 139) = k139_24 := rfl
set_option maxRecDepth 20000 in
theorem q139_26 : dropTo 26 (mcode 139) = k139_26 := rfl
set_option maxRecDepth 20000 in
theorem q139_37 : dropTo 37 (mcode 139) = k139_37 := rfl
set_option maxRecDepth 20000 in
theorem q140_0 : dropTo 0 (mcode 140) = k140_0 := rfl
set_option maxRecDepth 20000 in
theorem q140_16 : dropTo 16 (mcode 140) = k140_16 := rfl
set_option maxRecDepth 20000 in
theorem q140_28 : dropTo 28 (mcode 140) = k140_28 := rfl
set_option maxRecDepth 20000 in
theorem q140_84 : dropTo 84 (mcode 140) = k140_84 := rfl
set_option maxRecDepth 20000 in
theorem q141_0 : dropTo 0 (mcode 141) = k141_0 := rfl
set_option maxRecDepth 20000 in
theorem q141_5 : dropTo 5 (mcode 141) = k141_5 := rfl
set_option maxRecDepth 20000 in
theorem q141_60 : dropTo 60 (mcode 141) = k141_60 := rfl
set_option maxRecDepth 20000 in
theorem q141_64 : dropTo 64 (mcode 141) = k141_64 := rfl
set_option maxRecDepth 20000 in
theorem q141_65 : dropTo 65 (mcode 141) = k141_65 := rfl
set_option maxRecDepth 20000 in
theorem q141_72 : dropTo 72 (mcode 141) = k141_72 := rfl
set_option maxRecDepth 20000 in
theorem q142_0 : dropTo 0 (mcode 142) = k142_0 := rfl
set_option maxRecDepth 20000 in
theorem q142_14 : dropTo 14 (mcode 142) = k142_14 := rfl
set_option maxRecDepth 20000 in
theorem q142_16 : dropTo 16 (mcode 142) = k142_16 := rfl
set_option maxRecDepth 20000 in
theorem q142_29 : dropTo 29 (mcode 142) = k142_29 := rfl
set_option maxRecDepth 20000 in
theorem q142_30 : dropTo 30 (mcode 142) = k142_30 := rfl
set_option maxRecDepth 20000 in
theorem q143_0 : dropTo 0 (mcode 143) = k143_0 := rfl
set_option maxRecDepth 20000 in
theorem q143_23 : dropTo 23 (mcode 143) = k143_23 := rfl
set_option maxRecDepth 20000 in
theorem q143_25 : dropTo 25 (mcode 143) = k143_25 := rfl
set_option maxRecDepth 20000 in
theorem q143_37 : dropTo 37 (mcode 143) = k143_37 := rfl
set_option maxRecDepth 20000 in
theorem q143_110 : dropTo 110 (mcode 143) = k143_110 := rfl
set_option maxRecDepth 20000 in
theorem q143_116 : dropTo 116 (mcode 143) = k143_116 := rfl
set_option maxRecDepth 20000 in
theorem q144_0 : dropTo 0 (mcode 144) = k144_0 := rfl
set_option maxRecDepth 20000 in
theorem q144_14 : dropTo 14 (mcode 144) = k144_14 := rfl
set_option maxRecDepth 20000 in
theorem q144_38 : dropTo 38 (mcode 144) = k144_38 := rfl
set_option maxRecDepth 20000 in
theorem q144_39 : dropTo 39 (mcode 144) = k144_39 := rfl
set_option maxRecDepth 20000 in
theorem q145_0 : dropTo 0 (mcode 145) = k145_0 := rfl
set_option maxRecDepth 20000 in
theorem q145_40 : dropTo 40 (mcode 145) = k145_40 := rfl
set_option maxRecDepth 20000 in
theorem q145_43 : dropTo 43 (mcode 145) = k145_43 := rfl
set_option maxRecDepth 20000 in
theorem q145_46 : dropTo 46 (mcode 145) = k145_46 := rfl
set_option maxRecDepth 20000 in
theorem q145_48 : dropTo 48 (mcode 145) = k145_48 := rfl
set_option maxRecDepth 20000 in
theorem q145_50 : dropTo 50 (mcode 145) = k145_50 := rfl
set_option maxRecDepth 20000 in
theorem q145_59 : dropTo 59 (mcode 145) = k145_59 := rfl
set_option maxRecDepth 20000 in
theorem q146_0 : dropTo 0 (mcode 146) = k146_0 := rfl
set_option maxRecDepth 20000 in
theorem q146_9 : dropTo 9 (mcode 146) = k146_9 := rfl
set_option maxRecDepth 20000 in
theorem q146_10 : dropTo 10 (mcode 146) = k146_10 := rfl
set_option maxRecDepth 20000 in
theorem q147_0 : dropTo 0 (mcode 147) = k147_0 := rfl
set_option maxRecDepth 20000 in
theorem q147_18 : dropTo 18 (mcode 147) = k147_18 := rfl
set_option maxRecDepth 20000 in
theorem q147_20 : dropTo 20 (mcode 147) = k147_20 := rfl
set_option maxRecDepth 20000 in
theorem q147_68 : dropTo 68 (mcode 147) = k147_68 := rfl
set_option maxRecDepth 20000 in
theorem q147_75 : dropTo 75 (mcode 147) = k147_75 := rfl
set_option maxRecDepth 20000 in
theorem q147_82 : dropTo 82 (mcode 147) = k147_82 := rfl
set_option maxRecDepth 20000 in
theorem q147_91 : dropTo 91 (mcode 147) = k147_91 := rfl
set_option maxRecDepth 20000 in
theorem q147_101 : dropTo 101 (mcode 147) = k147_101 := rfl
set_option maxRecDepth 20000 in
theorem q147_111 : dropTo 111 (mcode 147) = k147_111 := rfl
set_option maxRecDepth 20000 in
theorem q147_121 : dropTo 121 (mcode 147) = k147_121 := rfl
set_option maxRecDepth 20000 in
theorem q147_134 : dropTo 134 (mcode 147) = k147_134 := rfl
set_option maxRecDepth 20000 in
theorem q147_140 : dropTo 140 (mcode 147) = k147_140 := rfl
set_option maxRecDepth 20000 in
theorem q148_0 : dropTo 0 (mcode 148) = k148_0 := rfl
set_option maxRecDepth 20000 in
theorem q148_16 : dropTo 16 (mcode 148) = k148_16 := rfl
set_option maxRecDepth 20000 in
theorem q148_18 : dropTo 18 (mcode 148) = k148_18 := rfl
set_option maxRecDepth 20000 in
theorem q149_0 : dropTo 0 (mcode 149) = k149_0 := rfl
set_option maxRecDepth 20000 in
theorem q150_0 : dropTo 0 (mcode 150) = k150_0 := rfl
set_option maxRecDepth 20000 in
theorem q150_22 : dropTo 22 (mcode 150) = k150_22 := rfl
set_option maxRecDepth 20000 in
theorem q150_24 : dropTo 24 (mcode 150) = k150_24 := rfl
set_option maxRecDepth 20000 in
theorem q151_0 : dropTo 0 (mcode 151) = k151_0 := rfl
set_option maxRecDepth 20000 in
theorem q151_15 : dropTo 15 (mcode 151) = k151_15 := rfl
set_option maxRecDepth 20000 in
theorem q151_17 : dropTo 17 (mcode 151) = k151_17 := rfl
set_option maxRecDepth 20000 in
theorem q152_0 : dropTo 0 (mcode 152) = k152_0 := rfl
set_option maxRecDepth 20000 in
theorem q153_0 : dropTo 0 (mcode 153) = k153_0 := rfl
set_option maxRecDepth 20000 in
theorem q153_48 : dropTo 48 (mcode 153) = k153_48 := rfl
set_option maxRecDepth 20000 in
theorem q153_50 : dropTo 50 (mcode 153) = k153_50 := rfl
set_option maxRecDepth 20000 in
theorem q153_64 : dropTo 64 (mcode 153) = k153_64 := rfl
set_option maxRecDepth 20000 in
theorem q153_65 : dropTo 65 (mcode 153) = k153_65 := rfl
set_option maxRecDepth 20000 in
theorem q153_66 : dropTo 66 (mcode 153) = k153_66 := rfl
set_option maxRecDepth 20000 in
theorem q153_83 : dropTo 83 (mcode 153) = k153_83 := rfl
set_option maxRecDepth 20000 in
theorem q153_84 : dropTo 84 (mcode 153) = k153_84 := rfl
set_option maxRecDepth 20000 in
theorem q153_85 : dropTo 85 (mcode 153) = k153_85 := rfl
set_option maxRecDepth 20000 in
theorem q154_0 : dropTo 0 (mcode 154) = k154_0 := rfl
set_option maxRecDepth 20000 in
theorem q154_22 : dropTo 22 (mcode 154) = k154_22 := rfl
set_option maxRecDepth 20000 in
theorem q154_23 : dropTo 23 (mcode 154) = k154_23 := rfl
set_option maxRecDepth 20000 in
theorem q154_38 : dropTo 38 (mcode 154) = k154_38 := rfl
set_option maxRecDepth 20000 in
theorem q154_47 : dropTo 47 (mcode 154) = k154_47 := rfl
set_option maxRecDepth 20000 in
theorem q154_58 : dropTo 58 (mcode 154) = k154_58 := rfl
set_option maxRecDepth 20000 in
theorem q154_63 : dropTo 63 (mcode 154) = k154_63 := rfl
set_option maxRecDepth 20000 in
theorem q154_99 : dropTo 99 (mcode 154) = k154_99 := rfl
set_option maxRecDepth 20000 in
theorem q154_101 : dropTo 101 (mcode 154) = k154_101 := rfl
set_option maxRecDepth 20000 in
theorem q154_149 : dropTo 149 (mcode 154) = k154_149 := rfl
set_option maxRecDepth 20000 in
theorem q154_156 : dropTo 156 (mcode 154) = k154_156 := rfl
set_option maxRecDepth 20000 in
theorem q154_202 : dropTo 202 (mcode 154) = k154_202 := rfl
set_option maxRecDepth 20000 in
theorem q154_210 : dropTo 210 (mcode 154) = k154_210 := rfl
set_option maxRecDepth 20000 in
theorem q154_211 : dropTo 211 (mcode 154) = k154_211 := rfl
set_option maxRecDepth 20000 in
theorem q155_0 : dropTo 0 (mcode 155) = k155_0 := rfl
set_option maxRecDepth 20000 in
theorem q155_22 : dropTo 22 (mcode 155) = k155_22 := rfl
set_option maxRecDepth 20000 in
theorem q155_23 : dropTo 23 (mcode 155) = k155_23 := rfl
set_option maxRecDepth 20000 in
theorem q156_0 : dropTo 0 (mcode 156) = k156_0 := rfl
set_option maxRecDepth 20000 in
theorem q156_12 : dropTo 12 (mcode 156) = k156_12 := rfl
set_option maxRecDepth 20000 in
theorem q156_13 : dropTo 13 (mcode 156) = k156_13 := rfl
set_option maxRecDepth 20000 in
theorem q156_20 : dropTo 20 (mcode 156) = k156_20 := rfl
set_option maxRecDepth 20000 in
theorem q156_43 : dropTo 43 (mcode 156) = k156_43 := rfl
set_option maxRecDepth 20000 in
theorem q156_44 : dropTo 44 (mcode 156) = k156_44 := rfl
set_option maxRecDepth 20000 in
theorem q156_58 : dropTo 58 (mcode 156) = k156_58 := rfl
set_option maxRecDepth 20000 in
theorem q156_63 : dropTo 63 (mcode 156) = k156_63 := rfl
set_option maxRecDepth 20000 in
theorem q156_78 : dropTo 78 (mcode 156) = k156_78 := rfl
set_option maxRecDepth 20000 in
theorem q156_79 : dropTo 79 (mcode 156) = k156_79 := rfl
set_option maxRecDepth 20000 in
theorem q156_102 : dropTo 102 (mcode 156) = k156_102 := rfl
set_option maxRecDepth 20000 in
theorem q157_0 : dropTo 0 (mcode 157) = k157_0 := rfl
set_option maxRecDepth 20000 in
theorem q157_2 : dropTo 2 (mcode 157) = k157_2 := rfl
set_option maxRecDepth 20000 in
theorem q157_21 : dropTo 21 (mcode 157) = k157_21 := rfl
set_option maxRecDepth 20000 in
theorem q157_23 : dropTo 23 (mcode 157) = k157_23 := rfl
set_option maxRecDepth 20000 in
theorem q157_31 : dropTo 31 (mcode 157) = k157_31 := rfl
set_option maxRecDepth 20000 in
theorem q157_80 : dropTo 80 (mcode 157) = k157_80 := rfl
set_option maxRecDepth 20000 in
theorem q157_86 : dropTo 86 (mcode 157) = k157_86 := rfl
set_option maxRecDepth 20000 in
theorem q157_92 : dropTo 92 (mcode 157) = k157_92 := rfl
set_option maxRecDepth 20000 in
theorem q158_0 : dropTo 0 (mcode 158) = k158_0 := rfl
set_option maxRecDepth 20000 in
theorem q158_2 : dropTo 2 (mcode 158) = k158_2 := rfl
set_option maxRecDepth 20000 in
theorem q158_27 : dropTo 27 (mcode 158) = k158_27 := rfl
set_option maxRecDepth 20000 in
theorem q159_0 : dropTo 0 (mcode 159) = k159_0 := rfl
set_option maxRecDepth 20000 in
theorem q159_12 : dropTo 12 (mcode 159) = k159_12 := rfl
set_option maxRecDepth 20000 in
theorem q160_0 : dropTo 0 (mcode 160) = k160_0 := rfl
set_option maxRecDepth 20000 in
theorem q160_12 : dropTo 12 (mcode 160) = k160_12 := rfl
set_option maxRecDepth 20000 in
theorem q161_0 : dropTo 0 (mcode 161) = k161_0 := rfl
set_option maxRecDepth 20000 in
theorem q161_7 : dropTo 7 (mcode 161) = k161_7 := rfl
set_option maxRecDepth 20000 in
theorem q161_34 : dropTo 34 (mcode 161) = k161_34 := rfl
set_option maxRecDepth 20000 in
theorem q161_42 : dropTo 42 (mcode 161) = k161_42 := rfl
set_option maxRecDepth 20000 in
theorem q161_61 : dropTo 61 (mcode 161) = k161_61 := rfl
set_option maxRecDepth 20000 in
theorem q161_63 : dropTo 63 (mcode 161) = k161_63 := rfl
set_option maxRecDepth 20000 in
theorem q161_82 : dropTo 82 (mcode 161) = k161_82 := rfl
set_option maxRecDepth 20000 in
theorem q162_0 : dropTo 0 (mcode 162) = k162_0 := rfl
set_option maxRecDepth 20000 in
theorem q163_0 : dropTo 0 (mcode 163) = k163_0 := rfl
set_option maxRecDepth 20000 in
theorem q164_0 : dropTo 0 (mcode 164) = k164_0 := rfl
set_option maxRecDepth 20000 in
theorem q165_0 : dropTo 0 (mcode 165) = k165_0 := rfl
set_option maxRecDepth 20000 in
theorem q165_13 : dropTo 13 (mcode 165) = k165_13 := rfl
set_option maxRecDepth 20000 in
theorem q165_14 : dropTo 14 (mcode 165) = k165_14 := rfl
set_option maxRecDepth 20000 in
theorem q165_17 : dropTo 17 (mcode 165) = k165_17 := rfl
set_option maxRecDepth 20000 in
theorem q165_41 : dropTo 41 (mcode 165) = k165_41 := rfl
set_option maxRecDepth 20000 in
theorem q165_42 : dropTo 42 (mcode 165) = k165_42 := rfl
set_option maxRecDepth 20000 in
theorem q165_60 : dropTo 60 (mcode 165) = k165_60 := rfl
set_option maxRecDepth 20000 in
theorem q165_61 : dropTo 61 (mcode 165) = k165_61 := rfl
set_option maxRecDepth 20000 in
theorem q165_68 : dropTo 68 (mcode 165) = k165_68 := rfl
set_option maxRecDepth 20000 in
theorem q165_76 : dropTo 76 (mcode 165) = k165_76 := rfl
set_option maxRecDepth 20000 in
theorem q165_78 : dropTo 78 (mcode 165) = k165_78 := rfl
set_option maxRecDepth 20000 in
theorem q166_0 : dropTo 0 (mcode 166) = k166_0 := rfl
set_option maxRecDepth 20000 in
theorem q166_10 : dropTo 10 (mcode 166) = k166_10 := rfl
set_option maxRecDepth 20000 in
theorem q166_27 : dropTo 27 (mcode 166) = k166_27 := rfl
set_option maxRecDepth 20000 in
theorem q166_32 : dropTo 32 (mcode 166) = k166_32 := rfl
set_option maxRecDepth 20000 in
theorem q167_0 : dropTo 0 (mcode 167) = k167_0 := rfl
set_option maxRecDepth 20000 in
theorem q168_0 : dropTo 0 (mcode 168) = k168_0 := rfl
set_option maxRecDepth 20000 in
theorem q168_10 : dropTo 10 (mcode 168) = k168_10 := rfl
set_option maxRecDepth 20000 in
theorem q169_0 : dropTo 0 (mcode 169) = k169_0 := rfl
set_option maxRecDepth 20000 in
theorem q169_9 : dropTo 9 (mcode 169) = k169_9 := rfl
set_option maxRecDepth 20000 in
theorem q170_0 : dropTo 0 (mcode 170) = k170_0 := rfl
set_option maxRecDepth 20000 in
theorem q170_22 : dropTo 22 (mcode 170) = k170_22 := rfl
set_option maxRecDepth 20000 in
theorem q170_24 : dropTo 24 (mcode 170) = k170_24 := rfl
set_option maxRecDepth 20000 in
theorem q170_47 : dropTo 47 (mcode 170) = k170_47 := rfl
set_option maxRecDepth 20000 in
theorem q170_73 : dropTo 73 (mcode 170) = k170_73 := rfl
set_option maxRecDepth 20000 in
theorem q170_74 : dropTo 74 (mcode 170) = k170_74 := rfl
set_option maxRecDepth 20000 in
theorem q170_82 : dropTo 82 (mcode 170) = k170_82 := rfl
set_option maxRecDepth 20000 in
theorem q171_0 : dropTo 0 (mcode 171) = k171_0 := rfl
set_option maxRecDepth 20000 in
theorem q171_6 : dropTo 6 (mcode 171) = k171_6 := rfl
set_option maxRecDepth 20000 in
theorem q171_40 : dropTo 40 (mcode 171) = k171_40 := rfl
set_option maxRecDepth 20000 in
theorem q171_58 : dropTo 58 (mcode 171) = k171_58 := rfl
set_option maxRecDepth 20000 in
theorem q171_68 : dropTo 68 (mcode 171) = k171_68 := rfl
set_option maxRecDepth 20000 in
theorem q172_0 : dropTo 0 (mcode 172) = k172_0 := rfl
set_option maxRecDepth 20000 in
theorem q172_15 : dropTo 15 (mcode 172) = k172_15 := rfl
set_option maxRecDepth 20000 in
theorem q172_17 : dropTo 17 (mcode 172) = k172_17 := rfl
set_option maxRecDepth 20000 in
theorem q172_20 : dropTo 20 (mcode 172) = k172_20 := rfl
set_option maxRecDepth 20000 in
theorem q172_75 : dropTo 75 (mcode 172) = k172_75 := rfl
set_option maxRecDepth 20000 in
theorem q172_81 : dropTo 81 (mcode 172) = k172_81 := rfl
set_option maxRecDepth 20000 in
theorem q173_0 : dropTo 0 (mcode 173) = k173_0 := rfl
set_option maxRecDepth 20000 in
theorem q173_7 : dropTo 7 (mcode 173) = k173_7 := rfl
set_option maxRecDepth 20000 in
theorem q173_128 : dropTo 128 (mcode 173) = k173_128 := rfl
set_option maxRecDepth 20000 in
theorem q173_140 : dropTo 140 (mcode 173) = k173_140 := rfl
set_option maxRecDepth 20000 in
theorem q173_146 : dropTo 146 (mcode 173) = k173_146 := rfl
set_option maxRecDepth 20000 in
theorem q174_0 : dropTo 0 (mcode 174) = k174_0 := rfl
set_option maxRecDepth 20000 in
theorem q174_9 : dropTo 9 (mcode 174) = k174_9 := rfl
set_option maxRecDepth 20000 in
theorem q174_21 : dropTo 21 (mcode 174) = k174_21 := rfl
set_option maxRecDepth 20000 in
theorem q174_42 : dropTo 42 (mcode 174) = k174_42 := rfl
set_option maxRecDepth 20000 in
theorem q174_74 : dropTo 74 (mcode 174) = k174_74 := rfl
set_option maxRecDepth 20000 in
theorem q174_75 : dropTo 75 (mcode 174) = k174_75 := rfl
set_option maxRecDepth 20000 in
theorem q174_83 : dropTo 83 (mcode 174) = k174_83 := rfl
set_option maxRecDepth 20000 in
theorem q174_93 : dropTo 93 (mcode 174) = k174_93 := rfl
set_option maxRecDepth 20000 in
theorem q174_94 : dropTo 94 (mcode 174) = k174_94 := rfl
set_option maxRecDepth 20000 in
theorem q174_101 : dropTo 101 (mcode 174) = k174_101 := rfl
set_option maxRecDepth 20000 in
theorem q175_0 : dropTo 0 (mcode 175) = k175_0 := rfl
set_option maxRecDepth 20000 in
theorem q175_12 : dropTo 12 (mcode 175) = k175_12 := rfl
set_option maxRecDepth 20000 in
theorem q175_23 : dropTo 23 (mcode 175) = k175_23 := rfl
set_option maxRecDepth 20000 in
theorem q175_37 : dropTo 37 (mcode 175) = k175_37 := rfl
set_option maxRecDepth 20000 in
theorem q175_44 : dropTo 44 (mcode 175) = k175_44 := rfl
set_option maxRecDepth 20000 in
theorem q175_81 : dropTo 81 (mcode 175) = k175_81 := rfl
set_option maxRecDepth 20000 in
theorem q175_85 : dropTo 85 (mcode 175) = k175_85 := rfl
set_option maxRecDepth 20000 in
theorem q175_108 : dropTo 108 (mcode 175) = k175_108 := rfl
set_option maxRecDepth 20000 in
theorem q175_109 : dropTo 109 (mcode 175) = k175_109 := rfl
set_option maxRecDepth 20000 in
theorem q175_121 : dropTo 121 (mcode 175) = k175_121 := rfl
set_option maxRecDepth 20000 in
theorem q175_122 : dropTo 122 (mcode 175) = k175_122 := rfl
set_option maxRecDepth 20000 in
theorem q175_129 : dropTo 129 (mcode 175) = k175_129 := rfl
set_option maxRecDepth 20000 in
theorem q176_0 : dropTo 0 (mcode 176) = k176_0 := rfl
set_option maxRecDepth 20000 in
theorem q176_6 : dropTo 6 (mcode 176) = k176_6 := rfl
set_option maxRecDepth 20000 in
theorem q176_26 : dropTo 26 (mcode 176) = k176_26 := rfl
set_option maxRecDepth 20000 in
theorem q176_34 : dropTo 34 (mcode 176) = k176_34 := rfl
set_option maxRecDepth 20000 in
theorem q176_57 : dropTo 57 (mcode 176) = k176_57 := rfl
set_option maxRecDepth 20000 in
theorem q176_72 : dropTo 72 (mcode 176) = k176_72 := rfl
set_option maxRecDepth 20000 in
theorem q176_80 : dropTo 80 (mcode 176) = k176_80 := rfl
set_option maxRecDepth 20000 in
theorem q177_0 : dropTo 0 (mcode 177) = k177_0 := rfl
set_option maxRecDepth 20000 in
theorem q177_15 : dropTo 15 (mcode 177) = k177_15 := rfl
set_option maxRecDepth 20000 in
theorem q177_16 : dropTo 16 (mcode 177) = k177_16 := rfl
set_option maxRecDepth 20000 in
theorem q178_0 : dropTo 0 (mcode 178) = k178_0 := rfl
set_option maxRecDepth 20000 in
theorem q178_10 : dropTo 10 (mcode 178) = k178_10 := rfl
set_option maxRecDepth 20000 in
theorem q178_33 : dropTo 33 (mcode 178) = k178_33 := rfl
set_option maxRecDepth 20000 in
theorem q178_34 : dropTo 34 (mcode 178) = k178_34 := rfl
set_option maxRecDepth 20000 in
theorem q178_46 : dropTo 46 (mcode 178) = k178_46 := rfl
set_option maxRecDepth 20000 in
theorem q178_47 : dropTo 47 (mcode 178) = k178_47 := rfl
set_option maxRecDepth 20000 in
theorem q178_54 : dropTo 54 (mcode 178) = k178_54 := rfl
set_option maxRecDepth 20000 in
theorem q179_0 : dropTo 0 (mcode 179) = k179_0 := rfl
set_option maxRecDepth 20000 in
theorem q180_0 : dropTo 0 (mcode 180) = k180_0 := rfl
set_option maxRecDepth 20000 in
theorem q180_10 : dropTo 10 (mcode 180) = k180_10 := rfl
set_option maxRecDepth 20000 in
theorem q181_0 : dropTo 0 (mcode 181) = k181_0 := rfl
set_option maxRecDepth 20000 in
theorem q181_9 : dropTo 9 (mcode 181) = k181_9 := rfl
set_option maxRecDepth 20000 in
theorem q181_55 : dropTo 55 (mcode 181) = k181_55 := rfl
set_option maxRecDepth 20000 in
theorem q181_81 : dropTo 81 (mcode 181) = k181_81 := rfl
set_option maxRecDepth 20000 in
theorem q181_85 : dropTo 85 (mcode 181) = k181_85 := rfl
set_option maxRecDepth 20000 in
theorem q181_104 : dropTo 104 (mcode 181) = k181_104 := rfl
set_option maxRecDepth 20000 in
theorem q181_145 : dropTo 145 (mcode 181) = k181_145 := rfl
set_option maxRecDepth 20000 in
theorem q182_0 : dropTo 0 (mcode 182) = k182_0 := rfl
set_option maxRecDepth 20000 in
theorem q182_12 : dropTo 12 (mcode 182) = k182_12 := rfl
set_option maxRecDepth 20000 in
theorem q182_27 : dropTo 27 (mcode 182) = k182_27 := rfl
set_option maxRecDepth 20000 in
theorem q182_55 : dropTo 55 (mcode 182) = k182_55 := rfl
set_option maxRecDepth 20000 in
theorem q183_0 : dropTo 0 (mcode 183) = k183_0 := rfl
set_option maxRecDepth 20000 in
theorem q183_27 : dropTo 27 (mcode 183) = k183_27 := rfl
set_option maxRecDepth 20000 in
theorem q183_28 : dropTo 28 (mcode 183) = k183_28 := rfl
set_option maxRecDepth 20000 in
theorem q184_0 : dropTo 0 (mcode 184) = k184_0 := rfl
set_option maxRecDepth 20000 in
theorem q184_22 : dropTo 22 (mcode 184) = k184_22 := rfl
set_option maxRecDepth 20000 in
theorem q184_24 : dropTo 24 (mcode 184) = k184_24 := rfl
set_option maxRecDepth 20000 in
theorem q185_0 : dropTo 0 (mcode 185) = k185_0 := rfl
set_option maxRecDepth 20000 in
theorem q185_12 : dropTo 12 (mcode 185) = k185_12 := rfl
set_option maxRecDepth 20000 in
theorem q186_0 : dropTo 0 (mcode 186) = k186_0 := rfl
set_option maxRecDepth 20000 in
theorem q186_10 : dropTo 10 (mcode 186) = k186_10 := rfl
set_option maxRecDepth 20000 in
theorem q186_30 : dropTo 30 (mcode 186) = k186_30 := rfl
set_option maxRecDepth 20000 in
theorem q186_31 : dropTo 31 (mcode 186) = k186_31 := rfl
set_option maxRecDepth 20000 in
theorem q186_34 : dropTo 34 (mcode 186) = k186_34 := rfl
set_option maxRecDepth 20000 in
theorem q186_70 : dropTo 70 (mcode 186) = k186_70 := rfl
set_option maxRecDepth 20000 in
theorem q186_71 : dropTo 71 (mcode 186) = k186_71 := rfl
set_option maxRecDepth 20000 in
theorem q186_78 : dropTo 78 (mcode 186) = k186_78 := rfl
set_option maxRecDepth 20000 in
theorem q186_86 : dropTo 86 (mcode 186) = k186_86 := rfl
set_option maxRecDepth 20000 in
theorem q186_92 : dropTo 92 (mcode 186) = k186_92 := rfl
set_option maxRecDepth 20000 in
theorem q187_0 : dropTo 0 (mcode 187) = k187_0 := rfl
set_option maxRecDepth 20000 in
theorem q187_37 : dropTo 37 (mcode 187) = k187_37 := rfl
set_option maxRecDepth 20000 in
theorem q187_39 : dropTo 39 (mcode 187) = k187_39 := rfl
set_option maxRecDepth 20000 in
theorem q187_55 : dropTo 55 (mcode 187) = k187_55 := rfl
set_option maxRecDepth 20000 in
theorem q187_72 : dropTo 72 (mcode 187) = k187_72 := rfl
set_option maxRecDepth 20000 in
theorem q187_75 : dropTo 75 (mcode 187) = k187_75 := rfl
set_option maxRecDepth 20000 in
theorem q187_78 : dropTo 78 (mcode 187) = k187_78 := rfl
set_option maxRecDepth 20000 in
theorem q187_123 : dropTo 123 (mcode 187) = k187_123 := rfl
set_option maxRecDepth 20000 in
theorem q187_137 : dropTo 137 (mcode 187) = k187_137 := rfl
set_option maxRecDepth 20000 in
theorem q187_140 : dropTo 140 (mcode 187) = k187_140 := rfl
set_option maxRecDepth 20000 in
theorem q187_147 : dropTo 147 (mcode 187) = k187_147 := rfl
set_option maxRecDepth 20000 in
theorem q188_0 : dropTo 0 (mcode 188) = k188_0 := rfl
set_option maxRecDepth 20000 in
theorem q189_0 : dropTo 0 (mcode 189) = k189_0 := rfl
set_option maxRecDepth 20000 in
theorem q189_26 : dropTo 26 (mcode 189) = k189_26 := rfl
set_option maxRecDepth 20000 in
theorem q189_28 : dropTo 28 (mcode 189) = k189_28 := rfl
set_option maxRecDepth 20000 in
theorem q189_39 : dropTo 39 (mcode 189) = k189_39 := rfl
set_option maxRecDepth 20000 in
theorem q189_59 : dropTo 59 (mcode 189) = k189_59 := rfl
set_option maxRecDepth 20000 in
theorem q189_60 : dropTo 60 (mcode 189) = k189_60 := rfl
set_option maxRecDepth 20000 in
theorem q189_64 : dropTo 64 (mcode 189) = k189_64 := rfl
set_option maxRecDepth 20000 in
theorem q189_90 : dropTo 90 (mcode 189) = k189_90 := rfl
set_option maxRecDepth 20000 in
theorem q190_0 : dropTo 0 (mcode 190) = k190_0 := rfl
set_option maxRecDepth 20000 in
theorem q190_9 : dropTo 9 (mcode 190) = k190_9 := rfl
set_option maxRecDepth 20000 in
theorem q190_21 : dropTo 21 (mcode 190) = k190_21 := rfl
set_option maxRecDepth 20000 in
theorem q190_40 : dropTo 40 (mcode 190) = k190_40 := rfl
set_option maxRecDepth 20000 in
theorem q190_65 : dropTo 65 (mcode 190) = k190_65 := rfl
set_option maxRecDepth 20000 in
theorem q190_81 : dropTo 81 (mcode 190) = k190_81 := rfl
set_option maxRecDepth 20000 in
theorem q190_83 : dropTo 83 (mcode 190) = k190_83 := rfl
set_option maxRecDepth 20000 in
theorem q191_0 : dropTo 0 (mcode 191) = k191_0 := rfl
set_option maxRecDepth 20000 in
theorem q191_14 : dropTo 14 (mcode 191) = k191_14 := rfl
set_option maxRecDepth 20000 in
theorem q191_29 : dropTo 29 (mcode 191) = k191_29 := rfl
set_option maxRecDepth 20000 in
theorem q191_30 : dropTo 30 (mcode 191) = k191_30 := rfl
set_option maxRecDepth 20000 in
theorem q192_0 : dropTo 0 (mcode 192) = k192_0 := rfl
set_option maxRecDepth 20000 in
theorem q192_16 : dropTo 16 (mcode 192) = k192_16 := rfl
set_option maxRecDepth 20000 in
theorem q192_18 : dropTo 18 (mcode 192) = k192_18 := rfl
set_option maxRecDepth 20000 in
theorem q192_34 : dropTo 34 (mcode 192) = k192_34 := rfl
set_option maxRecDepth 20000 in
theorem q192_65 : dropTo 65 (mcode 192) = k192_65 := rfl
set_option maxRecDepth 20000 in
theorem q192_67 : dropTo 67 (mcode 192) = k192_67 := rfl
set_option maxRecDepth 20000 in
theorem q193_0 : dropTo 0 (mcode 193) = k193_0 := rfl
set_option maxRecDepth 20000 in
theorem q193_12 : dropTo 12 (mcode 193) = k193_12 := rfl
set_option maxRecDepth 20000 in
theorem q193_24 : dropTo 24 (mcode 193) = k193_24 := rfl
set_option maxRecDepth 20000 in
theorem q193_33 : dropTo 33 (mcode 193) = k193_33 := rfl
set_option maxRecDepth 20000 in
theorem q193_34 : dropTo 34 (mcode 193) = k193_34 := rfl
set_option maxRecDepth 20000 in
theorem q194_0 : dropTo 0 (mcode 194) = k194_0 := rfl
set_option maxRecDepth 20000 in
theorem q194_16 : dropTo 16 (mcode 194) = k194_16 := rfl
set_option maxRecDepth 20000 in
theorem q194_18 : dropTo 18 (mcode 194) = k194_18 := rfl
set_option maxRecDepth 20000 in
theorem q194_42 : dropTo 42 (mcode 194) = k194_42 := rfl
set_option maxRecDepth 20000 in
theorem q194_46 : dropTo 46 (mcode 194) = k194_46 := rfl
set_option maxRecDepth 20000 in
theorem q194_47 : dropTo 47 (mcode 194) = k194_47 := rfl
set_option maxRecDepth 20000 in
theorem q194_67 : dropTo 67 (mcode 194) = k194_67 := rfl
set_option maxRecDepth 20000 in
theorem q194_68 : dropTo 68 (mcode 194) = k194_68 := rfl
set_option maxRecDepth 20000 in
theorem q194_88 : dropTo 88 (mcode 194) = k194_88 := rfl
set_option maxRecDepth 20000 in
theorem q194_89 : dropTo 89 (mcode 194) = k194_89 := rfl
set_option maxRecDepth 20000 in
theorem q195_0 : dropTo 0 (mcode 195) = k195_0 := rfl
set_option maxRecDepth 20000 in
theorem q195_22 : dropTo 22 (mcode 195) = k195_22 := rfl
set_option maxRecDepth 20000 in
theorem q195_24 : dropTo 24 (mcode 195) = k195_24 := rfl
set_option maxRecDepth 20000 in
theorem q195_25 : dropTo 25 (mcode 195) = k195_25 := rfl
set_option maxRecDepth 20000 in
theorem q195_52 : dropTo 52 (mcode 195) = k195_52 := rfl
set_option maxRecDepth 20000 in
theorem q195_53 : dropTo 53 (mcode 195) = k195_53 := rfl
set_option maxRecDepth 20000 in
theorem q196_0 : dropTo 0 (mcode 196) = k196_0 := rfl
set_option maxRecDepth 20000 in
theorem q196_19 : dropTo 19 (mcode 196) = k196_19 := rfl
set_option maxRecDepth 20000 in
theorem q196_29 : dropTo 29 (mcode 196) = k196_29 := rfl
set_option maxRecDepth 20000 in
theorem q196_33 : dropTo 33 (mcode 196) = k196_33 := rfl
set_option maxRecDepth 20000 in
theorem q196_34 : dropTo 34 (mcode 196) = k196_34 := rfl
set_option maxRecDepth 20000 in
theorem q197_0 : dropTo 0 (mcode 197) = k197_0 := rfl
set_option maxRecDepth 20000 in
theorem q197_27 : dropTo 27 (mcode 197) = k197_27 := rfl
set_option maxRecDepth 20000 in
theorem q197_29 : dropTo 29 (mcode 197) = k197_29 := rfl
set_option maxRecDepth 20000 in
theorem q197_42 : dropTo 42 (mcode 197) = k197_42 := rfl
set_option maxRecDepth 20000 in
theorem q197_70 : dropTo 70 (mcode 197) = k197_70 := rfl
set_option maxRecDepth 20000 in
theorem q197_72 : dropTo 72 (mcode 197) = k197_72 := rfl
set_option maxRecDepth 20000 in
theorem q197_73 : dropTo 73 (mcode 197) = k197_73 := rfl
set_option maxRecDepth 20000 in
theorem q197_96 : dropTo 96 (mcode 197) = k197_96 := rfl
set_option maxRecDepth 20000 in
theorem q197_98 : dropTo 98 (mcode 197) = k197_98 := rfl
set_option maxRecDepth 20000 in
theorem q198_0 : dropTo 0 (mcode 198) = k198_0 := rfl
set_option maxRecDepth 20000 in
theorem q198_29 : dropTo 29 (mcode 198) = k198_29 := rfl
set_option maxRecDepth 20000 in
theorem q199_0 : dropTo 0 (mcode 199) = k199_0 := rfl
set_option maxRecDepth 20000 in
theorem q200_0 : dropTo 0 (mcode 200) = k200_0 := rfl
set_option maxRecDepth 20000 in
theorem q201_0 : dropTo 0 (mcode 201) = k201_0 := rfl
set_option maxRecDepth 20000 in
theorem q201_32 : dropTo 32 (mcode 201) = k201_32 := rfl
set_option maxRecDepth 20000 in
theorem q201_38 : dropTo 38 (mcode 201) = k201_38 := rfl
set_option maxRecDepth 20000 in
theorem q201_52 : dropTo 52 (mcode 201) = k201_52 := rfl
set_option maxRecDepth 20000 in
theorem q201_69 : dropTo 69 (mcode 201) = k201_69 := rfl
set_option maxRecDepth 20000 in
theorem q202_0 : dropTo 0 (mcode 202) = k202_0 := rfl
set_option maxRecDepth 20000 in
theorem q203_0 : dropTo 0 (mcode 203) = k203_0 := rfl
set_option maxRecDepth 20000 in
theorem q203_16 : dropTo 16 (mcode 203) = k203_16 := rfl
set_option maxRecDepth 20000 in
theorem q203_33 : dropTo 33 (mcode 203) = k203_33 := rfl
set_option maxRecDepth 20000 in
theorem q203_64 : dropTo 64 (mcode 203) = k203_64 := rfl
set_option maxRecDepth 20000 in
theorem q204_0 : dropTo 0 (mcode 204) = k204_0 := rfl
set_option maxRecDepth 20000 in
theorem q204_24 : dropTo 24 (mcode 204) = k204_24 := rfl
set_option maxRecDepth 20000 in
theorem q205_0 : dropTo 0 (mcode 205) = k205_0 := rfl
set_option maxRecDepth 20000 in
theorem q205_24 : dropTo 24 (mcode 205) = k205_24 := rfl
set_option maxRecDepth 20000 in
theorem q205_55 : dropTo 55 (mcode 205) = k205_55 := rfl
set_option maxRecDepth 20000 in
theorem q205_65 : dropTo 65 (mcode 205) = k205_65 := rfl
set_option maxRecDepth 20000 in
theorem q205_66 : dropTo 66 (mcode 205) = k205_66 := rfl
set_option maxRecDepth 20000 in
theorem q206_0 : dropTo 0 (mcode 206) = k206_0 := rfl
set_option maxRecDepth 20000 in
theorem q207_0 : dropTo 0 (mcode 207) = k207_0 := rfl
set_option maxRecDepth 20000 in
theorem q207_16 : dropTo 16 (mcode 207) = k207_16 := rfl
set_option maxRecDepth 20000 in
theorem q207_39 : dropTo 39 (mcode 207) = k207_39 := rfl
set_option maxRecDepth 20000 in
theorem q207_61 : dropTo 61 (mcode 207) = k207_61 := rfl
set_option maxRecDepth 20000 in
theorem q208_0 : dropTo 0 (mcode 208) = k208_0 := rfl
set_option maxRecDepth 20000 in
theorem q208_20 : dropTo 20 (mcode 208) = k208_20 := rfl
set_option maxRecDepth 20000 in
theorem q208_21 : dropTo 21 (mcode 208) = k208_21 := rfl
set_option maxRecDepth 20000 in
theorem q208_42 : dropTo 42 (mcode 208) = k208_42 := rfl
set_option maxRecDepth 20000 in
theorem q208_44 : dropTo 44 (mcode 208) = k208_44 := rfl
set_option maxRecDepth 20000 in
theorem q208_90 : dropTo 90 (mcode 208) = k208_90 := rfl
set_option maxRecDepth 20000 in
theorem q208_103 : dropTo 103 (mcode 208) = k208_103 := rfl
set_option maxRecDepth 20000 in
theorem q208_116 : dropTo 116 (mcode 208) = k208_116 := rfl
set_option maxRecDepth 20000 in
theorem q208_121 : dropTo 121 (mcode 208) = k208_121 := rfl
set_option maxRecDepth 20000 in
theorem q208_135 : dropTo 135 (mcode 208) = k208_135 := rfl
set_option maxRecDepth 20000 in
theorem q208_137 : dropTo 137 (mcode 208) = k208_137 := rfl
set_option maxRecDepth 20000 in
theorem q209_0 : dropTo 0 (mcode 209) = k209_0 := rfl
set_option maxRecDepth 20000 in
theorem q209_23 : dropTo 23 (mcode 209) = k209_23 := rfl
set_option maxRecDepth 20000 in
theorem q209_25 : dropTo 25 (mcode 209) = k209_25 := rfl
set_option maxRecDepth 20000 in
theorem q210_0 : dropTo 0 (mcode 210) = k210_0 := rfl
set_option maxRecDepth 20000 in
theorem q210_40 : dropTo 40 (mcode 210) = k210_40 := rfl
set_option maxRecDepth 20000 in
theorem q210_45 : dropTo 45 (mcode 210) = k210_45 := rfl
set_option maxRecDepth 20000 in
theorem q210_50 : dropTo 50 (mcode 210) = k210_50 := rfl
set_option maxRecDepth 20000 in
theorem q210_52 : dropTo 52 (mcode 210) = k210_52 := rfl
set_option maxRecDepth 20000 in
theorem q210_77 : dropTo 77 (mcode 210) = k210_77 := rfl
set_option maxRecDepth 20000 in
theorem q210_78 : dropTo 78 (mcode 210) = k210_78 := rfl
set_option maxRecDepth 20000 in
theorem q210_86 : dropTo 86 (mcode 210) = k210_86 := rfl
set_option maxRecDepth 20000 in
theorem q210_88 : dropTo 88 (mcode 210) = k210_88 := rfl
set_option maxRecDepth 20000 in
theorem q210_93 : dropTo 93 (mcode 210) = k210_93 := rfl
set_option maxRecDepth 20000 in
theorem q210_98 : dropTo 98 (mcode 210) = k210_98 := rfl
set_option maxRecDepth 20000 in
theorem q210_103 : dropTo 103 (mcode 210) = k210_103 := rfl
set_option maxRecDepth 20000 in
theorem q211_0 : dropTo 0 (mcode 211) = k211_0 := rfl
set_option maxRecDepth 20000 in
theorem q211_3 : dropTo 3 (mcode 211) = k211_3 := rfl
set_option maxRecDepth 20000 in
theorem q211_29 : dropTo 29 (mcode 211) = k211_29 := rfl
set_option maxRecDepth 20000 in
theorem q211_42 : dropTo 42 (mcode 211) = k211_42 := rfl
set_option maxRecDepth 20000 in
theorem q211_58 : dropTo 58 (mcode 211) = k211_58 := rfl
set_option maxRecDepth 20000 in
theorem q212_0 : dropTo 0 (mcode 212) = k212_0 := rfl
set_option maxRecDepth 20000 in
theorem q213_0 : dropTo 0 (mcode 213) = k213_0 := rfl
set_option maxRecDepth 20000 in
theorem q214_0 : dropTo 0 (mcode 214) = k214_0 := rfl
set_option maxRecDepth 20000 in
theorem q214_10 : dropTo 10 (mcode 214) = k214_10 := rfl
set_option maxRecDepth 20000 in
theorem q215_0 : dropTo 0 (mcode 215) = k215_0 := rfl
