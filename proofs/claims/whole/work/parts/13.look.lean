theorem ft_2_27 : fTab 2 27 = some (0, 2, 0) := by decide +kernel
theorem ft_2_33 : fTab 2 33 = some (0, 2, 2) := by decide +kernel
theorem ft_2_37 : fTab 2 37 = some (0, 2, 3) := by decide +kernel
theorem ft_2_40 : fTab 2 40 = some (0, 2, 4) := by decide +kernel
theorem ft_2_43 : fTab 2 43 = some (0, 2, 5) := by decide +kernel
theorem ft_2_46 : fTab 2 46 = some (0, 2, 8) := by decide +kernel
theorem ft_2_49 : fTab 2 49 = some (0, 2, 9) := by decide +kernel
theorem ft_2_52 : fTab 2 52 = some (0, 2, 10) := by decide +kernel
theorem ft_2_55 : fTab 2 55 = some (0, 2, 12) := by decide +kernel
theorem ft_2_58 : fTab 2 58 = some (0, 2, 13) := by decide +kernel
theorem ft_2_64 : fTab 2 64 = some (0, 2, 14) := by decide +kernel
theorem ft_2_68 : fTab 2 68 = some (0, 2, 1) := by decide +kernel
theorem ft_2_72 : fTab 2 72 = some (0, 2, 6) := by decide +kernel
theorem ft_2_75 : fTab 2 75 = some (0, 2, 7) := by decide +kernel
theorem ft_2_78 : fTab 2 78 = some (0, 2, 11) := by decide +kernel
theorem ft_6_9 : fTab 6 9 = some (0, 6, 0) := by decide +kernel
theorem ft_6_15 : fTab 6 15 = some (0, 6, 1) := by decide +kernel
theorem ft_8_9 : fTab 8 9 = some (0, 8, 0) := by decide +kernel
theorem ft_8_25 : fTab 8 25 = some (1, 10, 2) := by decide +kernel
theorem ft_8_33 : fTab 8 33 = some (1, 10, 3) := by decide +kernel
theorem ft_8_40 : fTab 8 40 = some (1, 10, 5) := by decide +kernel
theorem ft_8_43 : fTab 8 43 = some (0, 8, 1) := by decide +kernel
theorem ft_9_9 : fTab 9 9 = some (0, 9, 0) := by decide +kernel
theorem ft_9_15 : fTab 9 15 = some (0, 9, 1) := by decide +kernel
theorem ft_9_29 : fTab 9 29 = some (0, 9, 2) := by decide +kernel
theorem ft_9_44 : fTab 9 44 = some (0, 9, 4) := by decide +kernel
theorem ft_9_57 : fTab 9 57 = some (0, 9, 3) := by decide +kernel
theorem ft_9_64 : fTab 9 64 = some (1, 2, 11) := by decide +kernel
theorem ft_9_67 : fTab 9 67 = some (1, 2, 13) := by decide +kernel
theorem ft_9_70 : fTab 9 70 = some (1, 2, 1) := by decide +kernel
theorem ft_10_9 : fTab 10 9 = some (0, 10, 0) := by decide +kernel
theorem ft_10_15 : fTab 10 15 = some (0, 10, 1) := by decide +kernel
theorem ft_10_21 : fTab 10 21 = some (0, 10, 4) := by decide +kernel
theorem ft_10_27 : fTab 10 27 = some (0, 10, 3) := by decide +kernel
theorem ft_10_30 : fTab 10 30 = some (0, 10, 2) := by decide +kernel
theorem ft_10_50 : fTab 10 50 = some (0, 10, 5) := by decide +kernel
theorem ft_11_12 : fTab 11 12 = some (0, 11, 0) := by decide +kernel
theorem ft_11_16 : fTab 11 16 = some (0, 11, 1) := by decide +kernel
theorem ft_11_19 : fTab 11 19 = some (0, 11, 2) := by decide +kernel
theorem ft_11_23 : fTab 11 23 = some (0, 11, 3) := by decide +kernel
theorem ft_11_30 : fTab 11 30 = some (0, 11, 4) := by decide +kernel
theorem ft_11_37 : fTab 11 37 = some (0, 11, 5) := by decide +kernel
theorem ft_11_44 : fTab 11 44 = some (0, 11, 6) := by decide +kernel
theorem ft_11_77 : fTab 11 77 = some (1, 2, 13) := by decide +kernel
theorem ft_11_81 : fTab 11 81 = some (1, 2, 6) := by decide +kernel
theorem ft_11_108 : fTab 11 108 = some (1, 2, 14) := by decide +kernel
theorem ft_11_125 : fTab 11 125 = some (1, 6, 1) := by decide +kernel
theorem ft_11_149 : fTab 11 149 = some (1, 9, 2) := by decide +kernel
theorem ft_11_182 : fTab 11 182 = some (1, 9, 3) := by decide +kernel
theorem ft_11_185 : fTab 11 185 = some (1, 2, 7) := by decide +kernel
theorem ft_11_191 : fTab 11 191 = some (1, 2, 1) := by decide +kernel
theorem ft_11_210 : fTab 11 210 = some (0, 11, 7) := by decide +kernel
theorem ft_11_213 : fTab 11 213 = some (0, 11, 8) := by decide +kernel
theorem ft_11_216 : fTab 11 216 = some (0, 11, 9) := by decide +kernel
theorem ft_11_219 : fTab 11 219 = some (1, 2, 11) := by decide +kernel
theorem ft_11_222 : fTab 11 222 = some (1, 10, 1) := by decide +kernel
theorem ft_12_7 : fTab 12 7 = some (0, 12, 0) := by decide +kernel
theorem ft_12_13 : fTab 12 13 = some (0, 12, 1) := by decide +kernel
theorem ft_12_17 : fTab 12 17 = some (0, 12, 2) := by decide +kernel
theorem ft_12_20 : fTab 12 20 = some (0, 12, 4) := by decide +kernel
theorem ft_12_23 : fTab 12 23 = some (0, 12, 5) := by decide +kernel
theorem ft_12_26 : fTab 12 26 = some (0, 12, 7) := by decide +kernel
theorem ft_12_29 : fTab 12 29 = some (0, 12, 8) := by decide +kernel
theorem ft_12_32 : fTab 12 32 = some (0, 12, 9) := by decide +kernel
theorem ft_12_35 : fTab 12 35 = some (0, 12, 11) := by decide +kernel
theorem ft_12_38 : fTab 12 38 = some (0, 12, 13) := by decide +kernel
theorem ft_12_41 : fTab 12 41 = some (0, 12, 14) := by decide +kernel
theorem ft_12_44 : fTab 12 44 = some (0, 12, 18) := by decide +kernel
theorem ft_12_47 : fTab 12 47 = some (0, 12, 19) := by decide +kernel
theorem ft_12_50 : fTab 12 50 = some (0, 12, 21) := by decide +kernel
theorem ft_12_53 : fTab 12 53 = some (0, 12, 22) := by decide +kernel
theorem ft_12_94 : fTab 12 94 = some (0, 12, 6) := by decide +kernel
theorem ft_12_102 : fTab 12 102 = some (0, 12, 10) := by decide +kernel
theorem ft_12_108 : fTab 12 108 = some (0, 12, 12) := by decide +kernel
theorem ft_12_137 : fTab 12 137 = some (0, 12, 3) := by decide +kernel
theorem ft_12_142 : fTab 12 142 = some (0, 12, 16) := by decide +kernel
theorem ft_12_159 : fTab 12 159 = some (0, 12, 17) := by decide +kernel
theorem ft_12_178 : fTab 12 178 = some (0, 12, 15) := by decide +kernel
theorem ft_12_205 : fTab 12 205 = some (0, 12, 20) := by decide +kernel
theorem ft_12_254 : fTab 12 254 = some (0, 12, 23) := by decide +kernel
theorem ct_2_81 : cTab 2 81 = some (0, 0) := by decide +kernel
theorem ct_2_84 : cTab 2 84 = some (6, 5) := by decide +kernel
theorem ct_2_90 : cTab 2 90 = some (0, 1) := by decide +kernel
theorem ct_2_94 : cTab 2 94 = some (3, 1) := by decide +kernel
theorem ct_2_98 : cTab 2 98 = some (0, 1) := by decide +kernel
theorem ct_2_101 : cTab 2 101 = some (0, 1) := by decide +kernel
theorem ct_2_104 : cTab 2 104 = some (0, 0) := by decide +kernel
theorem ct_2_108 : cTab 2 108 = some (0, 2) := by decide +kernel
theorem ct_2_112 : cTab 2 112 = some (4, 1) := by decide +kernel
theorem ct_2_116 : cTab 2 116 = some (2, 2) := by decide +kernel
theorem ct_2_122 : cTab 2 122 = some (2, 2) := by decide +kernel
theorem ct_2_125 : cTab 2 125 = some (0, 1) := by decide +kernel
theorem ct_2_128 : cTab 2 128 = some (0, 1) := by decide +kernel
theorem ct_2_131 : cTab 2 131 = some (0, 2) := by decide +kernel
theorem ct_2_135 : cTab 2 135 = some (4, 0) := by decide +kernel
theorem ct_2_139 : cTab 2 139 = some (4, 0) := by decide +kernel
theorem ct_3_7 : cTab 3 7 = some (5, 1) := by decide +kernel
theorem ct_6_19 : cTab 6 19 = some (6, 5) := by decide +kernel
theorem ct_8_15 : cTab 8 15 = some (0, 0) := by decide +kernel
theorem ct_8_20 : cTab 8 20 = some (0, 0) := by decide +kernel
theorem ct_8_29 : cTab 8 29 = some (0, 1) := by decide +kernel
theorem ct_8_36 : cTab 8 36 = some (0, 1) := by decide +kernel
theorem ct_8_49 : cTab 8 49 = some (0, 0) := by decide +kernel
theorem ct_8_52 : cTab 8 52 = some (0, 4) := by decide +kernel
theorem ct_8_56 : cTab 8 56 = some (0, 3) := by decide +kernel
theorem ct_8_60 : cTab 8 60 = some (0, 2) := by decide +kernel
theorem ct_8_64 : cTab 8 64 = some (0, 2) := by decide +kernel
theorem ct_9_19 : cTab 9 19 = some (0, 0) := by decide +kernel
theorem ct_9_25 : cTab 9 25 = some (0, 1) := by decide +kernel
theorem ct_9_33 : cTab 9 33 = some (0, 1) := by decide +kernel
theorem ct_9_37 : cTab 9 37 = some (0, 1) := by decide +kernel
theorem ct_9_40 : cTab 9 40 = some (0, 2) := by decide +kernel
theorem ct_9_47 : cTab 9 47 = some (0, 2) := by decide +kernel
theorem ct_9_51 : cTab 9 51 = some (2, 2) := by decide +kernel
theorem ct_9_60 : cTab 9 60 = some (0, 2) := by decide +kernel
theorem ct_9_73 : cTab 9 73 = some (0, 2) := by decide +kernel
theorem ct_9_76 : cTab 9 76 = some (0, 2) := by decide +kernel
theorem ct_9_79 : cTab 9 79 = some (0, 1) := by decide +kernel
theorem ct_9_82 : cTab 9 82 = some (2, 2) := by decide +kernel
theorem ct_10_24 : cTab 10 24 = some (0, 0) := by decide +kernel
theorem ct_10_33 : cTab 10 33 = some (2, 1) := by decide +kernel
theorem ct_10_37 : cTab 10 37 = some (0, 0) := by decide +kernel
theorem ct_10_40 : cTab 10 40 = some (2, 1) := by decide +kernel
theorem ct_10_43 : cTab 10 43 = some (0, 0) := by decide +kernel
theorem ct_10_46 : cTab 10 46 = some (0, 0) := by decide +kernel
theorem ct_10_55 : cTab 10 55 = some (0, 1) := by decide +kernel
theorem ct_10_69 : cTab 10 69 = some (7, 0) := by decide +kernel
theorem ct_10_73 : cTab 10 73 = some (8, 1) := by decide +kernel
theorem ct_11_48 : cTab 11 48 = some (0, 4) := by decide +kernel
theorem ct_11_52 : cTab 11 52 = some (0, 1) := by decide +kernel
theorem ct_11_56 : cTab 11 56 = some (0, 3) := by decide +kernel
theorem ct_11_60 : cTab 11 60 = some (0, 2) := by decide +kernel
theorem ct_11_64 : cTab 11 64 = some (0, 2) := by decide +kernel
theorem ct_11_67 : cTab 11 67 = some (0, 1) := by decide +kernel
theorem ct_11_71 : cTab 11 71 = some (0, 1) := by decide +kernel
theorem ct_11_74 : cTab 11 74 = some (0, 1) := by decide +kernel
theorem ct_11_85 : cTab 11 85 = some (0, 2) := by decide +kernel
theorem ct_11_89 : cTab 11 89 = some (0, 0) := by decide +kernel
theorem ct_11_93 : cTab 11 93 = some (0, 2) := by decide +kernel
theorem ct_11_97 : cTab 11 97 = some (0, 1) := by decide +kernel
theorem ct_11_101 : cTab 11 101 = some (0, 1) := by decide +kernel
theorem ct_11_104 : cTab 11 104 = some (0, 2) := by decide +kernel
theorem ct_11_112 : cTab 11 112 = some (0, 0) := by decide +kernel
theorem ct_11_115 : cTab 11 115 = some (0, 1) := by decide +kernel
theorem ct_11_121 : cTab 11 121 = some (0, 2) := by decide +kernel
theorem ct_11_128 : cTab 11 128 = some (0, 0) := by decide +kernel
theorem ct_11_131 : cTab 11 131 = some (0, 1) := by decide +kernel
theorem ct_11_134 : cTab 11 134 = some (0, 1) := by decide +kernel
theorem ct_11_137 : cTab 11 137 = some (2, 1) := by decide +kernel
theorem ct_11_140 : cTab 11 140 = some (0, 2) := by decide +kernel
theorem ct_11_143 : cTab 11 143 = some (0, 2) := by decide +kernel
theorem ct_11_146 : cTab 11 146 = some (0, 0) := by decide +kernel
theorem ct_11_152 : cTab 11 152 = some (2, 1) := by decide +kernel
theorem ct_11_157 : cTab 11 157 = some (0, 0) := by decide +kernel
theorem ct_11_160 : cTab 11 160 = some (2, 2) := by decide +kernel
theorem ct_11_163 : cTab 11 163 = some (2, 1) := by decide +kernel
theorem ct_11_166 : cTab 11 166 = some (0, 1) := by decide +kernel
theorem ct_11_169 : cTab 11 169 = some (2, 2) := by decide +kernel
theorem ct_11_172 : cTab 11 172 = some (0, 1) := by decide +kernel
theorem ct_11_175 : cTab 11 175 = some (0, 1) := by decide +kernel
theorem ct_11_178 : cTab 11 178 = some (0, 4) := by decide +kernel
theorem ct_11_188 : cTab 11 188 = some (0, 1) := by decide +kernel
theorem ct_11_194 : cTab 11 194 = some (2, 1) := by decide +kernel
theorem ct_11_197 : cTab 11 197 = some (0, 2) := by decide +kernel
theorem ct_11_200 : cTab 11 200 = some (0, 1) := by decide +kernel
theorem ct_11_203 : cTab 11 203 = some (2, 5) := by decide +kernel
theorem ct_11_207 : cTab 11 207 = some (2, 1) := by decide +kernel
theorem ct_11_229 : cTab 11 229 = some (0, 1) := by decide +kernel
theorem ct_12_56 : cTab 12 56 = some (0, 1) := by decide +kernel
theorem ct_12_62 : cTab 12 62 = some (2, 3) := by decide +kernel
theorem ct_12_68 : cTab 12 68 = some (0, 2) := by decide +kernel
theorem ct_12_74 : cTab 12 74 = some (0, 2) := by decide +kernel
theorem ct_12_79 : cTab 12 79 = some (0, 5) := by decide +kernel
theorem ct_12_83 : cTab 12 83 = some (0, 4) := by decide +kernel
theorem ct_12_87 : cTab 12 87 = some (0, 3) := by decide +kernel
theorem ct_12_91 : cTab 12 91 = some (0, 3) := by decide +kernel
theorem ct_12_98 : cTab 12 98 = some (0, 3) := by decide +kernel
theorem ct_12_105 : cTab 12 105 = some (2, 2) := by decide +kernel
theorem ct_12_111 : cTab 12 111 = some (0, 1) := by decide +kernel
theorem ct_12_114 : cTab 12 114 = some (0, 2) := by decide +kernel
theorem ct_12_118 : cTab 12 118 = some (0, 2) := by decide +kernel
theorem ct_12_121 : cTab 12 121 = some (0, 0) := by decide +kernel
theorem ct_12_125 : cTab 12 125 = some (0, 0) := by decide +kernel
theorem ct_12_128 : cTab 12 128 = some (0, 0) := by decide +kernel
theorem ct_12_131 : cTab 12 131 = some (0, 1) := by decide +kernel
theorem ct_12_155 : cTab 12 155 = some (0, 0) := by decide +kernel
theorem ct_12_174 : cTab 12 174 = some (2, 1) := by decide +kernel
theorem ct_12_181 : cTab 12 181 = some (0, 0) := by decide +kernel
theorem ct_12_184 : cTab 12 184 = some (0, 0) := by decide +kernel
theorem ct_12_187 : cTab 12 187 = some (0, 1) := by decide +kernel
theorem ct_12_190 : cTab 12 190 = some (0, 2) := by decide +kernel
theorem ct_12_193 : cTab 12 193 = some (0, 1) := by decide +kernel
theorem ct_12_196 : cTab 12 196 = some (0, 2) := by decide +kernel
theorem ct_12_199 : cTab 12 199 = some (0, 0) := by decide +kernel
theorem ct_12_202 : cTab 12 202 = some (0, 0) := by decide +kernel
theorem ct_12_208 : cTab 12 208 = some (0, 1) := by decide +kernel
theorem ct_12_212 : cTab 12 212 = some (0, 0) := by decide +kernel
theorem ct_12_215 : cTab 12 215 = some (0, 2) := by decide +kernel
theorem ct_12_220 : cTab 12 220 = some (0, 1) := by decide +kernel
theorem ct_12_223 : cTab 12 223 = some (0, 1) := by decide +kernel
theorem ct_12_226 : cTab 12 226 = some (2, 1) := by decide +kernel
theorem ct_12_229 : cTab 12 229 = some (0, 0) := by decide +kernel
theorem ct_12_234 : cTab 12 234 = some (0, 0) := by decide +kernel
theorem ct_12_237 : cTab 12 237 = some (2, 1) := by decide +kernel
theorem ct_12_240 : cTab 12 240 = some (0, 2) := by decide +kernel
theorem ct_12_243 : cTab 12 243 = some (2, 1) := by decide +kernel
theorem ct_12_249 : cTab 12 249 = some (0, 1) := by decide +kernel
theorem ct_12_260 : cTab 12 260 = some (0, 1) := by decide +kernel
theorem ct_30_13 : cTab 30 13 = some (0, 4) := by decide +kernel
theorem ct_30_17 : cTab 30 17 = some (0, 4) := by decide +kernel
theorem ct_30_18 : cTab 30 18 = some (0, 3) := by decide +kernel
theorem ct_30_22 : cTab 30 22 = some (0, 3) := by decide +kernel
theorem ct_30_23 : cTab 30 23 = some (0, 2) := by decide +kernel
theorem ct_30_27 : cTab 30 27 = some (0, 2) := by decide +kernel
theorem ct_30_28 : cTab 30 28 = some (0, 2) := by decide +kernel
theorem ct_30_31 : cTab 30 31 = some (0, 2) := by decide +kernel
theorem ct_30_32 : cTab 30 32 = some (0, 1) := by decide +kernel
theorem ct_30_36 : cTab 30 36 = some (0, 1) := by decide +kernel
theorem ct_30_37 : cTab 30 37 = some (0, 1) := by decide +kernel
theorem ct_30_40 : cTab 30 40 = some (0, 1) := by decide +kernel
theorem ct_30_41 : cTab 30 41 = some (0, 0) := by decide +kernel
theorem ct_30_45 : cTab 30 45 = some (0, 0) := by decide +kernel
theorem ct_30_48 : cTab 30 48 = some (0, 2) := by decide +kernel
theorem ct_30_52 : cTab 30 52 = some (0, 2) := by decide +kernel
theorem ct_30_53 : cTab 30 53 = some (0, 0) := by decide +kernel
theorem ct_30_56 : cTab 30 56 = some (0, 0) := by decide +kernel
theorem ct_30_57 : cTab 30 57 = some (0, 0) := by decide +kernel
theorem ct_30_60 : cTab 30 60 = some (0, 0) := by decide +kernel
theorem ct_30_61 : cTab 30 61 = some (0, 2) := by decide +kernel
theorem ct_30_64 : cTab 30 64 = some (0, 2) := by decide +kernel
theorem ct_30_65 : cTab 30 65 = some (0, 0) := by decide +kernel
theorem ct_30_68 : cTab 30 68 = some (0, 0) := by decide +kernel
theorem ct_30_69 : cTab 30 69 = some (0, 3) := by decide +kernel
theorem ct_30_72 : cTab 30 72 = some (0, 3) := by decide +kernel
theorem ct_30_73 : cTab 30 73 = some (0, 1) := by decide +kernel
theorem ct_30_76 : cTab 30 76 = some (0, 1) := by decide +kernel
theorem ct_30_77 : cTab 30 77 = some (0, 1) := by decide +kernel
theorem ct_30_80 : cTab 30 80 = some (0, 1) := by decide +kernel
theorem ct_30_81 : cTab 30 81 = some (0, 1) := by decide +kernel
theorem ct_30_84 : cTab 30 84 = some (0, 1) := by decide +kernel
theorem ct_30_85 : cTab 30 85 = some (0, 1) := by decide +kernel
theorem ct_30_88 : cTab 30 88 = some (0, 1) := by decide +kernel
theorem ct_30_89 : cTab 30 89 = some (0, 2) := by decide +kernel
theorem ct_30_92 : cTab 30 92 = some (0, 2) := by decide +kernel
theorem ct_30_93 : cTab 30 93 = some (0, 2) := by decide +kernel
theorem ct_30_96 : cTab 30 96 = some (0, 2) := by decide +kernel
theorem ct_30_97 : cTab 30 97 = some (0, 3) := by decide +kernel
theorem ct_30_100 : cTab 30 100 = some (0, 3) := by decide +kernel
theorem ct_30_101 : cTab 30 101 = some (0, 3) := by decide +kernel
theorem ct_30_104 : cTab 30 104 = some (0, 3) := by decide +kernel
theorem ct_30_105 : cTab 30 105 = some (0, 4) := by decide +kernel
theorem ct_30_109 : cTab 30 109 = some (0, 4) := by decide +kernel
theorem ct_30_110 : cTab 30 110 = some (0, 1) := by decide +kernel
theorem ct_30_113 : cTab 30 113 = some (0, 1) := by decide +kernel
theorem ct_30_114 : cTab 30 114 = some (0, 1) := by decide +kernel
theorem ct_30_117 : cTab 30 117 = some (0, 1) := by decide +kernel
theorem ct_30_118 : cTab 30 118 = some (0, 1) := by decide +kernel
theorem ct_30_121 : cTab 30 121 = some (0, 1) := by decide +kernel
theorem ct_30_122 : cTab 30 122 = some (0, 1) := by decide +kernel
theorem ct_30_125 : cTab 30 125 = some (0, 1) := by decide +kernel
theorem ct_30_126 : cTab 30 126 = some (0, 0) := by decide +kernel
theorem ct_30_130 : cTab 30 130 = some (0, 0) := by decide +kernel
theorem su_2_81_6 : sTab 2 81 6 = some (0, 0, qX6_forget) := rfl
theorem su_2_90_6 : sTab 2 90 6 = some (0, 1, qX6_take) := rfl
theorem su_2_94_99 : sTab 2 94 99 = some (3, 1, qX11_isRoom) := rfl
theorem su_2_98_2 : sTab 2 98 2 = some (0, 1, qX2_isBridge) := rfl
theorem su_2_101_2 : sTab 2 101 2 = some (0, 1, qX2_isTied) := rfl
theorem su_2_104_2 : sTab 2 104 2 = some (0, 0, qX2_allBridges) := rfl
theorem su_2_108_2 : sTab 2 108 2 = some (0, 2, qX2_joins) := rfl
theorem su_2_112_0 : sTab 2 112 0 = some (4, 1, qX0_loadBy) := rfl
theorem su_2_112_1 : sTab 2 112 1 = some (4, 1, qX1_loadBy) := rfl
theorem su_2_112_3 : sTab 2 112 3 = some (4, 1, qX3_loadBy) := rfl
theorem su_2_112_4 : sTab 2 112 4 = some (4, 1, qX1_loadBy) := rfl
theorem su_2_112_5 : sTab 2 112 5 = some (4, 1, qX7_loadBy) := rfl
theorem su_2_112_7 : sTab 2 112 7 = some (4, 1, qX7_loadBy) := rfl
theorem su_2_116_99 : sTab 2 116 99 = some (2, 2, qJ9_min_7cf53) := rfl
theorem su_2_122_99 : sTab 2 122 99 = some (2, 2, qJ9_max_7cf53) := rfl
theorem su_2_125_2 : sTab 2 125 2 = some (0, 1, qX2_isDown) := rfl
theorem su_2_128_2 : sTab 2 128 2 = some (0, 1, qX2_loadOn) := rfl
theorem su_2_131_2 : sTab 2 131 2 = some (0, 2, qX2_tip) := rfl
theorem su_2_135_0 : sTab 2 135 0 = some (4, 0, qX7_mayFall) := rfl
theorem su_2_135_1 : sTab 2 135 1 = some (4, 0, qX7_mayFall) := rfl
theorem su_2_135_3 : sTab 2 135 3 = some (4, 0, qX7_mayFall) := rfl
theorem su_2_135_4 : sTab 2 135 4 = some (4, 0, qX4_mayFall) := rfl
theorem su_2_135_5 : sTab 2 135 5 = some (4, 0, qX7_mayFall) := rfl
theorem su_2_135_7 : sTab 2 135 7 = some (4, 0, qX7_mayFall) := rfl
theorem su_2_139_0 : sTab 2 139 0 = some (4, 0, qX7_mayRise) := rfl
theorem su_2_139_1 : sTab 2 139 1 = some (4, 0, qX7_mayRise) := rfl
theorem su_2_139_3 : sTab 2 139 3 = some (4, 0, qX7_mayRise) := rfl
theorem su_2_139_4 : sTab 2 139 4 = some (4, 0, qX7_mayRise) := rfl
theorem su_2_139_5 : sTab 2 139 5 = some (4, 0, qX5_mayRise) := rfl
theorem su_2_139_7 : sTab 2 139 7 = some (4, 0, qX7_mayRise) := rfl
theorem su_3_7_0 : sTab 3 7 0 = some (5, 1, qX0_loadBy) := rfl
theorem su_8_15_2 : sTab 8 15 2 = some (0, 0, qX2_empty) := rfl
theorem su_8_20_10 : sTab 8 20 10 = some (0, 0, qX10_lookAtFirst) := rfl
theorem su_8_29_8 : sTab 8 29 8 = some (0, 1, qX8_readItem) := rfl
theorem su_8_36_8 : sTab 8 36 8 = some (0, 1, qX8_tell) := rfl
theorem su_8_49_10 : sTab 8 49 10 = some (0, 0, qX10_lookAtNext) := rfl
theorem su_8_52_2 : sTab 8 52 2 = some (0, 4, qX2_addBridge) := rfl
theorem su_8_56_2 : sTab 8 56 2 = some (0, 3, qX2_addChain) := rfl
theorem su_8_60_2 : sTab 8 60 2 = some (0, 2, qX2_addPerson) := rfl
theorem su_8_64_2 : sTab 8 64 2 = some (0, 2, qX2_setBallast) := rfl
theorem su_9_19_2 : sTab 9 19 2 = some (0, 0, qX2_packed) := rfl
theorem su_9_25_9 : sTab 9 25 9 = some (0, 1, qX9_begin) := rfl
theorem su_9_33_9 : sTab 9 33 9 = some (0, 1, qX9_stateAt) := rfl
theorem su_9_37_2 : sTab 9 37 2 = some (0, 1, qX2_unpack) := rfl
theorem su_9_40_2 : sTab 9 40 2 = some (0, 2, qX2_areIn) := rfl
theorem su_9_47_9 : sTab 9 47 9 = some (0, 2, qX9_goOn) := rfl
theorem su_9_51_99 : sTab 9 51 99 = some (2, 2, qJ7_fill_d0a16) := rfl
theorem su_9_60_9 : sTab 9 60 9 = some (0, 2, qX9_note) := rfl
theorem su_9_73_2 : sTab 9 73 2 = some (0, 2, qX2_canGo) := rfl
theorem su_9_76_2 : sTab 9 76 2 = some (0, 2, qX2_go) := rfl
theorem su_9_79_9 : sTab 9 79 9 = some (0, 1, qX9_before) := rfl
theorem su_9_82_99 : sTab 9 82 99 = some (2, 2, qX9_stepBetween) := rfl
theorem su_10_24_10 : sTab 10 24 10 = some (0, 0, qX10_lookAtNext) := rfl
theorem su_10_33_99 : sTab 10 33 99 = some (2, 1, qX10_isLetter) := rfl
theorem su_10_37_10 : sTab 10 37 10 = some (0, 0, qX10_takeWord) := rfl
theorem su_10_40_99 : sTab 10 40 99 = some (2, 1, qX10_isFigure) := rfl
theorem su_10_43_10 : sTab 10 43 10 = some (0, 0, qX10_takeNumber) := rfl
theorem su_10_46_10 : sTab 10 46 10 = some (0, 0, qX10_itemOfWord) := rfl
theorem su_10_55_10 : sTab 10 55 10 = some (0, 1, qX10_isWord) := rfl
theorem su_11_48_2 : sTab 11 48 2 = some (0, 4, qX2_addBridge) := rfl
theorem su_11_52_11 : sTab 11 52 11 = some (0, 1, qX11_counted) := rfl
theorem su_11_56_2 : sTab 11 56 2 = some (0, 3, qX2_addChain) := rfl
theorem su_11_60_2 : sTab 11 60 2 = some (0, 2, qX2_setBallast) := rfl
theorem su_11_64_2 : sTab 11 64 2 = some (0, 2, qX2_addPerson) := rfl
theorem su_11_67_2 : sTab 11 67 2 = some (0, 1, qX2_isBridge) := rfl
theorem su_11_71_2 : sTab 11 71 2 = some (0, 1, qX2_loadOn) := rfl
theorem su_11_74_2 : sTab 11 74 2 = some (0, 1, qX2_isPerson) := rfl
theorem su_11_85_10 : sTab 11 85 10 = some (0, 2, qX10_append) := rfl
theorem su_11_89_10 : sTab 11 89 10 = some (0, 0, qX10_wipe) := rfl
theorem su_11_93_8 : sTab 11 93 8 = some (0, 2, qX8_readInto) := rfl
theorem su_11_97_2 : sTab 11 97 2 = some (0, 1, qX2_take) := rfl
theorem su_11_101_2 : sTab 11 101 2 = some (0, 1, qX2_isPlace) := rfl
theorem su_11_104_2 : sTab 11 104 2 = some (0, 2, qX2_canGo) := rfl
theorem su_11_112_2 : sTab 11 112 2 = some (0, 0, qX2_packed) := rfl
theorem su_11_115_6 : sTab 11 115 6 = some (0, 1, qX6_push) := rfl
theorem su_11_121_2 : sTab 11 121 2 = some (0, 2, qX2_go) := rfl
theorem su_11_128_6 : sTab 11 128 6 = some (0, 0, qX6_pop) := rfl
theorem su_11_131_2 : sTab 11 131 2 = some (0, 1, qX2_unpack) := rfl
theorem su_11_134_2 : sTab 11 134 2 = some (0, 1, qX2_areSome) := rfl
theorem su_11_137_99 : sTab 11 137 99 = some (2, 1, qX11_isRoom) := rfl
theorem su_11_140_11 : sTab 11 140 11 = some (0, 2, qX11_stepsNow) := rfl
theorem su_11_143_9 : sTab 11 143 9 = some (0, 2, qX9_stepOfWay) := rfl
theorem su_11_146_11 : sTab 11 146 11 = some (0, 0, qX11_lyingsNow) := rfl
theorem su_11_152_99 : sTab 11 152 99 = some (2, 1, qJ6_bitCount_0f7a4) := rfl
theorem su_11_157_2 : sTab 11 157 2 = some (0, 0, qX2_allBridges) := rfl
theorem su_11_160_99 : sTab 11 160 99 = some (2, 2, qX11_downInAll) := rfl
theorem su_11_163_99 : sTab 11 163 99 = some (2, 1, qX11_downInSome) := rfl
theorem su_11_166_2 : sTab 11 166 2 = some (0, 1, qX2_areBridges) := rfl
theorem su_11_169_99 : sTab 11 169 99 = some (2, 2, qX11_isAmong) := rfl
theorem su_11_172_2 : sTab 11 172 2 = some (0, 1, qX2_bridgesOf) := rfl
theorem su_11_175_2 : sTab 11 175 2 = some (0, 1, qX2_leaveOut) := rfl
theorem su_11_178_9 : sTab 11 178 9 = some (0, 4, qX9_shorter) := rfl
theorem su_11_188_2 : sTab 11 188 2 = some (0, 1, qX2_dropChain) := rfl
theorem su_11_194_99 : sTab 11 194 99 = some (2, 1, qX11_isStone) := rfl
theorem su_11_197_2 : sTab 11 197 2 = some (0, 2, qX2_addStones) := rfl
theorem su_11_200_2 : sTab 11 200 2 = some (0, 1, qX2_leaveAlone) := rfl
theorem su_11_203_99 : sTab 11 203 99 = some (2, 5, qX11_rowsOf) := rfl
theorem su_11_207_99 : sTab 11 207 99 = some (2, 1, qX11_isImage) := rfl
theorem su_11_229_2 : sTab 11 229 2 = some (0, 1, qX2_digestOn) := rfl
theorem su_12_56_12 : sTab 12 56 12 = some (0, 1, qX12_met) := rfl
theorem su_12_62_99 : sTab 12 62 99 = some (2, 3, qX12_in) := rfl
theorem su_12_68_12 : sTab 12 68 12 = some (0, 2, qX12_isBridge) := rfl
theorem su_12_74_12 : sTab 12 74 12 = some (0, 2, qX12_isTied) := rfl
theorem su_12_79_12 : sTab 12 79 12 = some (0, 5, qX12_addBridge) := rfl
theorem su_12_83_12 : sTab 12 83 12 = some (0, 4, qX12_addChain) := rfl
theorem su_12_87_12 : sTab 12 87 12 = some (0, 3, qX12_setLoad) := rfl
theorem su_12_91_12 : sTab 12 91 12 = some (0, 3, qX12_addOne) := rfl
theorem su_12_98_12 : sTab 12 98 12 = some (0, 3, qX12_tieMore) := rfl
theorem su_12_105_99 : sTab 12 105 99 = some (2, 2, qX12_has) := rfl
theorem su_12_111_12 : sTab 12 111 12 = some (0, 1, qX12_loadOf) := rfl
theorem su_12_114_12 : sTab 12 114 12 = some (0, 2, qX12_tip) := rfl
theorem su_12_118_12 : sTab 12 118 12 = some (0, 2, qX12_isOf) := rfl
theorem su_12_121_12 : sTab 12 121 12 = some (0, 0, qX12_bad) := rfl
theorem su_12_125_12 : sTab 12 125 12 = some (0, 0, qX12_layNow) := rfl
theorem su_12_128_12 : sTab 12 128 12 = some (0, 0, qX12_asNow) := rfl
theorem su_12_131_12 : sTab 12 131 12 = some (0, 1, qX12_isOne) := rfl
theorem su_12_155_12 : sTab 12 155 12 = some (0, 0, qX12_isEnd) := rfl
theorem su_12_174_99 : sTab 12 174 99 = some (2, 1, qX12_wordOf) := rfl
theorem su_12_181_12 : sTab 12 181 12 = some (0, 0, qX12_takeNumber) := rfl
theorem su_12_184_12 : sTab 12 184 12 = some (0, 0, qX12_takeItem) := rfl
theorem su_12_187_12 : sTab 12 187 12 = some (0, 1, qX12_tellItem) := rfl
theorem su_12_190_12 : sTab 12 190 12 = some (0, 2, qX12_copy) := rfl
theorem su_12_193_12 : sTab 12 193 12 = some (0, 1, qX12_isPlace) := rfl
theorem su_12_196_12 : sTab 12 196 12 = some (0, 2, qX12_mayStep) := rfl
theorem su_12_199_12 : sTab 12 199 12 = some (0, 0, qX12_tipAll) := rfl
theorem su_12_202_12 : sTab 12 202 12 = some (0, 0, qX12_codeNow) := rfl
theorem su_12_208_12 : sTab 12 208 12 = some (0, 1, qX12_decode) := rfl
theorem su_12_212_12 : sTab 12 212 12 = some (0, 0, qX12_goAll) := rfl
theorem su_12_215_12 : sTab 12 215 12 = some (0, 2, qX12_findWay) := rfl
theorem su_12_220_12 : sTab 12 220 12 = some (0, 1, qX12_stepsTo) := rfl
theorem su_12_223_12 : sTab 12 223 12 = some (0, 1, qX12_areSome) := rfl
theorem su_12_226_99 : sTab 12 226 99 = some (2, 1, qX12_isRoom) := rfl
theorem su_12_229_12 : sTab 12 229 12 = some (0, 0, qX12_lyings) := rfl
theorem su_12_234_12 : sTab 12 234 12 = some (0, 0, qX12_allLyings) := rfl
theorem su_12_237_99 : sTab 12 237 99 = some (2, 1, qX12_many) := rfl
theorem su_12_240_12 : sTab 12 240 12 = some (0, 2, qX12_stepsOf) := rfl
theorem su_12_243_99 : sTab 12 243 99 = some (2, 1, qX12_ones) := rfl
theorem su_12_249_12 : sTab 12 249 12 = some (0, 1, qX12_countOf) := rfl
theorem su_12_260_12 : sTab 12 260 12 = some (0, 1, qX12_mix) := rfl
theorem su_30_13_11 : sTab 30 13 11 = some (0, 4, qX11_bridge) := rfl
theorem su_30_17_12 : sTab 30 17 12 = some (0, 4, qX12_bridge) := rfl
theorem su_30_18_11 : sTab 30 18 11 = some (0, 3, qX11_chain) := rfl
theorem su_30_22_12 : sTab 30 22 12 = some (0, 3, qX12_chain) := rfl
theorem su_30_23_11 : sTab 30 23 11 = some (0, 2, qX11_load) := rfl
theorem su_30_27_12 : sTab 30 27 12 = some (0, 2, qX12_load) := rfl
theorem su_30_28_11 : sTab 30 28 11 = some (0, 2, qX11_one) := rfl
theorem su_30_31_12 : sTab 30 31 12 = some (0, 2, qX12_one) := rfl
theorem su_30_32_11 : sTab 30 32 11 = some (0, 1, qX11_weight) := rfl
theorem su_30_36_12 : sTab 30 36 12 = some (0, 1, qX12_weight) := rfl
theorem su_30_37_11 : sTab 30 37 11 = some (0, 1, qX11_where) := rfl
theorem su_30_40_12 : sTab 30 40 12 = some (0, 1, qX12_where) := rfl
theorem su_30_41_11 : sTab 30 41 11 = some (0, 0, qX11_lying) := rfl
theorem su_30_45_12 : sTab 30 45 12 = some (0, 0, qX12_lying) := rfl
theorem su_30_48_11 : sTab 30 48 11 = some (0, 2, qX11_type) := rfl
theorem su_30_52_12 : sTab 30 52 12 = some (0, 2, qX12_type) := rfl
theorem su_30_53_11 : sTab 30 53 11 = some (0, 0, qX11_clear) := rfl
theorem su_30_56_12 : sTab 30 56 12 = some (0, 0, qX12_clear) := rfl
theorem su_30_57_11 : sTab 30 57 11 = some (0, 0, qX11_read) := rfl
theorem su_30_60_12 : sTab 30 60 12 = some (0, 0, qX12_read) := rfl
theorem su_30_61_11 : sTab 30 61 11 = some (0, 2, qX11_step) := rfl
theorem su_30_64_12 : sTab 30 64 12 = some (0, 2, qX12_step) := rfl
theorem su_30_65_11 : sTab 30 65 11 = some (0, 0, qX11_undo) := rfl
theorem su_30_68_12 : sTab 30 68 12 = some (0, 0, qX12_undo) := rfl
theorem su_30_69_11 : sTab 30 69 11 = some (0, 3, qX11_way) := rfl
theorem su_30_72_12 : sTab 30 72 12 = some (0, 3, qX12_way) := rfl
theorem su_30_73_11 : sTab 30 73 11 = some (0, 1, qX11_reach) := rfl
theorem su_30_76_12 : sTab 30 76 12 = some (0, 1, qX12_reach) := rfl
theorem su_30_77_11 : sTab 30 77 11 = some (0, 1, qX11_can) := rfl
theorem su_30_80_12 : sTab 30 80 12 = some (0, 1, qX12_can) := rfl
theorem su_30_81_11 : sTab 30 81 11 = some (0, 1, qX11_closed) := rfl
theorem su_30_84_12 : sTab 30 84 12 = some (0, 1, qX12_closed) := rfl
theorem su_30_85_11 : sTab 30 85 11 = some (0, 1, qX11_child) := rfl
theorem su_30_88_12 : sTab 30 88 12 = some (0, 1, qX12_child) := rfl
theorem su_30_89_11 : sTab 30 89 11 = some (0, 2, qX11_cut) := rfl
theorem su_30_92_12 : sTab 30 92 12 = some (0, 2, qX12_cut) := rfl
theorem su_30_93_11 : sTab 30 93 11 = some (0, 2, qX11_tie) := rfl
theorem su_30_96_12 : sTab 30 96 12 = some (0, 2, qX12_tie) := rfl
theorem su_30_97_11 : sTab 30 97 11 = some (0, 3, qX11_stone) := rfl
theorem su_30_100_12 : sTab 30 100 12 = some (0, 3, qX12_stone) := rfl
theorem su_30_101_11 : sTab 30 101 11 = some (0, 3, qX11_keep) := rfl
theorem su_30_104_12 : sTab 30 104 12 = some (0, 3, qX12_keep) := rfl
theorem su_30_105_11 : sTab 30 105 11 = some (0, 4, qX11_wet) := rfl
theorem su_30_109_12 : sTab 30 109 12 = some (0, 4, qX12_wet) := rfl
theorem su_30_110_11 : sTab 30 110 11 = some (0, 1, qX11_image) := rfl
theorem su_30_113_12 : sTab 30 113 12 = some (0, 1, qX12_image) := rfl
theorem su_30_114_11 : sTab 30 114 11 = some (0, 1, qX11_from) := rfl
theorem su_30_117_12 : sTab 30 117 12 = some (0, 1, qX12_from) := rfl
theorem su_30_118_11 : sTab 30 118 11 = some (0, 1, qX11_status) := rfl
theorem su_30_121_12 : sTab 30 121 12 = some (0, 1, qX12_status) := rfl
theorem su_30_122_11 : sTab 30 122 11 = some (0, 1, qX11_count) := rfl
theorem su_30_125_12 : sTab 30 125 12 = some (0, 1, qX12_count) := rfl
theorem su_30_126_11 : sTab 30 126 11 = some (0, 0, qX11_digest) := rfl
theorem su_30_130_12 : sTab 30 130 12 = some (0, 0, qX12_digest) := rfl
theorem kt_20_265 : kTab 20 265 = some (1431655765) := by decide +kernel
theorem kt_20_266 : kTab 20 266 = some (858993459) := by decide +kernel
theorem kt_20_267 : kTab 20 267 = some (252645135) := by decide +kernel
theorem kt_12_219 : kTab 12 219 = some (100000) := by decide +kernel
theorem lt_10_19 : lTab 10 19 = some (255) := by decide +kernel
theorem lt_11_225 : lTab 11 225 = some (773) := by decide +kernel
theorem lt_11_227 : lTab 11 227 = some (31) := by decide +kernel
theorem lt_2_142 : lTab 2 142 = some (31) := by decide +kernel
theorem lt_12_60 : lTab 12 60 = some (4) := by decide +kernel
theorem lt_12_66 : lTab 12 66 = some (5) := by decide +kernel
theorem lt_12_72 : lTab 12 72 = some (9) := by decide +kernel
theorem lt_12_77 : lTab 12 77 = some (20) := by decide +kernel
theorem lt_12_135 : lTab 12 135 = some (8) := by decide +kernel
theorem lt_12_140 : lTab 12 140 = some (255) := by decide +kernel
theorem lt_12_166 : lTab 12 166 = some (97) := by decide +kernel
theorem lt_12_168 : lTab 12 168 = some (122) := by decide +kernel
theorem lt_12_170 : lTab 12 170 = some (32) := by decide +kernel
theorem lt_12_172 : lTab 12 172 = some (96) := by decide +kernel
theorem lt_12_145 : lTab 12 145 = some (86282469) := by decide +kernel
theorem lt_12_147 : lTab 12 147 = some (147182) := by decide +kernel
theorem lt_12_149 : lTab 12 149 = some (3409198) := by decide +kernel
theorem lt_12_151 : lTab 12 151 = some (15813) := by decide +kernel
theorem lt_12_153 : lTab 12 153 = some (408612) := by decide +kernel
theorem lt_12_162 : lTab 12 162 = some (48) := by decide +kernel
theorem lt_12_164 : lTab 12 164 = some (57) := by decide +kernel
theorem lt_12_232 : lTab 12 232 = some (3) := by decide +kernel
theorem lt_12_245 : lTab 12 245 = some (6) := by decide +kernel
theorem lt_12_247 : lTab 12 247 = some (2) := by decide +kernel
theorem lt_12_258 : lTab 12 258 = some (773) := by decide +kernel
theorem lt_12_252 : lTab 12 252 = some (31) := by decide +kernel
theorem lt_30_46 : lTab 30 46 = some (4294967295) := by decide +kernel
theorem gt_10_53 : gTab 10 53 = some 200 := by decide +kernel
theorem gk_10_53 : kTab 10 53 = none := by decide +kernel
theorem gt_10_61 : gTab 10 61 = some 201 := by decide +kernel
theorem gk_10_61 : kTab 10 61 = none := by decide +kernel
theorem gt_10_63 : gTab 10 63 = some 202 := by decide +kernel
theorem gk_10_63 : kTab 10 63 = none := by decide +kernel
theorem gt_10_65 : gTab 10 65 = some 203 := by decide +kernel
theorem gk_10_65 : kTab 10 65 = none := by decide +kernel
theorem gt_10_67 : gTab 10 67 = some 204 := by decide +kernel
theorem gk_10_67 : kTab 10 67 = none := by decide +kernel
