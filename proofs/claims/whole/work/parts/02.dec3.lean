theorem dX12_takeItem_22 : decode cX12_takeItem 22 = .ok (.aload_n 0, 1) := by decide +kernel
theorem dX12_takeItem_23 : decode cX12_takeItem 23 = .ok (.getfield 142, 3) := by decide +kernel
theorem dX12_takeItem_26 : decode cX12_takeItem 26 = .ok (.iaload, 1) := by decide +kernel
theorem dX12_takeItem_27 : decode cX12_takeItem 27 = .ok (.i2l, 1) := by decide +kernel
theorem dX12_takeItem_28 : decode cX12_takeItem 28 = .ok (.ldc2_w 166, 3) := by decide +kernel
theorem dX12_takeItem_31 : decode cX12_takeItem 31 = .ok (.ldc2_w 168, 3) := by decide +kernel
theorem dX12_takeItem_34 : decode cX12_takeItem 34 = .ok (.invokestatic 62, 3) := by decide +kernel
theorem dX12_takeItem_37 : decode cX12_takeItem 37 = .ok (.ifCond .eq 52, 3) := by decide +kernel
theorem dX12_takeItem_40 : decode cX12_takeItem 40 = .ok (.aload_n 0, 1) := by decide +kernel
theorem dX12_takeItem_41 : decode cX12_takeItem 41 = .ok (.getfield 142, 3) := by decide +kernel
theorem dX12_takeItem_44 : decode cX12_takeItem 44 = .ok (.iload_n 1, 1) := by decide +kernel
theorem dX12_takeItem_45 : decode cX12_takeItem 45 = .ok (.isub, 1) := by decide +kernel
theorem dX12_takeItem_46 : decode cX12_takeItem 46 = .ok (.bipush 7, 2) := by decide +kernel
theorem dX12_takeItem_48 : decode cX12_takeItem 48 = .ok (.if_icmp .ge 26, 3) := by decide +kernel
theorem dX12_takeItem_51 : decode cX12_takeItem 51 = .ok (.ldc2_w 170, 3) := by decide +kernel
theorem dX12_takeItem_54 : decode cX12_takeItem 54 = .ok (.lload_n 2, 1) := by decide +kernel
theorem dX12_takeItem_55 : decode cX12_takeItem 55 = .ok (.lmul, 1) := by decide +kernel
theorem dX12_takeItem_56 : decode cX12_takeItem 56 = .ok (.aload_n 0, 1) := by decide +kernel
theorem dX12_takeItem_57 : decode cX12_takeItem 57 = .ok (.getfield 17, 3) := by decide +kernel
theorem dX12_takeItem_60 : decode cX12_takeItem 60 = .ok (.aload_n 0, 1) := by decide +kernel
theorem dX12_takeItem_61 : decode cX12_takeItem 61 = .ok (.getfield 142, 3) := by decide +kernel
theorem dX12_takeItem_64 : decode cX12_takeItem 64 = .ok (.iaload, 1) := by decide +kernel
theorem dX12_takeItem_65 : decode cX12_takeItem 65 = .ok (.i2l, 1) := by decide +kernel
theorem dX12_takeItem_66 : decode cX12_takeItem 66 = .ok (.ladd, 1) := by decide +kernel
theorem dX12_takeItem_67 : decode cX12_takeItem 67 = .ok (.ldc2_w 172, 3) := by decide +kernel
theorem dX12_takeItem_70 : decode cX12_takeItem 70 = .ok (.lsub, 1) := by decide +kernel
theorem dX12_takeItem_71 : decode cX12_takeItem 71 = .ok (.goto 4, 3) := by decide +kernel
theorem dX12_takeItem_74 : decode cX12_takeItem 74 = .ok (.lload_n 2, 1) := by decide +kernel
theorem dX12_takeItem_75 : decode cX12_takeItem 75 = .ok (.lstore_n 2, 1) := by decide +kernel
theorem dX12_takeItem_76 : decode cX12_takeItem 76 = .ok (.aload_n 0, 1) := by decide +kernel
theorem dX12_takeItem_77 : decode cX12_takeItem 77 = .ok (.dup, 1) := by decide +kernel
theorem dX12_takeItem_78 : decode cX12_takeItem 78 = .ok (.getfield 142, 3) := by decide +kernel
theorem dX12_takeItem_81 : decode cX12_takeItem 81 = .ok (.iconst 1, 1) := by decide +kernel
theorem dX12_takeItem_82 : decode cX12_takeItem 82 = .ok (.iadd, 1) := by decide +kernel
theorem dX12_takeItem_83 : decode cX12_takeItem 83 = .ok (.putfield 142, 3) := by decide +kernel
theorem dX12_takeItem_86 : decode cX12_takeItem 86 = .ok (.goto (-79), 3) := by decide +kernel
theorem dX12_takeItem_89 : decode cX12_takeItem 89 = .ok (.lload_n 2, 1) := by decide +kernel
theorem dX12_takeItem_90 : decode cX12_takeItem 90 = .ok (.invokestatic 174, 3) := by decide +kernel
theorem dX12_takeItem_93 : decode cX12_takeItem 93 = .ok (.istore 4, 2) := by decide +kernel
theorem dX12_takeItem_95 : decode cX12_takeItem 95 = .ok (.aload_n 0, 1) := by decide +kernel
theorem dX12_takeItem_96 : decode cX12_takeItem 96 = .ok (.iload 4, 2) := by decide +kernel
theorem dX12_takeItem_98 : decode cX12_takeItem 98 = .ok (.iconst (-1), 1) := by decide +kernel
theorem dX12_takeItem_99 : decode cX12_takeItem 99 = .ok (.if_icmp .ne 7, 3) := by decide +kernel
theorem dX12_takeItem_102 : decode cX12_takeItem 102 = .ok (.iload_n 1, 1) := by decide +kernel
theorem dX12_takeItem_103 : decode cX12_takeItem 103 = .ok (.goto 7, 3) := by decide +kernel
theorem dX12_takeItem_106 : decode cX12_takeItem 106 = .ok (.aload_n 0, 1) := by decide +kernel
theorem dX12_takeItem_107 : decode cX12_takeItem 107 = .ok (.getfield 159, 3) := by decide +kernel
theorem dX12_takeItem_110 : decode cX12_takeItem 110 = .ok (.putfield 159, 3) := by decide +kernel
theorem dX12_takeItem_113 : decode cX12_takeItem 113 = .ok (.aload_n 0, 1) := by decide +kernel
theorem dX12_takeItem_114 : decode cX12_takeItem 114 = .ok (.getfield 38, 3) := by decide +kernel
theorem dX12_takeItem_117 : decode cX12_takeItem 117 = .ok (.aload_n 0, 1) := by decide +kernel
theorem dX12_takeItem_118 : decode cX12_takeItem 118 = .ok (.getfield 178, 3) := by decide +kernel
theorem dX12_takeItem_121 : decode cX12_takeItem 121 = .ok (.iload 4, 2) := by decide +kernel
theorem dX12_takeItem_123 : decode cX12_takeItem 123 = .ok (.iastore, 1) := by decide +kernel
theorem dX12_takeItem_124 : decode cX12_takeItem 124 = .ok (.iconst 0, 1) := by decide +kernel
theorem dX12_takeItem_125 : decode cX12_takeItem 125 = .ok (.istore 5, 2) := by decide +kernel
theorem dX12_takeItem_127 : decode cX12_takeItem 127 = .ok (.iload 5, 2) := by decide +kernel
theorem dX12_takeItem_129 : decode cX12_takeItem 129 = .ok (.iload 4, 2) := by decide +kernel
theorem dX12_takeItem_131 : decode cX12_takeItem 131 = .ok (.iconst 3, 1) := by decide +kernel
theorem dX12_takeItem_132 : decode cX12_takeItem 132 = .ok (.if_icmp .ge 7, 3) := by decide +kernel
theorem dX12_takeItem_135 : decode cX12_takeItem 135 = .ok (.iconst 3, 1) := by decide +kernel
theorem dX12_takeItem_136 : decode cX12_takeItem 136 = .ok (.goto 4, 3) := by decide +kernel
theorem dX12_takeItem_139 : decode cX12_takeItem 139 = .ok (.iconst 2, 1) := by decide +kernel
theorem dX12_takeItem_140 : decode cX12_takeItem 140 = .ok (.if_icmp .ge 35, 3) := by decide +kernel
theorem dX12_takeItem_143 : decode cX12_takeItem 143 = .ok (.aload_n 0, 1) := by decide +kernel
theorem dX12_takeItem_144 : decode cX12_takeItem 144 = .ok (.getfield 159, 3) := by decide +kernel
theorem dX12_takeItem_147 : decode cX12_takeItem 147 = .ok (.iconst (-1), 1) := by decide +kernel
theorem dX12_takeItem_148 : decode cX12_takeItem 148 = .ok (.if_icmp .ne 27, 3) := by decide +kernel
theorem dX12_takeItem_151 : decode cX12_takeItem 151 = .ok (.aload_n 0, 1) := by decide +kernel
theorem dX12_takeItem_152 : decode cX12_takeItem 152 = .ok (.getfield 41, 3) := by decide +kernel
theorem dX12_takeItem_155 : decode cX12_takeItem 155 = .ok (.iconst 3, 1) := by decide +kernel
theorem dX12_takeItem_156 : decode cX12_takeItem 156 = .ok (.aload_n 0, 1) := by decide +kernel
theorem dX12_takeItem_157 : decode cX12_takeItem 157 = .ok (.getfield 178, 3) := by decide +kernel
theorem dX12_takeItem_160 : decode cX12_takeItem 160 = .ok (.imul, 1) := by decide +kernel
theorem dX12_takeItem_161 : decode cX12_takeItem 161 = .ok (.iload 5, 2) := by decide +kernel
theorem dX12_takeItem_163 : decode cX12_takeItem 163 = .ok (.iadd, 1) := by decide +kernel
theorem dX12_takeItem_164 : decode cX12_takeItem 164 = .ok (.aload_n 0, 1) := by decide +kernel
theorem dX12_takeItem_165 : decode cX12_takeItem 165 = .ok (.invokevirtual 181, 3) := by decide +kernel
theorem dX12_takeItem_168 : decode cX12_takeItem 168 = .ok (.iastore, 1) := by decide +kernel
theorem dX12_takeItem_169 : decode cX12_takeItem 169 = .ok (.iinc 5 1, 3) := by decide +kernel
theorem dX12_takeItem_172 : decode cX12_takeItem 172 = .ok (.goto (-45), 3) := by decide +kernel
theorem dX12_takeItem_175 : decode cX12_takeItem 175 = .ok (.aload_n 0, 1) := by decide +kernel
theorem dX12_takeItem_176 : decode cX12_takeItem 176 = .ok (.getfield 159, 3) := by decide +kernel
theorem dX12_takeItem_179 : decode cX12_takeItem 179 = .ok (.iconst (-1), 1) := by decide +kernel
theorem dX12_takeItem_180 : decode cX12_takeItem 180 = .ok (.if_icmp .ne 32, 3) := by decide +kernel
theorem dX12_takeItem_183 : decode cX12_takeItem 183 = .ok (.aload_n 0, 1) := by decide +kernel
theorem dX12_takeItem_184 : decode cX12_takeItem 184 = .ok (.invokevirtual 155, 3) := by decide +kernel
theorem dX12_takeItem_187 : decode cX12_takeItem 187 = .ok (.ifCond .ne 17, 3) := by decide +kernel
theorem dX12_takeItem_190 : decode cX12_takeItem 190 = .ok (.aload_n 0, 1) := by decide +kernel
theorem dX12_takeItem_191 : decode cX12_takeItem 191 = .ok (.getfield 17, 3) := by decide +kernel
theorem dX12_takeItem_194 : decode cX12_takeItem 194 = .ok (.aload_n 0, 1) := by decide +kernel
theorem dX12_takeItem_195 : decode cX12_takeItem 195 = .ok (.getfield 142, 3) := by decide +kernel
theorem dX12_takeItem_198 : decode cX12_takeItem 198 = .ok (.iaload, 1) := by decide +kernel
theorem dX12_takeItem_199 : decode cX12_takeItem 199 = .ok (.bipush 59, 2) := by decide +kernel
theorem dX12_takeItem_201 : decode cX12_takeItem 201 = .ok (.if_icmp .eq 11, 3) := by decide +kernel
theorem dX12_takeItem_204 : decode cX12_takeItem 204 = .ok (.aload_n 0, 1) := by decide +kernel
theorem dX12_takeItem_205 : decode cX12_takeItem 205 = .ok (.aload_n 0, 1) := by decide +kernel
theorem dX12_takeItem_206 : decode cX12_takeItem 206 = .ok (.getfield 142, 3) := by decide +kernel
theorem dX12_takeItem_209 : decode cX12_takeItem 209 = .ok (.putfield 159, 3) := by decide +kernel
theorem dX12_takeItem_212 : decode cX12_takeItem 212 = .ok (.aload_n 0, 1) := by decide +kernel
theorem dX12_takeItem_213 : decode cX12_takeItem 213 = .ok (.dup, 1) := by decide +kernel
theorem dX12_takeItem_214 : decode cX12_takeItem 214 = .ok (.getfield 142, 3) := by decide +kernel
theorem dX12_takeItem_217 : decode cX12_takeItem 217 = .ok (.iconst 1, 1) := by decide +kernel
theorem dX12_takeItem_218 : decode cX12_takeItem 218 = .ok (.iadd, 1) := by decide +kernel
theorem dX12_takeItem_219 : decode cX12_takeItem 219 = .ok (.putfield 142, 3) := by decide +kernel
theorem dX12_takeItem_222 : decode cX12_takeItem 222 = .ok (.aload_n 0, 1) := by decide +kernel
theorem dX12_takeItem_223 : decode cX12_takeItem 223 = .ok (.dup, 1) := by decide +kernel
theorem dX12_takeItem_224 : decode cX12_takeItem 224 = .ok (.getfield 178, 3) := by decide +kernel
theorem dX12_takeItem_227 : decode cX12_takeItem 227 = .ok (.iconst 1, 1) := by decide +kernel
theorem dX12_takeItem_228 : decode cX12_takeItem 228 = .ok (.iadd, 1) := by decide +kernel
theorem dX12_takeItem_229 : decode cX12_takeItem 229 = .ok (.putfield 178, 3) := by decide +kernel
theorem dX12_takeItem_232 : decode cX12_takeItem 232 = .ok (.return_, 1) := by decide +kernel
theorem dX12_tellItem_0 : decode cX12_tellItem 0 = .ok (.aload_n 0, 1) := by decide +kernel
theorem dX12_tellItem_1 : decode cX12_tellItem 1 = .ok (.getfield 41, 3) := by decide +kernel
theorem dX12_tellItem_4 : decode cX12_tellItem 4 = .ok (.iconst 3, 1) := by decide +kernel
theorem dX12_tellItem_5 : decode cX12_tellItem 5 = .ok (.iload_n 1, 1) := by decide +kernel
theorem dX12_tellItem_6 : decode cX12_tellItem 6 = .ok (.imul, 1) := by decide +kernel
theorem dX12_tellItem_7 : decode cX12_tellItem 7 = .ok (.iaload, 1) := by decide +kernel
theorem dX12_tellItem_8 : decode cX12_tellItem 8 = .ok (.istore_n 2, 1) := by decide +kernel
theorem dX12_tellItem_9 : decode cX12_tellItem 9 = .ok (.aload_n 0, 1) := by decide +kernel
theorem dX12_tellItem_10 : decode cX12_tellItem 10 = .ok (.getfield 41, 3) := by decide +kernel
theorem dX12_tellItem_13 : decode cX12_tellItem 13 = .ok (.iconst 3, 1) := by decide +kernel
theorem dX12_tellItem_14 : decode cX12_tellItem 14 = .ok (.iload_n 1, 1) := by decide +kernel
theorem dX12_tellItem_15 : decode cX12_tellItem 15 = .ok (.imul, 1) := by decide +kernel
theorem dX12_tellItem_16 : decode cX12_tellItem 16 = .ok (.iconst 1, 1) := by decide +kernel
theorem dX12_tellItem_17 : decode cX12_tellItem 17 = .ok (.iadd, 1) := by decide +kernel
theorem dX12_tellItem_18 : decode cX12_tellItem 18 = .ok (.iaload, 1) := by decide +kernel
theorem dX12_tellItem_19 : decode cX12_tellItem 19 = .ok (.istore_n 3, 1) := by decide +kernel
theorem dX12_tellItem_20 : decode cX12_tellItem 20 = .ok (.aload_n 0, 1) := by decide +kernel
theorem dX12_tellItem_21 : decode cX12_tellItem 21 = .ok (.getfield 41, 3) := by decide +kernel
theorem dX12_tellItem_24 : decode cX12_tellItem 24 = .ok (.iconst 3, 1) := by decide +kernel
theorem dX12_tellItem_25 : decode cX12_tellItem 25 = .ok (.iload_n 1, 1) := by decide +kernel
theorem dX12_tellItem_26 : decode cX12_tellItem 26 = .ok (.imul, 1) := by decide +kernel
theorem dX12_tellItem_27 : decode cX12_tellItem 27 = .ok (.iconst 2, 1) := by decide +kernel
theorem dX12_tellItem_28 : decode cX12_tellItem 28 = .ok (.iadd, 1) := by decide +kernel
theorem dX12_tellItem_29 : decode cX12_tellItem 29 = .ok (.iaload, 1) := by decide +kernel
theorem dX12_tellItem_30 : decode cX12_tellItem 30 = .ok (.istore 4, 2) := by decide +kernel
theorem dX12_tellItem_32 : decode cX12_tellItem 32 = .ok (.aload_n 0, 1) := by decide +kernel
theorem dX12_tellItem_33 : decode cX12_tellItem 33 = .ok (.getfield 38, 3) := by decide +kernel
theorem dX12_tellItem_36 : decode cX12_tellItem 36 = .ok (.iload_n 1, 1) := by decide +kernel
theorem dX12_tellItem_37 : decode cX12_tellItem 37 = .ok (.iaload, 1) := by decide +kernel
theorem dX12_tellItem_38 : decode cX12_tellItem 38 = .ok (.tableswitch 78 0 3 #[30, 43, 56, 68], 30) := by decide +kernel
theorem dX12_tellItem_68 : decode cX12_tellItem 68 = .ok (.aload_n 0, 1) := by decide +kernel
theorem dX12_tellItem_69 : decode cX12_tellItem 69 = .ok (.sipush 330, 3) := by decide +kernel
theorem dX12_tellItem_72 : decode cX12_tellItem 72 = .ok (.iload_n 2, 1) := by decide +kernel
theorem dX12_tellItem_73 : decode cX12_tellItem 73 = .ok (.iload_n 3, 1) := by decide +kernel
theorem dX12_tellItem_74 : decode cX12_tellItem 74 = .ok (.iload 4, 2) := by decide +kernel
theorem dX12_tellItem_76 : decode cX12_tellItem 76 = .ok (.iconst 0, 1) := by decide +kernel
theorem dX12_tellItem_77 : decode cX12_tellItem 77 = .ok (.invokevirtual 79, 3) := by decide +kernel
theorem dX12_tellItem_80 : decode cX12_tellItem 80 = .ok (.ireturn, 1) := by decide +kernel
theorem dX12_tellItem_81 : decode cX12_tellItem 81 = .ok (.aload_n 0, 1) := by decide +kernel
theorem dX12_tellItem_82 : decode cX12_tellItem 82 = .ok (.sipush 330, 3) := by decide +kernel
theorem dX12_tellItem_85 : decode cX12_tellItem 85 = .ok (.iload_n 2, 1) := by decide +kernel
theorem dX12_tellItem_86 : decode cX12_tellItem 86 = .ok (.iload_n 3, 1) := by decide +kernel
theorem dX12_tellItem_87 : decode cX12_tellItem 87 = .ok (.iload 4, 2) := by decide +kernel
theorem dX12_tellItem_89 : decode cX12_tellItem 89 = .ok (.iconst 1, 1) := by decide +kernel
theorem dX12_tellItem_90 : decode cX12_tellItem 90 = .ok (.invokevirtual 79, 3) := by decide +kernel
theorem dX12_tellItem_93 : decode cX12_tellItem 93 = .ok (.ireturn, 1) := by decide +kernel
theorem dX12_tellItem_94 : decode cX12_tellItem 94 = .ok (.aload_n 0, 1) := by decide +kernel
theorem dX12_tellItem_95 : decode cX12_tellItem 95 = .ok (.sipush 330, 3) := by decide +kernel
theorem dX12_tellItem_98 : decode cX12_tellItem 98 = .ok (.iload_n 2, 1) := by decide +kernel
theorem dX12_tellItem_99 : decode cX12_tellItem 99 = .ok (.iload_n 3, 1) := by decide +kernel
theorem dX12_tellItem_100 : decode cX12_tellItem 100 = .ok (.iload 4, 2) := by decide +kernel
theorem dX12_tellItem_102 : decode cX12_tellItem 102 = .ok (.invokevirtual 83, 3) := by decide +kernel
theorem dX12_tellItem_105 : decode cX12_tellItem 105 = .ok (.ireturn, 1) := by decide +kernel
theorem dX12_tellItem_106 : decode cX12_tellItem 106 = .ok (.aload_n 0, 1) := by decide +kernel
theorem dX12_tellItem_107 : decode cX12_tellItem 107 = .ok (.sipush 330, 3) := by decide +kernel
theorem dX12_tellItem_110 : decode cX12_tellItem 110 = .ok (.iload_n 2, 1) := by decide +kernel
theorem dX12_tellItem_111 : decode cX12_tellItem 111 = .ok (.iload_n 3, 1) := by decide +kernel
theorem dX12_tellItem_112 : decode cX12_tellItem 112 = .ok (.invokevirtual 91, 3) := by decide +kernel
theorem dX12_tellItem_115 : decode cX12_tellItem 115 = .ok (.ireturn, 1) := by decide +kernel
theorem dX12_tellItem_116 : decode cX12_tellItem 116 = .ok (.aload_n 0, 1) := by decide +kernel
theorem dX12_tellItem_117 : decode cX12_tellItem 117 = .ok (.sipush 330, 3) := by decide +kernel
theorem dX12_tellItem_120 : decode cX12_tellItem 120 = .ok (.iload_n 2, 1) := by decide +kernel
theorem dX12_tellItem_121 : decode cX12_tellItem 121 = .ok (.iload_n 3, 1) := by decide +kernel
theorem dX12_tellItem_122 : decode cX12_tellItem 122 = .ok (.invokevirtual 87, 3) := by decide +kernel
theorem dX12_tellItem_125 : decode cX12_tellItem 125 = .ok (.ireturn, 1) := by decide +kernel
theorem dX12_read_0 : decode cX12_read 0 = .ok (.aload_n 0, 1) := by decide +kernel
theorem dX12_read_1 : decode cX12_read 1 = .ok (.iconst 0, 1) := by decide +kernel
theorem dX12_read_2 : decode cX12_read 2 = .ok (.putfield 142, 3) := by decide +kernel
theorem dX12_read_5 : decode cX12_read 5 = .ok (.aload_n 0, 1) := by decide +kernel
theorem dX12_read_6 : decode cX12_read 6 = .ok (.iconst 0, 1) := by decide +kernel
theorem dX12_read_7 : decode cX12_read 7 = .ok (.putfield 178, 3) := by decide +kernel
theorem dX12_read_10 : decode cX12_read 10 = .ok (.aload_n 0, 1) := by decide +kernel
theorem dX12_read_11 : decode cX12_read 11 = .ok (.iconst (-1), 1) := by decide +kernel
theorem dX12_read_12 : decode cX12_read 12 = .ok (.putfield 159, 3) := by decide +kernel
theorem dX12_read_15 : decode cX12_read 15 = .ok (.aload_n 0, 1) := by decide +kernel
theorem dX12_read_16 : decode cX12_read 16 = .ok (.getfield 159, 3) := by decide +kernel
theorem dX12_read_19 : decode cX12_read 19 = .ok (.iconst (-1), 1) := by decide +kernel
theorem dX12_read_20 : decode cX12_read 20 = .ok (.if_icmp .ne 17, 3) := by decide +kernel
theorem dX12_read_23 : decode cX12_read 23 = .ok (.aload_n 0, 1) := by decide +kernel
theorem dX12_read_24 : decode cX12_read 24 = .ok (.invokevirtual 155, 3) := by decide +kernel
theorem dX12_read_27 : decode cX12_read 27 = .ok (.ifCond .ne 10, 3) := by decide +kernel
theorem dX12_read_30 : decode cX12_read 30 = .ok (.aload_n 0, 1) := by decide +kernel
theorem dX12_read_31 : decode cX12_read 31 = .ok (.invokevirtual 184, 3) := by decide +kernel
theorem dX12_read_34 : decode cX12_read 34 = .ok (.goto (-19), 3) := by decide +kernel
theorem dX12_read_37 : decode cX12_read 37 = .ok (.aload_n 0, 1) := by decide +kernel
theorem dX12_read_38 : decode cX12_read 38 = .ok (.getfield 159, 3) := by decide +kernel
theorem dX12_read_41 : decode cX12_read 41 = .ok (.iconst (-1), 1) := by decide +kernel
theorem dX12_read_42 : decode cX12_read 42 = .ok (.if_icmp .eq 11, 3) := by decide +kernel
theorem dX12_read_45 : decode cX12_read 45 = .ok (.bipush (-10), 2) := by decide +kernel
theorem dX12_read_47 : decode cX12_read 47 = .ok (.aload_n 0, 1) := by decide +kernel
theorem dX12_read_48 : decode cX12_read 48 = .ok (.getfield 159, 3) := by decide +kernel
theorem dX12_read_51 : decode cX12_read 51 = .ok (.isub, 1) := by decide +kernel
theorem dX12_read_52 : decode cX12_read 52 = .ok (.ireturn, 1) := by decide +kernel
theorem dX12_read_53 : decode cX12_read 53 = .ok (.iconst 0, 1) := by decide +kernel
theorem dX12_read_54 : decode cX12_read 54 = .ok (.istore_n 1, 1) := by decide +kernel
theorem dX12_read_55 : decode cX12_read 55 = .ok (.iload_n 1, 1) := by decide +kernel
theorem dX12_read_56 : decode cX12_read 56 = .ok (.bipush 110, 2) := by decide +kernel
theorem dX12_read_58 : decode cX12_read 58 = .ok (.if_icmp .ge 20, 3) := by decide +kernel
theorem dX12_read_61 : decode cX12_read 61 = .ok (.aload_n 0, 1) := by decide +kernel
theorem dX12_read_62 : decode cX12_read 62 = .ok (.getfield 7, 3) := by decide +kernel
theorem dX12_read_65 : decode cX12_read 65 = .ok (.sipush 330, 3) := by decide +kernel
theorem dX12_read_68 : decode cX12_read 68 = .ok (.iload_n 1, 1) := by decide +kernel
theorem dX12_read_69 : decode cX12_read 69 = .ok (.iadd, 1) := by decide +kernel
theorem dX12_read_70 : decode cX12_read 70 = .ok (.iconst 0, 1) := by decide +kernel
theorem dX12_read_71 : decode cX12_read 71 = .ok (.iastore, 1) := by decide +kernel
theorem dX12_read_72 : decode cX12_read 72 = .ok (.iinc 1 1, 3) := by decide +kernel
theorem dX12_read_75 : decode cX12_read 75 = .ok (.goto (-20), 3) := by decide +kernel
theorem dX12_read_78 : decode cX12_read 78 = .ok (.iconst 0, 1) := by decide +kernel
theorem dX12_read_79 : decode cX12_read 79 = .ok (.istore_n 1, 1) := by decide +kernel
theorem dX12_read_80 : decode cX12_read 80 = .ok (.iload_n 1, 1) := by decide +kernel
theorem dX12_read_81 : decode cX12_read 81 = .ok (.aload_n 0, 1) := by decide +kernel
theorem dX12_read_82 : decode cX12_read 82 = .ok (.getfield 178, 3) := by decide +kernel
theorem dX12_read_85 : decode cX12_read 85 = .ok (.if_icmp .ge 23, 3) := by decide +kernel
theorem dX12_read_88 : decode cX12_read 88 = .ok (.aload_n 0, 1) := by decide +kernel
theorem dX12_read_89 : decode cX12_read 89 = .ok (.iload_n 1, 1) := by decide +kernel
theorem dX12_read_90 : decode cX12_read 90 = .ok (.invokevirtual 187, 3) := by decide +kernel
theorem dX12_read_93 : decode cX12_read 93 = .ok (.ifCond .ge 9, 3) := by decide +kernel
theorem dX12_read_96 : decode cX12_read 96 = .ok (.sipush (-1000), 3) := by decide +kernel
theorem dX12_read_99 : decode cX12_read 99 = .ok (.iload_n 1, 1) := by decide +kernel
theorem dX12_read_100 : decode cX12_read 100 = .ok (.isub, 1) := by decide +kernel
theorem dX12_read_101 : decode cX12_read 101 = .ok (.ireturn, 1) := by decide +kernel
theorem dX12_read_102 : decode cX12_read 102 = .ok (.iinc 1 1, 3) := by decide +kernel
theorem dX12_read_105 : decode cX12_read 105 = .ok (.goto (-25), 3) := by decide +kernel
theorem dX12_read_108 : decode cX12_read 108 = .ok (.aload_n 0, 1) := by decide +kernel
theorem dX12_read_109 : decode cX12_read 109 = .ok (.sipush 330, 3) := by decide +kernel
theorem dX12_read_112 : decode cX12_read 112 = .ok (.iconst 0, 1) := by decide +kernel
theorem dX12_read_113 : decode cX12_read 113 = .ok (.invokevirtual 190, 3) := by decide +kernel
theorem dX12_read_116 : decode cX12_read 116 = .ok (.aload_n 0, 1) := by decide +kernel
theorem dX12_read_117 : decode cX12_read 117 = .ok (.getfield 178, 3) := by decide +kernel
theorem dX12_read_120 : decode cX12_read 120 = .ok (.ireturn, 1) := by decide +kernel
theorem dX12_isPlace_0 : decode cX12_isPlace 0 = .ok (.iload_n 1, 1) := by decide +kernel
theorem dX12_isPlace_1 : decode cX12_isPlace 1 = .ok (.i2l, 1) := by decide +kernel
theorem dX12_isPlace_2 : decode cX12_isPlace 2 = .ok (.lconst 0, 1) := by decide +kernel
theorem dX12_isPlace_3 : decode cX12_isPlace 3 = .ok (.iconst 4, 1) := by decide +kernel
theorem dX12_isPlace_4 : decode cX12_isPlace 4 = .ok (.aload_n 0, 1) := by decide +kernel
theorem dX12_isPlace_5 : decode cX12_isPlace 5 = .ok (.getfield 7, 3) := by decide +kernel
theorem dX12_isPlace_8 : decode cX12_isPlace 8 = .ok (.iconst 0, 1) := by decide +kernel
theorem dX12_isPlace_9 : decode cX12_isPlace 9 = .ok (.iaload, 1) := by decide +kernel
theorem dX12_isPlace_10 : decode cX12_isPlace 10 = .ok (.iadd, 1) := by decide +kernel
theorem dX12_isPlace_11 : decode cX12_isPlace 11 = .ok (.i2l, 1) := by decide +kernel
theorem dX12_isPlace_12 : decode cX12_isPlace 12 = .ok (.invokestatic 62, 3) := by decide +kernel
theorem dX12_isPlace_15 : decode cX12_isPlace 15 = .ok (.ireturn, 1) := by decide +kernel
theorem dX12_step_0 : decode cX12_step 0 = .ok (.aload_n 0, 1) := by decide +kernel
theorem dX12_step_1 : decode cX12_step 1 = .ok (.iload_n 1, 1) := by decide +kernel
theorem dX12_step_2 : decode cX12_step 2 = .ok (.invokevirtual 131, 3) := by decide +kernel
theorem dX12_step_5 : decode cX12_step 5 = .ok (.ifCond .eq 11, 3) := by decide +kernel
theorem dX12_step_8 : decode cX12_step 8 = .ok (.aload_n 0, 1) := by decide +kernel
theorem dX12_step_9 : decode cX12_step 9 = .ok (.iload_n 2, 1) := by decide +kernel
theorem dX12_step_10 : decode cX12_step 10 = .ok (.invokevirtual 193, 3) := by decide +kernel
theorem dX12_step_13 : decode cX12_step 13 = .ok (.ifCond .ne 8, 3) := by decide +kernel
theorem dX12_step_16 : decode cX12_step 16 = .ok (.aload_n 0, 1) := by decide +kernel
theorem dX12_step_17 : decode cX12_step 17 = .ok (.invokevirtual 121, 3) := by decide +kernel
theorem dX12_step_20 : decode cX12_step 20 = .ok (.ireturn, 1) := by decide +kernel
theorem dX12_step_21 : decode cX12_step 21 = .ok (.aload_n 0, 1) := by decide +kernel
theorem dX12_step_22 : decode cX12_step 22 = .ok (.invokevirtual 125, 3) := by decide +kernel
theorem dX12_step_25 : decode cX12_step 25 = .ok (.aload_n 0, 1) := by decide +kernel
theorem dX12_step_26 : decode cX12_step 26 = .ok (.invokevirtual 128, 3) := by decide +kernel
theorem dX12_step_29 : decode cX12_step 29 = .ok (.aload_n 0, 1) := by decide +kernel
theorem dX12_step_30 : decode cX12_step 30 = .ok (.iload_n 1, 1) := by decide +kernel
theorem dX12_step_31 : decode cX12_step 31 = .ok (.iload_n 2, 1) := by decide +kernel
theorem dX12_step_32 : decode cX12_step 32 = .ok (.invokevirtual 196, 3) := by decide +kernel
theorem dX12_step_35 : decode cX12_step 35 = .ok (.ifCond .ne 10, 3) := by decide +kernel
theorem dX12_step_38 : decode cX12_step 38 = .ok (.aload_n 0, 1) := by decide +kernel
theorem dX12_step_39 : decode cX12_step 39 = .ok (.bipush (-3), 2) := by decide +kernel
theorem dX12_step_41 : decode cX12_step 41 = .ok (.invokevirtual 56, 3) := by decide +kernel
theorem dX12_step_44 : decode cX12_step 44 = .ok (.ireturn, 1) := by decide +kernel
theorem dX12_step_45 : decode cX12_step 45 = .ok (.aload_n 0, 1) := by decide +kernel
theorem dX12_step_46 : decode cX12_step 46 = .ok (.getfield 7, 3) := by decide +kernel
theorem dX12_step_49 : decode cX12_step 49 = .ok (.bipush 36, 2) := by decide +kernel
theorem dX12_step_51 : decode cX12_step 51 = .ok (.iaload, 1) := by decide +kernel
theorem dX12_step_52 : decode cX12_step 52 = .ok (.bipush 16, 2) := by decide +kernel
theorem dX12_step_54 : decode cX12_step 54 = .ok (.if_icmp .ne 48, 3) := by decide +kernel
theorem dX12_step_57 : decode cX12_step 57 = .ok (.iconst 0, 1) := by decide +kernel
theorem dX12_step_58 : decode cX12_step 58 = .ok (.istore_n 3, 1) := by decide +kernel
theorem dX12_step_59 : decode cX12_step 59 = .ok (.iload_n 3, 1) := by decide +kernel
theorem dX12_step_60 : decode cX12_step 60 = .ok (.bipush 60, 2) := by decide +kernel
theorem dX12_step_62 : decode cX12_step 62 = .ok (.if_icmp .ge 29, 3) := by decide +kernel
theorem dX12_step_65 : decode cX12_step 65 = .ok (.aload_n 0, 1) := by decide +kernel
theorem dX12_step_66 : decode cX12_step 66 = .ok (.getfield 7, 3) := by decide +kernel
theorem dX12_step_69 : decode cX12_step 69 = .ok (.bipush 37, 2) := by decide +kernel
theorem dX12_step_71 : decode cX12_step 71 = .ok (.iload_n 3, 1) := by decide +kernel
theorem dX12_step_72 : decode cX12_step 72 = .ok (.iadd, 1) := by decide +kernel
theorem dX12_step_73 : decode cX12_step 73 = .ok (.aload_n 0, 1) := by decide +kernel
theorem dX12_step_74 : decode cX12_step 74 = .ok (.getfield 7, 3) := by decide +kernel
theorem dX12_step_77 : decode cX12_step 77 = .ok (.bipush 37, 2) := by decide +kernel
theorem dX12_step_79 : decode cX12_step 79 = .ok (.iload_n 3, 1) := by decide +kernel
theorem dX12_step_80 : decode cX12_step 80 = .ok (.iadd, 1) := by decide +kernel
theorem dX12_step_81 : decode cX12_step 81 = .ok (.iconst 4, 1) := by decide +kernel
theorem dX12_step_82 : decode cX12_step 82 = .ok (.iadd, 1) := by decide +kernel
theorem dX12_step_83 : decode cX12_step 83 = .ok (.iaload, 1) := by decide +kernel
theorem dX12_step_84 : decode cX12_step 84 = .ok (.iastore, 1) := by decide +kernel
theorem dX12_step_85 : decode cX12_step 85 = .ok (.iinc 3 1, 3) := by decide +kernel
theorem dX12_step_88 : decode cX12_step 88 = .ok (.goto (-29), 3) := by decide +kernel
theorem dX12_step_91 : decode cX12_step 91 = .ok (.aload_n 0, 1) := by decide +kernel
theorem dX12_step_92 : decode cX12_step 92 = .ok (.getfield 7, 3) := by decide +kernel
theorem dX12_step_95 : decode cX12_step 95 = .ok (.bipush 36, 2) := by decide +kernel
theorem dX12_step_97 : decode cX12_step 97 = .ok (.dup2, 1) := by decide +kernel
theorem dX12_step_98 : decode cX12_step 98 = .ok (.iaload, 1) := by decide +kernel
theorem dX12_step_99 : decode cX12_step 99 = .ok (.iconst 1, 1) := by decide +kernel
theorem dX12_step_100 : decode cX12_step 100 = .ok (.isub, 1) := by decide +kernel
theorem dX12_step_101 : decode cX12_step 101 = .ok (.iastore, 1) := by decide +kernel
theorem dX12_step_102 : decode cX12_step 102 = .ok (.bipush 37, 2) := by decide +kernel
theorem dX12_step_104 : decode cX12_step 104 = .ok (.iconst 4, 1) := by decide +kernel
theorem dX12_step_105 : decode cX12_step 105 = .ok (.aload_n 0, 1) := by decide +kernel
theorem dX12_step_106 : decode cX12_step 106 = .ok (.getfield 7, 3) := by decide +kernel
theorem dX12_step_109 : decode cX12_step 109 = .ok (.bipush 36, 2) := by decide +kernel
theorem dX12_step_111 : decode cX12_step 111 = .ok (.iaload, 1) := by decide +kernel
theorem dX12_step_112 : decode cX12_step 112 = .ok (.imul, 1) := by decide +kernel
theorem dX12_step_113 : decode cX12_step 113 = .ok (.iadd, 1) := by decide +kernel
theorem dX12_step_114 : decode cX12_step 114 = .ok (.istore_n 3, 1) := by decide +kernel
theorem dX12_step_115 : decode cX12_step 115 = .ok (.aload_n 0, 1) := by decide +kernel
theorem dX12_step_116 : decode cX12_step 116 = .ok (.getfield 7, 3) := by decide +kernel
theorem dX12_step_119 : decode cX12_step 119 = .ok (.iload_n 3, 1) := by decide +kernel
theorem dX12_step_120 : decode cX12_step 120 = .ok (.aload_n 0, 1) := by decide +kernel
theorem dX12_step_121 : decode cX12_step 121 = .ok (.getfield 7, 3) := by decide +kernel
theorem dX12_step_124 : decode cX12_step 124 = .ok (.bipush 21, 2) := by decide +kernel
theorem dX12_step_126 : decode cX12_step 126 = .ok (.iaload, 1) := by decide +kernel
theorem dX12_step_127 : decode cX12_step 127 = .ok (.iastore, 1) := by decide +kernel
theorem dX12_step_128 : decode cX12_step 128 = .ok (.iconst 0, 1) := by decide +kernel
theorem dX12_step_129 : decode cX12_step 129 = .ok (.istore 4, 2) := by decide +kernel
theorem dX12_step_131 : decode cX12_step 131 = .ok (.iload 4, 2) := by decide +kernel
theorem dX12_step_133 : decode cX12_step 133 = .ok (.iconst 3, 1) := by decide +kernel
theorem dX12_step_134 : decode cX12_step 134 = .ok (.if_icmp .ge 30, 3) := by decide +kernel
theorem dX12_step_137 : decode cX12_step 137 = .ok (.aload_n 0, 1) := by decide +kernel
theorem dX12_step_138 : decode cX12_step 138 = .ok (.getfield 7, 3) := by decide +kernel
theorem dX12_step_141 : decode cX12_step 141 = .ok (.iload_n 3, 1) := by decide +kernel
theorem dX12_step_142 : decode cX12_step 142 = .ok (.iconst 1, 1) := by decide +kernel
theorem dX12_step_143 : decode cX12_step 143 = .ok (.iadd, 1) := by decide +kernel
theorem dX12_step_144 : decode cX12_step 144 = .ok (.iload 4, 2) := by decide +kernel
theorem dX12_step_146 : decode cX12_step 146 = .ok (.iadd, 1) := by decide +kernel
theorem dX12_step_147 : decode cX12_step 147 = .ok (.aload_n 0, 1) := by decide +kernel
theorem dX12_step_148 : decode cX12_step 148 = .ok (.getfield 7, 3) := by decide +kernel
theorem dX12_step_151 : decode cX12_step 151 = .ok (.bipush 33, 2) := by decide +kernel
theorem dX12_step_153 : decode cX12_step 153 = .ok (.iload 4, 2) := by decide +kernel
theorem dX12_step_155 : decode cX12_step 155 = .ok (.iadd, 1) := by decide +kernel
theorem dX12_step_156 : decode cX12_step 156 = .ok (.iaload, 1) := by decide +kernel
theorem dX12_step_157 : decode cX12_step 157 = .ok (.iastore, 1) := by decide +kernel
theorem dX12_step_158 : decode cX12_step 158 = .ok (.iinc 4 1, 3) := by decide +kernel
theorem dX12_step_161 : decode cX12_step 161 = .ok (.goto (-30), 3) := by decide +kernel
theorem dX12_step_164 : decode cX12_step 164 = .ok (.aload_n 0, 1) := by decide +kernel
theorem dX12_step_165 : decode cX12_step 165 = .ok (.getfield 7, 3) := by decide +kernel
theorem dX12_step_168 : decode cX12_step 168 = .ok (.bipush 36, 2) := by decide +kernel
theorem dX12_step_170 : decode cX12_step 170 = .ok (.dup2, 1) := by decide +kernel
theorem dX12_step_171 : decode cX12_step 171 = .ok (.iaload, 1) := by decide +kernel
theorem dX12_step_172 : decode cX12_step 172 = .ok (.iconst 1, 1) := by decide +kernel
theorem dX12_step_173 : decode cX12_step 173 = .ok (.iadd, 1) := by decide +kernel
theorem dX12_step_174 : decode cX12_step 174 = .ok (.iastore, 1) := by decide +kernel
theorem dX12_step_175 : decode cX12_step 175 = .ok (.aload_n 0, 1) := by decide +kernel
theorem dX12_step_176 : decode cX12_step 176 = .ok (.getfield 35, 3) := by decide +kernel
theorem dX12_step_179 : decode cX12_step 179 = .ok (.iload_n 1, 1) := by decide +kernel
theorem dX12_step_180 : decode cX12_step 180 = .ok (.iload_n 2, 1) := by decide +kernel
theorem dX12_step_181 : decode cX12_step 181 = .ok (.iastore, 1) := by decide +kernel
theorem dX12_step_182 : decode cX12_step 182 = .ok (.aload_n 0, 1) := by decide +kernel
theorem dX12_step_183 : decode cX12_step 183 = .ok (.invokevirtual 199, 3) := by decide +kernel
theorem dX12_step_186 : decode cX12_step 186 = .ok (.aload_n 0, 1) := by decide +kernel
theorem dX12_step_187 : decode cX12_step 187 = .ok (.getfield 7, 3) := by decide +kernel
theorem dX12_step_190 : decode cX12_step 190 = .ok (.bipush 33, 2) := by decide +kernel
theorem dX12_step_192 : decode cX12_step 192 = .ok (.iload_n 1, 1) := by decide +kernel
theorem dX12_step_193 : decode cX12_step 193 = .ok (.iadd, 1) := by decide +kernel
theorem dX12_step_194 : decode cX12_step 194 = .ok (.iload_n 2, 1) := by decide +kernel
theorem dX12_step_195 : decode cX12_step 195 = .ok (.iastore, 1) := by decide +kernel
theorem dX12_step_196 : decode cX12_step 196 = .ok (.aload_n 0, 1) := by decide +kernel
theorem dX12_step_197 : decode cX12_step 197 = .ok (.getfield 7, 3) := by decide +kernel
theorem dX12_step_200 : decode cX12_step 200 = .ok (.bipush 21, 2) := by decide +kernel
theorem dX12_step_202 : decode cX12_step 202 = .ok (.aload_n 0, 1) := by decide +kernel
theorem dX12_step_203 : decode cX12_step 203 = .ok (.getfield 108, 3) := by decide +kernel
theorem dX12_step_206 : decode cX12_step 206 = .ok (.iastore, 1) := by decide +kernel
theorem dX12_step_207 : decode cX12_step 207 = .ok (.aload_n 0, 1) := by decide +kernel
theorem dX12_step_208 : decode cX12_step 208 = .ok (.getfield 108, 3) := by decide +kernel
theorem dX12_step_211 : decode cX12_step 211 = .ok (.ireturn, 1) := by decide +kernel
theorem dX12_undo_0 : decode cX12_undo 0 = .ok (.aload_n 0, 1) := by decide +kernel
theorem dX12_undo_1 : decode cX12_undo 1 = .ok (.getfield 7, 3) := by decide +kernel
theorem dX12_undo_4 : decode cX12_undo 4 = .ok (.bipush 36, 2) := by decide +kernel
theorem dX12_undo_6 : decode cX12_undo 6 = .ok (.iaload, 1) := by decide +kernel
theorem dX12_undo_7 : decode cX12_undo 7 = .ok (.ifCond .ne 10, 3) := by decide +kernel
theorem dX12_undo_10 : decode cX12_undo 10 = .ok (.aload_n 0, 1) := by decide +kernel
theorem dX12_undo_11 : decode cX12_undo 11 = .ok (.bipush (-3), 2) := by decide +kernel
theorem dX12_undo_13 : decode cX12_undo 13 = .ok (.invokevirtual 56, 3) := by decide +kernel
theorem dX12_undo_16 : decode cX12_undo 16 = .ok (.ireturn, 1) := by decide +kernel
theorem dX12_undo_17 : decode cX12_undo 17 = .ok (.aload_n 0, 1) := by decide +kernel
theorem dX12_undo_18 : decode cX12_undo 18 = .ok (.getfield 7, 3) := by decide +kernel
theorem dX12_undo_21 : decode cX12_undo 21 = .ok (.bipush 36, 2) := by decide +kernel
theorem dX12_undo_23 : decode cX12_undo 23 = .ok (.dup2, 1) := by decide +kernel
theorem dX12_undo_24 : decode cX12_undo 24 = .ok (.iaload, 1) := by decide +kernel
theorem dX12_undo_25 : decode cX12_undo 25 = .ok (.iconst 1, 1) := by decide +kernel
theorem dX12_undo_26 : decode cX12_undo 26 = .ok (.isub, 1) := by decide +kernel
theorem dX12_undo_27 : decode cX12_undo 27 = .ok (.iastore, 1) := by decide +kernel
theorem dX12_undo_28 : decode cX12_undo 28 = .ok (.bipush 37, 2) := by decide +kernel
theorem dX12_undo_30 : decode cX12_undo 30 = .ok (.iconst 4, 1) := by decide +kernel
theorem dX12_undo_31 : decode cX12_undo 31 = .ok (.aload_n 0, 1) := by decide +kernel
theorem dX12_undo_32 : decode cX12_undo 32 = .ok (.getfield 7, 3) := by decide +kernel
theorem dX12_undo_35 : decode cX12_undo 35 = .ok (.bipush 36, 2) := by decide +kernel
theorem dX12_undo_37 : decode cX12_undo 37 = .ok (.iaload, 1) := by decide +kernel
theorem dX12_undo_38 : decode cX12_undo 38 = .ok (.imul, 1) := by decide +kernel
theorem dX12_undo_39 : decode cX12_undo 39 = .ok (.iadd, 1) := by decide +kernel
theorem dX12_undo_40 : decode cX12_undo 40 = .ok (.istore_n 1, 1) := by decide +kernel
theorem dX12_undo_41 : decode cX12_undo 41 = .ok (.aload_n 0, 1) := by decide +kernel
theorem dX12_undo_42 : decode cX12_undo 42 = .ok (.getfield 7, 3) := by decide +kernel
theorem dX12_undo_45 : decode cX12_undo 45 = .ok (.bipush 21, 2) := by decide +kernel
theorem dX12_undo_47 : decode cX12_undo 47 = .ok (.aload_n 0, 1) := by decide +kernel
theorem dX12_undo_48 : decode cX12_undo 48 = .ok (.getfield 7, 3) := by decide +kernel
theorem dX12_undo_51 : decode cX12_undo 51 = .ok (.iload_n 1, 1) := by decide +kernel
theorem dX12_undo_52 : decode cX12_undo 52 = .ok (.iaload, 1) := by decide +kernel
theorem dX12_undo_53 : decode cX12_undo 53 = .ok (.iastore, 1) := by decide +kernel
theorem dX12_undo_54 : decode cX12_undo 54 = .ok (.iconst 0, 1) := by decide +kernel
theorem dX12_undo_55 : decode cX12_undo 55 = .ok (.istore_n 2, 1) := by decide +kernel
theorem dX12_undo_56 : decode cX12_undo 56 = .ok (.iload_n 2, 1) := by decide +kernel
theorem dX12_undo_57 : decode cX12_undo 57 = .ok (.iconst 3, 1) := by decide +kernel
theorem dX12_undo_58 : decode cX12_undo 58 = .ok (.if_icmp .ge 28, 3) := by decide +kernel
theorem dX12_undo_61 : decode cX12_undo 61 = .ok (.aload_n 0, 1) := by decide +kernel
theorem dX12_undo_62 : decode cX12_undo 62 = .ok (.getfield 7, 3) := by decide +kernel
theorem dX12_undo_65 : decode cX12_undo 65 = .ok (.bipush 33, 2) := by decide +kernel
theorem dX12_undo_67 : decode cX12_undo 67 = .ok (.iload_n 2, 1) := by decide +kernel
theorem dX12_undo_68 : decode cX12_undo 68 = .ok (.iadd, 1) := by decide +kernel
theorem dX12_undo_69 : decode cX12_undo 69 = .ok (.aload_n 0, 1) := by decide +kernel
theorem dX12_undo_70 : decode cX12_undo 70 = .ok (.getfield 7, 3) := by decide +kernel
theorem dX12_undo_73 : decode cX12_undo 73 = .ok (.iload_n 1, 1) := by decide +kernel
theorem dX12_undo_74 : decode cX12_undo 74 = .ok (.iconst 1, 1) := by decide +kernel
theorem dX12_undo_75 : decode cX12_undo 75 = .ok (.iadd, 1) := by decide +kernel
theorem dX12_undo_76 : decode cX12_undo 76 = .ok (.iload_n 2, 1) := by decide +kernel
theorem dX12_undo_77 : decode cX12_undo 77 = .ok (.iadd, 1) := by decide +kernel
theorem dX12_undo_78 : decode cX12_undo 78 = .ok (.iaload, 1) := by decide +kernel
theorem dX12_undo_79 : decode cX12_undo 79 = .ok (.iastore, 1) := by decide +kernel
theorem dX12_undo_80 : decode cX12_undo 80 = .ok (.iinc 2 1, 3) := by decide +kernel
theorem dX12_undo_83 : decode cX12_undo 83 = .ok (.goto (-27), 3) := by decide +kernel
theorem dX12_undo_86 : decode cX12_undo 86 = .ok (.aload_n 0, 1) := by decide +kernel
theorem dX12_undo_87 : decode cX12_undo 87 = .ok (.getfield 7, 3) := by decide +kernel
theorem dX12_undo_90 : decode cX12_undo 90 = .ok (.bipush 21, 2) := by decide +kernel
theorem dX12_undo_92 : decode cX12_undo 92 = .ok (.iaload, 1) := by decide +kernel
theorem dX12_undo_93 : decode cX12_undo 93 = .ok (.ireturn, 1) := by decide +kernel
theorem dX12_goAll_0 : decode cX12_goAll 0 = .ok (.iconst 0, 1) := by decide +kernel
theorem dX12_goAll_1 : decode cX12_goAll 1 = .ok (.istore_n 1, 1) := by decide +kernel
theorem dX12_goAll_2 : decode cX12_goAll 2 = .ok (.iload_n 1, 1) := by decide +kernel
theorem dX12_goAll_3 : decode cX12_goAll 3 = .ok (.sipush 32000, 3) := by decide +kernel
theorem dX12_goAll_6 : decode cX12_goAll 6 = .ok (.if_icmp .ge 16, 3) := by decide +kernel
theorem dX12_goAll_9 : decode cX12_goAll 9 = .ok (.aload_n 0, 1) := by decide +kernel
theorem dX12_goAll_10 : decode cX12_goAll 10 = .ok (.getfield 44, 3) := by decide +kernel
theorem dX12_goAll_13 : decode cX12_goAll 13 = .ok (.iload_n 1, 1) := by decide +kernel
theorem dX12_goAll_14 : decode cX12_goAll 14 = .ok (.iconst (-1), 1) := by decide +kernel
theorem dX12_goAll_15 : decode cX12_goAll 15 = .ok (.iastore, 1) := by decide +kernel
theorem dX12_goAll_16 : decode cX12_goAll 16 = .ok (.iinc 1 1, 3) := by decide +kernel
theorem dX12_goAll_19 : decode cX12_goAll 19 = .ok (.goto (-17), 3) := by decide +kernel
theorem dX12_goAll_22 : decode cX12_goAll 22 = .ok (.aload_n 0, 1) := by decide +kernel
theorem dX12_goAll_23 : decode cX12_goAll 23 = .ok (.invokevirtual 128, 3) := by decide +kernel
theorem dX12_goAll_26 : decode cX12_goAll 26 = .ok (.aload_n 0, 1) := by decide +kernel
theorem dX12_goAll_27 : decode cX12_goAll 27 = .ok (.getfield 47, 3) := by decide +kernel
theorem dX12_goAll_30 : decode cX12_goAll 30 = .ok (.iconst 0, 1) := by decide +kernel
theorem dX12_goAll_31 : decode cX12_goAll 31 = .ok (.aload_n 0, 1) := by decide +kernel
theorem dX12_goAll_32 : decode cX12_goAll 32 = .ok (.invokevirtual 202, 3) := by decide +kernel
theorem dX12_goAll_35 : decode cX12_goAll 35 = .ok (.iastore, 1) := by decide +kernel
theorem dX12_goAll_36 : decode cX12_goAll 36 = .ok (.aload_n 0, 1) := by decide +kernel
theorem dX12_goAll_37 : decode cX12_goAll 37 = .ok (.getfield 44, 3) := by decide +kernel
theorem dX12_goAll_40 : decode cX12_goAll 40 = .ok (.aload_n 0, 1) := by decide +kernel
theorem dX12_goAll_41 : decode cX12_goAll 41 = .ok (.getfield 47, 3) := by decide +kernel
theorem dX12_goAll_44 : decode cX12_goAll 44 = .ok (.iconst 0, 1) := by decide +kernel
theorem dX12_goAll_45 : decode cX12_goAll 45 = .ok (.iaload, 1) := by decide +kernel
theorem dX12_goAll_46 : decode cX12_goAll 46 = .ok (.iconst 0, 1) := by decide +kernel
theorem dX12_goAll_47 : decode cX12_goAll 47 = .ok (.iastore, 1) := by decide +kernel
theorem dX12_goAll_48 : decode cX12_goAll 48 = .ok (.aload_n 0, 1) := by decide +kernel
theorem dX12_goAll_49 : decode cX12_goAll 49 = .ok (.iconst 1, 1) := by decide +kernel
theorem dX12_goAll_50 : decode cX12_goAll 50 = .ok (.putfield 205, 3) := by decide +kernel
theorem dX12_goAll_53 : decode cX12_goAll 53 = .ok (.iconst 0, 1) := by decide +kernel
theorem dX12_goAll_54 : decode cX12_goAll 54 = .ok (.istore_n 1, 1) := by decide +kernel
theorem dX12_goAll_55 : decode cX12_goAll 55 = .ok (.iload_n 1, 1) := by decide +kernel
theorem dX12_goAll_56 : decode cX12_goAll 56 = .ok (.aload_n 0, 1) := by decide +kernel
theorem dX12_goAll_57 : decode cX12_goAll 57 = .ok (.getfield 205, 3) := by decide +kernel
theorem dX12_goAll_60 : decode cX12_goAll 60 = .ok (.if_icmp .ge 125, 3) := by decide +kernel
theorem dX12_goAll_63 : decode cX12_goAll 63 = .ok (.aload_n 0, 1) := by decide +kernel
theorem dX12_goAll_64 : decode cX12_goAll 64 = .ok (.getfield 47, 3) := by decide +kernel
theorem dX12_goAll_67 : decode cX12_goAll 67 = .ok (.iload_n 1, 1) := by decide +kernel
theorem dX12_goAll_68 : decode cX12_goAll 68 = .ok (.iaload, 1) := by decide +kernel
theorem dX12_goAll_69 : decode cX12_goAll 69 = .ok (.istore_n 2, 1) := by decide +kernel
theorem dX12_goAll_70 : decode cX12_goAll 70 = .ok (.iconst 0, 1) := by decide +kernel
theorem dX12_goAll_71 : decode cX12_goAll 71 = .ok (.istore_n 3, 1) := by decide +kernel
theorem dX12_goAll_72 : decode cX12_goAll 72 = .ok (.iload_n 3, 1) := by decide +kernel
theorem dX12_goAll_73 : decode cX12_goAll 73 = .ok (.bipush 10, 2) := by decide +kernel
theorem dX12_goAll_75 : decode cX12_goAll 75 = .ok (.aload_n 0, 1) := by decide +kernel
theorem dX12_goAll_76 : decode cX12_goAll 76 = .ok (.getfield 7, 3) := by decide +kernel
theorem dX12_goAll_79 : decode cX12_goAll 79 = .ok (.bipush 29, 2) := by decide +kernel
theorem dX12_goAll_81 : decode cX12_goAll 81 = .ok (.iaload, 1) := by decide +kernel
theorem dX12_goAll_82 : decode cX12_goAll 82 = .ok (.imul, 1) := by decide +kernel
theorem dX12_goAll_83 : decode cX12_goAll 83 = .ok (.if_icmp .ge 96, 3) := by decide +kernel
theorem dX12_goAll_86 : decode cX12_goAll 86 = .ok (.aload_n 0, 1) := by decide +kernel
theorem dX12_goAll_87 : decode cX12_goAll 87 = .ok (.iload_n 2, 1) := by decide +kernel
theorem dX12_goAll_88 : decode cX12_goAll 88 = .ok (.invokevirtual 208, 3) := by decide +kernel
theorem dX12_goAll_91 : decode cX12_goAll 91 = .ok (.aload_n 0, 1) := by decide +kernel
theorem dX12_goAll_92 : decode cX12_goAll 92 = .ok (.iload_n 3, 1) := by decide +kernel
theorem dX12_goAll_93 : decode cX12_goAll 93 = .ok (.bipush 10, 2) := by decide +kernel
theorem dX12_goAll_95 : decode cX12_goAll 95 = .ok (.idiv, 1) := by decide +kernel
theorem dX12_goAll_96 : decode cX12_goAll 96 = .ok (.iload_n 3, 1) := by decide +kernel
theorem dX12_goAll_97 : decode cX12_goAll 97 = .ok (.bipush 10, 2) := by decide +kernel
theorem dX12_goAll_99 : decode cX12_goAll 99 = .ok (.irem, 1) := by decide +kernel
theorem dX12_goAll_100 : decode cX12_goAll 100 = .ok (.invokevirtual 196, 3) := by decide +kernel
theorem dX12_goAll_103 : decode cX12_goAll 103 = .ok (.ifCond .eq 70, 3) := by decide +kernel
theorem dX12_goAll_106 : decode cX12_goAll 106 = .ok (.aload_n 0, 1) := by decide +kernel
theorem dX12_goAll_107 : decode cX12_goAll 107 = .ok (.getfield 35, 3) := by decide +kernel
theorem dX12_goAll_110 : decode cX12_goAll 110 = .ok (.iload_n 3, 1) := by decide +kernel
theorem dX12_goAll_111 : decode cX12_goAll 111 = .ok (.bipush 10, 2) := by decide +kernel
theorem dX12_goAll_113 : decode cX12_goAll 113 = .ok (.idiv, 1) := by decide +kernel
theorem dX12_goAll_114 : decode cX12_goAll 114 = .ok (.iload_n 3, 1) := by decide +kernel
theorem dX12_goAll_115 : decode cX12_goAll 115 = .ok (.bipush 10, 2) := by decide +kernel
theorem dX12_goAll_117 : decode cX12_goAll 117 = .ok (.irem, 1) := by decide +kernel
theorem dX12_goAll_118 : decode cX12_goAll 118 = .ok (.iastore, 1) := by decide +kernel
theorem dX12_goAll_119 : decode cX12_goAll 119 = .ok (.aload_n 0, 1) := by decide +kernel
theorem dX12_goAll_120 : decode cX12_goAll 120 = .ok (.invokevirtual 199, 3) := by decide +kernel
theorem dX12_goAll_123 : decode cX12_goAll 123 = .ok (.aload_n 0, 1) := by decide +kernel
theorem dX12_goAll_124 : decode cX12_goAll 124 = .ok (.invokevirtual 202, 3) := by decide +kernel
theorem dX12_goAll_127 : decode cX12_goAll 127 = .ok (.istore 4, 2) := by decide +kernel
theorem dX12_goAll_129 : decode cX12_goAll 129 = .ok (.aload_n 0, 1) := by decide +kernel
theorem dX12_goAll_130 : decode cX12_goAll 130 = .ok (.getfield 44, 3) := by decide +kernel
theorem dX12_goAll_133 : decode cX12_goAll 133 = .ok (.iload 4, 2) := by decide +kernel
theorem dX12_goAll_135 : decode cX12_goAll 135 = .ok (.iaload, 1) := by decide +kernel
theorem dX12_goAll_136 : decode cX12_goAll 136 = .ok (.ifCond .ge 37, 3) := by decide +kernel
theorem dX12_goAll_139 : decode cX12_goAll 139 = .ok (.aload_n 0, 1) := by decide +kernel
theorem dX12_goAll_140 : decode cX12_goAll 140 = .ok (.getfield 44, 3) := by decide +kernel
theorem dX12_goAll_143 : decode cX12_goAll 143 = .ok (.iload 4, 2) := by decide +kernel
theorem dX12_goAll_145 : decode cX12_goAll 145 = .ok (.bipush 32, 2) := by decide +kernel
theorem dX12_goAll_147 : decode cX12_goAll 147 = .ok (.iload_n 2, 1) := by decide +kernel
theorem dX12_goAll_148 : decode cX12_goAll 148 = .ok (.imul, 1) := by decide +kernel
theorem dX12_goAll_149 : decode cX12_goAll 149 = .ok (.iload_n 3, 1) := by decide +kernel
theorem dX12_goAll_150 : decode cX12_goAll 150 = .ok (.iadd, 1) := by decide +kernel
theorem dX12_goAll_151 : decode cX12_goAll 151 = .ok (.iastore, 1) := by decide +kernel
theorem dX12_goAll_152 : decode cX12_goAll 152 = .ok (.aload_n 0, 1) := by decide +kernel
theorem dX12_goAll_153 : decode cX12_goAll 153 = .ok (.getfield 47, 3) := by decide +kernel
theorem dX12_goAll_156 : decode cX12_goAll 156 = .ok (.aload_n 0, 1) := by decide +kernel
theorem dX12_goAll_157 : decode cX12_goAll 157 = .ok (.getfield 205, 3) := by decide +kernel
theorem dX12_goAll_160 : decode cX12_goAll 160 = .ok (.iload 4, 2) := by decide +kernel
theorem dX12_goAll_162 : decode cX12_goAll 162 = .ok (.iastore, 1) := by decide +kernel
theorem dX12_goAll_163 : decode cX12_goAll 163 = .ok (.aload_n 0, 1) := by decide +kernel
theorem dX12_goAll_164 : decode cX12_goAll 164 = .ok (.dup, 1) := by decide +kernel
theorem dX12_goAll_165 : decode cX12_goAll 165 = .ok (.getfield 205, 3) := by decide +kernel
theorem dX12_goAll_168 : decode cX12_goAll 168 = .ok (.iconst 1, 1) := by decide +kernel
theorem dX12_goAll_169 : decode cX12_goAll 169 = .ok (.iadd, 1) := by decide +kernel
theorem dX12_goAll_170 : decode cX12_goAll 170 = .ok (.putfield 205, 3) := by decide +kernel
theorem dX12_goAll_173 : decode cX12_goAll 173 = .ok (.iinc 3 1, 3) := by decide +kernel
theorem dX12_goAll_176 : decode cX12_goAll 176 = .ok (.goto (-104), 3) := by decide +kernel
theorem dX12_goAll_179 : decode cX12_goAll 179 = .ok (.iinc 1 1, 3) := by decide +kernel
theorem dX12_goAll_182 : decode cX12_goAll 182 = .ok (.goto (-127), 3) := by decide +kernel
theorem dX12_goAll_185 : decode cX12_goAll 185 = .ok (.return_, 1) := by decide +kernel
theorem dX12_findWay_0 : decode cX12_findWay 0 = .ok (.aload_n 0, 1) := by decide +kernel
theorem dX12_findWay_1 : decode cX12_findWay 1 = .ok (.invokevirtual 212, 3) := by decide +kernel
theorem dX12_findWay_4 : decode cX12_findWay 4 = .ok (.iconst 0, 1) := by decide +kernel
theorem dX12_findWay_5 : decode cX12_findWay 5 = .ok (.istore_n 3, 1) := by decide +kernel
theorem dX12_findWay_6 : decode cX12_findWay 6 = .ok (.iload_n 3, 1) := by decide +kernel
theorem dX12_findWay_7 : decode cX12_findWay 7 = .ok (.aload_n 0, 1) := by decide +kernel
theorem dX12_findWay_8 : decode cX12_findWay 8 = .ok (.getfield 205, 3) := by decide +kernel
theorem dX12_findWay_11 : decode cX12_findWay 11 = .ok (.if_icmp .ge 87, 3) := by decide +kernel
theorem dX12_findWay_14 : decode cX12_findWay 14 = .ok (.aload_n 0, 1) := by decide +kernel
theorem dX12_findWay_15 : decode cX12_findWay 15 = .ok (.aload_n 0, 1) := by decide +kernel
theorem dX12_findWay_16 : decode cX12_findWay 16 = .ok (.getfield 47, 3) := by decide +kernel
theorem dX12_findWay_19 : decode cX12_findWay 19 = .ok (.iload_n 3, 1) := by decide +kernel
theorem dX12_findWay_20 : decode cX12_findWay 20 = .ok (.iaload, 1) := by decide +kernel
theorem dX12_findWay_21 : decode cX12_findWay 21 = .ok (.invokevirtual 208, 3) := by decide +kernel
theorem dX12_findWay_24 : decode cX12_findWay 24 = .ok (.iconst 1, 1) := by decide +kernel
theorem dX12_findWay_25 : decode cX12_findWay 25 = .ok (.istore 4, 2) := by decide +kernel
theorem dX12_findWay_27 : decode cX12_findWay 27 = .ok (.iconst 0, 1) := by decide +kernel
theorem dX12_findWay_28 : decode cX12_findWay 28 = .ok (.istore 5, 2) := by decide +kernel
theorem dX12_findWay_30 : decode cX12_findWay 30 = .ok (.iload 5, 2) := by decide +kernel
theorem dX12_findWay_32 : decode cX12_findWay 32 = .ok (.aload_n 0, 1) := by decide +kernel
theorem dX12_findWay_33 : decode cX12_findWay 33 = .ok (.getfield 7, 3) := by decide +kernel
theorem dX12_findWay_36 : decode cX12_findWay 36 = .ok (.bipush 29, 2) := by decide +kernel
theorem dX12_findWay_38 : decode cX12_findWay 38 = .ok (.iaload, 1) := by decide +kernel
theorem dX12_findWay_39 : decode cX12_findWay 39 = .ok (.if_icmp .ge 41, 3) := by decide +kernel
theorem dX12_findWay_42 : decode cX12_findWay 42 = .ok (.iload 4, 2) := by decide +kernel
theorem dX12_findWay_44 : decode cX12_findWay 44 = .ok (.ifCond .eq 27, 3) := by decide +kernel
theorem dX12_findWay_47 : decode cX12_findWay 47 = .ok (.iload_n 1, 1) := by decide +kernel
theorem dX12_findWay_48 : decode cX12_findWay 48 = .ok (.iload 5, 2) := by decide +kernel
theorem dX12_findWay_50 : decode cX12_findWay 50 = .ok (.invokestatic 105, 3) := by decide +kernel
theorem dX12_findWay_53 : decode cX12_findWay 53 = .ok (.ifCond .eq 14, 3) := by decide +kernel
theorem dX12_findWay_56 : decode cX12_findWay 56 = .ok (.aload_n 0, 1) := by decide +kernel
theorem dX12_findWay_57 : decode cX12_findWay 57 = .ok (.getfield 35, 3) := by decide +kernel
theorem dX12_findWay_60 : decode cX12_findWay 60 = .ok (.iload 5, 2) := by decide +kernel
theorem dX12_findWay_62 : decode cX12_findWay 62 = .ok (.iaload, 1) := by decide +kernel
theorem dX12_findWay_63 : decode cX12_findWay 63 = .ok (.iload_n 2, 1) := by decide +kernel
theorem dX12_findWay_64 : decode cX12_findWay 64 = .ok (.if_icmp .ne 7, 3) := by decide +kernel
theorem dX12_findWay_67 : decode cX12_findWay 67 = .ok (.iconst 1, 1) := by decide +kernel
theorem dX12_findWay_68 : decode cX12_findWay 68 = .ok (.goto 4, 3) := by decide +kernel
theorem dX12_findWay_71 : decode cX12_findWay 71 = .ok (.iconst 0, 1) := by decide +kernel
theorem dX12_findWay_72 : decode cX12_findWay 72 = .ok (.istore 4, 2) := by decide +kernel
theorem dX12_findWay_74 : decode cX12_findWay 74 = .ok (.iinc 5 1, 3) := by decide +kernel
theorem dX12_findWay_77 : decode cX12_findWay 77 = .ok (.goto (-47), 3) := by decide +kernel
theorem dX12_findWay_80 : decode cX12_findWay 80 = .ok (.iload 4, 2) := by decide +kernel
theorem dX12_findWay_82 : decode cX12_findWay 82 = .ok (.ifCond .eq 10, 3) := by decide +kernel
theorem dX12_findWay_85 : decode cX12_findWay 85 = .ok (.aload_n 0, 1) := by decide +kernel
theorem dX12_findWay_86 : decode cX12_findWay 86 = .ok (.getfield 47, 3) := by decide +kernel
theorem dX12_findWay_89 : decode cX12_findWay 89 = .ok (.iload_n 3, 1) := by decide +kernel
theorem dX12_findWay_90 : decode cX12_findWay 90 = .ok (.iaload, 1) := by decide +kernel
theorem dX12_findWay_91 : decode cX12_findWay 91 = .ok (.ireturn, 1) := by decide +kernel
theorem dX12_findWay_92 : decode cX12_findWay 92 = .ok (.iinc 3 1, 3) := by decide +kernel
theorem dX12_findWay_95 : decode cX12_findWay 95 = .ok (.goto (-89), 3) := by decide +kernel
theorem dX12_findWay_98 : decode cX12_findWay 98 = .ok (.iconst (-1), 1) := by decide +kernel
theorem dX12_findWay_99 : decode cX12_findWay 99 = .ok (.ireturn, 1) := by decide +kernel
theorem dX12_stepsTo_0 : decode cX12_stepsTo 0 = .ok (.iconst 0, 1) := by decide +kernel
theorem dX12_stepsTo_1 : decode cX12_stepsTo 1 = .ok (.istore_n 2, 1) := by decide +kernel
theorem dX12_stepsTo_2 : decode cX12_stepsTo 2 = .ok (.iload_n 1, 1) := by decide +kernel
theorem dX12_stepsTo_3 : decode cX12_stepsTo 3 = .ok (.istore_n 3, 1) := by decide +kernel
theorem dX12_stepsTo_4 : decode cX12_stepsTo 4 = .ok (.iload_n 3, 1) := by decide +kernel
theorem dX12_stepsTo_5 : decode cX12_stepsTo 5 = .ok (.aload_n 0, 1) := by decide +kernel
theorem dX12_stepsTo_6 : decode cX12_stepsTo 6 = .ok (.getfield 47, 3) := by decide +kernel
theorem dX12_stepsTo_9 : decode cX12_stepsTo 9 = .ok (.iconst 0, 1) := by decide +kernel
theorem dX12_stepsTo_10 : decode cX12_stepsTo 10 = .ok (.iaload, 1) := by decide +kernel
theorem dX12_stepsTo_11 : decode cX12_stepsTo 11 = .ok (.if_icmp .eq 19, 3) := by decide +kernel
theorem dX12_stepsTo_14 : decode cX12_stepsTo 14 = .ok (.iinc 2 1, 3) := by decide +kernel
theorem dX12_stepsTo_17 : decode cX12_stepsTo 17 = .ok (.aload_n 0, 1) := by decide +kernel
theorem dX12_stepsTo_18 : decode cX12_stepsTo 18 = .ok (.getfield 44, 3) := by decide +kernel
theorem dX12_stepsTo_21 : decode cX12_stepsTo 21 = .ok (.iload_n 3, 1) := by decide +kernel
theorem dX12_stepsTo_22 : decode cX12_stepsTo 22 = .ok (.iaload, 1) := by decide +kernel
theorem dX12_stepsTo_23 : decode cX12_stepsTo 23 = .ok (.bipush 32, 2) := by decide +kernel
theorem dX12_stepsTo_25 : decode cX12_stepsTo 25 = .ok (.idiv, 1) := by decide +kernel
theorem dX12_stepsTo_26 : decode cX12_stepsTo 26 = .ok (.istore_n 3, 1) := by decide +kernel
theorem dX12_stepsTo_27 : decode cX12_stepsTo 27 = .ok (.goto (-23), 3) := by decide +kernel
theorem dX12_stepsTo_30 : decode cX12_stepsTo 30 = .ok (.iload_n 2, 1) := by decide +kernel
theorem dX12_stepsTo_31 : decode cX12_stepsTo 31 = .ok (.ireturn, 1) := by decide +kernel
theorem dX12_stepsOf_0 : decode cX12_stepsOf 0 = .ok (.aload_n 0, 1) := by decide +kernel
theorem dX12_stepsOf_1 : decode cX12_stepsOf 1 = .ok (.iload_n 1, 1) := by decide +kernel
theorem dX12_stepsOf_2 : decode cX12_stepsOf 2 = .ok (.iload_n 2, 1) := by decide +kernel
theorem dX12_stepsOf_3 : decode cX12_stepsOf 3 = .ok (.invokevirtual 215, 3) := by decide +kernel
theorem dX12_stepsOf_6 : decode cX12_stepsOf 6 = .ok (.istore_n 3, 1) := by decide +kernel
theorem dX12_stepsOf_7 : decode cX12_stepsOf 7 = .ok (.iload_n 3, 1) := by decide +kernel
theorem dX12_stepsOf_8 : decode cX12_stepsOf 8 = .ok (.ifCond .ge 8, 3) := by decide +kernel
theorem dX12_stepsOf_11 : decode cX12_stepsOf 11 = .ok (.ldc 219, 2) := by decide +kernel
theorem dX12_stepsOf_13 : decode cX12_stepsOf 13 = .ok (.goto 8, 3) := by decide +kernel
theorem dX12_stepsOf_16 : decode cX12_stepsOf 16 = .ok (.aload_n 0, 1) := by decide +kernel
theorem dX12_stepsOf_17 : decode cX12_stepsOf 17 = .ok (.iload_n 3, 1) := by decide +kernel
theorem dX12_stepsOf_18 : decode cX12_stepsOf 18 = .ok (.invokevirtual 220, 3) := by decide +kernel
theorem dX12_stepsOf_21 : decode cX12_stepsOf 21 = .ok (.ireturn, 1) := by decide +kernel
theorem dX12_areSome_0 : decode cX12_areSome 0 = .ok (.iload_n 1, 1) := by decide +kernel
theorem dX12_areSome_1 : decode cX12_areSome 1 = .ok (.i2l, 1) := by decide +kernel
theorem dX12_areSome_2 : decode cX12_areSome 2 = .ok (.lconst 0, 1) := by decide +kernel
theorem dX12_areSome_3 : decode cX12_areSome 3 = .ok (.iconst 1, 1) := by decide +kernel
theorem dX12_areSome_4 : decode cX12_areSome 4 = .ok (.aload_n 0, 1) := by decide +kernel
theorem dX12_areSome_5 : decode cX12_areSome 5 = .ok (.getfield 7, 3) := by decide +kernel
theorem dX12_areSome_8 : decode cX12_areSome 8 = .ok (.bipush 29, 2) := by decide +kernel
theorem dX12_areSome_10 : decode cX12_areSome 10 = .ok (.iaload, 1) := by decide +kernel
theorem dX12_areSome_11 : decode cX12_areSome 11 = .ok (.ishl, 1) := by decide +kernel
theorem dX12_areSome_12 : decode cX12_areSome 12 = .ok (.iconst 1, 1) := by decide +kernel
theorem dX12_areSome_13 : decode cX12_areSome 13 = .ok (.isub, 1) := by decide +kernel
theorem dX12_areSome_14 : decode cX12_areSome 14 = .ok (.i2l, 1) := by decide +kernel
theorem dX12_areSome_15 : decode cX12_areSome 15 = .ok (.invokestatic 62, 3) := by decide +kernel
theorem dX12_areSome_18 : decode cX12_areSome 18 = .ok (.ireturn, 1) := by decide +kernel
theorem dX12_isRoom_0 : decode cX12_isRoom 0 = .ok (.iload_n 0, 1) := by decide +kernel
theorem dX12_isRoom_1 : decode cX12_isRoom 1 = .ok (.i2l, 1) := by decide +kernel
theorem dX12_isRoom_2 : decode cX12_isRoom 2 = .ok (.lconst 0, 1) := by decide +kernel
theorem dX12_isRoom_3 : decode cX12_isRoom 3 = .ok (.ldc2_w 60, 3) := by decide +kernel
theorem dX12_isRoom_6 : decode cX12_isRoom 6 = .ok (.invokestatic 62, 3) := by decide +kernel
theorem dX12_isRoom_9 : decode cX12_isRoom 9 = .ok (.ireturn, 1) := by decide +kernel
theorem dX12_way_0 : decode cX12_way 0 = .ok (.aload_n 0, 1) := by decide +kernel
theorem dX12_way_1 : decode cX12_way 1 = .ok (.iload_n 1, 1) := by decide +kernel
theorem dX12_way_2 : decode cX12_way 2 = .ok (.invokevirtual 223, 3) := by decide +kernel
theorem dX12_way_5 : decode cX12_way 5 = .ok (.ifCond .eq 15, 3) := by decide +kernel
theorem dX12_way_8 : decode cX12_way 8 = .ok (.iload_n 2, 1) := by decide +kernel
theorem dX12_way_9 : decode cX12_way 9 = .ok (.invokestatic 226, 3) := by decide +kernel
theorem dX12_way_12 : decode cX12_way 12 = .ok (.ifCond .eq 8, 3) := by decide +kernel
theorem dX12_way_15 : decode cX12_way 15 = .ok (.iload_n 3, 1) := by decide +kernel
theorem dX12_way_16 : decode cX12_way 16 = .ok (.iconst (-1), 1) := by decide +kernel
theorem dX12_way_17 : decode cX12_way 17 = .ok (.if_icmp .ge 16, 3) := by decide +kernel
theorem dX12_way_20 : decode cX12_way 20 = .ok (.aload_n 0, 1) := by decide +kernel
theorem dX12_way_21 : decode cX12_way 21 = .ok (.getfield 20, 3) := by decide +kernel
theorem dX12_way_24 : decode cX12_way 24 = .ok (.iconst 0, 1) := by decide +kernel
theorem dX12_way_25 : decode cX12_way 25 = .ok (.dup2, 1) := by decide +kernel
theorem dX12_way_26 : decode cX12_way 26 = .ok (.iaload, 1) := by decide +kernel
theorem dX12_way_27 : decode cX12_way 27 = .ok (.iconst 1, 1) := by decide +kernel
theorem dX12_way_28 : decode cX12_way 28 = .ok (.iadd, 1) := by decide +kernel
theorem dX12_way_29 : decode cX12_way 29 = .ok (.iastore, 1) := by decide +kernel
theorem dX12_way_30 : decode cX12_way 30 = .ok (.bipush (-10), 2) := by decide +kernel
theorem dX12_way_32 : decode cX12_way 32 = .ok (.ireturn, 1) := by decide +kernel
theorem dX12_way_33 : decode cX12_way 33 = .ok (.aload_n 0, 1) := by decide +kernel
theorem dX12_way_34 : decode cX12_way 34 = .ok (.invokevirtual 125, 3) := by decide +kernel
theorem dX12_way_37 : decode cX12_way 37 = .ok (.aload_n 0, 1) := by decide +kernel
theorem dX12_way_38 : decode cX12_way 38 = .ok (.iload_n 1, 1) := by decide +kernel
theorem dX12_way_39 : decode cX12_way 39 = .ok (.iload_n 2, 1) := by decide +kernel
theorem dX12_way_40 : decode cX12_way 40 = .ok (.invokevirtual 215, 3) := by decide +kernel
theorem dX12_way_43 : decode cX12_way 43 = .ok (.istore 4, 2) := by decide +kernel
theorem dX12_way_45 : decode cX12_way 45 = .ok (.iload 4, 2) := by decide +kernel
theorem dX12_way_47 : decode cX12_way 47 = .ok (.ifCond .ge 5, 3) := by decide +kernel
theorem dX12_way_50 : decode cX12_way 50 = .ok (.iconst (-1), 1) := by decide +kernel
theorem dX12_way_51 : decode cX12_way 51 = .ok (.ireturn, 1) := by decide +kernel
theorem dX12_way_52 : decode cX12_way 52 = .ok (.aload_n 0, 1) := by decide +kernel
theorem dX12_way_53 : decode cX12_way 53 = .ok (.iload 4, 2) := by decide +kernel
theorem dX12_way_55 : decode cX12_way 55 = .ok (.invokevirtual 220, 3) := by decide +kernel
theorem dX12_way_58 : decode cX12_way 58 = .ok (.istore 5, 2) := by decide +kernel
theorem dX12_way_60 : decode cX12_way 60 = .ok (.iload_n 3, 1) := by decide +kernel
theorem dX12_way_61 : decode cX12_way 61 = .ok (.iconst (-1), 1) := by decide +kernel
theorem dX12_way_62 : decode cX12_way 62 = .ok (.if_icmp .eq 9, 3) := by decide +kernel
theorem dX12_way_65 : decode cX12_way 65 = .ok (.iload_n 3, 1) := by decide +kernel
theorem dX12_way_66 : decode cX12_way 66 = .ok (.iload 5, 2) := by decide +kernel
theorem dX12_way_68 : decode cX12_way 68 = .ok (.if_icmp .lt 16, 3) := by decide +kernel
theorem dX12_way_71 : decode cX12_way 71 = .ok (.iload_n 3, 1) := by decide +kernel
theorem dX12_way_72 : decode cX12_way 72 = .ok (.iconst (-1), 1) := by decide +kernel
theorem dX12_way_73 : decode cX12_way 73 = .ok (.if_icmp .ne 8, 3) := by decide +kernel
theorem dX12_way_76 : decode cX12_way 76 = .ok (.iload 5, 2) := by decide +kernel
theorem dX12_way_78 : decode cX12_way 78 = .ok (.goto 5, 3) := by decide +kernel
theorem dX12_way_81 : decode cX12_way 81 = .ok (.bipush (-5), 2) := by decide +kernel
theorem dX12_way_83 : decode cX12_way 83 = .ok (.ireturn, 1) := by decide +kernel
theorem dX12_way_84 : decode cX12_way 84 = .ok (.iload 5, 2) := by decide +kernel
theorem dX12_way_86 : decode cX12_way 86 = .ok (.iconst 1, 1) := by decide +kernel
theorem dX12_way_87 : decode cX12_way 87 = .ok (.isub, 1) := by decide +kernel
theorem dX12_way_88 : decode cX12_way 88 = .ok (.istore 6, 2) := by decide +kernel
theorem dX12_way_90 : decode cX12_way 90 = .ok (.iload 6, 2) := by decide +kernel
theorem dX12_way_92 : decode cX12_way 92 = .ok (.iload_n 3, 1) := by decide +kernel
theorem dX12_way_93 : decode cX12_way 93 = .ok (.if_icmp .le 21, 3) := by decide +kernel
theorem dX12_way_96 : decode cX12_way 96 = .ok (.aload_n 0, 1) := by decide +kernel
theorem dX12_way_97 : decode cX12_way 97 = .ok (.getfield 44, 3) := by decide +kernel
theorem dX12_way_100 : decode cX12_way 100 = .ok (.iload 4, 2) := by decide +kernel
theorem dX12_way_102 : decode cX12_way 102 = .ok (.iaload, 1) := by decide +kernel
theorem dX12_way_103 : decode cX12_way 103 = .ok (.bipush 32, 2) := by decide +kernel
theorem dX12_way_105 : decode cX12_way 105 = .ok (.idiv, 1) := by decide +kernel
theorem dX12_way_106 : decode cX12_way 106 = .ok (.istore 4, 2) := by decide +kernel
theorem dX12_way_108 : decode cX12_way 108 = .ok (.iinc 6 (-1), 3) := by decide +kernel
theorem dX12_way_111 : decode cX12_way 111 = .ok (.goto (-21), 3) := by decide +kernel
theorem dX12_way_114 : decode cX12_way 114 = .ok (.aload_n 0, 1) := by decide +kernel
theorem dX12_way_115 : decode cX12_way 115 = .ok (.getfield 44, 3) := by decide +kernel
theorem dX12_way_118 : decode cX12_way 118 = .ok (.iload 4, 2) := by decide +kernel
theorem dX12_way_120 : decode cX12_way 120 = .ok (.iaload, 1) := by decide +kernel
theorem dX12_way_121 : decode cX12_way 121 = .ok (.bipush 32, 2) := by decide +kernel
theorem dX12_way_123 : decode cX12_way 123 = .ok (.irem, 1) := by decide +kernel
theorem dX12_way_124 : decode cX12_way 124 = .ok (.ireturn, 1) := by decide +kernel
theorem dX12_lyings_0 : decode cX12_lyings 0 = .ok (.iconst 0, 1) := by decide +kernel
theorem dX12_lyings_1 : decode cX12_lyings 1 = .ok (.istore_n 1, 1) := by decide +kernel
theorem dX12_lyings_2 : decode cX12_lyings 2 = .ok (.iconst 0, 1) := by decide +kernel
theorem dX12_lyings_3 : decode cX12_lyings 3 = .ok (.istore_n 2, 1) := by decide +kernel
theorem dX12_lyings_4 : decode cX12_lyings 4 = .ok (.iload_n 2, 1) := by decide +kernel
theorem dX12_lyings_5 : decode cX12_lyings 5 = .ok (.aload_n 0, 1) := by decide +kernel
theorem dX12_lyings_6 : decode cX12_lyings 6 = .ok (.getfield 205, 3) := by decide +kernel
theorem dX12_lyings_9 : decode cX12_lyings 9 = .ok (.if_icmp .ge 23, 3) := by decide +kernel
theorem dX12_lyings_12 : decode cX12_lyings 12 = .ok (.iload_n 1, 1) := by decide +kernel
theorem dX12_lyings_13 : decode cX12_lyings 13 = .ok (.iconst 1, 1) := by decide +kernel
theorem dX12_lyings_14 : decode cX12_lyings 14 = .ok (.aload_n 0, 1) := by decide +kernel
theorem dX12_lyings_15 : decode cX12_lyings 15 = .ok (.getfield 47, 3) := by decide +kernel
theorem dX12_lyings_18 : decode cX12_lyings 18 = .ok (.iload_n 2, 1) := by decide +kernel
theorem dX12_lyings_19 : decode cX12_lyings 19 = .ok (.iaload, 1) := by decide +kernel
theorem dX12_lyings_20 : decode cX12_lyings 20 = .ok (.bipush 31, 2) := by decide +kernel
theorem dX12_lyings_22 : decode cX12_lyings 22 = .ok (.iand, 1) := by decide +kernel
theorem dX12_lyings_23 : decode cX12_lyings 23 = .ok (.ishl, 1) := by decide +kernel
theorem dX12_lyings_24 : decode cX12_lyings 24 = .ok (.ior, 1) := by decide +kernel
theorem dX12_lyings_25 : decode cX12_lyings 25 = .ok (.istore_n 1, 1) := by decide +kernel
theorem dX12_lyings_26 : decode cX12_lyings 26 = .ok (.iinc 2 1, 3) := by decide +kernel
theorem dX12_lyings_29 : decode cX12_lyings 29 = .ok (.goto (-25), 3) := by decide +kernel
theorem dX12_lyings_32 : decode cX12_lyings 32 = .ok (.iload_n 1, 1) := by decide +kernel
theorem dX12_lyings_33 : decode cX12_lyings 33 = .ok (.ireturn, 1) := by decide +kernel
theorem dX12_allLyings_0 : decode cX12_allLyings 0 = .ok (.aload_n 0, 1) := by decide +kernel
theorem dX12_allLyings_1 : decode cX12_allLyings 1 = .ok (.invokevirtual 125, 3) := by decide +kernel
theorem dX12_allLyings_4 : decode cX12_allLyings 4 = .ok (.aload_n 0, 1) := by decide +kernel
theorem dX12_allLyings_5 : decode cX12_allLyings 5 = .ok (.invokevirtual 212, 3) := by decide +kernel
theorem dX12_allLyings_8 : decode cX12_allLyings 8 = .ok (.aload_n 0, 1) := by decide +kernel
theorem dX12_allLyings_9 : decode cX12_allLyings 9 = .ok (.invokevirtual 229, 3) := by decide +kernel
theorem dX12_allLyings_12 : decode cX12_allLyings 12 = .ok (.ireturn, 1) := by decide +kernel
theorem dX12_many_0 : decode cX12_many 0 = .ok (.iconst 0, 1) := by decide +kernel
theorem dX12_many_1 : decode cX12_many 1 = .ok (.istore_n 1, 1) := by decide +kernel
theorem dX12_many_2 : decode cX12_many 2 = .ok (.iload_n 0, 1) := by decide +kernel
theorem dX12_many_3 : decode cX12_many 3 = .ok (.istore_n 2, 1) := by decide +kernel
theorem dX12_many_4 : decode cX12_many 4 = .ok (.iload_n 2, 1) := by decide +kernel
theorem dX12_many_5 : decode cX12_many 5 = .ok (.ifCond .eq 15, 3) := by decide +kernel
theorem dX12_many_8 : decode cX12_many 8 = .ok (.iinc 1 1, 3) := by decide +kernel
theorem dX12_many_11 : decode cX12_many 11 = .ok (.iload_n 2, 1) := by decide +kernel
theorem dX12_many_12 : decode cX12_many 12 = .ok (.iload_n 2, 1) := by decide +kernel
theorem dX12_many_13 : decode cX12_many 13 = .ok (.iconst 1, 1) := by decide +kernel
theorem dX12_many_14 : decode cX12_many 14 = .ok (.isub, 1) := by decide +kernel
theorem dX12_many_15 : decode cX12_many 15 = .ok (.iand, 1) := by decide +kernel
theorem dX12_many_16 : decode cX12_many 16 = .ok (.istore_n 2, 1) := by decide +kernel
theorem dX12_many_17 : decode cX12_many 17 = .ok (.goto (-13), 3) := by decide +kernel
theorem dX12_many_20 : decode cX12_many 20 = .ok (.iload_n 1, 1) := by decide +kernel
theorem dX12_many_21 : decode cX12_many 21 = .ok (.ireturn, 1) := by decide +kernel
theorem dX12_reach_0 : decode cX12_reach 0 = .ok (.iload_n 1, 1) := by decide +kernel
theorem dX12_reach_1 : decode cX12_reach 1 = .ok (.i2l, 1) := by decide +kernel
theorem dX12_reach_2 : decode cX12_reach 2 = .ok (.lconst 0, 1) := by decide +kernel
theorem dX12_reach_3 : decode cX12_reach 3 = .ok (.ldc2_w 232, 3) := by decide +kernel
theorem dX12_reach_6 : decode cX12_reach 6 = .ok (.invokestatic 62, 3) := by decide +kernel
theorem dX12_reach_9 : decode cX12_reach 9 = .ok (.ifCond .ne 8, 3) := by decide +kernel
theorem dX12_reach_12 : decode cX12_reach 12 = .ok (.aload_n 0, 1) := by decide +kernel
theorem dX12_reach_13 : decode cX12_reach 13 = .ok (.invokevirtual 121, 3) := by decide +kernel
theorem dX12_reach_16 : decode cX12_reach 16 = .ok (.ireturn, 1) := by decide +kernel
theorem dX12_reach_17 : decode cX12_reach 17 = .ok (.aload_n 0, 1) := by decide +kernel
theorem dX12_reach_18 : decode cX12_reach 18 = .ok (.invokevirtual 234, 3) := by decide +kernel
theorem dX12_reach_21 : decode cX12_reach 21 = .ok (.istore_n 2, 1) := by decide +kernel
theorem dX12_reach_22 : decode cX12_reach 22 = .ok (.iconst 1, 1) := by decide +kernel
theorem dX12_reach_23 : decode cX12_reach 23 = .ok (.aload_n 0, 1) := by decide +kernel
theorem dX12_reach_24 : decode cX12_reach 24 = .ok (.getfield 7, 3) := by decide +kernel
theorem dX12_reach_27 : decode cX12_reach 27 = .ok (.iconst 0, 1) := by decide +kernel
theorem dX12_reach_28 : decode cX12_reach 28 = .ok (.iaload, 1) := by decide +kernel
theorem dX12_reach_29 : decode cX12_reach 29 = .ok (.ishl, 1) := by decide +kernel
theorem dX12_reach_30 : decode cX12_reach 30 = .ok (.iconst 1, 1) := by decide +kernel
theorem dX12_reach_31 : decode cX12_reach 31 = .ok (.isub, 1) := by decide +kernel
theorem dX12_reach_32 : decode cX12_reach 32 = .ok (.istore_n 3, 1) := by decide +kernel
theorem dX12_reach_33 : decode cX12_reach 33 = .ok (.iload_n 3, 1) := by decide +kernel
theorem dX12_reach_34 : decode cX12_reach 34 = .ok (.istore 4, 2) := by decide +kernel
theorem dX12_reach_36 : decode cX12_reach 36 = .ok (.iconst 0, 1) := by decide +kernel
theorem dX12_reach_37 : decode cX12_reach 37 = .ok (.istore 5, 2) := by decide +kernel
theorem dX12_reach_39 : decode cX12_reach 39 = .ok (.iload 5, 2) := by decide +kernel
theorem dX12_reach_41 : decode cX12_reach 41 = .ok (.bipush 32, 2) := by decide +kernel
theorem dX12_reach_43 : decode cX12_reach 43 = .ok (.if_icmp .ge 49, 3) := by decide +kernel
theorem dX12_reach_46 : decode cX12_reach 46 = .ok (.iload_n 3, 1) := by decide +kernel
theorem dX12_reach_47 : decode cX12_reach 47 = .ok (.iload_n 2, 1) := by decide +kernel
theorem dX12_reach_48 : decode cX12_reach 48 = .ok (.iload 5, 2) := by decide +kernel
theorem dX12_reach_50 : decode cX12_reach 50 = .ok (.invokestatic 105, 3) := by decide +kernel
theorem dX12_reach_53 : decode cX12_reach 53 = .ok (.ifCond .eq 8, 3) := by decide +kernel
theorem dX12_reach_56 : decode cX12_reach 56 = .ok (.iload 5, 2) := by decide +kernel
theorem dX12_reach_58 : decode cX12_reach 58 = .ok (.goto 4, 3) := by decide +kernel
theorem dX12_reach_61 : decode cX12_reach 61 = .ok (.iconst (-1), 1) := by decide +kernel
theorem dX12_reach_62 : decode cX12_reach 62 = .ok (.iand, 1) := by decide +kernel
theorem dX12_reach_63 : decode cX12_reach 63 = .ok (.istore_n 3, 1) := by decide +kernel
theorem dX12_reach_64 : decode cX12_reach 64 = .ok (.iload 4, 2) := by decide +kernel
theorem dX12_reach_66 : decode cX12_reach 66 = .ok (.iload_n 2, 1) := by decide +kernel
theorem dX12_reach_67 : decode cX12_reach 67 = .ok (.iload 5, 2) := by decide +kernel
theorem dX12_reach_69 : decode cX12_reach 69 = .ok (.invokestatic 105, 3) := by decide +kernel
theorem dX12_reach_72 : decode cX12_reach 72 = .ok (.ifCond .eq 10, 3) := by decide +kernel
theorem dX12_reach_75 : decode cX12_reach 75 = .ok (.iload 5, 2) := by decide +kernel
theorem dX12_reach_77 : decode cX12_reach 77 = .ok (.iconst (-1), 1) := by decide +kernel
theorem dX12_reach_78 : decode cX12_reach 78 = .ok (.ixor, 1) := by decide +kernel
theorem dX12_reach_79 : decode cX12_reach 79 = .ok (.goto 4, 3) := by decide +kernel
theorem dX12_reach_82 : decode cX12_reach 82 = .ok (.iconst (-1), 1) := by decide +kernel
theorem dX12_reach_83 : decode cX12_reach 83 = .ok (.iand, 1) := by decide +kernel
theorem dX12_reach_84 : decode cX12_reach 84 = .ok (.istore 4, 2) := by decide +kernel
theorem dX12_reach_86 : decode cX12_reach 86 = .ok (.iinc 5 1, 3) := by decide +kernel
theorem dX12_reach_89 : decode cX12_reach 89 = .ok (.goto (-50), 3) := by decide +kernel
theorem dX12_reach_92 : decode cX12_reach 92 = .ok (.iload_n 1, 1) := by decide +kernel
theorem dX12_reach_93 : decode cX12_reach 93 = .ok (.ifCond .ne 10, 3) := by decide +kernel
theorem dX12_reach_96 : decode cX12_reach 96 = .ok (.aload_n 0, 1) := by decide +kernel
theorem dX12_reach_97 : decode cX12_reach 97 = .ok (.getfield 205, 3) := by decide +kernel
theorem dX12_reach_100 : decode cX12_reach 100 = .ok (.goto 26, 3) := by decide +kernel
theorem dX12_reach_103 : decode cX12_reach 103 = .ok (.iload_n 1, 1) := by decide +kernel
theorem dX12_reach_104 : decode cX12_reach 104 = .ok (.iconst 1, 1) := by decide +kernel
theorem dX12_reach_105 : decode cX12_reach 105 = .ok (.if_icmp .ne 10, 3) := by decide +kernel
theorem dX12_reach_108 : decode cX12_reach 108 = .ok (.iload_n 2, 1) := by decide +kernel
theorem dX12_reach_109 : decode cX12_reach 109 = .ok (.invokestatic 237, 3) := by decide +kernel
theorem dX12_reach_112 : decode cX12_reach 112 = .ok (.goto 14, 3) := by decide +kernel
theorem dX12_reach_115 : decode cX12_reach 115 = .ok (.iload_n 1, 1) := by decide +kernel
theorem dX12_reach_116 : decode cX12_reach 116 = .ok (.iconst 2, 1) := by decide +kernel
theorem dX12_reach_117 : decode cX12_reach 117 = .ok (.if_icmp .ne 7, 3) := by decide +kernel
theorem dX12_reach_120 : decode cX12_reach 120 = .ok (.iload_n 3, 1) := by decide +kernel
theorem dX12_reach_121 : decode cX12_reach 121 = .ok (.goto 5, 3) := by decide +kernel
theorem dX12_reach_124 : decode cX12_reach 124 = .ok (.iload 4, 2) := by decide +kernel
theorem dX12_reach_126 : decode cX12_reach 126 = .ok (.ireturn, 1) := by decide +kernel
theorem dX12_can_0 : decode cX12_can 0 = .ok (.iload_n 1, 1) := by decide +kernel
theorem dX12_can_1 : decode cX12_can 1 = .ok (.i2l, 1) := by decide +kernel
theorem dX12_can_2 : decode cX12_can 2 = .ok (.lconst 0, 1) := by decide +kernel
theorem dX12_can_3 : decode cX12_can 3 = .ok (.iconst 1, 1) := by decide +kernel
theorem dX12_can_4 : decode cX12_can 4 = .ok (.aload_n 0, 1) := by decide +kernel
theorem dX12_can_5 : decode cX12_can 5 = .ok (.getfield 7, 3) := by decide +kernel
theorem dX12_can_8 : decode cX12_can 8 = .ok (.iconst 0, 1) := by decide +kernel
theorem dX12_can_9 : decode cX12_can 9 = .ok (.iaload, 1) := by decide +kernel
theorem dX12_can_10 : decode cX12_can 10 = .ok (.ishl, 1) := by decide +kernel
theorem dX12_can_11 : decode cX12_can 11 = .ok (.iconst 1, 1) := by decide +kernel
theorem dX12_can_12 : decode cX12_can 12 = .ok (.isub, 1) := by decide +kernel
theorem dX12_can_13 : decode cX12_can 13 = .ok (.i2l, 1) := by decide +kernel
theorem dX12_can_14 : decode cX12_can 14 = .ok (.invokestatic 62, 3) := by decide +kernel
theorem dX12_can_17 : decode cX12_can 17 = .ok (.ifCond .eq 14, 3) := by decide +kernel
theorem dX12_can_20 : decode cX12_can 20 = .ok (.aload_n 0, 1) := by decide +kernel
theorem dX12_can_21 : decode cX12_can 21 = .ok (.invokevirtual 234, 3) := by decide +kernel
theorem dX12_can_24 : decode cX12_can 24 = .ok (.iload_n 1, 1) := by decide +kernel
theorem dX12_can_25 : decode cX12_can 25 = .ok (.ishr, 1) := by decide +kernel
theorem dX12_can_26 : decode cX12_can 26 = .ok (.iconst 1, 1) := by decide +kernel
theorem dX12_can_27 : decode cX12_can 27 = .ok (.iand, 1) := by decide +kernel
theorem dX12_can_28 : decode cX12_can 28 = .ok (.goto 7, 3) := by decide +kernel
theorem dX12_can_31 : decode cX12_can 31 = .ok (.aload_n 0, 1) := by decide +kernel
theorem dX12_can_32 : decode cX12_can 32 = .ok (.invokevirtual 121, 3) := by decide +kernel
theorem dX12_can_35 : decode cX12_can 35 = .ok (.ireturn, 1) := by decide +kernel
theorem dX12_closed_0 : decode cX12_closed 0 = .ok (.iload_n 1, 1) := by decide +kernel
theorem dX12_closed_1 : decode cX12_closed 1 = .ok (.invokestatic 226, 3) := by decide +kernel
theorem dX12_closed_4 : decode cX12_closed 4 = .ok (.ifCond .ne 8, 3) := by decide +kernel
theorem dX12_closed_7 : decode cX12_closed 7 = .ok (.aload_n 0, 1) := by decide +kernel
theorem dX12_closed_8 : decode cX12_closed 8 = .ok (.invokevirtual 121, 3) := by decide +kernel
theorem dX12_closed_11 : decode cX12_closed 11 = .ok (.ireturn, 1) := by decide +kernel
theorem dX12_closed_12 : decode cX12_closed 12 = .ok (.iconst 0, 1) := by decide +kernel
theorem dX12_closed_13 : decode cX12_closed 13 = .ok (.istore_n 2, 1) := by decide +kernel
theorem dX12_closed_14 : decode cX12_closed 14 = .ok (.iconst 0, 1) := by decide +kernel
theorem dX12_closed_15 : decode cX12_closed 15 = .ok (.istore_n 3, 1) := by decide +kernel
theorem dX12_closed_16 : decode cX12_closed 16 = .ok (.iload_n 3, 1) := by decide +kernel
theorem dX12_closed_17 : decode cX12_closed 17 = .ok (.aload_n 0, 1) := by decide +kernel
theorem dX12_closed_18 : decode cX12_closed 18 = .ok (.getfield 7, 3) := by decide +kernel
theorem dX12_closed_21 : decode cX12_closed 21 = .ok (.iconst 0, 1) := by decide +kernel
theorem dX12_closed_22 : decode cX12_closed 22 = .ok (.iaload, 1) := by decide +kernel
theorem dX12_closed_23 : decode cX12_closed 23 = .ok (.if_icmp .ge 28, 3) := by decide +kernel
theorem dX12_closed_26 : decode cX12_closed 26 = .ok (.iload_n 2, 1) := by decide +kernel
theorem dX12_closed_27 : decode cX12_closed 27 = .ok (.aload_n 0, 1) := by decide +kernel
theorem dX12_closed_28 : decode cX12_closed 28 = .ok (.iload_n 3, 1) := by decide +kernel
theorem dX12_closed_29 : decode cX12_closed 29 = .ok (.iload_n 1, 1) := by decide +kernel
theorem dX12_closed_30 : decode cX12_closed 30 = .ok (.invokevirtual 118, 3) := by decide +kernel
theorem dX12_closed_33 : decode cX12_closed 33 = .ok (.ifCond .eq 9, 3) := by decide +kernel
theorem dX12_closed_36 : decode cX12_closed 36 = .ok (.iconst 1, 1) := by decide +kernel
theorem dX12_closed_37 : decode cX12_closed 37 = .ok (.iload_n 3, 1) := by decide +kernel
theorem dX12_closed_38 : decode cX12_closed 38 = .ok (.ishl, 1) := by decide +kernel
theorem dX12_closed_39 : decode cX12_closed 39 = .ok (.goto 4, 3) := by decide +kernel
theorem dX12_closed_42 : decode cX12_closed 42 = .ok (.iconst 0, 1) := by decide +kernel
theorem dX12_closed_43 : decode cX12_closed 43 = .ok (.ior, 1) := by decide +kernel
theorem dX12_closed_44 : decode cX12_closed 44 = .ok (.istore_n 2, 1) := by decide +kernel
theorem dX12_closed_45 : decode cX12_closed 45 = .ok (.iinc 3 1, 3) := by decide +kernel
theorem dX12_closed_48 : decode cX12_closed 48 = .ok (.goto (-32), 3) := by decide +kernel
theorem dX12_closed_51 : decode cX12_closed 51 = .ok (.aload_n 0, 1) := by decide +kernel
theorem dX12_closed_52 : decode cX12_closed 52 = .ok (.invokevirtual 234, 3) := by decide +kernel
theorem dX12_closed_55 : decode cX12_closed 55 = .ok (.istore_n 3, 1) := by decide +kernel
theorem dX12_closed_56 : decode cX12_closed 56 = .ok (.iconst 0, 1) := by decide +kernel
theorem dX12_closed_57 : decode cX12_closed 57 = .ok (.istore 4, 2) := by decide +kernel
theorem dX12_closed_59 : decode cX12_closed 59 = .ok (.iconst 0, 1) := by decide +kernel
theorem dX12_closed_60 : decode cX12_closed 60 = .ok (.istore 5, 2) := by decide +kernel
theorem dX12_closed_62 : decode cX12_closed 62 = .ok (.iload 5, 2) := by decide +kernel
theorem dX12_closed_64 : decode cX12_closed 64 = .ok (.bipush 32, 2) := by decide +kernel
theorem dX12_closed_66 : decode cX12_closed 66 = .ok (.if_icmp .ge 33, 3) := by decide +kernel
theorem dX12_closed_69 : decode cX12_closed 69 = .ok (.iload_n 3, 1) := by decide +kernel
theorem dX12_closed_70 : decode cX12_closed 70 = .ok (.iload 5, 2) := by decide +kernel
theorem dX12_closed_72 : decode cX12_closed 72 = .ok (.invokestatic 105, 3) := by decide +kernel
theorem dX12_closed_75 : decode cX12_closed 75 = .ok (.ifCond .eq 14, 3) := by decide +kernel
theorem dX12_closed_78 : decode cX12_closed 78 = .ok (.iload 5, 2) := by decide +kernel
theorem dX12_closed_80 : decode cX12_closed 80 = .ok (.iload_n 2, 1) := by decide +kernel
theorem dX12_closed_81 : decode cX12_closed 81 = .ok (.iand, 1) := by decide +kernel
theorem dX12_closed_82 : decode cX12_closed 82 = .ok (.ifCond .ne 7, 3) := by decide +kernel
theorem dX12_closed_85 : decode cX12_closed 85 = .ok (.iconst 1, 1) := by decide +kernel
theorem dX12_closed_86 : decode cX12_closed 86 = .ok (.goto 5, 3) := by decide +kernel
theorem dX12_closed_89 : decode cX12_closed 89 = .ok (.iload 4, 2) := by decide +kernel
theorem dX12_closed_91 : decode cX12_closed 91 = .ok (.istore 4, 2) := by decide +kernel
theorem dX12_closed_93 : decode cX12_closed 93 = .ok (.iinc 5 1, 3) := by decide +kernel
theorem dX12_closed_96 : decode cX12_closed 96 = .ok (.goto (-34), 3) := by decide +kernel
theorem dX12_closed_99 : decode cX12_closed 99 = .ok (.iload 4, 2) := by decide +kernel
theorem dX12_closed_101 : decode cX12_closed 101 = .ok (.ireturn, 1) := by decide +kernel
theorem dX12_child_0 : decode cX12_child 0 = .ok (.aload_n 0, 1) := by decide +kernel
theorem dX12_child_1 : decode cX12_child 1 = .ok (.iload_n 1, 1) := by decide +kernel
theorem dX12_child_2 : decode cX12_child 2 = .ok (.invokevirtual 131, 3) := by decide +kernel
theorem dX12_child_5 : decode cX12_child 5 = .ok (.ifCond .ne 8, 3) := by decide +kernel
theorem dX12_child_8 : decode cX12_child 8 = .ok (.aload_n 0, 1) := by decide +kernel
theorem dX12_child_9 : decode cX12_child 9 = .ok (.invokevirtual 121, 3) := by decide +kernel
theorem dX12_child_12 : decode cX12_child 12 = .ok (.ireturn, 1) := by decide +kernel
theorem dX12_child_13 : decode cX12_child 13 = .ok (.aload_n 0, 1) := by decide +kernel
theorem dX12_child_14 : decode cX12_child 14 = .ok (.invokevirtual 234, 3) := by decide +kernel
theorem dX12_child_17 : decode cX12_child 17 = .ok (.istore_n 2, 1) := by decide +kernel
theorem dX12_child_18 : decode cX12_child 18 = .ok (.aload_n 0, 1) := by decide +kernel
theorem dX12_child_19 : decode cX12_child 19 = .ok (.dup, 1) := by decide +kernel
theorem dX12_child_20 : decode cX12_child 20 = .ok (.getfield 102, 3) := by decide +kernel
theorem dX12_child_23 : decode cX12_child 23 = .ok (.iconst 1, 1) := by decide +kernel
theorem dX12_child_24 : decode cX12_child 24 = .ok (.iload_n 1, 1) := by decide +kernel
theorem dX12_child_25 : decode cX12_child 25 = .ok (.ishl, 1) := by decide +kernel
theorem dX12_child_26 : decode cX12_child 26 = .ok (.iconst (-1), 1) := by decide +kernel
theorem dX12_child_27 : decode cX12_child 27 = .ok (.ixor, 1) := by decide +kernel
theorem dX12_child_28 : decode cX12_child 28 = .ok (.iand, 1) := by decide +kernel
theorem dX12_child_29 : decode cX12_child 29 = .ok (.putfield 102, 3) := by decide +kernel
theorem dX12_child_32 : decode cX12_child 32 = .ok (.aload_n 0, 1) := by decide +kernel
theorem dX12_child_33 : decode cX12_child 33 = .ok (.invokevirtual 212, 3) := by decide +kernel
theorem dX12_child_36 : decode cX12_child 36 = .ok (.iload_n 2, 1) := by decide +kernel
theorem dX12_child_37 : decode cX12_child 37 = .ok (.aload_n 0, 1) := by decide +kernel
theorem dX12_child_38 : decode cX12_child 38 = .ok (.invokevirtual 229, 3) := by decide +kernel
theorem dX12_child_41 : decode cX12_child 41 = .ok (.iconst (-1), 1) := by decide +kernel
theorem dX12_child_42 : decode cX12_child 42 = .ok (.ixor, 1) := by decide +kernel
theorem dX12_child_43 : decode cX12_child 43 = .ok (.iand, 1) := by decide +kernel
theorem dX12_child_44 : decode cX12_child 44 = .ok (.invokestatic 237, 3) := by decide +kernel
theorem dX12_child_47 : decode cX12_child 47 = .ok (.ireturn, 1) := by decide +kernel
theorem dX12_cut_0 : decode cX12_cut 0 = .ok (.aload_n 0, 1) := by decide +kernel
theorem dX12_cut_1 : decode cX12_cut 1 = .ok (.iload_n 1, 1) := by decide +kernel
theorem dX12_cut_2 : decode cX12_cut 2 = .ok (.invokevirtual 223, 3) := by decide +kernel
theorem dX12_cut_5 : decode cX12_cut 5 = .ok (.ifCond .eq 10, 3) := by decide +kernel
theorem dX12_cut_8 : decode cX12_cut 8 = .ok (.iload_n 2, 1) := by decide +kernel
theorem dX12_cut_9 : decode cX12_cut 9 = .ok (.invokestatic 226, 3) := by decide +kernel
theorem dX12_cut_12 : decode cX12_cut 12 = .ok (.ifCond .ne 8, 3) := by decide +kernel
theorem dX12_cut_15 : decode cX12_cut 15 = .ok (.aload_n 0, 1) := by decide +kernel
theorem dX12_cut_16 : decode cX12_cut 16 = .ok (.invokevirtual 121, 3) := by decide +kernel
theorem dX12_cut_19 : decode cX12_cut 19 = .ok (.ireturn, 1) := by decide +kernel
theorem dX12_cut_20 : decode cX12_cut 20 = .ok (.aload_n 0, 1) := by decide +kernel
theorem dX12_cut_21 : decode cX12_cut 21 = .ok (.invokevirtual 125, 3) := by decide +kernel
theorem dX12_cut_24 : decode cX12_cut 24 = .ok (.aload_n 0, 1) := by decide +kernel
theorem dX12_cut_25 : decode cX12_cut 25 = .ok (.iload_n 1, 1) := by decide +kernel
theorem dX12_cut_26 : decode cX12_cut 26 = .ok (.iload_n 2, 1) := by decide +kernel
theorem dX12_cut_27 : decode cX12_cut 27 = .ok (.invokevirtual 240, 3) := by decide +kernel
theorem dX12_cut_30 : decode cX12_cut 30 = .ok (.istore_n 3, 1) := by decide +kernel
theorem dX12_cut_31 : decode cX12_cut 31 = .ok (.iconst (-1), 1) := by decide +kernel
theorem dX12_cut_32 : decode cX12_cut 32 = .ok (.istore 4, 2) := by decide +kernel
theorem dX12_cut_34 : decode cX12_cut 34 = .ok (.iconst 0, 1) := by decide +kernel
theorem dX12_cut_35 : decode cX12_cut 35 = .ok (.istore 5, 2) := by decide +kernel
theorem dX12_cut_37 : decode cX12_cut 37 = .ok (.iload 5, 2) := by decide +kernel
theorem dX12_cut_39 : decode cX12_cut 39 = .ok (.aload_n 0, 1) := by decide +kernel
theorem dX12_cut_40 : decode cX12_cut 40 = .ok (.getfield 7, 3) := by decide +kernel
theorem dX12_cut_43 : decode cX12_cut 43 = .ok (.bipush 22, 2) := by decide +kernel
theorem dX12_cut_45 : decode cX12_cut 45 = .ok (.iaload, 1) := by decide +kernel
theorem dX12_cut_46 : decode cX12_cut 46 = .ok (.if_icmp .ge 112, 3) := by decide +kernel
theorem dX12_cut_49 : decode cX12_cut 49 = .ok (.aload_n 0, 1) := by decide +kernel
theorem dX12_cut_50 : decode cX12_cut 50 = .ok (.iconst 0, 1) := by decide +kernel
theorem dX12_cut_51 : decode cX12_cut 51 = .ok (.putfield 94, 3) := by decide +kernel
theorem dX12_cut_54 : decode cX12_cut 54 = .ok (.iconst 0, 1) := by decide +kernel
theorem dX12_cut_55 : decode cX12_cut 55 = .ok (.istore 6, 2) := by decide +kernel
theorem dX12_cut_57 : decode cX12_cut 57 = .ok (.iload 6, 2) := by decide +kernel
theorem dX12_cut_59 : decode cX12_cut 59 = .ok (.aload_n 0, 1) := by decide +kernel
theorem dX12_cut_60 : decode cX12_cut 60 = .ok (.getfield 7, 3) := by decide +kernel
theorem dX12_cut_63 : decode cX12_cut 63 = .ok (.bipush 22, 2) := by decide +kernel
theorem dX12_cut_65 : decode cX12_cut 65 = .ok (.iaload, 1) := by decide +kernel
theorem dX12_cut_66 : decode cX12_cut 66 = .ok (.if_icmp .ge 50, 3) := by decide +kernel
theorem dX12_cut_69 : decode cX12_cut 69 = .ok (.iload 6, 2) := by decide +kernel
theorem dX12_cut_71 : decode cX12_cut 71 = .ok (.iload 5, 2) := by decide +kernel
theorem dX12_cut_73 : decode cX12_cut 73 = .ok (.if_icmp .eq 37, 3) := by decide +kernel
theorem dX12_cut_76 : decode cX12_cut 76 = .ok (.aload_n 0, 1) := by decide +kernel
theorem dX12_cut_77 : decode cX12_cut 77 = .ok (.aload_n 0, 1) := by decide +kernel
theorem dX12_cut_78 : decode cX12_cut 78 = .ok (.getfield 7, 3) := by decide +kernel
theorem dX12_cut_81 : decode cX12_cut 81 = .ok (.bipush 23, 2) := by decide +kernel
theorem dX12_cut_83 : decode cX12_cut 83 = .ok (.iload 6, 2) := by decide +kernel
theorem dX12_cut_85 : decode cX12_cut 85 = .ok (.iadd, 1) := by decide +kernel
theorem dX12_cut_86 : decode cX12_cut 86 = .ok (.iaload, 1) := by decide +kernel
theorem dX12_cut_87 : decode cX12_cut 87 = .ok (.aload_n 0, 1) := by decide +kernel
theorem dX12_cut_88 : decode cX12_cut 88 = .ok (.getfield 7, 3) := by decide +kernel
theorem dX12_cut_91 : decode cX12_cut 91 = .ok (.bipush 25, 2) := by decide +kernel
theorem dX12_cut_93 : decode cX12_cut 93 = .ok (.iload 6, 2) := by decide +kernel
theorem dX12_cut_95 : decode cX12_cut 95 = .ok (.iadd, 1) := by decide +kernel
theorem dX12_cut_96 : decode cX12_cut 96 = .ok (.iaload, 1) := by decide +kernel
theorem dX12_cut_97 : decode cX12_cut 97 = .ok (.aload_n 0, 1) := by decide +kernel
theorem dX12_cut_98 : decode cX12_cut 98 = .ok (.getfield 7, 3) := by decide +kernel
theorem dX12_cut_101 : decode cX12_cut 101 = .ok (.bipush 27, 2) := by decide +kernel
theorem dX12_cut_103 : decode cX12_cut 103 = .ok (.iload 6, 2) := by decide +kernel
theorem dX12_cut_105 : decode cX12_cut 105 = .ok (.iadd, 1) := by decide +kernel
theorem dX12_cut_106 : decode cX12_cut 106 = .ok (.iaload, 1) := by decide +kernel
theorem dX12_cut_107 : decode cX12_cut 107 = .ok (.invokevirtual 98, 3) := by decide +kernel
theorem dX12_cut_110 : decode cX12_cut 110 = .ok (.iinc 6 1, 3) := by decide +kernel
theorem dX12_cut_113 : decode cX12_cut 113 = .ok (.goto (-56), 3) := by decide +kernel
theorem dX12_cut_116 : decode cX12_cut 116 = .ok (.aload_n 0, 1) := by decide +kernel
theorem dX12_cut_117 : decode cX12_cut 117 = .ok (.iload_n 1, 1) := by decide +kernel
theorem dX12_cut_118 : decode cX12_cut 118 = .ok (.iload_n 2, 1) := by decide +kernel
theorem dX12_cut_119 : decode cX12_cut 119 = .ok (.invokevirtual 240, 3) := by decide +kernel
theorem dX12_cut_122 : decode cX12_cut 122 = .ok (.istore 6, 2) := by decide +kernel
theorem dX12_cut_124 : decode cX12_cut 124 = .ok (.iload 6, 2) := by decide +kernel
theorem dX12_cut_126 : decode cX12_cut 126 = .ok (.iload_n 3, 1) := by decide +kernel
theorem dX12_cut_127 : decode cX12_cut 127 = .ok (.if_icmp .ge 8, 3) := by decide +kernel
theorem dX12_cut_130 : decode cX12_cut 130 = .ok (.iload 5, 2) := by decide +kernel
theorem dX12_cut_132 : decode cX12_cut 132 = .ok (.goto 5, 3) := by decide +kernel
theorem dX12_cut_135 : decode cX12_cut 135 = .ok (.iload 4, 2) := by decide +kernel
theorem dX12_cut_137 : decode cX12_cut 137 = .ok (.istore 4, 2) := by decide +kernel
theorem dX12_cut_139 : decode cX12_cut 139 = .ok (.iload 6, 2) := by decide +kernel
theorem dX12_cut_141 : decode cX12_cut 141 = .ok (.iload_n 3, 1) := by decide +kernel
theorem dX12_cut_142 : decode cX12_cut 142 = .ok (.if_icmp .ge 8, 3) := by decide +kernel
theorem dX12_cut_145 : decode cX12_cut 145 = .ok (.iload 6, 2) := by decide +kernel
theorem dX12_cut_147 : decode cX12_cut 147 = .ok (.goto 4, 3) := by decide +kernel
theorem dX12_cut_150 : decode cX12_cut 150 = .ok (.iload_n 3, 1) := by decide +kernel
theorem dX12_cut_151 : decode cX12_cut 151 = .ok (.istore_n 3, 1) := by decide +kernel
theorem dX12_cut_152 : decode cX12_cut 152 = .ok (.iinc 5 1, 3) := by decide +kernel
theorem dX12_cut_155 : decode cX12_cut 155 = .ok (.goto (-118), 3) := by decide +kernel
theorem dX12_cut_158 : decode cX12_cut 158 = .ok (.iload 4, 2) := by decide +kernel
theorem dX12_cut_160 : decode cX12_cut 160 = .ok (.ireturn, 1) := by decide +kernel
theorem dX12_tie_0 : decode cX12_tie 0 = .ok (.aload_n 0, 1) := by decide +kernel
theorem dX12_tie_1 : decode cX12_tie 1 = .ok (.iload_n 1, 1) := by decide +kernel
theorem dX12_tie_2 : decode cX12_tie 2 = .ok (.invokevirtual 223, 3) := by decide +kernel
theorem dX12_tie_5 : decode cX12_tie 5 = .ok (.ifCond .eq 10, 3) := by decide +kernel
theorem dX12_tie_8 : decode cX12_tie 8 = .ok (.iload_n 2, 1) := by decide +kernel
theorem dX12_tie_9 : decode cX12_tie 9 = .ok (.invokestatic 226, 3) := by decide +kernel
theorem dX12_tie_12 : decode cX12_tie 12 = .ok (.ifCond .ne 8, 3) := by decide +kernel
theorem dX12_tie_15 : decode cX12_tie 15 = .ok (.aload_n 0, 1) := by decide +kernel
theorem dX12_tie_16 : decode cX12_tie 16 = .ok (.invokevirtual 121, 3) := by decide +kernel
theorem dX12_tie_19 : decode cX12_tie 19 = .ok (.ireturn, 1) := by decide +kernel
theorem dX12_tie_20 : decode cX12_tie 20 = .ok (.aload_n 0, 1) := by decide +kernel
theorem dX12_tie_21 : decode cX12_tie 21 = .ok (.invokevirtual 125, 3) := by decide +kernel
theorem dX12_tie_24 : decode cX12_tie 24 = .ok (.aload_n 0, 1) := by decide +kernel
theorem dX12_tie_25 : decode cX12_tie 25 = .ok (.iload_n 1, 1) := by decide +kernel
theorem dX12_tie_26 : decode cX12_tie 26 = .ok (.iload_n 2, 1) := by decide +kernel
theorem dX12_tie_27 : decode cX12_tie 27 = .ok (.invokevirtual 240, 3) := by decide +kernel
theorem dX12_tie_30 : decode cX12_tie 30 = .ok (.istore_n 3, 1) := by decide +kernel
theorem dX12_tie_31 : decode cX12_tie 31 = .ok (.iconst (-1), 1) := by decide +kernel
theorem dX12_tie_32 : decode cX12_tie 32 = .ok (.istore 4, 2) := by decide +kernel
theorem dX12_tie_34 : decode cX12_tie 34 = .ok (.iconst 0, 1) := by decide +kernel
theorem dX12_tie_35 : decode cX12_tie 35 = .ok (.istore 5, 2) := by decide +kernel
theorem dX12_tie_37 : decode cX12_tie 37 = .ok (.iload 5, 2) := by decide +kernel
theorem dX12_tie_39 : decode cX12_tie 39 = .ok (.aload_n 0, 1) := by decide +kernel
theorem dX12_tie_40 : decode cX12_tie 40 = .ok (.getfield 7, 3) := by decide +kernel
theorem dX12_tie_43 : decode cX12_tie 43 = .ok (.iconst 0, 1) := by decide +kernel
theorem dX12_tie_44 : decode cX12_tie 44 = .ok (.iaload, 1) := by decide +kernel
theorem dX12_tie_45 : decode cX12_tie 45 = .ok (.if_icmp .ge 107, 3) := by decide +kernel
theorem dX12_tie_48 : decode cX12_tie 48 = .ok (.iload 5, 2) := by decide +kernel
theorem dX12_tie_50 : decode cX12_tie 50 = .ok (.iconst 1, 1) := by decide +kernel
theorem dX12_tie_51 : decode cX12_tie 51 = .ok (.iadd, 1) := by decide +kernel
theorem dX12_tie_52 : decode cX12_tie 52 = .ok (.istore 6, 2) := by decide +kernel
theorem dX12_tie_54 : decode cX12_tie 54 = .ok (.iload 6, 2) := by decide +kernel
theorem dX12_tie_56 : decode cX12_tie 56 = .ok (.aload_n 0, 1) := by decide +kernel
theorem dX12_tie_57 : decode cX12_tie 57 = .ok (.getfield 7, 3) := by decide +kernel
theorem dX12_tie_60 : decode cX12_tie 60 = .ok (.iconst 0, 1) := by decide +kernel
theorem dX12_tie_61 : decode cX12_tie 61 = .ok (.iaload, 1) := by decide +kernel
theorem dX12_tie_62 : decode cX12_tie 62 = .ok (.if_icmp .ge 84, 3) := by decide +kernel
theorem dX12_tie_65 : decode cX12_tie 65 = .ok (.aload_n 0, 1) := by decide +kernel
theorem dX12_tie_66 : decode cX12_tie 66 = .ok (.iconst 0, 1) := by decide +kernel
theorem dX12_tie_67 : decode cX12_tie 67 = .ok (.iload 5, 2) := by decide +kernel
theorem dX12_tie_69 : decode cX12_tie 69 = .ok (.invokevirtual 74, 3) := by decide +kernel
theorem dX12_tie_72 : decode cX12_tie 72 = .ok (.ifCond .ne 68, 3) := by decide +kernel
theorem dX12_tie_75 : decode cX12_tie 75 = .ok (.aload_n 0, 1) := by decide +kernel
theorem dX12_tie_76 : decode cX12_tie 76 = .ok (.iconst 0, 1) := by decide +kernel
theorem dX12_tie_77 : decode cX12_tie 77 = .ok (.iload 6, 2) := by decide +kernel
theorem dX12_tie_79 : decode cX12_tie 79 = .ok (.invokevirtual 74, 3) := by decide +kernel
theorem dX12_tie_82 : decode cX12_tie 82 = .ok (.ifCond .ne 58, 3) := by decide +kernel
theorem dX12_tie_85 : decode cX12_tie 85 = .ok (.aload_n 0, 1) := by decide +kernel
theorem dX12_tie_86 : decode cX12_tie 86 = .ok (.invokevirtual 125, 3) := by decide +kernel
theorem dX12_tie_89 : decode cX12_tie 89 = .ok (.aload_n 0, 1) := by decide +kernel
theorem dX12_tie_90 : decode cX12_tie 90 = .ok (.iload 5, 2) := by decide +kernel
theorem dX12_tie_92 : decode cX12_tie 92 = .ok (.iload 6, 2) := by decide +kernel
theorem dX12_tie_94 : decode cX12_tie 94 = .ok (.iconst 0, 1) := by decide +kernel
theorem dX12_tie_95 : decode cX12_tie 95 = .ok (.invokevirtual 98, 3) := by decide +kernel
theorem dX12_tie_98 : decode cX12_tie 98 = .ok (.aload_n 0, 1) := by decide +kernel
theorem dX12_tie_99 : decode cX12_tie 99 = .ok (.iload_n 1, 1) := by decide +kernel
theorem dX12_tie_100 : decode cX12_tie 100 = .ok (.iload_n 2, 1) := by decide +kernel
theorem dX12_tie_101 : decode cX12_tie 101 = .ok (.invokevirtual 240, 3) := by decide +kernel
theorem dX12_tie_104 : decode cX12_tie 104 = .ok (.istore 7, 2) := by decide +kernel
theorem dX12_tie_106 : decode cX12_tie 106 = .ok (.iload 7, 2) := by decide +kernel
theorem dX12_tie_108 : decode cX12_tie 108 = .ok (.iload_n 3, 1) := by decide +kernel
theorem dX12_tie_109 : decode cX12_tie 109 = .ok (.if_icmp .ge 14, 3) := by decide +kernel
theorem dX12_tie_112 : decode cX12_tie 112 = .ok (.bipush 10, 2) := by decide +kernel
theorem dX12_tie_114 : decode cX12_tie 114 = .ok (.iload 5, 2) := by decide +kernel
theorem dX12_tie_116 : decode cX12_tie 116 = .ok (.imul, 1) := by decide +kernel
theorem dX12_tie_117 : decode cX12_tie 117 = .ok (.iload 6, 2) := by decide +kernel
theorem dX12_tie_119 : decode cX12_tie 119 = .ok (.iadd, 1) := by decide +kernel
theorem dX12_tie_120 : decode cX12_tie 120 = .ok (.goto 5, 3) := by decide +kernel
theorem dX12_tie_123 : decode cX12_tie 123 = .ok (.iload 4, 2) := by decide +kernel
theorem dX12_tie_125 : decode cX12_tie 125 = .ok (.istore 4, 2) := by decide +kernel
theorem dX12_tie_127 : decode cX12_tie 127 = .ok (.iload 7, 2) := by decide +kernel
theorem dX12_tie_129 : decode cX12_tie 129 = .ok (.iload_n 3, 1) := by decide +kernel
theorem dX12_tie_130 : decode cX12_tie 130 = .ok (.if_icmp .ge 8, 3) := by decide +kernel
theorem dX12_tie_133 : decode cX12_tie 133 = .ok (.iload 7, 2) := by decide +kernel
theorem dX12_tie_135 : decode cX12_tie 135 = .ok (.goto 4, 3) := by decide +kernel
theorem dX12_tie_138 : decode cX12_tie 138 = .ok (.iload_n 3, 1) := by decide +kernel
theorem dX12_tie_139 : decode cX12_tie 139 = .ok (.istore_n 3, 1) := by decide +kernel
theorem dX12_tie_140 : decode cX12_tie 140 = .ok (.iinc 6 1, 3) := by decide +kernel
theorem dX12_tie_143 : decode cX12_tie 143 = .ok (.goto (-89), 3) := by decide +kernel
theorem dX12_tie_146 : decode cX12_tie 146 = .ok (.iinc 5 1, 3) := by decide +kernel
theorem dX12_tie_149 : decode cX12_tie 149 = .ok (.goto (-112), 3) := by decide +kernel
theorem dX12_tie_152 : decode cX12_tie 152 = .ok (.iload 4, 2) := by decide +kernel
theorem dX12_tie_154 : decode cX12_tie 154 = .ok (.ireturn, 1) := by decide +kernel
theorem dX12_stone_0 : decode cX12_stone 0 = .ok (.aload_n 0, 1) := by decide +kernel
theorem dX12_stone_1 : decode cX12_stone 1 = .ok (.iload_n 1, 1) := by decide +kernel
theorem dX12_stone_2 : decode cX12_stone 2 = .ok (.invokevirtual 223, 3) := by decide +kernel
theorem dX12_stone_5 : decode cX12_stone 5 = .ok (.ifCond .eq 22, 3) := by decide +kernel
theorem dX12_stone_8 : decode cX12_stone 8 = .ok (.iload_n 2, 1) := by decide +kernel
theorem dX12_stone_9 : decode cX12_stone 9 = .ok (.invokestatic 226, 3) := by decide +kernel
theorem dX12_stone_12 : decode cX12_stone 12 = .ok (.ifCond .eq 15, 3) := by decide +kernel
theorem dX12_stone_15 : decode cX12_stone 15 = .ok (.iload_n 3, 1) := by decide +kernel
theorem dX12_stone_16 : decode cX12_stone 16 = .ok (.i2l, 1) := by decide +kernel
theorem dX12_stone_17 : decode cX12_stone 17 = .ok (.lconst 1, 1) := by decide +kernel
theorem dX12_stone_18 : decode cX12_stone 18 = .ok (.ldc2_w 72, 3) := by decide +kernel
theorem dX12_stone_21 : decode cX12_stone 21 = .ok (.invokestatic 62, 3) := by decide +kernel
theorem dX12_stone_24 : decode cX12_stone 24 = .ok (.ifCond .ne 8, 3) := by decide +kernel
theorem dX12_stone_27 : decode cX12_stone 27 = .ok (.aload_n 0, 1) := by decide +kernel
theorem dX12_stone_28 : decode cX12_stone 28 = .ok (.invokevirtual 121, 3) := by decide +kernel
theorem dX12_stone_31 : decode cX12_stone 31 = .ok (.ireturn, 1) := by decide +kernel
theorem dX12_stone_32 : decode cX12_stone 32 = .ok (.aload_n 0, 1) := by decide +kernel
theorem dX12_stone_33 : decode cX12_stone 33 = .ok (.invokevirtual 125, 3) := by decide +kernel
theorem dX12_stone_36 : decode cX12_stone 36 = .ok (.aload_n 0, 1) := by decide +kernel
theorem dX12_stone_37 : decode cX12_stone 37 = .ok (.iload_n 1, 1) := by decide +kernel
theorem dX12_stone_38 : decode cX12_stone 38 = .ok (.iload_n 2, 1) := by decide +kernel
theorem dX12_stone_39 : decode cX12_stone 39 = .ok (.invokevirtual 240, 3) := by decide +kernel
theorem dX12_stone_42 : decode cX12_stone 42 = .ok (.istore 4, 2) := by decide +kernel
theorem dX12_stone_44 : decode cX12_stone 44 = .ok (.iconst (-1), 1) := by decide +kernel
theorem dX12_stone_45 : decode cX12_stone 45 = .ok (.istore 5, 2) := by decide +kernel
theorem dX12_stone_47 : decode cX12_stone 47 = .ok (.iconst 0, 1) := by decide +kernel
theorem dX12_stone_48 : decode cX12_stone 48 = .ok (.istore 6, 2) := by decide +kernel
theorem dX12_stone_50 : decode cX12_stone 50 = .ok (.iload 6, 2) := by decide +kernel
theorem dX12_stone_52 : decode cX12_stone 52 = .ok (.aload_n 0, 1) := by decide +kernel
theorem dX12_stone_53 : decode cX12_stone 53 = .ok (.getfield 7, 3) := by decide +kernel
theorem dX12_stone_56 : decode cX12_stone 56 = .ok (.iconst 0, 1) := by decide +kernel
theorem dX12_stone_57 : decode cX12_stone 57 = .ok (.iaload, 1) := by decide +kernel
theorem dX12_stone_58 : decode cX12_stone 58 = .ok (.if_icmp .ge 64, 3) := by decide +kernel
theorem dX12_stone_61 : decode cX12_stone 61 = .ok (.aload_n 0, 1) := by decide +kernel
theorem dX12_stone_62 : decode cX12_stone 62 = .ok (.invokevirtual 125, 3) := by decide +kernel
theorem dX12_stone_65 : decode cX12_stone 65 = .ok (.aload_n 0, 1) := by decide +kernel
theorem dX12_stone_66 : decode cX12_stone 66 = .ok (.getfield 23, 3) := by decide +kernel
theorem dX12_stone_69 : decode cX12_stone 69 = .ok (.iload 6, 2) := by decide +kernel
theorem dX12_stone_71 : decode cX12_stone 71 = .ok (.dup2, 1) := by decide +kernel
theorem dX12_stone_72 : decode cX12_stone 72 = .ok (.iaload, 1) := by decide +kernel
theorem dX12_stone_73 : decode cX12_stone 73 = .ok (.iload_n 3, 1) := by decide +kernel
theorem dX12_stone_74 : decode cX12_stone 74 = .ok (.iadd, 1) := by decide +kernel
theorem dX12_stone_75 : decode cX12_stone 75 = .ok (.iastore, 1) := by decide +kernel
theorem dX12_stone_76 : decode cX12_stone 76 = .ok (.aload_n 0, 1) := by decide +kernel
theorem dX12_stone_77 : decode cX12_stone 77 = .ok (.iload_n 1, 1) := by decide +kernel
theorem dX12_stone_78 : decode cX12_stone 78 = .ok (.iload_n 2, 1) := by decide +kernel
theorem dX12_stone_79 : decode cX12_stone 79 = .ok (.invokevirtual 240, 3) := by decide +kernel
theorem dX12_stone_82 : decode cX12_stone 82 = .ok (.istore 7, 2) := by decide +kernel
theorem dX12_stone_84 : decode cX12_stone 84 = .ok (.iload 7, 2) := by decide +kernel
theorem dX12_stone_86 : decode cX12_stone 86 = .ok (.iload 4, 2) := by decide +kernel
theorem dX12_stone_88 : decode cX12_stone 88 = .ok (.if_icmp .ge 8, 3) := by decide +kernel
theorem dX12_stone_91 : decode cX12_stone 91 = .ok (.iload 6, 2) := by decide +kernel
theorem dX12_stone_93 : decode cX12_stone 93 = .ok (.goto 5, 3) := by decide +kernel
theorem dX12_stone_96 : decode cX12_stone 96 = .ok (.iload 5, 2) := by decide +kernel
theorem dX12_stone_98 : decode cX12_stone 98 = .ok (.istore 5, 2) := by decide +kernel
theorem dX12_stone_100 : decode cX12_stone 100 = .ok (.iload 7, 2) := by decide +kernel
theorem dX12_stone_102 : decode cX12_stone 102 = .ok (.iload 4, 2) := by decide +kernel
theorem dX12_stone_104 : decode cX12_stone 104 = .ok (.if_icmp .ge 8, 3) := by decide +kernel
theorem dX12_stone_107 : decode cX12_stone 107 = .ok (.iload 7, 2) := by decide +kernel
theorem dX12_stone_109 : decode cX12_stone 109 = .ok (.goto 5, 3) := by decide +kernel
theorem dX12_stone_112 : decode cX12_stone 112 = .ok (.iload 4, 2) := by decide +kernel
theorem dX12_stone_114 : decode cX12_stone 114 = .ok (.istore 4, 2) := by decide +kernel
theorem dX12_stone_116 : decode cX12_stone 116 = .ok (.iinc 6 1, 3) := by decide +kernel
theorem dX12_stone_119 : decode cX12_stone 119 = .ok (.goto (-69), 3) := by decide +kernel
theorem dX12_stone_122 : decode cX12_stone 122 = .ok (.iload 5, 2) := by decide +kernel
theorem dX12_stone_124 : decode cX12_stone 124 = .ok (.ireturn, 1) := by decide +kernel
theorem dX12_keep_0 : decode cX12_keep 0 = .ok (.aload_n 0, 1) := by decide +kernel
theorem dX12_keep_1 : decode cX12_keep 1 = .ok (.iload_n 1, 1) := by decide +kernel
theorem dX12_keep_2 : decode cX12_keep 2 = .ok (.invokevirtual 131, 3) := by decide +kernel
theorem dX12_keep_5 : decode cX12_keep 5 = .ok (.ifCond .eq 22, 3) := by decide +kernel
theorem dX12_keep_8 : decode cX12_keep 8 = .ok (.iload_n 2, 1) := by decide +kernel
theorem dX12_keep_9 : decode cX12_keep 9 = .ok (.invokestatic 226, 3) := by decide +kernel
theorem dX12_keep_12 : decode cX12_keep 12 = .ok (.ifCond .eq 15, 3) := by decide +kernel
theorem dX12_keep_15 : decode cX12_keep 15 = .ok (.iload_n 3, 1) := by decide +kernel
theorem dX12_keep_16 : decode cX12_keep 16 = .ok (.i2l, 1) := by decide +kernel
theorem dX12_keep_17 : decode cX12_keep 17 = .ok (.lconst 1, 1) := by decide +kernel
theorem dX12_keep_18 : decode cX12_keep 18 = .ok (.ldc2_w 72, 3) := by decide +kernel
theorem dX12_keep_21 : decode cX12_keep 21 = .ok (.invokestatic 62, 3) := by decide +kernel
theorem dX12_keep_24 : decode cX12_keep 24 = .ok (.ifCond .ne 8, 3) := by decide +kernel
theorem dX12_keep_27 : decode cX12_keep 27 = .ok (.aload_n 0, 1) := by decide +kernel
theorem dX12_keep_28 : decode cX12_keep 28 = .ok (.invokevirtual 121, 3) := by decide +kernel
theorem dX12_keep_31 : decode cX12_keep 31 = .ok (.ireturn, 1) := by decide +kernel
theorem dX12_keep_32 : decode cX12_keep 32 = .ok (.iconst (-1), 1) := by decide +kernel
theorem dX12_keep_33 : decode cX12_keep 33 = .ok (.istore 4, 2) := by decide +kernel
theorem dX12_keep_35 : decode cX12_keep 35 = .ok (.iconst 0, 1) := by decide +kernel
theorem dX12_keep_36 : decode cX12_keep 36 = .ok (.istore 5, 2) := by decide +kernel
theorem dX12_keep_38 : decode cX12_keep 38 = .ok (.iload 5, 2) := by decide +kernel
theorem dX12_keep_40 : decode cX12_keep 40 = .ok (.iconst 1, 1) := by decide +kernel
theorem dX12_keep_41 : decode cX12_keep 41 = .ok (.aload_n 0, 1) := by decide +kernel
theorem dX12_keep_42 : decode cX12_keep 42 = .ok (.getfield 7, 3) := by decide +kernel
theorem dX12_keep_45 : decode cX12_keep 45 = .ok (.iconst 0, 1) := by decide +kernel
theorem dX12_keep_46 : decode cX12_keep 46 = .ok (.iaload, 1) := by decide +kernel
theorem dX12_keep_47 : decode cX12_keep 47 = .ok (.ishl, 1) := by decide +kernel
theorem dX12_keep_48 : decode cX12_keep 48 = .ok (.if_icmp .ge 104, 3) := by decide +kernel
theorem dX12_keep_51 : decode cX12_keep 51 = .ok (.iload 4, 2) := by decide +kernel
theorem dX12_keep_53 : decode cX12_keep 53 = .ok (.iconst (-1), 1) := by decide +kernel
theorem dX12_keep_54 : decode cX12_keep 54 = .ok (.if_icmp .eq 16, 3) := by decide +kernel
theorem dX12_keep_57 : decode cX12_keep 57 = .ok (.iload 5, 2) := by decide +kernel
theorem dX12_keep_59 : decode cX12_keep 59 = .ok (.invokestatic 243, 3) := by decide +kernel
theorem dX12_keep_62 : decode cX12_keep 62 = .ok (.iload 4, 2) := by decide +kernel
theorem dX12_keep_64 : decode cX12_keep 64 = .ok (.invokestatic 243, 3) := by decide +kernel
theorem dX12_keep_67 : decode cX12_keep 67 = .ok (.if_icmp .ge 79, 3) := by decide +kernel
theorem dX12_keep_70 : decode cX12_keep 70 = .ok (.aload_n 0, 1) := by decide +kernel
theorem dX12_keep_71 : decode cX12_keep 71 = .ok (.invokevirtual 125, 3) := by decide +kernel
theorem dX12_keep_74 : decode cX12_keep 74 = .ok (.aload_n 0, 1) := by decide +kernel
theorem dX12_keep_75 : decode cX12_keep 75 = .ok (.iconst 1, 1) := by decide +kernel
theorem dX12_keep_76 : decode cX12_keep 76 = .ok (.iload_n 1, 1) := by decide +kernel
theorem dX12_keep_77 : decode cX12_keep 77 = .ok (.ishl, 1) := by decide +kernel
theorem dX12_keep_78 : decode cX12_keep 78 = .ok (.putfield 102, 3) := by decide +kernel
theorem dX12_keep_81 : decode cX12_keep 81 = .ok (.iconst 0, 1) := by decide +kernel
theorem dX12_keep_82 : decode cX12_keep 82 = .ok (.istore 6, 2) := by decide +kernel
theorem dX12_keep_84 : decode cX12_keep 84 = .ok (.iload 6, 2) := by decide +kernel
theorem dX12_keep_86 : decode cX12_keep 86 = .ok (.aload_n 0, 1) := by decide +kernel
theorem dX12_keep_87 : decode cX12_keep 87 = .ok (.getfield 7, 3) := by decide +kernel
theorem dX12_keep_90 : decode cX12_keep 90 = .ok (.iconst 0, 1) := by decide +kernel
theorem dX12_keep_91 : decode cX12_keep 91 = .ok (.iaload, 1) := by decide +kernel
theorem dX12_keep_92 : decode cX12_keep 92 = .ok (.if_icmp .ge 34, 3) := by decide +kernel
theorem dX12_keep_95 : decode cX12_keep 95 = .ok (.aload_n 0, 1) := by decide +kernel
theorem dX12_keep_96 : decode cX12_keep 96 = .ok (.getfield 23, 3) := by decide +kernel
theorem dX12_keep_99 : decode cX12_keep 99 = .ok (.iload 6, 2) := by decide +kernel
theorem dX12_keep_101 : decode cX12_keep 101 = .ok (.dup2, 1) := by decide +kernel
theorem dX12_keep_102 : decode cX12_keep 102 = .ok (.iaload, 1) := by decide +kernel
theorem dX12_keep_103 : decode cX12_keep 103 = .ok (.iload 5, 2) := by decide +kernel
theorem dX12_keep_105 : decode cX12_keep 105 = .ok (.iload 6, 2) := by decide +kernel
theorem dX12_keep_107 : decode cX12_keep 107 = .ok (.invokestatic 105, 3) := by decide +kernel
theorem dX12_keep_110 : decode cX12_keep 110 = .ok (.ifCond .eq 7, 3) := by decide +kernel
theorem dX12_keep_113 : decode cX12_keep 113 = .ok (.iload_n 3, 1) := by decide +kernel
theorem dX12_keep_114 : decode cX12_keep 114 = .ok (.goto 4, 3) := by decide +kernel
theorem dX12_keep_117 : decode cX12_keep 117 = .ok (.iconst 0, 1) := by decide +kernel
theorem dX12_keep_118 : decode cX12_keep 118 = .ok (.iadd, 1) := by decide +kernel
theorem dX12_keep_119 : decode cX12_keep 119 = .ok (.iastore, 1) := by decide +kernel
theorem dX12_keep_120 : decode cX12_keep 120 = .ok (.iinc 6 1, 3) := by decide +kernel
theorem dX12_keep_123 : decode cX12_keep 123 = .ok (.goto (-39), 3) := by decide +kernel
theorem dX12_keep_126 : decode cX12_keep 126 = .ok (.aload_n 0, 1) := by decide +kernel
theorem dX12_keep_127 : decode cX12_keep 127 = .ok (.iconst 1, 1) := by decide +kernel
theorem dX12_keep_128 : decode cX12_keep 128 = .ok (.iload_n 1, 1) := by decide +kernel
theorem dX12_keep_129 : decode cX12_keep 129 = .ok (.ishl, 1) := by decide +kernel
theorem dX12_keep_130 : decode cX12_keep 130 = .ok (.iload_n 2, 1) := by decide +kernel
theorem dX12_keep_131 : decode cX12_keep 131 = .ok (.invokevirtual 215, 3) := by decide +kernel
theorem dX12_keep_134 : decode cX12_keep 134 = .ok (.ifCond .ge 8, 3) := by decide +kernel
theorem dX12_keep_137 : decode cX12_keep 137 = .ok (.iload 5, 2) := by decide +kernel
theorem dX12_keep_139 : decode cX12_keep 139 = .ok (.goto 5, 3) := by decide +kernel
theorem dX12_keep_142 : decode cX12_keep 142 = .ok (.iload 4, 2) := by decide +kernel
theorem dX12_keep_144 : decode cX12_keep 144 = .ok (.istore 4, 2) := by decide +kernel
theorem dX12_keep_146 : decode cX12_keep 146 = .ok (.iinc 5 1, 3) := by decide +kernel
theorem dX12_keep_149 : decode cX12_keep 149 = .ok (.goto (-111), 3) := by decide +kernel
theorem dX12_keep_152 : decode cX12_keep 152 = .ok (.iload 4, 2) := by decide +kernel
theorem dX12_keep_154 : decode cX12_keep 154 = .ok (.ireturn, 1) := by decide +kernel
theorem dX12_wet_0 : decode cX12_wet 0 = .ok (.aload_n 0, 1) := by decide +kernel
theorem dX12_wet_1 : decode cX12_wet 1 = .ok (.iload_n 1, 1) := by decide +kernel
theorem dX12_wet_2 : decode cX12_wet 2 = .ok (.invokevirtual 131, 3) := by decide +kernel
theorem dX12_wet_5 : decode cX12_wet 5 = .ok (.ifCond .eq 44, 3) := by decide +kernel
theorem dX12_wet_8 : decode cX12_wet 8 = .ok (.iload_n 2, 1) := by decide +kernel
theorem dX12_wet_9 : decode cX12_wet 9 = .ok (.i2l, 1) := by decide +kernel
theorem dX12_wet_10 : decode cX12_wet 10 = .ok (.lconst 0, 1) := by decide +kernel
theorem dX12_wet_11 : decode cX12_wet 11 = .ok (.ldc2_w 245, 3) := by decide +kernel
theorem dX12_wet_14 : decode cX12_wet 14 = .ok (.invokestatic 62, 3) := by decide +kernel
theorem dX12_wet_17 : decode cX12_wet 17 = .ok (.ifCond .eq 32, 3) := by decide +kernel
theorem dX12_wet_20 : decode cX12_wet 20 = .ok (.aload_n 0, 1) := by decide +kernel
theorem dX12_wet_21 : decode cX12_wet 21 = .ok (.iload_n 3, 1) := by decide +kernel
theorem dX12_wet_22 : decode cX12_wet 22 = .ok (.invokevirtual 193, 3) := by decide +kernel
theorem dX12_wet_25 : decode cX12_wet 25 = .ok (.ifCond .eq 24, 3) := by decide +kernel
theorem dX12_wet_28 : decode cX12_wet 28 = .ok (.iload 4, 2) := by decide +kernel
theorem dX12_wet_30 : decode cX12_wet 30 = .ok (.i2l, 1) := by decide +kernel
theorem dX12_wet_31 : decode cX12_wet 31 = .ok (.lconst 0, 1) := by decide +kernel
theorem dX12_wet_32 : decode cX12_wet 32 = .ok (.iconst 1, 1) := by decide +kernel
theorem dX12_wet_33 : decode cX12_wet 33 = .ok (.aload_n 0, 1) := by decide +kernel
theorem dX12_wet_34 : decode cX12_wet 34 = .ok (.getfield 7, 3) := by decide +kernel
theorem dX12_wet_37 : decode cX12_wet 37 = .ok (.iconst 0, 1) := by decide +kernel
theorem dX12_wet_38 : decode cX12_wet 38 = .ok (.iaload, 1) := by decide +kernel
theorem dX12_wet_39 : decode cX12_wet 39 = .ok (.ishl, 1) := by decide +kernel
theorem dX12_wet_40 : decode cX12_wet 40 = .ok (.iconst 1, 1) := by decide +kernel
theorem dX12_wet_41 : decode cX12_wet 41 = .ok (.isub, 1) := by decide +kernel
theorem dX12_wet_42 : decode cX12_wet 42 = .ok (.i2l, 1) := by decide +kernel
theorem dX12_wet_43 : decode cX12_wet 43 = .ok (.invokestatic 62, 3) := by decide +kernel
theorem dX12_wet_46 : decode cX12_wet 46 = .ok (.ifCond .ne 8, 3) := by decide +kernel
theorem dX12_wet_49 : decode cX12_wet 49 = .ok (.aload_n 0, 1) := by decide +kernel
theorem dX12_wet_50 : decode cX12_wet 50 = .ok (.invokevirtual 121, 3) := by decide +kernel
theorem dX12_wet_53 : decode cX12_wet 53 = .ok (.ireturn, 1) := by decide +kernel
theorem dX12_wet_54 : decode cX12_wet 54 = .ok (.aload_n 0, 1) := by decide +kernel
theorem dX12_wet_55 : decode cX12_wet 55 = .ok (.invokevirtual 125, 3) := by decide +kernel
theorem dX12_wet_58 : decode cX12_wet 58 = .ok (.aload_n 0, 1) := by decide +kernel
theorem dX12_wet_59 : decode cX12_wet 59 = .ok (.iconst 1, 1) := by decide +kernel
theorem dX12_wet_60 : decode cX12_wet 60 = .ok (.iload_n 1, 1) := by decide +kernel
theorem dX12_wet_61 : decode cX12_wet 61 = .ok (.ishl, 1) := by decide +kernel
theorem dX12_wet_62 : decode cX12_wet 62 = .ok (.putfield 102, 3) := by decide +kernel
theorem dX12_wet_65 : decode cX12_wet 65 = .ok (.iconst 0, 1) := by decide +kernel
theorem dX12_wet_66 : decode cX12_wet 66 = .ok (.istore 5, 2) := by decide +kernel
theorem dX12_wet_68 : decode cX12_wet 68 = .ok (.iload 5, 2) := by decide +kernel
theorem dX12_wet_70 : decode cX12_wet 70 = .ok (.sipush 10240, 3) := by decide +kernel
theorem dX12_wet_73 : decode cX12_wet 73 = .ok (.if_icmp .ge 17, 3) := by decide +kernel
theorem dX12_wet_76 : decode cX12_wet 76 = .ok (.aload_n 0, 1) := by decide +kernel
theorem dX12_wet_77 : decode cX12_wet 77 = .ok (.getfield 50, 3) := by decide +kernel
theorem dX12_wet_80 : decode cX12_wet 80 = .ok (.iload 5, 2) := by decide +kernel
theorem dX12_wet_82 : decode cX12_wet 82 = .ok (.iconst 0, 1) := by decide +kernel
theorem dX12_wet_83 : decode cX12_wet 83 = .ok (.iastore, 1) := by decide +kernel
theorem dX12_wet_84 : decode cX12_wet 84 = .ok (.iinc 5 1, 3) := by decide +kernel
theorem dX12_wet_87 : decode cX12_wet 87 = .ok (.goto (-19), 3) := by decide +kernel
theorem dX12_wet_90 : decode cX12_wet 90 = .ok (.aload_n 0, 1) := by decide +kernel
theorem dX12_wet_91 : decode cX12_wet 91 = .ok (.getfield 7, 3) := by decide +kernel
theorem dX12_wet_94 : decode cX12_wet 94 = .ok (.bipush 33, 2) := by decide +kernel
theorem dX12_wet_96 : decode cX12_wet 96 = .ok (.iload_n 1, 1) := by decide +kernel
theorem dX12_wet_97 : decode cX12_wet 97 = .ok (.iadd, 1) := by decide +kernel
theorem dX12_wet_98 : decode cX12_wet 98 = .ok (.iaload, 1) := by decide +kernel
theorem dX12_wet_99 : decode cX12_wet 99 = .ok (.istore 5, 2) := by decide +kernel
theorem dX12_wet_101 : decode cX12_wet 101 = .ok (.aload_n 0, 1) := by decide +kernel
theorem dX12_wet_102 : decode cX12_wet 102 = .ok (.getfield 50, 3) := by decide +kernel
theorem dX12_wet_105 : decode cX12_wet 105 = .ok (.sipush 1024, 3) := by decide +kernel
theorem dX12_wet_108 : decode cX12_wet 108 = .ok (.iload 5, 2) := by decide +kernel
theorem dX12_wet_110 : decode cX12_wet 110 = .ok (.imul, 1) := by decide +kernel
theorem dX12_wet_111 : decode cX12_wet 111 = .ok (.bipush 32, 2) := by decide +kernel
theorem dX12_wet_113 : decode cX12_wet 113 = .ok (.aload_n 0, 1) := by decide +kernel
theorem dX12_wet_114 : decode cX12_wet 114 = .ok (.getfield 7, 3) := by decide +kernel
theorem dX12_wet_117 : decode cX12_wet 117 = .ok (.bipush 21, 2) := by decide +kernel
theorem dX12_wet_119 : decode cX12_wet 119 = .ok (.iaload, 1) := by decide +kernel
theorem dX12_wet_120 : decode cX12_wet 120 = .ok (.imul, 1) := by decide +kernel
theorem dX12_wet_121 : decode cX12_wet 121 = .ok (.iadd, 1) := by decide +kernel
theorem dX12_wet_122 : decode cX12_wet 122 = .ok (.iload 5, 2) := by decide +kernel
theorem dX12_wet_124 : decode cX12_wet 124 = .ok (.iconst 4, 1) := by decide +kernel
theorem dX12_wet_125 : decode cX12_wet 125 = .ok (.if_icmp .le 12, 3) := by decide +kernel
theorem dX12_wet_128 : decode cX12_wet 128 = .ok (.iconst 1, 1) := by decide +kernel
theorem dX12_wet_129 : decode cX12_wet 129 = .ok (.iload 5, 2) := by decide +kernel
theorem dX12_wet_131 : decode cX12_wet 131 = .ok (.iconst 5, 1) := by decide +kernel
theorem dX12_wet_132 : decode cX12_wet 132 = .ok (.isub, 1) := by decide +kernel
theorem dX12_wet_133 : decode cX12_wet 133 = .ok (.ishl, 1) := by decide +kernel
theorem dX12_wet_134 : decode cX12_wet 134 = .ok (.goto 4, 3) := by decide +kernel
theorem dX12_wet_137 : decode cX12_wet 137 = .ok (.iconst 0, 1) := by decide +kernel
theorem dX12_wet_138 : decode cX12_wet 138 = .ok (.iadd, 1) := by decide +kernel
theorem dX12_wet_139 : decode cX12_wet 139 = .ok (.iconst 1, 1) := by decide +kernel
theorem dX12_wet_140 : decode cX12_wet 140 = .ok (.iastore, 1) := by decide +kernel
theorem dX12_wet_141 : decode cX12_wet 141 = .ok (.iconst 0, 1) := by decide +kernel
theorem dX12_wet_142 : decode cX12_wet 142 = .ok (.istore 6, 2) := by decide +kernel
theorem dX12_wet_144 : decode cX12_wet 144 = .ok (.iload 6, 2) := by decide +kernel
theorem dX12_wet_146 : decode cX12_wet 146 = .ok (.iload_n 2, 1) := by decide +kernel
theorem dX12_wet_147 : decode cX12_wet 147 = .ok (.if_icmp .ge 206, 3) := by decide +kernel
theorem dX12_wet_150 : decode cX12_wet 150 = .ok (.iconst 0, 1) := by decide +kernel
theorem dX12_wet_151 : decode cX12_wet 151 = .ok (.istore 7, 2) := by decide +kernel
theorem dX12_wet_153 : decode cX12_wet 153 = .ok (.iload 7, 2) := by decide +kernel
theorem dX12_wet_155 : decode cX12_wet 155 = .ok (.sipush 10240, 3) := by decide +kernel
theorem dX12_wet_158 : decode cX12_wet 158 = .ok (.if_icmp .ge 17, 3) := by decide +kernel
theorem dX12_wet_161 : decode cX12_wet 161 = .ok (.aload_n 0, 1) := by decide +kernel
theorem dX12_wet_162 : decode cX12_wet 162 = .ok (.getfield 53, 3) := by decide +kernel
theorem dX12_wet_165 : decode cX12_wet 165 = .ok (.iload 7, 2) := by decide +kernel
theorem dX12_wet_167 : decode cX12_wet 167 = .ok (.iconst 0, 1) := by decide +kernel
theorem dX12_wet_168 : decode cX12_wet 168 = .ok (.iastore, 1) := by decide +kernel
theorem dX12_wet_169 : decode cX12_wet 169 = .ok (.iinc 7 1, 3) := by decide +kernel
theorem dX12_wet_172 : decode cX12_wet 172 = .ok (.goto (-19), 3) := by decide +kernel
theorem dX12_wet_175 : decode cX12_wet 175 = .ok (.iconst 0, 1) := by decide +kernel
theorem dX12_wet_176 : decode cX12_wet 176 = .ok (.istore 7, 2) := by decide +kernel
theorem dX12_wet_178 : decode cX12_wet 178 = .ok (.iload 7, 2) := by decide +kernel
theorem dX12_wet_180 : decode cX12_wet 180 = .ok (.sipush 10240, 3) := by decide +kernel
theorem dX12_wet_183 : decode cX12_wet 183 = .ok (.if_icmp .ge 133, 3) := by decide +kernel
theorem dX12_wet_186 : decode cX12_wet 186 = .ok (.iconst 0, 1) := by decide +kernel
theorem dX12_wet_187 : decode cX12_wet 187 = .ok (.istore 8, 2) := by decide +kernel
theorem dX12_wet_189 : decode cX12_wet 189 = .ok (.iload 8, 2) := by decide +kernel
theorem dX12_wet_191 : decode cX12_wet 191 = .ok (.bipush 10, 2) := by decide +kernel
theorem dX12_wet_193 : decode cX12_wet 193 = .ok (.if_icmp .ge 117, 3) := by decide +kernel
theorem dX12_wet_196 : decode cX12_wet 196 = .ok (.aload_n 0, 1) := by decide +kernel
theorem dX12_wet_197 : decode cX12_wet 197 = .ok (.getfield 50, 3) := by decide +kernel
theorem dX12_wet_200 : decode cX12_wet 200 = .ok (.iload 7, 2) := by decide +kernel
theorem dX12_wet_202 : decode cX12_wet 202 = .ok (.iaload, 1) := by decide +kernel
theorem dX12_wet_203 : decode cX12_wet 203 = .ok (.ifCond .le 107, 3) := by decide +kernel
theorem dX12_wet_206 : decode cX12_wet 206 = .ok (.aload_n 0, 1) := by decide +kernel
theorem dX12_wet_207 : decode cX12_wet 207 = .ok (.getfield 35, 3) := by decide +kernel
theorem dX12_wet_210 : decode cX12_wet 210 = .ok (.iload_n 1, 1) := by decide +kernel
theorem dX12_wet_211 : decode cX12_wet 211 = .ok (.iload 7, 2) := by decide +kernel
theorem dX12_wet_213 : decode cX12_wet 213 = .ok (.sipush 1024, 3) := by decide +kernel
theorem dX12_wet_216 : decode cX12_wet 216 = .ok (.idiv, 1) := by decide +kernel
theorem dX12_wet_217 : decode cX12_wet 217 = .ok (.iastore, 1) := by decide +kernel
theorem dX12_wet_218 : decode cX12_wet 218 = .ok (.aload_n 0, 1) := by decide +kernel
theorem dX12_wet_219 : decode cX12_wet 219 = .ok (.iload 7, 2) := by decide +kernel
theorem dX12_wet_221 : decode cX12_wet 221 = .ok (.bipush 32, 2) := by decide +kernel
theorem dX12_wet_223 : decode cX12_wet 223 = .ok (.idiv, 1) := by decide +kernel
theorem dX12_wet_224 : decode cX12_wet 224 = .ok (.bipush 32, 2) := by decide +kernel
theorem dX12_wet_226 : decode cX12_wet 226 = .ok (.irem, 1) := by decide +kernel
