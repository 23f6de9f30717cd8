theorem dX0_init_0 : decode cX0_init 0 = .ok (.aload_n 0, 1) := by decide +kernel
theorem dX0_init_1 : decode cX0_init 1 = .ok (.invokespecial 1, 3) := by decide +kernel
theorem dX0_init_4 : decode cX0_init 4 = .ok (.return_, 1) := by decide +kernel
theorem dX0_loadBy_0 : decode cX0_loadBy 0 = .ok (.iconst 2, 1) := by decide +kernel
theorem dX0_loadBy_1 : decode cX0_loadBy 1 = .ok (.iload_n 1, 1) := by decide +kernel
theorem dX0_loadBy_2 : decode cX0_loadBy 2 = .ok (.imul, 1) := by decide +kernel
theorem dX0_loadBy_3 : decode cX0_loadBy 3 = .ok (.ireturn, 1) := by decide +kernel
theorem dX1_init_0 : decode cX1_init 0 = .ok (.aload_n 0, 1) := by decide +kernel
theorem dX1_init_1 : decode cX1_init 1 = .ok (.invokespecial 1, 3) := by decide +kernel
theorem dX1_init_4 : decode cX1_init 4 = .ok (.return_, 1) := by decide +kernel
theorem dX1_loadBy_0 : decode cX1_loadBy 0 = .ok (.iload_n 1, 1) := by decide +kernel
theorem dX1_loadBy_1 : decode cX1_loadBy 1 = .ok (.iconst 2, 1) := by decide +kernel
theorem dX1_loadBy_2 : decode cX1_loadBy 2 = .ok (.idiv, 1) := by decide +kernel
theorem dX1_loadBy_3 : decode cX1_loadBy 3 = .ok (.ireturn, 1) := by decide +kernel
theorem dX2_init_0 : decode cX2_init 0 = .ok (.aload_n 0, 1) := by decide +kernel
theorem dX2_init_1 : decode cX2_init 1 = .ok (.invokespecial 3, 3) := by decide +kernel
theorem dX2_init_4 : decode cX2_init 4 = .ok (.aload_n 0, 1) := by decide +kernel
theorem dX2_init_5 : decode cX2_init 5 = .ok (.bipush 6, 2) := by decide +kernel
theorem dX2_init_7 : decode cX2_init 7 = .ok (.anewarray 9, 3) := by decide +kernel
theorem dX2_init_10 : decode cX2_init 10 = .ok (.dup, 1) := by decide +kernel
theorem dX2_init_11 : decode cX2_init 11 = .ok (.iconst 0, 1) := by decide +kernel
theorem dX2_init_12 : decode cX2_init 12 = .ok (.new 9, 3) := by decide +kernel
theorem dX2_init_15 : decode cX2_init 15 = .ok (.dup, 1) := by decide +kernel
theorem dX2_init_16 : decode cX2_init 16 = .ok (.invokespecial 11, 3) := by decide +kernel
theorem dX2_init_19 : decode cX2_init 19 = .ok (.aastore, 1) := by decide +kernel
theorem dX2_init_20 : decode cX2_init 20 = .ok (.dup, 1) := by decide +kernel
theorem dX2_init_21 : decode cX2_init 21 = .ok (.iconst 1, 1) := by decide +kernel
theorem dX2_init_22 : decode cX2_init 22 = .ok (.new 12, 3) := by decide +kernel
theorem dX2_init_25 : decode cX2_init 25 = .ok (.dup, 1) := by decide +kernel
theorem dX2_init_26 : decode cX2_init 26 = .ok (.invokespecial 14, 3) := by decide +kernel
theorem dX2_init_29 : decode cX2_init 29 = .ok (.aastore, 1) := by decide +kernel
theorem dX2_init_30 : decode cX2_init 30 = .ok (.dup, 1) := by decide +kernel
theorem dX2_init_31 : decode cX2_init 31 = .ok (.iconst 2, 1) := by decide +kernel
theorem dX2_init_32 : decode cX2_init 32 = .ok (.new 15, 3) := by decide +kernel
theorem dX2_init_35 : decode cX2_init 35 = .ok (.dup, 1) := by decide +kernel
theorem dX2_init_36 : decode cX2_init 36 = .ok (.invokespecial 17, 3) := by decide +kernel
theorem dX2_init_39 : decode cX2_init 39 = .ok (.aastore, 1) := by decide +kernel
theorem dX2_init_40 : decode cX2_init 40 = .ok (.dup, 1) := by decide +kernel
theorem dX2_init_41 : decode cX2_init 41 = .ok (.iconst 3, 1) := by decide +kernel
theorem dX2_init_42 : decode cX2_init 42 = .ok (.new 18, 3) := by decide +kernel
theorem dX2_init_45 : decode cX2_init 45 = .ok (.dup, 1) := by decide +kernel
theorem dX2_init_46 : decode cX2_init 46 = .ok (.invokespecial 20, 3) := by decide +kernel
theorem dX2_init_49 : decode cX2_init 49 = .ok (.aastore, 1) := by decide +kernel
theorem dX2_init_50 : decode cX2_init 50 = .ok (.dup, 1) := by decide +kernel
theorem dX2_init_51 : decode cX2_init 51 = .ok (.iconst 4, 1) := by decide +kernel
theorem dX2_init_52 : decode cX2_init 52 = .ok (.new 21, 3) := by decide +kernel
theorem dX2_init_55 : decode cX2_init 55 = .ok (.dup, 1) := by decide +kernel
theorem dX2_init_56 : decode cX2_init 56 = .ok (.invokespecial 23, 3) := by decide +kernel
theorem dX2_init_59 : decode cX2_init 59 = .ok (.aastore, 1) := by decide +kernel
theorem dX2_init_60 : decode cX2_init 60 = .ok (.dup, 1) := by decide +kernel
theorem dX2_init_61 : decode cX2_init 61 = .ok (.iconst 5, 1) := by decide +kernel
theorem dX2_init_62 : decode cX2_init 62 = .ok (.new 24, 3) := by decide +kernel
theorem dX2_init_65 : decode cX2_init 65 = .ok (.dup, 1) := by decide +kernel
theorem dX2_init_66 : decode cX2_init 66 = .ok (.invokespecial 26, 3) := by decide +kernel
theorem dX2_init_69 : decode cX2_init 69 = .ok (.aastore, 1) := by decide +kernel
theorem dX2_init_70 : decode cX2_init 70 = .ok (.putfield 27, 3) := by decide +kernel
theorem dX2_init_73 : decode cX2_init 73 = .ok (.aload_n 0, 1) := by decide +kernel
theorem dX2_init_74 : decode cX2_init 74 = .ok (.iconst 5, 1) := by decide +kernel
theorem dX2_init_75 : decode cX2_init 75 = .ok (.newarray .int, 2) := by decide +kernel
theorem dX2_init_77 : decode cX2_init 77 = .ok (.putfield 33, 3) := by decide +kernel
theorem dX2_init_80 : decode cX2_init 80 = .ok (.aload_n 0, 1) := by decide +kernel
theorem dX2_init_81 : decode cX2_init 81 = .ok (.iconst 5, 1) := by decide +kernel
theorem dX2_init_82 : decode cX2_init 82 = .ok (.newarray .int, 2) := by decide +kernel
theorem dX2_init_84 : decode cX2_init 84 = .ok (.putfield 37, 3) := by decide +kernel
theorem dX2_init_87 : decode cX2_init 87 = .ok (.aload_n 0, 1) := by decide +kernel
theorem dX2_init_88 : decode cX2_init 88 = .ok (.iconst 5, 1) := by decide +kernel
theorem dX2_init_89 : decode cX2_init 89 = .ok (.newarray .int, 2) := by decide +kernel
theorem dX2_init_91 : decode cX2_init 91 = .ok (.putfield 40, 3) := by decide +kernel
theorem dX2_init_94 : decode cX2_init 94 = .ok (.aload_n 0, 1) := by decide +kernel
theorem dX2_init_95 : decode cX2_init 95 = .ok (.iconst 5, 1) := by decide +kernel
theorem dX2_init_96 : decode cX2_init 96 = .ok (.newarray .int, 2) := by decide +kernel
theorem dX2_init_98 : decode cX2_init 98 = .ok (.putfield 43, 3) := by decide +kernel
theorem dX2_init_101 : decode cX2_init 101 = .ok (.aload_n 0, 1) := by decide +kernel
theorem dX2_init_102 : decode cX2_init 102 = .ok (.iconst 2, 1) := by decide +kernel
theorem dX2_init_103 : decode cX2_init 103 = .ok (.newarray .int, 2) := by decide +kernel
theorem dX2_init_105 : decode cX2_init 105 = .ok (.putfield 46, 3) := by decide +kernel
theorem dX2_init_108 : decode cX2_init 108 = .ok (.aload_n 0, 1) := by decide +kernel
theorem dX2_init_109 : decode cX2_init 109 = .ok (.iconst 2, 1) := by decide +kernel
theorem dX2_init_110 : decode cX2_init 110 = .ok (.newarray .int, 2) := by decide +kernel
theorem dX2_init_112 : decode cX2_init 112 = .ok (.putfield 49, 3) := by decide +kernel
theorem dX2_init_115 : decode cX2_init 115 = .ok (.aload_n 0, 1) := by decide +kernel
theorem dX2_init_116 : decode cX2_init 116 = .ok (.iconst 2, 1) := by decide +kernel
theorem dX2_init_117 : decode cX2_init 117 = .ok (.newarray .int, 2) := by decide +kernel
theorem dX2_init_119 : decode cX2_init 119 = .ok (.putfield 52, 3) := by decide +kernel
theorem dX2_init_122 : decode cX2_init 122 = .ok (.aload_n 0, 1) := by decide +kernel
theorem dX2_init_123 : decode cX2_init 123 = .ok (.iconst 3, 1) := by decide +kernel
theorem dX2_init_124 : decode cX2_init 124 = .ok (.newarray .int, 2) := by decide +kernel
theorem dX2_init_126 : decode cX2_init 126 = .ok (.putfield 55, 3) := by decide +kernel
theorem dX2_init_129 : decode cX2_init 129 = .ok (.aload_n 0, 1) := by decide +kernel
theorem dX2_init_130 : decode cX2_init 130 = .ok (.iconst 3, 1) := by decide +kernel
theorem dX2_init_131 : decode cX2_init 131 = .ok (.newarray .int, 2) := by decide +kernel
theorem dX2_init_133 : decode cX2_init 133 = .ok (.putfield 58, 3) := by decide +kernel
theorem dX2_init_136 : decode cX2_init 136 = .ok (.aload_n 0, 1) := by decide +kernel
theorem dX2_init_137 : decode cX2_init 137 = .ok (.new 61, 3) := by decide +kernel
theorem dX2_init_140 : decode cX2_init 140 = .ok (.dup, 1) := by decide +kernel
theorem dX2_init_141 : decode cX2_init 141 = .ok (.invokespecial 63, 3) := by decide +kernel
theorem dX2_init_144 : decode cX2_init 144 = .ok (.putfield 64, 3) := by decide +kernel
theorem dX2_init_147 : decode cX2_init 147 = .ok (.return_, 1) := by decide +kernel
theorem dX2_empty_0 : decode cX2_empty 0 = .ok (.aload_n 0, 1) := by decide +kernel
theorem dX2_empty_1 : decode cX2_empty 1 = .ok (.iconst 0, 1) := by decide +kernel
theorem dX2_empty_2 : decode cX2_empty 2 = .ok (.putfield 68, 3) := by decide +kernel
theorem dX2_empty_5 : decode cX2_empty 5 = .ok (.aload_n 0, 1) := by decide +kernel
theorem dX2_empty_6 : decode cX2_empty 6 = .ok (.iconst 0, 1) := by decide +kernel
theorem dX2_empty_7 : decode cX2_empty 7 = .ok (.putfield 72, 3) := by decide +kernel
theorem dX2_empty_10 : decode cX2_empty 10 = .ok (.aload_n 0, 1) := by decide +kernel
theorem dX2_empty_11 : decode cX2_empty 11 = .ok (.iconst 0, 1) := by decide +kernel
theorem dX2_empty_12 : decode cX2_empty 12 = .ok (.putfield 75, 3) := by decide +kernel
theorem dX2_empty_15 : decode cX2_empty 15 = .ok (.aload_n 0, 1) := by decide +kernel
theorem dX2_empty_16 : decode cX2_empty 16 = .ok (.iconst 0, 1) := by decide +kernel
theorem dX2_empty_17 : decode cX2_empty 17 = .ok (.putfield 78, 3) := by decide +kernel
theorem dX2_empty_20 : decode cX2_empty 20 = .ok (.aload_n 0, 1) := by decide +kernel
theorem dX2_empty_21 : decode cX2_empty 21 = .ok (.getfield 64, 3) := by decide +kernel
theorem dX2_empty_24 : decode cX2_empty 24 = .ok (.invokevirtual 81, 3) := by decide +kernel
theorem dX2_empty_27 : decode cX2_empty 27 = .ok (.return_, 1) := by decide +kernel
theorem dX2_take_0 : decode cX2_take 0 = .ok (.aload_n 0, 1) := by decide +kernel
theorem dX2_take_1 : decode cX2_take 1 = .ok (.aload_n 1, 1) := by decide +kernel
theorem dX2_take_2 : decode cX2_take 2 = .ok (.getfield 68, 3) := by decide +kernel
theorem dX2_take_5 : decode cX2_take 5 = .ok (.putfield 68, 3) := by decide +kernel
theorem dX2_take_8 : decode cX2_take 8 = .ok (.aload_n 1, 1) := by decide +kernel
theorem dX2_take_9 : decode cX2_take 9 = .ok (.getfield 33, 3) := by decide +kernel
theorem dX2_take_12 : decode cX2_take 12 = .ok (.iconst 0, 1) := by decide +kernel
theorem dX2_take_13 : decode cX2_take 13 = .ok (.aload_n 0, 1) := by decide +kernel
theorem dX2_take_14 : decode cX2_take 14 = .ok (.getfield 33, 3) := by decide +kernel
theorem dX2_take_17 : decode cX2_take 17 = .ok (.iconst 0, 1) := by decide +kernel
theorem dX2_take_18 : decode cX2_take 18 = .ok (.iconst 5, 1) := by decide +kernel
theorem dX2_take_19 : decode cX2_take 19 = .ok (.invokestatic 84, 3) := by decide +kernel
theorem dX2_take_22 : decode cX2_take 22 = .ok (.aload_n 1, 1) := by decide +kernel
theorem dX2_take_23 : decode cX2_take 23 = .ok (.getfield 37, 3) := by decide +kernel
theorem dX2_take_26 : decode cX2_take 26 = .ok (.iconst 0, 1) := by decide +kernel
theorem dX2_take_27 : decode cX2_take 27 = .ok (.aload_n 0, 1) := by decide +kernel
theorem dX2_take_28 : decode cX2_take 28 = .ok (.getfield 37, 3) := by decide +kernel
theorem dX2_take_31 : decode cX2_take 31 = .ok (.iconst 0, 1) := by decide +kernel
theorem dX2_take_32 : decode cX2_take 32 = .ok (.iconst 5, 1) := by decide +kernel
theorem dX2_take_33 : decode cX2_take 33 = .ok (.invokestatic 84, 3) := by decide +kernel
theorem dX2_take_36 : decode cX2_take 36 = .ok (.aload_n 1, 1) := by decide +kernel
theorem dX2_take_37 : decode cX2_take 37 = .ok (.getfield 40, 3) := by decide +kernel
theorem dX2_take_40 : decode cX2_take 40 = .ok (.iconst 0, 1) := by decide +kernel
theorem dX2_take_41 : decode cX2_take 41 = .ok (.aload_n 0, 1) := by decide +kernel
theorem dX2_take_42 : decode cX2_take 42 = .ok (.getfield 40, 3) := by decide +kernel
theorem dX2_take_45 : decode cX2_take 45 = .ok (.iconst 0, 1) := by decide +kernel
theorem dX2_take_46 : decode cX2_take 46 = .ok (.iconst 5, 1) := by decide +kernel
theorem dX2_take_47 : decode cX2_take 47 = .ok (.invokestatic 84, 3) := by decide +kernel
theorem dX2_take_50 : decode cX2_take 50 = .ok (.aload_n 1, 1) := by decide +kernel
theorem dX2_take_51 : decode cX2_take 51 = .ok (.getfield 43, 3) := by decide +kernel
theorem dX2_take_54 : decode cX2_take 54 = .ok (.iconst 0, 1) := by decide +kernel
theorem dX2_take_55 : decode cX2_take 55 = .ok (.aload_n 0, 1) := by decide +kernel
theorem dX2_take_56 : decode cX2_take 56 = .ok (.getfield 43, 3) := by decide +kernel
theorem dX2_take_59 : decode cX2_take 59 = .ok (.iconst 0, 1) := by decide +kernel
theorem dX2_take_60 : decode cX2_take 60 = .ok (.iconst 5, 1) := by decide +kernel
theorem dX2_take_61 : decode cX2_take 61 = .ok (.invokestatic 84, 3) := by decide +kernel
theorem dX2_take_64 : decode cX2_take 64 = .ok (.aload_n 0, 1) := by decide +kernel
theorem dX2_take_65 : decode cX2_take 65 = .ok (.aload_n 1, 1) := by decide +kernel
theorem dX2_take_66 : decode cX2_take 66 = .ok (.getfield 72, 3) := by decide +kernel
theorem dX2_take_69 : decode cX2_take 69 = .ok (.putfield 72, 3) := by decide +kernel
theorem dX2_take_72 : decode cX2_take 72 = .ok (.aload_n 0, 1) := by decide +kernel
theorem dX2_take_73 : decode cX2_take 73 = .ok (.aload_n 1, 1) := by decide +kernel
theorem dX2_take_74 : decode cX2_take 74 = .ok (.getfield 75, 3) := by decide +kernel
theorem dX2_take_77 : decode cX2_take 77 = .ok (.putfield 75, 3) := by decide +kernel
theorem dX2_take_80 : decode cX2_take 80 = .ok (.aload_n 1, 1) := by decide +kernel
theorem dX2_take_81 : decode cX2_take 81 = .ok (.getfield 46, 3) := by decide +kernel
theorem dX2_take_84 : decode cX2_take 84 = .ok (.iconst 0, 1) := by decide +kernel
theorem dX2_take_85 : decode cX2_take 85 = .ok (.aload_n 0, 1) := by decide +kernel
theorem dX2_take_86 : decode cX2_take 86 = .ok (.getfield 46, 3) := by decide +kernel
theorem dX2_take_89 : decode cX2_take 89 = .ok (.iconst 0, 1) := by decide +kernel
theorem dX2_take_90 : decode cX2_take 90 = .ok (.iconst 2, 1) := by decide +kernel
theorem dX2_take_91 : decode cX2_take 91 = .ok (.invokestatic 84, 3) := by decide +kernel
theorem dX2_take_94 : decode cX2_take 94 = .ok (.aload_n 1, 1) := by decide +kernel
theorem dX2_take_95 : decode cX2_take 95 = .ok (.getfield 49, 3) := by decide +kernel
theorem dX2_take_98 : decode cX2_take 98 = .ok (.iconst 0, 1) := by decide +kernel
theorem dX2_take_99 : decode cX2_take 99 = .ok (.aload_n 0, 1) := by decide +kernel
theorem dX2_take_100 : decode cX2_take 100 = .ok (.getfield 49, 3) := by decide +kernel
theorem dX2_take_103 : decode cX2_take 103 = .ok (.iconst 0, 1) := by decide +kernel
theorem dX2_take_104 : decode cX2_take 104 = .ok (.iconst 2, 1) := by decide +kernel
theorem dX2_take_105 : decode cX2_take 105 = .ok (.invokestatic 84, 3) := by decide +kernel
theorem dX2_take_108 : decode cX2_take 108 = .ok (.aload_n 1, 1) := by decide +kernel
theorem dX2_take_109 : decode cX2_take 109 = .ok (.getfield 52, 3) := by decide +kernel
theorem dX2_take_112 : decode cX2_take 112 = .ok (.iconst 0, 1) := by decide +kernel
theorem dX2_take_113 : decode cX2_take 113 = .ok (.aload_n 0, 1) := by decide +kernel
theorem dX2_take_114 : decode cX2_take 114 = .ok (.getfield 52, 3) := by decide +kernel
theorem dX2_take_117 : decode cX2_take 117 = .ok (.iconst 0, 1) := by decide +kernel
theorem dX2_take_118 : decode cX2_take 118 = .ok (.iconst 2, 1) := by decide +kernel
theorem dX2_take_119 : decode cX2_take 119 = .ok (.invokestatic 84, 3) := by decide +kernel
theorem dX2_take_122 : decode cX2_take 122 = .ok (.aload_n 0, 1) := by decide +kernel
theorem dX2_take_123 : decode cX2_take 123 = .ok (.aload_n 1, 1) := by decide +kernel
theorem dX2_take_124 : decode cX2_take 124 = .ok (.getfield 78, 3) := by decide +kernel
theorem dX2_take_127 : decode cX2_take 127 = .ok (.putfield 78, 3) := by decide +kernel
theorem dX2_take_130 : decode cX2_take 130 = .ok (.aload_n 1, 1) := by decide +kernel
theorem dX2_take_131 : decode cX2_take 131 = .ok (.getfield 55, 3) := by decide +kernel
theorem dX2_take_134 : decode cX2_take 134 = .ok (.iconst 0, 1) := by decide +kernel
theorem dX2_take_135 : decode cX2_take 135 = .ok (.aload_n 0, 1) := by decide +kernel
theorem dX2_take_136 : decode cX2_take 136 = .ok (.getfield 55, 3) := by decide +kernel
theorem dX2_take_139 : decode cX2_take 139 = .ok (.iconst 0, 1) := by decide +kernel
theorem dX2_take_140 : decode cX2_take 140 = .ok (.iconst 3, 1) := by decide +kernel
theorem dX2_take_141 : decode cX2_take 141 = .ok (.invokestatic 84, 3) := by decide +kernel
theorem dX2_take_144 : decode cX2_take 144 = .ok (.aload_n 1, 1) := by decide +kernel
theorem dX2_take_145 : decode cX2_take 145 = .ok (.getfield 58, 3) := by decide +kernel
theorem dX2_take_148 : decode cX2_take 148 = .ok (.iconst 0, 1) := by decide +kernel
theorem dX2_take_149 : decode cX2_take 149 = .ok (.aload_n 0, 1) := by decide +kernel
theorem dX2_take_150 : decode cX2_take 150 = .ok (.getfield 58, 3) := by decide +kernel
theorem dX2_take_153 : decode cX2_take 153 = .ok (.iconst 0, 1) := by decide +kernel
theorem dX2_take_154 : decode cX2_take 154 = .ok (.iconst 3, 1) := by decide +kernel
theorem dX2_take_155 : decode cX2_take 155 = .ok (.invokestatic 84, 3) := by decide +kernel
theorem dX2_take_158 : decode cX2_take 158 = .ok (.aload_n 0, 1) := by decide +kernel
theorem dX2_take_159 : decode cX2_take 159 = .ok (.getfield 64, 3) := by decide +kernel
theorem dX2_take_162 : decode cX2_take 162 = .ok (.aload_n 1, 1) := by decide +kernel
theorem dX2_take_163 : decode cX2_take 163 = .ok (.getfield 64, 3) := by decide +kernel
theorem dX2_take_166 : decode cX2_take 166 = .ok (.invokevirtual 90, 3) := by decide +kernel
theorem dX2_take_169 : decode cX2_take 169 = .ok (.return_, 1) := by decide +kernel
theorem dX2_addBridge_0 : decode cX2_addBridge 0 = .ok (.iload_n 1, 1) := by decide +kernel
theorem dX2_addBridge_1 : decode cX2_addBridge 1 = .ok (.invokestatic 94, 3) := by decide +kernel
theorem dX2_addBridge_4 : decode cX2_addBridge 4 = .ok (.ifCond .eq 25, 3) := by decide +kernel
theorem dX2_addBridge_7 : decode cX2_addBridge 7 = .ok (.iload_n 2, 1) := by decide +kernel
theorem dX2_addBridge_8 : decode cX2_addBridge 8 = .ok (.invokestatic 94, 3) := by decide +kernel
theorem dX2_addBridge_11 : decode cX2_addBridge 11 = .ok (.ifCond .eq 18, 3) := by decide +kernel
theorem dX2_addBridge_14 : decode cX2_addBridge 14 = .ok (.iload_n 1, 1) := by decide +kernel
theorem dX2_addBridge_15 : decode cX2_addBridge 15 = .ok (.iload_n 2, 1) := by decide +kernel
theorem dX2_addBridge_16 : decode cX2_addBridge 16 = .ok (.if_icmp .eq 13, 3) := by decide +kernel
theorem dX2_addBridge_19 : decode cX2_addBridge 19 = .ok (.iload_n 3, 1) := by decide +kernel
theorem dX2_addBridge_20 : decode cX2_addBridge 20 = .ok (.ifCond .lt 9, 3) := by decide +kernel
theorem dX2_addBridge_23 : decode cX2_addBridge 23 = .ok (.iload_n 3, 1) := by decide +kernel
theorem dX2_addBridge_24 : decode cX2_addBridge 24 = .ok (.bipush 6, 2) := by decide +kernel
theorem dX2_addBridge_26 : decode cX2_addBridge 26 = .ok (.if_icmp .lt 6, 3) := by decide +kernel
theorem dX2_addBridge_29 : decode cX2_addBridge 29 = .ok (.bipush (-2), 2) := by decide +kernel
theorem dX2_addBridge_31 : decode cX2_addBridge 31 = .ok (.ireturn, 1) := by decide +kernel
theorem dX2_addBridge_32 : decode cX2_addBridge 32 = .ok (.aload_n 0, 1) := by decide +kernel
theorem dX2_addBridge_33 : decode cX2_addBridge 33 = .ok (.getfield 68, 3) := by decide +kernel
theorem dX2_addBridge_36 : decode cX2_addBridge 36 = .ok (.iconst 5, 1) := by decide +kernel
theorem dX2_addBridge_37 : decode cX2_addBridge 37 = .ok (.if_icmp .ne 6, 3) := by decide +kernel
theorem dX2_addBridge_40 : decode cX2_addBridge 40 = .ok (.bipush (-4), 2) := by decide +kernel
theorem dX2_addBridge_42 : decode cX2_addBridge 42 = .ok (.ireturn, 1) := by decide +kernel
theorem dX2_addBridge_43 : decode cX2_addBridge 43 = .ok (.aload_n 0, 1) := by decide +kernel
theorem dX2_addBridge_44 : decode cX2_addBridge 44 = .ok (.getfield 33, 3) := by decide +kernel
theorem dX2_addBridge_47 : decode cX2_addBridge 47 = .ok (.aload_n 0, 1) := by decide +kernel
theorem dX2_addBridge_48 : decode cX2_addBridge 48 = .ok (.getfield 68, 3) := by decide +kernel
theorem dX2_addBridge_51 : decode cX2_addBridge 51 = .ok (.iload_n 1, 1) := by decide +kernel
theorem dX2_addBridge_52 : decode cX2_addBridge 52 = .ok (.iastore, 1) := by decide +kernel
theorem dX2_addBridge_53 : decode cX2_addBridge 53 = .ok (.aload_n 0, 1) := by decide +kernel
theorem dX2_addBridge_54 : decode cX2_addBridge 54 = .ok (.getfield 37, 3) := by decide +kernel
theorem dX2_addBridge_57 : decode cX2_addBridge 57 = .ok (.aload_n 0, 1) := by decide +kernel
theorem dX2_addBridge_58 : decode cX2_addBridge 58 = .ok (.getfield 68, 3) := by decide +kernel
theorem dX2_addBridge_61 : decode cX2_addBridge 61 = .ok (.iload_n 2, 1) := by decide +kernel
theorem dX2_addBridge_62 : decode cX2_addBridge 62 = .ok (.iastore, 1) := by decide +kernel
theorem dX2_addBridge_63 : decode cX2_addBridge 63 = .ok (.aload_n 0, 1) := by decide +kernel
theorem dX2_addBridge_64 : decode cX2_addBridge 64 = .ok (.getfield 40, 3) := by decide +kernel
theorem dX2_addBridge_67 : decode cX2_addBridge 67 = .ok (.aload_n 0, 1) := by decide +kernel
theorem dX2_addBridge_68 : decode cX2_addBridge 68 = .ok (.getfield 68, 3) := by decide +kernel
theorem dX2_addBridge_71 : decode cX2_addBridge 71 = .ok (.iload_n 3, 1) := by decide +kernel
theorem dX2_addBridge_72 : decode cX2_addBridge 72 = .ok (.iastore, 1) := by decide +kernel
theorem dX2_addBridge_73 : decode cX2_addBridge 73 = .ok (.aload_n 0, 1) := by decide +kernel
theorem dX2_addBridge_74 : decode cX2_addBridge 74 = .ok (.getfield 43, 3) := by decide +kernel
theorem dX2_addBridge_77 : decode cX2_addBridge 77 = .ok (.aload_n 0, 1) := by decide +kernel
theorem dX2_addBridge_78 : decode cX2_addBridge 78 = .ok (.getfield 68, 3) := by decide +kernel
theorem dX2_addBridge_81 : decode cX2_addBridge 81 = .ok (.iconst 0, 1) := by decide +kernel
theorem dX2_addBridge_82 : decode cX2_addBridge 82 = .ok (.iastore, 1) := by decide +kernel
theorem dX2_addBridge_83 : decode cX2_addBridge 83 = .ok (.iload 4, 2) := by decide +kernel
theorem dX2_addBridge_85 : decode cX2_addBridge 85 = .ok (.ifCond .eq 18, 3) := by decide +kernel
theorem dX2_addBridge_88 : decode cX2_addBridge 88 = .ok (.aload_n 0, 1) := by decide +kernel
theorem dX2_addBridge_89 : decode cX2_addBridge 89 = .ok (.dup, 1) := by decide +kernel
theorem dX2_addBridge_90 : decode cX2_addBridge 90 = .ok (.getfield 72, 3) := by decide +kernel
theorem dX2_addBridge_93 : decode cX2_addBridge 93 = .ok (.iconst 1, 1) := by decide +kernel
theorem dX2_addBridge_94 : decode cX2_addBridge 94 = .ok (.aload_n 0, 1) := by decide +kernel
theorem dX2_addBridge_95 : decode cX2_addBridge 95 = .ok (.getfield 68, 3) := by decide +kernel
theorem dX2_addBridge_98 : decode cX2_addBridge 98 = .ok (.ishl, 1) := by decide +kernel
theorem dX2_addBridge_99 : decode cX2_addBridge 99 = .ok (.ior, 1) := by decide +kernel
theorem dX2_addBridge_100 : decode cX2_addBridge 100 = .ok (.putfield 72, 3) := by decide +kernel
theorem dX2_addBridge_103 : decode cX2_addBridge 103 = .ok (.aload_n 0, 1) := by decide +kernel
theorem dX2_addBridge_104 : decode cX2_addBridge 104 = .ok (.getfield 64, 3) := by decide +kernel
theorem dX2_addBridge_107 : decode cX2_addBridge 107 = .ok (.invokevirtual 81, 3) := by decide +kernel
theorem dX2_addBridge_110 : decode cX2_addBridge 110 = .ok (.aload_n 0, 1) := by decide +kernel
theorem dX2_addBridge_111 : decode cX2_addBridge 111 = .ok (.dup, 1) := by decide +kernel
theorem dX2_addBridge_112 : decode cX2_addBridge 112 = .ok (.getfield 68, 3) := by decide +kernel
theorem dX2_addBridge_115 : decode cX2_addBridge 115 = .ok (.dup_x1, 1) := by decide +kernel
theorem dX2_addBridge_116 : decode cX2_addBridge 116 = .ok (.iconst 1, 1) := by decide +kernel
theorem dX2_addBridge_117 : decode cX2_addBridge 117 = .ok (.iadd, 1) := by decide +kernel
theorem dX2_addBridge_118 : decode cX2_addBridge 118 = .ok (.putfield 68, 3) := by decide +kernel
theorem dX2_addBridge_121 : decode cX2_addBridge 121 = .ok (.ireturn, 1) := by decide +kernel
theorem dX2_addChain_0 : decode cX2_addChain 0 = .ok (.aload_n 0, 1) := by decide +kernel
theorem dX2_addChain_1 : decode cX2_addChain 1 = .ok (.iload_n 1, 1) := by decide +kernel
theorem dX2_addChain_2 : decode cX2_addChain 2 = .ok (.invokevirtual 98, 3) := by decide +kernel
theorem dX2_addChain_5 : decode cX2_addChain 5 = .ok (.ifCond .eq 26, 3) := by decide +kernel
theorem dX2_addChain_8 : decode cX2_addChain 8 = .ok (.aload_n 0, 1) := by decide +kernel
theorem dX2_addChain_9 : decode cX2_addChain 9 = .ok (.iload_n 2, 1) := by decide +kernel
theorem dX2_addChain_10 : decode cX2_addChain 10 = .ok (.invokevirtual 98, 3) := by decide +kernel
theorem dX2_addChain_13 : decode cX2_addChain 13 = .ok (.ifCond .eq 18, 3) := by decide +kernel
theorem dX2_addChain_16 : decode cX2_addChain 16 = .ok (.iload_n 1, 1) := by decide +kernel
theorem dX2_addChain_17 : decode cX2_addChain 17 = .ok (.iload_n 2, 1) := by decide +kernel
theorem dX2_addChain_18 : decode cX2_addChain 18 = .ok (.if_icmp .eq 13, 3) := by decide +kernel
theorem dX2_addChain_21 : decode cX2_addChain 21 = .ok (.iload_n 3, 1) := by decide +kernel
theorem dX2_addChain_22 : decode cX2_addChain 22 = .ok (.ifCond .lt 9, 3) := by decide +kernel
theorem dX2_addChain_25 : decode cX2_addChain 25 = .ok (.iload_n 3, 1) := by decide +kernel
theorem dX2_addChain_26 : decode cX2_addChain 26 = .ok (.bipush 9, 2) := by decide +kernel
theorem dX2_addChain_28 : decode cX2_addChain 28 = .ok (.if_icmp .le 6, 3) := by decide +kernel
theorem dX2_addChain_31 : decode cX2_addChain 31 = .ok (.bipush (-2), 2) := by decide +kernel
theorem dX2_addChain_33 : decode cX2_addChain 33 = .ok (.ireturn, 1) := by decide +kernel
theorem dX2_addChain_34 : decode cX2_addChain 34 = .ok (.aload_n 0, 1) := by decide +kernel
theorem dX2_addChain_35 : decode cX2_addChain 35 = .ok (.iload_n 1, 1) := by decide +kernel
theorem dX2_addChain_36 : decode cX2_addChain 36 = .ok (.invokevirtual 101, 3) := by decide +kernel
theorem dX2_addChain_39 : decode cX2_addChain 39 = .ok (.ifCond .ne 11, 3) := by decide +kernel
theorem dX2_addChain_42 : decode cX2_addChain 42 = .ok (.aload_n 0, 1) := by decide +kernel
theorem dX2_addChain_43 : decode cX2_addChain 43 = .ok (.iload_n 2, 1) := by decide +kernel
theorem dX2_addChain_44 : decode cX2_addChain 44 = .ok (.invokevirtual 101, 3) := by decide +kernel
theorem dX2_addChain_47 : decode cX2_addChain 47 = .ok (.ifCond .eq 6, 3) := by decide +kernel
theorem dX2_addChain_50 : decode cX2_addChain 50 = .ok (.bipush (-3), 2) := by decide +kernel
theorem dX2_addChain_52 : decode cX2_addChain 52 = .ok (.ireturn, 1) := by decide +kernel
theorem dX2_addChain_53 : decode cX2_addChain 53 = .ok (.aload_n 0, 1) := by decide +kernel
theorem dX2_addChain_54 : decode cX2_addChain 54 = .ok (.getfield 75, 3) := by decide +kernel
theorem dX2_addChain_57 : decode cX2_addChain 57 = .ok (.iconst 2, 1) := by decide +kernel
theorem dX2_addChain_58 : decode cX2_addChain 58 = .ok (.if_icmp .ne 6, 3) := by decide +kernel
theorem dX2_addChain_61 : decode cX2_addChain 61 = .ok (.bipush (-4), 2) := by decide +kernel
theorem dX2_addChain_63 : decode cX2_addChain 63 = .ok (.ireturn, 1) := by decide +kernel
theorem dX2_addChain_64 : decode cX2_addChain 64 = .ok (.aload_n 0, 1) := by decide +kernel
theorem dX2_addChain_65 : decode cX2_addChain 65 = .ok (.getfield 46, 3) := by decide +kernel
theorem dX2_addChain_68 : decode cX2_addChain 68 = .ok (.aload_n 0, 1) := by decide +kernel
theorem dX2_addChain_69 : decode cX2_addChain 69 = .ok (.getfield 75, 3) := by decide +kernel
theorem dX2_addChain_72 : decode cX2_addChain 72 = .ok (.iload_n 1, 1) := by decide +kernel
theorem dX2_addChain_73 : decode cX2_addChain 73 = .ok (.iastore, 1) := by decide +kernel
theorem dX2_addChain_74 : decode cX2_addChain 74 = .ok (.aload_n 0, 1) := by decide +kernel
theorem dX2_addChain_75 : decode cX2_addChain 75 = .ok (.getfield 49, 3) := by decide +kernel
theorem dX2_addChain_78 : decode cX2_addChain 78 = .ok (.aload_n 0, 1) := by decide +kernel
theorem dX2_addChain_79 : decode cX2_addChain 79 = .ok (.getfield 75, 3) := by decide +kernel
theorem dX2_addChain_82 : decode cX2_addChain 82 = .ok (.iload_n 2, 1) := by decide +kernel
theorem dX2_addChain_83 : decode cX2_addChain 83 = .ok (.iastore, 1) := by decide +kernel
theorem dX2_addChain_84 : decode cX2_addChain 84 = .ok (.aload_n 0, 1) := by decide +kernel
theorem dX2_addChain_85 : decode cX2_addChain 85 = .ok (.getfield 52, 3) := by decide +kernel
theorem dX2_addChain_88 : decode cX2_addChain 88 = .ok (.aload_n 0, 1) := by decide +kernel
theorem dX2_addChain_89 : decode cX2_addChain 89 = .ok (.getfield 75, 3) := by decide +kernel
theorem dX2_addChain_92 : decode cX2_addChain 92 = .ok (.iload_n 3, 1) := by decide +kernel
theorem dX2_addChain_93 : decode cX2_addChain 93 = .ok (.iastore, 1) := by decide +kernel
theorem dX2_addChain_94 : decode cX2_addChain 94 = .ok (.aload_n 0, 1) := by decide +kernel
theorem dX2_addChain_95 : decode cX2_addChain 95 = .ok (.getfield 64, 3) := by decide +kernel
theorem dX2_addChain_98 : decode cX2_addChain 98 = .ok (.invokevirtual 81, 3) := by decide +kernel
theorem dX2_addChain_101 : decode cX2_addChain 101 = .ok (.aload_n 0, 1) := by decide +kernel
theorem dX2_addChain_102 : decode cX2_addChain 102 = .ok (.dup, 1) := by decide +kernel
theorem dX2_addChain_103 : decode cX2_addChain 103 = .ok (.getfield 75, 3) := by decide +kernel
theorem dX2_addChain_106 : decode cX2_addChain 106 = .ok (.dup_x1, 1) := by decide +kernel
theorem dX2_addChain_107 : decode cX2_addChain 107 = .ok (.iconst 1, 1) := by decide +kernel
theorem dX2_addChain_108 : decode cX2_addChain 108 = .ok (.iadd, 1) := by decide +kernel
theorem dX2_addChain_109 : decode cX2_addChain 109 = .ok (.putfield 75, 3) := by decide +kernel
theorem dX2_addChain_112 : decode cX2_addChain 112 = .ok (.ireturn, 1) := by decide +kernel
theorem dX2_setBallast_0 : decode cX2_setBallast 0 = .ok (.aload_n 0, 1) := by decide +kernel
theorem dX2_setBallast_1 : decode cX2_setBallast 1 = .ok (.iload_n 1, 1) := by decide +kernel
theorem dX2_setBallast_2 : decode cX2_setBallast 2 = .ok (.invokevirtual 98, 3) := by decide +kernel
theorem dX2_setBallast_5 : decode cX2_setBallast 5 = .ok (.ifCond .eq 13, 3) := by decide +kernel
theorem dX2_setBallast_8 : decode cX2_setBallast 8 = .ok (.iload_n 2, 1) := by decide +kernel
theorem dX2_setBallast_9 : decode cX2_setBallast 9 = .ok (.ifCond .lt 9, 3) := by decide +kernel
theorem dX2_setBallast_12 : decode cX2_setBallast 12 = .ok (.iload_n 2, 1) := by decide +kernel
theorem dX2_setBallast_13 : decode cX2_setBallast 13 = .ok (.bipush 20, 2) := by decide +kernel
theorem dX2_setBallast_15 : decode cX2_setBallast 15 = .ok (.if_icmp .le 6, 3) := by decide +kernel
theorem dX2_setBallast_18 : decode cX2_setBallast 18 = .ok (.bipush (-2), 2) := by decide +kernel
theorem dX2_setBallast_20 : decode cX2_setBallast 20 = .ok (.ireturn, 1) := by decide +kernel
theorem dX2_setBallast_21 : decode cX2_setBallast 21 = .ok (.aload_n 0, 1) := by decide +kernel
theorem dX2_setBallast_22 : decode cX2_setBallast 22 = .ok (.getfield 43, 3) := by decide +kernel
theorem dX2_setBallast_25 : decode cX2_setBallast 25 = .ok (.iload_n 1, 1) := by decide +kernel
theorem dX2_setBallast_26 : decode cX2_setBallast 26 = .ok (.iaload, 1) := by decide +kernel
theorem dX2_setBallast_27 : decode cX2_setBallast 27 = .ok (.istore_n 3, 1) := by decide +kernel
theorem dX2_setBallast_28 : decode cX2_setBallast 28 = .ok (.aload_n 0, 1) := by decide +kernel
theorem dX2_setBallast_29 : decode cX2_setBallast 29 = .ok (.getfield 43, 3) := by decide +kernel
theorem dX2_setBallast_32 : decode cX2_setBallast 32 = .ok (.iload_n 1, 1) := by decide +kernel
theorem dX2_setBallast_33 : decode cX2_setBallast 33 = .ok (.iload_n 2, 1) := by decide +kernel
theorem dX2_setBallast_34 : decode cX2_setBallast 34 = .ok (.iastore, 1) := by decide +kernel
theorem dX2_setBallast_35 : decode cX2_setBallast 35 = .ok (.iload_n 3, 1) := by decide +kernel
theorem dX2_setBallast_36 : decode cX2_setBallast 36 = .ok (.ireturn, 1) := by decide +kernel
theorem dX2_addPerson_0 : decode cX2_addPerson 0 = .ok (.iload_n 1, 1) := by decide +kernel
theorem dX2_addPerson_1 : decode cX2_addPerson 1 = .ok (.iconst 1, 1) := by decide +kernel
theorem dX2_addPerson_2 : decode cX2_addPerson 2 = .ok (.if_icmp .lt 16, 3) := by decide +kernel
theorem dX2_addPerson_5 : decode cX2_addPerson 5 = .ok (.iload_n 1, 1) := by decide +kernel
theorem dX2_addPerson_6 : decode cX2_addPerson 6 = .ok (.bipush 9, 2) := by decide +kernel
theorem dX2_addPerson_8 : decode cX2_addPerson 8 = .ok (.if_icmp .gt 10, 3) := by decide +kernel
theorem dX2_addPerson_11 : decode cX2_addPerson 11 = .ok (.iload_n 2, 1) := by decide +kernel
theorem dX2_addPerson_12 : decode cX2_addPerson 12 = .ok (.invokestatic 94, 3) := by decide +kernel
theorem dX2_addPerson_15 : decode cX2_addPerson 15 = .ok (.ifCond .ne 6, 3) := by decide +kernel
theorem dX2_addPerson_18 : decode cX2_addPerson 18 = .ok (.bipush (-2), 2) := by decide +kernel
theorem dX2_addPerson_20 : decode cX2_addPerson 20 = .ok (.ireturn, 1) := by decide +kernel
theorem dX2_addPerson_21 : decode cX2_addPerson 21 = .ok (.aload_n 0, 1) := by decide +kernel
theorem dX2_addPerson_22 : decode cX2_addPerson 22 = .ok (.getfield 78, 3) := by decide +kernel
theorem dX2_addPerson_25 : decode cX2_addPerson 25 = .ok (.iconst 3, 1) := by decide +kernel
theorem dX2_addPerson_26 : decode cX2_addPerson 26 = .ok (.if_icmp .ne 6, 3) := by decide +kernel
theorem dX2_addPerson_29 : decode cX2_addPerson 29 = .ok (.bipush (-4), 2) := by decide +kernel
theorem dX2_addPerson_31 : decode cX2_addPerson 31 = .ok (.ireturn, 1) := by decide +kernel
theorem dX2_addPerson_32 : decode cX2_addPerson 32 = .ok (.aload_n 0, 1) := by decide +kernel
theorem dX2_addPerson_33 : decode cX2_addPerson 33 = .ok (.getfield 55, 3) := by decide +kernel
theorem dX2_addPerson_36 : decode cX2_addPerson 36 = .ok (.aload_n 0, 1) := by decide +kernel
theorem dX2_addPerson_37 : decode cX2_addPerson 37 = .ok (.getfield 78, 3) := by decide +kernel
theorem dX2_addPerson_40 : decode cX2_addPerson 40 = .ok (.iload_n 1, 1) := by decide +kernel
theorem dX2_addPerson_41 : decode cX2_addPerson 41 = .ok (.iastore, 1) := by decide +kernel
theorem dX2_addPerson_42 : decode cX2_addPerson 42 = .ok (.aload_n 0, 1) := by decide +kernel
theorem dX2_addPerson_43 : decode cX2_addPerson 43 = .ok (.getfield 58, 3) := by decide +kernel
theorem dX2_addPerson_46 : decode cX2_addPerson 46 = .ok (.aload_n 0, 1) := by decide +kernel
theorem dX2_addPerson_47 : decode cX2_addPerson 47 = .ok (.getfield 78, 3) := by decide +kernel
theorem dX2_addPerson_50 : decode cX2_addPerson 50 = .ok (.iload_n 2, 1) := by decide +kernel
theorem dX2_addPerson_51 : decode cX2_addPerson 51 = .ok (.iastore, 1) := by decide +kernel
theorem dX2_addPerson_52 : decode cX2_addPerson 52 = .ok (.aload_n 0, 1) := by decide +kernel
theorem dX2_addPerson_53 : decode cX2_addPerson 53 = .ok (.getfield 64, 3) := by decide +kernel
theorem dX2_addPerson_56 : decode cX2_addPerson 56 = .ok (.invokevirtual 81, 3) := by decide +kernel
theorem dX2_addPerson_59 : decode cX2_addPerson 59 = .ok (.aload_n 0, 1) := by decide +kernel
theorem dX2_addPerson_60 : decode cX2_addPerson 60 = .ok (.dup, 1) := by decide +kernel
theorem dX2_addPerson_61 : decode cX2_addPerson 61 = .ok (.getfield 78, 3) := by decide +kernel
theorem dX2_addPerson_64 : decode cX2_addPerson 64 = .ok (.dup_x1, 1) := by decide +kernel
theorem dX2_addPerson_65 : decode cX2_addPerson 65 = .ok (.iconst 1, 1) := by decide +kernel
theorem dX2_addPerson_66 : decode cX2_addPerson 66 = .ok (.iadd, 1) := by decide +kernel
theorem dX2_addPerson_67 : decode cX2_addPerson 67 = .ok (.putfield 78, 3) := by decide +kernel
theorem dX2_addPerson_70 : decode cX2_addPerson 70 = .ok (.ireturn, 1) := by decide +kernel
theorem dX2_isBridge_0 : decode cX2_isBridge 0 = .ok (.iload_n 1, 1) := by decide +kernel
theorem dX2_isBridge_1 : decode cX2_isBridge 1 = .ok (.ifCond .lt 15, 3) := by decide +kernel
theorem dX2_isBridge_4 : decode cX2_isBridge 4 = .ok (.iload_n 1, 1) := by decide +kernel
theorem dX2_isBridge_5 : decode cX2_isBridge 5 = .ok (.aload_n 0, 1) := by decide +kernel
theorem dX2_isBridge_6 : decode cX2_isBridge 6 = .ok (.getfield 68, 3) := by decide +kernel
theorem dX2_isBridge_9 : decode cX2_isBridge 9 = .ok (.if_icmp .ge 7, 3) := by decide +kernel
theorem dX2_isBridge_12 : decode cX2_isBridge 12 = .ok (.iconst 1, 1) := by decide +kernel
theorem dX2_isBridge_13 : decode cX2_isBridge 13 = .ok (.goto 4, 3) := by decide +kernel
theorem dX2_isBridge_16 : decode cX2_isBridge 16 = .ok (.iconst 0, 1) := by decide +kernel
theorem dX2_isBridge_17 : decode cX2_isBridge 17 = .ok (.ireturn, 1) := by decide +kernel
theorem dX2_isPerson_0 : decode cX2_isPerson 0 = .ok (.iload_n 1, 1) := by decide +kernel
theorem dX2_isPerson_1 : decode cX2_isPerson 1 = .ok (.ifCond .lt 15, 3) := by decide +kernel
theorem dX2_isPerson_4 : decode cX2_isPerson 4 = .ok (.iload_n 1, 1) := by decide +kernel
theorem dX2_isPerson_5 : decode cX2_isPerson 5 = .ok (.aload_n 0, 1) := by decide +kernel
theorem dX2_isPerson_6 : decode cX2_isPerson 6 = .ok (.getfield 78, 3) := by decide +kernel
theorem dX2_isPerson_9 : decode cX2_isPerson 9 = .ok (.if_icmp .ge 7, 3) := by decide +kernel
theorem dX2_isPerson_12 : decode cX2_isPerson 12 = .ok (.iconst 1, 1) := by decide +kernel
theorem dX2_isPerson_13 : decode cX2_isPerson 13 = .ok (.goto 4, 3) := by decide +kernel
theorem dX2_isPerson_16 : decode cX2_isPerson 16 = .ok (.iconst 0, 1) := by decide +kernel
theorem dX2_isPerson_17 : decode cX2_isPerson 17 = .ok (.ireturn, 1) := by decide +kernel
theorem dX2_isPlace_0 : decode cX2_isPlace 0 = .ok (.iload_n 1, 1) := by decide +kernel
theorem dX2_isPlace_1 : decode cX2_isPlace 1 = .ok (.ifCond .lt 17, 3) := by decide +kernel
theorem dX2_isPlace_4 : decode cX2_isPlace 4 = .ok (.iload_n 1, 1) := by decide +kernel
theorem dX2_isPlace_5 : decode cX2_isPlace 5 = .ok (.iconst 5, 1) := by decide +kernel
theorem dX2_isPlace_6 : decode cX2_isPlace 6 = .ok (.aload_n 0, 1) := by decide +kernel
theorem dX2_isPlace_7 : decode cX2_isPlace 7 = .ok (.getfield 68, 3) := by decide +kernel
theorem dX2_isPlace_10 : decode cX2_isPlace 10 = .ok (.iadd, 1) := by decide +kernel
theorem dX2_isPlace_11 : decode cX2_isPlace 11 = .ok (.if_icmp .ge 7, 3) := by decide +kernel
theorem dX2_isPlace_14 : decode cX2_isPlace 14 = .ok (.iconst 1, 1) := by decide +kernel
theorem dX2_isPlace_15 : decode cX2_isPlace 15 = .ok (.goto 4, 3) := by decide +kernel
theorem dX2_isPlace_18 : decode cX2_isPlace 18 = .ok (.iconst 0, 1) := by decide +kernel
theorem dX2_isPlace_19 : decode cX2_isPlace 19 = .ok (.ireturn, 1) := by decide +kernel
theorem dX2_areBridges_0 : decode cX2_areBridges 0 = .ok (.iload_n 1, 1) := by decide +kernel
theorem dX2_areBridges_1 : decode cX2_areBridges 1 = .ok (.ifCond .lt 15, 3) := by decide +kernel
theorem dX2_areBridges_4 : decode cX2_areBridges 4 = .ok (.iload_n 1, 1) := by decide +kernel
theorem dX2_areBridges_5 : decode cX2_areBridges 5 = .ok (.aload_n 0, 1) := by decide +kernel
theorem dX2_areBridges_6 : decode cX2_areBridges 6 = .ok (.invokevirtual 104, 3) := by decide +kernel
theorem dX2_areBridges_9 : decode cX2_areBridges 9 = .ok (.if_icmp .gt 7, 3) := by decide +kernel
theorem dX2_areBridges_12 : decode cX2_areBridges 12 = .ok (.iconst 1, 1) := by decide +kernel
theorem dX2_areBridges_13 : decode cX2_areBridges 13 = .ok (.goto 4, 3) := by decide +kernel
theorem dX2_areBridges_16 : decode cX2_areBridges 16 = .ok (.iconst 0, 1) := by decide +kernel
theorem dX2_areBridges_17 : decode cX2_areBridges 17 = .ok (.ireturn, 1) := by decide +kernel
theorem dX2_areSome_0 : decode cX2_areSome 0 = .ok (.iload_n 1, 1) := by decide +kernel
theorem dX2_areSome_1 : decode cX2_areSome 1 = .ok (.ifCond .lt 17, 3) := by decide +kernel
theorem dX2_areSome_4 : decode cX2_areSome 4 = .ok (.iload_n 1, 1) := by decide +kernel
theorem dX2_areSome_5 : decode cX2_areSome 5 = .ok (.iconst 1, 1) := by decide +kernel
theorem dX2_areSome_6 : decode cX2_areSome 6 = .ok (.aload_n 0, 1) := by decide +kernel
theorem dX2_areSome_7 : decode cX2_areSome 7 = .ok (.getfield 78, 3) := by decide +kernel
theorem dX2_areSome_10 : decode cX2_areSome 10 = .ok (.ishl, 1) := by decide +kernel
theorem dX2_areSome_11 : decode cX2_areSome 11 = .ok (.if_icmp .ge 7, 3) := by decide +kernel
theorem dX2_areSome_14 : decode cX2_areSome 14 = .ok (.iconst 1, 1) := by decide +kernel
theorem dX2_areSome_15 : decode cX2_areSome 15 = .ok (.goto 4, 3) := by decide +kernel
theorem dX2_areSome_18 : decode cX2_areSome 18 = .ok (.iconst 0, 1) := by decide +kernel
theorem dX2_areSome_19 : decode cX2_areSome 19 = .ok (.ireturn, 1) := by decide +kernel
theorem dX2_allBridges_0 : decode cX2_allBridges 0 = .ok (.iconst 1, 1) := by decide +kernel
theorem dX2_allBridges_1 : decode cX2_allBridges 1 = .ok (.aload_n 0, 1) := by decide +kernel
theorem dX2_allBridges_2 : decode cX2_allBridges 2 = .ok (.getfield 68, 3) := by decide +kernel
theorem dX2_allBridges_5 : decode cX2_allBridges 5 = .ok (.ishl, 1) := by decide +kernel
theorem dX2_allBridges_6 : decode cX2_allBridges 6 = .ok (.iconst 1, 1) := by decide +kernel
theorem dX2_allBridges_7 : decode cX2_allBridges 7 = .ok (.isub, 1) := by decide +kernel
theorem dX2_allBridges_8 : decode cX2_allBridges 8 = .ok (.ireturn, 1) := by decide +kernel
theorem dX2_bridgesOf_0 : decode cX2_bridgesOf 0 = .ok (.iconst 0, 1) := by decide +kernel
theorem dX2_bridgesOf_1 : decode cX2_bridgesOf 1 = .ok (.istore_n 2, 1) := by decide +kernel
theorem dX2_bridgesOf_2 : decode cX2_bridgesOf 2 = .ok (.iconst 0, 1) := by decide +kernel
theorem dX2_bridgesOf_3 : decode cX2_bridgesOf 3 = .ok (.istore_n 3, 1) := by decide +kernel
theorem dX2_bridgesOf_4 : decode cX2_bridgesOf 4 = .ok (.iload_n 3, 1) := by decide +kernel
theorem dX2_bridgesOf_5 : decode cX2_bridgesOf 5 = .ok (.aload_n 0, 1) := by decide +kernel
theorem dX2_bridgesOf_6 : decode cX2_bridgesOf 6 = .ok (.getfield 68, 3) := by decide +kernel
theorem dX2_bridgesOf_9 : decode cX2_bridgesOf 9 = .ok (.if_icmp .ge 24, 3) := by decide +kernel
theorem dX2_bridgesOf_12 : decode cX2_bridgesOf 12 = .ok (.aload_n 0, 1) := by decide +kernel
theorem dX2_bridgesOf_13 : decode cX2_bridgesOf 13 = .ok (.iload_n 3, 1) := by decide +kernel
theorem dX2_bridgesOf_14 : decode cX2_bridgesOf 14 = .ok (.iload_n 1, 1) := by decide +kernel
theorem dX2_bridgesOf_15 : decode cX2_bridgesOf 15 = .ok (.invokevirtual 108, 3) := by decide +kernel
theorem dX2_bridgesOf_18 : decode cX2_bridgesOf 18 = .ok (.ifCond .eq 9, 3) := by decide +kernel
theorem dX2_bridgesOf_21 : decode cX2_bridgesOf 21 = .ok (.iload_n 2, 1) := by decide +kernel
theorem dX2_bridgesOf_22 : decode cX2_bridgesOf 22 = .ok (.iconst 1, 1) := by decide +kernel
theorem dX2_bridgesOf_23 : decode cX2_bridgesOf 23 = .ok (.iload_n 3, 1) := by decide +kernel
theorem dX2_bridgesOf_24 : decode cX2_bridgesOf 24 = .ok (.ishl, 1) := by decide +kernel
theorem dX2_bridgesOf_25 : decode cX2_bridgesOf 25 = .ok (.ior, 1) := by decide +kernel
theorem dX2_bridgesOf_26 : decode cX2_bridgesOf 26 = .ok (.istore_n 2, 1) := by decide +kernel
theorem dX2_bridgesOf_27 : decode cX2_bridgesOf 27 = .ok (.iinc 3 1, 3) := by decide +kernel
theorem dX2_bridgesOf_30 : decode cX2_bridgesOf 30 = .ok (.goto (-26), 3) := by decide +kernel
theorem dX2_bridgesOf_33 : decode cX2_bridgesOf 33 = .ok (.iload_n 2, 1) := by decide +kernel
theorem dX2_bridgesOf_34 : decode cX2_bridgesOf 34 = .ok (.ireturn, 1) := by decide +kernel
theorem dX2_joins_0 : decode cX2_joins 0 = .ok (.aload_n 0, 1) := by decide +kernel
theorem dX2_joins_1 : decode cX2_joins 1 = .ok (.getfield 33, 3) := by decide +kernel
theorem dX2_joins_4 : decode cX2_joins 4 = .ok (.iload_n 1, 1) := by decide +kernel
theorem dX2_joins_5 : decode cX2_joins 5 = .ok (.iaload, 1) := by decide +kernel
theorem dX2_joins_6 : decode cX2_joins 6 = .ok (.iload_n 2, 1) := by decide +kernel
theorem dX2_joins_7 : decode cX2_joins 7 = .ok (.if_icmp .eq 13, 3) := by decide +kernel
theorem dX2_joins_10 : decode cX2_joins 10 = .ok (.aload_n 0, 1) := by decide +kernel
theorem dX2_joins_11 : decode cX2_joins 11 = .ok (.getfield 37, 3) := by decide +kernel
theorem dX2_joins_14 : decode cX2_joins 14 = .ok (.iload_n 1, 1) := by decide +kernel
theorem dX2_joins_15 : decode cX2_joins 15 = .ok (.iaload, 1) := by decide +kernel
theorem dX2_joins_16 : decode cX2_joins 16 = .ok (.iload_n 2, 1) := by decide +kernel
theorem dX2_joins_17 : decode cX2_joins 17 = .ok (.if_icmp .ne 7, 3) := by decide +kernel
theorem dX2_joins_20 : decode cX2_joins 20 = .ok (.iconst 1, 1) := by decide +kernel
theorem dX2_joins_21 : decode cX2_joins 21 = .ok (.goto 4, 3) := by decide +kernel
theorem dX2_joins_24 : decode cX2_joins 24 = .ok (.iconst 0, 1) := by decide +kernel
theorem dX2_joins_25 : decode cX2_joins 25 = .ok (.ireturn, 1) := by decide +kernel
theorem dX2_isDown_0 : decode cX2_isDown 0 = .ok (.aload_n 0, 1) := by decide +kernel
theorem dX2_isDown_1 : decode cX2_isDown 1 = .ok (.getfield 72, 3) := by decide +kernel
theorem dX2_isDown_4 : decode cX2_isDown 4 = .ok (.iload_n 1, 1) := by decide +kernel
theorem dX2_isDown_5 : decode cX2_isDown 5 = .ok (.ishr, 1) := by decide +kernel
theorem dX2_isDown_6 : decode cX2_isDown 6 = .ok (.iconst 1, 1) := by decide +kernel
theorem dX2_isDown_7 : decode cX2_isDown 7 = .ok (.iand, 1) := by decide +kernel
theorem dX2_isDown_8 : decode cX2_isDown 8 = .ok (.iconst 1, 1) := by decide +kernel
theorem dX2_isDown_9 : decode cX2_isDown 9 = .ok (.if_icmp .ne 7, 3) := by decide +kernel
theorem dX2_isDown_12 : decode cX2_isDown 12 = .ok (.iconst 1, 1) := by decide +kernel
theorem dX2_isDown_13 : decode cX2_isDown 13 = .ok (.goto 4, 3) := by decide +kernel
theorem dX2_isDown_16 : decode cX2_isDown 16 = .ok (.iconst 0, 1) := by decide +kernel
theorem dX2_isDown_17 : decode cX2_isDown 17 = .ok (.ireturn, 1) := by decide +kernel
theorem dX2_isTied_0 : decode cX2_isTied 0 = .ok (.iconst 0, 1) := by decide +kernel
theorem dX2_isTied_1 : decode cX2_isTied 1 = .ok (.istore_n 2, 1) := by decide +kernel
theorem dX2_isTied_2 : decode cX2_isTied 2 = .ok (.iload_n 2, 1) := by decide +kernel
theorem dX2_isTied_3 : decode cX2_isTied 3 = .ok (.aload_n 0, 1) := by decide +kernel
theorem dX2_isTied_4 : decode cX2_isTied 4 = .ok (.getfield 75, 3) := by decide +kernel
theorem dX2_isTied_7 : decode cX2_isTied 7 = .ok (.if_icmp .ge 31, 3) := by decide +kernel
theorem dX2_isTied_10 : decode cX2_isTied 10 = .ok (.aload_n 0, 1) := by decide +kernel
theorem dX2_isTied_11 : decode cX2_isTied 11 = .ok (.getfield 46, 3) := by decide +kernel
theorem dX2_isTied_14 : decode cX2_isTied 14 = .ok (.iload_n 2, 1) := by decide +kernel
theorem dX2_isTied_15 : decode cX2_isTied 15 = .ok (.iaload, 1) := by decide +kernel
theorem dX2_isTied_16 : decode cX2_isTied 16 = .ok (.iload_n 1, 1) := by decide +kernel
theorem dX2_isTied_17 : decode cX2_isTied 17 = .ok (.if_icmp .eq 13, 3) := by decide +kernel
theorem dX2_isTied_20 : decode cX2_isTied 20 = .ok (.aload_n 0, 1) := by decide +kernel
theorem dX2_isTied_21 : decode cX2_isTied 21 = .ok (.getfield 49, 3) := by decide +kernel
theorem dX2_isTied_24 : decode cX2_isTied 24 = .ok (.iload_n 2, 1) := by decide +kernel
theorem dX2_isTied_25 : decode cX2_isTied 25 = .ok (.iaload, 1) := by decide +kernel
theorem dX2_isTied_26 : decode cX2_isTied 26 = .ok (.iload_n 1, 1) := by decide +kernel
theorem dX2_isTied_27 : decode cX2_isTied 27 = .ok (.if_icmp .ne 5, 3) := by decide +kernel
theorem dX2_isTied_30 : decode cX2_isTied 30 = .ok (.iconst 1, 1) := by decide +kernel
theorem dX2_isTied_31 : decode cX2_isTied 31 = .ok (.ireturn, 1) := by decide +kernel
theorem dX2_isTied_32 : decode cX2_isTied 32 = .ok (.iinc 2 1, 3) := by decide +kernel
theorem dX2_isTied_35 : decode cX2_isTied 35 = .ok (.goto (-33), 3) := by decide +kernel
theorem dX2_isTied_38 : decode cX2_isTied 38 = .ok (.iconst 0, 1) := by decide +kernel
theorem dX2_isTied_39 : decode cX2_isTied 39 = .ok (.ireturn, 1) := by decide +kernel
theorem dX2_loadOn_0 : decode cX2_loadOn 0 = .ok (.aload_n 0, 1) := by decide +kernel
theorem dX2_loadOn_1 : decode cX2_loadOn 1 = .ok (.getfield 43, 3) := by decide +kernel
theorem dX2_loadOn_4 : decode cX2_loadOn 4 = .ok (.iload_n 1, 1) := by decide +kernel
theorem dX2_loadOn_5 : decode cX2_loadOn 5 = .ok (.iaload, 1) := by decide +kernel
theorem dX2_loadOn_6 : decode cX2_loadOn 6 = .ok (.istore_n 2, 1) := by decide +kernel
theorem dX2_loadOn_7 : decode cX2_loadOn 7 = .ok (.iconst 0, 1) := by decide +kernel
theorem dX2_loadOn_8 : decode cX2_loadOn 8 = .ok (.istore_n 3, 1) := by decide +kernel
theorem dX2_loadOn_9 : decode cX2_loadOn 9 = .ok (.iload_n 3, 1) := by decide +kernel
theorem dX2_loadOn_10 : decode cX2_loadOn 10 = .ok (.aload_n 0, 1) := by decide +kernel
theorem dX2_loadOn_11 : decode cX2_loadOn 11 = .ok (.getfield 78, 3) := by decide +kernel
theorem dX2_loadOn_14 : decode cX2_loadOn 14 = .ok (.if_icmp .ge 30, 3) := by decide +kernel
theorem dX2_loadOn_17 : decode cX2_loadOn 17 = .ok (.aload_n 0, 1) := by decide +kernel
theorem dX2_loadOn_18 : decode cX2_loadOn 18 = .ok (.getfield 58, 3) := by decide +kernel
theorem dX2_loadOn_21 : decode cX2_loadOn 21 = .ok (.iload_n 3, 1) := by decide +kernel
theorem dX2_loadOn_22 : decode cX2_loadOn 22 = .ok (.iaload, 1) := by decide +kernel
theorem dX2_loadOn_23 : decode cX2_loadOn 23 = .ok (.iconst 5, 1) := by decide +kernel
theorem dX2_loadOn_24 : decode cX2_loadOn 24 = .ok (.iload_n 1, 1) := by decide +kernel
theorem dX2_loadOn_25 : decode cX2_loadOn 25 = .ok (.iadd, 1) := by decide +kernel
theorem dX2_loadOn_26 : decode cX2_loadOn 26 = .ok (.if_icmp .ne 12, 3) := by decide +kernel
theorem dX2_loadOn_29 : decode cX2_loadOn 29 = .ok (.iload_n 2, 1) := by decide +kernel
theorem dX2_loadOn_30 : decode cX2_loadOn 30 = .ok (.aload_n 0, 1) := by decide +kernel
theorem dX2_loadOn_31 : decode cX2_loadOn 31 = .ok (.getfield 55, 3) := by decide +kernel
theorem dX2_loadOn_34 : decode cX2_loadOn 34 = .ok (.iload_n 3, 1) := by decide +kernel
theorem dX2_loadOn_35 : decode cX2_loadOn 35 = .ok (.iaload, 1) := by decide +kernel
theorem dX2_loadOn_36 : decode cX2_loadOn 36 = .ok (.iadd, 1) := by decide +kernel
theorem dX2_loadOn_37 : decode cX2_loadOn 37 = .ok (.istore_n 2, 1) := by decide +kernel
theorem dX2_loadOn_38 : decode cX2_loadOn 38 = .ok (.iinc 3 1, 3) := by decide +kernel
theorem dX2_loadOn_41 : decode cX2_loadOn 41 = .ok (.goto (-32), 3) := by decide +kernel
theorem dX2_loadOn_44 : decode cX2_loadOn 44 = .ok (.aload_n 0, 1) := by decide +kernel
theorem dX2_loadOn_45 : decode cX2_loadOn 45 = .ok (.getfield 27, 3) := by decide +kernel
theorem dX2_loadOn_48 : decode cX2_loadOn 48 = .ok (.aload_n 0, 1) := by decide +kernel
theorem dX2_loadOn_49 : decode cX2_loadOn 49 = .ok (.getfield 40, 3) := by decide +kernel
theorem dX2_loadOn_52 : decode cX2_loadOn 52 = .ok (.iload_n 1, 1) := by decide +kernel
theorem dX2_loadOn_53 : decode cX2_loadOn 53 = .ok (.iaload, 1) := by decide +kernel
theorem dX2_loadOn_54 : decode cX2_loadOn 54 = .ok (.aaload, 1) := by decide +kernel
theorem dX2_loadOn_55 : decode cX2_loadOn 55 = .ok (.iload_n 2, 1) := by decide +kernel
theorem dX2_loadOn_56 : decode cX2_loadOn 56 = .ok (.invokevirtual 112, 3) := by decide +kernel
theorem dX2_loadOn_59 : decode cX2_loadOn 59 = .ok (.ireturn, 1) := by decide +kernel
theorem dX2_areIn_0 : decode cX2_areIn 0 = .ok (.iconst 0, 1) := by decide +kernel
theorem dX2_areIn_1 : decode cX2_areIn 1 = .ok (.istore_n 3, 1) := by decide +kernel
theorem dX2_areIn_2 : decode cX2_areIn 2 = .ok (.iload_n 3, 1) := by decide +kernel
theorem dX2_areIn_3 : decode cX2_areIn 3 = .ok (.aload_n 0, 1) := by decide +kernel
theorem dX2_areIn_4 : decode cX2_areIn 4 = .ok (.getfield 78, 3) := by decide +kernel
theorem dX2_areIn_7 : decode cX2_areIn 7 = .ok (.if_icmp .ge 30, 3) := by decide +kernel
theorem dX2_areIn_10 : decode cX2_areIn 10 = .ok (.iload_n 1, 1) := by decide +kernel
theorem dX2_areIn_11 : decode cX2_areIn 11 = .ok (.iload_n 3, 1) := by decide +kernel
theorem dX2_areIn_12 : decode cX2_areIn 12 = .ok (.ishr, 1) := by decide +kernel
theorem dX2_areIn_13 : decode cX2_areIn 13 = .ok (.iconst 1, 1) := by decide +kernel
theorem dX2_areIn_14 : decode cX2_areIn 14 = .ok (.iand, 1) := by decide +kernel
theorem dX2_areIn_15 : decode cX2_areIn 15 = .ok (.iconst 1, 1) := by decide +kernel
theorem dX2_areIn_16 : decode cX2_areIn 16 = .ok (.if_icmp .ne 15, 3) := by decide +kernel
theorem dX2_areIn_19 : decode cX2_areIn 19 = .ok (.aload_n 0, 1) := by decide +kernel
theorem dX2_areIn_20 : decode cX2_areIn 20 = .ok (.getfield 58, 3) := by decide +kernel
theorem dX2_areIn_23 : decode cX2_areIn 23 = .ok (.iload_n 3, 1) := by decide +kernel
theorem dX2_areIn_24 : decode cX2_areIn 24 = .ok (.iaload, 1) := by decide +kernel
theorem dX2_areIn_25 : decode cX2_areIn 25 = .ok (.iload_n 2, 1) := by decide +kernel
theorem dX2_areIn_26 : decode cX2_areIn 26 = .ok (.if_icmp .eq 5, 3) := by decide +kernel
theorem dX2_areIn_29 : decode cX2_areIn 29 = .ok (.iconst 0, 1) := by decide +kernel
theorem dX2_areIn_30 : decode cX2_areIn 30 = .ok (.ireturn, 1) := by decide +kernel
theorem dX2_areIn_31 : decode cX2_areIn 31 = .ok (.iinc 3 1, 3) := by decide +kernel
theorem dX2_areIn_34 : decode cX2_areIn 34 = .ok (.goto (-32), 3) := by decide +kernel
theorem dX2_areIn_37 : decode cX2_areIn 37 = .ok (.iconst 1, 1) := by decide +kernel
theorem dX2_areIn_38 : decode cX2_areIn 38 = .ok (.ireturn, 1) := by decide +kernel
theorem dX2_canGo_0 : decode cX2_canGo 0 = .ok (.aload_n 0, 1) := by decide +kernel
theorem dX2_canGo_1 : decode cX2_canGo 1 = .ok (.getfield 58, 3) := by decide +kernel
theorem dX2_canGo_4 : decode cX2_canGo 4 = .ok (.iload_n 1, 1) := by decide +kernel
theorem dX2_canGo_5 : decode cX2_canGo 5 = .ok (.iaload, 1) := by decide +kernel
theorem dX2_canGo_6 : decode cX2_canGo 6 = .ok (.istore_n 3, 1) := by decide +kernel
theorem dX2_canGo_7 : decode cX2_canGo 7 = .ok (.iload_n 3, 1) := by decide +kernel
theorem dX2_canGo_8 : decode cX2_canGo 8 = .ok (.iconst 5, 1) := by decide +kernel
theorem dX2_canGo_9 : decode cX2_canGo 9 = .ok (.if_icmp .ge 7, 3) := by decide +kernel
theorem dX2_canGo_12 : decode cX2_canGo 12 = .ok (.iconst 1, 1) := by decide +kernel
theorem dX2_canGo_13 : decode cX2_canGo 13 = .ok (.goto 4, 3) := by decide +kernel
theorem dX2_canGo_16 : decode cX2_canGo 16 = .ok (.iconst 0, 1) := by decide +kernel
theorem dX2_canGo_17 : decode cX2_canGo 17 = .ok (.iload_n 2, 1) := by decide +kernel
theorem dX2_canGo_18 : decode cX2_canGo 18 = .ok (.iconst 5, 1) := by decide +kernel
theorem dX2_canGo_19 : decode cX2_canGo 19 = .ok (.if_icmp .ge 7, 3) := by decide +kernel
theorem dX2_canGo_22 : decode cX2_canGo 22 = .ok (.iconst 1, 1) := by decide +kernel
theorem dX2_canGo_23 : decode cX2_canGo 23 = .ok (.goto 4, 3) := by decide +kernel
theorem dX2_canGo_26 : decode cX2_canGo 26 = .ok (.iconst 0, 1) := by decide +kernel
theorem dX2_canGo_27 : decode cX2_canGo 27 = .ok (.if_icmp .ne 5, 3) := by decide +kernel
theorem dX2_canGo_30 : decode cX2_canGo 30 = .ok (.iconst 0, 1) := by decide +kernel
theorem dX2_canGo_31 : decode cX2_canGo 31 = .ok (.ireturn, 1) := by decide +kernel
theorem dX2_canGo_32 : decode cX2_canGo 32 = .ok (.iload_n 3, 1) := by decide +kernel
theorem dX2_canGo_33 : decode cX2_canGo 33 = .ok (.iload_n 2, 1) := by decide +kernel
theorem dX2_canGo_34 : decode cX2_canGo 34 = .ok (.invokestatic 116, 3) := by decide +kernel
theorem dX2_canGo_37 : decode cX2_canGo 37 = .ok (.istore 4, 2) := by decide +kernel
theorem dX2_canGo_39 : decode cX2_canGo 39 = .ok (.iload_n 3, 1) := by decide +kernel
theorem dX2_canGo_40 : decode cX2_canGo 40 = .ok (.iload_n 2, 1) := by decide +kernel
theorem dX2_canGo_41 : decode cX2_canGo 41 = .ok (.invokestatic 122, 3) := by decide +kernel
theorem dX2_canGo_44 : decode cX2_canGo 44 = .ok (.iconst 5, 1) := by decide +kernel
theorem dX2_canGo_45 : decode cX2_canGo 45 = .ok (.isub, 1) := by decide +kernel
theorem dX2_canGo_46 : decode cX2_canGo 46 = .ok (.istore 5, 2) := by decide +kernel
theorem dX2_canGo_48 : decode cX2_canGo 48 = .ok (.aload_n 0, 1) := by decide +kernel
theorem dX2_canGo_49 : decode cX2_canGo 49 = .ok (.iload 5, 2) := by decide +kernel
theorem dX2_canGo_51 : decode cX2_canGo 51 = .ok (.invokevirtual 125, 3) := by decide +kernel
theorem dX2_canGo_54 : decode cX2_canGo 54 = .ok (.ifCond .eq 18, 3) := by decide +kernel
theorem dX2_canGo_57 : decode cX2_canGo 57 = .ok (.aload_n 0, 1) := by decide +kernel
theorem dX2_canGo_58 : decode cX2_canGo 58 = .ok (.iload 5, 2) := by decide +kernel
theorem dX2_canGo_60 : decode cX2_canGo 60 = .ok (.iload 4, 2) := by decide +kernel
theorem dX2_canGo_62 : decode cX2_canGo 62 = .ok (.invokevirtual 108, 3) := by decide +kernel
theorem dX2_canGo_65 : decode cX2_canGo 65 = .ok (.ifCond .eq 7, 3) := by decide +kernel
theorem dX2_canGo_68 : decode cX2_canGo 68 = .ok (.iconst 1, 1) := by decide +kernel
theorem dX2_canGo_69 : decode cX2_canGo 69 = .ok (.goto 4, 3) := by decide +kernel
theorem dX2_canGo_72 : decode cX2_canGo 72 = .ok (.iconst 0, 1) := by decide +kernel
theorem dX2_canGo_73 : decode cX2_canGo 73 = .ok (.ireturn, 1) := by decide +kernel
theorem dX2_go_0 : decode cX2_go 0 = .ok (.aload_n 0, 1) := by decide +kernel
theorem dX2_go_1 : decode cX2_go 1 = .ok (.getfield 58, 3) := by decide +kernel
theorem dX2_go_4 : decode cX2_go 4 = .ok (.iload_n 1, 1) := by decide +kernel
theorem dX2_go_5 : decode cX2_go 5 = .ok (.iload_n 2, 1) := by decide +kernel
theorem dX2_go_6 : decode cX2_go 6 = .ok (.iastore, 1) := by decide +kernel
theorem dX2_go_7 : decode cX2_go 7 = .ok (.iconst 0, 1) := by decide +kernel
theorem dX2_go_8 : decode cX2_go 8 = .ok (.istore_n 3, 1) := by decide +kernel
theorem dX2_go_9 : decode cX2_go 9 = .ok (.iload_n 3, 1) := by decide +kernel
theorem dX2_go_10 : decode cX2_go 10 = .ok (.aload_n 0, 1) := by decide +kernel
theorem dX2_go_11 : decode cX2_go 11 = .ok (.getfield 75, 3) := by decide +kernel
theorem dX2_go_14 : decode cX2_go 14 = .ok (.if_icmp .ge 82, 3) := by decide +kernel
theorem dX2_go_17 : decode cX2_go 17 = .ok (.aload_n 0, 1) := by decide +kernel
theorem dX2_go_18 : decode cX2_go 18 = .ok (.getfield 46, 3) := by decide +kernel
theorem dX2_go_21 : decode cX2_go 21 = .ok (.iload_n 3, 1) := by decide +kernel
theorem dX2_go_22 : decode cX2_go 22 = .ok (.iaload, 1) := by decide +kernel
theorem dX2_go_23 : decode cX2_go 23 = .ok (.istore 4, 2) := by decide +kernel
theorem dX2_go_25 : decode cX2_go 25 = .ok (.aload_n 0, 1) := by decide +kernel
theorem dX2_go_26 : decode cX2_go 26 = .ok (.getfield 49, 3) := by decide +kernel
theorem dX2_go_29 : decode cX2_go 29 = .ok (.iload_n 3, 1) := by decide +kernel
theorem dX2_go_30 : decode cX2_go 30 = .ok (.iaload, 1) := by decide +kernel
theorem dX2_go_31 : decode cX2_go 31 = .ok (.istore 5, 2) := by decide +kernel
theorem dX2_go_33 : decode cX2_go 33 = .ok (.aload_n 0, 1) := by decide +kernel
theorem dX2_go_34 : decode cX2_go 34 = .ok (.iload 4, 2) := by decide +kernel
theorem dX2_go_36 : decode cX2_go 36 = .ok (.invokevirtual 128, 3) := by decide +kernel
theorem dX2_go_39 : decode cX2_go 39 = .ok (.aload_n 0, 1) := by decide +kernel
theorem dX2_go_40 : decode cX2_go 40 = .ok (.iload 5, 2) := by decide +kernel
theorem dX2_go_42 : decode cX2_go 42 = .ok (.invokevirtual 128, 3) := by decide +kernel
theorem dX2_go_45 : decode cX2_go 45 = .ok (.isub, 1) := by decide +kernel
theorem dX2_go_46 : decode cX2_go 46 = .ok (.istore 6, 2) := by decide +kernel
theorem dX2_go_48 : decode cX2_go 48 = .ok (.iload 6, 2) := by decide +kernel
theorem dX2_go_50 : decode cX2_go 50 = .ok (.aload_n 0, 1) := by decide +kernel
theorem dX2_go_51 : decode cX2_go 51 = .ok (.getfield 52, 3) := by decide +kernel
theorem dX2_go_54 : decode cX2_go 54 = .ok (.iload_n 3, 1) := by decide +kernel
theorem dX2_go_55 : decode cX2_go 55 = .ok (.iaload, 1) := by decide +kernel
theorem dX2_go_56 : decode cX2_go 56 = .ok (.if_icmp .le 14, 3) := by decide +kernel
theorem dX2_go_59 : decode cX2_go 59 = .ok (.aload_n 0, 1) := by decide +kernel
theorem dX2_go_60 : decode cX2_go 60 = .ok (.iload 4, 2) := by decide +kernel
theorem dX2_go_62 : decode cX2_go 62 = .ok (.iload 5, 2) := by decide +kernel
theorem dX2_go_64 : decode cX2_go 64 = .ok (.invokevirtual 131, 3) := by decide +kernel
theorem dX2_go_67 : decode cX2_go 67 = .ok (.goto 23, 3) := by decide +kernel
theorem dX2_go_70 : decode cX2_go 70 = .ok (.iload 6, 2) := by decide +kernel
theorem dX2_go_72 : decode cX2_go 72 = .ok (.ineg, 1) := by decide +kernel
theorem dX2_go_73 : decode cX2_go 73 = .ok (.aload_n 0, 1) := by decide +kernel
theorem dX2_go_74 : decode cX2_go 74 = .ok (.getfield 52, 3) := by decide +kernel
theorem dX2_go_77 : decode cX2_go 77 = .ok (.iload_n 3, 1) := by decide +kernel
theorem dX2_go_78 : decode cX2_go 78 = .ok (.iaload, 1) := by decide +kernel
theorem dX2_go_79 : decode cX2_go 79 = .ok (.if_icmp .le 11, 3) := by decide +kernel
theorem dX2_go_82 : decode cX2_go 82 = .ok (.aload_n 0, 1) := by decide +kernel
theorem dX2_go_83 : decode cX2_go 83 = .ok (.iload 5, 2) := by decide +kernel
theorem dX2_go_85 : decode cX2_go 85 = .ok (.iload 4, 2) := by decide +kernel
theorem dX2_go_87 : decode cX2_go 87 = .ok (.invokevirtual 131, 3) := by decide +kernel
theorem dX2_go_90 : decode cX2_go 90 = .ok (.iinc 3 1, 3) := by decide +kernel
theorem dX2_go_93 : decode cX2_go 93 = .ok (.goto (-84), 3) := by decide +kernel
theorem dX2_go_96 : decode cX2_go 96 = .ok (.return_, 1) := by decide +kernel
theorem dX2_tip_0 : decode cX2_tip 0 = .ok (.aload_n 0, 1) := by decide +kernel
theorem dX2_tip_1 : decode cX2_tip 1 = .ok (.iload_n 1, 1) := by decide +kernel
theorem dX2_tip_2 : decode cX2_tip 2 = .ok (.invokevirtual 125, 3) := by decide +kernel
theorem dX2_tip_5 : decode cX2_tip 5 = .ok (.ifCond .ne 20, 3) := by decide +kernel
theorem dX2_tip_8 : decode cX2_tip 8 = .ok (.aload_n 0, 1) := by decide +kernel
theorem dX2_tip_9 : decode cX2_tip 9 = .ok (.getfield 27, 3) := by decide +kernel
theorem dX2_tip_12 : decode cX2_tip 12 = .ok (.aload_n 0, 1) := by decide +kernel
theorem dX2_tip_13 : decode cX2_tip 13 = .ok (.getfield 40, 3) := by decide +kernel
theorem dX2_tip_16 : decode cX2_tip 16 = .ok (.iload_n 1, 1) := by decide +kernel
theorem dX2_tip_17 : decode cX2_tip 17 = .ok (.iaload, 1) := by decide +kernel
theorem dX2_tip_18 : decode cX2_tip 18 = .ok (.aaload, 1) := by decide +kernel
theorem dX2_tip_19 : decode cX2_tip 19 = .ok (.invokevirtual 135, 3) := by decide +kernel
theorem dX2_tip_22 : decode cX2_tip 22 = .ok (.ifCond .eq 7, 3) := by decide +kernel
theorem dX2_tip_25 : decode cX2_tip 25 = .ok (.iconst 1, 1) := by decide +kernel
theorem dX2_tip_26 : decode cX2_tip 26 = .ok (.goto 4, 3) := by decide +kernel
theorem dX2_tip_29 : decode cX2_tip 29 = .ok (.iconst 0, 1) := by decide +kernel
theorem dX2_tip_30 : decode cX2_tip 30 = .ok (.istore_n 3, 1) := by decide +kernel
theorem dX2_tip_31 : decode cX2_tip 31 = .ok (.aload_n 0, 1) := by decide +kernel
theorem dX2_tip_32 : decode cX2_tip 32 = .ok (.iload_n 2, 1) := by decide +kernel
theorem dX2_tip_33 : decode cX2_tip 33 = .ok (.invokevirtual 125, 3) := by decide +kernel
theorem dX2_tip_36 : decode cX2_tip 36 = .ok (.ifCond .eq 20, 3) := by decide +kernel
theorem dX2_tip_39 : decode cX2_tip 39 = .ok (.aload_n 0, 1) := by decide +kernel
theorem dX2_tip_40 : decode cX2_tip 40 = .ok (.getfield 27, 3) := by decide +kernel
theorem dX2_tip_43 : decode cX2_tip 43 = .ok (.aload_n 0, 1) := by decide +kernel
theorem dX2_tip_44 : decode cX2_tip 44 = .ok (.getfield 40, 3) := by decide +kernel
theorem dX2_tip_47 : decode cX2_tip 47 = .ok (.iload_n 2, 1) := by decide +kernel
theorem dX2_tip_48 : decode cX2_tip 48 = .ok (.iaload, 1) := by decide +kernel
theorem dX2_tip_49 : decode cX2_tip 49 = .ok (.aaload, 1) := by decide +kernel
theorem dX2_tip_50 : decode cX2_tip 50 = .ok (.invokevirtual 139, 3) := by decide +kernel
theorem dX2_tip_53 : decode cX2_tip 53 = .ok (.ifCond .eq 7, 3) := by decide +kernel
theorem dX2_tip_56 : decode cX2_tip 56 = .ok (.iconst 1, 1) := by decide +kernel
theorem dX2_tip_57 : decode cX2_tip 57 = .ok (.goto 4, 3) := by decide +kernel
theorem dX2_tip_60 : decode cX2_tip 60 = .ok (.iconst 0, 1) := by decide +kernel
theorem dX2_tip_61 : decode cX2_tip 61 = .ok (.istore 4, 2) := by decide +kernel
theorem dX2_tip_63 : decode cX2_tip 63 = .ok (.iload_n 3, 1) := by decide +kernel
theorem dX2_tip_64 : decode cX2_tip 64 = .ok (.ifCond .eq 26, 3) := by decide +kernel
theorem dX2_tip_67 : decode cX2_tip 67 = .ok (.iload 4, 2) := by decide +kernel
theorem dX2_tip_69 : decode cX2_tip 69 = .ok (.ifCond .eq 21, 3) := by decide +kernel
theorem dX2_tip_72 : decode cX2_tip 72 = .ok (.aload_n 0, 1) := by decide +kernel
theorem dX2_tip_73 : decode cX2_tip 73 = .ok (.aload_n 0, 1) := by decide +kernel
theorem dX2_tip_74 : decode cX2_tip 74 = .ok (.getfield 72, 3) := by decide +kernel
theorem dX2_tip_77 : decode cX2_tip 77 = .ok (.iconst 1, 1) := by decide +kernel
theorem dX2_tip_78 : decode cX2_tip 78 = .ok (.iload_n 1, 1) := by decide +kernel
theorem dX2_tip_79 : decode cX2_tip 79 = .ok (.ishl, 1) := by decide +kernel
theorem dX2_tip_80 : decode cX2_tip 80 = .ok (.ior, 1) := by decide +kernel
theorem dX2_tip_81 : decode cX2_tip 81 = .ok (.iconst 1, 1) := by decide +kernel
theorem dX2_tip_82 : decode cX2_tip 82 = .ok (.iload_n 2, 1) := by decide +kernel
theorem dX2_tip_83 : decode cX2_tip 83 = .ok (.ishl, 1) := by decide +kernel
theorem dX2_tip_84 : decode cX2_tip 84 = .ok (.iconst (-1), 1) := by decide +kernel
theorem dX2_tip_85 : decode cX2_tip 85 = .ok (.ixor, 1) := by decide +kernel
theorem dX2_tip_86 : decode cX2_tip 86 = .ok (.iand, 1) := by decide +kernel
theorem dX2_tip_87 : decode cX2_tip 87 = .ok (.putfield 72, 3) := by decide +kernel
theorem dX2_tip_90 : decode cX2_tip 90 = .ok (.return_, 1) := by decide +kernel
theorem dX2_dropChain_0 : decode cX2_dropChain 0 = .ok (.aload_n 0, 1) := by decide +kernel
theorem dX2_dropChain_1 : decode cX2_dropChain 1 = .ok (.dup, 1) := by decide +kernel
theorem dX2_dropChain_2 : decode cX2_dropChain 2 = .ok (.getfield 75, 3) := by decide +kernel
theorem dX2_dropChain_5 : decode cX2_dropChain 5 = .ok (.iconst 1, 1) := by decide +kernel
theorem dX2_dropChain_6 : decode cX2_dropChain 6 = .ok (.isub, 1) := by decide +kernel
theorem dX2_dropChain_7 : decode cX2_dropChain 7 = .ok (.putfield 75, 3) := by decide +kernel
theorem dX2_dropChain_10 : decode cX2_dropChain 10 = .ok (.iload_n 1, 1) := by decide +kernel
theorem dX2_dropChain_11 : decode cX2_dropChain 11 = .ok (.istore_n 2, 1) := by decide +kernel
theorem dX2_dropChain_12 : decode cX2_dropChain 12 = .ok (.iload_n 2, 1) := by decide +kernel
theorem dX2_dropChain_13 : decode cX2_dropChain 13 = .ok (.aload_n 0, 1) := by decide +kernel
theorem dX2_dropChain_14 : decode cX2_dropChain 14 = .ok (.getfield 75, 3) := by decide +kernel
theorem dX2_dropChain_17 : decode cX2_dropChain 17 = .ok (.if_icmp .ge 51, 3) := by decide +kernel
theorem dX2_dropChain_20 : decode cX2_dropChain 20 = .ok (.aload_n 0, 1) := by decide +kernel
theorem dX2_dropChain_21 : decode cX2_dropChain 21 = .ok (.getfield 46, 3) := by decide +kernel
theorem dX2_dropChain_24 : decode cX2_dropChain 24 = .ok (.iload_n 2, 1) := by decide +kernel
theorem dX2_dropChain_25 : decode cX2_dropChain 25 = .ok (.aload_n 0, 1) := by decide +kernel
theorem dX2_dropChain_26 : decode cX2_dropChain 26 = .ok (.getfield 46, 3) := by decide +kernel
theorem dX2_dropChain_29 : decode cX2_dropChain 29 = .ok (.iload_n 2, 1) := by decide +kernel
theorem dX2_dropChain_30 : decode cX2_dropChain 30 = .ok (.iconst 1, 1) := by decide +kernel
theorem dX2_dropChain_31 : decode cX2_dropChain 31 = .ok (.iadd, 1) := by decide +kernel
theorem dX2_dropChain_32 : decode cX2_dropChain 32 = .ok (.iaload, 1) := by decide +kernel
theorem dX2_dropChain_33 : decode cX2_dropChain 33 = .ok (.iastore, 1) := by decide +kernel
theorem dX2_dropChain_34 : decode cX2_dropChain 34 = .ok (.aload_n 0, 1) := by decide +kernel
theorem dX2_dropChain_35 : decode cX2_dropChain 35 = .ok (.getfield 49, 3) := by decide +kernel
theorem dX2_dropChain_38 : decode cX2_dropChain 38 = .ok (.iload_n 2, 1) := by decide +kernel
theorem dX2_dropChain_39 : decode cX2_dropChain 39 = .ok (.aload_n 0, 1) := by decide +kernel
theorem dX2_dropChain_40 : decode cX2_dropChain 40 = .ok (.getfield 49, 3) := by decide +kernel
theorem dX2_dropChain_43 : decode cX2_dropChain 43 = .ok (.iload_n 2, 1) := by decide +kernel
theorem dX2_dropChain_44 : decode cX2_dropChain 44 = .ok (.iconst 1, 1) := by decide +kernel
theorem dX2_dropChain_45 : decode cX2_dropChain 45 = .ok (.iadd, 1) := by decide +kernel
theorem dX2_dropChain_46 : decode cX2_dropChain 46 = .ok (.iaload, 1) := by decide +kernel
theorem dX2_dropChain_47 : decode cX2_dropChain 47 = .ok (.iastore, 1) := by decide +kernel
theorem dX2_dropChain_48 : decode cX2_dropChain 48 = .ok (.aload_n 0, 1) := by decide +kernel
theorem dX2_dropChain_49 : decode cX2_dropChain 49 = .ok (.getfield 52, 3) := by decide +kernel
theorem dX2_dropChain_52 : decode cX2_dropChain 52 = .ok (.iload_n 2, 1) := by decide +kernel
theorem dX2_dropChain_53 : decode cX2_dropChain 53 = .ok (.aload_n 0, 1) := by decide +kernel
theorem dX2_dropChain_54 : decode cX2_dropChain 54 = .ok (.getfield 52, 3) := by decide +kernel
theorem dX2_dropChain_57 : decode cX2_dropChain 57 = .ok (.iload_n 2, 1) := by decide +kernel
theorem dX2_dropChain_58 : decode cX2_dropChain 58 = .ok (.iconst 1, 1) := by decide +kernel
theorem dX2_dropChain_59 : decode cX2_dropChain 59 = .ok (.iadd, 1) := by decide +kernel
theorem dX2_dropChain_60 : decode cX2_dropChain 60 = .ok (.iaload, 1) := by decide +kernel
theorem dX2_dropChain_61 : decode cX2_dropChain 61 = .ok (.iastore, 1) := by decide +kernel
theorem dX2_dropChain_62 : decode cX2_dropChain 62 = .ok (.iinc 2 1, 3) := by decide +kernel
theorem dX2_dropChain_65 : decode cX2_dropChain 65 = .ok (.goto (-53), 3) := by decide +kernel
theorem dX2_dropChain_68 : decode cX2_dropChain 68 = .ok (.return_, 1) := by decide +kernel
theorem dX2_addStones_0 : decode cX2_addStones 0 = .ok (.iconst 0, 1) := by decide +kernel
theorem dX2_addStones_1 : decode cX2_addStones 1 = .ok (.istore_n 3, 1) := by decide +kernel
theorem dX2_addStones_2 : decode cX2_addStones 2 = .ok (.iload_n 3, 1) := by decide +kernel
theorem dX2_addStones_3 : decode cX2_addStones 3 = .ok (.aload_n 0, 1) := by decide +kernel
theorem dX2_addStones_4 : decode cX2_addStones 4 = .ok (.getfield 68, 3) := by decide +kernel
theorem dX2_addStones_7 : decode cX2_addStones 7 = .ok (.if_icmp .ge 28, 3) := by decide +kernel
theorem dX2_addStones_10 : decode cX2_addStones 10 = .ok (.iload_n 1, 1) := by decide +kernel
theorem dX2_addStones_11 : decode cX2_addStones 11 = .ok (.iload_n 3, 1) := by decide +kernel
theorem dX2_addStones_12 : decode cX2_addStones 12 = .ok (.ishr, 1) := by decide +kernel
theorem dX2_addStones_13 : decode cX2_addStones 13 = .ok (.iconst 1, 1) := by decide +kernel
theorem dX2_addStones_14 : decode cX2_addStones 14 = .ok (.iand, 1) := by decide +kernel
theorem dX2_addStones_15 : decode cX2_addStones 15 = .ok (.iconst 1, 1) := by decide +kernel
theorem dX2_addStones_16 : decode cX2_addStones 16 = .ok (.if_icmp .ne 13, 3) := by decide +kernel
theorem dX2_addStones_19 : decode cX2_addStones 19 = .ok (.aload_n 0, 1) := by decide +kernel
theorem dX2_addStones_20 : decode cX2_addStones 20 = .ok (.getfield 43, 3) := by decide +kernel
theorem dX2_addStones_23 : decode cX2_addStones 23 = .ok (.iload_n 3, 1) := by decide +kernel
theorem dX2_addStones_24 : decode cX2_addStones 24 = .ok (.dup2, 1) := by decide +kernel
theorem dX2_addStones_25 : decode cX2_addStones 25 = .ok (.iaload, 1) := by decide +kernel
theorem dX2_addStones_26 : decode cX2_addStones 26 = .ok (.iload_n 2, 1) := by decide +kernel
theorem dX2_addStones_27 : decode cX2_addStones 27 = .ok (.iadd, 1) := by decide +kernel
theorem dX2_addStones_28 : decode cX2_addStones 28 = .ok (.iastore, 1) := by decide +kernel
theorem dX2_addStones_29 : decode cX2_addStones 29 = .ok (.iinc 3 1, 3) := by decide +kernel
theorem dX2_addStones_32 : decode cX2_addStones 32 = .ok (.goto (-30), 3) := by decide +kernel
theorem dX2_addStones_35 : decode cX2_addStones 35 = .ok (.return_, 1) := by decide +kernel
theorem dX2_leaveOut_0 : decode cX2_leaveOut 0 = .ok (.aload_n 0, 1) := by decide +kernel
theorem dX2_leaveOut_1 : decode cX2_leaveOut 1 = .ok (.dup, 1) := by decide +kernel
theorem dX2_leaveOut_2 : decode cX2_leaveOut 2 = .ok (.getfield 78, 3) := by decide +kernel
theorem dX2_leaveOut_5 : decode cX2_leaveOut 5 = .ok (.iconst 1, 1) := by decide +kernel
theorem dX2_leaveOut_6 : decode cX2_leaveOut 6 = .ok (.isub, 1) := by decide +kernel
theorem dX2_leaveOut_7 : decode cX2_leaveOut 7 = .ok (.putfield 78, 3) := by decide +kernel
theorem dX2_leaveOut_10 : decode cX2_leaveOut 10 = .ok (.iload_n 1, 1) := by decide +kernel
theorem dX2_leaveOut_11 : decode cX2_leaveOut 11 = .ok (.istore_n 2, 1) := by decide +kernel
theorem dX2_leaveOut_12 : decode cX2_leaveOut 12 = .ok (.iload_n 2, 1) := by decide +kernel
theorem dX2_leaveOut_13 : decode cX2_leaveOut 13 = .ok (.aload_n 0, 1) := by decide +kernel
theorem dX2_leaveOut_14 : decode cX2_leaveOut 14 = .ok (.getfield 78, 3) := by decide +kernel
theorem dX2_leaveOut_17 : decode cX2_leaveOut 17 = .ok (.if_icmp .ge 37, 3) := by decide +kernel
theorem dX2_leaveOut_20 : decode cX2_leaveOut 20 = .ok (.aload_n 0, 1) := by decide +kernel
theorem dX2_leaveOut_21 : decode cX2_leaveOut 21 = .ok (.getfield 55, 3) := by decide +kernel
theorem dX2_leaveOut_24 : decode cX2_leaveOut 24 = .ok (.iload_n 2, 1) := by decide +kernel
theorem dX2_leaveOut_25 : decode cX2_leaveOut 25 = .ok (.aload_n 0, 1) := by decide +kernel
theorem dX2_leaveOut_26 : decode cX2_leaveOut 26 = .ok (.getfield 55, 3) := by decide +kernel
theorem dX2_leaveOut_29 : decode cX2_leaveOut 29 = .ok (.iload_n 2, 1) := by decide +kernel
theorem dX2_leaveOut_30 : decode cX2_leaveOut 30 = .ok (.iconst 1, 1) := by decide +kernel
theorem dX2_leaveOut_31 : decode cX2_leaveOut 31 = .ok (.iadd, 1) := by decide +kernel
theorem dX2_leaveOut_32 : decode cX2_leaveOut 32 = .ok (.iaload, 1) := by decide +kernel
theorem dX2_leaveOut_33 : decode cX2_leaveOut 33 = .ok (.iastore, 1) := by decide +kernel
theorem dX2_leaveOut_34 : decode cX2_leaveOut 34 = .ok (.aload_n 0, 1) := by decide +kernel
theorem dX2_leaveOut_35 : decode cX2_leaveOut 35 = .ok (.getfield 58, 3) := by decide +kernel
theorem dX2_leaveOut_38 : decode cX2_leaveOut 38 = .ok (.iload_n 2, 1) := by decide +kernel
theorem dX2_leaveOut_39 : decode cX2_leaveOut 39 = .ok (.aload_n 0, 1) := by decide +kernel
theorem dX2_leaveOut_40 : decode cX2_leaveOut 40 = .ok (.getfield 58, 3) := by decide +kernel
theorem dX2_leaveOut_43 : decode cX2_leaveOut 43 = .ok (.iload_n 2, 1) := by decide +kernel
theorem dX2_leaveOut_44 : decode cX2_leaveOut 44 = .ok (.iconst 1, 1) := by decide +kernel
theorem dX2_leaveOut_45 : decode cX2_leaveOut 45 = .ok (.iadd, 1) := by decide +kernel
theorem dX2_leaveOut_46 : decode cX2_leaveOut 46 = .ok (.iaload, 1) := by decide +kernel
theorem dX2_leaveOut_47 : decode cX2_leaveOut 47 = .ok (.iastore, 1) := by decide +kernel
theorem dX2_leaveOut_48 : decode cX2_leaveOut 48 = .ok (.iinc 2 1, 3) := by decide +kernel
theorem dX2_leaveOut_51 : decode cX2_leaveOut 51 = .ok (.goto (-39), 3) := by decide +kernel
theorem dX2_leaveOut_54 : decode cX2_leaveOut 54 = .ok (.return_, 1) := by decide +kernel
theorem dX2_leaveAlone_0 : decode cX2_leaveAlone 0 = .ok (.aload_n 0, 1) := by decide +kernel
theorem dX2_leaveAlone_1 : decode cX2_leaveAlone 1 = .ok (.getfield 55, 3) := by decide +kernel
theorem dX2_leaveAlone_4 : decode cX2_leaveAlone 4 = .ok (.iconst 0, 1) := by decide +kernel
theorem dX2_leaveAlone_5 : decode cX2_leaveAlone 5 = .ok (.aload_n 0, 1) := by decide +kernel
theorem dX2_leaveAlone_6 : decode cX2_leaveAlone 6 = .ok (.getfield 55, 3) := by decide +kernel
theorem dX2_leaveAlone_9 : decode cX2_leaveAlone 9 = .ok (.iload_n 1, 1) := by decide +kernel
theorem dX2_leaveAlone_10 : decode cX2_leaveAlone 10 = .ok (.iaload, 1) := by decide +kernel
theorem dX2_leaveAlone_11 : decode cX2_leaveAlone 11 = .ok (.iastore, 1) := by decide +kernel
theorem dX2_leaveAlone_12 : decode cX2_leaveAlone 12 = .ok (.aload_n 0, 1) := by decide +kernel
theorem dX2_leaveAlone_13 : decode cX2_leaveAlone 13 = .ok (.getfield 58, 3) := by decide +kernel
theorem dX2_leaveAlone_16 : decode cX2_leaveAlone 16 = .ok (.iconst 0, 1) := by decide +kernel
theorem dX2_leaveAlone_17 : decode cX2_leaveAlone 17 = .ok (.aload_n 0, 1) := by decide +kernel
theorem dX2_leaveAlone_18 : decode cX2_leaveAlone 18 = .ok (.getfield 58, 3) := by decide +kernel
theorem dX2_leaveAlone_21 : decode cX2_leaveAlone 21 = .ok (.iload_n 1, 1) := by decide +kernel
theorem dX2_leaveAlone_22 : decode cX2_leaveAlone 22 = .ok (.iaload, 1) := by decide +kernel
theorem dX2_leaveAlone_23 : decode cX2_leaveAlone 23 = .ok (.iastore, 1) := by decide +kernel
theorem dX2_leaveAlone_24 : decode cX2_leaveAlone 24 = .ok (.aload_n 0, 1) := by decide +kernel
theorem dX2_leaveAlone_25 : decode cX2_leaveAlone 25 = .ok (.iconst 1, 1) := by decide +kernel
theorem dX2_leaveAlone_26 : decode cX2_leaveAlone 26 = .ok (.putfield 78, 3) := by decide +kernel
theorem dX2_leaveAlone_29 : decode cX2_leaveAlone 29 = .ok (.return_, 1) := by decide +kernel
theorem dX2_packed_0 : decode cX2_packed 0 = .ok (.aload_n 0, 1) := by decide +kernel
theorem dX2_packed_1 : decode cX2_packed 1 = .ok (.getfield 72, 3) := by decide +kernel
theorem dX2_packed_4 : decode cX2_packed 4 = .ok (.istore_n 1, 1) := by decide +kernel
theorem dX2_packed_5 : decode cX2_packed 5 = .ok (.iconst 0, 1) := by decide +kernel
theorem dX2_packed_6 : decode cX2_packed 6 = .ok (.istore_n 2, 1) := by decide +kernel
theorem dX2_packed_7 : decode cX2_packed 7 = .ok (.iload_n 2, 1) := by decide +kernel
theorem dX2_packed_8 : decode cX2_packed 8 = .ok (.iconst 3, 1) := by decide +kernel
theorem dX2_packed_9 : decode cX2_packed 9 = .ok (.if_icmp .ge 33, 3) := by decide +kernel
theorem dX2_packed_12 : decode cX2_packed 12 = .ok (.bipush 10, 2) := by decide +kernel
theorem dX2_packed_14 : decode cX2_packed 14 = .ok (.iload_n 1, 1) := by decide +kernel
theorem dX2_packed_15 : decode cX2_packed 15 = .ok (.imul, 1) := by decide +kernel
theorem dX2_packed_16 : decode cX2_packed 16 = .ok (.iload_n 2, 1) := by decide +kernel
theorem dX2_packed_17 : decode cX2_packed 17 = .ok (.aload_n 0, 1) := by decide +kernel
theorem dX2_packed_18 : decode cX2_packed 18 = .ok (.getfield 78, 3) := by decide +kernel
theorem dX2_packed_21 : decode cX2_packed 21 = .ok (.if_icmp .ge 12, 3) := by decide +kernel
theorem dX2_packed_24 : decode cX2_packed 24 = .ok (.aload_n 0, 1) := by decide +kernel
theorem dX2_packed_25 : decode cX2_packed 25 = .ok (.getfield 58, 3) := by decide +kernel
theorem dX2_packed_28 : decode cX2_packed 28 = .ok (.iload_n 2, 1) := by decide +kernel
theorem dX2_packed_29 : decode cX2_packed 29 = .ok (.iaload, 1) := by decide +kernel
theorem dX2_packed_30 : decode cX2_packed 30 = .ok (.goto 4, 3) := by decide +kernel
theorem dX2_packed_33 : decode cX2_packed 33 = .ok (.iconst 0, 1) := by decide +kernel
theorem dX2_packed_34 : decode cX2_packed 34 = .ok (.iadd, 1) := by decide +kernel
theorem dX2_packed_35 : decode cX2_packed 35 = .ok (.istore_n 1, 1) := by decide +kernel
theorem dX2_packed_36 : decode cX2_packed 36 = .ok (.iinc 2 1, 3) := by decide +kernel
theorem dX2_packed_39 : decode cX2_packed 39 = .ok (.goto (-32), 3) := by decide +kernel
theorem dX2_packed_42 : decode cX2_packed 42 = .ok (.iload_n 1, 1) := by decide +kernel
theorem dX2_packed_43 : decode cX2_packed 43 = .ok (.ireturn, 1) := by decide +kernel
theorem dX2_unpack_0 : decode cX2_unpack 0 = .ok (.iload_n 1, 1) := by decide +kernel
theorem dX2_unpack_1 : decode cX2_unpack 1 = .ok (.istore_n 2, 1) := by decide +kernel
theorem dX2_unpack_2 : decode cX2_unpack 2 = .ok (.iconst 2, 1) := by decide +kernel
theorem dX2_unpack_3 : decode cX2_unpack 3 = .ok (.istore_n 3, 1) := by decide +kernel
theorem dX2_unpack_4 : decode cX2_unpack 4 = .ok (.iload_n 3, 1) := by decide +kernel
theorem dX2_unpack_5 : decode cX2_unpack 5 = .ok (.ifCond .lt 24, 3) := by decide +kernel
theorem dX2_unpack_8 : decode cX2_unpack 8 = .ok (.aload_n 0, 1) := by decide +kernel
theorem dX2_unpack_9 : decode cX2_unpack 9 = .ok (.getfield 58, 3) := by decide +kernel
theorem dX2_unpack_12 : decode cX2_unpack 12 = .ok (.iload_n 3, 1) := by decide +kernel
theorem dX2_unpack_13 : decode cX2_unpack 13 = .ok (.iload_n 2, 1) := by decide +kernel
theorem dX2_unpack_14 : decode cX2_unpack 14 = .ok (.bipush 10, 2) := by decide +kernel
theorem dX2_unpack_16 : decode cX2_unpack 16 = .ok (.irem, 1) := by decide +kernel
theorem dX2_unpack_17 : decode cX2_unpack 17 = .ok (.iastore, 1) := by decide +kernel
theorem dX2_unpack_18 : decode cX2_unpack 18 = .ok (.iload_n 2, 1) := by decide +kernel
theorem dX2_unpack_19 : decode cX2_unpack 19 = .ok (.bipush 10, 2) := by decide +kernel
theorem dX2_unpack_21 : decode cX2_unpack 21 = .ok (.idiv, 1) := by decide +kernel
theorem dX2_unpack_22 : decode cX2_unpack 22 = .ok (.istore_n 2, 1) := by decide +kernel
theorem dX2_unpack_23 : decode cX2_unpack 23 = .ok (.iinc 3 (-1), 3) := by decide +kernel
theorem dX2_unpack_26 : decode cX2_unpack 26 = .ok (.goto (-22), 3) := by decide +kernel
theorem dX2_unpack_29 : decode cX2_unpack 29 = .ok (.aload_n 0, 1) := by decide +kernel
theorem dX2_unpack_30 : decode cX2_unpack 30 = .ok (.iload_n 2, 1) := by decide +kernel
theorem dX2_unpack_31 : decode cX2_unpack 31 = .ok (.putfield 72, 3) := by decide +kernel
theorem dX2_unpack_34 : decode cX2_unpack 34 = .ok (.return_, 1) := by decide +kernel
theorem dX2_digestOn_0 : decode cX2_digestOn 0 = .ok (.lload_n 1, 1) := by decide +kernel
theorem dX2_digestOn_1 : decode cX2_digestOn 1 = .ok (.lstore_n 3, 1) := by decide +kernel
theorem dX2_digestOn_2 : decode cX2_digestOn 2 = .ok (.iconst 0, 1) := by decide +kernel
theorem dX2_digestOn_3 : decode cX2_digestOn 3 = .ok (.istore 5, 2) := by decide +kernel
theorem dX2_digestOn_5 : decode cX2_digestOn 5 = .ok (.iload 5, 2) := by decide +kernel
theorem dX2_digestOn_7 : decode cX2_digestOn 7 = .ok (.aload_n 0, 1) := by decide +kernel
theorem dX2_digestOn_8 : decode cX2_digestOn 8 = .ok (.getfield 68, 3) := by decide +kernel
theorem dX2_digestOn_11 : decode cX2_digestOn 11 = .ok (.if_icmp .ge 69, 3) := by decide +kernel
theorem dX2_digestOn_14 : decode cX2_digestOn 14 = .ok (.ldc2_w 142, 3) := by decide +kernel
theorem dX2_digestOn_17 : decode cX2_digestOn 17 = .ok (.lload_n 3, 1) := by decide +kernel
theorem dX2_digestOn_18 : decode cX2_digestOn 18 = .ok (.lmul, 1) := by decide +kernel
theorem dX2_digestOn_19 : decode cX2_digestOn 19 = .ok (.aload_n 0, 1) := by decide +kernel
theorem dX2_digestOn_20 : decode cX2_digestOn 20 = .ok (.getfield 33, 3) := by decide +kernel
theorem dX2_digestOn_23 : decode cX2_digestOn 23 = .ok (.iload 5, 2) := by decide +kernel
theorem dX2_digestOn_25 : decode cX2_digestOn 25 = .ok (.iaload, 1) := by decide +kernel
theorem dX2_digestOn_26 : decode cX2_digestOn 26 = .ok (.i2l, 1) := by decide +kernel
theorem dX2_digestOn_27 : decode cX2_digestOn 27 = .ok (.ladd, 1) := by decide +kernel
theorem dX2_digestOn_28 : decode cX2_digestOn 28 = .ok (.lstore_n 3, 1) := by decide +kernel
theorem dX2_digestOn_29 : decode cX2_digestOn 29 = .ok (.ldc2_w 142, 3) := by decide +kernel
theorem dX2_digestOn_32 : decode cX2_digestOn 32 = .ok (.lload_n 3, 1) := by decide +kernel
theorem dX2_digestOn_33 : decode cX2_digestOn 33 = .ok (.lmul, 1) := by decide +kernel
theorem dX2_digestOn_34 : decode cX2_digestOn 34 = .ok (.aload_n 0, 1) := by decide +kernel
theorem dX2_digestOn_35 : decode cX2_digestOn 35 = .ok (.getfield 37, 3) := by decide +kernel
theorem dX2_digestOn_38 : decode cX2_digestOn 38 = .ok (.iload 5, 2) := by decide +kernel
theorem dX2_digestOn_40 : decode cX2_digestOn 40 = .ok (.iaload, 1) := by decide +kernel
theorem dX2_digestOn_41 : decode cX2_digestOn 41 = .ok (.i2l, 1) := by decide +kernel
theorem dX2_digestOn_42 : decode cX2_digestOn 42 = .ok (.ladd, 1) := by decide +kernel
theorem dX2_digestOn_43 : decode cX2_digestOn 43 = .ok (.lstore_n 3, 1) := by decide +kernel
theorem dX2_digestOn_44 : decode cX2_digestOn 44 = .ok (.ldc2_w 142, 3) := by decide +kernel
theorem dX2_digestOn_47 : decode cX2_digestOn 47 = .ok (.lload_n 3, 1) := by decide +kernel
theorem dX2_digestOn_48 : decode cX2_digestOn 48 = .ok (.lmul, 1) := by decide +kernel
theorem dX2_digestOn_49 : decode cX2_digestOn 49 = .ok (.aload_n 0, 1) := by decide +kernel
theorem dX2_digestOn_50 : decode cX2_digestOn 50 = .ok (.getfield 40, 3) := by decide +kernel
theorem dX2_digestOn_53 : decode cX2_digestOn 53 = .ok (.iload 5, 2) := by decide +kernel
theorem dX2_digestOn_55 : decode cX2_digestOn 55 = .ok (.iaload, 1) := by decide +kernel
theorem dX2_digestOn_56 : decode cX2_digestOn 56 = .ok (.i2l, 1) := by decide +kernel
theorem dX2_digestOn_57 : decode cX2_digestOn 57 = .ok (.ladd, 1) := by decide +kernel
theorem dX2_digestOn_58 : decode cX2_digestOn 58 = .ok (.lstore_n 3, 1) := by decide +kernel
theorem dX2_digestOn_59 : decode cX2_digestOn 59 = .ok (.ldc2_w 142, 3) := by decide +kernel
theorem dX2_digestOn_62 : decode cX2_digestOn 62 = .ok (.lload_n 3, 1) := by decide +kernel
theorem dX2_digestOn_63 : decode cX2_digestOn 63 = .ok (.lmul, 1) := by decide +kernel
theorem dX2_digestOn_64 : decode cX2_digestOn 64 = .ok (.aload_n 0, 1) := by decide +kernel
theorem dX2_digestOn_65 : decode cX2_digestOn 65 = .ok (.getfield 43, 3) := by decide +kernel
theorem dX2_digestOn_68 : decode cX2_digestOn 68 = .ok (.iload 5, 2) := by decide +kernel
theorem dX2_digestOn_70 : decode cX2_digestOn 70 = .ok (.iaload, 1) := by decide +kernel
theorem dX2_digestOn_71 : decode cX2_digestOn 71 = .ok (.i2l, 1) := by decide +kernel
theorem dX2_digestOn_72 : decode cX2_digestOn 72 = .ok (.ladd, 1) := by decide +kernel
theorem dX2_digestOn_73 : decode cX2_digestOn 73 = .ok (.lstore_n 3, 1) := by decide +kernel
theorem dX2_digestOn_74 : decode cX2_digestOn 74 = .ok (.iinc 5 1, 3) := by decide +kernel
theorem dX2_digestOn_77 : decode cX2_digestOn 77 = .ok (.goto (-72), 3) := by decide +kernel
theorem dX2_digestOn_80 : decode cX2_digestOn 80 = .ok (.ldc2_w 142, 3) := by decide +kernel
theorem dX2_digestOn_83 : decode cX2_digestOn 83 = .ok (.lload_n 3, 1) := by decide +kernel
theorem dX2_digestOn_84 : decode cX2_digestOn 84 = .ok (.lmul, 1) := by decide +kernel
theorem dX2_digestOn_85 : decode cX2_digestOn 85 = .ok (.aload_n 0, 1) := by decide +kernel
theorem dX2_digestOn_86 : decode cX2_digestOn 86 = .ok (.getfield 72, 3) := by decide +kernel
theorem dX2_digestOn_89 : decode cX2_digestOn 89 = .ok (.i2l, 1) := by decide +kernel
theorem dX2_digestOn_90 : decode cX2_digestOn 90 = .ok (.ladd, 1) := by decide +kernel
theorem dX2_digestOn_91 : decode cX2_digestOn 91 = .ok (.lstore_n 3, 1) := by decide +kernel
theorem dX2_digestOn_92 : decode cX2_digestOn 92 = .ok (.iconst 0, 1) := by decide +kernel
theorem dX2_digestOn_93 : decode cX2_digestOn 93 = .ok (.istore 5, 2) := by decide +kernel
theorem dX2_digestOn_95 : decode cX2_digestOn 95 = .ok (.iload 5, 2) := by decide +kernel
theorem dX2_digestOn_97 : decode cX2_digestOn 97 = .ok (.aload_n 0, 1) := by decide +kernel
theorem dX2_digestOn_98 : decode cX2_digestOn 98 = .ok (.getfield 75, 3) := by decide +kernel
theorem dX2_digestOn_101 : decode cX2_digestOn 101 = .ok (.if_icmp .ge 54, 3) := by decide +kernel
theorem dX2_digestOn_104 : decode cX2_digestOn 104 = .ok (.ldc2_w 142, 3) := by decide +kernel
theorem dX2_digestOn_107 : decode cX2_digestOn 107 = .ok (.lload_n 3, 1) := by decide +kernel
theorem dX2_digestOn_108 : decode cX2_digestOn 108 = .ok (.lmul, 1) := by decide +kernel
theorem dX2_digestOn_109 : decode cX2_digestOn 109 = .ok (.aload_n 0, 1) := by decide +kernel
theorem dX2_digestOn_110 : decode cX2_digestOn 110 = .ok (.getfield 46, 3) := by decide +kernel
theorem dX2_digestOn_113 : decode cX2_digestOn 113 = .ok (.iload 5, 2) := by decide +kernel
theorem dX2_digestOn_115 : decode cX2_digestOn 115 = .ok (.iaload, 1) := by decide +kernel
theorem dX2_digestOn_116 : decode cX2_digestOn 116 = .ok (.i2l, 1) := by decide +kernel
theorem dX2_digestOn_117 : decode cX2_digestOn 117 = .ok (.ladd, 1) := by decide +kernel
theorem dX2_digestOn_118 : decode cX2_digestOn 118 = .ok (.lstore_n 3, 1) := by decide +kernel
theorem dX2_digestOn_119 : decode cX2_digestOn 119 = .ok (.ldc2_w 142, 3) := by decide +kernel
theorem dX2_digestOn_122 : decode cX2_digestOn 122 = .ok (.lload_n 3, 1) := by decide +kernel
theorem dX2_digestOn_123 : decode cX2_digestOn 123 = .ok (.lmul, 1) := by decide +kernel
theorem dX2_digestOn_124 : decode cX2_digestOn 124 = .ok (.aload_n 0, 1) := by decide +kernel
theorem dX2_digestOn_125 : decode cX2_digestOn 125 = .ok (.getfield 49, 3) := by decide +kernel
theorem dX2_digestOn_128 : decode cX2_digestOn 128 = .ok (.iload 5, 2) := by decide +kernel
theorem dX2_digestOn_130 : decode cX2_digestOn 130 = .ok (.iaload, 1) := by decide +kernel
theorem dX2_digestOn_131 : decode cX2_digestOn 131 = .ok (.i2l, 1) := by decide +kernel
theorem dX2_digestOn_132 : decode cX2_digestOn 132 = .ok (.ladd, 1) := by decide +kernel
theorem dX2_digestOn_133 : decode cX2_digestOn 133 = .ok (.lstore_n 3, 1) := by decide +kernel
theorem dX2_digestOn_134 : decode cX2_digestOn 134 = .ok (.ldc2_w 142, 3) := by decide +kernel
theorem dX2_digestOn_137 : decode cX2_digestOn 137 = .ok (.lload_n 3, 1) := by decide +kernel
theorem dX2_digestOn_138 : decode cX2_digestOn 138 = .ok (.lmul, 1) := by decide +kernel
theorem dX2_digestOn_139 : decode cX2_digestOn 139 = .ok (.aload_n 0, 1) := by decide +kernel
theorem dX2_digestOn_140 : decode cX2_digestOn 140 = .ok (.getfield 52, 3) := by decide +kernel
theorem dX2_digestOn_143 : decode cX2_digestOn 143 = .ok (.iload 5, 2) := by decide +kernel
theorem dX2_digestOn_145 : decode cX2_digestOn 145 = .ok (.iaload, 1) := by decide +kernel
theorem dX2_digestOn_146 : decode cX2_digestOn 146 = .ok (.i2l, 1) := by decide +kernel
theorem dX2_digestOn_147 : decode cX2_digestOn 147 = .ok (.ladd, 1) := by decide +kernel
theorem dX2_digestOn_148 : decode cX2_digestOn 148 = .ok (.lstore_n 3, 1) := by decide +kernel
theorem dX2_digestOn_149 : decode cX2_digestOn 149 = .ok (.iinc 5 1, 3) := by decide +kernel
theorem dX2_digestOn_152 : decode cX2_digestOn 152 = .ok (.goto (-57), 3) := by decide +kernel
theorem dX2_digestOn_155 : decode cX2_digestOn 155 = .ok (.iconst 0, 1) := by decide +kernel
theorem dX2_digestOn_156 : decode cX2_digestOn 156 = .ok (.istore 5, 2) := by decide +kernel
theorem dX2_digestOn_158 : decode cX2_digestOn 158 = .ok (.iload 5, 2) := by decide +kernel
theorem dX2_digestOn_160 : decode cX2_digestOn 160 = .ok (.aload_n 0, 1) := by decide +kernel
theorem dX2_digestOn_161 : decode cX2_digestOn 161 = .ok (.getfield 78, 3) := by decide +kernel
theorem dX2_digestOn_164 : decode cX2_digestOn 164 = .ok (.if_icmp .ge 39, 3) := by decide +kernel
theorem dX2_digestOn_167 : decode cX2_digestOn 167 = .ok (.ldc2_w 142, 3) := by decide +kernel
theorem dX2_digestOn_170 : decode cX2_digestOn 170 = .ok (.lload_n 3, 1) := by decide +kernel
theorem dX2_digestOn_171 : decode cX2_digestOn 171 = .ok (.lmul, 1) := by decide +kernel
theorem dX2_digestOn_172 : decode cX2_digestOn 172 = .ok (.aload_n 0, 1) := by decide +kernel
theorem dX2_digestOn_173 : decode cX2_digestOn 173 = .ok (.getfield 55, 3) := by decide +kernel
theorem dX2_digestOn_176 : decode cX2_digestOn 176 = .ok (.iload 5, 2) := by decide +kernel
theorem dX2_digestOn_178 : decode cX2_digestOn 178 = .ok (.iaload, 1) := by decide +kernel
theorem dX2_digestOn_179 : decode cX2_digestOn 179 = .ok (.i2l, 1) := by decide +kernel
theorem dX2_digestOn_180 : decode cX2_digestOn 180 = .ok (.ladd, 1) := by decide +kernel
theorem dX2_digestOn_181 : decode cX2_digestOn 181 = .ok (.lstore_n 3, 1) := by decide +kernel
theorem dX2_digestOn_182 : decode cX2_digestOn 182 = .ok (.ldc2_w 142, 3) := by decide +kernel
theorem dX2_digestOn_185 : decode cX2_digestOn 185 = .ok (.lload_n 3, 1) := by decide +kernel
theorem dX2_digestOn_186 : decode cX2_digestOn 186 = .ok (.lmul, 1) := by decide +kernel
theorem dX2_digestOn_187 : decode cX2_digestOn 187 = .ok (.aload_n 0, 1) := by decide +kernel
theorem dX2_digestOn_188 : decode cX2_digestOn 188 = .ok (.getfield 58, 3) := by decide +kernel
theorem dX2_digestOn_191 : decode cX2_digestOn 191 = .ok (.iload 5, 2) := by decide +kernel
theorem dX2_digestOn_193 : decode cX2_digestOn 193 = .ok (.iaload, 1) := by decide +kernel
theorem dX2_digestOn_194 : decode cX2_digestOn 194 = .ok (.i2l, 1) := by decide +kernel
theorem dX2_digestOn_195 : decode cX2_digestOn 195 = .ok (.ladd, 1) := by decide +kernel
theorem dX2_digestOn_196 : decode cX2_digestOn 196 = .ok (.lstore_n 3, 1) := by decide +kernel
theorem dX2_digestOn_197 : decode cX2_digestOn 197 = .ok (.iinc 5 1, 3) := by decide +kernel
theorem dX2_digestOn_200 : decode cX2_digestOn 200 = .ok (.goto (-42), 3) := by decide +kernel
theorem dX2_digestOn_203 : decode cX2_digestOn 203 = .ok (.lload_n 3, 1) := by decide +kernel
theorem dX2_digestOn_204 : decode cX2_digestOn 204 = .ok (.lreturn, 1) := by decide +kernel
theorem dX3_init_0 : decode cX3_init 0 = .ok (.aload_n 0, 1) := by decide +kernel
theorem dX3_init_1 : decode cX3_init 1 = .ok (.invokespecial 1, 3) := by decide +kernel
theorem dX3_init_4 : decode cX3_init 4 = .ok (.return_, 1) := by decide +kernel
theorem dX3_loadBy_0 : decode cX3_loadBy 0 = .ok (.aload_n 0, 1) := by decide +kernel
theorem dX3_loadBy_1 : decode cX3_loadBy 1 = .ok (.iload_n 1, 1) := by decide +kernel
theorem dX3_loadBy_2 : decode cX3_loadBy 2 = .ok (.invokespecial 7, 3) := by decide +kernel
theorem dX3_loadBy_5 : decode cX3_loadBy 5 = .ok (.istore_n 2, 1) := by decide +kernel
theorem dX3_loadBy_6 : decode cX3_loadBy 6 = .ok (.iload_n 2, 1) := by decide +kernel
theorem dX3_loadBy_7 : decode cX3_loadBy 7 = .ok (.ifCond .le 9, 3) := by decide +kernel
theorem dX3_loadBy_10 : decode cX3_loadBy 10 = .ok (.iload_n 2, 1) := by decide +kernel
theorem dX3_loadBy_11 : decode cX3_loadBy 11 = .ok (.iconst 1, 1) := by decide +kernel
theorem dX3_loadBy_12 : decode cX3_loadBy 12 = .ok (.iadd, 1) := by decide +kernel
theorem dX3_loadBy_13 : decode cX3_loadBy 13 = .ok (.goto 4, 3) := by decide +kernel
theorem dX3_loadBy_16 : decode cX3_loadBy 16 = .ok (.iload_n 2, 1) := by decide +kernel
theorem dX3_loadBy_17 : decode cX3_loadBy 17 = .ok (.ireturn, 1) := by decide +kernel
theorem dX4_init_0 : decode cX4_init 0 = .ok (.aload_n 0, 1) := by decide +kernel
theorem dX4_init_1 : decode cX4_init 1 = .ok (.invokespecial 1, 3) := by decide +kernel
theorem dX4_init_4 : decode cX4_init 4 = .ok (.return_, 1) := by decide +kernel
theorem dX4_mayFall_0 : decode cX4_mayFall 0 = .ok (.iconst 0, 1) := by decide +kernel
theorem dX4_mayFall_1 : decode cX4_mayFall 1 = .ok (.ireturn, 1) := by decide +kernel
theorem dX5_init_0 : decode cX5_init 0 = .ok (.aload_n 0, 1) := by decide +kernel
theorem dX5_init_1 : decode cX5_init 1 = .ok (.invokespecial 1, 3) := by decide +kernel
theorem dX5_init_4 : decode cX5_init 4 = .ok (.return_, 1) := by decide +kernel
theorem dX5_mayRise_0 : decode cX5_mayRise 0 = .ok (.iconst 0, 1) := by decide +kernel
theorem dX5_mayRise_1 : decode cX5_mayRise 1 = .ok (.ireturn, 1) := by decide +kernel
theorem dX6_init_0 : decode cX6_init 0 = .ok (.aload_n 0, 1) := by decide +kernel
theorem dX6_init_1 : decode cX6_init 1 = .ok (.invokespecial 3, 3) := by decide +kernel
theorem dX6_init_4 : decode cX6_init 4 = .ok (.aload_n 0, 1) := by decide +kernel
theorem dX6_init_5 : decode cX6_init 5 = .ok (.bipush 16, 2) := by decide +kernel
theorem dX6_init_7 : decode cX6_init 7 = .ok (.newarray .int, 2) := by decide +kernel
theorem dX6_init_9 : decode cX6_init 9 = .ok (.putfield 9, 3) := by decide +kernel
theorem dX6_init_12 : decode cX6_init 12 = .ok (.return_, 1) := by decide +kernel
theorem dX6_push_0 : decode cX6_push 0 = .ok (.aload_n 0, 1) := by decide +kernel
theorem dX6_push_1 : decode cX6_push 1 = .ok (.getfield 15, 3) := by decide +kernel
theorem dX6_push_4 : decode cX6_push 4 = .ok (.bipush 16, 2) := by decide +kernel
theorem dX6_push_6 : decode cX6_push 6 = .ok (.if_icmp .ne 28, 3) := by decide +kernel
theorem dX6_push_9 : decode cX6_push 9 = .ok (.aload_n 0, 1) := by decide +kernel
theorem dX6_push_10 : decode cX6_push 10 = .ok (.getfield 9, 3) := by decide +kernel
theorem dX6_push_13 : decode cX6_push 13 = .ok (.iconst 1, 1) := by decide +kernel
theorem dX6_push_14 : decode cX6_push 14 = .ok (.aload_n 0, 1) := by decide +kernel
theorem dX6_push_15 : decode cX6_push 15 = .ok (.getfield 9, 3) := by decide +kernel
theorem dX6_push_18 : decode cX6_push 18 = .ok (.iconst 0, 1) := by decide +kernel
theorem dX6_push_19 : decode cX6_push 19 = .ok (.bipush 15, 2) := by decide +kernel
theorem dX6_push_21 : decode cX6_push 21 = .ok (.invokestatic 19, 3) := by decide +kernel
theorem dX6_push_24 : decode cX6_push 24 = .ok (.aload_n 0, 1) := by decide +kernel
theorem dX6_push_25 : decode cX6_push 25 = .ok (.dup, 1) := by decide +kernel
theorem dX6_push_26 : decode cX6_push 26 = .ok (.getfield 15, 3) := by decide +kernel
theorem dX6_push_29 : decode cX6_push 29 = .ok (.iconst 1, 1) := by decide +kernel
theorem dX6_push_30 : decode cX6_push 30 = .ok (.isub, 1) := by decide +kernel
theorem dX6_push_31 : decode cX6_push 31 = .ok (.putfield 15, 3) := by decide +kernel
theorem dX6_push_34 : decode cX6_push 34 = .ok (.aload_n 0, 1) := by decide +kernel
theorem dX6_push_35 : decode cX6_push 35 = .ok (.getfield 9, 3) := by decide +kernel
theorem dX6_push_38 : decode cX6_push 38 = .ok (.aload_n 0, 1) := by decide +kernel
theorem dX6_push_39 : decode cX6_push 39 = .ok (.getfield 15, 3) := by decide +kernel
theorem dX6_push_42 : decode cX6_push 42 = .ok (.iload_n 1, 1) := by decide +kernel
theorem dX6_push_43 : decode cX6_push 43 = .ok (.iastore, 1) := by decide +kernel
theorem dX6_push_44 : decode cX6_push 44 = .ok (.aload_n 0, 1) := by decide +kernel
theorem dX6_push_45 : decode cX6_push 45 = .ok (.dup, 1) := by decide +kernel
theorem dX6_push_46 : decode cX6_push 46 = .ok (.getfield 15, 3) := by decide +kernel
theorem dX6_push_49 : decode cX6_push 49 = .ok (.iconst 1, 1) := by decide +kernel
theorem dX6_push_50 : decode cX6_push 50 = .ok (.iadd, 1) := by decide +kernel
theorem dX6_push_51 : decode cX6_push 51 = .ok (.putfield 15, 3) := by decide +kernel
theorem dX6_push_54 : decode cX6_push 54 = .ok (.return_, 1) := by decide +kernel
theorem dX6_pop_0 : decode cX6_pop 0 = .ok (.aload_n 0, 1) := by decide +kernel
theorem dX6_pop_1 : decode cX6_pop 1 = .ok (.getfield 15, 3) := by decide +kernel
theorem dX6_pop_4 : decode cX6_pop 4 = .ok (.ifCond .ne 5, 3) := by decide +kernel
theorem dX6_pop_7 : decode cX6_pop 7 = .ok (.iconst (-1), 1) := by decide +kernel
theorem dX6_pop_8 : decode cX6_pop 8 = .ok (.ireturn, 1) := by decide +kernel
theorem dX6_pop_9 : decode cX6_pop 9 = .ok (.aload_n 0, 1) := by decide +kernel
theorem dX6_pop_10 : decode cX6_pop 10 = .ok (.dup, 1) := by decide +kernel
theorem dX6_pop_11 : decode cX6_pop 11 = .ok (.getfield 15, 3) := by decide +kernel
theorem dX6_pop_14 : decode cX6_pop 14 = .ok (.iconst 1, 1) := by decide +kernel
theorem dX6_pop_15 : decode cX6_pop 15 = .ok (.isub, 1) := by decide +kernel
theorem dX6_pop_16 : decode cX6_pop 16 = .ok (.putfield 15, 3) := by decide +kernel
theorem dX6_pop_19 : decode cX6_pop 19 = .ok (.aload_n 0, 1) := by decide +kernel
theorem dX6_pop_20 : decode cX6_pop 20 = .ok (.getfield 9, 3) := by decide +kernel
theorem dX6_pop_23 : decode cX6_pop 23 = .ok (.aload_n 0, 1) := by decide +kernel
theorem dX6_pop_24 : decode cX6_pop 24 = .ok (.getfield 15, 3) := by decide +kernel
theorem dX6_pop_27 : decode cX6_pop 27 = .ok (.iaload, 1) := by decide +kernel
theorem dX6_pop_28 : decode cX6_pop 28 = .ok (.ireturn, 1) := by decide +kernel
theorem dX6_forget_0 : decode cX6_forget 0 = .ok (.aload_n 0, 1) := by decide +kernel
theorem dX6_forget_1 : decode cX6_forget 1 = .ok (.iconst 0, 1) := by decide +kernel
theorem dX6_forget_2 : decode cX6_forget 2 = .ok (.putfield 15, 3) := by decide +kernel
theorem dX6_forget_5 : decode cX6_forget 5 = .ok (.return_, 1) := by decide +kernel
theorem dX6_take_0 : decode cX6_take 0 = .ok (.aload_n 0, 1) := by decide +kernel
theorem dX6_take_1 : decode cX6_take 1 = .ok (.aload_n 1, 1) := by decide +kernel
theorem dX6_take_2 : decode cX6_take 2 = .ok (.getfield 15, 3) := by decide +kernel
theorem dX6_take_5 : decode cX6_take 5 = .ok (.putfield 15, 3) := by decide +kernel
theorem dX6_take_8 : decode cX6_take 8 = .ok (.aload_n 1, 1) := by decide +kernel
theorem dX6_take_9 : decode cX6_take 9 = .ok (.getfield 9, 3) := by decide +kernel
theorem dX6_take_12 : decode cX6_take 12 = .ok (.iconst 0, 1) := by decide +kernel
theorem dX6_take_13 : decode cX6_take 13 = .ok (.aload_n 0, 1) := by decide +kernel
theorem dX6_take_14 : decode cX6_take 14 = .ok (.getfield 9, 3) := by decide +kernel
theorem dX6_take_17 : decode cX6_take 17 = .ok (.iconst 0, 1) := by decide +kernel
theorem dX6_take_18 : decode cX6_take 18 = .ok (.bipush 16, 2) := by decide +kernel
theorem dX6_take_20 : decode cX6_take 20 = .ok (.invokestatic 19, 3) := by decide +kernel
theorem dX6_take_23 : decode cX6_take 23 = .ok (.return_, 1) := by decide +kernel
theorem dX7_init_0 : decode cX7_init 0 = .ok (.aload_n 0, 1) := by decide +kernel
theorem dX7_init_1 : decode cX7_init 1 = .ok (.invokespecial 1, 3) := by decide +kernel
theorem dX7_init_4 : decode cX7_init 4 = .ok (.return_, 1) := by decide +kernel
theorem dX7_loadBy_0 : decode cX7_loadBy 0 = .ok (.iload_n 1, 1) := by decide +kernel
theorem dX7_loadBy_1 : decode cX7_loadBy 1 = .ok (.ireturn, 1) := by decide +kernel
theorem dX7_mayRise_0 : decode cX7_mayRise 0 = .ok (.iconst 1, 1) := by decide +kernel
theorem dX7_mayRise_1 : decode cX7_mayRise 1 = .ok (.ireturn, 1) := by decide +kernel
theorem dX7_mayFall_0 : decode cX7_mayFall 0 = .ok (.iconst 1, 1) := by decide +kernel
theorem dX7_mayFall_1 : decode cX7_mayFall 1 = .ok (.ireturn, 1) := by decide +kernel
theorem dX8_init_0 : decode cX8_init 0 = .ok (.aload_n 0, 1) := by decide +kernel
theorem dX8_init_1 : decode cX8_init 1 = .ok (.invokespecial 3, 3) := by decide +kernel
theorem dX8_init_4 : decode cX8_init 4 = .ok (.aload_n 0, 1) := by decide +kernel
theorem dX8_init_5 : decode cX8_init 5 = .ok (.iconst 3, 1) := by decide +kernel
theorem dX8_init_6 : decode cX8_init 6 = .ok (.newarray .int, 2) := by decide +kernel
theorem dX8_init_8 : decode cX8_init 8 = .ok (.putfield 9, 3) := by decide +kernel
theorem dX8_init_11 : decode cX8_init 11 = .ok (.return_, 1) := by decide +kernel
theorem dX8_readInto_0 : decode cX8_readInto 0 = .ok (.iconst 0, 1) := by decide +kernel
theorem dX8_readInto_1 : decode cX8_readInto 1 = .ok (.istore_n 3, 1) := by decide +kernel
theorem dX8_readInto_2 : decode cX8_readInto 2 = .ok (.iconst (-1), 1) := by decide +kernel
theorem dX8_readInto_3 : decode cX8_readInto 3 = .ok (.istore 4, 2) := by decide +kernel
theorem dX8_readInto_5 : decode cX8_readInto 5 = .ok (.aload_n 1, 1) := by decide +kernel
theorem dX8_readInto_6 : decode cX8_readInto 6 = .ok (.invokevirtual 15, 3) := by decide +kernel
theorem dX8_readInto_9 : decode cX8_readInto 9 = .ok (.aload_n 2, 1) := by decide +kernel
theorem dX8_readInto_10 : decode cX8_readInto 10 = .ok (.invokevirtual 20, 3) := by decide +kernel
theorem dX8_readInto_13 : decode cX8_readInto 13 = .ok (.aload_n 2, 1) := by decide +kernel
theorem dX8_readInto_14 : decode cX8_readInto 14 = .ok (.getfield 25, 3) := by decide +kernel
theorem dX8_readInto_17 : decode cX8_readInto 17 = .ok (.ifCond .eq 49, 3) := by decide +kernel
theorem dX8_readInto_20 : decode cX8_readInto 20 = .ok (.iload_n 3, 1) := by decide +kernel
theorem dX8_readInto_21 : decode cX8_readInto 21 = .ok (.sipush 200, 3) := by decide +kernel
theorem dX8_readInto_24 : decode cX8_readInto 24 = .ok (.if_icmp .ge 42, 3) := by decide +kernel
theorem dX8_readInto_27 : decode cX8_readInto 27 = .ok (.aload_n 0, 1) := by decide +kernel
theorem dX8_readInto_28 : decode cX8_readInto 28 = .ok (.aload_n 2, 1) := by decide +kernel
theorem dX8_readInto_29 : decode cX8_readInto 29 = .ok (.invokevirtual 29, 3) := by decide +kernel
theorem dX8_readInto_32 : decode cX8_readInto 32 = .ok (.ifCond .ne 11, 3) := by decide +kernel
theorem dX8_readInto_35 : decode cX8_readInto 35 = .ok (.bipush (-10), 2) := by decide +kernel
theorem dX8_readInto_37 : decode cX8_readInto 37 = .ok (.aload_n 2, 1) := by decide +kernel
theorem dX8_readInto_38 : decode cX8_readInto 38 = .ok (.getfield 33, 3) := by decide +kernel
theorem dX8_readInto_41 : decode cX8_readInto 41 = .ok (.isub, 1) := by decide +kernel
theorem dX8_readInto_42 : decode cX8_readInto 42 = .ok (.ireturn, 1) := by decide +kernel
theorem dX8_readInto_43 : decode cX8_readInto 43 = .ok (.iload 4, 2) := by decide +kernel
theorem dX8_readInto_45 : decode cX8_readInto 45 = .ok (.iconst (-1), 1) := by decide +kernel
theorem dX8_readInto_46 : decode cX8_readInto 46 = .ok (.if_icmp .ne 14, 3) := by decide +kernel
theorem dX8_readInto_49 : decode cX8_readInto 49 = .ok (.aload_n 0, 1) := by decide +kernel
theorem dX8_readInto_50 : decode cX8_readInto 50 = .ok (.aload_n 1, 1) := by decide +kernel
theorem dX8_readInto_51 : decode cX8_readInto 51 = .ok (.invokevirtual 36, 3) := by decide +kernel
theorem dX8_readInto_54 : decode cX8_readInto 54 = .ok (.ifCond .ge 6, 3) := by decide +kernel
theorem dX8_readInto_57 : decode cX8_readInto 57 = .ok (.iload_n 3, 1) := by decide +kernel
theorem dX8_readInto_58 : decode cX8_readInto 58 = .ok (.istore 4, 2) := by decide +kernel
theorem dX8_readInto_60 : decode cX8_readInto 60 = .ok (.iinc 3 1, 3) := by decide +kernel
theorem dX8_readInto_63 : decode cX8_readInto 63 = .ok (.goto (-50), 3) := by decide +kernel
theorem dX8_readInto_66 : decode cX8_readInto 66 = .ok (.iload 4, 2) := by decide +kernel
theorem dX8_readInto_68 : decode cX8_readInto 68 = .ok (.iconst (-1), 1) := by decide +kernel
theorem dX8_readInto_69 : decode cX8_readInto 69 = .ok (.if_icmp .ne 7, 3) := by decide +kernel
theorem dX8_readInto_72 : decode cX8_readInto 72 = .ok (.iload_n 3, 1) := by decide +kernel
theorem dX8_readInto_73 : decode cX8_readInto 73 = .ok (.goto 9, 3) := by decide +kernel
theorem dX8_readInto_76 : decode cX8_readInto 76 = .ok (.sipush (-1000), 3) := by decide +kernel
theorem dX8_readInto_79 : decode cX8_readInto 79 = .ok (.iload 4, 2) := by decide +kernel
theorem dX8_readInto_81 : decode cX8_readInto 81 = .ok (.isub, 1) := by decide +kernel
theorem dX8_readInto_82 : decode cX8_readInto 82 = .ok (.ireturn, 1) := by decide +kernel
theorem dX8_readItem_0 : decode cX8_readItem 0 = .ok (.aload_n 1, 1) := by decide +kernel
theorem dX8_readItem_1 : decode cX8_readItem 1 = .ok (.getfield 25, 3) := by decide +kernel
theorem dX8_readItem_4 : decode cX8_readItem 4 = .ok (.iconst 1, 1) := by decide +kernel
theorem dX8_readItem_5 : decode cX8_readItem 5 = .ok (.if_icmp .eq 5, 3) := by decide +kernel
theorem dX8_readItem_8 : decode cX8_readItem 8 = .ok (.iconst 0, 1) := by decide +kernel
theorem dX8_readItem_9 : decode cX8_readItem 9 = .ok (.ireturn, 1) := by decide +kernel
theorem dX8_readItem_10 : decode cX8_readItem 10 = .ok (.aload_n 0, 1) := by decide +kernel
theorem dX8_readItem_11 : decode cX8_readItem 11 = .ok (.aload_n 1, 1) := by decide +kernel
theorem dX8_readItem_12 : decode cX8_readItem 12 = .ok (.getfield 40, 3) := by decide +kernel
theorem dX8_readItem_15 : decode cX8_readItem 15 = .ok (.putfield 43, 3) := by decide +kernel
theorem dX8_readItem_18 : decode cX8_readItem 18 = .ok (.iconst 0, 1) := by decide +kernel
theorem dX8_readItem_19 : decode cX8_readItem 19 = .ok (.istore_n 2, 1) := by decide +kernel
theorem dX8_readItem_20 : decode cX8_readItem 20 = .ok (.iload_n 2, 1) := by decide +kernel
theorem dX8_readItem_21 : decode cX8_readItem 21 = .ok (.getstatic 46, 3) := by decide +kernel
theorem dX8_readItem_24 : decode cX8_readItem 24 = .ok (.aload_n 0, 1) := by decide +kernel
theorem dX8_readItem_25 : decode cX8_readItem 25 = .ok (.getfield 43, 3) := by decide +kernel
theorem dX8_readItem_28 : decode cX8_readItem 28 = .ok (.iaload, 1) := by decide +kernel
theorem dX8_readItem_29 : decode cX8_readItem 29 = .ok (.if_icmp .ge 33, 3) := by decide +kernel
theorem dX8_readItem_32 : decode cX8_readItem 32 = .ok (.aload_n 1, 1) := by decide +kernel
theorem dX8_readItem_33 : decode cX8_readItem 33 = .ok (.invokevirtual 49, 3) := by decide +kernel
theorem dX8_readItem_36 : decode cX8_readItem 36 = .ok (.aload_n 1, 1) := by decide +kernel
theorem dX8_readItem_37 : decode cX8_readItem 37 = .ok (.getfield 25, 3) := by decide +kernel
theorem dX8_readItem_40 : decode cX8_readItem 40 = .ok (.iconst 2, 1) := by decide +kernel
theorem dX8_readItem_41 : decode cX8_readItem 41 = .ok (.if_icmp .eq 5, 3) := by decide +kernel
theorem dX8_readItem_44 : decode cX8_readItem 44 = .ok (.iconst 0, 1) := by decide +kernel
theorem dX8_readItem_45 : decode cX8_readItem 45 = .ok (.ireturn, 1) := by decide +kernel
theorem dX8_readItem_46 : decode cX8_readItem 46 = .ok (.aload_n 0, 1) := by decide +kernel
theorem dX8_readItem_47 : decode cX8_readItem 47 = .ok (.getfield 9, 3) := by decide +kernel
theorem dX8_readItem_50 : decode cX8_readItem 50 = .ok (.iload_n 2, 1) := by decide +kernel
theorem dX8_readItem_51 : decode cX8_readItem 51 = .ok (.aload_n 1, 1) := by decide +kernel
theorem dX8_readItem_52 : decode cX8_readItem 52 = .ok (.getfield 40, 3) := by decide +kernel
theorem dX8_readItem_55 : decode cX8_readItem 55 = .ok (.iastore, 1) := by decide +kernel
theorem dX8_readItem_56 : decode cX8_readItem 56 = .ok (.iinc 2 1, 3) := by decide +kernel
theorem dX8_readItem_59 : decode cX8_readItem 59 = .ok (.goto (-39), 3) := by decide +kernel
theorem dX8_readItem_62 : decode cX8_readItem 62 = .ok (.aload_n 1, 1) := by decide +kernel
theorem dX8_readItem_63 : decode cX8_readItem 63 = .ok (.invokevirtual 49, 3) := by decide +kernel
theorem dX8_readItem_66 : decode cX8_readItem 66 = .ok (.aload_n 1, 1) := by decide +kernel
theorem dX8_readItem_67 : decode cX8_readItem 67 = .ok (.getfield 25, 3) := by decide +kernel
theorem dX8_readItem_70 : decode cX8_readItem 70 = .ok (.iconst 3, 1) := by decide +kernel
theorem dX8_readItem_71 : decode cX8_readItem 71 = .ok (.if_icmp .eq 5, 3) := by decide +kernel
theorem dX8_readItem_74 : decode cX8_readItem 74 = .ok (.iconst 0, 1) := by decide +kernel
theorem dX8_readItem_75 : decode cX8_readItem 75 = .ok (.ireturn, 1) := by decide +kernel
theorem dX8_readItem_76 : decode cX8_readItem 76 = .ok (.aload_n 1, 1) := by decide +kernel
theorem dX8_readItem_77 : decode cX8_readItem 77 = .ok (.invokevirtual 49, 3) := by decide +kernel
theorem dX8_readItem_80 : decode cX8_readItem 80 = .ok (.iconst 1, 1) := by decide +kernel
theorem dX8_readItem_81 : decode cX8_readItem 81 = .ok (.ireturn, 1) := by decide +kernel
theorem dX8_tell_0 : decode cX8_tell 0 = .ok (.aload_n 0, 1) := by decide +kernel
theorem dX8_tell_1 : decode cX8_tell 1 = .ok (.getfield 43, 3) := by decide +kernel
theorem dX8_tell_4 : decode cX8_tell 4 = .ok (.tableswitch 120 0 3 #[32, 56, 80, 103], 32) := by decide +kernel
theorem dX8_tell_36 : decode cX8_tell 36 = .ok (.aload_n 1, 1) := by decide +kernel
theorem dX8_tell_37 : decode cX8_tell 37 = .ok (.aload_n 0, 1) := by decide +kernel
theorem dX8_tell_38 : decode cX8_tell 38 = .ok (.getfield 9, 3) := by decide +kernel
theorem dX8_tell_41 : decode cX8_tell 41 = .ok (.iconst 0, 1) := by decide +kernel
theorem dX8_tell_42 : decode cX8_tell 42 = .ok (.iaload, 1) := by decide +kernel
theorem dX8_tell_43 : decode cX8_tell 43 = .ok (.aload_n 0, 1) := by decide +kernel
theorem dX8_tell_44 : decode cX8_tell 44 = .ok (.getfield 9, 3) := by decide +kernel
theorem dX8_tell_47 : decode cX8_tell 47 = .ok (.iconst 1, 1) := by decide +kernel
theorem dX8_tell_48 : decode cX8_tell 48 = .ok (.iaload, 1) := by decide +kernel
theorem dX8_tell_49 : decode cX8_tell 49 = .ok (.aload_n 0, 1) := by decide +kernel
theorem dX8_tell_50 : decode cX8_tell 50 = .ok (.getfield 9, 3) := by decide +kernel
theorem dX8_tell_53 : decode cX8_tell 53 = .ok (.iconst 2, 1) := by decide +kernel
theorem dX8_tell_54 : decode cX8_tell 54 = .ok (.iaload, 1) := by decide +kernel
theorem dX8_tell_55 : decode cX8_tell 55 = .ok (.iconst 0, 1) := by decide +kernel
theorem dX8_tell_56 : decode cX8_tell 56 = .ok (.invokevirtual 52, 3) := by decide +kernel
theorem dX8_tell_59 : decode cX8_tell 59 = .ok (.ireturn, 1) := by decide +kernel
theorem dX8_tell_60 : decode cX8_tell 60 = .ok (.aload_n 1, 1) := by decide +kernel
theorem dX8_tell_61 : decode cX8_tell 61 = .ok (.aload_n 0, 1) := by decide +kernel
theorem dX8_tell_62 : decode cX8_tell 62 = .ok (.getfield 9, 3) := by decide +kernel
theorem dX8_tell_65 : decode cX8_tell 65 = .ok (.iconst 0, 1) := by decide +kernel
theorem dX8_tell_66 : decode cX8_tell 66 = .ok (.iaload, 1) := by decide +kernel
theorem dX8_tell_67 : decode cX8_tell 67 = .ok (.aload_n 0, 1) := by decide +kernel
theorem dX8_tell_68 : decode cX8_tell 68 = .ok (.getfield 9, 3) := by decide +kernel
theorem dX8_tell_71 : decode cX8_tell 71 = .ok (.iconst 1, 1) := by decide +kernel
theorem dX8_tell_72 : decode cX8_tell 72 = .ok (.iaload, 1) := by decide +kernel
theorem dX8_tell_73 : decode cX8_tell 73 = .ok (.aload_n 0, 1) := by decide +kernel
theorem dX8_tell_74 : decode cX8_tell 74 = .ok (.getfield 9, 3) := by decide +kernel
theorem dX8_tell_77 : decode cX8_tell 77 = .ok (.iconst 2, 1) := by decide +kernel
theorem dX8_tell_78 : decode cX8_tell 78 = .ok (.iaload, 1) := by decide +kernel
theorem dX8_tell_79 : decode cX8_tell 79 = .ok (.iconst 1, 1) := by decide +kernel
theorem dX8_tell_80 : decode cX8_tell 80 = .ok (.invokevirtual 52, 3) := by decide +kernel
theorem dX8_tell_83 : decode cX8_tell 83 = .ok (.ireturn, 1) := by decide +kernel
theorem dX8_tell_84 : decode cX8_tell 84 = .ok (.aload_n 1, 1) := by decide +kernel
theorem dX8_tell_85 : decode cX8_tell 85 = .ok (.aload_n 0, 1) := by decide +kernel
theorem dX8_tell_86 : decode cX8_tell 86 = .ok (.getfield 9, 3) := by decide +kernel
theorem dX8_tell_89 : decode cX8_tell 89 = .ok (.iconst 0, 1) := by decide +kernel
theorem dX8_tell_90 : decode cX8_tell 90 = .ok (.iaload, 1) := by decide +kernel
theorem dX8_tell_91 : decode cX8_tell 91 = .ok (.aload_n 0, 1) := by decide +kernel
theorem dX8_tell_92 : decode cX8_tell 92 = .ok (.getfield 9, 3) := by decide +kernel
theorem dX8_tell_95 : decode cX8_tell 95 = .ok (.iconst 1, 1) := by decide +kernel
theorem dX8_tell_96 : decode cX8_tell 96 = .ok (.iaload, 1) := by decide +kernel
theorem dX8_tell_97 : decode cX8_tell 97 = .ok (.aload_n 0, 1) := by decide +kernel
theorem dX8_tell_98 : decode cX8_tell 98 = .ok (.getfield 9, 3) := by decide +kernel
theorem dX8_tell_101 : decode cX8_tell 101 = .ok (.iconst 2, 1) := by decide +kernel
theorem dX8_tell_102 : decode cX8_tell 102 = .ok (.iaload, 1) := by decide +kernel
theorem dX8_tell_103 : decode cX8_tell 103 = .ok (.invokevirtual 56, 3) := by decide +kernel
theorem dX8_tell_106 : decode cX8_tell 106 = .ok (.ireturn, 1) := by decide +kernel
theorem dX8_tell_107 : decode cX8_tell 107 = .ok (.aload_n 1, 1) := by decide +kernel
theorem dX8_tell_108 : decode cX8_tell 108 = .ok (.aload_n 0, 1) := by decide +kernel
theorem dX8_tell_109 : decode cX8_tell 109 = .ok (.getfield 9, 3) := by decide +kernel
theorem dX8_tell_112 : decode cX8_tell 112 = .ok (.iconst 0, 1) := by decide +kernel
theorem dX8_tell_113 : decode cX8_tell 113 = .ok (.iaload, 1) := by decide +kernel
theorem dX8_tell_114 : decode cX8_tell 114 = .ok (.aload_n 0, 1) := by decide +kernel
theorem dX8_tell_115 : decode cX8_tell 115 = .ok (.getfield 9, 3) := by decide +kernel
theorem dX8_tell_118 : decode cX8_tell 118 = .ok (.iconst 1, 1) := by decide +kernel
theorem dX8_tell_119 : decode cX8_tell 119 = .ok (.iaload, 1) := by decide +kernel
theorem dX8_tell_120 : decode cX8_tell 120 = .ok (.invokevirtual 60, 3) := by decide +kernel
theorem dX8_tell_123 : decode cX8_tell 123 = .ok (.ireturn, 1) := by decide +kernel
theorem dX8_tell_124 : decode cX8_tell 124 = .ok (.aload_n 1, 1) := by decide +kernel
theorem dX8_tell_125 : decode cX8_tell 125 = .ok (.aload_n 0, 1) := by decide +kernel
theorem dX8_tell_126 : decode cX8_tell 126 = .ok (.getfield 9, 3) := by decide +kernel
theorem dX8_tell_129 : decode cX8_tell 129 = .ok (.iconst 0, 1) := by decide +kernel
theorem dX8_tell_130 : decode cX8_tell 130 = .ok (.iaload, 1) := by decide +kernel
theorem dX8_tell_131 : decode cX8_tell 131 = .ok (.aload_n 0, 1) := by decide +kernel
theorem dX8_tell_132 : decode cX8_tell 132 = .ok (.getfield 9, 3) := by decide +kernel
theorem dX8_tell_135 : decode cX8_tell 135 = .ok (.iconst 1, 1) := by decide +kernel
theorem dX8_tell_136 : decode cX8_tell 136 = .ok (.iaload, 1) := by decide +kernel
theorem dX8_tell_137 : decode cX8_tell 137 = .ok (.invokevirtual 64, 3) := by decide +kernel
theorem dX8_tell_140 : decode cX8_tell 140 = .ok (.ireturn, 1) := by decide +kernel
theorem dX9_init_0 : decode cX9_init 0 = .ok (.aload_n 0, 1) := by decide +kernel
theorem dX9_init_1 : decode cX9_init 1 = .ok (.invokespecial 3, 3) := by decide +kernel
theorem dX9_init_4 : decode cX9_init 4 = .ok (.aload_n 0, 1) := by decide +kernel
theorem dX9_init_5 : decode cX9_init 5 = .ok (.sipush 9000, 3) := by decide +kernel
theorem dX9_init_8 : decode cX9_init 8 = .ok (.newarray .int, 2) := by decide +kernel
theorem dX9_init_10 : decode cX9_init 10 = .ok (.putfield 9, 3) := by decide +kernel
theorem dX9_init_13 : decode cX9_init 13 = .ok (.aload_n 0, 1) := by decide +kernel
theorem dX9_init_14 : decode cX9_init 14 = .ok (.sipush 500, 3) := by decide +kernel
theorem dX9_init_17 : decode cX9_init 17 = .ok (.newarray .long, 2) := by decide +kernel
theorem dX9_init_19 : decode cX9_init 19 = .ok (.putfield 15, 3) := by decide +kernel
theorem dX9_init_22 : decode cX9_init 22 = .ok (.return_, 1) := by decide +kernel
theorem dX9_shorter_0 : decode cX9_shorter 0 = .ok (.iload 4, 2) := by decide +kernel
theorem dX9_shorter_2 : decode cX9_shorter 2 = .ok (.iconst (-1), 1) := by decide +kernel
theorem dX9_shorter_3 : decode cX9_shorter 3 = .ok (.if_icmp .ne 9, 3) := by decide +kernel
theorem dX9_shorter_6 : decode cX9_shorter 6 = .ok (.sipush 9000, 3) := by decide +kernel
theorem dX9_shorter_9 : decode cX9_shorter 9 = .ok (.goto 7, 3) := by decide +kernel
theorem dX9_shorter_12 : decode cX9_shorter 12 = .ok (.iload 4, 2) := by decide +kernel
theorem dX9_shorter_14 : decode cX9_shorter 14 = .ok (.iconst 1, 1) := by decide +kernel
theorem dX9_shorter_15 : decode cX9_shorter 15 = .ok (.isub, 1) := by decide +kernel
theorem dX9_shorter_16 : decode cX9_shorter 16 = .ok (.istore 5, 2) := by decide +kernel
theorem dX9_shorter_18 : decode cX9_shorter 18 = .ok (.aload_n 0, 1) := by decide +kernel
theorem dX9_shorter_19 : decode cX9_shorter 19 = .ok (.aload_n 1, 1) := by decide +kernel
theorem dX9_shorter_20 : decode cX9_shorter 20 = .ok (.invokevirtual 19, 3) := by decide +kernel
theorem dX9_shorter_23 : decode cX9_shorter 23 = .ok (.invokevirtual 25, 3) := by decide +kernel
theorem dX9_shorter_26 : decode cX9_shorter 26 = .ok (.iconst 0, 1) := by decide +kernel
theorem dX9_shorter_27 : decode cX9_shorter 27 = .ok (.istore 6, 2) := by decide +kernel
theorem dX9_shorter_29 : decode cX9_shorter 29 = .ok (.iconst 0, 1) := by decide +kernel
theorem dX9_shorter_30 : decode cX9_shorter 30 = .ok (.istore 7, 2) := by decide +kernel
theorem dX9_shorter_32 : decode cX9_shorter 32 = .ok (.iload 7, 2) := by decide +kernel
theorem dX9_shorter_34 : decode cX9_shorter 34 = .ok (.iload 5, 2) := by decide +kernel
theorem dX9_shorter_36 : decode cX9_shorter 36 = .ok (.if_icmp .gt 92, 3) := by decide +kernel
theorem dX9_shorter_39 : decode cX9_shorter 39 = .ok (.iload 6, 2) := by decide +kernel
theorem dX9_shorter_41 : decode cX9_shorter 41 = .ok (.aload_n 0, 1) := by decide +kernel
theorem dX9_shorter_42 : decode cX9_shorter 42 = .ok (.getfield 29, 3) := by decide +kernel
theorem dX9_shorter_45 : decode cX9_shorter 45 = .ok (.if_icmp .ge 83, 3) := by decide +kernel
theorem dX9_shorter_48 : decode cX9_shorter 48 = .ok (.aload_n 0, 1) := by decide +kernel
theorem dX9_shorter_49 : decode cX9_shorter 49 = .ok (.getfield 29, 3) := by decide +kernel
theorem dX9_shorter_52 : decode cX9_shorter 52 = .ok (.istore 8, 2) := by decide +kernel
theorem dX9_shorter_54 : decode cX9_shorter 54 = .ok (.iload 6, 2) := by decide +kernel
theorem dX9_shorter_56 : decode cX9_shorter 56 = .ok (.istore 9, 2) := by decide +kernel
theorem dX9_shorter_58 : decode cX9_shorter 58 = .ok (.iload 9, 2) := by decide +kernel
theorem dX9_shorter_60 : decode cX9_shorter 60 = .ok (.iload 8, 2) := by decide +kernel
theorem dX9_shorter_62 : decode cX9_shorter 62 = .ok (.if_icmp .ge 56, 3) := by decide +kernel
theorem dX9_shorter_65 : decode cX9_shorter 65 = .ok (.aload_n 1, 1) := by decide +kernel
theorem dX9_shorter_66 : decode cX9_shorter 66 = .ok (.aload_n 0, 1) := by decide +kernel
theorem dX9_shorter_67 : decode cX9_shorter 67 = .ok (.iload 9, 2) := by decide +kernel
theorem dX9_shorter_69 : decode cX9_shorter 69 = .ok (.invokevirtual 33, 3) := by decide +kernel
theorem dX9_shorter_72 : decode cX9_shorter 72 = .ok (.invokevirtual 37, 3) := by decide +kernel
theorem dX9_shorter_75 : decode cX9_shorter 75 = .ok (.iload_n 3, 1) := by decide +kernel
theorem dX9_shorter_76 : decode cX9_shorter 76 = .ok (.iconst (-1), 1) := by decide +kernel
theorem dX9_shorter_77 : decode cX9_shorter 77 = .ok (.if_icmp .eq 21, 3) := by decide +kernel
theorem dX9_shorter_80 : decode cX9_shorter 80 = .ok (.aload_n 1, 1) := by decide +kernel
theorem dX9_shorter_81 : decode cX9_shorter 81 = .ok (.iload_n 2, 1) := by decide +kernel
theorem dX9_shorter_82 : decode cX9_shorter 82 = .ok (.iload_n 3, 1) := by decide +kernel
theorem dX9_shorter_83 : decode cX9_shorter 83 = .ok (.invokevirtual 40, 3) := by decide +kernel
theorem dX9_shorter_86 : decode cX9_shorter 86 = .ok (.ifCond .eq 12, 3) := by decide +kernel
theorem dX9_shorter_89 : decode cX9_shorter 89 = .ok (.aload_n 0, 1) := by decide +kernel
theorem dX9_shorter_90 : decode cX9_shorter 90 = .ok (.iload 9, 2) := by decide +kernel
theorem dX9_shorter_92 : decode cX9_shorter 92 = .ok (.putfield 44, 3) := by decide +kernel
theorem dX9_shorter_95 : decode cX9_shorter 95 = .ok (.iload 7, 2) := by decide +kernel
theorem dX9_shorter_97 : decode cX9_shorter 97 = .ok (.ireturn, 1) := by decide +kernel
theorem dX9_shorter_98 : decode cX9_shorter 98 = .ok (.iload 7, 2) := by decide +kernel
theorem dX9_shorter_100 : decode cX9_shorter 100 = .ok (.iload 5, 2) := by decide +kernel
theorem dX9_shorter_102 : decode cX9_shorter 102 = .ok (.if_icmp .ge 10, 3) := by decide +kernel
theorem dX9_shorter_105 : decode cX9_shorter 105 = .ok (.aload_n 0, 1) := by decide +kernel
theorem dX9_shorter_106 : decode cX9_shorter 106 = .ok (.aload_n 1, 1) := by decide +kernel
theorem dX9_shorter_107 : decode cX9_shorter 107 = .ok (.iload 9, 2) := by decide +kernel
theorem dX9_shorter_109 : decode cX9_shorter 109 = .ok (.invokevirtual 47, 3) := by decide +kernel
theorem dX9_shorter_112 : decode cX9_shorter 112 = .ok (.iinc 9 1, 3) := by decide +kernel
theorem dX9_shorter_115 : decode cX9_shorter 115 = .ok (.goto (-57), 3) := by decide +kernel
theorem dX9_shorter_118 : decode cX9_shorter 118 = .ok (.iload 8, 2) := by decide +kernel
theorem dX9_shorter_120 : decode cX9_shorter 120 = .ok (.istore 6, 2) := by decide +kernel
theorem dX9_shorter_122 : decode cX9_shorter 122 = .ok (.iinc 7 1, 3) := by decide +kernel
theorem dX9_shorter_125 : decode cX9_shorter 125 = .ok (.goto (-93), 3) := by decide +kernel
theorem dX9_shorter_128 : decode cX9_shorter 128 = .ok (.iconst (-1), 1) := by decide +kernel
