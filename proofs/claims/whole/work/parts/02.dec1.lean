theorem dX9_shorter_129 : decode cX9_shorter 129 = .ok (.ireturn, 1) := by decide +kernel
theorem dX9_begin_0 : decode cX9_begin 0 = .ok (.aload_n 0, 1) := by decide +kernel
theorem dX9_begin_1 : decode cX9_begin 1 = .ok (.getfield 15, 3) := by decide +kernel
theorem dX9_begin_4 : decode cX9_begin 4 = .ok (.lconst 0, 1) := by decide +kernel
theorem dX9_begin_5 : decode cX9_begin 5 = .ok (.invokestatic 51, 3) := by decide +kernel
theorem dX9_begin_8 : decode cX9_begin 8 = .ok (.aload_n 0, 1) := by decide +kernel
theorem dX9_begin_9 : decode cX9_begin 9 = .ok (.iconst 0, 1) := by decide +kernel
theorem dX9_begin_10 : decode cX9_begin 10 = .ok (.putfield 29, 3) := by decide +kernel
theorem dX9_begin_13 : decode cX9_begin 13 = .ok (.aload_n 0, 1) := by decide +kernel
theorem dX9_begin_14 : decode cX9_begin 14 = .ok (.iconst 0, 1) := by decide +kernel
theorem dX9_begin_15 : decode cX9_begin 15 = .ok (.putfield 57, 3) := by decide +kernel
theorem dX9_begin_18 : decode cX9_begin 18 = .ok (.aload_n 0, 1) := by decide +kernel
theorem dX9_begin_19 : decode cX9_begin 19 = .ok (.iconst 0, 1) := by decide +kernel
theorem dX9_begin_20 : decode cX9_begin 20 = .ok (.putfield 44, 3) := by decide +kernel
theorem dX9_begin_23 : decode cX9_begin 23 = .ok (.aload_n 0, 1) := by decide +kernel
theorem dX9_begin_24 : decode cX9_begin 24 = .ok (.iload_n 1, 1) := by decide +kernel
theorem dX9_begin_25 : decode cX9_begin 25 = .ok (.iconst 0, 1) := by decide +kernel
theorem dX9_begin_26 : decode cX9_begin 26 = .ok (.invokevirtual 60, 3) := by decide +kernel
theorem dX9_begin_29 : decode cX9_begin 29 = .ok (.return_, 1) := by decide +kernel
theorem dX9_goOn_0 : decode cX9_goOn 0 = .ok (.aload_n 0, 1) := by decide +kernel
theorem dX9_goOn_1 : decode cX9_goOn 1 = .ok (.iload_n 2, 1) := by decide +kernel
theorem dX9_goOn_2 : decode cX9_goOn 2 = .ok (.invokevirtual 33, 3) := by decide +kernel
theorem dX9_goOn_5 : decode cX9_goOn 5 = .ok (.istore_n 3, 1) := by decide +kernel
theorem dX9_goOn_6 : decode cX9_goOn 6 = .ok (.iconst 0, 1) := by decide +kernel
theorem dX9_goOn_7 : decode cX9_goOn 7 = .ok (.istore 4, 2) := by decide +kernel
theorem dX9_goOn_9 : decode cX9_goOn 9 = .ok (.iload 4, 2) := by decide +kernel
theorem dX9_goOn_11 : decode cX9_goOn 11 = .ok (.aload_n 1, 1) := by decide +kernel
theorem dX9_goOn_12 : decode cX9_goOn 12 = .ok (.getfield 64, 3) := by decide +kernel
theorem dX9_goOn_15 : decode cX9_goOn 15 = .ok (.if_icmp .ge 102, 3) := by decide +kernel
theorem dX9_goOn_18 : decode cX9_goOn 18 = .ok (.aload_n 1, 1) := by decide +kernel
theorem dX9_goOn_19 : decode cX9_goOn 19 = .ok (.getfield 67, 3) := by decide +kernel
theorem dX9_goOn_22 : decode cX9_goOn 22 = .ok (.iload 4, 2) := by decide +kernel
theorem dX9_goOn_24 : decode cX9_goOn 24 = .ok (.iaload, 1) := by decide +kernel
theorem dX9_goOn_25 : decode cX9_goOn 25 = .ok (.iconst 5, 1) := by decide +kernel
theorem dX9_goOn_26 : decode cX9_goOn 26 = .ok (.if_icmp .ge 7, 3) := by decide +kernel
theorem dX9_goOn_29 : decode cX9_goOn 29 = .ok (.iconst 1, 1) := by decide +kernel
theorem dX9_goOn_30 : decode cX9_goOn 30 = .ok (.goto 4, 3) := by decide +kernel
theorem dX9_goOn_33 : decode cX9_goOn 33 = .ok (.iconst 0, 1) := by decide +kernel
theorem dX9_goOn_34 : decode cX9_goOn 34 = .ok (.istore 5, 2) := by decide +kernel
theorem dX9_goOn_36 : decode cX9_goOn 36 = .ok (.iload 5, 2) := by decide +kernel
theorem dX9_goOn_38 : decode cX9_goOn 38 = .ok (.ifCond .eq 12, 3) := by decide +kernel
theorem dX9_goOn_41 : decode cX9_goOn 41 = .ok (.iconst 5, 1) := by decide +kernel
theorem dX9_goOn_42 : decode cX9_goOn 42 = .ok (.aload_n 1, 1) := by decide +kernel
theorem dX9_goOn_43 : decode cX9_goOn 43 = .ok (.getfield 70, 3) := by decide +kernel
theorem dX9_goOn_46 : decode cX9_goOn 46 = .ok (.iadd, 1) := by decide +kernel
theorem dX9_goOn_47 : decode cX9_goOn 47 = .ok (.goto 4, 3) := by decide +kernel
theorem dX9_goOn_50 : decode cX9_goOn 50 = .ok (.iconst 5, 1) := by decide +kernel
theorem dX9_goOn_51 : decode cX9_goOn 51 = .ok (.istore 6, 2) := by decide +kernel
theorem dX9_goOn_53 : decode cX9_goOn 53 = .ok (.iload 5, 2) := by decide +kernel
theorem dX9_goOn_55 : decode cX9_goOn 55 = .ok (.ifCond .eq 7, 3) := by decide +kernel
theorem dX9_goOn_58 : decode cX9_goOn 58 = .ok (.iconst 5, 1) := by decide +kernel
theorem dX9_goOn_59 : decode cX9_goOn 59 = .ok (.goto 4, 3) := by decide +kernel
theorem dX9_goOn_62 : decode cX9_goOn 62 = .ok (.iconst 0, 1) := by decide +kernel
theorem dX9_goOn_63 : decode cX9_goOn 63 = .ok (.istore 7, 2) := by decide +kernel
theorem dX9_goOn_65 : decode cX9_goOn 65 = .ok (.iload 7, 2) := by decide +kernel
theorem dX9_goOn_67 : decode cX9_goOn 67 = .ok (.iload 6, 2) := by decide +kernel
theorem dX9_goOn_69 : decode cX9_goOn 69 = .ok (.if_icmp .ge 42, 3) := by decide +kernel
theorem dX9_goOn_72 : decode cX9_goOn 72 = .ok (.aload_n 1, 1) := by decide +kernel
theorem dX9_goOn_73 : decode cX9_goOn 73 = .ok (.iload 4, 2) := by decide +kernel
theorem dX9_goOn_75 : decode cX9_goOn 75 = .ok (.iload 7, 2) := by decide +kernel
theorem dX9_goOn_77 : decode cX9_goOn 77 = .ok (.invokevirtual 73, 3) := by decide +kernel
theorem dX9_goOn_80 : decode cX9_goOn 80 = .ok (.ifCond .eq 25, 3) := by decide +kernel
theorem dX9_goOn_83 : decode cX9_goOn 83 = .ok (.aload_n 1, 1) := by decide +kernel
theorem dX9_goOn_84 : decode cX9_goOn 84 = .ok (.iload 4, 2) := by decide +kernel
theorem dX9_goOn_86 : decode cX9_goOn 86 = .ok (.iload 7, 2) := by decide +kernel
theorem dX9_goOn_88 : decode cX9_goOn 88 = .ok (.invokevirtual 76, 3) := by decide +kernel
theorem dX9_goOn_91 : decode cX9_goOn 91 = .ok (.aload_n 0, 1) := by decide +kernel
theorem dX9_goOn_92 : decode cX9_goOn 92 = .ok (.aload_n 1, 1) := by decide +kernel
theorem dX9_goOn_93 : decode cX9_goOn 93 = .ok (.invokevirtual 19, 3) := by decide +kernel
theorem dX9_goOn_96 : decode cX9_goOn 96 = .ok (.iload_n 2, 1) := by decide +kernel
theorem dX9_goOn_97 : decode cX9_goOn 97 = .ok (.invokevirtual 60, 3) := by decide +kernel
theorem dX9_goOn_100 : decode cX9_goOn 100 = .ok (.aload_n 1, 1) := by decide +kernel
theorem dX9_goOn_101 : decode cX9_goOn 101 = .ok (.iload_n 3, 1) := by decide +kernel
theorem dX9_goOn_102 : decode cX9_goOn 102 = .ok (.invokevirtual 37, 3) := by decide +kernel
theorem dX9_goOn_105 : decode cX9_goOn 105 = .ok (.iinc 7 1, 3) := by decide +kernel
theorem dX9_goOn_108 : decode cX9_goOn 108 = .ok (.goto (-43), 3) := by decide +kernel
theorem dX9_goOn_111 : decode cX9_goOn 111 = .ok (.iinc 4 1, 3) := by decide +kernel
theorem dX9_goOn_114 : decode cX9_goOn 114 = .ok (.goto (-105), 3) := by decide +kernel
theorem dX9_goOn_117 : decode cX9_goOn 117 = .ok (.return_, 1) := by decide +kernel
theorem dX9_note_0 : decode cX9_note 0 = .ok (.lconst 1, 1) := by decide +kernel
theorem dX9_note_1 : decode cX9_note 1 = .ok (.iload_n 1, 1) := by decide +kernel
theorem dX9_note_2 : decode cX9_note 2 = .ok (.bipush 64, 2) := by decide +kernel
theorem dX9_note_4 : decode cX9_note 4 = .ok (.irem, 1) := by decide +kernel
theorem dX9_note_5 : decode cX9_note 5 = .ok (.lshl, 1) := by decide +kernel
theorem dX9_note_6 : decode cX9_note 6 = .ok (.lstore_n 3, 1) := by decide +kernel
theorem dX9_note_7 : decode cX9_note 7 = .ok (.iload_n 1, 1) := by decide +kernel
theorem dX9_note_8 : decode cX9_note 8 = .ok (.bipush 64, 2) := by decide +kernel
theorem dX9_note_10 : decode cX9_note 10 = .ok (.idiv, 1) := by decide +kernel
theorem dX9_note_11 : decode cX9_note 11 = .ok (.istore 5, 2) := by decide +kernel
theorem dX9_note_13 : decode cX9_note 13 = .ok (.aload_n 0, 1) := by decide +kernel
theorem dX9_note_14 : decode cX9_note 14 = .ok (.getfield 29, 3) := by decide +kernel
theorem dX9_note_17 : decode cX9_note 17 = .ok (.sipush 9000, 3) := by decide +kernel
theorem dX9_note_20 : decode cX9_note 20 = .ok (.if_icmp .eq 17, 3) := by decide +kernel
theorem dX9_note_23 : decode cX9_note 23 = .ok (.aload_n 0, 1) := by decide +kernel
theorem dX9_note_24 : decode cX9_note 24 = .ok (.getfield 15, 3) := by decide +kernel
theorem dX9_note_27 : decode cX9_note 27 = .ok (.iload 5, 2) := by decide +kernel
theorem dX9_note_29 : decode cX9_note 29 = .ok (.laload, 1) := by decide +kernel
theorem dX9_note_30 : decode cX9_note 30 = .ok (.lload_n 3, 1) := by decide +kernel
theorem dX9_note_31 : decode cX9_note 31 = .ok (.land, 1) := by decide +kernel
theorem dX9_note_32 : decode cX9_note 32 = .ok (.lconst 0, 1) := by decide +kernel
theorem dX9_note_33 : decode cX9_note 33 = .ok (.lcmp, 1) := by decide +kernel
theorem dX9_note_34 : decode cX9_note 34 = .ok (.ifCond .eq 4, 3) := by decide +kernel
theorem dX9_note_37 : decode cX9_note 37 = .ok (.return_, 1) := by decide +kernel
theorem dX9_note_38 : decode cX9_note 38 = .ok (.aload_n 0, 1) := by decide +kernel
theorem dX9_note_39 : decode cX9_note 39 = .ok (.getfield 15, 3) := by decide +kernel
theorem dX9_note_42 : decode cX9_note 42 = .ok (.iload 5, 2) := by decide +kernel
theorem dX9_note_44 : decode cX9_note 44 = .ok (.dup2, 1) := by decide +kernel
theorem dX9_note_45 : decode cX9_note 45 = .ok (.laload, 1) := by decide +kernel
theorem dX9_note_46 : decode cX9_note 46 = .ok (.lload_n 3, 1) := by decide +kernel
theorem dX9_note_47 : decode cX9_note 47 = .ok (.lor, 1) := by decide +kernel
theorem dX9_note_48 : decode cX9_note 48 = .ok (.lastore, 1) := by decide +kernel
theorem dX9_note_49 : decode cX9_note 49 = .ok (.aload_n 0, 1) := by decide +kernel
theorem dX9_note_50 : decode cX9_note 50 = .ok (.getfield 9, 3) := by decide +kernel
theorem dX9_note_53 : decode cX9_note 53 = .ok (.aload_n 0, 1) := by decide +kernel
theorem dX9_note_54 : decode cX9_note 54 = .ok (.getfield 29, 3) := by decide +kernel
theorem dX9_note_57 : decode cX9_note 57 = .ok (.iload_n 2, 1) := by decide +kernel
theorem dX9_note_58 : decode cX9_note 58 = .ok (.bipush 15, 2) := by decide +kernel
theorem dX9_note_60 : decode cX9_note 60 = .ok (.ishl, 1) := by decide +kernel
theorem dX9_note_61 : decode cX9_note 61 = .ok (.iload_n 1, 1) := by decide +kernel
theorem dX9_note_62 : decode cX9_note 62 = .ok (.ior, 1) := by decide +kernel
theorem dX9_note_63 : decode cX9_note 63 = .ok (.iastore, 1) := by decide +kernel
theorem dX9_note_64 : decode cX9_note 64 = .ok (.aload_n 0, 1) := by decide +kernel
theorem dX9_note_65 : decode cX9_note 65 = .ok (.dup, 1) := by decide +kernel
theorem dX9_note_66 : decode cX9_note 66 = .ok (.getfield 29, 3) := by decide +kernel
theorem dX9_note_69 : decode cX9_note 69 = .ok (.iconst 1, 1) := by decide +kernel
theorem dX9_note_70 : decode cX9_note 70 = .ok (.iadd, 1) := by decide +kernel
theorem dX9_note_71 : decode cX9_note 71 = .ok (.putfield 29, 3) := by decide +kernel
theorem dX9_note_74 : decode cX9_note 74 = .ok (.aload_n 0, 1) := by decide +kernel
theorem dX9_note_75 : decode cX9_note 75 = .ok (.dup, 1) := by decide +kernel
theorem dX9_note_76 : decode cX9_note 76 = .ok (.getfield 57, 3) := by decide +kernel
theorem dX9_note_79 : decode cX9_note 79 = .ok (.iconst 1, 1) := by decide +kernel
theorem dX9_note_80 : decode cX9_note 80 = .ok (.iload_n 1, 1) := by decide +kernel
theorem dX9_note_81 : decode cX9_note 81 = .ok (.sipush 1000, 3) := by decide +kernel
theorem dX9_note_84 : decode cX9_note 84 = .ok (.idiv, 1) := by decide +kernel
theorem dX9_note_85 : decode cX9_note 85 = .ok (.ishl, 1) := by decide +kernel
theorem dX9_note_86 : decode cX9_note 86 = .ok (.ior, 1) := by decide +kernel
theorem dX9_note_87 : decode cX9_note 87 = .ok (.putfield 57, 3) := by decide +kernel
theorem dX9_note_90 : decode cX9_note 90 = .ok (.return_, 1) := by decide +kernel
theorem dX9_stateAt_0 : decode cX9_stateAt 0 = .ok (.aload_n 0, 1) := by decide +kernel
theorem dX9_stateAt_1 : decode cX9_stateAt 1 = .ok (.getfield 9, 3) := by decide +kernel
theorem dX9_stateAt_4 : decode cX9_stateAt 4 = .ok (.iload_n 1, 1) := by decide +kernel
theorem dX9_stateAt_5 : decode cX9_stateAt 5 = .ok (.iaload, 1) := by decide +kernel
theorem dX9_stateAt_6 : decode cX9_stateAt 6 = .ok (.sipush 32767, 3) := by decide +kernel
theorem dX9_stateAt_9 : decode cX9_stateAt 9 = .ok (.iand, 1) := by decide +kernel
theorem dX9_stateAt_10 : decode cX9_stateAt 10 = .ok (.ireturn, 1) := by decide +kernel
theorem dX9_before_0 : decode cX9_before 0 = .ok (.aload_n 0, 1) := by decide +kernel
theorem dX9_before_1 : decode cX9_before 1 = .ok (.getfield 9, 3) := by decide +kernel
theorem dX9_before_4 : decode cX9_before 4 = .ok (.iload_n 1, 1) := by decide +kernel
theorem dX9_before_5 : decode cX9_before 5 = .ok (.iaload, 1) := by decide +kernel
theorem dX9_before_6 : decode cX9_before 6 = .ok (.bipush 15, 2) := by decide +kernel
theorem dX9_before_8 : decode cX9_before 8 = .ok (.ishr, 1) := by decide +kernel
theorem dX9_before_9 : decode cX9_before 9 = .ok (.ireturn, 1) := by decide +kernel
theorem dX9_stepOfWay_0 : decode cX9_stepOfWay 0 = .ok (.aload_n 0, 1) := by decide +kernel
theorem dX9_stepOfWay_1 : decode cX9_stepOfWay 1 = .ok (.getfield 44, 3) := by decide +kernel
theorem dX9_stepOfWay_4 : decode cX9_stepOfWay 4 = .ok (.istore_n 3, 1) := by decide +kernel
theorem dX9_stepOfWay_5 : decode cX9_stepOfWay 5 = .ok (.iload_n 2, 1) := by decide +kernel
theorem dX9_stepOfWay_6 : decode cX9_stepOfWay 6 = .ok (.iconst 1, 1) := by decide +kernel
theorem dX9_stepOfWay_7 : decode cX9_stepOfWay 7 = .ok (.isub, 1) := by decide +kernel
theorem dX9_stepOfWay_8 : decode cX9_stepOfWay 8 = .ok (.istore 4, 2) := by decide +kernel
theorem dX9_stepOfWay_10 : decode cX9_stepOfWay 10 = .ok (.iload 4, 2) := by decide +kernel
theorem dX9_stepOfWay_12 : decode cX9_stepOfWay 12 = .ok (.iload_n 1, 1) := by decide +kernel
theorem dX9_stepOfWay_13 : decode cX9_stepOfWay 13 = .ok (.if_icmp .le 15, 3) := by decide +kernel
theorem dX9_stepOfWay_16 : decode cX9_stepOfWay 16 = .ok (.aload_n 0, 1) := by decide +kernel
theorem dX9_stepOfWay_17 : decode cX9_stepOfWay 17 = .ok (.iload_n 3, 1) := by decide +kernel
theorem dX9_stepOfWay_18 : decode cX9_stepOfWay 18 = .ok (.invokevirtual 79, 3) := by decide +kernel
theorem dX9_stepOfWay_21 : decode cX9_stepOfWay 21 = .ok (.istore_n 3, 1) := by decide +kernel
theorem dX9_stepOfWay_22 : decode cX9_stepOfWay 22 = .ok (.iinc 4 (-1), 3) := by decide +kernel
theorem dX9_stepOfWay_25 : decode cX9_stepOfWay 25 = .ok (.goto (-15), 3) := by decide +kernel
theorem dX9_stepOfWay_28 : decode cX9_stepOfWay 28 = .ok (.aload_n 0, 1) := by decide +kernel
theorem dX9_stepOfWay_29 : decode cX9_stepOfWay 29 = .ok (.aload_n 0, 1) := by decide +kernel
theorem dX9_stepOfWay_30 : decode cX9_stepOfWay 30 = .ok (.iload_n 3, 1) := by decide +kernel
theorem dX9_stepOfWay_31 : decode cX9_stepOfWay 31 = .ok (.invokevirtual 79, 3) := by decide +kernel
theorem dX9_stepOfWay_34 : decode cX9_stepOfWay 34 = .ok (.invokevirtual 33, 3) := by decide +kernel
theorem dX9_stepOfWay_37 : decode cX9_stepOfWay 37 = .ok (.aload_n 0, 1) := by decide +kernel
theorem dX9_stepOfWay_38 : decode cX9_stepOfWay 38 = .ok (.iload_n 3, 1) := by decide +kernel
theorem dX9_stepOfWay_39 : decode cX9_stepOfWay 39 = .ok (.invokevirtual 33, 3) := by decide +kernel
theorem dX9_stepOfWay_42 : decode cX9_stepOfWay 42 = .ok (.invokestatic 82, 3) := by decide +kernel
theorem dX9_stepOfWay_45 : decode cX9_stepOfWay 45 = .ok (.ireturn, 1) := by decide +kernel
theorem dX9_stepBetween_0 : decode cX9_stepBetween 0 = .ok (.iload_n 0, 1) := by decide +kernel
theorem dX9_stepBetween_1 : decode cX9_stepBetween 1 = .ok (.istore_n 2, 1) := by decide +kernel
theorem dX9_stepBetween_2 : decode cX9_stepBetween 2 = .ok (.iload_n 1, 1) := by decide +kernel
theorem dX9_stepBetween_3 : decode cX9_stepBetween 3 = .ok (.istore_n 3, 1) := by decide +kernel
theorem dX9_stepBetween_4 : decode cX9_stepBetween 4 = .ok (.iconst 2, 1) := by decide +kernel
theorem dX9_stepBetween_5 : decode cX9_stepBetween 5 = .ok (.istore 4, 2) := by decide +kernel
theorem dX9_stepBetween_7 : decode cX9_stepBetween 7 = .ok (.iload 4, 2) := by decide +kernel
theorem dX9_stepBetween_9 : decode cX9_stepBetween 9 = .ok (.ifCond .lt 41, 3) := by decide +kernel
theorem dX9_stepBetween_12 : decode cX9_stepBetween 12 = .ok (.iload_n 2, 1) := by decide +kernel
theorem dX9_stepBetween_13 : decode cX9_stepBetween 13 = .ok (.bipush 10, 2) := by decide +kernel
theorem dX9_stepBetween_15 : decode cX9_stepBetween 15 = .ok (.irem, 1) := by decide +kernel
theorem dX9_stepBetween_16 : decode cX9_stepBetween 16 = .ok (.iload_n 3, 1) := by decide +kernel
theorem dX9_stepBetween_17 : decode cX9_stepBetween 17 = .ok (.bipush 10, 2) := by decide +kernel
theorem dX9_stepBetween_19 : decode cX9_stepBetween 19 = .ok (.irem, 1) := by decide +kernel
theorem dX9_stepBetween_20 : decode cX9_stepBetween 20 = .ok (.if_icmp .eq 14, 3) := by decide +kernel
theorem dX9_stepBetween_23 : decode cX9_stepBetween 23 = .ok (.bipush 10, 2) := by decide +kernel
theorem dX9_stepBetween_25 : decode cX9_stepBetween 25 = .ok (.iload 4, 2) := by decide +kernel
theorem dX9_stepBetween_27 : decode cX9_stepBetween 27 = .ok (.imul, 1) := by decide +kernel
theorem dX9_stepBetween_28 : decode cX9_stepBetween 28 = .ok (.iload_n 3, 1) := by decide +kernel
theorem dX9_stepBetween_29 : decode cX9_stepBetween 29 = .ok (.bipush 10, 2) := by decide +kernel
theorem dX9_stepBetween_31 : decode cX9_stepBetween 31 = .ok (.irem, 1) := by decide +kernel
theorem dX9_stepBetween_32 : decode cX9_stepBetween 32 = .ok (.iadd, 1) := by decide +kernel
theorem dX9_stepBetween_33 : decode cX9_stepBetween 33 = .ok (.ireturn, 1) := by decide +kernel
theorem dX9_stepBetween_34 : decode cX9_stepBetween 34 = .ok (.iload_n 2, 1) := by decide +kernel
theorem dX9_stepBetween_35 : decode cX9_stepBetween 35 = .ok (.bipush 10, 2) := by decide +kernel
theorem dX9_stepBetween_37 : decode cX9_stepBetween 37 = .ok (.idiv, 1) := by decide +kernel
theorem dX9_stepBetween_38 : decode cX9_stepBetween 38 = .ok (.istore_n 2, 1) := by decide +kernel
theorem dX9_stepBetween_39 : decode cX9_stepBetween 39 = .ok (.iload_n 3, 1) := by decide +kernel
theorem dX9_stepBetween_40 : decode cX9_stepBetween 40 = .ok (.bipush 10, 2) := by decide +kernel
theorem dX9_stepBetween_42 : decode cX9_stepBetween 42 = .ok (.idiv, 1) := by decide +kernel
theorem dX9_stepBetween_43 : decode cX9_stepBetween 43 = .ok (.istore_n 3, 1) := by decide +kernel
theorem dX9_stepBetween_44 : decode cX9_stepBetween 44 = .ok (.iinc 4 (-1), 3) := by decide +kernel
theorem dX9_stepBetween_47 : decode cX9_stepBetween 47 = .ok (.goto (-40), 3) := by decide +kernel
theorem dX9_stepBetween_50 : decode cX9_stepBetween 50 = .ok (.iconst (-1), 1) := by decide +kernel
theorem dX9_stepBetween_51 : decode cX9_stepBetween 51 = .ok (.ireturn, 1) := by decide +kernel
theorem dX10_init_0 : decode cX10_init 0 = .ok (.aload_n 0, 1) := by decide +kernel
theorem dX10_init_1 : decode cX10_init 1 = .ok (.invokespecial 3, 3) := by decide +kernel
theorem dX10_init_4 : decode cX10_init 4 = .ok (.aload_n 0, 1) := by decide +kernel
theorem dX10_init_5 : decode cX10_init 5 = .ok (.sipush 200, 3) := by decide +kernel
theorem dX10_init_8 : decode cX10_init 8 = .ok (.newarray .int, 2) := by decide +kernel
theorem dX10_init_10 : decode cX10_init 10 = .ok (.putfield 9, 3) := by decide +kernel
theorem dX10_init_13 : decode cX10_init 13 = .ok (.return_, 1) := by decide +kernel
theorem dX10_append_0 : decode cX10_append 0 = .ok (.iload_n 3, 1) := by decide +kernel
theorem dX10_append_1 : decode cX10_append 1 = .ok (.iconst 1, 1) := by decide +kernel
theorem dX10_append_2 : decode cX10_append 2 = .ok (.if_icmp .lt 9, 3) := by decide +kernel
theorem dX10_append_5 : decode cX10_append 5 = .ok (.iload_n 3, 1) := by decide +kernel
theorem dX10_append_6 : decode cX10_append 6 = .ok (.bipush 8, 2) := by decide +kernel
theorem dX10_append_8 : decode cX10_append 8 = .ok (.if_icmp .le 6, 3) := by decide +kernel
theorem dX10_append_11 : decode cX10_append 11 = .ok (.bipush (-2), 2) := by decide +kernel
theorem dX10_append_13 : decode cX10_append 13 = .ok (.ireturn, 1) := by decide +kernel
theorem dX10_append_14 : decode cX10_append 14 = .ok (.aload_n 0, 1) := by decide +kernel
theorem dX10_append_15 : decode cX10_append 15 = .ok (.getfield 15, 3) := by decide +kernel
theorem dX10_append_18 : decode cX10_append 18 = .ok (.iload_n 3, 1) := by decide +kernel
theorem dX10_append_19 : decode cX10_append 19 = .ok (.iadd, 1) := by decide +kernel
theorem dX10_append_20 : decode cX10_append 20 = .ok (.sipush 200, 3) := by decide +kernel
theorem dX10_append_23 : decode cX10_append 23 = .ok (.if_icmp .le 6, 3) := by decide +kernel
theorem dX10_append_26 : decode cX10_append 26 = .ok (.bipush (-4), 2) := by decide +kernel
theorem dX10_append_28 : decode cX10_append 28 = .ok (.ireturn, 1) := by decide +kernel
theorem dX10_append_29 : decode cX10_append 29 = .ok (.iload_n 3, 1) := by decide +kernel
theorem dX10_append_30 : decode cX10_append 30 = .ok (.iconst 1, 1) := by decide +kernel
theorem dX10_append_31 : decode cX10_append 31 = .ok (.isub, 1) := by decide +kernel
theorem dX10_append_32 : decode cX10_append 32 = .ok (.istore 4, 2) := by decide +kernel
theorem dX10_append_34 : decode cX10_append 34 = .ok (.iload 4, 2) := by decide +kernel
theorem dX10_append_36 : decode cX10_append 36 = .ok (.ifCond .lt 40, 3) := by decide +kernel
theorem dX10_append_39 : decode cX10_append 39 = .ok (.aload_n 0, 1) := by decide +kernel
theorem dX10_append_40 : decode cX10_append 40 = .ok (.getfield 9, 3) := by decide +kernel
theorem dX10_append_43 : decode cX10_append 43 = .ok (.aload_n 0, 1) := by decide +kernel
theorem dX10_append_44 : decode cX10_append 44 = .ok (.getfield 15, 3) := by decide +kernel
theorem dX10_append_47 : decode cX10_append 47 = .ok (.lload_n 1, 1) := by decide +kernel
theorem dX10_append_48 : decode cX10_append 48 = .ok (.bipush 8, 2) := by decide +kernel
theorem dX10_append_50 : decode cX10_append 50 = .ok (.iload 4, 2) := by decide +kernel
theorem dX10_append_52 : decode cX10_append 52 = .ok (.imul, 1) := by decide +kernel
theorem dX10_append_53 : decode cX10_append 53 = .ok (.lushr, 1) := by decide +kernel
theorem dX10_append_54 : decode cX10_append 54 = .ok (.ldc2_w 19, 3) := by decide +kernel
theorem dX10_append_57 : decode cX10_append 57 = .ok (.land, 1) := by decide +kernel
theorem dX10_append_58 : decode cX10_append 58 = .ok (.l2i, 1) := by decide +kernel
theorem dX10_append_59 : decode cX10_append 59 = .ok (.iastore, 1) := by decide +kernel
theorem dX10_append_60 : decode cX10_append 60 = .ok (.aload_n 0, 1) := by decide +kernel
theorem dX10_append_61 : decode cX10_append 61 = .ok (.dup, 1) := by decide +kernel
theorem dX10_append_62 : decode cX10_append 62 = .ok (.getfield 15, 3) := by decide +kernel
theorem dX10_append_65 : decode cX10_append 65 = .ok (.iconst 1, 1) := by decide +kernel
theorem dX10_append_66 : decode cX10_append 66 = .ok (.iadd, 1) := by decide +kernel
theorem dX10_append_67 : decode cX10_append 67 = .ok (.putfield 15, 3) := by decide +kernel
theorem dX10_append_70 : decode cX10_append 70 = .ok (.iinc 4 (-1), 3) := by decide +kernel
theorem dX10_append_73 : decode cX10_append 73 = .ok (.goto (-39), 3) := by decide +kernel
theorem dX10_append_76 : decode cX10_append 76 = .ok (.aload_n 0, 1) := by decide +kernel
theorem dX10_append_77 : decode cX10_append 77 = .ok (.getfield 15, 3) := by decide +kernel
theorem dX10_append_80 : decode cX10_append 80 = .ok (.ireturn, 1) := by decide +kernel
theorem dX10_wipe_0 : decode cX10_wipe 0 = .ok (.aload_n 0, 1) := by decide +kernel
theorem dX10_wipe_1 : decode cX10_wipe 1 = .ok (.getfield 15, 3) := by decide +kernel
theorem dX10_wipe_4 : decode cX10_wipe 4 = .ok (.istore_n 1, 1) := by decide +kernel
theorem dX10_wipe_5 : decode cX10_wipe 5 = .ok (.aload_n 0, 1) := by decide +kernel
theorem dX10_wipe_6 : decode cX10_wipe 6 = .ok (.iconst 0, 1) := by decide +kernel
theorem dX10_wipe_7 : decode cX10_wipe 7 = .ok (.putfield 15, 3) := by decide +kernel
theorem dX10_wipe_10 : decode cX10_wipe 10 = .ok (.iload_n 1, 1) := by decide +kernel
theorem dX10_wipe_11 : decode cX10_wipe 11 = .ok (.ireturn, 1) := by decide +kernel
theorem dX10_lookAtFirst_0 : decode cX10_lookAtFirst 0 = .ok (.aload_n 0, 1) := by decide +kernel
theorem dX10_lookAtFirst_1 : decode cX10_lookAtFirst 1 = .ok (.iconst 0, 1) := by decide +kernel
theorem dX10_lookAtFirst_2 : decode cX10_lookAtFirst 2 = .ok (.putfield 21, 3) := by decide +kernel
theorem dX10_lookAtFirst_5 : decode cX10_lookAtFirst 5 = .ok (.aload_n 0, 1) := by decide +kernel
theorem dX10_lookAtFirst_6 : decode cX10_lookAtFirst 6 = .ok (.invokevirtual 24, 3) := by decide +kernel
theorem dX10_lookAtFirst_9 : decode cX10_lookAtFirst 9 = .ok (.return_, 1) := by decide +kernel
theorem dX10_lookAtNext_0 : decode cX10_lookAtNext 0 = .ok (.aload_n 0, 1) := by decide +kernel
theorem dX10_lookAtNext_1 : decode cX10_lookAtNext 1 = .ok (.aload_n 0, 1) := by decide +kernel
theorem dX10_lookAtNext_2 : decode cX10_lookAtNext 2 = .ok (.getfield 21, 3) := by decide +kernel
theorem dX10_lookAtNext_5 : decode cX10_lookAtNext 5 = .ok (.putfield 27, 3) := by decide +kernel
theorem dX10_lookAtNext_8 : decode cX10_lookAtNext 8 = .ok (.aload_n 0, 1) := by decide +kernel
theorem dX10_lookAtNext_9 : decode cX10_lookAtNext 9 = .ok (.getfield 27, 3) := by decide +kernel
theorem dX10_lookAtNext_12 : decode cX10_lookAtNext 12 = .ok (.aload_n 0, 1) := by decide +kernel
theorem dX10_lookAtNext_13 : decode cX10_lookAtNext 13 = .ok (.getfield 15, 3) := by decide +kernel
theorem dX10_lookAtNext_16 : decode cX10_lookAtNext 16 = .ok (.if_icmp .ge 30, 3) := by decide +kernel
theorem dX10_lookAtNext_19 : decode cX10_lookAtNext 19 = .ok (.aload_n 0, 1) := by decide +kernel
theorem dX10_lookAtNext_20 : decode cX10_lookAtNext 20 = .ok (.getfield 9, 3) := by decide +kernel
theorem dX10_lookAtNext_23 : decode cX10_lookAtNext 23 = .ok (.aload_n 0, 1) := by decide +kernel
theorem dX10_lookAtNext_24 : decode cX10_lookAtNext 24 = .ok (.getfield 27, 3) := by decide +kernel
theorem dX10_lookAtNext_27 : decode cX10_lookAtNext 27 = .ok (.iaload, 1) := by decide +kernel
theorem dX10_lookAtNext_28 : decode cX10_lookAtNext 28 = .ok (.bipush 32, 2) := by decide +kernel
theorem dX10_lookAtNext_30 : decode cX10_lookAtNext 30 = .ok (.if_icmp .ne 16, 3) := by decide +kernel
theorem dX10_lookAtNext_33 : decode cX10_lookAtNext 33 = .ok (.aload_n 0, 1) := by decide +kernel
theorem dX10_lookAtNext_34 : decode cX10_lookAtNext 34 = .ok (.dup, 1) := by decide +kernel
theorem dX10_lookAtNext_35 : decode cX10_lookAtNext 35 = .ok (.getfield 27, 3) := by decide +kernel
theorem dX10_lookAtNext_38 : decode cX10_lookAtNext 38 = .ok (.iconst 1, 1) := by decide +kernel
theorem dX10_lookAtNext_39 : decode cX10_lookAtNext 39 = .ok (.iadd, 1) := by decide +kernel
theorem dX10_lookAtNext_40 : decode cX10_lookAtNext 40 = .ok (.putfield 27, 3) := by decide +kernel
theorem dX10_lookAtNext_43 : decode cX10_lookAtNext 43 = .ok (.goto (-35), 3) := by decide +kernel
theorem dX10_lookAtNext_46 : decode cX10_lookAtNext 46 = .ok (.aload_n 0, 1) := by decide +kernel
theorem dX10_lookAtNext_47 : decode cX10_lookAtNext 47 = .ok (.aload_n 0, 1) := by decide +kernel
theorem dX10_lookAtNext_48 : decode cX10_lookAtNext 48 = .ok (.getfield 27, 3) := by decide +kernel
theorem dX10_lookAtNext_51 : decode cX10_lookAtNext 51 = .ok (.putfield 21, 3) := by decide +kernel
theorem dX10_lookAtNext_54 : decode cX10_lookAtNext 54 = .ok (.aload_n 0, 1) := by decide +kernel
theorem dX10_lookAtNext_55 : decode cX10_lookAtNext 55 = .ok (.getfield 27, 3) := by decide +kernel
theorem dX10_lookAtNext_58 : decode cX10_lookAtNext 58 = .ok (.aload_n 0, 1) := by decide +kernel
theorem dX10_lookAtNext_59 : decode cX10_lookAtNext 59 = .ok (.getfield 15, 3) := by decide +kernel
theorem dX10_lookAtNext_62 : decode cX10_lookAtNext 62 = .ok (.if_icmp .ne 11, 3) := by decide +kernel
theorem dX10_lookAtNext_65 : decode cX10_lookAtNext 65 = .ok (.aload_n 0, 1) := by decide +kernel
theorem dX10_lookAtNext_66 : decode cX10_lookAtNext 66 = .ok (.iconst 0, 1) := by decide +kernel
theorem dX10_lookAtNext_67 : decode cX10_lookAtNext 67 = .ok (.putfield 30, 3) := by decide +kernel
theorem dX10_lookAtNext_70 : decode cX10_lookAtNext 70 = .ok (.goto 80, 3) := by decide +kernel
theorem dX10_lookAtNext_73 : decode cX10_lookAtNext 73 = .ok (.aload_n 0, 1) := by decide +kernel
theorem dX10_lookAtNext_74 : decode cX10_lookAtNext 74 = .ok (.getfield 9, 3) := by decide +kernel
theorem dX10_lookAtNext_77 : decode cX10_lookAtNext 77 = .ok (.aload_n 0, 1) := by decide +kernel
theorem dX10_lookAtNext_78 : decode cX10_lookAtNext 78 = .ok (.getfield 27, 3) := by decide +kernel
theorem dX10_lookAtNext_81 : decode cX10_lookAtNext 81 = .ok (.iaload, 1) := by decide +kernel
theorem dX10_lookAtNext_82 : decode cX10_lookAtNext 82 = .ok (.invokestatic 33, 3) := by decide +kernel
theorem dX10_lookAtNext_85 : decode cX10_lookAtNext 85 = .ok (.ifCond .eq 10, 3) := by decide +kernel
theorem dX10_lookAtNext_88 : decode cX10_lookAtNext 88 = .ok (.aload_n 0, 1) := by decide +kernel
theorem dX10_lookAtNext_89 : decode cX10_lookAtNext 89 = .ok (.invokevirtual 37, 3) := by decide +kernel
theorem dX10_lookAtNext_92 : decode cX10_lookAtNext 92 = .ok (.goto 58, 3) := by decide +kernel
theorem dX10_lookAtNext_95 : decode cX10_lookAtNext 95 = .ok (.aload_n 0, 1) := by decide +kernel
theorem dX10_lookAtNext_96 : decode cX10_lookAtNext 96 = .ok (.getfield 9, 3) := by decide +kernel
theorem dX10_lookAtNext_99 : decode cX10_lookAtNext 99 = .ok (.aload_n 0, 1) := by decide +kernel
theorem dX10_lookAtNext_100 : decode cX10_lookAtNext 100 = .ok (.getfield 27, 3) := by decide +kernel
theorem dX10_lookAtNext_103 : decode cX10_lookAtNext 103 = .ok (.iaload, 1) := by decide +kernel
theorem dX10_lookAtNext_104 : decode cX10_lookAtNext 104 = .ok (.invokestatic 40, 3) := by decide +kernel
theorem dX10_lookAtNext_107 : decode cX10_lookAtNext 107 = .ok (.ifCond .eq 10, 3) := by decide +kernel
theorem dX10_lookAtNext_110 : decode cX10_lookAtNext 110 = .ok (.aload_n 0, 1) := by decide +kernel
theorem dX10_lookAtNext_111 : decode cX10_lookAtNext 111 = .ok (.invokevirtual 43, 3) := by decide +kernel
theorem dX10_lookAtNext_114 : decode cX10_lookAtNext 114 = .ok (.goto 36, 3) := by decide +kernel
theorem dX10_lookAtNext_117 : decode cX10_lookAtNext 117 = .ok (.aload_n 0, 1) := by decide +kernel
theorem dX10_lookAtNext_118 : decode cX10_lookAtNext 118 = .ok (.dup, 1) := by decide +kernel
theorem dX10_lookAtNext_119 : decode cX10_lookAtNext 119 = .ok (.getfield 21, 3) := by decide +kernel
theorem dX10_lookAtNext_122 : decode cX10_lookAtNext 122 = .ok (.iconst 1, 1) := by decide +kernel
theorem dX10_lookAtNext_123 : decode cX10_lookAtNext 123 = .ok (.iadd, 1) := by decide +kernel
theorem dX10_lookAtNext_124 : decode cX10_lookAtNext 124 = .ok (.putfield 21, 3) := by decide +kernel
theorem dX10_lookAtNext_127 : decode cX10_lookAtNext 127 = .ok (.aload_n 0, 1) := by decide +kernel
theorem dX10_lookAtNext_128 : decode cX10_lookAtNext 128 = .ok (.aload_n 0, 1) := by decide +kernel
theorem dX10_lookAtNext_129 : decode cX10_lookAtNext 129 = .ok (.getfield 9, 3) := by decide +kernel
theorem dX10_lookAtNext_132 : decode cX10_lookAtNext 132 = .ok (.aload_n 0, 1) := by decide +kernel
theorem dX10_lookAtNext_133 : decode cX10_lookAtNext 133 = .ok (.getfield 27, 3) := by decide +kernel
theorem dX10_lookAtNext_136 : decode cX10_lookAtNext 136 = .ok (.iaload, 1) := by decide +kernel
theorem dX10_lookAtNext_137 : decode cX10_lookAtNext 137 = .ok (.bipush 59, 2) := by decide +kernel
theorem dX10_lookAtNext_139 : decode cX10_lookAtNext 139 = .ok (.if_icmp .ne 7, 3) := by decide +kernel
theorem dX10_lookAtNext_142 : decode cX10_lookAtNext 142 = .ok (.iconst 3, 1) := by decide +kernel
theorem dX10_lookAtNext_143 : decode cX10_lookAtNext 143 = .ok (.goto 4, 3) := by decide +kernel
theorem dX10_lookAtNext_146 : decode cX10_lookAtNext 146 = .ok (.iconst 4, 1) := by decide +kernel
theorem dX10_lookAtNext_147 : decode cX10_lookAtNext 147 = .ok (.putfield 30, 3) := by decide +kernel
theorem dX10_lookAtNext_150 : decode cX10_lookAtNext 150 = .ok (.return_, 1) := by decide +kernel
theorem dX10_takeWord_0 : decode cX10_takeWord 0 = .ok (.aload_n 0, 1) := by decide +kernel
theorem dX10_takeWord_1 : decode cX10_takeWord 1 = .ok (.getfield 21, 3) := by decide +kernel
theorem dX10_takeWord_4 : decode cX10_takeWord 4 = .ok (.aload_n 0, 1) := by decide +kernel
theorem dX10_takeWord_5 : decode cX10_takeWord 5 = .ok (.getfield 15, 3) := by decide +kernel
theorem dX10_takeWord_8 : decode cX10_takeWord 8 = .ok (.if_icmp .ge 31, 3) := by decide +kernel
theorem dX10_takeWord_11 : decode cX10_takeWord 11 = .ok (.aload_n 0, 1) := by decide +kernel
theorem dX10_takeWord_12 : decode cX10_takeWord 12 = .ok (.getfield 9, 3) := by decide +kernel
theorem dX10_takeWord_15 : decode cX10_takeWord 15 = .ok (.aload_n 0, 1) := by decide +kernel
theorem dX10_takeWord_16 : decode cX10_takeWord 16 = .ok (.getfield 21, 3) := by decide +kernel
theorem dX10_takeWord_19 : decode cX10_takeWord 19 = .ok (.iaload, 1) := by decide +kernel
theorem dX10_takeWord_20 : decode cX10_takeWord 20 = .ok (.invokestatic 33, 3) := by decide +kernel
theorem dX10_takeWord_23 : decode cX10_takeWord 23 = .ok (.ifCond .eq 16, 3) := by decide +kernel
theorem dX10_takeWord_26 : decode cX10_takeWord 26 = .ok (.aload_n 0, 1) := by decide +kernel
theorem dX10_takeWord_27 : decode cX10_takeWord 27 = .ok (.dup, 1) := by decide +kernel
theorem dX10_takeWord_28 : decode cX10_takeWord 28 = .ok (.getfield 21, 3) := by decide +kernel
theorem dX10_takeWord_31 : decode cX10_takeWord 31 = .ok (.iconst 1, 1) := by decide +kernel
theorem dX10_takeWord_32 : decode cX10_takeWord 32 = .ok (.iadd, 1) := by decide +kernel
theorem dX10_takeWord_33 : decode cX10_takeWord 33 = .ok (.putfield 21, 3) := by decide +kernel
theorem dX10_takeWord_36 : decode cX10_takeWord 36 = .ok (.goto (-36), 3) := by decide +kernel
theorem dX10_takeWord_39 : decode cX10_takeWord 39 = .ok (.aload_n 0, 1) := by decide +kernel
theorem dX10_takeWord_40 : decode cX10_takeWord 40 = .ok (.aload_n 0, 1) := by decide +kernel
theorem dX10_takeWord_41 : decode cX10_takeWord 41 = .ok (.invokevirtual 46, 3) := by decide +kernel
theorem dX10_takeWord_44 : decode cX10_takeWord 44 = .ok (.putfield 50, 3) := by decide +kernel
theorem dX10_takeWord_47 : decode cX10_takeWord 47 = .ok (.aload_n 0, 1) := by decide +kernel
theorem dX10_takeWord_48 : decode cX10_takeWord 48 = .ok (.aload_n 0, 1) := by decide +kernel
theorem dX10_takeWord_49 : decode cX10_takeWord 49 = .ok (.getfield 50, 3) := by decide +kernel
theorem dX10_takeWord_52 : decode cX10_takeWord 52 = .ok (.iconst (-1), 1) := by decide +kernel
theorem dX10_takeWord_53 : decode cX10_takeWord 53 = .ok (.if_icmp .ne 7, 3) := by decide +kernel
theorem dX10_takeWord_56 : decode cX10_takeWord 56 = .ok (.iconst 4, 1) := by decide +kernel
theorem dX10_takeWord_57 : decode cX10_takeWord 57 = .ok (.goto 4, 3) := by decide +kernel
theorem dX10_takeWord_60 : decode cX10_takeWord 60 = .ok (.iconst 1, 1) := by decide +kernel
theorem dX10_takeWord_61 : decode cX10_takeWord 61 = .ok (.putfield 30, 3) := by decide +kernel
theorem dX10_takeWord_64 : decode cX10_takeWord 64 = .ok (.return_, 1) := by decide +kernel
theorem dX10_takeNumber_0 : decode cX10_takeNumber 0 = .ok (.aload_n 0, 1) := by decide +kernel
theorem dX10_takeNumber_1 : decode cX10_takeNumber 1 = .ok (.iconst 0, 1) := by decide +kernel
theorem dX10_takeNumber_2 : decode cX10_takeNumber 2 = .ok (.putfield 50, 3) := by decide +kernel
theorem dX10_takeNumber_5 : decode cX10_takeNumber 5 = .ok (.aload_n 0, 1) := by decide +kernel
theorem dX10_takeNumber_6 : decode cX10_takeNumber 6 = .ok (.iconst 2, 1) := by decide +kernel
theorem dX10_takeNumber_7 : decode cX10_takeNumber 7 = .ok (.putfield 30, 3) := by decide +kernel
theorem dX10_takeNumber_10 : decode cX10_takeNumber 10 = .ok (.aload_n 0, 1) := by decide +kernel
theorem dX10_takeNumber_11 : decode cX10_takeNumber 11 = .ok (.getfield 21, 3) := by decide +kernel
theorem dX10_takeNumber_14 : decode cX10_takeNumber 14 = .ok (.aload_n 0, 1) := by decide +kernel
theorem dX10_takeNumber_15 : decode cX10_takeNumber 15 = .ok (.getfield 15, 3) := by decide +kernel
theorem dX10_takeNumber_18 : decode cX10_takeNumber 18 = .ok (.if_icmp .ge 71, 3) := by decide +kernel
theorem dX10_takeNumber_21 : decode cX10_takeNumber 21 = .ok (.aload_n 0, 1) := by decide +kernel
theorem dX10_takeNumber_22 : decode cX10_takeNumber 22 = .ok (.getfield 9, 3) := by decide +kernel
theorem dX10_takeNumber_25 : decode cX10_takeNumber 25 = .ok (.aload_n 0, 1) := by decide +kernel
theorem dX10_takeNumber_26 : decode cX10_takeNumber 26 = .ok (.getfield 21, 3) := by decide +kernel
theorem dX10_takeNumber_29 : decode cX10_takeNumber 29 = .ok (.iaload, 1) := by decide +kernel
theorem dX10_takeNumber_30 : decode cX10_takeNumber 30 = .ok (.invokestatic 40, 3) := by decide +kernel
theorem dX10_takeNumber_33 : decode cX10_takeNumber 33 = .ok (.ifCond .eq 56, 3) := by decide +kernel
theorem dX10_takeNumber_36 : decode cX10_takeNumber 36 = .ok (.aload_n 0, 1) := by decide +kernel
theorem dX10_takeNumber_37 : decode cX10_takeNumber 37 = .ok (.bipush 10, 2) := by decide +kernel
theorem dX10_takeNumber_39 : decode cX10_takeNumber 39 = .ok (.aload_n 0, 1) := by decide +kernel
theorem dX10_takeNumber_40 : decode cX10_takeNumber 40 = .ok (.getfield 50, 3) := by decide +kernel
theorem dX10_takeNumber_43 : decode cX10_takeNumber 43 = .ok (.imul, 1) := by decide +kernel
theorem dX10_takeNumber_44 : decode cX10_takeNumber 44 = .ok (.aload_n 0, 1) := by decide +kernel
theorem dX10_takeNumber_45 : decode cX10_takeNumber 45 = .ok (.getfield 9, 3) := by decide +kernel
theorem dX10_takeNumber_48 : decode cX10_takeNumber 48 = .ok (.aload_n 0, 1) := by decide +kernel
theorem dX10_takeNumber_49 : decode cX10_takeNumber 49 = .ok (.getfield 21, 3) := by decide +kernel
theorem dX10_takeNumber_52 : decode cX10_takeNumber 52 = .ok (.iaload, 1) := by decide +kernel
theorem dX10_takeNumber_53 : decode cX10_takeNumber 53 = .ok (.iadd, 1) := by decide +kernel
theorem dX10_takeNumber_54 : decode cX10_takeNumber 54 = .ok (.bipush 48, 2) := by decide +kernel
theorem dX10_takeNumber_56 : decode cX10_takeNumber 56 = .ok (.isub, 1) := by decide +kernel
theorem dX10_takeNumber_57 : decode cX10_takeNumber 57 = .ok (.putfield 50, 3) := by decide +kernel
theorem dX10_takeNumber_60 : decode cX10_takeNumber 60 = .ok (.aload_n 0, 1) := by decide +kernel
theorem dX10_takeNumber_61 : decode cX10_takeNumber 61 = .ok (.dup, 1) := by decide +kernel
theorem dX10_takeNumber_62 : decode cX10_takeNumber 62 = .ok (.getfield 21, 3) := by decide +kernel
theorem dX10_takeNumber_65 : decode cX10_takeNumber 65 = .ok (.iconst 1, 1) := by decide +kernel
theorem dX10_takeNumber_66 : decode cX10_takeNumber 66 = .ok (.iadd, 1) := by decide +kernel
theorem dX10_takeNumber_67 : decode cX10_takeNumber 67 = .ok (.putfield 21, 3) := by decide +kernel
theorem dX10_takeNumber_70 : decode cX10_takeNumber 70 = .ok (.aload_n 0, 1) := by decide +kernel
theorem dX10_takeNumber_71 : decode cX10_takeNumber 71 = .ok (.getfield 21, 3) := by decide +kernel
theorem dX10_takeNumber_74 : decode cX10_takeNumber 74 = .ok (.aload_n 0, 1) := by decide +kernel
theorem dX10_takeNumber_75 : decode cX10_takeNumber 75 = .ok (.getfield 27, 3) := by decide +kernel
theorem dX10_takeNumber_78 : decode cX10_takeNumber 78 = .ok (.isub, 1) := by decide +kernel
theorem dX10_takeNumber_79 : decode cX10_takeNumber 79 = .ok (.iconst 2, 1) := by decide +kernel
theorem dX10_takeNumber_80 : decode cX10_takeNumber 80 = .ok (.if_icmp .le (-70), 3) := by decide +kernel
theorem dX10_takeNumber_83 : decode cX10_takeNumber 83 = .ok (.aload_n 0, 1) := by decide +kernel
theorem dX10_takeNumber_84 : decode cX10_takeNumber 84 = .ok (.iconst 4, 1) := by decide +kernel
theorem dX10_takeNumber_85 : decode cX10_takeNumber 85 = .ok (.putfield 30, 3) := by decide +kernel
theorem dX10_takeNumber_88 : decode cX10_takeNumber 88 = .ok (.return_, 1) := by decide +kernel
theorem dX10_takeNumber_89 : decode cX10_takeNumber 89 = .ok (.return_, 1) := by decide +kernel
theorem dX10_itemOfWord_0 : decode cX10_itemOfWord 0 = .ok (.aload_n 0, 1) := by decide +kernel
theorem dX10_itemOfWord_1 : decode cX10_itemOfWord 1 = .ok (.ldc 53, 2) := by decide +kernel
theorem dX10_itemOfWord_3 : decode cX10_itemOfWord 3 = .ok (.invokevirtual 55, 3) := by decide +kernel
theorem dX10_itemOfWord_6 : decode cX10_itemOfWord 6 = .ok (.ifCond .eq 5, 3) := by decide +kernel
theorem dX10_itemOfWord_9 : decode cX10_itemOfWord 9 = .ok (.iconst 0, 1) := by decide +kernel
theorem dX10_itemOfWord_10 : decode cX10_itemOfWord 10 = .ok (.ireturn, 1) := by decide +kernel
theorem dX10_itemOfWord_11 : decode cX10_itemOfWord 11 = .ok (.aload_n 0, 1) := by decide +kernel
theorem dX10_itemOfWord_12 : decode cX10_itemOfWord 12 = .ok (.ldc 61, 2) := by decide +kernel
theorem dX10_itemOfWord_14 : decode cX10_itemOfWord 14 = .ok (.invokevirtual 55, 3) := by decide +kernel
theorem dX10_itemOfWord_17 : decode cX10_itemOfWord 17 = .ok (.ifCond .eq 5, 3) := by decide +kernel
theorem dX10_itemOfWord_20 : decode cX10_itemOfWord 20 = .ok (.iconst 1, 1) := by decide +kernel
theorem dX10_itemOfWord_21 : decode cX10_itemOfWord 21 = .ok (.ireturn, 1) := by decide +kernel
theorem dX10_itemOfWord_22 : decode cX10_itemOfWord 22 = .ok (.aload_n 0, 1) := by decide +kernel
theorem dX10_itemOfWord_23 : decode cX10_itemOfWord 23 = .ok (.ldc 63, 2) := by decide +kernel
theorem dX10_itemOfWord_25 : decode cX10_itemOfWord 25 = .ok (.invokevirtual 55, 3) := by decide +kernel
theorem dX10_itemOfWord_28 : decode cX10_itemOfWord 28 = .ok (.ifCond .eq 5, 3) := by decide +kernel
theorem dX10_itemOfWord_31 : decode cX10_itemOfWord 31 = .ok (.iconst 2, 1) := by decide +kernel
theorem dX10_itemOfWord_32 : decode cX10_itemOfWord 32 = .ok (.ireturn, 1) := by decide +kernel
theorem dX10_itemOfWord_33 : decode cX10_itemOfWord 33 = .ok (.aload_n 0, 1) := by decide +kernel
theorem dX10_itemOfWord_34 : decode cX10_itemOfWord 34 = .ok (.ldc 65, 2) := by decide +kernel
theorem dX10_itemOfWord_36 : decode cX10_itemOfWord 36 = .ok (.invokevirtual 55, 3) := by decide +kernel
theorem dX10_itemOfWord_39 : decode cX10_itemOfWord 39 = .ok (.ifCond .eq 5, 3) := by decide +kernel
theorem dX10_itemOfWord_42 : decode cX10_itemOfWord 42 = .ok (.iconst 3, 1) := by decide +kernel
theorem dX10_itemOfWord_43 : decode cX10_itemOfWord 43 = .ok (.ireturn, 1) := by decide +kernel
theorem dX10_itemOfWord_44 : decode cX10_itemOfWord 44 = .ok (.aload_n 0, 1) := by decide +kernel
theorem dX10_itemOfWord_45 : decode cX10_itemOfWord 45 = .ok (.ldc 67, 2) := by decide +kernel
theorem dX10_itemOfWord_47 : decode cX10_itemOfWord 47 = .ok (.invokevirtual 55, 3) := by decide +kernel
theorem dX10_itemOfWord_50 : decode cX10_itemOfWord 50 = .ok (.ifCond .eq 7, 3) := by decide +kernel
theorem dX10_itemOfWord_53 : decode cX10_itemOfWord 53 = .ok (.iconst 4, 1) := by decide +kernel
theorem dX10_itemOfWord_54 : decode cX10_itemOfWord 54 = .ok (.goto 4, 3) := by decide +kernel
theorem dX10_itemOfWord_57 : decode cX10_itemOfWord 57 = .ok (.iconst (-1), 1) := by decide +kernel
theorem dX10_itemOfWord_58 : decode cX10_itemOfWord 58 = .ok (.ireturn, 1) := by decide +kernel
theorem dX10_isWord_0 : decode cX10_isWord 0 = .ok (.aload_n 1, 1) := by decide +kernel
theorem dX10_isWord_1 : decode cX10_isWord 1 = .ok (.invokevirtual 69, 3) := by decide +kernel
theorem dX10_isWord_4 : decode cX10_isWord 4 = .ok (.aload_n 0, 1) := by decide +kernel
theorem dX10_isWord_5 : decode cX10_isWord 5 = .ok (.getfield 21, 3) := by decide +kernel
theorem dX10_isWord_8 : decode cX10_isWord 8 = .ok (.aload_n 0, 1) := by decide +kernel
theorem dX10_isWord_9 : decode cX10_isWord 9 = .ok (.getfield 27, 3) := by decide +kernel
theorem dX10_isWord_12 : decode cX10_isWord 12 = .ok (.isub, 1) := by decide +kernel
theorem dX10_isWord_13 : decode cX10_isWord 13 = .ok (.if_icmp .eq 5, 3) := by decide +kernel
theorem dX10_isWord_16 : decode cX10_isWord 16 = .ok (.iconst 0, 1) := by decide +kernel
theorem dX10_isWord_17 : decode cX10_isWord 17 = .ok (.ireturn, 1) := by decide +kernel
theorem dX10_isWord_18 : decode cX10_isWord 18 = .ok (.iconst 0, 1) := by decide +kernel
theorem dX10_isWord_19 : decode cX10_isWord 19 = .ok (.istore_n 2, 1) := by decide +kernel
theorem dX10_isWord_20 : decode cX10_isWord 20 = .ok (.iload_n 2, 1) := by decide +kernel
theorem dX10_isWord_21 : decode cX10_isWord 21 = .ok (.aload_n 1, 1) := by decide +kernel
theorem dX10_isWord_22 : decode cX10_isWord 22 = .ok (.invokevirtual 69, 3) := by decide +kernel
theorem dX10_isWord_25 : decode cX10_isWord 25 = .ok (.if_icmp .ge 30, 3) := by decide +kernel
theorem dX10_isWord_28 : decode cX10_isWord 28 = .ok (.aload_n 1, 1) := by decide +kernel
theorem dX10_isWord_29 : decode cX10_isWord 29 = .ok (.iload_n 2, 1) := by decide +kernel
theorem dX10_isWord_30 : decode cX10_isWord 30 = .ok (.invokevirtual 73, 3) := by decide +kernel
theorem dX10_isWord_33 : decode cX10_isWord 33 = .ok (.aload_n 0, 1) := by decide +kernel
theorem dX10_isWord_34 : decode cX10_isWord 34 = .ok (.getfield 9, 3) := by decide +kernel
theorem dX10_isWord_37 : decode cX10_isWord 37 = .ok (.aload_n 0, 1) := by decide +kernel
theorem dX10_isWord_38 : decode cX10_isWord 38 = .ok (.getfield 27, 3) := by decide +kernel
theorem dX10_isWord_41 : decode cX10_isWord 41 = .ok (.iload_n 2, 1) := by decide +kernel
theorem dX10_isWord_42 : decode cX10_isWord 42 = .ok (.iadd, 1) := by decide +kernel
theorem dX10_isWord_43 : decode cX10_isWord 43 = .ok (.iaload, 1) := by decide +kernel
theorem dX10_isWord_44 : decode cX10_isWord 44 = .ok (.if_icmp .eq 5, 3) := by decide +kernel
theorem dX10_isWord_47 : decode cX10_isWord 47 = .ok (.iconst 0, 1) := by decide +kernel
theorem dX10_isWord_48 : decode cX10_isWord 48 = .ok (.ireturn, 1) := by decide +kernel
theorem dX10_isWord_49 : decode cX10_isWord 49 = .ok (.iinc 2 1, 3) := by decide +kernel
theorem dX10_isWord_52 : decode cX10_isWord 52 = .ok (.goto (-32), 3) := by decide +kernel
theorem dX10_isWord_55 : decode cX10_isWord 55 = .ok (.iconst 1, 1) := by decide +kernel
theorem dX10_isWord_56 : decode cX10_isWord 56 = .ok (.ireturn, 1) := by decide +kernel
theorem dX10_isLetter_0 : decode cX10_isLetter 0 = .ok (.iload_n 0, 1) := by decide +kernel
theorem dX10_isLetter_1 : decode cX10_isLetter 1 = .ok (.bipush 97, 2) := by decide +kernel
theorem dX10_isLetter_3 : decode cX10_isLetter 3 = .ok (.if_icmp .lt 13, 3) := by decide +kernel
theorem dX10_isLetter_6 : decode cX10_isLetter 6 = .ok (.iload_n 0, 1) := by decide +kernel
theorem dX10_isLetter_7 : decode cX10_isLetter 7 = .ok (.bipush 122, 2) := by decide +kernel
theorem dX10_isLetter_9 : decode cX10_isLetter 9 = .ok (.if_icmp .gt 7, 3) := by decide +kernel
theorem dX10_isLetter_12 : decode cX10_isLetter 12 = .ok (.iconst 1, 1) := by decide +kernel
theorem dX10_isLetter_13 : decode cX10_isLetter 13 = .ok (.goto 4, 3) := by decide +kernel
theorem dX10_isLetter_16 : decode cX10_isLetter 16 = .ok (.iconst 0, 1) := by decide +kernel
theorem dX10_isLetter_17 : decode cX10_isLetter 17 = .ok (.ireturn, 1) := by decide +kernel
theorem dX10_isFigure_0 : decode cX10_isFigure 0 = .ok (.iload_n 0, 1) := by decide +kernel
theorem dX10_isFigure_1 : decode cX10_isFigure 1 = .ok (.bipush 48, 2) := by decide +kernel
theorem dX10_isFigure_3 : decode cX10_isFigure 3 = .ok (.if_icmp .lt 13, 3) := by decide +kernel
theorem dX10_isFigure_6 : decode cX10_isFigure 6 = .ok (.iload_n 0, 1) := by decide +kernel
theorem dX10_isFigure_7 : decode cX10_isFigure 7 = .ok (.bipush 57, 2) := by decide +kernel
theorem dX10_isFigure_9 : decode cX10_isFigure 9 = .ok (.if_icmp .gt 7, 3) := by decide +kernel
theorem dX10_isFigure_12 : decode cX10_isFigure 12 = .ok (.iconst 1, 1) := by decide +kernel
theorem dX10_isFigure_13 : decode cX10_isFigure 13 = .ok (.goto 4, 3) := by decide +kernel
theorem dX10_isFigure_16 : decode cX10_isFigure 16 = .ok (.iconst 0, 1) := by decide +kernel
theorem dX10_isFigure_17 : decode cX10_isFigure 17 = .ok (.ireturn, 1) := by decide +kernel
theorem dX11_init_0 : decode cX11_init 0 = .ok (.aload_n 0, 1) := by decide +kernel
theorem dX11_init_1 : decode cX11_init 1 = .ok (.invokespecial 3, 3) := by decide +kernel
theorem dX11_init_4 : decode cX11_init 4 = .ok (.aload_n 0, 1) := by decide +kernel
theorem dX11_init_5 : decode cX11_init 5 = .ok (.new 9, 3) := by decide +kernel
theorem dX11_init_8 : decode cX11_init 8 = .ok (.dup, 1) := by decide +kernel
theorem dX11_init_9 : decode cX11_init 9 = .ok (.invokespecial 11, 3) := by decide +kernel
theorem dX11_init_12 : decode cX11_init 12 = .ok (.putfield 12, 3) := by decide +kernel
theorem dX11_init_15 : decode cX11_init 15 = .ok (.aload_n 0, 1) := by decide +kernel
theorem dX11_init_16 : decode cX11_init 16 = .ok (.new 9, 3) := by decide +kernel
theorem dX11_init_19 : decode cX11_init 19 = .ok (.dup, 1) := by decide +kernel
theorem dX11_init_20 : decode cX11_init 20 = .ok (.invokespecial 11, 3) := by decide +kernel
theorem dX11_init_23 : decode cX11_init 23 = .ok (.putfield 16, 3) := by decide +kernel
theorem dX11_init_26 : decode cX11_init 26 = .ok (.aload_n 0, 1) := by decide +kernel
theorem dX11_init_27 : decode cX11_init 27 = .ok (.iconst 2, 1) := by decide +kernel
theorem dX11_init_28 : decode cX11_init 28 = .ok (.anewarray 9, 3) := by decide +kernel
theorem dX11_init_31 : decode cX11_init 31 = .ok (.dup, 1) := by decide +kernel
theorem dX11_init_32 : decode cX11_init 32 = .ok (.iconst 0, 1) := by decide +kernel
theorem dX11_init_33 : decode cX11_init 33 = .ok (.new 9, 3) := by decide +kernel
theorem dX11_init_36 : decode cX11_init 36 = .ok (.dup, 1) := by decide +kernel
theorem dX11_init_37 : decode cX11_init 37 = .ok (.invokespecial 11, 3) := by decide +kernel
theorem dX11_init_40 : decode cX11_init 40 = .ok (.aastore, 1) := by decide +kernel
theorem dX11_init_41 : decode cX11_init 41 = .ok (.dup, 1) := by decide +kernel
theorem dX11_init_42 : decode cX11_init 42 = .ok (.iconst 1, 1) := by decide +kernel
theorem dX11_init_43 : decode cX11_init 43 = .ok (.new 9, 3) := by decide +kernel
theorem dX11_init_46 : decode cX11_init 46 = .ok (.dup, 1) := by decide +kernel
theorem dX11_init_47 : decode cX11_init 47 = .ok (.invokespecial 11, 3) := by decide +kernel
theorem dX11_init_50 : decode cX11_init 50 = .ok (.aastore, 1) := by decide +kernel
theorem dX11_init_51 : decode cX11_init 51 = .ok (.putfield 19, 3) := by decide +kernel
theorem dX11_init_54 : decode cX11_init 54 = .ok (.aload_n 0, 1) := by decide +kernel
theorem dX11_init_55 : decode cX11_init 55 = .ok (.iconst 2, 1) := by decide +kernel
theorem dX11_init_56 : decode cX11_init 56 = .ok (.newarray .boolean, 2) := by decide +kernel
theorem dX11_init_58 : decode cX11_init 58 = .ok (.putfield 23, 3) := by decide +kernel
theorem dX11_init_61 : decode cX11_init 61 = .ok (.aload_n 0, 1) := by decide +kernel
theorem dX11_init_62 : decode cX11_init 62 = .ok (.new 27, 3) := by decide +kernel
theorem dX11_init_65 : decode cX11_init 65 = .ok (.dup, 1) := by decide +kernel
theorem dX11_init_66 : decode cX11_init 66 = .ok (.invokespecial 29, 3) := by decide +kernel
theorem dX11_init_69 : decode cX11_init 69 = .ok (.putfield 30, 3) := by decide +kernel
theorem dX11_init_72 : decode cX11_init 72 = .ok (.aload_n 0, 1) := by decide +kernel
theorem dX11_init_73 : decode cX11_init 73 = .ok (.new 34, 3) := by decide +kernel
theorem dX11_init_76 : decode cX11_init 76 = .ok (.dup, 1) := by decide +kernel
theorem dX11_init_77 : decode cX11_init 77 = .ok (.invokespecial 36, 3) := by decide +kernel
theorem dX11_init_80 : decode cX11_init 80 = .ok (.putfield 37, 3) := by decide +kernel
theorem dX11_init_83 : decode cX11_init 83 = .ok (.aload_n 0, 1) := by decide +kernel
theorem dX11_init_84 : decode cX11_init 84 = .ok (.new 41, 3) := by decide +kernel
theorem dX11_init_87 : decode cX11_init 87 = .ok (.dup, 1) := by decide +kernel
theorem dX11_init_88 : decode cX11_init 88 = .ok (.invokespecial 43, 3) := by decide +kernel
theorem dX11_init_91 : decode cX11_init 91 = .ok (.putfield 44, 3) := by decide +kernel
theorem dX11_init_94 : decode cX11_init 94 = .ok (.return_, 1) := by decide +kernel
theorem dX11_bridge_0 : decode cX11_bridge 0 = .ok (.aload_n 0, 1) := by decide +kernel
theorem dX11_bridge_1 : decode cX11_bridge 1 = .ok (.aload_n 0, 1) := by decide +kernel
theorem dX11_bridge_2 : decode cX11_bridge 2 = .ok (.getfield 12, 3) := by decide +kernel
theorem dX11_bridge_5 : decode cX11_bridge 5 = .ok (.iload_n 1, 1) := by decide +kernel
theorem dX11_bridge_6 : decode cX11_bridge 6 = .ok (.iload_n 2, 1) := by decide +kernel
theorem dX11_bridge_7 : decode cX11_bridge 7 = .ok (.iload_n 3, 1) := by decide +kernel
theorem dX11_bridge_8 : decode cX11_bridge 8 = .ok (.iload 4, 2) := by decide +kernel
theorem dX11_bridge_10 : decode cX11_bridge 10 = .ok (.invokevirtual 48, 3) := by decide +kernel
theorem dX11_bridge_13 : decode cX11_bridge 13 = .ok (.invokevirtual 52, 3) := by decide +kernel
theorem dX11_bridge_16 : decode cX11_bridge 16 = .ok (.ireturn, 1) := by decide +kernel
theorem dX11_chain_0 : decode cX11_chain 0 = .ok (.aload_n 0, 1) := by decide +kernel
theorem dX11_chain_1 : decode cX11_chain 1 = .ok (.aload_n 0, 1) := by decide +kernel
theorem dX11_chain_2 : decode cX11_chain 2 = .ok (.getfield 12, 3) := by decide +kernel
theorem dX11_chain_5 : decode cX11_chain 5 = .ok (.iload_n 1, 1) := by decide +kernel
theorem dX11_chain_6 : decode cX11_chain 6 = .ok (.iload_n 2, 1) := by decide +kernel
theorem dX11_chain_7 : decode cX11_chain 7 = .ok (.iload_n 3, 1) := by decide +kernel
theorem dX11_chain_8 : decode cX11_chain 8 = .ok (.invokevirtual 56, 3) := by decide +kernel
theorem dX11_chain_11 : decode cX11_chain 11 = .ok (.invokevirtual 52, 3) := by decide +kernel
theorem dX11_chain_14 : decode cX11_chain 14 = .ok (.ireturn, 1) := by decide +kernel
theorem dX11_load_0 : decode cX11_load 0 = .ok (.aload_n 0, 1) := by decide +kernel
theorem dX11_load_1 : decode cX11_load 1 = .ok (.aload_n 0, 1) := by decide +kernel
theorem dX11_load_2 : decode cX11_load 2 = .ok (.getfield 12, 3) := by decide +kernel
theorem dX11_load_5 : decode cX11_load 5 = .ok (.iload_n 1, 1) := by decide +kernel
theorem dX11_load_6 : decode cX11_load 6 = .ok (.iload_n 2, 1) := by decide +kernel
theorem dX11_load_7 : decode cX11_load 7 = .ok (.invokevirtual 60, 3) := by decide +kernel
theorem dX11_load_10 : decode cX11_load 10 = .ok (.invokevirtual 52, 3) := by decide +kernel
theorem dX11_load_13 : decode cX11_load 13 = .ok (.ireturn, 1) := by decide +kernel
theorem dX11_one_0 : decode cX11_one 0 = .ok (.aload_n 0, 1) := by decide +kernel
theorem dX11_one_1 : decode cX11_one 1 = .ok (.aload_n 0, 1) := by decide +kernel
theorem dX11_one_2 : decode cX11_one 2 = .ok (.getfield 12, 3) := by decide +kernel
theorem dX11_one_5 : decode cX11_one 5 = .ok (.iload_n 1, 1) := by decide +kernel
theorem dX11_one_6 : decode cX11_one 6 = .ok (.iload_n 2, 1) := by decide +kernel
theorem dX11_one_7 : decode cX11_one 7 = .ok (.invokevirtual 64, 3) := by decide +kernel
theorem dX11_one_10 : decode cX11_one 10 = .ok (.invokevirtual 52, 3) := by decide +kernel
theorem dX11_one_13 : decode cX11_one 13 = .ok (.ireturn, 1) := by decide +kernel
theorem dX11_weight_0 : decode cX11_weight 0 = .ok (.aload_n 0, 1) := by decide +kernel
theorem dX11_weight_1 : decode cX11_weight 1 = .ok (.getfield 12, 3) := by decide +kernel
theorem dX11_weight_4 : decode cX11_weight 4 = .ok (.iload_n 1, 1) := by decide +kernel
theorem dX11_weight_5 : decode cX11_weight 5 = .ok (.invokevirtual 67, 3) := by decide +kernel
theorem dX11_weight_8 : decode cX11_weight 8 = .ok (.ifCond .eq 14, 3) := by decide +kernel
theorem dX11_weight_11 : decode cX11_weight 11 = .ok (.aload_n 0, 1) := by decide +kernel
theorem dX11_weight_12 : decode cX11_weight 12 = .ok (.getfield 12, 3) := by decide +kernel
theorem dX11_weight_15 : decode cX11_weight 15 = .ok (.iload_n 1, 1) := by decide +kernel
theorem dX11_weight_16 : decode cX11_weight 16 = .ok (.invokevirtual 71, 3) := by decide +kernel
theorem dX11_weight_19 : decode cX11_weight 19 = .ok (.goto 9, 3) := by decide +kernel
theorem dX11_weight_22 : decode cX11_weight 22 = .ok (.aload_n 0, 1) := by decide +kernel
theorem dX11_weight_23 : decode cX11_weight 23 = .ok (.bipush (-2), 2) := by decide +kernel
theorem dX11_weight_25 : decode cX11_weight 25 = .ok (.invokevirtual 52, 3) := by decide +kernel
theorem dX11_weight_28 : decode cX11_weight 28 = .ok (.ireturn, 1) := by decide +kernel
theorem dX11_where_0 : decode cX11_where 0 = .ok (.aload_n 0, 1) := by decide +kernel
theorem dX11_where_1 : decode cX11_where 1 = .ok (.getfield 12, 3) := by decide +kernel
theorem dX11_where_4 : decode cX11_where 4 = .ok (.iload_n 1, 1) := by decide +kernel
theorem dX11_where_5 : decode cX11_where 5 = .ok (.invokevirtual 74, 3) := by decide +kernel
theorem dX11_where_8 : decode cX11_where 8 = .ok (.ifCond .eq 15, 3) := by decide +kernel
theorem dX11_where_11 : decode cX11_where 11 = .ok (.aload_n 0, 1) := by decide +kernel
theorem dX11_where_12 : decode cX11_where 12 = .ok (.getfield 12, 3) := by decide +kernel
theorem dX11_where_15 : decode cX11_where 15 = .ok (.getfield 77, 3) := by decide +kernel
theorem dX11_where_18 : decode cX11_where 18 = .ok (.iload_n 1, 1) := by decide +kernel
theorem dX11_where_19 : decode cX11_where 19 = .ok (.iaload, 1) := by decide +kernel
theorem dX11_where_20 : decode cX11_where 20 = .ok (.goto 9, 3) := by decide +kernel
theorem dX11_where_23 : decode cX11_where 23 = .ok (.aload_n 0, 1) := by decide +kernel
theorem dX11_where_24 : decode cX11_where 24 = .ok (.bipush (-2), 2) := by decide +kernel
theorem dX11_where_26 : decode cX11_where 26 = .ok (.invokevirtual 52, 3) := by decide +kernel
theorem dX11_where_29 : decode cX11_where 29 = .ok (.ireturn, 1) := by decide +kernel
theorem dX11_lying_0 : decode cX11_lying 0 = .ok (.aload_n 0, 1) := by decide +kernel
theorem dX11_lying_1 : decode cX11_lying 1 = .ok (.getfield 12, 3) := by decide +kernel
theorem dX11_lying_4 : decode cX11_lying 4 = .ok (.getfield 81, 3) := by decide +kernel
theorem dX11_lying_7 : decode cX11_lying 7 = .ok (.ireturn, 1) := by decide +kernel
theorem dX11_type_0 : decode cX11_type 0 = .ok (.aload_n 0, 1) := by decide +kernel
theorem dX11_type_1 : decode cX11_type 1 = .ok (.aload_n 0, 1) := by decide +kernel
theorem dX11_type_2 : decode cX11_type 2 = .ok (.getfield 30, 3) := by decide +kernel
theorem dX11_type_5 : decode cX11_type 5 = .ok (.lload_n 1, 1) := by decide +kernel
theorem dX11_type_6 : decode cX11_type 6 = .ok (.iload_n 3, 1) := by decide +kernel
theorem dX11_type_7 : decode cX11_type 7 = .ok (.invokevirtual 85, 3) := by decide +kernel
theorem dX11_type_10 : decode cX11_type 10 = .ok (.invokevirtual 52, 3) := by decide +kernel
theorem dX11_type_13 : decode cX11_type 13 = .ok (.ireturn, 1) := by decide +kernel
theorem dX11_clear_0 : decode cX11_clear 0 = .ok (.aload_n 0, 1) := by decide +kernel
theorem dX11_clear_1 : decode cX11_clear 1 = .ok (.getfield 30, 3) := by decide +kernel
theorem dX11_clear_4 : decode cX11_clear 4 = .ok (.invokevirtual 89, 3) := by decide +kernel
theorem dX11_clear_7 : decode cX11_clear 7 = .ok (.ireturn, 1) := by decide +kernel
theorem dX11_read_0 : decode cX11_read 0 = .ok (.aload_n 0, 1) := by decide +kernel
theorem dX11_read_1 : decode cX11_read 1 = .ok (.getfield 37, 3) := by decide +kernel
theorem dX11_read_4 : decode cX11_read 4 = .ok (.aload_n 0, 1) := by decide +kernel
theorem dX11_read_5 : decode cX11_read 5 = .ok (.getfield 16, 3) := by decide +kernel
theorem dX11_read_8 : decode cX11_read 8 = .ok (.aload_n 0, 1) := by decide +kernel
theorem dX11_read_9 : decode cX11_read 9 = .ok (.getfield 30, 3) := by decide +kernel
theorem dX11_read_12 : decode cX11_read 12 = .ok (.invokevirtual 93, 3) := by decide +kernel
theorem dX11_read_15 : decode cX11_read 15 = .ok (.istore_n 1, 1) := by decide +kernel
theorem dX11_read_16 : decode cX11_read 16 = .ok (.iload_n 1, 1) := by decide +kernel
theorem dX11_read_17 : decode cX11_read 17 = .ok (.ifCond .lt 14, 3) := by decide +kernel
theorem dX11_read_20 : decode cX11_read 20 = .ok (.aload_n 0, 1) := by decide +kernel
theorem dX11_read_21 : decode cX11_read 21 = .ok (.getfield 12, 3) := by decide +kernel
theorem dX11_read_24 : decode cX11_read 24 = .ok (.aload_n 0, 1) := by decide +kernel
theorem dX11_read_25 : decode cX11_read 25 = .ok (.getfield 16, 3) := by decide +kernel
theorem dX11_read_28 : decode cX11_read 28 = .ok (.invokevirtual 97, 3) := by decide +kernel
theorem dX11_read_31 : decode cX11_read 31 = .ok (.iload_n 1, 1) := by decide +kernel
theorem dX11_read_32 : decode cX11_read 32 = .ok (.ireturn, 1) := by decide +kernel
theorem dX11_step_0 : decode cX11_step 0 = .ok (.aload_n 0, 1) := by decide +kernel
theorem dX11_step_1 : decode cX11_step 1 = .ok (.getfield 12, 3) := by decide +kernel
theorem dX11_step_4 : decode cX11_step 4 = .ok (.iload_n 1, 1) := by decide +kernel
theorem dX11_step_5 : decode cX11_step 5 = .ok (.invokevirtual 74, 3) := by decide +kernel
theorem dX11_step_8 : decode cX11_step 8 = .ok (.ifCond .eq 14, 3) := by decide +kernel
theorem dX11_step_11 : decode cX11_step 11 = .ok (.aload_n 0, 1) := by decide +kernel
theorem dX11_step_12 : decode cX11_step 12 = .ok (.getfield 12, 3) := by decide +kernel
theorem dX11_step_15 : decode cX11_step 15 = .ok (.iload_n 2, 1) := by decide +kernel
theorem dX11_step_16 : decode cX11_step 16 = .ok (.invokevirtual 101, 3) := by decide +kernel
theorem dX11_step_19 : decode cX11_step 19 = .ok (.ifCond .ne 10, 3) := by decide +kernel
theorem dX11_step_22 : decode cX11_step 22 = .ok (.aload_n 0, 1) := by decide +kernel
theorem dX11_step_23 : decode cX11_step 23 = .ok (.bipush (-2), 2) := by decide +kernel
theorem dX11_step_25 : decode cX11_step 25 = .ok (.invokevirtual 52, 3) := by decide +kernel
theorem dX11_step_28 : decode cX11_step 28 = .ok (.ireturn, 1) := by decide +kernel
theorem dX11_step_29 : decode cX11_step 29 = .ok (.aload_n 0, 1) := by decide +kernel
theorem dX11_step_30 : decode cX11_step 30 = .ok (.getfield 12, 3) := by decide +kernel
theorem dX11_step_33 : decode cX11_step 33 = .ok (.iload_n 1, 1) := by decide +kernel
theorem dX11_step_34 : decode cX11_step 34 = .ok (.iload_n 2, 1) := by decide +kernel
theorem dX11_step_35 : decode cX11_step 35 = .ok (.invokevirtual 104, 3) := by decide +kernel
theorem dX11_step_38 : decode cX11_step 38 = .ok (.ifCond .ne 10, 3) := by decide +kernel
theorem dX11_step_41 : decode cX11_step 41 = .ok (.aload_n 0, 1) := by decide +kernel
theorem dX11_step_42 : decode cX11_step 42 = .ok (.bipush (-3), 2) := by decide +kernel
theorem dX11_step_44 : decode cX11_step 44 = .ok (.invokevirtual 52, 3) := by decide +kernel
theorem dX11_step_47 : decode cX11_step 47 = .ok (.ireturn, 1) := by decide +kernel
theorem dX11_step_48 : decode cX11_step 48 = .ok (.aload_n 0, 1) := by decide +kernel
theorem dX11_step_49 : decode cX11_step 49 = .ok (.getfield 12, 3) := by decide +kernel
theorem dX11_step_52 : decode cX11_step 52 = .ok (.getfield 108, 3) := by decide +kernel
theorem dX11_step_55 : decode cX11_step 55 = .ok (.aload_n 0, 1) := by decide +kernel
theorem dX11_step_56 : decode cX11_step 56 = .ok (.getfield 12, 3) := by decide +kernel
theorem dX11_step_59 : decode cX11_step 59 = .ok (.invokevirtual 112, 3) := by decide +kernel
theorem dX11_step_62 : decode cX11_step 62 = .ok (.invokevirtual 115, 3) := by decide +kernel
theorem dX11_step_65 : decode cX11_step 65 = .ok (.aload_n 0, 1) := by decide +kernel
theorem dX11_step_66 : decode cX11_step 66 = .ok (.getfield 12, 3) := by decide +kernel
theorem dX11_step_69 : decode cX11_step 69 = .ok (.iload_n 1, 1) := by decide +kernel
theorem dX11_step_70 : decode cX11_step 70 = .ok (.iload_n 2, 1) := by decide +kernel
theorem dX11_step_71 : decode cX11_step 71 = .ok (.invokevirtual 121, 3) := by decide +kernel
theorem dX11_step_74 : decode cX11_step 74 = .ok (.aload_n 0, 1) := by decide +kernel
theorem dX11_step_75 : decode cX11_step 75 = .ok (.getfield 12, 3) := by decide +kernel
theorem dX11_step_78 : decode cX11_step 78 = .ok (.getfield 81, 3) := by decide +kernel
theorem dX11_step_81 : decode cX11_step 81 = .ok (.ireturn, 1) := by decide +kernel
theorem dX11_undo_0 : decode cX11_undo 0 = .ok (.aload_n 0, 1) := by decide +kernel
theorem dX11_undo_1 : decode cX11_undo 1 = .ok (.getfield 12, 3) := by decide +kernel
theorem dX11_undo_4 : decode cX11_undo 4 = .ok (.getfield 108, 3) := by decide +kernel
theorem dX11_undo_7 : decode cX11_undo 7 = .ok (.getfield 125, 3) := by decide +kernel
theorem dX11_undo_10 : decode cX11_undo 10 = .ok (.ifCond .ne 10, 3) := by decide +kernel
theorem dX11_undo_13 : decode cX11_undo 13 = .ok (.aload_n 0, 1) := by decide +kernel
theorem dX11_undo_14 : decode cX11_undo 14 = .ok (.bipush (-3), 2) := by decide +kernel
theorem dX11_undo_16 : decode cX11_undo 16 = .ok (.invokevirtual 52, 3) := by decide +kernel
theorem dX11_undo_19 : decode cX11_undo 19 = .ok (.ireturn, 1) := by decide +kernel
theorem dX11_undo_20 : decode cX11_undo 20 = .ok (.aload_n 0, 1) := by decide +kernel
theorem dX11_undo_21 : decode cX11_undo 21 = .ok (.getfield 12, 3) := by decide +kernel
theorem dX11_undo_24 : decode cX11_undo 24 = .ok (.aload_n 0, 1) := by decide +kernel
theorem dX11_undo_25 : decode cX11_undo 25 = .ok (.getfield 12, 3) := by decide +kernel
theorem dX11_undo_28 : decode cX11_undo 28 = .ok (.getfield 108, 3) := by decide +kernel
theorem dX11_undo_31 : decode cX11_undo 31 = .ok (.invokevirtual 128, 3) := by decide +kernel
theorem dX11_undo_34 : decode cX11_undo 34 = .ok (.invokevirtual 131, 3) := by decide +kernel
theorem dX11_undo_37 : decode cX11_undo 37 = .ok (.aload_n 0, 1) := by decide +kernel
theorem dX11_undo_38 : decode cX11_undo 38 = .ok (.getfield 12, 3) := by decide +kernel
theorem dX11_undo_41 : decode cX11_undo 41 = .ok (.getfield 81, 3) := by decide +kernel
theorem dX11_undo_44 : decode cX11_undo 44 = .ok (.ireturn, 1) := by decide +kernel
theorem dX11_way_0 : decode cX11_way 0 = .ok (.aload_n 0, 1) := by decide +kernel
theorem dX11_way_1 : decode cX11_way 1 = .ok (.getfield 12, 3) := by decide +kernel
theorem dX11_way_4 : decode cX11_way 4 = .ok (.iload_n 1, 1) := by decide +kernel
theorem dX11_way_5 : decode cX11_way 5 = .ok (.invokevirtual 134, 3) := by decide +kernel
theorem dX11_way_8 : decode cX11_way 8 = .ok (.ifCond .eq 15, 3) := by decide +kernel
theorem dX11_way_11 : decode cX11_way 11 = .ok (.iload_n 2, 1) := by decide +kernel
theorem dX11_way_12 : decode cX11_way 12 = .ok (.invokestatic 137, 3) := by decide +kernel
theorem dX11_way_15 : decode cX11_way 15 = .ok (.ifCond .eq 8, 3) := by decide +kernel
theorem dX11_way_18 : decode cX11_way 18 = .ok (.iload_n 3, 1) := by decide +kernel
theorem dX11_way_19 : decode cX11_way 19 = .ok (.iconst (-1), 1) := by decide +kernel
theorem dX11_way_20 : decode cX11_way 20 = .ok (.if_icmp .ge 13, 3) := by decide +kernel
theorem dX11_way_23 : decode cX11_way 23 = .ok (.aload_n 0, 1) := by decide +kernel
theorem dX11_way_24 : decode cX11_way 24 = .ok (.bipush (-2), 2) := by decide +kernel
theorem dX11_way_26 : decode cX11_way 26 = .ok (.invokevirtual 52, 3) := by decide +kernel
theorem dX11_way_29 : decode cX11_way 29 = .ok (.pop, 1) := by decide +kernel
theorem dX11_way_30 : decode cX11_way 30 = .ok (.bipush (-10), 2) := by decide +kernel
theorem dX11_way_32 : decode cX11_way 32 = .ok (.ireturn, 1) := by decide +kernel
theorem dX11_way_33 : decode cX11_way 33 = .ok (.aload_n 0, 1) := by decide +kernel
theorem dX11_way_34 : decode cX11_way 34 = .ok (.iload_n 1, 1) := by decide +kernel
theorem dX11_way_35 : decode cX11_way 35 = .ok (.iload_n 2, 1) := by decide +kernel
theorem dX11_way_36 : decode cX11_way 36 = .ok (.invokevirtual 140, 3) := by decide +kernel
theorem dX11_way_39 : decode cX11_way 39 = .ok (.istore 4, 2) := by decide +kernel
theorem dX11_way_41 : decode cX11_way 41 = .ok (.iload 4, 2) := by decide +kernel
theorem dX11_way_43 : decode cX11_way 43 = .ok (.iconst (-1), 1) := by decide +kernel
theorem dX11_way_44 : decode cX11_way 44 = .ok (.if_icmp .eq 8, 3) := by decide +kernel
theorem dX11_way_47 : decode cX11_way 47 = .ok (.iload_n 3, 1) := by decide +kernel
theorem dX11_way_48 : decode cX11_way 48 = .ok (.iconst (-1), 1) := by decide +kernel
theorem dX11_way_49 : decode cX11_way 49 = .ok (.if_icmp .ne 6, 3) := by decide +kernel
theorem dX11_way_52 : decode cX11_way 52 = .ok (.iload 4, 2) := by decide +kernel
theorem dX11_way_54 : decode cX11_way 54 = .ok (.ireturn, 1) := by decide +kernel
theorem dX11_way_55 : decode cX11_way 55 = .ok (.iload_n 3, 1) := by decide +kernel
theorem dX11_way_56 : decode cX11_way 56 = .ok (.iload 4, 2) := by decide +kernel
theorem dX11_way_58 : decode cX11_way 58 = .ok (.if_icmp .ge 16, 3) := by decide +kernel
theorem dX11_way_61 : decode cX11_way 61 = .ok (.aload_n 0, 1) := by decide +kernel
theorem dX11_way_62 : decode cX11_way 62 = .ok (.getfield 44, 3) := by decide +kernel
theorem dX11_way_65 : decode cX11_way 65 = .ok (.iload_n 3, 1) := by decide +kernel
theorem dX11_way_66 : decode cX11_way 66 = .ok (.iload 4, 2) := by decide +kernel
theorem dX11_way_68 : decode cX11_way 68 = .ok (.invokevirtual 143, 3) := by decide +kernel
theorem dX11_way_71 : decode cX11_way 71 = .ok (.goto 5, 3) := by decide +kernel
theorem dX11_way_74 : decode cX11_way 74 = .ok (.bipush (-5), 2) := by decide +kernel
theorem dX11_way_76 : decode cX11_way 76 = .ok (.ireturn, 1) := by decide +kernel
theorem dX11_reach_0 : decode cX11_reach 0 = .ok (.iload_n 1, 1) := by decide +kernel
theorem dX11_reach_1 : decode cX11_reach 1 = .ok (.ifCond .lt 8, 3) := by decide +kernel
theorem dX11_reach_4 : decode cX11_reach 4 = .ok (.iload_n 1, 1) := by decide +kernel
theorem dX11_reach_5 : decode cX11_reach 5 = .ok (.iconst 3, 1) := by decide +kernel
theorem dX11_reach_6 : decode cX11_reach 6 = .ok (.if_icmp .le 10, 3) := by decide +kernel
theorem dX11_reach_9 : decode cX11_reach 9 = .ok (.aload_n 0, 1) := by decide +kernel
theorem dX11_reach_10 : decode cX11_reach 10 = .ok (.bipush (-2), 2) := by decide +kernel
theorem dX11_reach_12 : decode cX11_reach 12 = .ok (.invokevirtual 52, 3) := by decide +kernel
theorem dX11_reach_15 : decode cX11_reach 15 = .ok (.ireturn, 1) := by decide +kernel
theorem dX11_reach_16 : decode cX11_reach 16 = .ok (.aload_n 0, 1) := by decide +kernel
theorem dX11_reach_17 : decode cX11_reach 17 = .ok (.invokevirtual 146, 3) := by decide +kernel
theorem dX11_reach_20 : decode cX11_reach 20 = .ok (.istore_n 2, 1) := by decide +kernel
theorem dX11_reach_21 : decode cX11_reach 21 = .ok (.iload_n 1, 1) := by decide +kernel
theorem dX11_reach_22 : decode cX11_reach 22 = .ok (.tableswitch 51 0 2 #[26, 34, 39], 26) := by decide +kernel
theorem dX11_reach_48 : decode cX11_reach 48 = .ok (.aload_n 0, 1) := by decide +kernel
theorem dX11_reach_49 : decode cX11_reach 49 = .ok (.getfield 44, 3) := by decide +kernel
theorem dX11_reach_52 : decode cX11_reach 52 = .ok (.getfield 149, 3) := by decide +kernel
theorem dX11_reach_55 : decode cX11_reach 55 = .ok (.ireturn, 1) := by decide +kernel
theorem dX11_reach_56 : decode cX11_reach 56 = .ok (.iload_n 2, 1) := by decide +kernel
theorem dX11_reach_57 : decode cX11_reach 57 = .ok (.invokestatic 152, 3) := by decide +kernel
theorem dX11_reach_60 : decode cX11_reach 60 = .ok (.ireturn, 1) := by decide +kernel
theorem dX11_reach_61 : decode cX11_reach 61 = .ok (.iload_n 2, 1) := by decide +kernel
theorem dX11_reach_62 : decode cX11_reach 62 = .ok (.aload_n 0, 1) := by decide +kernel
theorem dX11_reach_63 : decode cX11_reach 63 = .ok (.getfield 12, 3) := by decide +kernel
theorem dX11_reach_66 : decode cX11_reach 66 = .ok (.invokevirtual 157, 3) := by decide +kernel
theorem dX11_reach_69 : decode cX11_reach 69 = .ok (.invokestatic 160, 3) := by decide +kernel
theorem dX11_reach_72 : decode cX11_reach 72 = .ok (.ireturn, 1) := by decide +kernel
theorem dX11_reach_73 : decode cX11_reach 73 = .ok (.aload_n 0, 1) := by decide +kernel
theorem dX11_reach_74 : decode cX11_reach 74 = .ok (.getfield 12, 3) := by decide +kernel
theorem dX11_reach_77 : decode cX11_reach 77 = .ok (.invokevirtual 157, 3) := by decide +kernel
theorem dX11_reach_80 : decode cX11_reach 80 = .ok (.iload_n 2, 1) := by decide +kernel
theorem dX11_reach_81 : decode cX11_reach 81 = .ok (.invokestatic 163, 3) := by decide +kernel
theorem dX11_reach_84 : decode cX11_reach 84 = .ok (.iconst (-1), 1) := by decide +kernel
theorem dX11_reach_85 : decode cX11_reach 85 = .ok (.ixor, 1) := by decide +kernel
theorem dX11_reach_86 : decode cX11_reach 86 = .ok (.iand, 1) := by decide +kernel
theorem dX11_reach_87 : decode cX11_reach 87 = .ok (.ireturn, 1) := by decide +kernel
theorem dX11_can_0 : decode cX11_can 0 = .ok (.aload_n 0, 1) := by decide +kernel
theorem dX11_can_1 : decode cX11_can 1 = .ok (.getfield 12, 3) := by decide +kernel
theorem dX11_can_4 : decode cX11_can 4 = .ok (.iload_n 1, 1) := by decide +kernel
theorem dX11_can_5 : decode cX11_can 5 = .ok (.invokevirtual 166, 3) := by decide +kernel
theorem dX11_can_8 : decode cX11_can 8 = .ok (.ifCond .ne 10, 3) := by decide +kernel
theorem dX11_can_11 : decode cX11_can 11 = .ok (.aload_n 0, 1) := by decide +kernel
theorem dX11_can_12 : decode cX11_can 12 = .ok (.bipush (-2), 2) := by decide +kernel
theorem dX11_can_14 : decode cX11_can 14 = .ok (.invokevirtual 52, 3) := by decide +kernel
theorem dX11_can_17 : decode cX11_can 17 = .ok (.ireturn, 1) := by decide +kernel
theorem dX11_can_18 : decode cX11_can 18 = .ok (.aload_n 0, 1) := by decide +kernel
theorem dX11_can_19 : decode cX11_can 19 = .ok (.invokevirtual 146, 3) := by decide +kernel
theorem dX11_can_22 : decode cX11_can 22 = .ok (.iload_n 1, 1) := by decide +kernel
theorem dX11_can_23 : decode cX11_can 23 = .ok (.invokestatic 169, 3) := by decide +kernel
theorem dX11_can_26 : decode cX11_can 26 = .ok (.ifCond .eq 7, 3) := by decide +kernel
theorem dX11_can_29 : decode cX11_can 29 = .ok (.iconst 1, 1) := by decide +kernel
theorem dX11_can_30 : decode cX11_can 30 = .ok (.goto 4, 3) := by decide +kernel
theorem dX11_can_33 : decode cX11_can 33 = .ok (.iconst 0, 1) := by decide +kernel
theorem dX11_can_34 : decode cX11_can 34 = .ok (.ireturn, 1) := by decide +kernel
theorem dX11_closed_0 : decode cX11_closed 0 = .ok (.iload_n 1, 1) := by decide +kernel
theorem dX11_closed_1 : decode cX11_closed 1 = .ok (.invokestatic 137, 3) := by decide +kernel
theorem dX11_closed_4 : decode cX11_closed 4 = .ok (.ifCond .ne 10, 3) := by decide +kernel
theorem dX11_closed_7 : decode cX11_closed 7 = .ok (.aload_n 0, 1) := by decide +kernel
theorem dX11_closed_8 : decode cX11_closed 8 = .ok (.bipush (-2), 2) := by decide +kernel
theorem dX11_closed_10 : decode cX11_closed 10 = .ok (.invokevirtual 52, 3) := by decide +kernel
theorem dX11_closed_13 : decode cX11_closed 13 = .ok (.ireturn, 1) := by decide +kernel
theorem dX11_closed_14 : decode cX11_closed 14 = .ok (.aload_n 0, 1) := by decide +kernel
theorem dX11_closed_15 : decode cX11_closed 15 = .ok (.invokevirtual 146, 3) := by decide +kernel
theorem dX11_closed_18 : decode cX11_closed 18 = .ok (.istore_n 2, 1) := by decide +kernel
theorem dX11_closed_19 : decode cX11_closed 19 = .ok (.aload_n 0, 1) := by decide +kernel
theorem dX11_closed_20 : decode cX11_closed 20 = .ok (.getfield 12, 3) := by decide +kernel
theorem dX11_closed_23 : decode cX11_closed 23 = .ok (.iload_n 1, 1) := by decide +kernel
theorem dX11_closed_24 : decode cX11_closed 24 = .ok (.invokevirtual 172, 3) := by decide +kernel
theorem dX11_closed_27 : decode cX11_closed 27 = .ok (.istore_n 3, 1) := by decide +kernel
theorem dX11_closed_28 : decode cX11_closed 28 = .ok (.iconst 0, 1) := by decide +kernel
theorem dX11_closed_29 : decode cX11_closed 29 = .ok (.istore 4, 2) := by decide +kernel
theorem dX11_closed_31 : decode cX11_closed 31 = .ok (.iload 4, 2) := by decide +kernel
theorem dX11_closed_33 : decode cX11_closed 33 = .ok (.aload_n 0, 1) := by decide +kernel
theorem dX11_closed_34 : decode cX11_closed 34 = .ok (.getfield 12, 3) := by decide +kernel
theorem dX11_closed_37 : decode cX11_closed 37 = .ok (.invokevirtual 157, 3) := by decide +kernel
theorem dX11_closed_40 : decode cX11_closed 40 = .ok (.if_icmp .gt 27, 3) := by decide +kernel
theorem dX11_closed_43 : decode cX11_closed 43 = .ok (.iload_n 2, 1) := by decide +kernel
theorem dX11_closed_44 : decode cX11_closed 44 = .ok (.iload 4, 2) := by decide +kernel
theorem dX11_closed_46 : decode cX11_closed 46 = .ok (.invokestatic 169, 3) := by decide +kernel
theorem dX11_closed_49 : decode cX11_closed 49 = .ok (.ifCond .eq 12, 3) := by decide +kernel
theorem dX11_closed_52 : decode cX11_closed 52 = .ok (.iload 4, 2) := by decide +kernel
theorem dX11_closed_54 : decode cX11_closed 54 = .ok (.iload_n 3, 1) := by decide +kernel
theorem dX11_closed_55 : decode cX11_closed 55 = .ok (.iand, 1) := by decide +kernel
theorem dX11_closed_56 : decode cX11_closed 56 = .ok (.ifCond .ne 5, 3) := by decide +kernel
theorem dX11_closed_59 : decode cX11_closed 59 = .ok (.iconst 1, 1) := by decide +kernel
theorem dX11_closed_60 : decode cX11_closed 60 = .ok (.ireturn, 1) := by decide +kernel
theorem dX11_closed_61 : decode cX11_closed 61 = .ok (.iinc 4 1, 3) := by decide +kernel
theorem dX11_closed_64 : decode cX11_closed 64 = .ok (.goto (-33), 3) := by decide +kernel
theorem dX11_closed_67 : decode cX11_closed 67 = .ok (.iconst 0, 1) := by decide +kernel
theorem dX11_closed_68 : decode cX11_closed 68 = .ok (.ireturn, 1) := by decide +kernel
theorem dX11_child_0 : decode cX11_child 0 = .ok (.aload_n 0, 1) := by decide +kernel
theorem dX11_child_1 : decode cX11_child 1 = .ok (.getfield 12, 3) := by decide +kernel
theorem dX11_child_4 : decode cX11_child 4 = .ok (.iload_n 1, 1) := by decide +kernel
theorem dX11_child_5 : decode cX11_child 5 = .ok (.invokevirtual 74, 3) := by decide +kernel
theorem dX11_child_8 : decode cX11_child 8 = .ok (.ifCond .ne 10, 3) := by decide +kernel
theorem dX11_child_11 : decode cX11_child 11 = .ok (.aload_n 0, 1) := by decide +kernel
theorem dX11_child_12 : decode cX11_child 12 = .ok (.bipush (-2), 2) := by decide +kernel
theorem dX11_child_14 : decode cX11_child 14 = .ok (.invokevirtual 52, 3) := by decide +kernel
theorem dX11_child_17 : decode cX11_child 17 = .ok (.ireturn, 1) := by decide +kernel
theorem dX11_child_18 : decode cX11_child 18 = .ok (.aload_n 0, 1) := by decide +kernel
theorem dX11_child_19 : decode cX11_child 19 = .ok (.invokevirtual 146, 3) := by decide +kernel
theorem dX11_child_22 : decode cX11_child 22 = .ok (.istore_n 2, 1) := by decide +kernel
theorem dX11_child_23 : decode cX11_child 23 = .ok (.aload_n 0, 1) := by decide +kernel
theorem dX11_child_24 : decode cX11_child 24 = .ok (.getfield 16, 3) := by decide +kernel
theorem dX11_child_27 : decode cX11_child 27 = .ok (.aload_n 0, 1) := by decide +kernel
theorem dX11_child_28 : decode cX11_child 28 = .ok (.getfield 12, 3) := by decide +kernel
theorem dX11_child_31 : decode cX11_child 31 = .ok (.invokevirtual 97, 3) := by decide +kernel
theorem dX11_child_34 : decode cX11_child 34 = .ok (.aload_n 0, 1) := by decide +kernel
theorem dX11_child_35 : decode cX11_child 35 = .ok (.getfield 16, 3) := by decide +kernel
theorem dX11_child_38 : decode cX11_child 38 = .ok (.iload_n 1, 1) := by decide +kernel
theorem dX11_child_39 : decode cX11_child 39 = .ok (.invokevirtual 175, 3) := by decide +kernel
theorem dX11_child_42 : decode cX11_child 42 = .ok (.aload_n 0, 1) := by decide +kernel
theorem dX11_child_43 : decode cX11_child 43 = .ok (.getfield 44, 3) := by decide +kernel
theorem dX11_child_46 : decode cX11_child 46 = .ok (.aload_n 0, 1) := by decide +kernel
theorem dX11_child_47 : decode cX11_child 47 = .ok (.getfield 16, 3) := by decide +kernel
theorem dX11_child_50 : decode cX11_child 50 = .ok (.iconst 0, 1) := by decide +kernel
theorem dX11_child_51 : decode cX11_child 51 = .ok (.iconst (-1), 1) := by decide +kernel
theorem dX11_child_52 : decode cX11_child 52 = .ok (.iconst (-1), 1) := by decide +kernel
theorem dX11_child_53 : decode cX11_child 53 = .ok (.invokevirtual 178, 3) := by decide +kernel
theorem dX11_child_56 : decode cX11_child 56 = .ok (.pop, 1) := by decide +kernel
theorem dX11_child_57 : decode cX11_child 57 = .ok (.iload_n 2, 1) := by decide +kernel
theorem dX11_child_58 : decode cX11_child 58 = .ok (.aload_n 0, 1) := by decide +kernel
theorem dX11_child_59 : decode cX11_child 59 = .ok (.getfield 44, 3) := by decide +kernel
theorem dX11_child_62 : decode cX11_child 62 = .ok (.getfield 182, 3) := by decide +kernel
theorem dX11_child_65 : decode cX11_child 65 = .ok (.iconst (-1), 1) := by decide +kernel
theorem dX11_child_66 : decode cX11_child 66 = .ok (.ixor, 1) := by decide +kernel
theorem dX11_child_67 : decode cX11_child 67 = .ok (.iand, 1) := by decide +kernel
theorem dX11_child_68 : decode cX11_child 68 = .ok (.invokestatic 152, 3) := by decide +kernel
theorem dX11_child_71 : decode cX11_child 71 = .ok (.ireturn, 1) := by decide +kernel
theorem dX11_cut_0 : decode cX11_cut 0 = .ok (.aload_n 0, 1) := by decide +kernel
theorem dX11_cut_1 : decode cX11_cut 1 = .ok (.getfield 12, 3) := by decide +kernel
theorem dX11_cut_4 : decode cX11_cut 4 = .ok (.iload_n 1, 1) := by decide +kernel
theorem dX11_cut_5 : decode cX11_cut 5 = .ok (.invokevirtual 134, 3) := by decide +kernel
theorem dX11_cut_8 : decode cX11_cut 8 = .ok (.ifCond .eq 10, 3) := by decide +kernel
theorem dX11_cut_11 : decode cX11_cut 11 = .ok (.iload_n 2, 1) := by decide +kernel
theorem dX11_cut_12 : decode cX11_cut 12 = .ok (.invokestatic 137, 3) := by decide +kernel
theorem dX11_cut_15 : decode cX11_cut 15 = .ok (.ifCond .ne 10, 3) := by decide +kernel
theorem dX11_cut_18 : decode cX11_cut 18 = .ok (.aload_n 0, 1) := by decide +kernel
theorem dX11_cut_19 : decode cX11_cut 19 = .ok (.bipush (-2), 2) := by decide +kernel
theorem dX11_cut_21 : decode cX11_cut 21 = .ok (.invokevirtual 52, 3) := by decide +kernel
theorem dX11_cut_24 : decode cX11_cut 24 = .ok (.ireturn, 1) := by decide +kernel
theorem dX11_cut_25 : decode cX11_cut 25 = .ok (.aload_n 0, 1) := by decide +kernel
theorem dX11_cut_26 : decode cX11_cut 26 = .ok (.iload_n 1, 1) := by decide +kernel
theorem dX11_cut_27 : decode cX11_cut 27 = .ok (.iload_n 2, 1) := by decide +kernel
theorem dX11_cut_28 : decode cX11_cut 28 = .ok (.invokevirtual 140, 3) := by decide +kernel
theorem dX11_cut_31 : decode cX11_cut 31 = .ok (.istore_n 3, 1) := by decide +kernel
theorem dX11_cut_32 : decode cX11_cut 32 = .ok (.iconst (-1), 1) := by decide +kernel
theorem dX11_cut_33 : decode cX11_cut 33 = .ok (.istore 4, 2) := by decide +kernel
theorem dX11_cut_35 : decode cX11_cut 35 = .ok (.iconst 0, 1) := by decide +kernel
theorem dX11_cut_36 : decode cX11_cut 36 = .ok (.istore 5, 2) := by decide +kernel
theorem dX11_cut_38 : decode cX11_cut 38 = .ok (.iload 5, 2) := by decide +kernel
theorem dX11_cut_40 : decode cX11_cut 40 = .ok (.aload_n 0, 1) := by decide +kernel
theorem dX11_cut_41 : decode cX11_cut 41 = .ok (.getfield 12, 3) := by decide +kernel
theorem dX11_cut_44 : decode cX11_cut 44 = .ok (.getfield 185, 3) := by decide +kernel
theorem dX11_cut_47 : decode cX11_cut 47 = .ok (.if_icmp .ge 58, 3) := by decide +kernel
theorem dX11_cut_50 : decode cX11_cut 50 = .ok (.aload_n 0, 1) := by decide +kernel
theorem dX11_cut_51 : decode cX11_cut 51 = .ok (.getfield 16, 3) := by decide +kernel
theorem dX11_cut_54 : decode cX11_cut 54 = .ok (.aload_n 0, 1) := by decide +kernel
theorem dX11_cut_55 : decode cX11_cut 55 = .ok (.getfield 12, 3) := by decide +kernel
theorem dX11_cut_58 : decode cX11_cut 58 = .ok (.invokevirtual 97, 3) := by decide +kernel
theorem dX11_cut_61 : decode cX11_cut 61 = .ok (.aload_n 0, 1) := by decide +kernel
theorem dX11_cut_62 : decode cX11_cut 62 = .ok (.getfield 16, 3) := by decide +kernel
theorem dX11_cut_65 : decode cX11_cut 65 = .ok (.iload 5, 2) := by decide +kernel
theorem dX11_cut_67 : decode cX11_cut 67 = .ok (.invokevirtual 188, 3) := by decide +kernel
theorem dX11_cut_70 : decode cX11_cut 70 = .ok (.aload_n 0, 1) := by decide +kernel
theorem dX11_cut_71 : decode cX11_cut 71 = .ok (.getfield 44, 3) := by decide +kernel
theorem dX11_cut_74 : decode cX11_cut 74 = .ok (.aload_n 0, 1) := by decide +kernel
theorem dX11_cut_75 : decode cX11_cut 75 = .ok (.getfield 16, 3) := by decide +kernel
theorem dX11_cut_78 : decode cX11_cut 78 = .ok (.iload_n 1, 1) := by decide +kernel
theorem dX11_cut_79 : decode cX11_cut 79 = .ok (.iload_n 2, 1) := by decide +kernel
theorem dX11_cut_80 : decode cX11_cut 80 = .ok (.iload_n 3, 1) := by decide +kernel
theorem dX11_cut_81 : decode cX11_cut 81 = .ok (.invokevirtual 178, 3) := by decide +kernel
theorem dX11_cut_84 : decode cX11_cut 84 = .ok (.istore 6, 2) := by decide +kernel
theorem dX11_cut_86 : decode cX11_cut 86 = .ok (.iload 6, 2) := by decide +kernel
theorem dX11_cut_88 : decode cX11_cut 88 = .ok (.iconst (-1), 1) := by decide +kernel
theorem dX11_cut_89 : decode cX11_cut 89 = .ok (.if_icmp .eq 10, 3) := by decide +kernel
theorem dX11_cut_92 : decode cX11_cut 92 = .ok (.iload 6, 2) := by decide +kernel
theorem dX11_cut_94 : decode cX11_cut 94 = .ok (.istore_n 3, 1) := by decide +kernel
theorem dX11_cut_95 : decode cX11_cut 95 = .ok (.iload 5, 2) := by decide +kernel
theorem dX11_cut_97 : decode cX11_cut 97 = .ok (.istore 4, 2) := by decide +kernel
theorem dX11_cut_99 : decode cX11_cut 99 = .ok (.iinc 5 1, 3) := by decide +kernel
theorem dX11_cut_102 : decode cX11_cut 102 = .ok (.goto (-64), 3) := by decide +kernel
theorem dX11_cut_105 : decode cX11_cut 105 = .ok (.iload 4, 2) := by decide +kernel
theorem dX11_cut_107 : decode cX11_cut 107 = .ok (.ireturn, 1) := by decide +kernel
theorem dX11_tie_0 : decode cX11_tie 0 = .ok (.aload_n 0, 1) := by decide +kernel
theorem dX11_tie_1 : decode cX11_tie 1 = .ok (.getfield 12, 3) := by decide +kernel
theorem dX11_tie_4 : decode cX11_tie 4 = .ok (.iload_n 1, 1) := by decide +kernel
theorem dX11_tie_5 : decode cX11_tie 5 = .ok (.invokevirtual 134, 3) := by decide +kernel
theorem dX11_tie_8 : decode cX11_tie 8 = .ok (.ifCond .eq 10, 3) := by decide +kernel
theorem dX11_tie_11 : decode cX11_tie 11 = .ok (.iload_n 2, 1) := by decide +kernel
theorem dX11_tie_12 : decode cX11_tie 12 = .ok (.invokestatic 137, 3) := by decide +kernel
theorem dX11_tie_15 : decode cX11_tie 15 = .ok (.ifCond .ne 10, 3) := by decide +kernel
theorem dX11_tie_18 : decode cX11_tie 18 = .ok (.aload_n 0, 1) := by decide +kernel
theorem dX11_tie_19 : decode cX11_tie 19 = .ok (.bipush (-2), 2) := by decide +kernel
theorem dX11_tie_21 : decode cX11_tie 21 = .ok (.invokevirtual 52, 3) := by decide +kernel
theorem dX11_tie_24 : decode cX11_tie 24 = .ok (.ireturn, 1) := by decide +kernel
theorem dX11_tie_25 : decode cX11_tie 25 = .ok (.aload_n 0, 1) := by decide +kernel
theorem dX11_tie_26 : decode cX11_tie 26 = .ok (.iload_n 1, 1) := by decide +kernel
theorem dX11_tie_27 : decode cX11_tie 27 = .ok (.iload_n 2, 1) := by decide +kernel
theorem dX11_tie_28 : decode cX11_tie 28 = .ok (.invokevirtual 140, 3) := by decide +kernel
theorem dX11_tie_31 : decode cX11_tie 31 = .ok (.istore_n 3, 1) := by decide +kernel
theorem dX11_tie_32 : decode cX11_tie 32 = .ok (.iconst (-1), 1) := by decide +kernel
theorem dX11_tie_33 : decode cX11_tie 33 = .ok (.istore 4, 2) := by decide +kernel
theorem dX11_tie_35 : decode cX11_tie 35 = .ok (.iconst 0, 1) := by decide +kernel
theorem dX11_tie_36 : decode cX11_tie 36 = .ok (.istore 5, 2) := by decide +kernel
theorem dX11_tie_38 : decode cX11_tie 38 = .ok (.iload 5, 2) := by decide +kernel
theorem dX11_tie_40 : decode cX11_tie 40 = .ok (.aload_n 0, 1) := by decide +kernel
theorem dX11_tie_41 : decode cX11_tie 41 = .ok (.getfield 12, 3) := by decide +kernel
theorem dX11_tie_44 : decode cX11_tie 44 = .ok (.getfield 191, 3) := by decide +kernel
theorem dX11_tie_47 : decode cX11_tie 47 = .ok (.if_icmp .ge 110, 3) := by decide +kernel
theorem dX11_tie_50 : decode cX11_tie 50 = .ok (.iload 5, 2) := by decide +kernel
theorem dX11_tie_52 : decode cX11_tie 52 = .ok (.iconst 1, 1) := by decide +kernel
theorem dX11_tie_53 : decode cX11_tie 53 = .ok (.iadd, 1) := by decide +kernel
theorem dX11_tie_54 : decode cX11_tie 54 = .ok (.istore 6, 2) := by decide +kernel
theorem dX11_tie_56 : decode cX11_tie 56 = .ok (.iload 6, 2) := by decide +kernel
theorem dX11_tie_58 : decode cX11_tie 58 = .ok (.aload_n 0, 1) := by decide +kernel
theorem dX11_tie_59 : decode cX11_tie 59 = .ok (.getfield 12, 3) := by decide +kernel
theorem dX11_tie_62 : decode cX11_tie 62 = .ok (.getfield 191, 3) := by decide +kernel
theorem dX11_tie_65 : decode cX11_tie 65 = .ok (.if_icmp .ge 86, 3) := by decide +kernel
theorem dX11_tie_68 : decode cX11_tie 68 = .ok (.aload_n 0, 1) := by decide +kernel
theorem dX11_tie_69 : decode cX11_tie 69 = .ok (.getfield 16, 3) := by decide +kernel
theorem dX11_tie_72 : decode cX11_tie 72 = .ok (.aload_n 0, 1) := by decide +kernel
theorem dX11_tie_73 : decode cX11_tie 73 = .ok (.getfield 12, 3) := by decide +kernel
theorem dX11_tie_76 : decode cX11_tie 76 = .ok (.invokevirtual 97, 3) := by decide +kernel
theorem dX11_tie_79 : decode cX11_tie 79 = .ok (.aload_n 0, 1) := by decide +kernel
theorem dX11_tie_80 : decode cX11_tie 80 = .ok (.getfield 16, 3) := by decide +kernel
theorem dX11_tie_83 : decode cX11_tie 83 = .ok (.iload 5, 2) := by decide +kernel
theorem dX11_tie_85 : decode cX11_tie 85 = .ok (.iload 6, 2) := by decide +kernel
theorem dX11_tie_87 : decode cX11_tie 87 = .ok (.iconst 0, 1) := by decide +kernel
theorem dX11_tie_88 : decode cX11_tie 88 = .ok (.invokevirtual 56, 3) := by decide +kernel
theorem dX11_tie_91 : decode cX11_tie 91 = .ok (.ifCond .lt 7, 3) := by decide +kernel
theorem dX11_tie_94 : decode cX11_tie 94 = .ok (.iconst 1, 1) := by decide +kernel
theorem dX11_tie_95 : decode cX11_tie 95 = .ok (.goto 4, 3) := by decide +kernel
theorem dX11_tie_98 : decode cX11_tie 98 = .ok (.iconst 0, 1) := by decide +kernel
theorem dX11_tie_99 : decode cX11_tie 99 = .ok (.istore 7, 2) := by decide +kernel
theorem dX11_tie_101 : decode cX11_tie 101 = .ok (.iload 7, 2) := by decide +kernel
theorem dX11_tie_103 : decode cX11_tie 103 = .ok (.ifCond .eq 20, 3) := by decide +kernel
theorem dX11_tie_106 : decode cX11_tie 106 = .ok (.aload_n 0, 1) := by decide +kernel
theorem dX11_tie_107 : decode cX11_tie 107 = .ok (.getfield 44, 3) := by decide +kernel
theorem dX11_tie_110 : decode cX11_tie 110 = .ok (.aload_n 0, 1) := by decide +kernel
theorem dX11_tie_111 : decode cX11_tie 111 = .ok (.getfield 16, 3) := by decide +kernel
theorem dX11_tie_114 : decode cX11_tie 114 = .ok (.iload_n 1, 1) := by decide +kernel
theorem dX11_tie_115 : decode cX11_tie 115 = .ok (.iload_n 2, 1) := by decide +kernel
theorem dX11_tie_116 : decode cX11_tie 116 = .ok (.iload_n 3, 1) := by decide +kernel
theorem dX11_tie_117 : decode cX11_tie 117 = .ok (.invokevirtual 178, 3) := by decide +kernel
theorem dX11_tie_120 : decode cX11_tie 120 = .ok (.goto 4, 3) := by decide +kernel
theorem dX11_tie_123 : decode cX11_tie 123 = .ok (.iconst (-1), 1) := by decide +kernel
theorem dX11_tie_124 : decode cX11_tie 124 = .ok (.istore 8, 2) := by decide +kernel
theorem dX11_tie_126 : decode cX11_tie 126 = .ok (.iload 8, 2) := by decide +kernel
theorem dX11_tie_128 : decode cX11_tie 128 = .ok (.iconst (-1), 1) := by decide +kernel
theorem dX11_tie_129 : decode cX11_tie 129 = .ok (.if_icmp .eq 16, 3) := by decide +kernel
theorem dX11_tie_132 : decode cX11_tie 132 = .ok (.iload 8, 2) := by decide +kernel
theorem dX11_tie_134 : decode cX11_tie 134 = .ok (.istore_n 3, 1) := by decide +kernel
theorem dX11_tie_135 : decode cX11_tie 135 = .ok (.bipush 10, 2) := by decide +kernel
theorem dX11_tie_137 : decode cX11_tie 137 = .ok (.iload 5, 2) := by decide +kernel
theorem dX11_tie_139 : decode cX11_tie 139 = .ok (.imul, 1) := by decide +kernel
theorem dX11_tie_140 : decode cX11_tie 140 = .ok (.iload 6, 2) := by decide +kernel
theorem dX11_tie_142 : decode cX11_tie 142 = .ok (.iadd, 1) := by decide +kernel
theorem dX11_tie_143 : decode cX11_tie 143 = .ok (.istore 4, 2) := by decide +kernel
theorem dX11_tie_145 : decode cX11_tie 145 = .ok (.iinc 6 1, 3) := by decide +kernel
theorem dX11_tie_148 : decode cX11_tie 148 = .ok (.goto (-92), 3) := by decide +kernel
theorem dX11_tie_151 : decode cX11_tie 151 = .ok (.iinc 5 1, 3) := by decide +kernel
theorem dX11_tie_154 : decode cX11_tie 154 = .ok (.goto (-116), 3) := by decide +kernel
theorem dX11_tie_157 : decode cX11_tie 157 = .ok (.iload 4, 2) := by decide +kernel
theorem dX11_tie_159 : decode cX11_tie 159 = .ok (.ireturn, 1) := by decide +kernel
theorem dX11_stone_0 : decode cX11_stone 0 = .ok (.aload_n 0, 1) := by decide +kernel
theorem dX11_stone_1 : decode cX11_stone 1 = .ok (.getfield 12, 3) := by decide +kernel
theorem dX11_stone_4 : decode cX11_stone 4 = .ok (.iload_n 1, 1) := by decide +kernel
theorem dX11_stone_5 : decode cX11_stone 5 = .ok (.invokevirtual 134, 3) := by decide +kernel
theorem dX11_stone_8 : decode cX11_stone 8 = .ok (.ifCond .eq 17, 3) := by decide +kernel
theorem dX11_stone_11 : decode cX11_stone 11 = .ok (.iload_n 2, 1) := by decide +kernel
theorem dX11_stone_12 : decode cX11_stone 12 = .ok (.invokestatic 137, 3) := by decide +kernel
theorem dX11_stone_15 : decode cX11_stone 15 = .ok (.ifCond .eq 10, 3) := by decide +kernel
theorem dX11_stone_18 : decode cX11_stone 18 = .ok (.iload_n 3, 1) := by decide +kernel
theorem dX11_stone_19 : decode cX11_stone 19 = .ok (.invokestatic 194, 3) := by decide +kernel
theorem dX11_stone_22 : decode cX11_stone 22 = .ok (.ifCond .ne 10, 3) := by decide +kernel
theorem dX11_stone_25 : decode cX11_stone 25 = .ok (.aload_n 0, 1) := by decide +kernel
theorem dX11_stone_26 : decode cX11_stone 26 = .ok (.bipush (-2), 2) := by decide +kernel
theorem dX11_stone_28 : decode cX11_stone 28 = .ok (.invokevirtual 52, 3) := by decide +kernel
theorem dX11_stone_31 : decode cX11_stone 31 = .ok (.ireturn, 1) := by decide +kernel
theorem dX11_stone_32 : decode cX11_stone 32 = .ok (.aload_n 0, 1) := by decide +kernel
theorem dX11_stone_33 : decode cX11_stone 33 = .ok (.iload_n 1, 1) := by decide +kernel
theorem dX11_stone_34 : decode cX11_stone 34 = .ok (.iload_n 2, 1) := by decide +kernel
theorem dX11_stone_35 : decode cX11_stone 35 = .ok (.invokevirtual 140, 3) := by decide +kernel
theorem dX11_stone_38 : decode cX11_stone 38 = .ok (.istore 4, 2) := by decide +kernel
theorem dX11_stone_40 : decode cX11_stone 40 = .ok (.iconst (-1), 1) := by decide +kernel
theorem dX11_stone_41 : decode cX11_stone 41 = .ok (.istore 5, 2) := by decide +kernel
theorem dX11_stone_43 : decode cX11_stone 43 = .ok (.iconst 0, 1) := by decide +kernel
theorem dX11_stone_44 : decode cX11_stone 44 = .ok (.istore 6, 2) := by decide +kernel
theorem dX11_stone_46 : decode cX11_stone 46 = .ok (.iload 6, 2) := by decide +kernel
theorem dX11_stone_48 : decode cX11_stone 48 = .ok (.aload_n 0, 1) := by decide +kernel
theorem dX11_stone_49 : decode cX11_stone 49 = .ok (.getfield 12, 3) := by decide +kernel
theorem dX11_stone_52 : decode cX11_stone 52 = .ok (.getfield 191, 3) := by decide +kernel
theorem dX11_stone_55 : decode cX11_stone 55 = .ok (.if_icmp .ge 63, 3) := by decide +kernel
theorem dX11_stone_58 : decode cX11_stone 58 = .ok (.aload_n 0, 1) := by decide +kernel
theorem dX11_stone_59 : decode cX11_stone 59 = .ok (.getfield 16, 3) := by decide +kernel
theorem dX11_stone_62 : decode cX11_stone 62 = .ok (.aload_n 0, 1) := by decide +kernel
theorem dX11_stone_63 : decode cX11_stone 63 = .ok (.getfield 12, 3) := by decide +kernel
theorem dX11_stone_66 : decode cX11_stone 66 = .ok (.invokevirtual 97, 3) := by decide +kernel
theorem dX11_stone_69 : decode cX11_stone 69 = .ok (.aload_n 0, 1) := by decide +kernel
theorem dX11_stone_70 : decode cX11_stone 70 = .ok (.getfield 16, 3) := by decide +kernel
theorem dX11_stone_73 : decode cX11_stone 73 = .ok (.iconst 1, 1) := by decide +kernel
theorem dX11_stone_74 : decode cX11_stone 74 = .ok (.iload 6, 2) := by decide +kernel
theorem dX11_stone_76 : decode cX11_stone 76 = .ok (.ishl, 1) := by decide +kernel
theorem dX11_stone_77 : decode cX11_stone 77 = .ok (.iload_n 3, 1) := by decide +kernel
theorem dX11_stone_78 : decode cX11_stone 78 = .ok (.invokevirtual 197, 3) := by decide +kernel
theorem dX11_stone_81 : decode cX11_stone 81 = .ok (.aload_n 0, 1) := by decide +kernel
theorem dX11_stone_82 : decode cX11_stone 82 = .ok (.getfield 44, 3) := by decide +kernel
theorem dX11_stone_85 : decode cX11_stone 85 = .ok (.aload_n 0, 1) := by decide +kernel
theorem dX11_stone_86 : decode cX11_stone 86 = .ok (.getfield 16, 3) := by decide +kernel
theorem dX11_stone_89 : decode cX11_stone 89 = .ok (.iload_n 1, 1) := by decide +kernel
theorem dX11_stone_90 : decode cX11_stone 90 = .ok (.iload_n 2, 1) := by decide +kernel
theorem dX11_stone_91 : decode cX11_stone 91 = .ok (.iload 4, 2) := by decide +kernel
theorem dX11_stone_93 : decode cX11_stone 93 = .ok (.invokevirtual 178, 3) := by decide +kernel
theorem dX11_stone_96 : decode cX11_stone 96 = .ok (.istore 7, 2) := by decide +kernel
theorem dX11_stone_98 : decode cX11_stone 98 = .ok (.iload 7, 2) := by decide +kernel
theorem dX11_stone_100 : decode cX11_stone 100 = .ok (.iconst (-1), 1) := by decide +kernel
theorem dX11_stone_101 : decode cX11_stone 101 = .ok (.if_icmp .eq 11, 3) := by decide +kernel
theorem dX11_stone_104 : decode cX11_stone 104 = .ok (.iload 7, 2) := by decide +kernel
theorem dX11_stone_106 : decode cX11_stone 106 = .ok (.istore 4, 2) := by decide +kernel
theorem dX11_stone_108 : decode cX11_stone 108 = .ok (.iload 6, 2) := by decide +kernel
theorem dX11_stone_110 : decode cX11_stone 110 = .ok (.istore 5, 2) := by decide +kernel
theorem dX11_stone_112 : decode cX11_stone 112 = .ok (.iinc 6 1, 3) := by decide +kernel
theorem dX11_stone_115 : decode cX11_stone 115 = .ok (.goto (-69), 3) := by decide +kernel
theorem dX11_stone_118 : decode cX11_stone 118 = .ok (.iload 5, 2) := by decide +kernel
theorem dX11_stone_120 : decode cX11_stone 120 = .ok (.ireturn, 1) := by decide +kernel
theorem dX11_keep_0 : decode cX11_keep 0 = .ok (.aload_n 0, 1) := by decide +kernel
theorem dX11_keep_1 : decode cX11_keep 1 = .ok (.getfield 12, 3) := by decide +kernel
theorem dX11_keep_4 : decode cX11_keep 4 = .ok (.iload_n 1, 1) := by decide +kernel
theorem dX11_keep_5 : decode cX11_keep 5 = .ok (.invokevirtual 74, 3) := by decide +kernel
theorem dX11_keep_8 : decode cX11_keep 8 = .ok (.ifCond .eq 17, 3) := by decide +kernel
theorem dX11_keep_11 : decode cX11_keep 11 = .ok (.iload_n 2, 1) := by decide +kernel
theorem dX11_keep_12 : decode cX11_keep 12 = .ok (.invokestatic 137, 3) := by decide +kernel
theorem dX11_keep_15 : decode cX11_keep 15 = .ok (.ifCond .eq 10, 3) := by decide +kernel
theorem dX11_keep_18 : decode cX11_keep 18 = .ok (.iload_n 3, 1) := by decide +kernel
theorem dX11_keep_19 : decode cX11_keep 19 = .ok (.invokestatic 194, 3) := by decide +kernel
theorem dX11_keep_22 : decode cX11_keep 22 = .ok (.ifCond .ne 10, 3) := by decide +kernel
theorem dX11_keep_25 : decode cX11_keep 25 = .ok (.aload_n 0, 1) := by decide +kernel
theorem dX11_keep_26 : decode cX11_keep 26 = .ok (.bipush (-2), 2) := by decide +kernel
theorem dX11_keep_28 : decode cX11_keep 28 = .ok (.invokevirtual 52, 3) := by decide +kernel
theorem dX11_keep_31 : decode cX11_keep 31 = .ok (.ireturn, 1) := by decide +kernel
theorem dX11_keep_32 : decode cX11_keep 32 = .ok (.iconst 0, 1) := by decide +kernel
theorem dX11_keep_33 : decode cX11_keep 33 = .ok (.istore 4, 2) := by decide +kernel
theorem dX11_keep_35 : decode cX11_keep 35 = .ok (.iload 4, 2) := by decide +kernel
theorem dX11_keep_37 : decode cX11_keep 37 = .ok (.aload_n 0, 1) := by decide +kernel
theorem dX11_keep_38 : decode cX11_keep 38 = .ok (.getfield 12, 3) := by decide +kernel
theorem dX11_keep_41 : decode cX11_keep 41 = .ok (.getfield 191, 3) := by decide +kernel
theorem dX11_keep_44 : decode cX11_keep 44 = .ok (.if_icmp .gt 90, 3) := by decide +kernel
theorem dX11_keep_47 : decode cX11_keep 47 = .ok (.iconst 0, 1) := by decide +kernel
theorem dX11_keep_48 : decode cX11_keep 48 = .ok (.istore 5, 2) := by decide +kernel
theorem dX11_keep_50 : decode cX11_keep 50 = .ok (.iload 5, 2) := by decide +kernel
theorem dX11_keep_52 : decode cX11_keep 52 = .ok (.aload_n 0, 1) := by decide +kernel
theorem dX11_keep_53 : decode cX11_keep 53 = .ok (.getfield 12, 3) := by decide +kernel
theorem dX11_keep_56 : decode cX11_keep 56 = .ok (.invokevirtual 157, 3) := by decide +kernel
theorem dX11_keep_59 : decode cX11_keep 59 = .ok (.if_icmp .gt 69, 3) := by decide +kernel
theorem dX11_keep_62 : decode cX11_keep 62 = .ok (.iload 5, 2) := by decide +kernel
theorem dX11_keep_64 : decode cX11_keep 64 = .ok (.invokestatic 152, 3) := by decide +kernel
theorem dX11_keep_67 : decode cX11_keep 67 = .ok (.iload 4, 2) := by decide +kernel
theorem dX11_keep_69 : decode cX11_keep 69 = .ok (.if_icmp .ne 53, 3) := by decide +kernel
theorem dX11_keep_72 : decode cX11_keep 72 = .ok (.aload_n 0, 1) := by decide +kernel
theorem dX11_keep_73 : decode cX11_keep 73 = .ok (.getfield 16, 3) := by decide +kernel
theorem dX11_keep_76 : decode cX11_keep 76 = .ok (.aload_n 0, 1) := by decide +kernel
theorem dX11_keep_77 : decode cX11_keep 77 = .ok (.getfield 12, 3) := by decide +kernel
theorem dX11_keep_80 : decode cX11_keep 80 = .ok (.invokevirtual 97, 3) := by decide +kernel
theorem dX11_keep_83 : decode cX11_keep 83 = .ok (.aload_n 0, 1) := by decide +kernel
theorem dX11_keep_84 : decode cX11_keep 84 = .ok (.getfield 16, 3) := by decide +kernel
theorem dX11_keep_87 : decode cX11_keep 87 = .ok (.iload_n 1, 1) := by decide +kernel
theorem dX11_keep_88 : decode cX11_keep 88 = .ok (.invokevirtual 200, 3) := by decide +kernel
theorem dX11_keep_91 : decode cX11_keep 91 = .ok (.aload_n 0, 1) := by decide +kernel
theorem dX11_keep_92 : decode cX11_keep 92 = .ok (.getfield 16, 3) := by decide +kernel
theorem dX11_keep_95 : decode cX11_keep 95 = .ok (.iload 5, 2) := by decide +kernel
theorem dX11_keep_97 : decode cX11_keep 97 = .ok (.iload_n 3, 1) := by decide +kernel
theorem dX11_keep_98 : decode cX11_keep 98 = .ok (.invokevirtual 197, 3) := by decide +kernel
theorem dX11_keep_101 : decode cX11_keep 101 = .ok (.aload_n 0, 1) := by decide +kernel
theorem dX11_keep_102 : decode cX11_keep 102 = .ok (.getfield 44, 3) := by decide +kernel
theorem dX11_keep_105 : decode cX11_keep 105 = .ok (.aload_n 0, 1) := by decide +kernel
theorem dX11_keep_106 : decode cX11_keep 106 = .ok (.getfield 16, 3) := by decide +kernel
theorem dX11_keep_109 : decode cX11_keep 109 = .ok (.iconst 1, 1) := by decide +kernel
theorem dX11_keep_110 : decode cX11_keep 110 = .ok (.iload_n 2, 1) := by decide +kernel
theorem dX11_keep_111 : decode cX11_keep 111 = .ok (.iconst (-1), 1) := by decide +kernel
theorem dX11_keep_112 : decode cX11_keep 112 = .ok (.invokevirtual 178, 3) := by decide +kernel
theorem dX11_keep_115 : decode cX11_keep 115 = .ok (.iconst (-1), 1) := by decide +kernel
theorem dX11_keep_116 : decode cX11_keep 116 = .ok (.if_icmp .ne 6, 3) := by decide +kernel
theorem dX11_keep_119 : decode cX11_keep 119 = .ok (.iload 5, 2) := by decide +kernel
theorem dX11_keep_121 : decode cX11_keep 121 = .ok (.ireturn, 1) := by decide +kernel
theorem dX11_keep_122 : decode cX11_keep 122 = .ok (.iinc 5 1, 3) := by decide +kernel
theorem dX11_keep_125 : decode cX11_keep 125 = .ok (.goto (-75), 3) := by decide +kernel
theorem dX11_keep_128 : decode cX11_keep 128 = .ok (.iinc 4 1, 3) := by decide +kernel
theorem dX11_keep_131 : decode cX11_keep 131 = .ok (.goto (-96), 3) := by decide +kernel
theorem dX11_keep_134 : decode cX11_keep 134 = .ok (.iconst (-1), 1) := by decide +kernel
theorem dX11_keep_135 : decode cX11_keep 135 = .ok (.ireturn, 1) := by decide +kernel
theorem dX11_wet_0 : decode cX11_wet 0 = .ok (.aload_n 0, 1) := by decide +kernel
theorem dX11_wet_1 : decode cX11_wet 1 = .ok (.getfield 12, 3) := by decide +kernel
theorem dX11_wet_4 : decode cX11_wet 4 = .ok (.iload_n 1, 1) := by decide +kernel
theorem dX11_wet_5 : decode cX11_wet 5 = .ok (.invokevirtual 74, 3) := by decide +kernel
theorem dX11_wet_8 : decode cX11_wet 8 = .ok (.ifCond .eq 30, 3) := by decide +kernel
theorem dX11_wet_11 : decode cX11_wet 11 = .ok (.aload_n 0, 1) := by decide +kernel
theorem dX11_wet_12 : decode cX11_wet 12 = .ok (.getfield 12, 3) := by decide +kernel
theorem dX11_wet_15 : decode cX11_wet 15 = .ok (.iload_n 3, 1) := by decide +kernel
theorem dX11_wet_16 : decode cX11_wet 16 = .ok (.invokevirtual 101, 3) := by decide +kernel
theorem dX11_wet_19 : decode cX11_wet 19 = .ok (.ifCond .eq 19, 3) := by decide +kernel
theorem dX11_wet_22 : decode cX11_wet 22 = .ok (.aload_n 0, 1) := by decide +kernel
theorem dX11_wet_23 : decode cX11_wet 23 = .ok (.getfield 12, 3) := by decide +kernel
theorem dX11_wet_26 : decode cX11_wet 26 = .ok (.iload 4, 2) := by decide +kernel
theorem dX11_wet_28 : decode cX11_wet 28 = .ok (.invokevirtual 166, 3) := by decide +kernel
theorem dX11_wet_31 : decode cX11_wet 31 = .ok (.ifCond .eq 7, 3) := by decide +kernel
theorem dX11_wet_34 : decode cX11_wet 34 = .ok (.iconst 1, 1) := by decide +kernel
theorem dX11_wet_35 : decode cX11_wet 35 = .ok (.goto 4, 3) := by decide +kernel
theorem dX11_wet_38 : decode cX11_wet 38 = .ok (.iconst 0, 1) := by decide +kernel
theorem dX11_wet_39 : decode cX11_wet 39 = .ok (.istore 5, 2) := by decide +kernel
theorem dX11_wet_41 : decode cX11_wet 41 = .ok (.iload 5, 2) := by decide +kernel
theorem dX11_wet_43 : decode cX11_wet 43 = .ok (.ifCond .eq 13, 3) := by decide +kernel
theorem dX11_wet_46 : decode cX11_wet 46 = .ok (.iload_n 2, 1) := by decide +kernel
theorem dX11_wet_47 : decode cX11_wet 47 = .ok (.ifCond .lt 9, 3) := by decide +kernel
theorem dX11_wet_50 : decode cX11_wet 50 = .ok (.iload_n 2, 1) := by decide +kernel
theorem dX11_wet_51 : decode cX11_wet 51 = .ok (.bipush 6, 2) := by decide +kernel
theorem dX11_wet_53 : decode cX11_wet 53 = .ok (.if_icmp .le 10, 3) := by decide +kernel
theorem dX11_wet_56 : decode cX11_wet 56 = .ok (.aload_n 0, 1) := by decide +kernel
theorem dX11_wet_57 : decode cX11_wet 57 = .ok (.bipush (-2), 2) := by decide +kernel
theorem dX11_wet_59 : decode cX11_wet 59 = .ok (.invokevirtual 52, 3) := by decide +kernel
theorem dX11_wet_62 : decode cX11_wet 62 = .ok (.ireturn, 1) := by decide +kernel
theorem dX11_wet_63 : decode cX11_wet 63 = .ok (.aload_n 0, 1) := by decide +kernel
theorem dX11_wet_64 : decode cX11_wet 64 = .ok (.getfield 16, 3) := by decide +kernel
theorem dX11_wet_67 : decode cX11_wet 67 = .ok (.aload_n 0, 1) := by decide +kernel
theorem dX11_wet_68 : decode cX11_wet 68 = .ok (.getfield 12, 3) := by decide +kernel
theorem dX11_wet_71 : decode cX11_wet 71 = .ok (.invokevirtual 97, 3) := by decide +kernel
theorem dX11_wet_74 : decode cX11_wet 74 = .ok (.aload_n 0, 1) := by decide +kernel
theorem dX11_wet_75 : decode cX11_wet 75 = .ok (.getfield 16, 3) := by decide +kernel
theorem dX11_wet_78 : decode cX11_wet 78 = .ok (.iload_n 1, 1) := by decide +kernel
theorem dX11_wet_79 : decode cX11_wet 79 = .ok (.invokevirtual 200, 3) := by decide +kernel
theorem dX11_wet_82 : decode cX11_wet 82 = .ok (.aload_n 0, 1) := by decide +kernel
theorem dX11_wet_83 : decode cX11_wet 83 = .ok (.getfield 16, 3) := by decide +kernel
theorem dX11_wet_86 : decode cX11_wet 86 = .ok (.iload_n 2, 1) := by decide +kernel
theorem dX11_wet_87 : decode cX11_wet 87 = .ok (.iload_n 3, 1) := by decide +kernel
theorem dX11_wet_88 : decode cX11_wet 88 = .ok (.iload 4, 2) := by decide +kernel
theorem dX11_wet_90 : decode cX11_wet 90 = .ok (.iconst 0, 1) := by decide +kernel
theorem dX11_wet_91 : decode cX11_wet 91 = .ok (.invokestatic 203, 3) := by decide +kernel
theorem dX11_wet_94 : decode cX11_wet 94 = .ok (.ireturn, 1) := by decide +kernel
theorem dX11_image_0 : decode cX11_image 0 = .ok (.iload_n 1, 1) := by decide +kernel
theorem dX11_image_1 : decode cX11_image 1 = .ok (.invokestatic 207, 3) := by decide +kernel
theorem dX11_image_4 : decode cX11_image 4 = .ok (.ifCond .ne 10, 3) := by decide +kernel
theorem dX11_image_7 : decode cX11_image 7 = .ok (.aload_n 0, 1) := by decide +kernel
theorem dX11_image_8 : decode cX11_image 8 = .ok (.bipush (-2), 2) := by decide +kernel
theorem dX11_image_10 : decode cX11_image 10 = .ok (.invokevirtual 52, 3) := by decide +kernel
theorem dX11_image_13 : decode cX11_image 13 = .ok (.ireturn, 1) := by decide +kernel
theorem dX11_image_14 : decode cX11_image 14 = .ok (.aload_n 0, 1) := by decide +kernel
theorem dX11_image_15 : decode cX11_image 15 = .ok (.getfield 19, 3) := by decide +kernel
theorem dX11_image_18 : decode cX11_image 18 = .ok (.iload_n 1, 1) := by decide +kernel
theorem dX11_image_19 : decode cX11_image 19 = .ok (.aaload, 1) := by decide +kernel
theorem dX11_image_20 : decode cX11_image 20 = .ok (.aload_n 0, 1) := by decide +kernel
theorem dX11_image_21 : decode cX11_image 21 = .ok (.getfield 12, 3) := by decide +kernel
theorem dX11_image_24 : decode cX11_image 24 = .ok (.invokevirtual 97, 3) := by decide +kernel
theorem dX11_image_27 : decode cX11_image 27 = .ok (.aload_n 0, 1) := by decide +kernel
theorem dX11_image_28 : decode cX11_image 28 = .ok (.getfield 23, 3) := by decide +kernel
theorem dX11_image_31 : decode cX11_image 31 = .ok (.iload_n 1, 1) := by decide +kernel
theorem dX11_image_32 : decode cX11_image 32 = .ok (.iconst 1, 1) := by decide +kernel
theorem dX11_image_33 : decode cX11_image 33 = .ok (.bastore, 1) := by decide +kernel
theorem dX11_image_34 : decode cX11_image 34 = .ok (.iconst 1, 1) := by decide +kernel
theorem dX11_image_35 : decode cX11_image 35 = .ok (.ireturn, 1) := by decide +kernel
theorem dX11_from_0 : decode cX11_from 0 = .ok (.iload_n 1, 1) := by decide +kernel
theorem dX11_from_1 : decode cX11_from 1 = .ok (.invokestatic 207, 3) := by decide +kernel
theorem dX11_from_4 : decode cX11_from 4 = .ok (.ifCond .ne 10, 3) := by decide +kernel
theorem dX11_from_7 : decode cX11_from 7 = .ok (.aload_n 0, 1) := by decide +kernel
theorem dX11_from_8 : decode cX11_from 8 = .ok (.bipush (-2), 2) := by decide +kernel
theorem dX11_from_10 : decode cX11_from 10 = .ok (.invokevirtual 52, 3) := by decide +kernel
theorem dX11_from_13 : decode cX11_from 13 = .ok (.ireturn, 1) := by decide +kernel
theorem dX11_from_14 : decode cX11_from 14 = .ok (.aload_n 0, 1) := by decide +kernel
theorem dX11_from_15 : decode cX11_from 15 = .ok (.getfield 23, 3) := by decide +kernel
theorem dX11_from_18 : decode cX11_from 18 = .ok (.iload_n 1, 1) := by decide +kernel
theorem dX11_from_19 : decode cX11_from 19 = .ok (.baload, 1) := by decide +kernel
theorem dX11_from_20 : decode cX11_from 20 = .ok (.ifCond .ne 10, 3) := by decide +kernel
theorem dX11_from_23 : decode cX11_from 23 = .ok (.aload_n 0, 1) := by decide +kernel
theorem dX11_from_24 : decode cX11_from 24 = .ok (.bipush (-3), 2) := by decide +kernel
theorem dX11_from_26 : decode cX11_from 26 = .ok (.invokevirtual 52, 3) := by decide +kernel
theorem dX11_from_29 : decode cX11_from 29 = .ok (.ireturn, 1) := by decide +kernel
theorem dX11_from_30 : decode cX11_from 30 = .ok (.aload_n 0, 1) := by decide +kernel
theorem dX11_from_31 : decode cX11_from 31 = .ok (.getfield 12, 3) := by decide +kernel
theorem dX11_from_34 : decode cX11_from 34 = .ok (.aload_n 0, 1) := by decide +kernel
theorem dX11_from_35 : decode cX11_from 35 = .ok (.getfield 19, 3) := by decide +kernel
theorem dX11_from_38 : decode cX11_from 38 = .ok (.iload_n 1, 1) := by decide +kernel
theorem dX11_from_39 : decode cX11_from 39 = .ok (.aaload, 1) := by decide +kernel
theorem dX11_from_40 : decode cX11_from 40 = .ok (.invokevirtual 97, 3) := by decide +kernel
theorem dX11_from_43 : decode cX11_from 43 = .ok (.iconst 1, 1) := by decide +kernel
theorem dX11_from_44 : decode cX11_from 44 = .ok (.ireturn, 1) := by decide +kernel
theorem dX11_status_0 : decode cX11_status 0 = .ok (.iload_n 1, 1) := by decide +kernel
theorem dX11_status_1 : decode cX11_status 1 = .ok (.tableswitch 42 0 2 #[27, 32, 37], 27) := by decide +kernel
theorem dX11_status_28 : decode cX11_status 28 = .ok (.aload_n 0, 1) := by decide +kernel
theorem dX11_status_29 : decode cX11_status 29 = .ok (.getfield 210, 3) := by decide +kernel
theorem dX11_status_32 : decode cX11_status 32 = .ok (.ireturn, 1) := by decide +kernel
theorem dX11_status_33 : decode cX11_status 33 = .ok (.aload_n 0, 1) := by decide +kernel
theorem dX11_status_34 : decode cX11_status 34 = .ok (.getfield 213, 3) := by decide +kernel
theorem dX11_status_37 : decode cX11_status 37 = .ok (.ireturn, 1) := by decide +kernel
theorem dX11_status_38 : decode cX11_status 38 = .ok (.aload_n 0, 1) := by decide +kernel
theorem dX11_status_39 : decode cX11_status 39 = .ok (.getfield 216, 3) := by decide +kernel
theorem dX11_status_42 : decode cX11_status 42 = .ok (.ireturn, 1) := by decide +kernel
theorem dX11_status_43 : decode cX11_status 43 = .ok (.aload_n 0, 1) := by decide +kernel
theorem dX11_status_44 : decode cX11_status 44 = .ok (.bipush (-2), 2) := by decide +kernel
theorem dX11_status_46 : decode cX11_status 46 = .ok (.invokevirtual 52, 3) := by decide +kernel
theorem dX11_status_49 : decode cX11_status 49 = .ok (.pop, 1) := by decide +kernel
theorem dX11_status_50 : decode cX11_status 50 = .ok (.iconst (-1), 1) := by decide +kernel
theorem dX11_status_51 : decode cX11_status 51 = .ok (.ireturn, 1) := by decide +kernel
theorem dX11_count_0 : decode cX11_count 0 = .ok (.iload_n 1, 1) := by decide +kernel
theorem dX11_count_1 : decode cX11_count 1 = .ok (.tableswitch 78 0 4 #[35, 43, 51, 59, 70], 35) := by decide +kernel
theorem dX11_count_36 : decode cX11_count 36 = .ok (.aload_n 0, 1) := by decide +kernel
theorem dX11_count_37 : decode cX11_count 37 = .ok (.getfield 12, 3) := by decide +kernel
theorem dX11_count_40 : decode cX11_count 40 = .ok (.getfield 191, 3) := by decide +kernel
theorem dX11_count_43 : decode cX11_count 43 = .ok (.ireturn, 1) := by decide +kernel
theorem dX11_count_44 : decode cX11_count 44 = .ok (.aload_n 0, 1) := by decide +kernel
theorem dX11_count_45 : decode cX11_count 45 = .ok (.getfield 12, 3) := by decide +kernel
theorem dX11_count_48 : decode cX11_count 48 = .ok (.getfield 185, 3) := by decide +kernel
theorem dX11_count_51 : decode cX11_count 51 = .ok (.ireturn, 1) := by decide +kernel
theorem dX11_count_52 : decode cX11_count 52 = .ok (.aload_n 0, 1) := by decide +kernel
theorem dX11_count_53 : decode cX11_count 53 = .ok (.getfield 12, 3) := by decide +kernel
theorem dX11_count_56 : decode cX11_count 56 = .ok (.getfield 219, 3) := by decide +kernel
theorem dX11_count_59 : decode cX11_count 59 = .ok (.ireturn, 1) := by decide +kernel
theorem dX11_count_60 : decode cX11_count 60 = .ok (.aload_n 0, 1) := by decide +kernel
theorem dX11_count_61 : decode cX11_count 61 = .ok (.getfield 12, 3) := by decide +kernel
theorem dX11_count_64 : decode cX11_count 64 = .ok (.getfield 108, 3) := by decide +kernel
theorem dX11_count_67 : decode cX11_count 67 = .ok (.getfield 125, 3) := by decide +kernel
theorem dX11_count_70 : decode cX11_count 70 = .ok (.ireturn, 1) := by decide +kernel
theorem dX11_count_71 : decode cX11_count 71 = .ok (.aload_n 0, 1) := by decide +kernel
theorem dX11_count_72 : decode cX11_count 72 = .ok (.getfield 30, 3) := by decide +kernel
theorem dX11_count_75 : decode cX11_count 75 = .ok (.getfield 222, 3) := by decide +kernel
theorem dX11_count_78 : decode cX11_count 78 = .ok (.ireturn, 1) := by decide +kernel
theorem dX11_count_79 : decode cX11_count 79 = .ok (.aload_n 0, 1) := by decide +kernel
theorem dX11_count_80 : decode cX11_count 80 = .ok (.bipush (-2), 2) := by decide +kernel
theorem dX11_count_82 : decode cX11_count 82 = .ok (.invokevirtual 52, 3) := by decide +kernel
theorem dX11_count_85 : decode cX11_count 85 = .ok (.ireturn, 1) := by decide +kernel
theorem dX11_digest_0 : decode cX11_digest 0 = .ok (.ldc2_w 225, 3) := by decide +kernel
theorem dX11_digest_3 : decode cX11_digest 3 = .ok (.lstore_n 1, 1) := by decide +kernel
theorem dX11_digest_4 : decode cX11_digest 4 = .ok (.ldc2_w 227, 3) := by decide +kernel
theorem dX11_digest_7 : decode cX11_digest 7 = .ok (.lload_n 1, 1) := by decide +kernel
theorem dX11_digest_8 : decode cX11_digest 8 = .ok (.lmul, 1) := by decide +kernel
theorem dX11_digest_9 : decode cX11_digest 9 = .ok (.aload_n 0, 1) := by decide +kernel
theorem dX11_digest_10 : decode cX11_digest 10 = .ok (.getfield 12, 3) := by decide +kernel
theorem dX11_digest_13 : decode cX11_digest 13 = .ok (.getfield 191, 3) := by decide +kernel
theorem dX11_digest_16 : decode cX11_digest 16 = .ok (.i2l, 1) := by decide +kernel
theorem dX11_digest_17 : decode cX11_digest 17 = .ok (.ladd, 1) := by decide +kernel
theorem dX11_digest_18 : decode cX11_digest 18 = .ok (.lstore_n 1, 1) := by decide +kernel
theorem dX11_digest_19 : decode cX11_digest 19 = .ok (.ldc2_w 227, 3) := by decide +kernel
theorem dX11_digest_22 : decode cX11_digest 22 = .ok (.lload_n 1, 1) := by decide +kernel
theorem dX11_digest_23 : decode cX11_digest 23 = .ok (.lmul, 1) := by decide +kernel
theorem dX11_digest_24 : decode cX11_digest 24 = .ok (.aload_n 0, 1) := by decide +kernel
theorem dX11_digest_25 : decode cX11_digest 25 = .ok (.getfield 12, 3) := by decide +kernel
theorem dX11_digest_28 : decode cX11_digest 28 = .ok (.getfield 185, 3) := by decide +kernel
theorem dX11_digest_31 : decode cX11_digest 31 = .ok (.i2l, 1) := by decide +kernel
theorem dX11_digest_32 : decode cX11_digest 32 = .ok (.ladd, 1) := by decide +kernel
theorem dX11_digest_33 : decode cX11_digest 33 = .ok (.lstore_n 1, 1) := by decide +kernel
theorem dX11_digest_34 : decode cX11_digest 34 = .ok (.ldc2_w 227, 3) := by decide +kernel
theorem dX11_digest_37 : decode cX11_digest 37 = .ok (.lload_n 1, 1) := by decide +kernel
theorem dX11_digest_38 : decode cX11_digest 38 = .ok (.lmul, 1) := by decide +kernel
theorem dX11_digest_39 : decode cX11_digest 39 = .ok (.aload_n 0, 1) := by decide +kernel
theorem dX11_digest_40 : decode cX11_digest 40 = .ok (.getfield 12, 3) := by decide +kernel
theorem dX11_digest_43 : decode cX11_digest 43 = .ok (.getfield 219, 3) := by decide +kernel
theorem dX11_digest_46 : decode cX11_digest 46 = .ok (.i2l, 1) := by decide +kernel
theorem dX11_digest_47 : decode cX11_digest 47 = .ok (.ladd, 1) := by decide +kernel
theorem dX11_digest_48 : decode cX11_digest 48 = .ok (.lstore_n 1, 1) := by decide +kernel
theorem dX11_digest_49 : decode cX11_digest 49 = .ok (.ldc2_w 227, 3) := by decide +kernel
theorem dX11_digest_52 : decode cX11_digest 52 = .ok (.lload_n 1, 1) := by decide +kernel
theorem dX11_digest_53 : decode cX11_digest 53 = .ok (.lmul, 1) := by decide +kernel
theorem dX11_digest_54 : decode cX11_digest 54 = .ok (.aload_n 0, 1) := by decide +kernel
theorem dX11_digest_55 : decode cX11_digest 55 = .ok (.getfield 12, 3) := by decide +kernel
theorem dX11_digest_58 : decode cX11_digest 58 = .ok (.getfield 108, 3) := by decide +kernel
theorem dX11_digest_61 : decode cX11_digest 61 = .ok (.getfield 125, 3) := by decide +kernel
theorem dX11_digest_64 : decode cX11_digest 64 = .ok (.i2l, 1) := by decide +kernel
theorem dX11_digest_65 : decode cX11_digest 65 = .ok (.ladd, 1) := by decide +kernel
theorem dX11_digest_66 : decode cX11_digest 66 = .ok (.lstore_n 1, 1) := by decide +kernel
theorem dX11_digest_67 : decode cX11_digest 67 = .ok (.ldc2_w 227, 3) := by decide +kernel
theorem dX11_digest_70 : decode cX11_digest 70 = .ok (.lload_n 1, 1) := by decide +kernel
theorem dX11_digest_71 : decode cX11_digest 71 = .ok (.lmul, 1) := by decide +kernel
theorem dX11_digest_72 : decode cX11_digest 72 = .ok (.aload_n 0, 1) := by decide +kernel
theorem dX11_digest_73 : decode cX11_digest 73 = .ok (.getfield 30, 3) := by decide +kernel
theorem dX11_digest_76 : decode cX11_digest 76 = .ok (.getfield 222, 3) := by decide +kernel
theorem dX11_digest_79 : decode cX11_digest 79 = .ok (.i2l, 1) := by decide +kernel
theorem dX11_digest_80 : decode cX11_digest 80 = .ok (.ladd, 1) := by decide +kernel
theorem dX11_digest_81 : decode cX11_digest 81 = .ok (.lstore_n 1, 1) := by decide +kernel
theorem dX11_digest_82 : decode cX11_digest 82 = .ok (.aload_n 0, 1) := by decide +kernel
theorem dX11_digest_83 : decode cX11_digest 83 = .ok (.getfield 12, 3) := by decide +kernel
theorem dX11_digest_86 : decode cX11_digest 86 = .ok (.lload_n 1, 1) := by decide +kernel
theorem dX11_digest_87 : decode cX11_digest 87 = .ok (.invokevirtual 229, 3) := by decide +kernel
theorem dX11_digest_90 : decode cX11_digest 90 = .ok (.lreturn, 1) := by decide +kernel
theorem dX11_counted_0 : decode cX11_counted 0 = .ok (.iload_n 1, 1) := by decide +kernel
theorem dX11_counted_1 : decode cX11_counted 1 = .ok (.bipush (-2), 2) := by decide +kernel
theorem dX11_counted_3 : decode cX11_counted 3 = .ok (.if_icmp .ne 16, 3) := by decide +kernel
theorem dX11_counted_6 : decode cX11_counted 6 = .ok (.aload_n 0, 1) := by decide +kernel
theorem dX11_counted_7 : decode cX11_counted 7 = .ok (.dup, 1) := by decide +kernel
theorem dX11_counted_8 : decode cX11_counted 8 = .ok (.getfield 210, 3) := by decide +kernel
theorem dX11_counted_11 : decode cX11_counted 11 = .ok (.iconst 1, 1) := by decide +kernel
theorem dX11_counted_12 : decode cX11_counted 12 = .ok (.iadd, 1) := by decide +kernel
theorem dX11_counted_13 : decode cX11_counted 13 = .ok (.putfield 210, 3) := by decide +kernel
theorem dX11_counted_16 : decode cX11_counted 16 = .ok (.goto 38, 3) := by decide +kernel
theorem dX11_counted_19 : decode cX11_counted 19 = .ok (.iload_n 1, 1) := by decide +kernel
theorem dX11_counted_20 : decode cX11_counted 20 = .ok (.bipush (-3), 2) := by decide +kernel
theorem dX11_counted_22 : decode cX11_counted 22 = .ok (.if_icmp .ne 16, 3) := by decide +kernel
theorem dX11_counted_25 : decode cX11_counted 25 = .ok (.aload_n 0, 1) := by decide +kernel
theorem dX11_counted_26 : decode cX11_counted 26 = .ok (.dup, 1) := by decide +kernel
theorem dX11_counted_27 : decode cX11_counted 27 = .ok (.getfield 213, 3) := by decide +kernel
theorem dX11_counted_30 : decode cX11_counted 30 = .ok (.iconst 1, 1) := by decide +kernel
theorem dX11_counted_31 : decode cX11_counted 31 = .ok (.iadd, 1) := by decide +kernel
theorem dX11_counted_32 : decode cX11_counted 32 = .ok (.putfield 213, 3) := by decide +kernel
theorem dX11_counted_35 : decode cX11_counted 35 = .ok (.goto 19, 3) := by decide +kernel
theorem dX11_counted_38 : decode cX11_counted 38 = .ok (.iload_n 1, 1) := by decide +kernel
theorem dX11_counted_39 : decode cX11_counted 39 = .ok (.bipush (-4), 2) := by decide +kernel
theorem dX11_counted_41 : decode cX11_counted 41 = .ok (.if_icmp .ne 13, 3) := by decide +kernel
theorem dX11_counted_44 : decode cX11_counted 44 = .ok (.aload_n 0, 1) := by decide +kernel
theorem dX11_counted_45 : decode cX11_counted 45 = .ok (.dup, 1) := by decide +kernel
theorem dX11_counted_46 : decode cX11_counted 46 = .ok (.getfield 216, 3) := by decide +kernel
theorem dX11_counted_49 : decode cX11_counted 49 = .ok (.iconst 1, 1) := by decide +kernel
theorem dX11_counted_50 : decode cX11_counted 50 = .ok (.iadd, 1) := by decide +kernel
theorem dX11_counted_51 : decode cX11_counted 51 = .ok (.putfield 216, 3) := by decide +kernel
theorem dX11_counted_54 : decode cX11_counted 54 = .ok (.iload_n 1, 1) := by decide +kernel
theorem dX11_counted_55 : decode cX11_counted 55 = .ok (.ireturn, 1) := by decide +kernel
theorem dX11_stepsNow_0 : decode cX11_stepsNow 0 = .ok (.aload_n 0, 1) := by decide +kernel
theorem dX11_stepsNow_1 : decode cX11_stepsNow 1 = .ok (.getfield 16, 3) := by decide +kernel
theorem dX11_stepsNow_4 : decode cX11_stepsNow 4 = .ok (.aload_n 0, 1) := by decide +kernel
theorem dX11_stepsNow_5 : decode cX11_stepsNow 5 = .ok (.getfield 12, 3) := by decide +kernel
theorem dX11_stepsNow_8 : decode cX11_stepsNow 8 = .ok (.invokevirtual 97, 3) := by decide +kernel
theorem dX11_stepsNow_11 : decode cX11_stepsNow 11 = .ok (.aload_n 0, 1) := by decide +kernel
theorem dX11_stepsNow_12 : decode cX11_stepsNow 12 = .ok (.getfield 44, 3) := by decide +kernel
theorem dX11_stepsNow_15 : decode cX11_stepsNow 15 = .ok (.aload_n 0, 1) := by decide +kernel
theorem dX11_stepsNow_16 : decode cX11_stepsNow 16 = .ok (.getfield 16, 3) := by decide +kernel
theorem dX11_stepsNow_19 : decode cX11_stepsNow 19 = .ok (.iload_n 1, 1) := by decide +kernel
theorem dX11_stepsNow_20 : decode cX11_stepsNow 20 = .ok (.iload_n 2, 1) := by decide +kernel
theorem dX11_stepsNow_21 : decode cX11_stepsNow 21 = .ok (.iconst (-1), 1) := by decide +kernel
theorem dX11_stepsNow_22 : decode cX11_stepsNow 22 = .ok (.invokevirtual 178, 3) := by decide +kernel
theorem dX11_stepsNow_25 : decode cX11_stepsNow 25 = .ok (.ireturn, 1) := by decide +kernel
theorem dX11_lyingsNow_0 : decode cX11_lyingsNow 0 = .ok (.aload_n 0, 1) := by decide +kernel
theorem dX11_lyingsNow_1 : decode cX11_lyingsNow 1 = .ok (.getfield 16, 3) := by decide +kernel
theorem dX11_lyingsNow_4 : decode cX11_lyingsNow 4 = .ok (.aload_n 0, 1) := by decide +kernel
theorem dX11_lyingsNow_5 : decode cX11_lyingsNow 5 = .ok (.getfield 12, 3) := by decide +kernel
theorem dX11_lyingsNow_8 : decode cX11_lyingsNow 8 = .ok (.invokevirtual 97, 3) := by decide +kernel
