theorem dX11_lyingsNow_11 : decode cX11_lyingsNow 11 = .ok (.aload_n 0, 1) := by decide +kernel
theorem dX11_lyingsNow_12 : decode cX11_lyingsNow 12 = .ok (.getfield 44, 3) := by decide +kernel
theorem dX11_lyingsNow_15 : decode cX11_lyingsNow 15 = .ok (.aload_n 0, 1) := by decide +kernel
theorem dX11_lyingsNow_16 : decode cX11_lyingsNow 16 = .ok (.getfield 16, 3) := by decide +kernel
theorem dX11_lyingsNow_19 : decode cX11_lyingsNow 19 = .ok (.iconst 0, 1) := by decide +kernel
theorem dX11_lyingsNow_20 : decode cX11_lyingsNow 20 = .ok (.iconst (-1), 1) := by decide +kernel
theorem dX11_lyingsNow_21 : decode cX11_lyingsNow 21 = .ok (.iconst (-1), 1) := by decide +kernel
theorem dX11_lyingsNow_22 : decode cX11_lyingsNow 22 = .ok (.invokevirtual 178, 3) := by decide +kernel
theorem dX11_lyingsNow_25 : decode cX11_lyingsNow 25 = .ok (.pop, 1) := by decide +kernel
theorem dX11_lyingsNow_26 : decode cX11_lyingsNow 26 = .ok (.aload_n 0, 1) := by decide +kernel
theorem dX11_lyingsNow_27 : decode cX11_lyingsNow 27 = .ok (.getfield 44, 3) := by decide +kernel
theorem dX11_lyingsNow_30 : decode cX11_lyingsNow 30 = .ok (.getfield 182, 3) := by decide +kernel
theorem dX11_lyingsNow_33 : decode cX11_lyingsNow 33 = .ok (.ireturn, 1) := by decide +kernel
theorem dX11_isRoom_0 : decode cX11_isRoom 0 = .ok (.iload_n 0, 1) := by decide +kernel
theorem dX11_isRoom_1 : decode cX11_isRoom 1 = .ok (.ifCond .lt 12, 3) := by decide +kernel
theorem dX11_isRoom_4 : decode cX11_isRoom 4 = .ok (.iload_n 0, 1) := by decide +kernel
theorem dX11_isRoom_5 : decode cX11_isRoom 5 = .ok (.iconst 5, 1) := by decide +kernel
theorem dX11_isRoom_6 : decode cX11_isRoom 6 = .ok (.if_icmp .ge 7, 3) := by decide +kernel
theorem dX11_isRoom_9 : decode cX11_isRoom 9 = .ok (.iconst 1, 1) := by decide +kernel
theorem dX11_isRoom_10 : decode cX11_isRoom 10 = .ok (.goto 4, 3) := by decide +kernel
theorem dX11_isRoom_13 : decode cX11_isRoom 13 = .ok (.iconst 0, 1) := by decide +kernel
theorem dX11_isRoom_14 : decode cX11_isRoom 14 = .ok (.ireturn, 1) := by decide +kernel
theorem dX11_isStone_0 : decode cX11_isStone 0 = .ok (.iload_n 0, 1) := by decide +kernel
theorem dX11_isStone_1 : decode cX11_isStone 1 = .ok (.iconst 1, 1) := by decide +kernel
theorem dX11_isStone_2 : decode cX11_isStone 2 = .ok (.if_icmp .lt 13, 3) := by decide +kernel
theorem dX11_isStone_5 : decode cX11_isStone 5 = .ok (.iload_n 0, 1) := by decide +kernel
theorem dX11_isStone_6 : decode cX11_isStone 6 = .ok (.bipush 9, 2) := by decide +kernel
theorem dX11_isStone_8 : decode cX11_isStone 8 = .ok (.if_icmp .gt 7, 3) := by decide +kernel
theorem dX11_isStone_11 : decode cX11_isStone 11 = .ok (.iconst 1, 1) := by decide +kernel
theorem dX11_isStone_12 : decode cX11_isStone 12 = .ok (.goto 4, 3) := by decide +kernel
theorem dX11_isStone_15 : decode cX11_isStone 15 = .ok (.iconst 0, 1) := by decide +kernel
theorem dX11_isStone_16 : decode cX11_isStone 16 = .ok (.ireturn, 1) := by decide +kernel
theorem dX11_isImage_0 : decode cX11_isImage 0 = .ok (.iload_n 0, 1) := by decide +kernel
theorem dX11_isImage_1 : decode cX11_isImage 1 = .ok (.ifCond .lt 12, 3) := by decide +kernel
theorem dX11_isImage_4 : decode cX11_isImage 4 = .ok (.iload_n 0, 1) := by decide +kernel
theorem dX11_isImage_5 : decode cX11_isImage 5 = .ok (.iconst 2, 1) := by decide +kernel
theorem dX11_isImage_6 : decode cX11_isImage 6 = .ok (.if_icmp .ge 7, 3) := by decide +kernel
theorem dX11_isImage_9 : decode cX11_isImage 9 = .ok (.iconst 1, 1) := by decide +kernel
theorem dX11_isImage_10 : decode cX11_isImage 10 = .ok (.goto 4, 3) := by decide +kernel
theorem dX11_isImage_13 : decode cX11_isImage 13 = .ok (.iconst 0, 1) := by decide +kernel
theorem dX11_isImage_14 : decode cX11_isImage 14 = .ok (.ireturn, 1) := by decide +kernel
theorem dX11_isAmong_0 : decode cX11_isAmong 0 = .ok (.iload_n 0, 1) := by decide +kernel
theorem dX11_isAmong_1 : decode cX11_isAmong 1 = .ok (.iload_n 1, 1) := by decide +kernel
theorem dX11_isAmong_2 : decode cX11_isAmong 2 = .ok (.ishr, 1) := by decide +kernel
theorem dX11_isAmong_3 : decode cX11_isAmong 3 = .ok (.iconst 1, 1) := by decide +kernel
theorem dX11_isAmong_4 : decode cX11_isAmong 4 = .ok (.iand, 1) := by decide +kernel
theorem dX11_isAmong_5 : decode cX11_isAmong 5 = .ok (.iconst 1, 1) := by decide +kernel
theorem dX11_isAmong_6 : decode cX11_isAmong 6 = .ok (.if_icmp .ne 7, 3) := by decide +kernel
theorem dX11_isAmong_9 : decode cX11_isAmong 9 = .ok (.iconst 1, 1) := by decide +kernel
theorem dX11_isAmong_10 : decode cX11_isAmong 10 = .ok (.goto 4, 3) := by decide +kernel
theorem dX11_isAmong_13 : decode cX11_isAmong 13 = .ok (.iconst 0, 1) := by decide +kernel
theorem dX11_isAmong_14 : decode cX11_isAmong 14 = .ok (.ireturn, 1) := by decide +kernel
theorem dX11_downInAll_0 : decode cX11_downInAll 0 = .ok (.iload_n 1, 1) := by decide +kernel
theorem dX11_downInAll_1 : decode cX11_downInAll 1 = .ok (.istore_n 2, 1) := by decide +kernel
theorem dX11_downInAll_2 : decode cX11_downInAll 2 = .ok (.iconst 0, 1) := by decide +kernel
theorem dX11_downInAll_3 : decode cX11_downInAll 3 = .ok (.istore_n 3, 1) := by decide +kernel
theorem dX11_downInAll_4 : decode cX11_downInAll 4 = .ok (.iload_n 3, 1) := by decide +kernel
theorem dX11_downInAll_5 : decode cX11_downInAll 5 = .ok (.iload_n 1, 1) := by decide +kernel
theorem dX11_downInAll_6 : decode cX11_downInAll 6 = .ok (.if_icmp .gt 21, 3) := by decide +kernel
theorem dX11_downInAll_9 : decode cX11_downInAll 9 = .ok (.iload_n 0, 1) := by decide +kernel
theorem dX11_downInAll_10 : decode cX11_downInAll 10 = .ok (.iload_n 3, 1) := by decide +kernel
theorem dX11_downInAll_11 : decode cX11_downInAll 11 = .ok (.invokestatic 169, 3) := by decide +kernel
theorem dX11_downInAll_14 : decode cX11_downInAll 14 = .ok (.ifCond .eq 7, 3) := by decide +kernel
theorem dX11_downInAll_17 : decode cX11_downInAll 17 = .ok (.iload_n 2, 1) := by decide +kernel
theorem dX11_downInAll_18 : decode cX11_downInAll 18 = .ok (.iload_n 3, 1) := by decide +kernel
theorem dX11_downInAll_19 : decode cX11_downInAll 19 = .ok (.iand, 1) := by decide +kernel
theorem dX11_downInAll_20 : decode cX11_downInAll 20 = .ok (.istore_n 2, 1) := by decide +kernel
theorem dX11_downInAll_21 : decode cX11_downInAll 21 = .ok (.iinc 3 1, 3) := by decide +kernel
theorem dX11_downInAll_24 : decode cX11_downInAll 24 = .ok (.goto (-20), 3) := by decide +kernel
theorem dX11_downInAll_27 : decode cX11_downInAll 27 = .ok (.iload_n 2, 1) := by decide +kernel
theorem dX11_downInAll_28 : decode cX11_downInAll 28 = .ok (.ireturn, 1) := by decide +kernel
theorem dX11_downInSome_0 : decode cX11_downInSome 0 = .ok (.iconst 0, 1) := by decide +kernel
theorem dX11_downInSome_1 : decode cX11_downInSome 1 = .ok (.istore_n 1, 1) := by decide +kernel
theorem dX11_downInSome_2 : decode cX11_downInSome 2 = .ok (.iconst 0, 1) := by decide +kernel
theorem dX11_downInSome_3 : decode cX11_downInSome 3 = .ok (.istore_n 2, 1) := by decide +kernel
theorem dX11_downInSome_4 : decode cX11_downInSome 4 = .ok (.iload_n 2, 1) := by decide +kernel
theorem dX11_downInSome_5 : decode cX11_downInSome 5 = .ok (.bipush 32, 2) := by decide +kernel
theorem dX11_downInSome_7 : decode cX11_downInSome 7 = .ok (.if_icmp .ge 21, 3) := by decide +kernel
theorem dX11_downInSome_10 : decode cX11_downInSome 10 = .ok (.iload_n 0, 1) := by decide +kernel
theorem dX11_downInSome_11 : decode cX11_downInSome 11 = .ok (.iload_n 2, 1) := by decide +kernel
theorem dX11_downInSome_12 : decode cX11_downInSome 12 = .ok (.invokestatic 169, 3) := by decide +kernel
theorem dX11_downInSome_15 : decode cX11_downInSome 15 = .ok (.ifCond .eq 7, 3) := by decide +kernel
theorem dX11_downInSome_18 : decode cX11_downInSome 18 = .ok (.iload_n 1, 1) := by decide +kernel
theorem dX11_downInSome_19 : decode cX11_downInSome 19 = .ok (.iload_n 2, 1) := by decide +kernel
theorem dX11_downInSome_20 : decode cX11_downInSome 20 = .ok (.ior, 1) := by decide +kernel
theorem dX11_downInSome_21 : decode cX11_downInSome 21 = .ok (.istore_n 1, 1) := by decide +kernel
theorem dX11_downInSome_22 : decode cX11_downInSome 22 = .ok (.iinc 2 1, 3) := by decide +kernel
theorem dX11_downInSome_25 : decode cX11_downInSome 25 = .ok (.goto (-21), 3) := by decide +kernel
theorem dX11_downInSome_28 : decode cX11_downInSome 28 = .ok (.iload_n 1, 1) := by decide +kernel
theorem dX11_downInSome_29 : decode cX11_downInSome 29 = .ok (.ireturn, 1) := by decide +kernel
theorem dX11_rowsOf_0 : decode cX11_rowsOf 0 = .ok (.aload_n 0, 1) := by decide +kernel
theorem dX11_rowsOf_1 : decode cX11_rowsOf 1 = .ok (.getfield 77, 3) := by decide +kernel
theorem dX11_rowsOf_4 : decode cX11_rowsOf 4 = .ok (.iconst 0, 1) := by decide +kernel
theorem dX11_rowsOf_5 : decode cX11_rowsOf 5 = .ok (.iaload, 1) := by decide +kernel
theorem dX11_rowsOf_6 : decode cX11_rowsOf 6 = .ok (.istore 5, 2) := by decide +kernel
theorem dX11_rowsOf_8 : decode cX11_rowsOf 8 = .ok (.iload 5, 2) := by decide +kernel
theorem dX11_rowsOf_10 : decode cX11_rowsOf 10 = .ok (.iconst 5, 1) := by decide +kernel
theorem dX11_rowsOf_11 : decode cX11_rowsOf 11 = .ok (.if_icmp .ge 8, 3) := by decide +kernel
theorem dX11_rowsOf_14 : decode cX11_rowsOf 14 = .ok (.iload 4, 2) := by decide +kernel
theorem dX11_rowsOf_16 : decode cX11_rowsOf 16 = .ok (.goto 12, 3) := by decide +kernel
theorem dX11_rowsOf_19 : decode cX11_rowsOf 19 = .ok (.iload 4, 2) := by decide +kernel
theorem dX11_rowsOf_21 : decode cX11_rowsOf 21 = .ok (.iconst 1, 1) := by decide +kernel
theorem dX11_rowsOf_22 : decode cX11_rowsOf 22 = .ok (.iload 5, 2) := by decide +kernel
theorem dX11_rowsOf_24 : decode cX11_rowsOf 24 = .ok (.iconst 5, 1) := by decide +kernel
theorem dX11_rowsOf_25 : decode cX11_rowsOf 25 = .ok (.isub, 1) := by decide +kernel
theorem dX11_rowsOf_26 : decode cX11_rowsOf 26 = .ok (.ishl, 1) := by decide +kernel
theorem dX11_rowsOf_27 : decode cX11_rowsOf 27 = .ok (.ior, 1) := by decide +kernel
theorem dX11_rowsOf_28 : decode cX11_rowsOf 28 = .ok (.istore 6, 2) := by decide +kernel
theorem dX11_rowsOf_30 : decode cX11_rowsOf 30 = .ok (.iload 6, 2) := by decide +kernel
theorem dX11_rowsOf_32 : decode cX11_rowsOf 32 = .ok (.iload_n 3, 1) := by decide +kernel
theorem dX11_rowsOf_33 : decode cX11_rowsOf 33 = .ok (.iconst (-1), 1) := by decide +kernel
theorem dX11_rowsOf_34 : decode cX11_rowsOf 34 = .ok (.ixor, 1) := by decide +kernel
theorem dX11_rowsOf_35 : decode cX11_rowsOf 35 = .ok (.iand, 1) := by decide +kernel
theorem dX11_rowsOf_36 : decode cX11_rowsOf 36 = .ok (.ifCond .eq 5, 3) := by decide +kernel
theorem dX11_rowsOf_39 : decode cX11_rowsOf 39 = .ok (.iconst 0, 1) := by decide +kernel
theorem dX11_rowsOf_40 : decode cX11_rowsOf 40 = .ok (.ireturn, 1) := by decide +kernel
theorem dX11_rowsOf_41 : decode cX11_rowsOf 41 = .ok (.iload_n 1, 1) := by decide +kernel
theorem dX11_rowsOf_42 : decode cX11_rowsOf 42 = .ok (.ifCond .gt 21, 3) := by decide +kernel
theorem dX11_rowsOf_45 : decode cX11_rowsOf 45 = .ok (.iload 5, 2) := by decide +kernel
theorem dX11_rowsOf_47 : decode cX11_rowsOf 47 = .ok (.iload_n 2, 1) := by decide +kernel
theorem dX11_rowsOf_48 : decode cX11_rowsOf 48 = .ok (.if_icmp .ne 13, 3) := by decide +kernel
theorem dX11_rowsOf_51 : decode cX11_rowsOf 51 = .ok (.iload 6, 2) := by decide +kernel
theorem dX11_rowsOf_53 : decode cX11_rowsOf 53 = .ok (.iload_n 3, 1) := by decide +kernel
theorem dX11_rowsOf_54 : decode cX11_rowsOf 54 = .ok (.if_icmp .ne 7, 3) := by decide +kernel
theorem dX11_rowsOf_57 : decode cX11_rowsOf 57 = .ok (.iconst 1, 1) := by decide +kernel
theorem dX11_rowsOf_58 : decode cX11_rowsOf 58 = .ok (.goto 4, 3) := by decide +kernel
theorem dX11_rowsOf_61 : decode cX11_rowsOf 61 = .ok (.iconst 0, 1) := by decide +kernel
theorem dX11_rowsOf_62 : decode cX11_rowsOf 62 = .ok (.ireturn, 1) := by decide +kernel
theorem dX11_rowsOf_63 : decode cX11_rowsOf 63 = .ok (.aload_n 0, 1) := by decide +kernel
theorem dX11_rowsOf_64 : decode cX11_rowsOf 64 = .ok (.invokevirtual 112, 3) := by decide +kernel
theorem dX11_rowsOf_67 : decode cX11_rowsOf 67 = .ok (.istore 7, 2) := by decide +kernel
theorem dX11_rowsOf_69 : decode cX11_rowsOf 69 = .ok (.iconst 0, 1) := by decide +kernel
theorem dX11_rowsOf_70 : decode cX11_rowsOf 70 = .ok (.istore 8, 2) := by decide +kernel
theorem dX11_rowsOf_72 : decode cX11_rowsOf 72 = .ok (.iconst 0, 1) := by decide +kernel
theorem dX11_rowsOf_73 : decode cX11_rowsOf 73 = .ok (.istore 9, 2) := by decide +kernel
theorem dX11_rowsOf_75 : decode cX11_rowsOf 75 = .ok (.iload 9, 2) := by decide +kernel
theorem dX11_rowsOf_77 : decode cX11_rowsOf 77 = .ok (.iconst 5, 1) := by decide +kernel
theorem dX11_rowsOf_78 : decode cX11_rowsOf 78 = .ok (.aload_n 0, 1) := by decide +kernel
theorem dX11_rowsOf_79 : decode cX11_rowsOf 79 = .ok (.getfield 191, 3) := by decide +kernel
theorem dX11_rowsOf_82 : decode cX11_rowsOf 82 = .ok (.iadd, 1) := by decide +kernel
theorem dX11_rowsOf_83 : decode cX11_rowsOf 83 = .ok (.if_icmp .ge 48, 3) := by decide +kernel
theorem dX11_rowsOf_86 : decode cX11_rowsOf 86 = .ok (.aload_n 0, 1) := by decide +kernel
theorem dX11_rowsOf_87 : decode cX11_rowsOf 87 = .ok (.iconst 0, 1) := by decide +kernel
theorem dX11_rowsOf_88 : decode cX11_rowsOf 88 = .ok (.iload 9, 2) := by decide +kernel
theorem dX11_rowsOf_90 : decode cX11_rowsOf 90 = .ok (.invokevirtual 104, 3) := by decide +kernel
theorem dX11_rowsOf_93 : decode cX11_rowsOf 93 = .ok (.ifCond .eq 32, 3) := by decide +kernel
theorem dX11_rowsOf_96 : decode cX11_rowsOf 96 = .ok (.aload_n 0, 1) := by decide +kernel
theorem dX11_rowsOf_97 : decode cX11_rowsOf 97 = .ok (.iconst 0, 1) := by decide +kernel
theorem dX11_rowsOf_98 : decode cX11_rowsOf 98 = .ok (.iload 9, 2) := by decide +kernel
theorem dX11_rowsOf_100 : decode cX11_rowsOf 100 = .ok (.invokevirtual 121, 3) := by decide +kernel
theorem dX11_rowsOf_103 : decode cX11_rowsOf 103 = .ok (.iload 8, 2) := by decide +kernel
theorem dX11_rowsOf_105 : decode cX11_rowsOf 105 = .ok (.aload_n 0, 1) := by decide +kernel
theorem dX11_rowsOf_106 : decode cX11_rowsOf 106 = .ok (.iload_n 1, 1) := by decide +kernel
theorem dX11_rowsOf_107 : decode cX11_rowsOf 107 = .ok (.iconst 1, 1) := by decide +kernel
theorem dX11_rowsOf_108 : decode cX11_rowsOf 108 = .ok (.isub, 1) := by decide +kernel
theorem dX11_rowsOf_109 : decode cX11_rowsOf 109 = .ok (.iload_n 2, 1) := by decide +kernel
theorem dX11_rowsOf_110 : decode cX11_rowsOf 110 = .ok (.iload_n 3, 1) := by decide +kernel
theorem dX11_rowsOf_111 : decode cX11_rowsOf 111 = .ok (.iload 6, 2) := by decide +kernel
theorem dX11_rowsOf_113 : decode cX11_rowsOf 113 = .ok (.invokestatic 203, 3) := by decide +kernel
theorem dX11_rowsOf_116 : decode cX11_rowsOf 116 = .ok (.iadd, 1) := by decide +kernel
theorem dX11_rowsOf_117 : decode cX11_rowsOf 117 = .ok (.istore 8, 2) := by decide +kernel
theorem dX11_rowsOf_119 : decode cX11_rowsOf 119 = .ok (.aload_n 0, 1) := by decide +kernel
theorem dX11_rowsOf_120 : decode cX11_rowsOf 120 = .ok (.iload 7, 2) := by decide +kernel
theorem dX11_rowsOf_122 : decode cX11_rowsOf 122 = .ok (.invokevirtual 131, 3) := by decide +kernel
theorem dX11_rowsOf_125 : decode cX11_rowsOf 125 = .ok (.iinc 9 1, 3) := by decide +kernel
theorem dX11_rowsOf_128 : decode cX11_rowsOf 128 = .ok (.goto (-53), 3) := by decide +kernel
theorem dX11_rowsOf_131 : decode cX11_rowsOf 131 = .ok (.iload 8, 2) := by decide +kernel
theorem dX11_rowsOf_133 : decode cX11_rowsOf 133 = .ok (.ireturn, 1) := by decide +kernel
theorem dX12_init_0 : decode cX12_init 0 = .ok (.aload_n 0, 1) := by decide +kernel
theorem dX12_init_1 : decode cX12_init 1 = .ok (.invokespecial 1, 3) := by decide +kernel
theorem dX12_init_4 : decode cX12_init 4 = .ok (.aload_n 0, 1) := by decide +kernel
theorem dX12_init_5 : decode cX12_init 5 = .ok (.sipush 440, 3) := by decide +kernel
theorem dX12_init_8 : decode cX12_init 8 = .ok (.newarray .int, 2) := by decide +kernel
theorem dX12_init_10 : decode cX12_init 10 = .ok (.putfield 7, 3) := by decide +kernel
theorem dX12_init_13 : decode cX12_init 13 = .ok (.aload_n 0, 1) := by decide +kernel
theorem dX12_init_14 : decode cX12_init 14 = .ok (.iconst 2, 1) := by decide +kernel
theorem dX12_init_15 : decode cX12_init 15 = .ok (.newarray .boolean, 2) := by decide +kernel
theorem dX12_init_17 : decode cX12_init 17 = .ok (.putfield 13, 3) := by decide +kernel
theorem dX12_init_20 : decode cX12_init 20 = .ok (.aload_n 0, 1) := by decide +kernel
theorem dX12_init_21 : decode cX12_init 21 = .ok (.sipush 200, 3) := by decide +kernel
theorem dX12_init_24 : decode cX12_init 24 = .ok (.newarray .int, 2) := by decide +kernel
theorem dX12_init_26 : decode cX12_init 26 = .ok (.putfield 17, 3) := by decide +kernel
theorem dX12_init_29 : decode cX12_init 29 = .ok (.aload_n 0, 1) := by decide +kernel
theorem dX12_init_30 : decode cX12_init 30 = .ok (.iconst 3, 1) := by decide +kernel
theorem dX12_init_31 : decode cX12_init 31 = .ok (.newarray .int, 2) := by decide +kernel
theorem dX12_init_33 : decode cX12_init 33 = .ok (.putfield 20, 3) := by decide +kernel
theorem dX12_init_36 : decode cX12_init 36 = .ok (.aload_n 0, 1) := by decide +kernel
theorem dX12_init_37 : decode cX12_init 37 = .ok (.iconst 5, 1) := by decide +kernel
theorem dX12_init_38 : decode cX12_init 38 = .ok (.newarray .int, 2) := by decide +kernel
theorem dX12_init_40 : decode cX12_init 40 = .ok (.putfield 23, 3) := by decide +kernel
theorem dX12_init_43 : decode cX12_init 43 = .ok (.aload_n 0, 1) := by decide +kernel
theorem dX12_init_44 : decode cX12_init 44 = .ok (.iconst 3, 1) := by decide +kernel
theorem dX12_init_45 : decode cX12_init 45 = .ok (.newarray .int, 2) := by decide +kernel
theorem dX12_init_47 : decode cX12_init 47 = .ok (.putfield 26, 3) := by decide +kernel
theorem dX12_init_50 : decode cX12_init 50 = .ok (.aload_n 0, 1) := by decide +kernel
theorem dX12_init_51 : decode cX12_init 51 = .ok (.iconst 3, 1) := by decide +kernel
theorem dX12_init_52 : decode cX12_init 52 = .ok (.newarray .int, 2) := by decide +kernel
theorem dX12_init_54 : decode cX12_init 54 = .ok (.putfield 29, 3) := by decide +kernel
theorem dX12_init_57 : decode cX12_init 57 = .ok (.aload_n 0, 1) := by decide +kernel
theorem dX12_init_58 : decode cX12_init 58 = .ok (.iconst 3, 1) := by decide +kernel
theorem dX12_init_59 : decode cX12_init 59 = .ok (.newarray .int, 2) := by decide +kernel
theorem dX12_init_61 : decode cX12_init 61 = .ok (.putfield 32, 3) := by decide +kernel
theorem dX12_init_64 : decode cX12_init 64 = .ok (.aload_n 0, 1) := by decide +kernel
theorem dX12_init_65 : decode cX12_init 65 = .ok (.iconst 3, 1) := by decide +kernel
theorem dX12_init_66 : decode cX12_init 66 = .ok (.newarray .int, 2) := by decide +kernel
theorem dX12_init_68 : decode cX12_init 68 = .ok (.putfield 35, 3) := by decide +kernel
theorem dX12_init_71 : decode cX12_init 71 = .ok (.aload_n 0, 1) := by decide +kernel
theorem dX12_init_72 : decode cX12_init 72 = .ok (.bipush 40, 2) := by decide +kernel
theorem dX12_init_74 : decode cX12_init 74 = .ok (.newarray .int, 2) := by decide +kernel
theorem dX12_init_76 : decode cX12_init 76 = .ok (.putfield 38, 3) := by decide +kernel
theorem dX12_init_79 : decode cX12_init 79 = .ok (.aload_n 0, 1) := by decide +kernel
theorem dX12_init_80 : decode cX12_init 80 = .ok (.bipush 120, 2) := by decide +kernel
theorem dX12_init_82 : decode cX12_init 82 = .ok (.newarray .int, 2) := by decide +kernel
theorem dX12_init_84 : decode cX12_init 84 = .ok (.putfield 41, 3) := by decide +kernel
theorem dX12_init_87 : decode cX12_init 87 = .ok (.aload_n 0, 1) := by decide +kernel
theorem dX12_init_88 : decode cX12_init 88 = .ok (.sipush 32000, 3) := by decide +kernel
theorem dX12_init_91 : decode cX12_init 91 = .ok (.newarray .int, 2) := by decide +kernel
theorem dX12_init_93 : decode cX12_init 93 = .ok (.putfield 44, 3) := by decide +kernel
theorem dX12_init_96 : decode cX12_init 96 = .ok (.aload_n 0, 1) := by decide +kernel
theorem dX12_init_97 : decode cX12_init 97 = .ok (.sipush 32000, 3) := by decide +kernel
theorem dX12_init_100 : decode cX12_init 100 = .ok (.newarray .int, 2) := by decide +kernel
theorem dX12_init_102 : decode cX12_init 102 = .ok (.putfield 47, 3) := by decide +kernel
theorem dX12_init_105 : decode cX12_init 105 = .ok (.aload_n 0, 1) := by decide +kernel
theorem dX12_init_106 : decode cX12_init 106 = .ok (.sipush 10240, 3) := by decide +kernel
theorem dX12_init_109 : decode cX12_init 109 = .ok (.newarray .int, 2) := by decide +kernel
theorem dX12_init_111 : decode cX12_init 111 = .ok (.putfield 50, 3) := by decide +kernel
theorem dX12_init_114 : decode cX12_init 114 = .ok (.aload_n 0, 1) := by decide +kernel
theorem dX12_init_115 : decode cX12_init 115 = .ok (.sipush 10240, 3) := by decide +kernel
theorem dX12_init_118 : decode cX12_init 118 = .ok (.newarray .int, 2) := by decide +kernel
theorem dX12_init_120 : decode cX12_init 120 = .ok (.putfield 53, 3) := by decide +kernel
theorem dX12_init_123 : decode cX12_init 123 = .ok (.return_, 1) := by decide +kernel
theorem dX12_in_0 : decode cX12_in 0 = .ok (.lload_n 0, 1) := by decide +kernel
theorem dX12_in_1 : decode cX12_in 1 = .ok (.lload_n 2, 1) := by decide +kernel
theorem dX12_in_2 : decode cX12_in 2 = .ok (.lcmp, 1) := by decide +kernel
theorem dX12_in_3 : decode cX12_in 3 = .ok (.ifCond .lt 14, 3) := by decide +kernel
theorem dX12_in_6 : decode cX12_in 6 = .ok (.lload_n 0, 1) := by decide +kernel
theorem dX12_in_7 : decode cX12_in 7 = .ok (.lload 4, 2) := by decide +kernel
theorem dX12_in_9 : decode cX12_in 9 = .ok (.lcmp, 1) := by decide +kernel
theorem dX12_in_10 : decode cX12_in 10 = .ok (.ifCond .gt 7, 3) := by decide +kernel
theorem dX12_in_13 : decode cX12_in 13 = .ok (.iconst 1, 1) := by decide +kernel
theorem dX12_in_14 : decode cX12_in 14 = .ok (.goto 4, 3) := by decide +kernel
theorem dX12_in_17 : decode cX12_in 17 = .ok (.iconst 0, 1) := by decide +kernel
theorem dX12_in_18 : decode cX12_in 18 = .ok (.ireturn, 1) := by decide +kernel
theorem dX12_has_0 : decode cX12_has 0 = .ok (.iload_n 0, 1) := by decide +kernel
theorem dX12_has_1 : decode cX12_has 1 = .ok (.iload_n 1, 1) := by decide +kernel
theorem dX12_has_2 : decode cX12_has 2 = .ok (.ishr, 1) := by decide +kernel
theorem dX12_has_3 : decode cX12_has 3 = .ok (.iconst 1, 1) := by decide +kernel
theorem dX12_has_4 : decode cX12_has 4 = .ok (.iand, 1) := by decide +kernel
theorem dX12_has_5 : decode cX12_has 5 = .ok (.iconst 1, 1) := by decide +kernel
theorem dX12_has_6 : decode cX12_has 6 = .ok (.if_icmp .ne 7, 3) := by decide +kernel
theorem dX12_has_9 : decode cX12_has 9 = .ok (.iconst 1, 1) := by decide +kernel
theorem dX12_has_10 : decode cX12_has 10 = .ok (.goto 4, 3) := by decide +kernel
theorem dX12_has_13 : decode cX12_has 13 = .ok (.iconst 0, 1) := by decide +kernel
theorem dX12_has_14 : decode cX12_has 14 = .ok (.ireturn, 1) := by decide +kernel
theorem dX12_ones_0 : decode cX12_ones 0 = .ok (.iconst 0, 1) := by decide +kernel
theorem dX12_ones_1 : decode cX12_ones 1 = .ok (.istore_n 1, 1) := by decide +kernel
theorem dX12_ones_2 : decode cX12_ones 2 = .ok (.iconst 0, 1) := by decide +kernel
theorem dX12_ones_3 : decode cX12_ones 3 = .ok (.istore_n 2, 1) := by decide +kernel
theorem dX12_ones_4 : decode cX12_ones 4 = .ok (.iload_n 2, 1) := by decide +kernel
theorem dX12_ones_5 : decode cX12_ones 5 = .ok (.iconst 5, 1) := by decide +kernel
theorem dX12_ones_6 : decode cX12_ones 6 = .ok (.if_icmp .ge 17, 3) := by decide +kernel
theorem dX12_ones_9 : decode cX12_ones 9 = .ok (.iload_n 1, 1) := by decide +kernel
theorem dX12_ones_10 : decode cX12_ones 10 = .ok (.iload_n 0, 1) := by decide +kernel
theorem dX12_ones_11 : decode cX12_ones 11 = .ok (.iload_n 2, 1) := by decide +kernel
theorem dX12_ones_12 : decode cX12_ones 12 = .ok (.ishr, 1) := by decide +kernel
theorem dX12_ones_13 : decode cX12_ones 13 = .ok (.iconst 1, 1) := by decide +kernel
theorem dX12_ones_14 : decode cX12_ones 14 = .ok (.iand, 1) := by decide +kernel
theorem dX12_ones_15 : decode cX12_ones 15 = .ok (.iadd, 1) := by decide +kernel
theorem dX12_ones_16 : decode cX12_ones 16 = .ok (.istore_n 1, 1) := by decide +kernel
theorem dX12_ones_17 : decode cX12_ones 17 = .ok (.iinc 2 1, 3) := by decide +kernel
theorem dX12_ones_20 : decode cX12_ones 20 = .ok (.goto (-16), 3) := by decide +kernel
theorem dX12_ones_23 : decode cX12_ones 23 = .ok (.iload_n 1, 1) := by decide +kernel
theorem dX12_ones_24 : decode cX12_ones 24 = .ok (.ireturn, 1) := by decide +kernel
theorem dX12_met_0 : decode cX12_met 0 = .ok (.iload_n 1, 1) := by decide +kernel
theorem dX12_met_1 : decode cX12_met 1 = .ok (.bipush (-2), 2) := by decide +kernel
theorem dX12_met_3 : decode cX12_met 3 = .ok (.if_icmp .eq 15, 3) := by decide +kernel
theorem dX12_met_6 : decode cX12_met 6 = .ok (.iload_n 1, 1) := by decide +kernel
theorem dX12_met_7 : decode cX12_met 7 = .ok (.bipush (-3), 2) := by decide +kernel
theorem dX12_met_9 : decode cX12_met 9 = .ok (.if_icmp .eq 9, 3) := by decide +kernel
theorem dX12_met_12 : decode cX12_met 12 = .ok (.iload_n 1, 1) := by decide +kernel
theorem dX12_met_13 : decode cX12_met 13 = .ok (.bipush (-4), 2) := by decide +kernel
theorem dX12_met_15 : decode cX12_met 15 = .ok (.if_icmp .ne 16, 3) := by decide +kernel
theorem dX12_met_18 : decode cX12_met 18 = .ok (.aload_n 0, 1) := by decide +kernel
theorem dX12_met_19 : decode cX12_met 19 = .ok (.getfield 20, 3) := by decide +kernel
theorem dX12_met_22 : decode cX12_met 22 = .ok (.bipush (-2), 2) := by decide +kernel
theorem dX12_met_24 : decode cX12_met 24 = .ok (.iload_n 1, 1) := by decide +kernel
theorem dX12_met_25 : decode cX12_met 25 = .ok (.isub, 1) := by decide +kernel
theorem dX12_met_26 : decode cX12_met 26 = .ok (.dup2, 1) := by decide +kernel
theorem dX12_met_27 : decode cX12_met 27 = .ok (.iaload, 1) := by decide +kernel
theorem dX12_met_28 : decode cX12_met 28 = .ok (.iconst 1, 1) := by decide +kernel
theorem dX12_met_29 : decode cX12_met 29 = .ok (.iadd, 1) := by decide +kernel
theorem dX12_met_30 : decode cX12_met 30 = .ok (.iastore, 1) := by decide +kernel
theorem dX12_met_31 : decode cX12_met 31 = .ok (.iload_n 1, 1) := by decide +kernel
theorem dX12_met_32 : decode cX12_met 32 = .ok (.ireturn, 1) := by decide +kernel
theorem dX12_bad_0 : decode cX12_bad 0 = .ok (.aload_n 0, 1) := by decide +kernel
theorem dX12_bad_1 : decode cX12_bad 1 = .ok (.bipush (-2), 2) := by decide +kernel
theorem dX12_bad_3 : decode cX12_bad 3 = .ok (.invokevirtual 56, 3) := by decide +kernel
theorem dX12_bad_6 : decode cX12_bad 6 = .ok (.ireturn, 1) := by decide +kernel
theorem dX12_copy_0 : decode cX12_copy 0 = .ok (.iconst 0, 1) := by decide +kernel
theorem dX12_copy_1 : decode cX12_copy 1 = .ok (.istore_n 3, 1) := by decide +kernel
theorem dX12_copy_2 : decode cX12_copy 2 = .ok (.iload_n 3, 1) := by decide +kernel
theorem dX12_copy_3 : decode cX12_copy 3 = .ok (.bipush 110, 2) := by decide +kernel
theorem dX12_copy_5 : decode cX12_copy 5 = .ok (.if_icmp .ge 25, 3) := by decide +kernel
theorem dX12_copy_8 : decode cX12_copy 8 = .ok (.aload_n 0, 1) := by decide +kernel
theorem dX12_copy_9 : decode cX12_copy 9 = .ok (.getfield 7, 3) := by decide +kernel
theorem dX12_copy_12 : decode cX12_copy 12 = .ok (.iload_n 2, 1) := by decide +kernel
theorem dX12_copy_13 : decode cX12_copy 13 = .ok (.iload_n 3, 1) := by decide +kernel
theorem dX12_copy_14 : decode cX12_copy 14 = .ok (.iadd, 1) := by decide +kernel
theorem dX12_copy_15 : decode cX12_copy 15 = .ok (.aload_n 0, 1) := by decide +kernel
theorem dX12_copy_16 : decode cX12_copy 16 = .ok (.getfield 7, 3) := by decide +kernel
theorem dX12_copy_19 : decode cX12_copy 19 = .ok (.iload_n 1, 1) := by decide +kernel
theorem dX12_copy_20 : decode cX12_copy 20 = .ok (.iload_n 3, 1) := by decide +kernel
theorem dX12_copy_21 : decode cX12_copy 21 = .ok (.iadd, 1) := by decide +kernel
theorem dX12_copy_22 : decode cX12_copy 22 = .ok (.iaload, 1) := by decide +kernel
theorem dX12_copy_23 : decode cX12_copy 23 = .ok (.iastore, 1) := by decide +kernel
theorem dX12_copy_24 : decode cX12_copy 24 = .ok (.iinc 3 1, 3) := by decide +kernel
theorem dX12_copy_27 : decode cX12_copy 27 = .ok (.goto (-25), 3) := by decide +kernel
theorem dX12_copy_30 : decode cX12_copy 30 = .ok (.return_, 1) := by decide +kernel
theorem dX12_addBridge_0 : decode cX12_addBridge 0 = .ok (.iload_n 2, 1) := by decide +kernel
theorem dX12_addBridge_1 : decode cX12_addBridge 1 = .ok (.i2l, 1) := by decide +kernel
theorem dX12_addBridge_2 : decode cX12_addBridge 2 = .ok (.lconst 0, 1) := by decide +kernel
theorem dX12_addBridge_3 : decode cX12_addBridge 3 = .ok (.ldc2_w 60, 3) := by decide +kernel
theorem dX12_addBridge_6 : decode cX12_addBridge 6 = .ok (.invokestatic 62, 3) := by decide +kernel
theorem dX12_addBridge_9 : decode cX12_addBridge 9 = .ok (.ifCond .eq 33, 3) := by decide +kernel
theorem dX12_addBridge_12 : decode cX12_addBridge 12 = .ok (.iload_n 3, 1) := by decide +kernel
theorem dX12_addBridge_13 : decode cX12_addBridge 13 = .ok (.i2l, 1) := by decide +kernel
theorem dX12_addBridge_14 : decode cX12_addBridge 14 = .ok (.lconst 0, 1) := by decide +kernel
theorem dX12_addBridge_15 : decode cX12_addBridge 15 = .ok (.ldc2_w 60, 3) := by decide +kernel
theorem dX12_addBridge_18 : decode cX12_addBridge 18 = .ok (.invokestatic 62, 3) := by decide +kernel
theorem dX12_addBridge_21 : decode cX12_addBridge 21 = .ok (.ifCond .eq 21, 3) := by decide +kernel
theorem dX12_addBridge_24 : decode cX12_addBridge 24 = .ok (.iload_n 2, 1) := by decide +kernel
theorem dX12_addBridge_25 : decode cX12_addBridge 25 = .ok (.iload_n 3, 1) := by decide +kernel
theorem dX12_addBridge_26 : decode cX12_addBridge 26 = .ok (.if_icmp .eq 16, 3) := by decide +kernel
theorem dX12_addBridge_29 : decode cX12_addBridge 29 = .ok (.iload 4, 2) := by decide +kernel
theorem dX12_addBridge_31 : decode cX12_addBridge 31 = .ok (.i2l, 1) := by decide +kernel
theorem dX12_addBridge_32 : decode cX12_addBridge 32 = .ok (.lconst 0, 1) := by decide +kernel
theorem dX12_addBridge_33 : decode cX12_addBridge 33 = .ok (.ldc2_w 66, 3) := by decide +kernel
theorem dX12_addBridge_36 : decode cX12_addBridge 36 = .ok (.invokestatic 62, 3) := by decide +kernel
theorem dX12_addBridge_39 : decode cX12_addBridge 39 = .ok (.ifCond .ne 6, 3) := by decide +kernel
theorem dX12_addBridge_42 : decode cX12_addBridge 42 = .ok (.bipush (-2), 2) := by decide +kernel
theorem dX12_addBridge_44 : decode cX12_addBridge 44 = .ok (.ireturn, 1) := by decide +kernel
theorem dX12_addBridge_45 : decode cX12_addBridge 45 = .ok (.aload_n 0, 1) := by decide +kernel
theorem dX12_addBridge_46 : decode cX12_addBridge 46 = .ok (.getfield 7, 3) := by decide +kernel
theorem dX12_addBridge_49 : decode cX12_addBridge 49 = .ok (.iload_n 1, 1) := by decide +kernel
theorem dX12_addBridge_50 : decode cX12_addBridge 50 = .ok (.iconst 0, 1) := by decide +kernel
theorem dX12_addBridge_51 : decode cX12_addBridge 51 = .ok (.iadd, 1) := by decide +kernel
theorem dX12_addBridge_52 : decode cX12_addBridge 52 = .ok (.iaload, 1) := by decide +kernel
theorem dX12_addBridge_53 : decode cX12_addBridge 53 = .ok (.istore 6, 2) := by decide +kernel
theorem dX12_addBridge_55 : decode cX12_addBridge 55 = .ok (.iload 6, 2) := by decide +kernel
theorem dX12_addBridge_57 : decode cX12_addBridge 57 = .ok (.iconst 5, 1) := by decide +kernel
theorem dX12_addBridge_58 : decode cX12_addBridge 58 = .ok (.if_icmp .ne 6, 3) := by decide +kernel
theorem dX12_addBridge_61 : decode cX12_addBridge 61 = .ok (.bipush (-4), 2) := by decide +kernel
theorem dX12_addBridge_63 : decode cX12_addBridge 63 = .ok (.ireturn, 1) := by decide +kernel
theorem dX12_addBridge_64 : decode cX12_addBridge 64 = .ok (.aload_n 0, 1) := by decide +kernel
theorem dX12_addBridge_65 : decode cX12_addBridge 65 = .ok (.getfield 7, 3) := by decide +kernel
theorem dX12_addBridge_68 : decode cX12_addBridge 68 = .ok (.iload_n 1, 1) := by decide +kernel
theorem dX12_addBridge_69 : decode cX12_addBridge 69 = .ok (.iconst 1, 1) := by decide +kernel
theorem dX12_addBridge_70 : decode cX12_addBridge 70 = .ok (.iadd, 1) := by decide +kernel
theorem dX12_addBridge_71 : decode cX12_addBridge 71 = .ok (.iload 6, 2) := by decide +kernel
theorem dX12_addBridge_73 : decode cX12_addBridge 73 = .ok (.iadd, 1) := by decide +kernel
theorem dX12_addBridge_74 : decode cX12_addBridge 74 = .ok (.iload_n 2, 1) := by decide +kernel
theorem dX12_addBridge_75 : decode cX12_addBridge 75 = .ok (.iastore, 1) := by decide +kernel
theorem dX12_addBridge_76 : decode cX12_addBridge 76 = .ok (.aload_n 0, 1) := by decide +kernel
theorem dX12_addBridge_77 : decode cX12_addBridge 77 = .ok (.getfield 7, 3) := by decide +kernel
theorem dX12_addBridge_80 : decode cX12_addBridge 80 = .ok (.iload_n 1, 1) := by decide +kernel
theorem dX12_addBridge_81 : decode cX12_addBridge 81 = .ok (.bipush 6, 2) := by decide +kernel
theorem dX12_addBridge_83 : decode cX12_addBridge 83 = .ok (.iadd, 1) := by decide +kernel
theorem dX12_addBridge_84 : decode cX12_addBridge 84 = .ok (.iload 6, 2) := by decide +kernel
theorem dX12_addBridge_86 : decode cX12_addBridge 86 = .ok (.iadd, 1) := by decide +kernel
theorem dX12_addBridge_87 : decode cX12_addBridge 87 = .ok (.iload_n 3, 1) := by decide +kernel
theorem dX12_addBridge_88 : decode cX12_addBridge 88 = .ok (.iastore, 1) := by decide +kernel
theorem dX12_addBridge_89 : decode cX12_addBridge 89 = .ok (.aload_n 0, 1) := by decide +kernel
theorem dX12_addBridge_90 : decode cX12_addBridge 90 = .ok (.getfield 7, 3) := by decide +kernel
theorem dX12_addBridge_93 : decode cX12_addBridge 93 = .ok (.iload_n 1, 1) := by decide +kernel
theorem dX12_addBridge_94 : decode cX12_addBridge 94 = .ok (.bipush 11, 2) := by decide +kernel
theorem dX12_addBridge_96 : decode cX12_addBridge 96 = .ok (.iadd, 1) := by decide +kernel
theorem dX12_addBridge_97 : decode cX12_addBridge 97 = .ok (.iload 6, 2) := by decide +kernel
theorem dX12_addBridge_99 : decode cX12_addBridge 99 = .ok (.iadd, 1) := by decide +kernel
theorem dX12_addBridge_100 : decode cX12_addBridge 100 = .ok (.iload 4, 2) := by decide +kernel
theorem dX12_addBridge_102 : decode cX12_addBridge 102 = .ok (.iastore, 1) := by decide +kernel
theorem dX12_addBridge_103 : decode cX12_addBridge 103 = .ok (.aload_n 0, 1) := by decide +kernel
theorem dX12_addBridge_104 : decode cX12_addBridge 104 = .ok (.getfield 7, 3) := by decide +kernel
theorem dX12_addBridge_107 : decode cX12_addBridge 107 = .ok (.iload_n 1, 1) := by decide +kernel
theorem dX12_addBridge_108 : decode cX12_addBridge 108 = .ok (.bipush 16, 2) := by decide +kernel
theorem dX12_addBridge_110 : decode cX12_addBridge 110 = .ok (.iadd, 1) := by decide +kernel
theorem dX12_addBridge_111 : decode cX12_addBridge 111 = .ok (.iload 6, 2) := by decide +kernel
theorem dX12_addBridge_113 : decode cX12_addBridge 113 = .ok (.iadd, 1) := by decide +kernel
theorem dX12_addBridge_114 : decode cX12_addBridge 114 = .ok (.iconst 0, 1) := by decide +kernel
theorem dX12_addBridge_115 : decode cX12_addBridge 115 = .ok (.iastore, 1) := by decide +kernel
theorem dX12_addBridge_116 : decode cX12_addBridge 116 = .ok (.aload_n 0, 1) := by decide +kernel
theorem dX12_addBridge_117 : decode cX12_addBridge 117 = .ok (.getfield 7, 3) := by decide +kernel
theorem dX12_addBridge_120 : decode cX12_addBridge 120 = .ok (.iload_n 1, 1) := by decide +kernel
theorem dX12_addBridge_121 : decode cX12_addBridge 121 = .ok (.bipush 21, 2) := by decide +kernel
theorem dX12_addBridge_123 : decode cX12_addBridge 123 = .ok (.iadd, 1) := by decide +kernel
theorem dX12_addBridge_124 : decode cX12_addBridge 124 = .ok (.dup2, 1) := by decide +kernel
theorem dX12_addBridge_125 : decode cX12_addBridge 125 = .ok (.iaload, 1) := by decide +kernel
theorem dX12_addBridge_126 : decode cX12_addBridge 126 = .ok (.iload 5, 2) := by decide +kernel
theorem dX12_addBridge_128 : decode cX12_addBridge 128 = .ok (.ifCond .eq 10, 3) := by decide +kernel
theorem dX12_addBridge_131 : decode cX12_addBridge 131 = .ok (.iconst 1, 1) := by decide +kernel
theorem dX12_addBridge_132 : decode cX12_addBridge 132 = .ok (.iload 6, 2) := by decide +kernel
theorem dX12_addBridge_134 : decode cX12_addBridge 134 = .ok (.ishl, 1) := by decide +kernel
theorem dX12_addBridge_135 : decode cX12_addBridge 135 = .ok (.goto 4, 3) := by decide +kernel
theorem dX12_addBridge_138 : decode cX12_addBridge 138 = .ok (.iconst 0, 1) := by decide +kernel
theorem dX12_addBridge_139 : decode cX12_addBridge 139 = .ok (.ior, 1) := by decide +kernel
theorem dX12_addBridge_140 : decode cX12_addBridge 140 = .ok (.iastore, 1) := by decide +kernel
theorem dX12_addBridge_141 : decode cX12_addBridge 141 = .ok (.aload_n 0, 1) := by decide +kernel
theorem dX12_addBridge_142 : decode cX12_addBridge 142 = .ok (.getfield 7, 3) := by decide +kernel
theorem dX12_addBridge_145 : decode cX12_addBridge 145 = .ok (.iload_n 1, 1) := by decide +kernel
theorem dX12_addBridge_146 : decode cX12_addBridge 146 = .ok (.iconst 0, 1) := by decide +kernel
theorem dX12_addBridge_147 : decode cX12_addBridge 147 = .ok (.iadd, 1) := by decide +kernel
theorem dX12_addBridge_148 : decode cX12_addBridge 148 = .ok (.dup2, 1) := by decide +kernel
theorem dX12_addBridge_149 : decode cX12_addBridge 149 = .ok (.iaload, 1) := by decide +kernel
theorem dX12_addBridge_150 : decode cX12_addBridge 150 = .ok (.iconst 1, 1) := by decide +kernel
theorem dX12_addBridge_151 : decode cX12_addBridge 151 = .ok (.iadd, 1) := by decide +kernel
theorem dX12_addBridge_152 : decode cX12_addBridge 152 = .ok (.iastore, 1) := by decide +kernel
theorem dX12_addBridge_153 : decode cX12_addBridge 153 = .ok (.aload_n 0, 1) := by decide +kernel
theorem dX12_addBridge_154 : decode cX12_addBridge 154 = .ok (.getfield 7, 3) := by decide +kernel
theorem dX12_addBridge_157 : decode cX12_addBridge 157 = .ok (.iload_n 1, 1) := by decide +kernel
theorem dX12_addBridge_158 : decode cX12_addBridge 158 = .ok (.bipush 36, 2) := by decide +kernel
theorem dX12_addBridge_160 : decode cX12_addBridge 160 = .ok (.iadd, 1) := by decide +kernel
theorem dX12_addBridge_161 : decode cX12_addBridge 161 = .ok (.iconst 0, 1) := by decide +kernel
theorem dX12_addBridge_162 : decode cX12_addBridge 162 = .ok (.iastore, 1) := by decide +kernel
theorem dX12_addBridge_163 : decode cX12_addBridge 163 = .ok (.iload 6, 2) := by decide +kernel
theorem dX12_addBridge_165 : decode cX12_addBridge 165 = .ok (.ireturn, 1) := by decide +kernel
theorem dX12_isBridge_0 : decode cX12_isBridge 0 = .ok (.iload_n 2, 1) := by decide +kernel
theorem dX12_isBridge_1 : decode cX12_isBridge 1 = .ok (.i2l, 1) := by decide +kernel
theorem dX12_isBridge_2 : decode cX12_isBridge 2 = .ok (.lconst 0, 1) := by decide +kernel
theorem dX12_isBridge_3 : decode cX12_isBridge 3 = .ok (.aload_n 0, 1) := by decide +kernel
theorem dX12_isBridge_4 : decode cX12_isBridge 4 = .ok (.getfield 7, 3) := by decide +kernel
theorem dX12_isBridge_7 : decode cX12_isBridge 7 = .ok (.iload_n 1, 1) := by decide +kernel
theorem dX12_isBridge_8 : decode cX12_isBridge 8 = .ok (.iconst 0, 1) := by decide +kernel
theorem dX12_isBridge_9 : decode cX12_isBridge 9 = .ok (.iadd, 1) := by decide +kernel
theorem dX12_isBridge_10 : decode cX12_isBridge 10 = .ok (.iaload, 1) := by decide +kernel
theorem dX12_isBridge_11 : decode cX12_isBridge 11 = .ok (.iconst 1, 1) := by decide +kernel
theorem dX12_isBridge_12 : decode cX12_isBridge 12 = .ok (.isub, 1) := by decide +kernel
theorem dX12_isBridge_13 : decode cX12_isBridge 13 = .ok (.i2l, 1) := by decide +kernel
theorem dX12_isBridge_14 : decode cX12_isBridge 14 = .ok (.invokestatic 62, 3) := by decide +kernel
theorem dX12_isBridge_17 : decode cX12_isBridge 17 = .ok (.ireturn, 1) := by decide +kernel
theorem dX12_isTied_0 : decode cX12_isTied 0 = .ok (.iconst 0, 1) := by decide +kernel
theorem dX12_isTied_1 : decode cX12_isTied 1 = .ok (.istore_n 3, 1) := by decide +kernel
theorem dX12_isTied_2 : decode cX12_isTied 2 = .ok (.iconst 0, 1) := by decide +kernel
theorem dX12_isTied_3 : decode cX12_isTied 3 = .ok (.istore 4, 2) := by decide +kernel
theorem dX12_isTied_5 : decode cX12_isTied 5 = .ok (.iload 4, 2) := by decide +kernel
theorem dX12_isTied_7 : decode cX12_isTied 7 = .ok (.aload_n 0, 1) := by decide +kernel
theorem dX12_isTied_8 : decode cX12_isTied 8 = .ok (.getfield 7, 3) := by decide +kernel
theorem dX12_isTied_11 : decode cX12_isTied 11 = .ok (.iload_n 1, 1) := by decide +kernel
theorem dX12_isTied_12 : decode cX12_isTied 12 = .ok (.bipush 22, 2) := by decide +kernel
theorem dX12_isTied_14 : decode cX12_isTied 14 = .ok (.iadd, 1) := by decide +kernel
theorem dX12_isTied_15 : decode cX12_isTied 15 = .ok (.iaload, 1) := by decide +kernel
theorem dX12_isTied_16 : decode cX12_isTied 16 = .ok (.if_icmp .ge 51, 3) := by decide +kernel
theorem dX12_isTied_19 : decode cX12_isTied 19 = .ok (.iload_n 3, 1) := by decide +kernel
theorem dX12_isTied_20 : decode cX12_isTied 20 = .ok (.ifCond .ne 35, 3) := by decide +kernel
theorem dX12_isTied_23 : decode cX12_isTied 23 = .ok (.aload_n 0, 1) := by decide +kernel
theorem dX12_isTied_24 : decode cX12_isTied 24 = .ok (.getfield 7, 3) := by decide +kernel
theorem dX12_isTied_27 : decode cX12_isTied 27 = .ok (.iload_n 1, 1) := by decide +kernel
theorem dX12_isTied_28 : decode cX12_isTied 28 = .ok (.bipush 23, 2) := by decide +kernel
theorem dX12_isTied_30 : decode cX12_isTied 30 = .ok (.iadd, 1) := by decide +kernel
theorem dX12_isTied_31 : decode cX12_isTied 31 = .ok (.iload 4, 2) := by decide +kernel
theorem dX12_isTied_33 : decode cX12_isTied 33 = .ok (.iadd, 1) := by decide +kernel
theorem dX12_isTied_34 : decode cX12_isTied 34 = .ok (.iaload, 1) := by decide +kernel
theorem dX12_isTied_35 : decode cX12_isTied 35 = .ok (.iload_n 2, 1) := by decide +kernel
theorem dX12_isTied_36 : decode cX12_isTied 36 = .ok (.if_icmp .eq 19, 3) := by decide +kernel
theorem dX12_isTied_39 : decode cX12_isTied 39 = .ok (.aload_n 0, 1) := by decide +kernel
theorem dX12_isTied_40 : decode cX12_isTied 40 = .ok (.getfield 7, 3) := by decide +kernel
theorem dX12_isTied_43 : decode cX12_isTied 43 = .ok (.iload_n 1, 1) := by decide +kernel
theorem dX12_isTied_44 : decode cX12_isTied 44 = .ok (.bipush 25, 2) := by decide +kernel
theorem dX12_isTied_46 : decode cX12_isTied 46 = .ok (.iadd, 1) := by decide +kernel
theorem dX12_isTied_47 : decode cX12_isTied 47 = .ok (.iload 4, 2) := by decide +kernel
theorem dX12_isTied_49 : decode cX12_isTied 49 = .ok (.iadd, 1) := by decide +kernel
theorem dX12_isTied_50 : decode cX12_isTied 50 = .ok (.iaload, 1) := by decide +kernel
theorem dX12_isTied_51 : decode cX12_isTied 51 = .ok (.iload_n 2, 1) := by decide +kernel
theorem dX12_isTied_52 : decode cX12_isTied 52 = .ok (.if_icmp .ne 7, 3) := by decide +kernel
theorem dX12_isTied_55 : decode cX12_isTied 55 = .ok (.iconst 1, 1) := by decide +kernel
theorem dX12_isTied_56 : decode cX12_isTied 56 = .ok (.goto 4, 3) := by decide +kernel
theorem dX12_isTied_59 : decode cX12_isTied 59 = .ok (.iconst 0, 1) := by decide +kernel
theorem dX12_isTied_60 : decode cX12_isTied 60 = .ok (.istore_n 3, 1) := by decide +kernel
theorem dX12_isTied_61 : decode cX12_isTied 61 = .ok (.iinc 4 1, 3) := by decide +kernel
theorem dX12_isTied_64 : decode cX12_isTied 64 = .ok (.goto (-59), 3) := by decide +kernel
theorem dX12_isTied_67 : decode cX12_isTied 67 = .ok (.iload_n 3, 1) := by decide +kernel
theorem dX12_isTied_68 : decode cX12_isTied 68 = .ok (.ireturn, 1) := by decide +kernel
theorem dX12_addChain_0 : decode cX12_addChain 0 = .ok (.aload_n 0, 1) := by decide +kernel
theorem dX12_addChain_1 : decode cX12_addChain 1 = .ok (.iload_n 1, 1) := by decide +kernel
theorem dX12_addChain_2 : decode cX12_addChain 2 = .ok (.iload_n 2, 1) := by decide +kernel
theorem dX12_addChain_3 : decode cX12_addChain 3 = .ok (.invokevirtual 68, 3) := by decide +kernel
theorem dX12_addChain_6 : decode cX12_addChain 6 = .ok (.ifCond .eq 30, 3) := by decide +kernel
theorem dX12_addChain_9 : decode cX12_addChain 9 = .ok (.aload_n 0, 1) := by decide +kernel
theorem dX12_addChain_10 : decode cX12_addChain 10 = .ok (.iload_n 1, 1) := by decide +kernel
theorem dX12_addChain_11 : decode cX12_addChain 11 = .ok (.iload_n 3, 1) := by decide +kernel
theorem dX12_addChain_12 : decode cX12_addChain 12 = .ok (.invokevirtual 68, 3) := by decide +kernel
theorem dX12_addChain_15 : decode cX12_addChain 15 = .ok (.ifCond .eq 21, 3) := by decide +kernel
theorem dX12_addChain_18 : decode cX12_addChain 18 = .ok (.iload_n 2, 1) := by decide +kernel
theorem dX12_addChain_19 : decode cX12_addChain 19 = .ok (.iload_n 3, 1) := by decide +kernel
theorem dX12_addChain_20 : decode cX12_addChain 20 = .ok (.if_icmp .eq 16, 3) := by decide +kernel
theorem dX12_addChain_23 : decode cX12_addChain 23 = .ok (.iload 4, 2) := by decide +kernel
theorem dX12_addChain_25 : decode cX12_addChain 25 = .ok (.i2l, 1) := by decide +kernel
theorem dX12_addChain_26 : decode cX12_addChain 26 = .ok (.lconst 0, 1) := by decide +kernel
theorem dX12_addChain_27 : decode cX12_addChain 27 = .ok (.ldc2_w 72, 3) := by decide +kernel
theorem dX12_addChain_30 : decode cX12_addChain 30 = .ok (.invokestatic 62, 3) := by decide +kernel
theorem dX12_addChain_33 : decode cX12_addChain 33 = .ok (.ifCond .ne 6, 3) := by decide +kernel
theorem dX12_addChain_36 : decode cX12_addChain 36 = .ok (.bipush (-2), 2) := by decide +kernel
theorem dX12_addChain_38 : decode cX12_addChain 38 = .ok (.ireturn, 1) := by decide +kernel
theorem dX12_addChain_39 : decode cX12_addChain 39 = .ok (.aload_n 0, 1) := by decide +kernel
theorem dX12_addChain_40 : decode cX12_addChain 40 = .ok (.iload_n 1, 1) := by decide +kernel
theorem dX12_addChain_41 : decode cX12_addChain 41 = .ok (.iload_n 2, 1) := by decide +kernel
theorem dX12_addChain_42 : decode cX12_addChain 42 = .ok (.invokevirtual 74, 3) := by decide +kernel
theorem dX12_addChain_45 : decode cX12_addChain 45 = .ok (.ifCond .ne 12, 3) := by decide +kernel
theorem dX12_addChain_48 : decode cX12_addChain 48 = .ok (.aload_n 0, 1) := by decide +kernel
theorem dX12_addChain_49 : decode cX12_addChain 49 = .ok (.iload_n 1, 1) := by decide +kernel
theorem dX12_addChain_50 : decode cX12_addChain 50 = .ok (.iload_n 3, 1) := by decide +kernel
theorem dX12_addChain_51 : decode cX12_addChain 51 = .ok (.invokevirtual 74, 3) := by decide +kernel
theorem dX12_addChain_54 : decode cX12_addChain 54 = .ok (.ifCond .eq 6, 3) := by decide +kernel
theorem dX12_addChain_57 : decode cX12_addChain 57 = .ok (.bipush (-3), 2) := by decide +kernel
theorem dX12_addChain_59 : decode cX12_addChain 59 = .ok (.ireturn, 1) := by decide +kernel
theorem dX12_addChain_60 : decode cX12_addChain 60 = .ok (.aload_n 0, 1) := by decide +kernel
theorem dX12_addChain_61 : decode cX12_addChain 61 = .ok (.getfield 7, 3) := by decide +kernel
theorem dX12_addChain_64 : decode cX12_addChain 64 = .ok (.iload_n 1, 1) := by decide +kernel
theorem dX12_addChain_65 : decode cX12_addChain 65 = .ok (.bipush 22, 2) := by decide +kernel
theorem dX12_addChain_67 : decode cX12_addChain 67 = .ok (.iadd, 1) := by decide +kernel
theorem dX12_addChain_68 : decode cX12_addChain 68 = .ok (.iaload, 1) := by decide +kernel
theorem dX12_addChain_69 : decode cX12_addChain 69 = .ok (.istore 5, 2) := by decide +kernel
theorem dX12_addChain_71 : decode cX12_addChain 71 = .ok (.iload 5, 2) := by decide +kernel
theorem dX12_addChain_73 : decode cX12_addChain 73 = .ok (.iconst 2, 1) := by decide +kernel
theorem dX12_addChain_74 : decode cX12_addChain 74 = .ok (.if_icmp .ne 6, 3) := by decide +kernel
theorem dX12_addChain_77 : decode cX12_addChain 77 = .ok (.bipush (-4), 2) := by decide +kernel
theorem dX12_addChain_79 : decode cX12_addChain 79 = .ok (.ireturn, 1) := by decide +kernel
theorem dX12_addChain_80 : decode cX12_addChain 80 = .ok (.aload_n 0, 1) := by decide +kernel
theorem dX12_addChain_81 : decode cX12_addChain 81 = .ok (.getfield 7, 3) := by decide +kernel
theorem dX12_addChain_84 : decode cX12_addChain 84 = .ok (.iload_n 1, 1) := by decide +kernel
theorem dX12_addChain_85 : decode cX12_addChain 85 = .ok (.bipush 23, 2) := by decide +kernel
theorem dX12_addChain_87 : decode cX12_addChain 87 = .ok (.iadd, 1) := by decide +kernel
theorem dX12_addChain_88 : decode cX12_addChain 88 = .ok (.iload 5, 2) := by decide +kernel
theorem dX12_addChain_90 : decode cX12_addChain 90 = .ok (.iadd, 1) := by decide +kernel
theorem dX12_addChain_91 : decode cX12_addChain 91 = .ok (.iload_n 2, 1) := by decide +kernel
theorem dX12_addChain_92 : decode cX12_addChain 92 = .ok (.iastore, 1) := by decide +kernel
theorem dX12_addChain_93 : decode cX12_addChain 93 = .ok (.aload_n 0, 1) := by decide +kernel
theorem dX12_addChain_94 : decode cX12_addChain 94 = .ok (.getfield 7, 3) := by decide +kernel
theorem dX12_addChain_97 : decode cX12_addChain 97 = .ok (.iload_n 1, 1) := by decide +kernel
theorem dX12_addChain_98 : decode cX12_addChain 98 = .ok (.bipush 25, 2) := by decide +kernel
theorem dX12_addChain_100 : decode cX12_addChain 100 = .ok (.iadd, 1) := by decide +kernel
theorem dX12_addChain_101 : decode cX12_addChain 101 = .ok (.iload 5, 2) := by decide +kernel
theorem dX12_addChain_103 : decode cX12_addChain 103 = .ok (.iadd, 1) := by decide +kernel
theorem dX12_addChain_104 : decode cX12_addChain 104 = .ok (.iload_n 3, 1) := by decide +kernel
theorem dX12_addChain_105 : decode cX12_addChain 105 = .ok (.iastore, 1) := by decide +kernel
theorem dX12_addChain_106 : decode cX12_addChain 106 = .ok (.aload_n 0, 1) := by decide +kernel
theorem dX12_addChain_107 : decode cX12_addChain 107 = .ok (.getfield 7, 3) := by decide +kernel
theorem dX12_addChain_110 : decode cX12_addChain 110 = .ok (.iload_n 1, 1) := by decide +kernel
theorem dX12_addChain_111 : decode cX12_addChain 111 = .ok (.bipush 27, 2) := by decide +kernel
theorem dX12_addChain_113 : decode cX12_addChain 113 = .ok (.iadd, 1) := by decide +kernel
theorem dX12_addChain_114 : decode cX12_addChain 114 = .ok (.iload 5, 2) := by decide +kernel
theorem dX12_addChain_116 : decode cX12_addChain 116 = .ok (.iadd, 1) := by decide +kernel
theorem dX12_addChain_117 : decode cX12_addChain 117 = .ok (.iload 4, 2) := by decide +kernel
theorem dX12_addChain_119 : decode cX12_addChain 119 = .ok (.iastore, 1) := by decide +kernel
theorem dX12_addChain_120 : decode cX12_addChain 120 = .ok (.aload_n 0, 1) := by decide +kernel
theorem dX12_addChain_121 : decode cX12_addChain 121 = .ok (.getfield 7, 3) := by decide +kernel
theorem dX12_addChain_124 : decode cX12_addChain 124 = .ok (.iload_n 1, 1) := by decide +kernel
theorem dX12_addChain_125 : decode cX12_addChain 125 = .ok (.bipush 22, 2) := by decide +kernel
theorem dX12_addChain_127 : decode cX12_addChain 127 = .ok (.iadd, 1) := by decide +kernel
theorem dX12_addChain_128 : decode cX12_addChain 128 = .ok (.dup2, 1) := by decide +kernel
theorem dX12_addChain_129 : decode cX12_addChain 129 = .ok (.iaload, 1) := by decide +kernel
theorem dX12_addChain_130 : decode cX12_addChain 130 = .ok (.iconst 1, 1) := by decide +kernel
theorem dX12_addChain_131 : decode cX12_addChain 131 = .ok (.iadd, 1) := by decide +kernel
theorem dX12_addChain_132 : decode cX12_addChain 132 = .ok (.iastore, 1) := by decide +kernel
theorem dX12_addChain_133 : decode cX12_addChain 133 = .ok (.aload_n 0, 1) := by decide +kernel
theorem dX12_addChain_134 : decode cX12_addChain 134 = .ok (.getfield 7, 3) := by decide +kernel
theorem dX12_addChain_137 : decode cX12_addChain 137 = .ok (.iload_n 1, 1) := by decide +kernel
theorem dX12_addChain_138 : decode cX12_addChain 138 = .ok (.bipush 36, 2) := by decide +kernel
theorem dX12_addChain_140 : decode cX12_addChain 140 = .ok (.iadd, 1) := by decide +kernel
theorem dX12_addChain_141 : decode cX12_addChain 141 = .ok (.iconst 0, 1) := by decide +kernel
theorem dX12_addChain_142 : decode cX12_addChain 142 = .ok (.iastore, 1) := by decide +kernel
theorem dX12_addChain_143 : decode cX12_addChain 143 = .ok (.iload 5, 2) := by decide +kernel
theorem dX12_addChain_145 : decode cX12_addChain 145 = .ok (.ireturn, 1) := by decide +kernel
theorem dX12_setLoad_0 : decode cX12_setLoad 0 = .ok (.aload_n 0, 1) := by decide +kernel
theorem dX12_setLoad_1 : decode cX12_setLoad 1 = .ok (.iload_n 1, 1) := by decide +kernel
theorem dX12_setLoad_2 : decode cX12_setLoad 2 = .ok (.iload_n 2, 1) := by decide +kernel
theorem dX12_setLoad_3 : decode cX12_setLoad 3 = .ok (.invokevirtual 68, 3) := by decide +kernel
theorem dX12_setLoad_6 : decode cX12_setLoad 6 = .ok (.ifCond .eq 15, 3) := by decide +kernel
theorem dX12_setLoad_9 : decode cX12_setLoad 9 = .ok (.iload_n 3, 1) := by decide +kernel
theorem dX12_setLoad_10 : decode cX12_setLoad 10 = .ok (.i2l, 1) := by decide +kernel
theorem dX12_setLoad_11 : decode cX12_setLoad 11 = .ok (.lconst 0, 1) := by decide +kernel
theorem dX12_setLoad_12 : decode cX12_setLoad 12 = .ok (.ldc2_w 77, 3) := by decide +kernel
theorem dX12_setLoad_15 : decode cX12_setLoad 15 = .ok (.invokestatic 62, 3) := by decide +kernel
theorem dX12_setLoad_18 : decode cX12_setLoad 18 = .ok (.ifCond .ne 6, 3) := by decide +kernel
theorem dX12_setLoad_21 : decode cX12_setLoad 21 = .ok (.bipush (-2), 2) := by decide +kernel
theorem dX12_setLoad_23 : decode cX12_setLoad 23 = .ok (.ireturn, 1) := by decide +kernel
theorem dX12_setLoad_24 : decode cX12_setLoad 24 = .ok (.aload_n 0, 1) := by decide +kernel
theorem dX12_setLoad_25 : decode cX12_setLoad 25 = .ok (.getfield 7, 3) := by decide +kernel
theorem dX12_setLoad_28 : decode cX12_setLoad 28 = .ok (.iload_n 1, 1) := by decide +kernel
theorem dX12_setLoad_29 : decode cX12_setLoad 29 = .ok (.bipush 16, 2) := by decide +kernel
theorem dX12_setLoad_31 : decode cX12_setLoad 31 = .ok (.iadd, 1) := by decide +kernel
theorem dX12_setLoad_32 : decode cX12_setLoad 32 = .ok (.iload_n 2, 1) := by decide +kernel
theorem dX12_setLoad_33 : decode cX12_setLoad 33 = .ok (.iadd, 1) := by decide +kernel
theorem dX12_setLoad_34 : decode cX12_setLoad 34 = .ok (.iaload, 1) := by decide +kernel
theorem dX12_setLoad_35 : decode cX12_setLoad 35 = .ok (.istore 4, 2) := by decide +kernel
theorem dX12_setLoad_37 : decode cX12_setLoad 37 = .ok (.aload_n 0, 1) := by decide +kernel
theorem dX12_setLoad_38 : decode cX12_setLoad 38 = .ok (.getfield 7, 3) := by decide +kernel
theorem dX12_setLoad_41 : decode cX12_setLoad 41 = .ok (.iload_n 1, 1) := by decide +kernel
theorem dX12_setLoad_42 : decode cX12_setLoad 42 = .ok (.bipush 16, 2) := by decide +kernel
theorem dX12_setLoad_44 : decode cX12_setLoad 44 = .ok (.iadd, 1) := by decide +kernel
theorem dX12_setLoad_45 : decode cX12_setLoad 45 = .ok (.iload_n 2, 1) := by decide +kernel
theorem dX12_setLoad_46 : decode cX12_setLoad 46 = .ok (.iadd, 1) := by decide +kernel
theorem dX12_setLoad_47 : decode cX12_setLoad 47 = .ok (.iload_n 3, 1) := by decide +kernel
theorem dX12_setLoad_48 : decode cX12_setLoad 48 = .ok (.iastore, 1) := by decide +kernel
theorem dX12_setLoad_49 : decode cX12_setLoad 49 = .ok (.iload 4, 2) := by decide +kernel
theorem dX12_setLoad_51 : decode cX12_setLoad 51 = .ok (.ireturn, 1) := by decide +kernel
theorem dX12_addOne_0 : decode cX12_addOne 0 = .ok (.iload_n 2, 1) := by decide +kernel
theorem dX12_addOne_1 : decode cX12_addOne 1 = .ok (.i2l, 1) := by decide +kernel
theorem dX12_addOne_2 : decode cX12_addOne 2 = .ok (.lconst 1, 1) := by decide +kernel
theorem dX12_addOne_3 : decode cX12_addOne 3 = .ok (.ldc2_w 72, 3) := by decide +kernel
theorem dX12_addOne_6 : decode cX12_addOne 6 = .ok (.invokestatic 62, 3) := by decide +kernel
theorem dX12_addOne_9 : decode cX12_addOne 9 = .ok (.ifCond .eq 15, 3) := by decide +kernel
theorem dX12_addOne_12 : decode cX12_addOne 12 = .ok (.iload_n 3, 1) := by decide +kernel
theorem dX12_addOne_13 : decode cX12_addOne 13 = .ok (.i2l, 1) := by decide +kernel
theorem dX12_addOne_14 : decode cX12_addOne 14 = .ok (.lconst 0, 1) := by decide +kernel
theorem dX12_addOne_15 : decode cX12_addOne 15 = .ok (.ldc2_w 60, 3) := by decide +kernel
theorem dX12_addOne_18 : decode cX12_addOne 18 = .ok (.invokestatic 62, 3) := by decide +kernel
theorem dX12_addOne_21 : decode cX12_addOne 21 = .ok (.ifCond .ne 6, 3) := by decide +kernel
theorem dX12_addOne_24 : decode cX12_addOne 24 = .ok (.bipush (-2), 2) := by decide +kernel
theorem dX12_addOne_26 : decode cX12_addOne 26 = .ok (.ireturn, 1) := by decide +kernel
theorem dX12_addOne_27 : decode cX12_addOne 27 = .ok (.aload_n 0, 1) := by decide +kernel
theorem dX12_addOne_28 : decode cX12_addOne 28 = .ok (.getfield 7, 3) := by decide +kernel
theorem dX12_addOne_31 : decode cX12_addOne 31 = .ok (.iload_n 1, 1) := by decide +kernel
theorem dX12_addOne_32 : decode cX12_addOne 32 = .ok (.bipush 29, 2) := by decide +kernel
theorem dX12_addOne_34 : decode cX12_addOne 34 = .ok (.iadd, 1) := by decide +kernel
theorem dX12_addOne_35 : decode cX12_addOne 35 = .ok (.iaload, 1) := by decide +kernel
theorem dX12_addOne_36 : decode cX12_addOne 36 = .ok (.istore 4, 2) := by decide +kernel
theorem dX12_addOne_38 : decode cX12_addOne 38 = .ok (.iload 4, 2) := by decide +kernel
theorem dX12_addOne_40 : decode cX12_addOne 40 = .ok (.iconst 3, 1) := by decide +kernel
theorem dX12_addOne_41 : decode cX12_addOne 41 = .ok (.if_icmp .ne 6, 3) := by decide +kernel
theorem dX12_addOne_44 : decode cX12_addOne 44 = .ok (.bipush (-4), 2) := by decide +kernel
theorem dX12_addOne_46 : decode cX12_addOne 46 = .ok (.ireturn, 1) := by decide +kernel
theorem dX12_addOne_47 : decode cX12_addOne 47 = .ok (.aload_n 0, 1) := by decide +kernel
theorem dX12_addOne_48 : decode cX12_addOne 48 = .ok (.getfield 7, 3) := by decide +kernel
theorem dX12_addOne_51 : decode cX12_addOne 51 = .ok (.iload_n 1, 1) := by decide +kernel
theorem dX12_addOne_52 : decode cX12_addOne 52 = .ok (.bipush 30, 2) := by decide +kernel
theorem dX12_addOne_54 : decode cX12_addOne 54 = .ok (.iadd, 1) := by decide +kernel
theorem dX12_addOne_55 : decode cX12_addOne 55 = .ok (.iload 4, 2) := by decide +kernel
theorem dX12_addOne_57 : decode cX12_addOne 57 = .ok (.iadd, 1) := by decide +kernel
theorem dX12_addOne_58 : decode cX12_addOne 58 = .ok (.iload_n 2, 1) := by decide +kernel
theorem dX12_addOne_59 : decode cX12_addOne 59 = .ok (.iastore, 1) := by decide +kernel
theorem dX12_addOne_60 : decode cX12_addOne 60 = .ok (.aload_n 0, 1) := by decide +kernel
theorem dX12_addOne_61 : decode cX12_addOne 61 = .ok (.getfield 7, 3) := by decide +kernel
theorem dX12_addOne_64 : decode cX12_addOne 64 = .ok (.iload_n 1, 1) := by decide +kernel
theorem dX12_addOne_65 : decode cX12_addOne 65 = .ok (.bipush 33, 2) := by decide +kernel
theorem dX12_addOne_67 : decode cX12_addOne 67 = .ok (.iadd, 1) := by decide +kernel
theorem dX12_addOne_68 : decode cX12_addOne 68 = .ok (.iload 4, 2) := by decide +kernel
theorem dX12_addOne_70 : decode cX12_addOne 70 = .ok (.iadd, 1) := by decide +kernel
theorem dX12_addOne_71 : decode cX12_addOne 71 = .ok (.iload_n 3, 1) := by decide +kernel
theorem dX12_addOne_72 : decode cX12_addOne 72 = .ok (.iastore, 1) := by decide +kernel
theorem dX12_addOne_73 : decode cX12_addOne 73 = .ok (.aload_n 0, 1) := by decide +kernel
theorem dX12_addOne_74 : decode cX12_addOne 74 = .ok (.getfield 7, 3) := by decide +kernel
theorem dX12_addOne_77 : decode cX12_addOne 77 = .ok (.iload_n 1, 1) := by decide +kernel
theorem dX12_addOne_78 : decode cX12_addOne 78 = .ok (.bipush 29, 2) := by decide +kernel
theorem dX12_addOne_80 : decode cX12_addOne 80 = .ok (.iadd, 1) := by decide +kernel
theorem dX12_addOne_81 : decode cX12_addOne 81 = .ok (.dup2, 1) := by decide +kernel
theorem dX12_addOne_82 : decode cX12_addOne 82 = .ok (.iaload, 1) := by decide +kernel
theorem dX12_addOne_83 : decode cX12_addOne 83 = .ok (.iconst 1, 1) := by decide +kernel
theorem dX12_addOne_84 : decode cX12_addOne 84 = .ok (.iadd, 1) := by decide +kernel
theorem dX12_addOne_85 : decode cX12_addOne 85 = .ok (.iastore, 1) := by decide +kernel
theorem dX12_addOne_86 : decode cX12_addOne 86 = .ok (.aload_n 0, 1) := by decide +kernel
theorem dX12_addOne_87 : decode cX12_addOne 87 = .ok (.getfield 7, 3) := by decide +kernel
theorem dX12_addOne_90 : decode cX12_addOne 90 = .ok (.iload_n 1, 1) := by decide +kernel
theorem dX12_addOne_91 : decode cX12_addOne 91 = .ok (.bipush 36, 2) := by decide +kernel
theorem dX12_addOne_93 : decode cX12_addOne 93 = .ok (.iadd, 1) := by decide +kernel
theorem dX12_addOne_94 : decode cX12_addOne 94 = .ok (.iconst 0, 1) := by decide +kernel
theorem dX12_addOne_95 : decode cX12_addOne 95 = .ok (.iastore, 1) := by decide +kernel
theorem dX12_addOne_96 : decode cX12_addOne 96 = .ok (.iload 4, 2) := by decide +kernel
theorem dX12_addOne_98 : decode cX12_addOne 98 = .ok (.ireturn, 1) := by decide +kernel
theorem dX12_bridge_0 : decode cX12_bridge 0 = .ok (.aload_n 0, 1) := by decide +kernel
theorem dX12_bridge_1 : decode cX12_bridge 1 = .ok (.aload_n 0, 1) := by decide +kernel
theorem dX12_bridge_2 : decode cX12_bridge 2 = .ok (.iconst 0, 1) := by decide +kernel
theorem dX12_bridge_3 : decode cX12_bridge 3 = .ok (.iload_n 1, 1) := by decide +kernel
theorem dX12_bridge_4 : decode cX12_bridge 4 = .ok (.iload_n 2, 1) := by decide +kernel
theorem dX12_bridge_5 : decode cX12_bridge 5 = .ok (.iload_n 3, 1) := by decide +kernel
theorem dX12_bridge_6 : decode cX12_bridge 6 = .ok (.iload 4, 2) := by decide +kernel
theorem dX12_bridge_8 : decode cX12_bridge 8 = .ok (.invokevirtual 79, 3) := by decide +kernel
theorem dX12_bridge_11 : decode cX12_bridge 11 = .ok (.invokevirtual 56, 3) := by decide +kernel
theorem dX12_bridge_14 : decode cX12_bridge 14 = .ok (.ireturn, 1) := by decide +kernel
theorem dX12_chain_0 : decode cX12_chain 0 = .ok (.aload_n 0, 1) := by decide +kernel
theorem dX12_chain_1 : decode cX12_chain 1 = .ok (.aload_n 0, 1) := by decide +kernel
theorem dX12_chain_2 : decode cX12_chain 2 = .ok (.iconst 0, 1) := by decide +kernel
theorem dX12_chain_3 : decode cX12_chain 3 = .ok (.iload_n 1, 1) := by decide +kernel
theorem dX12_chain_4 : decode cX12_chain 4 = .ok (.iload_n 2, 1) := by decide +kernel
theorem dX12_chain_5 : decode cX12_chain 5 = .ok (.iload_n 3, 1) := by decide +kernel
theorem dX12_chain_6 : decode cX12_chain 6 = .ok (.invokevirtual 83, 3) := by decide +kernel
theorem dX12_chain_9 : decode cX12_chain 9 = .ok (.invokevirtual 56, 3) := by decide +kernel
theorem dX12_chain_12 : decode cX12_chain 12 = .ok (.ireturn, 1) := by decide +kernel
theorem dX12_load_0 : decode cX12_load 0 = .ok (.aload_n 0, 1) := by decide +kernel
theorem dX12_load_1 : decode cX12_load 1 = .ok (.aload_n 0, 1) := by decide +kernel
theorem dX12_load_2 : decode cX12_load 2 = .ok (.iconst 0, 1) := by decide +kernel
theorem dX12_load_3 : decode cX12_load 3 = .ok (.iload_n 1, 1) := by decide +kernel
theorem dX12_load_4 : decode cX12_load 4 = .ok (.iload_n 2, 1) := by decide +kernel
theorem dX12_load_5 : decode cX12_load 5 = .ok (.invokevirtual 87, 3) := by decide +kernel
theorem dX12_load_8 : decode cX12_load 8 = .ok (.invokevirtual 56, 3) := by decide +kernel
theorem dX12_load_11 : decode cX12_load 11 = .ok (.ireturn, 1) := by decide +kernel
theorem dX12_one_0 : decode cX12_one 0 = .ok (.aload_n 0, 1) := by decide +kernel
theorem dX12_one_1 : decode cX12_one 1 = .ok (.aload_n 0, 1) := by decide +kernel
theorem dX12_one_2 : decode cX12_one 2 = .ok (.iconst 0, 1) := by decide +kernel
theorem dX12_one_3 : decode cX12_one 3 = .ok (.iload_n 1, 1) := by decide +kernel
theorem dX12_one_4 : decode cX12_one 4 = .ok (.iload_n 2, 1) := by decide +kernel
theorem dX12_one_5 : decode cX12_one 5 = .ok (.invokevirtual 91, 3) := by decide +kernel
theorem dX12_one_8 : decode cX12_one 8 = .ok (.invokevirtual 56, 3) := by decide +kernel
theorem dX12_one_11 : decode cX12_one 11 = .ok (.ireturn, 1) := by decide +kernel
theorem dX12_layNow_0 : decode cX12_layNow 0 = .ok (.iconst 0, 1) := by decide +kernel
theorem dX12_layNow_1 : decode cX12_layNow 1 = .ok (.istore_n 1, 1) := by decide +kernel
theorem dX12_layNow_2 : decode cX12_layNow 2 = .ok (.iload_n 1, 1) := by decide +kernel
theorem dX12_layNow_3 : decode cX12_layNow 3 = .ok (.iconst 5, 1) := by decide +kernel
theorem dX12_layNow_4 : decode cX12_layNow 4 = .ok (.if_icmp .ge 24, 3) := by decide +kernel
theorem dX12_layNow_7 : decode cX12_layNow 7 = .ok (.aload_n 0, 1) := by decide +kernel
theorem dX12_layNow_8 : decode cX12_layNow 8 = .ok (.getfield 23, 3) := by decide +kernel
theorem dX12_layNow_11 : decode cX12_layNow 11 = .ok (.iload_n 1, 1) := by decide +kernel
theorem dX12_layNow_12 : decode cX12_layNow 12 = .ok (.aload_n 0, 1) := by decide +kernel
theorem dX12_layNow_13 : decode cX12_layNow 13 = .ok (.getfield 7, 3) := by decide +kernel
theorem dX12_layNow_16 : decode cX12_layNow 16 = .ok (.bipush 16, 2) := by decide +kernel
theorem dX12_layNow_18 : decode cX12_layNow 18 = .ok (.iload_n 1, 1) := by decide +kernel
theorem dX12_layNow_19 : decode cX12_layNow 19 = .ok (.iadd, 1) := by decide +kernel
theorem dX12_layNow_20 : decode cX12_layNow 20 = .ok (.iaload, 1) := by decide +kernel
theorem dX12_layNow_21 : decode cX12_layNow 21 = .ok (.iastore, 1) := by decide +kernel
theorem dX12_layNow_22 : decode cX12_layNow 22 = .ok (.iinc 1 1, 3) := by decide +kernel
theorem dX12_layNow_25 : decode cX12_layNow 25 = .ok (.goto (-23), 3) := by decide +kernel
theorem dX12_layNow_28 : decode cX12_layNow 28 = .ok (.aload_n 0, 1) := by decide +kernel
theorem dX12_layNow_29 : decode cX12_layNow 29 = .ok (.iconst 0, 1) := by decide +kernel
theorem dX12_layNow_30 : decode cX12_layNow 30 = .ok (.putfield 94, 3) := by decide +kernel
theorem dX12_layNow_33 : decode cX12_layNow 33 = .ok (.iconst 0, 1) := by decide +kernel
theorem dX12_layNow_34 : decode cX12_layNow 34 = .ok (.istore_n 1, 1) := by decide +kernel
theorem dX12_layNow_35 : decode cX12_layNow 35 = .ok (.iload_n 1, 1) := by decide +kernel
theorem dX12_layNow_36 : decode cX12_layNow 36 = .ok (.aload_n 0, 1) := by decide +kernel
theorem dX12_layNow_37 : decode cX12_layNow 37 = .ok (.getfield 7, 3) := by decide +kernel
theorem dX12_layNow_40 : decode cX12_layNow 40 = .ok (.bipush 22, 2) := by decide +kernel
theorem dX12_layNow_42 : decode cX12_layNow 42 = .ok (.iaload, 1) := by decide +kernel
theorem dX12_layNow_43 : decode cX12_layNow 43 = .ok (.if_icmp .ge 40, 3) := by decide +kernel
theorem dX12_layNow_46 : decode cX12_layNow 46 = .ok (.aload_n 0, 1) := by decide +kernel
theorem dX12_layNow_47 : decode cX12_layNow 47 = .ok (.aload_n 0, 1) := by decide +kernel
theorem dX12_layNow_48 : decode cX12_layNow 48 = .ok (.getfield 7, 3) := by decide +kernel
theorem dX12_layNow_51 : decode cX12_layNow 51 = .ok (.bipush 23, 2) := by decide +kernel
theorem dX12_layNow_53 : decode cX12_layNow 53 = .ok (.iload_n 1, 1) := by decide +kernel
theorem dX12_layNow_54 : decode cX12_layNow 54 = .ok (.iadd, 1) := by decide +kernel
theorem dX12_layNow_55 : decode cX12_layNow 55 = .ok (.iaload, 1) := by decide +kernel
theorem dX12_layNow_56 : decode cX12_layNow 56 = .ok (.aload_n 0, 1) := by decide +kernel
theorem dX12_layNow_57 : decode cX12_layNow 57 = .ok (.getfield 7, 3) := by decide +kernel
theorem dX12_layNow_60 : decode cX12_layNow 60 = .ok (.bipush 25, 2) := by decide +kernel
theorem dX12_layNow_62 : decode cX12_layNow 62 = .ok (.iload_n 1, 1) := by decide +kernel
theorem dX12_layNow_63 : decode cX12_layNow 63 = .ok (.iadd, 1) := by decide +kernel
theorem dX12_layNow_64 : decode cX12_layNow 64 = .ok (.iaload, 1) := by decide +kernel
theorem dX12_layNow_65 : decode cX12_layNow 65 = .ok (.aload_n 0, 1) := by decide +kernel
theorem dX12_layNow_66 : decode cX12_layNow 66 = .ok (.getfield 7, 3) := by decide +kernel
theorem dX12_layNow_69 : decode cX12_layNow 69 = .ok (.bipush 27, 2) := by decide +kernel
theorem dX12_layNow_71 : decode cX12_layNow 71 = .ok (.iload_n 1, 1) := by decide +kernel
theorem dX12_layNow_72 : decode cX12_layNow 72 = .ok (.iadd, 1) := by decide +kernel
theorem dX12_layNow_73 : decode cX12_layNow 73 = .ok (.iaload, 1) := by decide +kernel
theorem dX12_layNow_74 : decode cX12_layNow 74 = .ok (.invokevirtual 98, 3) := by decide +kernel
theorem dX12_layNow_77 : decode cX12_layNow 77 = .ok (.iinc 1 1, 3) := by decide +kernel
theorem dX12_layNow_80 : decode cX12_layNow 80 = .ok (.goto (-45), 3) := by decide +kernel
theorem dX12_layNow_83 : decode cX12_layNow 83 = .ok (.aload_n 0, 1) := by decide +kernel
theorem dX12_layNow_84 : decode cX12_layNow 84 = .ok (.iconst 1, 1) := by decide +kernel
theorem dX12_layNow_85 : decode cX12_layNow 85 = .ok (.aload_n 0, 1) := by decide +kernel
theorem dX12_layNow_86 : decode cX12_layNow 86 = .ok (.getfield 7, 3) := by decide +kernel
theorem dX12_layNow_89 : decode cX12_layNow 89 = .ok (.bipush 29, 2) := by decide +kernel
theorem dX12_layNow_91 : decode cX12_layNow 91 = .ok (.iaload, 1) := by decide +kernel
theorem dX12_layNow_92 : decode cX12_layNow 92 = .ok (.ishl, 1) := by decide +kernel
theorem dX12_layNow_93 : decode cX12_layNow 93 = .ok (.iconst 1, 1) := by decide +kernel
theorem dX12_layNow_94 : decode cX12_layNow 94 = .ok (.isub, 1) := by decide +kernel
theorem dX12_layNow_95 : decode cX12_layNow 95 = .ok (.putfield 102, 3) := by decide +kernel
theorem dX12_layNow_98 : decode cX12_layNow 98 = .ok (.return_, 1) := by decide +kernel
theorem dX12_tieMore_0 : decode cX12_tieMore 0 = .ok (.aload_n 0, 1) := by decide +kernel
theorem dX12_tieMore_1 : decode cX12_tieMore 1 = .ok (.getfield 26, 3) := by decide +kernel
theorem dX12_tieMore_4 : decode cX12_tieMore 4 = .ok (.aload_n 0, 1) := by decide +kernel
theorem dX12_tieMore_5 : decode cX12_tieMore 5 = .ok (.getfield 94, 3) := by decide +kernel
theorem dX12_tieMore_8 : decode cX12_tieMore 8 = .ok (.iload_n 1, 1) := by decide +kernel
theorem dX12_tieMore_9 : decode cX12_tieMore 9 = .ok (.iastore, 1) := by decide +kernel
theorem dX12_tieMore_10 : decode cX12_tieMore 10 = .ok (.aload_n 0, 1) := by decide +kernel
theorem dX12_tieMore_11 : decode cX12_tieMore 11 = .ok (.getfield 29, 3) := by decide +kernel
theorem dX12_tieMore_14 : decode cX12_tieMore 14 = .ok (.aload_n 0, 1) := by decide +kernel
theorem dX12_tieMore_15 : decode cX12_tieMore 15 = .ok (.getfield 94, 3) := by decide +kernel
theorem dX12_tieMore_18 : decode cX12_tieMore 18 = .ok (.iload_n 2, 1) := by decide +kernel
theorem dX12_tieMore_19 : decode cX12_tieMore 19 = .ok (.iastore, 1) := by decide +kernel
theorem dX12_tieMore_20 : decode cX12_tieMore 20 = .ok (.aload_n 0, 1) := by decide +kernel
theorem dX12_tieMore_21 : decode cX12_tieMore 21 = .ok (.getfield 32, 3) := by decide +kernel
theorem dX12_tieMore_24 : decode cX12_tieMore 24 = .ok (.aload_n 0, 1) := by decide +kernel
theorem dX12_tieMore_25 : decode cX12_tieMore 25 = .ok (.getfield 94, 3) := by decide +kernel
theorem dX12_tieMore_28 : decode cX12_tieMore 28 = .ok (.iload_n 3, 1) := by decide +kernel
theorem dX12_tieMore_29 : decode cX12_tieMore 29 = .ok (.iastore, 1) := by decide +kernel
theorem dX12_tieMore_30 : decode cX12_tieMore 30 = .ok (.aload_n 0, 1) := by decide +kernel
theorem dX12_tieMore_31 : decode cX12_tieMore 31 = .ok (.dup, 1) := by decide +kernel
theorem dX12_tieMore_32 : decode cX12_tieMore 32 = .ok (.getfield 94, 3) := by decide +kernel
theorem dX12_tieMore_35 : decode cX12_tieMore 35 = .ok (.iconst 1, 1) := by decide +kernel
theorem dX12_tieMore_36 : decode cX12_tieMore 36 = .ok (.iadd, 1) := by decide +kernel
theorem dX12_tieMore_37 : decode cX12_tieMore 37 = .ok (.putfield 94, 3) := by decide +kernel
theorem dX12_tieMore_40 : decode cX12_tieMore 40 = .ok (.return_, 1) := by decide +kernel
theorem dX12_loadOf_0 : decode cX12_loadOf 0 = .ok (.aload_n 0, 1) := by decide +kernel
theorem dX12_loadOf_1 : decode cX12_loadOf 1 = .ok (.getfield 23, 3) := by decide +kernel
theorem dX12_loadOf_4 : decode cX12_loadOf 4 = .ok (.iload_n 1, 1) := by decide +kernel
theorem dX12_loadOf_5 : decode cX12_loadOf 5 = .ok (.iaload, 1) := by decide +kernel
theorem dX12_loadOf_6 : decode cX12_loadOf 6 = .ok (.istore_n 2, 1) := by decide +kernel
theorem dX12_loadOf_7 : decode cX12_loadOf 7 = .ok (.iconst 0, 1) := by decide +kernel
theorem dX12_loadOf_8 : decode cX12_loadOf 8 = .ok (.istore_n 3, 1) := by decide +kernel
theorem dX12_loadOf_9 : decode cX12_loadOf 9 = .ok (.iload_n 3, 1) := by decide +kernel
theorem dX12_loadOf_10 : decode cX12_loadOf 10 = .ok (.aload_n 0, 1) := by decide +kernel
theorem dX12_loadOf_11 : decode cX12_loadOf 11 = .ok (.getfield 7, 3) := by decide +kernel
theorem dX12_loadOf_14 : decode cX12_loadOf 14 = .ok (.bipush 29, 2) := by decide +kernel
theorem dX12_loadOf_16 : decode cX12_loadOf 16 = .ok (.iaload, 1) := by decide +kernel
theorem dX12_loadOf_17 : decode cX12_loadOf 17 = .ok (.if_icmp .ge 48, 3) := by decide +kernel
theorem dX12_loadOf_20 : decode cX12_loadOf 20 = .ok (.iload_n 2, 1) := by decide +kernel
theorem dX12_loadOf_21 : decode cX12_loadOf 21 = .ok (.aload_n 0, 1) := by decide +kernel
theorem dX12_loadOf_22 : decode cX12_loadOf 22 = .ok (.getfield 102, 3) := by decide +kernel
theorem dX12_loadOf_25 : decode cX12_loadOf 25 = .ok (.iload_n 3, 1) := by decide +kernel
theorem dX12_loadOf_26 : decode cX12_loadOf 26 = .ok (.invokestatic 105, 3) := by decide +kernel
theorem dX12_loadOf_29 : decode cX12_loadOf 29 = .ok (.ifCond .eq 27, 3) := by decide +kernel
theorem dX12_loadOf_32 : decode cX12_loadOf 32 = .ok (.aload_n 0, 1) := by decide +kernel
theorem dX12_loadOf_33 : decode cX12_loadOf 33 = .ok (.getfield 35, 3) := by decide +kernel
theorem dX12_loadOf_36 : decode cX12_loadOf 36 = .ok (.iload_n 3, 1) := by decide +kernel
theorem dX12_loadOf_37 : decode cX12_loadOf 37 = .ok (.iaload, 1) := by decide +kernel
theorem dX12_loadOf_38 : decode cX12_loadOf 38 = .ok (.iconst 5, 1) := by decide +kernel
theorem dX12_loadOf_39 : decode cX12_loadOf 39 = .ok (.iload_n 1, 1) := by decide +kernel
theorem dX12_loadOf_40 : decode cX12_loadOf 40 = .ok (.iadd, 1) := by decide +kernel
theorem dX12_loadOf_41 : decode cX12_loadOf 41 = .ok (.if_icmp .ne 15, 3) := by decide +kernel
theorem dX12_loadOf_44 : decode cX12_loadOf 44 = .ok (.aload_n 0, 1) := by decide +kernel
theorem dX12_loadOf_45 : decode cX12_loadOf 45 = .ok (.getfield 7, 3) := by decide +kernel
theorem dX12_loadOf_48 : decode cX12_loadOf 48 = .ok (.bipush 30, 2) := by decide +kernel
theorem dX12_loadOf_50 : decode cX12_loadOf 50 = .ok (.iload_n 3, 1) := by decide +kernel
theorem dX12_loadOf_51 : decode cX12_loadOf 51 = .ok (.iadd, 1) := by decide +kernel
theorem dX12_loadOf_52 : decode cX12_loadOf 52 = .ok (.iaload, 1) := by decide +kernel
theorem dX12_loadOf_53 : decode cX12_loadOf 53 = .ok (.goto 4, 3) := by decide +kernel
theorem dX12_loadOf_56 : decode cX12_loadOf 56 = .ok (.iconst 0, 1) := by decide +kernel
theorem dX12_loadOf_57 : decode cX12_loadOf 57 = .ok (.iadd, 1) := by decide +kernel
theorem dX12_loadOf_58 : decode cX12_loadOf 58 = .ok (.istore_n 2, 1) := by decide +kernel
theorem dX12_loadOf_59 : decode cX12_loadOf 59 = .ok (.iinc 3 1, 3) := by decide +kernel
theorem dX12_loadOf_62 : decode cX12_loadOf 62 = .ok (.goto (-53), 3) := by decide +kernel
theorem dX12_loadOf_65 : decode cX12_loadOf 65 = .ok (.aload_n 0, 1) := by decide +kernel
theorem dX12_loadOf_66 : decode cX12_loadOf 66 = .ok (.getfield 7, 3) := by decide +kernel
theorem dX12_loadOf_69 : decode cX12_loadOf 69 = .ok (.bipush 11, 2) := by decide +kernel
theorem dX12_loadOf_71 : decode cX12_loadOf 71 = .ok (.iload_n 1, 1) := by decide +kernel
theorem dX12_loadOf_72 : decode cX12_loadOf 72 = .ok (.iadd, 1) := by decide +kernel
theorem dX12_loadOf_73 : decode cX12_loadOf 73 = .ok (.iaload, 1) := by decide +kernel
theorem dX12_loadOf_74 : decode cX12_loadOf 74 = .ok (.tableswitch 56 1 5 #[34, 38, 56, 34, 42], 34) := by decide +kernel
theorem dX12_loadOf_108 : decode cX12_loadOf 108 = .ok (.iload_n 2, 1) := by decide +kernel
theorem dX12_loadOf_109 : decode cX12_loadOf 109 = .ok (.iconst 2, 1) := by decide +kernel
theorem dX12_loadOf_110 : decode cX12_loadOf 110 = .ok (.idiv, 1) := by decide +kernel
theorem dX12_loadOf_111 : decode cX12_loadOf 111 = .ok (.ireturn, 1) := by decide +kernel
theorem dX12_loadOf_112 : decode cX12_loadOf 112 = .ok (.iconst 2, 1) := by decide +kernel
theorem dX12_loadOf_113 : decode cX12_loadOf 113 = .ok (.iload_n 2, 1) := by decide +kernel
theorem dX12_loadOf_114 : decode cX12_loadOf 114 = .ok (.imul, 1) := by decide +kernel
theorem dX12_loadOf_115 : decode cX12_loadOf 115 = .ok (.ireturn, 1) := by decide +kernel
theorem dX12_loadOf_116 : decode cX12_loadOf 116 = .ok (.iload_n 2, 1) := by decide +kernel
theorem dX12_loadOf_117 : decode cX12_loadOf 117 = .ok (.ifCond .le 11, 3) := by decide +kernel
theorem dX12_loadOf_120 : decode cX12_loadOf 120 = .ok (.iconst 2, 1) := by decide +kernel
theorem dX12_loadOf_121 : decode cX12_loadOf 121 = .ok (.iload_n 2, 1) := by decide +kernel
theorem dX12_loadOf_122 : decode cX12_loadOf 122 = .ok (.imul, 1) := by decide +kernel
theorem dX12_loadOf_123 : decode cX12_loadOf 123 = .ok (.iconst 1, 1) := by decide +kernel
theorem dX12_loadOf_124 : decode cX12_loadOf 124 = .ok (.iadd, 1) := by decide +kernel
theorem dX12_loadOf_125 : decode cX12_loadOf 125 = .ok (.goto 4, 3) := by decide +kernel
theorem dX12_loadOf_128 : decode cX12_loadOf 128 = .ok (.iconst 0, 1) := by decide +kernel
theorem dX12_loadOf_129 : decode cX12_loadOf 129 = .ok (.ireturn, 1) := by decide +kernel
theorem dX12_loadOf_130 : decode cX12_loadOf 130 = .ok (.iload_n 2, 1) := by decide +kernel
theorem dX12_loadOf_131 : decode cX12_loadOf 131 = .ok (.ireturn, 1) := by decide +kernel
theorem dX12_tip_0 : decode cX12_tip 0 = .ok (.aload_n 0, 1) := by decide +kernel
theorem dX12_tip_1 : decode cX12_tip 1 = .ok (.getfield 108, 3) := by decide +kernel
theorem dX12_tip_4 : decode cX12_tip 4 = .ok (.iload_n 1, 1) := by decide +kernel
theorem dX12_tip_5 : decode cX12_tip 5 = .ok (.invokestatic 105, 3) := by decide +kernel
theorem dX12_tip_8 : decode cX12_tip 8 = .ok (.ifCond .ne 16, 3) := by decide +kernel
theorem dX12_tip_11 : decode cX12_tip 11 = .ok (.aload_n 0, 1) := by decide +kernel
theorem dX12_tip_12 : decode cX12_tip 12 = .ok (.getfield 7, 3) := by decide +kernel
theorem dX12_tip_15 : decode cX12_tip 15 = .ok (.bipush 11, 2) := by decide +kernel
theorem dX12_tip_17 : decode cX12_tip 17 = .ok (.iload_n 1, 1) := by decide +kernel
theorem dX12_tip_18 : decode cX12_tip 18 = .ok (.iadd, 1) := by decide +kernel
theorem dX12_tip_19 : decode cX12_tip 19 = .ok (.iaload, 1) := by decide +kernel
theorem dX12_tip_20 : decode cX12_tip 20 = .ok (.iconst 4, 1) := by decide +kernel
theorem dX12_tip_21 : decode cX12_tip 21 = .ok (.if_icmp .eq 7, 3) := by decide +kernel
theorem dX12_tip_24 : decode cX12_tip 24 = .ok (.iconst 1, 1) := by decide +kernel
theorem dX12_tip_25 : decode cX12_tip 25 = .ok (.goto 4, 3) := by decide +kernel
theorem dX12_tip_28 : decode cX12_tip 28 = .ok (.iconst 0, 1) := by decide +kernel
theorem dX12_tip_29 : decode cX12_tip 29 = .ok (.istore_n 3, 1) := by decide +kernel
theorem dX12_tip_30 : decode cX12_tip 30 = .ok (.aload_n 0, 1) := by decide +kernel
theorem dX12_tip_31 : decode cX12_tip 31 = .ok (.getfield 108, 3) := by decide +kernel
theorem dX12_tip_34 : decode cX12_tip 34 = .ok (.iload_n 2, 1) := by decide +kernel
theorem dX12_tip_35 : decode cX12_tip 35 = .ok (.invokestatic 105, 3) := by decide +kernel
theorem dX12_tip_38 : decode cX12_tip 38 = .ok (.ifCond .eq 16, 3) := by decide +kernel
theorem dX12_tip_41 : decode cX12_tip 41 = .ok (.aload_n 0, 1) := by decide +kernel
theorem dX12_tip_42 : decode cX12_tip 42 = .ok (.getfield 7, 3) := by decide +kernel
theorem dX12_tip_45 : decode cX12_tip 45 = .ok (.bipush 11, 2) := by decide +kernel
theorem dX12_tip_47 : decode cX12_tip 47 = .ok (.iload_n 2, 1) := by decide +kernel
theorem dX12_tip_48 : decode cX12_tip 48 = .ok (.iadd, 1) := by decide +kernel
theorem dX12_tip_49 : decode cX12_tip 49 = .ok (.iaload, 1) := by decide +kernel
theorem dX12_tip_50 : decode cX12_tip 50 = .ok (.iconst 3, 1) := by decide +kernel
theorem dX12_tip_51 : decode cX12_tip 51 = .ok (.if_icmp .eq 7, 3) := by decide +kernel
theorem dX12_tip_54 : decode cX12_tip 54 = .ok (.iconst 1, 1) := by decide +kernel
theorem dX12_tip_55 : decode cX12_tip 55 = .ok (.goto 4, 3) := by decide +kernel
theorem dX12_tip_58 : decode cX12_tip 58 = .ok (.iconst 0, 1) := by decide +kernel
theorem dX12_tip_59 : decode cX12_tip 59 = .ok (.istore 4, 2) := by decide +kernel
theorem dX12_tip_61 : decode cX12_tip 61 = .ok (.iload_n 3, 1) := by decide +kernel
theorem dX12_tip_62 : decode cX12_tip 62 = .ok (.ifCond .eq 26, 3) := by decide +kernel
theorem dX12_tip_65 : decode cX12_tip 65 = .ok (.iload 4, 2) := by decide +kernel
theorem dX12_tip_67 : decode cX12_tip 67 = .ok (.ifCond .eq 21, 3) := by decide +kernel
theorem dX12_tip_70 : decode cX12_tip 70 = .ok (.aload_n 0, 1) := by decide +kernel
theorem dX12_tip_71 : decode cX12_tip 71 = .ok (.aload_n 0, 1) := by decide +kernel
theorem dX12_tip_72 : decode cX12_tip 72 = .ok (.getfield 108, 3) := by decide +kernel
theorem dX12_tip_75 : decode cX12_tip 75 = .ok (.iconst 1, 1) := by decide +kernel
theorem dX12_tip_76 : decode cX12_tip 76 = .ok (.iload_n 1, 1) := by decide +kernel
theorem dX12_tip_77 : decode cX12_tip 77 = .ok (.ishl, 1) := by decide +kernel
theorem dX12_tip_78 : decode cX12_tip 78 = .ok (.ior, 1) := by decide +kernel
theorem dX12_tip_79 : decode cX12_tip 79 = .ok (.iconst 1, 1) := by decide +kernel
theorem dX12_tip_80 : decode cX12_tip 80 = .ok (.iload_n 2, 1) := by decide +kernel
theorem dX12_tip_81 : decode cX12_tip 81 = .ok (.ishl, 1) := by decide +kernel
theorem dX12_tip_82 : decode cX12_tip 82 = .ok (.iconst (-1), 1) := by decide +kernel
theorem dX12_tip_83 : decode cX12_tip 83 = .ok (.ixor, 1) := by decide +kernel
theorem dX12_tip_84 : decode cX12_tip 84 = .ok (.iand, 1) := by decide +kernel
theorem dX12_tip_85 : decode cX12_tip 85 = .ok (.putfield 108, 3) := by decide +kernel
theorem dX12_tip_88 : decode cX12_tip 88 = .ok (.return_, 1) := by decide +kernel
theorem dX12_tipAll_0 : decode cX12_tipAll 0 = .ok (.iconst 0, 1) := by decide +kernel
theorem dX12_tipAll_1 : decode cX12_tipAll 1 = .ok (.istore_n 1, 1) := by decide +kernel
theorem dX12_tipAll_2 : decode cX12_tipAll 2 = .ok (.iload_n 1, 1) := by decide +kernel
theorem dX12_tipAll_3 : decode cX12_tipAll 3 = .ok (.aload_n 0, 1) := by decide +kernel
theorem dX12_tipAll_4 : decode cX12_tipAll 4 = .ok (.getfield 94, 3) := by decide +kernel
theorem dX12_tipAll_7 : decode cX12_tipAll 7 = .ok (.if_icmp .ge 87, 3) := by decide +kernel
theorem dX12_tipAll_10 : decode cX12_tipAll 10 = .ok (.aload_n 0, 1) := by decide +kernel
theorem dX12_tipAll_11 : decode cX12_tipAll 11 = .ok (.aload_n 0, 1) := by decide +kernel
theorem dX12_tipAll_12 : decode cX12_tipAll 12 = .ok (.getfield 26, 3) := by decide +kernel
theorem dX12_tipAll_15 : decode cX12_tipAll 15 = .ok (.iload_n 1, 1) := by decide +kernel
theorem dX12_tipAll_16 : decode cX12_tipAll 16 = .ok (.iaload, 1) := by decide +kernel
theorem dX12_tipAll_17 : decode cX12_tipAll 17 = .ok (.invokevirtual 111, 3) := by decide +kernel
theorem dX12_tipAll_20 : decode cX12_tipAll 20 = .ok (.aload_n 0, 1) := by decide +kernel
theorem dX12_tipAll_21 : decode cX12_tipAll 21 = .ok (.aload_n 0, 1) := by decide +kernel
theorem dX12_tipAll_22 : decode cX12_tipAll 22 = .ok (.getfield 29, 3) := by decide +kernel
theorem dX12_tipAll_25 : decode cX12_tipAll 25 = .ok (.iload_n 1, 1) := by decide +kernel
theorem dX12_tipAll_26 : decode cX12_tipAll 26 = .ok (.iaload, 1) := by decide +kernel
theorem dX12_tipAll_27 : decode cX12_tipAll 27 = .ok (.invokevirtual 111, 3) := by decide +kernel
theorem dX12_tipAll_30 : decode cX12_tipAll 30 = .ok (.isub, 1) := by decide +kernel
theorem dX12_tipAll_31 : decode cX12_tipAll 31 = .ok (.istore_n 2, 1) := by decide +kernel
theorem dX12_tipAll_32 : decode cX12_tipAll 32 = .ok (.iload_n 2, 1) := by decide +kernel
theorem dX12_tipAll_33 : decode cX12_tipAll 33 = .ok (.aload_n 0, 1) := by decide +kernel
theorem dX12_tipAll_34 : decode cX12_tipAll 34 = .ok (.getfield 32, 3) := by decide +kernel
theorem dX12_tipAll_37 : decode cX12_tipAll 37 = .ok (.iload_n 1, 1) := by decide +kernel
theorem dX12_tipAll_38 : decode cX12_tipAll 38 = .ok (.iaload, 1) := by decide +kernel
theorem dX12_tipAll_39 : decode cX12_tipAll 39 = .ok (.if_icmp .le 22, 3) := by decide +kernel
theorem dX12_tipAll_42 : decode cX12_tipAll 42 = .ok (.aload_n 0, 1) := by decide +kernel
theorem dX12_tipAll_43 : decode cX12_tipAll 43 = .ok (.aload_n 0, 1) := by decide +kernel
theorem dX12_tipAll_44 : decode cX12_tipAll 44 = .ok (.getfield 26, 3) := by decide +kernel
theorem dX12_tipAll_47 : decode cX12_tipAll 47 = .ok (.iload_n 1, 1) := by decide +kernel
theorem dX12_tipAll_48 : decode cX12_tipAll 48 = .ok (.iaload, 1) := by decide +kernel
theorem dX12_tipAll_49 : decode cX12_tipAll 49 = .ok (.aload_n 0, 1) := by decide +kernel
theorem dX12_tipAll_50 : decode cX12_tipAll 50 = .ok (.getfield 29, 3) := by decide +kernel
theorem dX12_tipAll_53 : decode cX12_tipAll 53 = .ok (.iload_n 1, 1) := by decide +kernel
theorem dX12_tipAll_54 : decode cX12_tipAll 54 = .ok (.iaload, 1) := by decide +kernel
theorem dX12_tipAll_55 : decode cX12_tipAll 55 = .ok (.invokevirtual 114, 3) := by decide +kernel
theorem dX12_tipAll_58 : decode cX12_tipAll 58 = .ok (.goto 30, 3) := by decide +kernel
theorem dX12_tipAll_61 : decode cX12_tipAll 61 = .ok (.iload_n 2, 1) := by decide +kernel
theorem dX12_tipAll_62 : decode cX12_tipAll 62 = .ok (.ineg, 1) := by decide +kernel
theorem dX12_tipAll_63 : decode cX12_tipAll 63 = .ok (.aload_n 0, 1) := by decide +kernel
theorem dX12_tipAll_64 : decode cX12_tipAll 64 = .ok (.getfield 32, 3) := by decide +kernel
theorem dX12_tipAll_67 : decode cX12_tipAll 67 = .ok (.iload_n 1, 1) := by decide +kernel
theorem dX12_tipAll_68 : decode cX12_tipAll 68 = .ok (.iaload, 1) := by decide +kernel
theorem dX12_tipAll_69 : decode cX12_tipAll 69 = .ok (.if_icmp .le 19, 3) := by decide +kernel
theorem dX12_tipAll_72 : decode cX12_tipAll 72 = .ok (.aload_n 0, 1) := by decide +kernel
theorem dX12_tipAll_73 : decode cX12_tipAll 73 = .ok (.aload_n 0, 1) := by decide +kernel
theorem dX12_tipAll_74 : decode cX12_tipAll 74 = .ok (.getfield 29, 3) := by decide +kernel
theorem dX12_tipAll_77 : decode cX12_tipAll 77 = .ok (.iload_n 1, 1) := by decide +kernel
theorem dX12_tipAll_78 : decode cX12_tipAll 78 = .ok (.iaload, 1) := by decide +kernel
theorem dX12_tipAll_79 : decode cX12_tipAll 79 = .ok (.aload_n 0, 1) := by decide +kernel
theorem dX12_tipAll_80 : decode cX12_tipAll 80 = .ok (.getfield 26, 3) := by decide +kernel
theorem dX12_tipAll_83 : decode cX12_tipAll 83 = .ok (.iload_n 1, 1) := by decide +kernel
theorem dX12_tipAll_84 : decode cX12_tipAll 84 = .ok (.iaload, 1) := by decide +kernel
theorem dX12_tipAll_85 : decode cX12_tipAll 85 = .ok (.invokevirtual 114, 3) := by decide +kernel
theorem dX12_tipAll_88 : decode cX12_tipAll 88 = .ok (.iinc 1 1, 3) := by decide +kernel
theorem dX12_tipAll_91 : decode cX12_tipAll 91 = .ok (.goto (-89), 3) := by decide +kernel
theorem dX12_tipAll_94 : decode cX12_tipAll 94 = .ok (.return_, 1) := by decide +kernel
theorem dX12_isOf_0 : decode cX12_isOf 0 = .ok (.aload_n 0, 1) := by decide +kernel
theorem dX12_isOf_1 : decode cX12_isOf 1 = .ok (.getfield 7, 3) := by decide +kernel
theorem dX12_isOf_4 : decode cX12_isOf 4 = .ok (.iconst 1, 1) := by decide +kernel
theorem dX12_isOf_5 : decode cX12_isOf 5 = .ok (.iload_n 1, 1) := by decide +kernel
theorem dX12_isOf_6 : decode cX12_isOf 6 = .ok (.iadd, 1) := by decide +kernel
theorem dX12_isOf_7 : decode cX12_isOf 7 = .ok (.iaload, 1) := by decide +kernel
theorem dX12_isOf_8 : decode cX12_isOf 8 = .ok (.iload_n 2, 1) := by decide +kernel
theorem dX12_isOf_9 : decode cX12_isOf 9 = .ok (.if_icmp .eq 16, 3) := by decide +kernel
theorem dX12_isOf_12 : decode cX12_isOf 12 = .ok (.aload_n 0, 1) := by decide +kernel
theorem dX12_isOf_13 : decode cX12_isOf 13 = .ok (.getfield 7, 3) := by decide +kernel
theorem dX12_isOf_16 : decode cX12_isOf 16 = .ok (.bipush 6, 2) := by decide +kernel
theorem dX12_isOf_18 : decode cX12_isOf 18 = .ok (.iload_n 1, 1) := by decide +kernel
theorem dX12_isOf_19 : decode cX12_isOf 19 = .ok (.iadd, 1) := by decide +kernel
theorem dX12_isOf_20 : decode cX12_isOf 20 = .ok (.iaload, 1) := by decide +kernel
theorem dX12_isOf_21 : decode cX12_isOf 21 = .ok (.iload_n 2, 1) := by decide +kernel
theorem dX12_isOf_22 : decode cX12_isOf 22 = .ok (.if_icmp .ne 7, 3) := by decide +kernel
theorem dX12_isOf_25 : decode cX12_isOf 25 = .ok (.iconst 1, 1) := by decide +kernel
theorem dX12_isOf_26 : decode cX12_isOf 26 = .ok (.goto 4, 3) := by decide +kernel
theorem dX12_isOf_29 : decode cX12_isOf 29 = .ok (.iconst 0, 1) := by decide +kernel
theorem dX12_isOf_30 : decode cX12_isOf 30 = .ok (.ireturn, 1) := by decide +kernel
theorem dX12_mayStep_0 : decode cX12_mayStep 0 = .ok (.aload_n 0, 1) := by decide +kernel
theorem dX12_mayStep_1 : decode cX12_mayStep 1 = .ok (.getfield 35, 3) := by decide +kernel
theorem dX12_mayStep_4 : decode cX12_mayStep 4 = .ok (.iload_n 1, 1) := by decide +kernel
theorem dX12_mayStep_5 : decode cX12_mayStep 5 = .ok (.iaload, 1) := by decide +kernel
theorem dX12_mayStep_6 : decode cX12_mayStep 6 = .ok (.istore_n 3, 1) := by decide +kernel
theorem dX12_mayStep_7 : decode cX12_mayStep 7 = .ok (.iload_n 3, 1) := by decide +kernel
theorem dX12_mayStep_8 : decode cX12_mayStep 8 = .ok (.iconst 4, 1) := by decide +kernel
theorem dX12_mayStep_9 : decode cX12_mayStep 9 = .ok (.if_icmp .le 36, 3) := by decide +kernel
theorem dX12_mayStep_12 : decode cX12_mayStep 12 = .ok (.iload_n 2, 1) := by decide +kernel
theorem dX12_mayStep_13 : decode cX12_mayStep 13 = .ok (.iconst 5, 1) := by decide +kernel
theorem dX12_mayStep_14 : decode cX12_mayStep 14 = .ok (.if_icmp .ge 31, 3) := by decide +kernel
theorem dX12_mayStep_17 : decode cX12_mayStep 17 = .ok (.aload_n 0, 1) := by decide +kernel
theorem dX12_mayStep_18 : decode cX12_mayStep 18 = .ok (.getfield 108, 3) := by decide +kernel
theorem dX12_mayStep_21 : decode cX12_mayStep 21 = .ok (.iload_n 3, 1) := by decide +kernel
theorem dX12_mayStep_22 : decode cX12_mayStep 22 = .ok (.iconst 5, 1) := by decide +kernel
theorem dX12_mayStep_23 : decode cX12_mayStep 23 = .ok (.isub, 1) := by decide +kernel
theorem dX12_mayStep_24 : decode cX12_mayStep 24 = .ok (.invokestatic 105, 3) := by decide +kernel
theorem dX12_mayStep_27 : decode cX12_mayStep 27 = .ok (.ifCond .eq 18, 3) := by decide +kernel
theorem dX12_mayStep_30 : decode cX12_mayStep 30 = .ok (.aload_n 0, 1) := by decide +kernel
theorem dX12_mayStep_31 : decode cX12_mayStep 31 = .ok (.iload_n 3, 1) := by decide +kernel
theorem dX12_mayStep_32 : decode cX12_mayStep 32 = .ok (.iconst 5, 1) := by decide +kernel
theorem dX12_mayStep_33 : decode cX12_mayStep 33 = .ok (.isub, 1) := by decide +kernel
theorem dX12_mayStep_34 : decode cX12_mayStep 34 = .ok (.iload_n 2, 1) := by decide +kernel
theorem dX12_mayStep_35 : decode cX12_mayStep 35 = .ok (.invokevirtual 118, 3) := by decide +kernel
theorem dX12_mayStep_38 : decode cX12_mayStep 38 = .ok (.ifCond .eq 7, 3) := by decide +kernel
theorem dX12_mayStep_41 : decode cX12_mayStep 41 = .ok (.iconst 1, 1) := by decide +kernel
theorem dX12_mayStep_42 : decode cX12_mayStep 42 = .ok (.goto 4, 3) := by decide +kernel
theorem dX12_mayStep_45 : decode cX12_mayStep 45 = .ok (.iconst 0, 1) := by decide +kernel
theorem dX12_mayStep_46 : decode cX12_mayStep 46 = .ok (.istore 4, 2) := by decide +kernel
theorem dX12_mayStep_48 : decode cX12_mayStep 48 = .ok (.iload_n 3, 1) := by decide +kernel
theorem dX12_mayStep_49 : decode cX12_mayStep 49 = .ok (.iconst 5, 1) := by decide +kernel
theorem dX12_mayStep_50 : decode cX12_mayStep 50 = .ok (.if_icmp .ge 48, 3) := by decide +kernel
theorem dX12_mayStep_53 : decode cX12_mayStep 53 = .ok (.iload_n 2, 1) := by decide +kernel
theorem dX12_mayStep_54 : decode cX12_mayStep 54 = .ok (.iconst 4, 1) := by decide +kernel
theorem dX12_mayStep_55 : decode cX12_mayStep 55 = .ok (.if_icmp .le 43, 3) := by decide +kernel
theorem dX12_mayStep_58 : decode cX12_mayStep 58 = .ok (.iload_n 2, 1) := by decide +kernel
theorem dX12_mayStep_59 : decode cX12_mayStep 59 = .ok (.iconst 5, 1) := by decide +kernel
theorem dX12_mayStep_60 : decode cX12_mayStep 60 = .ok (.isub, 1) := by decide +kernel
theorem dX12_mayStep_61 : decode cX12_mayStep 61 = .ok (.aload_n 0, 1) := by decide +kernel
theorem dX12_mayStep_62 : decode cX12_mayStep 62 = .ok (.getfield 7, 3) := by decide +kernel
theorem dX12_mayStep_65 : decode cX12_mayStep 65 = .ok (.iconst 0, 1) := by decide +kernel
theorem dX12_mayStep_66 : decode cX12_mayStep 66 = .ok (.iaload, 1) := by decide +kernel
theorem dX12_mayStep_67 : decode cX12_mayStep 67 = .ok (.if_icmp .ge 31, 3) := by decide +kernel
theorem dX12_mayStep_70 : decode cX12_mayStep 70 = .ok (.aload_n 0, 1) := by decide +kernel
theorem dX12_mayStep_71 : decode cX12_mayStep 71 = .ok (.getfield 108, 3) := by decide +kernel
theorem dX12_mayStep_74 : decode cX12_mayStep 74 = .ok (.iload_n 2, 1) := by decide +kernel
theorem dX12_mayStep_75 : decode cX12_mayStep 75 = .ok (.iconst 5, 1) := by decide +kernel
theorem dX12_mayStep_76 : decode cX12_mayStep 76 = .ok (.isub, 1) := by decide +kernel
theorem dX12_mayStep_77 : decode cX12_mayStep 77 = .ok (.invokestatic 105, 3) := by decide +kernel
theorem dX12_mayStep_80 : decode cX12_mayStep 80 = .ok (.ifCond .eq 18, 3) := by decide +kernel
theorem dX12_mayStep_83 : decode cX12_mayStep 83 = .ok (.aload_n 0, 1) := by decide +kernel
theorem dX12_mayStep_84 : decode cX12_mayStep 84 = .ok (.iload_n 2, 1) := by decide +kernel
theorem dX12_mayStep_85 : decode cX12_mayStep 85 = .ok (.iconst 5, 1) := by decide +kernel
theorem dX12_mayStep_86 : decode cX12_mayStep 86 = .ok (.isub, 1) := by decide +kernel
theorem dX12_mayStep_87 : decode cX12_mayStep 87 = .ok (.iload_n 3, 1) := by decide +kernel
theorem dX12_mayStep_88 : decode cX12_mayStep 88 = .ok (.invokevirtual 118, 3) := by decide +kernel
theorem dX12_mayStep_91 : decode cX12_mayStep 91 = .ok (.ifCond .eq 7, 3) := by decide +kernel
theorem dX12_mayStep_94 : decode cX12_mayStep 94 = .ok (.iconst 1, 1) := by decide +kernel
theorem dX12_mayStep_95 : decode cX12_mayStep 95 = .ok (.goto 4, 3) := by decide +kernel
theorem dX12_mayStep_98 : decode cX12_mayStep 98 = .ok (.iconst 0, 1) := by decide +kernel
theorem dX12_mayStep_99 : decode cX12_mayStep 99 = .ok (.istore 5, 2) := by decide +kernel
theorem dX12_mayStep_101 : decode cX12_mayStep 101 = .ok (.aload_n 0, 1) := by decide +kernel
theorem dX12_mayStep_102 : decode cX12_mayStep 102 = .ok (.getfield 102, 3) := by decide +kernel
theorem dX12_mayStep_105 : decode cX12_mayStep 105 = .ok (.iload_n 1, 1) := by decide +kernel
theorem dX12_mayStep_106 : decode cX12_mayStep 106 = .ok (.invokestatic 105, 3) := by decide +kernel
theorem dX12_mayStep_109 : decode cX12_mayStep 109 = .ok (.ifCond .eq 17, 3) := by decide +kernel
theorem dX12_mayStep_112 : decode cX12_mayStep 112 = .ok (.iload 4, 2) := by decide +kernel
theorem dX12_mayStep_114 : decode cX12_mayStep 114 = .ok (.ifCond .ne 8, 3) := by decide +kernel
theorem dX12_mayStep_117 : decode cX12_mayStep 117 = .ok (.iload 5, 2) := by decide +kernel
theorem dX12_mayStep_119 : decode cX12_mayStep 119 = .ok (.ifCond .eq 7, 3) := by decide +kernel
theorem dX12_mayStep_122 : decode cX12_mayStep 122 = .ok (.iconst 1, 1) := by decide +kernel
theorem dX12_mayStep_123 : decode cX12_mayStep 123 = .ok (.goto 4, 3) := by decide +kernel
theorem dX12_mayStep_126 : decode cX12_mayStep 126 = .ok (.iconst 0, 1) := by decide +kernel
theorem dX12_mayStep_127 : decode cX12_mayStep 127 = .ok (.ireturn, 1) := by decide +kernel
theorem dX12_asNow_0 : decode cX12_asNow 0 = .ok (.aload_n 0, 1) := by decide +kernel
theorem dX12_asNow_1 : decode cX12_asNow 1 = .ok (.aload_n 0, 1) := by decide +kernel
theorem dX12_asNow_2 : decode cX12_asNow 2 = .ok (.getfield 7, 3) := by decide +kernel
theorem dX12_asNow_5 : decode cX12_asNow 5 = .ok (.bipush 21, 2) := by decide +kernel
theorem dX12_asNow_7 : decode cX12_asNow 7 = .ok (.iaload, 1) := by decide +kernel
theorem dX12_asNow_8 : decode cX12_asNow 8 = .ok (.putfield 108, 3) := by decide +kernel
theorem dX12_asNow_11 : decode cX12_asNow 11 = .ok (.iconst 0, 1) := by decide +kernel
theorem dX12_asNow_12 : decode cX12_asNow 12 = .ok (.istore_n 1, 1) := by decide +kernel
theorem dX12_asNow_13 : decode cX12_asNow 13 = .ok (.iload_n 1, 1) := by decide +kernel
theorem dX12_asNow_14 : decode cX12_asNow 14 = .ok (.iconst 3, 1) := by decide +kernel
theorem dX12_asNow_15 : decode cX12_asNow 15 = .ok (.if_icmp .ge 50, 3) := by decide +kernel
theorem dX12_asNow_18 : decode cX12_asNow 18 = .ok (.aload_n 0, 1) := by decide +kernel
theorem dX12_asNow_19 : decode cX12_asNow 19 = .ok (.getfield 35, 3) := by decide +kernel
theorem dX12_asNow_22 : decode cX12_asNow 22 = .ok (.iload_n 1, 1) := by decide +kernel
theorem dX12_asNow_23 : decode cX12_asNow 23 = .ok (.iload_n 1, 1) := by decide +kernel
theorem dX12_asNow_24 : decode cX12_asNow 24 = .ok (.aload_n 0, 1) := by decide +kernel
theorem dX12_asNow_25 : decode cX12_asNow 25 = .ok (.getfield 7, 3) := by decide +kernel
theorem dX12_asNow_28 : decode cX12_asNow 28 = .ok (.bipush 29, 2) := by decide +kernel
theorem dX12_asNow_30 : decode cX12_asNow 30 = .ok (.iaload, 1) := by decide +kernel
theorem dX12_asNow_31 : decode cX12_asNow 31 = .ok (.if_icmp .ge 26, 3) := by decide +kernel
theorem dX12_asNow_34 : decode cX12_asNow 34 = .ok (.aload_n 0, 1) := by decide +kernel
theorem dX12_asNow_35 : decode cX12_asNow 35 = .ok (.getfield 102, 3) := by decide +kernel
theorem dX12_asNow_38 : decode cX12_asNow 38 = .ok (.iload_n 1, 1) := by decide +kernel
theorem dX12_asNow_39 : decode cX12_asNow 39 = .ok (.invokestatic 105, 3) := by decide +kernel
theorem dX12_asNow_42 : decode cX12_asNow 42 = .ok (.ifCond .eq 15, 3) := by decide +kernel
theorem dX12_asNow_45 : decode cX12_asNow 45 = .ok (.aload_n 0, 1) := by decide +kernel
theorem dX12_asNow_46 : decode cX12_asNow 46 = .ok (.getfield 7, 3) := by decide +kernel
theorem dX12_asNow_49 : decode cX12_asNow 49 = .ok (.bipush 33, 2) := by decide +kernel
theorem dX12_asNow_51 : decode cX12_asNow 51 = .ok (.iload_n 1, 1) := by decide +kernel
theorem dX12_asNow_52 : decode cX12_asNow 52 = .ok (.iadd, 1) := by decide +kernel
theorem dX12_asNow_53 : decode cX12_asNow 53 = .ok (.iaload, 1) := by decide +kernel
theorem dX12_asNow_54 : decode cX12_asNow 54 = .ok (.goto 4, 3) := by decide +kernel
theorem dX12_asNow_57 : decode cX12_asNow 57 = .ok (.iconst 0, 1) := by decide +kernel
theorem dX12_asNow_58 : decode cX12_asNow 58 = .ok (.iastore, 1) := by decide +kernel
theorem dX12_asNow_59 : decode cX12_asNow 59 = .ok (.iinc 1 1, 3) := by decide +kernel
theorem dX12_asNow_62 : decode cX12_asNow 62 = .ok (.goto (-49), 3) := by decide +kernel
theorem dX12_asNow_65 : decode cX12_asNow 65 = .ok (.return_, 1) := by decide +kernel
theorem dX12_codeNow_0 : decode cX12_codeNow 0 = .ok (.aload_n 0, 1) := by decide +kernel
theorem dX12_codeNow_1 : decode cX12_codeNow 1 = .ok (.getfield 108, 3) := by decide +kernel
theorem dX12_codeNow_4 : decode cX12_codeNow 4 = .ok (.bipush 32, 2) := by decide +kernel
theorem dX12_codeNow_6 : decode cX12_codeNow 6 = .ok (.aload_n 0, 1) := by decide +kernel
theorem dX12_codeNow_7 : decode cX12_codeNow 7 = .ok (.getfield 35, 3) := by decide +kernel
theorem dX12_codeNow_10 : decode cX12_codeNow 10 = .ok (.iconst 0, 1) := by decide +kernel
theorem dX12_codeNow_11 : decode cX12_codeNow 11 = .ok (.iaload, 1) := by decide +kernel
theorem dX12_codeNow_12 : decode cX12_codeNow 12 = .ok (.bipush 10, 2) := by decide +kernel
theorem dX12_codeNow_14 : decode cX12_codeNow 14 = .ok (.aload_n 0, 1) := by decide +kernel
theorem dX12_codeNow_15 : decode cX12_codeNow 15 = .ok (.getfield 35, 3) := by decide +kernel
theorem dX12_codeNow_18 : decode cX12_codeNow 18 = .ok (.iconst 1, 1) := by decide +kernel
theorem dX12_codeNow_19 : decode cX12_codeNow 19 = .ok (.iaload, 1) := by decide +kernel
theorem dX12_codeNow_20 : decode cX12_codeNow 20 = .ok (.imul, 1) := by decide +kernel
theorem dX12_codeNow_21 : decode cX12_codeNow 21 = .ok (.iadd, 1) := by decide +kernel
theorem dX12_codeNow_22 : decode cX12_codeNow 22 = .ok (.bipush 100, 2) := by decide +kernel
theorem dX12_codeNow_24 : decode cX12_codeNow 24 = .ok (.aload_n 0, 1) := by decide +kernel
theorem dX12_codeNow_25 : decode cX12_codeNow 25 = .ok (.getfield 35, 3) := by decide +kernel
theorem dX12_codeNow_28 : decode cX12_codeNow 28 = .ok (.iconst 2, 1) := by decide +kernel
theorem dX12_codeNow_29 : decode cX12_codeNow 29 = .ok (.iaload, 1) := by decide +kernel
theorem dX12_codeNow_30 : decode cX12_codeNow 30 = .ok (.imul, 1) := by decide +kernel
theorem dX12_codeNow_31 : decode cX12_codeNow 31 = .ok (.iadd, 1) := by decide +kernel
theorem dX12_codeNow_32 : decode cX12_codeNow 32 = .ok (.imul, 1) := by decide +kernel
theorem dX12_codeNow_33 : decode cX12_codeNow 33 = .ok (.iadd, 1) := by decide +kernel
theorem dX12_codeNow_34 : decode cX12_codeNow 34 = .ok (.ireturn, 1) := by decide +kernel
theorem dX12_decode_0 : decode cX12_decode 0 = .ok (.aload_n 0, 1) := by decide +kernel
theorem dX12_decode_1 : decode cX12_decode 1 = .ok (.iload_n 1, 1) := by decide +kernel
theorem dX12_decode_2 : decode cX12_decode 2 = .ok (.bipush 31, 2) := by decide +kernel
theorem dX12_decode_4 : decode cX12_decode 4 = .ok (.iand, 1) := by decide +kernel
theorem dX12_decode_5 : decode cX12_decode 5 = .ok (.putfield 108, 3) := by decide +kernel
theorem dX12_decode_8 : decode cX12_decode 8 = .ok (.aload_n 0, 1) := by decide +kernel
theorem dX12_decode_9 : decode cX12_decode 9 = .ok (.getfield 35, 3) := by decide +kernel
theorem dX12_decode_12 : decode cX12_decode 12 = .ok (.iconst 0, 1) := by decide +kernel
theorem dX12_decode_13 : decode cX12_decode 13 = .ok (.iload_n 1, 1) := by decide +kernel
theorem dX12_decode_14 : decode cX12_decode 14 = .ok (.bipush 32, 2) := by decide +kernel
theorem dX12_decode_16 : decode cX12_decode 16 = .ok (.idiv, 1) := by decide +kernel
theorem dX12_decode_17 : decode cX12_decode 17 = .ok (.bipush 10, 2) := by decide +kernel
theorem dX12_decode_19 : decode cX12_decode 19 = .ok (.irem, 1) := by decide +kernel
theorem dX12_decode_20 : decode cX12_decode 20 = .ok (.iastore, 1) := by decide +kernel
theorem dX12_decode_21 : decode cX12_decode 21 = .ok (.aload_n 0, 1) := by decide +kernel
theorem dX12_decode_22 : decode cX12_decode 22 = .ok (.getfield 35, 3) := by decide +kernel
theorem dX12_decode_25 : decode cX12_decode 25 = .ok (.iconst 1, 1) := by decide +kernel
theorem dX12_decode_26 : decode cX12_decode 26 = .ok (.iload_n 1, 1) := by decide +kernel
theorem dX12_decode_27 : decode cX12_decode 27 = .ok (.sipush 320, 3) := by decide +kernel
theorem dX12_decode_30 : decode cX12_decode 30 = .ok (.idiv, 1) := by decide +kernel
theorem dX12_decode_31 : decode cX12_decode 31 = .ok (.bipush 10, 2) := by decide +kernel
theorem dX12_decode_33 : decode cX12_decode 33 = .ok (.irem, 1) := by decide +kernel
theorem dX12_decode_34 : decode cX12_decode 34 = .ok (.iastore, 1) := by decide +kernel
theorem dX12_decode_35 : decode cX12_decode 35 = .ok (.aload_n 0, 1) := by decide +kernel
theorem dX12_decode_36 : decode cX12_decode 36 = .ok (.getfield 35, 3) := by decide +kernel
theorem dX12_decode_39 : decode cX12_decode 39 = .ok (.iconst 2, 1) := by decide +kernel
theorem dX12_decode_40 : decode cX12_decode 40 = .ok (.iload_n 1, 1) := by decide +kernel
theorem dX12_decode_41 : decode cX12_decode 41 = .ok (.sipush 3200, 3) := by decide +kernel
theorem dX12_decode_44 : decode cX12_decode 44 = .ok (.idiv, 1) := by decide +kernel
theorem dX12_decode_45 : decode cX12_decode 45 = .ok (.iastore, 1) := by decide +kernel
theorem dX12_decode_46 : decode cX12_decode 46 = .ok (.return_, 1) := by decide +kernel
theorem dX12_weight_0 : decode cX12_weight 0 = .ok (.aload_n 0, 1) := by decide +kernel
theorem dX12_weight_1 : decode cX12_weight 1 = .ok (.iconst 0, 1) := by decide +kernel
theorem dX12_weight_2 : decode cX12_weight 2 = .ok (.iload_n 1, 1) := by decide +kernel
theorem dX12_weight_3 : decode cX12_weight 3 = .ok (.invokevirtual 68, 3) := by decide +kernel
theorem dX12_weight_6 : decode cX12_weight 6 = .ok (.ifCond .ne 8, 3) := by decide +kernel
theorem dX12_weight_9 : decode cX12_weight 9 = .ok (.aload_n 0, 1) := by decide +kernel
theorem dX12_weight_10 : decode cX12_weight 10 = .ok (.invokevirtual 121, 3) := by decide +kernel
theorem dX12_weight_13 : decode cX12_weight 13 = .ok (.ireturn, 1) := by decide +kernel
theorem dX12_weight_14 : decode cX12_weight 14 = .ok (.aload_n 0, 1) := by decide +kernel
theorem dX12_weight_15 : decode cX12_weight 15 = .ok (.invokevirtual 125, 3) := by decide +kernel
theorem dX12_weight_18 : decode cX12_weight 18 = .ok (.aload_n 0, 1) := by decide +kernel
theorem dX12_weight_19 : decode cX12_weight 19 = .ok (.invokevirtual 128, 3) := by decide +kernel
theorem dX12_weight_22 : decode cX12_weight 22 = .ok (.aload_n 0, 1) := by decide +kernel
theorem dX12_weight_23 : decode cX12_weight 23 = .ok (.iload_n 1, 1) := by decide +kernel
theorem dX12_weight_24 : decode cX12_weight 24 = .ok (.invokevirtual 111, 3) := by decide +kernel
theorem dX12_weight_27 : decode cX12_weight 27 = .ok (.ireturn, 1) := by decide +kernel
theorem dX12_isOne_0 : decode cX12_isOne 0 = .ok (.iload_n 1, 1) := by decide +kernel
theorem dX12_isOne_1 : decode cX12_isOne 1 = .ok (.i2l, 1) := by decide +kernel
theorem dX12_isOne_2 : decode cX12_isOne 2 = .ok (.lconst 0, 1) := by decide +kernel
theorem dX12_isOne_3 : decode cX12_isOne 3 = .ok (.aload_n 0, 1) := by decide +kernel
theorem dX12_isOne_4 : decode cX12_isOne 4 = .ok (.getfield 7, 3) := by decide +kernel
theorem dX12_isOne_7 : decode cX12_isOne 7 = .ok (.bipush 29, 2) := by decide +kernel
theorem dX12_isOne_9 : decode cX12_isOne 9 = .ok (.iaload, 1) := by decide +kernel
theorem dX12_isOne_10 : decode cX12_isOne 10 = .ok (.iconst 1, 1) := by decide +kernel
theorem dX12_isOne_11 : decode cX12_isOne 11 = .ok (.isub, 1) := by decide +kernel
theorem dX12_isOne_12 : decode cX12_isOne 12 = .ok (.i2l, 1) := by decide +kernel
theorem dX12_isOne_13 : decode cX12_isOne 13 = .ok (.invokestatic 62, 3) := by decide +kernel
theorem dX12_isOne_16 : decode cX12_isOne 16 = .ok (.ireturn, 1) := by decide +kernel
theorem dX12_where_0 : decode cX12_where 0 = .ok (.aload_n 0, 1) := by decide +kernel
theorem dX12_where_1 : decode cX12_where 1 = .ok (.iload_n 1, 1) := by decide +kernel
theorem dX12_where_2 : decode cX12_where 2 = .ok (.invokevirtual 131, 3) := by decide +kernel
theorem dX12_where_5 : decode cX12_where 5 = .ok (.ifCond .eq 15, 3) := by decide +kernel
theorem dX12_where_8 : decode cX12_where 8 = .ok (.aload_n 0, 1) := by decide +kernel
theorem dX12_where_9 : decode cX12_where 9 = .ok (.getfield 7, 3) := by decide +kernel
theorem dX12_where_12 : decode cX12_where 12 = .ok (.bipush 33, 2) := by decide +kernel
theorem dX12_where_14 : decode cX12_where 14 = .ok (.iload_n 1, 1) := by decide +kernel
theorem dX12_where_15 : decode cX12_where 15 = .ok (.iadd, 1) := by decide +kernel
theorem dX12_where_16 : decode cX12_where 16 = .ok (.iaload, 1) := by decide +kernel
theorem dX12_where_17 : decode cX12_where 17 = .ok (.goto 7, 3) := by decide +kernel
theorem dX12_where_20 : decode cX12_where 20 = .ok (.aload_n 0, 1) := by decide +kernel
theorem dX12_where_21 : decode cX12_where 21 = .ok (.invokevirtual 121, 3) := by decide +kernel
theorem dX12_where_24 : decode cX12_where 24 = .ok (.ireturn, 1) := by decide +kernel
theorem dX12_lying_0 : decode cX12_lying 0 = .ok (.aload_n 0, 1) := by decide +kernel
theorem dX12_lying_1 : decode cX12_lying 1 = .ok (.getfield 7, 3) := by decide +kernel
theorem dX12_lying_4 : decode cX12_lying 4 = .ok (.bipush 21, 2) := by decide +kernel
theorem dX12_lying_6 : decode cX12_lying 6 = .ok (.iaload, 1) := by decide +kernel
theorem dX12_lying_7 : decode cX12_lying 7 = .ok (.ireturn, 1) := by decide +kernel
theorem dX12_type_0 : decode cX12_type 0 = .ok (.iload_n 3, 1) := by decide +kernel
theorem dX12_type_1 : decode cX12_type 1 = .ok (.i2l, 1) := by decide +kernel
theorem dX12_type_2 : decode cX12_type 2 = .ok (.lconst 1, 1) := by decide +kernel
theorem dX12_type_3 : decode cX12_type 3 = .ok (.ldc2_w 135, 3) := by decide +kernel
theorem dX12_type_6 : decode cX12_type 6 = .ok (.invokestatic 62, 3) := by decide +kernel
theorem dX12_type_9 : decode cX12_type 9 = .ok (.ifCond .ne 8, 3) := by decide +kernel
theorem dX12_type_12 : decode cX12_type 12 = .ok (.aload_n 0, 1) := by decide +kernel
theorem dX12_type_13 : decode cX12_type 13 = .ok (.invokevirtual 121, 3) := by decide +kernel
theorem dX12_type_16 : decode cX12_type 16 = .ok (.ireturn, 1) := by decide +kernel
theorem dX12_type_17 : decode cX12_type 17 = .ok (.aload_n 0, 1) := by decide +kernel
theorem dX12_type_18 : decode cX12_type 18 = .ok (.getfield 137, 3) := by decide +kernel
theorem dX12_type_21 : decode cX12_type 21 = .ok (.iload_n 3, 1) := by decide +kernel
theorem dX12_type_22 : decode cX12_type 22 = .ok (.iadd, 1) := by decide +kernel
theorem dX12_type_23 : decode cX12_type 23 = .ok (.sipush 200, 3) := by decide +kernel
theorem dX12_type_26 : decode cX12_type 26 = .ok (.if_icmp .le 10, 3) := by decide +kernel
theorem dX12_type_29 : decode cX12_type 29 = .ok (.aload_n 0, 1) := by decide +kernel
theorem dX12_type_30 : decode cX12_type 30 = .ok (.bipush (-4), 2) := by decide +kernel
theorem dX12_type_32 : decode cX12_type 32 = .ok (.invokevirtual 56, 3) := by decide +kernel
theorem dX12_type_35 : decode cX12_type 35 = .ok (.ireturn, 1) := by decide +kernel
theorem dX12_type_36 : decode cX12_type 36 = .ok (.iload_n 3, 1) := by decide +kernel
theorem dX12_type_37 : decode cX12_type 37 = .ok (.iconst 1, 1) := by decide +kernel
theorem dX12_type_38 : decode cX12_type 38 = .ok (.isub, 1) := by decide +kernel
theorem dX12_type_39 : decode cX12_type 39 = .ok (.istore 4, 2) := by decide +kernel
theorem dX12_type_41 : decode cX12_type 41 = .ok (.iload 4, 2) := by decide +kernel
theorem dX12_type_43 : decode cX12_type 43 = .ok (.ifCond .lt 40, 3) := by decide +kernel
theorem dX12_type_46 : decode cX12_type 46 = .ok (.aload_n 0, 1) := by decide +kernel
theorem dX12_type_47 : decode cX12_type 47 = .ok (.getfield 17, 3) := by decide +kernel
theorem dX12_type_50 : decode cX12_type 50 = .ok (.aload_n 0, 1) := by decide +kernel
theorem dX12_type_51 : decode cX12_type 51 = .ok (.getfield 137, 3) := by decide +kernel
theorem dX12_type_54 : decode cX12_type 54 = .ok (.lload_n 1, 1) := by decide +kernel
theorem dX12_type_55 : decode cX12_type 55 = .ok (.bipush 8, 2) := by decide +kernel
theorem dX12_type_57 : decode cX12_type 57 = .ok (.iload 4, 2) := by decide +kernel
theorem dX12_type_59 : decode cX12_type 59 = .ok (.imul, 1) := by decide +kernel
theorem dX12_type_60 : decode cX12_type 60 = .ok (.lshr, 1) := by decide +kernel
theorem dX12_type_61 : decode cX12_type 61 = .ok (.ldc2_w 140, 3) := by decide +kernel
theorem dX12_type_64 : decode cX12_type 64 = .ok (.land, 1) := by decide +kernel
theorem dX12_type_65 : decode cX12_type 65 = .ok (.l2i, 1) := by decide +kernel
theorem dX12_type_66 : decode cX12_type 66 = .ok (.iastore, 1) := by decide +kernel
theorem dX12_type_67 : decode cX12_type 67 = .ok (.aload_n 0, 1) := by decide +kernel
theorem dX12_type_68 : decode cX12_type 68 = .ok (.dup, 1) := by decide +kernel
theorem dX12_type_69 : decode cX12_type 69 = .ok (.getfield 137, 3) := by decide +kernel
theorem dX12_type_72 : decode cX12_type 72 = .ok (.iconst 1, 1) := by decide +kernel
theorem dX12_type_73 : decode cX12_type 73 = .ok (.iadd, 1) := by decide +kernel
theorem dX12_type_74 : decode cX12_type 74 = .ok (.putfield 137, 3) := by decide +kernel
theorem dX12_type_77 : decode cX12_type 77 = .ok (.iinc 4 (-1), 3) := by decide +kernel
theorem dX12_type_80 : decode cX12_type 80 = .ok (.goto (-39), 3) := by decide +kernel
theorem dX12_type_83 : decode cX12_type 83 = .ok (.aload_n 0, 1) := by decide +kernel
theorem dX12_type_84 : decode cX12_type 84 = .ok (.getfield 137, 3) := by decide +kernel
theorem dX12_type_87 : decode cX12_type 87 = .ok (.ireturn, 1) := by decide +kernel
theorem dX12_clear_0 : decode cX12_clear 0 = .ok (.aload_n 0, 1) := by decide +kernel
theorem dX12_clear_1 : decode cX12_clear 1 = .ok (.getfield 137, 3) := by decide +kernel
theorem dX12_clear_4 : decode cX12_clear 4 = .ok (.istore_n 1, 1) := by decide +kernel
theorem dX12_clear_5 : decode cX12_clear 5 = .ok (.aload_n 0, 1) := by decide +kernel
theorem dX12_clear_6 : decode cX12_clear 6 = .ok (.iconst 0, 1) := by decide +kernel
theorem dX12_clear_7 : decode cX12_clear 7 = .ok (.putfield 137, 3) := by decide +kernel
theorem dX12_clear_10 : decode cX12_clear 10 = .ok (.iload_n 1, 1) := by decide +kernel
theorem dX12_clear_11 : decode cX12_clear 11 = .ok (.ireturn, 1) := by decide +kernel
theorem dX12_isEnd_0 : decode cX12_isEnd 0 = .ok (.aload_n 0, 1) := by decide +kernel
theorem dX12_isEnd_1 : decode cX12_isEnd 1 = .ok (.getfield 142, 3) := by decide +kernel
theorem dX12_isEnd_4 : decode cX12_isEnd 4 = .ok (.aload_n 0, 1) := by decide +kernel
theorem dX12_isEnd_5 : decode cX12_isEnd 5 = .ok (.getfield 137, 3) := by decide +kernel
theorem dX12_isEnd_8 : decode cX12_isEnd 8 = .ok (.if_icmp .ge 30, 3) := by decide +kernel
theorem dX12_isEnd_11 : decode cX12_isEnd 11 = .ok (.aload_n 0, 1) := by decide +kernel
theorem dX12_isEnd_12 : decode cX12_isEnd 12 = .ok (.getfield 17, 3) := by decide +kernel
theorem dX12_isEnd_15 : decode cX12_isEnd 15 = .ok (.aload_n 0, 1) := by decide +kernel
theorem dX12_isEnd_16 : decode cX12_isEnd 16 = .ok (.getfield 142, 3) := by decide +kernel
theorem dX12_isEnd_19 : decode cX12_isEnd 19 = .ok (.iaload, 1) := by decide +kernel
theorem dX12_isEnd_20 : decode cX12_isEnd 20 = .ok (.bipush 32, 2) := by decide +kernel
theorem dX12_isEnd_22 : decode cX12_isEnd 22 = .ok (.if_icmp .ne 16, 3) := by decide +kernel
theorem dX12_isEnd_25 : decode cX12_isEnd 25 = .ok (.aload_n 0, 1) := by decide +kernel
theorem dX12_isEnd_26 : decode cX12_isEnd 26 = .ok (.dup, 1) := by decide +kernel
theorem dX12_isEnd_27 : decode cX12_isEnd 27 = .ok (.getfield 142, 3) := by decide +kernel
theorem dX12_isEnd_30 : decode cX12_isEnd 30 = .ok (.iconst 1, 1) := by decide +kernel
theorem dX12_isEnd_31 : decode cX12_isEnd 31 = .ok (.iadd, 1) := by decide +kernel
theorem dX12_isEnd_32 : decode cX12_isEnd 32 = .ok (.putfield 142, 3) := by decide +kernel
theorem dX12_isEnd_35 : decode cX12_isEnd 35 = .ok (.goto (-35), 3) := by decide +kernel
theorem dX12_isEnd_38 : decode cX12_isEnd 38 = .ok (.aload_n 0, 1) := by decide +kernel
theorem dX12_isEnd_39 : decode cX12_isEnd 39 = .ok (.getfield 142, 3) := by decide +kernel
theorem dX12_isEnd_42 : decode cX12_isEnd 42 = .ok (.aload_n 0, 1) := by decide +kernel
theorem dX12_isEnd_43 : decode cX12_isEnd 43 = .ok (.getfield 137, 3) := by decide +kernel
theorem dX12_isEnd_46 : decode cX12_isEnd 46 = .ok (.if_icmp .ne 7, 3) := by decide +kernel
theorem dX12_isEnd_49 : decode cX12_isEnd 49 = .ok (.iconst 1, 1) := by decide +kernel
theorem dX12_isEnd_50 : decode cX12_isEnd 50 = .ok (.goto 4, 3) := by decide +kernel
theorem dX12_isEnd_53 : decode cX12_isEnd 53 = .ok (.iconst 0, 1) := by decide +kernel
theorem dX12_isEnd_54 : decode cX12_isEnd 54 = .ok (.ireturn, 1) := by decide +kernel
theorem dX12_wordOf_0 : decode cX12_wordOf 0 = .ok (.lload_n 0, 1) := by decide +kernel
theorem dX12_wordOf_1 : decode cX12_wordOf 1 = .ok (.ldc2_w 145, 3) := by decide +kernel
theorem dX12_wordOf_4 : decode cX12_wordOf 4 = .ok (.lcmp, 1) := by decide +kernel
theorem dX12_wordOf_5 : decode cX12_wordOf 5 = .ok (.ifCond .ne 7, 3) := by decide +kernel
theorem dX12_wordOf_8 : decode cX12_wordOf 8 = .ok (.iconst 0, 1) := by decide +kernel
theorem dX12_wordOf_9 : decode cX12_wordOf 9 = .ok (.goto 52, 3) := by decide +kernel
theorem dX12_wordOf_12 : decode cX12_wordOf 12 = .ok (.lload_n 0, 1) := by decide +kernel
theorem dX12_wordOf_13 : decode cX12_wordOf 13 = .ok (.ldc2_w 147, 3) := by decide +kernel
theorem dX12_wordOf_16 : decode cX12_wordOf 16 = .ok (.lcmp, 1) := by decide +kernel
theorem dX12_wordOf_17 : decode cX12_wordOf 17 = .ok (.ifCond .ne 7, 3) := by decide +kernel
theorem dX12_wordOf_20 : decode cX12_wordOf 20 = .ok (.iconst 1, 1) := by decide +kernel
theorem dX12_wordOf_21 : decode cX12_wordOf 21 = .ok (.goto 40, 3) := by decide +kernel
theorem dX12_wordOf_24 : decode cX12_wordOf 24 = .ok (.lload_n 0, 1) := by decide +kernel
theorem dX12_wordOf_25 : decode cX12_wordOf 25 = .ok (.ldc2_w 149, 3) := by decide +kernel
theorem dX12_wordOf_28 : decode cX12_wordOf 28 = .ok (.lcmp, 1) := by decide +kernel
theorem dX12_wordOf_29 : decode cX12_wordOf 29 = .ok (.ifCond .ne 7, 3) := by decide +kernel
theorem dX12_wordOf_32 : decode cX12_wordOf 32 = .ok (.iconst 2, 1) := by decide +kernel
theorem dX12_wordOf_33 : decode cX12_wordOf 33 = .ok (.goto 28, 3) := by decide +kernel
theorem dX12_wordOf_36 : decode cX12_wordOf 36 = .ok (.lload_n 0, 1) := by decide +kernel
theorem dX12_wordOf_37 : decode cX12_wordOf 37 = .ok (.ldc2_w 151, 3) := by decide +kernel
theorem dX12_wordOf_40 : decode cX12_wordOf 40 = .ok (.lcmp, 1) := by decide +kernel
theorem dX12_wordOf_41 : decode cX12_wordOf 41 = .ok (.ifCond .ne 7, 3) := by decide +kernel
theorem dX12_wordOf_44 : decode cX12_wordOf 44 = .ok (.iconst 3, 1) := by decide +kernel
theorem dX12_wordOf_45 : decode cX12_wordOf 45 = .ok (.goto 16, 3) := by decide +kernel
theorem dX12_wordOf_48 : decode cX12_wordOf 48 = .ok (.lload_n 0, 1) := by decide +kernel
theorem dX12_wordOf_49 : decode cX12_wordOf 49 = .ok (.ldc2_w 153, 3) := by decide +kernel
theorem dX12_wordOf_52 : decode cX12_wordOf 52 = .ok (.lcmp, 1) := by decide +kernel
theorem dX12_wordOf_53 : decode cX12_wordOf 53 = .ok (.ifCond .ne 7, 3) := by decide +kernel
theorem dX12_wordOf_56 : decode cX12_wordOf 56 = .ok (.iconst 4, 1) := by decide +kernel
theorem dX12_wordOf_57 : decode cX12_wordOf 57 = .ok (.goto 4, 3) := by decide +kernel
theorem dX12_wordOf_60 : decode cX12_wordOf 60 = .ok (.iconst (-1), 1) := by decide +kernel
theorem dX12_wordOf_61 : decode cX12_wordOf 61 = .ok (.ireturn, 1) := by decide +kernel
theorem dX12_takeNumber_0 : decode cX12_takeNumber 0 = .ok (.aload_n 0, 1) := by decide +kernel
theorem dX12_takeNumber_1 : decode cX12_takeNumber 1 = .ok (.invokevirtual 155, 3) := by decide +kernel
theorem dX12_takeNumber_4 : decode cX12_takeNumber 4 = .ok (.ifCond .eq 13, 3) := by decide +kernel
theorem dX12_takeNumber_7 : decode cX12_takeNumber 7 = .ok (.aload_n 0, 1) := by decide +kernel
theorem dX12_takeNumber_8 : decode cX12_takeNumber 8 = .ok (.aload_n 0, 1) := by decide +kernel
theorem dX12_takeNumber_9 : decode cX12_takeNumber 9 = .ok (.getfield 137, 3) := by decide +kernel
theorem dX12_takeNumber_12 : decode cX12_takeNumber 12 = .ok (.putfield 159, 3) := by decide +kernel
theorem dX12_takeNumber_15 : decode cX12_takeNumber 15 = .ok (.iconst (-1), 1) := by decide +kernel
theorem dX12_takeNumber_16 : decode cX12_takeNumber 16 = .ok (.ireturn, 1) := by decide +kernel
theorem dX12_takeNumber_17 : decode cX12_takeNumber 17 = .ok (.aload_n 0, 1) := by decide +kernel
theorem dX12_takeNumber_18 : decode cX12_takeNumber 18 = .ok (.getfield 142, 3) := by decide +kernel
theorem dX12_takeNumber_21 : decode cX12_takeNumber 21 = .ok (.istore_n 1, 1) := by decide +kernel
theorem dX12_takeNumber_22 : decode cX12_takeNumber 22 = .ok (.iconst 0, 1) := by decide +kernel
theorem dX12_takeNumber_23 : decode cX12_takeNumber 23 = .ok (.istore_n 2, 1) := by decide +kernel
theorem dX12_takeNumber_24 : decode cX12_takeNumber 24 = .ok (.aload_n 0, 1) := by decide +kernel
theorem dX12_takeNumber_25 : decode cX12_takeNumber 25 = .ok (.getfield 142, 3) := by decide +kernel
theorem dX12_takeNumber_28 : decode cX12_takeNumber 28 = .ok (.aload_n 0, 1) := by decide +kernel
theorem dX12_takeNumber_29 : decode cX12_takeNumber 29 = .ok (.getfield 137, 3) := by decide +kernel
theorem dX12_takeNumber_32 : decode cX12_takeNumber 32 = .ok (.if_icmp .ge 70, 3) := by decide +kernel
theorem dX12_takeNumber_35 : decode cX12_takeNumber 35 = .ok (.aload_n 0, 1) := by decide +kernel
theorem dX12_takeNumber_36 : decode cX12_takeNumber 36 = .ok (.getfield 17, 3) := by decide +kernel
theorem dX12_takeNumber_39 : decode cX12_takeNumber 39 = .ok (.aload_n 0, 1) := by decide +kernel
theorem dX12_takeNumber_40 : decode cX12_takeNumber 40 = .ok (.getfield 142, 3) := by decide +kernel
theorem dX12_takeNumber_43 : decode cX12_takeNumber 43 = .ok (.iaload, 1) := by decide +kernel
theorem dX12_takeNumber_44 : decode cX12_takeNumber 44 = .ok (.i2l, 1) := by decide +kernel
theorem dX12_takeNumber_45 : decode cX12_takeNumber 45 = .ok (.ldc2_w 162, 3) := by decide +kernel
theorem dX12_takeNumber_48 : decode cX12_takeNumber 48 = .ok (.ldc2_w 164, 3) := by decide +kernel
theorem dX12_takeNumber_51 : decode cX12_takeNumber 51 = .ok (.invokestatic 62, 3) := by decide +kernel
theorem dX12_takeNumber_54 : decode cX12_takeNumber 54 = .ok (.ifCond .eq 48, 3) := by decide +kernel
theorem dX12_takeNumber_57 : decode cX12_takeNumber 57 = .ok (.aload_n 0, 1) := by decide +kernel
theorem dX12_takeNumber_58 : decode cX12_takeNumber 58 = .ok (.getfield 142, 3) := by decide +kernel
theorem dX12_takeNumber_61 : decode cX12_takeNumber 61 = .ok (.iload_n 1, 1) := by decide +kernel
theorem dX12_takeNumber_62 : decode cX12_takeNumber 62 = .ok (.isub, 1) := by decide +kernel
theorem dX12_takeNumber_63 : decode cX12_takeNumber 63 = .ok (.iconst 2, 1) := by decide +kernel
theorem dX12_takeNumber_64 : decode cX12_takeNumber 64 = .ok (.if_icmp .ge 23, 3) := by decide +kernel
theorem dX12_takeNumber_67 : decode cX12_takeNumber 67 = .ok (.bipush 10, 2) := by decide +kernel
theorem dX12_takeNumber_69 : decode cX12_takeNumber 69 = .ok (.iload_n 2, 1) := by decide +kernel
theorem dX12_takeNumber_70 : decode cX12_takeNumber 70 = .ok (.imul, 1) := by decide +kernel
theorem dX12_takeNumber_71 : decode cX12_takeNumber 71 = .ok (.aload_n 0, 1) := by decide +kernel
theorem dX12_takeNumber_72 : decode cX12_takeNumber 72 = .ok (.getfield 17, 3) := by decide +kernel
theorem dX12_takeNumber_75 : decode cX12_takeNumber 75 = .ok (.aload_n 0, 1) := by decide +kernel
theorem dX12_takeNumber_76 : decode cX12_takeNumber 76 = .ok (.getfield 142, 3) := by decide +kernel
theorem dX12_takeNumber_79 : decode cX12_takeNumber 79 = .ok (.iaload, 1) := by decide +kernel
theorem dX12_takeNumber_80 : decode cX12_takeNumber 80 = .ok (.iadd, 1) := by decide +kernel
theorem dX12_takeNumber_81 : decode cX12_takeNumber 81 = .ok (.bipush 48, 2) := by decide +kernel
theorem dX12_takeNumber_83 : decode cX12_takeNumber 83 = .ok (.isub, 1) := by decide +kernel
theorem dX12_takeNumber_84 : decode cX12_takeNumber 84 = .ok (.goto 4, 3) := by decide +kernel
theorem dX12_takeNumber_87 : decode cX12_takeNumber 87 = .ok (.iload_n 2, 1) := by decide +kernel
theorem dX12_takeNumber_88 : decode cX12_takeNumber 88 = .ok (.istore_n 2, 1) := by decide +kernel
theorem dX12_takeNumber_89 : decode cX12_takeNumber 89 = .ok (.aload_n 0, 1) := by decide +kernel
theorem dX12_takeNumber_90 : decode cX12_takeNumber 90 = .ok (.dup, 1) := by decide +kernel
theorem dX12_takeNumber_91 : decode cX12_takeNumber 91 = .ok (.getfield 142, 3) := by decide +kernel
theorem dX12_takeNumber_94 : decode cX12_takeNumber 94 = .ok (.iconst 1, 1) := by decide +kernel
theorem dX12_takeNumber_95 : decode cX12_takeNumber 95 = .ok (.iadd, 1) := by decide +kernel
theorem dX12_takeNumber_96 : decode cX12_takeNumber 96 = .ok (.putfield 142, 3) := by decide +kernel
theorem dX12_takeNumber_99 : decode cX12_takeNumber 99 = .ok (.goto (-75), 3) := by decide +kernel
theorem dX12_takeNumber_102 : decode cX12_takeNumber 102 = .ok (.aload_n 0, 1) := by decide +kernel
theorem dX12_takeNumber_103 : decode cX12_takeNumber 103 = .ok (.aload_n 0, 1) := by decide +kernel
theorem dX12_takeNumber_104 : decode cX12_takeNumber 104 = .ok (.getfield 142, 3) := by decide +kernel
theorem dX12_takeNumber_107 : decode cX12_takeNumber 107 = .ok (.iload_n 1, 1) := by decide +kernel
theorem dX12_takeNumber_108 : decode cX12_takeNumber 108 = .ok (.if_icmp .eq 13, 3) := by decide +kernel
theorem dX12_takeNumber_111 : decode cX12_takeNumber 111 = .ok (.aload_n 0, 1) := by decide +kernel
theorem dX12_takeNumber_112 : decode cX12_takeNumber 112 = .ok (.getfield 142, 3) := by decide +kernel
theorem dX12_takeNumber_115 : decode cX12_takeNumber 115 = .ok (.iload_n 1, 1) := by decide +kernel
theorem dX12_takeNumber_116 : decode cX12_takeNumber 116 = .ok (.isub, 1) := by decide +kernel
theorem dX12_takeNumber_117 : decode cX12_takeNumber 117 = .ok (.iconst 2, 1) := by decide +kernel
theorem dX12_takeNumber_118 : decode cX12_takeNumber 118 = .ok (.if_icmp .le 7, 3) := by decide +kernel
theorem dX12_takeNumber_121 : decode cX12_takeNumber 121 = .ok (.iload_n 1, 1) := by decide +kernel
theorem dX12_takeNumber_122 : decode cX12_takeNumber 122 = .ok (.goto 7, 3) := by decide +kernel
theorem dX12_takeNumber_125 : decode cX12_takeNumber 125 = .ok (.aload_n 0, 1) := by decide +kernel
theorem dX12_takeNumber_126 : decode cX12_takeNumber 126 = .ok (.getfield 159, 3) := by decide +kernel
theorem dX12_takeNumber_129 : decode cX12_takeNumber 129 = .ok (.putfield 159, 3) := by decide +kernel
theorem dX12_takeNumber_132 : decode cX12_takeNumber 132 = .ok (.iload_n 2, 1) := by decide +kernel
theorem dX12_takeNumber_133 : decode cX12_takeNumber 133 = .ok (.ireturn, 1) := by decide +kernel
theorem dX12_takeItem_0 : decode cX12_takeItem 0 = .ok (.aload_n 0, 1) := by decide +kernel
theorem dX12_takeItem_1 : decode cX12_takeItem 1 = .ok (.getfield 142, 3) := by decide +kernel
theorem dX12_takeItem_4 : decode cX12_takeItem 4 = .ok (.istore_n 1, 1) := by decide +kernel
theorem dX12_takeItem_5 : decode cX12_takeItem 5 = .ok (.lconst 0, 1) := by decide +kernel
theorem dX12_takeItem_6 : decode cX12_takeItem 6 = .ok (.lstore_n 2, 1) := by decide +kernel
theorem dX12_takeItem_7 : decode cX12_takeItem 7 = .ok (.aload_n 0, 1) := by decide +kernel
theorem dX12_takeItem_8 : decode cX12_takeItem 8 = .ok (.getfield 142, 3) := by decide +kernel
theorem dX12_takeItem_11 : decode cX12_takeItem 11 = .ok (.aload_n 0, 1) := by decide +kernel
theorem dX12_takeItem_12 : decode cX12_takeItem 12 = .ok (.getfield 137, 3) := by decide +kernel
theorem dX12_takeItem_15 : decode cX12_takeItem 15 = .ok (.if_icmp .ge 74, 3) := by decide +kernel
theorem dX12_takeItem_18 : decode cX12_takeItem 18 = .ok (.aload_n 0, 1) := by decide +kernel
theorem dX12_takeItem_19 : decode cX12_takeItem 19 = .ok (.getfield 17, 3) := by decide +kernel
