def isFort (f : Nat) : Prop := f = 1 ∨ f = 20 ∨ f = 40 ∨ f = 59
theorem ck_0 : cK 0 = 11 := by decide +kernel
theorem cr_0_0 : cRef 0 0 = 1 := by decide +kernel
theorem cr_0_1 : cRef 0 1 = 20 := by decide +kernel
theorem cr_0_2 : cRef 0 2 = 39 := by decide +kernel
theorem cr_0_3 : cRef 0 3 = 78 := by decide +kernel
theorem cr_0_4 : cRef 0 4 = 79 := by decide +kernel
theorem cr_0_5 : cRef 0 5 = 81 := by decide +kernel
theorem cr_0_6 : cRef 0 6 = 83 := by decide +kernel
theorem ck_1 : cK 1 = 2 := by decide +kernel
theorem cr_1_0 : cRef 1 0 = 2 := by decide +kernel
theorem cr_1_2 : cRef 1 2 = 9 := by decide +kernel
theorem cr_1_3 : cRef 1 3 = 10 := by decide +kernel
theorem cr_1_4 : cRef 1 4 = 11 := by decide +kernel
theorem cr_1_5 : cRef 1 5 = 12 := by decide +kernel
theorem cr_1_8 : cRef 1 8 = 13 := by decide +kernel
theorem cr_1_9 : cRef 1 9 = 14 := by decide +kernel
theorem cr_1_10 : cRef 1 10 = 15 := by decide +kernel
theorem cr_1_12 : cRef 1 12 = 16 := by decide +kernel
theorem cr_1_13 : cRef 1 13 = 17 := by decide +kernel
theorem cr_1_14 : cRef 1 14 = 18 := by decide +kernel
theorem ck_2 : cK 2 = 103 := by decide +kernel
theorem cl_2 : cLn 2 = 6 := by decide +kernel
theorem cr_2_0 : cRef 2 0 = 3 := by decide +kernel
theorem cr_2_1 : cRef 2 1 = 4 := by decide +kernel
theorem cr_2_2 : cRef 2 2 = 5 := by decide +kernel
theorem cr_2_3 : cRef 2 3 = 6 := by decide +kernel
theorem cr_2_4 : cRef 2 4 = 7 := by decide +kernel
theorem cr_2_5 : cRef 2 5 = 8 := by decide +kernel
theorem ck_3 : cK 3 = 7 := by decide +kernel
theorem ck_4 : cK 4 = 1 := by decide +kernel
theorem ck_5 : cK 5 = 0 := by decide +kernel
theorem ck_6 : cK 6 = 5 := by decide +kernel
theorem ck_7 : cK 7 = 4 := by decide +kernel
theorem ck_8 : cK 8 = 3 := by decide +kernel
theorem ck_9 : cK 9 = 100 := by decide +kernel
theorem cl_9 : cLn 9 = 5 := by decide +kernel
theorem ck_10 : cK 10 = 100 := by decide +kernel
theorem cl_10 : cLn 10 = 5 := by decide +kernel
theorem ck_11 : cK 11 = 100 := by decide +kernel
theorem cl_11 : cLn 11 = 5 := by decide +kernel
theorem ck_12 : cK 12 = 100 := by decide +kernel
theorem cl_12 : cLn 12 = 5 := by decide +kernel
theorem ck_13 : cK 13 = 100 := by decide +kernel
theorem cl_13 : cLn 13 = 2 := by decide +kernel
theorem ck_14 : cK 14 = 100 := by decide +kernel
theorem cl_14 : cLn 14 = 2 := by decide +kernel
theorem ck_15 : cK 15 = 100 := by decide +kernel
theorem cl_15 : cLn 15 = 2 := by decide +kernel
theorem ck_16 : cK 16 = 100 := by decide +kernel
theorem cl_16 : cLn 16 = 3 := by decide +kernel
theorem ck_17 : cK 17 = 100 := by decide +kernel
theorem cl_17 : cLn 17 = 3 := by decide +kernel
theorem ck_18 : cK 18 = 6 := by decide +kernel
theorem cr_18_0 : cRef 18 0 = 19 := by decide +kernel
theorem ck_19 : cK 19 = 100 := by decide +kernel
theorem cl_19 : cLn 19 = 16 := by decide +kernel
theorem ck_20 : cK 20 = 2 := by decide +kernel
theorem cr_20_0 : cRef 20 0 = 21 := by decide +kernel
theorem cr_20_2 : cRef 20 2 = 28 := by decide +kernel
theorem cr_20_3 : cRef 20 3 = 29 := by decide +kernel
theorem cr_20_4 : cRef 20 4 = 30 := by decide +kernel
theorem cr_20_5 : cRef 20 5 = 31 := by decide +kernel
theorem cr_20_8 : cRef 20 8 = 32 := by decide +kernel
theorem cr_20_9 : cRef 20 9 = 33 := by decide +kernel
theorem cr_20_10 : cRef 20 10 = 34 := by decide +kernel
theorem cr_20_12 : cRef 20 12 = 35 := by decide +kernel
theorem cr_20_13 : cRef 20 13 = 36 := by decide +kernel
theorem cr_20_14 : cRef 20 14 = 37 := by decide +kernel
theorem ck_21 : cK 21 = 103 := by decide +kernel
theorem cl_21 : cLn 21 = 6 := by decide +kernel
theorem cr_21_0 : cRef 21 0 = 22 := by decide +kernel
theorem cr_21_1 : cRef 21 1 = 23 := by decide +kernel
theorem cr_21_2 : cRef 21 2 = 24 := by decide +kernel
theorem cr_21_3 : cRef 21 3 = 25 := by decide +kernel
theorem cr_21_4 : cRef 21 4 = 26 := by decide +kernel
theorem cr_21_5 : cRef 21 5 = 27 := by decide +kernel
theorem ck_22 : cK 22 = 7 := by decide +kernel
theorem ck_23 : cK 23 = 1 := by decide +kernel
theorem ck_24 : cK 24 = 0 := by decide +kernel
theorem ck_25 : cK 25 = 5 := by decide +kernel
theorem ck_26 : cK 26 = 4 := by decide +kernel
theorem ck_27 : cK 27 = 3 := by decide +kernel
theorem ck_28 : cK 28 = 100 := by decide +kernel
theorem cl_28 : cLn 28 = 5 := by decide +kernel
theorem ck_29 : cK 29 = 100 := by decide +kernel
theorem cl_29 : cLn 29 = 5 := by decide +kernel
theorem ck_30 : cK 30 = 100 := by decide +kernel
theorem cl_30 : cLn 30 = 5 := by decide +kernel
theorem ck_31 : cK 31 = 100 := by decide +kernel
theorem cl_31 : cLn 31 = 5 := by decide +kernel
theorem ck_32 : cK 32 = 100 := by decide +kernel
theorem cl_32 : cLn 32 = 2 := by decide +kernel
theorem ck_33 : cK 33 = 100 := by decide +kernel
theorem cl_33 : cLn 33 = 2 := by decide +kernel
theorem ck_34 : cK 34 = 100 := by decide +kernel
theorem cl_34 : cLn 34 = 2 := by decide +kernel
theorem ck_35 : cK 35 = 100 := by decide +kernel
theorem cl_35 : cLn 35 = 3 := by decide +kernel
theorem ck_36 : cK 36 = 100 := by decide +kernel
theorem cl_36 : cLn 36 = 3 := by decide +kernel
theorem ck_37 : cK 37 = 6 := by decide +kernel
theorem cr_37_0 : cRef 37 0 = 38 := by decide +kernel
theorem ck_38 : cK 38 = 100 := by decide +kernel
theorem cl_38 : cLn 38 = 16 := by decide +kernel
theorem ck_39 : cK 39 = 104 := by decide +kernel
theorem cl_39 : cLn 39 = 2 := by decide +kernel
theorem cr_39_0 : cRef 39 0 = 40 := by decide +kernel
theorem cr_39_1 : cRef 39 1 = 59 := by decide +kernel
theorem ck_40 : cK 40 = 2 := by decide +kernel
theorem cr_40_0 : cRef 40 0 = 41 := by decide +kernel
theorem cr_40_2 : cRef 40 2 = 48 := by decide +kernel
theorem cr_40_3 : cRef 40 3 = 49 := by decide +kernel
theorem cr_40_4 : cRef 40 4 = 50 := by decide +kernel
theorem cr_40_5 : cRef 40 5 = 51 := by decide +kernel
theorem cr_40_8 : cRef 40 8 = 52 := by decide +kernel
theorem cr_40_9 : cRef 40 9 = 53 := by decide +kernel
theorem cr_40_10 : cRef 40 10 = 54 := by decide +kernel
theorem cr_40_12 : cRef 40 12 = 55 := by decide +kernel
theorem cr_40_13 : cRef 40 13 = 56 := by decide +kernel
theorem cr_40_14 : cRef 40 14 = 57 := by decide +kernel
theorem ck_41 : cK 41 = 103 := by decide +kernel
theorem cl_41 : cLn 41 = 6 := by decide +kernel
theorem cr_41_0 : cRef 41 0 = 42 := by decide +kernel
theorem cr_41_1 : cRef 41 1 = 43 := by decide +kernel
theorem cr_41_2 : cRef 41 2 = 44 := by decide +kernel
theorem cr_41_3 : cRef 41 3 = 45 := by decide +kernel
theorem cr_41_4 : cRef 41 4 = 46 := by decide +kernel
theorem cr_41_5 : cRef 41 5 = 47 := by decide +kernel
theorem ck_42 : cK 42 = 7 := by decide +kernel
theorem ck_43 : cK 43 = 1 := by decide +kernel
theorem ck_44 : cK 44 = 0 := by decide +kernel
theorem ck_45 : cK 45 = 5 := by decide +kernel
theorem ck_46 : cK 46 = 4 := by decide +kernel
theorem ck_47 : cK 47 = 3 := by decide +kernel
theorem ck_48 : cK 48 = 100 := by decide +kernel
theorem cl_48 : cLn 48 = 5 := by decide +kernel
theorem ck_49 : cK 49 = 100 := by decide +kernel
theorem cl_49 : cLn 49 = 5 := by decide +kernel
theorem ck_50 : cK 50 = 100 := by decide +kernel
theorem cl_50 : cLn 50 = 5 := by decide +kernel
theorem ck_51 : cK 51 = 100 := by decide +kernel
theorem cl_51 : cLn 51 = 5 := by decide +kernel
theorem ck_52 : cK 52 = 100 := by decide +kernel
theorem cl_52 : cLn 52 = 2 := by decide +kernel
theorem ck_53 : cK 53 = 100 := by decide +kernel
theorem cl_53 : cLn 53 = 2 := by decide +kernel
theorem ck_54 : cK 54 = 100 := by decide +kernel
theorem cl_54 : cLn 54 = 2 := by decide +kernel
theorem ck_55 : cK 55 = 100 := by decide +kernel
theorem cl_55 : cLn 55 = 3 := by decide +kernel
theorem ck_56 : cK 56 = 100 := by decide +kernel
theorem cl_56 : cLn 56 = 3 := by decide +kernel
theorem ck_57 : cK 57 = 6 := by decide +kernel
theorem cr_57_0 : cRef 57 0 = 58 := by decide +kernel
theorem ck_58 : cK 58 = 100 := by decide +kernel
theorem cl_58 : cLn 58 = 16 := by decide +kernel
theorem ck_59 : cK 59 = 2 := by decide +kernel
theorem cr_59_0 : cRef 59 0 = 60 := by decide +kernel
theorem cr_59_2 : cRef 59 2 = 67 := by decide +kernel
theorem cr_59_3 : cRef 59 3 = 68 := by decide +kernel
theorem cr_59_4 : cRef 59 4 = 69 := by decide +kernel
theorem cr_59_5 : cRef 59 5 = 70 := by decide +kernel
theorem cr_59_8 : cRef 59 8 = 71 := by decide +kernel
theorem cr_59_9 : cRef 59 9 = 72 := by decide +kernel
theorem cr_59_10 : cRef 59 10 = 73 := by decide +kernel
theorem cr_59_12 : cRef 59 12 = 74 := by decide +kernel
theorem cr_59_13 : cRef 59 13 = 75 := by decide +kernel
theorem cr_59_14 : cRef 59 14 = 76 := by decide +kernel
theorem ck_60 : cK 60 = 103 := by decide +kernel
theorem cl_60 : cLn 60 = 6 := by decide +kernel
theorem cr_60_0 : cRef 60 0 = 61 := by decide +kernel
theorem cr_60_1 : cRef 60 1 = 62 := by decide +kernel
theorem cr_60_2 : cRef 60 2 = 63 := by decide +kernel
theorem cr_60_3 : cRef 60 3 = 64 := by decide +kernel
theorem cr_60_4 : cRef 60 4 = 65 := by decide +kernel
theorem cr_60_5 : cRef 60 5 = 66 := by decide +kernel
theorem ck_61 : cK 61 = 7 := by decide +kernel
theorem ck_62 : cK 62 = 1 := by decide +kernel
theorem ck_63 : cK 63 = 0 := by decide +kernel
theorem ck_64 : cK 64 = 5 := by decide +kernel
theorem ck_65 : cK 65 = 4 := by decide +kernel
theorem ck_66 : cK 66 = 3 := by decide +kernel
theorem ck_67 : cK 67 = 100 := by decide +kernel
theorem cl_67 : cLn 67 = 5 := by decide +kernel
theorem ck_68 : cK 68 = 100 := by decide +kernel
theorem cl_68 : cLn 68 = 5 := by decide +kernel
theorem ck_69 : cK 69 = 100 := by decide +kernel
theorem cl_69 : cLn 69 = 5 := by decide +kernel
theorem ck_70 : cK 70 = 100 := by decide +kernel
theorem cl_70 : cLn 70 = 5 := by decide +kernel
theorem ck_71 : cK 71 = 100 := by decide +kernel
theorem cl_71 : cLn 71 = 2 := by decide +kernel
theorem ck_72 : cK 72 = 100 := by decide +kernel
theorem cl_72 : cLn 72 = 2 := by decide +kernel
theorem ck_73 : cK 73 = 100 := by decide +kernel
theorem cl_73 : cLn 73 = 2 := by decide +kernel
theorem ck_74 : cK 74 = 100 := by decide +kernel
theorem cl_74 : cLn 74 = 3 := by decide +kernel
theorem ck_75 : cK 75 = 100 := by decide +kernel
theorem cl_75 : cLn 75 = 3 := by decide +kernel
theorem ck_76 : cK 76 = 6 := by decide +kernel
theorem cr_76_0 : cRef 76 0 = 77 := by decide +kernel
theorem ck_77 : cK 77 = 100 := by decide +kernel
theorem cl_77 : cLn 77 = 16 := by decide +kernel
theorem ck_78 : cK 78 = 102 := by decide +kernel
theorem cl_78 : cLn 78 = 2 := by decide +kernel
theorem ck_79 : cK 79 = 10 := by decide +kernel
theorem cr_79_0 : cRef 79 0 = 80 := by decide +kernel
theorem ck_80 : cK 80 = 100 := by decide +kernel
theorem cl_80 : cLn 80 = 200 := by decide +kernel
theorem ck_81 : cK 81 = 8 := by decide +kernel
theorem cr_81_0 : cRef 81 0 = 82 := by decide +kernel
theorem ck_82 : cK 82 = 100 := by decide +kernel
theorem cl_82 : cLn 82 = 3 := by decide +kernel
theorem ck_83 : cK 83 = 9 := by decide +kernel
theorem cr_83_0 : cRef 83 0 = 84 := by decide +kernel
theorem cr_83_1 : cRef 83 1 = 85 := by decide +kernel
theorem ck_84 : cK 84 = 100 := by decide +kernel
theorem cl_84 : cLn 84 = 9000 := by decide +kernel
theorem ck_85 : cK 85 = 101 := by decide +kernel
theorem cl_85 : cLn 85 = 500 := by decide +kernel
theorem ck_86 : cK 86 = 12 := by decide +kernel
theorem cr_86_0 : cRef 86 0 = 87 := by decide +kernel
theorem cr_86_1 : cRef 86 1 = 88 := by decide +kernel
theorem cr_86_2 : cRef 86 2 = 89 := by decide +kernel
theorem cr_86_4 : cRef 86 4 = 90 := by decide +kernel
theorem cr_86_5 : cRef 86 5 = 91 := by decide +kernel
theorem cr_86_7 : cRef 86 7 = 92 := by decide +kernel
theorem cr_86_8 : cRef 86 8 = 93 := by decide +kernel
theorem cr_86_9 : cRef 86 9 = 94 := by decide +kernel
theorem cr_86_11 : cRef 86 11 = 95 := by decide +kernel
theorem cr_86_13 : cRef 86 13 = 96 := by decide +kernel
theorem cr_86_14 : cRef 86 14 = 97 := by decide +kernel
theorem cr_86_18 : cRef 86 18 = 98 := by decide +kernel
theorem cr_86_19 : cRef 86 19 = 99 := by decide +kernel
theorem cr_86_21 : cRef 86 21 = 100 := by decide +kernel
theorem cr_86_22 : cRef 86 22 = 101 := by decide +kernel
theorem ck_87 : cK 87 = 100 := by decide +kernel
theorem cl_87 : cLn 87 = 440 := by decide +kernel
theorem ck_88 : cK 88 = 102 := by decide +kernel
theorem cl_88 : cLn 88 = 2 := by decide +kernel
theorem ck_89 : cK 89 = 100 := by decide +kernel
theorem cl_89 : cLn 89 = 200 := by decide +kernel
theorem ck_90 : cK 90 = 100 := by decide +kernel
theorem cl_90 : cLn 90 = 3 := by decide +kernel
theorem ck_91 : cK 91 = 100 := by decide +kernel
theorem cl_91 : cLn 91 = 5 := by decide +kernel
theorem ck_92 : cK 92 = 100 := by decide +kernel
theorem cl_92 : cLn 92 = 3 := by decide +kernel
theorem ck_93 : cK 93 = 100 := by decide +kernel
theorem cl_93 : cLn 93 = 3 := by decide +kernel
theorem ck_94 : cK 94 = 100 := by decide +kernel
theorem cl_94 : cLn 94 = 3 := by decide +kernel
theorem ck_95 : cK 95 = 100 := by decide +kernel
theorem cl_95 : cLn 95 = 3 := by decide +kernel
theorem ck_96 : cK 96 = 100 := by decide +kernel
theorem cl_96 : cLn 96 = 40 := by decide +kernel
theorem ck_97 : cK 97 = 100 := by decide +kernel
theorem cl_97 : cLn 97 = 120 := by decide +kernel
theorem ck_98 : cK 98 = 100 := by decide +kernel
theorem cl_98 : cLn 98 = 32000 := by decide +kernel
theorem ck_99 : cK 99 = 100 := by decide +kernel
theorem cl_99 : cLn 99 = 32000 := by decide +kernel
theorem ck_100 : cK 100 = 100 := by decide +kernel
theorem cl_100 : cLn 100 = 10240 := by decide +kernel
theorem ck_101 : cK 101 = 100 := by decide +kernel
theorem cl_101 : cLn 101 = 10240 := by decide +kernel
theorem fk_0 {f : Nat} (h : isFort f) : cK f = 2 := by rcases h with rfl | rfl | rfl | rfl <;> decide +kernel
theorem fr_0_0 {f : Nat} (h : isFort f) : cRef f 0 = f + 1 := by rcases h with rfl | rfl | rfl | rfl <;> decide +kernel
theorem fr_0_2 {f : Nat} (h : isFort f) : cRef f 2 = f + 8 := by rcases h with rfl | rfl | rfl | rfl <;> decide +kernel
theorem fr_0_3 {f : Nat} (h : isFort f) : cRef f 3 = f + 9 := by rcases h with rfl | rfl | rfl | rfl <;> decide +kernel
theorem fr_0_4 {f : Nat} (h : isFort f) : cRef f 4 = f + 10 := by rcases h with rfl | rfl | rfl | rfl <;> decide +kernel
theorem fr_0_5 {f : Nat} (h : isFort f) : cRef f 5 = f + 11 := by rcases h with rfl | rfl | rfl | rfl <;> decide +kernel
theorem fr_0_8 {f : Nat} (h : isFort f) : cRef f 8 = f + 12 := by rcases h with rfl | rfl | rfl | rfl <;> decide +kernel
theorem fr_0_9 {f : Nat} (h : isFort f) : cRef f 9 = f + 13 := by rcases h with rfl | rfl | rfl | rfl <;> decide +kernel
theorem fr_0_10 {f : Nat} (h : isFort f) : cRef f 10 = f + 14 := by rcases h with rfl | rfl | rfl | rfl <;> decide +kernel
theorem fr_0_12 {f : Nat} (h : isFort f) : cRef f 12 = f + 15 := by rcases h with rfl | rfl | rfl | rfl <;> decide +kernel
theorem fr_0_13 {f : Nat} (h : isFort f) : cRef f 13 = f + 16 := by rcases h with rfl | rfl | rfl | rfl <;> decide +kernel
theorem fr_0_14 {f : Nat} (h : isFort f) : cRef f 14 = f + 17 := by rcases h with rfl | rfl | rfl | rfl <;> decide +kernel
theorem fk_1 {f : Nat} (h : isFort f) : cK (f + 1) = 103 := by rcases h with rfl | rfl | rfl | rfl <;> decide +kernel
theorem fl_1 {f : Nat} (h : isFort f) : cLn (f + 1) = 6 := by rcases h with rfl | rfl | rfl | rfl <;> decide +kernel
theorem fr_1_0 {f : Nat} (h : isFort f) : cRef (f + 1) 0 = f + 2 := by rcases h with rfl | rfl | rfl | rfl <;> decide +kernel
theorem fr_1_1 {f : Nat} (h : isFort f) : cRef (f + 1) 1 = f + 3 := by rcases h with rfl | rfl | rfl | rfl <;> decide +kernel
theorem fr_1_2 {f : Nat} (h : isFort f) : cRef (f + 1) 2 = f + 4 := by rcases h with rfl | rfl | rfl | rfl <;> decide +kernel
theorem fr_1_3 {f : Nat} (h : isFort f) : cRef (f + 1) 3 = f + 5 := by rcases h with rfl | rfl | rfl | rfl <;> decide +kernel
theorem fr_1_4 {f : Nat} (h : isFort f) : cRef (f + 1) 4 = f + 6 := by rcases h with rfl | rfl | rfl | rfl <;> decide +kernel
theorem fr_1_5 {f : Nat} (h : isFort f) : cRef (f + 1) 5 = f + 7 := by rcases h with rfl | rfl | rfl | rfl <;> decide +kernel
theorem fk_2 {f : Nat} (h : isFort f) : cK (f + 2) = 7 := by rcases h with rfl | rfl | rfl | rfl <;> decide +kernel
theorem fk_3 {f : Nat} (h : isFort f) : cK (f + 3) = 1 := by rcases h with rfl | rfl | rfl | rfl <;> decide +kernel
theorem fk_4 {f : Nat} (h : isFort f) : cK (f + 4) = 0 := by rcases h with rfl | rfl | rfl | rfl <;> decide +kernel
theorem fk_5 {f : Nat} (h : isFort f) : cK (f + 5) = 5 := by rcases h with rfl | rfl | rfl | rfl <;> decide +kernel
theorem fk_6 {f : Nat} (h : isFort f) : cK (f + 6) = 4 := by rcases h with rfl | rfl | rfl | rfl <;> decide +kernel
theorem fk_7 {f : Nat} (h : isFort f) : cK (f + 7) = 3 := by rcases h with rfl | rfl | rfl | rfl <;> decide +kernel
theorem fk_8 {f : Nat} (h : isFort f) : cK (f + 8) = 100 := by rcases h with rfl | rfl | rfl | rfl <;> decide +kernel
theorem fl_8 {f : Nat} (h : isFort f) : cLn (f + 8) = 5 := by rcases h with rfl | rfl | rfl | rfl <;> decide +kernel
theorem fk_9 {f : Nat} (h : isFort f) : cK (f + 9) = 100 := by rcases h with rfl | rfl | rfl | rfl <;> decide +kernel
theorem fl_9 {f : Nat} (h : isFort f) : cLn (f + 9) = 5 := by rcases h with rfl | rfl | rfl | rfl <;> decide +kernel
theorem fk_10 {f : Nat} (h : isFort f) : cK (f + 10) = 100 := by rcases h with rfl | rfl | rfl | rfl <;> decide +kernel
theorem fl_10 {f : Nat} (h : isFort f) : cLn (f + 10) = 5 := by rcases h with rfl | rfl | rfl | rfl <;> decide +kernel
theorem fk_11 {f : Nat} (h : isFort f) : cK (f + 11) = 100 := by rcases h with rfl | rfl | rfl | rfl <;> decide +kernel
theorem fl_11 {f : Nat} (h : isFort f) : cLn (f + 11) = 5 := by rcases h with rfl | rfl | rfl | rfl <;> decide +kernel
theorem fk_12 {f : Nat} (h : isFort f) : cK (f + 12) = 100 := by rcases h with rfl | rfl | rfl | rfl <;> decide +kernel
theorem fl_12 {f : Nat} (h : isFort f) : cLn (f + 12) = 2 := by rcases h with rfl | rfl | rfl | rfl <;> decide +kernel
theorem fk_13 {f : Nat} (h : isFort f) : cK (f + 13) = 100 := by rcases h with rfl | rfl | rfl | rfl <;> decide +kernel
theorem fl_13 {f : Nat} (h : isFort f) : cLn (f + 13) = 2 := by rcases h with rfl | rfl | rfl | rfl <;> decide +kernel
theorem fk_14 {f : Nat} (h : isFort f) : cK (f + 14) = 100 := by rcases h with rfl | rfl | rfl | rfl <;> decide +kernel
theorem fl_14 {f : Nat} (h : isFort f) : cLn (f + 14) = 2 := by rcases h with rfl | rfl | rfl | rfl <;> decide +kernel
theorem fk_15 {f : Nat} (h : isFort f) : cK (f + 15) = 100 := by rcases h with rfl | rfl | rfl | rfl <;> decide +kernel
theorem fl_15 {f : Nat} (h : isFort f) : cLn (f + 15) = 3 := by rcases h with rfl | rfl | rfl | rfl <;> decide +kernel
theorem fk_16 {f : Nat} (h : isFort f) : cK (f + 16) = 100 := by rcases h with rfl | rfl | rfl | rfl <;> decide +kernel
theorem fl_16 {f : Nat} (h : isFort f) : cLn (f + 16) = 3 := by rcases h with rfl | rfl | rfl | rfl <;> decide +kernel
theorem fk_17 {f : Nat} (h : isFort f) : cK (f + 17) = 6 := by rcases h with rfl | rfl | rfl | rfl <;> decide +kernel
theorem fr_17_0 {f : Nat} (h : isFort f) : cRef (f + 17) 0 = f + 18 := by rcases h with rfl | rfl | rfl | rfl <;> decide +kernel
theorem fk_18 {f : Nat} (h : isFort f) : cK (f + 18) = 100 := by rcases h with rfl | rfl | rfl | rfl <;> decide +kernel
theorem fl_18 {f : Nat} (h : isFort f) : cLn (f + 18) = 16 := by rcases h with rfl | rfl | rfl | rfl <;> decide +kernel
theorem fy_2_0 : fTy 2 0 = 3 := by decide +kernel
theorem fy_2_1 : fTy 2 1 = 0 := by decide +kernel
theorem fy_2_2 : fTy 2 2 = 3 := by decide +kernel
theorem fy_2_3 : fTy 2 3 = 3 := by decide +kernel
theorem fy_2_4 : fTy 2 4 = 3 := by decide +kernel
theorem fy_2_5 : fTy 2 5 = 3 := by decide +kernel
theorem fy_2_6 : fTy 2 6 = 0 := by decide +kernel
theorem fy_2_7 : fTy 2 7 = 0 := by decide +kernel
theorem fy_2_8 : fTy 2 8 = 3 := by decide +kernel
theorem fy_2_9 : fTy 2 9 = 3 := by decide +kernel
theorem fy_2_10 : fTy 2 10 = 3 := by decide +kernel
theorem fy_2_11 : fTy 2 11 = 0 := by decide +kernel
theorem fy_2_12 : fTy 2 12 = 3 := by decide +kernel
theorem fy_2_13 : fTy 2 13 = 3 := by decide +kernel
theorem fy_2_14 : fTy 2 14 = 3 := by decide +kernel
theorem fy_6_0 : fTy 6 0 = 3 := by decide +kernel
theorem fy_6_1 : fTy 6 1 = 0 := by decide +kernel
theorem fy_8_0 : fTy 8 0 = 3 := by decide +kernel
theorem fy_8_1 : fTy 8 1 = 0 := by decide +kernel
theorem fy_9_0 : fTy 9 0 = 3 := by decide +kernel
theorem fy_9_1 : fTy 9 1 = 3 := by decide +kernel
theorem fy_9_2 : fTy 9 2 = 0 := by decide +kernel
theorem fy_9_3 : fTy 9 3 = 0 := by decide +kernel
theorem fy_9_4 : fTy 9 4 = 0 := by decide +kernel
theorem fy_10_0 : fTy 10 0 = 3 := by decide +kernel
theorem fy_10_1 : fTy 10 1 = 0 := by decide +kernel
theorem fy_10_2 : fTy 10 2 = 0 := by decide +kernel
theorem fy_10_3 : fTy 10 3 = 0 := by decide +kernel
theorem fy_10_4 : fTy 10 4 = 0 := by decide +kernel
theorem fy_10_5 : fTy 10 5 = 0 := by decide +kernel
theorem fy_11_0 : fTy 11 0 = 3 := by decide +kernel
theorem fy_11_1 : fTy 11 1 = 3 := by decide +kernel
theorem fy_11_2 : fTy 11 2 = 3 := by decide +kernel
theorem fy_11_3 : fTy 11 3 = 3 := by decide +kernel
theorem fy_11_4 : fTy 11 4 = 3 := by decide +kernel
theorem fy_11_5 : fTy 11 5 = 3 := by decide +kernel
theorem fy_11_6 : fTy 11 6 = 3 := by decide +kernel
theorem fy_11_7 : fTy 11 7 = 0 := by decide +kernel
theorem fy_11_8 : fTy 11 8 = 0 := by decide +kernel
theorem fy_11_9 : fTy 11 9 = 0 := by decide +kernel
theorem fy_12_0 : fTy 12 0 = 3 := by decide +kernel
theorem fy_12_1 : fTy 12 1 = 3 := by decide +kernel
theorem fy_12_2 : fTy 12 2 = 3 := by decide +kernel
theorem fy_12_3 : fTy 12 3 = 0 := by decide +kernel
theorem fy_12_4 : fTy 12 4 = 3 := by decide +kernel
theorem fy_12_5 : fTy 12 5 = 3 := by decide +kernel
theorem fy_12_6 : fTy 12 6 = 0 := by decide +kernel
theorem fy_12_7 : fTy 12 7 = 3 := by decide +kernel
theorem fy_12_8 : fTy 12 8 = 3 := by decide +kernel
theorem fy_12_9 : fTy 12 9 = 3 := by decide +kernel
theorem fy_12_10 : fTy 12 10 = 0 := by decide +kernel
theorem fy_12_11 : fTy 12 11 = 3 := by decide +kernel
theorem fy_12_12 : fTy 12 12 = 0 := by decide +kernel
theorem fy_12_13 : fTy 12 13 = 3 := by decide +kernel
theorem fy_12_14 : fTy 12 14 = 3 := by decide +kernel
theorem fy_12_15 : fTy 12 15 = 0 := by decide +kernel
theorem fy_12_16 : fTy 12 16 = 0 := by decide +kernel
theorem fy_12_17 : fTy 12 17 = 0 := by decide +kernel
theorem fy_12_18 : fTy 12 18 = 3 := by decide +kernel
theorem fy_12_19 : fTy 12 19 = 3 := by decide +kernel
theorem fy_12_20 : fTy 12 20 = 0 := by decide +kernel
theorem fy_12_21 : fTy 12 21 = 3 := by decide +kernel
theorem fy_12_22 : fTy 12 22 = 3 := by decide +kernel
theorem fy_12_23 : fTy 12 23 = 1 := by decide +kernel
