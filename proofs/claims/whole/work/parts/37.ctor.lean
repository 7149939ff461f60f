/-! the constructors: printed from the decode rows by wip/whole/gen10.py -/
/-- all that the law makes: class, reference, a row of longs, a row of doubles -/
def fY : List x_D := [(0, 12, [5, 7, 17, 28, 31, 37, 50, 63, 64, 67, 88, 90]), (0, 11, [6, 0, 0, 1, 0, 0, 0, 0]), (3, 1500, []), (0, 3, [0, 8, 9, 10, 11, 0, 12, 13, 14, 15, 16]), (1, 30, []), (1, 30, []), (1, 30, []), (1, 30, []), (1, 12, []), (1, 12, []), (1, 12, []), (1, 12, []), (1, 120, []), (0, 5, [18]), (0, 3, [0, 19, 20, 21, 22, 0, 23, 24, 25, 26, 27]), (1, 30, []), (1, 30, []), (1, 30, []), (1, 30, []), (1, 12, []), (1, 12, []), (1, 12, []), (1, 12, []), (1, 120, []), (0, 10, [0, 29, 30]), (1, 30, []), (1, 90, []), (0, 9, [7, 32, 33, 34, 35, 36]), (1, 120, []), (1, 31, []), (1, 12, []), (1, 120, []), (4, 1440, []), (0, 8, [7, 31, 38, 39, 40, 41, 42, 43, 44, 45, 46, 47, 48, 49, 0]), (1, 12, []), (1, 120, []), (1, 120, []), (1, 120, []), (1, 120, []), (1, 120, []), (1, 120, []), (1, 120, []), (1, 120, []), (1, 120, []), (1, 120, []), (2, 120, []), (0, 8, [7, 31, 51, 52, 53, 54, 55, 56, 57, 58, 59, 60, 61, 62, 0]), (1, 12, []), (1, 120, []), (1, 120, []), (1, 120, []), (1, 120, []), (1, 120, []), (1, 120, []), (1, 120, []), (1, 120, []), (1, 120, []), (1, 120, []), (2, 120, []), (0, 6, [7, 31, 37, 50, 1, 1, 0]), (0, 2, [37, 65, 0, 66, 0]), (1, 6, []), (1, 6, []), (0, 4, [68, 0, 0, 84, 87]), (6, 15, [65]), (1, 252, []), (1, 252, []), (1, 252, []), (1, 252, []), (1, 252, []), (1, 252, []), (1, 252, []), (1, 252, []), (1, 252, []), (1, 252, []), (1, 252, []), (1, 252, []), (1, 252, []), (1, 252, []), (1, 252, []), (6, 2, [81]), (1, 252, []), (1, 252, []), (2, 2, []), (0, 7, [89, 0]), (3, 130, []), (1, 20, []), (0, 13, [92, 93, 0, 0, 94, 0, 95, 96, 97, 98, 99, 100, 101, 102, 103, 104, 105, 0, 0, 0, 0, 0, 106, 107, 108, 109, 0, 110, 111, 0, 112, 0, 0, 0, 1, 0, 0, 0, 3, 113, 0]), (1, 4788, []), (2, 2, []), (1, 580, []), (1, 120, []), (1, 120, []), (1, 1440, []), (1, 120, []), (1, 120, []), (1, 120, []), (1, 120, []), (1, 120, []), (2, 120, []), (1, 12, []), (1, 12, []), (1, 12, []), (1, 12, []), (1, 12, []), (1, 12, []), (1, 20, []), (1, 300, []), (3, 1500, []), (1, 120, []), (4, 1, []), (5, 1, [])]
theorem dX9_init_0 : decode cX9_init 0 = .ok (.aload_n 0, 1) := by decide +kernel
theorem dX9_init_1 : decode cX9_init 1 = .ok (.invokespecial 3, 3) := by decide +kernel
theorem dX9_init_4 : decode cX9_init 4 = .ok (.aload_n 0, 1) := by decide +kernel
theorem dX9_init_5 : decode cX9_init 5 = .ok (.sipush 1500, 3) := by decide +kernel
theorem dX9_init_8 : decode cX9_init 8 = .ok (.newarray .byte, 2) := by decide +kernel
theorem dX9_init_10 : decode cX9_init 10 = .ok (.putfield 11, 3) := by decide +kernel
theorem dX9_init_13 : decode cX9_init 13 = .ok (.aload_n 0, 1) := by decide +kernel
theorem dX9_init_14 : decode cX9_init 14 = .ok (.iconst 0, 1) := by decide +kernel
theorem dX9_init_15 : decode cX9_init 15 = .ok (.putfield 15, 3) := by decide +kernel
theorem dX9_init_18 : decode cX9_init 18 = .ok (.aload_n 0, 1) := by decide +kernel
theorem dX9_init_19 : decode cX9_init 19 = .ok (.iconst 0, 1) := by decide +kernel
theorem dX9_init_20 : decode cX9_init 20 = .ok (.putfield 19, 3) := by decide +kernel
theorem dX9_init_23 : decode cX9_init 23 = .ok (.aload_n 0, 1) := by decide +kernel
theorem dX9_init_24 : decode cX9_init 24 = .ok (.iconst (-1), 1) := by decide +kernel
theorem dX9_init_25 : decode cX9_init 25 = .ok (.putfield 22, 3) := by decide +kernel
theorem dX9_init_28 : decode cX9_init 28 = .ok (.aload_n 0, 1) := by decide +kernel
theorem dX9_init_29 : decode cX9_init 29 = .ok (.iconst 0, 1) := by decide +kernel
theorem dX9_init_30 : decode cX9_init 30 = .ok (.putfield 25, 3) := by decide +kernel
theorem dX9_init_33 : decode cX9_init 33 = .ok (.aload_n 0, 1) := by decide +kernel
theorem dX9_init_34 : decode cX9_init 34 = .ok (.iconst 0, 1) := by decide +kernel
theorem dX9_init_35 : decode cX9_init 35 = .ok (.putfield 28, 3) := by decide +kernel
theorem dX9_init_38 : decode cX9_init 38 = .ok (.aload_n 0, 1) := by decide +kernel
theorem dX9_init_39 : decode cX9_init 39 = .ok (.iconst 0, 1) := by decide +kernel
theorem dX9_init_40 : decode cX9_init 40 = .ok (.putfield 31, 3) := by decide +kernel
theorem dX9_init_43 : decode cX9_init 43 = .ok (.aload_n 0, 1) := by decide +kernel
theorem dX9_init_44 : decode cX9_init 44 = .ok (.iconst 0, 1) := by decide +kernel
theorem dX9_init_45 : decode cX9_init 45 = .ok (.putfield 34, 3) := by decide +kernel
theorem dX9_init_48 : decode cX9_init 48 = .ok (.return_, 1) := by decide +kernel
theorem dX1_init_0 : decode cX1_init 0 = .ok (.aload_n 0, 1) := by decide +kernel
theorem dX1_init_1 : decode cX1_init 1 = .ok (.invokespecial 3, 3) := by decide +kernel
theorem dX1_init_4 : decode cX1_init 4 = .ok (.aload_n 0, 1) := by decide +kernel
theorem dX1_init_5 : decode cX1_init 5 = .ok (.iconst 0, 1) := by decide +kernel
theorem dX1_init_6 : decode cX1_init 6 = .ok (.putfield 9, 3) := by decide +kernel
theorem dX1_init_9 : decode cX1_init 9 = .ok (.aload_n 0, 1) := by decide +kernel
theorem dX1_init_10 : decode cX1_init 10 = .ok (.bipush 30, 2) := by decide +kernel
theorem dX1_init_12 : decode cX1_init 12 = .ok (.newarray .int, 2) := by decide +kernel
theorem dX1_init_14 : decode cX1_init 14 = .ok (.putfield 15, 3) := by decide +kernel
theorem dX1_init_17 : decode cX1_init 17 = .ok (.aload_n 0, 1) := by decide +kernel
theorem dX1_init_18 : decode cX1_init 18 = .ok (.bipush 30, 2) := by decide +kernel
theorem dX1_init_20 : decode cX1_init 20 = .ok (.newarray .int, 2) := by decide +kernel
theorem dX1_init_22 : decode cX1_init 22 = .ok (.putfield 19, 3) := by decide +kernel
theorem dX1_init_25 : decode cX1_init 25 = .ok (.aload_n 0, 1) := by decide +kernel
theorem dX1_init_26 : decode cX1_init 26 = .ok (.bipush 30, 2) := by decide +kernel
theorem dX1_init_28 : decode cX1_init 28 = .ok (.newarray .int, 2) := by decide +kernel
theorem dX1_init_30 : decode cX1_init 30 = .ok (.putfield 22, 3) := by decide +kernel
theorem dX1_init_33 : decode cX1_init 33 = .ok (.aload_n 0, 1) := by decide +kernel
theorem dX1_init_34 : decode cX1_init 34 = .ok (.bipush 30, 2) := by decide +kernel
theorem dX1_init_36 : decode cX1_init 36 = .ok (.newarray .int, 2) := by decide +kernel
theorem dX1_init_38 : decode cX1_init 38 = .ok (.putfield 25, 3) := by decide +kernel
theorem dX1_init_41 : decode cX1_init 41 = .ok (.aload_n 0, 1) := by decide +kernel
theorem dX1_init_42 : decode cX1_init 42 = .ok (.iconst 0, 1) := by decide +kernel
theorem dX1_init_43 : decode cX1_init 43 = .ok (.putfield 28, 3) := by decide +kernel
theorem dX1_init_46 : decode cX1_init 46 = .ok (.aload_n 0, 1) := by decide +kernel
theorem dX1_init_47 : decode cX1_init 47 = .ok (.bipush 12, 2) := by decide +kernel
theorem dX1_init_49 : decode cX1_init 49 = .ok (.newarray .int, 2) := by decide +kernel
theorem dX1_init_51 : decode cX1_init 51 = .ok (.putfield 31, 3) := by decide +kernel
theorem dX1_init_54 : decode cX1_init 54 = .ok (.aload_n 0, 1) := by decide +kernel
theorem dX1_init_55 : decode cX1_init 55 = .ok (.bipush 12, 2) := by decide +kernel
theorem dX1_init_57 : decode cX1_init 57 = .ok (.newarray .int, 2) := by decide +kernel
theorem dX1_init_59 : decode cX1_init 59 = .ok (.putfield 34, 3) := by decide +kernel
theorem dX1_init_62 : decode cX1_init 62 = .ok (.aload_n 0, 1) := by decide +kernel
theorem dX1_init_63 : decode cX1_init 63 = .ok (.bipush 12, 2) := by decide +kernel
theorem dX1_init_65 : decode cX1_init 65 = .ok (.newarray .int, 2) := by decide +kernel
theorem dX1_init_67 : decode cX1_init 67 = .ok (.putfield 37, 3) := by decide +kernel
theorem dX1_init_70 : decode cX1_init 70 = .ok (.aload_n 0, 1) := by decide +kernel
theorem dX1_init_71 : decode cX1_init 71 = .ok (.bipush 12, 2) := by decide +kernel
theorem dX1_init_73 : decode cX1_init 73 = .ok (.newarray .int, 2) := by decide +kernel
theorem dX1_init_75 : decode cX1_init 75 = .ok (.putfield 40, 3) := by decide +kernel
theorem dX1_init_78 : decode cX1_init 78 = .ok (.aload_n 0, 1) := by decide +kernel
theorem dX1_init_79 : decode cX1_init 79 = .ok (.bipush 120, 2) := by decide +kernel
theorem dX1_init_81 : decode cX1_init 81 = .ok (.newarray .int, 2) := by decide +kernel
theorem dX1_init_83 : decode cX1_init 83 = .ok (.putfield 43, 3) := by decide +kernel
theorem dX1_init_86 : decode cX1_init 86 = .ok (.return_, 1) := by decide +kernel
theorem dX3_init_0 : decode cX3_init 0 = .ok (.aload_n 0, 1) := by decide +kernel
theorem dX3_init_1 : decode cX3_init 1 = .ok (.invokespecial 3, 3) := by decide +kernel
theorem dX3_init_4 : decode cX3_init 4 = .ok (.aload_n 0, 1) := by decide +kernel
theorem dX3_init_5 : decode cX3_init 5 = .ok (.new 9, 3) := by decide +kernel
theorem dX3_init_8 : decode cX3_init 8 = .ok (.dup, 1) := by decide +kernel
theorem dX3_init_9 : decode cX3_init 9 = .ok (.invokespecial 11, 3) := by decide +kernel
theorem dX3_init_12 : decode cX3_init 12 = .ok (.putfield 12, 3) := by decide +kernel
theorem dX3_init_15 : decode cX3_init 15 = .ok (.return_, 1) := by decide +kernel
theorem dX8_init_0 : decode cX8_init 0 = .ok (.aload_n 0, 1) := by decide +kernel
theorem dX8_init_1 : decode cX8_init 1 = .ok (.invokespecial 3, 3) := by decide +kernel
theorem dX8_init_4 : decode cX8_init 4 = .ok (.aload_n 0, 1) := by decide +kernel
theorem dX8_init_5 : decode cX8_init 5 = .ok (.iconst 0, 1) := by decide +kernel
theorem dX8_init_6 : decode cX8_init 6 = .ok (.putfield 9, 3) := by decide +kernel
theorem dX8_init_9 : decode cX8_init 9 = .ok (.aload_n 0, 1) := by decide +kernel
theorem dX8_init_10 : decode cX8_init 10 = .ok (.bipush 30, 2) := by decide +kernel
theorem dX8_init_12 : decode cX8_init 12 = .ok (.newarray .int, 2) := by decide +kernel
theorem dX8_init_14 : decode cX8_init 14 = .ok (.putfield 15, 3) := by decide +kernel
theorem dX8_init_17 : decode cX8_init 17 = .ok (.aload_n 0, 1) := by decide +kernel
theorem dX8_init_18 : decode cX8_init 18 = .ok (.bipush 90, 2) := by decide +kernel
theorem dX8_init_20 : decode cX8_init 20 = .ok (.newarray .int, 2) := by decide +kernel
theorem dX8_init_22 : decode cX8_init 22 = .ok (.putfield 19, 3) := by decide +kernel
theorem dX8_init_25 : decode cX8_init 25 = .ok (.return_, 1) := by decide +kernel
theorem dX7_init_0 : decode cX7_init 0 = .ok (.aload_n 0, 1) := by decide +kernel
theorem dX7_init_1 : decode cX7_init 1 = .ok (.invokespecial 3, 3) := by decide +kernel
theorem dX7_init_4 : decode cX7_init 4 = .ok (.aload_n 0, 1) := by decide +kernel
theorem dX7_init_5 : decode cX7_init 5 = .ok (.bipush 120, 2) := by decide +kernel
theorem dX7_init_7 : decode cX7_init 7 = .ok (.newarray .int, 2) := by decide +kernel
theorem dX7_init_9 : decode cX7_init 9 = .ok (.putfield 9, 3) := by decide +kernel
theorem dX7_init_12 : decode cX7_init 12 = .ok (.aload_n 0, 1) := by decide +kernel
theorem dX7_init_13 : decode cX7_init 13 = .ok (.bipush 31, 2) := by decide +kernel
theorem dX7_init_15 : decode cX7_init 15 = .ok (.newarray .int, 2) := by decide +kernel
theorem dX7_init_17 : decode cX7_init 17 = .ok (.putfield 15, 3) := by decide +kernel
theorem dX7_init_20 : decode cX7_init 20 = .ok (.aload_n 0, 1) := by decide +kernel
theorem dX7_init_21 : decode cX7_init 21 = .ok (.bipush 12, 2) := by decide +kernel
theorem dX7_init_23 : decode cX7_init 23 = .ok (.newarray .int, 2) := by decide +kernel
theorem dX7_init_25 : decode cX7_init 25 = .ok (.putfield 18, 3) := by decide +kernel
theorem dX7_init_28 : decode cX7_init 28 = .ok (.aload_n 0, 1) := by decide +kernel
theorem dX7_init_29 : decode cX7_init 29 = .ok (.bipush 120, 2) := by decide +kernel
theorem dX7_init_31 : decode cX7_init 31 = .ok (.newarray .int, 2) := by decide +kernel
theorem dX7_init_33 : decode cX7_init 33 = .ok (.putfield 21, 3) := by decide +kernel
theorem dX7_init_36 : decode cX7_init 36 = .ok (.aload_n 0, 1) := by decide +kernel
theorem dX7_init_37 : decode cX7_init 37 = .ok (.sipush 1440, 3) := by decide +kernel
theorem dX7_init_40 : decode cX7_init 40 = .ok (.newarray .long, 2) := by decide +kernel
theorem dX7_init_42 : decode cX7_init 42 = .ok (.putfield 24, 3) := by decide +kernel
theorem dX7_init_45 : decode cX7_init 45 = .ok (.aload_n 0, 1) := by decide +kernel
theorem dX7_init_46 : decode cX7_init 46 = .ok (.aload_n 1, 1) := by decide +kernel
theorem dX7_init_47 : decode cX7_init 47 = .ok (.putfield 28, 3) := by decide +kernel
theorem dX7_init_50 : decode cX7_init 50 = .ok (.return_, 1) := by decide +kernel
theorem dX6_init_0 : decode cX6_init 0 = .ok (.aload_n 0, 1) := by decide +kernel
theorem dX6_init_1 : decode cX6_init 1 = .ok (.invokespecial 3, 3) := by decide +kernel
theorem dX6_init_4 : decode cX6_init 4 = .ok (.aload_n 0, 1) := by decide +kernel
theorem dX6_init_5 : decode cX6_init 5 = .ok (.bipush 12, 2) := by decide +kernel
theorem dX6_init_7 : decode cX6_init 7 = .ok (.newarray .int, 2) := by decide +kernel
theorem dX6_init_9 : decode cX6_init 9 = .ok (.putfield 9, 3) := by decide +kernel
theorem dX6_init_12 : decode cX6_init 12 = .ok (.aload_n 0, 1) := by decide +kernel
theorem dX6_init_13 : decode cX6_init 13 = .ok (.bipush 120, 2) := by decide +kernel
theorem dX6_init_15 : decode cX6_init 15 = .ok (.newarray .int, 2) := by decide +kernel
theorem dX6_init_17 : decode cX6_init 17 = .ok (.putfield 15, 3) := by decide +kernel
theorem dX6_init_20 : decode cX6_init 20 = .ok (.aload_n 0, 1) := by decide +kernel
theorem dX6_init_21 : decode cX6_init 21 = .ok (.bipush 120, 2) := by decide +kernel
theorem dX6_init_23 : decode cX6_init 23 = .ok (.newarray .int, 2) := by decide +kernel
theorem dX6_init_25 : decode cX6_init 25 = .ok (.putfield 18, 3) := by decide +kernel
theorem dX6_init_28 : decode cX6_init 28 = .ok (.aload_n 0, 1) := by decide +kernel
theorem dX6_init_29 : decode cX6_init 29 = .ok (.bipush 120, 2) := by decide +kernel
theorem dX6_init_31 : decode cX6_init 31 = .ok (.newarray .int, 2) := by decide +kernel
theorem dX6_init_33 : decode cX6_init 33 = .ok (.putfield 21, 3) := by decide +kernel
theorem dX6_init_36 : decode cX6_init 36 = .ok (.aload_n 0, 1) := by decide +kernel
theorem dX6_init_37 : decode cX6_init 37 = .ok (.bipush 120, 2) := by decide +kernel
theorem dX6_init_39 : decode cX6_init 39 = .ok (.newarray .int, 2) := by decide +kernel
theorem dX6_init_41 : decode cX6_init 41 = .ok (.putfield 24, 3) := by decide +kernel
theorem dX6_init_44 : decode cX6_init 44 = .ok (.aload_n 0, 1) := by decide +kernel
theorem dX6_init_45 : decode cX6_init 45 = .ok (.bipush 120, 2) := by decide +kernel
theorem dX6_init_47 : decode cX6_init 47 = .ok (.newarray .int, 2) := by decide +kernel
theorem dX6_init_49 : decode cX6_init 49 = .ok (.putfield 27, 3) := by decide +kernel
theorem dX6_init_52 : decode cX6_init 52 = .ok (.aload_n 0, 1) := by decide +kernel
theorem dX6_init_53 : decode cX6_init 53 = .ok (.bipush 120, 2) := by decide +kernel
theorem dX6_init_55 : decode cX6_init 55 = .ok (.newarray .int, 2) := by decide +kernel
theorem dX6_init_57 : decode cX6_init 57 = .ok (.putfield 30, 3) := by decide +kernel
theorem dX6_init_60 : decode cX6_init 60 = .ok (.aload_n 0, 1) := by decide +kernel
theorem dX6_init_61 : decode cX6_init 61 = .ok (.bipush 120, 2) := by decide +kernel
theorem dX6_init_63 : decode cX6_init 63 = .ok (.newarray .int, 2) := by decide +kernel
theorem dX6_init_65 : decode cX6_init 65 = .ok (.putfield 33, 3) := by decide +kernel
theorem dX6_init_68 : decode cX6_init 68 = .ok (.aload_n 0, 1) := by decide +kernel
theorem dX6_init_69 : decode cX6_init 69 = .ok (.bipush 120, 2) := by decide +kernel
theorem dX6_init_71 : decode cX6_init 71 = .ok (.newarray .int, 2) := by decide +kernel
theorem dX6_init_73 : decode cX6_init 73 = .ok (.putfield 36, 3) := by decide +kernel
theorem dX6_init_76 : decode cX6_init 76 = .ok (.aload_n 0, 1) := by decide +kernel
theorem dX6_init_77 : decode cX6_init 77 = .ok (.bipush 120, 2) := by decide +kernel
theorem dX6_init_79 : decode cX6_init 79 = .ok (.newarray .int, 2) := by decide +kernel
theorem dX6_init_81 : decode cX6_init 81 = .ok (.putfield 39, 3) := by decide +kernel
theorem dX6_init_84 : decode cX6_init 84 = .ok (.aload_n 0, 1) := by decide +kernel
theorem dX6_init_85 : decode cX6_init 85 = .ok (.bipush 120, 2) := by decide +kernel
theorem dX6_init_87 : decode cX6_init 87 = .ok (.newarray .int, 2) := by decide +kernel
theorem dX6_init_89 : decode cX6_init 89 = .ok (.putfield 42, 3) := by decide +kernel
theorem dX6_init_92 : decode cX6_init 92 = .ok (.aload_n 0, 1) := by decide +kernel
theorem dX6_init_93 : decode cX6_init 93 = .ok (.bipush 120, 2) := by decide +kernel
theorem dX6_init_95 : decode cX6_init 95 = .ok (.newarray .boolean, 2) := by decide +kernel
theorem dX6_init_97 : decode cX6_init 97 = .ok (.putfield 45, 3) := by decide +kernel
theorem dX6_init_100 : decode cX6_init 100 = .ok (.aload_n 0, 1) := by decide +kernel
theorem dX6_init_101 : decode cX6_init 101 = .ok (.iconst 0, 1) := by decide +kernel
theorem dX6_init_102 : decode cX6_init 102 = .ok (.putfield 49, 3) := by decide +kernel
theorem dX6_init_105 : decode cX6_init 105 = .ok (.aload_n 0, 1) := by decide +kernel
theorem dX6_init_106 : decode cX6_init 106 = .ok (.aload_n 1, 1) := by decide +kernel
theorem dX6_init_107 : decode cX6_init 107 = .ok (.putfield 53, 3) := by decide +kernel
theorem dX6_init_110 : decode cX6_init 110 = .ok (.aload_n 0, 1) := by decide +kernel
theorem dX6_init_111 : decode cX6_init 111 = .ok (.aload_n 2, 1) := by decide +kernel
theorem dX6_init_112 : decode cX6_init 112 = .ok (.putfield 57, 3) := by decide +kernel
theorem dX6_init_115 : decode cX6_init 115 = .ok (.return_, 1) := by decide +kernel
theorem dX4_init_0 : decode cX4_init 0 = .ok (.aload_n 0, 1) := by decide +kernel
theorem dX4_init_1 : decode cX4_init 1 = .ok (.invokespecial 3, 3) := by decide +kernel
theorem dX4_init_4 : decode cX4_init 4 = .ok (.aload_n 0, 1) := by decide +kernel
theorem dX4_init_5 : decode cX4_init 5 = .ok (.iconst (-1), 1) := by decide +kernel
theorem dX4_init_6 : decode cX4_init 6 = .ok (.putfield 9, 3) := by decide +kernel
theorem dX4_init_9 : decode cX4_init 9 = .ok (.aload_n 0, 1) := by decide +kernel
theorem dX4_init_10 : decode cX4_init 10 = .ok (.iconst (-1), 1) := by decide +kernel
theorem dX4_init_11 : decode cX4_init 11 = .ok (.putfield 15, 3) := by decide +kernel
theorem dX4_init_14 : decode cX4_init 14 = .ok (.aload_n 0, 1) := by decide +kernel
theorem dX4_init_15 : decode cX4_init 15 = .ok (.iconst 0, 1) := by decide +kernel
theorem dX4_init_16 : decode cX4_init 16 = .ok (.putfield 18, 3) := by decide +kernel
theorem dX4_init_19 : decode cX4_init 19 = .ok (.aload_n 0, 1) := by decide +kernel
theorem dX4_init_20 : decode cX4_init 20 = .ok (.aload_n 1, 1) := by decide +kernel
theorem dX4_init_21 : decode cX4_init 21 = .ok (.putfield 21, 3) := by decide +kernel
theorem dX4_init_24 : decode cX4_init 24 = .ok (.aload_n 0, 1) := by decide +kernel
theorem dX4_init_25 : decode cX4_init 25 = .ok (.aload_n 2, 1) := by decide +kernel
theorem dX4_init_26 : decode cX4_init 26 = .ok (.putfield 25, 3) := by decide +kernel
theorem dX4_init_29 : decode cX4_init 29 = .ok (.aload_n 0, 1) := by decide +kernel
theorem dX4_init_30 : decode cX4_init 30 = .ok (.aload_n 3, 1) := by decide +kernel
theorem dX4_init_31 : decode cX4_init 31 = .ok (.putfield 29, 3) := by decide +kernel
theorem dX4_init_34 : decode cX4_init 34 = .ok (.aload_n 0, 1) := by decide +kernel
theorem dX4_init_35 : decode cX4_init 35 = .ok (.aload 4, 2) := by decide +kernel
theorem dX4_init_37 : decode cX4_init 37 = .ok (.putfield 33, 3) := by decide +kernel
theorem dX4_init_40 : decode cX4_init 40 = .ok (.return_, 1) := by decide +kernel
theorem dX0_init_0 : decode cX0_init 0 = .ok (.aload_n 0, 1) := by decide +kernel
theorem dX0_init_1 : decode cX0_init 1 = .ok (.invokespecial 3, 3) := by decide +kernel
theorem dX0_init_4 : decode cX0_init 4 = .ok (.aload_n 0, 1) := by decide +kernel
theorem dX0_init_5 : decode cX0_init 5 = .ok (.bipush 6, 2) := by decide +kernel
theorem dX0_init_7 : decode cX0_init 7 = .ok (.newarray .int, 2) := by decide +kernel
theorem dX0_init_9 : decode cX0_init 9 = .ok (.putfield 9, 3) := by decide +kernel
theorem dX0_init_12 : decode cX0_init 12 = .ok (.aload_n 0, 1) := by decide +kernel
theorem dX0_init_13 : decode cX0_init 13 = .ok (.iconst 0, 1) := by decide +kernel
theorem dX0_init_14 : decode cX0_init 14 = .ok (.putfield 15, 3) := by decide +kernel
theorem dX0_init_17 : decode cX0_init 17 = .ok (.aload_n 0, 1) := by decide +kernel
theorem dX0_init_18 : decode cX0_init 18 = .ok (.bipush 6, 2) := by decide +kernel
theorem dX0_init_20 : decode cX0_init 20 = .ok (.newarray .int, 2) := by decide +kernel
theorem dX0_init_22 : decode cX0_init 22 = .ok (.putfield 19, 3) := by decide +kernel
theorem dX0_init_25 : decode cX0_init 25 = .ok (.aload_n 0, 1) := by decide +kernel
theorem dX0_init_26 : decode cX0_init 26 = .ok (.iconst 0, 1) := by decide +kernel
theorem dX0_init_27 : decode cX0_init 27 = .ok (.putfield 22, 3) := by decide +kernel
theorem dX0_init_30 : decode cX0_init 30 = .ok (.aload_n 0, 1) := by decide +kernel
theorem dX0_init_31 : decode cX0_init 31 = .ok (.aload_n 1, 1) := by decide +kernel
theorem dX0_init_32 : decode cX0_init 32 = .ok (.putfield 25, 3) := by decide +kernel
theorem dX0_init_35 : decode cX0_init 35 = .ok (.return_, 1) := by decide +kernel
theorem dX2_init_0 : decode cX2_init 0 = .ok (.aload_n 0, 1) := by decide +kernel
theorem dX2_init_1 : decode cX2_init 1 = .ok (.invokespecial 1, 3) := by decide +kernel
theorem dX2_init_4 : decode cX2_init 4 = .ok (.aload_n 0, 1) := by decide +kernel
theorem dX2_init_5 : decode cX2_init 5 = .ok (.bipush 15, 2) := by decide +kernel
theorem dX2_init_7 : decode cX2_init 7 = .ok (.sipush 252, 3) := by decide +kernel
theorem dX2_init_10 : decode cX2_init 10 = .ok (.multianewarray 11 2, 4) := by decide +kernel
theorem dX2_init_14 : decode cX2_init 14 = .ok (.putfield 13, 3) := by decide +kernel
theorem dX2_init_17 : decode cX2_init 17 = .ok (.aload_n 0, 1) := by decide +kernel
theorem dX2_init_18 : decode cX2_init 18 = .ok (.iconst 0, 1) := by decide +kernel
theorem dX2_init_19 : decode cX2_init 19 = .ok (.putfield 16, 3) := by decide +kernel
theorem dX2_init_22 : decode cX2_init 22 = .ok (.aload_n 0, 1) := by decide +kernel
theorem dX2_init_23 : decode cX2_init 23 = .ok (.iconst 0, 1) := by decide +kernel
theorem dX2_init_24 : decode cX2_init 24 = .ok (.putfield 20, 3) := by decide +kernel
theorem dX2_init_27 : decode cX2_init 27 = .ok (.aload_n 0, 1) := by decide +kernel
theorem dX2_init_28 : decode cX2_init 28 = .ok (.iconst 2, 1) := by decide +kernel
theorem dX2_init_29 : decode cX2_init 29 = .ok (.sipush 252, 3) := by decide +kernel
theorem dX2_init_32 : decode cX2_init 32 = .ok (.multianewarray 11 2, 4) := by decide +kernel
theorem dX2_init_36 : decode cX2_init 36 = .ok (.putfield 23, 3) := by decide +kernel
theorem dX2_init_39 : decode cX2_init 39 = .ok (.aload_n 0, 1) := by decide +kernel
theorem dX2_init_40 : decode cX2_init 40 = .ok (.iconst 2, 1) := by decide +kernel
theorem dX2_init_41 : decode cX2_init 41 = .ok (.newarray .boolean, 2) := by decide +kernel
theorem dX2_init_43 : decode cX2_init 43 = .ok (.putfield 26, 3) := by decide +kernel
theorem dX2_init_46 : decode cX2_init 46 = .ok (.return_, 1) := by decide +kernel
theorem dX5_init_0 : decode cX5_init 0 = .ok (.aload_n 0, 1) := by decide +kernel
theorem dX5_init_1 : decode cX5_init 1 = .ok (.invokespecial 3, 3) := by decide +kernel
theorem dX5_init_4 : decode cX5_init 4 = .ok (.aload_n 0, 1) := by decide +kernel
theorem dX5_init_5 : decode cX5_init 5 = .ok (.sipush 130, 3) := by decide +kernel
theorem dX5_init_8 : decode cX5_init 8 = .ok (.newarray .byte, 2) := by decide +kernel
theorem dX5_init_10 : decode cX5_init 10 = .ok (.putfield 11, 3) := by decide +kernel
theorem dX5_init_13 : decode cX5_init 13 = .ok (.aload_n 0, 1) := by decide +kernel
theorem dX5_init_14 : decode cX5_init 14 = .ok (.iconst 0, 1) := by decide +kernel
theorem dX5_init_15 : decode cX5_init 15 = .ok (.putfield 15, 3) := by decide +kernel
theorem dX5_init_18 : decode cX5_init 18 = .ok (.return_, 1) := by decide +kernel
theorem dX10_init_0 : decode cX10_init 0 = .ok (.aload_n 0, 1) := by decide +kernel
theorem dX10_init_1 : decode cX10_init 1 = .ok (.invokespecial 3, 3) := by decide +kernel
theorem dX10_init_4 : decode cX10_init 4 = .ok (.aload_n 0, 1) := by decide +kernel
theorem dX10_init_5 : decode cX10_init 5 = .ok (.new 9, 3) := by decide +kernel
theorem dX10_init_8 : decode cX10_init 8 = .ok (.dup, 1) := by decide +kernel
theorem dX10_init_9 : decode cX10_init 9 = .ok (.invokespecial 11, 3) := by decide +kernel
theorem dX10_init_12 : decode cX10_init 12 = .ok (.putfield 12, 3) := by decide +kernel
theorem dX10_init_15 : decode cX10_init 15 = .ok (.aload_n 0, 1) := by decide +kernel
theorem dX10_init_16 : decode cX10_init 16 = .ok (.new 16, 3) := by decide +kernel
theorem dX10_init_19 : decode cX10_init 19 = .ok (.dup, 1) := by decide +kernel
theorem dX10_init_20 : decode cX10_init 20 = .ok (.invokespecial 18, 3) := by decide +kernel
theorem dX10_init_23 : decode cX10_init 23 = .ok (.putfield 19, 3) := by decide +kernel
theorem dX10_init_26 : decode cX10_init 26 = .ok (.aload_n 0, 1) := by decide +kernel
theorem dX10_init_27 : decode cX10_init 27 = .ok (.new 23, 3) := by decide +kernel
theorem dX10_init_30 : decode cX10_init 30 = .ok (.dup, 1) := by decide +kernel
theorem dX10_init_31 : decode cX10_init 31 = .ok (.invokespecial 25, 3) := by decide +kernel
theorem dX10_init_34 : decode cX10_init 34 = .ok (.putfield 26, 3) := by decide +kernel
theorem dX10_init_37 : decode cX10_init 37 = .ok (.aload_n 0, 1) := by decide +kernel
theorem dX10_init_38 : decode cX10_init 38 = .ok (.new 30, 3) := by decide +kernel
theorem dX10_init_41 : decode cX10_init 41 = .ok (.dup, 1) := by decide +kernel
theorem dX10_init_42 : decode cX10_init 42 = .ok (.invokespecial 32, 3) := by decide +kernel
theorem dX10_init_45 : decode cX10_init 45 = .ok (.putfield 33, 3) := by decide +kernel
theorem dX10_init_48 : decode cX10_init 48 = .ok (.aload_n 0, 1) := by decide +kernel
theorem dX10_init_49 : decode cX10_init 49 = .ok (.new 37, 3) := by decide +kernel
theorem dX10_init_52 : decode cX10_init 52 = .ok (.dup, 1) := by decide +kernel
theorem dX10_init_53 : decode cX10_init 53 = .ok (.aload_n 0, 1) := by decide +kernel
theorem dX10_init_54 : decode cX10_init 54 = .ok (.getfield 19, 3) := by decide +kernel
theorem dX10_init_57 : decode cX10_init 57 = .ok (.invokespecial 39, 3) := by decide +kernel
theorem dX10_init_60 : decode cX10_init 60 = .ok (.putfield 42, 3) := by decide +kernel
theorem dX10_init_63 : decode cX10_init 63 = .ok (.aload_n 0, 1) := by decide +kernel
theorem dX10_init_64 : decode cX10_init 64 = .ok (.new 46, 3) := by decide +kernel
theorem dX10_init_67 : decode cX10_init 67 = .ok (.dup, 1) := by decide +kernel
theorem dX10_init_68 : decode cX10_init 68 = .ok (.aload_n 0, 1) := by decide +kernel
theorem dX10_init_69 : decode cX10_init 69 = .ok (.getfield 19, 3) := by decide +kernel
theorem dX10_init_72 : decode cX10_init 72 = .ok (.aload_n 0, 1) := by decide +kernel
theorem dX10_init_73 : decode cX10_init 73 = .ok (.getfield 42, 3) := by decide +kernel
theorem dX10_init_76 : decode cX10_init 76 = .ok (.invokespecial 48, 3) := by decide +kernel
theorem dX10_init_79 : decode cX10_init 79 = .ok (.putfield 51, 3) := by decide +kernel
theorem dX10_init_82 : decode cX10_init 82 = .ok (.aload_n 0, 1) := by decide +kernel
theorem dX10_init_83 : decode cX10_init 83 = .ok (.new 46, 3) := by decide +kernel
theorem dX10_init_86 : decode cX10_init 86 = .ok (.dup, 1) := by decide +kernel
theorem dX10_init_87 : decode cX10_init 87 = .ok (.aload_n 0, 1) := by decide +kernel
theorem dX10_init_88 : decode cX10_init 88 = .ok (.getfield 19, 3) := by decide +kernel
theorem dX10_init_91 : decode cX10_init 91 = .ok (.aload_n 0, 1) := by decide +kernel
theorem dX10_init_92 : decode cX10_init 92 = .ok (.getfield 42, 3) := by decide +kernel
theorem dX10_init_95 : decode cX10_init 95 = .ok (.invokespecial 48, 3) := by decide +kernel
theorem dX10_init_98 : decode cX10_init 98 = .ok (.putfield 55, 3) := by decide +kernel
theorem dX10_init_101 : decode cX10_init 101 = .ok (.aload_n 0, 1) := by decide +kernel
theorem dX10_init_102 : decode cX10_init 102 = .ok (.new 58, 3) := by decide +kernel
theorem dX10_init_105 : decode cX10_init 105 = .ok (.dup, 1) := by decide +kernel
theorem dX10_init_106 : decode cX10_init 106 = .ok (.aload_n 0, 1) := by decide +kernel
theorem dX10_init_107 : decode cX10_init 107 = .ok (.getfield 19, 3) := by decide +kernel
theorem dX10_init_110 : decode cX10_init 110 = .ok (.aload_n 0, 1) := by decide +kernel
theorem dX10_init_111 : decode cX10_init 111 = .ok (.getfield 42, 3) := by decide +kernel
theorem dX10_init_114 : decode cX10_init 114 = .ok (.aload_n 0, 1) := by decide +kernel
theorem dX10_init_115 : decode cX10_init 115 = .ok (.getfield 51, 3) := by decide +kernel
theorem dX10_init_118 : decode cX10_init 118 = .ok (.aload_n 0, 1) := by decide +kernel
theorem dX10_init_119 : decode cX10_init 119 = .ok (.getfield 55, 3) := by decide +kernel
theorem dX10_init_122 : decode cX10_init 122 = .ok (.invokespecial 60, 3) := by decide +kernel
theorem dX10_init_125 : decode cX10_init 125 = .ok (.putfield 63, 3) := by decide +kernel
theorem dX10_init_128 : decode cX10_init 128 = .ok (.aload_n 0, 1) := by decide +kernel
theorem dX10_init_129 : decode cX10_init 129 = .ok (.new 67, 3) := by decide +kernel
theorem dX10_init_132 : decode cX10_init 132 = .ok (.dup, 1) := by decide +kernel
theorem dX10_init_133 : decode cX10_init 133 = .ok (.aload_n 0, 1) := by decide +kernel
theorem dX10_init_134 : decode cX10_init 134 = .ok (.getfield 51, 3) := by decide +kernel
theorem dX10_init_137 : decode cX10_init 137 = .ok (.invokespecial 69, 3) := by decide +kernel
theorem dX10_init_140 : decode cX10_init 140 = .ok (.putfield 72, 3) := by decide +kernel
theorem dX10_init_143 : decode cX10_init 143 = .ok (.aload_n 0, 1) := by decide +kernel
theorem dX10_init_144 : decode cX10_init 144 = .ok (.new 76, 3) := by decide +kernel
theorem dX10_init_147 : decode cX10_init 147 = .ok (.dup, 1) := by decide +kernel
theorem dX10_init_148 : decode cX10_init 148 = .ok (.invokespecial 78, 3) := by decide +kernel
theorem dX10_init_151 : decode cX10_init 151 = .ok (.putfield 79, 3) := by decide +kernel
theorem dX10_init_154 : decode cX10_init 154 = .ok (.aload_n 0, 1) := by decide +kernel
theorem dX10_init_155 : decode cX10_init 155 = .ok (.new 83, 3) := by decide +kernel
theorem dX10_init_158 : decode cX10_init 158 = .ok (.dup, 1) := by decide +kernel
theorem dX10_init_159 : decode cX10_init 159 = .ok (.invokespecial 85, 3) := by decide +kernel
theorem dX10_init_162 : decode cX10_init 162 = .ok (.putfield 86, 3) := by decide +kernel
theorem dX10_init_165 : decode cX10_init 165 = .ok (.aload_n 0, 1) := by decide +kernel
theorem dX10_init_166 : decode cX10_init 166 = .ok (.bipush 20, 2) := by decide +kernel
theorem dX10_init_168 : decode cX10_init 168 = .ok (.newarray .int, 2) := by decide +kernel
theorem dX10_init_170 : decode cX10_init 170 = .ok (.putfield 90, 3) := by decide +kernel
theorem dX10_init_173 : decode cX10_init 173 = .ok (.return_, 1) := by decide +kernel
theorem dX11_init_0 : decode cX11_init 0 = .ok (.aload_n 0, 1) := by decide +kernel
theorem dX11_init_1 : decode cX11_init 1 = .ok (.invokespecial 3, 3) := by decide +kernel
theorem dX11_init_4 : decode cX11_init 4 = .ok (.aload_n 0, 1) := by decide +kernel
theorem dX11_init_5 : decode cX11_init 5 = .ok (.sipush 4788, 3) := by decide +kernel
theorem dX11_init_8 : decode cX11_init 8 = .ok (.newarray .int, 2) := by decide +kernel
theorem dX11_init_10 : decode cX11_init 10 = .ok (.putfield 9, 3) := by decide +kernel
theorem dX11_init_13 : decode cX11_init 13 = .ok (.aload_n 0, 1) := by decide +kernel
theorem dX11_init_14 : decode cX11_init 14 = .ok (.iconst 2, 1) := by decide +kernel
theorem dX11_init_15 : decode cX11_init 15 = .ok (.newarray .boolean, 2) := by decide +kernel
theorem dX11_init_17 : decode cX11_init 17 = .ok (.putfield 13, 3) := by decide +kernel
theorem dX11_init_20 : decode cX11_init 20 = .ok (.aload_n 0, 1) := by decide +kernel
theorem dX11_init_21 : decode cX11_init 21 = .ok (.sipush 580, 3) := by decide +kernel
theorem dX11_init_24 : decode cX11_init 24 = .ok (.newarray .int, 2) := by decide +kernel
theorem dX11_init_26 : decode cX11_init 26 = .ok (.putfield 17, 3) := by decide +kernel
theorem dX11_init_29 : decode cX11_init 29 = .ok (.aload_n 0, 1) := by decide +kernel
theorem dX11_init_30 : decode cX11_init 30 = .ok (.bipush 120, 2) := by decide +kernel
theorem dX11_init_32 : decode cX11_init 32 = .ok (.newarray .int, 2) := by decide +kernel
theorem dX11_init_34 : decode cX11_init 34 = .ok (.putfield 20, 3) := by decide +kernel
theorem dX11_init_37 : decode cX11_init 37 = .ok (.aload_n 0, 1) := by decide +kernel
theorem dX11_init_38 : decode cX11_init 38 = .ok (.bipush 120, 2) := by decide +kernel
theorem dX11_init_40 : decode cX11_init 40 = .ok (.newarray .int, 2) := by decide +kernel
theorem dX11_init_42 : decode cX11_init 42 = .ok (.putfield 23, 3) := by decide +kernel
theorem dX11_init_45 : decode cX11_init 45 = .ok (.aload_n 0, 1) := by decide +kernel
theorem dX11_init_46 : decode cX11_init 46 = .ok (.sipush 1440, 3) := by decide +kernel
theorem dX11_init_49 : decode cX11_init 49 = .ok (.newarray .int, 2) := by decide +kernel
theorem dX11_init_51 : decode cX11_init 51 = .ok (.putfield 26, 3) := by decide +kernel
theorem dX11_init_54 : decode cX11_init 54 = .ok (.aload_n 0, 1) := by decide +kernel
theorem dX11_init_55 : decode cX11_init 55 = .ok (.bipush 120, 2) := by decide +kernel
theorem dX11_init_57 : decode cX11_init 57 = .ok (.newarray .int, 2) := by decide +kernel
theorem dX11_init_59 : decode cX11_init 59 = .ok (.putfield 29, 3) := by decide +kernel
theorem dX11_init_62 : decode cX11_init 62 = .ok (.aload_n 0, 1) := by decide +kernel
theorem dX11_init_63 : decode cX11_init 63 = .ok (.bipush 120, 2) := by decide +kernel
theorem dX11_init_65 : decode cX11_init 65 = .ok (.newarray .int, 2) := by decide +kernel
theorem dX11_init_67 : decode cX11_init 67 = .ok (.putfield 32, 3) := by decide +kernel
theorem dX11_init_70 : decode cX11_init 70 = .ok (.aload_n 0, 1) := by decide +kernel
theorem dX11_init_71 : decode cX11_init 71 = .ok (.bipush 120, 2) := by decide +kernel
theorem dX11_init_73 : decode cX11_init 73 = .ok (.newarray .int, 2) := by decide +kernel
theorem dX11_init_75 : decode cX11_init 75 = .ok (.putfield 35, 3) := by decide +kernel
theorem dX11_init_78 : decode cX11_init 78 = .ok (.aload_n 0, 1) := by decide +kernel
theorem dX11_init_79 : decode cX11_init 79 = .ok (.bipush 120, 2) := by decide +kernel
theorem dX11_init_81 : decode cX11_init 81 = .ok (.newarray .int, 2) := by decide +kernel
theorem dX11_init_83 : decode cX11_init 83 = .ok (.putfield 38, 3) := by decide +kernel
theorem dX11_init_86 : decode cX11_init 86 = .ok (.aload_n 0, 1) := by decide +kernel
theorem dX11_init_87 : decode cX11_init 87 = .ok (.bipush 120, 2) := by decide +kernel
theorem dX11_init_89 : decode cX11_init 89 = .ok (.newarray .int, 2) := by decide +kernel
theorem dX11_init_91 : decode cX11_init 91 = .ok (.putfield 41, 3) := by decide +kernel
theorem dX11_init_94 : decode cX11_init 94 = .ok (.aload_n 0, 1) := by decide +kernel
theorem dX11_init_95 : decode cX11_init 95 = .ok (.bipush 120, 2) := by decide +kernel
theorem dX11_init_97 : decode cX11_init 97 = .ok (.newarray .boolean, 2) := by decide +kernel
theorem dX11_init_99 : decode cX11_init 99 = .ok (.putfield 44, 3) := by decide +kernel
theorem dX11_init_102 : decode cX11_init 102 = .ok (.aload_n 0, 1) := by decide +kernel
theorem dX11_init_103 : decode cX11_init 103 = .ok (.bipush 12, 2) := by decide +kernel
theorem dX11_init_105 : decode cX11_init 105 = .ok (.newarray .int, 2) := by decide +kernel
theorem dX11_init_107 : decode cX11_init 107 = .ok (.putfield 47, 3) := by decide +kernel
theorem dX11_init_110 : decode cX11_init 110 = .ok (.aload_n 0, 1) := by decide +kernel
theorem dX11_init_111 : decode cX11_init 111 = .ok (.bipush 12, 2) := by decide +kernel
theorem dX11_init_113 : decode cX11_init 113 = .ok (.newarray .int, 2) := by decide +kernel
theorem dX11_init_115 : decode cX11_init 115 = .ok (.putfield 50, 3) := by decide +kernel
theorem dX11_init_118 : decode cX11_init 118 = .ok (.aload_n 0, 1) := by decide +kernel
theorem dX11_init_119 : decode cX11_init 119 = .ok (.bipush 12, 2) := by decide +kernel
theorem dX11_init_121 : decode cX11_init 121 = .ok (.newarray .int, 2) := by decide +kernel
theorem dX11_init_123 : decode cX11_init 123 = .ok (.putfield 53, 3) := by decide +kernel
theorem dX11_init_126 : decode cX11_init 126 = .ok (.aload_n 0, 1) := by decide +kernel
theorem dX11_init_127 : decode cX11_init 127 = .ok (.bipush 12, 2) := by decide +kernel
theorem dX11_init_129 : decode cX11_init 129 = .ok (.newarray .int, 2) := by decide +kernel
theorem dX11_init_131 : decode cX11_init 131 = .ok (.putfield 56, 3) := by decide +kernel
theorem dX11_init_134 : decode cX11_init 134 = .ok (.aload_n 0, 1) := by decide +kernel
theorem dX11_init_135 : decode cX11_init 135 = .ok (.bipush 12, 2) := by decide +kernel
theorem dX11_init_137 : decode cX11_init 137 = .ok (.newarray .int, 2) := by decide +kernel
theorem dX11_init_139 : decode cX11_init 139 = .ok (.putfield 59, 3) := by decide +kernel
theorem dX11_init_142 : decode cX11_init 142 = .ok (.aload_n 0, 1) := by decide +kernel
theorem dX11_init_143 : decode cX11_init 143 = .ok (.bipush 12, 2) := by decide +kernel
theorem dX11_init_145 : decode cX11_init 145 = .ok (.newarray .int, 2) := by decide +kernel
theorem dX11_init_147 : decode cX11_init 147 = .ok (.putfield 62, 3) := by decide +kernel
theorem dX11_init_150 : decode cX11_init 150 = .ok (.aload_n 0, 1) := by decide +kernel
theorem dX11_init_151 : decode cX11_init 151 = .ok (.bipush 20, 2) := by decide +kernel
theorem dX11_init_153 : decode cX11_init 153 = .ok (.newarray .int, 2) := by decide +kernel
theorem dX11_init_155 : decode cX11_init 155 = .ok (.putfield 65, 3) := by decide +kernel
theorem dX11_init_158 : decode cX11_init 158 = .ok (.aload_n 0, 1) := by decide +kernel
theorem dX11_init_159 : decode cX11_init 159 = .ok (.sipush 300, 3) := by decide +kernel
theorem dX11_init_162 : decode cX11_init 162 = .ok (.newarray .int, 2) := by decide +kernel
theorem dX11_init_164 : decode cX11_init 164 = .ok (.putfield 68, 3) := by decide +kernel
theorem dX11_init_167 : decode cX11_init 167 = .ok (.aload_n 0, 1) := by decide +kernel
theorem dX11_init_168 : decode cX11_init 168 = .ok (.sipush 1500, 3) := by decide +kernel
theorem dX11_init_171 : decode cX11_init 171 = .ok (.newarray .byte, 2) := by decide +kernel
theorem dX11_init_173 : decode cX11_init 173 = .ok (.putfield 71, 3) := by decide +kernel
theorem dX11_init_176 : decode cX11_init 176 = .ok (.aload_n 0, 1) := by decide +kernel
theorem dX11_init_177 : decode cX11_init 177 = .ok (.iconst (-1), 1) := by decide +kernel
theorem dX11_init_178 : decode cX11_init 178 = .ok (.putfield 75, 3) := by decide +kernel
theorem dX11_init_181 : decode cX11_init 181 = .ok (.aload_n 0, 1) := by decide +kernel
theorem dX11_init_182 : decode cX11_init 182 = .ok (.bipush 120, 2) := by decide +kernel
theorem dX11_init_184 : decode cX11_init 184 = .ok (.newarray .int, 2) := by decide +kernel
theorem dX11_init_186 : decode cX11_init 186 = .ok (.putfield 79, 3) := by decide +kernel
theorem dX11_init_189 : decode cX11_init 189 = .ok (.return_, 1) := by decide +kernel
theorem yo_10_9 : y_NO RX10 9 11 8 [2, 0, 0, 0, 0, 0, 0, 0] := ⟨RX9, TX9, tyX9, rfl, inB9, tyX9_ok, by decide +kernel, w_1_37, w_1_38, w_1_2, by decide⟩
theorem yl_9_11 : x_FL RX9 11 11 0 := ⟨RX9, TX9, 8, RX9, rfl, by decide, inB9, w_1_43, rfl⟩
theorem yt_9_0 : y_FT RX9 11 0 (.array .byte) := ⟨RX9, TX9, 8, tyX9, rfl, tyX9_ok, nmX9, rfl, tyX9_ok 0 (by decide)⟩
theorem yl_9_15 : x_FL RX9 15 11 1 := ⟨RX9, TX9, 8, RX9, rfl, by decide, inB9, w_1_44, rfl⟩
theorem yt_9_1 : y_FT RX9 11 1 .int := ⟨RX9, TX9, 8, tyX9, rfl, tyX9_ok, nmX9, rfl, tyX9_ok 1 (by decide)⟩
theorem yl_9_19 : x_FL RX9 19 11 2 := ⟨RX9, TX9, 8, RX9, rfl, by decide, inB9, w_1_46, rfl⟩
theorem yt_9_2 : y_FT RX9 11 2 .int := ⟨RX9, TX9, 8, tyX9, rfl, tyX9_ok, nmX9, rfl, tyX9_ok 2 (by decide)⟩
theorem yl_9_22 : x_FL RX9 22 11 3 := ⟨RX9, TX9, 8, RX9, rfl, by decide, inB9, w_1_48, rfl⟩
theorem yt_9_3 : y_FT RX9 11 3 .int := ⟨RX9, TX9, 8, tyX9, rfl, tyX9_ok, nmX9, rfl, tyX9_ok 3 (by decide)⟩
theorem yl_9_25 : x_FL RX9 25 11 4 := ⟨RX9, TX9, 8, RX9, rfl, by decide, inB9, w_1_50, rfl⟩
theorem yt_9_4 : y_FT RX9 11 4 .int := ⟨RX9, TX9, 8, tyX9, rfl, tyX9_ok, nmX9, rfl, tyX9_ok 4 (by decide)⟩
theorem yl_9_28 : x_FL RX9 28 11 5 := ⟨RX9, TX9, 8, RX9, rfl, by decide, inB9, w_1_53, rfl⟩
theorem yt_9_5 : y_FT RX9 11 5 .int := ⟨RX9, TX9, 8, tyX9, rfl, tyX9_ok, nmX9, rfl, tyX9_ok 5 (by decide)⟩
theorem yl_9_31 : x_FL RX9 31 11 6 := ⟨RX9, TX9, 8, RX9, rfl, by decide, inB9, w_1_54, rfl⟩
theorem yt_9_6 : y_FT RX9 11 6 .int := ⟨RX9, TX9, 8, tyX9, rfl, tyX9_ok, nmX9, rfl, tyX9_ok 6 (by decide)⟩
theorem yl_9_34 : x_FL RX9 34 11 7 := ⟨RX9, TX9, 8, RX9, rfl, by decide, inB9, w_1_55, rfl⟩
theorem yt_9_7 : y_FT RX9 11 7 .int := ⟨RX9, TX9, 8, tyX9, rfl, tyX9_ok, nmX9, rfl, tyX9_ok 7 (by decide)⟩
theorem ym_9 : x_CM yX9_init cX9_init 1 none 0 := ⟨w_1_41, w_1_2, by decide +kernel, by decide +kernel⟩
theorem yl_10_12 : x_FL RX10 12 12 0 := ⟨RX10, TX10, 12, RX10, rfl, by decide, inB10, w_2_140, rfl⟩
theorem yt_10_0 : y_FT RX10 12 0 (.object "TruckPlatoons$Text") := ⟨RX10, TX10, 12, tyX10, rfl, tyX10_ok, nmX10, rfl, tyX10_ok 0 (by decide)⟩
theorem yo_10_16 : y_NO RX10 16 3 11 [0, 2, 2, 2, 2, 0, 2, 2, 2, 2, 2] := ⟨RX1, TX1, tyX1, rfl, inB1, tyX1_ok, by decide +kernel, w_1_76, w_1_77, w_1_3, by decide⟩
theorem yl_1_9 : x_FL RX1 9 3 0 := ⟨RX1, TX1, 11, RX1, rfl, by decide, inB1, w_1_82, rfl⟩
theorem yt_1_0 : y_FT RX1 3 0 .int := ⟨RX1, TX1, 11, tyX1, rfl, tyX1_ok, nmX1, rfl, tyX1_ok 0 (by decide)⟩
theorem yl_1_15 : x_FL RX1 15 3 1 := ⟨RX1, TX1, 11, RX1, rfl, by decide, inB1, w_1_87, rfl⟩
theorem yt_1_1 : y_FT RX1 3 1 (.array .int) := ⟨RX1, TX1, 11, tyX1, rfl, tyX1_ok, nmX1, rfl, tyX1_ok 1 (by decide)⟩
theorem yl_1_19 : x_FL RX1 19 3 2 := ⟨RX1, TX1, 11, RX1, rfl, by decide, inB1, w_1_90, rfl⟩
theorem yt_1_2 : y_FT RX1 3 2 (.array .int) := ⟨RX1, TX1, 11, tyX1, rfl, tyX1_ok, nmX1, rfl, tyX1_ok 2 (by decide)⟩
theorem yl_1_22 : x_FL RX1 22 3 3 := ⟨RX1, TX1, 11, RX1, rfl, by decide, inB1, w_1_93, rfl⟩
theorem yt_1_3 : y_FT RX1 3 3 (.array .int) := ⟨RX1, TX1, 11, tyX1, rfl, tyX1_ok, nmX1, rfl, tyX1_ok 3 (by decide)⟩
theorem yl_1_25 : x_FL RX1 25 3 4 := ⟨RX1, TX1, 11, RX1, rfl, by decide, inB1, w_1_97, rfl⟩
theorem yt_1_4 : y_FT RX1 3 4 (.array .int) := ⟨RX1, TX1, 11, tyX1, rfl, tyX1_ok, nmX1, rfl, tyX1_ok 4 (by decide)⟩
theorem yl_1_28 : x_FL RX1 28 3 5 := ⟨RX1, TX1, 11, RX1, rfl, by decide, inB1, w_1_101, rfl⟩
theorem yt_1_5 : y_FT RX1 3 5 .int := ⟨RX1, TX1, 11, tyX1, rfl, tyX1_ok, nmX1, rfl, tyX1_ok 5 (by decide)⟩
theorem yl_1_31 : x_FL RX1 31 3 6 := ⟨RX1, TX1, 11, RX1, rfl, by decide, inB1, w_1_106, rfl⟩
theorem yt_1_6 : y_FT RX1 3 6 (.array .int) := ⟨RX1, TX1, 11, tyX1, rfl, tyX1_ok, nmX1, rfl, tyX1_ok 6 (by decide)⟩
theorem yl_1_34 : x_FL RX1 34 3 7 := ⟨RX1, TX1, 11, RX1, rfl, by decide, inB1, w_1_109, rfl⟩
theorem yt_1_7 : y_FT RX1 3 7 (.array .int) := ⟨RX1, TX1, 11, tyX1, rfl, tyX1_ok, nmX1, rfl, tyX1_ok 7 (by decide)⟩
theorem yl_1_37 : x_FL RX1 37 3 8 := ⟨RX1, TX1, 11, RX1, rfl, by decide, inB1, w_1_113, rfl⟩
theorem yt_1_8 : y_FT RX1 3 8 (.array .int) := ⟨RX1, TX1, 11, tyX1, rfl, tyX1_ok, nmX1, rfl, tyX1_ok 8 (by decide)⟩
theorem yl_1_40 : x_FL RX1 40 3 9 := ⟨RX1, TX1, 11, RX1, rfl, by decide, inB1, w_1_117, rfl⟩
theorem yt_1_9 : y_FT RX1 3 9 (.array .int) := ⟨RX1, TX1, 11, tyX1, rfl, tyX1_ok, nmX1, rfl, tyX1_ok 9 (by decide)⟩
theorem yl_1_43 : x_FL RX1 43 3 10 := ⟨RX1, TX1, 11, RX1, rfl, by decide, inB1, w_1_122, rfl⟩
theorem yt_1_10 : y_FT RX1 3 10 (.array .int) := ⟨RX1, TX1, 11, tyX1, rfl, tyX1_ok, nmX1, rfl, tyX1_ok 10 (by decide)⟩
theorem ym_1 : x_CM yX1_init cX1_init 1 none 0 := ⟨w_1_80, w_1_3, by decide +kernel, by decide +kernel⟩
theorem yl_10_19 : x_FL RX10 19 12 1 := ⟨RX10, TX10, 12, RX10, rfl, by decide, inB10, w_2_141, rfl⟩
theorem yt_10_1 : y_FT RX10 12 1 (.object "TruckPlatoons$Fleet") := ⟨RX10, TX10, 12, tyX10, rfl, tyX10_ok, nmX10, rfl, tyX10_ok 1 (by decide)⟩
theorem yo_10_23 : y_NO RX10 23 5 1 [2] := ⟨RX3, TX3, tyX3, rfl, inB3, tyX3_ok, by decide +kernel, w_1_152, w_1_153, w_1_4, by decide⟩
theorem yo_3_9 : y_NO RX3 9 3 11 [0, 2, 2, 2, 2, 0, 2, 2, 2, 2, 2] := ⟨RX1, TX1, tyX1, rfl, inB1, tyX1_ok, by decide +kernel, w_1_158, w_1_77, w_1_3, by decide⟩
theorem yl_3_12 : x_FL RX3 12 5 0 := ⟨RX3, TX3, 1, RX3, rfl, by decide, inB3, w_1_160, rfl⟩
theorem yt_3_0 : y_FT RX3 5 0 (.object "TruckPlatoons$Fleet") := ⟨RX3, TX3, 1, tyX3, rfl, tyX3_ok, nmX3, rfl, tyX3_ok 0 (by decide)⟩
theorem ym_3 : x_CM yX3_init cX3_init 1 none 0 := ⟨w_1_156, w_1_4, by decide +kernel, by decide +kernel⟩
theorem yl_10_26 : x_FL RX10 26 12 2 := ⟨RX10, TX10, 12, RX10, rfl, by decide, inB10, w_2_142, rfl⟩
theorem yt_10_2 : y_FT RX10 12 2 (.object "TruckPlatoons$Loader") := ⟨RX10, TX10, 12, tyX10, rfl, tyX10_ok, nmX10, rfl, tyX10_ok 2 (by decide)⟩
theorem yo_10_30 : y_NO RX10 30 10 3 [0, 2, 2] := ⟨RX8, TX8, tyX8, rfl, inB8, tyX8_ok, by decide +kernel, w_1_165, w_1_166, w_1_5, by decide⟩
theorem yl_8_9 : x_FL RX8 9 10 0 := ⟨RX8, TX8, 3, RX8, rfl, by decide, inB8, w_1_171, rfl⟩
theorem yt_8_0 : y_FT RX8 10 0 .int := ⟨RX8, TX8, 3, tyX8, rfl, tyX8_ok, nmX8, rfl, tyX8_ok 0 (by decide)⟩
theorem yl_8_15 : x_FL RX8 15 10 1 := ⟨RX8, TX8, 3, RX8, rfl, by decide, inB8, w_1_173, rfl⟩
theorem yt_8_1 : y_FT RX8 10 1 (.array .int) := ⟨RX8, TX8, 3, tyX8, rfl, tyX8_ok, nmX8, rfl, tyX8_ok 1 (by decide)⟩
theorem yl_8_19 : x_FL RX8 19 10 2 := ⟨RX8, TX8, 3, RX8, rfl, by decide, inB8, w_1_174, rfl⟩
theorem yt_8_2 : y_FT RX8 10 2 (.array .int) := ⟨RX8, TX8, 3, tyX8, rfl, tyX8_ok, nmX8, rfl, tyX8_ok 2 (by decide)⟩
theorem ym_8 : x_CM yX8_init cX8_init 1 none 0 := ⟨w_1_169, w_1_5, by decide +kernel, by decide +kernel⟩
theorem yl_10_33 : x_FL RX10 33 12 3 := ⟨RX10, TX10, 12, RX10, rfl, by decide, inB10, w_2_143, rfl⟩
theorem yt_10_3 : y_FT RX10 12 3 (.object "TruckPlatoons$Script") := ⟨RX10, TX10, 12, tyX10, rfl, tyX10_ok, nmX10, rfl, tyX10_ok 3 (by decide)⟩
theorem yo_10_37 : y_NO RX10 37 9 6 [2, 2, 2, 2, 2, 2] := ⟨RX7, TX7, tyX7, rfl, inB7, tyX7_ok, by decide +kernel, w_1_182, w_1_183, w_1_6, by decide⟩
theorem yl_7_9 : x_FL RX7 9 9 1 := ⟨RX7, TX7, 6, RX7, rfl, by decide, inB7, w_1_189, rfl⟩
theorem yt_7_1 : y_FT RX7 9 1 (.array .int) := ⟨RX7, TX7, 6, tyX7, rfl, tyX7_ok, nmX7, rfl, tyX7_ok 1 (by decide)⟩
theorem yl_7_15 : x_FL RX7 15 9 2 := ⟨RX7, TX7, 6, RX7, rfl, by decide, inB7, w_1_191, rfl⟩
theorem yt_7_2 : y_FT RX7 9 2 (.array .int) := ⟨RX7, TX7, 6, tyX7, rfl, tyX7_ok, nmX7, rfl, tyX7_ok 2 (by decide)⟩
theorem yl_7_18 : x_FL RX7 18 9 3 := ⟨RX7, TX7, 6, RX7, rfl, by decide, inB7, w_1_194, rfl⟩
theorem yt_7_3 : y_FT RX7 9 3 (.array .int) := ⟨RX7, TX7, 6, tyX7, rfl, tyX7_ok, nmX7, rfl, tyX7_ok 3 (by decide)⟩
theorem yl_7_21 : x_FL RX7 21 9 4 := ⟨RX7, TX7, 6, RX7, rfl, by decide, inB7, w_1_198, rfl⟩
theorem yt_7_4 : y_FT RX7 9 4 (.array .int) := ⟨RX7, TX7, 6, tyX7, rfl, tyX7_ok, nmX7, rfl, tyX7_ok 4 (by decide)⟩
theorem yl_7_24 : x_FL RX7 24 9 5 := ⟨RX7, TX7, 6, RX7, rfl, by decide, inB7, w_1_200, rfl⟩
theorem yt_7_5 : y_FT RX7 9 5 (.array .long) := ⟨RX7, TX7, 6, tyX7, rfl, tyX7_ok, nmX7, rfl, tyX7_ok 5 (by decide)⟩
theorem yl_7_28 : x_FL RX7 28 9 0 := ⟨RX7, TX7, 6, RX7, rfl, by decide, inB7, w_1_188, rfl⟩
theorem yt_7_0 : y_FT RX7 9 0 (.object "TruckPlatoons$Fleet") := ⟨RX7, TX7, 6, tyX7, rfl, tyX7_ok, nmX7, rfl, tyX7_ok 0 (by decide)⟩
theorem ym_7 : x_CM yX7_init cX7_init 2 none 1 := ⟨w_1_186, w_1_6, by decide +kernel, by decide +kernel⟩
theorem yl_10_42 : x_FL RX10 42 12 4 := ⟨RX10, TX10, 12, RX10, rfl, by decide, inB10, w_2_144, rfl⟩
theorem yt_10_4 : y_FT RX10 12 4 (.object "TruckPlatoons$Routes") := ⟨RX10, TX10, 12, tyX10, rfl, tyX10_ok, nmX10, rfl, tyX10_ok 4 (by decide)⟩
theorem yo_10_46 : y_NO RX10 46 8 15 [2, 2, 2, 2, 2, 2, 2, 2, 2, 2, 2, 2, 2, 2, 0] := ⟨RX6, TX6, tyX6, rfl, inB6, tyX6_ok, by decide +kernel, w_1_215, w_1_216, w_1_7, by decide⟩
theorem yl_6_9 : x_FL RX6 9 8 2 := ⟨RX6, TX6, 15, RX6, rfl, by decide, inB6, w_1_223, rfl⟩
theorem yt_6_2 : y_FT RX6 8 2 (.array .int) := ⟨RX6, TX6, 15, tyX6, rfl, tyX6_ok, nmX6, rfl, tyX6_ok 2 (by decide)⟩
theorem yl_6_15 : x_FL RX6 15 8 3 := ⟨RX6, TX6, 15, RX6, rfl, by decide, inB6, w_1_225, rfl⟩
theorem yt_6_3 : y_FT RX6 8 3 (.array .int) := ⟨RX6, TX6, 15, tyX6, rfl, tyX6_ok, nmX6, rfl, tyX6_ok 3 (by decide)⟩
theorem yl_6_18 : x_FL RX6 18 8 4 := ⟨RX6, TX6, 15, RX6, rfl, by decide, inB6, w_1_228, rfl⟩
theorem yt_6_4 : y_FT RX6 8 4 (.array .int) := ⟨RX6, TX6, 15, tyX6, rfl, tyX6_ok, nmX6, rfl, tyX6_ok 4 (by decide)⟩
theorem yl_6_21 : x_FL RX6 21 8 5 := ⟨RX6, TX6, 15, RX6, rfl, by decide, inB6, w_1_231, rfl⟩
theorem yt_6_5 : y_FT RX6 8 5 (.array .int) := ⟨RX6, TX6, 15, tyX6, rfl, tyX6_ok, nmX6, rfl, tyX6_ok 5 (by decide)⟩
theorem yl_6_24 : x_FL RX6 24 8 6 := ⟨RX6, TX6, 15, RX6, rfl, by decide, inB6, w_1_233, rfl⟩
theorem yt_6_6 : y_FT RX6 8 6 (.array .int) := ⟨RX6, TX6, 15, tyX6, rfl, tyX6_ok, nmX6, rfl, tyX6_ok 6 (by decide)⟩
theorem yl_6_27 : x_FL RX6 27 8 7 := ⟨RX6, TX6, 15, RX6, rfl, by decide, inB6, w_1_235, rfl⟩
theorem yt_6_7 : y_FT RX6 8 7 (.array .int) := ⟨RX6, TX6, 15, tyX6, rfl, tyX6_ok, nmX6, rfl, tyX6_ok 7 (by decide)⟩
theorem yl_6_30 : x_FL RX6 30 8 8 := ⟨RX6, TX6, 15, RX6, rfl, by decide, inB6, w_1_238, rfl⟩
theorem yt_6_8 : y_FT RX6 8 8 (.array .int) := ⟨RX6, TX6, 15, tyX6, rfl, tyX6_ok, nmX6, rfl, tyX6_ok 8 (by decide)⟩
theorem yl_6_33 : x_FL RX6 33 8 9 := ⟨RX6, TX6, 15, RX6, rfl, by decide, inB6, w_2_0, rfl⟩
theorem yt_6_9 : y_FT RX6 8 9 (.array .int) := ⟨RX6, TX6, 15, tyX6, rfl, tyX6_ok, nmX6, rfl, tyX6_ok 9 (by decide)⟩
theorem yl_6_36 : x_FL RX6 36 8 10 := ⟨RX6, TX6, 15, RX6, rfl, by decide, inB6, w_2_2, rfl⟩
theorem yt_6_10 : y_FT RX6 8 10 (.array .int) := ⟨RX6, TX6, 15, tyX6, rfl, tyX6_ok, nmX6, rfl, tyX6_ok 10 (by decide)⟩
theorem yl_6_39 : x_FL RX6 39 8 11 := ⟨RX6, TX6, 15, RX6, rfl, by decide, inB6, w_2_4, rfl⟩
theorem yt_6_11 : y_FT RX6 8 11 (.array .int) := ⟨RX6, TX6, 15, tyX6, rfl, tyX6_ok, nmX6, rfl, tyX6_ok 11 (by decide)⟩
theorem yl_6_42 : x_FL RX6 42 8 12 := ⟨RX6, TX6, 15, RX6, rfl, by decide, inB6, w_2_6, rfl⟩
theorem yt_6_12 : y_FT RX6 8 12 (.array .int) := ⟨RX6, TX6, 15, tyX6, rfl, tyX6_ok, nmX6, rfl, tyX6_ok 12 (by decide)⟩
theorem yl_6_45 : x_FL RX6 45 8 13 := ⟨RX6, TX6, 15, RX6, rfl, by decide, inB6, w_2_8, rfl⟩
theorem yt_6_13 : y_FT RX6 8 13 (.array .boolean) := ⟨RX6, TX6, 15, tyX6, rfl, tyX6_ok, nmX6, rfl, tyX6_ok 13 (by decide)⟩
theorem yl_6_49 : x_FL RX6 49 8 14 := ⟨RX6, TX6, 15, RX6, rfl, by decide, inB6, w_2_10, rfl⟩
theorem yt_6_14 : y_FT RX6 8 14 .int := ⟨RX6, TX6, 15, tyX6, rfl, tyX6_ok, nmX6, rfl, tyX6_ok 14 (by decide)⟩
theorem yl_6_53 : x_FL RX6 53 8 0 := ⟨RX6, TX6, 15, RX6, rfl, by decide, inB6, w_1_221, rfl⟩
theorem yt_6_0 : y_FT RX6 8 0 (.object "TruckPlatoons$Fleet") := ⟨RX6, TX6, 15, tyX6, rfl, tyX6_ok, nmX6, rfl, tyX6_ok 0 (by decide)⟩
theorem yl_6_57 : x_FL RX6 57 8 1 := ⟨RX6, TX6, 15, RX6, rfl, by decide, inB6, w_1_222, rfl⟩
theorem yt_6_1 : y_FT RX6 8 1 (.object "TruckPlatoons$Routes") := ⟨RX6, TX6, 15, tyX6, rfl, tyX6_ok, nmX6, rfl, tyX6_ok 1 (by decide)⟩
theorem ym_6 : x_CM yX6_init cX6_init 3 none 2 := ⟨w_1_219, w_1_7, by decide +kernel, by decide +kernel⟩
theorem yl_10_51 : x_FL RX10 51 12 5 := ⟨RX10, TX10, 12, RX10, rfl, by decide, inB10, w_2_145, rfl⟩
theorem yt_10_5 : y_FT RX10 12 5 (.object "TruckPlatoons$Plan") := ⟨RX10, TX10, 12, tyX10, rfl, tyX10_ok, nmX10, rfl, tyX10_ok 5 (by decide)⟩
theorem yl_10_55 : x_FL RX10 55 12 6 := ⟨RX10, TX10, 12, RX10, rfl, by decide, inB10, w_2_146, rfl⟩
theorem yt_10_6 : y_FT RX10 12 6 (.object "TruckPlatoons$Plan") := ⟨RX10, TX10, 12, tyX10, rfl, tyX10_ok, nmX10, rfl, tyX10_ok 6 (by decide)⟩
theorem yo_10_58 : y_NO RX10 58 6 7 [2, 2, 2, 2, 0, 0, 0] := ⟨RX4, TX4, tyX4, rfl, inB4, tyX4_ok, by decide +kernel, w_2_44, w_2_45, w_1_8, by decide⟩
theorem yl_4_9 : x_FL RX4 9 6 4 := ⟨RX4, TX4, 7, RX4, rfl, by decide, inB4, w_2_54, rfl⟩
theorem yt_4_4 : y_FT RX4 6 4 .int := ⟨RX4, TX4, 7, tyX4, rfl, tyX4_ok, nmX4, rfl, tyX4_ok 4 (by decide)⟩
theorem yl_4_15 : x_FL RX4 15 6 5 := ⟨RX4, TX4, 7, RX4, rfl, by decide, inB4, w_2_56, rfl⟩
theorem yt_4_5 : y_FT RX4 6 5 .int := ⟨RX4, TX4, 7, tyX4, rfl, tyX4_ok, nmX4, rfl, tyX4_ok 5 (by decide)⟩
theorem yl_4_18 : x_FL RX4 18 6 6 := ⟨RX4, TX4, 7, RX4, rfl, by decide, inB4, w_2_58, rfl⟩
theorem yt_4_6 : y_FT RX4 6 6 .int := ⟨RX4, TX4, 7, tyX4, rfl, tyX4_ok, nmX4, rfl, tyX4_ok 6 (by decide)⟩
theorem yl_4_21 : x_FL RX4 21 6 0 := ⟨RX4, TX4, 7, RX4, rfl, by decide, inB4, w_2_50, rfl⟩
theorem yt_4_0 : y_FT RX4 6 0 (.object "TruckPlatoons$Fleet") := ⟨RX4, TX4, 7, tyX4, rfl, tyX4_ok, nmX4, rfl, tyX4_ok 0 (by decide)⟩
theorem yl_4_25 : x_FL RX4 25 6 1 := ⟨RX4, TX4, 7, RX4, rfl, by decide, inB4, w_2_51, rfl⟩
theorem yt_4_1 : y_FT RX4 6 1 (.object "TruckPlatoons$Routes") := ⟨RX4, TX4, 7, tyX4, rfl, tyX4_ok, nmX4, rfl, tyX4_ok 1 (by decide)⟩
theorem yl_4_29 : x_FL RX4 29 6 2 := ⟨RX4, TX4, 7, RX4, rfl, by decide, inB4, w_2_52, rfl⟩
theorem yt_4_2 : y_FT RX4 6 2 (.object "TruckPlatoons$Plan") := ⟨RX4, TX4, 7, tyX4, rfl, tyX4_ok, nmX4, rfl, tyX4_ok 2 (by decide)⟩
theorem yl_4_33 : x_FL RX4 33 6 3 := ⟨RX4, TX4, 7, RX4, rfl, by decide, inB4, w_2_53, rfl⟩
theorem yt_4_3 : y_FT RX4 6 3 (.object "TruckPlatoons$Plan") := ⟨RX4, TX4, 7, tyX4, rfl, tyX4_ok, nmX4, rfl, tyX4_ok 3 (by decide)⟩
theorem ym_4 : x_CM yX4_init cX4_init 5 none 4 := ⟨w_2_48, w_1_8, by decide +kernel, by decide +kernel⟩
theorem yl_10_63 : x_FL RX10 63 12 7 := ⟨RX10, TX10, 12, RX10, rfl, by decide, inB10, w_2_147, rfl⟩
theorem yt_10_7 : y_FT RX10 12 7 (.object "TruckPlatoons$Merger") := ⟨RX10, TX10, 12, tyX10, rfl, tyX10_ok, nmX10, rfl, tyX10_ok 7 (by decide)⟩
theorem yo_10_67 : y_NO RX10 67 2 5 [2, 2, 0, 2, 0] := ⟨RX0, TX0, tyX0, rfl, inB0, tyX0_ok, by decide +kernel, w_2_75, w_2_76, w_1_9, by decide⟩
theorem yl_0_9 : x_FL RX0 9 2 1 := ⟨RX0, TX0, 5, RX0, rfl, by decide, inB0, w_2_82, rfl⟩
theorem yt_0_1 : y_FT RX0 2 1 (.array .int) := ⟨RX0, TX0, 5, tyX0, rfl, tyX0_ok, nmX0, rfl, tyX0_ok 1 (by decide)⟩
theorem yl_0_15 : x_FL RX0 15 2 2 := ⟨RX0, TX0, 5, RX0, rfl, by decide, inB0, w_2_83, rfl⟩
theorem yt_0_2 : y_FT RX0 2 2 .int := ⟨RX0, TX0, 5, tyX0, rfl, tyX0_ok, nmX0, rfl, tyX0_ok 2 (by decide)⟩
theorem yl_0_19 : x_FL RX0 19 2 3 := ⟨RX0, TX0, 5, RX0, rfl, by decide, inB0, w_2_84, rfl⟩
theorem yt_0_3 : y_FT RX0 2 3 (.array .int) := ⟨RX0, TX0, 5, tyX0, rfl, tyX0_ok, nmX0, rfl, tyX0_ok 3 (by decide)⟩
theorem yl_0_22 : x_FL RX0 22 2 4 := ⟨RX0, TX0, 5, RX0, rfl, by decide, inB0, w_2_86, rfl⟩
theorem yt_0_4 : y_FT RX0 2 4 .int := ⟨RX0, TX0, 5, tyX0, rfl, tyX0_ok, nmX0, rfl, tyX0_ok 4 (by decide)⟩
theorem yl_0_25 : x_FL RX0 25 2 0 := ⟨RX0, TX0, 5, RX0, rfl, by decide, inB0, w_2_81, rfl⟩
theorem yt_0_0 : y_FT RX0 2 0 (.object "TruckPlatoons$Plan") := ⟨RX0, TX0, 5, tyX0, rfl, tyX0_ok, nmX0, rfl, tyX0_ok 0 (by decide)⟩
theorem ym_0 : x_CM yX0_init cX0_init 2 none 1 := ⟨w_2_79, w_1_9, by decide +kernel, by decide +kernel⟩
theorem yl_10_72 : x_FL RX10 72 12 8 := ⟨RX10, TX10, 12, RX10, rfl, by decide, inB10, w_2_148, rfl⟩
theorem yt_10_8 : y_FT RX10 12 8 (.object "TruckPlatoons$BestOrder") := ⟨RX10, TX10, 12, tyX10, rfl, tyX10_ok, nmX10, rfl, tyX10_ok 8 (by decide)⟩
theorem yo_10_76 : y_NO RX10 76 4 5 [2, 0, 0, 2, 2] := ⟨RX2, TX2, tyX2, rfl, inB2, tyX2_ok, by decide +kernel, w_2_99, w_2_100, w_1_10, by decide⟩
theorem yl_2_13 : x_FL RX2 13 4 0 := ⟨RX2, TX2, 5, RX2, rfl, by decide, inB2, w_2_107, rfl⟩
theorem yt_2_0 : y_FT RX2 4 0 (.array (.array .int)) := ⟨RX2, TX2, 5, tyX2, rfl, tyX2_ok, nmX2, rfl, tyX2_ok 0 (by decide)⟩
theorem yl_2_16 : x_FL RX2 16 4 1 := ⟨RX2, TX2, 5, RX2, rfl, by decide, inB2, w_2_108, rfl⟩
theorem yt_2_1 : y_FT RX2 4 1 .int := ⟨RX2, TX2, 5, tyX2, rfl, tyX2_ok, nmX2, rfl, tyX2_ok 1 (by decide)⟩
theorem yl_2_20 : x_FL RX2 20 4 2 := ⟨RX2, TX2, 5, RX2, rfl, by decide, inB2, w_2_109, rfl⟩
theorem yt_2_2 : y_FT RX2 4 2 .int := ⟨RX2, TX2, 5, tyX2, rfl, tyX2_ok, nmX2, rfl, tyX2_ok 2 (by decide)⟩
theorem yl_2_23 : x_FL RX2 23 4 3 := ⟨RX2, TX2, 5, RX2, rfl, by decide, inB2, w_2_111, rfl⟩
theorem yt_2_3 : y_FT RX2 4 3 (.array (.array .int)) := ⟨RX2, TX2, 5, tyX2, rfl, tyX2_ok, nmX2, rfl, tyX2_ok 3 (by decide)⟩
theorem yl_2_26 : x_FL RX2 26 4 4 := ⟨RX2, TX2, 5, RX2, rfl, by decide, inB2, w_2_112, rfl⟩
theorem yt_2_4 : y_FT RX2 4 4 (.array .boolean) := ⟨RX2, TX2, 5, tyX2, rfl, tyX2_ok, nmX2, rfl, tyX2_ok 4 (by decide)⟩
theorem ym_2 : x_CM yX2_init cX2_init 1 none 0 := ⟨w_2_103, w_1_10, by decide +kernel, by decide +kernel⟩
theorem yl_10_79 : x_FL RX10 79 12 9 := ⟨RX10, TX10, 12, RX10, rfl, by decide, inB10, w_2_149, rfl⟩
theorem yt_10_9 : y_FT RX10 12 9 (.object "TruckPlatoons$History") := ⟨RX10, TX10, 12, tyX10, rfl, tyX10_ok, nmX10, rfl, tyX10_ok 9 (by decide)⟩
theorem yo_10_83 : y_NO RX10 83 7 2 [2, 0] := ⟨RX5, TX5, tyX5, rfl, inB5, tyX5_ok, by decide +kernel, w_2_125, w_2_126, w_1_11, by decide⟩
theorem yl_5_11 : x_FL RX5 11 7 0 := ⟨RX5, TX5, 2, RX5, rfl, by decide, inB5, w_2_131, rfl⟩
theorem yt_5_0 : y_FT RX5 7 0 (.array .byte) := ⟨RX5, TX5, 2, tyX5, rfl, tyX5_ok, nmX5, rfl, tyX5_ok 0 (by decide)⟩
theorem yl_5_15 : x_FL RX5 15 7 1 := ⟨RX5, TX5, 2, RX5, rfl, by decide, inB5, w_2_133, rfl⟩
theorem yt_5_1 : y_FT RX5 7 1 .int := ⟨RX5, TX5, 2, tyX5, rfl, tyX5_ok, nmX5, rfl, tyX5_ok 1 (by decide)⟩
theorem ym_5 : x_CM yX5_init cX5_init 1 none 0 := ⟨w_2_129, w_1_11, by decide +kernel, by decide +kernel⟩
theorem yl_10_86 : x_FL RX10 86 12 10 := ⟨RX10, TX10, 12, RX10, rfl, by decide, inB10, w_2_150, rfl⟩
theorem yt_10_10 : y_FT RX10 12 10 (.object "TruckPlatoons$Output") := ⟨RX10, TX10, 12, tyX10, rfl, tyX10_ok, nmX10, rfl, tyX10_ok 10 (by decide)⟩
theorem yl_10_90 : x_FL RX10 90 12 11 := ⟨RX10, TX10, 12, RX10, rfl, by decide, inB10, w_2_151, rfl⟩
theorem yt_10_11 : y_FT RX10 12 11 (.array .int) := ⟨RX10, TX10, 12, tyX10, rfl, tyX10_ok, nmX10, rfl, tyX10_ok 11 (by decide)⟩
theorem yl_11_9 : x_FL RX11 9 13 0 := ⟨RX11, TX11, 41, RX11, rfl, by decide, inB11, w_6_190, rfl⟩
theorem yt_11_0 : y_FT RX11 13 0 (.array .int) := ⟨RX11, TX11, 41, tyX11, rfl, tyX11_ok, nmX11, rfl, tyX11_ok 0 (by decide)⟩
theorem yl_11_13 : x_FL RX11 13 13 1 := ⟨RX11, TX11, 41, RX11, rfl, by decide, inB11, w_6_191, rfl⟩
theorem yt_11_1 : y_FT RX11 13 1 (.array .boolean) := ⟨RX11, TX11, 41, tyX11, rfl, tyX11_ok, nmX11, rfl, tyX11_ok 1 (by decide)⟩
theorem yl_11_17 : x_FL RX11 17 13 4 := ⟨RX11, TX11, 41, RX11, rfl, by decide, inB11, w_6_194, rfl⟩
theorem yt_11_4 : y_FT RX11 13 4 (.array .int) := ⟨RX11, TX11, 41, tyX11, rfl, tyX11_ok, nmX11, rfl, tyX11_ok 4 (by decide)⟩
theorem yl_11_20 : x_FL RX11 20 13 6 := ⟨RX11, TX11, 41, RX11, rfl, by decide, inB11, w_6_196, rfl⟩
theorem yt_11_6 : y_FT RX11 13 6 (.array .int) := ⟨RX11, TX11, 41, tyX11, rfl, tyX11_ok, nmX11, rfl, tyX11_ok 6 (by decide)⟩
theorem yl_11_23 : x_FL RX11 23 13 7 := ⟨RX11, TX11, 41, RX11, rfl, by decide, inB11, w_6_197, rfl⟩
theorem yt_11_7 : y_FT RX11 13 7 (.array .int) := ⟨RX11, TX11, 41, tyX11, rfl, tyX11_ok, nmX11, rfl, tyX11_ok 7 (by decide)⟩
theorem yl_11_26 : x_FL RX11 26 13 8 := ⟨RX11, TX11, 41, RX11, rfl, by decide, inB11, w_6_198, rfl⟩
theorem yt_11_8 : y_FT RX11 13 8 (.array .int) := ⟨RX11, TX11, 41, tyX11, rfl, tyX11_ok, nmX11, rfl, tyX11_ok 8 (by decide)⟩
theorem yl_11_29 : x_FL RX11 29 13 9 := ⟨RX11, TX11, 41, RX11, rfl, by decide, inB11, w_6_199, rfl⟩
theorem yt_11_9 : y_FT RX11 13 9 (.array .int) := ⟨RX11, TX11, 41, tyX11, rfl, tyX11_ok, nmX11, rfl, tyX11_ok 9 (by decide)⟩
theorem yl_11_32 : x_FL RX11 32 13 10 := ⟨RX11, TX11, 41, RX11, rfl, by decide, inB11, w_6_200, rfl⟩
theorem yt_11_10 : y_FT RX11 13 10 (.array .int) := ⟨RX11, TX11, 41, tyX11, rfl, tyX11_ok, nmX11, rfl, tyX11_ok 10 (by decide)⟩
theorem yl_11_35 : x_FL RX11 35 13 11 := ⟨RX11, TX11, 41, RX11, rfl, by decide, inB11, w_6_201, rfl⟩
theorem yt_11_11 : y_FT RX11 13 11 (.array .int) := ⟨RX11, TX11, 41, tyX11, rfl, tyX11_ok, nmX11, rfl, tyX11_ok 11 (by decide)⟩
theorem yl_11_38 : x_FL RX11 38 13 12 := ⟨RX11, TX11, 41, RX11, rfl, by decide, inB11, w_6_202, rfl⟩
theorem yt_11_12 : y_FT RX11 13 12 (.array .int) := ⟨RX11, TX11, 41, tyX11, rfl, tyX11_ok, nmX11, rfl, tyX11_ok 12 (by decide)⟩
theorem yl_11_41 : x_FL RX11 41 13 13 := ⟨RX11, TX11, 41, RX11, rfl, by decide, inB11, w_6_203, rfl⟩
theorem yt_11_13 : y_FT RX11 13 13 (.array .int) := ⟨RX11, TX11, 41, tyX11, rfl, tyX11_ok, nmX11, rfl, tyX11_ok 13 (by decide)⟩
theorem yl_11_44 : x_FL RX11 44 13 14 := ⟨RX11, TX11, 41, RX11, rfl, by decide, inB11, w_6_204, rfl⟩
theorem yt_11_14 : y_FT RX11 13 14 (.array .boolean) := ⟨RX11, TX11, 41, tyX11, rfl, tyX11_ok, nmX11, rfl, tyX11_ok 14 (by decide)⟩
theorem yl_11_47 : x_FL RX11 47 13 15 := ⟨RX11, TX11, 41, RX11, rfl, by decide, inB11, w_6_205, rfl⟩
theorem yt_11_15 : y_FT RX11 13 15 (.array .int) := ⟨RX11, TX11, 41, tyX11, rfl, tyX11_ok, nmX11, rfl, tyX11_ok 15 (by decide)⟩
theorem yl_11_50 : x_FL RX11 50 13 16 := ⟨RX11, TX11, 41, RX11, rfl, by decide, inB11, w_6_206, rfl⟩
theorem yt_11_16 : y_FT RX11 13 16 (.array .int) := ⟨RX11, TX11, 41, tyX11, rfl, tyX11_ok, nmX11, rfl, tyX11_ok 16 (by decide)⟩
theorem yl_11_53 : x_FL RX11 53 13 22 := ⟨RX11, TX11, 41, RX11, rfl, by decide, inB11, w_6_212, rfl⟩
theorem yt_11_22 : y_FT RX11 13 22 (.array .int) := ⟨RX11, TX11, 41, tyX11, rfl, tyX11_ok, nmX11, rfl, tyX11_ok 22 (by decide)⟩
theorem yl_11_56 : x_FL RX11 56 13 23 := ⟨RX11, TX11, 41, RX11, rfl, by decide, inB11, w_6_213, rfl⟩
theorem yt_11_23 : y_FT RX11 13 23 (.array .int) := ⟨RX11, TX11, 41, tyX11, rfl, tyX11_ok, nmX11, rfl, tyX11_ok 23 (by decide)⟩
theorem yl_11_59 : x_FL RX11 59 13 24 := ⟨RX11, TX11, 41, RX11, rfl, by decide, inB11, w_6_214, rfl⟩
theorem yt_11_24 : y_FT RX11 13 24 (.array .int) := ⟨RX11, TX11, 41, tyX11, rfl, tyX11_ok, nmX11, rfl, tyX11_ok 24 (by decide)⟩
theorem yl_11_62 : x_FL RX11 62 13 25 := ⟨RX11, TX11, 41, RX11, rfl, by decide, inB11, w_6_215, rfl⟩
theorem yt_11_25 : y_FT RX11 13 25 (.array .int) := ⟨RX11, TX11, 41, tyX11, rfl, tyX11_ok, nmX11, rfl, tyX11_ok 25 (by decide)⟩
theorem yl_11_65 : x_FL RX11 65 13 27 := ⟨RX11, TX11, 41, RX11, rfl, by decide, inB11, w_6_217, rfl⟩
theorem yt_11_27 : y_FT RX11 13 27 (.array .int) := ⟨RX11, TX11, 41, tyX11, rfl, tyX11_ok, nmX11, rfl, tyX11_ok 27 (by decide)⟩
theorem yl_11_68 : x_FL RX11 68 13 28 := ⟨RX11, TX11, 41, RX11, rfl, by decide, inB11, w_6_218, rfl⟩
theorem yt_11_28 : y_FT RX11 13 28 (.array .int) := ⟨RX11, TX11, 41, tyX11, rfl, tyX11_ok, nmX11, rfl, tyX11_ok 28 (by decide)⟩
theorem yl_11_71 : x_FL RX11 71 13 30 := ⟨RX11, TX11, 41, RX11, rfl, by decide, inB11, w_6_220, rfl⟩
theorem yt_11_30 : y_FT RX11 13 30 (.array .byte) := ⟨RX11, TX11, 41, tyX11, rfl, tyX11_ok, nmX11, rfl, tyX11_ok 30 (by decide)⟩
theorem yl_11_75 : x_FL RX11 75 13 34 := ⟨RX11, TX11, 41, RX11, rfl, by decide, inB11, w_6_224, rfl⟩
theorem yt_11_34 : y_FT RX11 13 34 .int := ⟨RX11, TX11, 41, tyX11, rfl, tyX11_ok, nmX11, rfl, tyX11_ok 34 (by decide)⟩
theorem yl_11_79 : x_FL RX11 79 13 39 := ⟨RX11, TX11, 41, RX11, rfl, by decide, inB11, w_6_229, rfl⟩
theorem yt_11_39 : y_FT RX11 13 39 (.array .int) := ⟨RX11, TX11, 41, tyX11, rfl, tyX11_ok, nmX11, rfl, tyX11_ok 39 (by decide)⟩
set_option maxRecDepth 100000 in
set_option maxHeartbeats 4000000 in
theorem yk9_0 : y_Met yX9_init cX9_init 1 1 1 1500 (((fY.take 2).set 0 (0, 12, [2, 2, 2, 2, 2, 2, 2, 2, 2, 2, 2, 2])).set 1 (0, 11, [2, 0, 0, 0, 0, 0, 0, 0])) [5] ((fY.take 3).set 0 (0, 12, [2, 2, 2, 2, 2, 2, 2, 2, 2, 2, 2, 2])) := by
  refine y_met (by decide +kernel) rfl (by decide) (by decide) (fun V Y => ?_)
  have Y : y_IsC V cX9_init 1 RX9 2 1 1 1500 ((fY.take 3).set 0 (0, 12, [2, 2, 2, 2, 2, 2, 2, 2, 2, 2, 2, 2])) := Y
  have X := y_isC Y
  show V _ 0 0 0 [(0, 5)] []
  refine y_aload_n X dX9_init_0 rfl 0 rfl ?_
  refine y_objInit X dX9_init_1 w_1_42 w_1_35 w_1_36 (by decide) ?_
  refine y_aload_n X dX9_init_4 rfl 0 rfl ?_
  refine y_newS X 3 1500 (v := 1500) (h := 6) (dsn := (((fY.take 3).set 0 (0, 12, [2, 2, 2, 2, 2, 2, 2, 2, 2, 2, 2, 2])).set 1 (0, 11, [2, 0, 0, 0, 0, 0, 0, 0]))) dX9_init_5 (by decide) dX9_init_8 rfl (by decide) (by decide) (by decide) (by decide) (by decide) (by decide +kernel) (by decide) (by decide +kernel) (by decide +kernel) ?_
  refine y_put Y (k := 1) (fs := [2, 0, 0, 0, 0, 0, 0, 0]) (ty := (.array .byte)) (dsn := (((fY.take 3).set 0 (0, 12, [2, 2, 2, 2, 2, 2, 2, 2, 2, 2, 2, 2])).set 1 (0, 11, [6, 0, 0, 0, 0, 0, 0, 0]))) dX9_init_10 yl_9_11 yt_9_0 (by decide) (by decide +kernel) (by decide) (by decide +kernel) ?_
  refine y_aload_n X dX9_init_13 rfl 0 rfl ?_
  refine y_iconst X 0 dX9_init_14 (fun _ => rfl) ?_
  refine y_put Y (k := 1) (fs := [6, 0, 0, 0, 0, 0, 0, 0]) (ty := .int) (dsn := (((fY.take 3).set 0 (0, 12, [2, 2, 2, 2, 2, 2, 2, 2, 2, 2, 2, 2])).set 1 (0, 11, [6, 0, 0, 0, 0, 0, 0, 0]))) dX9_init_15 yl_9_15 yt_9_1 (by decide) (by decide +kernel) (by decide) (by decide +kernel) ?_
  refine y_aload_n X dX9_init_18 rfl 0 rfl ?_
  refine y_iconst X 0 dX9_init_19 (fun _ => rfl) ?_
  refine y_put Y (k := 1) (fs := [6, 0, 0, 0, 0, 0, 0, 0]) (ty := .int) (dsn := (((fY.take 3).set 0 (0, 12, [2, 2, 2, 2, 2, 2, 2, 2, 2, 2, 2, 2])).set 1 (0, 11, [6, 0, 0, 0, 0, 0, 0, 0]))) dX9_init_20 yl_9_19 yt_9_2 (by decide) (by decide +kernel) (by decide) (by decide +kernel) ?_
  refine y_aload_n X dX9_init_23 rfl 0 rfl ?_
  refine y_iconst X 1 dX9_init_24 (fun _ => rfl) ?_
  refine y_put Y (k := 1) (fs := [6, 0, 0, 0, 0, 0, 0, 0]) (ty := .int) (dsn := ((fY.take 3).set 0 (0, 12, [2, 2, 2, 2, 2, 2, 2, 2, 2, 2, 2, 2]))) dX9_init_25 yl_9_22 yt_9_3 (by decide) (by decide +kernel) (by decide) (by decide +kernel) ?_
  refine y_aload_n X dX9_init_28 rfl 0 rfl ?_
  refine y_iconst X 0 dX9_init_29 (fun _ => rfl) ?_
  refine y_put Y (k := 1) (fs := [6, 0, 0, 1, 0, 0, 0, 0]) (ty := .int) (dsn := ((fY.take 3).set 0 (0, 12, [2, 2, 2, 2, 2, 2, 2, 2, 2, 2, 2, 2]))) dX9_init_30 yl_9_25 yt_9_4 (by decide) (by decide +kernel) (by decide) (by decide +kernel) ?_
  refine y_aload_n X dX9_init_33 rfl 0 rfl ?_
  refine y_iconst X 0 dX9_init_34 (fun _ => rfl) ?_
  refine y_put Y (k := 1) (fs := [6, 0, 0, 1, 0, 0, 0, 0]) (ty := .int) (dsn := ((fY.take 3).set 0 (0, 12, [2, 2, 2, 2, 2, 2, 2, 2, 2, 2, 2, 2]))) dX9_init_35 yl_9_28 yt_9_5 (by decide) (by decide +kernel) (by decide) (by decide +kernel) ?_
  refine y_aload_n X dX9_init_38 rfl 0 rfl ?_
  refine y_iconst X 0 dX9_init_39 (fun _ => rfl) ?_
  refine y_put Y (k := 1) (fs := [6, 0, 0, 1, 0, 0, 0, 0]) (ty := .int) (dsn := ((fY.take 3).set 0 (0, 12, [2, 2, 2, 2, 2, 2, 2, 2, 2, 2, 2, 2]))) dX9_init_40 yl_9_31 yt_9_6 (by decide) (by decide +kernel) (by decide) (by decide +kernel) ?_
  refine y_aload_n X dX9_init_43 rfl 0 rfl ?_
  refine y_iconst X 0 dX9_init_44 (fun _ => rfl) ?_
  refine y_put Y (k := 1) (fs := [6, 0, 0, 1, 0, 0, 0, 0]) (ty := .int) (dsn := ((fY.take 3).set 0 (0, 12, [2, 2, 2, 2, 2, 2, 2, 2, 2, 2, 2, 2]))) dX9_init_45 yl_9_34 yt_9_7 (by decide) (by decide +kernel) (by decide) (by decide +kernel) ?_
  exact y_ret Y dX9_init_48 ⟨rfl, rfl, rfl⟩
set_option maxRecDepth 100000 in
set_option maxHeartbeats 4000000 in
theorem yk1_0 : y_Met yX1_init cX1_init 1 1 9 288 (((fY.take 4).set 0 (0, 12, [5, 2, 2, 2, 2, 2, 2, 2, 2, 2, 2, 2])).set 3 (0, 3, [0, 2, 2, 2, 2, 0, 2, 2, 2, 2, 2])) [7] ((fY.take 13).set 0 (0, 12, [5, 2, 2, 2, 2, 2, 2, 2, 2, 2, 2, 2])) := by
  refine y_met (by decide +kernel) rfl (by decide) (by decide) (fun V Y => ?_)
  have Y : y_IsC V cX1_init 1 RX1 4 1 9 288 ((fY.take 13).set 0 (0, 12, [5, 2, 2, 2, 2, 2, 2, 2, 2, 2, 2, 2])) := Y
  have X := y_isC Y
  show V _ 0 0 0 [(0, 7)] []
  refine y_aload_n X dX1_init_0 rfl 0 rfl ?_
  refine y_objInit X dX1_init_1 w_1_81 w_1_35 w_1_36 (by decide) ?_
  refine y_aload_n X dX1_init_4 rfl 0 rfl ?_
  refine y_iconst X 0 dX1_init_5 (fun _ => rfl) ?_
  refine y_put Y (k := 3) (fs := [0, 2, 2, 2, 2, 0, 2, 2, 2, 2, 2]) (ty := .int) (dsn := (((fY.take 4).set 0 (0, 12, [5, 2, 2, 2, 2, 2, 2, 2, 2, 2, 2, 2])).set 3 (0, 3, [0, 2, 2, 2, 2, 0, 2, 2, 2, 2, 2]))) dX1_init_6 yl_1_9 yt_1_0 (by decide) (by decide +kernel) (by decide) (by decide +kernel) ?_
  refine y_aload_n X dX1_init_9 rfl 0 rfl ?_
  refine y_newB X 1 30 (v := 30) (h := 8) (dsn := (((fY.take 5).set 0 (0, 12, [5, 2, 2, 2, 2, 2, 2, 2, 2, 2, 2, 2])).set 3 (0, 3, [0, 2, 2, 2, 2, 0, 2, 2, 2, 2, 2]))) dX1_init_10 (by decide) dX1_init_12 rfl (by decide) (by decide) (by decide) (by decide) (by decide) (by decide +kernel) (by decide) (by decide +kernel) (by decide +kernel) ?_
  refine y_put Y (k := 3) (fs := [0, 2, 2, 2, 2, 0, 2, 2, 2, 2, 2]) (ty := (.array .int)) (dsn := (((fY.take 5).set 0 (0, 12, [5, 2, 2, 2, 2, 2, 2, 2, 2, 2, 2, 2])).set 3 (0, 3, [0, 8, 2, 2, 2, 0, 2, 2, 2, 2, 2]))) dX1_init_14 yl_1_15 yt_1_1 (by decide) (by decide +kernel) (by decide) (by decide +kernel) ?_
  refine y_aload_n X dX1_init_17 rfl 0 rfl ?_
  refine y_newB X 1 30 (v := 30) (h := 9) (dsn := (((fY.take 6).set 0 (0, 12, [5, 2, 2, 2, 2, 2, 2, 2, 2, 2, 2, 2])).set 3 (0, 3, [0, 8, 2, 2, 2, 0, 2, 2, 2, 2, 2]))) dX1_init_18 (by decide) dX1_init_20 rfl (by decide) (by decide) (by decide) (by decide) (by decide) (by decide +kernel) (by decide) (by decide +kernel) (by decide +kernel) ?_
  refine y_put Y (k := 3) (fs := [0, 8, 2, 2, 2, 0, 2, 2, 2, 2, 2]) (ty := (.array .int)) (dsn := (((fY.take 6).set 0 (0, 12, [5, 2, 2, 2, 2, 2, 2, 2, 2, 2, 2, 2])).set 3 (0, 3, [0, 8, 9, 2, 2, 0, 2, 2, 2, 2, 2]))) dX1_init_22 yl_1_19 yt_1_2 (by decide) (by decide +kernel) (by decide) (by decide +kernel) ?_
  refine y_aload_n X dX1_init_25 rfl 0 rfl ?_
  refine y_newB X 1 30 (v := 30) (h := 10) (dsn := (((fY.take 7).set 0 (0, 12, [5, 2, 2, 2, 2, 2, 2, 2, 2, 2, 2, 2])).set 3 (0, 3, [0, 8, 9, 2, 2, 0, 2, 2, 2, 2, 2]))) dX1_init_26 (by decide) dX1_init_28 rfl (by decide) (by decide) (by decide) (by decide) (by decide) (by decide +kernel) (by decide) (by decide +kernel) (by decide +kernel) ?_
  refine y_put Y (k := 3) (fs := [0, 8, 9, 2, 2, 0, 2, 2, 2, 2, 2]) (ty := (.array .int)) (dsn := (((fY.take 7).set 0 (0, 12, [5, 2, 2, 2, 2, 2, 2, 2, 2, 2, 2, 2])).set 3 (0, 3, [0, 8, 9, 10, 2, 0, 2, 2, 2, 2, 2]))) dX1_init_30 yl_1_22 yt_1_3 (by decide) (by decide +kernel) (by decide) (by decide +kernel) ?_
  refine y_aload_n X dX1_init_33 rfl 0 rfl ?_
  refine y_newB X 1 30 (v := 30) (h := 11) (dsn := (((fY.take 8).set 0 (0, 12, [5, 2, 2, 2, 2, 2, 2, 2, 2, 2, 2, 2])).set 3 (0, 3, [0, 8, 9, 10, 2, 0, 2, 2, 2, 2, 2]))) dX1_init_34 (by decide) dX1_init_36 rfl (by decide) (by decide) (by decide) (by decide) (by decide) (by decide +kernel) (by decide) (by decide +kernel) (by decide +kernel) ?_
  refine y_put Y (k := 3) (fs := [0, 8, 9, 10, 2, 0, 2, 2, 2, 2, 2]) (ty := (.array .int)) (dsn := (((fY.take 8).set 0 (0, 12, [5, 2, 2, 2, 2, 2, 2, 2, 2, 2, 2, 2])).set 3 (0, 3, [0, 8, 9, 10, 11, 0, 2, 2, 2, 2, 2]))) dX1_init_38 yl_1_25 yt_1_4 (by decide) (by decide +kernel) (by decide) (by decide +kernel) ?_
  refine y_aload_n X dX1_init_41 rfl 0 rfl ?_
  refine y_iconst X 0 dX1_init_42 (fun _ => rfl) ?_
  refine y_put Y (k := 3) (fs := [0, 8, 9, 10, 11, 0, 2, 2, 2, 2, 2]) (ty := .int) (dsn := (((fY.take 8).set 0 (0, 12, [5, 2, 2, 2, 2, 2, 2, 2, 2, 2, 2, 2])).set 3 (0, 3, [0, 8, 9, 10, 11, 0, 2, 2, 2, 2, 2]))) dX1_init_43 yl_1_28 yt_1_5 (by decide) (by decide +kernel) (by decide) (by decide +kernel) ?_
  refine y_aload_n X dX1_init_46 rfl 0 rfl ?_
  refine y_newB X 1 12 (v := 12) (h := 12) (dsn := (((fY.take 9).set 0 (0, 12, [5, 2, 2, 2, 2, 2, 2, 2, 2, 2, 2, 2])).set 3 (0, 3, [0, 8, 9, 10, 11, 0, 2, 2, 2, 2, 2]))) dX1_init_47 (by decide) dX1_init_49 rfl (by decide) (by decide) (by decide) (by decide) (by decide) (by decide +kernel) (by decide) (by decide +kernel) (by decide +kernel) ?_
  refine y_put Y (k := 3) (fs := [0, 8, 9, 10, 11, 0, 2, 2, 2, 2, 2]) (ty := (.array .int)) (dsn := (((fY.take 9).set 0 (0, 12, [5, 2, 2, 2, 2, 2, 2, 2, 2, 2, 2, 2])).set 3 (0, 3, [0, 8, 9, 10, 11, 0, 12, 2, 2, 2, 2]))) dX1_init_51 yl_1_31 yt_1_6 (by decide) (by decide +kernel) (by decide) (by decide +kernel) ?_
  refine y_aload_n X dX1_init_54 rfl 0 rfl ?_
  refine y_newB X 1 12 (v := 12) (h := 13) (dsn := (((fY.take 10).set 0 (0, 12, [5, 2, 2, 2, 2, 2, 2, 2, 2, 2, 2, 2])).set 3 (0, 3, [0, 8, 9, 10, 11, 0, 12, 2, 2, 2, 2]))) dX1_init_55 (by decide) dX1_init_57 rfl (by decide) (by decide) (by decide) (by decide) (by decide) (by decide +kernel) (by decide) (by decide +kernel) (by decide +kernel) ?_
  refine y_put Y (k := 3) (fs := [0, 8, 9, 10, 11, 0, 12, 2, 2, 2, 2]) (ty := (.array .int)) (dsn := (((fY.take 10).set 0 (0, 12, [5, 2, 2, 2, 2, 2, 2, 2, 2, 2, 2, 2])).set 3 (0, 3, [0, 8, 9, 10, 11, 0, 12, 13, 2, 2, 2]))) dX1_init_59 yl_1_34 yt_1_7 (by decide) (by decide +kernel) (by decide) (by decide +kernel) ?_
  refine y_aload_n X dX1_init_62 rfl 0 rfl ?_
  refine y_newB X 1 12 (v := 12) (h := 14) (dsn := (((fY.take 11).set 0 (0, 12, [5, 2, 2, 2, 2, 2, 2, 2, 2, 2, 2, 2])).set 3 (0, 3, [0, 8, 9, 10, 11, 0, 12, 13, 2, 2, 2]))) dX1_init_63 (by decide) dX1_init_65 rfl (by decide) (by decide) (by decide) (by decide) (by decide) (by decide +kernel) (by decide) (by decide +kernel) (by decide +kernel) ?_
  refine y_put Y (k := 3) (fs := [0, 8, 9, 10, 11, 0, 12, 13, 2, 2, 2]) (ty := (.array .int)) (dsn := (((fY.take 11).set 0 (0, 12, [5, 2, 2, 2, 2, 2, 2, 2, 2, 2, 2, 2])).set 3 (0, 3, [0, 8, 9, 10, 11, 0, 12, 13, 14, 2, 2]))) dX1_init_67 yl_1_37 yt_1_8 (by decide) (by decide +kernel) (by decide) (by decide +kernel) ?_
  refine y_aload_n X dX1_init_70 rfl 0 rfl ?_
  refine y_newB X 1 12 (v := 12) (h := 15) (dsn := (((fY.take 12).set 0 (0, 12, [5, 2, 2, 2, 2, 2, 2, 2, 2, 2, 2, 2])).set 3 (0, 3, [0, 8, 9, 10, 11, 0, 12, 13, 14, 2, 2]))) dX1_init_71 (by decide) dX1_init_73 rfl (by decide) (by decide) (by decide) (by decide) (by decide) (by decide +kernel) (by decide) (by decide +kernel) (by decide +kernel) ?_
  refine y_put Y (k := 3) (fs := [0, 8, 9, 10, 11, 0, 12, 13, 14, 2, 2]) (ty := (.array .int)) (dsn := (((fY.take 12).set 0 (0, 12, [5, 2, 2, 2, 2, 2, 2, 2, 2, 2, 2, 2])).set 3 (0, 3, [0, 8, 9, 10, 11, 0, 12, 13, 14, 15, 2]))) dX1_init_75 yl_1_40 yt_1_9 (by decide) (by decide +kernel) (by decide) (by decide +kernel) ?_
  refine y_aload_n X dX1_init_78 rfl 0 rfl ?_
  refine y_newB X 1 120 (v := 120) (h := 16) (dsn := (((fY.take 13).set 0 (0, 12, [5, 2, 2, 2, 2, 2, 2, 2, 2, 2, 2, 2])).set 3 (0, 3, [0, 8, 9, 10, 11, 0, 12, 13, 14, 15, 2]))) dX1_init_79 (by decide) dX1_init_81 rfl (by decide) (by decide) (by decide) (by decide) (by decide) (by decide +kernel) (by decide) (by decide +kernel) (by decide +kernel) ?_
  refine y_put Y (k := 3) (fs := [0, 8, 9, 10, 11, 0, 12, 13, 14, 15, 2]) (ty := (.array .int)) (dsn := ((fY.take 13).set 0 (0, 12, [5, 2, 2, 2, 2, 2, 2, 2, 2, 2, 2, 2]))) dX1_init_83 yl_1_43 yt_1_10 (by decide) (by decide +kernel) (by decide) (by decide +kernel) ?_
  exact y_ret Y dX1_init_86 ⟨rfl, rfl, rfl⟩
set_option maxRecDepth 100000 in
set_option maxHeartbeats 4000000 in
theorem yk1_1 : y_Met yX1_init cX1_init 1 1 9 288 ((((fY.take 15).set 0 (0, 12, [5, 7, 2, 2, 2, 2, 2, 2, 2, 2, 2, 2])).set 13 (0, 5, [2])).set 14 (0, 3, [0, 2, 2, 2, 2, 0, 2, 2, 2, 2, 2])) [18] (((fY.take 24).set 0 (0, 12, [5, 7, 2, 2, 2, 2, 2, 2, 2, 2, 2, 2])).set 13 (0, 5, [2])) := by
  refine y_met (by decide +kernel) rfl (by decide) (by decide) (fun V Y => ?_)
  have Y : y_IsC V cX1_init 1 RX1 15 1 9 288 (((fY.take 24).set 0 (0, 12, [5, 7, 2, 2, 2, 2, 2, 2, 2, 2, 2, 2])).set 13 (0, 5, [2])) := Y
  have X := y_isC Y
  show V _ 0 0 0 [(0, 18)] []
  refine y_aload_n X dX1_init_0 rfl 0 rfl ?_
  refine y_objInit X dX1_init_1 w_1_81 w_1_35 w_1_36 (by decide) ?_
  refine y_aload_n X dX1_init_4 rfl 0 rfl ?_
  refine y_iconst X 0 dX1_init_5 (fun _ => rfl) ?_
  refine y_put Y (k := 14) (fs := [0, 2, 2, 2, 2, 0, 2, 2, 2, 2, 2]) (ty := .int) (dsn := ((((fY.take 15).set 0 (0, 12, [5, 7, 2, 2, 2, 2, 2, 2, 2, 2, 2, 2])).set 13 (0, 5, [2])).set 14 (0, 3, [0, 2, 2, 2, 2, 0, 2, 2, 2, 2, 2]))) dX1_init_6 yl_1_9 yt_1_0 (by decide) (by decide +kernel) (by decide) (by decide +kernel) ?_
  refine y_aload_n X dX1_init_9 rfl 0 rfl ?_
  refine y_newB X 1 30 (v := 30) (h := 19) (dsn := ((((fY.take 16).set 0 (0, 12, [5, 7, 2, 2, 2, 2, 2, 2, 2, 2, 2, 2])).set 13 (0, 5, [2])).set 14 (0, 3, [0, 2, 2, 2, 2, 0, 2, 2, 2, 2, 2]))) dX1_init_10 (by decide) dX1_init_12 rfl (by decide) (by decide) (by decide) (by decide) (by decide) (by decide +kernel) (by decide) (by decide +kernel) (by decide +kernel) ?_
  refine y_put Y (k := 14) (fs := [0, 2, 2, 2, 2, 0, 2, 2, 2, 2, 2]) (ty := (.array .int)) (dsn := ((((fY.take 16).set 0 (0, 12, [5, 7, 2, 2, 2, 2, 2, 2, 2, 2, 2, 2])).set 13 (0, 5, [2])).set 14 (0, 3, [0, 19, 2, 2, 2, 0, 2, 2, 2, 2, 2]))) dX1_init_14 yl_1_15 yt_1_1 (by decide) (by decide +kernel) (by decide) (by decide +kernel) ?_
  refine y_aload_n X dX1_init_17 rfl 0 rfl ?_
  refine y_newB X 1 30 (v := 30) (h := 20) (dsn := ((((fY.take 17).set 0 (0, 12, [5, 7, 2, 2, 2, 2, 2, 2, 2, 2, 2, 2])).set 13 (0, 5, [2])).set 14 (0, 3, [0, 19, 2, 2, 2, 0, 2, 2, 2, 2, 2]))) dX1_init_18 (by decide) dX1_init_20 rfl (by decide) (by decide) (by decide) (by decide) (by decide) (by decide +kernel) (by decide) (by decide +kernel) (by decide +kernel) ?_
  refine y_put Y (k := 14) (fs := [0, 19, 2, 2, 2, 0, 2, 2, 2, 2, 2]) (ty := (.array .int)) (dsn := ((((fY.take 17).set 0 (0, 12, [5, 7, 2, 2, 2, 2, 2, 2, 2, 2, 2, 2])).set 13 (0, 5, [2])).set 14 (0, 3, [0, 19, 20, 2, 2, 0, 2, 2, 2, 2, 2]))) dX1_init_22 yl_1_19 yt_1_2 (by decide) (by decide +kernel) (by decide) (by decide +kernel) ?_
  refine y_aload_n X dX1_init_25 rfl 0 rfl ?_
  refine y_newB X 1 30 (v := 30) (h := 21) (dsn := ((((fY.take 18).set 0 (0, 12, [5, 7, 2, 2, 2, 2, 2, 2, 2, 2, 2, 2])).set 13 (0, 5, [2])).set 14 (0, 3, [0, 19, 20, 2, 2, 0, 2, 2, 2, 2, 2]))) dX1_init_26 (by decide) dX1_init_28 rfl (by decide) (by decide) (by decide) (by decide) (by decide) (by decide +kernel) (by decide) (by decide +kernel) (by decide +kernel) ?_
  refine y_put Y (k := 14) (fs := [0, 19, 20, 2, 2, 0, 2, 2, 2, 2, 2]) (ty := (.array .int)) (dsn := ((((fY.take 18).set 0 (0, 12, [5, 7, 2, 2, 2, 2, 2, 2, 2, 2, 2, 2])).set 13 (0, 5, [2])).set 14 (0, 3, [0, 19, 20, 21, 2, 0, 2, 2, 2, 2, 2]))) dX1_init_30 yl_1_22 yt_1_3 (by decide) (by decide +kernel) (by decide) (by decide +kernel) ?_
  refine y_aload_n X dX1_init_33 rfl 0 rfl ?_
  refine y_newB X 1 30 (v := 30) (h := 22) (dsn := ((((fY.take 19).set 0 (0, 12, [5, 7, 2, 2, 2, 2, 2, 2, 2, 2, 2, 2])).set 13 (0, 5, [2])).set 14 (0, 3, [0, 19, 20, 21, 2, 0, 2, 2, 2, 2, 2]))) dX1_init_34 (by decide) dX1_init_36 rfl (by decide) (by decide) (by decide) (by decide) (by decide) (by decide +kernel) (by decide) (by decide +kernel) (by decide +kernel) ?_
  refine y_put Y (k := 14) (fs := [0, 19, 20, 21, 2, 0, 2, 2, 2, 2, 2]) (ty := (.array .int)) (dsn := ((((fY.take 19).set 0 (0, 12, [5, 7, 2, 2, 2, 2, 2, 2, 2, 2, 2, 2])).set 13 (0, 5, [2])).set 14 (0, 3, [0, 19, 20, 21, 22, 0, 2, 2, 2, 2, 2]))) dX1_init_38 yl_1_25 yt_1_4 (by decide) (by decide +kernel) (by decide) (by decide +kernel) ?_
  refine y_aload_n X dX1_init_41 rfl 0 rfl ?_
  refine y_iconst X 0 dX1_init_42 (fun _ => rfl) ?_
  refine y_put Y (k := 14) (fs := [0, 19, 20, 21, 22, 0, 2, 2, 2, 2, 2]) (ty := .int) (dsn := ((((fY.take 19).set 0 (0, 12, [5, 7, 2, 2, 2, 2, 2, 2, 2, 2, 2, 2])).set 13 (0, 5, [2])).set 14 (0, 3, [0, 19, 20, 21, 22, 0, 2, 2, 2, 2, 2]))) dX1_init_43 yl_1_28 yt_1_5 (by decide) (by decide +kernel) (by decide) (by decide +kernel) ?_
  refine y_aload_n X dX1_init_46 rfl 0 rfl ?_
  refine y_newB X 1 12 (v := 12) (h := 23) (dsn := ((((fY.take 20).set 0 (0, 12, [5, 7, 2, 2, 2, 2, 2, 2, 2, 2, 2, 2])).set 13 (0, 5, [2])).set 14 (0, 3, [0, 19, 20, 21, 22, 0, 2, 2, 2, 2, 2]))) dX1_init_47 (by decide) dX1_init_49 rfl (by decide) (by decide) (by decide) (by decide) (by decide) (by decide +kernel) (by decide) (by decide +kernel) (by decide +kernel) ?_
  refine y_put Y (k := 14) (fs := [0, 19, 20, 21, 22, 0, 2, 2, 2, 2, 2]) (ty := (.array .int)) (dsn := ((((fY.take 20).set 0 (0, 12, [5, 7, 2, 2, 2, 2, 2, 2, 2, 2, 2, 2])).set 13 (0, 5, [2])).set 14 (0, 3, [0, 19, 20, 21, 22, 0, 23, 2, 2, 2, 2]))) dX1_init_51 yl_1_31 yt_1_6 (by decide) (by decide +kernel) (by decide) (by decide +kernel) ?_
  refine y_aload_n X dX1_init_54 rfl 0 rfl ?_
  refine y_newB X 1 12 (v := 12) (h := 24) (dsn := ((((fY.take 21).set 0 (0, 12, [5, 7, 2, 2, 2, 2, 2, 2, 2, 2, 2, 2])).set 13 (0, 5, [2])).set 14 (0, 3, [0, 19, 20, 21, 22, 0, 23, 2, 2, 2, 2]))) dX1_init_55 (by decide) dX1_init_57 rfl (by decide) (by decide) (by decide) (by decide) (by decide) (by decide +kernel) (by decide) (by decide +kernel) (by decide +kernel) ?_
  refine y_put Y (k := 14) (fs := [0, 19, 20, 21, 22, 0, 23, 2, 2, 2, 2]) (ty := (.array .int)) (dsn := ((((fY.take 21).set 0 (0, 12, [5, 7, 2, 2, 2, 2, 2, 2, 2, 2, 2, 2])).set 13 (0, 5, [2])).set 14 (0, 3, [0, 19, 20, 21, 22, 0, 23, 24, 2, 2, 2]))) dX1_init_59 yl_1_34 yt_1_7 (by decide) (by decide +kernel) (by decide) (by decide +kernel) ?_
  refine y_aload_n X dX1_init_62 rfl 0 rfl ?_
  refine y_newB X 1 12 (v := 12) (h := 25) (dsn := ((((fY.take 22).set 0 (0, 12, [5, 7, 2, 2, 2, 2, 2, 2, 2, 2, 2, 2])).set 13 (0, 5, [2])).set 14 (0, 3, [0, 19, 20, 21, 22, 0, 23, 24, 2, 2, 2]))) dX1_init_63 (by decide) dX1_init_65 rfl (by decide) (by decide) (by decide) (by decide) (by decide) (by decide +kernel) (by decide) (by decide +kernel) (by decide +kernel) ?_
  refine y_put Y (k := 14) (fs := [0, 19, 20, 21, 22, 0, 23, 24, 2, 2, 2]) (ty := (.array .int)) (dsn := ((((fY.take 22).set 0 (0, 12, [5, 7, 2, 2, 2, 2, 2, 2, 2, 2, 2, 2])).set 13 (0, 5, [2])).set 14 (0, 3, [0, 19, 20, 21, 22, 0, 23, 24, 25, 2, 2]))) dX1_init_67 yl_1_37 yt_1_8 (by decide) (by decide +kernel) (by decide) (by decide +kernel) ?_
  refine y_aload_n X dX1_init_70 rfl 0 rfl ?_
  refine y_newB X 1 12 (v := 12) (h := 26) (dsn := ((((fY.take 23).set 0 (0, 12, [5, 7, 2, 2, 2, 2, 2, 2, 2, 2, 2, 2])).set 13 (0, 5, [2])).set 14 (0, 3, [0, 19, 20, 21, 22, 0, 23, 24, 25, 2, 2]))) dX1_init_71 (by decide) dX1_init_73 rfl (by decide) (by decide) (by decide) (by decide) (by decide) (by decide +kernel) (by decide) (by decide +kernel) (by decide +kernel) ?_
  refine y_put Y (k := 14) (fs := [0, 19, 20, 21, 22, 0, 23, 24, 25, 2, 2]) (ty := (.array .int)) (dsn := ((((fY.take 23).set 0 (0, 12, [5, 7, 2, 2, 2, 2, 2, 2, 2, 2, 2, 2])).set 13 (0, 5, [2])).set 14 (0, 3, [0, 19, 20, 21, 22, 0, 23, 24, 25, 26, 2]))) dX1_init_75 yl_1_40 yt_1_9 (by decide) (by decide +kernel) (by decide) (by decide +kernel) ?_
  refine y_aload_n X dX1_init_78 rfl 0 rfl ?_
  refine y_newB X 1 120 (v := 120) (h := 27) (dsn := ((((fY.take 24).set 0 (0, 12, [5, 7, 2, 2, 2, 2, 2, 2, 2, 2, 2, 2])).set 13 (0, 5, [2])).set 14 (0, 3, [0, 19, 20, 21, 22, 0, 23, 24, 25, 26, 2]))) dX1_init_79 (by decide) dX1_init_81 rfl (by decide) (by decide) (by decide) (by decide) (by decide) (by decide +kernel) (by decide) (by decide +kernel) (by decide +kernel) ?_
  refine y_put Y (k := 14) (fs := [0, 19, 20, 21, 22, 0, 23, 24, 25, 26, 2]) (ty := (.array .int)) (dsn := (((fY.take 24).set 0 (0, 12, [5, 7, 2, 2, 2, 2, 2, 2, 2, 2, 2, 2])).set 13 (0, 5, [2]))) dX1_init_83 yl_1_43 yt_1_10 (by decide) (by decide +kernel) (by decide) (by decide +kernel) ?_
  exact y_ret Y dX1_init_86 ⟨rfl, rfl, rfl⟩
set_option maxRecDepth 100000 in
set_option maxHeartbeats 4000000 in
theorem yk3_0 : y_Met yX3_init cX3_init 1 2 10 299 (((fY.take 14).set 0 (0, 12, [5, 7, 2, 2, 2, 2, 2, 2, 2, 2, 2, 2])).set 13 (0, 5, [2])) [17] ((fY.take 24).set 0 (0, 12, [5, 7, 2, 2, 2, 2, 2, 2, 2, 2, 2, 2])) := by
  refine y_met (by decide +kernel) rfl (by decide) (by decide) (fun V Y => ?_)
  have Y : y_IsC V cX3_init 1 RX3 14 2 10 299 ((fY.take 24).set 0 (0, 12, [5, 7, 2, 2, 2, 2, 2, 2, 2, 2, 2, 2])) := Y
  have X := y_isC Y
  show V _ 0 0 0 [(0, 17)] []
  refine y_aload_n X dX3_init_0 rfl 0 rfl ?_
  refine y_objInit X dX3_init_1 w_1_157 w_1_35 w_1_36 (by decide) ?_
  refine y_aload_n X dX3_init_4 rfl 0 rfl ?_
  refine y_new X (h := 18) (dsn := ((((fY.take 15).set 0 (0, 12, [5, 7, 2, 2, 2, 2, 2, 2, 2, 2, 2, 2])).set 13 (0, 5, [2])).set 14 (0, 3, [0, 2, 2, 2, 2, 0, 2, 2, 2, 2, 2]))) dX3_init_5 yo_3_9 (by decide) (by decide +kernel) (by decide) (by decide +kernel) (by decide +kernel) ?_
  refine y_dup X dX3_init_8 ?_
  refine y_callI X (k := 14) (As := []) [18, 17] dX3_init_9 yk1_1 ym_1 w_1_79 rfl (Or.inr (List.mem_of_getElem? (i := 3) rfl)) (by decide) (by decide) rfl (by decide) (by decide +kernel) (by decide) ?_
  refine y_put Y (k := 13) (fs := [2]) (ty := (.object "TruckPlatoons$Fleet")) (dsn := ((fY.take 24).set 0 (0, 12, [5, 7, 2, 2, 2, 2, 2, 2, 2, 2, 2, 2]))) dX3_init_12 yl_3_12 yt_3_0 (by decide) (by decide +kernel) (by decide) (by decide +kernel) ?_
  exact y_ret Y dX3_init_15 ⟨rfl, rfl, rfl⟩
set_option maxRecDepth 100000 in
set_option maxHeartbeats 4000000 in
theorem yk8_0 : y_Met yX8_init cX8_init 1 1 2 120 (((fY.take 25).set 0 (0, 12, [5, 7, 17, 2, 2, 2, 2, 2, 2, 2, 2, 2])).set 24 (0, 10, [0, 2, 2])) [28] ((fY.take 27).set 0 (0, 12, [5, 7, 17, 2, 2, 2, 2, 2, 2, 2, 2, 2])) := by
  refine y_met (by decide +kernel) rfl (by decide) (by decide) (fun V Y => ?_)
  have Y : y_IsC V cX8_init 1 RX8 25 1 2 120 ((fY.take 27).set 0 (0, 12, [5, 7, 17, 2, 2, 2, 2, 2, 2, 2, 2, 2])) := Y
  have X := y_isC Y
  show V _ 0 0 0 [(0, 28)] []
  refine y_aload_n X dX8_init_0 rfl 0 rfl ?_
  refine y_objInit X dX8_init_1 w_1_170 w_1_35 w_1_36 (by decide) ?_
  refine y_aload_n X dX8_init_4 rfl 0 rfl ?_
  refine y_iconst X 0 dX8_init_5 (fun _ => rfl) ?_
  refine y_put Y (k := 24) (fs := [0, 2, 2]) (ty := .int) (dsn := (((fY.take 25).set 0 (0, 12, [5, 7, 17, 2, 2, 2, 2, 2, 2, 2, 2, 2])).set 24 (0, 10, [0, 2, 2]))) dX8_init_6 yl_8_9 yt_8_0 (by decide) (by decide +kernel) (by decide) (by decide +kernel) ?_
  refine y_aload_n X dX8_init_9 rfl 0 rfl ?_
  refine y_newB X 1 30 (v := 30) (h := 29) (dsn := (((fY.take 26).set 0 (0, 12, [5, 7, 17, 2, 2, 2, 2, 2, 2, 2, 2, 2])).set 24 (0, 10, [0, 2, 2]))) dX8_init_10 (by decide) dX8_init_12 rfl (by decide) (by decide) (by decide) (by decide) (by decide) (by decide +kernel) (by decide) (by decide +kernel) (by decide +kernel) ?_
  refine y_put Y (k := 24) (fs := [0, 2, 2]) (ty := (.array .int)) (dsn := (((fY.take 26).set 0 (0, 12, [5, 7, 17, 2, 2, 2, 2, 2, 2, 2, 2, 2])).set 24 (0, 10, [0, 29, 2]))) dX8_init_14 yl_8_15 yt_8_1 (by decide) (by decide +kernel) (by decide) (by decide +kernel) ?_
  refine y_aload_n X dX8_init_17 rfl 0 rfl ?_
  refine y_newB X 1 90 (v := 90) (h := 30) (dsn := (((fY.take 27).set 0 (0, 12, [5, 7, 17, 2, 2, 2, 2, 2, 2, 2, 2, 2])).set 24 (0, 10, [0, 29, 2]))) dX8_init_18 (by decide) dX8_init_20 rfl (by decide) (by decide) (by decide) (by decide) (by decide) (by decide +kernel) (by decide) (by decide +kernel) (by decide +kernel) ?_
  refine y_put Y (k := 24) (fs := [0, 29, 2]) (ty := (.array .int)) (dsn := ((fY.take 27).set 0 (0, 12, [5, 7, 17, 2, 2, 2, 2, 2, 2, 2, 2, 2]))) dX8_init_22 yl_8_19 yt_8_2 (by decide) (by decide +kernel) (by decide) (by decide +kernel) ?_
  exact y_ret Y dX8_init_25 ⟨rfl, rfl, rfl⟩
set_option maxRecDepth 100000 in
set_option maxHeartbeats 4000000 in
theorem yk7_0 : y_Met yX7_init cX7_init 2 1 5 1723 (((fY.take 28).set 0 (0, 12, [5, 7, 17, 28, 2, 2, 2, 2, 2, 2, 2, 2])).set 27 (0, 9, [2, 2, 2, 2, 2, 2])) [31, 7] ((fY.take 33).set 0 (0, 12, [5, 7, 17, 28, 2, 2, 2, 2, 2, 2, 2, 2])) := by
  refine y_met (by decide +kernel) rfl (by decide) (by decide) (fun V Y => ?_)
  have Y : y_IsC V cX7_init 2 RX7 28 1 5 1723 ((fY.take 33).set 0 (0, 12, [5, 7, 17, 28, 2, 2, 2, 2, 2, 2, 2, 2])) := Y
  have X := y_isC Y
  show V _ 0 0 0 [(0, 31), (1, 7)] []
  refine y_aload_n X dX7_init_0 rfl 0 rfl ?_
  refine y_objInit X dX7_init_1 w_1_187 w_1_35 w_1_36 (by decide) ?_
  refine y_aload_n X dX7_init_4 rfl 0 rfl ?_
  refine y_newB X 1 120 (v := 120) (h := 32) (dsn := (((fY.take 29).set 0 (0, 12, [5, 7, 17, 28, 2, 2, 2, 2, 2, 2, 2, 2])).set 27 (0, 9, [2, 2, 2, 2, 2, 2]))) dX7_init_5 (by decide) dX7_init_7 rfl (by decide) (by decide) (by decide) (by decide) (by decide) (by decide +kernel) (by decide) (by decide +kernel) (by decide +kernel) ?_
  refine y_put Y (k := 27) (fs := [2, 2, 2, 2, 2, 2]) (ty := (.array .int)) (dsn := (((fY.take 29).set 0 (0, 12, [5, 7, 17, 28, 2, 2, 2, 2, 2, 2, 2, 2])).set 27 (0, 9, [2, 32, 2, 2, 2, 2]))) dX7_init_9 yl_7_9 yt_7_1 (by decide) (by decide +kernel) (by decide) (by decide +kernel) ?_
  refine y_aload_n X dX7_init_12 rfl 0 rfl ?_
  refine y_newB X 1 31 (v := 31) (h := 33) (dsn := (((fY.take 30).set 0 (0, 12, [5, 7, 17, 28, 2, 2, 2, 2, 2, 2, 2, 2])).set 27 (0, 9, [2, 32, 2, 2, 2, 2]))) dX7_init_13 (by decide) dX7_init_15 rfl (by decide) (by decide) (by decide) (by decide) (by decide) (by decide +kernel) (by decide) (by decide +kernel) (by decide +kernel) ?_
  refine y_put Y (k := 27) (fs := [2, 32, 2, 2, 2, 2]) (ty := (.array .int)) (dsn := (((fY.take 30).set 0 (0, 12, [5, 7, 17, 28, 2, 2, 2, 2, 2, 2, 2, 2])).set 27 (0, 9, [2, 32, 33, 2, 2, 2]))) dX7_init_17 yl_7_15 yt_7_2 (by decide) (by decide +kernel) (by decide) (by decide +kernel) ?_
  refine y_aload_n X dX7_init_20 rfl 0 rfl ?_
  refine y_newB X 1 12 (v := 12) (h := 34) (dsn := (((fY.take 31).set 0 (0, 12, [5, 7, 17, 28, 2, 2, 2, 2, 2, 2, 2, 2])).set 27 (0, 9, [2, 32, 33, 2, 2, 2]))) dX7_init_21 (by decide) dX7_init_23 rfl (by decide) (by decide) (by decide) (by decide) (by decide) (by decide +kernel) (by decide) (by decide +kernel) (by decide +kernel) ?_
  refine y_put Y (k := 27) (fs := [2, 32, 33, 2, 2, 2]) (ty := (.array .int)) (dsn := (((fY.take 31).set 0 (0, 12, [5, 7, 17, 28, 2, 2, 2, 2, 2, 2, 2, 2])).set 27 (0, 9, [2, 32, 33, 34, 2, 2]))) dX7_init_25 yl_7_18 yt_7_3 (by decide) (by decide +kernel) (by decide) (by decide +kernel) ?_
  refine y_aload_n X dX7_init_28 rfl 0 rfl ?_
  refine y_newB X 1 120 (v := 120) (h := 35) (dsn := (((fY.take 32).set 0 (0, 12, [5, 7, 17, 28, 2, 2, 2, 2, 2, 2, 2, 2])).set 27 (0, 9, [2, 32, 33, 34, 2, 2]))) dX7_init_29 (by decide) dX7_init_31 rfl (by decide) (by decide) (by decide) (by decide) (by decide) (by decide +kernel) (by decide) (by decide +kernel) (by decide +kernel) ?_
  refine y_put Y (k := 27) (fs := [2, 32, 33, 34, 2, 2]) (ty := (.array .int)) (dsn := (((fY.take 32).set 0 (0, 12, [5, 7, 17, 28, 2, 2, 2, 2, 2, 2, 2, 2])).set 27 (0, 9, [2, 32, 33, 34, 35, 2]))) dX7_init_33 yl_7_21 yt_7_4 (by decide) (by decide +kernel) (by decide) (by decide +kernel) ?_
  refine y_aload_n X dX7_init_36 rfl 0 rfl ?_
  refine y_newS X 4 1440 (v := 1440) (h := 36) (dsn := (((fY.take 33).set 0 (0, 12, [5, 7, 17, 28, 2, 2, 2, 2, 2, 2, 2, 2])).set 27 (0, 9, [2, 32, 33, 34, 35, 2]))) dX7_init_37 (by decide) dX7_init_40 rfl (by decide) (by decide) (by decide) (by decide) (by decide) (by decide +kernel) (by decide) (by decide +kernel) (by decide +kernel) ?_
  refine y_put Y (k := 27) (fs := [2, 32, 33, 34, 35, 2]) (ty := (.array .long)) (dsn := (((fY.take 33).set 0 (0, 12, [5, 7, 17, 28, 2, 2, 2, 2, 2, 2, 2, 2])).set 27 (0, 9, [2, 32, 33, 34, 35, 36]))) dX7_init_42 yl_7_24 yt_7_5 (by decide) (by decide +kernel) (by decide) (by decide +kernel) ?_
  refine y_aload_n X dX7_init_45 rfl 0 rfl ?_
  refine y_aload_n X dX7_init_46 rfl 1 rfl ?_
  refine y_put Y (k := 27) (fs := [2, 32, 33, 34, 35, 36]) (ty := (.object "TruckPlatoons$Fleet")) (dsn := ((fY.take 33).set 0 (0, 12, [5, 7, 17, 28, 2, 2, 2, 2, 2, 2, 2, 2]))) dX7_init_47 yl_7_28 yt_7_0 (by decide) (by decide +kernel) (by decide) (by decide +kernel) ?_
  exact y_ret Y dX7_init_50 ⟨rfl, rfl, rfl⟩
set_option maxRecDepth 100000 in
set_option maxHeartbeats 4000000 in
theorem yk6_0 : y_Met yX6_init cX6_init 3 1 12 1332 (((fY.take 34).set 0 (0, 12, [5, 7, 17, 28, 31, 2, 2, 2, 2, 2, 2, 2])).set 33 (0, 8, [2, 2, 2, 2, 2, 2, 2, 2, 2, 2, 2, 2, 2, 2, 0])) [37, 7, 31] ((fY.take 46).set 0 (0, 12, [5, 7, 17, 28, 31, 2, 2, 2, 2, 2, 2, 2])) := by
  refine y_met (by decide +kernel) rfl (by decide) (by decide) (fun V Y => ?_)
  have Y : y_IsC V cX6_init 3 RX6 34 1 12 1332 ((fY.take 46).set 0 (0, 12, [5, 7, 17, 28, 31, 2, 2, 2, 2, 2, 2, 2])) := Y
  have X := y_isC Y
  show V _ 0 0 0 [(0, 37), (1, 7), (2, 31)] []
  refine y_aload_n X dX6_init_0 rfl 0 rfl ?_
  refine y_objInit X dX6_init_1 w_1_220 w_1_35 w_1_36 (by decide) ?_
  refine y_aload_n X dX6_init_4 rfl 0 rfl ?_
  refine y_newB X 1 12 (v := 12) (h := 38) (dsn := (((fY.take 35).set 0 (0, 12, [5, 7, 17, 28, 31, 2, 2, 2, 2, 2, 2, 2])).set 33 (0, 8, [2, 2, 2, 2, 2, 2, 2, 2, 2, 2, 2, 2, 2, 2, 0]))) dX6_init_5 (by decide) dX6_init_7 rfl (by decide) (by decide) (by decide) (by decide) (by decide) (by decide +kernel) (by decide) (by decide +kernel) (by decide +kernel) ?_
  refine y_put Y (k := 33) (fs := [2, 2, 2, 2, 2, 2, 2, 2, 2, 2, 2, 2, 2, 2, 0]) (ty := (.array .int)) (dsn := (((fY.take 35).set 0 (0, 12, [5, 7, 17, 28, 31, 2, 2, 2, 2, 2, 2, 2])).set 33 (0, 8, [2, 2, 38, 2, 2, 2, 2, 2, 2, 2, 2, 2, 2, 2, 0]))) dX6_init_9 yl_6_9 yt_6_2 (by decide) (by decide +kernel) (by decide) (by decide +kernel) ?_
  refine y_aload_n X dX6_init_12 rfl 0 rfl ?_
  refine y_newB X 1 120 (v := 120) (h := 39) (dsn := (((fY.take 36).set 0 (0, 12, [5, 7, 17, 28, 31, 2, 2, 2, 2, 2, 2, 2])).set 33 (0, 8, [2, 2, 38, 2, 2, 2, 2, 2, 2, 2, 2, 2, 2, 2, 0]))) dX6_init_13 (by decide) dX6_init_15 rfl (by decide) (by decide) (by decide) (by decide) (by decide) (by decide +kernel) (by decide) (by decide +kernel) (by decide +kernel) ?_
  refine y_put Y (k := 33) (fs := [2, 2, 38, 2, 2, 2, 2, 2, 2, 2, 2, 2, 2, 2, 0]) (ty := (.array .int)) (dsn := (((fY.take 36).set 0 (0, 12, [5, 7, 17, 28, 31, 2, 2, 2, 2, 2, 2, 2])).set 33 (0, 8, [2, 2, 38, 39, 2, 2, 2, 2, 2, 2, 2, 2, 2, 2, 0]))) dX6_init_17 yl_6_15 yt_6_3 (by decide) (by decide +kernel) (by decide) (by decide +kernel) ?_
  refine y_aload_n X dX6_init_20 rfl 0 rfl ?_
  refine y_newB X 1 120 (v := 120) (h := 40) (dsn := (((fY.take 37).set 0 (0, 12, [5, 7, 17, 28, 31, 2, 2, 2, 2, 2, 2, 2])).set 33 (0, 8, [2, 2, 38, 39, 2, 2, 2, 2, 2, 2, 2, 2, 2, 2, 0]))) dX6_init_21 (by decide) dX6_init_23 rfl (by decide) (by decide) (by decide) (by decide) (by decide) (by decide +kernel) (by decide) (by decide +kernel) (by decide +kernel) ?_
  refine y_put Y (k := 33) (fs := [2, 2, 38, 39, 2, 2, 2, 2, 2, 2, 2, 2, 2, 2, 0]) (ty := (.array .int)) (dsn := (((fY.take 37).set 0 (0, 12, [5, 7, 17, 28, 31, 2, 2, 2, 2, 2, 2, 2])).set 33 (0, 8, [2, 2, 38, 39, 40, 2, 2, 2, 2, 2, 2, 2, 2, 2, 0]))) dX6_init_25 yl_6_18 yt_6_4 (by decide) (by decide +kernel) (by decide) (by decide +kernel) ?_
  refine y_aload_n X dX6_init_28 rfl 0 rfl ?_
  refine y_newB X 1 120 (v := 120) (h := 41) (dsn := (((fY.take 38).set 0 (0, 12, [5, 7, 17, 28, 31, 2, 2, 2, 2, 2, 2, 2])).set 33 (0, 8, [2, 2, 38, 39, 40, 2, 2, 2, 2, 2, 2, 2, 2, 2, 0]))) dX6_init_29 (by decide) dX6_init_31 rfl (by decide) (by decide) (by decide) (by decide) (by decide) (by decide +kernel) (by decide) (by decide +kernel) (by decide +kernel) ?_
  refine y_put Y (k := 33) (fs := [2, 2, 38, 39, 40, 2, 2, 2, 2, 2, 2, 2, 2, 2, 0]) (ty := (.array .int)) (dsn := (((fY.take 38).set 0 (0, 12, [5, 7, 17, 28, 31, 2, 2, 2, 2, 2, 2, 2])).set 33 (0, 8, [2, 2, 38, 39, 40, 41, 2, 2, 2, 2, 2, 2, 2, 2, 0]))) dX6_init_33 yl_6_21 yt_6_5 (by decide) (by decide +kernel) (by decide) (by decide +kernel) ?_
  refine y_aload_n X dX6_init_36 rfl 0 rfl ?_
  refine y_newB X 1 120 (v := 120) (h := 42) (dsn := (((fY.take 39).set 0 (0, 12, [5, 7, 17, 28, 31, 2, 2, 2, 2, 2, 2, 2])).set 33 (0, 8, [2, 2, 38, 39, 40, 41, 2, 2, 2, 2, 2, 2, 2, 2, 0]))) dX6_init_37 (by decide) dX6_init_39 rfl (by decide) (by decide) (by decide) (by decide) (by decide) (by decide +kernel) (by decide) (by decide +kernel) (by decide +kernel) ?_
  refine y_put Y (k := 33) (fs := [2, 2, 38, 39, 40, 41, 2, 2, 2, 2, 2, 2, 2, 2, 0]) (ty := (.array .int)) (dsn := (((fY.take 39).set 0 (0, 12, [5, 7, 17, 28, 31, 2, 2, 2, 2, 2, 2, 2])).set 33 (0, 8, [2, 2, 38, 39, 40, 41, 42, 2, 2, 2, 2, 2, 2, 2, 0]))) dX6_init_41 yl_6_24 yt_6_6 (by decide) (by decide +kernel) (by decide) (by decide +kernel) ?_
  refine y_aload_n X dX6_init_44 rfl 0 rfl ?_
  refine y_newB X 1 120 (v := 120) (h := 43) (dsn := (((fY.take 40).set 0 (0, 12, [5, 7, 17, 28, 31, 2, 2, 2, 2, 2, 2, 2])).set 33 (0, 8, [2, 2, 38, 39, 40, 41, 42, 2, 2, 2, 2, 2, 2, 2, 0]))) dX6_init_45 (by decide) dX6_init_47 rfl (by decide) (by decide) (by decide) (by decide) (by decide) (by decide +kernel) (by decide) (by decide +kernel) (by decide +kernel) ?_
  refine y_put Y (k := 33) (fs := [2, 2, 38, 39, 40, 41, 42, 2, 2, 2, 2, 2, 2, 2, 0]) (ty := (.array .int)) (dsn := (((fY.take 40).set 0 (0, 12, [5, 7, 17, 28, 31, 2, 2, 2, 2, 2, 2, 2])).set 33 (0, 8, [2, 2, 38, 39, 40, 41, 42, 43, 2, 2, 2, 2, 2, 2, 0]))) dX6_init_49 yl_6_27 yt_6_7 (by decide) (by decide +kernel) (by decide) (by decide +kernel) ?_
  refine y_aload_n X dX6_init_52 rfl 0 rfl ?_
  refine y_newB X 1 120 (v := 120) (h := 44) (dsn := (((fY.take 41).set 0 (0, 12, [5, 7, 17, 28, 31, 2, 2, 2, 2, 2, 2, 2])).set 33 (0, 8, [2, 2, 38, 39, 40, 41, 42, 43, 2, 2, 2, 2, 2, 2, 0]))) dX6_init_53 (by decide) dX6_init_55 rfl (by decide) (by decide) (by decide) (by decide) (by decide) (by decide +kernel) (by decide) (by decide +kernel) (by decide +kernel) ?_
  refine y_put Y (k := 33) (fs := [2, 2, 38, 39, 40, 41, 42, 43, 2, 2, 2, 2, 2, 2, 0]) (ty := (.array .int)) (dsn := (((fY.take 41).set 0 (0, 12, [5, 7, 17, 28, 31, 2, 2, 2, 2, 2, 2, 2])).set 33 (0, 8, [2, 2, 38, 39, 40, 41, 42, 43, 44, 2, 2, 2, 2, 2, 0]))) dX6_init_57 yl_6_30 yt_6_8 (by decide) (by decide +kernel) (by decide) (by decide +kernel) ?_
  refine y_aload_n X dX6_init_60 rfl 0 rfl ?_
  refine y_newB X 1 120 (v := 120) (h := 45) (dsn := (((fY.take 42).set 0 (0, 12, [5, 7, 17, 28, 31, 2, 2, 2, 2, 2, 2, 2])).set 33 (0, 8, [2, 2, 38, 39, 40, 41, 42, 43, 44, 2, 2, 2, 2, 2, 0]))) dX6_init_61 (by decide) dX6_init_63 rfl (by decide) (by decide) (by decide) (by decide) (by decide) (by decide +kernel) (by decide) (by decide +kernel) (by decide +kernel) ?_
  refine y_put Y (k := 33) (fs := [2, 2, 38, 39, 40, 41, 42, 43, 44, 2, 2, 2, 2, 2, 0]) (ty := (.array .int)) (dsn := (((fY.take 42).set 0 (0, 12, [5, 7, 17, 28, 31, 2, 2, 2, 2, 2, 2, 2])).set 33 (0, 8, [2, 2, 38, 39, 40, 41, 42, 43, 44, 45, 2, 2, 2, 2, 0]))) dX6_init_65 yl_6_33 yt_6_9 (by decide) (by decide +kernel) (by decide) (by decide +kernel) ?_
  refine y_aload_n X dX6_init_68 rfl 0 rfl ?_
  refine y_newB X 1 120 (v := 120) (h := 46) (dsn := (((fY.take 43).set 0 (0, 12, [5, 7, 17, 28, 31, 2, 2, 2, 2, 2, 2, 2])).set 33 (0, 8, [2, 2, 38, 39, 40, 41, 42, 43, 44, 45, 2, 2, 2, 2, 0]))) dX6_init_69 (by decide) dX6_init_71 rfl (by decide) (by decide) (by decide) (by decide) (by decide) (by decide +kernel) (by decide) (by decide +kernel) (by decide +kernel) ?_
  refine y_put Y (k := 33) (fs := [2, 2, 38, 39, 40, 41, 42, 43, 44, 45, 2, 2, 2, 2, 0]) (ty := (.array .int)) (dsn := (((fY.take 43).set 0 (0, 12, [5, 7, 17, 28, 31, 2, 2, 2, 2, 2, 2, 2])).set 33 (0, 8, [2, 2, 38, 39, 40, 41, 42, 43, 44, 45, 46, 2, 2, 2, 0]))) dX6_init_73 yl_6_36 yt_6_10 (by decide) (by decide +kernel) (by decide) (by decide +kernel) ?_
  refine y_aload_n X dX6_init_76 rfl 0 rfl ?_
  refine y_newB X 1 120 (v := 120) (h := 47) (dsn := (((fY.take 44).set 0 (0, 12, [5, 7, 17, 28, 31, 2, 2, 2, 2, 2, 2, 2])).set 33 (0, 8, [2, 2, 38, 39, 40, 41, 42, 43, 44, 45, 46, 2, 2, 2, 0]))) dX6_init_77 (by decide) dX6_init_79 rfl (by decide) (by decide) (by decide) (by decide) (by decide) (by decide +kernel) (by decide) (by decide +kernel) (by decide +kernel) ?_
  refine y_put Y (k := 33) (fs := [2, 2, 38, 39, 40, 41, 42, 43, 44, 45, 46, 2, 2, 2, 0]) (ty := (.array .int)) (dsn := (((fY.take 44).set 0 (0, 12, [5, 7, 17, 28, 31, 2, 2, 2, 2, 2, 2, 2])).set 33 (0, 8, [2, 2, 38, 39, 40, 41, 42, 43, 44, 45, 46, 47, 2, 2, 0]))) dX6_init_81 yl_6_39 yt_6_11 (by decide) (by decide +kernel) (by decide) (by decide +kernel) ?_
  refine y_aload_n X dX6_init_84 rfl 0 rfl ?_
  refine y_newB X 1 120 (v := 120) (h := 48) (dsn := (((fY.take 45).set 0 (0, 12, [5, 7, 17, 28, 31, 2, 2, 2, 2, 2, 2, 2])).set 33 (0, 8, [2, 2, 38, 39, 40, 41, 42, 43, 44, 45, 46, 47, 2, 2, 0]))) dX6_init_85 (by decide) dX6_init_87 rfl (by decide) (by decide) (by decide) (by decide) (by decide) (by decide +kernel) (by decide) (by decide +kernel) (by decide +kernel) ?_
  refine y_put Y (k := 33) (fs := [2, 2, 38, 39, 40, 41, 42, 43, 44, 45, 46, 47, 2, 2, 0]) (ty := (.array .int)) (dsn := (((fY.take 45).set 0 (0, 12, [5, 7, 17, 28, 31, 2, 2, 2, 2, 2, 2, 2])).set 33 (0, 8, [2, 2, 38, 39, 40, 41, 42, 43, 44, 45, 46, 47, 48, 2, 0]))) dX6_init_89 yl_6_42 yt_6_12 (by decide) (by decide +kernel) (by decide) (by decide +kernel) ?_
  refine y_aload_n X dX6_init_92 rfl 0 rfl ?_
  refine y_newB X 2 120 (v := 120) (h := 49) (dsn := (((fY.take 46).set 0 (0, 12, [5, 7, 17, 28, 31, 2, 2, 2, 2, 2, 2, 2])).set 33 (0, 8, [2, 2, 38, 39, 40, 41, 42, 43, 44, 45, 46, 47, 48, 2, 0]))) dX6_init_93 (by decide) dX6_init_95 rfl (by decide) (by decide) (by decide) (by decide) (by decide) (by decide +kernel) (by decide) (by decide +kernel) (by decide +kernel) ?_
  refine y_put Y (k := 33) (fs := [2, 2, 38, 39, 40, 41, 42, 43, 44, 45, 46, 47, 48, 2, 0]) (ty := (.array .boolean)) (dsn := (((fY.take 46).set 0 (0, 12, [5, 7, 17, 28, 31, 2, 2, 2, 2, 2, 2, 2])).set 33 (0, 8, [2, 2, 38, 39, 40, 41, 42, 43, 44, 45, 46, 47, 48, 49, 0]))) dX6_init_97 yl_6_45 yt_6_13 (by decide) (by decide +kernel) (by decide) (by decide +kernel) ?_
  refine y_aload_n X dX6_init_100 rfl 0 rfl ?_
  refine y_iconst X 0 dX6_init_101 (fun _ => rfl) ?_
  refine y_put Y (k := 33) (fs := [2, 2, 38, 39, 40, 41, 42, 43, 44, 45, 46, 47, 48, 49, 0]) (ty := .int) (dsn := (((fY.take 46).set 0 (0, 12, [5, 7, 17, 28, 31, 2, 2, 2, 2, 2, 2, 2])).set 33 (0, 8, [2, 2, 38, 39, 40, 41, 42, 43, 44, 45, 46, 47, 48, 49, 0]))) dX6_init_102 yl_6_49 yt_6_14 (by decide) (by decide +kernel) (by decide) (by decide +kernel) ?_
  refine y_aload_n X dX6_init_105 rfl 0 rfl ?_
  refine y_aload_n X dX6_init_106 rfl 1 rfl ?_
  refine y_put Y (k := 33) (fs := [2, 2, 38, 39, 40, 41, 42, 43, 44, 45, 46, 47, 48, 49, 0]) (ty := (.object "TruckPlatoons$Fleet")) (dsn := (((fY.take 46).set 0 (0, 12, [5, 7, 17, 28, 31, 2, 2, 2, 2, 2, 2, 2])).set 33 (0, 8, [7, 2, 38, 39, 40, 41, 42, 43, 44, 45, 46, 47, 48, 49, 0]))) dX6_init_107 yl_6_53 yt_6_0 (by decide) (by decide +kernel) (by decide) (by decide +kernel) ?_
  refine y_aload_n X dX6_init_110 rfl 0 rfl ?_
  refine y_aload_n X dX6_init_111 rfl 2 rfl ?_
  refine y_put Y (k := 33) (fs := [7, 2, 38, 39, 40, 41, 42, 43, 44, 45, 46, 47, 48, 49, 0]) (ty := (.object "TruckPlatoons$Routes")) (dsn := ((fY.take 46).set 0 (0, 12, [5, 7, 17, 28, 31, 2, 2, 2, 2, 2, 2, 2]))) dX6_init_112 yl_6_57 yt_6_1 (by decide) (by decide +kernel) (by decide) (by decide +kernel) ?_
  exact y_ret Y dX6_init_115 ⟨rfl, rfl, rfl⟩
set_option maxRecDepth 100000 in
set_option maxHeartbeats 4000000 in
theorem yk6_1 : y_Met yX6_init cX6_init 3 1 12 1332 (((fY.take 47).set 0 (0, 12, [5, 7, 17, 28, 31, 37, 2, 2, 2, 2, 2, 2])).set 46 (0, 8, [2, 2, 2, 2, 2, 2, 2, 2, 2, 2, 2, 2, 2, 2, 0])) [50, 7, 31] ((fY.take 59).set 0 (0, 12, [5, 7, 17, 28, 31, 37, 2, 2, 2, 2, 2, 2])) := by
  refine y_met (by decide +kernel) rfl (by decide) (by decide) (fun V Y => ?_)
  have Y : y_IsC V cX6_init 3 RX6 47 1 12 1332 ((fY.take 59).set 0 (0, 12, [5, 7, 17, 28, 31, 37, 2, 2, 2, 2, 2, 2])) := Y
  have X := y_isC Y
  show V _ 0 0 0 [(0, 50), (1, 7), (2, 31)] []
  refine y_aload_n X dX6_init_0 rfl 0 rfl ?_
  refine y_objInit X dX6_init_1 w_1_220 w_1_35 w_1_36 (by decide) ?_
  refine y_aload_n X dX6_init_4 rfl 0 rfl ?_
  refine y_newB X 1 12 (v := 12) (h := 51) (dsn := (((fY.take 48).set 0 (0, 12, [5, 7, 17, 28, 31, 37, 2, 2, 2, 2, 2, 2])).set 46 (0, 8, [2, 2, 2, 2, 2, 2, 2, 2, 2, 2, 2, 2, 2, 2, 0]))) dX6_init_5 (by decide) dX6_init_7 rfl (by decide) (by decide) (by decide) (by decide) (by decide) (by decide +kernel) (by decide) (by decide +kernel) (by decide +kernel) ?_
  refine y_put Y (k := 46) (fs := [2, 2, 2, 2, 2, 2, 2, 2, 2, 2, 2, 2, 2, 2, 0]) (ty := (.array .int)) (dsn := (((fY.take 48).set 0 (0, 12, [5, 7, 17, 28, 31, 37, 2, 2, 2, 2, 2, 2])).set 46 (0, 8, [2, 2, 51, 2, 2, 2, 2, 2, 2, 2, 2, 2, 2, 2, 0]))) dX6_init_9 yl_6_9 yt_6_2 (by decide) (by decide +kernel) (by decide) (by decide +kernel) ?_
  refine y_aload_n X dX6_init_12 rfl 0 rfl ?_
  refine y_newB X 1 120 (v := 120) (h := 52) (dsn := (((fY.take 49).set 0 (0, 12, [5, 7, 17, 28, 31, 37, 2, 2, 2, 2, 2, 2])).set 46 (0, 8, [2, 2, 51, 2, 2, 2, 2, 2, 2, 2, 2, 2, 2, 2, 0]))) dX6_init_13 (by decide) dX6_init_15 rfl (by decide) (by decide) (by decide) (by decide) (by decide) (by decide +kernel) (by decide) (by decide +kernel) (by decide +kernel) ?_
  refine y_put Y (k := 46) (fs := [2, 2, 51, 2, 2, 2, 2, 2, 2, 2, 2, 2, 2, 2, 0]) (ty := (.array .int)) (dsn := (((fY.take 49).set 0 (0, 12, [5, 7, 17, 28, 31, 37, 2, 2, 2, 2, 2, 2])).set 46 (0, 8, [2, 2, 51, 52, 2, 2, 2, 2, 2, 2, 2, 2, 2, 2, 0]))) dX6_init_17 yl_6_15 yt_6_3 (by decide) (by decide +kernel) (by decide) (by decide +kernel) ?_
  refine y_aload_n X dX6_init_20 rfl 0 rfl ?_
  refine y_newB X 1 120 (v := 120) (h := 53) (dsn := (((fY.take 50).set 0 (0, 12, [5, 7, 17, 28, 31, 37, 2, 2, 2, 2, 2, 2])).set 46 (0, 8, [2, 2, 51, 52, 2, 2, 2, 2, 2, 2, 2, 2, 2, 2, 0]))) dX6_init_21 (by decide) dX6_init_23 rfl (by decide) (by decide) (by decide) (by decide) (by decide) (by decide +kernel) (by decide) (by decide +kernel) (by decide +kernel) ?_
  refine y_put Y (k := 46) (fs := [2, 2, 51, 52, 2, 2, 2, 2, 2, 2, 2, 2, 2, 2, 0]) (ty := (.array .int)) (dsn := (((fY.take 50).set 0 (0, 12, [5, 7, 17, 28, 31, 37, 2, 2, 2, 2, 2, 2])).set 46 (0, 8, [2, 2, 51, 52, 53, 2, 2, 2, 2, 2, 2, 2, 2, 2, 0]))) dX6_init_25 yl_6_18 yt_6_4 (by decide) (by decide +kernel) (by decide) (by decide +kernel) ?_
  refine y_aload_n X dX6_init_28 rfl 0 rfl ?_
  refine y_newB X 1 120 (v := 120) (h := 54) (dsn := (((fY.take 51).set 0 (0, 12, [5, 7, 17, 28, 31, 37, 2, 2, 2, 2, 2, 2])).set 46 (0, 8, [2, 2, 51, 52, 53, 2, 2, 2, 2, 2, 2, 2, 2, 2, 0]))) dX6_init_29 (by decide) dX6_init_31 rfl (by decide) (by decide) (by decide) (by decide) (by decide) (by decide +kernel) (by decide) (by decide +kernel) (by decide +kernel) ?_
  refine y_put Y (k := 46) (fs := [2, 2, 51, 52, 53, 2, 2, 2, 2, 2, 2, 2, 2, 2, 0]) (ty := (.array .int)) (dsn := (((fY.take 51).set 0 (0, 12, [5, 7, 17, 28, 31, 37, 2, 2, 2, 2, 2, 2])).set 46 (0, 8, [2, 2, 51, 52, 53, 54, 2, 2, 2, 2, 2, 2, 2, 2, 0]))) dX6_init_33 yl_6_21 yt_6_5 (by decide) (by decide +kernel) (by decide) (by decide +kernel) ?_
  refine y_aload_n X dX6_init_36 rfl 0 rfl ?_
  refine y_newB X 1 120 (v := 120) (h := 55) (dsn := (((fY.take 52).set 0 (0, 12, [5, 7, 17, 28, 31, 37, 2, 2, 2, 2, 2, 2])).set 46 (0, 8, [2, 2, 51, 52, 53, 54, 2, 2, 2, 2, 2, 2, 2, 2, 0]))) dX6_init_37 (by decide) dX6_init_39 rfl (by decide) (by decide) (by decide) (by decide) (by decide) (by decide +kernel) (by decide) (by decide +kernel) (by decide +kernel) ?_
  refine y_put Y (k := 46) (fs := [2, 2, 51, 52, 53, 54, 2, 2, 2, 2, 2, 2, 2, 2, 0]) (ty := (.array .int)) (dsn := (((fY.take 52).set 0 (0, 12, [5, 7, 17, 28, 31, 37, 2, 2, 2, 2, 2, 2])).set 46 (0, 8, [2, 2, 51, 52, 53, 54, 55, 2, 2, 2, 2, 2, 2, 2, 0]))) dX6_init_41 yl_6_24 yt_6_6 (by decide) (by decide +kernel) (by decide) (by decide +kernel) ?_
  refine y_aload_n X dX6_init_44 rfl 0 rfl ?_
  refine y_newB X 1 120 (v := 120) (h := 56) (dsn := (((fY.take 53).set 0 (0, 12, [5, 7, 17, 28, 31, 37, 2, 2, 2, 2, 2, 2])).set 46 (0, 8, [2, 2, 51, 52, 53, 54, 55, 2, 2, 2, 2, 2, 2, 2, 0]))) dX6_init_45 (by decide) dX6_init_47 rfl (by decide) (by decide) (by decide) (by decide) (by decide) (by decide +kernel) (by decide) (by decide +kernel) (by decide +kernel) ?_
  refine y_put Y (k := 46) (fs := [2, 2, 51, 52, 53, 54, 55, 2, 2, 2, 2, 2, 2, 2, 0]) (ty := (.array .int)) (dsn := (((fY.take 53).set 0 (0, 12, [5, 7, 17, 28, 31, 37, 2, 2, 2, 2, 2, 2])).set 46 (0, 8, [2, 2, 51, 52, 53, 54, 55, 56, 2, 2, 2, 2, 2, 2, 0]))) dX6_init_49 yl_6_27 yt_6_7 (by decide) (by decide +kernel) (by decide) (by decide +kernel) ?_
  refine y_aload_n X dX6_init_52 rfl 0 rfl ?_
  refine y_newB X 1 120 (v := 120) (h := 57) (dsn := (((fY.take 54).set 0 (0, 12, [5, 7, 17, 28, 31, 37, 2, 2, 2, 2, 2, 2])).set 46 (0, 8, [2, 2, 51, 52, 53, 54, 55, 56, 2, 2, 2, 2, 2, 2, 0]))) dX6_init_53 (by decide) dX6_init_55 rfl (by decide) (by decide) (by decide) (by decide) (by decide) (by decide +kernel) (by decide) (by decide +kernel) (by decide +kernel) ?_
  refine y_put Y (k := 46) (fs := [2, 2, 51, 52, 53, 54, 55, 56, 2, 2, 2, 2, 2, 2, 0]) (ty := (.array .int)) (dsn := (((fY.take 54).set 0 (0, 12, [5, 7, 17, 28, 31, 37, 2, 2, 2, 2, 2, 2])).set 46 (0, 8, [2, 2, 51, 52, 53, 54, 55, 56, 57, 2, 2, 2, 2, 2, 0]))) dX6_init_57 yl_6_30 yt_6_8 (by decide) (by decide +kernel) (by decide) (by decide +kernel) ?_
  refine y_aload_n X dX6_init_60 rfl 0 rfl ?_
  refine y_newB X 1 120 (v := 120) (h := 58) (dsn := (((fY.take 55).set 0 (0, 12, [5, 7, 17, 28, 31, 37, 2, 2, 2, 2, 2, 2])).set 46 (0, 8, [2, 2, 51, 52, 53, 54, 55, 56, 57, 2, 2, 2, 2, 2, 0]))) dX6_init_61 (by decide) dX6_init_63 rfl (by decide) (by decide) (by decide) (by decide) (by decide) (by decide +kernel) (by decide) (by decide +kernel) (by decide +kernel) ?_
  refine y_put Y (k := 46) (fs := [2, 2, 51, 52, 53, 54, 55, 56, 57, 2, 2, 2, 2, 2, 0]) (ty := (.array .int)) (dsn := (((fY.take 55).set 0 (0, 12, [5, 7, 17, 28, 31, 37, 2, 2, 2, 2, 2, 2])).set 46 (0, 8, [2, 2, 51, 52, 53, 54, 55, 56, 57, 58, 2, 2, 2, 2, 0]))) dX6_init_65 yl_6_33 yt_6_9 (by decide) (by decide +kernel) (by decide) (by decide +kernel) ?_
  refine y_aload_n X dX6_init_68 rfl 0 rfl ?_
  refine y_newB X 1 120 (v := 120) (h := 59) (dsn := (((fY.take 56).set 0 (0, 12, [5, 7, 17, 28, 31, 37, 2, 2, 2, 2, 2, 2])).set 46 (0, 8, [2, 2, 51, 52, 53, 54, 55, 56, 57, 58, 2, 2, 2, 2, 0]))) dX6_init_69 (by decide) dX6_init_71 rfl (by decide) (by decide) (by decide) (by decide) (by decide) (by decide +kernel) (by decide) (by decide +kernel) (by decide +kernel) ?_
  refine y_put Y (k := 46) (fs := [2, 2, 51, 52, 53, 54, 55, 56, 57, 58, 2, 2, 2, 2, 0]) (ty := (.array .int)) (dsn := (((fY.take 56).set 0 (0, 12, [5, 7, 17, 28, 31, 37, 2, 2, 2, 2, 2, 2])).set 46 (0, 8, [2, 2, 51, 52, 53, 54, 55, 56, 57, 58, 59, 2, 2, 2, 0]))) dX6_init_73 yl_6_36 yt_6_10 (by decide) (by decide +kernel) (by decide) (by decide +kernel) ?_
  refine y_aload_n X dX6_init_76 rfl 0 rfl ?_
  refine y_newB X 1 120 (v := 120) (h := 60) (dsn := (((fY.take 57).set 0 (0, 12, [5, 7, 17, 28, 31, 37, 2, 2, 2, 2, 2, 2])).set 46 (0, 8, [2, 2, 51, 52, 53, 54, 55, 56, 57, 58, 59, 2, 2, 2, 0]))) dX6_init_77 (by decide) dX6_init_79 rfl (by decide) (by decide) (by decide) (by decide) (by decide) (by decide +kernel) (by decide) (by decide +kernel) (by decide +kernel) ?_
  refine y_put Y (k := 46) (fs := [2, 2, 51, 52, 53, 54, 55, 56, 57, 58, 59, 2, 2, 2, 0]) (ty := (.array .int)) (dsn := (((fY.take 57).set 0 (0, 12, [5, 7, 17, 28, 31, 37, 2, 2, 2, 2, 2, 2])).set 46 (0, 8, [2, 2, 51, 52, 53, 54, 55, 56, 57, 58, 59, 60, 2, 2, 0]))) dX6_init_81 yl_6_39 yt_6_11 (by decide) (by decide +kernel) (by decide) (by decide +kernel) ?_
  refine y_aload_n X dX6_init_84 rfl 0 rfl ?_
  refine y_newB X 1 120 (v := 120) (h := 61) (dsn := (((fY.take 58).set 0 (0, 12, [5, 7, 17, 28, 31, 37, 2, 2, 2, 2, 2, 2])).set 46 (0, 8, [2, 2, 51, 52, 53, 54, 55, 56, 57, 58, 59, 60, 2, 2, 0]))) dX6_init_85 (by decide) dX6_init_87 rfl (by decide) (by decide) (by decide) (by decide) (by decide) (by decide +kernel) (by decide) (by decide +kernel) (by decide +kernel) ?_
  refine y_put Y (k := 46) (fs := [2, 2, 51, 52, 53, 54, 55, 56, 57, 58, 59, 60, 2, 2, 0]) (ty := (.array .int)) (dsn := (((fY.take 58).set 0 (0, 12, [5, 7, 17, 28, 31, 37, 2, 2, 2, 2, 2, 2])).set 46 (0, 8, [2, 2, 51, 52, 53, 54, 55, 56, 57, 58, 59, 60, 61, 2, 0]))) dX6_init_89 yl_6_42 yt_6_12 (by decide) (by decide +kernel) (by decide) (by decide +kernel) ?_
  refine y_aload_n X dX6_init_92 rfl 0 rfl ?_
  refine y_newB X 2 120 (v := 120) (h := 62) (dsn := (((fY.take 59).set 0 (0, 12, [5, 7, 17, 28, 31, 37, 2, 2, 2, 2, 2, 2])).set 46 (0, 8, [2, 2, 51, 52, 53, 54, 55, 56, 57, 58, 59, 60, 61, 2, 0]))) dX6_init_93 (by decide) dX6_init_95 rfl (by decide) (by decide) (by decide) (by decide) (by decide) (by decide +kernel) (by decide) (by decide +kernel) (by decide +kernel) ?_
  refine y_put Y (k := 46) (fs := [2, 2, 51, 52, 53, 54, 55, 56, 57, 58, 59, 60, 61, 2, 0]) (ty := (.array .boolean)) (dsn := (((fY.take 59).set 0 (0, 12, [5, 7, 17, 28, 31, 37, 2, 2, 2, 2, 2, 2])).set 46 (0, 8, [2, 2, 51, 52, 53, 54, 55, 56, 57, 58, 59, 60, 61, 62, 0]))) dX6_init_97 yl_6_45 yt_6_13 (by decide) (by decide +kernel) (by decide) (by decide +kernel) ?_
  refine y_aload_n X dX6_init_100 rfl 0 rfl ?_
  refine y_iconst X 0 dX6_init_101 (fun _ => rfl) ?_
  refine y_put Y (k := 46) (fs := [2, 2, 51, 52, 53, 54, 55, 56, 57, 58, 59, 60, 61, 62, 0]) (ty := .int) (dsn := (((fY.take 59).set 0 (0, 12, [5, 7, 17, 28, 31, 37, 2, 2, 2, 2, 2, 2])).set 46 (0, 8, [2, 2, 51, 52, 53, 54, 55, 56, 57, 58, 59, 60, 61, 62, 0]))) dX6_init_102 yl_6_49 yt_6_14 (by decide) (by decide +kernel) (by decide) (by decide +kernel) ?_
  refine y_aload_n X dX6_init_105 rfl 0 rfl ?_
  refine y_aload_n X dX6_init_106 rfl 1 rfl ?_
  refine y_put Y (k := 46) (fs := [2, 2, 51, 52, 53, 54, 55, 56, 57, 58, 59, 60, 61, 62, 0]) (ty := (.object "TruckPlatoons$Fleet")) (dsn := (((fY.take 59).set 0 (0, 12, [5, 7, 17, 28, 31, 37, 2, 2, 2, 2, 2, 2])).set 46 (0, 8, [7, 2, 51, 52, 53, 54, 55, 56, 57, 58, 59, 60, 61, 62, 0]))) dX6_init_107 yl_6_53 yt_6_0 (by decide) (by decide +kernel) (by decide) (by decide +kernel) ?_
  refine y_aload_n X dX6_init_110 rfl 0 rfl ?_
  refine y_aload_n X dX6_init_111 rfl 2 rfl ?_
  refine y_put Y (k := 46) (fs := [7, 2, 51, 52, 53, 54, 55, 56, 57, 58, 59, 60, 61, 62, 0]) (ty := (.object "TruckPlatoons$Routes")) (dsn := ((fY.take 59).set 0 (0, 12, [5, 7, 17, 28, 31, 37, 2, 2, 2, 2, 2, 2]))) dX6_init_112 yl_6_57 yt_6_1 (by decide) (by decide +kernel) (by decide) (by decide +kernel) ?_
  exact y_ret Y dX6_init_115 ⟨rfl, rfl, rfl⟩
set_option maxRecDepth 100000 in
set_option maxHeartbeats 4000000 in
theorem yk4_0 : y_Met yX4_init cX4_init 5 1 0 0 (((fY.take 60).set 0 (0, 12, [5, 7, 17, 28, 31, 37, 50, 2, 2, 2, 2, 2])).set 59 (0, 6, [2, 2, 2, 2, 0, 0, 0])) [63, 7, 31, 37, 50] ((fY.take 60).set 0 (0, 12, [5, 7, 17, 28, 31, 37, 50, 2, 2, 2, 2, 2])) := by
  refine y_met (by decide +kernel) rfl (by decide) (by decide) (fun V Y => ?_)
  have Y : y_IsC V cX4_init 5 RX4 60 1 0 0 ((fY.take 60).set 0 (0, 12, [5, 7, 17, 28, 31, 37, 50, 2, 2, 2, 2, 2])) := Y
  have X := y_isC Y
  show V _ 0 0 0 [(0, 63), (1, 7), (2, 31), (3, 37), (4, 50)] []
  refine y_aload_n X dX4_init_0 rfl 0 rfl ?_
  refine y_objInit X dX4_init_1 w_2_49 w_1_35 w_1_36 (by decide) ?_
  refine y_aload_n X dX4_init_4 rfl 0 rfl ?_
  refine y_iconst X 1 dX4_init_5 (fun _ => rfl) ?_
  refine y_put Y (k := 59) (fs := [2, 2, 2, 2, 0, 0, 0]) (ty := .int) (dsn := (((fY.take 60).set 0 (0, 12, [5, 7, 17, 28, 31, 37, 50, 2, 2, 2, 2, 2])).set 59 (0, 6, [2, 2, 2, 2, 1, 0, 0]))) dX4_init_6 yl_4_9 yt_4_4 (by decide) (by decide +kernel) (by decide) (by decide +kernel) ?_
  refine y_aload_n X dX4_init_9 rfl 0 rfl ?_
  refine y_iconst X 1 dX4_init_10 (fun _ => rfl) ?_
  refine y_put Y (k := 59) (fs := [2, 2, 2, 2, 1, 0, 0]) (ty := .int) (dsn := (((fY.take 60).set 0 (0, 12, [5, 7, 17, 28, 31, 37, 50, 2, 2, 2, 2, 2])).set 59 (0, 6, [2, 2, 2, 2, 1, 1, 0]))) dX4_init_11 yl_4_15 yt_4_5 (by decide) (by decide +kernel) (by decide) (by decide +kernel) ?_
  refine y_aload_n X dX4_init_14 rfl 0 rfl ?_
  refine y_iconst X 0 dX4_init_15 (fun _ => rfl) ?_
  refine y_put Y (k := 59) (fs := [2, 2, 2, 2, 1, 1, 0]) (ty := .int) (dsn := (((fY.take 60).set 0 (0, 12, [5, 7, 17, 28, 31, 37, 50, 2, 2, 2, 2, 2])).set 59 (0, 6, [2, 2, 2, 2, 1, 1, 0]))) dX4_init_16 yl_4_18 yt_4_6 (by decide) (by decide +kernel) (by decide) (by decide +kernel) ?_
  refine y_aload_n X dX4_init_19 rfl 0 rfl ?_
  refine y_aload_n X dX4_init_20 rfl 1 rfl ?_
  refine y_put Y (k := 59) (fs := [2, 2, 2, 2, 1, 1, 0]) (ty := (.object "TruckPlatoons$Fleet")) (dsn := (((fY.take 60).set 0 (0, 12, [5, 7, 17, 28, 31, 37, 50, 2, 2, 2, 2, 2])).set 59 (0, 6, [7, 2, 2, 2, 1, 1, 0]))) dX4_init_21 yl_4_21 yt_4_0 (by decide) (by decide +kernel) (by decide) (by decide +kernel) ?_
  refine y_aload_n X dX4_init_24 rfl 0 rfl ?_
  refine y_aload_n X dX4_init_25 rfl 2 rfl ?_
  refine y_put Y (k := 59) (fs := [7, 2, 2, 2, 1, 1, 0]) (ty := (.object "TruckPlatoons$Routes")) (dsn := (((fY.take 60).set 0 (0, 12, [5, 7, 17, 28, 31, 37, 50, 2, 2, 2, 2, 2])).set 59 (0, 6, [7, 31, 2, 2, 1, 1, 0]))) dX4_init_26 yl_4_25 yt_4_1 (by decide) (by decide +kernel) (by decide) (by decide +kernel) ?_
  refine y_aload_n X dX4_init_29 rfl 0 rfl ?_
  refine y_aload_n X dX4_init_30 rfl 3 rfl ?_
  refine y_put Y (k := 59) (fs := [7, 31, 2, 2, 1, 1, 0]) (ty := (.object "TruckPlatoons$Plan")) (dsn := (((fY.take 60).set 0 (0, 12, [5, 7, 17, 28, 31, 37, 50, 2, 2, 2, 2, 2])).set 59 (0, 6, [7, 31, 37, 2, 1, 1, 0]))) dX4_init_31 yl_4_29 yt_4_2 (by decide) (by decide +kernel) (by decide) (by decide +kernel) ?_
  refine y_aload_n X dX4_init_34 rfl 0 rfl ?_
  refine y_aload X dX4_init_35 4 rfl ?_
  refine y_put Y (k := 59) (fs := [7, 31, 37, 2, 1, 1, 0]) (ty := (.object "TruckPlatoons$Plan")) (dsn := ((fY.take 60).set 0 (0, 12, [5, 7, 17, 28, 31, 37, 50, 2, 2, 2, 2, 2]))) dX4_init_37 yl_4_33 yt_4_3 (by decide) (by decide +kernel) (by decide) (by decide +kernel) ?_
  exact y_ret Y dX4_init_40 ⟨rfl, rfl, rfl⟩
set_option maxRecDepth 100000 in
set_option maxHeartbeats 4000000 in
theorem yk0_0 : y_Met yX0_init cX0_init 2 1 2 12 (((fY.take 61).set 0 (0, 12, [5, 7, 17, 28, 31, 37, 50, 63, 2, 2, 2, 2])).set 60 (0, 2, [2, 2, 0, 2, 0])) [64, 37] ((fY.take 63).set 0 (0, 12, [5, 7, 17, 28, 31, 37, 50, 63, 2, 2, 2, 2])) := by
  refine y_met (by decide +kernel) rfl (by decide) (by decide) (fun V Y => ?_)
  have Y : y_IsC V cX0_init 2 RX0 61 1 2 12 ((fY.take 63).set 0 (0, 12, [5, 7, 17, 28, 31, 37, 50, 63, 2, 2, 2, 2])) := Y
  have X := y_isC Y
  show V _ 0 0 0 [(0, 64), (1, 37)] []
  refine y_aload_n X dX0_init_0 rfl 0 rfl ?_
  refine y_objInit X dX0_init_1 w_2_80 w_1_35 w_1_36 (by decide) ?_
  refine y_aload_n X dX0_init_4 rfl 0 rfl ?_
  refine y_newB X 1 6 (v := 6) (h := 65) (dsn := (((fY.take 62).set 0 (0, 12, [5, 7, 17, 28, 31, 37, 50, 63, 2, 2, 2, 2])).set 60 (0, 2, [2, 2, 0, 2, 0]))) dX0_init_5 (by decide) dX0_init_7 rfl (by decide) (by decide) (by decide) (by decide) (by decide) (by decide +kernel) (by decide) (by decide +kernel) (by decide +kernel) ?_
  refine y_put Y (k := 60) (fs := [2, 2, 0, 2, 0]) (ty := (.array .int)) (dsn := (((fY.take 62).set 0 (0, 12, [5, 7, 17, 28, 31, 37, 50, 63, 2, 2, 2, 2])).set 60 (0, 2, [2, 65, 0, 2, 0]))) dX0_init_9 yl_0_9 yt_0_1 (by decide) (by decide +kernel) (by decide) (by decide +kernel) ?_
  refine y_aload_n X dX0_init_12 rfl 0 rfl ?_
  refine y_iconst X 0 dX0_init_13 (fun _ => rfl) ?_
  refine y_put Y (k := 60) (fs := [2, 65, 0, 2, 0]) (ty := .int) (dsn := (((fY.take 62).set 0 (0, 12, [5, 7, 17, 28, 31, 37, 50, 63, 2, 2, 2, 2])).set 60 (0, 2, [2, 65, 0, 2, 0]))) dX0_init_14 yl_0_15 yt_0_2 (by decide) (by decide +kernel) (by decide) (by decide +kernel) ?_
  refine y_aload_n X dX0_init_17 rfl 0 rfl ?_
  refine y_newB X 1 6 (v := 6) (h := 66) (dsn := (((fY.take 63).set 0 (0, 12, [5, 7, 17, 28, 31, 37, 50, 63, 2, 2, 2, 2])).set 60 (0, 2, [2, 65, 0, 2, 0]))) dX0_init_18 (by decide) dX0_init_20 rfl (by decide) (by decide) (by decide) (by decide) (by decide) (by decide +kernel) (by decide) (by decide +kernel) (by decide +kernel) ?_
  refine y_put Y (k := 60) (fs := [2, 65, 0, 2, 0]) (ty := (.array .int)) (dsn := (((fY.take 63).set 0 (0, 12, [5, 7, 17, 28, 31, 37, 50, 63, 2, 2, 2, 2])).set 60 (0, 2, [2, 65, 0, 66, 0]))) dX0_init_22 yl_0_19 yt_0_3 (by decide) (by decide +kernel) (by decide) (by decide +kernel) ?_
  refine y_aload_n X dX0_init_25 rfl 0 rfl ?_
  refine y_iconst X 0 dX0_init_26 (fun _ => rfl) ?_
  refine y_put Y (k := 60) (fs := [2, 65, 0, 66, 0]) (ty := .int) (dsn := (((fY.take 63).set 0 (0, 12, [5, 7, 17, 28, 31, 37, 50, 63, 2, 2, 2, 2])).set 60 (0, 2, [2, 65, 0, 66, 0]))) dX0_init_27 yl_0_22 yt_0_4 (by decide) (by decide +kernel) (by decide) (by decide +kernel) ?_
  refine y_aload_n X dX0_init_30 rfl 0 rfl ?_
  refine y_aload_n X dX0_init_31 rfl 1 rfl ?_
  refine y_put Y (k := 60) (fs := [2, 65, 0, 66, 0]) (ty := (.object "TruckPlatoons$Plan")) (dsn := ((fY.take 63).set 0 (0, 12, [5, 7, 17, 28, 31, 37, 50, 63, 2, 2, 2, 2]))) dX0_init_32 yl_0_25 yt_0_0 (by decide) (by decide +kernel) (by decide) (by decide +kernel) ?_
  exact y_ret Y dX0_init_35 ⟨rfl, rfl, rfl⟩
set_option maxRecDepth 100000 in
set_option maxHeartbeats 4000000 in
theorem yk2_0 : y_Met yX2_init cX2_init 1 1 20 4303 (((fY.take 64).set 0 (0, 12, [5, 7, 17, 28, 31, 37, 50, 63, 64, 2, 2, 2])).set 63 (0, 4, [2, 0, 0, 2, 2])) [67] ((fY.take 84).set 0 (0, 12, [5, 7, 17, 28, 31, 37, 50, 63, 64, 2, 2, 2])) := by
  refine y_met (by decide +kernel) rfl (by decide) (by decide) (fun V Y => ?_)
  have Y : y_IsC V cX2_init 1 RX2 64 1 20 4303 ((fY.take 84).set 0 (0, 12, [5, 7, 17, 28, 31, 37, 50, 63, 64, 2, 2, 2])) := Y
  have X := y_isC Y
  show V _ 0 0 0 [(0, 67)] []
  refine y_aload_n X dX2_init_0 rfl 0 rfl ?_
  refine y_objInit X dX2_init_1 w_2_104 w_1_35 w_1_36 (by decide) ?_
  refine y_aload_n X dX2_init_4 rfl 0 rfl ?_
  refine y_mnaB X (N := 15) (K := 252) (n := 15) (k := 252) (h := 68) (dsn := (((fY.take 80).set 0 (0, 12, [5, 7, 17, 28, 31, 37, 50, 63, 64, 2, 2, 2])).set 63 (0, 4, [2, 0, 0, 2, 2]))) dX2_init_5 (by decide) dX2_init_7 (by decide) dX2_init_10 w_2_105 (by decide) (by decide) (by decide) (by decide) (by decide) (by decide) (by decide +kernel) (by decide) (by decide +kernel) (by decide +kernel) (by decide +kernel) ?_
  refine y_put Y (k := 63) (fs := [2, 0, 0, 2, 2]) (ty := (.array (.array .int))) (dsn := (((fY.take 80).set 0 (0, 12, [5, 7, 17, 28, 31, 37, 50, 63, 64, 2, 2, 2])).set 63 (0, 4, [68, 0, 0, 2, 2]))) dX2_init_14 yl_2_13 yt_2_0 (by decide) (by decide +kernel) (by decide) (by decide +kernel) ?_
  refine y_aload_n X dX2_init_17 rfl 0 rfl ?_
  refine y_iconst X 0 dX2_init_18 (fun _ => rfl) ?_
  refine y_put Y (k := 63) (fs := [68, 0, 0, 2, 2]) (ty := .int) (dsn := (((fY.take 80).set 0 (0, 12, [5, 7, 17, 28, 31, 37, 50, 63, 64, 2, 2, 2])).set 63 (0, 4, [68, 0, 0, 2, 2]))) dX2_init_19 yl_2_16 yt_2_1 (by decide) (by decide +kernel) (by decide) (by decide +kernel) ?_
  refine y_aload_n X dX2_init_22 rfl 0 rfl ?_
  refine y_iconst X 0 dX2_init_23 (fun _ => rfl) ?_
  refine y_put Y (k := 63) (fs := [68, 0, 0, 2, 2]) (ty := .int) (dsn := (((fY.take 80).set 0 (0, 12, [5, 7, 17, 28, 31, 37, 50, 63, 64, 2, 2, 2])).set 63 (0, 4, [68, 0, 0, 2, 2]))) dX2_init_24 yl_2_20 yt_2_2 (by decide) (by decide +kernel) (by decide) (by decide +kernel) ?_
  refine y_aload_n X dX2_init_27 rfl 0 rfl ?_
  refine y_mnaI X (N := 2) (K := 252) (n := 2) (k := 252) (h := 84) (dsn := (((fY.take 83).set 0 (0, 12, [5, 7, 17, 28, 31, 37, 50, 63, 64, 2, 2, 2])).set 63 (0, 4, [68, 0, 0, 2, 2]))) dX2_init_28 (by decide) dX2_init_29 (by decide) dX2_init_32 w_2_105 (by decide) (by decide) (by decide) (by decide) (by decide) (by decide) (by decide +kernel) (by decide) (by decide +kernel) (by decide +kernel) (by decide +kernel) ?_
  refine y_put Y (k := 63) (fs := [68, 0, 0, 2, 2]) (ty := (.array (.array .int))) (dsn := (((fY.take 83).set 0 (0, 12, [5, 7, 17, 28, 31, 37, 50, 63, 64, 2, 2, 2])).set 63 (0, 4, [68, 0, 0, 84, 2]))) dX2_init_36 yl_2_23 yt_2_3 (by decide) (by decide +kernel) (by decide) (by decide +kernel) ?_
  refine y_aload_n X dX2_init_39 rfl 0 rfl ?_
  refine y_newI X 2 2 (v := 2) (h := 87) (dsn := (((fY.take 84).set 0 (0, 12, [5, 7, 17, 28, 31, 37, 50, 63, 64, 2, 2, 2])).set 63 (0, 4, [68, 0, 0, 84, 2]))) dX2_init_40 (by decide) dX2_init_41 rfl (by decide) (by decide) (by decide) (by decide) (by decide) (by decide +kernel) (by decide) (by decide +kernel) (by decide +kernel) ?_
  refine y_put Y (k := 63) (fs := [68, 0, 0, 84, 2]) (ty := (.array .boolean)) (dsn := ((fY.take 84).set 0 (0, 12, [5, 7, 17, 28, 31, 37, 50, 63, 64, 2, 2, 2]))) dX2_init_43 yl_2_26 yt_2_4 (by decide) (by decide +kernel) (by decide) (by decide +kernel) ?_
  exact y_ret Y dX2_init_46 ⟨rfl, rfl, rfl⟩
set_option maxRecDepth 100000 in
set_option maxHeartbeats 4000000 in
theorem yk5_0 : y_Met yX5_init cX5_init 1 1 1 130 (((fY.take 85).set 0 (0, 12, [5, 7, 17, 28, 31, 37, 50, 63, 64, 67, 2, 2])).set 84 (0, 7, [2, 0])) [88] ((fY.take 86).set 0 (0, 12, [5, 7, 17, 28, 31, 37, 50, 63, 64, 67, 2, 2])) := by
  refine y_met (by decide +kernel) rfl (by decide) (by decide) (fun V Y => ?_)
  have Y : y_IsC V cX5_init 1 RX5 85 1 1 130 ((fY.take 86).set 0 (0, 12, [5, 7, 17, 28, 31, 37, 50, 63, 64, 67, 2, 2])) := Y
  have X := y_isC Y
  show V _ 0 0 0 [(0, 88)] []
  refine y_aload_n X dX5_init_0 rfl 0 rfl ?_
  refine y_objInit X dX5_init_1 w_2_130 w_1_35 w_1_36 (by decide) ?_
  refine y_aload_n X dX5_init_4 rfl 0 rfl ?_
  refine y_newS X 3 130 (v := 130) (h := 89) (dsn := (((fY.take 86).set 0 (0, 12, [5, 7, 17, 28, 31, 37, 50, 63, 64, 67, 2, 2])).set 84 (0, 7, [2, 0]))) dX5_init_5 (by decide) dX5_init_8 rfl (by decide) (by decide) (by decide) (by decide) (by decide) (by decide +kernel) (by decide) (by decide +kernel) (by decide +kernel) ?_
  refine y_put Y (k := 84) (fs := [2, 0]) (ty := (.array .byte)) (dsn := ((fY.take 86).set 0 (0, 12, [5, 7, 17, 28, 31, 37, 50, 63, 64, 67, 2, 2]))) dX5_init_10 yl_5_11 yt_5_0 (by decide) (by decide +kernel) (by decide) (by decide +kernel) ?_
  refine y_aload_n X dX5_init_13 rfl 0 rfl ?_
  refine y_iconst X 0 dX5_init_14 (fun _ => rfl) ?_
  refine y_put Y (k := 84) (fs := [89, 0]) (ty := .int) (dsn := ((fY.take 86).set 0 (0, 12, [5, 7, 17, 28, 31, 37, 50, 63, 64, 67, 2, 2]))) dX5_init_15 yl_5_15 yt_5_1 (by decide) (by decide +kernel) (by decide) (by decide +kernel) ?_
  exact y_ret Y dX5_init_18 ⟨rfl, rfl, rfl⟩
set_option maxRecDepth 100000 in
set_option maxHeartbeats 4000000 in
theorem yk10_0 : y_Met yX10_init cX10_init 1 3 86 11137 ((fY.take 1).set 0 (0, 12, [2, 2, 2, 2, 2, 2, 2, 2, 2, 2, 2, 2])) [4] (fY.take 87) := by
  refine y_met (by decide +kernel) rfl (by decide) (by decide) (fun V Y => ?_)
  have Y : y_IsC V cX10_init 1 RX10 1 3 86 11137 (fY.take 87) := Y
  have X := y_isC Y
  show V _ 0 0 0 [(0, 4)] []
  refine y_aload_n X dX10_init_0 rfl 0 rfl ?_
  refine y_objInit X dX10_init_1 w_1_34 w_1_35 w_1_36 (by decide) ?_
  refine y_aload_n X dX10_init_4 rfl 0 rfl ?_
  refine y_new X (h := 5) (dsn := (((fY.take 2).set 0 (0, 12, [2, 2, 2, 2, 2, 2, 2, 2, 2, 2, 2, 2])).set 1 (0, 11, [2, 0, 0, 0, 0, 0, 0, 0]))) dX10_init_5 yo_10_9 (by decide) (by decide +kernel) (by decide) (by decide +kernel) (by decide +kernel) ?_
  refine y_dup X dX10_init_8 ?_
  refine y_callI X (k := 1) (As := []) [5, 4] dX10_init_9 yk9_0 ym_9 w_1_40 rfl (Or.inr (List.mem_of_getElem? (i := 0) rfl)) (by decide) (by decide) rfl (by decide) (by decide +kernel) (by decide) ?_
  refine y_put Y (k := 0) (fs := [2, 2, 2, 2, 2, 2, 2, 2, 2, 2, 2, 2]) (ty := (.object "TruckPlatoons$Text")) (dsn := ((fY.take 3).set 0 (0, 12, [5, 2, 2, 2, 2, 2, 2, 2, 2, 2, 2, 2]))) dX10_init_12 yl_10_12 yt_10_0 (by decide) (by decide +kernel) (by decide) (by decide +kernel) ?_
  refine y_aload_n X dX10_init_15 rfl 0 rfl ?_
  refine y_new X (h := 7) (dsn := (((fY.take 4).set 0 (0, 12, [5, 2, 2, 2, 2, 2, 2, 2, 2, 2, 2, 2])).set 3 (0, 3, [0, 2, 2, 2, 2, 0, 2, 2, 2, 2, 2]))) dX10_init_16 yo_10_16 (by decide) (by decide +kernel) (by decide) (by decide +kernel) (by decide +kernel) ?_
  refine y_dup X dX10_init_19 ?_
  refine y_callI X (k := 3) (As := []) [7, 4] dX10_init_20 yk1_0 ym_1 w_1_79 rfl (Or.inr (List.mem_of_getElem? (i := 1) rfl)) (by decide) (by decide) rfl (by decide) (by decide +kernel) (by decide) ?_
  refine y_put Y (k := 0) (fs := [5, 2, 2, 2, 2, 2, 2, 2, 2, 2, 2, 2]) (ty := (.object "TruckPlatoons$Fleet")) (dsn := ((fY.take 13).set 0 (0, 12, [5, 7, 2, 2, 2, 2, 2, 2, 2, 2, 2, 2]))) dX10_init_23 yl_10_19 yt_10_1 (by decide) (by decide +kernel) (by decide) (by decide +kernel) ?_
  refine y_aload_n X dX10_init_26 rfl 0 rfl ?_
  refine y_new X (h := 17) (dsn := (((fY.take 14).set 0 (0, 12, [5, 7, 2, 2, 2, 2, 2, 2, 2, 2, 2, 2])).set 13 (0, 5, [2]))) dX10_init_27 yo_10_23 (by decide) (by decide +kernel) (by decide) (by decide +kernel) (by decide +kernel) ?_
  refine y_dup X dX10_init_30 ?_
  refine y_callI X (k := 13) (As := []) [17, 4] dX10_init_31 yk3_0 ym_3 w_1_155 rfl (Or.inr (List.mem_of_getElem? (i := 2) rfl)) (by decide) (by decide) rfl (by decide) (by decide +kernel) (by decide) ?_
  refine y_put Y (k := 0) (fs := [5, 7, 2, 2, 2, 2, 2, 2, 2, 2, 2, 2]) (ty := (.object "TruckPlatoons$Loader")) (dsn := ((fY.take 24).set 0 (0, 12, [5, 7, 17, 2, 2, 2, 2, 2, 2, 2, 2, 2]))) dX10_init_34 yl_10_26 yt_10_2 (by decide) (by decide +kernel) (by decide) (by decide +kernel) ?_
  refine y_aload_n X dX10_init_37 rfl 0 rfl ?_
  refine y_new X (h := 28) (dsn := (((fY.take 25).set 0 (0, 12, [5, 7, 17, 2, 2, 2, 2, 2, 2, 2, 2, 2])).set 24 (0, 10, [0, 2, 2]))) dX10_init_38 yo_10_30 (by decide) (by decide +kernel) (by decide) (by decide +kernel) (by decide +kernel) ?_
  refine y_dup X dX10_init_41 ?_
  refine y_callI X (k := 24) (As := []) [28, 4] dX10_init_42 yk8_0 ym_8 w_1_168 rfl (Or.inr (List.mem_of_getElem? (i := 4) rfl)) (by decide) (by decide) rfl (by decide) (by decide +kernel) (by decide) ?_
  refine y_put Y (k := 0) (fs := [5, 7, 17, 2, 2, 2, 2, 2, 2, 2, 2, 2]) (ty := (.object "TruckPlatoons$Script")) (dsn := ((fY.take 27).set 0 (0, 12, [5, 7, 17, 28, 2, 2, 2, 2, 2, 2, 2, 2]))) dX10_init_45 yl_10_33 yt_10_3 (by decide) (by decide +kernel) (by decide) (by decide +kernel) ?_
  refine y_aload_n X dX10_init_48 rfl 0 rfl ?_
  refine y_new X (h := 31) (dsn := (((fY.take 28).set 0 (0, 12, [5, 7, 17, 28, 2, 2, 2, 2, 2, 2, 2, 2])).set 27 (0, 9, [2, 2, 2, 2, 2, 2]))) dX10_init_49 yo_10_37 (by decide) (by decide +kernel) (by decide) (by decide +kernel) (by decide +kernel) ?_
  refine y_dup X dX10_init_52 ?_
  refine y_aload_n X dX10_init_53 rfl 0 rfl ?_
  refine y_get X (k := 0) (fs := [5, 7, 17, 28, 2, 2, 2, 2, 2, 2, 2, 2]) (cd := 7) dX10_init_54 yl_10_19 (by decide +kernel) (by decide) ?_
  refine y_callI X (k := 27) (As := [7]) [31, 4] dX10_init_57 yk7_0 ym_7 w_1_185 rfl (Or.inl w_1_184) (by decide) (by decide) rfl (by decide) (by decide +kernel) (by decide) ?_
  refine y_put Y (k := 0) (fs := [5, 7, 17, 28, 2, 2, 2, 2, 2, 2, 2, 2]) (ty := (.object "TruckPlatoons$Routes")) (dsn := ((fY.take 33).set 0 (0, 12, [5, 7, 17, 28, 31, 2, 2, 2, 2, 2, 2, 2]))) dX10_init_60 yl_10_42 yt_10_4 (by decide) (by decide +kernel) (by decide) (by decide +kernel) ?_
  refine y_aload_n X dX10_init_63 rfl 0 rfl ?_
  refine y_new X (h := 37) (dsn := (((fY.take 34).set 0 (0, 12, [5, 7, 17, 28, 31, 2, 2, 2, 2, 2, 2, 2])).set 33 (0, 8, [2, 2, 2, 2, 2, 2, 2, 2, 2, 2, 2, 2, 2, 2, 0]))) dX10_init_64 yo_10_46 (by decide) (by decide +kernel) (by decide) (by decide +kernel) (by decide +kernel) ?_
  refine y_dup X dX10_init_67 ?_
  refine y_aload_n X dX10_init_68 rfl 0 rfl ?_
  refine y_get X (k := 0) (fs := [5, 7, 17, 28, 31, 2, 2, 2, 2, 2, 2, 2]) (cd := 7) dX10_init_69 yl_10_19 (by decide +kernel) (by decide) ?_
  refine y_aload_n X dX10_init_72 rfl 0 rfl ?_
  refine y_get X (k := 0) (fs := [5, 7, 17, 28, 31, 2, 2, 2, 2, 2, 2, 2]) (cd := 31) dX10_init_73 yl_10_42 (by decide +kernel) (by decide) ?_
  refine y_callI X (k := 33) (As := [7, 31]) [37, 4] dX10_init_76 yk6_0 ym_6 w_1_218 rfl (Or.inl w_1_217) (by decide) (by decide) rfl (by decide) (by decide +kernel) (by decide) ?_
  refine y_put Y (k := 0) (fs := [5, 7, 17, 28, 31, 2, 2, 2, 2, 2, 2, 2]) (ty := (.object "TruckPlatoons$Plan")) (dsn := ((fY.take 46).set 0 (0, 12, [5, 7, 17, 28, 31, 37, 2, 2, 2, 2, 2, 2]))) dX10_init_79 yl_10_51 yt_10_5 (by decide) (by decide +kernel) (by decide) (by decide +kernel) ?_
  refine y_aload_n X dX10_init_82 rfl 0 rfl ?_
  refine y_new X (h := 50) (dsn := (((fY.take 47).set 0 (0, 12, [5, 7, 17, 28, 31, 37, 2, 2, 2, 2, 2, 2])).set 46 (0, 8, [2, 2, 2, 2, 2, 2, 2, 2, 2, 2, 2, 2, 2, 2, 0]))) dX10_init_83 yo_10_46 (by decide) (by decide +kernel) (by decide) (by decide +kernel) (by decide +kernel) ?_
  refine y_dup X dX10_init_86 ?_
  refine y_aload_n X dX10_init_87 rfl 0 rfl ?_
  refine y_get X (k := 0) (fs := [5, 7, 17, 28, 31, 37, 2, 2, 2, 2, 2, 2]) (cd := 7) dX10_init_88 yl_10_19 (by decide +kernel) (by decide) ?_
  refine y_aload_n X dX10_init_91 rfl 0 rfl ?_
  refine y_get X (k := 0) (fs := [5, 7, 17, 28, 31, 37, 2, 2, 2, 2, 2, 2]) (cd := 31) dX10_init_92 yl_10_42 (by decide +kernel) (by decide) ?_
  refine y_callI X (k := 46) (As := [7, 31]) [50, 4] dX10_init_95 yk6_1 ym_6 w_1_218 rfl (Or.inl w_1_217) (by decide) (by decide) rfl (by decide) (by decide +kernel) (by decide) ?_
  refine y_put Y (k := 0) (fs := [5, 7, 17, 28, 31, 37, 2, 2, 2, 2, 2, 2]) (ty := (.object "TruckPlatoons$Plan")) (dsn := ((fY.take 59).set 0 (0, 12, [5, 7, 17, 28, 31, 37, 50, 2, 2, 2, 2, 2]))) dX10_init_98 yl_10_55 yt_10_6 (by decide) (by decide +kernel) (by decide) (by decide +kernel) ?_
  refine y_aload_n X dX10_init_101 rfl 0 rfl ?_
  refine y_new X (h := 63) (dsn := (((fY.take 60).set 0 (0, 12, [5, 7, 17, 28, 31, 37, 50, 2, 2, 2, 2, 2])).set 59 (0, 6, [2, 2, 2, 2, 0, 0, 0]))) dX10_init_102 yo_10_58 (by decide) (by decide +kernel) (by decide) (by decide +kernel) (by decide +kernel) ?_
  refine y_dup X dX10_init_105 ?_
  refine y_aload_n X dX10_init_106 rfl 0 rfl ?_
  refine y_get X (k := 0) (fs := [5, 7, 17, 28, 31, 37, 50, 2, 2, 2, 2, 2]) (cd := 7) dX10_init_107 yl_10_19 (by decide +kernel) (by decide) ?_
  refine y_aload_n X dX10_init_110 rfl 0 rfl ?_
  refine y_get X (k := 0) (fs := [5, 7, 17, 28, 31, 37, 50, 2, 2, 2, 2, 2]) (cd := 31) dX10_init_111 yl_10_42 (by decide +kernel) (by decide) ?_
  refine y_aload_n X dX10_init_114 rfl 0 rfl ?_
  refine y_get X (k := 0) (fs := [5, 7, 17, 28, 31, 37, 50, 2, 2, 2, 2, 2]) (cd := 37) dX10_init_115 yl_10_51 (by decide +kernel) (by decide) ?_
  refine y_aload_n X dX10_init_118 rfl 0 rfl ?_
  refine y_get X (k := 0) (fs := [5, 7, 17, 28, 31, 37, 50, 2, 2, 2, 2, 2]) (cd := 50) dX10_init_119 yl_10_55 (by decide +kernel) (by decide) ?_
  refine y_callI X (k := 59) (As := [7, 31, 37, 50]) [63, 4] dX10_init_122 yk4_0 ym_4 w_2_47 rfl (Or.inl w_2_46) (by decide) (by decide) rfl (by decide) (by decide +kernel) (by decide) ?_
  refine y_put Y (k := 0) (fs := [5, 7, 17, 28, 31, 37, 50, 2, 2, 2, 2, 2]) (ty := (.object "TruckPlatoons$Merger")) (dsn := ((fY.take 60).set 0 (0, 12, [5, 7, 17, 28, 31, 37, 50, 63, 2, 2, 2, 2]))) dX10_init_125 yl_10_63 yt_10_7 (by decide) (by decide +kernel) (by decide) (by decide +kernel) ?_
  refine y_aload_n X dX10_init_128 rfl 0 rfl ?_
  refine y_new X (h := 64) (dsn := (((fY.take 61).set 0 (0, 12, [5, 7, 17, 28, 31, 37, 50, 63, 2, 2, 2, 2])).set 60 (0, 2, [2, 2, 0, 2, 0]))) dX10_init_129 yo_10_67 (by decide) (by decide +kernel) (by decide) (by decide +kernel) (by decide +kernel) ?_
  refine y_dup X dX10_init_132 ?_
  refine y_aload_n X dX10_init_133 rfl 0 rfl ?_
  refine y_get X (k := 0) (fs := [5, 7, 17, 28, 31, 37, 50, 63, 2, 2, 2, 2]) (cd := 37) dX10_init_134 yl_10_51 (by decide +kernel) (by decide) ?_
  refine y_callI X (k := 60) (As := [37]) [64, 4] dX10_init_137 yk0_0 ym_0 w_2_78 rfl (Or.inl w_2_77) (by decide) (by decide) rfl (by decide) (by decide +kernel) (by decide) ?_
  refine y_put Y (k := 0) (fs := [5, 7, 17, 28, 31, 37, 50, 63, 2, 2, 2, 2]) (ty := (.object "TruckPlatoons$BestOrder")) (dsn := ((fY.take 63).set 0 (0, 12, [5, 7, 17, 28, 31, 37, 50, 63, 64, 2, 2, 2]))) dX10_init_140 yl_10_72 yt_10_8 (by decide) (by decide +kernel) (by decide) (by decide +kernel) ?_
  refine y_aload_n X dX10_init_143 rfl 0 rfl ?_
  refine y_new X (h := 67) (dsn := (((fY.take 64).set 0 (0, 12, [5, 7, 17, 28, 31, 37, 50, 63, 64, 2, 2, 2])).set 63 (0, 4, [2, 0, 0, 2, 2]))) dX10_init_144 yo_10_76 (by decide) (by decide +kernel) (by decide) (by decide +kernel) (by decide +kernel) ?_
  refine y_dup X dX10_init_147 ?_
  refine y_callI X (k := 63) (As := []) [67, 4] dX10_init_148 yk2_0 ym_2 w_2_102 rfl (Or.inr (List.mem_of_getElem? (i := 5) rfl)) (by decide) (by decide) rfl (by decide) (by decide +kernel) (by decide) ?_
  refine y_put Y (k := 0) (fs := [5, 7, 17, 28, 31, 37, 50, 63, 64, 2, 2, 2]) (ty := (.object "TruckPlatoons$History")) (dsn := ((fY.take 84).set 0 (0, 12, [5, 7, 17, 28, 31, 37, 50, 63, 64, 67, 2, 2]))) dX10_init_151 yl_10_79 yt_10_9 (by decide) (by decide +kernel) (by decide) (by decide +kernel) ?_
  refine y_aload_n X dX10_init_154 rfl 0 rfl ?_
  refine y_new X (h := 88) (dsn := (((fY.take 85).set 0 (0, 12, [5, 7, 17, 28, 31, 37, 50, 63, 64, 67, 2, 2])).set 84 (0, 7, [2, 0]))) dX10_init_155 yo_10_83 (by decide) (by decide +kernel) (by decide) (by decide +kernel) (by decide +kernel) ?_
  refine y_dup X dX10_init_158 ?_
  refine y_callI X (k := 84) (As := []) [88, 4] dX10_init_159 yk5_0 ym_5 w_2_128 rfl (Or.inr (List.mem_of_getElem? (i := 6) rfl)) (by decide) (by decide) rfl (by decide) (by decide +kernel) (by decide) ?_
  refine y_put Y (k := 0) (fs := [5, 7, 17, 28, 31, 37, 50, 63, 64, 67, 2, 2]) (ty := (.object "TruckPlatoons$Output")) (dsn := ((fY.take 86).set 0 (0, 12, [5, 7, 17, 28, 31, 37, 50, 63, 64, 67, 88, 2]))) dX10_init_162 yl_10_86 yt_10_10 (by decide) (by decide +kernel) (by decide) (by decide +kernel) ?_
  refine y_aload_n X dX10_init_165 rfl 0 rfl ?_
  refine y_newB X 1 20 (v := 20) (h := 90) (dsn := ((fY.take 87).set 0 (0, 12, [5, 7, 17, 28, 31, 37, 50, 63, 64, 67, 88, 2]))) dX10_init_166 (by decide) dX10_init_168 rfl (by decide) (by decide) (by decide) (by decide) (by decide) (by decide +kernel) (by decide) (by decide +kernel) (by decide +kernel) ?_
  refine y_put Y (k := 0) (fs := [5, 7, 17, 28, 31, 37, 50, 63, 64, 67, 88, 2]) (ty := (.array .int)) (dsn := (fY.take 87)) dX10_init_170 yl_10_90 yt_10_11 (by decide) (by decide +kernel) (by decide) (by decide +kernel) ?_
  exact y_ret Y dX10_init_173 ⟨rfl, rfl, rfl⟩
set_option maxRecDepth 100000 in
set_option maxHeartbeats 4000000 in
theorem yk11_0 : y_Met yX11_init cX11_init 1 1 22 9782 ((fY.take 88).set 87 (0, 13, [2, 2, 0, 0, 2, 0, 2, 2, 2, 2, 2, 2, 2, 2, 2, 2, 2, 0, 0, 0, 0, 0, 2, 2, 2, 2, 0, 2, 2, 0, 2, 0, 0, 0, 0, 0, 0, 0, 3, 2, 0])) [91] (fY.take 110) := by
  refine y_met (by decide +kernel) rfl (by decide) (by decide) (fun V Y => ?_)
  have Y : y_IsC V cX11_init 1 RX11 88 1 22 9782 (fY.take 110) := Y
  have X := y_isC Y
  show V _ 0 0 0 [(0, 91)] []
  refine y_aload_n X dX11_init_0 rfl 0 rfl ?_
  refine y_objInit X dX11_init_1 w_6_189 w_1_35 w_1_36 (by decide) ?_
  refine y_aload_n X dX11_init_4 rfl 0 rfl ?_
  refine y_newS X 1 4788 (v := 4788) (h := 92) (dsn := ((fY.take 89).set 87 (0, 13, [2, 2, 0, 0, 2, 0, 2, 2, 2, 2, 2, 2, 2, 2, 2, 2, 2, 0, 0, 0, 0, 0, 2, 2, 2, 2, 0, 2, 2, 0, 2, 0, 0, 0, 0, 0, 0, 0, 3, 2, 0]))) dX11_init_5 (by decide) dX11_init_8 rfl (by decide) (by decide) (by decide) (by decide) (by decide) (by decide +kernel) (by decide) (by decide +kernel) (by decide +kernel) ?_
  refine y_put Y (k := 87) (fs := [2, 2, 0, 0, 2, 0, 2, 2, 2, 2, 2, 2, 2, 2, 2, 2, 2, 0, 0, 0, 0, 0, 2, 2, 2, 2, 0, 2, 2, 0, 2, 0, 0, 0, 0, 0, 0, 0, 3, 2, 0]) (ty := (.array .int)) (dsn := ((fY.take 89).set 87 (0, 13, [92, 2, 0, 0, 2, 0, 2, 2, 2, 2, 2, 2, 2, 2, 2, 2, 2, 0, 0, 0, 0, 0, 2, 2, 2, 2, 0, 2, 2, 0, 2, 0, 0, 0, 0, 0, 0, 0, 3, 2, 0]))) dX11_init_10 yl_11_9 yt_11_0 (by decide) (by decide +kernel) (by decide) (by decide +kernel) ?_
  refine y_aload_n X dX11_init_13 rfl 0 rfl ?_
  refine y_newI X 2 2 (v := 2) (h := 93) (dsn := ((fY.take 90).set 87 (0, 13, [92, 2, 0, 0, 2, 0, 2, 2, 2, 2, 2, 2, 2, 2, 2, 2, 2, 0, 0, 0, 0, 0, 2, 2, 2, 2, 0, 2, 2, 0, 2, 0, 0, 0, 0, 0, 0, 0, 3, 2, 0]))) dX11_init_14 (by decide) dX11_init_15 rfl (by decide) (by decide) (by decide) (by decide) (by decide) (by decide +kernel) (by decide) (by decide +kernel) (by decide +kernel) ?_
  refine y_put Y (k := 87) (fs := [92, 2, 0, 0, 2, 0, 2, 2, 2, 2, 2, 2, 2, 2, 2, 2, 2, 0, 0, 0, 0, 0, 2, 2, 2, 2, 0, 2, 2, 0, 2, 0, 0, 0, 0, 0, 0, 0, 3, 2, 0]) (ty := (.array .boolean)) (dsn := ((fY.take 90).set 87 (0, 13, [92, 93, 0, 0, 2, 0, 2, 2, 2, 2, 2, 2, 2, 2, 2, 2, 2, 0, 0, 0, 0, 0, 2, 2, 2, 2, 0, 2, 2, 0, 2, 0, 0, 0, 0, 0, 0, 0, 3, 2, 0]))) dX11_init_17 yl_11_13 yt_11_1 (by decide) (by decide +kernel) (by decide) (by decide +kernel) ?_
  refine y_aload_n X dX11_init_20 rfl 0 rfl ?_
  refine y_newS X 1 580 (v := 580) (h := 94) (dsn := ((fY.take 91).set 87 (0, 13, [92, 93, 0, 0, 2, 0, 2, 2, 2, 2, 2, 2, 2, 2, 2, 2, 2, 0, 0, 0, 0, 0, 2, 2, 2, 2, 0, 2, 2, 0, 2, 0, 0, 0, 0, 0, 0, 0, 3, 2, 0]))) dX11_init_21 (by decide) dX11_init_24 rfl (by decide) (by decide) (by decide) (by decide) (by decide) (by decide +kernel) (by decide) (by decide +kernel) (by decide +kernel) ?_
  refine y_put Y (k := 87) (fs := [92, 93, 0, 0, 2, 0, 2, 2, 2, 2, 2, 2, 2, 2, 2, 2, 2, 0, 0, 0, 0, 0, 2, 2, 2, 2, 0, 2, 2, 0, 2, 0, 0, 0, 0, 0, 0, 0, 3, 2, 0]) (ty := (.array .int)) (dsn := ((fY.take 91).set 87 (0, 13, [92, 93, 0, 0, 94, 0, 2, 2, 2, 2, 2, 2, 2, 2, 2, 2, 2, 0, 0, 0, 0, 0, 2, 2, 2, 2, 0, 2, 2, 0, 2, 0, 0, 0, 0, 0, 0, 0, 3, 2, 0]))) dX11_init_26 yl_11_17 yt_11_4 (by decide) (by decide +kernel) (by decide) (by decide +kernel) ?_
  refine y_aload_n X dX11_init_29 rfl 0 rfl ?_
  refine y_newB X 1 120 (v := 120) (h := 95) (dsn := ((fY.take 92).set 87 (0, 13, [92, 93, 0, 0, 94, 0, 2, 2, 2, 2, 2, 2, 2, 2, 2, 2, 2, 0, 0, 0, 0, 0, 2, 2, 2, 2, 0, 2, 2, 0, 2, 0, 0, 0, 0, 0, 0, 0, 3, 2, 0]))) dX11_init_30 (by decide) dX11_init_32 rfl (by decide) (by decide) (by decide) (by decide) (by decide) (by decide +kernel) (by decide) (by decide +kernel) (by decide +kernel) ?_
  refine y_put Y (k := 87) (fs := [92, 93, 0, 0, 94, 0, 2, 2, 2, 2, 2, 2, 2, 2, 2, 2, 2, 0, 0, 0, 0, 0, 2, 2, 2, 2, 0, 2, 2, 0, 2, 0, 0, 0, 0, 0, 0, 0, 3, 2, 0]) (ty := (.array .int)) (dsn := ((fY.take 92).set 87 (0, 13, [92, 93, 0, 0, 94, 0, 95, 2, 2, 2, 2, 2, 2, 2, 2, 2, 2, 0, 0, 0, 0, 0, 2, 2, 2, 2, 0, 2, 2, 0, 2, 0, 0, 0, 0, 0, 0, 0, 3, 2, 0]))) dX11_init_34 yl_11_20 yt_11_6 (by decide) (by decide +kernel) (by decide) (by decide +kernel) ?_
  refine y_aload_n X dX11_init_37 rfl 0 rfl ?_
  refine y_newB X 1 120 (v := 120) (h := 96) (dsn := ((fY.take 93).set 87 (0, 13, [92, 93, 0, 0, 94, 0, 95, 2, 2, 2, 2, 2, 2, 2, 2, 2, 2, 0, 0, 0, 0, 0, 2, 2, 2, 2, 0, 2, 2, 0, 2, 0, 0, 0, 0, 0, 0, 0, 3, 2, 0]))) dX11_init_38 (by decide) dX11_init_40 rfl (by decide) (by decide) (by decide) (by decide) (by decide) (by decide +kernel) (by decide) (by decide +kernel) (by decide +kernel) ?_
  refine y_put Y (k := 87) (fs := [92, 93, 0, 0, 94, 0, 95, 2, 2, 2, 2, 2, 2, 2, 2, 2, 2, 0, 0, 0, 0, 0, 2, 2, 2, 2, 0, 2, 2, 0, 2, 0, 0, 0, 0, 0, 0, 0, 3, 2, 0]) (ty := (.array .int)) (dsn := ((fY.take 93).set 87 (0, 13, [92, 93, 0, 0, 94, 0, 95, 96, 2, 2, 2, 2, 2, 2, 2, 2, 2, 0, 0, 0, 0, 0, 2, 2, 2, 2, 0, 2, 2, 0, 2, 0, 0, 0, 0, 0, 0, 0, 3, 2, 0]))) dX11_init_42 yl_11_23 yt_11_7 (by decide) (by decide +kernel) (by decide) (by decide +kernel) ?_
  refine y_aload_n X dX11_init_45 rfl 0 rfl ?_
  refine y_newS X 1 1440 (v := 1440) (h := 97) (dsn := ((fY.take 94).set 87 (0, 13, [92, 93, 0, 0, 94, 0, 95, 96, 2, 2, 2, 2, 2, 2, 2, 2, 2, 0, 0, 0, 0, 0, 2, 2, 2, 2, 0, 2, 2, 0, 2, 0, 0, 0, 0, 0, 0, 0, 3, 2, 0]))) dX11_init_46 (by decide) dX11_init_49 rfl (by decide) (by decide) (by decide) (by decide) (by decide) (by decide +kernel) (by decide) (by decide +kernel) (by decide +kernel) ?_
  refine y_put Y (k := 87) (fs := [92, 93, 0, 0, 94, 0, 95, 96, 2, 2, 2, 2, 2, 2, 2, 2, 2, 0, 0, 0, 0, 0, 2, 2, 2, 2, 0, 2, 2, 0, 2, 0, 0, 0, 0, 0, 0, 0, 3, 2, 0]) (ty := (.array .int)) (dsn := ((fY.take 94).set 87 (0, 13, [92, 93, 0, 0, 94, 0, 95, 96, 97, 2, 2, 2, 2, 2, 2, 2, 2, 0, 0, 0, 0, 0, 2, 2, 2, 2, 0, 2, 2, 0, 2, 0, 0, 0, 0, 0, 0, 0, 3, 2, 0]))) dX11_init_51 yl_11_26 yt_11_8 (by decide) (by decide +kernel) (by decide) (by decide +kernel) ?_
  refine y_aload_n X dX11_init_54 rfl 0 rfl ?_
  refine y_newB X 1 120 (v := 120) (h := 98) (dsn := ((fY.take 95).set 87 (0, 13, [92, 93, 0, 0, 94, 0, 95, 96, 97, 2, 2, 2, 2, 2, 2, 2, 2, 0, 0, 0, 0, 0, 2, 2, 2, 2, 0, 2, 2, 0, 2, 0, 0, 0, 0, 0, 0, 0, 3, 2, 0]))) dX11_init_55 (by decide) dX11_init_57 rfl (by decide) (by decide) (by decide) (by decide) (by decide) (by decide +kernel) (by decide) (by decide +kernel) (by decide +kernel) ?_
  refine y_put Y (k := 87) (fs := [92, 93, 0, 0, 94, 0, 95, 96, 97, 2, 2, 2, 2, 2, 2, 2, 2, 0, 0, 0, 0, 0, 2, 2, 2, 2, 0, 2, 2, 0, 2, 0, 0, 0, 0, 0, 0, 0, 3, 2, 0]) (ty := (.array .int)) (dsn := ((fY.take 95).set 87 (0, 13, [92, 93, 0, 0, 94, 0, 95, 96, 97, 98, 2, 2, 2, 2, 2, 2, 2, 0, 0, 0, 0, 0, 2, 2, 2, 2, 0, 2, 2, 0, 2, 0, 0, 0, 0, 0, 0, 0, 3, 2, 0]))) dX11_init_59 yl_11_29 yt_11_9 (by decide) (by decide +kernel) (by decide) (by decide +kernel) ?_
  refine y_aload_n X dX11_init_62 rfl 0 rfl ?_
  refine y_newB X 1 120 (v := 120) (h := 99) (dsn := ((fY.take 96).set 87 (0, 13, [92, 93, 0, 0, 94, 0, 95, 96, 97, 98, 2, 2, 2, 2, 2, 2, 2, 0, 0, 0, 0, 0, 2, 2, 2, 2, 0, 2, 2, 0, 2, 0, 0, 0, 0, 0, 0, 0, 3, 2, 0]))) dX11_init_63 (by decide) dX11_init_65 rfl (by decide) (by decide) (by decide) (by decide) (by decide) (by decide +kernel) (by decide) (by decide +kernel) (by decide +kernel) ?_
  refine y_put Y (k := 87) (fs := [92, 93, 0, 0, 94, 0, 95, 96, 97, 98, 2, 2, 2, 2, 2, 2, 2, 0, 0, 0, 0, 0, 2, 2, 2, 2, 0, 2, 2, 0, 2, 0, 0, 0, 0, 0, 0, 0, 3, 2, 0]) (ty := (.array .int)) (dsn := ((fY.take 96).set 87 (0, 13, [92, 93, 0, 0, 94, 0, 95, 96, 97, 98, 99, 2, 2, 2, 2, 2, 2, 0, 0, 0, 0, 0, 2, 2, 2, 2, 0, 2, 2, 0, 2, 0, 0, 0, 0, 0, 0, 0, 3, 2, 0]))) dX11_init_67 yl_11_32 yt_11_10 (by decide) (by decide +kernel) (by decide) (by decide +kernel) ?_
  refine y_aload_n X dX11_init_70 rfl 0 rfl ?_
  refine y_newB X 1 120 (v := 120) (h := 100) (dsn := ((fY.take 97).set 87 (0, 13, [92, 93, 0, 0, 94, 0, 95, 96, 97, 98, 99, 2, 2, 2, 2, 2, 2, 0, 0, 0, 0, 0, 2, 2, 2, 2, 0, 2, 2, 0, 2, 0, 0, 0, 0, 0, 0, 0, 3, 2, 0]))) dX11_init_71 (by decide) dX11_init_73 rfl (by decide) (by decide) (by decide) (by decide) (by decide) (by decide +kernel) (by decide) (by decide +kernel) (by decide +kernel) ?_
  refine y_put Y (k := 87) (fs := [92, 93, 0, 0, 94, 0, 95, 96, 97, 98, 99, 2, 2, 2, 2, 2, 2, 0, 0, 0, 0, 0, 2, 2, 2, 2, 0, 2, 2, 0, 2, 0, 0, 0, 0, 0, 0, 0, 3, 2, 0]) (ty := (.array .int)) (dsn := ((fY.take 97).set 87 (0, 13, [92, 93, 0, 0, 94, 0, 95, 96, 97, 98, 99, 100, 2, 2, 2, 2, 2, 0, 0, 0, 0, 0, 2, 2, 2, 2, 0, 2, 2, 0, 2, 0, 0, 0, 0, 0, 0, 0, 3, 2, 0]))) dX11_init_75 yl_11_35 yt_11_11 (by decide) (by decide +kernel) (by decide) (by decide +kernel) ?_
  refine y_aload_n X dX11_init_78 rfl 0 rfl ?_
  refine y_newB X 1 120 (v := 120) (h := 101) (dsn := ((fY.take 98).set 87 (0, 13, [92, 93, 0, 0, 94, 0, 95, 96, 97, 98, 99, 100, 2, 2, 2, 2, 2, 0, 0, 0, 0, 0, 2, 2, 2, 2, 0, 2, 2, 0, 2, 0, 0, 0, 0, 0, 0, 0, 3, 2, 0]))) dX11_init_79 (by decide) dX11_init_81 rfl (by decide) (by decide) (by decide) (by decide) (by decide) (by decide +kernel) (by decide) (by decide +kernel) (by decide +kernel) ?_
  refine y_put Y (k := 87) (fs := [92, 93, 0, 0, 94, 0, 95, 96, 97, 98, 99, 100, 2, 2, 2, 2, 2, 0, 0, 0, 0, 0, 2, 2, 2, 2, 0, 2, 2, 0, 2, 0, 0, 0, 0, 0, 0, 0, 3, 2, 0]) (ty := (.array .int)) (dsn := ((fY.take 98).set 87 (0, 13, [92, 93, 0, 0, 94, 0, 95, 96, 97, 98, 99, 100, 101, 2, 2, 2, 2, 0, 0, 0, 0, 0, 2, 2, 2, 2, 0, 2, 2, 0, 2, 0, 0, 0, 0, 0, 0, 0, 3, 2, 0]))) dX11_init_83 yl_11_38 yt_11_12 (by decide) (by decide +kernel) (by decide) (by decide +kernel) ?_
  refine y_aload_n X dX11_init_86 rfl 0 rfl ?_
  refine y_newB X 1 120 (v := 120) (h := 102) (dsn := ((fY.take 99).set 87 (0, 13, [92, 93, 0, 0, 94, 0, 95, 96, 97, 98, 99, 100, 101, 2, 2, 2, 2, 0, 0, 0, 0, 0, 2, 2, 2, 2, 0, 2, 2, 0, 2, 0, 0, 0, 0, 0, 0, 0, 3, 2, 0]))) dX11_init_87 (by decide) dX11_init_89 rfl (by decide) (by decide) (by decide) (by decide) (by decide) (by decide +kernel) (by decide) (by decide +kernel) (by decide +kernel) ?_
  refine y_put Y (k := 87) (fs := [92, 93, 0, 0, 94, 0, 95, 96, 97, 98, 99, 100, 101, 2, 2, 2, 2, 0, 0, 0, 0, 0, 2, 2, 2, 2, 0, 2, 2, 0, 2, 0, 0, 0, 0, 0, 0, 0, 3, 2, 0]) (ty := (.array .int)) (dsn := ((fY.take 99).set 87 (0, 13, [92, 93, 0, 0, 94, 0, 95, 96, 97, 98, 99, 100, 101, 102, 2, 2, 2, 0, 0, 0, 0, 0, 2, 2, 2, 2, 0, 2, 2, 0, 2, 0, 0, 0, 0, 0, 0, 0, 3, 2, 0]))) dX11_init_91 yl_11_41 yt_11_13 (by decide) (by decide +kernel) (by decide) (by decide +kernel) ?_
  refine y_aload_n X dX11_init_94 rfl 0 rfl ?_
  refine y_newB X 2 120 (v := 120) (h := 103) (dsn := ((fY.take 100).set 87 (0, 13, [92, 93, 0, 0, 94, 0, 95, 96, 97, 98, 99, 100, 101, 102, 2, 2, 2, 0, 0, 0, 0, 0, 2, 2, 2, 2, 0, 2, 2, 0, 2, 0, 0, 0, 0, 0, 0, 0, 3, 2, 0]))) dX11_init_95 (by decide) dX11_init_97 rfl (by decide) (by decide) (by decide) (by decide) (by decide) (by decide +kernel) (by decide) (by decide +kernel) (by decide +kernel) ?_
  refine y_put Y (k := 87) (fs := [92, 93, 0, 0, 94, 0, 95, 96, 97, 98, 99, 100, 101, 102, 2, 2, 2, 0, 0, 0, 0, 0, 2, 2, 2, 2, 0, 2, 2, 0, 2, 0, 0, 0, 0, 0, 0, 0, 3, 2, 0]) (ty := (.array .boolean)) (dsn := ((fY.take 100).set 87 (0, 13, [92, 93, 0, 0, 94, 0, 95, 96, 97, 98, 99, 100, 101, 102, 103, 2, 2, 0, 0, 0, 0, 0, 2, 2, 2, 2, 0, 2, 2, 0, 2, 0, 0, 0, 0, 0, 0, 0, 3, 2, 0]))) dX11_init_99 yl_11_44 yt_11_14 (by decide) (by decide +kernel) (by decide) (by decide +kernel) ?_
  refine y_aload_n X dX11_init_102 rfl 0 rfl ?_
  refine y_newB X 1 12 (v := 12) (h := 104) (dsn := ((fY.take 101).set 87 (0, 13, [92, 93, 0, 0, 94, 0, 95, 96, 97, 98, 99, 100, 101, 102, 103, 2, 2, 0, 0, 0, 0, 0, 2, 2, 2, 2, 0, 2, 2, 0, 2, 0, 0, 0, 0, 0, 0, 0, 3, 2, 0]))) dX11_init_103 (by decide) dX11_init_105 rfl (by decide) (by decide) (by decide) (by decide) (by decide) (by decide +kernel) (by decide) (by decide +kernel) (by decide +kernel) ?_
  refine y_put Y (k := 87) (fs := [92, 93, 0, 0, 94, 0, 95, 96, 97, 98, 99, 100, 101, 102, 103, 2, 2, 0, 0, 0, 0, 0, 2, 2, 2, 2, 0, 2, 2, 0, 2, 0, 0, 0, 0, 0, 0, 0, 3, 2, 0]) (ty := (.array .int)) (dsn := ((fY.take 101).set 87 (0, 13, [92, 93, 0, 0, 94, 0, 95, 96, 97, 98, 99, 100, 101, 102, 103, 104, 2, 0, 0, 0, 0, 0, 2, 2, 2, 2, 0, 2, 2, 0, 2, 0, 0, 0, 0, 0, 0, 0, 3, 2, 0]))) dX11_init_107 yl_11_47 yt_11_15 (by decide) (by decide +kernel) (by decide) (by decide +kernel) ?_
  refine y_aload_n X dX11_init_110 rfl 0 rfl ?_
  refine y_newB X 1 12 (v := 12) (h := 105) (dsn := ((fY.take 102).set 87 (0, 13, [92, 93, 0, 0, 94, 0, 95, 96, 97, 98, 99, 100, 101, 102, 103, 104, 2, 0, 0, 0, 0, 0, 2, 2, 2, 2, 0, 2, 2, 0, 2, 0, 0, 0, 0, 0, 0, 0, 3, 2, 0]))) dX11_init_111 (by decide) dX11_init_113 rfl (by decide) (by decide) (by decide) (by decide) (by decide) (by decide +kernel) (by decide) (by decide +kernel) (by decide +kernel) ?_
  refine y_put Y (k := 87) (fs := [92, 93, 0, 0, 94, 0, 95, 96, 97, 98, 99, 100, 101, 102, 103, 104, 2, 0, 0, 0, 0, 0, 2, 2, 2, 2, 0, 2, 2, 0, 2, 0, 0, 0, 0, 0, 0, 0, 3, 2, 0]) (ty := (.array .int)) (dsn := ((fY.take 102).set 87 (0, 13, [92, 93, 0, 0, 94, 0, 95, 96, 97, 98, 99, 100, 101, 102, 103, 104, 105, 0, 0, 0, 0, 0, 2, 2, 2, 2, 0, 2, 2, 0, 2, 0, 0, 0, 0, 0, 0, 0, 3, 2, 0]))) dX11_init_115 yl_11_50 yt_11_16 (by decide) (by decide +kernel) (by decide) (by decide +kernel) ?_
  refine y_aload_n X dX11_init_118 rfl 0 rfl ?_
  refine y_newB X 1 12 (v := 12) (h := 106) (dsn := ((fY.take 103).set 87 (0, 13, [92, 93, 0, 0, 94, 0, 95, 96, 97, 98, 99, 100, 101, 102, 103, 104, 105, 0, 0, 0, 0, 0, 2, 2, 2, 2, 0, 2, 2, 0, 2, 0, 0, 0, 0, 0, 0, 0, 3, 2, 0]))) dX11_init_119 (by decide) dX11_init_121 rfl (by decide) (by decide) (by decide) (by decide) (by decide) (by decide +kernel) (by decide) (by decide +kernel) (by decide +kernel) ?_
  refine y_put Y (k := 87) (fs := [92, 93, 0, 0, 94, 0, 95, 96, 97, 98, 99, 100, 101, 102, 103, 104, 105, 0, 0, 0, 0, 0, 2, 2, 2, 2, 0, 2, 2, 0, 2, 0, 0, 0, 0, 0, 0, 0, 3, 2, 0]) (ty := (.array .int)) (dsn := ((fY.take 103).set 87 (0, 13, [92, 93, 0, 0, 94, 0, 95, 96, 97, 98, 99, 100, 101, 102, 103, 104, 105, 0, 0, 0, 0, 0, 106, 2, 2, 2, 0, 2, 2, 0, 2, 0, 0, 0, 0, 0, 0, 0, 3, 2, 0]))) dX11_init_123 yl_11_53 yt_11_22 (by decide) (by decide +kernel) (by decide) (by decide +kernel) ?_
  refine y_aload_n X dX11_init_126 rfl 0 rfl ?_
  refine y_newB X 1 12 (v := 12) (h := 107) (dsn := ((fY.take 104).set 87 (0, 13, [92, 93, 0, 0, 94, 0, 95, 96, 97, 98, 99, 100, 101, 102, 103, 104, 105, 0, 0, 0, 0, 0, 106, 2, 2, 2, 0, 2, 2, 0, 2, 0, 0, 0, 0, 0, 0, 0, 3, 2, 0]))) dX11_init_127 (by decide) dX11_init_129 rfl (by decide) (by decide) (by decide) (by decide) (by decide) (by decide +kernel) (by decide) (by decide +kernel) (by decide +kernel) ?_
  refine y_put Y (k := 87) (fs := [92, 93, 0, 0, 94, 0, 95, 96, 97, 98, 99, 100, 101, 102, 103, 104, 105, 0, 0, 0, 0, 0, 106, 2, 2, 2, 0, 2, 2, 0, 2, 0, 0, 0, 0, 0, 0, 0, 3, 2, 0]) (ty := (.array .int)) (dsn := ((fY.take 104).set 87 (0, 13, [92, 93, 0, 0, 94, 0, 95, 96, 97, 98, 99, 100, 101, 102, 103, 104, 105, 0, 0, 0, 0, 0, 106, 107, 2, 2, 0, 2, 2, 0, 2, 0, 0, 0, 0, 0, 0, 0, 3, 2, 0]))) dX11_init_131 yl_11_56 yt_11_23 (by decide) (by decide +kernel) (by decide) (by decide +kernel) ?_
  refine y_aload_n X dX11_init_134 rfl 0 rfl ?_
  refine y_newB X 1 12 (v := 12) (h := 108) (dsn := ((fY.take 105).set 87 (0, 13, [92, 93, 0, 0, 94, 0, 95, 96, 97, 98, 99, 100, 101, 102, 103, 104, 105, 0, 0, 0, 0, 0, 106, 107, 2, 2, 0, 2, 2, 0, 2, 0, 0, 0, 0, 0, 0, 0, 3, 2, 0]))) dX11_init_135 (by decide) dX11_init_137 rfl (by decide) (by decide) (by decide) (by decide) (by decide) (by decide +kernel) (by decide) (by decide +kernel) (by decide +kernel) ?_
  refine y_put Y (k := 87) (fs := [92, 93, 0, 0, 94, 0, 95, 96, 97, 98, 99, 100, 101, 102, 103, 104, 105, 0, 0, 0, 0, 0, 106, 107, 2, 2, 0, 2, 2, 0, 2, 0, 0, 0, 0, 0, 0, 0, 3, 2, 0]) (ty := (.array .int)) (dsn := ((fY.take 105).set 87 (0, 13, [92, 93, 0, 0, 94, 0, 95, 96, 97, 98, 99, 100, 101, 102, 103, 104, 105, 0, 0, 0, 0, 0, 106, 107, 108, 2, 0, 2, 2, 0, 2, 0, 0, 0, 0, 0, 0, 0, 3, 2, 0]))) dX11_init_139 yl_11_59 yt_11_24 (by decide) (by decide +kernel) (by decide) (by decide +kernel) ?_
  refine y_aload_n X dX11_init_142 rfl 0 rfl ?_
  refine y_newB X 1 12 (v := 12) (h := 109) (dsn := ((fY.take 106).set 87 (0, 13, [92, 93, 0, 0, 94, 0, 95, 96, 97, 98, 99, 100, 101, 102, 103, 104, 105, 0, 0, 0, 0, 0, 106, 107, 108, 2, 0, 2, 2, 0, 2, 0, 0, 0, 0, 0, 0, 0, 3, 2, 0]))) dX11_init_143 (by decide) dX11_init_145 rfl (by decide) (by decide) (by decide) (by decide) (by decide) (by decide +kernel) (by decide) (by decide +kernel) (by decide +kernel) ?_
  refine y_put Y (k := 87) (fs := [92, 93, 0, 0, 94, 0, 95, 96, 97, 98, 99, 100, 101, 102, 103, 104, 105, 0, 0, 0, 0, 0, 106, 107, 108, 2, 0, 2, 2, 0, 2, 0, 0, 0, 0, 0, 0, 0, 3, 2, 0]) (ty := (.array .int)) (dsn := ((fY.take 106).set 87 (0, 13, [92, 93, 0, 0, 94, 0, 95, 96, 97, 98, 99, 100, 101, 102, 103, 104, 105, 0, 0, 0, 0, 0, 106, 107, 108, 109, 0, 2, 2, 0, 2, 0, 0, 0, 0, 0, 0, 0, 3, 2, 0]))) dX11_init_147 yl_11_62 yt_11_25 (by decide) (by decide +kernel) (by decide) (by decide +kernel) ?_
  refine y_aload_n X dX11_init_150 rfl 0 rfl ?_
  refine y_newB X 1 20 (v := 20) (h := 110) (dsn := ((fY.take 107).set 87 (0, 13, [92, 93, 0, 0, 94, 0, 95, 96, 97, 98, 99, 100, 101, 102, 103, 104, 105, 0, 0, 0, 0, 0, 106, 107, 108, 109, 0, 2, 2, 0, 2, 0, 0, 0, 0, 0, 0, 0, 3, 2, 0]))) dX11_init_151 (by decide) dX11_init_153 rfl (by decide) (by decide) (by decide) (by decide) (by decide) (by decide +kernel) (by decide) (by decide +kernel) (by decide +kernel) ?_
  refine y_put Y (k := 87) (fs := [92, 93, 0, 0, 94, 0, 95, 96, 97, 98, 99, 100, 101, 102, 103, 104, 105, 0, 0, 0, 0, 0, 106, 107, 108, 109, 0, 2, 2, 0, 2, 0, 0, 0, 0, 0, 0, 0, 3, 2, 0]) (ty := (.array .int)) (dsn := ((fY.take 107).set 87 (0, 13, [92, 93, 0, 0, 94, 0, 95, 96, 97, 98, 99, 100, 101, 102, 103, 104, 105, 0, 0, 0, 0, 0, 106, 107, 108, 109, 0, 110, 2, 0, 2, 0, 0, 0, 0, 0, 0, 0, 3, 2, 0]))) dX11_init_155 yl_11_65 yt_11_27 (by decide) (by decide +kernel) (by decide) (by decide +kernel) ?_
  refine y_aload_n X dX11_init_158 rfl 0 rfl ?_
  refine y_newS X 1 300 (v := 300) (h := 111) (dsn := ((fY.take 108).set 87 (0, 13, [92, 93, 0, 0, 94, 0, 95, 96, 97, 98, 99, 100, 101, 102, 103, 104, 105, 0, 0, 0, 0, 0, 106, 107, 108, 109, 0, 110, 2, 0, 2, 0, 0, 0, 0, 0, 0, 0, 3, 2, 0]))) dX11_init_159 (by decide) dX11_init_162 rfl (by decide) (by decide) (by decide) (by decide) (by decide) (by decide +kernel) (by decide) (by decide +kernel) (by decide +kernel) ?_
  refine y_put Y (k := 87) (fs := [92, 93, 0, 0, 94, 0, 95, 96, 97, 98, 99, 100, 101, 102, 103, 104, 105, 0, 0, 0, 0, 0, 106, 107, 108, 109, 0, 110, 2, 0, 2, 0, 0, 0, 0, 0, 0, 0, 3, 2, 0]) (ty := (.array .int)) (dsn := ((fY.take 108).set 87 (0, 13, [92, 93, 0, 0, 94, 0, 95, 96, 97, 98, 99, 100, 101, 102, 103, 104, 105, 0, 0, 0, 0, 0, 106, 107, 108, 109, 0, 110, 111, 0, 2, 0, 0, 0, 0, 0, 0, 0, 3, 2, 0]))) dX11_init_164 yl_11_68 yt_11_28 (by decide) (by decide +kernel) (by decide) (by decide +kernel) ?_
  refine y_aload_n X dX11_init_167 rfl 0 rfl ?_
  refine y_newS X 3 1500 (v := 1500) (h := 112) (dsn := ((fY.take 109).set 87 (0, 13, [92, 93, 0, 0, 94, 0, 95, 96, 97, 98, 99, 100, 101, 102, 103, 104, 105, 0, 0, 0, 0, 0, 106, 107, 108, 109, 0, 110, 111, 0, 2, 0, 0, 0, 0, 0, 0, 0, 3, 2, 0]))) dX11_init_168 (by decide) dX11_init_171 rfl (by decide) (by decide) (by decide) (by decide) (by decide) (by decide +kernel) (by decide) (by decide +kernel) (by decide +kernel) ?_
  refine y_put Y (k := 87) (fs := [92, 93, 0, 0, 94, 0, 95, 96, 97, 98, 99, 100, 101, 102, 103, 104, 105, 0, 0, 0, 0, 0, 106, 107, 108, 109, 0, 110, 111, 0, 2, 0, 0, 0, 0, 0, 0, 0, 3, 2, 0]) (ty := (.array .byte)) (dsn := ((fY.take 109).set 87 (0, 13, [92, 93, 0, 0, 94, 0, 95, 96, 97, 98, 99, 100, 101, 102, 103, 104, 105, 0, 0, 0, 0, 0, 106, 107, 108, 109, 0, 110, 111, 0, 112, 0, 0, 0, 0, 0, 0, 0, 3, 2, 0]))) dX11_init_173 yl_11_71 yt_11_30 (by decide) (by decide +kernel) (by decide) (by decide +kernel) ?_
  refine y_aload_n X dX11_init_176 rfl 0 rfl ?_
  refine y_iconst X 1 dX11_init_177 (fun _ => rfl) ?_
  refine y_put Y (k := 87) (fs := [92, 93, 0, 0, 94, 0, 95, 96, 97, 98, 99, 100, 101, 102, 103, 104, 105, 0, 0, 0, 0, 0, 106, 107, 108, 109, 0, 110, 111, 0, 112, 0, 0, 0, 0, 0, 0, 0, 3, 2, 0]) (ty := .int) (dsn := ((fY.take 109).set 87 (0, 13, [92, 93, 0, 0, 94, 0, 95, 96, 97, 98, 99, 100, 101, 102, 103, 104, 105, 0, 0, 0, 0, 0, 106, 107, 108, 109, 0, 110, 111, 0, 112, 0, 0, 0, 1, 0, 0, 0, 3, 2, 0]))) dX11_init_178 yl_11_75 yt_11_34 (by decide) (by decide +kernel) (by decide) (by decide +kernel) ?_
  refine y_aload_n X dX11_init_181 rfl 0 rfl ?_
  refine y_newB X 1 120 (v := 120) (h := 113) (dsn := ((fY.take 110).set 87 (0, 13, [92, 93, 0, 0, 94, 0, 95, 96, 97, 98, 99, 100, 101, 102, 103, 104, 105, 0, 0, 0, 0, 0, 106, 107, 108, 109, 0, 110, 111, 0, 112, 0, 0, 0, 1, 0, 0, 0, 3, 2, 0]))) dX11_init_182 (by decide) dX11_init_184 rfl (by decide) (by decide) (by decide) (by decide) (by decide) (by decide +kernel) (by decide) (by decide +kernel) (by decide +kernel) ?_
  refine y_put Y (k := 87) (fs := [92, 93, 0, 0, 94, 0, 95, 96, 97, 98, 99, 100, 101, 102, 103, 104, 105, 0, 0, 0, 0, 0, 106, 107, 108, 109, 0, 110, 111, 0, 112, 0, 0, 0, 1, 0, 0, 0, 3, 2, 0]) (ty := (.array .int)) (dsn := (fY.take 110)) dX11_init_186 yl_11_79 yt_11_39 (by decide) (by decide +kernel) (by decide) (by decide +kernel) ?_
  exact y_ret Y dX11_init_189 ⟨rfl, rfl, rfl⟩
