/-! ===== constructors (written by gen/gen3.py) ===== -/
theorem dX1_init_0 : decode cX1_init 0 = .ok (.aload_n 0, 1) := by decide +kernel
theorem dX1_init_1 : decode cX1_init 1 = .ok (.invokespecial 3, 3) := by decide +kernel
theorem dX1_init_4 : decode cX1_init 4 = .ok (.aload_n 0, 1) := by decide +kernel
theorem dX1_init_5 : decode cX1_init 5 = .ok (.iconst 2, 1) := by decide +kernel
theorem dX1_init_6 : decode cX1_init 6 = .ok (.putfield 9, 3) := by decide +kernel
theorem dX1_init_9 : decode cX1_init 9 = .ok (.aload_n 0, 1) := by decide +kernel
theorem dX1_init_10 : decode cX1_init 10 = .ok (.bipush 14, 2) := by decide +kernel
theorem dX1_init_12 : decode cX1_init 12 = .ok (.newarray .int, 2) := by decide +kernel
theorem dX1_init_14 : decode cX1_init 14 = .ok (.putfield 15, 3) := by decide +kernel
theorem dX1_init_17 : decode cX1_init 17 = .ok (.aload_n 0, 1) := by decide +kernel
theorem dX1_init_18 : decode cX1_init 18 = .ok (.bipush 14, 2) := by decide +kernel
theorem dX1_init_20 : decode cX1_init 20 = .ok (.newarray .int, 2) := by decide +kernel
theorem dX1_init_22 : decode cX1_init 22 = .ok (.putfield 19, 3) := by decide +kernel
theorem dX1_init_25 : decode cX1_init 25 = .ok (.aload_n 0, 1) := by decide +kernel
theorem dX1_init_26 : decode cX1_init 26 = .ok (.bipush 14, 2) := by decide +kernel
theorem dX1_init_28 : decode cX1_init 28 = .ok (.newarray .int, 2) := by decide +kernel
theorem dX1_init_30 : decode cX1_init 30 = .ok (.putfield 22, 3) := by decide +kernel
theorem dX1_init_33 : decode cX1_init 33 = .ok (.aload_n 0, 1) := by decide +kernel
theorem dX1_init_34 : decode cX1_init 34 = .ok (.bipush 14, 2) := by decide +kernel
theorem dX1_init_36 : decode cX1_init 36 = .ok (.newarray .int, 2) := by decide +kernel
theorem dX1_init_38 : decode cX1_init 38 = .ok (.putfield 25, 3) := by decide +kernel
theorem dX1_init_41 : decode cX1_init 41 = .ok (.aload_n 0, 1) := by decide +kernel
theorem dX1_init_42 : decode cX1_init 42 = .ok (.bipush 14, 2) := by decide +kernel
theorem dX1_init_44 : decode cX1_init 44 = .ok (.newarray .int, 2) := by decide +kernel
theorem dX1_init_46 : decode cX1_init 46 = .ok (.putfield 28, 3) := by decide +kernel
theorem dX1_init_49 : decode cX1_init 49 = .ok (.aload_n 0, 1) := by decide +kernel
theorem dX1_init_50 : decode cX1_init 50 = .ok (.bipush 14, 2) := by decide +kernel
theorem dX1_init_52 : decode cX1_init 52 = .ok (.newarray .int, 2) := by decide +kernel
theorem dX1_init_54 : decode cX1_init 54 = .ok (.putfield 31, 3) := by decide +kernel
theorem dX1_init_57 : decode cX1_init 57 = .ok (.aload_n 0, 1) := by decide +kernel
theorem dX1_init_58 : decode cX1_init 58 = .ok (.bipush 13, 2) := by decide +kernel
theorem dX1_init_60 : decode cX1_init 60 = .ok (.newarray .int, 2) := by decide +kernel
theorem dX1_init_62 : decode cX1_init 62 = .ok (.putfield 34, 3) := by decide +kernel
theorem dX1_init_65 : decode cX1_init 65 = .ok (.aload_n 0, 1) := by decide +kernel
theorem dX1_init_66 : decode cX1_init 66 = .ok (.bipush 13, 2) := by decide +kernel
theorem dX1_init_68 : decode cX1_init 68 = .ok (.newarray .int, 2) := by decide +kernel
theorem dX1_init_70 : decode cX1_init 70 = .ok (.putfield 37, 3) := by decide +kernel
theorem dX1_init_73 : decode cX1_init 73 = .ok (.aload_n 0, 1) := by decide +kernel
theorem dX1_init_74 : decode cX1_init 74 = .ok (.getfield 37, 3) := by decide +kernel
theorem dX1_init_77 : decode cX1_init 77 = .ok (.iconst 0, 1) := by decide +kernel
theorem dX1_init_78 : decode cX1_init 78 = .ok (.iconst 1, 1) := by decide +kernel
theorem dX1_init_79 : decode cX1_init 79 = .ok (.iastore, 1) := by decide +kernel
theorem dX1_init_80 : decode cX1_init 80 = .ok (.return_, 1) := by decide +kernel
theorem dX4_init_0 : decode cX4_init 0 = .ok (.aload_n 0, 1) := by decide +kernel
theorem dX4_init_1 : decode cX4_init 1 = .ok (.invokespecial 3, 3) := by decide +kernel
theorem dX4_init_4 : decode cX4_init 4 = .ok (.aload_n 0, 1) := by decide +kernel
theorem dX4_init_5 : decode cX4_init 5 = .ok (.sipush 1296, 3) := by decide +kernel
theorem dX4_init_8 : decode cX4_init 8 = .ok (.newarray .int, 2) := by decide +kernel
theorem dX4_init_10 : decode cX4_init 10 = .ok (.putfield 9, 3) := by decide +kernel
theorem dX4_init_13 : decode cX4_init 13 = .ok (.aload_n 0, 1) := by decide +kernel
theorem dX4_init_14 : decode cX4_init 14 = .ok (.sipush 1296, 3) := by decide +kernel
theorem dX4_init_17 : decode cX4_init 17 = .ok (.newarray .long, 2) := by decide +kernel
theorem dX4_init_19 : decode cX4_init 19 = .ok (.putfield 15, 3) := by decide +kernel
theorem dX4_init_22 : decode cX4_init 22 = .ok (.aload_n 0, 1) := by decide +kernel
theorem dX4_init_23 : decode cX4_init 23 = .ok (.sipush 1296, 3) := by decide +kernel
theorem dX4_init_26 : decode cX4_init 26 = .ok (.newarray .long, 2) := by decide +kernel
theorem dX4_init_28 : decode cX4_init 28 = .ok (.putfield 19, 3) := by decide +kernel
theorem dX4_init_31 : decode cX4_init 31 = .ok (.aload_n 0, 1) := by decide +kernel
theorem dX4_init_32 : decode cX4_init 32 = .ok (.bipush 6, 2) := by decide +kernel
theorem dX4_init_34 : decode cX4_init 34 = .ok (.newarray .long, 2) := by decide +kernel
theorem dX4_init_36 : decode cX4_init 36 = .ok (.putfield 22, 3) := by decide +kernel
theorem dX4_init_39 : decode cX4_init 39 = .ok (.aload_n 0, 1) := by decide +kernel
theorem dX4_init_40 : decode cX4_init 40 = .ok (.bipush 6, 2) := by decide +kernel
theorem dX4_init_42 : decode cX4_init 42 = .ok (.newarray .boolean, 2) := by decide +kernel
theorem dX4_init_44 : decode cX4_init 44 = .ok (.putfield 25, 3) := by decide +kernel
theorem dX4_init_47 : decode cX4_init 47 = .ok (.aload_n 0, 1) := by decide +kernel
theorem dX4_init_48 : decode cX4_init 48 = .ok (.bipush 6, 2) := by decide +kernel
theorem dX4_init_50 : decode cX4_init 50 = .ok (.newarray .int, 2) := by decide +kernel
theorem dX4_init_52 : decode cX4_init 52 = .ok (.putfield 29, 3) := by decide +kernel
theorem dX4_init_55 : decode cX4_init 55 = .ok (.aload_n 0, 1) := by decide +kernel
theorem dX4_init_56 : decode cX4_init 56 = .ok (.bipush 84, 2) := by decide +kernel
theorem dX4_init_58 : decode cX4_init 58 = .ok (.newarray .int, 2) := by decide +kernel
theorem dX4_init_60 : decode cX4_init 60 = .ok (.putfield 32, 3) := by decide +kernel
theorem dX4_init_63 : decode cX4_init 63 = .ok (.aload_n 0, 1) := by decide +kernel
theorem dX4_init_64 : decode cX4_init 64 = .ok (.bipush 14, 2) := by decide +kernel
theorem dX4_init_66 : decode cX4_init 66 = .ok (.newarray .int, 2) := by decide +kernel
theorem dX4_init_68 : decode cX4_init 68 = .ok (.putfield 35, 3) := by decide +kernel
theorem dX4_init_71 : decode cX4_init 71 = .ok (.aload_n 0, 1) := by decide +kernel
theorem dX4_init_72 : decode cX4_init 72 = .ok (.bipush 14, 2) := by decide +kernel
theorem dX4_init_74 : decode cX4_init 74 = .ok (.newarray .long, 2) := by decide +kernel
theorem dX4_init_76 : decode cX4_init 76 = .ok (.putfield 38, 3) := by decide +kernel
theorem dX4_init_79 : decode cX4_init 79 = .ok (.aload_n 0, 1) := by decide +kernel
theorem dX4_init_80 : decode cX4_init 80 = .ok (.bipush 14, 2) := by decide +kernel
theorem dX4_init_82 : decode cX4_init 82 = .ok (.newarray .long, 2) := by decide +kernel
theorem dX4_init_84 : decode cX4_init 84 = .ok (.putfield 41, 3) := by decide +kernel
theorem dX4_init_87 : decode cX4_init 87 = .ok (.return_, 1) := by decide +kernel
theorem dX0_init_0 : decode cX0_init 0 = .ok (.aload_n 0, 1) := by decide +kernel
theorem dX0_init_1 : decode cX0_init 1 = .ok (.invokespecial 3, 3) := by decide +kernel
theorem dX0_init_4 : decode cX0_init 4 = .ok (.aload_n 0, 1) := by decide +kernel
theorem dX0_init_5 : decode cX0_init 5 = .ok (.bipush 14, 2) := by decide +kernel
theorem dX0_init_7 : decode cX0_init 7 = .ok (.newarray .long, 2) := by decide +kernel
theorem dX0_init_9 : decode cX0_init 9 = .ok (.putfield 9, 3) := by decide +kernel
theorem dX0_init_12 : decode cX0_init 12 = .ok (.aload_n 0, 1) := by decide +kernel
theorem dX0_init_13 : decode cX0_init 13 = .ok (.bipush 14, 2) := by decide +kernel
theorem dX0_init_15 : decode cX0_init 15 = .ok (.newarray .long, 2) := by decide +kernel
theorem dX0_init_17 : decode cX0_init 17 = .ok (.putfield 15, 3) := by decide +kernel
theorem dX0_init_20 : decode cX0_init 20 = .ok (.aload_n 0, 1) := by decide +kernel
theorem dX0_init_21 : decode cX0_init 21 = .ok (.bipush 14, 2) := by decide +kernel
theorem dX0_init_23 : decode cX0_init 23 = .ok (.newarray .long, 2) := by decide +kernel
theorem dX0_init_25 : decode cX0_init 25 = .ok (.putfield 18, 3) := by decide +kernel
theorem dX0_init_28 : decode cX0_init 28 = .ok (.return_, 1) := by decide +kernel
theorem dX2_init_0 : decode cX2_init 0 = .ok (.aload_n 0, 1) := by decide +kernel
theorem dX2_init_1 : decode cX2_init 1 = .ok (.invokespecial 3, 3) := by decide +kernel
theorem dX2_init_4 : decode cX2_init 4 = .ok (.aload_n 0, 1) := by decide +kernel
theorem dX2_init_5 : decode cX2_init 5 = .ok (.bipush 6, 2) := by decide +kernel
theorem dX2_init_7 : decode cX2_init 7 = .ok (.newarray .int, 2) := by decide +kernel
theorem dX2_init_9 : decode cX2_init 9 = .ok (.putfield 9, 3) := by decide +kernel
theorem dX2_init_12 : decode cX2_init 12 = .ok (.return_, 1) := by decide +kernel
theorem dX7_init_0 : decode cX7_init 0 = .ok (.aload_n 0, 1) := by decide +kernel
theorem dX7_init_1 : decode cX7_init 1 = .ok (.invokespecial 3, 3) := by decide +kernel
theorem dX7_init_4 : decode cX7_init 4 = .ok (.aload_n 0, 1) := by decide +kernel
theorem dX7_init_5 : decode cX7_init 5 = .ok (.new 9, 3) := by decide +kernel
theorem dX7_init_8 : decode cX7_init 8 = .ok (.dup, 1) := by decide +kernel
theorem dX7_init_9 : decode cX7_init 9 = .ok (.invokespecial 11, 3) := by decide +kernel
theorem dX7_init_12 : decode cX7_init 12 = .ok (.putfield 12, 3) := by decide +kernel
theorem dX7_init_15 : decode cX7_init 15 = .ok (.return_, 1) := by decide +kernel
theorem dX8_init_0 : decode cX8_init 0 = .ok (.aload_n 0, 1) := by decide +kernel
theorem dX8_init_1 : decode cX8_init 1 = .ok (.invokespecial 3, 3) := by decide +kernel
theorem dX8_init_4 : decode cX8_init 4 = .ok (.aload_n 0, 1) := by decide +kernel
theorem dX8_init_5 : decode cX8_init 5 = .ok (.bipush 6, 2) := by decide +kernel
theorem dX8_init_7 : decode cX8_init 7 = .ok (.newarray .long, 2) := by decide +kernel
theorem dX8_init_9 : decode cX8_init 9 = .ok (.putfield 9, 3) := by decide +kernel
theorem dX8_init_12 : decode cX8_init 12 = .ok (.aload_n 0, 1) := by decide +kernel
theorem dX8_init_13 : decode cX8_init 13 = .ok (.bipush 6, 2) := by decide +kernel
theorem dX8_init_15 : decode cX8_init 15 = .ok (.newarray .int, 2) := by decide +kernel
theorem dX8_init_17 : decode cX8_init 17 = .ok (.putfield 15, 3) := by decide +kernel
theorem dX8_init_20 : decode cX8_init 20 = .ok (.return_, 1) := by decide +kernel
theorem dX3_init_0 : decode cX3_init 0 = .ok (.aload_n 0, 1) := by decide +kernel
theorem dX3_init_1 : decode cX3_init 1 = .ok (.invokespecial 1, 3) := by decide +kernel
theorem dX3_init_4 : decode cX3_init 4 = .ok (.return_, 1) := by decide +kernel
theorem dX6_init_0 : decode cX6_init 0 = .ok (.aload_n 0, 1) := by decide +kernel
theorem dX6_init_1 : decode cX6_init 1 = .ok (.invokespecial 3, 3) := by decide +kernel
theorem dX6_init_4 : decode cX6_init 4 = .ok (.aload_n 0, 1) := by decide +kernel
theorem dX6_init_5 : decode cX6_init 5 = .ok (.bipush 120, 2) := by decide +kernel
theorem dX6_init_7 : decode cX6_init 7 = .ok (.newarray .int, 2) := by decide +kernel
theorem dX6_init_9 : decode cX6_init 9 = .ok (.putfield 9, 3) := by decide +kernel
theorem dX6_init_12 : decode cX6_init 12 = .ok (.return_, 1) := by decide +kernel
theorem dX5_init_0 : decode cX5_init 0 = .ok (.aload_n 0, 1) := by decide +kernel
theorem dX5_init_1 : decode cX5_init 1 = .ok (.invokespecial 3, 3) := by decide +kernel
theorem dX5_init_4 : decode cX5_init 4 = .ok (.aload_n 0, 1) := by decide +kernel
theorem dX5_init_5 : decode cX5_init 5 = .ok (.bipush 40, 2) := by decide +kernel
theorem dX5_init_7 : decode cX5_init 7 = .ok (.newarray .long, 2) := by decide +kernel
theorem dX5_init_9 : decode cX5_init 9 = .ok (.putfield 9, 3) := by decide +kernel
theorem dX5_init_12 : decode cX5_init 12 = .ok (.return_, 1) := by decide +kernel
theorem dX9_init_0 : decode cX9_init 0 = .ok (.aload_n 0, 1) := by decide +kernel
theorem dX9_init_1 : decode cX9_init 1 = .ok (.invokespecial 3, 3) := by decide +kernel
theorem dX9_init_4 : decode cX9_init 4 = .ok (.aload_n 0, 1) := by decide +kernel
theorem dX9_init_5 : decode cX9_init 5 = .ok (.new 9, 3) := by decide +kernel
theorem dX9_init_8 : decode cX9_init 8 = .ok (.dup, 1) := by decide +kernel
theorem dX9_init_9 : decode cX9_init 9 = .ok (.invokespecial 11, 3) := by decide +kernel
theorem dX9_init_12 : decode cX9_init 12 = .ok (.putfield 12, 3) := by decide +kernel
theorem dX9_init_15 : decode cX9_init 15 = .ok (.aload_n 0, 1) := by decide +kernel
theorem dX9_init_16 : decode cX9_init 16 = .ok (.new 9, 3) := by decide +kernel
theorem dX9_init_19 : decode cX9_init 19 = .ok (.dup, 1) := by decide +kernel
theorem dX9_init_20 : decode cX9_init 20 = .ok (.invokespecial 11, 3) := by decide +kernel
theorem dX9_init_23 : decode cX9_init 23 = .ok (.putfield 16, 3) := by decide +kernel
theorem dX9_init_26 : decode cX9_init 26 = .ok (.aload_n 0, 1) := by decide +kernel
theorem dX9_init_27 : decode cX9_init 27 = .ok (.new 9, 3) := by decide +kernel
theorem dX9_init_30 : decode cX9_init 30 = .ok (.dup, 1) := by decide +kernel
theorem dX9_init_31 : decode cX9_init 31 = .ok (.invokespecial 11, 3) := by decide +kernel
theorem dX9_init_34 : decode cX9_init 34 = .ok (.putfield 19, 3) := by decide +kernel
theorem dX9_init_37 : decode cX9_init 37 = .ok (.aload_n 0, 1) := by decide +kernel
theorem dX9_init_38 : decode cX9_init 38 = .ok (.new 22, 3) := by decide +kernel
theorem dX9_init_41 : decode cX9_init 41 = .ok (.dup, 1) := by decide +kernel
theorem dX9_init_42 : decode cX9_init 42 = .ok (.invokespecial 24, 3) := by decide +kernel
theorem dX9_init_45 : decode cX9_init 45 = .ok (.putfield 25, 3) := by decide +kernel
theorem dX9_init_48 : decode cX9_init 48 = .ok (.aload_n 0, 1) := by decide +kernel
theorem dX9_init_49 : decode cX9_init 49 = .ok (.new 29, 3) := by decide +kernel
theorem dX9_init_52 : decode cX9_init 52 = .ok (.dup, 1) := by decide +kernel
theorem dX9_init_53 : decode cX9_init 53 = .ok (.invokespecial 31, 3) := by decide +kernel
theorem dX9_init_56 : decode cX9_init 56 = .ok (.putfield 32, 3) := by decide +kernel
theorem dX9_init_59 : decode cX9_init 59 = .ok (.aload_n 0, 1) := by decide +kernel
theorem dX9_init_60 : decode cX9_init 60 = .ok (.new 36, 3) := by decide +kernel
theorem dX9_init_63 : decode cX9_init 63 = .ok (.dup, 1) := by decide +kernel
theorem dX9_init_64 : decode cX9_init 64 = .ok (.invokespecial 38, 3) := by decide +kernel
theorem dX9_init_67 : decode cX9_init 67 = .ok (.putfield 39, 3) := by decide +kernel
theorem dX9_init_70 : decode cX9_init 70 = .ok (.aload_n 0, 1) := by decide +kernel
theorem dX9_init_71 : decode cX9_init 71 = .ok (.new 43, 3) := by decide +kernel
theorem dX9_init_74 : decode cX9_init 74 = .ok (.dup, 1) := by decide +kernel
theorem dX9_init_75 : decode cX9_init 75 = .ok (.invokespecial 45, 3) := by decide +kernel
theorem dX9_init_78 : decode cX9_init 78 = .ok (.putfield 46, 3) := by decide +kernel
theorem dX9_init_81 : decode cX9_init 81 = .ok (.aload_n 0, 1) := by decide +kernel
theorem dX9_init_82 : decode cX9_init 82 = .ok (.new 50, 3) := by decide +kernel
theorem dX9_init_85 : decode cX9_init 85 = .ok (.dup, 1) := by decide +kernel
theorem dX9_init_86 : decode cX9_init 86 = .ok (.invokespecial 52, 3) := by decide +kernel
theorem dX9_init_89 : decode cX9_init 89 = .ok (.putfield 53, 3) := by decide +kernel
theorem dX9_init_92 : decode cX9_init 92 = .ok (.aload_n 0, 1) := by decide +kernel
theorem dX9_init_93 : decode cX9_init 93 = .ok (.new 57, 3) := by decide +kernel
theorem dX9_init_96 : decode cX9_init 96 = .ok (.dup, 1) := by decide +kernel
theorem dX9_init_97 : decode cX9_init 97 = .ok (.invokespecial 59, 3) := by decide +kernel
theorem dX9_init_100 : decode cX9_init 100 = .ok (.putfield 60, 3) := by decide +kernel
theorem dX9_init_103 : decode cX9_init 103 = .ok (.aload_n 0, 1) := by decide +kernel
theorem dX9_init_104 : decode cX9_init 104 = .ok (.iconst 4, 1) := by decide +kernel
theorem dX9_init_105 : decode cX9_init 105 = .ok (.anewarray 64, 3) := by decide +kernel
theorem dX9_init_108 : decode cX9_init 108 = .ok (.putfield 66, 3) := by decide +kernel
theorem dX9_init_111 : decode cX9_init 111 = .ok (.aload_n 0, 1) := by decide +kernel
theorem dX9_init_112 : decode cX9_init 112 = .ok (.bipush 9, 2) := by decide +kernel
theorem dX9_init_114 : decode cX9_init 114 = .ok (.newarray .int, 2) := by decide +kernel
theorem dX9_init_116 : decode cX9_init 116 = .ok (.putfield 70, 3) := by decide +kernel
theorem dX9_init_119 : decode cX9_init 119 = .ok (.iconst 0, 1) := by decide +kernel
theorem dX9_init_120 : decode cX9_init 120 = .ok (.istore_n 1, 1) := by decide +kernel
theorem dX9_init_121 : decode cX9_init 121 = .ok (.iload_n 1, 1) := by decide +kernel
theorem dX9_init_122 : decode cX9_init 122 = .ok (.iconst 4, 1) := by decide +kernel
theorem dX9_init_123 : decode cX9_init 123 = .ok (.if_icmp .ge 22, 3) := by decide +kernel
theorem dX9_init_126 : decode cX9_init 126 = .ok (.aload_n 0, 1) := by decide +kernel
theorem dX9_init_127 : decode cX9_init 127 = .ok (.getfield 66, 3) := by decide +kernel
theorem dX9_init_130 : decode cX9_init 130 = .ok (.iload_n 1, 1) := by decide +kernel
theorem dX9_init_131 : decode cX9_init 131 = .ok (.new 64, 3) := by decide +kernel
theorem dX9_init_134 : decode cX9_init 134 = .ok (.dup, 1) := by decide +kernel
theorem dX9_init_135 : decode cX9_init 135 = .ok (.invokespecial 74, 3) := by decide +kernel
theorem dX9_init_138 : decode cX9_init 138 = .ok (.aastore, 1) := by decide +kernel
theorem dX9_init_139 : decode cX9_init 139 = .ok (.iinc 1 1, 3) := by decide +kernel
theorem dX9_init_142 : decode cX9_init 142 = .ok (.goto (-21), 3) := by decide +kernel
theorem dX9_init_145 : decode cX9_init 145 = .ok (.return_, 1) := by decide +kernel
theorem dX10_init_0 : decode cX10_init 0 = .ok (.aload_n 0, 1) := by decide +kernel
theorem dX10_init_1 : decode cX10_init 1 = .ok (.invokespecial 3, 3) := by decide +kernel
theorem dX10_init_4 : decode cX10_init 4 = .ok (.aload_n 0, 1) := by decide +kernel
theorem dX10_init_5 : decode cX10_init 5 = .ok (.bipush 9, 2) := by decide +kernel
theorem dX10_init_7 : decode cX10_init 7 = .ok (.newarray .int, 2) := by decide +kernel
theorem dX10_init_9 : decode cX10_init 9 = .ok (.putfield 9, 3) := by decide +kernel
theorem dX10_init_12 : decode cX10_init 12 = .ok (.aload_n 0, 1) := by decide +kernel
theorem dX10_init_13 : decode cX10_init 13 = .ok (.iconst 2, 1) := by decide +kernel
theorem dX10_init_14 : decode cX10_init 14 = .ok (.putfield 15, 3) := by decide +kernel
theorem dX10_init_17 : decode cX10_init 17 = .ok (.aload_n 0, 1) := by decide +kernel
theorem dX10_init_18 : decode cX10_init 18 = .ok (.bipush 84, 2) := by decide +kernel
theorem dX10_init_20 : decode cX10_init 20 = .ok (.newarray .int, 2) := by decide +kernel
theorem dX10_init_22 : decode cX10_init 22 = .ok (.putfield 19, 3) := by decide +kernel
theorem dX10_init_25 : decode cX10_init 25 = .ok (.aload_n 0, 1) := by decide +kernel
theorem dX10_init_26 : decode cX10_init 26 = .ok (.bipush 24, 2) := by decide +kernel
theorem dX10_init_28 : decode cX10_init 28 = .ok (.newarray .int, 2) := by decide +kernel
theorem dX10_init_30 : decode cX10_init 30 = .ok (.putfield 22, 3) := by decide +kernel
theorem dX10_init_33 : decode cX10_init 33 = .ok (.aload_n 0, 1) := by decide +kernel
theorem dX10_init_34 : decode cX10_init 34 = .ok (.iconst 2, 1) := by decide +kernel
theorem dX10_init_35 : decode cX10_init 35 = .ok (.newarray .int, 2) := by decide +kernel
theorem dX10_init_37 : decode cX10_init 37 = .ok (.putfield 25, 3) := by decide +kernel
theorem dX10_init_40 : decode cX10_init 40 = .ok (.aload_n 0, 1) := by decide +kernel
theorem dX10_init_41 : decode cX10_init 41 = .ok (.bipush 6, 2) := by decide +kernel
theorem dX10_init_43 : decode cX10_init 43 = .ok (.newarray .long, 2) := by decide +kernel
theorem dX10_init_45 : decode cX10_init 45 = .ok (.putfield 28, 3) := by decide +kernel
theorem dX10_init_48 : decode cX10_init 48 = .ok (.aload_n 0, 1) := by decide +kernel
theorem dX10_init_49 : decode cX10_init 49 = .ok (.iconst 4, 1) := by decide +kernel
theorem dX10_init_50 : decode cX10_init 50 = .ok (.newarray .int, 2) := by decide +kernel
theorem dX10_init_52 : decode cX10_init 52 = .ok (.putfield 32, 3) := by decide +kernel
theorem dX10_init_55 : decode cX10_init 55 = .ok (.aload_n 0, 1) := by decide +kernel
theorem dX10_init_56 : decode cX10_init 56 = .ok (.iconst 4, 1) := by decide +kernel
theorem dX10_init_57 : decode cX10_init 57 = .ok (.newarray .int, 2) := by decide +kernel
theorem dX10_init_59 : decode cX10_init 59 = .ok (.putfield 35, 3) := by decide +kernel
theorem dX10_init_62 : decode cX10_init 62 = .ok (.aload_n 0, 1) := by decide +kernel
theorem dX10_init_63 : decode cX10_init 63 = .ok (.sipush 160, 3) := by decide +kernel
theorem dX10_init_66 : decode cX10_init 66 = .ok (.newarray .long, 2) := by decide +kernel
theorem dX10_init_68 : decode cX10_init 68 = .ok (.putfield 38, 3) := by decide +kernel
theorem dX10_init_71 : decode cX10_init 71 = .ok (.aload_n 0, 1) := by decide +kernel
theorem dX10_init_72 : decode cX10_init 72 = .ok (.bipush 40, 2) := by decide +kernel
theorem dX10_init_74 : decode cX10_init 74 = .ok (.newarray .long, 2) := by decide +kernel
theorem dX10_init_76 : decode cX10_init 76 = .ok (.putfield 41, 3) := by decide +kernel
theorem dX10_init_79 : decode cX10_init 79 = .ok (.aload_n 0, 1) := by decide +kernel
theorem dX10_init_80 : decode cX10_init 80 = .ok (.bipush 120, 2) := by decide +kernel
theorem dX10_init_82 : decode cX10_init 82 = .ok (.newarray .int, 2) := by decide +kernel
theorem dX10_init_84 : decode cX10_init 84 = .ok (.putfield 44, 3) := by decide +kernel
theorem dX10_init_87 : decode cX10_init 87 = .ok (.aload_n 0, 1) := by decide +kernel
theorem dX10_init_88 : decode cX10_init 88 = .ok (.bipush 104, 2) := by decide +kernel
theorem dX10_init_90 : decode cX10_init 90 = .ok (.newarray .char, 2) := by decide +kernel
theorem dX10_init_92 : decode cX10_init 92 = .ok (.dup, 1) := by decide +kernel
theorem dX10_init_93 : decode cX10_init 93 = .ok (.iconst 0, 1) := by decide +kernel
theorem dX10_init_94 : decode cX10_init 94 = .ok (.bipush 119, 2) := by decide +kernel
theorem dX10_init_96 : decode cX10_init 96 = .ok (.castore, 1) := by decide +kernel
theorem dX10_init_97 : decode cX10_init 97 = .ok (.dup, 1) := by decide +kernel
theorem dX10_init_98 : decode cX10_init 98 = .ok (.iconst 1, 1) := by decide +kernel
theorem dX10_init_99 : decode cX10_init 99 = .ok (.bipush 97, 2) := by decide +kernel
theorem dX10_init_101 : decode cX10_init 101 = .ok (.castore, 1) := by decide +kernel
theorem dX10_init_102 : decode cX10_init 102 = .ok (.dup, 1) := by decide +kernel
theorem dX10_init_103 : decode cX10_init 103 = .ok (.iconst 2, 1) := by decide +kernel
theorem dX10_init_104 : decode cX10_init 104 = .ok (.bipush 121, 2) := by decide +kernel
theorem dX10_init_106 : decode cX10_init 106 = .ok (.castore, 1) := by decide +kernel
theorem dX10_init_107 : decode cX10_init 107 = .ok (.dup, 1) := by decide +kernel
theorem dX10_init_108 : decode cX10_init 108 = .ok (.iconst 3, 1) := by decide +kernel
theorem dX10_init_109 : decode cX10_init 109 = .ok (.bipush 32, 2) := by decide +kernel
theorem dX10_init_111 : decode cX10_init 111 = .ok (.castore, 1) := by decide +kernel
theorem dX10_init_112 : decode cX10_init 112 = .ok (.dup, 1) := by decide +kernel
theorem dX10_init_113 : decode cX10_init 113 = .ok (.iconst 4, 1) := by decide +kernel
theorem dX10_init_114 : decode cX10_init 114 = .ok (.bipush 32, 2) := by decide +kernel
theorem dX10_init_116 : decode cX10_init 116 = .ok (.castore, 1) := by decide +kernel
theorem dX10_init_117 : decode cX10_init 117 = .ok (.dup, 1) := by decide +kernel
theorem dX10_init_118 : decode cX10_init 118 = .ok (.iconst 5, 1) := by decide +kernel
theorem dX10_init_119 : decode cX10_init 119 = .ok (.bipush 32, 2) := by decide +kernel
theorem dX10_init_121 : decode cX10_init 121 = .ok (.castore, 1) := by decide +kernel
theorem dX10_init_122 : decode cX10_init 122 = .ok (.dup, 1) := by decide +kernel
theorem dX10_init_123 : decode cX10_init 123 = .ok (.bipush 6, 2) := by decide +kernel
theorem dX10_init_125 : decode cX10_init 125 = .ok (.bipush 32, 2) := by decide +kernel
theorem dX10_init_127 : decode cX10_init 127 = .ok (.castore, 1) := by decide +kernel
theorem dX10_init_128 : decode cX10_init 128 = .ok (.dup, 1) := by decide +kernel
theorem dX10_init_129 : decode cX10_init 129 = .ok (.bipush 7, 2) := by decide +kernel
theorem dX10_init_131 : decode cX10_init 131 = .ok (.bipush 32, 2) := by decide +kernel
theorem dX10_init_133 : decode cX10_init 133 = .ok (.castore, 1) := by decide +kernel
theorem dX10_init_134 : decode cX10_init 134 = .ok (.dup, 1) := by decide +kernel
theorem dX10_init_135 : decode cX10_init 135 = .ok (.bipush 8, 2) := by decide +kernel
theorem dX10_init_137 : decode cX10_init 137 = .ok (.bipush 116, 2) := by decide +kernel
theorem dX10_init_139 : decode cX10_init 139 = .ok (.castore, 1) := by decide +kernel
theorem dX10_init_140 : decode cX10_init 140 = .ok (.dup, 1) := by decide +kernel
theorem dX10_init_141 : decode cX10_init 141 = .ok (.bipush 9, 2) := by decide +kernel
theorem dX10_init_143 : decode cX10_init 143 = .ok (.bipush 111, 2) := by decide +kernel
theorem dX10_init_145 : decode cX10_init 145 = .ok (.castore, 1) := by decide +kernel
theorem dX10_init_146 : decode cX10_init 146 = .ok (.dup, 1) := by decide +kernel
theorem dX10_init_147 : decode cX10_init 147 = .ok (.bipush 10, 2) := by decide +kernel
theorem dX10_init_149 : decode cX10_init 149 = .ok (.bipush 108, 2) := by decide +kernel
theorem dX10_init_151 : decode cX10_init 151 = .ok (.castore, 1) := by decide +kernel
theorem dX10_init_152 : decode cX10_init 152 = .ok (.dup, 1) := by decide +kernel
theorem dX10_init_153 : decode cX10_init 153 = .ok (.bipush 11, 2) := by decide +kernel
theorem dX10_init_155 : decode cX10_init 155 = .ok (.bipush 108, 2) := by decide +kernel
theorem dX10_init_157 : decode cX10_init 157 = .ok (.castore, 1) := by decide +kernel
theorem dX10_init_158 : decode cX10_init 158 = .ok (.dup, 1) := by decide +kernel
theorem dX10_init_159 : decode cX10_init 159 = .ok (.bipush 12, 2) := by decide +kernel
theorem dX10_init_161 : decode cX10_init 161 = .ok (.bipush 32, 2) := by decide +kernel
theorem dX10_init_163 : decode cX10_init 163 = .ok (.castore, 1) := by decide +kernel
theorem dX10_init_164 : decode cX10_init 164 = .ok (.dup, 1) := by decide +kernel
theorem dX10_init_165 : decode cX10_init 165 = .ok (.bipush 13, 2) := by decide +kernel
theorem dX10_init_167 : decode cX10_init 167 = .ok (.bipush 32, 2) := by decide +kernel
theorem dX10_init_169 : decode cX10_init 169 = .ok (.castore, 1) := by decide +kernel
theorem dX10_init_170 : decode cX10_init 170 = .ok (.dup, 1) := by decide +kernel
theorem dX10_init_171 : decode cX10_init 171 = .ok (.bipush 14, 2) := by decide +kernel
theorem dX10_init_173 : decode cX10_init 173 = .ok (.bipush 32, 2) := by decide +kernel
theorem dX10_init_175 : decode cX10_init 175 = .ok (.castore, 1) := by decide +kernel
theorem dX10_init_176 : decode cX10_init 176 = .ok (.dup, 1) := by decide +kernel
theorem dX10_init_177 : decode cX10_init 177 = .ok (.bipush 15, 2) := by decide +kernel
theorem dX10_init_179 : decode cX10_init 179 = .ok (.bipush 32, 2) := by decide +kernel
theorem dX10_init_181 : decode cX10_init 181 = .ok (.castore, 1) := by decide +kernel
theorem dX10_init_182 : decode cX10_init 182 = .ok (.dup, 1) := by decide +kernel
theorem dX10_init_183 : decode cX10_init 183 = .ok (.bipush 16, 2) := by decide +kernel
theorem dX10_init_185 : decode cX10_init 185 = .ok (.bipush 102, 2) := by decide +kernel
theorem dX10_init_187 : decode cX10_init 187 = .ok (.castore, 1) := by decide +kernel
theorem dX10_init_188 : decode cX10_init 188 = .ok (.dup, 1) := by decide +kernel
theorem dX10_init_189 : decode cX10_init 189 = .ok (.bipush 17, 2) := by decide +kernel
theorem dX10_init_191 : decode cX10_init 191 = .ok (.bipush 111, 2) := by decide +kernel
theorem dX10_init_193 : decode cX10_init 193 = .ok (.castore, 1) := by decide +kernel
theorem dX10_init_194 : decode cX10_init 194 = .ok (.dup, 1) := by decide +kernel
theorem dX10_init_195 : decode cX10_init 195 = .ok (.bipush 18, 2) := by decide +kernel
theorem dX10_init_197 : decode cX10_init 197 = .ok (.bipush 114, 2) := by decide +kernel
theorem dX10_init_199 : decode cX10_init 199 = .ok (.castore, 1) := by decide +kernel
theorem dX10_init_200 : decode cX10_init 200 = .ok (.dup, 1) := by decide +kernel
theorem dX10_init_201 : decode cX10_init 201 = .ok (.bipush 19, 2) := by decide +kernel
theorem dX10_init_203 : decode cX10_init 203 = .ok (.bipush 100, 2) := by decide +kernel
theorem dX10_init_205 : decode cX10_init 205 = .ok (.castore, 1) := by decide +kernel
theorem dX10_init_206 : decode cX10_init 206 = .ok (.dup, 1) := by decide +kernel
theorem dX10_init_207 : decode cX10_init 207 = .ok (.bipush 20, 2) := by decide +kernel
theorem dX10_init_209 : decode cX10_init 209 = .ok (.bipush 32, 2) := by decide +kernel
theorem dX10_init_211 : decode cX10_init 211 = .ok (.castore, 1) := by decide +kernel
theorem dX10_init_212 : decode cX10_init 212 = .ok (.dup, 1) := by decide +kernel
theorem dX10_init_213 : decode cX10_init 213 = .ok (.bipush 21, 2) := by decide +kernel
theorem dX10_init_215 : decode cX10_init 215 = .ok (.bipush 32, 2) := by decide +kernel
theorem dX10_init_217 : decode cX10_init 217 = .ok (.castore, 1) := by decide +kernel
theorem dX10_init_218 : decode cX10_init 218 = .ok (.dup, 1) := by decide +kernel
theorem dX10_init_219 : decode cX10_init 219 = .ok (.bipush 22, 2) := by decide +kernel
theorem dX10_init_221 : decode cX10_init 221 = .ok (.bipush 32, 2) := by decide +kernel
theorem dX10_init_223 : decode cX10_init 223 = .ok (.castore, 1) := by decide +kernel
theorem dX10_init_224 : decode cX10_init 224 = .ok (.dup, 1) := by decide +kernel
theorem dX10_init_225 : decode cX10_init 225 = .ok (.bipush 23, 2) := by decide +kernel
theorem dX10_init_227 : decode cX10_init 227 = .ok (.bipush 32, 2) := by decide +kernel
theorem dX10_init_229 : decode cX10_init 229 = .ok (.castore, 1) := by decide +kernel
theorem dX10_init_230 : decode cX10_init 230 = .ok (.dup, 1) := by decide +kernel
theorem dX10_init_231 : decode cX10_init 231 = .ok (.bipush 24, 2) := by decide +kernel
theorem dX10_init_233 : decode cX10_init 233 = .ok (.bipush 98, 2) := by decide +kernel
theorem dX10_init_235 : decode cX10_init 235 = .ok (.castore, 1) := by decide +kernel
theorem dX10_init_236 : decode cX10_init 236 = .ok (.dup, 1) := by decide +kernel
theorem dX10_init_237 : decode cX10_init 237 = .ok (.bipush 25, 2) := by decide +kernel
theorem dX10_init_239 : decode cX10_init 239 = .ok (.bipush 114, 2) := by decide +kernel
theorem dX10_init_241 : decode cX10_init 241 = .ok (.castore, 1) := by decide +kernel
theorem dX10_init_242 : decode cX10_init 242 = .ok (.dup, 1) := by decide +kernel
theorem dX10_init_243 : decode cX10_init 243 = .ok (.bipush 26, 2) := by decide +kernel
theorem dX10_init_245 : decode cX10_init 245 = .ok (.bipush 105, 2) := by decide +kernel
theorem dX10_init_247 : decode cX10_init 247 = .ok (.castore, 1) := by decide +kernel
theorem dX10_init_248 : decode cX10_init 248 = .ok (.dup, 1) := by decide +kernel
theorem dX10_init_249 : decode cX10_init 249 = .ok (.bipush 27, 2) := by decide +kernel
theorem dX10_init_251 : decode cX10_init 251 = .ok (.bipush 100, 2) := by decide +kernel
theorem dX10_init_253 : decode cX10_init 253 = .ok (.castore, 1) := by decide +kernel
theorem dX10_init_254 : decode cX10_init 254 = .ok (.dup, 1) := by decide +kernel
theorem dX10_init_255 : decode cX10_init 255 = .ok (.bipush 28, 2) := by decide +kernel
theorem dX10_init_257 : decode cX10_init 257 = .ok (.bipush 103, 2) := by decide +kernel
theorem dX10_init_259 : decode cX10_init 259 = .ok (.castore, 1) := by decide +kernel
theorem dX10_init_260 : decode cX10_init 260 = .ok (.dup, 1) := by decide +kernel
theorem dX10_init_261 : decode cX10_init 261 = .ok (.bipush 29, 2) := by decide +kernel
theorem dX10_init_263 : decode cX10_init 263 = .ok (.bipush 101, 2) := by decide +kernel
theorem dX10_init_265 : decode cX10_init 265 = .ok (.castore, 1) := by decide +kernel
theorem dX10_init_266 : decode cX10_init 266 = .ok (.dup, 1) := by decide +kernel
theorem dX10_init_267 : decode cX10_init 267 = .ok (.bipush 30, 2) := by decide +kernel
theorem dX10_init_269 : decode cX10_init 269 = .ok (.bipush 32, 2) := by decide +kernel
theorem dX10_init_271 : decode cX10_init 271 = .ok (.castore, 1) := by decide +kernel
theorem dX10_init_272 : decode cX10_init 272 = .ok (.dup, 1) := by decide +kernel
theorem dX10_init_273 : decode cX10_init 273 = .ok (.bipush 31, 2) := by decide +kernel
theorem dX10_init_275 : decode cX10_init 275 = .ok (.bipush 32, 2) := by decide +kernel
theorem dX10_init_277 : decode cX10_init 277 = .ok (.castore, 1) := by decide +kernel
theorem dX10_init_278 : decode cX10_init 278 = .ok (.dup, 1) := by decide +kernel
theorem dX10_init_279 : decode cX10_init 279 = .ok (.bipush 32, 2) := by decide +kernel
theorem dX10_init_281 : decode cX10_init 281 = .ok (.bipush 109, 2) := by decide +kernel
theorem dX10_init_283 : decode cX10_init 283 = .ok (.castore, 1) := by decide +kernel
theorem dX10_init_284 : decode cX10_init 284 = .ok (.dup, 1) := by decide +kernel
theorem dX10_init_285 : decode cX10_init 285 = .ok (.bipush 33, 2) := by decide +kernel
theorem dX10_init_287 : decode cX10_init 287 = .ok (.bipush 105, 2) := by decide +kernel
theorem dX10_init_289 : decode cX10_init 289 = .ok (.castore, 1) := by decide +kernel
theorem dX10_init_290 : decode cX10_init 290 = .ok (.dup, 1) := by decide +kernel
theorem dX10_init_291 : decode cX10_init 291 = .ok (.bipush 34, 2) := by decide +kernel
theorem dX10_init_293 : decode cX10_init 293 = .ok (.bipush 114, 2) := by decide +kernel
theorem dX10_init_295 : decode cX10_init 295 = .ok (.castore, 1) := by decide +kernel
theorem dX10_init_296 : decode cX10_init 296 = .ok (.dup, 1) := by decide +kernel
theorem dX10_init_297 : decode cX10_init 297 = .ok (.bipush 35, 2) := by decide +kernel
theorem dX10_init_299 : decode cX10_init 299 = .ok (.bipush 101, 2) := by decide +kernel
theorem dX10_init_301 : decode cX10_init 301 = .ok (.castore, 1) := by decide +kernel
theorem dX10_init_302 : decode cX10_init 302 = .ok (.dup, 1) := by decide +kernel
theorem dX10_init_303 : decode cX10_init 303 = .ok (.bipush 36, 2) := by decide +kernel
theorem dX10_init_305 : decode cX10_init 305 = .ok (.bipush 32, 2) := by decide +kernel
theorem dX10_init_307 : decode cX10_init 307 = .ok (.castore, 1) := by decide +kernel
theorem dX10_init_308 : decode cX10_init 308 = .ok (.dup, 1) := by decide +kernel
theorem dX10_init_309 : decode cX10_init 309 = .ok (.bipush 37, 2) := by decide +kernel
theorem dX10_init_311 : decode cX10_init 311 = .ok (.bipush 32, 2) := by decide +kernel
theorem dX10_init_313 : decode cX10_init 313 = .ok (.castore, 1) := by decide +kernel
theorem dX10_init_314 : decode cX10_init 314 = .ok (.dup, 1) := by decide +kernel
theorem dX10_init_315 : decode cX10_init 315 = .ok (.bipush 38, 2) := by decide +kernel
theorem dX10_init_317 : decode cX10_init 317 = .ok (.bipush 32, 2) := by decide +kernel
theorem dX10_init_319 : decode cX10_init 319 = .ok (.castore, 1) := by decide +kernel
theorem dX10_init_320 : decode cX10_init 320 = .ok (.dup, 1) := by decide +kernel
theorem dX10_init_321 : decode cX10_init 321 = .ok (.bipush 39, 2) := by decide +kernel
theorem dX10_init_323 : decode cX10_init 323 = .ok (.bipush 32, 2) := by decide +kernel
theorem dX10_init_325 : decode cX10_init 325 = .ok (.castore, 1) := by decide +kernel
theorem dX10_init_326 : decode cX10_init 326 = .ok (.dup, 1) := by decide +kernel
theorem dX10_init_327 : decode cX10_init 327 = .ok (.bipush 40, 2) := by decide +kernel
theorem dX10_init_329 : decode cX10_init 329 = .ok (.bipush 115, 2) := by decide +kernel
theorem dX10_init_331 : decode cX10_init 331 = .ok (.castore, 1) := by decide +kernel
theorem dX10_init_332 : decode cX10_init 332 = .ok (.dup, 1) := by decide +kernel
theorem dX10_init_333 : decode cX10_init 333 = .ok (.bipush 41, 2) := by decide +kernel
theorem dX10_init_335 : decode cX10_init 335 = .ok (.bipush 116, 2) := by decide +kernel
theorem dX10_init_337 : decode cX10_init 337 = .ok (.castore, 1) := by decide +kernel
theorem dX10_init_338 : decode cX10_init 338 = .ok (.dup, 1) := by decide +kernel
theorem dX10_init_339 : decode cX10_init 339 = .ok (.bipush 42, 2) := by decide +kernel
theorem dX10_init_341 : decode cX10_init 341 = .ok (.bipush 97, 2) := by decide +kernel
theorem dX10_init_343 : decode cX10_init 343 = .ok (.castore, 1) := by decide +kernel
theorem dX10_init_344 : decode cX10_init 344 = .ok (.dup, 1) := by decide +kernel
theorem dX10_init_345 : decode cX10_init 345 = .ok (.bipush 43, 2) := by decide +kernel
theorem dX10_init_347 : decode cX10_init 347 = .ok (.bipush 105, 2) := by decide +kernel
theorem dX10_init_349 : decode cX10_init 349 = .ok (.castore, 1) := by decide +kernel
theorem dX10_init_350 : decode cX10_init 350 = .ok (.dup, 1) := by decide +kernel
theorem dX10_init_351 : decode cX10_init 351 = .ok (.bipush 44, 2) := by decide +kernel
theorem dX10_init_353 : decode cX10_init 353 = .ok (.bipush 114, 2) := by decide +kernel
theorem dX10_init_355 : decode cX10_init 355 = .ok (.castore, 1) := by decide +kernel
theorem dX10_init_356 : decode cX10_init 356 = .ok (.dup, 1) := by decide +kernel
theorem dX10_init_357 : decode cX10_init 357 = .ok (.bipush 45, 2) := by decide +kernel
theorem dX10_init_359 : decode cX10_init 359 = .ok (.bipush 32, 2) := by decide +kernel
theorem dX10_init_361 : decode cX10_init 361 = .ok (.castore, 1) := by decide +kernel
theorem dX10_init_362 : decode cX10_init 362 = .ok (.dup, 1) := by decide +kernel
theorem dX10_init_363 : decode cX10_init 363 = .ok (.bipush 46, 2) := by decide +kernel
theorem dX10_init_365 : decode cX10_init 365 = .ok (.bipush 32, 2) := by decide +kernel
theorem dX10_init_367 : decode cX10_init 367 = .ok (.castore, 1) := by decide +kernel
theorem dX10_init_368 : decode cX10_init 368 = .ok (.dup, 1) := by decide +kernel
theorem dX10_init_369 : decode cX10_init 369 = .ok (.bipush 47, 2) := by decide +kernel
theorem dX10_init_371 : decode cX10_init 371 = .ok (.bipush 32, 2) := by decide +kernel
theorem dX10_init_373 : decode cX10_init 373 = .ok (.castore, 1) := by decide +kernel
theorem dX10_init_374 : decode cX10_init 374 = .ok (.dup, 1) := by decide +kernel
theorem dX10_init_375 : decode cX10_init 375 = .ok (.bipush 48, 2) := by decide +kernel
theorem dX10_init_377 : decode cX10_init 377 = .ok (.bipush 116, 2) := by decide +kernel
theorem dX10_init_379 : decode cX10_init 379 = .ok (.castore, 1) := by decide +kernel
theorem dX10_init_380 : decode cX10_init 380 = .ok (.dup, 1) := by decide +kernel
theorem dX10_init_381 : decode cX10_init 381 = .ok (.bipush 49, 2) := by decide +kernel
theorem dX10_init_383 : decode cX10_init 383 = .ok (.bipush 104, 2) := by decide +kernel
theorem dX10_init_385 : decode cX10_init 385 = .ok (.castore, 1) := by decide +kernel
theorem dX10_init_386 : decode cX10_init 386 = .ok (.dup, 1) := by decide +kernel
theorem dX10_init_387 : decode cX10_init 387 = .ok (.bipush 50, 2) := by decide +kernel
theorem dX10_init_389 : decode cX10_init 389 = .ok (.bipush 105, 2) := by decide +kernel
theorem dX10_init_391 : decode cX10_init 391 = .ok (.castore, 1) := by decide +kernel
theorem dX10_init_392 : decode cX10_init 392 = .ok (.dup, 1) := by decide +kernel
theorem dX10_init_393 : decode cX10_init 393 = .ok (.bipush 51, 2) := by decide +kernel
theorem dX10_init_395 : decode cX10_init 395 = .ok (.bipush 110, 2) := by decide +kernel
theorem dX10_init_397 : decode cX10_init 397 = .ok (.castore, 1) := by decide +kernel
theorem dX10_init_398 : decode cX10_init 398 = .ok (.dup, 1) := by decide +kernel
theorem dX10_init_399 : decode cX10_init 399 = .ok (.bipush 52, 2) := by decide +kernel
theorem dX10_init_401 : decode cX10_init 401 = .ok (.bipush 103, 2) := by decide +kernel
theorem dX10_init_403 : decode cX10_init 403 = .ok (.castore, 1) := by decide +kernel
theorem dX10_init_404 : decode cX10_init 404 = .ok (.dup, 1) := by decide +kernel
theorem dX10_init_405 : decode cX10_init 405 = .ok (.bipush 53, 2) := by decide +kernel
theorem dX10_init_407 : decode cX10_init 407 = .ok (.bipush 32, 2) := by decide +kernel
theorem dX10_init_409 : decode cX10_init 409 = .ok (.castore, 1) := by decide +kernel
theorem dX10_init_410 : decode cX10_init 410 = .ok (.dup, 1) := by decide +kernel
theorem dX10_init_411 : decode cX10_init 411 = .ok (.bipush 54, 2) := by decide +kernel
theorem dX10_init_413 : decode cX10_init 413 = .ok (.bipush 32, 2) := by decide +kernel
theorem dX10_init_415 : decode cX10_init 415 = .ok (.castore, 1) := by decide +kernel
theorem dX10_init_416 : decode cX10_init 416 = .ok (.dup, 1) := by decide +kernel
theorem dX10_init_417 : decode cX10_init 417 = .ok (.bipush 55, 2) := by decide +kernel
theorem dX10_init_419 : decode cX10_init 419 = .ok (.bipush 32, 2) := by decide +kernel
theorem dX10_init_421 : decode cX10_init 421 = .ok (.castore, 1) := by decide +kernel
theorem dX10_init_422 : decode cX10_init 422 = .ok (.dup, 1) := by decide +kernel
theorem dX10_init_423 : decode cX10_init 423 = .ok (.bipush 56, 2) := by decide +kernel
theorem dX10_init_425 : decode cX10_init 425 = .ok (.bipush 112, 2) := by decide +kernel
theorem dX10_init_427 : decode cX10_init 427 = .ok (.castore, 1) := by decide +kernel
theorem dX10_init_428 : decode cX10_init 428 = .ok (.dup, 1) := by decide +kernel
theorem dX10_init_429 : decode cX10_init 429 = .ok (.bipush 57, 2) := by decide +kernel
theorem dX10_init_431 : decode cX10_init 431 = .ok (.bipush 108, 2) := by decide +kernel
theorem dX10_init_433 : decode cX10_init 433 = .ok (.castore, 1) := by decide +kernel
theorem dX10_init_434 : decode cX10_init 434 = .ok (.dup, 1) := by decide +kernel
theorem dX10_init_435 : decode cX10_init 435 = .ok (.bipush 58, 2) := by decide +kernel
theorem dX10_init_437 : decode cX10_init 437 = .ok (.bipush 97, 2) := by decide +kernel
theorem dX10_init_439 : decode cX10_init 439 = .ok (.castore, 1) := by decide +kernel
theorem dX10_init_440 : decode cX10_init 440 = .ok (.dup, 1) := by decide +kernel
theorem dX10_init_441 : decode cX10_init 441 = .ok (.bipush 59, 2) := by decide +kernel
theorem dX10_init_443 : decode cX10_init 443 = .ok (.bipush 99, 2) := by decide +kernel
theorem dX10_init_445 : decode cX10_init 445 = .ok (.castore, 1) := by decide +kernel
theorem dX10_init_446 : decode cX10_init 446 = .ok (.dup, 1) := by decide +kernel
theorem dX10_init_447 : decode cX10_init 447 = .ok (.bipush 60, 2) := by decide +kernel
theorem dX10_init_449 : decode cX10_init 449 = .ok (.bipush 101, 2) := by decide +kernel
theorem dX10_init_451 : decode cX10_init 451 = .ok (.castore, 1) := by decide +kernel
theorem dX10_init_452 : decode cX10_init 452 = .ok (.dup, 1) := by decide +kernel
theorem dX10_init_453 : decode cX10_init 453 = .ok (.bipush 61, 2) := by decide +kernel
theorem dX10_init_455 : decode cX10_init 455 = .ok (.bipush 115, 2) := by decide +kernel
theorem dX10_init_457 : decode cX10_init 457 = .ok (.castore, 1) := by decide +kernel
theorem dX10_init_458 : decode cX10_init 458 = .ok (.dup, 1) := by decide +kernel
theorem dX10_init_459 : decode cX10_init 459 = .ok (.bipush 62, 2) := by decide +kernel
theorem dX10_init_461 : decode cX10_init 461 = .ok (.bipush 32, 2) := by decide +kernel
theorem dX10_init_463 : decode cX10_init 463 = .ok (.castore, 1) := by decide +kernel
theorem dX10_init_464 : decode cX10_init 464 = .ok (.dup, 1) := by decide +kernel
theorem dX10_init_465 : decode cX10_init 465 = .ok (.bipush 63, 2) := by decide +kernel
theorem dX10_init_467 : decode cX10_init 467 = .ok (.bipush 32, 2) := by decide +kernel
theorem dX10_init_469 : decode cX10_init 469 = .ok (.castore, 1) := by decide +kernel
theorem dX10_init_470 : decode cX10_init 470 = .ok (.dup, 1) := by decide +kernel
theorem dX10_init_471 : decode cX10_init 471 = .ok (.bipush 64, 2) := by decide +kernel
theorem dX10_init_473 : decode cX10_init 473 = .ok (.bipush 119, 2) := by decide +kernel
theorem dX10_init_475 : decode cX10_init 475 = .ok (.castore, 1) := by decide +kernel
theorem dX10_init_476 : decode cX10_init 476 = .ok (.dup, 1) := by decide +kernel
theorem dX10_init_477 : decode cX10_init 477 = .ok (.bipush 65, 2) := by decide +kernel
theorem dX10_init_479 : decode cX10_init 479 = .ok (.bipush 101, 2) := by decide +kernel
theorem dX10_init_481 : decode cX10_init 481 = .ok (.castore, 1) := by decide +kernel
theorem dX10_init_482 : decode cX10_init 482 = .ok (.dup, 1) := by decide +kernel
theorem dX10_init_483 : decode cX10_init 483 = .ok (.bipush 66, 2) := by decide +kernel
theorem dX10_init_485 : decode cX10_init 485 = .ok (.bipush 97, 2) := by decide +kernel
theorem dX10_init_487 : decode cX10_init 487 = .ok (.castore, 1) := by decide +kernel
theorem dX10_init_488 : decode cX10_init 488 = .ok (.dup, 1) := by decide +kernel
theorem dX10_init_489 : decode cX10_init 489 = .ok (.bipush 67, 2) := by decide +kernel
theorem dX10_init_491 : decode cX10_init 491 = .ok (.bipush 116, 2) := by decide +kernel
theorem dX10_init_493 : decode cX10_init 493 = .ok (.castore, 1) := by decide +kernel
theorem dX10_init_494 : decode cX10_init 494 = .ok (.dup, 1) := by decide +kernel
theorem dX10_init_495 : decode cX10_init 495 = .ok (.bipush 68, 2) := by decide +kernel
theorem dX10_init_497 : decode cX10_init 497 = .ok (.bipush 104, 2) := by decide +kernel
theorem dX10_init_499 : decode cX10_init 499 = .ok (.castore, 1) := by decide +kernel
theorem dX10_init_500 : decode cX10_init 500 = .ok (.dup, 1) := by decide +kernel
theorem dX10_init_501 : decode cX10_init 501 = .ok (.bipush 69, 2) := by decide +kernel
theorem dX10_init_503 : decode cX10_init 503 = .ok (.bipush 101, 2) := by decide +kernel
theorem dX10_init_505 : decode cX10_init 505 = .ok (.castore, 1) := by decide +kernel
theorem dX10_init_506 : decode cX10_init 506 = .ok (.dup, 1) := by decide +kernel
theorem dX10_init_507 : decode cX10_init 507 = .ok (.bipush 70, 2) := by decide +kernel
theorem dX10_init_509 : decode cX10_init 509 = .ok (.bipush 114, 2) := by decide +kernel
theorem dX10_init_511 : decode cX10_init 511 = .ok (.castore, 1) := by decide +kernel
theorem dX10_init_512 : decode cX10_init 512 = .ok (.dup, 1) := by decide +kernel
theorem dX10_init_513 : decode cX10_init 513 = .ok (.bipush 71, 2) := by decide +kernel
theorem dX10_init_515 : decode cX10_init 515 = .ok (.bipush 32, 2) := by decide +kernel
theorem dX10_init_517 : decode cX10_init 517 = .ok (.castore, 1) := by decide +kernel
theorem dX10_init_518 : decode cX10_init 518 = .ok (.dup, 1) := by decide +kernel
theorem dX10_init_519 : decode cX10_init 519 = .ok (.bipush 72, 2) := by decide +kernel
theorem dX10_init_521 : decode cX10_init 521 = .ok (.bipush 103, 2) := by decide +kernel
theorem dX10_init_523 : decode cX10_init 523 = .ok (.castore, 1) := by decide +kernel
theorem dX10_init_524 : decode cX10_init 524 = .ok (.dup, 1) := by decide +kernel
theorem dX10_init_525 : decode cX10_init 525 = .ok (.bipush 73, 2) := by decide +kernel
theorem dX10_init_527 : decode cX10_init 527 = .ok (.bipush 97, 2) := by decide +kernel
theorem dX10_init_529 : decode cX10_init 529 = .ok (.castore, 1) := by decide +kernel
theorem dX10_init_530 : decode cX10_init 530 = .ok (.dup, 1) := by decide +kernel
theorem dX10_init_531 : decode cX10_init 531 = .ok (.bipush 74, 2) := by decide +kernel
theorem dX10_init_533 : decode cX10_init 533 = .ok (.bipush 105, 2) := by decide +kernel
theorem dX10_init_535 : decode cX10_init 535 = .ok (.castore, 1) := by decide +kernel
theorem dX10_init_536 : decode cX10_init 536 = .ok (.dup, 1) := by decide +kernel
theorem dX10_init_537 : decode cX10_init 537 = .ok (.bipush 75, 2) := by decide +kernel
theorem dX10_init_539 : decode cX10_init 539 = .ok (.bipush 110, 2) := by decide +kernel
theorem dX10_init_541 : decode cX10_init 541 = .ok (.castore, 1) := by decide +kernel
theorem dX10_init_542 : decode cX10_init 542 = .ok (.dup, 1) := by decide +kernel
theorem dX10_init_543 : decode cX10_init 543 = .ok (.bipush 76, 2) := by decide +kernel
theorem dX10_init_545 : decode cX10_init 545 = .ok (.bipush 32, 2) := by decide +kernel
theorem dX10_init_547 : decode cX10_init 547 = .ok (.castore, 1) := by decide +kernel
theorem dX10_init_548 : decode cX10_init 548 = .ok (.dup, 1) := by decide +kernel
theorem dX10_init_549 : decode cX10_init 549 = .ok (.bipush 77, 2) := by decide +kernel
theorem dX10_init_551 : decode cX10_init 551 = .ok (.bipush 32, 2) := by decide +kernel
theorem dX10_init_553 : decode cX10_init 553 = .ok (.castore, 1) := by decide +kernel
theorem dX10_init_554 : decode cX10_init 554 = .ok (.dup, 1) := by decide +kernel
theorem dX10_init_555 : decode cX10_init 555 = .ok (.bipush 78, 2) := by decide +kernel
theorem dX10_init_557 : decode cX10_init 557 = .ok (.bipush 32, 2) := by decide +kernel
theorem dX10_init_559 : decode cX10_init 559 = .ok (.castore, 1) := by decide +kernel
theorem dX10_init_560 : decode cX10_init 560 = .ok (.dup, 1) := by decide +kernel
theorem dX10_init_561 : decode cX10_init 561 = .ok (.bipush 79, 2) := by decide +kernel
theorem dX10_init_563 : decode cX10_init 563 = .ok (.bipush 32, 2) := by decide +kernel
theorem dX10_init_565 : decode cX10_init 565 = .ok (.castore, 1) := by decide +kernel
theorem dX10_init_566 : decode cX10_init 566 = .ok (.dup, 1) := by decide +kernel
theorem dX10_init_567 : decode cX10_init 567 = .ok (.bipush 80, 2) := by decide +kernel
theorem dX10_init_569 : decode cX10_init 569 = .ok (.bipush 108, 2) := by decide +kernel
theorem dX10_init_571 : decode cX10_init 571 = .ok (.castore, 1) := by decide +kernel
theorem dX10_init_572 : decode cX10_init 572 = .ok (.dup, 1) := by decide +kernel
theorem dX10_init_573 : decode cX10_init 573 = .ok (.bipush 81, 2) := by decide +kernel
theorem dX10_init_575 : decode cX10_init 575 = .ok (.bipush 111, 2) := by decide +kernel
theorem dX10_init_577 : decode cX10_init 577 = .ok (.castore, 1) := by decide +kernel
theorem dX10_init_578 : decode cX10_init 578 = .ok (.dup, 1) := by decide +kernel
theorem dX10_init_579 : decode cX10_init 579 = .ok (.bipush 82, 2) := by decide +kernel
theorem dX10_init_581 : decode cX10_init 581 = .ok (.bipush 115, 2) := by decide +kernel
theorem dX10_init_583 : decode cX10_init 583 = .ok (.castore, 1) := by decide +kernel
theorem dX10_init_584 : decode cX10_init 584 = .ok (.dup, 1) := by decide +kernel
theorem dX10_init_585 : decode cX10_init 585 = .ok (.bipush 83, 2) := by decide +kernel
theorem dX10_init_587 : decode cX10_init 587 = .ok (.bipush 115, 2) := by decide +kernel
theorem dX10_init_589 : decode cX10_init 589 = .ok (.castore, 1) := by decide +kernel
theorem dX10_init_590 : decode cX10_init 590 = .ok (.dup, 1) := by decide +kernel
theorem dX10_init_591 : decode cX10_init 591 = .ok (.bipush 84, 2) := by decide +kernel
theorem dX10_init_593 : decode cX10_init 593 = .ok (.bipush 32, 2) := by decide +kernel
theorem dX10_init_595 : decode cX10_init 595 = .ok (.castore, 1) := by decide +kernel
theorem dX10_init_596 : decode cX10_init 596 = .ok (.dup, 1) := by decide +kernel
theorem dX10_init_597 : decode cX10_init 597 = .ok (.bipush 85, 2) := by decide +kernel
theorem dX10_init_599 : decode cX10_init 599 = .ok (.bipush 32, 2) := by decide +kernel
theorem dX10_init_601 : decode cX10_init 601 = .ok (.castore, 1) := by decide +kernel
theorem dX10_init_602 : decode cX10_init 602 = .ok (.dup, 1) := by decide +kernel
theorem dX10_init_603 : decode cX10_init 603 = .ok (.bipush 86, 2) := by decide +kernel
theorem dX10_init_605 : decode cX10_init 605 = .ok (.bipush 32, 2) := by decide +kernel
theorem dX10_init_607 : decode cX10_init 607 = .ok (.castore, 1) := by decide +kernel
theorem dX10_init_608 : decode cX10_init 608 = .ok (.dup, 1) := by decide +kernel
theorem dX10_init_609 : decode cX10_init 609 = .ok (.bipush 87, 2) := by decide +kernel
theorem dX10_init_611 : decode cX10_init 611 = .ok (.bipush 32, 2) := by decide +kernel
theorem dX10_init_613 : decode cX10_init 613 = .ok (.castore, 1) := by decide +kernel
theorem dX10_init_614 : decode cX10_init 614 = .ok (.dup, 1) := by decide +kernel
theorem dX10_init_615 : decode cX10_init 615 = .ok (.bipush 88, 2) := by decide +kernel
theorem dX10_init_617 : decode cX10_init 617 = .ok (.bipush 116, 2) := by decide +kernel
theorem dX10_init_619 : decode cX10_init 619 = .ok (.castore, 1) := by decide +kernel
theorem dX10_init_620 : decode cX10_init 620 = .ok (.dup, 1) := by decide +kernel
theorem dX10_init_621 : decode cX10_init 621 = .ok (.bipush 89, 2) := by decide +kernel
theorem dX10_init_623 : decode cX10_init 623 = .ok (.bipush 105, 2) := by decide +kernel
theorem dX10_init_625 : decode cX10_init 625 = .ok (.castore, 1) := by decide +kernel
theorem dX10_init_626 : decode cX10_init 626 = .ok (.dup, 1) := by decide +kernel
theorem dX10_init_627 : decode cX10_init 627 = .ok (.bipush 90, 2) := by decide +kernel
theorem dX10_init_629 : decode cX10_init 629 = .ok (.bipush 109, 2) := by decide +kernel
theorem dX10_init_631 : decode cX10_init 631 = .ok (.castore, 1) := by decide +kernel
theorem dX10_init_632 : decode cX10_init 632 = .ok (.dup, 1) := by decide +kernel
theorem dX10_init_633 : decode cX10_init 633 = .ok (.bipush 91, 2) := by decide +kernel
theorem dX10_init_635 : decode cX10_init 635 = .ok (.bipush 101, 2) := by decide +kernel
theorem dX10_init_637 : decode cX10_init 637 = .ok (.castore, 1) := by decide +kernel
theorem dX10_init_638 : decode cX10_init 638 = .ok (.dup, 1) := by decide +kernel
theorem dX10_init_639 : decode cX10_init 639 = .ok (.bipush 92, 2) := by decide +kernel
theorem dX10_init_641 : decode cX10_init 641 = .ok (.bipush 32, 2) := by decide +kernel
theorem dX10_init_643 : decode cX10_init 643 = .ok (.castore, 1) := by decide +kernel
theorem dX10_init_644 : decode cX10_init 644 = .ok (.dup, 1) := by decide +kernel
theorem dX10_init_645 : decode cX10_init 645 = .ok (.bipush 93, 2) := by decide +kernel
theorem dX10_init_647 : decode cX10_init 647 = .ok (.bipush 32, 2) := by decide +kernel
theorem dX10_init_649 : decode cX10_init 649 = .ok (.castore, 1) := by decide +kernel
theorem dX10_init_650 : decode cX10_init 650 = .ok (.dup, 1) := by decide +kernel
theorem dX10_init_651 : decode cX10_init 651 = .ok (.bipush 94, 2) := by decide +kernel
theorem dX10_init_653 : decode cX10_init 653 = .ok (.bipush 32, 2) := by decide +kernel
theorem dX10_init_655 : decode cX10_init 655 = .ok (.castore, 1) := by decide +kernel
theorem dX10_init_656 : decode cX10_init 656 = .ok (.dup, 1) := by decide +kernel
theorem dX10_init_657 : decode cX10_init 657 = .ok (.bipush 95, 2) := by decide +kernel
theorem dX10_init_659 : decode cX10_init 659 = .ok (.bipush 32, 2) := by decide +kernel
theorem dX10_init_661 : decode cX10_init 661 = .ok (.castore, 1) := by decide +kernel
theorem dX10_init_662 : decode cX10_init 662 = .ok (.dup, 1) := by decide +kernel
theorem dX10_init_663 : decode cX10_init 663 = .ok (.bipush 96, 2) := by decide +kernel
theorem dX10_init_665 : decode cX10_init 665 = .ok (.bipush 115, 2) := by decide +kernel
theorem dX10_init_667 : decode cX10_init 667 = .ok (.castore, 1) := by decide +kernel
theorem dX10_init_668 : decode cX10_init 668 = .ok (.dup, 1) := by decide +kernel
theorem dX10_init_669 : decode cX10_init 669 = .ok (.bipush 97, 2) := by decide +kernel
theorem dX10_init_671 : decode cX10_init 671 = .ok (.bipush 104, 2) := by decide +kernel
theorem dX10_init_673 : decode cX10_init 673 = .ok (.castore, 1) := by decide +kernel
theorem dX10_init_674 : decode cX10_init 674 = .ok (.dup, 1) := by decide +kernel
theorem dX10_init_675 : decode cX10_init 675 = .ok (.bipush 98, 2) := by decide +kernel
theorem dX10_init_677 : decode cX10_init 677 = .ok (.bipush 117, 2) := by decide +kernel
theorem dX10_init_679 : decode cX10_init 679 = .ok (.castore, 1) := by decide +kernel
theorem dX10_init_680 : decode cX10_init 680 = .ok (.dup, 1) := by decide +kernel
theorem dX10_init_681 : decode cX10_init 681 = .ok (.bipush 99, 2) := by decide +kernel
theorem dX10_init_683 : decode cX10_init 683 = .ok (.bipush 116, 2) := by decide +kernel
theorem dX10_init_685 : decode cX10_init 685 = .ok (.castore, 1) := by decide +kernel
theorem dX10_init_686 : decode cX10_init 686 = .ok (.dup, 1) := by decide +kernel
theorem dX10_init_687 : decode cX10_init 687 = .ok (.bipush 100, 2) := by decide +kernel
theorem dX10_init_689 : decode cX10_init 689 = .ok (.bipush 32, 2) := by decide +kernel
theorem dX10_init_691 : decode cX10_init 691 = .ok (.castore, 1) := by decide +kernel
theorem dX10_init_692 : decode cX10_init 692 = .ok (.dup, 1) := by decide +kernel
theorem dX10_init_693 : decode cX10_init 693 = .ok (.bipush 101, 2) := by decide +kernel
theorem dX10_init_695 : decode cX10_init 695 = .ok (.bipush 32, 2) := by decide +kernel
theorem dX10_init_697 : decode cX10_init 697 = .ok (.castore, 1) := by decide +kernel
theorem dX10_init_698 : decode cX10_init 698 = .ok (.dup, 1) := by decide +kernel
theorem dX10_init_699 : decode cX10_init 699 = .ok (.bipush 102, 2) := by decide +kernel
theorem dX10_init_701 : decode cX10_init 701 = .ok (.bipush 32, 2) := by decide +kernel
theorem dX10_init_703 : decode cX10_init 703 = .ok (.castore, 1) := by decide +kernel
theorem dX10_init_704 : decode cX10_init 704 = .ok (.dup, 1) := by decide +kernel
theorem dX10_init_705 : decode cX10_init 705 = .ok (.bipush 103, 2) := by decide +kernel
theorem dX10_init_707 : decode cX10_init 707 = .ok (.bipush 32, 2) := by decide +kernel
theorem dX10_init_709 : decode cX10_init 709 = .ok (.castore, 1) := by decide +kernel
theorem dX10_init_710 : decode cX10_init 710 = .ok (.putfield 47, 3) := by decide +kernel
theorem dX10_init_713 : decode cX10_init 713 = .ok (.aload_n 0, 1) := by decide +kernel
theorem dX10_init_714 : decode cX10_init 714 = .ok (.bipush 114, 2) := by decide +kernel
theorem dX10_init_716 : decode cX10_init 716 = .ok (.newarray .int, 2) := by decide +kernel
theorem dX10_init_718 : decode cX10_init 718 = .ok (.putfield 51, 3) := by decide +kernel
theorem dX10_init_721 : decode cX10_init 721 = .ok (.aload_n 0, 1) := by decide +kernel
theorem dX10_init_722 : decode cX10_init 722 = .ok (.getfield 25, 3) := by decide +kernel
theorem dX10_init_725 : decode cX10_init 725 = .ok (.iconst 1, 1) := by decide +kernel
theorem dX10_init_726 : decode cX10_init 726 = .ok (.iconst 1, 1) := by decide +kernel
theorem dX10_init_727 : decode cX10_init 727 = .ok (.iastore, 1) := by decide +kernel
theorem dX10_init_728 : decode cX10_init 728 = .ok (.return_, 1) := by decide +kernel
def s_X1_init_1 (σ : MSt) : MSt := (muI (muR (muR (muR (muR (muR (muR (muR (muR (muI σ 1 0 (2 : Int32)) 1 3 (some 2)) 1 4 (some 3)) 1 5 (some 4)) 1 6 (some 5)) 1 7 (some 6)) 1 8 (some 7)) 1 10 (some 8)) 1 11 (some 9)) 9 (0 : Int32).toNatClampNeg (1 : Int32))
theorem z_X1_init_1 {σ : MSt} {k : Nat} (hk : 10 ≤ k) (z : zc σ k) : zc (s_X1_init_1 σ) k := by
  unfold s_X1_init_1
  exact (zc_uI (by omega) (zc_uR (by omega) (zc_uR (by omega) (zc_uR (by omega) (zc_uR (by omega) (zc_uR (by omega) (zc_uR (by omega) (zc_uR (by omega) (zc_uR (by omega) (zc_uI (by omega) z))))))))))
set_option maxRecDepth 100000 in
set_option maxHeartbeats 4000000 in
theorem c_X1_init_1 (l : Launch) (σ : MSt) (hz : ∀ k, 2 ≤ k → zc σ k) : MCt l yX1_init cX1_init 1 none (mkr 1 8 110) [.ref 1] 2 σ 8 110 (10, none, s_X1_init_1 σ) := by
  refine mw_entry (own := RX1) (ini := true) (L := [(0, .ref 1)]) (by decide +kernel) rfl (fun _ => rfl) rfl (Nat.le_of_ble_eq_true rfl) (by decide) (fun E => ?_)
  refine mw_aload_n dX1_init_0 0 rfl ?_
  refine mw_objInit dX1_init_1 wt_839 wt_835 wt_836 (by decide) (by decide) ?_
  refine mw_aload_n dX1_init_4 0 rfl ?_
  refine mw_iconst (v := 2) dX1_init_5 (by decide) ?_
  refine mw_putI (ci := 0) (j := 0) tyX1 tyX1_ok nmX1 dX1_init_6 (by decide) rfl rfl rfl (by decide) uws_0 wt_44 (Or.inl rfl) (Or.inl rfl) (by decide +kernel) (Or.inl rfl) ?_
  refine mw_aload_n dX1_init_9 0 rfl ?_
  refine mw_bipush (v := 14) dX1_init_10 (by decide) ?_
  refine mk_newaI (n' := 3) (c' := 1) (s' := 14) rfl rfl rfl (N0 := 14) (N := 14) dX1_init_12 wt_840 rfl (by decide) (by decide) (by decide) (zc_uI (by decide) (hz 2 (by decide))) (by decide) (by decide) (by decide) rfl ?_
  refine mw_putR (ty := (.array .int)) (ci := 0) (j := 3) tyX1 tyX1_ok nmX1 dX1_init_14 (by decide) rfl rfl rfl (by decide) uws_0 wt_34 (Or.inl rfl) (Or.inr ⟨rfl, rfl, rfl⟩) (by decide +kernel) rfl rfl ?_
  refine mw_aload_n dX1_init_17 0 rfl ?_
  refine mw_bipush (v := 14) dX1_init_18 (by decide) ?_
  refine mk_newaI (n' := 4) (c' := 2) (s' := 28) rfl rfl rfl (N0 := 14) (N := 14) dX1_init_20 wt_840 rfl (by decide) (by decide) (by decide) (zc_uR (by decide) (zc_uI (by decide) (hz 3 (by decide)))) (by decide) (by decide) (by decide) rfl ?_
  refine mw_putR (ty := (.array .int)) (ci := 0) (j := 4) tyX1 tyX1_ok nmX1 dX1_init_22 (by decide) rfl rfl rfl (by decide) uws_0 wt_35 (Or.inl rfl) (Or.inr ⟨rfl, rfl, rfl⟩) (by decide +kernel) rfl rfl ?_
  refine mw_aload_n dX1_init_25 0 rfl ?_
  refine mw_bipush (v := 14) dX1_init_26 (by decide) ?_
  refine mk_newaI (n' := 5) (c' := 3) (s' := 42) rfl rfl rfl (N0 := 14) (N := 14) dX1_init_28 wt_840 rfl (by decide) (by decide) (by decide) (zc_uR (by decide) (zc_uR (by decide) (zc_uI (by decide) (hz 4 (by decide))))) (by decide) (by decide) (by decide) rfl ?_
  refine mw_putR (ty := (.array .int)) (ci := 0) (j := 5) tyX1 tyX1_ok nmX1 dX1_init_30 (by decide) rfl rfl rfl (by decide) uws_0 wt_36 (Or.inl rfl) (Or.inr ⟨rfl, rfl, rfl⟩) (by decide +kernel) rfl rfl ?_
  refine mw_aload_n dX1_init_33 0 rfl ?_
  refine mw_bipush (v := 14) dX1_init_34 (by decide) ?_
  refine mk_newaI (n' := 6) (c' := 4) (s' := 56) rfl rfl rfl (N0 := 14) (N := 14) dX1_init_36 wt_840 rfl (by decide) (by decide) (by decide) (zc_uR (by decide) (zc_uR (by decide) (zc_uR (by decide) (zc_uI (by decide) (hz 5 (by decide)))))) (by decide) (by decide) (by decide) rfl ?_
  refine mw_putR (ty := (.array .int)) (ci := 0) (j := 6) tyX1 tyX1_ok nmX1 dX1_init_38 (by decide) rfl rfl rfl (by decide) uws_0 wt_37 (Or.inl rfl) (Or.inr ⟨rfl, rfl, rfl⟩) (by decide +kernel) rfl rfl ?_
  refine mw_aload_n dX1_init_41 0 rfl ?_
  refine mw_bipush (v := 14) dX1_init_42 (by decide) ?_
  refine mk_newaI (n' := 7) (c' := 5) (s' := 70) rfl rfl rfl (N0 := 14) (N := 14) dX1_init_44 wt_840 rfl (by decide) (by decide) (by decide) (zc_uR (by decide) (zc_uR (by decide) (zc_uR (by decide) (zc_uR (by decide) (zc_uI (by decide) (hz 6 (by decide))))))) (by decide) (by decide) (by decide) rfl ?_
  refine mw_putR (ty := (.array .int)) (ci := 0) (j := 7) tyX1 tyX1_ok nmX1 dX1_init_46 (by decide) rfl rfl rfl (by decide) uws_0 wt_38 (Or.inl rfl) (Or.inr ⟨rfl, rfl, rfl⟩) (by decide +kernel) rfl rfl ?_
  refine mw_aload_n dX1_init_49 0 rfl ?_
  refine mw_bipush (v := 14) dX1_init_50 (by decide) ?_
  refine mk_newaI (n' := 8) (c' := 6) (s' := 84) rfl rfl rfl (N0 := 14) (N := 14) dX1_init_52 wt_840 rfl (by decide) (by decide) (by decide) (zc_uR (by decide) (zc_uR (by decide) (zc_uR (by decide) (zc_uR (by decide) (zc_uR (by decide) (zc_uI (by decide) (hz 7 (by decide)))))))) (by decide) (by decide) (by decide) rfl ?_
  refine mw_putR (ty := (.array .int)) (ci := 0) (j := 8) tyX1 tyX1_ok nmX1 dX1_init_54 (by decide) rfl rfl rfl (by decide) uws_0 wt_39 (Or.inl rfl) (Or.inr ⟨rfl, rfl, rfl⟩) (by decide +kernel) rfl rfl ?_
  refine mw_aload_n dX1_init_57 0 rfl ?_
  refine mw_bipush (v := 13) dX1_init_58 (by decide) ?_
  refine mk_newaI (n' := 9) (c' := 7) (s' := 97) rfl rfl rfl (N0 := 13) (N := 13) dX1_init_60 wt_840 rfl (by decide) (by decide) (by decide) (zc_uR (by decide) (zc_uR (by decide) (zc_uR (by decide) (zc_uR (by decide) (zc_uR (by decide) (zc_uR (by decide) (zc_uI (by decide) (hz 8 (by decide))))))))) (by decide) (by decide) (by decide) rfl ?_
  refine mw_putR (ty := (.array .int)) (ci := 0) (j := 10) tyX1 tyX1_ok nmX1 dX1_init_62 (by decide) rfl rfl rfl (by decide) uws_0 wt_85 (Or.inl rfl) (Or.inr ⟨rfl, rfl, rfl⟩) (by decide +kernel) rfl rfl ?_
  refine mw_aload_n dX1_init_65 0 rfl ?_
  refine mw_bipush (v := 13) dX1_init_66 (by decide) ?_
  refine mk_newaI (n' := 10) (c' := 8) (s' := 110) rfl rfl rfl (N0 := 13) (N := 13) dX1_init_68 wt_840 rfl (by decide) (by decide) (by decide) (zc_uR (by decide) (zc_uR (by decide) (zc_uR (by decide) (zc_uR (by decide) (zc_uR (by decide) (zc_uR (by decide) (zc_uR (by decide) (zc_uI (by decide) (hz 9 (by decide)))))))))) (by decide) (by decide) (by decide) rfl ?_
  refine mw_putR (ty := (.array .int)) (ci := 0) (j := 11) tyX1 tyX1_ok nmX1 dX1_init_70 (by decide) rfl rfl rfl (by decide) uws_0 wt_86 (Or.inl rfl) (Or.inr ⟨rfl, rfl, rfl⟩) (by decide +kernel) rfl rfl ?_
  refine mw_aload_n dX1_init_73 0 rfl ?_
  refine mw_get (v := .ref 9) (j := 11) (ci := 0) dX1_init_74 (by decide) rfl rfl rfl (by decide) uws_0 wt_86 (Or.inl rfl) (by simp [mfv, mft, tyX1, mmR_uI, mmR_uR, va_rf]) ?_
  refine mw_iconst (v := 0) dX1_init_77 (by decide) ?_
  refine mw_iconst (v := 1) dX1_init_78 (by decide) ?_
  refine mw_iast dX1_init_79 (by decide) rfl (mib1 rfl) ?_
  exact mw_vret dX1_init_80 rfl rfl rfl rfl
theorem su_X1_init_1 {σ : MSt} (h : rsup σ.2.2) : rsup (s_X1_init_1 σ).2.2 := by
  unfold s_X1_init_1
  exact (su_I (su_R (by decide) (by decide) (su_R (by decide) (by decide) (su_R (by decide) (by decide) (su_R (by decide) (by decide) (su_R (by decide) (by decide) (su_R (by decide) (by decide) (su_R (by decide) (by decide) (su_R (by decide) (by decide) (su_I h))))))))))

def s_X1_init_10 (σ : MSt) : MSt := (muI (muR (muR (muR (muR (muR (muR (muR (muR (muI σ 10 0 (2 : Int32)) 10 3 (some 11)) 10 4 (some 12)) 10 5 (some 13)) 10 6 (some 14)) 10 7 (some 15)) 10 8 (some 16)) 10 10 (some 17)) 10 11 (some 18)) 18 (0 : Int32).toNatClampNeg (1 : Int32))
theorem z_X1_init_10 {σ : MSt} {k : Nat} (hk : 19 ≤ k) (z : zc σ k) : zc (s_X1_init_10 σ) k := by
  unfold s_X1_init_10
  exact (zc_uI (by omega) (zc_uR (by omega) (zc_uR (by omega) (zc_uR (by omega) (zc_uR (by omega) (zc_uR (by omega) (zc_uR (by omega) (zc_uR (by omega) (zc_uR (by omega) (zc_uI (by omega) z))))))))))
set_option maxRecDepth 100000 in
set_option maxHeartbeats 4000000 in
theorem c_X1_init_10 (l : Launch) (σ : MSt) (hz : ∀ k, 11 ≤ k → zc σ k) : MCt l yX1_init cX1_init 1 none (mkr 1 8 110) [.ref 10] 11 σ 8 110 (19, none, s_X1_init_10 σ) := by
  refine mw_entry (own := RX1) (ini := true) (L := [(0, .ref 10)]) (by decide +kernel) rfl (fun _ => rfl) rfl (Nat.le_of_ble_eq_true rfl) (by decide) (fun E => ?_)
  refine mw_aload_n dX1_init_0 0 rfl ?_
  refine mw_objInit dX1_init_1 wt_839 wt_835 wt_836 (by decide) (by decide) ?_
  refine mw_aload_n dX1_init_4 0 rfl ?_
  refine mw_iconst (v := 2) dX1_init_5 (by decide) ?_
  refine mw_putI (ci := 0) (j := 0) tyX1 tyX1_ok nmX1 dX1_init_6 (by decide) rfl rfl rfl (by decide) uws_0 wt_44 (Or.inl rfl) (Or.inl rfl) (by decide +kernel) (Or.inl rfl) ?_
  refine mw_aload_n dX1_init_9 0 rfl ?_
  refine mw_bipush (v := 14) dX1_init_10 (by decide) ?_
  refine mk_newaI (n' := 12) (c' := 1) (s' := 14) rfl rfl rfl (N0 := 14) (N := 14) dX1_init_12 wt_840 rfl (by decide) (by decide) (by decide) (zc_uI (by decide) (hz 11 (by decide))) (by decide) (by decide) (by decide) rfl ?_
  refine mw_putR (ty := (.array .int)) (ci := 0) (j := 3) tyX1 tyX1_ok nmX1 dX1_init_14 (by decide) rfl rfl rfl (by decide) uws_0 wt_34 (Or.inl rfl) (Or.inr ⟨rfl, rfl, rfl⟩) (by decide +kernel) rfl rfl ?_
  refine mw_aload_n dX1_init_17 0 rfl ?_
  refine mw_bipush (v := 14) dX1_init_18 (by decide) ?_
  refine mk_newaI (n' := 13) (c' := 2) (s' := 28) rfl rfl rfl (N0 := 14) (N := 14) dX1_init_20 wt_840 rfl (by decide) (by decide) (by decide) (zc_uR (by decide) (zc_uI (by decide) (hz 12 (by decide)))) (by decide) (by decide) (by decide) rfl ?_
  refine mw_putR (ty := (.array .int)) (ci := 0) (j := 4) tyX1 tyX1_ok nmX1 dX1_init_22 (by decide) rfl rfl rfl (by decide) uws_0 wt_35 (Or.inl rfl) (Or.inr ⟨rfl, rfl, rfl⟩) (by decide +kernel) rfl rfl ?_
  refine mw_aload_n dX1_init_25 0 rfl ?_
  refine mw_bipush (v := 14) dX1_init_26 (by decide) ?_
  refine mk_newaI (n' := 14) (c' := 3) (s' := 42) rfl rfl rfl (N0 := 14) (N := 14) dX1_init_28 wt_840 rfl (by decide) (by decide) (by decide) (zc_uR (by decide) (zc_uR (by decide) (zc_uI (by decide) (hz 13 (by decide))))) (by decide) (by decide) (by decide) rfl ?_
  refine mw_putR (ty := (.array .int)) (ci := 0) (j := 5) tyX1 tyX1_ok nmX1 dX1_init_30 (by decide) rfl rfl rfl (by decide) uws_0 wt_36 (Or.inl rfl) (Or.inr ⟨rfl, rfl, rfl⟩) (by decide +kernel) rfl rfl ?_
  refine mw_aload_n dX1_init_33 0 rfl ?_
  refine mw_bipush (v := 14) dX1_init_34 (by decide) ?_
  refine mk_newaI (n' := 15) (c' := 4) (s' := 56) rfl rfl rfl (N0 := 14) (N := 14) dX1_init_36 wt_840 rfl (by decide) (by decide) (by decide) (zc_uR (by decide) (zc_uR (by decide) (zc_uR (by decide) (zc_uI (by decide) (hz 14 (by decide)))))) (by decide) (by decide) (by decide) rfl ?_
  refine mw_putR (ty := (.array .int)) (ci := 0) (j := 6) tyX1 tyX1_ok nmX1 dX1_init_38 (by decide) rfl rfl rfl (by decide) uws_0 wt_37 (Or.inl rfl) (Or.inr ⟨rfl, rfl, rfl⟩) (by decide +kernel) rfl rfl ?_
  refine mw_aload_n dX1_init_41 0 rfl ?_
  refine mw_bipush (v := 14) dX1_init_42 (by decide) ?_
  refine mk_newaI (n' := 16) (c' := 5) (s' := 70) rfl rfl rfl (N0 := 14) (N := 14) dX1_init_44 wt_840 rfl (by decide) (by decide) (by decide) (zc_uR (by decide) (zc_uR (by decide) (zc_uR (by decide) (zc_uR (by decide) (zc_uI (by decide) (hz 15 (by decide))))))) (by decide) (by decide) (by decide) rfl ?_
  refine mw_putR (ty := (.array .int)) (ci := 0) (j := 7) tyX1 tyX1_ok nmX1 dX1_init_46 (by decide) rfl rfl rfl (by decide) uws_0 wt_38 (Or.inl rfl) (Or.inr ⟨rfl, rfl, rfl⟩) (by decide +kernel) rfl rfl ?_
  refine mw_aload_n dX1_init_49 0 rfl ?_
  refine mw_bipush (v := 14) dX1_init_50 (by decide) ?_
  refine mk_newaI (n' := 17) (c' := 6) (s' := 84) rfl rfl rfl (N0 := 14) (N := 14) dX1_init_52 wt_840 rfl (by decide) (by decide) (by decide) (zc_uR (by decide) (zc_uR (by decide) (zc_uR (by decide) (zc_uR (by decide) (zc_uR (by decide) (zc_uI (by decide) (hz 16 (by decide)))))))) (by decide) (by decide) (by decide) rfl ?_
  refine mw_putR (ty := (.array .int)) (ci := 0) (j := 8) tyX1 tyX1_ok nmX1 dX1_init_54 (by decide) rfl rfl rfl (by decide) uws_0 wt_39 (Or.inl rfl) (Or.inr ⟨rfl, rfl, rfl⟩) (by decide +kernel) rfl rfl ?_
  refine mw_aload_n dX1_init_57 0 rfl ?_
  refine mw_bipush (v := 13) dX1_init_58 (by decide) ?_
  refine mk_newaI (n' := 18) (c' := 7) (s' := 97) rfl rfl rfl (N0 := 13) (N := 13) dX1_init_60 wt_840 rfl (by decide) (by decide) (by decide) (zc_uR (by decide) (zc_uR (by decide) (zc_uR (by decide) (zc_uR (by decide) (zc_uR (by decide) (zc_uR (by decide) (zc_uI (by decide) (hz 17 (by decide))))))))) (by decide) (by decide) (by decide) rfl ?_
  refine mw_putR (ty := (.array .int)) (ci := 0) (j := 10) tyX1 tyX1_ok nmX1 dX1_init_62 (by decide) rfl rfl rfl (by decide) uws_0 wt_85 (Or.inl rfl) (Or.inr ⟨rfl, rfl, rfl⟩) (by decide +kernel) rfl rfl ?_
  refine mw_aload_n dX1_init_65 0 rfl ?_
  refine mw_bipush (v := 13) dX1_init_66 (by decide) ?_
  refine mk_newaI (n' := 19) (c' := 8) (s' := 110) rfl rfl rfl (N0 := 13) (N := 13) dX1_init_68 wt_840 rfl (by decide) (by decide) (by decide) (zc_uR (by decide) (zc_uR (by decide) (zc_uR (by decide) (zc_uR (by decide) (zc_uR (by decide) (zc_uR (by decide) (zc_uR (by decide) (zc_uI (by decide) (hz 18 (by decide)))))))))) (by decide) (by decide) (by decide) rfl ?_
  refine mw_putR (ty := (.array .int)) (ci := 0) (j := 11) tyX1 tyX1_ok nmX1 dX1_init_70 (by decide) rfl rfl rfl (by decide) uws_0 wt_86 (Or.inl rfl) (Or.inr ⟨rfl, rfl, rfl⟩) (by decide +kernel) rfl rfl ?_
  refine mw_aload_n dX1_init_73 0 rfl ?_
  refine mw_get (v := .ref 18) (j := 11) (ci := 0) dX1_init_74 (by decide) rfl rfl rfl (by decide) uws_0 wt_86 (Or.inl rfl) (by simp [mfv, mft, tyX1, mmR_uI, mmR_uR, va_rf]) ?_
  refine mw_iconst (v := 0) dX1_init_77 (by decide) ?_
  refine mw_iconst (v := 1) dX1_init_78 (by decide) ?_
  refine mw_iast dX1_init_79 (by decide) rfl (mib1 rfl) ?_
  exact mw_vret dX1_init_80 rfl rfl rfl rfl
theorem su_X1_init_10 {σ : MSt} (h : rsup σ.2.2) : rsup (s_X1_init_10 σ).2.2 := by
  unfold s_X1_init_10
  exact (su_I (su_R (by decide) (by decide) (su_R (by decide) (by decide) (su_R (by decide) (by decide) (su_R (by decide) (by decide) (su_R (by decide) (by decide) (su_R (by decide) (by decide) (su_R (by decide) (by decide) (su_R (by decide) (by decide) (su_I h))))))))))

def s_X1_init_19 (σ : MSt) : MSt := (muI (muR (muR (muR (muR (muR (muR (muR (muR (muI σ 19 0 (2 : Int32)) 19 3 (some 20)) 19 4 (some 21)) 19 5 (some 22)) 19 6 (some 23)) 19 7 (some 24)) 19 8 (some 25)) 19 10 (some 26)) 19 11 (some 27)) 27 (0 : Int32).toNatClampNeg (1 : Int32))
theorem z_X1_init_19 {σ : MSt} {k : Nat} (hk : 28 ≤ k) (z : zc σ k) : zc (s_X1_init_19 σ) k := by
  unfold s_X1_init_19
  exact (zc_uI (by omega) (zc_uR (by omega) (zc_uR (by omega) (zc_uR (by omega) (zc_uR (by omega) (zc_uR (by omega) (zc_uR (by omega) (zc_uR (by omega) (zc_uR (by omega) (zc_uI (by omega) z))))))))))
set_option maxRecDepth 100000 in
set_option maxHeartbeats 4000000 in
theorem c_X1_init_19 (l : Launch) (σ : MSt) (hz : ∀ k, 20 ≤ k → zc σ k) : MCt l yX1_init cX1_init 1 none (mkr 1 8 110) [.ref 19] 20 σ 8 110 (28, none, s_X1_init_19 σ) := by
  refine mw_entry (own := RX1) (ini := true) (L := [(0, .ref 19)]) (by decide +kernel) rfl (fun _ => rfl) rfl (Nat.le_of_ble_eq_true rfl) (by decide) (fun E => ?_)
  refine mw_aload_n dX1_init_0 0 rfl ?_
  refine mw_objInit dX1_init_1 wt_839 wt_835 wt_836 (by decide) (by decide) ?_
  refine mw_aload_n dX1_init_4 0 rfl ?_
  refine mw_iconst (v := 2) dX1_init_5 (by decide) ?_
  refine mw_putI (ci := 0) (j := 0) tyX1 tyX1_ok nmX1 dX1_init_6 (by decide) rfl rfl rfl (by decide) uws_0 wt_44 (Or.inl rfl) (Or.inl rfl) (by decide +kernel) (Or.inl rfl) ?_
  refine mw_aload_n dX1_init_9 0 rfl ?_
  refine mw_bipush (v := 14) dX1_init_10 (by decide) ?_
  refine mk_newaI (n' := 21) (c' := 1) (s' := 14) rfl rfl rfl (N0 := 14) (N := 14) dX1_init_12 wt_840 rfl (by decide) (by decide) (by decide) (zc_uI (by decide) (hz 20 (by decide))) (by decide) (by decide) (by decide) rfl ?_
  refine mw_putR (ty := (.array .int)) (ci := 0) (j := 3) tyX1 tyX1_ok nmX1 dX1_init_14 (by decide) rfl rfl rfl (by decide) uws_0 wt_34 (Or.inl rfl) (Or.inr ⟨rfl, rfl, rfl⟩) (by decide +kernel) rfl rfl ?_
  refine mw_aload_n dX1_init_17 0 rfl ?_
  refine mw_bipush (v := 14) dX1_init_18 (by decide) ?_
  refine mk_newaI (n' := 22) (c' := 2) (s' := 28) rfl rfl rfl (N0 := 14) (N := 14) dX1_init_20 wt_840 rfl (by decide) (by decide) (by decide) (zc_uR (by decide) (zc_uI (by decide) (hz 21 (by decide)))) (by decide) (by decide) (by decide) rfl ?_
  refine mw_putR (ty := (.array .int)) (ci := 0) (j := 4) tyX1 tyX1_ok nmX1 dX1_init_22 (by decide) rfl rfl rfl (by decide) uws_0 wt_35 (Or.inl rfl) (Or.inr ⟨rfl, rfl, rfl⟩) (by decide +kernel) rfl rfl ?_
  refine mw_aload_n dX1_init_25 0 rfl ?_
  refine mw_bipush (v := 14) dX1_init_26 (by decide) ?_
  refine mk_newaI (n' := 23) (c' := 3) (s' := 42) rfl rfl rfl (N0 := 14) (N := 14) dX1_init_28 wt_840 rfl (by decide) (by decide) (by decide) (zc_uR (by decide) (zc_uR (by decide) (zc_uI (by decide) (hz 22 (by decide))))) (by decide) (by decide) (by decide) rfl ?_
  refine mw_putR (ty := (.array .int)) (ci := 0) (j := 5) tyX1 tyX1_ok nmX1 dX1_init_30 (by decide) rfl rfl rfl (by decide) uws_0 wt_36 (Or.inl rfl) (Or.inr ⟨rfl, rfl, rfl⟩) (by decide +kernel) rfl rfl ?_
  refine mw_aload_n dX1_init_33 0 rfl ?_
  refine mw_bipush (v := 14) dX1_init_34 (by decide) ?_
  refine mk_newaI (n' := 24) (c' := 4) (s' := 56) rfl rfl rfl (N0 := 14) (N := 14) dX1_init_36 wt_840 rfl (by decide) (by decide) (by decide) (zc_uR (by decide) (zc_uR (by decide) (zc_uR (by decide) (zc_uI (by decide) (hz 23 (by decide)))))) (by decide) (by decide) (by decide) rfl ?_
  refine mw_putR (ty := (.array .int)) (ci := 0) (j := 6) tyX1 tyX1_ok nmX1 dX1_init_38 (by decide) rfl rfl rfl (by decide) uws_0 wt_37 (Or.inl rfl) (Or.inr ⟨rfl, rfl, rfl⟩) (by decide +kernel) rfl rfl ?_
  refine mw_aload_n dX1_init_41 0 rfl ?_
  refine mw_bipush (v := 14) dX1_init_42 (by decide) ?_
  refine mk_newaI (n' := 25) (c' := 5) (s' := 70) rfl rfl rfl (N0 := 14) (N := 14) dX1_init_44 wt_840 rfl (by decide) (by decide) (by decide) (zc_uR (by decide) (zc_uR (by decide) (zc_uR (by decide) (zc_uR (by decide) (zc_uI (by decide) (hz 24 (by decide))))))) (by decide) (by decide) (by decide) rfl ?_
  refine mw_putR (ty := (.array .int)) (ci := 0) (j := 7) tyX1 tyX1_ok nmX1 dX1_init_46 (by decide) rfl rfl rfl (by decide) uws_0 wt_38 (Or.inl rfl) (Or.inr ⟨rfl, rfl, rfl⟩) (by decide +kernel) rfl rfl ?_
  refine mw_aload_n dX1_init_49 0 rfl ?_
  refine mw_bipush (v := 14) dX1_init_50 (by decide) ?_
  refine mk_newaI (n' := 26) (c' := 6) (s' := 84) rfl rfl rfl (N0 := 14) (N := 14) dX1_init_52 wt_840 rfl (by decide) (by decide) (by decide) (zc_uR (by decide) (zc_uR (by decide) (zc_uR (by decide) (zc_uR (by decide) (zc_uR (by decide) (zc_uI (by decide) (hz 25 (by decide)))))))) (by decide) (by decide) (by decide) rfl ?_
  refine mw_putR (ty := (.array .int)) (ci := 0) (j := 8) tyX1 tyX1_ok nmX1 dX1_init_54 (by decide) rfl rfl rfl (by decide) uws_0 wt_39 (Or.inl rfl) (Or.inr ⟨rfl, rfl, rfl⟩) (by decide +kernel) rfl rfl ?_
  refine mw_aload_n dX1_init_57 0 rfl ?_
  refine mw_bipush (v := 13) dX1_init_58 (by decide) ?_
  refine mk_newaI (n' := 27) (c' := 7) (s' := 97) rfl rfl rfl (N0 := 13) (N := 13) dX1_init_60 wt_840 rfl (by decide) (by decide) (by decide) (zc_uR (by decide) (zc_uR (by decide) (zc_uR (by decide) (zc_uR (by decide) (zc_uR (by decide) (zc_uR (by decide) (zc_uI (by decide) (hz 26 (by decide))))))))) (by decide) (by decide) (by decide) rfl ?_
  refine mw_putR (ty := (.array .int)) (ci := 0) (j := 10) tyX1 tyX1_ok nmX1 dX1_init_62 (by decide) rfl rfl rfl (by decide) uws_0 wt_85 (Or.inl rfl) (Or.inr ⟨rfl, rfl, rfl⟩) (by decide +kernel) rfl rfl ?_
  refine mw_aload_n dX1_init_65 0 rfl ?_
  refine mw_bipush (v := 13) dX1_init_66 (by decide) ?_
  refine mk_newaI (n' := 28) (c' := 8) (s' := 110) rfl rfl rfl (N0 := 13) (N := 13) dX1_init_68 wt_840 rfl (by decide) (by decide) (by decide) (zc_uR (by decide) (zc_uR (by decide) (zc_uR (by decide) (zc_uR (by decide) (zc_uR (by decide) (zc_uR (by decide) (zc_uR (by decide) (zc_uI (by decide) (hz 27 (by decide)))))))))) (by decide) (by decide) (by decide) rfl ?_
  refine mw_putR (ty := (.array .int)) (ci := 0) (j := 11) tyX1 tyX1_ok nmX1 dX1_init_70 (by decide) rfl rfl rfl (by decide) uws_0 wt_86 (Or.inl rfl) (Or.inr ⟨rfl, rfl, rfl⟩) (by decide +kernel) rfl rfl ?_
  refine mw_aload_n dX1_init_73 0 rfl ?_
  refine mw_get (v := .ref 27) (j := 11) (ci := 0) dX1_init_74 (by decide) rfl rfl rfl (by decide) uws_0 wt_86 (Or.inl rfl) (by simp [mfv, mft, tyX1, mmR_uI, mmR_uR, va_rf]) ?_
  refine mw_iconst (v := 0) dX1_init_77 (by decide) ?_
  refine mw_iconst (v := 1) dX1_init_78 (by decide) ?_
  refine mw_iast dX1_init_79 (by decide) rfl (mib1 rfl) ?_
  exact mw_vret dX1_init_80 rfl rfl rfl rfl
theorem su_X1_init_19 {σ : MSt} (h : rsup σ.2.2) : rsup (s_X1_init_19 σ).2.2 := by
  unfold s_X1_init_19
  exact (su_I (su_R (by decide) (by decide) (su_R (by decide) (by decide) (su_R (by decide) (by decide) (su_R (by decide) (by decide) (su_R (by decide) (by decide) (su_R (by decide) (by decide) (su_R (by decide) (by decide) (su_R (by decide) (by decide) (su_I h))))))))))

def s_X4_init_28 (σ : MSt) : MSt := (muR (muR (muR (muR (muR (muR (muR (muR (muR (muR σ 28 1 (some 29)) 28 2 (some 30)) 28 3 (some 31)) 28 4 (some 32)) 28 5 (some 33)) 28 6 (some 34)) 28 7 (some 35)) 28 8 (some 36)) 28 9 (some 37)) 28 10 (some 38))
theorem z_X4_init_28 {σ : MSt} {k : Nat} (hk : 39 ≤ k) (z : zc σ k) : zc (s_X4_init_28 σ) k := by
  unfold s_X4_init_28
  exact (zc_uR (by omega) (zc_uR (by omega) (zc_uR (by omega) (zc_uR (by omega) (zc_uR (by omega) (zc_uR (by omega) (zc_uR (by omega) (zc_uR (by omega) (zc_uR (by omega) (zc_uR (by omega) z))))))))))
set_option maxRecDepth 100000 in
set_option maxHeartbeats 4000000 in
theorem c_X4_init_28 (l : Launch) (σ : MSt) (hz : ∀ k, 29 ≤ k → zc σ k) : MCt l yX4_init cX4_init 1 none (mkr 1 10 4032) [.ref 28] 29 σ 10 4032 (39, none, s_X4_init_28 σ) := by
  refine mw_entry (own := RX4) (ini := true) (L := [(0, .ref 28)]) (by decide +kernel) rfl (fun _ => rfl) rfl (Nat.le_of_ble_eq_true rfl) (by decide) (fun E => ?_)
  refine mw_aload_n dX4_init_0 0 rfl ?_
  refine mw_objInit dX4_init_1 wt_846 wt_835 wt_836 (by decide) (by decide) ?_
  refine mw_aload_n dX4_init_4 0 rfl ?_
  refine mw_sipush (v := 1296) dX4_init_5 (by decide) ?_
  refine mk_newaI (n' := 30) (c' := 1) (s' := 1296) rfl rfl rfl (N0 := 1296) (N := 1296) dX4_init_8 wt_840 rfl (by decide) (by decide) (by decide) (hz 29 (by decide)) (by decide) (by decide) (by decide) rfl ?_
  refine mw_putR (ty := (.array .int)) (ci := 3) (j := 1) tyX4 tyX4_ok nmX4 dX4_init_10 (by decide) rfl rfl rfl (by decide) uws_3 wt_118 (Or.inl rfl) (Or.inr ⟨rfl, rfl, rfl⟩) (by decide +kernel) rfl rfl ?_
  refine mw_aload_n dX4_init_13 0 rfl ?_
  refine mw_sipush (v := 1296) dX4_init_14 (by decide) ?_
  refine mk_newaL (n' := 31) (c' := 2) (s' := 2592) rfl rfl rfl (N0 := 1296) (N := 1296) dX4_init_17 wt_847 rfl (by decide) (by decide) (by decide) (zc_uR (by decide) (hz 30 (by decide))) (by decide) (by decide) (by decide) rfl ?_
  refine mw_putR (ty := (.array .long)) (ci := 3) (j := 2) tyX4 tyX4_ok nmX4 dX4_init_19 (by decide) rfl rfl rfl (by decide) uws_3 wt_119 (Or.inl rfl) (Or.inr ⟨rfl, rfl, rfl⟩) (by decide +kernel) rfl rfl ?_
  refine mw_aload_n dX4_init_22 0 rfl ?_
  refine mw_sipush (v := 1296) dX4_init_23 (by decide) ?_
  refine mk_newaL (n' := 32) (c' := 3) (s' := 3888) rfl rfl rfl (N0 := 1296) (N := 1296) dX4_init_26 wt_847 rfl (by decide) (by decide) (by decide) (zc_uR (by decide) (zc_uR (by decide) (hz 31 (by decide)))) (by decide) (by decide) (by decide) rfl ?_
  refine mw_putR (ty := (.array .long)) (ci := 3) (j := 3) tyX4 tyX4_ok nmX4 dX4_init_28 (by decide) rfl rfl rfl (by decide) uws_3 wt_120 (Or.inl rfl) (Or.inr ⟨rfl, rfl, rfl⟩) (by decide +kernel) rfl rfl ?_
  refine mw_aload_n dX4_init_31 0 rfl ?_
  refine mw_bipush (v := 6) dX4_init_32 (by decide) ?_
  refine mk_newaL (n' := 33) (c' := 4) (s' := 3894) rfl rfl rfl (N0 := 6) (N := 6) dX4_init_34 wt_847 rfl (by decide) (by decide) (by decide) (zc_uR (by decide) (zc_uR (by decide) (zc_uR (by decide) (hz 32 (by decide))))) (by decide) (by decide) (by decide) rfl ?_
  refine mw_putR (ty := (.array .long)) (ci := 3) (j := 4) tyX4 tyX4_ok nmX4 dX4_init_36 (by decide) rfl rfl rfl (by decide) uws_3 wt_159 (Or.inl rfl) (Or.inr ⟨rfl, rfl, rfl⟩) (by decide +kernel) rfl rfl ?_
  refine mw_aload_n dX4_init_39 0 rfl ?_
  refine mw_bipush (v := 6) dX4_init_40 (by decide) ?_
  refine mk_newaZ (n' := 34) (c' := 5) (s' := 3900) rfl rfl rfl (N0 := 6) (N := 6) dX4_init_42 wt_848 rfl (by decide) (by decide) (by decide) (zc_uR (by decide) (zc_uR (by decide) (zc_uR (by decide) (zc_uR (by decide) (hz 33 (by decide)))))) (by decide) (by decide) (by decide) rfl ?_
  refine mw_putR (ty := (.array .boolean)) (ci := 3) (j := 5) tyX4 tyX4_ok nmX4 dX4_init_44 (by decide) rfl rfl rfl (by decide) uws_3 wt_164 (Or.inl rfl) (Or.inr ⟨rfl, rfl, rfl⟩) (by decide +kernel) rfl rfl ?_
  refine mw_aload_n dX4_init_47 0 rfl ?_
  refine mw_bipush (v := 6) dX4_init_48 (by decide) ?_
  refine mk_newaI (n' := 35) (c' := 6) (s' := 3906) rfl rfl rfl (N0 := 6) (N := 6) dX4_init_50 wt_840 rfl (by decide) (by decide) (by decide) (zc_uR (by decide) (zc_uR (by decide) (zc_uR (by decide) (zc_uR (by decide) (zc_uR (by decide) (hz 34 (by decide))))))) (by decide) (by decide) (by decide) rfl ?_
  refine mw_putR (ty := (.array .int)) (ci := 3) (j := 6) tyX4 tyX4_ok nmX4 dX4_init_52 (by decide) rfl rfl rfl (by decide) uws_3 wt_108 (Or.inl rfl) (Or.inr ⟨rfl, rfl, rfl⟩) (by decide +kernel) rfl rfl ?_
  refine mw_aload_n dX4_init_55 0 rfl ?_
  refine mw_bipush (v := 84) dX4_init_56 (by decide) ?_
  refine mk_newaI (n' := 36) (c' := 7) (s' := 3990) rfl rfl rfl (N0 := 84) (N := 84) dX4_init_58 wt_840 rfl (by decide) (by decide) (by decide) (zc_uR (by decide) (zc_uR (by decide) (zc_uR (by decide) (zc_uR (by decide) (zc_uR (by decide) (zc_uR (by decide) (hz 35 (by decide)))))))) (by decide) (by decide) (by decide) rfl ?_
  refine mw_putR (ty := (.array .int)) (ci := 3) (j := 7) tyX4 tyX4_ok nmX4 dX4_init_60 (by decide) rfl rfl rfl (by decide) uws_3 wt_109 (Or.inl rfl) (Or.inr ⟨rfl, rfl, rfl⟩) (by decide +kernel) rfl rfl ?_
  refine mw_aload_n dX4_init_63 0 rfl ?_
  refine mw_bipush (v := 14) dX4_init_64 (by decide) ?_
  refine mk_newaI (n' := 37) (c' := 8) (s' := 4004) rfl rfl rfl (N0 := 14) (N := 14) dX4_init_66 wt_840 rfl (by decide) (by decide) (by decide) (zc_uR (by decide) (zc_uR (by decide) (zc_uR (by decide) (zc_uR (by decide) (zc_uR (by decide) (zc_uR (by decide) (zc_uR (by decide) (hz 36 (by decide))))))))) (by decide) (by decide) (by decide) rfl ?_
  refine mw_putR (ty := (.array .int)) (ci := 3) (j := 8) tyX4 tyX4_ok nmX4 dX4_init_68 (by decide) rfl rfl rfl (by decide) uws_3 wt_110 (Or.inl rfl) (Or.inr ⟨rfl, rfl, rfl⟩) (by decide +kernel) rfl rfl ?_
  refine mw_aload_n dX4_init_71 0 rfl ?_
  refine mw_bipush (v := 14) dX4_init_72 (by decide) ?_
  refine mk_newaL (n' := 38) (c' := 9) (s' := 4018) rfl rfl rfl (N0 := 14) (N := 14) dX4_init_74 wt_847 rfl (by decide) (by decide) (by decide) (zc_uR (by decide) (zc_uR (by decide) (zc_uR (by decide) (zc_uR (by decide) (zc_uR (by decide) (zc_uR (by decide) (zc_uR (by decide) (zc_uR (by decide) (hz 37 (by decide)))))))))) (by decide) (by decide) (by decide) rfl ?_
  refine mw_putR (ty := (.array .long)) (ci := 3) (j := 9) tyX4 tyX4_ok nmX4 dX4_init_76 (by decide) rfl rfl rfl (by decide) uws_3 wt_111 (Or.inl rfl) (Or.inr ⟨rfl, rfl, rfl⟩) (by decide +kernel) rfl rfl ?_
  refine mw_aload_n dX4_init_79 0 rfl ?_
  refine mw_bipush (v := 14) dX4_init_80 (by decide) ?_
  refine mk_newaL (n' := 39) (c' := 10) (s' := 4032) rfl rfl rfl (N0 := 14) (N := 14) dX4_init_82 wt_847 rfl (by decide) (by decide) (by decide) (zc_uR (by decide) (zc_uR (by decide) (zc_uR (by decide) (zc_uR (by decide) (zc_uR (by decide) (zc_uR (by decide) (zc_uR (by decide) (zc_uR (by decide) (zc_uR (by decide) (hz 38 (by decide))))))))))) (by decide) (by decide) (by decide) rfl ?_
  refine mw_putR (ty := (.array .long)) (ci := 3) (j := 10) tyX4 tyX4_ok nmX4 dX4_init_84 (by decide) rfl rfl rfl (by decide) uws_3 wt_112 (Or.inl rfl) (Or.inr ⟨rfl, rfl, rfl⟩) (by decide +kernel) rfl rfl ?_
  exact mw_vret dX4_init_87 rfl rfl rfl rfl
theorem su_X4_init_28 {σ : MSt} (h : rsup σ.2.2) : rsup (s_X4_init_28 σ).2.2 := by
  unfold s_X4_init_28
  exact (su_R (by decide) (by decide) (su_R (by decide) (by decide) (su_R (by decide) (by decide) (su_R (by decide) (by decide) (su_R (by decide) (by decide) (su_R (by decide) (by decide) (su_R (by decide) (by decide) (su_R (by decide) (by decide) (su_R (by decide) (by decide) (su_R (by decide) (by decide) h))))))))))

def s_X0_init_39 (σ : MSt) : MSt := (muR (muR (muR σ 39 7 (some 40)) 39 8 (some 41)) 39 9 (some 42))
theorem z_X0_init_39 {σ : MSt} {k : Nat} (hk : 43 ≤ k) (z : zc σ k) : zc (s_X0_init_39 σ) k := by
  unfold s_X0_init_39
  exact (zc_uR (by omega) (zc_uR (by omega) (zc_uR (by omega) z)))
set_option maxRecDepth 100000 in
set_option maxHeartbeats 4000000 in
theorem c_X0_init_39 (l : Launch) (σ : MSt) (hz : ∀ k, 40 ≤ k → zc σ k) : MCt l yX0_init cX0_init 1 none (mkr 1 3 42) [.ref 39] 40 σ 3 42 (43, none, s_X0_init_39 σ) := by
  refine mw_entry (own := RX0) (ini := true) (L := [(0, .ref 39)]) (by decide +kernel) rfl (fun _ => rfl) rfl (Nat.le_of_ble_eq_true rfl) (by decide) (fun E => ?_)
  refine mw_aload_n dX0_init_0 0 rfl ?_
  refine mw_objInit dX0_init_1 wt_853 wt_835 wt_836 (by decide) (by decide) ?_
  refine mw_aload_n dX0_init_4 0 rfl ?_
  refine mw_bipush (v := 14) dX0_init_5 (by decide) ?_
  refine mk_newaL (n' := 41) (c' := 1) (s' := 14) rfl rfl rfl (N0 := 14) (N := 14) dX0_init_7 wt_847 rfl (by decide) (by decide) (by decide) (hz 40 (by decide)) (by decide) (by decide) (by decide) rfl ?_
  refine mw_putR (ty := (.array .long)) (ci := 6) (j := 7) tyX7 tyX7_ok nmX7 dX0_init_9 (by decide) rfl rfl rfl (by decide) uws_6 wt_224 (Or.inl rfl) (Or.inr ⟨rfl, rfl, rfl⟩) (by decide +kernel) rfl rfl ?_
  refine mw_aload_n dX0_init_12 0 rfl ?_
  refine mw_bipush (v := 14) dX0_init_13 (by decide) ?_
  refine mk_newaL (n' := 42) (c' := 2) (s' := 28) rfl rfl rfl (N0 := 14) (N := 14) dX0_init_15 wt_847 rfl (by decide) (by decide) (by decide) (zc_uR (by decide) (hz 41 (by decide))) (by decide) (by decide) (by decide) rfl ?_
  refine mw_putR (ty := (.array .long)) (ci := 6) (j := 8) tyX7 tyX7_ok nmX7 dX0_init_17 (by decide) rfl rfl rfl (by decide) uws_6 wt_226 (Or.inl rfl) (Or.inr ⟨rfl, rfl, rfl⟩) (by decide +kernel) rfl rfl ?_
  refine mw_aload_n dX0_init_20 0 rfl ?_
  refine mw_bipush (v := 14) dX0_init_21 (by decide) ?_
  refine mk_newaL (n' := 43) (c' := 3) (s' := 42) rfl rfl rfl (N0 := 14) (N := 14) dX0_init_23 wt_847 rfl (by decide) (by decide) (by decide) (zc_uR (by decide) (zc_uR (by decide) (hz 42 (by decide)))) (by decide) (by decide) (by decide) rfl ?_
  refine mw_putR (ty := (.array .long)) (ci := 6) (j := 9) tyX7 tyX7_ok nmX7 dX0_init_25 (by decide) rfl rfl rfl (by decide) uws_6 wt_249 (Or.inl rfl) (Or.inr ⟨rfl, rfl, rfl⟩) (by decide +kernel) rfl rfl ?_
  exact mw_vret dX0_init_28 rfl rfl rfl rfl
theorem su_X0_init_39 {σ : MSt} (h : rsup σ.2.2) : rsup (s_X0_init_39 σ).2.2 := by
  unfold s_X0_init_39
  exact (su_R (by decide) (by decide) (su_R (by decide) (by decide) (su_R (by decide) (by decide) h)))

def s_X2_init_43 (σ : MSt) : MSt := (muR σ 43 0 (some 44))
theorem z_X2_init_43 {σ : MSt} {k : Nat} (hk : 45 ≤ k) (z : zc σ k) : zc (s_X2_init_43 σ) k := by
  unfold s_X2_init_43
  exact (zc_uR (by omega) z)
set_option maxRecDepth 100000 in
set_option maxHeartbeats 4000000 in
theorem c_X2_init_43 (l : Launch) (σ : MSt) (hz : ∀ k, 44 ≤ k → zc σ k) : MCt l yX2_init cX2_init 1 none (mkr 1 1 6) [.ref 43] 44 σ 1 6 (45, none, s_X2_init_43 σ) := by
  refine mw_entry (own := RX2) (ini := true) (L := [(0, .ref 43)]) (by decide +kernel) rfl (fun _ => rfl) rfl (Nat.le_of_ble_eq_true rfl) (by decide) (fun E => ?_)
  refine mw_aload_n dX2_init_0 0 rfl ?_
  refine mw_objInit dX2_init_1 wt_858 wt_835 wt_836 (by decide) (by decide) ?_
  refine mw_aload_n dX2_init_4 0 rfl ?_
  refine mw_bipush (v := 6) dX2_init_5 (by decide) ?_
  refine mk_newaI (n' := 45) (c' := 1) (s' := 6) rfl rfl rfl (N0 := 6) (N := 6) dX2_init_7 wt_840 rfl (by decide) (by decide) (by decide) (hz 44 (by decide)) (by decide) (by decide) (by decide) rfl ?_
  refine mw_putR (ty := (.array .int)) (ci := 1) (j := 0) tyX2 tyX2_ok nmX2 dX2_init_9 (by decide) rfl rfl rfl (by decide) uws_1 wt_273 (Or.inl rfl) (Or.inr ⟨rfl, rfl, rfl⟩) (by decide +kernel) rfl rfl ?_
  exact mw_vret dX2_init_12 rfl rfl rfl rfl
theorem su_X2_init_43 {σ : MSt} (h : rsup σ.2.2) : rsup (s_X2_init_43 σ).2.2 := by
  unfold s_X2_init_43
  exact (su_R (by decide) (by decide) h)

def s_X7_init_39 (σ : MSt) : MSt := (muR (s_X2_init_43 (s_X0_init_39 σ)) 39 10 (some 43))
theorem z_X7_init_39 {σ : MSt} {k : Nat} (hk : 45 ≤ k) (z : zc σ k) : zc (s_X7_init_39 σ) k := by
  unfold s_X7_init_39
  exact (zc_uR (by omega) (z_X2_init_43 (by omega) (z_X0_init_39 (by omega) z)))
set_option maxRecDepth 100000 in
set_option maxHeartbeats 4000000 in
theorem c_X7_init_39 (l : Launch) (σ : MSt) (hz : ∀ k, 40 ≤ k → zc σ k) : MCt l yX7_init cX7_init 1 none (mkr 2 5 49) [.ref 39] 40 σ 5 49 (45, none, s_X7_init_39 σ) := by
  refine mw_entry (own := RX7) (ini := true) (L := [(0, .ref 39)]) (by decide +kernel) rfl (fun _ => rfl) rfl (Nat.le_of_ble_eq_true rfl) (by decide) (fun E => ?_)
  refine mw_aload_n dX7_init_0 0 rfl ?_
  refine mk_callIN (n' := 43) (c' := 3) (s' := 42) (As := []) lkJ_RX7_3_yX0_init dX7_init_1 (c_X0_init_39 l _ (fun k hk => (hz k (by omega)))) rfl rfl (Nat.le_of_ble_eq_true rfl) ⟨by decide, by decide⟩ rfl rfl rfl rfl rfl (by decide) ⟨by decide, by decide⟩ ?_
  refine mw_aload_n dX7_init_4 0 rfl ?_
  refine mk_new (n' := 44) (c' := 4) (s' := 43) rfl rfl rfl (N0 := 1) (ci := 1) tyX2 dX7_init_5 rfl rfl rfl uws_1 tyX2_ok (by decide +kernel) wt_856 wt_857 wt_272 (z_X0_init_39 (by decide) (hz 43 (by decide))) (by decide) (by decide) (by decide) rfl ?_
  refine mw_dup dX7_init_8 rfl ?_
  refine mk_callIN (n' := 45) (c' := 5) (s' := 49) (As := []) lkJ_RX7_11_yX2_init dX7_init_9 (c_X2_init_43 l _ (fun k hk => (z_X0_init_39 (by omega) (hz k (by omega))))) rfl rfl (Nat.le_of_ble_eq_true rfl) ⟨by decide, by decide⟩ rfl rfl rfl rfl rfl (by decide) ⟨by decide, by decide⟩ ?_
  refine mw_putR (ty := (.object "RoundsPerHour$Joins")) (ci := 6) (j := 10) tyX7 tyX7_ok nmX7 dX7_init_12 (by decide) rfl rfl rfl (by decide) uws_6 wt_265 (Or.inl rfl) (Or.inr ⟨rfl, rfl, rfl⟩) (by decide +kernel) rfl rfl ?_
  exact mw_vret dX7_init_15 rfl rfl rfl rfl
theorem su_X7_init_39 {σ : MSt} (h : rsup σ.2.2) : rsup (s_X7_init_39 σ).2.2 := by
  unfold s_X7_init_39
  exact (su_R (by decide) (by decide) (su_X2_init_43 (su_X0_init_39 h)))

def s_X0_init_45 (σ : MSt) : MSt := (muR (muR (muR σ 45 7 (some 46)) 45 8 (some 47)) 45 9 (some 48))
theorem z_X0_init_45 {σ : MSt} {k : Nat} (hk : 49 ≤ k) (z : zc σ k) : zc (s_X0_init_45 σ) k := by
  unfold s_X0_init_45
  exact (zc_uR (by omega) (zc_uR (by omega) (zc_uR (by omega) z)))
set_option maxRecDepth 100000 in
set_option maxHeartbeats 4000000 in
theorem c_X0_init_45 (l : Launch) (σ : MSt) (hz : ∀ k, 46 ≤ k → zc σ k) : MCt l yX0_init cX0_init 1 none (mkr 1 3 42) [.ref 45] 46 σ 3 42 (49, none, s_X0_init_45 σ) := by
  refine mw_entry (own := RX0) (ini := true) (L := [(0, .ref 45)]) (by decide +kernel) rfl (fun _ => rfl) rfl (Nat.le_of_ble_eq_true rfl) (by decide) (fun E => ?_)
  refine mw_aload_n dX0_init_0 0 rfl ?_
  refine mw_objInit dX0_init_1 wt_853 wt_835 wt_836 (by decide) (by decide) ?_
  refine mw_aload_n dX0_init_4 0 rfl ?_
  refine mw_bipush (v := 14) dX0_init_5 (by decide) ?_
  refine mk_newaL (n' := 47) (c' := 1) (s' := 14) rfl rfl rfl (N0 := 14) (N := 14) dX0_init_7 wt_847 rfl (by decide) (by decide) (by decide) (hz 46 (by decide)) (by decide) (by decide) (by decide) rfl ?_
  refine mw_putR (ty := (.array .long)) (ci := 7) (j := 7) tyX8 tyX8_ok nmX8 dX0_init_9 (by decide) rfl rfl rfl (by decide) uws_7 wt_224 (Or.inl rfl) (Or.inr ⟨rfl, rfl, rfl⟩) (by decide +kernel) rfl rfl ?_
  refine mw_aload_n dX0_init_12 0 rfl ?_
  refine mw_bipush (v := 14) dX0_init_13 (by decide) ?_
  refine mk_newaL (n' := 48) (c' := 2) (s' := 28) rfl rfl rfl (N0 := 14) (N := 14) dX0_init_15 wt_847 rfl (by decide) (by decide) (by decide) (zc_uR (by decide) (hz 47 (by decide))) (by decide) (by decide) (by decide) rfl ?_
  refine mw_putR (ty := (.array .long)) (ci := 7) (j := 8) tyX8 tyX8_ok nmX8 dX0_init_17 (by decide) rfl rfl rfl (by decide) uws_7 wt_226 (Or.inl rfl) (Or.inr ⟨rfl, rfl, rfl⟩) (by decide +kernel) rfl rfl ?_
  refine mw_aload_n dX0_init_20 0 rfl ?_
  refine mw_bipush (v := 14) dX0_init_21 (by decide) ?_
  refine mk_newaL (n' := 49) (c' := 3) (s' := 42) rfl rfl rfl (N0 := 14) (N := 14) dX0_init_23 wt_847 rfl (by decide) (by decide) (by decide) (zc_uR (by decide) (zc_uR (by decide) (hz 48 (by decide)))) (by decide) (by decide) (by decide) rfl ?_
  refine mw_putR (ty := (.array .long)) (ci := 7) (j := 9) tyX8 tyX8_ok nmX8 dX0_init_25 (by decide) rfl rfl rfl (by decide) uws_7 wt_249 (Or.inl rfl) (Or.inr ⟨rfl, rfl, rfl⟩) (by decide +kernel) rfl rfl ?_
  exact mw_vret dX0_init_28 rfl rfl rfl rfl
theorem su_X0_init_45 {σ : MSt} (h : rsup σ.2.2) : rsup (s_X0_init_45 σ).2.2 := by
  unfold s_X0_init_45
  exact (su_R (by decide) (by decide) (su_R (by decide) (by decide) (su_R (by decide) (by decide) h)))

def s_X8_init_45 (σ : MSt) : MSt := (muR (muR (s_X0_init_45 σ) 45 10 (some 49)) 45 11 (some 50))
theorem z_X8_init_45 {σ : MSt} {k : Nat} (hk : 51 ≤ k) (z : zc σ k) : zc (s_X8_init_45 σ) k := by
  unfold s_X8_init_45
  exact (zc_uR (by omega) (zc_uR (by omega) (z_X0_init_45 (by omega) z)))
set_option maxRecDepth 100000 in
set_option maxHeartbeats 4000000 in
theorem c_X8_init_45 (l : Launch) (σ : MSt) (hz : ∀ k, 46 ≤ k → zc σ k) : MCt l yX8_init cX8_init 1 none (mkr 2 5 54) [.ref 45] 46 σ 5 54 (51, none, s_X8_init_45 σ) := by
  refine mw_entry (own := RX8) (ini := true) (L := [(0, .ref 45)]) (by decide +kernel) rfl (fun _ => rfl) rfl (Nat.le_of_ble_eq_true rfl) (by decide) (fun E => ?_)
  refine mw_aload_n dX8_init_0 0 rfl ?_
  refine mk_callIN (n' := 49) (c' := 3) (s' := 42) (As := []) lkJ_RX8_3_yX0_init dX8_init_1 (c_X0_init_45 l _ (fun k hk => (hz k (by omega)))) rfl rfl (Nat.le_of_ble_eq_true rfl) ⟨by decide, by decide⟩ rfl rfl rfl rfl rfl (by decide) ⟨by decide, by decide⟩ ?_
  refine mw_aload_n dX8_init_4 0 rfl ?_
  refine mw_bipush (v := 6) dX8_init_5 (by decide) ?_
  refine mk_newaL (n' := 50) (c' := 4) (s' := 48) rfl rfl rfl (N0 := 6) (N := 6) dX8_init_7 wt_847 rfl (by decide) (by decide) (by decide) (z_X0_init_45 (by decide) (hz 49 (by decide))) (by decide) (by decide) (by decide) rfl ?_
  refine mw_putR (ty := (.array .long)) (ci := 7) (j := 10) tyX8 tyX8_ok nmX8 dX8_init_9 (by decide) rfl rfl rfl (by decide) uws_7 wt_316 (Or.inl rfl) (Or.inr ⟨rfl, rfl, rfl⟩) (by decide +kernel) rfl rfl ?_
  refine mw_aload_n dX8_init_12 0 rfl ?_
  refine mw_bipush (v := 6) dX8_init_13 (by decide) ?_
  refine mk_newaI (n' := 51) (c' := 5) (s' := 54) rfl rfl rfl (N0 := 6) (N := 6) dX8_init_15 wt_840 rfl (by decide) (by decide) (by decide) (zc_uR (by decide) (z_X0_init_45 (by decide) (hz 50 (by decide)))) (by decide) (by decide) (by decide) rfl ?_
  refine mw_putR (ty := (.array .int)) (ci := 7) (j := 11) tyX8 tyX8_ok nmX8 dX8_init_17 (by decide) rfl rfl rfl (by decide) uws_7 wt_311 (Or.inl rfl) (Or.inr ⟨rfl, rfl, rfl⟩) (by decide +kernel) rfl rfl ?_
  exact mw_vret dX8_init_20 rfl rfl rfl rfl
theorem su_X8_init_45 {σ : MSt} (h : rsup σ.2.2) : rsup (s_X8_init_45 σ).2.2 := by
  unfold s_X8_init_45
  exact (su_R (by decide) (by decide) (su_R (by decide) (by decide) (su_X0_init_45 h)))

def s_X0_init_51 (σ : MSt) : MSt := (muR (muR (muR σ 51 7 (some 52)) 51 8 (some 53)) 51 9 (some 54))
theorem z_X0_init_51 {σ : MSt} {k : Nat} (hk : 55 ≤ k) (z : zc σ k) : zc (s_X0_init_51 σ) k := by
  unfold s_X0_init_51
  exact (zc_uR (by omega) (zc_uR (by omega) (zc_uR (by omega) z)))
set_option maxRecDepth 100000 in
set_option maxHeartbeats 4000000 in
theorem c_X0_init_51 (l : Launch) (σ : MSt) (hz : ∀ k, 52 ≤ k → zc σ k) : MCt l yX0_init cX0_init 1 none (mkr 1 3 42) [.ref 51] 52 σ 3 42 (55, none, s_X0_init_51 σ) := by
  refine mw_entry (own := RX0) (ini := true) (L := [(0, .ref 51)]) (by decide +kernel) rfl (fun _ => rfl) rfl (Nat.le_of_ble_eq_true rfl) (by decide) (fun E => ?_)
  refine mw_aload_n dX0_init_0 0 rfl ?_
  refine mw_objInit dX0_init_1 wt_853 wt_835 wt_836 (by decide) (by decide) ?_
  refine mw_aload_n dX0_init_4 0 rfl ?_
  refine mw_bipush (v := 14) dX0_init_5 (by decide) ?_
  refine mk_newaL (n' := 53) (c' := 1) (s' := 14) rfl rfl rfl (N0 := 14) (N := 14) dX0_init_7 wt_847 rfl (by decide) (by decide) (by decide) (hz 52 (by decide)) (by decide) (by decide) (by decide) rfl ?_
  refine mw_putR (ty := (.array .long)) (ci := 2) (j := 7) tyX3 tyX3_ok nmX3 dX0_init_9 (by decide) rfl rfl rfl (by decide) uws_2 wt_224 (Or.inl rfl) (Or.inr ⟨rfl, rfl, rfl⟩) (by decide +kernel) rfl rfl ?_
  refine mw_aload_n dX0_init_12 0 rfl ?_
  refine mw_bipush (v := 14) dX0_init_13 (by decide) ?_
  refine mk_newaL (n' := 54) (c' := 2) (s' := 28) rfl rfl rfl (N0 := 14) (N := 14) dX0_init_15 wt_847 rfl (by decide) (by decide) (by decide) (zc_uR (by decide) (hz 53 (by decide))) (by decide) (by decide) (by decide) rfl ?_
  refine mw_putR (ty := (.array .long)) (ci := 2) (j := 8) tyX3 tyX3_ok nmX3 dX0_init_17 (by decide) rfl rfl rfl (by decide) uws_2 wt_226 (Or.inl rfl) (Or.inr ⟨rfl, rfl, rfl⟩) (by decide +kernel) rfl rfl ?_
  refine mw_aload_n dX0_init_20 0 rfl ?_
  refine mw_bipush (v := 14) dX0_init_21 (by decide) ?_
  refine mk_newaL (n' := 55) (c' := 3) (s' := 42) rfl rfl rfl (N0 := 14) (N := 14) dX0_init_23 wt_847 rfl (by decide) (by decide) (by decide) (zc_uR (by decide) (zc_uR (by decide) (hz 54 (by decide)))) (by decide) (by decide) (by decide) rfl ?_
  refine mw_putR (ty := (.array .long)) (ci := 2) (j := 9) tyX3 tyX3_ok nmX3 dX0_init_25 (by decide) rfl rfl rfl (by decide) uws_2 wt_249 (Or.inl rfl) (Or.inr ⟨rfl, rfl, rfl⟩) (by decide +kernel) rfl rfl ?_
  exact mw_vret dX0_init_28 rfl rfl rfl rfl
theorem su_X0_init_51 {σ : MSt} (h : rsup σ.2.2) : rsup (s_X0_init_51 σ).2.2 := by
  unfold s_X0_init_51
  exact (su_R (by decide) (by decide) (su_R (by decide) (by decide) (su_R (by decide) (by decide) h)))

def s_X3_init_51 (σ : MSt) : MSt := (s_X0_init_51 σ)
theorem z_X3_init_51 {σ : MSt} {k : Nat} (hk : 55 ≤ k) (z : zc σ k) : zc (s_X3_init_51 σ) k := by
  unfold s_X3_init_51
  exact (z_X0_init_51 (by omega) z)
set_option maxRecDepth 100000 in
set_option maxHeartbeats 4000000 in
theorem c_X3_init_51 (l : Launch) (σ : MSt) (hz : ∀ k, 52 ≤ k → zc σ k) : MCt l yX3_init cX3_init 1 none (mkr 2 3 42) [.ref 51] 52 σ 3 42 (55, none, s_X3_init_51 σ) := by
  refine mw_entry (own := RX3) (ini := true) (L := [(0, .ref 51)]) (by decide +kernel) rfl (fun _ => rfl) rfl (Nat.le_of_ble_eq_true rfl) (by decide) (fun E => ?_)
  refine mw_aload_n dX3_init_0 0 rfl ?_
  refine mk_callIN (n' := 55) (c' := 3) (s' := 42) (As := []) lkJ_RX3_1_yX0_init dX3_init_1 (c_X0_init_51 l _ (fun k hk => (hz k (by omega)))) rfl rfl (Nat.le_of_ble_eq_true rfl) ⟨by decide, by decide⟩ rfl rfl rfl rfl rfl (by decide) ⟨by decide, by decide⟩ ?_
  exact mw_vret dX3_init_4 rfl rfl rfl rfl
theorem su_X3_init_51 {σ : MSt} (h : rsup σ.2.2) : rsup (s_X3_init_51 σ).2.2 := by
  unfold s_X3_init_51
  exact (su_X0_init_51 h)

def s_X2_init_55 (σ : MSt) : MSt := (muR σ 55 0 (some 56))
theorem z_X2_init_55 {σ : MSt} {k : Nat} (hk : 57 ≤ k) (z : zc σ k) : zc (s_X2_init_55 σ) k := by
  unfold s_X2_init_55
  exact (zc_uR (by omega) z)
set_option maxRecDepth 100000 in
set_option maxHeartbeats 4000000 in
theorem c_X2_init_55 (l : Launch) (σ : MSt) (hz : ∀ k, 56 ≤ k → zc σ k) : MCt l yX2_init cX2_init 1 none (mkr 1 1 6) [.ref 55] 56 σ 1 6 (57, none, s_X2_init_55 σ) := by
  refine mw_entry (own := RX2) (ini := true) (L := [(0, .ref 55)]) (by decide +kernel) rfl (fun _ => rfl) rfl (Nat.le_of_ble_eq_true rfl) (by decide) (fun E => ?_)
  refine mw_aload_n dX2_init_0 0 rfl ?_
  refine mw_objInit dX2_init_1 wt_858 wt_835 wt_836 (by decide) (by decide) ?_
  refine mw_aload_n dX2_init_4 0 rfl ?_
  refine mw_bipush (v := 6) dX2_init_5 (by decide) ?_
  refine mk_newaI (n' := 57) (c' := 1) (s' := 6) rfl rfl rfl (N0 := 6) (N := 6) dX2_init_7 wt_840 rfl (by decide) (by decide) (by decide) (hz 56 (by decide)) (by decide) (by decide) (by decide) rfl ?_
  refine mw_putR (ty := (.array .int)) (ci := 1) (j := 0) tyX2 tyX2_ok nmX2 dX2_init_9 (by decide) rfl rfl rfl (by decide) uws_1 wt_273 (Or.inl rfl) (Or.inr ⟨rfl, rfl, rfl⟩) (by decide +kernel) rfl rfl ?_
  exact mw_vret dX2_init_12 rfl rfl rfl rfl
theorem su_X2_init_55 {σ : MSt} (h : rsup σ.2.2) : rsup (s_X2_init_55 σ).2.2 := by
  unfold s_X2_init_55
  exact (su_R (by decide) (by decide) h)

def s_X6_init_57 (σ : MSt) : MSt := (muR σ 57 1 (some 58))
theorem z_X6_init_57 {σ : MSt} {k : Nat} (hk : 59 ≤ k) (z : zc σ k) : zc (s_X6_init_57 σ) k := by
  unfold s_X6_init_57
  exact (zc_uR (by omega) z)
set_option maxRecDepth 100000 in
set_option maxHeartbeats 4000000 in
theorem c_X6_init_57 (l : Launch) (σ : MSt) (hz : ∀ k, 58 ≤ k → zc σ k) : MCt l yX6_init cX6_init 1 none (mkr 1 1 120) [.ref 57] 58 σ 1 120 (59, none, s_X6_init_57 σ) := by
  refine mw_entry (own := RX6) (ini := true) (L := [(0, .ref 57)]) (by decide +kernel) rfl (fun _ => rfl) rfl (Nat.le_of_ble_eq_true rfl) (by decide) (fun E => ?_)
  refine mw_aload_n dX6_init_0 0 rfl ?_
  refine mw_objInit dX6_init_1 wt_874 wt_835 wt_836 (by decide) (by decide) ?_
  refine mw_aload_n dX6_init_4 0 rfl ?_
  refine mw_bipush (v := 120) dX6_init_5 (by decide) ?_
  refine mk_newaI (n' := 59) (c' := 1) (s' := 120) rfl rfl rfl (N0 := 120) (N := 120) dX6_init_7 wt_840 rfl (by decide) (by decide) (by decide) (hz 58 (by decide)) (by decide) (by decide) (by decide) rfl ?_
  refine mw_putR (ty := (.array .int)) (ci := 5) (j := 1) tyX6 tyX6_ok nmX6 dX6_init_9 (by decide) rfl rfl rfl (by decide) uws_5 wt_447 (Or.inl rfl) (Or.inr ⟨rfl, rfl, rfl⟩) (by decide +kernel) rfl rfl ?_
  exact mw_vret dX6_init_12 rfl rfl rfl rfl
theorem su_X6_init_57 {σ : MSt} (h : rsup σ.2.2) : rsup (s_X6_init_57 σ).2.2 := by
  unfold s_X6_init_57
  exact (su_R (by decide) (by decide) h)

def s_X5_init_61 (σ : MSt) : MSt := (muR σ 61 2 (some 62))
theorem z_X5_init_61 {σ : MSt} {k : Nat} (hk : 63 ≤ k) (z : zc σ k) : zc (s_X5_init_61 σ) k := by
  unfold s_X5_init_61
  exact (zc_uR (by omega) z)
set_option maxRecDepth 100000 in
set_option maxHeartbeats 4000000 in
theorem c_X5_init_61 (l : Launch) (σ : MSt) (hz : ∀ k, 62 ≤ k → zc σ k) : MCt l yX5_init cX5_init 1 none (mkr 1 1 40) [.ref 61] 62 σ 1 40 (63, none, s_X5_init_61 σ) := by
  refine mw_entry (own := RX5) (ini := true) (L := [(0, .ref 61)]) (by decide +kernel) rfl (fun _ => rfl) rfl (Nat.le_of_ble_eq_true rfl) (by decide) (fun E => ?_)
  refine mw_aload_n dX5_init_0 0 rfl ?_
  refine mw_objInit dX5_init_1 wt_880 wt_835 wt_836 (by decide) (by decide) ?_
  refine mw_aload_n dX5_init_4 0 rfl ?_
  refine mw_bipush (v := 40) dX5_init_5 (by decide) ?_
  refine mk_newaL (n' := 63) (c' := 1) (s' := 40) rfl rfl rfl (N0 := 40) (N := 40) dX5_init_7 wt_847 rfl (by decide) (by decide) (by decide) (hz 62 (by decide)) (by decide) (by decide) (by decide) rfl ?_
  refine mw_putR (ty := (.array .long)) (ci := 4) (j := 2) tyX5 tyX5_ok nmX5 dX5_init_9 (by decide) rfl rfl rfl (by decide) uws_4 wt_435 (Or.inl rfl) (Or.inr ⟨rfl, rfl, rfl⟩) (by decide +kernel) rfl rfl ?_
  exact mw_vret dX5_init_12 rfl rfl rfl rfl
theorem su_X5_init_61 {σ : MSt} (h : rsup σ.2.2) : rsup (s_X5_init_61 σ).2.2 := by
  unfold s_X5_init_61
  exact (su_R (by decide) (by decide) h)

def s_X5_init_63 (σ : MSt) : MSt := (muR σ 63 2 (some 64))
theorem z_X5_init_63 {σ : MSt} {k : Nat} (hk : 65 ≤ k) (z : zc σ k) : zc (s_X5_init_63 σ) k := by
  unfold s_X5_init_63
  exact (zc_uR (by omega) z)
set_option maxRecDepth 100000 in
set_option maxHeartbeats 4000000 in
theorem c_X5_init_63 (l : Launch) (σ : MSt) (hz : ∀ k, 64 ≤ k → zc σ k) : MCt l yX5_init cX5_init 1 none (mkr 1 1 40) [.ref 63] 64 σ 1 40 (65, none, s_X5_init_63 σ) := by
  refine mw_entry (own := RX5) (ini := true) (L := [(0, .ref 63)]) (by decide +kernel) rfl (fun _ => rfl) rfl (Nat.le_of_ble_eq_true rfl) (by decide) (fun E => ?_)
  refine mw_aload_n dX5_init_0 0 rfl ?_
  refine mw_objInit dX5_init_1 wt_880 wt_835 wt_836 (by decide) (by decide) ?_
  refine mw_aload_n dX5_init_4 0 rfl ?_
  refine mw_bipush (v := 40) dX5_init_5 (by decide) ?_
  refine mk_newaL (n' := 65) (c' := 1) (s' := 40) rfl rfl rfl (N0 := 40) (N := 40) dX5_init_7 wt_847 rfl (by decide) (by decide) (by decide) (hz 64 (by decide)) (by decide) (by decide) (by decide) rfl ?_
  refine mw_putR (ty := (.array .long)) (ci := 4) (j := 2) tyX5 tyX5_ok nmX5 dX5_init_9 (by decide) rfl rfl rfl (by decide) uws_4 wt_435 (Or.inl rfl) (Or.inr ⟨rfl, rfl, rfl⟩) (by decide +kernel) rfl rfl ?_
  exact mw_vret dX5_init_12 rfl rfl rfl rfl
theorem su_X5_init_63 {σ : MSt} (h : rsup σ.2.2) : rsup (s_X5_init_63 σ).2.2 := by
  unfold s_X5_init_63
  exact (su_R (by decide) (by decide) h)

def s_X5_init_65 (σ : MSt) : MSt := (muR σ 65 2 (some 66))
theorem z_X5_init_65 {σ : MSt} {k : Nat} (hk : 67 ≤ k) (z : zc σ k) : zc (s_X5_init_65 σ) k := by
  unfold s_X5_init_65
  exact (zc_uR (by omega) z)
set_option maxRecDepth 100000 in
set_option maxHeartbeats 4000000 in
theorem c_X5_init_65 (l : Launch) (σ : MSt) (hz : ∀ k, 66 ≤ k → zc σ k) : MCt l yX5_init cX5_init 1 none (mkr 1 1 40) [.ref 65] 66 σ 1 40 (67, none, s_X5_init_65 σ) := by
  refine mw_entry (own := RX5) (ini := true) (L := [(0, .ref 65)]) (by decide +kernel) rfl (fun _ => rfl) rfl (Nat.le_of_ble_eq_true rfl) (by decide) (fun E => ?_)
  refine mw_aload_n dX5_init_0 0 rfl ?_
  refine mw_objInit dX5_init_1 wt_880 wt_835 wt_836 (by decide) (by decide) ?_
  refine mw_aload_n dX5_init_4 0 rfl ?_
  refine mw_bipush (v := 40) dX5_init_5 (by decide) ?_
  refine mk_newaL (n' := 67) (c' := 1) (s' := 40) rfl rfl rfl (N0 := 40) (N := 40) dX5_init_7 wt_847 rfl (by decide) (by decide) (by decide) (hz 66 (by decide)) (by decide) (by decide) (by decide) rfl ?_
  refine mw_putR (ty := (.array .long)) (ci := 4) (j := 2) tyX5 tyX5_ok nmX5 dX5_init_9 (by decide) rfl rfl rfl (by decide) uws_4 wt_435 (Or.inl rfl) (Or.inr ⟨rfl, rfl, rfl⟩) (by decide +kernel) rfl rfl ?_
  exact mw_vret dX5_init_12 rfl rfl rfl rfl
theorem su_X5_init_65 {σ : MSt} (h : rsup σ.2.2) : rsup (s_X5_init_65 σ).2.2 := by
  unfold s_X5_init_65
  exact (su_R (by decide) (by decide) h)

def s_X5_init_67 (σ : MSt) : MSt := (muR σ 67 2 (some 68))
theorem z_X5_init_67 {σ : MSt} {k : Nat} (hk : 69 ≤ k) (z : zc σ k) : zc (s_X5_init_67 σ) k := by
  unfold s_X5_init_67
  exact (zc_uR (by omega) z)
set_option maxRecDepth 100000 in
set_option maxHeartbeats 4000000 in
theorem c_X5_init_67 (l : Launch) (σ : MSt) (hz : ∀ k, 68 ≤ k → zc σ k) : MCt l yX5_init cX5_init 1 none (mkr 1 1 40) [.ref 67] 68 σ 1 40 (69, none, s_X5_init_67 σ) := by
  refine mw_entry (own := RX5) (ini := true) (L := [(0, .ref 67)]) (by decide +kernel) rfl (fun _ => rfl) rfl (Nat.le_of_ble_eq_true rfl) (by decide) (fun E => ?_)
  refine mw_aload_n dX5_init_0 0 rfl ?_
  refine mw_objInit dX5_init_1 wt_880 wt_835 wt_836 (by decide) (by decide) ?_
  refine mw_aload_n dX5_init_4 0 rfl ?_
  refine mw_bipush (v := 40) dX5_init_5 (by decide) ?_
  refine mk_newaL (n' := 69) (c' := 1) (s' := 40) rfl rfl rfl (N0 := 40) (N := 40) dX5_init_7 wt_847 rfl (by decide) (by decide) (by decide) (hz 68 (by decide)) (by decide) (by decide) (by decide) rfl ?_
  refine mw_putR (ty := (.array .long)) (ci := 4) (j := 2) tyX5 tyX5_ok nmX5 dX5_init_9 (by decide) rfl rfl rfl (by decide) uws_4 wt_435 (Or.inl rfl) (Or.inr ⟨rfl, rfl, rfl⟩) (by decide +kernel) rfl rfl ?_
  exact mw_vret dX5_init_12 rfl rfl rfl rfl
theorem su_X5_init_67 {σ : MSt} (h : rsup σ.2.2) : rsup (s_X5_init_67 σ).2.2 := by
  unfold s_X5_init_67
  exact (su_R (by decide) (by decide) h)

def s_X9_init_0 (σ : MSt) : MSt := (muR (s_X5_init_67 (muR (s_X5_init_65 (muR (s_X5_init_63 (muR (s_X5_init_61 (muR (muR (muR (s_X6_init_57 (muR (s_X2_init_55 (muR (s_X3_init_51 (muR (s_X8_init_45 (muR (s_X7_init_39 (muR (s_X4_init_28 (muR (s_X1_init_19 (muR (s_X1_init_10 (muR (s_X1_init_1 σ) 0 0 (some 1))) 0 1 (some 10))) 0 2 (some 19))) 0 4 (some 28))) 0 5 (some 39))) 0 6 (some 45))) 0 7 (some 51))) 0 8 (some 55))) 0 9 (some 57)) 0 10 (some 59)) 0 11 (some 60))) 59 (0 : Int32).toNatClampNeg (some 61))) 59 (1 : Int32).toNatClampNeg (some 63))) 59 (2 : Int32).toNatClampNeg (some 65))) 59 (3 : Int32).toNatClampNeg (some 67))
theorem z_X9_init_0 {σ : MSt} {k : Nat} (hk : 69 ≤ k) (z : zc σ k) : zc (s_X9_init_0 σ) k := by
  unfold s_X9_init_0
  exact (zc_uR (by omega) (z_X5_init_67 (by omega) (zc_uR (by omega) (z_X5_init_65 (by omega) (zc_uR (by omega) (z_X5_init_63 (by omega) (zc_uR (by omega) (z_X5_init_61 (by omega) (zc_uR (by omega) (zc_uR (by omega) (zc_uR (by omega) (z_X6_init_57 (by omega) (zc_uR (by omega) (z_X2_init_55 (by omega) (zc_uR (by omega) (z_X3_init_51 (by omega) (zc_uR (by omega) (z_X8_init_45 (by omega) (zc_uR (by omega) (z_X7_init_39 (by omega) (zc_uR (by omega) (z_X4_init_28 (by omega) (zc_uR (by omega) (z_X1_init_19 (by omega) (zc_uR (by omega) (z_X1_init_10 (by omega) (zc_uR (by omega) (z_X1_init_1 (by omega) z))))))))))))))))))))))))))))
set_option maxRecDepth 100000 in
set_option maxHeartbeats 4000000 in
theorem c_X9_init_0 (l : Launch) (σ : MSt) (hz : ∀ k, 1 ≤ k → zc σ k) : MCt l yX9_init cX9_init 2 none (mkr 3 68 4915) [.ref 0] 1 σ 68 4915 (69, none, s_X9_init_0 σ) := by
  refine mw_entry (own := RX9) (ini := true) (L := [(0, .ref 0)]) (by decide +kernel) rfl (fun _ => rfl) rfl (Nat.le_of_ble_eq_true rfl) (by decide) (fun E => ?_)
  refine mw_aload_n dX9_init_0 0 rfl ?_
  refine mw_objInit dX9_init_1 wt_834 wt_835 wt_836 (by decide) (by decide) ?_
  refine mw_aload_n dX9_init_4 0 rfl ?_
  refine mk_new (n' := 2) (c' := 1) (s' := 12) rfl rfl rfl (N0 := 12) (ci := 0) tyX1 dX9_init_5 rfl rfl rfl uws_0 tyX1_ok (by decide +kernel) wt_837 wt_838 wt_32 (hz 1 (by decide)) (by decide) (by decide) (by decide) rfl ?_
  refine mw_dup dX9_init_8 rfl ?_
  refine mk_callI (n' := 10) (c' := 9) (s' := 122) (As := []) lkI_RX9_11_yX1_init dX9_init_9 (c_X1_init_1 l _ (fun k hk => (hz k (by omega)))) rfl rfl (Nat.le_of_ble_eq_true rfl) ⟨by decide, by decide⟩ rfl rfl rfl rfl rfl (by decide) ⟨by decide, by decide⟩ ?_
  refine mw_putR (ty := (.object "RoundsPerHour$Country")) (ci := 8) (j := 0) tyX9 tyX9_ok nmX9 dX9_init_12 (by decide) rfl rfl rfl (by decide) uws_8 wt_0 (Or.inl rfl) (Or.inr ⟨rfl, rfl, rfl⟩) (by decide +kernel) rfl rfl ?_
  refine mw_aload_n dX9_init_15 0 rfl ?_
  refine mk_new (n' := 11) (c' := 10) (s' := 134) rfl rfl rfl (N0 := 12) (ci := 0) tyX1 dX9_init_16 rfl rfl rfl uws_0 tyX1_ok (by decide +kernel) wt_837 wt_838 wt_32 (zc_uR (by decide) (z_X1_init_1 (by decide) (hz 10 (by decide)))) (by decide) (by decide) (by decide) rfl ?_
  refine mw_dup dX9_init_19 rfl ?_
  refine mk_callI (n' := 19) (c' := 18) (s' := 244) (As := []) lkI_RX9_11_yX1_init dX9_init_20 (c_X1_init_10 l _ (fun k hk => (zc_uR (by omega) (z_X1_init_1 (by omega) (hz k (by omega)))))) rfl rfl (Nat.le_of_ble_eq_true rfl) ⟨by decide, by decide⟩ rfl rfl rfl rfl rfl (by decide) ⟨by decide, by decide⟩ ?_
  refine mw_putR (ty := (.object "RoundsPerHour$Country")) (ci := 8) (j := 1) tyX9 tyX9_ok nmX9 dX9_init_23 (by decide) rfl rfl rfl (by decide) uws_8 wt_569 (Or.inl rfl) (Or.inr ⟨rfl, rfl, rfl⟩) (by decide +kernel) rfl rfl ?_
  refine mw_aload_n dX9_init_26 0 rfl ?_
  refine mk_new (n' := 20) (c' := 19) (s' := 256) rfl rfl rfl (N0 := 12) (ci := 0) tyX1 dX9_init_27 rfl rfl rfl uws_0 tyX1_ok (by decide +kernel) wt_837 wt_838 wt_32 (zc_uR (by decide) (z_X1_init_10 (by decide) (zc_uR (by decide) (z_X1_init_1 (by decide) (hz 19 (by decide)))))) (by decide) (by decide) (by decide) rfl ?_
  refine mw_dup dX9_init_30 rfl ?_
  refine mk_callI (n' := 28) (c' := 27) (s' := 366) (As := []) lkI_RX9_11_yX1_init dX9_init_31 (c_X1_init_19 l _ (fun k hk => (zc_uR (by omega) (z_X1_init_10 (by omega) (zc_uR (by omega) (z_X1_init_1 (by omega) (hz k (by omega)))))))) rfl rfl (Nat.le_of_ble_eq_true rfl) ⟨by decide, by decide⟩ rfl rfl rfl rfl rfl (by decide) ⟨by decide, by decide⟩ ?_
  refine mw_putR (ty := (.object "RoundsPerHour$Country")) (ci := 8) (j := 2) tyX9 tyX9_ok nmX9 dX9_init_34 (by decide) rfl rfl rfl (by decide) uws_8 wt_189 (Or.inl rfl) (Or.inr ⟨rfl, rfl, rfl⟩) (by decide +kernel) rfl rfl ?_
  refine mw_aload_n dX9_init_37 0 rfl ?_
  refine mk_new (n' := 29) (c' := 28) (s' := 379) rfl rfl rfl (N0 := 13) (ci := 3) tyX4 dX9_init_38 rfl rfl rfl uws_3 tyX4_ok (by decide +kernel) wt_844 wt_845 wt_102 (zc_uR (by decide) (z_X1_init_19 (by decide) (zc_uR (by decide) (z_X1_init_10 (by decide) (zc_uR (by decide) (z_X1_init_1 (by decide) (hz 28 (by decide)))))))) (by decide) (by decide) (by decide) rfl ?_
  refine mw_dup dX9_init_41 rfl ?_
  refine mk_callIN (n' := 39) (c' := 38) (s' := 4411) (As := []) lkJ_RX9_24_yX4_init dX9_init_42 (c_X4_init_28 l _ (fun k hk => (zc_uR (by omega) (z_X1_init_19 (by omega) (zc_uR (by omega) (z_X1_init_10 (by omega) (zc_uR (by omega) (z_X1_init_1 (by omega) (hz k (by omega)))))))))) rfl rfl (Nat.le_of_ble_eq_true rfl) ⟨by decide, by decide⟩ rfl rfl rfl rfl rfl (by decide) ⟨by decide, by decide⟩ ?_
  refine mw_putR (ty := (.object "RoundsPerHour$Rings")) (ci := 8) (j := 4) tyX9 tyX9_ok nmX9 dX9_init_45 (by decide) rfl rfl rfl (by decide) uws_8 wt_97 (Or.inl rfl) (Or.inr ⟨rfl, rfl, rfl⟩) (by decide +kernel) rfl rfl ?_
  refine mw_aload_n dX9_init_48 0 rfl ?_
  refine mk_new (n' := 40) (c' := 39) (s' := 4423) rfl rfl rfl (N0 := 12) (ci := 6) tyX7 dX9_init_49 rfl rfl rfl uws_6 tyX7_ok (by decide +kernel) wt_851 wt_852 wt_215 (zc_uR (by decide) (z_X4_init_28 (by decide) (zc_uR (by decide) (z_X1_init_19 (by decide) (zc_uR (by decide) (z_X1_init_10 (by decide) (zc_uR (by decide) (z_X1_init_1 (by decide) (hz 39 (by decide)))))))))) (by decide) (by decide) (by decide) rfl ?_
  refine mw_dup dX9_init_52 rfl ?_
  refine mk_callIN (n' := 45) (c' := 44) (s' := 4472) (As := []) lkJ_RX9_31_yX7_init dX9_init_53 (c_X7_init_39 l _ (fun k hk => (zc_uR (by omega) (z_X4_init_28 (by omega) (zc_uR (by omega) (z_X1_init_19 (by omega) (zc_uR (by omega) (z_X1_init_10 (by omega) (zc_uR (by omega) (z_X1_init_1 (by omega) (hz k (by omega)))))))))))) rfl rfl (Nat.le_of_ble_eq_true rfl) ⟨by decide, by decide⟩ rfl rfl rfl rfl rfl (by decide) ⟨by decide, by decide⟩ ?_
  refine mw_putR (ty := (.object "RoundsPerHour$TreeClimb")) (ci := 8) (j := 5) tyX9 tyX9_ok nmX9 dX9_init_56 (by decide) rfl rfl rfl (by decide) uws_8 wt_210 (Or.inl rfl) (Or.inr ⟨rfl, rfl, rfl⟩) (by decide +kernel) rfl rfl ?_
  refine mw_aload_n dX9_init_59 0 rfl ?_
  refine mk_new (n' := 46) (c' := 45) (s' := 4487) rfl rfl rfl (N0 := 15) (ci := 7) tyX8 dX9_init_60 rfl rfl rfl uws_7 tyX8_ok (by decide +kernel) wt_863 wt_864 wt_296 (zc_uR (by decide) (z_X7_init_39 (by decide) (zc_uR (by decide) (z_X4_init_28 (by decide) (zc_uR (by decide) (z_X1_init_19 (by decide) (zc_uR (by decide) (z_X1_init_10 (by decide) (zc_uR (by decide) (z_X1_init_1 (by decide) (hz 45 (by decide)))))))))))) (by decide) (by decide) (by decide) rfl ?_
  refine mw_dup dX9_init_63 rfl ?_
  refine mk_callIN (n' := 51) (c' := 50) (s' := 4541) (As := []) lkJ_RX9_38_yX8_init dX9_init_64 (c_X8_init_45 l _ (fun k hk => (zc_uR (by omega) (z_X7_init_39 (by omega) (zc_uR (by omega) (z_X4_init_28 (by omega) (zc_uR (by omega) (z_X1_init_19 (by omega) (zc_uR (by omega) (z_X1_init_10 (by omega) (zc_uR (by omega) (z_X1_init_1 (by omega) (hz k (by omega)))))))))))))) rfl rfl (Nat.le_of_ble_eq_true rfl) ⟨by decide, by decide⟩ rfl rfl rfl rfl rfl (by decide) ⟨by decide, by decide⟩ ?_
  refine mw_putR (ty := (.object "RoundsPerHour$WalkClimb")) (ci := 8) (j := 6) tyX9 tyX9_ok nmX9 dX9_init_67 (by decide) rfl rfl rfl (by decide) uws_8 wt_291 (Or.inl rfl) (Or.inr ⟨rfl, rfl, rfl⟩) (by decide +kernel) rfl rfl ?_
  refine mw_aload_n dX9_init_70 0 rfl ?_
  refine mk_new (n' := 52) (c' := 51) (s' := 4552) rfl rfl rfl (N0 := 11) (ci := 2) tyX3 dX9_init_71 rfl rfl rfl uws_2 tyX3_ok (by decide +kernel) wt_867 wt_868 wt_329 (zc_uR (by decide) (z_X8_init_45 (by decide) (zc_uR (by decide) (z_X7_init_39 (by decide) (zc_uR (by decide) (z_X4_init_28 (by decide) (zc_uR (by decide) (z_X1_init_19 (by decide) (zc_uR (by decide) (z_X1_init_10 (by decide) (zc_uR (by decide) (z_X1_init_1 (by decide) (hz 51 (by decide)))))))))))))) (by decide) (by decide) (by decide) rfl ?_
  refine mw_dup dX9_init_74 rfl ?_
  refine mk_callIN (n' := 55) (c' := 54) (s' := 4594) (As := []) lkJ_RX9_45_yX3_init dX9_init_75 (c_X3_init_51 l _ (fun k hk => (zc_uR (by omega) (z_X8_init_45 (by omega) (zc_uR (by omega) (z_X7_init_39 (by omega) (zc_uR (by omega) (z_X4_init_28 (by omega) (zc_uR (by omega) (z_X1_init_19 (by omega) (zc_uR (by omega) (z_X1_init_10 (by omega) (zc_uR (by omega) (z_X1_init_1 (by omega) (hz k (by omega)))))))))))))))) rfl rfl (Nat.le_of_ble_eq_true rfl) ⟨by decide, by decide⟩ rfl rfl rfl rfl rfl (by decide) ⟨by decide, by decide⟩ ?_
  refine mw_putR (ty := (.object "RoundsPerHour$LoadClimb")) (ci := 8) (j := 7) tyX9 tyX9_ok nmX9 dX9_init_78 (by decide) rfl rfl rfl (by decide) uws_8 wt_324 (Or.inl rfl) (Or.inr ⟨rfl, rfl, rfl⟩) (by decide +kernel) rfl rfl ?_
  refine mw_aload_n dX9_init_81 0 rfl ?_
  refine mk_new (n' := 56) (c' := 55) (s' := 4595) rfl rfl rfl (N0 := 1) (ci := 1) tyX2 dX9_init_82 rfl rfl rfl uws_1 tyX2_ok (by decide +kernel) wt_871 wt_857 wt_272 (zc_uR (by decide) (z_X3_init_51 (by decide) (zc_uR (by decide) (z_X8_init_45 (by decide) (zc_uR (by decide) (z_X7_init_39 (by decide) (zc_uR (by decide) (z_X4_init_28 (by decide) (zc_uR (by decide) (z_X1_init_19 (by decide) (zc_uR (by decide) (z_X1_init_10 (by decide) (zc_uR (by decide) (z_X1_init_1 (by decide) (hz 55 (by decide)))))))))))))))) (by decide) (by decide) (by decide) rfl ?_
  refine mw_dup dX9_init_85 rfl ?_
  refine mk_callIN (n' := 57) (c' := 56) (s' := 4601) (As := []) lkJ_RX9_52_yX2_init dX9_init_86 (c_X2_init_55 l _ (fun k hk => (zc_uR (by omega) (z_X3_init_51 (by omega) (zc_uR (by omega) (z_X8_init_45 (by omega) (zc_uR (by omega) (z_X7_init_39 (by omega) (zc_uR (by omega) (z_X4_init_28 (by omega) (zc_uR (by omega) (z_X1_init_19 (by omega) (zc_uR (by omega) (z_X1_init_10 (by omega) (zc_uR (by omega) (z_X1_init_1 (by omega) (hz k (by omega)))))))))))))))))) rfl rfl (Nat.le_of_ble_eq_true rfl) ⟨by decide, by decide⟩ rfl rfl rfl rfl rfl (by decide) ⟨by decide, by decide⟩ ?_
  refine mw_putR (ty := (.object "RoundsPerHour$Joins")) (ci := 8) (j := 8) tyX9 tyX9_ok nmX9 dX9_init_89 (by decide) rfl rfl rfl (by decide) uws_8 wt_377 (Or.inl rfl) (Or.inr ⟨rfl, rfl, rfl⟩) (by decide +kernel) rfl rfl ?_
  refine mw_aload_n dX9_init_92 0 rfl ?_
  refine mk_new (n' := 58) (c' := 57) (s' := 4610) rfl rfl rfl (N0 := 9) (ci := 5) tyX6 dX9_init_93 rfl rfl rfl uws_5 tyX6_ok (by decide +kernel) wt_872 wt_873 wt_445 (zc_uR (by decide) (z_X2_init_55 (by decide) (zc_uR (by decide) (z_X3_init_51 (by decide) (zc_uR (by decide) (z_X8_init_45 (by decide) (zc_uR (by decide) (z_X7_init_39 (by decide) (zc_uR (by decide) (z_X4_init_28 (by decide) (zc_uR (by decide) (z_X1_init_19 (by decide) (zc_uR (by decide) (z_X1_init_10 (by decide) (zc_uR (by decide) (z_X1_init_1 (by decide) (hz 57 (by decide)))))))))))))))))) (by decide) (by decide) (by decide) rfl ?_
  refine mw_dup dX9_init_96 rfl ?_
  refine mk_callIN (n' := 59) (c' := 58) (s' := 4730) (As := []) lkJ_RX9_59_yX6_init dX9_init_97 (c_X6_init_57 l _ (fun k hk => (zc_uR (by omega) (z_X2_init_55 (by omega) (zc_uR (by omega) (z_X3_init_51 (by omega) (zc_uR (by omega) (z_X8_init_45 (by omega) (zc_uR (by omega) (z_X7_init_39 (by omega) (zc_uR (by omega) (z_X4_init_28 (by omega) (zc_uR (by omega) (z_X1_init_19 (by omega) (zc_uR (by omega) (z_X1_init_10 (by omega) (zc_uR (by omega) (z_X1_init_1 (by omega) (hz k (by omega)))))))))))))))))))) rfl rfl (Nat.le_of_ble_eq_true rfl) ⟨by decide, by decide⟩ rfl rfl rfl rfl rfl (by decide) ⟨by decide, by decide⟩ ?_
  refine mw_putR (ty := (.object "RoundsPerHour$Tape")) (ci := 8) (j := 9) tyX9 tyX9_ok nmX9 dX9_init_100 (by decide) rfl rfl rfl (by decide) uws_8 wt_439 (Or.inl rfl) (Or.inr ⟨rfl, rfl, rfl⟩) (by decide +kernel) rfl rfl ?_
  refine mw_aload_n dX9_init_103 0 rfl ?_
  refine mw_iconst (v := 4) dX9_init_104 (by decide) ?_
  refine mk_newq (n' := 60) (c' := 59) (s' := 4734) rfl rfl rfl (N0 := 4) (N := 4) dX9_init_105 wt_877 rfl (by decide) (by decide) (by decide) (zc_uR (by decide) (z_X6_init_57 (by decide) (zc_uR (by decide) (z_X2_init_55 (by decide) (zc_uR (by decide) (z_X3_init_51 (by decide) (zc_uR (by decide) (z_X8_init_45 (by decide) (zc_uR (by decide) (z_X7_init_39 (by decide) (zc_uR (by decide) (z_X4_init_28 (by decide) (zc_uR (by decide) (z_X1_init_19 (by decide) (zc_uR (by decide) (z_X1_init_10 (by decide) (zc_uR (by decide) (z_X1_init_1 (by decide) (hz 59 (by decide)))))))))))))))))))) (by decide) (by decide) (by decide) rfl ?_
  refine mw_putR (ty := (.array (.object "RoundsPerHour$Sheet"))) (ci := 8) (j := 10) tyX9 tyX9_ok nmX9 dX9_init_108 (by decide) rfl rfl rfl (by decide) uws_8 wt_420 (Or.inl rfl) (Or.inr ⟨rfl, rfl, rfl⟩) (by decide +kernel) rfl rfl ?_
  refine mw_aload_n dX9_init_111 0 rfl ?_
  refine mw_bipush (v := 9) dX9_init_112 (by decide) ?_
  refine mk_newaI (n' := 61) (c' := 60) (s' := 4743) rfl rfl rfl (N0 := 9) (N := 9) dX9_init_114 wt_840 rfl (by decide) (by decide) (by decide) (zc_uR (by decide) (zc_uR (by decide) (z_X6_init_57 (by decide) (zc_uR (by decide) (z_X2_init_55 (by decide) (zc_uR (by decide) (z_X3_init_51 (by decide) (zc_uR (by decide) (z_X8_init_45 (by decide) (zc_uR (by decide) (z_X7_init_39 (by decide) (zc_uR (by decide) (z_X4_init_28 (by decide) (zc_uR (by decide) (z_X1_init_19 (by decide) (zc_uR (by decide) (z_X1_init_10 (by decide) (zc_uR (by decide) (z_X1_init_1 (by decide) (hz 60 (by decide))))))))))))))))))))) (by decide) (by decide) (by decide) rfl ?_
  refine mw_putR (ty := (.array .int)) (ci := 8) (j := 11) tyX9 tyX9_ok nmX9 dX9_init_116 (by decide) rfl rfl rfl (by decide) uws_8 wt_9 (Or.inl rfl) (Or.inr ⟨rfl, rfl, rfl⟩) (by decide +kernel) rfl rfl ?_
  refine mw_iconst (v := 0) dX9_init_119 (by decide) ?_
  refine mw_istore_n (L' := [(1, .int (0 : Int32)), (0, .ref 0)]) dX9_init_120 rfl (by decide) rfl ?_
  refine mw_iload_n dX9_init_121 0 rfl ?_
  refine mw_iconst (v := 4) dX9_init_122 (by decide) ?_
  refine mw_icmp_ge (tgt := 145) dX9_init_123 (by decide) (fun hc => absurd hc (by decide)) (fun hc => ?_)
  refine mw_aload_n dX9_init_126 1 rfl ?_
  refine mw_get (v := .ref 59) (j := 10) (ci := 8) dX9_init_127 (by decide) rfl rfl rfl (by decide) uws_8 wt_420 (Or.inl rfl) (by simp [mfv, mft, tyX9, mmR_uI, mmR_uR, s_X1_init_1, s_X1_init_10, s_X1_init_19, s_X4_init_28, s_X7_init_39, s_X8_init_45, s_X3_init_51, s_X2_init_55, s_X6_init_57, va_rf]) ?_
  refine mw_iload_n dX9_init_130 0 rfl ?_
  refine mk_new (n' := 62) (c' := 61) (s' := 4746) rfl rfl rfl (N0 := 3) (ci := 4) tyX5 dX9_init_131 rfl rfl rfl uws_4 tyX5_ok (by decide +kernel) wt_878 wt_879 wt_426 (zc_uR (by decide) (zc_uR (by decide) (zc_uR (by decide) (z_X6_init_57 (by decide) (zc_uR (by decide) (z_X2_init_55 (by decide) (zc_uR (by decide) (z_X3_init_51 (by decide) (zc_uR (by decide) (z_X8_init_45 (by decide) (zc_uR (by decide) (z_X7_init_39 (by decide) (zc_uR (by decide) (z_X4_init_28 (by decide) (zc_uR (by decide) (z_X1_init_19 (by decide) (zc_uR (by decide) (z_X1_init_10 (by decide) (zc_uR (by decide) (z_X1_init_1 (by decide) (hz 61 (by decide)))))))))))))))))))))) (by decide) (by decide) (by decide) rfl ?_
  refine mw_dup dX9_init_134 rfl ?_
  refine mk_callIN (n' := 63) (c' := 62) (s' := 4786) (As := []) lkJ_RX9_74_yX5_init dX9_init_135 (c_X5_init_61 l _ (fun k hk => (zc_uR (by omega) (zc_uR (by omega) (zc_uR (by omega) (z_X6_init_57 (by omega) (zc_uR (by omega) (z_X2_init_55 (by omega) (zc_uR (by omega) (z_X3_init_51 (by omega) (zc_uR (by omega) (z_X8_init_45 (by omega) (zc_uR (by omega) (z_X7_init_39 (by omega) (zc_uR (by omega) (z_X4_init_28 (by omega) (zc_uR (by omega) (z_X1_init_19 (by omega) (zc_uR (by omega) (z_X1_init_10 (by omega) (zc_uR (by omega) (z_X1_init_1 (by omega) (hz k (by omega)))))))))))))))))))))))) rfl rfl (Nat.le_of_ble_eq_true rfl) ⟨by decide, by decide⟩ rfl rfl rfl rfl rfl (by decide) ⟨by decide, by decide⟩ ?_
  refine mw_aast (ci := 4) dX9_init_138 (by decide) rfl (by decide) rfl (mib1 rfl) ?_
  refine mw_iinc (v := (1 : Int32)) (L' := [(1, .int (1 : Int32)), (0, .ref 0)]) dX9_init_139 0 rfl (by decide) (by decide) rfl ?_
  refine mw_goto (tgt := 121) dX9_init_142 (by decide) ?_
  refine mw_iload_n dX9_init_121 0 rfl ?_
  refine mw_iconst (v := 4) dX9_init_122 (by decide) ?_
  refine mw_icmp_ge (tgt := 145) dX9_init_123 (by decide) (fun hc => absurd hc (by decide)) (fun hc => ?_)
  refine mw_aload_n dX9_init_126 1 rfl ?_
  refine mw_get (v := .ref 59) (j := 10) (ci := 8) dX9_init_127 (by decide) rfl rfl rfl (by decide) uws_8 wt_420 (Or.inl rfl) (by simp [mfv, mft, tyX9, mmR_uI, mmR_uR, s_X1_init_1, s_X1_init_10, s_X1_init_19, s_X4_init_28, s_X7_init_39, s_X8_init_45, s_X3_init_51, s_X2_init_55, s_X6_init_57, s_X5_init_61, va_rf]) ?_
  refine mw_iload_n dX9_init_130 0 rfl ?_
  refine mk_new (n' := 64) (c' := 63) (s' := 4789) rfl rfl rfl (N0 := 3) (ci := 4) tyX5 dX9_init_131 rfl rfl rfl uws_4 tyX5_ok (by decide +kernel) wt_878 wt_879 wt_426 (zc_uR (by decide) (z_X5_init_61 (by decide) (zc_uR (by decide) (zc_uR (by decide) (zc_uR (by decide) (z_X6_init_57 (by decide) (zc_uR (by decide) (z_X2_init_55 (by decide) (zc_uR (by decide) (z_X3_init_51 (by decide) (zc_uR (by decide) (z_X8_init_45 (by decide) (zc_uR (by decide) (z_X7_init_39 (by decide) (zc_uR (by decide) (z_X4_init_28 (by decide) (zc_uR (by decide) (z_X1_init_19 (by decide) (zc_uR (by decide) (z_X1_init_10 (by decide) (zc_uR (by decide) (z_X1_init_1 (by decide) (hz 63 (by decide)))))))))))))))))))))))) (by decide) (by decide) (by decide) rfl ?_
  refine mw_dup dX9_init_134 rfl ?_
  refine mk_callIN (n' := 65) (c' := 64) (s' := 4829) (As := []) lkJ_RX9_74_yX5_init dX9_init_135 (c_X5_init_63 l _ (fun k hk => (zc_uR (by omega) (z_X5_init_61 (by omega) (zc_uR (by omega) (zc_uR (by omega) (zc_uR (by omega) (z_X6_init_57 (by omega) (zc_uR (by omega) (z_X2_init_55 (by omega) (zc_uR (by omega) (z_X3_init_51 (by omega) (zc_uR (by omega) (z_X8_init_45 (by omega) (zc_uR (by omega) (z_X7_init_39 (by omega) (zc_uR (by omega) (z_X4_init_28 (by omega) (zc_uR (by omega) (z_X1_init_19 (by omega) (zc_uR (by omega) (z_X1_init_10 (by omega) (zc_uR (by omega) (z_X1_init_1 (by omega) (hz k (by omega)))))))))))))))))))))))))) rfl rfl (Nat.le_of_ble_eq_true rfl) ⟨by decide, by decide⟩ rfl rfl rfl rfl rfl (by decide) ⟨by decide, by decide⟩ ?_
  refine mw_aast (ci := 4) dX9_init_138 (by decide) rfl (by decide) rfl (mib1 rfl) ?_
  refine mw_iinc (v := (2 : Int32)) (L' := [(1, .int (2 : Int32)), (0, .ref 0)]) dX9_init_139 0 rfl (by decide) (by decide) rfl ?_
  refine mw_goto (tgt := 121) dX9_init_142 (by decide) ?_
  refine mw_iload_n dX9_init_121 0 rfl ?_
  refine mw_iconst (v := 4) dX9_init_122 (by decide) ?_
  refine mw_icmp_ge (tgt := 145) dX9_init_123 (by decide) (fun hc => absurd hc (by decide)) (fun hc => ?_)
  refine mw_aload_n dX9_init_126 1 rfl ?_
  refine mw_get (v := .ref 59) (j := 10) (ci := 8) dX9_init_127 (by decide) rfl rfl rfl (by decide) uws_8 wt_420 (Or.inl rfl) (by simp [mfv, mft, tyX9, mmR_uI, mmR_uR, s_X1_init_1, s_X1_init_10, s_X1_init_19, s_X4_init_28, s_X7_init_39, s_X8_init_45, s_X3_init_51, s_X2_init_55, s_X6_init_57, s_X5_init_61, s_X5_init_63, va_rf]) ?_
  refine mw_iload_n dX9_init_130 0 rfl ?_
  refine mk_new (n' := 66) (c' := 65) (s' := 4832) rfl rfl rfl (N0 := 3) (ci := 4) tyX5 dX9_init_131 rfl rfl rfl uws_4 tyX5_ok (by decide +kernel) wt_878 wt_879 wt_426 (zc_uR (by decide) (z_X5_init_63 (by decide) (zc_uR (by decide) (z_X5_init_61 (by decide) (zc_uR (by decide) (zc_uR (by decide) (zc_uR (by decide) (z_X6_init_57 (by decide) (zc_uR (by decide) (z_X2_init_55 (by decide) (zc_uR (by decide) (z_X3_init_51 (by decide) (zc_uR (by decide) (z_X8_init_45 (by decide) (zc_uR (by decide) (z_X7_init_39 (by decide) (zc_uR (by decide) (z_X4_init_28 (by decide) (zc_uR (by decide) (z_X1_init_19 (by decide) (zc_uR (by decide) (z_X1_init_10 (by decide) (zc_uR (by decide) (z_X1_init_1 (by decide) (hz 65 (by decide)))))))))))))))))))))))))) (by decide) (by decide) (by decide) rfl ?_
  refine mw_dup dX9_init_134 rfl ?_
  refine mk_callIN (n' := 67) (c' := 66) (s' := 4872) (As := []) lkJ_RX9_74_yX5_init dX9_init_135 (c_X5_init_65 l _ (fun k hk => (zc_uR (by omega) (z_X5_init_63 (by omega) (zc_uR (by omega) (z_X5_init_61 (by omega) (zc_uR (by omega) (zc_uR (by omega) (zc_uR (by omega) (z_X6_init_57 (by omega) (zc_uR (by omega) (z_X2_init_55 (by omega) (zc_uR (by omega) (z_X3_init_51 (by omega) (zc_uR (by omega) (z_X8_init_45 (by omega) (zc_uR (by omega) (z_X7_init_39 (by omega) (zc_uR (by omega) (z_X4_init_28 (by omega) (zc_uR (by omega) (z_X1_init_19 (by omega) (zc_uR (by omega) (z_X1_init_10 (by omega) (zc_uR (by omega) (z_X1_init_1 (by omega) (hz k (by omega)))))))))))))))))))))))))))) rfl rfl (Nat.le_of_ble_eq_true rfl) ⟨by decide, by decide⟩ rfl rfl rfl rfl rfl (by decide) ⟨by decide, by decide⟩ ?_
  refine mw_aast (ci := 4) dX9_init_138 (by decide) rfl (by decide) rfl (mib1 rfl) ?_
  refine mw_iinc (v := (3 : Int32)) (L' := [(1, .int (3 : Int32)), (0, .ref 0)]) dX9_init_139 0 rfl (by decide) (by decide) rfl ?_
  refine mw_goto (tgt := 121) dX9_init_142 (by decide) ?_
  refine mw_iload_n dX9_init_121 0 rfl ?_
  refine mw_iconst (v := 4) dX9_init_122 (by decide) ?_
  refine mw_icmp_ge (tgt := 145) dX9_init_123 (by decide) (fun hc => absurd hc (by decide)) (fun hc => ?_)
  refine mw_aload_n dX9_init_126 1 rfl ?_
  refine mw_get (v := .ref 59) (j := 10) (ci := 8) dX9_init_127 (by decide) rfl rfl rfl (by decide) uws_8 wt_420 (Or.inl rfl) (by simp [mfv, mft, tyX9, mmR_uI, mmR_uR, s_X1_init_1, s_X1_init_10, s_X1_init_19, s_X4_init_28, s_X7_init_39, s_X8_init_45, s_X3_init_51, s_X2_init_55, s_X6_init_57, s_X5_init_61, s_X5_init_63, s_X5_init_65, va_rf]) ?_
  refine mw_iload_n dX9_init_130 0 rfl ?_
  refine mk_new (n' := 68) (c' := 67) (s' := 4875) rfl rfl rfl (N0 := 3) (ci := 4) tyX5 dX9_init_131 rfl rfl rfl uws_4 tyX5_ok (by decide +kernel) wt_878 wt_879 wt_426 (zc_uR (by decide) (z_X5_init_65 (by decide) (zc_uR (by decide) (z_X5_init_63 (by decide) (zc_uR (by decide) (z_X5_init_61 (by decide) (zc_uR (by decide) (zc_uR (by decide) (zc_uR (by decide) (z_X6_init_57 (by decide) (zc_uR (by decide) (z_X2_init_55 (by decide) (zc_uR (by decide) (z_X3_init_51 (by decide) (zc_uR (by decide) (z_X8_init_45 (by decide) (zc_uR (by decide) (z_X7_init_39 (by decide) (zc_uR (by decide) (z_X4_init_28 (by decide) (zc_uR (by decide) (z_X1_init_19 (by decide) (zc_uR (by decide) (z_X1_init_10 (by decide) (zc_uR (by decide) (z_X1_init_1 (by decide) (hz 67 (by decide)))))))))))))))))))))))))))) (by decide) (by decide) (by decide) rfl ?_
  refine mw_dup dX9_init_134 rfl ?_
  refine mk_callIN (n' := 69) (c' := 68) (s' := 4915) (As := []) lkJ_RX9_74_yX5_init dX9_init_135 (c_X5_init_67 l _ (fun k hk => (zc_uR (by omega) (z_X5_init_65 (by omega) (zc_uR (by omega) (z_X5_init_63 (by omega) (zc_uR (by omega) (z_X5_init_61 (by omega) (zc_uR (by omega) (zc_uR (by omega) (zc_uR (by omega) (z_X6_init_57 (by omega) (zc_uR (by omega) (z_X2_init_55 (by omega) (zc_uR (by omega) (z_X3_init_51 (by omega) (zc_uR (by omega) (z_X8_init_45 (by omega) (zc_uR (by omega) (z_X7_init_39 (by omega) (zc_uR (by omega) (z_X4_init_28 (by omega) (zc_uR (by omega) (z_X1_init_19 (by omega) (zc_uR (by omega) (z_X1_init_10 (by omega) (zc_uR (by omega) (z_X1_init_1 (by omega) (hz k (by omega)))))))))))))))))))))))))))))) rfl rfl (Nat.le_of_ble_eq_true rfl) ⟨by decide, by decide⟩ rfl rfl rfl rfl rfl (by decide) ⟨by decide, by decide⟩ ?_
  refine mw_aast (ci := 4) dX9_init_138 (by decide) rfl (by decide) rfl (mib1 rfl) ?_
  refine mw_iinc (v := (4 : Int32)) (L' := [(1, .int (4 : Int32)), (0, .ref 0)]) dX9_init_139 0 rfl (by decide) (by decide) rfl ?_
  refine mw_goto (tgt := 121) dX9_init_142 (by decide) ?_
  refine mw_iload_n dX9_init_121 0 rfl ?_
  refine mw_iconst (v := 4) dX9_init_122 (by decide) ?_
  refine mw_icmp_ge (tgt := 145) dX9_init_123 (by decide) (fun hc => ?_) (fun hc => absurd (by decide) hc)
  exact mw_vret dX9_init_145 rfl rfl rfl rfl
theorem su_X9_init_0 {σ : MSt} (h : rsup σ.2.2) : rsup (s_X9_init_0 σ).2.2 := by
  unfold s_X9_init_0
  exact (su_R (by decide) (by decide) (su_X5_init_67 (su_R (by decide) (by decide) (su_X5_init_65 (su_R (by decide) (by decide) (su_X5_init_63 (su_R (by decide) (by decide) (su_X5_init_61 (su_R (by decide) (by decide) (su_R (by decide) (by decide) (su_R (by decide) (by decide) (su_X6_init_57 (su_R (by decide) (by decide) (su_X2_init_55 (su_R (by decide) (by decide) (su_X3_init_51 (su_R (by decide) (by decide) (su_X8_init_45 (su_R (by decide) (by decide) (su_X7_init_39 (su_R (by decide) (by decide) (su_X4_init_28 (su_R (by decide) (by decide) (su_X1_init_19 (su_R (by decide) (by decide) (su_X1_init_10 (su_R (by decide) (by decide) (su_X1_init_1 h))))))))))))))))))))))))))))

def s_X10_init_69 (σ : MSt) : MSt := (muI (muR (muR (muI (muI (muI (muI (muI (muI (muI (muI (muI (muI (muI (muI (muI (muI (muI (muI (muI (muI (muI (muI (muI (muI (muI (muI (muI (muI (muI (muI (muI (muI (muI (muI (muI (muI (muI (muI (muI (muI (muI (muI (muI (muI (muI (muI (muI (muI (muI (muI (muI (muI (muI (muI (muI (muI (muI (muI (muI (muI (muI (muI (muI (muI (muI (muI (muI (muI (muI (muI (muI (muI (muI (muI (muI (muI (muI (muI (muI (muI (muI (muI (muI (muI (muI (muI (muI (muI (muI (muI (muI (muI (muI (muI (muI (muI (muI (muI (muI (muI (muI (muI (muI (muI (muI (muI (muR (muR (muR (muR (muR (muR (muR (muR (muR (muI (muR σ 69 0 (some 70)) 69 1 (2 : Int32)) 69 4 (some 71)) 69 6 (some 72)) 69 7 (some 73)) 69 14 (some 74)) 69 20 (some 75)) 69 21 (some 76)) 69 22 (some 77)) 69 23 (some 78)) 69 24 (some 79)) 80 (0 : Int32).toNatClampNeg (vp_nar .char (119 : Int32))) 80 (1 : Int32).toNatClampNeg (vp_nar .char (97 : Int32))) 80 (2 : Int32).toNatClampNeg (vp_nar .char (121 : Int32))) 80 (3 : Int32).toNatClampNeg (vp_nar .char (32 : Int32))) 80 (4 : Int32).toNatClampNeg (vp_nar .char (32 : Int32))) 80 (5 : Int32).toNatClampNeg (vp_nar .char (32 : Int32))) 80 (6 : Int32).toNatClampNeg (vp_nar .char (32 : Int32))) 80 (7 : Int32).toNatClampNeg (vp_nar .char (32 : Int32))) 80 (8 : Int32).toNatClampNeg (vp_nar .char (116 : Int32))) 80 (9 : Int32).toNatClampNeg (vp_nar .char (111 : Int32))) 80 (10 : Int32).toNatClampNeg (vp_nar .char (108 : Int32))) 80 (11 : Int32).toNatClampNeg (vp_nar .char (108 : Int32))) 80 (12 : Int32).toNatClampNeg (vp_nar .char (32 : Int32))) 80 (13 : Int32).toNatClampNeg (vp_nar .char (32 : Int32))) 80 (14 : Int32).toNatClampNeg (vp_nar .char (32 : Int32))) 80 (15 : Int32).toNatClampNeg (vp_nar .char (32 : Int32))) 80 (16 : Int32).toNatClampNeg (vp_nar .char (102 : Int32))) 80 (17 : Int32).toNatClampNeg (vp_nar .char (111 : Int32))) 80 (18 : Int32).toNatClampNeg (vp_nar .char (114 : Int32))) 80 (19 : Int32).toNatClampNeg (vp_nar .char (100 : Int32))) 80 (20 : Int32).toNatClampNeg (vp_nar .char (32 : Int32))) 80 (21 : Int32).toNatClampNeg (vp_nar .char (32 : Int32))) 80 (22 : Int32).toNatClampNeg (vp_nar .char (32 : Int32))) 80 (23 : Int32).toNatClampNeg (vp_nar .char (32 : Int32))) 80 (24 : Int32).toNatClampNeg (vp_nar .char (98 : Int32))) 80 (25 : Int32).toNatClampNeg (vp_nar .char (114 : Int32))) 80 (26 : Int32).toNatClampNeg (vp_nar .char (105 : Int32))) 80 (27 : Int32).toNatClampNeg (vp_nar .char (100 : Int32))) 80 (28 : Int32).toNatClampNeg (vp_nar .char (103 : Int32))) 80 (29 : Int32).toNatClampNeg (vp_nar .char (101 : Int32))) 80 (30 : Int32).toNatClampNeg (vp_nar .char (32 : Int32))) 80 (31 : Int32).toNatClampNeg (vp_nar .char (32 : Int32))) 80 (32 : Int32).toNatClampNeg (vp_nar .char (109 : Int32))) 80 (33 : Int32).toNatClampNeg (vp_nar .char (105 : Int32))) 80 (34 : Int32).toNatClampNeg (vp_nar .char (114 : Int32))) 80 (35 : Int32).toNatClampNeg (vp_nar .char (101 : Int32))) 80 (36 : Int32).toNatClampNeg (vp_nar .char (32 : Int32))) 80 (37 : Int32).toNatClampNeg (vp_nar .char (32 : Int32))) 80 (38 : Int32).toNatClampNeg (vp_nar .char (32 : Int32))) 80 (39 : Int32).toNatClampNeg (vp_nar .char (32 : Int32))) 80 (40 : Int32).toNatClampNeg (vp_nar .char (115 : Int32))) 80 (41 : Int32).toNatClampNeg (vp_nar .char (116 : Int32))) 80 (42 : Int32).toNatClampNeg (vp_nar .char (97 : Int32))) 80 (43 : Int32).toNatClampNeg (vp_nar .char (105 : Int32))) 80 (44 : Int32).toNatClampNeg (vp_nar .char (114 : Int32))) 80 (45 : Int32).toNatClampNeg (vp_nar .char (32 : Int32))) 80 (46 : Int32).toNatClampNeg (vp_nar .char (32 : Int32))) 80 (47 : Int32).toNatClampNeg (vp_nar .char (32 : Int32))) 80 (48 : Int32).toNatClampNeg (vp_nar .char (116 : Int32))) 80 (49 : Int32).toNatClampNeg (vp_nar .char (104 : Int32))) 80 (50 : Int32).toNatClampNeg (vp_nar .char (105 : Int32))) 80 (51 : Int32).toNatClampNeg (vp_nar .char (110 : Int32))) 80 (52 : Int32).toNatClampNeg (vp_nar .char (103 : Int32))) 80 (53 : Int32).toNatClampNeg (vp_nar .char (32 : Int32))) 80 (54 : Int32).toNatClampNeg (vp_nar .char (32 : Int32))) 80 (55 : Int32).toNatClampNeg (vp_nar .char (32 : Int32))) 80 (56 : Int32).toNatClampNeg (vp_nar .char (112 : Int32))) 80 (57 : Int32).toNatClampNeg (vp_nar .char (108 : Int32))) 80 (58 : Int32).toNatClampNeg (vp_nar .char (97 : Int32))) 80 (59 : Int32).toNatClampNeg (vp_nar .char (99 : Int32))) 80 (60 : Int32).toNatClampNeg (vp_nar .char (101 : Int32))) 80 (61 : Int32).toNatClampNeg (vp_nar .char (115 : Int32))) 80 (62 : Int32).toNatClampNeg (vp_nar .char (32 : Int32))) 80 (63 : Int32).toNatClampNeg (vp_nar .char (32 : Int32))) 80 (64 : Int32).toNatClampNeg (vp_nar .char (119 : Int32))) 80 (65 : Int32).toNatClampNeg (vp_nar .char (101 : Int32))) 80 (66 : Int32).toNatClampNeg (vp_nar .char (97 : Int32))) 80 (67 : Int32).toNatClampNeg (vp_nar .char (116 : Int32))) 80 (68 : Int32).toNatClampNeg (vp_nar .char (104 : Int32))) 80 (69 : Int32).toNatClampNeg (vp_nar .char (101 : Int32))) 80 (70 : Int32).toNatClampNeg (vp_nar .char (114 : Int32))) 80 (71 : Int32).toNatClampNeg (vp_nar .char (32 : Int32))) 80 (72 : Int32).toNatClampNeg (vp_nar .char (103 : Int32))) 80 (73 : Int32).toNatClampNeg (vp_nar .char (97 : Int32))) 80 (74 : Int32).toNatClampNeg (vp_nar .char (105 : Int32))) 80 (75 : Int32).toNatClampNeg (vp_nar .char (110 : Int32))) 80 (76 : Int32).toNatClampNeg (vp_nar .char (32 : Int32))) 80 (77 : Int32).toNatClampNeg (vp_nar .char (32 : Int32))) 80 (78 : Int32).toNatClampNeg (vp_nar .char (32 : Int32))) 80 (79 : Int32).toNatClampNeg (vp_nar .char (32 : Int32))) 80 (80 : Int32).toNatClampNeg (vp_nar .char (108 : Int32))) 80 (81 : Int32).toNatClampNeg (vp_nar .char (111 : Int32))) 80 (82 : Int32).toNatClampNeg (vp_nar .char (115 : Int32))) 80 (83 : Int32).toNatClampNeg (vp_nar .char (115 : Int32))) 80 (84 : Int32).toNatClampNeg (vp_nar .char (32 : Int32))) 80 (85 : Int32).toNatClampNeg (vp_nar .char (32 : Int32))) 80 (86 : Int32).toNatClampNeg (vp_nar .char (32 : Int32))) 80 (87 : Int32).toNatClampNeg (vp_nar .char (32 : Int32))) 80 (88 : Int32).toNatClampNeg (vp_nar .char (116 : Int32))) 80 (89 : Int32).toNatClampNeg (vp_nar .char (105 : Int32))) 80 (90 : Int32).toNatClampNeg (vp_nar .char (109 : Int32))) 80 (91 : Int32).toNatClampNeg (vp_nar .char (101 : Int32))) 80 (92 : Int32).toNatClampNeg (vp_nar .char (32 : Int32))) 80 (93 : Int32).toNatClampNeg (vp_nar .char (32 : Int32))) 80 (94 : Int32).toNatClampNeg (vp_nar .char (32 : Int32))) 80 (95 : Int32).toNatClampNeg (vp_nar .char (32 : Int32))) 80 (96 : Int32).toNatClampNeg (vp_nar .char (115 : Int32))) 80 (97 : Int32).toNatClampNeg (vp_nar .char (104 : Int32))) 80 (98 : Int32).toNatClampNeg (vp_nar .char (117 : Int32))) 80 (99 : Int32).toNatClampNeg (vp_nar .char (116 : Int32))) 80 (100 : Int32).toNatClampNeg (vp_nar .char (32 : Int32))) 80 (101 : Int32).toNatClampNeg (vp_nar .char (32 : Int32))) 80 (102 : Int32).toNatClampNeg (vp_nar .char (32 : Int32))) 80 (103 : Int32).toNatClampNeg (vp_nar .char (32 : Int32))) 69 31 (some 80)) 69 34 (some 81)) 73 (1 : Int32).toNatClampNeg (1 : Int32))
theorem z_X10_init_69 {σ : MSt} {k : Nat} (hk : 82 ≤ k) (z : zc σ k) : zc (s_X10_init_69 σ) k := by
  unfold s_X10_init_69
  exact (zc_uI (by omega) (zc_uR (by omega) (zc_uR (by omega) (zc_uI (by omega) (zc_uI (by omega) (zc_uI (by omega) (zc_uI (by omega) (zc_uI (by omega) (zc_uI (by omega) (zc_uI (by omega) (zc_uI (by omega) (zc_uI (by omega) (zc_uI (by omega) (zc_uI (by omega) (zc_uI (by omega) (zc_uI (by omega) (zc_uI (by omega) (zc_uI (by omega) (zc_uI (by omega) (zc_uI (by omega) (zc_uI (by omega) (zc_uI (by omega) (zc_uI (by omega) (zc_uI (by omega) (zc_uI (by omega) (zc_uI (by omega) (zc_uI (by omega) (zc_uI (by omega) (zc_uI (by omega) (zc_uI (by omega) (zc_uI (by omega) (zc_uI (by omega) (zc_uI (by omega) (zc_uI (by omega) (zc_uI (by omega) (zc_uI (by omega) (zc_uI (by omega) (zc_uI (by omega) (zc_uI (by omega) (zc_uI (by omega) (zc_uI (by omega) (zc_uI (by omega) (zc_uI (by omega) (zc_uI (by omega) (zc_uI (by omega) (zc_uI (by omega) (zc_uI (by omega) (zc_uI (by omega) (zc_uI (by omega) (zc_uI (by omega) (zc_uI (by omega) (zc_uI (by omega) (zc_uI (by omega) (zc_uI (by omega) (zc_uI (by omega) (zc_uI (by omega) (zc_uI (by omega) (zc_uI (by omega) (zc_uI (by omega) (zc_uI (by omega) (zc_uI (by omega) (zc_uI (by omega) (zc_uI (by omega) (zc_uI (by omega) (zc_uI (by omega) (zc_uI (by omega) (zc_uI (by omega) (zc_uI (by omega) (zc_uI (by omega) (zc_uI (by omega) (zc_uI (by omega) (zc_uI (by omega) (zc_uI (by omega) (zc_uI (by omega) (zc_uI (by omega) (zc_uI (by omega) (zc_uI (by omega) (zc_uI (by omega) (zc_uI (by omega) (zc_uI (by omega) (zc_uI (by omega) (zc_uI (by omega) (zc_uI (by omega) (zc_uI (by omega) (zc_uI (by omega) (zc_uI (by omega) (zc_uI (by omega) (zc_uI (by omega) (zc_uI (by omega) (zc_uI (by omega) (zc_uI (by omega) (zc_uI (by omega) (zc_uI (by omega) (zc_uI (by omega) (zc_uI (by omega) (zc_uI (by omega) (zc_uI (by omega) (zc_uI (by omega) (zc_uI (by omega) (zc_uI (by omega) (zc_uI (by omega) (zc_uI (by omega) (zc_uI (by omega) (zc_uI (by omega) (zc_uI (by omega) (zc_uI (by omega) (zc_uI (by omega) (zc_uR (by omega) (zc_uR (by omega) (zc_uR (by omega) (zc_uR (by omega) (zc_uR (by omega) (zc_uR (by omega) (zc_uR (by omega) (zc_uR (by omega) (zc_uR (by omega) (zc_uI (by omega) (zc_uR (by omega) z))))))))))))))))))))))))))))))))))))))))))))))))))))))))))))))))))))))))))))))))))))))))))))))))))))))))))))))))))))))
set_option maxRecDepth 100000 in
set_option maxHeartbeats 4000000 in
theorem c_X10_init_69 (l : Launch) (σ : MSt) (hz : ∀ k, 70 ≤ k → zc σ k) : MCt l yX10_init cX10_init 1 none (mkr 1 12 671) [.ref 69] 70 σ 12 671 (82, none, s_X10_init_69 σ) := by
  refine mw_entry (own := RX10) (ini := true) (L := [(0, .ref 69)]) (by decide +kernel) rfl (fun _ => rfl) rfl (Nat.le_of_ble_eq_true rfl) (by decide) (fun E => ?_)
  refine mw_aload_n dX10_init_0 0 rfl ?_
  refine mw_objInit dX10_init_1 wt_883 wt_835 wt_836 (by decide) (by decide) ?_
  refine mw_aload_n dX10_init_4 0 rfl ?_
  refine mw_bipush (v := 9) dX10_init_5 (by decide) ?_
  refine mk_newaI (n' := 71) (c' := 1) (s' := 9) rfl rfl rfl (N0 := 9) (N := 9) dX10_init_7 wt_840 rfl (by decide) (by decide) (by decide) (hz 70 (by decide)) (by decide) (by decide) (by decide) rfl ?_
  refine mw_putR (ty := (.array .int)) (ci := 9) (j := 0) tyX10 tyX10_ok nmX10 dX10_init_9 (by decide) rfl rfl rfl (by decide) uws_9 wt_587 (Or.inl rfl) (Or.inr ⟨rfl, rfl, rfl⟩) (by decide +kernel) rfl rfl ?_
  refine mw_aload_n dX10_init_12 0 rfl ?_
  refine mw_iconst (v := 2) dX10_init_13 (by decide) ?_
  refine mw_putI (ci := 9) (j := 1) tyX10 tyX10_ok nmX10 dX10_init_14 (by decide) rfl rfl rfl (by decide) uws_9 wt_576 (Or.inl rfl) (Or.inl rfl) (by decide +kernel) (Or.inl rfl) ?_
  refine mw_aload_n dX10_init_17 0 rfl ?_
  refine mw_bipush (v := 84) dX10_init_18 (by decide) ?_
  refine mk_newaI (n' := 72) (c' := 2) (s' := 93) rfl rfl rfl (N0 := 84) (N := 84) dX10_init_20 wt_840 rfl (by decide) (by decide) (by decide) (zc_uI (by decide) (zc_uR (by decide) (hz 71 (by decide)))) (by decide) (by decide) (by decide) rfl ?_
  refine mw_putR (ty := (.array .int)) (ci := 9) (j := 4) tyX10 tyX10_ok nmX10 dX10_init_22 (by decide) rfl rfl rfl (by decide) uws_9 wt_582 (Or.inl rfl) (Or.inr ⟨rfl, rfl, rfl⟩) (by decide +kernel) rfl rfl ?_
  refine mw_aload_n dX10_init_25 0 rfl ?_
  refine mw_bipush (v := 24) dX10_init_26 (by decide) ?_
  refine mk_newaI (n' := 73) (c' := 3) (s' := 117) rfl rfl rfl (N0 := 24) (N := 24) dX10_init_28 wt_840 rfl (by decide) (by decide) (by decide) (zc_uR (by decide) (zc_uI (by decide) (zc_uR (by decide) (hz 72 (by decide))))) (by decide) (by decide) (by decide) rfl ?_
  refine mw_putR (ty := (.array .int)) (ci := 9) (j := 6) tyX10 tyX10_ok nmX10 dX10_init_30 (by decide) rfl rfl rfl (by decide) uws_9 wt_631 (Or.inl rfl) (Or.inr ⟨rfl, rfl, rfl⟩) (by decide +kernel) rfl rfl ?_
  refine mw_aload_n dX10_init_33 0 rfl ?_
  refine mw_iconst (v := 2) dX10_init_34 (by decide) ?_
  refine mk_newaI (n' := 74) (c' := 4) (s' := 119) rfl rfl rfl (N0 := 2) (N := 2) dX10_init_35 wt_840 rfl (by decide) (by decide) (by decide) (zc_uR (by decide) (zc_uR (by decide) (zc_uI (by decide) (zc_uR (by decide) (hz 73 (by decide)))))) (by decide) (by decide) (by decide) rfl ?_
  refine mw_putR (ty := (.array .int)) (ci := 9) (j := 7) tyX10 tyX10_ok nmX10 dX10_init_37 (by decide) rfl rfl rfl (by decide) uws_9 wt_632 (Or.inl rfl) (Or.inr ⟨rfl, rfl, rfl⟩) (by decide +kernel) rfl rfl ?_
  refine mw_aload_n dX10_init_40 0 rfl ?_
  refine mw_bipush (v := 6) dX10_init_41 (by decide) ?_
  refine mk_newaL (n' := 75) (c' := 5) (s' := 125) rfl rfl rfl (N0 := 6) (N := 6) dX10_init_43 wt_847 rfl (by decide) (by decide) (by decide) (zc_uR (by decide) (zc_uR (by decide) (zc_uR (by decide) (zc_uI (by decide) (zc_uR (by decide) (hz 74 (by decide))))))) (by decide) (by decide) (by decide) rfl ?_
  refine mw_putR (ty := (.array .long)) (ci := 9) (j := 14) tyX10 tyX10_ok nmX10 dX10_init_45 (by decide) rfl rfl rfl (by decide) uws_9 wt_675 (Or.inl rfl) (Or.inr ⟨rfl, rfl, rfl⟩) (by decide +kernel) rfl rfl ?_
  refine mw_aload_n dX10_init_48 0 rfl ?_
  refine mw_iconst (v := 4) dX10_init_49 (by decide) ?_
  refine mk_newaI (n' := 76) (c' := 6) (s' := 129) rfl rfl rfl (N0 := 4) (N := 4) dX10_init_50 wt_840 rfl (by decide) (by decide) (by decide) (zc_uR (by decide) (zc_uR (by decide) (zc_uR (by decide) (zc_uR (by decide) (zc_uI (by decide) (zc_uR (by decide) (hz 75 (by decide)))))))) (by decide) (by decide) (by decide) rfl ?_
  refine mw_putR (ty := (.array .int)) (ci := 9) (j := 20) tyX10 tyX10_ok nmX10 dX10_init_52 (by decide) rfl rfl rfl (by decide) uws_9 wt_765 (Or.inl rfl) (Or.inr ⟨rfl, rfl, rfl⟩) (by decide +kernel) rfl rfl ?_
  refine mw_aload_n dX10_init_55 0 rfl ?_
  refine mw_iconst (v := 4) dX10_init_56 (by decide) ?_
  refine mk_newaI (n' := 77) (c' := 7) (s' := 133) rfl rfl rfl (N0 := 4) (N := 4) dX10_init_57 wt_840 rfl (by decide) (by decide) (by decide) (zc_uR (by decide) (zc_uR (by decide) (zc_uR (by decide) (zc_uR (by decide) (zc_uR (by decide) (zc_uI (by decide) (zc_uR (by decide) (hz 76 (by decide))))))))) (by decide) (by decide) (by decide) rfl ?_
  refine mw_putR (ty := (.array .int)) (ci := 9) (j := 21) tyX10 tyX10_ok nmX10 dX10_init_59 (by decide) rfl rfl rfl (by decide) uws_9 wt_766 (Or.inl rfl) (Or.inr ⟨rfl, rfl, rfl⟩) (by decide +kernel) rfl rfl ?_
  refine mw_aload_n dX10_init_62 0 rfl ?_
  refine mw_sipush (v := 160) dX10_init_63 (by decide) ?_
  refine mk_newaL (n' := 78) (c' := 8) (s' := 293) rfl rfl rfl (N0 := 160) (N := 160) dX10_init_66 wt_847 rfl (by decide) (by decide) (by decide) (zc_uR (by decide) (zc_uR (by decide) (zc_uR (by decide) (zc_uR (by decide) (zc_uR (by decide) (zc_uR (by decide) (zc_uI (by decide) (zc_uR (by decide) (hz 77 (by decide)))))))))) (by decide) (by decide) (by decide) rfl ?_
  refine mw_putR (ty := (.array .long)) (ci := 9) (j := 22) tyX10 tyX10_ok nmX10 dX10_init_68 (by decide) rfl rfl rfl (by decide) uws_9 wt_757 (Or.inl rfl) (Or.inr ⟨rfl, rfl, rfl⟩) (by decide +kernel) rfl rfl ?_
  refine mw_aload_n dX10_init_71 0 rfl ?_
  refine mw_bipush (v := 40) dX10_init_72 (by decide) ?_
  refine mk_newaL (n' := 79) (c' := 9) (s' := 333) rfl rfl rfl (N0 := 40) (N := 40) dX10_init_74 wt_847 rfl (by decide) (by decide) (by decide) (zc_uR (by decide) (zc_uR (by decide) (zc_uR (by decide) (zc_uR (by decide) (zc_uR (by decide) (zc_uR (by decide) (zc_uR (by decide) (zc_uI (by decide) (zc_uR (by decide) (hz 78 (by decide))))))))))) (by decide) (by decide) (by decide) rfl ?_
  refine mw_putR (ty := (.array .long)) (ci := 9) (j := 23) tyX10 tyX10_ok nmX10 dX10_init_76 (by decide) rfl rfl rfl (by decide) uws_9 wt_830 (Or.inl rfl) (Or.inr ⟨rfl, rfl, rfl⟩) (by decide +kernel) rfl rfl ?_
  refine mw_aload_n dX10_init_79 0 rfl ?_
  refine mw_bipush (v := 120) dX10_init_80 (by decide) ?_
  refine mk_newaI (n' := 80) (c' := 10) (s' := 453) rfl rfl rfl (N0 := 120) (N := 120) dX10_init_82 wt_840 rfl (by decide) (by decide) (by decide) (zc_uR (by decide) (zc_uR (by decide) (zc_uR (by decide) (zc_uR (by decide) (zc_uR (by decide) (zc_uR (by decide) (zc_uR (by decide) (zc_uR (by decide) (zc_uI (by decide) (zc_uR (by decide) (hz 79 (by decide)))))))))))) (by decide) (by decide) (by decide) rfl ?_
  refine mw_putR (ty := (.array .int)) (ci := 9) (j := 24) tyX10 tyX10_ok nmX10 dX10_init_84 (by decide) rfl rfl rfl (by decide) uws_9 wt_775 (Or.inl rfl) (Or.inr ⟨rfl, rfl, rfl⟩) (by decide +kernel) rfl rfl ?_
  refine mw_aload_n dX10_init_87 0 rfl ?_
  refine mw_bipush (v := 104) dX10_init_88 (by decide) ?_
  refine mk_newaC (n' := 81) (c' := 11) (s' := 557) rfl rfl rfl (N0 := 104) (N := 104) dX10_init_90 wt_884 rfl (by decide) (by decide) (by decide) (zc_uR (by decide) (zc_uR (by decide) (zc_uR (by decide) (zc_uR (by decide) (zc_uR (by decide) (zc_uR (by decide) (zc_uR (by decide) (zc_uR (by decide) (zc_uR (by decide) (zc_uI (by decide) (zc_uR (by decide) (hz 80 (by decide))))))))))))) (by decide) (by decide) (by decide) rfl ?_
  refine mw_dup dX10_init_92 rfl ?_
  refine mw_iconst (v := 0) dX10_init_93 (by decide) ?_
  refine mw_bipush (v := 119) dX10_init_94 (by decide) ?_
  refine mw_cast dX10_init_96 (by decide) rfl (mib1 rfl) ?_
  refine mw_dup dX10_init_97 rfl ?_
  refine mw_iconst (v := 1) dX10_init_98 (by decide) ?_
  refine mw_bipush (v := 97) dX10_init_99 (by decide) ?_
  refine mw_cast dX10_init_101 (by decide) rfl (mib1 rfl) ?_
  refine mw_dup dX10_init_102 rfl ?_
  refine mw_iconst (v := 2) dX10_init_103 (by decide) ?_
  refine mw_bipush (v := 121) dX10_init_104 (by decide) ?_
  refine mw_cast dX10_init_106 (by decide) rfl (mib1 rfl) ?_
  refine mw_dup dX10_init_107 rfl ?_
  refine mw_iconst (v := 3) dX10_init_108 (by decide) ?_
  refine mw_bipush (v := 32) dX10_init_109 (by decide) ?_
  refine mw_cast dX10_init_111 (by decide) rfl (mib1 rfl) ?_
  refine mw_dup dX10_init_112 rfl ?_
  refine mw_iconst (v := 4) dX10_init_113 (by decide) ?_
  refine mw_bipush (v := 32) dX10_init_114 (by decide) ?_
  refine mw_cast dX10_init_116 (by decide) rfl (mib1 rfl) ?_
  refine mw_dup dX10_init_117 rfl ?_
  refine mw_iconst (v := 5) dX10_init_118 (by decide) ?_
  refine mw_bipush (v := 32) dX10_init_119 (by decide) ?_
  refine mw_cast dX10_init_121 (by decide) rfl (mib1 rfl) ?_
  refine mw_dup dX10_init_122 rfl ?_
  refine mw_bipush (v := 6) dX10_init_123 (by decide) ?_
  refine mw_bipush (v := 32) dX10_init_125 (by decide) ?_
  refine mw_cast dX10_init_127 (by decide) rfl (mib1 rfl) ?_
  refine mw_dup dX10_init_128 rfl ?_
  refine mw_bipush (v := 7) dX10_init_129 (by decide) ?_
  refine mw_bipush (v := 32) dX10_init_131 (by decide) ?_
  refine mw_cast dX10_init_133 (by decide) rfl (mib1 rfl) ?_
  refine mw_dup dX10_init_134 rfl ?_
  refine mw_bipush (v := 8) dX10_init_135 (by decide) ?_
  refine mw_bipush (v := 116) dX10_init_137 (by decide) ?_
  refine mw_cast dX10_init_139 (by decide) rfl (mib1 rfl) ?_
  refine mw_dup dX10_init_140 rfl ?_
  refine mw_bipush (v := 9) dX10_init_141 (by decide) ?_
  refine mw_bipush (v := 111) dX10_init_143 (by decide) ?_
  refine mw_cast dX10_init_145 (by decide) rfl (mib1 rfl) ?_
  refine mw_dup dX10_init_146 rfl ?_
  refine mw_bipush (v := 10) dX10_init_147 (by decide) ?_
  refine mw_bipush (v := 108) dX10_init_149 (by decide) ?_
  refine mw_cast dX10_init_151 (by decide) rfl (mib1 rfl) ?_
  refine mw_dup dX10_init_152 rfl ?_
  refine mw_bipush (v := 11) dX10_init_153 (by decide) ?_
  refine mw_bipush (v := 108) dX10_init_155 (by decide) ?_
  refine mw_cast dX10_init_157 (by decide) rfl (mib1 rfl) ?_
  refine mw_dup dX10_init_158 rfl ?_
  refine mw_bipush (v := 12) dX10_init_159 (by decide) ?_
  refine mw_bipush (v := 32) dX10_init_161 (by decide) ?_
  refine mw_cast dX10_init_163 (by decide) rfl (mib1 rfl) ?_
  refine mw_dup dX10_init_164 rfl ?_
  refine mw_bipush (v := 13) dX10_init_165 (by decide) ?_
  refine mw_bipush (v := 32) dX10_init_167 (by decide) ?_
  refine mw_cast dX10_init_169 (by decide) rfl (mib1 rfl) ?_
  refine mw_dup dX10_init_170 rfl ?_
  refine mw_bipush (v := 14) dX10_init_171 (by decide) ?_
  refine mw_bipush (v := 32) dX10_init_173 (by decide) ?_
  refine mw_cast dX10_init_175 (by decide) rfl (mib1 rfl) ?_
  refine mw_dup dX10_init_176 rfl ?_
  refine mw_bipush (v := 15) dX10_init_177 (by decide) ?_
  refine mw_bipush (v := 32) dX10_init_179 (by decide) ?_
  refine mw_cast dX10_init_181 (by decide) rfl (mib1 rfl) ?_
  refine mw_dup dX10_init_182 rfl ?_
  refine mw_bipush (v := 16) dX10_init_183 (by decide) ?_
  refine mw_bipush (v := 102) dX10_init_185 (by decide) ?_
  refine mw_cast dX10_init_187 (by decide) rfl (mib1 rfl) ?_
  refine mw_dup dX10_init_188 rfl ?_
  refine mw_bipush (v := 17) dX10_init_189 (by decide) ?_
  refine mw_bipush (v := 111) dX10_init_191 (by decide) ?_
  refine mw_cast dX10_init_193 (by decide) rfl (mib1 rfl) ?_
  refine mw_dup dX10_init_194 rfl ?_
  refine mw_bipush (v := 18) dX10_init_195 (by decide) ?_
  refine mw_bipush (v := 114) dX10_init_197 (by decide) ?_
  refine mw_cast dX10_init_199 (by decide) rfl (mib1 rfl) ?_
  refine mw_dup dX10_init_200 rfl ?_
  refine mw_bipush (v := 19) dX10_init_201 (by decide) ?_
  refine mw_bipush (v := 100) dX10_init_203 (by decide) ?_
  refine mw_cast dX10_init_205 (by decide) rfl (mib1 rfl) ?_
  refine mw_dup dX10_init_206 rfl ?_
  refine mw_bipush (v := 20) dX10_init_207 (by decide) ?_
  refine mw_bipush (v := 32) dX10_init_209 (by decide) ?_
  refine mw_cast dX10_init_211 (by decide) rfl (mib1 rfl) ?_
  refine mw_dup dX10_init_212 rfl ?_
  refine mw_bipush (v := 21) dX10_init_213 (by decide) ?_
  refine mw_bipush (v := 32) dX10_init_215 (by decide) ?_
  refine mw_cast dX10_init_217 (by decide) rfl (mib1 rfl) ?_
  refine mw_dup dX10_init_218 rfl ?_
  refine mw_bipush (v := 22) dX10_init_219 (by decide) ?_
  refine mw_bipush (v := 32) dX10_init_221 (by decide) ?_
  refine mw_cast dX10_init_223 (by decide) rfl (mib1 rfl) ?_
  refine mw_dup dX10_init_224 rfl ?_
  refine mw_bipush (v := 23) dX10_init_225 (by decide) ?_
  refine mw_bipush (v := 32) dX10_init_227 (by decide) ?_
  refine mw_cast dX10_init_229 (by decide) rfl (mib1 rfl) ?_
  refine mw_dup dX10_init_230 rfl ?_
  refine mw_bipush (v := 24) dX10_init_231 (by decide) ?_
  refine mw_bipush (v := 98) dX10_init_233 (by decide) ?_
  refine mw_cast dX10_init_235 (by decide) rfl (mib1 rfl) ?_
  refine mw_dup dX10_init_236 rfl ?_
  refine mw_bipush (v := 25) dX10_init_237 (by decide) ?_
  refine mw_bipush (v := 114) dX10_init_239 (by decide) ?_
  refine mw_cast dX10_init_241 (by decide) rfl (mib1 rfl) ?_
  refine mw_dup dX10_init_242 rfl ?_
  refine mw_bipush (v := 26) dX10_init_243 (by decide) ?_
  refine mw_bipush (v := 105) dX10_init_245 (by decide) ?_
  refine mw_cast dX10_init_247 (by decide) rfl (mib1 rfl) ?_
  refine mw_dup dX10_init_248 rfl ?_
  refine mw_bipush (v := 27) dX10_init_249 (by decide) ?_
  refine mw_bipush (v := 100) dX10_init_251 (by decide) ?_
  refine mw_cast dX10_init_253 (by decide) rfl (mib1 rfl) ?_
  refine mw_dup dX10_init_254 rfl ?_
  refine mw_bipush (v := 28) dX10_init_255 (by decide) ?_
  refine mw_bipush (v := 103) dX10_init_257 (by decide) ?_
  refine mw_cast dX10_init_259 (by decide) rfl (mib1 rfl) ?_
  refine mw_dup dX10_init_260 rfl ?_
  refine mw_bipush (v := 29) dX10_init_261 (by decide) ?_
  refine mw_bipush (v := 101) dX10_init_263 (by decide) ?_
  refine mw_cast dX10_init_265 (by decide) rfl (mib1 rfl) ?_
  refine mw_dup dX10_init_266 rfl ?_
  refine mw_bipush (v := 30) dX10_init_267 (by decide) ?_
  refine mw_bipush (v := 32) dX10_init_269 (by decide) ?_
  refine mw_cast dX10_init_271 (by decide) rfl (mib1 rfl) ?_
  refine mw_dup dX10_init_272 rfl ?_
  refine mw_bipush (v := 31) dX10_init_273 (by decide) ?_
  refine mw_bipush (v := 32) dX10_init_275 (by decide) ?_
  refine mw_cast dX10_init_277 (by decide) rfl (mib1 rfl) ?_
  refine mw_dup dX10_init_278 rfl ?_
  refine mw_bipush (v := 32) dX10_init_279 (by decide) ?_
  refine mw_bipush (v := 109) dX10_init_281 (by decide) ?_
  refine mw_cast dX10_init_283 (by decide) rfl (mib1 rfl) ?_
  refine mw_dup dX10_init_284 rfl ?_
  refine mw_bipush (v := 33) dX10_init_285 (by decide) ?_
  refine mw_bipush (v := 105) dX10_init_287 (by decide) ?_
  refine mw_cast dX10_init_289 (by decide) rfl (mib1 rfl) ?_
  refine mw_dup dX10_init_290 rfl ?_
  refine mw_bipush (v := 34) dX10_init_291 (by decide) ?_
  refine mw_bipush (v := 114) dX10_init_293 (by decide) ?_
  refine mw_cast dX10_init_295 (by decide) rfl (mib1 rfl) ?_
  refine mw_dup dX10_init_296 rfl ?_
  refine mw_bipush (v := 35) dX10_init_297 (by decide) ?_
  refine mw_bipush (v := 101) dX10_init_299 (by decide) ?_
  refine mw_cast dX10_init_301 (by decide) rfl (mib1 rfl) ?_
  refine mw_dup dX10_init_302 rfl ?_
  refine mw_bipush (v := 36) dX10_init_303 (by decide) ?_
  refine mw_bipush (v := 32) dX10_init_305 (by decide) ?_
  refine mw_cast dX10_init_307 (by decide) rfl (mib1 rfl) ?_
  refine mw_dup dX10_init_308 rfl ?_
  refine mw_bipush (v := 37) dX10_init_309 (by decide) ?_
  refine mw_bipush (v := 32) dX10_init_311 (by decide) ?_
  refine mw_cast dX10_init_313 (by decide) rfl (mib1 rfl) ?_
  refine mw_dup dX10_init_314 rfl ?_
  refine mw_bipush (v := 38) dX10_init_315 (by decide) ?_
  refine mw_bipush (v := 32) dX10_init_317 (by decide) ?_
  refine mw_cast dX10_init_319 (by decide) rfl (mib1 rfl) ?_
  refine mw_dup dX10_init_320 rfl ?_
  refine mw_bipush (v := 39) dX10_init_321 (by decide) ?_
  refine mw_bipush (v := 32) dX10_init_323 (by decide) ?_
  refine mw_cast dX10_init_325 (by decide) rfl (mib1 rfl) ?_
  refine mw_dup dX10_init_326 rfl ?_
  refine mw_bipush (v := 40) dX10_init_327 (by decide) ?_
  refine mw_bipush (v := 115) dX10_init_329 (by decide) ?_
  refine mw_cast dX10_init_331 (by decide) rfl (mib1 rfl) ?_
  refine mw_dup dX10_init_332 rfl ?_
  refine mw_bipush (v := 41) dX10_init_333 (by decide) ?_
  refine mw_bipush (v := 116) dX10_init_335 (by decide) ?_
  refine mw_cast dX10_init_337 (by decide) rfl (mib1 rfl) ?_
  refine mw_dup dX10_init_338 rfl ?_
  refine mw_bipush (v := 42) dX10_init_339 (by decide) ?_
  refine mw_bipush (v := 97) dX10_init_341 (by decide) ?_
  refine mw_cast dX10_init_343 (by decide) rfl (mib1 rfl) ?_
  refine mw_dup dX10_init_344 rfl ?_
  refine mw_bipush (v := 43) dX10_init_345 (by decide) ?_
  refine mw_bipush (v := 105) dX10_init_347 (by decide) ?_
  refine mw_cast dX10_init_349 (by decide) rfl (mib1 rfl) ?_
  refine mw_dup dX10_init_350 rfl ?_
  refine mw_bipush (v := 44) dX10_init_351 (by decide) ?_
  refine mw_bipush (v := 114) dX10_init_353 (by decide) ?_
  refine mw_cast dX10_init_355 (by decide) rfl (mib1 rfl) ?_
  refine mw_dup dX10_init_356 rfl ?_
  refine mw_bipush (v := 45) dX10_init_357 (by decide) ?_
  refine mw_bipush (v := 32) dX10_init_359 (by decide) ?_
  refine mw_cast dX10_init_361 (by decide) rfl (mib1 rfl) ?_
  refine mw_dup dX10_init_362 rfl ?_
  refine mw_bipush (v := 46) dX10_init_363 (by decide) ?_
  refine mw_bipush (v := 32) dX10_init_365 (by decide) ?_
  refine mw_cast dX10_init_367 (by decide) rfl (mib1 rfl) ?_
  refine mw_dup dX10_init_368 rfl ?_
  refine mw_bipush (v := 47) dX10_init_369 (by decide) ?_
  refine mw_bipush (v := 32) dX10_init_371 (by decide) ?_
  refine mw_cast dX10_init_373 (by decide) rfl (mib1 rfl) ?_
  refine mw_dup dX10_init_374 rfl ?_
  refine mw_bipush (v := 48) dX10_init_375 (by decide) ?_
  refine mw_bipush (v := 116) dX10_init_377 (by decide) ?_
  refine mw_cast dX10_init_379 (by decide) rfl (mib1 rfl) ?_
  refine mw_dup dX10_init_380 rfl ?_
  refine mw_bipush (v := 49) dX10_init_381 (by decide) ?_
  refine mw_bipush (v := 104) dX10_init_383 (by decide) ?_
  refine mw_cast dX10_init_385 (by decide) rfl (mib1 rfl) ?_
  refine mw_dup dX10_init_386 rfl ?_
  refine mw_bipush (v := 50) dX10_init_387 (by decide) ?_
  refine mw_bipush (v := 105) dX10_init_389 (by decide) ?_
  refine mw_cast dX10_init_391 (by decide) rfl (mib1 rfl) ?_
  refine mw_dup dX10_init_392 rfl ?_
  refine mw_bipush (v := 51) dX10_init_393 (by decide) ?_
  refine mw_bipush (v := 110) dX10_init_395 (by decide) ?_
  refine mw_cast dX10_init_397 (by decide) rfl (mib1 rfl) ?_
  refine mw_dup dX10_init_398 rfl ?_
  refine mw_bipush (v := 52) dX10_init_399 (by decide) ?_
  refine mw_bipush (v := 103) dX10_init_401 (by decide) ?_
  refine mw_cast dX10_init_403 (by decide) rfl (mib1 rfl) ?_
  refine mw_dup dX10_init_404 rfl ?_
  refine mw_bipush (v := 53) dX10_init_405 (by decide) ?_
  refine mw_bipush (v := 32) dX10_init_407 (by decide) ?_
  refine mw_cast dX10_init_409 (by decide) rfl (mib1 rfl) ?_
  refine mw_dup dX10_init_410 rfl ?_
  refine mw_bipush (v := 54) dX10_init_411 (by decide) ?_
  refine mw_bipush (v := 32) dX10_init_413 (by decide) ?_
  refine mw_cast dX10_init_415 (by decide) rfl (mib1 rfl) ?_
  refine mw_dup dX10_init_416 rfl ?_
  refine mw_bipush (v := 55) dX10_init_417 (by decide) ?_
  refine mw_bipush (v := 32) dX10_init_419 (by decide) ?_
  refine mw_cast dX10_init_421 (by decide) rfl (mib1 rfl) ?_
  refine mw_dup dX10_init_422 rfl ?_
  refine mw_bipush (v := 56) dX10_init_423 (by decide) ?_
  refine mw_bipush (v := 112) dX10_init_425 (by decide) ?_
  refine mw_cast dX10_init_427 (by decide) rfl (mib1 rfl) ?_
  refine mw_dup dX10_init_428 rfl ?_
  refine mw_bipush (v := 57) dX10_init_429 (by decide) ?_
  refine mw_bipush (v := 108) dX10_init_431 (by decide) ?_
  refine mw_cast dX10_init_433 (by decide) rfl (mib1 rfl) ?_
  refine mw_dup dX10_init_434 rfl ?_
  refine mw_bipush (v := 58) dX10_init_435 (by decide) ?_
  refine mw_bipush (v := 97) dX10_init_437 (by decide) ?_
  refine mw_cast dX10_init_439 (by decide) rfl (mib1 rfl) ?_
  refine mw_dup dX10_init_440 rfl ?_
  refine mw_bipush (v := 59) dX10_init_441 (by decide) ?_
  refine mw_bipush (v := 99) dX10_init_443 (by decide) ?_
  refine mw_cast dX10_init_445 (by decide) rfl (mib1 rfl) ?_
  refine mw_dup dX10_init_446 rfl ?_
  refine mw_bipush (v := 60) dX10_init_447 (by decide) ?_
  refine mw_bipush (v := 101) dX10_init_449 (by decide) ?_
  refine mw_cast dX10_init_451 (by decide) rfl (mib1 rfl) ?_
  refine mw_dup dX10_init_452 rfl ?_
  refine mw_bipush (v := 61) dX10_init_453 (by decide) ?_
  refine mw_bipush (v := 115) dX10_init_455 (by decide) ?_
  refine mw_cast dX10_init_457 (by decide) rfl (mib1 rfl) ?_
  refine mw_dup dX10_init_458 rfl ?_
  refine mw_bipush (v := 62) dX10_init_459 (by decide) ?_
  refine mw_bipush (v := 32) dX10_init_461 (by decide) ?_
  refine mw_cast dX10_init_463 (by decide) rfl (mib1 rfl) ?_
  refine mw_dup dX10_init_464 rfl ?_
  refine mw_bipush (v := 63) dX10_init_465 (by decide) ?_
  refine mw_bipush (v := 32) dX10_init_467 (by decide) ?_
  refine mw_cast dX10_init_469 (by decide) rfl (mib1 rfl) ?_
  refine mw_dup dX10_init_470 rfl ?_
  refine mw_bipush (v := 64) dX10_init_471 (by decide) ?_
  refine mw_bipush (v := 119) dX10_init_473 (by decide) ?_
  refine mw_cast dX10_init_475 (by decide) rfl (mib1 rfl) ?_
  refine mw_dup dX10_init_476 rfl ?_
  refine mw_bipush (v := 65) dX10_init_477 (by decide) ?_
  refine mw_bipush (v := 101) dX10_init_479 (by decide) ?_
  refine mw_cast dX10_init_481 (by decide) rfl (mib1 rfl) ?_
  refine mw_dup dX10_init_482 rfl ?_
  refine mw_bipush (v := 66) dX10_init_483 (by decide) ?_
  refine mw_bipush (v := 97) dX10_init_485 (by decide) ?_
  refine mw_cast dX10_init_487 (by decide) rfl (mib1 rfl) ?_
  refine mw_dup dX10_init_488 rfl ?_
  refine mw_bipush (v := 67) dX10_init_489 (by decide) ?_
  refine mw_bipush (v := 116) dX10_init_491 (by decide) ?_
  refine mw_cast dX10_init_493 (by decide) rfl (mib1 rfl) ?_
  refine mw_dup dX10_init_494 rfl ?_
  refine mw_bipush (v := 68) dX10_init_495 (by decide) ?_
  refine mw_bipush (v := 104) dX10_init_497 (by decide) ?_
  refine mw_cast dX10_init_499 (by decide) rfl (mib1 rfl) ?_
  refine mw_dup dX10_init_500 rfl ?_
  refine mw_bipush (v := 69) dX10_init_501 (by decide) ?_
  refine mw_bipush (v := 101) dX10_init_503 (by decide) ?_
  refine mw_cast dX10_init_505 (by decide) rfl (mib1 rfl) ?_
  refine mw_dup dX10_init_506 rfl ?_
  refine mw_bipush (v := 70) dX10_init_507 (by decide) ?_
  refine mw_bipush (v := 114) dX10_init_509 (by decide) ?_
  refine mw_cast dX10_init_511 (by decide) rfl (mib1 rfl) ?_
  refine mw_dup dX10_init_512 rfl ?_
  refine mw_bipush (v := 71) dX10_init_513 (by decide) ?_
  refine mw_bipush (v := 32) dX10_init_515 (by decide) ?_
  refine mw_cast dX10_init_517 (by decide) rfl (mib1 rfl) ?_
  refine mw_dup dX10_init_518 rfl ?_
  refine mw_bipush (v := 72) dX10_init_519 (by decide) ?_
  refine mw_bipush (v := 103) dX10_init_521 (by decide) ?_
  refine mw_cast dX10_init_523 (by decide) rfl (mib1 rfl) ?_
  refine mw_dup dX10_init_524 rfl ?_
  refine mw_bipush (v := 73) dX10_init_525 (by decide) ?_
  refine mw_bipush (v := 97) dX10_init_527 (by decide) ?_
  refine mw_cast dX10_init_529 (by decide) rfl (mib1 rfl) ?_
  refine mw_dup dX10_init_530 rfl ?_
  refine mw_bipush (v := 74) dX10_init_531 (by decide) ?_
  refine mw_bipush (v := 105) dX10_init_533 (by decide) ?_
  refine mw_cast dX10_init_535 (by decide) rfl (mib1 rfl) ?_
  refine mw_dup dX10_init_536 rfl ?_
  refine mw_bipush (v := 75) dX10_init_537 (by decide) ?_
  refine mw_bipush (v := 110) dX10_init_539 (by decide) ?_
  refine mw_cast dX10_init_541 (by decide) rfl (mib1 rfl) ?_
  refine mw_dup dX10_init_542 rfl ?_
  refine mw_bipush (v := 76) dX10_init_543 (by decide) ?_
  refine mw_bipush (v := 32) dX10_init_545 (by decide) ?_
  refine mw_cast dX10_init_547 (by decide) rfl (mib1 rfl) ?_
  refine mw_dup dX10_init_548 rfl ?_
  refine mw_bipush (v := 77) dX10_init_549 (by decide) ?_
  refine mw_bipush (v := 32) dX10_init_551 (by decide) ?_
  refine mw_cast dX10_init_553 (by decide) rfl (mib1 rfl) ?_
  refine mw_dup dX10_init_554 rfl ?_
  refine mw_bipush (v := 78) dX10_init_555 (by decide) ?_
  refine mw_bipush (v := 32) dX10_init_557 (by decide) ?_
  refine mw_cast dX10_init_559 (by decide) rfl (mib1 rfl) ?_
  refine mw_dup dX10_init_560 rfl ?_
  refine mw_bipush (v := 79) dX10_init_561 (by decide) ?_
  refine mw_bipush (v := 32) dX10_init_563 (by decide) ?_
  refine mw_cast dX10_init_565 (by decide) rfl (mib1 rfl) ?_
  refine mw_dup dX10_init_566 rfl ?_
  refine mw_bipush (v := 80) dX10_init_567 (by decide) ?_
  refine mw_bipush (v := 108) dX10_init_569 (by decide) ?_
  refine mw_cast dX10_init_571 (by decide) rfl (mib1 rfl) ?_
  refine mw_dup dX10_init_572 rfl ?_
  refine mw_bipush (v := 81) dX10_init_573 (by decide) ?_
  refine mw_bipush (v := 111) dX10_init_575 (by decide) ?_
  refine mw_cast dX10_init_577 (by decide) rfl (mib1 rfl) ?_
  refine mw_dup dX10_init_578 rfl ?_
  refine mw_bipush (v := 82) dX10_init_579 (by decide) ?_
  refine mw_bipush (v := 115) dX10_init_581 (by decide) ?_
  refine mw_cast dX10_init_583 (by decide) rfl (mib1 rfl) ?_
  refine mw_dup dX10_init_584 rfl ?_
  refine mw_bipush (v := 83) dX10_init_585 (by decide) ?_
  refine mw_bipush (v := 115) dX10_init_587 (by decide) ?_
  refine mw_cast dX10_init_589 (by decide) rfl (mib1 rfl) ?_
  refine mw_dup dX10_init_590 rfl ?_
  refine mw_bipush (v := 84) dX10_init_591 (by decide) ?_
  refine mw_bipush (v := 32) dX10_init_593 (by decide) ?_
  refine mw_cast dX10_init_595 (by decide) rfl (mib1 rfl) ?_
  refine mw_dup dX10_init_596 rfl ?_
  refine mw_bipush (v := 85) dX10_init_597 (by decide) ?_
  refine mw_bipush (v := 32) dX10_init_599 (by decide) ?_
  refine mw_cast dX10_init_601 (by decide) rfl (mib1 rfl) ?_
  refine mw_dup dX10_init_602 rfl ?_
  refine mw_bipush (v := 86) dX10_init_603 (by decide) ?_
  refine mw_bipush (v := 32) dX10_init_605 (by decide) ?_
  refine mw_cast dX10_init_607 (by decide) rfl (mib1 rfl) ?_
  refine mw_dup dX10_init_608 rfl ?_
  refine mw_bipush (v := 87) dX10_init_609 (by decide) ?_
  refine mw_bipush (v := 32) dX10_init_611 (by decide) ?_
  refine mw_cast dX10_init_613 (by decide) rfl (mib1 rfl) ?_
  refine mw_dup dX10_init_614 rfl ?_
  refine mw_bipush (v := 88) dX10_init_615 (by decide) ?_
  refine mw_bipush (v := 116) dX10_init_617 (by decide) ?_
  refine mw_cast dX10_init_619 (by decide) rfl (mib1 rfl) ?_
  refine mw_dup dX10_init_620 rfl ?_
  refine mw_bipush (v := 89) dX10_init_621 (by decide) ?_
  refine mw_bipush (v := 105) dX10_init_623 (by decide) ?_
  refine mw_cast dX10_init_625 (by decide) rfl (mib1 rfl) ?_
  refine mw_dup dX10_init_626 rfl ?_
  refine mw_bipush (v := 90) dX10_init_627 (by decide) ?_
  refine mw_bipush (v := 109) dX10_init_629 (by decide) ?_
  refine mw_cast dX10_init_631 (by decide) rfl (mib1 rfl) ?_
  refine mw_dup dX10_init_632 rfl ?_
  refine mw_bipush (v := 91) dX10_init_633 (by decide) ?_
  refine mw_bipush (v := 101) dX10_init_635 (by decide) ?_
  refine mw_cast dX10_init_637 (by decide) rfl (mib1 rfl) ?_
  refine mw_dup dX10_init_638 rfl ?_
  refine mw_bipush (v := 92) dX10_init_639 (by decide) ?_
  refine mw_bipush (v := 32) dX10_init_641 (by decide) ?_
  refine mw_cast dX10_init_643 (by decide) rfl (mib1 rfl) ?_
  refine mw_dup dX10_init_644 rfl ?_
  refine mw_bipush (v := 93) dX10_init_645 (by decide) ?_
  refine mw_bipush (v := 32) dX10_init_647 (by decide) ?_
  refine mw_cast dX10_init_649 (by decide) rfl (mib1 rfl) ?_
  refine mw_dup dX10_init_650 rfl ?_
  refine mw_bipush (v := 94) dX10_init_651 (by decide) ?_
  refine mw_bipush (v := 32) dX10_init_653 (by decide) ?_
  refine mw_cast dX10_init_655 (by decide) rfl (mib1 rfl) ?_
  refine mw_dup dX10_init_656 rfl ?_
  refine mw_bipush (v := 95) dX10_init_657 (by decide) ?_
  refine mw_bipush (v := 32) dX10_init_659 (by decide) ?_
  refine mw_cast dX10_init_661 (by decide) rfl (mib1 rfl) ?_
  refine mw_dup dX10_init_662 rfl ?_
  refine mw_bipush (v := 96) dX10_init_663 (by decide) ?_
  refine mw_bipush (v := 115) dX10_init_665 (by decide) ?_
  refine mw_cast dX10_init_667 (by decide) rfl (mib1 rfl) ?_
  refine mw_dup dX10_init_668 rfl ?_
  refine mw_bipush (v := 97) dX10_init_669 (by decide) ?_
  refine mw_bipush (v := 104) dX10_init_671 (by decide) ?_
  refine mw_cast dX10_init_673 (by decide) rfl (mib1 rfl) ?_
  refine mw_dup dX10_init_674 rfl ?_
  refine mw_bipush (v := 98) dX10_init_675 (by decide) ?_
  refine mw_bipush (v := 117) dX10_init_677 (by decide) ?_
  refine mw_cast dX10_init_679 (by decide) rfl (mib1 rfl) ?_
  refine mw_dup dX10_init_680 rfl ?_
  refine mw_bipush (v := 99) dX10_init_681 (by decide) ?_
  refine mw_bipush (v := 116) dX10_init_683 (by decide) ?_
  refine mw_cast dX10_init_685 (by decide) rfl (mib1 rfl) ?_
  refine mw_dup dX10_init_686 rfl ?_
  refine mw_bipush (v := 100) dX10_init_687 (by decide) ?_
  refine mw_bipush (v := 32) dX10_init_689 (by decide) ?_
  refine mw_cast dX10_init_691 (by decide) rfl (mib1 rfl) ?_
  refine mw_dup dX10_init_692 rfl ?_
  refine mw_bipush (v := 101) dX10_init_693 (by decide) ?_
  refine mw_bipush (v := 32) dX10_init_695 (by decide) ?_
  refine mw_cast dX10_init_697 (by decide) rfl (mib1 rfl) ?_
  refine mw_dup dX10_init_698 rfl ?_
  refine mw_bipush (v := 102) dX10_init_699 (by decide) ?_
  refine mw_bipush (v := 32) dX10_init_701 (by decide) ?_
  refine mw_cast dX10_init_703 (by decide) rfl (mib1 rfl) ?_
  refine mw_dup dX10_init_704 rfl ?_
  refine mw_bipush (v := 103) dX10_init_705 (by decide) ?_
  refine mw_bipush (v := 32) dX10_init_707 (by decide) ?_
  refine mw_cast dX10_init_709 (by decide) rfl (mib1 rfl) ?_
  refine mw_putR (ty := (.array .char)) (ci := 9) (j := 31) tyX10 tyX10_ok nmX10 dX10_init_710 (by decide) rfl rfl rfl (by decide) uws_9 wt_787 (Or.inl rfl) (Or.inr ⟨rfl, rfl, rfl⟩) (by decide +kernel) rfl rfl ?_
  refine mw_aload_n dX10_init_713 0 rfl ?_
  refine mw_bipush (v := 114) dX10_init_714 (by decide) ?_
  refine mk_newaI (n' := 82) (c' := 12) (s' := 671) rfl rfl rfl (N0 := 114) (N := 114) dX10_init_716 wt_840 rfl (by decide) (by decide) (by decide) (zc_uR (by decide) (zc_uI (by decide) (zc_uI (by decide) (zc_uI (by decide) (zc_uI (by decide) (zc_uI (by decide) (zc_uI (by decide) (zc_uI (by decide) (zc_uI (by decide) (zc_uI (by decide) (zc_uI (by decide) (zc_uI (by decide) (zc_uI (by decide) (zc_uI (by decide) (zc_uI (by decide) (zc_uI (by decide) (zc_uI (by decide) (zc_uI (by decide) (zc_uI (by decide) (zc_uI (by decide) (zc_uI (by decide) (zc_uI (by decide) (zc_uI (by decide) (zc_uI (by decide) (zc_uI (by decide) (zc_uI (by decide) (zc_uI (by decide) (zc_uI (by decide) (zc_uI (by decide) (zc_uI (by decide) (zc_uI (by decide) (zc_uI (by decide) (zc_uI (by decide) (zc_uI (by decide) (zc_uI (by decide) (zc_uI (by decide) (zc_uI (by decide) (zc_uI (by decide) (zc_uI (by decide) (zc_uI (by decide) (zc_uI (by decide) (zc_uI (by decide) (zc_uI (by decide) (zc_uI (by decide) (zc_uI (by decide) (zc_uI (by decide) (zc_uI (by decide) (zc_uI (by decide) (zc_uI (by decide) (zc_uI (by decide) (zc_uI (by decide) (zc_uI (by decide) (zc_uI (by decide) (zc_uI (by decide) (zc_uI (by decide) (zc_uI (by decide) (zc_uI (by decide) (zc_uI (by decide) (zc_uI (by decide) (zc_uI (by decide) (zc_uI (by decide) (zc_uI (by decide) (zc_uI (by decide) (zc_uI (by decide) (zc_uI (by decide) (zc_uI (by decide) (zc_uI (by decide) (zc_uI (by decide) (zc_uI (by decide) (zc_uI (by decide) (zc_uI (by decide) (zc_uI (by decide) (zc_uI (by decide) (zc_uI (by decide) (zc_uI (by decide) (zc_uI (by decide) (zc_uI (by decide) (zc_uI (by decide) (zc_uI (by decide) (zc_uI (by decide) (zc_uI (by decide) (zc_uI (by decide) (zc_uI (by decide) (zc_uI (by decide) (zc_uI (by decide) (zc_uI (by decide) (zc_uI (by decide) (zc_uI (by decide) (zc_uI (by decide) (zc_uI (by decide) (zc_uI (by decide) (zc_uI (by decide) (zc_uI (by decide) (zc_uI (by decide) (zc_uI (by decide) (zc_uI (by decide) (zc_uI (by decide) (zc_uI (by decide) (zc_uI (by decide) (zc_uI (by decide) (zc_uI (by decide) (zc_uI (by decide) (zc_uI (by decide) (zc_uI (by decide) (zc_uI (by decide) (zc_uR (by decide) (zc_uR (by decide) (zc_uR (by decide) (zc_uR (by decide) (zc_uR (by decide) (zc_uR (by decide) (zc_uR (by decide) (zc_uR (by decide) (zc_uR (by decide) (zc_uI (by decide) (zc_uR (by decide) (hz 81 (by decide)))))))))))))))))))))))))))))))))))))))))))))))))))))))))))))))))))))))))))))))))))))))))))))))))))))))))))))))))))))) (by decide) (by decide) (by decide) rfl ?_
  refine mw_putR (ty := (.array .int)) (ci := 9) (j := 34) tyX10 tyX10_ok nmX10 dX10_init_718 (by decide) rfl rfl rfl (by decide) uws_9 wt_832 (Or.inl rfl) (Or.inr ⟨rfl, rfl, rfl⟩) (by decide +kernel) rfl rfl ?_
  refine mw_aload_n dX10_init_721 0 rfl ?_
  refine mw_get (v := .ref 73) (j := 7) (ci := 9) dX10_init_722 (by decide) rfl rfl rfl (by decide) uws_9 wt_632 (Or.inl rfl) (by simp [mfv, mft, tyX10, mmR_uI, mmR_uR, va_rf]) ?_
  refine mw_iconst (v := 1) dX10_init_725 (by decide) ?_
  refine mw_iconst (v := 1) dX10_init_726 (by decide) ?_
  refine mw_iast dX10_init_727 (by decide) rfl (mib1 rfl) ?_
  exact mw_vret dX10_init_728 rfl rfl rfl rfl
theorem su_X10_init_69 {σ : MSt} (h : rsup σ.2.2) : rsup (s_X10_init_69 σ).2.2 := by
  unfold s_X10_init_69
  exact (su_I (su_R (by decide) (by decide) (su_R (by decide) (by decide) (su_I (su_I (su_I (su_I (su_I (su_I (su_I (su_I (su_I (su_I (su_I (su_I (su_I (su_I (su_I (su_I (su_I (su_I (su_I (su_I (su_I (su_I (su_I (su_I (su_I (su_I (su_I (su_I (su_I (su_I (su_I (su_I (su_I (su_I (su_I (su_I (su_I (su_I (su_I (su_I (su_I (su_I (su_I (su_I (su_I (su_I (su_I (su_I (su_I (su_I (su_I (su_I (su_I (su_I (su_I (su_I (su_I (su_I (su_I (su_I (su_I (su_I (su_I (su_I (su_I (su_I (su_I (su_I (su_I (su_I (su_I (su_I (su_I (su_I (su_I (su_I (su_I (su_I (su_I (su_I (su_I (su_I (su_I (su_I (su_I (su_I (su_I (su_I (su_I (su_I (su_I (su_I (su_I (su_I (su_I (su_I (su_I (su_I (su_I (su_I (su_I (su_I (su_I (su_I (su_R (by decide) (by decide) (su_R (by decide) (by decide) (su_R (by decide) (by decide) (su_R (by decide) (by decide) (su_R (by decide) (by decide) (su_R (by decide) (by decide) (su_R (by decide) (by decide) (su_R (by decide) (by decide) (su_R (by decide) (by decide) (su_I (su_R (by decide) (by decide) h))))))))))))))))))))))))))))))))))))))))))))))))))))))))))))))))))))))))))))))))))))))))))))))))))))))))))))))))))))))

