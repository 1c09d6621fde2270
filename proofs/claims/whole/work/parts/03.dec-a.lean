theorem dX0_init_0 : decode cX0_init 0 = .ok (.aload_n 0, 1) := by decide +kernel
theorem dX0_init_1 : decode cX0_init 1 = .ok (.invokespecial 3, 3) := by decide +kernel
theorem dX0_init_4 : decode cX0_init 4 = .ok (.aload_n 0, 1) := by decide +kernel
theorem dX0_init_5 : decode cX0_init 5 = .ok (.bipush 14, 2) := by decide +kernel
theorem dX0_init_7 : decode cX0_init 7 = .ok (.newarray .long, 2) := by decide +kernel
theorem dX0_init_9 : decode cX0_init 9 = .ok (.putfield 9, 3) := by decide +kernel
theorem dX0_init_12 : decode cX0_init 12 = .ok (.aload_n 0, 1) := by decide +kernel
theorem dX0_init_13 : decode cX0_init 13 = .ok (.bipush 14, 2) := by decide +kernel
theorem dX0_init_15 : decode cX0_init 15 = .ok (.newarray .long, 2) := by decide +kernel
theorem dX0_init_17 : decode cX0_init 17 = .ok (.putfield 15, 3) := by decide +kernel
theorem dX0_init_20 : decode cX0_init 20 = .ok (.aload_n 0, 1) := by decide +kernel
theorem dX0_init_21 : decode cX0_init 21 = .ok (.bipush 14, 2) := by decide +kernel
theorem dX0_init_23 : decode cX0_init 23 = .ok (.newarray .long, 2) := by decide +kernel
theorem dX0_init_25 : decode cX0_init 25 = .ok (.putfield 18, 3) := by decide +kernel
theorem dX0_init_28 : decode cX0_init 28 = .ok (.return_, 1) := by decide +kernel
theorem dX0_takeWays_0 : decode cX0_takeWays 0 = .ok (.aload_n 0, 1) := by decide +kernel
theorem dX0_takeWays_1 : decode cX0_takeWays 1 = .ok (.aload_n 1, 1) := by decide +kernel
theorem dX0_takeWays_2 : decode cX0_takeWays 2 = .ok (.getfield 21, 3) := by decide +kernel
theorem dX0_takeWays_5 : decode cX0_takeWays 5 = .ok (.putfield 27, 3) := by decide +kernel
theorem dX0_takeWays_8 : decode cX0_takeWays 8 = .ok (.iconst 0, 1) := by decide +kernel
theorem dX0_takeWays_9 : decode cX0_takeWays 9 = .ok (.istore_n 2, 1) := by decide +kernel
theorem dX0_takeWays_10 : decode cX0_takeWays 10 = .ok (.iload_n 2, 1) := by decide +kernel
theorem dX0_takeWays_11 : decode cX0_takeWays 11 = .ok (.aload_n 0, 1) := by decide +kernel
theorem dX0_takeWays_12 : decode cX0_takeWays 12 = .ok (.getfield 27, 3) := by decide +kernel
theorem dX0_takeWays_15 : decode cX0_takeWays 15 = .ok (.if_icmp .ge 33, 3) := by decide +kernel
theorem dX0_takeWays_18 : decode cX0_takeWays 18 = .ok (.aload_n 0, 1) := by decide +kernel
theorem dX0_takeWays_19 : decode cX0_takeWays 19 = .ok (.getfield 9, 3) := by decide +kernel
theorem dX0_takeWays_22 : decode cX0_takeWays 22 = .ok (.iload_n 2, 1) := by decide +kernel
theorem dX0_takeWays_23 : decode cX0_takeWays 23 = .ok (.aload_n 1, 1) := by decide +kernel
theorem dX0_takeWays_24 : decode cX0_takeWays 24 = .ok (.iload_n 2, 1) := by decide +kernel
theorem dX0_takeWays_25 : decode cX0_takeWays 25 = .ok (.invokevirtual 30, 3) := by decide +kernel
theorem dX0_takeWays_28 : decode cX0_takeWays 28 = .ok (.i2l, 1) := by decide +kernel
theorem dX0_takeWays_29 : decode cX0_takeWays 29 = .ok (.lastore, 1) := by decide +kernel
theorem dX0_takeWays_30 : decode cX0_takeWays 30 = .ok (.aload_n 0, 1) := by decide +kernel
theorem dX0_takeWays_31 : decode cX0_takeWays 31 = .ok (.getfield 15, 3) := by decide +kernel
theorem dX0_takeWays_34 : decode cX0_takeWays 34 = .ok (.iload_n 2, 1) := by decide +kernel
theorem dX0_takeWays_35 : decode cX0_takeWays 35 = .ok (.aload_n 1, 1) := by decide +kernel
theorem dX0_takeWays_36 : decode cX0_takeWays 36 = .ok (.iload_n 2, 1) := by decide +kernel
theorem dX0_takeWays_37 : decode cX0_takeWays 37 = .ok (.invokevirtual 34, 3) := by decide +kernel
theorem dX0_takeWays_40 : decode cX0_takeWays 40 = .ok (.i2l, 1) := by decide +kernel
theorem dX0_takeWays_41 : decode cX0_takeWays 41 = .ok (.lastore, 1) := by decide +kernel
theorem dX0_takeWays_42 : decode cX0_takeWays 42 = .ok (.iinc 2 1, 3) := by decide +kernel
theorem dX0_takeWays_45 : decode cX0_takeWays 45 = .ok (.goto (-35), 3) := by decide +kernel
theorem dX0_takeWays_48 : decode cX0_takeWays 48 = .ok (.return_, 1) := by decide +kernel
theorem dX0_runs_0 : decode cX0_runs 0 = .ok (.aload_n 0, 1) := by decide +kernel
theorem dX0_runs_1 : decode cX0_runs 1 = .ok (.lconst 0, 1) := by decide +kernel
theorem dX0_runs_2 : decode cX0_runs 2 = .ok (.lconst 0, 1) := by decide +kernel
theorem dX0_runs_3 : decode cX0_runs 3 = .ok (.invokevirtual 37, 3) := by decide +kernel
theorem dX0_runs_6 : decode cX0_runs 6 = .ok (.aload_n 0, 1) := by decide +kernel
theorem dX0_runs_7 : decode cX0_runs 7 = .ok (.invokevirtual 41, 3) := by decide +kernel
theorem dX0_runs_10 : decode cX0_runs 10 = .ok (.istore_n 1, 1) := by decide +kernel
theorem dX0_runs_11 : decode cX0_runs 11 = .ok (.iload_n 1, 1) := by decide +kernel
theorem dX0_runs_12 : decode cX0_runs 12 = .ok (.ifCond .ne 5, 3) := by decide +kernel
theorem dX0_runs_15 : decode cX0_runs 15 = .ok (.iconst 0, 1) := by decide +kernel
theorem dX0_runs_16 : decode cX0_runs 16 = .ok (.ireturn, 1) := by decide +kernel
theorem dX0_runs_17 : decode cX0_runs 17 = .ok (.iconst 1, 1) := by decide +kernel
theorem dX0_runs_18 : decode cX0_runs 18 = .ok (.istore_n 2, 1) := by decide +kernel
theorem dX0_runs_19 : decode cX0_runs 19 = .ok (.iload_n 2, 1) := by decide +kernel
theorem dX0_runs_20 : decode cX0_runs 20 = .ok (.sipush 16384, 3) := by decide +kernel
theorem dX0_runs_23 : decode cX0_runs 23 = .ok (.if_icmp .gt 131, 3) := by decide +kernel
theorem dX0_runs_26 : decode cX0_runs 26 = .ok (.aload_n 0, 1) := by decide +kernel
theorem dX0_runs_27 : decode cX0_runs 27 = .ok (.iload_n 2, 1) := by decide +kernel
theorem dX0_runs_28 : decode cX0_runs 28 = .ok (.putfield 45, 3) := by decide +kernel
theorem dX0_runs_31 : decode cX0_runs 31 = .ok (.aload_n 0, 1) := by decide +kernel
theorem dX0_runs_32 : decode cX0_runs 32 = .ok (.aload_n 0, 1) := by decide +kernel
theorem dX0_runs_33 : decode cX0_runs 33 = .ok (.getfield 48, 3) := by decide +kernel
theorem dX0_runs_36 : decode cX0_runs 36 = .ok (.aload_n 0, 1) := by decide +kernel
theorem dX0_runs_37 : decode cX0_runs 37 = .ok (.aload_n 0, 1) := by decide +kernel
theorem dX0_runs_38 : decode cX0_runs 38 = .ok (.getfield 9, 3) := by decide +kernel
theorem dX0_runs_41 : decode cX0_runs 41 = .ok (.iload_n 1, 1) := by decide +kernel
theorem dX0_runs_42 : decode cX0_runs 42 = .ok (.invokevirtual 52, 3) := by decide +kernel
theorem dX0_runs_45 : decode cX0_runs 45 = .ok (.ladd, 1) := by decide +kernel
theorem dX0_runs_46 : decode cX0_runs 46 = .ok (.putfield 56, 3) := by decide +kernel
theorem dX0_runs_49 : decode cX0_runs 49 = .ok (.aload_n 0, 1) := by decide +kernel
theorem dX0_runs_50 : decode cX0_runs 50 = .ok (.aload_n 0, 1) := by decide +kernel
theorem dX0_runs_51 : decode cX0_runs 51 = .ok (.getfield 59, 3) := by decide +kernel
theorem dX0_runs_54 : decode cX0_runs 54 = .ok (.aload_n 0, 1) := by decide +kernel
theorem dX0_runs_55 : decode cX0_runs 55 = .ok (.aload_n 0, 1) := by decide +kernel
theorem dX0_runs_56 : decode cX0_runs 56 = .ok (.getfield 15, 3) := by decide +kernel
theorem dX0_runs_59 : decode cX0_runs 59 = .ok (.iload_n 1, 1) := by decide +kernel
theorem dX0_runs_60 : decode cX0_runs 60 = .ok (.invokevirtual 52, 3) := by decide +kernel
theorem dX0_runs_63 : decode cX0_runs 63 = .ok (.ladd, 1) := by decide +kernel
theorem dX0_runs_64 : decode cX0_runs 64 = .ok (.putfield 62, 3) := by decide +kernel
theorem dX0_runs_67 : decode cX0_runs 67 = .ok (.aload_n 0, 1) := by decide +kernel
theorem dX0_runs_68 : decode cX0_runs 68 = .ok (.aload_n 0, 1) := by decide +kernel
theorem dX0_runs_69 : decode cX0_runs 69 = .ok (.getfield 56, 3) := by decide +kernel
theorem dX0_runs_72 : decode cX0_runs 72 = .ok (.aload_n 0, 1) := by decide +kernel
theorem dX0_runs_73 : decode cX0_runs 73 = .ok (.getfield 62, 3) := by decide +kernel
theorem dX0_runs_76 : decode cX0_runs 76 = .ok (.invokevirtual 37, 3) := by decide +kernel
theorem dX0_runs_79 : decode cX0_runs 79 = .ok (.aload_n 0, 1) := by decide +kernel
theorem dX0_runs_80 : decode cX0_runs 80 = .ok (.aload_n 0, 1) := by decide +kernel
theorem dX0_runs_81 : decode cX0_runs 81 = .ok (.invokevirtual 41, 3) := by decide +kernel
theorem dX0_runs_84 : decode cX0_runs 84 = .ok (.putfield 65, 3) := by decide +kernel
theorem dX0_runs_87 : decode cX0_runs 87 = .ok (.aload_n 0, 1) := by decide +kernel
theorem dX0_runs_88 : decode cX0_runs 88 = .ok (.getfield 48, 3) := by decide +kernel
theorem dX0_runs_91 : decode cX0_runs 91 = .ok (.aload_n 0, 1) := by decide +kernel
theorem dX0_runs_92 : decode cX0_runs 92 = .ok (.aload_n 0, 1) := by decide +kernel
theorem dX0_runs_93 : decode cX0_runs 93 = .ok (.getfield 9, 3) := by decide +kernel
theorem dX0_runs_96 : decode cX0_runs 96 = .ok (.aload_n 0, 1) := by decide +kernel
theorem dX0_runs_97 : decode cX0_runs 97 = .ok (.getfield 65, 3) := by decide +kernel
theorem dX0_runs_100 : decode cX0_runs 100 = .ok (.invokevirtual 52, 3) := by decide +kernel
theorem dX0_runs_103 : decode cX0_runs 103 = .ok (.ladd, 1) := by decide +kernel
theorem dX0_runs_104 : decode cX0_runs 104 = .ok (.lstore_n 3, 1) := by decide +kernel
theorem dX0_runs_105 : decode cX0_runs 105 = .ok (.aload_n 0, 1) := by decide +kernel
theorem dX0_runs_106 : decode cX0_runs 106 = .ok (.getfield 59, 3) := by decide +kernel
theorem dX0_runs_109 : decode cX0_runs 109 = .ok (.aload_n 0, 1) := by decide +kernel
theorem dX0_runs_110 : decode cX0_runs 110 = .ok (.aload_n 0, 1) := by decide +kernel
theorem dX0_runs_111 : decode cX0_runs 111 = .ok (.getfield 15, 3) := by decide +kernel
theorem dX0_runs_114 : decode cX0_runs 114 = .ok (.aload_n 0, 1) := by decide +kernel
theorem dX0_runs_115 : decode cX0_runs 115 = .ok (.getfield 65, 3) := by decide +kernel
theorem dX0_runs_118 : decode cX0_runs 118 = .ok (.invokevirtual 52, 3) := by decide +kernel
theorem dX0_runs_121 : decode cX0_runs 121 = .ok (.ladd, 1) := by decide +kernel
theorem dX0_runs_122 : decode cX0_runs 122 = .ok (.lstore 5, 2) := by decide +kernel
theorem dX0_runs_124 : decode cX0_runs 124 = .ok (.lload_n 3, 1) := by decide +kernel
theorem dX0_runs_125 : decode cX0_runs 125 = .ok (.aload_n 0, 1) := by decide +kernel
theorem dX0_runs_126 : decode cX0_runs 126 = .ok (.getfield 62, 3) := by decide +kernel
theorem dX0_runs_129 : decode cX0_runs 129 = .ok (.lmul, 1) := by decide +kernel
theorem dX0_runs_130 : decode cX0_runs 130 = .ok (.aload_n 0, 1) := by decide +kernel
theorem dX0_runs_131 : decode cX0_runs 131 = .ok (.getfield 56, 3) := by decide +kernel
theorem dX0_runs_134 : decode cX0_runs 134 = .ok (.lload 5, 2) := by decide +kernel
theorem dX0_runs_136 : decode cX0_runs 136 = .ok (.lmul, 1) := by decide +kernel
theorem dX0_runs_137 : decode cX0_runs 137 = .ok (.lcmp, 1) := by decide +kernel
theorem dX0_runs_138 : decode cX0_runs 138 = .ok (.ifCond .gt 5, 3) := by decide +kernel
theorem dX0_runs_141 : decode cX0_runs 141 = .ok (.iconst 1, 1) := by decide +kernel
theorem dX0_runs_142 : decode cX0_runs 142 = .ok (.ireturn, 1) := by decide +kernel
theorem dX0_runs_143 : decode cX0_runs 143 = .ok (.aload_n 0, 1) := by decide +kernel
theorem dX0_runs_144 : decode cX0_runs 144 = .ok (.getfield 65, 3) := by decide +kernel
theorem dX0_runs_147 : decode cX0_runs 147 = .ok (.istore_n 1, 1) := by decide +kernel
theorem dX0_runs_148 : decode cX0_runs 148 = .ok (.iinc 2 1, 3) := by decide +kernel
theorem dX0_runs_151 : decode cX0_runs 151 = .ok (.goto (-132), 3) := by decide +kernel
theorem dX0_runs_154 : decode cX0_runs 154 = .ok (.iconst 1, 1) := by decide +kernel
theorem dX0_runs_155 : decode cX0_runs 155 = .ok (.ireturn, 1) := by decide +kernel
theorem dX0_weigh_0 : decode cX0_weigh 0 = .ok (.iconst 0, 1) := by decide +kernel
theorem dX0_weigh_1 : decode cX0_weigh 1 = .ok (.istore 5, 2) := by decide +kernel
theorem dX0_weigh_3 : decode cX0_weigh 3 = .ok (.iload 5, 2) := by decide +kernel
theorem dX0_weigh_5 : decode cX0_weigh 5 = .ok (.aload_n 0, 1) := by decide +kernel
theorem dX0_weigh_6 : decode cX0_weigh 6 = .ok (.getfield 27, 3) := by decide +kernel
theorem dX0_weigh_9 : decode cX0_weigh 9 = .ok (.if_icmp .ge 35, 3) := by decide +kernel
theorem dX0_weigh_12 : decode cX0_weigh 12 = .ok (.aload_n 0, 1) := by decide +kernel
theorem dX0_weigh_13 : decode cX0_weigh 13 = .ok (.getfield 18, 3) := by decide +kernel
theorem dX0_weigh_16 : decode cX0_weigh 16 = .ok (.iload 5, 2) := by decide +kernel
theorem dX0_weigh_18 : decode cX0_weigh 18 = .ok (.lload_n 3, 1) := by decide +kernel
theorem dX0_weigh_19 : decode cX0_weigh 19 = .ok (.aload_n 0, 1) := by decide +kernel
theorem dX0_weigh_20 : decode cX0_weigh 20 = .ok (.getfield 9, 3) := by decide +kernel
theorem dX0_weigh_23 : decode cX0_weigh 23 = .ok (.iload 5, 2) := by decide +kernel
theorem dX0_weigh_25 : decode cX0_weigh 25 = .ok (.laload, 1) := by decide +kernel
theorem dX0_weigh_26 : decode cX0_weigh 26 = .ok (.lmul, 1) := by decide +kernel
theorem dX0_weigh_27 : decode cX0_weigh 27 = .ok (.lload_n 1, 1) := by decide +kernel
theorem dX0_weigh_28 : decode cX0_weigh 28 = .ok (.aload_n 0, 1) := by decide +kernel
theorem dX0_weigh_29 : decode cX0_weigh 29 = .ok (.getfield 15, 3) := by decide +kernel
theorem dX0_weigh_32 : decode cX0_weigh 32 = .ok (.iload 5, 2) := by decide +kernel
theorem dX0_weigh_34 : decode cX0_weigh 34 = .ok (.laload, 1) := by decide +kernel
theorem dX0_weigh_35 : decode cX0_weigh 35 = .ok (.lmul, 1) := by decide +kernel
theorem dX0_weigh_36 : decode cX0_weigh 36 = .ok (.lsub, 1) := by decide +kernel
theorem dX0_weigh_37 : decode cX0_weigh 37 = .ok (.lastore, 1) := by decide +kernel
theorem dX0_weigh_38 : decode cX0_weigh 38 = .ok (.iinc 5 1, 3) := by decide +kernel
theorem dX0_weigh_41 : decode cX0_weigh 41 = .ok (.goto (-38), 3) := by decide +kernel
theorem dX0_weigh_44 : decode cX0_weigh 44 = .ok (.return_, 1) := by decide +kernel
theorem dX0_together_0 : decode cX0_together 0 = .ok (.lconst 0, 1) := by decide +kernel
theorem dX0_together_1 : decode cX0_together 1 = .ok (.lstore_n 3, 1) := by decide +kernel
theorem dX0_together_2 : decode cX0_together 2 = .ok (.iconst 0, 1) := by decide +kernel
theorem dX0_together_3 : decode cX0_together 3 = .ok (.istore 5, 2) := by decide +kernel
theorem dX0_together_5 : decode cX0_together 5 = .ok (.iload 5, 2) := by decide +kernel
theorem dX0_together_7 : decode cX0_together 7 = .ok (.aload_n 0, 1) := by decide +kernel
theorem dX0_together_8 : decode cX0_together 8 = .ok (.getfield 27, 3) := by decide +kernel
theorem dX0_together_11 : decode cX0_together 11 = .ok (.if_icmp .ge 25, 3) := by decide +kernel
theorem dX0_together_14 : decode cX0_together 14 = .ok (.iload_n 2, 1) := by decide +kernel
theorem dX0_together_15 : decode cX0_together 15 = .ok (.iconst 1, 1) := by decide +kernel
theorem dX0_together_16 : decode cX0_together 16 = .ok (.iload 5, 2) := by decide +kernel
theorem dX0_together_18 : decode cX0_together 18 = .ok (.ishl, 1) := by decide +kernel
theorem dX0_together_19 : decode cX0_together 19 = .ok (.iand, 1) := by decide +kernel
theorem dX0_together_20 : decode cX0_together 20 = .ok (.ifCond .eq 10, 3) := by decide +kernel
theorem dX0_together_23 : decode cX0_together 23 = .ok (.lload_n 3, 1) := by decide +kernel
theorem dX0_together_24 : decode cX0_together 24 = .ok (.aload_n 1, 1) := by decide +kernel
theorem dX0_together_25 : decode cX0_together 25 = .ok (.iload 5, 2) := by decide +kernel
theorem dX0_together_27 : decode cX0_together 27 = .ok (.laload, 1) := by decide +kernel
theorem dX0_together_28 : decode cX0_together 28 = .ok (.ladd, 1) := by decide +kernel
theorem dX0_together_29 : decode cX0_together 29 = .ok (.lstore_n 3, 1) := by decide +kernel
theorem dX0_together_30 : decode cX0_together 30 = .ok (.iinc 5 1, 3) := by decide +kernel
theorem dX0_together_33 : decode cX0_together 33 = .ok (.goto (-28), 3) := by decide +kernel
theorem dX0_together_36 : decode cX0_together 36 = .ok (.lload_n 3, 1) := by decide +kernel
theorem dX0_together_37 : decode cX0_together 37 = .ok (.lreturn, 1) := by decide +kernel
theorem dX1_init_0 : decode cX1_init 0 = .ok (.aload_n 0, 1) := by decide +kernel
theorem dX1_init_1 : decode cX1_init 1 = .ok (.invokespecial 3, 3) := by decide +kernel
theorem dX1_init_4 : decode cX1_init 4 = .ok (.aload_n 0, 1) := by decide +kernel
theorem dX1_init_5 : decode cX1_init 5 = .ok (.iconst 2, 1) := by decide +kernel
theorem dX1_init_6 : decode cX1_init 6 = .ok (.putfield 9, 3) := by decide +kernel
theorem dX1_init_9 : decode cX1_init 9 = .ok (.aload_n 0, 1) := by decide +kernel
theorem dX1_init_10 : decode cX1_init 10 = .ok (.bipush 14, 2) := by decide +kernel
theorem dX1_init_12 : decode cX1_init 12 = .ok (.newarray .int, 2) := by decide +kernel
theorem dX1_init_14 : decode cX1_init 14 = .ok (.putfield 15, 3) := by decide +kernel
theorem dX1_init_17 : decode cX1_init 17 = .ok (.aload_n 0, 1) := by decide +kernel
theorem dX1_init_18 : decode cX1_init 18 = .ok (.bipush 14, 2) := by decide +kernel
theorem dX1_init_20 : decode cX1_init 20 = .ok (.newarray .int, 2) := by decide +kernel
theorem dX1_init_22 : decode cX1_init 22 = .ok (.putfield 19, 3) := by decide +kernel
theorem dX1_init_25 : decode cX1_init 25 = .ok (.aload_n 0, 1) := by decide +kernel
theorem dX1_init_26 : decode cX1_init 26 = .ok (.bipush 14, 2) := by decide +kernel
theorem dX1_init_28 : decode cX1_init 28 = .ok (.newarray .int, 2) := by decide +kernel
theorem dX1_init_30 : decode cX1_init 30 = .ok (.putfield 22, 3) := by decide +kernel
theorem dX1_init_33 : decode cX1_init 33 = .ok (.aload_n 0, 1) := by decide +kernel
theorem dX1_init_34 : decode cX1_init 34 = .ok (.bipush 14, 2) := by decide +kernel
theorem dX1_init_36 : decode cX1_init 36 = .ok (.newarray .int, 2) := by decide +kernel
theorem dX1_init_38 : decode cX1_init 38 = .ok (.putfield 25, 3) := by decide +kernel
theorem dX1_init_41 : decode cX1_init 41 = .ok (.aload_n 0, 1) := by decide +kernel
theorem dX1_init_42 : decode cX1_init 42 = .ok (.bipush 14, 2) := by decide +kernel
theorem dX1_init_44 : decode cX1_init 44 = .ok (.newarray .int, 2) := by decide +kernel
theorem dX1_init_46 : decode cX1_init 46 = .ok (.putfield 28, 3) := by decide +kernel
theorem dX1_init_49 : decode cX1_init 49 = .ok (.aload_n 0, 1) := by decide +kernel
theorem dX1_init_50 : decode cX1_init 50 = .ok (.bipush 14, 2) := by decide +kernel
theorem dX1_init_52 : decode cX1_init 52 = .ok (.newarray .int, 2) := by decide +kernel
theorem dX1_init_54 : decode cX1_init 54 = .ok (.putfield 31, 3) := by decide +kernel
theorem dX1_init_57 : decode cX1_init 57 = .ok (.aload_n 0, 1) := by decide +kernel
theorem dX1_init_58 : decode cX1_init 58 = .ok (.bipush 13, 2) := by decide +kernel
theorem dX1_init_60 : decode cX1_init 60 = .ok (.newarray .int, 2) := by decide +kernel
theorem dX1_init_62 : decode cX1_init 62 = .ok (.putfield 34, 3) := by decide +kernel
theorem dX1_init_65 : decode cX1_init 65 = .ok (.aload_n 0, 1) := by decide +kernel
theorem dX1_init_66 : decode cX1_init 66 = .ok (.bipush 13, 2) := by decide +kernel
theorem dX1_init_68 : decode cX1_init 68 = .ok (.newarray .int, 2) := by decide +kernel
theorem dX1_init_70 : decode cX1_init 70 = .ok (.putfield 37, 3) := by decide +kernel
theorem dX1_init_73 : decode cX1_init 73 = .ok (.aload_n 0, 1) := by decide +kernel
theorem dX1_init_74 : decode cX1_init 74 = .ok (.getfield 37, 3) := by decide +kernel
theorem dX1_init_77 : decode cX1_init 77 = .ok (.iconst 0, 1) := by decide +kernel
theorem dX1_init_78 : decode cX1_init 78 = .ok (.iconst 1, 1) := by decide +kernel
theorem dX1_init_79 : decode cX1_init 79 = .ok (.iastore, 1) := by decide +kernel
theorem dX1_init_80 : decode cX1_init 80 = .ok (.return_, 1) := by decide +kernel
theorem dX1_isPlace_0 : decode cX1_isPlace 0 = .ok (.iload_n 1, 1) := by decide +kernel
theorem dX1_isPlace_1 : decode cX1_isPlace 1 = .ok (.iconst 0, 1) := by decide +kernel
theorem dX1_isPlace_2 : decode cX1_isPlace 2 = .ok (.aload_n 0, 1) := by decide +kernel
theorem dX1_isPlace_3 : decode cX1_isPlace 3 = .ok (.getfield 9, 3) := by decide +kernel
theorem dX1_isPlace_6 : decode cX1_isPlace 6 = .ok (.iconst 1, 1) := by decide +kernel
theorem dX1_isPlace_7 : decode cX1_isPlace 7 = .ok (.isub, 1) := by decide +kernel
theorem dX1_isPlace_8 : decode cX1_isPlace 8 = .ok (.invokestatic 40, 3) := by decide +kernel
theorem dX1_isPlace_11 : decode cX1_isPlace 11 = .ok (.ireturn, 1) := by decide +kernel
theorem dX1_isWay_0 : decode cX1_isWay 0 = .ok (.iload_n 1, 1) := by decide +kernel
theorem dX1_isWay_1 : decode cX1_isWay 1 = .ok (.iconst 0, 1) := by decide +kernel
theorem dX1_isWay_2 : decode cX1_isWay 2 = .ok (.aload_n 0, 1) := by decide +kernel
theorem dX1_isWay_3 : decode cX1_isWay 3 = .ok (.getfield 44, 3) := by decide +kernel
theorem dX1_isWay_6 : decode cX1_isWay 6 = .ok (.iconst 1, 1) := by decide +kernel
theorem dX1_isWay_7 : decode cX1_isWay 7 = .ok (.isub, 1) := by decide +kernel
theorem dX1_isWay_8 : decode cX1_isWay 8 = .ok (.invokestatic 40, 3) := by decide +kernel
theorem dX1_isWay_11 : decode cX1_isWay 11 = .ok (.ireturn, 1) := by decide +kernel
theorem dX1_isThingOrBase_0 : decode cX1_isThingOrBase 0 = .ok (.iload_n 1, 1) := by decide +kernel
theorem dX1_isThingOrBase_1 : decode cX1_isThingOrBase 1 = .ok (.iconst (-1), 1) := by decide +kernel
theorem dX1_isThingOrBase_2 : decode cX1_isThingOrBase 2 = .ok (.aload_n 0, 1) := by decide +kernel
theorem dX1_isThingOrBase_3 : decode cX1_isThingOrBase 3 = .ok (.getfield 47, 3) := by decide +kernel
theorem dX1_isThingOrBase_6 : decode cX1_isThingOrBase 6 = .ok (.iconst 1, 1) := by decide +kernel
theorem dX1_isThingOrBase_7 : decode cX1_isThingOrBase 7 = .ok (.isub, 1) := by decide +kernel
theorem dX1_isThingOrBase_8 : decode cX1_isThingOrBase 8 = .ok (.invokestatic 40, 3) := by decide +kernel
theorem dX1_isThingOrBase_11 : decode cX1_isThingOrBase 11 = .ok (.ireturn, 1) := by decide +kernel
theorem dX1_newWay_0 : decode cX1_newWay 0 = .ok (.aload_n 0, 1) := by decide +kernel
theorem dX1_newWay_1 : decode cX1_newWay 1 = .ok (.getfield 44, 3) := by decide +kernel
theorem dX1_newWay_4 : decode cX1_newWay 4 = .ok (.istore 6, 2) := by decide +kernel
theorem dX1_newWay_6 : decode cX1_newWay 6 = .ok (.aload_n 0, 1) := by decide +kernel
theorem dX1_newWay_7 : decode cX1_newWay 7 = .ok (.getfield 15, 3) := by decide +kernel
theorem dX1_newWay_10 : decode cX1_newWay 10 = .ok (.iload 6, 2) := by decide +kernel
theorem dX1_newWay_12 : decode cX1_newWay 12 = .ok (.iload_n 1, 1) := by decide +kernel
theorem dX1_newWay_13 : decode cX1_newWay 13 = .ok (.iastore, 1) := by decide +kernel
theorem dX1_newWay_14 : decode cX1_newWay 14 = .ok (.aload_n 0, 1) := by decide +kernel
theorem dX1_newWay_15 : decode cX1_newWay 15 = .ok (.getfield 19, 3) := by decide +kernel
theorem dX1_newWay_18 : decode cX1_newWay 18 = .ok (.iload 6, 2) := by decide +kernel
theorem dX1_newWay_20 : decode cX1_newWay 20 = .ok (.iload_n 2, 1) := by decide +kernel
theorem dX1_newWay_21 : decode cX1_newWay 21 = .ok (.iastore, 1) := by decide +kernel
theorem dX1_newWay_22 : decode cX1_newWay 22 = .ok (.aload_n 0, 1) := by decide +kernel
theorem dX1_newWay_23 : decode cX1_newWay 23 = .ok (.getfield 22, 3) := by decide +kernel
theorem dX1_newWay_26 : decode cX1_newWay 26 = .ok (.iload 6, 2) := by decide +kernel
theorem dX1_newWay_28 : decode cX1_newWay 28 = .ok (.iload_n 3, 1) := by decide +kernel
theorem dX1_newWay_29 : decode cX1_newWay 29 = .ok (.iastore, 1) := by decide +kernel
theorem dX1_newWay_30 : decode cX1_newWay 30 = .ok (.aload_n 0, 1) := by decide +kernel
theorem dX1_newWay_31 : decode cX1_newWay 31 = .ok (.getfield 25, 3) := by decide +kernel
theorem dX1_newWay_34 : decode cX1_newWay 34 = .ok (.iload 6, 2) := by decide +kernel
theorem dX1_newWay_36 : decode cX1_newWay 36 = .ok (.iload 4, 2) := by decide +kernel
theorem dX1_newWay_38 : decode cX1_newWay 38 = .ok (.iastore, 1) := by decide +kernel
theorem dX1_newWay_39 : decode cX1_newWay 39 = .ok (.aload_n 0, 1) := by decide +kernel
theorem dX1_newWay_40 : decode cX1_newWay 40 = .ok (.getfield 28, 3) := by decide +kernel
theorem dX1_newWay_43 : decode cX1_newWay 43 = .ok (.iload 6, 2) := by decide +kernel
theorem dX1_newWay_45 : decode cX1_newWay 45 = .ok (.iload 5, 2) := by decide +kernel
theorem dX1_newWay_47 : decode cX1_newWay 47 = .ok (.iastore, 1) := by decide +kernel
theorem dX1_newWay_48 : decode cX1_newWay 48 = .ok (.aload_n 0, 1) := by decide +kernel
theorem dX1_newWay_49 : decode cX1_newWay 49 = .ok (.getfield 31, 3) := by decide +kernel
theorem dX1_newWay_52 : decode cX1_newWay 52 = .ok (.iload 6, 2) := by decide +kernel
theorem dX1_newWay_54 : decode cX1_newWay 54 = .ok (.iconst 0, 1) := by decide +kernel
theorem dX1_newWay_55 : decode cX1_newWay 55 = .ok (.iastore, 1) := by decide +kernel
theorem dX1_newWay_56 : decode cX1_newWay 56 = .ok (.aload_n 0, 1) := by decide +kernel
theorem dX1_newWay_57 : decode cX1_newWay 57 = .ok (.dup, 1) := by decide +kernel
theorem dX1_newWay_58 : decode cX1_newWay 58 = .ok (.getfield 44, 3) := by decide +kernel
theorem dX1_newWay_61 : decode cX1_newWay 61 = .ok (.iconst 1, 1) := by decide +kernel
theorem dX1_newWay_62 : decode cX1_newWay 62 = .ok (.iadd, 1) := by decide +kernel
theorem dX1_newWay_63 : decode cX1_newWay 63 = .ok (.putfield 44, 3) := by decide +kernel
theorem dX1_newWay_66 : decode cX1_newWay 66 = .ok (.iload 6, 2) := by decide +kernel
theorem dX1_newWay_68 : decode cX1_newWay 68 = .ok (.ireturn, 1) := by decide +kernel
theorem dX1_newThing_0 : decode cX1_newThing 0 = .ok (.aload_n 0, 1) := by decide +kernel
theorem dX1_newThing_1 : decode cX1_newThing 1 = .ok (.dup, 1) := by decide +kernel
theorem dX1_newThing_2 : decode cX1_newThing 2 = .ok (.getfield 47, 3) := by decide +kernel
theorem dX1_newThing_5 : decode cX1_newThing 5 = .ok (.iconst 1, 1) := by decide +kernel
theorem dX1_newThing_6 : decode cX1_newThing 6 = .ok (.iadd, 1) := by decide +kernel
theorem dX1_newThing_7 : decode cX1_newThing 7 = .ok (.putfield 47, 3) := by decide +kernel
theorem dX1_newThing_10 : decode cX1_newThing 10 = .ok (.aload_n 0, 1) := by decide +kernel
theorem dX1_newThing_11 : decode cX1_newThing 11 = .ok (.getfield 34, 3) := by decide +kernel
theorem dX1_newThing_14 : decode cX1_newThing 14 = .ok (.aload_n 0, 1) := by decide +kernel
theorem dX1_newThing_15 : decode cX1_newThing 15 = .ok (.getfield 47, 3) := by decide +kernel
theorem dX1_newThing_18 : decode cX1_newThing 18 = .ok (.iload_n 1, 1) := by decide +kernel
theorem dX1_newThing_19 : decode cX1_newThing 19 = .ok (.iastore, 1) := by decide +kernel
theorem dX1_newThing_20 : decode cX1_newThing 20 = .ok (.aload_n 0, 1) := by decide +kernel
theorem dX1_newThing_21 : decode cX1_newThing 21 = .ok (.getfield 37, 3) := by decide +kernel
theorem dX1_newThing_24 : decode cX1_newThing 24 = .ok (.aload_n 0, 1) := by decide +kernel
theorem dX1_newThing_25 : decode cX1_newThing 25 = .ok (.getfield 47, 3) := by decide +kernel
theorem dX1_newThing_28 : decode cX1_newThing 28 = .ok (.iload_n 2, 1) := by decide +kernel
theorem dX1_newThing_29 : decode cX1_newThing 29 = .ok (.iastore, 1) := by decide +kernel
theorem dX1_newThing_30 : decode cX1_newThing 30 = .ok (.aload_n 0, 1) := by decide +kernel
theorem dX1_newThing_31 : decode cX1_newThing 31 = .ok (.getfield 47, 3) := by decide +kernel
theorem dX1_newThing_34 : decode cX1_newThing 34 = .ok (.iconst 1, 1) := by decide +kernel
theorem dX1_newThing_35 : decode cX1_newThing 35 = .ok (.isub, 1) := by decide +kernel
theorem dX1_newThing_36 : decode cX1_newThing 36 = .ok (.ireturn, 1) := by decide +kernel
theorem dX1_bringsOf_0 : decode cX1_bringsOf 0 = .ok (.aload_n 0, 1) := by decide +kernel
theorem dX1_bringsOf_1 : decode cX1_bringsOf 1 = .ok (.getfield 15, 3) := by decide +kernel
theorem dX1_bringsOf_4 : decode cX1_bringsOf 4 = .ok (.iload_n 1, 1) := by decide +kernel
theorem dX1_bringsOf_5 : decode cX1_bringsOf 5 = .ok (.iaload, 1) := by decide +kernel
theorem dX1_bringsOf_6 : decode cX1_bringsOf 6 = .ok (.aload_n 0, 1) := by decide +kernel
theorem dX1_bringsOf_7 : decode cX1_bringsOf 7 = .ok (.getfield 25, 3) := by decide +kernel
theorem dX1_bringsOf_10 : decode cX1_bringsOf 10 = .ok (.iload_n 1, 1) := by decide +kernel
theorem dX1_bringsOf_11 : decode cX1_bringsOf 11 = .ok (.iaload, 1) := by decide +kernel
theorem dX1_bringsOf_12 : decode cX1_bringsOf 12 = .ok (.aload_n 0, 1) := by decide +kernel
theorem dX1_bringsOf_13 : decode cX1_bringsOf 13 = .ok (.getfield 50, 3) := by decide +kernel
theorem dX1_bringsOf_16 : decode cX1_bringsOf 16 = .ok (.invokestatic 53, 3) := by decide +kernel
theorem dX1_bringsOf_19 : decode cX1_bringsOf 19 = .ok (.ireturn, 1) := by decide +kernel
theorem dX1_lastsOf_0 : decode cX1_lastsOf 0 = .ok (.aload_n 0, 1) := by decide +kernel
theorem dX1_lastsOf_1 : decode cX1_lastsOf 1 = .ok (.getfield 15, 3) := by decide +kernel
theorem dX1_lastsOf_4 : decode cX1_lastsOf 4 = .ok (.iload_n 1, 1) := by decide +kernel
theorem dX1_lastsOf_5 : decode cX1_lastsOf 5 = .ok (.iaload, 1) := by decide +kernel
theorem dX1_lastsOf_6 : decode cX1_lastsOf 6 = .ok (.aload_n 0, 1) := by decide +kernel
theorem dX1_lastsOf_7 : decode cX1_lastsOf 7 = .ok (.getfield 28, 3) := by decide +kernel
theorem dX1_lastsOf_10 : decode cX1_lastsOf 10 = .ok (.iload_n 1, 1) := by decide +kernel
theorem dX1_lastsOf_11 : decode cX1_lastsOf 11 = .ok (.iaload, 1) := by decide +kernel
theorem dX1_lastsOf_12 : decode cX1_lastsOf 12 = .ok (.aload_n 0, 1) := by decide +kernel
theorem dX1_lastsOf_13 : decode cX1_lastsOf 13 = .ok (.getfield 50, 3) := by decide +kernel
theorem dX1_lastsOf_16 : decode cX1_lastsOf 16 = .ok (.invokestatic 57, 3) := by decide +kernel
theorem dX1_lastsOf_19 : decode cX1_lastsOf 19 = .ok (.ireturn, 1) := by decide +kernel
theorem dX1_shutWays_0 : decode cX1_shutWays 0 = .ok (.iconst 0, 1) := by decide +kernel
theorem dX1_shutWays_1 : decode cX1_shutWays 1 = .ok (.istore_n 1, 1) := by decide +kernel
theorem dX1_shutWays_2 : decode cX1_shutWays 2 = .ok (.iconst 0, 1) := by decide +kernel
theorem dX1_shutWays_3 : decode cX1_shutWays 3 = .ok (.istore_n 2, 1) := by decide +kernel
theorem dX1_shutWays_4 : decode cX1_shutWays 4 = .ok (.iload_n 2, 1) := by decide +kernel
theorem dX1_shutWays_5 : decode cX1_shutWays 5 = .ok (.aload_n 0, 1) := by decide +kernel
theorem dX1_shutWays_6 : decode cX1_shutWays 6 = .ok (.getfield 44, 3) := by decide +kernel
theorem dX1_shutWays_9 : decode cX1_shutWays 9 = .ok (.if_icmp .ge 18, 3) := by decide +kernel
theorem dX1_shutWays_12 : decode cX1_shutWays 12 = .ok (.iload_n 1, 1) := by decide +kernel
theorem dX1_shutWays_13 : decode cX1_shutWays 13 = .ok (.aload_n 0, 1) := by decide +kernel
theorem dX1_shutWays_14 : decode cX1_shutWays 14 = .ok (.getfield 31, 3) := by decide +kernel
theorem dX1_shutWays_17 : decode cX1_shutWays 17 = .ok (.iload_n 2, 1) := by decide +kernel
theorem dX1_shutWays_18 : decode cX1_shutWays 18 = .ok (.iaload, 1) := by decide +kernel
theorem dX1_shutWays_19 : decode cX1_shutWays 19 = .ok (.iadd, 1) := by decide +kernel
theorem dX1_shutWays_20 : decode cX1_shutWays 20 = .ok (.istore_n 1, 1) := by decide +kernel
theorem dX1_shutWays_21 : decode cX1_shutWays 21 = .ok (.iinc 2 1, 3) := by decide +kernel
theorem dX1_shutWays_24 : decode cX1_shutWays 24 = .ok (.goto (-20), 3) := by decide +kernel
theorem dX1_shutWays_27 : decode cX1_shutWays 27 = .ok (.iload_n 1, 1) := by decide +kernel
theorem dX1_shutWays_28 : decode cX1_shutWays 28 = .ok (.ireturn, 1) := by decide +kernel
theorem dX1_isOpenSet_0 : decode cX1_isOpenSet 0 = .ok (.iload_n 1, 1) := by decide +kernel
theorem dX1_isOpenSet_1 : decode cX1_isOpenSet 1 = .ok (.ifCond .le 13, 3) := by decide +kernel
theorem dX1_isOpenSet_4 : decode cX1_isOpenSet 4 = .ok (.iload_n 1, 1) := by decide +kernel
theorem dX1_isOpenSet_5 : decode cX1_isOpenSet 5 = .ok (.iconst 1, 1) := by decide +kernel
theorem dX1_isOpenSet_6 : decode cX1_isOpenSet 6 = .ok (.aload_n 0, 1) := by decide +kernel
theorem dX1_isOpenSet_7 : decode cX1_isOpenSet 7 = .ok (.getfield 44, 3) := by decide +kernel
theorem dX1_isOpenSet_10 : decode cX1_isOpenSet 10 = .ok (.ishl, 1) := by decide +kernel
theorem dX1_isOpenSet_11 : decode cX1_isOpenSet 11 = .ok (.if_icmp .lt 5, 3) := by decide +kernel
theorem dX1_isOpenSet_14 : decode cX1_isOpenSet 14 = .ok (.iconst 0, 1) := by decide +kernel
theorem dX1_isOpenSet_15 : decode cX1_isOpenSet 15 = .ok (.ireturn, 1) := by decide +kernel
theorem dX1_isOpenSet_16 : decode cX1_isOpenSet 16 = .ok (.iconst 0, 1) := by decide +kernel
theorem dX1_isOpenSet_17 : decode cX1_isOpenSet 17 = .ok (.istore_n 2, 1) := by decide +kernel
theorem dX1_isOpenSet_18 : decode cX1_isOpenSet 18 = .ok (.iload_n 2, 1) := by decide +kernel
theorem dX1_isOpenSet_19 : decode cX1_isOpenSet 19 = .ok (.aload_n 0, 1) := by decide +kernel
theorem dX1_isOpenSet_20 : decode cX1_isOpenSet 20 = .ok (.getfield 44, 3) := by decide +kernel
theorem dX1_isOpenSet_23 : decode cX1_isOpenSet 23 = .ok (.if_icmp .ge 28, 3) := by decide +kernel
theorem dX1_isOpenSet_26 : decode cX1_isOpenSet 26 = .ok (.iload_n 1, 1) := by decide +kernel
theorem dX1_isOpenSet_27 : decode cX1_isOpenSet 27 = .ok (.iconst 1, 1) := by decide +kernel
theorem dX1_isOpenSet_28 : decode cX1_isOpenSet 28 = .ok (.iload_n 2, 1) := by decide +kernel
theorem dX1_isOpenSet_29 : decode cX1_isOpenSet 29 = .ok (.ishl, 1) := by decide +kernel
theorem dX1_isOpenSet_30 : decode cX1_isOpenSet 30 = .ok (.iand, 1) := by decide +kernel
theorem dX1_isOpenSet_31 : decode cX1_isOpenSet 31 = .ok (.ifCond .eq 14, 3) := by decide +kernel
theorem dX1_isOpenSet_34 : decode cX1_isOpenSet 34 = .ok (.aload_n 0, 1) := by decide +kernel
theorem dX1_isOpenSet_35 : decode cX1_isOpenSet 35 = .ok (.getfield 31, 3) := by decide +kernel
theorem dX1_isOpenSet_38 : decode cX1_isOpenSet 38 = .ok (.iload_n 2, 1) := by decide +kernel
theorem dX1_isOpenSet_39 : decode cX1_isOpenSet 39 = .ok (.iaload, 1) := by decide +kernel
theorem dX1_isOpenSet_40 : decode cX1_isOpenSet 40 = .ok (.ifCond .eq 5, 3) := by decide +kernel
theorem dX1_isOpenSet_43 : decode cX1_isOpenSet 43 = .ok (.iconst 0, 1) := by decide +kernel
theorem dX1_isOpenSet_44 : decode cX1_isOpenSet 44 = .ok (.ireturn, 1) := by decide +kernel
theorem dX1_isOpenSet_45 : decode cX1_isOpenSet 45 = .ok (.iinc 2 1, 3) := by decide +kernel
theorem dX1_isOpenSet_48 : decode cX1_isOpenSet 48 = .ok (.goto (-30), 3) := by decide +kernel
theorem dX1_isOpenSet_51 : decode cX1_isOpenSet 51 = .ok (.iconst 1, 1) := by decide +kernel
theorem dX1_isOpenSet_52 : decode cX1_isOpenSet 52 = .ok (.ireturn, 1) := by decide +kernel
theorem dX1_isRing_0 : decode cX1_isRing 0 = .ok (.aload_n 0, 1) := by decide +kernel
theorem dX1_isRing_1 : decode cX1_isRing 1 = .ok (.iload_n 1, 1) := by decide +kernel
theorem dX1_isRing_2 : decode cX1_isRing 2 = .ok (.iconst (-1), 1) := by decide +kernel
theorem dX1_isRing_3 : decode cX1_isRing 3 = .ok (.invokevirtual 60, 3) := by decide +kernel
theorem dX1_isRing_6 : decode cX1_isRing 6 = .ok (.istore_n 2, 1) := by decide +kernel
theorem dX1_isRing_7 : decode cX1_isRing 7 = .ok (.iload_n 2, 1) := by decide +kernel
theorem dX1_isRing_8 : decode cX1_isRing 8 = .ok (.iconst (-1), 1) := by decide +kernel
theorem dX1_isRing_9 : decode cX1_isRing 9 = .ok (.if_icmp .ne 5, 3) := by decide +kernel
theorem dX1_isRing_12 : decode cX1_isRing 12 = .ok (.iconst 0, 1) := by decide +kernel
theorem dX1_isRing_13 : decode cX1_isRing 13 = .ok (.ireturn, 1) := by decide +kernel
theorem dX1_isRing_14 : decode cX1_isRing 14 = .ok (.aload_n 0, 1) := by decide +kernel
theorem dX1_isRing_15 : decode cX1_isRing 15 = .ok (.getfield 19, 3) := by decide +kernel
theorem dX1_isRing_18 : decode cX1_isRing 18 = .ok (.iload_n 2, 1) := by decide +kernel
theorem dX1_isRing_19 : decode cX1_isRing 19 = .ok (.iaload, 1) := by decide +kernel
theorem dX1_isRing_20 : decode cX1_isRing 20 = .ok (.istore_n 3, 1) := by decide +kernel
theorem dX1_isRing_21 : decode cX1_isRing 21 = .ok (.iload_n 3, 1) := by decide +kernel
theorem dX1_isRing_22 : decode cX1_isRing 22 = .ok (.istore 4, 2) := by decide +kernel
theorem dX1_isRing_24 : decode cX1_isRing 24 = .ok (.iconst 1, 1) := by decide +kernel
theorem dX1_isRing_25 : decode cX1_isRing 25 = .ok (.istore 5, 2) := by decide +kernel
theorem dX1_isRing_27 : decode cX1_isRing 27 = .ok (.iload 5, 2) := by decide +kernel
theorem dX1_isRing_29 : decode cX1_isRing 29 = .ok (.bipush 6, 2) := by decide +kernel
theorem dX1_isRing_31 : decode cX1_isRing 31 = .ok (.if_icmp .gt 56, 3) := by decide +kernel
theorem dX1_isRing_34 : decode cX1_isRing 34 = .ok (.aload_n 0, 1) := by decide +kernel
theorem dX1_isRing_35 : decode cX1_isRing 35 = .ok (.iload_n 1, 1) := by decide +kernel
theorem dX1_isRing_36 : decode cX1_isRing 36 = .ok (.iload 4, 2) := by decide +kernel
theorem dX1_isRing_38 : decode cX1_isRing 38 = .ok (.invokevirtual 60, 3) := by decide +kernel
theorem dX1_isRing_41 : decode cX1_isRing 41 = .ok (.istore 6, 2) := by decide +kernel
theorem dX1_isRing_43 : decode cX1_isRing 43 = .ok (.iload 6, 2) := by decide +kernel
theorem dX1_isRing_45 : decode cX1_isRing 45 = .ok (.iconst (-1), 1) := by decide +kernel
theorem dX1_isRing_46 : decode cX1_isRing 46 = .ok (.if_icmp .ne 5, 3) := by decide +kernel
theorem dX1_isRing_49 : decode cX1_isRing 49 = .ok (.iconst 0, 1) := by decide +kernel
theorem dX1_isRing_50 : decode cX1_isRing 50 = .ok (.ireturn, 1) := by decide +kernel
theorem dX1_isRing_51 : decode cX1_isRing 51 = .ok (.aload_n 0, 1) := by decide +kernel
theorem dX1_isRing_52 : decode cX1_isRing 52 = .ok (.getfield 22, 3) := by decide +kernel
theorem dX1_isRing_55 : decode cX1_isRing 55 = .ok (.iload 6, 2) := by decide +kernel
theorem dX1_isRing_57 : decode cX1_isRing 57 = .ok (.iaload, 1) := by decide +kernel
theorem dX1_isRing_58 : decode cX1_isRing 58 = .ok (.istore 4, 2) := by decide +kernel
theorem dX1_isRing_60 : decode cX1_isRing 60 = .ok (.iload 4, 2) := by decide +kernel
theorem dX1_isRing_62 : decode cX1_isRing 62 = .ok (.iload_n 3, 1) := by decide +kernel
theorem dX1_isRing_63 : decode cX1_isRing 63 = .ok (.if_icmp .ne 18, 3) := by decide +kernel
theorem dX1_isRing_66 : decode cX1_isRing 66 = .ok (.iload 5, 2) := by decide +kernel
theorem dX1_isRing_68 : decode cX1_isRing 68 = .ok (.iload_n 1, 1) := by decide +kernel
theorem dX1_isRing_69 : decode cX1_isRing 69 = .ok (.invokestatic 64, 3) := by decide +kernel
theorem dX1_isRing_72 : decode cX1_isRing 72 = .ok (.if_icmp .ne 7, 3) := by decide +kernel
theorem dX1_isRing_75 : decode cX1_isRing 75 = .ok (.iconst 1, 1) := by decide +kernel
theorem dX1_isRing_76 : decode cX1_isRing 76 = .ok (.goto 4, 3) := by decide +kernel
theorem dX1_isRing_79 : decode cX1_isRing 79 = .ok (.iconst 0, 1) := by decide +kernel
theorem dX1_isRing_80 : decode cX1_isRing 80 = .ok (.ireturn, 1) := by decide +kernel
theorem dX1_isRing_81 : decode cX1_isRing 81 = .ok (.iinc 5 1, 3) := by decide +kernel
theorem dX1_isRing_84 : decode cX1_isRing 84 = .ok (.goto (-57), 3) := by decide +kernel
theorem dX1_isRing_87 : decode cX1_isRing 87 = .ok (.iconst 0, 1) := by decide +kernel
theorem dX1_isRing_88 : decode cX1_isRing 88 = .ok (.ireturn, 1) := by decide +kernel
theorem dX1_firstFrom_0 : decode cX1_firstFrom 0 = .ok (.iconst 0, 1) := by decide +kernel
theorem dX1_firstFrom_1 : decode cX1_firstFrom 1 = .ok (.istore_n 3, 1) := by decide +kernel
theorem dX1_firstFrom_2 : decode cX1_firstFrom 2 = .ok (.iload_n 3, 1) := by decide +kernel
theorem dX1_firstFrom_3 : decode cX1_firstFrom 3 = .ok (.aload_n 0, 1) := by decide +kernel
theorem dX1_firstFrom_4 : decode cX1_firstFrom 4 = .ok (.getfield 44, 3) := by decide +kernel
theorem dX1_firstFrom_7 : decode cX1_firstFrom 7 = .ok (.if_icmp .ge 34, 3) := by decide +kernel
theorem dX1_firstFrom_10 : decode cX1_firstFrom 10 = .ok (.iload_n 1, 1) := by decide +kernel
theorem dX1_firstFrom_11 : decode cX1_firstFrom 11 = .ok (.iconst 1, 1) := by decide +kernel
theorem dX1_firstFrom_12 : decode cX1_firstFrom 12 = .ok (.iload_n 3, 1) := by decide +kernel
theorem dX1_firstFrom_13 : decode cX1_firstFrom 13 = .ok (.ishl, 1) := by decide +kernel
theorem dX1_firstFrom_14 : decode cX1_firstFrom 14 = .ok (.iand, 1) := by decide +kernel
theorem dX1_firstFrom_15 : decode cX1_firstFrom 15 = .ok (.ifCond .eq 20, 3) := by decide +kernel
theorem dX1_firstFrom_18 : decode cX1_firstFrom 18 = .ok (.iload_n 2, 1) := by decide +kernel
theorem dX1_firstFrom_19 : decode cX1_firstFrom 19 = .ok (.iconst (-1), 1) := by decide +kernel
theorem dX1_firstFrom_20 : decode cX1_firstFrom 20 = .ok (.if_icmp .eq 13, 3) := by decide +kernel
theorem dX1_firstFrom_23 : decode cX1_firstFrom 23 = .ok (.aload_n 0, 1) := by decide +kernel
theorem dX1_firstFrom_24 : decode cX1_firstFrom 24 = .ok (.getfield 19, 3) := by decide +kernel
theorem dX1_firstFrom_27 : decode cX1_firstFrom 27 = .ok (.iload_n 3, 1) := by decide +kernel
theorem dX1_firstFrom_28 : decode cX1_firstFrom 28 = .ok (.iaload, 1) := by decide +kernel
theorem dX1_firstFrom_29 : decode cX1_firstFrom 29 = .ok (.iload_n 2, 1) := by decide +kernel
theorem dX1_firstFrom_30 : decode cX1_firstFrom 30 = .ok (.if_icmp .ne 5, 3) := by decide +kernel
theorem dX1_firstFrom_33 : decode cX1_firstFrom 33 = .ok (.iload_n 3, 1) := by decide +kernel
theorem dX1_firstFrom_34 : decode cX1_firstFrom 34 = .ok (.ireturn, 1) := by decide +kernel
theorem dX1_firstFrom_35 : decode cX1_firstFrom 35 = .ok (.iinc 3 1, 3) := by decide +kernel
theorem dX1_firstFrom_38 : decode cX1_firstFrom 38 = .ok (.goto (-36), 3) := by decide +kernel
theorem dX1_firstFrom_41 : decode cX1_firstFrom 41 = .ok (.iconst (-1), 1) := by decide +kernel
theorem dX1_firstFrom_42 : decode cX1_firstFrom 42 = .ok (.ireturn, 1) := by decide +kernel
theorem dX1_bringTogether_0 : decode cX1_bringTogether 0 = .ok (.lconst 0, 1) := by decide +kernel
theorem dX1_bringTogether_1 : decode cX1_bringTogether 1 = .ok (.lstore_n 2, 1) := by decide +kernel
theorem dX1_bringTogether_2 : decode cX1_bringTogether 2 = .ok (.iconst 0, 1) := by decide +kernel
theorem dX1_bringTogether_3 : decode cX1_bringTogether 3 = .ok (.istore 4, 2) := by decide +kernel
theorem dX1_bringTogether_5 : decode cX1_bringTogether 5 = .ok (.iload 4, 2) := by decide +kernel
theorem dX1_bringTogether_7 : decode cX1_bringTogether 7 = .ok (.aload_n 0, 1) := by decide +kernel
theorem dX1_bringTogether_8 : decode cX1_bringTogether 8 = .ok (.getfield 44, 3) := by decide +kernel
theorem dX1_bringTogether_11 : decode cX1_bringTogether 11 = .ok (.if_icmp .ge 28, 3) := by decide +kernel
theorem dX1_bringTogether_14 : decode cX1_bringTogether 14 = .ok (.iload_n 1, 1) := by decide +kernel
theorem dX1_bringTogether_15 : decode cX1_bringTogether 15 = .ok (.iconst 1, 1) := by decide +kernel
theorem dX1_bringTogether_16 : decode cX1_bringTogether 16 = .ok (.iload 4, 2) := by decide +kernel
theorem dX1_bringTogether_18 : decode cX1_bringTogether 18 = .ok (.ishl, 1) := by decide +kernel
theorem dX1_bringTogether_19 : decode cX1_bringTogether 19 = .ok (.iand, 1) := by decide +kernel
theorem dX1_bringTogether_20 : decode cX1_bringTogether 20 = .ok (.ifCond .eq 13, 3) := by decide +kernel
theorem dX1_bringTogether_23 : decode cX1_bringTogether 23 = .ok (.lload_n 2, 1) := by decide +kernel
theorem dX1_bringTogether_24 : decode cX1_bringTogether 24 = .ok (.aload_n 0, 1) := by decide +kernel
theorem dX1_bringTogether_25 : decode cX1_bringTogether 25 = .ok (.iload 4, 2) := by decide +kernel
theorem dX1_bringTogether_27 : decode cX1_bringTogether 27 = .ok (.invokevirtual 70, 3) := by decide +kernel
theorem dX1_bringTogether_30 : decode cX1_bringTogether 30 = .ok (.i2l, 1) := by decide +kernel
theorem dX1_bringTogether_31 : decode cX1_bringTogether 31 = .ok (.ladd, 1) := by decide +kernel
theorem dX1_bringTogether_32 : decode cX1_bringTogether 32 = .ok (.lstore_n 2, 1) := by decide +kernel
theorem dX1_bringTogether_33 : decode cX1_bringTogether 33 = .ok (.iinc 4 1, 3) := by decide +kernel
theorem dX1_bringTogether_36 : decode cX1_bringTogether 36 = .ok (.goto (-31), 3) := by decide +kernel
theorem dX1_bringTogether_39 : decode cX1_bringTogether 39 = .ok (.lload_n 2, 1) := by decide +kernel
theorem dX1_bringTogether_40 : decode cX1_bringTogether 40 = .ok (.lreturn, 1) := by decide +kernel
theorem dX1_lastTogether_0 : decode cX1_lastTogether 0 = .ok (.lconst 0, 1) := by decide +kernel
theorem dX1_lastTogether_1 : decode cX1_lastTogether 1 = .ok (.lstore_n 2, 1) := by decide +kernel
theorem dX1_lastTogether_2 : decode cX1_lastTogether 2 = .ok (.iconst 0, 1) := by decide +kernel
theorem dX1_lastTogether_3 : decode cX1_lastTogether 3 = .ok (.istore 4, 2) := by decide +kernel
theorem dX1_lastTogether_5 : decode cX1_lastTogether 5 = .ok (.iload 4, 2) := by decide +kernel
theorem dX1_lastTogether_7 : decode cX1_lastTogether 7 = .ok (.aload_n 0, 1) := by decide +kernel
theorem dX1_lastTogether_8 : decode cX1_lastTogether 8 = .ok (.getfield 44, 3) := by decide +kernel
theorem dX1_lastTogether_11 : decode cX1_lastTogether 11 = .ok (.if_icmp .ge 28, 3) := by decide +kernel
theorem dX1_lastTogether_14 : decode cX1_lastTogether 14 = .ok (.iload_n 1, 1) := by decide +kernel
theorem dX1_lastTogether_15 : decode cX1_lastTogether 15 = .ok (.iconst 1, 1) := by decide +kernel
theorem dX1_lastTogether_16 : decode cX1_lastTogether 16 = .ok (.iload 4, 2) := by decide +kernel
theorem dX1_lastTogether_18 : decode cX1_lastTogether 18 = .ok (.ishl, 1) := by decide +kernel
theorem dX1_lastTogether_19 : decode cX1_lastTogether 19 = .ok (.iand, 1) := by decide +kernel
theorem dX1_lastTogether_20 : decode cX1_lastTogether 20 = .ok (.ifCond .eq 13, 3) := by decide +kernel
theorem dX1_lastTogether_23 : decode cX1_lastTogether 23 = .ok (.lload_n 2, 1) := by decide +kernel
theorem dX1_lastTogether_24 : decode cX1_lastTogether 24 = .ok (.aload_n 0, 1) := by decide +kernel
theorem dX1_lastTogether_25 : decode cX1_lastTogether 25 = .ok (.iload 4, 2) := by decide +kernel
theorem dX1_lastTogether_27 : decode cX1_lastTogether 27 = .ok (.invokevirtual 73, 3) := by decide +kernel
theorem dX1_lastTogether_30 : decode cX1_lastTogether 30 = .ok (.i2l, 1) := by decide +kernel
theorem dX1_lastTogether_31 : decode cX1_lastTogether 31 = .ok (.ladd, 1) := by decide +kernel
theorem dX1_lastTogether_32 : decode cX1_lastTogether 32 = .ok (.lstore_n 2, 1) := by decide +kernel
theorem dX1_lastTogether_33 : decode cX1_lastTogether 33 = .ok (.iinc 4 1, 3) := by decide +kernel
theorem dX1_lastTogether_36 : decode cX1_lastTogether 36 = .ok (.goto (-31), 3) := by decide +kernel
theorem dX1_lastTogether_39 : decode cX1_lastTogether 39 = .ok (.lload_n 2, 1) := by decide +kernel
theorem dX1_lastTogether_40 : decode cX1_lastTogether 40 = .ok (.lreturn, 1) := by decide +kernel
theorem dX1_gainTogether_0 : decode cX1_gainTogether 0 = .ok (.aload_n 0, 1) := by decide +kernel
theorem dX1_gainTogether_1 : decode cX1_gainTogether 1 = .ok (.aload_n 0, 1) := by decide +kernel
theorem dX1_gainTogether_2 : decode cX1_gainTogether 2 = .ok (.getfield 34, 3) := by decide +kernel
theorem dX1_gainTogether_5 : decode cX1_gainTogether 5 = .ok (.iload_n 1, 1) := by decide +kernel
theorem dX1_gainTogether_6 : decode cX1_gainTogether 6 = .ok (.invokevirtual 76, 3) := by decide +kernel
theorem dX1_gainTogether_9 : decode cX1_gainTogether 9 = .ok (.lreturn, 1) := by decide +kernel
theorem dX1_timeTogether_0 : decode cX1_timeTogether 0 = .ok (.aload_n 0, 1) := by decide +kernel
theorem dX1_timeTogether_1 : decode cX1_timeTogether 1 = .ok (.aload_n 0, 1) := by decide +kernel
theorem dX1_timeTogether_2 : decode cX1_timeTogether 2 = .ok (.getfield 37, 3) := by decide +kernel
theorem dX1_timeTogether_5 : decode cX1_timeTogether 5 = .ok (.iload_n 1, 1) := by decide +kernel
theorem dX1_timeTogether_6 : decode cX1_timeTogether 6 = .ok (.invokevirtual 76, 3) := by decide +kernel
theorem dX1_timeTogether_9 : decode cX1_timeTogether 9 = .ok (.lreturn, 1) := by decide +kernel
theorem dX1_sumWithBase_0 : decode cX1_sumWithBase 0 = .ok (.aload_n 1, 1) := by decide +kernel
theorem dX1_sumWithBase_1 : decode cX1_sumWithBase 1 = .ok (.iconst 0, 1) := by decide +kernel
theorem dX1_sumWithBase_2 : decode cX1_sumWithBase 2 = .ok (.iaload, 1) := by decide +kernel
theorem dX1_sumWithBase_3 : decode cX1_sumWithBase 3 = .ok (.i2l, 1) := by decide +kernel
theorem dX1_sumWithBase_4 : decode cX1_sumWithBase 4 = .ok (.lstore_n 3, 1) := by decide +kernel
theorem dX1_sumWithBase_5 : decode cX1_sumWithBase 5 = .ok (.iconst 0, 1) := by decide +kernel
theorem dX1_sumWithBase_6 : decode cX1_sumWithBase 6 = .ok (.istore 5, 2) := by decide +kernel
theorem dX1_sumWithBase_8 : decode cX1_sumWithBase 8 = .ok (.iload 5, 2) := by decide +kernel
theorem dX1_sumWithBase_10 : decode cX1_sumWithBase 10 = .ok (.aload_n 0, 1) := by decide +kernel
theorem dX1_sumWithBase_11 : decode cX1_sumWithBase 11 = .ok (.getfield 47, 3) := by decide +kernel
theorem dX1_sumWithBase_14 : decode cX1_sumWithBase 14 = .ok (.if_icmp .ge 28, 3) := by decide +kernel
theorem dX1_sumWithBase_17 : decode cX1_sumWithBase 17 = .ok (.iload_n 2, 1) := by decide +kernel
theorem dX1_sumWithBase_18 : decode cX1_sumWithBase 18 = .ok (.iconst 1, 1) := by decide +kernel
theorem dX1_sumWithBase_19 : decode cX1_sumWithBase 19 = .ok (.iload 5, 2) := by decide +kernel
theorem dX1_sumWithBase_21 : decode cX1_sumWithBase 21 = .ok (.ishl, 1) := by decide +kernel
theorem dX1_sumWithBase_22 : decode cX1_sumWithBase 22 = .ok (.iand, 1) := by decide +kernel
theorem dX1_sumWithBase_23 : decode cX1_sumWithBase 23 = .ok (.ifCond .eq 13, 3) := by decide +kernel
theorem dX1_sumWithBase_26 : decode cX1_sumWithBase 26 = .ok (.lload_n 3, 1) := by decide +kernel
theorem dX1_sumWithBase_27 : decode cX1_sumWithBase 27 = .ok (.aload_n 1, 1) := by decide +kernel
theorem dX1_sumWithBase_28 : decode cX1_sumWithBase 28 = .ok (.iload 5, 2) := by decide +kernel
theorem dX1_sumWithBase_30 : decode cX1_sumWithBase 30 = .ok (.iconst 1, 1) := by decide +kernel
theorem dX1_sumWithBase_31 : decode cX1_sumWithBase 31 = .ok (.iadd, 1) := by decide +kernel
theorem dX1_sumWithBase_32 : decode cX1_sumWithBase 32 = .ok (.iaload, 1) := by decide +kernel
theorem dX1_sumWithBase_33 : decode cX1_sumWithBase 33 = .ok (.i2l, 1) := by decide +kernel
theorem dX1_sumWithBase_34 : decode cX1_sumWithBase 34 = .ok (.ladd, 1) := by decide +kernel
theorem dX1_sumWithBase_35 : decode cX1_sumWithBase 35 = .ok (.lstore_n 3, 1) := by decide +kernel
theorem dX1_sumWithBase_36 : decode cX1_sumWithBase 36 = .ok (.iinc 5 1, 3) := by decide +kernel
theorem dX1_sumWithBase_39 : decode cX1_sumWithBase 39 = .ok (.goto (-31), 3) := by decide +kernel
theorem dX1_sumWithBase_42 : decode cX1_sumWithBase 42 = .ok (.lload_n 3, 1) := by decide +kernel
theorem dX1_sumWithBase_43 : decode cX1_sumWithBase 43 = .ok (.lreturn, 1) := by decide +kernel
theorem dX1_become_0 : decode cX1_become 0 = .ok (.aload_n 0, 1) := by decide +kernel
theorem dX1_become_1 : decode cX1_become 1 = .ok (.aload_n 1, 1) := by decide +kernel
theorem dX1_become_2 : decode cX1_become 2 = .ok (.getfield 9, 3) := by decide +kernel
theorem dX1_become_5 : decode cX1_become 5 = .ok (.putfield 9, 3) := by decide +kernel
theorem dX1_become_8 : decode cX1_become 8 = .ok (.aload_n 0, 1) := by decide +kernel
theorem dX1_become_9 : decode cX1_become 9 = .ok (.aload_n 1, 1) := by decide +kernel
theorem dX1_become_10 : decode cX1_become 10 = .ok (.getfield 50, 3) := by decide +kernel
theorem dX1_become_13 : decode cX1_become 13 = .ok (.putfield 50, 3) := by decide +kernel
theorem dX1_become_16 : decode cX1_become 16 = .ok (.aload_n 0, 1) := by decide +kernel
theorem dX1_become_17 : decode cX1_become 17 = .ok (.aload_n 1, 1) := by decide +kernel
theorem dX1_become_18 : decode cX1_become 18 = .ok (.getfield 44, 3) := by decide +kernel
theorem dX1_become_21 : decode cX1_become 21 = .ok (.putfield 44, 3) := by decide +kernel
theorem dX1_become_24 : decode cX1_become 24 = .ok (.aload_n 0, 1) := by decide +kernel
theorem dX1_become_25 : decode cX1_become 25 = .ok (.aload_n 1, 1) := by decide +kernel
theorem dX1_become_26 : decode cX1_become 26 = .ok (.getfield 47, 3) := by decide +kernel
theorem dX1_become_29 : decode cX1_become 29 = .ok (.putfield 47, 3) := by decide +kernel
theorem dX1_become_32 : decode cX1_become 32 = .ok (.aload_n 1, 1) := by decide +kernel
theorem dX1_become_33 : decode cX1_become 33 = .ok (.getfield 15, 3) := by decide +kernel
theorem dX1_become_36 : decode cX1_become 36 = .ok (.iconst 0, 1) := by decide +kernel
theorem dX1_become_37 : decode cX1_become 37 = .ok (.aload_n 0, 1) := by decide +kernel
theorem dX1_become_38 : decode cX1_become 38 = .ok (.getfield 15, 3) := by decide +kernel
theorem dX1_become_41 : decode cX1_become 41 = .ok (.iconst 0, 1) := by decide +kernel
theorem dX1_become_42 : decode cX1_become 42 = .ok (.bipush 14, 2) := by decide +kernel
theorem dX1_become_44 : decode cX1_become 44 = .ok (.invokestatic 80, 3) := by decide +kernel
theorem dX1_become_47 : decode cX1_become 47 = .ok (.aload_n 1, 1) := by decide +kernel
theorem dX1_become_48 : decode cX1_become 48 = .ok (.getfield 19, 3) := by decide +kernel
theorem dX1_become_51 : decode cX1_become 51 = .ok (.iconst 0, 1) := by decide +kernel
theorem dX1_become_52 : decode cX1_become 52 = .ok (.aload_n 0, 1) := by decide +kernel
theorem dX1_become_53 : decode cX1_become 53 = .ok (.getfield 19, 3) := by decide +kernel
theorem dX1_become_56 : decode cX1_become 56 = .ok (.iconst 0, 1) := by decide +kernel
theorem dX1_become_57 : decode cX1_become 57 = .ok (.bipush 14, 2) := by decide +kernel
theorem dX1_become_59 : decode cX1_become 59 = .ok (.invokestatic 80, 3) := by decide +kernel
theorem dX1_become_62 : decode cX1_become 62 = .ok (.aload_n 1, 1) := by decide +kernel
theorem dX1_become_63 : decode cX1_become 63 = .ok (.getfield 22, 3) := by decide +kernel
theorem dX1_become_66 : decode cX1_become 66 = .ok (.iconst 0, 1) := by decide +kernel
theorem dX1_become_67 : decode cX1_become 67 = .ok (.aload_n 0, 1) := by decide +kernel
theorem dX1_become_68 : decode cX1_become 68 = .ok (.getfield 22, 3) := by decide +kernel
theorem dX1_become_71 : decode cX1_become 71 = .ok (.iconst 0, 1) := by decide +kernel
theorem dX1_become_72 : decode cX1_become 72 = .ok (.bipush 14, 2) := by decide +kernel
theorem dX1_become_74 : decode cX1_become 74 = .ok (.invokestatic 80, 3) := by decide +kernel
theorem dX1_become_77 : decode cX1_become 77 = .ok (.aload_n 1, 1) := by decide +kernel
theorem dX1_become_78 : decode cX1_become 78 = .ok (.getfield 25, 3) := by decide +kernel
theorem dX1_become_81 : decode cX1_become 81 = .ok (.iconst 0, 1) := by decide +kernel
theorem dX1_become_82 : decode cX1_become 82 = .ok (.aload_n 0, 1) := by decide +kernel
theorem dX1_become_83 : decode cX1_become 83 = .ok (.getfield 25, 3) := by decide +kernel
theorem dX1_become_86 : decode cX1_become 86 = .ok (.iconst 0, 1) := by decide +kernel
theorem dX1_become_87 : decode cX1_become 87 = .ok (.bipush 14, 2) := by decide +kernel
theorem dX1_become_89 : decode cX1_become 89 = .ok (.invokestatic 80, 3) := by decide +kernel
theorem dX1_become_92 : decode cX1_become 92 = .ok (.aload_n 1, 1) := by decide +kernel
theorem dX1_become_93 : decode cX1_become 93 = .ok (.getfield 28, 3) := by decide +kernel
theorem dX1_become_96 : decode cX1_become 96 = .ok (.iconst 0, 1) := by decide +kernel
theorem dX1_become_97 : decode cX1_become 97 = .ok (.aload_n 0, 1) := by decide +kernel
theorem dX1_become_98 : decode cX1_become 98 = .ok (.getfield 28, 3) := by decide +kernel
theorem dX1_become_101 : decode cX1_become 101 = .ok (.iconst 0, 1) := by decide +kernel
theorem dX1_become_102 : decode cX1_become 102 = .ok (.bipush 14, 2) := by decide +kernel
theorem dX1_become_104 : decode cX1_become 104 = .ok (.invokestatic 80, 3) := by decide +kernel
theorem dX1_become_107 : decode cX1_become 107 = .ok (.aload_n 1, 1) := by decide +kernel
theorem dX1_become_108 : decode cX1_become 108 = .ok (.getfield 31, 3) := by decide +kernel
theorem dX1_become_111 : decode cX1_become 111 = .ok (.iconst 0, 1) := by decide +kernel
theorem dX1_become_112 : decode cX1_become 112 = .ok (.aload_n 0, 1) := by decide +kernel
theorem dX1_become_113 : decode cX1_become 113 = .ok (.getfield 31, 3) := by decide +kernel
theorem dX1_become_116 : decode cX1_become 116 = .ok (.iconst 0, 1) := by decide +kernel
theorem dX1_become_117 : decode cX1_become 117 = .ok (.bipush 14, 2) := by decide +kernel
theorem dX1_become_119 : decode cX1_become 119 = .ok (.invokestatic 80, 3) := by decide +kernel
theorem dX1_become_122 : decode cX1_become 122 = .ok (.aload_n 1, 1) := by decide +kernel
theorem dX1_become_123 : decode cX1_become 123 = .ok (.getfield 34, 3) := by decide +kernel
theorem dX1_become_126 : decode cX1_become 126 = .ok (.iconst 0, 1) := by decide +kernel
theorem dX1_become_127 : decode cX1_become 127 = .ok (.aload_n 0, 1) := by decide +kernel
theorem dX1_become_128 : decode cX1_become 128 = .ok (.getfield 34, 3) := by decide +kernel
theorem dX1_become_131 : decode cX1_become 131 = .ok (.iconst 0, 1) := by decide +kernel
theorem dX1_become_132 : decode cX1_become 132 = .ok (.bipush 13, 2) := by decide +kernel
theorem dX1_become_134 : decode cX1_become 134 = .ok (.invokestatic 80, 3) := by decide +kernel
theorem dX1_become_137 : decode cX1_become 137 = .ok (.aload_n 1, 1) := by decide +kernel
theorem dX1_become_138 : decode cX1_become 138 = .ok (.getfield 37, 3) := by decide +kernel
theorem dX1_become_141 : decode cX1_become 141 = .ok (.iconst 0, 1) := by decide +kernel
theorem dX1_become_142 : decode cX1_become 142 = .ok (.aload_n 0, 1) := by decide +kernel
theorem dX1_become_143 : decode cX1_become 143 = .ok (.getfield 37, 3) := by decide +kernel
theorem dX1_become_146 : decode cX1_become 146 = .ok (.iconst 0, 1) := by decide +kernel
theorem dX1_become_147 : decode cX1_become 147 = .ok (.bipush 13, 2) := by decide +kernel
theorem dX1_become_149 : decode cX1_become 149 = .ok (.invokestatic 80, 3) := by decide +kernel
theorem dX1_become_152 : decode cX1_become 152 = .ok (.return_, 1) := by decide +kernel
theorem dX2_init_0 : decode cX2_init 0 = .ok (.aload_n 0, 1) := by decide +kernel
theorem dX2_init_1 : decode cX2_init 1 = .ok (.invokespecial 3, 3) := by decide +kernel
theorem dX2_init_4 : decode cX2_init 4 = .ok (.aload_n 0, 1) := by decide +kernel
theorem dX2_init_5 : decode cX2_init 5 = .ok (.bipush 6, 2) := by decide +kernel
theorem dX2_init_7 : decode cX2_init 7 = .ok (.newarray .int, 2) := by decide +kernel
theorem dX2_init_9 : decode cX2_init 9 = .ok (.putfield 9, 3) := by decide +kernel
theorem dX2_init_12 : decode cX2_init 12 = .ok (.return_, 1) := by decide +kernel
theorem dX2_part_0 : decode cX2_part 0 = .ok (.iconst 0, 1) := by decide +kernel
theorem dX2_part_1 : decode cX2_part 1 = .ok (.istore_n 1, 1) := by decide +kernel
theorem dX2_part_2 : decode cX2_part 2 = .ok (.iload_n 1, 1) := by decide +kernel
theorem dX2_part_3 : decode cX2_part 3 = .ok (.bipush 6, 2) := by decide +kernel
theorem dX2_part_5 : decode cX2_part 5 = .ok (.if_icmp .ge 16, 3) := by decide +kernel
theorem dX2_part_8 : decode cX2_part 8 = .ok (.aload_n 0, 1) := by decide +kernel
theorem dX2_part_9 : decode cX2_part 9 = .ok (.getfield 9, 3) := by decide +kernel
theorem dX2_part_12 : decode cX2_part 12 = .ok (.iload_n 1, 1) := by decide +kernel
theorem dX2_part_13 : decode cX2_part 13 = .ok (.iload_n 1, 1) := by decide +kernel
theorem dX2_part_14 : decode cX2_part 14 = .ok (.iastore, 1) := by decide +kernel
theorem dX2_part_15 : decode cX2_part 15 = .ok (.iinc 1 1, 3) := by decide +kernel
theorem dX2_part_18 : decode cX2_part 18 = .ok (.goto (-16), 3) := by decide +kernel
theorem dX2_part_21 : decode cX2_part 21 = .ok (.return_, 1) := by decide +kernel
theorem dX2_apart_0 : decode cX2_apart 0 = .ok (.aload_n 0, 1) := by decide +kernel
theorem dX2_apart_1 : decode cX2_apart 1 = .ok (.getfield 9, 3) := by decide +kernel
theorem dX2_apart_4 : decode cX2_apart 4 = .ok (.iload_n 1, 1) := by decide +kernel
theorem dX2_apart_5 : decode cX2_apart 5 = .ok (.iaload, 1) := by decide +kernel
theorem dX2_apart_6 : decode cX2_apart 6 = .ok (.aload_n 0, 1) := by decide +kernel
theorem dX2_apart_7 : decode cX2_apart 7 = .ok (.getfield 9, 3) := by decide +kernel
theorem dX2_apart_10 : decode cX2_apart 10 = .ok (.iload_n 2, 1) := by decide +kernel
theorem dX2_apart_11 : decode cX2_apart 11 = .ok (.iaload, 1) := by decide +kernel
theorem dX2_apart_12 : decode cX2_apart 12 = .ok (.if_icmp .eq 7, 3) := by decide +kernel
theorem dX2_apart_15 : decode cX2_apart 15 = .ok (.iconst 1, 1) := by decide +kernel
theorem dX2_apart_16 : decode cX2_apart 16 = .ok (.goto 4, 3) := by decide +kernel
theorem dX2_apart_19 : decode cX2_apart 19 = .ok (.iconst 0, 1) := by decide +kernel
theorem dX2_apart_20 : decode cX2_apart 20 = .ok (.ireturn, 1) := by decide +kernel
theorem dX2_join_0 : decode cX2_join 0 = .ok (.aload_n 0, 1) := by decide +kernel
theorem dX2_join_1 : decode cX2_join 1 = .ok (.getfield 9, 3) := by decide +kernel
theorem dX2_join_4 : decode cX2_join 4 = .ok (.iload_n 1, 1) := by decide +kernel
theorem dX2_join_5 : decode cX2_join 5 = .ok (.iaload, 1) := by decide +kernel
theorem dX2_join_6 : decode cX2_join 6 = .ok (.istore_n 3, 1) := by decide +kernel
theorem dX2_join_7 : decode cX2_join 7 = .ok (.aload_n 0, 1) := by decide +kernel
theorem dX2_join_8 : decode cX2_join 8 = .ok (.getfield 9, 3) := by decide +kernel
theorem dX2_join_11 : decode cX2_join 11 = .ok (.iload_n 2, 1) := by decide +kernel
theorem dX2_join_12 : decode cX2_join 12 = .ok (.iaload, 1) := by decide +kernel
theorem dX2_join_13 : decode cX2_join 13 = .ok (.istore 4, 2) := by decide +kernel
theorem dX2_join_15 : decode cX2_join 15 = .ok (.iconst 0, 1) := by decide +kernel
theorem dX2_join_16 : decode cX2_join 16 = .ok (.istore 5, 2) := by decide +kernel
theorem dX2_join_18 : decode cX2_join 18 = .ok (.iload 5, 2) := by decide +kernel
theorem dX2_join_20 : decode cX2_join 20 = .ok (.bipush 6, 2) := by decide +kernel
theorem dX2_join_22 : decode cX2_join 22 = .ok (.if_icmp .ge 29, 3) := by decide +kernel
theorem dX2_join_25 : decode cX2_join 25 = .ok (.aload_n 0, 1) := by decide +kernel
theorem dX2_join_26 : decode cX2_join 26 = .ok (.getfield 9, 3) := by decide +kernel
theorem dX2_join_29 : decode cX2_join 29 = .ok (.iload 5, 2) := by decide +kernel
theorem dX2_join_31 : decode cX2_join 31 = .ok (.iaload, 1) := by decide +kernel
theorem dX2_join_32 : decode cX2_join 32 = .ok (.iload_n 3, 1) := by decide +kernel
theorem dX2_join_33 : decode cX2_join 33 = .ok (.if_icmp .ne 12, 3) := by decide +kernel
theorem dX2_join_36 : decode cX2_join 36 = .ok (.aload_n 0, 1) := by decide +kernel
theorem dX2_join_37 : decode cX2_join 37 = .ok (.getfield 9, 3) := by decide +kernel
theorem dX2_join_40 : decode cX2_join 40 = .ok (.iload 5, 2) := by decide +kernel
theorem dX2_join_42 : decode cX2_join 42 = .ok (.iload 4, 2) := by decide +kernel
theorem dX2_join_44 : decode cX2_join 44 = .ok (.iastore, 1) := by decide +kernel
theorem dX2_join_45 : decode cX2_join 45 = .ok (.iinc 5 1, 3) := by decide +kernel
theorem dX2_join_48 : decode cX2_join 48 = .ok (.goto (-30), 3) := by decide +kernel
theorem dX2_join_51 : decode cX2_join 51 = .ok (.return_, 1) := by decide +kernel
theorem dX2_isTree_0 : decode cX2_isTree 0 = .ok (.iload_n 2, 1) := by decide +kernel
theorem dX2_isTree_1 : decode cX2_isTree 1 = .ok (.invokestatic 15, 3) := by decide +kernel
theorem dX2_isTree_4 : decode cX2_isTree 4 = .ok (.aload_n 1, 1) := by decide +kernel
theorem dX2_isTree_5 : decode cX2_isTree 5 = .ok (.getfield 21, 3) := by decide +kernel
theorem dX2_isTree_8 : decode cX2_isTree 8 = .ok (.iconst 1, 1) := by decide +kernel
theorem dX2_isTree_9 : decode cX2_isTree 9 = .ok (.isub, 1) := by decide +kernel
theorem dX2_isTree_10 : decode cX2_isTree 10 = .ok (.if_icmp .eq 5, 3) := by decide +kernel
theorem dX2_isTree_13 : decode cX2_isTree 13 = .ok (.iconst 0, 1) := by decide +kernel
theorem dX2_isTree_14 : decode cX2_isTree 14 = .ok (.ireturn, 1) := by decide +kernel
theorem dX2_isTree_15 : decode cX2_isTree 15 = .ok (.aload_n 0, 1) := by decide +kernel
theorem dX2_isTree_16 : decode cX2_isTree 16 = .ok (.invokevirtual 27, 3) := by decide +kernel
theorem dX2_isTree_19 : decode cX2_isTree 19 = .ok (.iconst 0, 1) := by decide +kernel
theorem dX2_isTree_20 : decode cX2_isTree 20 = .ok (.istore_n 3, 1) := by decide +kernel
theorem dX2_isTree_21 : decode cX2_isTree 21 = .ok (.iload_n 3, 1) := by decide +kernel
theorem dX2_isTree_22 : decode cX2_isTree 22 = .ok (.aload_n 1, 1) := by decide +kernel
theorem dX2_isTree_23 : decode cX2_isTree 23 = .ok (.getfield 30, 3) := by decide +kernel
theorem dX2_isTree_26 : decode cX2_isTree 26 = .ok (.if_icmp .ge 54, 3) := by decide +kernel
theorem dX2_isTree_29 : decode cX2_isTree 29 = .ok (.iload_n 2, 1) := by decide +kernel
theorem dX2_isTree_30 : decode cX2_isTree 30 = .ok (.iconst 1, 1) := by decide +kernel
theorem dX2_isTree_31 : decode cX2_isTree 31 = .ok (.iload_n 3, 1) := by decide +kernel
theorem dX2_isTree_32 : decode cX2_isTree 32 = .ok (.ishl, 1) := by decide +kernel
theorem dX2_isTree_33 : decode cX2_isTree 33 = .ok (.iand, 1) := by decide +kernel
theorem dX2_isTree_34 : decode cX2_isTree 34 = .ok (.ifCond .eq 40, 3) := by decide +kernel
theorem dX2_isTree_37 : decode cX2_isTree 37 = .ok (.aload_n 0, 1) := by decide +kernel
theorem dX2_isTree_38 : decode cX2_isTree 38 = .ok (.aload_n 1, 1) := by decide +kernel
theorem dX2_isTree_39 : decode cX2_isTree 39 = .ok (.getfield 33, 3) := by decide +kernel
theorem dX2_isTree_42 : decode cX2_isTree 42 = .ok (.iload_n 3, 1) := by decide +kernel
theorem dX2_isTree_43 : decode cX2_isTree 43 = .ok (.iaload, 1) := by decide +kernel
theorem dX2_isTree_44 : decode cX2_isTree 44 = .ok (.aload_n 1, 1) := by decide +kernel
theorem dX2_isTree_45 : decode cX2_isTree 45 = .ok (.getfield 36, 3) := by decide +kernel
theorem dX2_isTree_48 : decode cX2_isTree 48 = .ok (.iload_n 3, 1) := by decide +kernel
theorem dX2_isTree_49 : decode cX2_isTree 49 = .ok (.iaload, 1) := by decide +kernel
theorem dX2_isTree_50 : decode cX2_isTree 50 = .ok (.invokevirtual 39, 3) := by decide +kernel
theorem dX2_isTree_53 : decode cX2_isTree 53 = .ok (.ifCond .ne 5, 3) := by decide +kernel
theorem dX2_isTree_56 : decode cX2_isTree 56 = .ok (.iconst 0, 1) := by decide +kernel
theorem dX2_isTree_57 : decode cX2_isTree 57 = .ok (.ireturn, 1) := by decide +kernel
theorem dX2_isTree_58 : decode cX2_isTree 58 = .ok (.aload_n 0, 1) := by decide +kernel
theorem dX2_isTree_59 : decode cX2_isTree 59 = .ok (.aload_n 1, 1) := by decide +kernel
theorem dX2_isTree_60 : decode cX2_isTree 60 = .ok (.getfield 33, 3) := by decide +kernel
theorem dX2_isTree_63 : decode cX2_isTree 63 = .ok (.iload_n 3, 1) := by decide +kernel
theorem dX2_isTree_64 : decode cX2_isTree 64 = .ok (.iaload, 1) := by decide +kernel
theorem dX2_isTree_65 : decode cX2_isTree 65 = .ok (.aload_n 1, 1) := by decide +kernel
theorem dX2_isTree_66 : decode cX2_isTree 66 = .ok (.getfield 36, 3) := by decide +kernel
theorem dX2_isTree_69 : decode cX2_isTree 69 = .ok (.iload_n 3, 1) := by decide +kernel
theorem dX2_isTree_70 : decode cX2_isTree 70 = .ok (.iaload, 1) := by decide +kernel
theorem dX2_isTree_71 : decode cX2_isTree 71 = .ok (.invokevirtual 43, 3) := by decide +kernel
theorem dX2_isTree_74 : decode cX2_isTree 74 = .ok (.iinc 3 1, 3) := by decide +kernel
theorem dX2_isTree_77 : decode cX2_isTree 77 = .ok (.goto (-56), 3) := by decide +kernel
theorem dX2_isTree_80 : decode cX2_isTree 80 = .ok (.iconst 1, 1) := by decide +kernel
theorem dX2_isTree_81 : decode cX2_isTree 81 = .ok (.ireturn, 1) := by decide +kernel
theorem dX3_init_0 : decode cX3_init 0 = .ok (.aload_n 0, 1) := by decide +kernel
theorem dX3_init_1 : decode cX3_init 1 = .ok (.invokespecial 1, 3) := by decide +kernel
theorem dX3_init_4 : decode cX3_init 4 = .ok (.return_, 1) := by decide +kernel
theorem dX3_climbs_0 : decode cX3_climbs 0 = .ok (.aload_n 0, 1) := by decide +kernel
theorem dX3_climbs_1 : decode cX3_climbs 1 = .ok (.iload_n 2, 1) := by decide +kernel
theorem dX3_climbs_2 : decode cX3_climbs 2 = .ok (.putfield 7, 3) := by decide +kernel
theorem dX3_climbs_5 : decode cX3_climbs 5 = .ok (.aload_n 0, 1) := by decide +kernel
theorem dX3_climbs_6 : decode cX3_climbs 6 = .ok (.aload_n 1, 1) := by decide +kernel
theorem dX3_climbs_7 : decode cX3_climbs 7 = .ok (.getfield 13, 3) := by decide +kernel
theorem dX3_climbs_10 : decode cX3_climbs 10 = .ok (.putfield 18, 3) := by decide +kernel
theorem dX3_climbs_13 : decode cX3_climbs 13 = .ok (.aload_n 0, 1) := by decide +kernel
theorem dX3_climbs_14 : decode cX3_climbs 14 = .ok (.aload_n 1, 1) := by decide +kernel
theorem dX3_climbs_15 : decode cX3_climbs 15 = .ok (.getfield 21, 3) := by decide +kernel
theorem dX3_climbs_18 : decode cX3_climbs 18 = .ok (.iconst 0, 1) := by decide +kernel
theorem dX3_climbs_19 : decode cX3_climbs 19 = .ok (.iaload, 1) := by decide +kernel
theorem dX3_climbs_20 : decode cX3_climbs 20 = .ok (.i2l, 1) := by decide +kernel
theorem dX3_climbs_21 : decode cX3_climbs 21 = .ok (.putfield 25, 3) := by decide +kernel
theorem dX3_climbs_24 : decode cX3_climbs 24 = .ok (.aload_n 0, 1) := by decide +kernel
theorem dX3_climbs_25 : decode cX3_climbs 25 = .ok (.aload_n 1, 1) := by decide +kernel
theorem dX3_climbs_26 : decode cX3_climbs 26 = .ok (.getfield 29, 3) := by decide +kernel
theorem dX3_climbs_29 : decode cX3_climbs 29 = .ok (.iconst 0, 1) := by decide +kernel
theorem dX3_climbs_30 : decode cX3_climbs 30 = .ok (.iaload, 1) := by decide +kernel
theorem dX3_climbs_31 : decode cX3_climbs 31 = .ok (.i2l, 1) := by decide +kernel
theorem dX3_climbs_32 : decode cX3_climbs 32 = .ok (.putfield 32, 3) := by decide +kernel
theorem dX3_climbs_35 : decode cX3_climbs 35 = .ok (.iconst 0, 1) := by decide +kernel
theorem dX3_climbs_36 : decode cX3_climbs 36 = .ok (.istore_n 3, 1) := by decide +kernel
theorem dX3_climbs_37 : decode cX3_climbs 37 = .ok (.iload_n 3, 1) := by decide +kernel
theorem dX3_climbs_38 : decode cX3_climbs 38 = .ok (.aload_n 0, 1) := by decide +kernel
theorem dX3_climbs_39 : decode cX3_climbs 39 = .ok (.getfield 18, 3) := by decide +kernel
theorem dX3_climbs_42 : decode cX3_climbs 42 = .ok (.if_icmp .ge 39, 3) := by decide +kernel
theorem dX3_climbs_45 : decode cX3_climbs 45 = .ok (.aload_n 0, 1) := by decide +kernel
theorem dX3_climbs_46 : decode cX3_climbs 46 = .ok (.getfield 35, 3) := by decide +kernel
theorem dX3_climbs_49 : decode cX3_climbs 49 = .ok (.iload_n 3, 1) := by decide +kernel
theorem dX3_climbs_50 : decode cX3_climbs 50 = .ok (.aload_n 1, 1) := by decide +kernel
theorem dX3_climbs_51 : decode cX3_climbs 51 = .ok (.getfield 21, 3) := by decide +kernel
theorem dX3_climbs_54 : decode cX3_climbs 54 = .ok (.iload_n 3, 1) := by decide +kernel
theorem dX3_climbs_55 : decode cX3_climbs 55 = .ok (.iconst 1, 1) := by decide +kernel
theorem dX3_climbs_56 : decode cX3_climbs 56 = .ok (.iadd, 1) := by decide +kernel
theorem dX3_climbs_57 : decode cX3_climbs 57 = .ok (.iaload, 1) := by decide +kernel
theorem dX3_climbs_58 : decode cX3_climbs 58 = .ok (.i2l, 1) := by decide +kernel
theorem dX3_climbs_59 : decode cX3_climbs 59 = .ok (.lastore, 1) := by decide +kernel
theorem dX3_climbs_60 : decode cX3_climbs 60 = .ok (.aload_n 0, 1) := by decide +kernel
theorem dX3_climbs_61 : decode cX3_climbs 61 = .ok (.getfield 39, 3) := by decide +kernel
theorem dX3_climbs_64 : decode cX3_climbs 64 = .ok (.iload_n 3, 1) := by decide +kernel
theorem dX3_climbs_65 : decode cX3_climbs 65 = .ok (.aload_n 1, 1) := by decide +kernel
theorem dX3_climbs_66 : decode cX3_climbs 66 = .ok (.getfield 29, 3) := by decide +kernel
theorem dX3_climbs_69 : decode cX3_climbs 69 = .ok (.iload_n 3, 1) := by decide +kernel
theorem dX3_climbs_70 : decode cX3_climbs 70 = .ok (.iconst 1, 1) := by decide +kernel
theorem dX3_climbs_71 : decode cX3_climbs 71 = .ok (.iadd, 1) := by decide +kernel
theorem dX3_climbs_72 : decode cX3_climbs 72 = .ok (.iaload, 1) := by decide +kernel
theorem dX3_climbs_73 : decode cX3_climbs 73 = .ok (.i2l, 1) := by decide +kernel
theorem dX3_climbs_74 : decode cX3_climbs 74 = .ok (.lastore, 1) := by decide +kernel
theorem dX3_climbs_75 : decode cX3_climbs 75 = .ok (.iinc 3 1, 3) := by decide +kernel
theorem dX3_climbs_78 : decode cX3_climbs 78 = .ok (.goto (-41), 3) := by decide +kernel
theorem dX3_climbs_81 : decode cX3_climbs 81 = .ok (.aload_n 0, 1) := by decide +kernel
theorem dX3_climbs_82 : decode cX3_climbs 82 = .ok (.invokevirtual 42, 3) := by decide +kernel
theorem dX3_climbs_85 : decode cX3_climbs 85 = .ok (.ireturn, 1) := by decide +kernel
theorem dX3_pick_0 : decode cX3_pick 0 = .ok (.iconst 0, 1) := by decide +kernel
theorem dX3_pick_1 : decode cX3_pick 1 = .ok (.istore_n 1, 1) := by decide +kernel
theorem dX3_pick_2 : decode cX3_pick 2 = .ok (.iconst 0, 1) := by decide +kernel
theorem dX3_pick_3 : decode cX3_pick 3 = .ok (.istore_n 2, 1) := by decide +kernel
theorem dX3_pick_4 : decode cX3_pick 4 = .ok (.iload_n 2, 1) := by decide +kernel
theorem dX3_pick_5 : decode cX3_pick 5 = .ok (.aload_n 0, 1) := by decide +kernel
theorem dX3_pick_6 : decode cX3_pick 6 = .ok (.getfield 7, 3) := by decide +kernel
theorem dX3_pick_9 : decode cX3_pick 9 = .ok (.if_icmp .ge 74, 3) := by decide +kernel
theorem dX3_pick_12 : decode cX3_pick 12 = .ok (.iconst (-1), 1) := by decide +kernel
theorem dX3_pick_13 : decode cX3_pick 13 = .ok (.istore_n 3, 1) := by decide +kernel
theorem dX3_pick_14 : decode cX3_pick 14 = .ok (.iconst 0, 1) := by decide +kernel
theorem dX3_pick_15 : decode cX3_pick 15 = .ok (.istore 4, 2) := by decide +kernel
theorem dX3_pick_17 : decode cX3_pick 17 = .ok (.iload 4, 2) := by decide +kernel
theorem dX3_pick_19 : decode cX3_pick 19 = .ok (.aload_n 0, 1) := by decide +kernel
theorem dX3_pick_20 : decode cX3_pick 20 = .ok (.getfield 18, 3) := by decide +kernel
theorem dX3_pick_23 : decode cX3_pick 23 = .ok (.if_icmp .ge 42, 3) := by decide +kernel
theorem dX3_pick_26 : decode cX3_pick 26 = .ok (.iload_n 1, 1) := by decide +kernel
theorem dX3_pick_27 : decode cX3_pick 27 = .ok (.iconst 1, 1) := by decide +kernel
theorem dX3_pick_28 : decode cX3_pick 28 = .ok (.iload 4, 2) := by decide +kernel
theorem dX3_pick_30 : decode cX3_pick 30 = .ok (.ishl, 1) := by decide +kernel
theorem dX3_pick_31 : decode cX3_pick 31 = .ok (.iand, 1) := by decide +kernel
theorem dX3_pick_32 : decode cX3_pick 32 = .ok (.ifCond .ne 27, 3) := by decide +kernel
theorem dX3_pick_35 : decode cX3_pick 35 = .ok (.iload_n 3, 1) := by decide +kernel
theorem dX3_pick_36 : decode cX3_pick 36 = .ok (.ifCond .lt 20, 3) := by decide +kernel
theorem dX3_pick_39 : decode cX3_pick 39 = .ok (.aload_n 0, 1) := by decide +kernel
theorem dX3_pick_40 : decode cX3_pick 40 = .ok (.getfield 46, 3) := by decide +kernel
theorem dX3_pick_43 : decode cX3_pick 43 = .ok (.iload 4, 2) := by decide +kernel
theorem dX3_pick_45 : decode cX3_pick 45 = .ok (.laload, 1) := by decide +kernel
theorem dX3_pick_46 : decode cX3_pick 46 = .ok (.aload_n 0, 1) := by decide +kernel
theorem dX3_pick_47 : decode cX3_pick 47 = .ok (.getfield 46, 3) := by decide +kernel
theorem dX3_pick_50 : decode cX3_pick 50 = .ok (.iload_n 3, 1) := by decide +kernel
theorem dX3_pick_51 : decode cX3_pick 51 = .ok (.laload, 1) := by decide +kernel
theorem dX3_pick_52 : decode cX3_pick 52 = .ok (.lcmp, 1) := by decide +kernel
theorem dX3_pick_53 : decode cX3_pick 53 = .ok (.ifCond .le 6, 3) := by decide +kernel
theorem dX3_pick_56 : decode cX3_pick 56 = .ok (.iload 4, 2) := by decide +kernel
theorem dX3_pick_58 : decode cX3_pick 58 = .ok (.istore_n 3, 1) := by decide +kernel
theorem dX3_pick_59 : decode cX3_pick 59 = .ok (.iinc 4 1, 3) := by decide +kernel
theorem dX3_pick_62 : decode cX3_pick 62 = .ok (.goto (-45), 3) := by decide +kernel
theorem dX3_pick_65 : decode cX3_pick 65 = .ok (.iload_n 3, 1) := by decide +kernel
theorem dX3_pick_66 : decode cX3_pick 66 = .ok (.ifCond .ge 5, 3) := by decide +kernel
theorem dX3_pick_69 : decode cX3_pick 69 = .ok (.iconst 0, 1) := by decide +kernel
theorem dX3_pick_70 : decode cX3_pick 70 = .ok (.ireturn, 1) := by decide +kernel
theorem dX3_pick_71 : decode cX3_pick 71 = .ok (.iload_n 1, 1) := by decide +kernel
theorem dX3_pick_72 : decode cX3_pick 72 = .ok (.iconst 1, 1) := by decide +kernel
theorem dX3_pick_73 : decode cX3_pick 73 = .ok (.iload_n 3, 1) := by decide +kernel
theorem dX3_pick_74 : decode cX3_pick 74 = .ok (.ishl, 1) := by decide +kernel
theorem dX3_pick_75 : decode cX3_pick 75 = .ok (.ior, 1) := by decide +kernel
theorem dX3_pick_76 : decode cX3_pick 76 = .ok (.istore_n 1, 1) := by decide +kernel
theorem dX3_pick_77 : decode cX3_pick 77 = .ok (.iinc 2 1, 3) := by decide +kernel
theorem dX3_pick_80 : decode cX3_pick 80 = .ok (.goto (-76), 3) := by decide +kernel
theorem dX3_pick_83 : decode cX3_pick 83 = .ok (.iload_n 1, 1) := by decide +kernel
theorem dX3_pick_84 : decode cX3_pick 84 = .ok (.ireturn, 1) := by decide +kernel
theorem dX4_init_0 : decode cX4_init 0 = .ok (.aload_n 0, 1) := by decide +kernel
theorem dX4_init_1 : decode cX4_init 1 = .ok (.invokespecial 3, 3) := by decide +kernel
theorem dX4_init_4 : decode cX4_init 4 = .ok (.aload_n 0, 1) := by decide +kernel
theorem dX4_init_5 : decode cX4_init 5 = .ok (.sipush 1296, 3) := by decide +kernel
theorem dX4_init_8 : decode cX4_init 8 = .ok (.newarray .int, 2) := by decide +kernel
theorem dX4_init_10 : decode cX4_init 10 = .ok (.putfield 9, 3) := by decide +kernel
theorem dX4_init_13 : decode cX4_init 13 = .ok (.aload_n 0, 1) := by decide +kernel
theorem dX4_init_14 : decode cX4_init 14 = .ok (.sipush 1296, 3) := by decide +kernel
theorem dX4_init_17 : decode cX4_init 17 = .ok (.newarray .long, 2) := by decide +kernel
theorem dX4_init_19 : decode cX4_init 19 = .ok (.putfield 15, 3) := by decide +kernel
theorem dX4_init_22 : decode cX4_init 22 = .ok (.aload_n 0, 1) := by decide +kernel
theorem dX4_init_23 : decode cX4_init 23 = .ok (.sipush 1296, 3) := by decide +kernel
theorem dX4_init_26 : decode cX4_init 26 = .ok (.newarray .long, 2) := by decide +kernel
theorem dX4_init_28 : decode cX4_init 28 = .ok (.putfield 19, 3) := by decide +kernel
theorem dX4_init_31 : decode cX4_init 31 = .ok (.aload_n 0, 1) := by decide +kernel
theorem dX4_init_32 : decode cX4_init 32 = .ok (.bipush 6, 2) := by decide +kernel
theorem dX4_init_34 : decode cX4_init 34 = .ok (.newarray .long, 2) := by decide +kernel
theorem dX4_init_36 : decode cX4_init 36 = .ok (.putfield 22, 3) := by decide +kernel
theorem dX4_init_39 : decode cX4_init 39 = .ok (.aload_n 0, 1) := by decide +kernel
theorem dX4_init_40 : decode cX4_init 40 = .ok (.bipush 6, 2) := by decide +kernel
theorem dX4_init_42 : decode cX4_init 42 = .ok (.newarray .boolean, 2) := by decide +kernel
theorem dX4_init_44 : decode cX4_init 44 = .ok (.putfield 25, 3) := by decide +kernel
theorem dX4_init_47 : decode cX4_init 47 = .ok (.aload_n 0, 1) := by decide +kernel
theorem dX4_init_48 : decode cX4_init 48 = .ok (.bipush 6, 2) := by decide +kernel
theorem dX4_init_50 : decode cX4_init 50 = .ok (.newarray .int, 2) := by decide +kernel
theorem dX4_init_52 : decode cX4_init 52 = .ok (.putfield 29, 3) := by decide +kernel
theorem dX4_init_55 : decode cX4_init 55 = .ok (.aload_n 0, 1) := by decide +kernel
theorem dX4_init_56 : decode cX4_init 56 = .ok (.bipush 84, 2) := by decide +kernel
theorem dX4_init_58 : decode cX4_init 58 = .ok (.newarray .int, 2) := by decide +kernel
theorem dX4_init_60 : decode cX4_init 60 = .ok (.putfield 32, 3) := by decide +kernel
theorem dX4_init_63 : decode cX4_init 63 = .ok (.aload_n 0, 1) := by decide +kernel
theorem dX4_init_64 : decode cX4_init 64 = .ok (.bipush 14, 2) := by decide +kernel
theorem dX4_init_66 : decode cX4_init 66 = .ok (.newarray .int, 2) := by decide +kernel
theorem dX4_init_68 : decode cX4_init 68 = .ok (.putfield 35, 3) := by decide +kernel
theorem dX4_init_71 : decode cX4_init 71 = .ok (.aload_n 0, 1) := by decide +kernel
theorem dX4_init_72 : decode cX4_init 72 = .ok (.bipush 14, 2) := by decide +kernel
theorem dX4_init_74 : decode cX4_init 74 = .ok (.newarray .long, 2) := by decide +kernel
theorem dX4_init_76 : decode cX4_init 76 = .ok (.putfield 38, 3) := by decide +kernel
theorem dX4_init_79 : decode cX4_init 79 = .ok (.aload_n 0, 1) := by decide +kernel
theorem dX4_init_80 : decode cX4_init 80 = .ok (.bipush 14, 2) := by decide +kernel
theorem dX4_init_82 : decode cX4_init 82 = .ok (.newarray .long, 2) := by decide +kernel
theorem dX4_init_84 : decode cX4_init 84 = .ok (.putfield 41, 3) := by decide +kernel
theorem dX4_init_87 : decode cX4_init 87 = .ok (.return_, 1) := by decide +kernel
theorem dX4_gather_0 : decode cX4_gather 0 = .ok (.aload_n 0, 1) := by decide +kernel
theorem dX4_gather_1 : decode cX4_gather 1 = .ok (.iconst 0, 1) := by decide +kernel
theorem dX4_gather_2 : decode cX4_gather 2 = .ok (.putfield 44, 3) := by decide +kernel
theorem dX4_gather_5 : decode cX4_gather 5 = .ok (.iconst 0, 1) := by decide +kernel
theorem dX4_gather_6 : decode cX4_gather 6 = .ok (.istore_n 3, 1) := by decide +kernel
theorem dX4_gather_7 : decode cX4_gather 7 = .ok (.iload_n 3, 1) := by decide +kernel
theorem dX4_gather_8 : decode cX4_gather 8 = .ok (.bipush 6, 2) := by decide +kernel
theorem dX4_gather_10 : decode cX4_gather 10 = .ok (.if_icmp .ge 16, 3) := by decide +kernel
theorem dX4_gather_13 : decode cX4_gather 13 = .ok (.aload_n 0, 1) := by decide +kernel
theorem dX4_gather_14 : decode cX4_gather 14 = .ok (.getfield 29, 3) := by decide +kernel
theorem dX4_gather_17 : decode cX4_gather 17 = .ok (.iload_n 3, 1) := by decide +kernel
theorem dX4_gather_18 : decode cX4_gather 18 = .ok (.iconst 0, 1) := by decide +kernel
theorem dX4_gather_19 : decode cX4_gather 19 = .ok (.iastore, 1) := by decide +kernel
theorem dX4_gather_20 : decode cX4_gather 20 = .ok (.iinc 3 1, 3) := by decide +kernel
theorem dX4_gather_23 : decode cX4_gather 23 = .ok (.goto (-16), 3) := by decide +kernel
theorem dX4_gather_26 : decode cX4_gather 26 = .ok (.iconst 0, 1) := by decide +kernel
theorem dX4_gather_27 : decode cX4_gather 27 = .ok (.istore_n 3, 1) := by decide +kernel
theorem dX4_gather_28 : decode cX4_gather 28 = .ok (.iload_n 3, 1) := by decide +kernel
theorem dX4_gather_29 : decode cX4_gather 29 = .ok (.aload_n 1, 1) := by decide +kernel
theorem dX4_gather_30 : decode cX4_gather 30 = .ok (.getfield 48, 3) := by decide +kernel
theorem dX4_gather_33 : decode cX4_gather 33 = .ok (.if_icmp .ge 97, 3) := by decide +kernel
theorem dX4_gather_36 : decode cX4_gather 36 = .ok (.aload_n 0, 1) := by decide +kernel
theorem dX4_gather_37 : decode cX4_gather 37 = .ok (.getfield 35, 3) := by decide +kernel
theorem dX4_gather_40 : decode cX4_gather 40 = .ok (.iload_n 3, 1) := by decide +kernel
theorem dX4_gather_41 : decode cX4_gather 41 = .ok (.aload_n 1, 1) := by decide +kernel
theorem dX4_gather_42 : decode cX4_gather 42 = .ok (.getfield 53, 3) := by decide +kernel
theorem dX4_gather_45 : decode cX4_gather 45 = .ok (.iload_n 3, 1) := by decide +kernel
theorem dX4_gather_46 : decode cX4_gather 46 = .ok (.iaload, 1) := by decide +kernel
theorem dX4_gather_47 : decode cX4_gather 47 = .ok (.iastore, 1) := by decide +kernel
theorem dX4_gather_48 : decode cX4_gather 48 = .ok (.aload_n 0, 1) := by decide +kernel
theorem dX4_gather_49 : decode cX4_gather 49 = .ok (.getfield 38, 3) := by decide +kernel
theorem dX4_gather_52 : decode cX4_gather 52 = .ok (.iload_n 3, 1) := by decide +kernel
theorem dX4_gather_53 : decode cX4_gather 53 = .ok (.aload_n 1, 1) := by decide +kernel
theorem dX4_gather_54 : decode cX4_gather 54 = .ok (.iload_n 3, 1) := by decide +kernel
theorem dX4_gather_55 : decode cX4_gather 55 = .ok (.invokevirtual 54, 3) := by decide +kernel
theorem dX4_gather_58 : decode cX4_gather 58 = .ok (.i2l, 1) := by decide +kernel
theorem dX4_gather_59 : decode cX4_gather 59 = .ok (.lastore, 1) := by decide +kernel
theorem dX4_gather_60 : decode cX4_gather 60 = .ok (.aload_n 0, 1) := by decide +kernel
theorem dX4_gather_61 : decode cX4_gather 61 = .ok (.getfield 41, 3) := by decide +kernel
theorem dX4_gather_64 : decode cX4_gather 64 = .ok (.iload_n 3, 1) := by decide +kernel
theorem dX4_gather_65 : decode cX4_gather 65 = .ok (.aload_n 1, 1) := by decide +kernel
theorem dX4_gather_66 : decode cX4_gather 66 = .ok (.iload_n 3, 1) := by decide +kernel
theorem dX4_gather_67 : decode cX4_gather 67 = .ok (.invokevirtual 58, 3) := by decide +kernel
theorem dX4_gather_70 : decode cX4_gather 70 = .ok (.i2l, 1) := by decide +kernel
theorem dX4_gather_71 : decode cX4_gather 71 = .ok (.lastore, 1) := by decide +kernel
theorem dX4_gather_72 : decode cX4_gather 72 = .ok (.aload_n 1, 1) := by decide +kernel
theorem dX4_gather_73 : decode cX4_gather 73 = .ok (.getfield 61, 3) := by decide +kernel
theorem dX4_gather_76 : decode cX4_gather 76 = .ok (.iload_n 3, 1) := by decide +kernel
theorem dX4_gather_77 : decode cX4_gather 77 = .ok (.iaload, 1) := by decide +kernel
theorem dX4_gather_78 : decode cX4_gather 78 = .ok (.ifCond .eq 8, 3) := by decide +kernel
theorem dX4_gather_81 : decode cX4_gather 81 = .ok (.iload_n 3, 1) := by decide +kernel
theorem dX4_gather_82 : decode cX4_gather 82 = .ok (.iload_n 2, 1) := by decide +kernel
theorem dX4_gather_83 : decode cX4_gather 83 = .ok (.if_icmp .ne 41, 3) := by decide +kernel
theorem dX4_gather_86 : decode cX4_gather 86 = .ok (.aload_n 1, 1) := by decide +kernel
theorem dX4_gather_87 : decode cX4_gather 87 = .ok (.getfield 64, 3) := by decide +kernel
theorem dX4_gather_90 : decode cX4_gather 90 = .ok (.iload_n 3, 1) := by decide +kernel
theorem dX4_gather_91 : decode cX4_gather 91 = .ok (.iaload, 1) := by decide +kernel
theorem dX4_gather_92 : decode cX4_gather 92 = .ok (.istore 4, 2) := by decide +kernel
theorem dX4_gather_94 : decode cX4_gather 94 = .ok (.aload_n 0, 1) := by decide +kernel
theorem dX4_gather_95 : decode cX4_gather 95 = .ok (.getfield 32, 3) := by decide +kernel
theorem dX4_gather_98 : decode cX4_gather 98 = .ok (.iload 4, 2) := by decide +kernel
theorem dX4_gather_100 : decode cX4_gather 100 = .ok (.bipush 14, 2) := by decide +kernel
theorem dX4_gather_102 : decode cX4_gather 102 = .ok (.imul, 1) := by decide +kernel
theorem dX4_gather_103 : decode cX4_gather 103 = .ok (.aload_n 0, 1) := by decide +kernel
theorem dX4_gather_104 : decode cX4_gather 104 = .ok (.getfield 29, 3) := by decide +kernel
theorem dX4_gather_107 : decode cX4_gather 107 = .ok (.iload 4, 2) := by decide +kernel
theorem dX4_gather_109 : decode cX4_gather 109 = .ok (.iaload, 1) := by decide +kernel
theorem dX4_gather_110 : decode cX4_gather 110 = .ok (.iadd, 1) := by decide +kernel
theorem dX4_gather_111 : decode cX4_gather 111 = .ok (.iload_n 3, 1) := by decide +kernel
theorem dX4_gather_112 : decode cX4_gather 112 = .ok (.iastore, 1) := by decide +kernel
theorem dX4_gather_113 : decode cX4_gather 113 = .ok (.aload_n 0, 1) := by decide +kernel
theorem dX4_gather_114 : decode cX4_gather 114 = .ok (.getfield 29, 3) := by decide +kernel
theorem dX4_gather_117 : decode cX4_gather 117 = .ok (.iload 4, 2) := by decide +kernel
theorem dX4_gather_119 : decode cX4_gather 119 = .ok (.dup2, 1) := by decide +kernel
theorem dX4_gather_120 : decode cX4_gather 120 = .ok (.iaload, 1) := by decide +kernel
theorem dX4_gather_121 : decode cX4_gather 121 = .ok (.iconst 1, 1) := by decide +kernel
theorem dX4_gather_122 : decode cX4_gather 122 = .ok (.iadd, 1) := by decide +kernel
theorem dX4_gather_123 : decode cX4_gather 123 = .ok (.iastore, 1) := by decide +kernel
theorem dX4_gather_124 : decode cX4_gather 124 = .ok (.iinc 3 1, 3) := by decide +kernel
theorem dX4_gather_127 : decode cX4_gather 127 = .ok (.goto (-99), 3) := by decide +kernel
theorem dX4_gather_130 : decode cX4_gather 130 = .ok (.iconst 0, 1) := by decide +kernel
theorem dX4_gather_131 : decode cX4_gather 131 = .ok (.istore_n 3, 1) := by decide +kernel
theorem dX4_gather_132 : decode cX4_gather 132 = .ok (.iload_n 3, 1) := by decide +kernel
theorem dX4_gather_133 : decode cX4_gather 133 = .ok (.aload_n 1, 1) := by decide +kernel
theorem dX4_gather_134 : decode cX4_gather 134 = .ok (.getfield 67, 3) := by decide +kernel
theorem dX4_gather_137 : decode cX4_gather 137 = .ok (.if_icmp .ge 21, 3) := by decide +kernel
theorem dX4_gather_140 : decode cX4_gather 140 = .ok (.aload_n 0, 1) := by decide +kernel
theorem dX4_gather_141 : decode cX4_gather 141 = .ok (.iload_n 3, 1) := by decide +kernel
theorem dX4_gather_142 : decode cX4_gather 142 = .ok (.iload_n 3, 1) := by decide +kernel
theorem dX4_gather_143 : decode cX4_gather 143 = .ok (.iconst 1, 1) := by decide +kernel
theorem dX4_gather_144 : decode cX4_gather 144 = .ok (.iload_n 3, 1) := by decide +kernel
theorem dX4_gather_145 : decode cX4_gather 145 = .ok (.ishl, 1) := by decide +kernel
theorem dX4_gather_146 : decode cX4_gather 146 = .ok (.iconst 0, 1) := by decide +kernel
theorem dX4_gather_147 : decode cX4_gather 147 = .ok (.lconst 0, 1) := by decide +kernel
theorem dX4_gather_148 : decode cX4_gather 148 = .ok (.lconst 0, 1) := by decide +kernel
theorem dX4_gather_149 : decode cX4_gather 149 = .ok (.invokevirtual 70, 3) := by decide +kernel
theorem dX4_gather_152 : decode cX4_gather 152 = .ok (.iinc 3 1, 3) := by decide +kernel
theorem dX4_gather_155 : decode cX4_gather 155 = .ok (.goto (-23), 3) := by decide +kernel
theorem dX4_gather_158 : decode cX4_gather 158 = .ok (.return_, 1) := by decide +kernel
theorem dX4_goOn_0 : decode cX4_goOn 0 = .ok (.iconst 0, 1) := by decide +kernel
theorem dX4_goOn_1 : decode cX4_goOn 1 = .ok (.istore 9, 2) := by decide +kernel
theorem dX4_goOn_3 : decode cX4_goOn 3 = .ok (.iload 9, 2) := by decide +kernel
theorem dX4_goOn_5 : decode cX4_goOn 5 = .ok (.aload_n 0, 1) := by decide +kernel
theorem dX4_goOn_6 : decode cX4_goOn 6 = .ok (.getfield 29, 3) := by decide +kernel
theorem dX4_goOn_9 : decode cX4_goOn 9 = .ok (.iload_n 2, 1) := by decide +kernel
theorem dX4_goOn_10 : decode cX4_goOn 10 = .ok (.iaload, 1) := by decide +kernel
theorem dX4_goOn_11 : decode cX4_goOn 11 = .ok (.if_icmp .ge 126, 3) := by decide +kernel
theorem dX4_goOn_14 : decode cX4_goOn 14 = .ok (.aload_n 0, 1) := by decide +kernel
theorem dX4_goOn_15 : decode cX4_goOn 15 = .ok (.getfield 32, 3) := by decide +kernel
theorem dX4_goOn_18 : decode cX4_goOn 18 = .ok (.iload_n 2, 1) := by decide +kernel
theorem dX4_goOn_19 : decode cX4_goOn 19 = .ok (.bipush 14, 2) := by decide +kernel
theorem dX4_goOn_21 : decode cX4_goOn 21 = .ok (.imul, 1) := by decide +kernel
theorem dX4_goOn_22 : decode cX4_goOn 22 = .ok (.iload 9, 2) := by decide +kernel
theorem dX4_goOn_24 : decode cX4_goOn 24 = .ok (.iadd, 1) := by decide +kernel
theorem dX4_goOn_25 : decode cX4_goOn 25 = .ok (.iaload, 1) := by decide +kernel
theorem dX4_goOn_26 : decode cX4_goOn 26 = .ok (.istore 10, 2) := by decide +kernel
theorem dX4_goOn_28 : decode cX4_goOn 28 = .ok (.aload_n 0, 1) := by decide +kernel
theorem dX4_goOn_29 : decode cX4_goOn 29 = .ok (.getfield 35, 3) := by decide +kernel
theorem dX4_goOn_32 : decode cX4_goOn 32 = .ok (.iload 10, 2) := by decide +kernel
theorem dX4_goOn_34 : decode cX4_goOn 34 = .ok (.iaload, 1) := by decide +kernel
theorem dX4_goOn_35 : decode cX4_goOn 35 = .ok (.istore 11, 2) := by decide +kernel
theorem dX4_goOn_37 : decode cX4_goOn 37 = .ok (.iload 4, 2) := by decide +kernel
theorem dX4_goOn_39 : decode cX4_goOn 39 = .ok (.iconst 1, 1) := by decide +kernel
theorem dX4_goOn_40 : decode cX4_goOn 40 = .ok (.iload 10, 2) := by decide +kernel
theorem dX4_goOn_42 : decode cX4_goOn 42 = .ok (.ishl, 1) := by decide +kernel
theorem dX4_goOn_43 : decode cX4_goOn 43 = .ok (.ior, 1) := by decide +kernel
theorem dX4_goOn_44 : decode cX4_goOn 44 = .ok (.istore 12, 2) := by decide +kernel
theorem dX4_goOn_46 : decode cX4_goOn 46 = .ok (.iload 11, 2) := by decide +kernel
theorem dX4_goOn_48 : decode cX4_goOn 48 = .ok (.iload_n 1, 1) := by decide +kernel
theorem dX4_goOn_49 : decode cX4_goOn 49 = .ok (.if_icmp .ne 32, 3) := by decide +kernel
theorem dX4_goOn_52 : decode cX4_goOn 52 = .ok (.aload_n 0, 1) := by decide +kernel
theorem dX4_goOn_53 : decode cX4_goOn 53 = .ok (.iload 12, 2) := by decide +kernel
theorem dX4_goOn_55 : decode cX4_goOn 55 = .ok (.lload 5, 2) := by decide +kernel
theorem dX4_goOn_57 : decode cX4_goOn 57 = .ok (.aload_n 0, 1) := by decide +kernel
theorem dX4_goOn_58 : decode cX4_goOn 58 = .ok (.getfield 38, 3) := by decide +kernel
theorem dX4_goOn_61 : decode cX4_goOn 61 = .ok (.iload 10, 2) := by decide +kernel
theorem dX4_goOn_63 : decode cX4_goOn 63 = .ok (.laload, 1) := by decide +kernel
theorem dX4_goOn_64 : decode cX4_goOn 64 = .ok (.ladd, 1) := by decide +kernel
theorem dX4_goOn_65 : decode cX4_goOn 65 = .ok (.lload 7, 2) := by decide +kernel
theorem dX4_goOn_67 : decode cX4_goOn 67 = .ok (.aload_n 0, 1) := by decide +kernel
theorem dX4_goOn_68 : decode cX4_goOn 68 = .ok (.getfield 41, 3) := by decide +kernel
theorem dX4_goOn_71 : decode cX4_goOn 71 = .ok (.iload 10, 2) := by decide +kernel
theorem dX4_goOn_73 : decode cX4_goOn 73 = .ok (.laload, 1) := by decide +kernel
theorem dX4_goOn_74 : decode cX4_goOn 74 = .ok (.ladd, 1) := by decide +kernel
theorem dX4_goOn_75 : decode cX4_goOn 75 = .ok (.invokevirtual 74, 3) := by decide +kernel
theorem dX4_goOn_78 : decode cX4_goOn 78 = .ok (.goto 53, 3) := by decide +kernel
theorem dX4_goOn_81 : decode cX4_goOn 81 = .ok (.iload 11, 2) := by decide +kernel
theorem dX4_goOn_83 : decode cX4_goOn 83 = .ok (.iload_n 1, 1) := by decide +kernel
theorem dX4_goOn_84 : decode cX4_goOn 84 = .ok (.if_icmp .le 47, 3) := by decide +kernel
theorem dX4_goOn_87 : decode cX4_goOn 87 = .ok (.iload_n 3, 1) := by decide +kernel
theorem dX4_goOn_88 : decode cX4_goOn 88 = .ok (.iconst 1, 1) := by decide +kernel
theorem dX4_goOn_89 : decode cX4_goOn 89 = .ok (.iload 11, 2) := by decide +kernel
theorem dX4_goOn_91 : decode cX4_goOn 91 = .ok (.ishl, 1) := by decide +kernel
theorem dX4_goOn_92 : decode cX4_goOn 92 = .ok (.iand, 1) := by decide +kernel
theorem dX4_goOn_93 : decode cX4_goOn 93 = .ok (.ifCond .ne 38, 3) := by decide +kernel
theorem dX4_goOn_96 : decode cX4_goOn 96 = .ok (.aload_n 0, 1) := by decide +kernel
theorem dX4_goOn_97 : decode cX4_goOn 97 = .ok (.iload_n 1, 1) := by decide +kernel
theorem dX4_goOn_98 : decode cX4_goOn 98 = .ok (.iload 11, 2) := by decide +kernel
theorem dX4_goOn_100 : decode cX4_goOn 100 = .ok (.iload_n 3, 1) := by decide +kernel
theorem dX4_goOn_101 : decode cX4_goOn 101 = .ok (.iconst 1, 1) := by decide +kernel
theorem dX4_goOn_102 : decode cX4_goOn 102 = .ok (.iload 11, 2) := by decide +kernel
theorem dX4_goOn_104 : decode cX4_goOn 104 = .ok (.ishl, 1) := by decide +kernel
theorem dX4_goOn_105 : decode cX4_goOn 105 = .ok (.ior, 1) := by decide +kernel
theorem dX4_goOn_106 : decode cX4_goOn 106 = .ok (.iload 12, 2) := by decide +kernel
theorem dX4_goOn_108 : decode cX4_goOn 108 = .ok (.lload 5, 2) := by decide +kernel
theorem dX4_goOn_110 : decode cX4_goOn 110 = .ok (.aload_n 0, 1) := by decide +kernel
theorem dX4_goOn_111 : decode cX4_goOn 111 = .ok (.getfield 38, 3) := by decide +kernel
theorem dX4_goOn_114 : decode cX4_goOn 114 = .ok (.iload 10, 2) := by decide +kernel
theorem dX4_goOn_116 : decode cX4_goOn 116 = .ok (.laload, 1) := by decide +kernel
theorem dX4_goOn_117 : decode cX4_goOn 117 = .ok (.ladd, 1) := by decide +kernel
theorem dX4_goOn_118 : decode cX4_goOn 118 = .ok (.lload 7, 2) := by decide +kernel
theorem dX4_goOn_120 : decode cX4_goOn 120 = .ok (.aload_n 0, 1) := by decide +kernel
theorem dX4_goOn_121 : decode cX4_goOn 121 = .ok (.getfield 41, 3) := by decide +kernel
theorem dX4_goOn_124 : decode cX4_goOn 124 = .ok (.iload 10, 2) := by decide +kernel
theorem dX4_goOn_126 : decode cX4_goOn 126 = .ok (.laload, 1) := by decide +kernel
theorem dX4_goOn_127 : decode cX4_goOn 127 = .ok (.ladd, 1) := by decide +kernel
theorem dX4_goOn_128 : decode cX4_goOn 128 = .ok (.invokevirtual 70, 3) := by decide +kernel
theorem dX4_goOn_131 : decode cX4_goOn 131 = .ok (.iinc 9 1, 3) := by decide +kernel
theorem dX4_goOn_134 : decode cX4_goOn 134 = .ok (.goto (-131), 3) := by decide +kernel
theorem dX4_goOn_137 : decode cX4_goOn 137 = .ok (.return_, 1) := by decide +kernel
theorem dX4_keep_0 : decode cX4_keep 0 = .ok (.aload_n 0, 1) := by decide +kernel
theorem dX4_keep_1 : decode cX4_keep 1 = .ok (.getfield 44, 3) := by decide +kernel
theorem dX4_keep_4 : decode cX4_keep 4 = .ok (.sipush 1296, 3) := by decide +kernel
theorem dX4_keep_7 : decode cX4_keep 7 = .ok (.if_icmp .ge 44, 3) := by decide +kernel
theorem dX4_keep_10 : decode cX4_keep 10 = .ok (.aload_n 0, 1) := by decide +kernel
theorem dX4_keep_11 : decode cX4_keep 11 = .ok (.getfield 9, 3) := by decide +kernel
theorem dX4_keep_14 : decode cX4_keep 14 = .ok (.aload_n 0, 1) := by decide +kernel
theorem dX4_keep_15 : decode cX4_keep 15 = .ok (.getfield 44, 3) := by decide +kernel
theorem dX4_keep_18 : decode cX4_keep 18 = .ok (.iload_n 1, 1) := by decide +kernel
theorem dX4_keep_19 : decode cX4_keep 19 = .ok (.iastore, 1) := by decide +kernel
theorem dX4_keep_20 : decode cX4_keep 20 = .ok (.aload_n 0, 1) := by decide +kernel
theorem dX4_keep_21 : decode cX4_keep 21 = .ok (.getfield 15, 3) := by decide +kernel
theorem dX4_keep_24 : decode cX4_keep 24 = .ok (.aload_n 0, 1) := by decide +kernel
theorem dX4_keep_25 : decode cX4_keep 25 = .ok (.getfield 44, 3) := by decide +kernel
theorem dX4_keep_28 : decode cX4_keep 28 = .ok (.lload_n 2, 1) := by decide +kernel
theorem dX4_keep_29 : decode cX4_keep 29 = .ok (.lastore, 1) := by decide +kernel
theorem dX4_keep_30 : decode cX4_keep 30 = .ok (.aload_n 0, 1) := by decide +kernel
theorem dX4_keep_31 : decode cX4_keep 31 = .ok (.getfield 19, 3) := by decide +kernel
theorem dX4_keep_34 : decode cX4_keep 34 = .ok (.aload_n 0, 1) := by decide +kernel
theorem dX4_keep_35 : decode cX4_keep 35 = .ok (.getfield 44, 3) := by decide +kernel
theorem dX4_keep_38 : decode cX4_keep 38 = .ok (.lload 4, 2) := by decide +kernel
theorem dX4_keep_40 : decode cX4_keep 40 = .ok (.lastore, 1) := by decide +kernel
theorem dX4_keep_41 : decode cX4_keep 41 = .ok (.aload_n 0, 1) := by decide +kernel
theorem dX4_keep_42 : decode cX4_keep 42 = .ok (.dup, 1) := by decide +kernel
theorem dX4_keep_43 : decode cX4_keep 43 = .ok (.getfield 44, 3) := by decide +kernel
theorem dX4_keep_46 : decode cX4_keep 46 = .ok (.iconst 1, 1) := by decide +kernel
theorem dX4_keep_47 : decode cX4_keep 47 = .ok (.iadd, 1) := by decide +kernel
theorem dX4_keep_48 : decode cX4_keep 48 = .ok (.putfield 44, 3) := by decide +kernel
theorem dX4_keep_51 : decode cX4_keep 51 = .ok (.return_, 1) := by decide +kernel
theorem dX4_order_0 : decode cX4_order 0 = .ok (.aload_n 0, 1) := by decide +kernel
theorem dX4_order_1 : decode cX4_order 1 = .ok (.getfield 15, 3) := by decide +kernel
theorem dX4_order_4 : decode cX4_order 4 = .ok (.iload_n 1, 1) := by decide +kernel
theorem dX4_order_5 : decode cX4_order 5 = .ok (.laload, 1) := by decide +kernel
theorem dX4_order_6 : decode cX4_order 6 = .ok (.aload_n 0, 1) := by decide +kernel
theorem dX4_order_7 : decode cX4_order 7 = .ok (.getfield 19, 3) := by decide +kernel
theorem dX4_order_10 : decode cX4_order 10 = .ok (.iload_n 2, 1) := by decide +kernel
theorem dX4_order_11 : decode cX4_order 11 = .ok (.laload, 1) := by decide +kernel
theorem dX4_order_12 : decode cX4_order 12 = .ok (.lmul, 1) := by decide +kernel
theorem dX4_order_13 : decode cX4_order 13 = .ok (.aload_n 0, 1) := by decide +kernel
theorem dX4_order_14 : decode cX4_order 14 = .ok (.getfield 15, 3) := by decide +kernel
theorem dX4_order_17 : decode cX4_order 17 = .ok (.iload_n 2, 1) := by decide +kernel
theorem dX4_order_18 : decode cX4_order 18 = .ok (.laload, 1) := by decide +kernel
theorem dX4_order_19 : decode cX4_order 19 = .ok (.aload_n 0, 1) := by decide +kernel
theorem dX4_order_20 : decode cX4_order 20 = .ok (.getfield 19, 3) := by decide +kernel
theorem dX4_order_23 : decode cX4_order 23 = .ok (.iload_n 1, 1) := by decide +kernel
theorem dX4_order_24 : decode cX4_order 24 = .ok (.laload, 1) := by decide +kernel
theorem dX4_order_25 : decode cX4_order 25 = .ok (.lmul, 1) := by decide +kernel
theorem dX4_order_26 : decode cX4_order 26 = .ok (.invokestatic 78, 3) := by decide +kernel
theorem dX4_order_29 : decode cX4_order 29 = .ok (.ireturn, 1) := by decide +kernel
theorem dX4_best_0 : decode cX4_best 0 = .ok (.iconst (-1), 1) := by decide +kernel
theorem dX4_best_1 : decode cX4_best 1 = .ok (.istore_n 2, 1) := by decide +kernel
theorem dX4_best_2 : decode cX4_best 2 = .ok (.iconst 0, 1) := by decide +kernel
theorem dX4_best_3 : decode cX4_best 3 = .ok (.istore_n 3, 1) := by decide +kernel
theorem dX4_best_4 : decode cX4_best 4 = .ok (.iload_n 3, 1) := by decide +kernel
theorem dX4_best_5 : decode cX4_best 5 = .ok (.aload_n 0, 1) := by decide +kernel
theorem dX4_best_6 : decode cX4_best 6 = .ok (.getfield 44, 3) := by decide +kernel
theorem dX4_best_9 : decode cX4_best 9 = .ok (.if_icmp .ge 36, 3) := by decide +kernel
theorem dX4_best_12 : decode cX4_best 12 = .ok (.aload_n 0, 1) := by decide +kernel
theorem dX4_best_13 : decode cX4_best 13 = .ok (.getfield 9, 3) := by decide +kernel
theorem dX4_best_16 : decode cX4_best 16 = .ok (.iload_n 3, 1) := by decide +kernel
theorem dX4_best_17 : decode cX4_best 17 = .ok (.iaload, 1) := by decide +kernel
theorem dX4_best_18 : decode cX4_best 18 = .ok (.iload_n 1, 1) := by decide +kernel
theorem dX4_best_19 : decode cX4_best 19 = .ok (.iand, 1) := by decide +kernel
theorem dX4_best_20 : decode cX4_best 20 = .ok (.ifCond .ne 19, 3) := by decide +kernel
theorem dX4_best_23 : decode cX4_best 23 = .ok (.iload_n 2, 1) := by decide +kernel
theorem dX4_best_24 : decode cX4_best 24 = .ok (.iconst (-1), 1) := by decide +kernel
theorem dX4_best_25 : decode cX4_best 25 = .ok (.if_icmp .eq 12, 3) := by decide +kernel
theorem dX4_best_28 : decode cX4_best 28 = .ok (.aload_n 0, 1) := by decide +kernel
theorem dX4_best_29 : decode cX4_best 29 = .ok (.iload_n 3, 1) := by decide +kernel
theorem dX4_best_30 : decode cX4_best 30 = .ok (.iload_n 2, 1) := by decide +kernel
theorem dX4_best_31 : decode cX4_best 31 = .ok (.invokevirtual 84, 3) := by decide +kernel
theorem dX4_best_34 : decode cX4_best 34 = .ok (.ifCond .le 5, 3) := by decide +kernel
theorem dX4_best_37 : decode cX4_best 37 = .ok (.iload_n 3, 1) := by decide +kernel
theorem dX4_best_38 : decode cX4_best 38 = .ok (.istore_n 2, 1) := by decide +kernel
theorem dX4_best_39 : decode cX4_best 39 = .ok (.iinc 3 1, 3) := by decide +kernel
theorem dX4_best_42 : decode cX4_best 42 = .ok (.goto (-38), 3) := by decide +kernel
theorem dX4_best_45 : decode cX4_best 45 = .ok (.iload_n 2, 1) := by decide +kernel
theorem dX4_best_46 : decode cX4_best 46 = .ok (.ireturn, 1) := by decide +kernel
theorem dX4_forget_0 : decode cX4_forget 0 = .ok (.aload_n 0, 1) := by decide +kernel
theorem dX4_forget_1 : decode cX4_forget 1 = .ok (.lconst 0, 1) := by decide +kernel
theorem dX4_forget_2 : decode cX4_forget 2 = .ok (.putfield 88, 3) := by decide +kernel
theorem dX4_forget_5 : decode cX4_forget 5 = .ok (.return_, 1) := by decide +kernel
theorem dX4_rises_0 : decode cX4_rises 0 = .ok (.aload_n 0, 1) := by decide +kernel
theorem dX4_rises_1 : decode cX4_rises 1 = .ok (.aload_n 1, 1) := by decide +kernel
theorem dX4_rises_2 : decode cX4_rises 2 = .ok (.iconst (-1), 1) := by decide +kernel
theorem dX4_rises_3 : decode cX4_rises 3 = .ok (.invokevirtual 92, 3) := by decide +kernel
theorem dX4_rises_6 : decode cX4_rises 6 = .ok (.aload_n 0, 1) := by decide +kernel
theorem dX4_rises_7 : decode cX4_rises 7 = .ok (.iconst 0, 1) := by decide +kernel
theorem dX4_rises_8 : decode cX4_rises 8 = .ok (.invokevirtual 96, 3) := by decide +kernel
theorem dX4_rises_11 : decode cX4_rises 11 = .ok (.istore_n 2, 1) := by decide +kernel
theorem dX4_rises_12 : decode cX4_rises 12 = .ok (.iload_n 2, 1) := by decide +kernel
theorem dX4_rises_13 : decode cX4_rises 13 = .ok (.iconst (-1), 1) := by decide +kernel
theorem dX4_rises_14 : decode cX4_rises 14 = .ok (.if_icmp .ne 5, 3) := by decide +kernel
theorem dX4_rises_17 : decode cX4_rises 17 = .ok (.iconst 0, 1) := by decide +kernel
theorem dX4_rises_18 : decode cX4_rises 18 = .ok (.ireturn, 1) := by decide +kernel
theorem dX4_rises_19 : decode cX4_rises 19 = .ok (.aload_n 0, 1) := by decide +kernel
theorem dX4_rises_20 : decode cX4_rises 20 = .ok (.getfield 88, 3) := by decide +kernel
theorem dX4_rises_23 : decode cX4_rises 23 = .ok (.lconst 0, 1) := by decide +kernel
theorem dX4_rises_24 : decode cX4_rises 24 = .ok (.lcmp, 1) := by decide +kernel
theorem dX4_rises_25 : decode cX4_rises 25 = .ok (.ifCond .eq 31, 3) := by decide +kernel
theorem dX4_rises_28 : decode cX4_rises 28 = .ok (.aload_n 0, 1) := by decide +kernel
theorem dX4_rises_29 : decode cX4_rises 29 = .ok (.getfield 15, 3) := by decide +kernel
theorem dX4_rises_32 : decode cX4_rises 32 = .ok (.iload_n 2, 1) := by decide +kernel
theorem dX4_rises_33 : decode cX4_rises 33 = .ok (.laload, 1) := by decide +kernel
theorem dX4_rises_34 : decode cX4_rises 34 = .ok (.aload_n 0, 1) := by decide +kernel
theorem dX4_rises_35 : decode cX4_rises 35 = .ok (.getfield 88, 3) := by decide +kernel
theorem dX4_rises_38 : decode cX4_rises 38 = .ok (.lmul, 1) := by decide +kernel
theorem dX4_rises_39 : decode cX4_rises 39 = .ok (.aload_n 0, 1) := by decide +kernel
theorem dX4_rises_40 : decode cX4_rises 40 = .ok (.getfield 99, 3) := by decide +kernel
theorem dX4_rises_43 : decode cX4_rises 43 = .ok (.aload_n 0, 1) := by decide +kernel
theorem dX4_rises_44 : decode cX4_rises 44 = .ok (.getfield 19, 3) := by decide +kernel
theorem dX4_rises_47 : decode cX4_rises 47 = .ok (.iload_n 2, 1) := by decide +kernel
theorem dX4_rises_48 : decode cX4_rises 48 = .ok (.laload, 1) := by decide +kernel
theorem dX4_rises_49 : decode cX4_rises 49 = .ok (.lmul, 1) := by decide +kernel
theorem dX4_rises_50 : decode cX4_rises 50 = .ok (.lcmp, 1) := by decide +kernel
theorem dX4_rises_51 : decode cX4_rises 51 = .ok (.ifCond .gt 5, 3) := by decide +kernel
theorem dX4_rises_54 : decode cX4_rises 54 = .ok (.iconst 0, 1) := by decide +kernel
theorem dX4_rises_55 : decode cX4_rises 55 = .ok (.ireturn, 1) := by decide +kernel
theorem dX4_rises_56 : decode cX4_rises 56 = .ok (.aload_n 0, 1) := by decide +kernel
theorem dX4_rises_57 : decode cX4_rises 57 = .ok (.aload_n 0, 1) := by decide +kernel
theorem dX4_rises_58 : decode cX4_rises 58 = .ok (.getfield 15, 3) := by decide +kernel
theorem dX4_rises_61 : decode cX4_rises 61 = .ok (.iload_n 2, 1) := by decide +kernel
theorem dX4_rises_62 : decode cX4_rises 62 = .ok (.laload, 1) := by decide +kernel
theorem dX4_rises_63 : decode cX4_rises 63 = .ok (.putfield 99, 3) := by decide +kernel
theorem dX4_rises_66 : decode cX4_rises 66 = .ok (.aload_n 0, 1) := by decide +kernel
theorem dX4_rises_67 : decode cX4_rises 67 = .ok (.aload_n 0, 1) := by decide +kernel
theorem dX4_rises_68 : decode cX4_rises 68 = .ok (.getfield 19, 3) := by decide +kernel
theorem dX4_rises_71 : decode cX4_rises 71 = .ok (.iload_n 2, 1) := by decide +kernel
theorem dX4_rises_72 : decode cX4_rises 72 = .ok (.laload, 1) := by decide +kernel
theorem dX4_rises_73 : decode cX4_rises 73 = .ok (.putfield 88, 3) := by decide +kernel
theorem dX4_rises_76 : decode cX4_rises 76 = .ok (.iconst 1, 1) := by decide +kernel
theorem dX4_rises_77 : decode cX4_rises 77 = .ok (.ireturn, 1) := by decide +kernel
theorem dX4_missingTo_0 : decode cX4_missingTo 0 = .ok (.aload_n 0, 1) := by decide +kernel
theorem dX4_missingTo_1 : decode cX4_missingTo 1 = .ok (.getfield 19, 3) := by decide +kernel
theorem dX4_missingTo_4 : decode cX4_missingTo 4 = .ok (.iload_n 1, 1) := by decide +kernel
theorem dX4_missingTo_5 : decode cX4_missingTo 5 = .ok (.laload, 1) := by decide +kernel
theorem dX4_missingTo_6 : decode cX4_missingTo 6 = .ok (.lstore 6, 2) := by decide +kernel
theorem dX4_missingTo_8 : decode cX4_missingTo 8 = .ok (.lload 6, 2) := by decide +kernel
theorem dX4_missingTo_10 : decode cX4_missingTo 10 = .ok (.lconst 1, 1) := by decide +kernel
theorem dX4_missingTo_11 : decode cX4_missingTo 11 = .ok (.lcmp, 1) := by decide +kernel
theorem dX4_missingTo_12 : decode cX4_missingTo 12 = .ok (.ifCond .ge 5, 3) := by decide +kernel
theorem dX4_missingTo_15 : decode cX4_missingTo 15 = .ok (.lconst 0, 1) := by decide +kernel
theorem dX4_missingTo_16 : decode cX4_missingTo 16 = .ok (.lreturn, 1) := by decide +kernel
theorem dX4_missingTo_17 : decode cX4_missingTo 17 = .ok (.lload_n 2, 1) := by decide +kernel
theorem dX4_missingTo_18 : decode cX4_missingTo 18 = .ok (.lload 6, 2) := by decide +kernel
theorem dX4_missingTo_20 : decode cX4_missingTo 20 = .ok (.lmul, 1) := by decide +kernel
theorem dX4_missingTo_21 : decode cX4_missingTo 21 = .ok (.aload_n 0, 1) := by decide +kernel
theorem dX4_missingTo_22 : decode cX4_missingTo 22 = .ok (.getfield 15, 3) := by decide +kernel
theorem dX4_missingTo_25 : decode cX4_missingTo 25 = .ok (.iload_n 1, 1) := by decide +kernel
theorem dX4_missingTo_26 : decode cX4_missingTo 26 = .ok (.laload, 1) := by decide +kernel
theorem dX4_missingTo_27 : decode cX4_missingTo 27 = .ok (.lload 4, 2) := by decide +kernel
theorem dX4_missingTo_29 : decode cX4_missingTo 29 = .ok (.lmul, 1) := by decide +kernel
theorem dX4_missingTo_30 : decode cX4_missingTo 30 = .ok (.lsub, 1) := by decide +kernel
theorem dX4_missingTo_31 : decode cX4_missingTo 31 = .ok (.lload 6, 2) := by decide +kernel
theorem dX4_missingTo_33 : decode cX4_missingTo 33 = .ok (.invokestatic 102, 3) := by decide +kernel
theorem dX4_missingTo_36 : decode cX4_missingTo 36 = .ok (.lneg, 1) := by decide +kernel
theorem dX4_missingTo_37 : decode cX4_missingTo 37 = .ok (.lreturn, 1) := by decide +kernel
theorem dX4_lifts_0 : decode cX4_lifts 0 = .ok (.iconst 0, 1) := by decide +kernel
theorem dX4_lifts_1 : decode cX4_lifts 1 = .ok (.istore 8, 2) := by decide +kernel
theorem dX4_lifts_3 : decode cX4_lifts 3 = .ok (.iload 8, 2) := by decide +kernel
theorem dX4_lifts_5 : decode cX4_lifts 5 = .ok (.bipush 6, 2) := by decide +kernel
theorem dX4_lifts_7 : decode cX4_lifts 7 = .ok (.if_icmp .ge 35, 3) := by decide +kernel
theorem dX4_lifts_10 : decode cX4_lifts 10 = .ok (.aload_n 0, 1) := by decide +kernel
theorem dX4_lifts_11 : decode cX4_lifts 11 = .ok (.getfield 25, 3) := by decide +kernel
theorem dX4_lifts_14 : decode cX4_lifts 14 = .ok (.iload 8, 2) := by decide +kernel
theorem dX4_lifts_16 : decode cX4_lifts 16 = .ok (.iload 8, 2) := by decide +kernel
theorem dX4_lifts_18 : decode cX4_lifts 18 = .ok (.iload_n 2, 1) := by decide +kernel
theorem dX4_lifts_19 : decode cX4_lifts 19 = .ok (.if_icmp .ne 7, 3) := by decide +kernel
theorem dX4_lifts_22 : decode cX4_lifts 22 = .ok (.iconst 1, 1) := by decide +kernel
theorem dX4_lifts_23 : decode cX4_lifts 23 = .ok (.goto 4, 3) := by decide +kernel
theorem dX4_lifts_26 : decode cX4_lifts 26 = .ok (.iconst 0, 1) := by decide +kernel
theorem dX4_lifts_27 : decode cX4_lifts 27 = .ok (.bastore, 1) := by decide +kernel
theorem dX4_lifts_28 : decode cX4_lifts 28 = .ok (.aload_n 0, 1) := by decide +kernel
theorem dX4_lifts_29 : decode cX4_lifts 29 = .ok (.getfield 22, 3) := by decide +kernel
theorem dX4_lifts_32 : decode cX4_lifts 32 = .ok (.iload 8, 2) := by decide +kernel
theorem dX4_lifts_34 : decode cX4_lifts 34 = .ok (.lconst 0, 1) := by decide +kernel
theorem dX4_lifts_35 : decode cX4_lifts 35 = .ok (.lastore, 1) := by decide +kernel
theorem dX4_lifts_36 : decode cX4_lifts 36 = .ok (.iinc 8 1, 3) := by decide +kernel
theorem dX4_lifts_39 : decode cX4_lifts 39 = .ok (.goto (-36), 3) := by decide +kernel
theorem dX4_lifts_42 : decode cX4_lifts 42 = .ok (.iconst 1, 1) := by decide +kernel
theorem dX4_lifts_43 : decode cX4_lifts 43 = .ok (.istore 8, 2) := by decide +kernel
theorem dX4_lifts_45 : decode cX4_lifts 45 = .ok (.iload 8, 2) := by decide +kernel
theorem dX4_lifts_47 : decode cX4_lifts 47 = .ok (.aload_n 1, 1) := by decide +kernel
theorem dX4_lifts_48 : decode cX4_lifts 48 = .ok (.getfield 67, 3) := by decide +kernel
theorem dX4_lifts_51 : decode cX4_lifts 51 = .ok (.if_icmp .ge 76, 3) := by decide +kernel
theorem dX4_lifts_54 : decode cX4_lifts 54 = .ok (.iconst 0, 1) := by decide +kernel
theorem dX4_lifts_55 : decode cX4_lifts 55 = .ok (.istore 9, 2) := by decide +kernel
theorem dX4_lifts_57 : decode cX4_lifts 57 = .ok (.iload 9, 2) := by decide +kernel
theorem dX4_lifts_59 : decode cX4_lifts 59 = .ok (.aload_n 1, 1) := by decide +kernel
theorem dX4_lifts_60 : decode cX4_lifts 60 = .ok (.getfield 48, 3) := by decide +kernel
theorem dX4_lifts_63 : decode cX4_lifts 63 = .ok (.if_icmp .ge 58, 3) := by decide +kernel
theorem dX4_lifts_66 : decode cX4_lifts 66 = .ok (.aload_n 1, 1) := by decide +kernel
theorem dX4_lifts_67 : decode cX4_lifts 67 = .ok (.getfield 61, 3) := by decide +kernel
theorem dX4_lifts_70 : decode cX4_lifts 70 = .ok (.iload 9, 2) := by decide +kernel
theorem dX4_lifts_72 : decode cX4_lifts 72 = .ok (.iaload, 1) := by decide +kernel
theorem dX4_lifts_73 : decode cX4_lifts 73 = .ok (.ifCond .ne 42, 3) := by decide +kernel
theorem dX4_lifts_76 : decode cX4_lifts 76 = .ok (.aload_n 0, 1) := by decide +kernel
theorem dX4_lifts_77 : decode cX4_lifts 77 = .ok (.aload_n 1, 1) := by decide +kernel
theorem dX4_lifts_78 : decode cX4_lifts 78 = .ok (.getfield 64, 3) := by decide +kernel
theorem dX4_lifts_81 : decode cX4_lifts 81 = .ok (.iload 9, 2) := by decide +kernel
theorem dX4_lifts_83 : decode cX4_lifts 83 = .ok (.iaload, 1) := by decide +kernel
theorem dX4_lifts_84 : decode cX4_lifts 84 = .ok (.aload_n 1, 1) := by decide +kernel
theorem dX4_lifts_85 : decode cX4_lifts 85 = .ok (.getfield 53, 3) := by decide +kernel
theorem dX4_lifts_88 : decode cX4_lifts 88 = .ok (.iload 9, 2) := by decide +kernel
theorem dX4_lifts_90 : decode cX4_lifts 90 = .ok (.iaload, 1) := by decide +kernel
theorem dX4_lifts_91 : decode cX4_lifts 91 = .ok (.lload 6, 2) := by decide +kernel
theorem dX4_lifts_93 : decode cX4_lifts 93 = .ok (.aload_n 0, 1) := by decide +kernel
theorem dX4_lifts_94 : decode cX4_lifts 94 = .ok (.getfield 38, 3) := by decide +kernel
theorem dX4_lifts_97 : decode cX4_lifts 97 = .ok (.iload 9, 2) := by decide +kernel
theorem dX4_lifts_99 : decode cX4_lifts 99 = .ok (.laload, 1) := by decide +kernel
theorem dX4_lifts_100 : decode cX4_lifts 100 = .ok (.lmul, 1) := by decide +kernel
theorem dX4_lifts_101 : decode cX4_lifts 101 = .ok (.lload 4, 2) := by decide +kernel
theorem dX4_lifts_103 : decode cX4_lifts 103 = .ok (.aload_n 0, 1) := by decide +kernel
theorem dX4_lifts_104 : decode cX4_lifts 104 = .ok (.getfield 41, 3) := by decide +kernel
theorem dX4_lifts_107 : decode cX4_lifts 107 = .ok (.iload 9, 2) := by decide +kernel
theorem dX4_lifts_109 : decode cX4_lifts 109 = .ok (.laload, 1) := by decide +kernel
theorem dX4_lifts_110 : decode cX4_lifts 110 = .ok (.lmul, 1) := by decide +kernel
theorem dX4_lifts_111 : decode cX4_lifts 111 = .ok (.lsub, 1) := by decide +kernel
theorem dX4_lifts_112 : decode cX4_lifts 112 = .ok (.invokevirtual 108, 3) := by decide +kernel
theorem dX4_lifts_115 : decode cX4_lifts 115 = .ok (.iinc 9 1, 3) := by decide +kernel
theorem dX4_lifts_118 : decode cX4_lifts 118 = .ok (.goto (-61), 3) := by decide +kernel
theorem dX4_lifts_121 : decode cX4_lifts 121 = .ok (.iinc 8 1, 3) := by decide +kernel
theorem dX4_lifts_124 : decode cX4_lifts 124 = .ok (.goto (-79), 3) := by decide +kernel
theorem dX4_lifts_127 : decode cX4_lifts 127 = .ok (.aload_n 0, 1) := by decide +kernel
theorem dX4_lifts_128 : decode cX4_lifts 128 = .ok (.getfield 25, 3) := by decide +kernel
theorem dX4_lifts_131 : decode cX4_lifts 131 = .ok (.iload_n 3, 1) := by decide +kernel
theorem dX4_lifts_132 : decode cX4_lifts 132 = .ok (.baload, 1) := by decide +kernel
theorem dX4_lifts_133 : decode cX4_lifts 133 = .ok (.ireturn, 1) := by decide +kernel
theorem dX4_step_0 : decode cX4_step 0 = .ok (.aload_n 0, 1) := by decide +kernel
theorem dX4_step_1 : decode cX4_step 1 = .ok (.getfield 25, 3) := by decide +kernel
theorem dX4_step_4 : decode cX4_step 4 = .ok (.iload_n 1, 1) := by decide +kernel
theorem dX4_step_5 : decode cX4_step 5 = .ok (.baload, 1) := by decide +kernel
theorem dX4_step_6 : decode cX4_step 6 = .ok (.ifCond .eq 51, 3) := by decide +kernel
theorem dX4_step_9 : decode cX4_step 9 = .ok (.aload_n 0, 1) := by decide +kernel
theorem dX4_step_10 : decode cX4_step 10 = .ok (.getfield 25, 3) := by decide +kernel
theorem dX4_step_13 : decode cX4_step 13 = .ok (.iload_n 2, 1) := by decide +kernel
theorem dX4_step_14 : decode cX4_step 14 = .ok (.baload, 1) := by decide +kernel
theorem dX4_step_15 : decode cX4_step 15 = .ok (.ifCond .eq 21, 3) := by decide +kernel
theorem dX4_step_18 : decode cX4_step 18 = .ok (.aload_n 0, 1) := by decide +kernel
theorem dX4_step_19 : decode cX4_step 19 = .ok (.getfield 22, 3) := by decide +kernel
theorem dX4_step_22 : decode cX4_step 22 = .ok (.iload_n 1, 1) := by decide +kernel
theorem dX4_step_23 : decode cX4_step 23 = .ok (.laload, 1) := by decide +kernel
theorem dX4_step_24 : decode cX4_step 24 = .ok (.lload_n 3, 1) := by decide +kernel
theorem dX4_step_25 : decode cX4_step 25 = .ok (.ladd, 1) := by decide +kernel
theorem dX4_step_26 : decode cX4_step 26 = .ok (.aload_n 0, 1) := by decide +kernel
theorem dX4_step_27 : decode cX4_step 27 = .ok (.getfield 22, 3) := by decide +kernel
theorem dX4_step_30 : decode cX4_step 30 = .ok (.iload_n 2, 1) := by decide +kernel
theorem dX4_step_31 : decode cX4_step 31 = .ok (.laload, 1) := by decide +kernel
theorem dX4_step_32 : decode cX4_step 32 = .ok (.lcmp, 1) := by decide +kernel
theorem dX4_step_33 : decode cX4_step 33 = .ok (.ifCond .le 24, 3) := by decide +kernel
theorem dX4_step_36 : decode cX4_step 36 = .ok (.aload_n 0, 1) := by decide +kernel
theorem dX4_step_37 : decode cX4_step 37 = .ok (.getfield 25, 3) := by decide +kernel
theorem dX4_step_40 : decode cX4_step 40 = .ok (.iload_n 2, 1) := by decide +kernel
theorem dX4_step_41 : decode cX4_step 41 = .ok (.iconst 1, 1) := by decide +kernel
theorem dX4_step_42 : decode cX4_step 42 = .ok (.bastore, 1) := by decide +kernel
theorem dX4_step_43 : decode cX4_step 43 = .ok (.aload_n 0, 1) := by decide +kernel
theorem dX4_step_44 : decode cX4_step 44 = .ok (.getfield 22, 3) := by decide +kernel
theorem dX4_step_47 : decode cX4_step 47 = .ok (.iload_n 2, 1) := by decide +kernel
theorem dX4_step_48 : decode cX4_step 48 = .ok (.aload_n 0, 1) := by decide +kernel
theorem dX4_step_49 : decode cX4_step 49 = .ok (.getfield 22, 3) := by decide +kernel
theorem dX4_step_52 : decode cX4_step 52 = .ok (.iload_n 1, 1) := by decide +kernel
theorem dX4_step_53 : decode cX4_step 53 = .ok (.laload, 1) := by decide +kernel
theorem dX4_step_54 : decode cX4_step 54 = .ok (.lload_n 3, 1) := by decide +kernel
theorem dX4_step_55 : decode cX4_step 55 = .ok (.ladd, 1) := by decide +kernel
theorem dX4_step_56 : decode cX4_step 56 = .ok (.lastore, 1) := by decide +kernel
theorem dX4_step_57 : decode cX4_step 57 = .ok (.return_, 1) := by decide +kernel
theorem dX5_init_0 : decode cX5_init 0 = .ok (.aload_n 0, 1) := by decide +kernel
theorem dX5_init_1 : decode cX5_init 1 = .ok (.invokespecial 3, 3) := by decide +kernel
theorem dX5_init_4 : decode cX5_init 4 = .ok (.aload_n 0, 1) := by decide +kernel
theorem dX5_init_5 : decode cX5_init 5 = .ok (.bipush 40, 2) := by decide +kernel
theorem dX5_init_7 : decode cX5_init 7 = .ok (.newarray .long, 2) := by decide +kernel
theorem dX5_init_9 : decode cX5_init 9 = .ok (.putfield 9, 3) := by decide +kernel
theorem dX5_init_12 : decode cX5_init 12 = .ok (.return_, 1) := by decide +kernel
theorem dX5_begin_0 : decode cX5_begin 0 = .ok (.aload_n 0, 1) := by decide +kernel
theorem dX5_begin_1 : decode cX5_begin 1 = .ok (.iload_n 1, 1) := by decide +kernel
theorem dX5_begin_2 : decode cX5_begin 2 = .ok (.putfield 15, 3) := by decide +kernel
theorem dX5_begin_5 : decode cX5_begin 5 = .ok (.aload_n 0, 1) := by decide +kernel
theorem dX5_begin_6 : decode cX5_begin 6 = .ok (.iload_n 2, 1) := by decide +kernel
theorem dX5_begin_7 : decode cX5_begin 7 = .ok (.putfield 19, 3) := by decide +kernel
theorem dX5_begin_10 : decode cX5_begin 10 = .ok (.iconst 0, 1) := by decide +kernel
theorem dX5_begin_11 : decode cX5_begin 11 = .ok (.istore_n 3, 1) := by decide +kernel
theorem dX5_begin_12 : decode cX5_begin 12 = .ok (.iload_n 3, 1) := by decide +kernel
theorem dX5_begin_13 : decode cX5_begin 13 = .ok (.bipush 40, 2) := by decide +kernel
theorem dX5_begin_15 : decode cX5_begin 15 = .ok (.if_icmp .ge 16, 3) := by decide +kernel
theorem dX5_begin_18 : decode cX5_begin 18 = .ok (.aload_n 0, 1) := by decide +kernel
theorem dX5_begin_19 : decode cX5_begin 19 = .ok (.getfield 9, 3) := by decide +kernel
theorem dX5_begin_22 : decode cX5_begin 22 = .ok (.iload_n 3, 1) := by decide +kernel
theorem dX5_begin_23 : decode cX5_begin 23 = .ok (.lconst 0, 1) := by decide +kernel
theorem dX5_begin_24 : decode cX5_begin 24 = .ok (.lastore, 1) := by decide +kernel
theorem dX5_begin_25 : decode cX5_begin 25 = .ok (.iinc 3 1, 3) := by decide +kernel
theorem dX5_begin_28 : decode cX5_begin 28 = .ok (.goto (-16), 3) := by decide +kernel
theorem dX5_begin_31 : decode cX5_begin 31 = .ok (.return_, 1) := by decide +kernel
theorem dX5_hasFraction_0 : decode cX5_hasFraction 0 = .ok (.iload_n 1, 1) := by decide +kernel
theorem dX5_hasFraction_1 : decode cX5_hasFraction 1 = .ok (.iconst 0, 1) := by decide +kernel
theorem dX5_hasFraction_2 : decode cX5_hasFraction 2 = .ok (.aload_n 0, 1) := by decide +kernel
theorem dX5_hasFraction_3 : decode cX5_hasFraction 3 = .ok (.getfield 19, 3) := by decide +kernel
theorem dX5_hasFraction_6 : decode cX5_hasFraction 6 = .ok (.iconst 2, 1) := by decide +kernel
theorem dX5_hasFraction_7 : decode cX5_hasFraction 7 = .ok (.isub, 1) := by decide +kernel
theorem dX5_hasFraction_8 : decode cX5_hasFraction 8 = .ok (.invokestatic 22, 3) := by decide +kernel
theorem dX5_hasFraction_11 : decode cX5_hasFraction 11 = .ok (.ireturn, 1) := by decide +kernel
theorem dX5_hasRun_0 : decode cX5_hasRun 0 = .ok (.iload_n 1, 1) := by decide +kernel
theorem dX5_hasRun_1 : decode cX5_hasRun 1 = .ok (.ifCond .lt 29, 3) := by decide +kernel
theorem dX5_hasRun_4 : decode cX5_hasRun 4 = .ok (.iload_n 2, 1) := by decide +kernel
theorem dX5_hasRun_5 : decode cX5_hasRun 5 = .ok (.iconst 0, 1) := by decide +kernel
theorem dX5_hasRun_6 : decode cX5_hasRun 6 = .ok (.aload_n 0, 1) := by decide +kernel
theorem dX5_hasRun_7 : decode cX5_hasRun 7 = .ok (.getfield 19, 3) := by decide +kernel
theorem dX5_hasRun_10 : decode cX5_hasRun 10 = .ok (.invokestatic 22, 3) := by decide +kernel
theorem dX5_hasRun_13 : decode cX5_hasRun 13 = .ok (.ifCond .eq 17, 3) := by decide +kernel
theorem dX5_hasRun_16 : decode cX5_hasRun 16 = .ok (.iload_n 1, 1) := by decide +kernel
theorem dX5_hasRun_17 : decode cX5_hasRun 17 = .ok (.aload_n 0, 1) := by decide +kernel
theorem dX5_hasRun_18 : decode cX5_hasRun 18 = .ok (.getfield 19, 3) := by decide +kernel
theorem dX5_hasRun_21 : decode cX5_hasRun 21 = .ok (.iload_n 2, 1) := by decide +kernel
theorem dX5_hasRun_22 : decode cX5_hasRun 22 = .ok (.isub, 1) := by decide +kernel
theorem dX5_hasRun_23 : decode cX5_hasRun 23 = .ok (.if_icmp .gt 7, 3) := by decide +kernel
theorem dX5_hasRun_26 : decode cX5_hasRun 26 = .ok (.iconst 1, 1) := by decide +kernel
theorem dX5_hasRun_27 : decode cX5_hasRun 27 = .ok (.goto 4, 3) := by decide +kernel
theorem dX5_hasRun_30 : decode cX5_hasRun 30 = .ok (.iconst 0, 1) := by decide +kernel
theorem dX5_hasRun_31 : decode cX5_hasRun 31 = .ok (.ireturn, 1) := by decide +kernel
theorem dX5_put_0 : decode cX5_put 0 = .ok (.aload_n 0, 1) := by decide +kernel
theorem dX5_put_1 : decode cX5_put 1 = .ok (.getfield 15, 3) := by decide +kernel
theorem dX5_put_4 : decode cX5_put 4 = .ok (.bipush 16, 2) := by decide +kernel
theorem dX5_put_6 : decode cX5_put 6 = .ok (.if_icmp .ne 16, 3) := by decide +kernel
theorem dX5_put_9 : decode cX5_put 9 = .ok (.aload_n 0, 1) := by decide +kernel
theorem dX5_put_10 : decode cX5_put 10 = .ok (.getfield 9, 3) := by decide +kernel
theorem dX5_put_13 : decode cX5_put 13 = .ok (.iload_n 1, 1) := by decide +kernel
theorem dX5_put_14 : decode cX5_put 14 = .ok (.lload_n 2, 1) := by decide +kernel
theorem dX5_put_15 : decode cX5_put 15 = .ok (.l2i, 1) := by decide +kernel
theorem dX5_put_16 : decode cX5_put 16 = .ok (.i2s, 1) := by decide +kernel
theorem dX5_put_17 : decode cX5_put 17 = .ok (.i2l, 1) := by decide +kernel
theorem dX5_put_18 : decode cX5_put 18 = .ok (.lastore, 1) := by decide +kernel
theorem dX5_put_19 : decode cX5_put 19 = .ok (.goto 31, 3) := by decide +kernel
theorem dX5_put_22 : decode cX5_put 22 = .ok (.aload_n 0, 1) := by decide +kernel
theorem dX5_put_23 : decode cX5_put 23 = .ok (.getfield 15, 3) := by decide +kernel
theorem dX5_put_26 : decode cX5_put 26 = .ok (.bipush 32, 2) := by decide +kernel
theorem dX5_put_28 : decode cX5_put 28 = .ok (.if_icmp .ne 15, 3) := by decide +kernel
theorem dX5_put_31 : decode cX5_put 31 = .ok (.aload_n 0, 1) := by decide +kernel
theorem dX5_put_32 : decode cX5_put 32 = .ok (.getfield 9, 3) := by decide +kernel
theorem dX5_put_35 : decode cX5_put 35 = .ok (.iload_n 1, 1) := by decide +kernel
theorem dX5_put_36 : decode cX5_put 36 = .ok (.lload_n 2, 1) := by decide +kernel
theorem dX5_put_37 : decode cX5_put 37 = .ok (.l2i, 1) := by decide +kernel
theorem dX5_put_38 : decode cX5_put 38 = .ok (.i2l, 1) := by decide +kernel
theorem dX5_put_39 : decode cX5_put 39 = .ok (.lastore, 1) := by decide +kernel
theorem dX5_put_40 : decode cX5_put 40 = .ok (.goto 10, 3) := by decide +kernel
theorem dX5_put_43 : decode cX5_put 43 = .ok (.aload_n 0, 1) := by decide +kernel
theorem dX5_put_44 : decode cX5_put 44 = .ok (.getfield 9, 3) := by decide +kernel
theorem dX5_put_47 : decode cX5_put 47 = .ok (.iload_n 1, 1) := by decide +kernel
theorem dX5_put_48 : decode cX5_put 48 = .ok (.lload_n 2, 1) := by decide +kernel
theorem dX5_put_49 : decode cX5_put 49 = .ok (.lastore, 1) := by decide +kernel
theorem dX5_put_50 : decode cX5_put 50 = .ok (.return_, 1) := by decide +kernel
theorem dX6_init_0 : decode cX6_init 0 = .ok (.aload_n 0, 1) := by decide +kernel
theorem dX6_init_1 : decode cX6_init 1 = .ok (.invokespecial 3, 3) := by decide +kernel
theorem dX6_init_4 : decode cX6_init 4 = .ok (.aload_n 0, 1) := by decide +kernel
theorem dX6_init_5 : decode cX6_init 5 = .ok (.bipush 120, 2) := by decide +kernel
theorem dX6_init_7 : decode cX6_init 7 = .ok (.newarray .int, 2) := by decide +kernel
theorem dX6_init_9 : decode cX6_init 9 = .ok (.putfield 9, 3) := by decide +kernel
theorem dX6_init_12 : decode cX6_init 12 = .ok (.return_, 1) := by decide +kernel
theorem dX6_append_0 : decode cX6_append 0 = .ok (.aload_n 0, 1) := by decide +kernel
theorem dX6_append_1 : decode cX6_append 1 = .ok (.getfield 15, 3) := by decide +kernel
theorem dX6_append_4 : decode cX6_append 4 = .ok (.bipush 120, 2) := by decide +kernel
theorem dX6_append_6 : decode cX6_append 6 = .ok (.if_icmp .ge 23, 3) := by decide +kernel
theorem dX6_append_9 : decode cX6_append 9 = .ok (.aload_n 0, 1) := by decide +kernel
theorem dX6_append_10 : decode cX6_append 10 = .ok (.getfield 9, 3) := by decide +kernel
theorem dX6_append_13 : decode cX6_append 13 = .ok (.aload_n 0, 1) := by decide +kernel
theorem dX6_append_14 : decode cX6_append 14 = .ok (.getfield 15, 3) := by decide +kernel
theorem dX6_append_17 : decode cX6_append 17 = .ok (.iload_n 1, 1) := by decide +kernel
theorem dX6_append_18 : decode cX6_append 18 = .ok (.iastore, 1) := by decide +kernel
theorem dX6_append_19 : decode cX6_append 19 = .ok (.aload_n 0, 1) := by decide +kernel
theorem dX6_append_20 : decode cX6_append 20 = .ok (.dup, 1) := by decide +kernel
theorem dX6_append_21 : decode cX6_append 21 = .ok (.getfield 15, 3) := by decide +kernel
theorem dX6_append_24 : decode cX6_append 24 = .ok (.iconst 1, 1) := by decide +kernel
theorem dX6_append_25 : decode cX6_append 25 = .ok (.iadd, 1) := by decide +kernel
theorem dX6_append_26 : decode cX6_append 26 = .ok (.putfield 15, 3) := by decide +kernel
theorem dX6_append_29 : decode cX6_append 29 = .ok (.return_, 1) := by decide +kernel
theorem dX6_tellTo_0 : decode cX6_tellTo 0 = .ok (.aload_n 0, 1) := by decide +kernel
theorem dX6_tellTo_1 : decode cX6_tellTo 1 = .ok (.aload_n 1, 1) := by decide +kernel
theorem dX6_tellTo_2 : decode cX6_tellTo 2 = .ok (.putfield 19, 3) := by decide +kernel
theorem dX6_tellTo_5 : decode cX6_tellTo 5 = .ok (.aload_n 0, 1) := by decide +kernel
theorem dX6_tellTo_6 : decode cX6_tellTo 6 = .ok (.iconst 0, 1) := by decide +kernel
theorem dX6_tellTo_7 : decode cX6_tellTo 7 = .ok (.putfield 23, 3) := by decide +kernel
theorem dX6_tellTo_10 : decode cX6_tellTo 10 = .ok (.aload_n 0, 1) := by decide +kernel
theorem dX6_tellTo_11 : decode cX6_tellTo 11 = .ok (.invokevirtual 26, 3) := by decide +kernel
theorem dX6_tellTo_14 : decode cX6_tellTo 14 = .ok (.iconst 1, 1) := by decide +kernel
theorem dX6_tellTo_15 : decode cX6_tellTo 15 = .ok (.istore_n 2, 1) := by decide +kernel
theorem dX6_tellTo_16 : decode cX6_tellTo 16 = .ok (.iload_n 2, 1) := by decide +kernel
theorem dX6_tellTo_17 : decode cX6_tellTo 17 = .ok (.bipush 120, 2) := by decide +kernel
theorem dX6_tellTo_19 : decode cX6_tellTo 19 = .ok (.if_icmp .gt 51, 3) := by decide +kernel
theorem dX6_tellTo_22 : decode cX6_tellTo 22 = .ok (.aload_n 0, 1) := by decide +kernel
theorem dX6_tellTo_23 : decode cX6_tellTo 23 = .ok (.invokevirtual 29, 3) := by decide +kernel
theorem dX6_tellTo_26 : decode cX6_tellTo 26 = .ok (.ifCond .ne 10, 3) := by decide +kernel
theorem dX6_tellTo_29 : decode cX6_tellTo 29 = .ok (.iconst (-1), 1) := by decide +kernel
theorem dX6_tellTo_30 : decode cX6_tellTo 30 = .ok (.aload_n 0, 1) := by decide +kernel
theorem dX6_tellTo_31 : decode cX6_tellTo 31 = .ok (.getfield 33, 3) := by decide +kernel
theorem dX6_tellTo_34 : decode cX6_tellTo 34 = .ok (.isub, 1) := by decide +kernel
theorem dX6_tellTo_35 : decode cX6_tellTo 35 = .ok (.ireturn, 1) := by decide +kernel
theorem dX6_tellTo_36 : decode cX6_tellTo 36 = .ok (.aload_n 0, 1) := by decide +kernel
theorem dX6_tellTo_37 : decode cX6_tellTo 37 = .ok (.getfield 36, 3) := by decide +kernel
theorem dX6_tellTo_40 : decode cX6_tellTo 40 = .ok (.ifCond .ne 5, 3) := by decide +kernel
theorem dX6_tellTo_43 : decode cX6_tellTo 43 = .ok (.iload_n 2, 1) := by decide +kernel
theorem dX6_tellTo_44 : decode cX6_tellTo 44 = .ok (.ireturn, 1) := by decide +kernel
theorem dX6_tellTo_45 : decode cX6_tellTo 45 = .ok (.aload_n 0, 1) := by decide +kernel
theorem dX6_tellTo_46 : decode cX6_tellTo 46 = .ok (.getfield 36, 3) := by decide +kernel
theorem dX6_tellTo_49 : decode cX6_tellTo 49 = .ok (.iconst 3, 1) := by decide +kernel
theorem dX6_tellTo_50 : decode cX6_tellTo 50 = .ok (.if_icmp .eq 10, 3) := by decide +kernel
theorem dX6_tellTo_53 : decode cX6_tellTo 53 = .ok (.iconst (-1), 1) := by decide +kernel
theorem dX6_tellTo_54 : decode cX6_tellTo 54 = .ok (.aload_n 0, 1) := by decide +kernel
theorem dX6_tellTo_55 : decode cX6_tellTo 55 = .ok (.getfield 33, 3) := by decide +kernel
theorem dX6_tellTo_58 : decode cX6_tellTo 58 = .ok (.isub, 1) := by decide +kernel
theorem dX6_tellTo_59 : decode cX6_tellTo 59 = .ok (.ireturn, 1) := by decide +kernel
theorem dX6_tellTo_60 : decode cX6_tellTo 60 = .ok (.aload_n 0, 1) := by decide +kernel
theorem dX6_tellTo_61 : decode cX6_tellTo 61 = .ok (.invokevirtual 26, 3) := by decide +kernel
theorem dX6_tellTo_64 : decode cX6_tellTo 64 = .ok (.iinc 2 1, 3) := by decide +kernel
theorem dX6_tellTo_67 : decode cX6_tellTo 67 = .ok (.goto (-51), 3) := by decide +kernel
theorem dX6_tellTo_70 : decode cX6_tellTo 70 = .ok (.iconst (-1), 1) := by decide +kernel
theorem dX6_tellTo_71 : decode cX6_tellTo 71 = .ok (.aload_n 0, 1) := by decide +kernel
theorem dX6_tellTo_72 : decode cX6_tellTo 72 = .ok (.getfield 33, 3) := by decide +kernel
theorem dX6_tellTo_75 : decode cX6_tellTo 75 = .ok (.isub, 1) := by decide +kernel
theorem dX6_tellTo_76 : decode cX6_tellTo 76 = .ok (.ireturn, 1) := by decide +kernel
theorem dX6_item_0 : decode cX6_item 0 = .ok (.aload_n 0, 1) := by decide +kernel
theorem dX6_item_1 : decode cX6_item 1 = .ok (.ldc 39, 2) := by decide +kernel
theorem dX6_item_3 : decode cX6_item 3 = .ok (.invokevirtual 41, 3) := by decide +kernel
theorem dX6_item_6 : decode cX6_item 6 = .ok (.ifCond .eq 12, 3) := by decide +kernel
theorem dX6_item_9 : decode cX6_item 9 = .ok (.aload_n 0, 1) := by decide +kernel
theorem dX6_item_10 : decode cX6_item 10 = .ok (.invokevirtual 26, 3) := by decide +kernel
theorem dX6_item_13 : decode cX6_item 13 = .ok (.aload_n 0, 1) := by decide +kernel
theorem dX6_item_14 : decode cX6_item 14 = .ok (.invokevirtual 45, 3) := by decide +kernel
theorem dX6_item_17 : decode cX6_item 17 = .ok (.ireturn, 1) := by decide +kernel
theorem dX6_item_18 : decode cX6_item 18 = .ok (.aload_n 0, 1) := by decide +kernel
theorem dX6_item_19 : decode cX6_item 19 = .ok (.ldc 48, 2) := by decide +kernel
theorem dX6_item_21 : decode cX6_item 21 = .ok (.invokevirtual 41, 3) := by decide +kernel
theorem dX6_item_24 : decode cX6_item 24 = .ok (.ifCond .eq 12, 3) := by decide +kernel
theorem dX6_item_27 : decode cX6_item 27 = .ok (.aload_n 0, 1) := by decide +kernel
theorem dX6_item_28 : decode cX6_item 28 = .ok (.invokevirtual 26, 3) := by decide +kernel
theorem dX6_item_31 : decode cX6_item 31 = .ok (.aload_n 0, 1) := by decide +kernel
theorem dX6_item_32 : decode cX6_item 32 = .ok (.invokevirtual 50, 3) := by decide +kernel
theorem dX6_item_35 : decode cX6_item 35 = .ok (.ireturn, 1) := by decide +kernel
theorem dX6_item_36 : decode cX6_item 36 = .ok (.aload_n 0, 1) := by decide +kernel
theorem dX6_item_37 : decode cX6_item 37 = .ok (.ldc 53, 2) := by decide +kernel
theorem dX6_item_39 : decode cX6_item 39 = .ok (.invokevirtual 41, 3) := by decide +kernel
theorem dX6_item_42 : decode cX6_item 42 = .ok (.ifCond .eq 8, 3) := by decide +kernel
theorem dX6_item_45 : decode cX6_item 45 = .ok (.aload_n 0, 1) := by decide +kernel
theorem dX6_item_46 : decode cX6_item 46 = .ok (.invokevirtual 55, 3) := by decide +kernel
theorem dX6_item_49 : decode cX6_item 49 = .ok (.ireturn, 1) := by decide +kernel
theorem dX6_item_50 : decode cX6_item 50 = .ok (.aload_n 0, 1) := by decide +kernel
theorem dX6_item_51 : decode cX6_item 51 = .ok (.aload_n 0, 1) := by decide +kernel
theorem dX6_item_52 : decode cX6_item 52 = .ok (.invokevirtual 58, 3) := by decide +kernel
theorem dX6_item_55 : decode cX6_item 55 = .ok (.invokevirtual 62, 3) := by decide +kernel
theorem dX6_item_58 : decode cX6_item 58 = .ok (.ireturn, 1) := by decide +kernel
theorem dX6_placesItem_0 : decode cX6_placesItem 0 = .ok (.aload_n 0, 1) := by decide +kernel
theorem dX6_placesItem_1 : decode cX6_placesItem 1 = .ok (.aload_n 0, 1) := by decide +kernel
theorem dX6_placesItem_2 : decode cX6_placesItem 2 = .ok (.getfield 19, 3) := by decide +kernel
theorem dX6_placesItem_5 : decode cX6_placesItem 5 = .ok (.getfield 66, 3) := by decide +kernel
theorem dX6_placesItem_8 : decode cX6_placesItem 8 = .ok (.bipush 6, 2) := by decide +kernel
theorem dX6_placesItem_10 : decode cX6_placesItem 10 = .ok (.invokevirtual 70, 3) := by decide +kernel
theorem dX6_placesItem_13 : decode cX6_placesItem 13 = .ok (.ifCond .ne 5, 3) := by decide +kernel
theorem dX6_placesItem_16 : decode cX6_placesItem 16 = .ok (.iconst 0, 1) := by decide +kernel
theorem dX6_placesItem_17 : decode cX6_placesItem 17 = .ok (.ireturn, 1) := by decide +kernel
theorem dX6_placesItem_18 : decode cX6_placesItem 18 = .ok (.aload_n 0, 1) := by decide +kernel
theorem dX6_placesItem_19 : decode cX6_placesItem 19 = .ok (.getfield 19, 3) := by decide +kernel
theorem dX6_placesItem_22 : decode cX6_placesItem 22 = .ok (.aload_n 0, 1) := by decide +kernel
theorem dX6_placesItem_23 : decode cX6_placesItem 23 = .ok (.getfield 74, 3) := by decide +kernel
theorem dX6_placesItem_26 : decode cX6_placesItem 26 = .ok (.putfield 66, 3) := by decide +kernel
theorem dX6_placesItem_29 : decode cX6_placesItem 29 = .ok (.aload_n 0, 1) := by decide +kernel
theorem dX6_placesItem_30 : decode cX6_placesItem 30 = .ok (.invokevirtual 26, 3) := by decide +kernel
theorem dX6_placesItem_33 : decode cX6_placesItem 33 = .ok (.iconst 1, 1) := by decide +kernel
theorem dX6_placesItem_34 : decode cX6_placesItem 34 = .ok (.ireturn, 1) := by decide +kernel
theorem dX6_weatherItem_0 : decode cX6_weatherItem 0 = .ok (.aload_n 0, 1) := by decide +kernel
theorem dX6_weatherItem_1 : decode cX6_weatherItem 1 = .ok (.iconst 0, 1) := by decide +kernel
theorem dX6_weatherItem_2 : decode cX6_weatherItem 2 = .ok (.iconst 5, 1) := by decide +kernel
theorem dX6_weatherItem_3 : decode cX6_weatherItem 3 = .ok (.invokevirtual 70, 3) := by decide +kernel
theorem dX6_weatherItem_6 : decode cX6_weatherItem 6 = .ok (.ifCond .ne 5, 3) := by decide +kernel
theorem dX6_weatherItem_9 : decode cX6_weatherItem 9 = .ok (.iconst 0, 1) := by decide +kernel
theorem dX6_weatherItem_10 : decode cX6_weatherItem 10 = .ok (.ireturn, 1) := by decide +kernel
theorem dX6_weatherItem_11 : decode cX6_weatherItem 11 = .ok (.aload_n 0, 1) := by decide +kernel
theorem dX6_weatherItem_12 : decode cX6_weatherItem 12 = .ok (.getfield 19, 3) := by decide +kernel
theorem dX6_weatherItem_15 : decode cX6_weatherItem 15 = .ok (.aload_n 0, 1) := by decide +kernel
theorem dX6_weatherItem_16 : decode cX6_weatherItem 16 = .ok (.getfield 74, 3) := by decide +kernel
theorem dX6_weatherItem_19 : decode cX6_weatherItem 19 = .ok (.putfield 77, 3) := by decide +kernel
theorem dX6_weatherItem_22 : decode cX6_weatherItem 22 = .ok (.aload_n 0, 1) := by decide +kernel
theorem dX6_weatherItem_23 : decode cX6_weatherItem 23 = .ok (.invokevirtual 26, 3) := by decide +kernel
theorem dX6_weatherItem_26 : decode cX6_weatherItem 26 = .ok (.iconst 1, 1) := by decide +kernel
theorem dX6_weatherItem_27 : decode cX6_weatherItem 27 = .ok (.ireturn, 1) := by decide +kernel
theorem dX6_thingItem_0 : decode cX6_thingItem 0 = .ok (.aload_n 0, 1) := by decide +kernel
theorem dX6_thingItem_1 : decode cX6_thingItem 1 = .ok (.getfield 19, 3) := by decide +kernel
theorem dX6_thingItem_4 : decode cX6_thingItem 4 = .ok (.getfield 79, 3) := by decide +kernel
theorem dX6_thingItem_7 : decode cX6_thingItem 7 = .ok (.bipush 12, 2) := by decide +kernel
theorem dX6_thingItem_9 : decode cX6_thingItem 9 = .ok (.if_icmp .lt 5, 3) := by decide +kernel
theorem dX6_thingItem_12 : decode cX6_thingItem 12 = .ok (.iconst 0, 1) := by decide +kernel
theorem dX6_thingItem_13 : decode cX6_thingItem 13 = .ok (.ireturn, 1) := by decide +kernel
theorem dX6_thingItem_14 : decode cX6_thingItem 14 = .ok (.aload_n 0, 1) := by decide +kernel
theorem dX6_thingItem_15 : decode cX6_thingItem 15 = .ok (.invokevirtual 26, 3) := by decide +kernel
theorem dX6_thingItem_18 : decode cX6_thingItem 18 = .ok (.aload_n 0, 1) := by decide +kernel
theorem dX6_thingItem_19 : decode cX6_thingItem 19 = .ok (.invokevirtual 82, 3) := by decide +kernel
theorem dX6_thingItem_22 : decode cX6_thingItem 22 = .ok (.ifCond .ne 5, 3) := by decide +kernel
theorem dX6_thingItem_25 : decode cX6_thingItem 25 = .ok (.iconst 0, 1) := by decide +kernel
theorem dX6_thingItem_26 : decode cX6_thingItem 26 = .ok (.ireturn, 1) := by decide +kernel
theorem dX6_thingItem_27 : decode cX6_thingItem 27 = .ok (.aload_n 0, 1) := by decide +kernel
theorem dX6_thingItem_28 : decode cX6_thingItem 28 = .ok (.getfield 19, 3) := by decide +kernel
theorem dX6_thingItem_31 : decode cX6_thingItem 31 = .ok (.aload_n 0, 1) := by decide +kernel
theorem dX6_thingItem_32 : decode cX6_thingItem 32 = .ok (.getfield 85, 3) := by decide +kernel
theorem dX6_thingItem_35 : decode cX6_thingItem 35 = .ok (.aload_n 0, 1) := by decide +kernel
theorem dX6_thingItem_36 : decode cX6_thingItem 36 = .ok (.getfield 88, 3) := by decide +kernel
theorem dX6_thingItem_39 : decode cX6_thingItem 39 = .ok (.invokevirtual 91, 3) := by decide +kernel
theorem dX6_thingItem_42 : decode cX6_thingItem 42 = .ok (.pop, 1) := by decide +kernel
theorem dX6_thingItem_43 : decode cX6_thingItem 43 = .ok (.iconst 1, 1) := by decide +kernel
theorem dX6_thingItem_44 : decode cX6_thingItem 44 = .ok (.ireturn, 1) := by decide +kernel
theorem dX6_wayItem_0 : decode cX6_wayItem 0 = .ok (.iload_n 1, 1) := by decide +kernel
theorem dX6_wayItem_1 : decode cX6_wayItem 1 = .ok (.ifCond .lt 15, 3) := by decide +kernel
theorem dX6_wayItem_4 : decode cX6_wayItem 4 = .ok (.aload_n 0, 1) := by decide +kernel
theorem dX6_wayItem_5 : decode cX6_wayItem 5 = .ok (.getfield 19, 3) := by decide +kernel
theorem dX6_wayItem_8 : decode cX6_wayItem 8 = .ok (.getfield 95, 3) := by decide +kernel
theorem dX6_wayItem_11 : decode cX6_wayItem 11 = .ok (.bipush 14, 2) := by decide +kernel
theorem dX6_wayItem_13 : decode cX6_wayItem 13 = .ok (.if_icmp .lt 5, 3) := by decide +kernel
theorem dX6_wayItem_16 : decode cX6_wayItem 16 = .ok (.iconst 0, 1) := by decide +kernel
theorem dX6_wayItem_17 : decode cX6_wayItem 17 = .ok (.ireturn, 1) := by decide +kernel
theorem dX6_wayItem_18 : decode cX6_wayItem 18 = .ok (.aload_n 0, 1) := by decide +kernel
theorem dX6_wayItem_19 : decode cX6_wayItem 19 = .ok (.invokevirtual 26, 3) := by decide +kernel
theorem dX6_wayItem_22 : decode cX6_wayItem 22 = .ok (.aload_n 0, 1) := by decide +kernel
theorem dX6_wayItem_23 : decode cX6_wayItem 23 = .ok (.iconst 0, 1) := by decide +kernel
theorem dX6_wayItem_24 : decode cX6_wayItem 24 = .ok (.aload_n 0, 1) := by decide +kernel
theorem dX6_wayItem_25 : decode cX6_wayItem 25 = .ok (.getfield 19, 3) := by decide +kernel
theorem dX6_wayItem_28 : decode cX6_wayItem 28 = .ok (.getfield 66, 3) := by decide +kernel
theorem dX6_wayItem_31 : decode cX6_wayItem 31 = .ok (.iconst 1, 1) := by decide +kernel
theorem dX6_wayItem_32 : decode cX6_wayItem 32 = .ok (.isub, 1) := by decide +kernel
theorem dX6_wayItem_33 : decode cX6_wayItem 33 = .ok (.invokevirtual 70, 3) := by decide +kernel
theorem dX6_wayItem_36 : decode cX6_wayItem 36 = .ok (.ifCond .ne 5, 3) := by decide +kernel
theorem dX6_wayItem_39 : decode cX6_wayItem 39 = .ok (.iconst 0, 1) := by decide +kernel
theorem dX6_wayItem_40 : decode cX6_wayItem 40 = .ok (.ireturn, 1) := by decide +kernel
theorem dX6_wayItem_41 : decode cX6_wayItem 41 = .ok (.aload_n 0, 1) := by decide +kernel
theorem dX6_wayItem_42 : decode cX6_wayItem 42 = .ok (.getfield 74, 3) := by decide +kernel
theorem dX6_wayItem_45 : decode cX6_wayItem 45 = .ok (.istore_n 2, 1) := by decide +kernel
theorem dX6_wayItem_46 : decode cX6_wayItem 46 = .ok (.aload_n 0, 1) := by decide +kernel
theorem dX6_wayItem_47 : decode cX6_wayItem 47 = .ok (.invokevirtual 26, 3) := by decide +kernel
theorem dX6_wayItem_50 : decode cX6_wayItem 50 = .ok (.aload_n 0, 1) := by decide +kernel
theorem dX6_wayItem_51 : decode cX6_wayItem 51 = .ok (.iconst 0, 1) := by decide +kernel
theorem dX6_wayItem_52 : decode cX6_wayItem 52 = .ok (.aload_n 0, 1) := by decide +kernel
theorem dX6_wayItem_53 : decode cX6_wayItem 53 = .ok (.getfield 19, 3) := by decide +kernel
theorem dX6_wayItem_56 : decode cX6_wayItem 56 = .ok (.getfield 66, 3) := by decide +kernel
theorem dX6_wayItem_59 : decode cX6_wayItem 59 = .ok (.iconst 1, 1) := by decide +kernel
theorem dX6_wayItem_60 : decode cX6_wayItem 60 = .ok (.isub, 1) := by decide +kernel
theorem dX6_wayItem_61 : decode cX6_wayItem 61 = .ok (.invokevirtual 70, 3) := by decide +kernel
theorem dX6_wayItem_64 : decode cX6_wayItem 64 = .ok (.ifCond .eq 11, 3) := by decide +kernel
theorem dX6_wayItem_67 : decode cX6_wayItem 67 = .ok (.aload_n 0, 1) := by decide +kernel
theorem dX6_wayItem_68 : decode cX6_wayItem 68 = .ok (.getfield 74, 3) := by decide +kernel
theorem dX6_wayItem_71 : decode cX6_wayItem 71 = .ok (.iload_n 2, 1) := by decide +kernel
theorem dX6_wayItem_72 : decode cX6_wayItem 72 = .ok (.if_icmp .ne 5, 3) := by decide +kernel
theorem dX6_wayItem_75 : decode cX6_wayItem 75 = .ok (.iconst 0, 1) := by decide +kernel
theorem dX6_wayItem_76 : decode cX6_wayItem 76 = .ok (.ireturn, 1) := by decide +kernel
theorem dX6_wayItem_77 : decode cX6_wayItem 77 = .ok (.aload_n 0, 1) := by decide +kernel
theorem dX6_wayItem_78 : decode cX6_wayItem 78 = .ok (.getfield 74, 3) := by decide +kernel
theorem dX6_wayItem_81 : decode cX6_wayItem 81 = .ok (.istore_n 3, 1) := by decide +kernel
theorem dX6_wayItem_82 : decode cX6_wayItem 82 = .ok (.aload_n 0, 1) := by decide +kernel
theorem dX6_wayItem_83 : decode cX6_wayItem 83 = .ok (.invokevirtual 26, 3) := by decide +kernel
theorem dX6_wayItem_86 : decode cX6_wayItem 86 = .ok (.aload_n 0, 1) := by decide +kernel
theorem dX6_wayItem_87 : decode cX6_wayItem 87 = .ok (.invokevirtual 82, 3) := by decide +kernel
theorem dX6_wayItem_90 : decode cX6_wayItem 90 = .ok (.ifCond .ne 5, 3) := by decide +kernel
theorem dX6_wayItem_93 : decode cX6_wayItem 93 = .ok (.iconst 0, 1) := by decide +kernel
theorem dX6_wayItem_94 : decode cX6_wayItem 94 = .ok (.ireturn, 1) := by decide +kernel
theorem dX6_wayItem_95 : decode cX6_wayItem 95 = .ok (.aload_n 0, 1) := by decide +kernel
theorem dX6_wayItem_96 : decode cX6_wayItem 96 = .ok (.getfield 19, 3) := by decide +kernel
theorem dX6_wayItem_99 : decode cX6_wayItem 99 = .ok (.iload_n 1, 1) := by decide +kernel
theorem dX6_wayItem_100 : decode cX6_wayItem 100 = .ok (.iload_n 2, 1) := by decide +kernel
theorem dX6_wayItem_101 : decode cX6_wayItem 101 = .ok (.iload_n 3, 1) := by decide +kernel
theorem dX6_wayItem_102 : decode cX6_wayItem 102 = .ok (.aload_n 0, 1) := by decide +kernel
theorem dX6_wayItem_103 : decode cX6_wayItem 103 = .ok (.getfield 85, 3) := by decide +kernel
theorem dX6_wayItem_106 : decode cX6_wayItem 106 = .ok (.aload_n 0, 1) := by decide +kernel
theorem dX6_wayItem_107 : decode cX6_wayItem 107 = .ok (.getfield 88, 3) := by decide +kernel
theorem dX6_wayItem_110 : decode cX6_wayItem 110 = .ok (.invokevirtual 98, 3) := by decide +kernel
theorem dX6_wayItem_113 : decode cX6_wayItem 113 = .ok (.istore 4, 2) := by decide +kernel
theorem dX6_wayItem_115 : decode cX6_wayItem 115 = .ok (.aload_n 0, 1) := by decide +kernel
theorem dX6_wayItem_116 : decode cX6_wayItem 116 = .ok (.ldc 102, 2) := by decide +kernel
theorem dX6_wayItem_118 : decode cX6_wayItem 118 = .ok (.invokevirtual 41, 3) := by decide +kernel
theorem dX6_wayItem_121 : decode cX6_wayItem 121 = .ok (.ifCond .eq 18, 3) := by decide +kernel
theorem dX6_wayItem_124 : decode cX6_wayItem 124 = .ok (.aload_n 0, 1) := by decide +kernel
theorem dX6_wayItem_125 : decode cX6_wayItem 125 = .ok (.getfield 19, 3) := by decide +kernel
theorem dX6_wayItem_128 : decode cX6_wayItem 128 = .ok (.getfield 104, 3) := by decide +kernel
theorem dX6_wayItem_131 : decode cX6_wayItem 131 = .ok (.iload 4, 2) := by decide +kernel
theorem dX6_wayItem_133 : decode cX6_wayItem 133 = .ok (.iconst 1, 1) := by decide +kernel
theorem dX6_wayItem_134 : decode cX6_wayItem 134 = .ok (.iastore, 1) := by decide +kernel
theorem dX6_wayItem_135 : decode cX6_wayItem 135 = .ok (.aload_n 0, 1) := by decide +kernel
theorem dX6_wayItem_136 : decode cX6_wayItem 136 = .ok (.invokevirtual 26, 3) := by decide +kernel
theorem dX6_wayItem_139 : decode cX6_wayItem 139 = .ok (.iconst 1, 1) := by decide +kernel
theorem dX6_wayItem_140 : decode cX6_wayItem 140 = .ok (.ireturn, 1) := by decide +kernel
theorem dX6_gainAndTime_0 : decode cX6_gainAndTime 0 = .ok (.aload_n 0, 1) := by decide +kernel
theorem dX6_gainAndTime_1 : decode cX6_gainAndTime 1 = .ok (.iconst 0, 1) := by decide +kernel
theorem dX6_gainAndTime_2 : decode cX6_gainAndTime 2 = .ok (.putfield 85, 3) := by decide +kernel
theorem dX6_gainAndTime_5 : decode cX6_gainAndTime 5 = .ok (.aload_n 0, 1) := by decide +kernel
theorem dX6_gainAndTime_6 : decode cX6_gainAndTime 6 = .ok (.iconst 1, 1) := by decide +kernel
theorem dX6_gainAndTime_7 : decode cX6_gainAndTime 7 = .ok (.putfield 88, 3) := by decide +kernel
theorem dX6_gainAndTime_10 : decode cX6_gainAndTime 10 = .ok (.aload_n 0, 1) := by decide +kernel
theorem dX6_gainAndTime_11 : decode cX6_gainAndTime 11 = .ok (.ldc 106, 2) := by decide +kernel
theorem dX6_gainAndTime_13 : decode cX6_gainAndTime 13 = .ok (.invokevirtual 41, 3) := by decide +kernel
theorem dX6_gainAndTime_16 : decode cX6_gainAndTime 16 = .ok (.istore_n 1, 1) := by decide +kernel
theorem dX6_gainAndTime_17 : decode cX6_gainAndTime 17 = .ok (.iload_n 1, 1) := by decide +kernel
theorem dX6_gainAndTime_18 : decode cX6_gainAndTime 18 = .ok (.ifCond .ne 12, 3) := by decide +kernel
theorem dX6_gainAndTime_21 : decode cX6_gainAndTime 21 = .ok (.aload_n 0, 1) := by decide +kernel
theorem dX6_gainAndTime_22 : decode cX6_gainAndTime 22 = .ok (.ldc 108, 2) := by decide +kernel
theorem dX6_gainAndTime_24 : decode cX6_gainAndTime 24 = .ok (.invokevirtual 41, 3) := by decide +kernel
theorem dX6_gainAndTime_27 : decode cX6_gainAndTime 27 = .ok (.ifCond .eq 43, 3) := by decide +kernel
theorem dX6_gainAndTime_30 : decode cX6_gainAndTime 30 = .ok (.aload_n 0, 1) := by decide +kernel
theorem dX6_gainAndTime_31 : decode cX6_gainAndTime 31 = .ok (.invokevirtual 26, 3) := by decide +kernel
theorem dX6_gainAndTime_34 : decode cX6_gainAndTime 34 = .ok (.aload_n 0, 1) := by decide +kernel
theorem dX6_gainAndTime_35 : decode cX6_gainAndTime 35 = .ok (.iconst 0, 1) := by decide +kernel
theorem dX6_gainAndTime_36 : decode cX6_gainAndTime 36 = .ok (.ldc 109, 2) := by decide +kernel
theorem dX6_gainAndTime_38 : decode cX6_gainAndTime 38 = .ok (.invokevirtual 70, 3) := by decide +kernel
theorem dX6_gainAndTime_41 : decode cX6_gainAndTime 41 = .ok (.ifCond .ne 5, 3) := by decide +kernel
theorem dX6_gainAndTime_44 : decode cX6_gainAndTime 44 = .ok (.iconst 0, 1) := by decide +kernel
theorem dX6_gainAndTime_45 : decode cX6_gainAndTime 45 = .ok (.ireturn, 1) := by decide +kernel
theorem dX6_gainAndTime_46 : decode cX6_gainAndTime 46 = .ok (.aload_n 0, 1) := by decide +kernel
theorem dX6_gainAndTime_47 : decode cX6_gainAndTime 47 = .ok (.iload_n 1, 1) := by decide +kernel
theorem dX6_gainAndTime_48 : decode cX6_gainAndTime 48 = .ok (.ifCond .eq 11, 3) := by decide +kernel
theorem dX6_gainAndTime_51 : decode cX6_gainAndTime 51 = .ok (.aload_n 0, 1) := by decide +kernel
theorem dX6_gainAndTime_52 : decode cX6_gainAndTime 52 = .ok (.getfield 74, 3) := by decide +kernel
theorem dX6_gainAndTime_55 : decode cX6_gainAndTime 55 = .ok (.ineg, 1) := by decide +kernel
theorem dX6_gainAndTime_56 : decode cX6_gainAndTime 56 = .ok (.goto 7, 3) := by decide +kernel
theorem dX6_gainAndTime_59 : decode cX6_gainAndTime 59 = .ok (.aload_n 0, 1) := by decide +kernel
theorem dX6_gainAndTime_60 : decode cX6_gainAndTime 60 = .ok (.getfield 74, 3) := by decide +kernel
theorem dX6_gainAndTime_63 : decode cX6_gainAndTime 63 = .ok (.putfield 85, 3) := by decide +kernel
theorem dX6_gainAndTime_66 : decode cX6_gainAndTime 66 = .ok (.aload_n 0, 1) := by decide +kernel
theorem dX6_gainAndTime_67 : decode cX6_gainAndTime 67 = .ok (.invokevirtual 26, 3) := by decide +kernel
theorem dX6_gainAndTime_70 : decode cX6_gainAndTime 70 = .ok (.aload_n 0, 1) := by decide +kernel
theorem dX6_gainAndTime_71 : decode cX6_gainAndTime 71 = .ok (.ldc 110, 2) := by decide +kernel
theorem dX6_gainAndTime_73 : decode cX6_gainAndTime 73 = .ok (.invokevirtual 41, 3) := by decide +kernel
theorem dX6_gainAndTime_76 : decode cX6_gainAndTime 76 = .ok (.ifCond .eq 31, 3) := by decide +kernel
theorem dX6_gainAndTime_79 : decode cX6_gainAndTime 79 = .ok (.aload_n 0, 1) := by decide +kernel
theorem dX6_gainAndTime_80 : decode cX6_gainAndTime 80 = .ok (.invokevirtual 26, 3) := by decide +kernel
theorem dX6_gainAndTime_83 : decode cX6_gainAndTime 83 = .ok (.aload_n 0, 1) := by decide +kernel
theorem dX6_gainAndTime_84 : decode cX6_gainAndTime 84 = .ok (.iconst 1, 1) := by decide +kernel
theorem dX6_gainAndTime_85 : decode cX6_gainAndTime 85 = .ok (.ldc 109, 2) := by decide +kernel
theorem dX6_gainAndTime_87 : decode cX6_gainAndTime 87 = .ok (.invokevirtual 70, 3) := by decide +kernel
theorem dX6_gainAndTime_90 : decode cX6_gainAndTime 90 = .ok (.ifCond .ne 5, 3) := by decide +kernel
theorem dX6_gainAndTime_93 : decode cX6_gainAndTime 93 = .ok (.iconst 0, 1) := by decide +kernel
theorem dX6_gainAndTime_94 : decode cX6_gainAndTime 94 = .ok (.ireturn, 1) := by decide +kernel
theorem dX6_gainAndTime_95 : decode cX6_gainAndTime 95 = .ok (.aload_n 0, 1) := by decide +kernel
theorem dX6_gainAndTime_96 : decode cX6_gainAndTime 96 = .ok (.aload_n 0, 1) := by decide +kernel
theorem dX6_gainAndTime_97 : decode cX6_gainAndTime 97 = .ok (.getfield 74, 3) := by decide +kernel
theorem dX6_gainAndTime_100 : decode cX6_gainAndTime 100 = .ok (.putfield 88, 3) := by decide +kernel
theorem dX6_gainAndTime_103 : decode cX6_gainAndTime 103 = .ok (.aload_n 0, 1) := by decide +kernel
theorem dX6_gainAndTime_104 : decode cX6_gainAndTime 104 = .ok (.invokevirtual 26, 3) := by decide +kernel
theorem dX6_gainAndTime_107 : decode cX6_gainAndTime 107 = .ok (.iconst 1, 1) := by decide +kernel
theorem dX6_gainAndTime_108 : decode cX6_gainAndTime 108 = .ok (.ireturn, 1) := by decide +kernel
theorem dX6_kindTold_0 : decode cX6_kindTold 0 = .ok (.aload_n 0, 1) := by decide +kernel
theorem dX6_kindTold_1 : decode cX6_kindTold 1 = .ok (.ldc 111, 2) := by decide +kernel
theorem dX6_kindTold_3 : decode cX6_kindTold 3 = .ok (.invokevirtual 41, 3) := by decide +kernel
theorem dX6_kindTold_6 : decode cX6_kindTold 6 = .ok (.ifCond .eq 5, 3) := by decide +kernel
theorem dX6_kindTold_9 : decode cX6_kindTold 9 = .ok (.iconst 0, 1) := by decide +kernel
theorem dX6_kindTold_10 : decode cX6_kindTold 10 = .ok (.ireturn, 1) := by decide +kernel
theorem dX6_kindTold_11 : decode cX6_kindTold 11 = .ok (.aload_n 0, 1) := by decide +kernel
theorem dX6_kindTold_12 : decode cX6_kindTold 12 = .ok (.ldc 113, 2) := by decide +kernel
theorem dX6_kindTold_14 : decode cX6_kindTold 14 = .ok (.invokevirtual 41, 3) := by decide +kernel
theorem dX6_kindTold_17 : decode cX6_kindTold 17 = .ok (.ifCond .eq 5, 3) := by decide +kernel
theorem dX6_kindTold_20 : decode cX6_kindTold 20 = .ok (.iconst 1, 1) := by decide +kernel
theorem dX6_kindTold_21 : decode cX6_kindTold 21 = .ok (.ireturn, 1) := by decide +kernel
theorem dX6_kindTold_22 : decode cX6_kindTold 22 = .ok (.aload_n 0, 1) := by decide +kernel
theorem dX6_kindTold_23 : decode cX6_kindTold 23 = .ok (.ldc 115, 2) := by decide +kernel
theorem dX6_kindTold_25 : decode cX6_kindTold 25 = .ok (.invokevirtual 41, 3) := by decide +kernel
theorem dX6_kindTold_28 : decode cX6_kindTold 28 = .ok (.ifCond .eq 5, 3) := by decide +kernel
theorem dX6_kindTold_31 : decode cX6_kindTold 31 = .ok (.iconst 2, 1) := by decide +kernel
theorem dX6_kindTold_32 : decode cX6_kindTold 32 = .ok (.ireturn, 1) := by decide +kernel
theorem dX6_kindTold_33 : decode cX6_kindTold 33 = .ok (.aload_n 0, 1) := by decide +kernel
theorem dX6_kindTold_34 : decode cX6_kindTold 34 = .ok (.ldc 117, 2) := by decide +kernel
theorem dX6_kindTold_36 : decode cX6_kindTold 36 = .ok (.invokevirtual 41, 3) := by decide +kernel
theorem dX6_kindTold_39 : decode cX6_kindTold 39 = .ok (.ifCond .eq 5, 3) := by decide +kernel
theorem dX6_kindTold_42 : decode cX6_kindTold 42 = .ok (.iconst 3, 1) := by decide +kernel
theorem dX6_kindTold_43 : decode cX6_kindTold 43 = .ok (.ireturn, 1) := by decide +kernel
theorem dX6_kindTold_44 : decode cX6_kindTold 44 = .ok (.aload_n 0, 1) := by decide +kernel
theorem dX6_kindTold_45 : decode cX6_kindTold 45 = .ok (.ldc 119, 2) := by decide +kernel
theorem dX6_kindTold_47 : decode cX6_kindTold 47 = .ok (.invokevirtual 41, 3) := by decide +kernel
theorem dX6_kindTold_50 : decode cX6_kindTold 50 = .ok (.ifCond .eq 5, 3) := by decide +kernel
theorem dX6_kindTold_53 : decode cX6_kindTold 53 = .ok (.iconst 4, 1) := by decide +kernel
theorem dX6_kindTold_54 : decode cX6_kindTold 54 = .ok (.ireturn, 1) := by decide +kernel
theorem dX6_kindTold_55 : decode cX6_kindTold 55 = .ok (.aload_n 0, 1) := by decide +kernel
theorem dX6_kindTold_56 : decode cX6_kindTold 56 = .ok (.ldc 121, 2) := by decide +kernel
theorem dX6_kindTold_58 : decode cX6_kindTold 58 = .ok (.invokevirtual 41, 3) := by decide +kernel
theorem dX6_kindTold_61 : decode cX6_kindTold 61 = .ok (.ifCond .eq 7, 3) := by decide +kernel
theorem dX6_kindTold_64 : decode cX6_kindTold 64 = .ok (.iconst 5, 1) := by decide +kernel
theorem dX6_kindTold_65 : decode cX6_kindTold 65 = .ok (.goto 4, 3) := by decide +kernel
theorem dX6_kindTold_68 : decode cX6_kindTold 68 = .ok (.iconst (-1), 1) := by decide +kernel
theorem dX6_kindTold_69 : decode cX6_kindTold 69 = .ok (.ireturn, 1) := by decide +kernel
theorem dX6_isNumber_0 : decode cX6_isNumber 0 = .ok (.aload_n 0, 1) := by decide +kernel
theorem dX6_isNumber_1 : decode cX6_isNumber 1 = .ok (.getfield 36, 3) := by decide +kernel
theorem dX6_isNumber_4 : decode cX6_isNumber 4 = .ok (.iconst 2, 1) := by decide +kernel
theorem dX6_isNumber_5 : decode cX6_isNumber 5 = .ok (.if_icmp .ne 19, 3) := by decide +kernel
theorem dX6_isNumber_8 : decode cX6_isNumber 8 = .ok (.aload_n 0, 1) := by decide +kernel
theorem dX6_isNumber_9 : decode cX6_isNumber 9 = .ok (.getfield 74, 3) := by decide +kernel
theorem dX6_isNumber_12 : decode cX6_isNumber 12 = .ok (.iload_n 1, 1) := by decide +kernel
theorem dX6_isNumber_13 : decode cX6_isNumber 13 = .ok (.iload_n 2, 1) := by decide +kernel
theorem dX6_isNumber_14 : decode cX6_isNumber 14 = .ok (.invokestatic 123, 3) := by decide +kernel
theorem dX6_isNumber_17 : decode cX6_isNumber 17 = .ok (.ifCond .eq 7, 3) := by decide +kernel
theorem dX6_isNumber_20 : decode cX6_isNumber 20 = .ok (.iconst 1, 1) := by decide +kernel
theorem dX6_isNumber_21 : decode cX6_isNumber 21 = .ok (.goto 4, 3) := by decide +kernel
theorem dX6_isNumber_24 : decode cX6_isNumber 24 = .ok (.iconst 0, 1) := by decide +kernel
theorem dX6_isNumber_25 : decode cX6_isNumber 25 = .ok (.ireturn, 1) := by decide +kernel
theorem dX6_isWord_0 : decode cX6_isWord 0 = .ok (.aload_n 0, 1) := by decide +kernel
theorem dX6_isWord_1 : decode cX6_isWord 1 = .ok (.getfield 36, 3) := by decide +kernel
theorem dX6_isWord_4 : decode cX6_isWord 4 = .ok (.iconst 1, 1) := by decide +kernel
theorem dX6_isWord_5 : decode cX6_isWord 5 = .ok (.if_icmp .ne 19, 3) := by decide +kernel
theorem dX6_isWord_8 : decode cX6_isWord 8 = .ok (.aload_n 0, 1) := by decide +kernel
theorem dX6_isWord_9 : decode cX6_isWord 9 = .ok (.getfield 23, 3) := by decide +kernel
theorem dX6_isWord_12 : decode cX6_isWord 12 = .ok (.aload_n 0, 1) := by decide +kernel
theorem dX6_isWord_13 : decode cX6_isWord 13 = .ok (.getfield 33, 3) := by decide +kernel
theorem dX6_isWord_16 : decode cX6_isWord 16 = .ok (.isub, 1) := by decide +kernel
theorem dX6_isWord_17 : decode cX6_isWord 17 = .ok (.aload_n 1, 1) := by decide +kernel
theorem dX6_isWord_18 : decode cX6_isWord 18 = .ok (.invokevirtual 127, 3) := by decide +kernel
theorem dX6_isWord_21 : decode cX6_isWord 21 = .ok (.if_icmp .eq 5, 3) := by decide +kernel
theorem dX6_isWord_24 : decode cX6_isWord 24 = .ok (.iconst 0, 1) := by decide +kernel
theorem dX6_isWord_25 : decode cX6_isWord 25 = .ok (.ireturn, 1) := by decide +kernel
theorem dX6_isWord_26 : decode cX6_isWord 26 = .ok (.iconst 0, 1) := by decide +kernel
theorem dX6_isWord_27 : decode cX6_isWord 27 = .ok (.istore_n 2, 1) := by decide +kernel
theorem dX6_isWord_28 : decode cX6_isWord 28 = .ok (.iload_n 2, 1) := by decide +kernel
theorem dX6_isWord_29 : decode cX6_isWord 29 = .ok (.aload_n 1, 1) := by decide +kernel
theorem dX6_isWord_30 : decode cX6_isWord 30 = .ok (.invokevirtual 127, 3) := by decide +kernel
theorem dX6_isWord_33 : decode cX6_isWord 33 = .ok (.if_icmp .ge 30, 3) := by decide +kernel
theorem dX6_isWord_36 : decode cX6_isWord 36 = .ok (.aload_n 0, 1) := by decide +kernel
theorem dX6_isWord_37 : decode cX6_isWord 37 = .ok (.getfield 9, 3) := by decide +kernel
theorem dX6_isWord_40 : decode cX6_isWord 40 = .ok (.aload_n 0, 1) := by decide +kernel
theorem dX6_isWord_41 : decode cX6_isWord 41 = .ok (.getfield 33, 3) := by decide +kernel
theorem dX6_isWord_44 : decode cX6_isWord 44 = .ok (.iload_n 2, 1) := by decide +kernel
theorem dX6_isWord_45 : decode cX6_isWord 45 = .ok (.iadd, 1) := by decide +kernel
theorem dX6_isWord_46 : decode cX6_isWord 46 = .ok (.iaload, 1) := by decide +kernel
theorem dX6_isWord_47 : decode cX6_isWord 47 = .ok (.aload_n 1, 1) := by decide +kernel
theorem dX6_isWord_48 : decode cX6_isWord 48 = .ok (.iload_n 2, 1) := by decide +kernel
theorem dX6_isWord_49 : decode cX6_isWord 49 = .ok (.invokevirtual 131, 3) := by decide +kernel
theorem dX6_isWord_52 : decode cX6_isWord 52 = .ok (.if_icmp .eq 5, 3) := by decide +kernel
theorem dX6_isWord_55 : decode cX6_isWord 55 = .ok (.iconst 0, 1) := by decide +kernel
theorem dX6_isWord_56 : decode cX6_isWord 56 = .ok (.ireturn, 1) := by decide +kernel
theorem dX6_isWord_57 : decode cX6_isWord 57 = .ok (.iinc 2 1, 3) := by decide +kernel
theorem dX6_isWord_60 : decode cX6_isWord 60 = .ok (.goto (-32), 3) := by decide +kernel
theorem dX6_isWord_63 : decode cX6_isWord 63 = .ok (.iconst 1, 1) := by decide +kernel
theorem dX6_isWord_64 : decode cX6_isWord 64 = .ok (.ireturn, 1) := by decide +kernel
theorem dX6_next_0 : decode cX6_next 0 = .ok (.aload_n 0, 1) := by decide +kernel
theorem dX6_next_1 : decode cX6_next 1 = .ok (.getfield 23, 3) := by decide +kernel
theorem dX6_next_4 : decode cX6_next 4 = .ok (.aload_n 0, 1) := by decide +kernel
theorem dX6_next_5 : decode cX6_next 5 = .ok (.getfield 15, 3) := by decide +kernel
theorem dX6_next_8 : decode cX6_next 8 = .ok (.if_icmp .ge 30, 3) := by decide +kernel
theorem dX6_next_11 : decode cX6_next 11 = .ok (.aload_n 0, 1) := by decide +kernel
theorem dX6_next_12 : decode cX6_next 12 = .ok (.getfield 9, 3) := by decide +kernel
theorem dX6_next_15 : decode cX6_next 15 = .ok (.aload_n 0, 1) := by decide +kernel
theorem dX6_next_16 : decode cX6_next 16 = .ok (.getfield 23, 3) := by decide +kernel
theorem dX6_next_19 : decode cX6_next 19 = .ok (.iaload, 1) := by decide +kernel
theorem dX6_next_20 : decode cX6_next 20 = .ok (.bipush 32, 2) := by decide +kernel
theorem dX6_next_22 : decode cX6_next 22 = .ok (.if_icmp .ne 16, 3) := by decide +kernel
theorem dX6_next_25 : decode cX6_next 25 = .ok (.aload_n 0, 1) := by decide +kernel
theorem dX6_next_26 : decode cX6_next 26 = .ok (.dup, 1) := by decide +kernel
theorem dX6_next_27 : decode cX6_next 27 = .ok (.getfield 23, 3) := by decide +kernel
theorem dX6_next_30 : decode cX6_next 30 = .ok (.iconst 1, 1) := by decide +kernel
theorem dX6_next_31 : decode cX6_next 31 = .ok (.iadd, 1) := by decide +kernel
theorem dX6_next_32 : decode cX6_next 32 = .ok (.putfield 23, 3) := by decide +kernel
theorem dX6_next_35 : decode cX6_next 35 = .ok (.goto (-35), 3) := by decide +kernel
theorem dX6_next_38 : decode cX6_next 38 = .ok (.aload_n 0, 1) := by decide +kernel
theorem dX6_next_39 : decode cX6_next 39 = .ok (.aload_n 0, 1) := by decide +kernel
theorem dX6_next_40 : decode cX6_next 40 = .ok (.getfield 23, 3) := by decide +kernel
theorem dX6_next_43 : decode cX6_next 43 = .ok (.putfield 33, 3) := by decide +kernel
theorem dX6_next_46 : decode cX6_next 46 = .ok (.aload_n 0, 1) := by decide +kernel
theorem dX6_next_47 : decode cX6_next 47 = .ok (.getfield 33, 3) := by decide +kernel
theorem dX6_next_50 : decode cX6_next 50 = .ok (.aload_n 0, 1) := by decide +kernel
theorem dX6_next_51 : decode cX6_next 51 = .ok (.getfield 15, 3) := by decide +kernel
theorem dX6_next_54 : decode cX6_next 54 = .ok (.if_icmp .lt 11, 3) := by decide +kernel
theorem dX6_next_57 : decode cX6_next 57 = .ok (.aload_n 0, 1) := by decide +kernel
theorem dX6_next_58 : decode cX6_next 58 = .ok (.iconst 0, 1) := by decide +kernel
theorem dX6_next_59 : decode cX6_next 59 = .ok (.putfield 36, 3) := by decide +kernel
theorem dX6_next_62 : decode cX6_next 62 = .ok (.goto 122, 3) := by decide +kernel
theorem dX6_next_65 : decode cX6_next 65 = .ok (.aload_n 0, 1) := by decide +kernel
theorem dX6_next_66 : decode cX6_next 66 = .ok (.getfield 9, 3) := by decide +kernel
theorem dX6_next_69 : decode cX6_next 69 = .ok (.aload_n 0, 1) := by decide +kernel
theorem dX6_next_70 : decode cX6_next 70 = .ok (.getfield 33, 3) := by decide +kernel
theorem dX6_next_73 : decode cX6_next 73 = .ok (.iaload, 1) := by decide +kernel
theorem dX6_next_74 : decode cX6_next 74 = .ok (.invokestatic 135, 3) := by decide +kernel
theorem dX6_next_77 : decode cX6_next 77 = .ok (.ifCond .eq 47, 3) := by decide +kernel
theorem dX6_next_80 : decode cX6_next 80 = .ok (.aload_n 0, 1) := by decide +kernel
theorem dX6_next_81 : decode cX6_next 81 = .ok (.iconst 1, 1) := by decide +kernel
theorem dX6_next_82 : decode cX6_next 82 = .ok (.putfield 36, 3) := by decide +kernel
theorem dX6_next_85 : decode cX6_next 85 = .ok (.aload_n 0, 1) := by decide +kernel
theorem dX6_next_86 : decode cX6_next 86 = .ok (.getfield 23, 3) := by decide +kernel
theorem dX6_next_89 : decode cX6_next 89 = .ok (.aload_n 0, 1) := by decide +kernel
theorem dX6_next_90 : decode cX6_next 90 = .ok (.getfield 15, 3) := by decide +kernel
theorem dX6_next_93 : decode cX6_next 93 = .ok (.if_icmp .ge 91, 3) := by decide +kernel
theorem dX6_next_96 : decode cX6_next 96 = .ok (.aload_n 0, 1) := by decide +kernel
theorem dX6_next_97 : decode cX6_next 97 = .ok (.getfield 9, 3) := by decide +kernel
theorem dX6_next_100 : decode cX6_next 100 = .ok (.aload_n 0, 1) := by decide +kernel
theorem dX6_next_101 : decode cX6_next 101 = .ok (.getfield 23, 3) := by decide +kernel
theorem dX6_next_104 : decode cX6_next 104 = .ok (.iaload, 1) := by decide +kernel
theorem dX6_next_105 : decode cX6_next 105 = .ok (.invokestatic 135, 3) := by decide +kernel
theorem dX6_next_108 : decode cX6_next 108 = .ok (.ifCond .eq 76, 3) := by decide +kernel
theorem dX6_next_111 : decode cX6_next 111 = .ok (.aload_n 0, 1) := by decide +kernel
theorem dX6_next_112 : decode cX6_next 112 = .ok (.dup, 1) := by decide +kernel
theorem dX6_next_113 : decode cX6_next 113 = .ok (.getfield 23, 3) := by decide +kernel
theorem dX6_next_116 : decode cX6_next 116 = .ok (.iconst 1, 1) := by decide +kernel
theorem dX6_next_117 : decode cX6_next 117 = .ok (.iadd, 1) := by decide +kernel
theorem dX6_next_118 : decode cX6_next 118 = .ok (.putfield 23, 3) := by decide +kernel
theorem dX6_next_121 : decode cX6_next 121 = .ok (.goto (-36), 3) := by decide +kernel
theorem dX6_next_124 : decode cX6_next 124 = .ok (.aload_n 0, 1) := by decide +kernel
theorem dX6_next_125 : decode cX6_next 125 = .ok (.getfield 9, 3) := by decide +kernel
theorem dX6_next_128 : decode cX6_next 128 = .ok (.aload_n 0, 1) := by decide +kernel
theorem dX6_next_129 : decode cX6_next 129 = .ok (.getfield 33, 3) := by decide +kernel
theorem dX6_next_132 : decode cX6_next 132 = .ok (.iaload, 1) := by decide +kernel
theorem dX6_next_133 : decode cX6_next 133 = .ok (.invokestatic 138, 3) := by decide +kernel
theorem dX6_next_136 : decode cX6_next 136 = .ok (.ifCond .eq 15, 3) := by decide +kernel
theorem dX6_next_139 : decode cX6_next 139 = .ok (.aload_n 0, 1) := by decide +kernel
theorem dX6_next_140 : decode cX6_next 140 = .ok (.iconst 2, 1) := by decide +kernel
theorem dX6_next_141 : decode cX6_next 141 = .ok (.putfield 36, 3) := by decide +kernel
theorem dX6_next_144 : decode cX6_next 144 = .ok (.aload_n 0, 1) := by decide +kernel
theorem dX6_next_145 : decode cX6_next 145 = .ok (.invokevirtual 141, 3) := by decide +kernel
theorem dX6_next_148 : decode cX6_next 148 = .ok (.goto 36, 3) := by decide +kernel
theorem dX6_next_151 : decode cX6_next 151 = .ok (.aload_n 0, 1) := by decide +kernel
theorem dX6_next_152 : decode cX6_next 152 = .ok (.aload_n 0, 1) := by decide +kernel
theorem dX6_next_153 : decode cX6_next 153 = .ok (.getfield 9, 3) := by decide +kernel
theorem dX6_next_156 : decode cX6_next 156 = .ok (.aload_n 0, 1) := by decide +kernel
theorem dX6_next_157 : decode cX6_next 157 = .ok (.getfield 33, 3) := by decide +kernel
theorem dX6_next_160 : decode cX6_next 160 = .ok (.iaload, 1) := by decide +kernel
theorem dX6_next_161 : decode cX6_next 161 = .ok (.bipush 59, 2) := by decide +kernel
theorem dX6_next_163 : decode cX6_next 163 = .ok (.if_icmp .ne 7, 3) := by decide +kernel
theorem dX6_next_166 : decode cX6_next 166 = .ok (.iconst 3, 1) := by decide +kernel
theorem dX6_next_167 : decode cX6_next 167 = .ok (.goto 4, 3) := by decide +kernel
theorem dX6_next_170 : decode cX6_next 170 = .ok (.iconst 4, 1) := by decide +kernel
theorem dX6_next_171 : decode cX6_next 171 = .ok (.putfield 36, 3) := by decide +kernel
theorem dX6_next_174 : decode cX6_next 174 = .ok (.aload_n 0, 1) := by decide +kernel
theorem dX6_next_175 : decode cX6_next 175 = .ok (.dup, 1) := by decide +kernel
theorem dX6_next_176 : decode cX6_next 176 = .ok (.getfield 23, 3) := by decide +kernel
theorem dX6_next_179 : decode cX6_next 179 = .ok (.iconst 1, 1) := by decide +kernel
theorem dX6_next_180 : decode cX6_next 180 = .ok (.iadd, 1) := by decide +kernel
theorem dX6_next_181 : decode cX6_next 181 = .ok (.putfield 23, 3) := by decide +kernel
theorem dX6_next_184 : decode cX6_next 184 = .ok (.return_, 1) := by decide +kernel
theorem dX6_takeDigits_0 : decode cX6_takeDigits 0 = .ok (.aload_n 0, 1) := by decide +kernel
theorem dX6_takeDigits_1 : decode cX6_takeDigits 1 = .ok (.iconst 0, 1) := by decide +kernel
theorem dX6_takeDigits_2 : decode cX6_takeDigits 2 = .ok (.putfield 74, 3) := by decide +kernel
theorem dX6_takeDigits_5 : decode cX6_takeDigits 5 = .ok (.aload_n 0, 1) := by decide +kernel
theorem dX6_takeDigits_6 : decode cX6_takeDigits 6 = .ok (.getfield 23, 3) := by decide +kernel
theorem dX6_takeDigits_9 : decode cX6_takeDigits 9 = .ok (.aload_n 0, 1) := by decide +kernel
theorem dX6_takeDigits_10 : decode cX6_takeDigits 10 = .ok (.getfield 15, 3) := by decide +kernel
theorem dX6_takeDigits_13 : decode cX6_takeDigits 13 = .ok (.if_icmp .ge 60, 3) := by decide +kernel
theorem dX6_takeDigits_16 : decode cX6_takeDigits 16 = .ok (.aload_n 0, 1) := by decide +kernel
theorem dX6_takeDigits_17 : decode cX6_takeDigits 17 = .ok (.getfield 9, 3) := by decide +kernel
theorem dX6_takeDigits_20 : decode cX6_takeDigits 20 = .ok (.aload_n 0, 1) := by decide +kernel
theorem dX6_takeDigits_21 : decode cX6_takeDigits 21 = .ok (.getfield 23, 3) := by decide +kernel
theorem dX6_takeDigits_24 : decode cX6_takeDigits 24 = .ok (.iaload, 1) := by decide +kernel
theorem dX6_takeDigits_25 : decode cX6_takeDigits 25 = .ok (.invokestatic 138, 3) := by decide +kernel
theorem dX6_takeDigits_28 : decode cX6_takeDigits 28 = .ok (.ifCond .eq 45, 3) := by decide +kernel
theorem dX6_takeDigits_31 : decode cX6_takeDigits 31 = .ok (.aload_n 0, 1) := by decide +kernel
theorem dX6_takeDigits_32 : decode cX6_takeDigits 32 = .ok (.aload_n 0, 1) := by decide +kernel
theorem dX6_takeDigits_33 : decode cX6_takeDigits 33 = .ok (.getfield 74, 3) := by decide +kernel
theorem dX6_takeDigits_36 : decode cX6_takeDigits 36 = .ok (.bipush 10, 2) := by decide +kernel
theorem dX6_takeDigits_38 : decode cX6_takeDigits 38 = .ok (.imul, 1) := by decide +kernel
theorem dX6_takeDigits_39 : decode cX6_takeDigits 39 = .ok (.aload_n 0, 1) := by decide +kernel
theorem dX6_takeDigits_40 : decode cX6_takeDigits 40 = .ok (.getfield 9, 3) := by decide +kernel
theorem dX6_takeDigits_43 : decode cX6_takeDigits 43 = .ok (.aload_n 0, 1) := by decide +kernel
theorem dX6_takeDigits_44 : decode cX6_takeDigits 44 = .ok (.getfield 23, 3) := by decide +kernel
theorem dX6_takeDigits_47 : decode cX6_takeDigits 47 = .ok (.iaload, 1) := by decide +kernel
theorem dX6_takeDigits_48 : decode cX6_takeDigits 48 = .ok (.iadd, 1) := by decide +kernel
theorem dX6_takeDigits_49 : decode cX6_takeDigits 49 = .ok (.bipush 48, 2) := by decide +kernel
theorem dX6_takeDigits_51 : decode cX6_takeDigits 51 = .ok (.isub, 1) := by decide +kernel
theorem dX6_takeDigits_52 : decode cX6_takeDigits 52 = .ok (.ldc 144, 2) := by decide +kernel
theorem dX6_takeDigits_54 : decode cX6_takeDigits 54 = .ok (.invokestatic 145, 3) := by decide +kernel
theorem dX6_takeDigits_57 : decode cX6_takeDigits 57 = .ok (.putfield 74, 3) := by decide +kernel
theorem dX6_takeDigits_60 : decode cX6_takeDigits 60 = .ok (.aload_n 0, 1) := by decide +kernel
theorem dX6_takeDigits_61 : decode cX6_takeDigits 61 = .ok (.dup, 1) := by decide +kernel
theorem dX6_takeDigits_62 : decode cX6_takeDigits 62 = .ok (.getfield 23, 3) := by decide +kernel
theorem dX6_takeDigits_65 : decode cX6_takeDigits 65 = .ok (.iconst 1, 1) := by decide +kernel
theorem dX6_takeDigits_66 : decode cX6_takeDigits 66 = .ok (.iadd, 1) := by decide +kernel
theorem dX6_takeDigits_67 : decode cX6_takeDigits 67 = .ok (.putfield 23, 3) := by decide +kernel
theorem dX6_takeDigits_70 : decode cX6_takeDigits 70 = .ok (.goto (-65), 3) := by decide +kernel
theorem dX6_takeDigits_73 : decode cX6_takeDigits 73 = .ok (.return_, 1) := by decide +kernel
theorem dX6_isLetter_0 : decode cX6_isLetter 0 = .ok (.iload_n 0, 1) := by decide +kernel
theorem dX6_isLetter_1 : decode cX6_isLetter 1 = .ok (.bipush 97, 2) := by decide +kernel
theorem dX6_isLetter_3 : decode cX6_isLetter 3 = .ok (.if_icmp .lt 13, 3) := by decide +kernel
theorem dX6_isLetter_6 : decode cX6_isLetter 6 = .ok (.iload_n 0, 1) := by decide +kernel
theorem dX6_isLetter_7 : decode cX6_isLetter 7 = .ok (.bipush 122, 2) := by decide +kernel
theorem dX6_isLetter_9 : decode cX6_isLetter 9 = .ok (.if_icmp .gt 7, 3) := by decide +kernel
theorem dX6_isLetter_12 : decode cX6_isLetter 12 = .ok (.iconst 1, 1) := by decide +kernel
theorem dX6_isLetter_13 : decode cX6_isLetter 13 = .ok (.goto 4, 3) := by decide +kernel
theorem dX6_isLetter_16 : decode cX6_isLetter 16 = .ok (.iconst 0, 1) := by decide +kernel
theorem dX6_isLetter_17 : decode cX6_isLetter 17 = .ok (.ireturn, 1) := by decide +kernel
theorem dX6_isDigit_0 : decode cX6_isDigit 0 = .ok (.iload_n 0, 1) := by decide +kernel
theorem dX6_isDigit_1 : decode cX6_isDigit 1 = .ok (.bipush 48, 2) := by decide +kernel
theorem dX6_isDigit_3 : decode cX6_isDigit 3 = .ok (.if_icmp .lt 13, 3) := by decide +kernel
theorem dX6_isDigit_6 : decode cX6_isDigit 6 = .ok (.iload_n 0, 1) := by decide +kernel
theorem dX6_isDigit_7 : decode cX6_isDigit 7 = .ok (.bipush 57, 2) := by decide +kernel
theorem dX6_isDigit_9 : decode cX6_isDigit 9 = .ok (.if_icmp .gt 7, 3) := by decide +kernel
theorem dX6_isDigit_12 : decode cX6_isDigit 12 = .ok (.iconst 1, 1) := by decide +kernel
theorem dX6_isDigit_13 : decode cX6_isDigit 13 = .ok (.goto 4, 3) := by decide +kernel
theorem dX6_isDigit_16 : decode cX6_isDigit 16 = .ok (.iconst 0, 1) := by decide +kernel
theorem dX6_isDigit_17 : decode cX6_isDigit 17 = .ok (.ireturn, 1) := by decide +kernel
theorem dX7_init_0 : decode cX7_init 0 = .ok (.aload_n 0, 1) := by decide +kernel
theorem dX7_init_1 : decode cX7_init 1 = .ok (.invokespecial 3, 3) := by decide +kernel
theorem dX7_init_4 : decode cX7_init 4 = .ok (.aload_n 0, 1) := by decide +kernel
theorem dX7_init_5 : decode cX7_init 5 = .ok (.new 9, 3) := by decide +kernel
theorem dX7_init_8 : decode cX7_init 8 = .ok (.dup, 1) := by decide +kernel
theorem dX7_init_9 : decode cX7_init 9 = .ok (.invokespecial 11, 3) := by decide +kernel
theorem dX7_init_12 : decode cX7_init 12 = .ok (.putfield 12, 3) := by decide +kernel
theorem dX7_init_15 : decode cX7_init 15 = .ok (.return_, 1) := by decide +kernel
theorem dX7_climbs_0 : decode cX7_climbs 0 = .ok (.aload_n 0, 1) := by decide +kernel
theorem dX7_climbs_1 : decode cX7_climbs 1 = .ok (.aload_n 1, 1) := by decide +kernel
theorem dX7_climbs_2 : decode cX7_climbs 2 = .ok (.putfield 18, 3) := by decide +kernel
theorem dX7_climbs_5 : decode cX7_climbs 5 = .ok (.aload_n 0, 1) := by decide +kernel
theorem dX7_climbs_6 : decode cX7_climbs 6 = .ok (.aload_n 1, 1) := by decide +kernel
theorem dX7_climbs_7 : decode cX7_climbs 7 = .ok (.invokevirtual 22, 3) := by decide +kernel
theorem dX7_climbs_10 : decode cX7_climbs 10 = .ok (.aload_n 0, 1) := by decide +kernel
theorem dX7_climbs_11 : decode cX7_climbs 11 = .ok (.invokevirtual 26, 3) := by decide +kernel
theorem dX7_climbs_14 : decode cX7_climbs 14 = .ok (.ireturn, 1) := by decide +kernel
theorem dX7_pick_0 : decode cX7_pick 0 = .ok (.iconst 0, 1) := by decide +kernel
theorem dX7_pick_1 : decode cX7_pick 1 = .ok (.istore_n 1, 1) := by decide +kernel
theorem dX7_pick_2 : decode cX7_pick 2 = .ok (.aload_n 0, 1) := by decide +kernel
theorem dX7_pick_3 : decode cX7_pick 3 = .ok (.getfield 12, 3) := by decide +kernel
theorem dX7_pick_6 : decode cX7_pick 6 = .ok (.invokevirtual 30, 3) := by decide +kernel
theorem dX7_pick_9 : decode cX7_pick 9 = .ok (.iconst 1, 1) := by decide +kernel
theorem dX7_pick_10 : decode cX7_pick 10 = .ok (.istore_n 2, 1) := by decide +kernel
theorem dX7_pick_11 : decode cX7_pick 11 = .ok (.iload_n 2, 1) := by decide +kernel
theorem dX7_pick_12 : decode cX7_pick 12 = .ok (.aload_n 0, 1) := by decide +kernel
theorem dX7_pick_13 : decode cX7_pick 13 = .ok (.getfield 18, 3) := by decide +kernel
theorem dX7_pick_16 : decode cX7_pick 16 = .ok (.getfield 33, 3) := by decide +kernel
theorem dX7_pick_19 : decode cX7_pick 19 = .ok (.if_icmp .ge 52, 3) := by decide +kernel
theorem dX7_pick_22 : decode cX7_pick 22 = .ok (.aload_n 0, 1) := by decide +kernel
theorem dX7_pick_23 : decode cX7_pick 23 = .ok (.invokevirtual 39, 3) := by decide +kernel
theorem dX7_pick_26 : decode cX7_pick 26 = .ok (.istore_n 3, 1) := by decide +kernel
theorem dX7_pick_27 : decode cX7_pick 27 = .ok (.iload_n 3, 1) := by decide +kernel
theorem dX7_pick_28 : decode cX7_pick 28 = .ok (.iconst (-1), 1) := by decide +kernel
theorem dX7_pick_29 : decode cX7_pick 29 = .ok (.if_icmp .ne 5, 3) := by decide +kernel
theorem dX7_pick_32 : decode cX7_pick 32 = .ok (.iconst 0, 1) := by decide +kernel
theorem dX7_pick_33 : decode cX7_pick 33 = .ok (.ireturn, 1) := by decide +kernel
theorem dX7_pick_34 : decode cX7_pick 34 = .ok (.aload_n 0, 1) := by decide +kernel
theorem dX7_pick_35 : decode cX7_pick 35 = .ok (.getfield 12, 3) := by decide +kernel
theorem dX7_pick_38 : decode cX7_pick 38 = .ok (.aload_n 0, 1) := by decide +kernel
theorem dX7_pick_39 : decode cX7_pick 39 = .ok (.getfield 18, 3) := by decide +kernel
theorem dX7_pick_42 : decode cX7_pick 42 = .ok (.getfield 43, 3) := by decide +kernel
theorem dX7_pick_45 : decode cX7_pick 45 = .ok (.iload_n 3, 1) := by decide +kernel
theorem dX7_pick_46 : decode cX7_pick 46 = .ok (.iaload, 1) := by decide +kernel
theorem dX7_pick_47 : decode cX7_pick 47 = .ok (.aload_n 0, 1) := by decide +kernel
theorem dX7_pick_48 : decode cX7_pick 48 = .ok (.getfield 18, 3) := by decide +kernel
theorem dX7_pick_51 : decode cX7_pick 51 = .ok (.getfield 47, 3) := by decide +kernel
theorem dX7_pick_54 : decode cX7_pick 54 = .ok (.iload_n 3, 1) := by decide +kernel
theorem dX7_pick_55 : decode cX7_pick 55 = .ok (.iaload, 1) := by decide +kernel
theorem dX7_pick_56 : decode cX7_pick 56 = .ok (.invokevirtual 50, 3) := by decide +kernel
theorem dX7_pick_59 : decode cX7_pick 59 = .ok (.iload_n 1, 1) := by decide +kernel
theorem dX7_pick_60 : decode cX7_pick 60 = .ok (.iconst 1, 1) := by decide +kernel
theorem dX7_pick_61 : decode cX7_pick 61 = .ok (.iload_n 3, 1) := by decide +kernel
theorem dX7_pick_62 : decode cX7_pick 62 = .ok (.ishl, 1) := by decide +kernel
theorem dX7_pick_63 : decode cX7_pick 63 = .ok (.ior, 1) := by decide +kernel
theorem dX7_pick_64 : decode cX7_pick 64 = .ok (.istore_n 1, 1) := by decide +kernel
theorem dX7_pick_65 : decode cX7_pick 65 = .ok (.iinc 2 1, 3) := by decide +kernel
theorem dX7_pick_68 : decode cX7_pick 68 = .ok (.goto (-57), 3) := by decide +kernel
theorem dX7_pick_71 : decode cX7_pick 71 = .ok (.iload_n 1, 1) := by decide +kernel
theorem dX7_pick_72 : decode cX7_pick 72 = .ok (.ireturn, 1) := by decide +kernel
theorem dX7_heaviestJoining_0 : decode cX7_heaviestJoining 0 = .ok (.iconst (-1), 1) := by decide +kernel
theorem dX7_heaviestJoining_1 : decode cX7_heaviestJoining 1 = .ok (.istore_n 1, 1) := by decide +kernel
theorem dX7_heaviestJoining_2 : decode cX7_heaviestJoining 2 = .ok (.iconst 0, 1) := by decide +kernel
theorem dX7_heaviestJoining_3 : decode cX7_heaviestJoining 3 = .ok (.istore_n 2, 1) := by decide +kernel
theorem dX7_heaviestJoining_4 : decode cX7_heaviestJoining 4 = .ok (.iload_n 2, 1) := by decide +kernel
theorem dX7_heaviestJoining_5 : decode cX7_heaviestJoining 5 = .ok (.aload_n 0, 1) := by decide +kernel
theorem dX7_heaviestJoining_6 : decode cX7_heaviestJoining 6 = .ok (.getfield 54, 3) := by decide +kernel
theorem dX7_heaviestJoining_9 : decode cX7_heaviestJoining 9 = .ok (.if_icmp .ge 82, 3) := by decide +kernel
theorem dX7_heaviestJoining_12 : decode cX7_heaviestJoining 12 = .ok (.aload_n 0, 1) := by decide +kernel
theorem dX7_heaviestJoining_13 : decode cX7_heaviestJoining 13 = .ok (.getfield 18, 3) := by decide +kernel
theorem dX7_heaviestJoining_16 : decode cX7_heaviestJoining 16 = .ok (.getfield 57, 3) := by decide +kernel
theorem dX7_heaviestJoining_19 : decode cX7_heaviestJoining 19 = .ok (.iload_n 2, 1) := by decide +kernel
theorem dX7_heaviestJoining_20 : decode cX7_heaviestJoining 20 = .ok (.iaload, 1) := by decide +kernel
theorem dX7_heaviestJoining_21 : decode cX7_heaviestJoining 21 = .ok (.ifCond .ne 35, 3) := by decide +kernel
theorem dX7_heaviestJoining_24 : decode cX7_heaviestJoining 24 = .ok (.aload_n 0, 1) := by decide +kernel
theorem dX7_heaviestJoining_25 : decode cX7_heaviestJoining 25 = .ok (.getfield 12, 3) := by decide +kernel
theorem dX7_heaviestJoining_28 : decode cX7_heaviestJoining 28 = .ok (.aload_n 0, 1) := by decide +kernel
theorem dX7_heaviestJoining_29 : decode cX7_heaviestJoining 29 = .ok (.getfield 18, 3) := by decide +kernel
theorem dX7_heaviestJoining_32 : decode cX7_heaviestJoining 32 = .ok (.getfield 43, 3) := by decide +kernel
theorem dX7_heaviestJoining_35 : decode cX7_heaviestJoining 35 = .ok (.iload_n 2, 1) := by decide +kernel
theorem dX7_heaviestJoining_36 : decode cX7_heaviestJoining 36 = .ok (.iaload, 1) := by decide +kernel
theorem dX7_heaviestJoining_37 : decode cX7_heaviestJoining 37 = .ok (.aload_n 0, 1) := by decide +kernel
theorem dX7_heaviestJoining_38 : decode cX7_heaviestJoining 38 = .ok (.getfield 18, 3) := by decide +kernel
theorem dX7_heaviestJoining_41 : decode cX7_heaviestJoining 41 = .ok (.getfield 47, 3) := by decide +kernel
theorem dX7_heaviestJoining_44 : decode cX7_heaviestJoining 44 = .ok (.iload_n 2, 1) := by decide +kernel
theorem dX7_heaviestJoining_45 : decode cX7_heaviestJoining 45 = .ok (.iaload, 1) := by decide +kernel
theorem dX7_heaviestJoining_46 : decode cX7_heaviestJoining 46 = .ok (.invokevirtual 60, 3) := by decide +kernel
theorem dX7_heaviestJoining_49 : decode cX7_heaviestJoining 49 = .ok (.ifCond .eq 7, 3) := by decide +kernel
theorem dX7_heaviestJoining_52 : decode cX7_heaviestJoining 52 = .ok (.iconst 1, 1) := by decide +kernel
theorem dX7_heaviestJoining_53 : decode cX7_heaviestJoining 53 = .ok (.goto 4, 3) := by decide +kernel
theorem dX7_heaviestJoining_56 : decode cX7_heaviestJoining 56 = .ok (.iconst 0, 1) := by decide +kernel
theorem dX7_heaviestJoining_57 : decode cX7_heaviestJoining 57 = .ok (.istore_n 3, 1) := by decide +kernel
theorem dX7_heaviestJoining_58 : decode cX7_heaviestJoining 58 = .ok (.iload_n 3, 1) := by decide +kernel
theorem dX7_heaviestJoining_59 : decode cX7_heaviestJoining 59 = .ok (.ifCond .eq 26, 3) := by decide +kernel
theorem dX7_heaviestJoining_62 : decode cX7_heaviestJoining 62 = .ok (.iload_n 1, 1) := by decide +kernel
theorem dX7_heaviestJoining_63 : decode cX7_heaviestJoining 63 = .ok (.iconst (-1), 1) := by decide +kernel
theorem dX7_heaviestJoining_64 : decode cX7_heaviestJoining 64 = .ok (.if_icmp .eq 19, 3) := by decide +kernel
theorem dX7_heaviestJoining_67 : decode cX7_heaviestJoining 67 = .ok (.aload_n 0, 1) := by decide +kernel
theorem dX7_heaviestJoining_68 : decode cX7_heaviestJoining 68 = .ok (.getfield 64, 3) := by decide +kernel
theorem dX7_heaviestJoining_71 : decode cX7_heaviestJoining 71 = .ok (.iload_n 2, 1) := by decide +kernel
theorem dX7_heaviestJoining_72 : decode cX7_heaviestJoining 72 = .ok (.laload, 1) := by decide +kernel
theorem dX7_heaviestJoining_73 : decode cX7_heaviestJoining 73 = .ok (.aload_n 0, 1) := by decide +kernel
theorem dX7_heaviestJoining_74 : decode cX7_heaviestJoining 74 = .ok (.getfield 64, 3) := by decide +kernel
theorem dX7_heaviestJoining_77 : decode cX7_heaviestJoining 77 = .ok (.iload_n 1, 1) := by decide +kernel
theorem dX7_heaviestJoining_78 : decode cX7_heaviestJoining 78 = .ok (.laload, 1) := by decide +kernel
theorem dX7_heaviestJoining_79 : decode cX7_heaviestJoining 79 = .ok (.lcmp, 1) := by decide +kernel
theorem dX7_heaviestJoining_80 : decode cX7_heaviestJoining 80 = .ok (.ifCond .le 5, 3) := by decide +kernel
theorem dX7_heaviestJoining_83 : decode cX7_heaviestJoining 83 = .ok (.iload_n 2, 1) := by decide +kernel
theorem dX7_heaviestJoining_84 : decode cX7_heaviestJoining 84 = .ok (.istore_n 1, 1) := by decide +kernel
theorem dX7_heaviestJoining_85 : decode cX7_heaviestJoining 85 = .ok (.iinc 2 1, 3) := by decide +kernel
theorem dX7_heaviestJoining_88 : decode cX7_heaviestJoining 88 = .ok (.goto (-84), 3) := by decide +kernel
theorem dX7_heaviestJoining_91 : decode cX7_heaviestJoining 91 = .ok (.iload_n 1, 1) := by decide +kernel
theorem dX7_heaviestJoining_92 : decode cX7_heaviestJoining 92 = .ok (.ireturn, 1) := by decide +kernel
theorem dX8_init_0 : decode cX8_init 0 = .ok (.aload_n 0, 1) := by decide +kernel
theorem dX8_init_1 : decode cX8_init 1 = .ok (.invokespecial 3, 3) := by decide +kernel
theorem dX8_init_4 : decode cX8_init 4 = .ok (.aload_n 0, 1) := by decide +kernel
theorem dX8_init_5 : decode cX8_init 5 = .ok (.bipush 6, 2) := by decide +kernel
theorem dX8_init_7 : decode cX8_init 7 = .ok (.newarray .long, 2) := by decide +kernel
theorem dX8_init_9 : decode cX8_init 9 = .ok (.putfield 9, 3) := by decide +kernel
theorem dX8_init_12 : decode cX8_init 12 = .ok (.aload_n 0, 1) := by decide +kernel
theorem dX8_init_13 : decode cX8_init 13 = .ok (.bipush 6, 2) := by decide +kernel
theorem dX8_init_15 : decode cX8_init 15 = .ok (.newarray .int, 2) := by decide +kernel
theorem dX8_init_17 : decode cX8_init 17 = .ok (.putfield 15, 3) := by decide +kernel
theorem dX8_init_20 : decode cX8_init 20 = .ok (.return_, 1) := by decide +kernel
theorem dX8_climbs_0 : decode cX8_climbs 0 = .ok (.aload_n 0, 1) := by decide +kernel
theorem dX8_climbs_1 : decode cX8_climbs 1 = .ok (.aload_n 1, 1) := by decide +kernel
theorem dX8_climbs_2 : decode cX8_climbs 2 = .ok (.putfield 19, 3) := by decide +kernel
theorem dX8_climbs_5 : decode cX8_climbs 5 = .ok (.aload_n 0, 1) := by decide +kernel
theorem dX8_climbs_6 : decode cX8_climbs 6 = .ok (.iload_n 2, 1) := by decide +kernel
theorem dX8_climbs_7 : decode cX8_climbs 7 = .ok (.putfield 23, 3) := by decide +kernel
theorem dX8_climbs_10 : decode cX8_climbs 10 = .ok (.aload_n 0, 1) := by decide +kernel
theorem dX8_climbs_11 : decode cX8_climbs 11 = .ok (.iload_n 3, 1) := by decide +kernel
theorem dX8_climbs_12 : decode cX8_climbs 12 = .ok (.putfield 27, 3) := by decide +kernel
theorem dX8_climbs_15 : decode cX8_climbs 15 = .ok (.aload_n 0, 1) := by decide +kernel
theorem dX8_climbs_16 : decode cX8_climbs 16 = .ok (.aload_n 1, 1) := by decide +kernel
theorem dX8_climbs_17 : decode cX8_climbs 17 = .ok (.invokevirtual 30, 3) := by decide +kernel
theorem dX8_climbs_20 : decode cX8_climbs 20 = .ok (.aload_n 0, 1) := by decide +kernel
theorem dX8_climbs_21 : decode cX8_climbs 21 = .ok (.invokevirtual 34, 3) := by decide +kernel
theorem dX8_climbs_24 : decode cX8_climbs 24 = .ok (.ireturn, 1) := by decide +kernel
theorem dX8_pick_0 : decode cX8_pick 0 = .ok (.iconst 0, 1) := by decide +kernel
theorem dX8_pick_1 : decode cX8_pick 1 = .ok (.istore_n 1, 1) := by decide +kernel
theorem dX8_pick_2 : decode cX8_pick 2 = .ok (.iload_n 1, 1) := by decide +kernel
theorem dX8_pick_3 : decode cX8_pick 3 = .ok (.bipush 6, 2) := by decide +kernel
theorem dX8_pick_5 : decode cX8_pick 5 = .ok (.if_icmp .ge 23, 3) := by decide +kernel
theorem dX8_pick_8 : decode cX8_pick 8 = .ok (.aload_n 0, 1) := by decide +kernel
theorem dX8_pick_9 : decode cX8_pick 9 = .ok (.getfield 9, 3) := by decide +kernel
theorem dX8_pick_12 : decode cX8_pick 12 = .ok (.iload_n 1, 1) := by decide +kernel
theorem dX8_pick_13 : decode cX8_pick 13 = .ok (.lconst 0, 1) := by decide +kernel
theorem dX8_pick_14 : decode cX8_pick 14 = .ok (.lastore, 1) := by decide +kernel
theorem dX8_pick_15 : decode cX8_pick 15 = .ok (.aload_n 0, 1) := by decide +kernel
theorem dX8_pick_16 : decode cX8_pick 16 = .ok (.getfield 15, 3) := by decide +kernel
theorem dX8_pick_19 : decode cX8_pick 19 = .ok (.iload_n 1, 1) := by decide +kernel
theorem dX8_pick_20 : decode cX8_pick 20 = .ok (.iconst 0, 1) := by decide +kernel
theorem dX8_pick_21 : decode cX8_pick 21 = .ok (.iastore, 1) := by decide +kernel
theorem dX8_pick_22 : decode cX8_pick 22 = .ok (.iinc 1 1, 3) := by decide +kernel
theorem dX8_pick_25 : decode cX8_pick 25 = .ok (.goto (-23), 3) := by decide +kernel
theorem dX8_pick_28 : decode cX8_pick 28 = .ok (.aload_n 0, 1) := by decide +kernel
theorem dX8_pick_29 : decode cX8_pick 29 = .ok (.getfield 23, 3) := by decide +kernel
theorem dX8_pick_32 : decode cX8_pick 32 = .ok (.istore_n 1, 1) := by decide +kernel
theorem dX8_pick_33 : decode cX8_pick 33 = .ok (.iload_n 1, 1) := by decide +kernel
theorem dX8_pick_34 : decode cX8_pick 34 = .ok (.aload_n 0, 1) := by decide +kernel
theorem dX8_pick_35 : decode cX8_pick 35 = .ok (.getfield 27, 3) := by decide +kernel
theorem dX8_pick_38 : decode cX8_pick 38 = .ok (.if_icmp .ge 31, 3) := by decide +kernel
theorem dX8_pick_41 : decode cX8_pick 41 = .ok (.iload_n 1, 1) := by decide +kernel
theorem dX8_pick_42 : decode cX8_pick 42 = .ok (.aload_n 0, 1) := by decide +kernel
theorem dX8_pick_43 : decode cX8_pick 43 = .ok (.getfield 23, 3) := by decide +kernel
theorem dX8_pick_46 : decode cX8_pick 46 = .ok (.if_icmp .eq 12, 3) := by decide +kernel
theorem dX8_pick_49 : decode cX8_pick 49 = .ok (.aload_n 0, 1) := by decide +kernel
theorem dX8_pick_50 : decode cX8_pick 50 = .ok (.getfield 15, 3) := by decide +kernel
theorem dX8_pick_53 : decode cX8_pick 53 = .ok (.iload_n 1, 1) := by decide +kernel
theorem dX8_pick_54 : decode cX8_pick 54 = .ok (.iaload, 1) := by decide +kernel
theorem dX8_pick_55 : decode cX8_pick 55 = .ok (.ifCond .eq 8, 3) := by decide +kernel
theorem dX8_pick_58 : decode cX8_pick 58 = .ok (.aload_n 0, 1) := by decide +kernel
theorem dX8_pick_59 : decode cX8_pick 59 = .ok (.iload_n 1, 1) := by decide +kernel
theorem dX8_pick_60 : decode cX8_pick 60 = .ok (.invokevirtual 38, 3) := by decide +kernel
theorem dX8_pick_63 : decode cX8_pick 63 = .ok (.iinc 1 1, 3) := by decide +kernel
theorem dX8_pick_66 : decode cX8_pick 66 = .ok (.goto (-33), 3) := by decide +kernel
theorem dX8_pick_69 : decode cX8_pick 69 = .ok (.aload_n 0, 1) := by decide +kernel
theorem dX8_pick_70 : decode cX8_pick 70 = .ok (.getfield 15, 3) := by decide +kernel
theorem dX8_pick_73 : decode cX8_pick 73 = .ok (.aload_n 0, 1) := by decide +kernel
theorem dX8_pick_74 : decode cX8_pick 74 = .ok (.getfield 27, 3) := by decide +kernel
theorem dX8_pick_77 : decode cX8_pick 77 = .ok (.iaload, 1) := by decide +kernel
theorem dX8_pick_78 : decode cX8_pick 78 = .ok (.ireturn, 1) := by decide +kernel
theorem dX8_leave_0 : decode cX8_leave 0 = .ok (.iconst 0, 1) := by decide +kernel
theorem dX8_leave_1 : decode cX8_leave 1 = .ok (.istore_n 2, 1) := by decide +kernel
theorem dX8_leave_2 : decode cX8_leave 2 = .ok (.iload_n 2, 1) := by decide +kernel
theorem dX8_leave_3 : decode cX8_leave 3 = .ok (.aload_n 0, 1) := by decide +kernel
theorem dX8_leave_4 : decode cX8_leave 4 = .ok (.getfield 42, 3) := by decide +kernel
theorem dX8_leave_7 : decode cX8_leave 7 = .ok (.if_icmp .ge 148, 3) := by decide +kernel
theorem dX8_leave_10 : decode cX8_leave 10 = .ok (.aload_n 0, 1) := by decide +kernel
theorem dX8_leave_11 : decode cX8_leave 11 = .ok (.getfield 19, 3) := by decide +kernel
theorem dX8_leave_14 : decode cX8_leave 14 = .ok (.getfield 45, 3) := by decide +kernel
theorem dX8_leave_17 : decode cX8_leave 17 = .ok (.iload_n 2, 1) := by decide +kernel
theorem dX8_leave_18 : decode cX8_leave 18 = .ok (.iaload, 1) := by decide +kernel
theorem dX8_leave_19 : decode cX8_leave 19 = .ok (.istore_n 3, 1) := by decide +kernel
theorem dX8_leave_20 : decode cX8_leave 20 = .ok (.aload_n 0, 1) := by decide +kernel
theorem dX8_leave_21 : decode cX8_leave 21 = .ok (.getfield 19, 3) := by decide +kernel
theorem dX8_leave_24 : decode cX8_leave 24 = .ok (.getfield 50, 3) := by decide +kernel
theorem dX8_leave_27 : decode cX8_leave 27 = .ok (.iload_n 2, 1) := by decide +kernel
theorem dX8_leave_28 : decode cX8_leave 28 = .ok (.iaload, 1) := by decide +kernel
theorem dX8_leave_29 : decode cX8_leave 29 = .ok (.ifCond .ne 120, 3) := by decide +kernel
theorem dX8_leave_32 : decode cX8_leave 32 = .ok (.aload_n 0, 1) := by decide +kernel
theorem dX8_leave_33 : decode cX8_leave 33 = .ok (.getfield 19, 3) := by decide +kernel
theorem dX8_leave_36 : decode cX8_leave 36 = .ok (.getfield 53, 3) := by decide +kernel
theorem dX8_leave_39 : decode cX8_leave 39 = .ok (.iload_n 2, 1) := by decide +kernel
theorem dX8_leave_40 : decode cX8_leave 40 = .ok (.iaload, 1) := by decide +kernel
theorem dX8_leave_41 : decode cX8_leave 41 = .ok (.iload_n 1, 1) := by decide +kernel
theorem dX8_leave_42 : decode cX8_leave 42 = .ok (.if_icmp .ne 107, 3) := by decide +kernel
theorem dX8_leave_45 : decode cX8_leave 45 = .ok (.iload_n 3, 1) := by decide +kernel
theorem dX8_leave_46 : decode cX8_leave 46 = .ok (.iload_n 1, 1) := by decide +kernel
theorem dX8_leave_47 : decode cX8_leave 47 = .ok (.if_icmp .le 102, 3) := by decide +kernel
theorem dX8_leave_50 : decode cX8_leave 50 = .ok (.aload_n 0, 1) := by decide +kernel
theorem dX8_leave_51 : decode cX8_leave 51 = .ok (.getfield 9, 3) := by decide +kernel
theorem dX8_leave_54 : decode cX8_leave 54 = .ok (.iload_n 1, 1) := by decide +kernel
theorem dX8_leave_55 : decode cX8_leave 55 = .ok (.laload, 1) := by decide +kernel
theorem dX8_leave_56 : decode cX8_leave 56 = .ok (.aload_n 0, 1) := by decide +kernel
theorem dX8_leave_57 : decode cX8_leave 57 = .ok (.getfield 56, 3) := by decide +kernel
theorem dX8_leave_60 : decode cX8_leave 60 = .ok (.iload_n 2, 1) := by decide +kernel
theorem dX8_leave_61 : decode cX8_leave 61 = .ok (.laload, 1) := by decide +kernel
theorem dX8_leave_62 : decode cX8_leave 62 = .ok (.ladd, 1) := by decide +kernel
theorem dX8_leave_63 : decode cX8_leave 63 = .ok (.lstore 4, 2) := by decide +kernel
theorem dX8_leave_65 : decode cX8_leave 65 = .ok (.aload_n 0, 1) := by decide +kernel
theorem dX8_leave_66 : decode cX8_leave 66 = .ok (.getfield 15, 3) := by decide +kernel
theorem dX8_leave_69 : decode cX8_leave 69 = .ok (.iload_n 1, 1) := by decide +kernel
theorem dX8_leave_70 : decode cX8_leave 70 = .ok (.iaload, 1) := by decide +kernel
theorem dX8_leave_71 : decode cX8_leave 71 = .ok (.iconst 1, 1) := by decide +kernel
theorem dX8_leave_72 : decode cX8_leave 72 = .ok (.iload_n 2, 1) := by decide +kernel
theorem dX8_leave_73 : decode cX8_leave 73 = .ok (.ishl, 1) := by decide +kernel
theorem dX8_leave_74 : decode cX8_leave 74 = .ok (.ior, 1) := by decide +kernel
theorem dX8_leave_75 : decode cX8_leave 75 = .ok (.istore 6, 2) := by decide +kernel
theorem dX8_leave_77 : decode cX8_leave 77 = .ok (.lload 4, 2) := by decide +kernel
theorem dX8_leave_79 : decode cX8_leave 79 = .ok (.aload_n 0, 1) := by decide +kernel
theorem dX8_leave_80 : decode cX8_leave 80 = .ok (.getfield 9, 3) := by decide +kernel
theorem dX8_leave_83 : decode cX8_leave 83 = .ok (.iload_n 3, 1) := by decide +kernel
theorem dX8_leave_84 : decode cX8_leave 84 = .ok (.laload, 1) := by decide +kernel
theorem dX8_leave_85 : decode cX8_leave 85 = .ok (.lcmp, 1) := by decide +kernel
theorem dX8_leave_86 : decode cX8_leave 86 = .ok (.ifCond .ne 18, 3) := by decide +kernel
theorem dX8_leave_89 : decode cX8_leave 89 = .ok (.iload 6, 2) := by decide +kernel
theorem dX8_leave_91 : decode cX8_leave 91 = .ok (.aload_n 0, 1) := by decide +kernel
theorem dX8_leave_92 : decode cX8_leave 92 = .ok (.getfield 15, 3) := by decide +kernel
theorem dX8_leave_95 : decode cX8_leave 95 = .ok (.iload_n 3, 1) := by decide +kernel
theorem dX8_leave_96 : decode cX8_leave 96 = .ok (.iaload, 1) := by decide +kernel
theorem dX8_leave_97 : decode cX8_leave 97 = .ok (.if_icmp .ge 7, 3) := by decide +kernel
theorem dX8_leave_100 : decode cX8_leave 100 = .ok (.iconst 1, 1) := by decide +kernel
theorem dX8_leave_101 : decode cX8_leave 101 = .ok (.goto 4, 3) := by decide +kernel
theorem dX8_leave_104 : decode cX8_leave 104 = .ok (.iconst 0, 1) := by decide +kernel
theorem dX8_leave_105 : decode cX8_leave 105 = .ok (.istore 7, 2) := by decide +kernel
theorem dX8_leave_107 : decode cX8_leave 107 = .ok (.aload_n 0, 1) := by decide +kernel
theorem dX8_leave_108 : decode cX8_leave 108 = .ok (.getfield 15, 3) := by decide +kernel
theorem dX8_leave_111 : decode cX8_leave 111 = .ok (.iload_n 3, 1) := by decide +kernel
theorem dX8_leave_112 : decode cX8_leave 112 = .ok (.iaload, 1) := by decide +kernel
theorem dX8_leave_113 : decode cX8_leave 113 = .ok (.ifCond .eq 20, 3) := by decide +kernel
theorem dX8_leave_116 : decode cX8_leave 116 = .ok (.lload 4, 2) := by decide +kernel
theorem dX8_leave_118 : decode cX8_leave 118 = .ok (.aload_n 0, 1) := by decide +kernel
theorem dX8_leave_119 : decode cX8_leave 119 = .ok (.getfield 9, 3) := by decide +kernel
theorem dX8_leave_122 : decode cX8_leave 122 = .ok (.iload_n 3, 1) := by decide +kernel
theorem dX8_leave_123 : decode cX8_leave 123 = .ok (.laload, 1) := by decide +kernel
theorem dX8_leave_124 : decode cX8_leave 124 = .ok (.lcmp, 1) := by decide +kernel
theorem dX8_leave_125 : decode cX8_leave 125 = .ok (.ifCond .gt 8, 3) := by decide +kernel
theorem dX8_leave_128 : decode cX8_leave 128 = .ok (.iload 7, 2) := by decide +kernel
theorem dX8_leave_130 : decode cX8_leave 130 = .ok (.ifCond .eq 19, 3) := by decide +kernel
theorem dX8_leave_133 : decode cX8_leave 133 = .ok (.aload_n 0, 1) := by decide +kernel
theorem dX8_leave_134 : decode cX8_leave 134 = .ok (.getfield 9, 3) := by decide +kernel
theorem dX8_leave_137 : decode cX8_leave 137 = .ok (.iload_n 3, 1) := by decide +kernel
theorem dX8_leave_138 : decode cX8_leave 138 = .ok (.lload 4, 2) := by decide +kernel
theorem dX8_leave_140 : decode cX8_leave 140 = .ok (.lastore, 1) := by decide +kernel
theorem dX8_leave_141 : decode cX8_leave 141 = .ok (.aload_n 0, 1) := by decide +kernel
theorem dX8_leave_142 : decode cX8_leave 142 = .ok (.getfield 15, 3) := by decide +kernel
theorem dX8_leave_145 : decode cX8_leave 145 = .ok (.iload_n 3, 1) := by decide +kernel
theorem dX8_leave_146 : decode cX8_leave 146 = .ok (.iload 6, 2) := by decide +kernel
theorem dX8_leave_148 : decode cX8_leave 148 = .ok (.iastore, 1) := by decide +kernel
theorem dX8_leave_149 : decode cX8_leave 149 = .ok (.iinc 2 1, 3) := by decide +kernel
theorem dX8_leave_152 : decode cX8_leave 152 = .ok (.goto (-150), 3) := by decide +kernel
theorem dX8_leave_155 : decode cX8_leave 155 = .ok (.return_, 1) := by decide +kernel
theorem dJ6_bitCount_0f7a4_0 : decode cJ6_bitCount_0f7a4 0 = .ok (.iload_n 0, 1) := by decide +kernel
theorem dJ6_bitCount_0f7a4_1 : decode cJ6_bitCount_0f7a4 1 = .ok (.iload_n 0, 1) := by decide +kernel
theorem dJ6_bitCount_0f7a4_2 : decode cJ6_bitCount_0f7a4 2 = .ok (.iconst 1, 1) := by decide +kernel
theorem dJ6_bitCount_0f7a4_3 : decode cJ6_bitCount_0f7a4 3 = .ok (.iushr, 1) := by decide +kernel
theorem dJ6_bitCount_0f7a4_4 : decode cJ6_bitCount_0f7a4 4 = .ok (.ldc_w 265, 3) := by decide +kernel
theorem dJ6_bitCount_0f7a4_7 : decode cJ6_bitCount_0f7a4 7 = .ok (.iand, 1) := by decide +kernel
theorem dJ6_bitCount_0f7a4_8 : decode cJ6_bitCount_0f7a4 8 = .ok (.isub, 1) := by decide +kernel
theorem dJ6_bitCount_0f7a4_9 : decode cJ6_bitCount_0f7a4 9 = .ok (.istore_n 0, 1) := by decide +kernel
theorem dJ6_bitCount_0f7a4_10 : decode cJ6_bitCount_0f7a4 10 = .ok (.iload_n 0, 1) := by decide +kernel
theorem dJ6_bitCount_0f7a4_11 : decode cJ6_bitCount_0f7a4 11 = .ok (.ldc_w 266, 3) := by decide +kernel
theorem dJ6_bitCount_0f7a4_14 : decode cJ6_bitCount_0f7a4 14 = .ok (.iand, 1) := by decide +kernel
theorem dJ6_bitCount_0f7a4_15 : decode cJ6_bitCount_0f7a4 15 = .ok (.iload_n 0, 1) := by decide +kernel
theorem dJ6_bitCount_0f7a4_16 : decode cJ6_bitCount_0f7a4 16 = .ok (.iconst 2, 1) := by decide +kernel
theorem dJ6_bitCount_0f7a4_17 : decode cJ6_bitCount_0f7a4 17 = .ok (.iushr, 1) := by decide +kernel
theorem dJ6_bitCount_0f7a4_18 : decode cJ6_bitCount_0f7a4 18 = .ok (.ldc_w 266, 3) := by decide +kernel
theorem dJ6_bitCount_0f7a4_21 : decode cJ6_bitCount_0f7a4 21 = .ok (.iand, 1) := by decide +kernel
theorem dJ6_bitCount_0f7a4_22 : decode cJ6_bitCount_0f7a4 22 = .ok (.iadd, 1) := by decide +kernel
theorem dJ6_bitCount_0f7a4_23 : decode cJ6_bitCount_0f7a4 23 = .ok (.istore_n 0, 1) := by decide +kernel
theorem dJ6_bitCount_0f7a4_24 : decode cJ6_bitCount_0f7a4 24 = .ok (.iload_n 0, 1) := by decide +kernel
theorem dJ6_bitCount_0f7a4_25 : decode cJ6_bitCount_0f7a4 25 = .ok (.iload_n 0, 1) := by decide +kernel
theorem dJ6_bitCount_0f7a4_26 : decode cJ6_bitCount_0f7a4 26 = .ok (.iconst 4, 1) := by decide +kernel
theorem dJ6_bitCount_0f7a4_27 : decode cJ6_bitCount_0f7a4 27 = .ok (.iushr, 1) := by decide +kernel
theorem dJ6_bitCount_0f7a4_28 : decode cJ6_bitCount_0f7a4 28 = .ok (.iadd, 1) := by decide +kernel
theorem dJ6_bitCount_0f7a4_29 : decode cJ6_bitCount_0f7a4 29 = .ok (.ldc_w 267, 3) := by decide +kernel
theorem dJ6_bitCount_0f7a4_32 : decode cJ6_bitCount_0f7a4 32 = .ok (.iand, 1) := by decide +kernel
theorem dJ6_bitCount_0f7a4_33 : decode cJ6_bitCount_0f7a4 33 = .ok (.istore_n 0, 1) := by decide +kernel
theorem dJ6_bitCount_0f7a4_34 : decode cJ6_bitCount_0f7a4 34 = .ok (.iload_n 0, 1) := by decide +kernel
theorem dJ6_bitCount_0f7a4_35 : decode cJ6_bitCount_0f7a4 35 = .ok (.iload_n 0, 1) := by decide +kernel
theorem dJ6_bitCount_0f7a4_36 : decode cJ6_bitCount_0f7a4 36 = .ok (.bipush 8, 2) := by decide +kernel
theorem dJ6_bitCount_0f7a4_38 : decode cJ6_bitCount_0f7a4 38 = .ok (.iushr, 1) := by decide +kernel
theorem dJ6_bitCount_0f7a4_39 : decode cJ6_bitCount_0f7a4 39 = .ok (.iadd, 1) := by decide +kernel
theorem dJ6_bitCount_0f7a4_40 : decode cJ6_bitCount_0f7a4 40 = .ok (.istore_n 0, 1) := by decide +kernel
theorem dJ6_bitCount_0f7a4_41 : decode cJ6_bitCount_0f7a4 41 = .ok (.iload_n 0, 1) := by decide +kernel
theorem dJ6_bitCount_0f7a4_42 : decode cJ6_bitCount_0f7a4 42 = .ok (.iload_n 0, 1) := by decide +kernel
theorem dJ6_bitCount_0f7a4_43 : decode cJ6_bitCount_0f7a4 43 = .ok (.bipush 16, 2) := by decide +kernel
theorem dJ6_bitCount_0f7a4_45 : decode cJ6_bitCount_0f7a4 45 = .ok (.iushr, 1) := by decide +kernel
theorem dJ6_bitCount_0f7a4_46 : decode cJ6_bitCount_0f7a4 46 = .ok (.iadd, 1) := by decide +kernel
theorem dJ6_bitCount_0f7a4_47 : decode cJ6_bitCount_0f7a4 47 = .ok (.istore_n 0, 1) := by decide +kernel
theorem dJ6_bitCount_0f7a4_48 : decode cJ6_bitCount_0f7a4 48 = .ok (.iload_n 0, 1) := by decide +kernel
theorem dJ6_bitCount_0f7a4_49 : decode cJ6_bitCount_0f7a4 49 = .ok (.bipush 63, 2) := by decide +kernel
theorem dJ6_bitCount_0f7a4_51 : decode cJ6_bitCount_0f7a4 51 = .ok (.iand, 1) := by decide +kernel
theorem dJ6_bitCount_0f7a4_52 : decode cJ6_bitCount_0f7a4 52 = .ok (.ireturn, 1) := by decide +kernel
theorem dJ13_compare_74951_0 : decode cJ13_compare_74951 0 = .ok (.lload_n 0, 1) := by decide +kernel
theorem dJ13_compare_74951_1 : decode cJ13_compare_74951 1 = .ok (.lload_n 2, 1) := by decide +kernel
theorem dJ13_compare_74951_2 : decode cJ13_compare_74951 2 = .ok (.lcmp, 1) := by decide +kernel
theorem dJ13_compare_74951_3 : decode cJ13_compare_74951 3 = .ok (.ifCond .ge 7, 3) := by decide +kernel
theorem dJ13_compare_74951_6 : decode cJ13_compare_74951 6 = .ok (.iconst (-1), 1) := by decide +kernel
theorem dJ13_compare_74951_7 : decode cJ13_compare_74951 7 = .ok (.goto 14, 3) := by decide +kernel
theorem dJ13_compare_74951_10 : decode cJ13_compare_74951 10 = .ok (.lload_n 0, 1) := by decide +kernel
theorem dJ13_compare_74951_11 : decode cJ13_compare_74951 11 = .ok (.lload_n 2, 1) := by decide +kernel
theorem dJ13_compare_74951_12 : decode cJ13_compare_74951 12 = .ok (.lcmp, 1) := by decide +kernel
theorem dJ13_compare_74951_13 : decode cJ13_compare_74951 13 = .ok (.ifCond .ne 7, 3) := by decide +kernel
theorem dJ13_compare_74951_16 : decode cJ13_compare_74951 16 = .ok (.iconst 0, 1) := by decide +kernel
theorem dJ13_compare_74951_17 : decode cJ13_compare_74951 17 = .ok (.goto 4, 3) := by decide +kernel
theorem dJ13_compare_74951_20 : decode cJ13_compare_74951 20 = .ok (.iconst 1, 1) := by decide +kernel
theorem dJ13_compare_74951_21 : decode cJ13_compare_74951 21 = .ok (.ireturn, 1) := by decide +kernel
theorem dJ9_floorDiv_f86c9_0 : decode cJ9_floorDiv_f86c9 0 = .ok (.lload_n 0, 1) := by decide +kernel
theorem dJ9_floorDiv_f86c9_1 : decode cJ9_floorDiv_f86c9 1 = .ok (.lload_n 2, 1) := by decide +kernel
theorem dJ9_floorDiv_f86c9_2 : decode cJ9_floorDiv_f86c9 2 = .ok (.ldiv, 1) := by decide +kernel
theorem dJ9_floorDiv_f86c9_3 : decode cJ9_floorDiv_f86c9 3 = .ok (.lstore 4, 2) := by decide +kernel
theorem dJ9_floorDiv_f86c9_5 : decode cJ9_floorDiv_f86c9 5 = .ok (.lload_n 0, 1) := by decide +kernel
theorem dJ9_floorDiv_f86c9_6 : decode cJ9_floorDiv_f86c9 6 = .ok (.lload_n 2, 1) := by decide +kernel
theorem dJ9_floorDiv_f86c9_7 : decode cJ9_floorDiv_f86c9 7 = .ok (.lxor, 1) := by decide +kernel
theorem dJ9_floorDiv_f86c9_8 : decode cJ9_floorDiv_f86c9 8 = .ok (.lconst 0, 1) := by decide +kernel
theorem dJ9_floorDiv_f86c9_9 : decode cJ9_floorDiv_f86c9 9 = .ok (.lcmp, 1) := by decide +kernel
theorem dJ9_floorDiv_f86c9_10 : decode cJ9_floorDiv_f86c9 10 = .ok (.ifCond .ge 17, 3) := by decide +kernel
theorem dJ9_floorDiv_f86c9_13 : decode cJ9_floorDiv_f86c9 13 = .ok (.lload 4, 2) := by decide +kernel
theorem dJ9_floorDiv_f86c9_15 : decode cJ9_floorDiv_f86c9 15 = .ok (.lload_n 2, 1) := by decide +kernel
theorem dJ9_floorDiv_f86c9_16 : decode cJ9_floorDiv_f86c9 16 = .ok (.lmul, 1) := by decide +kernel
theorem dJ9_floorDiv_f86c9_17 : decode cJ9_floorDiv_f86c9 17 = .ok (.lload_n 0, 1) := by decide +kernel
theorem dJ9_floorDiv_f86c9_18 : decode cJ9_floorDiv_f86c9 18 = .ok (.lcmp, 1) := by decide +kernel
theorem dJ9_floorDiv_f86c9_19 : decode cJ9_floorDiv_f86c9 19 = .ok (.ifCond .eq 8, 3) := by decide +kernel
theorem dJ9_floorDiv_f86c9_22 : decode cJ9_floorDiv_f86c9 22 = .ok (.lload 4, 2) := by decide +kernel
theorem dJ9_floorDiv_f86c9_24 : decode cJ9_floorDiv_f86c9 24 = .ok (.lconst 1, 1) := by decide +kernel
theorem dJ9_floorDiv_f86c9_25 : decode cJ9_floorDiv_f86c9 25 = .ok (.lsub, 1) := by decide +kernel
theorem dJ9_floorDiv_f86c9_26 : decode cJ9_floorDiv_f86c9 26 = .ok (.lreturn, 1) := by decide +kernel
theorem dJ9_floorDiv_f86c9_27 : decode cJ9_floorDiv_f86c9 27 = .ok (.lload 4, 2) := by decide +kernel
theorem dJ9_floorDiv_f86c9_29 : decode cJ9_floorDiv_f86c9 29 = .ok (.lreturn, 1) := by decide +kernel
theorem dJ9_max_f86c9_0 : decode cJ9_max_f86c9 0 = .ok (.lload_n 0, 1) := by decide +kernel
theorem dJ9_max_f86c9_1 : decode cJ9_max_f86c9 1 = .ok (.lload_n 2, 1) := by decide +kernel
theorem dJ9_max_f86c9_2 : decode cJ9_max_f86c9 2 = .ok (.lcmp, 1) := by decide +kernel
theorem dJ9_max_f86c9_3 : decode cJ9_max_f86c9 3 = .ok (.ifCond .lt 7, 3) := by decide +kernel
theorem dJ9_max_f86c9_6 : decode cJ9_max_f86c9 6 = .ok (.lload_n 0, 1) := by decide +kernel
theorem dJ9_max_f86c9_7 : decode cJ9_max_f86c9 7 = .ok (.goto 4, 3) := by decide +kernel
theorem dJ9_max_f86c9_10 : decode cJ9_max_f86c9 10 = .ok (.lload_n 2, 1) := by decide +kernel
theorem dJ9_max_f86c9_11 : decode cJ9_max_f86c9 11 = .ok (.lreturn, 1) := by decide +kernel
theorem dJ9_min_7cf53_0 : decode cJ9_min_7cf53 0 = .ok (.iload_n 0, 1) := by decide +kernel
theorem dJ9_min_7cf53_1 : decode cJ9_min_7cf53 1 = .ok (.iload_n 1, 1) := by decide +kernel
theorem dJ9_min_7cf53_2 : decode cJ9_min_7cf53 2 = .ok (.if_icmp .gt 7, 3) := by decide +kernel
theorem dJ9_min_7cf53_5 : decode cJ9_min_7cf53 5 = .ok (.iload_n 0, 1) := by decide +kernel
theorem dJ9_min_7cf53_6 : decode cJ9_min_7cf53 6 = .ok (.goto 4, 3) := by decide +kernel
theorem dJ9_min_7cf53_9 : decode cJ9_min_7cf53 9 = .ok (.iload_n 1, 1) := by decide +kernel
theorem dJ9_min_7cf53_10 : decode cJ9_min_7cf53 10 = .ok (.ireturn, 1) := by decide +kernel
theorem dJ9_min_f86c9_0 : decode cJ9_min_f86c9 0 = .ok (.lload_n 0, 1) := by decide +kernel
theorem dJ9_min_f86c9_1 : decode cJ9_min_f86c9 1 = .ok (.lload_n 2, 1) := by decide +kernel
theorem dJ9_min_f86c9_2 : decode cJ9_min_f86c9 2 = .ok (.lcmp, 1) := by decide +kernel
theorem dJ9_min_f86c9_3 : decode cJ9_min_f86c9 3 = .ok (.ifCond .gt 7, 3) := by decide +kernel
theorem dJ9_min_f86c9_6 : decode cJ9_min_f86c9 6 = .ok (.lload_n 0, 1) := by decide +kernel
theorem dJ9_min_f86c9_7 : decode cJ9_min_f86c9 7 = .ok (.goto 4, 3) := by decide +kernel
theorem dJ9_min_f86c9_10 : decode cJ9_min_f86c9 10 = .ok (.lload_n 2, 1) := by decide +kernel
theorem dJ9_min_f86c9_11 : decode cJ9_min_f86c9 11 = .ok (.lreturn, 1) := by decide +kernel
theorem dJ0_length_8abf5_0 : decode cJ0_length_8abf5 0 = .ok (.aload_n 0, 1) := by decide +kernel
theorem dJ0_length_8abf5_1 : decode cJ0_length_8abf5 1 = .ok (.getfield 9, 3) := by decide +kernel
theorem dJ0_length_8abf5_4 : decode cJ0_length_8abf5 4 = .ok (.arraylength, 1) := by decide +kernel
theorem dJ0_length_8abf5_5 : decode cJ0_length_8abf5 5 = .ok (.aload_n 0, 1) := by decide +kernel
theorem dJ0_length_8abf5_6 : decode cJ0_length_8abf5 6 = .ok (.invokevirtual 335, 3) := by decide +kernel
theorem dJ0_length_8abf5_9 : decode cJ0_length_8abf5 9 = .ok (.ishr, 1) := by decide +kernel
theorem dJ0_length_8abf5_10 : decode cJ0_length_8abf5 10 = .ok (.ireturn, 1) := by decide +kernel
theorem dJ0_charAt_5068e_0 : decode cJ0_charAt_5068e 0 = .ok (.aload_n 0, 1) := by decide +kernel
theorem dJ0_charAt_5068e_1 : decode cJ0_charAt_5068e 1 = .ok (.invokevirtual 492, 3) := by decide +kernel
theorem dJ0_charAt_5068e_4 : decode cJ0_charAt_5068e 4 = .ok (.ifCond .eq 12, 3) := by decide +kernel
theorem dJ0_charAt_5068e_7 : decode cJ0_charAt_5068e 7 = .ok (.aload_n 0, 1) := by decide +kernel
theorem dJ0_charAt_5068e_8 : decode cJ0_charAt_5068e 8 = .ok (.getfield 9, 3) := by decide +kernel
theorem dJ0_charAt_5068e_11 : decode cJ0_charAt_5068e 11 = .ok (.iload_n 1, 1) := by decide +kernel
theorem dJ0_charAt_5068e_12 : decode cJ0_charAt_5068e 12 = .ok (.invokestatic 495, 3) := by decide +kernel
theorem dJ0_charAt_5068e_15 : decode cJ0_charAt_5068e 15 = .ok (.ireturn, 1) := by decide +kernel
theorem dJ0_charAt_5068e_16 : decode cJ0_charAt_5068e 16 = .ok (.aload_n 0, 1) := by decide +kernel
theorem dJ0_charAt_5068e_17 : decode cJ0_charAt_5068e 17 = .ok (.getfield 9, 3) := by decide +kernel
theorem dJ0_charAt_5068e_20 : decode cJ0_charAt_5068e 20 = .ok (.iload_n 1, 1) := by decide +kernel
theorem dJ0_charAt_5068e_21 : decode cJ0_charAt_5068e 21 = .ok (.invokestatic 498, 3) := by decide +kernel
theorem dJ0_charAt_5068e_24 : decode cJ0_charAt_5068e 24 = .ok (.ireturn, 1) := by decide +kernel
theorem dJ0_coder_7d493_0 : decode cJ0_coder_7d493 0 = .ok (.getstatic 38, 3) := by decide +kernel
theorem dJ0_coder_7d493_3 : decode cJ0_coder_7d493 3 = .ok (.ifCond .eq 10, 3) := by decide +kernel
theorem dJ0_coder_7d493_6 : decode cJ0_coder_7d493 6 = .ok (.aload_n 0, 1) := by decide +kernel
theorem dJ0_coder_7d493_7 : decode cJ0_coder_7d493 7 = .ok (.getfield 15, 3) := by decide +kernel
theorem dJ0_coder_7d493_10 : decode cJ0_coder_7d493 10 = .ok (.goto 4, 3) := by decide +kernel
theorem dJ0_coder_7d493_13 : decode cJ0_coder_7d493 13 = .ok (.iconst 1, 1) := by decide +kernel
theorem dJ0_coder_7d493_14 : decode cJ0_coder_7d493 14 = .ok (.ireturn, 1) := by decide +kernel
theorem dJ0_isLatin1_aae02_0 : decode cJ0_isLatin1_aae02 0 = .ok (.getstatic 38, 3) := by decide +kernel
theorem dJ0_isLatin1_aae02_3 : decode cJ0_isLatin1_aae02 3 = .ok (.ifCond .eq 14, 3) := by decide +kernel
theorem dJ0_isLatin1_aae02_6 : decode cJ0_isLatin1_aae02 6 = .ok (.aload_n 0, 1) := by decide +kernel
theorem dJ0_isLatin1_aae02_7 : decode cJ0_isLatin1_aae02 7 = .ok (.getfield 15, 3) := by decide +kernel
theorem dJ0_isLatin1_aae02_10 : decode cJ0_isLatin1_aae02 10 = .ok (.ifCond .ne 7, 3) := by decide +kernel
theorem dJ0_isLatin1_aae02_13 : decode cJ0_isLatin1_aae02 13 = .ok (.iconst 1, 1) := by decide +kernel
theorem dJ0_isLatin1_aae02_14 : decode cJ0_isLatin1_aae02 14 = .ok (.goto 4, 3) := by decide +kernel
theorem dJ0_isLatin1_aae02_17 : decode cJ0_isLatin1_aae02 17 = .ok (.iconst 0, 1) := by decide +kernel
theorem dJ0_isLatin1_aae02_18 : decode cJ0_isLatin1_aae02 18 = .ok (.ireturn, 1) := by decide +kernel
theorem dJ0_checkIndex_df160_0 : decode cJ0_checkIndex_df160 0 = .ok (.iload_n 0, 1) := by decide +kernel
theorem dJ0_checkIndex_df160_1 : decode cJ0_checkIndex_df160 1 = .ok (.iload_n 1, 1) := by decide +kernel
theorem dJ0_checkIndex_df160_2 : decode cJ0_checkIndex_df160 2 = .ok (.getstatic 1053, 3) := by decide +kernel
theorem dJ0_checkIndex_df160_5 : decode cJ0_checkIndex_df160 5 = .ok (.invokestatic 1059, 3) := by decide +kernel
theorem dJ0_checkIndex_df160_8 : decode cJ0_checkIndex_df160 8 = .ok (.pop, 1) := by decide +kernel
theorem dJ0_checkIndex_df160_9 : decode cJ0_checkIndex_df160 9 = .ok (.return_, 1) := by decide +kernel
theorem dJ1_charAt_3b067_0 : decode cJ1_charAt_3b067 0 = .ok (.iload_n 1, 1) := by decide +kernel
theorem dJ1_charAt_3b067_1 : decode cJ1_charAt_3b067 1 = .ok (.aload_n 0, 1) := by decide +kernel
theorem dJ1_charAt_3b067_2 : decode cJ1_charAt_3b067 2 = .ok (.arraylength, 1) := by decide +kernel
theorem dJ1_charAt_3b067_3 : decode cJ1_charAt_3b067 3 = .ok (.invokestatic 9, 3) := by decide +kernel
theorem dJ1_charAt_3b067_6 : decode cJ1_charAt_3b067 6 = .ok (.aload_n 0, 1) := by decide +kernel
theorem dJ1_charAt_3b067_7 : decode cJ1_charAt_3b067 7 = .ok (.iload_n 1, 1) := by decide +kernel
theorem dJ1_charAt_3b067_8 : decode cJ1_charAt_3b067 8 = .ok (.baload, 1) := by decide +kernel
theorem dJ1_charAt_3b067_9 : decode cJ1_charAt_3b067 9 = .ok (.sipush 255, 3) := by decide +kernel
theorem dJ1_charAt_3b067_12 : decode cJ1_charAt_3b067 12 = .ok (.iand, 1) := by decide +kernel
theorem dJ1_charAt_3b067_13 : decode cJ1_charAt_3b067 13 = .ok (.i2c, 1) := by decide +kernel
theorem dJ1_charAt_3b067_14 : decode cJ1_charAt_3b067 14 = .ok (.ireturn, 1) := by decide +kernel
theorem dJ2_getChar_3b067_0 : decode cJ2_getChar_3b067 0 = .ok (.getstatic 44, 3) := by decide +kernel
theorem dJ2_getChar_3b067_3 : decode cJ2_getChar_3b067 3 = .ok (.ifCond .ne 25, 3) := by decide +kernel
theorem dJ2_getChar_3b067_6 : decode cJ2_getChar_3b067 6 = .ok (.iload_n 1, 1) := by decide +kernel
theorem dJ2_getChar_3b067_7 : decode cJ2_getChar_3b067 7 = .ok (.ifCond .lt 11, 3) := by decide +kernel
theorem dJ2_getChar_3b067_10 : decode cJ2_getChar_3b067 10 = .ok (.iload_n 1, 1) := by decide +kernel
theorem dJ2_getChar_3b067_11 : decode cJ2_getChar_3b067 11 = .ok (.aload_n 0, 1) := by decide +kernel
theorem dJ2_getChar_3b067_12 : decode cJ2_getChar_3b067 12 = .ok (.invokestatic 48, 3) := by decide +kernel
theorem dJ2_getChar_3b067_15 : decode cJ2_getChar_3b067 15 = .ok (.if_icmp .lt 13, 3) := by decide +kernel
theorem dJ2_getChar_3b067_18 : decode cJ2_getChar_3b067 18 = .ok (.new 52, 3) := by decide +kernel
theorem dJ2_getChar_3b067_21 : decode cJ2_getChar_3b067 21 = .ok (.dup, 1) := by decide +kernel
theorem dJ2_getChar_3b067_22 : decode cJ2_getChar_3b067 22 = .ok (.ldc 54, 2) := by decide +kernel
theorem dJ2_getChar_3b067_24 : decode cJ2_getChar_3b067 24 = .ok (.invokespecial 56, 3) := by decide +kernel
theorem dJ2_getChar_3b067_27 : decode cJ2_getChar_3b067 27 = .ok (.athrow, 1) := by decide +kernel
theorem dJ2_getChar_3b067_28 : decode cJ2_getChar_3b067 28 = .ok (.iload_n 1, 1) := by decide +kernel
theorem dJ2_getChar_3b067_29 : decode cJ2_getChar_3b067 29 = .ok (.iconst 1, 1) := by decide +kernel
theorem dJ2_getChar_3b067_30 : decode cJ2_getChar_3b067 30 = .ok (.ishl, 1) := by decide +kernel
theorem dJ2_getChar_3b067_31 : decode cJ2_getChar_3b067 31 = .ok (.istore_n 1, 1) := by decide +kernel
theorem dJ2_getChar_3b067_32 : decode cJ2_getChar_3b067 32 = .ok (.aload_n 0, 1) := by decide +kernel
theorem dJ2_getChar_3b067_33 : decode cJ2_getChar_3b067 33 = .ok (.iload_n 1, 1) := by decide +kernel
theorem dJ2_getChar_3b067_34 : decode cJ2_getChar_3b067 34 = .ok (.iinc 1 1, 3) := by decide +kernel
theorem dJ2_getChar_3b067_37 : decode cJ2_getChar_3b067 37 = .ok (.baload, 1) := by decide +kernel
theorem dJ2_getChar_3b067_38 : decode cJ2_getChar_3b067 38 = .ok (.sipush 255, 3) := by decide +kernel
theorem dJ2_getChar_3b067_41 : decode cJ2_getChar_3b067 41 = .ok (.iand, 1) := by decide +kernel
theorem dJ2_getChar_3b067_42 : decode cJ2_getChar_3b067 42 = .ok (.getstatic 59, 3) := by decide +kernel
theorem dJ2_getChar_3b067_45 : decode cJ2_getChar_3b067 45 = .ok (.ishl, 1) := by decide +kernel
theorem dJ2_getChar_3b067_46 : decode cJ2_getChar_3b067 46 = .ok (.aload_n 0, 1) := by decide +kernel
theorem dJ2_getChar_3b067_47 : decode cJ2_getChar_3b067 47 = .ok (.iload_n 1, 1) := by decide +kernel
theorem dJ2_getChar_3b067_48 : decode cJ2_getChar_3b067 48 = .ok (.baload, 1) := by decide +kernel
theorem dJ2_getChar_3b067_49 : decode cJ2_getChar_3b067 49 = .ok (.sipush 255, 3) := by decide +kernel
theorem dJ2_getChar_3b067_52 : decode cJ2_getChar_3b067 52 = .ok (.iand, 1) := by decide +kernel
theorem dJ2_getChar_3b067_53 : decode cJ2_getChar_3b067 53 = .ok (.getstatic 63, 3) := by decide +kernel
theorem dJ2_getChar_3b067_56 : decode cJ2_getChar_3b067 56 = .ok (.ishl, 1) := by decide +kernel
theorem dJ2_getChar_3b067_57 : decode cJ2_getChar_3b067 57 = .ok (.ior, 1) := by decide +kernel
theorem dJ2_getChar_3b067_58 : decode cJ2_getChar_3b067 58 = .ok (.i2c, 1) := by decide +kernel
theorem dJ2_getChar_3b067_59 : decode cJ2_getChar_3b067 59 = .ok (.ireturn, 1) := by decide +kernel
theorem dJ2_length_9d52b_0 : decode cJ2_length_9d52b 0 = .ok (.aload_n 0, 1) := by decide +kernel
theorem dJ2_length_9d52b_1 : decode cJ2_length_9d52b 1 = .ok (.arraylength, 1) := by decide +kernel
theorem dJ2_length_9d52b_2 : decode cJ2_length_9d52b 2 = .ok (.iconst 1, 1) := by decide +kernel
theorem dJ2_length_9d52b_3 : decode cJ2_length_9d52b 3 = .ok (.ishr, 1) := by decide +kernel
theorem dJ2_length_9d52b_4 : decode cJ2_length_9d52b 4 = .ok (.ireturn, 1) := by decide +kernel
theorem dJ2_charAt_3b067_0 : decode cJ2_charAt_3b067 0 = .ok (.iload_n 1, 1) := by decide +kernel
theorem dJ2_charAt_3b067_1 : decode cJ2_charAt_3b067 1 = .ok (.aload_n 0, 1) := by decide +kernel
theorem dJ2_charAt_3b067_2 : decode cJ2_charAt_3b067 2 = .ok (.invokestatic 67, 3) := by decide +kernel
theorem dJ2_charAt_3b067_5 : decode cJ2_charAt_3b067 5 = .ok (.aload_n 0, 1) := by decide +kernel
theorem dJ2_charAt_3b067_6 : decode cJ2_charAt_3b067 6 = .ok (.iload_n 1, 1) := by decide +kernel
theorem dJ2_charAt_3b067_7 : decode cJ2_charAt_3b067 7 = .ok (.invokestatic 71, 3) := by decide +kernel
theorem dJ2_charAt_3b067_10 : decode cJ2_charAt_3b067 10 = .ok (.ireturn, 1) := by decide +kernel
theorem dJ2_checkIndex_2214a_0 : decode cJ2_checkIndex_2214a 0 = .ok (.iload_n 0, 1) := by decide +kernel
theorem dJ2_checkIndex_2214a_1 : decode cJ2_checkIndex_2214a 1 = .ok (.aload_n 1, 1) := by decide +kernel
theorem dJ2_checkIndex_2214a_2 : decode cJ2_checkIndex_2214a 2 = .ok (.invokestatic 48, 3) := by decide +kernel
theorem dJ2_checkIndex_2214a_5 : decode cJ2_checkIndex_2214a 5 = .ok (.invokestatic 414, 3) := by decide +kernel
theorem dJ2_checkIndex_2214a_8 : decode cJ2_checkIndex_2214a 8 = .ok (.return_, 1) := by decide +kernel
theorem dJ3_checkIndex_8e157_0 : decode cJ3_checkIndex_8e157 0 = .ok (.iload_n 0, 1) := by decide +kernel
theorem dJ3_checkIndex_8e157_1 : decode cJ3_checkIndex_8e157 1 = .ok (.ifCond .lt 8, 3) := by decide +kernel
theorem dJ3_checkIndex_8e157_4 : decode cJ3_checkIndex_8e157 4 = .ok (.iload_n 0, 1) := by decide +kernel
theorem dJ3_checkIndex_8e157_5 : decode cJ3_checkIndex_8e157 5 = .ok (.iload_n 1, 1) := by decide +kernel
theorem dJ3_checkIndex_8e157_6 : decode cJ3_checkIndex_8e157 6 = .ok (.if_icmp .lt 10, 3) := by decide +kernel
theorem dJ3_checkIndex_8e157_9 : decode cJ3_checkIndex_8e157 9 = .ok (.aload_n 2, 1) := by decide +kernel
theorem dJ3_checkIndex_8e157_10 : decode cJ3_checkIndex_8e157 10 = .ok (.iload_n 0, 1) := by decide +kernel
theorem dJ3_checkIndex_8e157_11 : decode cJ3_checkIndex_8e157 11 = .ok (.iload_n 1, 1) := by decide +kernel
theorem dJ3_checkIndex_8e157_12 : decode cJ3_checkIndex_8e157 12 = .ok (.invokestatic 95, 3) := by decide +kernel
theorem dJ3_checkIndex_8e157_15 : decode cJ3_checkIndex_8e157 15 = .ok (.athrow, 1) := by decide +kernel
theorem dJ3_checkIndex_8e157_16 : decode cJ3_checkIndex_8e157 16 = .ok (.iload_n 0, 1) := by decide +kernel
theorem dJ3_checkIndex_8e157_17 : decode cJ3_checkIndex_8e157 17 = .ok (.ireturn, 1) := by decide +kernel
