theorem dX9_within_0 : decode cX9_within 0 = .ok (.iload_n 0, 1) := by decide +kernel
theorem dX9_within_1 : decode cX9_within 1 = .ok (.iload_n 1, 1) := by decide +kernel
theorem dX9_within_2 : decode cX9_within 2 = .ok (.if_icmp .lt 12, 3) := by decide +kernel
theorem dX9_within_5 : decode cX9_within 5 = .ok (.iload_n 0, 1) := by decide +kernel
theorem dX9_within_6 : decode cX9_within 6 = .ok (.iload_n 2, 1) := by decide +kernel
theorem dX9_within_7 : decode cX9_within 7 = .ok (.if_icmp .gt 7, 3) := by decide +kernel
theorem dX9_within_10 : decode cX9_within 10 = .ok (.iconst 1, 1) := by decide +kernel
theorem dX9_within_11 : decode cX9_within 11 = .ok (.goto 4, 3) := by decide +kernel
theorem dX9_within_14 : decode cX9_within 14 = .ok (.iconst 0, 1) := by decide +kernel
theorem dX9_within_15 : decode cX9_within 15 = .ok (.ireturn, 1) := by decide +kernel
theorem dX1_isPlace_0 : decode cX1_isPlace 0 = .ok (.iload_n 1, 1) := by decide +kernel
theorem dX1_isPlace_1 : decode cX1_isPlace 1 = .ok (.iconst 0, 1) := by decide +kernel
theorem dX1_isPlace_2 : decode cX1_isPlace 2 = .ok (.aload_n 0, 1) := by decide +kernel
theorem dX1_isPlace_3 : decode cX1_isPlace 3 = .ok (.getfield 9, 3) := by decide +kernel
theorem dX1_isPlace_6 : decode cX1_isPlace 6 = .ok (.iconst 1, 1) := by decide +kernel
theorem dX1_isPlace_7 : decode cX1_isPlace 7 = .ok (.isub, 1) := by decide +kernel
theorem dX1_isPlace_8 : decode cX1_isPlace 8 = .ok (.invokestatic 40, 3) := by decide +kernel
theorem dX1_isPlace_11 : decode cX1_isPlace 11 = .ok (.ireturn, 1) := by decide +kernel
theorem dX9_brings_0 : decode cX9_brings 0 = .ok (.iload_n 0, 1) := by decide +kernel
theorem dX9_brings_1 : decode cX9_brings 1 = .ok (.tableswitch 97 1 5 #[35, 45, 56, 67, 77], 35) := by decide +kernel
theorem dX9_brings_36 : decode cX9_brings 36 = .ok (.iconst 0, 1) := by decide +kernel
theorem dX9_brings_37 : decode cX9_brings 37 = .ok (.iload_n 1, 1) := by decide +kernel
theorem dX9_brings_38 : decode cX9_brings 38 = .ok (.iload_n 2, 1) := by decide +kernel
theorem dX9_brings_39 : decode cX9_brings 39 = .ok (.invokestatic 368, 3) := by decide +kernel
theorem dX9_brings_42 : decode cX9_brings 42 = .ok (.bipush 7, 2) := by decide +kernel
theorem dX9_brings_44 : decode cX9_brings 44 = .ok (.isub, 1) := by decide +kernel
theorem dX9_brings_45 : decode cX9_brings 45 = .ok (.ireturn, 1) := by decide +kernel
theorem dX9_brings_46 : decode cX9_brings 46 = .ok (.iconst 0, 1) := by decide +kernel
theorem dX9_brings_47 : decode cX9_brings 47 = .ok (.iload_n 1, 1) := by decide +kernel
theorem dX9_brings_48 : decode cX9_brings 48 = .ok (.iload_n 2, 1) := by decide +kernel
theorem dX9_brings_49 : decode cX9_brings 49 = .ok (.invokestatic 368, 3) := by decide +kernel
theorem dX9_brings_52 : decode cX9_brings 52 = .ok (.iconst 5, 1) := by decide +kernel
theorem dX9_brings_53 : decode cX9_brings 53 = .ok (.iload_n 2, 1) := by decide +kernel
theorem dX9_brings_54 : decode cX9_brings 54 = .ok (.imul, 1) := by decide +kernel
theorem dX9_brings_55 : decode cX9_brings 55 = .ok (.isub, 1) := by decide +kernel
theorem dX9_brings_56 : decode cX9_brings 56 = .ok (.ireturn, 1) := by decide +kernel
theorem dX9_brings_57 : decode cX9_brings 57 = .ok (.iconst 1, 1) := by decide +kernel
theorem dX9_brings_58 : decode cX9_brings 58 = .ok (.iload_n 1, 1) := by decide +kernel
theorem dX9_brings_59 : decode cX9_brings 59 = .ok (.iload_n 2, 1) := by decide +kernel
theorem dX9_brings_60 : decode cX9_brings 60 = .ok (.invokestatic 368, 3) := by decide +kernel
theorem dX9_brings_63 : decode cX9_brings 63 = .ok (.iconst 3, 1) := by decide +kernel
theorem dX9_brings_64 : decode cX9_brings 64 = .ok (.iload_n 2, 1) := by decide +kernel
theorem dX9_brings_65 : decode cX9_brings 65 = .ok (.imul, 1) := by decide +kernel
theorem dX9_brings_66 : decode cX9_brings 66 = .ok (.iadd, 1) := by decide +kernel
theorem dX9_brings_67 : decode cX9_brings 67 = .ok (.ireturn, 1) := by decide +kernel
theorem dX9_brings_68 : decode cX9_brings 68 = .ok (.iconst 2, 1) := by decide +kernel
theorem dX9_brings_69 : decode cX9_brings 69 = .ok (.iload_n 1, 1) := by decide +kernel
theorem dX9_brings_70 : decode cX9_brings 70 = .ok (.iload_n 2, 1) := by decide +kernel
theorem dX9_brings_71 : decode cX9_brings 71 = .ok (.invokestatic 368, 3) := by decide +kernel
theorem dX9_brings_74 : decode cX9_brings 74 = .ok (.bipush 11, 2) := by decide +kernel
theorem dX9_brings_76 : decode cX9_brings 76 = .ok (.isub, 1) := by decide +kernel
theorem dX9_brings_77 : decode cX9_brings 77 = .ok (.ireturn, 1) := by decide +kernel
theorem dX9_brings_78 : decode cX9_brings 78 = .ok (.iconst 0, 1) := by decide +kernel
theorem dX9_brings_79 : decode cX9_brings 79 = .ok (.iload_n 1, 1) := by decide +kernel
theorem dX9_brings_80 : decode cX9_brings 80 = .ok (.iload_n 2, 1) := by decide +kernel
theorem dX9_brings_81 : decode cX9_brings 81 = .ok (.invokestatic 368, 3) := by decide +kernel
theorem dX9_brings_84 : decode cX9_brings 84 = .ok (.iload_n 2, 1) := by decide +kernel
theorem dX9_brings_85 : decode cX9_brings 85 = .ok (.iconst 2, 1) := by decide +kernel
theorem dX9_brings_86 : decode cX9_brings 86 = .ok (.irem, 1) := by decide +kernel
theorem dX9_brings_87 : decode cX9_brings 87 = .ok (.ifCond .ne 8, 3) := by decide +kernel
theorem dX9_brings_90 : decode cX9_brings 90 = .ok (.bipush 9, 2) := by decide +kernel
theorem dX9_brings_92 : decode cX9_brings 92 = .ok (.goto 4, 3) := by decide +kernel
theorem dX9_brings_95 : decode cX9_brings 95 = .ok (.iconst 0, 1) := by decide +kernel
theorem dX9_brings_96 : decode cX9_brings 96 = .ok (.iadd, 1) := by decide +kernel
theorem dX9_brings_97 : decode cX9_brings 97 = .ok (.ireturn, 1) := by decide +kernel
theorem dX9_brings_98 : decode cX9_brings 98 = .ok (.iload_n 1, 1) := by decide +kernel
theorem dX9_brings_99 : decode cX9_brings 99 = .ok (.ireturn, 1) := by decide +kernel
theorem dX1_bringsOf_0 : decode cX1_bringsOf 0 = .ok (.aload_n 0, 1) := by decide +kernel
theorem dX1_bringsOf_1 : decode cX1_bringsOf 1 = .ok (.getfield 15, 3) := by decide +kernel
theorem dX1_bringsOf_4 : decode cX1_bringsOf 4 = .ok (.iload_n 1, 1) := by decide +kernel
theorem dX1_bringsOf_5 : decode cX1_bringsOf 5 = .ok (.iaload, 1) := by decide +kernel
theorem dX1_bringsOf_6 : decode cX1_bringsOf 6 = .ok (.aload_n 0, 1) := by decide +kernel
theorem dX1_bringsOf_7 : decode cX1_bringsOf 7 = .ok (.getfield 25, 3) := by decide +kernel
theorem dX1_bringsOf_10 : decode cX1_bringsOf 10 = .ok (.iload_n 1, 1) := by decide +kernel
theorem dX1_bringsOf_11 : decode cX1_bringsOf 11 = .ok (.iaload, 1) := by decide +kernel
theorem dX1_bringsOf_12 : decode cX1_bringsOf 12 = .ok (.aload_n 0, 1) := by decide +kernel
theorem dX1_bringsOf_13 : decode cX1_bringsOf 13 = .ok (.getfield 50, 3) := by decide +kernel
theorem dX1_bringsOf_16 : decode cX1_bringsOf 16 = .ok (.invokestatic 53, 3) := by decide +kernel
theorem dX1_bringsOf_19 : decode cX1_bringsOf 19 = .ok (.ireturn, 1) := by decide +kernel
theorem dX1_shutWays_0 : decode cX1_shutWays 0 = .ok (.iconst 0, 1) := by decide +kernel
theorem dX1_shutWays_1 : decode cX1_shutWays 1 = .ok (.istore_n 1, 1) := by decide +kernel
theorem dX1_shutWays_2 : decode cX1_shutWays 2 = .ok (.iconst 0, 1) := by decide +kernel
theorem dX1_shutWays_3 : decode cX1_shutWays 3 = .ok (.istore_n 2, 1) := by decide +kernel
theorem dX1_shutWays_4 : decode cX1_shutWays 4 = .ok (.iload_n 2, 1) := by decide +kernel
theorem dX1_shutWays_5 : decode cX1_shutWays 5 = .ok (.aload_n 0, 1) := by decide +kernel
theorem dX1_shutWays_6 : decode cX1_shutWays 6 = .ok (.getfield 44, 3) := by decide +kernel
theorem dX1_shutWays_9 : decode cX1_shutWays 9 = .ok (.if_icmp .ge 18, 3) := by decide +kernel
theorem dX1_shutWays_12 : decode cX1_shutWays 12 = .ok (.iload_n 1, 1) := by decide +kernel
theorem dX1_shutWays_13 : decode cX1_shutWays 13 = .ok (.aload_n 0, 1) := by decide +kernel
theorem dX1_shutWays_14 : decode cX1_shutWays 14 = .ok (.getfield 31, 3) := by decide +kernel
theorem dX1_shutWays_17 : decode cX1_shutWays 17 = .ok (.iload_n 2, 1) := by decide +kernel
theorem dX1_shutWays_18 : decode cX1_shutWays 18 = .ok (.iaload, 1) := by decide +kernel
theorem dX1_shutWays_19 : decode cX1_shutWays 19 = .ok (.iadd, 1) := by decide +kernel
theorem dX1_shutWays_20 : decode cX1_shutWays 20 = .ok (.istore_n 1, 1) := by decide +kernel
theorem dX1_shutWays_21 : decode cX1_shutWays 21 = .ok (.iinc 2 1, 3) := by decide +kernel
theorem dX1_shutWays_24 : decode cX1_shutWays 24 = .ok (.goto (-20), 3) := by decide +kernel
theorem dX1_shutWays_27 : decode cX1_shutWays 27 = .ok (.iload_n 1, 1) := by decide +kernel
theorem dX1_shutWays_28 : decode cX1_shutWays 28 = .ok (.ireturn, 1) := by decide +kernel
theorem dX1_isOpenSet_0 : decode cX1_isOpenSet 0 = .ok (.iload_n 1, 1) := by decide +kernel
theorem dX1_isOpenSet_1 : decode cX1_isOpenSet 1 = .ok (.ifCond .le 13, 3) := by decide +kernel
theorem dX1_isOpenSet_4 : decode cX1_isOpenSet 4 = .ok (.iload_n 1, 1) := by decide +kernel
theorem dX1_isOpenSet_5 : decode cX1_isOpenSet 5 = .ok (.iconst 1, 1) := by decide +kernel
theorem dX1_isOpenSet_6 : decode cX1_isOpenSet 6 = .ok (.aload_n 0, 1) := by decide +kernel
theorem dX1_isOpenSet_7 : decode cX1_isOpenSet 7 = .ok (.getfield 44, 3) := by decide +kernel
theorem dX1_isOpenSet_10 : decode cX1_isOpenSet 10 = .ok (.ishl, 1) := by decide +kernel
theorem dX1_isOpenSet_11 : decode cX1_isOpenSet 11 = .ok (.if_icmp .lt 5, 3) := by decide +kernel
theorem dX1_isOpenSet_14 : decode cX1_isOpenSet 14 = .ok (.iconst 0, 1) := by decide +kernel
theorem dX1_isOpenSet_15 : decode cX1_isOpenSet 15 = .ok (.ireturn, 1) := by decide +kernel
theorem dX1_isOpenSet_16 : decode cX1_isOpenSet 16 = .ok (.iconst 0, 1) := by decide +kernel
theorem dX1_isOpenSet_17 : decode cX1_isOpenSet 17 = .ok (.istore_n 2, 1) := by decide +kernel
theorem dX1_isOpenSet_18 : decode cX1_isOpenSet 18 = .ok (.iload_n 2, 1) := by decide +kernel
theorem dX1_isOpenSet_19 : decode cX1_isOpenSet 19 = .ok (.aload_n 0, 1) := by decide +kernel
theorem dX1_isOpenSet_20 : decode cX1_isOpenSet 20 = .ok (.getfield 44, 3) := by decide +kernel
theorem dX1_isOpenSet_23 : decode cX1_isOpenSet 23 = .ok (.if_icmp .ge 28, 3) := by decide +kernel
theorem dX1_isOpenSet_26 : decode cX1_isOpenSet 26 = .ok (.iload_n 1, 1) := by decide +kernel
theorem dX1_isOpenSet_27 : decode cX1_isOpenSet 27 = .ok (.iconst 1, 1) := by decide +kernel
theorem dX1_isOpenSet_28 : decode cX1_isOpenSet 28 = .ok (.iload_n 2, 1) := by decide +kernel
theorem dX1_isOpenSet_29 : decode cX1_isOpenSet 29 = .ok (.ishl, 1) := by decide +kernel
theorem dX1_isOpenSet_30 : decode cX1_isOpenSet 30 = .ok (.iand, 1) := by decide +kernel
theorem dX1_isOpenSet_31 : decode cX1_isOpenSet 31 = .ok (.ifCond .eq 14, 3) := by decide +kernel
theorem dX1_isOpenSet_34 : decode cX1_isOpenSet 34 = .ok (.aload_n 0, 1) := by decide +kernel
theorem dX1_isOpenSet_35 : decode cX1_isOpenSet 35 = .ok (.getfield 31, 3) := by decide +kernel
theorem dX1_isOpenSet_38 : decode cX1_isOpenSet 38 = .ok (.iload_n 2, 1) := by decide +kernel
theorem dX1_isOpenSet_39 : decode cX1_isOpenSet 39 = .ok (.iaload, 1) := by decide +kernel
theorem dX1_isOpenSet_40 : decode cX1_isOpenSet 40 = .ok (.ifCond .eq 5, 3) := by decide +kernel
theorem dX1_isOpenSet_43 : decode cX1_isOpenSet 43 = .ok (.iconst 0, 1) := by decide +kernel
theorem dX1_isOpenSet_44 : decode cX1_isOpenSet 44 = .ok (.ireturn, 1) := by decide +kernel
theorem dX1_isOpenSet_45 : decode cX1_isOpenSet 45 = .ok (.iinc 2 1, 3) := by decide +kernel
theorem dX1_isOpenSet_48 : decode cX1_isOpenSet 48 = .ok (.goto (-30), 3) := by decide +kernel
theorem dX1_isOpenSet_51 : decode cX1_isOpenSet 51 = .ok (.iconst 1, 1) := by decide +kernel
theorem dX1_isOpenSet_52 : decode cX1_isOpenSet 52 = .ok (.ireturn, 1) := by decide +kernel
theorem dX9_finding_0 : decode cX9_finding 0 = .ok (.aload_n 0, 1) := by decide +kernel
theorem dX9_finding_1 : decode cX9_finding 1 = .ok (.getfield 70, 3) := by decide +kernel
theorem dX9_finding_4 : decode cX9_finding 4 = .ok (.iload_n 1, 1) := by decide +kernel
theorem dX9_finding_5 : decode cX9_finding 5 = .ok (.dup2, 1) := by decide +kernel
theorem dX9_finding_6 : decode cX9_finding 6 = .ok (.iaload, 1) := by decide +kernel
theorem dX9_finding_7 : decode cX9_finding 7 = .ok (.iconst 1, 1) := by decide +kernel
theorem dX9_finding_8 : decode cX9_finding 8 = .ok (.iadd, 1) := by decide +kernel
theorem dX9_finding_9 : decode cX9_finding 9 = .ok (.iastore, 1) := by decide +kernel
theorem dX9_finding_10 : decode cX9_finding 10 = .ok (.ldc_w 361, 3) := by decide +kernel
theorem dX9_finding_13 : decode cX9_finding 13 = .ok (.iload_n 1, 1) := by decide +kernel
theorem dX9_finding_14 : decode cX9_finding 14 = .ok (.isub, 1) := by decide +kernel
theorem dX9_finding_15 : decode cX9_finding 15 = .ok (.ireturn, 1) := by decide +kernel
theorem dX9_places_0 : decode cX9_places 0 = .ok (.iload_n 1, 1) := by decide +kernel
theorem dX9_places_1 : decode cX9_places 1 = .ok (.iconst 2, 1) := by decide +kernel
theorem dX9_places_2 : decode cX9_places 2 = .ok (.bipush 6, 2) := by decide +kernel
theorem dX9_places_4 : decode cX9_places 4 = .ok (.invokestatic 75, 3) := by decide +kernel
theorem dX9_places_7 : decode cX9_places 7 = .ok (.ifCond .ne 9, 3) := by decide +kernel
theorem dX9_places_10 : decode cX9_places 10 = .ok (.aload_n 0, 1) := by decide +kernel
theorem dX9_places_11 : decode cX9_places 11 = .ok (.iconst 0, 1) := by decide +kernel
theorem dX9_places_12 : decode cX9_places 12 = .ok (.invokevirtual 79, 3) := by decide +kernel
theorem dX9_places_15 : decode cX9_places 15 = .ok (.ireturn, 1) := by decide +kernel
theorem dX9_places_16 : decode cX9_places 16 = .ok (.iconst 0, 1) := by decide +kernel
theorem dX9_places_17 : decode cX9_places 17 = .ok (.istore_n 2, 1) := by decide +kernel
theorem dX9_places_18 : decode cX9_places 18 = .ok (.iload_n 2, 1) := by decide +kernel
theorem dX9_places_19 : decode cX9_places 19 = .ok (.aload_n 0, 1) := by decide +kernel
theorem dX9_places_20 : decode cX9_places 20 = .ok (.getfield 12, 3) := by decide +kernel
theorem dX9_places_23 : decode cX9_places 23 = .ok (.getfield 83, 3) := by decide +kernel
theorem dX9_places_26 : decode cX9_places 26 = .ok (.if_icmp .ge 41, 3) := by decide +kernel
theorem dX9_places_29 : decode cX9_places 29 = .ok (.aload_n 0, 1) := by decide +kernel
theorem dX9_places_30 : decode cX9_places 30 = .ok (.getfield 12, 3) := by decide +kernel
theorem dX9_places_33 : decode cX9_places 33 = .ok (.getfield 87, 3) := by decide +kernel
theorem dX9_places_36 : decode cX9_places 36 = .ok (.iload_n 2, 1) := by decide +kernel
theorem dX9_places_37 : decode cX9_places 37 = .ok (.iaload, 1) := by decide +kernel
theorem dX9_places_38 : decode cX9_places 38 = .ok (.iload_n 1, 1) := by decide +kernel
theorem dX9_places_39 : decode cX9_places 39 = .ok (.if_icmp .ge 16, 3) := by decide +kernel
theorem dX9_places_42 : decode cX9_places 42 = .ok (.aload_n 0, 1) := by decide +kernel
theorem dX9_places_43 : decode cX9_places 43 = .ok (.getfield 12, 3) := by decide +kernel
theorem dX9_places_46 : decode cX9_places 46 = .ok (.getfield 90, 3) := by decide +kernel
theorem dX9_places_49 : decode cX9_places 49 = .ok (.iload_n 2, 1) := by decide +kernel
theorem dX9_places_50 : decode cX9_places 50 = .ok (.iaload, 1) := by decide +kernel
theorem dX9_places_51 : decode cX9_places 51 = .ok (.iload_n 1, 1) := by decide +kernel
theorem dX9_places_52 : decode cX9_places 52 = .ok (.if_icmp .lt 9, 3) := by decide +kernel
theorem dX9_places_55 : decode cX9_places 55 = .ok (.aload_n 0, 1) := by decide +kernel
theorem dX9_places_56 : decode cX9_places 56 = .ok (.iconst 4, 1) := by decide +kernel
theorem dX9_places_57 : decode cX9_places 57 = .ok (.invokevirtual 79, 3) := by decide +kernel
theorem dX9_places_60 : decode cX9_places 60 = .ok (.ireturn, 1) := by decide +kernel
theorem dX9_places_61 : decode cX9_places 61 = .ok (.iinc 2 1, 3) := by decide +kernel
theorem dX9_places_64 : decode cX9_places 64 = .ok (.goto (-46), 3) := by decide +kernel
theorem dX9_places_67 : decode cX9_places 67 = .ok (.aload_n 0, 1) := by decide +kernel
theorem dX9_places_68 : decode cX9_places 68 = .ok (.getfield 12, 3) := by decide +kernel
theorem dX9_places_71 : decode cX9_places 71 = .ok (.getfield 93, 3) := by decide +kernel
theorem dX9_places_74 : decode cX9_places 74 = .ok (.istore_n 2, 1) := by decide +kernel
theorem dX9_places_75 : decode cX9_places 75 = .ok (.aload_n 0, 1) := by decide +kernel
theorem dX9_places_76 : decode cX9_places 76 = .ok (.getfield 12, 3) := by decide +kernel
theorem dX9_places_79 : decode cX9_places 79 = .ok (.iload_n 1, 1) := by decide +kernel
theorem dX9_places_80 : decode cX9_places 80 = .ok (.putfield 93, 3) := by decide +kernel
theorem dX9_places_83 : decode cX9_places 83 = .ok (.iload_n 2, 1) := by decide +kernel
theorem dX9_places_84 : decode cX9_places 84 = .ok (.ireturn, 1) := by decide +kernel
theorem dX10_in_0 : decode cX10_in 0 = .ok (.lload_n 0, 1) := by decide +kernel
theorem dX10_in_1 : decode cX10_in 1 = .ok (.lload_n 2, 1) := by decide +kernel
theorem dX10_in_2 : decode cX10_in 2 = .ok (.lcmp, 1) := by decide +kernel
theorem dX10_in_3 : decode cX10_in 3 = .ok (.ifCond .lt 14, 3) := by decide +kernel
theorem dX10_in_6 : decode cX10_in 6 = .ok (.lload_n 0, 1) := by decide +kernel
theorem dX10_in_7 : decode cX10_in 7 = .ok (.lload 4, 2) := by decide +kernel
theorem dX10_in_9 : decode cX10_in 9 = .ok (.lcmp, 1) := by decide +kernel
theorem dX10_in_10 : decode cX10_in 10 = .ok (.ifCond .gt 7, 3) := by decide +kernel
theorem dX10_in_13 : decode cX10_in 13 = .ok (.iconst 1, 1) := by decide +kernel
theorem dX10_in_14 : decode cX10_in 14 = .ok (.goto 4, 3) := by decide +kernel
theorem dX10_in_17 : decode cX10_in 17 = .ok (.iconst 0, 1) := by decide +kernel
theorem dX10_in_18 : decode cX10_in 18 = .ok (.ireturn, 1) := by decide +kernel
def f_X9_within (a0 : Int32) (a1 : Int32) (a2 : Int32) : Option Int32 := if a0 < a1 then (some (0 : Int32)) else (if a2 < a0 then (some (0 : Int32)) else (some (1 : Int32)))
set_option maxRecDepth 100000 in
set_option maxHeartbeats 4000000 in
theorem k_X9_within {l : Launch} {σ : MSt} {a0 : Int32} {a1 : Int32} {a2 : Int32} {out : Int32} (h : f_X9_within a0 a1 a2 = some out) : MK l yX9_within cX9_within 3 (some .boolean) 1 [.int a0, .int a1, .int a2] σ (some (.int out)) σ := by
  unfold f_X9_within at h
  refine mw_entry (own := RX9) (ini := false) (L := [(0, .int a0), (1, .int a1), (2, .int a2)]) (by decide +kernel) rfl (fun h => nomatch h) rfl (Nat.le_of_ble_eq_true rfl) (Nat.le_of_ble_eq_true rfl) (fun E => ?_)
  refine mw_iload_n dX9_within_0 0 rfl ?_
  refine mw_iload_n dX9_within_1 1 rfl ?_
  refine mw_icmp_lt (tgt := 14) dX9_within_2 (by decide) (fun hc => ?_) (fun hc => ?_)
  · have h := mit hc h
    refine mw_iconst (v := 0) dX9_within_14 (by decide) ?_
    exact mw_zret dX9_within_15 rfl (by decide) (mrs_i h) rfl rfl
  · have h := mie hc h
    refine mw_iload_n dX9_within_5 0 rfl ?_
    refine mw_iload_n dX9_within_6 2 rfl ?_
    refine mw_icmp_gt (tgt := 14) dX9_within_7 (by decide) (fun hc => ?_) (fun hc => ?_)
    · have h := mit hc h
      refine mw_iconst (v := 0) dX9_within_14 (by decide) ?_
      exact mw_zret dX9_within_15 rfl (by decide) (mrs_i h) rfl rfl
    · have h := mie hc h
      refine mw_iconst (v := 1) dX9_within_10 (by decide) ?_
      refine mw_goto (tgt := 15) dX9_within_11 (by decide) ?_
      exact mw_zret dX9_within_15 rfl (by decide) (mrs_i h) rfl rfl
def f_X1_isPlace (σ : MSt) (a0 : Nat) (a1 : Int32) : Option Int32 := if mob 0 a0 = true then ((f_X9_within a1 (0 : Int32) ((mmI σ a0 0) - (1 : Int32))).bind (fun r2 => if r2 = 0 ∨ r2 = 1 then (some r2) else none)) else none
set_option maxRecDepth 100000 in
set_option maxHeartbeats 4000000 in
theorem k_X1_isPlace {l : Launch} {σ : MSt} {a0 : Nat} {a1 : Int32} {out : Int32} (h : f_X1_isPlace σ a0 a1 = some out) : MK l yX1_isPlace cX1_isPlace 2 (some .boolean) 2 [.ref a0, .int a1] σ (some (.int out)) σ := by
  unfold f_X1_isPlace at h
  refine mw_entry (own := RX1) (ini := false) (L := [(0, .ref a0), (1, .int a1)]) (by decide +kernel) rfl (fun h => nomatch h) rfl (Nat.le_of_ble_eq_true rfl) (Nat.le_of_ble_eq_true rfl) (fun E => ?_)
  refine mw_iload_n dX1_isPlace_0 1 rfl ?_
  refine mw_iconst (v := 0) dX1_isPlace_1 (by decide) ?_
  refine mw_aload_n dX1_isPlace_2 0 rfl ?_
  obtain ⟨m1, h⟩ := mif h
  refine mv_getI fd_RX1_9_0 dX1_isPlace_3 m1 rfl ?_
  refine mw_iconst (v := 1) dX1_isPlace_6 (by decide) ?_
  refine mw_isub dX1_isPlace_7 ?_
  obtain ⟨r2, e3, h⟩ := mbd h
  refine mv_callSN_i (As := [.int a1, .int (0 : Int32), .int ((mmI σ a0 0) - (1 : Int32))]) lkN_RX1_40_yX9_within dX1_isPlace_8 (k_X9_within e3) rfl rfl (Nat.le_of_ble_eq_true rfl) (by decide) (by decide) ?_
  obtain ⟨m4, h⟩ := mif h
  exact mw_zret dX1_isPlace_11 rfl m4 (mrs_i h) rfl rfl
def f_X9_brings  : Nat → Int32 → Int32 → Int32 → Option Int32
  | 0, _, _, _ => none
  | d + 1, a0, a1, a2 => if a0 = 1 then (((f_X9_brings d) (0 : Int32) a1 a2).bind (fun r1 => some (r1 - (7 : Int32)))) else (if a0 = 2 then (((f_X9_brings d) (0 : Int32) a1 a2).bind (fun r3 => some (r3 - ((5 : Int32) * a2)))) else (if a0 = 3 then (((f_X9_brings d) (1 : Int32) a1 a2).bind (fun r5 => some (r5 + ((3 : Int32) * a2)))) else (if a0 = 4 then (((f_X9_brings d) (2 : Int32) a1 a2).bind (fun r7 => some (r7 - (11 : Int32)))) else (if a0 = 5 then (((f_X9_brings d) (0 : Int32) a1 a2).bind (fun r9 => if (a2 - a2 / (2 : Int32) * (2 : Int32)) = 0 then (some (r9 + (9 : Int32))) else (some (r9 + (0 : Int32))))) else (some a1)))))
set_option maxRecDepth 100000 in
set_option maxHeartbeats 4000000 in
theorem k_X9_brings {l : Launch} : ∀ (d : Nat), ∀ (τ : MSt) (b0 : Int32) (b1 : Int32) (b2 : Int32) (r : Int32), f_X9_brings d b0 b1 b2 = some r → MK l yX9_brings cX9_brings 3 (some .int) (1 + d) [.int b0, .int b1, .int b2] τ (some (.int r)) τ := by
  intro d
  induction d with
  | zero =>
    intro τ b0 b1 b2 r h
    exact nomatch h
  | succ d IH =>
    intro σ a0 a1 a2 out h
    rw [f_X9_brings] at h
    refine mw_entry (own := RX9) (ini := false) (L := [(0, .int a0), (1, .int a1), (2, .int a2)]) (by decide +kernel) rfl (fun h => nomatch h) rfl (Nat.le_of_ble_eq_true rfl) (Nat.le_of_ble_eq_true rfl) (fun E => ?_)
    refine mw_iload_n dX9_brings_0 0 rfl ?_
    by_cases hs1 : a0 = 1
    · have h := mit hs1 h
      refine mv_tabIn (tgt := 36) 1 dX9_brings_1 hs1 (by decide) (by decide) rfl (by decide) ?_
      refine mw_iconst (v := 0) dX9_brings_36 (by decide) ?_
      refine mw_iload_n dX9_brings_37 1 rfl ?_
      refine mw_iload_n dX9_brings_38 2 rfl ?_
      obtain ⟨r1, e2, h⟩ := mbd h
      refine mv_callS_i (As := [.int (0 : Int32), .int a1, .int a2]) lkS_RX9_368_yX9_brings dX9_brings_39 (IH _ _ _ _ _ e2) rfl rfl (Nat.le_of_ble_eq_true rfl) (by omega) (by decide) ?_
      refine mw_bipush (v := 7) dX9_brings_42 (by decide) ?_
      refine mw_isub dX9_brings_44 ?_
      exact mw_iret dX9_brings_45 rfl (mrs_i h) rfl rfl
    have h := mie hs1 h
    by_cases hs2 : a0 = 2
    · have h := mit hs2 h
      refine mv_tabIn (tgt := 46) 2 dX9_brings_1 hs2 (by decide) (by decide) rfl (by decide) ?_
      refine mw_iconst (v := 0) dX9_brings_46 (by decide) ?_
      refine mw_iload_n dX9_brings_47 1 rfl ?_
      refine mw_iload_n dX9_brings_48 2 rfl ?_
      obtain ⟨r3, e4, h⟩ := mbd h
      refine mv_callS_i (As := [.int (0 : Int32), .int a1, .int a2]) lkS_RX9_368_yX9_brings dX9_brings_49 (IH _ _ _ _ _ e4) rfl rfl (Nat.le_of_ble_eq_true rfl) (by omega) (by decide) ?_
      refine mw_iconst (v := 5) dX9_brings_52 (by decide) ?_
      refine mw_iload_n dX9_brings_53 2 rfl ?_
      refine mw_imul dX9_brings_54 ?_
      refine mw_isub dX9_brings_55 ?_
      exact mw_iret dX9_brings_56 rfl (mrs_i h) rfl rfl
    have h := mie hs2 h
    by_cases hs3 : a0 = 3
    · have h := mit hs3 h
      refine mv_tabIn (tgt := 57) 3 dX9_brings_1 hs3 (by decide) (by decide) rfl (by decide) ?_
      refine mw_iconst (v := 1) dX9_brings_57 (by decide) ?_
      refine mw_iload_n dX9_brings_58 1 rfl ?_
      refine mw_iload_n dX9_brings_59 2 rfl ?_
      obtain ⟨r5, e6, h⟩ := mbd h
      refine mv_callS_i (As := [.int (1 : Int32), .int a1, .int a2]) lkS_RX9_368_yX9_brings dX9_brings_60 (IH _ _ _ _ _ e6) rfl rfl (Nat.le_of_ble_eq_true rfl) (by omega) (by decide) ?_
      refine mw_iconst (v := 3) dX9_brings_63 (by decide) ?_
      refine mw_iload_n dX9_brings_64 2 rfl ?_
      refine mw_imul dX9_brings_65 ?_
      refine mw_iadd dX9_brings_66 ?_
      exact mw_iret dX9_brings_67 rfl (mrs_i h) rfl rfl
    have h := mie hs3 h
    by_cases hs4 : a0 = 4
    · have h := mit hs4 h
      refine mv_tabIn (tgt := 68) 4 dX9_brings_1 hs4 (by decide) (by decide) rfl (by decide) ?_
      refine mw_iconst (v := 2) dX9_brings_68 (by decide) ?_
      refine mw_iload_n dX9_brings_69 1 rfl ?_
      refine mw_iload_n dX9_brings_70 2 rfl ?_
      obtain ⟨r7, e8, h⟩ := mbd h
      refine mv_callS_i (As := [.int (2 : Int32), .int a1, .int a2]) lkS_RX9_368_yX9_brings dX9_brings_71 (IH _ _ _ _ _ e8) rfl rfl (Nat.le_of_ble_eq_true rfl) (by omega) (by decide) ?_
      refine mw_bipush (v := 11) dX9_brings_74 (by decide) ?_
      refine mw_isub dX9_brings_76 ?_
      exact mw_iret dX9_brings_77 rfl (mrs_i h) rfl rfl
    have h := mie hs4 h
    by_cases hs5 : a0 = 5
    · have h := mit hs5 h
      refine mv_tabIn (tgt := 78) 5 dX9_brings_1 hs5 (by decide) (by decide) rfl (by decide) ?_
      refine mw_iconst (v := 0) dX9_brings_78 (by decide) ?_
      refine mw_iload_n dX9_brings_79 1 rfl ?_
      refine mw_iload_n dX9_brings_80 2 rfl ?_
      obtain ⟨r9, e10, h⟩ := mbd h
      refine mv_callS_i (As := [.int (0 : Int32), .int a1, .int a2]) lkS_RX9_368_yX9_brings dX9_brings_81 (IH _ _ _ _ _ e10) rfl rfl (Nat.le_of_ble_eq_true rfl) (by omega) (by decide) ?_
      refine mw_iload_n dX9_brings_84 2 rfl ?_
      refine mw_iconst (v := 2) dX9_brings_85 (by decide) ?_
      refine mw_irem dX9_brings_86 (by decide) ?_
      refine mw_if_ne (tgt := 95) dX9_brings_87 (by decide) (fun hc => ?_) (fun hc => ?_)
      · have h := mie hc h
        refine mw_iconst (v := 0) dX9_brings_95 (by decide) ?_
        refine mw_iadd dX9_brings_96 ?_
        exact mw_iret dX9_brings_97 rfl (mrs_i h) rfl rfl
      · have h := mit hc h
        refine mw_bipush (v := 9) dX9_brings_90 (by decide) ?_
        refine mw_goto (tgt := 96) dX9_brings_92 (by decide) ?_
        refine mw_iadd dX9_brings_96 ?_
        exact mw_iret dX9_brings_97 rfl (mrs_i h) rfl rfl
    have h := mie hs5 h
    have g0 := mne32 hs1
    have g1 := mne32 hs2
    have g2 := mne32 hs3
    have g3 := mne32 hs4
    have g4 := mne32 hs5
    refine mv_tabOut (tgt := 98) dX9_brings_1 (by simp only [mti_1, mti_2, mti_3, mti_4, mti_5] at g0 g1 g2 g3 g4; omega) (by decide) ?_
    refine mw_iload_n dX9_brings_98 1 rfl ?_
    exact mw_iret dX9_brings_99 rfl (mrs_i h) rfl rfl
def f_X1_bringsOf (σ : MSt) (a0 : Nat) (a1 : Int32) : Option Int32 := if mob 0 a0 = true then ((mmR σ a0 3).bind (fun q2 => if mix 0 q2 a1 = true then ((mmR σ a0 6).bind (fun q5 => if mix 0 q5 a1 = true then ((f_X9_brings 3 (mmI σ q2 a1.toNatClampNeg) (mmI σ q5 a1.toNatClampNeg) (mmI σ a0 1)).bind (fun r8 => some r8)) else none)) else none)) else none
set_option maxRecDepth 100000 in
set_option maxHeartbeats 4000000 in
theorem k_X1_bringsOf {l : Launch} {σ : MSt} {a0 : Nat} {a1 : Int32} {out : Int32} (h : f_X1_bringsOf σ a0 a1 = some out) : MK l yX1_bringsOf cX1_bringsOf 2 (some .int) 5 [.ref a0, .int a1] σ (some (.int out)) σ := by
  unfold f_X1_bringsOf at h
  refine mw_entry (own := RX1) (ini := false) (L := [(0, .ref a0), (1, .int a1)]) (by decide +kernel) rfl (fun h => nomatch h) rfl (Nat.le_of_ble_eq_true rfl) (Nat.le_of_ble_eq_true rfl) (fun E => ?_)
  refine mw_aload_n dX1_bringsOf_0 0 rfl ?_
  obtain ⟨m1, h⟩ := mif h
  obtain ⟨q2, e3, h⟩ := mbd h
  refine mv_getR fd_RX1_15_0 dX1_bringsOf_1 m1 rfl e3 ?_
  refine mw_iload_n dX1_bringsOf_4 1 rfl ?_
  obtain ⟨m4, h⟩ := mif h
  refine mv_iald dX1_bringsOf_5 m4 ?_
  refine mw_aload_n dX1_bringsOf_6 0 rfl ?_
  obtain ⟨q5, e6, h⟩ := mbd h
  refine mv_getR fd_RX1_25_0 dX1_bringsOf_7 m1 rfl e6 ?_
  refine mw_iload_n dX1_bringsOf_10 1 rfl ?_
  obtain ⟨m7, h⟩ := mif h
  refine mv_iald dX1_bringsOf_11 m7 ?_
  refine mw_aload_n dX1_bringsOf_12 0 rfl ?_
  refine mv_getI fd_RX1_50_0 dX1_bringsOf_13 m1 rfl ?_
  obtain ⟨r8, e9, h⟩ := mbd h
  refine mv_callSN_i (As := [.int (mmI σ q2 a1.toNatClampNeg), .int (mmI σ q5 a1.toNatClampNeg), .int (mmI σ a0 1)]) lkN_RX1_53_yX9_brings dX1_bringsOf_16 (k_X9_brings 3 _ _ _ _ _ e9) rfl rfl (Nat.le_of_ble_eq_true rfl) (by decide) (by decide) ?_
  exact mw_iret dX1_bringsOf_19 rfl (mrs_i h) rfl rfl
def f_X1_shutWays_L4 (σ : MSt) (a0 : Nat) : Nat → Int32 → Int32 → Option Int32
  | 0, _, _ => none
  | n + 1, x1, x2 => if mob 0 a0 = true then (if (mmI σ a0 2) ≤ x2 then (some x1) else ((mmR σ a0 8).bind (fun q2 => if mix 0 q2 x2 = true then (f_X1_shutWays_L4 σ a0 n (x1 + (mmI σ q2 x2.toNatClampNeg)) (x2 + 1)) else none))) else none
set_option maxRecDepth 100000 in
set_option maxHeartbeats 4000000 in
theorem p_X1_shutWays_L4 {l : Launch} {E : MX} {out : Int32} {σ : MSt} {a0 : Nat}  : ∀ (n : Nat) (x1 : Int32) (x2 : Int32), f_X1_shutWays_L4 σ a0 n x1 x2 = some out → MV l E cX1_shutWays RX1 3 (some .int) 1 (82, (some (.int out)), σ) σ 4 [(0, .ref a0), (1, .int x1), (2, .int x2)] [] := by
  intro n
  induction n with
  | zero =>
    intro x1 x2 h
    exact nomatch h
  | succ n ih =>
    intro x1 x2 h
    rw [f_X1_shutWays_L4] at h
    refine mw_iload_n dX1_shutWays_4 2 rfl ?_
    refine mw_aload_n dX1_shutWays_5 0 rfl ?_
    obtain ⟨m1, h⟩ := mif h
    refine mv_getI fd_RX1_44_0 dX1_shutWays_6 m1 rfl ?_
    refine mw_icmp_ge (tgt := 27) dX1_shutWays_9 (by decide) (fun hc => ?_) (fun hc => ?_)
    · have h := mit hc h
      refine mw_iload_n dX1_shutWays_27 1 rfl ?_
      exact mw_iret dX1_shutWays_28 rfl (mrs_i h) rfl rfl
    · have h := mie hc h
      refine mw_iload_n dX1_shutWays_12 1 rfl ?_
      refine mw_aload_n dX1_shutWays_13 0 rfl ?_
      obtain ⟨q2, e3, h⟩ := mbd h
      refine mv_getR fd_RX1_31_0 dX1_shutWays_14 m1 rfl e3 ?_
      refine mw_iload_n dX1_shutWays_17 2 rfl ?_
      obtain ⟨m4, h⟩ := mif h
      refine mv_iald dX1_shutWays_18 m4 ?_
      refine mw_iadd dX1_shutWays_19 ?_
      refine mw_istore_n (L' := [(1, .int (x1 + (mmI σ q2 x2.toNatClampNeg))), (0, .ref a0), (2, .int x2)]) dX1_shutWays_20 rfl (by decide) rfl ?_
      refine mw_iinc (v := (x2 + 1)) (L' := [(2, .int (x2 + 1)), (1, .int (x1 + (mmI σ q2 x2.toNatClampNeg))), (0, .ref a0)]) dX1_shutWays_21 2 rfl rfl (by decide) rfl ?_
      refine mw_goto (tgt := 4) dX1_shutWays_24 (by decide) ?_
      exact mw_sub (L' := [(0, .ref a0), (1, .int (x1 + (mmI σ q2 x2.toNatClampNeg))), (2, .int (x2 + 1))]) [2, 1, 0] rfl (ih _ _ h)
def f_X1_shutWays (σ : MSt) (a0 : Nat) : Option Int32 := f_X1_shutWays_L4 σ a0 mN (0 : Int32) (0 : Int32)
set_option maxRecDepth 100000 in
set_option maxHeartbeats 4000000 in
theorem k_X1_shutWays {l : Launch} {σ : MSt} {a0 : Nat} {out : Int32} (h : f_X1_shutWays σ a0 = some out) : MK l yX1_shutWays cX1_shutWays 3 (some .int) 1 [.ref a0] σ (some (.int out)) σ := by
  unfold f_X1_shutWays at h
  refine mw_entry (own := RX1) (ini := false) (L := [(0, .ref a0)]) (by decide +kernel) rfl (fun h => nomatch h) rfl (Nat.le_of_ble_eq_true rfl) (Nat.le_of_ble_eq_true rfl) (fun E => ?_)
  refine mw_iconst (v := 0) dX1_shutWays_0 (by decide) ?_
  refine mw_istore_n (L' := [(1, .int (0 : Int32)), (0, .ref a0)]) dX1_shutWays_1 rfl (by decide) rfl ?_
  refine mw_iconst (v := 0) dX1_shutWays_2 (by decide) ?_
  refine mw_istore_n (L' := [(2, .int (0 : Int32)), (1, .int (0 : Int32)), (0, .ref a0)]) dX1_shutWays_3 rfl (by decide) rfl ?_
  exact mw_sub (L' := [(0, .ref a0), (1, .int (0 : Int32)), (2, .int (0 : Int32))]) [2, 1, 0] rfl (p_X1_shutWays_L4  mN _ _ h)
def f_X1_isOpenSet_L18 (σ : MSt) (a0 : Nat) (a1 : Int32) : Nat → Int32 → Option Int32
  | 0, _ => none
  | n + 1, x2 => if mob 0 a0 = true then (if (mmI σ a0 2) ≤ x2 then (some (1 : Int32)) else (if (a1 &&& ((1 : Int32) <<< (x2 &&& 31))) = 0 then (f_X1_isOpenSet_L18 σ a0 a1 n (x2 + 1)) else ((mmR σ a0 8).bind (fun q2 => if mix 0 q2 x2 = true then (if (mmI σ q2 x2.toNatClampNeg) = 0 then (f_X1_isOpenSet_L18 σ a0 a1 n (x2 + 1)) else (some (0 : Int32))) else none)))) else none
set_option maxRecDepth 100000 in
set_option maxHeartbeats 4000000 in
theorem p_X1_isOpenSet_L18 {l : Launch} {E : MX} {out : Int32} {σ : MSt} {a0 : Nat} {a1 : Int32}  : ∀ (n : Nat) (x2 : Int32), f_X1_isOpenSet_L18 σ a0 a1 n x2 = some out → MV l E cX1_isOpenSet RX1 3 (some .boolean) 1 (82, (some (.int out)), σ) σ 18 [(0, .ref a0), (1, .int a1), (2, .int x2)] [] := by
  intro n
  induction n with
  | zero =>
    intro x2 h
    exact nomatch h
  | succ n ih =>
    intro x2 h
    rw [f_X1_isOpenSet_L18] at h
    refine mw_iload_n dX1_isOpenSet_18 2 rfl ?_
    refine mw_aload_n dX1_isOpenSet_19 0 rfl ?_
    obtain ⟨m1, h⟩ := mif h
    refine mv_getI fd_RX1_44_0 dX1_isOpenSet_20 m1 rfl ?_
    refine mw_icmp_ge (tgt := 51) dX1_isOpenSet_23 (by decide) (fun hc => ?_) (fun hc => ?_)
    · have h := mit hc h
      refine mw_iconst (v := 1) dX1_isOpenSet_51 (by decide) ?_
      exact mw_zret dX1_isOpenSet_52 rfl (by decide) (mrs_i h) rfl rfl
    · have h := mie hc h
      refine mw_iload_n dX1_isOpenSet_26 1 rfl ?_
      refine mw_iconst (v := 1) dX1_isOpenSet_27 (by decide) ?_
      refine mw_iload_n dX1_isOpenSet_28 2 rfl ?_
      refine mw_ishl dX1_isOpenSet_29 ?_
      refine mw_iand dX1_isOpenSet_30 ?_
      refine mw_if_eq (tgt := 45) dX1_isOpenSet_31 (by decide) (fun hc => ?_) (fun hc => ?_)
      · have h := mit hc h
        refine mw_iinc (v := (x2 + 1)) (L' := [(2, .int (x2 + 1)), (0, .ref a0), (1, .int a1)]) dX1_isOpenSet_45 2 rfl rfl (by decide) rfl ?_
        refine mw_goto (tgt := 18) dX1_isOpenSet_48 (by decide) ?_
        exact mw_sub (L' := [(0, .ref a0), (1, .int a1), (2, .int (x2 + 1))]) [1, 2, 0] rfl (ih _ h)
      · have h := mie hc h
        refine mw_aload_n dX1_isOpenSet_34 0 rfl ?_
        obtain ⟨q2, e3, h⟩ := mbd h
        refine mv_getR fd_RX1_31_0 dX1_isOpenSet_35 m1 rfl e3 ?_
        refine mw_iload_n dX1_isOpenSet_38 2 rfl ?_
        obtain ⟨m4, h⟩ := mif h
        refine mv_iald dX1_isOpenSet_39 m4 ?_
        refine mw_if_eq (tgt := 45) dX1_isOpenSet_40 (by decide) (fun hc => ?_) (fun hc => ?_)
        · have h := mit hc h
          refine mw_iinc (v := (x2 + 1)) (L' := [(2, .int (x2 + 1)), (0, .ref a0), (1, .int a1)]) dX1_isOpenSet_45 2 rfl rfl (by decide) rfl ?_
          refine mw_goto (tgt := 18) dX1_isOpenSet_48 (by decide) ?_
          exact mw_sub (L' := [(0, .ref a0), (1, .int a1), (2, .int (x2 + 1))]) [1, 2, 0] rfl (ih _ h)
        · have h := mie hc h
          refine mw_iconst (v := 0) dX1_isOpenSet_43 (by decide) ?_
          exact mw_zret dX1_isOpenSet_44 rfl (by decide) (mrs_i h) rfl rfl
def f_X1_isOpenSet (σ : MSt) (a0 : Nat) (a1 : Int32) : Option Int32 := if a1 ≤ 0 then (some (0 : Int32)) else (if mob 0 a0 = true then (if a1 < ((1 : Int32) <<< ((mmI σ a0 2) &&& 31)) then (f_X1_isOpenSet_L18 σ a0 a1 mN (0 : Int32)) else (some (0 : Int32))) else none)
set_option maxRecDepth 100000 in
set_option maxHeartbeats 4000000 in
theorem k_X1_isOpenSet {l : Launch} {σ : MSt} {a0 : Nat} {a1 : Int32} {out : Int32} (h : f_X1_isOpenSet σ a0 a1 = some out) : MK l yX1_isOpenSet cX1_isOpenSet 3 (some .boolean) 1 [.ref a0, .int a1] σ (some (.int out)) σ := by
  unfold f_X1_isOpenSet at h
  refine mw_entry (own := RX1) (ini := false) (L := [(0, .ref a0), (1, .int a1)]) (by decide +kernel) rfl (fun h => nomatch h) rfl (Nat.le_of_ble_eq_true rfl) (Nat.le_of_ble_eq_true rfl) (fun E => ?_)
  refine mw_iload_n dX1_isOpenSet_0 1 rfl ?_
  refine mw_if_le (tgt := 14) dX1_isOpenSet_1 (by decide) (fun hc => ?_) (fun hc => ?_)
  · have h := mit hc h
    refine mw_iconst (v := 0) dX1_isOpenSet_14 (by decide) ?_
    exact mw_zret dX1_isOpenSet_15 rfl (by decide) (mrs_i h) rfl rfl
  · have h := mie hc h
    refine mw_iload_n dX1_isOpenSet_4 1 rfl ?_
    refine mw_iconst (v := 1) dX1_isOpenSet_5 (by decide) ?_
    refine mw_aload_n dX1_isOpenSet_6 0 rfl ?_
    obtain ⟨m1, h⟩ := mif h
    refine mv_getI fd_RX1_44_0 dX1_isOpenSet_7 m1 rfl ?_
    refine mw_ishl dX1_isOpenSet_10 ?_
    refine mw_icmp_lt (tgt := 16) dX1_isOpenSet_11 (by decide) (fun hc => ?_) (fun hc => ?_)
    · have h := mit hc h
      refine mw_iconst (v := 0) dX1_isOpenSet_16 (by decide) ?_
      refine mw_istore_n (L' := [(2, .int (0 : Int32)), (0, .ref a0), (1, .int a1)]) dX1_isOpenSet_17 rfl (by decide) rfl ?_
      exact mw_sub (L' := [(0, .ref a0), (1, .int a1), (2, .int (0 : Int32))]) [1, 2, 0] rfl (p_X1_isOpenSet_L18  mN _ h)
    · have h := mie hc h
      refine mw_iconst (v := 0) dX1_isOpenSet_14 (by decide) ?_
      exact mw_zret dX1_isOpenSet_15 rfl (by decide) (mrs_i h) rfl rfl
def f_X9_finding (a0 : Nat) (a1 : Int32) (σ : MSt) : Option (Int32 × MSt) := if mob 8 a0 = true then ((mmR σ a0 11).bind (fun q2 => if mix 0 q2 a1 = true then (some (((-2000000001 : Int32) - a1), (muI σ q2 a1.toNatClampNeg ((mmI σ q2 a1.toNatClampNeg) + (1 : Int32))))) else none)) else none
set_option maxRecDepth 100000 in
set_option maxHeartbeats 4000000 in
theorem k_X9_finding {l : Launch} {σ : MSt} {a0 : Nat} {a1 : Int32} {out : (Int32 × MSt)} (h : f_X9_finding a0 a1 σ = some out) : MK l yX9_finding cX9_finding 2 (some .int) 1 [.ref a0, .int a1] σ (some (.int out.1)) out.2 := by
  unfold f_X9_finding at h
  refine mw_entry (own := RX9) (ini := false) (L := [(0, .ref a0), (1, .int a1)]) (by decide +kernel) rfl (fun h => nomatch h) rfl (Nat.le_of_ble_eq_true rfl) (Nat.le_of_ble_eq_true rfl) (fun E => ?_)
  refine mw_aload_n dX9_finding_0 0 rfl ?_
  obtain ⟨m1, h⟩ := mif h
  obtain ⟨q2, e3, h⟩ := mbd h
  refine mv_getR fd_RX9_70_8 dX9_finding_1 m1 rfl e3 ?_
  refine mw_iload_n dX9_finding_4 1 rfl ?_
  refine mw_dup2 dX9_finding_5 rfl rfl ?_
  obtain ⟨m4, h⟩ := mif h
  refine mv_iald dX9_finding_6 m4 ?_
  refine mw_iconst (v := 1) dX9_finding_7 (by decide) ?_
  refine mw_iadd dX9_finding_8 ?_
  refine mv_iast dX9_finding_9 m4 ?_
  refine mw_ldcw dX9_finding_10 wt_13 ?_
  refine mw_iload_n dX9_finding_13 1 rfl ?_
  refine mw_isub dX9_finding_14 ?_
  exact mw_iret dX9_finding_15 rfl (mrs_im h) rfl rfl
def f_X9_places_L18 (a0 : Nat) (a1 : Int32) : Nat → Int32 → MSt → Option (Int32 × MSt)
  | 0, _, _ => none
  | n + 1, x2, σ => if mob 8 a0 = true then ((mmR σ a0 0).bind (fun q2 => if mob 0 q2 = true then (if (mmI σ q2 2) ≤ x2 then (some ((mmI σ q2 0), (muI σ q2 0 a1))) else ((mmR σ q2 4).bind (fun q5 => if mix 0 q5 x2 = true then (if a1 ≤ (mmI σ q5 x2.toNatClampNeg) then ((f_X9_finding a0 (4 : Int32) σ).bind (fun r8 => some (r8.1, r8.2))) else ((mmR σ q2 5).bind (fun q10 => if mix 0 q10 x2 = true then (if (mmI σ q10 x2.toNatClampNeg) < a1 then (f_X9_places_L18 a0 a1 n (x2 + 1) σ) else ((f_X9_finding a0 (4 : Int32) σ).bind (fun r13 => some (r13.1, r13.2)))) else none))) else none))) else none)) else none
set_option maxRecDepth 100000 in
set_option maxHeartbeats 4000000 in
theorem p_X9_places_L18 {l : Launch} {E : MX} {out : (Int32 × MSt)} {a0 : Nat} {a1 : Int32}  : ∀ (n : Nat) (x2 : Int32) (σ : MSt), f_X9_places_L18 a0 a1 n x2 σ = some out → MV l E cX9_places RX9 3 (some .int) 2 (82, (some (.int out.1)), out.2) σ 18 [(0, .ref a0), (1, .int a1), (2, .int x2)] [] := by
  intro n
  induction n with
  | zero =>
    intro x2 σ h
    exact nomatch h
  | succ n ih =>
    intro x2 σ h
    rw [f_X9_places_L18] at h
    refine mw_iload_n dX9_places_18 2 rfl ?_
    refine mw_aload_n dX9_places_19 0 rfl ?_
    obtain ⟨m1, h⟩ := mif h
    obtain ⟨q2, e3, h⟩ := mbd h
    refine mv_getR fd_RX9_12_8 dX9_places_20 m1 rfl e3 ?_
    obtain ⟨m4, h⟩ := mif h
    refine mv_getI fd_RX9_83_0 dX9_places_23 m4 rfl ?_
    refine mw_icmp_ge (tgt := 67) dX9_places_26 (by decide) (fun hc => ?_) (fun hc => ?_)
    · have h := mit hc h
      refine mw_aload_n dX9_places_67 0 rfl ?_
      refine mv_getR fd_RX9_12_8 dX9_places_68 m1 rfl e3 ?_
      refine mv_getI fd_RX9_93_0 dX9_places_71 m4 rfl ?_
      refine mw_istore_n (L' := [(2, .int (mmI σ q2 0)), (0, .ref a0), (1, .int a1)]) dX9_places_74 rfl (by decide) rfl ?_
      refine mw_aload_n dX9_places_75 1 rfl ?_
      refine mv_getR fd_RX9_12_8 dX9_places_76 m1 rfl e3 ?_
      refine mw_iload_n dX9_places_79 2 rfl ?_
      refine mv_putI fw_RX9_93_0 dX9_places_80 m4 rfl ?_
      refine mw_iload_n dX9_places_83 0 rfl ?_
      exact mw_iret dX9_places_84 rfl (mrs_im h) rfl rfl
    · have h := mie hc h
      refine mw_aload_n dX9_places_29 0 rfl ?_
      refine mv_getR fd_RX9_12_8 dX9_places_30 m1 rfl e3 ?_
      obtain ⟨q5, e6, h⟩ := mbd h
      refine mv_getR fd_RX9_87_0 dX9_places_33 m4 rfl e6 ?_
      refine mw_iload_n dX9_places_36 2 rfl ?_
      obtain ⟨m7, h⟩ := mif h
      refine mv_iald dX9_places_37 m7 ?_
      refine mw_iload_n dX9_places_38 1 rfl ?_
      refine mw_icmp_ge (tgt := 55) dX9_places_39 (by decide) (fun hc => ?_) (fun hc => ?_)
      · have h := mit hc h
        refine mw_aload_n dX9_places_55 0 rfl ?_
        refine mw_iconst (v := 4) dX9_places_56 (by decide) ?_
        obtain ⟨r8, e9, h⟩ := mbd h
        refine mv_callV_i (As := [.int (4 : Int32)]) lkV_RX9_79_yX9_finding dX9_places_57 (k_X9_finding e9) rfl m1 rfl rfl (Nat.le_of_ble_eq_true rfl) (by decide) (by decide) ?_
        exact mw_iret dX9_places_60 rfl (mrs_im h) rfl rfl
      · have h := mie hc h
        refine mw_aload_n dX9_places_42 0 rfl ?_
        refine mv_getR fd_RX9_12_8 dX9_places_43 m1 rfl e3 ?_
        obtain ⟨q10, e11, h⟩ := mbd h
        refine mv_getR fd_RX9_90_0 dX9_places_46 m4 rfl e11 ?_
        refine mw_iload_n dX9_places_49 2 rfl ?_
        obtain ⟨m12, h⟩ := mif h
        refine mv_iald dX9_places_50 m12 ?_
        refine mw_iload_n dX9_places_51 1 rfl ?_
        refine mw_icmp_lt (tgt := 61) dX9_places_52 (by decide) (fun hc => ?_) (fun hc => ?_)
        · have h := mit hc h
          refine mw_iinc (v := (x2 + 1)) (L' := [(2, .int (x2 + 1)), (0, .ref a0), (1, .int a1)]) dX9_places_61 2 rfl rfl (by decide) rfl ?_
          refine mw_goto (tgt := 18) dX9_places_64 (by decide) ?_
          exact mw_sub (L' := [(0, .ref a0), (1, .int a1), (2, .int (x2 + 1))]) [1, 2, 0] rfl (ih _ _ h)
        · have h := mie hc h
          refine mw_aload_n dX9_places_55 0 rfl ?_
          refine mw_iconst (v := 4) dX9_places_56 (by decide) ?_
          obtain ⟨r13, e14, h⟩ := mbd h
          refine mv_callV_i (As := [.int (4 : Int32)]) lkV_RX9_79_yX9_finding dX9_places_57 (k_X9_finding e14) rfl m1 rfl rfl (Nat.le_of_ble_eq_true rfl) (by decide) (by decide) ?_
          exact mw_iret dX9_places_60 rfl (mrs_im h) rfl rfl
def f_X9_places (a0 : Nat) (a1 : Int32) (σ : MSt) : Option (Int32 × MSt) := (f_X9_within a1 (2 : Int32) (6 : Int32)).bind (fun r1 => if r1 = 0 then ((f_X9_finding a0 (0 : Int32) σ).bind (fun r3 => if mob 8 a0 = true then (some (r3.1, r3.2)) else none)) else (f_X9_places_L18 a0 a1 mN (0 : Int32) σ))
set_option maxRecDepth 100000 in
set_option maxHeartbeats 4000000 in
theorem k_X9_places {l : Launch} {σ : MSt} {a0 : Nat} {a1 : Int32} {out : (Int32 × MSt)} (h : f_X9_places a0 a1 σ = some out) : MK l yX9_places cX9_places 3 (some .int) 2 [.ref a0, .int a1] σ (some (.int out.1)) out.2 := by
  unfold f_X9_places at h
  refine mw_entry (own := RX9) (ini := false) (L := [(0, .ref a0), (1, .int a1)]) (by decide +kernel) rfl (fun h => nomatch h) rfl (Nat.le_of_ble_eq_true rfl) (Nat.le_of_ble_eq_true rfl) (fun E => ?_)
  refine mw_iload_n dX9_places_0 1 rfl ?_
  refine mw_iconst (v := 2) dX9_places_1 (by decide) ?_
  refine mw_bipush (v := 6) dX9_places_2 (by decide) ?_
  obtain ⟨r1, e2, h⟩ := mbd h
  refine mv_callS_i (As := [.int a1, .int (2 : Int32), .int (6 : Int32)]) lkS_RX9_75_yX9_within dX9_places_4 (k_X9_within e2) rfl rfl (Nat.le_of_ble_eq_true rfl) (by decide) (by decide) ?_
  refine mw_if_ne (tgt := 16) dX9_places_7 (by decide) (fun hc => ?_) (fun hc => ?_)
  · have h := mie hc h
    refine mw_iconst (v := 0) dX9_places_16 (by decide) ?_
    refine mw_istore_n (L' := [(2, .int (0 : Int32)), (0, .ref a0), (1, .int a1)]) dX9_places_17 rfl (by decide) rfl ?_
    exact mw_sub (L' := [(0, .ref a0), (1, .int a1), (2, .int (0 : Int32))]) [1, 2, 0] rfl (p_X9_places_L18  mN _ _ h)
  · have h := mit hc h
    refine mw_aload_n dX9_places_10 0 rfl ?_
    refine mw_iconst (v := 0) dX9_places_11 (by decide) ?_
    obtain ⟨r3, e4, h⟩ := mbd h
    obtain ⟨m5, h⟩ := mif h
    refine mv_callV_i (As := [.int (0 : Int32)]) lkV_RX9_79_yX9_finding dX9_places_12 (k_X9_finding e4) rfl m5 rfl rfl (Nat.le_of_ble_eq_true rfl) (by decide) (by decide) ?_
    exact mw_iret dX9_places_15 rfl (mrs_im h) rfl rfl
def f_X10_in (a0 : Int64) (a2 : Int64) (a4 : Int64) : Option Int32 := if a0 < a2 then (some (0 : Int32)) else (if a4 < a0 then (some (0 : Int32)) else (some (1 : Int32)))
set_option maxRecDepth 100000 in
set_option maxHeartbeats 4000000 in
theorem k_X10_in {l : Launch} {σ : MSt} {a0 : Int64} {a2 : Int64} {a4 : Int64} {out : Int32} (h : f_X10_in a0 a2 a4 = some out) : MK l yX10_in cX10_in 6 (some .boolean) 1 [.long a0, .long a2, .long a4] σ (some (.int out)) σ := by
  unfold f_X10_in at h
  refine mw_entry (own := RX10) (ini := false) (L := [(0, .long a0), (2, .long a2), (4, .long a4)]) (by decide +kernel) rfl (fun h => nomatch h) rfl (Nat.le_of_ble_eq_true rfl) (Nat.le_of_ble_eq_true rfl) (fun E => ?_)
  refine mw_lload_n dX10_in_0 0 rfl ?_
  refine mw_lload_n dX10_in_1 1 rfl ?_
  refine mw_lc_lt (tgt := 17) dX10_in_2 dX10_in_3 (by decide) (fun hc => ?_) (fun hc => ?_)
  · have h := mit hc h
    refine mw_iconst (v := 0) dX10_in_17 (by decide) ?_
    exact mw_zret dX10_in_18 rfl (by decide) (mrs_i h) rfl rfl
  · have h := mie hc h
    refine mw_lload_n dX10_in_6 0 rfl ?_
    refine mw_lload dX10_in_7 2 rfl ?_
    refine mw_lc_gt (tgt := 17) dX10_in_9 dX10_in_10 (by decide) (fun hc => ?_) (fun hc => ?_)
    · have h := mit hc h
      refine mw_iconst (v := 0) dX10_in_17 (by decide) ?_
      exact mw_zret dX10_in_18 rfl (by decide) (mrs_i h) rfl rfl
    · have h := mie hc h
      refine mw_iconst (v := 1) dX10_in_13 (by decide) ?_
      refine mw_goto (tgt := 18) dX10_in_14 (by decide) ?_
      exact mw_zret dX10_in_18 rfl (by decide) (mrs_i h) rfl rfl
