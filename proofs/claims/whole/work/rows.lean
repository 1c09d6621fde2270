section
-- ===== PART A: goes FIRST, ahead of the names: the tables' words, and 'selects' of the private methods out of them =====
/-- a private method of a class that the tables say can be made, by its rows of tables_1 -/
def lw_okq (q : MethodName × Nat) : Prop := (q.1.cls ≠ "java/lang/invoke/MethodHandle" ∧ q.1.cls ≠ "java/lang/invoke/VarHandle") ∧ Cond.instantiable q.1.cls q.2 ∈ tables_1 ∧ Cond.privateMethod q.1 ∈ tables_1 ∧ Cond.instanceMethod q.1 ∈ tables_1
theorem lw_p0 : lw_okq (⟨"RoundsPerHour", "finding", "(I)I"⟩, 12) := ⟨⟨by decide +kernel, by decide +kernel⟩, List.mem_of_getElem? (i := 21) (by decide +kernel), List.mem_of_getElem? (i := 396) (by decide +kernel), List.mem_of_getElem? (i := 397) (by decide +kernel)⟩
theorem lw_p1 : lw_okq (⟨"RoundsPerHour", "canBecome", "(III)Z"⟩, 12) := ⟨⟨by decide +kernel, by decide +kernel⟩, List.mem_of_getElem? (i := 21) (by decide +kernel), List.mem_of_getElem? (i := 458) (by decide +kernel), List.mem_of_getElem? (i := 459) (by decide +kernel)⟩
theorem lw_p2 : lw_okq (⟨"RoundsPerHour", "longFinding", "(I)J"⟩, 12) := ⟨⟨by decide +kernel, by decide +kernel⟩, List.mem_of_getElem? (i := 21) (by decide +kernel), List.mem_of_getElem? (i := 498) (by decide +kernel), List.mem_of_getElem? (i := 499) (by decide +kernel)⟩
theorem lw_p3 : lw_okq (⟨"RoundsPerHour", "bestRing", "()I"⟩, 12) := ⟨⟨by decide +kernel, by decide +kernel⟩, List.mem_of_getElem? (i := 21) (by decide +kernel), List.mem_of_getElem? (i := 503) (by decide +kernel), List.mem_of_getElem? (i := 504) (by decide +kernel)⟩
theorem lw_p4 : lw_okq (⟨"RoundsPerHour$Rings", "goOn", "(IIIIJJ)V"⟩, 13) := ⟨⟨by decide +kernel, by decide +kernel⟩, List.mem_of_getElem? (i := 110) (by decide +kernel), List.mem_of_getElem? (i := 513) (by decide +kernel), List.mem_of_getElem? (i := 514) (by decide +kernel)⟩
theorem lw_p5 : lw_okq (⟨"RoundsPerHour$Rings", "keep", "(IJJ)V"⟩, 13) := ⟨⟨by decide +kernel, by decide +kernel⟩, List.mem_of_getElem? (i := 110) (by decide +kernel), List.mem_of_getElem? (i := 517) (by decide +kernel), List.mem_of_getElem? (i := 518) (by decide +kernel)⟩
theorem lw_p6 : lw_okq (⟨"RoundsPerHour$Rings", "step", "(IIJ)V"⟩, 13) := ⟨⟨by decide +kernel, by decide +kernel⟩, List.mem_of_getElem? (i := 110) (by decide +kernel), List.mem_of_getElem? (i := 551) (by decide +kernel), List.mem_of_getElem? (i := 552) (by decide +kernel)⟩
theorem lw_p7 : lw_okq (⟨"RoundsPerHour$TreeClimb", "heaviestJoining", "()I"⟩, 12) := ⟨⟨by decide +kernel, by decide +kernel⟩, List.mem_of_getElem? (i := 163) (by decide +kernel), List.mem_of_getElem? (i := 652) (by decide +kernel), List.mem_of_getElem? (i := 653) (by decide +kernel)⟩
theorem lw_p8 : lw_okq (⟨"RoundsPerHour$WalkClimb", "leave", "(I)V"⟩, 15) := ⟨⟨by decide +kernel, by decide +kernel⟩, List.mem_of_getElem? (i := 243) (by decide +kernel), List.mem_of_getElem? (i := 667) (by decide +kernel), List.mem_of_getElem? (i := 668) (by decide +kernel)⟩
theorem lw_p9 : lw_okq (⟨"RoundsPerHour", "told", "(LRoundsPerHour$Climb;ZI)J"⟩, 12) := ⟨⟨by decide +kernel, by decide +kernel⟩, List.mem_of_getElem? (i := 21) (by decide +kernel), List.mem_of_getElem? (i := 675) (by decide +kernel), List.mem_of_getElem? (i := 676) (by decide +kernel)⟩
theorem lw_p10 : lw_okq (⟨"RoundsPerHour", "isChoice", "(II)Z"⟩, 12) := ⟨⟨by decide +kernel, by decide +kernel⟩, List.mem_of_getElem? (i := 21) (by decide +kernel), List.mem_of_getElem? (i := 708) (by decide +kernel), List.mem_of_getElem? (i := 709) (by decide +kernel)⟩
theorem lw_p11 : lw_okq (⟨"RoundsPerHour$Country", "firstFrom", "(II)I"⟩, 12) := ⟨⟨by decide +kernel, by decide +kernel⟩, List.mem_of_getElem? (i := 29) (by decide +kernel), List.mem_of_getElem? (i := 720) (by decide +kernel), List.mem_of_getElem? (i := 721) (by decide +kernel)⟩
theorem lw_p12 : lw_okq (⟨"RoundsPerHour$Country", "sumWithBase", "([II)J"⟩, 12) := ⟨⟨by decide +kernel, by decide +kernel⟩, List.mem_of_getElem? (i := 29) (by decide +kernel), List.mem_of_getElem? (i := 742) (by decide +kernel), List.mem_of_getElem? (i := 743) (by decide +kernel)⟩
theorem lw_p13 : lw_okq (⟨"RoundsPerHour", "fractionFault", "(III)I"⟩, 12) := ⟨⟨by decide +kernel, by decide +kernel⟩, List.mem_of_getElem? (i := 21) (by decide +kernel), List.mem_of_getElem? (i := 764) (by decide +kernel), List.mem_of_getElem? (i := 765) (by decide +kernel)⟩
theorem lw_p14 : lw_okq (⟨"RoundsPerHour", "sheetFault", "(I)I"⟩, 12) := ⟨⟨by decide +kernel, by decide +kernel⟩, List.mem_of_getElem? (i := 21) (by decide +kernel), List.mem_of_getElem? (i := 768) (by decide +kernel), List.mem_of_getElem? (i := 769) (by decide +kernel)⟩
theorem lw_p15 : lw_okq (⟨"RoundsPerHour$Tape", "next", "()V"⟩, 9) := ⟨⟨by decide +kernel, by decide +kernel⟩, List.mem_of_getElem? (i := 297) (by decide +kernel), List.mem_of_getElem? (i := 813) (by decide +kernel), List.mem_of_getElem? (i := 814) (by decide +kernel)⟩
def lw_privs_1 : List (MethodName × Nat) := [(⟨"RoundsPerHour", "finding", "(I)I"⟩, 12), (⟨"RoundsPerHour", "canBecome", "(III)Z"⟩, 12), (⟨"RoundsPerHour", "longFinding", "(I)J"⟩, 12), (⟨"RoundsPerHour", "bestRing", "()I"⟩, 12), (⟨"RoundsPerHour$Rings", "goOn", "(IIIIJJ)V"⟩, 13), (⟨"RoundsPerHour$Rings", "keep", "(IJJ)V"⟩, 13), (⟨"RoundsPerHour$Rings", "step", "(IIJ)V"⟩, 13), (⟨"RoundsPerHour$TreeClimb", "heaviestJoining", "()I"⟩, 12), (⟨"RoundsPerHour$WalkClimb", "leave", "(I)V"⟩, 15), (⟨"RoundsPerHour", "told", "(LRoundsPerHour$Climb;ZI)J"⟩, 12), (⟨"RoundsPerHour", "isChoice", "(II)Z"⟩, 12), (⟨"RoundsPerHour$Country", "firstFrom", "(II)I"⟩, 12), (⟨"RoundsPerHour$Country", "sumWithBase", "([II)J"⟩, 12), (⟨"RoundsPerHour", "fractionFault", "(III)I"⟩, 12), (⟨"RoundsPerHour", "sheetFault", "(I)I"⟩, 12), (⟨"RoundsPerHour$Tape", "next", "()V"⟩, 9)]
theorem lw_r1 : ∀ q ∈ lw_privs_1, lw_okq q := List.forall_mem_cons.mpr ⟨lw_p0, List.forall_mem_cons.mpr ⟨lw_p1, List.forall_mem_cons.mpr ⟨lw_p2, List.forall_mem_cons.mpr ⟨lw_p3, List.forall_mem_cons.mpr ⟨lw_p4, List.forall_mem_cons.mpr ⟨lw_p5, List.forall_mem_cons.mpr ⟨lw_p6, List.forall_mem_cons.mpr ⟨lw_p7, List.forall_mem_cons.mpr ⟨lw_p8, List.forall_mem_cons.mpr ⟨lw_p9, List.forall_mem_cons.mpr ⟨lw_p10, List.forall_mem_cons.mpr ⟨lw_p11, List.forall_mem_cons.mpr ⟨lw_p12, List.forall_mem_cons.mpr ⟨lw_p13, List.forall_mem_cons.mpr ⟨lw_p14, List.forall_mem_cons.mpr ⟨lw_p15, fun _ h => absurd h List.not_mem_nil⟩⟩⟩⟩⟩⟩⟩⟩⟩⟩⟩⟩⟩⟩⟩⟩
theorem lw_p16 : lw_okq (⟨"RoundsPerHour$Tape", "takeDigits", "()V"⟩, 9) := ⟨⟨by decide +kernel, by decide +kernel⟩, List.mem_of_getElem? (i := 297) (by decide +kernel), List.mem_of_getElem? (i := 823) (by decide +kernel), List.mem_of_getElem? (i := 824) (by decide +kernel)⟩
theorem lw_p17 : lw_okq (⟨"RoundsPerHour$Tape", "item", "()Z"⟩, 9) := ⟨⟨by decide +kernel, by decide +kernel⟩, List.mem_of_getElem? (i := 297) (by decide +kernel), List.mem_of_getElem? (i := 831) (by decide +kernel), List.mem_of_getElem? (i := 832) (by decide +kernel)⟩
theorem lw_p18 : lw_okq (⟨"RoundsPerHour$Tape", "isWord", "(Ljava/lang/String;)Z"⟩, 9) := ⟨⟨by decide +kernel, by decide +kernel⟩, List.mem_of_getElem? (i := 297) (by decide +kernel), List.mem_of_getElem? (i := 836) (by decide +kernel), List.mem_of_getElem? (i := 837) (by decide +kernel)⟩
theorem lw_p19 : lw_okq (⟨"RoundsPerHour$Tape", "placesItem", "()Z"⟩, 9) := ⟨⟨by decide +kernel, by decide +kernel⟩, List.mem_of_getElem? (i := 297) (by decide +kernel), List.mem_of_getElem? (i := 888) (by decide +kernel), List.mem_of_getElem? (i := 889) (by decide +kernel)⟩
theorem lw_p20 : lw_okq (⟨"RoundsPerHour$Tape", "isNumber", "(II)Z"⟩, 9) := ⟨⟨by decide +kernel, by decide +kernel⟩, List.mem_of_getElem? (i := 297) (by decide +kernel), List.mem_of_getElem? (i := 892) (by decide +kernel), List.mem_of_getElem? (i := 893) (by decide +kernel)⟩
theorem lw_p21 : lw_okq (⟨"RoundsPerHour$Tape", "weatherItem", "()Z"⟩, 9) := ⟨⟨by decide +kernel, by decide +kernel⟩, List.mem_of_getElem? (i := 297) (by decide +kernel), List.mem_of_getElem? (i := 898) (by decide +kernel), List.mem_of_getElem? (i := 899) (by decide +kernel)⟩
theorem lw_p22 : lw_okq (⟨"RoundsPerHour$Tape", "thingItem", "()Z"⟩, 9) := ⟨⟨by decide +kernel, by decide +kernel⟩, List.mem_of_getElem? (i := 297) (by decide +kernel), List.mem_of_getElem? (i := 903) (by decide +kernel), List.mem_of_getElem? (i := 904) (by decide +kernel)⟩
theorem lw_p23 : lw_okq (⟨"RoundsPerHour$Tape", "gainAndTime", "()Z"⟩, 9) := ⟨⟨by decide +kernel, by decide +kernel⟩, List.mem_of_getElem? (i := 297) (by decide +kernel), List.mem_of_getElem? (i := 907) (by decide +kernel), List.mem_of_getElem? (i := 908) (by decide +kernel)⟩
theorem lw_p24 : lw_okq (⟨"RoundsPerHour$Tape", "kindTold", "()I"⟩, 9) := ⟨⟨by decide +kernel, by decide +kernel⟩, List.mem_of_getElem? (i := 297) (by decide +kernel), List.mem_of_getElem? (i := 916) (by decide +kernel), List.mem_of_getElem? (i := 917) (by decide +kernel)⟩
theorem lw_p25 : lw_okq (⟨"RoundsPerHour$Tape", "wayItem", "(I)Z"⟩, 9) := ⟨⟨by decide +kernel, by decide +kernel⟩, List.mem_of_getElem? (i := 297) (by decide +kernel), List.mem_of_getElem? (i := 926) (by decide +kernel), List.mem_of_getElem? (i := 927) (by decide +kernel)⟩
theorem lw_p26 : lw_okq (⟨"RoundsPerHour", "numberFault", "(II)I"⟩, 12) := ⟨⟨by decide +kernel, by decide +kernel⟩, List.mem_of_getElem? (i := 21) (by decide +kernel), List.mem_of_getElem? (i := 945) (by decide +kernel), List.mem_of_getElem? (i := 946) (by decide +kernel)⟩
theorem lw_p27 : lw_okq (⟨"RoundsPerHourModel", "finds", "(I)I"⟩, 36) := ⟨⟨by decide +kernel, by decide +kernel⟩, List.mem_of_getElem? (i := 991) (by decide +kernel), List.mem_of_getElem? (i := 1116) (by decide +kernel), List.mem_of_getElem? (i := 1117) (by decide +kernel)⟩
theorem lw_p28 : lw_okq (⟨"RoundsPerHourModel", "at", "(II)I"⟩, 36) := ⟨⟨by decide +kernel, by decide +kernel⟩, List.mem_of_getElem? (i := 991) (by decide +kernel), List.mem_of_getElem? (i := 1121) (by decide +kernel), List.mem_of_getElem? (i := 1122) (by decide +kernel)⟩
theorem lw_p29 : lw_okq (⟨"RoundsPerHourModel", "isPlace", "(I)Z"⟩, 36) := ⟨⟨by decide +kernel, by decide +kernel⟩, List.mem_of_getElem? (i := 991) (by decide +kernel), List.mem_of_getElem? (i := 1134) (by decide +kernel), List.mem_of_getElem? (i := 1135) (by decide +kernel)⟩
theorem lw_p30 : lw_okq (⟨"RoundsPerHourModel", "addWay", "(IIIII)V"⟩, 36) := ⟨⟨by decide +kernel, by decide +kernel⟩, List.mem_of_getElem? (i := 991) (by decide +kernel), List.mem_of_getElem? (i := 1147) (by decide +kernel), List.mem_of_getElem? (i := 1148) (by decide +kernel)⟩
theorem lw_p31 : lw_okq (⟨"RoundsPerHourModel", "isWay", "(I)Z"⟩, 36) := ⟨⟨by decide +kernel, by decide +kernel⟩, List.mem_of_getElem? (i := 991) (by decide +kernel), List.mem_of_getElem? (i := 1155) (by decide +kernel), List.mem_of_getElem? (i := 1156) (by decide +kernel)⟩
def lw_privs_2 : List (MethodName × Nat) := [(⟨"RoundsPerHour$Tape", "takeDigits", "()V"⟩, 9), (⟨"RoundsPerHour$Tape", "item", "()Z"⟩, 9), (⟨"RoundsPerHour$Tape", "isWord", "(Ljava/lang/String;)Z"⟩, 9), (⟨"RoundsPerHour$Tape", "placesItem", "()Z"⟩, 9), (⟨"RoundsPerHour$Tape", "isNumber", "(II)Z"⟩, 9), (⟨"RoundsPerHour$Tape", "weatherItem", "()Z"⟩, 9), (⟨"RoundsPerHour$Tape", "thingItem", "()Z"⟩, 9), (⟨"RoundsPerHour$Tape", "gainAndTime", "()Z"⟩, 9), (⟨"RoundsPerHour$Tape", "kindTold", "()I"⟩, 9), (⟨"RoundsPerHour$Tape", "wayItem", "(I)Z"⟩, 9), (⟨"RoundsPerHour", "numberFault", "(II)I"⟩, 12), (⟨"RoundsPerHourModel", "finds", "(I)I"⟩, 36), (⟨"RoundsPerHourModel", "at", "(II)I"⟩, 36), (⟨"RoundsPerHourModel", "isPlace", "(I)Z"⟩, 36), (⟨"RoundsPerHourModel", "addWay", "(IIIII)V"⟩, 36), (⟨"RoundsPerHourModel", "isWay", "(I)Z"⟩, 36)]
theorem lw_r2 : ∀ q ∈ lw_privs_2, lw_okq q := List.forall_mem_cons.mpr ⟨lw_p16, List.forall_mem_cons.mpr ⟨lw_p17, List.forall_mem_cons.mpr ⟨lw_p18, List.forall_mem_cons.mpr ⟨lw_p19, List.forall_mem_cons.mpr ⟨lw_p20, List.forall_mem_cons.mpr ⟨lw_p21, List.forall_mem_cons.mpr ⟨lw_p22, List.forall_mem_cons.mpr ⟨lw_p23, List.forall_mem_cons.mpr ⟨lw_p24, List.forall_mem_cons.mpr ⟨lw_p25, List.forall_mem_cons.mpr ⟨lw_p26, List.forall_mem_cons.mpr ⟨lw_p27, List.forall_mem_cons.mpr ⟨lw_p28, List.forall_mem_cons.mpr ⟨lw_p29, List.forall_mem_cons.mpr ⟨lw_p30, List.forall_mem_cons.mpr ⟨lw_p31, fun _ h => absurd h List.not_mem_nil⟩⟩⟩⟩⟩⟩⟩⟩⟩⟩⟩⟩⟩⟩⟩⟩
theorem lw_p32 : lw_okq (⟨"RoundsPerHourModel", "brings", "(I)I"⟩, 36) := ⟨⟨by decide +kernel, by decide +kernel⟩, List.mem_of_getElem? (i := 991) (by decide +kernel), List.mem_of_getElem? (i := 1160) (by decide +kernel), List.mem_of_getElem? (i := 1161) (by decide +kernel)⟩
theorem lw_p33 : lw_okq (⟨"RoundsPerHourModel", "lasts", "(I)I"⟩, 36) := ⟨⟨by decide +kernel, by decide +kernel⟩, List.mem_of_getElem? (i := 991) (by decide +kernel), List.mem_of_getElem? (i := 1164) (by decide +kernel), List.mem_of_getElem? (i := 1165) (by decide +kernel)⟩
theorem lw_p34 : lw_okq (⟨"RoundsPerHourModel", "mayBe", "(III)Z"⟩, 36) := ⟨⟨by decide +kernel, by decide +kernel⟩, List.mem_of_getElem? (i := 991) (by decide +kernel), List.mem_of_getElem? (i := 1172) (by decide +kernel), List.mem_of_getElem? (i := 1173) (by decide +kernel)⟩
theorem lw_p35 : lw_okq (⟨"RoundsPerHourModel", "isThing", "(I)Z"⟩, 36) := ⟨⟨by decide +kernel, by decide +kernel⟩, List.mem_of_getElem? (i := 991) (by decide +kernel), List.mem_of_getElem? (i := 1188) (by decide +kernel), List.mem_of_getElem? (i := 1189) (by decide +kernel)⟩
theorem lw_p36 : lw_okq (⟨"RoundsPerHourModel", "farFinds", "(I)J"⟩, 36) := ⟨⟨by decide +kernel, by decide +kernel⟩, List.mem_of_getElem? (i := 991) (by decide +kernel), List.mem_of_getElem? (i := 1201) (by decide +kernel), List.mem_of_getElem? (i := 1202) (by decide +kernel)⟩
theorem lw_p37 : lw_okq (⟨"RoundsPerHourModel", "ringsNow", "()Z"⟩, 36) := ⟨⟨by decide +kernel, by decide +kernel⟩, List.mem_of_getElem? (i := 991) (by decide +kernel), List.mem_of_getElem? (i := 1206) (by decide +kernel), List.mem_of_getElem? (i := 1207) (by decide +kernel)⟩
theorem lw_p38 : lw_okq (⟨"RoundsPerHourModel", "openWays", "()I"⟩, 36) := ⟨⟨by decide +kernel, by decide +kernel⟩, List.mem_of_getElem? (i := 991) (by decide +kernel), List.mem_of_getElem? (i := 1210) (by decide +kernel), List.mem_of_getElem? (i := 1211) (by decide +kernel)⟩
theorem lw_p39 : lw_okq (⟨"RoundsPerHourModel", "rings", "(II)Z"⟩, 36) := ⟨⟨by decide +kernel, by decide +kernel⟩, List.mem_of_getElem? (i := 991) (by decide +kernel), List.mem_of_getElem? (i := 1214) (by decide +kernel), List.mem_of_getElem? (i := 1215) (by decide +kernel)⟩
theorem lw_p40 : lw_okq (⟨"RoundsPerHourModel", "goesRound", "(IIIIJJ)V"⟩, 36) := ⟨⟨by decide +kernel, by decide +kernel⟩, List.mem_of_getElem? (i := 991) (by decide +kernel), List.mem_of_getElem? (i := 1218) (by decide +kernel), List.mem_of_getElem? (i := 1219) (by decide +kernel)⟩
theorem lw_p41 : lw_okq (⟨"RoundsPerHourModel", "closes", "(IJJ)V"⟩, 36) := ⟨⟨by decide +kernel, by decide +kernel⟩, List.mem_of_getElem? (i := 991) (by decide +kernel), List.mem_of_getElem? (i := 1222) (by decide +kernel), List.mem_of_getElem? (i := 1223) (by decide +kernel)⟩
theorem lw_p42 : lw_okq (⟨"RoundsPerHourModel", "lifts", "(JJ)Z"⟩, 36) := ⟨⟨by decide +kernel, by decide +kernel⟩, List.mem_of_getElem? (i := 991) (by decide +kernel), List.mem_of_getElem? (i := 1241) (by decide +kernel), List.mem_of_getElem? (i := 1242) (by decide +kernel)⟩
theorem lw_p43 : lw_okq (⟨"RoundsPerHourModel", "product", "(JJ)J"⟩, 36) := ⟨⟨by decide +kernel, by decide +kernel⟩, List.mem_of_getElem? (i := 991) (by decide +kernel), List.mem_of_getElem? (i := 1249) (by decide +kernel), List.mem_of_getElem? (i := 1250) (by decide +kernel)⟩
theorem lw_p44 : lw_okq (⟨"RoundsPerHourModel", "raised", "(I)I"⟩, 36) := ⟨⟨by decide +kernel, by decide +kernel⟩, List.mem_of_getElem? (i := 991) (by decide +kernel), List.mem_of_getElem? (i := 1258) (by decide +kernel), List.mem_of_getElem? (i := 1259) (by decide +kernel)⟩
theorem lw_p45 : lw_okq (⟨"RoundsPerHourModel", "isRaised", "(IIIJJ)Z"⟩, 36) := ⟨⟨by decide +kernel, by decide +kernel⟩, List.mem_of_getElem? (i := 991) (by decide +kernel), List.mem_of_getElem? (i := 1264) (by decide +kernel), List.mem_of_getElem? (i := 1265) (by decide +kernel)⟩
theorem lw_p46 : lw_okq (⟨"RoundsPerHourModel", "told", "(I)J"⟩, 36) := ⟨⟨by decide +kernel, by decide +kernel⟩, List.mem_of_getElem? (i := 991) (by decide +kernel), List.mem_of_getElem? (i := 1285) (by decide +kernel), List.mem_of_getElem? (i := 1286) (by decide +kernel)⟩
theorem lw_p47 : lw_okq (⟨"RoundsPerHourModel", "leastChoice", "()I"⟩, 36) := ⟨⟨by decide +kernel, by decide +kernel⟩, List.mem_of_getElem? (i := 991) (by decide +kernel), List.mem_of_getElem? (i := 1289) (by decide +kernel), List.mem_of_getElem? (i := 1290) (by decide +kernel)⟩
def lw_privs_3 : List (MethodName × Nat) := [(⟨"RoundsPerHourModel", "brings", "(I)I"⟩, 36), (⟨"RoundsPerHourModel", "lasts", "(I)I"⟩, 36), (⟨"RoundsPerHourModel", "mayBe", "(III)Z"⟩, 36), (⟨"RoundsPerHourModel", "isThing", "(I)Z"⟩, 36), (⟨"RoundsPerHourModel", "farFinds", "(I)J"⟩, 36), (⟨"RoundsPerHourModel", "ringsNow", "()Z"⟩, 36), (⟨"RoundsPerHourModel", "openWays", "()I"⟩, 36), (⟨"RoundsPerHourModel", "rings", "(II)Z"⟩, 36), (⟨"RoundsPerHourModel", "goesRound", "(IIIIJJ)V"⟩, 36), (⟨"RoundsPerHourModel", "closes", "(IJJ)V"⟩, 36), (⟨"RoundsPerHourModel", "lifts", "(JJ)Z"⟩, 36), (⟨"RoundsPerHourModel", "product", "(JJ)J"⟩, 36), (⟨"RoundsPerHourModel", "raised", "(I)I"⟩, 36), (⟨"RoundsPerHourModel", "isRaised", "(IIIJJ)Z"⟩, 36), (⟨"RoundsPerHourModel", "told", "(I)J"⟩, 36), (⟨"RoundsPerHourModel", "leastChoice", "()I"⟩, 36)]
theorem lw_r3 : ∀ q ∈ lw_privs_3, lw_okq q := List.forall_mem_cons.mpr ⟨lw_p32, List.forall_mem_cons.mpr ⟨lw_p33, List.forall_mem_cons.mpr ⟨lw_p34, List.forall_mem_cons.mpr ⟨lw_p35, List.forall_mem_cons.mpr ⟨lw_p36, List.forall_mem_cons.mpr ⟨lw_p37, List.forall_mem_cons.mpr ⟨lw_p38, List.forall_mem_cons.mpr ⟨lw_p39, List.forall_mem_cons.mpr ⟨lw_p40, List.forall_mem_cons.mpr ⟨lw_p41, List.forall_mem_cons.mpr ⟨lw_p42, List.forall_mem_cons.mpr ⟨lw_p43, List.forall_mem_cons.mpr ⟨lw_p44, List.forall_mem_cons.mpr ⟨lw_p45, List.forall_mem_cons.mpr ⟨lw_p46, List.forall_mem_cons.mpr ⟨lw_p47, fun _ h => absurd h List.not_mem_nil⟩⟩⟩⟩⟩⟩⟩⟩⟩⟩⟩⟩⟩⟩⟩⟩
theorem lw_p48 : lw_okq (⟨"RoundsPerHourModel", "allSets", "()I"⟩, 36) := ⟨⟨by decide +kernel, by decide +kernel⟩, List.mem_of_getElem? (i := 991) (by decide +kernel), List.mem_of_getElem? (i := 1293) (by decide +kernel), List.mem_of_getElem? (i := 1294) (by decide +kernel)⟩
theorem lw_p49 : lw_okq (⟨"RoundsPerHourModel", "isChoice", "(I)Z"⟩, 36) := ⟨⟨by decide +kernel, by decide +kernel⟩, List.mem_of_getElem? (i := 991) (by decide +kernel), List.mem_of_getElem? (i := 1297) (by decide +kernel), List.mem_of_getElem? (i := 1298) (by decide +kernel)⟩
theorem lw_p50 : lw_okq (⟨"RoundsPerHourModel", "isRound", "(I)Z"⟩, 36) := ⟨⟨by decide +kernel, by decide +kernel⟩, List.mem_of_getElem? (i := 991) (by decide +kernel), List.mem_of_getElem? (i := 1304) (by decide +kernel), List.mem_of_getElem? (i := 1305) (by decide +kernel)⟩
theorem lw_p51 : lw_okq (⟨"RoundsPerHourModel", "wayFrom", "(II)I"⟩, 36) := ⟨⟨by decide +kernel, by decide +kernel⟩, List.mem_of_getElem? (i := 991) (by decide +kernel), List.mem_of_getElem? (i := 1308) (by decide +kernel), List.mem_of_getElem? (i := 1309) (by decide +kernel)⟩
theorem lw_p52 : lw_okq (⟨"RoundsPerHourModel", "joinsAll", "(I)Z"⟩, 36) := ⟨⟨by decide +kernel, by decide +kernel⟩, List.mem_of_getElem? (i := 991) (by decide +kernel), List.mem_of_getElem? (i := 1312) (by decide +kernel), List.mem_of_getElem? (i := 1313) (by decide +kernel)⟩
theorem lw_p53 : lw_okq (⟨"RoundsPerHourModel", "rises", "(I)Z"⟩, 36) := ⟨⟨by decide +kernel, by decide +kernel⟩, List.mem_of_getElem? (i := 991) (by decide +kernel), List.mem_of_getElem? (i := 1316) (by decide +kernel), List.mem_of_getElem? (i := 1317) (by decide +kernel)⟩
theorem lw_p54 : lw_okq (⟨"RoundsPerHourModel", "climbed", "(II)J"⟩, 36) := ⟨⟨by decide +kernel, by decide +kernel⟩, List.mem_of_getElem? (i := 991) (by decide +kernel), List.mem_of_getElem? (i := 1320) (by decide +kernel), List.mem_of_getElem? (i := 1321) (by decide +kernel)⟩
theorem lw_p55 : lw_okq (⟨"RoundsPerHourModel", "aboveOf", "(I)J"⟩, 36) := ⟨⟨by decide +kernel, by decide +kernel⟩, List.mem_of_getElem? (i := 991) (by decide +kernel), List.mem_of_getElem? (i := 1324) (by decide +kernel), List.mem_of_getElem? (i := 1325) (by decide +kernel)⟩
theorem lw_p56 : lw_okq (⟨"RoundsPerHourModel", "belowOf", "(I)J"⟩, 36) := ⟨⟨by decide +kernel, by decide +kernel⟩, List.mem_of_getElem? (i := 991) (by decide +kernel), List.mem_of_getElem? (i := 1328) (by decide +kernel), List.mem_of_getElem? (i := 1329) (by decide +kernel)⟩
theorem lw_p57 : lw_okq (⟨"RoundsPerHourModel", "nextChoice", "(JJ)I"⟩, 36) := ⟨⟨by decide +kernel, by decide +kernel⟩, List.mem_of_getElem? (i := 991) (by decide +kernel), List.mem_of_getElem? (i := 1332) (by decide +kernel), List.mem_of_getElem? (i := 1333) (by decide +kernel)⟩
theorem lw_p58 : lw_okq (⟨"RoundsPerHourModel", "leastLike", "(JJ)I"⟩, 36) := ⟨⟨by decide +kernel, by decide +kernel⟩, List.mem_of_getElem? (i := 991) (by decide +kernel), List.mem_of_getElem? (i := 1336) (by decide +kernel), List.mem_of_getElem? (i := 1337) (by decide +kernel)⟩
theorem lw_p59 : lw_okq (⟨"RoundsPerHourModel", "wrong", "(III)I"⟩, 36) := ⟨⟨by decide +kernel, by decide +kernel⟩, List.mem_of_getElem? (i := 991) (by decide +kernel), List.mem_of_getElem? (i := 1356) (by decide +kernel), List.mem_of_getElem? (i := 1357) (by decide +kernel)⟩
theorem lw_p60 : lw_okq (⟨"RoundsPerHourModel", "sum", "(JJ)J"⟩, 36) := ⟨⟨by decide +kernel, by decide +kernel⟩, List.mem_of_getElem? (i := 991) (by decide +kernel), List.mem_of_getElem? (i := 1374) (by decide +kernel), List.mem_of_getElem? (i := 1375) (by decide +kernel)⟩
theorem lw_p61 : lw_okq (⟨"RoundsPerHourModel", "next", "()V"⟩, 36) := ⟨⟨by decide +kernel, by decide +kernel⟩, List.mem_of_getElem? (i := 991) (by decide +kernel), List.mem_of_getElem? (i := 1391) (by decide +kernel), List.mem_of_getElem? (i := 1392) (by decide +kernel)⟩
theorem lw_p62 : lw_okq (⟨"RoundsPerHourModel", "byteAt", "(I)I"⟩, 36) := ⟨⟨by decide +kernel, by decide +kernel⟩, List.mem_of_getElem? (i := 991) (by decide +kernel), List.mem_of_getElem? (i := 1395) (by decide +kernel), List.mem_of_getElem? (i := 1396) (by decide +kernel)⟩
theorem lw_p63 : lw_okq (⟨"RoundsPerHourModel", "isWordFrom", "(I)Z"⟩, 36) := ⟨⟨by decide +kernel, by decide +kernel⟩, List.mem_of_getElem? (i := 991) (by decide +kernel), List.mem_of_getElem? (i := 1401) (by decide +kernel), List.mem_of_getElem? (i := 1402) (by decide +kernel)⟩
def lw_privs_4 : List (MethodName × Nat) := [(⟨"RoundsPerHourModel", "allSets", "()I"⟩, 36), (⟨"RoundsPerHourModel", "isChoice", "(I)Z"⟩, 36), (⟨"RoundsPerHourModel", "isRound", "(I)Z"⟩, 36), (⟨"RoundsPerHourModel", "wayFrom", "(II)I"⟩, 36), (⟨"RoundsPerHourModel", "joinsAll", "(I)Z"⟩, 36), (⟨"RoundsPerHourModel", "rises", "(I)Z"⟩, 36), (⟨"RoundsPerHourModel", "climbed", "(II)J"⟩, 36), (⟨"RoundsPerHourModel", "aboveOf", "(I)J"⟩, 36), (⟨"RoundsPerHourModel", "belowOf", "(I)J"⟩, 36), (⟨"RoundsPerHourModel", "nextChoice", "(JJ)I"⟩, 36), (⟨"RoundsPerHourModel", "leastLike", "(JJ)I"⟩, 36), (⟨"RoundsPerHourModel", "wrong", "(III)I"⟩, 36), (⟨"RoundsPerHourModel", "sum", "(JJ)J"⟩, 36), (⟨"RoundsPerHourModel", "next", "()V"⟩, 36), (⟨"RoundsPerHourModel", "byteAt", "(I)I"⟩, 36), (⟨"RoundsPerHourModel", "isWordFrom", "(I)Z"⟩, 36)]
theorem lw_r4 : ∀ q ∈ lw_privs_4, lw_okq q := List.forall_mem_cons.mpr ⟨lw_p48, List.forall_mem_cons.mpr ⟨lw_p49, List.forall_mem_cons.mpr ⟨lw_p50, List.forall_mem_cons.mpr ⟨lw_p51, List.forall_mem_cons.mpr ⟨lw_p52, List.forall_mem_cons.mpr ⟨lw_p53, List.forall_mem_cons.mpr ⟨lw_p54, List.forall_mem_cons.mpr ⟨lw_p55, List.forall_mem_cons.mpr ⟨lw_p56, List.forall_mem_cons.mpr ⟨lw_p57, List.forall_mem_cons.mpr ⟨lw_p58, List.forall_mem_cons.mpr ⟨lw_p59, List.forall_mem_cons.mpr ⟨lw_p60, List.forall_mem_cons.mpr ⟨lw_p61, List.forall_mem_cons.mpr ⟨lw_p62, List.forall_mem_cons.mpr ⟨lw_p63, fun _ h => absurd h List.not_mem_nil⟩⟩⟩⟩⟩⟩⟩⟩⟩⟩⟩⟩⟩⟩⟩⟩
theorem lw_p64 : lw_okq (⟨"RoundsPerHourModel", "readsItem", "()Z"⟩, 36) := ⟨⟨by decide +kernel, by decide +kernel⟩, List.mem_of_getElem? (i := 991) (by decide +kernel), List.mem_of_getElem? (i := 1408) (by decide +kernel), List.mem_of_getElem? (i := 1409) (by decide +kernel)⟩
theorem lw_p65 : lw_okq (⟨"RoundsPerHourModel", "readsWay", "(I)Z"⟩, 36) := ⟨⟨by decide +kernel, by decide +kernel⟩, List.mem_of_getElem? (i := 991) (by decide +kernel), List.mem_of_getElem? (i := 1412) (by decide +kernel), List.mem_of_getElem? (i := 1413) (by decide +kernel)⟩
theorem lw_p66 : lw_okq (⟨"RoundsPerHourModel", "takesNumber", "(II)Z"⟩, 36) := ⟨⟨by decide +kernel, by decide +kernel⟩, List.mem_of_getElem? (i := 991) (by decide +kernel), List.mem_of_getElem? (i := 1416) (by decide +kernel), List.mem_of_getElem? (i := 1417) (by decide +kernel)⟩
theorem lw_p67 : lw_okq (⟨"RoundsPerHourModel", "readsGainAndTime", "()Z"⟩, 36) := ⟨⟨by decide +kernel, by decide +kernel⟩, List.mem_of_getElem? (i := 991) (by decide +kernel), List.mem_of_getElem? (i := 1420) (by decide +kernel), List.mem_of_getElem? (i := 1421) (by decide +kernel)⟩
theorem lw_p68 : lw_okq (⟨"RoundsPerHourModel", "isWord", "(I)Z"⟩, 36) := ⟨⟨by decide +kernel, by decide +kernel⟩, List.mem_of_getElem? (i := 991) (by decide +kernel), List.mem_of_getElem? (i := 1424) (by decide +kernel), List.mem_of_getElem? (i := 1425) (by decide +kernel)⟩
theorem lw_p69 : lw_okq (⟨"RoundsPerHourModel", "readsThing", "()Z"⟩, 36) := ⟨⟨by decide +kernel, by decide +kernel⟩, List.mem_of_getElem? (i := 991) (by decide +kernel), List.mem_of_getElem? (i := 1428) (by decide +kernel), List.mem_of_getElem? (i := 1429) (by decide +kernel)⟩
theorem lw_p70 : lw_okq (⟨"RoundsPerHourModel", "lacks", "(II)I"⟩, 36) := ⟨⟨by decide +kernel, by decide +kernel⟩, List.mem_of_getElem? (i := 991) (by decide +kernel), List.mem_of_getElem? (i := 1440) (by decide +kernel), List.mem_of_getElem? (i := 1441) (by decide +kernel)⟩
def lw_privs_5 : List (MethodName × Nat) := [(⟨"RoundsPerHourModel", "readsItem", "()Z"⟩, 36), (⟨"RoundsPerHourModel", "readsWay", "(I)Z"⟩, 36), (⟨"RoundsPerHourModel", "takesNumber", "(II)Z"⟩, 36), (⟨"RoundsPerHourModel", "readsGainAndTime", "()Z"⟩, 36), (⟨"RoundsPerHourModel", "isWord", "(I)Z"⟩, 36), (⟨"RoundsPerHourModel", "readsThing", "()Z"⟩, 36), (⟨"RoundsPerHourModel", "lacks", "(II)I"⟩, 36)]
theorem lw_r5 : ∀ q ∈ lw_privs_5, lw_okq q := List.forall_mem_cons.mpr ⟨lw_p64, List.forall_mem_cons.mpr ⟨lw_p65, List.forall_mem_cons.mpr ⟨lw_p66, List.forall_mem_cons.mpr ⟨lw_p67, List.forall_mem_cons.mpr ⟨lw_p68, List.forall_mem_cons.mpr ⟨lw_p69, List.forall_mem_cons.mpr ⟨lw_p70, fun _ h => absurd h List.not_mem_nil⟩⟩⟩⟩⟩⟩⟩
def lw_privs : List (MethodName × Nat) := lw_privs_1 ++ (lw_privs_2 ++ (lw_privs_3 ++ (lw_privs_4 ++ (lw_privs_5))))
def lw_tbl : List Cond := k2_sels lw_privs ++ tables_1
theorem lw_privs_ok : ∀ q ∈ lw_privs, lw_okq q := by
  show ∀ q ∈ lw_privs_1 ++ (lw_privs_2 ++ (lw_privs_3 ++ (lw_privs_4 ++ (lw_privs_5)))), lw_okq q
  exact List.forall_mem_append.mpr ⟨lw_r1, List.forall_mem_append.mpr ⟨lw_r2, List.forall_mem_append.mpr ⟨lw_r3, List.forall_mem_append.mpr ⟨lw_r4, lw_r5⟩⟩⟩⟩
end
section
/-! ===== BEGIN printed: names, fields, word lists, decode rows ===== -/
def RX0 : String := "RoundsPerHour$Climb"
def TX0 : u_T := fun k => match k with
  | _ => ("", "", "", false)
def tyX0 : Nat → FieldType := fun k => match k with
  | _ => .int
abbrev wsX00 : List Cond := u_ws RX0 TX0 0
theorem nmX0 : ∀ a, a < 0 → ∀ b, b < 0 → a ≠ b → (TX0 a).2.1 ≠ (TX0 b).2.1 := by decide +kernel
theorem tyX0_ok : ∀ k, k < 0 → parseFieldDescriptor (TX0 k).2.2.1 = some (tyX0 k) := by decide +kernel
abbrev cX0_init : ByteArray := prog_2_method_1_code
def yX0_init : MethodName := ⟨RX0, "<init>", "()V"⟩
abbrev cX0_takeWays : ByteArray := prog_2_method_3_code
def yX0_takeWays : MethodName := ⟨RX0, "takeWays", "(LRoundsPerHour$Country;)V"⟩
abbrev cX0_runs : ByteArray := prog_2_method_4_code
def yX0_runs : MethodName := ⟨RX0, "runs", "()Z"⟩
abbrev cX0_weigh : ByteArray := prog_2_method_5_code
def yX0_weigh : MethodName := ⟨RX0, "weigh", "(JJ)V"⟩
abbrev cX0_together : ByteArray := prog_2_method_6_code
def yX0_together : MethodName := ⟨RX0, "together", "([JI)J"⟩
def RX1 : String := "RoundsPerHour$Country"
def TX1 : u_T := fun k => match k with
  | 0 => ("RoundsPerHour$Country", "places", "I", false)
  | 1 => ("RoundsPerHour$Country", "weather", "I", false)
  | 2 => ("RoundsPerHour$Country", "ways", "I", false)
  | 3 => ("RoundsPerHour$Country", "kind", "[I", true)
  | 4 => ("RoundsPerHour$Country", "from", "[I", true)
  | 5 => ("RoundsPerHour$Country", "to", "[I", true)
  | 6 => ("RoundsPerHour$Country", "gain", "[I", true)
  | 7 => ("RoundsPerHour$Country", "time", "[I", true)
  | 8 => ("RoundsPerHour$Country", "shut", "[I", true)
  | 9 => ("RoundsPerHour$Country", "things", "I", false)
  | 10 => ("RoundsPerHour$Country", "thingGain", "[I", true)
  | _ => ("RoundsPerHour$Country", "thingTime", "[I", true)
def tyX1 : Nat → FieldType := fun k => match k with
  | 0 => .int
  | 1 => .int
  | 2 => .int
  | 3 => .array .int
  | 4 => .array .int
  | 5 => .array .int
  | 6 => .array .int
  | 7 => .array .int
  | 8 => .array .int
  | 9 => .int
  | 10 => .array .int
  | _ => .array .int
abbrev wsX10 : List Cond := u_ws RX1 TX1 12
theorem nmX1 : ∀ a, a < 12 → ∀ b, b < 12 → a ≠ b → (TX1 a).2.1 ≠ (TX1 b).2.1 := by decide +kernel
theorem tyX1_ok : ∀ k, k < 12 → parseFieldDescriptor (TX1 k).2.2.1 = some (tyX1 k) := by decide +kernel
abbrev cX1_init : ByteArray := prog_3_method_1_code
def yX1_init : MethodName := ⟨RX1, "<init>", "()V"⟩
abbrev cX1_isPlace : ByteArray := prog_3_method_2_code
def yX1_isPlace : MethodName := ⟨RX1, "isPlace", "(I)Z"⟩
abbrev cX1_isWay : ByteArray := prog_3_method_3_code
def yX1_isWay : MethodName := ⟨RX1, "isWay", "(I)Z"⟩
abbrev cX1_isThingOrBase : ByteArray := prog_3_method_4_code
def yX1_isThingOrBase : MethodName := ⟨RX1, "isThingOrBase", "(I)Z"⟩
abbrev cX1_newWay : ByteArray := prog_3_method_5_code
def yX1_newWay : MethodName := ⟨RX1, "newWay", "(IIIII)I"⟩
abbrev cX1_newThing : ByteArray := prog_3_method_6_code
def yX1_newThing : MethodName := ⟨RX1, "newThing", "(II)I"⟩
abbrev cX1_bringsOf : ByteArray := prog_3_method_7_code
def yX1_bringsOf : MethodName := ⟨RX1, "bringsOf", "(I)I"⟩
abbrev cX1_lastsOf : ByteArray := prog_3_method_8_code
def yX1_lastsOf : MethodName := ⟨RX1, "lastsOf", "(I)I"⟩
abbrev cX1_shutWays : ByteArray := prog_3_method_9_code
def yX1_shutWays : MethodName := ⟨RX1, "shutWays", "()I"⟩
abbrev cX1_isOpenSet : ByteArray := prog_3_method_10_code
def yX1_isOpenSet : MethodName := ⟨RX1, "isOpenSet", "(I)Z"⟩
abbrev cX1_isRing : ByteArray := prog_3_method_11_code
def yX1_isRing : MethodName := ⟨RX1, "isRing", "(I)Z"⟩
abbrev cX1_firstFrom : ByteArray := prog_3_method_12_code
def yX1_firstFrom : MethodName := ⟨RX1, "firstFrom", "(II)I"⟩
abbrev cX1_bringTogether : ByteArray := prog_3_method_13_code
def yX1_bringTogether : MethodName := ⟨RX1, "bringTogether", "(I)J"⟩
abbrev cX1_lastTogether : ByteArray := prog_3_method_14_code
def yX1_lastTogether : MethodName := ⟨RX1, "lastTogether", "(I)J"⟩
abbrev cX1_gainTogether : ByteArray := prog_3_method_15_code
def yX1_gainTogether : MethodName := ⟨RX1, "gainTogether", "(I)J"⟩
abbrev cX1_timeTogether : ByteArray := prog_3_method_16_code
def yX1_timeTogether : MethodName := ⟨RX1, "timeTogether", "(I)J"⟩
abbrev cX1_sumWithBase : ByteArray := prog_3_method_17_code
def yX1_sumWithBase : MethodName := ⟨RX1, "sumWithBase", "([II)J"⟩
abbrev cX1_become : ByteArray := prog_3_method_18_code
def yX1_become : MethodName := ⟨RX1, "become", "(LRoundsPerHour$Country;)V"⟩
def RX2 : String := "RoundsPerHour$Joins"
def TX2 : u_T := fun k => match k with
  | _ => ("RoundsPerHour$Joins", "label", "[I", true)
def tyX2 : Nat → FieldType := fun k => match k with
  | _ => .array .int
abbrev wsX20 : List Cond := u_ws RX2 TX2 1
theorem nmX2 : ∀ a, a < 1 → ∀ b, b < 1 → a ≠ b → (TX2 a).2.1 ≠ (TX2 b).2.1 := by decide +kernel
theorem tyX2_ok : ∀ k, k < 1 → parseFieldDescriptor (TX2 k).2.2.1 = some (tyX2 k) := by decide +kernel
abbrev cX2_init : ByteArray := prog_4_method_1_code
def yX2_init : MethodName := ⟨RX2, "<init>", "()V"⟩
abbrev cX2_part : ByteArray := prog_4_method_2_code
def yX2_part : MethodName := ⟨RX2, "part", "()V"⟩
abbrev cX2_apart : ByteArray := prog_4_method_3_code
def yX2_apart : MethodName := ⟨RX2, "apart", "(II)Z"⟩
abbrev cX2_join : ByteArray := prog_4_method_4_code
def yX2_join : MethodName := ⟨RX2, "join", "(II)V"⟩
abbrev cX2_isTree : ByteArray := prog_4_method_5_code
def yX2_isTree : MethodName := ⟨RX2, "isTree", "(LRoundsPerHour$Country;I)Z"⟩
def RX3 : String := "RoundsPerHour$LoadClimb"
def TX3 : u_T := fun k => match k with
  | 0 => ("RoundsPerHour$Climb", "best", "I", false)
  | 1 => ("RoundsPerHour$Climb", "steps", "I", false)
  | 2 => ("RoundsPerHour$Climb", "above", "J", false)
  | 3 => ("RoundsPerHour$Climb", "below", "J", false)
  | 4 => ("RoundsPerHour$Climb", "size", "I", false)
  | 5 => ("RoundsPerHour$Climb", "baseAbove", "J", false)
  | 6 => ("RoundsPerHour$Climb", "baseBelow", "J", false)
  | 7 => ("RoundsPerHour$Climb", "gains", "[J", true)
  | 8 => ("RoundsPerHour$Climb", "times", "[J", true)
  | 9 => ("RoundsPerHour$Climb", "weight", "[J", true)
  | _ => ("RoundsPerHour$LoadClimb", "most", "I", false)
def tyX3 : Nat → FieldType := fun k => match k with
  | 0 => .int
  | 1 => .int
  | 2 => .long
  | 3 => .long
  | 4 => .int
  | 5 => .long
  | 6 => .long
  | 7 => .array .long
  | 8 => .array .long
  | 9 => .array .long
  | _ => .int
abbrev wsX30 : List Cond := u_ws RX3 TX3 11
theorem nmX3 : ∀ a, a < 11 → ∀ b, b < 11 → a ≠ b → (TX3 a).2.1 ≠ (TX3 b).2.1 := by decide +kernel
theorem tyX3_ok : ∀ k, k < 11 → parseFieldDescriptor (TX3 k).2.2.1 = some (tyX3 k) := by decide +kernel
abbrev cX3_init : ByteArray := prog_5_method_1_code
def yX3_init : MethodName := ⟨RX3, "<init>", "()V"⟩
abbrev cX3_climbs : ByteArray := prog_5_method_2_code
def yX3_climbs : MethodName := ⟨RX3, "climbs", "(LRoundsPerHour$Country;I)Z"⟩
abbrev cX3_pick : ByteArray := prog_5_method_3_code
def yX3_pick : MethodName := ⟨RX3, "pick", "()I"⟩
def RX4 : String := "RoundsPerHour$Rings"
def TX4 : u_T := fun k => match k with
  | 0 => ("RoundsPerHour$Rings", "size", "I", false)
  | 1 => ("RoundsPerHour$Rings", "sets", "[I", true)
  | 2 => ("RoundsPerHour$Rings", "above", "[J", true)
  | 3 => ("RoundsPerHour$Rings", "below", "[J", true)
  | 4 => ("RoundsPerHour$Rings", "height", "[J", true)
  | 5 => ("RoundsPerHour$Rings", "reached", "[Z", true)
  | 6 => ("RoundsPerHour$Rings", "leaving", "[I", true)
  | 7 => ("RoundsPerHour$Rings", "wayOut", "[I", true)
  | 8 => ("RoundsPerHour$Rings", "to", "[I", true)
  | 9 => ("RoundsPerHour$Rings", "brings", "[J", true)
  | 10 => ("RoundsPerHour$Rings", "lasts", "[J", true)
  | 11 => ("RoundsPerHour$Rings", "peakAbove", "J", false)
  | _ => ("RoundsPerHour$Rings", "peakBelow", "J", false)
def tyX4 : Nat → FieldType := fun k => match k with
  | 0 => .int
  | 1 => .array .int
  | 2 => .array .long
  | 3 => .array .long
  | 4 => .array .long
  | 5 => .array .boolean
  | 6 => .array .int
  | 7 => .array .int
  | 8 => .array .int
  | 9 => .array .long
  | 10 => .array .long
  | 11 => .long
  | _ => .long
abbrev wsX40 : List Cond := u_ws RX4 TX4 13
theorem nmX4 : ∀ a, a < 13 → ∀ b, b < 13 → a ≠ b → (TX4 a).2.1 ≠ (TX4 b).2.1 := by decide +kernel
theorem tyX4_ok : ∀ k, k < 13 → parseFieldDescriptor (TX4 k).2.2.1 = some (tyX4 k) := by decide +kernel
abbrev cX4_init : ByteArray := prog_6_method_1_code
def yX4_init : MethodName := ⟨RX4, "<init>", "()V"⟩
abbrev cX4_gather : ByteArray := prog_6_method_2_code
def yX4_gather : MethodName := ⟨RX4, "gather", "(LRoundsPerHour$Country;I)V"⟩
abbrev cX4_goOn : ByteArray := prog_6_method_3_code
def yX4_goOn : MethodName := ⟨RX4, "goOn", "(IIIIJJ)V"⟩
abbrev cX4_keep : ByteArray := prog_6_method_4_code
def yX4_keep : MethodName := ⟨RX4, "keep", "(IJJ)V"⟩
abbrev cX4_order : ByteArray := prog_6_method_5_code
def yX4_order : MethodName := ⟨RX4, "order", "(II)I"⟩
abbrev cX4_best : ByteArray := prog_6_method_6_code
def yX4_best : MethodName := ⟨RX4, "best", "(I)I"⟩
abbrev cX4_forget : ByteArray := prog_6_method_7_code
def yX4_forget : MethodName := ⟨RX4, "forget", "()V"⟩
abbrev cX4_rises : ByteArray := prog_6_method_8_code
def yX4_rises : MethodName := ⟨RX4, "rises", "(LRoundsPerHour$Country;)Z"⟩
abbrev cX4_missingTo : ByteArray := prog_6_method_9_code
def yX4_missingTo : MethodName := ⟨RX4, "missingTo", "(IJJ)J"⟩
abbrev cX4_lifts : ByteArray := prog_6_method_10_code
def yX4_lifts : MethodName := ⟨RX4, "lifts", "(LRoundsPerHour$Country;IIJJ)Z"⟩
abbrev cX4_step : ByteArray := prog_6_method_11_code
def yX4_step : MethodName := ⟨RX4, "step", "(IIJ)V"⟩
def RX5 : String := "RoundsPerHour$Sheet"
def TX5 : u_T := fun k => match k with
  | 0 => ("RoundsPerHour$Sheet", "bits", "I", false)
  | 1 => ("RoundsPerHour$Sheet", "size", "I", false)
  | _ => ("RoundsPerHour$Sheet", "numbers", "[J", true)
def tyX5 : Nat → FieldType := fun k => match k with
  | 0 => .int
  | 1 => .int
  | _ => .array .long
abbrev wsX50 : List Cond := u_ws RX5 TX5 3
theorem nmX5 : ∀ a, a < 3 → ∀ b, b < 3 → a ≠ b → (TX5 a).2.1 ≠ (TX5 b).2.1 := by decide +kernel
theorem tyX5_ok : ∀ k, k < 3 → parseFieldDescriptor (TX5 k).2.2.1 = some (tyX5 k) := by decide +kernel
abbrev cX5_init : ByteArray := prog_7_method_1_code
def yX5_init : MethodName := ⟨RX5, "<init>", "()V"⟩
abbrev cX5_begin : ByteArray := prog_7_method_2_code
def yX5_begin : MethodName := ⟨RX5, "begin", "(II)V"⟩
abbrev cX5_hasFraction : ByteArray := prog_7_method_3_code
def yX5_hasFraction : MethodName := ⟨RX5, "hasFraction", "(I)Z"⟩
abbrev cX5_hasRun : ByteArray := prog_7_method_4_code
def yX5_hasRun : MethodName := ⟨RX5, "hasRun", "(II)Z"⟩
abbrev cX5_put : ByteArray := prog_7_method_5_code
def yX5_put : MethodName := ⟨RX5, "put", "(IJ)V"⟩
def RX6 : String := "RoundsPerHour$Tape"
def TX6 : u_T := fun k => match k with
  | 0 => ("RoundsPerHour$Tape", "length", "I", false)
  | 1 => ("RoundsPerHour$Tape", "bytes", "[I", true)
  | 2 => ("RoundsPerHour$Tape", "land", "LRoundsPerHour$Country;", false)
  | 3 => ("RoundsPerHour$Tape", "sort", "I", false)
  | 4 => ("RoundsPerHour$Tape", "first", "I", false)
  | 5 => ("RoundsPerHour$Tape", "behind", "I", false)
  | 6 => ("RoundsPerHour$Tape", "number", "I", false)
  | 7 => ("RoundsPerHour$Tape", "gain", "I", false)
  | _ => ("RoundsPerHour$Tape", "time", "I", false)
def tyX6 : Nat → FieldType := fun k => match k with
  | 0 => .int
  | 1 => .array .int
  | 2 => .object "RoundsPerHour$Country"
  | 3 => .int
  | 4 => .int
  | 5 => .int
  | 6 => .int
  | 7 => .int
  | _ => .int
abbrev wsX60 : List Cond := u_ws RX6 TX6 9
theorem nmX6 : ∀ a, a < 9 → ∀ b, b < 9 → a ≠ b → (TX6 a).2.1 ≠ (TX6 b).2.1 := by decide +kernel
theorem tyX6_ok : ∀ k, k < 9 → parseFieldDescriptor (TX6 k).2.2.1 = some (tyX6 k) := by decide +kernel
abbrev cX6_init : ByteArray := prog_8_method_1_code
def yX6_init : MethodName := ⟨RX6, "<init>", "()V"⟩
abbrev cX6_append : ByteArray := prog_8_method_2_code
def yX6_append : MethodName := ⟨RX6, "append", "(I)V"⟩
abbrev cX6_tellTo : ByteArray := prog_8_method_3_code
def yX6_tellTo : MethodName := ⟨RX6, "tellTo", "(LRoundsPerHour$Country;)I"⟩
abbrev cX6_item : ByteArray := prog_8_method_4_code
def yX6_item : MethodName := ⟨RX6, "item", "()Z"⟩
abbrev cX6_placesItem : ByteArray := prog_8_method_5_code
def yX6_placesItem : MethodName := ⟨RX6, "placesItem", "()Z"⟩
abbrev cX6_weatherItem : ByteArray := prog_8_method_6_code
def yX6_weatherItem : MethodName := ⟨RX6, "weatherItem", "()Z"⟩
abbrev cX6_thingItem : ByteArray := prog_8_method_7_code
def yX6_thingItem : MethodName := ⟨RX6, "thingItem", "()Z"⟩
abbrev cX6_wayItem : ByteArray := prog_8_method_8_code
def yX6_wayItem : MethodName := ⟨RX6, "wayItem", "(I)Z"⟩
abbrev cX6_gainAndTime : ByteArray := prog_8_method_9_code
def yX6_gainAndTime : MethodName := ⟨RX6, "gainAndTime", "()Z"⟩
abbrev cX6_kindTold : ByteArray := prog_8_method_10_code
def yX6_kindTold : MethodName := ⟨RX6, "kindTold", "()I"⟩
abbrev cX6_isNumber : ByteArray := prog_8_method_11_code
def yX6_isNumber : MethodName := ⟨RX6, "isNumber", "(II)Z"⟩
abbrev cX6_isWord : ByteArray := prog_8_method_12_code
def yX6_isWord : MethodName := ⟨RX6, "isWord", "(Ljava/lang/String;)Z"⟩
abbrev cX6_next : ByteArray := prog_8_method_13_code
def yX6_next : MethodName := ⟨RX6, "next", "()V"⟩
abbrev cX6_takeDigits : ByteArray := prog_8_method_14_code
def yX6_takeDigits : MethodName := ⟨RX6, "takeDigits", "()V"⟩
abbrev cX6_isLetter : ByteArray := prog_8_method_15_code
def yX6_isLetter : MethodName := ⟨RX6, "isLetter", "(I)Z"⟩
abbrev cX6_isDigit : ByteArray := prog_8_method_16_code
def yX6_isDigit : MethodName := ⟨RX6, "isDigit", "(I)Z"⟩
def RX7 : String := "RoundsPerHour$TreeClimb"
def TX7 : u_T := fun k => match k with
  | 0 => ("RoundsPerHour$Climb", "best", "I", false)
  | 1 => ("RoundsPerHour$Climb", "steps", "I", false)
  | 2 => ("RoundsPerHour$Climb", "above", "J", false)
  | 3 => ("RoundsPerHour$Climb", "below", "J", false)
  | 4 => ("RoundsPerHour$Climb", "size", "I", false)
  | 5 => ("RoundsPerHour$Climb", "baseAbove", "J", false)
  | 6 => ("RoundsPerHour$Climb", "baseBelow", "J", false)
  | 7 => ("RoundsPerHour$Climb", "gains", "[J", true)
  | 8 => ("RoundsPerHour$Climb", "times", "[J", true)
  | 9 => ("RoundsPerHour$Climb", "weight", "[J", true)
  | 10 => ("RoundsPerHour$TreeClimb", "joins", "LRoundsPerHour$Joins;", true)
  | _ => ("RoundsPerHour$TreeClimb", "land", "LRoundsPerHour$Country;", false)
def tyX7 : Nat → FieldType := fun k => match k with
  | 0 => .int
  | 1 => .int
  | 2 => .long
  | 3 => .long
  | 4 => .int
  | 5 => .long
  | 6 => .long
  | 7 => .array .long
  | 8 => .array .long
  | 9 => .array .long
  | 10 => .object "RoundsPerHour$Joins"
  | _ => .object "RoundsPerHour$Country"
abbrev wsX70 : List Cond := u_ws RX7 TX7 12
theorem nmX7 : ∀ a, a < 12 → ∀ b, b < 12 → a ≠ b → (TX7 a).2.1 ≠ (TX7 b).2.1 := by decide +kernel
theorem tyX7_ok : ∀ k, k < 12 → parseFieldDescriptor (TX7 k).2.2.1 = some (tyX7 k) := by decide +kernel
abbrev cX7_init : ByteArray := prog_9_method_1_code
def yX7_init : MethodName := ⟨RX7, "<init>", "()V"⟩
abbrev cX7_climbs : ByteArray := prog_9_method_2_code
def yX7_climbs : MethodName := ⟨RX7, "climbs", "(LRoundsPerHour$Country;)Z"⟩
abbrev cX7_pick : ByteArray := prog_9_method_3_code
def yX7_pick : MethodName := ⟨RX7, "pick", "()I"⟩
abbrev cX7_heaviestJoining : ByteArray := prog_9_method_4_code
def yX7_heaviestJoining : MethodName := ⟨RX7, "heaviestJoining", "()I"⟩
def RX8 : String := "RoundsPerHour$WalkClimb"
def TX8 : u_T := fun k => match k with
  | 0 => ("RoundsPerHour$Climb", "best", "I", false)
  | 1 => ("RoundsPerHour$Climb", "steps", "I", false)
  | 2 => ("RoundsPerHour$Climb", "above", "J", false)
  | 3 => ("RoundsPerHour$Climb", "below", "J", false)
  | 4 => ("RoundsPerHour$Climb", "size", "I", false)
  | 5 => ("RoundsPerHour$Climb", "baseAbove", "J", false)
  | 6 => ("RoundsPerHour$Climb", "baseBelow", "J", false)
  | 7 => ("RoundsPerHour$Climb", "gains", "[J", true)
  | 8 => ("RoundsPerHour$Climb", "times", "[J", true)
  | 9 => ("RoundsPerHour$Climb", "weight", "[J", true)
  | 10 => ("RoundsPerHour$WalkClimb", "height", "[J", true)
  | 11 => ("RoundsPerHour$WalkClimb", "sets", "[I", true)
  | 12 => ("RoundsPerHour$WalkClimb", "land", "LRoundsPerHour$Country;", false)
  | 13 => ("RoundsPerHour$WalkClimb", "start", "I", false)
  | _ => ("RoundsPerHour$WalkClimb", "end", "I", false)
def tyX8 : Nat → FieldType := fun k => match k with
  | 0 => .int
  | 1 => .int
  | 2 => .long
  | 3 => .long
  | 4 => .int
  | 5 => .long
  | 6 => .long
  | 7 => .array .long
  | 8 => .array .long
  | 9 => .array .long
  | 10 => .array .long
  | 11 => .array .int
  | 12 => .object "RoundsPerHour$Country"
  | 13 => .int
  | _ => .int
abbrev wsX80 : List Cond := u_ws RX8 TX8 15
theorem nmX8 : ∀ a, a < 15 → ∀ b, b < 15 → a ≠ b → (TX8 a).2.1 ≠ (TX8 b).2.1 := by decide +kernel
theorem tyX8_ok : ∀ k, k < 15 → parseFieldDescriptor (TX8 k).2.2.1 = some (tyX8 k) := by decide +kernel
abbrev cX8_init : ByteArray := prog_10_method_1_code
def yX8_init : MethodName := ⟨RX8, "<init>", "()V"⟩
abbrev cX8_climbs : ByteArray := prog_10_method_2_code
def yX8_climbs : MethodName := ⟨RX8, "climbs", "(LRoundsPerHour$Country;II)Z"⟩
abbrev cX8_pick : ByteArray := prog_10_method_3_code
def yX8_pick : MethodName := ⟨RX8, "pick", "()I"⟩
abbrev cX8_leave : ByteArray := prog_10_method_4_code
def yX8_leave : MethodName := ⟨RX8, "leave", "(I)V"⟩
def RX9 : String := "RoundsPerHour"
def TX9 : u_T := fun k => match k with
  | 0 => ("RoundsPerHour", "now", "LRoundsPerHour$Country;", true)
  | 1 => ("RoundsPerHour", "kept", "LRoundsPerHour$Country;", true)
  | 2 => ("RoundsPerHour", "draft", "LRoundsPerHour$Country;", true)
  | 3 => ("RoundsPerHour", "isKept", "Z", false)
  | 4 => ("RoundsPerHour", "rings", "LRoundsPerHour$Rings;", true)
  | 5 => ("RoundsPerHour", "trees", "LRoundsPerHour$TreeClimb;", true)
  | 6 => ("RoundsPerHour", "walks", "LRoundsPerHour$WalkClimb;", true)
  | 7 => ("RoundsPerHour", "loads", "LRoundsPerHour$LoadClimb;", true)
  | 8 => ("RoundsPerHour", "joins", "LRoundsPerHour$Joins;", true)
  | 9 => ("RoundsPerHour", "tape", "LRoundsPerHour$Tape;", true)
  | 10 => ("RoundsPerHour", "sheets", "[LRoundsPerHour$Sheet;", true)
  | _ => ("RoundsPerHour", "found", "[I", true)
def tyX9 : Nat → FieldType := fun k => match k with
  | 0 => .object "RoundsPerHour$Country"
  | 1 => .object "RoundsPerHour$Country"
  | 2 => .object "RoundsPerHour$Country"
  | 3 => .boolean
  | 4 => .object "RoundsPerHour$Rings"
  | 5 => .object "RoundsPerHour$TreeClimb"
  | 6 => .object "RoundsPerHour$WalkClimb"
  | 7 => .object "RoundsPerHour$LoadClimb"
  | 8 => .object "RoundsPerHour$Joins"
  | 9 => .object "RoundsPerHour$Tape"
  | 10 => .array (.object "RoundsPerHour$Sheet")
  | _ => .array .int
abbrev wsX90 : List Cond := u_ws RX9 TX9 12
theorem nmX9 : ∀ a, a < 12 → ∀ b, b < 12 → a ≠ b → (TX9 a).2.1 ≠ (TX9 b).2.1 := by decide +kernel
theorem tyX9_ok : ∀ k, k < 12 → parseFieldDescriptor (TX9 k).2.2.1 = some (tyX9 k) := by decide +kernel
abbrev cX9_init : ByteArray := prog_1_method_1_code
def yX9_init : MethodName := ⟨RX9, "<init>", "()V"⟩
abbrev cX9_places : ByteArray := prog_1_method_2_code
def yX9_places : MethodName := ⟨RX9, "places", "(I)I"⟩
abbrev cX9_weather : ByteArray := prog_1_method_3_code
def yX9_weather : MethodName := ⟨RX9, "weather", "(I)I"⟩
abbrev cX9_way : ByteArray := prog_1_method_4_code
def yX9_way : MethodName := ⟨RX9, "way", "(IIIII)I"⟩
abbrev cX9_of : ByteArray := prog_1_method_5_code
def yX9_of : MethodName := ⟨RX9, "of", "(II)I"⟩
abbrev cX9_change : ByteArray := prog_1_method_6_code
def yX9_change : MethodName := ⟨RX9, "change", "(III)I"⟩
abbrev cX9_canBecome : ByteArray := prog_1_method_7_code
def yX9_canBecome : MethodName := ⟨RX9, "canBecome", "(III)Z"⟩
abbrev cX9_as : ByteArray := prog_1_method_8_code
def yX9_as : MethodName := ⟨RX9, "as", "(II)I"⟩
abbrev cX9_thing : ByteArray := prog_1_method_9_code
def yX9_thing : MethodName := ⟨RX9, "thing", "(II)I"⟩
abbrev cX9_alter : ByteArray := prog_1_method_10_code
def yX9_alter : MethodName := ⟨RX9, "alter", "(III)I"⟩
abbrev cX9_its : ByteArray := prog_1_method_11_code
def yX9_its : MethodName := ⟨RX9, "its", "(II)I"⟩
abbrev cX9_ring : ByteArray := prog_1_method_12_code
def yX9_ring : MethodName := ⟨RX9, "ring", "(I)J"⟩
abbrev cX9_ringWays : ByteArray := prog_1_method_13_code
def yX9_ringWays : MethodName := ⟨RX9, "ringWays", "()I"⟩
abbrev cX9_lift : ByteArray := prog_1_method_14_code
def yX9_lift : MethodName := ⟨RX9, "lift", "(II)J"⟩
abbrev cX9_worth : ByteArray := prog_1_method_15_code
def yX9_worth : MethodName := ⟨RX9, "worth", "(J)J"⟩
abbrev cX9_raise : ByteArray := prog_1_method_16_code
def yX9_raise : MethodName := ⟨RX9, "raise", "(I)I"⟩
abbrev cX9_lose : ByteArray := prog_1_method_17_code
def yX9_lose : MethodName := ⟨RX9, "lose", "()I"⟩
abbrev cX9_kind : ByteArray := prog_1_method_18_code
def yX9_kind : MethodName := ⟨RX9, "kind", "(I)I"⟩
abbrev cX9_season : ByteArray := prog_1_method_19_code
def yX9_season : MethodName := ⟨RX9, "season", "()I"⟩
abbrev cX9_bestRing : ByteArray := prog_1_method_20_code
def yX9_bestRing : MethodName := ⟨RX9, "bestRing", "()I"⟩
abbrev cX9_tree : ByteArray := prog_1_method_21_code
def yX9_tree : MethodName := ⟨RX9, "tree", "(I)J"⟩
abbrev cX9_walk : ByteArray := prog_1_method_22_code
def yX9_walk : MethodName := ⟨RX9, "walk", "(III)J"⟩
abbrev cX9_load : ByteArray := prog_1_method_23_code
def yX9_load : MethodName := ⟨RX9, "load", "(II)J"⟩
abbrev cX9_told : ByteArray := prog_1_method_24_code
def yX9_told : MethodName := ⟨RX9, "told", "(LRoundsPerHour$Climb;ZI)J"⟩
abbrev cX9_ratio : ByteArray := prog_1_method_25_code
def yX9_ratio : MethodName := ⟨RX9, "ratio", "(III)J"⟩
abbrev cX9_isChoice : ByteArray := prog_1_method_26_code
def yX9_isChoice : MethodName := ⟨RX9, "isChoice", "(II)Z"⟩
abbrev cX9_compare : ByteArray := prog_1_method_27_code
def yX9_compare : MethodName := ⟨RX9, "compare", "(III)I"⟩
abbrev cX9_reduce : ByteArray := prog_1_method_28_code
def yX9_reduce : MethodName := ⟨RX9, "reduce", "(II)J"⟩
abbrev cX9_add : ByteArray := prog_1_method_29_code
def yX9_add : MethodName := ⟨RX9, "add", "(III)I"⟩
abbrev cX9_fractionFault : ByteArray := prog_1_method_30_code
def yX9_fractionFault : MethodName := ⟨RX9, "fractionFault", "(III)I"⟩
abbrev cX9_feed : ByteArray := prog_1_method_31_code
def yX9_feed : MethodName := ⟨RX9, "feed", "(II)I"⟩
abbrev cX9_wipe : ByteArray := prog_1_method_32_code
def yX9_wipe : MethodName := ⟨RX9, "wipe", "()I"⟩
abbrev cX9_text : ByteArray := prog_1_method_33_code
def yX9_text : MethodName := ⟨RX9, "text", "()I"⟩
abbrev cX9_sheet : ByteArray := prog_1_method_34_code
def yX9_sheet : MethodName := ⟨RX9, "sheet", "(III)I"⟩
abbrev cX9_write : ByteArray := prog_1_method_35_code
def yX9_write : MethodName := ⟨RX9, "write", "(IIJ)I"⟩
abbrev cX9_read : ByteArray := prog_1_method_36_code
def yX9_read : MethodName := ⟨RX9, "read", "(II)J"⟩
abbrev cX9_copy : ByteArray := prog_1_method_37_code
def yX9_copy : MethodName := ⟨RX9, "copy", "(IIIII)I"⟩
abbrev cX9_lays : ByteArray := prog_1_method_38_code
def yX9_lays : MethodName := ⟨RX9, "lays", "(I)I"⟩
abbrev cX9_sheetFault : ByteArray := prog_1_method_39_code
def yX9_sheetFault : MethodName := ⟨RX9, "sheetFault", "(I)I"⟩
abbrev cX9_numberFault : ByteArray := prog_1_method_40_code
def yX9_numberFault : MethodName := ⟨RX9, "numberFault", "(II)I"⟩
abbrev cX9_image : ByteArray := prog_1_method_41_code
def yX9_image : MethodName := ⟨RX9, "image", "()I"⟩
abbrev cX9_undo : ByteArray := prog_1_method_42_code
def yX9_undo : MethodName := ⟨RX9, "undo", "()I"⟩
abbrev cX9_tear : ByteArray := prog_1_method_43_code
def yX9_tear : MethodName := ⟨RX9, "tear", "()I"⟩
abbrev cX9_count : ByteArray := prog_1_method_44_code
def yX9_count : MethodName := ⟨RX9, "count", "(I)I"⟩
abbrev cX9_status : ByteArray := prog_1_method_45_code
def yX9_status : MethodName := ⟨RX9, "status", "(I)I"⟩
abbrev cX9_finding : ByteArray := prog_1_method_46_code
def yX9_finding : MethodName := ⟨RX9, "finding", "(I)I"⟩
abbrev cX9_longFinding : ByteArray := prog_1_method_47_code
def yX9_longFinding : MethodName := ⟨RX9, "longFinding", "(I)J"⟩
abbrev cX9_put : ByteArray := prog_1_method_48_code
def yX9_put : MethodName := ⟨RX9, "put", "([III)I"⟩
abbrev cX9_within : ByteArray := prog_1_method_49_code
def yX9_within : MethodName := ⟨RX9, "within", "(III)Z"⟩
abbrev cX9_isKind : ByteArray := prog_1_method_50_code
def yX9_isKind : MethodName := ⟨RX9, "isKind", "(I)Z"⟩
abbrev cX9_isGain : ByteArray := prog_1_method_51_code
def yX9_isGain : MethodName := ⟨RX9, "isGain", "(I)Z"⟩
abbrev cX9_isTime : ByteArray := prog_1_method_52_code
def yX9_isTime : MethodName := ⟨RX9, "isTime", "(I)Z"⟩
abbrev cX9_isUnder : ByteArray := prog_1_method_53_code
def yX9_isUnder : MethodName := ⟨RX9, "isUnder", "(II)Z"⟩
abbrev cX9_brings : ByteArray := prog_1_method_54_code
def yX9_brings : MethodName := ⟨RX9, "brings", "(III)I"⟩
abbrev cX9_lasts : ByteArray := prog_1_method_55_code
def yX9_lasts : MethodName := ⟨RX9, "lasts", "(III)I"⟩
abbrev cX9_productFits : ByteArray := prog_1_method_56_code
def yX9_productFits : MethodName := ⟨RX9, "productFits", "(JJ)Z"⟩
abbrev cX9_sumFits : ByteArray := prog_1_method_57_code
def yX9_sumFits : MethodName := ⟨RX9, "sumFits", "(JJ)Z"⟩
abbrev cX9_sharedBelowZero : ByteArray := prog_1_method_58_code
def yX9_sharedBelowZero : MethodName := ⟨RX9, "sharedBelowZero", "(JJ)J"⟩
abbrev cX9_lowest : ByteArray := prog_1_method_59_code
def yX9_lowest : MethodName := ⟨RX9, "lowest", "(JJI)J"⟩
def RX10 : String := "RoundsPerHourModel"
def TX10 : u_T := fun k => match k with
  | 0 => ("RoundsPerHourModel", "found", "[I", true)
  | 1 => ("RoundsPerHourModel", "places", "I", false)
  | 2 => ("RoundsPerHourModel", "weather", "I", false)
  | 3 => ("RoundsPerHourModel", "ways", "I", false)
  | 4 => ("RoundsPerHourModel", "way", "[I", true)
  | 5 => ("RoundsPerHourModel", "things", "I", false)
  | 6 => ("RoundsPerHourModel", "thing", "[I", true)
  | 7 => ("RoundsPerHourModel", "base", "[I", true)
  | 8 => ("RoundsPerHourModel", "open", "I", false)
  | 9 => ("RoundsPerHourModel", "must", "I", false)
  | 10 => ("RoundsPerHourModel", "isAny", "Z", false)
  | 11 => ("RoundsPerHourModel", "topAbove", "J", false)
  | 12 => ("RoundsPerHourModel", "topBelow", "J", false)
  | 13 => ("RoundsPerHourModel", "topWays", "I", false)
  | 14 => ("RoundsPerHourModel", "lifted", "[J", true)
  | 15 => ("RoundsPerHourModel", "hasRoom", "Z", false)
  | 16 => ("RoundsPerHourModel", "sort", "I", false)
  | 17 => ("RoundsPerHourModel", "goesFrom", "I", false)
  | 18 => ("RoundsPerHourModel", "goesTo", "I", false)
  | 19 => ("RoundsPerHourModel", "many", "I", false)
  | 20 => ("RoundsPerHourModel", "bitsOf", "[I", true)
  | 21 => ("RoundsPerHourModel", "sizeOf", "[I", true)
  | 22 => ("RoundsPerHourModel", "number", "[J", true)
  | 23 => ("RoundsPerHourModel", "moved", "[J", true)
  | 24 => ("RoundsPerHourModel", "tape", "[I", true)
  | 25 => ("RoundsPerHourModel", "taped", "I", false)
  | 26 => ("RoundsPerHourModel", "read", "I", false)
  | 27 => ("RoundsPerHourModel", "began", "I", false)
  | 28 => ("RoundsPerHourModel", "token", "I", false)
  | 29 => ("RoundsPerHourModel", "value", "I", false)
  | 30 => ("RoundsPerHourModel", "last", "I", false)
  | 31 => ("RoundsPerHourModel", "words", "[C", true)
  | 32 => ("RoundsPerHourModel", "toldGain", "I", false)
  | 33 => ("RoundsPerHourModel", "toldTime", "I", false)
  | 34 => ("RoundsPerHourModel", "kept", "[I", true)
  | _ => ("RoundsPerHourModel", "isKept", "Z", false)
def tyX10 : Nat → FieldType := fun k => match k with
  | 0 => .array .int
  | 1 => .int
  | 2 => .int
  | 3 => .int
  | 4 => .array .int
  | 5 => .int
  | 6 => .array .int
  | 7 => .array .int
  | 8 => .int
  | 9 => .int
  | 10 => .boolean
  | 11 => .long
  | 12 => .long
  | 13 => .int
  | 14 => .array .long
  | 15 => .boolean
  | 16 => .int
  | 17 => .int
  | 18 => .int
  | 19 => .int
  | 20 => .array .int
  | 21 => .array .int
  | 22 => .array .long
  | 23 => .array .long
  | 24 => .array .int
  | 25 => .int
  | 26 => .int
  | 27 => .int
  | 28 => .int
  | 29 => .int
  | 30 => .int
  | 31 => .array .char
  | 32 => .int
  | 33 => .int
  | 34 => .array .int
  | _ => .boolean
abbrev wsX100 : List Cond := u_ws RX10 TX10 36
theorem nmX10 : ∀ a, a < 36 → ∀ b, b < 36 → a ≠ b → (TX10 a).2.1 ≠ (TX10 b).2.1 := by decide +kernel
theorem tyX10_ok : ∀ k, k < 36 → parseFieldDescriptor (TX10 k).2.2.1 = some (tyX10 k) := by decide +kernel
abbrev cX10_init : ByteArray := prog_12_method_1_code
def yX10_init : MethodName := ⟨RX10, "<init>", "()V"⟩
abbrev cX10_in : ByteArray := prog_12_method_3_code
def yX10_in : MethodName := ⟨RX10, "in", "(JJJ)Z"⟩
abbrev cX10_finds : ByteArray := prog_12_method_4_code
def yX10_finds : MethodName := ⟨RX10, "finds", "(I)I"⟩
abbrev cX10_farFinds : ByteArray := prog_12_method_5_code
def yX10_farFinds : MethodName := ⟨RX10, "farFinds", "(I)J"⟩
abbrev cX10_at : ByteArray := prog_12_method_6_code
def yX10_at : MethodName := ⟨RX10, "at", "(II)I"⟩
abbrev cX10_isPlace : ByteArray := prog_12_method_7_code
def yX10_isPlace : MethodName := ⟨RX10, "isPlace", "(I)Z"⟩
abbrev cX10_isWay : ByteArray := prog_12_method_8_code
def yX10_isWay : MethodName := ⟨RX10, "isWay", "(I)Z"⟩
abbrev cX10_isGain : ByteArray := prog_12_method_9_code
def yX10_isGain : MethodName := ⟨RX10, "isGain", "(J)Z"⟩
abbrev cX10_isTime : ByteArray := prog_12_method_10_code
def yX10_isTime : MethodName := ⟨RX10, "isTime", "(I)Z"⟩
abbrev cX10_brings : ByteArray := prog_12_method_11_code
def yX10_brings : MethodName := ⟨RX10, "brings", "(I)I"⟩
abbrev cX10_lasts : ByteArray := prog_12_method_12_code
def yX10_lasts : MethodName := ⟨RX10, "lasts", "(I)I"⟩
abbrev cX10_places : ByteArray := prog_12_method_13_code
def yX10_places : MethodName := ⟨RX10, "places", "(I)I"⟩
abbrev cX10_weather : ByteArray := prog_12_method_14_code
def yX10_weather : MethodName := ⟨RX10, "weather", "(I)I"⟩
abbrev cX10_addWay : ByteArray := prog_12_method_15_code
def yX10_addWay : MethodName := ⟨RX10, "addWay", "(IIIII)V"⟩
abbrev cX10_way : ByteArray := prog_12_method_16_code
def yX10_way : MethodName := ⟨RX10, "way", "(IIIII)I"⟩
abbrev cX10_of : ByteArray := prog_12_method_17_code
def yX10_of : MethodName := ⟨RX10, "of", "(II)I"⟩
abbrev cX10_mayBe : ByteArray := prog_12_method_18_code
def yX10_mayBe : MethodName := ⟨RX10, "mayBe", "(III)Z"⟩
abbrev cX10_change : ByteArray := prog_12_method_19_code
def yX10_change : MethodName := ⟨RX10, "change", "(III)I"⟩
abbrev cX10_as : ByteArray := prog_12_method_20_code
def yX10_as : MethodName := ⟨RX10, "as", "(II)I"⟩
abbrev cX10_thing : ByteArray := prog_12_method_21_code
def yX10_thing : MethodName := ⟨RX10, "thing", "(II)I"⟩
abbrev cX10_isThing : ByteArray := prog_12_method_22_code
def yX10_isThing : MethodName := ⟨RX10, "isThing", "(I)Z"⟩
abbrev cX10_alter : ByteArray := prog_12_method_23_code
def yX10_alter : MethodName := ⟨RX10, "alter", "(III)I"⟩
abbrev cX10_its : ByteArray := prog_12_method_24_code
def yX10_its : MethodName := ⟨RX10, "its", "(II)I"⟩
abbrev cX10_common : ByteArray := prog_12_method_25_code
def yX10_common : MethodName := ⟨RX10, "common", "(JJ)J"⟩
abbrev cX10_lowest : ByteArray := prog_12_method_26_code
def yX10_lowest : MethodName := ⟨RX10, "lowest", "(JJI)J"⟩
abbrev cX10_openWays : ByteArray := prog_12_method_27_code
def yX10_openWays : MethodName := ⟨RX10, "openWays", "()I"⟩
abbrev cX10_closes : ByteArray := prog_12_method_28_code
def yX10_closes : MethodName := ⟨RX10, "closes", "(IJJ)V"⟩
abbrev cX10_goesRound : ByteArray := prog_12_method_29_code
def yX10_goesRound : MethodName := ⟨RX10, "goesRound", "(IIIIJJ)V"⟩
abbrev cX10_rings : ByteArray := prog_12_method_30_code
def yX10_rings : MethodName := ⟨RX10, "rings", "(II)Z"⟩
abbrev cX10_ringsNow : ByteArray := prog_12_method_31_code
def yX10_ringsNow : MethodName := ⟨RX10, "ringsNow", "()Z"⟩
abbrev cX10_ring : ByteArray := prog_12_method_32_code
def yX10_ring : MethodName := ⟨RX10, "ring", "(I)J"⟩
abbrev cX10_ringWays : ByteArray := prog_12_method_33_code
def yX10_ringWays : MethodName := ⟨RX10, "ringWays", "()I"⟩
abbrev cX10_lifts : ByteArray := prog_12_method_34_code
def yX10_lifts : MethodName := ⟨RX10, "lifts", "(JJ)Z"⟩
abbrev cX10_lift : ByteArray := prog_12_method_35_code
def yX10_lift : MethodName := ⟨RX10, "lift", "(II)J"⟩
abbrev cX10_product : ByteArray := prog_12_method_36_code
def yX10_product : MethodName := ⟨RX10, "product", "(JJ)J"⟩
abbrev cX10_sum : ByteArray := prog_12_method_37_code
def yX10_sum : MethodName := ⟨RX10, "sum", "(JJ)J"⟩
abbrev cX10_worth : ByteArray := prog_12_method_38_code
def yX10_worth : MethodName := ⟨RX10, "worth", "(J)J"⟩
abbrev cX10_isRaised : ByteArray := prog_12_method_39_code
def yX10_isRaised : MethodName := ⟨RX10, "isRaised", "(IIIJJ)Z"⟩
abbrev cX10_raised : ByteArray := prog_12_method_40_code
def yX10_raised : MethodName := ⟨RX10, "raised", "(I)I"⟩
abbrev cX10_raise : ByteArray := prog_12_method_41_code
def yX10_raise : MethodName := ⟨RX10, "raise", "(I)I"⟩
abbrev cX10_lose : ByteArray := prog_12_method_42_code
def yX10_lose : MethodName := ⟨RX10, "lose", "()I"⟩
abbrev cX10_kind : ByteArray := prog_12_method_43_code
def yX10_kind : MethodName := ⟨RX10, "kind", "(I)I"⟩
abbrev cX10_season : ByteArray := prog_12_method_44_code
def yX10_season : MethodName := ⟨RX10, "season", "()I"⟩
abbrev cX10_bits : ByteArray := prog_12_method_45_code
def yX10_bits : MethodName := ⟨RX10, "bits", "(I)I"⟩
abbrev cX10_wayFrom : ByteArray := prog_12_method_46_code
def yX10_wayFrom : MethodName := ⟨RX10, "wayFrom", "(II)I"⟩
abbrev cX10_isRound : ByteArray := prog_12_method_47_code
def yX10_isRound : MethodName := ⟨RX10, "isRound", "(I)Z"⟩
abbrev cX10_joinsAll : ByteArray := prog_12_method_48_code
def yX10_joinsAll : MethodName := ⟨RX10, "joinsAll", "(I)Z"⟩
abbrev cX10_rises : ByteArray := prog_12_method_49_code
def yX10_rises : MethodName := ⟨RX10, "rises", "(I)Z"⟩
abbrev cX10_isChoice : ByteArray := prog_12_method_50_code
def yX10_isChoice : MethodName := ⟨RX10, "isChoice", "(I)Z"⟩
abbrev cX10_aboveOf : ByteArray := prog_12_method_51_code
def yX10_aboveOf : MethodName := ⟨RX10, "aboveOf", "(I)J"⟩
abbrev cX10_belowOf : ByteArray := prog_12_method_52_code
def yX10_belowOf : MethodName := ⟨RX10, "belowOf", "(I)J"⟩
abbrev cX10_allSets : ByteArray := prog_12_method_53_code
def yX10_allSets : MethodName := ⟨RX10, "allSets", "()I"⟩
abbrev cX10_leastChoice : ByteArray := prog_12_method_54_code
def yX10_leastChoice : MethodName := ⟨RX10, "leastChoice", "()I"⟩
abbrev cX10_nextChoice : ByteArray := prog_12_method_55_code
def yX10_nextChoice : MethodName := ⟨RX10, "nextChoice", "(JJ)I"⟩
abbrev cX10_leastLike : ByteArray := prog_12_method_56_code
def yX10_leastLike : MethodName := ⟨RX10, "leastLike", "(JJ)I"⟩
abbrev cX10_climbed : ByteArray := prog_12_method_57_code
def yX10_climbed : MethodName := ⟨RX10, "climbed", "(II)J"⟩
abbrev cX10_told : ByteArray := prog_12_method_58_code
def yX10_told : MethodName := ⟨RX10, "told", "(I)J"⟩
abbrev cX10_tree : ByteArray := prog_12_method_59_code
def yX10_tree : MethodName := ⟨RX10, "tree", "(I)J"⟩
abbrev cX10_walk : ByteArray := prog_12_method_60_code
def yX10_walk : MethodName := ⟨RX10, "walk", "(III)J"⟩
abbrev cX10_load : ByteArray := prog_12_method_61_code
def yX10_load : MethodName := ⟨RX10, "load", "(II)J"⟩
abbrev cX10_ratio : ByteArray := prog_12_method_62_code
def yX10_ratio : MethodName := ⟨RX10, "ratio", "(III)J"⟩
abbrev cX10_isSheet : ByteArray := prog_12_method_63_code
def yX10_isSheet : MethodName := ⟨RX10, "isSheet", "(I)Z"⟩
abbrev cX10_narrow : ByteArray := prog_12_method_64_code
def yX10_narrow : MethodName := ⟨RX10, "narrow", "(IJ)J"⟩
abbrev cX10_wrong : ByteArray := prog_12_method_65_code
def yX10_wrong : MethodName := ⟨RX10, "wrong", "(III)I"⟩
abbrev cX10_compare : ByteArray := prog_12_method_66_code
def yX10_compare : MethodName := ⟨RX10, "compare", "(III)I"⟩
abbrev cX10_reduce : ByteArray := prog_12_method_67_code
def yX10_reduce : MethodName := ⟨RX10, "reduce", "(II)J"⟩
abbrev cX10_add : ByteArray := prog_12_method_68_code
def yX10_add : MethodName := ⟨RX10, "add", "(III)I"⟩
abbrev cX10_feed : ByteArray := prog_12_method_69_code
def yX10_feed : MethodName := ⟨RX10, "feed", "(II)I"⟩
abbrev cX10_wipe : ByteArray := prog_12_method_70_code
def yX10_wipe : MethodName := ⟨RX10, "wipe", "()I"⟩
abbrev cX10_byteAt : ByteArray := prog_12_method_71_code
def yX10_byteAt : MethodName := ⟨RX10, "byteAt", "(I)I"⟩
abbrev cX10_isWordFrom : ByteArray := prog_12_method_72_code
def yX10_isWordFrom : MethodName := ⟨RX10, "isWordFrom", "(I)Z"⟩
abbrev cX10_next : ByteArray := prog_12_method_73_code
def yX10_next : MethodName := ⟨RX10, "next", "()V"⟩
abbrev cX10_isWord : ByteArray := prog_12_method_74_code
def yX10_isWord : MethodName := ⟨RX10, "isWord", "(I)Z"⟩
abbrev cX10_takesNumber : ByteArray := prog_12_method_75_code
def yX10_takesNumber : MethodName := ⟨RX10, "takesNumber", "(II)Z"⟩
abbrev cX10_readsGainAndTime : ByteArray := prog_12_method_76_code
def yX10_readsGainAndTime : MethodName := ⟨RX10, "readsGainAndTime", "()Z"⟩
abbrev cX10_readsWay : ByteArray := prog_12_method_77_code
def yX10_readsWay : MethodName := ⟨RX10, "readsWay", "(I)Z"⟩
abbrev cX10_readsThing : ByteArray := prog_12_method_78_code
def yX10_readsThing : MethodName := ⟨RX10, "readsThing", "()Z"⟩
abbrev cX10_readsItem : ByteArray := prog_12_method_79_code
def yX10_readsItem : MethodName := ⟨RX10, "readsItem", "()Z"⟩
abbrev cX10_text : ByteArray := prog_12_method_80_code
def yX10_text : MethodName := ⟨RX10, "text", "()I"⟩
abbrev cX10_sheet : ByteArray := prog_12_method_81_code
def yX10_sheet : MethodName := ⟨RX10, "sheet", "(III)I"⟩
abbrev cX10_lacks : ByteArray := prog_12_method_82_code
def yX10_lacks : MethodName := ⟨RX10, "lacks", "(II)I"⟩
abbrev cX10_write : ByteArray := prog_12_method_83_code
def yX10_write : MethodName := ⟨RX10, "write", "(IIJ)I"⟩
abbrev cX10_read : ByteArray := prog_12_method_84_code
def yX10_read : MethodName := ⟨RX10, "read", "(II)J"⟩
abbrev cX10_copy : ByteArray := prog_12_method_85_code
def yX10_copy : MethodName := ⟨RX10, "copy", "(IIIII)I"⟩
abbrev cX10_lays : ByteArray := prog_12_method_86_code
def yX10_lays : MethodName := ⟨RX10, "lays", "(I)I"⟩
abbrev cX10_image : ByteArray := prog_12_method_87_code
def yX10_image : MethodName := ⟨RX10, "image", "()I"⟩
abbrev cX10_undo : ByteArray := prog_12_method_88_code
def yX10_undo : MethodName := ⟨RX10, "undo", "()I"⟩
abbrev cX10_tear : ByteArray := prog_12_method_89_code
def yX10_tear : MethodName := ⟨RX10, "tear", "()I"⟩
abbrev cX10_count : ByteArray := prog_12_method_90_code
def yX10_count : MethodName := ⟨RX10, "count", "(I)I"⟩
abbrev cX10_status : ByteArray := prog_12_method_91_code
def yX10_status : MethodName := ⟨RX10, "status", "(I)I"⟩
def RJ6 : String := "java/lang/Integer"
def TJ6 : u_T := fun k => match k with
  | _ => ("", "", "", false)
def tyJ6 : Nat → FieldType := fun k => match k with
  | _ => .int
abbrev wsJ60 : List Cond := u_ws RJ6 TJ6 0
theorem nmJ6 : ∀ a, a < 0 → ∀ b, b < 0 → a ≠ b → (TJ6 a).2.1 ≠ (TJ6 b).2.1 := by decide +kernel
theorem tyJ6_ok : ∀ k, k < 0 → parseFieldDescriptor (TJ6 k).2.2.1 = some (tyJ6 k) := by decide +kernel
abbrev cJ6_bitCount_0f7a4 : ByteArray := prog_13_method_49_code
def yJ6_bitCount_0f7a4 : MethodName := ⟨RJ6, "bitCount", "(I)I"⟩
def RJ13 : String := "java/lang/Long"
def TJ13 : u_T := fun k => match k with
  | _ => ("", "", "", false)
def tyJ13 : Nat → FieldType := fun k => match k with
  | _ => .int
abbrev wsJ130 : List Cond := u_ws RJ13 TJ13 0
theorem nmJ13 : ∀ a, a < 0 → ∀ b, b < 0 → a ≠ b → (TJ13 a).2.1 ≠ (TJ13 b).2.1 := by decide +kernel
theorem tyJ13_ok : ∀ k, k < 0 → parseFieldDescriptor (TJ13 k).2.2.1 = some (tyJ13 k) := by decide +kernel
abbrev cJ13_compare_74951 : ByteArray := prog_14_method_42_code
def yJ13_compare_74951 : MethodName := ⟨RJ13, "compare", "(JJ)I"⟩
def RJ9 : String := "java/lang/Math"
def TJ9 : u_T := fun k => match k with
  | _ => ("", "", "", false)
def tyJ9 : Nat → FieldType := fun k => match k with
  | _ => .int
abbrev wsJ90 : List Cond := u_ws RJ9 TJ9 0
theorem nmJ9 : ∀ a, a < 0 → ∀ b, b < 0 → a ≠ b → (TJ9 a).2.1 ≠ (TJ9 b).2.1 := by decide +kernel
theorem tyJ9_ok : ∀ k, k < 0 → parseFieldDescriptor (TJ9 k).2.2.1 = some (tyJ9 k) := by decide +kernel
abbrev cJ9_floorDiv_f86c9 : ByteArray := prog_15_method_49_code
def yJ9_floorDiv_f86c9 : MethodName := ⟨RJ9, "floorDiv", "(JJ)J"⟩
abbrev cJ9_max_f86c9 : ByteArray := prog_15_method_66_code
def yJ9_max_f86c9 : MethodName := ⟨RJ9, "max", "(JJ)J"⟩
abbrev cJ9_min_7cf53 : ByteArray := prog_15_method_69_code
def yJ9_min_7cf53 : MethodName := ⟨RJ9, "min", "(II)I"⟩
abbrev cJ9_min_f86c9 : ByteArray := prog_15_method_70_code
def yJ9_min_f86c9 : MethodName := ⟨RJ9, "min", "(JJ)J"⟩
def RJ0 : String := "java/lang/String"
def TJ0 : u_T := fun k => match k with
  | _ => ("", "", "", false)
def tyJ0 : Nat → FieldType := fun k => match k with
  | _ => .int
abbrev wsJ00 : List Cond := u_ws RJ0 TJ0 0
theorem nmJ0 : ∀ a, a < 0 → ∀ b, b < 0 → a ≠ b → (TJ0 a).2.1 ≠ (TJ0 b).2.1 := by decide +kernel
theorem tyJ0_ok : ∀ k, k < 0 → parseFieldDescriptor (TJ0 k).2.2.1 = some (tyJ0 k) := by decide +kernel
abbrev cJ0_length_8abf5 : ByteArray := prog_16_method_54_code
def yJ0_length_8abf5 : MethodName := ⟨RJ0, "length", "()I"⟩
abbrev cJ0_charAt_5068e : ByteArray := prog_16_method_56_code
def yJ0_charAt_5068e : MethodName := ⟨RJ0, "charAt", "(I)C"⟩
abbrev cJ0_coder_7d493 : ByteArray := prog_16_method_152_code
def yJ0_coder_7d493 : MethodName := ⟨RJ0, "coder", "()B"⟩
abbrev cJ0_isLatin1_aae02 : ByteArray := prog_16_method_154_code
def yJ0_isLatin1_aae02 : MethodName := ⟨RJ0, "isLatin1", "()Z"⟩
abbrev cJ0_checkIndex_df160 : ByteArray := prog_16_method_155_code
def yJ0_checkIndex_df160 : MethodName := ⟨RJ0, "checkIndex", "(II)V"⟩
def RJ1 : String := "java/lang/StringLatin1"
def TJ1 : u_T := fun k => match k with
  | _ => ("", "", "", false)
def tyJ1 : Nat → FieldType := fun k => match k with
  | _ => .int
abbrev wsJ10 : List Cond := u_ws RJ1 TJ1 0
theorem nmJ1 : ∀ a, a < 0 → ∀ b, b < 0 → a ≠ b → (TJ1 a).2.1 ≠ (TJ1 b).2.1 := by decide +kernel
theorem tyJ1_ok : ∀ k, k < 0 → parseFieldDescriptor (TJ1 k).2.2.1 = some (tyJ1 k) := by decide +kernel
abbrev cJ1_charAt_3b067 : ByteArray := prog_17_method_2_code
def yJ1_charAt_3b067 : MethodName := ⟨RJ1, "charAt", "([BI)C"⟩
def RJ2 : String := "java/lang/StringUTF16"
def TJ2 : u_T := fun k => match k with
  | _ => ("", "", "", false)
def tyJ2 : Nat → FieldType := fun k => match k with
  | _ => .int
abbrev wsJ20 : List Cond := u_ws RJ2 TJ2 0
theorem nmJ2 : ∀ a, a < 0 → ∀ b, b < 0 → a ≠ b → (TJ2 a).2.1 ≠ (TJ2 b).2.1 := by decide +kernel
theorem tyJ2_ok : ∀ k, k < 0 → parseFieldDescriptor (TJ2 k).2.2.1 = some (tyJ2 k) := by decide +kernel
abbrev cJ2_getChar_3b067 : ByteArray := prog_18_method_5_code
def yJ2_getChar_3b067 : MethodName := ⟨RJ2, "getChar", "([BI)C"⟩
abbrev cJ2_length_9d52b : ByteArray := prog_18_method_6_code
def yJ2_length_9d52b : MethodName := ⟨RJ2, "length", "([B)I"⟩
abbrev cJ2_charAt_3b067 : ByteArray := prog_18_method_83_code
def yJ2_charAt_3b067 : MethodName := ⟨RJ2, "charAt", "([BI)C"⟩
abbrev cJ2_checkIndex_2214a : ByteArray := prog_18_method_91_code
def yJ2_checkIndex_2214a : MethodName := ⟨RJ2, "checkIndex", "(I[B)V"⟩
def RJ10 : String := "java/lang/System"
def TJ10 : u_T := fun k => match k with
  | _ => ("", "", "", false)
def tyJ10 : Nat → FieldType := fun k => match k with
  | _ => .int
abbrev wsJ100 : List Cond := u_ws RJ10 TJ10 0
theorem nmJ10 : ∀ a, a < 0 → ∀ b, b < 0 → a ≠ b → (TJ10 a).2.1 ≠ (TJ10 b).2.1 := by decide +kernel
theorem tyJ10_ok : ∀ k, k < 0 → parseFieldDescriptor (TJ10 k).2.2.1 = some (tyJ10 k) := by decide +kernel
def RJ3 : String := "jdk/internal/util/Preconditions"
def TJ3 : u_T := fun k => match k with
  | _ => ("", "", "", false)
def tyJ3 : Nat → FieldType := fun k => match k with
  | _ => .int
abbrev wsJ30 : List Cond := u_ws RJ3 TJ3 0
theorem nmJ3 : ∀ a, a < 0 → ∀ b, b < 0 → a ≠ b → (TJ3 a).2.1 ≠ (TJ3 b).2.1 := by decide +kernel
theorem tyJ3_ok : ∀ k, k < 0 → parseFieldDescriptor (TJ3 k).2.2.1 = some (tyJ3 k) := by decide +kernel
abbrev cJ3_checkIndex_8e157 : ByteArray := prog_20_method_11_code
def yJ3_checkIndex_8e157 : MethodName := ⟨RJ3, "checkIndex", "(IILjava/util/function/BiFunction;)I"⟩
def RL : String := "RoundsPerHourLaw"
abbrev cL_law : ByteArray := code
def yL_law : MethodName := ⟨RL, "law", "([I)Z"⟩
abbrev vwCl : List vw_C := [(RX1, TX1, 12), (RX2, TX2, 1), (RX3, TX3, 11), (RX4, TX4, 13), (RX5, TX5, 3), (RX6, TX6, 9), (RX7, TX7, 12), (RX8, TX8, 15), (RX9, TX9, 12), (RX10, TX10, 36)]
end
section
/-! ===== the words of the tables that every method keeps ===== -/
def mWT : List Cond := lw_tbl.filter goodWord
theorem mwt {w : Cond} (h : w ∈ lw_tbl) (g : goodWord w = true) : w ∈ mWT := List.mem_filter.mpr ⟨h, g⟩
theorem mwt_g {w : Cond} (h : w ∈ mWT) : (w.onTables && w.keeps) = true ∨ ∃ ty, w = .arrayClass ty := good_of_word (List.mem_filter.mp h).2
theorem mwt_in {w : Cond} (h : w ∈ mWT) : w ∈ lw_tbl := (List.mem_filter.mp h).1
theorem mwt_good {ws : List Cond} (h : ∀ w ∈ ws, w ∈ mWT) : GoodIn mWT ws := fun w hw => ⟨h w hw, mwt_g (h w hw)⟩
theorem mwt_cons {w0 : Cond} (h : w0 ∈ mWT) : ∀ w ∈ w0 :: mWT, w ∈ mWT := fun w hw => (List.mem_cons.mp hw).elim (fun e => e ▸ h) id
theorem mt_0 {w : Cond} (h : w ∈ k2_sels lw_privs) (g : goodWord w = true) : w ∈ mWT := mwt (List.mem_append_left _ h) g
theorem mt_1 {w : Cond} (h : w ∈ tables_1_1) (g : goodWord w = true) : w ∈ mWT := mwt (List.mem_append_right _ (List.mem_append_left _ h)) g
theorem mt_2 {w : Cond} (h : w ∈ tables_1_2) (g : goodWord w = true) : w ∈ mWT := mwt (List.mem_append_right _ (List.mem_append_right _ (List.mem_append_left _ h))) g
theorem mt_3 {w : Cond} (h : w ∈ tables_1_3) (g : goodWord w = true) : w ∈ mWT := mwt (List.mem_append_right _ (List.mem_append_right _ (List.mem_append_right _ (List.mem_append_left _ h)))) g
theorem mt_4 {w : Cond} (h : w ∈ tables_1_4) (g : goodWord w = true) : w ∈ mWT := mwt (List.mem_append_right _ (List.mem_append_right _ (List.mem_append_right _ (List.mem_append_right _ (List.mem_append_left _ h))))) g
theorem mt_5 {w : Cond} (h : w ∈ tables_1_5) (g : goodWord w = true) : w ∈ mWT := mwt (List.mem_append_right _ (List.mem_append_right _ (List.mem_append_right _ (List.mem_append_right _ (List.mem_append_right _ (List.mem_append_left _ h)))))) g
theorem mt_6 {w : Cond} (h : w ∈ tables_1_6) (g : goodWord w = true) : w ∈ mWT := mwt (List.mem_append_right _ (List.mem_append_right _ (List.mem_append_right _ (List.mem_append_right _ (List.mem_append_right _ (List.mem_append_right _ (List.mem_append_left _ h))))))) g
theorem mt_7 {w : Cond} (h : w ∈ tables_1_7) (g : goodWord w = true) : w ∈ mWT := mwt (List.mem_append_right _ (List.mem_append_right _ (List.mem_append_right _ (List.mem_append_right _ (List.mem_append_right _ (List.mem_append_right _ (List.mem_append_right _ h))))))) g
theorem mt_s {w : Cond} (q : MethodName × Nat) (h : q ∈ lw_privs) (e : Cond.selects q.1.cls q.1 q.1 = w) (g : goodWord w = true) : w ∈ mWT := mt_0 (List.mem_map.mpr ⟨q, h, e⟩) g
theorem ml_1 {q : MethodName × Nat} (h : q ∈ lw_privs_1) : q ∈ lw_privs := List.mem_append_left _ h
theorem ml_2 {q : MethodName × Nat} (h : q ∈ lw_privs_2) : q ∈ lw_privs := List.mem_append_right _ (List.mem_append_left _ h)
theorem ml_3 {q : MethodName × Nat} (h : q ∈ lw_privs_3) : q ∈ lw_privs := List.mem_append_right _ (List.mem_append_right _ (List.mem_append_left _ h))
theorem ml_4 {q : MethodName × Nat} (h : q ∈ lw_privs_4) : q ∈ lw_privs := List.mem_append_right _ (List.mem_append_right _ (List.mem_append_right _ (List.mem_append_left _ h)))
theorem ml_5 {q : MethodName × Nat} (h : q ∈ lw_privs_5) : q ∈ lw_privs := List.mem_append_right _ (List.mem_append_right _ (List.mem_append_right _ (List.mem_append_right _ h)))
end
section
/-! ===== the cells of the system, in the order in which they are made; what is given from the start ===== -/
/-- the shape of a cell: an array (its type: 0 int, 1 long, 2 boolean, 3 char, 4 sheets; its length) or an object (its class) -/
def mshp (k : Nat) : (Nat × Nat) ⊕ Nat := match k with
  | 0 => .inr 8
  | 1 => .inr 0 | 2 => .inl (0, 14) | 3 => .inl (0, 14) | 4 => .inl (0, 14) | 5 => .inl (0, 14) | 6 => .inl (0, 14) | 7 => .inl (0, 14) | 8 => .inl (0, 13) | 9 => .inl (0, 13)
  | 10 => .inr 0 | 11 => .inl (0, 14) | 12 => .inl (0, 14) | 13 => .inl (0, 14) | 14 => .inl (0, 14) | 15 => .inl (0, 14) | 16 => .inl (0, 14) | 17 => .inl (0, 13) | 18 => .inl (0, 13)
  | 19 => .inr 0 | 20 => .inl (0, 14) | 21 => .inl (0, 14) | 22 => .inl (0, 14) | 23 => .inl (0, 14) | 24 => .inl (0, 14) | 25 => .inl (0, 14) | 26 => .inl (0, 13) | 27 => .inl (0, 13)
  | 28 => .inr 3 | 29 => .inl (0, 1296) | 30 => .inl (1, 1296) | 31 => .inl (1, 1296) | 32 => .inl (1, 6) | 33 => .inl (2, 6) | 34 => .inl (0, 6) | 35 => .inl (0, 84) | 36 => .inl (0, 14) | 37 => .inl (1, 14) | 38 => .inl (1, 14)
  | 39 => .inr 6 | 40 => .inl (1, 14) | 41 => .inl (1, 14) | 42 => .inl (1, 14) | 43 => .inr 1 | 44 => .inl (0, 6)
  | 45 => .inr 7 | 46 => .inl (1, 14) | 47 => .inl (1, 14) | 48 => .inl (1, 14) | 49 => .inl (1, 6) | 50 => .inl (0, 6)
  | 51 => .inr 2 | 52 => .inl (1, 14) | 53 => .inl (1, 14) | 54 => .inl (1, 14)
  | 55 => .inr 1 | 56 => .inl (0, 6)
  | 57 => .inr 5 | 58 => .inl (0, 120)
  | 59 => .inl (4, 4) | 60 => .inl (0, 9)
  | 61 => .inr 4 | 62 => .inl (1, 40) | 63 => .inr 4 | 64 => .inl (1, 40) | 65 => .inr 4 | 66 => .inl (1, 40) | 67 => .inr 4 | 68 => .inl (1, 40)
  | 69 => .inr 9 | 70 => .inl (0, 9) | 71 => .inl (0, 84) | 72 => .inl (0, 24) | 73 => .inl (0, 2) | 74 => .inl (1, 6) | 75 => .inl (0, 4) | 76 => .inl (0, 4) | 77 => .inl (1, 160) | 78 => .inl (1, 40) | 79 => .inl (0, 120) | 80 => .inl (3, 104)
  | _ => .inl (0, 114)
/-- the links between nest mates -/
def mnl : List (String × Nat × MethodName × String) := [
  ("RoundsPerHour", 24, ⟨"RoundsPerHour$Rings", "<init>", "()V"⟩, "RoundsPerHour"),
  ("RoundsPerHour", 31, ⟨"RoundsPerHour$TreeClimb", "<init>", "()V"⟩, "RoundsPerHour"),
  ("RoundsPerHour", 38, ⟨"RoundsPerHour$WalkClimb", "<init>", "()V"⟩, "RoundsPerHour"),
  ("RoundsPerHour", 45, ⟨"RoundsPerHour$LoadClimb", "<init>", "()V"⟩, "RoundsPerHour"),
  ("RoundsPerHour", 52, ⟨"RoundsPerHour$Joins", "<init>", "()V"⟩, "RoundsPerHour"),
  ("RoundsPerHour", 59, ⟨"RoundsPerHour$Tape", "<init>", "()V"⟩, "RoundsPerHour"),
  ("RoundsPerHour", 74, ⟨"RoundsPerHour$Sheet", "<init>", "()V"⟩, "RoundsPerHour"),
  ("RoundsPerHour$Country", 40, ⟨"RoundsPerHour", "within", "(III)Z"⟩, "RoundsPerHour"),
  ("RoundsPerHour$Country", 53, ⟨"RoundsPerHour", "brings", "(III)I"⟩, "RoundsPerHour"),
  ("RoundsPerHour$Country", 57, ⟨"RoundsPerHour", "lasts", "(III)I"⟩, "RoundsPerHour"),
  ("RoundsPerHour$LoadClimb", 1, ⟨"RoundsPerHour$Climb", "<init>", "()V"⟩, "RoundsPerHour"),
  ("RoundsPerHour$Sheet", 22, ⟨"RoundsPerHour", "within", "(III)Z"⟩, "RoundsPerHour"),
  ("RoundsPerHour$Tape", 123, ⟨"RoundsPerHour", "within", "(III)Z"⟩, "RoundsPerHour"),
  ("RoundsPerHour$TreeClimb", 11, ⟨"RoundsPerHour$Joins", "<init>", "()V"⟩, "RoundsPerHour"),
  ("RoundsPerHour$TreeClimb", 3, ⟨"RoundsPerHour$Climb", "<init>", "()V"⟩, "RoundsPerHour"),
  ("RoundsPerHour$WalkClimb", 3, ⟨"RoundsPerHour$Climb", "<init>", "()V"⟩, "RoundsPerHour")]
/-- the words of texts: their places in the tape's pool, their bytes -/
def mstr : List (Nat × String × List Int32) := [
  (39, "places", [112, 108, 97, 99, 101, 115]), (48, "weather", [119, 101, 97, 116, 104, 101, 114]), (53, "thing", [116, 104, 105, 110, 103]),
  (111, "way", [119, 97, 121]), (113, "toll", [116, 111, 108, 108]), (115, "ford", [102, 111, 114, 100]), (117, "bridge", [98, 114, 105, 100, 103, 101]),
  (119, "mire", [109, 105, 114, 101]), (121, "stair", [115, 116, 97, 105, 114]), (106, "loss", [108, 111, 115, 115]), (108, "gain", [103, 97, 105, 110]), (110, "time", [116, 105, 109, 101]), (102, "shut", [115, 104, 117, 116])]
def mkab (j : Nat) : Int32 := match j with
  | 0 => -1
  | 3 => 1
  | 4 => 2
  | _ => 0
abbrev MX : Type := va_G × (Nat → ClassId) × Nat × (Nat → Nat)
/-- what lies in the heap from the start: the table of kinds, the words of texts, two statics of the JDK -/
def mST (E : MX) (U : State) : Prop :=
  va_Z "RoundsPerHour" "KIND_ABOVE" "[I" (.ref (E.2.2.2 2000)) (fun q => E.2.2.1 ≤ q) U U.heap ∧ va_T .int (E.2.2.2 2000) 6 (fun j => .int (mkab j)) (fun q => E.2.2.1 ≤ q) U U.heap ∧
  vk_S 13 (mstr.map (fun q => q.2.2.length)) (mstr.map (fun q => q.2.2)) (fun i => E.2.2.2 (1000 + i)) (fun i => E.2.2.2 (1100 + i)) (fun q => E.2.2.1 ≤ q) U U.heap ∧
  (∀ i : Nat, i < 13 → vk_R "RoundsPerHour$Tape" (mstr.getD i (0, "", [])).1 (mstr.getD i (0, "", [])).2.1 (E.2.2.2 (1000 + i)) U) ∧
  va_Z "java/lang/String" "COMPACT_STRINGS" "Z" (.int 1) (fun q => E.2.2.1 ≤ q) U U.heap ∧ (va_Z "jdk/internal/util/Preconditions" "SIOOBE_FORMATTER" "Ljava/util/function/BiFunction;" .null (fun q => E.2.2.1 ≤ q) U U.heap ∨ va_Z "jdk/internal/util/Preconditions" "SIOOBE_FORMATTER" "Ljava/util/function/BiFunction;" (.ref (E.2.2.2 2001)) (fun q => E.2.2.1 ≤ q) U U.heap)
theorem mST.warm {E : MX} {s U : State} (hW : s.WarmedH U.vm) (hq : ∀ a : Nat, a < s.heap.size → ¬ E.2.2.1 ≤ a → U.heap[a]? = s.heap[a]?) (h : mST E s) : mST E U := by
  obtain ⟨h1, h2, h3, h4, h5, h6⟩ := h
  exact ⟨(h1.moved hW.alike).kept hq, (h2.moved hW.alike).kept hq, (h3.moved hW.alike).kept hq, fun i hi => (h4 i hi).warm hW, (h5.moved hW.alike).kept hq, h6.imp (fun h => (h.moved hW.alike).kept hq) (fun h => (h.moved hW.alike).kept hq)⟩
theorem mST.same {E : MX} {s U : State} (hv : U.vm = s.vm) (hH : U.heap = s.heap) (h : mST E s) : mST E U := by
  obtain ⟨h1, h2, h3, h4, h5, h6⟩ := h
  have ha : s.vm.Alike U.vm := by rw [hv]; exact Vm.Alike.refl _
  have hq : ∀ a : Nat, a < s.heap.size → ¬ E.2.2.1 ≤ a → U.heap[a]? = s.heap[a]? := fun a _ _ => by rw [hH]
  exact ⟨(h1.moved ha).kept hq, (h2.moved ha).kept hq, (h3.moved ha).kept hq, fun i hi => (h4 i hi).same hv, (h5.moved ha).kept hq, h6.imp (fun h => (h.moved ha).kept hq) (fun h => (h.moved ha).kept hq)⟩
end
section
/-! ===== the small machine: memory by cell and place, shapes of cells, worlds ===== -/
abbrev MSt : Type := (Nat → Nat → Int32) × (Nat → Nat → Int64) × (Nat → Nat → Option Nat)
def mmI (σ : MSt) (k j : Nat) : Int32 := σ.1 k j
def mmL (σ : MSt) (k j : Nat) : Int64 := σ.2.1 k j
def mmR (σ : MSt) (k j : Nat) : Option Nat := σ.2.2 k j
def mup2 {α : Type} (f : Nat → Nat → α) (k j : Nat) (v : α) : Nat → Nat → α := fun a b => if a = k ∧ b = j then v else f a b
def muI (σ : MSt) (k j : Nat) (v : Int32) : MSt := (mup2 σ.1 k j v, σ.2)
def muL (σ : MSt) (k j : Nat) (v : Int64) : MSt := (σ.1, mup2 σ.2.1 k j v, σ.2.2)
def muR (σ : MSt) (k j : Nat) (v : Option Nat) : MSt := (σ.1, σ.2.1, mup2 σ.2.2 k j v)
def mcpI (σ : MSt) (k0 sp k1 dp n : Nat) : MSt := (fun a b => if a = k1 then va_cpy (σ.1 k0) (σ.1 k1) sp dp n b else σ.1 a b, σ.2)
def mcpL (σ : MSt) (k0 sp k1 dp n : Nat) : MSt := (σ.1, fun a b => if a = k1 then va_cpy (σ.2.1 k0) (σ.2.1 k1) sp dp n b else σ.2.1 a b, σ.2.2)
/-- a new cell: all of it is 0 -/
def mzer (σ : MSt) (k : Nat) : MSt := (fun a b => if a = k then 0 else σ.1 a b, fun a b => if a = k then 0 else σ.2.1 a b, fun a b => if a = k then none else σ.2.2 a b)
def mad (E : MX) (k : Nat) : Nat := if k < 1000 then E.2.2.1 + k else E.2.2.2 k
def mtv (E : MX) (v : Value) : Value := match v with
  | .ref k => .ref (mad E k)
  | w => w
def mtl (E : MX) (L : List (Nat × Value)) : List (Nat × Value) := L.map (fun q => (q.1, mtv E q.2))
def mfv (ty : FieldType) (σ : MSt) (k j : Nat) : Value := match ty with
  | .int => .int (mmI σ k j)
  | .boolean => .int (mmI σ k j)
  | .long => .long (mmL σ k j)
  | _ => va_rf (mmR σ k j)
def maf (E : MX) (ty : FieldType) (σ : MSt) (k j : Nat) : Value := match ty with
  | .int => .int (mmI σ k j)
  | .boolean => .int (mmI σ k j)
  | .long => .long (mmL σ k j)
  | _ => va_rf ((mmR σ k j).map (mad E))
theorem mtv_rf (E : MX) (r : Option Nat) : mtv E (va_rf r) = va_rf (r.map (mad E)) := by
  cases r <;> rfl
theorem mtv_mfv (E : MX) (ty : FieldType) (σ : MSt) (k j : Nat) : mtv E (mfv ty σ k j) = maf E ty σ k j := by
  cases ty <;> first | rfl | exact mtv_rf E _
theorem mtv_cat (E : MX) (v : Value) : (mtv E v).category = v.category := by
  cases v <;> rfl
theorem mtl_filter (E : MX) (i : Nat) (b : Bool) (L : List (Nat × Value)) : mtl E (L.filter (fun q => !(q.1 == i) && (b || !(q.1 == i + 1)) && !(q.1 + 1 == i && q.2.category == 2))) = (mtl E L).filter (fun q => !(q.1 == i) && (b || !(q.1 == i + 1)) && !(q.1 + 1 == i && q.2.category == 2)) := by
  unfold mtl
  rw [List.filter_map]
  congr 1
  apply List.filter_congr
  intro q _
  simp only [Function.comp, mtv_cat]
theorem mtl_filter1 (E : MX) (i : Nat) (L : List (Nat × Value)) : mtl E (L.filter (fun q => !(q.1 == i) && !(q.1 + 1 == i && q.2.category == 2))) = (mtl E L).filter (fun q => !(q.1 == i) && !(q.1 + 1 == i && q.2.category == 2)) := by
  unfold mtl
  rw [List.filter_map]
  congr 1
  apply List.filter_congr
  intro q _
  simp only [Function.comp, mtv_cat]
theorem mtl_filter2 (E : MX) (i : Nat) (L : List (Nat × Value)) : mtl E (L.filter (fun q => !(q.1 == i) && (!(q.1 == i + 1) && !(q.1 + 1 == i && q.2.category == 2)))) = (mtl E L).filter (fun q => !(q.1 == i) && (!(q.1 == i + 1) && !(q.1 + 1 == i && q.2.category == 2))) := by
  unfold mtl
  rw [List.filter_map]
  congr 1
  apply List.filter_congr
  intro q _
  simp only [Function.comp, mtv_cat]
theorem mtl_at {E : MX} {L : List (Nat × Value)} {k i : Nat} {v : Value} (h : L[k]? = some (i, v)) : (mtl E L)[k]? = some (i, mtv E v) := by
  unfold mtl
  rw [List.getElem?_map, h]
  rfl
/-- how many fields a class has, and their types -/
def mnF (ci : Nat) : Nat := match ci with
  | 0 => 12
  | 1 => 1
  | 2 => 11
  | 3 => 13
  | 4 => 3
  | 5 => 9
  | 6 => 12
  | 7 => 15
  | 8 => 12
  | _ => 36
def mft (ci : Nat) : Nat → FieldType := match ci with
  | 0 => tyX1
  | 1 => tyX2
  | 2 => tyX3
  | 3 => tyX4
  | 4 => tyX5
  | 5 => tyX6
  | 6 => tyX7
  | 7 => tyX8
  | 8 => tyX9
  | _ => tyX10
def marO (E : MX) (t : Nat) (σ : MSt) (k : Nat) : (Nat → Int32) ⊕ (Nat → Int64) ⊕ (Nat → UInt32) ⊕ (Nat → UInt64) ⊕ (Nat → Option Nat) := match t with
  | 1 => .inr (.inl (mmL σ k))
  | 4 => .inr (.inr (.inr (.inr (fun j => (mmR σ k j).map (mad E)))))
  | _ => .inl (mmI σ k)
def mcel (E : MX) (σ : MSt) (k : Nat) : va_E := match mshp k with
  | .inl tn => .inl (E.2.1 tn.1, tn.2, marO E tn.1 σ k)
  | .inr ci => .inr (ci, (List.range (mnF ci)).map (fun j => maf E (mft ci j) σ k j))
def mwd (E : MX) (n : Nat) (σ : MSt) : va_W := (List.range n).map (fun k => (mad E k, mcel E σ k))
theorem mwd_at {E : MX} {n k : Nat} {σ : MSt} (h : k < n) : (mwd E n σ)[k]? = some (mad E k, mcel E σ k) := by
  simp [mwd, h]
theorem mwd_len (E : MX) (n : Nat) (σ : MSt) : (mwd E n σ).length = n := by simp [mwd]
theorem mwd_inv {E : MX} {n k : Nat} {σ : MSt} {q : Nat × va_E} (h : (mwd E n σ)[k]? = some q) : k < n ∧ q = (mad E k, mcel E σ k) := by
  have hk : k < n := by
    have := (List.getElem?_eq_some_iff.mp h).1
    rwa [mwd_len] at this
  rw [mwd_at hk] at h
  exact ⟨hk, (Option.some.inj h).symm⟩
theorem mwd_set {E : MX} {n k : Nat} {σ σ' : MSt} {e : va_E} (hk : k < n) (he : mcel E σ' k = e) (ho : ∀ a, a ≠ k → mcel E σ' a = mcel E σ a) : (mwd E n σ).set k (mad E k, e) = mwd E n σ' := by
  apply List.ext_getElem?
  intro i
  by_cases hi : i = k
  · subst hi
    rw [List.getElem?_set_self (by rw [mwd_len]; exact hk), mwd_at hk, he]
  · rw [List.getElem?_set_ne (Ne.symm hi)]
    by_cases hn : i < n
    · rw [mwd_at hn, mwd_at hn, ho i hi]
    · rw [List.getElem?_eq_none (by rw [mwd_len]; omega), List.getElem?_eq_none (by rw [mwd_len]; omega)]
theorem mwd_D {E : MX} {n : Nat} {σ : MSt} (hn : n ≤ 1000) : va_D (fun q => E.2.2.1 ≤ q) (mwd E n σ) := by
  refine ⟨fun i j p q hi hj h => ?_, fun k q hk => ?_⟩
  · obtain ⟨h1, rfl⟩ := mwd_inv hi
    obtain ⟨h2, rfl⟩ := mwd_inv hj
    simp only [mad] at h
    rw [if_pos (by omega), if_pos (by omega)] at h
    omega
  · obtain ⟨h1, rfl⟩ := mwd_inv hk
    simp only [mad]
    rw [if_pos (by omega)]
    exact Nat.le_add_right _ _
theorem mcel_arr {E : MX} {σ : MSt} {k t n : Nat} (h : mshp k = .inl (t, n)) : mcel E σ k = .inl (E.2.1 t, n, marO E t σ k) := by
  simp only [mcel, h]
theorem mcel_obj {E : MX} {σ : MSt} {k ci : Nat} (h : mshp k = .inr ci) : mcel E σ k = .inr (ci, (List.range (mnF ci)).map (fun j => maf E (mft ci j) σ k j)) := by
  simp only [mcel, h]
theorem marO_congr {E : MX} {t k : Nat} {σ σ' : MSt} (h1 : ∀ j, mmI σ' k j = mmI σ k j) (h2 : ∀ j, mmL σ' k j = mmL σ k j) (h3 : ∀ j, mmR σ' k j = mmR σ k j) : marO E t σ' k = marO E t σ k := by
  have e1 : mmI σ' k = mmI σ k := funext h1
  have e2 : mmL σ' k = mmL σ k := funext h2
  have e3 : mmR σ' k = mmR σ k := funext h3
  unfold marO
  split <;> simp only [e1, e2, e3]
theorem maf_congr {E : MX} {ty : FieldType} {k j : Nat} {σ σ' : MSt} (h1 : mmI σ' k j = mmI σ k j) (h2 : mmL σ' k j = mmL σ k j) (h3 : mmR σ' k j = mmR σ k j) : maf E ty σ' k j = maf E ty σ k j := by
  unfold maf
  split <;> simp only [h1, h2, h3]
theorem mcel_congr {E : MX} {k : Nat} {σ σ' : MSt} (h1 : ∀ j, mmI σ' k j = mmI σ k j) (h2 : ∀ j, mmL σ' k j = mmL σ k j) (h3 : ∀ j, mmR σ' k j = mmR σ k j) : mcel E σ' k = mcel E σ k := by
  unfold mcel
  split
  · rw [marO_congr h1 h2 h3]
  · congr 2
    apply List.map_congr_left
    intro j _
    exact maf_congr (h1 j) (h2 j) (h3 j)
theorem mmI_uI (σ : MSt) (k j : Nat) (v : Int32) (a b : Nat) : mmI (muI σ k j v) a b = if a = k ∧ b = j then v else mmI σ a b := rfl
theorem mmL_uI (σ : MSt) (k j : Nat) (v : Int32) (a b : Nat) : mmL (muI σ k j v) a b = mmL σ a b := rfl
theorem mmR_uI (σ : MSt) (k j : Nat) (v : Int32) (a b : Nat) : mmR (muI σ k j v) a b = mmR σ a b := rfl
theorem mmI_uL (σ : MSt) (k j : Nat) (v : Int64) (a b : Nat) : mmI (muL σ k j v) a b = mmI σ a b := rfl
theorem mmL_uL (σ : MSt) (k j : Nat) (v : Int64) (a b : Nat) : mmL (muL σ k j v) a b = if a = k ∧ b = j then v else mmL σ a b := rfl
theorem mmR_uL (σ : MSt) (k j : Nat) (v : Int64) (a b : Nat) : mmR (muL σ k j v) a b = mmR σ a b := rfl
theorem mmI_uR (σ : MSt) (k j : Nat) (v : Option Nat) (a b : Nat) : mmI (muR σ k j v) a b = mmI σ a b := rfl
theorem mmL_uR (σ : MSt) (k j : Nat) (v : Option Nat) (a b : Nat) : mmL (muR σ k j v) a b = mmL σ a b := rfl
theorem mmR_uR (σ : MSt) (k j : Nat) (v : Option Nat) (a b : Nat) : mmR (muR σ k j v) a b = if a = k ∧ b = j then v else mmR σ a b := rfl
theorem mcel_uI {E : MX} {σ : MSt} {k j a : Nat} {v : Int32} (h : a ≠ k) : mcel E (muI σ k j v) a = mcel E σ a :=
  mcel_congr (fun b => by rw [mmI_uI, if_neg (fun q => h q.1)]) (fun _ => rfl) (fun _ => rfl)
theorem mcel_uL {E : MX} {σ : MSt} {k j a : Nat} {v : Int64} (h : a ≠ k) : mcel E (muL σ k j v) a = mcel E σ a :=
  mcel_congr (fun _ => rfl) (fun b => by rw [mmL_uL, if_neg (fun q => h q.1)]) (fun _ => rfl)
theorem mcel_uR {E : MX} {σ : MSt} {k j a : Nat} {v : Option Nat} (h : a ≠ k) : mcel E (muR σ k j v) a = mcel E σ a :=
  mcel_congr (fun _ => rfl) (fun _ => rfl) (fun b => by rw [mmR_uR, if_neg (fun q => h q.1)])
theorem mcatsum (E : MX) (st : List Value) : ((st.map (mtv E)).map fun v => v.category).sum = (st.map fun v => v.category).sum := by
  rw [List.map_map]
  congr 1
  apply List.map_congr_left
  intro v _
  exact mtv_cat E v
theorem mtl_pick (E : MX) (L : List (Nat × Value)) (qs : List Nat) : lv_pick (mtl E L) qs = mtl E (lv_pick L qs) := by
  unfold lv_pick mtl
  rw [List.map_filterMap]
  congr 1
  funext k
  rw [List.getElem?_map]
theorem mtl_args (E : MX) (args : List Value) : ∀ i : Nat, mtl E (lv_args i args) = lv_args i (args.map (mtv E)) := by
  induction args with
  | nil => intro i; rfl
  | cons v vs ih =>
    intro i
    show (i, mtv E v) :: mtl E (lv_args _ vs) = (i, mtv E v) :: lv_args _ (vs.map (mtv E))
    rw [ih, mtv_cat]
theorem mlg_len (E : MX) (args : List Value) : (lg_sl (args.map (mtv E))).length = (lg_sl args).length := by
  unfold lg_sl
  induction args with
  | nil => rfl
  | cons v vs ih =>
    simp only [List.map_cons, List.flatMap_cons, List.length_append, ih]
    cases v <;> rfl
theorem moptl (E : MX) (r : Option Value) : (r.toList.map (mtv E)) = (r.map (mtv E)).toList := by
  cases r <;> rfl
end
section
/-! ===== the small machine: what a row says ===== -/
def mtys (E : MX) : List (ClassId × FieldType) := [(E.2.1 0, .int), (E.2.1 1, .long), (E.2.1 2, .boolean), (E.2.1 3, .char), (E.2.1 4, .object "RoundsPerHour$Sheet")]
def mCX (E : MX) (U : State) : Prop := va_K E.1 vwCl (mtys E) U ∧ (∀ q ∈ mnl, va_Nw (.methodLinkNest q.1 q.2.1 q.2.2.1 q.2.2.2) U) ∧ va_Nw (.declares ⟨"RoundsPerHour$Climb", "pick", "()I"⟩) U ∧ mST E U
theorem mCX.warm {E : MX} {s U : State} {H : Heap} (hW : s.WarmedH U.vm) (hH : U.heap = H) (hq : ∀ a : Nat, a < s.heap.size → ¬ E.2.2.1 ≤ a → H[a]? = s.heap[a]?) (h : mCX E s) : mCX E U := by
  subst hH
  exact ⟨va_K.moved hW.alike h.1, fun q hq => va_Nw.warmM hW (h.2.1 q hq), va_Nw.warmD hW h.2.2.1, mST.warm hW hq h.2.2.2⟩
theorem mCX.same {E : MX} {s U : State} (hv : U.vm = s.vm) (hH : U.heap = s.heap) (h : mCX E s) : mCX E U :=
  ⟨va_K.moved (by rw [hv]; exact Vm.Alike.refl _) h.1, fun q hq => va_Nw.same rfl hv.symm (h.2.1 q hq), va_Nw.same rfl hv.symm h.2.2.1, mST.same hv hH h.2.2.2⟩
def MCx (E : MX) (cc : ByteArray) (own : String) (nL : Nat) (ret : Option FieldType) (ini : Bool) (p : Program) (s : State) (m : MethodId) (args : Array Value) (meth : Method) (c : Code) : Prop :=
  p.tables.exec = Jvm.exec ∧ c.code = cc ∧ meth.sig.returnType = ret ∧ c.maxLocals = nL ∧ (∀ w ∈ mWT, w.before args s = true) ∧ s.vm.findClass own = some m.cls ∧ meth.locks = false ∧ mCX E s ∧ (ini = true → meth.name = "<init>")
def MHx (E : MX) (n c : Nat) (σ : MSt) (s : State) (H : Heap) (locs : List Loc) : Prop :=
  n ≤ 1000 ∧ E.2.2.1 ≤ s.heap.size ∧ va_S (fun q => E.2.2.1 ≤ q) s.heap H locs ∧ va_P E.1 vwCl (mwd E n σ) H ∧ s.heap.size + c = E.2.2.1 + n
theorem MHx.size {p : Program} {l : Launch} {e : Env} {R : Room} {s : State} {m : MethodId} {args : Array Value} {below : List Frame} {meth : Method} {c0 : Code} {H : Heap} {locs : List Loc} {cells slots : Nat} {Q : State → Prop} {g : JFrame} {E : MX} {n : Nat} {σ : MSt} (X : MHx E n cells σ s H locs) (k : H.size = E.2.2.1 + n → W p l e R s m args below meth c0 H locs cells slots Q g) : W p l e R s m args below meth c0 H locs cells slots Q g := by
  intro T hT Y
  refine k ?_ T hT Y
  have h1 : T.heap.size ≤ s.heap.size + cells := Y.same.2.2.1
  have h2 : s.heap.size ≤ T.heap.size := Y.same.2.1
  rw [hT] at h1 h2
  obtain ⟨x1, x2, -, x4, x5⟩ := X
  rcases Nat.eq_zero_or_pos n with h | h
  · subst h; omega
  · have h3 := (x4 (n - 1) _ (mwd_at (by omega))).lt
    have h4 : mad E (n - 1) = E.2.2.1 + (n - 1) := by unfold mad; rw [if_pos (by omega)]
    rw [h4] at h3
    omega
def MQc (E : MX) (res : Nat × Option Value × MSt) : Array Value → State → Outcome → State → Prop := fun _ st oc t =>
  oc = .returned (res.2.1.map (mtv E)) ∧ va_P E.1 vwCl (mwd E res.1 res.2.2) t.heap ∧ t.heap.size = E.2.2.1 + res.1 ∧ va_F (fun q => E.2.2.1 ≤ q) st t
/-- from here the method returns, with res: how many cells there are, the answer, the memory -/
def MW (l : Launch) (E : MX) (cc : ByteArray) (own : String) (nL : Nat) (ret : Option FieldType) (ini : Bool) (R : Room) (mc ms : Nat) (res : Nat × Option Value × MSt) (n c s : Nat) (σ : MSt) (pc : Nat) (L : List (Nat × Value)) (st : List Value) : Prop :=
  ∀ (p : Program) (e : Env) (s0 : State) (m : MethodId) (args : Array Value) (below : List Frame) (meth : Method) (c0 : Code) (H : Heap) (locs : List Loc) (ls : Array Slot),
    MCx E cc own nL ret ini p s0 m args meth c0 → MHx E n c σ s0 H locs → lv_has ls nL (mtl E L) →
    W p l e R s0 m args below meth c0 H locs c s (MQ below (MQc E res) args s0 mc ms (fun q => E.2.2.1 ≤ q)) (F0 m pc ls (st.map (mtv E)))
/-- a method's contract: called with args in memory σ it returns with res -/
def MCt (l : Launch) (y : MethodName) (cc : ByteArray) (nL : Nat) (ret : Option FieldType) (R : Room) (args : List Value) (n : Nat) (σ : MSt) (mc ms : Nat) (res : Nat × Option Value × MSt) : Prop :=
  ∀ E : MX, Met l y (Cond.code y cc nL ret :: mWT) R (va_Pc (args.map (mtv E)) (fun U => n ≤ 1000 ∧ va_P E.1 vwCl (mwd E n σ) U.heap ∧ U.heap.size = E.2.2.1 + n ∧ mCX E U)) (MQc E res) mc ms (fun q => E.2.2.1 ≤ q)

/-- what the tables say of a call: of a method of the receiver's class; of one that its class inherits; of an abstract one; of a static one; of nest mates -/
def MLv (own : String) (i0 : Nat) (C : String) (y : MethodName) (bytes : ByteArray) (maxL : Nat) (ret : Option FieldType) (na : Nat) : Prop := Cond.code y bytes maxL ret ∈ mWT ∧ Cond.methodLink own i0 y ∈ mWT ∧ Cond.instanceMethod y ∈ mWT ∧ Cond.selects C y y ∈ mWT ∧ Cond.initialized C ∈ mWT ∧ y.cls = C ∧ y.cls ≠ "java/lang/invoke/MethodHandle" ∧ y.cls ≠ "java/lang/invoke/VarHandle" ∧ (parseMethodDescriptor y.desc).map (fun d => d.parameters.length) = some na
def MLu (own : String) (i0 : Nat) (C owner : String) (x : MethodName) (y : MethodName) (bytes : ByteArray) (maxL : Nat) (ret : Option FieldType) (na : Nat) : Prop := Cond.code y bytes maxL ret ∈ mWT ∧ Cond.methodLink own i0 x ∈ mWT ∧ Cond.sameMethod x.cls owner x.name x.desc ∈ mWT ∧ Cond.selects C x y ∈ mWT ∧ Cond.instanceMethod y ∈ mWT ∧ Cond.initialized y.cls ∈ mWT ∧ owner ≠ "java/lang/invoke/MethodHandle" ∧ owner ≠ "java/lang/invoke/VarHandle" ∧ (parseMethodDescriptor x.desc).map (fun d => d.parameters.length) = some na
def MLs (own : String) (i0 : Nat) (y : MethodName) (bytes : ByteArray) (maxL : Nat) (ret : Option FieldType) (na : Nat) : Prop := Cond.code y bytes maxL ret ∈ mWT ∧ Cond.methodLink own i0 y ∈ mWT ∧ Cond.static y ∈ mWT ∧ Cond.initialized y.cls ∈ mWT ∧ y.cls ≠ "java/lang/invoke/MethodHandle" ∧ y.cls ≠ "java/lang/invoke/VarHandle" ∧ (parseMethodDescriptor y.desc).map (fun d => d.parameters.length) = some na
def MLn (own : String) (i0 : Nat) (host : String) (y : MethodName) (bytes : ByteArray) (maxL : Nat) (ret : Option FieldType) (na : Nat) : Prop := Cond.code y bytes maxL ret ∈ mWT ∧ (own, i0, y, host) ∈ mnl ∧ Cond.static y ∈ mWT ∧ Cond.initialized y.cls ∈ mWT ∧ y.cls ≠ "java/lang/invoke/MethodHandle" ∧ y.cls ≠ "java/lang/invoke/VarHandle" ∧ (parseMethodDescriptor y.desc).map (fun d => d.parameters.length) = some na
def MLi (own : String) (i0 : Nat) (y : MethodName) (bytes : ByteArray) (maxL : Nat) (ret : Option FieldType) (na : Nat) : Prop := Cond.code y bytes maxL ret ∈ mWT ∧ Cond.methodLink own i0 y ∈ mWT ∧ Cond.instanceMethod y ∈ mWT ∧ Cond.initialized y.cls ∈ mWT ∧ y.name = "<init>" ∧ y.cls ≠ "java/lang/invoke/MethodHandle" ∧ y.cls ≠ "java/lang/invoke/VarHandle" ∧ (parseMethodDescriptor y.desc).map (fun d => d.parameters.length) = some na
def MLj (own : String) (i0 : Nat) (host : String) (y : MethodName) (bytes : ByteArray) (maxL : Nat) (ret : Option FieldType) (na : Nat) : Prop := Cond.code y bytes maxL ret ∈ mWT ∧ (own, i0, y, host) ∈ mnl ∧ Cond.instanceMethod y ∈ mWT ∧ Cond.initialized y.cls ∈ mWT ∧ y.name = "<init>" ∧ y.cls ≠ "java/lang/invoke/MethodHandle" ∧ y.cls ≠ "java/lang/invoke/VarHandle" ∧ (parseMethodDescriptor y.desc).map (fun d => d.parameters.length) = some na
theorem MLv.g {own C : String} {i0 maxL na : Nat} {y : MethodName} {bytes : ByteArray} {ret : Option FieldType} (h : MLv own i0 C y bytes maxL ret na) : GoodIn mWT (wsV own i0 C y (Cond.code y bytes maxL ret :: mWT)) := by
  refine mwt_good (fun w hw => ?_)
  unfold wsV at hw
  rcases List.mem_append.mp hw with hw | hw
  · simp only [List.mem_cons, List.not_mem_nil, or_false] at hw
    rcases hw with e | e | e | e <;> subst e
    · exact h.2.1
    · exact h.2.2.1
    · exact h.2.2.2.1
    · exact h.2.2.2.2.1
  · exact mwt_cons h.1 w hw
theorem MLu.g {own C owner : String} {i0 maxL na : Nat} {x y : MethodName} {bytes : ByteArray} {ret : Option FieldType} (h : MLu own i0 C owner x y bytes maxL ret na) : GoodIn mWT (va_wsU own i0 C owner x y (Cond.code y bytes maxL ret :: mWT)) := by
  refine mwt_good (fun w hw => ?_)
  unfold va_wsU at hw
  rcases List.mem_append.mp hw with hw | hw
  · simp only [List.mem_cons, List.not_mem_nil, or_false] at hw
    rcases hw with e | e | e | e | e <;> subst e
    · exact h.2.1
    · exact h.2.2.1
    · exact h.2.2.2.1
    · exact h.2.2.2.2.1
    · exact h.2.2.2.2.2.1
  · exact mwt_cons h.1 w hw
theorem MLs.g {own : String} {i0 maxL na : Nat} {y : MethodName} {bytes : ByteArray} {ret : Option FieldType} (h : MLs own i0 y bytes maxL ret na) : GoodIn mWT (va_wsS own i0 y (Cond.code y bytes maxL ret :: mWT)) := by
  refine mwt_good (fun w hw => ?_)
  unfold va_wsS at hw
  rcases List.mem_append.mp hw with hw | hw
  · simp only [List.mem_cons, List.not_mem_nil, or_false] at hw
    rcases hw with e | e | e <;> subst e
    · exact h.2.1
    · exact h.2.2.1
    · exact h.2.2.2.1
  · exact mwt_cons h.1 w hw

theorem mb01 {x : Int32} (h : x = 0 ∨ x = 1) : narrow .boolean (.int x) = .int x ∧ fits .boolean (.int x) = true := by
  rcases h with h | h <;> subst h <;> decide
def mfr (ty : FieldType) : Bool := match ty with
  | .object _ => true
  | .array _ => true
  | _ => false
theorem mfr_nar {ty : FieldType} (h : mfr ty = true) {E : MX} (x : Nat) : narrow ty (mtv E (.ref x)) = mtv E (.ref x) := by
  cases ty <;> first | rfl | simp [mfr] at h
theorem mfr_fit {ty : FieldType} (h : mfr ty = true) {E : MX} (x : Nat) : fits ty (mtv E (.ref x)) = true := by
  cases ty <;> first | rfl | simp [mfr] at h
theorem mmI_upd (σ : MSt) (k j : Nat) (v : Int32) : mmI (muI σ k j v) k = upd (mmI σ k) j v := by
  funext b
  by_cases h : b = j
  · subst h; simp [mmI_uI, upd]
  · simp [mmI_uI, upd, h]
theorem mmL_upd (σ : MSt) (k j : Nat) (v : Int64) : mmL (muL σ k j v) k = vp_updL (mmL σ k) j v := by
  funext b
  by_cases h : b = j
  · subst h; simp [mmL_uL, vp_updL]
  · simp [mmL_uL, vp_updL, h]
theorem mty {E : MX} {i : Nat} {q : ClassId × FieldType} (h : (mtys E)[i]? = some q) : (mtys E)[i]? = some q := h
theorem mcpI_cel {E : MX} {σ : MSt} {k0 sp k1 dp z a : Nat} (h : a ≠ k1) : mcel E (mcpI σ k0 sp k1 dp z) a = mcel E σ a :=
  mcel_congr (fun b => by show (if a = k1 then _ else _) = _; rw [if_neg h]; rfl) (fun _ => rfl) (fun _ => rfl)
theorem mcpL_cel {E : MX} {σ : MSt} {k0 sp k1 dp z a : Nat} (h : a ≠ k1) : mcel E (mcpL σ k0 sp k1 dp z) a = mcel E σ a :=
  mcel_congr (fun _ => rfl) (fun b => by show (if a = k1 then _ else _) = _; rw [if_neg h]; rfl) (fun _ => rfl)
theorem mmI_cp (σ : MSt) (k0 sp k1 dp z : Nat) : mmI (mcpI σ k0 sp k1 dp z) k1 = va_cpy (mmI σ k0) (mmI σ k1) sp dp z := by
  funext b; show (if k1 = k1 then _ else _) = _; rw [if_pos rfl]; rfl
theorem mmL_cp (σ : MSt) (k0 sp k1 dp z : Nat) : mmL (mcpL σ k0 sp k1 dp z) k1 = va_cpy (mmL σ k0) (mmL σ k1) sp dp z := by
  funext b; show (if k1 = k1 then _ else _) = _; rw [if_pos rfl]; rfl
theorem mrun {p : Program} {l : Launch} {e : Env} {R : Room} {s : State} {m : MethodId} {args : Array Value} {below : List Frame} {meth : Method} {c0 : Code} {H : Heap} {locs : List Loc} {cells slots mc ms : Nat} {Q : State → Prop} {pc : Nat} {ls : Array Slot} {st0 rest : List Value} {E : MX} {res : Nat × Option Value × MSt} {a : Array Value} {n : Nat} {σ : MSt} (X : MHx E n cells σ s H locs) (hz : H.size = E.2.2.1 + n) (hn : res.1 = n + mc) (hn2 : res.1 ≤ 1000)
    (hr : va_Run p l e R s m args below meth c0 H locs cells slots mc ms (F0 m pc ls st0) rest (MQc E res a) (fun q => E.2.2.1 ≤ q))
    (kk : ∀ (H1 : Heap) (locs1 : List Loc), MHx E res.1 (cells + mc) res.2.2 s H1 locs1 → W p l e R s m args below meth c0 H1 locs1 (cells + mc) (slots + ms) Q (F0 m (pc + 3) ls ((res.2.1.map (mtv E)).toList ++ rest))) : W p l e R s m args below meth c0 H locs cells slots Q (F0 m pc ls st0) := by
  intro T hT Y
  obtain ⟨v, st₀, t, T', L, h0, X', hL, e1, e2, ⟨hv, hP, hz2, hz3, hk⟩, stp⟩ := hr T hT Y
  cases hv
  obtain ⟨x1, x2, x3, x4, x5⟩ := X
  rw [h0] at hz3 hk
  obtain ⟨t2, a1, b1⟩ := kk T'.heap (locs ++ L) ⟨hn2, x2, ⟨Nat.le_trans x3.1 (by rw [e1]; exact hz3), fun q h1 h2 => by rw [e1, hk q (Nat.lt_of_lt_of_le h1 x3.1) h2]; exact x3.2.1 q h1 h2, fun q hq => by
      rcases List.mem_append.mp hq with h | h
      · exact x3.2.2 q h
      · exact hL q h⟩, by rw [e1]; exact hP, by omega⟩ T' rfl X'
  exact ⟨t2, stp t2 a1, b1⟩
theorem mpre {E : MX} {n c : Nat} {σ : MSt} {s : State} {H : Heap} {locs : List Loc} (X : MHx E n c σ s H locs) (hz : H.size = E.2.2.1 + n) (hC : mCX E s) (av : List Value) : PreS s H (va_Pc (av.map (mtv E)) (fun U => n ≤ 1000 ∧ va_P E.1 vwCl (mwd E n σ) U.heap ∧ U.heap.size = E.2.2.1 + n ∧ mCX E U)) (av.map (mtv E)) := by
  refine ⟨fun a U g mk q => ⟨q.1, q.2.1, q.2.2.1, q.2.2.2.1, mCX.same rfl rfl q.2.2.2.2⟩, fun U hU hW => ⟨rfl, X.1, by rw [hU]; exact X.2.2.2.1, by rw [hU]; exact hz, mCX.warm hW hU X.2.2.1.2.1 hC⟩⟩
theorem mrecv {E : MX} {n c k ci : Nat} {q : vw_C} {σ : MSt} {s : State} {H : Heap} {locs : List Loc} (X : MHx E n c σ s H locs) (hC : mCX E s) (hk : k < n) (hs : mshp k = .inr ci) (hc : vwCl[ci]? = some q) : ∃ cell : Cell, H[mad E k]? = some cell ∧ cell.vm.isStatics = false ∧ s.vm.findClass q.1 = some cell.cls :=
  va_recv hC.1 X.2.2.2.1 hc (q0 := k) (by rw [mwd_at hk, mcel_obj hs])

section MRules
variable {l : Launch} {E : MX} {cc : ByteArray} {own : String} {nL : Nat} {ret : Option FieldType} {ini : Bool} {R : Room} {mc ms : Nat} {res : Nat × Option Value × MSt} {n c s : Nat} {σ σ' : MSt} {pc : Nat} {L L' : List (Nat × Value)} {st : List Value}

theorem mw_iconst {k0 : Int} {v : Int32} (hd : decode cc pc = .ok (.iconst k0, 1)) (hv : Int32.ofInt k0 = v) (k : MW l E cc own nL ret ini R mc ms res n c s σ (pc + 1) L (.int v :: st)) : MW l E cc own nL ret ini R mc ms res n c s σ pc L st :=
  fun p e s0 m args below meth c0 H locs ls C X hl => lv_iconst C.1 C.2.1 hd hv (k p e s0 m args below meth c0 H locs ls C X hl)

theorem mw_bipush {k0 : Int} {v : Int32} (hd : decode cc pc = .ok (.bipush k0, 2)) (hv : (Int8.ofInt k0).toInt32 = v) (k : MW l E cc own nL ret ini R mc ms res n c s σ (pc + 2) L (.int v :: st)) : MW l E cc own nL ret ini R mc ms res n c s σ pc L st :=
  fun p e s0 m args below meth c0 H locs ls C X hl => lv_bipush C.1 C.2.1 hd hv (k p e s0 m args below meth c0 H locs ls C X hl)

theorem mw_sipush {k0 : Int} {v : Int32} (hd : decode cc pc = .ok (.sipush k0, 3)) (hv : (Int16.ofInt k0).toInt32 = v) (k : MW l E cc own nL ret ini R mc ms res n c s σ (pc + 3) L (.int v :: st)) : MW l E cc own nL ret ini R mc ms res n c s σ pc L st :=
  fun p e s0 m args below meth c0 H locs ls C X hl => lv_sipush C.1 C.2.1 hd hv (k p e s0 m args below meth c0 H locs ls C X hl)

theorem mw_lconst {k0 : Fin 2} {v : Int64} (hd : decode cc pc = .ok (.lconst k0, 1)) (hv : Int64.ofNat (k0 : Nat) = v) (k : MW l E cc own nL ret ini R mc ms res n c s σ (pc + 1) L (.long v :: st)) : MW l E cc own nL ret ini R mc ms res n c s σ pc L st :=
  fun p e s0 m args below meth c0 H locs ls C X hl => lv_lconst C.1 C.2.1 hd hv (k p e s0 m args below meth c0 H locs ls C X hl)

theorem mw_iload_n {q0 : Fin 4} {x : Int32} (hd : decode cc pc = .ok (.iload_n q0, 1)) (q : Nat) (hq : L[q]? = some ((q0 : Nat), .int x)) (k : MW l E cc own nL ret ini R mc ms res n c s σ (pc + 1) L (.int x :: st)) : MW l E cc own nL ret ini R mc ms res n c s σ pc L st :=
  fun p e s0 m args below meth c0 H locs ls C X hl => lv_iload_n C.1 C.2.1 hd rfl (lv_at hl q (mtl_at hq)) (k p e s0 m args below meth c0 H locs ls C X hl)

theorem mw_iload {i : Nat} {x : Int32} (hd : decode cc pc = .ok (.iload i, 2)) (q : Nat) (hq : L[q]? = some (i, .int x)) (k : MW l E cc own nL ret ini R mc ms res n c s σ (pc + 2) L (.int x :: st)) : MW l E cc own nL ret ini R mc ms res n c s σ pc L st :=
  fun p e s0 m args below meth c0 H locs ls C X hl => lv_iload C.1 C.2.1 hd (lv_at hl q (mtl_at hq)) (k p e s0 m args below meth c0 H locs ls C X hl)

theorem mw_istore_n {q0 : Fin 4} {i : Nat} {x : Int32} (hd : decode cc pc = .ok (.istore_n q0, 1)) (hi : (q0 : Nat) = i) (hn : i < nL) (hL : (i, Value.int x) :: L.filter (fun q => !(q.1 == i) && !(q.1 + 1 == i && q.2.category == 2)) = L') (k : MW l E cc own nL ret ini R mc ms res n c s σ (pc + 1) L' st) : MW l E cc own nL ret ini R mc ms res n c s σ pc L (.int x :: st) :=
  fun p e s0 m args below meth c0 H locs ls C X hl => lv_istore_n (lv' := mtl E L') C.1 C.2.1 hd hi hl hn (by rw [← hL]; exact congrArg (List.cons _) (mtl_filter1 E i L).symm) (fun ls hl => k p e s0 m args below meth c0 H locs ls C X hl)

theorem mw_istore {i : Nat} {x : Int32} (hd : decode cc pc = .ok (.istore i, 2)) (hn : i < nL) (hL : (i, Value.int x) :: L.filter (fun q => !(q.1 == i) && !(q.1 + 1 == i && q.2.category == 2)) = L') (k : MW l E cc own nL ret ini R mc ms res n c s σ (pc + 2) L' st) : MW l E cc own nL ret ini R mc ms res n c s σ pc L (.int x :: st) :=
  fun p e s0 m args below meth c0 H locs ls C X hl => lv_istore (lv' := mtl E L') C.1 C.2.1 hd hl hn (by rw [← hL]; exact congrArg (List.cons _) (mtl_filter1 E i L).symm) (fun ls hl => k p e s0 m args below meth c0 H locs ls C X hl)

theorem mw_lload_n {q0 : Fin 4} {x : Int64} (hd : decode cc pc = .ok (.lload_n q0, 1)) (q : Nat) (hq : L[q]? = some ((q0 : Nat), .long x)) (k : MW l E cc own nL ret ini R mc ms res n c s σ (pc + 1) L (.long x :: st)) : MW l E cc own nL ret ini R mc ms res n c s σ pc L st :=
  fun p e s0 m args below meth c0 H locs ls C X hl => lv_lload_n C.1 C.2.1 hd rfl (lv_at hl q (mtl_at hq)) (k p e s0 m args below meth c0 H locs ls C X hl)

theorem mw_lload {i : Nat} {x : Int64} (hd : decode cc pc = .ok (.lload i, 2)) (q : Nat) (hq : L[q]? = some (i, .long x)) (k : MW l E cc own nL ret ini R mc ms res n c s σ (pc + 2) L (.long x :: st)) : MW l E cc own nL ret ini R mc ms res n c s σ pc L st :=
  fun p e s0 m args below meth c0 H locs ls C X hl => lv_lload C.1 C.2.1 hd (lv_at hl q (mtl_at hq)) (k p e s0 m args below meth c0 H locs ls C X hl)

theorem mw_lstore_n {q0 : Fin 4} {i : Nat} {x : Int64} (hd : decode cc pc = .ok (.lstore_n q0, 1)) (hi : (q0 : Nat) = i) (hn : i + 1 < nL) (hL : (i, Value.long x) :: L.filter (fun q => !(q.1 == i) && (!(q.1 == i + 1) && !(q.1 + 1 == i && q.2.category == 2))) = L') (k : MW l E cc own nL ret ini R mc ms res n c s σ (pc + 1) L' st) : MW l E cc own nL ret ini R mc ms res n c s σ pc L (.long x :: st) :=
  fun p e s0 m args below meth c0 H locs ls C X hl => lv_lstore_n (lv' := mtl E L') C.1 C.2.1 hd hi hl hn (by rw [← hL]; exact congrArg (List.cons _) (mtl_filter2 E i L).symm) (fun ls hl => k p e s0 m args below meth c0 H locs ls C X hl)

theorem mw_lstore {i : Nat} {x : Int64} (hd : decode cc pc = .ok (.lstore i, 2)) (hn : i + 1 < nL) (hL : (i, Value.long x) :: L.filter (fun q => !(q.1 == i) && (!(q.1 == i + 1) && !(q.1 + 1 == i && q.2.category == 2))) = L') (k : MW l E cc own nL ret ini R mc ms res n c s σ (pc + 2) L' st) : MW l E cc own nL ret ini R mc ms res n c s σ pc L (.long x :: st) :=
  fun p e s0 m args below meth c0 H locs ls C X hl => lv_lstore (lv' := mtl E L') C.1 C.2.1 hd hl hn (by rw [← hL]; exact congrArg (List.cons _) (mtl_filter2 E i L).symm) (fun ls hl => k p e s0 m args below meth c0 H locs ls C X hl)

theorem mw_aload_n {q0 : Fin 4} {x : Nat} (hd : decode cc pc = .ok (.aload_n q0, 1)) (q : Nat) (hq : L[q]? = some ((q0 : Nat), .ref x)) (k : MW l E cc own nL ret ini R mc ms res n c s σ (pc + 1) L (.ref x :: st)) : MW l E cc own nL ret ini R mc ms res n c s σ pc L st :=
  fun p e s0 m args below meth c0 H locs ls C X hl => lv_aload_n C.1 C.2.1 hd rfl (lv_at hl q (mtl_at hq)) (k p e s0 m args below meth c0 H locs ls C X hl)

theorem mw_aload {i : Nat} {x : Nat} (hd : decode cc pc = .ok (.aload i, 2)) (q : Nat) (hq : L[q]? = some (i, .ref x)) (k : MW l E cc own nL ret ini R mc ms res n c s σ (pc + 2) L (.ref x :: st)) : MW l E cc own nL ret ini R mc ms res n c s σ pc L st :=
  fun p e s0 m args below meth c0 H locs ls C X hl => lv_aload C.1 C.2.1 hd (lv_at hl q (mtl_at hq)) (k p e s0 m args below meth c0 H locs ls C X hl)

theorem mw_astore_n {q0 : Fin 4} {i : Nat} {x : Nat} (hd : decode cc pc = .ok (.astore_n q0, 1)) (hi : (q0 : Nat) = i) (hn : i < nL) (hL : (i, Value.ref x) :: L.filter (fun q => !(q.1 == i) && !(q.1 + 1 == i && q.2.category == 2)) = L') (k : MW l E cc own nL ret ini R mc ms res n c s σ (pc + 1) L' st) : MW l E cc own nL ret ini R mc ms res n c s σ pc L (.ref x :: st) :=
  fun p e s0 m args below meth c0 H locs ls C X hl => lv_astore_n (lv' := mtl E L') C.1 C.2.1 hd hi hl hn (by rw [← hL]; exact congrArg (List.cons _) (mtl_filter1 E i L).symm) (fun ls hl => k p e s0 m args below meth c0 H locs ls C X hl)

theorem mw_astore {i : Nat} {x : Nat} (hd : decode cc pc = .ok (.astore i, 2)) (hn : i < nL) (hL : (i, Value.ref x) :: L.filter (fun q => !(q.1 == i) && !(q.1 + 1 == i && q.2.category == 2)) = L') (k : MW l E cc own nL ret ini R mc ms res n c s σ (pc + 2) L' st) : MW l E cc own nL ret ini R mc ms res n c s σ pc L (.ref x :: st) :=
  fun p e s0 m args below meth c0 H locs ls C X hl => lv_astore (lv' := mtl E L') C.1 C.2.1 hd hl hn (by rw [← hL]; exact congrArg (List.cons _) (mtl_filter1 E i L).symm) (fun ls hl => k p e s0 m args below meth c0 H locs ls C X hl)

theorem mw_iinc {i : Nat} {k0 : Int} {x v : Int32} (hd : decode cc pc = .ok (.iinc i k0, 3)) (q : Nat) (hq : L[q]? = some (i, .int x)) (hv : x + Int32.ofInt k0 = v) (hn : i < nL) (hL : (i, Value.int v) :: L.filter (fun q => !(q.1 == i) && !(q.1 + 1 == i && q.2.category == 2)) = L') (k : MW l E cc own nL ret ini R mc ms res n c s σ (pc + 3) L' st) : MW l E cc own nL ret ini R mc ms res n c s σ pc L st :=
  fun p e s0 m args below meth c0 H locs ls C X hl => lv_iinc (lv' := mtl E L') C.1 C.2.1 hd hl (mtl_at hq) hv hn (by rw [← hL]; exact congrArg (List.cons _) (mtl_filter1 E i L).symm) (fun ls hl => k p e s0 m args below meth c0 H locs ls C X hl)

theorem mw_iadd {x y : Int32} (hd : decode cc pc = .ok (.iadd, 1)) (k : MW l E cc own nL ret ini R mc ms res n c s σ (pc + 1) L (.int (x + y) :: st)) : MW l E cc own nL ret ini R mc ms res n c s σ pc L (.int y :: .int x :: st) :=
  fun p e s0 m args below meth c0 H locs ls C X hl => lv_iadd C.1 C.2.1 hd (k p e s0 m args below meth c0 H locs ls C X hl)

theorem mw_isub {x y : Int32} (hd : decode cc pc = .ok (.isub, 1)) (k : MW l E cc own nL ret ini R mc ms res n c s σ (pc + 1) L (.int (x - y) :: st)) : MW l E cc own nL ret ini R mc ms res n c s σ pc L (.int y :: .int x :: st) :=
  fun p e s0 m args below meth c0 H locs ls C X hl => lv_isub C.1 C.2.1 hd (k p e s0 m args below meth c0 H locs ls C X hl)

theorem mw_imul {x y : Int32} (hd : decode cc pc = .ok (.imul, 1)) (k : MW l E cc own nL ret ini R mc ms res n c s σ (pc + 1) L (.int (x * y) :: st)) : MW l E cc own nL ret ini R mc ms res n c s σ pc L (.int y :: .int x :: st) :=
  fun p e s0 m args below meth c0 H locs ls C X hl => lv_imul C.1 C.2.1 hd (k p e s0 m args below meth c0 H locs ls C X hl)

theorem mw_iand {x y : Int32} (hd : decode cc pc = .ok (.iand, 1)) (k : MW l E cc own nL ret ini R mc ms res n c s σ (pc + 1) L (.int (x &&& y) :: st)) : MW l E cc own nL ret ini R mc ms res n c s σ pc L (.int y :: .int x :: st) :=
  fun p e s0 m args below meth c0 H locs ls C X hl => lv_iand C.1 C.2.1 hd (k p e s0 m args below meth c0 H locs ls C X hl)

theorem mw_ior {x y : Int32} (hd : decode cc pc = .ok (.ior, 1)) (k : MW l E cc own nL ret ini R mc ms res n c s σ (pc + 1) L (.int (x ||| y) :: st)) : MW l E cc own nL ret ini R mc ms res n c s σ pc L (.int y :: .int x :: st) :=
  fun p e s0 m args below meth c0 H locs ls C X hl => lv_ior C.1 C.2.1 hd (k p e s0 m args below meth c0 H locs ls C X hl)

theorem mw_ixor {x y : Int32} (hd : decode cc pc = .ok (.ixor, 1)) (k : MW l E cc own nL ret ini R mc ms res n c s σ (pc + 1) L (.int (x ^^^ y) :: st)) : MW l E cc own nL ret ini R mc ms res n c s σ pc L (.int y :: .int x :: st) :=
  fun p e s0 m args below meth c0 H locs ls C X hl => lv_ixor C.1 C.2.1 hd (k p e s0 m args below meth c0 H locs ls C X hl)

theorem mw_ladd {x y : Int64} (hd : decode cc pc = .ok (.ladd, 1)) (k : MW l E cc own nL ret ini R mc ms res n c s σ (pc + 1) L (.long (x + y) :: st)) : MW l E cc own nL ret ini R mc ms res n c s σ pc L (.long y :: .long x :: st) :=
  fun p e s0 m args below meth c0 H locs ls C X hl => lv_ladd C.1 C.2.1 hd (k p e s0 m args below meth c0 H locs ls C X hl)

theorem mw_lsub {x y : Int64} (hd : decode cc pc = .ok (.lsub, 1)) (k : MW l E cc own nL ret ini R mc ms res n c s σ (pc + 1) L (.long (x - y) :: st)) : MW l E cc own nL ret ini R mc ms res n c s σ pc L (.long y :: .long x :: st) :=
  fun p e s0 m args below meth c0 H locs ls C X hl => lv_lsub C.1 C.2.1 hd (k p e s0 m args below meth c0 H locs ls C X hl)

theorem mw_lmul {x y : Int64} (hd : decode cc pc = .ok (.lmul, 1)) (k : MW l E cc own nL ret ini R mc ms res n c s σ (pc + 1) L (.long (x * y) :: st)) : MW l E cc own nL ret ini R mc ms res n c s σ pc L (.long y :: .long x :: st) :=
  fun p e s0 m args below meth c0 H locs ls C X hl => lv_lmul C.1 C.2.1 hd (k p e s0 m args below meth c0 H locs ls C X hl)

theorem mw_land {x y : Int64} (hd : decode cc pc = .ok (.land, 1)) (k : MW l E cc own nL ret ini R mc ms res n c s σ (pc + 1) L (.long (x &&& y) :: st)) : MW l E cc own nL ret ini R mc ms res n c s σ pc L (.long y :: .long x :: st) :=
  fun p e s0 m args below meth c0 H locs ls C X hl => lv_land C.1 C.2.1 hd (k p e s0 m args below meth c0 H locs ls C X hl)

theorem mw_lor {x y : Int64} (hd : decode cc pc = .ok (.lor, 1)) (k : MW l E cc own nL ret ini R mc ms res n c s σ (pc + 1) L (.long (x ||| y) :: st)) : MW l E cc own nL ret ini R mc ms res n c s σ pc L (.long y :: .long x :: st) :=
  fun p e s0 m args below meth c0 H locs ls C X hl => lv_lor C.1 C.2.1 hd (k p e s0 m args below meth c0 H locs ls C X hl)

theorem mw_lxor {x y : Int64} (hd : decode cc pc = .ok (.lxor, 1)) (k : MW l E cc own nL ret ini R mc ms res n c s σ (pc + 1) L (.long (x ^^^ y) :: st)) : MW l E cc own nL ret ini R mc ms res n c s σ pc L (.long y :: .long x :: st) :=
  fun p e s0 m args below meth c0 H locs ls C X hl => lv_lxor C.1 C.2.1 hd (k p e s0 m args below meth c0 H locs ls C X hl)

theorem mw_idiv {x y : Int32} (hd : decode cc pc = .ok (.idiv, 1)) (h0 : ¬ y = 0) (k : MW l E cc own nL ret ini R mc ms res n c s σ (pc + 1) L (.int (x / y) :: st)) : MW l E cc own nL ret ini R mc ms res n c s σ pc L (.int y :: .int x :: st) :=
  fun p e s0 m args below meth c0 H locs ls C X hl => lv_idiv C.1 C.2.1 hd h0 (k p e s0 m args below meth c0 H locs ls C X hl)

theorem mw_irem {x y : Int32} (hd : decode cc pc = .ok (.irem, 1)) (h0 : ¬ y = 0) (k : MW l E cc own nL ret ini R mc ms res n c s σ (pc + 1) L (.int (x - x / y * y) :: st)) : MW l E cc own nL ret ini R mc ms res n c s σ pc L (.int y :: .int x :: st) :=
  fun p e s0 m args below meth c0 H locs ls C X hl => lv_irem C.1 C.2.1 hd h0 (k p e s0 m args below meth c0 H locs ls C X hl)

theorem mw_ldiv {x y : Int64} (hd : decode cc pc = .ok (.ldiv, 1)) (h0 : ¬ y = 0) (k : MW l E cc own nL ret ini R mc ms res n c s σ (pc + 1) L (.long (x / y) :: st)) : MW l E cc own nL ret ini R mc ms res n c s σ pc L (.long y :: .long x :: st) :=
  fun p e s0 m args below meth c0 H locs ls C X hl => lv_ldiv C.1 C.2.1 hd h0 (k p e s0 m args below meth c0 H locs ls C X hl)

theorem mw_lrem {x y : Int64} (hd : decode cc pc = .ok (.lrem, 1)) (h0 : ¬ y = 0) (k : MW l E cc own nL ret ini R mc ms res n c s σ (pc + 1) L (.long (x - x / y * y) :: st)) : MW l E cc own nL ret ini R mc ms res n c s σ pc L (.long y :: .long x :: st) :=
  fun p e s0 m args below meth c0 H locs ls C X hl => lv_lrem C.1 C.2.1 hd h0 (k p e s0 m args below meth c0 H locs ls C X hl)

theorem mw_ineg {x : Int32} (hd : decode cc pc = .ok (.ineg, 1)) (k : MW l E cc own nL ret ini R mc ms res n c s σ (pc + 1) L (.int (-x) :: st)) : MW l E cc own nL ret ini R mc ms res n c s σ pc L (.int x :: st) :=
  fun p e s0 m args below meth c0 H locs ls C X hl => lv_ineg C.1 C.2.1 hd (k p e s0 m args below meth c0 H locs ls C X hl)

theorem mw_lneg {x : Int64} (hd : decode cc pc = .ok (.lneg, 1)) (k : MW l E cc own nL ret ini R mc ms res n c s σ (pc + 1) L (.long (-x) :: st)) : MW l E cc own nL ret ini R mc ms res n c s σ pc L (.long x :: st) :=
  fun p e s0 m args below meth c0 H locs ls C X hl => lv_lneg C.1 C.2.1 hd (k p e s0 m args below meth c0 H locs ls C X hl)

theorem mw_ishl {x y : Int32} (hd : decode cc pc = .ok (.ishl, 1)) (k : MW l E cc own nL ret ini R mc ms res n c s σ (pc + 1) L (.int (x <<< (y &&& 31)) :: st)) : MW l E cc own nL ret ini R mc ms res n c s σ pc L (.int y :: .int x :: st) :=
  fun p e s0 m args below meth c0 H locs ls C X hl => lv_ishl C.1 C.2.1 hd (k p e s0 m args below meth c0 H locs ls C X hl)

theorem mw_ishr {x y : Int32} (hd : decode cc pc = .ok (.ishr, 1)) (k : MW l E cc own nL ret ini R mc ms res n c s σ (pc + 1) L (.int (x >>> (y &&& 31)) :: st)) : MW l E cc own nL ret ini R mc ms res n c s σ pc L (.int y :: .int x :: st) :=
  fun p e s0 m args below meth c0 H locs ls C X hl => lv_ishr C.1 C.2.1 hd (k p e s0 m args below meth c0 H locs ls C X hl)

theorem mw_iushr {x y : Int32} (hd : decode cc pc = .ok (.iushr, 1)) (k : MW l E cc own nL ret ini R mc ms res n c s σ (pc + 1) L (.int ((x.toUInt32 >>> (y.toUInt32 &&& Int32.toUInt32 31)).toInt32) :: st)) : MW l E cc own nL ret ini R mc ms res n c s σ pc L (.int y :: .int x :: st) :=
  fun p e s0 m args below meth c0 H locs ls C X hl => lv_iushr C.1 C.2.1 hd rfl (k p e s0 m args below meth c0 H locs ls C X hl)

theorem mw_lshl {x : Int64} {y : Int32} (hd : decode cc pc = .ok (.lshl, 1)) (k : MW l E cc own nL ret ini R mc ms res n c s σ (pc + 1) L (.long (x <<< (y.toInt64 &&& 63)) :: st)) : MW l E cc own nL ret ini R mc ms res n c s σ pc L (.int y :: .long x :: st) :=
  fun p e s0 m args below meth c0 H locs ls C X hl => lv_lshl C.1 C.2.1 hd rfl (k p e s0 m args below meth c0 H locs ls C X hl)

theorem mw_i2l {x : Int32} (hd : decode cc pc = .ok (.i2l, 1)) (k : MW l E cc own nL ret ini R mc ms res n c s σ (pc + 1) L (.long (x.toInt64) :: st)) : MW l E cc own nL ret ini R mc ms res n c s σ pc L (.int x :: st) :=
  fun p e s0 m args below meth c0 H locs ls C X hl => lv_i2l C.1 C.2.1 hd rfl (k p e s0 m args below meth c0 H locs ls C X hl)

theorem mw_l2i {x : Int64} (hd : decode cc pc = .ok (.l2i, 1)) (k : MW l E cc own nL ret ini R mc ms res n c s σ (pc + 1) L (.int (x.toInt32) :: st)) : MW l E cc own nL ret ini R mc ms res n c s σ pc L (.long x :: st) :=
  fun p e s0 m args below meth c0 H locs ls C X hl => lv_l2i C.1 C.2.1 hd rfl (k p e s0 m args below meth c0 H locs ls C X hl)

theorem mw_i2s {x : Int32} (hd : decode cc pc = .ok (.i2s, 1)) (k : MW l E cc own nL ret ini R mc ms res n c s σ (pc + 1) L (.int (x.toInt16.toInt32) :: st)) : MW l E cc own nL ret ini R mc ms res n c s σ pc L (.int x :: st) :=
  fun p e s0 m args below meth c0 H locs ls C X hl => lv_i2s C.1 C.2.1 hd rfl (k p e s0 m args below meth c0 H locs ls C X hl)

theorem mw_dup {v : Value} (hd : decode cc pc = .ok (.dup, 1)) (hv : v.category = 1) (k : MW l E cc own nL ret ini R mc ms res n c s σ (pc + 1) L (v :: v :: st)) : MW l E cc own nL ret ini R mc ms res n c s σ pc L (v :: st) :=
  fun p e s0 m args below meth c0 H locs ls C X hl => lv_dup C.1 C.2.1 hd ((mtv_cat E v).trans hv) (k p e s0 m args below meth c0 H locs ls C X hl)
theorem mw_dup2 {v w : Value} (hd : decode cc pc = .ok (.dup2, 1)) (hv : v.category = 1) (hw : w.category = 1) (k : MW l E cc own nL ret ini R mc ms res n c s σ (pc + 1) L (v :: w :: v :: w :: st)) : MW l E cc own nL ret ini R mc ms res n c s σ pc L (v :: w :: st) :=
  fun p e s0 m args below meth c0 H locs ls C X hl => lv_dup2_11 C.1 C.2.1 hd ((mtv_cat E v).trans hv) ((mtv_cat E w).trans hw) (k p e s0 m args below meth c0 H locs ls C X hl)
theorem mw_pop {v : Value} (hd : decode cc pc = .ok (.pop, 1)) (hv : v.category = 1) (k : MW l E cc own nL ret ini R mc ms res n c s σ (pc + 1) L st) : MW l E cc own nL ret ini R mc ms res n c s σ pc L (v :: st) :=
  fun p e s0 m args below meth c0 H locs ls C X hl => lv_pop C.1 C.2.1 hd ((mtv_cat E v).trans hv) (k p e s0 m args below meth c0 H locs ls C X hl)

theorem mw_if_eq {x : Int32} {off : Int} {tgt : Nat} (hd : decode cc pc = .ok (.ifCond .eq off, 3)) (ht : (pc : Int) + off = (tgt : Int)) (kt : x = 0 → MW l E cc own nL ret ini R mc ms res n c s σ tgt L st) (kf : ¬ x = 0 → MW l E cc own nL ret ini R mc ms res n c s σ (pc + 3) L st) : MW l E cc own nL ret ini R mc ms res n c s σ pc L (.int x :: st) :=
  fun p e s0 m args below meth c0 H locs ls C X hl => lv_if_eq C.1 C.2.1 hd ht (fun h => kt h p e s0 m args below meth c0 H locs ls C X hl) (fun h => kf h p e s0 m args below meth c0 H locs ls C X hl)

theorem mw_if_ne {x : Int32} {off : Int} {tgt : Nat} (hd : decode cc pc = .ok (.ifCond .ne off, 3)) (ht : (pc : Int) + off = (tgt : Int)) (kt : ¬ x = 0 → MW l E cc own nL ret ini R mc ms res n c s σ tgt L st) (kf : x = 0 → MW l E cc own nL ret ini R mc ms res n c s σ (pc + 3) L st) : MW l E cc own nL ret ini R mc ms res n c s σ pc L (.int x :: st) :=
  fun p e s0 m args below meth c0 H locs ls C X hl => lv_if_ne C.1 C.2.1 hd ht (fun h => kt h p e s0 m args below meth c0 H locs ls C X hl) (fun h => kf h p e s0 m args below meth c0 H locs ls C X hl)

theorem mw_if_lt {x : Int32} {off : Int} {tgt : Nat} (hd : decode cc pc = .ok (.ifCond .lt off, 3)) (ht : (pc : Int) + off = (tgt : Int)) (kt : x < 0 → MW l E cc own nL ret ini R mc ms res n c s σ tgt L st) (kf : ¬ x < 0 → MW l E cc own nL ret ini R mc ms res n c s σ (pc + 3) L st) : MW l E cc own nL ret ini R mc ms res n c s σ pc L (.int x :: st) :=
  fun p e s0 m args below meth c0 H locs ls C X hl => lv_if_lt C.1 C.2.1 hd ht (fun h => kt h p e s0 m args below meth c0 H locs ls C X hl) (fun h => kf h p e s0 m args below meth c0 H locs ls C X hl)

theorem mw_if_ge {x : Int32} {off : Int} {tgt : Nat} (hd : decode cc pc = .ok (.ifCond .ge off, 3)) (ht : (pc : Int) + off = (tgt : Int)) (kt : 0 ≤ x → MW l E cc own nL ret ini R mc ms res n c s σ tgt L st) (kf : ¬ 0 ≤ x → MW l E cc own nL ret ini R mc ms res n c s σ (pc + 3) L st) : MW l E cc own nL ret ini R mc ms res n c s σ pc L (.int x :: st) :=
  fun p e s0 m args below meth c0 H locs ls C X hl => lv_if_ge C.1 C.2.1 hd ht (fun h => kt h p e s0 m args below meth c0 H locs ls C X hl) (fun h => kf h p e s0 m args below meth c0 H locs ls C X hl)

theorem mw_if_gt {x : Int32} {off : Int} {tgt : Nat} (hd : decode cc pc = .ok (.ifCond .gt off, 3)) (ht : (pc : Int) + off = (tgt : Int)) (kt : 0 < x → MW l E cc own nL ret ini R mc ms res n c s σ tgt L st) (kf : ¬ 0 < x → MW l E cc own nL ret ini R mc ms res n c s σ (pc + 3) L st) : MW l E cc own nL ret ini R mc ms res n c s σ pc L (.int x :: st) :=
  fun p e s0 m args below meth c0 H locs ls C X hl => lv_if_gt C.1 C.2.1 hd ht (fun h => kt h p e s0 m args below meth c0 H locs ls C X hl) (fun h => kf h p e s0 m args below meth c0 H locs ls C X hl)

theorem mw_if_le {x : Int32} {off : Int} {tgt : Nat} (hd : decode cc pc = .ok (.ifCond .le off, 3)) (ht : (pc : Int) + off = (tgt : Int)) (kt : x ≤ 0 → MW l E cc own nL ret ini R mc ms res n c s σ tgt L st) (kf : ¬ x ≤ 0 → MW l E cc own nL ret ini R mc ms res n c s σ (pc + 3) L st) : MW l E cc own nL ret ini R mc ms res n c s σ pc L (.int x :: st) :=
  fun p e s0 m args below meth c0 H locs ls C X hl => lv_if_le C.1 C.2.1 hd ht (fun h => kt h p e s0 m args below meth c0 H locs ls C X hl) (fun h => kf h p e s0 m args below meth c0 H locs ls C X hl)

theorem mw_icmp_eq {x y : Int32} {off : Int} {tgt : Nat} (hd : decode cc pc = .ok (.if_icmp .eq off, 3)) (ht : (pc : Int) + off = (tgt : Int)) (kt : x = y → MW l E cc own nL ret ini R mc ms res n c s σ tgt L st) (kf : ¬ x = y → MW l E cc own nL ret ini R mc ms res n c s σ (pc + 3) L st) : MW l E cc own nL ret ini R mc ms res n c s σ pc L (.int y :: .int x :: st) :=
  fun p e s0 m args below meth c0 H locs ls C X hl => lv_icmp_eq C.1 C.2.1 hd ht (fun h => kt h p e s0 m args below meth c0 H locs ls C X hl) (fun h => kf h p e s0 m args below meth c0 H locs ls C X hl)

theorem mw_icmp_lt {x y : Int32} {off : Int} {tgt : Nat} (hd : decode cc pc = .ok (.if_icmp .lt off, 3)) (ht : (pc : Int) + off = (tgt : Int)) (kt : x < y → MW l E cc own nL ret ini R mc ms res n c s σ tgt L st) (kf : ¬ x < y → MW l E cc own nL ret ini R mc ms res n c s σ (pc + 3) L st) : MW l E cc own nL ret ini R mc ms res n c s σ pc L (.int y :: .int x :: st) :=
  fun p e s0 m args below meth c0 H locs ls C X hl => lv_icmp_lt C.1 C.2.1 hd ht (fun h => kt h p e s0 m args below meth c0 H locs ls C X hl) (fun h => kf h p e s0 m args below meth c0 H locs ls C X hl)

theorem mw_icmp_ge {x y : Int32} {off : Int} {tgt : Nat} (hd : decode cc pc = .ok (.if_icmp .ge off, 3)) (ht : (pc : Int) + off = (tgt : Int)) (kt : y ≤ x → MW l E cc own nL ret ini R mc ms res n c s σ tgt L st) (kf : ¬ y ≤ x → MW l E cc own nL ret ini R mc ms res n c s σ (pc + 3) L st) : MW l E cc own nL ret ini R mc ms res n c s σ pc L (.int y :: .int x :: st) :=
  fun p e s0 m args below meth c0 H locs ls C X hl => lv_icmp_ge C.1 C.2.1 hd ht (fun h => kt h p e s0 m args below meth c0 H locs ls C X hl) (fun h => kf h p e s0 m args below meth c0 H locs ls C X hl)

theorem mw_icmp_gt {x y : Int32} {off : Int} {tgt : Nat} (hd : decode cc pc = .ok (.if_icmp .gt off, 3)) (ht : (pc : Int) + off = (tgt : Int)) (kt : y < x → MW l E cc own nL ret ini R mc ms res n c s σ tgt L st) (kf : ¬ y < x → MW l E cc own nL ret ini R mc ms res n c s σ (pc + 3) L st) : MW l E cc own nL ret ini R mc ms res n c s σ pc L (.int y :: .int x :: st) :=
  fun p e s0 m args below meth c0 H locs ls C X hl => lv_icmp_gt C.1 C.2.1 hd ht (fun h => kt h p e s0 m args below meth c0 H locs ls C X hl) (fun h => kf h p e s0 m args below meth c0 H locs ls C X hl)

theorem mw_icmp_le {x y : Int32} {off : Int} {tgt : Nat} (hd : decode cc pc = .ok (.if_icmp .le off, 3)) (ht : (pc : Int) + off = (tgt : Int)) (kt : x ≤ y → MW l E cc own nL ret ini R mc ms res n c s σ tgt L st) (kf : ¬ x ≤ y → MW l E cc own nL ret ini R mc ms res n c s σ (pc + 3) L st) : MW l E cc own nL ret ini R mc ms res n c s σ pc L (.int y :: .int x :: st) :=
  fun p e s0 m args below meth c0 H locs ls C X hl => lv_icmp_le C.1 C.2.1 hd ht (fun h => kt h p e s0 m args below meth c0 H locs ls C X hl) (fun h => kf h p e s0 m args below meth c0 H locs ls C X hl)

theorem mw_icmp_ne {x y : Int32} {off : Int} {tgt : Nat} (hd : decode cc pc = .ok (.if_icmp .ne off, 3)) (ht : (pc : Int) + off = (tgt : Int)) (kt : ¬ x = y → MW l E cc own nL ret ini R mc ms res n c s σ tgt L st) (kf : x = y → MW l E cc own nL ret ini R mc ms res n c s σ (pc + 3) L st) : MW l E cc own nL ret ini R mc ms res n c s σ pc L (.int y :: .int x :: st) :=
  fun p e s0 m args below meth c0 H locs ls C X hl => lv_icmp_ne C.1 C.2.1 hd ht (fun h => kt h p e s0 m args below meth c0 H locs ls C X hl) (fun h => kf h p e s0 m args below meth c0 H locs ls C X hl)
theorem mw_goto {off : Int} {tgt : Nat} (hd : decode cc pc = .ok (.goto off, 3)) (ht : (pc : Int) + off = (tgt : Int)) (k : MW l E cc own nL ret ini R mc ms res n c s σ tgt L st) : MW l E cc own nL ret ini R mc ms res n c s σ pc L st :=
  fun p e s0 m args below meth c0 H locs ls C X hl => lv_goto C.1 C.2.1 hd ht (k p e s0 m args below meth c0 H locs ls C X hl)

theorem mw_lcmp {x y : Int64} (hd : decode cc pc = .ok (.lcmp, 1)) (k : MW l E cc own nL ret ini R mc ms res n c s σ (pc + 1) L (.int (lg_cmp x y) :: st)) : MW l E cc own nL ret ini R mc ms res n c s σ pc L (.long y :: .long x :: st) :=
  fun p e s0 m args below meth c0 H locs ls C X hl => W.lcmp C.1 C.2.1 hd (k p e s0 m args below meth c0 H locs ls C X hl)

theorem mw_lc_eq {x y : Int64} {off : Int} {tgt : Nat} (hd0 : decode cc pc = .ok (.lcmp, 1)) (hd : decode cc (pc + 1) = .ok (.ifCond .eq off, 3)) (ht : ((pc + 1 : Nat) : Int) + off = (tgt : Int)) (kt : x = y → MW l E cc own nL ret ini R mc ms res n c s σ tgt L st) (kf : ¬ x = y → MW l E cc own nL ret ini R mc ms res n c s σ (pc + 1 + 3) L st) : MW l E cc own nL ret ini R mc ms res n c s σ pc L (.long y :: .long x :: st) :=
  mw_lcmp hd0 (mw_if_eq hd ht (fun h => kt ((lg_cmp_eq x y).mp h)) (fun h => kf (fun q => h ((lg_cmp_eq x y).mpr q))))

theorem mw_lc_ne {x y : Int64} {off : Int} {tgt : Nat} (hd0 : decode cc pc = .ok (.lcmp, 1)) (hd : decode cc (pc + 1) = .ok (.ifCond .ne off, 3)) (ht : ((pc + 1 : Nat) : Int) + off = (tgt : Int)) (kt : ¬ x = y → MW l E cc own nL ret ini R mc ms res n c s σ tgt L st) (kf : x = y → MW l E cc own nL ret ini R mc ms res n c s σ (pc + 1 + 3) L st) : MW l E cc own nL ret ini R mc ms res n c s σ pc L (.long y :: .long x :: st) :=
  mw_lcmp hd0 (mw_if_ne hd ht (fun h => kt (fun q => h ((lg_cmp_eq x y).mpr q))) (fun h => kf ((lg_cmp_eq x y).mp h)))

theorem mw_lc_lt {x y : Int64} {off : Int} {tgt : Nat} (hd0 : decode cc pc = .ok (.lcmp, 1)) (hd : decode cc (pc + 1) = .ok (.ifCond .lt off, 3)) (ht : ((pc + 1 : Nat) : Int) + off = (tgt : Int)) (kt : x < y → MW l E cc own nL ret ini R mc ms res n c s σ tgt L st) (kf : ¬ x < y → MW l E cc own nL ret ini R mc ms res n c s σ (pc + 1 + 3) L st) : MW l E cc own nL ret ini R mc ms res n c s σ pc L (.long y :: .long x :: st) :=
  mw_lcmp hd0 (mw_if_lt hd ht (fun h => kt ((lg_cmp_lt x y).mp h)) (fun h => kf (fun q => h ((lg_cmp_lt x y).mpr q))))

theorem mw_lc_ge {x y : Int64} {off : Int} {tgt : Nat} (hd0 : decode cc pc = .ok (.lcmp, 1)) (hd : decode cc (pc + 1) = .ok (.ifCond .ge off, 3)) (ht : ((pc + 1 : Nat) : Int) + off = (tgt : Int)) (kt : y ≤ x → MW l E cc own nL ret ini R mc ms res n c s σ tgt L st) (kf : ¬ y ≤ x → MW l E cc own nL ret ini R mc ms res n c s σ (pc + 1 + 3) L st) : MW l E cc own nL ret ini R mc ms res n c s σ pc L (.long y :: .long x :: st) :=
  mw_lcmp hd0 (mw_if_ge hd ht (fun h => kt ((lg_cmp_ge x y).mp h)) (fun h => kf (fun q => h ((lg_cmp_ge x y).mpr q))))

theorem mw_lc_gt {x y : Int64} {off : Int} {tgt : Nat} (hd0 : decode cc pc = .ok (.lcmp, 1)) (hd : decode cc (pc + 1) = .ok (.ifCond .gt off, 3)) (ht : ((pc + 1 : Nat) : Int) + off = (tgt : Int)) (kt : y < x → MW l E cc own nL ret ini R mc ms res n c s σ tgt L st) (kf : ¬ y < x → MW l E cc own nL ret ini R mc ms res n c s σ (pc + 1 + 3) L st) : MW l E cc own nL ret ini R mc ms res n c s σ pc L (.long y :: .long x :: st) :=
  mw_lcmp hd0 (mw_if_gt hd ht (fun h => kt ((lg_cmp_gt x y).mp h)) (fun h => kf (fun q => h ((lg_cmp_gt x y).mpr q))))

theorem mw_lc_le {x y : Int64} {off : Int} {tgt : Nat} (hd0 : decode cc pc = .ok (.lcmp, 1)) (hd : decode cc (pc + 1) = .ok (.ifCond .le off, 3)) (ht : ((pc + 1 : Nat) : Int) + off = (tgt : Int)) (kt : x ≤ y → MW l E cc own nL ret ini R mc ms res n c s σ tgt L st) (kf : ¬ x ≤ y → MW l E cc own nL ret ini R mc ms res n c s σ (pc + 1 + 3) L st) : MW l E cc own nL ret ini R mc ms res n c s σ pc L (.long y :: .long x :: st) :=
  mw_lcmp hd0 (mw_if_le hd ht (fun h => kt ((lg_cmp_le x y).mp h)) (fun h => kf (fun q => h ((lg_cmp_le x y).mpr q))))

theorem mw_ldc {i0 : Nat} {v : Int32} (hd : decode cc pc = .ok (.ldc i0, 2)) (hw : Cond.constant own i0 v ∈ mWT) (k : MW l E cc own nL ret ini R mc ms res n c s σ (pc + 2) L (.int v :: st)) : MW l E cc own nL ret ini R mc ms res n c s σ pc L st :=
  fun p e s0 m args below meth c0 H locs ls C X hl => lv_ldc C.1 C.2.1 C.2.2.2.2.2.1 (C.2.2.2.2.1 _ hw) hd (k p e s0 m args below meth c0 H locs ls C X hl)
theorem mw_ldcw {i0 : Nat} {v : Int32} (hd : decode cc pc = .ok (.ldc_w i0, 3)) (hw : Cond.constant own i0 v ∈ mWT) (k : MW l E cc own nL ret ini R mc ms res n c s σ (pc + 3) L (.int v :: st)) : MW l E cc own nL ret ini R mc ms res n c s σ pc L st :=
  fun p e s0 m args below meth c0 H locs ls C X hl => lv_ldcw C.1 C.2.1 C.2.2.2.2.2.1 (C.2.2.2.2.1 _ hw) hd (k p e s0 m args below meth c0 H locs ls C X hl)
theorem mw_ldc2 {i0 : Nat} {v : Int64} (hd : decode cc pc = .ok (.ldc2_w i0, 3)) (hw : Cond.constantLong own i0 v ∈ mWT) (k : MW l E cc own nL ret ini R mc ms res n c s σ (pc + 3) L (.long v :: st)) : MW l E cc own nL ret ini R mc ms res n c s σ pc L st :=
  fun p e s0 m args below meth c0 H locs ls C X hl => lv_ldc2 C.1 C.2.1 C.2.2.2.2.2.1 (C.2.2.2.2.1 _ hw) hd (k p e s0 m args below meth c0 H locs ls C X hl)

theorem mw_get {k j ci i0 : Nat} {ref C0 : String} {T : u_T} {N : Nat} {v : Value} (hd : decode cc pc = .ok (.getfield i0, 3)) (hk : k < n) (hs : mshp k = .inr ci) (hc : vwCl[ci]? = some (C0, T, N)) (hN : mnF ci = N) (hj : j < N) (hin : ∀ w ∈ u_ws C0 T N, w ∈ mWT) (hw : Cond.fieldLink own i0 ref (T j).2.1 (T j).2.2.1 ∈ mWT) (hsm : ref = (T j).1 ∨ Cond.sameField ref (T j).1 (T j).2.1 (T j).2.2.1 ∈ mWT) (hv : mfv (mft ci j) σ k j = v) (kk : MW l E cc own nL ret ini R mc ms res n c s σ (pc + 3) L (v :: st)) : MW l E cc own nL ret ini R mc ms res n c s σ pc L (.ref k :: st) := by
  intro p e s0 m args below meth c0 H locs ls C X hl
  have hn : k < 1000 := Nat.lt_of_lt_of_le hk X.1
  have ha : (mwd E n σ)[k]? = some (mad E k, .inr (ci, (List.range (mnF ci)).map (fun j => maf E (mft ci j) σ k j))) := by rw [mwd_at hk, mcel_obj hs]
  have hf : ((List.range (mnF ci)).map (fun j => maf E (mft ci j) σ k j))[j]? = some (mtv E v) := by
    rw [← hv, mtv_mfv, hN]
    simp [hj]
  refine va_get C.1 C.2.1 C.2.2.2.2.1 hin C.2.2.2.2.2.1 C.2.2.2.2.2.2.2.1.1 X.2.2.2.1 k ha hc j hj (C.2.2.2.2.1 _ hw) (fun x hx => ?_) hf hd (kk p e s0 m args below meth c0 H locs ls C X hl)
  rcases hsm with h | h
  · rw [h]; exact hx
  · exact u_same (C.2.2.2.2.1 _ h) x hx
theorem maf_uI {E : MX} {σ : MSt} {k j i : Nat} {v : Int32} {ty : FieldType} (h : i = j → ty = .int ∨ ty = .boolean) : maf E ty (muI σ k j v) k i = if i = j then .int v else maf E ty σ k i := by
  by_cases q : i = j
  · subst q
    rw [if_pos rfl]
    rcases h rfl with r | r <;> subst r <;> simp [maf, mmI_uI]
  · rw [if_neg q]
    exact maf_congr (by rw [mmI_uI, if_neg (fun z => q z.2)]) rfl rfl
theorem maf_uL {E : MX} {σ : MSt} {k j i : Nat} {v : Int64} {ty : FieldType} (h : i = j → ty = .long) : maf E ty (muL σ k j v) k i = if i = j then .long v else maf E ty σ k i := by
  by_cases q : i = j
  · subst q
    rw [if_pos rfl]
    rw [h rfl]
    simp [maf, mmL_uL]
  · rw [if_neg q]
    exact maf_congr rfl (by rw [mmL_uL, if_neg (fun z => q z.2)]) rfl
theorem maf_uR {E : MX} {σ : MSt} {k j i : Nat} {v : Option Nat} {ty : FieldType} (h : i = j → mfr ty = true) : maf E ty (muR σ k j v) k i = if i = j then va_rf (v.map (mad E)) else maf E ty σ k i := by
  by_cases q : i = j
  · subst q
    rw [if_pos rfl]
    have h := h rfl
    cases ty <;> first | (simp [mfr] at h; done) | simp [maf, mmR_uR]
  · rw [if_neg q]
    exact maf_congr rfl rfl (by rw [mmR_uR, if_neg (fun z => q z.2)])
theorem mset_map {α : Type} (N j : Nat) (f g : Nat → α) (v : α) (h : ∀ i, g i = if i = j then v else f i) : ((List.range N).map f).set j v = (List.range N).map g := by
  apply List.ext_getElem?
  intro i
  by_cases hi : i = j
  · subst hi
    by_cases hN : i < N
    · rw [List.getElem?_set_self (by simpa using hN)]
      simp [hN, h]
    · rw [List.getElem?_eq_none (by simp; omega), List.getElem?_eq_none (by simp; omega)]
  · rw [List.getElem?_set_ne (Ne.symm hi)]
    by_cases hN : i < N
    · simp [hN, h, hi]
    · rw [List.getElem?_eq_none (by simp; omega), List.getElem?_eq_none (by simp; omega)]
theorem mw_put0 {k j ci i0 : Nat} {ref C0 : String} {T : u_T} {N : Nat} {v : Value} {ty : FieldType} (ty0 : Nat → FieldType) (hty : ∀ k, k < N → parseFieldDescriptor (T k).2.2.1 = some (ty0 k)) (hnm : ∀ a, a < N → ∀ b, b < N → a ≠ b → (T a).2.1 ≠ (T b).2.1) (hd : decode cc pc = .ok (.putfield i0, 3)) (hk : k < n) (hs : mshp k = .inr ci) (hc : vwCl[ci]? = some (C0, T, N)) (hN : mnF ci = N) (hj : j < N) (hin : ∀ w ∈ u_ws C0 T N, w ∈ mWT) (hw : Cond.fieldLink own i0 ref (T j).2.1 (T j).2.2.1 ∈ mWT) (hsm : ref = (T j).1 ∨ Cond.sameField ref (T j).1 (T j).2.1 (T j).2.2.1 ∈ mWT) (hfin : (T j).2.2.2 = false ∨ ((T j).2.2.2 = true ∧ ini = true ∧ (T j).1 = own)) (hdt : parseFieldDescriptor (T j).2.2.1 = some ty) (hnar : narrow ty (mtv E v) = mtv E v) (hfit : fits ty (mtv E v) = true) (hσ : (mwd E n σ).set k (mad E k, .inr (ci, ((List.range (mnF ci)).map (fun j => maf E (mft ci j) σ k j)).set j (mtv E v))) = mwd E n σ') (kk : MW l E cc own nL ret ini R mc ms res n c s σ' (pc + 3) L st) : MW l E cc own nL ret ini R mc ms res n c s σ pc L (v :: .ref k :: st) := by
  intro p e s0 m args below meth c0 H locs ls C X hl
  have ha : (mwd E n σ)[k]? = some (mad E k, .inr (ci, (List.range (mnF ci)).map (fun j => maf E (mft ci j) σ k j))) := by rw [mwd_at hk, mcel_obj hs]
  have hsame : ∀ x, s0.fieldFound? (T j).1 (T j).2.1 (T j).2.2.1 = some x → s0.fieldFound? ref (T j).2.1 (T j).2.2.1 = some x := by
    intro x hx
    rcases hsm with h | h
    · rw [h]; exact hx
    · exact u_same (C.2.2.2.2.1 _ h) x hx
  have hlen : j < ((List.range (mnF ci)).map (fun j => maf E (mft ci j) σ k j)).length := by simp [hN, hj]
  have go : ∀ (H1 : Heap) (locs1 : List Loc), va_P E.1 vwCl ((mwd E n σ).set k (mad E k, .inr (ci, ((List.range (mnF ci)).map (fun j => maf E (mft ci j) σ k j)).set j (mtv E v)))) H1 → va_D (fun q => E.2.2.1 ≤ q) ((mwd E n σ).set k (mad E k, .inr (ci, ((List.range (mnF ci)).map (fun j => maf E (mft ci j) σ k j)).set j (mtv E v)))) → va_S (fun q => E.2.2.1 ≤ q) s0.heap H1 locs1 → W p l e R s0 m args below meth c0 H1 locs1 c s (MQ below (MQc E res) args s0 mc ms (fun q => E.2.2.1 ≤ q)) (F0 m (pc + 3) ls (st.map (mtv E))) := by
    intro H1 locs1 hP _ hS
    rw [hσ] at hP
    exact kk p e s0 m args below meth c0 H1 locs1 ls C ⟨X.1, X.2.1, hS, hP, X.2.2.2.2⟩ hl
  rcases hfin with hf | ⟨hf, hi, ho⟩
  · exact va_put C.1 C.2.1 C.2.2.2.2.1 hin ty0 hty hnm C.2.2.2.2.2.1 C.2.2.2.2.2.2.2.1.1 X.2.2.2.1 (mwd_D X.1) X.2.2.1 k ha hc j hj (C.2.2.2.2.1 _ hw) hsame hf hdt hnar hfit hlen hd go
  · exact va_putF C.1 C.2.1 C.2.2.2.2.1 hin ty0 hty hnm C.2.2.2.2.2.1 C.2.2.2.2.2.2.2.1.1 X.2.2.2.1 (mwd_D X.1) X.2.2.1 k ha hc j hj (C.2.2.2.2.1 _ hw) hsame hf (C.2.2.2.2.2.2.2.2 hi) ho hdt hnar hfit hlen hd go

theorem mw_putI {k j ci i0 : Nat} {ref C0 : String} {T : u_T} {N : Nat} {x : Int32} (ty0 : Nat → FieldType) (hty : ∀ k, k < N → parseFieldDescriptor (T k).2.2.1 = some (ty0 k)) (hnm : ∀ a, a < N → ∀ b, b < N → a ≠ b → (T a).2.1 ≠ (T b).2.1) (hd : decode cc pc = .ok (.putfield i0, 3)) (hk : k < n) (hs : mshp k = .inr ci) (hc : vwCl[ci]? = some (C0, T, N)) (hN : mnF ci = N) (hj : j < N) (hin : ∀ w ∈ u_ws C0 T N, w ∈ mWT) (hw : Cond.fieldLink own i0 ref (T j).2.1 (T j).2.2.1 ∈ mWT) (hsm : ref = (T j).1 ∨ Cond.sameField ref (T j).1 (T j).2.1 (T j).2.2.1 ∈ mWT) (hfin : (T j).2.2.2 = false ∨ ((T j).2.2.2 = true ∧ ini = true ∧ (T j).1 = own)) (hdt : parseFieldDescriptor (T j).2.2.1 = some .int) (hm : mft ci j = .int ∨ mft ci j = .boolean) (kk : MW l E cc own nL ret ini R mc ms res n c s (muI σ k j x) (pc + 3) L st) : MW l E cc own nL ret ini R mc ms res n c s σ pc L (.int x :: .ref k :: st) :=
  mw_put0 ty0 hty hnm hd hk hs hc hN hj hin hw hsm hfin hdt rfl rfl (mwd_set hk (by rw [mcel_obj hs]; congr 2; exact (mset_map _ j _ _ _ (fun i => maf_uI (fun q => by rw [q]; exact hm))).symm) (fun a ha => mcel_uI ha)) kk

theorem mw_putZ {k j ci i0 : Nat} {ref C0 : String} {T : u_T} {N : Nat} {x : Int32} (ty0 : Nat → FieldType) (hty : ∀ k, k < N → parseFieldDescriptor (T k).2.2.1 = some (ty0 k)) (hnm : ∀ a, a < N → ∀ b, b < N → a ≠ b → (T a).2.1 ≠ (T b).2.1) (hd : decode cc pc = .ok (.putfield i0, 3)) (hk : k < n) (hs : mshp k = .inr ci) (hc : vwCl[ci]? = some (C0, T, N)) (hN : mnF ci = N) (hj : j < N) (hin : ∀ w ∈ u_ws C0 T N, w ∈ mWT) (hw : Cond.fieldLink own i0 ref (T j).2.1 (T j).2.2.1 ∈ mWT) (hsm : ref = (T j).1 ∨ Cond.sameField ref (T j).1 (T j).2.1 (T j).2.2.1 ∈ mWT) (hfin : (T j).2.2.2 = false ∨ ((T j).2.2.2 = true ∧ ini = true ∧ (T j).1 = own)) (hdt : parseFieldDescriptor (T j).2.2.1 = some .boolean) (hm : mft ci j = .int ∨ mft ci j = .boolean) (hx : x = 0 ∨ x = 1) (kk : MW l E cc own nL ret ini R mc ms res n c s (muI σ k j x) (pc + 3) L st) : MW l E cc own nL ret ini R mc ms res n c s σ pc L (.int x :: .ref k :: st) :=
  mw_put0 ty0 hty hnm hd hk hs hc hN hj hin hw hsm hfin hdt (mb01 hx).1 (mb01 hx).2 (mwd_set hk (by rw [mcel_obj hs]; congr 2; exact (mset_map _ j _ _ _ (fun i => maf_uI (fun q => by rw [q]; exact hm))).symm) (fun a ha => mcel_uI ha)) kk

theorem mw_putL {k j ci i0 : Nat} {ref C0 : String} {T : u_T} {N : Nat} {x : Int64} (ty0 : Nat → FieldType) (hty : ∀ k, k < N → parseFieldDescriptor (T k).2.2.1 = some (ty0 k)) (hnm : ∀ a, a < N → ∀ b, b < N → a ≠ b → (T a).2.1 ≠ (T b).2.1) (hd : decode cc pc = .ok (.putfield i0, 3)) (hk : k < n) (hs : mshp k = .inr ci) (hc : vwCl[ci]? = some (C0, T, N)) (hN : mnF ci = N) (hj : j < N) (hin : ∀ w ∈ u_ws C0 T N, w ∈ mWT) (hw : Cond.fieldLink own i0 ref (T j).2.1 (T j).2.2.1 ∈ mWT) (hsm : ref = (T j).1 ∨ Cond.sameField ref (T j).1 (T j).2.1 (T j).2.2.1 ∈ mWT) (hfin : (T j).2.2.2 = false ∨ ((T j).2.2.2 = true ∧ ini = true ∧ (T j).1 = own)) (hdt : parseFieldDescriptor (T j).2.2.1 = some .long) (hm : mft ci j = .long) (kk : MW l E cc own nL ret ini R mc ms res n c s (muL σ k j x) (pc + 3) L st) : MW l E cc own nL ret ini R mc ms res n c s σ pc L (.long x :: .ref k :: st) :=
  mw_put0 ty0 hty hnm hd hk hs hc hN hj hin hw hsm hfin hdt rfl rfl (mwd_set hk (by rw [mcel_obj hs]; congr 2; exact (mset_map _ j _ _ _ (fun i => maf_uL (fun q => by rw [q]; exact hm))).symm) (fun a ha => mcel_uL ha)) kk

theorem mw_putR {k j ci i0 : Nat} {ref C0 : String} {T : u_T} {N : Nat} {x : Nat} {ty : FieldType} (ty0 : Nat → FieldType) (hty : ∀ k, k < N → parseFieldDescriptor (T k).2.2.1 = some (ty0 k)) (hnm : ∀ a, a < N → ∀ b, b < N → a ≠ b → (T a).2.1 ≠ (T b).2.1) (hd : decode cc pc = .ok (.putfield i0, 3)) (hk : k < n) (hs : mshp k = .inr ci) (hc : vwCl[ci]? = some (C0, T, N)) (hN : mnF ci = N) (hj : j < N) (hin : ∀ w ∈ u_ws C0 T N, w ∈ mWT) (hw : Cond.fieldLink own i0 ref (T j).2.1 (T j).2.2.1 ∈ mWT) (hsm : ref = (T j).1 ∨ Cond.sameField ref (T j).1 (T j).2.1 (T j).2.2.1 ∈ mWT) (hfin : (T j).2.2.2 = false ∨ ((T j).2.2.2 = true ∧ ini = true ∧ (T j).1 = own)) (hdt : parseFieldDescriptor (T j).2.2.1 = some ty) (hm : mfr (mft ci j) = true) (hr : mfr ty = true) (kk : MW l E cc own nL ret ini R mc ms res n c s (muR σ k j (some x)) (pc + 3) L st) : MW l E cc own nL ret ini R mc ms res n c s σ pc L (.ref x :: .ref k :: st) :=
  mw_put0 ty0 hty hnm hd hk hs hc hN hj hin hw hsm hfin hdt (mfr_nar hr _) (mfr_fit hr _) (mwd_set hk (by rw [mcel_obj hs]; congr 2; exact (mset_map _ j _ _ _ (fun i => maf_uR (fun q => by rw [q]; exact hm))).symm) (fun a ha => mcel_uR ha)) kk

theorem mw_iald {k N : Nat} {i : Int32} (hd : decode cc pc = .ok (.iaload, 1)) (hk : k < n) (hs : mshp k = .inl (0, N)) (hi : vp_in i N) (kk : MW l E cc own nL ret ini R mc ms res n c s σ (pc + 1) L (.int (mmI σ k i.toNatClampNeg) :: st)) : MW l E cc own nL ret ini R mc ms res n c s σ pc L (.int i :: .ref k :: st) :=
  fun p e s0 m args below meth c0 H locs ls C X hl => va_iald (tys := mtys E) C.1 C.2.1 C.2.2.2.2.2.2.2.1.1 X.2.2.2.1 k 0 (by rw [mwd_at hk, mcel_arr hs]; rfl) rfl hi hd (kk p e s0 m args below meth c0 H locs ls C X hl)

theorem mw_lald {k N : Nat} {i : Int32} (hd : decode cc pc = .ok (.laload, 1)) (hk : k < n) (hs : mshp k = .inl (1, N)) (hi : vp_in i N) (kk : MW l E cc own nL ret ini R mc ms res n c s σ (pc + 1) L (.long (mmL σ k i.toNatClampNeg) :: st)) : MW l E cc own nL ret ini R mc ms res n c s σ pc L (.int i :: .ref k :: st) :=
  fun p e s0 m args below meth c0 H locs ls C X hl => va_lald (tys := mtys E) C.1 C.2.1 C.2.2.2.2.2.2.2.1.1 X.2.2.2.1 k 1 (by rw [mwd_at hk, mcel_arr hs]; rfl) rfl hi hd (kk p e s0 m args below meth c0 H locs ls C X hl)

theorem mw_zald {k N : Nat} {i : Int32} (hd : decode cc pc = .ok (.baload, 1)) (hk : k < n) (hs : mshp k = .inl (2, N)) (hi : vp_in i N) (kk : MW l E cc own nL ret ini R mc ms res n c s σ (pc + 1) L (.int (mmI σ k i.toNatClampNeg) :: st)) : MW l E cc own nL ret ini R mc ms res n c s σ pc L (.int i :: .ref k :: st) :=
  fun p e s0 m args below meth c0 H locs ls C X hl => va_zald (tys := mtys E) C.1 C.2.1 C.2.2.2.2.2.2.2.1.1 X.2.2.2.1 k 2 (by rw [mwd_at hk, mcel_arr hs]; rfl) rfl hi hd (kk p e s0 m args below meth c0 H locs ls C X hl)

theorem mw_cald {k N : Nat} {i : Int32} (hd : decode cc pc = .ok (.caload, 1)) (hk : k < n) (hs : mshp k = .inl (3, N)) (hi : vp_in i N) (kk : MW l E cc own nL ret ini R mc ms res n c s σ (pc + 1) L (.int (mmI σ k i.toNatClampNeg) :: st)) : MW l E cc own nL ret ini R mc ms res n c s σ pc L (.int i :: .ref k :: st) :=
  fun p e s0 m args below meth c0 H locs ls C X hl => va_cald (tys := mtys E) C.1 C.2.1 C.2.2.2.2.2.2.2.1.1 X.2.2.2.1 k 3 (by rw [mwd_at hk, mcel_arr hs]; rfl) rfl hi hd (kk p e s0 m args below meth c0 H locs ls C X hl)

theorem mw_aald {k N : Nat} {i : Int32} {v : Nat} (hd : decode cc pc = .ok (.aaload, 1)) (hk : k < n) (hs : mshp k = .inl (4, N)) (hi : vp_in i N) (hv : mmR σ k i.toNatClampNeg = some v) (kk : MW l E cc own nL ret ini R mc ms res n c s σ (pc + 1) L (.ref v :: st)) : MW l E cc own nL ret ini R mc ms res n c s σ pc L (.int i :: .ref k :: st) :=
  fun p e s0 m args below meth c0 H locs ls C X hl => va_aldq (tys := mtys E) C.1 C.2.1 C.2.2.2.2.2.2.2.1.1 X.2.2.2.1 k 4 (by rw [mwd_at hk, mcel_arr hs]; rfl) rfl hi hd (by show W _ _ _ _ _ _ _ _ _ _ _ _ _ _ _ (F0 _ _ _ (va_rf ((mmR σ k i.toNatClampNeg).map (mad E)) :: _)); rw [hv]; exact kk p e s0 m args below meth c0 H locs ls C X hl)

theorem mwd_sI0 {k N j : Nat} {v : Int32} (hk : k < n) (hs : mshp k = .inl (0, N)) : (mwd E n σ).set k (mad E k, .inl (E.2.1 0, N, .inl (upd (mmI σ k) j v))) = mwd E n (muI σ k j v) :=
  mwd_set hk ((mcel_arr hs).trans (congrArg (fun f => (Sum.inl (E.2.1 0, N, Sum.inl f) : va_E)) (mmI_upd σ k j v))) (fun a ha => mcel_uI ha)

theorem mwd_sI2 {k N j : Nat} {v : Int32} (hk : k < n) (hs : mshp k = .inl (2, N)) : (mwd E n σ).set k (mad E k, .inl (E.2.1 2, N, .inl (upd (mmI σ k) j v))) = mwd E n (muI σ k j v) :=
  mwd_set hk ((mcel_arr hs).trans (congrArg (fun f => (Sum.inl (E.2.1 2, N, Sum.inl f) : va_E)) (mmI_upd σ k j v))) (fun a ha => mcel_uI ha)

theorem mwd_sI3 {k N j : Nat} {v : Int32} (hk : k < n) (hs : mshp k = .inl (3, N)) : (mwd E n σ).set k (mad E k, .inl (E.2.1 3, N, .inl (upd (mmI σ k) j v))) = mwd E n (muI σ k j v) :=
  mwd_set hk ((mcel_arr hs).trans (congrArg (fun f => (Sum.inl (E.2.1 3, N, Sum.inl f) : va_E)) (mmI_upd σ k j v))) (fun a ha => mcel_uI ha)

theorem mwd_sL1 {k N j : Nat} {v : Int64} (hk : k < n) (hs : mshp k = .inl (1, N)) : (mwd E n σ).set k (mad E k, .inl (E.2.1 1, N, .inr (.inl (vp_updL (mmL σ k) j v)))) = mwd E n (muL σ k j v) :=
  mwd_set hk ((mcel_arr hs).trans (congrArg (fun f => (Sum.inl (E.2.1 1, N, Sum.inr (Sum.inl f)) : va_E)) (mmL_upd σ k j v))) (fun a ha => mcel_uL ha)
theorem mwd_cI0 {k0 k N sp dp z : Nat} (hk : k < n) (hs : mshp k = .inl (0, N)) : (mwd E n σ).set k (mad E k, .inl (E.2.1 0, N, .inl (va_cpy (mmI σ k0) (mmI σ k) sp dp z))) = mwd E n (mcpI σ k0 sp k dp z) :=
  mwd_set hk ((mcel_arr hs).trans (congrArg (fun f => (Sum.inl (E.2.1 0, N, Sum.inl f) : va_E)) (mmI_cp σ k0 sp k dp z))) (fun a ha => mcpI_cel ha)
theorem mwd_cL1 {k0 k N sp dp z : Nat} (hk : k < n) (hs : mshp k = .inl (1, N)) : (mwd E n σ).set k (mad E k, .inl (E.2.1 1, N, .inr (.inl (va_cpy (mmL σ k0) (mmL σ k) sp dp z)))) = mwd E n (mcpL σ k0 sp k dp z) :=
  mwd_set hk ((mcel_arr hs).trans (congrArg (fun f => (Sum.inl (E.2.1 1, N, Sum.inr (Sum.inl f)) : va_E)) (mmL_cp σ k0 sp k dp z))) (fun a ha => mcpL_cel ha)

theorem mw_iast {k N : Nat} {i : Int32} {x : Int32} (hd : decode cc pc = .ok (.iastore, 1)) (hk : k < n) (hs : mshp k = .inl (0, N)) (hi : vp_in i N) (kk : MW l E cc own nL ret ini R mc ms res n c s (muI σ k i.toNatClampNeg x) (pc + 1) L st) : MW l E cc own nL ret ini R mc ms res n c s σ pc L (.int x :: .int i :: .ref k :: st) :=
  fun p e s0 m args below meth c0 H locs ls C X hl => va_iast (tys := mtys E) C.1 C.2.1 C.2.2.2.2.2.2.2.1.1 X.2.2.2.1 (mwd_D X.1) X.2.2.1 k 0 (by rw [mwd_at hk, mcel_arr hs]; rfl) rfl hi hd (fun H1 locs1 hP _ hS => kk p e s0 m args below meth c0 H1 locs1 ls C ⟨X.1, X.2.1, hS, by rw [← mwd_sI0 hk hs]; exact hP, X.2.2.2.2⟩ hl)

theorem mw_last {k N : Nat} {i : Int32} {x : Int64} (hd : decode cc pc = .ok (.lastore, 1)) (hk : k < n) (hs : mshp k = .inl (1, N)) (hi : vp_in i N) (kk : MW l E cc own nL ret ini R mc ms res n c s (muL σ k i.toNatClampNeg x) (pc + 1) L st) : MW l E cc own nL ret ini R mc ms res n c s σ pc L (.long x :: .int i :: .ref k :: st) :=
  fun p e s0 m args below meth c0 H locs ls C X hl => va_last (tys := mtys E) C.1 C.2.1 C.2.2.2.2.2.2.2.1.1 X.2.2.2.1 (mwd_D X.1) X.2.2.1 k 1 (by rw [mwd_at hk, mcel_arr hs]; rfl) rfl hi hd (fun H1 locs1 hP _ hS => kk p e s0 m args below meth c0 H1 locs1 ls C ⟨X.1, X.2.1, hS, by rw [← mwd_sL1 hk hs]; exact hP, X.2.2.2.2⟩ hl)

theorem mw_zast {k N : Nat} {i : Int32} {x : Int32} (hd : decode cc pc = .ok (.bastore, 1)) (hk : k < n) (hs : mshp k = .inl (2, N)) (hi : vp_in i N) (kk : MW l E cc own nL ret ini R mc ms res n c s (muI σ k i.toNatClampNeg (vp_nar .boolean x)) (pc + 1) L st) : MW l E cc own nL ret ini R mc ms res n c s σ pc L (.int x :: .int i :: .ref k :: st) :=
  fun p e s0 m args below meth c0 H locs ls C X hl => va_zast (tys := mtys E) C.1 C.2.1 C.2.2.2.2.2.2.2.1.1 X.2.2.2.1 (mwd_D X.1) X.2.2.1 k 2 (by rw [mwd_at hk, mcel_arr hs]; rfl) rfl hi hd (fun H1 locs1 hP _ hS => kk p e s0 m args below meth c0 H1 locs1 ls C ⟨X.1, X.2.1, hS, by rw [← mwd_sI2 hk hs]; exact hP, X.2.2.2.2⟩ hl)

theorem mw_cast {k N : Nat} {i : Int32} {x : Int32} (hd : decode cc pc = .ok (.castore, 1)) (hk : k < n) (hs : mshp k = .inl (3, N)) (hi : vp_in i N) (kk : MW l E cc own nL ret ini R mc ms res n c s (muI σ k i.toNatClampNeg (vp_nar .char x)) (pc + 1) L st) : MW l E cc own nL ret ini R mc ms res n c s σ pc L (.int x :: .int i :: .ref k :: st) :=
  fun p e s0 m args below meth c0 H locs ls C X hl => va_cast (tys := mtys E) C.1 C.2.1 C.2.2.2.2.2.2.2.1.1 X.2.2.2.1 (mwd_D X.1) X.2.2.1 k 3 (by rw [mwd_at hk, mcel_arr hs]; rfl) rfl hi hd (fun H1 locs1 hP _ hS => kk p e s0 m args below meth c0 H1 locs1 ls C ⟨X.1, X.2.1, hS, by rw [← mwd_sI3 hk hs]; exact hP, X.2.2.2.2⟩ hl)

theorem mw_copyI {k0 k1 N0 N1 i0 : Nat} {sp dp z : Int32} (hd : decode cc pc = .ok (.invokestatic i0, 3)) (hw1 : Cond.methodLink own i0 arraycopyName ∈ mWT) (hw2 : Cond.native arraycopyName ∈ mWT) (hw3 : Cond.static arraycopyName ∈ mWT) (hw4 : Cond.initialized "java/lang/System" ∈ mWT) (hk0 : k0 < n) (hk1 : k1 < n) (hs0 : mshp k0 = .inl (0, N0)) (hs1 : mshp k1 = .inl (0, N1)) (h1 : ¬ sp < 0) (h2 : ¬ dp < 0) (h3 : ¬ z < 0) (h4 : sp.toNatClampNeg + z.toNatClampNeg ≤ N0) (h5 : dp.toNatClampNeg + z.toNatClampNeg ≤ N1) (hR : 1 ≤ R.frames) (hR2 : (st.map fun v => v.category).sum + (nativeFrameWords "java/lang/System" "arraycopy" 5 + 11) ≤ R.locals) (kk : MW l E cc own nL ret ini R mc ms res n c s (mcpI σ k0 sp.toNatClampNeg k1 dp.toNatClampNeg z.toNatClampNeg) (pc + 3) L st) : MW l E cc own nL ret ini R mc ms res n c s σ pc L (.int z :: .int dp :: .ref k1 :: .int sp :: .ref k0 :: st) :=
  fun p e s0 m args below meth c0 H locs ls C X hl => va_copyi (tys := mtys E) C.1 C.2.1 (C.2.2.2.1.trans hl.1.symm) C.2.2.2.2.2.1 (C.2.2.2.2.1 _ hw1) (C.2.2.2.2.1 _ hw2) (C.2.2.2.2.1 _ hw3) (C.2.2.2.2.1 _ hw4) C.2.2.2.2.2.2.2.1.1 X.2.2.2.1 (mwd_D X.1) X.2.2.1 k0 k1 0 0 (ty := .int) (by rw [mwd_at hk0, mcel_arr hs0]; rfl) (by rw [mwd_at hk1, mcel_arr hs1]; rfl) rfl rfl rfl h1 h2 h3 h4 h5 (fun _ _ => rfl) hR (by rw [mcatsum]; exact hR2) hd (fun H1 locs1 hP _ hS => kk p e s0 m args below meth c0 H1 locs1 ls C ⟨X.1, X.2.1, hS, by rw [← mwd_cI0 hk1 hs1]; exact hP, X.2.2.2.2⟩ hl)

theorem mw_copyL {k0 k1 N0 N1 i0 : Nat} {sp dp z : Int32} (hd : decode cc pc = .ok (.invokestatic i0, 3)) (hw1 : Cond.methodLink own i0 arraycopyName ∈ mWT) (hw2 : Cond.native arraycopyName ∈ mWT) (hw3 : Cond.static arraycopyName ∈ mWT) (hw4 : Cond.initialized "java/lang/System" ∈ mWT) (hk0 : k0 < n) (hk1 : k1 < n) (hs0 : mshp k0 = .inl (1, N0)) (hs1 : mshp k1 = .inl (1, N1)) (h1 : ¬ sp < 0) (h2 : ¬ dp < 0) (h3 : ¬ z < 0) (h4 : sp.toNatClampNeg + z.toNatClampNeg ≤ N0) (h5 : dp.toNatClampNeg + z.toNatClampNeg ≤ N1) (hR : 1 ≤ R.frames) (hR2 : (st.map fun v => v.category).sum + (nativeFrameWords "java/lang/System" "arraycopy" 5 + 11) ≤ R.locals) (kk : MW l E cc own nL ret ini R mc ms res n c s (mcpL σ k0 sp.toNatClampNeg k1 dp.toNatClampNeg z.toNatClampNeg) (pc + 3) L st) : MW l E cc own nL ret ini R mc ms res n c s σ pc L (.int z :: .int dp :: .ref k1 :: .int sp :: .ref k0 :: st) :=
  fun p e s0 m args below meth c0 H locs ls C X hl => va_copyl (tys := mtys E) C.1 C.2.1 (C.2.2.2.1.trans hl.1.symm) C.2.2.2.2.2.1 (C.2.2.2.2.1 _ hw1) (C.2.2.2.2.1 _ hw2) (C.2.2.2.2.1 _ hw3) (C.2.2.2.2.1 _ hw4) C.2.2.2.2.2.2.2.1.1 X.2.2.2.1 (mwd_D X.1) X.2.2.1 k0 k1 1 1 (ty := .long) (by rw [mwd_at hk0, mcel_arr hs0]; rfl) (by rw [mwd_at hk1, mcel_arr hs1]; rfl) rfl rfl rfl h1 h2 h3 h4 h5 (fun _ _ => rfl) hR (by rw [mcatsum]; exact hR2) hd (fun H1 locs1 hP _ hS => kk p e s0 m args below meth c0 H1 locs1 ls C ⟨X.1, X.2.1, hS, by rw [← mwd_cL1 hk1 hs1]; exact hP, X.2.2.2.2⟩ hl)

theorem mret_q {E : MX} {n c : Nat} {σ : MSt} {s : State} {H : Heap} {locs : List Loc} {r : Option Value} {args : Array Value} (X : MHx E n c σ s H locs) (hz : H.size = E.2.2.1 + n) (t : State) (ht : t.heap = H) : MQc E (n, r, σ) args s (.returned (r.map (mtv E))) t :=
  ⟨rfl, by rw [ht]; exact X.2.2.2.1, by rw [ht]; exact hz, by rw [ht]; exact X.2.2.1.1, fun q h1 h2 => by rw [ht]; exact X.2.2.1.2.1 q h1 h2⟩
theorem mw_iret {x : Int32} (hd : decode cc pc = .ok (.ireturn, 1)) (hr : ret = some .int) (hres : res = (n, some (.int x), σ)) (hc : c = mc) (hs : s = ms) : MW l E cc own nL ret ini R mc ms res n c s σ pc L [.int x] := by
  intro p e s0 m args below meth c0 H locs ls C X hl
  subst hres; subst hc; subst hs
  exact X.size (fun hz => W.iret (hlocks := C.2.2.2.2.2.2.1) C.1 C.2.1 (C.2.2.1.trans hr) (fun t ht _ => mret_q X hz t ht) X.2.2.1.2.2 hd)
theorem mw_zret {x : Int32} (hd : decode cc pc = .ok (.ireturn, 1)) (hr : ret = some .boolean) (hx : x = 0 ∨ x = 1) (hres : res = (n, some (.int x), σ)) (hc : c = mc) (hs : s = ms) : MW l E cc own nL ret ini R mc ms res n c s σ pc L [.int x] := by
  intro p e s0 m args below meth c0 H locs ls C X hl
  subst hres; subst hc; subst hs
  exact X.size (fun hz => W.zret (hlocks := C.2.2.2.2.2.2.1) C.1 C.2.1 (C.2.2.1.trans hr) (mb01 hx).1 (fun t ht _ => mret_q X hz t ht) X.2.2.1.2.2 hd)
theorem mw_cret {x : Int32} (hd : decode cc pc = .ok (.ireturn, 1)) {ty : FieldType} (hr : ret = some ty) (hx : narrow ty (.int x) = .int x) (hres : res = (n, some (.int x), σ)) (hc : c = mc) (hs : s = ms) : MW l E cc own nL ret ini R mc ms res n c s σ pc L [.int x] := by
  intro p e s0 m args below meth c0 H locs ls C X hl
  subst hres; subst hc; subst hs
  exact X.size (fun hz => W.zret (hlocks := C.2.2.2.2.2.2.1) C.1 C.2.1 (C.2.2.1.trans hr) hx (fun t ht _ => mret_q X hz t ht) X.2.2.1.2.2 hd)
theorem mw_lret {x : Int64} (hd : decode cc pc = .ok (.lreturn, 1)) (hr : ret = some .long) (hres : res = (n, some (.long x), σ)) (hc : c = mc) (hs : s = ms) : MW l E cc own nL ret ini R mc ms res n c s σ pc L [.long x] := by
  intro p e s0 m args below meth c0 H locs ls C X hl
  subst hres; subst hc; subst hs
  exact X.size (fun hz => W.lret (hlocks := C.2.2.2.2.2.2.1) C.1 C.2.1 (C.2.2.1.trans hr) (fun t ht _ => mret_q X hz t ht) X.2.2.1.2.2 hd)
theorem mw_vret (hd : decode cc pc = .ok (.return_, 1)) (hr : ret = none) (hres : res = (n, none, σ)) (hc : c = mc) (hs : s = ms) : MW l E cc own nL ret ini R mc ms res n c s σ pc L [] := by
  intro p e s0 m args below meth c0 H locs ls C X hl
  subst hres; subst hc; subst hs
  exact X.size (fun hz => W.vret (hlocks := C.2.2.2.2.2.2.1) C.1 C.2.1 (C.2.2.1.trans hr) (fun t ht _ => mret_q X hz t ht) X.2.2.1.2.2 hd)
theorem mw_sub (qs : List Nat) (hL : lv_pick L qs = L') (k : MW l E cc own nL ret ini R mc ms res n c s σ pc L' st) : MW l E cc own nL ret ini R mc ms res n c s σ pc L st :=
  fun p e s0 m args below meth c0 H locs ls C X hl => k p e s0 m args below meth c0 H locs ls C X (lv_sub hl qs (by rw [← hL]; exact mtl_pick E L qs))

theorem mw_entry {y : MethodName} {args : List Value} (hy : plainName y.cls = true) (ho : y.cls = own) (hi : ini = true → y.name = "<init>") (hL : lv_args 0 args = L) (hn : (lg_sl args).length ≤ nL) (hn1 : n ≤ 1000) (k : ∀ E : MX, MW l E cc own nL ret ini R mc ms res n 0 0 σ 0 L []) : MCt l y cc nL ret R args n σ mc ms res := by
  intro E
  refine Met.ofW (cc := cc) (maxL := nL) (ret := ret) hy rfl ?_
  intro p e s m av below meth c s₁ B hml hv
  obtain ⟨hv0, -, hP, hz, hC⟩ := hv
  subst hv0
  have hl := lv_entry (args.map (mtv E)) (n := nL) (by rw [mlg_len]; exact hn)
  rw [lg_entry_eq]
  generalize (lg_sl (args.map (mtv E)) ++ List.replicate (nL - (lg_sl (args.map (mtv E))).length) Slot.unset).toArray = ls at hl ⊢
  have hts := atoms_spec (ws := Cond.code y cc nL ret :: mWT) B.pre
  refine k E p e s m _ below meth c s.heap [] ls ⟨B.exec, B.bytes, B.returns, hml, fun w hw => hts w (List.mem_cons_of_mem _ hw), by rw [← ho]; exact findClass_of_methodNamed B.named, B.notSynchronized, hC, fun h => (name_of_methodNamed B.named B.method).1.trans (hi h)⟩ ⟨hn1, by omega, va_S.rf, hP, by omega⟩ ?_
  rw [← hL, mtl_args]
  exact hl

theorem mw_callV {y : MethodName} {bytes1 : ByteArray} {maxL1 mc1 ms1 na i0 : Nat} {ret1 : Option FieldType} {rm1 : Room} {As : List Value} {res1 : Nat × Option Value × MSt} {b ci : Nat} {q : vw_C} {st0 : List Value} (hw : MLv own i0 q.1 y bytes1 maxL1 ret1 na) (hd : decode cc pc = .ok (.invokevirtual i0, 3)) (hM : MCt l y bytes1 maxL1 ret1 rm1 (.ref b :: As) n σ mc1 ms1 res1) (hna : As.length = na) (hb : b < n) (hs : mshp b = .inr ci) (hcl : vwCl[ci]? = some q) (hst : (As.reverse ++ .ref b :: st) = st0) (hcs : (st.map fun v => v.category).sum ≤ 8) (hR : rm1.frames + 1 ≤ R.frames ∧ 8 + (maxL1 + 11) + rm1.locals ≤ R.locals) (hrc : rm1.cells = mc1) (hrs : rm1.slots = ms1) (hn : res1.1 = n + mc1) (hn2 : res1.1 ≤ 1000) (hf : c + mc1 ≤ R.cells ∧ s + ms1 ≤ R.slots) (kk : MW l E cc own nL ret ini R mc ms res res1.1 (c + mc1) (s + ms1) res1.2.2 (pc + 3) L (res1.2.1.toList ++ st)) : MW l E cc own nL ret ini R mc ms res n c s σ pc L st0 := by
  intro p e s0 m args below meth c0 H locs ls C X hl
  subst hst
  refine X.size (fun hz => ?_)
  refine mrun X hz hn hn2 (va_runV (As := As.map (mtv E)) (rest := st.map (mtv E)) ⟨C.1, C.2.1, C.2.2.2.1, C.2.2.2.2.2.1, C.2.2.2.2.1⟩ (hM E) (cwV na C.2.2.2.2.1 hw.g rfl hrc hrs hw.2.2.2.2.2 hR) (let P := mpre X hz C.2.2.2.2.2.2.2.1 (.ref b :: As); ⟨P.1, mrecv X C.2.2.2.2.2.2.2.1 hb hs hcl, P.2⟩) rfl (by rw [List.length_map]; exact hna) hl.1 (by simp [F0, mtv]) (lv_room (by rw [mcatsum]; exact hcs)) hd hf) (fun H1 locs1 X1 => ?_)
  have := kk p e s0 m args below meth c0 H1 locs1 ls C X1 hl
  rw [List.map_append, moptl] at this
  exact this

theorem mw_callU {y : MethodName} {bytes1 : ByteArray} {maxL1 mc1 ms1 na i0 : Nat} {ret1 : Option FieldType} {rm1 : Room} {As : List Value} {res1 : Nat × Option Value × MSt} {b ci : Nat} {q : vw_C} {st0 : List Value} {x : MethodName} {owner : String} (hw : MLu own i0 q.1 owner x y bytes1 maxL1 ret1 na) (hyx : y = ⟨owner, x.name, x.desc⟩) (hd : decode cc pc = .ok (.invokevirtual i0, 3)) (hM : MCt l y bytes1 maxL1 ret1 rm1 (.ref b :: As) n σ mc1 ms1 res1) (hna : As.length = na) (hb : b < n) (hs : mshp b = .inr ci) (hcl : vwCl[ci]? = some q) (hst : (As.reverse ++ .ref b :: st) = st0) (hcs : (st.map fun v => v.category).sum ≤ 8) (hR : rm1.frames + 1 ≤ R.frames ∧ 8 + (maxL1 + 11) + rm1.locals ≤ R.locals) (hrc : rm1.cells = mc1) (hrs : rm1.slots = ms1) (hn : res1.1 = n + mc1) (hn2 : res1.1 ≤ 1000) (hf : c + mc1 ≤ R.cells ∧ s + ms1 ≤ R.slots) (kk : MW l E cc own nL ret ini R mc ms res res1.1 (c + mc1) (s + ms1) res1.2.2 (pc + 3) L (res1.2.1.toList ++ st)) : MW l E cc own nL ret ini R mc ms res n c s σ pc L st0 := by
  intro p e s0 m args below meth c0 H locs ls C X hl
  subst hst
  refine X.size (fun hz => ?_)
  refine mrun X hz hn hn2 (va_runU (As := As.map (mtv E)) (rest := st.map (mtv E)) ⟨C.1, C.2.1, C.2.2.2.1, C.2.2.2.2.2.1, C.2.2.2.2.1⟩ (hM E) (va_cwU na C.2.2.2.2.1 hw.g rfl hrc hrs hyx hw.2.2.2.2.2.2 hR) (let P := mpre X hz C.2.2.2.2.2.2.2.1 (.ref b :: As); ⟨P.1, mrecv X C.2.2.2.2.2.2.2.1 hb hs hcl, P.2⟩) rfl (by rw [List.length_map]; exact hna) hl.1 (by simp [F0, mtv]) (lv_room (by rw [mcatsum]; exact hcs)) hd hf) (fun H1 locs1 X1 => ?_)
  have := kk p e s0 m args below meth c0 H1 locs1 ls C X1 hl
  rw [List.map_append, moptl] at this
  exact this

theorem mw_callA {y : MethodName} {bytes1 : ByteArray} {maxL1 mc1 ms1 na i0 : Nat} {ret1 : Option FieldType} {rm1 : Room} {As : List Value} {res1 : Nat × Option Value × MSt} {b ci : Nat} {q : vw_C} {st0 : List Value} (hw : MLu own i0 q.1 "RoundsPerHour$Climb" ⟨"RoundsPerHour$Climb", "pick", "()I"⟩ y bytes1 maxL1 ret1 na) (hd : decode cc pc = .ok (.invokevirtual i0, 3)) (hM : MCt l y bytes1 maxL1 ret1 rm1 (.ref b :: As) n σ mc1 ms1 res1) (hna : As.length = na) (hb : b < n) (hs : mshp b = .inr ci) (hcl : vwCl[ci]? = some q) (hst : (As.reverse ++ .ref b :: st) = st0) (hcs : (st.map fun v => v.category).sum ≤ 8) (hR : rm1.frames + 1 ≤ R.frames ∧ 8 + (maxL1 + 11) + rm1.locals ≤ R.locals) (hrc : rm1.cells = mc1) (hrs : rm1.slots = ms1) (hn : res1.1 = n + mc1) (hn2 : res1.1 ≤ 1000) (hf : c + mc1 ≤ R.cells ∧ s + ms1 ≤ R.slots) (kk : MW l E cc own nL ret ini R mc ms res res1.1 (c + mc1) (s + ms1) res1.2.2 (pc + 3) L (res1.2.1.toList ++ st)) : MW l E cc own nL ret ini R mc ms res n c s σ pc L st0 := by
  intro p e s0 m args below meth c0 H locs ls C X hl
  subst hst
  refine X.size (fun hz => ?_)
  refine mrun X hz hn hn2 (va_runU (As := As.map (mtv E)) (rest := st.map (mtv E)) ⟨C.1, C.2.1, C.2.2.2.1, C.2.2.2.2.2.1, C.2.2.2.2.1⟩ (hM E) (va_cwA na C.2.2.2.2.1 hw.g rfl hrc hrs C.2.2.2.2.2.2.2.1.2.2.1 hw.2.2.2.2.2.2 hR) (let P := mpre X hz C.2.2.2.2.2.2.2.1 (.ref b :: As); ⟨P.1, mrecv X C.2.2.2.2.2.2.2.1 hb hs hcl, P.2⟩) rfl (by rw [List.length_map]; exact hna) hl.1 (by simp [F0, mtv]) (lv_room (by rw [mcatsum]; exact hcs)) hd hf) (fun H1 locs1 X1 => ?_)
  have := kk p e s0 m args below meth c0 H1 locs1 ls C X1 hl
  rw [List.map_append, moptl] at this
  exact this

theorem mw_callS {y : MethodName} {bytes1 : ByteArray} {maxL1 mc1 ms1 na i0 : Nat} {ret1 : Option FieldType} {rm1 : Room} {As : List Value} {res1 : Nat × Option Value × MSt} {st0 : List Value} (hw : MLs own i0 y bytes1 maxL1 ret1 na) (hd : decode cc pc = .ok (.invokestatic i0, 3)) (hM : MCt l y bytes1 maxL1 ret1 rm1 As n σ mc1 ms1 res1) (hna : As.length = na) (hst : (As.reverse ++ st) = st0) (hcs : (st.map fun v => v.category).sum ≤ 8) (hR : rm1.frames + 1 ≤ R.frames ∧ 8 + (maxL1 + 11) + rm1.locals ≤ R.locals) (hrc : rm1.cells = mc1) (hrs : rm1.slots = ms1) (hn : res1.1 = n + mc1) (hn2 : res1.1 ≤ 1000) (hf : c + mc1 ≤ R.cells ∧ s + ms1 ≤ R.slots) (kk : MW l E cc own nL ret ini R mc ms res res1.1 (c + mc1) (s + ms1) res1.2.2 (pc + 3) L (res1.2.1.toList ++ st)) : MW l E cc own nL ret ini R mc ms res n c s σ pc L st0 := by
  intro p e s0 m args below meth c0 H locs ls C X hl
  subst hst
  refine X.size (fun hz => ?_)
  refine mrun X hz hn hn2 (va_runS (As := As.map (mtv E)) (rest := st.map (mtv E)) ⟨C.1, C.2.1, C.2.2.2.1, C.2.2.2.2.2.1, C.2.2.2.2.1⟩ (hM E) (va_cwS na C.2.2.2.2.1 hw.g rfl hrc hrs hw.2.2.2.2 hR) (mpre X hz C.2.2.2.2.2.2.2.1 As) rfl (by rw [List.length_map]; exact hna) hl.1 (by simp [F0, mtv]) (lv_room (by rw [mcatsum]; exact hcs)) hd hf) (fun H1 locs1 X1 => ?_)
  have := kk p e s0 m args below meth c0 H1 locs1 ls C X1 hl
  rw [List.map_append, moptl] at this
  exact this

theorem mw_callSN {y : MethodName} {bytes1 : ByteArray} {maxL1 mc1 ms1 na i0 : Nat} {ret1 : Option FieldType} {rm1 : Room} {As : List Value} {res1 : Nat × Option Value × MSt} {st0 : List Value} {host : String} (hw : MLn own i0 host y bytes1 maxL1 ret1 na) (hd : decode cc pc = .ok (.invokestatic i0, 3)) (hM : MCt l y bytes1 maxL1 ret1 rm1 As n σ mc1 ms1 res1) (hna : As.length = na) (hst : (As.reverse ++ st) = st0) (hcs : (st.map fun v => v.category).sum ≤ 8) (hR : rm1.frames + 1 ≤ R.frames ∧ 8 + (maxL1 + 11) + rm1.locals ≤ R.locals) (hrc : rm1.cells = mc1) (hrs : rm1.slots = ms1) (hn : res1.1 = n + mc1) (hn2 : res1.1 ≤ 1000) (hf : c + mc1 ≤ R.cells ∧ s + ms1 ≤ R.slots) (kk : MW l E cc own nL ret ini R mc ms res res1.1 (c + mc1) (s + ms1) res1.2.2 (pc + 3) L (res1.2.1.toList ++ st)) : MW l E cc own nL ret ini R mc ms res n c s σ pc L st0 := by
  intro p e s0 m args below meth c0 H locs ls C X hl
  subst hst
  refine X.size (fun hz => ?_)
  refine mrun X hz hn hn2 (va_runSN (As := As.map (mtv E)) (rest := st.map (mtv E)) ⟨C.1, C.2.1, C.2.2.2.1, C.2.2.2.2.2.1, C.2.2.2.2.1⟩ (hM E) (⟨va_cnB na C.2.2.2.2.1 (mwt_good (mwt_cons hw.1)) rfl hrc hrs (C.2.2.2.2.2.2.2.1.2.1 (own, i0, y, host) hw.2.1) (C.2.2.2.2.1 _ hw.2.2.2.1) hw.2.2.2.2 hR, C.2.2.2.2.1 _ hw.2.2.1, trivial⟩) (mpre X hz C.2.2.2.2.2.2.2.1 As) rfl (by rw [List.length_map]; exact hna) hl.1 (by simp [F0, mtv]) (lv_room (by rw [mcatsum]; exact hcs)) hd hf) (fun H1 locs1 X1 => ?_)
  have := kk p e s0 m args below meth c0 H1 locs1 ls C X1 hl
  rw [List.map_append, moptl] at this
  exact this

theorem mw_callI {y : MethodName} {bytes1 : ByteArray} {maxL1 mc1 ms1 na i0 : Nat} {ret1 : Option FieldType} {rm1 : Room} {As : List Value} {res1 : Nat × Option Value × MSt} {b : Nat} {st0 : List Value} (hw : MLi own i0 y bytes1 maxL1 none na) (hr1 : ret1 = none) (hd : decode cc pc = .ok (.invokespecial i0, 3)) (hM : MCt l y bytes1 maxL1 ret1 rm1 (.ref b :: As) n σ mc1 ms1 res1) (hna : As.length = na) (hst : (As.reverse ++ .ref b :: st) = st0) (hcs : (st.map fun v => v.category).sum ≤ 8) (hR : rm1.frames + 1 ≤ R.frames ∧ 8 + (maxL1 + 11) + rm1.locals ≤ R.locals) (hrc : rm1.cells = mc1) (hrs : rm1.slots = ms1) (hn : res1.1 = n + mc1) (hn2 : res1.1 ≤ 1000) (hf : c + mc1 ≤ R.cells ∧ s + ms1 ≤ R.slots) (kk : MW l E cc own nL ret ini R mc ms res res1.1 (c + mc1) (s + ms1) res1.2.2 (pc + 3) L (res1.2.1.toList ++ st)) : MW l E cc own nL ret ini R mc ms res n c s σ pc L st0 := by
  intro p e s0 m args below meth c0 H locs ls C X hl
  subst hst; subst hr1
  refine X.size (fun hz => ?_)
  refine mrun X hz hn hn2 (va_runI (As := As.map (mtv E)) (rest := st.map (mtv E)) ⟨C.1, C.2.1, C.2.2.2.1, C.2.2.2.2.2.1, C.2.2.2.2.1⟩ (hM E) (cwI na C.2.2.2.2.1 (mwt_good (mwt_cons hw.1)) rfl hrc hrs (C.2.2.2.2.1 _ hw.2.2.2.1) (C.2.2.2.2.1 _ hw.2.1) (C.2.2.2.2.1 _ hw.2.2.1) hw.2.2.2.2.1 hw.2.2.2.2.2 hR) (mpre X hz C.2.2.2.2.2.2.2.1 (.ref b :: As)) rfl (by rw [List.length_map]; exact hna) hl.1 (by simp [F0, mtv]) (lv_room (by rw [mcatsum]; exact hcs)) hd hf) (fun H1 locs1 X1 => ?_)
  have := kk p e s0 m args below meth c0 H1 locs1 ls C X1 hl
  rw [List.map_append, moptl] at this
  exact this

theorem mw_callIN {y : MethodName} {bytes1 : ByteArray} {maxL1 mc1 ms1 na i0 : Nat} {ret1 : Option FieldType} {rm1 : Room} {As : List Value} {res1 : Nat × Option Value × MSt} {b : Nat} {st0 : List Value} {host : String} (hw : MLj own i0 host y bytes1 maxL1 none na) (hr1 : ret1 = none) (hd : decode cc pc = .ok (.invokespecial i0, 3)) (hM : MCt l y bytes1 maxL1 ret1 rm1 (.ref b :: As) n σ mc1 ms1 res1) (hna : As.length = na) (hst : (As.reverse ++ .ref b :: st) = st0) (hcs : (st.map fun v => v.category).sum ≤ 8) (hR : rm1.frames + 1 ≤ R.frames ∧ 8 + (maxL1 + 11) + rm1.locals ≤ R.locals) (hrc : rm1.cells = mc1) (hrs : rm1.slots = ms1) (hn : res1.1 = n + mc1) (hn2 : res1.1 ≤ 1000) (hf : c + mc1 ≤ R.cells ∧ s + ms1 ≤ R.slots) (kk : MW l E cc own nL ret ini R mc ms res res1.1 (c + mc1) (s + ms1) res1.2.2 (pc + 3) L (res1.2.1.toList ++ st)) : MW l E cc own nL ret ini R mc ms res n c s σ pc L st0 := by
  intro p e s0 m args below meth c0 H locs ls C X hl
  subst hst; subst hr1
  refine X.size (fun hz => ?_)
  refine mrun X hz hn hn2 (va_runIN (As := As.map (mtv E)) (rest := st.map (mtv E)) ⟨C.1, C.2.1, C.2.2.2.1, C.2.2.2.2.2.1, C.2.2.2.2.1⟩ (hM E) (⟨va_cnB na C.2.2.2.2.1 (mwt_good (mwt_cons hw.1)) rfl hrc hrs (C.2.2.2.2.2.2.2.1.2.1 (own, i0, y, host) hw.2.1) (C.2.2.2.2.1 _ hw.2.2.2.1) hw.2.2.2.2.2 hR, hw.2.2.2.2.1, C.2.2.2.2.1 _ hw.2.2.1⟩) (mpre X hz C.2.2.2.2.2.2.2.1 (.ref b :: As)) rfl (by rw [List.length_map]; exact hna) hl.1 (by simp [F0, mtv]) (lv_room (by rw [mcatsum]; exact hcs)) hd hf) (fun H1 locs1 X1 => ?_)
  have := kk p e s0 m args below meth c0 H1 locs1 ls C X1 hl
  rw [List.map_append, moptl] at this
  exact this

end MRules
end
section
/-! ===== the rows as methods use them: 82 cells are there, nothing is made; checks as Booleans ===== -/
def mN : Nat := 340282366920938463463374607431768211456
def mrm (d : Nat) : Room := { frames := d, cells := 0, slots := 0, locals := 64 * d }
theorem mrm_ok {d e m : Nat} (h : d + 1 ≤ e) (hm : m ≤ 45) : (mrm d).frames + 1 ≤ (mrm e).frames ∧ 8 + (m + 11) + (mrm d).locals ≤ (mrm e).locals := by
  simp only [mrm]
  omega
abbrev MV (l : Launch) (E : MX) (cc : ByteArray) (own : String) (nL : Nat) (ret : Option FieldType) (d : Nat) (res : Nat × Option Value × MSt) (σ : MSt) (pc : Nat) (L : List (Nat × Value)) (st : List Value) : Prop := MW l E cc own nL ret false (mrm d) 0 0 res 82 0 0 σ pc L st
abbrev MK (l : Launch) (y : MethodName) (cc : ByteArray) (nL : Nat) (ret : Option FieldType) (d : Nat) (args : List Value) (σ : MSt) (r : Option Value) (σ' : MSt) : Prop := MCt l y cc nL ret (mrm d) args 82 σ 0 0 (82, r, σ')
def mob (ci k : Nat) : Bool := decide (k < 82) && (match mshp k with
  | .inr c => c == ci
  | .inl _ => false)
def mib (i : Int32) (N : Nat) : Bool := !decide (i < 0) && decide (i.toNatClampNeg < N)
def mix (t k : Nat) (i : Int32) : Bool := decide (k < 82) && (match mshp k with
  | .inl q => q.1 == t && mib i q.2
  | .inr _ => false)
def mar (k : Nat) : Bool := decide (k < 82) && (match mshp k with
  | .inl q => decide (q.1 < 5)
  | .inr _ => false)
def mlen (k : Nat) : Nat := match mshp k with
  | .inl q => q.2
  | .inr _ => 0
def mcpk (t k0 k1 : Nat) (sp dp z : Int32) : Bool := decide (k0 < 82) && decide (k1 < 82) && (match mshp k0, mshp k1 with
  | .inl q0, .inl q1 => q0.1 == t && q1.1 == t && !decide (sp < 0) && !decide (dp < 0) && !decide (z < 0) && decide (sp.toNatClampNeg + z.toNatClampNeg ≤ q0.2) && decide (dp.toNatClampNeg + z.toNatClampNeg ≤ q1.2)
  | _, _ => false)
theorem mob1 {ci k : Nat} (h : mob ci k = true) : k < 82 := by
  simp only [mob, Bool.and_eq_true, decide_eq_true_eq] at h
  exact h.1
theorem mob2 {ci k : Nat} (h : mob ci k = true) : mshp k = .inr ci := by
  simp only [mob, Bool.and_eq_true] at h
  cases e : mshp k with
  | inl q => rw [e] at h; exact absurd h.2 (by simp)
  | inr c => rw [e] at h; rw [eq_of_beq h.2]
theorem mib1 {i : Int32} {N : Nat} (h : mib i N = true) : vp_in i N := by
  simp only [mib, Bool.and_eq_true, Bool.not_eq_true', decide_eq_false_iff_not, decide_eq_true_eq] at h
  exact fun q => q.elim h.1 (fun z => absurd h.2 (by omega))
theorem mix1 {t k : Nat} {i : Int32} (h : mix t k i = true) : ∃ N, k < 82 ∧ mshp k = .inl (t, N) ∧ vp_in i N := by
  simp only [mix, Bool.and_eq_true, decide_eq_true_eq] at h
  obtain ⟨h1, h2⟩ := h
  cases e : mshp k with
  | inr c => rw [e] at h2; exact absurd h2 (by simp)
  | inl q =>
    rw [e] at h2
    simp only [Bool.and_eq_true] at h2
    obtain ⟨q1, q2⟩ := q
    have := eq_of_beq h2.1
    simp only at this
    subst this
    exact ⟨q2, h1, rfl, mib1 h2.2⟩
theorem mar1 {k : Nat} (h : mar k = true) : ∃ t N, t < 5 ∧ k < 82 ∧ mshp k = .inl (t, N) ∧ mlen k = N := by
  simp only [mar, Bool.and_eq_true, decide_eq_true_eq] at h
  obtain ⟨h1, h2⟩ := h
  cases e : mshp k with
  | inr c => rw [e] at h2; exact absurd h2 (by simp)
  | inl q =>
    rw [e] at h2
    exact ⟨q.1, q.2, of_decide_eq_true h2, h1, rfl, by simp only [mlen, e]⟩
theorem mcpk1 {t k0 k1 : Nat} {sp dp z : Int32} (h : mcpk t k0 k1 sp dp z = true) : ∃ N0 N1, k0 < 82 ∧ k1 < 82 ∧ mshp k0 = .inl (t, N0) ∧ mshp k1 = .inl (t, N1) ∧ ¬ sp < 0 ∧ ¬ dp < 0 ∧ ¬ z < 0 ∧ sp.toNatClampNeg + z.toNatClampNeg ≤ N0 ∧ dp.toNatClampNeg + z.toNatClampNeg ≤ N1 := by
  simp only [mcpk, Bool.and_eq_true, decide_eq_true_eq] at h
  obtain ⟨⟨h1, h2⟩, h3⟩ := h
  cases e : mshp k0 with
  | inr c => rw [e] at h3; exact absurd h3 (by simp)
  | inl q =>
    cases e1 : mshp k1 with
    | inr c => rw [e, e1] at h3; exact absurd h3 (by simp)
    | inl q1 =>
      rw [e, e1] at h3
      obtain ⟨a0, b0⟩ := q
      obtain ⟨a1, b1⟩ := q1
      simp only [Bool.and_eq_true, beq_iff_eq, Bool.not_eq_true', decide_eq_false_iff_not, decide_eq_true_eq] at h3
      obtain ⟨⟨⟨⟨⟨⟨g1, g2⟩, g3⟩, g4⟩, g5⟩, g6⟩, g7⟩ := h3
      subst g1; subst g2
      exact ⟨b0, b1, h1, h2, rfl, rfl, g3, g4, g5, g6, g7⟩
theorem mbd {α β : Type} {x : Option α} {f : α → Option β} {r : β} (h : x.bind f = some r) : ∃ a, x = some a ∧ f a = some r := by
  cases x with
  | none => cases h
  | some a => exact ⟨a, rfl, h⟩
theorem mit {α : Type} {c : Prop} [Decidable c] {A B r : α} (hc : c) (h : (if c then A else B) = r) : A = r := by rwa [if_pos hc] at h
theorem mie {α : Type} {c : Prop} [Decidable c] {A B r : α} (hc : ¬ c) (h : (if c then A else B) = r) : B = r := by rwa [if_neg hc] at h
theorem mif {α : Type} {c : Prop} [Decidable c] {A : Option α} {r : α} (h : (if c then A else none) = some r) : c ∧ A = some r := by
  by_cases hc : c
  · exact ⟨hc, mit hc h⟩
  · exact absurd (mie hc h) (by simp)
theorem mnf {α : Type} {c : Prop} [Decidable c] {A : Option α} {r : α} (h : (if c then none else A) = some r) : ¬ c ∧ A = some r := by
  by_cases hc : c
  · exact absurd (mit hc h) (by simp)
  · exact ⟨hc, mie hc h⟩
theorem mrs_i {x out : Int32} {σ : MSt} (h : some x = some out) : ((82, some (.int out), σ) : Nat × Option Value × MSt) = (82, some (.int x), σ) := by cases h; rfl
theorem mrs_l {x out : Int64} {σ : MSt} (h : some x = some out) : ((82, some (.long out), σ) : Nat × Option Value × MSt) = (82, some (.long x), σ) := by cases h; rfl
theorem mrs_im {x : Int32} {out : Int32 × MSt} {σ : MSt} (h : some (x, σ) = some out) : ((82, some (.int out.1), out.2) : Nat × Option Value × MSt) = (82, some (.int x), σ) := by cases h; rfl
theorem mrs_lm {x : Int64} {out : Int64 × MSt} {σ : MSt} (h : some (x, σ) = some out) : ((82, some (.long out.1), out.2) : Nat × Option Value × MSt) = (82, some (.long x), σ) := by cases h; rfl
theorem mrs_vm {out σ : MSt} (h : some σ = some out) : ((82, none, out) : Nat × Option Value × MSt) = (82, none, σ) := by cases h; rfl
theorem mne32 {x y : Int32} (h : ¬ x = y) : ¬ x.toInt = y.toInt := fun q => h (Int32.toInt_inj.mp q)
/-- what the tables say of a field, to read it, to write it -/
def MFd (own : String) (i0 ci j : Nat) : Prop := ∃ (ref C0 : String) (T : u_T) (N : Nat), vwCl[ci]? = some (C0, T, N) ∧ mnF ci = N ∧ j < N ∧ (∀ w ∈ u_ws C0 T N, w ∈ mWT) ∧ Cond.fieldLink own i0 ref (T j).2.1 (T j).2.2.1 ∈ mWT ∧ (ref = (T j).1 ∨ Cond.sameField ref (T j).1 (T j).2.1 (T j).2.2.1 ∈ mWT)
def MFw (own : String) (i0 ci j : Nat) (ty : FieldType) : Prop := ∃ (ref C0 : String) (T : u_T) (N : Nat) (ty0 : Nat → FieldType), vwCl[ci]? = some (C0, T, N) ∧ mnF ci = N ∧ j < N ∧ (∀ w ∈ u_ws C0 T N, w ∈ mWT) ∧ Cond.fieldLink own i0 ref (T j).2.1 (T j).2.2.1 ∈ mWT ∧ (ref = (T j).1 ∨ Cond.sameField ref (T j).1 (T j).2.1 (T j).2.2.1 ∈ mWT) ∧ (∀ k, k < N → parseFieldDescriptor (T k).2.2.1 = some (ty0 k)) ∧ (∀ a, a < N → ∀ b, b < N → a ≠ b → (T a).2.1 ≠ (T b).2.1) ∧ (T j).2.2.2 = false ∧ parseFieldDescriptor (T j).2.2.1 = some ty
theorem muws {ws : List Cond} (ps : List Nat) (h : ws = ps.filterMap (fun i => tables_1[i]?)) (g : ws.all goodWord = true) : ∀ w ∈ ws, w ∈ mWT := by
  intro w hw
  have h1 := List.all_eq_true.mp g w hw
  rw [h] at hw
  obtain ⟨i, -, hi⟩ := List.mem_filterMap.mp hw
  exact mwt (List.mem_append_right _ (List.mem_of_getElem? hi)) h1
section MRules2
variable {l : Launch} {E : MX} {cc : ByteArray} {own : String} {nL : Nat} {ret : Option FieldType} {d : Nat} {res : Nat × Option Value × MSt} {σ σ' : MSt} {pc : Nat} {L L' : List (Nat × Value)} {st : List Value}

theorem mv_getI {k j ci i0 : Nat} (hf : MFd own i0 ci j) (hd : decode cc pc = .ok (.getfield i0, 3)) (hm : mob ci k = true) (ht : mft ci j = .int) (kk : MV l E cc own nL ret d res σ (pc + 3) L (.int (mmI σ k j) :: st)) : MV l E cc own nL ret d res σ pc L (.ref k :: st) := by
  obtain ⟨ref, C0, T, N, h1, h2, h3, h4, h5, h6⟩ := hf
  exact mw_get hd (mob1 hm) (mob2 hm) h1 h2 h3 h4 h5 h6 (by rw [ht]; rfl) kk

theorem mv_getZ {k j ci i0 : Nat} (hf : MFd own i0 ci j) (hd : decode cc pc = .ok (.getfield i0, 3)) (hm : mob ci k = true) (ht : mft ci j = .boolean) (kk : MV l E cc own nL ret d res σ (pc + 3) L (.int (mmI σ k j) :: st)) : MV l E cc own nL ret d res σ pc L (.ref k :: st) := by
  obtain ⟨ref, C0, T, N, h1, h2, h3, h4, h5, h6⟩ := hf
  exact mw_get hd (mob1 hm) (mob2 hm) h1 h2 h3 h4 h5 h6 (by rw [ht]; rfl) kk

theorem mv_getL {k j ci i0 : Nat} (hf : MFd own i0 ci j) (hd : decode cc pc = .ok (.getfield i0, 3)) (hm : mob ci k = true) (ht : mft ci j = .long) (kk : MV l E cc own nL ret d res σ (pc + 3) L (.long (mmL σ k j) :: st)) : MV l E cc own nL ret d res σ pc L (.ref k :: st) := by
  obtain ⟨ref, C0, T, N, h1, h2, h3, h4, h5, h6⟩ := hf
  exact mw_get hd (mob1 hm) (mob2 hm) h1 h2 h3 h4 h5 h6 (by rw [ht]; rfl) kk

theorem mv_getR {k j ci i0 q : Nat} (hf : MFd own i0 ci j) (hd : decode cc pc = .ok (.getfield i0, 3)) (hm : mob ci k = true) (ht : mfr (mft ci j) = true) (hq : mmR σ k j = some q) (kk : MV l E cc own nL ret d res σ (pc + 3) L (.ref q :: st)) : MV l E cc own nL ret d res σ pc L (.ref k :: st) := by
  obtain ⟨ref, C0, T, N, h1, h2, h3, h4, h5, h6⟩ := hf
  refine mw_get (v := .ref q) hd (mob1 hm) (mob2 hm) h1 h2 h3 h4 h5 h6 ?_ kk
  cases e : mft ci j <;> rw [e] at ht <;> first | (simp [mfr] at ht; done) | (simp only [mfv, hq]; rfl)

theorem mv_putI {k j ci i0 : Nat} {x : Int32} (hf : MFw own i0 ci j .int) (hd : decode cc pc = .ok (.putfield i0, 3)) (hm : mob ci k = true) (ht : mft ci j = .int) (kk : MV l E cc own nL ret d res (muI σ k j x) (pc + 3) L st) : MV l E cc own nL ret d res σ pc L (.int x :: .ref k :: st) := by
  obtain ⟨ref, C0, T, N, ty0, h1, h2, h3, h4, h5, h6, h7, h8, h9, h10⟩ := hf
  exact mw_putI ty0 h7 h8 hd (mob1 hm) (mob2 hm) h1 h2 h3 h4 h5 h6 (Or.inl h9) h10 (Or.inl ht) kk

theorem mv_putZ {k j ci i0 : Nat} {x : Int32} (hf : MFw own i0 ci j .boolean) (hd : decode cc pc = .ok (.putfield i0, 3)) (hm : mob ci k = true) (ht : mft ci j = .boolean) (hx : x = 0 ∨ x = 1) (kk : MV l E cc own nL ret d res (muI σ k j x) (pc + 3) L st) : MV l E cc own nL ret d res σ pc L (.int x :: .ref k :: st) := by
  obtain ⟨ref, C0, T, N, ty0, h1, h2, h3, h4, h5, h6, h7, h8, h9, h10⟩ := hf
  exact mw_putZ ty0 h7 h8 hd (mob1 hm) (mob2 hm) h1 h2 h3 h4 h5 h6 (Or.inl h9) h10 (Or.inr ht) hx kk

theorem mv_putL {k j ci i0 : Nat} {x : Int64} (hf : MFw own i0 ci j .long) (hd : decode cc pc = .ok (.putfield i0, 3)) (hm : mob ci k = true) (ht : mft ci j = .long) (kk : MV l E cc own nL ret d res (muL σ k j x) (pc + 3) L st) : MV l E cc own nL ret d res σ pc L (.long x :: .ref k :: st) := by
  obtain ⟨ref, C0, T, N, ty0, h1, h2, h3, h4, h5, h6, h7, h8, h9, h10⟩ := hf
  exact mw_putL ty0 h7 h8 hd (mob1 hm) (mob2 hm) h1 h2 h3 h4 h5 h6 (Or.inl h9) h10 ht kk

theorem mv_putR {k j ci i0 x : Nat} {ty : FieldType} (hf : MFw own i0 ci j ty) (hd : decode cc pc = .ok (.putfield i0, 3)) (hm : mob ci k = true) (ht : mft ci j = ty) (hr : mfr ty = true) (kk : MV l E cc own nL ret d res (muR σ k j (some x)) (pc + 3) L st) : MV l E cc own nL ret d res σ pc L (.ref x :: .ref k :: st) := by
  obtain ⟨ref, C0, T, N, ty0, h1, h2, h3, h4, h5, h6, h7, h8, h9, h10⟩ := hf
  exact mw_putR ty0 h7 h8 hd (mob1 hm) (mob2 hm) h1 h2 h3 h4 h5 h6 (Or.inl h9) h10 (by rw [ht]; exact hr) hr kk

theorem mv_iald {k : Nat} {i : Int32} (hd : decode cc pc = .ok (.iaload, 1)) (hm : mix 0 k i = true) (kk : MV l E cc own nL ret d res σ (pc + 1) L (.int (mmI σ k i.toNatClampNeg) :: st)) : MV l E cc own nL ret d res σ pc L (.int i :: .ref k :: st) := by
  obtain ⟨N, h1, h2, h3⟩ := mix1 hm
  exact mw_iald hd h1 h2 h3 kk

theorem mv_lald {k : Nat} {i : Int32} (hd : decode cc pc = .ok (.laload, 1)) (hm : mix 1 k i = true) (kk : MV l E cc own nL ret d res σ (pc + 1) L (.long (mmL σ k i.toNatClampNeg) :: st)) : MV l E cc own nL ret d res σ pc L (.int i :: .ref k :: st) := by
  obtain ⟨N, h1, h2, h3⟩ := mix1 hm
  exact mw_lald hd h1 h2 h3 kk

theorem mv_zald {k : Nat} {i : Int32} (hd : decode cc pc = .ok (.baload, 1)) (hm : mix 2 k i = true) (kk : MV l E cc own nL ret d res σ (pc + 1) L (.int (mmI σ k i.toNatClampNeg) :: st)) : MV l E cc own nL ret d res σ pc L (.int i :: .ref k :: st) := by
  obtain ⟨N, h1, h2, h3⟩ := mix1 hm
  exact mw_zald hd h1 h2 h3 kk

theorem mv_cald {k : Nat} {i : Int32} (hd : decode cc pc = .ok (.caload, 1)) (hm : mix 3 k i = true) (kk : MV l E cc own nL ret d res σ (pc + 1) L (.int (mmI σ k i.toNatClampNeg) :: st)) : MV l E cc own nL ret d res σ pc L (.int i :: .ref k :: st) := by
  obtain ⟨N, h1, h2, h3⟩ := mix1 hm
  exact mw_cald hd h1 h2 h3 kk

theorem mv_aald {k q : Nat} {i : Int32} (hd : decode cc pc = .ok (.aaload, 1)) (hm : mix 4 k i = true) (hq : mmR σ k i.toNatClampNeg = some q) (kk : MV l E cc own nL ret d res σ (pc + 1) L (.ref q :: st)) : MV l E cc own nL ret d res σ pc L (.int i :: .ref k :: st) := by
  obtain ⟨N, h1, h2, h3⟩ := mix1 hm
  exact mw_aald hd h1 h2 h3 hq kk

theorem mv_iast {k : Nat} {i : Int32} {x : Int32} (hd : decode cc pc = .ok (.iastore, 1)) (hm : mix 0 k i = true) (kk : MV l E cc own nL ret d res (muI σ k i.toNatClampNeg x) (pc + 1) L st) : MV l E cc own nL ret d res σ pc L (.int x :: .int i :: .ref k :: st) := by
  obtain ⟨N, h1, h2, h3⟩ := mix1 hm
  exact mw_iast hd h1 h2 h3 kk

theorem mv_last {k : Nat} {i : Int32} {x : Int64} (hd : decode cc pc = .ok (.lastore, 1)) (hm : mix 1 k i = true) (kk : MV l E cc own nL ret d res (muL σ k i.toNatClampNeg x) (pc + 1) L st) : MV l E cc own nL ret d res σ pc L (.long x :: .int i :: .ref k :: st) := by
  obtain ⟨N, h1, h2, h3⟩ := mix1 hm
  exact mw_last hd h1 h2 h3 kk

theorem mv_zast {k : Nat} {i : Int32} {x : Int32} (hd : decode cc pc = .ok (.bastore, 1)) (hm : mix 2 k i = true) (kk : MV l E cc own nL ret d res (muI σ k i.toNatClampNeg (vp_nar .boolean x)) (pc + 1) L st) : MV l E cc own nL ret d res σ pc L (.int x :: .int i :: .ref k :: st) := by
  obtain ⟨N, h1, h2, h3⟩ := mix1 hm
  exact mw_zast hd h1 h2 h3 kk

theorem mw_alen {k t N : Nat} (hd : decode cc pc = .ok (.arraylength, 1)) (ht : t < 5) (hk : k < 82) (hs : mshp k = .inl (t, N)) (kk : MV l E cc own nL ret d res σ (pc + 1) L (.int (Int32.ofNat N) :: st)) : MV l E cc own nL ret d res σ pc L (.ref k :: st) := by
  intro p e s0 m args below meth c0 H locs ls C X hl
  obtain ⟨ty, hty⟩ : ∃ ty, (mtys E)[t]? = some (E.2.1 t, ty) := by
    rcases t with _ | _ | _ | _ | _ | t
    · exact ⟨_, rfl⟩
    · exact ⟨_, rfl⟩
    · exact ⟨_, rfl⟩
    · exact ⟨_, rfl⟩
    · exact ⟨_, rfl⟩
    · omega
  exact va_alen (tys := mtys E) C.1 C.2.1 C.2.2.2.2.2.2.2.1.1 X.2.2.2.1 k t (x := (N, marO E t σ k)) (by rw [mwd_at hk, mcel_arr hs]) hty rfl hd (kk p e s0 m args below meth c0 H locs ls C X hl)
theorem mv_alen {k : Nat} (hd : decode cc pc = .ok (.arraylength, 1)) (hm : mar k = true) (kk : MV l E cc own nL ret d res σ (pc + 1) L (.int (Int32.ofNat (mlen k)) :: st)) : MV l E cc own nL ret d res σ pc L (.ref k :: st) := by
  obtain ⟨t, N, h0, h1, h2, h3⟩ := mar1 hm
  rw [h3] at kk
  exact mw_alen hd h0 h1 h2 kk

theorem mv_copyI {k0 k1 i0 : Nat} {sp dp z : Int32} (hd : decode cc pc = .ok (.invokestatic i0, 3)) (hw1 : Cond.methodLink own i0 arraycopyName ∈ mWT) (hw2 : Cond.native arraycopyName ∈ mWT) (hw3 : Cond.static arraycopyName ∈ mWT) (hw4 : Cond.initialized "java/lang/System" ∈ mWT) (hm : mcpk 0 k0 k1 sp dp z = true) (hR : 1 ≤ d) (hs : (st.map fun v => v.category).sum ≤ 8) (kk : MV l E cc own nL ret d res (mcpI σ k0 sp.toNatClampNeg k1 dp.toNatClampNeg z.toNatClampNeg) (pc + 3) L st) : MV l E cc own nL ret d res σ pc L (.int z :: .int dp :: .ref k1 :: .int sp :: .ref k0 :: st) := by
  obtain ⟨N0, N1, h1, h2, h3, h4, h5, h6, h7, h8, h9⟩ := mcpk1 hm
  exact mw_copyI hd hw1 hw2 hw3 hw4 h1 h2 h3 h4 h5 h6 h7 h8 h9 hR (by
    have : nativeFrameWords "java/lang/System" "arraycopy" 5 + 11 ≤ 50 := by decide +kernel
    simp only [mrm]
    omega) kk

theorem mv_copyL {k0 k1 i0 : Nat} {sp dp z : Int32} (hd : decode cc pc = .ok (.invokestatic i0, 3)) (hw1 : Cond.methodLink own i0 arraycopyName ∈ mWT) (hw2 : Cond.native arraycopyName ∈ mWT) (hw3 : Cond.static arraycopyName ∈ mWT) (hw4 : Cond.initialized "java/lang/System" ∈ mWT) (hm : mcpk 1 k0 k1 sp dp z = true) (hR : 1 ≤ d) (hs : (st.map fun v => v.category).sum ≤ 8) (kk : MV l E cc own nL ret d res (mcpL σ k0 sp.toNatClampNeg k1 dp.toNatClampNeg z.toNatClampNeg) (pc + 3) L st) : MV l E cc own nL ret d res σ pc L (.int z :: .int dp :: .ref k1 :: .int sp :: .ref k0 :: st) := by
  obtain ⟨N0, N1, h1, h2, h3, h4, h5, h6, h7, h8, h9⟩ := mcpk1 hm
  exact mw_copyL hd hw1 hw2 hw3 hw4 h1 h2 h3 h4 h5 h6 h7 h8 h9 hR (by
    have : nativeFrameWords "java/lang/System" "arraycopy" 5 + 11 ≤ 50 := by decide +kernel
    simp only [mrm]
    omega) kk

theorem mv_callV_i {y : MethodName} {bytes1 : ByteArray} {maxL1 na i0 d1 : Nat} {ret1 : Option FieldType} {As st0 : List Value} {r : Int32} {b ci N1 : Nat} {C1 : String} {T1 : u_T} (hw : MLv own i0 C1 y bytes1 maxL1 ret1 na) (hd : decode cc pc = .ok (.invokevirtual i0, 3)) (hM : MK l y bytes1 maxL1 ret1 d1 (.ref b :: As) σ (some (.int r)) σ') (hna : As.length = na) (hm : mob ci b = true) (hcl : vwCl[ci]? = some (C1, T1, N1)) (hst : (As.reverse ++ .ref b :: st) = st0) (hcs : (st.map fun v => v.category).sum ≤ 8) (hR : d1 + 1 ≤ d) (hmx : maxL1 ≤ 45) (kk : MV l E cc own nL ret d res σ' (pc + 3) L (.int r :: st)) : MV l E cc own nL ret d res σ pc L st0 :=
  mw_callV hw hd hM hna (mob1 hm) (mob2 hm) hcl hst hcs (mrm_ok hR hmx) rfl rfl rfl (Nat.le_of_ble_eq_true rfl) ⟨Nat.le_refl _, Nat.le_refl _⟩ kk

theorem mv_callV_l {y : MethodName} {bytes1 : ByteArray} {maxL1 na i0 d1 : Nat} {ret1 : Option FieldType} {As st0 : List Value} {r : Int64} {b ci N1 : Nat} {C1 : String} {T1 : u_T} (hw : MLv own i0 C1 y bytes1 maxL1 ret1 na) (hd : decode cc pc = .ok (.invokevirtual i0, 3)) (hM : MK l y bytes1 maxL1 ret1 d1 (.ref b :: As) σ (some (.long r)) σ') (hna : As.length = na) (hm : mob ci b = true) (hcl : vwCl[ci]? = some (C1, T1, N1)) (hst : (As.reverse ++ .ref b :: st) = st0) (hcs : (st.map fun v => v.category).sum ≤ 8) (hR : d1 + 1 ≤ d) (hmx : maxL1 ≤ 45) (kk : MV l E cc own nL ret d res σ' (pc + 3) L (.long r :: st)) : MV l E cc own nL ret d res σ pc L st0 :=
  mw_callV hw hd hM hna (mob1 hm) (mob2 hm) hcl hst hcs (mrm_ok hR hmx) rfl rfl rfl (Nat.le_of_ble_eq_true rfl) ⟨Nat.le_refl _, Nat.le_refl _⟩ kk

theorem mv_callV_v {y : MethodName} {bytes1 : ByteArray} {maxL1 na i0 d1 : Nat} {ret1 : Option FieldType} {As st0 : List Value} {b ci N1 : Nat} {C1 : String} {T1 : u_T} (hw : MLv own i0 C1 y bytes1 maxL1 ret1 na) (hd : decode cc pc = .ok (.invokevirtual i0, 3)) (hM : MK l y bytes1 maxL1 ret1 d1 (.ref b :: As) σ none σ') (hna : As.length = na) (hm : mob ci b = true) (hcl : vwCl[ci]? = some (C1, T1, N1)) (hst : (As.reverse ++ .ref b :: st) = st0) (hcs : (st.map fun v => v.category).sum ≤ 8) (hR : d1 + 1 ≤ d) (hmx : maxL1 ≤ 45) (kk : MV l E cc own nL ret d res σ' (pc + 3) L st) : MV l E cc own nL ret d res σ pc L st0 :=
  mw_callV hw hd hM hna (mob1 hm) (mob2 hm) hcl hst hcs (mrm_ok hR hmx) rfl rfl rfl (Nat.le_of_ble_eq_true rfl) ⟨Nat.le_refl _, Nat.le_refl _⟩ kk

theorem mv_callU_i {y : MethodName} {bytes1 : ByteArray} {maxL1 na i0 d1 : Nat} {ret1 : Option FieldType} {As st0 : List Value} {r : Int32} {b ci N1 : Nat} {C1 : String} {T1 : u_T} {x : MethodName} {owner : String} (hw : MLu own i0 C1 owner x y bytes1 maxL1 ret1 na) (hyx : y = ⟨owner, x.name, x.desc⟩) (hd : decode cc pc = .ok (.invokevirtual i0, 3)) (hM : MK l y bytes1 maxL1 ret1 d1 (.ref b :: As) σ (some (.int r)) σ') (hna : As.length = na) (hm : mob ci b = true) (hcl : vwCl[ci]? = some (C1, T1, N1)) (hst : (As.reverse ++ .ref b :: st) = st0) (hcs : (st.map fun v => v.category).sum ≤ 8) (hR : d1 + 1 ≤ d) (hmx : maxL1 ≤ 45) (kk : MV l E cc own nL ret d res σ' (pc + 3) L (.int r :: st)) : MV l E cc own nL ret d res σ pc L st0 :=
  mw_callU hw hyx hd hM hna (mob1 hm) (mob2 hm) hcl hst hcs (mrm_ok hR hmx) rfl rfl rfl (Nat.le_of_ble_eq_true rfl) ⟨Nat.le_refl _, Nat.le_refl _⟩ kk

theorem mv_callU_l {y : MethodName} {bytes1 : ByteArray} {maxL1 na i0 d1 : Nat} {ret1 : Option FieldType} {As st0 : List Value} {r : Int64} {b ci N1 : Nat} {C1 : String} {T1 : u_T} {x : MethodName} {owner : String} (hw : MLu own i0 C1 owner x y bytes1 maxL1 ret1 na) (hyx : y = ⟨owner, x.name, x.desc⟩) (hd : decode cc pc = .ok (.invokevirtual i0, 3)) (hM : MK l y bytes1 maxL1 ret1 d1 (.ref b :: As) σ (some (.long r)) σ') (hna : As.length = na) (hm : mob ci b = true) (hcl : vwCl[ci]? = some (C1, T1, N1)) (hst : (As.reverse ++ .ref b :: st) = st0) (hcs : (st.map fun v => v.category).sum ≤ 8) (hR : d1 + 1 ≤ d) (hmx : maxL1 ≤ 45) (kk : MV l E cc own nL ret d res σ' (pc + 3) L (.long r :: st)) : MV l E cc own nL ret d res σ pc L st0 :=
  mw_callU hw hyx hd hM hna (mob1 hm) (mob2 hm) hcl hst hcs (mrm_ok hR hmx) rfl rfl rfl (Nat.le_of_ble_eq_true rfl) ⟨Nat.le_refl _, Nat.le_refl _⟩ kk

theorem mv_callU_v {y : MethodName} {bytes1 : ByteArray} {maxL1 na i0 d1 : Nat} {ret1 : Option FieldType} {As st0 : List Value} {b ci N1 : Nat} {C1 : String} {T1 : u_T} {x : MethodName} {owner : String} (hw : MLu own i0 C1 owner x y bytes1 maxL1 ret1 na) (hyx : y = ⟨owner, x.name, x.desc⟩) (hd : decode cc pc = .ok (.invokevirtual i0, 3)) (hM : MK l y bytes1 maxL1 ret1 d1 (.ref b :: As) σ none σ') (hna : As.length = na) (hm : mob ci b = true) (hcl : vwCl[ci]? = some (C1, T1, N1)) (hst : (As.reverse ++ .ref b :: st) = st0) (hcs : (st.map fun v => v.category).sum ≤ 8) (hR : d1 + 1 ≤ d) (hmx : maxL1 ≤ 45) (kk : MV l E cc own nL ret d res σ' (pc + 3) L st) : MV l E cc own nL ret d res σ pc L st0 :=
  mw_callU hw hyx hd hM hna (mob1 hm) (mob2 hm) hcl hst hcs (mrm_ok hR hmx) rfl rfl rfl (Nat.le_of_ble_eq_true rfl) ⟨Nat.le_refl _, Nat.le_refl _⟩ kk

theorem mv_callA_i {y : MethodName} {bytes1 : ByteArray} {maxL1 na i0 d1 : Nat} {ret1 : Option FieldType} {As st0 : List Value} {r : Int32} {b ci N1 : Nat} {C1 : String} {T1 : u_T} (hw : MLu own i0 C1 "RoundsPerHour$Climb" ⟨"RoundsPerHour$Climb", "pick", "()I"⟩ y bytes1 maxL1 ret1 na) (hd : decode cc pc = .ok (.invokevirtual i0, 3)) (hM : MK l y bytes1 maxL1 ret1 d1 (.ref b :: As) σ (some (.int r)) σ') (hna : As.length = na) (hm : mob ci b = true) (hcl : vwCl[ci]? = some (C1, T1, N1)) (hst : (As.reverse ++ .ref b :: st) = st0) (hcs : (st.map fun v => v.category).sum ≤ 8) (hR : d1 + 1 ≤ d) (hmx : maxL1 ≤ 45) (kk : MV l E cc own nL ret d res σ' (pc + 3) L (.int r :: st)) : MV l E cc own nL ret d res σ pc L st0 :=
  mw_callA hw hd hM hna (mob1 hm) (mob2 hm) hcl hst hcs (mrm_ok hR hmx) rfl rfl rfl (Nat.le_of_ble_eq_true rfl) ⟨Nat.le_refl _, Nat.le_refl _⟩ kk

theorem mv_callA_l {y : MethodName} {bytes1 : ByteArray} {maxL1 na i0 d1 : Nat} {ret1 : Option FieldType} {As st0 : List Value} {r : Int64} {b ci N1 : Nat} {C1 : String} {T1 : u_T} (hw : MLu own i0 C1 "RoundsPerHour$Climb" ⟨"RoundsPerHour$Climb", "pick", "()I"⟩ y bytes1 maxL1 ret1 na) (hd : decode cc pc = .ok (.invokevirtual i0, 3)) (hM : MK l y bytes1 maxL1 ret1 d1 (.ref b :: As) σ (some (.long r)) σ') (hna : As.length = na) (hm : mob ci b = true) (hcl : vwCl[ci]? = some (C1, T1, N1)) (hst : (As.reverse ++ .ref b :: st) = st0) (hcs : (st.map fun v => v.category).sum ≤ 8) (hR : d1 + 1 ≤ d) (hmx : maxL1 ≤ 45) (kk : MV l E cc own nL ret d res σ' (pc + 3) L (.long r :: st)) : MV l E cc own nL ret d res σ pc L st0 :=
  mw_callA hw hd hM hna (mob1 hm) (mob2 hm) hcl hst hcs (mrm_ok hR hmx) rfl rfl rfl (Nat.le_of_ble_eq_true rfl) ⟨Nat.le_refl _, Nat.le_refl _⟩ kk

theorem mv_callA_v {y : MethodName} {bytes1 : ByteArray} {maxL1 na i0 d1 : Nat} {ret1 : Option FieldType} {As st0 : List Value} {b ci N1 : Nat} {C1 : String} {T1 : u_T} (hw : MLu own i0 C1 "RoundsPerHour$Climb" ⟨"RoundsPerHour$Climb", "pick", "()I"⟩ y bytes1 maxL1 ret1 na) (hd : decode cc pc = .ok (.invokevirtual i0, 3)) (hM : MK l y bytes1 maxL1 ret1 d1 (.ref b :: As) σ none σ') (hna : As.length = na) (hm : mob ci b = true) (hcl : vwCl[ci]? = some (C1, T1, N1)) (hst : (As.reverse ++ .ref b :: st) = st0) (hcs : (st.map fun v => v.category).sum ≤ 8) (hR : d1 + 1 ≤ d) (hmx : maxL1 ≤ 45) (kk : MV l E cc own nL ret d res σ' (pc + 3) L st) : MV l E cc own nL ret d res σ pc L st0 :=
  mw_callA hw hd hM hna (mob1 hm) (mob2 hm) hcl hst hcs (mrm_ok hR hmx) rfl rfl rfl (Nat.le_of_ble_eq_true rfl) ⟨Nat.le_refl _, Nat.le_refl _⟩ kk

theorem mv_callS_i {y : MethodName} {bytes1 : ByteArray} {maxL1 na i0 d1 : Nat} {ret1 : Option FieldType} {As st0 : List Value} {r : Int32} (hw : MLs own i0 y bytes1 maxL1 ret1 na) (hd : decode cc pc = .ok (.invokestatic i0, 3)) (hM : MK l y bytes1 maxL1 ret1 d1 As σ (some (.int r)) σ') (hna : As.length = na) (hst : (As.reverse ++ st) = st0) (hcs : (st.map fun v => v.category).sum ≤ 8) (hR : d1 + 1 ≤ d) (hmx : maxL1 ≤ 45) (kk : MV l E cc own nL ret d res σ' (pc + 3) L (.int r :: st)) : MV l E cc own nL ret d res σ pc L st0 :=
  mw_callS hw hd hM hna hst hcs (mrm_ok hR hmx) rfl rfl rfl (Nat.le_of_ble_eq_true rfl) ⟨Nat.le_refl _, Nat.le_refl _⟩ kk

theorem mv_callS_l {y : MethodName} {bytes1 : ByteArray} {maxL1 na i0 d1 : Nat} {ret1 : Option FieldType} {As st0 : List Value} {r : Int64} (hw : MLs own i0 y bytes1 maxL1 ret1 na) (hd : decode cc pc = .ok (.invokestatic i0, 3)) (hM : MK l y bytes1 maxL1 ret1 d1 As σ (some (.long r)) σ') (hna : As.length = na) (hst : (As.reverse ++ st) = st0) (hcs : (st.map fun v => v.category).sum ≤ 8) (hR : d1 + 1 ≤ d) (hmx : maxL1 ≤ 45) (kk : MV l E cc own nL ret d res σ' (pc + 3) L (.long r :: st)) : MV l E cc own nL ret d res σ pc L st0 :=
  mw_callS hw hd hM hna hst hcs (mrm_ok hR hmx) rfl rfl rfl (Nat.le_of_ble_eq_true rfl) ⟨Nat.le_refl _, Nat.le_refl _⟩ kk

theorem mv_callS_v {y : MethodName} {bytes1 : ByteArray} {maxL1 na i0 d1 : Nat} {ret1 : Option FieldType} {As st0 : List Value} (hw : MLs own i0 y bytes1 maxL1 ret1 na) (hd : decode cc pc = .ok (.invokestatic i0, 3)) (hM : MK l y bytes1 maxL1 ret1 d1 As σ none σ') (hna : As.length = na) (hst : (As.reverse ++ st) = st0) (hcs : (st.map fun v => v.category).sum ≤ 8) (hR : d1 + 1 ≤ d) (hmx : maxL1 ≤ 45) (kk : MV l E cc own nL ret d res σ' (pc + 3) L st) : MV l E cc own nL ret d res σ pc L st0 :=
  mw_callS hw hd hM hna hst hcs (mrm_ok hR hmx) rfl rfl rfl (Nat.le_of_ble_eq_true rfl) ⟨Nat.le_refl _, Nat.le_refl _⟩ kk

theorem mv_callSN_i {y : MethodName} {bytes1 : ByteArray} {maxL1 na i0 d1 : Nat} {ret1 : Option FieldType} {As st0 : List Value} {r : Int32} {host : String} (hw : MLn own i0 host y bytes1 maxL1 ret1 na) (hd : decode cc pc = .ok (.invokestatic i0, 3)) (hM : MK l y bytes1 maxL1 ret1 d1 As σ (some (.int r)) σ') (hna : As.length = na) (hst : (As.reverse ++ st) = st0) (hcs : (st.map fun v => v.category).sum ≤ 8) (hR : d1 + 1 ≤ d) (hmx : maxL1 ≤ 45) (kk : MV l E cc own nL ret d res σ' (pc + 3) L (.int r :: st)) : MV l E cc own nL ret d res σ pc L st0 :=
  mw_callSN hw hd hM hna hst hcs (mrm_ok hR hmx) rfl rfl rfl (Nat.le_of_ble_eq_true rfl) ⟨Nat.le_refl _, Nat.le_refl _⟩ kk

theorem mv_callSN_l {y : MethodName} {bytes1 : ByteArray} {maxL1 na i0 d1 : Nat} {ret1 : Option FieldType} {As st0 : List Value} {r : Int64} {host : String} (hw : MLn own i0 host y bytes1 maxL1 ret1 na) (hd : decode cc pc = .ok (.invokestatic i0, 3)) (hM : MK l y bytes1 maxL1 ret1 d1 As σ (some (.long r)) σ') (hna : As.length = na) (hst : (As.reverse ++ st) = st0) (hcs : (st.map fun v => v.category).sum ≤ 8) (hR : d1 + 1 ≤ d) (hmx : maxL1 ≤ 45) (kk : MV l E cc own nL ret d res σ' (pc + 3) L (.long r :: st)) : MV l E cc own nL ret d res σ pc L st0 :=
  mw_callSN hw hd hM hna hst hcs (mrm_ok hR hmx) rfl rfl rfl (Nat.le_of_ble_eq_true rfl) ⟨Nat.le_refl _, Nat.le_refl _⟩ kk

theorem mv_callSN_v {y : MethodName} {bytes1 : ByteArray} {maxL1 na i0 d1 : Nat} {ret1 : Option FieldType} {As st0 : List Value} {host : String} (hw : MLn own i0 host y bytes1 maxL1 ret1 na) (hd : decode cc pc = .ok (.invokestatic i0, 3)) (hM : MK l y bytes1 maxL1 ret1 d1 As σ none σ') (hna : As.length = na) (hst : (As.reverse ++ st) = st0) (hcs : (st.map fun v => v.category).sum ≤ 8) (hR : d1 + 1 ≤ d) (hmx : maxL1 ≤ 45) (kk : MV l E cc own nL ret d res σ' (pc + 3) L st) : MV l E cc own nL ret d res σ pc L st0 :=
  mw_callSN hw hd hM hna hst hcs (mrm_ok hR hmx) rfl rfl rfl (Nat.le_of_ble_eq_true rfl) ⟨Nat.le_refl _, Nat.le_refl _⟩ kk

theorem mv_tabIn {x : Int32} (c0 : Int32) {dflt lo hi : Int} {offs : Array Int} {len : Nat} {off : Int} {tgt : Nat} (hd : decode cc pc = .ok (.tableswitch dflt lo hi offs, len)) (hx : x = c0) (h1 : ¬ c0.toInt < lo) (h2 : ¬ hi < c0.toInt) (ho : offs[(c0.toInt - lo).toNat]? = some off) (ht : (pc : Int) + off = (tgt : Int)) (kk : MV l E cc own nL ret d res σ tgt L st) : MV l E cc own nL ret d res σ pc L (.int x :: st) := by
  subst hx
  exact fun p e s0 m args below meth c0 H locs ls C X hl => lv_tableIn C.1 C.2.1 hd h1 h2 ho ht (kk p e s0 m args below meth c0 H locs ls C X hl)
theorem mv_tabOut {x : Int32} {dflt lo hi : Int} {offs : Array Int} {len : Nat} {tgt : Nat} (hd : decode cc pc = .ok (.tableswitch dflt lo hi offs, len)) (h : x.toInt < lo ∨ hi < x.toInt) (ht : (pc : Int) + dflt = (tgt : Int)) (kk : MV l E cc own nL ret d res σ tgt L st) : MV l E cc own nL ret d res σ pc L (.int x :: st) :=
  fun p e s0 m args below meth c0 H locs ls C X hl => lv_tableOut C.1 C.2.1 hd h ht (kk p e s0 m args below meth c0 H locs ls C X hl)
theorem mv_look {x : Int32} {dflt : Int} {ps : Array (Int × Int)} {len : Nat} {off : Int} {tgt : Nat} (hd : decode cc pc = .ok (.lookupswitch dflt ps, len)) (hp : (ps.toList.zip (ps.toList.drop 1)).all (fun (a, next) => a.1 < next.1) = true) (ho : Op.lookupswitch.offset ps.toList dflt x.toInt = off) (ht : (pc : Int) + off = (tgt : Int)) (kk : MV l E cc own nL ret d res σ tgt L st) : MV l E cc own nL ret d res σ pc L (.int x :: st) :=
  fun p e s0 m args below meth c0 H locs ls C X hl => lv_lookup C.1 C.2.1 hd hp ho ht (kk p e s0 m args below meth c0 H locs ls C X hl)

theorem mv_mini {x y : Int32} {i0 : Nat} (hd : decode cc pc = .ok (.invokestatic i0, 3)) (hw1 : Cond.methodLink own i0 Lib.Math.min.name ∈ mWT) (hw2 : Cond.static Lib.Math.min.name ∈ mWT) (hw3 : Cond.initialized "java/lang/Math" ∈ mWT) (hw4 : Cond.code Lib.Math.min.name Lib.Math.min.code 2 (some .int) ∈ mWT) (hR : 1 ≤ d) (hs : (st.map fun v => v.category).sum ≤ 8) (kk : MV l E cc own nL ret d res σ (pc + 3) L (.int (if y < x then y else x) :: st)) : MV l E cc own nL ret d res σ pc L (.int y :: .int x :: st) :=
  fun p e s0 m args below meth c0 H locs ls C X hl => va_mmin C.1 C.2.1 (C.2.2.2.1.trans hl.1.symm) C.2.2.2.2.2.1 (C.2.2.2.2.1 _ hw1) (C.2.2.2.2.1 _ hw2) (C.2.2.2.2.1 _ hw3) (C.2.2.2.2.1 _ hw4) hR (by rw [mcatsum]; simp only [mrm]; omega) (Nat.le_refl _) (Nat.le_refl _) hd (kk p e s0 m args below meth c0 H locs ls C X hl)

theorem mti_0 : (0 : Int32).toInt = 0 := by decide
theorem mti_1 : (1 : Int32).toInt = 1 := by decide
theorem mti_2 : (2 : Int32).toInt = 2 := by decide
theorem mti_3 : (3 : Int32).toInt = 3 := by decide
theorem mti_4 : (4 : Int32).toInt = 4 := by decide
theorem mti_5 : (5 : Int32).toInt = 5 := by decide
theorem mti_6 : (6 : Int32).toInt = 6 := by decide
theorem mti_7 : (7 : Int32).toInt = 7 := by decide
end MRules2
end
section
/-! ===== rows for what is there from the start ===== -/
def mst (k : Nat) : Bool := decide (1000 ≤ k) && decide (k < 1013)
def msv (k : Nat) : Bool := decide (1100 ≤ k) && decide (k < 1113)
def mbytes (i : Nat) : List Int32 := (mstr.getD i (0, "", [])).2.2
theorem mst1 {k : Nat} (h : mst k = true) : ∃ i, i < 13 ∧ k = 1000 + i := by
  simp only [mst, Bool.and_eq_true, decide_eq_true_eq] at h
  exact ⟨k - 1000, by omega, by omega⟩
theorem msv1 {k : Nat} (h : msv k = true) : ∃ i, i < 13 ∧ k = 1100 + i := by
  simp only [msv, Bool.and_eq_true, decide_eq_true_eq] at h
  exact ⟨k - 1100, by omega, by omega⟩
theorem mad_hi {E : MX} {k : Nat} (h : 1000 ≤ k) : mad E k = E.2.2.2 k := by unfold mad; rw [if_neg (by omega)]
theorem mbytes_len {i : Nat} (h : i < 13) : (mstr.map (fun q => q.2.2.length)).getD i 0 = (mbytes i).length := by
  rcases i with _|_|_|_|_|_|_|_|_|_|_|_|_|i <;> first | rfl | omega
theorem mbytes_at {i : Nat} (h : i < 13) : (mstr.map (fun q => q.2.2)).getD i [] = mbytes i := by
  rcases i with _|_|_|_|_|_|_|_|_|_|_|_|_|i <;> first | rfl | omega
theorem mnar_ty {ty : FieldType} {x : Int32} (ht : ty = .char ∨ ty = .byte) (h : vp_nar ty x = x) : narrow ty (.int x) = .int x := by
  rcases ht with e | e <;> subst e
  · have : narrow .char (.int x) = .int (vp_nar .char x) := rfl
    rw [this, h]
  · have : narrow .byte (.int x) = .int (vp_nar .byte x) := rfl
    rw [this, h]
theorem mlook2 {x : Int32} {a b : Int32} {p q df : Int} {oa ob : Int} (h1 : ¬ x.toInt = a.toInt) (h2 : ¬ x.toInt = b.toInt) (ha : a.toInt = p := by decide) (hb : b.toInt = q := by decide) : Op.lookupswitch.offset [(p, oa), (q, ob)] df x.toInt = df := by
  rw [ha] at h1
  rw [hb] at h2
  simp [Op.lookupswitch.offset, Ne.symm h1, Ne.symm h2, h1, h2]
section MRules3
variable {l : Launch} {E : MX} {cc : ByteArray} {own : String} {nL : Nat} {ret : Option FieldType} {d : Nat} {res : Nat × Option Value × MSt} {σ σ' : MSt} {pc : Nat} {L L' : List (Nat × Value)} {st : List Value}

theorem mw_i2c {x : Int32} (hd : decode cc pc = .ok (.i2c, 1)) (k : MV l E cc own nL ret d res σ (pc + 1) L (.int ((x.toUInt32 % 65536).toInt32) :: st)) : MV l E cc own nL ret d res σ pc L (.int x :: st) :=
  fun p e s0 m args below meth c0 H locs ls C X hl => lv_i2c C.1 C.2.1 hd rfl (k p e s0 m args below meth c0 H locs ls C X hl)
theorem mv_kab {i0 : Nat} (hw : Cond.fieldLink own i0 "RoundsPerHour" "KIND_ABOVE" "[I" ∈ mWT) (hd : decode cc pc = .ok (.getstatic i0, 3)) (k : MV l E cc own nL ret d res σ (pc + 3) L (.ref 2000 :: st)) : MV l E cc own nL ret d res σ pc L st :=
  fun p e s0 m args below meth c0 H locs ls C X hl => va_gets (ref := "RoundsPerHour") (v := .ref (E.2.2.2 2000)) C.1 C.2.1 C.2.2.2.2.2.2.2.1.2.2.2.1 X.2.2.1 C.2.2.2.2.2.1 (C.2.2.2.2.1 _ hw) (fun _ h => h) hd (k p e s0 m args below meth c0 H locs ls C X hl)
theorem mv_kabat {i : Int32} (hd : decode cc pc = .ok (.iaload, 1)) (hm : mib i 6 = true) (k : MV l E cc own nL ret d res σ (pc + 1) L (.int (mkab i.toNatClampNeg) :: st)) : MV l E cc own nL ret d res σ pc L (.int i :: .ref 2000 :: st) :=
  fun p e s0 m args below meth c0 H locs ls C X hl => va_ti C.1 C.2.1 C.2.2.2.2.2.2.2.1.2.2.2.2.1 X.2.2.1 (mib1 hm) rfl hd (k p e s0 m args below meth c0 H locs ls C X hl)
theorem mv_ldcS {i0 : Nat} (i : Nat) (hi : i < 13) (hx : (mstr.getD i (0, "", [])).1 = i0) (ho : own = "RoundsPerHour$Tape") (hd : decode cc pc = .ok (.ldc i0, 2)) (k : MV l E cc own nL ret d res σ (pc + 2) L (.ref (1000 + i) :: st)) : MV l E cc own nL ret d res σ pc L st := by
  intro p e s0 m args below meth c0 H locs ls C X hl
  have h := C.2.2.2.2.2.2.2.1.2.2.2.2.2.2.1 i hi
  rw [hx, ← ho] at h
  refine va_ldcS C.1 C.2.1 C.2.2.2.2.2.1 h hd ?_
  have := k p e s0 m args below meth c0 H locs ls C X hl
  simp only [List.map_cons, mtv, mad_hi (Nat.le_add_right 1000 i)] at this
  exact this
theorem mv_sval {k i0 : Nat} (hw : Cond.fieldLink own i0 "java/lang/String" "value" "[B" ∈ mWT) (hd : decode cc pc = .ok (.getfield i0, 3)) (hm : mst k = true) (kk : MV l E cc own nL ret d res σ (pc + 3) L (.ref (k + 100) :: st)) : MV l E cc own nL ret d res σ pc L (.ref k :: st) := by
  obtain ⟨i, hi, rfl⟩ := mst1 hm
  intro p e s0 m args below meth c0 H locs ls C X hl
  have h := (C.2.2.2.2.2.2.2.1.2.2.2.2.2.1.1 i hi).2.2.1
  have := kk p e s0 m args below meth c0 H locs ls C X hl
  simp only [List.map_cons, mtv, mad_hi (Nat.le_add_right 1000 i), show 1000 + i + 100 = 1100 + i by omega, mad_hi (show 1000 ≤ 1100 + i by omega)] at this ⊢
  exact vk_getf C.1 C.2.1 h X.2.2.1 C.2.2.2.2.2.1 (C.2.2.2.2.1 _ hw) (fun _ h => h) hd this
theorem mv_scod {k i0 : Nat} (hw : Cond.fieldLink own i0 "java/lang/String" "coder" "B" ∈ mWT) (hd : decode cc pc = .ok (.getfield i0, 3)) (hm : mst k = true) (kk : MV l E cc own nL ret d res σ (pc + 3) L (.int 0 :: st)) : MV l E cc own nL ret d res σ pc L (.ref k :: st) := by
  obtain ⟨i, hi, rfl⟩ := mst1 hm
  intro p e s0 m args below meth c0 H locs ls C X hl
  have h := (C.2.2.2.2.2.2.2.1.2.2.2.2.2.1.1 i hi).2.1
  have := kk p e s0 m args below meth c0 H locs ls C X hl
  simp only [List.map_cons, mtv, mad_hi (Nat.le_add_right 1000 i)] at this ⊢
  exact vk_getf C.1 C.2.1 h X.2.2.1 C.2.2.2.2.2.1 (C.2.2.2.2.1 _ hw) (fun _ h => h) hd this
theorem mv_alenS {k : Nat} (hd : decode cc pc = .ok (.arraylength, 1)) (hm : msv k = true) (kk : MV l E cc own nL ret d res σ (pc + 1) L (.int (Int32.ofNat (mbytes (k - 1100)).length) :: st)) : MV l E cc own nL ret d res σ pc L (.ref k :: st) := by
  obtain ⟨i, hi, rfl⟩ := msv1 hm
  intro p e s0 m args below meth c0 H locs ls C X hl
  have h := (C.2.2.2.2.2.2.2.1.2.2.2.2.2.1.1 i hi).2.2.2
  rw [mbytes_len hi] at h
  have := kk p e s0 m args below meth c0 H locs ls C X hl
  simp only [List.map_cons, mtv, mad_hi (show 1000 ≤ 1100 + i by omega), show 1100 + i - 1100 = i by omega] at this ⊢
  exact va_tlen C.1 C.2.1 h X.2.2.1 rfl hd this
theorem mv_baldS {k : Nat} {i : Int32} (hd : decode cc pc = .ok (.baload, 1)) (hm : msv k = true) (hi : mib i (mbytes (k - 1100)).length = true) (kk : MV l E cc own nL ret d res σ (pc + 1) L (.int ((mbytes (k - 1100)).getD i.toNatClampNeg 0) :: st)) : MV l E cc own nL ret d res σ pc L (.int i :: .ref k :: st) := by
  obtain ⟨j, hj, rfl⟩ := msv1 hm
  intro p e s0 m args below meth c0 H locs ls C X hl
  have h := (C.2.2.2.2.2.2.2.1.2.2.2.2.2.1.1 j hj).2.2.2
  rw [mbytes_len hj, mbytes_at hj] at h
  have := kk p e s0 m args below meth c0 H locs ls C X hl
  simp only [List.map_cons, mtv, mad_hi (show 1000 ≤ 1100 + j by omega), show 1100 + j - 1100 = j by omega] at this hi ⊢
  exact va_tb C.1 C.2.1 h X.2.2.1 (mib1 hi) rfl hd this
theorem mv_cmpS {i0 : Nat} (hw : Cond.fieldLink own i0 "java/lang/String" "COMPACT_STRINGS" "Z" ∈ mWT) (hd : decode cc pc = .ok (.getstatic i0, 3)) (k : MV l E cc own nL ret d res σ (pc + 3) L (.int 1 :: st)) : MV l E cc own nL ret d res σ pc L st :=
  fun p e s0 m args below meth c0 H locs ls C X hl => va_gets (ref := "java/lang/String") (v := .int 1) C.1 C.2.1 C.2.2.2.2.2.2.2.1.2.2.2.2.2.2.2.1 X.2.2.1 C.2.2.2.2.2.1 (C.2.2.2.2.1 _ hw) (fun _ h => h) hd (k p e s0 m args below meth c0 H locs ls C X hl)
theorem mv_sioobe {i0 : Nat} (hw : Cond.fieldLink own i0 "jdk/internal/util/Preconditions" "SIOOBE_FORMATTER" "Ljava/util/function/BiFunction;" ∈ mWT) (hd : decode cc pc = .ok (.getstatic i0, 3)) (k1 : MV l E cc own nL ret d res σ (pc + 3) L (.null :: st)) (k2 : MV l E cc own nL ret d res σ (pc + 3) L (.ref 2001 :: st)) : MV l E cc own nL ret d res σ pc L st := by
  intro p e s0 m args below meth c0 H locs ls C X hl
  rcases C.2.2.2.2.2.2.2.1.2.2.2.2.2.2.2.2 with h | h
  · exact va_gets (ref := "jdk/internal/util/Preconditions") (v := .null) C.1 C.2.1 h X.2.2.1 C.2.2.2.2.2.1 (C.2.2.2.2.1 _ hw) (fun _ h => h) hd (k1 p e s0 m args below meth c0 H locs ls C X hl)
  · exact va_gets (ref := "jdk/internal/util/Preconditions") (v := .ref (E.2.2.2 2001)) C.1 C.2.1 h X.2.2.1 C.2.2.2.2.2.1 (C.2.2.2.2.1 _ hw) (fun _ h => h) hd (k2 p e s0 m args below meth c0 H locs ls C X hl)
theorem mrecvS {n c k : Nat} {s : State} {H : Heap} {locs : List Loc} (X : MHx E n c σ s H locs) (hC : mCX E s) (hm : mst k = true) : ∃ cell : Cell, H[mad E k]? = some cell ∧ cell.vm.isStatics = false ∧ s.vm.findClass "java/lang/String" = some cell.cls := by
  obtain ⟨i, hi, rfl⟩ := mst1 hm
  rw [mad_hi (Nat.le_add_right 1000 i)]
  exact vk_recv (i := i) hC.2.2.2.2.2.1 hi X.2.2.1
theorem mv_callVS_i {y : MethodName} {bytes1 : ByteArray} {maxL1 na i0 d1 b : Nat} {ret1 : Option FieldType} {As st0 : List Value} {r : Int32} (hw : MLv own i0 "java/lang/String" y bytes1 maxL1 ret1 na) (hd : decode cc pc = .ok (.invokevirtual i0, 3)) (hM : MK l y bytes1 maxL1 ret1 d1 (.ref b :: As) σ (some (.int r)) σ') (hna : As.length = na) (hm : mst b = true) (hst : As.reverse ++ .ref b :: st = st0) (hcs : (st.map fun v => v.category).sum ≤ 8) (hR : d1 + 1 ≤ d) (hmx : maxL1 ≤ 45) (kk : MV l E cc own nL ret d res σ' (pc + 3) L (.int r :: st)) : MV l E cc own nL ret d res σ pc L st0 := by
  intro p e s0 m args below meth c0 H locs ls C X hl
  subst hst
  refine X.size (fun hz => ?_)
  refine mrun X hz rfl (Nat.le_of_ble_eq_true rfl) (va_runV (As := As.map (mtv E)) (rest := st.map (mtv E)) ⟨C.1, C.2.1, C.2.2.2.1, C.2.2.2.2.2.1, C.2.2.2.2.1⟩ (hM E) (cwV na C.2.2.2.2.1 hw.g rfl rfl rfl hw.2.2.2.2.2 (mrm_ok hR hmx)) (let P := mpre X hz C.2.2.2.2.2.2.2.1 (.ref b :: As); ⟨P.1, mrecvS X C.2.2.2.2.2.2.2.1 hm, P.2⟩) rfl (by rw [List.length_map]; exact hna) hl.1 (by simp [F0, mtv]) (lv_room (by rw [mcatsum]; exact hcs)) hd ⟨Nat.le_refl _, Nat.le_refl _⟩) (fun H1 locs1 X1 => kk p e s0 m args below meth c0 H1 locs1 ls C X1 hl)

end MRules3
end
