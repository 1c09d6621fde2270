section
-- ===== PART A: goes FIRST, ahead of the names: the tables' words, and 'selects' of the private methods out of them =====
/-- a private method of a class that the tables say can be made, by its rows of tables_1 -/
def lw_okq (q : MethodName × Nat) : Prop := (q.1.cls ≠ "java/lang/invoke/MethodHandle" ∧ q.1.cls ≠ "java/lang/invoke/VarHandle") ∧ Cond.instantiable q.1.cls q.2 ∈ tables_1 ∧ Cond.privateMethod q.1 ∈ tables_1 ∧ Cond.instanceMethod q.1 ∈ tables_1
theorem lw_p0 : lw_okq (⟨"RoundsPerHour", "finding", "(I)I"⟩, 12) := ⟨⟨by decide +kernel, by decide +kernel⟩, List.mem_of_getElem? (i := 21) (by decide +kernel), List.mem_of_getElem? (i := 396) (by decide +kernel), List.mem_of_getElem? (i := 397) (by decide +kernel)⟩
theorem lw_p1 : lw_okq (⟨"RoundsPerHour", "canBecome", "(III)Z"⟩, 12) := ⟨⟨by decide +kernel, by decide +kernel⟩, List.mem_of_getElem? (i := 21) (by decide +kernel), List.mem_of_getElem? (i := 458) (by decide +kernel), List.mem_of_getElem? (i := 459) (by decide +kernel)⟩
theorem lw_p2 : lw_okq (⟨"RoundsPerHour", "longFinding", "(I)J"⟩, 12) := ⟨⟨by decide +kernel, by decide +kernel⟩, List.mem_of_getElem? (i := 21) (by decide +kernel), List.mem_of_getElem? (i := 498) (by decide +kernel), List.mem_of_getElem? (i := 499) (by decide +kernel)⟩
theorem lw_p3 : lw_okq (⟨"RoundsPerHour", "bestRing", "()I"⟩, 12) := ⟨⟨by decide +kernel, by decide +kernel⟩, List.mem_of_getElem? (i := 21) (by decide +kernel), List.mem_of_getElem? (i := 503) (by decide +kernel), List.mem_of_getElem? (i := 504) (by decide +kernel)⟩
theorem lw_p4 : lw_okq (⟨"RoundsPerHour$Rings", "goOn", "(IIIIJJ)V"⟩, 13) := ⟨⟨by decide +kernel, by decide +kernel⟩, List.mem_of_getElem? (i := 110) (by decide +kernel), List.mem_of_getElem? (i := 513) (by decide +kernel), List.mem_of_getElem? (i := 514) (by decide +kernel)⟩
theorem lw_p5 : lw_okq (⟨"RoundsPerHour$Rings", "keep", "(IJJ)V"⟩, 13) := ⟨⟨by decide +kernel, by decide +kernel⟩, List.mem_of_getElem? (i := 110) (by decide +kernel), List.mem_of_getElem? (i := 517) (by decide +kernel), List.mem_of_getElem? (i := 518) (by decide +kernel)⟩
theorem lw_p6 : lw_okq (⟨"RoundsPerHour$Rings", "step", "(IIJ)V"⟩, 13) := ⟨⟨by decide +kernel, by decide +kernel⟩, List.mem_of_getElem? (i := 110) (by decide +kernel), List.mem_of_getElem? (i := 551) (by decide +kernel), List.mem_of_getElem? (i := 552) (by decide +kernel)⟩
theorem lw_p7 : lw_okq (⟨"RoundsPerHour$TreeClimb", "heaviestJoining", "()I"⟩, 12) := ⟨⟨by decide +kernel, by decide +kernel⟩, List.mem_of_getElem? (i := 163) (by decide +kernel), List.mem_of_getElem? (i := 652) (by decide +kernel), List.mem_of_getElem? (i := 653) (by decide +kernel)⟩
theorem lw_p8 : lw_okq (⟨"RoundsPerHour$WalkClimb", "leave", "(I)V"⟩, 15) := ⟨⟨by decide +kernel, by decide +kernel⟩, List.mem_of_getElem? (i := 243) (by decide +kernel), List.mem_of_getElem? (i := 667) (by decide +kernel), List.mem_of_getElem? (i := 668) (by decide +kernel)⟩
theorem lw_p9 : lw_okq (⟨"RoundsPerHour", "told", "(LRoundsPerHour$Climb;ZI)J"⟩, 12) := ⟨⟨by decide +kernel, by decide +kernel⟩, List.mem_of_getElem? (i := 21) (by decide +kernel), List.mem_of_getElem? (i := 675) (by decide +kernel), List.mem_of_getElem? (i := 676) (by decide +kernel)⟩
theorem lw_p10 : lw_okq (⟨"RoundsPerHour", "isChoice", "(II)Z"⟩, 12) := ⟨⟨by decide +kernel, by decide +kernel⟩, List.mem_of_getElem? (i := 21) (by decide +kernel), List.mem_of_getElem? (i := 708) (by decide +kernel), List.mem_of_getElem? (i := 709) (by decide +kernel)⟩
theorem lw_p11 : lw_okq (⟨"RoundsPerHour$Country", "firstFrom", "(II)I"⟩, 12) := ⟨⟨by decide +kernel, by decide +kernel⟩, List.mem_of_getElem? (i := 29) (by decide +kernel), List.mem_of_getElem? (i := 720) (by decide +kernel), List.mem_of_getElem? (i := 721) (by decide +kernel)⟩
theorem lw_p12 : lw_okq (⟨"RoundsPerHour$Country", "sumWithBase", "([II)J"⟩, 12) := ⟨⟨by decide +kernel, by decide +kernel⟩, List.mem_of_getElem? (i := 29) (by decide +kernel), List.mem_of_getElem? (i := 742) (by decide +kernel), List.mem_of_getElem? (i := 743) (by decide +kernel)⟩
theorem lw_p13 : lw_okq (⟨"RoundsPerHour", "fractionFault", "(III)I"⟩, 12) := ⟨⟨by decide +kernel, by decide +kernel⟩, List.mem_of_getElem? (i := 21) (by decide +kernel), List.mem_of_getElem? (i := 764) (by decide +kernel), List.mem_of_getElem? (i := 765) (by decide +kernel)⟩
theorem lw_p14 : lw_okq (⟨"RoundsPerHour", "sheetFault", "(I)I"⟩, 12) := ⟨⟨by decide +kernel, by decide +kernel⟩, List.mem_of_getElem? (i := 21) (by decide +kernel), List.mem_of_getElem? (i := 768) (by decide +kernel), List.mem_of_getElem? (i := 769) (by decide +kernel)⟩
theorem lw_p15 : lw_okq (⟨"RoundsPerHour$Tape", "next", "()V"⟩, 9) := ⟨⟨by decide +kernel, by decide +kernel⟩, List.mem_of_getElem? (i := 297) (by decide +kernel), List.mem_of_getElem? (i := 813) (by decide +kernel), List.mem_of_getElem? (i := 814) (by decide +kernel)⟩
def lw_privs_1 : List (MethodName × Nat) := [(⟨"RoundsPerHour", "finding", "(I)I"⟩, 12), (⟨"RoundsPerHour", "canBecome", "(III)Z"⟩, 12), (⟨"RoundsPerHour", "longFinding", "(I)J"⟩, 12), (⟨"RoundsPerHour", "bestRing", "()I"⟩, 12), (⟨"RoundsPerHour$Rings", "goOn", "(IIIIJJ)V"⟩, 13), (⟨"RoundsPerHour$Rings", "keep", "(IJJ)V"⟩, 13), (⟨"RoundsPerHour$Rings", "step", "(IIJ)V"⟩, 13), (⟨"RoundsPerHour$TreeClimb", "heaviestJoining", "()I"⟩, 12), (⟨"RoundsPerHour$WalkClimb", "leave", "(I)V"⟩, 15), (⟨"RoundsPerHour", "told", "(LRoundsPerHour$Climb;ZI)J"⟩, 12), (⟨"RoundsPerHour", "isChoice", "(II)Z"⟩, 12), (⟨"RoundsPerHour$Country", "firstFrom", "(II)I"⟩, 12), (⟨"RoundsPerHour$Country", "sumWithBase", "([II)J"⟩, 12), (⟨"RoundsPerHour", "fractionFault", "(III)I"⟩, 12), (⟨"RoundsPerHour", "sheetFault", "(I)I"⟩, 12), (⟨"RoundsPerHour$Tape", "next", "()V"⟩, 9)]
theorem lw_r1 : ∀ q ∈ lw_privs_1, lw_okq q := List.forall_mem_cons.mpr ⟨lw_p0, List.forall_mem_cons.mpr ⟨lw_p1, List.forall_mem_cons.mpr ⟨lw_p2, List.forall_mem_cons.mpr ⟨lw_p3, List.forall_mem_cons.mpr ⟨lw_p4, List.forall_mem_cons.mpr ⟨lw_p5, List.forall_mem_cons.mpr ⟨lw_p6, List.forall_mem_cons.mpr ⟨lw_p7, List.forall_mem_cons.mpr ⟨lw_p8, List.forall_mem_cons.mpr ⟨lw_p9, List.forall_mem_cons.mpr ⟨lw_p10, List.forall_mem_cons.mpr ⟨lw_p11, List.forall_mem_cons.mpr ⟨lw_p12, List.forall_mem_cons.mpr ⟨lw_p13, List.forall_mem_cons.mpr ⟨lw_p14, List.forall_mem_cons.mpr ⟨lw_p15, fun _ h => absurd h List.not_mem_nil⟩⟩⟩⟩⟩⟩⟩⟩⟩⟩⟩⟩⟩⟩⟩⟩
theorem lw_p16 : lw_okq (⟨"RoundsPerHour$Tape", "takeDigits", "()V"⟩, 9) := ⟨⟨by decide +kernel, by decide +kernel⟩, List.mem_of_getElem? (i := 297) (by decide +kernel), List.mem_of_getElem? (i := 823) (by decide +kernel), List.mem_of_getElem? (i := 824) (by decide +kernel)⟩
theorem lw_p17 : lw_okq (⟨"RoundsPerHour$Tape", "item", "()Z"⟩, 9) := ⟨⟨by decide +kernel, by decide +kernel⟩, List.mem_of_getElem? (i := 297) (by decide +kernel), List.mem_of_getElem? (i := 831) (by decide +kernel), List.mem_of_getElem? (i := 832) (by decide +kernel)⟩
theorem lw_p18 : lw_okq (⟨"RoundsPerHour$Tape", "isWord", "(Ljava/lang/String;)Z"⟩, 9) := ⟨⟨by decide +kernel, by decide +kernel⟩, List.mem_of_getElem? (i := 297) (by decide +kernel), List.mem_of_getElem? (i := 836) (by decide +kernel), List.mem_of_getElem? (i := 837) (by decide +kernel)⟩
theorem lw_p19 : lw_okq (⟨"RoundsPerHour$Tape", "placesItem", "()Z"⟩, 9) := ⟨⟨by decide +kernel, by decide +kernel⟩, List.mem_of_getElem? (i := 297) (by decide +kernel), List.mem_of_getElem? (i := 888) (by decide +kernel), List.mem_of_getElem? (i := 889) (by decide +kernel)⟩
theorem lw_p20 : lw_okq (⟨"RoundsPerHour$Tape", "isNumber", "(II)Z"⟩, 9) := ⟨⟨by decide +kernel, by decide +kernel⟩, List.mem_of_getElem? (i := 297) (by decide +kernel), List.mem_of_getElem? (i := 892) (by decide +kernel), List.mem_of_getElem? (i := 893) (by decide +kernel)⟩
theorem lw_p21 : lw_okq (⟨"RoundsPerHour$Tape", "weatherItem", "()Z"⟩, 9) := ⟨⟨by decide +kernel, by decide +kernel⟩, List.mem_of_getElem? (i := 297) (by decide +kernel), List.mem_of_getElem? (i := 898) (by decide +kernel), List.mem_of_getElem? (i := 899) (by decide +kernel)⟩
theorem lw_p22 : lw_okq (⟨"RoundsPerHour$Tape", "thingItem", "()Z"⟩, 9) := ⟨⟨by decide +kernel, by decide +kernel⟩, List.mem_of_getElem? (i := 297) (by decide +kernel), List.mem_of_getElem? (i := 903) (by decide +kernel), List.mem_of_getElem? (i := 904) (by decide +kernel)⟩
theorem lw_p23 : lw_okq (⟨"RoundsPerHour$Tape", "gainAndTime", "()Z"⟩, 9) := ⟨⟨by decide +kernel, by decide +kernel⟩, List.mem_of_getElem? (i := 297) (by decide +kernel), List.mem_of_getElem? (i := 907) (by decide +kernel), List.mem_of_getElem? (i := 908) (by decide +kernel)⟩
theorem lw_p24 : lw_okq (⟨"RoundsPerHour$Tape", "kindTold", "()I"⟩, 9) := ⟨⟨by decide +kernel, by decide +kernel⟩, List.mem_of_getElem? (i := 297) (by decide +kernel), List.mem_of_getElem? (i := 916) (by decide +kernel), List.mem_of_getElem? (i := 917) (by decide +kernel)⟩
theorem lw_p25 : lw_okq (⟨"RoundsPerHour$Tape", "wayItem", "(I)Z"⟩, 9) := ⟨⟨by decide +kernel, by decide +kernel⟩, List.mem_of_getElem? (i := 297) (by decide +kernel), List.mem_of_getElem? (i := 926) (by decide +kernel), List.mem_of_getElem? (i := 927) (by decide +kernel)⟩
theorem lw_p26 : lw_okq (⟨"RoundsPerHour", "numberFault", "(II)I"⟩, 12) := ⟨⟨by decide +kernel, by decide +kernel⟩, List.mem_of_getElem? (i := 21) (by decide +kernel), List.mem_of_getElem? (i := 945) (by decide +kernel), List.mem_of_getElem? (i := 946) (by decide +kernel)⟩
theorem lw_p27 : lw_okq (⟨"RoundsPerHourModel", "finds", "(I)I"⟩, 36) := ⟨⟨by decide +kernel, by decide +kernel⟩, List.mem_of_getElem? (i := 991) (by decide +kernel), List.mem_of_getElem? (i := 1116) (by decide +kernel), List.mem_of_getElem? (i := 1117) (by decide +kernel)⟩
theorem lw_p28 : lw_okq (⟨"RoundsPerHourModel", "at", "(II)I"⟩, 36) := ⟨⟨by decide +kernel, by decide +kernel⟩, List.mem_of_getElem? (i := 991) (by decide +kernel), List.mem_of_getElem? (i := 1121) (by decide +kernel), List.mem_of_getElem? (i := 1122) (by decide +kernel)⟩
theorem lw_p29 : lw_okq (⟨"RoundsPerHourModel", "isPlace", "(I)Z"⟩, 36) := ⟨⟨by decide +kernel, by decide +kernel⟩, List.mem_of_getElem? (i := 991) (by decide +kernel), List.mem_of_getElem? (i := 1134) (by decide +kernel), List.mem_of_getElem? (i := 1135) (by decide +kernel)⟩
theorem lw_p30 : lw_okq (⟨"RoundsPerHourModel", "addWay", "(IIIII)V"⟩, 36) := ⟨⟨by decide +kernel, by decide +kernel⟩, List.mem_of_getElem? (i := 991) (by decide +kernel), List.mem_of_getElem? (i := 1147) (by decide +kernel), List.mem_of_getElem? (i := 1148) (by decide +kernel)⟩
theorem lw_p31 : lw_okq (⟨"RoundsPerHourModel", "isWay", "(I)Z"⟩, 36) := ⟨⟨by decide +kernel, by decide +kernel⟩, List.mem_of_getElem? (i := 991) (by decide +kernel), List.mem_of_getElem? (i := 1155) (by decide +kernel), List.mem_of_getElem? (i := 1156) (by decide +kernel)⟩
def lw_privs_2 : List (MethodName × Nat) := [(⟨"RoundsPerHour$Tape", "takeDigits", "()V"⟩, 9), (⟨"RoundsPerHour$Tape", "item", "()Z"⟩, 9), (⟨"RoundsPerHour$Tape", "isWord", "(Ljava/lang/String;)Z"⟩, 9), (⟨"RoundsPerHour$Tape", "placesItem", "()Z"⟩, 9), (⟨"RoundsPerHour$Tape", "isNumber", "(II)Z"⟩, 9), (⟨"RoundsPerHour$Tape", "weatherItem", "()Z"⟩, 9), (⟨"RoundsPerHour$Tape", "thingItem", "()Z"⟩, 9), (⟨"RoundsPerHour$Tape", "gainAndTime", "()Z"⟩, 9), (⟨"RoundsPerHour$Tape", "kindTold", "()I"⟩, 9), (⟨"RoundsPerHour$Tape", "wayItem", "(I)Z"⟩, 9), (⟨"RoundsPerHour", "numberFault", "(II)I"⟩, 12), (⟨"RoundsPerHourModel", "finds", "(I)I"⟩, 36), (⟨"RoundsPerHourModel", "at", "(II)I"⟩, 36), (⟨"RoundsPerHourModel", "isPlace", "(I)Z"⟩, 36), (⟨"RoundsPerHourModel", "addWay", "(IIIII)V"⟩, 36), (⟨"RoundsPerHourModel", "isWay", "(I)Z"⟩, 36)]
theorem lw_r2 : ∀ q ∈ lw_privs_2, lw_okq q := List.forall_mem_cons.mpr ⟨lw_p16, List.forall_mem_cons.mpr ⟨lw_p17, List.forall_mem_cons.mpr ⟨lw_p18, List.forall_mem_cons.mpr ⟨lw_p19, List.forall_mem_cons.mpr ⟨lw_p20, List.forall_mem_cons.mpr ⟨lw_p21, List.forall_mem_cons.mpr ⟨lw_p22, List.forall_mem_cons.mpr ⟨lw_p23, List.forall_mem_cons.mpr ⟨lw_p24, List.forall_mem_cons.mpr ⟨lw_p25, List.forall_mem_cons.mpr ⟨lw_p26, List.forall_mem_cons.mpr ⟨lw_p27, List.forall_mem_cons.mpr ⟨lw_p28, List.forall_mem_cons.mpr ⟨lw_p29, List.forall_mem_cons.mpr ⟨lw_p30, List.forall_mem_cons.mpr ⟨lw_p31, fun _ h => absurd h List.not_mem_nil⟩⟩⟩⟩⟩⟩⟩⟩⟩⟩⟩⟩⟩⟩⟩⟩
theorem lw_p32 : lw_okq (⟨"RoundsPerHourModel", "brings", "(I)I"⟩, 36) := ⟨⟨by decide +kernel, by decide +kernel⟩, List.mem_of_getElem? (i := 991) (by decide +kernel), List.mem_of_getElem? (i := 1160) (by decide +kernel), List.mem_of_getElem? (i := 1161) (by decide +kernel)⟩
theorem lw_p33 : lw_okq (⟨"RoundsPerHourModel", "lasts", "(I)I"⟩, 36) := ⟨⟨by decide +kernel, by decide +kernel⟩, List.mem_of_getElem? (i := 991) (by decide +kernel), List.mem_of_getElem? (i := 1164) (by decide +kernel), List.mem_of_getElem? (i := 1165) (by decide +kernel)⟩
theorem lw_p34 : lw_okq (⟨"RoundsPerHourModel", "mayBe", "(III)Z"⟩, 36) := ⟨⟨by decide +kernel, by decide +kernel⟩, List.mem_of_getElem? (i := 991) (by decide +kernel), List.mem_of_getElem? (i := 1172) (by decide +kernel), List.mem_of_getElem? (i := 1173) (by decide +kernel)⟩
theorem lw_p35 : lw_okq (⟨"RoundsPerHourModel", "isThing", "(I)Z"⟩, 36) := ⟨⟨by decide +kernel, by decide +kernel⟩, List.mem_of_getElem? (i := 991) (by decide +kernel), List.mem_of_getElem? (i := 1188) (by decide +kernel), List.mem_of_getElem? (i := 1189) (by decide +kernel)⟩
theorem lw_p36 : lw_okq (⟨"RoundsPerHourModel", "farFinds", "(I)J"⟩, 36) := ⟨⟨by decide +kernel, by decide +kernel⟩, List.mem_of_getElem? (i := 991) (by decide +kernel), List.mem_of_getElem? (i := 1201) (by decide +kernel), List.mem_of_getElem? (i := 1202) (by decide +kernel)⟩
theorem lw_p37 : lw_okq (⟨"RoundsPerHourModel", "ringsNow", "()Z"⟩, 36) := ⟨⟨by decide +kernel, by decide +kernel⟩, List.mem_of_getElem? (i := 991) (by decide +kernel), List.mem_of_getElem? (i := 1206) (by decide +kernel), List.mem_of_getElem? (i := 1207) (by decide +kernel)⟩
theorem lw_p38 : lw_okq (⟨"RoundsPerHourModel", "openWays", "()I"⟩, 36) := ⟨⟨by decide +kernel, by decide +kernel⟩, List.mem_of_getElem? (i := 991) (by decide +kernel), List.mem_of_getElem? (i := 1210) (by decide +kernel), List.mem_of_getElem? (i := 1211) (by decide +kernel)⟩
theorem lw_p39 : lw_okq (⟨"RoundsPerHourModel", "rings", "(II)Z"⟩, 36) := ⟨⟨by decide +kernel, by decide +kernel⟩, List.mem_of_getElem? (i := 991) (by decide +kernel), List.mem_of_getElem? (i := 1214) (by decide +kernel), List.mem_of_getElem? (i := 1215) (by decide +kernel)⟩
theorem lw_p40 : lw_okq (⟨"RoundsPerHourModel", "goesRound", "(IIIIJJ)V"⟩, 36) := ⟨⟨by decide +kernel, by decide +kernel⟩, List.mem_of_getElem? (i := 991) (by decide +kernel), List.mem_of_getElem? (i := 1218) (by decide +kernel), List.mem_of_getElem? (i := 1219) (by decide +kernel)⟩
theorem lw_p41 : lw_okq (⟨"RoundsPerHourModel", "closes", "(IJJ)V"⟩, 36) := ⟨⟨by decide +kernel, by decide +kernel⟩, List.mem_of_getElem? (i := 991) (by decide +kernel), List.mem_of_getElem? (i := 1222) (by decide +kernel), List.mem_of_getElem? (i := 1223) (by decide +kernel)⟩
theorem lw_p42 : lw_okq (⟨"RoundsPerHourModel", "lifts", "(JJ)Z"⟩, 36) := ⟨⟨by decide +kernel, by decide +kernel⟩, List.mem_of_getElem? (i := 991) (by decide +kernel), List.mem_of_getElem? (i := 1241) (by decide +kernel), List.mem_of_getElem? (i := 1242) (by decide +kernel)⟩
theorem lw_p43 : lw_okq (⟨"RoundsPerHourModel", "product", "(JJ)J"⟩, 36) := ⟨⟨by decide +kernel, by decide +kernel⟩, List.mem_of_getElem? (i := 991) (by decide +kernel), List.mem_of_getElem? (i := 1249) (by decide +kernel), List.mem_of_getElem? (i := 1250) (by decide +kernel)⟩
theorem lw_p44 : lw_okq (⟨"RoundsPerHourModel", "raised", "(I)I"⟩, 36) := ⟨⟨by decide +kernel, by decide +kernel⟩, List.mem_of_getElem? (i := 991) (by decide +kernel), List.mem_of_getElem? (i := 1258) (by decide +kernel), List.mem_of_getElem? (i := 1259) (by decide +kernel)⟩
theorem lw_p45 : lw_okq (⟨"RoundsPerHourModel", "isRaised", "(IIIJJ)Z"⟩, 36) := ⟨⟨by decide +kernel, by decide +kernel⟩, List.mem_of_getElem? (i := 991) (by decide +kernel), List.mem_of_getElem? (i := 1264) (by decide +kernel), List.mem_of_getElem? (i := 1265) (by decide +kernel)⟩
theorem lw_p46 : lw_okq (⟨"RoundsPerHourModel", "told", "(I)J"⟩, 36) := ⟨⟨by decide +kernel, by decide +kernel⟩, List.mem_of_getElem? (i := 991) (by decide +kernel), List.mem_of_getElem? (i := 1285) (by decide +kernel), List.mem_of_getElem? (i := 1286) (by decide +kernel)⟩
theorem lw_p47 : lw_okq (⟨"RoundsPerHourModel", "leastChoice", "()I"⟩, 36) := ⟨⟨by decide +kernel, by decide +kernel⟩, List.mem_of_getElem? (i := 991) (by decide +kernel), List.mem_of_getElem? (i := 1289) (by decide +kernel), List.mem_of_getElem? (i := 1290) (by decide +kernel)⟩
def lw_privs_3 : List (MethodName × Nat) := [(⟨"RoundsPerHourModel", "brings", "(I)I"⟩, 36), (⟨"RoundsPerHourModel", "lasts", "(I)I"⟩, 36), (⟨"RoundsPerHourModel", "mayBe", "(III)Z"⟩, 36), (⟨"RoundsPerHourModel", "isThing", "(I)Z"⟩, 36), (⟨"RoundsPerHourModel", "farFinds", "(I)J"⟩, 36), (⟨"RoundsPerHourModel", "ringsNow", "()Z"⟩, 36), (⟨"RoundsPerHourModel", "openWays", "()I"⟩, 36), (⟨"RoundsPerHourModel", "rings", "(II)Z"⟩, 36), (⟨"RoundsPerHourModel", "goesRound", "(IIIIJJ)V"⟩, 36), (⟨"RoundsPerHourModel", "closes", "(IJJ)V"⟩, 36), (⟨"RoundsPerHourModel", "lifts", "(JJ)Z"⟩, 36), (⟨"RoundsPerHourModel", "product", "(JJ)J"⟩, 36), (⟨"RoundsPerHourModel", "raised", "(I)I"⟩, 36), (⟨"RoundsPerHourModel", "isRaised", "(IIIJJ)Z"⟩, 36), (⟨"RoundsPerHourModel", "told", "(I)J"⟩, 36), (⟨"RoundsPerHourModel", "leastChoice", "()I"⟩, 36)]
theorem lw_r3 : ∀ q ∈ lw_privs_3, lw_okq q := List.forall_mem_cons.mpr ⟨lw_p32, List.forall_mem_cons.mpr ⟨lw_p33, List.forall_mem_cons.mpr ⟨lw_p34, List.forall_mem_cons.mpr ⟨lw_p35, List.forall_mem_cons.mpr ⟨lw_p36, List.forall_mem_cons.mpr ⟨lw_p37, List.forall_mem_cons.mpr ⟨lw_p38, List.forall_mem_cons.mpr ⟨lw_p39, List.forall_mem_cons.mpr ⟨lw_p40, List.forall_mem_cons.mpr ⟨lw_p41, List.forall_mem_cons.mpr ⟨lw_p42, List.forall_mem_cons.mpr ⟨lw_p43, List.forall_mem_cons.mpr ⟨lw_p44, List.forall_mem_cons.mpr ⟨lw_p45, List.forall_mem_cons.mpr ⟨lw_p46, List.forall_mem_cons.mpr ⟨lw_p47, fun _ h => absurd h List.not_mem_nil⟩⟩⟩⟩⟩⟩⟩⟩⟩⟩⟩⟩⟩⟩⟩⟩
theorem lw_p48 : lw_okq (⟨"RoundsPerHourModel", "allSets", "()I"⟩, 36) := ⟨⟨by decide +kernel, by decide +kernel⟩, List.mem_of_getElem? (i := 991) (by decide +kernel), List.mem_of_getElem? (i := 1293) (by decide +kernel), List.mem_of_getElem? (i := 1294) (by decide +kernel)⟩
theorem lw_p49 : lw_okq (⟨"RoundsPerHourModel", "isChoice", "(I)Z"⟩, 36) := ⟨⟨by decide +kernel, by decide +kernel⟩, List.mem_of_getElem? (i := 991) (by decide +kernel), List.mem_of_getElem? (i := 1297) (by decide +kernel), List.mem_of_getElem? (i := 1298) (by decide +kernel)⟩
theorem lw_p50 : lw_okq (⟨"RoundsPerHourModel", "isRound", "(I)Z"⟩, 36) := ⟨⟨by decide +kernel, by decide +kernel⟩, List.mem_of_getElem? (i := 991) (by decide +kernel), List.mem_of_getElem? (i := 1304) (by decide +kernel), List.mem_of_getElem? (i := 1305) (by decide +kernel)⟩
theorem lw_p51 : lw_okq (⟨"RoundsPerHourModel", "wayFrom", "(II)I"⟩, 36) := ⟨⟨by decide +kernel, by decide +kernel⟩, List.mem_of_getElem? (i := 991) (by decide +kernel), List.mem_of_getElem? (i := 1308) (by decide +kernel), List.mem_of_getElem? (i := 1309) (by decide +kernel)⟩
theorem lw_p52 : lw_okq (⟨"RoundsPerHourModel", "joinsAll", "(I)Z"⟩, 36) := ⟨⟨by decide +kernel, by decide +kernel⟩, List.mem_of_getElem? (i := 991) (by decide +kernel), List.mem_of_getElem? (i := 1312) (by decide +kernel), List.mem_of_getElem? (i := 1313) (by decide +kernel)⟩
theorem lw_p53 : lw_okq (⟨"RoundsPerHourModel", "rises", "(I)Z"⟩, 36) := ⟨⟨by decide +kernel, by decide +kernel⟩, List.mem_of_getElem? (i := 991) (by decide +kernel), List.mem_of_getElem? (i := 1316) (by decide +kernel), List.mem_of_getElem? (i := 1317) (by decide +kernel)⟩
theorem lw_p54 : lw_okq (⟨"RoundsPerHourModel", "climbed", "(II)J"⟩, 36) := ⟨⟨by decide +kernel, by decide +kernel⟩, List.mem_of_getElem? (i := 991) (by decide +kernel), List.mem_of_getElem? (i := 1320) (by decide +kernel), List.mem_of_getElem? (i := 1321) (by decide +kernel)⟩
theorem lw_p55 : lw_okq (⟨"RoundsPerHourModel", "aboveOf", "(I)J"⟩, 36) := ⟨⟨by decide +kernel, by decide +kernel⟩, List.mem_of_getElem? (i := 991) (by decide +kernel), List.mem_of_getElem? (i := 1324) (by decide +kernel), List.mem_of_getElem? (i := 1325) (by decide +kernel)⟩
theorem lw_p56 : lw_okq (⟨"RoundsPerHourModel", "belowOf", "(I)J"⟩, 36) := ⟨⟨by decide +kernel, by decide +kernel⟩, List.mem_of_getElem? (i := 991) (by decide +kernel), List.mem_of_getElem? (i := 1328) (by decide +kernel), List.mem_of_getElem? (i := 1329) (by decide +kernel)⟩
theorem lw_p57 : lw_okq (⟨"RoundsPerHourModel", "nextChoice", "(JJ)I"⟩, 36) := ⟨⟨by decide +kernel, by decide +kernel⟩, List.mem_of_getElem? (i := 991) (by decide +kernel), List.mem_of_getElem? (i := 1332) (by decide +kernel), List.mem_of_getElem? (i := 1333) (by decide +kernel)⟩
theorem lw_p58 : lw_okq (⟨"RoundsPerHourModel", "leastLike", "(JJ)I"⟩, 36) := ⟨⟨by decide +kernel, by decide +kernel⟩, List.mem_of_getElem? (i := 991) (by decide +kernel), List.mem_of_getElem? (i := 1336) (by decide +kernel), List.mem_of_getElem? (i := 1337) (by decide +kernel)⟩
theorem lw_p59 : lw_okq (⟨"RoundsPerHourModel", "wrong", "(III)I"⟩, 36) := ⟨⟨by decide +kernel, by decide +kernel⟩, List.mem_of_getElem? (i := 991) (by decide +kernel), List.mem_of_getElem? (i := 1356) (by decide +kernel), List.mem_of_getElem? (i := 1357) (by decide +kernel)⟩
theorem lw_p60 : lw_okq (⟨"RoundsPerHourModel", "sum", "(JJ)J"⟩, 36) := ⟨⟨by decide +kernel, by decide +kernel⟩, List.mem_of_getElem? (i := 991) (by decide +kernel), List.mem_of_getElem? (i := 1374) (by decide +kernel), List.mem_of_getElem? (i := 1375) (by decide +kernel)⟩
theorem lw_p61 : lw_okq (⟨"RoundsPerHourModel", "next", "()V"⟩, 36) := ⟨⟨by decide +kernel, by decide +kernel⟩, List.mem_of_getElem? (i := 991) (by decide +kernel), List.mem_of_getElem? (i := 1391) (by decide +kernel), List.mem_of_getElem? (i := 1392) (by decide +kernel)⟩
theorem lw_p62 : lw_okq (⟨"RoundsPerHourModel", "byteAt", "(I)I"⟩, 36) := ⟨⟨by decide +kernel, by decide +kernel⟩, List.mem_of_getElem? (i := 991) (by decide +kernel), List.mem_of_getElem? (i := 1395) (by decide +kernel), List.mem_of_getElem? (i := 1396) (by decide +kernel)⟩
theorem lw_p63 : lw_okq (⟨"RoundsPerHourModel", "isWordFrom", "(I)Z"⟩, 36) := ⟨⟨by decide +kernel, by decide +kernel⟩, List.mem_of_getElem? (i := 991) (by decide +kernel), List.mem_of_getElem? (i := 1401) (by decide +kernel), List.mem_of_getElem? (i := 1402) (by decide +kernel)⟩
def lw_privs_4 : List (MethodName × Nat) := [(⟨"RoundsPerHourModel", "allSets", "()I"⟩, 36), (⟨"RoundsPerHourModel", "isChoice", "(I)Z"⟩, 36), (⟨"RoundsPerHourModel", "isRound", "(I)Z"⟩, 36), (⟨"RoundsPerHourModel", "wayFrom", "(II)I"⟩, 36), (⟨"RoundsPerHourModel", "joinsAll", "(I)Z"⟩, 36), (⟨"RoundsPerHourModel", "rises", "(I)Z"⟩, 36), (⟨"RoundsPerHourModel", "climbed", "(II)J"⟩, 36), (⟨"RoundsPerHourModel", "aboveOf", "(I)J"⟩, 36), (⟨"RoundsPerHourModel", "belowOf", "(I)J"⟩, 36), (⟨"RoundsPerHourModel", "nextChoice", "(JJ)I"⟩, 36), (⟨"RoundsPerHourModel", "leastLike", "(JJ)I"⟩, 36), (⟨"RoundsPerHourModel", "wrong", "(III)I"⟩, 36), (⟨"RoundsPerHourModel", "sum", "(JJ)J"⟩, 36), (⟨"RoundsPerHourModel", "next", "()V"⟩, 36), (⟨"RoundsPerHourModel", "byteAt", "(I)I"⟩, 36), (⟨"RoundsPerHourModel", "isWordFrom", "(I)Z"⟩, 36)]
theorem lw_r4 : ∀ q ∈ lw_privs_4, lw_okq q := List.forall_mem_cons.mpr ⟨lw_p48, List.forall_mem_cons.mpr ⟨lw_p49, List.forall_mem_cons.mpr ⟨lw_p50, List.forall_mem_cons.mpr ⟨lw_p51, List.forall_mem_cons.mpr ⟨lw_p52, List.forall_mem_cons.mpr ⟨lw_p53, List.forall_mem_cons.mpr ⟨lw_p54, List.forall_mem_cons.mpr ⟨lw_p55, List.forall_mem_cons.mpr ⟨lw_p56, List.forall_mem_cons.mpr ⟨lw_p57, List.forall_mem_cons.mpr ⟨lw_p58, List.forall_mem_cons.mpr ⟨lw_p59, List.forall_mem_cons.mpr ⟨lw_p60, List.forall_mem_cons.mpr ⟨lw_p61, List.forall_mem_cons.mpr ⟨lw_p62, List.forall_mem_cons.mpr ⟨lw_p63, fun _ h => absurd h List.not_mem_nil⟩⟩⟩⟩⟩⟩⟩⟩⟩⟩⟩⟩⟩⟩⟩⟩
theorem lw_p64 : lw_okq (⟨"RoundsPerHourModel", "readsItem", "()Z"⟩, 36) := ⟨⟨by decide +kernel, by decide +kernel⟩, List.mem_of_getElem? (i := 991) (by decide +kernel), List.mem_of_getElem? (i := 1408) (by decide +kernel), List.mem_of_getElem? (i := 1409) (by decide +kernel)⟩
theorem lw_p65 : lw_okq (⟨"RoundsPerHourModel", "readsWay", "(I)Z"⟩, 36) := ⟨⟨by decide +kernel, by decide +kernel⟩, List.mem_of_getElem? (i := 991) (by decide +kernel), List.mem_of_getElem? (i := 1412) (by decide +kernel), List.mem_of_getElem? (i := 1413) (by decide +kernel)⟩
theorem lw_p66 : lw_okq (⟨"RoundsPerHourModel", "takesNumber", "(II)Z"⟩, 36) := ⟨⟨by decide +kernel, by decide +kernel⟩, List.mem_of_getElem? (i := 991) (by decide +kernel), List.mem_of_getElem? (i := 1416) (by decide +kernel), List.mem_of_getElem? (i := 1417) (by decide +kernel)⟩
theorem lw_p67 : lw_okq (⟨"RoundsPerHourModel", "readsGainAndTime", "()Z"⟩, 36) := ⟨⟨by decide +kernel, by decide +kernel⟩, List.mem_of_getElem? (i := 991) (by decide +kernel), List.mem_of_getElem? (i := 1420) (by decide +kernel), List.mem_of_getElem? (i := 1421) (by decide +kernel)⟩
theorem lw_p68 : lw_okq (⟨"RoundsPerHourModel", "isWord", "(I)Z"⟩, 36) := ⟨⟨by decide +kernel, by decide +kernel⟩, List.mem_of_getElem? (i := 991) (by decide +kernel), List.mem_of_getElem? (i := 1424) (by decide +kernel), List.mem_of_getElem? (i := 1425) (by decide +kernel)⟩
theorem lw_p69 : lw_okq (⟨"RoundsPerHourModel", "readsThing", "()Z"⟩, 36) := ⟨⟨by decide +kernel, by decide +kernel⟩, List.mem_of_getElem? (i := 991) (by decide +kernel), List.mem_of_getElem? (i := 1428) (by decide +kernel), List.mem_of_getElem? (i := 1429) (by decide +kernel)⟩
theorem lw_p70 : lw_okq (⟨"RoundsPerHourModel", "lacks", "(II)I"⟩, 36) := ⟨⟨by decide +kernel, by decide +kernel⟩, List.mem_of_getElem? (i := 991) (by decide +kernel), List.mem_of_getElem? (i := 1440) (by decide +kernel), List.mem_of_getElem? (i := 1441) (by decide +kernel)⟩
def lw_privs_5 : List (MethodName × Nat) := [(⟨"RoundsPerHourModel", "readsItem", "()Z"⟩, 36), (⟨"RoundsPerHourModel", "readsWay", "(I)Z"⟩, 36), (⟨"RoundsPerHourModel", "takesNumber", "(II)Z"⟩, 36), (⟨"RoundsPerHourModel", "readsGainAndTime", "()Z"⟩, 36), (⟨"RoundsPerHourModel", "isWord", "(I)Z"⟩, 36), (⟨"RoundsPerHourModel", "readsThing", "()Z"⟩, 36), (⟨"RoundsPerHourModel", "lacks", "(II)I"⟩, 36)]
theorem lw_r5 : ∀ q ∈ lw_privs_5, lw_okq q := List.forall_mem_cons.mpr ⟨lw_p64, List.forall_mem_cons.mpr ⟨lw_p65, List.forall_mem_cons.mpr ⟨lw_p66, List.forall_mem_cons.mpr ⟨lw_p67, List.forall_mem_cons.mpr ⟨lw_p68, List.forall_mem_cons.mpr ⟨lw_p69, List.forall_mem_cons.mpr ⟨lw_p70, fun _ h => absurd h List.not_mem_nil⟩⟩⟩⟩⟩⟩⟩
def lw_privs : List (MethodName × Nat) := lw_privs_1 ++ (lw_privs_2 ++ (lw_privs_3 ++ (lw_privs_4 ++ (lw_privs_5))))
def lw_tbl : List Cond := k2_sels lw_privs ++ tables_1
theorem lw_privs_ok : ∀ q ∈ lw_privs, lw_okq q := by
  show ∀ q ∈ lw_privs_1 ++ (lw_privs_2 ++ (lw_privs_3 ++ (lw_privs_4 ++ (lw_privs_5)))), lw_okq q
  exact List.forall_mem_append.mpr ⟨lw_r1, List.forall_mem_append.mpr ⟨lw_r2, List.forall_mem_append.mpr ⟨lw_r3, List.forall_mem_append.mpr ⟨lw_r4, lw_r5⟩⟩⟩⟩
end
section
/-! ===== BEGIN printed: names, fields, word lists, decode rows ===== -/
def RX0 : String := "RoundsPerHour$Climb"
def TX0 : u_T := fun k => match k with
  | _ => ("", "", "", false)
def tyX0 : Nat → FieldType := fun k => match k with
  | _ => .int
abbrev wsX00 : List Cond := u_ws RX0 TX0 0
theorem nmX0 : ∀ a, a < 0 → ∀ b, b < 0 → a ≠ b → (TX0 a).2.1 ≠ (TX0 b).2.1 := by decide +kernel
theorem tyX0_ok : ∀ k, k < 0 → parseFieldDescriptor (TX0 k).2.2.1 = some (tyX0 k) := by decide +kernel
abbrev cX0_init : ByteArray := prog_2_method_1_code
def yX0_init : MethodName := ⟨RX0, "<init>", "()V"⟩
abbrev cX0_takeWays : ByteArray := prog_2_method_3_code
def yX0_takeWays : MethodName := ⟨RX0, "takeWays", "(LRoundsPerHour$Country;)V"⟩
abbrev cX0_runs : ByteArray := prog_2_method_4_code
def yX0_runs : MethodName := ⟨RX0, "runs", "()Z"⟩
abbrev cX0_weigh : ByteArray := prog_2_method_5_code
def yX0_weigh : MethodName := ⟨RX0, "weigh", "(JJ)V"⟩
abbrev cX0_together : ByteArray := prog_2_method_6_code
def yX0_together : MethodName := ⟨RX0, "together", "([JI)J"⟩
def RX1 : String := "RoundsPerHour$Country"
def TX1 : u_T := fun k => match k with
  | 0 => ("RoundsPerHour$Country", "places", "I", false)
  | 1 => ("RoundsPerHour$Country", "weather", "I", false)
  | 2 => ("RoundsPerHour$Country", "ways", "I", false)
  | 3 => ("RoundsPerHour$Country", "kind", "[I", true)
  | 4 => ("RoundsPerHour$Country", "from", "[I", true)
  | 5 => ("RoundsPerHour$Country", "to", "[I", true)
  | 6 => ("RoundsPerHour$Country", "gain", "[I", true)
  | 7 => ("RoundsPerHour$Country", "time", "[I", true)
  | 8 => ("RoundsPerHour$Country", "shut", "[I", true)
  | 9 => ("RoundsPerHour$Country", "things", "I", false)
  | 10 => ("RoundsPerHour$Country", "thingGain", "[I", true)
  | _ => ("RoundsPerHour$Country", "thingTime", "[I", true)
def tyX1 : Nat → FieldType := fun k => match k with
  | 0 => .int
  | 1 => .int
  | 2 => .int
  | 3 => .array .int
  | 4 => .array .int
  | 5 => .array .int
  | 6 => .array .int
  | 7 => .array .int
  | 8 => .array .int
  | 9 => .int
  | 10 => .array .int
  | _ => .array .int
abbrev wsX10 : List Cond := u_ws RX1 TX1 12
theorem nmX1 : ∀ a, a < 12 → ∀ b, b < 12 → a ≠ b → (TX1 a).2.1 ≠ (TX1 b).2.1 := by decide +kernel
theorem tyX1_ok : ∀ k, k < 12 → parseFieldDescriptor (TX1 k).2.2.1 = some (tyX1 k) := by decide +kernel
abbrev cX1_init : ByteArray := prog_3_method_1_code
def yX1_init : MethodName := ⟨RX1, "<init>", "()V"⟩
abbrev cX1_isPlace : ByteArray := prog_3_method_2_code
def yX1_isPlace : MethodName := ⟨RX1, "isPlace", "(I)Z"⟩
abbrev cX1_isWay : ByteArray := prog_3_method_3_code
def yX1_isWay : MethodName := ⟨RX1, "isWay", "(I)Z"⟩
abbrev cX1_isThingOrBase : ByteArray := prog_3_method_4_code
def yX1_isThingOrBase : MethodName := ⟨RX1, "isThingOrBase", "(I)Z"⟩
abbrev cX1_newWay : ByteArray := prog_3_method_5_code
def yX1_newWay : MethodName := ⟨RX1, "newWay", "(IIIII)I"⟩
abbrev cX1_newThing : ByteArray := prog_3_method_6_code
def yX1_newThing : MethodName := ⟨RX1, "newThing", "(II)I"⟩
abbrev cX1_bringsOf : ByteArray := prog_3_method_7_code
def yX1_bringsOf : MethodName := ⟨RX1, "bringsOf", "(I)I"⟩
abbrev cX1_lastsOf : ByteArray := prog_3_method_8_code
def yX1_lastsOf : MethodName := ⟨RX1, "lastsOf", "(I)I"⟩
abbrev cX1_shutWays : ByteArray := prog_3_method_9_code
def yX1_shutWays : MethodName := ⟨RX1, "shutWays", "()I"⟩
abbrev cX1_isOpenSet : ByteArray := prog_3_method_10_code
def yX1_isOpenSet : MethodName := ⟨RX1, "isOpenSet", "(I)Z"⟩
abbrev cX1_isRing : ByteArray := prog_3_method_11_code
def yX1_isRing : MethodName := ⟨RX1, "isRing", "(I)Z"⟩
abbrev cX1_firstFrom : ByteArray := prog_3_method_12_code
def yX1_firstFrom : MethodName := ⟨RX1, "firstFrom", "(II)I"⟩
abbrev cX1_bringTogether : ByteArray := prog_3_method_13_code
def yX1_bringTogether : MethodName := ⟨RX1, "bringTogether", "(I)J"⟩
abbrev cX1_lastTogether : ByteArray := prog_3_method_14_code
def yX1_lastTogether : MethodName := ⟨RX1, "lastTogether", "(I)J"⟩
abbrev cX1_gainTogether : ByteArray := prog_3_method_15_code
def yX1_gainTogether : MethodName := ⟨RX1, "gainTogether", "(I)J"⟩
abbrev cX1_timeTogether : ByteArray := prog_3_method_16_code
def yX1_timeTogether : MethodName := ⟨RX1, "timeTogether", "(I)J"⟩
abbrev cX1_sumWithBase : ByteArray := prog_3_method_17_code
def yX1_sumWithBase : MethodName := ⟨RX1, "sumWithBase", "([II)J"⟩
abbrev cX1_become : ByteArray := prog_3_method_18_code
def yX1_become : MethodName := ⟨RX1, "become", "(LRoundsPerHour$Country;)V"⟩
def RX2 : String := "RoundsPerHour$Joins"
def TX2 : u_T := fun k => match k with
  | _ => ("RoundsPerHour$Joins", "label", "[I", true)
def tyX2 : Nat → FieldType := fun k => match k with
  | _ => .array .int
abbrev wsX20 : List Cond := u_ws RX2 TX2 1
theorem nmX2 : ∀ a, a < 1 → ∀ b, b < 1 → a ≠ b → (TX2 a).2.1 ≠ (TX2 b).2.1 := by decide +kernel
theorem tyX2_ok : ∀ k, k < 1 → parseFieldDescriptor (TX2 k).2.2.1 = some (tyX2 k) := by decide +kernel
abbrev cX2_init : ByteArray := prog_4_method_1_code
def yX2_init : MethodName := ⟨RX2, "<init>", "()V"⟩
abbrev cX2_part : ByteArray := prog_4_method_2_code
def yX2_part : MethodName := ⟨RX2, "part", "()V"⟩
abbrev cX2_apart : ByteArray := prog_4_method_3_code
def yX2_apart : MethodName := ⟨RX2, "apart", "(II)Z"⟩
abbrev cX2_join : ByteArray := prog_4_method_4_code
def yX2_join : MethodName := ⟨RX2, "join", "(II)V"⟩
abbrev cX2_isTree : ByteArray := prog_4_method_5_code
def yX2_isTree : MethodName := ⟨RX2, "isTree", "(LRoundsPerHour$Country;I)Z"⟩
def RX3 : String := "RoundsPerHour$LoadClimb"
def TX3 : u_T := fun k => match k with
  | 0 => ("RoundsPerHour$Climb", "best", "I", false)
  | 1 => ("RoundsPerHour$Climb", "steps", "I", false)
  | 2 => ("RoundsPerHour$Climb", "above", "J", false)
  | 3 => ("RoundsPerHour$Climb", "below", "J", false)
  | 4 => ("RoundsPerHour$Climb", "size", "I", false)
  | 5 => ("RoundsPerHour$Climb", "baseAbove", "J", false)
  | 6 => ("RoundsPerHour$Climb", "baseBelow", "J", false)
  | 7 => ("RoundsPerHour$Climb", "gains", "[J", true)
  | 8 => ("RoundsPerHour$Climb", "times", "[J", true)
  | 9 => ("RoundsPerHour$Climb", "weight", "[J", true)
  | _ => ("RoundsPerHour$LoadClimb", "most", "I", false)
def tyX3 : Nat → FieldType := fun k => match k with
  | 0 => .int
  | 1 => .int
  | 2 => .long
  | 3 => .long
  | 4 => .int
  | 5 => .long
  | 6 => .long
  | 7 => .array .long
  | 8 => .array .long
  | 9 => .array .long
  | _ => .int
abbrev wsX30 : List Cond := u_ws RX3 TX3 11
theorem nmX3 : ∀ a, a < 11 → ∀ b, b < 11 → a ≠ b → (TX3 a).2.1 ≠ (TX3 b).2.1 := by decide +kernel
theorem tyX3_ok : ∀ k, k < 11 → parseFieldDescriptor (TX3 k).2.2.1 = some (tyX3 k) := by decide +kernel
abbrev cX3_init : ByteArray := prog_5_method_1_code
def yX3_init : MethodName := ⟨RX3, "<init>", "()V"⟩
abbrev cX3_climbs : ByteArray := prog_5_method_2_code
def yX3_climbs : MethodName := ⟨RX3, "climbs", "(LRoundsPerHour$Country;I)Z"⟩
abbrev cX3_pick : ByteArray := prog_5_method_3_code
def yX3_pick : MethodName := ⟨RX3, "pick", "()I"⟩
def RX4 : String := "RoundsPerHour$Rings"
def TX4 : u_T := fun k => match k with
  | 0 => ("RoundsPerHour$Rings", "size", "I", false)
  | 1 => ("RoundsPerHour$Rings", "sets", "[I", true)
  | 2 => ("RoundsPerHour$Rings", "above", "[J", true)
  | 3 => ("RoundsPerHour$Rings", "below", "[J", true)
  | 4 => ("RoundsPerHour$Rings", "height", "[J", true)
  | 5 => ("RoundsPerHour$Rings", "reached", "[Z", true)
  | 6 => ("RoundsPerHour$Rings", "leaving", "[I", true)
  | 7 => ("RoundsPerHour$Rings", "wayOut", "[I", true)
  | 8 => ("RoundsPerHour$Rings", "to", "[I", true)
  | 9 => ("RoundsPerHour$Rings", "brings", "[J", true)
  | 10 => ("RoundsPerHour$Rings", "lasts", "[J", true)
  | 11 => ("RoundsPerHour$Rings", "peakAbove", "J", false)
  | _ => ("RoundsPerHour$Rings", "peakBelow", "J", false)
def tyX4 : Nat → FieldType := fun k => match k with
  | 0 => .int
  | 1 => .array .int
  | 2 => .array .long
  | 3 => .array .long
  | 4 => .array .long
  | 5 => .array .boolean
  | 6 => .array .int
  | 7 => .array .int
  | 8 => .array .int
  | 9 => .array .long
  | 10 => .array .long
  | 11 => .long
  | _ => .long
abbrev wsX40 : List Cond := u_ws RX4 TX4 13
theorem nmX4 : ∀ a, a < 13 → ∀ b, b < 13 → a ≠ b → (TX4 a).2.1 ≠ (TX4 b).2.1 := by decide +kernel
theorem tyX4_ok : ∀ k, k < 13 → parseFieldDescriptor (TX4 k).2.2.1 = some (tyX4 k) := by decide +kernel
abbrev cX4_init : ByteArray := prog_6_method_1_code
def yX4_init : MethodName := ⟨RX4, "<init>", "()V"⟩
abbrev cX4_gather : ByteArray := prog_6_method_2_code
def yX4_gather : MethodName := ⟨RX4, "gather", "(LRoundsPerHour$Country;I)V"⟩
abbrev cX4_goOn : ByteArray := prog_6_method_3_code
def yX4_goOn : MethodName := ⟨RX4, "goOn", "(IIIIJJ)V"⟩
abbrev cX4_keep : ByteArray := prog_6_method_4_code
def yX4_keep : MethodName := ⟨RX4, "keep", "(IJJ)V"⟩
abbrev cX4_order : ByteArray := prog_6_method_5_code
def yX4_order : MethodName := ⟨RX4, "order", "(II)I"⟩
abbrev cX4_best : ByteArray := prog_6_method_6_code
def yX4_best : MethodName := ⟨RX4, "best", "(I)I"⟩
abbrev cX4_forget : ByteArray := prog_6_method_7_code
def yX4_forget : MethodName := ⟨RX4, "forget", "()V"⟩
abbrev cX4_rises : ByteArray := prog_6_method_8_code
def yX4_rises : MethodName := ⟨RX4, "rises", "(LRoundsPerHour$Country;)Z"⟩
abbrev cX4_missingTo : ByteArray := prog_6_method_9_code
def yX4_missingTo : MethodName := ⟨RX4, "missingTo", "(IJJ)J"⟩
abbrev cX4_lifts : ByteArray := prog_6_method_10_code
def yX4_lifts : MethodName := ⟨RX4, "lifts", "(LRoundsPerHour$Country;IIJJ)Z"⟩
abbrev cX4_step : ByteArray := prog_6_method_11_code
def yX4_step : MethodName := ⟨RX4, "step", "(IIJ)V"⟩
def RX5 : String := "RoundsPerHour$Sheet"
def TX5 : u_T := fun k => match k with
  | 0 => ("RoundsPerHour$Sheet", "bits", "I", false)
  | 1 => ("RoundsPerHour$Sheet", "size", "I", false)
  | _ => ("RoundsPerHour$Sheet", "numbers", "[J", true)
def tyX5 : Nat → FieldType := fun k => match k with
  | 0 => .int
  | 1 => .int
  | _ => .array .long
abbrev wsX50 : List Cond := u_ws RX5 TX5 3
theorem nmX5 : ∀ a, a < 3 → ∀ b, b < 3 → a ≠ b → (TX5 a).2.1 ≠ (TX5 b).2.1 := by decide +kernel
theorem tyX5_ok : ∀ k, k < 3 → parseFieldDescriptor (TX5 k).2.2.1 = some (tyX5 k) := by decide +kernel
abbrev cX5_init : ByteArray := prog_7_method_1_code
def yX5_init : MethodName := ⟨RX5, "<init>", "()V"⟩
abbrev cX5_begin : ByteArray := prog_7_method_2_code
def yX5_begin : MethodName := ⟨RX5, "begin", "(II)V"⟩
abbrev cX5_hasFraction : ByteArray := prog_7_method_3_code
def yX5_hasFraction : MethodName := ⟨RX5, "hasFraction", "(I)Z"⟩
abbrev cX5_hasRun : ByteArray := prog_7_method_4_code
def yX5_hasRun : MethodName := ⟨RX5, "hasRun", "(II)Z"⟩
abbrev cX5_put : ByteArray := prog_7_method_5_code
def yX5_put : MethodName := ⟨RX5, "put", "(IJ)V"⟩
def RX6 : String := "RoundsPerHour$Tape"
def TX6 : u_T := fun k => match k with
  | 0 => ("RoundsPerHour$Tape", "length", "I", false)
  | 1 => ("RoundsPerHour$Tape", "bytes", "[I", true)
  | 2 => ("RoundsPerHour$Tape", "land", "LRoundsPerHour$Country;", false)
  | 3 => ("RoundsPerHour$Tape", "sort", "I", false)
  | 4 => ("RoundsPerHour$Tape", "first", "I", false)
  | 5 => ("RoundsPerHour$Tape", "behind", "I", false)
  | 6 => ("RoundsPerHour$Tape", "number", "I", false)
  | 7 => ("RoundsPerHour$Tape", "gain", "I", false)
  | _ => ("RoundsPerHour$Tape", "time", "I", false)
def tyX6 : Nat → FieldType := fun k => match k with
  | 0 => .int
  | 1 => .array .int
  | 2 => .object "RoundsPerHour$Country"
  | 3 => .int
  | 4 => .int
  | 5 => .int
  | 6 => .int
  | 7 => .int
  | _ => .int
abbrev wsX60 : List Cond := u_ws RX6 TX6 9
theorem nmX6 : ∀ a, a < 9 → ∀ b, b < 9 → a ≠ b → (TX6 a).2.1 ≠ (TX6 b).2.1 := by decide +kernel
theorem tyX6_ok : ∀ k, k < 9 → parseFieldDescriptor (TX6 k).2.2.1 = some (tyX6 k) := by decide +kernel
abbrev cX6_init : ByteArray := prog_8_method_1_code
def yX6_init : MethodName := ⟨RX6, "<init>", "()V"⟩
abbrev cX6_append : ByteArray := prog_8_method_2_code
def yX6_append : MethodName := ⟨RX6, "append", "(I)V"⟩
abbrev cX6_tellTo : ByteArray := prog_8_method_3_code
def yX6_tellTo : MethodName := ⟨RX6, "tellTo", "(LRoundsPerHour$Country;)I"⟩
abbrev cX6_item : ByteArray := prog_8_method_4_code
def yX6_item : MethodName := ⟨RX6, "item", "()Z"⟩
abbrev cX6_placesItem : ByteArray := prog_8_method_5_code
def yX6_placesItem : MethodName := ⟨RX6, "placesItem", "()Z"⟩
abbrev cX6_weatherItem : ByteArray := prog_8_method_6_code
def yX6_weatherItem : MethodName := ⟨RX6, "weatherItem", "()Z"⟩
abbrev cX6_thingItem : ByteArray := prog_8_method_7_code
def yX6_thingItem : MethodName := ⟨RX6, "thingItem", "()Z"⟩
abbrev cX6_wayItem : ByteArray := prog_8_method_8_code
def yX6_wayItem : MethodName := ⟨RX6, "wayItem", "(I)Z"⟩
abbrev cX6_gainAndTime : ByteArray := prog_8_method_9_code
def yX6_gainAndTime : MethodName := ⟨RX6, "gainAndTime", "()Z"⟩
abbrev cX6_kindTold : ByteArray := prog_8_method_10_code
def yX6_kindTold : MethodName := ⟨RX6, "kindTold", "()I"⟩
abbrev cX6_isNumber : ByteArray := prog_8_method_11_code
def yX6_isNumber : MethodName := ⟨RX6, "isNumber", "(II)Z"⟩
abbrev cX6_isWord : ByteArray := prog_8_method_12_code
def yX6_isWord : MethodName := ⟨RX6, "isWord", "(Ljava/lang/String;)Z"⟩
abbrev cX6_next : ByteArray := prog_8_method_13_code
def yX6_next : MethodName := ⟨RX6, "next", "()V"⟩
abbrev cX6_takeDigits : ByteArray := prog_8_method_14_code
def yX6_takeDigits : MethodName := ⟨RX6, "takeDigits", "()V"⟩
abbrev cX6_isLetter : ByteArray := prog_8_method_15_code
def yX6_isLetter : MethodName := ⟨RX6, "isLetter", "(I)Z"⟩
abbrev cX6_isDigit : ByteArray := prog_8_method_16_code
def yX6_isDigit : MethodName := ⟨RX6, "isDigit", "(I)Z"⟩
def RX7 : String := "RoundsPerHour$TreeClimb"
def TX7 : u_T := fun k => match k with
  | 0 => ("RoundsPerHour$Climb", "best", "I", false)
  | 1 => ("RoundsPerHour$Climb", "steps", "I", false)
  | 2 => ("RoundsPerHour$Climb", "above", "J", false)
  | 3 => ("RoundsPerHour$Climb", "below", "J", false)
  | 4 => ("RoundsPerHour$Climb", "size", "I", false)
  | 5 => ("RoundsPerHour$Climb", "baseAbove", "J", false)
  | 6 => ("RoundsPerHour$Climb", "baseBelow", "J", false)
  | 7 => ("RoundsPerHour$Climb", "gains", "[J", true)
  | 8 => ("RoundsPerHour$Climb", "times", "[J", true)
  | 9 => ("RoundsPerHour$Climb", "weight", "[J", true)
  | 10 => ("RoundsPerHour$TreeClimb", "joins", "LRoundsPerHour$Joins;", true)
  | _ => ("RoundsPerHour$TreeClimb", "land", "LRoundsPerHour$Country;", false)
def tyX7 : Nat → FieldType := fun k => match k with
  | 0 => .int
  | 1 => .int
  | 2 => .long
  | 3 => .long
  | 4 => .int
  | 5 => .long
  | 6 => .long
  | 7 => .array .long
  | 8 => .array .long
  | 9 => .array .long
  | 10 => .object "RoundsPerHour$Joins"
  | _ => .object "RoundsPerHour$Country"
abbrev wsX70 : List Cond := u_ws RX7 TX7 12
theorem nmX7 : ∀ a, a < 12 → ∀ b, b < 12 → a ≠ b → (TX7 a).2.1 ≠ (TX7 b).2.1 := by decide +kernel
theorem tyX7_ok : ∀ k, k < 12 → parseFieldDescriptor (TX7 k).2.2.1 = some (tyX7 k) := by decide +kernel
abbrev cX7_init : ByteArray := prog_9_method_1_code
def yX7_init : MethodName := ⟨RX7, "<init>", "()V"⟩
abbrev cX7_climbs : ByteArray := prog_9_method_2_code
def yX7_climbs : MethodName := ⟨RX7, "climbs", "(LRoundsPerHour$Country;)Z"⟩
abbrev cX7_pick : ByteArray := prog_9_method_3_code
def yX7_pick : MethodName := ⟨RX7, "pick", "()I"⟩
abbrev cX7_heaviestJoining : ByteArray := prog_9_method_4_code
def yX7_heaviestJoining : MethodName := ⟨RX7, "heaviestJoining", "()I"⟩
def RX8 : String := "RoundsPerHour$WalkClimb"
def TX8 : u_T := fun k => match k with
  | 0 => ("RoundsPerHour$Climb", "best", "I", false)
  | 1 => ("RoundsPerHour$Climb", "steps", "I", false)
  | 2 => ("RoundsPerHour$Climb", "above", "J", false)
  | 3 => ("RoundsPerHour$Climb", "below", "J", false)
  | 4 => ("RoundsPerHour$Climb", "size", "I", false)
  | 5 => ("RoundsPerHour$Climb", "baseAbove", "J", false)
  | 6 => ("RoundsPerHour$Climb", "baseBelow", "J", false)
  | 7 => ("RoundsPerHour$Climb", "gains", "[J", true)
  | 8 => ("RoundsPerHour$Climb", "times", "[J", true)
  | 9 => ("RoundsPerHour$Climb", "weight", "[J", true)
  | 10 => ("RoundsPerHour$WalkClimb", "height", "[J", true)
  | 11 => ("RoundsPerHour$WalkClimb", "sets", "[I", true)
  | 12 => ("RoundsPerHour$WalkClimb", "land", "LRoundsPerHour$Country;", false)
  | 13 => ("RoundsPerHour$WalkClimb", "start", "I", false)
  | _ => ("RoundsPerHour$WalkClimb", "end", "I", false)
def tyX8 : Nat → FieldType := fun k => match k with
  | 0 => .int
  | 1 => .int
  | 2 => .long
  | 3 => .long
  | 4 => .int
  | 5 => .long
  | 6 => .long
  | 7 => .array .long
  | 8 => .array .long
  | 9 => .array .long
  | 10 => .array .long
  | 11 => .array .int
  | 12 => .object "RoundsPerHour$Country"
  | 13 => .int
  | _ => .int
abbrev wsX80 : List Cond := u_ws RX8 TX8 15
theorem nmX8 : ∀ a, a < 15 → ∀ b, b < 15 → a ≠ b → (TX8 a).2.1 ≠ (TX8 b).2.1 := by decide +kernel
theorem tyX8_ok : ∀ k, k < 15 → parseFieldDescriptor (TX8 k).2.2.1 = some (tyX8 k) := by decide +kernel
abbrev cX8_init : ByteArray := prog_10_method_1_code
def yX8_init : MethodName := ⟨RX8, "<init>", "()V"⟩
abbrev cX8_climbs : ByteArray := prog_10_method_2_code
def yX8_climbs : MethodName := ⟨RX8, "climbs", "(LRoundsPerHour$Country;II)Z"⟩
abbrev cX8_pick : ByteArray := prog_10_method_3_code
def yX8_pick : MethodName := ⟨RX8, "pick", "()I"⟩
abbrev cX8_leave : ByteArray := prog_10_method_4_code
def yX8_leave : MethodName := ⟨RX8, "leave", "(I)V"⟩
def RX9 : String := "RoundsPerHour"
def TX9 : u_T := fun k => match k with
  | 0 => ("RoundsPerHour", "now", "LRoundsPerHour$Country;", true)
  | 1 => ("RoundsPerHour", "kept", "LRoundsPerHour$Country;", true)
  | 2 => ("RoundsPerHour", "draft", "LRoundsPerHour$Country;", true)
  | 3 => ("RoundsPerHour", "isKept", "Z", false)
  | 4 => ("RoundsPerHour", "rings", "LRoundsPerHour$Rings;", true)
  | 5 => ("RoundsPerHour", "trees", "LRoundsPerHour$TreeClimb;", true)
  | 6 => ("RoundsPerHour", "walks", "LRoundsPerHour$WalkClimb;", true)
  | 7 => ("RoundsPerHour", "loads", "LRoundsPerHour$LoadClimb;", true)
  | 8 => ("RoundsPerHour", "joins", "LRoundsPerHour$Joins;", true)
  | 9 => ("RoundsPerHour", "tape", "LRoundsPerHour$Tape;", true)
  | 10 => ("RoundsPerHour", "sheets", "[LRoundsPerHour$Sheet;", true)
  | _ => ("RoundsPerHour", "found", "[I", true)
def tyX9 : Nat → FieldType := fun k => match k with
  | 0 => .object "RoundsPerHour$Country"
  | 1 => .object "RoundsPerHour$Country"
  | 2 => .object "RoundsPerHour$Country"
  | 3 => .boolean
  | 4 => .object "RoundsPerHour$Rings"
  | 5 => .object "RoundsPerHour$TreeClimb"
  | 6 => .object "RoundsPerHour$WalkClimb"
  | 7 => .object "RoundsPerHour$LoadClimb"
  | 8 => .object "RoundsPerHour$Joins"
  | 9 => .object "RoundsPerHour$Tape"
  | 10 => .array (.object "RoundsPerHour$Sheet")
  | _ => .array .int
abbrev wsX90 : List Cond := u_ws RX9 TX9 12
theorem nmX9 : ∀ a, a < 12 → ∀ b, b < 12 → a ≠ b → (TX9 a).2.1 ≠ (TX9 b).2.1 := by decide +kernel
theorem tyX9_ok : ∀ k, k < 12 → parseFieldDescriptor (TX9 k).2.2.1 = some (tyX9 k) := by decide +kernel
abbrev cX9_init : ByteArray := prog_1_method_1_code
def yX9_init : MethodName := ⟨RX9, "<init>", "()V"⟩
abbrev cX9_places : ByteArray := prog_1_method_2_code
def yX9_places : MethodName := ⟨RX9, "places", "(I)I"⟩
abbrev cX9_weather : ByteArray := prog_1_method_3_code
def yX9_weather : MethodName := ⟨RX9, "weather", "(I)I"⟩
abbrev cX9_way : ByteArray := prog_1_method_4_code
def yX9_way : MethodName := ⟨RX9, "way", "(IIIII)I"⟩
abbrev cX9_of : ByteArray := prog_1_method_5_code
def yX9_of : MethodName := ⟨RX9, "of", "(II)I"⟩
abbrev cX9_change : ByteArray := prog_1_method_6_code
def yX9_change : MethodName := ⟨RX9, "change", "(III)I"⟩
abbrev cX9_canBecome : ByteArray := prog_1_method_7_code
def yX9_canBecome : MethodName := ⟨RX9, "canBecome", "(III)Z"⟩
abbrev cX9_as : ByteArray := prog_1_method_8_code
def yX9_as : MethodName := ⟨RX9, "as", "(II)I"⟩
abbrev cX9_thing : ByteArray := prog_1_method_9_code
def yX9_thing : MethodName := ⟨RX9, "thing", "(II)I"⟩
abbrev cX9_alter : ByteArray := prog_1_method_10_code
def yX9_alter : MethodName := ⟨RX9, "alter", "(III)I"⟩
abbrev cX9_its : ByteArray := prog_1_method_11_code
def yX9_its : MethodName := ⟨RX9, "its", "(II)I"⟩
abbrev cX9_ring : ByteArray := prog_1_method_12_code
def yX9_ring : MethodName := ⟨RX9, "ring", "(I)J"⟩
abbrev cX9_ringWays : ByteArray := prog_1_method_13_code
def yX9_ringWays : MethodName := ⟨RX9, "ringWays", "()I"⟩
abbrev cX9_lift : ByteArray := prog_1_method_14_code
def yX9_lift : MethodName := ⟨RX9, "lift", "(II)J"⟩
abbrev cX9_worth : ByteArray := prog_1_method_15_code
def yX9_worth : MethodName := ⟨RX9, "worth", "(J)J"⟩
abbrev cX9_raise : ByteArray := prog_1_method_16_code
def yX9_raise : MethodName := ⟨RX9, "raise", "(I)I"⟩
abbrev cX9_lose : ByteArray := prog_1_method_17_code
def yX9_lose : MethodName := ⟨RX9, "lose", "()I"⟩
abbrev cX9_kind : ByteArray := prog_1_method_18_code
def yX9_kind : MethodName := ⟨RX9, "kind", "(I)I"⟩
abbrev cX9_season : ByteArray := prog_1_method_19_code
def yX9_season : MethodName := ⟨RX9, "season", "()I"⟩
abbrev cX9_bestRing : ByteArray := prog_1_method_20_code
def yX9_bestRing : MethodName := ⟨RX9, "bestRing", "()I"⟩
abbrev cX9_tree : ByteArray := prog_1_method_21_code
def yX9_tree : MethodName := ⟨RX9, "tree", "(I)J"⟩
abbrev cX9_walk : ByteArray := prog_1_method_22_code
def yX9_walk : MethodName := ⟨RX9, "walk", "(III)J"⟩
abbrev cX9_load : ByteArray := prog_1_method_23_code
def yX9_load : MethodName := ⟨RX9, "load", "(II)J"⟩
abbrev cX9_told : ByteArray := prog_1_method_24_code
def yX9_told : MethodName := ⟨RX9, "told", "(LRoundsPerHour$Climb;ZI)J"⟩
abbrev cX9_ratio : ByteArray := prog_1_method_25_code
def yX9_ratio : MethodName := ⟨RX9, "ratio", "(III)J"⟩
abbrev cX9_isChoice : ByteArray := prog_1_method_26_code
def yX9_isChoice : MethodName := ⟨RX9, "isChoice", "(II)Z"⟩
abbrev cX9_compare : ByteArray := prog_1_method_27_code
def yX9_compare : MethodName := ⟨RX9, "compare", "(III)I"⟩
abbrev cX9_reduce : ByteArray := prog_1_method_28_code
def yX9_reduce : MethodName := ⟨RX9, "reduce", "(II)J"⟩
abbrev cX9_add : ByteArray := prog_1_method_29_code
def yX9_add : MethodName := ⟨RX9, "add", "(III)I"⟩
abbrev cX9_fractionFault : ByteArray := prog_1_method_30_code
def yX9_fractionFault : MethodName := ⟨RX9, "fractionFault", "(III)I"⟩
abbrev cX9_feed : ByteArray := prog_1_method_31_code
def yX9_feed : MethodName := ⟨RX9, "feed", "(II)I"⟩
abbrev cX9_wipe : ByteArray := prog_1_method_32_code
def yX9_wipe : MethodName := ⟨RX9, "wipe", "()I"⟩
abbrev cX9_text : ByteArray := prog_1_method_33_code
def yX9_text : MethodName := ⟨RX9, "text", "()I"⟩
abbrev cX9_sheet : ByteArray := prog_1_method_34_code
def yX9_sheet : MethodName := ⟨RX9, "sheet", "(III)I"⟩
abbrev cX9_write : ByteArray := prog_1_method_35_code
def yX9_write : MethodName := ⟨RX9, "write", "(IIJ)I"⟩
abbrev cX9_read : ByteArray := prog_1_method_36_code
def yX9_read : MethodName := ⟨RX9, "read", "(II)J"⟩
abbrev cX9_copy : ByteArray := prog_1_method_37_code
def yX9_copy : MethodName := ⟨RX9, "copy", "(IIIII)I"⟩
abbrev cX9_lays : ByteArray := prog_1_method_38_code
def yX9_lays : MethodName := ⟨RX9, "lays", "(I)I"⟩
abbrev cX9_sheetFault : ByteArray := prog_1_method_39_code
def yX9_sheetFault : MethodName := ⟨RX9, "sheetFault", "(I)I"⟩
abbrev cX9_numberFault : ByteArray := prog_1_method_40_code
def yX9_numberFault : MethodName := ⟨RX9, "numberFault", "(II)I"⟩
abbrev cX9_image : ByteArray := prog_1_method_41_code
def yX9_image : MethodName := ⟨RX9, "image", "()I"⟩
abbrev cX9_undo : ByteArray := prog_1_method_42_code
def yX9_undo : MethodName := ⟨RX9, "undo", "()I"⟩
abbrev cX9_tear : ByteArray := prog_1_method_43_code
def yX9_tear : MethodName := ⟨RX9, "tear", "()I"⟩
abbrev cX9_count : ByteArray := prog_1_method_44_code
def yX9_count : MethodName := ⟨RX9, "count", "(I)I"⟩
abbrev cX9_status : ByteArray := prog_1_method_45_code
def yX9_status : MethodName := ⟨RX9, "status", "(I)I"⟩
abbrev cX9_finding : ByteArray := prog_1_method_46_code
def yX9_finding : MethodName := ⟨RX9, "finding", "(I)I"⟩
abbrev cX9_longFinding : ByteArray := prog_1_method_47_code
def yX9_longFinding : MethodName := ⟨RX9, "longFinding", "(I)J"⟩
abbrev cX9_put : ByteArray := prog_1_method_48_code
def yX9_put : MethodName := ⟨RX9, "put", "([III)I"⟩
abbrev cX9_within : ByteArray := prog_1_method_49_code
def yX9_within : MethodName := ⟨RX9, "within", "(III)Z"⟩
abbrev cX9_isKind : ByteArray := prog_1_method_50_code
def yX9_isKind : MethodName := ⟨RX9, "isKind", "(I)Z"⟩
abbrev cX9_isGain : ByteArray := prog_1_method_51_code
def yX9_isGain : MethodName := ⟨RX9, "isGain", "(I)Z"⟩
abbrev cX9_isTime : ByteArray := prog_1_method_52_code
def yX9_isTime : MethodName := ⟨RX9, "isTime", "(I)Z"⟩
abbrev cX9_isUnder : ByteArray := prog_1_method_53_code
def yX9_isUnder : MethodName := ⟨RX9, "isUnder", "(II)Z"⟩
abbrev cX9_brings : ByteArray := prog_1_method_54_code
def yX9_brings : MethodName := ⟨RX9, "brings", "(III)I"⟩
abbrev cX9_lasts : ByteArray := prog_1_method_55_code
def yX9_lasts : MethodName := ⟨RX9, "lasts", "(III)I"⟩
abbrev cX9_productFits : ByteArray := prog_1_method_56_code
def yX9_productFits : MethodName := ⟨RX9, "productFits", "(JJ)Z"⟩
abbrev cX9_sumFits : ByteArray := prog_1_method_57_code
def yX9_sumFits : MethodName := ⟨RX9, "sumFits", "(JJ)Z"⟩
abbrev cX9_sharedBelowZero : ByteArray := prog_1_method_58_code
def yX9_sharedBelowZero : MethodName := ⟨RX9, "sharedBelowZero", "(JJ)J"⟩
abbrev cX9_lowest : ByteArray := prog_1_method_59_code
def yX9_lowest : MethodName := ⟨RX9, "lowest", "(JJI)J"⟩
def RX10 : String := "RoundsPerHourModel"
def TX10 : u_T := fun k => match k with
  | 0 => ("RoundsPerHourModel", "found", "[I", true)
  | 1 => ("RoundsPerHourModel", "places", "I", false)
  | 2 => ("RoundsPerHourModel", "weather", "I", false)
  | 3 => ("RoundsPerHourModel", "ways", "I", false)
  | 4 => ("RoundsPerHourModel", "way", "[I", true)
  | 5 => ("RoundsPerHourModel", "things", "I", false)
  | 6 => ("RoundsPerHourModel", "thing", "[I", true)
  | 7 => ("RoundsPerHourModel", "base", "[I", true)
  | 8 => ("RoundsPerHourModel", "open", "I", false)
  | 9 => ("RoundsPerHourModel", "must", "I", false)
  | 10 => ("RoundsPerHourModel", "isAny", "Z", false)
  | 11 => ("RoundsPerHourModel", "topAbove", "J", false)
  | 12 => ("RoundsPerHourModel", "topBelow", "J", false)
  | 13 => ("RoundsPerHourModel", "topWays", "I", false)
  | 14 => ("RoundsPerHourModel", "lifted", "[J", true)
  | 15 => ("RoundsPerHourModel", "hasRoom", "Z", false)
  | 16 => ("RoundsPerHourModel", "sort", "I", false)
  | 17 => ("RoundsPerHourModel", "goesFrom", "I", false)
  | 18 => ("RoundsPerHourModel", "goesTo", "I", false)
  | 19 => ("RoundsPerHourModel", "many", "I", false)
  | 20 => ("RoundsPerHourModel", "bitsOf", "[I", true)
  | 21 => ("RoundsPerHourModel", "sizeOf", "[I", true)
  | 22 => ("RoundsPerHourModel", "number", "[J", true)
  | 23 => ("RoundsPerHourModel", "moved", "[J", true)
  | 24 => ("RoundsPerHourModel", "tape", "[I", true)
  | 25 => ("RoundsPerHourModel", "taped", "I", false)
  | 26 => ("RoundsPerHourModel", "read", "I", false)
  | 27 => ("RoundsPerHourModel", "began", "I", false)
  | 28 => ("RoundsPerHourModel", "token", "I", false)
  | 29 => ("RoundsPerHourModel", "value", "I", false)
  | 30 => ("RoundsPerHourModel", "last", "I", false)
  | 31 => ("RoundsPerHourModel", "words", "[C", true)
  | 32 => ("RoundsPerHourModel", "toldGain", "I", false)
  | 33 => ("RoundsPerHourModel", "toldTime", "I", false)
  | 34 => ("RoundsPerHourModel", "kept", "[I", true)
  | _ => ("RoundsPerHourModel", "isKept", "Z", false)
def tyX10 : Nat → FieldType := fun k => match k with
  | 0 => .array .int
  | 1 => .int
  | 2 => .int
  | 3 => .int
  | 4 => .array .int
  | 5 => .int
  | 6 => .array .int
  | 7 => .array .int
  | 8 => .int
  | 9 => .int
  | 10 => .boolean
  | 11 => .long
  | 12 => .long
  | 13 => .int
  | 14 => .array .long
  | 15 => .boolean
  | 16 => .int
  | 17 => .int
  | 18 => .int
  | 19 => .int
  | 20 => .array .int
  | 21 => .array .int
  | 22 => .array .long
  | 23 => .array .long
  | 24 => .array .int
  | 25 => .int
  | 26 => .int
  | 27 => .int
  | 28 => .int
  | 29 => .int
  | 30 => .int
  | 31 => .array .char
  | 32 => .int
  | 33 => .int
  | 34 => .array .int
  | _ => .boolean
abbrev wsX100 : List Cond := u_ws RX10 TX10 36
theorem nmX10 : ∀ a, a < 36 → ∀ b, b < 36 → a ≠ b → (TX10 a).2.1 ≠ (TX10 b).2.1 := by decide +kernel
theorem tyX10_ok : ∀ k, k < 36 → parseFieldDescriptor (TX10 k).2.2.1 = some (tyX10 k) := by decide +kernel
abbrev cX10_init : ByteArray := prog_12_method_1_code
def yX10_init : MethodName := ⟨RX10, "<init>", "()V"⟩
abbrev cX10_in : ByteArray := prog_12_method_3_code
def yX10_in : MethodName := ⟨RX10, "in", "(JJJ)Z"⟩
abbrev cX10_finds : ByteArray := prog_12_method_4_code
def yX10_finds : MethodName := ⟨RX10, "finds", "(I)I"⟩
abbrev cX10_farFinds : ByteArray := prog_12_method_5_code
def yX10_farFinds : MethodName := ⟨RX10, "farFinds", "(I)J"⟩
abbrev cX10_at : ByteArray := prog_12_method_6_code
def yX10_at : MethodName := ⟨RX10, "at", "(II)I"⟩
abbrev cX10_isPlace : ByteArray := prog_12_method_7_code
def yX10_isPlace : MethodName := ⟨RX10, "isPlace", "(I)Z"⟩
abbrev cX10_isWay : ByteArray := prog_12_method_8_code
def yX10_isWay : MethodName := ⟨RX10, "isWay", "(I)Z"⟩
abbrev cX10_isGain : ByteArray := prog_12_method_9_code
def yX10_isGain : MethodName := ⟨RX10, "isGain", "(J)Z"⟩
abbrev cX10_isTime : ByteArray := prog_12_method_10_code
def yX10_isTime : MethodName := ⟨RX10, "isTime", "(I)Z"⟩
abbrev cX10_brings : ByteArray := prog_12_method_11_code
def yX10_brings : MethodName := ⟨RX10, "brings", "(I)I"⟩
abbrev cX10_lasts : ByteArray := prog_12_method_12_code
def yX10_lasts : MethodName := ⟨RX10, "lasts", "(I)I"⟩
abbrev cX10_places : ByteArray := prog_12_method_13_code
def yX10_places : MethodName := ⟨RX10, "places", "(I)I"⟩
abbrev cX10_weather : ByteArray := prog_12_method_14_code
def yX10_weather : MethodName := ⟨RX10, "weather", "(I)I"⟩
abbrev cX10_addWay : ByteArray := prog_12_method_15_code
def yX10_addWay : MethodName := ⟨RX10, "addWay", "(IIIII)V"⟩
abbrev cX10_way : ByteArray := prog_12_method_16_code
def yX10_way : MethodName := ⟨RX10, "way", "(IIIII)I"⟩
abbrev cX10_of : ByteArray := prog_12_method_17_code
def yX10_of : MethodName := ⟨RX10, "of", "(II)I"⟩
abbrev cX10_mayBe : ByteArray := prog_12_method_18_code
def yX10_mayBe : MethodName := ⟨RX10, "mayBe", "(III)Z"⟩
abbrev cX10_change : ByteArray := prog_12_method_19_code
def yX10_change : MethodName := ⟨RX10, "change", "(III)I"⟩
abbrev cX10_as : ByteArray := prog_12_method_20_code
def yX10_as : MethodName := ⟨RX10, "as", "(II)I"⟩
abbrev cX10_thing : ByteArray := prog_12_method_21_code
def yX10_thing : MethodName := ⟨RX10, "thing", "(II)I"⟩
abbrev cX10_isThing : ByteArray := prog_12_method_22_code
def yX10_isThing : MethodName := ⟨RX10, "isThing", "(I)Z"⟩
abbrev cX10_alter : ByteArray := prog_12_method_23_code
def yX10_alter : MethodName := ⟨RX10, "alter", "(III)I"⟩
abbrev cX10_its : ByteArray := prog_12_method_24_code
def yX10_its : MethodName := ⟨RX10, "its", "(II)I"⟩
abbrev cX10_common : ByteArray := prog_12_method_25_code
def yX10_common : MethodName := ⟨RX10, "common", "(JJ)J"⟩
abbrev cX10_lowest : ByteArray := prog_12_method_26_code
def yX10_lowest : MethodName := ⟨RX10, "lowest", "(JJI)J"⟩
abbrev cX10_openWays : ByteArray := prog_12_method_27_code
def yX10_openWays : MethodName := ⟨RX10, "openWays", "()I"⟩
abbrev cX10_closes : ByteArray := prog_12_method_28_code
def yX10_closes : MethodName := ⟨RX10, "closes", "(IJJ)V"⟩
abbrev cX10_goesRound : ByteArray := prog_12_method_29_code
def yX10_goesRound : MethodName := ⟨RX10, "goesRound", "(IIIIJJ)V"⟩
abbrev cX10_rings : ByteArray := prog_12_method_30_code
def yX10_rings : MethodName := ⟨RX10, "rings", "(II)Z"⟩
abbrev cX10_ringsNow : ByteArray := prog_12_method_31_code
def yX10_ringsNow : MethodName := ⟨RX10, "ringsNow", "()Z"⟩
abbrev cX10_ring : ByteArray := prog_12_method_32_code
def yX10_ring : MethodName := ⟨RX10, "ring", "(I)J"⟩
abbrev cX10_ringWays : ByteArray := prog_12_method_33_code
def yX10_ringWays : MethodName := ⟨RX10, "ringWays", "()I"⟩
abbrev cX10_lifts : ByteArray := prog_12_method_34_code
def yX10_lifts : MethodName := ⟨RX10, "lifts", "(JJ)Z"⟩
abbrev cX10_lift : ByteArray := prog_12_method_35_code
def yX10_lift : MethodName := ⟨RX10, "lift", "(II)J"⟩
abbrev cX10_product : ByteArray := prog_12_method_36_code
def yX10_product : MethodName := ⟨RX10, "product", "(JJ)J"⟩
abbrev cX10_sum : ByteArray := prog_12_method_37_code
def yX10_sum : MethodName := ⟨RX10, "sum", "(JJ)J"⟩
abbrev cX10_worth : ByteArray := prog_12_method_38_code
def yX10_worth : MethodName := ⟨RX10, "worth", "(J)J"⟩
abbrev cX10_isRaised : ByteArray := prog_12_method_39_code
def yX10_isRaised : MethodName := ⟨RX10, "isRaised", "(IIIJJ)Z"⟩
abbrev cX10_raised : ByteArray := prog_12_method_40_code
def yX10_raised : MethodName := ⟨RX10, "raised", "(I)I"⟩
abbrev cX10_raise : ByteArray := prog_12_method_41_code
def yX10_raise : MethodName := ⟨RX10, "raise", "(I)I"⟩
abbrev cX10_lose : ByteArray := prog_12_method_42_code
def yX10_lose : MethodName := ⟨RX10, "lose", "()I"⟩
abbrev cX10_kind : ByteArray := prog_12_method_43_code
def yX10_kind : MethodName := ⟨RX10, "kind", "(I)I"⟩
abbrev cX10_season : ByteArray := prog_12_method_44_code
def yX10_season : MethodName := ⟨RX10, "season", "()I"⟩
abbrev cX10_bits : ByteArray := prog_12_method_45_code
def yX10_bits : MethodName := ⟨RX10, "bits", "(I)I"⟩
abbrev cX10_wayFrom : ByteArray := prog_12_method_46_code
def yX10_wayFrom : MethodName := ⟨RX10, "wayFrom", "(II)I"⟩
abbrev cX10_isRound : ByteArray := prog_12_method_47_code
def yX10_isRound : MethodName := ⟨RX10, "isRound", "(I)Z"⟩
abbrev cX10_joinsAll : ByteArray := prog_12_method_48_code
def yX10_joinsAll : MethodName := ⟨RX10, "joinsAll", "(I)Z"⟩
abbrev cX10_rises : ByteArray := prog_12_method_49_code
def yX10_rises : MethodName := ⟨RX10, "rises", "(I)Z"⟩
abbrev cX10_isChoice : ByteArray := prog_12_method_50_code
def yX10_isChoice : MethodName := ⟨RX10, "isChoice", "(I)Z"⟩
abbrev cX10_aboveOf : ByteArray := prog_12_method_51_code
def yX10_aboveOf : MethodName := ⟨RX10, "aboveOf", "(I)J"⟩
abbrev cX10_belowOf : ByteArray := prog_12_method_52_code
def yX10_belowOf : MethodName := ⟨RX10, "belowOf", "(I)J"⟩
abbrev cX10_allSets : ByteArray := prog_12_method_53_code
def yX10_allSets : MethodName := ⟨RX10, "allSets", "()I"⟩
abbrev cX10_leastChoice : ByteArray := prog_12_method_54_code
def yX10_leastChoice : MethodName := ⟨RX10, "leastChoice", "()I"⟩
abbrev cX10_nextChoice : ByteArray := prog_12_method_55_code
def yX10_nextChoice : MethodName := ⟨RX10, "nextChoice", "(JJ)I"⟩
abbrev cX10_leastLike : ByteArray := prog_12_method_56_code
def yX10_leastLike : MethodName := ⟨RX10, "leastLike", "(JJ)I"⟩
abbrev cX10_climbed : ByteArray := prog_12_method_57_code
def yX10_climbed : MethodName := ⟨RX10, "climbed", "(II)J"⟩
abbrev cX10_told : ByteArray := prog_12_method_58_code
def yX10_told : MethodName := ⟨RX10, "told", "(I)J"⟩
abbrev cX10_tree : ByteArray := prog_12_method_59_code
def yX10_tree : MethodName := ⟨RX10, "tree", "(I)J"⟩
abbrev cX10_walk : ByteArray := prog_12_method_60_code
def yX10_walk : MethodName := ⟨RX10, "walk", "(III)J"⟩
abbrev cX10_load : ByteArray := prog_12_method_61_code
def yX10_load : MethodName := ⟨RX10, "load", "(II)J"⟩
abbrev cX10_ratio : ByteArray := prog_12_method_62_code
def yX10_ratio : MethodName := ⟨RX10, "ratio", "(III)J"⟩
abbrev cX10_isSheet : ByteArray := prog_12_method_63_code
def yX10_isSheet : MethodName := ⟨RX10, "isSheet", "(I)Z"⟩
abbrev cX10_narrow : ByteArray := prog_12_method_64_code
def yX10_narrow : MethodName := ⟨RX10, "narrow", "(IJ)J"⟩
abbrev cX10_wrong : ByteArray := prog_12_method_65_code
def yX10_wrong : MethodName := ⟨RX10, "wrong", "(III)I"⟩
abbrev cX10_compare : ByteArray := prog_12_method_66_code
def yX10_compare : MethodName := ⟨RX10, "compare", "(III)I"⟩
abbrev cX10_reduce : ByteArray := prog_12_method_67_code
def yX10_reduce : MethodName := ⟨RX10, "reduce", "(II)J"⟩
abbrev cX10_add : ByteArray := prog_12_method_68_code
def yX10_add : MethodName := ⟨RX10, "add", "(III)I"⟩
abbrev cX10_feed : ByteArray := prog_12_method_69_code
def yX10_feed : MethodName := ⟨RX10, "feed", "(II)I"⟩
abbrev cX10_wipe : ByteArray := prog_12_method_70_code
def yX10_wipe : MethodName := ⟨RX10, "wipe", "()I"⟩
abbrev cX10_byteAt : ByteArray := prog_12_method_71_code
def yX10_byteAt : MethodName := ⟨RX10, "byteAt", "(I)I"⟩
abbrev cX10_isWordFrom : ByteArray := prog_12_method_72_code
def yX10_isWordFrom : MethodName := ⟨RX10, "isWordFrom", "(I)Z"⟩
abbrev cX10_next : ByteArray := prog_12_method_73_code
def yX10_next : MethodName := ⟨RX10, "next", "()V"⟩
abbrev cX10_isWord : ByteArray := prog_12_method_74_code
def yX10_isWord : MethodName := ⟨RX10, "isWord", "(I)Z"⟩
abbrev cX10_takesNumber : ByteArray := prog_12_method_75_code
def yX10_takesNumber : MethodName := ⟨RX10, "takesNumber", "(II)Z"⟩
abbrev cX10_readsGainAndTime : ByteArray := prog_12_method_76_code
def yX10_readsGainAndTime : MethodName := ⟨RX10, "readsGainAndTime", "()Z"⟩
abbrev cX10_readsWay : ByteArray := prog_12_method_77_code
def yX10_readsWay : MethodName := ⟨RX10, "readsWay", "(I)Z"⟩
abbrev cX10_readsThing : ByteArray := prog_12_method_78_code
def yX10_readsThing : MethodName := ⟨RX10, "readsThing", "()Z"⟩
abbrev cX10_readsItem : ByteArray := prog_12_method_79_code
def yX10_readsItem : MethodName := ⟨RX10, "readsItem", "()Z"⟩
abbrev cX10_text : ByteArray := prog_12_method_80_code
def yX10_text : MethodName := ⟨RX10, "text", "()I"⟩
abbrev cX10_sheet : ByteArray := prog_12_method_81_code
def yX10_sheet : MethodName := ⟨RX10, "sheet", "(III)I"⟩
abbrev cX10_lacks : ByteArray := prog_12_method_82_code
def yX10_lacks : MethodName := ⟨RX10, "lacks", "(II)I"⟩
abbrev cX10_write : ByteArray := prog_12_method_83_code
def yX10_write : MethodName := ⟨RX10, "write", "(IIJ)I"⟩
abbrev cX10_read : ByteArray := prog_12_method_84_code
def yX10_read : MethodName := ⟨RX10, "read", "(II)J"⟩
abbrev cX10_copy : ByteArray := prog_12_method_85_code
def yX10_copy : MethodName := ⟨RX10, "copy", "(IIIII)I"⟩
abbrev cX10_lays : ByteArray := prog_12_method_86_code
def yX10_lays : MethodName := ⟨RX10, "lays", "(I)I"⟩
abbrev cX10_image : ByteArray := prog_12_method_87_code
def yX10_image : MethodName := ⟨RX10, "image", "()I"⟩
abbrev cX10_undo : ByteArray := prog_12_method_88_code
def yX10_undo : MethodName := ⟨RX10, "undo", "()I"⟩
abbrev cX10_tear : ByteArray := prog_12_method_89_code
def yX10_tear : MethodName := ⟨RX10, "tear", "()I"⟩
abbrev cX10_count : ByteArray := prog_12_method_90_code
def yX10_count : MethodName := ⟨RX10, "count", "(I)I"⟩
abbrev cX10_status : ByteArray := prog_12_method_91_code
def yX10_status : MethodName := ⟨RX10, "status", "(I)I"⟩
def RJ6 : String := "java/lang/Integer"
def TJ6 : u_T := fun k => match k with
  | _ => ("", "", "", false)
def tyJ6 : Nat → FieldType := fun k => match k with
  | _ => .int
abbrev wsJ60 : List Cond := u_ws RJ6 TJ6 0
theorem nmJ6 : ∀ a, a < 0 → ∀ b, b < 0 → a ≠ b → (TJ6 a).2.1 ≠ (TJ6 b).2.1 := by decide +kernel
theorem tyJ6_ok : ∀ k, k < 0 → parseFieldDescriptor (TJ6 k).2.2.1 = some (tyJ6 k) := by decide +kernel
abbrev cJ6_bitCount_0f7a4 : ByteArray := prog_13_method_49_code
def yJ6_bitCount_0f7a4 : MethodName := ⟨RJ6, "bitCount", "(I)I"⟩
def RJ13 : String := "java/lang/Long"
def TJ13 : u_T := fun k => match k with
  | _ => ("", "", "", false)
def tyJ13 : Nat → FieldType := fun k => match k with
  | _ => .int
abbrev wsJ130 : List Cond := u_ws RJ13 TJ13 0
theorem nmJ13 : ∀ a, a < 0 → ∀ b, b < 0 → a ≠ b → (TJ13 a).2.1 ≠ (TJ13 b).2.1 := by decide +kernel
theorem tyJ13_ok : ∀ k, k < 0 → parseFieldDescriptor (TJ13 k).2.2.1 = some (tyJ13 k) := by decide +kernel
abbrev cJ13_compare_74951 : ByteArray := prog_14_method_42_code
def yJ13_compare_74951 : MethodName := ⟨RJ13, "compare", "(JJ)I"⟩
def RJ9 : String := "java/lang/Math"
def TJ9 : u_T := fun k => match k with
  | _ => ("", "", "", false)
def tyJ9 : Nat → FieldType := fun k => match k with
  | _ => .int
abbrev wsJ90 : List Cond := u_ws RJ9 TJ9 0
theorem nmJ9 : ∀ a, a < 0 → ∀ b, b < 0 → a ≠ b → (TJ9 a).2.1 ≠ (TJ9 b).2.1 := by decide +kernel
theorem tyJ9_ok : ∀ k, k < 0 → parseFieldDescriptor (TJ9 k).2.2.1 = some (tyJ9 k) := by decide +kernel
abbrev cJ9_floorDiv_f86c9 : ByteArray := prog_15_method_49_code
def yJ9_floorDiv_f86c9 : MethodName := ⟨RJ9, "floorDiv", "(JJ)J"⟩
abbrev cJ9_max_f86c9 : ByteArray := prog_15_method_66_code
def yJ9_max_f86c9 : MethodName := ⟨RJ9, "max", "(JJ)J"⟩
abbrev cJ9_min_7cf53 : ByteArray := prog_15_method_69_code
def yJ9_min_7cf53 : MethodName := ⟨RJ9, "min", "(II)I"⟩
abbrev cJ9_min_f86c9 : ByteArray := prog_15_method_70_code
def yJ9_min_f86c9 : MethodName := ⟨RJ9, "min", "(JJ)J"⟩
def RJ0 : String := "java/lang/String"
def TJ0 : u_T := fun k => match k with
  | _ => ("", "", "", false)
def tyJ0 : Nat → FieldType := fun k => match k with
  | _ => .int
abbrev wsJ00 : List Cond := u_ws RJ0 TJ0 0
theorem nmJ0 : ∀ a, a < 0 → ∀ b, b < 0 → a ≠ b → (TJ0 a).2.1 ≠ (TJ0 b).2.1 := by decide +kernel
theorem tyJ0_ok : ∀ k, k < 0 → parseFieldDescriptor (TJ0 k).2.2.1 = some (tyJ0 k) := by decide +kernel
abbrev cJ0_length_8abf5 : ByteArray := prog_16_method_54_code
def yJ0_length_8abf5 : MethodName := ⟨RJ0, "length", "()I"⟩
abbrev cJ0_charAt_5068e : ByteArray := prog_16_method_56_code
def yJ0_charAt_5068e : MethodName := ⟨RJ0, "charAt", "(I)C"⟩
abbrev cJ0_coder_7d493 : ByteArray := prog_16_method_152_code
def yJ0_coder_7d493 : MethodName := ⟨RJ0, "coder", "()B"⟩
abbrev cJ0_isLatin1_aae02 : ByteArray := prog_16_method_154_code
def yJ0_isLatin1_aae02 : MethodName := ⟨RJ0, "isLatin1", "()Z"⟩
abbrev cJ0_checkIndex_df160 : ByteArray := prog_16_method_155_code
def yJ0_checkIndex_df160 : MethodName := ⟨RJ0, "checkIndex", "(II)V"⟩
def RJ1 : String := "java/lang/StringLatin1"
def TJ1 : u_T := fun k => match k with
  | _ => ("", "", "", false)
def tyJ1 : Nat → FieldType := fun k => match k with
  | _ => .int
abbrev wsJ10 : List Cond := u_ws RJ1 TJ1 0
theorem nmJ1 : ∀ a, a < 0 → ∀ b, b < 0 → a ≠ b → (TJ1 a).2.1 ≠ (TJ1 b).2.1 := by decide +kernel
theorem tyJ1_ok : ∀ k, k < 0 → parseFieldDescriptor (TJ1 k).2.2.1 = some (tyJ1 k) := by decide +kernel
abbrev cJ1_charAt_3b067 : ByteArray := prog_17_method_2_code
def yJ1_charAt_3b067 : MethodName := ⟨RJ1, "charAt", "([BI)C"⟩
def RJ2 : String := "java/lang/StringUTF16"
def TJ2 : u_T := fun k => match k with
  | _ => ("", "", "", false)
def tyJ2 : Nat → FieldType := fun k => match k with
  | _ => .int
abbrev wsJ20 : List Cond := u_ws RJ2 TJ2 0
theorem nmJ2 : ∀ a, a < 0 → ∀ b, b < 0 → a ≠ b → (TJ2 a).2.1 ≠ (TJ2 b).2.1 := by decide +kernel
theorem tyJ2_ok : ∀ k, k < 0 → parseFieldDescriptor (TJ2 k).2.2.1 = some (tyJ2 k) := by decide +kernel
abbrev cJ2_getChar_3b067 : ByteArray := prog_18_method_5_code
def yJ2_getChar_3b067 : MethodName := ⟨RJ2, "getChar", "([BI)C"⟩
abbrev cJ2_length_9d52b : ByteArray := prog_18_method_6_code
def yJ2_length_9d52b : MethodName := ⟨RJ2, "length", "([B)I"⟩
abbrev cJ2_charAt_3b067 : ByteArray := prog_18_method_83_code
def yJ2_charAt_3b067 : MethodName := ⟨RJ2, "charAt", "([BI)C"⟩
abbrev cJ2_checkIndex_2214a : ByteArray := prog_18_method_91_code
def yJ2_checkIndex_2214a : MethodName := ⟨RJ2, "checkIndex", "(I[B)V"⟩
def RJ10 : String := "java/lang/System"
def TJ10 : u_T := fun k => match k with
  | _ => ("", "", "", false)
def tyJ10 : Nat → FieldType := fun k => match k with
  | _ => .int
abbrev wsJ100 : List Cond := u_ws RJ10 TJ10 0
theorem nmJ10 : ∀ a, a < 0 → ∀ b, b < 0 → a ≠ b → (TJ10 a).2.1 ≠ (TJ10 b).2.1 := by decide +kernel
theorem tyJ10_ok : ∀ k, k < 0 → parseFieldDescriptor (TJ10 k).2.2.1 = some (tyJ10 k) := by decide +kernel
def RJ3 : String := "jdk/internal/util/Preconditions"
def TJ3 : u_T := fun k => match k with
  | _ => ("", "", "", false)
def tyJ3 : Nat → FieldType := fun k => match k with
  | _ => .int
abbrev wsJ30 : List Cond := u_ws RJ3 TJ3 0
theorem nmJ3 : ∀ a, a < 0 → ∀ b, b < 0 → a ≠ b → (TJ3 a).2.1 ≠ (TJ3 b).2.1 := by decide +kernel
theorem tyJ3_ok : ∀ k, k < 0 → parseFieldDescriptor (TJ3 k).2.2.1 = some (tyJ3 k) := by decide +kernel
abbrev cJ3_checkIndex_8e157 : ByteArray := prog_20_method_11_code
def yJ3_checkIndex_8e157 : MethodName := ⟨RJ3, "checkIndex", "(IILjava/util/function/BiFunction;)I"⟩
def RL : String := "RoundsPerHourLaw"
abbrev cL_law : ByteArray := code
def yL_law : MethodName := ⟨RL, "law", "([I)Z"⟩
abbrev vwCl : List vw_C := [(RX1, TX1, 12), (RX2, TX2, 1), (RX3, TX3, 11), (RX4, TX4, 13), (RX5, TX5, 3), (RX6, TX6, 9), (RX7, TX7, 12), (RX8, TX8, 15), (RX9, TX9, 12), (RX10, TX10, 36)]
end
section
/-! ===== the words of the tables that every method keeps ===== -/
/-- a private method of Climb, on an object of a class under it -/
theorem msel_priv {C : String} {x0 y0 y : MethodName} {s : State} {args : Array Value} (hy : y.cls ≠ "java/lang/invoke/MethodHandle" ∧ y.cls ≠ "java/lang/invoke/VarHandle") (h0 : (Cond.selects C x0 y0).before args s = true) (he : y.cls = y0.cls) (hpriv : (Cond.privateMethod y).before args s = true) (hinst : (Cond.instanceMethod y).before args s = true) : (Cond.selects C y y).before args s = true := by
  obtain ⟨c, r, m, hc, hr, hm, -, kP, hkP, hni⟩ := Cond.selects_spec h0
  obtain ⟨mk, methM, hnamed, hmethM, -, -⟩ := Cond.instanceMethod_spec hinst
  have hfound : s.methodFound? y.cls y.name y.desc = some mk := State.methodFound?_of_named hnamed hy
  have hcls : mk.cls = m.cls := by
    have h1 := findClass_of_methodNamed hnamed
    have h2 := findClass_of_methodNamed hm
    rw [he] at h1
    exact Option.some.inj (h1.symm.trans h2)
  have hsel : selectMethod {} s.vm c mk = .method mk := selectMethod_private hmethM (Cond.privateMethod_at hpriv mk methM hnamed hmethM)
  simp only [Cond.before, Cond.holds, Cond.value, hc, hfound, hnamed, hsel, hcls, hkP]
  simp; exact hni
def lw_x : List Cond := [
  Cond.selects "RoundsPerHour$LoadClimb" ⟨"RoundsPerHour$Climb", "together", "([JI)J"⟩ ⟨"RoundsPerHour$Climb", "together", "([JI)J"⟩,
  Cond.selects "RoundsPerHour$TreeClimb" ⟨"RoundsPerHour$Climb", "together", "([JI)J"⟩ ⟨"RoundsPerHour$Climb", "together", "([JI)J"⟩,
  Cond.selects "RoundsPerHour$WalkClimb" ⟨"RoundsPerHour$Climb", "together", "([JI)J"⟩ ⟨"RoundsPerHour$Climb", "together", "([JI)J"⟩,
  Cond.selects "RoundsPerHour$LoadClimb" ⟨"RoundsPerHour$Climb", "weigh", "(JJ)V"⟩ ⟨"RoundsPerHour$Climb", "weigh", "(JJ)V"⟩,
  Cond.selects "RoundsPerHour$TreeClimb" ⟨"RoundsPerHour$Climb", "weigh", "(JJ)V"⟩ ⟨"RoundsPerHour$Climb", "weigh", "(JJ)V"⟩,
  Cond.selects "RoundsPerHour$WalkClimb" ⟨"RoundsPerHour$Climb", "weigh", "(JJ)V"⟩ ⟨"RoundsPerHour$Climb", "weigh", "(JJ)V"⟩]
theorem lw_x_ok {args : Array Value} {s : State} (hts : ∀ w ∈ lw_tbl, w.before args s = true) : ∀ w ∈ lw_x ++ lw_tbl, w.before args s = true := by
  intro w hw
  rcases List.mem_append.mp hw with hw | hw
  · have T3 : ∀ w ∈ tables_1_3, w.before args s = true := fun w h => hts w (List.mem_append_right _ (List.mem_append_right _ (List.mem_append_right _ (List.mem_append_left _ h))))
    have sL := T3 (Cond.selects "RoundsPerHour$LoadClimb" ⟨"RoundsPerHour$LoadClimb", "runs", "()Z"⟩ ⟨"RoundsPerHour$Climb", "runs", "()Z"⟩) (List.mem_of_getElem? (i := 222) rfl)
    have sT := T3 (Cond.selects "RoundsPerHour$TreeClimb" ⟨"RoundsPerHour$TreeClimb", "runs", "()Z"⟩ ⟨"RoundsPerHour$Climb", "runs", "()Z"⟩) (List.mem_of_getElem? (i := 151) rfl)
    have sW := T3 (Cond.selects "RoundsPerHour$WalkClimb" ⟨"RoundsPerHour$WalkClimb", "runs", "()Z"⟩ ⟨"RoundsPerHour$Climb", "runs", "()Z"⟩) (List.mem_of_getElem? (i := 211) rfl)
    have pt := T3 (Cond.privateMethod ⟨"RoundsPerHour$Climb", "together", "([JI)J"⟩) (List.mem_of_getElem? (i := 191) rfl)
    have it := T3 (Cond.instanceMethod ⟨"RoundsPerHour$Climb", "together", "([JI)J"⟩) (List.mem_of_getElem? (i := 192) rfl)
    have pw := T3 (Cond.privateMethod ⟨"RoundsPerHour$Climb", "weigh", "(JJ)V"⟩) (List.mem_of_getElem? (i := 155) rfl)
    have iw := T3 (Cond.instanceMethod ⟨"RoundsPerHour$Climb", "weigh", "(JJ)V"⟩) (List.mem_of_getElem? (i := 156) rfl)
    have ne : ("RoundsPerHour$Climb" : String) ≠ "java/lang/invoke/MethodHandle" ∧ ("RoundsPerHour$Climb" : String) ≠ "java/lang/invoke/VarHandle" := ⟨by decide +kernel, by decide +kernel⟩
    simp only [lw_x, List.mem_cons, List.not_mem_nil, or_false] at hw
    rcases hw with e | e | e | e | e | e <;> subst e
    · exact msel_priv ne sL rfl pt it
    · exact msel_priv ne sT rfl pt it
    · exact msel_priv ne sW rfl pt it
    · exact msel_priv ne sL rfl pw iw
    · exact msel_priv ne sT rfl pw iw
    · exact msel_priv ne sW rfl pw iw
  · exact hts w hw
def mWT : List Cond := (lw_x ++ lw_tbl).filter goodWord
theorem mwt {w : Cond} (h : w ∈ lw_tbl) (g : goodWord w = true) : w ∈ mWT := List.mem_filter.mpr ⟨List.mem_append_right _ h, g⟩
theorem mt_x {w : Cond} (h : w ∈ lw_x) (g : goodWord w = true) : w ∈ mWT := List.mem_filter.mpr ⟨List.mem_append_left _ h, g⟩
theorem mwt_g {w : Cond} (h : w ∈ mWT) : (w.onTables && w.keeps) = true ∨ ∃ ty, w = .arrayClass ty := good_of_word (List.mem_filter.mp h).2
theorem mwt_in {w : Cond} (h : w ∈ mWT) : w ∈ lw_x ++ lw_tbl := (List.mem_filter.mp h).1
theorem mwt_good {ws : List Cond} (h : ∀ w ∈ ws, w ∈ mWT) : GoodIn mWT ws := fun w hw => ⟨h w hw, mwt_g (h w hw)⟩
theorem mwt_cons {w0 : Cond} (h : w0 ∈ mWT) : ∀ w ∈ w0 :: mWT, w ∈ mWT := fun w hw => (List.mem_cons.mp hw).elim (fun e => e ▸ h) id
theorem mt_0 {w : Cond} (h : w ∈ k2_sels lw_privs) (g : goodWord w = true) : w ∈ mWT := mwt (List.mem_append_left _ h) g
theorem mt_1 {w : Cond} (h : w ∈ tables_1_1) (g : goodWord w = true) : w ∈ mWT := mwt (List.mem_append_right _ (List.mem_append_left _ h)) g
theorem mt_2 {w : Cond} (h : w ∈ tables_1_2) (g : goodWord w = true) : w ∈ mWT := mwt (List.mem_append_right _ (List.mem_append_right _ (List.mem_append_left _ h))) g
theorem mt_3 {w : Cond} (h : w ∈ tables_1_3) (g : goodWord w = true) : w ∈ mWT := mwt (List.mem_append_right _ (List.mem_append_right _ (List.mem_append_right _ (List.mem_append_left _ h)))) g
theorem mt_4 {w : Cond} (h : w ∈ tables_1_4) (g : goodWord w = true) : w ∈ mWT := mwt (List.mem_append_right _ (List.mem_append_right _ (List.mem_append_right _ (List.mem_append_right _ (List.mem_append_left _ h))))) g
theorem mt_5 {w : Cond} (h : w ∈ tables_1_5) (g : goodWord w = true) : w ∈ mWT := mwt (List.mem_append_right _ (List.mem_append_right _ (List.mem_append_right _ (List.mem_append_right _ (List.mem_append_right _ (List.mem_append_left _ h)))))) g
theorem mt_6 {w : Cond} (h : w ∈ tables_1_6) (g : goodWord w = true) : w ∈ mWT := mwt (List.mem_append_right _ (List.mem_append_right _ (List.mem_append_right _ (List.mem_append_right _ (List.mem_append_right _ (List.mem_append_right _ (List.mem_append_left _ h))))))) g
theorem mt_7 {w : Cond} (h : w ∈ tables_1_7) (g : goodWord w = true) : w ∈ mWT := mwt (List.mem_append_right _ (List.mem_append_right _ (List.mem_append_right _ (List.mem_append_right _ (List.mem_append_right _ (List.mem_append_right _ (List.mem_append_right _ h))))))) g
theorem mt_s {w : Cond} (q : MethodName × Nat) (h : q ∈ lw_privs) (e : Cond.selects q.1.cls q.1 q.1 = w) (g : goodWord w = true) : w ∈ mWT := mt_0 (List.mem_map.mpr ⟨q, h, e⟩) g
theorem ml_1 {q : MethodName × Nat} (h : q ∈ lw_privs_1) : q ∈ lw_privs := List.mem_append_left _ h
theorem ml_2 {q : MethodName × Nat} (h : q ∈ lw_privs_2) : q ∈ lw_privs := List.mem_append_right _ (List.mem_append_left _ h)
theorem ml_3 {q : MethodName × Nat} (h : q ∈ lw_privs_3) : q ∈ lw_privs := List.mem_append_right _ (List.mem_append_right _ (List.mem_append_left _ h))
theorem ml_4 {q : MethodName × Nat} (h : q ∈ lw_privs_4) : q ∈ lw_privs := List.mem_append_right _ (List.mem_append_right _ (List.mem_append_right _ (List.mem_append_left _ h)))
theorem ml_5 {q : MethodName × Nat} (h : q ∈ lw_privs_5) : q ∈ lw_privs := List.mem_append_right _ (List.mem_append_right _ (List.mem_append_right _ (List.mem_append_right _ h)))
end
section
/-! ===== the cells of the system, in the order in which they are made; what is given from the start ===== -/
/-- the shape of a cell: an array (its type: 0 int, 1 long, 2 boolean, 3 char, 4 sheets; its length) or an object (its class) -/
def mshp (k : Nat) : (Nat × Nat) ⊕ Nat := match k with
  | 0 => .inr 8
  | 1 => .inr 0 | 2 => .inl (0, 14) | 3 => .inl (0, 14) | 4 => .inl (0, 14) | 5 => .inl (0, 14) | 6 => .inl (0, 14) | 7 => .inl (0, 14) | 8 => .inl (0, 13) | 9 => .inl (0, 13)
  | 10 => .inr 0 | 11 => .inl (0, 14) | 12 => .inl (0, 14) | 13 => .inl (0, 14) | 14 => .inl (0, 14) | 15 => .inl (0, 14) | 16 => .inl (0, 14) | 17 => .inl (0, 13) | 18 => .inl (0, 13)
  | 19 => .inr 0 | 20 => .inl (0, 14) | 21 => .inl (0, 14) | 22 => .inl (0, 14) | 23 => .inl (0, 14) | 24 => .inl (0, 14) | 25 => .inl (0, 14) | 26 => .inl (0, 13) | 27 => .inl (0, 13)
  | 28 => .inr 3 | 29 => .inl (0, 1296) | 30 => .inl (1, 1296) | 31 => .inl (1, 1296) | 32 => .inl (1, 6) | 33 => .inl (2, 6) | 34 => .inl (0, 6) | 35 => .inl (0, 84) | 36 => .inl (0, 14) | 37 => .inl (1, 14) | 38 => .inl (1, 14)
  | 39 => .inr 6 | 40 => .inl (1, 14) | 41 => .inl (1, 14) | 42 => .inl (1, 14) | 43 => .inr 1 | 44 => .inl (0, 6)
  | 45 => .inr 7 | 46 => .inl (1, 14) | 47 => .inl (1, 14) | 48 => .inl (1, 14) | 49 => .inl (1, 6) | 50 => .inl (0, 6)
  | 51 => .inr 2 | 52 => .inl (1, 14) | 53 => .inl (1, 14) | 54 => .inl (1, 14)
  | 55 => .inr 1 | 56 => .inl (0, 6)
  | 57 => .inr 5 | 58 => .inl (0, 120)
  | 59 => .inl (4, 4) | 60 => .inl (0, 9)
  | 61 => .inr 4 | 62 => .inl (1, 40) | 63 => .inr 4 | 64 => .inl (1, 40) | 65 => .inr 4 | 66 => .inl (1, 40) | 67 => .inr 4 | 68 => .inl (1, 40)
  | 69 => .inr 9 | 70 => .inl (0, 9) | 71 => .inl (0, 84) | 72 => .inl (0, 24) | 73 => .inl (0, 2) | 74 => .inl (1, 6) | 75 => .inl (0, 4) | 76 => .inl (0, 4) | 77 => .inl (1, 160) | 78 => .inl (1, 40) | 79 => .inl (0, 120) | 80 => .inl (3, 104)
  | _ => .inl (0, 114)
/-- the links between nest mates -/
def mnl : List (String × Nat × MethodName × String) := [
  ("RoundsPerHour", 24, ⟨"RoundsPerHour$Rings", "<init>", "()V"⟩, "RoundsPerHour"),
  ("RoundsPerHour", 31, ⟨"RoundsPerHour$TreeClimb", "<init>", "()V"⟩, "RoundsPerHour"),
  ("RoundsPerHour", 38, ⟨"RoundsPerHour$WalkClimb", "<init>", "()V"⟩, "RoundsPerHour"),
  ("RoundsPerHour", 45, ⟨"RoundsPerHour$LoadClimb", "<init>", "()V"⟩, "RoundsPerHour"),
  ("RoundsPerHour", 52, ⟨"RoundsPerHour$Joins", "<init>", "()V"⟩, "RoundsPerHour"),
  ("RoundsPerHour", 59, ⟨"RoundsPerHour$Tape", "<init>", "()V"⟩, "RoundsPerHour"),
  ("RoundsPerHour", 74, ⟨"RoundsPerHour$Sheet", "<init>", "()V"⟩, "RoundsPerHour"),
  ("RoundsPerHour$Country", 40, ⟨"RoundsPerHour", "within", "(III)Z"⟩, "RoundsPerHour"),
  ("RoundsPerHour$Country", 53, ⟨"RoundsPerHour", "brings", "(III)I"⟩, "RoundsPerHour"),
  ("RoundsPerHour$Country", 57, ⟨"RoundsPerHour", "lasts", "(III)I"⟩, "RoundsPerHour"),
  ("RoundsPerHour$LoadClimb", 1, ⟨"RoundsPerHour$Climb", "<init>", "()V"⟩, "RoundsPerHour"),
  ("RoundsPerHour$Sheet", 22, ⟨"RoundsPerHour", "within", "(III)Z"⟩, "RoundsPerHour"),
  ("RoundsPerHour$Tape", 123, ⟨"RoundsPerHour", "within", "(III)Z"⟩, "RoundsPerHour"),
  ("RoundsPerHour$TreeClimb", 11, ⟨"RoundsPerHour$Joins", "<init>", "()V"⟩, "RoundsPerHour"),
  ("RoundsPerHour$TreeClimb", 3, ⟨"RoundsPerHour$Climb", "<init>", "()V"⟩, "RoundsPerHour"),
  ("RoundsPerHour$WalkClimb", 3, ⟨"RoundsPerHour$Climb", "<init>", "()V"⟩, "RoundsPerHour")]
/-- the words of texts: their places in the tape's pool, their bytes -/
def mstr : List (Nat × String × List Int32) := [
  (39, "places", [112, 108, 97, 99, 101, 115]), (48, "weather", [119, 101, 97, 116, 104, 101, 114]), (53, "thing", [116, 104, 105, 110, 103]),
  (111, "way", [119, 97, 121]), (113, "toll", [116, 111, 108, 108]), (115, "ford", [102, 111, 114, 100]), (117, "bridge", [98, 114, 105, 100, 103, 101]),
  (119, "mire", [109, 105, 114, 101]), (121, "stair", [115, 116, 97, 105, 114]), (106, "loss", [108, 111, 115, 115]), (108, "gain", [103, 97, 105, 110]), (110, "time", [116, 105, 109, 101]), (102, "shut", [115, 104, 117, 116])]
def mkab (j : Nat) : Int32 := match j with
  | 0 => -1
  | 3 => 1
  | 4 => 2
  | _ => 0
abbrev MX : Type := va_G × (Nat → ClassId) × Nat × (Nat → Nat)
/-- what lies in the heap from the start: the table of kinds, the words of texts, two statics of the JDK -/
def mST (E : MX) (U : State) : Prop :=
  va_Z "RoundsPerHour" "KIND_ABOVE" "[I" (.ref (E.2.2.2 2000)) (fun q => E.2.2.1 ≤ q) U U.heap ∧ va_T .int (E.2.2.2 2000) 6 (fun j => .int (mkab j)) (fun q => E.2.2.1 ≤ q) U U.heap ∧
  vk_S 13 (mstr.map (fun q => q.2.2.length)) (mstr.map (fun q => q.2.2)) (fun i => E.2.2.2 (1000 + i)) (fun i => E.2.2.2 (1100 + i)) (fun q => E.2.2.1 ≤ q) U U.heap ∧
  (∀ i : Nat, i < 13 → vk_R "RoundsPerHour$Tape" (mstr.getD i (0, "", [])).1 (mstr.getD i (0, "", [])).2.1 (E.2.2.2 (1000 + i)) U) ∧
  va_Z "java/lang/String" "COMPACT_STRINGS" "Z" (.int 1) (fun q => E.2.2.1 ≤ q) U U.heap ∧ (va_Z "jdk/internal/util/Preconditions" "SIOOBE_FORMATTER" "Ljava/util/function/BiFunction;" .null (fun q => E.2.2.1 ≤ q) U U.heap ∨ va_Z "jdk/internal/util/Preconditions" "SIOOBE_FORMATTER" "Ljava/util/function/BiFunction;" (.ref (E.2.2.2 2001)) (fun q => E.2.2.1 ≤ q) U U.heap) ∧ va_AO "RoundsPerHour$Sheet" U
theorem mST.warm {E : MX} {s U : State} (hW : s.WarmedH U.vm) (hq : ∀ a : Nat, a < s.heap.size → ¬ E.2.2.1 ≤ a → U.heap[a]? = s.heap[a]?) (h : mST E s) : mST E U := by
  obtain ⟨h1, h2, h3, h4, h5, h6, h7⟩ := h
  exact ⟨(h1.moved hW.alike).kept hq, (h2.moved hW.alike).kept hq, (h3.moved hW.alike).kept hq, fun i hi => (h4 i hi).warm hW, (h5.moved hW.alike).kept hq, h6.imp (fun h => (h.moved hW.alike).kept hq) (fun h => (h.moved hW.alike).kept hq), h7.moved hW.alike⟩
theorem mST.same {E : MX} {s U : State} (hv : U.vm = s.vm) (hH : U.heap = s.heap) (h : mST E s) : mST E U := by
  obtain ⟨h1, h2, h3, h4, h5, h6, h7⟩ := h
  have ha : s.vm.Alike U.vm := by rw [hv]; exact Vm.Alike.refl _
  have hq : ∀ a : Nat, a < s.heap.size → ¬ E.2.2.1 ≤ a → U.heap[a]? = s.heap[a]? := fun a _ _ => by rw [hH]
  exact ⟨(h1.moved ha).kept hq, (h2.moved ha).kept hq, (h3.moved ha).kept hq, fun i hi => (h4 i hi).same hv, (h5.moved ha).kept hq, h6.imp (fun h => (h.moved ha).kept hq) (fun h => (h.moved ha).kept hq), h7.moved ha⟩
end
section
/-! ===== the small machine: memory by cell and place, shapes of cells, worlds ===== -/
abbrev MSt : Type := (Nat → Nat → Int32) × (Nat → Nat → Int64) × (Nat → Nat → Option Nat)
def mmI (σ : MSt) (k j : Nat) : Int32 := σ.1 k j
def mmL (σ : MSt) (k j : Nat) : Int64 := σ.2.1 k j
def mmR (σ : MSt) (k j : Nat) : Option Nat := σ.2.2 k j
def mup2 {α : Type} (f : Nat → Nat → α) (k j : Nat) (v : α) : Nat → Nat → α := fun a b => if a = k ∧ b = j then v else f a b
def muI (σ : MSt) (k j : Nat) (v : Int32) : MSt := (mup2 σ.1 k j v, σ.2)
def muL (σ : MSt) (k j : Nat) (v : Int64) : MSt := (σ.1, mup2 σ.2.1 k j v, σ.2.2)
def muR (σ : MSt) (k j : Nat) (v : Option Nat) : MSt := (σ.1, σ.2.1, mup2 σ.2.2 k j v)
def mcpI (σ : MSt) (k0 sp k1 dp n : Nat) : MSt := (fun a b => if a = k1 then va_cpy (σ.1 k0) (σ.1 k1) sp dp n b else σ.1 a b, σ.2)
def mcpL (σ : MSt) (k0 sp k1 dp n : Nat) : MSt := (σ.1, fun a b => if a = k1 then va_cpy (σ.2.1 k0) (σ.2.1 k1) sp dp n b else σ.2.1 a b, σ.2.2)
/-- a new cell: all of it is 0 -/
def mzer (σ : MSt) (k : Nat) : MSt := (fun a b => if a = k then 0 else σ.1 a b, fun a b => if a = k then 0 else σ.2.1 a b, fun a b => if a = k then none else σ.2.2 a b)
def mad (E : MX) (k : Nat) : Nat := if k < 1000 then E.2.2.1 + k else E.2.2.2 k
def mtv (E : MX) (v : Value) : Value := match v with
  | .ref k => .ref (mad E k)
  | w => w
def mtl (E : MX) (L : List (Nat × Value)) : List (Nat × Value) := L.map (fun q => (q.1, mtv E q.2))
def mfv (ty : FieldType) (σ : MSt) (k j : Nat) : Value := match ty with
  | .int => .int (mmI σ k j)
  | .boolean => .int (mmI σ k j)
  | .long => .long (mmL σ k j)
  | _ => va_rf (mmR σ k j)
def maf (E : MX) (ty : FieldType) (σ : MSt) (k j : Nat) : Value := match ty with
  | .int => .int (mmI σ k j)
  | .boolean => .int (mmI σ k j)
  | .long => .long (mmL σ k j)
  | _ => va_rf ((mmR σ k j).map (mad E))
theorem mtv_rf (E : MX) (r : Option Nat) : mtv E (va_rf r) = va_rf (r.map (mad E)) := by
  cases r <;> rfl
theorem mtv_mfv (E : MX) (ty : FieldType) (σ : MSt) (k j : Nat) : mtv E (mfv ty σ k j) = maf E ty σ k j := by
  cases ty <;> first | rfl | exact mtv_rf E _
theorem mtv_cat (E : MX) (v : Value) : (mtv E v).category = v.category := by
  cases v <;> rfl
theorem mtl_filter (E : MX) (i : Nat) (b : Bool) (L : List (Nat × Value)) : mtl E (L.filter (fun q => !(q.1 == i) && (b || !(q.1 == i + 1)) && !(q.1 + 1 == i && q.2.category == 2))) = (mtl E L).filter (fun q => !(q.1 == i) && (b || !(q.1 == i + 1)) && !(q.1 + 1 == i && q.2.category == 2)) := by
  unfold mtl
  rw [List.filter_map]
  congr 1
  apply List.filter_congr
  intro q _
  simp only [Function.comp, mtv_cat]
theorem mtl_filter1 (E : MX) (i : Nat) (L : List (Nat × Value)) : mtl E (L.filter (fun q => !(q.1 == i) && !(q.1 + 1 == i && q.2.category == 2))) = (mtl E L).filter (fun q => !(q.1 == i) && !(q.1 + 1 == i && q.2.category == 2)) := by
  unfold mtl
  rw [List.filter_map]
  congr 1
  apply List.filter_congr
  intro q _
  simp only [Function.comp, mtv_cat]
theorem mtl_filter2 (E : MX) (i : Nat) (L : List (Nat × Value)) : mtl E (L.filter (fun q => !(q.1 == i) && (!(q.1 == i + 1) && !(q.1 + 1 == i && q.2.category == 2)))) = (mtl E L).filter (fun q => !(q.1 == i) && (!(q.1 == i + 1) && !(q.1 + 1 == i && q.2.category == 2))) := by
  unfold mtl
  rw [List.filter_map]
  congr 1
  apply List.filter_congr
  intro q _
  simp only [Function.comp, mtv_cat]
theorem mtl_at {E : MX} {L : List (Nat × Value)} {k i : Nat} {v : Value} (h : L[k]? = some (i, v)) : (mtl E L)[k]? = some (i, mtv E v) := by
  unfold mtl
  rw [List.getElem?_map, h]
  rfl
/-- how many fields a class has, and their types -/
def mnF (ci : Nat) : Nat := match ci with
  | 0 => 12
  | 1 => 1
  | 2 => 11
  | 3 => 13
  | 4 => 3
  | 5 => 9
  | 6 => 12
  | 7 => 15
  | 8 => 12
  | _ => 36
def mft (ci : Nat) : Nat → FieldType := match ci with
  | 0 => tyX1
  | 1 => tyX2
  | 2 => tyX3
  | 3 => tyX4
  | 4 => tyX5
  | 5 => tyX6
  | 6 => tyX7
  | 7 => tyX8
  | 8 => tyX9
  | _ => tyX10
def marO (E : MX) (t : Nat) (σ : MSt) (k : Nat) : (Nat → Int32) ⊕ (Nat → Int64) ⊕ (Nat → UInt32) ⊕ (Nat → UInt64) ⊕ (Nat → Option Nat) := match t with
  | 1 => .inr (.inl (mmL σ k))
  | 4 => .inr (.inr (.inr (.inr (fun j => (mmR σ k j).map (mad E)))))
  | _ => .inl (mmI σ k)
def mcel (E : MX) (σ : MSt) (k : Nat) : va_E := match mshp k with
  | .inl tn => .inl (E.2.1 tn.1, tn.2, marO E tn.1 σ k)
  | .inr ci => .inr (ci, (List.range (mnF ci)).map (fun j => maf E (mft ci j) σ k j))
def mwd (E : MX) (n : Nat) (σ : MSt) : va_W := (List.range n).map (fun k => (mad E k, mcel E σ k))
theorem mwd_at {E : MX} {n k : Nat} {σ : MSt} (h : k < n) : (mwd E n σ)[k]? = some (mad E k, mcel E σ k) := by
  simp [mwd, h]
theorem mwd_len (E : MX) (n : Nat) (σ : MSt) : (mwd E n σ).length = n := by simp [mwd]
theorem mwd_inv {E : MX} {n k : Nat} {σ : MSt} {q : Nat × va_E} (h : (mwd E n σ)[k]? = some q) : k < n ∧ q = (mad E k, mcel E σ k) := by
  have hk : k < n := by
    have := (List.getElem?_eq_some_iff.mp h).1
    rwa [mwd_len] at this
  rw [mwd_at hk] at h
  exact ⟨hk, (Option.some.inj h).symm⟩
theorem mwd_set {E : MX} {n k : Nat} {σ σ' : MSt} {e : va_E} (hk : k < n) (he : mcel E σ' k = e) (ho : ∀ a, a ≠ k → mcel E σ' a = mcel E σ a) : (mwd E n σ).set k (mad E k, e) = mwd E n σ' := by
  apply List.ext_getElem?
  intro i
  by_cases hi : i = k
  · subst hi
    rw [List.getElem?_set_self (by rw [mwd_len]; exact hk), mwd_at hk, he]
  · rw [List.getElem?_set_ne (Ne.symm hi)]
    by_cases hn : i < n
    · rw [mwd_at hn, mwd_at hn, ho i hi]
    · rw [List.getElem?_eq_none (by rw [mwd_len]; omega), List.getElem?_eq_none (by rw [mwd_len]; omega)]
theorem mwd_D {E : MX} {n : Nat} {σ : MSt} (hn : n ≤ 1000) : va_D (fun q => E.2.2.1 ≤ q) (mwd E n σ) := by
  refine ⟨fun i j p q hi hj h => ?_, fun k q hk => ?_⟩
  · obtain ⟨h1, rfl⟩ := mwd_inv hi
    obtain ⟨h2, rfl⟩ := mwd_inv hj
    simp only [mad] at h
    rw [if_pos (by omega), if_pos (by omega)] at h
    omega
  · obtain ⟨h1, rfl⟩ := mwd_inv hk
    simp only [mad]
    rw [if_pos (by omega)]
    exact Nat.le_add_right _ _
theorem mcel_arr {E : MX} {σ : MSt} {k t n : Nat} (h : mshp k = .inl (t, n)) : mcel E σ k = .inl (E.2.1 t, n, marO E t σ k) := by
  simp only [mcel, h]
theorem mcel_obj {E : MX} {σ : MSt} {k ci : Nat} (h : mshp k = .inr ci) : mcel E σ k = .inr (ci, (List.range (mnF ci)).map (fun j => maf E (mft ci j) σ k j)) := by
  simp only [mcel, h]
theorem marO_congr {E : MX} {t k : Nat} {σ σ' : MSt} (h1 : ∀ j, mmI σ' k j = mmI σ k j) (h2 : ∀ j, mmL σ' k j = mmL σ k j) (h3 : ∀ j, mmR σ' k j = mmR σ k j) : marO E t σ' k = marO E t σ k := by
  have e1 : mmI σ' k = mmI σ k := funext h1
  have e2 : mmL σ' k = mmL σ k := funext h2
  have e3 : mmR σ' k = mmR σ k := funext h3
  unfold marO
  split <;> simp only [e1, e2, e3]
theorem maf_congr {E : MX} {ty : FieldType} {k j : Nat} {σ σ' : MSt} (h1 : mmI σ' k j = mmI σ k j) (h2 : mmL σ' k j = mmL σ k j) (h3 : mmR σ' k j = mmR σ k j) : maf E ty σ' k j = maf E ty σ k j := by
  unfold maf
  split <;> simp only [h1, h2, h3]
theorem mcel_congr {E : MX} {k : Nat} {σ σ' : MSt} (h1 : ∀ j, mmI σ' k j = mmI σ k j) (h2 : ∀ j, mmL σ' k j = mmL σ k j) (h3 : ∀ j, mmR σ' k j = mmR σ k j) : mcel E σ' k = mcel E σ k := by
  unfold mcel
  split
  · rw [marO_congr h1 h2 h3]
  · congr 2
    apply List.map_congr_left
    intro j _
    exact maf_congr (h1 j) (h2 j) (h3 j)
theorem mmI_uI (σ : MSt) (k j : Nat) (v : Int32) (a b : Nat) : mmI (muI σ k j v) a b = if a = k ∧ b = j then v else mmI σ a b := rfl
theorem mmL_uI (σ : MSt) (k j : Nat) (v : Int32) (a b : Nat) : mmL (muI σ k j v) a b = mmL σ a b := rfl
theorem mmR_uI (σ : MSt) (k j : Nat) (v : Int32) (a b : Nat) : mmR (muI σ k j v) a b = mmR σ a b := rfl
theorem mmI_uL (σ : MSt) (k j : Nat) (v : Int64) (a b : Nat) : mmI (muL σ k j v) a b = mmI σ a b := rfl
theorem mmL_uL (σ : MSt) (k j : Nat) (v : Int64) (a b : Nat) : mmL (muL σ k j v) a b = if a = k ∧ b = j then v else mmL σ a b := rfl
theorem mmR_uL (σ : MSt) (k j : Nat) (v : Int64) (a b : Nat) : mmR (muL σ k j v) a b = mmR σ a b := rfl
theorem mmI_uR (σ : MSt) (k j : Nat) (v : Option Nat) (a b : Nat) : mmI (muR σ k j v) a b = mmI σ a b := rfl
theorem mmL_uR (σ : MSt) (k j : Nat) (v : Option Nat) (a b : Nat) : mmL (muR σ k j v) a b = mmL σ a b := rfl
theorem mmR_uR (σ : MSt) (k j : Nat) (v : Option Nat) (a b : Nat) : mmR (muR σ k j v) a b = if a = k ∧ b = j then v else mmR σ a b := rfl
theorem mcel_uI {E : MX} {σ : MSt} {k j a : Nat} {v : Int32} (h : a ≠ k) : mcel E (muI σ k j v) a = mcel E σ a :=
  mcel_congr (fun b => by rw [mmI_uI, if_neg (fun q => h q.1)]) (fun _ => rfl) (fun _ => rfl)
theorem mcel_uL {E : MX} {σ : MSt} {k j a : Nat} {v : Int64} (h : a ≠ k) : mcel E (muL σ k j v) a = mcel E σ a :=
  mcel_congr (fun _ => rfl) (fun b => by rw [mmL_uL, if_neg (fun q => h q.1)]) (fun _ => rfl)
theorem mcel_uR {E : MX} {σ : MSt} {k j a : Nat} {v : Option Nat} (h : a ≠ k) : mcel E (muR σ k j v) a = mcel E σ a :=
  mcel_congr (fun _ => rfl) (fun _ => rfl) (fun b => by rw [mmR_uR, if_neg (fun q => h q.1)])
theorem mcatsum (E : MX) (st : List Value) : ((st.map (mtv E)).map fun v => v.category).sum = (st.map fun v => v.category).sum := by
  rw [List.map_map]
  congr 1
  apply List.map_congr_left
  intro v _
  exact mtv_cat E v
theorem mtl_pick (E : MX) (L : List (Nat × Value)) (qs : List Nat) : lv_pick (mtl E L) qs = mtl E (lv_pick L qs) := by
  unfold lv_pick mtl
  rw [List.map_filterMap]
  congr 1
  funext k
  rw [List.getElem?_map]
theorem mtl_args (E : MX) (args : List Value) : ∀ i : Nat, mtl E (lv_args i args) = lv_args i (args.map (mtv E)) := by
  induction args with
  | nil => intro i; rfl
  | cons v vs ih =>
    intro i
    show (i, mtv E v) :: mtl E (lv_args _ vs) = (i, mtv E v) :: lv_args _ (vs.map (mtv E))
    rw [ih, mtv_cat]
theorem mlg_len (E : MX) (args : List Value) : (lg_sl (args.map (mtv E))).length = (lg_sl args).length := by
  unfold lg_sl
  induction args with
  | nil => rfl
  | cons v vs ih =>
    simp only [List.map_cons, List.flatMap_cons, List.length_append, ih]
    cases v <;> rfl
theorem moptl (E : MX) (r : Option Value) : (r.toList.map (mtv E)) = (r.map (mtv E)).toList := by
  cases r <;> rfl
end
section
/-! ===== the small machine: what a row says ===== -/
def mtys (E : MX) : List (ClassId × FieldType) := [(E.2.1 0, .int), (E.2.1 1, .long), (E.2.1 2, .boolean), (E.2.1 3, .char), (E.2.1 4, .object "RoundsPerHour$Sheet")]
def mCX (E : MX) (U : State) : Prop := va_K E.1 vwCl (mtys E) U ∧ (∀ q ∈ mnl, va_Nw (.methodLinkNest q.1 q.2.1 q.2.2.1 q.2.2.2) U) ∧ va_Nw (.declares ⟨"RoundsPerHour$Climb", "pick", "()I"⟩) U ∧ mST E U
theorem mCX.warm {E : MX} {s U : State} {H : Heap} (hW : s.WarmedH U.vm) (hH : U.heap = H) (hq : ∀ a : Nat, a < s.heap.size → ¬ E.2.2.1 ≤ a → H[a]? = s.heap[a]?) (h : mCX E s) : mCX E U := by
  subst hH
  exact ⟨va_K.moved hW.alike h.1, fun q hq => va_Nw.warmM hW (h.2.1 q hq), va_Nw.warmD hW h.2.2.1, mST.warm hW hq h.2.2.2⟩
theorem mCX.same {E : MX} {s U : State} (hv : U.vm = s.vm) (hH : U.heap = s.heap) (h : mCX E s) : mCX E U :=
  ⟨va_K.moved (by rw [hv]; exact Vm.Alike.refl _) h.1, fun q hq => va_Nw.same rfl hv.symm (h.2.1 q hq), va_Nw.same rfl hv.symm h.2.2.1, mST.same hv hH h.2.2.2⟩
def MCx (E : MX) (cc : ByteArray) (own : String) (nL : Nat) (ret : Option FieldType) (ini : Bool) (p : Program) (s : State) (m : MethodId) (args : Array Value) (meth : Method) (c : Code) : Prop :=
  p.tables.exec = Jvm.exec ∧ c.code = cc ∧ meth.sig.returnType = ret ∧ c.maxLocals = nL ∧ (∀ w ∈ mWT, w.before args s = true) ∧ s.vm.findClass own = some m.cls ∧ meth.locks = false ∧ mCX E s ∧ (ini = true → meth.name = "<init>")
def MHx (E : MX) (n c : Nat) (σ : MSt) (s : State) (H : Heap) (locs : List Loc) : Prop :=
  n ≤ 1000 ∧ E.2.2.1 ≤ s.heap.size ∧ va_S (fun q => E.2.2.1 ≤ q) s.heap H locs ∧ va_P E.1 vwCl (mwd E n σ) H ∧ s.heap.size + c = E.2.2.1 + n
theorem MHx.size {p : Program} {l : Launch} {e : Env} {R : Room} {s : State} {m : MethodId} {args : Array Value} {below : List Frame} {meth : Method} {c0 : Code} {H : Heap} {locs : List Loc} {cells slots : Nat} {Q : State → Prop} {g : JFrame} {E : MX} {n : Nat} {σ : MSt} (X : MHx E n cells σ s H locs) (k : H.size = E.2.2.1 + n → W p l e R s m args below meth c0 H locs cells slots Q g) : W p l e R s m args below meth c0 H locs cells slots Q g := by
  intro T hT Y
  refine k ?_ T hT Y
  have h1 : T.heap.size ≤ s.heap.size + cells := Y.same.2.2.1
  have h2 : s.heap.size ≤ T.heap.size := Y.same.2.1
  rw [hT] at h1 h2
  obtain ⟨x1, x2, -, x4, x5⟩ := X
  rcases Nat.eq_zero_or_pos n with h | h
  · subst h; omega
  · have h3 := (x4 (n - 1) _ (mwd_at (by omega))).lt
    have h4 : mad E (n - 1) = E.2.2.1 + (n - 1) := by unfold mad; rw [if_pos (by omega)]
    rw [h4] at h3
    omega
def MQc (E : MX) (res : Nat × Option Value × MSt) : Array Value → State → Outcome → State → Prop := fun _ st oc t =>
  oc = .returned (res.2.1.map (mtv E)) ∧ va_P E.1 vwCl (mwd E res.1 res.2.2) t.heap ∧ t.heap.size = E.2.2.1 + res.1 ∧ va_F (fun q => E.2.2.1 ≤ q) st t
/-- from here the method returns, with res: how many cells there are, the answer, the memory -/
def MW (l : Launch) (E : MX) (cc : ByteArray) (own : String) (nL : Nat) (ret : Option FieldType) (ini : Bool) (R : Room) (mc ms : Nat) (res : Nat × Option Value × MSt) (n c s : Nat) (σ : MSt) (pc : Nat) (L : List (Nat × Value)) (st : List Value) : Prop :=
  ∀ (p : Program) (e : Env) (s0 : State) (m : MethodId) (args : Array Value) (below : List Frame) (meth : Method) (c0 : Code) (H : Heap) (locs : List Loc) (ls : Array Slot),
    MCx E cc own nL ret ini p s0 m args meth c0 → MHx E n c σ s0 H locs → lv_has ls nL (mtl E L) →
    W p l e R s0 m args below meth c0 H locs c s (MQ below (MQc E res) args s0 mc ms (fun q => E.2.2.1 ≤ q)) (F0 m pc ls (st.map (mtv E)))
/-- a method's contract: called with args in memory σ it returns with res -/
def MCt (l : Launch) (y : MethodName) (cc : ByteArray) (nL : Nat) (ret : Option FieldType) (R : Room) (args : List Value) (n : Nat) (σ : MSt) (mc ms : Nat) (res : Nat × Option Value × MSt) : Prop :=
  ∀ E : MX, Met l y (Cond.code y cc nL ret :: mWT) R (va_Pc (args.map (mtv E)) (fun U => n ≤ 1000 ∧ va_P E.1 vwCl (mwd E n σ) U.heap ∧ U.heap.size = E.2.2.1 + n ∧ mCX E U)) (MQc E res) mc ms (fun q => E.2.2.1 ≤ q)

/-- what the tables say of a call: of a method of the receiver's class; of one that its class inherits; of an abstract one; of a static one; of nest mates -/
def MLv (own : String) (i0 : Nat) (C : String) (y : MethodName) (bytes : ByteArray) (maxL : Nat) (ret : Option FieldType) (na : Nat) : Prop := Cond.code y bytes maxL ret ∈ mWT ∧ Cond.methodLink own i0 y ∈ mWT ∧ Cond.instanceMethod y ∈ mWT ∧ Cond.selects C y y ∈ mWT ∧ Cond.initialized C ∈ mWT ∧ y.cls = C ∧ y.cls ≠ "java/lang/invoke/MethodHandle" ∧ y.cls ≠ "java/lang/invoke/VarHandle" ∧ (parseMethodDescriptor y.desc).map (fun d => d.parameters.length) = some na
def MLu (own : String) (i0 : Nat) (C owner : String) (x : MethodName) (y : MethodName) (bytes : ByteArray) (maxL : Nat) (ret : Option FieldType) (na : Nat) : Prop := Cond.code y bytes maxL ret ∈ mWT ∧ Cond.methodLink own i0 x ∈ mWT ∧ Cond.sameMethod x.cls owner x.name x.desc ∈ mWT ∧ Cond.selects C x y ∈ mWT ∧ Cond.instanceMethod y ∈ mWT ∧ Cond.initialized y.cls ∈ mWT ∧ owner ≠ "java/lang/invoke/MethodHandle" ∧ owner ≠ "java/lang/invoke/VarHandle" ∧ (parseMethodDescriptor x.desc).map (fun d => d.parameters.length) = some na
def MLs (own : String) (i0 : Nat) (y : MethodName) (bytes : ByteArray) (maxL : Nat) (ret : Option FieldType) (na : Nat) : Prop := Cond.code y bytes maxL ret ∈ mWT ∧ Cond.methodLink own i0 y ∈ mWT ∧ Cond.static y ∈ mWT ∧ Cond.initialized y.cls ∈ mWT ∧ y.cls ≠ "java/lang/invoke/MethodHandle" ∧ y.cls ≠ "java/lang/invoke/VarHandle" ∧ (parseMethodDescriptor y.desc).map (fun d => d.parameters.length) = some na
def MLn (own : String) (i0 : Nat) (host : String) (y : MethodName) (bytes : ByteArray) (maxL : Nat) (ret : Option FieldType) (na : Nat) : Prop := Cond.code y bytes maxL ret ∈ mWT ∧ (own, i0, y, host) ∈ mnl ∧ Cond.static y ∈ mWT ∧ Cond.initialized y.cls ∈ mWT ∧ y.cls ≠ "java/lang/invoke/MethodHandle" ∧ y.cls ≠ "java/lang/invoke/VarHandle" ∧ (parseMethodDescriptor y.desc).map (fun d => d.parameters.length) = some na
def MLi (own : String) (i0 : Nat) (y : MethodName) (bytes : ByteArray) (maxL : Nat) (ret : Option FieldType) (na : Nat) : Prop := Cond.code y bytes maxL ret ∈ mWT ∧ Cond.methodLink own i0 y ∈ mWT ∧ Cond.instanceMethod y ∈ mWT ∧ Cond.initialized y.cls ∈ mWT ∧ y.name = "<init>" ∧ y.cls ≠ "java/lang/invoke/MethodHandle" ∧ y.cls ≠ "java/lang/invoke/VarHandle" ∧ (parseMethodDescriptor y.desc).map (fun d => d.parameters.length) = some na
def MLj (own : String) (i0 : Nat) (host : String) (y : MethodName) (bytes : ByteArray) (maxL : Nat) (ret : Option FieldType) (na : Nat) : Prop := Cond.code y bytes maxL ret ∈ mWT ∧ (own, i0, y, host) ∈ mnl ∧ Cond.instanceMethod y ∈ mWT ∧ Cond.initialized y.cls ∈ mWT ∧ y.name = "<init>" ∧ y.cls ≠ "java/lang/invoke/MethodHandle" ∧ y.cls ≠ "java/lang/invoke/VarHandle" ∧ (parseMethodDescriptor y.desc).map (fun d => d.parameters.length) = some na
theorem MLv.g {own C : String} {i0 maxL na : Nat} {y : MethodName} {bytes : ByteArray} {ret : Option FieldType} (h : MLv own i0 C y bytes maxL ret na) : GoodIn mWT (wsV own i0 C y (Cond.code y bytes maxL ret :: mWT)) := by
  refine mwt_good (fun w hw => ?_)
  unfold wsV at hw
  rcases List.mem_append.mp hw with hw | hw
  · simp only [List.mem_cons, List.not_mem_nil, or_false] at hw
    rcases hw with e | e | e | e <;> subst e
    · exact h.2.1
    · exact h.2.2.1
    · exact h.2.2.2.1
    · exact h.2.2.2.2.1
  · exact mwt_cons h.1 w hw
theorem MLu.g {own C owner : String} {i0 maxL na : Nat} {x y : MethodName} {bytes : ByteArray} {ret : Option FieldType} (h : MLu own i0 C owner x y bytes maxL ret na) : GoodIn mWT (va_wsU own i0 C owner x y (Cond.code y bytes maxL ret :: mWT)) := by
  refine mwt_good (fun w hw => ?_)
  unfold va_wsU at hw
  rcases List.mem_append.mp hw with hw | hw
  · simp only [List.mem_cons, List.not_mem_nil, or_false] at hw
    rcases hw with e | e | e | e | e <;> subst e
    · exact h.2.1
    · exact h.2.2.1
    · exact h.2.2.2.1
    · exact h.2.2.2.2.1
    · exact h.2.2.2.2.2.1
  · exact mwt_cons h.1 w hw
theorem MLs.g {own : String} {i0 maxL na : Nat} {y : MethodName} {bytes : ByteArray} {ret : Option FieldType} (h : MLs own i0 y bytes maxL ret na) : GoodIn mWT (va_wsS own i0 y (Cond.code y bytes maxL ret :: mWT)) := by
  refine mwt_good (fun w hw => ?_)
  unfold va_wsS at hw
  rcases List.mem_append.mp hw with hw | hw
  · simp only [List.mem_cons, List.not_mem_nil, or_false] at hw
    rcases hw with e | e | e <;> subst e
    · exact h.2.1
    · exact h.2.2.1
    · exact h.2.2.2.1
  · exact mwt_cons h.1 w hw

theorem mb01 {x : Int32} (h : x = 0 ∨ x = 1) : narrow .boolean (.int x) = .int x ∧ fits .boolean (.int x) = true := by
  rcases h with h | h <;> subst h <;> decide
def mfr (ty : FieldType) : Bool := match ty with
  | .object _ => true
  | .array _ => true
  | _ => false
theorem mfr_nar {ty : FieldType} (h : mfr ty = true) {E : MX} (x : Nat) : narrow ty (mtv E (.ref x)) = mtv E (.ref x) := by
  cases ty <;> first | rfl | simp [mfr] at h
theorem mfr_fit {ty : FieldType} (h : mfr ty = true) {E : MX} (x : Nat) : fits ty (mtv E (.ref x)) = true := by
  cases ty <;> first | rfl | simp [mfr] at h
theorem mmI_upd (σ : MSt) (k j : Nat) (v : Int32) : mmI (muI σ k j v) k = upd (mmI σ k) j v := by
  funext b
  by_cases h : b = j
  · subst h; simp [mmI_uI, upd]
  · simp [mmI_uI, upd, h]
theorem mmL_upd (σ : MSt) (k j : Nat) (v : Int64) : mmL (muL σ k j v) k = vp_updL (mmL σ k) j v := by
  funext b
  by_cases h : b = j
  · subst h; simp [mmL_uL, vp_updL]
  · simp [mmL_uL, vp_updL, h]
theorem mty {E : MX} {i : Nat} {q : ClassId × FieldType} (h : (mtys E)[i]? = some q) : (mtys E)[i]? = some q := h
theorem mcpI_cel {E : MX} {σ : MSt} {k0 sp k1 dp z a : Nat} (h : a ≠ k1) : mcel E (mcpI σ k0 sp k1 dp z) a = mcel E σ a :=
  mcel_congr (fun b => by show (if a = k1 then _ else _) = _; rw [if_neg h]; rfl) (fun _ => rfl) (fun _ => rfl)
theorem mcpL_cel {E : MX} {σ : MSt} {k0 sp k1 dp z a : Nat} (h : a ≠ k1) : mcel E (mcpL σ k0 sp k1 dp z) a = mcel E σ a :=
  mcel_congr (fun _ => rfl) (fun b => by show (if a = k1 then _ else _) = _; rw [if_neg h]; rfl) (fun _ => rfl)
theorem mmI_cp (σ : MSt) (k0 sp k1 dp z : Nat) : mmI (mcpI σ k0 sp k1 dp z) k1 = va_cpy (mmI σ k0) (mmI σ k1) sp dp z := by
  funext b; show (if k1 = k1 then _ else _) = _; rw [if_pos rfl]; rfl
theorem mmL_cp (σ : MSt) (k0 sp k1 dp z : Nat) : mmL (mcpL σ k0 sp k1 dp z) k1 = va_cpy (mmL σ k0) (mmL σ k1) sp dp z := by
  funext b; show (if k1 = k1 then _ else _) = _; rw [if_pos rfl]; rfl
theorem mrun {p : Program} {l : Launch} {e : Env} {R : Room} {s : State} {m : MethodId} {args : Array Value} {below : List Frame} {meth : Method} {c0 : Code} {H : Heap} {locs : List Loc} {cells slots mc ms : Nat} {Q : State → Prop} {pc : Nat} {ls : Array Slot} {st0 rest : List Value} {E : MX} {res : Nat × Option Value × MSt} {a : Array Value} {n : Nat} {σ : MSt} (X : MHx E n cells σ s H locs) (hz : H.size = E.2.2.1 + n) (hn : res.1 = n + mc) (hn2 : res.1 ≤ 1000)
    (hr : va_Run p l e R s m args below meth c0 H locs cells slots mc ms (F0 m pc ls st0) rest (MQc E res a) (fun q => E.2.2.1 ≤ q))
    (kk : ∀ (H1 : Heap) (locs1 : List Loc), MHx E res.1 (cells + mc) res.2.2 s H1 locs1 → W p l e R s m args below meth c0 H1 locs1 (cells + mc) (slots + ms) Q (F0 m (pc + 3) ls ((res.2.1.map (mtv E)).toList ++ rest))) : W p l e R s m args below meth c0 H locs cells slots Q (F0 m pc ls st0) := by
  intro T hT Y
  obtain ⟨v, st₀, t, T', L, h0, X', hL, e1, e2, ⟨hv, hP, hz2, hz3, hk⟩, stp⟩ := hr T hT Y
  cases hv
  obtain ⟨x1, x2, x3, x4, x5⟩ := X
  rw [h0] at hz3 hk
  obtain ⟨t2, a1, b1⟩ := kk T'.heap (locs ++ L) ⟨hn2, x2, ⟨Nat.le_trans x3.1 (by rw [e1]; exact hz3), fun q h1 h2 => by rw [e1, hk q (Nat.lt_of_lt_of_le h1 x3.1) h2]; exact x3.2.1 q h1 h2, fun q hq => by
      rcases List.mem_append.mp hq with h | h
      · exact x3.2.2 q h
      · exact hL q h⟩, by rw [e1]; exact hP, by omega⟩ T' rfl X'
  exact ⟨t2, stp t2 a1, b1⟩
theorem mpre {E : MX} {n c : Nat} {σ : MSt} {s : State} {H : Heap} {locs : List Loc} (X : MHx E n c σ s H locs) (hz : H.size = E.2.2.1 + n) (hC : mCX E s) (av : List Value) : PreS s H (va_Pc (av.map (mtv E)) (fun U => n ≤ 1000 ∧ va_P E.1 vwCl (mwd E n σ) U.heap ∧ U.heap.size = E.2.2.1 + n ∧ mCX E U)) (av.map (mtv E)) := by
  refine ⟨fun a U g mk q => ⟨q.1, q.2.1, q.2.2.1, q.2.2.2.1, mCX.same rfl rfl q.2.2.2.2⟩, fun U hU hW => ⟨rfl, X.1, by rw [hU]; exact X.2.2.2.1, by rw [hU]; exact hz, mCX.warm hW hU X.2.2.1.2.1 hC⟩⟩
theorem mrecv {E : MX} {n c k ci : Nat} {q : vw_C} {σ : MSt} {s : State} {H : Heap} {locs : List Loc} (X : MHx E n c σ s H locs) (hC : mCX E s) (hk : k < n) (hs : mshp k = .inr ci) (hc : vwCl[ci]? = some q) : ∃ cell : Cell, H[mad E k]? = some cell ∧ cell.vm.isStatics = false ∧ s.vm.findClass q.1 = some cell.cls :=
  va_recv hC.1 X.2.2.2.1 hc (q0 := k) (by rw [mwd_at hk, mcel_obj hs])

section MRules
variable {l : Launch} {E : MX} {cc : ByteArray} {own : String} {nL : Nat} {ret : Option FieldType} {ini : Bool} {R : Room} {mc ms : Nat} {res : Nat × Option Value × MSt} {n c s : Nat} {σ σ' : MSt} {pc : Nat} {L L' : List (Nat × Value)} {st : List Value}

theorem mw_iconst {k0 : Int} {v : Int32} (hd : decode cc pc = .ok (.iconst k0, 1)) (hv : Int32.ofInt k0 = v) (k : MW l E cc own nL ret ini R mc ms res n c s σ (pc + 1) L (.int v :: st)) : MW l E cc own nL ret ini R mc ms res n c s σ pc L st :=
  fun p e s0 m args below meth c0 H locs ls C X hl => lv_iconst C.1 C.2.1 hd hv (k p e s0 m args below meth c0 H locs ls C X hl)

theorem mw_bipush {k0 : Int} {v : Int32} (hd : decode cc pc = .ok (.bipush k0, 2)) (hv : (Int8.ofInt k0).toInt32 = v) (k : MW l E cc own nL ret ini R mc ms res n c s σ (pc + 2) L (.int v :: st)) : MW l E cc own nL ret ini R mc ms res n c s σ pc L st :=
  fun p e s0 m args below meth c0 H locs ls C X hl => lv_bipush C.1 C.2.1 hd hv (k p e s0 m args below meth c0 H locs ls C X hl)

theorem mw_sipush {k0 : Int} {v : Int32} (hd : decode cc pc = .ok (.sipush k0, 3)) (hv : (Int16.ofInt k0).toInt32 = v) (k : MW l E cc own nL ret ini R mc ms res n c s σ (pc + 3) L (.int v :: st)) : MW l E cc own nL ret ini R mc ms res n c s σ pc L st :=
  fun p e s0 m args below meth c0 H locs ls C X hl => lv_sipush C.1 C.2.1 hd hv (k p e s0 m args below meth c0 H locs ls C X hl)

theorem mw_lconst {k0 : Fin 2} {v : Int64} (hd : decode cc pc = .ok (.lconst k0, 1)) (hv : Int64.ofNat (k0 : Nat) = v) (k : MW l E cc own nL ret ini R mc ms res n c s σ (pc + 1) L (.long v :: st)) : MW l E cc own nL ret ini R mc ms res n c s σ pc L st :=
  fun p e s0 m args below meth c0 H locs ls C X hl => lv_lconst C.1 C.2.1 hd hv (k p e s0 m args below meth c0 H locs ls C X hl)

theorem mw_iload_n {q0 : Fin 4} {x : Int32} (hd : decode cc pc = .ok (.iload_n q0, 1)) (q : Nat) (hq : L[q]? = some ((q0 : Nat), .int x)) (k : MW l E cc own nL ret ini R mc ms res n c s σ (pc + 1) L (.int x :: st)) : MW l E cc own nL ret ini R mc ms res n c s σ pc L st :=
  fun p e s0 m args below meth c0 H locs ls C X hl => lv_iload_n C.1 C.2.1 hd rfl (lv_at hl q (mtl_at hq)) (k p e s0 m args below meth c0 H locs ls C X hl)

theorem mw_iload {i : Nat} {x : Int32} (hd : decode cc pc = .ok (.iload i, 2)) (q : Nat) (hq : L[q]? = some (i, .int x)) (k : MW l E cc own nL ret ini R mc ms res n c s σ (pc + 2) L (.int x :: st)) : MW l E cc own nL ret ini R mc ms res n c s σ pc L st :=
  fun p e s0 m args below meth c0 H locs ls C X hl => lv_iload C.1 C.2.1 hd (lv_at hl q (mtl_at hq)) (k p e s0 m args below meth c0 H locs ls C X hl)

theorem mw_istore_n {q0 : Fin 4} {i : Nat} {x : Int32} (hd : decode cc pc = .ok (.istore_n q0, 1)) (hi : (q0 : Nat) = i) (hn : i < nL) (hL : (i, Value.int x) :: L.filter (fun q => !(q.1 == i) && !(q.1 + 1 == i && q.2.category == 2)) = L') (k : MW l E cc own nL ret ini R mc ms res n c s σ (pc + 1) L' st) : MW l E cc own nL ret ini R mc ms res n c s σ pc L (.int x :: st) :=
  fun p e s0 m args below meth c0 H locs ls C X hl => lv_istore_n (lv' := mtl E L') C.1 C.2.1 hd hi hl hn (by rw [← hL]; exact congrArg (List.cons _) (mtl_filter1 E i L).symm) (fun ls hl => k p e s0 m args below meth c0 H locs ls C X hl)

theorem mw_istore {i : Nat} {x : Int32} (hd : decode cc pc = .ok (.istore i, 2)) (hn : i < nL) (hL : (i, Value.int x) :: L.filter (fun q => !(q.1 == i) && !(q.1 + 1 == i && q.2.category == 2)) = L') (k : MW l E cc own nL ret ini R mc ms res n c s σ (pc + 2) L' st) : MW l E cc own nL ret ini R mc ms res n c s σ pc L (.int x :: st) :=
  fun p e s0 m args below meth c0 H locs ls C X hl => lv_istore (lv' := mtl E L') C.1 C.2.1 hd hl hn (by rw [← hL]; exact congrArg (List.cons _) (mtl_filter1 E i L).symm) (fun ls hl => k p e s0 m args below meth c0 H locs ls C X hl)

theorem mw_lload_n {q0 : Fin 4} {x : Int64} (hd : decode cc pc = .ok (.lload_n q0, 1)) (q : Nat) (hq : L[q]? = some ((q0 : Nat), .long x)) (k : MW l E cc own nL ret ini R mc ms res n c s σ (pc + 1) L (.long x :: st)) : MW l E cc own nL ret ini R mc ms res n c s σ pc L st :=
  fun p e s0 m args below meth c0 H locs ls C X hl => lv_lload_n C.1 C.2.1 hd rfl (lv_at hl q (mtl_at hq)) (k p e s0 m args below meth c0 H locs ls C X hl)

theorem mw_lload {i : Nat} {x : Int64} (hd : decode cc pc = .ok (.lload i, 2)) (q : Nat) (hq : L[q]? = some (i, .long x)) (k : MW l E cc own nL ret ini R mc ms res n c s σ (pc + 2) L (.long x :: st)) : MW l E cc own nL ret ini R mc ms res n c s σ pc L st :=
  fun p e s0 m args below meth c0 H locs ls C X hl => lv_lload C.1 C.2.1 hd (lv_at hl q (mtl_at hq)) (k p e s0 m args below meth c0 H locs ls C X hl)

theorem mw_lstore_n {q0 : Fin 4} {i : Nat} {x : Int64} (hd : decode cc pc = .ok (.lstore_n q0, 1)) (hi : (q0 : Nat) = i) (hn : i + 1 < nL) (hL : (i, Value.long x) :: L.filter (fun q => !(q.1 == i) && (!(q.1 == i + 1) && !(q.1 + 1 == i && q.2.category == 2))) = L') (k : MW l E cc own nL ret ini R mc ms res n c s σ (pc + 1) L' st) : MW l E cc own nL ret ini R mc ms res n c s σ pc L (.long x :: st) :=
  fun p e s0 m args below meth c0 H locs ls C X hl => lv_lstore_n (lv' := mtl E L') C.1 C.2.1 hd hi hl hn (by rw [← hL]; exact congrArg (List.cons _) (mtl_filter2 E i L).symm) (fun ls hl => k p e s0 m args below meth c0 H locs ls C X hl)

theorem mw_lstore {i : Nat} {x : Int64} (hd : decode cc pc = .ok (.lstore i, 2)) (hn : i + 1 < nL) (hL : (i, Value.long x) :: L.filter (fun q => !(q.1 == i) && (!(q.1 == i + 1) && !(q.1 + 1 == i && q.2.category == 2))) = L') (k : MW l E cc own nL ret ini R mc ms res n c s σ (pc + 2) L' st) : MW l E cc own nL ret ini R mc ms res n c s σ pc L (.long x :: st) :=
  fun p e s0 m args below meth c0 H locs ls C X hl => lv_lstore (lv' := mtl E L') C.1 C.2.1 hd hl hn (by rw [← hL]; exact congrArg (List.cons _) (mtl_filter2 E i L).symm) (fun ls hl => k p e s0 m args below meth c0 H locs ls C X hl)

theorem mw_aload_n {q0 : Fin 4} {x : Nat} (hd : decode cc pc = .ok (.aload_n q0, 1)) (q : Nat) (hq : L[q]? = some ((q0 : Nat), .ref x)) (k : MW l E cc own nL ret ini R mc ms res n c s σ (pc + 1) L (.ref x :: st)) : MW l E cc own nL ret ini R mc ms res n c s σ pc L st :=
  fun p e s0 m args below meth c0 H locs ls C X hl => lv_aload_n C.1 C.2.1 hd rfl (lv_at hl q (mtl_at hq)) (k p e s0 m args below meth c0 H locs ls C X hl)

theorem mw_aload {i : Nat} {x : Nat} (hd : decode cc pc = .ok (.aload i, 2)) (q : Nat) (hq : L[q]? = some (i, .ref x)) (k : MW l E cc own nL ret ini R mc ms res n c s σ (pc + 2) L (.ref x :: st)) : MW l E cc own nL ret ini R mc ms res n c s σ pc L st :=
  fun p e s0 m args below meth c0 H locs ls C X hl => lv_aload C.1 C.2.1 hd (lv_at hl q (mtl_at hq)) (k p e s0 m args below meth c0 H locs ls C X hl)

theorem mw_astore_n {q0 : Fin 4} {i : Nat} {x : Nat} (hd : decode cc pc = .ok (.astore_n q0, 1)) (hi : (q0 : Nat) = i) (hn : i < nL) (hL : (i, Value.ref x) :: L.filter (fun q => !(q.1 == i) && !(q.1 + 1 == i && q.2.category == 2)) = L') (k : MW l E cc own nL ret ini R mc ms res n c s σ (pc + 1) L' st) : MW l E cc own nL ret ini R mc ms res n c s σ pc L (.ref x :: st) :=
  fun p e s0 m args below meth c0 H locs ls C X hl => lv_astore_n (lv' := mtl E L') C.1 C.2.1 hd hi hl hn (by rw [← hL]; exact congrArg (List.cons _) (mtl_filter1 E i L).symm) (fun ls hl => k p e s0 m args below meth c0 H locs ls C X hl)

theorem mw_astore {i : Nat} {x : Nat} (hd : decode cc pc = .ok (.astore i, 2)) (hn : i < nL) (hL : (i, Value.ref x) :: L.filter (fun q => !(q.1 == i) && !(q.1 + 1 == i && q.2.category == 2)) = L') (k : MW l E cc own nL ret ini R mc ms res n c s σ (pc + 2) L' st) : MW l E cc own nL ret ini R mc ms res n c s σ pc L (.ref x :: st) :=
  fun p e s0 m args below meth c0 H locs ls C X hl => lv_astore (lv' := mtl E L') C.1 C.2.1 hd hl hn (by rw [← hL]; exact congrArg (List.cons _) (mtl_filter1 E i L).symm) (fun ls hl => k p e s0 m args below meth c0 H locs ls C X hl)

theorem mw_iinc {i : Nat} {k0 : Int} {x v : Int32} (hd : decode cc pc = .ok (.iinc i k0, 3)) (q : Nat) (hq : L[q]? = some (i, .int x)) (hv : x + Int32.ofInt k0 = v) (hn : i < nL) (hL : (i, Value.int v) :: L.filter (fun q => !(q.1 == i) && !(q.1 + 1 == i && q.2.category == 2)) = L') (k : MW l E cc own nL ret ini R mc ms res n c s σ (pc + 3) L' st) : MW l E cc own nL ret ini R mc ms res n c s σ pc L st :=
  fun p e s0 m args below meth c0 H locs ls C X hl => lv_iinc (lv' := mtl E L') C.1 C.2.1 hd hl (mtl_at hq) hv hn (by rw [← hL]; exact congrArg (List.cons _) (mtl_filter1 E i L).symm) (fun ls hl => k p e s0 m args below meth c0 H locs ls C X hl)

theorem mw_iadd {x y : Int32} (hd : decode cc pc = .ok (.iadd, 1)) (k : MW l E cc own nL ret ini R mc ms res n c s σ (pc + 1) L (.int (x + y) :: st)) : MW l E cc own nL ret ini R mc ms res n c s σ pc L (.int y :: .int x :: st) :=
  fun p e s0 m args below meth c0 H locs ls C X hl => lv_iadd C.1 C.2.1 hd (k p e s0 m args below meth c0 H locs ls C X hl)

theorem mw_isub {x y : Int32} (hd : decode cc pc = .ok (.isub, 1)) (k : MW l E cc own nL ret ini R mc ms res n c s σ (pc + 1) L (.int (x - y) :: st)) : MW l E cc own nL ret ini R mc ms res n c s σ pc L (.int y :: .int x :: st) :=
  fun p e s0 m args below meth c0 H locs ls C X hl => lv_isub C.1 C.2.1 hd (k p e s0 m args below meth c0 H locs ls C X hl)

theorem mw_imul {x y : Int32} (hd : decode cc pc = .ok (.imul, 1)) (k : MW l E cc own nL ret ini R mc ms res n c s σ (pc + 1) L (.int (x * y) :: st)) : MW l E cc own nL ret ini R mc ms res n c s σ pc L (.int y :: .int x :: st) :=
  fun p e s0 m args below meth c0 H locs ls C X hl => lv_imul C.1 C.2.1 hd (k p e s0 m args below meth c0 H locs ls C X hl)

theorem mw_iand {x y : Int32} (hd : decode cc pc = .ok (.iand, 1)) (k : MW l E cc own nL ret ini R mc ms res n c s σ (pc + 1) L (.int (x &&& y) :: st)) : MW l E cc own nL ret ini R mc ms res n c s σ pc L (.int y :: .int x :: st) :=
  fun p e s0 m args below meth c0 H locs ls C X hl => lv_iand C.1 C.2.1 hd (k p e s0 m args below meth c0 H locs ls C X hl)

theorem mw_ior {x y : Int32} (hd : decode cc pc = .ok (.ior, 1)) (k : MW l E cc own nL ret ini R mc ms res n c s σ (pc + 1) L (.int (x ||| y) :: st)) : MW l E cc own nL ret ini R mc ms res n c s σ pc L (.int y :: .int x :: st) :=
  fun p e s0 m args below meth c0 H locs ls C X hl => lv_ior C.1 C.2.1 hd (k p e s0 m args below meth c0 H locs ls C X hl)

theorem mw_ixor {x y : Int32} (hd : decode cc pc = .ok (.ixor, 1)) (k : MW l E cc own nL ret ini R mc ms res n c s σ (pc + 1) L (.int (x ^^^ y) :: st)) : MW l E cc own nL ret ini R mc ms res n c s σ pc L (.int y :: .int x :: st) :=
  fun p e s0 m args below meth c0 H locs ls C X hl => lv_ixor C.1 C.2.1 hd (k p e s0 m args below meth c0 H locs ls C X hl)

theorem mw_ladd {x y : Int64} (hd : decode cc pc = .ok (.ladd, 1)) (k : MW l E cc own nL ret ini R mc ms res n c s σ (pc + 1) L (.long (x + y) :: st)) : MW l E cc own nL ret ini R mc ms res n c s σ pc L (.long y :: .long x :: st) :=
  fun p e s0 m args below meth c0 H locs ls C X hl => lv_ladd C.1 C.2.1 hd (k p e s0 m args below meth c0 H locs ls C X hl)

theorem mw_lsub {x y : Int64} (hd : decode cc pc = .ok (.lsub, 1)) (k : MW l E cc own nL ret ini R mc ms res n c s σ (pc + 1) L (.long (x - y) :: st)) : MW l E cc own nL ret ini R mc ms res n c s σ pc L (.long y :: .long x :: st) :=
  fun p e s0 m args below meth c0 H locs ls C X hl => lv_lsub C.1 C.2.1 hd (k p e s0 m args below meth c0 H locs ls C X hl)

theorem mw_lmul {x y : Int64} (hd : decode cc pc = .ok (.lmul, 1)) (k : MW l E cc own nL ret ini R mc ms res n c s σ (pc + 1) L (.long (x * y) :: st)) : MW l E cc own nL ret ini R mc ms res n c s σ pc L (.long y :: .long x :: st) :=
  fun p e s0 m args below meth c0 H locs ls C X hl => lv_lmul C.1 C.2.1 hd (k p e s0 m args below meth c0 H locs ls C X hl)

theorem mw_land {x y : Int64} (hd : decode cc pc = .ok (.land, 1)) (k : MW l E cc own nL ret ini R mc ms res n c s σ (pc + 1) L (.long (x &&& y) :: st)) : MW l E cc own nL ret ini R mc ms res n c s σ pc L (.long y :: .long x :: st) :=
  fun p e s0 m args below meth c0 H locs ls C X hl => lv_land C.1 C.2.1 hd (k p e s0 m args below meth c0 H locs ls C X hl)

theorem mw_lor {x y : Int64} (hd : decode cc pc = .ok (.lor, 1)) (k : MW l E cc own nL ret ini R mc ms res n c s σ (pc + 1) L (.long (x ||| y) :: st)) : MW l E cc own nL ret ini R mc ms res n c s σ pc L (.long y :: .long x :: st) :=
  fun p e s0 m args below meth c0 H locs ls C X hl => lv_lor C.1 C.2.1 hd (k p e s0 m args below meth c0 H locs ls C X hl)

theorem mw_lxor {x y : Int64} (hd : decode cc pc = .ok (.lxor, 1)) (k : MW l E cc own nL ret ini R mc ms res n c s σ (pc + 1) L (.long (x ^^^ y) :: st)) : MW l E cc own nL ret ini R mc ms res n c s σ pc L (.long y :: .long x :: st) :=
  fun p e s0 m args below meth c0 H locs ls C X hl => lv_lxor C.1 C.2.1 hd (k p e s0 m args below meth c0 H locs ls C X hl)

theorem mw_idiv {x y : Int32} (hd : decode cc pc = .ok (.idiv, 1)) (h0 : ¬ y = 0) (k : MW l E cc own nL ret ini R mc ms res n c s σ (pc + 1) L (.int (x / y) :: st)) : MW l E cc own nL ret ini R mc ms res n c s σ pc L (.int y :: .int x :: st) :=
  fun p e s0 m args below meth c0 H locs ls C X hl => lv_idiv C.1 C.2.1 hd h0 (k p e s0 m args below meth c0 H locs ls C X hl)

theorem mw_irem {x y : Int32} (hd : decode cc pc = .ok (.irem, 1)) (h0 : ¬ y = 0) (k : MW l E cc own nL ret ini R mc ms res n c s σ (pc + 1) L (.int (x - x / y * y) :: st)) : MW l E cc own nL ret ini R mc ms res n c s σ pc L (.int y :: .int x :: st) :=
  fun p e s0 m args below meth c0 H locs ls C X hl => lv_irem C.1 C.2.1 hd h0 (k p e s0 m args below meth c0 H locs ls C X hl)

theorem mw_ldiv {x y : Int64} (hd : decode cc pc = .ok (.ldiv, 1)) (h0 : ¬ y = 0) (k : MW l E cc own nL ret ini R mc ms res n c s σ (pc + 1) L (.long (x / y) :: st)) : MW l E cc own nL ret ini R mc ms res n c s σ pc L (.long y :: .long x :: st) :=
  fun p e s0 m args below meth c0 H locs ls C X hl => lv_ldiv C.1 C.2.1 hd h0 (k p e s0 m args below meth c0 H locs ls C X hl)

theorem mw_lrem {x y : Int64} (hd : decode cc pc = .ok (.lrem, 1)) (h0 : ¬ y = 0) (k : MW l E cc own nL ret ini R mc ms res n c s σ (pc + 1) L (.long (x - x / y * y) :: st)) : MW l E cc own nL ret ini R mc ms res n c s σ pc L (.long y :: .long x :: st) :=
  fun p e s0 m args below meth c0 H locs ls C X hl => lv_lrem C.1 C.2.1 hd h0 (k p e s0 m args below meth c0 H locs ls C X hl)

theorem mw_ineg {x : Int32} (hd : decode cc pc = .ok (.ineg, 1)) (k : MW l E cc own nL ret ini R mc ms res n c s σ (pc + 1) L (.int (-x) :: st)) : MW l E cc own nL ret ini R mc ms res n c s σ pc L (.int x :: st) :=
  fun p e s0 m args below meth c0 H locs ls C X hl => lv_ineg C.1 C.2.1 hd (k p e s0 m args below meth c0 H locs ls C X hl)

theorem mw_lneg {x : Int64} (hd : decode cc pc = .ok (.lneg, 1)) (k : MW l E cc own nL ret ini R mc ms res n c s σ (pc + 1) L (.long (-x) :: st)) : MW l E cc own nL ret ini R mc ms res n c s σ pc L (.long x :: st) :=
  fun p e s0 m args below meth c0 H locs ls C X hl => lv_lneg C.1 C.2.1 hd (k p e s0 m args below meth c0 H locs ls C X hl)

theorem mw_ishl {x y : Int32} (hd : decode cc pc = .ok (.ishl, 1)) (k : MW l E cc own nL ret ini R mc ms res n c s σ (pc + 1) L (.int (x <<< (y &&& 31)) :: st)) : MW l E cc own nL ret ini R mc ms res n c s σ pc L (.int y :: .int x :: st) :=
  fun p e s0 m args below meth c0 H locs ls C X hl => lv_ishl C.1 C.2.1 hd (k p e s0 m args below meth c0 H locs ls C X hl)

theorem mw_ishr {x y : Int32} (hd : decode cc pc = .ok (.ishr, 1)) (k : MW l E cc own nL ret ini R mc ms res n c s σ (pc + 1) L (.int (x >>> (y &&& 31)) :: st)) : MW l E cc own nL ret ini R mc ms res n c s σ pc L (.int y :: .int x :: st) :=
  fun p e s0 m args below meth c0 H locs ls C X hl => lv_ishr C.1 C.2.1 hd (k p e s0 m args below meth c0 H locs ls C X hl)

theorem mw_iushr {x y : Int32} (hd : decode cc pc = .ok (.iushr, 1)) (k : MW l E cc own nL ret ini R mc ms res n c s σ (pc + 1) L (.int ((x.toUInt32 >>> (y.toUInt32 &&& Int32.toUInt32 31)).toInt32) :: st)) : MW l E cc own nL ret ini R mc ms res n c s σ pc L (.int y :: .int x :: st) :=
  fun p e s0 m args below meth c0 H locs ls C X hl => lv_iushr C.1 C.2.1 hd rfl (k p e s0 m args below meth c0 H locs ls C X hl)

theorem mw_lshl {x : Int64} {y : Int32} (hd : decode cc pc = .ok (.lshl, 1)) (k : MW l E cc own nL ret ini R mc ms res n c s σ (pc + 1) L (.long (x <<< (y.toInt64 &&& 63)) :: st)) : MW l E cc own nL ret ini R mc ms res n c s σ pc L (.int y :: .long x :: st) :=
  fun p e s0 m args below meth c0 H locs ls C X hl => lv_lshl C.1 C.2.1 hd rfl (k p e s0 m args below meth c0 H locs ls C X hl)

theorem mw_i2l {x : Int32} (hd : decode cc pc = .ok (.i2l, 1)) (k : MW l E cc own nL ret ini R mc ms res n c s σ (pc + 1) L (.long (x.toInt64) :: st)) : MW l E cc own nL ret ini R mc ms res n c s σ pc L (.int x :: st) :=
  fun p e s0 m args below meth c0 H locs ls C X hl => lv_i2l C.1 C.2.1 hd rfl (k p e s0 m args below meth c0 H locs ls C X hl)

theorem mw_l2i {x : Int64} (hd : decode cc pc = .ok (.l2i, 1)) (k : MW l E cc own nL ret ini R mc ms res n c s σ (pc + 1) L (.int (x.toInt32) :: st)) : MW l E cc own nL ret ini R mc ms res n c s σ pc L (.long x :: st) :=
  fun p e s0 m args below meth c0 H locs ls C X hl => lv_l2i C.1 C.2.1 hd rfl (k p e s0 m args below meth c0 H locs ls C X hl)

theorem mw_i2s {x : Int32} (hd : decode cc pc = .ok (.i2s, 1)) (k : MW l E cc own nL ret ini R mc ms res n c s σ (pc + 1) L (.int (x.toInt16.toInt32) :: st)) : MW l E cc own nL ret ini R mc ms res n c s σ pc L (.int x :: st) :=
  fun p e s0 m args below meth c0 H locs ls C X hl => lv_i2s C.1 C.2.1 hd rfl (k p e s0 m args below meth c0 H locs ls C X hl)

theorem mw_dup {v : Value} (hd : decode cc pc = .ok (.dup, 1)) (hv : v.category = 1) (k : MW l E cc own nL ret ini R mc ms res n c s σ (pc + 1) L (v :: v :: st)) : MW l E cc own nL ret ini R mc ms res n c s σ pc L (v :: st) :=
  fun p e s0 m args below meth c0 H locs ls C X hl => lv_dup C.1 C.2.1 hd ((mtv_cat E v).trans hv) (k p e s0 m args below meth c0 H locs ls C X hl)
theorem mw_dup2 {v w : Value} (hd : decode cc pc = .ok (.dup2, 1)) (hv : v.category = 1) (hw : w.category = 1) (k : MW l E cc own nL ret ini R mc ms res n c s σ (pc + 1) L (v :: w :: v :: w :: st)) : MW l E cc own nL ret ini R mc ms res n c s σ pc L (v :: w :: st) :=
  fun p e s0 m args below meth c0 H locs ls C X hl => lv_dup2_11 C.1 C.2.1 hd ((mtv_cat E v).trans hv) ((mtv_cat E w).trans hw) (k p e s0 m args below meth c0 H locs ls C X hl)
theorem mw_pop {v : Value} (hd : decode cc pc = .ok (.pop, 1)) (hv : v.category = 1) (k : MW l E cc own nL ret ini R mc ms res n c s σ (pc + 1) L st) : MW l E cc own nL ret ini R mc ms res n c s σ pc L (v :: st) :=
  fun p e s0 m args below meth c0 H locs ls C X hl => lv_pop C.1 C.2.1 hd ((mtv_cat E v).trans hv) (k p e s0 m args below meth c0 H locs ls C X hl)

theorem mw_if_eq {x : Int32} {off : Int} {tgt : Nat} (hd : decode cc pc = .ok (.ifCond .eq off, 3)) (ht : (pc : Int) + off = (tgt : Int)) (kt : x = 0 → MW l E cc own nL ret ini R mc ms res n c s σ tgt L st) (kf : ¬ x = 0 → MW l E cc own nL ret ini R mc ms res n c s σ (pc + 3) L st) : MW l E cc own nL ret ini R mc ms res n c s σ pc L (.int x :: st) :=
  fun p e s0 m args below meth c0 H locs ls C X hl => lv_if_eq C.1 C.2.1 hd ht (fun h => kt h p e s0 m args below meth c0 H locs ls C X hl) (fun h => kf h p e s0 m args below meth c0 H locs ls C X hl)

theorem mw_if_ne {x : Int32} {off : Int} {tgt : Nat} (hd : decode cc pc = .ok (.ifCond .ne off, 3)) (ht : (pc : Int) + off = (tgt : Int)) (kt : ¬ x = 0 → MW l E cc own nL ret ini R mc ms res n c s σ tgt L st) (kf : x = 0 → MW l E cc own nL ret ini R mc ms res n c s σ (pc + 3) L st) : MW l E cc own nL ret ini R mc ms res n c s σ pc L (.int x :: st) :=
  fun p e s0 m args below meth c0 H locs ls C X hl => lv_if_ne C.1 C.2.1 hd ht (fun h => kt h p e s0 m args below meth c0 H locs ls C X hl) (fun h => kf h p e s0 m args below meth c0 H locs ls C X hl)

theorem mw_if_lt {x : Int32} {off : Int} {tgt : Nat} (hd : decode cc pc = .ok (.ifCond .lt off, 3)) (ht : (pc : Int) + off = (tgt : Int)) (kt : x < 0 → MW l E cc own nL ret ini R mc ms res n c s σ tgt L st) (kf : ¬ x < 0 → MW l E cc own nL ret ini R mc ms res n c s σ (pc + 3) L st) : MW l E cc own nL ret ini R mc ms res n c s σ pc L (.int x :: st) :=
  fun p e s0 m args below meth c0 H locs ls C X hl => lv_if_lt C.1 C.2.1 hd ht (fun h => kt h p e s0 m args below meth c0 H locs ls C X hl) (fun h => kf h p e s0 m args below meth c0 H locs ls C X hl)

theorem mw_if_ge {x : Int32} {off : Int} {tgt : Nat} (hd : decode cc pc = .ok (.ifCond .ge off, 3)) (ht : (pc : Int) + off = (tgt : Int)) (kt : 0 ≤ x → MW l E cc own nL ret ini R mc ms res n c s σ tgt L st) (kf : ¬ 0 ≤ x → MW l E cc own nL ret ini R mc ms res n c s σ (pc + 3) L st) : MW l E cc own nL ret ini R mc ms res n c s σ pc L (.int x :: st) :=
  fun p e s0 m args below meth c0 H locs ls C X hl => lv_if_ge C.1 C.2.1 hd ht (fun h => kt h p e s0 m args below meth c0 H locs ls C X hl) (fun h => kf h p e s0 m args below meth c0 H locs ls C X hl)

theorem mw_if_gt {x : Int32} {off : Int} {tgt : Nat} (hd : decode cc pc = .ok (.ifCond .gt off, 3)) (ht : (pc : Int) + off = (tgt : Int)) (kt : 0 < x → MW l E cc own nL ret ini R mc ms res n c s σ tgt L st) (kf : ¬ 0 < x → MW l E cc own nL ret ini R mc ms res n c s σ (pc + 3) L st) : MW l E cc own nL ret ini R mc ms res n c s σ pc L (.int x :: st) :=
  fun p e s0 m args below meth c0 H locs ls C X hl => lv_if_gt C.1 C.2.1 hd ht (fun h => kt h p e s0 m args below meth c0 H locs ls C X hl) (fun h => kf h p e s0 m args below meth c0 H locs ls C X hl)

theorem mw_if_le {x : Int32} {off : Int} {tgt : Nat} (hd : decode cc pc = .ok (.ifCond .le off, 3)) (ht : (pc : Int) + off = (tgt : Int)) (kt : x ≤ 0 → MW l E cc own nL ret ini R mc ms res n c s σ tgt L st) (kf : ¬ x ≤ 0 → MW l E cc own nL ret ini R mc ms res n c s σ (pc + 3) L st) : MW l E cc own nL ret ini R mc ms res n c s σ pc L (.int x :: st) :=
  fun p e s0 m args below meth c0 H locs ls C X hl => lv_if_le C.1 C.2.1 hd ht (fun h => kt h p e s0 m args below meth c0 H locs ls C X hl) (fun h => kf h p e s0 m args below meth c0 H locs ls C X hl)

theorem mw_icmp_eq {x y : Int32} {off : Int} {tgt : Nat} (hd : decode cc pc = .ok (.if_icmp .eq off, 3)) (ht : (pc : Int) + off = (tgt : Int)) (kt : x = y → MW l E cc own nL ret ini R mc ms res n c s σ tgt L st) (kf : ¬ x = y → MW l E cc own nL ret ini R mc ms res n c s σ (pc + 3) L st) : MW l E cc own nL ret ini R mc ms res n c s σ pc L (.int y :: .int x :: st) :=
  fun p e s0 m args below meth c0 H locs ls C X hl => lv_icmp_eq C.1 C.2.1 hd ht (fun h => kt h p e s0 m args below meth c0 H locs ls C X hl) (fun h => kf h p e s0 m args below meth c0 H locs ls C X hl)

theorem mw_icmp_lt {x y : Int32} {off : Int} {tgt : Nat} (hd : decode cc pc = .ok (.if_icmp .lt off, 3)) (ht : (pc : Int) + off = (tgt : Int)) (kt : x < y → MW l E cc own nL ret ini R mc ms res n c s σ tgt L st) (kf : ¬ x < y → MW l E cc own nL ret ini R mc ms res n c s σ (pc + 3) L st) : MW l E cc own nL ret ini R mc ms res n c s σ pc L (.int y :: .int x :: st) :=
  fun p e s0 m args below meth c0 H locs ls C X hl => lv_icmp_lt C.1 C.2.1 hd ht (fun h => kt h p e s0 m args below meth c0 H locs ls C X hl) (fun h => kf h p e s0 m args below meth c0 H locs ls C X hl)

theorem mw_icmp_ge {x y : Int32} {off : Int} {tgt : Nat} (hd : decode cc pc = .ok (.if_icmp .ge off, 3)) (ht : (pc : Int) + off = (tgt : Int)) (kt : y ≤ x → MW l E cc own nL ret ini R mc ms res n c s σ tgt L st) (kf : ¬ y ≤ x → MW l E cc own nL ret ini R mc ms res n c s σ (pc + 3) L st) : MW l E cc own nL ret ini R mc ms res n c s σ pc L (.int y :: .int x :: st) :=
  fun p e s0 m args below meth c0 H locs ls C X hl => lv_icmp_ge C.1 C.2.1 hd ht (fun h => kt h p e s0 m args below meth c0 H locs ls C X hl) (fun h => kf h p e s0 m args below meth c0 H locs ls C X hl)

theorem mw_icmp_gt {x y : Int32} {off : Int} {tgt : Nat} (hd : decode cc pc = .ok (.if_icmp .gt off, 3)) (ht : (pc : Int) + off = (tgt : Int)) (kt : y < x → MW l E cc own nL ret ini R mc ms res n c s σ tgt L st) (kf : ¬ y < x → MW l E cc own nL ret ini R mc ms res n c s σ (pc + 3) L st) : MW l E cc own nL ret ini R mc ms res n c s σ pc L (.int y :: .int x :: st) :=
  fun p e s0 m args below meth c0 H locs ls C X hl => lv_icmp_gt C.1 C.2.1 hd ht (fun h => kt h p e s0 m args below meth c0 H locs ls C X hl) (fun h => kf h p e s0 m args below meth c0 H locs ls C X hl)

theorem mw_icmp_le {x y : Int32} {off : Int} {tgt : Nat} (hd : decode cc pc = .ok (.if_icmp .le off, 3)) (ht : (pc : Int) + off = (tgt : Int)) (kt : x ≤ y → MW l E cc own nL ret ini R mc ms res n c s σ tgt L st) (kf : ¬ x ≤ y → MW l E cc own nL ret ini R mc ms res n c s σ (pc + 3) L st) : MW l E cc own nL ret ini R mc ms res n c s σ pc L (.int y :: .int x :: st) :=
  fun p e s0 m args below meth c0 H locs ls C X hl => lv_icmp_le C.1 C.2.1 hd ht (fun h => kt h p e s0 m args below meth c0 H locs ls C X hl) (fun h => kf h p e s0 m args below meth c0 H locs ls C X hl)

theorem mw_icmp_ne {x y : Int32} {off : Int} {tgt : Nat} (hd : decode cc pc = .ok (.if_icmp .ne off, 3)) (ht : (pc : Int) + off = (tgt : Int)) (kt : ¬ x = y → MW l E cc own nL ret ini R mc ms res n c s σ tgt L st) (kf : x = y → MW l E cc own nL ret ini R mc ms res n c s σ (pc + 3) L st) : MW l E cc own nL ret ini R mc ms res n c s σ pc L (.int y :: .int x :: st) :=
  fun p e s0 m args below meth c0 H locs ls C X hl => lv_icmp_ne C.1 C.2.1 hd ht (fun h => kt h p e s0 m args below meth c0 H locs ls C X hl) (fun h => kf h p e s0 m args below meth c0 H locs ls C X hl)
theorem mw_goto {off : Int} {tgt : Nat} (hd : decode cc pc = .ok (.goto off, 3)) (ht : (pc : Int) + off = (tgt : Int)) (k : MW l E cc own nL ret ini R mc ms res n c s σ tgt L st) : MW l E cc own nL ret ini R mc ms res n c s σ pc L st :=
  fun p e s0 m args below meth c0 H locs ls C X hl => lv_goto C.1 C.2.1 hd ht (k p e s0 m args below meth c0 H locs ls C X hl)

theorem mw_lcmp {x y : Int64} (hd : decode cc pc = .ok (.lcmp, 1)) (k : MW l E cc own nL ret ini R mc ms res n c s σ (pc + 1) L (.int (lg_cmp x y) :: st)) : MW l E cc own nL ret ini R mc ms res n c s σ pc L (.long y :: .long x :: st) :=
  fun p e s0 m args below meth c0 H locs ls C X hl => W.lcmp C.1 C.2.1 hd (k p e s0 m args below meth c0 H locs ls C X hl)

theorem mw_lc_eq {x y : Int64} {off : Int} {tgt : Nat} (hd0 : decode cc pc = .ok (.lcmp, 1)) (hd : decode cc (pc + 1) = .ok (.ifCond .eq off, 3)) (ht : ((pc + 1 : Nat) : Int) + off = (tgt : Int)) (kt : x = y → MW l E cc own nL ret ini R mc ms res n c s σ tgt L st) (kf : ¬ x = y → MW l E cc own nL ret ini R mc ms res n c s σ (pc + 1 + 3) L st) : MW l E cc own nL ret ini R mc ms res n c s σ pc L (.long y :: .long x :: st) :=
  mw_lcmp hd0 (mw_if_eq hd ht (fun h => kt ((lg_cmp_eq x y).mp h)) (fun h => kf (fun q => h ((lg_cmp_eq x y).mpr q))))

theorem mw_lc_ne {x y : Int64} {off : Int} {tgt : Nat} (hd0 : decode cc pc = .ok (.lcmp, 1)) (hd : decode cc (pc + 1) = .ok (.ifCond .ne off, 3)) (ht : ((pc + 1 : Nat) : Int) + off = (tgt : Int)) (kt : ¬ x = y → MW l E cc own nL ret ini R mc ms res n c s σ tgt L st) (kf : x = y → MW l E cc own nL ret ini R mc ms res n c s σ (pc + 1 + 3) L st) : MW l E cc own nL ret ini R mc ms res n c s σ pc L (.long y :: .long x :: st) :=
  mw_lcmp hd0 (mw_if_ne hd ht (fun h => kt (fun q => h ((lg_cmp_eq x y).mpr q))) (fun h => kf ((lg_cmp_eq x y).mp h)))

theorem mw_lc_lt {x y : Int64} {off : Int} {tgt : Nat} (hd0 : decode cc pc = .ok (.lcmp, 1)) (hd : decode cc (pc + 1) = .ok (.ifCond .lt off, 3)) (ht : ((pc + 1 : Nat) : Int) + off = (tgt : Int)) (kt : x < y → MW l E cc own nL ret ini R mc ms res n c s σ tgt L st) (kf : ¬ x < y → MW l E cc own nL ret ini R mc ms res n c s σ (pc + 1 + 3) L st) : MW l E cc own nL ret ini R mc ms res n c s σ pc L (.long y :: .long x :: st) :=
  mw_lcmp hd0 (mw_if_lt hd ht (fun h => kt ((lg_cmp_lt x y).mp h)) (fun h => kf (fun q => h ((lg_cmp_lt x y).mpr q))))

theorem mw_lc_ge {x y : Int64} {off : Int} {tgt : Nat} (hd0 : decode cc pc = .ok (.lcmp, 1)) (hd : decode cc (pc + 1) = .ok (.ifCond .ge off, 3)) (ht : ((pc + 1 : Nat) : Int) + off = (tgt : Int)) (kt : y ≤ x → MW l E cc own nL ret ini R mc ms res n c s σ tgt L st) (kf : ¬ y ≤ x → MW l E cc own nL ret ini R mc ms res n c s σ (pc + 1 + 3) L st) : MW l E cc own nL ret ini R mc ms res n c s σ pc L (.long y :: .long x :: st) :=
  mw_lcmp hd0 (mw_if_ge hd ht (fun h => kt ((lg_cmp_ge x y).mp h)) (fun h => kf (fun q => h ((lg_cmp_ge x y).mpr q))))

theorem mw_lc_gt {x y : Int64} {off : Int} {tgt : Nat} (hd0 : decode cc pc = .ok (.lcmp, 1)) (hd : decode cc (pc + 1) = .ok (.ifCond .gt off, 3)) (ht : ((pc + 1 : Nat) : Int) + off = (tgt : Int)) (kt : y < x → MW l E cc own nL ret ini R mc ms res n c s σ tgt L st) (kf : ¬ y < x → MW l E cc own nL ret ini R mc ms res n c s σ (pc + 1 + 3) L st) : MW l E cc own nL ret ini R mc ms res n c s σ pc L (.long y :: .long x :: st) :=
  mw_lcmp hd0 (mw_if_gt hd ht (fun h => kt ((lg_cmp_gt x y).mp h)) (fun h => kf (fun q => h ((lg_cmp_gt x y).mpr q))))

theorem mw_lc_le {x y : Int64} {off : Int} {tgt : Nat} (hd0 : decode cc pc = .ok (.lcmp, 1)) (hd : decode cc (pc + 1) = .ok (.ifCond .le off, 3)) (ht : ((pc + 1 : Nat) : Int) + off = (tgt : Int)) (kt : x ≤ y → MW l E cc own nL ret ini R mc ms res n c s σ tgt L st) (kf : ¬ x ≤ y → MW l E cc own nL ret ini R mc ms res n c s σ (pc + 1 + 3) L st) : MW l E cc own nL ret ini R mc ms res n c s σ pc L (.long y :: .long x :: st) :=
  mw_lcmp hd0 (mw_if_le hd ht (fun h => kt ((lg_cmp_le x y).mp h)) (fun h => kf (fun q => h ((lg_cmp_le x y).mpr q))))

theorem mw_ldc {i0 : Nat} {v : Int32} (hd : decode cc pc = .ok (.ldc i0, 2)) (hw : Cond.constant own i0 v ∈ mWT) (k : MW l E cc own nL ret ini R mc ms res n c s σ (pc + 2) L (.int v :: st)) : MW l E cc own nL ret ini R mc ms res n c s σ pc L st :=
  fun p e s0 m args below meth c0 H locs ls C X hl => lv_ldc C.1 C.2.1 C.2.2.2.2.2.1 (C.2.2.2.2.1 _ hw) hd (k p e s0 m args below meth c0 H locs ls C X hl)
theorem mw_ldcw {i0 : Nat} {v : Int32} (hd : decode cc pc = .ok (.ldc_w i0, 3)) (hw : Cond.constant own i0 v ∈ mWT) (k : MW l E cc own nL ret ini R mc ms res n c s σ (pc + 3) L (.int v :: st)) : MW l E cc own nL ret ini R mc ms res n c s σ pc L st :=
  fun p e s0 m args below meth c0 H locs ls C X hl => lv_ldcw C.1 C.2.1 C.2.2.2.2.2.1 (C.2.2.2.2.1 _ hw) hd (k p e s0 m args below meth c0 H locs ls C X hl)
theorem mw_ldc2 {i0 : Nat} {v : Int64} (hd : decode cc pc = .ok (.ldc2_w i0, 3)) (hw : Cond.constantLong own i0 v ∈ mWT) (k : MW l E cc own nL ret ini R mc ms res n c s σ (pc + 3) L (.long v :: st)) : MW l E cc own nL ret ini R mc ms res n c s σ pc L st :=
  fun p e s0 m args below meth c0 H locs ls C X hl => lv_ldc2 C.1 C.2.1 C.2.2.2.2.2.1 (C.2.2.2.2.1 _ hw) hd (k p e s0 m args below meth c0 H locs ls C X hl)

theorem mw_get {k j ci i0 : Nat} {ref C0 : String} {T : u_T} {N : Nat} {v : Value} (hd : decode cc pc = .ok (.getfield i0, 3)) (hk : k < n) (hs : mshp k = .inr ci) (hc : vwCl[ci]? = some (C0, T, N)) (hN : mnF ci = N) (hj : j < N) (hin : ∀ w ∈ u_ws C0 T N, w ∈ mWT) (hw : Cond.fieldLink own i0 ref (T j).2.1 (T j).2.2.1 ∈ mWT) (hsm : ref = (T j).1 ∨ Cond.sameField ref (T j).1 (T j).2.1 (T j).2.2.1 ∈ mWT) (hv : mfv (mft ci j) σ k j = v) (kk : MW l E cc own nL ret ini R mc ms res n c s σ (pc + 3) L (v :: st)) : MW l E cc own nL ret ini R mc ms res n c s σ pc L (.ref k :: st) := by
  intro p e s0 m args below meth c0 H locs ls C X hl
  have hn : k < 1000 := Nat.lt_of_lt_of_le hk X.1
  have ha : (mwd E n σ)[k]? = some (mad E k, .inr (ci, (List.range (mnF ci)).map (fun j => maf E (mft ci j) σ k j))) := by rw [mwd_at hk, mcel_obj hs]
  have hf : ((List.range (mnF ci)).map (fun j => maf E (mft ci j) σ k j))[j]? = some (mtv E v) := by
    rw [← hv, mtv_mfv, hN]
    simp [hj]
  refine va_get C.1 C.2.1 C.2.2.2.2.1 hin C.2.2.2.2.2.1 C.2.2.2.2.2.2.2.1.1 X.2.2.2.1 k ha hc j hj (C.2.2.2.2.1 _ hw) (fun x hx => ?_) hf hd (kk p e s0 m args below meth c0 H locs ls C X hl)
  rcases hsm with h | h
  · rw [h]; exact hx
  · exact u_same (C.2.2.2.2.1 _ h) x hx
theorem maf_uI {E : MX} {σ : MSt} {k j i : Nat} {v : Int32} {ty : FieldType} (h : i = j → ty = .int ∨ ty = .boolean) : maf E ty (muI σ k j v) k i = if i = j then .int v else maf E ty σ k i := by
  by_cases q : i = j
  · subst q
    rw [if_pos rfl]
    rcases h rfl with r | r <;> subst r <;> simp [maf, mmI_uI]
  · rw [if_neg q]
    exact maf_congr (by rw [mmI_uI, if_neg (fun z => q z.2)]) rfl rfl
theorem maf_uL {E : MX} {σ : MSt} {k j i : Nat} {v : Int64} {ty : FieldType} (h : i = j → ty = .long) : maf E ty (muL σ k j v) k i = if i = j then .long v else maf E ty σ k i := by
  by_cases q : i = j
  · subst q
    rw [if_pos rfl]
    rw [h rfl]
    simp [maf, mmL_uL]
  · rw [if_neg q]
    exact maf_congr rfl (by rw [mmL_uL, if_neg (fun z => q z.2)]) rfl
theorem maf_uR {E : MX} {σ : MSt} {k j i : Nat} {v : Option Nat} {ty : FieldType} (h : i = j → mfr ty = true) : maf E ty (muR σ k j v) k i = if i = j then va_rf (v.map (mad E)) else maf E ty σ k i := by
  by_cases q : i = j
  · subst q
    rw [if_pos rfl]
    have h := h rfl
    cases ty <;> first | (simp [mfr] at h; done) | simp [maf, mmR_uR]
  · rw [if_neg q]
    exact maf_congr rfl rfl (by rw [mmR_uR, if_neg (fun z => q z.2)])
theorem mset_map {α : Type} (N j : Nat) (f g : Nat → α) (v : α) (h : ∀ i, g i = if i = j then v else f i) : ((List.range N).map f).set j v = (List.range N).map g := by
  apply List.ext_getElem?
  intro i
  by_cases hi : i = j
  · subst hi
    by_cases hN : i < N
    · rw [List.getElem?_set_self (by simpa using hN)]
      simp [hN, h]
    · rw [List.getElem?_eq_none (by simp; omega), List.getElem?_eq_none (by simp; omega)]
  · rw [List.getElem?_set_ne (Ne.symm hi)]
    by_cases hN : i < N
    · simp [hN, h, hi]
    · rw [List.getElem?_eq_none (by simp; omega), List.getElem?_eq_none (by simp; omega)]
theorem mw_put0 {k j ci i0 : Nat} {ref C0 : String} {T : u_T} {N : Nat} {v : Value} {ty : FieldType} (ty0 : Nat → FieldType) (hty : ∀ k, k < N → parseFieldDescriptor (T k).2.2.1 = some (ty0 k)) (hnm : ∀ a, a < N → ∀ b, b < N → a ≠ b → (T a).2.1 ≠ (T b).2.1) (hd : decode cc pc = .ok (.putfield i0, 3)) (hk : k < n) (hs : mshp k = .inr ci) (hc : vwCl[ci]? = some (C0, T, N)) (hN : mnF ci = N) (hj : j < N) (hin : ∀ w ∈ u_ws C0 T N, w ∈ mWT) (hw : Cond.fieldLink own i0 ref (T j).2.1 (T j).2.2.1 ∈ mWT) (hsm : ref = (T j).1 ∨ Cond.sameField ref (T j).1 (T j).2.1 (T j).2.2.1 ∈ mWT) (hfin : (T j).2.2.2 = false ∨ ((T j).2.2.2 = true ∧ ini = true ∧ (T j).1 = own)) (hdt : parseFieldDescriptor (T j).2.2.1 = some ty) (hnar : narrow ty (mtv E v) = mtv E v) (hfit : fits ty (mtv E v) = true) (hσ : (mwd E n σ).set k (mad E k, .inr (ci, ((List.range (mnF ci)).map (fun j => maf E (mft ci j) σ k j)).set j (mtv E v))) = mwd E n σ') (kk : MW l E cc own nL ret ini R mc ms res n c s σ' (pc + 3) L st) : MW l E cc own nL ret ini R mc ms res n c s σ pc L (v :: .ref k :: st) := by
  intro p e s0 m args below meth c0 H locs ls C X hl
  have ha : (mwd E n σ)[k]? = some (mad E k, .inr (ci, (List.range (mnF ci)).map (fun j => maf E (mft ci j) σ k j))) := by rw [mwd_at hk, mcel_obj hs]
  have hsame : ∀ x, s0.fieldFound? (T j).1 (T j).2.1 (T j).2.2.1 = some x → s0.fieldFound? ref (T j).2.1 (T j).2.2.1 = some x := by
    intro x hx
    rcases hsm with h | h
    · rw [h]; exact hx
    · exact u_same (C.2.2.2.2.1 _ h) x hx
  have hlen : j < ((List.range (mnF ci)).map (fun j => maf E (mft ci j) σ k j)).length := by simp [hN, hj]
  have go : ∀ (H1 : Heap) (locs1 : List Loc), va_P E.1 vwCl ((mwd E n σ).set k (mad E k, .inr (ci, ((List.range (mnF ci)).map (fun j => maf E (mft ci j) σ k j)).set j (mtv E v)))) H1 → va_D (fun q => E.2.2.1 ≤ q) ((mwd E n σ).set k (mad E k, .inr (ci, ((List.range (mnF ci)).map (fun j => maf E (mft ci j) σ k j)).set j (mtv E v)))) → va_S (fun q => E.2.2.1 ≤ q) s0.heap H1 locs1 → W p l e R s0 m args below meth c0 H1 locs1 c s (MQ below (MQc E res) args s0 mc ms (fun q => E.2.2.1 ≤ q)) (F0 m (pc + 3) ls (st.map (mtv E))) := by
    intro H1 locs1 hP _ hS
    rw [hσ] at hP
    exact kk p e s0 m args below meth c0 H1 locs1 ls C ⟨X.1, X.2.1, hS, hP, X.2.2.2.2⟩ hl
  rcases hfin with hf | ⟨hf, hi, ho⟩
  · exact va_put C.1 C.2.1 C.2.2.2.2.1 hin ty0 hty hnm C.2.2.2.2.2.1 C.2.2.2.2.2.2.2.1.1 X.2.2.2.1 (mwd_D X.1) X.2.2.1 k ha hc j hj (C.2.2.2.2.1 _ hw) hsame hf hdt hnar hfit hlen hd go
  · exact va_putF C.1 C.2.1 C.2.2.2.2.1 hin ty0 hty hnm C.2.2.2.2.2.1 C.2.2.2.2.2.2.2.1.1 X.2.2.2.1 (mwd_D X.1) X.2.2.1 k ha hc j hj (C.2.2.2.2.1 _ hw) hsame hf (C.2.2.2.2.2.2.2.2 hi) ho hdt hnar hfit hlen hd go

theorem mw_putI {k j ci i0 : Nat} {ref C0 : String} {T : u_T} {N : Nat} {x : Int32} (ty0 : Nat → FieldType) (hty : ∀ k, k < N → parseFieldDescriptor (T k).2.2.1 = some (ty0 k)) (hnm : ∀ a, a < N → ∀ b, b < N → a ≠ b → (T a).2.1 ≠ (T b).2.1) (hd : decode cc pc = .ok (.putfield i0, 3)) (hk : k < n) (hs : mshp k = .inr ci) (hc : vwCl[ci]? = some (C0, T, N)) (hN : mnF ci = N) (hj : j < N) (hin : ∀ w ∈ u_ws C0 T N, w ∈ mWT) (hw : Cond.fieldLink own i0 ref (T j).2.1 (T j).2.2.1 ∈ mWT) (hsm : ref = (T j).1 ∨ Cond.sameField ref (T j).1 (T j).2.1 (T j).2.2.1 ∈ mWT) (hfin : (T j).2.2.2 = false ∨ ((T j).2.2.2 = true ∧ ini = true ∧ (T j).1 = own)) (hdt : parseFieldDescriptor (T j).2.2.1 = some .int) (hm : mft ci j = .int ∨ mft ci j = .boolean) (kk : MW l E cc own nL ret ini R mc ms res n c s (muI σ k j x) (pc + 3) L st) : MW l E cc own nL ret ini R mc ms res n c s σ pc L (.int x :: .ref k :: st) :=
  mw_put0 ty0 hty hnm hd hk hs hc hN hj hin hw hsm hfin hdt rfl rfl (mwd_set hk (by rw [mcel_obj hs]; congr 2; exact (mset_map _ j _ _ _ (fun i => maf_uI (fun q => by rw [q]; exact hm))).symm) (fun a ha => mcel_uI ha)) kk

theorem mw_putZ {k j ci i0 : Nat} {ref C0 : String} {T : u_T} {N : Nat} {x : Int32} (ty0 : Nat → FieldType) (hty : ∀ k, k < N → parseFieldDescriptor (T k).2.2.1 = some (ty0 k)) (hnm : ∀ a, a < N → ∀ b, b < N → a ≠ b → (T a).2.1 ≠ (T b).2.1) (hd : decode cc pc = .ok (.putfield i0, 3)) (hk : k < n) (hs : mshp k = .inr ci) (hc : vwCl[ci]? = some (C0, T, N)) (hN : mnF ci = N) (hj : j < N) (hin : ∀ w ∈ u_ws C0 T N, w ∈ mWT) (hw : Cond.fieldLink own i0 ref (T j).2.1 (T j).2.2.1 ∈ mWT) (hsm : ref = (T j).1 ∨ Cond.sameField ref (T j).1 (T j).2.1 (T j).2.2.1 ∈ mWT) (hfin : (T j).2.2.2 = false ∨ ((T j).2.2.2 = true ∧ ini = true ∧ (T j).1 = own)) (hdt : parseFieldDescriptor (T j).2.2.1 = some .boolean) (hm : mft ci j = .int ∨ mft ci j = .boolean) (hx : x = 0 ∨ x = 1) (kk : MW l E cc own nL ret ini R mc ms res n c s (muI σ k j x) (pc + 3) L st) : MW l E cc own nL ret ini R mc ms res n c s σ pc L (.int x :: .ref k :: st) :=
  mw_put0 ty0 hty hnm hd hk hs hc hN hj hin hw hsm hfin hdt (mb01 hx).1 (mb01 hx).2 (mwd_set hk (by rw [mcel_obj hs]; congr 2; exact (mset_map _ j _ _ _ (fun i => maf_uI (fun q => by rw [q]; exact hm))).symm) (fun a ha => mcel_uI ha)) kk

theorem mw_putL {k j ci i0 : Nat} {ref C0 : String} {T : u_T} {N : Nat} {x : Int64} (ty0 : Nat → FieldType) (hty : ∀ k, k < N → parseFieldDescriptor (T k).2.2.1 = some (ty0 k)) (hnm : ∀ a, a < N → ∀ b, b < N → a ≠ b → (T a).2.1 ≠ (T b).2.1) (hd : decode cc pc = .ok (.putfield i0, 3)) (hk : k < n) (hs : mshp k = .inr ci) (hc : vwCl[ci]? = some (C0, T, N)) (hN : mnF ci = N) (hj : j < N) (hin : ∀ w ∈ u_ws C0 T N, w ∈ mWT) (hw : Cond.fieldLink own i0 ref (T j).2.1 (T j).2.2.1 ∈ mWT) (hsm : ref = (T j).1 ∨ Cond.sameField ref (T j).1 (T j).2.1 (T j).2.2.1 ∈ mWT) (hfin : (T j).2.2.2 = false ∨ ((T j).2.2.2 = true ∧ ini = true ∧ (T j).1 = own)) (hdt : parseFieldDescriptor (T j).2.2.1 = some .long) (hm : mft ci j = .long) (kk : MW l E cc own nL ret ini R mc ms res n c s (muL σ k j x) (pc + 3) L st) : MW l E cc own nL ret ini R mc ms res n c s σ pc L (.long x :: .ref k :: st) :=
  mw_put0 ty0 hty hnm hd hk hs hc hN hj hin hw hsm hfin hdt rfl rfl (mwd_set hk (by rw [mcel_obj hs]; congr 2; exact (mset_map _ j _ _ _ (fun i => maf_uL (fun q => by rw [q]; exact hm))).symm) (fun a ha => mcel_uL ha)) kk

theorem mw_putR {k j ci i0 : Nat} {ref C0 : String} {T : u_T} {N : Nat} {x : Nat} {ty : FieldType} (ty0 : Nat → FieldType) (hty : ∀ k, k < N → parseFieldDescriptor (T k).2.2.1 = some (ty0 k)) (hnm : ∀ a, a < N → ∀ b, b < N → a ≠ b → (T a).2.1 ≠ (T b).2.1) (hd : decode cc pc = .ok (.putfield i0, 3)) (hk : k < n) (hs : mshp k = .inr ci) (hc : vwCl[ci]? = some (C0, T, N)) (hN : mnF ci = N) (hj : j < N) (hin : ∀ w ∈ u_ws C0 T N, w ∈ mWT) (hw : Cond.fieldLink own i0 ref (T j).2.1 (T j).2.2.1 ∈ mWT) (hsm : ref = (T j).1 ∨ Cond.sameField ref (T j).1 (T j).2.1 (T j).2.2.1 ∈ mWT) (hfin : (T j).2.2.2 = false ∨ ((T j).2.2.2 = true ∧ ini = true ∧ (T j).1 = own)) (hdt : parseFieldDescriptor (T j).2.2.1 = some ty) (hm : mfr (mft ci j) = true) (hr : mfr ty = true) (kk : MW l E cc own nL ret ini R mc ms res n c s (muR σ k j (some x)) (pc + 3) L st) : MW l E cc own nL ret ini R mc ms res n c s σ pc L (.ref x :: .ref k :: st) :=
  mw_put0 ty0 hty hnm hd hk hs hc hN hj hin hw hsm hfin hdt (mfr_nar hr _) (mfr_fit hr _) (mwd_set hk (by rw [mcel_obj hs]; congr 2; exact (mset_map _ j _ _ _ (fun i => maf_uR (fun q => by rw [q]; exact hm))).symm) (fun a ha => mcel_uR ha)) kk

theorem mw_iald {k N : Nat} {i : Int32} (hd : decode cc pc = .ok (.iaload, 1)) (hk : k < n) (hs : mshp k = .inl (0, N)) (hi : vp_in i N) (kk : MW l E cc own nL ret ini R mc ms res n c s σ (pc + 1) L (.int (mmI σ k i.toNatClampNeg) :: st)) : MW l E cc own nL ret ini R mc ms res n c s σ pc L (.int i :: .ref k :: st) :=
  fun p e s0 m args below meth c0 H locs ls C X hl => va_iald (tys := mtys E) C.1 C.2.1 C.2.2.2.2.2.2.2.1.1 X.2.2.2.1 k 0 (by rw [mwd_at hk, mcel_arr hs]; rfl) rfl hi hd (kk p e s0 m args below meth c0 H locs ls C X hl)

theorem mw_lald {k N : Nat} {i : Int32} (hd : decode cc pc = .ok (.laload, 1)) (hk : k < n) (hs : mshp k = .inl (1, N)) (hi : vp_in i N) (kk : MW l E cc own nL ret ini R mc ms res n c s σ (pc + 1) L (.long (mmL σ k i.toNatClampNeg) :: st)) : MW l E cc own nL ret ini R mc ms res n c s σ pc L (.int i :: .ref k :: st) :=
  fun p e s0 m args below meth c0 H locs ls C X hl => va_lald (tys := mtys E) C.1 C.2.1 C.2.2.2.2.2.2.2.1.1 X.2.2.2.1 k 1 (by rw [mwd_at hk, mcel_arr hs]; rfl) rfl hi hd (kk p e s0 m args below meth c0 H locs ls C X hl)

theorem mw_zald {k N : Nat} {i : Int32} (hd : decode cc pc = .ok (.baload, 1)) (hk : k < n) (hs : mshp k = .inl (2, N)) (hi : vp_in i N) (kk : MW l E cc own nL ret ini R mc ms res n c s σ (pc + 1) L (.int (mmI σ k i.toNatClampNeg) :: st)) : MW l E cc own nL ret ini R mc ms res n c s σ pc L (.int i :: .ref k :: st) :=
  fun p e s0 m args below meth c0 H locs ls C X hl => va_zald (tys := mtys E) C.1 C.2.1 C.2.2.2.2.2.2.2.1.1 X.2.2.2.1 k 2 (by rw [mwd_at hk, mcel_arr hs]; rfl) rfl hi hd (kk p e s0 m args below meth c0 H locs ls C X hl)

theorem mw_cald {k N : Nat} {i : Int32} (hd : decode cc pc = .ok (.caload, 1)) (hk : k < n) (hs : mshp k = .inl (3, N)) (hi : vp_in i N) (kk : MW l E cc own nL ret ini R mc ms res n c s σ (pc + 1) L (.int (mmI σ k i.toNatClampNeg) :: st)) : MW l E cc own nL ret ini R mc ms res n c s σ pc L (.int i :: .ref k :: st) :=
  fun p e s0 m args below meth c0 H locs ls C X hl => va_cald (tys := mtys E) C.1 C.2.1 C.2.2.2.2.2.2.2.1.1 X.2.2.2.1 k 3 (by rw [mwd_at hk, mcel_arr hs]; rfl) rfl hi hd (kk p e s0 m args below meth c0 H locs ls C X hl)

theorem mw_aald {k N : Nat} {i : Int32} {v : Nat} (hd : decode cc pc = .ok (.aaload, 1)) (hk : k < n) (hs : mshp k = .inl (4, N)) (hi : vp_in i N) (hv : mmR σ k i.toNatClampNeg = some v) (kk : MW l E cc own nL ret ini R mc ms res n c s σ (pc + 1) L (.ref v :: st)) : MW l E cc own nL ret ini R mc ms res n c s σ pc L (.int i :: .ref k :: st) :=
  fun p e s0 m args below meth c0 H locs ls C X hl => va_aldq (tys := mtys E) C.1 C.2.1 C.2.2.2.2.2.2.2.1.1 X.2.2.2.1 k 4 (by rw [mwd_at hk, mcel_arr hs]; rfl) rfl hi hd (by show W _ _ _ _ _ _ _ _ _ _ _ _ _ _ _ (F0 _ _ _ (va_rf ((mmR σ k i.toNatClampNeg).map (mad E)) :: _)); rw [hv]; exact kk p e s0 m args below meth c0 H locs ls C X hl)

theorem mwd_sI0 {k N j : Nat} {v : Int32} (hk : k < n) (hs : mshp k = .inl (0, N)) : (mwd E n σ).set k (mad E k, .inl (E.2.1 0, N, .inl (upd (mmI σ k) j v))) = mwd E n (muI σ k j v) :=
  mwd_set hk ((mcel_arr hs).trans (congrArg (fun f => (Sum.inl (E.2.1 0, N, Sum.inl f) : va_E)) (mmI_upd σ k j v))) (fun a ha => mcel_uI ha)

theorem mwd_sI2 {k N j : Nat} {v : Int32} (hk : k < n) (hs : mshp k = .inl (2, N)) : (mwd E n σ).set k (mad E k, .inl (E.2.1 2, N, .inl (upd (mmI σ k) j v))) = mwd E n (muI σ k j v) :=
  mwd_set hk ((mcel_arr hs).trans (congrArg (fun f => (Sum.inl (E.2.1 2, N, Sum.inl f) : va_E)) (mmI_upd σ k j v))) (fun a ha => mcel_uI ha)

theorem mwd_sI3 {k N j : Nat} {v : Int32} (hk : k < n) (hs : mshp k = .inl (3, N)) : (mwd E n σ).set k (mad E k, .inl (E.2.1 3, N, .inl (upd (mmI σ k) j v))) = mwd E n (muI σ k j v) :=
  mwd_set hk ((mcel_arr hs).trans (congrArg (fun f => (Sum.inl (E.2.1 3, N, Sum.inl f) : va_E)) (mmI_upd σ k j v))) (fun a ha => mcel_uI ha)

theorem mwd_sL1 {k N j : Nat} {v : Int64} (hk : k < n) (hs : mshp k = .inl (1, N)) : (mwd E n σ).set k (mad E k, .inl (E.2.1 1, N, .inr (.inl (vp_updL (mmL σ k) j v)))) = mwd E n (muL σ k j v) :=
  mwd_set hk ((mcel_arr hs).trans (congrArg (fun f => (Sum.inl (E.2.1 1, N, Sum.inr (Sum.inl f)) : va_E)) (mmL_upd σ k j v))) (fun a ha => mcel_uL ha)
theorem mwd_cI0 {k0 k N sp dp z : Nat} (hk : k < n) (hs : mshp k = .inl (0, N)) : (mwd E n σ).set k (mad E k, .inl (E.2.1 0, N, .inl (va_cpy (mmI σ k0) (mmI σ k) sp dp z))) = mwd E n (mcpI σ k0 sp k dp z) :=
  mwd_set hk ((mcel_arr hs).trans (congrArg (fun f => (Sum.inl (E.2.1 0, N, Sum.inl f) : va_E)) (mmI_cp σ k0 sp k dp z))) (fun a ha => mcpI_cel ha)
theorem mwd_cL1 {k0 k N sp dp z : Nat} (hk : k < n) (hs : mshp k = .inl (1, N)) : (mwd E n σ).set k (mad E k, .inl (E.2.1 1, N, .inr (.inl (va_cpy (mmL σ k0) (mmL σ k) sp dp z)))) = mwd E n (mcpL σ k0 sp k dp z) :=
  mwd_set hk ((mcel_arr hs).trans (congrArg (fun f => (Sum.inl (E.2.1 1, N, Sum.inr (Sum.inl f)) : va_E)) (mmL_cp σ k0 sp k dp z))) (fun a ha => mcpL_cel ha)

theorem mw_iast {k N : Nat} {i : Int32} {x : Int32} (hd : decode cc pc = .ok (.iastore, 1)) (hk : k < n) (hs : mshp k = .inl (0, N)) (hi : vp_in i N) (kk : MW l E cc own nL ret ini R mc ms res n c s (muI σ k i.toNatClampNeg x) (pc + 1) L st) : MW l E cc own nL ret ini R mc ms res n c s σ pc L (.int x :: .int i :: .ref k :: st) :=
  fun p e s0 m args below meth c0 H locs ls C X hl => va_iast (tys := mtys E) C.1 C.2.1 C.2.2.2.2.2.2.2.1.1 X.2.2.2.1 (mwd_D X.1) X.2.2.1 k 0 (by rw [mwd_at hk, mcel_arr hs]; rfl) rfl hi hd (fun H1 locs1 hP _ hS => kk p e s0 m args below meth c0 H1 locs1 ls C ⟨X.1, X.2.1, hS, by rw [← mwd_sI0 hk hs]; exact hP, X.2.2.2.2⟩ hl)

theorem mw_last {k N : Nat} {i : Int32} {x : Int64} (hd : decode cc pc = .ok (.lastore, 1)) (hk : k < n) (hs : mshp k = .inl (1, N)) (hi : vp_in i N) (kk : MW l E cc own nL ret ini R mc ms res n c s (muL σ k i.toNatClampNeg x) (pc + 1) L st) : MW l E cc own nL ret ini R mc ms res n c s σ pc L (.long x :: .int i :: .ref k :: st) :=
  fun p e s0 m args below meth c0 H locs ls C X hl => va_last (tys := mtys E) C.1 C.2.1 C.2.2.2.2.2.2.2.1.1 X.2.2.2.1 (mwd_D X.1) X.2.2.1 k 1 (by rw [mwd_at hk, mcel_arr hs]; rfl) rfl hi hd (fun H1 locs1 hP _ hS => kk p e s0 m args below meth c0 H1 locs1 ls C ⟨X.1, X.2.1, hS, by rw [← mwd_sL1 hk hs]; exact hP, X.2.2.2.2⟩ hl)

theorem mw_zast {k N : Nat} {i : Int32} {x : Int32} (hd : decode cc pc = .ok (.bastore, 1)) (hk : k < n) (hs : mshp k = .inl (2, N)) (hi : vp_in i N) (kk : MW l E cc own nL ret ini R mc ms res n c s (muI σ k i.toNatClampNeg (vp_nar .boolean x)) (pc + 1) L st) : MW l E cc own nL ret ini R mc ms res n c s σ pc L (.int x :: .int i :: .ref k :: st) :=
  fun p e s0 m args below meth c0 H locs ls C X hl => va_zast (tys := mtys E) C.1 C.2.1 C.2.2.2.2.2.2.2.1.1 X.2.2.2.1 (mwd_D X.1) X.2.2.1 k 2 (by rw [mwd_at hk, mcel_arr hs]; rfl) rfl hi hd (fun H1 locs1 hP _ hS => kk p e s0 m args below meth c0 H1 locs1 ls C ⟨X.1, X.2.1, hS, by rw [← mwd_sI2 hk hs]; exact hP, X.2.2.2.2⟩ hl)

theorem mw_cast {k N : Nat} {i : Int32} {x : Int32} (hd : decode cc pc = .ok (.castore, 1)) (hk : k < n) (hs : mshp k = .inl (3, N)) (hi : vp_in i N) (kk : MW l E cc own nL ret ini R mc ms res n c s (muI σ k i.toNatClampNeg (vp_nar .char x)) (pc + 1) L st) : MW l E cc own nL ret ini R mc ms res n c s σ pc L (.int x :: .int i :: .ref k :: st) :=
  fun p e s0 m args below meth c0 H locs ls C X hl => va_cast (tys := mtys E) C.1 C.2.1 C.2.2.2.2.2.2.2.1.1 X.2.2.2.1 (mwd_D X.1) X.2.2.1 k 3 (by rw [mwd_at hk, mcel_arr hs]; rfl) rfl hi hd (fun H1 locs1 hP _ hS => kk p e s0 m args below meth c0 H1 locs1 ls C ⟨X.1, X.2.1, hS, by rw [← mwd_sI3 hk hs]; exact hP, X.2.2.2.2⟩ hl)

theorem mw_copyI {k0 k1 N0 N1 i0 : Nat} {sp dp z : Int32} (hd : decode cc pc = .ok (.invokestatic i0, 3)) (hw1 : Cond.methodLink own i0 arraycopyName ∈ mWT) (hw2 : Cond.native arraycopyName ∈ mWT) (hw3 : Cond.static arraycopyName ∈ mWT) (hw4 : Cond.initialized "java/lang/System" ∈ mWT) (hk0 : k0 < n) (hk1 : k1 < n) (hs0 : mshp k0 = .inl (0, N0)) (hs1 : mshp k1 = .inl (0, N1)) (h1 : ¬ sp < 0) (h2 : ¬ dp < 0) (h3 : ¬ z < 0) (h4 : sp.toNatClampNeg + z.toNatClampNeg ≤ N0) (h5 : dp.toNatClampNeg + z.toNatClampNeg ≤ N1) (hR : 1 ≤ R.frames) (hR2 : (st.map fun v => v.category).sum + (nativeFrameWords "java/lang/System" "arraycopy" 5 + 11) ≤ R.locals) (kk : MW l E cc own nL ret ini R mc ms res n c s (mcpI σ k0 sp.toNatClampNeg k1 dp.toNatClampNeg z.toNatClampNeg) (pc + 3) L st) : MW l E cc own nL ret ini R mc ms res n c s σ pc L (.int z :: .int dp :: .ref k1 :: .int sp :: .ref k0 :: st) :=
  fun p e s0 m args below meth c0 H locs ls C X hl => va_copyi (tys := mtys E) C.1 C.2.1 (C.2.2.2.1.trans hl.1.symm) C.2.2.2.2.2.1 (C.2.2.2.2.1 _ hw1) (C.2.2.2.2.1 _ hw2) (C.2.2.2.2.1 _ hw3) (C.2.2.2.2.1 _ hw4) C.2.2.2.2.2.2.2.1.1 X.2.2.2.1 (mwd_D X.1) X.2.2.1 k0 k1 0 0 (ty := .int) (by rw [mwd_at hk0, mcel_arr hs0]; rfl) (by rw [mwd_at hk1, mcel_arr hs1]; rfl) rfl rfl rfl h1 h2 h3 h4 h5 (fun _ _ => rfl) hR (by rw [mcatsum]; exact hR2) hd (fun H1 locs1 hP _ hS => kk p e s0 m args below meth c0 H1 locs1 ls C ⟨X.1, X.2.1, hS, by rw [← mwd_cI0 hk1 hs1]; exact hP, X.2.2.2.2⟩ hl)

theorem mw_copyL {k0 k1 N0 N1 i0 : Nat} {sp dp z : Int32} (hd : decode cc pc = .ok (.invokestatic i0, 3)) (hw1 : Cond.methodLink own i0 arraycopyName ∈ mWT) (hw2 : Cond.native arraycopyName ∈ mWT) (hw3 : Cond.static arraycopyName ∈ mWT) (hw4 : Cond.initialized "java/lang/System" ∈ mWT) (hk0 : k0 < n) (hk1 : k1 < n) (hs0 : mshp k0 = .inl (1, N0)) (hs1 : mshp k1 = .inl (1, N1)) (h1 : ¬ sp < 0) (h2 : ¬ dp < 0) (h3 : ¬ z < 0) (h4 : sp.toNatClampNeg + z.toNatClampNeg ≤ N0) (h5 : dp.toNatClampNeg + z.toNatClampNeg ≤ N1) (hR : 1 ≤ R.frames) (hR2 : (st.map fun v => v.category).sum + (nativeFrameWords "java/lang/System" "arraycopy" 5 + 11) ≤ R.locals) (kk : MW l E cc own nL ret ini R mc ms res n c s (mcpL σ k0 sp.toNatClampNeg k1 dp.toNatClampNeg z.toNatClampNeg) (pc + 3) L st) : MW l E cc own nL ret ini R mc ms res n c s σ pc L (.int z :: .int dp :: .ref k1 :: .int sp :: .ref k0 :: st) :=
  fun p e s0 m args below meth c0 H locs ls C X hl => va_copyl (tys := mtys E) C.1 C.2.1 (C.2.2.2.1.trans hl.1.symm) C.2.2.2.2.2.1 (C.2.2.2.2.1 _ hw1) (C.2.2.2.2.1 _ hw2) (C.2.2.2.2.1 _ hw3) (C.2.2.2.2.1 _ hw4) C.2.2.2.2.2.2.2.1.1 X.2.2.2.1 (mwd_D X.1) X.2.2.1 k0 k1 1 1 (ty := .long) (by rw [mwd_at hk0, mcel_arr hs0]; rfl) (by rw [mwd_at hk1, mcel_arr hs1]; rfl) rfl rfl rfl h1 h2 h3 h4 h5 (fun _ _ => rfl) hR (by rw [mcatsum]; exact hR2) hd (fun H1 locs1 hP _ hS => kk p e s0 m args below meth c0 H1 locs1 ls C ⟨X.1, X.2.1, hS, by rw [← mwd_cL1 hk1 hs1]; exact hP, X.2.2.2.2⟩ hl)

theorem mret_q {E : MX} {n c : Nat} {σ : MSt} {s : State} {H : Heap} {locs : List Loc} {r : Option Value} {args : Array Value} (X : MHx E n c σ s H locs) (hz : H.size = E.2.2.1 + n) (t : State) (ht : t.heap = H) : MQc E (n, r, σ) args s (.returned (r.map (mtv E))) t :=
  ⟨rfl, by rw [ht]; exact X.2.2.2.1, by rw [ht]; exact hz, by rw [ht]; exact X.2.2.1.1, fun q h1 h2 => by rw [ht]; exact X.2.2.1.2.1 q h1 h2⟩
theorem mw_iret {x : Int32} (hd : decode cc pc = .ok (.ireturn, 1)) (hr : ret = some .int) (hres : res = (n, some (.int x), σ)) (hc : c = mc) (hs : s = ms) : MW l E cc own nL ret ini R mc ms res n c s σ pc L [.int x] := by
  intro p e s0 m args below meth c0 H locs ls C X hl
  subst hres; subst hc; subst hs
  exact X.size (fun hz => W.iret (hlocks := C.2.2.2.2.2.2.1) C.1 C.2.1 (C.2.2.1.trans hr) (fun t ht _ => mret_q X hz t ht) X.2.2.1.2.2 hd)
theorem mw_zret {x : Int32} (hd : decode cc pc = .ok (.ireturn, 1)) (hr : ret = some .boolean) (hx : x = 0 ∨ x = 1) (hres : res = (n, some (.int x), σ)) (hc : c = mc) (hs : s = ms) : MW l E cc own nL ret ini R mc ms res n c s σ pc L [.int x] := by
  intro p e s0 m args below meth c0 H locs ls C X hl
  subst hres; subst hc; subst hs
  exact X.size (fun hz => W.zret (hlocks := C.2.2.2.2.2.2.1) C.1 C.2.1 (C.2.2.1.trans hr) (mb01 hx).1 (fun t ht _ => mret_q X hz t ht) X.2.2.1.2.2 hd)
theorem mw_cret {x : Int32} (hd : decode cc pc = .ok (.ireturn, 1)) {ty : FieldType} (hr : ret = some ty) (hx : narrow ty (.int x) = .int x) (hres : res = (n, some (.int x), σ)) (hc : c = mc) (hs : s = ms) : MW l E cc own nL ret ini R mc ms res n c s σ pc L [.int x] := by
  intro p e s0 m args below meth c0 H locs ls C X hl
  subst hres; subst hc; subst hs
  exact X.size (fun hz => W.zret (hlocks := C.2.2.2.2.2.2.1) C.1 C.2.1 (C.2.2.1.trans hr) hx (fun t ht _ => mret_q X hz t ht) X.2.2.1.2.2 hd)
theorem mw_lret {x : Int64} (hd : decode cc pc = .ok (.lreturn, 1)) (hr : ret = some .long) (hres : res = (n, some (.long x), σ)) (hc : c = mc) (hs : s = ms) : MW l E cc own nL ret ini R mc ms res n c s σ pc L [.long x] := by
  intro p e s0 m args below meth c0 H locs ls C X hl
  subst hres; subst hc; subst hs
  exact X.size (fun hz => W.lret (hlocks := C.2.2.2.2.2.2.1) C.1 C.2.1 (C.2.2.1.trans hr) (fun t ht _ => mret_q X hz t ht) X.2.2.1.2.2 hd)
theorem mw_vret (hd : decode cc pc = .ok (.return_, 1)) (hr : ret = none) (hres : res = (n, none, σ)) (hc : c = mc) (hs : s = ms) : MW l E cc own nL ret ini R mc ms res n c s σ pc L [] := by
  intro p e s0 m args below meth c0 H locs ls C X hl
  subst hres; subst hc; subst hs
  exact X.size (fun hz => W.vret (hlocks := C.2.2.2.2.2.2.1) C.1 C.2.1 (C.2.2.1.trans hr) (fun t ht _ => mret_q X hz t ht) X.2.2.1.2.2 hd)
theorem mw_sub (qs : List Nat) (hL : lv_pick L qs = L') (k : MW l E cc own nL ret ini R mc ms res n c s σ pc L' st) : MW l E cc own nL ret ini R mc ms res n c s σ pc L st :=
  fun p e s0 m args below meth c0 H locs ls C X hl => k p e s0 m args below meth c0 H locs ls C X (lv_sub hl qs (by rw [← hL]; exact mtl_pick E L qs))

theorem mw_entry {y : MethodName} {args : List Value} (hy : plainName y.cls = true) (ho : y.cls = own) (hi : ini = true → y.name = "<init>") (hL : lv_args 0 args = L) (hn : (lg_sl args).length ≤ nL) (hn1 : n ≤ 1000) (k : ∀ E : MX, MW l E cc own nL ret ini R mc ms res n 0 0 σ 0 L []) : MCt l y cc nL ret R args n σ mc ms res := by
  intro E
  refine Met.ofW (cc := cc) (maxL := nL) (ret := ret) hy rfl ?_
  intro p e s m av below meth c s₁ B hml hv
  obtain ⟨hv0, -, hP, hz, hC⟩ := hv
  subst hv0
  have hl := lv_entry (args.map (mtv E)) (n := nL) (by rw [mlg_len]; exact hn)
  rw [lg_entry_eq]
  generalize (lg_sl (args.map (mtv E)) ++ List.replicate (nL - (lg_sl (args.map (mtv E))).length) Slot.unset).toArray = ls at hl ⊢
  have hts := atoms_spec (ws := Cond.code y cc nL ret :: mWT) B.pre
  refine k E p e s m _ below meth c s.heap [] ls ⟨B.exec, B.bytes, B.returns, hml, fun w hw => hts w (List.mem_cons_of_mem _ hw), by rw [← ho]; exact findClass_of_methodNamed B.named, B.notSynchronized, hC, fun h => (name_of_methodNamed B.named B.method).1.trans (hi h)⟩ ⟨hn1, by omega, va_S.rf, hP, by omega⟩ ?_
  rw [← hL, mtl_args]
  exact hl

theorem mw_entryF {y : MethodName} {args : List Value} (hy : plainFor y = true) (ho : y.cls = own) (hi : ini = true → y.name = "<init>") (hL : lv_args 0 args = L) (hn : (lg_sl args).length ≤ nL) (hn1 : n ≤ 1000) (k : ∀ E : MX, MW l E cc own nL ret ini R mc ms res n 0 0 σ 0 L []) : MCt l y cc nL ret R args n σ mc ms res := by
  intro E
  refine va_MetF (cc := cc) (maxL := nL) (ret := ret) hy rfl ?_
  intro p e s m av below meth c s₁ B hml hv
  obtain ⟨hv0, -, hP, hz, hC⟩ := hv
  subst hv0
  have hl := lv_entry (args.map (mtv E)) (n := nL) (by rw [mlg_len]; exact hn)
  rw [lg_entry_eq]
  generalize (lg_sl (args.map (mtv E)) ++ List.replicate (nL - (lg_sl (args.map (mtv E))).length) Slot.unset).toArray = ls at hl ⊢
  have hts := atoms_spec (ws := Cond.code y cc nL ret :: mWT) B.pre
  refine k E p e s m _ below meth c s.heap [] ls ⟨B.exec, B.bytes, B.returns, hml, fun w hw => hts w (List.mem_cons_of_mem _ hw), by rw [← ho]; exact findClass_of_methodNamed B.named, B.notSynchronized, hC, fun h => (name_of_methodNamed B.named B.method).1.trans (hi h)⟩ ⟨hn1, by omega, va_S.rf, hP, by omega⟩ ?_
  rw [← hL, mtl_args]
  exact hl

theorem mw_callV {y : MethodName} {bytes1 : ByteArray} {maxL1 mc1 ms1 na i0 : Nat} {ret1 : Option FieldType} {rm1 : Room} {As : List Value} {res1 : Nat × Option Value × MSt} {b ci : Nat} {q : vw_C} {st0 : List Value} (hw : MLv own i0 q.1 y bytes1 maxL1 ret1 na) (hd : decode cc pc = .ok (.invokevirtual i0, 3)) (hM : MCt l y bytes1 maxL1 ret1 rm1 (.ref b :: As) n σ mc1 ms1 res1) (hna : As.length = na) (hb : b < n) (hs : mshp b = .inr ci) (hcl : vwCl[ci]? = some q) (hst : (As.reverse ++ .ref b :: st) = st0) (hcs : (st.map fun v => v.category).sum ≤ 8) (hR : rm1.frames + 1 ≤ R.frames ∧ 8 + (maxL1 + 11) + rm1.locals ≤ R.locals) (hrc : rm1.cells = mc1) (hrs : rm1.slots = ms1) (hn : res1.1 = n + mc1) (hn2 : res1.1 ≤ 1000) (hf : c + mc1 ≤ R.cells ∧ s + ms1 ≤ R.slots) (kk : MW l E cc own nL ret ini R mc ms res res1.1 (c + mc1) (s + ms1) res1.2.2 (pc + 3) L (res1.2.1.toList ++ st)) : MW l E cc own nL ret ini R mc ms res n c s σ pc L st0 := by
  intro p e s0 m args below meth c0 H locs ls C X hl
  subst hst
  refine X.size (fun hz => ?_)
  refine mrun X hz hn hn2 (va_runV (As := As.map (mtv E)) (rest := st.map (mtv E)) ⟨C.1, C.2.1, C.2.2.2.1, C.2.2.2.2.2.1, C.2.2.2.2.1⟩ (hM E) (cwV na C.2.2.2.2.1 hw.g rfl hrc hrs hw.2.2.2.2.2 hR) (let P := mpre X hz C.2.2.2.2.2.2.2.1 (.ref b :: As); ⟨P.1, mrecv X C.2.2.2.2.2.2.2.1 hb hs hcl, P.2⟩) rfl (by rw [List.length_map]; exact hna) hl.1 (by simp [F0, mtv]) (lv_room (by rw [mcatsum]; exact hcs)) hd hf) (fun H1 locs1 X1 => ?_)
  have := kk p e s0 m args below meth c0 H1 locs1 ls C X1 hl
  rw [List.map_append, moptl] at this
  exact this

theorem mw_callU {y : MethodName} {bytes1 : ByteArray} {maxL1 mc1 ms1 na i0 : Nat} {ret1 : Option FieldType} {rm1 : Room} {As : List Value} {res1 : Nat × Option Value × MSt} {b ci : Nat} {q : vw_C} {st0 : List Value} {x : MethodName} {owner : String} (hw : MLu own i0 q.1 owner x y bytes1 maxL1 ret1 na) (hyx : y = ⟨owner, x.name, x.desc⟩) (hd : decode cc pc = .ok (.invokevirtual i0, 3)) (hM : MCt l y bytes1 maxL1 ret1 rm1 (.ref b :: As) n σ mc1 ms1 res1) (hna : As.length = na) (hb : b < n) (hs : mshp b = .inr ci) (hcl : vwCl[ci]? = some q) (hst : (As.reverse ++ .ref b :: st) = st0) (hcs : (st.map fun v => v.category).sum ≤ 8) (hR : rm1.frames + 1 ≤ R.frames ∧ 8 + (maxL1 + 11) + rm1.locals ≤ R.locals) (hrc : rm1.cells = mc1) (hrs : rm1.slots = ms1) (hn : res1.1 = n + mc1) (hn2 : res1.1 ≤ 1000) (hf : c + mc1 ≤ R.cells ∧ s + ms1 ≤ R.slots) (kk : MW l E cc own nL ret ini R mc ms res res1.1 (c + mc1) (s + ms1) res1.2.2 (pc + 3) L (res1.2.1.toList ++ st)) : MW l E cc own nL ret ini R mc ms res n c s σ pc L st0 := by
  intro p e s0 m args below meth c0 H locs ls C X hl
  subst hst
  refine X.size (fun hz => ?_)
  refine mrun X hz hn hn2 (va_runU (As := As.map (mtv E)) (rest := st.map (mtv E)) ⟨C.1, C.2.1, C.2.2.2.1, C.2.2.2.2.2.1, C.2.2.2.2.1⟩ (hM E) (va_cwU na C.2.2.2.2.1 hw.g rfl hrc hrs hyx hw.2.2.2.2.2.2 hR) (let P := mpre X hz C.2.2.2.2.2.2.2.1 (.ref b :: As); ⟨P.1, mrecv X C.2.2.2.2.2.2.2.1 hb hs hcl, P.2⟩) rfl (by rw [List.length_map]; exact hna) hl.1 (by simp [F0, mtv]) (lv_room (by rw [mcatsum]; exact hcs)) hd hf) (fun H1 locs1 X1 => ?_)
  have := kk p e s0 m args below meth c0 H1 locs1 ls C X1 hl
  rw [List.map_append, moptl] at this
  exact this

theorem mw_callA {y : MethodName} {bytes1 : ByteArray} {maxL1 mc1 ms1 na i0 : Nat} {ret1 : Option FieldType} {rm1 : Room} {As : List Value} {res1 : Nat × Option Value × MSt} {b ci : Nat} {q : vw_C} {st0 : List Value} (hw : MLu own i0 q.1 "RoundsPerHour$Climb" ⟨"RoundsPerHour$Climb", "pick", "()I"⟩ y bytes1 maxL1 ret1 na) (hd : decode cc pc = .ok (.invokevirtual i0, 3)) (hM : MCt l y bytes1 maxL1 ret1 rm1 (.ref b :: As) n σ mc1 ms1 res1) (hna : As.length = na) (hb : b < n) (hs : mshp b = .inr ci) (hcl : vwCl[ci]? = some q) (hst : (As.reverse ++ .ref b :: st) = st0) (hcs : (st.map fun v => v.category).sum ≤ 8) (hR : rm1.frames + 1 ≤ R.frames ∧ 8 + (maxL1 + 11) + rm1.locals ≤ R.locals) (hrc : rm1.cells = mc1) (hrs : rm1.slots = ms1) (hn : res1.1 = n + mc1) (hn2 : res1.1 ≤ 1000) (hf : c + mc1 ≤ R.cells ∧ s + ms1 ≤ R.slots) (kk : MW l E cc own nL ret ini R mc ms res res1.1 (c + mc1) (s + ms1) res1.2.2 (pc + 3) L (res1.2.1.toList ++ st)) : MW l E cc own nL ret ini R mc ms res n c s σ pc L st0 := by
  intro p e s0 m args below meth c0 H locs ls C X hl
  subst hst
  refine X.size (fun hz => ?_)
  refine mrun X hz hn hn2 (va_runU (As := As.map (mtv E)) (rest := st.map (mtv E)) ⟨C.1, C.2.1, C.2.2.2.1, C.2.2.2.2.2.1, C.2.2.2.2.1⟩ (hM E) (va_cwA na C.2.2.2.2.1 hw.g rfl hrc hrs C.2.2.2.2.2.2.2.1.2.2.1 hw.2.2.2.2.2.2 hR) (let P := mpre X hz C.2.2.2.2.2.2.2.1 (.ref b :: As); ⟨P.1, mrecv X C.2.2.2.2.2.2.2.1 hb hs hcl, P.2⟩) rfl (by rw [List.length_map]; exact hna) hl.1 (by simp [F0, mtv]) (lv_room (by rw [mcatsum]; exact hcs)) hd hf) (fun H1 locs1 X1 => ?_)
  have := kk p e s0 m args below meth c0 H1 locs1 ls C X1 hl
  rw [List.map_append, moptl] at this
  exact this

theorem mw_callS {y : MethodName} {bytes1 : ByteArray} {maxL1 mc1 ms1 na i0 : Nat} {ret1 : Option FieldType} {rm1 : Room} {As : List Value} {res1 : Nat × Option Value × MSt} {st0 : List Value} (hw : MLs own i0 y bytes1 maxL1 ret1 na) (hd : decode cc pc = .ok (.invokestatic i0, 3)) (hM : MCt l y bytes1 maxL1 ret1 rm1 As n σ mc1 ms1 res1) (hna : As.length = na) (hst : (As.reverse ++ st) = st0) (hcs : (st.map fun v => v.category).sum ≤ 8) (hR : rm1.frames + 1 ≤ R.frames ∧ 8 + (maxL1 + 11) + rm1.locals ≤ R.locals) (hrc : rm1.cells = mc1) (hrs : rm1.slots = ms1) (hn : res1.1 = n + mc1) (hn2 : res1.1 ≤ 1000) (hf : c + mc1 ≤ R.cells ∧ s + ms1 ≤ R.slots) (kk : MW l E cc own nL ret ini R mc ms res res1.1 (c + mc1) (s + ms1) res1.2.2 (pc + 3) L (res1.2.1.toList ++ st)) : MW l E cc own nL ret ini R mc ms res n c s σ pc L st0 := by
  intro p e s0 m args below meth c0 H locs ls C X hl
  subst hst
  refine X.size (fun hz => ?_)
  refine mrun X hz hn hn2 (va_runS (As := As.map (mtv E)) (rest := st.map (mtv E)) ⟨C.1, C.2.1, C.2.2.2.1, C.2.2.2.2.2.1, C.2.2.2.2.1⟩ (hM E) (va_cwS na C.2.2.2.2.1 hw.g rfl hrc hrs hw.2.2.2.2 hR) (mpre X hz C.2.2.2.2.2.2.2.1 As) rfl (by rw [List.length_map]; exact hna) hl.1 (by simp [F0, mtv]) (lv_room (by rw [mcatsum]; exact hcs)) hd hf) (fun H1 locs1 X1 => ?_)
  have := kk p e s0 m args below meth c0 H1 locs1 ls C X1 hl
  rw [List.map_append, moptl] at this
  exact this

theorem mw_callSN {y : MethodName} {bytes1 : ByteArray} {maxL1 mc1 ms1 na i0 : Nat} {ret1 : Option FieldType} {rm1 : Room} {As : List Value} {res1 : Nat × Option Value × MSt} {st0 : List Value} {host : String} (hw : MLn own i0 host y bytes1 maxL1 ret1 na) (hd : decode cc pc = .ok (.invokestatic i0, 3)) (hM : MCt l y bytes1 maxL1 ret1 rm1 As n σ mc1 ms1 res1) (hna : As.length = na) (hst : (As.reverse ++ st) = st0) (hcs : (st.map fun v => v.category).sum ≤ 8) (hR : rm1.frames + 1 ≤ R.frames ∧ 8 + (maxL1 + 11) + rm1.locals ≤ R.locals) (hrc : rm1.cells = mc1) (hrs : rm1.slots = ms1) (hn : res1.1 = n + mc1) (hn2 : res1.1 ≤ 1000) (hf : c + mc1 ≤ R.cells ∧ s + ms1 ≤ R.slots) (kk : MW l E cc own nL ret ini R mc ms res res1.1 (c + mc1) (s + ms1) res1.2.2 (pc + 3) L (res1.2.1.toList ++ st)) : MW l E cc own nL ret ini R mc ms res n c s σ pc L st0 := by
  intro p e s0 m args below meth c0 H locs ls C X hl
  subst hst
  refine X.size (fun hz => ?_)
  refine mrun X hz hn hn2 (va_runSN (As := As.map (mtv E)) (rest := st.map (mtv E)) ⟨C.1, C.2.1, C.2.2.2.1, C.2.2.2.2.2.1, C.2.2.2.2.1⟩ (hM E) (⟨va_cnB na C.2.2.2.2.1 (mwt_good (mwt_cons hw.1)) rfl hrc hrs (C.2.2.2.2.2.2.2.1.2.1 (own, i0, y, host) hw.2.1) (C.2.2.2.2.1 _ hw.2.2.2.1) hw.2.2.2.2 hR, C.2.2.2.2.1 _ hw.2.2.1, trivial⟩) (mpre X hz C.2.2.2.2.2.2.2.1 As) rfl (by rw [List.length_map]; exact hna) hl.1 (by simp [F0, mtv]) (lv_room (by rw [mcatsum]; exact hcs)) hd hf) (fun H1 locs1 X1 => ?_)
  have := kk p e s0 m args below meth c0 H1 locs1 ls C X1 hl
  rw [List.map_append, moptl] at this
  exact this

theorem mw_callI {y : MethodName} {bytes1 : ByteArray} {maxL1 mc1 ms1 na i0 : Nat} {ret1 : Option FieldType} {rm1 : Room} {As : List Value} {res1 : Nat × Option Value × MSt} {b : Nat} {st0 : List Value} (hw : MLi own i0 y bytes1 maxL1 none na) (hr1 : ret1 = none) (hd : decode cc pc = .ok (.invokespecial i0, 3)) (hM : MCt l y bytes1 maxL1 ret1 rm1 (.ref b :: As) n σ mc1 ms1 res1) (hna : As.length = na) (hst : (As.reverse ++ .ref b :: st) = st0) (hcs : (st.map fun v => v.category).sum ≤ 8) (hR : rm1.frames + 1 ≤ R.frames ∧ 8 + (maxL1 + 11) + rm1.locals ≤ R.locals) (hrc : rm1.cells = mc1) (hrs : rm1.slots = ms1) (hn : res1.1 = n + mc1) (hn2 : res1.1 ≤ 1000) (hf : c + mc1 ≤ R.cells ∧ s + ms1 ≤ R.slots) (kk : MW l E cc own nL ret ini R mc ms res res1.1 (c + mc1) (s + ms1) res1.2.2 (pc + 3) L (res1.2.1.toList ++ st)) : MW l E cc own nL ret ini R mc ms res n c s σ pc L st0 := by
  intro p e s0 m args below meth c0 H locs ls C X hl
  subst hst; subst hr1
  refine X.size (fun hz => ?_)
  refine mrun X hz hn hn2 (va_runI (As := As.map (mtv E)) (rest := st.map (mtv E)) ⟨C.1, C.2.1, C.2.2.2.1, C.2.2.2.2.2.1, C.2.2.2.2.1⟩ (hM E) (cwI na C.2.2.2.2.1 (mwt_good (mwt_cons hw.1)) rfl hrc hrs (C.2.2.2.2.1 _ hw.2.2.2.1) (C.2.2.2.2.1 _ hw.2.1) (C.2.2.2.2.1 _ hw.2.2.1) hw.2.2.2.2.1 hw.2.2.2.2.2 hR) (mpre X hz C.2.2.2.2.2.2.2.1 (.ref b :: As)) rfl (by rw [List.length_map]; exact hna) hl.1 (by simp [F0, mtv]) (lv_room (by rw [mcatsum]; exact hcs)) hd hf) (fun H1 locs1 X1 => ?_)
  have := kk p e s0 m args below meth c0 H1 locs1 ls C X1 hl
  rw [List.map_append, moptl] at this
  exact this

theorem mw_callIN {y : MethodName} {bytes1 : ByteArray} {maxL1 mc1 ms1 na i0 : Nat} {ret1 : Option FieldType} {rm1 : Room} {As : List Value} {res1 : Nat × Option Value × MSt} {b : Nat} {st0 : List Value} {host : String} (hw : MLj own i0 host y bytes1 maxL1 none na) (hr1 : ret1 = none) (hd : decode cc pc = .ok (.invokespecial i0, 3)) (hM : MCt l y bytes1 maxL1 ret1 rm1 (.ref b :: As) n σ mc1 ms1 res1) (hna : As.length = na) (hst : (As.reverse ++ .ref b :: st) = st0) (hcs : (st.map fun v => v.category).sum ≤ 8) (hR : rm1.frames + 1 ≤ R.frames ∧ 8 + (maxL1 + 11) + rm1.locals ≤ R.locals) (hrc : rm1.cells = mc1) (hrs : rm1.slots = ms1) (hn : res1.1 = n + mc1) (hn2 : res1.1 ≤ 1000) (hf : c + mc1 ≤ R.cells ∧ s + ms1 ≤ R.slots) (kk : MW l E cc own nL ret ini R mc ms res res1.1 (c + mc1) (s + ms1) res1.2.2 (pc + 3) L (res1.2.1.toList ++ st)) : MW l E cc own nL ret ini R mc ms res n c s σ pc L st0 := by
  intro p e s0 m args below meth c0 H locs ls C X hl
  subst hst; subst hr1
  refine X.size (fun hz => ?_)
  refine mrun X hz hn hn2 (va_runIN (As := As.map (mtv E)) (rest := st.map (mtv E)) ⟨C.1, C.2.1, C.2.2.2.1, C.2.2.2.2.2.1, C.2.2.2.2.1⟩ (hM E) (⟨va_cnB na C.2.2.2.2.1 (mwt_good (mwt_cons hw.1)) rfl hrc hrs (C.2.2.2.2.2.2.2.1.2.1 (own, i0, y, host) hw.2.1) (C.2.2.2.2.1 _ hw.2.2.2.1) hw.2.2.2.2.2 hR, hw.2.2.2.2.1, C.2.2.2.2.1 _ hw.2.2.1⟩) (mpre X hz C.2.2.2.2.2.2.2.1 (.ref b :: As)) rfl (by rw [List.length_map]; exact hna) hl.1 (by simp [F0, mtv]) (lv_room (by rw [mcatsum]; exact hcs)) hd hf) (fun H1 locs1 X1 => ?_)
  have := kk p e s0 m args below meth c0 H1 locs1 ls C X1 hl
  rw [List.map_append, moptl] at this
  exact this

end MRules
end
section
/-! ===== the rows as methods use them: 82 cells are there, nothing is made; checks as Booleans ===== -/
def mN : Nat := 340282366920938463463374607431768211456
def mrm (d : Nat) : Room := { frames := d, cells := 0, slots := 0, locals := 64 * d }
theorem mrm_ok {d e m : Nat} (h : d + 1 ≤ e) (hm : m ≤ 45) : (mrm d).frames + 1 ≤ (mrm e).frames ∧ 8 + (m + 11) + (mrm d).locals ≤ (mrm e).locals := by
  simp only [mrm]
  omega
abbrev MV (l : Launch) (E : MX) (cc : ByteArray) (own : String) (nL : Nat) (ret : Option FieldType) (d : Nat) (res : Nat × Option Value × MSt) (σ : MSt) (pc : Nat) (L : List (Nat × Value)) (st : List Value) : Prop := MW l E cc own nL ret false (mrm d) 0 0 res 82 0 0 σ pc L st
abbrev MK (l : Launch) (y : MethodName) (cc : ByteArray) (nL : Nat) (ret : Option FieldType) (d : Nat) (args : List Value) (σ : MSt) (r : Option Value) (σ' : MSt) : Prop := MCt l y cc nL ret (mrm d) args 82 σ 0 0 (82, r, σ')
def mob (ci k : Nat) : Bool := decide (k < 82) && (match mshp k with
  | .inr c => c == ci
  | .inl _ => false)
def mib (i : Int32) (N : Nat) : Bool := !decide (i < 0) && decide (i.toNatClampNeg < N)
def mix (t k : Nat) (i : Int32) : Bool := decide (k < 82) && (match mshp k with
  | .inl q => q.1 == t && mib i q.2
  | .inr _ => false)
def mar (k : Nat) : Bool := decide (k < 82) && (match mshp k with
  | .inl q => decide (q.1 < 5)
  | .inr _ => false)
def mlen (k : Nat) : Nat := match mshp k with
  | .inl q => q.2
  | .inr _ => 0
def mcpk (t k0 k1 : Nat) (sp dp z : Int32) : Bool := decide (k0 < 82) && decide (k1 < 82) && (match mshp k0, mshp k1 with
  | .inl q0, .inl q1 => q0.1 == t && q1.1 == t && !decide (sp < 0) && !decide (dp < 0) && !decide (z < 0) && decide (sp.toNatClampNeg + z.toNatClampNeg ≤ q0.2) && decide (dp.toNatClampNeg + z.toNatClampNeg ≤ q1.2)
  | _, _ => false)
theorem mob1 {ci k : Nat} (h : mob ci k = true) : k < 82 := by
  simp only [mob, Bool.and_eq_true, decide_eq_true_eq] at h
  exact h.1
theorem mob2 {ci k : Nat} (h : mob ci k = true) : mshp k = .inr ci := by
  simp only [mob, Bool.and_eq_true] at h
  cases e : mshp k with
  | inl q => rw [e] at h; exact absurd h.2 (by simp)
  | inr c => rw [e] at h; rw [eq_of_beq h.2]
theorem mib1 {i : Int32} {N : Nat} (h : mib i N = true) : vp_in i N := by
  simp only [mib, Bool.and_eq_true, Bool.not_eq_true', decide_eq_false_iff_not, decide_eq_true_eq] at h
  exact fun q => q.elim h.1 (fun z => absurd h.2 (by omega))
theorem mix1 {t k : Nat} {i : Int32} (h : mix t k i = true) : ∃ N, k < 82 ∧ mshp k = .inl (t, N) ∧ vp_in i N := by
  simp only [mix, Bool.and_eq_true, decide_eq_true_eq] at h
  obtain ⟨h1, h2⟩ := h
  cases e : mshp k with
  | inr c => rw [e] at h2; exact absurd h2 (by simp)
  | inl q =>
    rw [e] at h2
    simp only [Bool.and_eq_true] at h2
    obtain ⟨q1, q2⟩ := q
    have := eq_of_beq h2.1
    simp only at this
    subst this
    exact ⟨q2, h1, rfl, mib1 h2.2⟩
theorem mar1 {k : Nat} (h : mar k = true) : ∃ t N, t < 5 ∧ k < 82 ∧ mshp k = .inl (t, N) ∧ mlen k = N := by
  simp only [mar, Bool.and_eq_true, decide_eq_true_eq] at h
  obtain ⟨h1, h2⟩ := h
  cases e : mshp k with
  | inr c => rw [e] at h2; exact absurd h2 (by simp)
  | inl q =>
    rw [e] at h2
    exact ⟨q.1, q.2, of_decide_eq_true h2, h1, rfl, by simp only [mlen, e]⟩
theorem mcpk1 {t k0 k1 : Nat} {sp dp z : Int32} (h : mcpk t k0 k1 sp dp z = true) : ∃ N0 N1, k0 < 82 ∧ k1 < 82 ∧ mshp k0 = .inl (t, N0) ∧ mshp k1 = .inl (t, N1) ∧ ¬ sp < 0 ∧ ¬ dp < 0 ∧ ¬ z < 0 ∧ sp.toNatClampNeg + z.toNatClampNeg ≤ N0 ∧ dp.toNatClampNeg + z.toNatClampNeg ≤ N1 := by
  simp only [mcpk, Bool.and_eq_true, decide_eq_true_eq] at h
  obtain ⟨⟨h1, h2⟩, h3⟩ := h
  cases e : mshp k0 with
  | inr c => rw [e] at h3; exact absurd h3 (by simp)
  | inl q =>
    cases e1 : mshp k1 with
    | inr c => rw [e, e1] at h3; exact absurd h3 (by simp)
    | inl q1 =>
      rw [e, e1] at h3
      obtain ⟨a0, b0⟩ := q
      obtain ⟨a1, b1⟩ := q1
      simp only [Bool.and_eq_true, beq_iff_eq, Bool.not_eq_true', decide_eq_false_iff_not, decide_eq_true_eq] at h3
      obtain ⟨⟨⟨⟨⟨⟨g1, g2⟩, g3⟩, g4⟩, g5⟩, g6⟩, g7⟩ := h3
      subst g1; subst g2
      exact ⟨b0, b1, h1, h2, rfl, rfl, g3, g4, g5, g6, g7⟩
theorem mbd {α β : Type} {x : Option α} {f : α → Option β} {r : β} (h : x.bind f = some r) : ∃ a, x = some a ∧ f a = some r := by
  cases x with
  | none => cases h
  | some a => exact ⟨a, rfl, h⟩
theorem mit {α : Type} {c : Prop} [Decidable c] {A B r : α} (hc : c) (h : (if c then A else B) = r) : A = r := by rwa [if_pos hc] at h
theorem mie {α : Type} {c : Prop} [Decidable c] {A B r : α} (hc : ¬ c) (h : (if c then A else B) = r) : B = r := by rwa [if_neg hc] at h
theorem mif {α : Type} {c : Prop} [Decidable c] {A : Option α} {r : α} (h : (if c then A else none) = some r) : c ∧ A = some r := by
  by_cases hc : c
  · exact ⟨hc, mit hc h⟩
  · exact absurd (mie hc h) (by simp)
theorem mnf {α : Type} {c : Prop} [Decidable c] {A : Option α} {r : α} (h : (if c then none else A) = some r) : ¬ c ∧ A = some r := by
  by_cases hc : c
  · exact absurd (mit hc h) (by simp)
  · exact ⟨hc, mie hc h⟩
theorem mrs_i {x out : Int32} {σ : MSt} (h : some x = some out) : ((82, some (.int out), σ) : Nat × Option Value × MSt) = (82, some (.int x), σ) := by cases h; rfl
theorem mrs_l {x out : Int64} {σ : MSt} (h : some x = some out) : ((82, some (.long out), σ) : Nat × Option Value × MSt) = (82, some (.long x), σ) := by cases h; rfl
theorem mrs_im {x : Int32} {out : Int32 × MSt} {σ : MSt} (h : some (x, σ) = some out) : ((82, some (.int out.1), out.2) : Nat × Option Value × MSt) = (82, some (.int x), σ) := by cases h; rfl
theorem mrs_lm {x : Int64} {out : Int64 × MSt} {σ : MSt} (h : some (x, σ) = some out) : ((82, some (.long out.1), out.2) : Nat × Option Value × MSt) = (82, some (.long x), σ) := by cases h; rfl
theorem mrs_vm {out σ : MSt} (h : some σ = some out) : ((82, none, out) : Nat × Option Value × MSt) = (82, none, σ) := by cases h; rfl
theorem mne32 {x y : Int32} (h : ¬ x = y) : ¬ x.toInt = y.toInt := fun q => h (Int32.toInt_inj.mp q)
/-- what the tables say of a field, to read it, to write it -/
def MFd (own : String) (i0 ci j : Nat) : Prop := ∃ (ref C0 : String) (T : u_T) (N : Nat), vwCl[ci]? = some (C0, T, N) ∧ mnF ci = N ∧ j < N ∧ (∀ w ∈ u_ws C0 T N, w ∈ mWT) ∧ Cond.fieldLink own i0 ref (T j).2.1 (T j).2.2.1 ∈ mWT ∧ (ref = (T j).1 ∨ Cond.sameField ref (T j).1 (T j).2.1 (T j).2.2.1 ∈ mWT)
def MFw (own : String) (i0 ci j : Nat) (ty : FieldType) : Prop := ∃ (ref C0 : String) (T : u_T) (N : Nat) (ty0 : Nat → FieldType), vwCl[ci]? = some (C0, T, N) ∧ mnF ci = N ∧ j < N ∧ (∀ w ∈ u_ws C0 T N, w ∈ mWT) ∧ Cond.fieldLink own i0 ref (T j).2.1 (T j).2.2.1 ∈ mWT ∧ (ref = (T j).1 ∨ Cond.sameField ref (T j).1 (T j).2.1 (T j).2.2.1 ∈ mWT) ∧ (∀ k, k < N → parseFieldDescriptor (T k).2.2.1 = some (ty0 k)) ∧ (∀ a, a < N → ∀ b, b < N → a ≠ b → (T a).2.1 ≠ (T b).2.1) ∧ (T j).2.2.2 = false ∧ parseFieldDescriptor (T j).2.2.1 = some ty
theorem muws {ws : List Cond} (ps : List Nat) (h : ws = ps.filterMap (fun i => tables_1[i]?)) (g : ws.all goodWord = true) : ∀ w ∈ ws, w ∈ mWT := by
  intro w hw
  have h1 := List.all_eq_true.mp g w hw
  rw [h] at hw
  obtain ⟨i, -, hi⟩ := List.mem_filterMap.mp hw
  exact mwt (List.mem_append_right _ (List.mem_of_getElem? hi)) h1
section MRules2
variable {l : Launch} {E : MX} {cc : ByteArray} {own : String} {nL : Nat} {ret : Option FieldType} {d : Nat} {res : Nat × Option Value × MSt} {σ σ' : MSt} {pc : Nat} {L L' : List (Nat × Value)} {st : List Value}

theorem mv_getI {k j ci i0 : Nat} (hf : MFd own i0 ci j) (hd : decode cc pc = .ok (.getfield i0, 3)) (hm : mob ci k = true) (ht : mft ci j = .int) (kk : MV l E cc own nL ret d res σ (pc + 3) L (.int (mmI σ k j) :: st)) : MV l E cc own nL ret d res σ pc L (.ref k :: st) := by
  obtain ⟨ref, C0, T, N, h1, h2, h3, h4, h5, h6⟩ := hf
  exact mw_get hd (mob1 hm) (mob2 hm) h1 h2 h3 h4 h5 h6 (by rw [ht]; rfl) kk

theorem mv_getZ {k j ci i0 : Nat} (hf : MFd own i0 ci j) (hd : decode cc pc = .ok (.getfield i0, 3)) (hm : mob ci k = true) (ht : mft ci j = .boolean) (kk : MV l E cc own nL ret d res σ (pc + 3) L (.int (mmI σ k j) :: st)) : MV l E cc own nL ret d res σ pc L (.ref k :: st) := by
  obtain ⟨ref, C0, T, N, h1, h2, h3, h4, h5, h6⟩ := hf
  exact mw_get hd (mob1 hm) (mob2 hm) h1 h2 h3 h4 h5 h6 (by rw [ht]; rfl) kk

theorem mv_getL {k j ci i0 : Nat} (hf : MFd own i0 ci j) (hd : decode cc pc = .ok (.getfield i0, 3)) (hm : mob ci k = true) (ht : mft ci j = .long) (kk : MV l E cc own nL ret d res σ (pc + 3) L (.long (mmL σ k j) :: st)) : MV l E cc own nL ret d res σ pc L (.ref k :: st) := by
  obtain ⟨ref, C0, T, N, h1, h2, h3, h4, h5, h6⟩ := hf
  exact mw_get hd (mob1 hm) (mob2 hm) h1 h2 h3 h4 h5 h6 (by rw [ht]; rfl) kk

theorem mv_getR {k j ci i0 q : Nat} (hf : MFd own i0 ci j) (hd : decode cc pc = .ok (.getfield i0, 3)) (hm : mob ci k = true) (ht : mfr (mft ci j) = true) (hq : mmR σ k j = some q) (kk : MV l E cc own nL ret d res σ (pc + 3) L (.ref q :: st)) : MV l E cc own nL ret d res σ pc L (.ref k :: st) := by
  obtain ⟨ref, C0, T, N, h1, h2, h3, h4, h5, h6⟩ := hf
  refine mw_get (v := .ref q) hd (mob1 hm) (mob2 hm) h1 h2 h3 h4 h5 h6 ?_ kk
  cases e : mft ci j <;> rw [e] at ht <;> first | (simp [mfr] at ht; done) | (simp only [mfv, hq]; rfl)

theorem mv_putI {k j ci i0 : Nat} {x : Int32} (hf : MFw own i0 ci j .int) (hd : decode cc pc = .ok (.putfield i0, 3)) (hm : mob ci k = true) (ht : mft ci j = .int) (kk : MV l E cc own nL ret d res (muI σ k j x) (pc + 3) L st) : MV l E cc own nL ret d res σ pc L (.int x :: .ref k :: st) := by
  obtain ⟨ref, C0, T, N, ty0, h1, h2, h3, h4, h5, h6, h7, h8, h9, h10⟩ := hf
  exact mw_putI ty0 h7 h8 hd (mob1 hm) (mob2 hm) h1 h2 h3 h4 h5 h6 (Or.inl h9) h10 (Or.inl ht) kk

theorem mv_putZ {k j ci i0 : Nat} {x : Int32} (hf : MFw own i0 ci j .boolean) (hd : decode cc pc = .ok (.putfield i0, 3)) (hm : mob ci k = true) (ht : mft ci j = .boolean) (hx : x = 0 ∨ x = 1) (kk : MV l E cc own nL ret d res (muI σ k j x) (pc + 3) L st) : MV l E cc own nL ret d res σ pc L (.int x :: .ref k :: st) := by
  obtain ⟨ref, C0, T, N, ty0, h1, h2, h3, h4, h5, h6, h7, h8, h9, h10⟩ := hf
  exact mw_putZ ty0 h7 h8 hd (mob1 hm) (mob2 hm) h1 h2 h3 h4 h5 h6 (Or.inl h9) h10 (Or.inr ht) hx kk

theorem mv_putL {k j ci i0 : Nat} {x : Int64} (hf : MFw own i0 ci j .long) (hd : decode cc pc = .ok (.putfield i0, 3)) (hm : mob ci k = true) (ht : mft ci j = .long) (kk : MV l E cc own nL ret d res (muL σ k j x) (pc + 3) L st) : MV l E cc own nL ret d res σ pc L (.long x :: .ref k :: st) := by
  obtain ⟨ref, C0, T, N, ty0, h1, h2, h3, h4, h5, h6, h7, h8, h9, h10⟩ := hf
  exact mw_putL ty0 h7 h8 hd (mob1 hm) (mob2 hm) h1 h2 h3 h4 h5 h6 (Or.inl h9) h10 ht kk

theorem mv_putR {k j ci i0 x : Nat} {ty : FieldType} (hf : MFw own i0 ci j ty) (hd : decode cc pc = .ok (.putfield i0, 3)) (hm : mob ci k = true) (ht : mft ci j = ty) (hr : mfr ty = true) (kk : MV l E cc own nL ret d res (muR σ k j (some x)) (pc + 3) L st) : MV l E cc own nL ret d res σ pc L (.ref x :: .ref k :: st) := by
  obtain ⟨ref, C0, T, N, ty0, h1, h2, h3, h4, h5, h6, h7, h8, h9, h10⟩ := hf
  exact mw_putR ty0 h7 h8 hd (mob1 hm) (mob2 hm) h1 h2 h3 h4 h5 h6 (Or.inl h9) h10 (by rw [ht]; exact hr) hr kk

theorem mv_iald {k : Nat} {i : Int32} (hd : decode cc pc = .ok (.iaload, 1)) (hm : mix 0 k i = true) (kk : MV l E cc own nL ret d res σ (pc + 1) L (.int (mmI σ k i.toNatClampNeg) :: st)) : MV l E cc own nL ret d res σ pc L (.int i :: .ref k :: st) := by
  obtain ⟨N, h1, h2, h3⟩ := mix1 hm
  exact mw_iald hd h1 h2 h3 kk

theorem mv_lald {k : Nat} {i : Int32} (hd : decode cc pc = .ok (.laload, 1)) (hm : mix 1 k i = true) (kk : MV l E cc own nL ret d res σ (pc + 1) L (.long (mmL σ k i.toNatClampNeg) :: st)) : MV l E cc own nL ret d res σ pc L (.int i :: .ref k :: st) := by
  obtain ⟨N, h1, h2, h3⟩ := mix1 hm
  exact mw_lald hd h1 h2 h3 kk

theorem mv_zald {k : Nat} {i : Int32} (hd : decode cc pc = .ok (.baload, 1)) (hm : mix 2 k i = true) (kk : MV l E cc own nL ret d res σ (pc + 1) L (.int (mmI σ k i.toNatClampNeg) :: st)) : MV l E cc own nL ret d res σ pc L (.int i :: .ref k :: st) := by
  obtain ⟨N, h1, h2, h3⟩ := mix1 hm
  exact mw_zald hd h1 h2 h3 kk

theorem mv_cald {k : Nat} {i : Int32} (hd : decode cc pc = .ok (.caload, 1)) (hm : mix 3 k i = true) (kk : MV l E cc own nL ret d res σ (pc + 1) L (.int (mmI σ k i.toNatClampNeg) :: st)) : MV l E cc own nL ret d res σ pc L (.int i :: .ref k :: st) := by
  obtain ⟨N, h1, h2, h3⟩ := mix1 hm
  exact mw_cald hd h1 h2 h3 kk

theorem mv_aald {k q : Nat} {i : Int32} (hd : decode cc pc = .ok (.aaload, 1)) (hm : mix 4 k i = true) (hq : mmR σ k i.toNatClampNeg = some q) (kk : MV l E cc own nL ret d res σ (pc + 1) L (.ref q :: st)) : MV l E cc own nL ret d res σ pc L (.int i :: .ref k :: st) := by
  obtain ⟨N, h1, h2, h3⟩ := mix1 hm
  exact mw_aald hd h1 h2 h3 hq kk

theorem mv_iast {k : Nat} {i : Int32} {x : Int32} (hd : decode cc pc = .ok (.iastore, 1)) (hm : mix 0 k i = true) (kk : MV l E cc own nL ret d res (muI σ k i.toNatClampNeg x) (pc + 1) L st) : MV l E cc own nL ret d res σ pc L (.int x :: .int i :: .ref k :: st) := by
  obtain ⟨N, h1, h2, h3⟩ := mix1 hm
  exact mw_iast hd h1 h2 h3 kk

theorem mv_last {k : Nat} {i : Int32} {x : Int64} (hd : decode cc pc = .ok (.lastore, 1)) (hm : mix 1 k i = true) (kk : MV l E cc own nL ret d res (muL σ k i.toNatClampNeg x) (pc + 1) L st) : MV l E cc own nL ret d res σ pc L (.long x :: .int i :: .ref k :: st) := by
  obtain ⟨N, h1, h2, h3⟩ := mix1 hm
  exact mw_last hd h1 h2 h3 kk

theorem mv_zast {k : Nat} {i : Int32} {x : Int32} (hd : decode cc pc = .ok (.bastore, 1)) (hm : mix 2 k i = true) (kk : MV l E cc own nL ret d res (muI σ k i.toNatClampNeg (vp_nar .boolean x)) (pc + 1) L st) : MV l E cc own nL ret d res σ pc L (.int x :: .int i :: .ref k :: st) := by
  obtain ⟨N, h1, h2, h3⟩ := mix1 hm
  exact mw_zast hd h1 h2 h3 kk

theorem mw_alen {k t N : Nat} (hd : decode cc pc = .ok (.arraylength, 1)) (ht : t < 5) (hk : k < 82) (hs : mshp k = .inl (t, N)) (kk : MV l E cc own nL ret d res σ (pc + 1) L (.int (Int32.ofNat N) :: st)) : MV l E cc own nL ret d res σ pc L (.ref k :: st) := by
  intro p e s0 m args below meth c0 H locs ls C X hl
  obtain ⟨ty, hty⟩ : ∃ ty, (mtys E)[t]? = some (E.2.1 t, ty) := by
    rcases t with _ | _ | _ | _ | _ | t
    · exact ⟨_, rfl⟩
    · exact ⟨_, rfl⟩
    · exact ⟨_, rfl⟩
    · exact ⟨_, rfl⟩
    · exact ⟨_, rfl⟩
    · omega
  exact va_alen (tys := mtys E) C.1 C.2.1 C.2.2.2.2.2.2.2.1.1 X.2.2.2.1 k t (x := (N, marO E t σ k)) (by rw [mwd_at hk, mcel_arr hs]) hty rfl hd (kk p e s0 m args below meth c0 H locs ls C X hl)
theorem mv_alen {k : Nat} (hd : decode cc pc = .ok (.arraylength, 1)) (hm : mar k = true) (kk : MV l E cc own nL ret d res σ (pc + 1) L (.int (Int32.ofNat (mlen k)) :: st)) : MV l E cc own nL ret d res σ pc L (.ref k :: st) := by
  obtain ⟨t, N, h0, h1, h2, h3⟩ := mar1 hm
  rw [h3] at kk
  exact mw_alen hd h0 h1 h2 kk

theorem mv_copyI {k0 k1 i0 : Nat} {sp dp z : Int32} (hd : decode cc pc = .ok (.invokestatic i0, 3)) (hw1 : Cond.methodLink own i0 arraycopyName ∈ mWT) (hw2 : Cond.native arraycopyName ∈ mWT) (hw3 : Cond.static arraycopyName ∈ mWT) (hw4 : Cond.initialized "java/lang/System" ∈ mWT) (hm : mcpk 0 k0 k1 sp dp z = true) (hR : 1 ≤ d) (hs : (st.map fun v => v.category).sum ≤ 8) (kk : MV l E cc own nL ret d res (mcpI σ k0 sp.toNatClampNeg k1 dp.toNatClampNeg z.toNatClampNeg) (pc + 3) L st) : MV l E cc own nL ret d res σ pc L (.int z :: .int dp :: .ref k1 :: .int sp :: .ref k0 :: st) := by
  obtain ⟨N0, N1, h1, h2, h3, h4, h5, h6, h7, h8, h9⟩ := mcpk1 hm
  exact mw_copyI hd hw1 hw2 hw3 hw4 h1 h2 h3 h4 h5 h6 h7 h8 h9 hR (by
    have : nativeFrameWords "java/lang/System" "arraycopy" 5 + 11 ≤ 50 := by decide +kernel
    simp only [mrm]
    omega) kk

theorem mv_copyL {k0 k1 i0 : Nat} {sp dp z : Int32} (hd : decode cc pc = .ok (.invokestatic i0, 3)) (hw1 : Cond.methodLink own i0 arraycopyName ∈ mWT) (hw2 : Cond.native arraycopyName ∈ mWT) (hw3 : Cond.static arraycopyName ∈ mWT) (hw4 : Cond.initialized "java/lang/System" ∈ mWT) (hm : mcpk 1 k0 k1 sp dp z = true) (hR : 1 ≤ d) (hs : (st.map fun v => v.category).sum ≤ 8) (kk : MV l E cc own nL ret d res (mcpL σ k0 sp.toNatClampNeg k1 dp.toNatClampNeg z.toNatClampNeg) (pc + 3) L st) : MV l E cc own nL ret d res σ pc L (.int z :: .int dp :: .ref k1 :: .int sp :: .ref k0 :: st) := by
  obtain ⟨N0, N1, h1, h2, h3, h4, h5, h6, h7, h8, h9⟩ := mcpk1 hm
  exact mw_copyL hd hw1 hw2 hw3 hw4 h1 h2 h3 h4 h5 h6 h7 h8 h9 hR (by
    have : nativeFrameWords "java/lang/System" "arraycopy" 5 + 11 ≤ 50 := by decide +kernel
    simp only [mrm]
    omega) kk

theorem mv_callV_i {y : MethodName} {bytes1 : ByteArray} {maxL1 na i0 d1 : Nat} {ret1 : Option FieldType} {As st0 : List Value} {r : Int32} {b ci N1 : Nat} {C1 : String} {T1 : u_T} (hw : MLv own i0 C1 y bytes1 maxL1 ret1 na) (hd : decode cc pc = .ok (.invokevirtual i0, 3)) (hM : MK l y bytes1 maxL1 ret1 d1 (.ref b :: As) σ (some (.int r)) σ') (hna : As.length = na) (hm : mob ci b = true) (hcl : vwCl[ci]? = some (C1, T1, N1)) (hst : (As.reverse ++ .ref b :: st) = st0) (hcs : (st.map fun v => v.category).sum ≤ 8) (hR : d1 + 1 ≤ d) (hmx : maxL1 ≤ 45) (kk : MV l E cc own nL ret d res σ' (pc + 3) L (.int r :: st)) : MV l E cc own nL ret d res σ pc L st0 :=
  mw_callV hw hd hM hna (mob1 hm) (mob2 hm) hcl hst hcs (mrm_ok hR hmx) rfl rfl rfl (Nat.le_of_ble_eq_true rfl) ⟨Nat.le_refl _, Nat.le_refl _⟩ kk

theorem mv_callV_l {y : MethodName} {bytes1 : ByteArray} {maxL1 na i0 d1 : Nat} {ret1 : Option FieldType} {As st0 : List Value} {r : Int64} {b ci N1 : Nat} {C1 : String} {T1 : u_T} (hw : MLv own i0 C1 y bytes1 maxL1 ret1 na) (hd : decode cc pc = .ok (.invokevirtual i0, 3)) (hM : MK l y bytes1 maxL1 ret1 d1 (.ref b :: As) σ (some (.long r)) σ') (hna : As.length = na) (hm : mob ci b = true) (hcl : vwCl[ci]? = some (C1, T1, N1)) (hst : (As.reverse ++ .ref b :: st) = st0) (hcs : (st.map fun v => v.category).sum ≤ 8) (hR : d1 + 1 ≤ d) (hmx : maxL1 ≤ 45) (kk : MV l E cc own nL ret d res σ' (pc + 3) L (.long r :: st)) : MV l E cc own nL ret d res σ pc L st0 :=
  mw_callV hw hd hM hna (mob1 hm) (mob2 hm) hcl hst hcs (mrm_ok hR hmx) rfl rfl rfl (Nat.le_of_ble_eq_true rfl) ⟨Nat.le_refl _, Nat.le_refl _⟩ kk

theorem mv_callV_v {y : MethodName} {bytes1 : ByteArray} {maxL1 na i0 d1 : Nat} {ret1 : Option FieldType} {As st0 : List Value} {b ci N1 : Nat} {C1 : String} {T1 : u_T} (hw : MLv own i0 C1 y bytes1 maxL1 ret1 na) (hd : decode cc pc = .ok (.invokevirtual i0, 3)) (hM : MK l y bytes1 maxL1 ret1 d1 (.ref b :: As) σ none σ') (hna : As.length = na) (hm : mob ci b = true) (hcl : vwCl[ci]? = some (C1, T1, N1)) (hst : (As.reverse ++ .ref b :: st) = st0) (hcs : (st.map fun v => v.category).sum ≤ 8) (hR : d1 + 1 ≤ d) (hmx : maxL1 ≤ 45) (kk : MV l E cc own nL ret d res σ' (pc + 3) L st) : MV l E cc own nL ret d res σ pc L st0 :=
  mw_callV hw hd hM hna (mob1 hm) (mob2 hm) hcl hst hcs (mrm_ok hR hmx) rfl rfl rfl (Nat.le_of_ble_eq_true rfl) ⟨Nat.le_refl _, Nat.le_refl _⟩ kk

theorem mv_callU_i {y : MethodName} {bytes1 : ByteArray} {maxL1 na i0 d1 : Nat} {ret1 : Option FieldType} {As st0 : List Value} {r : Int32} {b ci N1 : Nat} {C1 : String} {T1 : u_T} {x : MethodName} {owner : String} (hw : MLu own i0 C1 owner x y bytes1 maxL1 ret1 na) (hyx : y = ⟨owner, x.name, x.desc⟩) (hd : decode cc pc = .ok (.invokevirtual i0, 3)) (hM : MK l y bytes1 maxL1 ret1 d1 (.ref b :: As) σ (some (.int r)) σ') (hna : As.length = na) (hm : mob ci b = true) (hcl : vwCl[ci]? = some (C1, T1, N1)) (hst : (As.reverse ++ .ref b :: st) = st0) (hcs : (st.map fun v => v.category).sum ≤ 8) (hR : d1 + 1 ≤ d) (hmx : maxL1 ≤ 45) (kk : MV l E cc own nL ret d res σ' (pc + 3) L (.int r :: st)) : MV l E cc own nL ret d res σ pc L st0 :=
  mw_callU hw hyx hd hM hna (mob1 hm) (mob2 hm) hcl hst hcs (mrm_ok hR hmx) rfl rfl rfl (Nat.le_of_ble_eq_true rfl) ⟨Nat.le_refl _, Nat.le_refl _⟩ kk

theorem mv_callU_l {y : MethodName} {bytes1 : ByteArray} {maxL1 na i0 d1 : Nat} {ret1 : Option FieldType} {As st0 : List Value} {r : Int64} {b ci N1 : Nat} {C1 : String} {T1 : u_T} {x : MethodName} {owner : String} (hw : MLu own i0 C1 owner x y bytes1 maxL1 ret1 na) (hyx : y = ⟨owner, x.name, x.desc⟩) (hd : decode cc pc = .ok (.invokevirtual i0, 3)) (hM : MK l y bytes1 maxL1 ret1 d1 (.ref b :: As) σ (some (.long r)) σ') (hna : As.length = na) (hm : mob ci b = true) (hcl : vwCl[ci]? = some (C1, T1, N1)) (hst : (As.reverse ++ .ref b :: st) = st0) (hcs : (st.map fun v => v.category).sum ≤ 8) (hR : d1 + 1 ≤ d) (hmx : maxL1 ≤ 45) (kk : MV l E cc own nL ret d res σ' (pc + 3) L (.long r :: st)) : MV l E cc own nL ret d res σ pc L st0 :=
  mw_callU hw hyx hd hM hna (mob1 hm) (mob2 hm) hcl hst hcs (mrm_ok hR hmx) rfl rfl rfl (Nat.le_of_ble_eq_true rfl) ⟨Nat.le_refl _, Nat.le_refl _⟩ kk

theorem mv_callU_v {y : MethodName} {bytes1 : ByteArray} {maxL1 na i0 d1 : Nat} {ret1 : Option FieldType} {As st0 : List Value} {b ci N1 : Nat} {C1 : String} {T1 : u_T} {x : MethodName} {owner : String} (hw : MLu own i0 C1 owner x y bytes1 maxL1 ret1 na) (hyx : y = ⟨owner, x.name, x.desc⟩) (hd : decode cc pc = .ok (.invokevirtual i0, 3)) (hM : MK l y bytes1 maxL1 ret1 d1 (.ref b :: As) σ none σ') (hna : As.length = na) (hm : mob ci b = true) (hcl : vwCl[ci]? = some (C1, T1, N1)) (hst : (As.reverse ++ .ref b :: st) = st0) (hcs : (st.map fun v => v.category).sum ≤ 8) (hR : d1 + 1 ≤ d) (hmx : maxL1 ≤ 45) (kk : MV l E cc own nL ret d res σ' (pc + 3) L st) : MV l E cc own nL ret d res σ pc L st0 :=
  mw_callU hw hyx hd hM hna (mob1 hm) (mob2 hm) hcl hst hcs (mrm_ok hR hmx) rfl rfl rfl (Nat.le_of_ble_eq_true rfl) ⟨Nat.le_refl _, Nat.le_refl _⟩ kk

theorem mv_callA_i {y : MethodName} {bytes1 : ByteArray} {maxL1 na i0 d1 : Nat} {ret1 : Option FieldType} {As st0 : List Value} {r : Int32} {b ci N1 : Nat} {C1 : String} {T1 : u_T} (hw : MLu own i0 C1 "RoundsPerHour$Climb" ⟨"RoundsPerHour$Climb", "pick", "()I"⟩ y bytes1 maxL1 ret1 na) (hd : decode cc pc = .ok (.invokevirtual i0, 3)) (hM : MK l y bytes1 maxL1 ret1 d1 (.ref b :: As) σ (some (.int r)) σ') (hna : As.length = na) (hm : mob ci b = true) (hcl : vwCl[ci]? = some (C1, T1, N1)) (hst : (As.reverse ++ .ref b :: st) = st0) (hcs : (st.map fun v => v.category).sum ≤ 8) (hR : d1 + 1 ≤ d) (hmx : maxL1 ≤ 45) (kk : MV l E cc own nL ret d res σ' (pc + 3) L (.int r :: st)) : MV l E cc own nL ret d res σ pc L st0 :=
  mw_callA hw hd hM hna (mob1 hm) (mob2 hm) hcl hst hcs (mrm_ok hR hmx) rfl rfl rfl (Nat.le_of_ble_eq_true rfl) ⟨Nat.le_refl _, Nat.le_refl _⟩ kk

theorem mv_callA_l {y : MethodName} {bytes1 : ByteArray} {maxL1 na i0 d1 : Nat} {ret1 : Option FieldType} {As st0 : List Value} {r : Int64} {b ci N1 : Nat} {C1 : String} {T1 : u_T} (hw : MLu own i0 C1 "RoundsPerHour$Climb" ⟨"RoundsPerHour$Climb", "pick", "()I"⟩ y bytes1 maxL1 ret1 na) (hd : decode cc pc = .ok (.invokevirtual i0, 3)) (hM : MK l y bytes1 maxL1 ret1 d1 (.ref b :: As) σ (some (.long r)) σ') (hna : As.length = na) (hm : mob ci b = true) (hcl : vwCl[ci]? = some (C1, T1, N1)) (hst : (As.reverse ++ .ref b :: st) = st0) (hcs : (st.map fun v => v.category).sum ≤ 8) (hR : d1 + 1 ≤ d) (hmx : maxL1 ≤ 45) (kk : MV l E cc own nL ret d res σ' (pc + 3) L (.long r :: st)) : MV l E cc own nL ret d res σ pc L st0 :=
  mw_callA hw hd hM hna (mob1 hm) (mob2 hm) hcl hst hcs (mrm_ok hR hmx) rfl rfl rfl (Nat.le_of_ble_eq_true rfl) ⟨Nat.le_refl _, Nat.le_refl _⟩ kk

theorem mv_callA_v {y : MethodName} {bytes1 : ByteArray} {maxL1 na i0 d1 : Nat} {ret1 : Option FieldType} {As st0 : List Value} {b ci N1 : Nat} {C1 : String} {T1 : u_T} (hw : MLu own i0 C1 "RoundsPerHour$Climb" ⟨"RoundsPerHour$Climb", "pick", "()I"⟩ y bytes1 maxL1 ret1 na) (hd : decode cc pc = .ok (.invokevirtual i0, 3)) (hM : MK l y bytes1 maxL1 ret1 d1 (.ref b :: As) σ none σ') (hna : As.length = na) (hm : mob ci b = true) (hcl : vwCl[ci]? = some (C1, T1, N1)) (hst : (As.reverse ++ .ref b :: st) = st0) (hcs : (st.map fun v => v.category).sum ≤ 8) (hR : d1 + 1 ≤ d) (hmx : maxL1 ≤ 45) (kk : MV l E cc own nL ret d res σ' (pc + 3) L st) : MV l E cc own nL ret d res σ pc L st0 :=
  mw_callA hw hd hM hna (mob1 hm) (mob2 hm) hcl hst hcs (mrm_ok hR hmx) rfl rfl rfl (Nat.le_of_ble_eq_true rfl) ⟨Nat.le_refl _, Nat.le_refl _⟩ kk

theorem mv_callS_i {y : MethodName} {bytes1 : ByteArray} {maxL1 na i0 d1 : Nat} {ret1 : Option FieldType} {As st0 : List Value} {r : Int32} (hw : MLs own i0 y bytes1 maxL1 ret1 na) (hd : decode cc pc = .ok (.invokestatic i0, 3)) (hM : MK l y bytes1 maxL1 ret1 d1 As σ (some (.int r)) σ') (hna : As.length = na) (hst : (As.reverse ++ st) = st0) (hcs : (st.map fun v => v.category).sum ≤ 8) (hR : d1 + 1 ≤ d) (hmx : maxL1 ≤ 45) (kk : MV l E cc own nL ret d res σ' (pc + 3) L (.int r :: st)) : MV l E cc own nL ret d res σ pc L st0 :=
  mw_callS hw hd hM hna hst hcs (mrm_ok hR hmx) rfl rfl rfl (Nat.le_of_ble_eq_true rfl) ⟨Nat.le_refl _, Nat.le_refl _⟩ kk

theorem mv_callS_l {y : MethodName} {bytes1 : ByteArray} {maxL1 na i0 d1 : Nat} {ret1 : Option FieldType} {As st0 : List Value} {r : Int64} (hw : MLs own i0 y bytes1 maxL1 ret1 na) (hd : decode cc pc = .ok (.invokestatic i0, 3)) (hM : MK l y bytes1 maxL1 ret1 d1 As σ (some (.long r)) σ') (hna : As.length = na) (hst : (As.reverse ++ st) = st0) (hcs : (st.map fun v => v.category).sum ≤ 8) (hR : d1 + 1 ≤ d) (hmx : maxL1 ≤ 45) (kk : MV l E cc own nL ret d res σ' (pc + 3) L (.long r :: st)) : MV l E cc own nL ret d res σ pc L st0 :=
  mw_callS hw hd hM hna hst hcs (mrm_ok hR hmx) rfl rfl rfl (Nat.le_of_ble_eq_true rfl) ⟨Nat.le_refl _, Nat.le_refl _⟩ kk

theorem mv_callS_v {y : MethodName} {bytes1 : ByteArray} {maxL1 na i0 d1 : Nat} {ret1 : Option FieldType} {As st0 : List Value} (hw : MLs own i0 y bytes1 maxL1 ret1 na) (hd : decode cc pc = .ok (.invokestatic i0, 3)) (hM : MK l y bytes1 maxL1 ret1 d1 As σ none σ') (hna : As.length = na) (hst : (As.reverse ++ st) = st0) (hcs : (st.map fun v => v.category).sum ≤ 8) (hR : d1 + 1 ≤ d) (hmx : maxL1 ≤ 45) (kk : MV l E cc own nL ret d res σ' (pc + 3) L st) : MV l E cc own nL ret d res σ pc L st0 :=
  mw_callS hw hd hM hna hst hcs (mrm_ok hR hmx) rfl rfl rfl (Nat.le_of_ble_eq_true rfl) ⟨Nat.le_refl _, Nat.le_refl _⟩ kk

theorem mv_callSN_i {y : MethodName} {bytes1 : ByteArray} {maxL1 na i0 d1 : Nat} {ret1 : Option FieldType} {As st0 : List Value} {r : Int32} {host : String} (hw : MLn own i0 host y bytes1 maxL1 ret1 na) (hd : decode cc pc = .ok (.invokestatic i0, 3)) (hM : MK l y bytes1 maxL1 ret1 d1 As σ (some (.int r)) σ') (hna : As.length = na) (hst : (As.reverse ++ st) = st0) (hcs : (st.map fun v => v.category).sum ≤ 8) (hR : d1 + 1 ≤ d) (hmx : maxL1 ≤ 45) (kk : MV l E cc own nL ret d res σ' (pc + 3) L (.int r :: st)) : MV l E cc own nL ret d res σ pc L st0 :=
  mw_callSN hw hd hM hna hst hcs (mrm_ok hR hmx) rfl rfl rfl (Nat.le_of_ble_eq_true rfl) ⟨Nat.le_refl _, Nat.le_refl _⟩ kk

theorem mv_callSN_l {y : MethodName} {bytes1 : ByteArray} {maxL1 na i0 d1 : Nat} {ret1 : Option FieldType} {As st0 : List Value} {r : Int64} {host : String} (hw : MLn own i0 host y bytes1 maxL1 ret1 na) (hd : decode cc pc = .ok (.invokestatic i0, 3)) (hM : MK l y bytes1 maxL1 ret1 d1 As σ (some (.long r)) σ') (hna : As.length = na) (hst : (As.reverse ++ st) = st0) (hcs : (st.map fun v => v.category).sum ≤ 8) (hR : d1 + 1 ≤ d) (hmx : maxL1 ≤ 45) (kk : MV l E cc own nL ret d res σ' (pc + 3) L (.long r :: st)) : MV l E cc own nL ret d res σ pc L st0 :=
  mw_callSN hw hd hM hna hst hcs (mrm_ok hR hmx) rfl rfl rfl (Nat.le_of_ble_eq_true rfl) ⟨Nat.le_refl _, Nat.le_refl _⟩ kk

theorem mv_callSN_v {y : MethodName} {bytes1 : ByteArray} {maxL1 na i0 d1 : Nat} {ret1 : Option FieldType} {As st0 : List Value} {host : String} (hw : MLn own i0 host y bytes1 maxL1 ret1 na) (hd : decode cc pc = .ok (.invokestatic i0, 3)) (hM : MK l y bytes1 maxL1 ret1 d1 As σ none σ') (hna : As.length = na) (hst : (As.reverse ++ st) = st0) (hcs : (st.map fun v => v.category).sum ≤ 8) (hR : d1 + 1 ≤ d) (hmx : maxL1 ≤ 45) (kk : MV l E cc own nL ret d res σ' (pc + 3) L st) : MV l E cc own nL ret d res σ pc L st0 :=
  mw_callSN hw hd hM hna hst hcs (mrm_ok hR hmx) rfl rfl rfl (Nat.le_of_ble_eq_true rfl) ⟨Nat.le_refl _, Nat.le_refl _⟩ kk

theorem mv_tabIn {x : Int32} (c0 : Int32) {dflt lo hi : Int} {offs : Array Int} {len : Nat} {off : Int} {tgt : Nat} (hd : decode cc pc = .ok (.tableswitch dflt lo hi offs, len)) (hx : x = c0) (h1 : ¬ c0.toInt < lo) (h2 : ¬ hi < c0.toInt) (ho : offs[(c0.toInt - lo).toNat]? = some off) (ht : (pc : Int) + off = (tgt : Int)) (kk : MV l E cc own nL ret d res σ tgt L st) : MV l E cc own nL ret d res σ pc L (.int x :: st) := by
  subst hx
  exact fun p e s0 m args below meth c0 H locs ls C X hl => lv_tableIn C.1 C.2.1 hd h1 h2 ho ht (kk p e s0 m args below meth c0 H locs ls C X hl)
theorem mv_tabOut {x : Int32} {dflt lo hi : Int} {offs : Array Int} {len : Nat} {tgt : Nat} (hd : decode cc pc = .ok (.tableswitch dflt lo hi offs, len)) (h : x.toInt < lo ∨ hi < x.toInt) (ht : (pc : Int) + dflt = (tgt : Int)) (kk : MV l E cc own nL ret d res σ tgt L st) : MV l E cc own nL ret d res σ pc L (.int x :: st) :=
  fun p e s0 m args below meth c0 H locs ls C X hl => lv_tableOut C.1 C.2.1 hd h ht (kk p e s0 m args below meth c0 H locs ls C X hl)
theorem mv_look {x : Int32} {dflt : Int} {ps : Array (Int × Int)} {len : Nat} {off : Int} {tgt : Nat} (hd : decode cc pc = .ok (.lookupswitch dflt ps, len)) (hp : (ps.toList.zip (ps.toList.drop 1)).all (fun (a, next) => a.1 < next.1) = true) (ho : Op.lookupswitch.offset ps.toList dflt x.toInt = off) (ht : (pc : Int) + off = (tgt : Int)) (kk : MV l E cc own nL ret d res σ tgt L st) : MV l E cc own nL ret d res σ pc L (.int x :: st) :=
  fun p e s0 m args below meth c0 H locs ls C X hl => lv_lookup C.1 C.2.1 hd hp ho ht (kk p e s0 m args below meth c0 H locs ls C X hl)

theorem mv_mini {x y : Int32} {i0 : Nat} (hd : decode cc pc = .ok (.invokestatic i0, 3)) (hw1 : Cond.methodLink own i0 Lib.Math.min.name ∈ mWT) (hw2 : Cond.static Lib.Math.min.name ∈ mWT) (hw3 : Cond.initialized "java/lang/Math" ∈ mWT) (hw4 : Cond.code Lib.Math.min.name Lib.Math.min.code 2 (some .int) ∈ mWT) (hR : 1 ≤ d) (hs : (st.map fun v => v.category).sum ≤ 8) (kk : MV l E cc own nL ret d res σ (pc + 3) L (.int (if y < x then y else x) :: st)) : MV l E cc own nL ret d res σ pc L (.int y :: .int x :: st) :=
  fun p e s0 m args below meth c0 H locs ls C X hl => va_mmin C.1 C.2.1 (C.2.2.2.1.trans hl.1.symm) C.2.2.2.2.2.1 (C.2.2.2.2.1 _ hw1) (C.2.2.2.2.1 _ hw2) (C.2.2.2.2.1 _ hw3) (C.2.2.2.2.1 _ hw4) hR (by rw [mcatsum]; simp only [mrm]; omega) (Nat.le_refl _) (Nat.le_refl _) hd (kk p e s0 m args below meth c0 H locs ls C X hl)

theorem mti_0 : (0 : Int32).toInt = 0 := by decide
theorem mti_1 : (1 : Int32).toInt = 1 := by decide
theorem mti_2 : (2 : Int32).toInt = 2 := by decide
theorem mti_3 : (3 : Int32).toInt = 3 := by decide
theorem mti_4 : (4 : Int32).toInt = 4 := by decide
theorem mti_5 : (5 : Int32).toInt = 5 := by decide
theorem mti_6 : (6 : Int32).toInt = 6 := by decide
theorem mti_7 : (7 : Int32).toInt = 7 := by decide
theorem mv_minl {x y : Int64} {i0 : Nat} (hd : decode cc pc = .ok (.invokestatic i0, 3)) (hw1 : Cond.methodLink own i0 Lib.MathLoose.min_long.x ∈ mWT) (hw2 : Cond.static Lib.MathLoose.min_long.x ∈ mWT) (hw3 : Cond.initialized "java/lang/Math" ∈ mWT) (hw4 : Cond.code Lib.MathLoose.min_long.x Lib.MathLoose.min_long.code 4 (some .long) ∈ mWT) (hR : 1 ≤ d) (hs : (st.map fun v => v.category).sum ≤ 8) (kk : MV l E cc own nL ret d res σ (pc + 3) L (.long (if y < x then y else x) :: st)) : MV l E cc own nL ret d res σ pc L (.long y :: .long x :: st) :=
  fun p e s0 m args below meth c0 H locs ls C X hl => va_mmin_long C.1 C.2.1 (C.2.2.2.1.trans hl.1.symm) C.2.2.2.2.2.1 (C.2.2.2.2.1 _ hw1) (C.2.2.2.2.1 _ hw2) (C.2.2.2.2.1 _ hw3) (C.2.2.2.2.1 _ hw4) hR (by rw [mcatsum]; simp only [mrm]; omega) (Nat.le_refl _) (Nat.le_refl _) hd (kk p e s0 m args below meth c0 H locs ls C X hl)

theorem mv_maxl {x y : Int64} {i0 : Nat} (hd : decode cc pc = .ok (.invokestatic i0, 3)) (hw1 : Cond.methodLink own i0 Lib.MathLoose.max_long.x ∈ mWT) (hw2 : Cond.static Lib.MathLoose.max_long.x ∈ mWT) (hw3 : Cond.initialized "java/lang/Math" ∈ mWT) (hw4 : Cond.code Lib.MathLoose.max_long.x Lib.MathLoose.max_long.code 4 (some .long) ∈ mWT) (hR : 1 ≤ d) (hs : (st.map fun v => v.category).sum ≤ 8) (kk : MV l E cc own nL ret d res σ (pc + 3) L (.long (if y < x then x else y) :: st)) : MV l E cc own nL ret d res σ pc L (.long y :: .long x :: st) :=
  fun p e s0 m args below meth c0 H locs ls C X hl => va_mmax_long C.1 C.2.1 (C.2.2.2.1.trans hl.1.symm) C.2.2.2.2.2.1 (C.2.2.2.2.1 _ hw1) (C.2.2.2.2.1 _ hw2) (C.2.2.2.2.1 _ hw3) (C.2.2.2.2.1 _ hw4) hR (by rw [mcatsum]; simp only [mrm]; omega) (Nat.le_refl _) (Nat.le_refl _) hd (kk p e s0 m args below meth c0 H locs ls C X hl)

end MRules2
end
section
/-! ===== rows for what is there from the start ===== -/
def mst (k : Nat) : Bool := decide (1000 ≤ k) && decide (k < 1013)
def msv (k : Nat) : Bool := decide (1100 ≤ k) && decide (k < 1113)
def mbytes (i : Nat) : List Int32 := (mstr.getD i (0, "", [])).2.2
theorem mst1 {k : Nat} (h : mst k = true) : ∃ i, i < 13 ∧ k = 1000 + i := by
  simp only [mst, Bool.and_eq_true, decide_eq_true_eq] at h
  exact ⟨k - 1000, by omega, by omega⟩
theorem msv1 {k : Nat} (h : msv k = true) : ∃ i, i < 13 ∧ k = 1100 + i := by
  simp only [msv, Bool.and_eq_true, decide_eq_true_eq] at h
  exact ⟨k - 1100, by omega, by omega⟩
theorem mad_hi {E : MX} {k : Nat} (h : 1000 ≤ k) : mad E k = E.2.2.2 k := by unfold mad; rw [if_neg (by omega)]
theorem mbytes_len {i : Nat} (h : i < 13) : (mstr.map (fun q => q.2.2.length)).getD i 0 = (mbytes i).length := by
  rcases i with _|_|_|_|_|_|_|_|_|_|_|_|_|i <;> first | rfl | omega
theorem mbytes_at {i : Nat} (h : i < 13) : (mstr.map (fun q => q.2.2)).getD i [] = mbytes i := by
  rcases i with _|_|_|_|_|_|_|_|_|_|_|_|_|i <;> first | rfl | omega
theorem mnar_ty {ty : FieldType} {x : Int32} (ht : ty = .char ∨ ty = .byte) (h : vp_nar ty x = x) : narrow ty (.int x) = .int x := by
  rcases ht with e | e <;> subst e
  · have : narrow .char (.int x) = .int (vp_nar .char x) := rfl
    rw [this, h]
  · have : narrow .byte (.int x) = .int (vp_nar .byte x) := rfl
    rw [this, h]
theorem mlook2 {x : Int32} {a b : Int32} {p q df : Int} {oa ob : Int} (h1 : ¬ x.toInt = a.toInt) (h2 : ¬ x.toInt = b.toInt) (ha : a.toInt = p := by decide) (hb : b.toInt = q := by decide) : Op.lookupswitch.offset [(p, oa), (q, ob)] df x.toInt = df := by
  rw [ha] at h1
  rw [hb] at h2
  simp [Op.lookupswitch.offset, Ne.symm h1, Ne.symm h2, h1, h2]
section MRules3
variable {l : Launch} {E : MX} {cc : ByteArray} {own : String} {nL : Nat} {ret : Option FieldType} {d : Nat} {res : Nat × Option Value × MSt} {σ σ' : MSt} {pc : Nat} {L L' : List (Nat × Value)} {st : List Value}

theorem mw_i2c {x : Int32} (hd : decode cc pc = .ok (.i2c, 1)) (k : MV l E cc own nL ret d res σ (pc + 1) L (.int ((x.toUInt32 % 65536).toInt32) :: st)) : MV l E cc own nL ret d res σ pc L (.int x :: st) :=
  fun p e s0 m args below meth c0 H locs ls C X hl => lv_i2c C.1 C.2.1 hd rfl (k p e s0 m args below meth c0 H locs ls C X hl)
theorem mv_kab {i0 : Nat} (hw : Cond.fieldLink own i0 "RoundsPerHour" "KIND_ABOVE" "[I" ∈ mWT) (hd : decode cc pc = .ok (.getstatic i0, 3)) (k : MV l E cc own nL ret d res σ (pc + 3) L (.ref 2000 :: st)) : MV l E cc own nL ret d res σ pc L st :=
  fun p e s0 m args below meth c0 H locs ls C X hl => va_gets (ref := "RoundsPerHour") (v := .ref (E.2.2.2 2000)) C.1 C.2.1 C.2.2.2.2.2.2.2.1.2.2.2.1 X.2.2.1 C.2.2.2.2.2.1 (C.2.2.2.2.1 _ hw) (fun _ h => h) hd (k p e s0 m args below meth c0 H locs ls C X hl)
theorem mv_kabat {i : Int32} (hd : decode cc pc = .ok (.iaload, 1)) (hm : mib i 6 = true) (k : MV l E cc own nL ret d res σ (pc + 1) L (.int (mkab i.toNatClampNeg) :: st)) : MV l E cc own nL ret d res σ pc L (.int i :: .ref 2000 :: st) :=
  fun p e s0 m args below meth c0 H locs ls C X hl => va_ti C.1 C.2.1 C.2.2.2.2.2.2.2.1.2.2.2.2.1 X.2.2.1 (mib1 hm) rfl hd (k p e s0 m args below meth c0 H locs ls C X hl)
theorem mv_ldcS {i0 : Nat} (i : Nat) (hi : i < 13) (hx : (mstr.getD i (0, "", [])).1 = i0) (ho : own = "RoundsPerHour$Tape") (hd : decode cc pc = .ok (.ldc i0, 2)) (k : MV l E cc own nL ret d res σ (pc + 2) L (.ref (1000 + i) :: st)) : MV l E cc own nL ret d res σ pc L st := by
  intro p e s0 m args below meth c0 H locs ls C X hl
  have h := C.2.2.2.2.2.2.2.1.2.2.2.2.2.2.1 i hi
  rw [hx, ← ho] at h
  refine va_ldcS C.1 C.2.1 C.2.2.2.2.2.1 h hd ?_
  have := k p e s0 m args below meth c0 H locs ls C X hl
  simp only [List.map_cons, mtv, mad_hi (Nat.le_add_right 1000 i)] at this
  exact this
theorem mv_sval {k i0 : Nat} (hw : Cond.fieldLink own i0 "java/lang/String" "value" "[B" ∈ mWT) (hd : decode cc pc = .ok (.getfield i0, 3)) (hm : mst k = true) (kk : MV l E cc own nL ret d res σ (pc + 3) L (.ref (k + 100) :: st)) : MV l E cc own nL ret d res σ pc L (.ref k :: st) := by
  obtain ⟨i, hi, rfl⟩ := mst1 hm
  intro p e s0 m args below meth c0 H locs ls C X hl
  have h := (C.2.2.2.2.2.2.2.1.2.2.2.2.2.1.1 i hi).2.2.1
  have := kk p e s0 m args below meth c0 H locs ls C X hl
  simp only [List.map_cons, mtv, mad_hi (Nat.le_add_right 1000 i), show 1000 + i + 100 = 1100 + i by omega, mad_hi (show 1000 ≤ 1100 + i by omega)] at this ⊢
  exact vk_getf C.1 C.2.1 h X.2.2.1 C.2.2.2.2.2.1 (C.2.2.2.2.1 _ hw) (fun _ h => h) hd this
theorem mv_scod {k i0 : Nat} (hw : Cond.fieldLink own i0 "java/lang/String" "coder" "B" ∈ mWT) (hd : decode cc pc = .ok (.getfield i0, 3)) (hm : mst k = true) (kk : MV l E cc own nL ret d res σ (pc + 3) L (.int 0 :: st)) : MV l E cc own nL ret d res σ pc L (.ref k :: st) := by
  obtain ⟨i, hi, rfl⟩ := mst1 hm
  intro p e s0 m args below meth c0 H locs ls C X hl
  have h := (C.2.2.2.2.2.2.2.1.2.2.2.2.2.1.1 i hi).2.1
  have := kk p e s0 m args below meth c0 H locs ls C X hl
  simp only [List.map_cons, mtv, mad_hi (Nat.le_add_right 1000 i)] at this ⊢
  exact vk_getf C.1 C.2.1 h X.2.2.1 C.2.2.2.2.2.1 (C.2.2.2.2.1 _ hw) (fun _ h => h) hd this
theorem mv_alenS {k : Nat} (hd : decode cc pc = .ok (.arraylength, 1)) (hm : msv k = true) (kk : MV l E cc own nL ret d res σ (pc + 1) L (.int (Int32.ofNat (mbytes (k - 1100)).length) :: st)) : MV l E cc own nL ret d res σ pc L (.ref k :: st) := by
  obtain ⟨i, hi, rfl⟩ := msv1 hm
  intro p e s0 m args below meth c0 H locs ls C X hl
  have h := (C.2.2.2.2.2.2.2.1.2.2.2.2.2.1.1 i hi).2.2.2
  rw [mbytes_len hi] at h
  have := kk p e s0 m args below meth c0 H locs ls C X hl
  simp only [List.map_cons, mtv, mad_hi (show 1000 ≤ 1100 + i by omega), show 1100 + i - 1100 = i by omega] at this ⊢
  exact va_tlen C.1 C.2.1 h X.2.2.1 rfl hd this
theorem mv_baldS {k : Nat} {i : Int32} (hd : decode cc pc = .ok (.baload, 1)) (hm : msv k = true) (hi : mib i (mbytes (k - 1100)).length = true) (kk : MV l E cc own nL ret d res σ (pc + 1) L (.int ((mbytes (k - 1100)).getD i.toNatClampNeg 0) :: st)) : MV l E cc own nL ret d res σ pc L (.int i :: .ref k :: st) := by
  obtain ⟨j, hj, rfl⟩ := msv1 hm
  intro p e s0 m args below meth c0 H locs ls C X hl
  have h := (C.2.2.2.2.2.2.2.1.2.2.2.2.2.1.1 j hj).2.2.2
  rw [mbytes_len hj, mbytes_at hj] at h
  have := kk p e s0 m args below meth c0 H locs ls C X hl
  simp only [List.map_cons, mtv, mad_hi (show 1000 ≤ 1100 + j by omega), show 1100 + j - 1100 = j by omega] at this hi ⊢
  exact va_tb C.1 C.2.1 h X.2.2.1 (mib1 hi) rfl hd this
theorem mv_cmpS {i0 : Nat} (hw : Cond.fieldLink own i0 "java/lang/String" "COMPACT_STRINGS" "Z" ∈ mWT) (hd : decode cc pc = .ok (.getstatic i0, 3)) (k : MV l E cc own nL ret d res σ (pc + 3) L (.int 1 :: st)) : MV l E cc own nL ret d res σ pc L st :=
  fun p e s0 m args below meth c0 H locs ls C X hl => va_gets (ref := "java/lang/String") (v := .int 1) C.1 C.2.1 C.2.2.2.2.2.2.2.1.2.2.2.2.2.2.2.1 X.2.2.1 C.2.2.2.2.2.1 (C.2.2.2.2.1 _ hw) (fun _ h => h) hd (k p e s0 m args below meth c0 H locs ls C X hl)
theorem mv_sioobe {i0 : Nat} (hw : Cond.fieldLink own i0 "jdk/internal/util/Preconditions" "SIOOBE_FORMATTER" "Ljava/util/function/BiFunction;" ∈ mWT) (hd : decode cc pc = .ok (.getstatic i0, 3)) (k1 : MV l E cc own nL ret d res σ (pc + 3) L (.null :: st)) (k2 : MV l E cc own nL ret d res σ (pc + 3) L (.ref 2001 :: st)) : MV l E cc own nL ret d res σ pc L st := by
  intro p e s0 m args below meth c0 H locs ls C X hl
  rcases C.2.2.2.2.2.2.2.1.2.2.2.2.2.2.2.2.1 with h | h
  · exact va_gets (ref := "jdk/internal/util/Preconditions") (v := .null) C.1 C.2.1 h X.2.2.1 C.2.2.2.2.2.1 (C.2.2.2.2.1 _ hw) (fun _ h => h) hd (k1 p e s0 m args below meth c0 H locs ls C X hl)
  · exact va_gets (ref := "jdk/internal/util/Preconditions") (v := .ref (E.2.2.2 2001)) C.1 C.2.1 h X.2.2.1 C.2.2.2.2.2.1 (C.2.2.2.2.1 _ hw) (fun _ h => h) hd (k2 p e s0 m args below meth c0 H locs ls C X hl)
theorem mrecvS {n c k : Nat} {s : State} {H : Heap} {locs : List Loc} (X : MHx E n c σ s H locs) (hC : mCX E s) (hm : mst k = true) : ∃ cell : Cell, H[mad E k]? = some cell ∧ cell.vm.isStatics = false ∧ s.vm.findClass "java/lang/String" = some cell.cls := by
  obtain ⟨i, hi, rfl⟩ := mst1 hm
  rw [mad_hi (Nat.le_add_right 1000 i)]
  exact vk_recv (i := i) hC.2.2.2.2.2.1 hi X.2.2.1
theorem mv_callVS_i {y : MethodName} {bytes1 : ByteArray} {maxL1 na i0 d1 b : Nat} {ret1 : Option FieldType} {As st0 : List Value} {r : Int32} (hw : MLv own i0 "java/lang/String" y bytes1 maxL1 ret1 na) (hd : decode cc pc = .ok (.invokevirtual i0, 3)) (hM : MK l y bytes1 maxL1 ret1 d1 (.ref b :: As) σ (some (.int r)) σ') (hna : As.length = na) (hm : mst b = true) (hst : As.reverse ++ .ref b :: st = st0) (hcs : (st.map fun v => v.category).sum ≤ 8) (hR : d1 + 1 ≤ d) (hmx : maxL1 ≤ 45) (kk : MV l E cc own nL ret d res σ' (pc + 3) L (.int r :: st)) : MV l E cc own nL ret d res σ pc L st0 := by
  intro p e s0 m args below meth c0 H locs ls C X hl
  subst hst
  refine X.size (fun hz => ?_)
  refine mrun X hz rfl (Nat.le_of_ble_eq_true rfl) (va_runV (As := As.map (mtv E)) (rest := st.map (mtv E)) ⟨C.1, C.2.1, C.2.2.2.1, C.2.2.2.2.2.1, C.2.2.2.2.1⟩ (hM E) (cwV na C.2.2.2.2.1 hw.g rfl rfl rfl hw.2.2.2.2.2 (mrm_ok hR hmx)) (let P := mpre X hz C.2.2.2.2.2.2.2.1 (.ref b :: As); ⟨P.1, mrecvS X C.2.2.2.2.2.2.2.1 hm, P.2⟩) rfl (by rw [List.length_map]; exact hna) hl.1 (by simp [F0, mtv]) (lv_room (by rw [mcatsum]; exact hcs)) hd ⟨Nat.le_refl _, Nat.le_refl _⟩) (fun H1 locs1 X1 => kk p e s0 m args below meth c0 H1 locs1 ls C X1 hl)

end MRules3
end
section
/-! ===== the memory behind the constructors: the references are fixed, but for three fields 'land' ===== -/
abbrev ES : Type := (Nat → Nat → Int32) × (Nat → Nat → Int64) × (Nat → Option Nat)
def eI (σ : ES) (k j : Nat) : Int32 := σ.1 k j
def eL (σ : ES) (k j : Nat) : Int64 := σ.2.1 k j
def eT (σ : ES) (i : Nat) : Option Nat := σ.2.2 i
def uI (σ : ES) (k j : Nat) (v : Int32) : ES := (mup2 σ.1 k j v, σ.2)
def uL (σ : ES) (k j : Nat) (v : Int64) : ES := (σ.1, mup2 σ.2.1 k j v, σ.2.2)
def uT (σ : ES) (i : Nat) (v : Option Nat) : ES := (σ.1, σ.2.1, fun a => if a = i then v else σ.2.2 a)
def ecI (σ : ES) (k0 sp k1 dp n : Nat) : ES := (fun a b => if a = k1 then va_cpy (σ.1 k0) (σ.1 k1) sp dp n b else σ.1 a b, σ.2)
def ecL (σ : ES) (k0 sp k1 dp n : Nat) : ES := (σ.1, fun a b => if a = k1 then va_cpy (σ.2.1 k0) (σ.2.1 k1) sp dp n b else σ.2.1 a b, σ.2.2)
def eR1 (T : Nat → Option Nat) (k j : Nat) : Option Nat := match k with
  | 0 => (match j with | 0 => some 1 | 1 => some 10 | 2 => some 19 | 4 => some 28 | 5 => some 39 | 6 => some 45 | 7 => some 51 | 8 => some 55 | 9 => some 57 | 10 => some 59 | 11 => some 60 | _ => none)
  | 1 => (match j with | 3 => some 2 | 4 => some 3 | 5 => some 4 | 6 => some 5 | 7 => some 6 | 8 => some 7 | 10 => some 8 | 11 => some 9 | _ => none)
  | 10 => (match j with | 3 => some 11 | 4 => some 12 | 5 => some 13 | 6 => some 14 | 7 => some 15 | 8 => some 16 | 10 => some 17 | 11 => some 18 | _ => none)
  | 19 => (match j with | 3 => some 20 | 4 => some 21 | 5 => some 22 | 6 => some 23 | 7 => some 24 | 8 => some 25 | 10 => some 26 | 11 => some 27 | _ => none)
  | 28 => (match j with | 1 => some 29 | 2 => some 30 | 3 => some 31 | 4 => some 32 | 5 => some 33 | 6 => some 34 | 7 => some 35 | 8 => some 36 | 9 => some 37 | 10 => some 38 | _ => none)
  | 39 => (match j with | 7 => some 40 | 8 => some 41 | 9 => some 42 | 10 => some 43 | 11 => T 0 | _ => none)
  | 43 => (match j with | 0 => some 44 | _ => none)
  | 45 => (match j with | 7 => some 46 | 8 => some 47 | 9 => some 48 | 10 => some 49 | 11 => some 50 | 12 => T 1 | _ => none)
  | 51 => (match j with | 7 => some 52 | 8 => some 53 | 9 => some 54 | _ => none)
  | 55 => (match j with | 0 => some 56 | _ => none)
  | 57 => (match j with | 1 => some 58 | 2 => T 2 | _ => none)
  | 61 => (match j with | 2 => some 62 | _ => none)
  | 63 => (match j with | 2 => some 64 | _ => none)
  | 65 => (match j with | 2 => some 66 | _ => none)
  | 67 => (match j with | 2 => some 68 | _ => none)
  | 69 => (match j with | 0 => some 70 | 4 => some 71 | 6 => some 72 | 7 => some 73 | 14 => some 74 | 20 => some 75 | 21 => some 76 | 22 => some 77 | 23 => some 78 | 24 => some 79 | 31 => some 80 | 34 => some 81 | _ => none)
  | 59 => if j < 4 then some (61 + 2 * j) else none
  | _ => none
def mkS (σ : ES) : MSt := (σ.1, σ.2.1, eR1 σ.2.2)
def msh (k : Nat) : Bool := k == 61 || k == 63 || k == 65 || k == 67
theorem msh_c {k : Nat} (h : msh k = true) : k = 61 ∨ k = 63 ∨ k = 65 ∨ k = 67 := by
  simp only [msh, Bool.or_eq_true, beq_iff_eq] at h
  omega
theorem msh_ob {k : Nat} (h : msh k = true) : mob 4 k = true := by
  rcases msh_c h with e | e | e | e <;> subst e <;> decide
theorem msh_n1 {k : Nat} (h : msh k = true) : k + 1 < 82 := by
  rcases msh_c h with e | e | e | e <;> subst e <;> decide
theorem msh_n2 {k : Nat} (h : msh k = true) : mshp (k + 1) = .inl (1, 40) := by
  rcases msh_c h with e | e | e | e <;> subst e <;> rfl
theorem msh_r {k : Nat} {T : Nat → Option Nat} (h : msh k = true) : eR1 T k 2 = some (k + 1) := by
  rcases msh_c h with e | e | e | e <;> subst e <;> rfl
theorem mib_lt {i : Int32} {N : Nat} (h : mib i N = true) : i.toNatClampNeg < N := by
  simp only [mib, Bool.and_eq_true, decide_eq_true_eq] at h
  exact h.2
theorem esh {i : Int32} {T : Nat → Option Nat} (h : mib i 4 = true) : eR1 T 59 i.toNatClampNeg = some (61 + 2 * i.toNatClampNeg) := by
  have := mib_lt h
  show (if _ < 4 then _ else _) = _
  rw [if_pos this]
theorem esh2 {i : Int32} (h : mib i 4 = true) : msh (61 + 2 * i.toNatClampNeg) = true := by
  have := mib_lt h
  generalize i.toNatClampNeg = n at *
  rcases n with _ | _ | _ | _ | n
  · rfl
  · rfl
  · rfl
  · rfl
  · omega
def mcpl (N0 N1 : Nat) (sp dp z : Int32) : Bool := !decide (sp < 0) && !decide (dp < 0) && !decide (z < 0) && decide (sp.toNatClampNeg + z.toNatClampNeg ≤ N0) && decide (dp.toNatClampNeg + z.toNatClampNeg ≤ N1)
theorem mcpl1 {N0 N1 : Nat} {sp dp z : Int32} (h : mcpl N0 N1 sp dp z = true) : ¬ sp < 0 ∧ ¬ dp < 0 ∧ ¬ z < 0 ∧ sp.toNatClampNeg + z.toNatClampNeg ≤ N0 ∧ dp.toNatClampNeg + z.toNatClampNeg ≤ N1 := by
  simp only [mcpl, Bool.and_eq_true, Bool.not_eq_true', decide_eq_false_iff_not, decide_eq_true_eq] at h
  exact ⟨h.1.1.1.1, h.1.1.1.2, h.1.1.2, h.1.2, h.2⟩
theorem ers_i {x out : Int32} {σ : ES} (h : some x = some out) : ((82, some (.int out), mkS σ) : Nat × Option Value × MSt) = (82, some (.int x), mkS σ) := by cases h; rfl
theorem ers_l {x out : Int64} {σ : ES} (h : some x = some out) : ((82, some (.long out), mkS σ) : Nat × Option Value × MSt) = (82, some (.long x), mkS σ) := by cases h; rfl
theorem ers_im {x : Int32} {out : Int32 × ES} {σ : ES} (h : some (x, σ) = some out) : ((82, some (.int out.1), mkS out.2) : Nat × Option Value × MSt) = (82, some (.int x), mkS σ) := by cases h; rfl
theorem ers_lm {x : Int64} {out : Int64 × ES} {σ : ES} (h : some (x, σ) = some out) : ((82, some (.long out.1), mkS out.2) : Nat × Option Value × MSt) = (82, some (.long x), mkS σ) := by cases h; rfl
theorem ers_vm {out σ : ES} (h : some σ = some out) : ((82, none, mkS out) : Nat × Option Value × MSt) = (82, none, mkS σ) := by cases h; rfl

theorem mkS_T0 (σ : ES) (v : Option Nat) : muR (mkS σ) 39 11 v = mkS (uT σ 0 v) := by
  have : mup2 (eR1 σ.2.2) 39 11 v = eR1 (fun a => if a = 0 then v else σ.2.2 a) := by
    funext a b
    by_cases h : a = 39 ∧ b = 11
    · obtain ⟨rfl, rfl⟩ := h
      simp [mup2, eR1]
    · simp only [mup2, if_neg h]
      unfold eR1
      split <;> first | rfl | (split <;> first | rfl | (exfalso; exact h ⟨rfl, rfl⟩))
  show (_, _, mup2 (eR1 σ.2.2) 39 11 v) = _
  rw [this]
  rfl
theorem mkS_T1 (σ : ES) (v : Option Nat) : muR (mkS σ) 45 12 v = mkS (uT σ 1 v) := by
  have : mup2 (eR1 σ.2.2) 45 12 v = eR1 (fun a => if a = 1 then v else σ.2.2 a) := by
    funext a b
    by_cases h : a = 45 ∧ b = 12
    · obtain ⟨rfl, rfl⟩ := h
      simp [mup2, eR1]
    · simp only [mup2, if_neg h]
      unfold eR1
      split <;> first | rfl | (split <;> first | rfl | (exfalso; exact h ⟨rfl, rfl⟩))
  show (_, _, mup2 (eR1 σ.2.2) 45 12 v) = _
  rw [this]
  rfl
theorem mkS_T2 (σ : ES) (v : Option Nat) : muR (mkS σ) 57 2 v = mkS (uT σ 2 v) := by
  have : mup2 (eR1 σ.2.2) 57 2 v = eR1 (fun a => if a = 2 then v else σ.2.2 a) := by
    funext a b
    by_cases h : a = 57 ∧ b = 2
    · obtain ⟨rfl, rfl⟩ := h
      simp [mup2, eR1]
    · simp only [mup2, if_neg h]
      unfold eR1
      split <;> first | rfl | (split <;> first | rfl | (exfalso; exact h ⟨rfl, rfl⟩))
  show (_, _, mup2 (eR1 σ.2.2) 57 2 v) = _
  rw [this]
  rfl
section ERules
variable {l : Launch} {E : MX} {cc : ByteArray} {own : String} {nL : Nat} {ret : Option FieldType} {d : Nat} {res : Nat × Option Value × MSt} {σ : ES} {pc : Nat} {L L' : List (Nat × Value)} {st : List Value}

theorem ev_getI {k j ci i0 : Nat} (hf : MFd own i0 ci j) (hd : decode cc pc = .ok (.getfield i0, 3)) (hm : mob ci k = true) (ht : mft ci j = .int) (kk : MV l E cc own nL ret d res (mkS σ) (pc + 3) L (.int (eI σ k j) :: st)) : MV l E cc own nL ret d res (mkS σ) pc L (.ref k :: st) := mv_getI hf hd hm ht kk

theorem ev_getZ {k j ci i0 : Nat} (hf : MFd own i0 ci j) (hd : decode cc pc = .ok (.getfield i0, 3)) (hm : mob ci k = true) (ht : mft ci j = .boolean) (kk : MV l E cc own nL ret d res (mkS σ) (pc + 3) L (.int (eI σ k j) :: st)) : MV l E cc own nL ret d res (mkS σ) pc L (.ref k :: st) := mv_getZ hf hd hm ht kk

theorem ev_getL {k j ci i0 : Nat} (hf : MFd own i0 ci j) (hd : decode cc pc = .ok (.getfield i0, 3)) (hm : mob ci k = true) (ht : mft ci j = .long) (kk : MV l E cc own nL ret d res (mkS σ) (pc + 3) L (.long (eL σ k j) :: st)) : MV l E cc own nL ret d res (mkS σ) pc L (.ref k :: st) := mv_getL hf hd hm ht kk

theorem ev_getR {k j ci i0 q : Nat} (hf : MFd own i0 ci j) (hd : decode cc pc = .ok (.getfield i0, 3)) (hm : mob ci k = true) (ht : mfr (mft ci j) = true) (hq : eR1 σ.2.2 k j = some q) (kk : MV l E cc own nL ret d res (mkS σ) (pc + 3) L (.ref q :: st)) : MV l E cc own nL ret d res (mkS σ) pc L (.ref k :: st) := mv_getR hf hd hm ht hq kk

theorem ev_putI {k j ci i0 : Nat} {x : Int32} (hf : MFw own i0 ci j .int) (hd : decode cc pc = .ok (.putfield i0, 3)) (hm : mob ci k = true) (ht : mft ci j = .int) (kk : MV l E cc own nL ret d res (mkS (uI σ k j x)) (pc + 3) L st) : MV l E cc own nL ret d res (mkS σ) pc L (.int x :: .ref k :: st) := mv_putI hf hd hm ht kk

theorem ev_putZ {k j ci i0 : Nat} {x : Int32} (hf : MFw own i0 ci j .boolean) (hd : decode cc pc = .ok (.putfield i0, 3)) (hm : mob ci k = true) (ht : mft ci j = .boolean) (hx : x = 0 ∨ x = 1) (kk : MV l E cc own nL ret d res (mkS (uI σ k j x)) (pc + 3) L st) : MV l E cc own nL ret d res (mkS σ) pc L (.int x :: .ref k :: st) := mv_putZ hf hd hm ht hx kk

theorem ev_putL {k j ci i0 : Nat} {x : Int64} (hf : MFw own i0 ci j .long) (hd : decode cc pc = .ok (.putfield i0, 3)) (hm : mob ci k = true) (ht : mft ci j = .long) (kk : MV l E cc own nL ret d res (mkS (uL σ k j x)) (pc + 3) L st) : MV l E cc own nL ret d res (mkS σ) pc L (.long x :: .ref k :: st) := mv_putL hf hd hm ht kk

theorem ev_putT0 {i0 x : Nat} (hf : MFw own i0 6 11 (.object "RoundsPerHour$Country")) (hd : decode cc pc = .ok (.putfield i0, 3)) (kk : MV l E cc own nL ret d res (mkS (uT σ 0 (some x))) (pc + 3) L st) : MV l E cc own nL ret d res (mkS σ) pc L (.ref x :: .ref 39 :: st) := by
  refine mv_putR hf hd rfl rfl rfl ?_
  rw [mkS_T0]
  exact kk

theorem ev_putT1 {i0 x : Nat} (hf : MFw own i0 7 12 (.object "RoundsPerHour$Country")) (hd : decode cc pc = .ok (.putfield i0, 3)) (kk : MV l E cc own nL ret d res (mkS (uT σ 1 (some x))) (pc + 3) L st) : MV l E cc own nL ret d res (mkS σ) pc L (.ref x :: .ref 45 :: st) := by
  refine mv_putR hf hd rfl rfl rfl ?_
  rw [mkS_T1]
  exact kk

theorem ev_putT2 {i0 x : Nat} (hf : MFw own i0 5 2 (.object "RoundsPerHour$Country")) (hd : decode cc pc = .ok (.putfield i0, 3)) (kk : MV l E cc own nL ret d res (mkS (uT σ 2 (some x))) (pc + 3) L st) : MV l E cc own nL ret d res (mkS σ) pc L (.ref x :: .ref 57 :: st) := by
  refine mv_putR hf hd rfl rfl rfl ?_
  rw [mkS_T2]
  exact kk

theorem ev_iald {k N : Nat} {i : Int32} (hd : decode cc pc = .ok (.iaload, 1)) (hk : k < 82) (hs : mshp k = .inl (0, N)) (hm : mib i N = true) (kk : MV l E cc own nL ret d res (mkS σ) (pc + 1) L (.int (eI σ k i.toNatClampNeg) :: st)) : MV l E cc own nL ret d res (mkS σ) pc L (.int i :: .ref k :: st) := mw_iald hd hk hs (mib1 hm) kk

theorem ev_lald {k N : Nat} {i : Int32} (hd : decode cc pc = .ok (.laload, 1)) (hk : k < 82) (hs : mshp k = .inl (1, N)) (hm : mib i N = true) (kk : MV l E cc own nL ret d res (mkS σ) (pc + 1) L (.long (eL σ k i.toNatClampNeg) :: st)) : MV l E cc own nL ret d res (mkS σ) pc L (.int i :: .ref k :: st) := mw_lald hd hk hs (mib1 hm) kk

theorem ev_zald {k N : Nat} {i : Int32} (hd : decode cc pc = .ok (.baload, 1)) (hk : k < 82) (hs : mshp k = .inl (2, N)) (hm : mib i N = true) (kk : MV l E cc own nL ret d res (mkS σ) (pc + 1) L (.int (eI σ k i.toNatClampNeg) :: st)) : MV l E cc own nL ret d res (mkS σ) pc L (.int i :: .ref k :: st) := mw_zald hd hk hs (mib1 hm) kk

theorem ev_cald {k N : Nat} {i : Int32} (hd : decode cc pc = .ok (.caload, 1)) (hk : k < 82) (hs : mshp k = .inl (3, N)) (hm : mib i N = true) (kk : MV l E cc own nL ret d res (mkS σ) (pc + 1) L (.int (eI σ k i.toNatClampNeg) :: st)) : MV l E cc own nL ret d res (mkS σ) pc L (.int i :: .ref k :: st) := mw_cald hd hk hs (mib1 hm) kk

theorem ev_aald {i : Int32} (hd : decode cc pc = .ok (.aaload, 1)) (hm : mib i 4 = true) (kk : MV l E cc own nL ret d res (mkS σ) (pc + 1) L (.ref (61 + 2 * i.toNatClampNeg) :: st)) : MV l E cc own nL ret d res (mkS σ) pc L (.int i :: .ref 59 :: st) := mw_aald (N := 4) hd (by decide) rfl (mib1 hm) (esh (T := σ.2.2) hm) kk

theorem ev_iast {k N : Nat} {i : Int32} {x : Int32} (hd : decode cc pc = .ok (.iastore, 1)) (hk : k < 82) (hs : mshp k = .inl (0, N)) (hm : mib i N = true) (kk : MV l E cc own nL ret d res (mkS (uI σ k i.toNatClampNeg x)) (pc + 1) L st) : MV l E cc own nL ret d res (mkS σ) pc L (.int x :: .int i :: .ref k :: st) := mw_iast hd hk hs (mib1 hm) kk

theorem ev_last {k N : Nat} {i : Int32} {x : Int64} (hd : decode cc pc = .ok (.lastore, 1)) (hk : k < 82) (hs : mshp k = .inl (1, N)) (hm : mib i N = true) (kk : MV l E cc own nL ret d res (mkS (uL σ k i.toNatClampNeg x)) (pc + 1) L st) : MV l E cc own nL ret d res (mkS σ) pc L (.long x :: .int i :: .ref k :: st) := mw_last hd hk hs (mib1 hm) kk

theorem ev_zast {k N : Nat} {i : Int32} {x : Int32} (hd : decode cc pc = .ok (.bastore, 1)) (hk : k < 82) (hs : mshp k = .inl (2, N)) (hm : mib i N = true) (kk : MV l E cc own nL ret d res (mkS (uI σ k i.toNatClampNeg (vp_nar .boolean x))) (pc + 1) L st) : MV l E cc own nL ret d res (mkS σ) pc L (.int x :: .int i :: .ref k :: st) := mw_zast hd hk hs (mib1 hm) kk

theorem ev_copyI {k0 k1 i0 N0 N1 : Nat} {sp dp z : Int32} (hd : decode cc pc = .ok (.invokestatic i0, 3)) (hw1 : Cond.methodLink own i0 arraycopyName ∈ mWT) (hw2 : Cond.native arraycopyName ∈ mWT) (hw3 : Cond.static arraycopyName ∈ mWT) (hw4 : Cond.initialized "java/lang/System" ∈ mWT) (hk0 : k0 < 82) (hk1 : k1 < 82) (hs0 : mshp k0 = .inl (0, N0)) (hs1 : mshp k1 = .inl (0, N1)) (hm : mcpl N0 N1 sp dp z = true) (hR : 1 ≤ d) (hs : (st.map fun v => v.category).sum ≤ 8) (kk : MV l E cc own nL ret d res (mkS (ecI σ k0 sp.toNatClampNeg k1 dp.toNatClampNeg z.toNatClampNeg)) (pc + 3) L st) : MV l E cc own nL ret d res (mkS σ) pc L (.int z :: .int dp :: .ref k1 :: .int sp :: .ref k0 :: st) := by
  obtain ⟨h5, h6, h7, h8, h9⟩ := mcpl1 hm
  exact mw_copyI hd hw1 hw2 hw3 hw4 hk0 hk1 hs0 hs1 h5 h6 h7 h8 h9 hR (by
    have : nativeFrameWords "java/lang/System" "arraycopy" 5 + 11 ≤ 50 := by decide +kernel
    simp only [mrm]
    omega) kk

theorem ev_copyL {k0 k1 i0 N0 N1 : Nat} {sp dp z : Int32} (hd : decode cc pc = .ok (.invokestatic i0, 3)) (hw1 : Cond.methodLink own i0 arraycopyName ∈ mWT) (hw2 : Cond.native arraycopyName ∈ mWT) (hw3 : Cond.static arraycopyName ∈ mWT) (hw4 : Cond.initialized "java/lang/System" ∈ mWT) (hk0 : k0 < 82) (hk1 : k1 < 82) (hs0 : mshp k0 = .inl (1, N0)) (hs1 : mshp k1 = .inl (1, N1)) (hm : mcpl N0 N1 sp dp z = true) (hR : 1 ≤ d) (hs : (st.map fun v => v.category).sum ≤ 8) (kk : MV l E cc own nL ret d res (mkS (ecL σ k0 sp.toNatClampNeg k1 dp.toNatClampNeg z.toNatClampNeg)) (pc + 3) L st) : MV l E cc own nL ret d res (mkS σ) pc L (.int z :: .int dp :: .ref k1 :: .int sp :: .ref k0 :: st) := by
  obtain ⟨h5, h6, h7, h8, h9⟩ := mcpl1 hm
  exact mw_copyL hd hw1 hw2 hw3 hw4 hk0 hk1 hs0 hs1 h5 h6 h7 h8 h9 hR (by
    have : nativeFrameWords "java/lang/System" "arraycopy" 5 + 11 ≤ 50 := by decide +kernel
    simp only [mrm]
    omega) kk

end ERules
end
section
/-! ===== making cells ===== -/
def zc (σ : MSt) (k : Nat) : Prop := ∀ j, mmI σ k j = 0 ∧ mmL σ k j = 0 ∧ mmR σ k j = none
theorem zc_uI {σ : MSt} {k a j : Nat} {v : Int32} (h : k ≠ a) (z : zc σ k) : zc (muI σ a j v) k := fun b => ⟨by rw [mmI_uI, if_neg (fun q => h q.1)]; exact (z b).1, (z b).2.1, (z b).2.2⟩
theorem zc_uL {σ : MSt} {k a j : Nat} {v : Int64} (h : k ≠ a) (z : zc σ k) : zc (muL σ a j v) k := fun b => ⟨(z b).1, by rw [mmL_uL, if_neg (fun q => h q.1)]; exact (z b).2.1, (z b).2.2⟩
theorem zc_uR {σ : MSt} {k a j : Nat} {v : Option Nat} (h : k ≠ a) (z : zc σ k) : zc (muR σ a j v) k := fun b => ⟨(z b).1, (z b).2.1, by rw [mmR_uR, if_neg (fun q => h q.1)]; exact (z b).2.2⟩
theorem mwd_push {E : MX} {n : Nat} {σ : MSt} : mwd E (n + 1) σ = mwd E n σ ++ [(mad E n, mcel E σ n)] := by
  unfold mwd
  rw [List.range_succ, List.map_append]
  rfl
def mdef (ty : FieldType) : Bool := match ty with
  | .int => true
  | .boolean => true
  | .long => true
  | .object _ => true
  | .array _ => true
  | _ => false
theorem maf_zero {E : MX} {ty : FieldType} {σ : MSt} {k j : Nat} (h : mdef ty = true) (z : zc σ k) : maf E ty σ k j = defaultValue ty := by
  obtain ⟨z1, z2, z3⟩ := z j
  cases ty <;> first | (simp [mdef] at h; done) | (simp only [maf, z1, z2, z3]; rfl)
section MMake
variable {l : Launch} {E : MX} {cc : ByteArray} {own : String} {nL : Nat} {ret : Option FieldType} {ini : Bool} {R : Room} {mc ms : Nat} {res : Nat × Option Value × MSt} {n c s : Nat} {σ σ' : MSt} {pc : Nat} {L L' : List (Nat × Value)} {st : List Value}
theorem mva_push {s0 : State} {H H1 : Heap} {locs : List Loc} (X : MHx E n c σ s0 H locs) (hz : H.size = E.2.2.1 + n) (hn : n + 1 ≤ 1000) (z1 : H1.size = H.size + 1) (o1 : ∀ q, q < H.size → H1[q]? = H[q]?) (ha : va_at E.1 vwCl (mad E n, mcel E σ n) H1) : MHx E (n + 1) (c + 1) σ s0 H1 locs := by
  obtain ⟨x1, x2, x3, x4, x5⟩ := X
  refine ⟨hn, x2, ⟨by have := x3.1; omega, fun q h1 h2 => (o1 q (Nat.lt_of_lt_of_le h1 x3.1)).trans (x3.2.1 q h1 h2), x3.2.2⟩, ?_, by omega⟩
  rw [mwd_push]
  refine (x4.kept (fun k q hq => o1 q.1 ((x4 k q hq).lt))).app (fun k q hq => ?_)
  have hz : k < 1 := (List.getElem?_eq_some_iff.mp hq).1
  rw [show k = 0 by omega] at hq
  cases hq
  exact ha
theorem mad_n {H : Heap} (hz : H.size = E.2.2.1 + n) (hn : n + 1 ≤ 1000) : mad E n = H.size := by
  unfold mad
  rw [if_pos (by omega), hz]

theorem mw_new {ci i0 N : Nat} {C0 : String} {T : u_T} (ty0 : Nat → FieldType) (hd : decode cc pc = .ok (.new i0, 3)) (hc : vwCl[ci]? = some (C0, T, N)) (hN : mnF ci = N) (hs : mshp n = .inr ci) (hin : ∀ w ∈ u_ws C0 T N, w ∈ mWT) (hty : ∀ k, k < N → parseFieldDescriptor (T k).2.2.1 = some (ty0 k)) (hmt : ∀ k, k < N → mft ci k = ty0 k ∧ mdef (ty0 k) = true) (hcl : Cond.classLink own i0 C0 ∈ mWT) (hinst : Cond.instantiable C0 N ∈ mWT) (hini : Cond.initialized C0 ∈ mWT) (hz : zc σ n) (hcells : c + 1 ≤ R.cells) (hslots : s + N ≤ R.slots) (hn : n + 1 ≤ 1000) (k : MW l E cc own nL ret ini R mc ms res (n + 1) (c + 1) (s + N) σ (pc + 3) L (.ref n :: st)) : MW l E cc own nL ret ini R mc ms res n c s σ pc L st := by
  intro p e s0 m args below meth c0 H locs ls C X hl
  refine X.size (fun hsz => ?_)
  have hKn := C.2.2.2.2.2.2.2.1.1.1 ci _ hc
  refine W.newcK C.1 C.2.1 C.2.2.2.2.2.1 (C.2.2.2.2.1 _ hcl) (C.2.2.2.2.1 _ hinst) (C.2.2.2.2.1 _ hini) rfl hd hcells hslots hKn.2.1 rfl fun H1 kC hkC e1 z1 o1 => ?_
  have ha := mad_n (E := E) hsz hn
  have hX := mva_push X hsz hn z1 o1 (by
    rw [mcel_obj hs]
    refine ⟨_, hc, ?_⟩
    rw [ha]
    refine (u_born ty0 C.2.2.2.2.1 hin hKn hkC e1 hty).to (fun j hj => ?_)
    show _ = ((List.range (mnF ci)).map (fun j => maf E (mft ci j) σ n j)).getD j .null
    rw [hN]
    have hm := hmt j hj
    simp [hj, hm.1, maf_zero hm.2 hz])
  have := k p e s0 m args below meth c0 H1 locs ls C hX hl
  simp only [List.map_cons, mtv, ha] at this
  exact this

theorem mw_newaI {N : Nat} {z : Int32} (hd : decode cc pc = .ok (.newarray .int, 2)) (hw : Cond.arrayClass .int ∈ mWT) (hs : mshp n = .inl (0, N)) (h0 : ¬ z < 0) (hN : z.toNatClampNeg = N) (hb : N * componentBytes .int ≤ 536870912) (hz : zc σ n) (hcells : c + 1 ≤ R.cells) (hslots : s + N ≤ R.slots) (hn : n + 1 ≤ 1000) (k : MW l E cc own nL ret ini R mc ms res (n + 1) (c + 1) (s + N) σ (pc + 2) L (.ref n :: st)) : MW l E cc own nL ret ini R mc ms res n c s σ pc L (.int z :: st) := by
  intro p e s0 m args below meth c0 H locs ls C X hl
  refine X.size (fun hsz => ?_)
  refine va_newaK (atype := .int) C.1 C.2.1 (C.2.2.2.2.1 _ hw) rfl hd rfl h0 hN hb hcells hslots rfl fun H1 cA e1 z1 o1 hAr hNm => ?_
  have ha := mad_n (E := E) hsz hn
  have hcA : cA = E.2.1 0 := by
    have h1 : s0.vm.findClass _ = some (E.2.1 0) := (C.2.2.2.2.2.2.2.1.1.2 0 _ rfl).2
    exact Option.some.inj (hNm.symm.trans h1)
  subst hcA
  have hX := mva_push X hsz hn z1 o1 (by
    rw [mcel_arr hs]
    show H1[mad E n]? = some (vp_cell _ _)
    rw [ha, e1]
    have hf : mmI σ n = fun _ => 0 := funext (fun j => (hz j).1)
    show some _ = some (vp_cell (E.2.1 0) (N, .inl (mmI σ n)))
    rw [hf]
    rfl)
  have := k p e s0 m args below meth c0 H1 locs ls C hX hl
  simp only [List.map_cons, mtv, ha] at this
  exact this

theorem mw_newaL {N : Nat} {z : Int32} (hd : decode cc pc = .ok (.newarray .long, 2)) (hw : Cond.arrayClass .long ∈ mWT) (hs : mshp n = .inl (1, N)) (h0 : ¬ z < 0) (hN : z.toNatClampNeg = N) (hb : N * componentBytes .long ≤ 536870912) (hz : zc σ n) (hcells : c + 1 ≤ R.cells) (hslots : s + N ≤ R.slots) (hn : n + 1 ≤ 1000) (k : MW l E cc own nL ret ini R mc ms res (n + 1) (c + 1) (s + N) σ (pc + 2) L (.ref n :: st)) : MW l E cc own nL ret ini R mc ms res n c s σ pc L (.int z :: st) := by
  intro p e s0 m args below meth c0 H locs ls C X hl
  refine X.size (fun hsz => ?_)
  refine va_newaK (atype := .long) C.1 C.2.1 (C.2.2.2.2.1 _ hw) rfl hd rfl h0 hN hb hcells hslots rfl fun H1 cA e1 z1 o1 hAr hNm => ?_
  have ha := mad_n (E := E) hsz hn
  have hcA : cA = E.2.1 1 := by
    have h1 : s0.vm.findClass _ = some (E.2.1 1) := (C.2.2.2.2.2.2.2.1.1.2 1 _ rfl).2
    exact Option.some.inj (hNm.symm.trans h1)
  subst hcA
  have hX := mva_push X hsz hn z1 o1 (by
    rw [mcel_arr hs]
    show H1[mad E n]? = some (vp_cell _ _)
    rw [ha, e1]
    have hf : mmL σ n = fun _ => 0 := funext (fun j => (hz j).2.1)
    show some _ = some (vp_cell (E.2.1 1) (N, .inr (.inl (mmL σ n))))
    rw [hf]
    rfl)
  have := k p e s0 m args below meth c0 H1 locs ls C hX hl
  simp only [List.map_cons, mtv, ha] at this
  exact this

theorem mw_newaZ {N : Nat} {z : Int32} (hd : decode cc pc = .ok (.newarray .boolean, 2)) (hw : Cond.arrayClass .boolean ∈ mWT) (hs : mshp n = .inl (2, N)) (h0 : ¬ z < 0) (hN : z.toNatClampNeg = N) (hb : N * componentBytes .boolean ≤ 536870912) (hz : zc σ n) (hcells : c + 1 ≤ R.cells) (hslots : s + N ≤ R.slots) (hn : n + 1 ≤ 1000) (k : MW l E cc own nL ret ini R mc ms res (n + 1) (c + 1) (s + N) σ (pc + 2) L (.ref n :: st)) : MW l E cc own nL ret ini R mc ms res n c s σ pc L (.int z :: st) := by
  intro p e s0 m args below meth c0 H locs ls C X hl
  refine X.size (fun hsz => ?_)
  refine va_newaK (atype := .boolean) C.1 C.2.1 (C.2.2.2.2.1 _ hw) rfl hd rfl h0 hN hb hcells hslots rfl fun H1 cA e1 z1 o1 hAr hNm => ?_
  have ha := mad_n (E := E) hsz hn
  have hcA : cA = E.2.1 2 := by
    have h1 : s0.vm.findClass _ = some (E.2.1 2) := (C.2.2.2.2.2.2.2.1.1.2 2 _ rfl).2
    exact Option.some.inj (hNm.symm.trans h1)
  subst hcA
  have hX := mva_push X hsz hn z1 o1 (by
    rw [mcel_arr hs]
    show H1[mad E n]? = some (vp_cell _ _)
    rw [ha, e1]
    have hf : mmI σ n = fun _ => 0 := funext (fun j => (hz j).1)
    show some _ = some (vp_cell (E.2.1 2) (N, .inl (mmI σ n)))
    rw [hf]
    rfl)
  have := k p e s0 m args below meth c0 H1 locs ls C hX hl
  simp only [List.map_cons, mtv, ha] at this
  exact this

theorem mw_newaC {N : Nat} {z : Int32} (hd : decode cc pc = .ok (.newarray .char, 2)) (hw : Cond.arrayClass .char ∈ mWT) (hs : mshp n = .inl (3, N)) (h0 : ¬ z < 0) (hN : z.toNatClampNeg = N) (hb : N * componentBytes .char ≤ 536870912) (hz : zc σ n) (hcells : c + 1 ≤ R.cells) (hslots : s + N ≤ R.slots) (hn : n + 1 ≤ 1000) (k : MW l E cc own nL ret ini R mc ms res (n + 1) (c + 1) (s + N) σ (pc + 2) L (.ref n :: st)) : MW l E cc own nL ret ini R mc ms res n c s σ pc L (.int z :: st) := by
  intro p e s0 m args below meth c0 H locs ls C X hl
  refine X.size (fun hsz => ?_)
  refine va_newaK (atype := .char) C.1 C.2.1 (C.2.2.2.2.1 _ hw) rfl hd rfl h0 hN hb hcells hslots rfl fun H1 cA e1 z1 o1 hAr hNm => ?_
  have ha := mad_n (E := E) hsz hn
  have hcA : cA = E.2.1 3 := by
    have h1 : s0.vm.findClass _ = some (E.2.1 3) := (C.2.2.2.2.2.2.2.1.1.2 3 _ rfl).2
    exact Option.some.inj (hNm.symm.trans h1)
  subst hcA
  have hX := mva_push X hsz hn z1 o1 (by
    rw [mcel_arr hs]
    show H1[mad E n]? = some (vp_cell _ _)
    rw [ha, e1]
    have hf : mmI σ n = fun _ => 0 := funext (fun j => (hz j).1)
    show some _ = some (vp_cell (E.2.1 3) (N, .inl (mmI σ n)))
    rw [hf]
    rfl)
  have := k p e s0 m args below meth c0 H1 locs ls C hX hl
  simp only [List.map_cons, mtv, ha] at this
  exact this

theorem mw_newq {N i0 : Nat} {z : Int32} (hd : decode cc pc = .ok (.anewarray i0, 3)) (hw : Cond.classLink own i0 "RoundsPerHour$Sheet" ∈ mWT) (hs : mshp n = .inl (4, N)) (h0 : ¬ z < 0) (hN : z.toNatClampNeg = N) (hb : N * 4 ≤ 536870912) (hz : zc σ n) (hcells : c + 1 ≤ R.cells) (hslots : s + N ≤ R.slots) (hn : n + 1 ≤ 1000) (k : MW l E cc own nL ret ini R mc ms res (n + 1) (c + 1) (s + N) σ (pc + 3) L (.ref n :: st)) : MW l E cc own nL ret ini R mc ms res n c s σ pc L (.int z :: st) := by
  intro p e s0 m args below meth c0 H locs ls C X hl
  refine X.size (fun hsz => ?_)
  subst hN
  refine W.anew C.1 C.2.1 C.2.2.2.2.2.1 (C.2.2.2.2.1 _ hw) (va_AO.use C.2.2.2.2.2.2.2.1.2.2.2.2.2.2.2.2.2) rfl hd rfl h0 hb hcells hslots fun cA kA comp f1 f2 f3 f4 => ?_
  generalize hH1 : H.push ({ cls := cA, slots := Array.replicate z.toNatClampNeg .null, vm := .none } : Cell) = H1
  have z1 : H1.size = H.size + 1 := by rw [← hH1, Array.size_push]
  have e1 : H1[H.size]? = some (arrV cA z.toNatClampNeg (fun _ => .null)) := by rw [← hH1, Array.getElem?_push_size, ← arrV_new]
  have o1 : ∀ q : Nat, q < H.size → H1[q]? = H[q]? := fun q hq => by rw [← hH1, Array.getElem?_push, if_neg (Nat.ne_of_lt hq)]
  have ha := mad_n (E := E) hsz hn
  have hcA : cA = E.2.1 4 := by
    obtain ⟨kB, cB, -, -, -, h1⟩ := (C.2.2.2.2.2.2.2.1.1.2 4 _ rfl).2
    exact Option.some.inj (f1.symm.trans h1)
  subst hcA
  have hX := mva_push X hsz hn z1 o1 (by
    rw [mcel_arr hs]
    show H1[mad E n]? = some (vp_cell _ _)
    rw [ha, e1]
    have hf : (fun j => (mmR σ n j).map (mad E)) = fun _ => none := funext (fun j => by rw [(hz j).2.2]; rfl)
    show some _ = some (vp_cell (E.2.1 4) (_, .inr (.inr (.inr (.inr (fun j => (mmR σ n j).map (mad E)))))))
    rw [hf]
    rfl)
  have := k p e s0 m args below meth c0 H1 locs ls C hX hl
  simp only [List.map_cons, mtv, ha] at this
  exact this
theorem mw_objInit {i0 x : Nat} (hd : decode cc pc = .ok (.invokespecial i0, 3)) (hw : Cond.methodLink own i0 Lib.objectInit ∈ mWT) (hw2 : Cond.instanceMethod Lib.objectInit ∈ mWT) (hw3 : Cond.code Lib.objectInit ⟨#[0xb1]⟩ 1 none ∈ mWT) (hR : 1 ≤ R.frames) (hR2 : (st.map fun v => v.category).sum + 12 ≤ R.locals) (k : MW l E cc own nL ret ini R mc ms res n c s σ (pc + 3) L st) : MW l E cc own nL ret ini R mc ms res n c s σ pc L (.ref x :: st) := by
  intro p e s0 m args below meth c0 H locs ls C X hl
  refine W.objInit (rest := st.map (mtv E)) C.1 C.2.1 C.2.2.2.2.2.1 (C.2.2.2.2.1 _ hw) (C.2.2.2.2.1 _ hw2) (C.2.2.2.2.1 _ hw3) rfl (by rw [C.2.2.2.1]; exact hl.1) rfl hd hR (by rw [mcatsum]; show 2 * 0 + _ + 12 ≤ _; omega) ?_
  exact k p e s0 m args below meth c0 H locs ls C X hl
theorem mw_aast {k q ci N : Nat} {i : Int32} (hd : decode cc pc = .ok (.aastore, 1)) (hk : k < n) (hs : mshp k = .inl (4, N)) (hq : q < n) (hsq : mshp q = .inr 4) (hi : vp_in i N) (kk : MW l E cc own nL ret ini R mc ms res n c s (muR σ k i.toNatClampNeg (some q)) (pc + 1) L st) : MW l E cc own nL ret ini R mc ms res n c s σ pc L (.ref q :: .int i :: .ref k :: st) := by
  intro p e s0 m args below meth c0 H locs ls C X hl
  refine va_astq (tys := mtys E) (r := (RX5, TX5, 3)) C.1 C.2.1 C.2.2.2.2.2.2.2.1.1 X.2.2.2.1 (mwd_D X.1) X.2.2.1 k 4 q 4 (by rw [mwd_at hk, mcel_arr hs]; rfl) rfl (by rw [mwd_at hq, mcel_obj hsq]) rfl hi hd (fun H1 locs1 hP _ hS => kk p e s0 m args below meth c0 H1 locs1 ls C ⟨X.1, X.2.1, hS, ?_, X.2.2.2.2⟩ hl)
  have he : mcel E (muR σ k i.toNatClampNeg (some q)) k = .inl (E.2.1 4, N, .inr (.inr (.inr (.inr (va_up (fun j => (mmR σ k j).map (mad E)) i.toNatClampNeg (some (mad E q))))))) := by
    rw [mcel_arr hs]
    show Sum.inl (_, _, Sum.inr (Sum.inr (Sum.inr (Sum.inr (fun j => (mmR (muR σ k i.toNatClampNeg (some q)) k j).map (mad E)))))) = _
    congr 7
    funext j
    by_cases h : j = i.toNatClampNeg
    · subst h
      simp [mmR_uR, va_up]
    · simp [mmR_uR, va_up, h]
  rw [← mwd_set (σ := σ) hk he (fun a ha => mcel_uR ha)]
  exact hP

theorem mk_new {n' c' s' : Nat} {N0 : Nat} (e1 : n + 1 = n') (e2 : c + 1 = c') (e3 : s + N0 = s') {ci i0 N : Nat} {C0 : String} {T : u_T} (ty0 : Nat → FieldType) (hd : decode cc pc = .ok (.new i0, 3)) (hc : vwCl[ci]? = some (C0, T, N)) (hN : mnF ci = N) (hs : mshp n = .inr ci) (hin : ∀ w ∈ u_ws C0 T N, w ∈ mWT) (hty : ∀ k, k < N → parseFieldDescriptor (T k).2.2.1 = some (ty0 k)) (hmt : ∀ k, k < N → mft ci k = ty0 k ∧ mdef (ty0 k) = true) (hcl : Cond.classLink own i0 C0 ∈ mWT) (hinst : Cond.instantiable C0 N ∈ mWT) (hini : Cond.initialized C0 ∈ mWT) (hz : zc σ n) (hcells : c + 1 ≤ R.cells) (hslots : s + N ≤ R.slots) (hn : n + 1 ≤ 1000) (eN : N0 = N := by rfl) (k : MW l E cc own nL ret ini R mc ms res n' c' s' σ (pc + 3) L (.ref n :: st)) : MW l E cc own nL ret ini R mc ms res n c s σ pc L st := by
  subst e1; subst e2; subst e3; subst eN
  exact mw_new ty0 hd hc hN hs hin hty hmt hcl hinst hini hz hcells hslots hn k

theorem mk_newaI {n' c' s' : Nat} {N0 : Nat} (e1 : n + 1 = n') (e2 : c + 1 = c') (e3 : s + N0 = s') {N : Nat} {z : Int32} (hd : decode cc pc = .ok (.newarray .int, 2)) (hw : Cond.arrayClass .int ∈ mWT) (hs : mshp n = .inl (0, N)) (h0 : ¬ z < 0) (hN : z.toNatClampNeg = N) (hb : N * componentBytes .int ≤ 536870912) (hz : zc σ n) (hcells : c + 1 ≤ R.cells) (hslots : s + N ≤ R.slots) (hn : n + 1 ≤ 1000) (eN : N0 = N := by rfl) (k : MW l E cc own nL ret ini R mc ms res n' c' s' σ (pc + 2) L (.ref n :: st)) : MW l E cc own nL ret ini R mc ms res n c s σ pc L (.int z :: st) := by
  subst e1; subst e2; subst e3; subst eN
  exact mw_newaI hd hw hs h0 hN hb hz hcells hslots hn k

theorem mk_newaL {n' c' s' : Nat} {N0 : Nat} (e1 : n + 1 = n') (e2 : c + 1 = c') (e3 : s + N0 = s') {N : Nat} {z : Int32} (hd : decode cc pc = .ok (.newarray .long, 2)) (hw : Cond.arrayClass .long ∈ mWT) (hs : mshp n = .inl (1, N)) (h0 : ¬ z < 0) (hN : z.toNatClampNeg = N) (hb : N * componentBytes .long ≤ 536870912) (hz : zc σ n) (hcells : c + 1 ≤ R.cells) (hslots : s + N ≤ R.slots) (hn : n + 1 ≤ 1000) (eN : N0 = N := by rfl) (k : MW l E cc own nL ret ini R mc ms res n' c' s' σ (pc + 2) L (.ref n :: st)) : MW l E cc own nL ret ini R mc ms res n c s σ pc L (.int z :: st) := by
  subst e1; subst e2; subst e3; subst eN
  exact mw_newaL hd hw hs h0 hN hb hz hcells hslots hn k

theorem mk_newaZ {n' c' s' : Nat} {N0 : Nat} (e1 : n + 1 = n') (e2 : c + 1 = c') (e3 : s + N0 = s') {N : Nat} {z : Int32} (hd : decode cc pc = .ok (.newarray .boolean, 2)) (hw : Cond.arrayClass .boolean ∈ mWT) (hs : mshp n = .inl (2, N)) (h0 : ¬ z < 0) (hN : z.toNatClampNeg = N) (hb : N * componentBytes .boolean ≤ 536870912) (hz : zc σ n) (hcells : c + 1 ≤ R.cells) (hslots : s + N ≤ R.slots) (hn : n + 1 ≤ 1000) (eN : N0 = N := by rfl) (k : MW l E cc own nL ret ini R mc ms res n' c' s' σ (pc + 2) L (.ref n :: st)) : MW l E cc own nL ret ini R mc ms res n c s σ pc L (.int z :: st) := by
  subst e1; subst e2; subst e3; subst eN
  exact mw_newaZ hd hw hs h0 hN hb hz hcells hslots hn k

theorem mk_newaC {n' c' s' : Nat} {N0 : Nat} (e1 : n + 1 = n') (e2 : c + 1 = c') (e3 : s + N0 = s') {N : Nat} {z : Int32} (hd : decode cc pc = .ok (.newarray .char, 2)) (hw : Cond.arrayClass .char ∈ mWT) (hs : mshp n = .inl (3, N)) (h0 : ¬ z < 0) (hN : z.toNatClampNeg = N) (hb : N * componentBytes .char ≤ 536870912) (hz : zc σ n) (hcells : c + 1 ≤ R.cells) (hslots : s + N ≤ R.slots) (hn : n + 1 ≤ 1000) (eN : N0 = N := by rfl) (k : MW l E cc own nL ret ini R mc ms res n' c' s' σ (pc + 2) L (.ref n :: st)) : MW l E cc own nL ret ini R mc ms res n c s σ pc L (.int z :: st) := by
  subst e1; subst e2; subst e3; subst eN
  exact mw_newaC hd hw hs h0 hN hb hz hcells hslots hn k

theorem mk_newq {n' c' s' : Nat} {N0 : Nat} (e1 : n + 1 = n') (e2 : c + 1 = c') (e3 : s + N0 = s') {N i0 : Nat} {z : Int32} (hd : decode cc pc = .ok (.anewarray i0, 3)) (hw : Cond.classLink own i0 "RoundsPerHour$Sheet" ∈ mWT) (hs : mshp n = .inl (4, N)) (h0 : ¬ z < 0) (hN : z.toNatClampNeg = N) (hb : N * 4 ≤ 536870912) (hz : zc σ n) (hcells : c + 1 ≤ R.cells) (hslots : s + N ≤ R.slots) (hn : n + 1 ≤ 1000) (eN : N0 = N := by rfl) (k : MW l E cc own nL ret ini R mc ms res n' c' s' σ (pc + 3) L (.ref n :: st)) : MW l E cc own nL ret ini R mc ms res n c s σ pc L (.int z :: st) := by
  subst e1; subst e2; subst e3; subst eN
  exact mw_newq hd hw hs h0 hN hb hz hcells hslots hn k

theorem mk_callI {n' c' s' : Nat} {y : MethodName} {bytes1 : ByteArray} {maxL1 mc1 ms1 na i0 b : Nat} {rm1 : Room} {As st0 : List Value} (hw : MLi own i0 y bytes1 maxL1 none na) (hd : decode cc pc = .ok (.invokespecial i0, 3)) (hM : MCt l y bytes1 maxL1 none rm1 (.ref b :: As) n σ mc1 ms1 (n', none, σ')) (hna : As.length = na) (hst : As.reverse ++ .ref b :: st = st0) (hcs : (st.map fun v => v.category).sum ≤ 8) (hR : rm1.frames + 1 ≤ R.frames ∧ 8 + (maxL1 + 11) + rm1.locals ≤ R.locals) (hrc : rm1.cells = mc1) (hrs : rm1.slots = ms1) (hn : n' = n + mc1) (e2 : c + mc1 = c') (e3 : s + ms1 = s') (hn2 : n' ≤ 1000) (hf : c + mc1 ≤ R.cells ∧ s + ms1 ≤ R.slots) (kk : MW l E cc own nL ret ini R mc ms res n' c' s' σ' (pc + 3) L st) : MW l E cc own nL ret ini R mc ms res n c s σ pc L st0 := by
  subst e2; subst e3
  exact mw_callI hw rfl hd hM hna hst hcs hR hrc hrs hn hn2 hf kk

theorem mk_callIN {n' c' s' : Nat} {y : MethodName} {bytes1 : ByteArray} {maxL1 mc1 ms1 na i0 b : Nat} {rm1 : Room} {As st0 : List Value} {host : String} (hw : MLj own i0 host y bytes1 maxL1 none na) (hd : decode cc pc = .ok (.invokespecial i0, 3)) (hM : MCt l y bytes1 maxL1 none rm1 (.ref b :: As) n σ mc1 ms1 (n', none, σ')) (hna : As.length = na) (hst : As.reverse ++ .ref b :: st = st0) (hcs : (st.map fun v => v.category).sum ≤ 8) (hR : rm1.frames + 1 ≤ R.frames ∧ 8 + (maxL1 + 11) + rm1.locals ≤ R.locals) (hrc : rm1.cells = mc1) (hrs : rm1.slots = ms1) (hn : n' = n + mc1) (e2 : c + mc1 = c') (e3 : s + ms1 = s') (hn2 : n' ≤ 1000) (hf : c + mc1 ≤ R.cells ∧ s + ms1 ≤ R.slots) (kk : MW l E cc own nL ret ini R mc ms res n' c' s' σ' (pc + 3) L st) : MW l E cc own nL ret ini R mc ms res n c s σ pc L st0 := by
  subst e2; subst e3
  exact mw_callIN hw rfl hd hM hna hst hcs hR hrc hrs hn hn2 hf kk

end MMake

def mkr (d c s : Nat) : Room := { frames := d, cells := c, slots := s, locals := 64 * d }
end
section
/-! ===== words, links and fields that the methods use (written by gen/all.py) ===== -/
set_option maxRecDepth 20000 in
theorem uws_0 : ∀ w ∈ u_ws RX1 TX1 12, w ∈ mWT := muws [83, 85, 87, 89, 91, 93, 95, 97, 99, 101, 103, 105] (by decide +kernel) (by decide +kernel)
set_option maxRecDepth 20000 in
theorem uws_1 : ∀ w ∈ u_ws RX2 TX2 1, w ∈ mWT := muws [178] (by decide +kernel) (by decide +kernel)
set_option maxRecDepth 20000 in
theorem uws_2 : ∀ w ∈ u_ws RX3 TX3 11, w ∈ mWT := muws [283, 284, 285, 286, 287, 288, 289, 290, 291, 292, 281] (by decide +kernel) (by decide +kernel)
set_option maxRecDepth 20000 in
theorem uws_3 : ∀ w ∈ u_ws RX4 TX4 13, w ∈ mWT := muws [133, 135, 137, 139, 141, 143, 145, 147, 149, 151, 153, 155, 157] (by decide +kernel) (by decide +kernel)
set_option maxRecDepth 20000 in
theorem uws_4 : ∀ w ∈ u_ws RX5 TX5 3, w ∈ mWT := muws [344, 346, 348] (by decide +kernel) (by decide +kernel)
set_option maxRecDepth 20000 in
theorem uws_5 : ∀ w ∈ u_ws RX6 TX6 9, w ∈ mWT := muws [312, 314, 316, 318, 320, 322, 324, 326, 328] (by decide +kernel) (by decide +kernel)
set_option maxRecDepth 20000 in
theorem uws_6 : ∀ w ∈ u_ws RX7 TX7 12, w ∈ mWT := muws [221, 223, 225, 227, 229, 231, 233, 235, 237, 239, 217, 219] (by decide +kernel) (by decide +kernel)
set_option maxRecDepth 20000 in
theorem uws_7 : ∀ w ∈ u_ws RX8 TX8 15, w ∈ mWT := muws [263, 264, 265, 266, 267, 268, 269, 270, 271, 272, 253, 255, 257, 259, 261] (by decide +kernel) (by decide +kernel)
set_option maxRecDepth 20000 in
theorem uws_8 : ∀ w ∈ u_ws RX9 TX9 12, w ∈ mWT := muws [363, 365, 367, 369, 371, 373, 375, 377, 379, 381, 383, 385] (by decide +kernel) (by decide +kernel)
set_option maxRecDepth 20000 in
theorem uws_9 : ∀ w ∈ u_ws RX10 TX10 36, w ∈ mWT := muws [1032, 1034, 1036, 1038, 1040, 1042, 1044, 1046, 1048, 1050, 1052, 1054, 1056, 1058, 1060, 1062, 1064, 1066, 1068, 1070, 1072, 1074, 1076, 1078, 1080, 1082, 1084, 1086, 1088, 1090, 1092, 1094, 1096, 1098, 1100, 1102] (by decide +kernel) (by decide +kernel)
theorem wt_0 : Cond.fieldLink RX9 12 "RoundsPerHour" "now" "LRoundsPerHour$Country;" ∈ mWT := mt_2 (List.mem_of_getElem? (i := 111) rfl) rfl
theorem wt_1 : Cond.fieldLink RX9 83 "RoundsPerHour$Country" "ways" "I" ∈ mWT := mt_1 (List.mem_of_getElem? (i := 43) rfl) rfl
theorem wt_2 : Cond.fieldLink RX9 93 "RoundsPerHour$Country" "places" "I" ∈ mWT := mt_1 (List.mem_of_getElem? (i := 35) rfl) rfl
theorem wt_3 : Cond.fieldLink RX9 87 "RoundsPerHour$Country" "from" "[I" ∈ mWT := mt_1 (List.mem_of_getElem? (i := 52) rfl) rfl
theorem wt_4 : Cond.code yX9_finding cX9_finding 2 (some .int) ∈ mWT := mt_2 (List.mem_of_getElem? (i := 158) rfl) rfl
theorem wt_5 : Cond.methodLink RX9 79 yX9_finding ∈ mWT := mt_2 (List.mem_of_getElem? (i := 155) rfl) rfl
theorem wt_6 : Cond.instanceMethod yX9_finding ∈ mWT := mt_2 (List.mem_of_getElem? (i := 157) rfl) rfl
theorem wt_7 : Cond.selects RX9 yX9_finding yX9_finding ∈ mWT := mt_s (⟨"RoundsPerHour", "finding", "(I)I"⟩, 12) (ml_1 (List.mem_of_getElem? (i := 0) rfl)) rfl rfl
theorem wt_8 : Cond.initialized RX9 ∈ mWT := mt_1 (List.mem_of_getElem? (i := 1) rfl) rfl
theorem wt_9 : Cond.fieldLink RX9 70 "RoundsPerHour" "found" "[I" ∈ mWT := mt_2 (List.mem_of_getElem? (i := 122) rfl) rfl
theorem wt_10 : Cond.constant RX9 361 (-2000000001) ∈ mWT := mt_2 (List.mem_of_getElem? (i := 159) rfl) rfl
theorem wt_11 : Cond.fieldLink RX9 90 "RoundsPerHour$Country" "to" "[I" ∈ mWT := mt_1 (List.mem_of_getElem? (i := 59) rfl) rfl
theorem wt_12 : Cond.code yX9_within cX9_within 3 (some .boolean) ∈ mWT := mt_2 (List.mem_of_getElem? (i := 154) rfl) rfl
theorem wt_13 : Cond.methodLink RX9 75 yX9_within ∈ mWT := mt_2 (List.mem_of_getElem? (i := 152) rfl) rfl
theorem wt_14 : Cond.static yX9_within ∈ mWT := mt_2 (List.mem_of_getElem? (i := 153) rfl) rfl
theorem wt_15 : Cond.fieldLink RX9 96 "RoundsPerHour$Country" "weather" "I" ∈ mWT := mt_1 (List.mem_of_getElem? (i := 40) rfl) rfl
theorem wt_16 : Cond.code yX9_isKind cX9_isKind 1 (some .boolean) ∈ mWT := mt_2 (List.mem_of_getElem? (i := 175) rfl) rfl
theorem wt_17 : Cond.methodLink RX9 103 yX9_isKind ∈ mWT := mt_2 (List.mem_of_getElem? (i := 173) rfl) rfl
theorem wt_18 : Cond.static yX9_isKind ∈ mWT := mt_2 (List.mem_of_getElem? (i := 174) rfl) rfl
theorem wt_19 : Cond.code yX9_isGain cX9_isGain 1 (some .boolean) ∈ mWT := mt_2 (List.mem_of_getElem? (i := 178) rfl) rfl
theorem wt_20 : Cond.methodLink RX9 106 yX9_isGain ∈ mWT := mt_2 (List.mem_of_getElem? (i := 176) rfl) rfl
theorem wt_21 : Cond.static yX9_isGain ∈ mWT := mt_2 (List.mem_of_getElem? (i := 177) rfl) rfl
theorem wt_22 : Cond.constant RX9 362 (-999999999) ∈ mWT := mt_2 (List.mem_of_getElem? (i := 179) rfl) rfl
theorem wt_23 : Cond.constant RX9 363 (999999999) ∈ mWT := mt_2 (List.mem_of_getElem? (i := 180) rfl) rfl
theorem wt_24 : Cond.code yX9_isTime cX9_isTime 1 (some .boolean) ∈ mWT := mt_2 (List.mem_of_getElem? (i := 183) rfl) rfl
theorem wt_25 : Cond.methodLink RX9 109 yX9_isTime ∈ mWT := mt_2 (List.mem_of_getElem? (i := 181) rfl) rfl
theorem wt_26 : Cond.static yX9_isTime ∈ mWT := mt_2 (List.mem_of_getElem? (i := 182) rfl) rfl
theorem wt_27 : Cond.constant RX9 364 (999999) ∈ mWT := mt_2 (List.mem_of_getElem? (i := 184) rfl) rfl
theorem wt_28 : Cond.code yX1_newWay cX1_newWay 7 (some .int) ∈ mWT := mt_2 (List.mem_of_getElem? (i := 188) rfl) rfl
theorem wt_29 : Cond.methodLink RX9 112 yX1_newWay ∈ mWT := mt_2 (List.mem_of_getElem? (i := 185) rfl) rfl
theorem wt_30 : Cond.instanceMethod yX1_newWay ∈ mWT := mt_2 (List.mem_of_getElem? (i := 186) rfl) rfl
theorem wt_31 : Cond.selects RX1 yX1_newWay yX1_newWay ∈ mWT := mt_2 (List.mem_of_getElem? (i := 187) rfl) rfl
theorem wt_32 : Cond.initialized RX1 ∈ mWT := mt_1 (List.mem_of_getElem? (i := 2) rfl) rfl
theorem wt_33 : Cond.fieldLink RX1 44 "RoundsPerHour$Country" "ways" "I" ∈ mWT := mt_1 (List.mem_of_getElem? (i := 46) rfl) rfl
theorem wt_34 : Cond.fieldLink RX1 15 "RoundsPerHour$Country" "kind" "[I" ∈ mWT := mt_1 (List.mem_of_getElem? (i := 49) rfl) rfl
theorem wt_35 : Cond.fieldLink RX1 19 "RoundsPerHour$Country" "from" "[I" ∈ mWT := mt_1 (List.mem_of_getElem? (i := 51) rfl) rfl
theorem wt_36 : Cond.fieldLink RX1 22 "RoundsPerHour$Country" "to" "[I" ∈ mWT := mt_1 (List.mem_of_getElem? (i := 57) rfl) rfl
theorem wt_37 : Cond.fieldLink RX1 25 "RoundsPerHour$Country" "gain" "[I" ∈ mWT := mt_1 (List.mem_of_getElem? (i := 63) rfl) rfl
theorem wt_38 : Cond.fieldLink RX1 28 "RoundsPerHour$Country" "time" "[I" ∈ mWT := mt_1 (List.mem_of_getElem? (i := 65) rfl) rfl
theorem wt_39 : Cond.fieldLink RX1 31 "RoundsPerHour$Country" "shut" "[I" ∈ mWT := mt_1 (List.mem_of_getElem? (i := 67) rfl) rfl
theorem wt_40 : Cond.code yX1_isPlace cX1_isPlace 2 (some .boolean) ∈ mWT := mt_2 (List.mem_of_getElem? (i := 171) rfl) rfl
theorem wt_41 : Cond.methodLink RX9 99 yX1_isPlace ∈ mWT := mt_2 (List.mem_of_getElem? (i := 168) rfl) rfl
theorem wt_42 : Cond.instanceMethod yX1_isPlace ∈ mWT := mt_2 (List.mem_of_getElem? (i := 169) rfl) rfl
theorem wt_43 : Cond.selects RX1 yX1_isPlace yX1_isPlace ∈ mWT := mt_2 (List.mem_of_getElem? (i := 170) rfl) rfl
theorem wt_44 : Cond.fieldLink RX1 9 "RoundsPerHour$Country" "places" "I" ∈ mWT := mt_1 (List.mem_of_getElem? (i := 34) rfl) rfl
theorem wt_45 : Cond.code yX1_isWay cX1_isWay 2 (some .boolean) ∈ mWT := mt_2 (List.mem_of_getElem? (i := 196) rfl) rfl
theorem wt_46 : Cond.methodLink RX9 116 yX1_isWay ∈ mWT := mt_2 (List.mem_of_getElem? (i := 193) rfl) rfl
theorem wt_47 : Cond.instanceMethod yX1_isWay ∈ mWT := mt_2 (List.mem_of_getElem? (i := 194) rfl) rfl
theorem wt_48 : Cond.selects RX1 yX1_isWay yX1_isWay ∈ mWT := mt_2 (List.mem_of_getElem? (i := 195) rfl) rfl
theorem wt_49 : Cond.fieldLink RX9 119 "RoundsPerHour$Country" "kind" "[I" ∈ mWT := mt_1 (List.mem_of_getElem? (i := 50) rfl) rfl
theorem wt_50 : Cond.fieldLink RX9 122 "RoundsPerHour$Country" "gain" "[I" ∈ mWT := mt_1 (List.mem_of_getElem? (i := 64) rfl) rfl
theorem wt_51 : Cond.fieldLink RX9 125 "RoundsPerHour$Country" "time" "[I" ∈ mWT := mt_1 (List.mem_of_getElem? (i := 66) rfl) rfl
theorem wt_52 : Cond.fieldLink RX9 128 "RoundsPerHour$Country" "shut" "[I" ∈ mWT := mt_1 (List.mem_of_getElem? (i := 71) rfl) rfl
theorem wt_53 : Cond.code yX1_bringsOf cX1_bringsOf 2 (some .int) ∈ mWT := mt_2 (List.mem_of_getElem? (i := 200) rfl) rfl
theorem wt_54 : Cond.methodLink RX9 131 yX1_bringsOf ∈ mWT := mt_2 (List.mem_of_getElem? (i := 197) rfl) rfl
theorem wt_55 : Cond.instanceMethod yX1_bringsOf ∈ mWT := mt_2 (List.mem_of_getElem? (i := 198) rfl) rfl
theorem wt_56 : Cond.selects RX1 yX1_bringsOf yX1_bringsOf ∈ mWT := mt_2 (List.mem_of_getElem? (i := 199) rfl) rfl
theorem wt_57 : Cond.fieldLink RX1 50 "RoundsPerHour$Country" "weather" "I" ∈ mWT := mt_1 (List.mem_of_getElem? (i := 42) rfl) rfl
theorem wt_58 : Cond.code yX9_brings cX9_brings 3 (some .int) ∈ mWT := mt_2 (List.mem_of_getElem? (i := 203) rfl) rfl
theorem wt_59 : Cond.static yX9_brings ∈ mWT := mt_2 (List.mem_of_getElem? (i := 202) rfl) rfl
theorem wt_60 : Cond.methodLink RX9 368 yX9_brings ∈ mWT := mt_2 (List.mem_of_getElem? (i := 204) rfl) rfl
theorem wt_61 : Cond.code yX1_lastsOf cX1_lastsOf 2 (some .int) ∈ mWT := mt_2 (List.mem_of_getElem? (i := 208) rfl) rfl
theorem wt_62 : Cond.methodLink RX9 134 yX1_lastsOf ∈ mWT := mt_2 (List.mem_of_getElem? (i := 205) rfl) rfl
theorem wt_63 : Cond.instanceMethod yX1_lastsOf ∈ mWT := mt_2 (List.mem_of_getElem? (i := 206) rfl) rfl
theorem wt_64 : Cond.selects RX1 yX1_lastsOf yX1_lastsOf ∈ mWT := mt_2 (List.mem_of_getElem? (i := 207) rfl) rfl
theorem wt_65 : Cond.code yX9_lasts cX9_lasts 3 (some .int) ∈ mWT := mt_2 (List.mem_of_getElem? (i := 211) rfl) rfl
theorem wt_66 : Cond.static yX9_lasts ∈ mWT := mt_2 (List.mem_of_getElem? (i := 210) rfl) rfl
theorem wt_67 : Cond.methodLink RX9 371 yX9_lasts ∈ mWT := mt_2 (List.mem_of_getElem? (i := 212) rfl) rfl
theorem wt_68 : Cond.code yX9_canBecome cX9_canBecome 4 (some .boolean) ∈ mWT := mt_2 (List.mem_of_getElem? (i := 220) rfl) rfl
theorem wt_69 : Cond.methodLink RX9 137 yX9_canBecome ∈ mWT := mt_2 (List.mem_of_getElem? (i := 217) rfl) rfl
theorem wt_70 : Cond.instanceMethod yX9_canBecome ∈ mWT := mt_2 (List.mem_of_getElem? (i := 219) rfl) rfl
theorem wt_71 : Cond.selects RX9 yX9_canBecome yX9_canBecome ∈ mWT := mt_s (⟨"RoundsPerHour", "canBecome", "(III)Z"⟩, 12) (ml_1 (List.mem_of_getElem? (i := 1) rfl)) rfl rfl
theorem wt_72 : Cond.code yX9_put cX9_put 4 (some .int) ∈ mWT := mt_2 (List.mem_of_getElem? (i := 223) rfl) rfl
theorem wt_73 : Cond.methodLink RX9 140 yX9_put ∈ mWT := mt_2 (List.mem_of_getElem? (i := 221) rfl) rfl
theorem wt_74 : Cond.static yX9_put ∈ mWT := mt_2 (List.mem_of_getElem? (i := 222) rfl) rfl
theorem wt_75 : Cond.code yX9_isUnder cX9_isUnder 4 (some .boolean) ∈ mWT := mt_2 (List.mem_of_getElem? (i := 230) rfl) rfl
theorem wt_76 : Cond.methodLink RX9 144 yX9_isUnder ∈ mWT := mt_2 (List.mem_of_getElem? (i := 228) rfl) rfl
theorem wt_77 : Cond.static yX9_isUnder ∈ mWT := mt_2 (List.mem_of_getElem? (i := 229) rfl) rfl
theorem wt_78 : Cond.fieldLink RX9 365 "RoundsPerHour" "KIND_ABOVE" "[I" ∈ mWT := mt_2 (List.mem_of_getElem? (i := 231) rfl) rfl
theorem wt_79 : Cond.fieldLink RX9 148 "RoundsPerHour$Country" "things" "I" ∈ mWT := mt_1 (List.mem_of_getElem? (i := 76) rfl) rfl
theorem wt_80 : Cond.code yX1_newThing cX1_newThing 3 (some .int) ∈ mWT := mt_3 (List.mem_of_getElem? (i := 0) rfl) rfl
theorem wt_81 : Cond.methodLink RX9 151 yX1_newThing ∈ mWT := mt_2 (List.mem_of_getElem? (i := 237) rfl) rfl
theorem wt_82 : Cond.instanceMethod yX1_newThing ∈ mWT := mt_2 (List.mem_of_getElem? (i := 238) rfl) rfl
theorem wt_83 : Cond.selects RX1 yX1_newThing yX1_newThing ∈ mWT := mt_2 (List.mem_of_getElem? (i := 239) rfl) rfl
theorem wt_84 : Cond.fieldLink RX1 47 "RoundsPerHour$Country" "things" "I" ∈ mWT := mt_1 (List.mem_of_getElem? (i := 74) rfl) rfl
theorem wt_85 : Cond.fieldLink RX1 34 "RoundsPerHour$Country" "thingGain" "[I" ∈ mWT := mt_1 (List.mem_of_getElem? (i := 77) rfl) rfl
theorem wt_86 : Cond.fieldLink RX1 37 "RoundsPerHour$Country" "thingTime" "[I" ∈ mWT := mt_1 (List.mem_of_getElem? (i := 80) rfl) rfl
theorem wt_87 : Cond.fieldLink RX9 161 "RoundsPerHour$Country" "thingTime" "[I" ∈ mWT := mt_1 (List.mem_of_getElem? (i := 82) rfl) rfl
theorem wt_88 : Cond.code yX1_isThingOrBase cX1_isThingOrBase 2 (some .boolean) ∈ mWT := mt_3 (List.mem_of_getElem? (i := 8) rfl) rfl
theorem wt_89 : Cond.methodLink RX9 155 yX1_isThingOrBase ∈ mWT := mt_3 (List.mem_of_getElem? (i := 5) rfl) rfl
theorem wt_90 : Cond.instanceMethod yX1_isThingOrBase ∈ mWT := mt_3 (List.mem_of_getElem? (i := 6) rfl) rfl
theorem wt_91 : Cond.selects RX1 yX1_isThingOrBase yX1_isThingOrBase ∈ mWT := mt_3 (List.mem_of_getElem? (i := 7) rfl) rfl
theorem wt_92 : Cond.fieldLink RX9 158 "RoundsPerHour$Country" "thingGain" "[I" ∈ mWT := mt_1 (List.mem_of_getElem? (i := 79) rfl) rfl
theorem wt_93 : Cond.code yX9_bestRing cX9_bestRing 1 (some .int) ∈ mWT := mt_3 (List.mem_of_getElem? (i := 25) rfl) rfl
theorem wt_94 : Cond.methodLink RX9 168 yX9_bestRing ∈ mWT := mt_3 (List.mem_of_getElem? (i := 22) rfl) rfl
theorem wt_95 : Cond.instanceMethod yX9_bestRing ∈ mWT := mt_3 (List.mem_of_getElem? (i := 24) rfl) rfl
theorem wt_96 : Cond.selects RX9 yX9_bestRing yX9_bestRing ∈ mWT := mt_s (⟨"RoundsPerHour", "bestRing", "()I"⟩, 12) (ml_1 (List.mem_of_getElem? (i := 3) rfl)) rfl rfl
theorem wt_97 : Cond.fieldLink RX9 25 "RoundsPerHour" "rings" "LRoundsPerHour$Rings;" ∈ mWT := mt_2 (List.mem_of_getElem? (i := 115) rfl) rfl
theorem wt_98 : Cond.code yX4_gather cX4_gather 5 none ∈ mWT := mt_3 (List.mem_of_getElem? (i := 29) rfl) rfl
theorem wt_99 : Cond.methodLink RX9 205 yX4_gather ∈ mWT := mt_3 (List.mem_of_getElem? (i := 26) rfl) rfl
theorem wt_100 : Cond.instanceMethod yX4_gather ∈ mWT := mt_3 (List.mem_of_getElem? (i := 27) rfl) rfl
theorem wt_101 : Cond.selects RX4 yX4_gather yX4_gather ∈ mWT := mt_3 (List.mem_of_getElem? (i := 28) rfl) rfl
theorem wt_102 : Cond.initialized RX4 ∈ mWT := mt_1 (List.mem_of_getElem? (i := 3) rfl) rfl
theorem wt_103 : Cond.fieldLink RX4 67 "RoundsPerHour$Country" "places" "I" ∈ mWT := mt_1 (List.mem_of_getElem? (i := 36) rfl) rfl
theorem wt_104 : Cond.code yX4_goOn cX4_goOn 13 none ∈ mWT := mt_3 (List.mem_of_getElem? (i := 35) rfl) rfl
theorem wt_105 : Cond.methodLink RX4 70 yX4_goOn ∈ mWT := mt_3 (List.mem_of_getElem? (i := 32) rfl) rfl
theorem wt_106 : Cond.instanceMethod yX4_goOn ∈ mWT := mt_3 (List.mem_of_getElem? (i := 34) rfl) rfl
theorem wt_107 : Cond.selects RX4 yX4_goOn yX4_goOn ∈ mWT := mt_s (⟨"RoundsPerHour$Rings", "goOn", "(IIIIJJ)V"⟩, 13) (ml_1 (List.mem_of_getElem? (i := 4) rfl)) rfl rfl
theorem wt_108 : Cond.fieldLink RX4 29 "RoundsPerHour$Rings" "leaving" "[I" ∈ mWT := mt_1 (List.mem_of_getElem? (i := 126) rfl) rfl
theorem wt_109 : Cond.fieldLink RX4 32 "RoundsPerHour$Rings" "wayOut" "[I" ∈ mWT := mt_1 (List.mem_of_getElem? (i := 127) rfl) rfl
theorem wt_110 : Cond.fieldLink RX4 35 "RoundsPerHour$Rings" "to" "[I" ∈ mWT := mt_1 (List.mem_of_getElem? (i := 128) rfl) rfl
theorem wt_111 : Cond.fieldLink RX4 38 "RoundsPerHour$Rings" "brings" "[J" ∈ mWT := mt_1 (List.mem_of_getElem? (i := 129) rfl) rfl
theorem wt_112 : Cond.fieldLink RX4 41 "RoundsPerHour$Rings" "lasts" "[J" ∈ mWT := mt_1 (List.mem_of_getElem? (i := 130) rfl) rfl
theorem wt_113 : Cond.code yX4_keep cX4_keep 6 none ∈ mWT := mt_3 (List.mem_of_getElem? (i := 39) rfl) rfl
theorem wt_114 : Cond.methodLink RX4 74 yX4_keep ∈ mWT := mt_3 (List.mem_of_getElem? (i := 36) rfl) rfl
theorem wt_115 : Cond.instanceMethod yX4_keep ∈ mWT := mt_3 (List.mem_of_getElem? (i := 38) rfl) rfl
theorem wt_116 : Cond.selects RX4 yX4_keep yX4_keep ∈ mWT := mt_s (⟨"RoundsPerHour$Rings", "keep", "(IJJ)V"⟩, 13) (ml_1 (List.mem_of_getElem? (i := 5) rfl)) rfl rfl
theorem wt_117 : Cond.fieldLink RX4 44 "RoundsPerHour$Rings" "size" "I" ∈ mWT := mt_1 (List.mem_of_getElem? (i := 115) rfl) rfl
theorem wt_118 : Cond.fieldLink RX4 9 "RoundsPerHour$Rings" "sets" "[I" ∈ mWT := mt_1 (List.mem_of_getElem? (i := 117) rfl) rfl
theorem wt_119 : Cond.fieldLink RX4 15 "RoundsPerHour$Rings" "above" "[J" ∈ mWT := mt_1 (List.mem_of_getElem? (i := 119) rfl) rfl
theorem wt_120 : Cond.fieldLink RX4 19 "RoundsPerHour$Rings" "below" "[J" ∈ mWT := mt_1 (List.mem_of_getElem? (i := 121) rfl) rfl
theorem wt_121 : Cond.fieldLink RX4 64 "RoundsPerHour$Country" "from" "[I" ∈ mWT := mt_1 (List.mem_of_getElem? (i := 53) rfl) rfl
theorem wt_122 : Cond.fieldLink RX4 48 "RoundsPerHour$Country" "ways" "I" ∈ mWT := mt_1 (List.mem_of_getElem? (i := 44) rfl) rfl
theorem wt_123 : Cond.fieldLink RX4 53 "RoundsPerHour$Country" "to" "[I" ∈ mWT := mt_1 (List.mem_of_getElem? (i := 58) rfl) rfl
theorem wt_124 : Cond.methodLink RX4 54 yX1_bringsOf ∈ mWT := mt_3 (List.mem_of_getElem? (i := 30) rfl) rfl
theorem wt_125 : Cond.methodLink RX4 58 yX1_lastsOf ∈ mWT := mt_3 (List.mem_of_getElem? (i := 31) rfl) rfl
theorem wt_126 : Cond.fieldLink RX4 61 "RoundsPerHour$Country" "shut" "[I" ∈ mWT := mt_1 (List.mem_of_getElem? (i := 68) rfl) rfl
theorem wt_127 : Cond.code yX4_best cX4_best 4 (some .int) ∈ mWT := mt_3 (List.mem_of_getElem? (i := 43) rfl) rfl
theorem wt_128 : Cond.methodLink RX9 209 yX4_best ∈ mWT := mt_3 (List.mem_of_getElem? (i := 40) rfl) rfl
theorem wt_129 : Cond.instanceMethod yX4_best ∈ mWT := mt_3 (List.mem_of_getElem? (i := 41) rfl) rfl
theorem wt_130 : Cond.selects RX4 yX4_best yX4_best ∈ mWT := mt_3 (List.mem_of_getElem? (i := 42) rfl) rfl
theorem wt_131 : Cond.code yX4_order cX4_order 3 (some .int) ∈ mWT := mt_3 (List.mem_of_getElem? (i := 47) rfl) rfl
theorem wt_132 : Cond.methodLink RX4 84 yX4_order ∈ mWT := mt_3 (List.mem_of_getElem? (i := 44) rfl) rfl
theorem wt_133 : Cond.instanceMethod yX4_order ∈ mWT := mt_3 (List.mem_of_getElem? (i := 45) rfl) rfl
theorem wt_134 : Cond.selects RX4 yX4_order yX4_order ∈ mWT := mt_3 (List.mem_of_getElem? (i := 46) rfl) rfl
theorem wt_135 : Cond.code yJ13_compare_74951 cJ13_compare_74951 4 (some .int) ∈ mWT := mt_3 (List.mem_of_getElem? (i := 50) rfl) rfl
theorem wt_136 : Cond.methodLink RX4 78 yJ13_compare_74951 ∈ mWT := mt_3 (List.mem_of_getElem? (i := 48) rfl) rfl
theorem wt_137 : Cond.static yJ13_compare_74951 ∈ mWT := mt_3 (List.mem_of_getElem? (i := 49) rfl) rfl
theorem wt_138 : Cond.initialized RJ13 ∈ mWT := mt_1 (List.mem_of_getElem? (i := 12) rfl) rfl
theorem wt_139 : Cond.fieldLink RX9 172 "RoundsPerHour$Rings" "above" "[J" ∈ mWT := mt_1 (List.mem_of_getElem? (i := 120) rfl) rfl
theorem wt_140 : Cond.fieldLink RX9 176 "RoundsPerHour$Rings" "below" "[J" ∈ mWT := mt_1 (List.mem_of_getElem? (i := 122) rfl) rfl
theorem wt_141 : Cond.code yX9_lowest cX9_lowest 7 (some .long) ∈ mWT := mt_3 (List.mem_of_getElem? (i := 53) rfl) rfl
theorem wt_142 : Cond.methodLink RX9 179 yX9_lowest ∈ mWT := mt_3 (List.mem_of_getElem? (i := 51) rfl) rfl
theorem wt_143 : Cond.static yX9_lowest ∈ mWT := mt_3 (List.mem_of_getElem? (i := 52) rfl) rfl
theorem wt_144 : Cond.code yX9_sharedBelowZero cX9_sharedBelowZero 11 (some .long) ∈ mWT := mt_3 (List.mem_of_getElem? (i := 56) rfl) rfl
theorem wt_145 : Cond.methodLink RX9 304 yX9_sharedBelowZero ∈ mWT := mt_3 (List.mem_of_getElem? (i := 54) rfl) rfl
theorem wt_146 : Cond.static yX9_sharedBelowZero ∈ mWT := mt_3 (List.mem_of_getElem? (i := 55) rfl) rfl
theorem wt_147 : Cond.code yX9_longFinding cX9_longFinding 2 (some .long) ∈ mWT := mt_3 (List.mem_of_getElem? (i := 20) rfl) rfl
theorem wt_148 : Cond.methodLink RX9 164 yX9_longFinding ∈ mWT := mt_3 (List.mem_of_getElem? (i := 17) rfl) rfl
theorem wt_149 : Cond.instanceMethod yX9_longFinding ∈ mWT := mt_3 (List.mem_of_getElem? (i := 19) rfl) rfl
theorem wt_150 : Cond.selects RX9 yX9_longFinding yX9_longFinding ∈ mWT := mt_s (⟨"RoundsPerHour", "longFinding", "(I)J"⟩, 12) (ml_1 (List.mem_of_getElem? (i := 2) rfl)) rfl rfl
theorem wt_151 : Cond.constantLong RX9 203 (-4000000000000000001) ∈ mWT := mt_3 (List.mem_of_getElem? (i := 21) rfl) rfl
theorem wt_152 : Cond.fieldLink RX9 183 "RoundsPerHour$Rings" "size" "I" ∈ mWT := mt_1 (List.mem_of_getElem? (i := 116) rfl) rfl
theorem wt_153 : Cond.methodLink RX9 186 yX4_order ∈ mWT := mt_3 (List.mem_of_getElem? (i := 61) rfl) rfl
theorem wt_154 : Cond.fieldLink RX9 189 "RoundsPerHour$Rings" "sets" "[I" ∈ mWT := mt_1 (List.mem_of_getElem? (i := 118) rfl) rfl
theorem wt_155 : Cond.code yX4_lifts cX4_lifts 10 (some .boolean) ∈ mWT := mt_3 (List.mem_of_getElem? (i := 69) rfl) rfl
theorem wt_156 : Cond.methodLink RX9 192 yX4_lifts ∈ mWT := mt_3 (List.mem_of_getElem? (i := 66) rfl) rfl
theorem wt_157 : Cond.instanceMethod yX4_lifts ∈ mWT := mt_3 (List.mem_of_getElem? (i := 67) rfl) rfl
theorem wt_158 : Cond.selects RX4 yX4_lifts yX4_lifts ∈ mWT := mt_3 (List.mem_of_getElem? (i := 68) rfl) rfl
theorem wt_159 : Cond.fieldLink RX4 22 "RoundsPerHour$Rings" "height" "[J" ∈ mWT := mt_1 (List.mem_of_getElem? (i := 123) rfl) rfl
theorem wt_160 : Cond.code yX4_step cX4_step 5 none ∈ mWT := mt_3 (List.mem_of_getElem? (i := 73) rfl) rfl
theorem wt_161 : Cond.methodLink RX4 108 yX4_step ∈ mWT := mt_3 (List.mem_of_getElem? (i := 70) rfl) rfl
theorem wt_162 : Cond.instanceMethod yX4_step ∈ mWT := mt_3 (List.mem_of_getElem? (i := 72) rfl) rfl
theorem wt_163 : Cond.selects RX4 yX4_step yX4_step ∈ mWT := mt_s (⟨"RoundsPerHour$Rings", "step", "(IIJ)V"⟩, 13) (ml_1 (List.mem_of_getElem? (i := 6) rfl)) rfl rfl
theorem wt_164 : Cond.fieldLink RX4 25 "RoundsPerHour$Rings" "reached" "[Z" ∈ mWT := mt_1 (List.mem_of_getElem? (i := 125) rfl) rfl
theorem wt_165 : Cond.fieldLink RX9 196 "RoundsPerHour$Rings" "height" "[J" ∈ mWT := mt_1 (List.mem_of_getElem? (i := 124) rfl) rfl
theorem wt_166 : Cond.code yX9_productFits cX9_productFits 4 (some .boolean) ∈ mWT := mt_3 (List.mem_of_getElem? (i := 80) rfl) rfl
theorem wt_167 : Cond.methodLink RX9 199 yX9_productFits ∈ mWT := mt_3 (List.mem_of_getElem? (i := 78) rfl) rfl
theorem wt_168 : Cond.static yX9_productFits ∈ mWT := mt_3 (List.mem_of_getElem? (i := 79) rfl) rfl
theorem wt_169 : Cond.constantLong RX9 374 (-1) ∈ mWT := mt_3 (List.mem_of_getElem? (i := 81) rfl) rfl
theorem wt_170 : Cond.constantLong RX9 307 (-9223372036854775808) ∈ mWT := mt_3 (List.mem_of_getElem? (i := 82) rfl) rfl
theorem wt_171 : Cond.methodLink RX9 220 Lib.MathLoose.min_long.x ∈ mWT := mt_3 (List.mem_of_getElem? (i := 96) rfl) rfl
theorem wt_172 : Cond.static Lib.MathLoose.min_long.x ∈ mWT := mt_3 (List.mem_of_getElem? (i := 97) rfl) rfl
theorem wt_173 : Cond.initialized "java/lang/Math" ∈ mWT := mt_1 (List.mem_of_getElem? (i := 13) rfl) rfl
theorem wt_174 : Cond.code Lib.MathLoose.min_long.x Lib.MathLoose.min_long.code 4 (some .long) ∈ mWT := mt_3 (List.mem_of_getElem? (i := 98) rfl) rfl
theorem wt_175 : Cond.constantLong RX9 226 (999999999) ∈ mWT := mt_3 (List.mem_of_getElem? (i := 99) rfl) rfl
theorem wt_176 : Cond.constantLong RX9 214 (-999999999) ∈ mWT := mt_3 (List.mem_of_getElem? (i := 88) rfl) rfl
theorem wt_177 : Cond.methodLink RX9 228 Lib.MathLoose.max_long.x ∈ mWT := mt_3 (List.mem_of_getElem? (i := 100) rfl) rfl
theorem wt_178 : Cond.static Lib.MathLoose.max_long.x ∈ mWT := mt_3 (List.mem_of_getElem? (i := 101) rfl) rfl
theorem wt_179 : Cond.code Lib.MathLoose.max_long.x Lib.MathLoose.max_long.code 4 (some .long) ∈ mWT := mt_3 (List.mem_of_getElem? (i := 102) rfl) rfl
theorem wt_180 : Cond.code yX4_missingTo cX4_missingTo 8 (some .long) ∈ mWT := mt_3 (List.mem_of_getElem? (i := 92) rfl) rfl
theorem wt_181 : Cond.methodLink RX9 216 yX4_missingTo ∈ mWT := mt_3 (List.mem_of_getElem? (i := 89) rfl) rfl
theorem wt_182 : Cond.instanceMethod yX4_missingTo ∈ mWT := mt_3 (List.mem_of_getElem? (i := 90) rfl) rfl
theorem wt_183 : Cond.selects RX4 yX4_missingTo yX4_missingTo ∈ mWT := mt_3 (List.mem_of_getElem? (i := 91) rfl) rfl
theorem wt_184 : Cond.code yJ9_floorDiv_f86c9 cJ9_floorDiv_f86c9 6 (some .long) ∈ mWT := mt_3 (List.mem_of_getElem? (i := 95) rfl) rfl
theorem wt_185 : Cond.methodLink RX4 102 yJ9_floorDiv_f86c9 ∈ mWT := mt_3 (List.mem_of_getElem? (i := 93) rfl) rfl
theorem wt_186 : Cond.static yJ9_floorDiv_f86c9 ∈ mWT := mt_3 (List.mem_of_getElem? (i := 94) rfl) rfl
theorem wt_187 : Cond.initialized RJ9 ∈ mWT := mt_1 (List.mem_of_getElem? (i := 13) rfl) rfl
theorem wt_188 : Cond.constantLong RX9 212 (1000000000) ∈ mWT := mt_3 (List.mem_of_getElem? (i := 87) rfl) rfl
theorem wt_189 : Cond.fieldLink RX9 19 "RoundsPerHour" "draft" "LRoundsPerHour$Country;" ∈ mWT := mt_2 (List.mem_of_getElem? (i := 113) rfl) rfl
theorem wt_190 : Cond.code yX4_rises cX4_rises 3 (some .boolean) ∈ mWT := mt_3 (List.mem_of_getElem? (i := 125) rfl) rfl
theorem wt_191 : Cond.methodLink RX9 238 yX4_rises ∈ mWT := mt_3 (List.mem_of_getElem? (i := 122) rfl) rfl
theorem wt_192 : Cond.instanceMethod yX4_rises ∈ mWT := mt_3 (List.mem_of_getElem? (i := 123) rfl) rfl
theorem wt_193 : Cond.selects RX4 yX4_rises yX4_rises ∈ mWT := mt_3 (List.mem_of_getElem? (i := 124) rfl) rfl
theorem wt_194 : Cond.fieldLink RX4 99 "RoundsPerHour$Rings" "peakAbove" "J" ∈ mWT := mt_1 (List.mem_of_getElem? (i := 131) rfl) rfl
theorem wt_195 : Cond.fieldLink RX4 88 "RoundsPerHour$Rings" "peakBelow" "J" ∈ mWT := mt_1 (List.mem_of_getElem? (i := 132) rfl) rfl
theorem wt_196 : Cond.methodLink RX4 92 yX4_gather ∈ mWT := mt_3 (List.mem_of_getElem? (i := 126) rfl) rfl
theorem wt_197 : Cond.methodLink RX4 96 yX4_best ∈ mWT := mt_3 (List.mem_of_getElem? (i := 127) rfl) rfl
theorem wt_198 : Cond.code yX1_become cX1_become 2 none ∈ mWT := mt_3 (List.mem_of_getElem? (i := 114) rfl) rfl
theorem wt_199 : Cond.methodLink RX9 231 yX1_become ∈ mWT := mt_3 (List.mem_of_getElem? (i := 111) rfl) rfl
theorem wt_200 : Cond.instanceMethod yX1_become ∈ mWT := mt_3 (List.mem_of_getElem? (i := 112) rfl) rfl
theorem wt_201 : Cond.selects RX1 yX1_become yX1_become ∈ mWT := mt_3 (List.mem_of_getElem? (i := 113) rfl) rfl
theorem wt_202 : Cond.methodLink RX1 80 arraycopyName ∈ mWT := mt_3 (List.mem_of_getElem? (i := 115) rfl) rfl
theorem wt_203 : Cond.native arraycopyName ∈ mWT := mt_3 (List.mem_of_getElem? (i := 117) rfl) rfl
theorem wt_204 : Cond.static arraycopyName ∈ mWT := mt_3 (List.mem_of_getElem? (i := 116) rfl) rfl
theorem wt_205 : Cond.initialized "java/lang/System" ∈ mWT := mt_1 (List.mem_of_getElem? (i := 14) rfl) rfl
theorem wt_206 : Cond.code yX4_forget cX4_forget 1 none ∈ mWT := mt_3 (List.mem_of_getElem? (i := 121) rfl) rfl
theorem wt_207 : Cond.methodLink RX9 235 yX4_forget ∈ mWT := mt_3 (List.mem_of_getElem? (i := 118) rfl) rfl
theorem wt_208 : Cond.instanceMethod yX4_forget ∈ mWT := mt_3 (List.mem_of_getElem? (i := 119) rfl) rfl
theorem wt_209 : Cond.selects RX4 yX4_forget yX4_forget ∈ mWT := mt_3 (List.mem_of_getElem? (i := 120) rfl) rfl
theorem wt_210 : Cond.fieldLink RX9 32 "RoundsPerHour" "trees" "LRoundsPerHour$TreeClimb;" ∈ mWT := mt_2 (List.mem_of_getElem? (i := 116) rfl) rfl
theorem wt_211 : Cond.code yX7_climbs cX7_climbs 2 (some .boolean) ∈ mWT := mt_3 (List.mem_of_getElem? (i := 139) rfl) rfl
theorem wt_212 : Cond.methodLink RX9 242 yX7_climbs ∈ mWT := mt_3 (List.mem_of_getElem? (i := 136) rfl) rfl
theorem wt_213 : Cond.instanceMethod yX7_climbs ∈ mWT := mt_3 (List.mem_of_getElem? (i := 137) rfl) rfl
theorem wt_214 : Cond.selects RX7 yX7_climbs yX7_climbs ∈ mWT := mt_3 (List.mem_of_getElem? (i := 138) rfl) rfl
theorem wt_215 : Cond.initialized RX7 ∈ mWT := mt_1 (List.mem_of_getElem? (i := 5) rfl) rfl
theorem wt_216 : Cond.fieldLink RX7 18 "RoundsPerHour$TreeClimb" "land" "LRoundsPerHour$Country;" ∈ mWT := mt_1 (List.mem_of_getElem? (i := 182) rfl) rfl
theorem wt_217 : Cond.code yX0_takeWays cX0_takeWays 3 none ∈ mWT := mt_3 (List.mem_of_getElem? (i := 145) rfl) rfl
theorem wt_218 : Cond.methodLink RX7 22 ⟨"RoundsPerHour$TreeClimb", "takeWays", "(LRoundsPerHour$Country;)V"⟩ ∈ mWT := mt_3 (List.mem_of_getElem? (i := 140) rfl) rfl
theorem wt_219 : Cond.sameMethod "RoundsPerHour$TreeClimb" "RoundsPerHour$Climb" "takeWays" "(LRoundsPerHour$Country;)V" ∈ mWT := mt_3 (List.mem_of_getElem? (i := 141) rfl) rfl
theorem wt_220 : Cond.selects RX7 ⟨"RoundsPerHour$TreeClimb", "takeWays", "(LRoundsPerHour$Country;)V"⟩ yX0_takeWays ∈ mWT := mt_3 (List.mem_of_getElem? (i := 143) rfl) rfl
theorem wt_221 : Cond.instanceMethod yX0_takeWays ∈ mWT := mt_3 (List.mem_of_getElem? (i := 144) rfl) rfl
theorem wt_222 : Cond.initialized RX0 ∈ mWT := mt_1 (List.mem_of_getElem? (i := 4) rfl) rfl
theorem wt_223 : Cond.fieldLink RX0 27 "RoundsPerHour$Climb" "size" "I" ∈ mWT := mt_1 (List.mem_of_getElem? (i := 193) rfl) rfl
theorem wt_224 : Cond.fieldLink RX0 9 "RoundsPerHour$Climb" "gains" "[J" ∈ mWT := mt_1 (List.mem_of_getElem? (i := 204) rfl) rfl
theorem wt_225 : Cond.methodLink RX0 30 yX1_bringsOf ∈ mWT := mt_3 (List.mem_of_getElem? (i := 146) rfl) rfl
theorem wt_226 : Cond.fieldLink RX0 15 "RoundsPerHour$Climb" "times" "[J" ∈ mWT := mt_1 (List.mem_of_getElem? (i := 207) rfl) rfl
theorem wt_227 : Cond.methodLink RX0 34 yX1_lastsOf ∈ mWT := mt_3 (List.mem_of_getElem? (i := 147) rfl) rfl
theorem wt_228 : Cond.fieldLink RX0 21 "RoundsPerHour$Country" "ways" "I" ∈ mWT := mt_1 (List.mem_of_getElem? (i := 45) rfl) rfl
theorem wt_229 : Cond.code yX0_runs cX0_runs 7 (some .boolean) ∈ mWT := mt_3 (List.mem_of_getElem? (i := 153) rfl) rfl
theorem wt_230 : Cond.methodLink RX7 26 ⟨"RoundsPerHour$TreeClimb", "runs", "()Z"⟩ ∈ mWT := mt_3 (List.mem_of_getElem? (i := 148) rfl) rfl
theorem wt_231 : Cond.sameMethod "RoundsPerHour$TreeClimb" "RoundsPerHour$Climb" "runs" "()Z" ∈ mWT := mt_3 (List.mem_of_getElem? (i := 149) rfl) rfl
theorem wt_232 : Cond.selects RX7 ⟨"RoundsPerHour$TreeClimb", "runs", "()Z"⟩ yX0_runs ∈ mWT := mt_3 (List.mem_of_getElem? (i := 151) rfl) rfl
theorem wt_233 : Cond.instanceMethod yX0_runs ∈ mWT := mt_3 (List.mem_of_getElem? (i := 152) rfl) rfl
theorem wt_234 : Cond.fieldLink RX0 45 "RoundsPerHour$Climb" "steps" "I" ∈ mWT := mt_1 (List.mem_of_getElem? (i := 185) rfl) rfl
theorem wt_235 : Cond.fieldLink RX0 48 "RoundsPerHour$Climb" "baseAbove" "J" ∈ mWT := mt_1 (List.mem_of_getElem? (i := 200) rfl) rfl
theorem wt_236 : Cond.code yX0_together cX0_together 6 (some .long) ∈ mWT := mt_3 (List.mem_of_getElem? (i := 193) rfl) rfl
theorem wt_237 : Cond.methodLink RX0 52 ⟨"RoundsPerHour$Climb", "together", "([JI)J"⟩ ∈ mWT := mt_3 (List.mem_of_getElem? (i := 190) rfl) rfl
theorem wt_238 : Cond.sameMethod "RoundsPerHour$Climb" "RoundsPerHour$Climb" "together" "([JI)J" ∈ mWT := mt_7 (List.mem_of_getElem? (i := 38) rfl) rfl
theorem wt_239 : Cond.selects RX7 ⟨"RoundsPerHour$Climb", "together", "([JI)J"⟩ yX0_together ∈ mWT := mt_x (List.mem_of_getElem? (i := 1) rfl) rfl
theorem wt_240 : Cond.instanceMethod yX0_together ∈ mWT := mt_3 (List.mem_of_getElem? (i := 192) rfl) rfl
theorem wt_241 : Cond.fieldLink RX0 56 "RoundsPerHour$Climb" "above" "J" ∈ mWT := mt_1 (List.mem_of_getElem? (i := 187) rfl) rfl
theorem wt_242 : Cond.fieldLink RX0 59 "RoundsPerHour$Climb" "baseBelow" "J" ∈ mWT := mt_1 (List.mem_of_getElem? (i := 203) rfl) rfl
theorem wt_243 : Cond.fieldLink RX0 62 "RoundsPerHour$Climb" "below" "J" ∈ mWT := mt_1 (List.mem_of_getElem? (i := 189) rfl) rfl
theorem wt_244 : Cond.code yX0_weigh cX0_weigh 6 none ∈ mWT := mt_3 (List.mem_of_getElem? (i := 157) rfl) rfl
theorem wt_245 : Cond.methodLink RX0 37 ⟨"RoundsPerHour$Climb", "weigh", "(JJ)V"⟩ ∈ mWT := mt_3 (List.mem_of_getElem? (i := 154) rfl) rfl
theorem wt_246 : Cond.sameMethod "RoundsPerHour$Climb" "RoundsPerHour$Climb" "weigh" "(JJ)V" ∈ mWT := mt_7 (List.mem_of_getElem? (i := 37) rfl) rfl
theorem wt_247 : Cond.selects RX7 ⟨"RoundsPerHour$Climb", "weigh", "(JJ)V"⟩ yX0_weigh ∈ mWT := mt_x (List.mem_of_getElem? (i := 4) rfl) rfl
theorem wt_248 : Cond.instanceMethod yX0_weigh ∈ mWT := mt_3 (List.mem_of_getElem? (i := 156) rfl) rfl
theorem wt_249 : Cond.fieldLink RX0 18 "RoundsPerHour$Climb" "weight" "[J" ∈ mWT := mt_1 (List.mem_of_getElem? (i := 210) rfl) rfl
theorem wt_250 : Cond.code yX7_pick cX7_pick 4 (some .int) ∈ mWT := mt_3 (List.mem_of_getElem? (i := 166) rfl) rfl
theorem wt_251 : Cond.methodLink RX0 41 ⟨"RoundsPerHour$Climb", "pick", "()I"⟩ ∈ mWT := mt_3 (List.mem_of_getElem? (i := 158) rfl) rfl
theorem wt_252 : Cond.sameMethod "RoundsPerHour$Climb" "RoundsPerHour$Climb" "pick" "()I" ∈ mWT := mt_3 (List.mem_of_getElem? (i := 160) rfl) rfl
theorem wt_253 : Cond.selects RX7 ⟨"RoundsPerHour$Climb", "pick", "()I"⟩ yX7_pick ∈ mWT := mt_3 (List.mem_of_getElem? (i := 164) rfl) rfl
theorem wt_254 : Cond.instanceMethod yX7_pick ∈ mWT := mt_3 (List.mem_of_getElem? (i := 165) rfl) rfl
theorem wt_255 : Cond.fieldLink RX7 33 "RoundsPerHour$Country" "places" "I" ∈ mWT := mt_1 (List.mem_of_getElem? (i := 37) rfl) rfl
theorem wt_256 : Cond.code yX7_heaviestJoining cX7_heaviestJoining 4 (some .int) ∈ mWT := mt_3 (List.mem_of_getElem? (i := 174) rfl) rfl
theorem wt_257 : Cond.methodLink RX7 39 yX7_heaviestJoining ∈ mWT := mt_3 (List.mem_of_getElem? (i := 171) rfl) rfl
theorem wt_258 : Cond.instanceMethod yX7_heaviestJoining ∈ mWT := mt_3 (List.mem_of_getElem? (i := 173) rfl) rfl
theorem wt_259 : Cond.selects RX7 yX7_heaviestJoining yX7_heaviestJoining ∈ mWT := mt_s (⟨"RoundsPerHour$TreeClimb", "heaviestJoining", "()I"⟩, 12) (ml_1 (List.mem_of_getElem? (i := 7) rfl)) rfl rfl
theorem wt_260 : Cond.fieldLink RX7 64 "RoundsPerHour$TreeClimb" "weight" "[J" ∈ mWT := mt_1 (List.mem_of_getElem? (i := 215) rfl) rfl
theorem wt_261 : Cond.sameField "RoundsPerHour$TreeClimb" "RoundsPerHour$Climb" "weight" "[J" ∈ mWT := mt_1 (List.mem_of_getElem? (i := 216) rfl) rfl
theorem wt_262 : Cond.fieldLink RX7 54 "RoundsPerHour$TreeClimb" "size" "I" ∈ mWT := mt_1 (List.mem_of_getElem? (i := 196) rfl) rfl
theorem wt_263 : Cond.sameField "RoundsPerHour$TreeClimb" "RoundsPerHour$Climb" "size" "I" ∈ mWT := mt_1 (List.mem_of_getElem? (i := 197) rfl) rfl
theorem wt_264 : Cond.fieldLink RX7 57 "RoundsPerHour$Country" "shut" "[I" ∈ mWT := mt_1 (List.mem_of_getElem? (i := 69) rfl) rfl
theorem wt_265 : Cond.fieldLink RX7 12 "RoundsPerHour$TreeClimb" "joins" "LRoundsPerHour$Joins;" ∈ mWT := mt_1 (List.mem_of_getElem? (i := 181) rfl) rfl
theorem wt_266 : Cond.fieldLink RX7 43 "RoundsPerHour$Country" "from" "[I" ∈ mWT := mt_1 (List.mem_of_getElem? (i := 54) rfl) rfl
theorem wt_267 : Cond.fieldLink RX7 47 "RoundsPerHour$Country" "to" "[I" ∈ mWT := mt_1 (List.mem_of_getElem? (i := 60) rfl) rfl
theorem wt_268 : Cond.code yX2_apart cX2_apart 3 (some .boolean) ∈ mWT := mt_3 (List.mem_of_getElem? (i := 178) rfl) rfl
theorem wt_269 : Cond.methodLink RX7 60 yX2_apart ∈ mWT := mt_3 (List.mem_of_getElem? (i := 175) rfl) rfl
theorem wt_270 : Cond.instanceMethod yX2_apart ∈ mWT := mt_3 (List.mem_of_getElem? (i := 176) rfl) rfl
theorem wt_271 : Cond.selects RX2 yX2_apart yX2_apart ∈ mWT := mt_3 (List.mem_of_getElem? (i := 177) rfl) rfl
theorem wt_272 : Cond.initialized RX2 ∈ mWT := mt_1 (List.mem_of_getElem? (i := 6) rfl) rfl
theorem wt_273 : Cond.fieldLink RX2 9 "RoundsPerHour$Joins" "label" "[I" ∈ mWT := mt_1 (List.mem_of_getElem? (i := 177) rfl) rfl
theorem wt_274 : Cond.code yX2_join cX2_join 6 none ∈ mWT := mt_3 (List.mem_of_getElem? (i := 182) rfl) rfl
theorem wt_275 : Cond.methodLink RX7 50 yX2_join ∈ mWT := mt_3 (List.mem_of_getElem? (i := 179) rfl) rfl
theorem wt_276 : Cond.instanceMethod yX2_join ∈ mWT := mt_3 (List.mem_of_getElem? (i := 180) rfl) rfl
theorem wt_277 : Cond.selects RX2 yX2_join yX2_join ∈ mWT := mt_3 (List.mem_of_getElem? (i := 181) rfl) rfl
theorem wt_278 : Cond.code yX2_part cX2_part 2 none ∈ mWT := mt_3 (List.mem_of_getElem? (i := 170) rfl) rfl
theorem wt_279 : Cond.methodLink RX7 30 yX2_part ∈ mWT := mt_3 (List.mem_of_getElem? (i := 167) rfl) rfl
theorem wt_280 : Cond.instanceMethod yX2_part ∈ mWT := mt_3 (List.mem_of_getElem? (i := 168) rfl) rfl
theorem wt_281 : Cond.selects RX2 yX2_part yX2_part ∈ mWT := mt_3 (List.mem_of_getElem? (i := 169) rfl) rfl
theorem wt_282 : Cond.fieldLink RX0 65 "RoundsPerHour$Climb" "best" "I" ∈ mWT := mt_1 (List.mem_of_getElem? (i := 183) rfl) rfl
theorem wt_283 : Cond.code yX9_told cX9_told 4 (some .long) ∈ mWT := mt_3 (List.mem_of_getElem? (i := 197) rfl) rfl
theorem wt_284 : Cond.methodLink RX9 245 yX9_told ∈ mWT := mt_3 (List.mem_of_getElem? (i := 194) rfl) rfl
theorem wt_285 : Cond.instanceMethod yX9_told ∈ mWT := mt_3 (List.mem_of_getElem? (i := 196) rfl) rfl
theorem wt_286 : Cond.selects RX9 yX9_told yX9_told ∈ mWT := mt_s (⟨"RoundsPerHour", "told", "(LRoundsPerHour$Climb;ZI)J"⟩, 12) (ml_1 (List.mem_of_getElem? (i := 9) rfl)) rfl rfl
theorem wt_287 : Cond.fieldLink RX9 255 "RoundsPerHour$Climb" "best" "I" ∈ mWT := mt_1 (List.mem_of_getElem? (i := 184) rfl) rfl
theorem wt_288 : Cond.fieldLink RX9 259 "RoundsPerHour$Climb" "steps" "I" ∈ mWT := mt_1 (List.mem_of_getElem? (i := 186) rfl) rfl
theorem wt_289 : Cond.fieldLink RX9 262 "RoundsPerHour$Climb" "above" "J" ∈ mWT := mt_1 (List.mem_of_getElem? (i := 188) rfl) rfl
theorem wt_290 : Cond.fieldLink RX9 265 "RoundsPerHour$Climb" "below" "J" ∈ mWT := mt_1 (List.mem_of_getElem? (i := 190) rfl) rfl
theorem wt_291 : Cond.fieldLink RX9 39 "RoundsPerHour" "walks" "LRoundsPerHour$WalkClimb;" ∈ mWT := mt_2 (List.mem_of_getElem? (i := 117) rfl) rfl
theorem wt_292 : Cond.code yX8_climbs cX8_climbs 4 (some .boolean) ∈ mWT := mt_3 (List.mem_of_getElem? (i := 205) rfl) rfl
theorem wt_293 : Cond.methodLink RX9 249 yX8_climbs ∈ mWT := mt_3 (List.mem_of_getElem? (i := 202) rfl) rfl
theorem wt_294 : Cond.instanceMethod yX8_climbs ∈ mWT := mt_3 (List.mem_of_getElem? (i := 203) rfl) rfl
theorem wt_295 : Cond.selects RX8 yX8_climbs yX8_climbs ∈ mWT := mt_3 (List.mem_of_getElem? (i := 204) rfl) rfl
theorem wt_296 : Cond.initialized RX8 ∈ mWT := mt_1 (List.mem_of_getElem? (i := 7) rfl) rfl
theorem wt_297 : Cond.fieldLink RX8 19 "RoundsPerHour$WalkClimb" "land" "LRoundsPerHour$Country;" ∈ mWT := mt_2 (List.mem_of_getElem? (i := 10) rfl) rfl
theorem wt_298 : Cond.fieldLink RX8 23 "RoundsPerHour$WalkClimb" "start" "I" ∈ mWT := mt_2 (List.mem_of_getElem? (i := 11) rfl) rfl
theorem wt_299 : Cond.fieldLink RX8 27 "RoundsPerHour$WalkClimb" "end" "I" ∈ mWT := mt_2 (List.mem_of_getElem? (i := 12) rfl) rfl
theorem wt_300 : Cond.methodLink RX8 30 ⟨"RoundsPerHour$WalkClimb", "takeWays", "(LRoundsPerHour$Country;)V"⟩ ∈ mWT := mt_3 (List.mem_of_getElem? (i := 206) rfl) rfl
theorem wt_301 : Cond.sameMethod "RoundsPerHour$WalkClimb" "RoundsPerHour$Climb" "takeWays" "(LRoundsPerHour$Country;)V" ∈ mWT := mt_3 (List.mem_of_getElem? (i := 207) rfl) rfl
theorem wt_302 : Cond.selects RX8 ⟨"RoundsPerHour$WalkClimb", "takeWays", "(LRoundsPerHour$Country;)V"⟩ yX0_takeWays ∈ mWT := mt_3 (List.mem_of_getElem? (i := 208) rfl) rfl
theorem wt_303 : Cond.methodLink RX8 34 ⟨"RoundsPerHour$WalkClimb", "runs", "()Z"⟩ ∈ mWT := mt_3 (List.mem_of_getElem? (i := 209) rfl) rfl
theorem wt_304 : Cond.sameMethod "RoundsPerHour$WalkClimb" "RoundsPerHour$Climb" "runs" "()Z" ∈ mWT := mt_3 (List.mem_of_getElem? (i := 210) rfl) rfl
theorem wt_305 : Cond.selects RX8 ⟨"RoundsPerHour$WalkClimb", "runs", "()Z"⟩ yX0_runs ∈ mWT := mt_3 (List.mem_of_getElem? (i := 211) rfl) rfl
theorem wt_306 : Cond.selects RX8 ⟨"RoundsPerHour$Climb", "together", "([JI)J"⟩ yX0_together ∈ mWT := mt_x (List.mem_of_getElem? (i := 2) rfl) rfl
theorem wt_307 : Cond.selects RX8 ⟨"RoundsPerHour$Climb", "weigh", "(JJ)V"⟩ yX0_weigh ∈ mWT := mt_x (List.mem_of_getElem? (i := 5) rfl) rfl
theorem wt_308 : Cond.code yX8_pick cX8_pick 2 (some .int) ∈ mWT := mt_3 (List.mem_of_getElem? (i := 185) rfl) rfl
theorem wt_309 : Cond.selects RX8 ⟨"RoundsPerHour$Climb", "pick", "()I"⟩ yX8_pick ∈ mWT := mt_3 (List.mem_of_getElem? (i := 183) rfl) rfl
theorem wt_310 : Cond.instanceMethod yX8_pick ∈ mWT := mt_3 (List.mem_of_getElem? (i := 184) rfl) rfl
theorem wt_311 : Cond.fieldLink RX8 15 "RoundsPerHour$WalkClimb" "sets" "[I" ∈ mWT := mt_2 (List.mem_of_getElem? (i := 9) rfl) rfl
theorem wt_312 : Cond.code yX8_leave cX8_leave 8 none ∈ mWT := mt_3 (List.mem_of_getElem? (i := 189) rfl) rfl
theorem wt_313 : Cond.methodLink RX8 38 yX8_leave ∈ mWT := mt_3 (List.mem_of_getElem? (i := 186) rfl) rfl
theorem wt_314 : Cond.instanceMethod yX8_leave ∈ mWT := mt_3 (List.mem_of_getElem? (i := 188) rfl) rfl
theorem wt_315 : Cond.selects RX8 yX8_leave yX8_leave ∈ mWT := mt_s (⟨"RoundsPerHour$WalkClimb", "leave", "(I)V"⟩, 15) (ml_1 (List.mem_of_getElem? (i := 8) rfl)) rfl rfl
theorem wt_316 : Cond.fieldLink RX8 9 "RoundsPerHour$WalkClimb" "height" "[J" ∈ mWT := mt_2 (List.mem_of_getElem? (i := 8) rfl) rfl
theorem wt_317 : Cond.fieldLink RX8 42 "RoundsPerHour$WalkClimb" "size" "I" ∈ mWT := mt_1 (List.mem_of_getElem? (i := 194) rfl) rfl
theorem wt_318 : Cond.sameField "RoundsPerHour$WalkClimb" "RoundsPerHour$Climb" "size" "I" ∈ mWT := mt_1 (List.mem_of_getElem? (i := 195) rfl) rfl
theorem wt_319 : Cond.fieldLink RX8 45 "RoundsPerHour$Country" "to" "[I" ∈ mWT := mt_1 (List.mem_of_getElem? (i := 61) rfl) rfl
theorem wt_320 : Cond.fieldLink RX8 50 "RoundsPerHour$Country" "shut" "[I" ∈ mWT := mt_1 (List.mem_of_getElem? (i := 70) rfl) rfl
theorem wt_321 : Cond.fieldLink RX8 53 "RoundsPerHour$Country" "from" "[I" ∈ mWT := mt_1 (List.mem_of_getElem? (i := 55) rfl) rfl
theorem wt_322 : Cond.fieldLink RX8 56 "RoundsPerHour$WalkClimb" "weight" "[J" ∈ mWT := mt_1 (List.mem_of_getElem? (i := 213) rfl) rfl
theorem wt_323 : Cond.sameField "RoundsPerHour$WalkClimb" "RoundsPerHour$Climb" "weight" "[J" ∈ mWT := mt_1 (List.mem_of_getElem? (i := 214) rfl) rfl
theorem wt_324 : Cond.fieldLink RX9 46 "RoundsPerHour" "loads" "LRoundsPerHour$LoadClimb;" ∈ mWT := mt_2 (List.mem_of_getElem? (i := 118) rfl) rfl
theorem wt_325 : Cond.code yX3_climbs cX3_climbs 4 (some .boolean) ∈ mWT := mt_3 (List.mem_of_getElem? (i := 219) rfl) rfl
theorem wt_326 : Cond.methodLink RX9 252 yX3_climbs ∈ mWT := mt_3 (List.mem_of_getElem? (i := 216) rfl) rfl
theorem wt_327 : Cond.instanceMethod yX3_climbs ∈ mWT := mt_3 (List.mem_of_getElem? (i := 217) rfl) rfl
theorem wt_328 : Cond.selects RX3 yX3_climbs yX3_climbs ∈ mWT := mt_3 (List.mem_of_getElem? (i := 218) rfl) rfl
theorem wt_329 : Cond.initialized RX3 ∈ mWT := mt_1 (List.mem_of_getElem? (i := 8) rfl) rfl
theorem wt_330 : Cond.fieldLink RX3 18 "RoundsPerHour$LoadClimb" "size" "I" ∈ mWT := mt_1 (List.mem_of_getElem? (i := 191) rfl) rfl
theorem wt_331 : Cond.sameField "RoundsPerHour$LoadClimb" "RoundsPerHour$Climb" "size" "I" ∈ mWT := mt_1 (List.mem_of_getElem? (i := 192) rfl) rfl
theorem wt_332 : Cond.methodLink RX3 42 ⟨"RoundsPerHour$LoadClimb", "runs", "()Z"⟩ ∈ mWT := mt_3 (List.mem_of_getElem? (i := 220) rfl) rfl
theorem wt_333 : Cond.sameMethod "RoundsPerHour$LoadClimb" "RoundsPerHour$Climb" "runs" "()Z" ∈ mWT := mt_3 (List.mem_of_getElem? (i := 221) rfl) rfl
theorem wt_334 : Cond.selects RX3 ⟨"RoundsPerHour$LoadClimb", "runs", "()Z"⟩ yX0_runs ∈ mWT := mt_3 (List.mem_of_getElem? (i := 222) rfl) rfl
theorem wt_335 : Cond.selects RX3 ⟨"RoundsPerHour$Climb", "together", "([JI)J"⟩ yX0_together ∈ mWT := mt_x (List.mem_of_getElem? (i := 0) rfl) rfl
theorem wt_336 : Cond.selects RX3 ⟨"RoundsPerHour$Climb", "weigh", "(JJ)V"⟩ yX0_weigh ∈ mWT := mt_x (List.mem_of_getElem? (i := 3) rfl) rfl
theorem wt_337 : Cond.code yX3_pick cX3_pick 5 (some .int) ∈ mWT := mt_3 (List.mem_of_getElem? (i := 163) rfl) rfl
theorem wt_338 : Cond.selects RX3 ⟨"RoundsPerHour$Climb", "pick", "()I"⟩ yX3_pick ∈ mWT := mt_3 (List.mem_of_getElem? (i := 161) rfl) rfl
theorem wt_339 : Cond.instanceMethod yX3_pick ∈ mWT := mt_3 (List.mem_of_getElem? (i := 162) rfl) rfl
theorem wt_340 : Cond.fieldLink RX3 46 "RoundsPerHour$LoadClimb" "weight" "[J" ∈ mWT := mt_1 (List.mem_of_getElem? (i := 211) rfl) rfl
theorem wt_341 : Cond.sameField "RoundsPerHour$LoadClimb" "RoundsPerHour$Climb" "weight" "[J" ∈ mWT := mt_1 (List.mem_of_getElem? (i := 212) rfl) rfl
theorem wt_342 : Cond.fieldLink RX3 7 "RoundsPerHour$LoadClimb" "most" "I" ∈ mWT := mt_2 (List.mem_of_getElem? (i := 40) rfl) rfl
theorem wt_343 : Cond.fieldLink RX3 35 "RoundsPerHour$LoadClimb" "gains" "[J" ∈ mWT := mt_1 (List.mem_of_getElem? (i := 205) rfl) rfl
theorem wt_344 : Cond.sameField "RoundsPerHour$LoadClimb" "RoundsPerHour$Climb" "gains" "[J" ∈ mWT := mt_1 (List.mem_of_getElem? (i := 206) rfl) rfl
theorem wt_345 : Cond.fieldLink RX3 21 "RoundsPerHour$Country" "thingGain" "[I" ∈ mWT := mt_1 (List.mem_of_getElem? (i := 78) rfl) rfl
theorem wt_346 : Cond.fieldLink RX3 39 "RoundsPerHour$LoadClimb" "times" "[J" ∈ mWT := mt_1 (List.mem_of_getElem? (i := 208) rfl) rfl
theorem wt_347 : Cond.sameField "RoundsPerHour$LoadClimb" "RoundsPerHour$Climb" "times" "[J" ∈ mWT := mt_1 (List.mem_of_getElem? (i := 209) rfl) rfl
theorem wt_348 : Cond.fieldLink RX3 29 "RoundsPerHour$Country" "thingTime" "[I" ∈ mWT := mt_1 (List.mem_of_getElem? (i := 81) rfl) rfl
theorem wt_349 : Cond.fieldLink RX3 13 "RoundsPerHour$Country" "things" "I" ∈ mWT := mt_1 (List.mem_of_getElem? (i := 73) rfl) rfl
theorem wt_350 : Cond.fieldLink RX3 25 "RoundsPerHour$LoadClimb" "baseAbove" "J" ∈ mWT := mt_1 (List.mem_of_getElem? (i := 198) rfl) rfl
theorem wt_351 : Cond.sameField "RoundsPerHour$LoadClimb" "RoundsPerHour$Climb" "baseAbove" "J" ∈ mWT := mt_1 (List.mem_of_getElem? (i := 199) rfl) rfl
theorem wt_352 : Cond.fieldLink RX3 32 "RoundsPerHour$LoadClimb" "baseBelow" "J" ∈ mWT := mt_1 (List.mem_of_getElem? (i := 201) rfl) rfl
theorem wt_353 : Cond.sameField "RoundsPerHour$LoadClimb" "RoundsPerHour$Climb" "baseBelow" "J" ∈ mWT := mt_1 (List.mem_of_getElem? (i := 202) rfl) rfl
theorem wt_354 : Cond.code yX9_isChoice cX9_isChoice 3 (some .boolean) ∈ mWT := mt_3 (List.mem_of_getElem? (i := 230) rfl) rfl
theorem wt_355 : Cond.methodLink RX9 267 yX9_isChoice ∈ mWT := mt_3 (List.mem_of_getElem? (i := 227) rfl) rfl
theorem wt_356 : Cond.instanceMethod yX9_isChoice ∈ mWT := mt_3 (List.mem_of_getElem? (i := 229) rfl) rfl
theorem wt_357 : Cond.selects RX9 yX9_isChoice yX9_isChoice ∈ mWT := mt_s (⟨"RoundsPerHour", "isChoice", "(II)Z"⟩, 12) (ml_1 (List.mem_of_getElem? (i := 10) rfl)) rfl rfl
theorem wt_358 : Cond.code yX1_isOpenSet cX1_isOpenSet 3 (some .boolean) ∈ mWT := mt_3 (List.mem_of_getElem? (i := 234) rfl) rfl
theorem wt_359 : Cond.methodLink RX9 282 yX1_isOpenSet ∈ mWT := mt_3 (List.mem_of_getElem? (i := 231) rfl) rfl
theorem wt_360 : Cond.instanceMethod yX1_isOpenSet ∈ mWT := mt_3 (List.mem_of_getElem? (i := 232) rfl) rfl
theorem wt_361 : Cond.selects RX1 yX1_isOpenSet yX1_isOpenSet ∈ mWT := mt_3 (List.mem_of_getElem? (i := 233) rfl) rfl
theorem wt_362 : Cond.code yX1_isRing cX1_isRing 7 (some .boolean) ∈ mWT := mt_3 (List.mem_of_getElem? (i := 238) rfl) rfl
theorem wt_363 : Cond.methodLink RX9 285 yX1_isRing ∈ mWT := mt_3 (List.mem_of_getElem? (i := 235) rfl) rfl
theorem wt_364 : Cond.instanceMethod yX1_isRing ∈ mWT := mt_3 (List.mem_of_getElem? (i := 236) rfl) rfl
theorem wt_365 : Cond.selects RX1 yX1_isRing yX1_isRing ∈ mWT := mt_3 (List.mem_of_getElem? (i := 237) rfl) rfl
theorem wt_366 : Cond.code yX1_firstFrom cX1_firstFrom 4 (some .int) ∈ mWT := mt_4 (List.mem_of_getElem? (i := 2) rfl) rfl
theorem wt_367 : Cond.methodLink RX1 60 yX1_firstFrom ∈ mWT := mt_3 (List.mem_of_getElem? (i := 239) rfl) rfl
theorem wt_368 : Cond.instanceMethod yX1_firstFrom ∈ mWT := mt_4 (List.mem_of_getElem? (i := 1) rfl) rfl
theorem wt_369 : Cond.selects RX1 yX1_firstFrom yX1_firstFrom ∈ mWT := mt_s (⟨"RoundsPerHour$Country", "firstFrom", "(II)I"⟩, 12) (ml_1 (List.mem_of_getElem? (i := 11) rfl)) rfl rfl
theorem wt_370 : Cond.code yJ6_bitCount_0f7a4 cJ6_bitCount_0f7a4 1 (some .int) ∈ mWT := mt_4 (List.mem_of_getElem? (i := 5) rfl) rfl
theorem wt_371 : Cond.methodLink RX1 64 yJ6_bitCount_0f7a4 ∈ mWT := mt_4 (List.mem_of_getElem? (i := 3) rfl) rfl
theorem wt_372 : Cond.static yJ6_bitCount_0f7a4 ∈ mWT := mt_4 (List.mem_of_getElem? (i := 4) rfl) rfl
theorem wt_373 : Cond.initialized RJ6 ∈ mWT := mt_1 (List.mem_of_getElem? (i := 15) rfl) rfl
theorem wt_374 : Cond.constant RJ6 265 (1431655765) ∈ mWT := mt_4 (List.mem_of_getElem? (i := 6) rfl) rfl
theorem wt_375 : Cond.constant RJ6 266 (858993459) ∈ mWT := mt_4 (List.mem_of_getElem? (i := 7) rfl) rfl
theorem wt_376 : Cond.constant RJ6 267 (252645135) ∈ mWT := mt_4 (List.mem_of_getElem? (i := 8) rfl) rfl
theorem wt_377 : Cond.fieldLink RX9 53 "RoundsPerHour" "joins" "LRoundsPerHour$Joins;" ∈ mWT := mt_2 (List.mem_of_getElem? (i := 119) rfl) rfl
theorem wt_378 : Cond.code yX2_isTree cX2_isTree 4 (some .boolean) ∈ mWT := mt_4 (List.mem_of_getElem? (i := 12) rfl) rfl
theorem wt_379 : Cond.methodLink RX9 288 yX2_isTree ∈ mWT := mt_4 (List.mem_of_getElem? (i := 9) rfl) rfl
theorem wt_380 : Cond.instanceMethod yX2_isTree ∈ mWT := mt_4 (List.mem_of_getElem? (i := 10) rfl) rfl
theorem wt_381 : Cond.selects RX2 yX2_isTree yX2_isTree ∈ mWT := mt_4 (List.mem_of_getElem? (i := 11) rfl) rfl
theorem wt_382 : Cond.fieldLink RX2 30 "RoundsPerHour$Country" "ways" "I" ∈ mWT := mt_1 (List.mem_of_getElem? (i := 47) rfl) rfl
theorem wt_383 : Cond.fieldLink RX2 33 "RoundsPerHour$Country" "from" "[I" ∈ mWT := mt_1 (List.mem_of_getElem? (i := 56) rfl) rfl
theorem wt_384 : Cond.fieldLink RX2 36 "RoundsPerHour$Country" "to" "[I" ∈ mWT := mt_1 (List.mem_of_getElem? (i := 62) rfl) rfl
theorem wt_385 : Cond.methodLink RX2 39 yX2_apart ∈ mWT := mt_4 (List.mem_of_getElem? (i := 15) rfl) rfl
theorem wt_386 : Cond.methodLink RX2 43 yX2_join ∈ mWT := mt_4 (List.mem_of_getElem? (i := 16) rfl) rfl
theorem wt_387 : Cond.methodLink RX2 15 yJ6_bitCount_0f7a4 ∈ mWT := mt_4 (List.mem_of_getElem? (i := 13) rfl) rfl
theorem wt_388 : Cond.fieldLink RX2 21 "RoundsPerHour$Country" "places" "I" ∈ mWT := mt_1 (List.mem_of_getElem? (i := 38) rfl) rfl
theorem wt_389 : Cond.methodLink RX2 27 yX2_part ∈ mWT := mt_4 (List.mem_of_getElem? (i := 14) rfl) rfl
theorem wt_390 : Cond.code yX1_bringTogether cX1_bringTogether 5 (some .long) ∈ mWT := mt_4 (List.mem_of_getElem? (i := 32) rfl) rfl
theorem wt_391 : Cond.methodLink RX9 276 yX1_bringTogether ∈ mWT := mt_4 (List.mem_of_getElem? (i := 29) rfl) rfl
theorem wt_392 : Cond.instanceMethod yX1_bringTogether ∈ mWT := mt_4 (List.mem_of_getElem? (i := 30) rfl) rfl
theorem wt_393 : Cond.selects RX1 yX1_bringTogether yX1_bringTogether ∈ mWT := mt_4 (List.mem_of_getElem? (i := 31) rfl) rfl
theorem wt_394 : Cond.methodLink RX1 70 yX1_bringsOf ∈ mWT := mt_4 (List.mem_of_getElem? (i := 33) rfl) rfl
theorem wt_395 : Cond.code yX1_lastTogether cX1_lastTogether 5 (some .long) ∈ mWT := mt_4 (List.mem_of_getElem? (i := 37) rfl) rfl
theorem wt_396 : Cond.methodLink RX9 279 yX1_lastTogether ∈ mWT := mt_4 (List.mem_of_getElem? (i := 34) rfl) rfl
theorem wt_397 : Cond.instanceMethod yX1_lastTogether ∈ mWT := mt_4 (List.mem_of_getElem? (i := 35) rfl) rfl
theorem wt_398 : Cond.selects RX1 yX1_lastTogether yX1_lastTogether ∈ mWT := mt_4 (List.mem_of_getElem? (i := 36) rfl) rfl
theorem wt_399 : Cond.methodLink RX1 73 yX1_lastsOf ∈ mWT := mt_4 (List.mem_of_getElem? (i := 38) rfl) rfl
theorem wt_400 : Cond.code yX1_gainTogether cX1_gainTogether 2 (some .long) ∈ mWT := mt_4 (List.mem_of_getElem? (i := 20) rfl) rfl
theorem wt_401 : Cond.methodLink RX9 270 yX1_gainTogether ∈ mWT := mt_4 (List.mem_of_getElem? (i := 17) rfl) rfl
theorem wt_402 : Cond.instanceMethod yX1_gainTogether ∈ mWT := mt_4 (List.mem_of_getElem? (i := 18) rfl) rfl
theorem wt_403 : Cond.selects RX1 yX1_gainTogether yX1_gainTogether ∈ mWT := mt_4 (List.mem_of_getElem? (i := 19) rfl) rfl
theorem wt_404 : Cond.code yX1_sumWithBase cX1_sumWithBase 6 (some .long) ∈ mWT := mt_4 (List.mem_of_getElem? (i := 24) rfl) rfl
theorem wt_405 : Cond.methodLink RX1 76 yX1_sumWithBase ∈ mWT := mt_4 (List.mem_of_getElem? (i := 21) rfl) rfl
theorem wt_406 : Cond.instanceMethod yX1_sumWithBase ∈ mWT := mt_4 (List.mem_of_getElem? (i := 23) rfl) rfl
theorem wt_407 : Cond.selects RX1 yX1_sumWithBase yX1_sumWithBase ∈ mWT := mt_s (⟨"RoundsPerHour$Country", "sumWithBase", "([II)J"⟩, 12) (ml_1 (List.mem_of_getElem? (i := 12) rfl)) rfl rfl
theorem wt_408 : Cond.code yX1_timeTogether cX1_timeTogether 2 (some .long) ∈ mWT := mt_4 (List.mem_of_getElem? (i := 28) rfl) rfl
theorem wt_409 : Cond.methodLink RX9 273 yX1_timeTogether ∈ mWT := mt_4 (List.mem_of_getElem? (i := 25) rfl) rfl
theorem wt_410 : Cond.instanceMethod yX1_timeTogether ∈ mWT := mt_4 (List.mem_of_getElem? (i := 26) rfl) rfl
theorem wt_411 : Cond.selects RX1 yX1_timeTogether yX1_timeTogether ∈ mWT := mt_4 (List.mem_of_getElem? (i := 27) rfl) rfl
theorem wt_412 : Cond.code yX9_fractionFault cX9_fractionFault 6 (some .int) ∈ mWT := mt_4 (List.mem_of_getElem? (i := 46) rfl) rfl
theorem wt_413 : Cond.methodLink RX9 291 yX9_fractionFault ∈ mWT := mt_4 (List.mem_of_getElem? (i := 43) rfl) rfl
theorem wt_414 : Cond.instanceMethod yX9_fractionFault ∈ mWT := mt_4 (List.mem_of_getElem? (i := 45) rfl) rfl
theorem wt_415 : Cond.selects RX9 yX9_fractionFault yX9_fractionFault ∈ mWT := mt_s (⟨"RoundsPerHour", "fractionFault", "(III)I"⟩, 12) (ml_1 (List.mem_of_getElem? (i := 13) rfl)) rfl rfl
theorem wt_416 : Cond.code yX9_sheetFault cX9_sheetFault 2 (some .int) ∈ mWT := mt_4 (List.mem_of_getElem? (i := 50) rfl) rfl
theorem wt_417 : Cond.methodLink RX9 315 yX9_sheetFault ∈ mWT := mt_4 (List.mem_of_getElem? (i := 47) rfl) rfl
theorem wt_418 : Cond.instanceMethod yX9_sheetFault ∈ mWT := mt_4 (List.mem_of_getElem? (i := 49) rfl) rfl
theorem wt_419 : Cond.selects RX9 yX9_sheetFault yX9_sheetFault ∈ mWT := mt_s (⟨"RoundsPerHour", "sheetFault", "(I)I"⟩, 12) (ml_1 (List.mem_of_getElem? (i := 14) rfl)) rfl rfl
theorem wt_420 : Cond.fieldLink RX9 66 "RoundsPerHour" "sheets" "[LRoundsPerHour$Sheet;" ∈ mWT := mt_2 (List.mem_of_getElem? (i := 121) rfl) rfl
theorem wt_421 : Cond.fieldLink RX9 340 "RoundsPerHour$Sheet" "bits" "I" ∈ mWT := mt_2 (List.mem_of_getElem? (i := 99) rfl) rfl
theorem wt_422 : Cond.code yX5_hasFraction cX5_hasFraction 2 (some .boolean) ∈ mWT := mt_4 (List.mem_of_getElem? (i := 54) rfl) rfl
theorem wt_423 : Cond.methodLink RX9 318 yX5_hasFraction ∈ mWT := mt_4 (List.mem_of_getElem? (i := 51) rfl) rfl
theorem wt_424 : Cond.instanceMethod yX5_hasFraction ∈ mWT := mt_4 (List.mem_of_getElem? (i := 52) rfl) rfl
theorem wt_425 : Cond.selects RX5 yX5_hasFraction yX5_hasFraction ∈ mWT := mt_4 (List.mem_of_getElem? (i := 53) rfl) rfl
theorem wt_426 : Cond.initialized RX5 ∈ mWT := mt_1 (List.mem_of_getElem? (i := 10) rfl) rfl
theorem wt_427 : Cond.fieldLink RX5 19 "RoundsPerHour$Sheet" "size" "I" ∈ mWT := mt_2 (List.mem_of_getElem? (i := 100) rfl) rfl
theorem wt_428 : Cond.fieldLink RX9 295 "RoundsPerHour$Sheet" "numbers" "[J" ∈ mWT := mt_2 (List.mem_of_getElem? (i := 103) rfl) rfl
theorem wt_429 : Cond.methodLink RX9 298 yJ13_compare_74951 ∈ mWT := mt_4 (List.mem_of_getElem? (i := 56) rfl) rfl
theorem wt_430 : Cond.code yX5_put cX5_put 4 none ∈ mWT := mt_4 (List.mem_of_getElem? (i := 64) rfl) rfl
theorem wt_431 : Cond.methodLink RX9 309 yX5_put ∈ mWT := mt_4 (List.mem_of_getElem? (i := 61) rfl) rfl
theorem wt_432 : Cond.instanceMethod yX5_put ∈ mWT := mt_4 (List.mem_of_getElem? (i := 62) rfl) rfl
theorem wt_433 : Cond.selects RX5 yX5_put yX5_put ∈ mWT := mt_4 (List.mem_of_getElem? (i := 63) rfl) rfl
theorem wt_434 : Cond.fieldLink RX5 15 "RoundsPerHour$Sheet" "bits" "I" ∈ mWT := mt_2 (List.mem_of_getElem? (i := 98) rfl) rfl
theorem wt_435 : Cond.fieldLink RX5 9 "RoundsPerHour$Sheet" "numbers" "[J" ∈ mWT := mt_2 (List.mem_of_getElem? (i := 102) rfl) rfl
theorem wt_436 : Cond.code yX9_sumFits cX9_sumFits 6 (some .boolean) ∈ mWT := mt_4 (List.mem_of_getElem? (i := 71) rfl) rfl
theorem wt_437 : Cond.methodLink RX9 312 yX9_sumFits ∈ mWT := mt_4 (List.mem_of_getElem? (i := 69) rfl) rfl
theorem wt_438 : Cond.static yX9_sumFits ∈ mWT := mt_4 (List.mem_of_getElem? (i := 70) rfl) rfl
theorem wt_439 : Cond.fieldLink RX9 60 "RoundsPerHour" "tape" "LRoundsPerHour$Tape;" ∈ mWT := mt_2 (List.mem_of_getElem? (i := 120) rfl) rfl
theorem wt_440 : Cond.fieldLink RX9 321 "RoundsPerHour$Tape" "length" "I" ∈ mWT := mt_2 (List.mem_of_getElem? (i := 63) rfl) rfl
theorem wt_441 : Cond.code yX6_append cX6_append 2 none ∈ mWT := mt_4 (List.mem_of_getElem? (i := 79) rfl) rfl
theorem wt_442 : Cond.methodLink RX9 324 yX6_append ∈ mWT := mt_4 (List.mem_of_getElem? (i := 76) rfl) rfl
theorem wt_443 : Cond.instanceMethod yX6_append ∈ mWT := mt_4 (List.mem_of_getElem? (i := 77) rfl) rfl
theorem wt_444 : Cond.selects RX6 yX6_append yX6_append ∈ mWT := mt_4 (List.mem_of_getElem? (i := 78) rfl) rfl
theorem wt_445 : Cond.initialized RX6 ∈ mWT := mt_1 (List.mem_of_getElem? (i := 9) rfl) rfl
theorem wt_446 : Cond.fieldLink RX6 15 "RoundsPerHour$Tape" "length" "I" ∈ mWT := mt_2 (List.mem_of_getElem? (i := 62) rfl) rfl
theorem wt_447 : Cond.fieldLink RX6 9 "RoundsPerHour$Tape" "bytes" "[I" ∈ mWT := mt_2 (List.mem_of_getElem? (i := 64) rfl) rfl
theorem wt_448 : Cond.code yX6_tellTo cX6_tellTo 3 (some .int) ∈ mWT := mt_4 (List.mem_of_getElem? (i := 91) rfl) rfl
theorem wt_449 : Cond.methodLink RX9 328 yX6_tellTo ∈ mWT := mt_4 (List.mem_of_getElem? (i := 88) rfl) rfl
theorem wt_450 : Cond.instanceMethod yX6_tellTo ∈ mWT := mt_4 (List.mem_of_getElem? (i := 89) rfl) rfl
theorem wt_451 : Cond.selects RX6 yX6_tellTo yX6_tellTo ∈ mWT := mt_4 (List.mem_of_getElem? (i := 90) rfl) rfl
theorem wt_452 : Cond.fieldLink RX6 33 "RoundsPerHour$Tape" "first" "I" ∈ mWT := mt_2 (List.mem_of_getElem? (i := 67) rfl) rfl
theorem wt_453 : Cond.code yX6_item cX6_item 1 (some .boolean) ∈ mWT := mt_4 (List.mem_of_getElem? (i := 113) rfl) rfl
theorem wt_454 : Cond.methodLink RX6 29 yX6_item ∈ mWT := mt_4 (List.mem_of_getElem? (i := 110) rfl) rfl
theorem wt_455 : Cond.instanceMethod yX6_item ∈ mWT := mt_4 (List.mem_of_getElem? (i := 112) rfl) rfl
theorem wt_456 : Cond.selects RX6 yX6_item yX6_item ∈ mWT := mt_s (⟨"RoundsPerHour$Tape", "item", "()Z"⟩, 9) (ml_2 (List.mem_of_getElem? (i := 1) rfl)) rfl rfl
theorem wt_457 : Cond.code yX6_isWord cX6_isWord 3 (some .boolean) ∈ mWT := mt_4 (List.mem_of_getElem? (i := 118) rfl) rfl
theorem wt_458 : Cond.methodLink RX6 41 yX6_isWord ∈ mWT := mt_4 (List.mem_of_getElem? (i := 115) rfl) rfl
theorem wt_459 : Cond.instanceMethod yX6_isWord ∈ mWT := mt_4 (List.mem_of_getElem? (i := 117) rfl) rfl
theorem wt_460 : Cond.selects RX6 yX6_isWord yX6_isWord ∈ mWT := mt_s (⟨"RoundsPerHour$Tape", "isWord", "(Ljava/lang/String;)Z"⟩, 9) (ml_2 (List.mem_of_getElem? (i := 2) rfl)) rfl rfl
theorem wt_461 : Cond.code yJ0_length_8abf5 cJ0_length_8abf5 1 (some .int) ∈ mWT := mt_4 (List.mem_of_getElem? (i := 122) rfl) rfl
theorem wt_462 : Cond.methodLink RX6 127 yJ0_length_8abf5 ∈ mWT := mt_4 (List.mem_of_getElem? (i := 119) rfl) rfl
theorem wt_463 : Cond.instanceMethod yJ0_length_8abf5 ∈ mWT := mt_4 (List.mem_of_getElem? (i := 120) rfl) rfl
theorem wt_464 : Cond.selects "java/lang/String" yJ0_length_8abf5 yJ0_length_8abf5 ∈ mWT := mt_4 (List.mem_of_getElem? (i := 121) rfl) rfl
theorem wt_465 : Cond.initialized "java/lang/String" ∈ mWT := mt_1 (List.mem_of_getElem? (i := 16) rfl) rfl
theorem wt_466 : Cond.fieldLink RJ0 9 "java/lang/String" "value" "[B" ∈ mWT := mt_7 (List.mem_of_getElem? (i := 39) rfl) rfl
theorem wt_467 : Cond.code yJ0_coder_7d493 cJ0_coder_7d493 1 (some .byte) ∈ mWT := mt_4 (List.mem_of_getElem? (i := 126) rfl) rfl
theorem wt_468 : Cond.methodLink RJ0 335 yJ0_coder_7d493 ∈ mWT := mt_4 (List.mem_of_getElem? (i := 123) rfl) rfl
theorem wt_469 : Cond.instanceMethod yJ0_coder_7d493 ∈ mWT := mt_4 (List.mem_of_getElem? (i := 124) rfl) rfl
theorem wt_470 : Cond.selects "java/lang/String" yJ0_coder_7d493 yJ0_coder_7d493 ∈ mWT := mt_4 (List.mem_of_getElem? (i := 125) rfl) rfl
theorem wt_471 : Cond.fieldLink RJ0 38 "java/lang/String" "COMPACT_STRINGS" "Z" ∈ mWT := mt_4 (List.mem_of_getElem? (i := 127) rfl) rfl
theorem wt_472 : Cond.fieldLink RJ0 15 "java/lang/String" "coder" "B" ∈ mWT := mt_7 (List.mem_of_getElem? (i := 40) rfl) rfl
theorem wt_473 : Cond.code yJ0_charAt_5068e cJ0_charAt_5068e 2 (some .char) ∈ mWT := mt_4 (List.mem_of_getElem? (i := 132) rfl) rfl
theorem wt_474 : Cond.methodLink RX6 131 yJ0_charAt_5068e ∈ mWT := mt_4 (List.mem_of_getElem? (i := 129) rfl) rfl
theorem wt_475 : Cond.instanceMethod yJ0_charAt_5068e ∈ mWT := mt_4 (List.mem_of_getElem? (i := 130) rfl) rfl
theorem wt_476 : Cond.selects "java/lang/String" yJ0_charAt_5068e yJ0_charAt_5068e ∈ mWT := mt_4 (List.mem_of_getElem? (i := 131) rfl) rfl
theorem wt_477 : Cond.code yJ0_isLatin1_aae02 cJ0_isLatin1_aae02 1 (some .boolean) ∈ mWT := mt_4 (List.mem_of_getElem? (i := 136) rfl) rfl
theorem wt_478 : Cond.methodLink RJ0 492 yJ0_isLatin1_aae02 ∈ mWT := mt_4 (List.mem_of_getElem? (i := 133) rfl) rfl
theorem wt_479 : Cond.instanceMethod yJ0_isLatin1_aae02 ∈ mWT := mt_4 (List.mem_of_getElem? (i := 134) rfl) rfl
theorem wt_480 : Cond.selects "java/lang/String" yJ0_isLatin1_aae02 yJ0_isLatin1_aae02 ∈ mWT := mt_4 (List.mem_of_getElem? (i := 135) rfl) rfl
theorem wt_481 : Cond.code yJ1_charAt_3b067 cJ1_charAt_3b067 2 (some .char) ∈ mWT := mt_4 (List.mem_of_getElem? (i := 139) rfl) rfl
theorem wt_482 : Cond.methodLink RJ0 495 yJ1_charAt_3b067 ∈ mWT := mt_4 (List.mem_of_getElem? (i := 137) rfl) rfl
theorem wt_483 : Cond.static yJ1_charAt_3b067 ∈ mWT := mt_4 (List.mem_of_getElem? (i := 138) rfl) rfl
theorem wt_484 : Cond.initialized RJ1 ∈ mWT := mt_1 (List.mem_of_getElem? (i := 17) rfl) rfl
theorem wt_485 : Cond.code yJ0_checkIndex_df160 cJ0_checkIndex_df160 2 none ∈ mWT := mt_4 (List.mem_of_getElem? (i := 142) rfl) rfl
theorem wt_486 : Cond.methodLink RJ1 9 yJ0_checkIndex_df160 ∈ mWT := mt_4 (List.mem_of_getElem? (i := 140) rfl) rfl
theorem wt_487 : Cond.static yJ0_checkIndex_df160 ∈ mWT := mt_4 (List.mem_of_getElem? (i := 141) rfl) rfl
theorem wt_488 : Cond.initialized RJ0 ∈ mWT := mt_1 (List.mem_of_getElem? (i := 16) rfl) rfl
theorem wt_489 : Cond.fieldLink RJ0 1053 "jdk/internal/util/Preconditions" "SIOOBE_FORMATTER" "Ljava/util/function/BiFunction;" ∈ mWT := mt_4 (List.mem_of_getElem? (i := 143) rfl) rfl
theorem wt_490 : Cond.code yJ3_checkIndex_8e157 cJ3_checkIndex_8e157 3 (some .int) ∈ mWT := mt_4 (List.mem_of_getElem? (i := 147) rfl) rfl
theorem wt_491 : Cond.methodLink RJ0 1059 yJ3_checkIndex_8e157 ∈ mWT := mt_4 (List.mem_of_getElem? (i := 145) rfl) rfl
theorem wt_492 : Cond.static yJ3_checkIndex_8e157 ∈ mWT := mt_4 (List.mem_of_getElem? (i := 146) rfl) rfl
theorem wt_493 : Cond.initialized RJ3 ∈ mWT := mt_1 (List.mem_of_getElem? (i := 18) rfl) rfl
theorem wt_494 : Cond.fieldLink RX6 36 "RoundsPerHour$Tape" "sort" "I" ∈ mWT := mt_2 (List.mem_of_getElem? (i := 66) rfl) rfl
theorem wt_495 : Cond.fieldLink RX6 23 "RoundsPerHour$Tape" "behind" "I" ∈ mWT := mt_2 (List.mem_of_getElem? (i := 68) rfl) rfl
theorem wt_496 : Cond.code yX6_kindTold cX6_kindTold 1 (some .int) ∈ mWT := mt_4 (List.mem_of_getElem? (i := 198) rfl) rfl
theorem wt_497 : Cond.methodLink RX6 58 yX6_kindTold ∈ mWT := mt_4 (List.mem_of_getElem? (i := 195) rfl) rfl
theorem wt_498 : Cond.instanceMethod yX6_kindTold ∈ mWT := mt_4 (List.mem_of_getElem? (i := 197) rfl) rfl
theorem wt_499 : Cond.selects RX6 yX6_kindTold yX6_kindTold ∈ mWT := mt_s (⟨"RoundsPerHour$Tape", "kindTold", "()I"⟩, 9) (ml_2 (List.mem_of_getElem? (i := 8) rfl)) rfl rfl
theorem wt_500 : Cond.code yX6_wayItem cX6_wayItem 5 (some .boolean) ∈ mWT := mt_4 (List.mem_of_getElem? (i := 208) rfl) rfl
theorem wt_501 : Cond.methodLink RX6 62 yX6_wayItem ∈ mWT := mt_4 (List.mem_of_getElem? (i := 205) rfl) rfl
theorem wt_502 : Cond.instanceMethod yX6_wayItem ∈ mWT := mt_4 (List.mem_of_getElem? (i := 207) rfl) rfl
theorem wt_503 : Cond.selects RX6 yX6_wayItem yX6_wayItem ∈ mWT := mt_s (⟨"RoundsPerHour$Tape", "wayItem", "(I)Z"⟩, 9) (ml_2 (List.mem_of_getElem? (i := 9) rfl)) rfl rfl
theorem wt_504 : Cond.fieldLink RX6 19 "RoundsPerHour$Tape" "land" "LRoundsPerHour$Country;" ∈ mWT := mt_2 (List.mem_of_getElem? (i := 65) rfl) rfl
theorem wt_505 : Cond.fieldLink RX6 95 "RoundsPerHour$Country" "ways" "I" ∈ mWT := mt_1 (List.mem_of_getElem? (i := 48) rfl) rfl
theorem wt_506 : Cond.code yX6_next cX6_next 1 none ∈ mWT := mt_4 (List.mem_of_getElem? (i := 95) rfl) rfl
theorem wt_507 : Cond.methodLink RX6 26 yX6_next ∈ mWT := mt_4 (List.mem_of_getElem? (i := 92) rfl) rfl
theorem wt_508 : Cond.instanceMethod yX6_next ∈ mWT := mt_4 (List.mem_of_getElem? (i := 94) rfl) rfl
theorem wt_509 : Cond.selects RX6 yX6_next yX6_next ∈ mWT := mt_s (⟨"RoundsPerHour$Tape", "next", "()V"⟩, 9) (ml_1 (List.mem_of_getElem? (i := 15) rfl)) rfl rfl
theorem wt_510 : Cond.code yX6_isLetter cX6_isLetter 1 (some .boolean) ∈ mWT := mt_4 (List.mem_of_getElem? (i := 98) rfl) rfl
theorem wt_511 : Cond.methodLink RX6 135 yX6_isLetter ∈ mWT := mt_4 (List.mem_of_getElem? (i := 96) rfl) rfl
theorem wt_512 : Cond.static yX6_isLetter ∈ mWT := mt_4 (List.mem_of_getElem? (i := 97) rfl) rfl
theorem wt_513 : Cond.code yX6_isDigit cX6_isDigit 1 (some .boolean) ∈ mWT := mt_4 (List.mem_of_getElem? (i := 101) rfl) rfl
theorem wt_514 : Cond.methodLink RX6 138 yX6_isDigit ∈ mWT := mt_4 (List.mem_of_getElem? (i := 99) rfl) rfl
theorem wt_515 : Cond.static yX6_isDigit ∈ mWT := mt_4 (List.mem_of_getElem? (i := 100) rfl) rfl
theorem wt_516 : Cond.code yX6_takeDigits cX6_takeDigits 1 none ∈ mWT := mt_4 (List.mem_of_getElem? (i := 105) rfl) rfl
theorem wt_517 : Cond.methodLink RX6 141 yX6_takeDigits ∈ mWT := mt_4 (List.mem_of_getElem? (i := 102) rfl) rfl
theorem wt_518 : Cond.instanceMethod yX6_takeDigits ∈ mWT := mt_4 (List.mem_of_getElem? (i := 104) rfl) rfl
theorem wt_519 : Cond.selects RX6 yX6_takeDigits yX6_takeDigits ∈ mWT := mt_s (⟨"RoundsPerHour$Tape", "takeDigits", "()V"⟩, 9) (ml_2 (List.mem_of_getElem? (i := 0) rfl)) rfl rfl
theorem wt_520 : Cond.fieldLink RX6 74 "RoundsPerHour$Tape" "number" "I" ∈ mWT := mt_2 (List.mem_of_getElem? (i := 69) rfl) rfl
theorem wt_521 : Cond.constant RX6 144 (1000000) ∈ mWT := mt_4 (List.mem_of_getElem? (i := 106) rfl) rfl
theorem wt_522 : Cond.methodLink RX6 145 Lib.Math.min.name ∈ mWT := mt_4 (List.mem_of_getElem? (i := 107) rfl) rfl
theorem wt_523 : Cond.static Lib.Math.min.name ∈ mWT := mt_4 (List.mem_of_getElem? (i := 108) rfl) rfl
theorem wt_524 : Cond.code Lib.Math.min.name Lib.Math.min.code 2 (some .int) ∈ mWT := mt_4 (List.mem_of_getElem? (i := 109) rfl) rfl
theorem wt_525 : Cond.fieldLink RX6 66 "RoundsPerHour$Country" "places" "I" ∈ mWT := mt_1 (List.mem_of_getElem? (i := 39) rfl) rfl
theorem wt_526 : Cond.code yX6_isNumber cX6_isNumber 3 (some .boolean) ∈ mWT := mt_4 (List.mem_of_getElem? (i := 174) rfl) rfl
theorem wt_527 : Cond.methodLink RX6 70 yX6_isNumber ∈ mWT := mt_4 (List.mem_of_getElem? (i := 171) rfl) rfl
theorem wt_528 : Cond.instanceMethod yX6_isNumber ∈ mWT := mt_4 (List.mem_of_getElem? (i := 173) rfl) rfl
theorem wt_529 : Cond.selects RX6 yX6_isNumber yX6_isNumber ∈ mWT := mt_s (⟨"RoundsPerHour$Tape", "isNumber", "(II)Z"⟩, 9) (ml_2 (List.mem_of_getElem? (i := 4) rfl)) rfl rfl
theorem wt_530 : Cond.code yX6_gainAndTime cX6_gainAndTime 2 (some .boolean) ∈ mWT := mt_4 (List.mem_of_getElem? (i := 189) rfl) rfl
theorem wt_531 : Cond.methodLink RX6 82 yX6_gainAndTime ∈ mWT := mt_4 (List.mem_of_getElem? (i := 186) rfl) rfl
theorem wt_532 : Cond.instanceMethod yX6_gainAndTime ∈ mWT := mt_4 (List.mem_of_getElem? (i := 188) rfl) rfl
theorem wt_533 : Cond.selects RX6 yX6_gainAndTime yX6_gainAndTime ∈ mWT := mt_s (⟨"RoundsPerHour$Tape", "gainAndTime", "()Z"⟩, 9) (ml_2 (List.mem_of_getElem? (i := 7) rfl)) rfl rfl
theorem wt_534 : Cond.constant RX6 109 (999999) ∈ mWT := mt_4 (List.mem_of_getElem? (i := 192) rfl) rfl
theorem wt_535 : Cond.fieldLink RX6 88 "RoundsPerHour$Tape" "time" "I" ∈ mWT := mt_2 (List.mem_of_getElem? (i := 71) rfl) rfl
theorem wt_536 : Cond.fieldLink RX6 85 "RoundsPerHour$Tape" "gain" "I" ∈ mWT := mt_2 (List.mem_of_getElem? (i := 70) rfl) rfl
theorem wt_537 : Cond.methodLink RX6 98 yX1_newWay ∈ mWT := mt_4 (List.mem_of_getElem? (i := 209) rfl) rfl
theorem wt_538 : Cond.fieldLink RX6 104 "RoundsPerHour$Country" "shut" "[I" ∈ mWT := mt_1 (List.mem_of_getElem? (i := 72) rfl) rfl
theorem wt_539 : Cond.code yX6_thingItem cX6_thingItem 1 (some .boolean) ∈ mWT := mt_4 (List.mem_of_getElem? (i := 185) rfl) rfl
theorem wt_540 : Cond.methodLink RX6 55 yX6_thingItem ∈ mWT := mt_4 (List.mem_of_getElem? (i := 182) rfl) rfl
theorem wt_541 : Cond.instanceMethod yX6_thingItem ∈ mWT := mt_4 (List.mem_of_getElem? (i := 184) rfl) rfl
theorem wt_542 : Cond.selects RX6 yX6_thingItem yX6_thingItem ∈ mWT := mt_s (⟨"RoundsPerHour$Tape", "thingItem", "()Z"⟩, 9) (ml_2 (List.mem_of_getElem? (i := 6) rfl)) rfl rfl
theorem wt_543 : Cond.fieldLink RX6 79 "RoundsPerHour$Country" "things" "I" ∈ mWT := mt_1 (List.mem_of_getElem? (i := 75) rfl) rfl
theorem wt_544 : Cond.methodLink RX6 91 yX1_newThing ∈ mWT := mt_4 (List.mem_of_getElem? (i := 194) rfl) rfl
theorem wt_545 : Cond.code yX6_weatherItem cX6_weatherItem 1 (some .boolean) ∈ mWT := mt_4 (List.mem_of_getElem? (i := 180) rfl) rfl
theorem wt_546 : Cond.methodLink RX6 50 yX6_weatherItem ∈ mWT := mt_4 (List.mem_of_getElem? (i := 177) rfl) rfl
theorem wt_547 : Cond.instanceMethod yX6_weatherItem ∈ mWT := mt_4 (List.mem_of_getElem? (i := 179) rfl) rfl
theorem wt_548 : Cond.selects RX6 yX6_weatherItem yX6_weatherItem ∈ mWT := mt_s (⟨"RoundsPerHour$Tape", "weatherItem", "()Z"⟩, 9) (ml_2 (List.mem_of_getElem? (i := 5) rfl)) rfl rfl
theorem wt_549 : Cond.fieldLink RX6 77 "RoundsPerHour$Country" "weather" "I" ∈ mWT := mt_1 (List.mem_of_getElem? (i := 41) rfl) rfl
theorem wt_550 : Cond.code yX6_placesItem cX6_placesItem 1 (some .boolean) ∈ mWT := mt_4 (List.mem_of_getElem? (i := 170) rfl) rfl
theorem wt_551 : Cond.methodLink RX6 45 yX6_placesItem ∈ mWT := mt_4 (List.mem_of_getElem? (i := 167) rfl) rfl
theorem wt_552 : Cond.instanceMethod yX6_placesItem ∈ mWT := mt_4 (List.mem_of_getElem? (i := 169) rfl) rfl
theorem wt_553 : Cond.selects RX6 yX6_placesItem yX6_placesItem ∈ mWT := mt_s (⟨"RoundsPerHour$Tape", "placesItem", "()Z"⟩, 9) (ml_2 (List.mem_of_getElem? (i := 3) rfl)) rfl rfl
theorem wt_554 : Cond.code yX5_begin cX5_begin 4 none ∈ mWT := mt_4 (List.mem_of_getElem? (i := 219) rfl) rfl
theorem wt_555 : Cond.methodLink RX9 332 yX5_begin ∈ mWT := mt_4 (List.mem_of_getElem? (i := 216) rfl) rfl
theorem wt_556 : Cond.instanceMethod yX5_begin ∈ mWT := mt_4 (List.mem_of_getElem? (i := 217) rfl) rfl
theorem wt_557 : Cond.selects RX5 yX5_begin yX5_begin ∈ mWT := mt_4 (List.mem_of_getElem? (i := 218) rfl) rfl
theorem wt_558 : Cond.fieldLink RX9 336 "RoundsPerHour$Sheet" "size" "I" ∈ mWT := mt_2 (List.mem_of_getElem? (i := 101) rfl) rfl
theorem wt_559 : Cond.code yX9_numberFault cX9_numberFault 4 (some .int) ∈ mWT := mt_4 (List.mem_of_getElem? (i := 227) rfl) rfl
theorem wt_560 : Cond.methodLink RX9 337 yX9_numberFault ∈ mWT := mt_4 (List.mem_of_getElem? (i := 224) rfl) rfl
theorem wt_561 : Cond.instanceMethod yX9_numberFault ∈ mWT := mt_4 (List.mem_of_getElem? (i := 226) rfl) rfl
theorem wt_562 : Cond.selects RX9 yX9_numberFault yX9_numberFault ∈ mWT := mt_s (⟨"RoundsPerHour", "numberFault", "(II)I"⟩, 12) (ml_2 (List.mem_of_getElem? (i := 10) rfl)) rfl rfl
theorem wt_563 : Cond.code yX5_hasRun cX5_hasRun 3 (some .boolean) ∈ mWT := mt_4 (List.mem_of_getElem? (i := 239) rfl) rfl
theorem wt_564 : Cond.methodLink RX9 343 yX5_hasRun ∈ mWT := mt_4 (List.mem_of_getElem? (i := 236) rfl) rfl
theorem wt_565 : Cond.instanceMethod yX5_hasRun ∈ mWT := mt_4 (List.mem_of_getElem? (i := 237) rfl) rfl
theorem wt_566 : Cond.selects RX5 yX5_hasRun yX5_hasRun ∈ mWT := mt_4 (List.mem_of_getElem? (i := 238) rfl) rfl
theorem wt_567 : Cond.methodLink RX9 346 arraycopyName ∈ mWT := mt_5 (List.mem_of_getElem? (i := 0) rfl) rfl
theorem wt_568 : Cond.methodLink RX9 352 Lib.Math.min.name ∈ mWT := mt_5 (List.mem_of_getElem? (i := 5) rfl) rfl
theorem wt_569 : Cond.fieldLink RX9 16 "RoundsPerHour" "kept" "LRoundsPerHour$Country;" ∈ mWT := mt_2 (List.mem_of_getElem? (i := 112) rfl) rfl
theorem wt_570 : Cond.fieldLink RX9 354 "RoundsPerHour" "isKept" "Z" ∈ mWT := mt_2 (List.mem_of_getElem? (i := 114) rfl) rfl
theorem wt_571 : Cond.code yX1_shutWays cX1_shutWays 3 (some .int) ∈ mWT := mt_5 (List.mem_of_getElem? (i := 25) rfl) rfl
theorem wt_572 : Cond.methodLink RX9 358 yX1_shutWays ∈ mWT := mt_5 (List.mem_of_getElem? (i := 22) rfl) rfl
theorem wt_573 : Cond.instanceMethod yX1_shutWays ∈ mWT := mt_5 (List.mem_of_getElem? (i := 23) rfl) rfl
theorem wt_574 : Cond.selects RX1 yX1_shutWays yX1_shutWays ∈ mWT := mt_5 (List.mem_of_getElem? (i := 24) rfl) rfl
theorem wt_575 : Cond.fieldLink RX10 61 "RoundsPerHourModel" "ways" "I" ∈ mWT := mt_5 (List.mem_of_getElem? (i := 39) rfl) rfl
theorem wt_576 : Cond.fieldLink RX10 15 "RoundsPerHourModel" "places" "I" ∈ mWT := mt_5 (List.mem_of_getElem? (i := 37) rfl) rfl
theorem wt_577 : Cond.code yX10_at cX10_at 3 (some .int) ∈ mWT := mt_5 (List.mem_of_getElem? (i := 163) rfl) rfl
theorem wt_578 : Cond.methodLink RX10 70 yX10_at ∈ mWT := mt_5 (List.mem_of_getElem? (i := 160) rfl) rfl
theorem wt_579 : Cond.instanceMethod yX10_at ∈ mWT := mt_5 (List.mem_of_getElem? (i := 162) rfl) rfl
theorem wt_580 : Cond.selects RX10 yX10_at yX10_at ∈ mWT := mt_s (⟨"RoundsPerHourModel", "at", "(II)I"⟩, 36) (ml_2 (List.mem_of_getElem? (i := 12) rfl)) rfl rfl
theorem wt_581 : Cond.initialized RX10 ∈ mWT := mt_1 (List.mem_of_getElem? (i := 11) rfl) rfl
theorem wt_582 : Cond.fieldLink RX10 19 "RoundsPerHourModel" "way" "[I" ∈ mWT := mt_5 (List.mem_of_getElem? (i := 40) rfl) rfl
theorem wt_583 : Cond.code yX10_finds cX10_finds 2 (some .int) ∈ mWT := mt_5 (List.mem_of_getElem? (i := 158) rfl) rfl
theorem wt_584 : Cond.methodLink RX10 81 yX10_finds ∈ mWT := mt_5 (List.mem_of_getElem? (i := 155) rfl) rfl
theorem wt_585 : Cond.instanceMethod yX10_finds ∈ mWT := mt_5 (List.mem_of_getElem? (i := 157) rfl) rfl
theorem wt_586 : Cond.selects RX10 yX10_finds yX10_finds ∈ mWT := mt_s (⟨"RoundsPerHourModel", "finds", "(I)I"⟩, 36) (ml_2 (List.mem_of_getElem? (i := 11) rfl)) rfl rfl
theorem wt_587 : Cond.fieldLink RX10 9 "RoundsPerHourModel" "found" "[I" ∈ mWT := mt_5 (List.mem_of_getElem? (i := 36) rfl) rfl
theorem wt_588 : Cond.constant RX10 54 (-2000000001) ∈ mWT := mt_5 (List.mem_of_getElem? (i := 159) rfl) rfl
theorem wt_589 : Cond.constantLong RX10 77 (2) ∈ mWT := mt_5 (List.mem_of_getElem? (i := 150) rfl) rfl
theorem wt_590 : Cond.constantLong RX10 79 (6) ∈ mWT := mt_5 (List.mem_of_getElem? (i := 151) rfl) rfl
theorem wt_591 : Cond.code yX10_in cX10_in 6 (some .boolean) ∈ mWT := mt_5 (List.mem_of_getElem? (i := 154) rfl) rfl
theorem wt_592 : Cond.methodLink RX10 57 yX10_in ∈ mWT := mt_5 (List.mem_of_getElem? (i := 152) rfl) rfl
theorem wt_593 : Cond.static yX10_in ∈ mWT := mt_5 (List.mem_of_getElem? (i := 153) rfl) rfl
theorem wt_594 : Cond.constantLong RX10 85 (5) ∈ mWT := mt_5 (List.mem_of_getElem? (i := 168) rfl) rfl
theorem wt_595 : Cond.fieldLink RX10 74 "RoundsPerHourModel" "weather" "I" ∈ mWT := mt_5 (List.mem_of_getElem? (i := 38) rfl) rfl
theorem wt_596 : Cond.code yX10_isPlace cX10_isPlace 2 (some .boolean) ∈ mWT := mt_5 (List.mem_of_getElem? (i := 176) rfl) rfl
theorem wt_597 : Cond.methodLink RX10 87 yX10_isPlace ∈ mWT := mt_5 (List.mem_of_getElem? (i := 173) rfl) rfl
theorem wt_598 : Cond.instanceMethod yX10_isPlace ∈ mWT := mt_5 (List.mem_of_getElem? (i := 175) rfl) rfl
theorem wt_599 : Cond.selects RX10 yX10_isPlace yX10_isPlace ∈ mWT := mt_s (⟨"RoundsPerHourModel", "isPlace", "(I)Z"⟩, 36) (ml_2 (List.mem_of_getElem? (i := 13) rfl)) rfl rfl
theorem wt_600 : Cond.code yX10_isGain cX10_isGain 2 (some .boolean) ∈ mWT := mt_5 (List.mem_of_getElem? (i := 179) rfl) rfl
theorem wt_601 : Cond.methodLink RX10 91 yX10_isGain ∈ mWT := mt_5 (List.mem_of_getElem? (i := 177) rfl) rfl
theorem wt_602 : Cond.static yX10_isGain ∈ mWT := mt_5 (List.mem_of_getElem? (i := 178) rfl) rfl
theorem wt_603 : Cond.constantLong RX10 64 (-999999999) ∈ mWT := mt_5 (List.mem_of_getElem? (i := 180) rfl) rfl
theorem wt_604 : Cond.constantLong RX10 66 (999999999) ∈ mWT := mt_5 (List.mem_of_getElem? (i := 181) rfl) rfl
theorem wt_605 : Cond.code yX10_isTime cX10_isTime 1 (some .boolean) ∈ mWT := mt_5 (List.mem_of_getElem? (i := 184) rfl) rfl
theorem wt_606 : Cond.methodLink RX10 95 yX10_isTime ∈ mWT := mt_5 (List.mem_of_getElem? (i := 182) rfl) rfl
theorem wt_607 : Cond.static yX10_isTime ∈ mWT := mt_5 (List.mem_of_getElem? (i := 183) rfl) rfl
theorem wt_608 : Cond.constantLong RX10 68 (999999) ∈ mWT := mt_5 (List.mem_of_getElem? (i := 185) rfl) rfl
theorem wt_609 : Cond.code yX10_addWay cX10_addWay 7 none ∈ mWT := mt_5 (List.mem_of_getElem? (i := 189) rfl) rfl
theorem wt_610 : Cond.methodLink RX10 98 yX10_addWay ∈ mWT := mt_5 (List.mem_of_getElem? (i := 186) rfl) rfl
theorem wt_611 : Cond.instanceMethod yX10_addWay ∈ mWT := mt_5 (List.mem_of_getElem? (i := 188) rfl) rfl
theorem wt_612 : Cond.selects RX10 yX10_addWay yX10_addWay ∈ mWT := mt_s (⟨"RoundsPerHourModel", "addWay", "(IIIII)V"⟩, 36) (ml_2 (List.mem_of_getElem? (i := 14) rfl)) rfl rfl
theorem wt_613 : Cond.code yX10_isWay cX10_isWay 2 (some .boolean) ∈ mWT := mt_5 (List.mem_of_getElem? (i := 197) rfl) rfl
theorem wt_614 : Cond.methodLink RX10 102 yX10_isWay ∈ mWT := mt_5 (List.mem_of_getElem? (i := 194) rfl) rfl
theorem wt_615 : Cond.instanceMethod yX10_isWay ∈ mWT := mt_5 (List.mem_of_getElem? (i := 196) rfl) rfl
theorem wt_616 : Cond.selects RX10 yX10_isWay yX10_isWay ∈ mWT := mt_s (⟨"RoundsPerHourModel", "isWay", "(I)Z"⟩, 36) (ml_2 (List.mem_of_getElem? (i := 15) rfl)) rfl rfl
theorem wt_617 : Cond.constantLong RX10 105 (7) ∈ mWT := mt_5 (List.mem_of_getElem? (i := 198) rfl) rfl
theorem wt_618 : Cond.code yX10_lasts cX10_lasts 3 (some .int) ∈ mWT := mt_5 (List.mem_of_getElem? (i := 206) rfl) rfl
theorem wt_619 : Cond.methodLink RX10 110 yX10_lasts ∈ mWT := mt_5 (List.mem_of_getElem? (i := 203) rfl) rfl
theorem wt_620 : Cond.instanceMethod yX10_lasts ∈ mWT := mt_5 (List.mem_of_getElem? (i := 205) rfl) rfl
theorem wt_621 : Cond.selects RX10 yX10_lasts yX10_lasts ∈ mWT := mt_s (⟨"RoundsPerHourModel", "lasts", "(I)I"⟩, 36) (ml_3 (List.mem_of_getElem? (i := 1) rfl)) rfl rfl
theorem wt_622 : Cond.code yX10_brings cX10_brings 3 (some .int) ∈ mWT := mt_5 (List.mem_of_getElem? (i := 202) rfl) rfl
theorem wt_623 : Cond.methodLink RX10 107 yX10_brings ∈ mWT := mt_5 (List.mem_of_getElem? (i := 199) rfl) rfl
theorem wt_624 : Cond.instanceMethod yX10_brings ∈ mWT := mt_5 (List.mem_of_getElem? (i := 201) rfl) rfl
theorem wt_625 : Cond.selects RX10 yX10_brings yX10_brings ∈ mWT := mt_s (⟨"RoundsPerHourModel", "brings", "(I)I"⟩, 36) (ml_3 (List.mem_of_getElem? (i := 0) rfl)) rfl rfl
theorem wt_626 : Cond.code yX10_mayBe cX10_mayBe 4 (some .boolean) ∈ mWT := mt_5 (List.mem_of_getElem? (i := 214) rfl) rfl
theorem wt_627 : Cond.methodLink RX10 113 yX10_mayBe ∈ mWT := mt_5 (List.mem_of_getElem? (i := 211) rfl) rfl
theorem wt_628 : Cond.instanceMethod yX10_mayBe ∈ mWT := mt_5 (List.mem_of_getElem? (i := 213) rfl) rfl
theorem wt_629 : Cond.selects RX10 yX10_mayBe yX10_mayBe ∈ mWT := mt_s (⟨"RoundsPerHourModel", "mayBe", "(III)Z"⟩, 36) (ml_3 (List.mem_of_getElem? (i := 2) rfl)) rfl rfl
theorem wt_630 : Cond.fieldLink RX10 117 "RoundsPerHourModel" "things" "I" ∈ mWT := mt_5 (List.mem_of_getElem? (i := 41) rfl) rfl
theorem wt_631 : Cond.fieldLink RX10 22 "RoundsPerHourModel" "thing" "[I" ∈ mWT := mt_5 (List.mem_of_getElem? (i := 42) rfl) rfl
theorem wt_632 : Cond.fieldLink RX10 25 "RoundsPerHourModel" "base" "[I" ∈ mWT := mt_5 (List.mem_of_getElem? (i := 43) rfl) rfl
theorem wt_633 : Cond.code yX10_isThing cX10_isThing 2 (some .boolean) ∈ mWT := mt_5 (List.mem_of_getElem? (i := 230) rfl) rfl
theorem wt_634 : Cond.methodLink RX10 122 yX10_isThing ∈ mWT := mt_5 (List.mem_of_getElem? (i := 227) rfl) rfl
theorem wt_635 : Cond.instanceMethod yX10_isThing ∈ mWT := mt_5 (List.mem_of_getElem? (i := 229) rfl) rfl
theorem wt_636 : Cond.selects RX10 yX10_isThing yX10_isThing ∈ mWT := mt_s (⟨"RoundsPerHourModel", "isThing", "(I)Z"⟩, 36) (ml_3 (List.mem_of_getElem? (i := 3) rfl)) rfl rfl
theorem wt_637 : Cond.constantLong RX10 120 (-1) ∈ mWT := mt_5 (List.mem_of_getElem? (i := 231) rfl) rfl
theorem wt_638 : Cond.code yX10_ringsNow cX10_ringsNow 1 (some .boolean) ∈ mWT := mt_6 (List.mem_of_getElem? (i := 8) rfl) rfl
theorem wt_639 : Cond.methodLink RX10 169 yX10_ringsNow ∈ mWT := mt_6 (List.mem_of_getElem? (i := 5) rfl) rfl
theorem wt_640 : Cond.instanceMethod yX10_ringsNow ∈ mWT := mt_6 (List.mem_of_getElem? (i := 7) rfl) rfl
theorem wt_641 : Cond.selects RX10 yX10_ringsNow yX10_ringsNow ∈ mWT := mt_s (⟨"RoundsPerHourModel", "ringsNow", "()Z"⟩, 36) (ml_3 (List.mem_of_getElem? (i := 5) rfl)) rfl rfl
theorem wt_642 : Cond.code yX10_openWays cX10_openWays 3 (some .int) ∈ mWT := mt_6 (List.mem_of_getElem? (i := 12) rfl) rfl
theorem wt_643 : Cond.methodLink RX10 157 yX10_openWays ∈ mWT := mt_6 (List.mem_of_getElem? (i := 9) rfl) rfl
theorem wt_644 : Cond.instanceMethod yX10_openWays ∈ mWT := mt_6 (List.mem_of_getElem? (i := 11) rfl) rfl
theorem wt_645 : Cond.selects RX10 yX10_openWays yX10_openWays ∈ mWT := mt_s (⟨"RoundsPerHourModel", "openWays", "()I"⟩, 36) (ml_3 (List.mem_of_getElem? (i := 6) rfl)) rfl rfl
theorem wt_646 : Cond.code yX10_rings cX10_rings 4 (some .boolean) ∈ mWT := mt_6 (List.mem_of_getElem? (i := 16) rfl) rfl
theorem wt_647 : Cond.methodLink RX10 161 yX10_rings ∈ mWT := mt_6 (List.mem_of_getElem? (i := 13) rfl) rfl
theorem wt_648 : Cond.instanceMethod yX10_rings ∈ mWT := mt_6 (List.mem_of_getElem? (i := 15) rfl) rfl
theorem wt_649 : Cond.selects RX10 yX10_rings yX10_rings ∈ mWT := mt_s (⟨"RoundsPerHourModel", "rings", "(II)Z"⟩, 36) (ml_3 (List.mem_of_getElem? (i := 7) rfl)) rfl rfl
theorem wt_650 : Cond.fieldLink RX10 132 "RoundsPerHourModel" "isAny" "Z" ∈ mWT := mt_5 (List.mem_of_getElem? (i := 46) rfl) rfl
theorem wt_651 : Cond.code yX10_goesRound cX10_goesRound 15 none ∈ mWT := mt_6 (List.mem_of_getElem? (i := 20) rfl) rfl
theorem wt_652 : Cond.methodLink RX10 153 yX10_goesRound ∈ mWT := mt_6 (List.mem_of_getElem? (i := 17) rfl) rfl
theorem wt_653 : Cond.instanceMethod yX10_goesRound ∈ mWT := mt_6 (List.mem_of_getElem? (i := 19) rfl) rfl
theorem wt_654 : Cond.selects RX10 yX10_goesRound yX10_goesRound ∈ mWT := mt_s (⟨"RoundsPerHourModel", "goesRound", "(IIIIJJ)V"⟩, 36) (ml_3 (List.mem_of_getElem? (i := 8) rfl)) rfl rfl
theorem wt_655 : Cond.fieldLink RX10 146 "RoundsPerHourModel" "open" "I" ∈ mWT := mt_5 (List.mem_of_getElem? (i := 44) rfl) rfl
theorem wt_656 : Cond.code yX10_closes cX10_closes 8 none ∈ mWT := mt_6 (List.mem_of_getElem? (i := 24) rfl) rfl
theorem wt_657 : Cond.methodLink RX10 149 yX10_closes ∈ mWT := mt_6 (List.mem_of_getElem? (i := 21) rfl) rfl
theorem wt_658 : Cond.instanceMethod yX10_closes ∈ mWT := mt_6 (List.mem_of_getElem? (i := 23) rfl) rfl
theorem wt_659 : Cond.selects RX10 yX10_closes yX10_closes ∈ mWT := mt_s (⟨"RoundsPerHourModel", "closes", "(IJJ)V"⟩, 36) (ml_3 (List.mem_of_getElem? (i := 9) rfl)) rfl rfl
theorem wt_660 : Cond.fieldLink RX10 143 "RoundsPerHourModel" "topWays" "I" ∈ mWT := mt_5 (List.mem_of_getElem? (i := 49) rfl) rfl
theorem wt_661 : Cond.fieldLink RX10 140 "RoundsPerHourModel" "topAbove" "J" ∈ mWT := mt_5 (List.mem_of_getElem? (i := 47) rfl) rfl
theorem wt_662 : Cond.fieldLink RX10 136 "RoundsPerHourModel" "topBelow" "J" ∈ mWT := mt_5 (List.mem_of_getElem? (i := 48) rfl) rfl
theorem wt_663 : Cond.fieldLink RX10 129 "RoundsPerHourModel" "must" "I" ∈ mWT := mt_5 (List.mem_of_getElem? (i := 45) rfl) rfl
theorem wt_664 : Cond.code yX10_farFinds cX10_farFinds 2 (some .long) ∈ mWT := mt_6 (List.mem_of_getElem? (i := 3) rfl) rfl
theorem wt_665 : Cond.methodLink RX10 165 yX10_farFinds ∈ mWT := mt_6 (List.mem_of_getElem? (i := 0) rfl) rfl
theorem wt_666 : Cond.instanceMethod yX10_farFinds ∈ mWT := mt_6 (List.mem_of_getElem? (i := 2) rfl) rfl
theorem wt_667 : Cond.selects RX10 yX10_farFinds yX10_farFinds ∈ mWT := mt_s (⟨"RoundsPerHourModel", "farFinds", "(I)J"⟩, 36) (ml_3 (List.mem_of_getElem? (i := 4) rfl)) rfl rfl
theorem wt_668 : Cond.constantLong RX10 55 (-4000000000000000001) ∈ mWT := mt_6 (List.mem_of_getElem? (i := 4) rfl) rfl
theorem wt_669 : Cond.code yX10_lowest cX10_lowest 7 (some .long) ∈ mWT := mt_6 (List.mem_of_getElem? (i := 27) rfl) rfl
theorem wt_670 : Cond.methodLink RX10 173 yX10_lowest ∈ mWT := mt_6 (List.mem_of_getElem? (i := 25) rfl) rfl
theorem wt_671 : Cond.static yX10_lowest ∈ mWT := mt_6 (List.mem_of_getElem? (i := 26) rfl) rfl
theorem wt_672 : Cond.code yX10_common cX10_common 10 (some .long) ∈ mWT := mt_6 (List.mem_of_getElem? (i := 30) rfl) rfl
theorem wt_673 : Cond.methodLink RX10 125 yX10_common ∈ mWT := mt_6 (List.mem_of_getElem? (i := 28) rfl) rfl
theorem wt_674 : Cond.static yX10_common ∈ mWT := mt_6 (List.mem_of_getElem? (i := 29) rfl) rfl
theorem wt_675 : Cond.fieldLink RX10 28 "RoundsPerHourModel" "lifted" "[J" ∈ mWT := mt_5 (List.mem_of_getElem? (i := 50) rfl) rfl
theorem wt_676 : Cond.constantLong RX10 177 (-9223372036854775808) ∈ mWT := mt_6 (List.mem_of_getElem? (i := 39) rfl) rfl
theorem wt_677 : Cond.code yX10_lifts cX10_lifts 11 (some .boolean) ∈ mWT := mt_6 (List.mem_of_getElem? (i := 43) rfl) rfl
theorem wt_678 : Cond.methodLink RX10 179 yX10_lifts ∈ mWT := mt_6 (List.mem_of_getElem? (i := 40) rfl) rfl
theorem wt_679 : Cond.instanceMethod yX10_lifts ∈ mWT := mt_6 (List.mem_of_getElem? (i := 42) rfl) rfl
theorem wt_680 : Cond.selects RX10 yX10_lifts yX10_lifts ∈ mWT := mt_s (⟨"RoundsPerHourModel", "lifts", "(JJ)Z"⟩, 36) (ml_3 (List.mem_of_getElem? (i := 10) rfl)) rfl rfl
theorem wt_681 : Cond.fieldLink RX10 183 "RoundsPerHourModel" "hasRoom" "Z" ∈ mWT := mt_5 (List.mem_of_getElem? (i := 51) rfl) rfl
theorem wt_682 : Cond.code yX10_product cX10_product 7 (some .long) ∈ mWT := mt_6 (List.mem_of_getElem? (i := 51) rfl) rfl
theorem wt_683 : Cond.methodLink RX10 186 yX10_product ∈ mWT := mt_6 (List.mem_of_getElem? (i := 48) rfl) rfl
theorem wt_684 : Cond.instanceMethod yX10_product ∈ mWT := mt_6 (List.mem_of_getElem? (i := 50) rfl) rfl
theorem wt_685 : Cond.selects RX10 yX10_product yX10_product ∈ mWT := mt_s (⟨"RoundsPerHourModel", "product", "(JJ)J"⟩, 36) (ml_3 (List.mem_of_getElem? (i := 11) rfl)) rfl rfl
theorem wt_686 : Cond.constantLong RX10 189 (-4000000000000000000) ∈ mWT := mt_6 (List.mem_of_getElem? (i := 52) rfl) rfl
theorem wt_687 : Cond.code yX10_raised cX10_raised 10 (some .int) ∈ mWT := mt_6 (List.mem_of_getElem? (i := 60) rfl) rfl
theorem wt_688 : Cond.methodLink RX10 197 yX10_raised ∈ mWT := mt_6 (List.mem_of_getElem? (i := 57) rfl) rfl
theorem wt_689 : Cond.instanceMethod yX10_raised ∈ mWT := mt_6 (List.mem_of_getElem? (i := 59) rfl) rfl
theorem wt_690 : Cond.selects RX10 yX10_raised yX10_raised ∈ mWT := mt_s (⟨"RoundsPerHourModel", "raised", "(I)I"⟩, 36) (ml_3 (List.mem_of_getElem? (i := 12) rfl)) rfl rfl
theorem wt_691 : Cond.code yX10_isRaised cX10_isRaised 8 (some .boolean) ∈ mWT := mt_6 (List.mem_of_getElem? (i := 66) rfl) rfl
theorem wt_692 : Cond.methodLink RX10 193 yX10_isRaised ∈ mWT := mt_6 (List.mem_of_getElem? (i := 63) rfl) rfl
theorem wt_693 : Cond.instanceMethod yX10_isRaised ∈ mWT := mt_6 (List.mem_of_getElem? (i := 65) rfl) rfl
theorem wt_694 : Cond.selects RX10 yX10_isRaised yX10_isRaised ∈ mWT := mt_s (⟨"RoundsPerHourModel", "isRaised", "(IIIJJ)Z"⟩, 36) (ml_3 (List.mem_of_getElem? (i := 13) rfl)) rfl rfl
theorem wt_695 : Cond.constant RX10 192 (999999999) ∈ mWT := mt_6 (List.mem_of_getElem? (i := 62) rfl) rfl
theorem wt_696 : Cond.constant RX10 191 (-999999999) ∈ mWT := mt_6 (List.mem_of_getElem? (i := 61) rfl) rfl
theorem wt_697 : Cond.constantLong RX10 253 (3) ∈ mWT := mt_6 (List.mem_of_getElem? (i := 83) rfl) rfl
theorem wt_698 : Cond.fieldLink RX10 212 "RoundsPerHourModel" "sort" "I" ∈ mWT := mt_5 (List.mem_of_getElem? (i := 52) rfl) rfl
theorem wt_699 : Cond.code yX10_told cX10_told 3 (some .long) ∈ mWT := mt_6 (List.mem_of_getElem? (i := 87) rfl) rfl
theorem wt_700 : Cond.methodLink RX10 255 yX10_told ∈ mWT := mt_6 (List.mem_of_getElem? (i := 84) rfl) rfl
theorem wt_701 : Cond.instanceMethod yX10_told ∈ mWT := mt_6 (List.mem_of_getElem? (i := 86) rfl) rfl
theorem wt_702 : Cond.selects RX10 yX10_told yX10_told ∈ mWT := mt_s (⟨"RoundsPerHourModel", "told", "(I)J"⟩, 36) (ml_3 (List.mem_of_getElem? (i := 14) rfl)) rfl rfl
theorem wt_703 : Cond.code yX10_leastChoice cX10_leastChoice 2 (some .int) ∈ mWT := mt_6 (List.mem_of_getElem? (i := 91) rfl) rfl
theorem wt_704 : Cond.methodLink RX10 246 yX10_leastChoice ∈ mWT := mt_6 (List.mem_of_getElem? (i := 88) rfl) rfl
theorem wt_705 : Cond.instanceMethod yX10_leastChoice ∈ mWT := mt_6 (List.mem_of_getElem? (i := 90) rfl) rfl
theorem wt_706 : Cond.selects RX10 yX10_leastChoice yX10_leastChoice ∈ mWT := mt_s (⟨"RoundsPerHourModel", "leastChoice", "()I"⟩, 36) (ml_3 (List.mem_of_getElem? (i := 15) rfl)) rfl rfl
theorem wt_707 : Cond.code yX10_allSets cX10_allSets 1 (some .int) ∈ mWT := mt_6 (List.mem_of_getElem? (i := 95) rfl) rfl
theorem wt_708 : Cond.methodLink RX10 227 yX10_allSets ∈ mWT := mt_6 (List.mem_of_getElem? (i := 92) rfl) rfl
theorem wt_709 : Cond.instanceMethod yX10_allSets ∈ mWT := mt_6 (List.mem_of_getElem? (i := 94) rfl) rfl
theorem wt_710 : Cond.selects RX10 yX10_allSets yX10_allSets ∈ mWT := mt_s (⟨"RoundsPerHourModel", "allSets", "()I"⟩, 36) (ml_4 (List.mem_of_getElem? (i := 0) rfl)) rfl rfl
theorem wt_711 : Cond.code yX10_isChoice cX10_isChoice 2 (some .boolean) ∈ mWT := mt_6 (List.mem_of_getElem? (i := 99) rfl) rfl
theorem wt_712 : Cond.methodLink RX10 230 yX10_isChoice ∈ mWT := mt_6 (List.mem_of_getElem? (i := 96) rfl) rfl
theorem wt_713 : Cond.instanceMethod yX10_isChoice ∈ mWT := mt_6 (List.mem_of_getElem? (i := 98) rfl) rfl
theorem wt_714 : Cond.selects RX10 yX10_isChoice yX10_isChoice ∈ mWT := mt_s (⟨"RoundsPerHourModel", "isChoice", "(I)Z"⟩, 36) (ml_4 (List.mem_of_getElem? (i := 1) rfl)) rfl rfl
theorem wt_715 : Cond.code yX10_rises cX10_rises 5 (some .boolean) ∈ mWT := mt_6 (List.mem_of_getElem? (i := 118) rfl) rfl
theorem wt_716 : Cond.methodLink RX10 224 yX10_rises ∈ mWT := mt_6 (List.mem_of_getElem? (i := 115) rfl) rfl
theorem wt_717 : Cond.instanceMethod yX10_rises ∈ mWT := mt_6 (List.mem_of_getElem? (i := 117) rfl) rfl
theorem wt_718 : Cond.selects RX10 yX10_rises yX10_rises ∈ mWT := mt_s (⟨"RoundsPerHourModel", "rises", "(I)Z"⟩, 36) (ml_4 (List.mem_of_getElem? (i := 5) rfl)) rfl rfl
theorem wt_719 : Cond.fieldLink RX10 209 "RoundsPerHourModel" "goesTo" "I" ∈ mWT := mt_5 (List.mem_of_getElem? (i := 54) rfl) rfl
theorem wt_720 : Cond.code yX10_wayFrom cX10_wayFrom 6 (some .int) ∈ mWT := mt_6 (List.mem_of_getElem? (i := 110) rfl) rfl
theorem wt_721 : Cond.methodLink RX10 200 yX10_wayFrom ∈ mWT := mt_6 (List.mem_of_getElem? (i := 107) rfl) rfl
theorem wt_722 : Cond.instanceMethod yX10_wayFrom ∈ mWT := mt_6 (List.mem_of_getElem? (i := 109) rfl) rfl
theorem wt_723 : Cond.selects RX10 yX10_wayFrom yX10_wayFrom ∈ mWT := mt_s (⟨"RoundsPerHourModel", "wayFrom", "(II)I"⟩, 36) (ml_4 (List.mem_of_getElem? (i := 3) rfl)) rfl rfl
theorem wt_724 : Cond.fieldLink RX10 206 "RoundsPerHourModel" "goesFrom" "I" ∈ mWT := mt_5 (List.mem_of_getElem? (i := 53) rfl) rfl
theorem wt_725 : Cond.code yX10_joinsAll cX10_joinsAll 6 (some .boolean) ∈ mWT := mt_6 (List.mem_of_getElem? (i := 114) rfl) rfl
theorem wt_726 : Cond.methodLink RX10 221 yX10_joinsAll ∈ mWT := mt_6 (List.mem_of_getElem? (i := 111) rfl) rfl
theorem wt_727 : Cond.instanceMethod yX10_joinsAll ∈ mWT := mt_6 (List.mem_of_getElem? (i := 113) rfl) rfl
theorem wt_728 : Cond.selects RX10 yX10_joinsAll yX10_joinsAll ∈ mWT := mt_s (⟨"RoundsPerHourModel", "joinsAll", "(I)Z"⟩, 36) (ml_4 (List.mem_of_getElem? (i := 4) rfl)) rfl rfl
theorem wt_729 : Cond.code yX10_bits cX10_bits 3 (some .int) ∈ mWT := mt_6 (List.mem_of_getElem? (i := 102) rfl) rfl
theorem wt_730 : Cond.methodLink RX10 203 yX10_bits ∈ mWT := mt_6 (List.mem_of_getElem? (i := 100) rfl) rfl
theorem wt_731 : Cond.static yX10_bits ∈ mWT := mt_6 (List.mem_of_getElem? (i := 101) rfl) rfl
theorem wt_732 : Cond.code yX10_isRound cX10_isRound 8 (some .boolean) ∈ mWT := mt_6 (List.mem_of_getElem? (i := 106) rfl) rfl
theorem wt_733 : Cond.methodLink RX10 218 yX10_isRound ∈ mWT := mt_6 (List.mem_of_getElem? (i := 103) rfl) rfl
theorem wt_734 : Cond.instanceMethod yX10_isRound ∈ mWT := mt_6 (List.mem_of_getElem? (i := 105) rfl) rfl
theorem wt_735 : Cond.selects RX10 yX10_isRound yX10_isRound ∈ mWT := mt_s (⟨"RoundsPerHourModel", "isRound", "(I)Z"⟩, 36) (ml_4 (List.mem_of_getElem? (i := 2) rfl)) rfl rfl
theorem wt_736 : Cond.fieldLink RX10 215 "RoundsPerHourModel" "many" "I" ∈ mWT := mt_5 (List.mem_of_getElem? (i := 55) rfl) rfl
theorem wt_737 : Cond.code yX10_climbed cX10_climbed 10 (some .long) ∈ mWT := mt_6 (List.mem_of_getElem? (i := 122) rfl) rfl
theorem wt_738 : Cond.methodLink RX10 249 yX10_climbed ∈ mWT := mt_6 (List.mem_of_getElem? (i := 119) rfl) rfl
theorem wt_739 : Cond.instanceMethod yX10_climbed ∈ mWT := mt_6 (List.mem_of_getElem? (i := 121) rfl) rfl
theorem wt_740 : Cond.selects RX10 yX10_climbed yX10_climbed ∈ mWT := mt_s (⟨"RoundsPerHourModel", "climbed", "(II)J"⟩, 36) (ml_4 (List.mem_of_getElem? (i := 6) rfl)) rfl rfl
theorem wt_741 : Cond.code yX10_aboveOf cX10_aboveOf 5 (some .long) ∈ mWT := mt_6 (List.mem_of_getElem? (i := 126) rfl) rfl
theorem wt_742 : Cond.methodLink RX10 233 yX10_aboveOf ∈ mWT := mt_6 (List.mem_of_getElem? (i := 123) rfl) rfl
theorem wt_743 : Cond.instanceMethod yX10_aboveOf ∈ mWT := mt_6 (List.mem_of_getElem? (i := 125) rfl) rfl
theorem wt_744 : Cond.selects RX10 yX10_aboveOf yX10_aboveOf ∈ mWT := mt_s (⟨"RoundsPerHourModel", "aboveOf", "(I)J"⟩, 36) (ml_4 (List.mem_of_getElem? (i := 7) rfl)) rfl rfl
theorem wt_745 : Cond.code yX10_belowOf cX10_belowOf 5 (some .long) ∈ mWT := mt_6 (List.mem_of_getElem? (i := 130) rfl) rfl
theorem wt_746 : Cond.methodLink RX10 236 yX10_belowOf ∈ mWT := mt_6 (List.mem_of_getElem? (i := 127) rfl) rfl
theorem wt_747 : Cond.instanceMethod yX10_belowOf ∈ mWT := mt_6 (List.mem_of_getElem? (i := 129) rfl) rfl
theorem wt_748 : Cond.selects RX10 yX10_belowOf yX10_belowOf ∈ mWT := mt_s (⟨"RoundsPerHourModel", "belowOf", "(I)J"⟩, 36) (ml_4 (List.mem_of_getElem? (i := 8) rfl)) rfl rfl
theorem wt_749 : Cond.code yX10_leastLike cX10_leastLike 6 (some .int) ∈ mWT := mt_6 (List.mem_of_getElem? (i := 138) rfl) rfl
theorem wt_750 : Cond.methodLink RX10 243 yX10_leastLike ∈ mWT := mt_6 (List.mem_of_getElem? (i := 135) rfl) rfl
theorem wt_751 : Cond.instanceMethod yX10_leastLike ∈ mWT := mt_6 (List.mem_of_getElem? (i := 137) rfl) rfl
theorem wt_752 : Cond.selects RX10 yX10_leastLike yX10_leastLike ∈ mWT := mt_s (⟨"RoundsPerHourModel", "leastLike", "(JJ)I"⟩, 36) (ml_4 (List.mem_of_getElem? (i := 10) rfl)) rfl rfl
theorem wt_753 : Cond.code yX10_nextChoice cX10_nextChoice 11 (some .int) ∈ mWT := mt_6 (List.mem_of_getElem? (i := 134) rfl) rfl
theorem wt_754 : Cond.methodLink RX10 239 yX10_nextChoice ∈ mWT := mt_6 (List.mem_of_getElem? (i := 131) rfl) rfl
theorem wt_755 : Cond.instanceMethod yX10_nextChoice ∈ mWT := mt_6 (List.mem_of_getElem? (i := 133) rfl) rfl
theorem wt_756 : Cond.selects RX10 yX10_nextChoice yX10_nextChoice ∈ mWT := mt_s (⟨"RoundsPerHourModel", "nextChoice", "(JJ)I"⟩, 36) (ml_4 (List.mem_of_getElem? (i := 9) rfl)) rfl rfl
theorem wt_757 : Cond.fieldLink RX10 38 "RoundsPerHourModel" "number" "[J" ∈ mWT := mt_5 (List.mem_of_getElem? (i := 58) rfl) rfl
theorem wt_758 : Cond.code yX10_wrong cX10_wrong 4 (some .int) ∈ mWT := mt_6 (List.mem_of_getElem? (i := 158) rfl) rfl
theorem wt_759 : Cond.methodLink RX10 261 yX10_wrong ∈ mWT := mt_6 (List.mem_of_getElem? (i := 155) rfl) rfl
theorem wt_760 : Cond.instanceMethod yX10_wrong ∈ mWT := mt_6 (List.mem_of_getElem? (i := 157) rfl) rfl
theorem wt_761 : Cond.selects RX10 yX10_wrong yX10_wrong ∈ mWT := mt_s (⟨"RoundsPerHourModel", "wrong", "(III)I"⟩, 36) (ml_4 (List.mem_of_getElem? (i := 11) rfl)) rfl rfl
theorem wt_762 : Cond.code yX10_isSheet cX10_isSheet 1 (some .boolean) ∈ mWT := mt_6 (List.mem_of_getElem? (i := 161) rfl) rfl
theorem wt_763 : Cond.methodLink RX10 258 yX10_isSheet ∈ mWT := mt_6 (List.mem_of_getElem? (i := 159) rfl) rfl
theorem wt_764 : Cond.static yX10_isSheet ∈ mWT := mt_6 (List.mem_of_getElem? (i := 160) rfl) rfl
theorem wt_765 : Cond.fieldLink RX10 32 "RoundsPerHourModel" "bitsOf" "[I" ∈ mWT := mt_5 (List.mem_of_getElem? (i := 56) rfl) rfl
theorem wt_766 : Cond.fieldLink RX10 35 "RoundsPerHourModel" "sizeOf" "[I" ∈ mWT := mt_5 (List.mem_of_getElem? (i := 57) rfl) rfl
theorem wt_767 : Cond.code yX10_narrow cX10_narrow 3 (some .long) ∈ mWT := mt_6 (List.mem_of_getElem? (i := 168) rfl) rfl
theorem wt_768 : Cond.methodLink RX10 265 yX10_narrow ∈ mWT := mt_6 (List.mem_of_getElem? (i := 166) rfl) rfl
theorem wt_769 : Cond.static yX10_narrow ∈ mWT := mt_6 (List.mem_of_getElem? (i := 167) rfl) rfl
theorem wt_770 : Cond.code yX10_sum cX10_sum 7 (some .long) ∈ mWT := mt_6 (List.mem_of_getElem? (i := 176) rfl) rfl
theorem wt_771 : Cond.methodLink RX10 269 yX10_sum ∈ mWT := mt_6 (List.mem_of_getElem? (i := 173) rfl) rfl
theorem wt_772 : Cond.instanceMethod yX10_sum ∈ mWT := mt_6 (List.mem_of_getElem? (i := 175) rfl) rfl
theorem wt_773 : Cond.selects RX10 yX10_sum yX10_sum ∈ mWT := mt_s (⟨"RoundsPerHourModel", "sum", "(JJ)J"⟩, 36) (ml_4 (List.mem_of_getElem? (i := 12) rfl)) rfl rfl
theorem wt_774 : Cond.fieldLink RX10 274 "RoundsPerHourModel" "taped" "I" ∈ mWT := mt_5 (List.mem_of_getElem? (i := 61) rfl) rfl
theorem wt_775 : Cond.fieldLink RX10 44 "RoundsPerHourModel" "tape" "[I" ∈ mWT := mt_5 (List.mem_of_getElem? (i := 60) rfl) rfl
theorem wt_776 : Cond.constantLong RX10 272 (4) ∈ mWT := mt_6 (List.mem_of_getElem? (i := 181) rfl) rfl
theorem wt_777 : Cond.fieldLink RX10 280 "RoundsPerHourModel" "began" "I" ∈ mWT := mt_5 (List.mem_of_getElem? (i := 63) rfl) rfl
theorem wt_778 : Cond.fieldLink RX10 286 "RoundsPerHourModel" "token" "I" ∈ mWT := mt_5 (List.mem_of_getElem? (i := 64) rfl) rfl
theorem wt_779 : Cond.code yX10_next cX10_next 3 none ∈ mWT := mt_6 (List.mem_of_getElem? (i := 193) rfl) rfl
theorem wt_780 : Cond.methodLink RX10 307 yX10_next ∈ mWT := mt_6 (List.mem_of_getElem? (i := 190) rfl) rfl
theorem wt_781 : Cond.instanceMethod yX10_next ∈ mWT := mt_6 (List.mem_of_getElem? (i := 192) rfl) rfl
theorem wt_782 : Cond.selects RX10 yX10_next yX10_next ∈ mWT := mt_s (⟨"RoundsPerHourModel", "next", "()V"⟩, 36) (ml_4 (List.mem_of_getElem? (i := 13) rfl)) rfl rfl
theorem wt_783 : Cond.code yX10_isWordFrom cX10_isWordFrom 4 (some .boolean) ∈ mWT := mt_6 (List.mem_of_getElem? (i := 203) rfl) rfl
theorem wt_784 : Cond.methodLink RX10 293 yX10_isWordFrom ∈ mWT := mt_6 (List.mem_of_getElem? (i := 200) rfl) rfl
theorem wt_785 : Cond.instanceMethod yX10_isWordFrom ∈ mWT := mt_6 (List.mem_of_getElem? (i := 202) rfl) rfl
theorem wt_786 : Cond.selects RX10 yX10_isWordFrom yX10_isWordFrom ∈ mWT := mt_s (⟨"RoundsPerHourModel", "isWordFrom", "(I)Z"⟩, 36) (ml_4 (List.mem_of_getElem? (i := 15) rfl)) rfl rfl
theorem wt_787 : Cond.fieldLink RX10 47 "RoundsPerHourModel" "words" "[C" ∈ mWT := mt_5 (List.mem_of_getElem? (i := 67) rfl) rfl
theorem wt_788 : Cond.fieldLink RX10 277 "RoundsPerHourModel" "read" "I" ∈ mWT := mt_5 (List.mem_of_getElem? (i := 62) rfl) rfl
theorem wt_789 : Cond.code yX10_byteAt cX10_byteAt 2 (some .int) ∈ mWT := mt_6 (List.mem_of_getElem? (i := 197) rfl) rfl
theorem wt_790 : Cond.methodLink RX10 283 yX10_byteAt ∈ mWT := mt_6 (List.mem_of_getElem? (i := 194) rfl) rfl
theorem wt_791 : Cond.instanceMethod yX10_byteAt ∈ mWT := mt_6 (List.mem_of_getElem? (i := 196) rfl) rfl
theorem wt_792 : Cond.selects RX10 yX10_byteAt yX10_byteAt ∈ mWT := mt_s (⟨"RoundsPerHourModel", "byteAt", "(I)I"⟩, 36) (ml_4 (List.mem_of_getElem? (i := 14) rfl)) rfl rfl
theorem wt_793 : Cond.constantLong RX10 289 (97) ∈ mWT := mt_6 (List.mem_of_getElem? (i := 198) rfl) rfl
theorem wt_794 : Cond.constantLong RX10 291 (122) ∈ mWT := mt_6 (List.mem_of_getElem? (i := 199) rfl) rfl
theorem wt_795 : Cond.fieldLink RX10 300 "RoundsPerHourModel" "value" "I" ∈ mWT := mt_5 (List.mem_of_getElem? (i := 65) rfl) rfl
theorem wt_796 : Cond.constantLong RX10 296 (48) ∈ mWT := mt_6 (List.mem_of_getElem? (i := 204) rfl) rfl
theorem wt_797 : Cond.constantLong RX10 298 (57) ∈ mWT := mt_6 (List.mem_of_getElem? (i := 205) rfl) rfl
theorem wt_798 : Cond.constant RX10 303 (999999) ∈ mWT := mt_6 (List.mem_of_getElem? (i := 206) rfl) rfl
theorem wt_799 : Cond.code yX10_readsItem cX10_readsItem 2 (some .boolean) ∈ mWT := mt_6 (List.mem_of_getElem? (i := 210) rfl) rfl
theorem wt_800 : Cond.methodLink RX10 331 yX10_readsItem ∈ mWT := mt_6 (List.mem_of_getElem? (i := 207) rfl) rfl
theorem wt_801 : Cond.instanceMethod yX10_readsItem ∈ mWT := mt_6 (List.mem_of_getElem? (i := 209) rfl) rfl
theorem wt_802 : Cond.selects RX10 yX10_readsItem yX10_readsItem ∈ mWT := mt_s (⟨"RoundsPerHourModel", "readsItem", "()Z"⟩, 36) (ml_5 (List.mem_of_getElem? (i := 0) rfl)) rfl rfl
theorem wt_803 : Cond.code yX10_takesNumber cX10_takesNumber 3 (some .boolean) ∈ mWT := mt_6 (List.mem_of_getElem? (i := 218) rfl) rfl
theorem wt_804 : Cond.methodLink RX10 319 yX10_takesNumber ∈ mWT := mt_6 (List.mem_of_getElem? (i := 215) rfl) rfl
theorem wt_805 : Cond.instanceMethod yX10_takesNumber ∈ mWT := mt_6 (List.mem_of_getElem? (i := 217) rfl) rfl
theorem wt_806 : Cond.selects RX10 yX10_takesNumber yX10_takesNumber ∈ mWT := mt_s (⟨"RoundsPerHourModel", "takesNumber", "(II)Z"⟩, 36) (ml_5 (List.mem_of_getElem? (i := 2) rfl)) rfl rfl
theorem wt_807 : Cond.fieldLink RX10 304 "RoundsPerHourModel" "last" "I" ∈ mWT := mt_5 (List.mem_of_getElem? (i := 66) rfl) rfl
theorem wt_808 : Cond.code yX10_readsThing cX10_readsThing 1 (some .boolean) ∈ mWT := mt_6 (List.mem_of_getElem? (i := 230) rfl) rfl
theorem wt_809 : Cond.methodLink RX10 328 yX10_readsThing ∈ mWT := mt_6 (List.mem_of_getElem? (i := 227) rfl) rfl
theorem wt_810 : Cond.instanceMethod yX10_readsThing ∈ mWT := mt_6 (List.mem_of_getElem? (i := 229) rfl) rfl
theorem wt_811 : Cond.selects RX10 yX10_readsThing yX10_readsThing ∈ mWT := mt_s (⟨"RoundsPerHourModel", "readsThing", "()Z"⟩, 36) (ml_5 (List.mem_of_getElem? (i := 5) rfl)) rfl rfl
theorem wt_812 : Cond.code yX10_readsGainAndTime cX10_readsGainAndTime 2 (some .boolean) ∈ mWT := mt_6 (List.mem_of_getElem? (i := 222) rfl) rfl
theorem wt_813 : Cond.methodLink RX10 322 yX10_readsGainAndTime ∈ mWT := mt_6 (List.mem_of_getElem? (i := 219) rfl) rfl
theorem wt_814 : Cond.instanceMethod yX10_readsGainAndTime ∈ mWT := mt_6 (List.mem_of_getElem? (i := 221) rfl) rfl
theorem wt_815 : Cond.selects RX10 yX10_readsGainAndTime yX10_readsGainAndTime ∈ mWT := mt_s (⟨"RoundsPerHourModel", "readsGainAndTime", "()Z"⟩, 36) (ml_5 (List.mem_of_getElem? (i := 3) rfl)) rfl rfl
theorem wt_816 : Cond.code yX10_isWord cX10_isWord 2 (some .boolean) ∈ mWT := mt_6 (List.mem_of_getElem? (i := 226) rfl) rfl
theorem wt_817 : Cond.methodLink RX10 316 yX10_isWord ∈ mWT := mt_6 (List.mem_of_getElem? (i := 223) rfl) rfl
theorem wt_818 : Cond.instanceMethod yX10_isWord ∈ mWT := mt_6 (List.mem_of_getElem? (i := 225) rfl) rfl
theorem wt_819 : Cond.selects RX10 yX10_isWord yX10_isWord ∈ mWT := mt_s (⟨"RoundsPerHourModel", "isWord", "(I)Z"⟩, 36) (ml_5 (List.mem_of_getElem? (i := 4) rfl)) rfl rfl
theorem wt_820 : Cond.fieldLink RX10 313 "RoundsPerHourModel" "toldTime" "I" ∈ mWT := mt_5 (List.mem_of_getElem? (i := 69) rfl) rfl
theorem wt_821 : Cond.fieldLink RX10 310 "RoundsPerHourModel" "toldGain" "I" ∈ mWT := mt_5 (List.mem_of_getElem? (i := 68) rfl) rfl
theorem wt_822 : Cond.code yX10_readsWay cX10_readsWay 4 (some .boolean) ∈ mWT := mt_6 (List.mem_of_getElem? (i := 214) rfl) rfl
theorem wt_823 : Cond.methodLink RX10 325 yX10_readsWay ∈ mWT := mt_6 (List.mem_of_getElem? (i := 211) rfl) rfl
theorem wt_824 : Cond.instanceMethod yX10_readsWay ∈ mWT := mt_6 (List.mem_of_getElem? (i := 213) rfl) rfl
theorem wt_825 : Cond.selects RX10 yX10_readsWay yX10_readsWay ∈ mWT := mt_s (⟨"RoundsPerHourModel", "readsWay", "(I)Z"⟩, 36) (ml_5 (List.mem_of_getElem? (i := 1) rfl)) rfl rfl
theorem wt_826 : Cond.code yX10_lacks cX10_lacks 3 (some .int) ∈ mWT := mt_7 (List.mem_of_getElem? (i := 2) rfl) rfl
theorem wt_827 : Cond.methodLink RX10 334 yX10_lacks ∈ mWT := mt_6 (List.mem_of_getElem? (i := 239) rfl) rfl
theorem wt_828 : Cond.instanceMethod yX10_lacks ∈ mWT := mt_7 (List.mem_of_getElem? (i := 1) rfl) rfl
theorem wt_829 : Cond.selects RX10 yX10_lacks yX10_lacks ∈ mWT := mt_s (⟨"RoundsPerHourModel", "lacks", "(II)I"⟩, 36) (ml_5 (List.mem_of_getElem? (i := 6) rfl)) rfl rfl
theorem wt_830 : Cond.fieldLink RX10 41 "RoundsPerHourModel" "moved" "[J" ∈ mWT := mt_5 (List.mem_of_getElem? (i := 59) rfl) rfl
theorem wt_831 : Cond.fieldLink RX10 337 "RoundsPerHourModel" "isKept" "Z" ∈ mWT := mt_5 (List.mem_of_getElem? (i := 71) rfl) rfl
theorem wt_832 : Cond.fieldLink RX10 51 "RoundsPerHourModel" "kept" "[I" ∈ mWT := mt_5 (List.mem_of_getElem? (i := 70) rfl) rfl
theorem wt_833 : Cond.constantLong RX10 340 (8) ∈ mWT := mt_7 (List.mem_of_getElem? (i := 35) rfl) rfl
theorem wt_834 : Cond.methodLink RX9 3 Lib.objectInit ∈ mWT := mt_1 (List.mem_of_getElem? (i := 25) rfl) rfl
theorem wt_835 : Cond.instanceMethod Lib.objectInit ∈ mWT := mt_1 (List.mem_of_getElem? (i := 26) rfl) rfl
theorem wt_836 : Cond.code Lib.objectInit ⟨#[0xb1]⟩ 1 none ∈ mWT := mt_1 (List.mem_of_getElem? (i := 27) rfl) rfl
theorem wt_837 : Cond.classLink RX9 9 RX1 ∈ mWT := mt_1 (List.mem_of_getElem? (i := 28) rfl) rfl
theorem wt_838 : Cond.instantiable RX1 12 ∈ mWT := mt_1 (List.mem_of_getElem? (i := 29) rfl) rfl
theorem wt_839 : Cond.methodLink RX1 3 Lib.objectInit ∈ mWT := mt_1 (List.mem_of_getElem? (i := 33) rfl) rfl
theorem wt_840 : Cond.arrayClass .int ∈ mWT := mt_1 (List.mem_of_getElem? (i := 108) rfl) rfl
theorem wt_841 : Cond.code yX1_init cX1_init 1 none ∈ mWT := mt_1 (List.mem_of_getElem? (i := 32) rfl) rfl
theorem wt_842 : Cond.methodLink RX9 11 yX1_init ∈ mWT := mt_1 (List.mem_of_getElem? (i := 30) rfl) rfl
theorem wt_843 : Cond.instanceMethod yX1_init ∈ mWT := mt_1 (List.mem_of_getElem? (i := 31) rfl) rfl
theorem wt_844 : Cond.classLink RX9 22 RX4 ∈ mWT := mt_1 (List.mem_of_getElem? (i := 109) rfl) rfl
theorem wt_845 : Cond.instantiable RX4 13 ∈ mWT := mt_1 (List.mem_of_getElem? (i := 110) rfl) rfl
theorem wt_846 : Cond.methodLink RX4 3 Lib.objectInit ∈ mWT := mt_1 (List.mem_of_getElem? (i := 114) rfl) rfl
theorem wt_847 : Cond.arrayClass .long ∈ mWT := mt_1 (List.mem_of_getElem? (i := 160) rfl) rfl
theorem wt_848 : Cond.arrayClass .boolean ∈ mWT := mt_1 (List.mem_of_getElem? (i := 161) rfl) rfl
theorem wt_849 : Cond.code yX4_init cX4_init 1 none ∈ mWT := mt_1 (List.mem_of_getElem? (i := 113) rfl) rfl
theorem wt_850 : Cond.instanceMethod yX4_init ∈ mWT := mt_1 (List.mem_of_getElem? (i := 112) rfl) rfl
theorem wt_851 : Cond.classLink RX9 29 RX7 ∈ mWT := mt_1 (List.mem_of_getElem? (i := 162) rfl) rfl
theorem wt_852 : Cond.instantiable RX7 12 ∈ mWT := mt_1 (List.mem_of_getElem? (i := 163) rfl) rfl
theorem wt_853 : Cond.methodLink RX0 3 Lib.objectInit ∈ mWT := mt_1 (List.mem_of_getElem? (i := 170) rfl) rfl
theorem wt_854 : Cond.code yX0_init cX0_init 1 none ∈ mWT := mt_1 (List.mem_of_getElem? (i := 169) rfl) rfl
theorem wt_855 : Cond.instanceMethod yX0_init ∈ mWT := mt_1 (List.mem_of_getElem? (i := 168) rfl) rfl
theorem wt_856 : Cond.classLink RX7 9 RX2 ∈ mWT := mt_1 (List.mem_of_getElem? (i := 171) rfl) rfl
theorem wt_857 : Cond.instantiable RX2 1 ∈ mWT := mt_1 (List.mem_of_getElem? (i := 172) rfl) rfl
theorem wt_858 : Cond.methodLink RX2 3 Lib.objectInit ∈ mWT := mt_1 (List.mem_of_getElem? (i := 176) rfl) rfl
theorem wt_859 : Cond.code yX2_init cX2_init 1 none ∈ mWT := mt_1 (List.mem_of_getElem? (i := 175) rfl) rfl
theorem wt_860 : Cond.instanceMethod yX2_init ∈ mWT := mt_1 (List.mem_of_getElem? (i := 174) rfl) rfl
theorem wt_861 : Cond.code yX7_init cX7_init 1 none ∈ mWT := mt_1 (List.mem_of_getElem? (i := 166) rfl) rfl
theorem wt_862 : Cond.instanceMethod yX7_init ∈ mWT := mt_1 (List.mem_of_getElem? (i := 165) rfl) rfl
theorem wt_863 : Cond.classLink RX9 36 RX8 ∈ mWT := mt_2 (List.mem_of_getElem? (i := 2) rfl) rfl
theorem wt_864 : Cond.instantiable RX8 15 ∈ mWT := mt_2 (List.mem_of_getElem? (i := 3) rfl) rfl
theorem wt_865 : Cond.code yX8_init cX8_init 1 none ∈ mWT := mt_2 (List.mem_of_getElem? (i := 6) rfl) rfl
theorem wt_866 : Cond.instanceMethod yX8_init ∈ mWT := mt_2 (List.mem_of_getElem? (i := 5) rfl) rfl
theorem wt_867 : Cond.classLink RX9 43 RX3 ∈ mWT := mt_2 (List.mem_of_getElem? (i := 34) rfl) rfl
theorem wt_868 : Cond.instantiable RX3 11 ∈ mWT := mt_2 (List.mem_of_getElem? (i := 35) rfl) rfl
theorem wt_869 : Cond.code yX3_init cX3_init 1 none ∈ mWT := mt_2 (List.mem_of_getElem? (i := 38) rfl) rfl
theorem wt_870 : Cond.instanceMethod yX3_init ∈ mWT := mt_2 (List.mem_of_getElem? (i := 37) rfl) rfl
theorem wt_871 : Cond.classLink RX9 50 RX2 ∈ mWT := mt_2 (List.mem_of_getElem? (i := 54) rfl) rfl
theorem wt_872 : Cond.classLink RX9 57 RX6 ∈ mWT := mt_2 (List.mem_of_getElem? (i := 56) rfl) rfl
theorem wt_873 : Cond.instantiable RX6 9 ∈ mWT := mt_2 (List.mem_of_getElem? (i := 57) rfl) rfl
theorem wt_874 : Cond.methodLink RX6 3 Lib.objectInit ∈ mWT := mt_2 (List.mem_of_getElem? (i := 61) rfl) rfl
theorem wt_875 : Cond.code yX6_init cX6_init 1 none ∈ mWT := mt_2 (List.mem_of_getElem? (i := 60) rfl) rfl
theorem wt_876 : Cond.instanceMethod yX6_init ∈ mWT := mt_2 (List.mem_of_getElem? (i := 59) rfl) rfl
theorem wt_877 : Cond.classLink RX9 64 "RoundsPerHour$Sheet" ∈ mWT := mt_2 (List.mem_of_getElem? (i := 91) rfl) rfl
theorem wt_878 : Cond.classLink RX9 64 RX5 ∈ mWT := mt_2 (List.mem_of_getElem? (i := 91) rfl) rfl
theorem wt_879 : Cond.instantiable RX5 3 ∈ mWT := mt_2 (List.mem_of_getElem? (i := 93) rfl) rfl
theorem wt_880 : Cond.methodLink RX5 3 Lib.objectInit ∈ mWT := mt_2 (List.mem_of_getElem? (i := 97) rfl) rfl
theorem wt_881 : Cond.code yX5_init cX5_init 1 none ∈ mWT := mt_2 (List.mem_of_getElem? (i := 96) rfl) rfl
theorem wt_882 : Cond.instanceMethod yX5_init ∈ mWT := mt_2 (List.mem_of_getElem? (i := 95) rfl) rfl
theorem wt_883 : Cond.methodLink RX10 3 Lib.objectInit ∈ mWT := mt_5 (List.mem_of_getElem? (i := 35) rfl) rfl
theorem wt_884 : Cond.arrayClass .char ∈ mWT := mt_5 (List.mem_of_getElem? (i := 145) rfl) rfl
theorem fd_RX9_12_8 : MFd RX9 12 8 0 := ⟨_, _, _, _, rfl, rfl, by decide, uws_8, wt_0, Or.inl rfl⟩
theorem fd_RX9_83_0 : MFd RX9 83 0 2 := ⟨_, _, _, _, rfl, rfl, by decide, uws_0, wt_1, Or.inl rfl⟩
theorem fd_RX9_93_0 : MFd RX9 93 0 0 := ⟨_, _, _, _, rfl, rfl, by decide, uws_0, wt_2, Or.inl rfl⟩
theorem fw_RX9_93_0 : MFw RX9 93 0 0 .int := ⟨_, _, _, _, tyX1, rfl, rfl, by decide, uws_0, wt_2, Or.inl rfl, tyX1_ok, nmX1, rfl, by decide +kernel⟩
theorem fd_RX9_87_0 : MFd RX9 87 0 4 := ⟨_, _, _, _, rfl, rfl, by decide, uws_0, wt_3, Or.inl rfl⟩
theorem lkV_RX9_79_yX9_finding : MLv RX9 79 RX9 yX9_finding cX9_finding 2 (some .int) 1 := ⟨wt_4, wt_5, wt_6, wt_7, wt_8, rfl, by decide +kernel, by decide +kernel, by decide +kernel⟩
theorem fd_RX9_70_8 : MFd RX9 70 8 11 := ⟨_, _, _, _, rfl, rfl, by decide, uws_8, wt_9, Or.inl rfl⟩
theorem fd_RX9_90_0 : MFd RX9 90 0 5 := ⟨_, _, _, _, rfl, rfl, by decide, uws_0, wt_11, Or.inl rfl⟩
theorem lkS_RX9_75_yX9_within : MLs RX9 75 yX9_within cX9_within 3 (some .boolean) 3 := ⟨wt_12, wt_13, wt_14, wt_8, by decide +kernel, by decide +kernel, by decide +kernel⟩
theorem fd_RX9_96_0 : MFd RX9 96 0 1 := ⟨_, _, _, _, rfl, rfl, by decide, uws_0, wt_15, Or.inl rfl⟩
theorem fw_RX9_96_0 : MFw RX9 96 0 1 .int := ⟨_, _, _, _, tyX1, rfl, rfl, by decide, uws_0, wt_15, Or.inl rfl, tyX1_ok, nmX1, rfl, by decide +kernel⟩
theorem lkS_RX9_103_yX9_isKind : MLs RX9 103 yX9_isKind cX9_isKind 1 (some .boolean) 1 := ⟨wt_16, wt_17, wt_18, wt_8, by decide +kernel, by decide +kernel, by decide +kernel⟩
theorem lkS_RX9_106_yX9_isGain : MLs RX9 106 yX9_isGain cX9_isGain 1 (some .boolean) 1 := ⟨wt_19, wt_20, wt_21, wt_8, by decide +kernel, by decide +kernel, by decide +kernel⟩
theorem lkS_RX9_109_yX9_isTime : MLs RX9 109 yX9_isTime cX9_isTime 1 (some .boolean) 1 := ⟨wt_24, wt_25, wt_26, wt_8, by decide +kernel, by decide +kernel, by decide +kernel⟩
theorem lkV_RX9_112_yX1_newWay : MLv RX9 112 RX1 yX1_newWay cX1_newWay 7 (some .int) 5 := ⟨wt_28, wt_29, wt_30, wt_31, wt_32, rfl, by decide +kernel, by decide +kernel, by decide +kernel⟩
theorem fd_RX1_44_0 : MFd RX1 44 0 2 := ⟨_, _, _, _, rfl, rfl, by decide, uws_0, wt_33, Or.inl rfl⟩
theorem fd_RX1_15_0 : MFd RX1 15 0 3 := ⟨_, _, _, _, rfl, rfl, by decide, uws_0, wt_34, Or.inl rfl⟩
theorem fd_RX1_19_0 : MFd RX1 19 0 4 := ⟨_, _, _, _, rfl, rfl, by decide, uws_0, wt_35, Or.inl rfl⟩
theorem fd_RX1_22_0 : MFd RX1 22 0 5 := ⟨_, _, _, _, rfl, rfl, by decide, uws_0, wt_36, Or.inl rfl⟩
theorem fd_RX1_25_0 : MFd RX1 25 0 6 := ⟨_, _, _, _, rfl, rfl, by decide, uws_0, wt_37, Or.inl rfl⟩
theorem fd_RX1_28_0 : MFd RX1 28 0 7 := ⟨_, _, _, _, rfl, rfl, by decide, uws_0, wt_38, Or.inl rfl⟩
theorem fd_RX1_31_0 : MFd RX1 31 0 8 := ⟨_, _, _, _, rfl, rfl, by decide, uws_0, wt_39, Or.inl rfl⟩
theorem fw_RX1_44_0 : MFw RX1 44 0 2 .int := ⟨_, _, _, _, tyX1, rfl, rfl, by decide, uws_0, wt_33, Or.inl rfl, tyX1_ok, nmX1, rfl, by decide +kernel⟩
theorem lkV_RX9_99_yX1_isPlace : MLv RX9 99 RX1 yX1_isPlace cX1_isPlace 2 (some .boolean) 1 := ⟨wt_40, wt_41, wt_42, wt_43, wt_32, rfl, by decide +kernel, by decide +kernel, by decide +kernel⟩
theorem fd_RX1_9_0 : MFd RX1 9 0 0 := ⟨_, _, _, _, rfl, rfl, by decide, uws_0, wt_44, Or.inl rfl⟩
theorem lkN_RX1_40_yX9_within : MLn RX1 40 "RoundsPerHour" yX9_within cX9_within 3 (some .boolean) 3 := ⟨wt_12, List.mem_of_getElem? (i := 7) rfl, wt_14, wt_8, by decide +kernel, by decide +kernel, by decide +kernel⟩
theorem lkV_RX9_116_yX1_isWay : MLv RX9 116 RX1 yX1_isWay cX1_isWay 2 (some .boolean) 1 := ⟨wt_45, wt_46, wt_47, wt_48, wt_32, rfl, by decide +kernel, by decide +kernel, by decide +kernel⟩
theorem fd_RX9_119_0 : MFd RX9 119 0 3 := ⟨_, _, _, _, rfl, rfl, by decide, uws_0, wt_49, Or.inl rfl⟩
theorem fd_RX9_122_0 : MFd RX9 122 0 6 := ⟨_, _, _, _, rfl, rfl, by decide, uws_0, wt_50, Or.inl rfl⟩
theorem fd_RX9_125_0 : MFd RX9 125 0 7 := ⟨_, _, _, _, rfl, rfl, by decide, uws_0, wt_51, Or.inl rfl⟩
theorem fd_RX9_128_0 : MFd RX9 128 0 8 := ⟨_, _, _, _, rfl, rfl, by decide, uws_0, wt_52, Or.inl rfl⟩
theorem lkV_RX9_131_yX1_bringsOf : MLv RX9 131 RX1 yX1_bringsOf cX1_bringsOf 2 (some .int) 1 := ⟨wt_53, wt_54, wt_55, wt_56, wt_32, rfl, by decide +kernel, by decide +kernel, by decide +kernel⟩
theorem fd_RX1_50_0 : MFd RX1 50 0 1 := ⟨_, _, _, _, rfl, rfl, by decide, uws_0, wt_57, Or.inl rfl⟩
theorem lkN_RX1_53_yX9_brings : MLn RX1 53 "RoundsPerHour" yX9_brings cX9_brings 3 (some .int) 3 := ⟨wt_58, List.mem_of_getElem? (i := 8) rfl, wt_59, wt_8, by decide +kernel, by decide +kernel, by decide +kernel⟩
theorem lkS_RX9_368_yX9_brings : MLs RX9 368 yX9_brings cX9_brings 3 (some .int) 3 := ⟨wt_58, wt_60, wt_59, wt_8, by decide +kernel, by decide +kernel, by decide +kernel⟩
theorem lkV_RX9_134_yX1_lastsOf : MLv RX9 134 RX1 yX1_lastsOf cX1_lastsOf 2 (some .int) 1 := ⟨wt_61, wt_62, wt_63, wt_64, wt_32, rfl, by decide +kernel, by decide +kernel, by decide +kernel⟩
theorem lkN_RX1_57_yX9_lasts : MLn RX1 57 "RoundsPerHour" yX9_lasts cX9_lasts 3 (some .int) 3 := ⟨wt_65, List.mem_of_getElem? (i := 9) rfl, wt_66, wt_8, by decide +kernel, by decide +kernel, by decide +kernel⟩
theorem lkS_RX9_371_yX9_lasts : MLs RX9 371 yX9_lasts cX9_lasts 3 (some .int) 3 := ⟨wt_65, wt_67, wt_66, wt_8, by decide +kernel, by decide +kernel, by decide +kernel⟩
theorem lkV_RX9_137_yX9_canBecome : MLv RX9 137 RX9 yX9_canBecome cX9_canBecome 4 (some .boolean) 3 := ⟨wt_68, wt_69, wt_70, wt_71, wt_8, rfl, by decide +kernel, by decide +kernel, by decide +kernel⟩
theorem lkS_RX9_140_yX9_put : MLs RX9 140 yX9_put cX9_put 4 (some .int) 3 := ⟨wt_72, wt_73, wt_74, wt_8, by decide +kernel, by decide +kernel, by decide +kernel⟩
theorem lkS_RX9_144_yX9_isUnder : MLs RX9 144 yX9_isUnder cX9_isUnder 4 (some .boolean) 2 := ⟨wt_75, wt_76, wt_77, wt_8, by decide +kernel, by decide +kernel, by decide +kernel⟩
theorem fd_RX9_148_0 : MFd RX9 148 0 9 := ⟨_, _, _, _, rfl, rfl, by decide, uws_0, wt_79, Or.inl rfl⟩
theorem lkV_RX9_151_yX1_newThing : MLv RX9 151 RX1 yX1_newThing cX1_newThing 3 (some .int) 2 := ⟨wt_80, wt_81, wt_82, wt_83, wt_32, rfl, by decide +kernel, by decide +kernel, by decide +kernel⟩
theorem fd_RX1_47_0 : MFd RX1 47 0 9 := ⟨_, _, _, _, rfl, rfl, by decide, uws_0, wt_84, Or.inl rfl⟩
theorem fw_RX1_47_0 : MFw RX1 47 0 9 .int := ⟨_, _, _, _, tyX1, rfl, rfl, by decide, uws_0, wt_84, Or.inl rfl, tyX1_ok, nmX1, rfl, by decide +kernel⟩
theorem fd_RX1_34_0 : MFd RX1 34 0 10 := ⟨_, _, _, _, rfl, rfl, by decide, uws_0, wt_85, Or.inl rfl⟩
theorem fd_RX1_37_0 : MFd RX1 37 0 11 := ⟨_, _, _, _, rfl, rfl, by decide, uws_0, wt_86, Or.inl rfl⟩
theorem fd_RX9_161_0 : MFd RX9 161 0 11 := ⟨_, _, _, _, rfl, rfl, by decide, uws_0, wt_87, Or.inl rfl⟩
theorem lkV_RX9_155_yX1_isThingOrBase : MLv RX9 155 RX1 yX1_isThingOrBase cX1_isThingOrBase 2 (some .boolean) 1 := ⟨wt_88, wt_89, wt_90, wt_91, wt_32, rfl, by decide +kernel, by decide +kernel, by decide +kernel⟩
theorem fd_RX9_158_0 : MFd RX9 158 0 10 := ⟨_, _, _, _, rfl, rfl, by decide, uws_0, wt_92, Or.inl rfl⟩
theorem lkV_RX9_168_yX9_bestRing : MLv RX9 168 RX9 yX9_bestRing cX9_bestRing 1 (some .int) 0 := ⟨wt_93, wt_94, wt_95, wt_96, wt_8, rfl, by decide +kernel, by decide +kernel, by decide +kernel⟩
theorem fd_RX9_25_8 : MFd RX9 25 8 4 := ⟨_, _, _, _, rfl, rfl, by decide, uws_8, wt_97, Or.inl rfl⟩
theorem lkV_RX9_205_yX4_gather : MLv RX9 205 RX4 yX4_gather cX4_gather 5 none 2 := ⟨wt_98, wt_99, wt_100, wt_101, wt_102, rfl, by decide +kernel, by decide +kernel, by decide +kernel⟩
theorem fd_RX4_67_0 : MFd RX4 67 0 0 := ⟨_, _, _, _, rfl, rfl, by decide, uws_0, wt_103, Or.inl rfl⟩
theorem lkV_RX4_70_yX4_goOn : MLv RX4 70 RX4 yX4_goOn cX4_goOn 13 none 6 := ⟨wt_104, wt_105, wt_106, wt_107, wt_102, rfl, by decide +kernel, by decide +kernel, by decide +kernel⟩
theorem fd_RX4_29_3 : MFd RX4 29 3 6 := ⟨_, _, _, _, rfl, rfl, by decide, uws_3, wt_108, Or.inl rfl⟩
theorem fd_RX4_32_3 : MFd RX4 32 3 7 := ⟨_, _, _, _, rfl, rfl, by decide, uws_3, wt_109, Or.inl rfl⟩
theorem fd_RX4_35_3 : MFd RX4 35 3 8 := ⟨_, _, _, _, rfl, rfl, by decide, uws_3, wt_110, Or.inl rfl⟩
theorem fd_RX4_38_3 : MFd RX4 38 3 9 := ⟨_, _, _, _, rfl, rfl, by decide, uws_3, wt_111, Or.inl rfl⟩
theorem fd_RX4_41_3 : MFd RX4 41 3 10 := ⟨_, _, _, _, rfl, rfl, by decide, uws_3, wt_112, Or.inl rfl⟩
theorem lkV_RX4_74_yX4_keep : MLv RX4 74 RX4 yX4_keep cX4_keep 6 none 3 := ⟨wt_113, wt_114, wt_115, wt_116, wt_102, rfl, by decide +kernel, by decide +kernel, by decide +kernel⟩
theorem fd_RX4_44_3 : MFd RX4 44 3 0 := ⟨_, _, _, _, rfl, rfl, by decide, uws_3, wt_117, Or.inl rfl⟩
theorem fd_RX4_9_3 : MFd RX4 9 3 1 := ⟨_, _, _, _, rfl, rfl, by decide, uws_3, wt_118, Or.inl rfl⟩
theorem fd_RX4_15_3 : MFd RX4 15 3 2 := ⟨_, _, _, _, rfl, rfl, by decide, uws_3, wt_119, Or.inl rfl⟩
theorem fd_RX4_19_3 : MFd RX4 19 3 3 := ⟨_, _, _, _, rfl, rfl, by decide, uws_3, wt_120, Or.inl rfl⟩
theorem fw_RX4_44_3 : MFw RX4 44 3 0 .int := ⟨_, _, _, _, tyX4, rfl, rfl, by decide, uws_3, wt_117, Or.inl rfl, tyX4_ok, nmX4, rfl, by decide +kernel⟩
theorem fd_RX4_64_0 : MFd RX4 64 0 4 := ⟨_, _, _, _, rfl, rfl, by decide, uws_0, wt_121, Or.inl rfl⟩
theorem fd_RX4_48_0 : MFd RX4 48 0 2 := ⟨_, _, _, _, rfl, rfl, by decide, uws_0, wt_122, Or.inl rfl⟩
theorem fd_RX4_53_0 : MFd RX4 53 0 5 := ⟨_, _, _, _, rfl, rfl, by decide, uws_0, wt_123, Or.inl rfl⟩
theorem lkV_RX4_54_yX1_bringsOf : MLv RX4 54 RX1 yX1_bringsOf cX1_bringsOf 2 (some .int) 1 := ⟨wt_53, wt_124, wt_55, wt_56, wt_32, rfl, by decide +kernel, by decide +kernel, by decide +kernel⟩
theorem lkV_RX4_58_yX1_lastsOf : MLv RX4 58 RX1 yX1_lastsOf cX1_lastsOf 2 (some .int) 1 := ⟨wt_61, wt_125, wt_63, wt_64, wt_32, rfl, by decide +kernel, by decide +kernel, by decide +kernel⟩
theorem fd_RX4_61_0 : MFd RX4 61 0 8 := ⟨_, _, _, _, rfl, rfl, by decide, uws_0, wt_126, Or.inl rfl⟩
theorem lkV_RX9_209_yX4_best : MLv RX9 209 RX4 yX4_best cX4_best 4 (some .int) 1 := ⟨wt_127, wt_128, wt_129, wt_130, wt_102, rfl, by decide +kernel, by decide +kernel, by decide +kernel⟩
theorem lkV_RX4_84_yX4_order : MLv RX4 84 RX4 yX4_order cX4_order 3 (some .int) 2 := ⟨wt_131, wt_132, wt_133, wt_134, wt_102, rfl, by decide +kernel, by decide +kernel, by decide +kernel⟩
theorem lkS_RX4_78_yJ13_compare_74951 : MLs RX4 78 yJ13_compare_74951 cJ13_compare_74951 4 (some .int) 2 := ⟨wt_135, wt_136, wt_137, wt_138, by decide +kernel, by decide +kernel, by decide +kernel⟩
theorem fd_RX9_172_3 : MFd RX9 172 3 2 := ⟨_, _, _, _, rfl, rfl, by decide, uws_3, wt_139, Or.inl rfl⟩
theorem fd_RX9_176_3 : MFd RX9 176 3 3 := ⟨_, _, _, _, rfl, rfl, by decide, uws_3, wt_140, Or.inl rfl⟩
theorem lkS_RX9_179_yX9_lowest : MLs RX9 179 yX9_lowest cX9_lowest 7 (some .long) 3 := ⟨wt_141, wt_142, wt_143, wt_8, by decide +kernel, by decide +kernel, by decide +kernel⟩
theorem lkS_RX9_304_yX9_sharedBelowZero : MLs RX9 304 yX9_sharedBelowZero cX9_sharedBelowZero 11 (some .long) 2 := ⟨wt_144, wt_145, wt_146, wt_8, by decide +kernel, by decide +kernel, by decide +kernel⟩
theorem lkV_RX9_164_yX9_longFinding : MLv RX9 164 RX9 yX9_longFinding cX9_longFinding 2 (some .long) 1 := ⟨wt_147, wt_148, wt_149, wt_150, wt_8, rfl, by decide +kernel, by decide +kernel, by decide +kernel⟩
theorem fd_RX9_183_3 : MFd RX9 183 3 0 := ⟨_, _, _, _, rfl, rfl, by decide, uws_3, wt_152, Or.inl rfl⟩
theorem lkV_RX9_186_yX4_order : MLv RX9 186 RX4 yX4_order cX4_order 3 (some .int) 2 := ⟨wt_131, wt_153, wt_133, wt_134, wt_102, rfl, by decide +kernel, by decide +kernel, by decide +kernel⟩
theorem fd_RX9_189_3 : MFd RX9 189 3 1 := ⟨_, _, _, _, rfl, rfl, by decide, uws_3, wt_154, Or.inl rfl⟩
theorem lkV_RX9_192_yX4_lifts : MLv RX9 192 RX4 yX4_lifts cX4_lifts 10 (some .boolean) 5 := ⟨wt_155, wt_156, wt_157, wt_158, wt_102, rfl, by decide +kernel, by decide +kernel, by decide +kernel⟩
theorem fd_RX4_22_3 : MFd RX4 22 3 4 := ⟨_, _, _, _, rfl, rfl, by decide, uws_3, wt_159, Or.inl rfl⟩
theorem lkV_RX4_108_yX4_step : MLv RX4 108 RX4 yX4_step cX4_step 5 none 3 := ⟨wt_160, wt_161, wt_162, wt_163, wt_102, rfl, by decide +kernel, by decide +kernel, by decide +kernel⟩
theorem fd_RX4_25_3 : MFd RX4 25 3 5 := ⟨_, _, _, _, rfl, rfl, by decide, uws_3, wt_164, Or.inl rfl⟩
theorem fd_RX9_196_3 : MFd RX9 196 3 4 := ⟨_, _, _, _, rfl, rfl, by decide, uws_3, wt_165, Or.inl rfl⟩
theorem lkS_RX9_199_yX9_productFits : MLs RX9 199 yX9_productFits cX9_productFits 4 (some .boolean) 2 := ⟨wt_166, wt_167, wt_168, wt_8, by decide +kernel, by decide +kernel, by decide +kernel⟩
theorem lkV_RX9_216_yX4_missingTo : MLv RX9 216 RX4 yX4_missingTo cX4_missingTo 8 (some .long) 3 := ⟨wt_180, wt_181, wt_182, wt_183, wt_102, rfl, by decide +kernel, by decide +kernel, by decide +kernel⟩
theorem lkS_RX4_102_yJ9_floorDiv_f86c9 : MLs RX4 102 yJ9_floorDiv_f86c9 cJ9_floorDiv_f86c9 6 (some .long) 2 := ⟨wt_184, wt_185, wt_186, wt_187, by decide +kernel, by decide +kernel, by decide +kernel⟩
theorem fd_RX9_19_8 : MFd RX9 19 8 2 := ⟨_, _, _, _, rfl, rfl, by decide, uws_8, wt_189, Or.inl rfl⟩
theorem lkV_RX9_238_yX4_rises : MLv RX9 238 RX4 yX4_rises cX4_rises 3 (some .boolean) 1 := ⟨wt_190, wt_191, wt_192, wt_193, wt_102, rfl, by decide +kernel, by decide +kernel, by decide +kernel⟩
theorem fw_RX4_99_3 : MFw RX4 99 3 11 .long := ⟨_, _, _, _, tyX4, rfl, rfl, by decide, uws_3, wt_194, Or.inl rfl, tyX4_ok, nmX4, rfl, by decide +kernel⟩
theorem fw_RX4_88_3 : MFw RX4 88 3 12 .long := ⟨_, _, _, _, tyX4, rfl, rfl, by decide, uws_3, wt_195, Or.inl rfl, tyX4_ok, nmX4, rfl, by decide +kernel⟩
theorem lkV_RX4_92_yX4_gather : MLv RX4 92 RX4 yX4_gather cX4_gather 5 none 2 := ⟨wt_98, wt_196, wt_100, wt_101, wt_102, rfl, by decide +kernel, by decide +kernel, by decide +kernel⟩
theorem lkV_RX4_96_yX4_best : MLv RX4 96 RX4 yX4_best cX4_best 4 (some .int) 1 := ⟨wt_127, wt_197, wt_129, wt_130, wt_102, rfl, by decide +kernel, by decide +kernel, by decide +kernel⟩
theorem fd_RX4_88_3 : MFd RX4 88 3 12 := ⟨_, _, _, _, rfl, rfl, by decide, uws_3, wt_195, Or.inl rfl⟩
theorem fd_RX4_99_3 : MFd RX4 99 3 11 := ⟨_, _, _, _, rfl, rfl, by decide, uws_3, wt_194, Or.inl rfl⟩
theorem lkV_RX9_231_yX1_become : MLv RX9 231 RX1 yX1_become cX1_become 2 none 1 := ⟨wt_198, wt_199, wt_200, wt_201, wt_32, rfl, by decide +kernel, by decide +kernel, by decide +kernel⟩
theorem fw_RX1_9_0 : MFw RX1 9 0 0 .int := ⟨_, _, _, _, tyX1, rfl, rfl, by decide, uws_0, wt_44, Or.inl rfl, tyX1_ok, nmX1, rfl, by decide +kernel⟩
theorem fw_RX1_50_0 : MFw RX1 50 0 1 .int := ⟨_, _, _, _, tyX1, rfl, rfl, by decide, uws_0, wt_57, Or.inl rfl, tyX1_ok, nmX1, rfl, by decide +kernel⟩
theorem lkV_RX9_235_yX4_forget : MLv RX9 235 RX4 yX4_forget cX4_forget 1 none 0 := ⟨wt_206, wt_207, wt_208, wt_209, wt_102, rfl, by decide +kernel, by decide +kernel, by decide +kernel⟩
theorem fd_RX9_32_8 : MFd RX9 32 8 5 := ⟨_, _, _, _, rfl, rfl, by decide, uws_8, wt_210, Or.inl rfl⟩
theorem lkV_RX9_242_yX7_climbs : MLv RX9 242 RX7 yX7_climbs cX7_climbs 2 (some .boolean) 1 := ⟨wt_211, wt_212, wt_213, wt_214, wt_215, rfl, by decide +kernel, by decide +kernel, by decide +kernel⟩
theorem fw_RX7_18_6 : MFw RX7 18 6 11 (.object "RoundsPerHour$Country") := ⟨_, _, _, _, tyX7, rfl, rfl, by decide, uws_6, wt_216, Or.inl rfl, tyX7_ok, nmX7, rfl, by decide +kernel⟩
theorem lkU_RX7_22_6_yX0_takeWays : MLu RX7 22 RX7 "RoundsPerHour$Climb" ⟨"RoundsPerHour$TreeClimb", "takeWays", "(LRoundsPerHour$Country;)V"⟩ yX0_takeWays cX0_takeWays 3 none 1 := ⟨wt_217, wt_218, wt_219, wt_220, wt_221, wt_222, by decide +kernel, by decide +kernel, by decide +kernel⟩
theorem fd_RX0_27_6 : MFd RX0 27 6 4 := ⟨_, _, _, _, rfl, rfl, by decide, uws_6, wt_223, Or.inl rfl⟩
theorem fd_RX0_9_6 : MFd RX0 9 6 7 := ⟨_, _, _, _, rfl, rfl, by decide, uws_6, wt_224, Or.inl rfl⟩
theorem lkV_RX0_30_yX1_bringsOf : MLv RX0 30 RX1 yX1_bringsOf cX1_bringsOf 2 (some .int) 1 := ⟨wt_53, wt_225, wt_55, wt_56, wt_32, rfl, by decide +kernel, by decide +kernel, by decide +kernel⟩
theorem fd_RX0_15_6 : MFd RX0 15 6 8 := ⟨_, _, _, _, rfl, rfl, by decide, uws_6, wt_226, Or.inl rfl⟩
theorem lkV_RX0_34_yX1_lastsOf : MLv RX0 34 RX1 yX1_lastsOf cX1_lastsOf 2 (some .int) 1 := ⟨wt_61, wt_227, wt_63, wt_64, wt_32, rfl, by decide +kernel, by decide +kernel, by decide +kernel⟩
theorem fd_RX0_21_0 : MFd RX0 21 0 2 := ⟨_, _, _, _, rfl, rfl, by decide, uws_0, wt_228, Or.inl rfl⟩
theorem fw_RX0_27_6 : MFw RX0 27 6 4 .int := ⟨_, _, _, _, tyX7, rfl, rfl, by decide, uws_6, wt_223, Or.inl rfl, tyX7_ok, nmX7, rfl, by decide +kernel⟩
theorem lkU_RX7_26_6_yX0_runs : MLu RX7 26 RX7 "RoundsPerHour$Climb" ⟨"RoundsPerHour$TreeClimb", "runs", "()Z"⟩ yX0_runs cX0_runs 7 (some .boolean) 0 := ⟨wt_229, wt_230, wt_231, wt_232, wt_233, wt_222, by decide +kernel, by decide +kernel, by decide +kernel⟩
theorem fw_RX0_45_6 : MFw RX0 45 6 1 .int := ⟨_, _, _, _, tyX7, rfl, rfl, by decide, uws_6, wt_234, Or.inl rfl, tyX7_ok, nmX7, rfl, by decide +kernel⟩
theorem fd_RX0_48_6 : MFd RX0 48 6 5 := ⟨_, _, _, _, rfl, rfl, by decide, uws_6, wt_235, Or.inl rfl⟩
theorem lkU_RX0_52_6_yX0_together : MLu RX0 52 RX7 "RoundsPerHour$Climb" ⟨"RoundsPerHour$Climb", "together", "([JI)J"⟩ yX0_together cX0_together 6 (some .long) 2 := ⟨wt_236, wt_237, wt_238, wt_239, wt_240, wt_222, by decide +kernel, by decide +kernel, by decide +kernel⟩
theorem fw_RX0_56_6 : MFw RX0 56 6 2 .long := ⟨_, _, _, _, tyX7, rfl, rfl, by decide, uws_6, wt_241, Or.inl rfl, tyX7_ok, nmX7, rfl, by decide +kernel⟩
theorem fd_RX0_59_6 : MFd RX0 59 6 6 := ⟨_, _, _, _, rfl, rfl, by decide, uws_6, wt_242, Or.inl rfl⟩
theorem fw_RX0_62_6 : MFw RX0 62 6 3 .long := ⟨_, _, _, _, tyX7, rfl, rfl, by decide, uws_6, wt_243, Or.inl rfl, tyX7_ok, nmX7, rfl, by decide +kernel⟩
theorem fd_RX0_56_6 : MFd RX0 56 6 2 := ⟨_, _, _, _, rfl, rfl, by decide, uws_6, wt_241, Or.inl rfl⟩
theorem fd_RX0_62_6 : MFd RX0 62 6 3 := ⟨_, _, _, _, rfl, rfl, by decide, uws_6, wt_243, Or.inl rfl⟩
theorem lkU_RX0_37_6_yX0_weigh : MLu RX0 37 RX7 "RoundsPerHour$Climb" ⟨"RoundsPerHour$Climb", "weigh", "(JJ)V"⟩ yX0_weigh cX0_weigh 6 none 2 := ⟨wt_244, wt_245, wt_246, wt_247, wt_248, wt_222, by decide +kernel, by decide +kernel, by decide +kernel⟩
theorem fd_RX0_18_6 : MFd RX0 18 6 9 := ⟨_, _, _, _, rfl, rfl, by decide, uws_6, wt_249, Or.inl rfl⟩
theorem lkU_RX0_41_6_yX7_pick : MLu RX0 41 RX7 "RoundsPerHour$Climb" ⟨"RoundsPerHour$Climb", "pick", "()I"⟩ yX7_pick cX7_pick 4 (some .int) 0 := ⟨wt_250, wt_251, wt_252, wt_253, wt_254, wt_215, by decide +kernel, by decide +kernel, by decide +kernel⟩
theorem fd_RX7_18_6 : MFd RX7 18 6 11 := ⟨_, _, _, _, rfl, rfl, by decide, uws_6, wt_216, Or.inl rfl⟩
theorem fd_RX7_33_0 : MFd RX7 33 0 0 := ⟨_, _, _, _, rfl, rfl, by decide, uws_0, wt_255, Or.inl rfl⟩
theorem lkV_RX7_39_yX7_heaviestJoining : MLv RX7 39 RX7 yX7_heaviestJoining cX7_heaviestJoining 4 (some .int) 0 := ⟨wt_256, wt_257, wt_258, wt_259, wt_215, rfl, by decide +kernel, by decide +kernel, by decide +kernel⟩
theorem fd_RX7_64_6 : MFd RX7 64 6 9 := ⟨_, _, _, _, rfl, rfl, by decide, uws_6, wt_260, Or.inr wt_261⟩
theorem fd_RX7_54_6 : MFd RX7 54 6 4 := ⟨_, _, _, _, rfl, rfl, by decide, uws_6, wt_262, Or.inr wt_263⟩
theorem fd_RX7_57_0 : MFd RX7 57 0 8 := ⟨_, _, _, _, rfl, rfl, by decide, uws_0, wt_264, Or.inl rfl⟩
theorem fd_RX7_12_6 : MFd RX7 12 6 10 := ⟨_, _, _, _, rfl, rfl, by decide, uws_6, wt_265, Or.inl rfl⟩
theorem fd_RX7_43_0 : MFd RX7 43 0 4 := ⟨_, _, _, _, rfl, rfl, by decide, uws_0, wt_266, Or.inl rfl⟩
theorem fd_RX7_47_0 : MFd RX7 47 0 5 := ⟨_, _, _, _, rfl, rfl, by decide, uws_0, wt_267, Or.inl rfl⟩
theorem lkV_RX7_60_yX2_apart : MLv RX7 60 RX2 yX2_apart cX2_apart 3 (some .boolean) 2 := ⟨wt_268, wt_269, wt_270, wt_271, wt_272, rfl, by decide +kernel, by decide +kernel, by decide +kernel⟩
theorem fd_RX2_9_1 : MFd RX2 9 1 0 := ⟨_, _, _, _, rfl, rfl, by decide, uws_1, wt_273, Or.inl rfl⟩
theorem lkV_RX7_50_yX2_join : MLv RX7 50 RX2 yX2_join cX2_join 6 none 2 := ⟨wt_274, wt_275, wt_276, wt_277, wt_272, rfl, by decide +kernel, by decide +kernel, by decide +kernel⟩
theorem lkV_RX7_30_yX2_part : MLv RX7 30 RX2 yX2_part cX2_part 2 none 0 := ⟨wt_278, wt_279, wt_280, wt_281, wt_272, rfl, by decide +kernel, by decide +kernel, by decide +kernel⟩
theorem fw_RX0_65_6 : MFw RX0 65 6 0 .int := ⟨_, _, _, _, tyX7, rfl, rfl, by decide, uws_6, wt_282, Or.inl rfl, tyX7_ok, nmX7, rfl, by decide +kernel⟩
theorem fd_RX0_65_6 : MFd RX0 65 6 0 := ⟨_, _, _, _, rfl, rfl, by decide, uws_6, wt_282, Or.inl rfl⟩
theorem lkV_RX9_245_yX9_told : MLv RX9 245 RX9 yX9_told cX9_told 4 (some .long) 3 := ⟨wt_283, wt_284, wt_285, wt_286, wt_8, rfl, by decide +kernel, by decide +kernel, by decide +kernel⟩
theorem fd_RX9_255_6 : MFd RX9 255 6 0 := ⟨_, _, _, _, rfl, rfl, by decide, uws_6, wt_287, Or.inl rfl⟩
theorem fd_RX9_259_6 : MFd RX9 259 6 1 := ⟨_, _, _, _, rfl, rfl, by decide, uws_6, wt_288, Or.inl rfl⟩
theorem fd_RX9_262_6 : MFd RX9 262 6 2 := ⟨_, _, _, _, rfl, rfl, by decide, uws_6, wt_289, Or.inl rfl⟩
theorem fd_RX9_265_6 : MFd RX9 265 6 3 := ⟨_, _, _, _, rfl, rfl, by decide, uws_6, wt_290, Or.inl rfl⟩
theorem fd_RX9_39_8 : MFd RX9 39 8 6 := ⟨_, _, _, _, rfl, rfl, by decide, uws_8, wt_291, Or.inl rfl⟩
theorem lkV_RX9_249_yX8_climbs : MLv RX9 249 RX8 yX8_climbs cX8_climbs 4 (some .boolean) 3 := ⟨wt_292, wt_293, wt_294, wt_295, wt_296, rfl, by decide +kernel, by decide +kernel, by decide +kernel⟩
theorem fw_RX8_19_7 : MFw RX8 19 7 12 (.object "RoundsPerHour$Country") := ⟨_, _, _, _, tyX8, rfl, rfl, by decide, uws_7, wt_297, Or.inl rfl, tyX8_ok, nmX8, rfl, by decide +kernel⟩
theorem fw_RX8_23_7 : MFw RX8 23 7 13 .int := ⟨_, _, _, _, tyX8, rfl, rfl, by decide, uws_7, wt_298, Or.inl rfl, tyX8_ok, nmX8, rfl, by decide +kernel⟩
theorem fw_RX8_27_7 : MFw RX8 27 7 14 .int := ⟨_, _, _, _, tyX8, rfl, rfl, by decide, uws_7, wt_299, Or.inl rfl, tyX8_ok, nmX8, rfl, by decide +kernel⟩
theorem lkU_RX8_30_7_yX0_takeWays : MLu RX8 30 RX8 "RoundsPerHour$Climb" ⟨"RoundsPerHour$WalkClimb", "takeWays", "(LRoundsPerHour$Country;)V"⟩ yX0_takeWays cX0_takeWays 3 none 1 := ⟨wt_217, wt_300, wt_301, wt_302, wt_221, wt_222, by decide +kernel, by decide +kernel, by decide +kernel⟩
theorem fd_RX0_27_7 : MFd RX0 27 7 4 := ⟨_, _, _, _, rfl, rfl, by decide, uws_7, wt_223, Or.inl rfl⟩
theorem fd_RX0_9_7 : MFd RX0 9 7 7 := ⟨_, _, _, _, rfl, rfl, by decide, uws_7, wt_224, Or.inl rfl⟩
theorem fd_RX0_15_7 : MFd RX0 15 7 8 := ⟨_, _, _, _, rfl, rfl, by decide, uws_7, wt_226, Or.inl rfl⟩
theorem fw_RX0_27_7 : MFw RX0 27 7 4 .int := ⟨_, _, _, _, tyX8, rfl, rfl, by decide, uws_7, wt_223, Or.inl rfl, tyX8_ok, nmX8, rfl, by decide +kernel⟩
theorem lkU_RX8_34_7_yX0_runs : MLu RX8 34 RX8 "RoundsPerHour$Climb" ⟨"RoundsPerHour$WalkClimb", "runs", "()Z"⟩ yX0_runs cX0_runs 7 (some .boolean) 0 := ⟨wt_229, wt_303, wt_304, wt_305, wt_233, wt_222, by decide +kernel, by decide +kernel, by decide +kernel⟩
theorem fw_RX0_45_7 : MFw RX0 45 7 1 .int := ⟨_, _, _, _, tyX8, rfl, rfl, by decide, uws_7, wt_234, Or.inl rfl, tyX8_ok, nmX8, rfl, by decide +kernel⟩
theorem fd_RX0_48_7 : MFd RX0 48 7 5 := ⟨_, _, _, _, rfl, rfl, by decide, uws_7, wt_235, Or.inl rfl⟩
theorem lkU_RX0_52_7_yX0_together : MLu RX0 52 RX8 "RoundsPerHour$Climb" ⟨"RoundsPerHour$Climb", "together", "([JI)J"⟩ yX0_together cX0_together 6 (some .long) 2 := ⟨wt_236, wt_237, wt_238, wt_306, wt_240, wt_222, by decide +kernel, by decide +kernel, by decide +kernel⟩
theorem fw_RX0_56_7 : MFw RX0 56 7 2 .long := ⟨_, _, _, _, tyX8, rfl, rfl, by decide, uws_7, wt_241, Or.inl rfl, tyX8_ok, nmX8, rfl, by decide +kernel⟩
theorem fd_RX0_59_7 : MFd RX0 59 7 6 := ⟨_, _, _, _, rfl, rfl, by decide, uws_7, wt_242, Or.inl rfl⟩
theorem fw_RX0_62_7 : MFw RX0 62 7 3 .long := ⟨_, _, _, _, tyX8, rfl, rfl, by decide, uws_7, wt_243, Or.inl rfl, tyX8_ok, nmX8, rfl, by decide +kernel⟩
theorem fd_RX0_56_7 : MFd RX0 56 7 2 := ⟨_, _, _, _, rfl, rfl, by decide, uws_7, wt_241, Or.inl rfl⟩
theorem fd_RX0_62_7 : MFd RX0 62 7 3 := ⟨_, _, _, _, rfl, rfl, by decide, uws_7, wt_243, Or.inl rfl⟩
theorem lkU_RX0_37_7_yX0_weigh : MLu RX0 37 RX8 "RoundsPerHour$Climb" ⟨"RoundsPerHour$Climb", "weigh", "(JJ)V"⟩ yX0_weigh cX0_weigh 6 none 2 := ⟨wt_244, wt_245, wt_246, wt_307, wt_248, wt_222, by decide +kernel, by decide +kernel, by decide +kernel⟩
theorem fd_RX0_18_7 : MFd RX0 18 7 9 := ⟨_, _, _, _, rfl, rfl, by decide, uws_7, wt_249, Or.inl rfl⟩
theorem lkU_RX0_41_7_yX8_pick : MLu RX0 41 RX8 "RoundsPerHour$Climb" ⟨"RoundsPerHour$Climb", "pick", "()I"⟩ yX8_pick cX8_pick 2 (some .int) 0 := ⟨wt_308, wt_251, wt_252, wt_309, wt_310, wt_296, by decide +kernel, by decide +kernel, by decide +kernel⟩
theorem fd_RX8_27_7 : MFd RX8 27 7 14 := ⟨_, _, _, _, rfl, rfl, by decide, uws_7, wt_299, Or.inl rfl⟩
theorem fd_RX8_15_7 : MFd RX8 15 7 11 := ⟨_, _, _, _, rfl, rfl, by decide, uws_7, wt_311, Or.inl rfl⟩
theorem fd_RX8_23_7 : MFd RX8 23 7 13 := ⟨_, _, _, _, rfl, rfl, by decide, uws_7, wt_298, Or.inl rfl⟩
theorem lkV_RX8_38_yX8_leave : MLv RX8 38 RX8 yX8_leave cX8_leave 8 none 1 := ⟨wt_312, wt_313, wt_314, wt_315, wt_296, rfl, by decide +kernel, by decide +kernel, by decide +kernel⟩
theorem fd_RX8_9_7 : MFd RX8 9 7 10 := ⟨_, _, _, _, rfl, rfl, by decide, uws_7, wt_316, Or.inl rfl⟩
theorem fd_RX8_42_7 : MFd RX8 42 7 4 := ⟨_, _, _, _, rfl, rfl, by decide, uws_7, wt_317, Or.inr wt_318⟩
theorem fd_RX8_19_7 : MFd RX8 19 7 12 := ⟨_, _, _, _, rfl, rfl, by decide, uws_7, wt_297, Or.inl rfl⟩
theorem fd_RX8_45_0 : MFd RX8 45 0 5 := ⟨_, _, _, _, rfl, rfl, by decide, uws_0, wt_319, Or.inl rfl⟩
theorem fd_RX8_50_0 : MFd RX8 50 0 8 := ⟨_, _, _, _, rfl, rfl, by decide, uws_0, wt_320, Or.inl rfl⟩
theorem fd_RX8_53_0 : MFd RX8 53 0 4 := ⟨_, _, _, _, rfl, rfl, by decide, uws_0, wt_321, Or.inl rfl⟩
theorem fd_RX8_56_7 : MFd RX8 56 7 9 := ⟨_, _, _, _, rfl, rfl, by decide, uws_7, wt_322, Or.inr wt_323⟩
theorem fw_RX0_65_7 : MFw RX0 65 7 0 .int := ⟨_, _, _, _, tyX8, rfl, rfl, by decide, uws_7, wt_282, Or.inl rfl, tyX8_ok, nmX8, rfl, by decide +kernel⟩
theorem fd_RX0_65_7 : MFd RX0 65 7 0 := ⟨_, _, _, _, rfl, rfl, by decide, uws_7, wt_282, Or.inl rfl⟩
theorem fd_RX9_255_7 : MFd RX9 255 7 0 := ⟨_, _, _, _, rfl, rfl, by decide, uws_7, wt_287, Or.inl rfl⟩
theorem fd_RX9_259_7 : MFd RX9 259 7 1 := ⟨_, _, _, _, rfl, rfl, by decide, uws_7, wt_288, Or.inl rfl⟩
theorem fd_RX9_262_7 : MFd RX9 262 7 2 := ⟨_, _, _, _, rfl, rfl, by decide, uws_7, wt_289, Or.inl rfl⟩
theorem fd_RX9_265_7 : MFd RX9 265 7 3 := ⟨_, _, _, _, rfl, rfl, by decide, uws_7, wt_290, Or.inl rfl⟩
theorem fd_RX9_46_8 : MFd RX9 46 8 7 := ⟨_, _, _, _, rfl, rfl, by decide, uws_8, wt_324, Or.inl rfl⟩
theorem lkV_RX9_252_yX3_climbs : MLv RX9 252 RX3 yX3_climbs cX3_climbs 4 (some .boolean) 2 := ⟨wt_325, wt_326, wt_327, wt_328, wt_329, rfl, by decide +kernel, by decide +kernel, by decide +kernel⟩
theorem fd_RX3_18_2 : MFd RX3 18 2 4 := ⟨_, _, _, _, rfl, rfl, by decide, uws_2, wt_330, Or.inr wt_331⟩
theorem lkU_RX3_42_2_yX0_runs : MLu RX3 42 RX3 "RoundsPerHour$Climb" ⟨"RoundsPerHour$LoadClimb", "runs", "()Z"⟩ yX0_runs cX0_runs 7 (some .boolean) 0 := ⟨wt_229, wt_332, wt_333, wt_334, wt_233, wt_222, by decide +kernel, by decide +kernel, by decide +kernel⟩
theorem fw_RX0_45_2 : MFw RX0 45 2 1 .int := ⟨_, _, _, _, tyX3, rfl, rfl, by decide, uws_2, wt_234, Or.inl rfl, tyX3_ok, nmX3, rfl, by decide +kernel⟩
theorem fd_RX0_48_2 : MFd RX0 48 2 5 := ⟨_, _, _, _, rfl, rfl, by decide, uws_2, wt_235, Or.inl rfl⟩
theorem fd_RX0_9_2 : MFd RX0 9 2 7 := ⟨_, _, _, _, rfl, rfl, by decide, uws_2, wt_224, Or.inl rfl⟩
theorem lkU_RX0_52_2_yX0_together : MLu RX0 52 RX3 "RoundsPerHour$Climb" ⟨"RoundsPerHour$Climb", "together", "([JI)J"⟩ yX0_together cX0_together 6 (some .long) 2 := ⟨wt_236, wt_237, wt_238, wt_335, wt_240, wt_222, by decide +kernel, by decide +kernel, by decide +kernel⟩
theorem fd_RX0_27_2 : MFd RX0 27 2 4 := ⟨_, _, _, _, rfl, rfl, by decide, uws_2, wt_223, Or.inl rfl⟩
theorem fw_RX0_56_2 : MFw RX0 56 2 2 .long := ⟨_, _, _, _, tyX3, rfl, rfl, by decide, uws_2, wt_241, Or.inl rfl, tyX3_ok, nmX3, rfl, by decide +kernel⟩
theorem fd_RX0_59_2 : MFd RX0 59 2 6 := ⟨_, _, _, _, rfl, rfl, by decide, uws_2, wt_242, Or.inl rfl⟩
theorem fd_RX0_15_2 : MFd RX0 15 2 8 := ⟨_, _, _, _, rfl, rfl, by decide, uws_2, wt_226, Or.inl rfl⟩
theorem fw_RX0_62_2 : MFw RX0 62 2 3 .long := ⟨_, _, _, _, tyX3, rfl, rfl, by decide, uws_2, wt_243, Or.inl rfl, tyX3_ok, nmX3, rfl, by decide +kernel⟩
theorem fd_RX0_56_2 : MFd RX0 56 2 2 := ⟨_, _, _, _, rfl, rfl, by decide, uws_2, wt_241, Or.inl rfl⟩
theorem fd_RX0_62_2 : MFd RX0 62 2 3 := ⟨_, _, _, _, rfl, rfl, by decide, uws_2, wt_243, Or.inl rfl⟩
theorem lkU_RX0_37_2_yX0_weigh : MLu RX0 37 RX3 "RoundsPerHour$Climb" ⟨"RoundsPerHour$Climb", "weigh", "(JJ)V"⟩ yX0_weigh cX0_weigh 6 none 2 := ⟨wt_244, wt_245, wt_246, wt_336, wt_248, wt_222, by decide +kernel, by decide +kernel, by decide +kernel⟩
theorem fd_RX0_18_2 : MFd RX0 18 2 9 := ⟨_, _, _, _, rfl, rfl, by decide, uws_2, wt_249, Or.inl rfl⟩
theorem lkU_RX0_41_2_yX3_pick : MLu RX0 41 RX3 "RoundsPerHour$Climb" ⟨"RoundsPerHour$Climb", "pick", "()I"⟩ yX3_pick cX3_pick 5 (some .int) 0 := ⟨wt_337, wt_251, wt_252, wt_338, wt_339, wt_329, by decide +kernel, by decide +kernel, by decide +kernel⟩
theorem fd_RX3_46_2 : MFd RX3 46 2 9 := ⟨_, _, _, _, rfl, rfl, by decide, uws_2, wt_340, Or.inr wt_341⟩
theorem fd_RX3_7_2 : MFd RX3 7 2 10 := ⟨_, _, _, _, rfl, rfl, by decide, uws_2, wt_342, Or.inl rfl⟩
theorem fw_RX0_65_2 : MFw RX0 65 2 0 .int := ⟨_, _, _, _, tyX3, rfl, rfl, by decide, uws_2, wt_282, Or.inl rfl, tyX3_ok, nmX3, rfl, by decide +kernel⟩
theorem fd_RX0_65_2 : MFd RX0 65 2 0 := ⟨_, _, _, _, rfl, rfl, by decide, uws_2, wt_282, Or.inl rfl⟩
theorem fd_RX3_35_2 : MFd RX3 35 2 7 := ⟨_, _, _, _, rfl, rfl, by decide, uws_2, wt_343, Or.inr wt_344⟩
theorem fd_RX3_21_0 : MFd RX3 21 0 10 := ⟨_, _, _, _, rfl, rfl, by decide, uws_0, wt_345, Or.inl rfl⟩
theorem fd_RX3_39_2 : MFd RX3 39 2 8 := ⟨_, _, _, _, rfl, rfl, by decide, uws_2, wt_346, Or.inr wt_347⟩
theorem fd_RX3_29_0 : MFd RX3 29 0 11 := ⟨_, _, _, _, rfl, rfl, by decide, uws_0, wt_348, Or.inl rfl⟩
theorem fw_RX3_7_2 : MFw RX3 7 2 10 .int := ⟨_, _, _, _, tyX3, rfl, rfl, by decide, uws_2, wt_342, Or.inl rfl, tyX3_ok, nmX3, rfl, by decide +kernel⟩
theorem fd_RX3_13_0 : MFd RX3 13 0 9 := ⟨_, _, _, _, rfl, rfl, by decide, uws_0, wt_349, Or.inl rfl⟩
theorem fw_RX3_18_2 : MFw RX3 18 2 4 .int := ⟨_, _, _, _, tyX3, rfl, rfl, by decide, uws_2, wt_330, Or.inr wt_331, tyX3_ok, nmX3, rfl, by decide +kernel⟩
theorem fw_RX3_25_2 : MFw RX3 25 2 5 .long := ⟨_, _, _, _, tyX3, rfl, rfl, by decide, uws_2, wt_350, Or.inr wt_351, tyX3_ok, nmX3, rfl, by decide +kernel⟩
theorem fw_RX3_32_2 : MFw RX3 32 2 6 .long := ⟨_, _, _, _, tyX3, rfl, rfl, by decide, uws_2, wt_352, Or.inr wt_353, tyX3_ok, nmX3, rfl, by decide +kernel⟩
theorem fd_RX9_255_2 : MFd RX9 255 2 0 := ⟨_, _, _, _, rfl, rfl, by decide, uws_2, wt_287, Or.inl rfl⟩
theorem fd_RX9_259_2 : MFd RX9 259 2 1 := ⟨_, _, _, _, rfl, rfl, by decide, uws_2, wt_288, Or.inl rfl⟩
theorem fd_RX9_262_2 : MFd RX9 262 2 2 := ⟨_, _, _, _, rfl, rfl, by decide, uws_2, wt_289, Or.inl rfl⟩
theorem fd_RX9_265_2 : MFd RX9 265 2 3 := ⟨_, _, _, _, rfl, rfl, by decide, uws_2, wt_290, Or.inl rfl⟩
theorem lkV_RX9_267_yX9_isChoice : MLv RX9 267 RX9 yX9_isChoice cX9_isChoice 3 (some .boolean) 2 := ⟨wt_354, wt_355, wt_356, wt_357, wt_8, rfl, by decide +kernel, by decide +kernel, by decide +kernel⟩
theorem lkV_RX9_282_yX1_isOpenSet : MLv RX9 282 RX1 yX1_isOpenSet cX1_isOpenSet 3 (some .boolean) 1 := ⟨wt_358, wt_359, wt_360, wt_361, wt_32, rfl, by decide +kernel, by decide +kernel, by decide +kernel⟩
theorem lkV_RX9_285_yX1_isRing : MLv RX9 285 RX1 yX1_isRing cX1_isRing 7 (some .boolean) 1 := ⟨wt_362, wt_363, wt_364, wt_365, wt_32, rfl, by decide +kernel, by decide +kernel, by decide +kernel⟩
theorem lkV_RX1_60_yX1_firstFrom : MLv RX1 60 RX1 yX1_firstFrom cX1_firstFrom 4 (some .int) 2 := ⟨wt_366, wt_367, wt_368, wt_369, wt_32, rfl, by decide +kernel, by decide +kernel, by decide +kernel⟩
theorem lkS_RX1_64_yJ6_bitCount_0f7a4 : MLs RX1 64 yJ6_bitCount_0f7a4 cJ6_bitCount_0f7a4 1 (some .int) 1 := ⟨wt_370, wt_371, wt_372, wt_373, by decide +kernel, by decide +kernel, by decide +kernel⟩
theorem fd_RX9_53_8 : MFd RX9 53 8 8 := ⟨_, _, _, _, rfl, rfl, by decide, uws_8, wt_377, Or.inl rfl⟩
theorem lkV_RX9_288_yX2_isTree : MLv RX9 288 RX2 yX2_isTree cX2_isTree 4 (some .boolean) 2 := ⟨wt_378, wt_379, wt_380, wt_381, wt_272, rfl, by decide +kernel, by decide +kernel, by decide +kernel⟩
theorem fd_RX2_30_0 : MFd RX2 30 0 2 := ⟨_, _, _, _, rfl, rfl, by decide, uws_0, wt_382, Or.inl rfl⟩
theorem fd_RX2_33_0 : MFd RX2 33 0 4 := ⟨_, _, _, _, rfl, rfl, by decide, uws_0, wt_383, Or.inl rfl⟩
theorem fd_RX2_36_0 : MFd RX2 36 0 5 := ⟨_, _, _, _, rfl, rfl, by decide, uws_0, wt_384, Or.inl rfl⟩
theorem lkV_RX2_39_yX2_apart : MLv RX2 39 RX2 yX2_apart cX2_apart 3 (some .boolean) 2 := ⟨wt_268, wt_385, wt_270, wt_271, wt_272, rfl, by decide +kernel, by decide +kernel, by decide +kernel⟩
theorem lkV_RX2_43_yX2_join : MLv RX2 43 RX2 yX2_join cX2_join 6 none 2 := ⟨wt_274, wt_386, wt_276, wt_277, wt_272, rfl, by decide +kernel, by decide +kernel, by decide +kernel⟩
theorem lkS_RX2_15_yJ6_bitCount_0f7a4 : MLs RX2 15 yJ6_bitCount_0f7a4 cJ6_bitCount_0f7a4 1 (some .int) 1 := ⟨wt_370, wt_387, wt_372, wt_373, by decide +kernel, by decide +kernel, by decide +kernel⟩
theorem fd_RX2_21_0 : MFd RX2 21 0 0 := ⟨_, _, _, _, rfl, rfl, by decide, uws_0, wt_388, Or.inl rfl⟩
theorem lkV_RX2_27_yX2_part : MLv RX2 27 RX2 yX2_part cX2_part 2 none 0 := ⟨wt_278, wt_389, wt_280, wt_281, wt_272, rfl, by decide +kernel, by decide +kernel, by decide +kernel⟩
theorem lkV_RX9_276_yX1_bringTogether : MLv RX9 276 RX1 yX1_bringTogether cX1_bringTogether 5 (some .long) 1 := ⟨wt_390, wt_391, wt_392, wt_393, wt_32, rfl, by decide +kernel, by decide +kernel, by decide +kernel⟩
theorem lkV_RX1_70_yX1_bringsOf : MLv RX1 70 RX1 yX1_bringsOf cX1_bringsOf 2 (some .int) 1 := ⟨wt_53, wt_394, wt_55, wt_56, wt_32, rfl, by decide +kernel, by decide +kernel, by decide +kernel⟩
theorem lkV_RX9_279_yX1_lastTogether : MLv RX9 279 RX1 yX1_lastTogether cX1_lastTogether 5 (some .long) 1 := ⟨wt_395, wt_396, wt_397, wt_398, wt_32, rfl, by decide +kernel, by decide +kernel, by decide +kernel⟩
theorem lkV_RX1_73_yX1_lastsOf : MLv RX1 73 RX1 yX1_lastsOf cX1_lastsOf 2 (some .int) 1 := ⟨wt_61, wt_399, wt_63, wt_64, wt_32, rfl, by decide +kernel, by decide +kernel, by decide +kernel⟩
theorem lkV_RX9_270_yX1_gainTogether : MLv RX9 270 RX1 yX1_gainTogether cX1_gainTogether 2 (some .long) 1 := ⟨wt_400, wt_401, wt_402, wt_403, wt_32, rfl, by decide +kernel, by decide +kernel, by decide +kernel⟩
theorem lkV_RX1_76_yX1_sumWithBase : MLv RX1 76 RX1 yX1_sumWithBase cX1_sumWithBase 6 (some .long) 2 := ⟨wt_404, wt_405, wt_406, wt_407, wt_32, rfl, by decide +kernel, by decide +kernel, by decide +kernel⟩
theorem lkV_RX9_273_yX1_timeTogether : MLv RX9 273 RX1 yX1_timeTogether cX1_timeTogether 2 (some .long) 1 := ⟨wt_408, wt_409, wt_410, wt_411, wt_32, rfl, by decide +kernel, by decide +kernel, by decide +kernel⟩
theorem lkV_RX9_291_yX9_fractionFault : MLv RX9 291 RX9 yX9_fractionFault cX9_fractionFault 6 (some .int) 3 := ⟨wt_412, wt_413, wt_414, wt_415, wt_8, rfl, by decide +kernel, by decide +kernel, by decide +kernel⟩
theorem lkV_RX9_315_yX9_sheetFault : MLv RX9 315 RX9 yX9_sheetFault cX9_sheetFault 2 (some .int) 1 := ⟨wt_416, wt_417, wt_418, wt_419, wt_8, rfl, by decide +kernel, by decide +kernel, by decide +kernel⟩
theorem fd_RX9_66_8 : MFd RX9 66 8 10 := ⟨_, _, _, _, rfl, rfl, by decide, uws_8, wt_420, Or.inl rfl⟩
theorem fd_RX9_340_4 : MFd RX9 340 4 0 := ⟨_, _, _, _, rfl, rfl, by decide, uws_4, wt_421, Or.inl rfl⟩
theorem lkV_RX9_318_yX5_hasFraction : MLv RX9 318 RX5 yX5_hasFraction cX5_hasFraction 2 (some .boolean) 1 := ⟨wt_422, wt_423, wt_424, wt_425, wt_426, rfl, by decide +kernel, by decide +kernel, by decide +kernel⟩
theorem fd_RX5_19_4 : MFd RX5 19 4 1 := ⟨_, _, _, _, rfl, rfl, by decide, uws_4, wt_427, Or.inl rfl⟩
theorem lkN_RX5_22_yX9_within : MLn RX5 22 "RoundsPerHour" yX9_within cX9_within 3 (some .boolean) 3 := ⟨wt_12, List.mem_of_getElem? (i := 11) rfl, wt_14, wt_8, by decide +kernel, by decide +kernel, by decide +kernel⟩
theorem fd_RX9_295_4 : MFd RX9 295 4 2 := ⟨_, _, _, _, rfl, rfl, by decide, uws_4, wt_428, Or.inl rfl⟩
theorem lkS_RX9_298_yJ13_compare_74951 : MLs RX9 298 yJ13_compare_74951 cJ13_compare_74951 4 (some .int) 2 := ⟨wt_135, wt_429, wt_137, wt_138, by decide +kernel, by decide +kernel, by decide +kernel⟩
theorem lkV_RX9_309_yX5_put : MLv RX9 309 RX5 yX5_put cX5_put 4 none 2 := ⟨wt_430, wt_431, wt_432, wt_433, wt_426, rfl, by decide +kernel, by decide +kernel, by decide +kernel⟩
theorem fd_RX5_15_4 : MFd RX5 15 4 0 := ⟨_, _, _, _, rfl, rfl, by decide, uws_4, wt_434, Or.inl rfl⟩
theorem fd_RX5_9_4 : MFd RX5 9 4 2 := ⟨_, _, _, _, rfl, rfl, by decide, uws_4, wt_435, Or.inl rfl⟩
theorem lkS_RX9_312_yX9_sumFits : MLs RX9 312 yX9_sumFits cX9_sumFits 6 (some .boolean) 2 := ⟨wt_436, wt_437, wt_438, wt_8, by decide +kernel, by decide +kernel, by decide +kernel⟩
theorem fd_RX9_60_8 : MFd RX9 60 8 9 := ⟨_, _, _, _, rfl, rfl, by decide, uws_8, wt_439, Or.inl rfl⟩
theorem fd_RX9_321_5 : MFd RX9 321 5 0 := ⟨_, _, _, _, rfl, rfl, by decide, uws_5, wt_440, Or.inl rfl⟩
theorem lkV_RX9_324_yX6_append : MLv RX9 324 RX6 yX6_append cX6_append 2 none 1 := ⟨wt_441, wt_442, wt_443, wt_444, wt_445, rfl, by decide +kernel, by decide +kernel, by decide +kernel⟩
theorem fd_RX6_15_5 : MFd RX6 15 5 0 := ⟨_, _, _, _, rfl, rfl, by decide, uws_5, wt_446, Or.inl rfl⟩
theorem fd_RX6_9_5 : MFd RX6 9 5 1 := ⟨_, _, _, _, rfl, rfl, by decide, uws_5, wt_447, Or.inl rfl⟩
theorem fw_RX6_15_5 : MFw RX6 15 5 0 .int := ⟨_, _, _, _, tyX6, rfl, rfl, by decide, uws_5, wt_446, Or.inl rfl, tyX6_ok, nmX6, rfl, by decide +kernel⟩
theorem fw_RX9_321_5 : MFw RX9 321 5 0 .int := ⟨_, _, _, _, tyX6, rfl, rfl, by decide, uws_5, wt_440, Or.inl rfl, tyX6_ok, nmX6, rfl, by decide +kernel⟩
theorem lkV_RX9_328_yX6_tellTo : MLv RX9 328 RX6 yX6_tellTo cX6_tellTo 3 (some .int) 1 := ⟨wt_448, wt_449, wt_450, wt_451, wt_445, rfl, by decide +kernel, by decide +kernel, by decide +kernel⟩
theorem fd_RX6_33_5 : MFd RX6 33 5 4 := ⟨_, _, _, _, rfl, rfl, by decide, uws_5, wt_452, Or.inl rfl⟩
theorem lkV_RX6_29_yX6_item : MLv RX6 29 RX6 yX6_item cX6_item 1 (some .boolean) 0 := ⟨wt_453, wt_454, wt_455, wt_456, wt_445, rfl, by decide +kernel, by decide +kernel, by decide +kernel⟩
theorem lkV_RX6_41_yX6_isWord : MLv RX6 41 RX6 yX6_isWord cX6_isWord 3 (some .boolean) 1 := ⟨wt_457, wt_458, wt_459, wt_460, wt_445, rfl, by decide +kernel, by decide +kernel, by decide +kernel⟩
theorem lkV_RX6_127_yJ0_length_8abf5 : MLv RX6 127 "java/lang/String" yJ0_length_8abf5 cJ0_length_8abf5 1 (some .int) 0 := ⟨wt_461, wt_462, wt_463, wt_464, wt_465, rfl, by decide +kernel, by decide +kernel, by decide +kernel⟩
theorem lkV_RJ0_335_yJ0_coder_7d493 : MLv RJ0 335 "java/lang/String" yJ0_coder_7d493 cJ0_coder_7d493 1 (some .byte) 0 := ⟨wt_467, wt_468, wt_469, wt_470, wt_465, rfl, by decide +kernel, by decide +kernel, by decide +kernel⟩
theorem lkV_RX6_131_yJ0_charAt_5068e : MLv RX6 131 "java/lang/String" yJ0_charAt_5068e cJ0_charAt_5068e 2 (some .char) 1 := ⟨wt_473, wt_474, wt_475, wt_476, wt_465, rfl, by decide +kernel, by decide +kernel, by decide +kernel⟩
theorem lkV_RJ0_492_yJ0_isLatin1_aae02 : MLv RJ0 492 "java/lang/String" yJ0_isLatin1_aae02 cJ0_isLatin1_aae02 1 (some .boolean) 0 := ⟨wt_477, wt_478, wt_479, wt_480, wt_465, rfl, by decide +kernel, by decide +kernel, by decide +kernel⟩
theorem lkS_RJ0_495_yJ1_charAt_3b067 : MLs RJ0 495 yJ1_charAt_3b067 cJ1_charAt_3b067 2 (some .char) 2 := ⟨wt_481, wt_482, wt_483, wt_484, by decide +kernel, by decide +kernel, by decide +kernel⟩
theorem lkS_RJ1_9_yJ0_checkIndex_df160 : MLs RJ1 9 yJ0_checkIndex_df160 cJ0_checkIndex_df160 2 none 2 := ⟨wt_485, wt_486, wt_487, wt_488, by decide +kernel, by decide +kernel, by decide +kernel⟩
theorem lkS_RJ0_1059_yJ3_checkIndex_8e157 : MLs RJ0 1059 yJ3_checkIndex_8e157 cJ3_checkIndex_8e157 3 (some .int) 3 := ⟨wt_490, wt_491, wt_492, wt_493, by decide +kernel, by decide +kernel, by decide +kernel⟩
theorem fd_RX6_36_5 : MFd RX6 36 5 3 := ⟨_, _, _, _, rfl, rfl, by decide, uws_5, wt_494, Or.inl rfl⟩
theorem fd_RX6_23_5 : MFd RX6 23 5 5 := ⟨_, _, _, _, rfl, rfl, by decide, uws_5, wt_495, Or.inl rfl⟩
theorem lkV_RX6_58_yX6_kindTold : MLv RX6 58 RX6 yX6_kindTold cX6_kindTold 1 (some .int) 0 := ⟨wt_496, wt_497, wt_498, wt_499, wt_445, rfl, by decide +kernel, by decide +kernel, by decide +kernel⟩
theorem lkV_RX6_62_yX6_wayItem : MLv RX6 62 RX6 yX6_wayItem cX6_wayItem 5 (some .boolean) 1 := ⟨wt_500, wt_501, wt_502, wt_503, wt_445, rfl, by decide +kernel, by decide +kernel, by decide +kernel⟩
theorem fd_RX6_19_5 : MFd RX6 19 5 2 := ⟨_, _, _, _, rfl, rfl, by decide, uws_5, wt_504, Or.inl rfl⟩
theorem fd_RX6_95_0 : MFd RX6 95 0 2 := ⟨_, _, _, _, rfl, rfl, by decide, uws_0, wt_505, Or.inl rfl⟩
theorem lkV_RX6_26_yX6_next : MLv RX6 26 RX6 yX6_next cX6_next 1 none 0 := ⟨wt_506, wt_507, wt_508, wt_509, wt_445, rfl, by decide +kernel, by decide +kernel, by decide +kernel⟩
theorem fw_RX6_36_5 : MFw RX6 36 5 3 .int := ⟨_, _, _, _, tyX6, rfl, rfl, by decide, uws_5, wt_494, Or.inl rfl, tyX6_ok, nmX6, rfl, by decide +kernel⟩
theorem fw_RX6_23_5 : MFw RX6 23 5 5 .int := ⟨_, _, _, _, tyX6, rfl, rfl, by decide, uws_5, wt_495, Or.inl rfl, tyX6_ok, nmX6, rfl, by decide +kernel⟩
theorem lkS_RX6_135_yX6_isLetter : MLs RX6 135 yX6_isLetter cX6_isLetter 1 (some .boolean) 1 := ⟨wt_510, wt_511, wt_512, wt_445, by decide +kernel, by decide +kernel, by decide +kernel⟩
theorem fw_RX6_33_5 : MFw RX6 33 5 4 .int := ⟨_, _, _, _, tyX6, rfl, rfl, by decide, uws_5, wt_452, Or.inl rfl, tyX6_ok, nmX6, rfl, by decide +kernel⟩
theorem lkS_RX6_138_yX6_isDigit : MLs RX6 138 yX6_isDigit cX6_isDigit 1 (some .boolean) 1 := ⟨wt_513, wt_514, wt_515, wt_445, by decide +kernel, by decide +kernel, by decide +kernel⟩
theorem lkV_RX6_141_yX6_takeDigits : MLv RX6 141 RX6 yX6_takeDigits cX6_takeDigits 1 none 0 := ⟨wt_516, wt_517, wt_518, wt_519, wt_445, rfl, by decide +kernel, by decide +kernel, by decide +kernel⟩
theorem fd_RX6_74_5 : MFd RX6 74 5 6 := ⟨_, _, _, _, rfl, rfl, by decide, uws_5, wt_520, Or.inl rfl⟩
theorem fw_RX6_74_5 : MFw RX6 74 5 6 .int := ⟨_, _, _, _, tyX6, rfl, rfl, by decide, uws_5, wt_520, Or.inl rfl, tyX6_ok, nmX6, rfl, by decide +kernel⟩
theorem fd_RX6_66_0 : MFd RX6 66 0 0 := ⟨_, _, _, _, rfl, rfl, by decide, uws_0, wt_525, Or.inl rfl⟩
theorem lkV_RX6_70_yX6_isNumber : MLv RX6 70 RX6 yX6_isNumber cX6_isNumber 3 (some .boolean) 2 := ⟨wt_526, wt_527, wt_528, wt_529, wt_445, rfl, by decide +kernel, by decide +kernel, by decide +kernel⟩
theorem lkN_RX6_123_yX9_within : MLn RX6 123 "RoundsPerHour" yX9_within cX9_within 3 (some .boolean) 3 := ⟨wt_12, List.mem_of_getElem? (i := 12) rfl, wt_14, wt_8, by decide +kernel, by decide +kernel, by decide +kernel⟩
theorem lkV_RX6_82_yX6_gainAndTime : MLv RX6 82 RX6 yX6_gainAndTime cX6_gainAndTime 2 (some .boolean) 0 := ⟨wt_530, wt_531, wt_532, wt_533, wt_445, rfl, by decide +kernel, by decide +kernel, by decide +kernel⟩
theorem fw_RX6_88_5 : MFw RX6 88 5 8 .int := ⟨_, _, _, _, tyX6, rfl, rfl, by decide, uws_5, wt_535, Or.inl rfl, tyX6_ok, nmX6, rfl, by decide +kernel⟩
theorem fw_RX6_85_5 : MFw RX6 85 5 7 .int := ⟨_, _, _, _, tyX6, rfl, rfl, by decide, uws_5, wt_536, Or.inl rfl, tyX6_ok, nmX6, rfl, by decide +kernel⟩
theorem fd_RX6_85_5 : MFd RX6 85 5 7 := ⟨_, _, _, _, rfl, rfl, by decide, uws_5, wt_536, Or.inl rfl⟩
theorem fd_RX6_88_5 : MFd RX6 88 5 8 := ⟨_, _, _, _, rfl, rfl, by decide, uws_5, wt_535, Or.inl rfl⟩
theorem lkV_RX6_98_yX1_newWay : MLv RX6 98 RX1 yX1_newWay cX1_newWay 7 (some .int) 5 := ⟨wt_28, wt_537, wt_30, wt_31, wt_32, rfl, by decide +kernel, by decide +kernel, by decide +kernel⟩
theorem fd_RX6_104_0 : MFd RX6 104 0 8 := ⟨_, _, _, _, rfl, rfl, by decide, uws_0, wt_538, Or.inl rfl⟩
theorem lkV_RX6_55_yX6_thingItem : MLv RX6 55 RX6 yX6_thingItem cX6_thingItem 1 (some .boolean) 0 := ⟨wt_539, wt_540, wt_541, wt_542, wt_445, rfl, by decide +kernel, by decide +kernel, by decide +kernel⟩
theorem fd_RX6_79_0 : MFd RX6 79 0 9 := ⟨_, _, _, _, rfl, rfl, by decide, uws_0, wt_543, Or.inl rfl⟩
theorem lkV_RX6_91_yX1_newThing : MLv RX6 91 RX1 yX1_newThing cX1_newThing 3 (some .int) 2 := ⟨wt_80, wt_544, wt_82, wt_83, wt_32, rfl, by decide +kernel, by decide +kernel, by decide +kernel⟩
theorem lkV_RX6_50_yX6_weatherItem : MLv RX6 50 RX6 yX6_weatherItem cX6_weatherItem 1 (some .boolean) 0 := ⟨wt_545, wt_546, wt_547, wt_548, wt_445, rfl, by decide +kernel, by decide +kernel, by decide +kernel⟩
theorem fw_RX6_77_0 : MFw RX6 77 0 1 .int := ⟨_, _, _, _, tyX1, rfl, rfl, by decide, uws_0, wt_549, Or.inl rfl, tyX1_ok, nmX1, rfl, by decide +kernel⟩
theorem lkV_RX6_45_yX6_placesItem : MLv RX6 45 RX6 yX6_placesItem cX6_placesItem 1 (some .boolean) 0 := ⟨wt_550, wt_551, wt_552, wt_553, wt_445, rfl, by decide +kernel, by decide +kernel, by decide +kernel⟩
theorem fw_RX6_66_0 : MFw RX6 66 0 0 .int := ⟨_, _, _, _, tyX1, rfl, rfl, by decide, uws_0, wt_525, Or.inl rfl, tyX1_ok, nmX1, rfl, by decide +kernel⟩
theorem fw_RX6_19_5 : MFw RX6 19 5 2 (.object "RoundsPerHour$Country") := ⟨_, _, _, _, tyX6, rfl, rfl, by decide, uws_5, wt_504, Or.inl rfl, tyX6_ok, nmX6, rfl, by decide +kernel⟩
theorem lkV_RX9_332_yX5_begin : MLv RX9 332 RX5 yX5_begin cX5_begin 4 none 2 := ⟨wt_554, wt_555, wt_556, wt_557, wt_426, rfl, by decide +kernel, by decide +kernel, by decide +kernel⟩
theorem fw_RX5_15_4 : MFw RX5 15 4 0 .int := ⟨_, _, _, _, tyX5, rfl, rfl, by decide, uws_4, wt_434, Or.inl rfl, tyX5_ok, nmX5, rfl, by decide +kernel⟩
theorem fw_RX5_19_4 : MFw RX5 19 4 1 .int := ⟨_, _, _, _, tyX5, rfl, rfl, by decide, uws_4, wt_427, Or.inl rfl, tyX5_ok, nmX5, rfl, by decide +kernel⟩
theorem fd_RX9_336_4 : MFd RX9 336 4 1 := ⟨_, _, _, _, rfl, rfl, by decide, uws_4, wt_558, Or.inl rfl⟩
theorem lkV_RX9_337_yX9_numberFault : MLv RX9 337 RX9 yX9_numberFault cX9_numberFault 4 (some .int) 2 := ⟨wt_559, wt_560, wt_561, wt_562, wt_8, rfl, by decide +kernel, by decide +kernel, by decide +kernel⟩
theorem lkV_RX9_343_yX5_hasRun : MLv RX9 343 RX5 yX5_hasRun cX5_hasRun 3 (some .boolean) 2 := ⟨wt_563, wt_564, wt_565, wt_566, wt_426, rfl, by decide +kernel, by decide +kernel, by decide +kernel⟩
theorem fd_RX9_16_8 : MFd RX9 16 8 1 := ⟨_, _, _, _, rfl, rfl, by decide, uws_8, wt_569, Or.inl rfl⟩
theorem fw_RX9_354_8 : MFw RX9 354 8 3 .boolean := ⟨_, _, _, _, tyX9, rfl, rfl, by decide, uws_8, wt_570, Or.inl rfl, tyX9_ok, nmX9, rfl, by decide +kernel⟩
theorem fd_RX9_354_8 : MFd RX9 354 8 3 := ⟨_, _, _, _, rfl, rfl, by decide, uws_8, wt_570, Or.inl rfl⟩
theorem lkV_RX9_358_yX1_shutWays : MLv RX9 358 RX1 yX1_shutWays cX1_shutWays 3 (some .int) 0 := ⟨wt_571, wt_572, wt_573, wt_574, wt_32, rfl, by decide +kernel, by decide +kernel, by decide +kernel⟩
theorem fd_RX10_61_9 : MFd RX10 61 9 3 := ⟨_, _, _, _, rfl, rfl, by decide, uws_9, wt_575, Or.inl rfl⟩
theorem fd_RX10_15_9 : MFd RX10 15 9 1 := ⟨_, _, _, _, rfl, rfl, by decide, uws_9, wt_576, Or.inl rfl⟩
theorem fw_RX10_15_9 : MFw RX10 15 9 1 .int := ⟨_, _, _, _, tyX10, rfl, rfl, by decide, uws_9, wt_576, Or.inl rfl, tyX10_ok, nmX10, rfl, by decide +kernel⟩
theorem lkV_RX10_70_yX10_at : MLv RX10 70 RX10 yX10_at cX10_at 3 (some .int) 2 := ⟨wt_577, wt_578, wt_579, wt_580, wt_581, rfl, by decide +kernel, by decide +kernel, by decide +kernel⟩
theorem fd_RX10_19_9 : MFd RX10 19 9 4 := ⟨_, _, _, _, rfl, rfl, by decide, uws_9, wt_582, Or.inl rfl⟩
theorem lkV_RX10_81_yX10_finds : MLv RX10 81 RX10 yX10_finds cX10_finds 2 (some .int) 1 := ⟨wt_583, wt_584, wt_585, wt_586, wt_581, rfl, by decide +kernel, by decide +kernel, by decide +kernel⟩
theorem fd_RX10_9_9 : MFd RX10 9 9 0 := ⟨_, _, _, _, rfl, rfl, by decide, uws_9, wt_587, Or.inl rfl⟩
theorem lkS_RX10_57_yX10_in : MLs RX10 57 yX10_in cX10_in 6 (some .boolean) 3 := ⟨wt_591, wt_592, wt_593, wt_581, by decide +kernel, by decide +kernel, by decide +kernel⟩
theorem fd_RX10_74_9 : MFd RX10 74 9 2 := ⟨_, _, _, _, rfl, rfl, by decide, uws_9, wt_595, Or.inl rfl⟩
theorem fw_RX10_74_9 : MFw RX10 74 9 2 .int := ⟨_, _, _, _, tyX10, rfl, rfl, by decide, uws_9, wt_595, Or.inl rfl, tyX10_ok, nmX10, rfl, by decide +kernel⟩
theorem lkV_RX10_87_yX10_isPlace : MLv RX10 87 RX10 yX10_isPlace cX10_isPlace 2 (some .boolean) 1 := ⟨wt_596, wt_597, wt_598, wt_599, wt_581, rfl, by decide +kernel, by decide +kernel, by decide +kernel⟩
theorem lkS_RX10_91_yX10_isGain : MLs RX10 91 yX10_isGain cX10_isGain 2 (some .boolean) 1 := ⟨wt_600, wt_601, wt_602, wt_581, by decide +kernel, by decide +kernel, by decide +kernel⟩
theorem lkS_RX10_95_yX10_isTime : MLs RX10 95 yX10_isTime cX10_isTime 1 (some .boolean) 1 := ⟨wt_605, wt_606, wt_607, wt_581, by decide +kernel, by decide +kernel, by decide +kernel⟩
theorem lkV_RX10_98_yX10_addWay : MLv RX10 98 RX10 yX10_addWay cX10_addWay 7 none 5 := ⟨wt_609, wt_610, wt_611, wt_612, wt_581, rfl, by decide +kernel, by decide +kernel, by decide +kernel⟩
theorem fw_RX10_61_9 : MFw RX10 61 9 3 .int := ⟨_, _, _, _, tyX10, rfl, rfl, by decide, uws_9, wt_575, Or.inl rfl, tyX10_ok, nmX10, rfl, by decide +kernel⟩
theorem lkV_RX10_102_yX10_isWay : MLv RX10 102 RX10 yX10_isWay cX10_isWay 2 (some .boolean) 1 := ⟨wt_613, wt_614, wt_615, wt_616, wt_581, rfl, by decide +kernel, by decide +kernel, by decide +kernel⟩
theorem lkV_RX10_110_yX10_lasts : MLv RX10 110 RX10 yX10_lasts cX10_lasts 3 (some .int) 1 := ⟨wt_618, wt_619, wt_620, wt_621, wt_581, rfl, by decide +kernel, by decide +kernel, by decide +kernel⟩
theorem lkV_RX10_107_yX10_brings : MLv RX10 107 RX10 yX10_brings cX10_brings 3 (some .int) 1 := ⟨wt_622, wt_623, wt_624, wt_625, wt_581, rfl, by decide +kernel, by decide +kernel, by decide +kernel⟩
theorem lkV_RX10_113_yX10_mayBe : MLv RX10 113 RX10 yX10_mayBe cX10_mayBe 4 (some .boolean) 3 := ⟨wt_626, wt_627, wt_628, wt_629, wt_581, rfl, by decide +kernel, by decide +kernel, by decide +kernel⟩
theorem fd_RX10_117_9 : MFd RX10 117 9 5 := ⟨_, _, _, _, rfl, rfl, by decide, uws_9, wt_630, Or.inl rfl⟩
theorem fd_RX10_22_9 : MFd RX10 22 9 6 := ⟨_, _, _, _, rfl, rfl, by decide, uws_9, wt_631, Or.inl rfl⟩
theorem fw_RX10_117_9 : MFw RX10 117 9 5 .int := ⟨_, _, _, _, tyX10, rfl, rfl, by decide, uws_9, wt_630, Or.inl rfl, tyX10_ok, nmX10, rfl, by decide +kernel⟩
theorem fd_RX10_25_9 : MFd RX10 25 9 7 := ⟨_, _, _, _, rfl, rfl, by decide, uws_9, wt_632, Or.inl rfl⟩
theorem lkV_RX10_122_yX10_isThing : MLv RX10 122 RX10 yX10_isThing cX10_isThing 2 (some .boolean) 1 := ⟨wt_633, wt_634, wt_635, wt_636, wt_581, rfl, by decide +kernel, by decide +kernel, by decide +kernel⟩
theorem lkV_RX10_169_yX10_ringsNow : MLv RX10 169 RX10 yX10_ringsNow cX10_ringsNow 1 (some .boolean) 0 := ⟨wt_638, wt_639, wt_640, wt_641, wt_581, rfl, by decide +kernel, by decide +kernel, by decide +kernel⟩
theorem lkV_RX10_157_yX10_openWays : MLv RX10 157 RX10 yX10_openWays cX10_openWays 3 (some .int) 0 := ⟨wt_642, wt_643, wt_644, wt_645, wt_581, rfl, by decide +kernel, by decide +kernel, by decide +kernel⟩
theorem lkV_RX10_161_yX10_rings : MLv RX10 161 RX10 yX10_rings cX10_rings 4 (some .boolean) 2 := ⟨wt_646, wt_647, wt_648, wt_649, wt_581, rfl, by decide +kernel, by decide +kernel, by decide +kernel⟩
theorem fd_RX10_132_9 : MFd RX10 132 9 10 := ⟨_, _, _, _, rfl, rfl, by decide, uws_9, wt_650, Or.inl rfl⟩
theorem lkV_RX10_153_yX10_goesRound : MLv RX10 153 RX10 yX10_goesRound cX10_goesRound 15 none 6 := ⟨wt_651, wt_652, wt_653, wt_654, wt_581, rfl, by decide +kernel, by decide +kernel, by decide +kernel⟩
theorem fd_RX10_146_9 : MFd RX10 146 9 8 := ⟨_, _, _, _, rfl, rfl, by decide, uws_9, wt_655, Or.inl rfl⟩
theorem lkV_RX10_149_yX10_closes : MLv RX10 149 RX10 yX10_closes cX10_closes 8 none 3 := ⟨wt_656, wt_657, wt_658, wt_659, wt_581, rfl, by decide +kernel, by decide +kernel, by decide +kernel⟩
theorem fd_RX10_143_9 : MFd RX10 143 9 13 := ⟨_, _, _, _, rfl, rfl, by decide, uws_9, wt_660, Or.inl rfl⟩
theorem fw_RX10_143_9 : MFw RX10 143 9 13 .int := ⟨_, _, _, _, tyX10, rfl, rfl, by decide, uws_9, wt_660, Or.inl rfl, tyX10_ok, nmX10, rfl, by decide +kernel⟩
theorem fw_RX10_140_9 : MFw RX10 140 9 11 .long := ⟨_, _, _, _, tyX10, rfl, rfl, by decide, uws_9, wt_661, Or.inl rfl, tyX10_ok, nmX10, rfl, by decide +kernel⟩
theorem fw_RX10_136_9 : MFw RX10 136 9 12 .long := ⟨_, _, _, _, tyX10, rfl, rfl, by decide, uws_9, wt_662, Or.inl rfl, tyX10_ok, nmX10, rfl, by decide +kernel⟩
theorem fw_RX10_132_9 : MFw RX10 132 9 10 .boolean := ⟨_, _, _, _, tyX10, rfl, rfl, by decide, uws_9, wt_650, Or.inl rfl, tyX10_ok, nmX10, rfl, by decide +kernel⟩
theorem fd_RX10_129_9 : MFd RX10 129 9 9 := ⟨_, _, _, _, rfl, rfl, by decide, uws_9, wt_663, Or.inl rfl⟩
theorem fd_RX10_136_9 : MFd RX10 136 9 12 := ⟨_, _, _, _, rfl, rfl, by decide, uws_9, wt_662, Or.inl rfl⟩
theorem fd_RX10_140_9 : MFd RX10 140 9 11 := ⟨_, _, _, _, rfl, rfl, by decide, uws_9, wt_661, Or.inl rfl⟩
theorem fw_RX10_146_9 : MFw RX10 146 9 8 .int := ⟨_, _, _, _, tyX10, rfl, rfl, by decide, uws_9, wt_655, Or.inl rfl, tyX10_ok, nmX10, rfl, by decide +kernel⟩
theorem fw_RX10_129_9 : MFw RX10 129 9 9 .int := ⟨_, _, _, _, tyX10, rfl, rfl, by decide, uws_9, wt_663, Or.inl rfl, tyX10_ok, nmX10, rfl, by decide +kernel⟩
theorem lkV_RX10_165_yX10_farFinds : MLv RX10 165 RX10 yX10_farFinds cX10_farFinds 2 (some .long) 1 := ⟨wt_664, wt_665, wt_666, wt_667, wt_581, rfl, by decide +kernel, by decide +kernel, by decide +kernel⟩
theorem lkS_RX10_173_yX10_lowest : MLs RX10 173 yX10_lowest cX10_lowest 7 (some .long) 3 := ⟨wt_669, wt_670, wt_671, wt_581, by decide +kernel, by decide +kernel, by decide +kernel⟩
theorem lkS_RX10_125_yX10_common : MLs RX10 125 yX10_common cX10_common 10 (some .long) 2 := ⟨wt_672, wt_673, wt_674, wt_581, by decide +kernel, by decide +kernel, by decide +kernel⟩
theorem fd_RX10_28_9 : MFd RX10 28 9 14 := ⟨_, _, _, _, rfl, rfl, by decide, uws_9, wt_675, Or.inl rfl⟩
theorem lkV_RX10_179_yX10_lifts : MLv RX10 179 RX10 yX10_lifts cX10_lifts 11 (some .boolean) 2 := ⟨wt_677, wt_678, wt_679, wt_680, wt_581, rfl, by decide +kernel, by decide +kernel, by decide +kernel⟩
theorem fw_RX10_183_9 : MFw RX10 183 9 15 .boolean := ⟨_, _, _, _, tyX10, rfl, rfl, by decide, uws_9, wt_681, Or.inl rfl, tyX10_ok, nmX10, rfl, by decide +kernel⟩
theorem lkV_RX10_186_yX10_product : MLv RX10 186 RX10 yX10_product cX10_product 7 (some .long) 2 := ⟨wt_682, wt_683, wt_684, wt_685, wt_581, rfl, by decide +kernel, by decide +kernel, by decide +kernel⟩
theorem fd_RX10_183_9 : MFd RX10 183 9 15 := ⟨_, _, _, _, rfl, rfl, by decide, uws_9, wt_681, Or.inl rfl⟩
theorem lkV_RX10_197_yX10_raised : MLv RX10 197 RX10 yX10_raised cX10_raised 10 (some .int) 1 := ⟨wt_687, wt_688, wt_689, wt_690, wt_581, rfl, by decide +kernel, by decide +kernel, by decide +kernel⟩
theorem lkV_RX10_193_yX10_isRaised : MLv RX10 193 RX10 yX10_isRaised cX10_isRaised 8 (some .boolean) 5 := ⟨wt_691, wt_692, wt_693, wt_694, wt_581, rfl, by decide +kernel, by decide +kernel, by decide +kernel⟩
theorem fw_RX10_212_9 : MFw RX10 212 9 16 .int := ⟨_, _, _, _, tyX10, rfl, rfl, by decide, uws_9, wt_698, Or.inl rfl, tyX10_ok, nmX10, rfl, by decide +kernel⟩
theorem lkV_RX10_255_yX10_told : MLv RX10 255 RX10 yX10_told cX10_told 3 (some .long) 1 := ⟨wt_699, wt_700, wt_701, wt_702, wt_581, rfl, by decide +kernel, by decide +kernel, by decide +kernel⟩
theorem lkV_RX10_246_yX10_leastChoice : MLv RX10 246 RX10 yX10_leastChoice cX10_leastChoice 2 (some .int) 0 := ⟨wt_703, wt_704, wt_705, wt_706, wt_581, rfl, by decide +kernel, by decide +kernel, by decide +kernel⟩
theorem lkV_RX10_227_yX10_allSets : MLv RX10 227 RX10 yX10_allSets cX10_allSets 1 (some .int) 0 := ⟨wt_707, wt_708, wt_709, wt_710, wt_581, rfl, by decide +kernel, by decide +kernel, by decide +kernel⟩
theorem fd_RX10_212_9 : MFd RX10 212 9 16 := ⟨_, _, _, _, rfl, rfl, by decide, uws_9, wt_698, Or.inl rfl⟩
theorem lkV_RX10_230_yX10_isChoice : MLv RX10 230 RX10 yX10_isChoice cX10_isChoice 2 (some .boolean) 1 := ⟨wt_711, wt_712, wt_713, wt_714, wt_581, rfl, by decide +kernel, by decide +kernel, by decide +kernel⟩
theorem lkV_RX10_224_yX10_rises : MLv RX10 224 RX10 yX10_rises cX10_rises 5 (some .boolean) 1 := ⟨wt_715, wt_716, wt_717, wt_718, wt_581, rfl, by decide +kernel, by decide +kernel, by decide +kernel⟩
theorem fd_RX10_209_9 : MFd RX10 209 9 18 := ⟨_, _, _, _, rfl, rfl, by decide, uws_9, wt_719, Or.inl rfl⟩
theorem lkV_RX10_200_yX10_wayFrom : MLv RX10 200 RX10 yX10_wayFrom cX10_wayFrom 6 (some .int) 2 := ⟨wt_720, wt_721, wt_722, wt_723, wt_581, rfl, by decide +kernel, by decide +kernel, by decide +kernel⟩
theorem fd_RX10_206_9 : MFd RX10 206 9 17 := ⟨_, _, _, _, rfl, rfl, by decide, uws_9, wt_724, Or.inl rfl⟩
theorem lkV_RX10_221_yX10_joinsAll : MLv RX10 221 RX10 yX10_joinsAll cX10_joinsAll 6 (some .boolean) 1 := ⟨wt_725, wt_726, wt_727, wt_728, wt_581, rfl, by decide +kernel, by decide +kernel, by decide +kernel⟩
theorem lkS_RX10_203_yX10_bits : MLs RX10 203 yX10_bits cX10_bits 3 (some .int) 1 := ⟨wt_729, wt_730, wt_731, wt_581, by decide +kernel, by decide +kernel, by decide +kernel⟩
theorem lkV_RX10_218_yX10_isRound : MLv RX10 218 RX10 yX10_isRound cX10_isRound 8 (some .boolean) 1 := ⟨wt_732, wt_733, wt_734, wt_735, wt_581, rfl, by decide +kernel, by decide +kernel, by decide +kernel⟩
theorem fd_RX10_215_9 : MFd RX10 215 9 19 := ⟨_, _, _, _, rfl, rfl, by decide, uws_9, wt_736, Or.inl rfl⟩
theorem lkV_RX10_249_yX10_climbed : MLv RX10 249 RX10 yX10_climbed cX10_climbed 10 (some .long) 2 := ⟨wt_737, wt_738, wt_739, wt_740, wt_581, rfl, by decide +kernel, by decide +kernel, by decide +kernel⟩
theorem lkV_RX10_233_yX10_aboveOf : MLv RX10 233 RX10 yX10_aboveOf cX10_aboveOf 5 (some .long) 1 := ⟨wt_741, wt_742, wt_743, wt_744, wt_581, rfl, by decide +kernel, by decide +kernel, by decide +kernel⟩
theorem lkV_RX10_236_yX10_belowOf : MLv RX10 236 RX10 yX10_belowOf cX10_belowOf 5 (some .long) 1 := ⟨wt_745, wt_746, wt_747, wt_748, wt_581, rfl, by decide +kernel, by decide +kernel, by decide +kernel⟩
theorem lkV_RX10_243_yX10_leastLike : MLv RX10 243 RX10 yX10_leastLike cX10_leastLike 6 (some .int) 2 := ⟨wt_749, wt_750, wt_751, wt_752, wt_581, rfl, by decide +kernel, by decide +kernel, by decide +kernel⟩
theorem lkV_RX10_239_yX10_nextChoice : MLv RX10 239 RX10 yX10_nextChoice cX10_nextChoice 11 (some .int) 2 := ⟨wt_753, wt_754, wt_755, wt_756, wt_581, rfl, by decide +kernel, by decide +kernel, by decide +kernel⟩
theorem fw_RX10_206_9 : MFw RX10 206 9 17 .int := ⟨_, _, _, _, tyX10, rfl, rfl, by decide, uws_9, wt_724, Or.inl rfl, tyX10_ok, nmX10, rfl, by decide +kernel⟩
theorem fw_RX10_209_9 : MFw RX10 209 9 18 .int := ⟨_, _, _, _, tyX10, rfl, rfl, by decide, uws_9, wt_719, Or.inl rfl, tyX10_ok, nmX10, rfl, by decide +kernel⟩
theorem fw_RX10_215_9 : MFw RX10 215 9 19 .int := ⟨_, _, _, _, tyX10, rfl, rfl, by decide, uws_9, wt_736, Or.inl rfl, tyX10_ok, nmX10, rfl, by decide +kernel⟩
theorem fd_RX10_38_9 : MFd RX10 38 9 22 := ⟨_, _, _, _, rfl, rfl, by decide, uws_9, wt_757, Or.inl rfl⟩
theorem lkV_RX10_261_yX10_wrong : MLv RX10 261 RX10 yX10_wrong cX10_wrong 4 (some .int) 3 := ⟨wt_758, wt_759, wt_760, wt_761, wt_581, rfl, by decide +kernel, by decide +kernel, by decide +kernel⟩
theorem lkS_RX10_258_yX10_isSheet : MLs RX10 258 yX10_isSheet cX10_isSheet 1 (some .boolean) 1 := ⟨wt_762, wt_763, wt_764, wt_581, by decide +kernel, by decide +kernel, by decide +kernel⟩
theorem fd_RX10_32_9 : MFd RX10 32 9 20 := ⟨_, _, _, _, rfl, rfl, by decide, uws_9, wt_765, Or.inl rfl⟩
theorem fd_RX10_35_9 : MFd RX10 35 9 21 := ⟨_, _, _, _, rfl, rfl, by decide, uws_9, wt_766, Or.inl rfl⟩
theorem lkS_RX10_265_yX10_narrow : MLs RX10 265 yX10_narrow cX10_narrow 3 (some .long) 2 := ⟨wt_767, wt_768, wt_769, wt_581, by decide +kernel, by decide +kernel, by decide +kernel⟩
theorem lkV_RX10_269_yX10_sum : MLv RX10 269 RX10 yX10_sum cX10_sum 7 (some .long) 2 := ⟨wt_770, wt_771, wt_772, wt_773, wt_581, rfl, by decide +kernel, by decide +kernel, by decide +kernel⟩
theorem fd_RX10_274_9 : MFd RX10 274 9 25 := ⟨_, _, _, _, rfl, rfl, by decide, uws_9, wt_774, Or.inl rfl⟩
theorem fd_RX10_44_9 : MFd RX10 44 9 24 := ⟨_, _, _, _, rfl, rfl, by decide, uws_9, wt_775, Or.inl rfl⟩
theorem fw_RX10_274_9 : MFw RX10 274 9 25 .int := ⟨_, _, _, _, tyX10, rfl, rfl, by decide, uws_9, wt_774, Or.inl rfl, tyX10_ok, nmX10, rfl, by decide +kernel⟩
theorem fd_RX10_280_9 : MFd RX10 280 9 27 := ⟨_, _, _, _, rfl, rfl, by decide, uws_9, wt_777, Or.inl rfl⟩
theorem fd_RX10_286_9 : MFd RX10 286 9 28 := ⟨_, _, _, _, rfl, rfl, by decide, uws_9, wt_778, Or.inl rfl⟩
theorem lkV_RX10_307_yX10_next : MLv RX10 307 RX10 yX10_next cX10_next 3 none 0 := ⟨wt_779, wt_780, wt_781, wt_782, wt_581, rfl, by decide +kernel, by decide +kernel, by decide +kernel⟩
theorem lkV_RX10_293_yX10_isWordFrom : MLv RX10 293 RX10 yX10_isWordFrom cX10_isWordFrom 4 (some .boolean) 1 := ⟨wt_783, wt_784, wt_785, wt_786, wt_581, rfl, by decide +kernel, by decide +kernel, by decide +kernel⟩
theorem fd_RX10_47_9 : MFd RX10 47 9 31 := ⟨_, _, _, _, rfl, rfl, by decide, uws_9, wt_787, Or.inl rfl⟩
theorem fd_RX10_277_9 : MFd RX10 277 9 26 := ⟨_, _, _, _, rfl, rfl, by decide, uws_9, wt_788, Or.inl rfl⟩
theorem lkV_RX10_283_yX10_byteAt : MLv RX10 283 RX10 yX10_byteAt cX10_byteAt 2 (some .int) 1 := ⟨wt_789, wt_790, wt_791, wt_792, wt_581, rfl, by decide +kernel, by decide +kernel, by decide +kernel⟩
theorem fw_RX10_286_9 : MFw RX10 286 9 28 .int := ⟨_, _, _, _, tyX10, rfl, rfl, by decide, uws_9, wt_778, Or.inl rfl, tyX10_ok, nmX10, rfl, by decide +kernel⟩
theorem fw_RX10_277_9 : MFw RX10 277 9 26 .int := ⟨_, _, _, _, tyX10, rfl, rfl, by decide, uws_9, wt_788, Or.inl rfl, tyX10_ok, nmX10, rfl, by decide +kernel⟩
theorem fw_RX10_300_9 : MFw RX10 300 9 29 .int := ⟨_, _, _, _, tyX10, rfl, rfl, by decide, uws_9, wt_795, Or.inl rfl, tyX10_ok, nmX10, rfl, by decide +kernel⟩
theorem fd_RX10_300_9 : MFd RX10 300 9 29 := ⟨_, _, _, _, rfl, rfl, by decide, uws_9, wt_795, Or.inl rfl⟩
theorem fw_RX10_280_9 : MFw RX10 280 9 27 .int := ⟨_, _, _, _, tyX10, rfl, rfl, by decide, uws_9, wt_777, Or.inl rfl, tyX10_ok, nmX10, rfl, by decide +kernel⟩
theorem lkV_RX10_331_yX10_readsItem : MLv RX10 331 RX10 yX10_readsItem cX10_readsItem 2 (some .boolean) 0 := ⟨wt_799, wt_800, wt_801, wt_802, wt_581, rfl, by decide +kernel, by decide +kernel, by decide +kernel⟩
theorem lkV_RX10_319_yX10_takesNumber : MLv RX10 319 RX10 yX10_takesNumber cX10_takesNumber 3 (some .boolean) 2 := ⟨wt_803, wt_804, wt_805, wt_806, wt_581, rfl, by decide +kernel, by decide +kernel, by decide +kernel⟩
theorem fw_RX10_304_9 : MFw RX10 304 9 30 .int := ⟨_, _, _, _, tyX10, rfl, rfl, by decide, uws_9, wt_807, Or.inl rfl, tyX10_ok, nmX10, rfl, by decide +kernel⟩
theorem fd_RX10_304_9 : MFd RX10 304 9 30 := ⟨_, _, _, _, rfl, rfl, by decide, uws_9, wt_807, Or.inl rfl⟩
theorem lkV_RX10_328_yX10_readsThing : MLv RX10 328 RX10 yX10_readsThing cX10_readsThing 1 (some .boolean) 0 := ⟨wt_808, wt_809, wt_810, wt_811, wt_581, rfl, by decide +kernel, by decide +kernel, by decide +kernel⟩
theorem lkV_RX10_322_yX10_readsGainAndTime : MLv RX10 322 RX10 yX10_readsGainAndTime cX10_readsGainAndTime 2 (some .boolean) 0 := ⟨wt_812, wt_813, wt_814, wt_815, wt_581, rfl, by decide +kernel, by decide +kernel, by decide +kernel⟩
theorem lkV_RX10_316_yX10_isWord : MLv RX10 316 RX10 yX10_isWord cX10_isWord 2 (some .boolean) 1 := ⟨wt_816, wt_817, wt_818, wt_819, wt_581, rfl, by decide +kernel, by decide +kernel, by decide +kernel⟩
theorem fw_RX10_313_9 : MFw RX10 313 9 33 .int := ⟨_, _, _, _, tyX10, rfl, rfl, by decide, uws_9, wt_820, Or.inl rfl, tyX10_ok, nmX10, rfl, by decide +kernel⟩
theorem fw_RX10_310_9 : MFw RX10 310 9 32 .int := ⟨_, _, _, _, tyX10, rfl, rfl, by decide, uws_9, wt_821, Or.inl rfl, tyX10_ok, nmX10, rfl, by decide +kernel⟩
theorem fd_RX10_310_9 : MFd RX10 310 9 32 := ⟨_, _, _, _, rfl, rfl, by decide, uws_9, wt_821, Or.inl rfl⟩
theorem fd_RX10_313_9 : MFd RX10 313 9 33 := ⟨_, _, _, _, rfl, rfl, by decide, uws_9, wt_820, Or.inl rfl⟩
theorem lkV_RX10_325_yX10_readsWay : MLv RX10 325 RX10 yX10_readsWay cX10_readsWay 4 (some .boolean) 1 := ⟨wt_822, wt_823, wt_824, wt_825, wt_581, rfl, by decide +kernel, by decide +kernel, by decide +kernel⟩
theorem lkV_RX10_334_yX10_lacks : MLv RX10 334 RX10 yX10_lacks cX10_lacks 3 (some .int) 2 := ⟨wt_826, wt_827, wt_828, wt_829, wt_581, rfl, by decide +kernel, by decide +kernel, by decide +kernel⟩
theorem fd_RX10_41_9 : MFd RX10 41 9 23 := ⟨_, _, _, _, rfl, rfl, by decide, uws_9, wt_830, Or.inl rfl⟩
theorem fw_RX10_337_9 : MFw RX10 337 9 35 .boolean := ⟨_, _, _, _, tyX10, rfl, rfl, by decide, uws_9, wt_831, Or.inl rfl, tyX10_ok, nmX10, rfl, by decide +kernel⟩
theorem fd_RX10_51_9 : MFd RX10 51 9 34 := ⟨_, _, _, _, rfl, rfl, by decide, uws_9, wt_832, Or.inl rfl⟩
theorem fd_RX10_337_9 : MFd RX10 337 9 35 := ⟨_, _, _, _, rfl, rfl, by decide, uws_9, wt_831, Or.inl rfl⟩
theorem lkI_RX9_11_yX1_init : MLi RX9 11 yX1_init cX1_init 1 none 0 := ⟨wt_841, wt_842, wt_843, wt_32, rfl, by decide +kernel, by decide +kernel, by decide +kernel⟩
theorem lkJ_RX9_24_yX4_init : MLj RX9 24 "RoundsPerHour" yX4_init cX4_init 1 none 0 := ⟨wt_849, List.mem_of_getElem? (i := 0) rfl, wt_850, wt_102, rfl, by decide +kernel, by decide +kernel, by decide +kernel⟩
theorem lkJ_RX7_3_yX0_init : MLj RX7 3 "RoundsPerHour" yX0_init cX0_init 1 none 0 := ⟨wt_854, List.mem_of_getElem? (i := 14) rfl, wt_855, wt_222, rfl, by decide +kernel, by decide +kernel, by decide +kernel⟩
theorem lkJ_RX7_11_yX2_init : MLj RX7 11 "RoundsPerHour" yX2_init cX2_init 1 none 0 := ⟨wt_859, List.mem_of_getElem? (i := 13) rfl, wt_860, wt_272, rfl, by decide +kernel, by decide +kernel, by decide +kernel⟩
theorem lkJ_RX9_31_yX7_init : MLj RX9 31 "RoundsPerHour" yX7_init cX7_init 1 none 0 := ⟨wt_861, List.mem_of_getElem? (i := 1) rfl, wt_862, wt_215, rfl, by decide +kernel, by decide +kernel, by decide +kernel⟩
theorem lkJ_RX8_3_yX0_init : MLj RX8 3 "RoundsPerHour" yX0_init cX0_init 1 none 0 := ⟨wt_854, List.mem_of_getElem? (i := 15) rfl, wt_855, wt_222, rfl, by decide +kernel, by decide +kernel, by decide +kernel⟩
theorem lkJ_RX9_38_yX8_init : MLj RX9 38 "RoundsPerHour" yX8_init cX8_init 1 none 0 := ⟨wt_865, List.mem_of_getElem? (i := 2) rfl, wt_866, wt_296, rfl, by decide +kernel, by decide +kernel, by decide +kernel⟩
theorem lkJ_RX3_1_yX0_init : MLj RX3 1 "RoundsPerHour" yX0_init cX0_init 1 none 0 := ⟨wt_854, List.mem_of_getElem? (i := 10) rfl, wt_855, wt_222, rfl, by decide +kernel, by decide +kernel, by decide +kernel⟩
theorem lkJ_RX9_45_yX3_init : MLj RX9 45 "RoundsPerHour" yX3_init cX3_init 1 none 0 := ⟨wt_869, List.mem_of_getElem? (i := 3) rfl, wt_870, wt_329, rfl, by decide +kernel, by decide +kernel, by decide +kernel⟩
theorem lkJ_RX9_52_yX2_init : MLj RX9 52 "RoundsPerHour" yX2_init cX2_init 1 none 0 := ⟨wt_859, List.mem_of_getElem? (i := 4) rfl, wt_860, wt_272, rfl, by decide +kernel, by decide +kernel, by decide +kernel⟩
theorem lkJ_RX9_59_yX6_init : MLj RX9 59 "RoundsPerHour" yX6_init cX6_init 1 none 0 := ⟨wt_875, List.mem_of_getElem? (i := 5) rfl, wt_876, wt_445, rfl, by decide +kernel, by decide +kernel, by decide +kernel⟩
theorem lkJ_RX9_74_yX5_init : MLj RX9 74 "RoundsPerHour" yX5_init cX5_init 1 none 0 := ⟨wt_881, List.mem_of_getElem? (i := 6) rfl, wt_882, wt_426, rfl, by decide +kernel, by decide +kernel, by decide +kernel⟩
end
section
/-! ===== constructors (written by gen/gen3.py) ===== -/
theorem dX1_init_0 : decode cX1_init 0 = .ok (.aload_n 0, 1) := by decide +kernel
theorem dX1_init_1 : decode cX1_init 1 = .ok (.invokespecial 3, 3) := by decide +kernel
theorem dX1_init_4 : decode cX1_init 4 = .ok (.aload_n 0, 1) := by decide +kernel
theorem dX1_init_5 : decode cX1_init 5 = .ok (.iconst 2, 1) := by decide +kernel
theorem dX1_init_6 : decode cX1_init 6 = .ok (.putfield 9, 3) := by decide +kernel
theorem dX1_init_9 : decode cX1_init 9 = .ok (.aload_n 0, 1) := by decide +kernel
theorem dX1_init_10 : decode cX1_init 10 = .ok (.bipush 14, 2) := by decide +kernel
theorem dX1_init_12 : decode cX1_init 12 = .ok (.newarray .int, 2) := by decide +kernel
theorem dX1_init_14 : decode cX1_init 14 = .ok (.putfield 15, 3) := by decide +kernel
theorem dX1_init_17 : decode cX1_init 17 = .ok (.aload_n 0, 1) := by decide +kernel
theorem dX1_init_18 : decode cX1_init 18 = .ok (.bipush 14, 2) := by decide +kernel
theorem dX1_init_20 : decode cX1_init 20 = .ok (.newarray .int, 2) := by decide +kernel
theorem dX1_init_22 : decode cX1_init 22 = .ok (.putfield 19, 3) := by decide +kernel
theorem dX1_init_25 : decode cX1_init 25 = .ok (.aload_n 0, 1) := by decide +kernel
theorem dX1_init_26 : decode cX1_init 26 = .ok (.bipush 14, 2) := by decide +kernel
theorem dX1_init_28 : decode cX1_init 28 = .ok (.newarray .int, 2) := by decide +kernel
theorem dX1_init_30 : decode cX1_init 30 = .ok (.putfield 22, 3) := by decide +kernel
theorem dX1_init_33 : decode cX1_init 33 = .ok (.aload_n 0, 1) := by decide +kernel
theorem dX1_init_34 : decode cX1_init 34 = .ok (.bipush 14, 2) := by decide +kernel
theorem dX1_init_36 : decode cX1_init 36 = .ok (.newarray .int, 2) := by decide +kernel
theorem dX1_init_38 : decode cX1_init 38 = .ok (.putfield 25, 3) := by decide +kernel
theorem dX1_init_41 : decode cX1_init 41 = .ok (.aload_n 0, 1) := by decide +kernel
theorem dX1_init_42 : decode cX1_init 42 = .ok (.bipush 14, 2) := by decide +kernel
theorem dX1_init_44 : decode cX1_init 44 = .ok (.newarray .int, 2) := by decide +kernel
theorem dX1_init_46 : decode cX1_init 46 = .ok (.putfield 28, 3) := by decide +kernel
theorem dX1_init_49 : decode cX1_init 49 = .ok (.aload_n 0, 1) := by decide +kernel
theorem dX1_init_50 : decode cX1_init 50 = .ok (.bipush 14, 2) := by decide +kernel
theorem dX1_init_52 : decode cX1_init 52 = .ok (.newarray .int, 2) := by decide +kernel
theorem dX1_init_54 : decode cX1_init 54 = .ok (.putfield 31, 3) := by decide +kernel
theorem dX1_init_57 : decode cX1_init 57 = .ok (.aload_n 0, 1) := by decide +kernel
theorem dX1_init_58 : decode cX1_init 58 = .ok (.bipush 13, 2) := by decide +kernel
theorem dX1_init_60 : decode cX1_init 60 = .ok (.newarray .int, 2) := by decide +kernel
theorem dX1_init_62 : decode cX1_init 62 = .ok (.putfield 34, 3) := by decide +kernel
theorem dX1_init_65 : decode cX1_init 65 = .ok (.aload_n 0, 1) := by decide +kernel
theorem dX1_init_66 : decode cX1_init 66 = .ok (.bipush 13, 2) := by decide +kernel
theorem dX1_init_68 : decode cX1_init 68 = .ok (.newarray .int, 2) := by decide +kernel
theorem dX1_init_70 : decode cX1_init 70 = .ok (.putfield 37, 3) := by decide +kernel
theorem dX1_init_73 : decode cX1_init 73 = .ok (.aload_n 0, 1) := by decide +kernel
theorem dX1_init_74 : decode cX1_init 74 = .ok (.getfield 37, 3) := by decide +kernel
theorem dX1_init_77 : decode cX1_init 77 = .ok (.iconst 0, 1) := by decide +kernel
theorem dX1_init_78 : decode cX1_init 78 = .ok (.iconst 1, 1) := by decide +kernel
theorem dX1_init_79 : decode cX1_init 79 = .ok (.iastore, 1) := by decide +kernel
theorem dX1_init_80 : decode cX1_init 80 = .ok (.return_, 1) := by decide +kernel
theorem dX4_init_0 : decode cX4_init 0 = .ok (.aload_n 0, 1) := by decide +kernel
theorem dX4_init_1 : decode cX4_init 1 = .ok (.invokespecial 3, 3) := by decide +kernel
theorem dX4_init_4 : decode cX4_init 4 = .ok (.aload_n 0, 1) := by decide +kernel
theorem dX4_init_5 : decode cX4_init 5 = .ok (.sipush 1296, 3) := by decide +kernel
theorem dX4_init_8 : decode cX4_init 8 = .ok (.newarray .int, 2) := by decide +kernel
theorem dX4_init_10 : decode cX4_init 10 = .ok (.putfield 9, 3) := by decide +kernel
theorem dX4_init_13 : decode cX4_init 13 = .ok (.aload_n 0, 1) := by decide +kernel
theorem dX4_init_14 : decode cX4_init 14 = .ok (.sipush 1296, 3) := by decide +kernel
theorem dX4_init_17 : decode cX4_init 17 = .ok (.newarray .long, 2) := by decide +kernel
theorem dX4_init_19 : decode cX4_init 19 = .ok (.putfield 15, 3) := by decide +kernel
theorem dX4_init_22 : decode cX4_init 22 = .ok (.aload_n 0, 1) := by decide +kernel
theorem dX4_init_23 : decode cX4_init 23 = .ok (.sipush 1296, 3) := by decide +kernel
theorem dX4_init_26 : decode cX4_init 26 = .ok (.newarray .long, 2) := by decide +kernel
theorem dX4_init_28 : decode cX4_init 28 = .ok (.putfield 19, 3) := by decide +kernel
theorem dX4_init_31 : decode cX4_init 31 = .ok (.aload_n 0, 1) := by decide +kernel
theorem dX4_init_32 : decode cX4_init 32 = .ok (.bipush 6, 2) := by decide +kernel
theorem dX4_init_34 : decode cX4_init 34 = .ok (.newarray .long, 2) := by decide +kernel
theorem dX4_init_36 : decode cX4_init 36 = .ok (.putfield 22, 3) := by decide +kernel
theorem dX4_init_39 : decode cX4_init 39 = .ok (.aload_n 0, 1) := by decide +kernel
theorem dX4_init_40 : decode cX4_init 40 = .ok (.bipush 6, 2) := by decide +kernel
theorem dX4_init_42 : decode cX4_init 42 = .ok (.newarray .boolean, 2) := by decide +kernel
theorem dX4_init_44 : decode cX4_init 44 = .ok (.putfield 25, 3) := by decide +kernel
theorem dX4_init_47 : decode cX4_init 47 = .ok (.aload_n 0, 1) := by decide +kernel
theorem dX4_init_48 : decode cX4_init 48 = .ok (.bipush 6, 2) := by decide +kernel
theorem dX4_init_50 : decode cX4_init 50 = .ok (.newarray .int, 2) := by decide +kernel
theorem dX4_init_52 : decode cX4_init 52 = .ok (.putfield 29, 3) := by decide +kernel
theorem dX4_init_55 : decode cX4_init 55 = .ok (.aload_n 0, 1) := by decide +kernel
theorem dX4_init_56 : decode cX4_init 56 = .ok (.bipush 84, 2) := by decide +kernel
theorem dX4_init_58 : decode cX4_init 58 = .ok (.newarray .int, 2) := by decide +kernel
theorem dX4_init_60 : decode cX4_init 60 = .ok (.putfield 32, 3) := by decide +kernel
theorem dX4_init_63 : decode cX4_init 63 = .ok (.aload_n 0, 1) := by decide +kernel
theorem dX4_init_64 : decode cX4_init 64 = .ok (.bipush 14, 2) := by decide +kernel
theorem dX4_init_66 : decode cX4_init 66 = .ok (.newarray .int, 2) := by decide +kernel
theorem dX4_init_68 : decode cX4_init 68 = .ok (.putfield 35, 3) := by decide +kernel
theorem dX4_init_71 : decode cX4_init 71 = .ok (.aload_n 0, 1) := by decide +kernel
theorem dX4_init_72 : decode cX4_init 72 = .ok (.bipush 14, 2) := by decide +kernel
theorem dX4_init_74 : decode cX4_init 74 = .ok (.newarray .long, 2) := by decide +kernel
theorem dX4_init_76 : decode cX4_init 76 = .ok (.putfield 38, 3) := by decide +kernel
theorem dX4_init_79 : decode cX4_init 79 = .ok (.aload_n 0, 1) := by decide +kernel
theorem dX4_init_80 : decode cX4_init 80 = .ok (.bipush 14, 2) := by decide +kernel
theorem dX4_init_82 : decode cX4_init 82 = .ok (.newarray .long, 2) := by decide +kernel
theorem dX4_init_84 : decode cX4_init 84 = .ok (.putfield 41, 3) := by decide +kernel
theorem dX4_init_87 : decode cX4_init 87 = .ok (.return_, 1) := by decide +kernel
theorem dX0_init_0 : decode cX0_init 0 = .ok (.aload_n 0, 1) := by decide +kernel
theorem dX0_init_1 : decode cX0_init 1 = .ok (.invokespecial 3, 3) := by decide +kernel
theorem dX0_init_4 : decode cX0_init 4 = .ok (.aload_n 0, 1) := by decide +kernel
theorem dX0_init_5 : decode cX0_init 5 = .ok (.bipush 14, 2) := by decide +kernel
theorem dX0_init_7 : decode cX0_init 7 = .ok (.newarray .long, 2) := by decide +kernel
theorem dX0_init_9 : decode cX0_init 9 = .ok (.putfield 9, 3) := by decide +kernel
theorem dX0_init_12 : decode cX0_init 12 = .ok (.aload_n 0, 1) := by decide +kernel
theorem dX0_init_13 : decode cX0_init 13 = .ok (.bipush 14, 2) := by decide +kernel
theorem dX0_init_15 : decode cX0_init 15 = .ok (.newarray .long, 2) := by decide +kernel
theorem dX0_init_17 : decode cX0_init 17 = .ok (.putfield 15, 3) := by decide +kernel
theorem dX0_init_20 : decode cX0_init 20 = .ok (.aload_n 0, 1) := by decide +kernel
theorem dX0_init_21 : decode cX0_init 21 = .ok (.bipush 14, 2) := by decide +kernel
theorem dX0_init_23 : decode cX0_init 23 = .ok (.newarray .long, 2) := by decide +kernel
theorem dX0_init_25 : decode cX0_init 25 = .ok (.putfield 18, 3) := by decide +kernel
theorem dX0_init_28 : decode cX0_init 28 = .ok (.return_, 1) := by decide +kernel
theorem dX2_init_0 : decode cX2_init 0 = .ok (.aload_n 0, 1) := by decide +kernel
theorem dX2_init_1 : decode cX2_init 1 = .ok (.invokespecial 3, 3) := by decide +kernel
theorem dX2_init_4 : decode cX2_init 4 = .ok (.aload_n 0, 1) := by decide +kernel
theorem dX2_init_5 : decode cX2_init 5 = .ok (.bipush 6, 2) := by decide +kernel
theorem dX2_init_7 : decode cX2_init 7 = .ok (.newarray .int, 2) := by decide +kernel
theorem dX2_init_9 : decode cX2_init 9 = .ok (.putfield 9, 3) := by decide +kernel
theorem dX2_init_12 : decode cX2_init 12 = .ok (.return_, 1) := by decide +kernel
theorem dX7_init_0 : decode cX7_init 0 = .ok (.aload_n 0, 1) := by decide +kernel
theorem dX7_init_1 : decode cX7_init 1 = .ok (.invokespecial 3, 3) := by decide +kernel
theorem dX7_init_4 : decode cX7_init 4 = .ok (.aload_n 0, 1) := by decide +kernel
theorem dX7_init_5 : decode cX7_init 5 = .ok (.new 9, 3) := by decide +kernel
theorem dX7_init_8 : decode cX7_init 8 = .ok (.dup, 1) := by decide +kernel
theorem dX7_init_9 : decode cX7_init 9 = .ok (.invokespecial 11, 3) := by decide +kernel
theorem dX7_init_12 : decode cX7_init 12 = .ok (.putfield 12, 3) := by decide +kernel
theorem dX7_init_15 : decode cX7_init 15 = .ok (.return_, 1) := by decide +kernel
theorem dX8_init_0 : decode cX8_init 0 = .ok (.aload_n 0, 1) := by decide +kernel
theorem dX8_init_1 : decode cX8_init 1 = .ok (.invokespecial 3, 3) := by decide +kernel
theorem dX8_init_4 : decode cX8_init 4 = .ok (.aload_n 0, 1) := by decide +kernel
theorem dX8_init_5 : decode cX8_init 5 = .ok (.bipush 6, 2) := by decide +kernel
theorem dX8_init_7 : decode cX8_init 7 = .ok (.newarray .long, 2) := by decide +kernel
theorem dX8_init_9 : decode cX8_init 9 = .ok (.putfield 9, 3) := by decide +kernel
theorem dX8_init_12 : decode cX8_init 12 = .ok (.aload_n 0, 1) := by decide +kernel
theorem dX8_init_13 : decode cX8_init 13 = .ok (.bipush 6, 2) := by decide +kernel
theorem dX8_init_15 : decode cX8_init 15 = .ok (.newarray .int, 2) := by decide +kernel
theorem dX8_init_17 : decode cX8_init 17 = .ok (.putfield 15, 3) := by decide +kernel
theorem dX8_init_20 : decode cX8_init 20 = .ok (.return_, 1) := by decide +kernel
theorem dX3_init_0 : decode cX3_init 0 = .ok (.aload_n 0, 1) := by decide +kernel
theorem dX3_init_1 : decode cX3_init 1 = .ok (.invokespecial 1, 3) := by decide +kernel
theorem dX3_init_4 : decode cX3_init 4 = .ok (.return_, 1) := by decide +kernel
theorem dX6_init_0 : decode cX6_init 0 = .ok (.aload_n 0, 1) := by decide +kernel
theorem dX6_init_1 : decode cX6_init 1 = .ok (.invokespecial 3, 3) := by decide +kernel
theorem dX6_init_4 : decode cX6_init 4 = .ok (.aload_n 0, 1) := by decide +kernel
theorem dX6_init_5 : decode cX6_init 5 = .ok (.bipush 120, 2) := by decide +kernel
theorem dX6_init_7 : decode cX6_init 7 = .ok (.newarray .int, 2) := by decide +kernel
theorem dX6_init_9 : decode cX6_init 9 = .ok (.putfield 9, 3) := by decide +kernel
theorem dX6_init_12 : decode cX6_init 12 = .ok (.return_, 1) := by decide +kernel
theorem dX5_init_0 : decode cX5_init 0 = .ok (.aload_n 0, 1) := by decide +kernel
theorem dX5_init_1 : decode cX5_init 1 = .ok (.invokespecial 3, 3) := by decide +kernel
theorem dX5_init_4 : decode cX5_init 4 = .ok (.aload_n 0, 1) := by decide +kernel
theorem dX5_init_5 : decode cX5_init 5 = .ok (.bipush 40, 2) := by decide +kernel
theorem dX5_init_7 : decode cX5_init 7 = .ok (.newarray .long, 2) := by decide +kernel
theorem dX5_init_9 : decode cX5_init 9 = .ok (.putfield 9, 3) := by decide +kernel
theorem dX5_init_12 : decode cX5_init 12 = .ok (.return_, 1) := by decide +kernel
theorem dX9_init_0 : decode cX9_init 0 = .ok (.aload_n 0, 1) := by decide +kernel
theorem dX9_init_1 : decode cX9_init 1 = .ok (.invokespecial 3, 3) := by decide +kernel
theorem dX9_init_4 : decode cX9_init 4 = .ok (.aload_n 0, 1) := by decide +kernel
theorem dX9_init_5 : decode cX9_init 5 = .ok (.new 9, 3) := by decide +kernel
theorem dX9_init_8 : decode cX9_init 8 = .ok (.dup, 1) := by decide +kernel
theorem dX9_init_9 : decode cX9_init 9 = .ok (.invokespecial 11, 3) := by decide +kernel
theorem dX9_init_12 : decode cX9_init 12 = .ok (.putfield 12, 3) := by decide +kernel
theorem dX9_init_15 : decode cX9_init 15 = .ok (.aload_n 0, 1) := by decide +kernel
theorem dX9_init_16 : decode cX9_init 16 = .ok (.new 9, 3) := by decide +kernel
theorem dX9_init_19 : decode cX9_init 19 = .ok (.dup, 1) := by decide +kernel
theorem dX9_init_20 : decode cX9_init 20 = .ok (.invokespecial 11, 3) := by decide +kernel
theorem dX9_init_23 : decode cX9_init 23 = .ok (.putfield 16, 3) := by decide +kernel
theorem dX9_init_26 : decode cX9_init 26 = .ok (.aload_n 0, 1) := by decide +kernel
theorem dX9_init_27 : decode cX9_init 27 = .ok (.new 9, 3) := by decide +kernel
theorem dX9_init_30 : decode cX9_init 30 = .ok (.dup, 1) := by decide +kernel
theorem dX9_init_31 : decode cX9_init 31 = .ok (.invokespecial 11, 3) := by decide +kernel
theorem dX9_init_34 : decode cX9_init 34 = .ok (.putfield 19, 3) := by decide +kernel
theorem dX9_init_37 : decode cX9_init 37 = .ok (.aload_n 0, 1) := by decide +kernel
theorem dX9_init_38 : decode cX9_init 38 = .ok (.new 22, 3) := by decide +kernel
theorem dX9_init_41 : decode cX9_init 41 = .ok (.dup, 1) := by decide +kernel
theorem dX9_init_42 : decode cX9_init 42 = .ok (.invokespecial 24, 3) := by decide +kernel
theorem dX9_init_45 : decode cX9_init 45 = .ok (.putfield 25, 3) := by decide +kernel
theorem dX9_init_48 : decode cX9_init 48 = .ok (.aload_n 0, 1) := by decide +kernel
theorem dX9_init_49 : decode cX9_init 49 = .ok (.new 29, 3) := by decide +kernel
theorem dX9_init_52 : decode cX9_init 52 = .ok (.dup, 1) := by decide +kernel
theorem dX9_init_53 : decode cX9_init 53 = .ok (.invokespecial 31, 3) := by decide +kernel
theorem dX9_init_56 : decode cX9_init 56 = .ok (.putfield 32, 3) := by decide +kernel
theorem dX9_init_59 : decode cX9_init 59 = .ok (.aload_n 0, 1) := by decide +kernel
theorem dX9_init_60 : decode cX9_init 60 = .ok (.new 36, 3) := by decide +kernel
theorem dX9_init_63 : decode cX9_init 63 = .ok (.dup, 1) := by decide +kernel
theorem dX9_init_64 : decode cX9_init 64 = .ok (.invokespecial 38, 3) := by decide +kernel
theorem dX9_init_67 : decode cX9_init 67 = .ok (.putfield 39, 3) := by decide +kernel
theorem dX9_init_70 : decode cX9_init 70 = .ok (.aload_n 0, 1) := by decide +kernel
theorem dX9_init_71 : decode cX9_init 71 = .ok (.new 43, 3) := by decide +kernel
theorem dX9_init_74 : decode cX9_init 74 = .ok (.dup, 1) := by decide +kernel
theorem dX9_init_75 : decode cX9_init 75 = .ok (.invokespecial 45, 3) := by decide +kernel
theorem dX9_init_78 : decode cX9_init 78 = .ok (.putfield 46, 3) := by decide +kernel
theorem dX9_init_81 : decode cX9_init 81 = .ok (.aload_n 0, 1) := by decide +kernel
theorem dX9_init_82 : decode cX9_init 82 = .ok (.new 50, 3) := by decide +kernel
theorem dX9_init_85 : decode cX9_init 85 = .ok (.dup, 1) := by decide +kernel
theorem dX9_init_86 : decode cX9_init 86 = .ok (.invokespecial 52, 3) := by decide +kernel
theorem dX9_init_89 : decode cX9_init 89 = .ok (.putfield 53, 3) := by decide +kernel
theorem dX9_init_92 : decode cX9_init 92 = .ok (.aload_n 0, 1) := by decide +kernel
theorem dX9_init_93 : decode cX9_init 93 = .ok (.new 57, 3) := by decide +kernel
theorem dX9_init_96 : decode cX9_init 96 = .ok (.dup, 1) := by decide +kernel
theorem dX9_init_97 : decode cX9_init 97 = .ok (.invokespecial 59, 3) := by decide +kernel
theorem dX9_init_100 : decode cX9_init 100 = .ok (.putfield 60, 3) := by decide +kernel
theorem dX9_init_103 : decode cX9_init 103 = .ok (.aload_n 0, 1) := by decide +kernel
theorem dX9_init_104 : decode cX9_init 104 = .ok (.iconst 4, 1) := by decide +kernel
theorem dX9_init_105 : decode cX9_init 105 = .ok (.anewarray 64, 3) := by decide +kernel
theorem dX9_init_108 : decode cX9_init 108 = .ok (.putfield 66, 3) := by decide +kernel
theorem dX9_init_111 : decode cX9_init 111 = .ok (.aload_n 0, 1) := by decide +kernel
theorem dX9_init_112 : decode cX9_init 112 = .ok (.bipush 9, 2) := by decide +kernel
theorem dX9_init_114 : decode cX9_init 114 = .ok (.newarray .int, 2) := by decide +kernel
theorem dX9_init_116 : decode cX9_init 116 = .ok (.putfield 70, 3) := by decide +kernel
theorem dX9_init_119 : decode cX9_init 119 = .ok (.iconst 0, 1) := by decide +kernel
theorem dX9_init_120 : decode cX9_init 120 = .ok (.istore_n 1, 1) := by decide +kernel
theorem dX9_init_121 : decode cX9_init 121 = .ok (.iload_n 1, 1) := by decide +kernel
theorem dX9_init_122 : decode cX9_init 122 = .ok (.iconst 4, 1) := by decide +kernel
theorem dX9_init_123 : decode cX9_init 123 = .ok (.if_icmp .ge 22, 3) := by decide +kernel
theorem dX9_init_126 : decode cX9_init 126 = .ok (.aload_n 0, 1) := by decide +kernel
theorem dX9_init_127 : decode cX9_init 127 = .ok (.getfield 66, 3) := by decide +kernel
theorem dX9_init_130 : decode cX9_init 130 = .ok (.iload_n 1, 1) := by decide +kernel
theorem dX9_init_131 : decode cX9_init 131 = .ok (.new 64, 3) := by decide +kernel
theorem dX9_init_134 : decode cX9_init 134 = .ok (.dup, 1) := by decide +kernel
theorem dX9_init_135 : decode cX9_init 135 = .ok (.invokespecial 74, 3) := by decide +kernel
theorem dX9_init_138 : decode cX9_init 138 = .ok (.aastore, 1) := by decide +kernel
theorem dX9_init_139 : decode cX9_init 139 = .ok (.iinc 1 1, 3) := by decide +kernel
theorem dX9_init_142 : decode cX9_init 142 = .ok (.goto (-21), 3) := by decide +kernel
theorem dX9_init_145 : decode cX9_init 145 = .ok (.return_, 1) := by decide +kernel
theorem dX10_init_0 : decode cX10_init 0 = .ok (.aload_n 0, 1) := by decide +kernel
theorem dX10_init_1 : decode cX10_init 1 = .ok (.invokespecial 3, 3) := by decide +kernel
theorem dX10_init_4 : decode cX10_init 4 = .ok (.aload_n 0, 1) := by decide +kernel
theorem dX10_init_5 : decode cX10_init 5 = .ok (.bipush 9, 2) := by decide +kernel
theorem dX10_init_7 : decode cX10_init 7 = .ok (.newarray .int, 2) := by decide +kernel
theorem dX10_init_9 : decode cX10_init 9 = .ok (.putfield 9, 3) := by decide +kernel
theorem dX10_init_12 : decode cX10_init 12 = .ok (.aload_n 0, 1) := by decide +kernel
theorem dX10_init_13 : decode cX10_init 13 = .ok (.iconst 2, 1) := by decide +kernel
theorem dX10_init_14 : decode cX10_init 14 = .ok (.putfield 15, 3) := by decide +kernel
theorem dX10_init_17 : decode cX10_init 17 = .ok (.aload_n 0, 1) := by decide +kernel
theorem dX10_init_18 : decode cX10_init 18 = .ok (.bipush 84, 2) := by decide +kernel
theorem dX10_init_20 : decode cX10_init 20 = .ok (.newarray .int, 2) := by decide +kernel
theorem dX10_init_22 : decode cX10_init 22 = .ok (.putfield 19, 3) := by decide +kernel
theorem dX10_init_25 : decode cX10_init 25 = .ok (.aload_n 0, 1) := by decide +kernel
theorem dX10_init_26 : decode cX10_init 26 = .ok (.bipush 24, 2) := by decide +kernel
theorem dX10_init_28 : decode cX10_init 28 = .ok (.newarray .int, 2) := by decide +kernel
theorem dX10_init_30 : decode cX10_init 30 = .ok (.putfield 22, 3) := by decide +kernel
theorem dX10_init_33 : decode cX10_init 33 = .ok (.aload_n 0, 1) := by decide +kernel
theorem dX10_init_34 : decode cX10_init 34 = .ok (.iconst 2, 1) := by decide +kernel
theorem dX10_init_35 : decode cX10_init 35 = .ok (.newarray .int, 2) := by decide +kernel
theorem dX10_init_37 : decode cX10_init 37 = .ok (.putfield 25, 3) := by decide +kernel
theorem dX10_init_40 : decode cX10_init 40 = .ok (.aload_n 0, 1) := by decide +kernel
theorem dX10_init_41 : decode cX10_init 41 = .ok (.bipush 6, 2) := by decide +kernel
theorem dX10_init_43 : decode cX10_init 43 = .ok (.newarray .long, 2) := by decide +kernel
theorem dX10_init_45 : decode cX10_init 45 = .ok (.putfield 28, 3) := by decide +kernel
theorem dX10_init_48 : decode cX10_init 48 = .ok (.aload_n 0, 1) := by decide +kernel
theorem dX10_init_49 : decode cX10_init 49 = .ok (.iconst 4, 1) := by decide +kernel
theorem dX10_init_50 : decode cX10_init 50 = .ok (.newarray .int, 2) := by decide +kernel
theorem dX10_init_52 : decode cX10_init 52 = .ok (.putfield 32, 3) := by decide +kernel
theorem dX10_init_55 : decode cX10_init 55 = .ok (.aload_n 0, 1) := by decide +kernel
theorem dX10_init_56 : decode cX10_init 56 = .ok (.iconst 4, 1) := by decide +kernel
theorem dX10_init_57 : decode cX10_init 57 = .ok (.newarray .int, 2) := by decide +kernel
theorem dX10_init_59 : decode cX10_init 59 = .ok (.putfield 35, 3) := by decide +kernel
theorem dX10_init_62 : decode cX10_init 62 = .ok (.aload_n 0, 1) := by decide +kernel
theorem dX10_init_63 : decode cX10_init 63 = .ok (.sipush 160, 3) := by decide +kernel
theorem dX10_init_66 : decode cX10_init 66 = .ok (.newarray .long, 2) := by decide +kernel
theorem dX10_init_68 : decode cX10_init 68 = .ok (.putfield 38, 3) := by decide +kernel
theorem dX10_init_71 : decode cX10_init 71 = .ok (.aload_n 0, 1) := by decide +kernel
theorem dX10_init_72 : decode cX10_init 72 = .ok (.bipush 40, 2) := by decide +kernel
theorem dX10_init_74 : decode cX10_init 74 = .ok (.newarray .long, 2) := by decide +kernel
theorem dX10_init_76 : decode cX10_init 76 = .ok (.putfield 41, 3) := by decide +kernel
theorem dX10_init_79 : decode cX10_init 79 = .ok (.aload_n 0, 1) := by decide +kernel
theorem dX10_init_80 : decode cX10_init 80 = .ok (.bipush 120, 2) := by decide +kernel
theorem dX10_init_82 : decode cX10_init 82 = .ok (.newarray .int, 2) := by decide +kernel
theorem dX10_init_84 : decode cX10_init 84 = .ok (.putfield 44, 3) := by decide +kernel
theorem dX10_init_87 : decode cX10_init 87 = .ok (.aload_n 0, 1) := by decide +kernel
theorem dX10_init_88 : decode cX10_init 88 = .ok (.bipush 104, 2) := by decide +kernel
theorem dX10_init_90 : decode cX10_init 90 = .ok (.newarray .char, 2) := by decide +kernel
theorem dX10_init_92 : decode cX10_init 92 = .ok (.dup, 1) := by decide +kernel
theorem dX10_init_93 : decode cX10_init 93 = .ok (.iconst 0, 1) := by decide +kernel
theorem dX10_init_94 : decode cX10_init 94 = .ok (.bipush 119, 2) := by decide +kernel
theorem dX10_init_96 : decode cX10_init 96 = .ok (.castore, 1) := by decide +kernel
theorem dX10_init_97 : decode cX10_init 97 = .ok (.dup, 1) := by decide +kernel
theorem dX10_init_98 : decode cX10_init 98 = .ok (.iconst 1, 1) := by decide +kernel
theorem dX10_init_99 : decode cX10_init 99 = .ok (.bipush 97, 2) := by decide +kernel
theorem dX10_init_101 : decode cX10_init 101 = .ok (.castore, 1) := by decide +kernel
theorem dX10_init_102 : decode cX10_init 102 = .ok (.dup, 1) := by decide +kernel
theorem dX10_init_103 : decode cX10_init 103 = .ok (.iconst 2, 1) := by decide +kernel
theorem dX10_init_104 : decode cX10_init 104 = .ok (.bipush 121, 2) := by decide +kernel
theorem dX10_init_106 : decode cX10_init 106 = .ok (.castore, 1) := by decide +kernel
theorem dX10_init_107 : decode cX10_init 107 = .ok (.dup, 1) := by decide +kernel
theorem dX10_init_108 : decode cX10_init 108 = .ok (.iconst 3, 1) := by decide +kernel
theorem dX10_init_109 : decode cX10_init 109 = .ok (.bipush 32, 2) := by decide +kernel
theorem dX10_init_111 : decode cX10_init 111 = .ok (.castore, 1) := by decide +kernel
theorem dX10_init_112 : decode cX10_init 112 = .ok (.dup, 1) := by decide +kernel
theorem dX10_init_113 : decode cX10_init 113 = .ok (.iconst 4, 1) := by decide +kernel
theorem dX10_init_114 : decode cX10_init 114 = .ok (.bipush 32, 2) := by decide +kernel
theorem dX10_init_116 : decode cX10_init 116 = .ok (.castore, 1) := by decide +kernel
theorem dX10_init_117 : decode cX10_init 117 = .ok (.dup, 1) := by decide +kernel
theorem dX10_init_118 : decode cX10_init 118 = .ok (.iconst 5, 1) := by decide +kernel
theorem dX10_init_119 : decode cX10_init 119 = .ok (.bipush 32, 2) := by decide +kernel
theorem dX10_init_121 : decode cX10_init 121 = .ok (.castore, 1) := by decide +kernel
theorem dX10_init_122 : decode cX10_init 122 = .ok (.dup, 1) := by decide +kernel
theorem dX10_init_123 : decode cX10_init 123 = .ok (.bipush 6, 2) := by decide +kernel
theorem dX10_init_125 : decode cX10_init 125 = .ok (.bipush 32, 2) := by decide +kernel
theorem dX10_init_127 : decode cX10_init 127 = .ok (.castore, 1) := by decide +kernel
theorem dX10_init_128 : decode cX10_init 128 = .ok (.dup, 1) := by decide +kernel
theorem dX10_init_129 : decode cX10_init 129 = .ok (.bipush 7, 2) := by decide +kernel
theorem dX10_init_131 : decode cX10_init 131 = .ok (.bipush 32, 2) := by decide +kernel
theorem dX10_init_133 : decode cX10_init 133 = .ok (.castore, 1) := by decide +kernel
theorem dX10_init_134 : decode cX10_init 134 = .ok (.dup, 1) := by decide +kernel
theorem dX10_init_135 : decode cX10_init 135 = .ok (.bipush 8, 2) := by decide +kernel
theorem dX10_init_137 : decode cX10_init 137 = .ok (.bipush 116, 2) := by decide +kernel
theorem dX10_init_139 : decode cX10_init 139 = .ok (.castore, 1) := by decide +kernel
theorem dX10_init_140 : decode cX10_init 140 = .ok (.dup, 1) := by decide +kernel
theorem dX10_init_141 : decode cX10_init 141 = .ok (.bipush 9, 2) := by decide +kernel
theorem dX10_init_143 : decode cX10_init 143 = .ok (.bipush 111, 2) := by decide +kernel
theorem dX10_init_145 : decode cX10_init 145 = .ok (.castore, 1) := by decide +kernel
theorem dX10_init_146 : decode cX10_init 146 = .ok (.dup, 1) := by decide +kernel
theorem dX10_init_147 : decode cX10_init 147 = .ok (.bipush 10, 2) := by decide +kernel
theorem dX10_init_149 : decode cX10_init 149 = .ok (.bipush 108, 2) := by decide +kernel
theorem dX10_init_151 : decode cX10_init 151 = .ok (.castore, 1) := by decide +kernel
theorem dX10_init_152 : decode cX10_init 152 = .ok (.dup, 1) := by decide +kernel
theorem dX10_init_153 : decode cX10_init 153 = .ok (.bipush 11, 2) := by decide +kernel
theorem dX10_init_155 : decode cX10_init 155 = .ok (.bipush 108, 2) := by decide +kernel
theorem dX10_init_157 : decode cX10_init 157 = .ok (.castore, 1) := by decide +kernel
theorem dX10_init_158 : decode cX10_init 158 = .ok (.dup, 1) := by decide +kernel
theorem dX10_init_159 : decode cX10_init 159 = .ok (.bipush 12, 2) := by decide +kernel
theorem dX10_init_161 : decode cX10_init 161 = .ok (.bipush 32, 2) := by decide +kernel
theorem dX10_init_163 : decode cX10_init 163 = .ok (.castore, 1) := by decide +kernel
theorem dX10_init_164 : decode cX10_init 164 = .ok (.dup, 1) := by decide +kernel
theorem dX10_init_165 : decode cX10_init 165 = .ok (.bipush 13, 2) := by decide +kernel
theorem dX10_init_167 : decode cX10_init 167 = .ok (.bipush 32, 2) := by decide +kernel
theorem dX10_init_169 : decode cX10_init 169 = .ok (.castore, 1) := by decide +kernel
theorem dX10_init_170 : decode cX10_init 170 = .ok (.dup, 1) := by decide +kernel
theorem dX10_init_171 : decode cX10_init 171 = .ok (.bipush 14, 2) := by decide +kernel
theorem dX10_init_173 : decode cX10_init 173 = .ok (.bipush 32, 2) := by decide +kernel
theorem dX10_init_175 : decode cX10_init 175 = .ok (.castore, 1) := by decide +kernel
theorem dX10_init_176 : decode cX10_init 176 = .ok (.dup, 1) := by decide +kernel
theorem dX10_init_177 : decode cX10_init 177 = .ok (.bipush 15, 2) := by decide +kernel
theorem dX10_init_179 : decode cX10_init 179 = .ok (.bipush 32, 2) := by decide +kernel
theorem dX10_init_181 : decode cX10_init 181 = .ok (.castore, 1) := by decide +kernel
theorem dX10_init_182 : decode cX10_init 182 = .ok (.dup, 1) := by decide +kernel
theorem dX10_init_183 : decode cX10_init 183 = .ok (.bipush 16, 2) := by decide +kernel
theorem dX10_init_185 : decode cX10_init 185 = .ok (.bipush 102, 2) := by decide +kernel
theorem dX10_init_187 : decode cX10_init 187 = .ok (.castore, 1) := by decide +kernel
theorem dX10_init_188 : decode cX10_init 188 = .ok (.dup, 1) := by decide +kernel
theorem dX10_init_189 : decode cX10_init 189 = .ok (.bipush 17, 2) := by decide +kernel
theorem dX10_init_191 : decode cX10_init 191 = .ok (.bipush 111, 2) := by decide +kernel
theorem dX10_init_193 : decode cX10_init 193 = .ok (.castore, 1) := by decide +kernel
theorem dX10_init_194 : decode cX10_init 194 = .ok (.dup, 1) := by decide +kernel
theorem dX10_init_195 : decode cX10_init 195 = .ok (.bipush 18, 2) := by decide +kernel
theorem dX10_init_197 : decode cX10_init 197 = .ok (.bipush 114, 2) := by decide +kernel
theorem dX10_init_199 : decode cX10_init 199 = .ok (.castore, 1) := by decide +kernel
theorem dX10_init_200 : decode cX10_init 200 = .ok (.dup, 1) := by decide +kernel
theorem dX10_init_201 : decode cX10_init 201 = .ok (.bipush 19, 2) := by decide +kernel
theorem dX10_init_203 : decode cX10_init 203 = .ok (.bipush 100, 2) := by decide +kernel
theorem dX10_init_205 : decode cX10_init 205 = .ok (.castore, 1) := by decide +kernel
theorem dX10_init_206 : decode cX10_init 206 = .ok (.dup, 1) := by decide +kernel
theorem dX10_init_207 : decode cX10_init 207 = .ok (.bipush 20, 2) := by decide +kernel
theorem dX10_init_209 : decode cX10_init 209 = .ok (.bipush 32, 2) := by decide +kernel
theorem dX10_init_211 : decode cX10_init 211 = .ok (.castore, 1) := by decide +kernel
theorem dX10_init_212 : decode cX10_init 212 = .ok (.dup, 1) := by decide +kernel
theorem dX10_init_213 : decode cX10_init 213 = .ok (.bipush 21, 2) := by decide +kernel
theorem dX10_init_215 : decode cX10_init 215 = .ok (.bipush 32, 2) := by decide +kernel
theorem dX10_init_217 : decode cX10_init 217 = .ok (.castore, 1) := by decide +kernel
theorem dX10_init_218 : decode cX10_init 218 = .ok (.dup, 1) := by decide +kernel
theorem dX10_init_219 : decode cX10_init 219 = .ok (.bipush 22, 2) := by decide +kernel
theorem dX10_init_221 : decode cX10_init 221 = .ok (.bipush 32, 2) := by decide +kernel
theorem dX10_init_223 : decode cX10_init 223 = .ok (.castore, 1) := by decide +kernel
theorem dX10_init_224 : decode cX10_init 224 = .ok (.dup, 1) := by decide +kernel
theorem dX10_init_225 : decode cX10_init 225 = .ok (.bipush 23, 2) := by decide +kernel
theorem dX10_init_227 : decode cX10_init 227 = .ok (.bipush 32, 2) := by decide +kernel
theorem dX10_init_229 : decode cX10_init 229 = .ok (.castore, 1) := by decide +kernel
theorem dX10_init_230 : decode cX10_init 230 = .ok (.dup, 1) := by decide +kernel
theorem dX10_init_231 : decode cX10_init 231 = .ok (.bipush 24, 2) := by decide +kernel
theorem dX10_init_233 : decode cX10_init 233 = .ok (.bipush 98, 2) := by decide +kernel
theorem dX10_init_235 : decode cX10_init 235 = .ok (.castore, 1) := by decide +kernel
theorem dX10_init_236 : decode cX10_init 236 = .ok (.dup, 1) := by decide +kernel
theorem dX10_init_237 : decode cX10_init 237 = .ok (.bipush 25, 2) := by decide +kernel
theorem dX10_init_239 : decode cX10_init 239 = .ok (.bipush 114, 2) := by decide +kernel
theorem dX10_init_241 : decode cX10_init 241 = .ok (.castore, 1) := by decide +kernel
theorem dX10_init_242 : decode cX10_init 242 = .ok (.dup, 1) := by decide +kernel
theorem dX10_init_243 : decode cX10_init 243 = .ok (.bipush 26, 2) := by decide +kernel
theorem dX10_init_245 : decode cX10_init 245 = .ok (.bipush 105, 2) := by decide +kernel
theorem dX10_init_247 : decode cX10_init 247 = .ok (.castore, 1) := by decide +kernel
theorem dX10_init_248 : decode cX10_init 248 = .ok (.dup, 1) := by decide +kernel
theorem dX10_init_249 : decode cX10_init 249 = .ok (.bipush 27, 2) := by decide +kernel
theorem dX10_init_251 : decode cX10_init 251 = .ok (.bipush 100, 2) := by decide +kernel
theorem dX10_init_253 : decode cX10_init 253 = .ok (.castore, 1) := by decide +kernel
theorem dX10_init_254 : decode cX10_init 254 = .ok (.dup, 1) := by decide +kernel
theorem dX10_init_255 : decode cX10_init 255 = .ok (.bipush 28, 2) := by decide +kernel
theorem dX10_init_257 : decode cX10_init 257 = .ok (.bipush 103, 2) := by decide +kernel
theorem dX10_init_259 : decode cX10_init 259 = .ok (.castore, 1) := by decide +kernel
theorem dX10_init_260 : decode cX10_init 260 = .ok (.dup, 1) := by decide +kernel
theorem dX10_init_261 : decode cX10_init 261 = .ok (.bipush 29, 2) := by decide +kernel
theorem dX10_init_263 : decode cX10_init 263 = .ok (.bipush 101, 2) := by decide +kernel
theorem dX10_init_265 : decode cX10_init 265 = .ok (.castore, 1) := by decide +kernel
theorem dX10_init_266 : decode cX10_init 266 = .ok (.dup, 1) := by decide +kernel
theorem dX10_init_267 : decode cX10_init 267 = .ok (.bipush 30, 2) := by decide +kernel
theorem dX10_init_269 : decode cX10_init 269 = .ok (.bipush 32, 2) := by decide +kernel
theorem dX10_init_271 : decode cX10_init 271 = .ok (.castore, 1) := by decide +kernel
theorem dX10_init_272 : decode cX10_init 272 = .ok (.dup, 1) := by decide +kernel
theorem dX10_init_273 : decode cX10_init 273 = .ok (.bipush 31, 2) := by decide +kernel
theorem dX10_init_275 : decode cX10_init 275 = .ok (.bipush 32, 2) := by decide +kernel
theorem dX10_init_277 : decode cX10_init 277 = .ok (.castore, 1) := by decide +kernel
theorem dX10_init_278 : decode cX10_init 278 = .ok (.dup, 1) := by decide +kernel
theorem dX10_init_279 : decode cX10_init 279 = .ok (.bipush 32, 2) := by decide +kernel
theorem dX10_init_281 : decode cX10_init 281 = .ok (.bipush 109, 2) := by decide +kernel
theorem dX10_init_283 : decode cX10_init 283 = .ok (.castore, 1) := by decide +kernel
theorem dX10_init_284 : decode cX10_init 284 = .ok (.dup, 1) := by decide +kernel
theorem dX10_init_285 : decode cX10_init 285 = .ok (.bipush 33, 2) := by decide +kernel
theorem dX10_init_287 : decode cX10_init 287 = .ok (.bipush 105, 2) := by decide +kernel
theorem dX10_init_289 : decode cX10_init 289 = .ok (.castore, 1) := by decide +kernel
theorem dX10_init_290 : decode cX10_init 290 = .ok (.dup, 1) := by decide +kernel
theorem dX10_init_291 : decode cX10_init 291 = .ok (.bipush 34, 2) := by decide +kernel
theorem dX10_init_293 : decode cX10_init 293 = .ok (.bipush 114, 2) := by decide +kernel
theorem dX10_init_295 : decode cX10_init 295 = .ok (.castore, 1) := by decide +kernel
theorem dX10_init_296 : decode cX10_init 296 = .ok (.dup, 1) := by decide +kernel
theorem dX10_init_297 : decode cX10_init 297 = .ok (.bipush 35, 2) := by decide +kernel
theorem dX10_init_299 : decode cX10_init 299 = .ok (.bipush 101, 2) := by decide +kernel
theorem dX10_init_301 : decode cX10_init 301 = .ok (.castore, 1) := by decide +kernel
theorem dX10_init_302 : decode cX10_init 302 = .ok (.dup, 1) := by decide +kernel
theorem dX10_init_303 : decode cX10_init 303 = .ok (.bipush 36, 2) := by decide +kernel
theorem dX10_init_305 : decode cX10_init 305 = .ok (.bipush 32, 2) := by decide +kernel
theorem dX10_init_307 : decode cX10_init 307 = .ok (.castore, 1) := by decide +kernel
theorem dX10_init_308 : decode cX10_init 308 = .ok (.dup, 1) := by decide +kernel
theorem dX10_init_309 : decode cX10_init 309 = .ok (.bipush 37, 2) := by decide +kernel
theorem dX10_init_311 : decode cX10_init 311 = .ok (.bipush 32, 2) := by decide +kernel
theorem dX10_init_313 : decode cX10_init 313 = .ok (.castore, 1) := by decide +kernel
theorem dX10_init_314 : decode cX10_init 314 = .ok (.dup, 1) := by decide +kernel
theorem dX10_init_315 : decode cX10_init 315 = .ok (.bipush 38, 2) := by decide +kernel
theorem dX10_init_317 : decode cX10_init 317 = .ok (.bipush 32, 2) := by decide +kernel
theorem dX10_init_319 : decode cX10_init 319 = .ok (.castore, 1) := by decide +kernel
theorem dX10_init_320 : decode cX10_init 320 = .ok (.dup, 1) := by decide +kernel
theorem dX10_init_321 : decode cX10_init 321 = .ok (.bipush 39, 2) := by decide +kernel
theorem dX10_init_323 : decode cX10_init 323 = .ok (.bipush 32, 2) := by decide +kernel
theorem dX10_init_325 : decode cX10_init 325 = .ok (.castore, 1) := by decide +kernel
theorem dX10_init_326 : decode cX10_init 326 = .ok (.dup, 1) := by decide +kernel
theorem dX10_init_327 : decode cX10_init 327 = .ok (.bipush 40, 2) := by decide +kernel
theorem dX10_init_329 : decode cX10_init 329 = .ok (.bipush 115, 2) := by decide +kernel
theorem dX10_init_331 : decode cX10_init 331 = .ok (.castore, 1) := by decide +kernel
theorem dX10_init_332 : decode cX10_init 332 = .ok (.dup, 1) := by decide +kernel
theorem dX10_init_333 : decode cX10_init 333 = .ok (.bipush 41, 2) := by decide +kernel
theorem dX10_init_335 : decode cX10_init 335 = .ok (.bipush 116, 2) := by decide +kernel
theorem dX10_init_337 : decode cX10_init 337 = .ok (.castore, 1) := by decide +kernel
theorem dX10_init_338 : decode cX10_init 338 = .ok (.dup, 1) := by decide +kernel
theorem dX10_init_339 : decode cX10_init 339 = .ok (.bipush 42, 2) := by decide +kernel
theorem dX10_init_341 : decode cX10_init 341 = .ok (.bipush 97, 2) := by decide +kernel
theorem dX10_init_343 : decode cX10_init 343 = .ok (.castore, 1) := by decide +kernel
theorem dX10_init_344 : decode cX10_init 344 = .ok (.dup, 1) := by decide +kernel
theorem dX10_init_345 : decode cX10_init 345 = .ok (.bipush 43, 2) := by decide +kernel
theorem dX10_init_347 : decode cX10_init 347 = .ok (.bipush 105, 2) := by decide +kernel
theorem dX10_init_349 : decode cX10_init 349 = .ok (.castore, 1) := by decide +kernel
theorem dX10_init_350 : decode cX10_init 350 = .ok (.dup, 1) := by decide +kernel
theorem dX10_init_351 : decode cX10_init 351 = .ok (.bipush 44, 2) := by decide +kernel
theorem dX10_init_353 : decode cX10_init 353 = .ok (.bipush 114, 2) := by decide +kernel
theorem dX10_init_355 : decode cX10_init 355 = .ok (.castore, 1) := by decide +kernel
theorem dX10_init_356 : decode cX10_init 356 = .ok (.dup, 1) := by decide +kernel
theorem dX10_init_357 : decode cX10_init 357 = .ok (.bipush 45, 2) := by decide +kernel
theorem dX10_init_359 : decode cX10_init 359 = .ok (.bipush 32, 2) := by decide +kernel
theorem dX10_init_361 : decode cX10_init 361 = .ok (.castore, 1) := by decide +kernel
theorem dX10_init_362 : decode cX10_init 362 = .ok (.dup, 1) := by decide +kernel
theorem dX10_init_363 : decode cX10_init 363 = .ok (.bipush 46, 2) := by decide +kernel
theorem dX10_init_365 : decode cX10_init 365 = .ok (.bipush 32, 2) := by decide +kernel
theorem dX10_init_367 : decode cX10_init 367 = .ok (.castore, 1) := by decide +kernel
theorem dX10_init_368 : decode cX10_init 368 = .ok (.dup, 1) := by decide +kernel
theorem dX10_init_369 : decode cX10_init 369 = .ok (.bipush 47, 2) := by decide +kernel
theorem dX10_init_371 : decode cX10_init 371 = .ok (.bipush 32, 2) := by decide +kernel
theorem dX10_init_373 : decode cX10_init 373 = .ok (.castore, 1) := by decide +kernel
theorem dX10_init_374 : decode cX10_init 374 = .ok (.dup, 1) := by decide +kernel
theorem dX10_init_375 : decode cX10_init 375 = .ok (.bipush 48, 2) := by decide +kernel
theorem dX10_init_377 : decode cX10_init 377 = .ok (.bipush 116, 2) := by decide +kernel
theorem dX10_init_379 : decode cX10_init 379 = .ok (.castore, 1) := by decide +kernel
theorem dX10_init_380 : decode cX10_init 380 = .ok (.dup, 1) := by decide +kernel
theorem dX10_init_381 : decode cX10_init 381 = .ok (.bipush 49, 2) := by decide +kernel
theorem dX10_init_383 : decode cX10_init 383 = .ok (.bipush 104, 2) := by decide +kernel
theorem dX10_init_385 : decode cX10_init 385 = .ok (.castore, 1) := by decide +kernel
theorem dX10_init_386 : decode cX10_init 386 = .ok (.dup, 1) := by decide +kernel
theorem dX10_init_387 : decode cX10_init 387 = .ok (.bipush 50, 2) := by decide +kernel
theorem dX10_init_389 : decode cX10_init 389 = .ok (.bipush 105, 2) := by decide +kernel
theorem dX10_init_391 : decode cX10_init 391 = .ok (.castore, 1) := by decide +kernel
theorem dX10_init_392 : decode cX10_init 392 = .ok (.dup, 1) := by decide +kernel
theorem dX10_init_393 : decode cX10_init 393 = .ok (.bipush 51, 2) := by decide +kernel
theorem dX10_init_395 : decode cX10_init 395 = .ok (.bipush 110, 2) := by decide +kernel
theorem dX10_init_397 : decode cX10_init 397 = .ok (.castore, 1) := by decide +kernel
theorem dX10_init_398 : decode cX10_init 398 = .ok (.dup, 1) := by decide +kernel
theorem dX10_init_399 : decode cX10_init 399 = .ok (.bipush 52, 2) := by decide +kernel
theorem dX10_init_401 : decode cX10_init 401 = .ok (.bipush 103, 2) := by decide +kernel
theorem dX10_init_403 : decode cX10_init 403 = .ok (.castore, 1) := by decide +kernel
theorem dX10_init_404 : decode cX10_init 404 = .ok (.dup, 1) := by decide +kernel
theorem dX10_init_405 : decode cX10_init 405 = .ok (.bipush 53, 2) := by decide +kernel
theorem dX10_init_407 : decode cX10_init 407 = .ok (.bipush 32, 2) := by decide +kernel
theorem dX10_init_409 : decode cX10_init 409 = .ok (.castore, 1) := by decide +kernel
theorem dX10_init_410 : decode cX10_init 410 = .ok (.dup, 1) := by decide +kernel
theorem dX10_init_411 : decode cX10_init 411 = .ok (.bipush 54, 2) := by decide +kernel
theorem dX10_init_413 : decode cX10_init 413 = .ok (.bipush 32, 2) := by decide +kernel
theorem dX10_init_415 : decode cX10_init 415 = .ok (.castore, 1) := by decide +kernel
theorem dX10_init_416 : decode cX10_init 416 = .ok (.dup, 1) := by decide +kernel
theorem dX10_init_417 : decode cX10_init 417 = .ok (.bipush 55, 2) := by decide +kernel
theorem dX10_init_419 : decode cX10_init 419 = .ok (.bipush 32, 2) := by decide +kernel
theorem dX10_init_421 : decode cX10_init 421 = .ok (.castore, 1) := by decide +kernel
theorem dX10_init_422 : decode cX10_init 422 = .ok (.dup, 1) := by decide +kernel
theorem dX10_init_423 : decode cX10_init 423 = .ok (.bipush 56, 2) := by decide +kernel
theorem dX10_init_425 : decode cX10_init 425 = .ok (.bipush 112, 2) := by decide +kernel
theorem dX10_init_427 : decode cX10_init 427 = .ok (.castore, 1) := by decide +kernel
theorem dX10_init_428 : decode cX10_init 428 = .ok (.dup, 1) := by decide +kernel
theorem dX10_init_429 : decode cX10_init 429 = .ok (.bipush 57, 2) := by decide +kernel
theorem dX10_init_431 : decode cX10_init 431 = .ok (.bipush 108, 2) := by decide +kernel
theorem dX10_init_433 : decode cX10_init 433 = .ok (.castore, 1) := by decide +kernel
theorem dX10_init_434 : decode cX10_init 434 = .ok (.dup, 1) := by decide +kernel
theorem dX10_init_435 : decode cX10_init 435 = .ok (.bipush 58, 2) := by decide +kernel
theorem dX10_init_437 : decode cX10_init 437 = .ok (.bipush 97, 2) := by decide +kernel
theorem dX10_init_439 : decode cX10_init 439 = .ok (.castore, 1) := by decide +kernel
theorem dX10_init_440 : decode cX10_init 440 = .ok (.dup, 1) := by decide +kernel
theorem dX10_init_441 : decode cX10_init 441 = .ok (.bipush 59, 2) := by decide +kernel
theorem dX10_init_443 : decode cX10_init 443 = .ok (.bipush 99, 2) := by decide +kernel
theorem dX10_init_445 : decode cX10_init 445 = .ok (.castore, 1) := by decide +kernel
theorem dX10_init_446 : decode cX10_init 446 = .ok (.dup, 1) := by decide +kernel
theorem dX10_init_447 : decode cX10_init 447 = .ok (.bipush 60, 2) := by decide +kernel
theorem dX10_init_449 : decode cX10_init 449 = .ok (.bipush 101, 2) := by decide +kernel
theorem dX10_init_451 : decode cX10_init 451 = .ok (.castore, 1) := by decide +kernel
theorem dX10_init_452 : decode cX10_init 452 = .ok (.dup, 1) := by decide +kernel
theorem dX10_init_453 : decode cX10_init 453 = .ok (.bipush 61, 2) := by decide +kernel
theorem dX10_init_455 : decode cX10_init 455 = .ok (.bipush 115, 2) := by decide +kernel
theorem dX10_init_457 : decode cX10_init 457 = .ok (.castore, 1) := by decide +kernel
theorem dX10_init_458 : decode cX10_init 458 = .ok (.dup, 1) := by decide +kernel
theorem dX10_init_459 : decode cX10_init 459 = .ok (.bipush 62, 2) := by decide +kernel
theorem dX10_init_461 : decode cX10_init 461 = .ok (.bipush 32, 2) := by decide +kernel
theorem dX10_init_463 : decode cX10_init 463 = .ok (.castore, 1) := by decide +kernel
theorem dX10_init_464 : decode cX10_init 464 = .ok (.dup, 1) := by decide +kernel
theorem dX10_init_465 : decode cX10_init 465 = .ok (.bipush 63, 2) := by decide +kernel
theorem dX10_init_467 : decode cX10_init 467 = .ok (.bipush 32, 2) := by decide +kernel
theorem dX10_init_469 : decode cX10_init 469 = .ok (.castore, 1) := by decide +kernel
theorem dX10_init_470 : decode cX10_init 470 = .ok (.dup, 1) := by decide +kernel
theorem dX10_init_471 : decode cX10_init 471 = .ok (.bipush 64, 2) := by decide +kernel
theorem dX10_init_473 : decode cX10_init 473 = .ok (.bipush 119, 2) := by decide +kernel
theorem dX10_init_475 : decode cX10_init 475 = .ok (.castore, 1) := by decide +kernel
theorem dX10_init_476 : decode cX10_init 476 = .ok (.dup, 1) := by decide +kernel
theorem dX10_init_477 : decode cX10_init 477 = .ok (.bipush 65, 2) := by decide +kernel
theorem dX10_init_479 : decode cX10_init 479 = .ok (.bipush 101, 2) := by decide +kernel
theorem dX10_init_481 : decode cX10_init 481 = .ok (.castore, 1) := by decide +kernel
theorem dX10_init_482 : decode cX10_init 482 = .ok (.dup, 1) := by decide +kernel
theorem dX10_init_483 : decode cX10_init 483 = .ok (.bipush 66, 2) := by decide +kernel
theorem dX10_init_485 : decode cX10_init 485 = .ok (.bipush 97, 2) := by decide +kernel
theorem dX10_init_487 : decode cX10_init 487 = .ok (.castore, 1) := by decide +kernel
theorem dX10_init_488 : decode cX10_init 488 = .ok (.dup, 1) := by decide +kernel
theorem dX10_init_489 : decode cX10_init 489 = .ok (.bipush 67, 2) := by decide +kernel
theorem dX10_init_491 : decode cX10_init 491 = .ok (.bipush 116, 2) := by decide +kernel
theorem dX10_init_493 : decode cX10_init 493 = .ok (.castore, 1) := by decide +kernel
theorem dX10_init_494 : decode cX10_init 494 = .ok (.dup, 1) := by decide +kernel
theorem dX10_init_495 : decode cX10_init 495 = .ok (.bipush 68, 2) := by decide +kernel
theorem dX10_init_497 : decode cX10_init 497 = .ok (.bipush 104, 2) := by decide +kernel
theorem dX10_init_499 : decode cX10_init 499 = .ok (.castore, 1) := by decide +kernel
theorem dX10_init_500 : decode cX10_init 500 = .ok (.dup, 1) := by decide +kernel
theorem dX10_init_501 : decode cX10_init 501 = .ok (.bipush 69, 2) := by decide +kernel
theorem dX10_init_503 : decode cX10_init 503 = .ok (.bipush 101, 2) := by decide +kernel
theorem dX10_init_505 : decode cX10_init 505 = .ok (.castore, 1) := by decide +kernel
theorem dX10_init_506 : decode cX10_init 506 = .ok (.dup, 1) := by decide +kernel
theorem dX10_init_507 : decode cX10_init 507 = .ok (.bipush 70, 2) := by decide +kernel
theorem dX10_init_509 : decode cX10_init 509 = .ok (.bipush 114, 2) := by decide +kernel
theorem dX10_init_511 : decode cX10_init 511 = .ok (.castore, 1) := by decide +kernel
theorem dX10_init_512 : decode cX10_init 512 = .ok (.dup, 1) := by decide +kernel
theorem dX10_init_513 : decode cX10_init 513 = .ok (.bipush 71, 2) := by decide +kernel
theorem dX10_init_515 : decode cX10_init 515 = .ok (.bipush 32, 2) := by decide +kernel
theorem dX10_init_517 : decode cX10_init 517 = .ok (.castore, 1) := by decide +kernel
theorem dX10_init_518 : decode cX10_init 518 = .ok (.dup, 1) := by decide +kernel
theorem dX10_init_519 : decode cX10_init 519 = .ok (.bipush 72, 2) := by decide +kernel
theorem dX10_init_521 : decode cX10_init 521 = .ok (.bipush 103, 2) := by decide +kernel
theorem dX10_init_523 : decode cX10_init 523 = .ok (.castore, 1) := by decide +kernel
theorem dX10_init_524 : decode cX10_init 524 = .ok (.dup, 1) := by decide +kernel
theorem dX10_init_525 : decode cX10_init 525 = .ok (.bipush 73, 2) := by decide +kernel
theorem dX10_init_527 : decode cX10_init 527 = .ok (.bipush 97, 2) := by decide +kernel
theorem dX10_init_529 : decode cX10_init 529 = .ok (.castore, 1) := by decide +kernel
theorem dX10_init_530 : decode cX10_init 530 = .ok (.dup, 1) := by decide +kernel
theorem dX10_init_531 : decode cX10_init 531 = .ok (.bipush 74, 2) := by decide +kernel
theorem dX10_init_533 : decode cX10_init 533 = .ok (.bipush 105, 2) := by decide +kernel
theorem dX10_init_535 : decode cX10_init 535 = .ok (.castore, 1) := by decide +kernel
theorem dX10_init_536 : decode cX10_init 536 = .ok (.dup, 1) := by decide +kernel
theorem dX10_init_537 : decode cX10_init 537 = .ok (.bipush 75, 2) := by decide +kernel
theorem dX10_init_539 : decode cX10_init 539 = .ok (.bipush 110, 2) := by decide +kernel
theorem dX10_init_541 : decode cX10_init 541 = .ok (.castore, 1) := by decide +kernel
theorem dX10_init_542 : decode cX10_init 542 = .ok (.dup, 1) := by decide +kernel
theorem dX10_init_543 : decode cX10_init 543 = .ok (.bipush 76, 2) := by decide +kernel
theorem dX10_init_545 : decode cX10_init 545 = .ok (.bipush 32, 2) := by decide +kernel
theorem dX10_init_547 : decode cX10_init 547 = .ok (.castore, 1) := by decide +kernel
theorem dX10_init_548 : decode cX10_init 548 = .ok (.dup, 1) := by decide +kernel
theorem dX10_init_549 : decode cX10_init 549 = .ok (.bipush 77, 2) := by decide +kernel
theorem dX10_init_551 : decode cX10_init 551 = .ok (.bipush 32, 2) := by decide +kernel
theorem dX10_init_553 : decode cX10_init 553 = .ok (.castore, 1) := by decide +kernel
theorem dX10_init_554 : decode cX10_init 554 = .ok (.dup, 1) := by decide +kernel
theorem dX10_init_555 : decode cX10_init 555 = .ok (.bipush 78, 2) := by decide +kernel
theorem dX10_init_557 : decode cX10_init 557 = .ok (.bipush 32, 2) := by decide +kernel
theorem dX10_init_559 : decode cX10_init 559 = .ok (.castore, 1) := by decide +kernel
theorem dX10_init_560 : decode cX10_init 560 = .ok (.dup, 1) := by decide +kernel
theorem dX10_init_561 : decode cX10_init 561 = .ok (.bipush 79, 2) := by decide +kernel
theorem dX10_init_563 : decode cX10_init 563 = .ok (.bipush 32, 2) := by decide +kernel
theorem dX10_init_565 : decode cX10_init 565 = .ok (.castore, 1) := by decide +kernel
theorem dX10_init_566 : decode cX10_init 566 = .ok (.dup, 1) := by decide +kernel
theorem dX10_init_567 : decode cX10_init 567 = .ok (.bipush 80, 2) := by decide +kernel
theorem dX10_init_569 : decode cX10_init 569 = .ok (.bipush 108, 2) := by decide +kernel
theorem dX10_init_571 : decode cX10_init 571 = .ok (.castore, 1) := by decide +kernel
theorem dX10_init_572 : decode cX10_init 572 = .ok (.dup, 1) := by decide +kernel
theorem dX10_init_573 : decode cX10_init 573 = .ok (.bipush 81, 2) := by decide +kernel
theorem dX10_init_575 : decode cX10_init 575 = .ok (.bipush 111, 2) := by decide +kernel
theorem dX10_init_577 : decode cX10_init 577 = .ok (.castore, 1) := by decide +kernel
theorem dX10_init_578 : decode cX10_init 578 = .ok (.dup, 1) := by decide +kernel
theorem dX10_init_579 : decode cX10_init 579 = .ok (.bipush 82, 2) := by decide +kernel
theorem dX10_init_581 : decode cX10_init 581 = .ok (.bipush 115, 2) := by decide +kernel
theorem dX10_init_583 : decode cX10_init 583 = .ok (.castore, 1) := by decide +kernel
theorem dX10_init_584 : decode cX10_init 584 = .ok (.dup, 1) := by decide +kernel
theorem dX10_init_585 : decode cX10_init 585 = .ok (.bipush 83, 2) := by decide +kernel
theorem dX10_init_587 : decode cX10_init 587 = .ok (.bipush 115, 2) := by decide +kernel
theorem dX10_init_589 : decode cX10_init 589 = .ok (.castore, 1) := by decide +kernel
theorem dX10_init_590 : decode cX10_init 590 = .ok (.dup, 1) := by decide +kernel
theorem dX10_init_591 : decode cX10_init 591 = .ok (.bipush 84, 2) := by decide +kernel
theorem dX10_init_593 : decode cX10_init 593 = .ok (.bipush 32, 2) := by decide +kernel
theorem dX10_init_595 : decode cX10_init 595 = .ok (.castore, 1) := by decide +kernel
theorem dX10_init_596 : decode cX10_init 596 = .ok (.dup, 1) := by decide +kernel
theorem dX10_init_597 : decode cX10_init 597 = .ok (.bipush 85, 2) := by decide +kernel
theorem dX10_init_599 : decode cX10_init 599 = .ok (.bipush 32, 2) := by decide +kernel
theorem dX10_init_601 : decode cX10_init 601 = .ok (.castore, 1) := by decide +kernel
theorem dX10_init_602 : decode cX10_init 602 = .ok (.dup, 1) := by decide +kernel
theorem dX10_init_603 : decode cX10_init 603 = .ok (.bipush 86, 2) := by decide +kernel
theorem dX10_init_605 : decode cX10_init 605 = .ok (.bipush 32, 2) := by decide +kernel
theorem dX10_init_607 : decode cX10_init 607 = .ok (.castore, 1) := by decide +kernel
theorem dX10_init_608 : decode cX10_init 608 = .ok (.dup, 1) := by decide +kernel
theorem dX10_init_609 : decode cX10_init 609 = .ok (.bipush 87, 2) := by decide +kernel
theorem dX10_init_611 : decode cX10_init 611 = .ok (.bipush 32, 2) := by decide +kernel
theorem dX10_init_613 : decode cX10_init 613 = .ok (.castore, 1) := by decide +kernel
theorem dX10_init_614 : decode cX10_init 614 = .ok (.dup, 1) := by decide +kernel
theorem dX10_init_615 : decode cX10_init 615 = .ok (.bipush 88, 2) := by decide +kernel
theorem dX10_init_617 : decode cX10_init 617 = .ok (.bipush 116, 2) := by decide +kernel
theorem dX10_init_619 : decode cX10_init 619 = .ok (.castore, 1) := by decide +kernel
theorem dX10_init_620 : decode cX10_init 620 = .ok (.dup, 1) := by decide +kernel
theorem dX10_init_621 : decode cX10_init 621 = .ok (.bipush 89, 2) := by decide +kernel
theorem dX10_init_623 : decode cX10_init 623 = .ok (.bipush 105, 2) := by decide +kernel
theorem dX10_init_625 : decode cX10_init 625 = .ok (.castore, 1) := by decide +kernel
theorem dX10_init_626 : decode cX10_init 626 = .ok (.dup, 1) := by decide +kernel
theorem dX10_init_627 : decode cX10_init 627 = .ok (.bipush 90, 2) := by decide +kernel
theorem dX10_init_629 : decode cX10_init 629 = .ok (.bipush 109, 2) := by decide +kernel
theorem dX10_init_631 : decode cX10_init 631 = .ok (.castore, 1) := by decide +kernel
theorem dX10_init_632 : decode cX10_init 632 = .ok (.dup, 1) := by decide +kernel
theorem dX10_init_633 : decode cX10_init 633 = .ok (.bipush 91, 2) := by decide +kernel
theorem dX10_init_635 : decode cX10_init 635 = .ok (.bipush 101, 2) := by decide +kernel
theorem dX10_init_637 : decode cX10_init 637 = .ok (.castore, 1) := by decide +kernel
theorem dX10_init_638 : decode cX10_init 638 = .ok (.dup, 1) := by decide +kernel
theorem dX10_init_639 : decode cX10_init 639 = .ok (.bipush 92, 2) := by decide +kernel
theorem dX10_init_641 : decode cX10_init 641 = .ok (.bipush 32, 2) := by decide +kernel
theorem dX10_init_643 : decode cX10_init 643 = .ok (.castore, 1) := by decide +kernel
theorem dX10_init_644 : decode cX10_init 644 = .ok (.dup, 1) := by decide +kernel
theorem dX10_init_645 : decode cX10_init 645 = .ok (.bipush 93, 2) := by decide +kernel
theorem dX10_init_647 : decode cX10_init 647 = .ok (.bipush 32, 2) := by decide +kernel
theorem dX10_init_649 : decode cX10_init 649 = .ok (.castore, 1) := by decide +kernel
theorem dX10_init_650 : decode cX10_init 650 = .ok (.dup, 1) := by decide +kernel
theorem dX10_init_651 : decode cX10_init 651 = .ok (.bipush 94, 2) := by decide +kernel
theorem dX10_init_653 : decode cX10_init 653 = .ok (.bipush 32, 2) := by decide +kernel
theorem dX10_init_655 : decode cX10_init 655 = .ok (.castore, 1) := by decide +kernel
theorem dX10_init_656 : decode cX10_init 656 = .ok (.dup, 1) := by decide +kernel
theorem dX10_init_657 : decode cX10_init 657 = .ok (.bipush 95, 2) := by decide +kernel
theorem dX10_init_659 : decode cX10_init 659 = .ok (.bipush 32, 2) := by decide +kernel
theorem dX10_init_661 : decode cX10_init 661 = .ok (.castore, 1) := by decide +kernel
theorem dX10_init_662 : decode cX10_init 662 = .ok (.dup, 1) := by decide +kernel
theorem dX10_init_663 : decode cX10_init 663 = .ok (.bipush 96, 2) := by decide +kernel
theorem dX10_init_665 : decode cX10_init 665 = .ok (.bipush 115, 2) := by decide +kernel
theorem dX10_init_667 : decode cX10_init 667 = .ok (.castore, 1) := by decide +kernel
theorem dX10_init_668 : decode cX10_init 668 = .ok (.dup, 1) := by decide +kernel
theorem dX10_init_669 : decode cX10_init 669 = .ok (.bipush 97, 2) := by decide +kernel
theorem dX10_init_671 : decode cX10_init 671 = .ok (.bipush 104, 2) := by decide +kernel
theorem dX10_init_673 : decode cX10_init 673 = .ok (.castore, 1) := by decide +kernel
theorem dX10_init_674 : decode cX10_init 674 = .ok (.dup, 1) := by decide +kernel
theorem dX10_init_675 : decode cX10_init 675 = .ok (.bipush 98, 2) := by decide +kernel
theorem dX10_init_677 : decode cX10_init 677 = .ok (.bipush 117, 2) := by decide +kernel
theorem dX10_init_679 : decode cX10_init 679 = .ok (.castore, 1) := by decide +kernel
theorem dX10_init_680 : decode cX10_init 680 = .ok (.dup, 1) := by decide +kernel
theorem dX10_init_681 : decode cX10_init 681 = .ok (.bipush 99, 2) := by decide +kernel
theorem dX10_init_683 : decode cX10_init 683 = .ok (.bipush 116, 2) := by decide +kernel
theorem dX10_init_685 : decode cX10_init 685 = .ok (.castore, 1) := by decide +kernel
theorem dX10_init_686 : decode cX10_init 686 = .ok (.dup, 1) := by decide +kernel
theorem dX10_init_687 : decode cX10_init 687 = .ok (.bipush 100, 2) := by decide +kernel
theorem dX10_init_689 : decode cX10_init 689 = .ok (.bipush 32, 2) := by decide +kernel
theorem dX10_init_691 : decode cX10_init 691 = .ok (.castore, 1) := by decide +kernel
theorem dX10_init_692 : decode cX10_init 692 = .ok (.dup, 1) := by decide +kernel
theorem dX10_init_693 : decode cX10_init 693 = .ok (.bipush 101, 2) := by decide +kernel
theorem dX10_init_695 : decode cX10_init 695 = .ok (.bipush 32, 2) := by decide +kernel
theorem dX10_init_697 : decode cX10_init 697 = .ok (.castore, 1) := by decide +kernel
theorem dX10_init_698 : decode cX10_init 698 = .ok (.dup, 1) := by decide +kernel
theorem dX10_init_699 : decode cX10_init 699 = .ok (.bipush 102, 2) := by decide +kernel
theorem dX10_init_701 : decode cX10_init 701 = .ok (.bipush 32, 2) := by decide +kernel
theorem dX10_init_703 : decode cX10_init 703 = .ok (.castore, 1) := by decide +kernel
theorem dX10_init_704 : decode cX10_init 704 = .ok (.dup, 1) := by decide +kernel
theorem dX10_init_705 : decode cX10_init 705 = .ok (.bipush 103, 2) := by decide +kernel
theorem dX10_init_707 : decode cX10_init 707 = .ok (.bipush 32, 2) := by decide +kernel
theorem dX10_init_709 : decode cX10_init 709 = .ok (.castore, 1) := by decide +kernel
theorem dX10_init_710 : decode cX10_init 710 = .ok (.putfield 47, 3) := by decide +kernel
theorem dX10_init_713 : decode cX10_init 713 = .ok (.aload_n 0, 1) := by decide +kernel
theorem dX10_init_714 : decode cX10_init 714 = .ok (.bipush 114, 2) := by decide +kernel
theorem dX10_init_716 : decode cX10_init 716 = .ok (.newarray .int, 2) := by decide +kernel
theorem dX10_init_718 : decode cX10_init 718 = .ok (.putfield 51, 3) := by decide +kernel
theorem dX10_init_721 : decode cX10_init 721 = .ok (.aload_n 0, 1) := by decide +kernel
theorem dX10_init_722 : decode cX10_init 722 = .ok (.getfield 25, 3) := by decide +kernel
theorem dX10_init_725 : decode cX10_init 725 = .ok (.iconst 1, 1) := by decide +kernel
theorem dX10_init_726 : decode cX10_init 726 = .ok (.iconst 1, 1) := by decide +kernel
theorem dX10_init_727 : decode cX10_init 727 = .ok (.iastore, 1) := by decide +kernel
theorem dX10_init_728 : decode cX10_init 728 = .ok (.return_, 1) := by decide +kernel
def s_X1_init_1 (σ : MSt) : MSt := (muI (muR (muR (muR (muR (muR (muR (muR (muR (muI σ 1 0 (2 : Int32)) 1 3 (some 2)) 1 4 (some 3)) 1 5 (some 4)) 1 6 (some 5)) 1 7 (some 6)) 1 8 (some 7)) 1 10 (some 8)) 1 11 (some 9)) 9 (0 : Int32).toNatClampNeg (1 : Int32))
theorem z_X1_init_1 {σ : MSt} {k : Nat} (hk : 10 ≤ k) (z : zc σ k) : zc (s_X1_init_1 σ) k := by
  unfold s_X1_init_1
  exact (zc_uI (by omega) (zc_uR (by omega) (zc_uR (by omega) (zc_uR (by omega) (zc_uR (by omega) (zc_uR (by omega) (zc_uR (by omega) (zc_uR (by omega) (zc_uR (by omega) (zc_uI (by omega) z))))))))))
set_option maxRecDepth 100000 in
set_option maxHeartbeats 4000000 in
theorem c_X1_init_1 (l : Launch) (σ : MSt) (hz : ∀ k, 2 ≤ k → zc σ k) : MCt l yX1_init cX1_init 1 none (mkr 1 8 110) [.ref 1] 2 σ 8 110 (10, none, s_X1_init_1 σ) := by
  refine mw_entry (own := RX1) (ini := true) (L := [(0, .ref 1)]) (by decide +kernel) rfl (fun _ => rfl) rfl (Nat.le_of_ble_eq_true rfl) (by decide) (fun E => ?_)
  refine mw_aload_n dX1_init_0 0 rfl ?_
  refine mw_objInit dX1_init_1 wt_839 wt_835 wt_836 (by decide) (by decide) ?_
  refine mw_aload_n dX1_init_4 0 rfl ?_
  refine mw_iconst (v := 2) dX1_init_5 (by decide) ?_
  refine mw_putI (ci := 0) (j := 0) tyX1 tyX1_ok nmX1 dX1_init_6 (by decide) rfl rfl rfl (by decide) uws_0 wt_44 (Or.inl rfl) (Or.inl rfl) (by decide +kernel) (Or.inl rfl) ?_
  refine mw_aload_n dX1_init_9 0 rfl ?_
  refine mw_bipush (v := 14) dX1_init_10 (by decide) ?_
  refine mk_newaI (n' := 3) (c' := 1) (s' := 14) rfl rfl rfl (N0 := 14) (N := 14) dX1_init_12 wt_840 rfl (by decide) (by decide) (by decide) (zc_uI (by decide) (hz 2 (by decide))) (by decide) (by decide) (by decide) rfl ?_
  refine mw_putR (ty := (.array .int)) (ci := 0) (j := 3) tyX1 tyX1_ok nmX1 dX1_init_14 (by decide) rfl rfl rfl (by decide) uws_0 wt_34 (Or.inl rfl) (Or.inr ⟨rfl, rfl, rfl⟩) (by decide +kernel) rfl rfl ?_
  refine mw_aload_n dX1_init_17 0 rfl ?_
  refine mw_bipush (v := 14) dX1_init_18 (by decide) ?_
  refine mk_newaI (n' := 4) (c' := 2) (s' := 28) rfl rfl rfl (N0 := 14) (N := 14) dX1_init_20 wt_840 rfl (by decide) (by decide) (by decide) (zc_uR (by decide) (zc_uI (by decide) (hz 3 (by decide)))) (by decide) (by decide) (by decide) rfl ?_
  refine mw_putR (ty := (.array .int)) (ci := 0) (j := 4) tyX1 tyX1_ok nmX1 dX1_init_22 (by decide) rfl rfl rfl (by decide) uws_0 wt_35 (Or.inl rfl) (Or.inr ⟨rfl, rfl, rfl⟩) (by decide +kernel) rfl rfl ?_
  refine mw_aload_n dX1_init_25 0 rfl ?_
  refine mw_bipush (v := 14) dX1_init_26 (by decide) ?_
  refine mk_newaI (n' := 5) (c' := 3) (s' := 42) rfl rfl rfl (N0 := 14) (N := 14) dX1_init_28 wt_840 rfl (by decide) (by decide) (by decide) (zc_uR (by decide) (zc_uR (by decide) (zc_uI (by decide) (hz 4 (by decide))))) (by decide) (by decide) (by decide) rfl ?_
  refine mw_putR (ty := (.array .int)) (ci := 0) (j := 5) tyX1 tyX1_ok nmX1 dX1_init_30 (by decide) rfl rfl rfl (by decide) uws_0 wt_36 (Or.inl rfl) (Or.inr ⟨rfl, rfl, rfl⟩) (by decide +kernel) rfl rfl ?_
  refine mw_aload_n dX1_init_33 0 rfl ?_
  refine mw_bipush (v := 14) dX1_init_34 (by decide) ?_
  refine mk_newaI (n' := 6) (c' := 4) (s' := 56) rfl rfl rfl (N0 := 14) (N := 14) dX1_init_36 wt_840 rfl (by decide) (by decide) (by decide) (zc_uR (by decide) (zc_uR (by decide) (zc_uR (by decide) (zc_uI (by decide) (hz 5 (by decide)))))) (by decide) (by decide) (by decide) rfl ?_
  refine mw_putR (ty := (.array .int)) (ci := 0) (j := 6) tyX1 tyX1_ok nmX1 dX1_init_38 (by decide) rfl rfl rfl (by decide) uws_0 wt_37 (Or.inl rfl) (Or.inr ⟨rfl, rfl, rfl⟩) (by decide +kernel) rfl rfl ?_
  refine mw_aload_n dX1_init_41 0 rfl ?_
  refine mw_bipush (v := 14) dX1_init_42 (by decide) ?_
  refine mk_newaI (n' := 7) (c' := 5) (s' := 70) rfl rfl rfl (N0 := 14) (N := 14) dX1_init_44 wt_840 rfl (by decide) (by decide) (by decide) (zc_uR (by decide) (zc_uR (by decide) (zc_uR (by decide) (zc_uR (by decide) (zc_uI (by decide) (hz 6 (by decide))))))) (by decide) (by decide) (by decide) rfl ?_
  refine mw_putR (ty := (.array .int)) (ci := 0) (j := 7) tyX1 tyX1_ok nmX1 dX1_init_46 (by decide) rfl rfl rfl (by decide) uws_0 wt_38 (Or.inl rfl) (Or.inr ⟨rfl, rfl, rfl⟩) (by decide +kernel) rfl rfl ?_
  refine mw_aload_n dX1_init_49 0 rfl ?_
  refine mw_bipush (v := 14) dX1_init_50 (by decide) ?_
  refine mk_newaI (n' := 8) (c' := 6) (s' := 84) rfl rfl rfl (N0 := 14) (N := 14) dX1_init_52 wt_840 rfl (by decide) (by decide) (by decide) (zc_uR (by decide) (zc_uR (by decide) (zc_uR (by decide) (zc_uR (by decide) (zc_uR (by decide) (zc_uI (by decide) (hz 7 (by decide)))))))) (by decide) (by decide) (by decide) rfl ?_
  refine mw_putR (ty := (.array .int)) (ci := 0) (j := 8) tyX1 tyX1_ok nmX1 dX1_init_54 (by decide) rfl rfl rfl (by decide) uws_0 wt_39 (Or.inl rfl) (Or.inr ⟨rfl, rfl, rfl⟩) (by decide +kernel) rfl rfl ?_
  refine mw_aload_n dX1_init_57 0 rfl ?_
  refine mw_bipush (v := 13) dX1_init_58 (by decide) ?_
  refine mk_newaI (n' := 9) (c' := 7) (s' := 97) rfl rfl rfl (N0 := 13) (N := 13) dX1_init_60 wt_840 rfl (by decide) (by decide) (by decide) (zc_uR (by decide) (zc_uR (by decide) (zc_uR (by decide) (zc_uR (by decide) (zc_uR (by decide) (zc_uR (by decide) (zc_uI (by decide) (hz 8 (by decide))))))))) (by decide) (by decide) (by decide) rfl ?_
  refine mw_putR (ty := (.array .int)) (ci := 0) (j := 10) tyX1 tyX1_ok nmX1 dX1_init_62 (by decide) rfl rfl rfl (by decide) uws_0 wt_85 (Or.inl rfl) (Or.inr ⟨rfl, rfl, rfl⟩) (by decide +kernel) rfl rfl ?_
  refine mw_aload_n dX1_init_65 0 rfl ?_
  refine mw_bipush (v := 13) dX1_init_66 (by decide) ?_
  refine mk_newaI (n' := 10) (c' := 8) (s' := 110) rfl rfl rfl (N0 := 13) (N := 13) dX1_init_68 wt_840 rfl (by decide) (by decide) (by decide) (zc_uR (by decide) (zc_uR (by decide) (zc_uR (by decide) (zc_uR (by decide) (zc_uR (by decide) (zc_uR (by decide) (zc_uR (by decide) (zc_uI (by decide) (hz 9 (by decide)))))))))) (by decide) (by decide) (by decide) rfl ?_
  refine mw_putR (ty := (.array .int)) (ci := 0) (j := 11) tyX1 tyX1_ok nmX1 dX1_init_70 (by decide) rfl rfl rfl (by decide) uws_0 wt_86 (Or.inl rfl) (Or.inr ⟨rfl, rfl, rfl⟩) (by decide +kernel) rfl rfl ?_
  refine mw_aload_n dX1_init_73 0 rfl ?_
  refine mw_get (v := .ref 9) (j := 11) (ci := 0) dX1_init_74 (by decide) rfl rfl rfl (by decide) uws_0 wt_86 (Or.inl rfl) (by simp [mfv, mft, tyX1, mmR_uI, mmR_uR, va_rf]) ?_
  refine mw_iconst (v := 0) dX1_init_77 (by decide) ?_
  refine mw_iconst (v := 1) dX1_init_78 (by decide) ?_
  refine mw_iast dX1_init_79 (by decide) rfl (mib1 rfl) ?_
  exact mw_vret dX1_init_80 rfl rfl rfl rfl
def s_X1_init_10 (σ : MSt) : MSt := (muI (muR (muR (muR (muR (muR (muR (muR (muR (muI σ 10 0 (2 : Int32)) 10 3 (some 11)) 10 4 (some 12)) 10 5 (some 13)) 10 6 (some 14)) 10 7 (some 15)) 10 8 (some 16)) 10 10 (some 17)) 10 11 (some 18)) 18 (0 : Int32).toNatClampNeg (1 : Int32))
theorem z_X1_init_10 {σ : MSt} {k : Nat} (hk : 19 ≤ k) (z : zc σ k) : zc (s_X1_init_10 σ) k := by
  unfold s_X1_init_10
  exact (zc_uI (by omega) (zc_uR (by omega) (zc_uR (by omega) (zc_uR (by omega) (zc_uR (by omega) (zc_uR (by omega) (zc_uR (by omega) (zc_uR (by omega) (zc_uR (by omega) (zc_uI (by omega) z))))))))))
set_option maxRecDepth 100000 in
set_option maxHeartbeats 4000000 in
theorem c_X1_init_10 (l : Launch) (σ : MSt) (hz : ∀ k, 11 ≤ k → zc σ k) : MCt l yX1_init cX1_init 1 none (mkr 1 8 110) [.ref 10] 11 σ 8 110 (19, none, s_X1_init_10 σ) := by
  refine mw_entry (own := RX1) (ini := true) (L := [(0, .ref 10)]) (by decide +kernel) rfl (fun _ => rfl) rfl (Nat.le_of_ble_eq_true rfl) (by decide) (fun E => ?_)
  refine mw_aload_n dX1_init_0 0 rfl ?_
  refine mw_objInit dX1_init_1 wt_839 wt_835 wt_836 (by decide) (by decide) ?_
  refine mw_aload_n dX1_init_4 0 rfl ?_
  refine mw_iconst (v := 2) dX1_init_5 (by decide) ?_
  refine mw_putI (ci := 0) (j := 0) tyX1 tyX1_ok nmX1 dX1_init_6 (by decide) rfl rfl rfl (by decide) uws_0 wt_44 (Or.inl rfl) (Or.inl rfl) (by decide +kernel) (Or.inl rfl) ?_
  refine mw_aload_n dX1_init_9 0 rfl ?_
  refine mw_bipush (v := 14) dX1_init_10 (by decide) ?_
  refine mk_newaI (n' := 12) (c' := 1) (s' := 14) rfl rfl rfl (N0 := 14) (N := 14) dX1_init_12 wt_840 rfl (by decide) (by decide) (by decide) (zc_uI (by decide) (hz 11 (by decide))) (by decide) (by decide) (by decide) rfl ?_
  refine mw_putR (ty := (.array .int)) (ci := 0) (j := 3) tyX1 tyX1_ok nmX1 dX1_init_14 (by decide) rfl rfl rfl (by decide) uws_0 wt_34 (Or.inl rfl) (Or.inr ⟨rfl, rfl, rfl⟩) (by decide +kernel) rfl rfl ?_
  refine mw_aload_n dX1_init_17 0 rfl ?_
  refine mw_bipush (v := 14) dX1_init_18 (by decide) ?_
  refine mk_newaI (n' := 13) (c' := 2) (s' := 28) rfl rfl rfl (N0 := 14) (N := 14) dX1_init_20 wt_840 rfl (by decide) (by decide) (by decide) (zc_uR (by decide) (zc_uI (by decide) (hz 12 (by decide)))) (by decide) (by decide) (by decide) rfl ?_
  refine mw_putR (ty := (.array .int)) (ci := 0) (j := 4) tyX1 tyX1_ok nmX1 dX1_init_22 (by decide) rfl rfl rfl (by decide) uws_0 wt_35 (Or.inl rfl) (Or.inr ⟨rfl, rfl, rfl⟩) (by decide +kernel) rfl rfl ?_
  refine mw_aload_n dX1_init_25 0 rfl ?_
  refine mw_bipush (v := 14) dX1_init_26 (by decide) ?_
  refine mk_newaI (n' := 14) (c' := 3) (s' := 42) rfl rfl rfl (N0 := 14) (N := 14) dX1_init_28 wt_840 rfl (by decide) (by decide) (by decide) (zc_uR (by decide) (zc_uR (by decide) (zc_uI (by decide) (hz 13 (by decide))))) (by decide) (by decide) (by decide) rfl ?_
  refine mw_putR (ty := (.array .int)) (ci := 0) (j := 5) tyX1 tyX1_ok nmX1 dX1_init_30 (by decide) rfl rfl rfl (by decide) uws_0 wt_36 (Or.inl rfl) (Or.inr ⟨rfl, rfl, rfl⟩) (by decide +kernel) rfl rfl ?_
  refine mw_aload_n dX1_init_33 0 rfl ?_
  refine mw_bipush (v := 14) dX1_init_34 (by decide) ?_
  refine mk_newaI (n' := 15) (c' := 4) (s' := 56) rfl rfl rfl (N0 := 14) (N := 14) dX1_init_36 wt_840 rfl (by decide) (by decide) (by decide) (zc_uR (by decide) (zc_uR (by decide) (zc_uR (by decide) (zc_uI (by decide) (hz 14 (by decide)))))) (by decide) (by decide) (by decide) rfl ?_
  refine mw_putR (ty := (.array .int)) (ci := 0) (j := 6) tyX1 tyX1_ok nmX1 dX1_init_38 (by decide) rfl rfl rfl (by decide) uws_0 wt_37 (Or.inl rfl) (Or.inr ⟨rfl, rfl, rfl⟩) (by decide +kernel) rfl rfl ?_
  refine mw_aload_n dX1_init_41 0 rfl ?_
  refine mw_bipush (v := 14) dX1_init_42 (by decide) ?_
  refine mk_newaI (n' := 16) (c' := 5) (s' := 70) rfl rfl rfl (N0 := 14) (N := 14) dX1_init_44 wt_840 rfl (by decide) (by decide) (by decide) (zc_uR (by decide) (zc_uR (by decide) (zc_uR (by decide) (zc_uR (by decide) (zc_uI (by decide) (hz 15 (by decide))))))) (by decide) (by decide) (by decide) rfl ?_
  refine mw_putR (ty := (.array .int)) (ci := 0) (j := 7) tyX1 tyX1_ok nmX1 dX1_init_46 (by decide) rfl rfl rfl (by decide) uws_0 wt_38 (Or.inl rfl) (Or.inr ⟨rfl, rfl, rfl⟩) (by decide +kernel) rfl rfl ?_
  refine mw_aload_n dX1_init_49 0 rfl ?_
  refine mw_bipush (v := 14) dX1_init_50 (by decide) ?_
  refine mk_newaI (n' := 17) (c' := 6) (s' := 84) rfl rfl rfl (N0 := 14) (N := 14) dX1_init_52 wt_840 rfl (by decide) (by decide) (by decide) (zc_uR (by decide) (zc_uR (by decide) (zc_uR (by decide) (zc_uR (by decide) (zc_uR (by decide) (zc_uI (by decide) (hz 16 (by decide)))))))) (by decide) (by decide) (by decide) rfl ?_
  refine mw_putR (ty := (.array .int)) (ci := 0) (j := 8) tyX1 tyX1_ok nmX1 dX1_init_54 (by decide) rfl rfl rfl (by decide) uws_0 wt_39 (Or.inl rfl) (Or.inr ⟨rfl, rfl, rfl⟩) (by decide +kernel) rfl rfl ?_
  refine mw_aload_n dX1_init_57 0 rfl ?_
  refine mw_bipush (v := 13) dX1_init_58 (by decide) ?_
  refine mk_newaI (n' := 18) (c' := 7) (s' := 97) rfl rfl rfl (N0 := 13) (N := 13) dX1_init_60 wt_840 rfl (by decide) (by decide) (by decide) (zc_uR (by decide) (zc_uR (by decide) (zc_uR (by decide) (zc_uR (by decide) (zc_uR (by decide) (zc_uR (by decide) (zc_uI (by decide) (hz 17 (by decide))))))))) (by decide) (by decide) (by decide) rfl ?_
  refine mw_putR (ty := (.array .int)) (ci := 0) (j := 10) tyX1 tyX1_ok nmX1 dX1_init_62 (by decide) rfl rfl rfl (by decide) uws_0 wt_85 (Or.inl rfl) (Or.inr ⟨rfl, rfl, rfl⟩) (by decide +kernel) rfl rfl ?_
  refine mw_aload_n dX1_init_65 0 rfl ?_
  refine mw_bipush (v := 13) dX1_init_66 (by decide) ?_
  refine mk_newaI (n' := 19) (c' := 8) (s' := 110) rfl rfl rfl (N0 := 13) (N := 13) dX1_init_68 wt_840 rfl (by decide) (by decide) (by decide) (zc_uR (by decide) (zc_uR (by decide) (zc_uR (by decide) (zc_uR (by decide) (zc_uR (by decide) (zc_uR (by decide) (zc_uR (by decide) (zc_uI (by decide) (hz 18 (by decide)))))))))) (by decide) (by decide) (by decide) rfl ?_
  refine mw_putR (ty := (.array .int)) (ci := 0) (j := 11) tyX1 tyX1_ok nmX1 dX1_init_70 (by decide) rfl rfl rfl (by decide) uws_0 wt_86 (Or.inl rfl) (Or.inr ⟨rfl, rfl, rfl⟩) (by decide +kernel) rfl rfl ?_
  refine mw_aload_n dX1_init_73 0 rfl ?_
  refine mw_get (v := .ref 18) (j := 11) (ci := 0) dX1_init_74 (by decide) rfl rfl rfl (by decide) uws_0 wt_86 (Or.inl rfl) (by simp [mfv, mft, tyX1, mmR_uI, mmR_uR, va_rf]) ?_
  refine mw_iconst (v := 0) dX1_init_77 (by decide) ?_
  refine mw_iconst (v := 1) dX1_init_78 (by decide) ?_
  refine mw_iast dX1_init_79 (by decide) rfl (mib1 rfl) ?_
  exact mw_vret dX1_init_80 rfl rfl rfl rfl
def s_X1_init_19 (σ : MSt) : MSt := (muI (muR (muR (muR (muR (muR (muR (muR (muR (muI σ 19 0 (2 : Int32)) 19 3 (some 20)) 19 4 (some 21)) 19 5 (some 22)) 19 6 (some 23)) 19 7 (some 24)) 19 8 (some 25)) 19 10 (some 26)) 19 11 (some 27)) 27 (0 : Int32).toNatClampNeg (1 : Int32))
theorem z_X1_init_19 {σ : MSt} {k : Nat} (hk : 28 ≤ k) (z : zc σ k) : zc (s_X1_init_19 σ) k := by
  unfold s_X1_init_19
  exact (zc_uI (by omega) (zc_uR (by omega) (zc_uR (by omega) (zc_uR (by omega) (zc_uR (by omega) (zc_uR (by omega) (zc_uR (by omega) (zc_uR (by omega) (zc_uR (by omega) (zc_uI (by omega) z))))))))))
set_option maxRecDepth 100000 in
set_option maxHeartbeats 4000000 in
theorem c_X1_init_19 (l : Launch) (σ : MSt) (hz : ∀ k, 20 ≤ k → zc σ k) : MCt l yX1_init cX1_init 1 none (mkr 1 8 110) [.ref 19] 20 σ 8 110 (28, none, s_X1_init_19 σ) := by
  refine mw_entry (own := RX1) (ini := true) (L := [(0, .ref 19)]) (by decide +kernel) rfl (fun _ => rfl) rfl (Nat.le_of_ble_eq_true rfl) (by decide) (fun E => ?_)
  refine mw_aload_n dX1_init_0 0 rfl ?_
  refine mw_objInit dX1_init_1 wt_839 wt_835 wt_836 (by decide) (by decide) ?_
  refine mw_aload_n dX1_init_4 0 rfl ?_
  refine mw_iconst (v := 2) dX1_init_5 (by decide) ?_
  refine mw_putI (ci := 0) (j := 0) tyX1 tyX1_ok nmX1 dX1_init_6 (by decide) rfl rfl rfl (by decide) uws_0 wt_44 (Or.inl rfl) (Or.inl rfl) (by decide +kernel) (Or.inl rfl) ?_
  refine mw_aload_n dX1_init_9 0 rfl ?_
  refine mw_bipush (v := 14) dX1_init_10 (by decide) ?_
  refine mk_newaI (n' := 21) (c' := 1) (s' := 14) rfl rfl rfl (N0 := 14) (N := 14) dX1_init_12 wt_840 rfl (by decide) (by decide) (by decide) (zc_uI (by decide) (hz 20 (by decide))) (by decide) (by decide) (by decide) rfl ?_
  refine mw_putR (ty := (.array .int)) (ci := 0) (j := 3) tyX1 tyX1_ok nmX1 dX1_init_14 (by decide) rfl rfl rfl (by decide) uws_0 wt_34 (Or.inl rfl) (Or.inr ⟨rfl, rfl, rfl⟩) (by decide +kernel) rfl rfl ?_
  refine mw_aload_n dX1_init_17 0 rfl ?_
  refine mw_bipush (v := 14) dX1_init_18 (by decide) ?_
  refine mk_newaI (n' := 22) (c' := 2) (s' := 28) rfl rfl rfl (N0 := 14) (N := 14) dX1_init_20 wt_840 rfl (by decide) (by decide) (by decide) (zc_uR (by decide) (zc_uI (by decide) (hz 21 (by decide)))) (by decide) (by decide) (by decide) rfl ?_
  refine mw_putR (ty := (.array .int)) (ci := 0) (j := 4) tyX1 tyX1_ok nmX1 dX1_init_22 (by decide) rfl rfl rfl (by decide) uws_0 wt_35 (Or.inl rfl) (Or.inr ⟨rfl, rfl, rfl⟩) (by decide +kernel) rfl rfl ?_
  refine mw_aload_n dX1_init_25 0 rfl ?_
  refine mw_bipush (v := 14) dX1_init_26 (by decide) ?_
  refine mk_newaI (n' := 23) (c' := 3) (s' := 42) rfl rfl rfl (N0 := 14) (N := 14) dX1_init_28 wt_840 rfl (by decide) (by decide) (by decide) (zc_uR (by decide) (zc_uR (by decide) (zc_uI (by decide) (hz 22 (by decide))))) (by decide) (by decide) (by decide) rfl ?_
  refine mw_putR (ty := (.array .int)) (ci := 0) (j := 5) tyX1 tyX1_ok nmX1 dX1_init_30 (by decide) rfl rfl rfl (by decide) uws_0 wt_36 (Or.inl rfl) (Or.inr ⟨rfl, rfl, rfl⟩) (by decide +kernel) rfl rfl ?_
  refine mw_aload_n dX1_init_33 0 rfl ?_
  refine mw_bipush (v := 14) dX1_init_34 (by decide) ?_
  refine mk_newaI (n' := 24) (c' := 4) (s' := 56) rfl rfl rfl (N0 := 14) (N := 14) dX1_init_36 wt_840 rfl (by decide) (by decide) (by decide) (zc_uR (by decide) (zc_uR (by decide) (zc_uR (by decide) (zc_uI (by decide) (hz 23 (by decide)))))) (by decide) (by decide) (by decide) rfl ?_
  refine mw_putR (ty := (.array .int)) (ci := 0) (j := 6) tyX1 tyX1_ok nmX1 dX1_init_38 (by decide) rfl rfl rfl (by decide) uws_0 wt_37 (Or.inl rfl) (Or.inr ⟨rfl, rfl, rfl⟩) (by decide +kernel) rfl rfl ?_
  refine mw_aload_n dX1_init_41 0 rfl ?_
  refine mw_bipush (v := 14) dX1_init_42 (by decide) ?_
  refine mk_newaI (n' := 25) (c' := 5) (s' := 70) rfl rfl rfl (N0 := 14) (N := 14) dX1_init_44 wt_840 rfl (by decide) (by decide) (by decide) (zc_uR (by decide) (zc_uR (by decide) (zc_uR (by decide) (zc_uR (by decide) (zc_uI (by decide) (hz 24 (by decide))))))) (by decide) (by decide) (by decide) rfl ?_
  refine mw_putR (ty := (.array .int)) (ci := 0) (j := 7) tyX1 tyX1_ok nmX1 dX1_init_46 (by decide) rfl rfl rfl (by decide) uws_0 wt_38 (Or.inl rfl) (Or.inr ⟨rfl, rfl, rfl⟩) (by decide +kernel) rfl rfl ?_
  refine mw_aload_n dX1_init_49 0 rfl ?_
  refine mw_bipush (v := 14) dX1_init_50 (by decide) ?_
  refine mk_newaI (n' := 26) (c' := 6) (s' := 84) rfl rfl rfl (N0 := 14) (N := 14) dX1_init_52 wt_840 rfl (by decide) (by decide) (by decide) (zc_uR (by decide) (zc_uR (by decide) (zc_uR (by decide) (zc_uR (by decide) (zc_uR (by decide) (zc_uI (by decide) (hz 25 (by decide)))))))) (by decide) (by decide) (by decide) rfl ?_
  refine mw_putR (ty := (.array .int)) (ci := 0) (j := 8) tyX1 tyX1_ok nmX1 dX1_init_54 (by decide) rfl rfl rfl (by decide) uws_0 wt_39 (Or.inl rfl) (Or.inr ⟨rfl, rfl, rfl⟩) (by decide +kernel) rfl rfl ?_
  refine mw_aload_n dX1_init_57 0 rfl ?_
  refine mw_bipush (v := 13) dX1_init_58 (by decide) ?_
  refine mk_newaI (n' := 27) (c' := 7) (s' := 97) rfl rfl rfl (N0 := 13) (N := 13) dX1_init_60 wt_840 rfl (by decide) (by decide) (by decide) (zc_uR (by decide) (zc_uR (by decide) (zc_uR (by decide) (zc_uR (by decide) (zc_uR (by decide) (zc_uR (by decide) (zc_uI (by decide) (hz 26 (by decide))))))))) (by decide) (by decide) (by decide) rfl ?_
  refine mw_putR (ty := (.array .int)) (ci := 0) (j := 10) tyX1 tyX1_ok nmX1 dX1_init_62 (by decide) rfl rfl rfl (by decide) uws_0 wt_85 (Or.inl rfl) (Or.inr ⟨rfl, rfl, rfl⟩) (by decide +kernel) rfl rfl ?_
  refine mw_aload_n dX1_init_65 0 rfl ?_
  refine mw_bipush (v := 13) dX1_init_66 (by decide) ?_
  refine mk_newaI (n' := 28) (c' := 8) (s' := 110) rfl rfl rfl (N0 := 13) (N := 13) dX1_init_68 wt_840 rfl (by decide) (by decide) (by decide) (zc_uR (by decide) (zc_uR (by decide) (zc_uR (by decide) (zc_uR (by decide) (zc_uR (by decide) (zc_uR (by decide) (zc_uR (by decide) (zc_uI (by decide) (hz 27 (by decide)))))))))) (by decide) (by decide) (by decide) rfl ?_
  refine mw_putR (ty := (.array .int)) (ci := 0) (j := 11) tyX1 tyX1_ok nmX1 dX1_init_70 (by decide) rfl rfl rfl (by decide) uws_0 wt_86 (Or.inl rfl) (Or.inr ⟨rfl, rfl, rfl⟩) (by decide +kernel) rfl rfl ?_
  refine mw_aload_n dX1_init_73 0 rfl ?_
  refine mw_get (v := .ref 27) (j := 11) (ci := 0) dX1_init_74 (by decide) rfl rfl rfl (by decide) uws_0 wt_86 (Or.inl rfl) (by simp [mfv, mft, tyX1, mmR_uI, mmR_uR, va_rf]) ?_
  refine mw_iconst (v := 0) dX1_init_77 (by decide) ?_
  refine mw_iconst (v := 1) dX1_init_78 (by decide) ?_
  refine mw_iast dX1_init_79 (by decide) rfl (mib1 rfl) ?_
  exact mw_vret dX1_init_80 rfl rfl rfl rfl
def s_X4_init_28 (σ : MSt) : MSt := (muR (muR (muR (muR (muR (muR (muR (muR (muR (muR σ 28 1 (some 29)) 28 2 (some 30)) 28 3 (some 31)) 28 4 (some 32)) 28 5 (some 33)) 28 6 (some 34)) 28 7 (some 35)) 28 8 (some 36)) 28 9 (some 37)) 28 10 (some 38))
theorem z_X4_init_28 {σ : MSt} {k : Nat} (hk : 39 ≤ k) (z : zc σ k) : zc (s_X4_init_28 σ) k := by
  unfold s_X4_init_28
  exact (zc_uR (by omega) (zc_uR (by omega) (zc_uR (by omega) (zc_uR (by omega) (zc_uR (by omega) (zc_uR (by omega) (zc_uR (by omega) (zc_uR (by omega) (zc_uR (by omega) (zc_uR (by omega) z))))))))))
set_option maxRecDepth 100000 in
set_option maxHeartbeats 4000000 in
theorem c_X4_init_28 (l : Launch) (σ : MSt) (hz : ∀ k, 29 ≤ k → zc σ k) : MCt l yX4_init cX4_init 1 none (mkr 1 10 4032) [.ref 28] 29 σ 10 4032 (39, none, s_X4_init_28 σ) := by
  refine mw_entry (own := RX4) (ini := true) (L := [(0, .ref 28)]) (by decide +kernel) rfl (fun _ => rfl) rfl (Nat.le_of_ble_eq_true rfl) (by decide) (fun E => ?_)
  refine mw_aload_n dX4_init_0 0 rfl ?_
  refine mw_objInit dX4_init_1 wt_846 wt_835 wt_836 (by decide) (by decide) ?_
  refine mw_aload_n dX4_init_4 0 rfl ?_
  refine mw_sipush (v := 1296) dX4_init_5 (by decide) ?_
  refine mk_newaI (n' := 30) (c' := 1) (s' := 1296) rfl rfl rfl (N0 := 1296) (N := 1296) dX4_init_8 wt_840 rfl (by decide) (by decide) (by decide) (hz 29 (by decide)) (by decide) (by decide) (by decide) rfl ?_
  refine mw_putR (ty := (.array .int)) (ci := 3) (j := 1) tyX4 tyX4_ok nmX4 dX4_init_10 (by decide) rfl rfl rfl (by decide) uws_3 wt_118 (Or.inl rfl) (Or.inr ⟨rfl, rfl, rfl⟩) (by decide +kernel) rfl rfl ?_
  refine mw_aload_n dX4_init_13 0 rfl ?_
  refine mw_sipush (v := 1296) dX4_init_14 (by decide) ?_
  refine mk_newaL (n' := 31) (c' := 2) (s' := 2592) rfl rfl rfl (N0 := 1296) (N := 1296) dX4_init_17 wt_847 rfl (by decide) (by decide) (by decide) (zc_uR (by decide) (hz 30 (by decide))) (by decide) (by decide) (by decide) rfl ?_
  refine mw_putR (ty := (.array .long)) (ci := 3) (j := 2) tyX4 tyX4_ok nmX4 dX4_init_19 (by decide) rfl rfl rfl (by decide) uws_3 wt_119 (Or.inl rfl) (Or.inr ⟨rfl, rfl, rfl⟩) (by decide +kernel) rfl rfl ?_
  refine mw_aload_n dX4_init_22 0 rfl ?_
  refine mw_sipush (v := 1296) dX4_init_23 (by decide) ?_
  refine mk_newaL (n' := 32) (c' := 3) (s' := 3888) rfl rfl rfl (N0 := 1296) (N := 1296) dX4_init_26 wt_847 rfl (by decide) (by decide) (by decide) (zc_uR (by decide) (zc_uR (by decide) (hz 31 (by decide)))) (by decide) (by decide) (by decide) rfl ?_
  refine mw_putR (ty := (.array .long)) (ci := 3) (j := 3) tyX4 tyX4_ok nmX4 dX4_init_28 (by decide) rfl rfl rfl (by decide) uws_3 wt_120 (Or.inl rfl) (Or.inr ⟨rfl, rfl, rfl⟩) (by decide +kernel) rfl rfl ?_
  refine mw_aload_n dX4_init_31 0 rfl ?_
  refine mw_bipush (v := 6) dX4_init_32 (by decide) ?_
  refine mk_newaL (n' := 33) (c' := 4) (s' := 3894) rfl rfl rfl (N0 := 6) (N := 6) dX4_init_34 wt_847 rfl (by decide) (by decide) (by decide) (zc_uR (by decide) (zc_uR (by decide) (zc_uR (by decide) (hz 32 (by decide))))) (by decide) (by decide) (by decide) rfl ?_
  refine mw_putR (ty := (.array .long)) (ci := 3) (j := 4) tyX4 tyX4_ok nmX4 dX4_init_36 (by decide) rfl rfl rfl (by decide) uws_3 wt_159 (Or.inl rfl) (Or.inr ⟨rfl, rfl, rfl⟩) (by decide +kernel) rfl rfl ?_
  refine mw_aload_n dX4_init_39 0 rfl ?_
  refine mw_bipush (v := 6) dX4_init_40 (by decide) ?_
  refine mk_newaZ (n' := 34) (c' := 5) (s' := 3900) rfl rfl rfl (N0 := 6) (N := 6) dX4_init_42 wt_848 rfl (by decide) (by decide) (by decide) (zc_uR (by decide) (zc_uR (by decide) (zc_uR (by decide) (zc_uR (by decide) (hz 33 (by decide)))))) (by decide) (by decide) (by decide) rfl ?_
  refine mw_putR (ty := (.array .boolean)) (ci := 3) (j := 5) tyX4 tyX4_ok nmX4 dX4_init_44 (by decide) rfl rfl rfl (by decide) uws_3 wt_164 (Or.inl rfl) (Or.inr ⟨rfl, rfl, rfl⟩) (by decide +kernel) rfl rfl ?_
  refine mw_aload_n dX4_init_47 0 rfl ?_
  refine mw_bipush (v := 6) dX4_init_48 (by decide) ?_
  refine mk_newaI (n' := 35) (c' := 6) (s' := 3906) rfl rfl rfl (N0 := 6) (N := 6) dX4_init_50 wt_840 rfl (by decide) (by decide) (by decide) (zc_uR (by decide) (zc_uR (by decide) (zc_uR (by decide) (zc_uR (by decide) (zc_uR (by decide) (hz 34 (by decide))))))) (by decide) (by decide) (by decide) rfl ?_
  refine mw_putR (ty := (.array .int)) (ci := 3) (j := 6) tyX4 tyX4_ok nmX4 dX4_init_52 (by decide) rfl rfl rfl (by decide) uws_3 wt_108 (Or.inl rfl) (Or.inr ⟨rfl, rfl, rfl⟩) (by decide +kernel) rfl rfl ?_
  refine mw_aload_n dX4_init_55 0 rfl ?_
  refine mw_bipush (v := 84) dX4_init_56 (by decide) ?_
  refine mk_newaI (n' := 36) (c' := 7) (s' := 3990) rfl rfl rfl (N0 := 84) (N := 84) dX4_init_58 wt_840 rfl (by decide) (by decide) (by decide) (zc_uR (by decide) (zc_uR (by decide) (zc_uR (by decide) (zc_uR (by decide) (zc_uR (by decide) (zc_uR (by decide) (hz 35 (by decide)))))))) (by decide) (by decide) (by decide) rfl ?_
  refine mw_putR (ty := (.array .int)) (ci := 3) (j := 7) tyX4 tyX4_ok nmX4 dX4_init_60 (by decide) rfl rfl rfl (by decide) uws_3 wt_109 (Or.inl rfl) (Or.inr ⟨rfl, rfl, rfl⟩) (by decide +kernel) rfl rfl ?_
  refine mw_aload_n dX4_init_63 0 rfl ?_
  refine mw_bipush (v := 14) dX4_init_64 (by decide) ?_
  refine mk_newaI (n' := 37) (c' := 8) (s' := 4004) rfl rfl rfl (N0 := 14) (N := 14) dX4_init_66 wt_840 rfl (by decide) (by decide) (by decide) (zc_uR (by decide) (zc_uR (by decide) (zc_uR (by decide) (zc_uR (by decide) (zc_uR (by decide) (zc_uR (by decide) (zc_uR (by decide) (hz 36 (by decide))))))))) (by decide) (by decide) (by decide) rfl ?_
  refine mw_putR (ty := (.array .int)) (ci := 3) (j := 8) tyX4 tyX4_ok nmX4 dX4_init_68 (by decide) rfl rfl rfl (by decide) uws_3 wt_110 (Or.inl rfl) (Or.inr ⟨rfl, rfl, rfl⟩) (by decide +kernel) rfl rfl ?_
  refine mw_aload_n dX4_init_71 0 rfl ?_
  refine mw_bipush (v := 14) dX4_init_72 (by decide) ?_
  refine mk_newaL (n' := 38) (c' := 9) (s' := 4018) rfl rfl rfl (N0 := 14) (N := 14) dX4_init_74 wt_847 rfl (by decide) (by decide) (by decide) (zc_uR (by decide) (zc_uR (by decide) (zc_uR (by decide) (zc_uR (by decide) (zc_uR (by decide) (zc_uR (by decide) (zc_uR (by decide) (zc_uR (by decide) (hz 37 (by decide)))))))))) (by decide) (by decide) (by decide) rfl ?_
  refine mw_putR (ty := (.array .long)) (ci := 3) (j := 9) tyX4 tyX4_ok nmX4 dX4_init_76 (by decide) rfl rfl rfl (by decide) uws_3 wt_111 (Or.inl rfl) (Or.inr ⟨rfl, rfl, rfl⟩) (by decide +kernel) rfl rfl ?_
  refine mw_aload_n dX4_init_79 0 rfl ?_
  refine mw_bipush (v := 14) dX4_init_80 (by decide) ?_
  refine mk_newaL (n' := 39) (c' := 10) (s' := 4032) rfl rfl rfl (N0 := 14) (N := 14) dX4_init_82 wt_847 rfl (by decide) (by decide) (by decide) (zc_uR (by decide) (zc_uR (by decide) (zc_uR (by decide) (zc_uR (by decide) (zc_uR (by decide) (zc_uR (by decide) (zc_uR (by decide) (zc_uR (by decide) (zc_uR (by decide) (hz 38 (by decide))))))))))) (by decide) (by decide) (by decide) rfl ?_
  refine mw_putR (ty := (.array .long)) (ci := 3) (j := 10) tyX4 tyX4_ok nmX4 dX4_init_84 (by decide) rfl rfl rfl (by decide) uws_3 wt_112 (Or.inl rfl) (Or.inr ⟨rfl, rfl, rfl⟩) (by decide +kernel) rfl rfl ?_
  exact mw_vret dX4_init_87 rfl rfl rfl rfl
def s_X0_init_39 (σ : MSt) : MSt := (muR (muR (muR σ 39 7 (some 40)) 39 8 (some 41)) 39 9 (some 42))
theorem z_X0_init_39 {σ : MSt} {k : Nat} (hk : 43 ≤ k) (z : zc σ k) : zc (s_X0_init_39 σ) k := by
  unfold s_X0_init_39
  exact (zc_uR (by omega) (zc_uR (by omega) (zc_uR (by omega) z)))
set_option maxRecDepth 100000 in
set_option maxHeartbeats 4000000 in
theorem c_X0_init_39 (l : Launch) (σ : MSt) (hz : ∀ k, 40 ≤ k → zc σ k) : MCt l yX0_init cX0_init 1 none (mkr 1 3 42) [.ref 39] 40 σ 3 42 (43, none, s_X0_init_39 σ) := by
  refine mw_entry (own := RX0) (ini := true) (L := [(0, .ref 39)]) (by decide +kernel) rfl (fun _ => rfl) rfl (Nat.le_of_ble_eq_true rfl) (by decide) (fun E => ?_)
  refine mw_aload_n dX0_init_0 0 rfl ?_
  refine mw_objInit dX0_init_1 wt_853 wt_835 wt_836 (by decide) (by decide) ?_
  refine mw_aload_n dX0_init_4 0 rfl ?_
  refine mw_bipush (v := 14) dX0_init_5 (by decide) ?_
  refine mk_newaL (n' := 41) (c' := 1) (s' := 14) rfl rfl rfl (N0 := 14) (N := 14) dX0_init_7 wt_847 rfl (by decide) (by decide) (by decide) (hz 40 (by decide)) (by decide) (by decide) (by decide) rfl ?_
  refine mw_putR (ty := (.array .long)) (ci := 6) (j := 7) tyX7 tyX7_ok nmX7 dX0_init_9 (by decide) rfl rfl rfl (by decide) uws_6 wt_224 (Or.inl rfl) (Or.inr ⟨rfl, rfl, rfl⟩) (by decide +kernel) rfl rfl ?_
  refine mw_aload_n dX0_init_12 0 rfl ?_
  refine mw_bipush (v := 14) dX0_init_13 (by decide) ?_
  refine mk_newaL (n' := 42) (c' := 2) (s' := 28) rfl rfl rfl (N0 := 14) (N := 14) dX0_init_15 wt_847 rfl (by decide) (by decide) (by decide) (zc_uR (by decide) (hz 41 (by decide))) (by decide) (by decide) (by decide) rfl ?_
  refine mw_putR (ty := (.array .long)) (ci := 6) (j := 8) tyX7 tyX7_ok nmX7 dX0_init_17 (by decide) rfl rfl rfl (by decide) uws_6 wt_226 (Or.inl rfl) (Or.inr ⟨rfl, rfl, rfl⟩) (by decide +kernel) rfl rfl ?_
  refine mw_aload_n dX0_init_20 0 rfl ?_
  refine mw_bipush (v := 14) dX0_init_21 (by decide) ?_
  refine mk_newaL (n' := 43) (c' := 3) (s' := 42) rfl rfl rfl (N0 := 14) (N := 14) dX0_init_23 wt_847 rfl (by decide) (by decide) (by decide) (zc_uR (by decide) (zc_uR (by decide) (hz 42 (by decide)))) (by decide) (by decide) (by decide) rfl ?_
  refine mw_putR (ty := (.array .long)) (ci := 6) (j := 9) tyX7 tyX7_ok nmX7 dX0_init_25 (by decide) rfl rfl rfl (by decide) uws_6 wt_249 (Or.inl rfl) (Or.inr ⟨rfl, rfl, rfl⟩) (by decide +kernel) rfl rfl ?_
  exact mw_vret dX0_init_28 rfl rfl rfl rfl
def s_X2_init_43 (σ : MSt) : MSt := (muR σ 43 0 (some 44))
theorem z_X2_init_43 {σ : MSt} {k : Nat} (hk : 45 ≤ k) (z : zc σ k) : zc (s_X2_init_43 σ) k := by
  unfold s_X2_init_43
  exact (zc_uR (by omega) z)
set_option maxRecDepth 100000 in
set_option maxHeartbeats 4000000 in
theorem c_X2_init_43 (l : Launch) (σ : MSt) (hz : ∀ k, 44 ≤ k → zc σ k) : MCt l yX2_init cX2_init 1 none (mkr 1 1 6) [.ref 43] 44 σ 1 6 (45, none, s_X2_init_43 σ) := by
  refine mw_entry (own := RX2) (ini := true) (L := [(0, .ref 43)]) (by decide +kernel) rfl (fun _ => rfl) rfl (Nat.le_of_ble_eq_true rfl) (by decide) (fun E => ?_)
  refine mw_aload_n dX2_init_0 0 rfl ?_
  refine mw_objInit dX2_init_1 wt_858 wt_835 wt_836 (by decide) (by decide) ?_
  refine mw_aload_n dX2_init_4 0 rfl ?_
  refine mw_bipush (v := 6) dX2_init_5 (by decide) ?_
  refine mk_newaI (n' := 45) (c' := 1) (s' := 6) rfl rfl rfl (N0 := 6) (N := 6) dX2_init_7 wt_840 rfl (by decide) (by decide) (by decide) (hz 44 (by decide)) (by decide) (by decide) (by decide) rfl ?_
  refine mw_putR (ty := (.array .int)) (ci := 1) (j := 0) tyX2 tyX2_ok nmX2 dX2_init_9 (by decide) rfl rfl rfl (by decide) uws_1 wt_273 (Or.inl rfl) (Or.inr ⟨rfl, rfl, rfl⟩) (by decide +kernel) rfl rfl ?_
  exact mw_vret dX2_init_12 rfl rfl rfl rfl
def s_X7_init_39 (σ : MSt) : MSt := (muR (s_X2_init_43 (s_X0_init_39 σ)) 39 10 (some 43))
theorem z_X7_init_39 {σ : MSt} {k : Nat} (hk : 45 ≤ k) (z : zc σ k) : zc (s_X7_init_39 σ) k := by
  unfold s_X7_init_39
  exact (zc_uR (by omega) (z_X2_init_43 (by omega) (z_X0_init_39 (by omega) z)))
set_option maxRecDepth 100000 in
set_option maxHeartbeats 4000000 in
theorem c_X7_init_39 (l : Launch) (σ : MSt) (hz : ∀ k, 40 ≤ k → zc σ k) : MCt l yX7_init cX7_init 1 none (mkr 2 5 49) [.ref 39] 40 σ 5 49 (45, none, s_X7_init_39 σ) := by
  refine mw_entry (own := RX7) (ini := true) (L := [(0, .ref 39)]) (by decide +kernel) rfl (fun _ => rfl) rfl (Nat.le_of_ble_eq_true rfl) (by decide) (fun E => ?_)
  refine mw_aload_n dX7_init_0 0 rfl ?_
  refine mk_callIN (n' := 43) (c' := 3) (s' := 42) (As := []) lkJ_RX7_3_yX0_init dX7_init_1 (c_X0_init_39 l _ (fun k hk => (hz k (by omega)))) rfl rfl (Nat.le_of_ble_eq_true rfl) ⟨by decide, by decide⟩ rfl rfl rfl rfl rfl (by decide) ⟨by decide, by decide⟩ ?_
  refine mw_aload_n dX7_init_4 0 rfl ?_
  refine mk_new (n' := 44) (c' := 4) (s' := 43) rfl rfl rfl (N0 := 1) (ci := 1) tyX2 dX7_init_5 rfl rfl rfl uws_1 tyX2_ok (by decide +kernel) wt_856 wt_857 wt_272 (z_X0_init_39 (by decide) (hz 43 (by decide))) (by decide) (by decide) (by decide) rfl ?_
  refine mw_dup dX7_init_8 rfl ?_
  refine mk_callIN (n' := 45) (c' := 5) (s' := 49) (As := []) lkJ_RX7_11_yX2_init dX7_init_9 (c_X2_init_43 l _ (fun k hk => (z_X0_init_39 (by omega) (hz k (by omega))))) rfl rfl (Nat.le_of_ble_eq_true rfl) ⟨by decide, by decide⟩ rfl rfl rfl rfl rfl (by decide) ⟨by decide, by decide⟩ ?_
  refine mw_putR (ty := (.object "RoundsPerHour$Joins")) (ci := 6) (j := 10) tyX7 tyX7_ok nmX7 dX7_init_12 (by decide) rfl rfl rfl (by decide) uws_6 wt_265 (Or.inl rfl) (Or.inr ⟨rfl, rfl, rfl⟩) (by decide +kernel) rfl rfl ?_
  exact mw_vret dX7_init_15 rfl rfl rfl rfl
def s_X0_init_45 (σ : MSt) : MSt := (muR (muR (muR σ 45 7 (some 46)) 45 8 (some 47)) 45 9 (some 48))
theorem z_X0_init_45 {σ : MSt} {k : Nat} (hk : 49 ≤ k) (z : zc σ k) : zc (s_X0_init_45 σ) k := by
  unfold s_X0_init_45
  exact (zc_uR (by omega) (zc_uR (by omega) (zc_uR (by omega) z)))
set_option maxRecDepth 100000 in
set_option maxHeartbeats 4000000 in
theorem c_X0_init_45 (l : Launch) (σ : MSt) (hz : ∀ k, 46 ≤ k → zc σ k) : MCt l yX0_init cX0_init 1 none (mkr 1 3 42) [.ref 45] 46 σ 3 42 (49, none, s_X0_init_45 σ) := by
  refine mw_entry (own := RX0) (ini := true) (L := [(0, .ref 45)]) (by decide +kernel) rfl (fun _ => rfl) rfl (Nat.le_of_ble_eq_true rfl) (by decide) (fun E => ?_)
  refine mw_aload_n dX0_init_0 0 rfl ?_
  refine mw_objInit dX0_init_1 wt_853 wt_835 wt_836 (by decide) (by decide) ?_
  refine mw_aload_n dX0_init_4 0 rfl ?_
  refine mw_bipush (v := 14) dX0_init_5 (by decide) ?_
  refine mk_newaL (n' := 47) (c' := 1) (s' := 14) rfl rfl rfl (N0 := 14) (N := 14) dX0_init_7 wt_847 rfl (by decide) (by decide) (by decide) (hz 46 (by decide)) (by decide) (by decide) (by decide) rfl ?_
  refine mw_putR (ty := (.array .long)) (ci := 7) (j := 7) tyX8 tyX8_ok nmX8 dX0_init_9 (by decide) rfl rfl rfl (by decide) uws_7 wt_224 (Or.inl rfl) (Or.inr ⟨rfl, rfl, rfl⟩) (by decide +kernel) rfl rfl ?_
  refine mw_aload_n dX0_init_12 0 rfl ?_
  refine mw_bipush (v := 14) dX0_init_13 (by decide) ?_
  refine mk_newaL (n' := 48) (c' := 2) (s' := 28) rfl rfl rfl (N0 := 14) (N := 14) dX0_init_15 wt_847 rfl (by decide) (by decide) (by decide) (zc_uR (by decide) (hz 47 (by decide))) (by decide) (by decide) (by decide) rfl ?_
  refine mw_putR (ty := (.array .long)) (ci := 7) (j := 8) tyX8 tyX8_ok nmX8 dX0_init_17 (by decide) rfl rfl rfl (by decide) uws_7 wt_226 (Or.inl rfl) (Or.inr ⟨rfl, rfl, rfl⟩) (by decide +kernel) rfl rfl ?_
  refine mw_aload_n dX0_init_20 0 rfl ?_
  refine mw_bipush (v := 14) dX0_init_21 (by decide) ?_
  refine mk_newaL (n' := 49) (c' := 3) (s' := 42) rfl rfl rfl (N0 := 14) (N := 14) dX0_init_23 wt_847 rfl (by decide) (by decide) (by decide) (zc_uR (by decide) (zc_uR (by decide) (hz 48 (by decide)))) (by decide) (by decide) (by decide) rfl ?_
  refine mw_putR (ty := (.array .long)) (ci := 7) (j := 9) tyX8 tyX8_ok nmX8 dX0_init_25 (by decide) rfl rfl rfl (by decide) uws_7 wt_249 (Or.inl rfl) (Or.inr ⟨rfl, rfl, rfl⟩) (by decide +kernel) rfl rfl ?_
  exact mw_vret dX0_init_28 rfl rfl rfl rfl
def s_X8_init_45 (σ : MSt) : MSt := (muR (muR (s_X0_init_45 σ) 45 10 (some 49)) 45 11 (some 50))
theorem z_X8_init_45 {σ : MSt} {k : Nat} (hk : 51 ≤ k) (z : zc σ k) : zc (s_X8_init_45 σ) k := by
  unfold s_X8_init_45
  exact (zc_uR (by omega) (zc_uR (by omega) (z_X0_init_45 (by omega) z)))
set_option maxRecDepth 100000 in
set_option maxHeartbeats 4000000 in
theorem c_X8_init_45 (l : Launch) (σ : MSt) (hz : ∀ k, 46 ≤ k → zc σ k) : MCt l yX8_init cX8_init 1 none (mkr 2 5 54) [.ref 45] 46 σ 5 54 (51, none, s_X8_init_45 σ) := by
  refine mw_entry (own := RX8) (ini := true) (L := [(0, .ref 45)]) (by decide +kernel) rfl (fun _ => rfl) rfl (Nat.le_of_ble_eq_true rfl) (by decide) (fun E => ?_)
  refine mw_aload_n dX8_init_0 0 rfl ?_
  refine mk_callIN (n' := 49) (c' := 3) (s' := 42) (As := []) lkJ_RX8_3_yX0_init dX8_init_1 (c_X0_init_45 l _ (fun k hk => (hz k (by omega)))) rfl rfl (Nat.le_of_ble_eq_true rfl) ⟨by decide, by decide⟩ rfl rfl rfl rfl rfl (by decide) ⟨by decide, by decide⟩ ?_
  refine mw_aload_n dX8_init_4 0 rfl ?_
  refine mw_bipush (v := 6) dX8_init_5 (by decide) ?_
  refine mk_newaL (n' := 50) (c' := 4) (s' := 48) rfl rfl rfl (N0 := 6) (N := 6) dX8_init_7 wt_847 rfl (by decide) (by decide) (by decide) (z_X0_init_45 (by decide) (hz 49 (by decide))) (by decide) (by decide) (by decide) rfl ?_
  refine mw_putR (ty := (.array .long)) (ci := 7) (j := 10) tyX8 tyX8_ok nmX8 dX8_init_9 (by decide) rfl rfl rfl (by decide) uws_7 wt_316 (Or.inl rfl) (Or.inr ⟨rfl, rfl, rfl⟩) (by decide +kernel) rfl rfl ?_
  refine mw_aload_n dX8_init_12 0 rfl ?_
  refine mw_bipush (v := 6) dX8_init_13 (by decide) ?_
  refine mk_newaI (n' := 51) (c' := 5) (s' := 54) rfl rfl rfl (N0 := 6) (N := 6) dX8_init_15 wt_840 rfl (by decide) (by decide) (by decide) (zc_uR (by decide) (z_X0_init_45 (by decide) (hz 50 (by decide)))) (by decide) (by decide) (by decide) rfl ?_
  refine mw_putR (ty := (.array .int)) (ci := 7) (j := 11) tyX8 tyX8_ok nmX8 dX8_init_17 (by decide) rfl rfl rfl (by decide) uws_7 wt_311 (Or.inl rfl) (Or.inr ⟨rfl, rfl, rfl⟩) (by decide +kernel) rfl rfl ?_
  exact mw_vret dX8_init_20 rfl rfl rfl rfl
def s_X0_init_51 (σ : MSt) : MSt := (muR (muR (muR σ 51 7 (some 52)) 51 8 (some 53)) 51 9 (some 54))
theorem z_X0_init_51 {σ : MSt} {k : Nat} (hk : 55 ≤ k) (z : zc σ k) : zc (s_X0_init_51 σ) k := by
  unfold s_X0_init_51
  exact (zc_uR (by omega) (zc_uR (by omega) (zc_uR (by omega) z)))
set_option maxRecDepth 100000 in
set_option maxHeartbeats 4000000 in
theorem c_X0_init_51 (l : Launch) (σ : MSt) (hz : ∀ k, 52 ≤ k → zc σ k) : MCt l yX0_init cX0_init 1 none (mkr 1 3 42) [.ref 51] 52 σ 3 42 (55, none, s_X0_init_51 σ) := by
  refine mw_entry (own := RX0) (ini := true) (L := [(0, .ref 51)]) (by decide +kernel) rfl (fun _ => rfl) rfl (Nat.le_of_ble_eq_true rfl) (by decide) (fun E => ?_)
  refine mw_aload_n dX0_init_0 0 rfl ?_
  refine mw_objInit dX0_init_1 wt_853 wt_835 wt_836 (by decide) (by decide) ?_
  refine mw_aload_n dX0_init_4 0 rfl ?_
  refine mw_bipush (v := 14) dX0_init_5 (by decide) ?_
  refine mk_newaL (n' := 53) (c' := 1) (s' := 14) rfl rfl rfl (N0 := 14) (N := 14) dX0_init_7 wt_847 rfl (by decide) (by decide) (by decide) (hz 52 (by decide)) (by decide) (by decide) (by decide) rfl ?_
  refine mw_putR (ty := (.array .long)) (ci := 2) (j := 7) tyX3 tyX3_ok nmX3 dX0_init_9 (by decide) rfl rfl rfl (by decide) uws_2 wt_224 (Or.inl rfl) (Or.inr ⟨rfl, rfl, rfl⟩) (by decide +kernel) rfl rfl ?_
  refine mw_aload_n dX0_init_12 0 rfl ?_
  refine mw_bipush (v := 14) dX0_init_13 (by decide) ?_
  refine mk_newaL (n' := 54) (c' := 2) (s' := 28) rfl rfl rfl (N0 := 14) (N := 14) dX0_init_15 wt_847 rfl (by decide) (by decide) (by decide) (zc_uR (by decide) (hz 53 (by decide))) (by decide) (by decide) (by decide) rfl ?_
  refine mw_putR (ty := (.array .long)) (ci := 2) (j := 8) tyX3 tyX3_ok nmX3 dX0_init_17 (by decide) rfl rfl rfl (by decide) uws_2 wt_226 (Or.inl rfl) (Or.inr ⟨rfl, rfl, rfl⟩) (by decide +kernel) rfl rfl ?_
  refine mw_aload_n dX0_init_20 0 rfl ?_
  refine mw_bipush (v := 14) dX0_init_21 (by decide) ?_
  refine mk_newaL (n' := 55) (c' := 3) (s' := 42) rfl rfl rfl (N0 := 14) (N := 14) dX0_init_23 wt_847 rfl (by decide) (by decide) (by decide) (zc_uR (by decide) (zc_uR (by decide) (hz 54 (by decide)))) (by decide) (by decide) (by decide) rfl ?_
  refine mw_putR (ty := (.array .long)) (ci := 2) (j := 9) tyX3 tyX3_ok nmX3 dX0_init_25 (by decide) rfl rfl rfl (by decide) uws_2 wt_249 (Or.inl rfl) (Or.inr ⟨rfl, rfl, rfl⟩) (by decide +kernel) rfl rfl ?_
  exact mw_vret dX0_init_28 rfl rfl rfl rfl
def s_X3_init_51 (σ : MSt) : MSt := (s_X0_init_51 σ)
theorem z_X3_init_51 {σ : MSt} {k : Nat} (hk : 55 ≤ k) (z : zc σ k) : zc (s_X3_init_51 σ) k := by
  unfold s_X3_init_51
  exact (z_X0_init_51 (by omega) z)
set_option maxRecDepth 100000 in
set_option maxHeartbeats 4000000 in
theorem c_X3_init_51 (l : Launch) (σ : MSt) (hz : ∀ k, 52 ≤ k → zc σ k) : MCt l yX3_init cX3_init 1 none (mkr 2 3 42) [.ref 51] 52 σ 3 42 (55, none, s_X3_init_51 σ) := by
  refine mw_entry (own := RX3) (ini := true) (L := [(0, .ref 51)]) (by decide +kernel) rfl (fun _ => rfl) rfl (Nat.le_of_ble_eq_true rfl) (by decide) (fun E => ?_)
  refine mw_aload_n dX3_init_0 0 rfl ?_
  refine mk_callIN (n' := 55) (c' := 3) (s' := 42) (As := []) lkJ_RX3_1_yX0_init dX3_init_1 (c_X0_init_51 l _ (fun k hk => (hz k (by omega)))) rfl rfl (Nat.le_of_ble_eq_true rfl) ⟨by decide, by decide⟩ rfl rfl rfl rfl rfl (by decide) ⟨by decide, by decide⟩ ?_
  exact mw_vret dX3_init_4 rfl rfl rfl rfl
def s_X2_init_55 (σ : MSt) : MSt := (muR σ 55 0 (some 56))
theorem z_X2_init_55 {σ : MSt} {k : Nat} (hk : 57 ≤ k) (z : zc σ k) : zc (s_X2_init_55 σ) k := by
  unfold s_X2_init_55
  exact (zc_uR (by omega) z)
set_option maxRecDepth 100000 in
set_option maxHeartbeats 4000000 in
theorem c_X2_init_55 (l : Launch) (σ : MSt) (hz : ∀ k, 56 ≤ k → zc σ k) : MCt l yX2_init cX2_init 1 none (mkr 1 1 6) [.ref 55] 56 σ 1 6 (57, none, s_X2_init_55 σ) := by
  refine mw_entry (own := RX2) (ini := true) (L := [(0, .ref 55)]) (by decide +kernel) rfl (fun _ => rfl) rfl (Nat.le_of_ble_eq_true rfl) (by decide) (fun E => ?_)
  refine mw_aload_n dX2_init_0 0 rfl ?_
  refine mw_objInit dX2_init_1 wt_858 wt_835 wt_836 (by decide) (by decide) ?_
  refine mw_aload_n dX2_init_4 0 rfl ?_
  refine mw_bipush (v := 6) dX2_init_5 (by decide) ?_
  refine mk_newaI (n' := 57) (c' := 1) (s' := 6) rfl rfl rfl (N0 := 6) (N := 6) dX2_init_7 wt_840 rfl (by decide) (by decide) (by decide) (hz 56 (by decide)) (by decide) (by decide) (by decide) rfl ?_
  refine mw_putR (ty := (.array .int)) (ci := 1) (j := 0) tyX2 tyX2_ok nmX2 dX2_init_9 (by decide) rfl rfl rfl (by decide) uws_1 wt_273 (Or.inl rfl) (Or.inr ⟨rfl, rfl, rfl⟩) (by decide +kernel) rfl rfl ?_
  exact mw_vret dX2_init_12 rfl rfl rfl rfl
def s_X6_init_57 (σ : MSt) : MSt := (muR σ 57 1 (some 58))
theorem z_X6_init_57 {σ : MSt} {k : Nat} (hk : 59 ≤ k) (z : zc σ k) : zc (s_X6_init_57 σ) k := by
  unfold s_X6_init_57
  exact (zc_uR (by omega) z)
set_option maxRecDepth 100000 in
set_option maxHeartbeats 4000000 in
theorem c_X6_init_57 (l : Launch) (σ : MSt) (hz : ∀ k, 58 ≤ k → zc σ k) : MCt l yX6_init cX6_init 1 none (mkr 1 1 120) [.ref 57] 58 σ 1 120 (59, none, s_X6_init_57 σ) := by
  refine mw_entry (own := RX6) (ini := true) (L := [(0, .ref 57)]) (by decide +kernel) rfl (fun _ => rfl) rfl (Nat.le_of_ble_eq_true rfl) (by decide) (fun E => ?_)
  refine mw_aload_n dX6_init_0 0 rfl ?_
  refine mw_objInit dX6_init_1 wt_874 wt_835 wt_836 (by decide) (by decide) ?_
  refine mw_aload_n dX6_init_4 0 rfl ?_
  refine mw_bipush (v := 120) dX6_init_5 (by decide) ?_
  refine mk_newaI (n' := 59) (c' := 1) (s' := 120) rfl rfl rfl (N0 := 120) (N := 120) dX6_init_7 wt_840 rfl (by decide) (by decide) (by decide) (hz 58 (by decide)) (by decide) (by decide) (by decide) rfl ?_
  refine mw_putR (ty := (.array .int)) (ci := 5) (j := 1) tyX6 tyX6_ok nmX6 dX6_init_9 (by decide) rfl rfl rfl (by decide) uws_5 wt_447 (Or.inl rfl) (Or.inr ⟨rfl, rfl, rfl⟩) (by decide +kernel) rfl rfl ?_
  exact mw_vret dX6_init_12 rfl rfl rfl rfl
def s_X5_init_61 (σ : MSt) : MSt := (muR σ 61 2 (some 62))
theorem z_X5_init_61 {σ : MSt} {k : Nat} (hk : 63 ≤ k) (z : zc σ k) : zc (s_X5_init_61 σ) k := by
  unfold s_X5_init_61
  exact (zc_uR (by omega) z)
set_option maxRecDepth 100000 in
set_option maxHeartbeats 4000000 in
theorem c_X5_init_61 (l : Launch) (σ : MSt) (hz : ∀ k, 62 ≤ k → zc σ k) : MCt l yX5_init cX5_init 1 none (mkr 1 1 40) [.ref 61] 62 σ 1 40 (63, none, s_X5_init_61 σ) := by
  refine mw_entry (own := RX5) (ini := true) (L := [(0, .ref 61)]) (by decide +kernel) rfl (fun _ => rfl) rfl (Nat.le_of_ble_eq_true rfl) (by decide) (fun E => ?_)
  refine mw_aload_n dX5_init_0 0 rfl ?_
  refine mw_objInit dX5_init_1 wt_880 wt_835 wt_836 (by decide) (by decide) ?_
  refine mw_aload_n dX5_init_4 0 rfl ?_
  refine mw_bipush (v := 40) dX5_init_5 (by decide) ?_
  refine mk_newaL (n' := 63) (c' := 1) (s' := 40) rfl rfl rfl (N0 := 40) (N := 40) dX5_init_7 wt_847 rfl (by decide) (by decide) (by decide) (hz 62 (by decide)) (by decide) (by decide) (by decide) rfl ?_
  refine mw_putR (ty := (.array .long)) (ci := 4) (j := 2) tyX5 tyX5_ok nmX5 dX5_init_9 (by decide) rfl rfl rfl (by decide) uws_4 wt_435 (Or.inl rfl) (Or.inr ⟨rfl, rfl, rfl⟩) (by decide +kernel) rfl rfl ?_
  exact mw_vret dX5_init_12 rfl rfl rfl rfl
def s_X5_init_63 (σ : MSt) : MSt := (muR σ 63 2 (some 64))
theorem z_X5_init_63 {σ : MSt} {k : Nat} (hk : 65 ≤ k) (z : zc σ k) : zc (s_X5_init_63 σ) k := by
  unfold s_X5_init_63
  exact (zc_uR (by omega) z)
set_option maxRecDepth 100000 in
set_option maxHeartbeats 4000000 in
theorem c_X5_init_63 (l : Launch) (σ : MSt) (hz : ∀ k, 64 ≤ k → zc σ k) : MCt l yX5_init cX5_init 1 none (mkr 1 1 40) [.ref 63] 64 σ 1 40 (65, none, s_X5_init_63 σ) := by
  refine mw_entry (own := RX5) (ini := true) (L := [(0, .ref 63)]) (by decide +kernel) rfl (fun _ => rfl) rfl (Nat.le_of_ble_eq_true rfl) (by decide) (fun E => ?_)
  refine mw_aload_n dX5_init_0 0 rfl ?_
  refine mw_objInit dX5_init_1 wt_880 wt_835 wt_836 (by decide) (by decide) ?_
  refine mw_aload_n dX5_init_4 0 rfl ?_
  refine mw_bipush (v := 40) dX5_init_5 (by decide) ?_
  refine mk_newaL (n' := 65) (c' := 1) (s' := 40) rfl rfl rfl (N0 := 40) (N := 40) dX5_init_7 wt_847 rfl (by decide) (by decide) (by decide) (hz 64 (by decide)) (by decide) (by decide) (by decide) rfl ?_
  refine mw_putR (ty := (.array .long)) (ci := 4) (j := 2) tyX5 tyX5_ok nmX5 dX5_init_9 (by decide) rfl rfl rfl (by decide) uws_4 wt_435 (Or.inl rfl) (Or.inr ⟨rfl, rfl, rfl⟩) (by decide +kernel) rfl rfl ?_
  exact mw_vret dX5_init_12 rfl rfl rfl rfl
def s_X5_init_65 (σ : MSt) : MSt := (muR σ 65 2 (some 66))
theorem z_X5_init_65 {σ : MSt} {k : Nat} (hk : 67 ≤ k) (z : zc σ k) : zc (s_X5_init_65 σ) k := by
  unfold s_X5_init_65
  exact (zc_uR (by omega) z)
set_option maxRecDepth 100000 in
set_option maxHeartbeats 4000000 in
theorem c_X5_init_65 (l : Launch) (σ : MSt) (hz : ∀ k, 66 ≤ k → zc σ k) : MCt l yX5_init cX5_init 1 none (mkr 1 1 40) [.ref 65] 66 σ 1 40 (67, none, s_X5_init_65 σ) := by
  refine mw_entry (own := RX5) (ini := true) (L := [(0, .ref 65)]) (by decide +kernel) rfl (fun _ => rfl) rfl (Nat.le_of_ble_eq_true rfl) (by decide) (fun E => ?_)
  refine mw_aload_n dX5_init_0 0 rfl ?_
  refine mw_objInit dX5_init_1 wt_880 wt_835 wt_836 (by decide) (by decide) ?_
  refine mw_aload_n dX5_init_4 0 rfl ?_
  refine mw_bipush (v := 40) dX5_init_5 (by decide) ?_
  refine mk_newaL (n' := 67) (c' := 1) (s' := 40) rfl rfl rfl (N0 := 40) (N := 40) dX5_init_7 wt_847 rfl (by decide) (by decide) (by decide) (hz 66 (by decide)) (by decide) (by decide) (by decide) rfl ?_
  refine mw_putR (ty := (.array .long)) (ci := 4) (j := 2) tyX5 tyX5_ok nmX5 dX5_init_9 (by decide) rfl rfl rfl (by decide) uws_4 wt_435 (Or.inl rfl) (Or.inr ⟨rfl, rfl, rfl⟩) (by decide +kernel) rfl rfl ?_
  exact mw_vret dX5_init_12 rfl rfl rfl rfl
def s_X5_init_67 (σ : MSt) : MSt := (muR σ 67 2 (some 68))
theorem z_X5_init_67 {σ : MSt} {k : Nat} (hk : 69 ≤ k) (z : zc σ k) : zc (s_X5_init_67 σ) k := by
  unfold s_X5_init_67
  exact (zc_uR (by omega) z)
set_option maxRecDepth 100000 in
set_option maxHeartbeats 4000000 in
theorem c_X5_init_67 (l : Launch) (σ : MSt) (hz : ∀ k, 68 ≤ k → zc σ k) : MCt l yX5_init cX5_init 1 none (mkr 1 1 40) [.ref 67] 68 σ 1 40 (69, none, s_X5_init_67 σ) := by
  refine mw_entry (own := RX5) (ini := true) (L := [(0, .ref 67)]) (by decide +kernel) rfl (fun _ => rfl) rfl (Nat.le_of_ble_eq_true rfl) (by decide) (fun E => ?_)
  refine mw_aload_n dX5_init_0 0 rfl ?_
  refine mw_objInit dX5_init_1 wt_880 wt_835 wt_836 (by decide) (by decide) ?_
  refine mw_aload_n dX5_init_4 0 rfl ?_
  refine mw_bipush (v := 40) dX5_init_5 (by decide) ?_
  refine mk_newaL (n' := 69) (c' := 1) (s' := 40) rfl rfl rfl (N0 := 40) (N := 40) dX5_init_7 wt_847 rfl (by decide) (by decide) (by decide) (hz 68 (by decide)) (by decide) (by decide) (by decide) rfl ?_
  refine mw_putR (ty := (.array .long)) (ci := 4) (j := 2) tyX5 tyX5_ok nmX5 dX5_init_9 (by decide) rfl rfl rfl (by decide) uws_4 wt_435 (Or.inl rfl) (Or.inr ⟨rfl, rfl, rfl⟩) (by decide +kernel) rfl rfl ?_
  exact mw_vret dX5_init_12 rfl rfl rfl rfl
def s_X9_init_0 (σ : MSt) : MSt := (muR (s_X5_init_67 (muR (s_X5_init_65 (muR (s_X5_init_63 (muR (s_X5_init_61 (muR (muR (muR (s_X6_init_57 (muR (s_X2_init_55 (muR (s_X3_init_51 (muR (s_X8_init_45 (muR (s_X7_init_39 (muR (s_X4_init_28 (muR (s_X1_init_19 (muR (s_X1_init_10 (muR (s_X1_init_1 σ) 0 0 (some 1))) 0 1 (some 10))) 0 2 (some 19))) 0 4 (some 28))) 0 5 (some 39))) 0 6 (some 45))) 0 7 (some 51))) 0 8 (some 55))) 0 9 (some 57)) 0 10 (some 59)) 0 11 (some 60))) 59 (0 : Int32).toNatClampNeg (some 61))) 59 (1 : Int32).toNatClampNeg (some 63))) 59 (2 : Int32).toNatClampNeg (some 65))) 59 (3 : Int32).toNatClampNeg (some 67))
theorem z_X9_init_0 {σ : MSt} {k : Nat} (hk : 69 ≤ k) (z : zc σ k) : zc (s_X9_init_0 σ) k := by
  unfold s_X9_init_0
  exact (zc_uR (by omega) (z_X5_init_67 (by omega) (zc_uR (by omega) (z_X5_init_65 (by omega) (zc_uR (by omega) (z_X5_init_63 (by omega) (zc_uR (by omega) (z_X5_init_61 (by omega) (zc_uR (by omega) (zc_uR (by omega) (zc_uR (by omega) (z_X6_init_57 (by omega) (zc_uR (by omega) (z_X2_init_55 (by omega) (zc_uR (by omega) (z_X3_init_51 (by omega) (zc_uR (by omega) (z_X8_init_45 (by omega) (zc_uR (by omega) (z_X7_init_39 (by omega) (zc_uR (by omega) (z_X4_init_28 (by omega) (zc_uR (by omega) (z_X1_init_19 (by omega) (zc_uR (by omega) (z_X1_init_10 (by omega) (zc_uR (by omega) (z_X1_init_1 (by omega) z))))))))))))))))))))))))))))
set_option maxRecDepth 100000 in
set_option maxHeartbeats 4000000 in
theorem c_X9_init_0 (l : Launch) (σ : MSt) (hz : ∀ k, 1 ≤ k → zc σ k) : MCt l yX9_init cX9_init 2 none (mkr 3 68 4915) [.ref 0] 1 σ 68 4915 (69, none, s_X9_init_0 σ) := by
  refine mw_entry (own := RX9) (ini := true) (L := [(0, .ref 0)]) (by decide +kernel) rfl (fun _ => rfl) rfl (Nat.le_of_ble_eq_true rfl) (by decide) (fun E => ?_)
  refine mw_aload_n dX9_init_0 0 rfl ?_
  refine mw_objInit dX9_init_1 wt_834 wt_835 wt_836 (by decide) (by decide) ?_
  refine mw_aload_n dX9_init_4 0 rfl ?_
  refine mk_new (n' := 2) (c' := 1) (s' := 12) rfl rfl rfl (N0 := 12) (ci := 0) tyX1 dX9_init_5 rfl rfl rfl uws_0 tyX1_ok (by decide +kernel) wt_837 wt_838 wt_32 (hz 1 (by decide)) (by decide) (by decide) (by decide) rfl ?_
  refine mw_dup dX9_init_8 rfl ?_
  refine mk_callI (n' := 10) (c' := 9) (s' := 122) (As := []) lkI_RX9_11_yX1_init dX9_init_9 (c_X1_init_1 l _ (fun k hk => (hz k (by omega)))) rfl rfl (Nat.le_of_ble_eq_true rfl) ⟨by decide, by decide⟩ rfl rfl rfl rfl rfl (by decide) ⟨by decide, by decide⟩ ?_
  refine mw_putR (ty := (.object "RoundsPerHour$Country")) (ci := 8) (j := 0) tyX9 tyX9_ok nmX9 dX9_init_12 (by decide) rfl rfl rfl (by decide) uws_8 wt_0 (Or.inl rfl) (Or.inr ⟨rfl, rfl, rfl⟩) (by decide +kernel) rfl rfl ?_
  refine mw_aload_n dX9_init_15 0 rfl ?_
  refine mk_new (n' := 11) (c' := 10) (s' := 134) rfl rfl rfl (N0 := 12) (ci := 0) tyX1 dX9_init_16 rfl rfl rfl uws_0 tyX1_ok (by decide +kernel) wt_837 wt_838 wt_32 (zc_uR (by decide) (z_X1_init_1 (by decide) (hz 10 (by decide)))) (by decide) (by decide) (by decide) rfl ?_
  refine mw_dup dX9_init_19 rfl ?_
  refine mk_callI (n' := 19) (c' := 18) (s' := 244) (As := []) lkI_RX9_11_yX1_init dX9_init_20 (c_X1_init_10 l _ (fun k hk => (zc_uR (by omega) (z_X1_init_1 (by omega) (hz k (by omega)))))) rfl rfl (Nat.le_of_ble_eq_true rfl) ⟨by decide, by decide⟩ rfl rfl rfl rfl rfl (by decide) ⟨by decide, by decide⟩ ?_
  refine mw_putR (ty := (.object "RoundsPerHour$Country")) (ci := 8) (j := 1) tyX9 tyX9_ok nmX9 dX9_init_23 (by decide) rfl rfl rfl (by decide) uws_8 wt_569 (Or.inl rfl) (Or.inr ⟨rfl, rfl, rfl⟩) (by decide +kernel) rfl rfl ?_
  refine mw_aload_n dX9_init_26 0 rfl ?_
  refine mk_new (n' := 20) (c' := 19) (s' := 256) rfl rfl rfl (N0 := 12) (ci := 0) tyX1 dX9_init_27 rfl rfl rfl uws_0 tyX1_ok (by decide +kernel) wt_837 wt_838 wt_32 (zc_uR (by decide) (z_X1_init_10 (by decide) (zc_uR (by decide) (z_X1_init_1 (by decide) (hz 19 (by decide)))))) (by decide) (by decide) (by decide) rfl ?_
  refine mw_dup dX9_init_30 rfl ?_
  refine mk_callI (n' := 28) (c' := 27) (s' := 366) (As := []) lkI_RX9_11_yX1_init dX9_init_31 (c_X1_init_19 l _ (fun k hk => (zc_uR (by omega) (z_X1_init_10 (by omega) (zc_uR (by omega) (z_X1_init_1 (by omega) (hz k (by omega)))))))) rfl rfl (Nat.le_of_ble_eq_true rfl) ⟨by decide, by decide⟩ rfl rfl rfl rfl rfl (by decide) ⟨by decide, by decide⟩ ?_
  refine mw_putR (ty := (.object "RoundsPerHour$Country")) (ci := 8) (j := 2) tyX9 tyX9_ok nmX9 dX9_init_34 (by decide) rfl rfl rfl (by decide) uws_8 wt_189 (Or.inl rfl) (Or.inr ⟨rfl, rfl, rfl⟩) (by decide +kernel) rfl rfl ?_
  refine mw_aload_n dX9_init_37 0 rfl ?_
  refine mk_new (n' := 29) (c' := 28) (s' := 379) rfl rfl rfl (N0 := 13) (ci := 3) tyX4 dX9_init_38 rfl rfl rfl uws_3 tyX4_ok (by decide +kernel) wt_844 wt_845 wt_102 (zc_uR (by decide) (z_X1_init_19 (by decide) (zc_uR (by decide) (z_X1_init_10 (by decide) (zc_uR (by decide) (z_X1_init_1 (by decide) (hz 28 (by decide)))))))) (by decide) (by decide) (by decide) rfl ?_
  refine mw_dup dX9_init_41 rfl ?_
  refine mk_callIN (n' := 39) (c' := 38) (s' := 4411) (As := []) lkJ_RX9_24_yX4_init dX9_init_42 (c_X4_init_28 l _ (fun k hk => (zc_uR (by omega) (z_X1_init_19 (by omega) (zc_uR (by omega) (z_X1_init_10 (by omega) (zc_uR (by omega) (z_X1_init_1 (by omega) (hz k (by omega)))))))))) rfl rfl (Nat.le_of_ble_eq_true rfl) ⟨by decide, by decide⟩ rfl rfl rfl rfl rfl (by decide) ⟨by decide, by decide⟩ ?_
  refine mw_putR (ty := (.object "RoundsPerHour$Rings")) (ci := 8) (j := 4) tyX9 tyX9_ok nmX9 dX9_init_45 (by decide) rfl rfl rfl (by decide) uws_8 wt_97 (Or.inl rfl) (Or.inr ⟨rfl, rfl, rfl⟩) (by decide +kernel) rfl rfl ?_
  refine mw_aload_n dX9_init_48 0 rfl ?_
  refine mk_new (n' := 40) (c' := 39) (s' := 4423) rfl rfl rfl (N0 := 12) (ci := 6) tyX7 dX9_init_49 rfl rfl rfl uws_6 tyX7_ok (by decide +kernel) wt_851 wt_852 wt_215 (zc_uR (by decide) (z_X4_init_28 (by decide) (zc_uR (by decide) (z_X1_init_19 (by decide) (zc_uR (by decide) (z_X1_init_10 (by decide) (zc_uR (by decide) (z_X1_init_1 (by decide) (hz 39 (by decide)))))))))) (by decide) (by decide) (by decide) rfl ?_
  refine mw_dup dX9_init_52 rfl ?_
  refine mk_callIN (n' := 45) (c' := 44) (s' := 4472) (As := []) lkJ_RX9_31_yX7_init dX9_init_53 (c_X7_init_39 l _ (fun k hk => (zc_uR (by omega) (z_X4_init_28 (by omega) (zc_uR (by omega) (z_X1_init_19 (by omega) (zc_uR (by omega) (z_X1_init_10 (by omega) (zc_uR (by omega) (z_X1_init_1 (by omega) (hz k (by omega)))))))))))) rfl rfl (Nat.le_of_ble_eq_true rfl) ⟨by decide, by decide⟩ rfl rfl rfl rfl rfl (by decide) ⟨by decide, by decide⟩ ?_
  refine mw_putR (ty := (.object "RoundsPerHour$TreeClimb")) (ci := 8) (j := 5) tyX9 tyX9_ok nmX9 dX9_init_56 (by decide) rfl rfl rfl (by decide) uws_8 wt_210 (Or.inl rfl) (Or.inr ⟨rfl, rfl, rfl⟩) (by decide +kernel) rfl rfl ?_
  refine mw_aload_n dX9_init_59 0 rfl ?_
  refine mk_new (n' := 46) (c' := 45) (s' := 4487) rfl rfl rfl (N0 := 15) (ci := 7) tyX8 dX9_init_60 rfl rfl rfl uws_7 tyX8_ok (by decide +kernel) wt_863 wt_864 wt_296 (zc_uR (by decide) (z_X7_init_39 (by decide) (zc_uR (by decide) (z_X4_init_28 (by decide) (zc_uR (by decide) (z_X1_init_19 (by decide) (zc_uR (by decide) (z_X1_init_10 (by decide) (zc_uR (by decide) (z_X1_init_1 (by decide) (hz 45 (by decide)))))))))))) (by decide) (by decide) (by decide) rfl ?_
  refine mw_dup dX9_init_63 rfl ?_
  refine mk_callIN (n' := 51) (c' := 50) (s' := 4541) (As := []) lkJ_RX9_38_yX8_init dX9_init_64 (c_X8_init_45 l _ (fun k hk => (zc_uR (by omega) (z_X7_init_39 (by omega) (zc_uR (by omega) (z_X4_init_28 (by omega) (zc_uR (by omega) (z_X1_init_19 (by omega) (zc_uR (by omega) (z_X1_init_10 (by omega) (zc_uR (by omega) (z_X1_init_1 (by omega) (hz k (by omega)))))))))))))) rfl rfl (Nat.le_of_ble_eq_true rfl) ⟨by decide, by decide⟩ rfl rfl rfl rfl rfl (by decide) ⟨by decide, by decide⟩ ?_
  refine mw_putR (ty := (.object "RoundsPerHour$WalkClimb")) (ci := 8) (j := 6) tyX9 tyX9_ok nmX9 dX9_init_67 (by decide) rfl rfl rfl (by decide) uws_8 wt_291 (Or.inl rfl) (Or.inr ⟨rfl, rfl, rfl⟩) (by decide +kernel) rfl rfl ?_
  refine mw_aload_n dX9_init_70 0 rfl ?_
  refine mk_new (n' := 52) (c' := 51) (s' := 4552) rfl rfl rfl (N0 := 11) (ci := 2) tyX3 dX9_init_71 rfl rfl rfl uws_2 tyX3_ok (by decide +kernel) wt_867 wt_868 wt_329 (zc_uR (by decide) (z_X8_init_45 (by decide) (zc_uR (by decide) (z_X7_init_39 (by decide) (zc_uR (by decide) (z_X4_init_28 (by decide) (zc_uR (by decide) (z_X1_init_19 (by decide) (zc_uR (by decide) (z_X1_init_10 (by decide) (zc_uR (by decide) (z_X1_init_1 (by decide) (hz 51 (by decide)))))))))))))) (by decide) (by decide) (by decide) rfl ?_
  refine mw_dup dX9_init_74 rfl ?_
  refine mk_callIN (n' := 55) (c' := 54) (s' := 4594) (As := []) lkJ_RX9_45_yX3_init dX9_init_75 (c_X3_init_51 l _ (fun k hk => (zc_uR (by omega) (z_X8_init_45 (by omega) (zc_uR (by omega) (z_X7_init_39 (by omega) (zc_uR (by omega) (z_X4_init_28 (by omega) (zc_uR (by omega) (z_X1_init_19 (by omega) (zc_uR (by omega) (z_X1_init_10 (by omega) (zc_uR (by omega) (z_X1_init_1 (by omega) (hz k (by omega)))))))))))))))) rfl rfl (Nat.le_of_ble_eq_true rfl) ⟨by decide, by decide⟩ rfl rfl rfl rfl rfl (by decide) ⟨by decide, by decide⟩ ?_
  refine mw_putR (ty := (.object "RoundsPerHour$LoadClimb")) (ci := 8) (j := 7) tyX9 tyX9_ok nmX9 dX9_init_78 (by decide) rfl rfl rfl (by decide) uws_8 wt_324 (Or.inl rfl) (Or.inr ⟨rfl, rfl, rfl⟩) (by decide +kernel) rfl rfl ?_
  refine mw_aload_n dX9_init_81 0 rfl ?_
  refine mk_new (n' := 56) (c' := 55) (s' := 4595) rfl rfl rfl (N0 := 1) (ci := 1) tyX2 dX9_init_82 rfl rfl rfl uws_1 tyX2_ok (by decide +kernel) wt_871 wt_857 wt_272 (zc_uR (by decide) (z_X3_init_51 (by decide) (zc_uR (by decide) (z_X8_init_45 (by decide) (zc_uR (by decide) (z_X7_init_39 (by decide) (zc_uR (by decide) (z_X4_init_28 (by decide) (zc_uR (by decide) (z_X1_init_19 (by decide) (zc_uR (by decide) (z_X1_init_10 (by decide) (zc_uR (by decide) (z_X1_init_1 (by decide) (hz 55 (by decide)))))))))))))))) (by decide) (by decide) (by decide) rfl ?_
  refine mw_dup dX9_init_85 rfl ?_
  refine mk_callIN (n' := 57) (c' := 56) (s' := 4601) (As := []) lkJ_RX9_52_yX2_init dX9_init_86 (c_X2_init_55 l _ (fun k hk => (zc_uR (by omega) (z_X3_init_51 (by omega) (zc_uR (by omega) (z_X8_init_45 (by omega) (zc_uR (by omega) (z_X7_init_39 (by omega) (zc_uR (by omega) (z_X4_init_28 (by omega) (zc_uR (by omega) (z_X1_init_19 (by omega) (zc_uR (by omega) (z_X1_init_10 (by omega) (zc_uR (by omega) (z_X1_init_1 (by omega) (hz k (by omega)))))))))))))))))) rfl rfl (Nat.le_of_ble_eq_true rfl) ⟨by decide, by decide⟩ rfl rfl rfl rfl rfl (by decide) ⟨by decide, by decide⟩ ?_
  refine mw_putR (ty := (.object "RoundsPerHour$Joins")) (ci := 8) (j := 8) tyX9 tyX9_ok nmX9 dX9_init_89 (by decide) rfl rfl rfl (by decide) uws_8 wt_377 (Or.inl rfl) (Or.inr ⟨rfl, rfl, rfl⟩) (by decide +kernel) rfl rfl ?_
  refine mw_aload_n dX9_init_92 0 rfl ?_
  refine mk_new (n' := 58) (c' := 57) (s' := 4610) rfl rfl rfl (N0 := 9) (ci := 5) tyX6 dX9_init_93 rfl rfl rfl uws_5 tyX6_ok (by decide +kernel) wt_872 wt_873 wt_445 (zc_uR (by decide) (z_X2_init_55 (by decide) (zc_uR (by decide) (z_X3_init_51 (by decide) (zc_uR (by decide) (z_X8_init_45 (by decide) (zc_uR (by decide) (z_X7_init_39 (by decide) (zc_uR (by decide) (z_X4_init_28 (by decide) (zc_uR (by decide) (z_X1_init_19 (by decide) (zc_uR (by decide) (z_X1_init_10 (by decide) (zc_uR (by decide) (z_X1_init_1 (by decide) (hz 57 (by decide)))))))))))))))))) (by decide) (by decide) (by decide) rfl ?_
  refine mw_dup dX9_init_96 rfl ?_
  refine mk_callIN (n' := 59) (c' := 58) (s' := 4730) (As := []) lkJ_RX9_59_yX6_init dX9_init_97 (c_X6_init_57 l _ (fun k hk => (zc_uR (by omega) (z_X2_init_55 (by omega) (zc_uR (by omega) (z_X3_init_51 (by omega) (zc_uR (by omega) (z_X8_init_45 (by omega) (zc_uR (by omega) (z_X7_init_39 (by omega) (zc_uR (by omega) (z_X4_init_28 (by omega) (zc_uR (by omega) (z_X1_init_19 (by omega) (zc_uR (by omega) (z_X1_init_10 (by omega) (zc_uR (by omega) (z_X1_init_1 (by omega) (hz k (by omega)))))))))))))))))))) rfl rfl (Nat.le_of_ble_eq_true rfl) ⟨by decide, by decide⟩ rfl rfl rfl rfl rfl (by decide) ⟨by decide, by decide⟩ ?_
  refine mw_putR (ty := (.object "RoundsPerHour$Tape")) (ci := 8) (j := 9) tyX9 tyX9_ok nmX9 dX9_init_100 (by decide) rfl rfl rfl (by decide) uws_8 wt_439 (Or.inl rfl) (Or.inr ⟨rfl, rfl, rfl⟩) (by decide +kernel) rfl rfl ?_
  refine mw_aload_n dX9_init_103 0 rfl ?_
  refine mw_iconst (v := 4) dX9_init_104 (by decide) ?_
  refine mk_newq (n' := 60) (c' := 59) (s' := 4734) rfl rfl rfl (N0 := 4) (N := 4) dX9_init_105 wt_877 rfl (by decide) (by decide) (by decide) (zc_uR (by decide) (z_X6_init_57 (by decide) (zc_uR (by decide) (z_X2_init_55 (by decide) (zc_uR (by decide) (z_X3_init_51 (by decide) (zc_uR (by decide) (z_X8_init_45 (by decide) (zc_uR (by decide) (z_X7_init_39 (by decide) (zc_uR (by decide) (z_X4_init_28 (by decide) (zc_uR (by decide) (z_X1_init_19 (by decide) (zc_uR (by decide) (z_X1_init_10 (by decide) (zc_uR (by decide) (z_X1_init_1 (by decide) (hz 59 (by decide)))))))))))))))))))) (by decide) (by decide) (by decide) rfl ?_
  refine mw_putR (ty := (.array (.object "RoundsPerHour$Sheet"))) (ci := 8) (j := 10) tyX9 tyX9_ok nmX9 dX9_init_108 (by decide) rfl rfl rfl (by decide) uws_8 wt_420 (Or.inl rfl) (Or.inr ⟨rfl, rfl, rfl⟩) (by decide +kernel) rfl rfl ?_
  refine mw_aload_n dX9_init_111 0 rfl ?_
  refine mw_bipush (v := 9) dX9_init_112 (by decide) ?_
  refine mk_newaI (n' := 61) (c' := 60) (s' := 4743) rfl rfl rfl (N0 := 9) (N := 9) dX9_init_114 wt_840 rfl (by decide) (by decide) (by decide) (zc_uR (by decide) (zc_uR (by decide) (z_X6_init_57 (by decide) (zc_uR (by decide) (z_X2_init_55 (by decide) (zc_uR (by decide) (z_X3_init_51 (by decide) (zc_uR (by decide) (z_X8_init_45 (by decide) (zc_uR (by decide) (z_X7_init_39 (by decide) (zc_uR (by decide) (z_X4_init_28 (by decide) (zc_uR (by decide) (z_X1_init_19 (by decide) (zc_uR (by decide) (z_X1_init_10 (by decide) (zc_uR (by decide) (z_X1_init_1 (by decide) (hz 60 (by decide))))))))))))))))))))) (by decide) (by decide) (by decide) rfl ?_
  refine mw_putR (ty := (.array .int)) (ci := 8) (j := 11) tyX9 tyX9_ok nmX9 dX9_init_116 (by decide) rfl rfl rfl (by decide) uws_8 wt_9 (Or.inl rfl) (Or.inr ⟨rfl, rfl, rfl⟩) (by decide +kernel) rfl rfl ?_
  refine mw_iconst (v := 0) dX9_init_119 (by decide) ?_
  refine mw_istore_n (L' := [(1, .int (0 : Int32)), (0, .ref 0)]) dX9_init_120 rfl (by decide) rfl ?_
  refine mw_iload_n dX9_init_121 0 rfl ?_
  refine mw_iconst (v := 4) dX9_init_122 (by decide) ?_
  refine mw_icmp_ge (tgt := 145) dX9_init_123 (by decide) (fun hc => absurd hc (by decide)) (fun hc => ?_)
  refine mw_aload_n dX9_init_126 1 rfl ?_
  refine mw_get (v := .ref 59) (j := 10) (ci := 8) dX9_init_127 (by decide) rfl rfl rfl (by decide) uws_8 wt_420 (Or.inl rfl) (by simp [mfv, mft, tyX9, mmR_uI, mmR_uR, s_X1_init_1, s_X1_init_10, s_X1_init_19, s_X4_init_28, s_X7_init_39, s_X8_init_45, s_X3_init_51, s_X2_init_55, s_X6_init_57, va_rf]) ?_
  refine mw_iload_n dX9_init_130 0 rfl ?_
  refine mk_new (n' := 62) (c' := 61) (s' := 4746) rfl rfl rfl (N0 := 3) (ci := 4) tyX5 dX9_init_131 rfl rfl rfl uws_4 tyX5_ok (by decide +kernel) wt_878 wt_879 wt_426 (zc_uR (by decide) (zc_uR (by decide) (zc_uR (by decide) (z_X6_init_57 (by decide) (zc_uR (by decide) (z_X2_init_55 (by decide) (zc_uR (by decide) (z_X3_init_51 (by decide) (zc_uR (by decide) (z_X8_init_45 (by decide) (zc_uR (by decide) (z_X7_init_39 (by decide) (zc_uR (by decide) (z_X4_init_28 (by decide) (zc_uR (by decide) (z_X1_init_19 (by decide) (zc_uR (by decide) (z_X1_init_10 (by decide) (zc_uR (by decide) (z_X1_init_1 (by decide) (hz 61 (by decide)))))))))))))))))))))) (by decide) (by decide) (by decide) rfl ?_
  refine mw_dup dX9_init_134 rfl ?_
  refine mk_callIN (n' := 63) (c' := 62) (s' := 4786) (As := []) lkJ_RX9_74_yX5_init dX9_init_135 (c_X5_init_61 l _ (fun k hk => (zc_uR (by omega) (zc_uR (by omega) (zc_uR (by omega) (z_X6_init_57 (by omega) (zc_uR (by omega) (z_X2_init_55 (by omega) (zc_uR (by omega) (z_X3_init_51 (by omega) (zc_uR (by omega) (z_X8_init_45 (by omega) (zc_uR (by omega) (z_X7_init_39 (by omega) (zc_uR (by omega) (z_X4_init_28 (by omega) (zc_uR (by omega) (z_X1_init_19 (by omega) (zc_uR (by omega) (z_X1_init_10 (by omega) (zc_uR (by omega) (z_X1_init_1 (by omega) (hz k (by omega)))))))))))))))))))))))) rfl rfl (Nat.le_of_ble_eq_true rfl) ⟨by decide, by decide⟩ rfl rfl rfl rfl rfl (by decide) ⟨by decide, by decide⟩ ?_
  refine mw_aast (ci := 4) dX9_init_138 (by decide) rfl (by decide) rfl (mib1 rfl) ?_
  refine mw_iinc (v := (1 : Int32)) (L' := [(1, .int (1 : Int32)), (0, .ref 0)]) dX9_init_139 0 rfl (by decide) (by decide) rfl ?_
  refine mw_goto (tgt := 121) dX9_init_142 (by decide) ?_
  refine mw_iload_n dX9_init_121 0 rfl ?_
  refine mw_iconst (v := 4) dX9_init_122 (by decide) ?_
  refine mw_icmp_ge (tgt := 145) dX9_init_123 (by decide) (fun hc => absurd hc (by decide)) (fun hc => ?_)
  refine mw_aload_n dX9_init_126 1 rfl ?_
  refine mw_get (v := .ref 59) (j := 10) (ci := 8) dX9_init_127 (by decide) rfl rfl rfl (by decide) uws_8 wt_420 (Or.inl rfl) (by simp [mfv, mft, tyX9, mmR_uI, mmR_uR, s_X1_init_1, s_X1_init_10, s_X1_init_19, s_X4_init_28, s_X7_init_39, s_X8_init_45, s_X3_init_51, s_X2_init_55, s_X6_init_57, s_X5_init_61, va_rf]) ?_
  refine mw_iload_n dX9_init_130 0 rfl ?_
  refine mk_new (n' := 64) (c' := 63) (s' := 4789) rfl rfl rfl (N0 := 3) (ci := 4) tyX5 dX9_init_131 rfl rfl rfl uws_4 tyX5_ok (by decide +kernel) wt_878 wt_879 wt_426 (zc_uR (by decide) (z_X5_init_61 (by decide) (zc_uR (by decide) (zc_uR (by decide) (zc_uR (by decide) (z_X6_init_57 (by decide) (zc_uR (by decide) (z_X2_init_55 (by decide) (zc_uR (by decide) (z_X3_init_51 (by decide) (zc_uR (by decide) (z_X8_init_45 (by decide) (zc_uR (by decide) (z_X7_init_39 (by decide) (zc_uR (by decide) (z_X4_init_28 (by decide) (zc_uR (by decide) (z_X1_init_19 (by decide) (zc_uR (by decide) (z_X1_init_10 (by decide) (zc_uR (by decide) (z_X1_init_1 (by decide) (hz 63 (by decide)))))))))))))))))))))))) (by decide) (by decide) (by decide) rfl ?_
  refine mw_dup dX9_init_134 rfl ?_
  refine mk_callIN (n' := 65) (c' := 64) (s' := 4829) (As := []) lkJ_RX9_74_yX5_init dX9_init_135 (c_X5_init_63 l _ (fun k hk => (zc_uR (by omega) (z_X5_init_61 (by omega) (zc_uR (by omega) (zc_uR (by omega) (zc_uR (by omega) (z_X6_init_57 (by omega) (zc_uR (by omega) (z_X2_init_55 (by omega) (zc_uR (by omega) (z_X3_init_51 (by omega) (zc_uR (by omega) (z_X8_init_45 (by omega) (zc_uR (by omega) (z_X7_init_39 (by omega) (zc_uR (by omega) (z_X4_init_28 (by omega) (zc_uR (by omega) (z_X1_init_19 (by omega) (zc_uR (by omega) (z_X1_init_10 (by omega) (zc_uR (by omega) (z_X1_init_1 (by omega) (hz k (by omega)))))))))))))))))))))))))) rfl rfl (Nat.le_of_ble_eq_true rfl) ⟨by decide, by decide⟩ rfl rfl rfl rfl rfl (by decide) ⟨by decide, by decide⟩ ?_
  refine mw_aast (ci := 4) dX9_init_138 (by decide) rfl (by decide) rfl (mib1 rfl) ?_
  refine mw_iinc (v := (2 : Int32)) (L' := [(1, .int (2 : Int32)), (0, .ref 0)]) dX9_init_139 0 rfl (by decide) (by decide) rfl ?_
  refine mw_goto (tgt := 121) dX9_init_142 (by decide) ?_
  refine mw_iload_n dX9_init_121 0 rfl ?_
  refine mw_iconst (v := 4) dX9_init_122 (by decide) ?_
  refine mw_icmp_ge (tgt := 145) dX9_init_123 (by decide) (fun hc => absurd hc (by decide)) (fun hc => ?_)
  refine mw_aload_n dX9_init_126 1 rfl ?_
  refine mw_get (v := .ref 59) (j := 10) (ci := 8) dX9_init_127 (by decide) rfl rfl rfl (by decide) uws_8 wt_420 (Or.inl rfl) (by simp [mfv, mft, tyX9, mmR_uI, mmR_uR, s_X1_init_1, s_X1_init_10, s_X1_init_19, s_X4_init_28, s_X7_init_39, s_X8_init_45, s_X3_init_51, s_X2_init_55, s_X6_init_57, s_X5_init_61, s_X5_init_63, va_rf]) ?_
  refine mw_iload_n dX9_init_130 0 rfl ?_
  refine mk_new (n' := 66) (c' := 65) (s' := 4832) rfl rfl rfl (N0 := 3) (ci := 4) tyX5 dX9_init_131 rfl rfl rfl uws_4 tyX5_ok (by decide +kernel) wt_878 wt_879 wt_426 (zc_uR (by decide) (z_X5_init_63 (by decide) (zc_uR (by decide) (z_X5_init_61 (by decide) (zc_uR (by decide) (zc_uR (by decide) (zc_uR (by decide) (z_X6_init_57 (by decide) (zc_uR (by decide) (z_X2_init_55 (by decide) (zc_uR (by decide) (z_X3_init_51 (by decide) (zc_uR (by decide) (z_X8_init_45 (by decide) (zc_uR (by decide) (z_X7_init_39 (by decide) (zc_uR (by decide) (z_X4_init_28 (by decide) (zc_uR (by decide) (z_X1_init_19 (by decide) (zc_uR (by decide) (z_X1_init_10 (by decide) (zc_uR (by decide) (z_X1_init_1 (by decide) (hz 65 (by decide)))))))))))))))))))))))))) (by decide) (by decide) (by decide) rfl ?_
  refine mw_dup dX9_init_134 rfl ?_
  refine mk_callIN (n' := 67) (c' := 66) (s' := 4872) (As := []) lkJ_RX9_74_yX5_init dX9_init_135 (c_X5_init_65 l _ (fun k hk => (zc_uR (by omega) (z_X5_init_63 (by omega) (zc_uR (by omega) (z_X5_init_61 (by omega) (zc_uR (by omega) (zc_uR (by omega) (zc_uR (by omega) (z_X6_init_57 (by omega) (zc_uR (by omega) (z_X2_init_55 (by omega) (zc_uR (by omega) (z_X3_init_51 (by omega) (zc_uR (by omega) (z_X8_init_45 (by omega) (zc_uR (by omega) (z_X7_init_39 (by omega) (zc_uR (by omega) (z_X4_init_28 (by omega) (zc_uR (by omega) (z_X1_init_19 (by omega) (zc_uR (by omega) (z_X1_init_10 (by omega) (zc_uR (by omega) (z_X1_init_1 (by omega) (hz k (by omega)))))))))))))))))))))))))))) rfl rfl (Nat.le_of_ble_eq_true rfl) ⟨by decide, by decide⟩ rfl rfl rfl rfl rfl (by decide) ⟨by decide, by decide⟩ ?_
  refine mw_aast (ci := 4) dX9_init_138 (by decide) rfl (by decide) rfl (mib1 rfl) ?_
  refine mw_iinc (v := (3 : Int32)) (L' := [(1, .int (3 : Int32)), (0, .ref 0)]) dX9_init_139 0 rfl (by decide) (by decide) rfl ?_
  refine mw_goto (tgt := 121) dX9_init_142 (by decide) ?_
  refine mw_iload_n dX9_init_121 0 rfl ?_
  refine mw_iconst (v := 4) dX9_init_122 (by decide) ?_
  refine mw_icmp_ge (tgt := 145) dX9_init_123 (by decide) (fun hc => absurd hc (by decide)) (fun hc => ?_)
  refine mw_aload_n dX9_init_126 1 rfl ?_
  refine mw_get (v := .ref 59) (j := 10) (ci := 8) dX9_init_127 (by decide) rfl rfl rfl (by decide) uws_8 wt_420 (Or.inl rfl) (by simp [mfv, mft, tyX9, mmR_uI, mmR_uR, s_X1_init_1, s_X1_init_10, s_X1_init_19, s_X4_init_28, s_X7_init_39, s_X8_init_45, s_X3_init_51, s_X2_init_55, s_X6_init_57, s_X5_init_61, s_X5_init_63, s_X5_init_65, va_rf]) ?_
  refine mw_iload_n dX9_init_130 0 rfl ?_
  refine mk_new (n' := 68) (c' := 67) (s' := 4875) rfl rfl rfl (N0 := 3) (ci := 4) tyX5 dX9_init_131 rfl rfl rfl uws_4 tyX5_ok (by decide +kernel) wt_878 wt_879 wt_426 (zc_uR (by decide) (z_X5_init_65 (by decide) (zc_uR (by decide) (z_X5_init_63 (by decide) (zc_uR (by decide) (z_X5_init_61 (by decide) (zc_uR (by decide) (zc_uR (by decide) (zc_uR (by decide) (z_X6_init_57 (by decide) (zc_uR (by decide) (z_X2_init_55 (by decide) (zc_uR (by decide) (z_X3_init_51 (by decide) (zc_uR (by decide) (z_X8_init_45 (by decide) (zc_uR (by decide) (z_X7_init_39 (by decide) (zc_uR (by decide) (z_X4_init_28 (by decide) (zc_uR (by decide) (z_X1_init_19 (by decide) (zc_uR (by decide) (z_X1_init_10 (by decide) (zc_uR (by decide) (z_X1_init_1 (by decide) (hz 67 (by decide)))))))))))))))))))))))))))) (by decide) (by decide) (by decide) rfl ?_
  refine mw_dup dX9_init_134 rfl ?_
  refine mk_callIN (n' := 69) (c' := 68) (s' := 4915) (As := []) lkJ_RX9_74_yX5_init dX9_init_135 (c_X5_init_67 l _ (fun k hk => (zc_uR (by omega) (z_X5_init_65 (by omega) (zc_uR (by omega) (z_X5_init_63 (by omega) (zc_uR (by omega) (z_X5_init_61 (by omega) (zc_uR (by omega) (zc_uR (by omega) (zc_uR (by omega) (z_X6_init_57 (by omega) (zc_uR (by omega) (z_X2_init_55 (by omega) (zc_uR (by omega) (z_X3_init_51 (by omega) (zc_uR (by omega) (z_X8_init_45 (by omega) (zc_uR (by omega) (z_X7_init_39 (by omega) (zc_uR (by omega) (z_X4_init_28 (by omega) (zc_uR (by omega) (z_X1_init_19 (by omega) (zc_uR (by omega) (z_X1_init_10 (by omega) (zc_uR (by omega) (z_X1_init_1 (by omega) (hz k (by omega)))))))))))))))))))))))))))))) rfl rfl (Nat.le_of_ble_eq_true rfl) ⟨by decide, by decide⟩ rfl rfl rfl rfl rfl (by decide) ⟨by decide, by decide⟩ ?_
  refine mw_aast (ci := 4) dX9_init_138 (by decide) rfl (by decide) rfl (mib1 rfl) ?_
  refine mw_iinc (v := (4 : Int32)) (L' := [(1, .int (4 : Int32)), (0, .ref 0)]) dX9_init_139 0 rfl (by decide) (by decide) rfl ?_
  refine mw_goto (tgt := 121) dX9_init_142 (by decide) ?_
  refine mw_iload_n dX9_init_121 0 rfl ?_
  refine mw_iconst (v := 4) dX9_init_122 (by decide) ?_
  refine mw_icmp_ge (tgt := 145) dX9_init_123 (by decide) (fun hc => ?_) (fun hc => absurd (by decide) hc)
  exact mw_vret dX9_init_145 rfl rfl rfl rfl
def s_X10_init_69 (σ : MSt) : MSt := (muI (muR (muR (muI (muI (muI (muI (muI (muI (muI (muI (muI (muI (muI (muI (muI (muI (muI (muI (muI (muI (muI (muI (muI (muI (muI (muI (muI (muI (muI (muI (muI (muI (muI (muI (muI (muI (muI (muI (muI (muI (muI (muI (muI (muI (muI (muI (muI (muI (muI (muI (muI (muI (muI (muI (muI (muI (muI (muI (muI (muI (muI (muI (muI (muI (muI (muI (muI (muI (muI (muI (muI (muI (muI (muI (muI (muI (muI (muI (muI (muI (muI (muI (muI (muI (muI (muI (muI (muI (muI (muI (muI (muI (muI (muI (muI (muI (muI (muI (muI (muI (muI (muI (muI (muI (muI (muI (muR (muR (muR (muR (muR (muR (muR (muR (muR (muI (muR σ 69 0 (some 70)) 69 1 (2 : Int32)) 69 4 (some 71)) 69 6 (some 72)) 69 7 (some 73)) 69 14 (some 74)) 69 20 (some 75)) 69 21 (some 76)) 69 22 (some 77)) 69 23 (some 78)) 69 24 (some 79)) 80 (0 : Int32).toNatClampNeg (vp_nar .char (119 : Int32))) 80 (1 : Int32).toNatClampNeg (vp_nar .char (97 : Int32))) 80 (2 : Int32).toNatClampNeg (vp_nar .char (121 : Int32))) 80 (3 : Int32).toNatClampNeg (vp_nar .char (32 : Int32))) 80 (4 : Int32).toNatClampNeg (vp_nar .char (32 : Int32))) 80 (5 : Int32).toNatClampNeg (vp_nar .char (32 : Int32))) 80 (6 : Int32).toNatClampNeg (vp_nar .char (32 : Int32))) 80 (7 : Int32).toNatClampNeg (vp_nar .char (32 : Int32))) 80 (8 : Int32).toNatClampNeg (vp_nar .char (116 : Int32))) 80 (9 : Int32).toNatClampNeg (vp_nar .char (111 : Int32))) 80 (10 : Int32).toNatClampNeg (vp_nar .char (108 : Int32))) 80 (11 : Int32).toNatClampNeg (vp_nar .char (108 : Int32))) 80 (12 : Int32).toNatClampNeg (vp_nar .char (32 : Int32))) 80 (13 : Int32).toNatClampNeg (vp_nar .char (32 : Int32))) 80 (14 : Int32).toNatClampNeg (vp_nar .char (32 : Int32))) 80 (15 : Int32).toNatClampNeg (vp_nar .char (32 : Int32))) 80 (16 : Int32).toNatClampNeg (vp_nar .char (102 : Int32))) 80 (17 : Int32).toNatClampNeg (vp_nar .char (111 : Int32))) 80 (18 : Int32).toNatClampNeg (vp_nar .char (114 : Int32))) 80 (19 : Int32).toNatClampNeg (vp_nar .char (100 : Int32))) 80 (20 : Int32).toNatClampNeg (vp_nar .char (32 : Int32))) 80 (21 : Int32).toNatClampNeg (vp_nar .char (32 : Int32))) 80 (22 : Int32).toNatClampNeg (vp_nar .char (32 : Int32))) 80 (23 : Int32).toNatClampNeg (vp_nar .char (32 : Int32))) 80 (24 : Int32).toNatClampNeg (vp_nar .char (98 : Int32))) 80 (25 : Int32).toNatClampNeg (vp_nar .char (114 : Int32))) 80 (26 : Int32).toNatClampNeg (vp_nar .char (105 : Int32))) 80 (27 : Int32).toNatClampNeg (vp_nar .char (100 : Int32))) 80 (28 : Int32).toNatClampNeg (vp_nar .char (103 : Int32))) 80 (29 : Int32).toNatClampNeg (vp_nar .char (101 : Int32))) 80 (30 : Int32).toNatClampNeg (vp_nar .char (32 : Int32))) 80 (31 : Int32).toNatClampNeg (vp_nar .char (32 : Int32))) 80 (32 : Int32).toNatClampNeg (vp_nar .char (109 : Int32))) 80 (33 : Int32).toNatClampNeg (vp_nar .char (105 : Int32))) 80 (34 : Int32).toNatClampNeg (vp_nar .char (114 : Int32))) 80 (35 : Int32).toNatClampNeg (vp_nar .char (101 : Int32))) 80 (36 : Int32).toNatClampNeg (vp_nar .char (32 : Int32))) 80 (37 : Int32).toNatClampNeg (vp_nar .char (32 : Int32))) 80 (38 : Int32).toNatClampNeg (vp_nar .char (32 : Int32))) 80 (39 : Int32).toNatClampNeg (vp_nar .char (32 : Int32))) 80 (40 : Int32).toNatClampNeg (vp_nar .char (115 : Int32))) 80 (41 : Int32).toNatClampNeg (vp_nar .char (116 : Int32))) 80 (42 : Int32).toNatClampNeg (vp_nar .char (97 : Int32))) 80 (43 : Int32).toNatClampNeg (vp_nar .char (105 : Int32))) 80 (44 : Int32).toNatClampNeg (vp_nar .char (114 : Int32))) 80 (45 : Int32).toNatClampNeg (vp_nar .char (32 : Int32))) 80 (46 : Int32).toNatClampNeg (vp_nar .char (32 : Int32))) 80 (47 : Int32).toNatClampNeg (vp_nar .char (32 : Int32))) 80 (48 : Int32).toNatClampNeg (vp_nar .char (116 : Int32))) 80 (49 : Int32).toNatClampNeg (vp_nar .char (104 : Int32))) 80 (50 : Int32).toNatClampNeg (vp_nar .char (105 : Int32))) 80 (51 : Int32).toNatClampNeg (vp_nar .char (110 : Int32))) 80 (52 : Int32).toNatClampNeg (vp_nar .char (103 : Int32))) 80 (53 : Int32).toNatClampNeg (vp_nar .char (32 : Int32))) 80 (54 : Int32).toNatClampNeg (vp_nar .char (32 : Int32))) 80 (55 : Int32).toNatClampNeg (vp_nar .char (32 : Int32))) 80 (56 : Int32).toNatClampNeg (vp_nar .char (112 : Int32))) 80 (57 : Int32).toNatClampNeg (vp_nar .char (108 : Int32))) 80 (58 : Int32).toNatClampNeg (vp_nar .char (97 : Int32))) 80 (59 : Int32).toNatClampNeg (vp_nar .char (99 : Int32))) 80 (60 : Int32).toNatClampNeg (vp_nar .char (101 : Int32))) 80 (61 : Int32).toNatClampNeg (vp_nar .char (115 : Int32))) 80 (62 : Int32).toNatClampNeg (vp_nar .char (32 : Int32))) 80 (63 : Int32).toNatClampNeg (vp_nar .char (32 : Int32))) 80 (64 : Int32).toNatClampNeg (vp_nar .char (119 : Int32))) 80 (65 : Int32).toNatClampNeg (vp_nar .char (101 : Int32))) 80 (66 : Int32).toNatClampNeg (vp_nar .char (97 : Int32))) 80 (67 : Int32).toNatClampNeg (vp_nar .char (116 : Int32))) 80 (68 : Int32).toNatClampNeg (vp_nar .char (104 : Int32))) 80 (69 : Int32).toNatClampNeg (vp_nar .char (101 : Int32))) 80 (70 : Int32).toNatClampNeg (vp_nar .char (114 : Int32))) 80 (71 : Int32).toNatClampNeg (vp_nar .char (32 : Int32))) 80 (72 : Int32).toNatClampNeg (vp_nar .char (103 : Int32))) 80 (73 : Int32).toNatClampNeg (vp_nar .char (97 : Int32))) 80 (74 : Int32).toNatClampNeg (vp_nar .char (105 : Int32))) 80 (75 : Int32).toNatClampNeg (vp_nar .char (110 : Int32))) 80 (76 : Int32).toNatClampNeg (vp_nar .char (32 : Int32))) 80 (77 : Int32).toNatClampNeg (vp_nar .char (32 : Int32))) 80 (78 : Int32).toNatClampNeg (vp_nar .char (32 : Int32))) 80 (79 : Int32).toNatClampNeg (vp_nar .char (32 : Int32))) 80 (80 : Int32).toNatClampNeg (vp_nar .char (108 : Int32))) 80 (81 : Int32).toNatClampNeg (vp_nar .char (111 : Int32))) 80 (82 : Int32).toNatClampNeg (vp_nar .char (115 : Int32))) 80 (83 : Int32).toNatClampNeg (vp_nar .char (115 : Int32))) 80 (84 : Int32).toNatClampNeg (vp_nar .char (32 : Int32))) 80 (85 : Int32).toNatClampNeg (vp_nar .char (32 : Int32))) 80 (86 : Int32).toNatClampNeg (vp_nar .char (32 : Int32))) 80 (87 : Int32).toNatClampNeg (vp_nar .char (32 : Int32))) 80 (88 : Int32).toNatClampNeg (vp_nar .char (116 : Int32))) 80 (89 : Int32).toNatClampNeg (vp_nar .char (105 : Int32))) 80 (90 : Int32).toNatClampNeg (vp_nar .char (109 : Int32))) 80 (91 : Int32).toNatClampNeg (vp_nar .char (101 : Int32))) 80 (92 : Int32).toNatClampNeg (vp_nar .char (32 : Int32))) 80 (93 : Int32).toNatClampNeg (vp_nar .char (32 : Int32))) 80 (94 : Int32).toNatClampNeg (vp_nar .char (32 : Int32))) 80 (95 : Int32).toNatClampNeg (vp_nar .char (32 : Int32))) 80 (96 : Int32).toNatClampNeg (vp_nar .char (115 : Int32))) 80 (97 : Int32).toNatClampNeg (vp_nar .char (104 : Int32))) 80 (98 : Int32).toNatClampNeg (vp_nar .char (117 : Int32))) 80 (99 : Int32).toNatClampNeg (vp_nar .char (116 : Int32))) 80 (100 : Int32).toNatClampNeg (vp_nar .char (32 : Int32))) 80 (101 : Int32).toNatClampNeg (vp_nar .char (32 : Int32))) 80 (102 : Int32).toNatClampNeg (vp_nar .char (32 : Int32))) 80 (103 : Int32).toNatClampNeg (vp_nar .char (32 : Int32))) 69 31 (some 80)) 69 34 (some 81)) 73 (1 : Int32).toNatClampNeg (1 : Int32))
theorem z_X10_init_69 {σ : MSt} {k : Nat} (hk : 82 ≤ k) (z : zc σ k) : zc (s_X10_init_69 σ) k := by
  unfold s_X10_init_69
  exact (zc_uI (by omega) (zc_uR (by omega) (zc_uR (by omega) (zc_uI (by omega) (zc_uI (by omega) (zc_uI (by omega) (zc_uI (by omega) (zc_uI (by omega) (zc_uI (by omega) (zc_uI (by omega) (zc_uI (by omega) (zc_uI (by omega) (zc_uI (by omega) (zc_uI (by omega) (zc_uI (by omega) (zc_uI (by omega) (zc_uI (by omega) (zc_uI (by omega) (zc_uI (by omega) (zc_uI (by omega) (zc_uI (by omega) (zc_uI (by omega) (zc_uI (by omega) (zc_uI (by omega) (zc_uI (by omega) (zc_uI (by omega) (zc_uI (by omega) (zc_uI (by omega) (zc_uI (by omega) (zc_uI (by omega) (zc_uI (by omega) (zc_uI (by omega) (zc_uI (by omega) (zc_uI (by omega) (zc_uI (by omega) (zc_uI (by omega) (zc_uI (by omega) (zc_uI (by omega) (zc_uI (by omega) (zc_uI (by omega) (zc_uI (by omega) (zc_uI (by omega) (zc_uI (by omega) (zc_uI (by omega) (zc_uI (by omega) (zc_uI (by omega) (zc_uI (by omega) (zc_uI (by omega) (zc_uI (by omega) (zc_uI (by omega) (zc_uI (by omega) (zc_uI (by omega) (zc_uI (by omega) (zc_uI (by omega) (zc_uI (by omega) (zc_uI (by omega) (zc_uI (by omega) (zc_uI (by omega) (zc_uI (by omega) (zc_uI (by omega) (zc_uI (by omega) (zc_uI (by omega) (zc_uI (by omega) (zc_uI (by omega) (zc_uI (by omega) (zc_uI (by omega) (zc_uI (by omega) (zc_uI (by omega) (zc_uI (by omega) (zc_uI (by omega) (zc_uI (by omega) (zc_uI (by omega) (zc_uI (by omega) (zc_uI (by omega) (zc_uI (by omega) (zc_uI (by omega) (zc_uI (by omega) (zc_uI (by omega) (zc_uI (by omega) (zc_uI (by omega) (zc_uI (by omega) (zc_uI (by omega) (zc_uI (by omega) (zc_uI (by omega) (zc_uI (by omega) (zc_uI (by omega) (zc_uI (by omega) (zc_uI (by omega) (zc_uI (by omega) (zc_uI (by omega) (zc_uI (by omega) (zc_uI (by omega) (zc_uI (by omega) (zc_uI (by omega) (zc_uI (by omega) (zc_uI (by omega) (zc_uI (by omega) (zc_uI (by omega) (zc_uI (by omega) (zc_uI (by omega) (zc_uI (by omega) (zc_uI (by omega) (zc_uI (by omega) (zc_uI (by omega) (zc_uI (by omega) (zc_uI (by omega) (zc_uI (by omega) (zc_uR (by omega) (zc_uR (by omega) (zc_uR (by omega) (zc_uR (by omega) (zc_uR (by omega) (zc_uR (by omega) (zc_uR (by omega) (zc_uR (by omega) (zc_uR (by omega) (zc_uI (by omega) (zc_uR (by omega) z))))))))))))))))))))))))))))))))))))))))))))))))))))))))))))))))))))))))))))))))))))))))))))))))))))))))))))))))))))))
set_option maxRecDepth 100000 in
set_option maxHeartbeats 4000000 in
theorem c_X10_init_69 (l : Launch) (σ : MSt) (hz : ∀ k, 70 ≤ k → zc σ k) : MCt l yX10_init cX10_init 1 none (mkr 1 12 671) [.ref 69] 70 σ 12 671 (82, none, s_X10_init_69 σ) := by
  refine mw_entry (own := RX10) (ini := true) (L := [(0, .ref 69)]) (by decide +kernel) rfl (fun _ => rfl) rfl (Nat.le_of_ble_eq_true rfl) (by decide) (fun E => ?_)
  refine mw_aload_n dX10_init_0 0 rfl ?_
  refine mw_objInit dX10_init_1 wt_883 wt_835 wt_836 (by decide) (by decide) ?_
  refine mw_aload_n dX10_init_4 0 rfl ?_
  refine mw_bipush (v := 9) dX10_init_5 (by decide) ?_
  refine mk_newaI (n' := 71) (c' := 1) (s' := 9) rfl rfl rfl (N0 := 9) (N := 9) dX10_init_7 wt_840 rfl (by decide) (by decide) (by decide) (hz 70 (by decide)) (by decide) (by decide) (by decide) rfl ?_
  refine mw_putR (ty := (.array .int)) (ci := 9) (j := 0) tyX10 tyX10_ok nmX10 dX10_init_9 (by decide) rfl rfl rfl (by decide) uws_9 wt_587 (Or.inl rfl) (Or.inr ⟨rfl, rfl, rfl⟩) (by decide +kernel) rfl rfl ?_
  refine mw_aload_n dX10_init_12 0 rfl ?_
  refine mw_iconst (v := 2) dX10_init_13 (by decide) ?_
  refine mw_putI (ci := 9) (j := 1) tyX10 tyX10_ok nmX10 dX10_init_14 (by decide) rfl rfl rfl (by decide) uws_9 wt_576 (Or.inl rfl) (Or.inl rfl) (by decide +kernel) (Or.inl rfl) ?_
  refine mw_aload_n dX10_init_17 0 rfl ?_
  refine mw_bipush (v := 84) dX10_init_18 (by decide) ?_
  refine mk_newaI (n' := 72) (c' := 2) (s' := 93) rfl rfl rfl (N0 := 84) (N := 84) dX10_init_20 wt_840 rfl (by decide) (by decide) (by decide) (zc_uI (by decide) (zc_uR (by decide) (hz 71 (by decide)))) (by decide) (by decide) (by decide) rfl ?_
  refine mw_putR (ty := (.array .int)) (ci := 9) (j := 4) tyX10 tyX10_ok nmX10 dX10_init_22 (by decide) rfl rfl rfl (by decide) uws_9 wt_582 (Or.inl rfl) (Or.inr ⟨rfl, rfl, rfl⟩) (by decide +kernel) rfl rfl ?_
  refine mw_aload_n dX10_init_25 0 rfl ?_
  refine mw_bipush (v := 24) dX10_init_26 (by decide) ?_
  refine mk_newaI (n' := 73) (c' := 3) (s' := 117) rfl rfl rfl (N0 := 24) (N := 24) dX10_init_28 wt_840 rfl (by decide) (by decide) (by decide) (zc_uR (by decide) (zc_uI (by decide) (zc_uR (by decide) (hz 72 (by decide))))) (by decide) (by decide) (by decide) rfl ?_
  refine mw_putR (ty := (.array .int)) (ci := 9) (j := 6) tyX10 tyX10_ok nmX10 dX10_init_30 (by decide) rfl rfl rfl (by decide) uws_9 wt_631 (Or.inl rfl) (Or.inr ⟨rfl, rfl, rfl⟩) (by decide +kernel) rfl rfl ?_
  refine mw_aload_n dX10_init_33 0 rfl ?_
  refine mw_iconst (v := 2) dX10_init_34 (by decide) ?_
  refine mk_newaI (n' := 74) (c' := 4) (s' := 119) rfl rfl rfl (N0 := 2) (N := 2) dX10_init_35 wt_840 rfl (by decide) (by decide) (by decide) (zc_uR (by decide) (zc_uR (by decide) (zc_uI (by decide) (zc_uR (by decide) (hz 73 (by decide)))))) (by decide) (by decide) (by decide) rfl ?_
  refine mw_putR (ty := (.array .int)) (ci := 9) (j := 7) tyX10 tyX10_ok nmX10 dX10_init_37 (by decide) rfl rfl rfl (by decide) uws_9 wt_632 (Or.inl rfl) (Or.inr ⟨rfl, rfl, rfl⟩) (by decide +kernel) rfl rfl ?_
  refine mw_aload_n dX10_init_40 0 rfl ?_
  refine mw_bipush (v := 6) dX10_init_41 (by decide) ?_
  refine mk_newaL (n' := 75) (c' := 5) (s' := 125) rfl rfl rfl (N0 := 6) (N := 6) dX10_init_43 wt_847 rfl (by decide) (by decide) (by decide) (zc_uR (by decide) (zc_uR (by decide) (zc_uR (by decide) (zc_uI (by decide) (zc_uR (by decide) (hz 74 (by decide))))))) (by decide) (by decide) (by decide) rfl ?_
  refine mw_putR (ty := (.array .long)) (ci := 9) (j := 14) tyX10 tyX10_ok nmX10 dX10_init_45 (by decide) rfl rfl rfl (by decide) uws_9 wt_675 (Or.inl rfl) (Or.inr ⟨rfl, rfl, rfl⟩) (by decide +kernel) rfl rfl ?_
  refine mw_aload_n dX10_init_48 0 rfl ?_
  refine mw_iconst (v := 4) dX10_init_49 (by decide) ?_
  refine mk_newaI (n' := 76) (c' := 6) (s' := 129) rfl rfl rfl (N0 := 4) (N := 4) dX10_init_50 wt_840 rfl (by decide) (by decide) (by decide) (zc_uR (by decide) (zc_uR (by decide) (zc_uR (by decide) (zc_uR (by decide) (zc_uI (by decide) (zc_uR (by decide) (hz 75 (by decide)))))))) (by decide) (by decide) (by decide) rfl ?_
  refine mw_putR (ty := (.array .int)) (ci := 9) (j := 20) tyX10 tyX10_ok nmX10 dX10_init_52 (by decide) rfl rfl rfl (by decide) uws_9 wt_765 (Or.inl rfl) (Or.inr ⟨rfl, rfl, rfl⟩) (by decide +kernel) rfl rfl ?_
  refine mw_aload_n dX10_init_55 0 rfl ?_
  refine mw_iconst (v := 4) dX10_init_56 (by decide) ?_
  refine mk_newaI (n' := 77) (c' := 7) (s' := 133) rfl rfl rfl (N0 := 4) (N := 4) dX10_init_57 wt_840 rfl (by decide) (by decide) (by decide) (zc_uR (by decide) (zc_uR (by decide) (zc_uR (by decide) (zc_uR (by decide) (zc_uR (by decide) (zc_uI (by decide) (zc_uR (by decide) (hz 76 (by decide))))))))) (by decide) (by decide) (by decide) rfl ?_
  refine mw_putR (ty := (.array .int)) (ci := 9) (j := 21) tyX10 tyX10_ok nmX10 dX10_init_59 (by decide) rfl rfl rfl (by decide) uws_9 wt_766 (Or.inl rfl) (Or.inr ⟨rfl, rfl, rfl⟩) (by decide +kernel) rfl rfl ?_
  refine mw_aload_n dX10_init_62 0 rfl ?_
  refine mw_sipush (v := 160) dX10_init_63 (by decide) ?_
  refine mk_newaL (n' := 78) (c' := 8) (s' := 293) rfl rfl rfl (N0 := 160) (N := 160) dX10_init_66 wt_847 rfl (by decide) (by decide) (by decide) (zc_uR (by decide) (zc_uR (by decide) (zc_uR (by decide) (zc_uR (by decide) (zc_uR (by decide) (zc_uR (by decide) (zc_uI (by decide) (zc_uR (by decide) (hz 77 (by decide)))))))))) (by decide) (by decide) (by decide) rfl ?_
  refine mw_putR (ty := (.array .long)) (ci := 9) (j := 22) tyX10 tyX10_ok nmX10 dX10_init_68 (by decide) rfl rfl rfl (by decide) uws_9 wt_757 (Or.inl rfl) (Or.inr ⟨rfl, rfl, rfl⟩) (by decide +kernel) rfl rfl ?_
  refine mw_aload_n dX10_init_71 0 rfl ?_
  refine mw_bipush (v := 40) dX10_init_72 (by decide) ?_
  refine mk_newaL (n' := 79) (c' := 9) (s' := 333) rfl rfl rfl (N0 := 40) (N := 40) dX10_init_74 wt_847 rfl (by decide) (by decide) (by decide) (zc_uR (by decide) (zc_uR (by decide) (zc_uR (by decide) (zc_uR (by decide) (zc_uR (by decide) (zc_uR (by decide) (zc_uR (by decide) (zc_uI (by decide) (zc_uR (by decide) (hz 78 (by decide))))))))))) (by decide) (by decide) (by decide) rfl ?_
  refine mw_putR (ty := (.array .long)) (ci := 9) (j := 23) tyX10 tyX10_ok nmX10 dX10_init_76 (by decide) rfl rfl rfl (by decide) uws_9 wt_830 (Or.inl rfl) (Or.inr ⟨rfl, rfl, rfl⟩) (by decide +kernel) rfl rfl ?_
  refine mw_aload_n dX10_init_79 0 rfl ?_
  refine mw_bipush (v := 120) dX10_init_80 (by decide) ?_
  refine mk_newaI (n' := 80) (c' := 10) (s' := 453) rfl rfl rfl (N0 := 120) (N := 120) dX10_init_82 wt_840 rfl (by decide) (by decide) (by decide) (zc_uR (by decide) (zc_uR (by decide) (zc_uR (by decide) (zc_uR (by decide) (zc_uR (by decide) (zc_uR (by decide) (zc_uR (by decide) (zc_uR (by decide) (zc_uI (by decide) (zc_uR (by decide) (hz 79 (by decide)))))))))))) (by decide) (by decide) (by decide) rfl ?_
  refine mw_putR (ty := (.array .int)) (ci := 9) (j := 24) tyX10 tyX10_ok nmX10 dX10_init_84 (by decide) rfl rfl rfl (by decide) uws_9 wt_775 (Or.inl rfl) (Or.inr ⟨rfl, rfl, rfl⟩) (by decide +kernel) rfl rfl ?_
  refine mw_aload_n dX10_init_87 0 rfl ?_
  refine mw_bipush (v := 104) dX10_init_88 (by decide) ?_
  refine mk_newaC (n' := 81) (c' := 11) (s' := 557) rfl rfl rfl (N0 := 104) (N := 104) dX10_init_90 wt_884 rfl (by decide) (by decide) (by decide) (zc_uR (by decide) (zc_uR (by decide) (zc_uR (by decide) (zc_uR (by decide) (zc_uR (by decide) (zc_uR (by decide) (zc_uR (by decide) (zc_uR (by decide) (zc_uR (by decide) (zc_uI (by decide) (zc_uR (by decide) (hz 80 (by decide))))))))))))) (by decide) (by decide) (by decide) rfl ?_
  refine mw_dup dX10_init_92 rfl ?_
  refine mw_iconst (v := 0) dX10_init_93 (by decide) ?_
  refine mw_bipush (v := 119) dX10_init_94 (by decide) ?_
  refine mw_cast dX10_init_96 (by decide) rfl (mib1 rfl) ?_
  refine mw_dup dX10_init_97 rfl ?_
  refine mw_iconst (v := 1) dX10_init_98 (by decide) ?_
  refine mw_bipush (v := 97) dX10_init_99 (by decide) ?_
  refine mw_cast dX10_init_101 (by decide) rfl (mib1 rfl) ?_
  refine mw_dup dX10_init_102 rfl ?_
  refine mw_iconst (v := 2) dX10_init_103 (by decide) ?_
  refine mw_bipush (v := 121) dX10_init_104 (by decide) ?_
  refine mw_cast dX10_init_106 (by decide) rfl (mib1 rfl) ?_
  refine mw_dup dX10_init_107 rfl ?_
  refine mw_iconst (v := 3) dX10_init_108 (by decide) ?_
  refine mw_bipush (v := 32) dX10_init_109 (by decide) ?_
  refine mw_cast dX10_init_111 (by decide) rfl (mib1 rfl) ?_
  refine mw_dup dX10_init_112 rfl ?_
  refine mw_iconst (v := 4) dX10_init_113 (by decide) ?_
  refine mw_bipush (v := 32) dX10_init_114 (by decide) ?_
  refine mw_cast dX10_init_116 (by decide) rfl (mib1 rfl) ?_
  refine mw_dup dX10_init_117 rfl ?_
  refine mw_iconst (v := 5) dX10_init_118 (by decide) ?_
  refine mw_bipush (v := 32) dX10_init_119 (by decide) ?_
  refine mw_cast dX10_init_121 (by decide) rfl (mib1 rfl) ?_
  refine mw_dup dX10_init_122 rfl ?_
  refine mw_bipush (v := 6) dX10_init_123 (by decide) ?_
  refine mw_bipush (v := 32) dX10_init_125 (by decide) ?_
  refine mw_cast dX10_init_127 (by decide) rfl (mib1 rfl) ?_
  refine mw_dup dX10_init_128 rfl ?_
  refine mw_bipush (v := 7) dX10_init_129 (by decide) ?_
  refine mw_bipush (v := 32) dX10_init_131 (by decide) ?_
  refine mw_cast dX10_init_133 (by decide) rfl (mib1 rfl) ?_
  refine mw_dup dX10_init_134 rfl ?_
  refine mw_bipush (v := 8) dX10_init_135 (by decide) ?_
  refine mw_bipush (v := 116) dX10_init_137 (by decide) ?_
  refine mw_cast dX10_init_139 (by decide) rfl (mib1 rfl) ?_
  refine mw_dup dX10_init_140 rfl ?_
  refine mw_bipush (v := 9) dX10_init_141 (by decide) ?_
  refine mw_bipush (v := 111) dX10_init_143 (by decide) ?_
  refine mw_cast dX10_init_145 (by decide) rfl (mib1 rfl) ?_
  refine mw_dup dX10_init_146 rfl ?_
  refine mw_bipush (v := 10) dX10_init_147 (by decide) ?_
  refine mw_bipush (v := 108) dX10_init_149 (by decide) ?_
  refine mw_cast dX10_init_151 (by decide) rfl (mib1 rfl) ?_
  refine mw_dup dX10_init_152 rfl ?_
  refine mw_bipush (v := 11) dX10_init_153 (by decide) ?_
  refine mw_bipush (v := 108) dX10_init_155 (by decide) ?_
  refine mw_cast dX10_init_157 (by decide) rfl (mib1 rfl) ?_
  refine mw_dup dX10_init_158 rfl ?_
  refine mw_bipush (v := 12) dX10_init_159 (by decide) ?_
  refine mw_bipush (v := 32) dX10_init_161 (by decide) ?_
  refine mw_cast dX10_init_163 (by decide) rfl (mib1 rfl) ?_
  refine mw_dup dX10_init_164 rfl ?_
  refine mw_bipush (v := 13) dX10_init_165 (by decide) ?_
  refine mw_bipush (v := 32) dX10_init_167 (by decide) ?_
  refine mw_cast dX10_init_169 (by decide) rfl (mib1 rfl) ?_
  refine mw_dup dX10_init_170 rfl ?_
  refine mw_bipush (v := 14) dX10_init_171 (by decide) ?_
  refine mw_bipush (v := 32) dX10_init_173 (by decide) ?_
  refine mw_cast dX10_init_175 (by decide) rfl (mib1 rfl) ?_
  refine mw_dup dX10_init_176 rfl ?_
  refine mw_bipush (v := 15) dX10_init_177 (by decide) ?_
  refine mw_bipush (v := 32) dX10_init_179 (by decide) ?_
  refine mw_cast dX10_init_181 (by decide) rfl (mib1 rfl) ?_
  refine mw_dup dX10_init_182 rfl ?_
  refine mw_bipush (v := 16) dX10_init_183 (by decide) ?_
  refine mw_bipush (v := 102) dX10_init_185 (by decide) ?_
  refine mw_cast dX10_init_187 (by decide) rfl (mib1 rfl) ?_
  refine mw_dup dX10_init_188 rfl ?_
  refine mw_bipush (v := 17) dX10_init_189 (by decide) ?_
  refine mw_bipush (v := 111) dX10_init_191 (by decide) ?_
  refine mw_cast dX10_init_193 (by decide) rfl (mib1 rfl) ?_
  refine mw_dup dX10_init_194 rfl ?_
  refine mw_bipush (v := 18) dX10_init_195 (by decide) ?_
  refine mw_bipush (v := 114) dX10_init_197 (by decide) ?_
  refine mw_cast dX10_init_199 (by decide) rfl (mib1 rfl) ?_
  refine mw_dup dX10_init_200 rfl ?_
  refine mw_bipush (v := 19) dX10_init_201 (by decide) ?_
  refine mw_bipush (v := 100) dX10_init_203 (by decide) ?_
  refine mw_cast dX10_init_205 (by decide) rfl (mib1 rfl) ?_
  refine mw_dup dX10_init_206 rfl ?_
  refine mw_bipush (v := 20) dX10_init_207 (by decide) ?_
  refine mw_bipush (v := 32) dX10_init_209 (by decide) ?_
  refine mw_cast dX10_init_211 (by decide) rfl (mib1 rfl) ?_
  refine mw_dup dX10_init_212 rfl ?_
  refine mw_bipush (v := 21) dX10_init_213 (by decide) ?_
  refine mw_bipush (v := 32) dX10_init_215 (by decide) ?_
  refine mw_cast dX10_init_217 (by decide) rfl (mib1 rfl) ?_
  refine mw_dup dX10_init_218 rfl ?_
  refine mw_bipush (v := 22) dX10_init_219 (by decide) ?_
  refine mw_bipush (v := 32) dX10_init_221 (by decide) ?_
  refine mw_cast dX10_init_223 (by decide) rfl (mib1 rfl) ?_
  refine mw_dup dX10_init_224 rfl ?_
  refine mw_bipush (v := 23) dX10_init_225 (by decide) ?_
  refine mw_bipush (v := 32) dX10_init_227 (by decide) ?_
  refine mw_cast dX10_init_229 (by decide) rfl (mib1 rfl) ?_
  refine mw_dup dX10_init_230 rfl ?_
  refine mw_bipush (v := 24) dX10_init_231 (by decide) ?_
  refine mw_bipush (v := 98) dX10_init_233 (by decide) ?_
  refine mw_cast dX10_init_235 (by decide) rfl (mib1 rfl) ?_
  refine mw_dup dX10_init_236 rfl ?_
  refine mw_bipush (v := 25) dX10_init_237 (by decide) ?_
  refine mw_bipush (v := 114) dX10_init_239 (by decide) ?_
  refine mw_cast dX10_init_241 (by decide) rfl (mib1 rfl) ?_
  refine mw_dup dX10_init_242 rfl ?_
  refine mw_bipush (v := 26) dX10_init_243 (by decide) ?_
  refine mw_bipush (v := 105) dX10_init_245 (by decide) ?_
  refine mw_cast dX10_init_247 (by decide) rfl (mib1 rfl) ?_
  refine mw_dup dX10_init_248 rfl ?_
  refine mw_bipush (v := 27) dX10_init_249 (by decide) ?_
  refine mw_bipush (v := 100) dX10_init_251 (by decide) ?_
  refine mw_cast dX10_init_253 (by decide) rfl (mib1 rfl) ?_
  refine mw_dup dX10_init_254 rfl ?_
  refine mw_bipush (v := 28) dX10_init_255 (by decide) ?_
  refine mw_bipush (v := 103) dX10_init_257 (by decide) ?_
  refine mw_cast dX10_init_259 (by decide) rfl (mib1 rfl) ?_
  refine mw_dup dX10_init_260 rfl ?_
  refine mw_bipush (v := 29) dX10_init_261 (by decide) ?_
  refine mw_bipush (v := 101) dX10_init_263 (by decide) ?_
  refine mw_cast dX10_init_265 (by decide) rfl (mib1 rfl) ?_
  refine mw_dup dX10_init_266 rfl ?_
  refine mw_bipush (v := 30) dX10_init_267 (by decide) ?_
  refine mw_bipush (v := 32) dX10_init_269 (by decide) ?_
  refine mw_cast dX10_init_271 (by decide) rfl (mib1 rfl) ?_
  refine mw_dup dX10_init_272 rfl ?_
  refine mw_bipush (v := 31) dX10_init_273 (by decide) ?_
  refine mw_bipush (v := 32) dX10_init_275 (by decide) ?_
  refine mw_cast dX10_init_277 (by decide) rfl (mib1 rfl) ?_
  refine mw_dup dX10_init_278 rfl ?_
  refine mw_bipush (v := 32) dX10_init_279 (by decide) ?_
  refine mw_bipush (v := 109) dX10_init_281 (by decide) ?_
  refine mw_cast dX10_init_283 (by decide) rfl (mib1 rfl) ?_
  refine mw_dup dX10_init_284 rfl ?_
  refine mw_bipush (v := 33) dX10_init_285 (by decide) ?_
  refine mw_bipush (v := 105) dX10_init_287 (by decide) ?_
  refine mw_cast dX10_init_289 (by decide) rfl (mib1 rfl) ?_
  refine mw_dup dX10_init_290 rfl ?_
  refine mw_bipush (v := 34) dX10_init_291 (by decide) ?_
  refine mw_bipush (v := 114) dX10_init_293 (by decide) ?_
  refine mw_cast dX10_init_295 (by decide) rfl (mib1 rfl) ?_
  refine mw_dup dX10_init_296 rfl ?_
  refine mw_bipush (v := 35) dX10_init_297 (by decide) ?_
  refine mw_bipush (v := 101) dX10_init_299 (by decide) ?_
  refine mw_cast dX10_init_301 (by decide) rfl (mib1 rfl) ?_
  refine mw_dup dX10_init_302 rfl ?_
  refine mw_bipush (v := 36) dX10_init_303 (by decide) ?_
  refine mw_bipush (v := 32) dX10_init_305 (by decide) ?_
  refine mw_cast dX10_init_307 (by decide) rfl (mib1 rfl) ?_
  refine mw_dup dX10_init_308 rfl ?_
  refine mw_bipush (v := 37) dX10_init_309 (by decide) ?_
  refine mw_bipush (v := 32) dX10_init_311 (by decide) ?_
  refine mw_cast dX10_init_313 (by decide) rfl (mib1 rfl) ?_
  refine mw_dup dX10_init_314 rfl ?_
  refine mw_bipush (v := 38) dX10_init_315 (by decide) ?_
  refine mw_bipush (v := 32) dX10_init_317 (by decide) ?_
  refine mw_cast dX10_init_319 (by decide) rfl (mib1 rfl) ?_
  refine mw_dup dX10_init_320 rfl ?_
  refine mw_bipush (v := 39) dX10_init_321 (by decide) ?_
  refine mw_bipush (v := 32) dX10_init_323 (by decide) ?_
  refine mw_cast dX10_init_325 (by decide) rfl (mib1 rfl) ?_
  refine mw_dup dX10_init_326 rfl ?_
  refine mw_bipush (v := 40) dX10_init_327 (by decide) ?_
  refine mw_bipush (v := 115) dX10_init_329 (by decide) ?_
  refine mw_cast dX10_init_331 (by decide) rfl (mib1 rfl) ?_
  refine mw_dup dX10_init_332 rfl ?_
  refine mw_bipush (v := 41) dX10_init_333 (by decide) ?_
  refine mw_bipush (v := 116) dX10_init_335 (by decide) ?_
  refine mw_cast dX10_init_337 (by decide) rfl (mib1 rfl) ?_
  refine mw_dup dX10_init_338 rfl ?_
  refine mw_bipush (v := 42) dX10_init_339 (by decide) ?_
  refine mw_bipush (v := 97) dX10_init_341 (by decide) ?_
  refine mw_cast dX10_init_343 (by decide) rfl (mib1 rfl) ?_
  refine mw_dup dX10_init_344 rfl ?_
  refine mw_bipush (v := 43) dX10_init_345 (by decide) ?_
  refine mw_bipush (v := 105) dX10_init_347 (by decide) ?_
  refine mw_cast dX10_init_349 (by decide) rfl (mib1 rfl) ?_
  refine mw_dup dX10_init_350 rfl ?_
  refine mw_bipush (v := 44) dX10_init_351 (by decide) ?_
  refine mw_bipush (v := 114) dX10_init_353 (by decide) ?_
  refine mw_cast dX10_init_355 (by decide) rfl (mib1 rfl) ?_
  refine mw_dup dX10_init_356 rfl ?_
  refine mw_bipush (v := 45) dX10_init_357 (by decide) ?_
  refine mw_bipush (v := 32) dX10_init_359 (by decide) ?_
  refine mw_cast dX10_init_361 (by decide) rfl (mib1 rfl) ?_
  refine mw_dup dX10_init_362 rfl ?_
  refine mw_bipush (v := 46) dX10_init_363 (by decide) ?_
  refine mw_bipush (v := 32) dX10_init_365 (by decide) ?_
  refine mw_cast dX10_init_367 (by decide) rfl (mib1 rfl) ?_
  refine mw_dup dX10_init_368 rfl ?_
  refine mw_bipush (v := 47) dX10_init_369 (by decide) ?_
  refine mw_bipush (v := 32) dX10_init_371 (by decide) ?_
  refine mw_cast dX10_init_373 (by decide) rfl (mib1 rfl) ?_
  refine mw_dup dX10_init_374 rfl ?_
  refine mw_bipush (v := 48) dX10_init_375 (by decide) ?_
  refine mw_bipush (v := 116) dX10_init_377 (by decide) ?_
  refine mw_cast dX10_init_379 (by decide) rfl (mib1 rfl) ?_
  refine mw_dup dX10_init_380 rfl ?_
  refine mw_bipush (v := 49) dX10_init_381 (by decide) ?_
  refine mw_bipush (v := 104) dX10_init_383 (by decide) ?_
  refine mw_cast dX10_init_385 (by decide) rfl (mib1 rfl) ?_
  refine mw_dup dX10_init_386 rfl ?_
  refine mw_bipush (v := 50) dX10_init_387 (by decide) ?_
  refine mw_bipush (v := 105) dX10_init_389 (by decide) ?_
  refine mw_cast dX10_init_391 (by decide) rfl (mib1 rfl) ?_
  refine mw_dup dX10_init_392 rfl ?_
  refine mw_bipush (v := 51) dX10_init_393 (by decide) ?_
  refine mw_bipush (v := 110) dX10_init_395 (by decide) ?_
  refine mw_cast dX10_init_397 (by decide) rfl (mib1 rfl) ?_
  refine mw_dup dX10_init_398 rfl ?_
  refine mw_bipush (v := 52) dX10_init_399 (by decide) ?_
  refine mw_bipush (v := 103) dX10_init_401 (by decide) ?_
  refine mw_cast dX10_init_403 (by decide) rfl (mib1 rfl) ?_
  refine mw_dup dX10_init_404 rfl ?_
  refine mw_bipush (v := 53) dX10_init_405 (by decide) ?_
  refine mw_bipush (v := 32) dX10_init_407 (by decide) ?_
  refine mw_cast dX10_init_409 (by decide) rfl (mib1 rfl) ?_
  refine mw_dup dX10_init_410 rfl ?_
  refine mw_bipush (v := 54) dX10_init_411 (by decide) ?_
  refine mw_bipush (v := 32) dX10_init_413 (by decide) ?_
  refine mw_cast dX10_init_415 (by decide) rfl (mib1 rfl) ?_
  refine mw_dup dX10_init_416 rfl ?_
  refine mw_bipush (v := 55) dX10_init_417 (by decide) ?_
  refine mw_bipush (v := 32) dX10_init_419 (by decide) ?_
  refine mw_cast dX10_init_421 (by decide) rfl (mib1 rfl) ?_
  refine mw_dup dX10_init_422 rfl ?_
  refine mw_bipush (v := 56) dX10_init_423 (by decide) ?_
  refine mw_bipush (v := 112) dX10_init_425 (by decide) ?_
  refine mw_cast dX10_init_427 (by decide) rfl (mib1 rfl) ?_
  refine mw_dup dX10_init_428 rfl ?_
  refine mw_bipush (v := 57) dX10_init_429 (by decide) ?_
  refine mw_bipush (v := 108) dX10_init_431 (by decide) ?_
  refine mw_cast dX10_init_433 (by decide) rfl (mib1 rfl) ?_
  refine mw_dup dX10_init_434 rfl ?_
  refine mw_bipush (v := 58) dX10_init_435 (by decide) ?_
  refine mw_bipush (v := 97) dX10_init_437 (by decide) ?_
  refine mw_cast dX10_init_439 (by decide) rfl (mib1 rfl) ?_
  refine mw_dup dX10_init_440 rfl ?_
  refine mw_bipush (v := 59) dX10_init_441 (by decide) ?_
  refine mw_bipush (v := 99) dX10_init_443 (by decide) ?_
  refine mw_cast dX10_init_445 (by decide) rfl (mib1 rfl) ?_
  refine mw_dup dX10_init_446 rfl ?_
  refine mw_bipush (v := 60) dX10_init_447 (by decide) ?_
  refine mw_bipush (v := 101) dX10_init_449 (by decide) ?_
  refine mw_cast dX10_init_451 (by decide) rfl (mib1 rfl) ?_
  refine mw_dup dX10_init_452 rfl ?_
  refine mw_bipush (v := 61) dX10_init_453 (by decide) ?_
  refine mw_bipush (v := 115) dX10_init_455 (by decide) ?_
  refine mw_cast dX10_init_457 (by decide) rfl (mib1 rfl) ?_
  refine mw_dup dX10_init_458 rfl ?_
  refine mw_bipush (v := 62) dX10_init_459 (by decide) ?_
  refine mw_bipush (v := 32) dX10_init_461 (by decide) ?_
  refine mw_cast dX10_init_463 (by decide) rfl (mib1 rfl) ?_
  refine mw_dup dX10_init_464 rfl ?_
  refine mw_bipush (v := 63) dX10_init_465 (by decide) ?_
  refine mw_bipush (v := 32) dX10_init_467 (by decide) ?_
  refine mw_cast dX10_init_469 (by decide) rfl (mib1 rfl) ?_
  refine mw_dup dX10_init_470 rfl ?_
  refine mw_bipush (v := 64) dX10_init_471 (by decide) ?_
  refine mw_bipush (v := 119) dX10_init_473 (by decide) ?_
  refine mw_cast dX10_init_475 (by decide) rfl (mib1 rfl) ?_
  refine mw_dup dX10_init_476 rfl ?_
  refine mw_bipush (v := 65) dX10_init_477 (by decide) ?_
  refine mw_bipush (v := 101) dX10_init_479 (by decide) ?_
  refine mw_cast dX10_init_481 (by decide) rfl (mib1 rfl) ?_
  refine mw_dup dX10_init_482 rfl ?_
  refine mw_bipush (v := 66) dX10_init_483 (by decide) ?_
  refine mw_bipush (v := 97) dX10_init_485 (by decide) ?_
  refine mw_cast dX10_init_487 (by decide) rfl (mib1 rfl) ?_
  refine mw_dup dX10_init_488 rfl ?_
  refine mw_bipush (v := 67) dX10_init_489 (by decide) ?_
  refine mw_bipush (v := 116) dX10_init_491 (by decide) ?_
  refine mw_cast dX10_init_493 (by decide) rfl (mib1 rfl) ?_
  refine mw_dup dX10_init_494 rfl ?_
  refine mw_bipush (v := 68) dX10_init_495 (by decide) ?_
  refine mw_bipush (v := 104) dX10_init_497 (by decide) ?_
  refine mw_cast dX10_init_499 (by decide) rfl (mib1 rfl) ?_
  refine mw_dup dX10_init_500 rfl ?_
  refine mw_bipush (v := 69) dX10_init_501 (by decide) ?_
  refine mw_bipush (v := 101) dX10_init_503 (by decide) ?_
  refine mw_cast dX10_init_505 (by decide) rfl (mib1 rfl) ?_
  refine mw_dup dX10_init_506 rfl ?_
  refine mw_bipush (v := 70) dX10_init_507 (by decide) ?_
  refine mw_bipush (v := 114) dX10_init_509 (by decide) ?_
  refine mw_cast dX10_init_511 (by decide) rfl (mib1 rfl) ?_
  refine mw_dup dX10_init_512 rfl ?_
  refine mw_bipush (v := 71) dX10_init_513 (by decide) ?_
  refine mw_bipush (v := 32) dX10_init_515 (by decide) ?_
  refine mw_cast dX10_init_517 (by decide) rfl (mib1 rfl) ?_
  refine mw_dup dX10_init_518 rfl ?_
  refine mw_bipush (v := 72) dX10_init_519 (by decide) ?_
  refine mw_bipush (v := 103) dX10_init_521 (by decide) ?_
  refine mw_cast dX10_init_523 (by decide) rfl (mib1 rfl) ?_
  refine mw_dup dX10_init_524 rfl ?_
  refine mw_bipush (v := 73) dX10_init_525 (by decide) ?_
  refine mw_bipush (v := 97) dX10_init_527 (by decide) ?_
  refine mw_cast dX10_init_529 (by decide) rfl (mib1 rfl) ?_
  refine mw_dup dX10_init_530 rfl ?_
  refine mw_bipush (v := 74) dX10_init_531 (by decide) ?_
  refine mw_bipush (v := 105) dX10_init_533 (by decide) ?_
  refine mw_cast dX10_init_535 (by decide) rfl (mib1 rfl) ?_
  refine mw_dup dX10_init_536 rfl ?_
  refine mw_bipush (v := 75) dX10_init_537 (by decide) ?_
  refine mw_bipush (v := 110) dX10_init_539 (by decide) ?_
  refine mw_cast dX10_init_541 (by decide) rfl (mib1 rfl) ?_
  refine mw_dup dX10_init_542 rfl ?_
  refine mw_bipush (v := 76) dX10_init_543 (by decide) ?_
  refine mw_bipush (v := 32) dX10_init_545 (by decide) ?_
  refine mw_cast dX10_init_547 (by decide) rfl (mib1 rfl) ?_
  refine mw_dup dX10_init_548 rfl ?_
  refine mw_bipush (v := 77) dX10_init_549 (by decide) ?_
  refine mw_bipush (v := 32) dX10_init_551 (by decide) ?_
  refine mw_cast dX10_init_553 (by decide) rfl (mib1 rfl) ?_
  refine mw_dup dX10_init_554 rfl ?_
  refine mw_bipush (v := 78) dX10_init_555 (by decide) ?_
  refine mw_bipush (v := 32) dX10_init_557 (by decide) ?_
  refine mw_cast dX10_init_559 (by decide) rfl (mib1 rfl) ?_
  refine mw_dup dX10_init_560 rfl ?_
  refine mw_bipush (v := 79) dX10_init_561 (by decide) ?_
  refine mw_bipush (v := 32) dX10_init_563 (by decide) ?_
  refine mw_cast dX10_init_565 (by decide) rfl (mib1 rfl) ?_
  refine mw_dup dX10_init_566 rfl ?_
  refine mw_bipush (v := 80) dX10_init_567 (by decide) ?_
  refine mw_bipush (v := 108) dX10_init_569 (by decide) ?_
  refine mw_cast dX10_init_571 (by decide) rfl (mib1 rfl) ?_
  refine mw_dup dX10_init_572 rfl ?_
  refine mw_bipush (v := 81) dX10_init_573 (by decide) ?_
  refine mw_bipush (v := 111) dX10_init_575 (by decide) ?_
  refine mw_cast dX10_init_577 (by decide) rfl (mib1 rfl) ?_
  refine mw_dup dX10_init_578 rfl ?_
  refine mw_bipush (v := 82) dX10_init_579 (by decide) ?_
  refine mw_bipush (v := 115) dX10_init_581 (by decide) ?_
  refine mw_cast dX10_init_583 (by decide) rfl (mib1 rfl) ?_
  refine mw_dup dX10_init_584 rfl ?_
  refine mw_bipush (v := 83) dX10_init_585 (by decide) ?_
  refine mw_bipush (v := 115) dX10_init_587 (by decide) ?_
  refine mw_cast dX10_init_589 (by decide) rfl (mib1 rfl) ?_
  refine mw_dup dX10_init_590 rfl ?_
  refine mw_bipush (v := 84) dX10_init_591 (by decide) ?_
  refine mw_bipush (v := 32) dX10_init_593 (by decide) ?_
  refine mw_cast dX10_init_595 (by decide) rfl (mib1 rfl) ?_
  refine mw_dup dX10_init_596 rfl ?_
  refine mw_bipush (v := 85) dX10_init_597 (by decide) ?_
  refine mw_bipush (v := 32) dX10_init_599 (by decide) ?_
  refine mw_cast dX10_init_601 (by decide) rfl (mib1 rfl) ?_
  refine mw_dup dX10_init_602 rfl ?_
  refine mw_bipush (v := 86) dX10_init_603 (by decide) ?_
  refine mw_bipush (v := 32) dX10_init_605 (by decide) ?_
  refine mw_cast dX10_init_607 (by decide) rfl (mib1 rfl) ?_
  refine mw_dup dX10_init_608 rfl ?_
  refine mw_bipush (v := 87) dX10_init_609 (by decide) ?_
  refine mw_bipush (v := 32) dX10_init_611 (by decide) ?_
  refine mw_cast dX10_init_613 (by decide) rfl (mib1 rfl) ?_
  refine mw_dup dX10_init_614 rfl ?_
  refine mw_bipush (v := 88) dX10_init_615 (by decide) ?_
  refine mw_bipush (v := 116) dX10_init_617 (by decide) ?_
  refine mw_cast dX10_init_619 (by decide) rfl (mib1 rfl) ?_
  refine mw_dup dX10_init_620 rfl ?_
  refine mw_bipush (v := 89) dX10_init_621 (by decide) ?_
  refine mw_bipush (v := 105) dX10_init_623 (by decide) ?_
  refine mw_cast dX10_init_625 (by decide) rfl (mib1 rfl) ?_
  refine mw_dup dX10_init_626 rfl ?_
  refine mw_bipush (v := 90) dX10_init_627 (by decide) ?_
  refine mw_bipush (v := 109) dX10_init_629 (by decide) ?_
  refine mw_cast dX10_init_631 (by decide) rfl (mib1 rfl) ?_
  refine mw_dup dX10_init_632 rfl ?_
  refine mw_bipush (v := 91) dX10_init_633 (by decide) ?_
  refine mw_bipush (v := 101) dX10_init_635 (by decide) ?_
  refine mw_cast dX10_init_637 (by decide) rfl (mib1 rfl) ?_
  refine mw_dup dX10_init_638 rfl ?_
  refine mw_bipush (v := 92) dX10_init_639 (by decide) ?_
  refine mw_bipush (v := 32) dX10_init_641 (by decide) ?_
  refine mw_cast dX10_init_643 (by decide) rfl (mib1 rfl) ?_
  refine mw_dup dX10_init_644 rfl ?_
  refine mw_bipush (v := 93) dX10_init_645 (by decide) ?_
  refine mw_bipush (v := 32) dX10_init_647 (by decide) ?_
  refine mw_cast dX10_init_649 (by decide) rfl (mib1 rfl) ?_
  refine mw_dup dX10_init_650 rfl ?_
  refine mw_bipush (v := 94) dX10_init_651 (by decide) ?_
  refine mw_bipush (v := 32) dX10_init_653 (by decide) ?_
  refine mw_cast dX10_init_655 (by decide) rfl (mib1 rfl) ?_
  refine mw_dup dX10_init_656 rfl ?_
  refine mw_bipush (v := 95) dX10_init_657 (by decide) ?_
  refine mw_bipush (v := 32) dX10_init_659 (by decide) ?_
  refine mw_cast dX10_init_661 (by decide) rfl (mib1 rfl) ?_
  refine mw_dup dX10_init_662 rfl ?_
  refine mw_bipush (v := 96) dX10_init_663 (by decide) ?_
  refine mw_bipush (v := 115) dX10_init_665 (by decide) ?_
  refine mw_cast dX10_init_667 (by decide) rfl (mib1 rfl) ?_
  refine mw_dup dX10_init_668 rfl ?_
  refine mw_bipush (v := 97) dX10_init_669 (by decide) ?_
  refine mw_bipush (v := 104) dX10_init_671 (by decide) ?_
  refine mw_cast dX10_init_673 (by decide) rfl (mib1 rfl) ?_
  refine mw_dup dX10_init_674 rfl ?_
  refine mw_bipush (v := 98) dX10_init_675 (by decide) ?_
  refine mw_bipush (v := 117) dX10_init_677 (by decide) ?_
  refine mw_cast dX10_init_679 (by decide) rfl (mib1 rfl) ?_
  refine mw_dup dX10_init_680 rfl ?_
  refine mw_bipush (v := 99) dX10_init_681 (by decide) ?_
  refine mw_bipush (v := 116) dX10_init_683 (by decide) ?_
  refine mw_cast dX10_init_685 (by decide) rfl (mib1 rfl) ?_
  refine mw_dup dX10_init_686 rfl ?_
  refine mw_bipush (v := 100) dX10_init_687 (by decide) ?_
  refine mw_bipush (v := 32) dX10_init_689 (by decide) ?_
  refine mw_cast dX10_init_691 (by decide) rfl (mib1 rfl) ?_
  refine mw_dup dX10_init_692 rfl ?_
  refine mw_bipush (v := 101) dX10_init_693 (by decide) ?_
  refine mw_bipush (v := 32) dX10_init_695 (by decide) ?_
  refine mw_cast dX10_init_697 (by decide) rfl (mib1 rfl) ?_
  refine mw_dup dX10_init_698 rfl ?_
  refine mw_bipush (v := 102) dX10_init_699 (by decide) ?_
  refine mw_bipush (v := 32) dX10_init_701 (by decide) ?_
  refine mw_cast dX10_init_703 (by decide) rfl (mib1 rfl) ?_
  refine mw_dup dX10_init_704 rfl ?_
  refine mw_bipush (v := 103) dX10_init_705 (by decide) ?_
  refine mw_bipush (v := 32) dX10_init_707 (by decide) ?_
  refine mw_cast dX10_init_709 (by decide) rfl (mib1 rfl) ?_
  refine mw_putR (ty := (.array .char)) (ci := 9) (j := 31) tyX10 tyX10_ok nmX10 dX10_init_710 (by decide) rfl rfl rfl (by decide) uws_9 wt_787 (Or.inl rfl) (Or.inr ⟨rfl, rfl, rfl⟩) (by decide +kernel) rfl rfl ?_
  refine mw_aload_n dX10_init_713 0 rfl ?_
  refine mw_bipush (v := 114) dX10_init_714 (by decide) ?_
  refine mk_newaI (n' := 82) (c' := 12) (s' := 671) rfl rfl rfl (N0 := 114) (N := 114) dX10_init_716 wt_840 rfl (by decide) (by decide) (by decide) (zc_uR (by decide) (zc_uI (by decide) (zc_uI (by decide) (zc_uI (by decide) (zc_uI (by decide) (zc_uI (by decide) (zc_uI (by decide) (zc_uI (by decide) (zc_uI (by decide) (zc_uI (by decide) (zc_uI (by decide) (zc_uI (by decide) (zc_uI (by decide) (zc_uI (by decide) (zc_uI (by decide) (zc_uI (by decide) (zc_uI (by decide) (zc_uI (by decide) (zc_uI (by decide) (zc_uI (by decide) (zc_uI (by decide) (zc_uI (by decide) (zc_uI (by decide) (zc_uI (by decide) (zc_uI (by decide) (zc_uI (by decide) (zc_uI (by decide) (zc_uI (by decide) (zc_uI (by decide) (zc_uI (by decide) (zc_uI (by decide) (zc_uI (by decide) (zc_uI (by decide) (zc_uI (by decide) (zc_uI (by decide) (zc_uI (by decide) (zc_uI (by decide) (zc_uI (by decide) (zc_uI (by decide) (zc_uI (by decide) (zc_uI (by decide) (zc_uI (by decide) (zc_uI (by decide) (zc_uI (by decide) (zc_uI (by decide) (zc_uI (by decide) (zc_uI (by decide) (zc_uI (by decide) (zc_uI (by decide) (zc_uI (by decide) (zc_uI (by decide) (zc_uI (by decide) (zc_uI (by decide) (zc_uI (by decide) (zc_uI (by decide) (zc_uI (by decide) (zc_uI (by decide) (zc_uI (by decide) (zc_uI (by decide) (zc_uI (by decide) (zc_uI (by decide) (zc_uI (by decide) (zc_uI (by decide) (zc_uI (by decide) (zc_uI (by decide) (zc_uI (by decide) (zc_uI (by decide) (zc_uI (by decide) (zc_uI (by decide) (zc_uI (by decide) (zc_uI (by decide) (zc_uI (by decide) (zc_uI (by decide) (zc_uI (by decide) (zc_uI (by decide) (zc_uI (by decide) (zc_uI (by decide) (zc_uI (by decide) (zc_uI (by decide) (zc_uI (by decide) (zc_uI (by decide) (zc_uI (by decide) (zc_uI (by decide) (zc_uI (by decide) (zc_uI (by decide) (zc_uI (by decide) (zc_uI (by decide) (zc_uI (by decide) (zc_uI (by decide) (zc_uI (by decide) (zc_uI (by decide) (zc_uI (by decide) (zc_uI (by decide) (zc_uI (by decide) (zc_uI (by decide) (zc_uI (by decide) (zc_uI (by decide) (zc_uI (by decide) (zc_uI (by decide) (zc_uI (by decide) (zc_uI (by decide) (zc_uI (by decide) (zc_uI (by decide) (zc_uI (by decide) (zc_uI (by decide) (zc_uR (by decide) (zc_uR (by decide) (zc_uR (by decide) (zc_uR (by decide) (zc_uR (by decide) (zc_uR (by decide) (zc_uR (by decide) (zc_uR (by decide) (zc_uR (by decide) (zc_uI (by decide) (zc_uR (by decide) (hz 81 (by decide)))))))))))))))))))))))))))))))))))))))))))))))))))))))))))))))))))))))))))))))))))))))))))))))))))))))))))))))))))))) (by decide) (by decide) (by decide) rfl ?_
  refine mw_putR (ty := (.array .int)) (ci := 9) (j := 34) tyX10 tyX10_ok nmX10 dX10_init_718 (by decide) rfl rfl rfl (by decide) uws_9 wt_832 (Or.inl rfl) (Or.inr ⟨rfl, rfl, rfl⟩) (by decide +kernel) rfl rfl ?_
  refine mw_aload_n dX10_init_721 0 rfl ?_
  refine mw_get (v := .ref 73) (j := 7) (ci := 9) dX10_init_722 (by decide) rfl rfl rfl (by decide) uws_9 wt_632 (Or.inl rfl) (by simp [mfv, mft, tyX10, mmR_uI, mmR_uR, va_rf]) ?_
  refine mw_iconst (v := 1) dX10_init_725 (by decide) ?_
  refine mw_iconst (v := 1) dX10_init_726 (by decide) ?_
  refine mw_iast dX10_init_727 (by decide) rfl (mib1 rfl) ?_
  exact mw_vret dX10_init_728 rfl rfl rfl rfl
end
section
def R_law : String := "RoundsPerHourLaw"
def lw_P (b : Addr) (xs : List Int32) (args : Array Value) (s : State) : Prop := args = #[.ref b] ∧ s.IntsAt b xs ∧ xs.length ≤ 3072 ∧ (Jvm.Cond.and given_1 narrow_1).before args s = true
def lw_Q (_ : Array Value) (s : State) (o : Outcome) (t : State) : Prop := o = .returned (some (.int 1)) ∧ Framed s o t [] 600000 7302250
def lw_Z (below : List Frame) (a : Array Value) (s : State) : State → Prop := fun t => ∃ o, t.status = .running ∧ Ended t below o ∧ lw_Q a s o t
/-- the law's own end, with 1 on the stack, nothing written that was there before, its room as the claim has it -/
theorem lw_ret {p : Program} {l : Launch} {e : Env} {s : State} {m : MethodId} {below : List Frame} {meth : Method} {c : Code} {b : Nat} (hx : p.tables.exec = Jvm.exec) (hb : c.code = code) (hr : meth.sig.returnType = ret) (hlocks : meth.locks = false) {pc : Nat} {H : Heap} {ls : Array Slot} (hdg : decode code pc = .ok (.ireturn, 1)) : W p l e room_1 s m #[Value.ref b] below meth c H [] 600000 7302250 (lw_Z below #[Value.ref b] s) (F0 m pc ls [.int 1]) := by
  intro T hT X
  obtain ⟨fs, hret, hrun, hended, hW, hframe⟩ := X.leave (v := some (.int 1)) (hlocks := hlocks) (fun h => by rw [hr] at h; cases h)
  have hmeth' : T.vm.method? m = some meth := X.method'
  refine ⟨T.setFrames fs, ?_, .returned (some (.int 1)), hrun, hended, rfl, ⟨_, rfl⟩, hW, hframe⟩
  jvm_step X.here [X.here.top, hx, hb, hdg, hmeth', hr, ret, narrow_b1]
  (try refine ⟨rfl, ?_⟩); (try refine ⟨rfl, ?_⟩)
  first | (intro acts; rw [hret _ acts rfl rfl rfl]) | rw [hret _ _ rfl rfl rfl]
  exact Steps.refl _
/-- what holds at the law's entry: the machine, the code, the tables' words (any of lw_tbl by 'hts w (by decide +kernel)'), the script of L ints xs at the cell b, what the Statement gives of the start (any of its parts by flat_of_before) -/
def lw_At (p : Program) (s : State) (m : MethodId) (meth : Method) (c : Code) (b L : Nat) (xs : Nat → Int32) : Prop :=
  p.tables.exec = Jvm.exec ∧ c.code = code ∧ meth.sig.returnType = ret ∧ c.maxLocals = 4 ∧ s.vm.findClass R_law = some m.cls ∧ (∀ w ∈ lw_tbl, w.before #[Value.ref b] s = true) ∧ va_X b L xs s s.heap ∧ b < s.heap.size ∧ meth.locks = false ∧ (Jvm.Cond.and given_1 narrow_1).before #[Value.ref b] s = true
/-! ===== the law's own rows ===== -/

def LW (l : Launch) (E : MX) (b Ln : Nat) (xs : Nat → Int32) (n c s : Nat) (σ : MSt) (pc : Nat) (L : List (Nat × Value)) (st : List Value) : Prop :=
  ∀ (p : Program) (e : Env) (s0 : State) (m : MethodId) (below : List Frame) (meth : Method) (c0 : Code) (H : Heap) (locs : List Loc) (ls : Array Slot),
    lw_At p s0 m meth c0 b Ln xs → mCX E s0 → E.2.2.2 2002 = b → E.2.2.1 = s0.heap.size → MHx E n c σ s0 H locs → lv_has ls 4 (mtl E L) →
    W p l e room_1 s0 m #[Value.ref b] below meth c0 H locs c s (lw_Z below #[Value.ref b] s0) (F0 m pc ls (st.map (mtv E)))
theorem lw_w {p : Program} {s0 : State} {m : MethodId} {meth : Method} {c0 : Code} {b Ln : Nat} {xs : Nat → Int32} (A : lw_At p s0 m meth c0 b Ln xs) : ∀ w ∈ mWT, w.before #[Value.ref b] s0 = true := fun w hw => lw_x_ok A.2.2.2.2.2.1 w (mwt_in hw)
section LRules
variable {l : Launch} {E : MX} {b Ln : Nat} {xs : Nat → Int32} {n c s : Nat} {σ σ' : MSt} {pc : Nat} {L L' : List (Nat × Value)} {st : List Value}

theorem lw_iconst {k0 : Int} {v : Int32} (hd : decode code pc = .ok (.iconst k0, 1)) (hv : Int32.ofInt k0 = v) (k : LW l E b Ln xs n c s σ (pc + 1) L (.int v :: st)) : LW l E b Ln xs n c s σ pc L st :=
  fun p e s0 m below meth c0 H locs ls A C eb es X hl => lv_iconst A.1 A.2.1 hd hv (k p e s0 m below meth c0 H locs ls A C eb es X hl)

theorem lw_bipush {k0 : Int} {v : Int32} (hd : decode code pc = .ok (.bipush k0, 2)) (hv : (Int8.ofInt k0).toInt32 = v) (k : LW l E b Ln xs n c s σ (pc + 2) L (.int v :: st)) : LW l E b Ln xs n c s σ pc L st :=
  fun p e s0 m below meth c0 H locs ls A C eb es X hl => lv_bipush A.1 A.2.1 hd hv (k p e s0 m below meth c0 H locs ls A C eb es X hl)

theorem lw_iload_n {q0 : Fin 4} {x : Int32} (hd : decode code pc = .ok (.iload_n q0, 1)) (q : Nat) (hq : L[q]? = some ((q0 : Nat), .int x)) (k : LW l E b Ln xs n c s σ (pc + 1) L (.int x :: st)) : LW l E b Ln xs n c s σ pc L st :=
  fun p e s0 m below meth c0 H locs ls A C eb es X hl => lv_iload_n A.1 A.2.1 hd rfl (lv_at hl q (mtl_at hq)) (k p e s0 m below meth c0 H locs ls A C eb es X hl)

theorem lw_istore_n {q0 : Fin 4} {i : Nat} {x : Int32} (hd : decode code pc = .ok (.istore_n q0, 1)) (hi : (q0 : Nat) = i) (hn : i < 4) (hL : (i, Value.int x) :: L.filter (fun q => !(q.1 == i) && !(q.1 + 1 == i && q.2.category == 2)) = L') (k : LW l E b Ln xs n c s σ (pc + 1) L' st) : LW l E b Ln xs n c s σ pc L (.int x :: st) :=
  fun p e s0 m below meth c0 H locs ls A C eb es X hl => lv_istore_n (lv' := mtl E L') A.1 A.2.1 hd hi hl hn (by rw [← hL]; exact congrArg (List.cons _) (mtl_filter1 E i L).symm) (fun ls hl => k p e s0 m below meth c0 H locs ls A C eb es X hl)

theorem lw_aload_n {q0 : Fin 4} {x : Nat} (hd : decode code pc = .ok (.aload_n q0, 1)) (q : Nat) (hq : L[q]? = some ((q0 : Nat), .ref x)) (k : LW l E b Ln xs n c s σ (pc + 1) L (.ref x :: st)) : LW l E b Ln xs n c s σ pc L st :=
  fun p e s0 m below meth c0 H locs ls A C eb es X hl => lv_aload_n A.1 A.2.1 hd rfl (lv_at hl q (mtl_at hq)) (k p e s0 m below meth c0 H locs ls A C eb es X hl)

theorem lw_astore_n {q0 : Fin 4} {i : Nat} {x : Nat} (hd : decode code pc = .ok (.astore_n q0, 1)) (hi : (q0 : Nat) = i) (hn : i < 4) (hL : (i, Value.ref x) :: L.filter (fun q => !(q.1 == i) && !(q.1 + 1 == i && q.2.category == 2)) = L') (k : LW l E b Ln xs n c s σ (pc + 1) L' st) : LW l E b Ln xs n c s σ pc L (.ref x :: st) :=
  fun p e s0 m below meth c0 H locs ls A C eb es X hl => lv_astore_n (lv' := mtl E L') A.1 A.2.1 hd hi hl hn (by rw [← hL]; exact congrArg (List.cons _) (mtl_filter1 E i L).symm) (fun ls hl => k p e s0 m below meth c0 H locs ls A C eb es X hl)

theorem lw_iinc {i : Nat} {k0 : Int} {x v : Int32} (hd : decode code pc = .ok (.iinc i k0, 3)) (q : Nat) (hq : L[q]? = some (i, .int x)) (hv : x + Int32.ofInt k0 = v) (hn : i < 4) (hL : (i, Value.int v) :: L.filter (fun q => !(q.1 == i) && !(q.1 + 1 == i && q.2.category == 2)) = L') (k : LW l E b Ln xs n c s σ (pc + 3) L' st) : LW l E b Ln xs n c s σ pc L st :=
  fun p e s0 m below meth c0 H locs ls A C eb es X hl => lv_iinc (lv' := mtl E L') A.1 A.2.1 hd hl (mtl_at hq) hv hn (by rw [← hL]; exact congrArg (List.cons _) (mtl_filter1 E i L).symm) (fun ls hl => k p e s0 m below meth c0 H locs ls A C eb es X hl)

theorem lw_iadd {x y : Int32} (hd : decode code pc = .ok (.iadd, 1)) (k : LW l E b Ln xs n c s σ (pc + 1) L (.int (x + y) :: st)) : LW l E b Ln xs n c s σ pc L (.int y :: .int x :: st) :=
  fun p e s0 m below meth c0 H locs ls A C eb es X hl => lv_iadd A.1 A.2.1 hd (k p e s0 m below meth c0 H locs ls A C eb es X hl)

theorem lw_isub {x y : Int32} (hd : decode code pc = .ok (.isub, 1)) (k : LW l E b Ln xs n c s σ (pc + 1) L (.int (x - y) :: st)) : LW l E b Ln xs n c s σ pc L (.int y :: .int x :: st) :=
  fun p e s0 m below meth c0 H locs ls A C eb es X hl => lv_isub A.1 A.2.1 hd (k p e s0 m below meth c0 H locs ls A C eb es X hl)

theorem lw_iand {x y : Int32} (hd : decode code pc = .ok (.iand, 1)) (k : LW l E b Ln xs n c s σ (pc + 1) L (.int (x &&& y) :: st)) : LW l E b Ln xs n c s σ pc L (.int y :: .int x :: st) :=
  fun p e s0 m below meth c0 H locs ls A C eb es X hl => lv_iand A.1 A.2.1 hd (k p e s0 m below meth c0 H locs ls A C eb es X hl)

theorem lw_land {x y : Int64} (hd : decode code pc = .ok (.land, 1)) (k : LW l E b Ln xs n c s σ (pc + 1) L (.long (x &&& y) :: st)) : LW l E b Ln xs n c s σ pc L (.long y :: .long x :: st) :=
  fun p e s0 m below meth c0 H locs ls A C eb es X hl => lv_land A.1 A.2.1 hd (k p e s0 m below meth c0 H locs ls A C eb es X hl)

theorem lw_lor {x y : Int64} (hd : decode code pc = .ok (.lor, 1)) (k : LW l E b Ln xs n c s σ (pc + 1) L (.long (x ||| y) :: st)) : LW l E b Ln xs n c s σ pc L (.long y :: .long x :: st) :=
  fun p e s0 m below meth c0 H locs ls A C eb es X hl => lv_lor A.1 A.2.1 hd (k p e s0 m below meth c0 H locs ls A C eb es X hl)

theorem lw_lshl {x : Int64} {y : Int32} (hd : decode code pc = .ok (.lshl, 1)) (k : LW l E b Ln xs n c s σ (pc + 1) L (.long (x <<< (y.toInt64 &&& 63)) :: st)) : LW l E b Ln xs n c s σ pc L (.int y :: .long x :: st) :=
  fun p e s0 m below meth c0 H locs ls A C eb es X hl => lv_lshl A.1 A.2.1 hd rfl (k p e s0 m below meth c0 H locs ls A C eb es X hl)

theorem lw_i2l {x : Int32} (hd : decode code pc = .ok (.i2l, 1)) (k : LW l E b Ln xs n c s σ (pc + 1) L (.long (x.toInt64) :: st)) : LW l E b Ln xs n c s σ pc L (.int x :: st) :=
  fun p e s0 m below meth c0 H locs ls A C eb es X hl => lv_i2l A.1 A.2.1 hd rfl (k p e s0 m below meth c0 H locs ls A C eb es X hl)

theorem lw_ldc2 {i0 : Nat} {v : Int64} (hd : decode code pc = .ok (.ldc2_w i0, 3)) (hw : Cond.constantLong RL i0 v ∈ mWT) (k : LW l E b Ln xs n c s σ (pc + 3) L (.long v :: st)) : LW l E b Ln xs n c s σ pc L st :=
  fun p e s0 m below meth c0 H locs ls A C eb es X hl => lv_ldc2 A.1 A.2.1 A.2.2.2.2.1 (lw_w A _ hw) hd (k p e s0 m below meth c0 H locs ls A C eb es X hl)
theorem lw_dup {v : Value} (hd : decode code pc = .ok (.dup, 1)) (hv : v.category = 1) (k : LW l E b Ln xs n c s σ (pc + 1) L (v :: v :: st)) : LW l E b Ln xs n c s σ pc L (v :: st) :=
  fun p e s0 m below meth c0 H locs ls A C eb es X hl => lv_dup A.1 A.2.1 hd ((mtv_cat E v).trans hv) (k p e s0 m below meth c0 H locs ls A C eb es X hl)
theorem lw_goto {off : Int} {tgt : Nat} (hd : decode code pc = .ok (.goto off, 3)) (ht : (pc : Int) + off = (tgt : Int)) (k : LW l E b Ln xs n c s σ tgt L st) : LW l E b Ln xs n c s σ pc L st :=
  fun p e s0 m below meth c0 H locs ls A C eb es X hl => lv_goto A.1 A.2.1 hd ht (k p e s0 m below meth c0 H locs ls A C eb es X hl)
theorem lw_icmp_gt {x y : Int32} {off : Int} {tgt : Nat} (hd : decode code pc = .ok (.if_icmp .gt off, 3)) (ht : (pc : Int) + off = (tgt : Int)) (kt : y < x → LW l E b Ln xs n c s σ tgt L st) (kf : ¬ y < x → LW l E b Ln xs n c s σ (pc + 3) L st) : LW l E b Ln xs n c s σ pc L (.int y :: .int x :: st) :=
  fun p e s0 m below meth c0 H locs ls A C eb es X hl => lv_icmp_gt A.1 A.2.1 hd ht (fun h => kt h p e s0 m below meth c0 H locs ls A C eb es X hl) (fun h => kf h p e s0 m below meth c0 H locs ls A C eb es X hl)
theorem lw_same_i {x : Int32} {off : Int} {tgt : Nat} (hd : decode code pc = .ok (.if_icmp .eq off, 3)) (ht : (pc : Int) + off = (tgt : Int)) (kt : LW l E b Ln xs n c s σ tgt L st) : LW l E b Ln xs n c s σ pc L (.int x :: .int x :: st) :=
  fun p e s0 m below meth c0 H locs ls A C eb es X hl => lv_icmp_eq A.1 A.2.1 hd ht (fun _ => kt p e s0 m below meth c0 H locs ls A C eb es X hl) (fun h => absurd rfl h)
theorem lw_same_l {x : Int64} {off : Int} {tgt : Nat} (hd0 : decode code pc = .ok (.lcmp, 1)) (hd : decode code (pc + 1) = .ok (.ifCond .eq off, 3)) (ht : ((pc + 1 : Nat) : Int) + off = (tgt : Int)) (kt : LW l E b Ln xs n c s σ tgt L st) : LW l E b Ln xs n c s σ pc L (.long x :: .long x :: st) :=
  fun p e s0 m below meth c0 H locs ls A C eb es X hl => W.lcmp A.1 A.2.1 hd0 (lv_if_eq A.1 A.2.1 hd ht (fun _ => kt p e s0 m below meth c0 H locs ls A C eb es X hl) (fun h => absurd ((lg_cmp_eq x x).mpr rfl) h))
theorem lw_tabIn {x : Int32} (v : Int32) {dflt lo hi : Int} {offs : Array Int} {len : Nat} {off : Int} {tgt : Nat} (hd : decode code pc = .ok (.tableswitch dflt lo hi offs, len)) (hx : x = v) (h1 : ¬ v.toInt < lo) (h2 : ¬ hi < v.toInt) (ho : offs[(v.toInt - lo).toNat]? = some off) (ht : (pc : Int) + off = (tgt : Int)) (kk : LW l E b Ln xs n c s σ tgt L st) : LW l E b Ln xs n c s σ pc L (.int x :: st) := by
  subst hx
  exact fun p e s0 m below meth c0 H locs ls A C eb es X hl => lv_tableIn A.1 A.2.1 hd h1 h2 ho ht (kk p e s0 m below meth c0 H locs ls A C eb es X hl)
theorem lw_tabOut {x : Int32} {dflt lo hi : Int} {offs : Array Int} {len : Nat} {tgt : Nat} (hd : decode code pc = .ok (.tableswitch dflt lo hi offs, len)) (h : x.toInt < lo ∨ hi < x.toInt) (ht : (pc : Int) + dflt = (tgt : Int)) (kk : LW l E b Ln xs n c s σ tgt L st) : LW l E b Ln xs n c s σ pc L (.int x :: st) :=
  fun p e s0 m below meth c0 H locs ls A C eb es X hl => lv_tableOut A.1 A.2.1 hd h ht (kk p e s0 m below meth c0 H locs ls A C eb es X hl)
theorem lw_scr {E : MX} (eb : E.2.2.2 2002 = b) : mad E 2002 = b := by
  unfold mad
  rw [if_neg (by decide), eb]
theorem lw_len (hd : decode code pc = .ok (.arraylength, 1)) (k : LW l E b Ln xs n c s σ (pc + 1) L (.int (nI Ln) :: st)) : LW l E b Ln xs n c s σ pc L (.ref 2002 :: st) := by
  intro p e s0 m below meth c0 H locs ls A C eb es X hl
  have hb := A.2.2.2.2.2.2.2.1
  simp only [List.map_cons, mtv, lw_scr eb]
  exact va_slen A.1 A.2.1 A.2.2.2.2.2.2.1 hb (by rw [es]; exact Nat.not_le.mpr hb) X.2.2.1 hd (k p e s0 m below meth c0 H locs ls A C eb es X hl)
theorem lw_ld {i : Nat} {j : Int32} (hd : decode code pc = .ok (.iaload, 1)) (hj : j = nI i) (hi : i < Ln) (hL : Ln ≤ 3072) (k : LW l E b Ln xs n c s σ (pc + 1) L (.int (xs i) :: st)) : LW l E b Ln xs n c s σ pc L (.int j :: .ref 2002 :: st) := by
  intro p e s0 m below meth c0 H locs ls A C eb es X hl
  have hb := A.2.2.2.2.2.2.2.1
  subst hj
  simp only [List.map_cons, mtv, lw_scr eb]
  refine va_sld A.1 A.2.1 A.2.2.2.2.2.2.1 hb (by rw [es]; exact Nat.not_le.mpr hb) X.2.2.1 (vp_in_nI hi (by omega)) hd ?_
  rw [nI_clamp (by omega)]
  exact k p e s0 m below meth c0 H locs ls A C eb es X hl
theorem lw_new {ci i0 N n' c' s' : Nat} {C0 : String} {T : u_T} (e1 : n + 1 = n') (e2 : c + 1 = c') (e3 : s + N = s') (ty0 : Nat → FieldType) (hd : decode code pc = .ok (.new i0, 3)) (hc : vwCl[ci]? = some (C0, T, N)) (hN : mnF ci = N) (hs : mshp n = .inr ci) (hin : ∀ w ∈ u_ws C0 T N, w ∈ mWT) (hty : ∀ k, k < N → parseFieldDescriptor (T k).2.2.1 = some (ty0 k)) (hmt : ∀ k, k < N → mft ci k = ty0 k ∧ mdef (ty0 k) = true) (hcl : Cond.classLink RL i0 C0 ∈ mWT) (hinst : Cond.instantiable C0 N ∈ mWT) (hini : Cond.initialized C0 ∈ mWT) (hz : zc σ n) (hcells : c + 1 ≤ 600000) (hslots : s + N ≤ 7302250) (hn : n + 1 ≤ 1000) (k : LW l E b Ln xs n' c' s' σ (pc + 3) L (.ref n :: st)) : LW l E b Ln xs n c s σ pc L st := by
  subst e1; subst e2; subst e3
  intro p e s0 m below meth c0 H locs ls A C eb es X hl
  refine X.size (fun hsz => ?_)
  have hKn := C.1.1 ci _ hc
  refine W.newcK A.1 A.2.1 A.2.2.2.2.1 (lw_w A _ hcl) (lw_w A _ hinst) (lw_w A _ hini) rfl hd hcells hslots hKn.2.1 rfl fun H1 kC hkC e1 z1 o1 => ?_
  have ha := mad_n (E := E) hsz hn
  have hX := mva_push X hsz hn z1 o1 (by
    rw [mcel_obj hs]
    refine ⟨_, hc, ?_⟩
    rw [ha]
    refine (u_born ty0 (lw_w A) hin hKn hkC e1 hty).to (fun j hj => ?_)
    show _ = ((List.range (mnF ci)).map (fun j => maf E (mft ci j) σ n j)).getD j .null
    rw [hN]
    have hm := hmt j hj
    simp [hj, hm.1, maf_zero hm.2 hz])
  have := k p e s0 m below meth c0 H1 locs ls A C eb es hX hl
  simp only [List.map_cons, mtv, ha] at this
  exact this
theorem lw_callI {n' c' s' : Nat} {y : MethodName} {bytes1 : ByteArray} {maxL1 mc1 ms1 i0 x : Nat} {rm1 : Room} (hw : MLi RL i0 y bytes1 maxL1 none 0) (hd : decode code pc = .ok (.invokespecial i0, 3)) (hM : MCt l y bytes1 maxL1 none rm1 [.ref x] n σ mc1 ms1 (n', none, σ')) (hcs : (st.map fun v => v.category).sum ≤ 8) (hR : rm1.frames + 1 ≤ 2048 ∧ 8 + (maxL1 + 11) + rm1.locals ≤ 84000) (hrc : rm1.cells = mc1) (hrs : rm1.slots = ms1) (hn : n' = n + mc1) (e2 : c + mc1 = c') (e3 : s + ms1 = s') (hn2 : n' ≤ 1000) (hf : c + mc1 ≤ 600000 ∧ s + ms1 ≤ 7302250) (kk : LW l E b Ln xs n' c' s' σ' (pc + 3) L st) : LW l E b Ln xs n c s σ pc L (.ref x :: st) := by
  subst e2; subst e3
  intro p e s0 m below meth c0 H locs ls A C eb es X hl
  refine X.size (fun hz => ?_)
  exact mrun X hz hn hn2 (va_runI (As := []) (rest := st.map (mtv E)) ⟨A.1, A.2.1, A.2.2.2.1, A.2.2.2.2.1, lw_w A⟩ (hM E) (cwI 0 (lw_w A) (mwt_good (mwt_cons hw.1)) rfl hrc hrs (lw_w A _ hw.2.2.2.1) (lw_w A _ hw.2.1) (lw_w A _ hw.2.2.1) hw.2.2.2.2.1 hw.2.2.2.2.2 hR) (mpre X hz C [.ref x]) rfl rfl hl.1 rfl (lv_room (by rw [mcatsum]; exact hcs)) hd hf) (fun H1 locs1 X1 => kk p e s0 m below meth c0 H1 locs1 ls A C eb es X1 hl)
theorem lw_ret1 (hd : decode code pc = .ok (.ireturn, 1)) (hc : c ≤ 600000) (hs : s ≤ 7302250) : LW l E b Ln xs n c s σ pc L [.int 1] := by
  intro p e s0 m below meth c0 H locs ls A C eb es X hl
  refine va_forget (fun q hq => by rw [← es]; exact X.2.2.1.2.2 q hq) ?_
  refine W.widen (k := 600000) (n := 7302250) hc hs ?_
  exact lw_ret A.1 A.2.1 A.2.2.1 A.2.2.2.2.2.2.2.2.1 hd
theorem lw_sub (qs : List Nat) (hL : lv_pick L qs = L') (k : LW l E b Ln xs n c s σ pc L' st) : LW l E b Ln xs n c s σ pc L st :=
  fun p e s0 m below meth c0 H locs ls A C eb es X hl => k p e s0 m below meth c0 H locs ls A C eb es X (lv_sub hl qs (by rw [← hL]; exact mtl_pick E L qs))
end LRules
section LCalls
variable {l : Launch} {E : MX} {b Ln : Nat} {xs : Nat → Int32} {c s : Nat} {σ σ' : MSt} {pc : Nat} {L L' : List (Nat × Value)} {st : List Value}

theorem lw_call_i {y : MethodName} {bytes1 : ByteArray} {maxL1 na i0 d1 x ci N1 : Nat} {ret1 : Option FieldType} {As st0 : List Value} {C1 : String} {T1 : u_T} {r : Int32} (hw : MLv RL i0 C1 y bytes1 maxL1 ret1 na) (hd : decode code pc = .ok (.invokevirtual i0, 3)) (hM : MK l y bytes1 maxL1 ret1 d1 (.ref x :: As) σ (some (.int r)) σ') (hna : As.length = na) (hm : mob ci x = true) (hcl : vwCl[ci]? = some (C1, T1, N1)) (hst : As.reverse ++ .ref x :: st = st0) (hcs : (st.map fun v => v.category).sum ≤ 8) (hR : d1 ≤ 1000) (hmx : maxL1 ≤ 45) (hc : c ≤ 600000) (hs : s ≤ 7302250) (kk : LW l E b Ln xs 82 c s σ' (pc + 3) L (.int r :: st)) : LW l E b Ln xs 82 c s σ pc L st0 := by
  intro p e s0 m below meth c0 H locs ls A C eb es X hl
  subst hst
  refine X.size (fun hz => ?_)
  exact mrun X hz rfl (Nat.le_of_ble_eq_true rfl) (va_runV (As := As.map (mtv E)) (rest := st.map (mtv E)) ⟨A.1, A.2.1, A.2.2.2.1, A.2.2.2.2.1, lw_w A⟩ (hM E) (cwV na (lw_w A) hw.g rfl rfl rfl hw.2.2.2.2.2 ⟨by show d1 + 1 ≤ 2048; omega, by show 8 + (maxL1 + 11) + 64 * d1 ≤ 84000; omega⟩) (let P := mpre X hz C (.ref x :: As); ⟨P.1, mrecv X C (mob1 hm) (mob2 hm) hcl, P.2⟩) rfl (by rw [List.length_map]; exact hna) hl.1 (by simp [F0, mtv]) (lv_room (by rw [mcatsum]; exact hcs)) hd ⟨hc, hs⟩) (fun H1 locs1 X1 => kk p e s0 m below meth c0 H1 locs1 ls A C eb es X1 hl)

theorem lw_call_l {y : MethodName} {bytes1 : ByteArray} {maxL1 na i0 d1 x ci N1 : Nat} {ret1 : Option FieldType} {As st0 : List Value} {C1 : String} {T1 : u_T} {r : Int64} (hw : MLv RL i0 C1 y bytes1 maxL1 ret1 na) (hd : decode code pc = .ok (.invokevirtual i0, 3)) (hM : MK l y bytes1 maxL1 ret1 d1 (.ref x :: As) σ (some (.long r)) σ') (hna : As.length = na) (hm : mob ci x = true) (hcl : vwCl[ci]? = some (C1, T1, N1)) (hst : As.reverse ++ .ref x :: st = st0) (hcs : (st.map fun v => v.category).sum ≤ 8) (hR : d1 ≤ 1000) (hmx : maxL1 ≤ 45) (hc : c ≤ 600000) (hs : s ≤ 7302250) (kk : LW l E b Ln xs 82 c s σ' (pc + 3) L (.long r :: st)) : LW l E b Ln xs 82 c s σ pc L st0 := by
  intro p e s0 m below meth c0 H locs ls A C eb es X hl
  subst hst
  refine X.size (fun hz => ?_)
  exact mrun X hz rfl (Nat.le_of_ble_eq_true rfl) (va_runV (As := As.map (mtv E)) (rest := st.map (mtv E)) ⟨A.1, A.2.1, A.2.2.2.1, A.2.2.2.2.1, lw_w A⟩ (hM E) (cwV na (lw_w A) hw.g rfl rfl rfl hw.2.2.2.2.2 ⟨by show d1 + 1 ≤ 2048; omega, by show 8 + (maxL1 + 11) + 64 * d1 ≤ 84000; omega⟩) (let P := mpre X hz C (.ref x :: As); ⟨P.1, mrecv X C (mob1 hm) (mob2 hm) hcl, P.2⟩) rfl (by rw [List.length_map]; exact hna) hl.1 (by simp [F0, mtv]) (lv_room (by rw [mcatsum]; exact hcs)) hd ⟨hc, hs⟩) (fun H1 locs1 X1 => kk p e s0 m below meth c0 H1 locs1 ls A C eb es X1 hl)

end LCalls
end
