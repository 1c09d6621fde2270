/-! ===== words, links and fields that the methods use (written by gen/all.py) ===== -/
set_option maxRecDepth 20000 in
theorem uws_0 : ∀ w ∈ u_ws RX1 TX1 12, w ∈ mWT := muws [83, 85, 87, 89, 91, 93, 95, 97, 99, 101, 103, 105] (by decide +kernel) (by decide +kernel)
set_option maxRecDepth 20000 in
theorem uws_1 : ∀ w ∈ u_ws RX2 TX2 1, w ∈ mWT := muws [178] (by decide +kernel) (by decide +kernel)
set_option maxRecDepth 20000 in
theorem uws_2 : ∀ w ∈ u_ws RX3 TX3 11, w ∈ mWT := muws [283, 284, 285, 286, 287, 288, 289, 290, 291, 292, 281] (by decide +kernel) (by decide +kernel)
set_option maxRecDepth 20000 in
theorem uws_3 : ∀ w ∈ u_ws RX4 TX4 13, w ∈ mWT := muws [133, 135, 137, 139, 141, 143, 145, 147, 149, 151, 153, 155, 157] (by decide +kernel) (by decide +kernel)
set_option maxRecDepth 20000 in
theorem uws_4 : ∀ w ∈ u_ws RX5 TX5 3, w ∈ mWT := muws [344, 346, 348] (by decide +kernel) (by decide +kernel)
set_option maxRecDepth 20000 in
theorem uws_5 : ∀ w ∈ u_ws RX6 TX6 9, w ∈ mWT := muws [312, 314, 316, 318, 320, 322, 324, 326, 328] (by decide +kernel) (by decide +kernel)
set_option maxRecDepth 20000 in
theorem uws_6 : ∀ w ∈ u_ws RX7 TX7 12, w ∈ mWT := muws [221, 223, 225, 227, 229, 231, 233, 235, 237, 239, 217, 219] (by decide +kernel) (by decide +kernel)
set_option maxRecDepth 20000 in
theorem uws_7 : ∀ w ∈ u_ws RX8 TX8 15, w ∈ mWT := muws [263, 264, 265, 266, 267, 268, 269, 270, 271, 272, 253, 255, 257, 259, 261] (by decide +kernel) (by decide +kernel)
set_option maxRecDepth 20000 in
theorem uws_8 : ∀ w ∈ u_ws RX9 TX9 12, w ∈ mWT := muws [363, 365, 367, 369, 371, 373, 375, 377, 379, 381, 383, 385] (by decide +kernel) (by decide +kernel)
set_option maxRecDepth 20000 in
theorem uws_9 : ∀ w ∈ u_ws RX10 TX10 36, w ∈ mWT := muws [1032, 1034, 1036, 1038, 1040, 1042, 1044, 1046, 1048, 1050, 1052, 1054, 1056, 1058, 1060, 1062, 1064, 1066, 1068, 1070, 1072, 1074, 1076, 1078, 1080, 1082, 1084, 1086, 1088, 1090, 1092, 1094, 1096, 1098, 1100, 1102] (by decide +kernel) (by decide +kernel)
theorem wt_0 : Cond.fieldLink RX9 12 "RoundsPerHour" "now" "LRoundsPerHour$Country;" ∈ mWT := mt_2 (List.mem_of_getElem? (i := 111) rfl) rfl
theorem wt_1 : Cond.fieldLink RX9 83 "RoundsPerHour$Country" "ways" "I" ∈ mWT := mt_1 (List.mem_of_getElem? (i := 43) rfl) rfl
theorem wt_2 : Cond.fieldLink RX9 93 "RoundsPerHour$Country" "places" "I" ∈ mWT := mt_1 (List.mem_of_getElem? (i := 35) rfl) rfl
theorem wt_3 : Cond.fieldLink RX9 87 "RoundsPerHour$Country" "from" "[I" ∈ mWT := mt_1 (List.mem_of_getElem? (i := 52) rfl) rfl
theorem wt_4 : Cond.code yX9_finding cX9_finding 2 (some .int) ∈ mWT := mt_2 (List.mem_of_getElem? (i := 158) rfl) rfl
theorem wt_5 : Cond.methodLink RX9 79 yX9_finding ∈ mWT := mt_2 (List.mem_of_getElem? (i := 155) rfl) rfl
theorem wt_6 : Cond.instanceMethod yX9_finding ∈ mWT := mt_2 (List.mem_of_getElem? (i := 157) rfl) rfl
theorem wt_7 : Cond.selects RX9 yX9_finding yX9_finding ∈ mWT := mt_s (⟨"RoundsPerHour", "finding", "(I)I"⟩, 12) (ml_1 (List.mem_of_getElem? (i := 0) rfl)) rfl rfl
theorem wt_8 : Cond.initialized RX9 ∈ mWT := mt_1 (List.mem_of_getElem? (i := 1) rfl) rfl
theorem wt_9 : Cond.fieldLink RX9 70 "RoundsPerHour" "found" "[I" ∈ mWT := mt_2 (List.mem_of_getElem? (i := 122) rfl) rfl
theorem wt_10 : Cond.constant RX9 361 (-2000000001) ∈ mWT := mt_2 (List.mem_of_getElem? (i := 159) rfl) rfl
theorem wt_11 : Cond.fieldLink RX9 90 "RoundsPerHour$Country" "to" "[I" ∈ mWT := mt_1 (List.mem_of_getElem? (i := 59) rfl) rfl
theorem wt_12 : Cond.code yX9_within cX9_within 3 (some .boolean) ∈ mWT := mt_2 (List.mem_of_getElem? (i := 154) rfl) rfl
theorem wt_13 : Cond.methodLink RX9 75 yX9_within ∈ mWT := mt_2 (List.mem_of_getElem? (i := 152) rfl) rfl
theorem wt_14 : Cond.static yX9_within ∈ mWT := mt_2 (List.mem_of_getElem? (i := 153) rfl) rfl
theorem wt_15 : Cond.fieldLink RX9 96 "RoundsPerHour$Country" "weather" "I" ∈ mWT := mt_1 (List.mem_of_getElem? (i := 40) rfl) rfl
theorem wt_16 : Cond.code yX9_isKind cX9_isKind 1 (some .boolean) ∈ mWT := mt_2 (List.mem_of_getElem? (i := 175) rfl) rfl
theorem wt_17 : Cond.methodLink RX9 103 yX9_isKind ∈ mWT := mt_2 (List.mem_of_getElem? (i := 173) rfl) rfl
theorem wt_18 : Cond.static yX9_isKind ∈ mWT := mt_2 (List.mem_of_getElem? (i := 174) rfl) rfl
theorem wt_19 : Cond.code yX9_isGain cX9_isGain 1 (some .boolean) ∈ mWT := mt_2 (List.mem_of_getElem? (i := 178) rfl) rfl
theorem wt_20 : Cond.methodLink RX9 106 yX9_isGain ∈ mWT := mt_2 (List.mem_of_getElem? (i := 176) rfl) rfl
theorem wt_21 : Cond.static yX9_isGain ∈ mWT := mt_2 (List.mem_of_getElem? (i := 177) rfl) rfl
theorem wt_22 : Cond.constant RX9 362 (-999999999) ∈ mWT := mt_2 (List.mem_of_getElem? (i := 179) rfl) rfl
theorem wt_23 : Cond.constant RX9 363 (999999999) ∈ mWT := mt_2 (List.mem_of_getElem? (i := 180) rfl) rfl
theorem wt_24 : Cond.code yX9_isTime cX9_isTime 1 (some .boolean) ∈ mWT := mt_2 (List.mem_of_getElem? (i := 183) rfl) rfl
theorem wt_25 : Cond.methodLink RX9 109 yX9_isTime ∈ mWT := mt_2 (List.mem_of_getElem? (i := 181) rfl) rfl
theorem wt_26 : Cond.static yX9_isTime ∈ mWT := mt_2 (List.mem_of_getElem? (i := 182) rfl) rfl
theorem wt_27 : Cond.constant RX9 364 (999999) ∈ mWT := mt_2 (List.mem_of_getElem? (i := 184) rfl) rfl
theorem wt_28 : Cond.code yX1_newWay cX1_newWay 7 (some .int) ∈ mWT := mt_2 (List.mem_of_getElem? (i := 188) rfl) rfl
theorem wt_29 : Cond.methodLink RX9 112 yX1_newWay ∈ mWT := mt_2 (List.mem_of_getElem? (i := 185) rfl) rfl
theorem wt_30 : Cond.instanceMethod yX1_newWay ∈ mWT := mt_2 (List.mem_of_getElem? (i := 186) rfl) rfl
theorem wt_31 : Cond.selects RX1 yX1_newWay yX1_newWay ∈ mWT := mt_2 (List.mem_of_getElem? (i := 187) rfl) rfl
theorem wt_32 : Cond.initialized RX1 ∈ mWT := mt_1 (List.mem_of_getElem? (i := 2) rfl) rfl
theorem wt_33 : Cond.fieldLink RX1 44 "RoundsPerHour$Country" "ways" "I" ∈ mWT := mt_1 (List.mem_of_getElem? (i := 46) rfl) rfl
theorem wt_34 : Cond.fieldLink RX1 15 "RoundsPerHour$Country" "kind" "[I" ∈ mWT := mt_1 (List.mem_of_getElem? (i := 49) rfl) rfl
theorem wt_35 : Cond.fieldLink RX1 19 "RoundsPerHour$Country" "from" "[I" ∈ mWT := mt_1 (List.mem_of_getElem? (i := 51) rfl) rfl
theorem wt_36 : Cond.fieldLink RX1 22 "RoundsPerHour$Country" "to" "[I" ∈ mWT := mt_1 (List.mem_of_getElem? (i := 57) rfl) rfl
theorem wt_37 : Cond.fieldLink RX1 25 "RoundsPerHour$Country" "gain" "[I" ∈ mWT := mt_1 (List.mem_of_getElem? (i := 63) rfl) rfl
theorem wt_38 : Cond.fieldLink RX1 28 "RoundsPerHour$Country" "time" "[I" ∈ mWT := mt_1 (List.mem_of_getElem? (i := 65) rfl) rfl
theorem wt_39 : Cond.fieldLink RX1 31 "RoundsPerHour$Country" "shut" "[I" ∈ mWT := mt_1 (List.mem_of_getElem? (i := 67) rfl) rfl
theorem wt_40 : Cond.code yX1_isPlace cX1_isPlace 2 (some .boolean) ∈ mWT := mt_2 (List.mem_of_getElem? (i := 171) rfl) rfl
theorem wt_41 : Cond.methodLink RX9 99 yX1_isPlace ∈ mWT := mt_2 (List.mem_of_getElem? (i := 168) rfl) rfl
theorem wt_42 : Cond.instanceMethod yX1_isPlace ∈ mWT := mt_2 (List.mem_of_getElem? (i := 169) rfl) rfl
theorem wt_43 : Cond.selects RX1 yX1_isPlace yX1_isPlace ∈ mWT := mt_2 (List.mem_of_getElem? (i := 170) rfl) rfl
theorem wt_44 : Cond.fieldLink RX1 9 "RoundsPerHour$Country" "places" "I" ∈ mWT := mt_1 (List.mem_of_getElem? (i := 34) rfl) rfl
theorem wt_45 : Cond.code yX1_isWay cX1_isWay 2 (some .boolean) ∈ mWT := mt_2 (List.mem_of_getElem? (i := 196) rfl) rfl
theorem wt_46 : Cond.methodLink RX9 116 yX1_isWay ∈ mWT := mt_2 (List.mem_of_getElem? (i := 193) rfl) rfl
theorem wt_47 : Cond.instanceMethod yX1_isWay ∈ mWT := mt_2 (List.mem_of_getElem? (i := 194) rfl) rfl
theorem wt_48 : Cond.selects RX1 yX1_isWay yX1_isWay ∈ mWT := mt_2 (List.mem_of_getElem? (i := 195) rfl) rfl
theorem wt_49 : Cond.fieldLink RX9 119 "RoundsPerHour$Country" "kind" "[I" ∈ mWT := mt_1 (List.mem_of_getElem? (i := 50) rfl) rfl
theorem wt_50 : Cond.fieldLink RX9 122 "RoundsPerHour$Country" "gain" "[I" ∈ mWT := mt_1 (List.mem_of_getElem? (i := 64) rfl) rfl
theorem wt_51 : Cond.fieldLink RX9 125 "RoundsPerHour$Country" "time" "[I" ∈ mWT := mt_1 (List.mem_of_getElem? (i := 66) rfl) rfl
theorem wt_52 : Cond.fieldLink RX9 128 "RoundsPerHour$Country" "shut" "[I" ∈ mWT := mt_1 (List.mem_of_getElem? (i := 71) rfl) rfl
theorem wt_53 : Cond.code yX1_bringsOf cX1_bringsOf 2 (some .int) ∈ mWT := mt_2 (List.mem_of_getElem? (i := 200) rfl) rfl
theorem wt_54 : Cond.methodLink RX9 131 yX1_bringsOf ∈ mWT := mt_2 (List.mem_of_getElem? (i := 197) rfl) rfl
theorem wt_55 : Cond.instanceMethod yX1_bringsOf ∈ mWT := mt_2 (List.mem_of_getElem? (i := 198) rfl) rfl
theorem wt_56 : Cond.selects RX1 yX1_bringsOf yX1_bringsOf ∈ mWT := mt_2 (List.mem_of_getElem? (i := 199) rfl) rfl
theorem wt_57 : Cond.fieldLink RX1 50 "RoundsPerHour$Country" "weather" "I" ∈ mWT := mt_1 (List.mem_of_getElem? (i := 42) rfl) rfl
theorem wt_58 : Cond.code yX9_brings cX9_brings 3 (some .int) ∈ mWT := mt_2 (List.mem_of_getElem? (i := 203) rfl) rfl
theorem wt_59 : Cond.static yX9_brings ∈ mWT := mt_2 (List.mem_of_getElem? (i := 202) rfl) rfl
theorem wt_60 : Cond.methodLink RX9 368 yX9_brings ∈ mWT := mt_2 (List.mem_of_getElem? (i := 204) rfl) rfl
theorem wt_61 : Cond.code yX1_lastsOf cX1_lastsOf 2 (some .int) ∈ mWT := mt_2 (List.mem_of_getElem? (i := 208) rfl) rfl
theorem wt_62 : Cond.methodLink RX9 134 yX1_lastsOf ∈ mWT := mt_2 (List.mem_of_getElem? (i := 205) rfl) rfl
theorem wt_63 : Cond.instanceMethod yX1_lastsOf ∈ mWT := mt_2 (List.mem_of_getElem? (i := 206) rfl) rfl
theorem wt_64 : Cond.selects RX1 yX1_lastsOf yX1_lastsOf ∈ mWT := mt_2 (List.mem_of_getElem? (i := 207) rfl) rfl
theorem wt_65 : Cond.code yX9_lasts cX9_lasts 3 (some .int) ∈ mWT := mt_2 (List.mem_of_getElem? (i := 211) rfl) rfl
theorem wt_66 : Cond.static yX9_lasts ∈ mWT := mt_2 (List.mem_of_getElem? (i := 210) rfl) rfl
theorem wt_67 : Cond.methodLink RX9 371 yX9_lasts ∈ mWT := mt_2 (List.mem_of_getElem? (i := 212) rfl) rfl
theorem wt_68 : Cond.code yX9_canBecome cX9_canBecome 4 (some .boolean) ∈ mWT := mt_2 (List.mem_of_getElem? (i := 220) rfl) rfl
theorem wt_69 : Cond.methodLink RX9 137 yX9_canBecome ∈ mWT := mt_2 (List.mem_of_getElem? (i := 217) rfl) rfl
theorem wt_70 : Cond.instanceMethod yX9_canBecome ∈ mWT := mt_2 (List.mem_of_getElem? (i := 219) rfl) rfl
theorem wt_71 : Cond.selects RX9 yX9_canBecome yX9_canBecome ∈ mWT := mt_s (⟨"RoundsPerHour", "canBecome", "(III)Z"⟩, 12) (ml_1 (List.mem_of_getElem? (i := 1) rfl)) rfl rfl
theorem wt_72 : Cond.code yX9_put cX9_put 4 (some .int) ∈ mWT := mt_2 (List.mem_of_getElem? (i := 223) rfl) rfl
theorem wt_73 : Cond.methodLink RX9 140 yX9_put ∈ mWT := mt_2 (List.mem_of_getElem? (i := 221) rfl) rfl
theorem wt_74 : Cond.static yX9_put ∈ mWT := mt_2 (List.mem_of_getElem? (i := 222) rfl) rfl
theorem wt_75 : Cond.code yX9_isUnder cX9_isUnder 4 (some .boolean) ∈ mWT := mt_2 (List.mem_of_getElem? (i := 230) rfl) rfl
theorem wt_76 : Cond.methodLink RX9 144 yX9_isUnder ∈ mWT := mt_2 (List.mem_of_getElem? (i := 228) rfl) rfl
theorem wt_77 : Cond.static yX9_isUnder ∈ mWT := mt_2 (List.mem_of_getElem? (i := 229) rfl) rfl
theorem wt_78 : Cond.fieldLink RX9 365 "RoundsPerHour" "KIND_ABOVE" "[I" ∈ mWT := mt_2 (List.mem_of_getElem? (i := 231) rfl) rfl
theorem wt_79 : Cond.fieldLink RX9 148 "RoundsPerHour$Country" "things" "I" ∈ mWT := mt_1 (List.mem_of_getElem? (i := 76) rfl) rfl
theorem wt_80 : Cond.code yX1_newThing cX1_newThing 3 (some .int) ∈ mWT := mt_3 (List.mem_of_getElem? (i := 0) rfl) rfl
theorem wt_81 : Cond.methodLink RX9 151 yX1_newThing ∈ mWT := mt_2 (List.mem_of_getElem? (i := 237) rfl) rfl
theorem wt_82 : Cond.instanceMethod yX1_newThing ∈ mWT := mt_2 (List.mem_of_getElem? (i := 238) rfl) rfl
theorem wt_83 : Cond.selects RX1 yX1_newThing yX1_newThing ∈ mWT := mt_2 (List.mem_of_getElem? (i := 239) rfl) rfl
theorem wt_84 : Cond.fieldLink RX1 47 "RoundsPerHour$Country" "things" "I" ∈ mWT := mt_1 (List.mem_of_getElem? (i := 74) rfl) rfl
theorem wt_85 : Cond.fieldLink RX1 34 "RoundsPerHour$Country" "thingGain" "[I" ∈ mWT := mt_1 (List.mem_of_getElem? (i := 77) rfl) rfl
theorem wt_86 : Cond.fieldLink RX1 37 "RoundsPerHour$Country" "thingTime" "[I" ∈ mWT := mt_1 (List.mem_of_getElem? (i := 80) rfl) rfl
theorem wt_87 : Cond.fieldLink RX9 161 "RoundsPerHour$Country" "thingTime" "[I" ∈ mWT := mt_1 (List.mem_of_getElem? (i := 82) rfl) rfl
theorem wt_88 : Cond.code yX1_isThingOrBase cX1_isThingOrBase 2 (some .boolean) ∈ mWT := mt_3 (List.mem_of_getElem? (i := 8) rfl) rfl
theorem wt_89 : Cond.methodLink RX9 155 yX1_isThingOrBase ∈ mWT := mt_3 (List.mem_of_getElem? (i := 5) rfl) rfl
theorem wt_90 : Cond.instanceMethod yX1_isThingOrBase ∈ mWT := mt_3 (List.mem_of_getElem? (i := 6) rfl) rfl
theorem wt_91 : Cond.selects RX1 yX1_isThingOrBase yX1_isThingOrBase ∈ mWT := mt_3 (List.mem_of_getElem? (i := 7) rfl) rfl
theorem wt_92 : Cond.fieldLink RX9 158 "RoundsPerHour$Country" "thingGain" "[I" ∈ mWT := mt_1 (List.mem_of_getElem? (i := 79) rfl) rfl
theorem wt_93 : Cond.code yX9_bestRing cX9_bestRing 1 (some .int) ∈ mWT := mt_3 (List.mem_of_getElem? (i := 25) rfl) rfl
theorem wt_94 : Cond.methodLink RX9 168 yX9_bestRing ∈ mWT := mt_3 (List.mem_of_getElem? (i := 22) rfl) rfl
theorem wt_95 : Cond.instanceMethod yX9_bestRing ∈ mWT := mt_3 (List.mem_of_getElem? (i := 24) rfl) rfl
theorem wt_96 : Cond.selects RX9 yX9_bestRing yX9_bestRing ∈ mWT := mt_s (⟨"RoundsPerHour", "bestRing", "()I"⟩, 12) (ml_1 (List.mem_of_getElem? (i := 3) rfl)) rfl rfl
theorem wt_97 : Cond.fieldLink RX9 25 "RoundsPerHour" "rings" "LRoundsPerHour$Rings;" ∈ mWT := mt_2 (List.mem_of_getElem? (i := 115) rfl) rfl
theorem wt_98 : Cond.code yX4_gather cX4_gather 5 none ∈ mWT := mt_3 (List.mem_of_getElem? (i := 29) rfl) rfl
theorem wt_99 : Cond.methodLink RX9 205 yX4_gather ∈ mWT := mt_3 (List.mem_of_getElem? (i := 26) rfl) rfl
theorem wt_100 : Cond.instanceMethod yX4_gather ∈ mWT := mt_3 (List.mem_of_getElem? (i := 27) rfl) rfl
theorem wt_101 : Cond.selects RX4 yX4_gather yX4_gather ∈ mWT := mt_3 (List.mem_of_getElem? (i := 28) rfl) rfl
theorem wt_102 : Cond.initialized RX4 ∈ mWT := mt_1 (List.mem_of_getElem? (i := 3) rfl) rfl
theorem wt_103 : Cond.fieldLink RX4 67 "RoundsPerHour$Country" "places" "I" ∈ mWT := mt_1 (List.mem_of_getElem? (i := 36) rfl) rfl
theorem wt_104 : Cond.code yX4_goOn cX4_goOn 13 none ∈ mWT := mt_3 (List.mem_of_getElem? (i := 35) rfl) rfl
theorem wt_105 : Cond.methodLink RX4 70 yX4_goOn ∈ mWT := mt_3 (List.mem_of_getElem? (i := 32) rfl) rfl
theorem wt_106 : Cond.instanceMethod yX4_goOn ∈ mWT := mt_3 (List.mem_of_getElem? (i := 34) rfl) rfl
theorem wt_107 : Cond.selects RX4 yX4_goOn yX4_goOn ∈ mWT := mt_s (⟨"RoundsPerHour$Rings", "goOn", "(IIIIJJ)V"⟩, 13) (ml_1 (List.mem_of_getElem? (i := 4) rfl)) rfl rfl
theorem wt_108 : Cond.fieldLink RX4 29 "RoundsPerHour$Rings" "leaving" "[I" ∈ mWT := mt_1 (List.mem_of_getElem? (i := 126) rfl) rfl
theorem wt_109 : Cond.fieldLink RX4 32 "RoundsPerHour$Rings" "wayOut" "[I" ∈ mWT := mt_1 (List.mem_of_getElem? (i := 127) rfl) rfl
theorem wt_110 : Cond.fieldLink RX4 35 "RoundsPerHour$Rings" "to" "[I" ∈ mWT := mt_1 (List.mem_of_getElem? (i := 128) rfl) rfl
theorem wt_111 : Cond.fieldLink RX4 38 "RoundsPerHour$Rings" "brings" "[J" ∈ mWT := mt_1 (List.mem_of_getElem? (i := 129) rfl) rfl
theorem wt_112 : Cond.fieldLink RX4 41 "RoundsPerHour$Rings" "lasts" "[J" ∈ mWT := mt_1 (List.mem_of_getElem? (i := 130) rfl) rfl
theorem wt_113 : Cond.code yX4_keep cX4_keep 6 none ∈ mWT := mt_3 (List.mem_of_getElem? (i := 39) rfl) rfl
theorem wt_114 : Cond.methodLink RX4 74 yX4_keep ∈ mWT := mt_3 (List.mem_of_getElem? (i := 36) rfl) rfl
theorem wt_115 : Cond.instanceMethod yX4_keep ∈ mWT := mt_3 (List.mem_of_getElem? (i := 38) rfl) rfl
theorem wt_116 : Cond.selects RX4 yX4_keep yX4_keep ∈ mWT := mt_s (⟨"RoundsPerHour$Rings", "keep", "(IJJ)V"⟩, 13) (ml_1 (List.mem_of_getElem? (i := 5) rfl)) rfl rfl
theorem wt_117 : Cond.fieldLink RX4 44 "RoundsPerHour$Rings" "size" "I" ∈ mWT := mt_1 (List.mem_of_getElem? (i := 115) rfl) rfl
theorem wt_118 : Cond.fieldLink RX4 9 "RoundsPerHour$Rings" "sets" "[I" ∈ mWT := mt_1 (List.mem_of_getElem? (i := 117) rfl) rfl
theorem wt_119 : Cond.fieldLink RX4 15 "RoundsPerHour$Rings" "above" "[J" ∈ mWT := mt_1 (List.mem_of_getElem? (i := 119) rfl) rfl
theorem wt_120 : Cond.fieldLink RX4 19 "RoundsPerHour$Rings" "below" "[J" ∈ mWT := mt_1 (List.mem_of_getElem? (i := 121) rfl) rfl
theorem wt_121 : Cond.fieldLink RX4 64 "RoundsPerHour$Country" "from" "[I" ∈ mWT := mt_1 (List.mem_of_getElem? (i := 53) rfl) rfl
theorem wt_122 : Cond.fieldLink RX4 48 "RoundsPerHour$Country" "ways" "I" ∈ mWT := mt_1 (List.mem_of_getElem? (i := 44) rfl) rfl
theorem wt_123 : Cond.fieldLink RX4 53 "RoundsPerHour$Country" "to" "[I" ∈ mWT := mt_1 (List.mem_of_getElem? (i := 58) rfl) rfl
theorem wt_124 : Cond.methodLink RX4 54 yX1_bringsOf ∈ mWT := mt_3 (List.mem_of_getElem? (i := 30) rfl) rfl
theorem wt_125 : Cond.methodLink RX4 58 yX1_lastsOf ∈ mWT := mt_3 (List.mem_of_getElem? (i := 31) rfl) rfl
theorem wt_126 : Cond.fieldLink RX4 61 "RoundsPerHour$Country" "shut" "[I" ∈ mWT := mt_1 (List.mem_of_getElem? (i := 68) rfl) rfl
theorem wt_127 : Cond.code yX4_best cX4_best 4 (some .int) ∈ mWT := mt_3 (List.mem_of_getElem? (i := 43) rfl) rfl
theorem wt_128 : Cond.methodLink RX9 209 yX4_best ∈ mWT := mt_3 (List.mem_of_getElem? (i := 40) rfl) rfl
theorem wt_129 : Cond.instanceMethod yX4_best ∈ mWT := mt_3 (List.mem_of_getElem? (i := 41) rfl) rfl
theorem wt_130 : Cond.selects RX4 yX4_best yX4_best ∈ mWT := mt_3 (List.mem_of_getElem? (i := 42) rfl) rfl
theorem wt_131 : Cond.code yX4_order cX4_order 3 (some .int) ∈ mWT := mt_3 (List.mem_of_getElem? (i := 47) rfl) rfl
theorem wt_132 : Cond.methodLink RX4 84 yX4_order ∈ mWT := mt_3 (List.mem_of_getElem? (i := 44) rfl) rfl
theorem wt_133 : Cond.instanceMethod yX4_order ∈ mWT := mt_3 (List.mem_of_getElem? (i := 45) rfl) rfl
theorem wt_134 : Cond.selects RX4 yX4_order yX4_order ∈ mWT := mt_3 (List.mem_of_getElem? (i := 46) rfl) rfl
theorem wt_135 : Cond.code yJ13_compare_74951 cJ13_compare_74951 4 (some .int) ∈ mWT := mt_3 (List.mem_of_getElem? (i := 50) rfl) rfl
theorem wt_136 : Cond.methodLink RX4 78 yJ13_compare_74951 ∈ mWT := mt_3 (List.mem_of_getElem? (i := 48) rfl) rfl
theorem wt_137 : Cond.static yJ13_compare_74951 ∈ mWT := mt_3 (List.mem_of_getElem? (i := 49) rfl) rfl
theorem wt_138 : Cond.initialized RJ13 ∈ mWT := mt_1 (List.mem_of_getElem? (i := 12) rfl) rfl
theorem wt_139 : Cond.fieldLink RX9 172 "RoundsPerHour$Rings" "above" "[J" ∈ mWT := mt_1 (List.mem_of_getElem? (i := 120) rfl) rfl
theorem wt_140 : Cond.fieldLink RX9 176 "RoundsPerHour$Rings" "below" "[J" ∈ mWT := mt_1 (List.mem_of_getElem? (i := 122) rfl) rfl
theorem wt_141 : Cond.code yX9_lowest cX9_lowest 7 (some .long) ∈ mWT := mt_3 (List.mem_of_getElem? (i := 53) rfl) rfl
theorem wt_142 : Cond.methodLink RX9 179 yX9_lowest ∈ mWT := mt_3 (List.mem_of_getElem? (i := 51) rfl) rfl
theorem wt_143 : Cond.static yX9_lowest ∈ mWT := mt_3 (List.mem_of_getElem? (i := 52) rfl) rfl
theorem wt_144 : Cond.code yX9_sharedBelowZero cX9_sharedBelowZero 11 (some .long) ∈ mWT := mt_3 (List.mem_of_getElem? (i := 56) rfl) rfl
theorem wt_145 : Cond.methodLink RX9 304 yX9_sharedBelowZero ∈ mWT := mt_3 (List.mem_of_getElem? (i := 54) rfl) rfl
theorem wt_146 : Cond.static yX9_sharedBelowZero ∈ mWT := mt_3 (List.mem_of_getElem? (i := 55) rfl) rfl
theorem wt_147 : Cond.code yX9_longFinding cX9_longFinding 2 (some .long) ∈ mWT := mt_3 (List.mem_of_getElem? (i := 20) rfl) rfl
theorem wt_148 : Cond.methodLink RX9 164 yX9_longFinding ∈ mWT := mt_3 (List.mem_of_getElem? (i := 17) rfl) rfl
theorem wt_149 : Cond.instanceMethod yX9_longFinding ∈ mWT := mt_3 (List.mem_of_getElem? (i := 19) rfl) rfl
theorem wt_150 : Cond.selects RX9 yX9_longFinding yX9_longFinding ∈ mWT := mt_s (⟨"RoundsPerHour", "longFinding", "(I)J"⟩, 12) (ml_1 (List.mem_of_getElem? (i := 2) rfl)) rfl rfl
theorem wt_151 : Cond.constantLong RX9 203 (-4000000000000000001) ∈ mWT := mt_3 (List.mem_of_getElem? (i := 21) rfl) rfl
theorem wt_152 : Cond.fieldLink RX9 183 "RoundsPerHour$Rings" "size" "I" ∈ mWT := mt_1 (List.mem_of_getElem? (i := 116) rfl) rfl
theorem wt_153 : Cond.methodLink RX9 186 yX4_order ∈ mWT := mt_3 (List.mem_of_getElem? (i := 61) rfl) rfl
theorem wt_154 : Cond.fieldLink RX9 189 "RoundsPerHour$Rings" "sets" "[I" ∈ mWT := mt_1 (List.mem_of_getElem? (i := 118) rfl) rfl
theorem wt_155 : Cond.code yX4_lifts cX4_lifts 10 (some .boolean) ∈ mWT := mt_3 (List.mem_of_getElem? (i := 69) rfl) rfl
theorem wt_156 : Cond.methodLink RX9 192 yX4_lifts ∈ mWT := mt_3 (List.mem_of_getElem? (i := 66) rfl) rfl
theorem wt_157 : Cond.instanceMethod yX4_lifts ∈ mWT := mt_3 (List.mem_of_getElem? (i := 67) rfl) rfl
theorem wt_158 : Cond.selects RX4 yX4_lifts yX4_lifts ∈ mWT := mt_3 (List.mem_of_getElem? (i := 68) rfl) rfl
theorem wt_159 : Cond.fieldLink RX4 22 "RoundsPerHour$Rings" "height" "[J" ∈ mWT := mt_1 (List.mem_of_getElem? (i := 123) rfl) rfl
theorem wt_160 : Cond.code yX4_step cX4_step 5 none ∈ mWT := mt_3 (List.mem_of_getElem? (i := 73) rfl) rfl
theorem wt_161 : Cond.methodLink RX4 108 yX4_step ∈ mWT := mt_3 (List.mem_of_getElem? (i := 70) rfl) rfl
theorem wt_162 : Cond.instanceMethod yX4_step ∈ mWT := mt_3 (List.mem_of_getElem? (i := 72) rfl) rfl
theorem wt_163 : Cond.selects RX4 yX4_step yX4_step ∈ mWT := mt_s (⟨"RoundsPerHour$Rings", "step", "(IIJ)V"⟩, 13) (ml_1 (List.mem_of_getElem? (i := 6) rfl)) rfl rfl
theorem wt_164 : Cond.fieldLink RX4 25 "RoundsPerHour$Rings" "reached" "[Z" ∈ mWT := mt_1 (List.mem_of_getElem? (i := 125) rfl) rfl
theorem wt_165 : Cond.fieldLink RX9 196 "RoundsPerHour$Rings" "height" "[J" ∈ mWT := mt_1 (List.mem_of_getElem? (i := 124) rfl) rfl
theorem wt_166 : Cond.code yX9_productFits cX9_productFits 4 (some .boolean) ∈ mWT := mt_3 (List.mem_of_getElem? (i := 80) rfl) rfl
theorem wt_167 : Cond.methodLink RX9 199 yX9_productFits ∈ mWT := mt_3 (List.mem_of_getElem? (i := 78) rfl) rfl
theorem wt_168 : Cond.static yX9_productFits ∈ mWT := mt_3 (List.mem_of_getElem? (i := 79) rfl) rfl
theorem wt_169 : Cond.constantLong RX9 374 (-1) ∈ mWT := mt_3 (List.mem_of_getElem? (i := 81) rfl) rfl
theorem wt_170 : Cond.constantLong RX9 307 (-9223372036854775808) ∈ mWT := mt_3 (List.mem_of_getElem? (i := 82) rfl) rfl
theorem wt_171 : Cond.methodLink RX9 220 Lib.MathLoose.min_long.x ∈ mWT := mt_3 (List.mem_of_getElem? (i := 96) rfl) rfl
theorem wt_172 : Cond.static Lib.MathLoose.min_long.x ∈ mWT := mt_3 (List.mem_of_getElem? (i := 97) rfl) rfl
theorem wt_173 : Cond.initialized "java/lang/Math" ∈ mWT := mt_1 (List.mem_of_getElem? (i := 13) rfl) rfl
theorem wt_174 : Cond.code Lib.MathLoose.min_long.x Lib.MathLoose.min_long.code 4 (some .long) ∈ mWT := mt_3 (List.mem_of_getElem? (i := 98) rfl) rfl
theorem wt_175 : Cond.constantLong RX9 226 (999999999) ∈ mWT := mt_3 (List.mem_of_getElem? (i := 99) rfl) rfl
theorem wt_176 : Cond.constantLong RX9 214 (-999999999) ∈ mWT := mt_3 (List.mem_of_getElem? (i := 88) rfl) rfl
theorem wt_177 : Cond.methodLink RX9 228 Lib.MathLoose.max_long.x ∈ mWT := mt_3 (List.mem_of_getElem? (i := 100) rfl) rfl
theorem wt_178 : Cond.static Lib.MathLoose.max_long.x ∈ mWT := mt_3 (List.mem_of_getElem? (i := 101) rfl) rfl
theorem wt_179 : Cond.code Lib.MathLoose.max_long.x Lib.MathLoose.max_long.code 4 (some .long) ∈ mWT := mt_3 (List.mem_of_getElem? (i := 102) rfl) rfl
theorem wt_180 : Cond.code yX4_missingTo cX4_missingTo 8 (some .long) ∈ mWT := mt_3 (List.mem_of_getElem? (i := 92) rfl) rfl
theorem wt_181 : Cond.methodLink RX9 216 yX4_missingTo ∈ mWT := mt_3 (List.mem_of_getElem? (i := 89) rfl) rfl
theorem wt_182 : Cond.instanceMethod yX4_missingTo ∈ mWT := mt_3 (List.mem_of_getElem? (i := 90) rfl) rfl
theorem wt_183 : Cond.selects RX4 yX4_missingTo yX4_missingTo ∈ mWT := mt_3 (List.mem_of_getElem? (i := 91) rfl) rfl
theorem wt_184 : Cond.code yJ9_floorDiv_f86c9 cJ9_floorDiv_f86c9 6 (some .long) ∈ mWT := mt_3 (List.mem_of_getElem? (i := 95) rfl) rfl
theorem wt_185 : Cond.methodLink RX4 102 yJ9_floorDiv_f86c9 ∈ mWT := mt_3 (List.mem_of_getElem? (i := 93) rfl) rfl
theorem wt_186 : Cond.static yJ9_floorDiv_f86c9 ∈ mWT := mt_3 (List.mem_of_getElem? (i := 94) rfl) rfl
theorem wt_187 : Cond.initialized RJ9 ∈ mWT := mt_1 (List.mem_of_getElem? (i := 13) rfl) rfl
theorem wt_188 : Cond.constantLong RX9 212 (1000000000) ∈ mWT := mt_3 (List.mem_of_getElem? (i := 87) rfl) rfl
theorem wt_189 : Cond.fieldLink RX9 19 "RoundsPerHour" "draft" "LRoundsPerHour$Country;" ∈ mWT := mt_2 (List.mem_of_getElem? (i := 113) rfl) rfl
theorem wt_190 : Cond.code yX4_rises cX4_rises 3 (some .boolean) ∈ mWT := mt_3 (List.mem_of_getElem? (i := 125) rfl) rfl
theorem wt_191 : Cond.methodLink RX9 238 yX4_rises ∈ mWT := mt_3 (List.mem_of_getElem? (i := 122) rfl) rfl
theorem wt_192 : Cond.instanceMethod yX4_rises ∈ mWT := mt_3 (List.mem_of_getElem? (i := 123) rfl) rfl
theorem wt_193 : Cond.selects RX4 yX4_rises yX4_rises ∈ mWT := mt_3 (List.mem_of_getElem? (i := 124) rfl) rfl
theorem wt_194 : Cond.fieldLink RX4 99 "RoundsPerHour$Rings" "peakAbove" "J" ∈ mWT := mt_1 (List.mem_of_getElem? (i := 131) rfl) rfl
theorem wt_195 : Cond.fieldLink RX4 88 "RoundsPerHour$Rings" "peakBelow" "J" ∈ mWT := mt_1 (List.mem_of_getElem? (i := 132) rfl) rfl
theorem wt_196 : Cond.methodLink RX4 92 yX4_gather ∈ mWT := mt_3 (List.mem_of_getElem? (i := 126) rfl) rfl
theorem wt_197 : Cond.methodLink RX4 96 yX4_best ∈ mWT := mt_3 (List.mem_of_getElem? (i := 127) rfl) rfl
theorem wt_198 : Cond.code yX1_become cX1_become 2 none ∈ mWT := mt_3 (List.mem_of_getElem? (i := 114) rfl) rfl
theorem wt_199 : Cond.methodLink RX9 231 yX1_become ∈ mWT := mt_3 (List.mem_of_getElem? (i := 111) rfl) rfl
theorem wt_200 : Cond.instanceMethod yX1_become ∈ mWT := mt_3 (List.mem_of_getElem? (i := 112) rfl) rfl
theorem wt_201 : Cond.selects RX1 yX1_become yX1_become ∈ mWT := mt_3 (List.mem_of_getElem? (i := 113) rfl) rfl
theorem wt_202 : Cond.methodLink RX1 80 arraycopyName ∈ mWT := mt_3 (List.mem_of_getElem? (i := 115) rfl) rfl
theorem wt_203 : Cond.native arraycopyName ∈ mWT := mt_3 (List.mem_of_getElem? (i := 117) rfl) rfl
theorem wt_204 : Cond.static arraycopyName ∈ mWT := mt_3 (List.mem_of_getElem? (i := 116) rfl) rfl
theorem wt_205 : Cond.initialized "java/lang/System" ∈ mWT := mt_1 (List.mem_of_getElem? (i := 14) rfl) rfl
theorem wt_206 : Cond.code yX4_forget cX4_forget 1 none ∈ mWT := mt_3 (List.mem_of_getElem? (i := 121) rfl) rfl
theorem wt_207 : Cond.methodLink RX9 235 yX4_forget ∈ mWT := mt_3 (List.mem_of_getElem? (i := 118) rfl) rfl
theorem wt_208 : Cond.instanceMethod yX4_forget ∈ mWT := mt_3 (List.mem_of_getElem? (i := 119) rfl) rfl
theorem wt_209 : Cond.selects RX4 yX4_forget yX4_forget ∈ mWT := mt_3 (List.mem_of_getElem? (i := 120) rfl) rfl
theorem wt_210 : Cond.fieldLink RX9 32 "RoundsPerHour" "trees" "LRoundsPerHour$TreeClimb;" ∈ mWT := mt_2 (List.mem_of_getElem? (i := 116) rfl) rfl
theorem wt_211 : Cond.code yX7_climbs cX7_climbs 2 (some .boolean) ∈ mWT := mt_3 (List.mem_of_getElem? (i := 139) rfl) rfl
theorem wt_212 : Cond.methodLink RX9 242 yX7_climbs ∈ mWT := mt_3 (List.mem_of_getElem? (i := 136) rfl) rfl
theorem wt_213 : Cond.instanceMethod yX7_climbs ∈ mWT := mt_3 (List.mem_of_getElem? (i := 137) rfl) rfl
theorem wt_214 : Cond.selects RX7 yX7_climbs yX7_climbs ∈ mWT := mt_3 (List.mem_of_getElem? (i := 138) rfl) rfl
theorem wt_215 : Cond.initialized RX7 ∈ mWT := mt_1 (List.mem_of_getElem? (i := 5) rfl) rfl
theorem wt_216 : Cond.fieldLink RX7 18 "RoundsPerHour$TreeClimb" "land" "LRoundsPerHour$Country;" ∈ mWT := mt_1 (List.mem_of_getElem? (i := 182) rfl) rfl
theorem wt_217 : Cond.code yX0_takeWays cX0_takeWays 3 none ∈ mWT := mt_3 (List.mem_of_getElem? (i := 145) rfl) rfl
theorem wt_218 : Cond.methodLink RX7 22 ⟨"RoundsPerHour$TreeClimb", "takeWays", "(LRoundsPerHour$Country;)V"⟩ ∈ mWT := mt_3 (List.mem_of_getElem? (i := 140) rfl) rfl
theorem wt_219 : Cond.sameMethod "RoundsPerHour$TreeClimb" "RoundsPerHour$Climb" "takeWays" "(LRoundsPerHour$Country;)V" ∈ mWT := mt_3 (List.mem_of_getElem? (i := 141) rfl) rfl
theorem wt_220 : Cond.selects RX7 ⟨"RoundsPerHour$TreeClimb", "takeWays", "(LRoundsPerHour$Country;)V"⟩ yX0_takeWays ∈ mWT := mt_3 (List.mem_of_getElem? (i := 143) rfl) rfl
theorem wt_221 : Cond.instanceMethod yX0_takeWays ∈ mWT := mt_3 (List.mem_of_getElem? (i := 144) rfl) rfl
theorem wt_222 : Cond.initialized RX0 ∈ mWT := mt_1 (List.mem_of_getElem? (i := 4) rfl) rfl
theorem wt_223 : Cond.fieldLink RX0 27 "RoundsPerHour$Climb" "size" "I" ∈ mWT := mt_1 (List.mem_of_getElem? (i := 193) rfl) rfl
theorem wt_224 : Cond.fieldLink RX0 9 "RoundsPerHour$Climb" "gains" "[J" ∈ mWT := mt_1 (List.mem_of_getElem? (i := 204) rfl) rfl
theorem wt_225 : Cond.methodLink RX0 30 yX1_bringsOf ∈ mWT := mt_3 (List.mem_of_getElem? (i := 146) rfl) rfl
theorem wt_226 : Cond.fieldLink RX0 15 "RoundsPerHour$Climb" "times" "[J" ∈ mWT := mt_1 (List.mem_of_getElem? (i := 207) rfl) rfl
theorem wt_227 : Cond.methodLink RX0 34 yX1_lastsOf ∈ mWT := mt_3 (List.mem_of_getElem? (i := 147) rfl) rfl
theorem wt_228 : Cond.fieldLink RX0 21 "RoundsPerHour$Country" "ways" "I" ∈ mWT := mt_1 (List.mem_of_getElem? (i := 45) rfl) rfl
theorem wt_229 : Cond.code yX0_runs cX0_runs 7 (some .boolean) ∈ mWT := mt_3 (List.mem_of_getElem? (i := 153) rfl) rfl
theorem wt_230 : Cond.methodLink RX7 26 ⟨"RoundsPerHour$TreeClimb", "runs", "()Z"⟩ ∈ mWT := mt_3 (List.mem_of_getElem? (i := 148) rfl) rfl
theorem wt_231 : Cond.sameMethod "RoundsPerHour$TreeClimb" "RoundsPerHour$Climb" "runs" "()Z" ∈ mWT := mt_3 (List.mem_of_getElem? (i := 149) rfl) rfl
theorem wt_232 : Cond.selects RX7 ⟨"RoundsPerHour$TreeClimb", "runs", "()Z"⟩ yX0_runs ∈ mWT := mt_3 (List.mem_of_getElem? (i := 151) rfl) rfl
theorem wt_233 : Cond.instanceMethod yX0_runs ∈ mWT := mt_3 (List.mem_of_getElem? (i := 152) rfl) rfl
theorem wt_234 : Cond.fieldLink RX0 45 "RoundsPerHour$Climb" "steps" "I" ∈ mWT := mt_1 (List.mem_of_getElem? (i := 185) rfl) rfl
theorem wt_235 : Cond.fieldLink RX0 48 "RoundsPerHour$Climb" "baseAbove" "J" ∈ mWT := mt_1 (List.mem_of_getElem? (i := 200) rfl) rfl
theorem wt_236 : Cond.code yX0_together cX0_together 6 (some .long) ∈ mWT := mt_3 (List.mem_of_getElem? (i := 193) rfl) rfl
theorem wt_237 : Cond.methodLink RX0 52 ⟨"RoundsPerHour$Climb", "together", "([JI)J"⟩ ∈ mWT := mt_3 (List.mem_of_getElem? (i := 190) rfl) rfl
theorem wt_238 : Cond.sameMethod "RoundsPerHour$Climb" "RoundsPerHour$Climb" "together" "([JI)J" ∈ mWT := mt_7 (List.mem_of_getElem? (i := 38) rfl) rfl
theorem wt_239 : Cond.selects RX7 ⟨"RoundsPerHour$Climb", "together", "([JI)J"⟩ yX0_together ∈ mWT := mt_x (List.mem_of_getElem? (i := 1) rfl) rfl
theorem wt_240 : Cond.instanceMethod yX0_together ∈ mWT := mt_3 (List.mem_of_getElem? (i := 192) rfl) rfl
theorem wt_241 : Cond.fieldLink RX0 56 "RoundsPerHour$Climb" "above" "J" ∈ mWT := mt_1 (List.mem_of_getElem? (i := 187) rfl) rfl
theorem wt_242 : Cond.fieldLink RX0 59 "RoundsPerHour$Climb" "baseBelow" "J" ∈ mWT := mt_1 (List.mem_of_getElem? (i := 203) rfl) rfl
theorem wt_243 : Cond.fieldLink RX0 62 "RoundsPerHour$Climb" "below" "J" ∈ mWT := mt_1 (List.mem_of_getElem? (i := 189) rfl) rfl
theorem wt_244 : Cond.code yX0_weigh cX0_weigh 6 none ∈ mWT := mt_3 (List.mem_of_getElem? (i := 157) rfl) rfl
theorem wt_245 : Cond.methodLink RX0 37 ⟨"RoundsPerHour$Climb", "weigh", "(JJ)V"⟩ ∈ mWT := mt_3 (List.mem_of_getElem? (i := 154) rfl) rfl
theorem wt_246 : Cond.sameMethod "RoundsPerHour$Climb" "RoundsPerHour$Climb" "weigh" "(JJ)V" ∈ mWT := mt_7 (List.mem_of_getElem? (i := 37) rfl) rfl
theorem wt_247 : Cond.selects RX7 ⟨"RoundsPerHour$Climb", "weigh", "(JJ)V"⟩ yX0_weigh ∈ mWT := mt_x (List.mem_of_getElem? (i := 4) rfl) rfl
theorem wt_248 : Cond.instanceMethod yX0_weigh ∈ mWT := mt_3 (List.mem_of_getElem? (i := 156) rfl) rfl
theorem wt_249 : Cond.fieldLink RX0 18 "RoundsPerHour$Climb" "weight" "[J" ∈ mWT := mt_1 (List.mem_of_getElem? (i := 210) rfl) rfl
theorem wt_250 : Cond.code yX7_pick cX7_pick 4 (some .int) ∈ mWT := mt_3 (List.mem_of_getElem? (i := 166) rfl) rfl
theorem wt_251 : Cond.methodLink RX0 41 ⟨"RoundsPerHour$Climb", "pick", "()I"⟩ ∈ mWT := mt_3 (List.mem_of_getElem? (i := 158) rfl) rfl
theorem wt_252 : Cond.sameMethod "RoundsPerHour$Climb" "RoundsPerHour$Climb" "pick" "()I" ∈ mWT := mt_3 (List.mem_of_getElem? (i := 160) rfl) rfl
theorem wt_253 : Cond.selects RX7 ⟨"RoundsPerHour$Climb", "pick", "()I"⟩ yX7_pick ∈ mWT := mt_3 (List.mem_of_getElem? (i := 164) rfl) rfl
theorem wt_254 : Cond.instanceMethod yX7_pick ∈ mWT := mt_3 (List.mem_of_getElem? (i := 165) rfl) rfl
theorem wt_255 : Cond.fieldLink RX7 33 "RoundsPerHour$Country" "places" "I" ∈ mWT := mt_1 (List.mem_of_getElem? (i := 37) rfl) rfl
theorem wt_256 : Cond.code yX7_heaviestJoining cX7_heaviestJoining 4 (some .int) ∈ mWT := mt_3 (List.mem_of_getElem? (i := 174) rfl) rfl
theorem wt_257 : Cond.methodLink RX7 39 yX7_heaviestJoining ∈ mWT := mt_3 (List.mem_of_getElem? (i := 171) rfl) rfl
theorem wt_258 : Cond.instanceMethod yX7_heaviestJoining ∈ mWT := mt_3 (List.mem_of_getElem? (i := 173) rfl) rfl
theorem wt_259 : Cond.selects RX7 yX7_heaviestJoining yX7_heaviestJoining ∈ mWT := mt_s (⟨"RoundsPerHour$TreeClimb", "heaviestJoining", "()I"⟩, 12) (ml_1 (List.mem_of_getElem? (i := 7) rfl)) rfl rfl
theorem wt_260 : Cond.fieldLink RX7 64 "RoundsPerHour$TreeClimb" "weight" "[J" ∈ mWT := mt_1 (List.mem_of_getElem? (i := 215) rfl) rfl
theorem wt_261 : Cond.sameField "RoundsPerHour$TreeClimb" "RoundsPerHour$Climb" "weight" "[J" ∈ mWT := mt_1 (List.mem_of_getElem? (i := 216) rfl) rfl
theorem wt_262 : Cond.fieldLink RX7 54 "RoundsPerHour$TreeClimb" "size" "I" ∈ mWT := mt_1 (List.mem_of_getElem? (i := 196) rfl) rfl
theorem wt_263 : Cond.sameField "RoundsPerHour$TreeClimb" "RoundsPerHour$Climb" "size" "I" ∈ mWT := mt_1 (List.mem_of_getElem? (i := 197) rfl) rfl
theorem wt_264 : Cond.fieldLink RX7 57 "RoundsPerHour$Country" "shut" "[I" ∈ mWT := mt_1 (List.mem_of_getElem? (i := 69) rfl) rfl
theorem wt_265 : Cond.fieldLink RX7 12 "RoundsPerHour$TreeClimb" "joins" "LRoundsPerHour$Joins;" ∈ mWT := mt_1 (List.mem_of_getElem? (i := 181) rfl) rfl
theorem wt_266 : Cond.fieldLink RX7 43 "RoundsPerHour$Country" "from" "[I" ∈ mWT := mt_1 (List.mem_of_getElem? (i := 54) rfl) rfl
theorem wt_267 : Cond.fieldLink RX7 47 "RoundsPerHour$Country" "to" "[I" ∈ mWT := mt_1 (List.mem_of_getElem? (i := 60) rfl) rfl
theorem wt_268 : Cond.code yX2_apart cX2_apart 3 (some .boolean) ∈ mWT := mt_3 (List.mem_of_getElem? (i := 178) rfl) rfl
theorem wt_269 : Cond.methodLink RX7 60 yX2_apart ∈ mWT := mt_3 (List.mem_of_getElem? (i := 175) rfl) rfl
theorem wt_270 : Cond.instanceMethod yX2_apart ∈ mWT := mt_3 (List.mem_of_getElem? (i := 176) rfl) rfl
theorem wt_271 : Cond.selects RX2 yX2_apart yX2_apart ∈ mWT := mt_3 (List.mem_of_getElem? (i := 177) rfl) rfl
theorem wt_272 : Cond.initialized RX2 ∈ mWT := mt_1 (List.mem_of_getElem? (i := 6) rfl) rfl
theorem wt_273 : Cond.fieldLink RX2 9 "RoundsPerHour$Joins" "label" "[I" ∈ mWT := mt_1 (List.mem_of_getElem? (i := 177) rfl) rfl
theorem wt_274 : Cond.code yX2_join cX2_join 6 none ∈ mWT := mt_3 (List.mem_of_getElem? (i := 182) rfl) rfl
theorem wt_275 : Cond.methodLink RX7 50 yX2_join ∈ mWT := mt_3 (List.mem_of_getElem? (i := 179) rfl) rfl
theorem wt_276 : Cond.instanceMethod yX2_join ∈ mWT := mt_3 (List.mem_of_getElem? (i := 180) rfl) rfl
theorem wt_277 : Cond.selects RX2 yX2_join yX2_join ∈ mWT := mt_3 (List.mem_of_getElem? (i := 181) rfl) rfl
theorem wt_278 : Cond.code yX2_part cX2_part 2 none ∈ mWT := mt_3 (List.mem_of_getElem? (i := 170) rfl) rfl
theorem wt_279 : Cond.methodLink RX7 30 yX2_part ∈ mWT := mt_3 (List.mem_of_getElem? (i := 167) rfl) rfl
theorem wt_280 : Cond.instanceMethod yX2_part ∈ mWT := mt_3 (List.mem_of_getElem? (i := 168) rfl) rfl
theorem wt_281 : Cond.selects RX2 yX2_part yX2_part ∈ mWT := mt_3 (List.mem_of_getElem? (i := 169) rfl) rfl
theorem wt_282 : Cond.fieldLink RX0 65 "RoundsPerHour$Climb" "best" "I" ∈ mWT := mt_1 (List.mem_of_getElem? (i := 183) rfl) rfl
theorem wt_283 : Cond.code yX9_told cX9_told 4 (some .long) ∈ mWT := mt_3 (List.mem_of_getElem? (i := 197) rfl) rfl
theorem wt_284 : Cond.methodLink RX9 245 yX9_told ∈ mWT := mt_3 (List.mem_of_getElem? (i := 194) rfl) rfl
theorem wt_285 : Cond.instanceMethod yX9_told ∈ mWT := mt_3 (List.mem_of_getElem? (i := 196) rfl) rfl
theorem wt_286 : Cond.selects RX9 yX9_told yX9_told ∈ mWT := mt_s (⟨"RoundsPerHour", "told", "(LRoundsPerHour$Climb;ZI)J"⟩, 12) (ml_1 (List.mem_of_getElem? (i := 9) rfl)) rfl rfl
theorem wt_287 : Cond.fieldLink RX9 255 "RoundsPerHour$Climb" "best" "I" ∈ mWT := mt_1 (List.mem_of_getElem? (i := 184) rfl) rfl
theorem wt_288 : Cond.fieldLink RX9 259 "RoundsPerHour$Climb" "steps" "I" ∈ mWT := mt_1 (List.mem_of_getElem? (i := 186) rfl) rfl
theorem wt_289 : Cond.fieldLink RX9 262 "RoundsPerHour$Climb" "above" "J" ∈ mWT := mt_1 (List.mem_of_getElem? (i := 188) rfl) rfl
theorem wt_290 : Cond.fieldLink RX9 265 "RoundsPerHour$Climb" "below" "J" ∈ mWT := mt_1 (List.mem_of_getElem? (i := 190) rfl) rfl
theorem wt_291 : Cond.fieldLink RX9 39 "RoundsPerHour" "walks" "LRoundsPerHour$WalkClimb;" ∈ mWT := mt_2 (List.mem_of_getElem? (i := 117) rfl) rfl
theorem wt_292 : Cond.code yX8_climbs cX8_climbs 4 (some .boolean) ∈ mWT := mt_3 (List.mem_of_getElem? (i := 205) rfl) rfl
theorem wt_293 : Cond.methodLink RX9 249 yX8_climbs ∈ mWT := mt_3 (List.mem_of_getElem? (i := 202) rfl) rfl
theorem wt_294 : Cond.instanceMethod yX8_climbs ∈ mWT := mt_3 (List.mem_of_getElem? (i := 203) rfl) rfl
theorem wt_295 : Cond.selects RX8 yX8_climbs yX8_climbs ∈ mWT := mt_3 (List.mem_of_getElem? (i := 204) rfl) rfl
theorem wt_296 : Cond.initialized RX8 ∈ mWT := mt_1 (List.mem_of_getElem? (i := 7) rfl) rfl
theorem wt_297 : Cond.fieldLink RX8 19 "RoundsPerHour$WalkClimb" "land" "LRoundsPerHour$Country;" ∈ mWT := mt_2 (List.mem_of_getElem? (i := 10) rfl) rfl
theorem wt_298 : Cond.fieldLink RX8 23 "RoundsPerHour$WalkClimb" "start" "I" ∈ mWT := mt_2 (List.mem_of_getElem? (i := 11) rfl) rfl
theorem wt_299 : Cond.fieldLink RX8 27 "RoundsPerHour$WalkClimb" "end" "I" ∈ mWT := mt_2 (List.mem_of_getElem? (i := 12) rfl) rfl
theorem wt_300 : Cond.methodLink RX8 30 ⟨"RoundsPerHour$WalkClimb", "takeWays", "(LRoundsPerHour$Country;)V"⟩ ∈ mWT := mt_3 (List.mem_of_getElem? (i := 206) rfl) rfl
theorem wt_301 : Cond.sameMethod "RoundsPerHour$WalkClimb" "RoundsPerHour$Climb" "takeWays" "(LRoundsPerHour$Country;)V" ∈ mWT := mt_3 (List.mem_of_getElem? (i := 207) rfl) rfl
theorem wt_302 : Cond.selects RX8 ⟨"RoundsPerHour$WalkClimb", "takeWays", "(LRoundsPerHour$Country;)V"⟩ yX0_takeWays ∈ mWT := mt_3 (List.mem_of_getElem? (i := 208) rfl) rfl
theorem wt_303 : Cond.methodLink RX8 34 ⟨"RoundsPerHour$WalkClimb", "runs", "()Z"⟩ ∈ mWT := mt_3 (List.mem_of_getElem? (i := 209) rfl) rfl
theorem wt_304 : Cond.sameMethod "RoundsPerHour$WalkClimb" "RoundsPerHour$Climb" "runs" "()Z" ∈ mWT := mt_3 (List.mem_of_getElem? (i := 210) rfl) rfl
theorem wt_305 : Cond.selects RX8 ⟨"RoundsPerHour$WalkClimb", "runs", "()Z"⟩ yX0_runs ∈ mWT := mt_3 (List.mem_of_getElem? (i := 211) rfl) rfl
theorem wt_306 : Cond.selects RX8 ⟨"RoundsPerHour$Climb", "together", "([JI)J"⟩ yX0_together ∈ mWT := mt_x (List.mem_of_getElem? (i := 2) rfl) rfl
theorem wt_307 : Cond.selects RX8 ⟨"RoundsPerHour$Climb", "weigh", "(JJ)V"⟩ yX0_weigh ∈ mWT := mt_x (List.mem_of_getElem? (i := 5) rfl) rfl
theorem wt_308 : Cond.code yX8_pick cX8_pick 2 (some .int) ∈ mWT := mt_3 (List.mem_of_getElem? (i := 185) rfl) rfl
theorem wt_309 : Cond.selects RX8 ⟨"RoundsPerHour$Climb", "pick", "()I"⟩ yX8_pick ∈ mWT := mt_3 (List.mem_of_getElem? (i := 183) rfl) rfl
theorem wt_310 : Cond.instanceMethod yX8_pick ∈ mWT := mt_3 (List.mem_of_getElem? (i := 184) rfl) rfl
theorem wt_311 : Cond.fieldLink RX8 15 "RoundsPerHour$WalkClimb" "sets" "[I" ∈ mWT := mt_2 (List.mem_of_getElem? (i := 9) rfl) rfl
theorem wt_312 : Cond.code yX8_leave cX8_leave 8 none ∈ mWT := mt_3 (List.mem_of_getElem? (i := 189) rfl) rfl
theorem wt_313 : Cond.methodLink RX8 38 yX8_leave ∈ mWT := mt_3 (List.mem_of_getElem? (i := 186) rfl) rfl
theorem wt_314 : Cond.instanceMethod yX8_leave ∈ mWT := mt_3 (List.mem_of_getElem? (i := 188) rfl) rfl
theorem wt_315 : Cond.selects RX8 yX8_leave yX8_leave ∈ mWT := mt_s (⟨"RoundsPerHour$WalkClimb", "leave", "(I)V"⟩, 15) (ml_1 (List.mem_of_getElem? (i := 8) rfl)) rfl rfl
theorem wt_316 : Cond.fieldLink RX8 9 "RoundsPerHour$WalkClimb" "height" "[J" ∈ mWT := mt_2 (List.mem_of_getElem? (i := 8) rfl) rfl
theorem wt_317 : Cond.fieldLink RX8 42 "RoundsPerHour$WalkClimb" "size" "I" ∈ mWT := mt_1 (List.mem_of_getElem? (i := 194) rfl) rfl
theorem wt_318 : Cond.sameField "RoundsPerHour$WalkClimb" "RoundsPerHour$Climb" "size" "I" ∈ mWT := mt_1 (List.mem_of_getElem? (i := 195) rfl) rfl
theorem wt_319 : Cond.fieldLink RX8 45 "RoundsPerHour$Country" "to" "[I" ∈ mWT := mt_1 (List.mem_of_getElem? (i := 61) rfl) rfl
theorem wt_320 : Cond.fieldLink RX8 50 "RoundsPerHour$Country" "shut" "[I" ∈ mWT := mt_1 (List.mem_of_getElem? (i := 70) rfl) rfl
theorem wt_321 : Cond.fieldLink RX8 53 "RoundsPerHour$Country" "from" "[I" ∈ mWT := mt_1 (List.mem_of_getElem? (i := 55) rfl) rfl
theorem wt_322 : Cond.fieldLink RX8 56 "RoundsPerHour$WalkClimb" "weight" "[J" ∈ mWT := mt_1 (List.mem_of_getElem? (i := 213) rfl) rfl
theorem wt_323 : Cond.sameField "RoundsPerHour$WalkClimb" "RoundsPerHour$Climb" "weight" "[J" ∈ mWT := mt_1 (List.mem_of_getElem? (i := 214) rfl) rfl
theorem wt_324 : Cond.fieldLink RX9 46 "RoundsPerHour" "loads" "LRoundsPerHour$LoadClimb;" ∈ mWT := mt_2 (List.mem_of_getElem? (i := 118) rfl) rfl
theorem wt_325 : Cond.code yX3_climbs cX3_climbs 4 (some .boolean) ∈ mWT := mt_3 (List.mem_of_getElem? (i := 219) rfl) rfl
theorem wt_326 : Cond.methodLink RX9 252 yX3_climbs ∈ mWT := mt_3 (List.mem_of_getElem? (i := 216) rfl) rfl
theorem wt_327 : Cond.instanceMethod yX3_climbs ∈ mWT := mt_3 (List.mem_of_getElem? (i := 217) rfl) rfl
theorem wt_328 : Cond.selects RX3 yX3_climbs yX3_climbs ∈ mWT := mt_3 (List.mem_of_getElem? (i := 218) rfl) rfl
theorem wt_329 : Cond.initialized RX3 ∈ mWT := mt_1 (List.mem_of_getElem? (i := 8) rfl) rfl
theorem wt_330 : Cond.fieldLink RX3 18 "RoundsPerHour$LoadClimb" "size" "I" ∈ mWT := mt_1 (List.mem_of_getElem? (i := 191) rfl) rfl
theorem wt_331 : Cond.sameField "RoundsPerHour$LoadClimb" "RoundsPerHour$Climb" "size" "I" ∈ mWT := mt_1 (List.mem_of_getElem? (i := 192) rfl) rfl
theorem wt_332 : Cond.methodLink RX3 42 ⟨"RoundsPerHour$LoadClimb", "runs", "()Z"⟩ ∈ mWT := mt_3 (List.mem_of_getElem? (i := 220) rfl) rfl
theorem wt_333 : Cond.sameMethod "RoundsPerHour$LoadClimb" "RoundsPerHour$Climb" "runs" "()Z" ∈ mWT := mt_3 (List.mem_of_getElem? (i := 221) rfl) rfl
theorem wt_334 : Cond.selects RX3 ⟨"RoundsPerHour$LoadClimb", "runs", "()Z"⟩ yX0_runs ∈ mWT := mt_3 (List.mem_of_getElem? (i := 222) rfl) rfl
theorem wt_335 : Cond.selects RX3 ⟨"RoundsPerHour$Climb", "together", "([JI)J"⟩ yX0_together ∈ mWT := mt_x (List.mem_of_getElem? (i := 0) rfl) rfl
theorem wt_336 : Cond.selects RX3 ⟨"RoundsPerHour$Climb", "weigh", "(JJ)V"⟩ yX0_weigh ∈ mWT := mt_x (List.mem_of_getElem? (i := 3) rfl) rfl
theorem wt_337 : Cond.code yX3_pick cX3_pick 5 (some .int) ∈ mWT := mt_3 (List.mem_of_getElem? (i := 163) rfl) rfl
theorem wt_338 : Cond.selects RX3 ⟨"RoundsPerHour$Climb", "pick", "()I"⟩ yX3_pick ∈ mWT := mt_3 (List.mem_of_getElem? (i := 161) rfl) rfl
theorem wt_339 : Cond.instanceMethod yX3_pick ∈ mWT := mt_3 (List.mem_of_getElem? (i := 162) rfl) rfl
theorem wt_340 : Cond.fieldLink RX3 46 "RoundsPerHour$LoadClimb" "weight" "[J" ∈ mWT := mt_1 (List.mem_of_getElem? (i := 211) rfl) rfl
theorem wt_341 : Cond.sameField "RoundsPerHour$LoadClimb" "RoundsPerHour$Climb" "weight" "[J" ∈ mWT := mt_1 (List.mem_of_getElem? (i := 212) rfl) rfl
theorem wt_342 : Cond.fieldLink RX3 7 "RoundsPerHour$LoadClimb" "most" "I" ∈ mWT := mt_2 (List.mem_of_getElem? (i := 40) rfl) rfl
theorem wt_343 : Cond.fieldLink RX3 35 "RoundsPerHour$LoadClimb" "gains" "[J" ∈ mWT := mt_1 (List.mem_of_getElem? (i := 205) rfl) rfl
theorem wt_344 : Cond.sameField "RoundsPerHour$LoadClimb" "RoundsPerHour$Climb" "gains" "[J" ∈ mWT := mt_1 (List.mem_of_getElem? (i := 206) rfl) rfl
theorem wt_345 : Cond.fieldLink RX3 21 "RoundsPerHour$Country" "thingGain" "[I" ∈ mWT := mt_1 (List.mem_of_getElem? (i := 78) rfl) rfl
theorem wt_346 : Cond.fieldLink RX3 39 "RoundsPerHour$LoadClimb" "times" "[J" ∈ mWT := mt_1 (List.mem_of_getElem? (i := 208) rfl) rfl
theorem wt_347 : Cond.sameField "RoundsPerHour$LoadClimb" "RoundsPerHour$Climb" "times" "[J" ∈ mWT := mt_1 (List.mem_of_getElem? (i := 209) rfl) rfl
theorem wt_348 : Cond.fieldLink RX3 29 "RoundsPerHour$Country" "thingTime" "[I" ∈ mWT := mt_1 (List.mem_of_getElem? (i := 81) rfl) rfl
theorem wt_349 : Cond.fieldLink RX3 13 "RoundsPerHour$Country" "things" "I" ∈ mWT := mt_1 (List.mem_of_getElem? (i := 73) rfl) rfl
theorem wt_350 : Cond.fieldLink RX3 25 "RoundsPerHour$LoadClimb" "baseAbove" "J" ∈ mWT := mt_1 (List.mem_of_getElem? (i := 198) rfl) rfl
theorem wt_351 : Cond.sameField "RoundsPerHour$LoadClimb" "RoundsPerHour$Climb" "baseAbove" "J" ∈ mWT := mt_1 (List.mem_of_getElem? (i := 199) rfl) rfl
theorem wt_352 : Cond.fieldLink RX3 32 "RoundsPerHour$LoadClimb" "baseBelow" "J" ∈ mWT := mt_1 (List.mem_of_getElem? (i := 201) rfl) rfl
theorem wt_353 : Cond.sameField "RoundsPerHour$LoadClimb" "RoundsPerHour$Climb" "baseBelow" "J" ∈ mWT := mt_1 (List.mem_of_getElem? (i := 202) rfl) rfl
theorem wt_354 : Cond.code yX9_isChoice cX9_isChoice 3 (some .boolean) ∈ mWT := mt_3 (List.mem_of_getElem? (i := 230) rfl) rfl
theorem wt_355 : Cond.methodLink RX9 267 yX9_isChoice ∈ mWT := mt_3 (List.mem_of_getElem? (i := 227) rfl) rfl
theorem wt_356 : Cond.instanceMethod yX9_isChoice ∈ mWT := mt_3 (List.mem_of_getElem? (i := 229) rfl) rfl
theorem wt_357 : Cond.selects RX9 yX9_isChoice yX9_isChoice ∈ mWT := mt_s (⟨"RoundsPerHour", "isChoice", "(II)Z"⟩, 12) (ml_1 (List.mem_of_getElem? (i := 10) rfl)) rfl rfl
theorem wt_358 : Cond.code yX1_isOpenSet cX1_isOpenSet 3 (some .boolean) ∈ mWT := mt_3 (List.mem_of_getElem? (i := 234) rfl) rfl
theorem wt_359 : Cond.methodLink RX9 282 yX1_isOpenSet ∈ mWT := mt_3 (List.mem_of_getElem? (i := 231) rfl) rfl
theorem wt_360 : Cond.instanceMethod yX1_isOpenSet ∈ mWT := mt_3 (List.mem_of_getElem? (i := 232) rfl) rfl
theorem wt_361 : Cond.selects RX1 yX1_isOpenSet yX1_isOpenSet ∈ mWT := mt_3 (List.mem_of_getElem? (i := 233) rfl) rfl
theorem wt_362 : Cond.code yX1_isRing cX1_isRing 7 (some .boolean) ∈ mWT := mt_3 (List.mem_of_getElem? (i := 238) rfl) rfl
theorem wt_363 : Cond.methodLink RX9 285 yX1_isRing ∈ mWT := mt_3 (List.mem_of_getElem? (i := 235) rfl) rfl
theorem wt_364 : Cond.instanceMethod yX1_isRing ∈ mWT := mt_3 (List.mem_of_getElem? (i := 236) rfl) rfl
theorem wt_365 : Cond.selects RX1 yX1_isRing yX1_isRing ∈ mWT := mt_3 (List.mem_of_getElem? (i := 237) rfl) rfl
theorem wt_366 : Cond.code yX1_firstFrom cX1_firstFrom 4 (some .int) ∈ mWT := mt_4 (List.mem_of_getElem? (i := 2) rfl) rfl
theorem wt_367 : Cond.methodLink RX1 60 yX1_firstFrom ∈ mWT := mt_3 (List.mem_of_getElem? (i := 239) rfl) rfl
theorem wt_368 : Cond.instanceMethod yX1_firstFrom ∈ mWT := mt_4 (List.mem_of_getElem? (i := 1) rfl) rfl
theorem wt_369 : Cond.selects RX1 yX1_firstFrom yX1_firstFrom ∈ mWT := mt_s (⟨"RoundsPerHour$Country", "firstFrom", "(II)I"⟩, 12) (ml_1 (List.mem_of_getElem? (i := 11) rfl)) rfl rfl
theorem wt_370 : Cond.code yJ6_bitCount_0f7a4 cJ6_bitCount_0f7a4 1 (some .int) ∈ mWT := mt_4 (List.mem_of_getElem? (i := 5) rfl) rfl
theorem wt_371 : Cond.methodLink RX1 64 yJ6_bitCount_0f7a4 ∈ mWT := mt_4 (List.mem_of_getElem? (i := 3) rfl) rfl
theorem wt_372 : Cond.static yJ6_bitCount_0f7a4 ∈ mWT := mt_4 (List.mem_of_getElem? (i := 4) rfl) rfl
theorem wt_373 : Cond.initialized RJ6 ∈ mWT := mt_1 (List.mem_of_getElem? (i := 15) rfl) rfl
theorem wt_374 : Cond.constant RJ6 265 (1431655765) ∈ mWT := mt_4 (List.mem_of_getElem? (i := 6) rfl) rfl
theorem wt_375 : Cond.constant RJ6 266 (858993459) ∈ mWT := mt_4 (List.mem_of_getElem? (i := 7) rfl) rfl
theorem wt_376 : Cond.constant RJ6 267 (252645135) ∈ mWT := mt_4 (List.mem_of_getElem? (i := 8) rfl) rfl
theorem wt_377 : Cond.fieldLink RX9 53 "RoundsPerHour" "joins" "LRoundsPerHour$Joins;" ∈ mWT := mt_2 (List.mem_of_getElem? (i := 119) rfl) rfl
theorem wt_378 : Cond.code yX2_isTree cX2_isTree 4 (some .boolean) ∈ mWT := mt_4 (List.mem_of_getElem? (i := 12) rfl) rfl
theorem wt_379 : Cond.methodLink RX9 288 yX2_isTree ∈ mWT := mt_4 (List.mem_of_getElem? (i := 9) rfl) rfl
theorem wt_380 : Cond.instanceMethod yX2_isTree ∈ mWT := mt_4 (List.mem_of_getElem? (i := 10) rfl) rfl
theorem wt_381 : Cond.selects RX2 yX2_isTree yX2_isTree ∈ mWT := mt_4 (List.mem_of_getElem? (i := 11) rfl) rfl
theorem wt_382 : Cond.fieldLink RX2 30 "RoundsPerHour$Country" "ways" "I" ∈ mWT := mt_1 (List.mem_of_getElem? (i := 47) rfl) rfl
theorem wt_383 : Cond.fieldLink RX2 33 "RoundsPerHour$Country" "from" "[I" ∈ mWT := mt_1 (List.mem_of_getElem? (i := 56) rfl) rfl
theorem wt_384 : Cond.fieldLink RX2 36 "RoundsPerHour$Country" "to" "[I" ∈ mWT := mt_1 (List.mem_of_getElem? (i := 62) rfl) rfl
theorem wt_385 : Cond.methodLink RX2 39 yX2_apart ∈ mWT := mt_4 (List.mem_of_getElem? (i := 15) rfl) rfl
theorem wt_386 : Cond.methodLink RX2 43 yX2_join ∈ mWT := mt_4 (List.mem_of_getElem? (i := 16) rfl) rfl
theorem wt_387 : Cond.methodLink RX2 15 yJ6_bitCount_0f7a4 ∈ mWT := mt_4 (List.mem_of_getElem? (i := 13) rfl) rfl
theorem wt_388 : Cond.fieldLink RX2 21 "RoundsPerHour$Country" "places" "I" ∈ mWT := mt_1 (List.mem_of_getElem? (i := 38) rfl) rfl
theorem wt_389 : Cond.methodLink RX2 27 yX2_part ∈ mWT := mt_4 (List.mem_of_getElem? (i := 14) rfl) rfl
theorem wt_390 : Cond.code yX1_bringTogether cX1_bringTogether 5 (some .long) ∈ mWT := mt_4 (List.mem_of_getElem? (i := 32) rfl) rfl
theorem wt_391 : Cond.methodLink RX9 276 yX1_bringTogether ∈ mWT := mt_4 (List.mem_of_getElem? (i := 29) rfl) rfl
theorem wt_392 : Cond.instanceMethod yX1_bringTogether ∈ mWT := mt_4 (List.mem_of_getElem? (i := 30) rfl) rfl
theorem wt_393 : Cond.selects RX1 yX1_bringTogether yX1_bringTogether ∈ mWT := mt_4 (List.mem_of_getElem? (i := 31) rfl) rfl
theorem wt_394 : Cond.methodLink RX1 70 yX1_bringsOf ∈ mWT := mt_4 (List.mem_of_getElem? (i := 33) rfl) rfl
theorem wt_395 : Cond.code yX1_lastTogether cX1_lastTogether 5 (some .long) ∈ mWT := mt_4 (List.mem_of_getElem? (i := 37) rfl) rfl
theorem wt_396 : Cond.methodLink RX9 279 yX1_lastTogether ∈ mWT := mt_4 (List.mem_of_getElem? (i := 34) rfl) rfl
theorem wt_397 : Cond.instanceMethod yX1_lastTogether ∈ mWT := mt_4 (List.mem_of_getElem? (i := 35) rfl) rfl
theorem wt_398 : Cond.selects RX1 yX1_lastTogether yX1_lastTogether ∈ mWT := mt_4 (List.mem_of_getElem? (i := 36) rfl) rfl
theorem wt_399 : Cond.methodLink RX1 73 yX1_lastsOf ∈ mWT := mt_4 (List.mem_of_getElem? (i := 38) rfl) rfl
theorem wt_400 : Cond.code yX1_gainTogether cX1_gainTogether 2 (some .long) ∈ mWT := mt_4 (List.mem_of_getElem? (i := 20) rfl) rfl
theorem wt_401 : Cond.methodLink RX9 270 yX1_gainTogether ∈ mWT := mt_4 (List.mem_of_getElem? (i := 17) rfl) rfl
theorem wt_402 : Cond.instanceMethod yX1_gainTogether ∈ mWT := mt_4 (List.mem_of_getElem? (i := 18) rfl) rfl
theorem wt_403 : Cond.selects RX1 yX1_gainTogether yX1_gainTogether ∈ mWT := mt_4 (List.mem_of_getElem? (i := 19) rfl) rfl
theorem wt_404 : Cond.code yX1_sumWithBase cX1_sumWithBase 6 (some .long) ∈ mWT := mt_4 (List.mem_of_getElem? (i := 24) rfl) rfl
theorem wt_405 : Cond.methodLink RX1 76 yX1_sumWithBase ∈ mWT := mt_4 (List.mem_of_getElem? (i := 21) rfl) rfl
theorem wt_406 : Cond.instanceMethod yX1_sumWithBase ∈ mWT := mt_4 (List.mem_of_getElem? (i := 23) rfl) rfl
theorem wt_407 : Cond.selects RX1 yX1_sumWithBase yX1_sumWithBase ∈ mWT := mt_s (⟨"RoundsPerHour$Country", "sumWithBase", "([II)J"⟩, 12) (ml_1 (List.mem_of_getElem? (i := 12) rfl)) rfl rfl
theorem wt_408 : Cond.code yX1_timeTogether cX1_timeTogether 2 (some .long) ∈ mWT := mt_4 (List.mem_of_getElem? (i := 28) rfl) rfl
theorem wt_409 : Cond.methodLink RX9 273 yX1_timeTogether ∈ mWT := mt_4 (List.mem_of_getElem? (i := 25) rfl) rfl
theorem wt_410 : Cond.instanceMethod yX1_timeTogether ∈ mWT := mt_4 (List.mem_of_getElem? (i := 26) rfl) rfl
theorem wt_411 : Cond.selects RX1 yX1_timeTogether yX1_timeTogether ∈ mWT := mt_4 (List.mem_of_getElem? (i := 27) rfl) rfl
theorem wt_412 : Cond.code yX9_fractionFault cX9_fractionFault 6 (some .int) ∈ mWT := mt_4 (List.mem_of_getElem? (i := 46) rfl) rfl
theorem wt_413 : Cond.methodLink RX9 291 yX9_fractionFault ∈ mWT := mt_4 (List.mem_of_getElem? (i := 43) rfl) rfl
theorem wt_414 : Cond.instanceMethod yX9_fractionFault ∈ mWT := mt_4 (List.mem_of_getElem? (i := 45) rfl) rfl
theorem wt_415 : Cond.selects RX9 yX9_fractionFault yX9_fractionFault ∈ mWT := mt_s (⟨"RoundsPerHour", "fractionFault", "(III)I"⟩, 12) (ml_1 (List.mem_of_getElem? (i := 13) rfl)) rfl rfl
theorem wt_416 : Cond.code yX9_sheetFault cX9_sheetFault 2 (some .int) ∈ mWT := mt_4 (List.mem_of_getElem? (i := 50) rfl) rfl
theorem wt_417 : Cond.methodLink RX9 315 yX9_sheetFault ∈ mWT := mt_4 (List.mem_of_getElem? (i := 47) rfl) rfl
theorem wt_418 : Cond.instanceMethod yX9_sheetFault ∈ mWT := mt_4 (List.mem_of_getElem? (i := 49) rfl) rfl
theorem wt_419 : Cond.selects RX9 yX9_sheetFault yX9_sheetFault ∈ mWT := mt_s (⟨"RoundsPerHour", "sheetFault", "(I)I"⟩, 12) (ml_1 (List.mem_of_getElem? (i := 14) rfl)) rfl rfl
theorem wt_420 : Cond.fieldLink RX9 66 "RoundsPerHour" "sheets" "[LRoundsPerHour$Sheet;" ∈ mWT := mt_2 (List.mem_of_getElem? (i := 121) rfl) rfl
theorem wt_421 : Cond.fieldLink RX9 340 "RoundsPerHour$Sheet" "bits" "I" ∈ mWT := mt_2 (List.mem_of_getElem? (i := 99) rfl) rfl
theorem wt_422 : Cond.code yX5_hasFraction cX5_hasFraction 2 (some .boolean) ∈ mWT := mt_4 (List.mem_of_getElem? (i := 54) rfl) rfl
theorem wt_423 : Cond.methodLink RX9 318 yX5_hasFraction ∈ mWT := mt_4 (List.mem_of_getElem? (i := 51) rfl) rfl
theorem wt_424 : Cond.instanceMethod yX5_hasFraction ∈ mWT := mt_4 (List.mem_of_getElem? (i := 52) rfl) rfl
theorem wt_425 : Cond.selects RX5 yX5_hasFraction yX5_hasFraction ∈ mWT := mt_4 (List.mem_of_getElem? (i := 53) rfl) rfl
theorem wt_426 : Cond.initialized RX5 ∈ mWT := mt_1 (List.mem_of_getElem? (i := 10) rfl) rfl
theorem wt_427 : Cond.fieldLink RX5 19 "RoundsPerHour$Sheet" "size" "I" ∈ mWT := mt_2 (List.mem_of_getElem? (i := 100) rfl) rfl
theorem wt_428 : Cond.fieldLink RX9 295 "RoundsPerHour$Sheet" "numbers" "[J" ∈ mWT := mt_2 (List.mem_of_getElem? (i := 103) rfl) rfl
theorem wt_429 : Cond.methodLink RX9 298 yJ13_compare_74951 ∈ mWT := mt_4 (List.mem_of_getElem? (i := 56) rfl) rfl
theorem wt_430 : Cond.code yX5_put cX5_put 4 none ∈ mWT := mt_4 (List.mem_of_getElem? (i := 64) rfl) rfl
theorem wt_431 : Cond.methodLink RX9 309 yX5_put ∈ mWT := mt_4 (List.mem_of_getElem? (i := 61) rfl) rfl
theorem wt_432 : Cond.instanceMethod yX5_put ∈ mWT := mt_4 (List.mem_of_getElem? (i := 62) rfl) rfl
theorem wt_433 : Cond.selects RX5 yX5_put yX5_put ∈ mWT := mt_4 (List.mem_of_getElem? (i := 63) rfl) rfl
theorem wt_434 : Cond.fieldLink RX5 15 "RoundsPerHour$Sheet" "bits" "I" ∈ mWT := mt_2 (List.mem_of_getElem? (i := 98) rfl) rfl
theorem wt_435 : Cond.fieldLink RX5 9 "RoundsPerHour$Sheet" "numbers" "[J" ∈ mWT := mt_2 (List.mem_of_getElem? (i := 102) rfl) rfl
theorem wt_436 : Cond.code yX9_sumFits cX9_sumFits 6 (some .boolean) ∈ mWT := mt_4 (List.mem_of_getElem? (i := 71) rfl) rfl
theorem wt_437 : Cond.methodLink RX9 312 yX9_sumFits ∈ mWT := mt_4 (List.mem_of_getElem? (i := 69) rfl) rfl
theorem wt_438 : Cond.static yX9_sumFits ∈ mWT := mt_4 (List.mem_of_getElem? (i := 70) rfl) rfl
theorem wt_439 : Cond.fieldLink RX9 60 "RoundsPerHour" "tape" "LRoundsPerHour$Tape;" ∈ mWT := mt_2 (List.mem_of_getElem? (i := 120) rfl) rfl
theorem wt_440 : Cond.fieldLink RX9 321 "RoundsPerHour$Tape" "length" "I" ∈ mWT := mt_2 (List.mem_of_getElem? (i := 63) rfl) rfl
theorem wt_441 : Cond.code yX6_append cX6_append 2 none ∈ mWT := mt_4 (List.mem_of_getElem? (i := 79) rfl) rfl
theorem wt_442 : Cond.methodLink RX9 324 yX6_append ∈ mWT := mt_4 (List.mem_of_getElem? (i := 76) rfl) rfl
theorem wt_443 : Cond.instanceMethod yX6_append ∈ mWT := mt_4 (List.mem_of_getElem? (i := 77) rfl) rfl
theorem wt_444 : Cond.selects RX6 yX6_append yX6_append ∈ mWT := mt_4 (List.mem_of_getElem? (i := 78) rfl) rfl
theorem wt_445 : Cond.initialized RX6 ∈ mWT := mt_1 (List.mem_of_getElem? (i := 9) rfl) rfl
theorem wt_446 : Cond.fieldLink RX6 15 "RoundsPerHour$Tape" "length" "I" ∈ mWT := mt_2 (List.mem_of_getElem? (i := 62) rfl) rfl
theorem wt_447 : Cond.fieldLink RX6 9 "RoundsPerHour$Tape" "bytes" "[I" ∈ mWT := mt_2 (List.mem_of_getElem? (i := 64) rfl) rfl
theorem wt_448 : Cond.code yX6_tellTo cX6_tellTo 3 (some .int) ∈ mWT := mt_4 (List.mem_of_getElem? (i := 91) rfl) rfl
theorem wt_449 : Cond.methodLink RX9 328 yX6_tellTo ∈ mWT := mt_4 (List.mem_of_getElem? (i := 88) rfl) rfl
theorem wt_450 : Cond.instanceMethod yX6_tellTo ∈ mWT := mt_4 (List.mem_of_getElem? (i := 89) rfl) rfl
theorem wt_451 : Cond.selects RX6 yX6_tellTo yX6_tellTo ∈ mWT := mt_4 (List.mem_of_getElem? (i := 90) rfl) rfl
theorem wt_452 : Cond.fieldLink RX6 33 "RoundsPerHour$Tape" "first" "I" ∈ mWT := mt_2 (List.mem_of_getElem? (i := 67) rfl) rfl
theorem wt_453 : Cond.code yX6_item cX6_item 1 (some .boolean) ∈ mWT := mt_4 (List.mem_of_getElem? (i := 113) rfl) rfl
theorem wt_454 : Cond.methodLink RX6 29 yX6_item ∈ mWT := mt_4 (List.mem_of_getElem? (i := 110) rfl) rfl
theorem wt_455 : Cond.instanceMethod yX6_item ∈ mWT := mt_4 (List.mem_of_getElem? (i := 112) rfl) rfl
theorem wt_456 : Cond.selects RX6 yX6_item yX6_item ∈ mWT := mt_s (⟨"RoundsPerHour$Tape", "item", "()Z"⟩, 9) (ml_2 (List.mem_of_getElem? (i := 1) rfl)) rfl rfl
theorem wt_457 : Cond.code yX6_isWord cX6_isWord 3 (some .boolean) ∈ mWT := mt_4 (List.mem_of_getElem? (i := 118) rfl) rfl
theorem wt_458 : Cond.methodLink RX6 41 yX6_isWord ∈ mWT := mt_4 (List.mem_of_getElem? (i := 115) rfl) rfl
theorem wt_459 : Cond.instanceMethod yX6_isWord ∈ mWT := mt_4 (List.mem_of_getElem? (i := 117) rfl) rfl
theorem wt_460 : Cond.selects RX6 yX6_isWord yX6_isWord ∈ mWT := mt_s (⟨"RoundsPerHour$Tape", "isWord", "(Ljava/lang/String;)Z"⟩, 9) (ml_2 (List.mem_of_getElem? (i := 2) rfl)) rfl rfl
theorem wt_461 : Cond.code yJ0_length_8abf5 cJ0_length_8abf5 1 (some .int) ∈ mWT := mt_4 (List.mem_of_getElem? (i := 122) rfl) rfl
theorem wt_462 : Cond.methodLink RX6 127 yJ0_length_8abf5 ∈ mWT := mt_4 (List.mem_of_getElem? (i := 119) rfl) rfl
theorem wt_463 : Cond.instanceMethod yJ0_length_8abf5 ∈ mWT := mt_4 (List.mem_of_getElem? (i := 120) rfl) rfl
theorem wt_464 : Cond.selects "java/lang/String" yJ0_length_8abf5 yJ0_length_8abf5 ∈ mWT := mt_4 (List.mem_of_getElem? (i := 121) rfl) rfl
theorem wt_465 : Cond.initialized "java/lang/String" ∈ mWT := mt_1 (List.mem_of_getElem? (i := 16) rfl) rfl
theorem wt_466 : Cond.fieldLink RJ0 9 "java/lang/String" "value" "[B" ∈ mWT := mt_7 (List.mem_of_getElem? (i := 39) rfl) rfl
theorem wt_467 : Cond.code yJ0_coder_7d493 cJ0_coder_7d493 1 (some .byte) ∈ mWT := mt_4 (List.mem_of_getElem? (i := 126) rfl) rfl
theorem wt_468 : Cond.methodLink RJ0 335 yJ0_coder_7d493 ∈ mWT := mt_4 (List.mem_of_getElem? (i := 123) rfl) rfl
theorem wt_469 : Cond.instanceMethod yJ0_coder_7d493 ∈ mWT := mt_4 (List.mem_of_getElem? (i := 124) rfl) rfl
theorem wt_470 : Cond.selects "java/lang/String" yJ0_coder_7d493 yJ0_coder_7d493 ∈ mWT := mt_4 (List.mem_of_getElem? (i := 125) rfl) rfl
theorem wt_471 : Cond.fieldLink RJ0 38 "java/lang/String" "COMPACT_STRINGS" "Z" ∈ mWT := mt_4 (List.mem_of_getElem? (i := 127) rfl) rfl
theorem wt_472 : Cond.fieldLink RJ0 15 "java/lang/String" "coder" "B" ∈ mWT := mt_7 (List.mem_of_getElem? (i := 40) rfl) rfl
theorem wt_473 : Cond.code yJ0_charAt_5068e cJ0_charAt_5068e 2 (some .char) ∈ mWT := mt_4 (List.mem_of_getElem? (i := 132) rfl) rfl
theorem wt_474 : Cond.methodLink RX6 131 yJ0_charAt_5068e ∈ mWT := mt_4 (List.mem_of_getElem? (i := 129) rfl) rfl
theorem wt_475 : Cond.instanceMethod yJ0_charAt_5068e ∈ mWT := mt_4 (List.mem_of_getElem? (i := 130) rfl) rfl
theorem wt_476 : Cond.selects "java/lang/String" yJ0_charAt_5068e yJ0_charAt_5068e ∈ mWT := mt_4 (List.mem_of_getElem? (i := 131) rfl) rfl
theorem wt_477 : Cond.code yJ0_isLatin1_aae02 cJ0_isLatin1_aae02 1 (some .boolean) ∈ mWT := mt_4 (List.mem_of_getElem? (i := 136) rfl) rfl
theorem wt_478 : Cond.methodLink RJ0 492 yJ0_isLatin1_aae02 ∈ mWT := mt_4 (List.mem_of_getElem? (i := 133) rfl) rfl
theorem wt_479 : Cond.instanceMethod yJ0_isLatin1_aae02 ∈ mWT := mt_4 (List.mem_of_getElem? (i := 134) rfl) rfl
theorem wt_480 : Cond.selects "java/lang/String" yJ0_isLatin1_aae02 yJ0_isLatin1_aae02 ∈ mWT := mt_4 (List.mem_of_getElem? (i := 135) rfl) rfl
theorem wt_481 : Cond.code yJ1_charAt_3b067 cJ1_charAt_3b067 2 (some .char) ∈ mWT := mt_4 (List.mem_of_getElem? (i := 139) rfl) rfl
theorem wt_482 : Cond.methodLink RJ0 495 yJ1_charAt_3b067 ∈ mWT := mt_4 (List.mem_of_getElem? (i := 137) rfl) rfl
theorem wt_483 : Cond.static yJ1_charAt_3b067 ∈ mWT := mt_4 (List.mem_of_getElem? (i := 138) rfl) rfl
theorem wt_484 : Cond.initialized RJ1 ∈ mWT := mt_1 (List.mem_of_getElem? (i := 17) rfl) rfl
theorem wt_485 : Cond.code yJ0_checkIndex_df160 cJ0_checkIndex_df160 2 none ∈ mWT := mt_4 (List.mem_of_getElem? (i := 142) rfl) rfl
theorem wt_486 : Cond.methodLink RJ1 9 yJ0_checkIndex_df160 ∈ mWT := mt_4 (List.mem_of_getElem? (i := 140) rfl) rfl
theorem wt_487 : Cond.static yJ0_checkIndex_df160 ∈ mWT := mt_4 (List.mem_of_getElem? (i := 141) rfl) rfl
theorem wt_488 : Cond.initialized RJ0 ∈ mWT := mt_1 (List.mem_of_getElem? (i := 16) rfl) rfl
theorem wt_489 : Cond.fieldLink RJ0 1053 "jdk/internal/util/Preconditions" "SIOOBE_FORMATTER" "Ljava/util/function/BiFunction;" ∈ mWT := mt_4 (List.mem_of_getElem? (i := 143) rfl) rfl
theorem wt_490 : Cond.code yJ3_checkIndex_8e157 cJ3_checkIndex_8e157 3 (some .int) ∈ mWT := mt_4 (List.mem_of_getElem? (i := 147) rfl) rfl
theorem wt_491 : Cond.methodLink RJ0 1059 yJ3_checkIndex_8e157 ∈ mWT := mt_4 (List.mem_of_getElem? (i := 145) rfl) rfl
theorem wt_492 : Cond.static yJ3_checkIndex_8e157 ∈ mWT := mt_4 (List.mem_of_getElem? (i := 146) rfl) rfl
theorem wt_493 : Cond.initialized RJ3 ∈ mWT := mt_1 (List.mem_of_getElem? (i := 18) rfl) rfl
theorem wt_494 : Cond.fieldLink RX6 36 "RoundsPerHour$Tape" "sort" "I" ∈ mWT := mt_2 (List.mem_of_getElem? (i := 66) rfl) rfl
theorem wt_495 : Cond.fieldLink RX6 23 "RoundsPerHour$Tape" "behind" "I" ∈ mWT := mt_2 (List.mem_of_getElem? (i := 68) rfl) rfl
theorem wt_496 : Cond.code yX6_kindTold cX6_kindTold 1 (some .int) ∈ mWT := mt_4 (List.mem_of_getElem? (i := 198) rfl) rfl
theorem wt_497 : Cond.methodLink RX6 58 yX6_kindTold ∈ mWT := mt_4 (List.mem_of_getElem? (i := 195) rfl) rfl
theorem wt_498 : Cond.instanceMethod yX6_kindTold ∈ mWT := mt_4 (List.mem_of_getElem? (i := 197) rfl) rfl
theorem wt_499 : Cond.selects RX6 yX6_kindTold yX6_kindTold ∈ mWT := mt_s (⟨"RoundsPerHour$Tape", "kindTold", "()I"⟩, 9) (ml_2 (List.mem_of_getElem? (i := 8) rfl)) rfl rfl
theorem wt_500 : Cond.code yX6_wayItem cX6_wayItem 5 (some .boolean) ∈ mWT := mt_4 (List.mem_of_getElem? (i := 208) rfl) rfl
theorem wt_501 : Cond.methodLink RX6 62 yX6_wayItem ∈ mWT := mt_4 (List.mem_of_getElem? (i := 205) rfl) rfl
theorem wt_502 : Cond.instanceMethod yX6_wayItem ∈ mWT := mt_4 (List.mem_of_getElem? (i := 207) rfl) rfl
theorem wt_503 : Cond.selects RX6 yX6_wayItem yX6_wayItem ∈ mWT := mt_s (⟨"RoundsPerHour$Tape", "wayItem", "(I)Z"⟩, 9) (ml_2 (List.mem_of_getElem? (i := 9) rfl)) rfl rfl
theorem wt_504 : Cond.fieldLink RX6 19 "RoundsPerHour$Tape" "land" "LRoundsPerHour$Country;" ∈ mWT := mt_2 (List.mem_of_getElem? (i := 65) rfl) rfl
theorem wt_505 : Cond.fieldLink RX6 95 "RoundsPerHour$Country" "ways" "I" ∈ mWT := mt_1 (List.mem_of_getElem? (i := 48) rfl) rfl
theorem wt_506 : Cond.code yX6_next cX6_next 1 none ∈ mWT := mt_4 (List.mem_of_getElem? (i := 95) rfl) rfl
theorem wt_507 : Cond.methodLink RX6 26 yX6_next ∈ mWT := mt_4 (List.mem_of_getElem? (i := 92) rfl) rfl
theorem wt_508 : Cond.instanceMethod yX6_next ∈ mWT := mt_4 (List.mem_of_getElem? (i := 94) rfl) rfl
theorem wt_509 : Cond.selects RX6 yX6_next yX6_next ∈ mWT := mt_s (⟨"RoundsPerHour$Tape", "next", "()V"⟩, 9) (ml_1 (List.mem_of_getElem? (i := 15) rfl)) rfl rfl
theorem wt_510 : Cond.code yX6_isLetter cX6_isLetter 1 (some .boolean) ∈ mWT := mt_4 (List.mem_of_getElem? (i := 98) rfl) rfl
theorem wt_511 : Cond.methodLink RX6 135 yX6_isLetter ∈ mWT := mt_4 (List.mem_of_getElem? (i := 96) rfl) rfl
theorem wt_512 : Cond.static yX6_isLetter ∈ mWT := mt_4 (List.mem_of_getElem? (i := 97) rfl) rfl
theorem wt_513 : Cond.code yX6_isDigit cX6_isDigit 1 (some .boolean) ∈ mWT := mt_4 (List.mem_of_getElem? (i := 101) rfl) rfl
theorem wt_514 : Cond.methodLink RX6 138 yX6_isDigit ∈ mWT := mt_4 (List.mem_of_getElem? (i := 99) rfl) rfl
theorem wt_515 : Cond.static yX6_isDigit ∈ mWT := mt_4 (List.mem_of_getElem? (i := 100) rfl) rfl
theorem wt_516 : Cond.code yX6_takeDigits cX6_takeDigits 1 none ∈ mWT := mt_4 (List.mem_of_getElem? (i := 105) rfl) rfl
theorem wt_517 : Cond.methodLink RX6 141 yX6_takeDigits ∈ mWT := mt_4 (List.mem_of_getElem? (i := 102) rfl) rfl
theorem wt_518 : Cond.instanceMethod yX6_takeDigits ∈ mWT := mt_4 (List.mem_of_getElem? (i := 104) rfl) rfl
theorem wt_519 : Cond.selects RX6 yX6_takeDigits yX6_takeDigits ∈ mWT := mt_s (⟨"RoundsPerHour$Tape", "takeDigits", "()V"⟩, 9) (ml_2 (List.mem_of_getElem? (i := 0) rfl)) rfl rfl
theorem wt_520 : Cond.fieldLink RX6 74 "RoundsPerHour$Tape" "number" "I" ∈ mWT := mt_2 (List.mem_of_getElem? (i := 69) rfl) rfl
theorem wt_521 : Cond.constant RX6 144 (1000000) ∈ mWT := mt_4 (List.mem_of_getElem? (i := 106) rfl) rfl
theorem wt_522 : Cond.methodLink RX6 145 Lib.Math.min.name ∈ mWT := mt_4 (List.mem_of_getElem? (i := 107) rfl) rfl
theorem wt_523 : Cond.static Lib.Math.min.name ∈ mWT := mt_4 (List.mem_of_getElem? (i := 108) rfl) rfl
theorem wt_524 : Cond.code Lib.Math.min.name Lib.Math.min.code 2 (some .int) ∈ mWT := mt_4 (List.mem_of_getElem? (i := 109) rfl) rfl
theorem wt_525 : Cond.fieldLink RX6 66 "RoundsPerHour$Country" "places" "I" ∈ mWT := mt_1 (List.mem_of_getElem? (i := 39) rfl) rfl
theorem wt_526 : Cond.code yX6_isNumber cX6_isNumber 3 (some .boolean) ∈ mWT := mt_4 (List.mem_of_getElem? (i := 174) rfl) rfl
theorem wt_527 : Cond.methodLink RX6 70 yX6_isNumber ∈ mWT := mt_4 (List.mem_of_getElem? (i := 171) rfl) rfl
theorem wt_528 : Cond.instanceMethod yX6_isNumber ∈ mWT := mt_4 (List.mem_of_getElem? (i := 173) rfl) rfl
theorem wt_529 : Cond.selects RX6 yX6_isNumber yX6_isNumber ∈ mWT := mt_s (⟨"RoundsPerHour$Tape", "isNumber", "(II)Z"⟩, 9) (ml_2 (List.mem_of_getElem? (i := 4) rfl)) rfl rfl
theorem wt_530 : Cond.code yX6_gainAndTime cX6_gainAndTime 2 (some .boolean) ∈ mWT := mt_4 (List.mem_of_getElem? (i := 189) rfl) rfl
theorem wt_531 : Cond.methodLink RX6 82 yX6_gainAndTime ∈ mWT := mt_4 (List.mem_of_getElem? (i := 186) rfl) rfl
theorem wt_532 : Cond.instanceMethod yX6_gainAndTime ∈ mWT := mt_4 (List.mem_of_getElem? (i := 188) rfl) rfl
theorem wt_533 : Cond.selects RX6 yX6_gainAndTime yX6_gainAndTime ∈ mWT := mt_s (⟨"RoundsPerHour$Tape", "gainAndTime", "()Z"⟩, 9) (ml_2 (List.mem_of_getElem? (i := 7) rfl)) rfl rfl
theorem wt_534 : Cond.constant RX6 109 (999999) ∈ mWT := mt_4 (List.mem_of_getElem? (i := 192) rfl) rfl
theorem wt_535 : Cond.fieldLink RX6 88 "RoundsPerHour$Tape" "time" "I" ∈ mWT := mt_2 (List.mem_of_getElem? (i := 71) rfl) rfl
theorem wt_536 : Cond.fieldLink RX6 85 "RoundsPerHour$Tape" "gain" "I" ∈ mWT := mt_2 (List.mem_of_getElem? (i := 70) rfl) rfl
theorem wt_537 : Cond.methodLink RX6 98 yX1_newWay ∈ mWT := mt_4 (List.mem_of_getElem? (i := 209) rfl) rfl
theorem wt_538 : Cond.fieldLink RX6 104 "RoundsPerHour$Country" "shut" "[I" ∈ mWT := mt_1 (List.mem_of_getElem? (i := 72) rfl) rfl
theorem wt_539 : Cond.code yX6_thingItem cX6_thingItem 1 (some .boolean) ∈ mWT := mt_4 (List.mem_of_getElem? (i := 185) rfl) rfl
theorem wt_540 : Cond.methodLink RX6 55 yX6_thingItem ∈ mWT := mt_4 (List.mem_of_getElem? (i := 182) rfl) rfl
theorem wt_541 : Cond.instanceMethod yX6_thingItem ∈ mWT := mt_4 (List.mem_of_getElem? (i := 184) rfl) rfl
theorem wt_542 : Cond.selects RX6 yX6_thingItem yX6_thingItem ∈ mWT := mt_s (⟨"RoundsPerHour$Tape", "thingItem", "()Z"⟩, 9) (ml_2 (List.mem_of_getElem? (i := 6) rfl)) rfl rfl
theorem wt_543 : Cond.fieldLink RX6 79 "RoundsPerHour$Country" "things" "I" ∈ mWT := mt_1 (List.mem_of_getElem? (i := 75) rfl) rfl
theorem wt_544 : Cond.methodLink RX6 91 yX1_newThing ∈ mWT := mt_4 (List.mem_of_getElem? (i := 194) rfl) rfl
theorem wt_545 : Cond.code yX6_weatherItem cX6_weatherItem 1 (some .boolean) ∈ mWT := mt_4 (List.mem_of_getElem? (i := 180) rfl) rfl
theorem wt_546 : Cond.methodLink RX6 50 yX6_weatherItem ∈ mWT := mt_4 (List.mem_of_getElem? (i := 177) rfl) rfl
theorem wt_547 : Cond.instanceMethod yX6_weatherItem ∈ mWT := mt_4 (List.mem_of_getElem? (i := 179) rfl) rfl
theorem wt_548 : Cond.selects RX6 yX6_weatherItem yX6_weatherItem ∈ mWT := mt_s (⟨"RoundsPerHour$Tape", "weatherItem", "()Z"⟩, 9) (ml_2 (List.mem_of_getElem? (i := 5) rfl)) rfl rfl
theorem wt_549 : Cond.fieldLink RX6 77 "RoundsPerHour$Country" "weather" "I" ∈ mWT := mt_1 (List.mem_of_getElem? (i := 41) rfl) rfl
theorem wt_550 : Cond.code yX6_placesItem cX6_placesItem 1 (some .boolean) ∈ mWT := mt_4 (List.mem_of_getElem? (i := 170) rfl) rfl
theorem wt_551 : Cond.methodLink RX6 45 yX6_placesItem ∈ mWT := mt_4 (List.mem_of_getElem? (i := 167) rfl) rfl
theorem wt_552 : Cond.instanceMethod yX6_placesItem ∈ mWT := mt_4 (List.mem_of_getElem? (i := 169) rfl) rfl
theorem wt_553 : Cond.selects RX6 yX6_placesItem yX6_placesItem ∈ mWT := mt_s (⟨"RoundsPerHour$Tape", "placesItem", "()Z"⟩, 9) (ml_2 (List.mem_of_getElem? (i := 3) rfl)) rfl rfl
theorem wt_554 : Cond.code yX5_begin cX5_begin 4 none ∈ mWT := mt_4 (List.mem_of_getElem? (i := 219) rfl) rfl
theorem wt_555 : Cond.methodLink RX9 332 yX5_begin ∈ mWT := mt_4 (List.mem_of_getElem? (i := 216) rfl) rfl
theorem wt_556 : Cond.instanceMethod yX5_begin ∈ mWT := mt_4 (List.mem_of_getElem? (i := 217) rfl) rfl
theorem wt_557 : Cond.selects RX5 yX5_begin yX5_begin ∈ mWT := mt_4 (List.mem_of_getElem? (i := 218) rfl) rfl
theorem wt_558 : Cond.fieldLink RX9 336 "RoundsPerHour$Sheet" "size" "I" ∈ mWT := mt_2 (List.mem_of_getElem? (i := 101) rfl) rfl
theorem wt_559 : Cond.code yX9_numberFault cX9_numberFault 4 (some .int) ∈ mWT := mt_4 (List.mem_of_getElem? (i := 227) rfl) rfl
theorem wt_560 : Cond.methodLink RX9 337 yX9_numberFault ∈ mWT := mt_4 (List.mem_of_getElem? (i := 224) rfl) rfl
theorem wt_561 : Cond.instanceMethod yX9_numberFault ∈ mWT := mt_4 (List.mem_of_getElem? (i := 226) rfl) rfl
theorem wt_562 : Cond.selects RX9 yX9_numberFault yX9_numberFault ∈ mWT := mt_s (⟨"RoundsPerHour", "numberFault", "(II)I"⟩, 12) (ml_2 (List.mem_of_getElem? (i := 10) rfl)) rfl rfl
theorem wt_563 : Cond.code yX5_hasRun cX5_hasRun 3 (some .boolean) ∈ mWT := mt_4 (List.mem_of_getElem? (i := 239) rfl) rfl
theorem wt_564 : Cond.methodLink RX9 343 yX5_hasRun ∈ mWT := mt_4 (List.mem_of_getElem? (i := 236) rfl) rfl
theorem wt_565 : Cond.instanceMethod yX5_hasRun ∈ mWT := mt_4 (List.mem_of_getElem? (i := 237) rfl) rfl
theorem wt_566 : Cond.selects RX5 yX5_hasRun yX5_hasRun ∈ mWT := mt_4 (List.mem_of_getElem? (i := 238) rfl) rfl
theorem wt_567 : Cond.methodLink RX9 346 arraycopyName ∈ mWT := mt_5 (List.mem_of_getElem? (i := 0) rfl) rfl
theorem wt_568 : Cond.methodLink RX9 352 Lib.Math.min.name ∈ mWT := mt_5 (List.mem_of_getElem? (i := 5) rfl) rfl
theorem wt_569 : Cond.fieldLink RX9 16 "RoundsPerHour" "kept" "LRoundsPerHour$Country;" ∈ mWT := mt_2 (List.mem_of_getElem? (i := 112) rfl) rfl
theorem wt_570 : Cond.fieldLink RX9 354 "RoundsPerHour" "isKept" "Z" ∈ mWT := mt_2 (List.mem_of_getElem? (i := 114) rfl) rfl
theorem wt_571 : Cond.code yX1_shutWays cX1_shutWays 3 (some .int) ∈ mWT := mt_5 (List.mem_of_getElem? (i := 25) rfl) rfl
theorem wt_572 : Cond.methodLink RX9 358 yX1_shutWays ∈ mWT := mt_5 (List.mem_of_getElem? (i := 22) rfl) rfl
theorem wt_573 : Cond.instanceMethod yX1_shutWays ∈ mWT := mt_5 (List.mem_of_getElem? (i := 23) rfl) rfl
theorem wt_574 : Cond.selects RX1 yX1_shutWays yX1_shutWays ∈ mWT := mt_5 (List.mem_of_getElem? (i := 24) rfl) rfl
theorem wt_575 : Cond.fieldLink RX10 61 "RoundsPerHourModel" "ways" "I" ∈ mWT := mt_5 (List.mem_of_getElem? (i := 39) rfl) rfl
theorem wt_576 : Cond.fieldLink RX10 15 "RoundsPerHourModel" "places" "I" ∈ mWT := mt_5 (List.mem_of_getElem? (i := 37) rfl) rfl
theorem wt_577 : Cond.code yX10_at cX10_at 3 (some .int) ∈ mWT := mt_5 (List.mem_of_getElem? (i := 163) rfl) rfl
theorem wt_578 : Cond.methodLink RX10 70 yX10_at ∈ mWT := mt_5 (List.mem_of_getElem? (i := 160) rfl) rfl
theorem wt_579 : Cond.instanceMethod yX10_at ∈ mWT := mt_5 (List.mem_of_getElem? (i := 162) rfl) rfl
theorem wt_580 : Cond.selects RX10 yX10_at yX10_at ∈ mWT := mt_s (⟨"RoundsPerHourModel", "at", "(II)I"⟩, 36) (ml_2 (List.mem_of_getElem? (i := 12) rfl)) rfl rfl
theorem wt_581 : Cond.initialized RX10 ∈ mWT := mt_1 (List.mem_of_getElem? (i := 11) rfl) rfl
theorem wt_582 : Cond.fieldLink RX10 19 "RoundsPerHourModel" "way" "[I" ∈ mWT := mt_5 (List.mem_of_getElem? (i := 40) rfl) rfl
theorem wt_583 : Cond.code yX10_finds cX10_finds 2 (some .int) ∈ mWT := mt_5 (List.mem_of_getElem? (i := 158) rfl) rfl
theorem wt_584 : Cond.methodLink RX10 81 yX10_finds ∈ mWT := mt_5 (List.mem_of_getElem? (i := 155) rfl) rfl
theorem wt_585 : Cond.instanceMethod yX10_finds ∈ mWT := mt_5 (List.mem_of_getElem? (i := 157) rfl) rfl
theorem wt_586 : Cond.selects RX10 yX10_finds yX10_finds ∈ mWT := mt_s (⟨"RoundsPerHourModel", "finds", "(I)I"⟩, 36) (ml_2 (List.mem_of_getElem? (i := 11) rfl)) rfl rfl
theorem wt_587 : Cond.fieldLink RX10 9 "RoundsPerHourModel" "found" "[I" ∈ mWT := mt_5 (List.mem_of_getElem? (i := 36) rfl) rfl
theorem wt_588 : Cond.constant RX10 54 (-2000000001) ∈ mWT := mt_5 (List.mem_of_getElem? (i := 159) rfl) rfl
theorem wt_589 : Cond.constantLong RX10 77 (2) ∈ mWT := mt_5 (List.mem_of_getElem? (i := 150) rfl) rfl
theorem wt_590 : Cond.constantLong RX10 79 (6) ∈ mWT := mt_5 (List.mem_of_getElem? (i := 151) rfl) rfl
theorem wt_591 : Cond.code yX10_in cX10_in 6 (some .boolean) ∈ mWT := mt_5 (List.mem_of_getElem? (i := 154) rfl) rfl
theorem wt_592 : Cond.methodLink RX10 57 yX10_in ∈ mWT := mt_5 (List.mem_of_getElem? (i := 152) rfl) rfl
theorem wt_593 : Cond.static yX10_in ∈ mWT := mt_5 (List.mem_of_getElem? (i := 153) rfl) rfl
theorem wt_594 : Cond.constantLong RX10 85 (5) ∈ mWT := mt_5 (List.mem_of_getElem? (i := 168) rfl) rfl
theorem wt_595 : Cond.fieldLink RX10 74 "RoundsPerHourModel" "weather" "I" ∈ mWT := mt_5 (List.mem_of_getElem? (i := 38) rfl) rfl
theorem wt_596 : Cond.code yX10_isPlace cX10_isPlace 2 (some .boolean) ∈ mWT := mt_5 (List.mem_of_getElem? (i := 176) rfl) rfl
theorem wt_597 : Cond.methodLink RX10 87 yX10_isPlace ∈ mWT := mt_5 (List.mem_of_getElem? (i := 173) rfl) rfl
theorem wt_598 : Cond.instanceMethod yX10_isPlace ∈ mWT := mt_5 (List.mem_of_getElem? (i := 175) rfl) rfl
theorem wt_599 : Cond.selects RX10 yX10_isPlace yX10_isPlace ∈ mWT := mt_s (⟨"RoundsPerHourModel", "isPlace", "(I)Z"⟩, 36) (ml_2 (List.mem_of_getElem? (i := 13) rfl)) rfl rfl
theorem wt_600 : Cond.code yX10_isGain cX10_isGain 2 (some .boolean) ∈ mWT := mt_5 (List.mem_of_getElem? (i := 179) rfl) rfl
theorem wt_601 : Cond.methodLink RX10 91 yX10_isGain ∈ mWT := mt_5 (List.mem_of_getElem? (i := 177) rfl) rfl
theorem wt_602 : Cond.static yX10_isGain ∈ mWT := mt_5 (List.mem_of_getElem? (i := 178) rfl) rfl
theorem wt_603 : Cond.constantLong RX10 64 (-999999999) ∈ mWT := mt_5 (List.mem_of_getElem? (i := 180) rfl) rfl
theorem wt_604 : Cond.constantLong RX10 66 (999999999) ∈ mWT := mt_5 (List.mem_of_getElem? (i := 181) rfl) rfl
theorem wt_605 : Cond.code yX10_isTime cX10_isTime 1 (some .boolean) ∈ mWT := mt_5 (List.mem_of_getElem? (i := 184) rfl) rfl
theorem wt_606 : Cond.methodLink RX10 95 yX10_isTime ∈ mWT := mt_5 (List.mem_of_getElem? (i := 182) rfl) rfl
theorem wt_607 : Cond.static yX10_isTime ∈ mWT := mt_5 (List.mem_of_getElem? (i := 183) rfl) rfl
theorem wt_608 : Cond.constantLong RX10 68 (999999) ∈ mWT := mt_5 (List.mem_of_getElem? (i := 185) rfl) rfl
theorem wt_609 : Cond.code yX10_addWay cX10_addWay 7 none ∈ mWT := mt_5 (List.mem_of_getElem? (i := 189) rfl) rfl
theorem wt_610 : Cond.methodLink RX10 98 yX10_addWay ∈ mWT := mt_5 (List.mem_of_getElem? (i := 186) rfl) rfl
theorem wt_611 : Cond.instanceMethod yX10_addWay ∈ mWT := mt_5 (List.mem_of_getElem? (i := 188) rfl) rfl
theorem wt_612 : Cond.selects RX10 yX10_addWay yX10_addWay ∈ mWT := mt_s (⟨"RoundsPerHourModel", "addWay", "(IIIII)V"⟩, 36) (ml_2 (List.mem_of_getElem? (i := 14) rfl)) rfl rfl
theorem wt_613 : Cond.code yX10_isWay cX10_isWay 2 (some .boolean) ∈ mWT := mt_5 (List.mem_of_getElem? (i := 197) rfl) rfl
theorem wt_614 : Cond.methodLink RX10 102 yX10_isWay ∈ mWT := mt_5 (List.mem_of_getElem? (i := 194) rfl) rfl
theorem wt_615 : Cond.instanceMethod yX10_isWay ∈ mWT := mt_5 (List.mem_of_getElem? (i := 196) rfl) rfl
theorem wt_616 : Cond.selects RX10 yX10_isWay yX10_isWay ∈ mWT := mt_s (⟨"RoundsPerHourModel", "isWay", "(I)Z"⟩, 36) (ml_2 (List.mem_of_getElem? (i := 15) rfl)) rfl rfl
theorem wt_617 : Cond.constantLong RX10 105 (7) ∈ mWT := mt_5 (List.mem_of_getElem? (i := 198) rfl) rfl
theorem wt_618 : Cond.code yX10_lasts cX10_lasts 3 (some .int) ∈ mWT := mt_5 (List.mem_of_getElem? (i := 206) rfl) rfl
theorem wt_619 : Cond.methodLink RX10 110 yX10_lasts ∈ mWT := mt_5 (List.mem_of_getElem? (i := 203) rfl) rfl
theorem wt_620 : Cond.instanceMethod yX10_lasts ∈ mWT := mt_5 (List.mem_of_getElem? (i := 205) rfl) rfl
theorem wt_621 : Cond.selects RX10 yX10_lasts yX10_lasts ∈ mWT := mt_s (⟨"RoundsPerHourModel", "lasts", "(I)I"⟩, 36) (ml_3 (List.mem_of_getElem? (i := 1) rfl)) rfl rfl
theorem wt_622 : Cond.code yX10_brings cX10_brings 3 (some .int) ∈ mWT := mt_5 (List.mem_of_getElem? (i := 202) rfl) rfl
theorem wt_623 : Cond.methodLink RX10 107 yX10_brings ∈ mWT := mt_5 (List.mem_of_getElem? (i := 199) rfl) rfl
theorem wt_624 : Cond.instanceMethod yX10_brings ∈ mWT := mt_5 (List.mem_of_getElem? (i := 201) rfl) rfl
theorem wt_625 : Cond.selects RX10 yX10_brings yX10_brings ∈ mWT := mt_s (⟨"RoundsPerHourModel", "brings", "(I)I"⟩, 36) (ml_3 (List.mem_of_getElem? (i := 0) rfl)) rfl rfl
theorem wt_626 : Cond.code yX10_mayBe cX10_mayBe 4 (some .boolean) ∈ mWT := mt_5 (List.mem_of_getElem? (i := 214) rfl) rfl
theorem wt_627 : Cond.methodLink RX10 113 yX10_mayBe ∈ mWT := mt_5 (List.mem_of_getElem? (i := 211) rfl) rfl
theorem wt_628 : Cond.instanceMethod yX10_mayBe ∈ mWT := mt_5 (List.mem_of_getElem? (i := 213) rfl) rfl
theorem wt_629 : Cond.selects RX10 yX10_mayBe yX10_mayBe ∈ mWT := mt_s (⟨"RoundsPerHourModel", "mayBe", "(III)Z"⟩, 36) (ml_3 (List.mem_of_getElem? (i := 2) rfl)) rfl rfl
theorem wt_630 : Cond.fieldLink RX10 117 "RoundsPerHourModel" "things" "I" ∈ mWT := mt_5 (List.mem_of_getElem? (i := 41) rfl) rfl
theorem wt_631 : Cond.fieldLink RX10 22 "RoundsPerHourModel" "thing" "[I" ∈ mWT := mt_5 (List.mem_of_getElem? (i := 42) rfl) rfl
theorem wt_632 : Cond.fieldLink RX10 25 "RoundsPerHourModel" "base" "[I" ∈ mWT := mt_5 (List.mem_of_getElem? (i := 43) rfl) rfl
theorem wt_633 : Cond.code yX10_isThing cX10_isThing 2 (some .boolean) ∈ mWT := mt_5 (List.mem_of_getElem? (i := 230) rfl) rfl
theorem wt_634 : Cond.methodLink RX10 122 yX10_isThing ∈ mWT := mt_5 (List.mem_of_getElem? (i := 227) rfl) rfl
theorem wt_635 : Cond.instanceMethod yX10_isThing ∈ mWT := mt_5 (List.mem_of_getElem? (i := 229) rfl) rfl
theorem wt_636 : Cond.selects RX10 yX10_isThing yX10_isThing ∈ mWT := mt_s (⟨"RoundsPerHourModel", "isThing", "(I)Z"⟩, 36) (ml_3 (List.mem_of_getElem? (i := 3) rfl)) rfl rfl
theorem wt_637 : Cond.constantLong RX10 120 (-1) ∈ mWT := mt_5 (List.mem_of_getElem? (i := 231) rfl) rfl
theorem wt_638 : Cond.code yX10_ringsNow cX10_ringsNow 1 (some .boolean) ∈ mWT := mt_6 (List.mem_of_getElem? (i := 8) rfl) rfl
theorem wt_639 : Cond.methodLink RX10 169 yX10_ringsNow ∈ mWT := mt_6 (List.mem_of_getElem? (i := 5) rfl) rfl
theorem wt_640 : Cond.instanceMethod yX10_ringsNow ∈ mWT := mt_6 (List.mem_of_getElem? (i := 7) rfl) rfl
theorem wt_641 : Cond.selects RX10 yX10_ringsNow yX10_ringsNow ∈ mWT := mt_s (⟨"RoundsPerHourModel", "ringsNow", "()Z"⟩, 36) (ml_3 (List.mem_of_getElem? (i := 5) rfl)) rfl rfl
theorem wt_642 : Cond.code yX10_openWays cX10_openWays 3 (some .int) ∈ mWT := mt_6 (List.mem_of_getElem? (i := 12) rfl) rfl
theorem wt_643 : Cond.methodLink RX10 157 yX10_openWays ∈ mWT := mt_6 (List.mem_of_getElem? (i := 9) rfl) rfl
theorem wt_644 : Cond.instanceMethod yX10_openWays ∈ mWT := mt_6 (List.mem_of_getElem? (i := 11) rfl) rfl
theorem wt_645 : Cond.selects RX10 yX10_openWays yX10_openWays ∈ mWT := mt_s (⟨"RoundsPerHourModel", "openWays", "()I"⟩, 36) (ml_3 (List.mem_of_getElem? (i := 6) rfl)) rfl rfl
theorem wt_646 : Cond.code yX10_rings cX10_rings 4 (some .boolean) ∈ mWT := mt_6 (List.mem_of_getElem? (i := 16) rfl) rfl
theorem wt_647 : Cond.methodLink RX10 161 yX10_rings ∈ mWT := mt_6 (List.mem_of_getElem? (i := 13) rfl) rfl
theorem wt_648 : Cond.instanceMethod yX10_rings ∈ mWT := mt_6 (List.mem_of_getElem? (i := 15) rfl) rfl
theorem wt_649 : Cond.selects RX10 yX10_rings yX10_rings ∈ mWT := mt_s (⟨"RoundsPerHourModel", "rings", "(II)Z"⟩, 36) (ml_3 (List.mem_of_getElem? (i := 7) rfl)) rfl rfl
theorem wt_650 : Cond.fieldLink RX10 132 "RoundsPerHourModel" "isAny" "Z" ∈ mWT := mt_5 (List.mem_of_getElem? (i := 46) rfl) rfl
theorem wt_651 : Cond.code yX10_goesRound cX10_goesRound 15 none ∈ mWT := mt_6 (List.mem_of_getElem? (i := 20) rfl) rfl
theorem wt_652 : Cond.methodLink RX10 153 yX10_goesRound ∈ mWT := mt_6 (List.mem_of_getElem? (i := 17) rfl) rfl
theorem wt_653 : Cond.instanceMethod yX10_goesRound ∈ mWT := mt_6 (List.mem_of_getElem? (i := 19) rfl) rfl
theorem wt_654 : Cond.selects RX10 yX10_goesRound yX10_goesRound ∈ mWT := mt_s (⟨"RoundsPerHourModel", "goesRound", "(IIIIJJ)V"⟩, 36) (ml_3 (List.mem_of_getElem? (i := 8) rfl)) rfl rfl
theorem wt_655 : Cond.fieldLink RX10 146 "RoundsPerHourModel" "open" "I" ∈ mWT := mt_5 (List.mem_of_getElem? (i := 44) rfl) rfl
theorem wt_656 : Cond.code yX10_closes cX10_closes 8 none ∈ mWT := mt_6 (List.mem_of_getElem? (i := 24) rfl) rfl
theorem wt_657 : Cond.methodLink RX10 149 yX10_closes ∈ mWT := mt_6 (List.mem_of_getElem? (i := 21) rfl) rfl
theorem wt_658 : Cond.instanceMethod yX10_closes ∈ mWT := mt_6 (List.mem_of_getElem? (i := 23) rfl) rfl
theorem wt_659 : Cond.selects RX10 yX10_closes yX10_closes ∈ mWT := mt_s (⟨"RoundsPerHourModel", "closes", "(IJJ)V"⟩, 36) (ml_3 (List.mem_of_getElem? (i := 9) rfl)) rfl rfl
theorem wt_660 : Cond.fieldLink RX10 143 "RoundsPerHourModel" "topWays" "I" ∈ mWT := mt_5 (List.mem_of_getElem? (i := 49) rfl) rfl
theorem wt_661 : Cond.fieldLink RX10 140 "RoundsPerHourModel" "topAbove" "J" ∈ mWT := mt_5 (List.mem_of_getElem? (i := 47) rfl) rfl
theorem wt_662 : Cond.fieldLink RX10 136 "RoundsPerHourModel" "topBelow" "J" ∈ mWT := mt_5 (List.mem_of_getElem? (i := 48) rfl) rfl
theorem wt_663 : Cond.fieldLink RX10 129 "RoundsPerHourModel" "must" "I" ∈ mWT := mt_5 (List.mem_of_getElem? (i := 45) rfl) rfl
theorem wt_664 : Cond.code yX10_farFinds cX10_farFinds 2 (some .long) ∈ mWT := mt_6 (List.mem_of_getElem? (i := 3) rfl) rfl
theorem wt_665 : Cond.methodLink RX10 165 yX10_farFinds ∈ mWT := mt_6 (List.mem_of_getElem? (i := 0) rfl) rfl
theorem wt_666 : Cond.instanceMethod yX10_farFinds ∈ mWT := mt_6 (List.mem_of_getElem? (i := 2) rfl) rfl
theorem wt_667 : Cond.selects RX10 yX10_farFinds yX10_farFinds ∈ mWT := mt_s (⟨"RoundsPerHourModel", "farFinds", "(I)J"⟩, 36) (ml_3 (List.mem_of_getElem? (i := 4) rfl)) rfl rfl
theorem wt_668 : Cond.constantLong RX10 55 (-4000000000000000001) ∈ mWT := mt_6 (List.mem_of_getElem? (i := 4) rfl) rfl
theorem wt_669 : Cond.code yX10_lowest cX10_lowest 7 (some .long) ∈ mWT := mt_6 (List.mem_of_getElem? (i := 27) rfl) rfl
theorem wt_670 : Cond.methodLink RX10 173 yX10_lowest ∈ mWT := mt_6 (List.mem_of_getElem? (i := 25) rfl) rfl
theorem wt_671 : Cond.static yX10_lowest ∈ mWT := mt_6 (List.mem_of_getElem? (i := 26) rfl) rfl
theorem wt_672 : Cond.code yX10_common cX10_common 10 (some .long) ∈ mWT := mt_6 (List.mem_of_getElem? (i := 30) rfl) rfl
theorem wt_673 : Cond.methodLink RX10 125 yX10_common ∈ mWT := mt_6 (List.mem_of_getElem? (i := 28) rfl) rfl
theorem wt_674 : Cond.static yX10_common ∈ mWT := mt_6 (List.mem_of_getElem? (i := 29) rfl) rfl
theorem wt_675 : Cond.fieldLink RX10 28 "RoundsPerHourModel" "lifted" "[J" ∈ mWT := mt_5 (List.mem_of_getElem? (i := 50) rfl) rfl
theorem wt_676 : Cond.constantLong RX10 177 (-9223372036854775808) ∈ mWT := mt_6 (List.mem_of_getElem? (i := 39) rfl) rfl
theorem wt_677 : Cond.code yX10_lifts cX10_lifts 11 (some .boolean) ∈ mWT := mt_6 (List.mem_of_getElem? (i := 43) rfl) rfl
theorem wt_678 : Cond.methodLink RX10 179 yX10_lifts ∈ mWT := mt_6 (List.mem_of_getElem? (i := 40) rfl) rfl
theorem wt_679 : Cond.instanceMethod yX10_lifts ∈ mWT := mt_6 (List.mem_of_getElem? (i := 42) rfl) rfl
theorem wt_680 : Cond.selects RX10 yX10_lifts yX10_lifts ∈ mWT := mt_s (⟨"RoundsPerHourModel", "lifts", "(JJ)Z"⟩, 36) (ml_3 (List.mem_of_getElem? (i := 10) rfl)) rfl rfl
theorem wt_681 : Cond.fieldLink RX10 183 "RoundsPerHourModel" "hasRoom" "Z" ∈ mWT := mt_5 (List.mem_of_getElem? (i := 51) rfl) rfl
theorem wt_682 : Cond.code yX10_product cX10_product 7 (some .long) ∈ mWT := mt_6 (List.mem_of_getElem? (i := 51) rfl) rfl
theorem wt_683 : Cond.methodLink RX10 186 yX10_product ∈ mWT := mt_6 (List.mem_of_getElem? (i := 48) rfl) rfl
theorem wt_684 : Cond.instanceMethod yX10_product ∈ mWT := mt_6 (List.mem_of_getElem? (i := 50) rfl) rfl
theorem wt_685 : Cond.selects RX10 yX10_product yX10_product ∈ mWT := mt_s (⟨"RoundsPerHourModel", "product", "(JJ)J"⟩, 36) (ml_3 (List.mem_of_getElem? (i := 11) rfl)) rfl rfl
theorem wt_686 : Cond.constantLong RX10 189 (-4000000000000000000) ∈ mWT := mt_6 (List.mem_of_getElem? (i := 52) rfl) rfl
theorem wt_687 : Cond.code yX10_raised cX10_raised 10 (some .int) ∈ mWT := mt_6 (List.mem_of_getElem? (i := 60) rfl) rfl
theorem wt_688 : Cond.methodLink RX10 197 yX10_raised ∈ mWT := mt_6 (List.mem_of_getElem? (i := 57) rfl) rfl
theorem wt_689 : Cond.instanceMethod yX10_raised ∈ mWT := mt_6 (List.mem_of_getElem? (i := 59) rfl) rfl
theorem wt_690 : Cond.selects RX10 yX10_raised yX10_raised ∈ mWT := mt_s (⟨"RoundsPerHourModel", "raised", "(I)I"⟩, 36) (ml_3 (List.mem_of_getElem? (i := 12) rfl)) rfl rfl
theorem wt_691 : Cond.code yX10_isRaised cX10_isRaised 8 (some .boolean) ∈ mWT := mt_6 (List.mem_of_getElem? (i := 66) rfl) rfl
theorem wt_692 : Cond.methodLink RX10 193 yX10_isRaised ∈ mWT := mt_6 (List.mem_of_getElem? (i := 63) rfl) rfl
theorem wt_693 : Cond.instanceMethod yX10_isRaised ∈ mWT := mt_6 (List.mem_of_getElem? (i := 65) rfl) rfl
theorem wt_694 : Cond.selects RX10 yX10_isRaised yX10_isRaised ∈ mWT := mt_s (⟨"RoundsPerHourModel", "isRaised", "(IIIJJ)Z"⟩, 36) (ml_3 (List.mem_of_getElem? (i := 13) rfl)) rfl rfl
theorem wt_695 : Cond.constant RX10 192 (999999999) ∈ mWT := mt_6 (List.mem_of_getElem? (i := 62) rfl) rfl
theorem wt_696 : Cond.constant RX10 191 (-999999999) ∈ mWT := mt_6 (List.mem_of_getElem? (i := 61) rfl) rfl
theorem wt_697 : Cond.constantLong RX10 253 (3) ∈ mWT := mt_6 (List.mem_of_getElem? (i := 83) rfl) rfl
theorem wt_698 : Cond.fieldLink RX10 212 "RoundsPerHourModel" "sort" "I" ∈ mWT := mt_5 (List.mem_of_getElem? (i := 52) rfl) rfl
theorem wt_699 : Cond.code yX10_told cX10_told 3 (some .long) ∈ mWT := mt_6 (List.mem_of_getElem? (i := 87) rfl) rfl
theorem wt_700 : Cond.methodLink RX10 255 yX10_told ∈ mWT := mt_6 (List.mem_of_getElem? (i := 84) rfl) rfl
theorem wt_701 : Cond.instanceMethod yX10_told ∈ mWT := mt_6 (List.mem_of_getElem? (i := 86) rfl) rfl
theorem wt_702 : Cond.selects RX10 yX10_told yX10_told ∈ mWT := mt_s (⟨"RoundsPerHourModel", "told", "(I)J"⟩, 36) (ml_3 (List.mem_of_getElem? (i := 14) rfl)) rfl rfl
theorem wt_703 : Cond.code yX10_leastChoice cX10_leastChoice 2 (some .int) ∈ mWT := mt_6 (List.mem_of_getElem? (i := 91) rfl) rfl
theorem wt_704 : Cond.methodLink RX10 246 yX10_leastChoice ∈ mWT := mt_6 (List.mem_of_getElem? (i := 88) rfl) rfl
theorem wt_705 : Cond.instanceMethod yX10_leastChoice ∈ mWT := mt_6 (List.mem_of_getElem? (i := 90) rfl) rfl
theorem wt_706 : Cond.selects RX10 yX10_leastChoice yX10_leastChoice ∈ mWT := mt_s (⟨"RoundsPerHourModel", "leastChoice", "()I"⟩, 36) (ml_3 (List.mem_of_getElem? (i := 15) rfl)) rfl rfl
theorem wt_707 : Cond.code yX10_allSets cX10_allSets 1 (some .int) ∈ mWT := mt_6 (List.mem_of_getElem? (i := 95) rfl) rfl
theorem wt_708 : Cond.methodLink RX10 227 yX10_allSets ∈ mWT := mt_6 (List.mem_of_getElem? (i := 92) rfl) rfl
theorem wt_709 : Cond.instanceMethod yX10_allSets ∈ mWT := mt_6 (List.mem_of_getElem? (i := 94) rfl) rfl
theorem wt_710 : Cond.selects RX10 yX10_allSets yX10_allSets ∈ mWT := mt_s (⟨"RoundsPerHourModel", "allSets", "()I"⟩, 36) (ml_4 (List.mem_of_getElem? (i := 0) rfl)) rfl rfl
theorem wt_711 : Cond.code yX10_isChoice cX10_isChoice 2 (some .boolean) ∈ mWT := mt_6 (List.mem_of_getElem? (i := 99) rfl) rfl
theorem wt_712 : Cond.methodLink RX10 230 yX10_isChoice ∈ mWT := mt_6 (List.mem_of_getElem? (i := 96) rfl) rfl
theorem wt_713 : Cond.instanceMethod yX10_isChoice ∈ mWT := mt_6 (List.mem_of_getElem? (i := 98) rfl) rfl
theorem wt_714 : Cond.selects RX10 yX10_isChoice yX10_isChoice ∈ mWT := mt_s (⟨"RoundsPerHourModel", "isChoice", "(I)Z"⟩, 36) (ml_4 (List.mem_of_getElem? (i := 1) rfl)) rfl rfl
theorem wt_715 : Cond.code yX10_rises cX10_rises 5 (some .boolean) ∈ mWT := mt_6 (List.mem_of_getElem? (i := 118) rfl) rfl
theorem wt_716 : Cond.methodLink RX10 224 yX10_rises ∈ mWT := mt_6 (List.mem_of_getElem? (i := 115) rfl) rfl
theorem wt_717 : Cond.instanceMethod yX10_rises ∈ mWT := mt_6 (List.mem_of_getElem? (i := 117) rfl) rfl
theorem wt_718 : Cond.selects RX10 yX10_rises yX10_rises ∈ mWT := mt_s (⟨"RoundsPerHourModel", "rises", "(I)Z"⟩, 36) (ml_4 (List.mem_of_getElem? (i := 5) rfl)) rfl rfl
theorem wt_719 : Cond.fieldLink RX10 209 "RoundsPerHourModel" "goesTo" "I" ∈ mWT := mt_5 (List.mem_of_getElem? (i := 54) rfl) rfl
theorem wt_720 : Cond.code yX10_wayFrom cX10_wayFrom 6 (some .int) ∈ mWT := mt_6 (List.mem_of_getElem? (i := 110) rfl) rfl
theorem wt_721 : Cond.methodLink RX10 200 yX10_wayFrom ∈ mWT := mt_6 (List.mem_of_getElem? (i := 107) rfl) rfl
theorem wt_722 : Cond.instanceMethod yX10_wayFrom ∈ mWT := mt_6 (List.mem_of_getElem? (i := 109) rfl) rfl
theorem wt_723 : Cond.selects RX10 yX10_wayFrom yX10_wayFrom ∈ mWT := mt_s (⟨"RoundsPerHourModel", "wayFrom", "(II)I"⟩, 36) (ml_4 (List.mem_of_getElem? (i := 3) rfl)) rfl rfl
theorem wt_724 : Cond.fieldLink RX10 206 "RoundsPerHourModel" "goesFrom" "I" ∈ mWT := mt_5 (List.mem_of_getElem? (i := 53) rfl) rfl
theorem wt_725 : Cond.code yX10_joinsAll cX10_joinsAll 6 (some .boolean) ∈ mWT := mt_6 (List.mem_of_getElem? (i := 114) rfl) rfl
theorem wt_726 : Cond.methodLink RX10 221 yX10_joinsAll ∈ mWT := mt_6 (List.mem_of_getElem? (i := 111) rfl) rfl
theorem wt_727 : Cond.instanceMethod yX10_joinsAll ∈ mWT := mt_6 (List.mem_of_getElem? (i := 113) rfl) rfl
theorem wt_728 : Cond.selects RX10 yX10_joinsAll yX10_joinsAll ∈ mWT := mt_s (⟨"RoundsPerHourModel", "joinsAll", "(I)Z"⟩, 36) (ml_4 (List.mem_of_getElem? (i := 4) rfl)) rfl rfl
theorem wt_729 : Cond.code yX10_bits cX10_bits 3 (some .int) ∈ mWT := mt_6 (List.mem_of_getElem? (i := 102) rfl) rfl
theorem wt_730 : Cond.methodLink RX10 203 yX10_bits ∈ mWT := mt_6 (List.mem_of_getElem? (i := 100) rfl) rfl
theorem wt_731 : Cond.static yX10_bits ∈ mWT := mt_6 (List.mem_of_getElem? (i := 101) rfl) rfl
theorem wt_732 : Cond.code yX10_isRound cX10_isRound 8 (some .boolean) ∈ mWT := mt_6 (List.mem_of_getElem? (i := 106) rfl) rfl
theorem wt_733 : Cond.methodLink RX10 218 yX10_isRound ∈ mWT := mt_6 (List.mem_of_getElem? (i := 103) rfl) rfl
theorem wt_734 : Cond.instanceMethod yX10_isRound ∈ mWT := mt_6 (List.mem_of_getElem? (i := 105) rfl) rfl
theorem wt_735 : Cond.selects RX10 yX10_isRound yX10_isRound ∈ mWT := mt_s (⟨"RoundsPerHourModel", "isRound", "(I)Z"⟩, 36) (ml_4 (List.mem_of_getElem? (i := 2) rfl)) rfl rfl
theorem wt_736 : Cond.fieldLink RX10 215 "RoundsPerHourModel" "many" "I" ∈ mWT := mt_5 (List.mem_of_getElem? (i := 55) rfl) rfl
theorem wt_737 : Cond.code yX10_climbed cX10_climbed 10 (some .long) ∈ mWT := mt_6 (List.mem_of_getElem? (i := 122) rfl) rfl
theorem wt_738 : Cond.methodLink RX10 249 yX10_climbed ∈ mWT := mt_6 (List.mem_of_getElem? (i := 119) rfl) rfl
theorem wt_739 : Cond.instanceMethod yX10_climbed ∈ mWT := mt_6 (List.mem_of_getElem? (i := 121) rfl) rfl
theorem wt_740 : Cond.selects RX10 yX10_climbed yX10_climbed ∈ mWT := mt_s (⟨"RoundsPerHourModel", "climbed", "(II)J"⟩, 36) (ml_4 (List.mem_of_getElem? (i := 6) rfl)) rfl rfl
theorem wt_741 : Cond.code yX10_aboveOf cX10_aboveOf 5 (some .long) ∈ mWT := mt_6 (List.mem_of_getElem? (i := 126) rfl) rfl
theorem wt_742 : Cond.methodLink RX10 233 yX10_aboveOf ∈ mWT := mt_6 (List.mem_of_getElem? (i := 123) rfl) rfl
theorem wt_743 : Cond.instanceMethod yX10_aboveOf ∈ mWT := mt_6 (List.mem_of_getElem? (i := 125) rfl) rfl
theorem wt_744 : Cond.selects RX10 yX10_aboveOf yX10_aboveOf ∈ mWT := mt_s (⟨"RoundsPerHourModel", "aboveOf", "(I)J"⟩, 36) (ml_4 (List.mem_of_getElem? (i := 7) rfl)) rfl rfl
theorem wt_745 : Cond.code yX10_belowOf cX10_belowOf 5 (some .long) ∈ mWT := mt_6 (List.mem_of_getElem? (i := 130) rfl) rfl
theorem wt_746 : Cond.methodLink RX10 236 yX10_belowOf ∈ mWT := mt_6 (List.mem_of_getElem? (i := 127) rfl) rfl
theorem wt_747 : Cond.instanceMethod yX10_belowOf ∈ mWT := mt_6 (List.mem_of_getElem? (i := 129) rfl) rfl
theorem wt_748 : Cond.selects RX10 yX10_belowOf yX10_belowOf ∈ mWT := mt_s (⟨"RoundsPerHourModel", "belowOf", "(I)J"⟩, 36) (ml_4 (List.mem_of_getElem? (i := 8) rfl)) rfl rfl
theorem wt_749 : Cond.code yX10_leastLike cX10_leastLike 6 (some .int) ∈ mWT := mt_6 (List.mem_of_getElem? (i := 138) rfl) rfl
theorem wt_750 : Cond.methodLink RX10 243 yX10_leastLike ∈ mWT := mt_6 (List.mem_of_getElem? (i := 135) rfl) rfl
theorem wt_751 : Cond.instanceMethod yX10_leastLike ∈ mWT := mt_6 (List.mem_of_getElem? (i := 137) rfl) rfl
theorem wt_752 : Cond.selects RX10 yX10_leastLike yX10_leastLike ∈ mWT := mt_s (⟨"RoundsPerHourModel", "leastLike", "(JJ)I"⟩, 36) (ml_4 (List.mem_of_getElem? (i := 10) rfl)) rfl rfl
theorem wt_753 : Cond.code yX10_nextChoice cX10_nextChoice 11 (some .int) ∈ mWT := mt_6 (List.mem_of_getElem? (i := 134) rfl) rfl
theorem wt_754 : Cond.methodLink RX10 239 yX10_nextChoice ∈ mWT := mt_6 (List.mem_of_getElem? (i := 131) rfl) rfl
theorem wt_755 : Cond.instanceMethod yX10_nextChoice ∈ mWT := mt_6 (List.mem_of_getElem? (i := 133) rfl) rfl
theorem wt_756 : Cond.selects RX10 yX10_nextChoice yX10_nextChoice ∈ mWT := mt_s (⟨"RoundsPerHourModel", "nextChoice", "(JJ)I"⟩, 36) (ml_4 (List.mem_of_getElem? (i := 9) rfl)) rfl rfl
theorem wt_757 : Cond.fieldLink RX10 38 "RoundsPerHourModel" "number" "[J" ∈ mWT := mt_5 (List.mem_of_getElem? (i := 58) rfl) rfl
theorem wt_758 : Cond.code yX10_wrong cX10_wrong 4 (some .int) ∈ mWT := mt_6 (List.mem_of_getElem? (i := 158) rfl) rfl
theorem wt_759 : Cond.methodLink RX10 261 yX10_wrong ∈ mWT := mt_6 (List.mem_of_getElem? (i := 155) rfl) rfl
theorem wt_760 : Cond.instanceMethod yX10_wrong ∈ mWT := mt_6 (List.mem_of_getElem? (i := 157) rfl) rfl
theorem wt_761 : Cond.selects RX10 yX10_wrong yX10_wrong ∈ mWT := mt_s (⟨"RoundsPerHourModel", "wrong", "(III)I"⟩, 36) (ml_4 (List.mem_of_getElem? (i := 11) rfl)) rfl rfl
theorem wt_762 : Cond.code yX10_isSheet cX10_isSheet 1 (some .boolean) ∈ mWT := mt_6 (List.mem_of_getElem? (i := 161) rfl) rfl
theorem wt_763 : Cond.methodLink RX10 258 yX10_isSheet ∈ mWT := mt_6 (List.mem_of_getElem? (i := 159) rfl) rfl
theorem wt_764 : Cond.static yX10_isSheet ∈ mWT := mt_6 (List.mem_of_getElem? (i := 160) rfl) rfl
theorem wt_765 : Cond.fieldLink RX10 32 "RoundsPerHourModel" "bitsOf" "[I" ∈ mWT := mt_5 (List.mem_of_getElem? (i := 56) rfl) rfl
theorem wt_766 : Cond.fieldLink RX10 35 "RoundsPerHourModel" "sizeOf" "[I" ∈ mWT := mt_5 (List.mem_of_getElem? (i := 57) rfl) rfl
theorem wt_767 : Cond.code yX10_narrow cX10_narrow 3 (some .long) ∈ mWT := mt_6 (List.mem_of_getElem? (i := 168) rfl) rfl
theorem wt_768 : Cond.methodLink RX10 265 yX10_narrow ∈ mWT := mt_6 (List.mem_of_getElem? (i := 166) rfl) rfl
theorem wt_769 : Cond.static yX10_narrow ∈ mWT := mt_6 (List.mem_of_getElem? (i := 167) rfl) rfl
theorem wt_770 : Cond.code yX10_sum cX10_sum 7 (some .long) ∈ mWT := mt_6 (List.mem_of_getElem? (i := 176) rfl) rfl
theorem wt_771 : Cond.methodLink RX10 269 yX10_sum ∈ mWT := mt_6 (List.mem_of_getElem? (i := 173) rfl) rfl
theorem wt_772 : Cond.instanceMethod yX10_sum ∈ mWT := mt_6 (List.mem_of_getElem? (i := 175) rfl) rfl
theorem wt_773 : Cond.selects RX10 yX10_sum yX10_sum ∈ mWT := mt_s (⟨"RoundsPerHourModel", "sum", "(JJ)J"⟩, 36) (ml_4 (List.mem_of_getElem? (i := 12) rfl)) rfl rfl
theorem wt_774 : Cond.fieldLink RX10 274 "RoundsPerHourModel" "taped" "I" ∈ mWT := mt_5 (List.mem_of_getElem? (i := 61) rfl) rfl
theorem wt_775 : Cond.fieldLink RX10 44 "RoundsPerHourModel" "tape" "[I" ∈ mWT := mt_5 (List.mem_of_getElem? (i := 60) rfl) rfl
theorem wt_776 : Cond.constantLong RX10 272 (4) ∈ mWT := mt_6 (List.mem_of_getElem? (i := 181) rfl) rfl
theorem wt_777 : Cond.fieldLink RX10 280 "RoundsPerHourModel" "began" "I" ∈ mWT := mt_5 (List.mem_of_getElem? (i := 63) rfl) rfl
theorem wt_778 : Cond.fieldLink RX10 286 "RoundsPerHourModel" "token" "I" ∈ mWT := mt_5 (List.mem_of_getElem? (i := 64) rfl) rfl
theorem wt_779 : Cond.code yX10_next cX10_next 3 none ∈ mWT := mt_6 (List.mem_of_getElem? (i := 193) rfl) rfl
theorem wt_780 : Cond.methodLink RX10 307 yX10_next ∈ mWT := mt_6 (List.mem_of_getElem? (i := 190) rfl) rfl
theorem wt_781 : Cond.instanceMethod yX10_next ∈ mWT := mt_6 (List.mem_of_getElem? (i := 192) rfl) rfl
theorem wt_782 : Cond.selects RX10 yX10_next yX10_next ∈ mWT := mt_s (⟨"RoundsPerHourModel", "next", "()V"⟩, 36) (ml_4 (List.mem_of_getElem? (i := 13) rfl)) rfl rfl
theorem wt_783 : Cond.code yX10_isWordFrom cX10_isWordFrom 4 (some .boolean) ∈ mWT := mt_6 (List.mem_of_getElem? (i := 203) rfl) rfl
theorem wt_784 : Cond.methodLink RX10 293 yX10_isWordFrom ∈ mWT := mt_6 (List.mem_of_getElem? (i := 200) rfl) rfl
theorem wt_785 : Cond.instanceMethod yX10_isWordFrom ∈ mWT := mt_6 (List.mem_of_getElem? (i := 202) rfl) rfl
theorem wt_786 : Cond.selects RX10 yX10_isWordFrom yX10_isWordFrom ∈ mWT := mt_s (⟨"RoundsPerHourModel", "isWordFrom", "(I)Z"⟩, 36) (ml_4 (List.mem_of_getElem? (i := 15) rfl)) rfl rfl
theorem wt_787 : Cond.fieldLink RX10 47 "RoundsPerHourModel" "words" "[C" ∈ mWT := mt_5 (List.mem_of_getElem? (i := 67) rfl) rfl
theorem wt_788 : Cond.fieldLink RX10 277 "RoundsPerHourModel" "read" "I" ∈ mWT := mt_5 (List.mem_of_getElem? (i := 62) rfl) rfl
theorem wt_789 : Cond.code yX10_byteAt cX10_byteAt 2 (some .int) ∈ mWT := mt_6 (List.mem_of_getElem? (i := 197) rfl) rfl
theorem wt_790 : Cond.methodLink RX10 283 yX10_byteAt ∈ mWT := mt_6 (List.mem_of_getElem? (i := 194) rfl) rfl
theorem wt_791 : Cond.instanceMethod yX10_byteAt ∈ mWT := mt_6 (List.mem_of_getElem? (i := 196) rfl) rfl
theorem wt_792 : Cond.selects RX10 yX10_byteAt yX10_byteAt ∈ mWT := mt_s (⟨"RoundsPerHourModel", "byteAt", "(I)I"⟩, 36) (ml_4 (List.mem_of_getElem? (i := 14) rfl)) rfl rfl
theorem wt_793 : Cond.constantLong RX10 289 (97) ∈ mWT := mt_6 (List.mem_of_getElem? (i := 198) rfl) rfl
theorem wt_794 : Cond.constantLong RX10 291 (122) ∈ mWT := mt_6 (List.mem_of_getElem? (i := 199) rfl) rfl
theorem wt_795 : Cond.fieldLink RX10 300 "RoundsPerHourModel" "value" "I" ∈ mWT := mt_5 (List.mem_of_getElem? (i := 65) rfl) rfl
theorem wt_796 : Cond.constantLong RX10 296 (48) ∈ mWT := mt_6 (List.mem_of_getElem? (i := 204) rfl) rfl
theorem wt_797 : Cond.constantLong RX10 298 (57) ∈ mWT := mt_6 (List.mem_of_getElem? (i := 205) rfl) rfl
theorem wt_798 : Cond.constant RX10 303 (999999) ∈ mWT := mt_6 (List.mem_of_getElem? (i := 206) rfl) rfl
theorem wt_799 : Cond.code yX10_readsItem cX10_readsItem 2 (some .boolean) ∈ mWT := mt_6 (List.mem_of_getElem? (i := 210) rfl) rfl
theorem wt_800 : Cond.methodLink RX10 331 yX10_readsItem ∈ mWT := mt_6 (List.mem_of_getElem? (i := 207) rfl) rfl
theorem wt_801 : Cond.instanceMethod yX10_readsItem ∈ mWT := mt_6 (List.mem_of_getElem? (i := 209) rfl) rfl
theorem wt_802 : Cond.selects RX10 yX10_readsItem yX10_readsItem ∈ mWT := mt_s (⟨"RoundsPerHourModel", "readsItem", "()Z"⟩, 36) (ml_5 (List.mem_of_getElem? (i := 0) rfl)) rfl rfl
theorem wt_803 : Cond.code yX10_takesNumber cX10_takesNumber 3 (some .boolean) ∈ mWT := mt_6 (List.mem_of_getElem? (i := 218) rfl) rfl
theorem wt_804 : Cond.methodLink RX10 319 yX10_takesNumber ∈ mWT := mt_6 (List.mem_of_getElem? (i := 215) rfl) rfl
theorem wt_805 : Cond.instanceMethod yX10_takesNumber ∈ mWT := mt_6 (List.mem_of_getElem? (i := 217) rfl) rfl
theorem wt_806 : Cond.selects RX10 yX10_takesNumber yX10_takesNumber ∈ mWT := mt_s (⟨"RoundsPerHourModel", "takesNumber", "(II)Z"⟩, 36) (ml_5 (List.mem_of_getElem? (i := 2) rfl)) rfl rfl
theorem wt_807 : Cond.fieldLink RX10 304 "RoundsPerHourModel" "last" "I" ∈ mWT := mt_5 (List.mem_of_getElem? (i := 66) rfl) rfl
theorem wt_808 : Cond.code yX10_readsThing cX10_readsThing 1 (some .boolean) ∈ mWT := mt_6 (List.mem_of_getElem? (i := 230) rfl) rfl
theorem wt_809 : Cond.methodLink RX10 328 yX10_readsThing ∈ mWT := mt_6 (List.mem_of_getElem? (i := 227) rfl) rfl
theorem wt_810 : Cond.instanceMethod yX10_readsThing ∈ mWT := mt_6 (List.mem_of_getElem? (i := 229) rfl) rfl
theorem wt_811 : Cond.selects RX10 yX10_readsThing yX10_readsThing ∈ mWT := mt_s (⟨"RoundsPerHourModel", "readsThing", "()Z"⟩, 36) (ml_5 (List.mem_of_getElem? (i := 5) rfl)) rfl rfl
theorem wt_812 : Cond.code yX10_readsGainAndTime cX10_readsGainAndTime 2 (some .boolean) ∈ mWT := mt_6 (List.mem_of_getElem? (i := 222) rfl) rfl
theorem wt_813 : Cond.methodLink RX10 322 yX10_readsGainAndTime ∈ mWT := mt_6 (List.mem_of_getElem? (i := 219) rfl) rfl
theorem wt_814 : Cond.instanceMethod yX10_readsGainAndTime ∈ mWT := mt_6 (List.mem_of_getElem? (i := 221) rfl) rfl
theorem wt_815 : Cond.selects RX10 yX10_readsGainAndTime yX10_readsGainAndTime ∈ mWT := mt_s (⟨"RoundsPerHourModel", "readsGainAndTime", "()Z"⟩, 36) (ml_5 (List.mem_of_getElem? (i := 3) rfl)) rfl rfl
theorem wt_816 : Cond.code yX10_isWord cX10_isWord 2 (some .boolean) ∈ mWT := mt_6 (List.mem_of_getElem? (i := 226) rfl) rfl
theorem wt_817 : Cond.methodLink RX10 316 yX10_isWord ∈ mWT := mt_6 (List.mem_of_getElem? (i := 223) rfl) rfl
theorem wt_818 : Cond.instanceMethod yX10_isWord ∈ mWT := mt_6 (List.mem_of_getElem? (i := 225) rfl) rfl
theorem wt_819 : Cond.selects RX10 yX10_isWord yX10_isWord ∈ mWT := mt_s (⟨"RoundsPerHourModel", "isWord", "(I)Z"⟩, 36) (ml_5 (List.mem_of_getElem? (i := 4) rfl)) rfl rfl
theorem wt_820 : Cond.fieldLink RX10 313 "RoundsPerHourModel" "toldTime" "I" ∈ mWT := mt_5 (List.mem_of_getElem? (i := 69) rfl) rfl
theorem wt_821 : Cond.fieldLink RX10 310 "RoundsPerHourModel" "toldGain" "I" ∈ mWT := mt_5 (List.mem_of_getElem? (i := 68) rfl) rfl
theorem wt_822 : Cond.code yX10_readsWay cX10_readsWay 4 (some .boolean) ∈ mWT := mt_6 (List.mem_of_getElem? (i := 214) rfl) rfl
theorem wt_823 : Cond.methodLink RX10 325 yX10_readsWay ∈ mWT := mt_6 (List.mem_of_getElem? (i := 211) rfl) rfl
theorem wt_824 : Cond.instanceMethod yX10_readsWay ∈ mWT := mt_6 (List.mem_of_getElem? (i := 213) rfl) rfl
theorem wt_825 : Cond.selects RX10 yX10_readsWay yX10_readsWay ∈ mWT := mt_s (⟨"RoundsPerHourModel", "readsWay", "(I)Z"⟩, 36) (ml_5 (List.mem_of_getElem? (i := 1) rfl)) rfl rfl
theorem wt_826 : Cond.code yX10_lacks cX10_lacks 3 (some .int) ∈ mWT := mt_7 (List.mem_of_getElem? (i := 2) rfl) rfl
theorem wt_827 : Cond.methodLink RX10 334 yX10_lacks ∈ mWT := mt_6 (List.mem_of_getElem? (i := 239) rfl) rfl
theorem wt_828 : Cond.instanceMethod yX10_lacks ∈ mWT := mt_7 (List.mem_of_getElem? (i := 1) rfl) rfl
theorem wt_829 : Cond.selects RX10 yX10_lacks yX10_lacks ∈ mWT := mt_s (⟨"RoundsPerHourModel", "lacks", "(II)I"⟩, 36) (ml_5 (List.mem_of_getElem? (i := 6) rfl)) rfl rfl
theorem wt_830 : Cond.fieldLink RX10 41 "RoundsPerHourModel" "moved" "[J" ∈ mWT := mt_5 (List.mem_of_getElem? (i := 59) rfl) rfl
theorem wt_831 : Cond.fieldLink RX10 337 "RoundsPerHourModel" "isKept" "Z" ∈ mWT := mt_5 (List.mem_of_getElem? (i := 71) rfl) rfl
theorem wt_832 : Cond.fieldLink RX10 51 "RoundsPerHourModel" "kept" "[I" ∈ mWT := mt_5 (List.mem_of_getElem? (i := 70) rfl) rfl
theorem wt_833 : Cond.constantLong RX10 340 (8) ∈ mWT := mt_7 (List.mem_of_getElem? (i := 35) rfl) rfl
theorem wt_834 : Cond.methodLink RX9 3 Lib.objectInit ∈ mWT := mt_1 (List.mem_of_getElem? (i := 25) rfl) rfl
theorem wt_835 : Cond.instanceMethod Lib.objectInit ∈ mWT := mt_1 (List.mem_of_getElem? (i := 26) rfl) rfl
theorem wt_836 : Cond.code Lib.objectInit ⟨#[0xb1]⟩ 1 none ∈ mWT := mt_1 (List.mem_of_getElem? (i := 27) rfl) rfl
theorem wt_837 : Cond.classLink RX9 9 RX1 ∈ mWT := mt_1 (List.mem_of_getElem? (i := 28) rfl) rfl
theorem wt_838 : Cond.instantiable RX1 12 ∈ mWT := mt_1 (List.mem_of_getElem? (i := 29) rfl) rfl
theorem wt_839 : Cond.methodLink RX1 3 Lib.objectInit ∈ mWT := mt_1 (List.mem_of_getElem? (i := 33) rfl) rfl
theorem wt_840 : Cond.arrayClass .int ∈ mWT := mt_1 (List.mem_of_getElem? (i := 108) rfl) rfl
theorem wt_841 : Cond.code yX1_init cX1_init 1 none ∈ mWT := mt_1 (List.mem_of_getElem? (i := 32) rfl) rfl
theorem wt_842 : Cond.methodLink RX9 11 yX1_init ∈ mWT := mt_1 (List.mem_of_getElem? (i := 30) rfl) rfl
theorem wt_843 : Cond.instanceMethod yX1_init ∈ mWT := mt_1 (List.mem_of_getElem? (i := 31) rfl) rfl
theorem wt_844 : Cond.classLink RX9 22 RX4 ∈ mWT := mt_1 (List.mem_of_getElem? (i := 109) rfl) rfl
theorem wt_845 : Cond.instantiable RX4 13 ∈ mWT := mt_1 (List.mem_of_getElem? (i := 110) rfl) rfl
theorem wt_846 : Cond.methodLink RX4 3 Lib.objectInit ∈ mWT := mt_1 (List.mem_of_getElem? (i := 114) rfl) rfl
theorem wt_847 : Cond.arrayClass .long ∈ mWT := mt_1 (List.mem_of_getElem? (i := 160) rfl) rfl
theorem wt_848 : Cond.arrayClass .boolean ∈ mWT := mt_1 (List.mem_of_getElem? (i := 161) rfl) rfl
theorem wt_849 : Cond.code yX4_init cX4_init 1 none ∈ mWT := mt_1 (List.mem_of_getElem? (i := 113) rfl) rfl
theorem wt_850 : Cond.instanceMethod yX4_init ∈ mWT := mt_1 (List.mem_of_getElem? (i := 112) rfl) rfl
theorem wt_851 : Cond.classLink RX9 29 RX7 ∈ mWT := mt_1 (List.mem_of_getElem? (i := 162) rfl) rfl
theorem wt_852 : Cond.instantiable RX7 12 ∈ mWT := mt_1 (List.mem_of_getElem? (i := 163) rfl) rfl
theorem wt_853 : Cond.methodLink RX0 3 Lib.objectInit ∈ mWT := mt_1 (List.mem_of_getElem? (i := 170) rfl) rfl
theorem wt_854 : Cond.code yX0_init cX0_init 1 none ∈ mWT := mt_1 (List.mem_of_getElem? (i := 169) rfl) rfl
theorem wt_855 : Cond.instanceMethod yX0_init ∈ mWT := mt_1 (List.mem_of_getElem? (i := 168) rfl) rfl
theorem wt_856 : Cond.classLink RX7 9 RX2 ∈ mWT := mt_1 (List.mem_of_getElem? (i := 171) rfl) rfl
theorem wt_857 : Cond.instantiable RX2 1 ∈ mWT := mt_1 (List.mem_of_getElem? (i := 172) rfl) rfl
theorem wt_858 : Cond.methodLink RX2 3 Lib.objectInit ∈ mWT := mt_1 (List.mem_of_getElem? (i := 176) rfl) rfl
theorem wt_859 : Cond.code yX2_init cX2_init 1 none ∈ mWT := mt_1 (List.mem_of_getElem? (i := 175) rfl) rfl
theorem wt_860 : Cond.instanceMethod yX2_init ∈ mWT := mt_1 (List.mem_of_getElem? (i := 174) rfl) rfl
theorem wt_861 : Cond.code yX7_init cX7_init 1 none ∈ mWT := mt_1 (List.mem_of_getElem? (i := 166) rfl) rfl
theorem wt_862 : Cond.instanceMethod yX7_init ∈ mWT := mt_1 (List.mem_of_getElem? (i := 165) rfl) rfl
theorem wt_863 : Cond.classLink RX9 36 RX8 ∈ mWT := mt_2 (List.mem_of_getElem? (i := 2) rfl) rfl
theorem wt_864 : Cond.instantiable RX8 15 ∈ mWT := mt_2 (List.mem_of_getElem? (i := 3) rfl) rfl
theorem wt_865 : Cond.code yX8_init cX8_init 1 none ∈ mWT := mt_2 (List.mem_of_getElem? (i := 6) rfl) rfl
theorem wt_866 : Cond.instanceMethod yX8_init ∈ mWT := mt_2 (List.mem_of_getElem? (i := 5) rfl) rfl
theorem wt_867 : Cond.classLink RX9 43 RX3 ∈ mWT := mt_2 (List.mem_of_getElem? (i := 34) rfl) rfl
theorem wt_868 : Cond.instantiable RX3 11 ∈ mWT := mt_2 (List.mem_of_getElem? (i := 35) rfl) rfl
theorem wt_869 : Cond.code yX3_init cX3_init 1 none ∈ mWT := mt_2 (List.mem_of_getElem? (i := 38) rfl) rfl
theorem wt_870 : Cond.instanceMethod yX3_init ∈ mWT := mt_2 (List.mem_of_getElem? (i := 37) rfl) rfl
theorem wt_871 : Cond.classLink RX9 50 RX2 ∈ mWT := mt_2 (List.mem_of_getElem? (i := 54) rfl) rfl
theorem wt_872 : Cond.classLink RX9 57 RX6 ∈ mWT := mt_2 (List.mem_of_getElem? (i := 56) rfl) rfl
theorem wt_873 : Cond.instantiable RX6 9 ∈ mWT := mt_2 (List.mem_of_getElem? (i := 57) rfl) rfl
theorem wt_874 : Cond.methodLink RX6 3 Lib.objectInit ∈ mWT := mt_2 (List.mem_of_getElem? (i := 61) rfl) rfl
theorem wt_875 : Cond.code yX6_init cX6_init 1 none ∈ mWT := mt_2 (List.mem_of_getElem? (i := 60) rfl) rfl
theorem wt_876 : Cond.instanceMethod yX6_init ∈ mWT := mt_2 (List.mem_of_getElem? (i := 59) rfl) rfl
theorem wt_877 : Cond.classLink RX9 64 "RoundsPerHour$Sheet" ∈ mWT := mt_2 (List.mem_of_getElem? (i := 91) rfl) rfl
theorem wt_878 : Cond.classLink RX9 64 RX5 ∈ mWT := mt_2 (List.mem_of_getElem? (i := 91) rfl) rfl
theorem wt_879 : Cond.instantiable RX5 3 ∈ mWT := mt_2 (List.mem_of_getElem? (i := 93) rfl) rfl
theorem wt_880 : Cond.methodLink RX5 3 Lib.objectInit ∈ mWT := mt_2 (List.mem_of_getElem? (i := 97) rfl) rfl
theorem wt_881 : Cond.code yX5_init cX5_init 1 none ∈ mWT := mt_2 (List.mem_of_getElem? (i := 96) rfl) rfl
theorem wt_882 : Cond.instanceMethod yX5_init ∈ mWT := mt_2 (List.mem_of_getElem? (i := 95) rfl) rfl
theorem wt_883 : Cond.methodLink RX10 3 Lib.objectInit ∈ mWT := mt_5 (List.mem_of_getElem? (i := 35) rfl) rfl
theorem wt_884 : Cond.arrayClass .char ∈ mWT := mt_5 (List.mem_of_getElem? (i := 145) rfl) rfl
theorem fd_RX9_12_8 : MFd RX9 12 8 0 := ⟨_, _, _, _, rfl, rfl, by decide, uws_8, wt_0, Or.inl rfl⟩
theorem fd_RX9_83_0 : MFd RX9 83 0 2 := ⟨_, _, _, _, rfl, rfl, by decide, uws_0, wt_1, Or.inl rfl⟩
theorem fd_RX9_93_0 : MFd RX9 93 0 0 := ⟨_, _, _, _, rfl, rfl, by decide, uws_0, wt_2, Or.inl rfl⟩
theorem fw_RX9_93_0 : MFw RX9 93 0 0 .int := ⟨_, _, _, _, tyX1, rfl, rfl, by decide, uws_0, wt_2, Or.inl rfl, tyX1_ok, nmX1, rfl, by decide +kernel⟩
theorem fd_RX9_87_0 : MFd RX9 87 0 4 := ⟨_, _, _, _, rfl, rfl, by decide, uws_0, wt_3, Or.inl rfl⟩
theorem lkV_RX9_79_yX9_finding : MLv RX9 79 RX9 yX9_finding cX9_finding 2 (some .int) 1 := ⟨wt_4, wt_5, wt_6, wt_7, wt_8, rfl, by decide +kernel, by decide +kernel, by decide +kernel⟩
theorem fd_RX9_70_8 : MFd RX9 70 8 11 := ⟨_, _, _, _, rfl, rfl, by decide, uws_8, wt_9, Or.inl rfl⟩
theorem fd_RX9_90_0 : MFd RX9 90 0 5 := ⟨_, _, _, _, rfl, rfl, by decide, uws_0, wt_11, Or.inl rfl⟩
theorem lkS_RX9_75_yX9_within : MLs RX9 75 yX9_within cX9_within 3 (some .boolean) 3 := ⟨wt_12, wt_13, wt_14, wt_8, by decide +kernel, by decide +kernel, by decide +kernel⟩
theorem fd_RX9_96_0 : MFd RX9 96 0 1 := ⟨_, _, _, _, rfl, rfl, by decide, uws_0, wt_15, Or.inl rfl⟩
theorem fw_RX9_96_0 : MFw RX9 96 0 1 .int := ⟨_, _, _, _, tyX1, rfl, rfl, by decide, uws_0, wt_15, Or.inl rfl, tyX1_ok, nmX1, rfl, by decide +kernel⟩
theorem lkS_RX9_103_yX9_isKind : MLs RX9 103 yX9_isKind cX9_isKind 1 (some .boolean) 1 := ⟨wt_16, wt_17, wt_18, wt_8, by decide +kernel, by decide +kernel, by decide +kernel⟩
theorem lkS_RX9_106_yX9_isGain : MLs RX9 106 yX9_isGain cX9_isGain 1 (some .boolean) 1 := ⟨wt_19, wt_20, wt_21, wt_8, by decide +kernel, by decide +kernel, by decide +kernel⟩
theorem lkS_RX9_109_yX9_isTime : MLs RX9 109 yX9_isTime cX9_isTime 1 (some .boolean) 1 := ⟨wt_24, wt_25, wt_26, wt_8, by decide +kernel, by decide +kernel, by decide +kernel⟩
theorem lkV_RX9_112_yX1_newWay : MLv RX9 112 RX1 yX1_newWay cX1_newWay 7 (some .int) 5 := ⟨wt_28, wt_29, wt_30, wt_31, wt_32, rfl, by decide +kernel, by decide +kernel, by decide +kernel⟩
theorem fd_RX1_44_0 : MFd RX1 44 0 2 := ⟨_, _, _, _, rfl, rfl, by decide, uws_0, wt_33, Or.inl rfl⟩
theorem fd_RX1_15_0 : MFd RX1 15 0 3 := ⟨_, _, _, _, rfl, rfl, by decide, uws_0, wt_34, Or.inl rfl⟩
theorem fd_RX1_19_0 : MFd RX1 19 0 4 := ⟨_, _, _, _, rfl, rfl, by decide, uws_0, wt_35, Or.inl rfl⟩
theorem fd_RX1_22_0 : MFd RX1 22 0 5 := ⟨_, _, _, _, rfl, rfl, by decide, uws_0, wt_36, Or.inl rfl⟩
theorem fd_RX1_25_0 : MFd RX1 25 0 6 := ⟨_, _, _, _, rfl, rfl, by decide, uws_0, wt_37, Or.inl rfl⟩
theorem fd_RX1_28_0 : MFd RX1 28 0 7 := ⟨_, _, _, _, rfl, rfl, by decide, uws_0, wt_38, Or.inl rfl⟩
theorem fd_RX1_31_0 : MFd RX1 31 0 8 := ⟨_, _, _, _, rfl, rfl, by decide, uws_0, wt_39, Or.inl rfl⟩
theorem fw_RX1_44_0 : MFw RX1 44 0 2 .int := ⟨_, _, _, _, tyX1, rfl, rfl, by decide, uws_0, wt_33, Or.inl rfl, tyX1_ok, nmX1, rfl, by decide +kernel⟩
theorem lkV_RX9_99_yX1_isPlace : MLv RX9 99 RX1 yX1_isPlace cX1_isPlace 2 (some .boolean) 1 := ⟨wt_40, wt_41, wt_42, wt_43, wt_32, rfl, by decide +kernel, by decide +kernel, by decide +kernel⟩
theorem fd_RX1_9_0 : MFd RX1 9 0 0 := ⟨_, _, _, _, rfl, rfl, by decide, uws_0, wt_44, Or.inl rfl⟩
theorem lkN_RX1_40_yX9_within : MLn RX1 40 "RoundsPerHour" yX9_within cX9_within 3 (some .boolean) 3 := ⟨wt_12, List.mem_of_getElem? (i := 7) rfl, wt_14, wt_8, by decide +kernel, by decide +kernel, by decide +kernel⟩
theorem lkV_RX9_116_yX1_isWay : MLv RX9 116 RX1 yX1_isWay cX1_isWay 2 (some .boolean) 1 := ⟨wt_45, wt_46, wt_47, wt_48, wt_32, rfl, by decide +kernel, by decide +kernel, by decide +kernel⟩
theorem fd_RX9_119_0 : MFd RX9 119 0 3 := ⟨_, _, _, _, rfl, rfl, by decide, uws_0, wt_49, Or.inl rfl⟩
theorem fd_RX9_122_0 : MFd RX9 122 0 6 := ⟨_, _, _, _, rfl, rfl, by decide, uws_0, wt_50, Or.inl rfl⟩
theorem fd_RX9_125_0 : MFd RX9 125 0 7 := ⟨_, _, _, _, rfl, rfl, by decide, uws_0, wt_51, Or.inl rfl⟩
theorem fd_RX9_128_0 : MFd RX9 128 0 8 := ⟨_, _, _, _, rfl, rfl, by decide, uws_0, wt_52, Or.inl rfl⟩
theorem lkV_RX9_131_yX1_bringsOf : MLv RX9 131 RX1 yX1_bringsOf cX1_bringsOf 2 (some .int) 1 := ⟨wt_53, wt_54, wt_55, wt_56, wt_32, rfl, by decide +kernel, by decide +kernel, by decide +kernel⟩
theorem fd_RX1_50_0 : MFd RX1 50 0 1 := ⟨_, _, _, _, rfl, rfl, by decide, uws_0, wt_57, Or.inl rfl⟩
theorem lkN_RX1_53_yX9_brings : MLn RX1 53 "RoundsPerHour" yX9_brings cX9_brings 3 (some .int) 3 := ⟨wt_58, List.mem_of_getElem? (i := 8) rfl, wt_59, wt_8, by decide +kernel, by decide +kernel, by decide +kernel⟩
theorem lkS_RX9_368_yX9_brings : MLs RX9 368 yX9_brings cX9_brings 3 (some .int) 3 := ⟨wt_58, wt_60, wt_59, wt_8, by decide +kernel, by decide +kernel, by decide +kernel⟩
theorem lkV_RX9_134_yX1_lastsOf : MLv RX9 134 RX1 yX1_lastsOf cX1_lastsOf 2 (some .int) 1 := ⟨wt_61, wt_62, wt_63, wt_64, wt_32, rfl, by decide +kernel, by decide +kernel, by decide +kernel⟩
theorem lkN_RX1_57_yX9_lasts : MLn RX1 57 "RoundsPerHour" yX9_lasts cX9_lasts 3 (some .int) 3 := ⟨wt_65, List.mem_of_getElem? (i := 9) rfl, wt_66, wt_8, by decide +kernel, by decide +kernel, by decide +kernel⟩
theorem lkS_RX9_371_yX9_lasts : MLs RX9 371 yX9_lasts cX9_lasts 3 (some .int) 3 := ⟨wt_65, wt_67, wt_66, wt_8, by decide +kernel, by decide +kernel, by decide +kernel⟩
theorem lkV_RX9_137_yX9_canBecome : MLv RX9 137 RX9 yX9_canBecome cX9_canBecome 4 (some .boolean) 3 := ⟨wt_68, wt_69, wt_70, wt_71, wt_8, rfl, by decide +kernel, by decide +kernel, by decide +kernel⟩
theorem lkS_RX9_140_yX9_put : MLs RX9 140 yX9_put cX9_put 4 (some .int) 3 := ⟨wt_72, wt_73, wt_74, wt_8, by decide +kernel, by decide +kernel, by decide +kernel⟩
theorem lkS_RX9_144_yX9_isUnder : MLs RX9 144 yX9_isUnder cX9_isUnder 4 (some .boolean) 2 := ⟨wt_75, wt_76, wt_77, wt_8, by decide +kernel, by decide +kernel, by decide +kernel⟩
theorem fd_RX9_148_0 : MFd RX9 148 0 9 := ⟨_, _, _, _, rfl, rfl, by decide, uws_0, wt_79, Or.inl rfl⟩
theorem lkV_RX9_151_yX1_newThing : MLv RX9 151 RX1 yX1_newThing cX1_newThing 3 (some .int) 2 := ⟨wt_80, wt_81, wt_82, wt_83, wt_32, rfl, by decide +kernel, by decide +kernel, by decide +kernel⟩
theorem fd_RX1_47_0 : MFd RX1 47 0 9 := ⟨_, _, _, _, rfl, rfl, by decide, uws_0, wt_84, Or.inl rfl⟩
theorem fw_RX1_47_0 : MFw RX1 47 0 9 .int := ⟨_, _, _, _, tyX1, rfl, rfl, by decide, uws_0, wt_84, Or.inl rfl, tyX1_ok, nmX1, rfl, by decide +kernel⟩
theorem fd_RX1_34_0 : MFd RX1 34 0 10 := ⟨_, _, _, _, rfl, rfl, by decide, uws_0, wt_85, Or.inl rfl⟩
theorem fd_RX1_37_0 : MFd RX1 37 0 11 := ⟨_, _, _, _, rfl, rfl, by decide, uws_0, wt_86, Or.inl rfl⟩
theorem fd_RX9_161_0 : MFd RX9 161 0 11 := ⟨_, _, _, _, rfl, rfl, by decide, uws_0, wt_87, Or.inl rfl⟩
theorem lkV_RX9_155_yX1_isThingOrBase : MLv RX9 155 RX1 yX1_isThingOrBase cX1_isThingOrBase 2 (some .boolean) 1 := ⟨wt_88, wt_89, wt_90, wt_91, wt_32, rfl, by decide +kernel, by decide +kernel, by decide +kernel⟩
theorem fd_RX9_158_0 : MFd RX9 158 0 10 := ⟨_, _, _, _, rfl, rfl, by decide, uws_0, wt_92, Or.inl rfl⟩
theorem lkV_RX9_168_yX9_bestRing : MLv RX9 168 RX9 yX9_bestRing cX9_bestRing 1 (some .int) 0 := ⟨wt_93, wt_94, wt_95, wt_96, wt_8, rfl, by decide +kernel, by decide +kernel, by decide +kernel⟩
theorem fd_RX9_25_8 : MFd RX9 25 8 4 := ⟨_, _, _, _, rfl, rfl, by decide, uws_8, wt_97, Or.inl rfl⟩
theorem lkV_RX9_205_yX4_gather : MLv RX9 205 RX4 yX4_gather cX4_gather 5 none 2 := ⟨wt_98, wt_99, wt_100, wt_101, wt_102, rfl, by decide +kernel, by decide +kernel, by decide +kernel⟩
theorem fd_RX4_67_0 : MFd RX4 67 0 0 := ⟨_, _, _, _, rfl, rfl, by decide, uws_0, wt_103, Or.inl rfl⟩
theorem lkV_RX4_70_yX4_goOn : MLv RX4 70 RX4 yX4_goOn cX4_goOn 13 none 6 := ⟨wt_104, wt_105, wt_106, wt_107, wt_102, rfl, by decide +kernel, by decide +kernel, by decide +kernel⟩
theorem fd_RX4_29_3 : MFd RX4 29 3 6 := ⟨_, _, _, _, rfl, rfl, by decide, uws_3, wt_108, Or.inl rfl⟩
theorem fd_RX4_32_3 : MFd RX4 32 3 7 := ⟨_, _, _, _, rfl, rfl, by decide, uws_3, wt_109, Or.inl rfl⟩
theorem fd_RX4_35_3 : MFd RX4 35 3 8 := ⟨_, _, _, _, rfl, rfl, by decide, uws_3, wt_110, Or.inl rfl⟩
theorem fd_RX4_38_3 : MFd RX4 38 3 9 := ⟨_, _, _, _, rfl, rfl, by decide, uws_3, wt_111, Or.inl rfl⟩
theorem fd_RX4_41_3 : MFd RX4 41 3 10 := ⟨_, _, _, _, rfl, rfl, by decide, uws_3, wt_112, Or.inl rfl⟩
theorem lkV_RX4_74_yX4_keep : MLv RX4 74 RX4 yX4_keep cX4_keep 6 none 3 := ⟨wt_113, wt_114, wt_115, wt_116, wt_102, rfl, by decide +kernel, by decide +kernel, by decide +kernel⟩
theorem fd_RX4_44_3 : MFd RX4 44 3 0 := ⟨_, _, _, _, rfl, rfl, by decide, uws_3, wt_117, Or.inl rfl⟩
theorem fd_RX4_9_3 : MFd RX4 9 3 1 := ⟨_, _, _, _, rfl, rfl, by decide, uws_3, wt_118, Or.inl rfl⟩
theorem fd_RX4_15_3 : MFd RX4 15 3 2 := ⟨_, _, _, _, rfl, rfl, by decide, uws_3, wt_119, Or.inl rfl⟩
theorem fd_RX4_19_3 : MFd RX4 19 3 3 := ⟨_, _, _, _, rfl, rfl, by decide, uws_3, wt_120, Or.inl rfl⟩
theorem fw_RX4_44_3 : MFw RX4 44 3 0 .int := ⟨_, _, _, _, tyX4, rfl, rfl, by decide, uws_3, wt_117, Or.inl rfl, tyX4_ok, nmX4, rfl, by decide +kernel⟩
theorem fd_RX4_64_0 : MFd RX4 64 0 4 := ⟨_, _, _, _, rfl, rfl, by decide, uws_0, wt_121, Or.inl rfl⟩
theorem fd_RX4_48_0 : MFd RX4 48 0 2 := ⟨_, _, _, _, rfl, rfl, by decide, uws_0, wt_122, Or.inl rfl⟩
theorem fd_RX4_53_0 : MFd RX4 53 0 5 := ⟨_, _, _, _, rfl, rfl, by decide, uws_0, wt_123, Or.inl rfl⟩
theorem lkV_RX4_54_yX1_bringsOf : MLv RX4 54 RX1 yX1_bringsOf cX1_bringsOf 2 (some .int) 1 := ⟨wt_53, wt_124, wt_55, wt_56, wt_32, rfl, by decide +kernel, by decide +kernel, by decide +kernel⟩
theorem lkV_RX4_58_yX1_lastsOf : MLv RX4 58 RX1 yX1_lastsOf cX1_lastsOf 2 (some .int) 1 := ⟨wt_61, wt_125, wt_63, wt_64, wt_32, rfl, by decide +kernel, by decide +kernel, by decide +kernel⟩
theorem fd_RX4_61_0 : MFd RX4 61 0 8 := ⟨_, _, _, _, rfl, rfl, by decide, uws_0, wt_126, Or.inl rfl⟩
theorem lkV_RX9_209_yX4_best : MLv RX9 209 RX4 yX4_best cX4_best 4 (some .int) 1 := ⟨wt_127, wt_128, wt_129, wt_130, wt_102, rfl, by decide +kernel, by decide +kernel, by decide +kernel⟩
theorem lkV_RX4_84_yX4_order : MLv RX4 84 RX4 yX4_order cX4_order 3 (some .int) 2 := ⟨wt_131, wt_132, wt_133, wt_134, wt_102, rfl, by decide +kernel, by decide +kernel, by decide +kernel⟩
theorem lkS_RX4_78_yJ13_compare_74951 : MLs RX4 78 yJ13_compare_74951 cJ13_compare_74951 4 (some .int) 2 := ⟨wt_135, wt_136, wt_137, wt_138, by decide +kernel, by decide +kernel, by decide +kernel⟩
theorem fd_RX9_172_3 : MFd RX9 172 3 2 := ⟨_, _, _, _, rfl, rfl, by decide, uws_3, wt_139, Or.inl rfl⟩
theorem fd_RX9_176_3 : MFd RX9 176 3 3 := ⟨_, _, _, _, rfl, rfl, by decide, uws_3, wt_140, Or.inl rfl⟩
theorem lkS_RX9_179_yX9_lowest : MLs RX9 179 yX9_lowest cX9_lowest 7 (some .long) 3 := ⟨wt_141, wt_142, wt_143, wt_8, by decide +kernel, by decide +kernel, by decide +kernel⟩
theorem lkS_RX9_304_yX9_sharedBelowZero : MLs RX9 304 yX9_sharedBelowZero cX9_sharedBelowZero 11 (some .long) 2 := ⟨wt_144, wt_145, wt_146, wt_8, by decide +kernel, by decide +kernel, by decide +kernel⟩
theorem lkV_RX9_164_yX9_longFinding : MLv RX9 164 RX9 yX9_longFinding cX9_longFinding 2 (some .long) 1 := ⟨wt_147, wt_148, wt_149, wt_150, wt_8, rfl, by decide +kernel, by decide +kernel, by decide +kernel⟩
theorem fd_RX9_183_3 : MFd RX9 183 3 0 := ⟨_, _, _, _, rfl, rfl, by decide, uws_3, wt_152, Or.inl rfl⟩
theorem lkV_RX9_186_yX4_order : MLv RX9 186 RX4 yX4_order cX4_order 3 (some .int) 2 := ⟨wt_131, wt_153, wt_133, wt_134, wt_102, rfl, by decide +kernel, by decide +kernel, by decide +kernel⟩
theorem fd_RX9_189_3 : MFd RX9 189 3 1 := ⟨_, _, _, _, rfl, rfl, by decide, uws_3, wt_154, Or.inl rfl⟩
theorem lkV_RX9_192_yX4_lifts : MLv RX9 192 RX4 yX4_lifts cX4_lifts 10 (some .boolean) 5 := ⟨wt_155, wt_156, wt_157, wt_158, wt_102, rfl, by decide +kernel, by decide +kernel, by decide +kernel⟩
theorem fd_RX4_22_3 : MFd RX4 22 3 4 := ⟨_, _, _, _, rfl, rfl, by decide, uws_3, wt_159, Or.inl rfl⟩
theorem lkV_RX4_108_yX4_step : MLv RX4 108 RX4 yX4_step cX4_step 5 none 3 := ⟨wt_160, wt_161, wt_162, wt_163, wt_102, rfl, by decide +kernel, by decide +kernel, by decide +kernel⟩
theorem fd_RX4_25_3 : MFd RX4 25 3 5 := ⟨_, _, _, _, rfl, rfl, by decide, uws_3, wt_164, Or.inl rfl⟩
theorem fd_RX9_196_3 : MFd RX9 196 3 4 := ⟨_, _, _, _, rfl, rfl, by decide, uws_3, wt_165, Or.inl rfl⟩
theorem lkS_RX9_199_yX9_productFits : MLs RX9 199 yX9_productFits cX9_productFits 4 (some .boolean) 2 := ⟨wt_166, wt_167, wt_168, wt_8, by decide +kernel, by decide +kernel, by decide +kernel⟩
theorem lkV_RX9_216_yX4_missingTo : MLv RX9 216 RX4 yX4_missingTo cX4_missingTo 8 (some .long) 3 := ⟨wt_180, wt_181, wt_182, wt_183, wt_102, rfl, by decide +kernel, by decide +kernel, by decide +kernel⟩
theorem lkS_RX4_102_yJ9_floorDiv_f86c9 : MLs RX4 102 yJ9_floorDiv_f86c9 cJ9_floorDiv_f86c9 6 (some .long) 2 := ⟨wt_184, wt_185, wt_186, wt_187, by decide +kernel, by decide +kernel, by decide +kernel⟩
theorem fd_RX9_19_8 : MFd RX9 19 8 2 := ⟨_, _, _, _, rfl, rfl, by decide, uws_8, wt_189, Or.inl rfl⟩
theorem lkV_RX9_238_yX4_rises : MLv RX9 238 RX4 yX4_rises cX4_rises 3 (some .boolean) 1 := ⟨wt_190, wt_191, wt_192, wt_193, wt_102, rfl, by decide +kernel, by decide +kernel, by decide +kernel⟩
theorem fw_RX4_99_3 : MFw RX4 99 3 11 .long := ⟨_, _, _, _, tyX4, rfl, rfl, by decide, uws_3, wt_194, Or.inl rfl, tyX4_ok, nmX4, rfl, by decide +kernel⟩
theorem fw_RX4_88_3 : MFw RX4 88 3 12 .long := ⟨_, _, _, _, tyX4, rfl, rfl, by decide, uws_3, wt_195, Or.inl rfl, tyX4_ok, nmX4, rfl, by decide +kernel⟩
theorem lkV_RX4_92_yX4_gather : MLv RX4 92 RX4 yX4_gather cX4_gather 5 none 2 := ⟨wt_98, wt_196, wt_100, wt_101, wt_102, rfl, by decide +kernel, by decide +kernel, by decide +kernel⟩
theorem lkV_RX4_96_yX4_best : MLv RX4 96 RX4 yX4_best cX4_best 4 (some .int) 1 := ⟨wt_127, wt_197, wt_129, wt_130, wt_102, rfl, by decide +kernel, by decide +kernel, by decide +kernel⟩
theorem fd_RX4_88_3 : MFd RX4 88 3 12 := ⟨_, _, _, _, rfl, rfl, by decide, uws_3, wt_195, Or.inl rfl⟩
theorem fd_RX4_99_3 : MFd RX4 99 3 11 := ⟨_, _, _, _, rfl, rfl, by decide, uws_3, wt_194, Or.inl rfl⟩
theorem lkV_RX9_231_yX1_become : MLv RX9 231 RX1 yX1_become cX1_become 2 none 1 := ⟨wt_198, wt_199, wt_200, wt_201, wt_32, rfl, by decide +kernel, by decide +kernel, by decide +kernel⟩
theorem fw_RX1_9_0 : MFw RX1 9 0 0 .int := ⟨_, _, _, _, tyX1, rfl, rfl, by decide, uws_0, wt_44, Or.inl rfl, tyX1_ok, nmX1, rfl, by decide +kernel⟩
theorem fw_RX1_50_0 : MFw RX1 50 0 1 .int := ⟨_, _, _, _, tyX1, rfl, rfl, by decide, uws_0, wt_57, Or.inl rfl, tyX1_ok, nmX1, rfl, by decide +kernel⟩
theorem lkV_RX9_235_yX4_forget : MLv RX9 235 RX4 yX4_forget cX4_forget 1 none 0 := ⟨wt_206, wt_207, wt_208, wt_209, wt_102, rfl, by decide +kernel, by decide +kernel, by decide +kernel⟩
theorem fd_RX9_32_8 : MFd RX9 32 8 5 := ⟨_, _, _, _, rfl, rfl, by decide, uws_8, wt_210, Or.inl rfl⟩
theorem lkV_RX9_242_yX7_climbs : MLv RX9 242 RX7 yX7_climbs cX7_climbs 2 (some .boolean) 1 := ⟨wt_211, wt_212, wt_213, wt_214, wt_215, rfl, by decide +kernel, by decide +kernel, by decide +kernel⟩
theorem fw_RX7_18_6 : MFw RX7 18 6 11 (.object "RoundsPerHour$Country") := ⟨_, _, _, _, tyX7, rfl, rfl, by decide, uws_6, wt_216, Or.inl rfl, tyX7_ok, nmX7, rfl, by decide +kernel⟩
theorem lkU_RX7_22_6_yX0_takeWays : MLu RX7 22 RX7 "RoundsPerHour$Climb" ⟨"RoundsPerHour$TreeClimb", "takeWays", "(LRoundsPerHour$Country;)V"⟩ yX0_takeWays cX0_takeWays 3 none 1 := ⟨wt_217, wt_218, wt_219, wt_220, wt_221, wt_222, by decide +kernel, by decide +kernel, by decide +kernel⟩
theorem fd_RX0_27_6 : MFd RX0 27 6 4 := ⟨_, _, _, _, rfl, rfl, by decide, uws_6, wt_223, Or.inl rfl⟩
theorem fd_RX0_9_6 : MFd RX0 9 6 7 := ⟨_, _, _, _, rfl, rfl, by decide, uws_6, wt_224, Or.inl rfl⟩
theorem lkV_RX0_30_yX1_bringsOf : MLv RX0 30 RX1 yX1_bringsOf cX1_bringsOf 2 (some .int) 1 := ⟨wt_53, wt_225, wt_55, wt_56, wt_32, rfl, by decide +kernel, by decide +kernel, by decide +kernel⟩
theorem fd_RX0_15_6 : MFd RX0 15 6 8 := ⟨_, _, _, _, rfl, rfl, by decide, uws_6, wt_226, Or.inl rfl⟩
theorem lkV_RX0_34_yX1_lastsOf : MLv RX0 34 RX1 yX1_lastsOf cX1_lastsOf 2 (some .int) 1 := ⟨wt_61, wt_227, wt_63, wt_64, wt_32, rfl, by decide +kernel, by decide +kernel, by decide +kernel⟩
theorem fd_RX0_21_0 : MFd RX0 21 0 2 := ⟨_, _, _, _, rfl, rfl, by decide, uws_0, wt_228, Or.inl rfl⟩
theorem fw_RX0_27_6 : MFw RX0 27 6 4 .int := ⟨_, _, _, _, tyX7, rfl, rfl, by decide, uws_6, wt_223, Or.inl rfl, tyX7_ok, nmX7, rfl, by decide +kernel⟩
theorem lkU_RX7_26_6_yX0_runs : MLu RX7 26 RX7 "RoundsPerHour$Climb" ⟨"RoundsPerHour$TreeClimb", "runs", "()Z"⟩ yX0_runs cX0_runs 7 (some .boolean) 0 := ⟨wt_229, wt_230, wt_231, wt_232, wt_233, wt_222, by decide +kernel, by decide +kernel, by decide +kernel⟩
theorem fw_RX0_45_6 : MFw RX0 45 6 1 .int := ⟨_, _, _, _, tyX7, rfl, rfl, by decide, uws_6, wt_234, Or.inl rfl, tyX7_ok, nmX7, rfl, by decide +kernel⟩
theorem fd_RX0_48_6 : MFd RX0 48 6 5 := ⟨_, _, _, _, rfl, rfl, by decide, uws_6, wt_235, Or.inl rfl⟩
theorem lkU_RX0_52_6_yX0_together : MLu RX0 52 RX7 "RoundsPerHour$Climb" ⟨"RoundsPerHour$Climb", "together", "([JI)J"⟩ yX0_together cX0_together 6 (some .long) 2 := ⟨wt_236, wt_237, wt_238, wt_239, wt_240, wt_222, by decide +kernel, by decide +kernel, by decide +kernel⟩
theorem fw_RX0_56_6 : MFw RX0 56 6 2 .long := ⟨_, _, _, _, tyX7, rfl, rfl, by decide, uws_6, wt_241, Or.inl rfl, tyX7_ok, nmX7, rfl, by decide +kernel⟩
theorem fd_RX0_59_6 : MFd RX0 59 6 6 := ⟨_, _, _, _, rfl, rfl, by decide, uws_6, wt_242, Or.inl rfl⟩
theorem fw_RX0_62_6 : MFw RX0 62 6 3 .long := ⟨_, _, _, _, tyX7, rfl, rfl, by decide, uws_6, wt_243, Or.inl rfl, tyX7_ok, nmX7, rfl, by decide +kernel⟩
theorem fd_RX0_56_6 : MFd RX0 56 6 2 := ⟨_, _, _, _, rfl, rfl, by decide, uws_6, wt_241, Or.inl rfl⟩
theorem fd_RX0_62_6 : MFd RX0 62 6 3 := ⟨_, _, _, _, rfl, rfl, by decide, uws_6, wt_243, Or.inl rfl⟩
theorem lkU_RX0_37_6_yX0_weigh : MLu RX0 37 RX7 "RoundsPerHour$Climb" ⟨"RoundsPerHour$Climb", "weigh", "(JJ)V"⟩ yX0_weigh cX0_weigh 6 none 2 := ⟨wt_244, wt_245, wt_246, wt_247, wt_248, wt_222, by decide +kernel, by decide +kernel, by decide +kernel⟩
theorem fd_RX0_18_6 : MFd RX0 18 6 9 := ⟨_, _, _, _, rfl, rfl, by decide, uws_6, wt_249, Or.inl rfl⟩
theorem lkU_RX0_41_6_yX7_pick : MLu RX0 41 RX7 "RoundsPerHour$Climb" ⟨"RoundsPerHour$Climb", "pick", "()I"⟩ yX7_pick cX7_pick 4 (some .int) 0 := ⟨wt_250, wt_251, wt_252, wt_253, wt_254, wt_215, by decide +kernel, by decide +kernel, by decide +kernel⟩
theorem fd_RX7_18_6 : MFd RX7 18 6 11 := ⟨_, _, _, _, rfl, rfl, by decide, uws_6, wt_216, Or.inl rfl⟩
theorem fd_RX7_33_0 : MFd RX7 33 0 0 := ⟨_, _, _, _, rfl, rfl, by decide, uws_0, wt_255, Or.inl rfl⟩
theorem lkV_RX7_39_yX7_heaviestJoining : MLv RX7 39 RX7 yX7_heaviestJoining cX7_heaviestJoining 4 (some .int) 0 := ⟨wt_256, wt_257, wt_258, wt_259, wt_215, rfl, by decide +kernel, by decide +kernel, by decide +kernel⟩
theorem fd_RX7_64_6 : MFd RX7 64 6 9 := ⟨_, _, _, _, rfl, rfl, by decide, uws_6, wt_260, Or.inr wt_261⟩
theorem fd_RX7_54_6 : MFd RX7 54 6 4 := ⟨_, _, _, _, rfl, rfl, by decide, uws_6, wt_262, Or.inr wt_263⟩
theorem fd_RX7_57_0 : MFd RX7 57 0 8 := ⟨_, _, _, _, rfl, rfl, by decide, uws_0, wt_264, Or.inl rfl⟩
theorem fd_RX7_12_6 : MFd RX7 12 6 10 := ⟨_, _, _, _, rfl, rfl, by decide, uws_6, wt_265, Or.inl rfl⟩
theorem fd_RX7_43_0 : MFd RX7 43 0 4 := ⟨_, _, _, _, rfl, rfl, by decide, uws_0, wt_266, Or.inl rfl⟩
theorem fd_RX7_47_0 : MFd RX7 47 0 5 := ⟨_, _, _, _, rfl, rfl, by decide, uws_0, wt_267, Or.inl rfl⟩
theorem lkV_RX7_60_yX2_apart : MLv RX7 60 RX2 yX2_apart cX2_apart 3 (some .boolean) 2 := ⟨wt_268, wt_269, wt_270, wt_271, wt_272, rfl, by decide +kernel, by decide +kernel, by decide +kernel⟩
theorem fd_RX2_9_1 : MFd RX2 9 1 0 := ⟨_, _, _, _, rfl, rfl, by decide, uws_1, wt_273, Or.inl rfl⟩
theorem lkV_RX7_50_yX2_join : MLv RX7 50 RX2 yX2_join cX2_join 6 none 2 := ⟨wt_274, wt_275, wt_276, wt_277, wt_272, rfl, by decide +kernel, by decide +kernel, by decide +kernel⟩
theorem lkV_RX7_30_yX2_part : MLv RX7 30 RX2 yX2_part cX2_part 2 none 0 := ⟨wt_278, wt_279, wt_280, wt_281, wt_272, rfl, by decide +kernel, by decide +kernel, by decide +kernel⟩
theorem fw_RX0_65_6 : MFw RX0 65 6 0 .int := ⟨_, _, _, _, tyX7, rfl, rfl, by decide, uws_6, wt_282, Or.inl rfl, tyX7_ok, nmX7, rfl, by decide +kernel⟩
theorem fd_RX0_65_6 : MFd RX0 65 6 0 := ⟨_, _, _, _, rfl, rfl, by decide, uws_6, wt_282, Or.inl rfl⟩
theorem lkV_RX9_245_yX9_told : MLv RX9 245 RX9 yX9_told cX9_told 4 (some .long) 3 := ⟨wt_283, wt_284, wt_285, wt_286, wt_8, rfl, by decide +kernel, by decide +kernel, by decide +kernel⟩
theorem fd_RX9_255_6 : MFd RX9 255 6 0 := ⟨_, _, _, _, rfl, rfl, by decide, uws_6, wt_287, Or.inl rfl⟩
theorem fd_RX9_259_6 : MFd RX9 259 6 1 := ⟨_, _, _, _, rfl, rfl, by decide, uws_6, wt_288, Or.inl rfl⟩
theorem fd_RX9_262_6 : MFd RX9 262 6 2 := ⟨_, _, _, _, rfl, rfl, by decide, uws_6, wt_289, Or.inl rfl⟩
theorem fd_RX9_265_6 : MFd RX9 265 6 3 := ⟨_, _, _, _, rfl, rfl, by decide, uws_6, wt_290, Or.inl rfl⟩
theorem fd_RX9_39_8 : MFd RX9 39 8 6 := ⟨_, _, _, _, rfl, rfl, by decide, uws_8, wt_291, Or.inl rfl⟩
theorem lkV_RX9_249_yX8_climbs : MLv RX9 249 RX8 yX8_climbs cX8_climbs 4 (some .boolean) 3 := ⟨wt_292, wt_293, wt_294, wt_295, wt_296, rfl, by decide +kernel, by decide +kernel, by decide +kernel⟩
theorem fw_RX8_19_7 : MFw RX8 19 7 12 (.object "RoundsPerHour$Country") := ⟨_, _, _, _, tyX8, rfl, rfl, by decide, uws_7, wt_297, Or.inl rfl, tyX8_ok, nmX8, rfl, by decide +kernel⟩
theorem fw_RX8_23_7 : MFw RX8 23 7 13 .int := ⟨_, _, _, _, tyX8, rfl, rfl, by decide, uws_7, wt_298, Or.inl rfl, tyX8_ok, nmX8, rfl, by decide +kernel⟩
theorem fw_RX8_27_7 : MFw RX8 27 7 14 .int := ⟨_, _, _, _, tyX8, rfl, rfl, by decide, uws_7, wt_299, Or.inl rfl, tyX8_ok, nmX8, rfl, by decide +kernel⟩
theorem lkU_RX8_30_7_yX0_takeWays : MLu RX8 30 RX8 "RoundsPerHour$Climb" ⟨"RoundsPerHour$WalkClimb", "takeWays", "(LRoundsPerHour$Country;)V"⟩ yX0_takeWays cX0_takeWays 3 none 1 := ⟨wt_217, wt_300, wt_301, wt_302, wt_221, wt_222, by decide +kernel, by decide +kernel, by decide +kernel⟩
theorem fd_RX0_27_7 : MFd RX0 27 7 4 := ⟨_, _, _, _, rfl, rfl, by decide, uws_7, wt_223, Or.inl rfl⟩
theorem fd_RX0_9_7 : MFd RX0 9 7 7 := ⟨_, _, _, _, rfl, rfl, by decide, uws_7, wt_224, Or.inl rfl⟩
theorem fd_RX0_15_7 : MFd RX0 15 7 8 := ⟨_, _, _, _, rfl, rfl, by decide, uws_7, wt_226, Or.inl rfl⟩
theorem fw_RX0_27_7 : MFw RX0 27 7 4 .int := ⟨_, _, _, _, tyX8, rfl, rfl, by decide, uws_7, wt_223, Or.inl rfl, tyX8_ok, nmX8, rfl, by decide +kernel⟩
theorem lkU_RX8_34_7_yX0_runs : MLu RX8 34 RX8 "RoundsPerHour$Climb" ⟨"RoundsPerHour$WalkClimb", "runs", "()Z"⟩ yX0_runs cX0_runs 7 (some .boolean) 0 := ⟨wt_229, wt_303, wt_304, wt_305, wt_233, wt_222, by decide +kernel, by decide +kernel, by decide +kernel⟩
theorem fw_RX0_45_7 : MFw RX0 45 7 1 .int := ⟨_, _, _, _, tyX8, rfl, rfl, by decide, uws_7, wt_234, Or.inl rfl, tyX8_ok, nmX8, rfl, by decide +kernel⟩
theorem fd_RX0_48_7 : MFd RX0 48 7 5 := ⟨_, _, _, _, rfl, rfl, by decide, uws_7, wt_235, Or.inl rfl⟩
theorem lkU_RX0_52_7_yX0_together : MLu RX0 52 RX8 "RoundsPerHour$Climb" ⟨"RoundsPerHour$Climb", "together", "([JI)J"⟩ yX0_together cX0_together 6 (some .long) 2 := ⟨wt_236, wt_237, wt_238, wt_306, wt_240, wt_222, by decide +kernel, by decide +kernel, by decide +kernel⟩
theorem fw_RX0_56_7 : MFw RX0 56 7 2 .long := ⟨_, _, _, _, tyX8, rfl, rfl, by decide, uws_7, wt_241, Or.inl rfl, tyX8_ok, nmX8, rfl, by decide +kernel⟩
theorem fd_RX0_59_7 : MFd RX0 59 7 6 := ⟨_, _, _, _, rfl, rfl, by decide, uws_7, wt_242, Or.inl rfl⟩
theorem fw_RX0_62_7 : MFw RX0 62 7 3 .long := ⟨_, _, _, _, tyX8, rfl, rfl, by decide, uws_7, wt_243, Or.inl rfl, tyX8_ok, nmX8, rfl, by decide +kernel⟩
theorem fd_RX0_56_7 : MFd RX0 56 7 2 := ⟨_, _, _, _, rfl, rfl, by decide, uws_7, wt_241, Or.inl rfl⟩
theorem fd_RX0_62_7 : MFd RX0 62 7 3 := ⟨_, _, _, _, rfl, rfl, by decide, uws_7, wt_243, Or.inl rfl⟩
theorem lkU_RX0_37_7_yX0_weigh : MLu RX0 37 RX8 "RoundsPerHour$Climb" ⟨"RoundsPerHour$Climb", "weigh", "(JJ)V"⟩ yX0_weigh cX0_weigh 6 none 2 := ⟨wt_244, wt_245, wt_246, wt_307, wt_248, wt_222, by decide +kernel, by decide +kernel, by decide +kernel⟩
theorem fd_RX0_18_7 : MFd RX0 18 7 9 := ⟨_, _, _, _, rfl, rfl, by decide, uws_7, wt_249, Or.inl rfl⟩
theorem lkU_RX0_41_7_yX8_pick : MLu RX0 41 RX8 "RoundsPerHour$Climb" ⟨"RoundsPerHour$Climb", "pick", "()I"⟩ yX8_pick cX8_pick 2 (some .int) 0 := ⟨wt_308, wt_251, wt_252, wt_309, wt_310, wt_296, by decide +kernel, by decide +kernel, by decide +kernel⟩
theorem fd_RX8_27_7 : MFd RX8 27 7 14 := ⟨_, _, _, _, rfl, rfl, by decide, uws_7, wt_299, Or.inl rfl⟩
theorem fd_RX8_15_7 : MFd RX8 15 7 11 := ⟨_, _, _, _, rfl, rfl, by decide, uws_7, wt_311, Or.inl rfl⟩
theorem fd_RX8_23_7 : MFd RX8 23 7 13 := ⟨_, _, _, _, rfl, rfl, by decide, uws_7, wt_298, Or.inl rfl⟩
theorem lkV_RX8_38_yX8_leave : MLv RX8 38 RX8 yX8_leave cX8_leave 8 none 1 := ⟨wt_312, wt_313, wt_314, wt_315, wt_296, rfl, by decide +kernel, by decide +kernel, by decide +kernel⟩
theorem fd_RX8_9_7 : MFd RX8 9 7 10 := ⟨_, _, _, _, rfl, rfl, by decide, uws_7, wt_316, Or.inl rfl⟩
theorem fd_RX8_42_7 : MFd RX8 42 7 4 := ⟨_, _, _, _, rfl, rfl, by decide, uws_7, wt_317, Or.inr wt_318⟩
theorem fd_RX8_19_7 : MFd RX8 19 7 12 := ⟨_, _, _, _, rfl, rfl, by decide, uws_7, wt_297, Or.inl rfl⟩
theorem fd_RX8_45_0 : MFd RX8 45 0 5 := ⟨_, _, _, _, rfl, rfl, by decide, uws_0, wt_319, Or.inl rfl⟩
theorem fd_RX8_50_0 : MFd RX8 50 0 8 := ⟨_, _, _, _, rfl, rfl, by decide, uws_0, wt_320, Or.inl rfl⟩
theorem fd_RX8_53_0 : MFd RX8 53 0 4 := ⟨_, _, _, _, rfl, rfl, by decide, uws_0, wt_321, Or.inl rfl⟩
theorem fd_RX8_56_7 : MFd RX8 56 7 9 := ⟨_, _, _, _, rfl, rfl, by decide, uws_7, wt_322, Or.inr wt_323⟩
theorem fw_RX0_65_7 : MFw RX0 65 7 0 .int := ⟨_, _, _, _, tyX8, rfl, rfl, by decide, uws_7, wt_282, Or.inl rfl, tyX8_ok, nmX8, rfl, by decide +kernel⟩
theorem fd_RX0_65_7 : MFd RX0 65 7 0 := ⟨_, _, _, _, rfl, rfl, by decide, uws_7, wt_282, Or.inl rfl⟩
theorem fd_RX9_255_7 : MFd RX9 255 7 0 := ⟨_, _, _, _, rfl, rfl, by decide, uws_7, wt_287, Or.inl rfl⟩
theorem fd_RX9_259_7 : MFd RX9 259 7 1 := ⟨_, _, _, _, rfl, rfl, by decide, uws_7, wt_288, Or.inl rfl⟩
theorem fd_RX9_262_7 : MFd RX9 262 7 2 := ⟨_, _, _, _, rfl, rfl, by decide, uws_7, wt_289, Or.inl rfl⟩
theorem fd_RX9_265_7 : MFd RX9 265 7 3 := ⟨_, _, _, _, rfl, rfl, by decide, uws_7, wt_290, Or.inl rfl⟩
theorem fd_RX9_46_8 : MFd RX9 46 8 7 := ⟨_, _, _, _, rfl, rfl, by decide, uws_8, wt_324, Or.inl rfl⟩
theorem lkV_RX9_252_yX3_climbs : MLv RX9 252 RX3 yX3_climbs cX3_climbs 4 (some .boolean) 2 := ⟨wt_325, wt_326, wt_327, wt_328, wt_329, rfl, by decide +kernel, by decide +kernel, by decide +kernel⟩
theorem fd_RX3_18_2 : MFd RX3 18 2 4 := ⟨_, _, _, _, rfl, rfl, by decide, uws_2, wt_330, Or.inr wt_331⟩
theorem lkU_RX3_42_2_yX0_runs : MLu RX3 42 RX3 "RoundsPerHour$Climb" ⟨"RoundsPerHour$LoadClimb", "runs", "()Z"⟩ yX0_runs cX0_runs 7 (some .boolean) 0 := ⟨wt_229, wt_332, wt_333, wt_334, wt_233, wt_222, by decide +kernel, by decide +kernel, by decide +kernel⟩
theorem fw_RX0_45_2 : MFw RX0 45 2 1 .int := ⟨_, _, _, _, tyX3, rfl, rfl, by decide, uws_2, wt_234, Or.inl rfl, tyX3_ok, nmX3, rfl, by decide +kernel⟩
theorem fd_RX0_48_2 : MFd RX0 48 2 5 := ⟨_, _, _, _, rfl, rfl, by decide, uws_2, wt_235, Or.inl rfl⟩
theorem fd_RX0_9_2 : MFd RX0 9 2 7 := ⟨_, _, _, _, rfl, rfl, by decide, uws_2, wt_224, Or.inl rfl⟩
theorem lkU_RX0_52_2_yX0_together : MLu RX0 52 RX3 "RoundsPerHour$Climb" ⟨"RoundsPerHour$Climb", "together", "([JI)J"⟩ yX0_together cX0_together 6 (some .long) 2 := ⟨wt_236, wt_237, wt_238, wt_335, wt_240, wt_222, by decide +kernel, by decide +kernel, by decide +kernel⟩
theorem fd_RX0_27_2 : MFd RX0 27 2 4 := ⟨_, _, _, _, rfl, rfl, by decide, uws_2, wt_223, Or.inl rfl⟩
theorem fw_RX0_56_2 : MFw RX0 56 2 2 .long := ⟨_, _, _, _, tyX3, rfl, rfl, by decide, uws_2, wt_241, Or.inl rfl, tyX3_ok, nmX3, rfl, by decide +kernel⟩
theorem fd_RX0_59_2 : MFd RX0 59 2 6 := ⟨_, _, _, _, rfl, rfl, by decide, uws_2, wt_242, Or.inl rfl⟩
theorem fd_RX0_15_2 : MFd RX0 15 2 8 := ⟨_, _, _, _, rfl, rfl, by decide, uws_2, wt_226, Or.inl rfl⟩
theorem fw_RX0_62_2 : MFw RX0 62 2 3 .long := ⟨_, _, _, _, tyX3, rfl, rfl, by decide, uws_2, wt_243, Or.inl rfl, tyX3_ok, nmX3, rfl, by decide +kernel⟩
theorem fd_RX0_56_2 : MFd RX0 56 2 2 := ⟨_, _, _, _, rfl, rfl, by decide, uws_2, wt_241, Or.inl rfl⟩
theorem fd_RX0_62_2 : MFd RX0 62 2 3 := ⟨_, _, _, _, rfl, rfl, by decide, uws_2, wt_243, Or.inl rfl⟩
theorem lkU_RX0_37_2_yX0_weigh : MLu RX0 37 RX3 "RoundsPerHour$Climb" ⟨"RoundsPerHour$Climb", "weigh", "(JJ)V"⟩ yX0_weigh cX0_weigh 6 none 2 := ⟨wt_244, wt_245, wt_246, wt_336, wt_248, wt_222, by decide +kernel, by decide +kernel, by decide +kernel⟩
theorem fd_RX0_18_2 : MFd RX0 18 2 9 := ⟨_, _, _, _, rfl, rfl, by decide, uws_2, wt_249, Or.inl rfl⟩
theorem lkU_RX0_41_2_yX3_pick : MLu RX0 41 RX3 "RoundsPerHour$Climb" ⟨"RoundsPerHour$Climb", "pick", "()I"⟩ yX3_pick cX3_pick 5 (some .int) 0 := ⟨wt_337, wt_251, wt_252, wt_338, wt_339, wt_329, by decide +kernel, by decide +kernel, by decide +kernel⟩
theorem fd_RX3_46_2 : MFd RX3 46 2 9 := ⟨_, _, _, _, rfl, rfl, by decide, uws_2, wt_340, Or.inr wt_341⟩
theorem fd_RX3_7_2 : MFd RX3 7 2 10 := ⟨_, _, _, _, rfl, rfl, by decide, uws_2, wt_342, Or.inl rfl⟩
theorem fw_RX0_65_2 : MFw RX0 65 2 0 .int := ⟨_, _, _, _, tyX3, rfl, rfl, by decide, uws_2, wt_282, Or.inl rfl, tyX3_ok, nmX3, rfl, by decide +kernel⟩
theorem fd_RX0_65_2 : MFd RX0 65 2 0 := ⟨_, _, _, _, rfl, rfl, by decide, uws_2, wt_282, Or.inl rfl⟩
theorem fd_RX3_35_2 : MFd RX3 35 2 7 := ⟨_, _, _, _, rfl, rfl, by decide, uws_2, wt_343, Or.inr wt_344⟩
theorem fd_RX3_21_0 : MFd RX3 21 0 10 := ⟨_, _, _, _, rfl, rfl, by decide, uws_0, wt_345, Or.inl rfl⟩
theorem fd_RX3_39_2 : MFd RX3 39 2 8 := ⟨_, _, _, _, rfl, rfl, by decide, uws_2, wt_346, Or.inr wt_347⟩
theorem fd_RX3_29_0 : MFd RX3 29 0 11 := ⟨_, _, _, _, rfl, rfl, by decide, uws_0, wt_348, Or.inl rfl⟩
theorem fw_RX3_7_2 : MFw RX3 7 2 10 .int := ⟨_, _, _, _, tyX3, rfl, rfl, by decide, uws_2, wt_342, Or.inl rfl, tyX3_ok, nmX3, rfl, by decide +kernel⟩
theorem fd_RX3_13_0 : MFd RX3 13 0 9 := ⟨_, _, _, _, rfl, rfl, by decide, uws_0, wt_349, Or.inl rfl⟩
theorem fw_RX3_18_2 : MFw RX3 18 2 4 .int := ⟨_, _, _, _, tyX3, rfl, rfl, by decide, uws_2, wt_330, Or.inr wt_331, tyX3_ok, nmX3, rfl, by decide +kernel⟩
theorem fw_RX3_25_2 : MFw RX3 25 2 5 .long := ⟨_, _, _, _, tyX3, rfl, rfl, by decide, uws_2, wt_350, Or.inr wt_351, tyX3_ok, nmX3, rfl, by decide +kernel⟩
theorem fw_RX3_32_2 : MFw RX3 32 2 6 .long := ⟨_, _, _, _, tyX3, rfl, rfl, by decide, uws_2, wt_352, Or.inr wt_353, tyX3_ok, nmX3, rfl, by decide +kernel⟩
theorem fd_RX9_255_2 : MFd RX9 255 2 0 := ⟨_, _, _, _, rfl, rfl, by decide, uws_2, wt_287, Or.inl rfl⟩
theorem fd_RX9_259_2 : MFd RX9 259 2 1 := ⟨_, _, _, _, rfl, rfl, by decide, uws_2, wt_288, Or.inl rfl⟩
theorem fd_RX9_262_2 : MFd RX9 262 2 2 := ⟨_, _, _, _, rfl, rfl, by decide, uws_2, wt_289, Or.inl rfl⟩
theorem fd_RX9_265_2 : MFd RX9 265 2 3 := ⟨_, _, _, _, rfl, rfl, by decide, uws_2, wt_290, Or.inl rfl⟩
theorem lkV_RX9_267_yX9_isChoice : MLv RX9 267 RX9 yX9_isChoice cX9_isChoice 3 (some .boolean) 2 := ⟨wt_354, wt_355, wt_356, wt_357, wt_8, rfl, by decide +kernel, by decide +kernel, by decide +kernel⟩
theorem lkV_RX9_282_yX1_isOpenSet : MLv RX9 282 RX1 yX1_isOpenSet cX1_isOpenSet 3 (some .boolean) 1 := ⟨wt_358, wt_359, wt_360, wt_361, wt_32, rfl, by decide +kernel, by decide +kernel, by decide +kernel⟩
theorem lkV_RX9_285_yX1_isRing : MLv RX9 285 RX1 yX1_isRing cX1_isRing 7 (some .boolean) 1 := ⟨wt_362, wt_363, wt_364, wt_365, wt_32, rfl, by decide +kernel, by decide +kernel, by decide +kernel⟩
theorem lkV_RX1_60_yX1_firstFrom : MLv RX1 60 RX1 yX1_firstFrom cX1_firstFrom 4 (some .int) 2 := ⟨wt_366, wt_367, wt_368, wt_369, wt_32, rfl, by decide +kernel, by decide +kernel, by decide +kernel⟩
theorem lkS_RX1_64_yJ6_bitCount_0f7a4 : MLs RX1 64 yJ6_bitCount_0f7a4 cJ6_bitCount_0f7a4 1 (some .int) 1 := ⟨wt_370, wt_371, wt_372, wt_373, by decide +kernel, by decide +kernel, by decide +kernel⟩
theorem fd_RX9_53_8 : MFd RX9 53 8 8 := ⟨_, _, _, _, rfl, rfl, by decide, uws_8, wt_377, Or.inl rfl⟩
theorem lkV_RX9_288_yX2_isTree : MLv RX9 288 RX2 yX2_isTree cX2_isTree 4 (some .boolean) 2 := ⟨wt_378, wt_379, wt_380, wt_381, wt_272, rfl, by decide +kernel, by decide +kernel, by decide +kernel⟩
theorem fd_RX2_30_0 : MFd RX2 30 0 2 := ⟨_, _, _, _, rfl, rfl, by decide, uws_0, wt_382, Or.inl rfl⟩
theorem fd_RX2_33_0 : MFd RX2 33 0 4 := ⟨_, _, _, _, rfl, rfl, by decide, uws_0, wt_383, Or.inl rfl⟩
theorem fd_RX2_36_0 : MFd RX2 36 0 5 := ⟨_, _, _, _, rfl, rfl, by decide, uws_0, wt_384, Or.inl rfl⟩
theorem lkV_RX2_39_yX2_apart : MLv RX2 39 RX2 yX2_apart cX2_apart 3 (some .boolean) 2 := ⟨wt_268, wt_385, wt_270, wt_271, wt_272, rfl, by decide +kernel, by decide +kernel, by decide +kernel⟩
theorem lkV_RX2_43_yX2_join : MLv RX2 43 RX2 yX2_join cX2_join 6 none 2 := ⟨wt_274, wt_386, wt_276, wt_277, wt_272, rfl, by decide +kernel, by decide +kernel, by decide +kernel⟩
theorem lkS_RX2_15_yJ6_bitCount_0f7a4 : MLs RX2 15 yJ6_bitCount_0f7a4 cJ6_bitCount_0f7a4 1 (some .int) 1 := ⟨wt_370, wt_387, wt_372, wt_373, by decide +kernel, by decide +kernel, by decide +kernel⟩
theorem fd_RX2_21_0 : MFd RX2 21 0 0 := ⟨_, _, _, _, rfl, rfl, by decide, uws_0, wt_388, Or.inl rfl⟩
theorem lkV_RX2_27_yX2_part : MLv RX2 27 RX2 yX2_part cX2_part 2 none 0 := ⟨wt_278, wt_389, wt_280, wt_281, wt_272, rfl, by decide +kernel, by decide +kernel, by decide +kernel⟩
theorem lkV_RX9_276_yX1_bringTogether : MLv RX9 276 RX1 yX1_bringTogether cX1_bringTogether 5 (some .long) 1 := ⟨wt_390, wt_391, wt_392, wt_393, wt_32, rfl, by decide +kernel, by decide +kernel, by decide +kernel⟩
theorem lkV_RX1_70_yX1_bringsOf : MLv RX1 70 RX1 yX1_bringsOf cX1_bringsOf 2 (some .int) 1 := ⟨wt_53, wt_394, wt_55, wt_56, wt_32, rfl, by decide +kernel, by decide +kernel, by decide +kernel⟩
theorem lkV_RX9_279_yX1_lastTogether : MLv RX9 279 RX1 yX1_lastTogether cX1_lastTogether 5 (some .long) 1 := ⟨wt_395, wt_396, wt_397, wt_398, wt_32, rfl, by decide +kernel, by decide +kernel, by decide +kernel⟩
theorem lkV_RX1_73_yX1_lastsOf : MLv RX1 73 RX1 yX1_lastsOf cX1_lastsOf 2 (some .int) 1 := ⟨wt_61, wt_399, wt_63, wt_64, wt_32, rfl, by decide +kernel, by decide +kernel, by decide +kernel⟩
theorem lkV_RX9_270_yX1_gainTogether : MLv RX9 270 RX1 yX1_gainTogether cX1_gainTogether 2 (some .long) 1 := ⟨wt_400, wt_401, wt_402, wt_403, wt_32, rfl, by decide +kernel, by decide +kernel, by decide +kernel⟩
theorem lkV_RX1_76_yX1_sumWithBase : MLv RX1 76 RX1 yX1_sumWithBase cX1_sumWithBase 6 (some .long) 2 := ⟨wt_404, wt_405, wt_406, wt_407, wt_32, rfl, by decide +kernel, by decide +kernel, by decide +kernel⟩
theorem lkV_RX9_273_yX1_timeTogether : MLv RX9 273 RX1 yX1_timeTogether cX1_timeTogether 2 (some .long) 1 := ⟨wt_408, wt_409, wt_410, wt_411, wt_32, rfl, by decide +kernel, by decide +kernel, by decide +kernel⟩
theorem lkV_RX9_291_yX9_fractionFault : MLv RX9 291 RX9 yX9_fractionFault cX9_fractionFault 6 (some .int) 3 := ⟨wt_412, wt_413, wt_414, wt_415, wt_8, rfl, by decide +kernel, by decide +kernel, by decide +kernel⟩
theorem lkV_RX9_315_yX9_sheetFault : MLv RX9 315 RX9 yX9_sheetFault cX9_sheetFault 2 (some .int) 1 := ⟨wt_416, wt_417, wt_418, wt_419, wt_8, rfl, by decide +kernel, by decide +kernel, by decide +kernel⟩
theorem fd_RX9_66_8 : MFd RX9 66 8 10 := ⟨_, _, _, _, rfl, rfl, by decide, uws_8, wt_420, Or.inl rfl⟩
theorem fd_RX9_340_4 : MFd RX9 340 4 0 := ⟨_, _, _, _, rfl, rfl, by decide, uws_4, wt_421, Or.inl rfl⟩
theorem lkV_RX9_318_yX5_hasFraction : MLv RX9 318 RX5 yX5_hasFraction cX5_hasFraction 2 (some .boolean) 1 := ⟨wt_422, wt_423, wt_424, wt_425, wt_426, rfl, by decide +kernel, by decide +kernel, by decide +kernel⟩
theorem fd_RX5_19_4 : MFd RX5 19 4 1 := ⟨_, _, _, _, rfl, rfl, by decide, uws_4, wt_427, Or.inl rfl⟩
theorem lkN_RX5_22_yX9_within : MLn RX5 22 "RoundsPerHour" yX9_within cX9_within 3 (some .boolean) 3 := ⟨wt_12, List.mem_of_getElem? (i := 11) rfl, wt_14, wt_8, by decide +kernel, by decide +kernel, by decide +kernel⟩
theorem fd_RX9_295_4 : MFd RX9 295 4 2 := ⟨_, _, _, _, rfl, rfl, by decide, uws_4, wt_428, Or.inl rfl⟩
theorem lkS_RX9_298_yJ13_compare_74951 : MLs RX9 298 yJ13_compare_74951 cJ13_compare_74951 4 (some .int) 2 := ⟨wt_135, wt_429, wt_137, wt_138, by decide +kernel, by decide +kernel, by decide +kernel⟩
theorem lkV_RX9_309_yX5_put : MLv RX9 309 RX5 yX5_put cX5_put 4 none 2 := ⟨wt_430, wt_431, wt_432, wt_433, wt_426, rfl, by decide +kernel, by decide +kernel, by decide +kernel⟩
theorem fd_RX5_15_4 : MFd RX5 15 4 0 := ⟨_, _, _, _, rfl, rfl, by decide, uws_4, wt_434, Or.inl rfl⟩
theorem fd_RX5_9_4 : MFd RX5 9 4 2 := ⟨_, _, _, _, rfl, rfl, by decide, uws_4, wt_435, Or.inl rfl⟩
theorem lkS_RX9_312_yX9_sumFits : MLs RX9 312 yX9_sumFits cX9_sumFits 6 (some .boolean) 2 := ⟨wt_436, wt_437, wt_438, wt_8, by decide +kernel, by decide +kernel, by decide +kernel⟩
theorem fd_RX9_60_8 : MFd RX9 60 8 9 := ⟨_, _, _, _, rfl, rfl, by decide, uws_8, wt_439, Or.inl rfl⟩
theorem fd_RX9_321_5 : MFd RX9 321 5 0 := ⟨_, _, _, _, rfl, rfl, by decide, uws_5, wt_440, Or.inl rfl⟩
theorem lkV_RX9_324_yX6_append : MLv RX9 324 RX6 yX6_append cX6_append 2 none 1 := ⟨wt_441, wt_442, wt_443, wt_444, wt_445, rfl, by decide +kernel, by decide +kernel, by decide +kernel⟩
theorem fd_RX6_15_5 : MFd RX6 15 5 0 := ⟨_, _, _, _, rfl, rfl, by decide, uws_5, wt_446, Or.inl rfl⟩
theorem fd_RX6_9_5 : MFd RX6 9 5 1 := ⟨_, _, _, _, rfl, rfl, by decide, uws_5, wt_447, Or.inl rfl⟩
theorem fw_RX6_15_5 : MFw RX6 15 5 0 .int := ⟨_, _, _, _, tyX6, rfl, rfl, by decide, uws_5, wt_446, Or.inl rfl, tyX6_ok, nmX6, rfl, by decide +kernel⟩
theorem fw_RX9_321_5 : MFw RX9 321 5 0 .int := ⟨_, _, _, _, tyX6, rfl, rfl, by decide, uws_5, wt_440, Or.inl rfl, tyX6_ok, nmX6, rfl, by decide +kernel⟩
theorem lkV_RX9_328_yX6_tellTo : MLv RX9 328 RX6 yX6_tellTo cX6_tellTo 3 (some .int) 1 := ⟨wt_448, wt_449, wt_450, wt_451, wt_445, rfl, by decide +kernel, by decide +kernel, by decide +kernel⟩
theorem fd_RX6_33_5 : MFd RX6 33 5 4 := ⟨_, _, _, _, rfl, rfl, by decide, uws_5, wt_452, Or.inl rfl⟩
theorem lkV_RX6_29_yX6_item : MLv RX6 29 RX6 yX6_item cX6_item 1 (some .boolean) 0 := ⟨wt_453, wt_454, wt_455, wt_456, wt_445, rfl, by decide +kernel, by decide +kernel, by decide +kernel⟩
theorem lkV_RX6_41_yX6_isWord : MLv RX6 41 RX6 yX6_isWord cX6_isWord 3 (some .boolean) 1 := ⟨wt_457, wt_458, wt_459, wt_460, wt_445, rfl, by decide +kernel, by decide +kernel, by decide +kernel⟩
theorem lkV_RX6_127_yJ0_length_8abf5 : MLv RX6 127 "java/lang/String" yJ0_length_8abf5 cJ0_length_8abf5 1 (some .int) 0 := ⟨wt_461, wt_462, wt_463, wt_464, wt_465, rfl, by decide +kernel, by decide +kernel, by decide +kernel⟩
theorem lkV_RJ0_335_yJ0_coder_7d493 : MLv RJ0 335 "java/lang/String" yJ0_coder_7d493 cJ0_coder_7d493 1 (some .byte) 0 := ⟨wt_467, wt_468, wt_469, wt_470, wt_465, rfl, by decide +kernel, by decide +kernel, by decide +kernel⟩
theorem lkV_RX6_131_yJ0_charAt_5068e : MLv RX6 131 "java/lang/String" yJ0_charAt_5068e cJ0_charAt_5068e 2 (some .char) 1 := ⟨wt_473, wt_474, wt_475, wt_476, wt_465, rfl, by decide +kernel, by decide +kernel, by decide +kernel⟩
theorem lkV_RJ0_492_yJ0_isLatin1_aae02 : MLv RJ0 492 "java/lang/String" yJ0_isLatin1_aae02 cJ0_isLatin1_aae02 1 (some .boolean) 0 := ⟨wt_477, wt_478, wt_479, wt_480, wt_465, rfl, by decide +kernel, by decide +kernel, by decide +kernel⟩
theorem lkS_RJ0_495_yJ1_charAt_3b067 : MLs RJ0 495 yJ1_charAt_3b067 cJ1_charAt_3b067 2 (some .char) 2 := ⟨wt_481, wt_482, wt_483, wt_484, by decide +kernel, by decide +kernel, by decide +kernel⟩
theorem lkS_RJ1_9_yJ0_checkIndex_df160 : MLs RJ1 9 yJ0_checkIndex_df160 cJ0_checkIndex_df160 2 none 2 := ⟨wt_485, wt_486, wt_487, wt_488, by decide +kernel, by decide +kernel, by decide +kernel⟩
theorem lkS_RJ0_1059_yJ3_checkIndex_8e157 : MLs RJ0 1059 yJ3_checkIndex_8e157 cJ3_checkIndex_8e157 3 (some .int) 3 := ⟨wt_490, wt_491, wt_492, wt_493, by decide +kernel, by decide +kernel, by decide +kernel⟩
theorem fd_RX6_36_5 : MFd RX6 36 5 3 := ⟨_, _, _, _, rfl, rfl, by decide, uws_5, wt_494, Or.inl rfl⟩
theorem fd_RX6_23_5 : MFd RX6 23 5 5 := ⟨_, _, _, _, rfl, rfl, by decide, uws_5, wt_495, Or.inl rfl⟩
theorem lkV_RX6_58_yX6_kindTold : MLv RX6 58 RX6 yX6_kindTold cX6_kindTold 1 (some .int) 0 := ⟨wt_496, wt_497, wt_498, wt_499, wt_445, rfl, by decide +kernel, by decide +kernel, by decide +kernel⟩
theorem lkV_RX6_62_yX6_wayItem : MLv RX6 62 RX6 yX6_wayItem cX6_wayItem 5 (some .boolean) 1 := ⟨wt_500, wt_501, wt_502, wt_503, wt_445, rfl, by decide +kernel, by decide +kernel, by decide +kernel⟩
theorem fd_RX6_19_5 : MFd RX6 19 5 2 := ⟨_, _, _, _, rfl, rfl, by decide, uws_5, wt_504, Or.inl rfl⟩
theorem fd_RX6_95_0 : MFd RX6 95 0 2 := ⟨_, _, _, _, rfl, rfl, by decide, uws_0, wt_505, Or.inl rfl⟩
theorem lkV_RX6_26_yX6_next : MLv RX6 26 RX6 yX6_next cX6_next 1 none 0 := ⟨wt_506, wt_507, wt_508, wt_509, wt_445, rfl, by decide +kernel, by decide +kernel, by decide +kernel⟩
theorem fw_RX6_36_5 : MFw RX6 36 5 3 .int := ⟨_, _, _, _, tyX6, rfl, rfl, by decide, uws_5, wt_494, Or.inl rfl, tyX6_ok, nmX6, rfl, by decide +kernel⟩
theorem fw_RX6_23_5 : MFw RX6 23 5 5 .int := ⟨_, _, _, _, tyX6, rfl, rfl, by decide, uws_5, wt_495, Or.inl rfl, tyX6_ok, nmX6, rfl, by decide +kernel⟩
theorem lkS_RX6_135_yX6_isLetter : MLs RX6 135 yX6_isLetter cX6_isLetter 1 (some .boolean) 1 := ⟨wt_510, wt_511, wt_512, wt_445, by decide +kernel, by decide +kernel, by decide +kernel⟩
theorem fw_RX6_33_5 : MFw RX6 33 5 4 .int := ⟨_, _, _, _, tyX6, rfl, rfl, by decide, uws_5, wt_452, Or.inl rfl, tyX6_ok, nmX6, rfl, by decide +kernel⟩
theorem lkS_RX6_138_yX6_isDigit : MLs RX6 138 yX6_isDigit cX6_isDigit 1 (some .boolean) 1 := ⟨wt_513, wt_514, wt_515, wt_445, by decide +kernel, by decide +kernel, by decide +kernel⟩
theorem lkV_RX6_141_yX6_takeDigits : MLv RX6 141 RX6 yX6_takeDigits cX6_takeDigits 1 none 0 := ⟨wt_516, wt_517, wt_518, wt_519, wt_445, rfl, by decide +kernel, by decide +kernel, by decide +kernel⟩
theorem fd_RX6_74_5 : MFd RX6 74 5 6 := ⟨_, _, _, _, rfl, rfl, by decide, uws_5, wt_520, Or.inl rfl⟩
theorem fw_RX6_74_5 : MFw RX6 74 5 6 .int := ⟨_, _, _, _, tyX6, rfl, rfl, by decide, uws_5, wt_520, Or.inl rfl, tyX6_ok, nmX6, rfl, by decide +kernel⟩
theorem fd_RX6_66_0 : MFd RX6 66 0 0 := ⟨_, _, _, _, rfl, rfl, by decide, uws_0, wt_525, Or.inl rfl⟩
theorem lkV_RX6_70_yX6_isNumber : MLv RX6 70 RX6 yX6_isNumber cX6_isNumber 3 (some .boolean) 2 := ⟨wt_526, wt_527, wt_528, wt_529, wt_445, rfl, by decide +kernel, by decide +kernel, by decide +kernel⟩
theorem lkN_RX6_123_yX9_within : MLn RX6 123 "RoundsPerHour" yX9_within cX9_within 3 (some .boolean) 3 := ⟨wt_12, List.mem_of_getElem? (i := 12) rfl, wt_14, wt_8, by decide +kernel, by decide +kernel, by decide +kernel⟩
theorem lkV_RX6_82_yX6_gainAndTime : MLv RX6 82 RX6 yX6_gainAndTime cX6_gainAndTime 2 (some .boolean) 0 := ⟨wt_530, wt_531, wt_532, wt_533, wt_445, rfl, by decide +kernel, by decide +kernel, by decide +kernel⟩
theorem fw_RX6_88_5 : MFw RX6 88 5 8 .int := ⟨_, _, _, _, tyX6, rfl, rfl, by decide, uws_5, wt_535, Or.inl rfl, tyX6_ok, nmX6, rfl, by decide +kernel⟩
theorem fw_RX6_85_5 : MFw RX6 85 5 7 .int := ⟨_, _, _, _, tyX6, rfl, rfl, by decide, uws_5, wt_536, Or.inl rfl, tyX6_ok, nmX6, rfl, by decide +kernel⟩
theorem fd_RX6_85_5 : MFd RX6 85 5 7 := ⟨_, _, _, _, rfl, rfl, by decide, uws_5, wt_536, Or.inl rfl⟩
theorem fd_RX6_88_5 : MFd RX6 88 5 8 := ⟨_, _, _, _, rfl, rfl, by decide, uws_5, wt_535, Or.inl rfl⟩
theorem lkV_RX6_98_yX1_newWay : MLv RX6 98 RX1 yX1_newWay cX1_newWay 7 (some .int) 5 := ⟨wt_28, wt_537, wt_30, wt_31, wt_32, rfl, by decide +kernel, by decide +kernel, by decide +kernel⟩
theorem fd_RX6_104_0 : MFd RX6 104 0 8 := ⟨_, _, _, _, rfl, rfl, by decide, uws_0, wt_538, Or.inl rfl⟩
theorem lkV_RX6_55_yX6_thingItem : MLv RX6 55 RX6 yX6_thingItem cX6_thingItem 1 (some .boolean) 0 := ⟨wt_539, wt_540, wt_541, wt_542, wt_445, rfl, by decide +kernel, by decide +kernel, by decide +kernel⟩
theorem fd_RX6_79_0 : MFd RX6 79 0 9 := ⟨_, _, _, _, rfl, rfl, by decide, uws_0, wt_543, Or.inl rfl⟩
theorem lkV_RX6_91_yX1_newThing : MLv RX6 91 RX1 yX1_newThing cX1_newThing 3 (some .int) 2 := ⟨wt_80, wt_544, wt_82, wt_83, wt_32, rfl, by decide +kernel, by decide +kernel, by decide +kernel⟩
theorem lkV_RX6_50_yX6_weatherItem : MLv RX6 50 RX6 yX6_weatherItem cX6_weatherItem 1 (some .boolean) 0 := ⟨wt_545, wt_546, wt_547, wt_548, wt_445, rfl, by decide +kernel, by decide +kernel, by decide +kernel⟩
theorem fw_RX6_77_0 : MFw RX6 77 0 1 .int := ⟨_, _, _, _, tyX1, rfl, rfl, by decide, uws_0, wt_549, Or.inl rfl, tyX1_ok, nmX1, rfl, by decide +kernel⟩
theorem lkV_RX6_45_yX6_placesItem : MLv RX6 45 RX6 yX6_placesItem cX6_placesItem 1 (some .boolean) 0 := ⟨wt_550, wt_551, wt_552, wt_553, wt_445, rfl, by decide +kernel, by decide +kernel, by decide +kernel⟩
theorem fw_RX6_66_0 : MFw RX6 66 0 0 .int := ⟨_, _, _, _, tyX1, rfl, rfl, by decide, uws_0, wt_525, Or.inl rfl, tyX1_ok, nmX1, rfl, by decide +kernel⟩
theorem fw_RX6_19_5 : MFw RX6 19 5 2 (.object "RoundsPerHour$Country") := ⟨_, _, _, _, tyX6, rfl, rfl, by decide, uws_5, wt_504, Or.inl rfl, tyX6_ok, nmX6, rfl, by decide +kernel⟩
theorem lkV_RX9_332_yX5_begin : MLv RX9 332 RX5 yX5_begin cX5_begin 4 none 2 := ⟨wt_554, wt_555, wt_556, wt_557, wt_426, rfl, by decide +kernel, by decide +kernel, by decide +kernel⟩
theorem fw_RX5_15_4 : MFw RX5 15 4 0 .int := ⟨_, _, _, _, tyX5, rfl, rfl, by decide, uws_4, wt_434, Or.inl rfl, tyX5_ok, nmX5, rfl, by decide +kernel⟩
theorem fw_RX5_19_4 : MFw RX5 19 4 1 .int := ⟨_, _, _, _, tyX5, rfl, rfl, by decide, uws_4, wt_427, Or.inl rfl, tyX5_ok, nmX5, rfl, by decide +kernel⟩
theorem fd_RX9_336_4 : MFd RX9 336 4 1 := ⟨_, _, _, _, rfl, rfl, by decide, uws_4, wt_558, Or.inl rfl⟩
theorem lkV_RX9_337_yX9_numberFault : MLv RX9 337 RX9 yX9_numberFault cX9_numberFault 4 (some .int) 2 := ⟨wt_559, wt_560, wt_561, wt_562, wt_8, rfl, by decide +kernel, by decide +kernel, by decide +kernel⟩
theorem lkV_RX9_343_yX5_hasRun : MLv RX9 343 RX5 yX5_hasRun cX5_hasRun 3 (some .boolean) 2 := ⟨wt_563, wt_564, wt_565, wt_566, wt_426, rfl, by decide +kernel, by decide +kernel, by decide +kernel⟩
theorem fd_RX9_16_8 : MFd RX9 16 8 1 := ⟨_, _, _, _, rfl, rfl, by decide, uws_8, wt_569, Or.inl rfl⟩
theorem fw_RX9_354_8 : MFw RX9 354 8 3 .boolean := ⟨_, _, _, _, tyX9, rfl, rfl, by decide, uws_8, wt_570, Or.inl rfl, tyX9_ok, nmX9, rfl, by decide +kernel⟩
theorem fd_RX9_354_8 : MFd RX9 354 8 3 := ⟨_, _, _, _, rfl, rfl, by decide, uws_8, wt_570, Or.inl rfl⟩
theorem lkV_RX9_358_yX1_shutWays : MLv RX9 358 RX1 yX1_shutWays cX1_shutWays 3 (some .int) 0 := ⟨wt_571, wt_572, wt_573, wt_574, wt_32, rfl, by decide +kernel, by decide +kernel, by decide +kernel⟩
theorem fd_RX10_61_9 : MFd RX10 61 9 3 := ⟨_, _, _, _, rfl, rfl, by decide, uws_9, wt_575, Or.inl rfl⟩
theorem fd_RX10_15_9 : MFd RX10 15 9 1 := ⟨_, _, _, _, rfl, rfl, by decide, uws_9, wt_576, Or.inl rfl⟩
theorem fw_RX10_15_9 : MFw RX10 15 9 1 .int := ⟨_, _, _, _, tyX10, rfl, rfl, by decide, uws_9, wt_576, Or.inl rfl, tyX10_ok, nmX10, rfl, by decide +kernel⟩
theorem lkV_RX10_70_yX10_at : MLv RX10 70 RX10 yX10_at cX10_at 3 (some .int) 2 := ⟨wt_577, wt_578, wt_579, wt_580, wt_581, rfl, by decide +kernel, by decide +kernel, by decide +kernel⟩
theorem fd_RX10_19_9 : MFd RX10 19 9 4 := ⟨_, _, _, _, rfl, rfl, by decide, uws_9, wt_582, Or.inl rfl⟩
theorem lkV_RX10_81_yX10_finds : MLv RX10 81 RX10 yX10_finds cX10_finds 2 (some .int) 1 := ⟨wt_583, wt_584, wt_585, wt_586, wt_581, rfl, by decide +kernel, by decide +kernel, by decide +kernel⟩
theorem fd_RX10_9_9 : MFd RX10 9 9 0 := ⟨_, _, _, _, rfl, rfl, by decide, uws_9, wt_587, Or.inl rfl⟩
theorem lkS_RX10_57_yX10_in : MLs RX10 57 yX10_in cX10_in 6 (some .boolean) 3 := ⟨wt_591, wt_592, wt_593, wt_581, by decide +kernel, by decide +kernel, by decide +kernel⟩
theorem fd_RX10_74_9 : MFd RX10 74 9 2 := ⟨_, _, _, _, rfl, rfl, by decide, uws_9, wt_595, Or.inl rfl⟩
theorem fw_RX10_74_9 : MFw RX10 74 9 2 .int := ⟨_, _, _, _, tyX10, rfl, rfl, by decide, uws_9, wt_595, Or.inl rfl, tyX10_ok, nmX10, rfl, by decide +kernel⟩
theorem lkV_RX10_87_yX10_isPlace : MLv RX10 87 RX10 yX10_isPlace cX10_isPlace 2 (some .boolean) 1 := ⟨wt_596, wt_597, wt_598, wt_599, wt_581, rfl, by decide +kernel, by decide +kernel, by decide +kernel⟩
theorem lkS_RX10_91_yX10_isGain : MLs RX10 91 yX10_isGain cX10_isGain 2 (some .boolean) 1 := ⟨wt_600, wt_601, wt_602, wt_581, by decide +kernel, by decide +kernel, by decide +kernel⟩
theorem lkS_RX10_95_yX10_isTime : MLs RX10 95 yX10_isTime cX10_isTime 1 (some .boolean) 1 := ⟨wt_605, wt_606, wt_607, wt_581, by decide +kernel, by decide +kernel, by decide +kernel⟩
theorem lkV_RX10_98_yX10_addWay : MLv RX10 98 RX10 yX10_addWay cX10_addWay 7 none 5 := ⟨wt_609, wt_610, wt_611, wt_612, wt_581, rfl, by decide +kernel, by decide +kernel, by decide +kernel⟩
theorem fw_RX10_61_9 : MFw RX10 61 9 3 .int := ⟨_, _, _, _, tyX10, rfl, rfl, by decide, uws_9, wt_575, Or.inl rfl, tyX10_ok, nmX10, rfl, by decide +kernel⟩
theorem lkV_RX10_102_yX10_isWay : MLv RX10 102 RX10 yX10_isWay cX10_isWay 2 (some .boolean) 1 := ⟨wt_613, wt_614, wt_615, wt_616, wt_581, rfl, by decide +kernel, by decide +kernel, by decide +kernel⟩
theorem lkV_RX10_110_yX10_lasts : MLv RX10 110 RX10 yX10_lasts cX10_lasts 3 (some .int) 1 := ⟨wt_618, wt_619, wt_620, wt_621, wt_581, rfl, by decide +kernel, by decide +kernel, by decide +kernel⟩
theorem lkV_RX10_107_yX10_brings : MLv RX10 107 RX10 yX10_brings cX10_brings 3 (some .int) 1 := ⟨wt_622, wt_623, wt_624, wt_625, wt_581, rfl, by decide +kernel, by decide +kernel, by decide +kernel⟩
theorem lkV_RX10_113_yX10_mayBe : MLv RX10 113 RX10 yX10_mayBe cX10_mayBe 4 (some .boolean) 3 := ⟨wt_626, wt_627, wt_628, wt_629, wt_581, rfl, by decide +kernel, by decide +kernel, by decide +kernel⟩
theorem fd_RX10_117_9 : MFd RX10 117 9 5 := ⟨_, _, _, _, rfl, rfl, by decide, uws_9, wt_630, Or.inl rfl⟩
theorem fd_RX10_22_9 : MFd RX10 22 9 6 := ⟨_, _, _, _, rfl, rfl, by decide, uws_9, wt_631, Or.inl rfl⟩
theorem fw_RX10_117_9 : MFw RX10 117 9 5 .int := ⟨_, _, _, _, tyX10, rfl, rfl, by decide, uws_9, wt_630, Or.inl rfl, tyX10_ok, nmX10, rfl, by decide +kernel⟩
theorem fd_RX10_25_9 : MFd RX10 25 9 7 := ⟨_, _, _, _, rfl, rfl, by decide, uws_9, wt_632, Or.inl rfl⟩
theorem lkV_RX10_122_yX10_isThing : MLv RX10 122 RX10 yX10_isThing cX10_isThing 2 (some .boolean) 1 := ⟨wt_633, wt_634, wt_635, wt_636, wt_581, rfl, by decide +kernel, by decide +kernel, by decide +kernel⟩
theorem lkV_RX10_169_yX10_ringsNow : MLv RX10 169 RX10 yX10_ringsNow cX10_ringsNow 1 (some .boolean) 0 := ⟨wt_638, wt_639, wt_640, wt_641, wt_581, rfl, by decide +kernel, by decide +kernel, by decide +kernel⟩
theorem lkV_RX10_157_yX10_openWays : MLv RX10 157 RX10 yX10_openWays cX10_openWays 3 (some .int) 0 := ⟨wt_642, wt_643, wt_644, wt_645, wt_581, rfl, by decide +kernel, by decide +kernel, by decide +kernel⟩
theorem lkV_RX10_161_yX10_rings : MLv RX10 161 RX10 yX10_rings cX10_rings 4 (some .boolean) 2 := ⟨wt_646, wt_647, wt_648, wt_649, wt_581, rfl, by decide +kernel, by decide +kernel, by decide +kernel⟩
theorem fd_RX10_132_9 : MFd RX10 132 9 10 := ⟨_, _, _, _, rfl, rfl, by decide, uws_9, wt_650, Or.inl rfl⟩
theorem lkV_RX10_153_yX10_goesRound : MLv RX10 153 RX10 yX10_goesRound cX10_goesRound 15 none 6 := ⟨wt_651, wt_652, wt_653, wt_654, wt_581, rfl, by decide +kernel, by decide +kernel, by decide +kernel⟩
theorem fd_RX10_146_9 : MFd RX10 146 9 8 := ⟨_, _, _, _, rfl, rfl, by decide, uws_9, wt_655, Or.inl rfl⟩
theorem lkV_RX10_149_yX10_closes : MLv RX10 149 RX10 yX10_closes cX10_closes 8 none 3 := ⟨wt_656, wt_657, wt_658, wt_659, wt_581, rfl, by decide +kernel, by decide +kernel, by decide +kernel⟩
theorem fd_RX10_143_9 : MFd RX10 143 9 13 := ⟨_, _, _, _, rfl, rfl, by decide, uws_9, wt_660, Or.inl rfl⟩
theorem fw_RX10_143_9 : MFw RX10 143 9 13 .int := ⟨_, _, _, _, tyX10, rfl, rfl, by decide, uws_9, wt_660, Or.inl rfl, tyX10_ok, nmX10, rfl, by decide +kernel⟩
theorem fw_RX10_140_9 : MFw RX10 140 9 11 .long := ⟨_, _, _, _, tyX10, rfl, rfl, by decide, uws_9, wt_661, Or.inl rfl, tyX10_ok, nmX10, rfl, by decide +kernel⟩
theorem fw_RX10_136_9 : MFw RX10 136 9 12 .long := ⟨_, _, _, _, tyX10, rfl, rfl, by decide, uws_9, wt_662, Or.inl rfl, tyX10_ok, nmX10, rfl, by decide +kernel⟩
theorem fw_RX10_132_9 : MFw RX10 132 9 10 .boolean := ⟨_, _, _, _, tyX10, rfl, rfl, by decide, uws_9, wt_650, Or.inl rfl, tyX10_ok, nmX10, rfl, by decide +kernel⟩
theorem fd_RX10_129_9 : MFd RX10 129 9 9 := ⟨_, _, _, _, rfl, rfl, by decide, uws_9, wt_663, Or.inl rfl⟩
theorem fd_RX10_136_9 : MFd RX10 136 9 12 := ⟨_, _, _, _, rfl, rfl, by decide, uws_9, wt_662, Or.inl rfl⟩
theorem fd_RX10_140_9 : MFd RX10 140 9 11 := ⟨_, _, _, _, rfl, rfl, by decide, uws_9, wt_661, Or.inl rfl⟩
theorem fw_RX10_146_9 : MFw RX10 146 9 8 .int := ⟨_, _, _, _, tyX10, rfl, rfl, by decide, uws_9, wt_655, Or.inl rfl, tyX10_ok, nmX10, rfl, by decide +kernel⟩
theorem fw_RX10_129_9 : MFw RX10 129 9 9 .int := ⟨_, _, _, _, tyX10, rfl, rfl, by decide, uws_9, wt_663, Or.inl rfl, tyX10_ok, nmX10, rfl, by decide +kernel⟩
theorem lkV_RX10_165_yX10_farFinds : MLv RX10 165 RX10 yX10_farFinds cX10_farFinds 2 (some .long) 1 := ⟨wt_664, wt_665, wt_666, wt_667, wt_581, rfl, by decide +kernel, by decide +kernel, by decide +kernel⟩
theorem lkS_RX10_173_yX10_lowest : MLs RX10 173 yX10_lowest cX10_lowest 7 (some .long) 3 := ⟨wt_669, wt_670, wt_671, wt_581, by decide +kernel, by decide +kernel, by decide +kernel⟩
theorem lkS_RX10_125_yX10_common : MLs RX10 125 yX10_common cX10_common 10 (some .long) 2 := ⟨wt_672, wt_673, wt_674, wt_581, by decide +kernel, by decide +kernel, by decide +kernel⟩
theorem fd_RX10_28_9 : MFd RX10 28 9 14 := ⟨_, _, _, _, rfl, rfl, by decide, uws_9, wt_675, Or.inl rfl⟩
theorem lkV_RX10_179_yX10_lifts : MLv RX10 179 RX10 yX10_lifts cX10_lifts 11 (some .boolean) 2 := ⟨wt_677, wt_678, wt_679, wt_680, wt_581, rfl, by decide +kernel, by decide +kernel, by decide +kernel⟩
theorem fw_RX10_183_9 : MFw RX10 183 9 15 .boolean := ⟨_, _, _, _, tyX10, rfl, rfl, by decide, uws_9, wt_681, Or.inl rfl, tyX10_ok, nmX10, rfl, by decide +kernel⟩
theorem lkV_RX10_186_yX10_product : MLv RX10 186 RX10 yX10_product cX10_product 7 (some .long) 2 := ⟨wt_682, wt_683, wt_684, wt_685, wt_581, rfl, by decide +kernel, by decide +kernel, by decide +kernel⟩
theorem fd_RX10_183_9 : MFd RX10 183 9 15 := ⟨_, _, _, _, rfl, rfl, by decide, uws_9, wt_681, Or.inl rfl⟩
theorem lkV_RX10_197_yX10_raised : MLv RX10 197 RX10 yX10_raised cX10_raised 10 (some .int) 1 := ⟨wt_687, wt_688, wt_689, wt_690, wt_581, rfl, by decide +kernel, by decide +kernel, by decide +kernel⟩
theorem lkV_RX10_193_yX10_isRaised : MLv RX10 193 RX10 yX10_isRaised cX10_isRaised 8 (some .boolean) 5 := ⟨wt_691, wt_692, wt_693, wt_694, wt_581, rfl, by decide +kernel, by decide +kernel, by decide +kernel⟩
theorem fw_RX10_212_9 : MFw RX10 212 9 16 .int := ⟨_, _, _, _, tyX10, rfl, rfl, by decide, uws_9, wt_698, Or.inl rfl, tyX10_ok, nmX10, rfl, by decide +kernel⟩
theorem lkV_RX10_255_yX10_told : MLv RX10 255 RX10 yX10_told cX10_told 3 (some .long) 1 := ⟨wt_699, wt_700, wt_701, wt_702, wt_581, rfl, by decide +kernel, by decide +kernel, by decide +kernel⟩
theorem lkV_RX10_246_yX10_leastChoice : MLv RX10 246 RX10 yX10_leastChoice cX10_leastChoice 2 (some .int) 0 := ⟨wt_703, wt_704, wt_705, wt_706, wt_581, rfl, by decide +kernel, by decide +kernel, by decide +kernel⟩
theorem lkV_RX10_227_yX10_allSets : MLv RX10 227 RX10 yX10_allSets cX10_allSets 1 (some .int) 0 := ⟨wt_707, wt_708, wt_709, wt_710, wt_581, rfl, by decide +kernel, by decide +kernel, by decide +kernel⟩
theorem fd_RX10_212_9 : MFd RX10 212 9 16 := ⟨_, _, _, _, rfl, rfl, by decide, uws_9, wt_698, Or.inl rfl⟩
theorem lkV_RX10_230_yX10_isChoice : MLv RX10 230 RX10 yX10_isChoice cX10_isChoice 2 (some .boolean) 1 := ⟨wt_711, wt_712, wt_713, wt_714, wt_581, rfl, by decide +kernel, by decide +kernel, by decide +kernel⟩
theorem lkV_RX10_224_yX10_rises : MLv RX10 224 RX10 yX10_rises cX10_rises 5 (some .boolean) 1 := ⟨wt_715, wt_716, wt_717, wt_718, wt_581, rfl, by decide +kernel, by decide +kernel, by decide +kernel⟩
theorem fd_RX10_209_9 : MFd RX10 209 9 18 := ⟨_, _, _, _, rfl, rfl, by decide, uws_9, wt_719, Or.inl rfl⟩
theorem lkV_RX10_200_yX10_wayFrom : MLv RX10 200 RX10 yX10_wayFrom cX10_wayFrom 6 (some .int) 2 := ⟨wt_720, wt_721, wt_722, wt_723, wt_581, rfl, by decide +kernel, by decide +kernel, by decide +kernel⟩
theorem fd_RX10_206_9 : MFd RX10 206 9 17 := ⟨_, _, _, _, rfl, rfl, by decide, uws_9, wt_724, Or.inl rfl⟩
theorem lkV_RX10_221_yX10_joinsAll : MLv RX10 221 RX10 yX10_joinsAll cX10_joinsAll 6 (some .boolean) 1 := ⟨wt_725, wt_726, wt_727, wt_728, wt_581, rfl, by decide +kernel, by decide +kernel, by decide +kernel⟩
theorem lkS_RX10_203_yX10_bits : MLs RX10 203 yX10_bits cX10_bits 3 (some .int) 1 := ⟨wt_729, wt_730, wt_731, wt_581, by decide +kernel, by decide +kernel, by decide +kernel⟩
theorem lkV_RX10_218_yX10_isRound : MLv RX10 218 RX10 yX10_isRound cX10_isRound 8 (some .boolean) 1 := ⟨wt_732, wt_733, wt_734, wt_735, wt_581, rfl, by decide +kernel, by decide +kernel, by decide +kernel⟩
theorem fd_RX10_215_9 : MFd RX10 215 9 19 := ⟨_, _, _, _, rfl, rfl, by decide, uws_9, wt_736, Or.inl rfl⟩
theorem lkV_RX10_249_yX10_climbed : MLv RX10 249 RX10 yX10_climbed cX10_climbed 10 (some .long) 2 := ⟨wt_737, wt_738, wt_739, wt_740, wt_581, rfl, by decide +kernel, by decide +kernel, by decide +kernel⟩
theorem lkV_RX10_233_yX10_aboveOf : MLv RX10 233 RX10 yX10_aboveOf cX10_aboveOf 5 (some .long) 1 := ⟨wt_741, wt_742, wt_743, wt_744, wt_581, rfl, by decide +kernel, by decide +kernel, by decide +kernel⟩
theorem lkV_RX10_236_yX10_belowOf : MLv RX10 236 RX10 yX10_belowOf cX10_belowOf 5 (some .long) 1 := ⟨wt_745, wt_746, wt_747, wt_748, wt_581, rfl, by decide +kernel, by decide +kernel, by decide +kernel⟩
theorem lkV_RX10_243_yX10_leastLike : MLv RX10 243 RX10 yX10_leastLike cX10_leastLike 6 (some .int) 2 := ⟨wt_749, wt_750, wt_751, wt_752, wt_581, rfl, by decide +kernel, by decide +kernel, by decide +kernel⟩
theorem lkV_RX10_239_yX10_nextChoice : MLv RX10 239 RX10 yX10_nextChoice cX10_nextChoice 11 (some .int) 2 := ⟨wt_753, wt_754, wt_755, wt_756, wt_581, rfl, by decide +kernel, by decide +kernel, by decide +kernel⟩
theorem fw_RX10_206_9 : MFw RX10 206 9 17 .int := ⟨_, _, _, _, tyX10, rfl, rfl, by decide, uws_9, wt_724, Or.inl rfl, tyX10_ok, nmX10, rfl, by decide +kernel⟩
theorem fw_RX10_209_9 : MFw RX10 209 9 18 .int := ⟨_, _, _, _, tyX10, rfl, rfl, by decide, uws_9, wt_719, Or.inl rfl, tyX10_ok, nmX10, rfl, by decide +kernel⟩
theorem fw_RX10_215_9 : MFw RX10 215 9 19 .int := ⟨_, _, _, _, tyX10, rfl, rfl, by decide, uws_9, wt_736, Or.inl rfl, tyX10_ok, nmX10, rfl, by decide +kernel⟩
theorem fd_RX10_38_9 : MFd RX10 38 9 22 := ⟨_, _, _, _, rfl, rfl, by decide, uws_9, wt_757, Or.inl rfl⟩
theorem lkV_RX10_261_yX10_wrong : MLv RX10 261 RX10 yX10_wrong cX10_wrong 4 (some .int) 3 := ⟨wt_758, wt_759, wt_760, wt_761, wt_581, rfl, by decide +kernel, by decide +kernel, by decide +kernel⟩
theorem lkS_RX10_258_yX10_isSheet : MLs RX10 258 yX10_isSheet cX10_isSheet 1 (some .boolean) 1 := ⟨wt_762, wt_763, wt_764, wt_581, by decide +kernel, by decide +kernel, by decide +kernel⟩
theorem fd_RX10_32_9 : MFd RX10 32 9 20 := ⟨_, _, _, _, rfl, rfl, by decide, uws_9, wt_765, Or.inl rfl⟩
theorem fd_RX10_35_9 : MFd RX10 35 9 21 := ⟨_, _, _, _, rfl, rfl, by decide, uws_9, wt_766, Or.inl rfl⟩
theorem lkS_RX10_265_yX10_narrow : MLs RX10 265 yX10_narrow cX10_narrow 3 (some .long) 2 := ⟨wt_767, wt_768, wt_769, wt_581, by decide +kernel, by decide +kernel, by decide +kernel⟩
theorem lkV_RX10_269_yX10_sum : MLv RX10 269 RX10 yX10_sum cX10_sum 7 (some .long) 2 := ⟨wt_770, wt_771, wt_772, wt_773, wt_581, rfl, by decide +kernel, by decide +kernel, by decide +kernel⟩
theorem fd_RX10_274_9 : MFd RX10 274 9 25 := ⟨_, _, _, _, rfl, rfl, by decide, uws_9, wt_774, Or.inl rfl⟩
theorem fd_RX10_44_9 : MFd RX10 44 9 24 := ⟨_, _, _, _, rfl, rfl, by decide, uws_9, wt_775, Or.inl rfl⟩
theorem fw_RX10_274_9 : MFw RX10 274 9 25 .int := ⟨_, _, _, _, tyX10, rfl, rfl, by decide, uws_9, wt_774, Or.inl rfl, tyX10_ok, nmX10, rfl, by decide +kernel⟩
theorem fd_RX10_280_9 : MFd RX10 280 9 27 := ⟨_, _, _, _, rfl, rfl, by decide, uws_9, wt_777, Or.inl rfl⟩
theorem fd_RX10_286_9 : MFd RX10 286 9 28 := ⟨_, _, _, _, rfl, rfl, by decide, uws_9, wt_778, Or.inl rfl⟩
theorem lkV_RX10_307_yX10_next : MLv RX10 307 RX10 yX10_next cX10_next 3 none 0 := ⟨wt_779, wt_780, wt_781, wt_782, wt_581, rfl, by decide +kernel, by decide +kernel, by decide +kernel⟩
theorem lkV_RX10_293_yX10_isWordFrom : MLv RX10 293 RX10 yX10_isWordFrom cX10_isWordFrom 4 (some .boolean) 1 := ⟨wt_783, wt_784, wt_785, wt_786, wt_581, rfl, by decide +kernel, by decide +kernel, by decide +kernel⟩
theorem fd_RX10_47_9 : MFd RX10 47 9 31 := ⟨_, _, _, _, rfl, rfl, by decide, uws_9, wt_787, Or.inl rfl⟩
theorem fd_RX10_277_9 : MFd RX10 277 9 26 := ⟨_, _, _, _, rfl, rfl, by decide, uws_9, wt_788, Or.inl rfl⟩
theorem lkV_RX10_283_yX10_byteAt : MLv RX10 283 RX10 yX10_byteAt cX10_byteAt 2 (some .int) 1 := ⟨wt_789, wt_790, wt_791, wt_792, wt_581, rfl, by decide +kernel, by decide +kernel, by decide +kernel⟩
theorem fw_RX10_286_9 : MFw RX10 286 9 28 .int := ⟨_, _, _, _, tyX10, rfl, rfl, by decide, uws_9, wt_778, Or.inl rfl, tyX10_ok, nmX10, rfl, by decide +kernel⟩
theorem fw_RX10_277_9 : MFw RX10 277 9 26 .int := ⟨_, _, _, _, tyX10, rfl, rfl, by decide, uws_9, wt_788, Or.inl rfl, tyX10_ok, nmX10, rfl, by decide +kernel⟩
theorem fw_RX10_300_9 : MFw RX10 300 9 29 .int := ⟨_, _, _, _, tyX10, rfl, rfl, by decide, uws_9, wt_795, Or.inl rfl, tyX10_ok, nmX10, rfl, by decide +kernel⟩
theorem fd_RX10_300_9 : MFd RX10 300 9 29 := ⟨_, _, _, _, rfl, rfl, by decide, uws_9, wt_795, Or.inl rfl⟩
theorem fw_RX10_280_9 : MFw RX10 280 9 27 .int := ⟨_, _, _, _, tyX10, rfl, rfl, by decide, uws_9, wt_777, Or.inl rfl, tyX10_ok, nmX10, rfl, by decide +kernel⟩
theorem lkV_RX10_331_yX10_readsItem : MLv RX10 331 RX10 yX10_readsItem cX10_readsItem 2 (some .boolean) 0 := ⟨wt_799, wt_800, wt_801, wt_802, wt_581, rfl, by decide +kernel, by decide +kernel, by decide +kernel⟩
theorem lkV_RX10_319_yX10_takesNumber : MLv RX10 319 RX10 yX10_takesNumber cX10_takesNumber 3 (some .boolean) 2 := ⟨wt_803, wt_804, wt_805, wt_806, wt_581, rfl, by decide +kernel, by decide +kernel, by decide +kernel⟩
theorem fw_RX10_304_9 : MFw RX10 304 9 30 .int := ⟨_, _, _, _, tyX10, rfl, rfl, by decide, uws_9, wt_807, Or.inl rfl, tyX10_ok, nmX10, rfl, by decide +kernel⟩
theorem fd_RX10_304_9 : MFd RX10 304 9 30 := ⟨_, _, _, _, rfl, rfl, by decide, uws_9, wt_807, Or.inl rfl⟩
theorem lkV_RX10_328_yX10_readsThing : MLv RX10 328 RX10 yX10_readsThing cX10_readsThing 1 (some .boolean) 0 := ⟨wt_808, wt_809, wt_810, wt_811, wt_581, rfl, by decide +kernel, by decide +kernel, by decide +kernel⟩
theorem lkV_RX10_322_yX10_readsGainAndTime : MLv RX10 322 RX10 yX10_readsGainAndTime cX10_readsGainAndTime 2 (some .boolean) 0 := ⟨wt_812, wt_813, wt_814, wt_815, wt_581, rfl, by decide +kernel, by decide +kernel, by decide +kernel⟩
theorem lkV_RX10_316_yX10_isWord : MLv RX10 316 RX10 yX10_isWord cX10_isWord 2 (some .boolean) 1 := ⟨wt_816, wt_817, wt_818, wt_819, wt_581, rfl, by decide +kernel, by decide +kernel, by decide +kernel⟩
theorem fw_RX10_313_9 : MFw RX10 313 9 33 .int := ⟨_, _, _, _, tyX10, rfl, rfl, by decide, uws_9, wt_820, Or.inl rfl, tyX10_ok, nmX10, rfl, by decide +kernel⟩
theorem fw_RX10_310_9 : MFw RX10 310 9 32 .int := ⟨_, _, _, _, tyX10, rfl, rfl, by decide, uws_9, wt_821, Or.inl rfl, tyX10_ok, nmX10, rfl, by decide +kernel⟩
theorem fd_RX10_310_9 : MFd RX10 310 9 32 := ⟨_, _, _, _, rfl, rfl, by decide, uws_9, wt_821, Or.inl rfl⟩
theorem fd_RX10_313_9 : MFd RX10 313 9 33 := ⟨_, _, _, _, rfl, rfl, by decide, uws_9, wt_820, Or.inl rfl⟩
theorem lkV_RX10_325_yX10_readsWay : MLv RX10 325 RX10 yX10_readsWay cX10_readsWay 4 (some .boolean) 1 := ⟨wt_822, wt_823, wt_824, wt_825, wt_581, rfl, by decide +kernel, by decide +kernel, by decide +kernel⟩
theorem lkV_RX10_334_yX10_lacks : MLv RX10 334 RX10 yX10_lacks cX10_lacks 3 (some .int) 2 := ⟨wt_826, wt_827, wt_828, wt_829, wt_581, rfl, by decide +kernel, by decide +kernel, by decide +kernel⟩
theorem fd_RX10_41_9 : MFd RX10 41 9 23 := ⟨_, _, _, _, rfl, rfl, by decide, uws_9, wt_830, Or.inl rfl⟩
theorem fw_RX10_337_9 : MFw RX10 337 9 35 .boolean := ⟨_, _, _, _, tyX10, rfl, rfl, by decide, uws_9, wt_831, Or.inl rfl, tyX10_ok, nmX10, rfl, by decide +kernel⟩
theorem fd_RX10_51_9 : MFd RX10 51 9 34 := ⟨_, _, _, _, rfl, rfl, by decide, uws_9, wt_832, Or.inl rfl⟩
theorem fd_RX10_337_9 : MFd RX10 337 9 35 := ⟨_, _, _, _, rfl, rfl, by decide, uws_9, wt_831, Or.inl rfl⟩
theorem lkI_RX9_11_yX1_init : MLi RX9 11 yX1_init cX1_init 1 none 0 := ⟨wt_841, wt_842, wt_843, wt_32, rfl, by decide +kernel, by decide +kernel, by decide +kernel⟩
theorem lkJ_RX9_24_yX4_init : MLj RX9 24 "RoundsPerHour" yX4_init cX4_init 1 none 0 := ⟨wt_849, List.mem_of_getElem? (i := 0) rfl, wt_850, wt_102, rfl, by decide +kernel, by decide +kernel, by decide +kernel⟩
theorem lkJ_RX7_3_yX0_init : MLj RX7 3 "RoundsPerHour" yX0_init cX0_init 1 none 0 := ⟨wt_854, List.mem_of_getElem? (i := 14) rfl, wt_855, wt_222, rfl, by decide +kernel, by decide +kernel, by decide +kernel⟩
theorem lkJ_RX7_11_yX2_init : MLj RX7 11 "RoundsPerHour" yX2_init cX2_init 1 none 0 := ⟨wt_859, List.mem_of_getElem? (i := 13) rfl, wt_860, wt_272, rfl, by decide +kernel, by decide +kernel, by decide +kernel⟩
theorem lkJ_RX9_31_yX7_init : MLj RX9 31 "RoundsPerHour" yX7_init cX7_init 1 none 0 := ⟨wt_861, List.mem_of_getElem? (i := 1) rfl, wt_862, wt_215, rfl, by decide +kernel, by decide +kernel, by decide +kernel⟩
theorem lkJ_RX8_3_yX0_init : MLj RX8 3 "RoundsPerHour" yX0_init cX0_init 1 none 0 := ⟨wt_854, List.mem_of_getElem? (i := 15) rfl, wt_855, wt_222, rfl, by decide +kernel, by decide +kernel, by decide +kernel⟩
theorem lkJ_RX9_38_yX8_init : MLj RX9 38 "RoundsPerHour" yX8_init cX8_init 1 none 0 := ⟨wt_865, List.mem_of_getElem? (i := 2) rfl, wt_866, wt_296, rfl, by decide +kernel, by decide +kernel, by decide +kernel⟩
theorem lkJ_RX3_1_yX0_init : MLj RX3 1 "RoundsPerHour" yX0_init cX0_init 1 none 0 := ⟨wt_854, List.mem_of_getElem? (i := 10) rfl, wt_855, wt_222, rfl, by decide +kernel, by decide +kernel, by decide +kernel⟩
theorem lkJ_RX9_45_yX3_init : MLj RX9 45 "RoundsPerHour" yX3_init cX3_init 1 none 0 := ⟨wt_869, List.mem_of_getElem? (i := 3) rfl, wt_870, wt_329, rfl, by decide +kernel, by decide +kernel, by decide +kernel⟩
theorem lkJ_RX9_52_yX2_init : MLj RX9 52 "RoundsPerHour" yX2_init cX2_init 1 none 0 := ⟨wt_859, List.mem_of_getElem? (i := 4) rfl, wt_860, wt_272, rfl, by decide +kernel, by decide +kernel, by decide +kernel⟩
theorem lkJ_RX9_59_yX6_init : MLj RX9 59 "RoundsPerHour" yX6_init cX6_init 1 none 0 := ⟨wt_875, List.mem_of_getElem? (i := 5) rfl, wt_876, wt_445, rfl, by decide +kernel, by decide +kernel, by decide +kernel⟩
theorem lkJ_RX9_74_yX5_init : MLj RX9 74 "RoundsPerHour" yX5_init cX5_init 1 none 0 := ⟨wt_881, List.mem_of_getElem? (i := 6) rfl, wt_882, wt_426, rfl, by decide +kernel, by decide +kernel, by decide +kernel⟩
