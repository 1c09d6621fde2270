set_option maxRecDepth 20000 in
theorem uws_0 : ∀ w ∈ u_ws RX1 TX1 12, w ∈ mWT := muws [83, 85, 87, 89, 91, 93, 95, 97, 99, 101, 103, 105] (by decide +kernel) (by decide +kernel)
set_option maxRecDepth 20000 in
theorem uws_1 : ∀ w ∈ u_ws RX2 TX2 1, w ∈ mWT := muws [178] (by decide +kernel) (by decide +kernel)
set_option maxRecDepth 20000 in
theorem uws_2 : ∀ w ∈ u_ws RX3 TX3 11, w ∈ mWT := muws [283, 284, 285, 286, 287, 288, 289, 290, 291, 292, 281] (by decide +kernel) (by decide +kernel)
set_option maxRecDepth 20000 in
theorem uws_3 : ∀ w ∈ u_ws RX4 TX4 13, w ∈ mWT := muws [133, 135, 137, 139, 141, 143, 145, 147, 149, 151, 153, 155, 157] (by decide +kernel) (by decide +kernel)
set_option maxRecDepth 20000 in
theorem uws_4 : ∀ w ∈ u_ws RX5 TX5 3, w ∈ mWT := muws [344, 346, 348] (by decide +kernel) (by decide +kernel)
set_option maxRecDepth 20000 in
theorem uws_5 : ∀ w ∈ u_ws RX6 TX6 9, w ∈ mWT := muws [312, 314, 316, 318, 320, 322, 324, 326, 328] (by decide +kernel) (by decide +kernel)
set_option maxRecDepth 20000 in
theorem uws_6 : ∀ w ∈ u_ws RX7 TX7 12, w ∈ mWT := muws [221, 223, 225, 227, 229, 231, 233, 235, 237, 239, 217, 219] (by decide +kernel) (by decide +kernel)
set_option maxRecDepth 20000 in
theorem uws_7 : ∀ w ∈ u_ws RX8 TX8 15, w ∈ mWT := muws [263, 264, 265, 266, 267, 268, 269, 270, 271, 272, 253, 255, 257, 259, 261] (by decide +kernel) (by decide +kernel)
set_option maxRecDepth 20000 in
theorem uws_8 : ∀ w ∈ u_ws RX9 TX9 12, w ∈ mWT := muws [363, 365, 367, 369, 371, 373, 375, 377, 379, 381, 383, 385] (by decide +kernel) (by decide +kernel)
set_option maxRecDepth 20000 in
theorem uws_9 : ∀ w ∈ u_ws RX10 TX10 36, w ∈ mWT := muws [1032, 1034, 1036, 1038, 1040, 1042, 1044, 1046, 1048, 1050, 1052, 1054, 1056, 1058, 1060, 1062, 1064, 1066, 1068, 1070, 1072, 1074, 1076, 1078, 1080, 1082, 1084, 1086, 1088, 1090, 1092, 1094, 1096, 1098, 1100, 1102] (by decide +kernel) (by decide +kernel)
theorem wt_0 : Cond.fieldLink RX1 9 "RoundsPerHour$Country" "places" "I" ∈ mWT := mt_1 (List.mem_of_getElem? (i := 34) rfl) rfl
theorem wt_1 : Cond.code yX9_within cX9_within 3 (some .boolean) ∈ mWT := mt_2 (List.mem_of_getElem? (i := 154) rfl) rfl
theorem wt_2 : Cond.static yX9_within ∈ mWT := mt_2 (List.mem_of_getElem? (i := 153) rfl) rfl
theorem wt_3 : Cond.initialized RX9 ∈ mWT := mt_1 (List.mem_of_getElem? (i := 1) rfl) rfl
theorem wt_4 : Cond.code yX9_brings cX9_brings 3 (some .int) ∈ mWT := mt_2 (List.mem_of_getElem? (i := 203) rfl) rfl
theorem wt_5 : Cond.methodLink RX9 368 yX9_brings ∈ mWT := mt_2 (List.mem_of_getElem? (i := 204) rfl) rfl
theorem wt_6 : Cond.static yX9_brings ∈ mWT := mt_2 (List.mem_of_getElem? (i := 202) rfl) rfl
theorem wt_7 : Cond.fieldLink RX1 15 "RoundsPerHour$Country" "kind" "[I" ∈ mWT := mt_1 (List.mem_of_getElem? (i := 49) rfl) rfl
theorem wt_8 : Cond.fieldLink RX1 25 "RoundsPerHour$Country" "gain" "[I" ∈ mWT := mt_1 (List.mem_of_getElem? (i := 63) rfl) rfl
theorem wt_9 : Cond.fieldLink RX1 50 "RoundsPerHour$Country" "weather" "I" ∈ mWT := mt_1 (List.mem_of_getElem? (i := 42) rfl) rfl
theorem wt_10 : Cond.fieldLink RX1 44 "RoundsPerHour$Country" "ways" "I" ∈ mWT := mt_1 (List.mem_of_getElem? (i := 46) rfl) rfl
theorem wt_11 : Cond.fieldLink RX1 31 "RoundsPerHour$Country" "shut" "[I" ∈ mWT := mt_1 (List.mem_of_getElem? (i := 67) rfl) rfl
theorem wt_12 : Cond.fieldLink RX9 70 "RoundsPerHour" "found" "[I" ∈ mWT := mt_2 (List.mem_of_getElem? (i := 122) rfl) rfl
theorem wt_13 : Cond.constant RX9 361 (-2000000001) ∈ mWT := mt_2 (List.mem_of_getElem? (i := 159) rfl) rfl
theorem wt_14 : Cond.fieldLink RX9 12 "RoundsPerHour" "now" "LRoundsPerHour$Country;" ∈ mWT := mt_2 (List.mem_of_getElem? (i := 111) rfl) rfl
theorem wt_15 : Cond.fieldLink RX9 83 "RoundsPerHour$Country" "ways" "I" ∈ mWT := mt_1 (List.mem_of_getElem? (i := 43) rfl) rfl
theorem wt_16 : Cond.fieldLink RX9 93 "RoundsPerHour$Country" "places" "I" ∈ mWT := mt_1 (List.mem_of_getElem? (i := 35) rfl) rfl
theorem wt_17 : Cond.fieldLink RX9 87 "RoundsPerHour$Country" "from" "[I" ∈ mWT := mt_1 (List.mem_of_getElem? (i := 52) rfl) rfl
theorem wt_18 : Cond.code yX9_finding cX9_finding 2 (some .int) ∈ mWT := mt_2 (List.mem_of_getElem? (i := 158) rfl) rfl
theorem wt_19 : Cond.methodLink RX9 79 yX9_finding ∈ mWT := mt_2 (List.mem_of_getElem? (i := 155) rfl) rfl
theorem wt_20 : Cond.instanceMethod yX9_finding ∈ mWT := mt_2 (List.mem_of_getElem? (i := 157) rfl) rfl
theorem wt_21 : Cond.selects RX9 yX9_finding yX9_finding ∈ mWT := mt_s (⟨"RoundsPerHour", "finding", "(I)I"⟩, 12) (ml_1 (List.mem_of_getElem? (i := 0) rfl)) rfl rfl
theorem wt_22 : Cond.fieldLink RX9 90 "RoundsPerHour$Country" "to" "[I" ∈ mWT := mt_1 (List.mem_of_getElem? (i := 59) rfl) rfl
theorem wt_23 : Cond.methodLink RX9 75 yX9_within ∈ mWT := mt_2 (List.mem_of_getElem? (i := 152) rfl) rfl
theorem fd_RX1_9_0 : MFd RX1 9 0 0 := ⟨_, _, _, _, rfl, rfl, by decide, uws_0, wt_0, Or.inl rfl⟩
theorem lkN_RX1_40_yX9_within : MLn RX1 40 "RoundsPerHour" yX9_within cX9_within 3 (some .boolean) 3 := ⟨wt_1, List.mem_of_getElem? (i := 7) rfl, wt_2, wt_3, by decide +kernel, by decide +kernel, by decide +kernel⟩
theorem lkS_RX9_368_yX9_brings : MLs RX9 368 yX9_brings cX9_brings 3 (some .int) 3 := ⟨wt_4, wt_5, wt_6, wt_3, by decide +kernel, by decide +kernel, by decide +kernel⟩
theorem fd_RX1_15_0 : MFd RX1 15 0 3 := ⟨_, _, _, _, rfl, rfl, by decide, uws_0, wt_7, Or.inl rfl⟩
theorem fd_RX1_25_0 : MFd RX1 25 0 6 := ⟨_, _, _, _, rfl, rfl, by decide, uws_0, wt_8, Or.inl rfl⟩
theorem fd_RX1_50_0 : MFd RX1 50 0 1 := ⟨_, _, _, _, rfl, rfl, by decide, uws_0, wt_9, Or.inl rfl⟩
theorem lkN_RX1_53_yX9_brings : MLn RX1 53 "RoundsPerHour" yX9_brings cX9_brings 3 (some .int) 3 := ⟨wt_4, List.mem_of_getElem? (i := 8) rfl, wt_6, wt_3, by decide +kernel, by decide +kernel, by decide +kernel⟩
theorem fd_RX1_44_0 : MFd RX1 44 0 2 := ⟨_, _, _, _, rfl, rfl, by decide, uws_0, wt_10, Or.inl rfl⟩
theorem fd_RX1_31_0 : MFd RX1 31 0 8 := ⟨_, _, _, _, rfl, rfl, by decide, uws_0, wt_11, Or.inl rfl⟩
theorem fd_RX9_70_8 : MFd RX9 70 8 11 := ⟨_, _, _, _, rfl, rfl, by decide, uws_8, wt_12, Or.inl rfl⟩
theorem fd_RX9_12_8 : MFd RX9 12 8 0 := ⟨_, _, _, _, rfl, rfl, by decide, uws_8, wt_14, Or.inl rfl⟩
theorem fd_RX9_83_0 : MFd RX9 83 0 2 := ⟨_, _, _, _, rfl, rfl, by decide, uws_0, wt_15, Or.inl rfl⟩
theorem fd_RX9_93_0 : MFd RX9 93 0 0 := ⟨_, _, _, _, rfl, rfl, by decide, uws_0, wt_16, Or.inl rfl⟩
theorem fw_RX9_93_0 : MFw RX9 93 0 0 .int := ⟨_, _, _, _, tyX1, rfl, rfl, by decide, uws_0, wt_16, Or.inl rfl, tyX1_ok, nmX1, rfl, by decide +kernel⟩
theorem fd_RX9_87_0 : MFd RX9 87 0 4 := ⟨_, _, _, _, rfl, rfl, by decide, uws_0, wt_17, Or.inl rfl⟩
theorem lkV_RX9_79_yX9_finding : MLv RX9 79 RX9 yX9_finding cX9_finding 2 (some .int) 1 := ⟨wt_18, wt_19, wt_20, wt_21, wt_3, rfl, by decide +kernel, by decide +kernel, by decide +kernel⟩
theorem fd_RX9_90_0 : MFd RX9 90 0 5 := ⟨_, _, _, _, rfl, rfl, by decide, uws_0, wt_22, Or.inl rfl⟩
theorem lkS_RX9_75_yX9_within : MLs RX9 75 yX9_within cX9_within 3 (some .boolean) 3 := ⟨wt_1, wt_23, wt_2, wt_3, by decide +kernel, by decide +kernel, by decide +kernel⟩
