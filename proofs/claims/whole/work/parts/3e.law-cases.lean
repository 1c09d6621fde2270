/-! ===== the law's cases, one a method (written by gen/law2.py) ===== -/
theorem lnI0 (i j : Nat) : nI i + nI j = nI (i + j) := nI_add i j
theorem wt_885 : Cond.code yX9_places cX9_places 3 (some .int) ∈ mWT := mt_2 (List.mem_of_getElem? (i := 151) rfl) rfl
theorem wt_886 : Cond.methodLink RL 13 yX9_places ∈ mWT := mt_2 (List.mem_of_getElem? (i := 148) rfl) rfl
theorem wt_887 : Cond.instanceMethod yX9_places ∈ mWT := mt_2 (List.mem_of_getElem? (i := 149) rfl) rfl
theorem wt_888 : Cond.selects RX9 yX9_places yX9_places ∈ mWT := mt_2 (List.mem_of_getElem? (i := 150) rfl) rfl
theorem wt_889 : Cond.code yX10_places cX10_places 3 (some .int) ∈ mWT := mt_5 (List.mem_of_getElem? (i := 149) rfl) rfl
theorem wt_890 : Cond.methodLink RL 17 yX10_places ∈ mWT := mt_5 (List.mem_of_getElem? (i := 146) rfl) rfl
theorem wt_891 : Cond.instanceMethod yX10_places ∈ mWT := mt_5 (List.mem_of_getElem? (i := 147) rfl) rfl
theorem wt_892 : Cond.selects RX10 yX10_places yX10_places ∈ mWT := mt_5 (List.mem_of_getElem? (i := 148) rfl) rfl
theorem wt_893 : Cond.code yX9_weather cX9_weather 3 (some .int) ∈ mWT := mt_2 (List.mem_of_getElem? (i := 163) rfl) rfl
theorem wt_894 : Cond.methodLink RL 18 yX9_weather ∈ mWT := mt_2 (List.mem_of_getElem? (i := 160) rfl) rfl
theorem wt_895 : Cond.instanceMethod yX9_weather ∈ mWT := mt_2 (List.mem_of_getElem? (i := 161) rfl) rfl
theorem wt_896 : Cond.selects RX9 yX9_weather yX9_weather ∈ mWT := mt_2 (List.mem_of_getElem? (i := 162) rfl) rfl
theorem wt_897 : Cond.code yX10_weather cX10_weather 3 (some .int) ∈ mWT := mt_5 (List.mem_of_getElem? (i := 167) rfl) rfl
theorem wt_898 : Cond.methodLink RL 21 yX10_weather ∈ mWT := mt_5 (List.mem_of_getElem? (i := 164) rfl) rfl
theorem wt_899 : Cond.instanceMethod yX10_weather ∈ mWT := mt_5 (List.mem_of_getElem? (i := 165) rfl) rfl
theorem wt_900 : Cond.selects RX10 yX10_weather yX10_weather ∈ mWT := mt_5 (List.mem_of_getElem? (i := 166) rfl) rfl
theorem wt_901 : Cond.code yX9_way cX9_way 7 (some .int) ∈ mWT := mt_2 (List.mem_of_getElem? (i := 167) rfl) rfl
theorem wt_902 : Cond.methodLink RL 22 yX9_way ∈ mWT := mt_2 (List.mem_of_getElem? (i := 164) rfl) rfl
theorem wt_903 : Cond.instanceMethod yX9_way ∈ mWT := mt_2 (List.mem_of_getElem? (i := 165) rfl) rfl
theorem wt_904 : Cond.selects RX9 yX9_way yX9_way ∈ mWT := mt_2 (List.mem_of_getElem? (i := 166) rfl) rfl
theorem wt_905 : Cond.code yX10_way cX10_way 6 (some .int) ∈ mWT := mt_5 (List.mem_of_getElem? (i := 172) rfl) rfl
theorem wt_906 : Cond.methodLink RL 26 yX10_way ∈ mWT := mt_5 (List.mem_of_getElem? (i := 169) rfl) rfl
theorem wt_907 : Cond.instanceMethod yX10_way ∈ mWT := mt_5 (List.mem_of_getElem? (i := 170) rfl) rfl
theorem wt_908 : Cond.selects RX10 yX10_way yX10_way ∈ mWT := mt_5 (List.mem_of_getElem? (i := 171) rfl) rfl
theorem wt_909 : Cond.code yX9_of cX9_of 3 (some .int) ∈ mWT := mt_2 (List.mem_of_getElem? (i := 192) rfl) rfl
theorem wt_910 : Cond.methodLink RL 27 yX9_of ∈ mWT := mt_2 (List.mem_of_getElem? (i := 189) rfl) rfl
theorem wt_911 : Cond.instanceMethod yX9_of ∈ mWT := mt_2 (List.mem_of_getElem? (i := 190) rfl) rfl
theorem wt_912 : Cond.selects RX9 yX9_of yX9_of ∈ mWT := mt_2 (List.mem_of_getElem? (i := 191) rfl) rfl
theorem wt_913 : Cond.code yX10_of cX10_of 3 (some .int) ∈ mWT := mt_5 (List.mem_of_getElem? (i := 193) rfl) rfl
theorem wt_914 : Cond.methodLink RL 31 yX10_of ∈ mWT := mt_5 (List.mem_of_getElem? (i := 190) rfl) rfl
theorem wt_915 : Cond.instanceMethod yX10_of ∈ mWT := mt_5 (List.mem_of_getElem? (i := 191) rfl) rfl
theorem wt_916 : Cond.selects RX10 yX10_of yX10_of ∈ mWT := mt_5 (List.mem_of_getElem? (i := 192) rfl) rfl
theorem wt_917 : Cond.code yX9_change cX9_change 4 (some .int) ∈ mWT := mt_2 (List.mem_of_getElem? (i := 216) rfl) rfl
theorem wt_918 : Cond.methodLink RL 32 yX9_change ∈ mWT := mt_2 (List.mem_of_getElem? (i := 213) rfl) rfl
theorem wt_919 : Cond.instanceMethod yX9_change ∈ mWT := mt_2 (List.mem_of_getElem? (i := 214) rfl) rfl
theorem wt_920 : Cond.selects RX9 yX9_change yX9_change ∈ mWT := mt_2 (List.mem_of_getElem? (i := 215) rfl) rfl
theorem wt_921 : Cond.code yX10_change cX10_change 5 (some .int) ∈ mWT := mt_5 (List.mem_of_getElem? (i := 210) rfl) rfl
theorem wt_922 : Cond.methodLink RL 36 yX10_change ∈ mWT := mt_5 (List.mem_of_getElem? (i := 207) rfl) rfl
theorem wt_923 : Cond.instanceMethod yX10_change ∈ mWT := mt_5 (List.mem_of_getElem? (i := 208) rfl) rfl
theorem wt_924 : Cond.selects RX10 yX10_change yX10_change ∈ mWT := mt_5 (List.mem_of_getElem? (i := 209) rfl) rfl
theorem wt_925 : Cond.code yX9_as cX9_as 3 (some .int) ∈ mWT := mt_2 (List.mem_of_getElem? (i := 227) rfl) rfl
theorem wt_926 : Cond.methodLink RL 37 yX9_as ∈ mWT := mt_2 (List.mem_of_getElem? (i := 224) rfl) rfl
theorem wt_927 : Cond.instanceMethod yX9_as ∈ mWT := mt_2 (List.mem_of_getElem? (i := 225) rfl) rfl
theorem wt_928 : Cond.selects RX9 yX9_as yX9_as ∈ mWT := mt_2 (List.mem_of_getElem? (i := 226) rfl) rfl
theorem wt_929 : Cond.code yX10_as cX10_as 5 (some .int) ∈ mWT := mt_5 (List.mem_of_getElem? (i := 218) rfl) rfl
theorem wt_930 : Cond.methodLink RL 40 yX10_as ∈ mWT := mt_5 (List.mem_of_getElem? (i := 215) rfl) rfl
theorem wt_931 : Cond.instanceMethod yX10_as ∈ mWT := mt_5 (List.mem_of_getElem? (i := 216) rfl) rfl
theorem wt_932 : Cond.selects RX10 yX10_as yX10_as ∈ mWT := mt_5 (List.mem_of_getElem? (i := 217) rfl) rfl
theorem wt_933 : Cond.code yX9_thing cX9_thing 3 (some .int) ∈ mWT := mt_2 (List.mem_of_getElem? (i := 236) rfl) rfl
theorem wt_934 : Cond.methodLink RL 41 yX9_thing ∈ mWT := mt_2 (List.mem_of_getElem? (i := 233) rfl) rfl
theorem wt_935 : Cond.instanceMethod yX9_thing ∈ mWT := mt_2 (List.mem_of_getElem? (i := 234) rfl) rfl
theorem wt_936 : Cond.selects RX9 yX9_thing yX9_thing ∈ mWT := mt_2 (List.mem_of_getElem? (i := 235) rfl) rfl
theorem wt_937 : Cond.code yX10_thing cX10_thing 3 (some .int) ∈ mWT := mt_5 (List.mem_of_getElem? (i := 222) rfl) rfl
theorem wt_938 : Cond.methodLink RL 44 yX10_thing ∈ mWT := mt_5 (List.mem_of_getElem? (i := 219) rfl) rfl
theorem wt_939 : Cond.instanceMethod yX10_thing ∈ mWT := mt_5 (List.mem_of_getElem? (i := 220) rfl) rfl
theorem wt_940 : Cond.selects RX10 yX10_thing yX10_thing ∈ mWT := mt_5 (List.mem_of_getElem? (i := 221) rfl) rfl
theorem wt_941 : Cond.code yX9_alter cX9_alter 4 (some .int) ∈ mWT := mt_3 (List.mem_of_getElem? (i := 4) rfl) rfl
theorem wt_942 : Cond.methodLink RL 45 yX9_alter ∈ mWT := mt_3 (List.mem_of_getElem? (i := 1) rfl) rfl
theorem wt_943 : Cond.instanceMethod yX9_alter ∈ mWT := mt_3 (List.mem_of_getElem? (i := 2) rfl) rfl
theorem wt_944 : Cond.selects RX9 yX9_alter yX9_alter ∈ mWT := mt_3 (List.mem_of_getElem? (i := 3) rfl) rfl
theorem wt_945 : Cond.code yX10_alter cX10_alter 5 (some .int) ∈ mWT := mt_5 (List.mem_of_getElem? (i := 226) rfl) rfl
theorem wt_946 : Cond.methodLink RL 48 yX10_alter ∈ mWT := mt_5 (List.mem_of_getElem? (i := 223) rfl) rfl
theorem wt_947 : Cond.instanceMethod yX10_alter ∈ mWT := mt_5 (List.mem_of_getElem? (i := 224) rfl) rfl
theorem wt_948 : Cond.selects RX10 yX10_alter yX10_alter ∈ mWT := mt_5 (List.mem_of_getElem? (i := 225) rfl) rfl
theorem wt_949 : Cond.code yX9_its cX9_its 3 (some .int) ∈ mWT := mt_3 (List.mem_of_getElem? (i := 12) rfl) rfl
theorem wt_950 : Cond.methodLink RL 49 yX9_its ∈ mWT := mt_3 (List.mem_of_getElem? (i := 9) rfl) rfl
theorem wt_951 : Cond.instanceMethod yX9_its ∈ mWT := mt_3 (List.mem_of_getElem? (i := 10) rfl) rfl
theorem wt_952 : Cond.selects RX9 yX9_its yX9_its ∈ mWT := mt_3 (List.mem_of_getElem? (i := 11) rfl) rfl
theorem wt_953 : Cond.code yX10_its cX10_its 3 (some .int) ∈ mWT := mt_5 (List.mem_of_getElem? (i := 235) rfl) rfl
theorem wt_954 : Cond.methodLink RL 52 yX10_its ∈ mWT := mt_5 (List.mem_of_getElem? (i := 232) rfl) rfl
theorem wt_955 : Cond.instanceMethod yX10_its ∈ mWT := mt_5 (List.mem_of_getElem? (i := 233) rfl) rfl
theorem wt_956 : Cond.selects RX10 yX10_its yX10_its ∈ mWT := mt_5 (List.mem_of_getElem? (i := 234) rfl) rfl
theorem wt_957 : Cond.code yX9_ring cX9_ring 3 (some .long) ∈ mWT := mt_3 (List.mem_of_getElem? (i := 16) rfl) rfl
theorem wt_958 : Cond.methodLink RL 53 yX9_ring ∈ mWT := mt_3 (List.mem_of_getElem? (i := 13) rfl) rfl
theorem wt_959 : Cond.instanceMethod yX9_ring ∈ mWT := mt_3 (List.mem_of_getElem? (i := 14) rfl) rfl
theorem wt_960 : Cond.selects RX9 yX9_ring yX9_ring ∈ mWT := mt_3 (List.mem_of_getElem? (i := 15) rfl) rfl
theorem wt_961 : Cond.code yX10_ring cX10_ring 2 (some .long) ∈ mWT := mt_5 (List.mem_of_getElem? (i := 239) rfl) rfl
theorem wt_962 : Cond.methodLink RL 57 yX10_ring ∈ mWT := mt_5 (List.mem_of_getElem? (i := 236) rfl) rfl
theorem wt_963 : Cond.instanceMethod yX10_ring ∈ mWT := mt_5 (List.mem_of_getElem? (i := 237) rfl) rfl
theorem wt_964 : Cond.selects RX10 yX10_ring yX10_ring ∈ mWT := mt_5 (List.mem_of_getElem? (i := 238) rfl) rfl
theorem wt_965 : Cond.code yX9_ringWays cX9_ringWays 4 (some .int) ∈ mWT := mt_3 (List.mem_of_getElem? (i := 60) rfl) rfl
theorem wt_966 : Cond.methodLink RL 58 yX9_ringWays ∈ mWT := mt_3 (List.mem_of_getElem? (i := 57) rfl) rfl
theorem wt_967 : Cond.instanceMethod yX9_ringWays ∈ mWT := mt_3 (List.mem_of_getElem? (i := 58) rfl) rfl
theorem wt_968 : Cond.selects RX9 yX9_ringWays yX9_ringWays ∈ mWT := mt_3 (List.mem_of_getElem? (i := 59) rfl) rfl
theorem wt_969 : Cond.code yX10_ringWays cX10_ringWays 1 (some .int) ∈ mWT := mt_6 (List.mem_of_getElem? (i := 34) rfl) rfl
theorem wt_970 : Cond.methodLink RL 62 yX10_ringWays ∈ mWT := mt_6 (List.mem_of_getElem? (i := 31) rfl) rfl
theorem wt_971 : Cond.instanceMethod yX10_ringWays ∈ mWT := mt_6 (List.mem_of_getElem? (i := 32) rfl) rfl
theorem wt_972 : Cond.selects RX10 yX10_ringWays yX10_ringWays ∈ mWT := mt_6 (List.mem_of_getElem? (i := 33) rfl) rfl
theorem wt_973 : Cond.code yX9_lift cX9_lift 8 (some .long) ∈ mWT := mt_3 (List.mem_of_getElem? (i := 65) rfl) rfl
theorem wt_974 : Cond.methodLink RL 63 yX9_lift ∈ mWT := mt_3 (List.mem_of_getElem? (i := 62) rfl) rfl
theorem wt_975 : Cond.instanceMethod yX9_lift ∈ mWT := mt_3 (List.mem_of_getElem? (i := 63) rfl) rfl
theorem wt_976 : Cond.selects RX9 yX9_lift yX9_lift ∈ mWT := mt_3 (List.mem_of_getElem? (i := 64) rfl) rfl
theorem wt_977 : Cond.code yX10_lift cX10_lift 8 (some .long) ∈ mWT := mt_6 (List.mem_of_getElem? (i := 38) rfl) rfl
theorem wt_978 : Cond.methodLink RL 67 yX10_lift ∈ mWT := mt_6 (List.mem_of_getElem? (i := 35) rfl) rfl
theorem wt_979 : Cond.instanceMethod yX10_lift ∈ mWT := mt_6 (List.mem_of_getElem? (i := 36) rfl) rfl
theorem wt_980 : Cond.selects RX10 yX10_lift yX10_lift ∈ mWT := mt_6 (List.mem_of_getElem? (i := 37) rfl) rfl
theorem wt_981 : Cond.constantLong RL 68 (4294967295) ∈ mWT := mt_7 (List.mem_of_getElem? (i := 36) rfl) rfl
theorem wt_982 : Cond.code yX9_worth cX9_worth 10 (some .long) ∈ mWT := mt_3 (List.mem_of_getElem? (i := 77) rfl) rfl
theorem wt_983 : Cond.methodLink RL 70 yX9_worth ∈ mWT := mt_3 (List.mem_of_getElem? (i := 74) rfl) rfl
theorem wt_984 : Cond.instanceMethod yX9_worth ∈ mWT := mt_3 (List.mem_of_getElem? (i := 75) rfl) rfl
theorem wt_985 : Cond.selects RX9 yX9_worth yX9_worth ∈ mWT := mt_3 (List.mem_of_getElem? (i := 76) rfl) rfl
theorem wt_986 : Cond.code yX10_worth cX10_worth 5 (some .long) ∈ mWT := mt_6 (List.mem_of_getElem? (i := 47) rfl) rfl
theorem wt_987 : Cond.methodLink RL 74 yX10_worth ∈ mWT := mt_6 (List.mem_of_getElem? (i := 44) rfl) rfl
theorem wt_988 : Cond.instanceMethod yX10_worth ∈ mWT := mt_6 (List.mem_of_getElem? (i := 45) rfl) rfl
theorem wt_989 : Cond.selects RX10 yX10_worth yX10_worth ∈ mWT := mt_6 (List.mem_of_getElem? (i := 46) rfl) rfl
theorem wt_990 : Cond.code yX9_raise cX9_raise 11 (some .int) ∈ mWT := mt_3 (List.mem_of_getElem? (i := 86) rfl) rfl
theorem wt_991 : Cond.methodLink RL 75 yX9_raise ∈ mWT := mt_3 (List.mem_of_getElem? (i := 83) rfl) rfl
theorem wt_992 : Cond.instanceMethod yX9_raise ∈ mWT := mt_3 (List.mem_of_getElem? (i := 84) rfl) rfl
theorem wt_993 : Cond.selects RX9 yX9_raise yX9_raise ∈ mWT := mt_3 (List.mem_of_getElem? (i := 85) rfl) rfl
theorem wt_994 : Cond.code yX10_raise cX10_raise 4 (some .int) ∈ mWT := mt_6 (List.mem_of_getElem? (i := 56) rfl) rfl
theorem wt_995 : Cond.methodLink RL 78 yX10_raise ∈ mWT := mt_6 (List.mem_of_getElem? (i := 53) rfl) rfl
theorem wt_996 : Cond.instanceMethod yX10_raise ∈ mWT := mt_6 (List.mem_of_getElem? (i := 54) rfl) rfl
theorem wt_997 : Cond.selects RX10 yX10_raise yX10_raise ∈ mWT := mt_6 (List.mem_of_getElem? (i := 55) rfl) rfl
theorem wt_998 : Cond.code yX9_lose cX9_lose 5 (some .int) ∈ mWT := mt_3 (List.mem_of_getElem? (i := 106) rfl) rfl
theorem wt_999 : Cond.methodLink RL 79 yX9_lose ∈ mWT := mt_3 (List.mem_of_getElem? (i := 103) rfl) rfl
theorem wt_1000 : Cond.instanceMethod yX9_lose ∈ mWT := mt_3 (List.mem_of_getElem? (i := 104) rfl) rfl
theorem wt_1001 : Cond.selects RX9 yX9_lose yX9_lose ∈ mWT := mt_3 (List.mem_of_getElem? (i := 105) rfl) rfl
theorem wt_1002 : Cond.code yX10_lose cX10_lose 9 (some .int) ∈ mWT := mt_6 (List.mem_of_getElem? (i := 70) rfl) rfl
theorem wt_1003 : Cond.methodLink RL 82 yX10_lose ∈ mWT := mt_6 (List.mem_of_getElem? (i := 67) rfl) rfl
theorem wt_1004 : Cond.instanceMethod yX10_lose ∈ mWT := mt_6 (List.mem_of_getElem? (i := 68) rfl) rfl
theorem wt_1005 : Cond.selects RX10 yX10_lose yX10_lose ∈ mWT := mt_6 (List.mem_of_getElem? (i := 69) rfl) rfl
theorem wt_1006 : Cond.code yX9_kind cX9_kind 4 (some .int) ∈ mWT := mt_3 (List.mem_of_getElem? (i := 110) rfl) rfl
theorem wt_1007 : Cond.methodLink RL 83 yX9_kind ∈ mWT := mt_3 (List.mem_of_getElem? (i := 107) rfl) rfl
theorem wt_1008 : Cond.instanceMethod yX9_kind ∈ mWT := mt_3 (List.mem_of_getElem? (i := 108) rfl) rfl
theorem wt_1009 : Cond.selects RX9 yX9_kind yX9_kind ∈ mWT := mt_3 (List.mem_of_getElem? (i := 109) rfl) rfl
theorem wt_1010 : Cond.code yX10_kind cX10_kind 9 (some .int) ∈ mWT := mt_6 (List.mem_of_getElem? (i := 74) rfl) rfl
theorem wt_1011 : Cond.methodLink RL 86 yX10_kind ∈ mWT := mt_6 (List.mem_of_getElem? (i := 71) rfl) rfl
theorem wt_1012 : Cond.instanceMethod yX10_kind ∈ mWT := mt_6 (List.mem_of_getElem? (i := 72) rfl) rfl
theorem wt_1013 : Cond.selects RX10 yX10_kind yX10_kind ∈ mWT := mt_6 (List.mem_of_getElem? (i := 73) rfl) rfl
theorem wt_1014 : Cond.code yX9_season cX9_season 3 (some .int) ∈ mWT := mt_3 (List.mem_of_getElem? (i := 131) rfl) rfl
theorem wt_1015 : Cond.methodLink RL 87 yX9_season ∈ mWT := mt_3 (List.mem_of_getElem? (i := 128) rfl) rfl
theorem wt_1016 : Cond.instanceMethod yX9_season ∈ mWT := mt_3 (List.mem_of_getElem? (i := 129) rfl) rfl
theorem wt_1017 : Cond.selects RX9 yX9_season yX9_season ∈ mWT := mt_3 (List.mem_of_getElem? (i := 130) rfl) rfl
theorem wt_1018 : Cond.code yX10_season cX10_season 8 (some .int) ∈ mWT := mt_6 (List.mem_of_getElem? (i := 78) rfl) rfl
theorem wt_1019 : Cond.methodLink RL 90 yX10_season ∈ mWT := mt_6 (List.mem_of_getElem? (i := 75) rfl) rfl
theorem wt_1020 : Cond.instanceMethod yX10_season ∈ mWT := mt_6 (List.mem_of_getElem? (i := 76) rfl) rfl
theorem wt_1021 : Cond.selects RX10 yX10_season yX10_season ∈ mWT := mt_6 (List.mem_of_getElem? (i := 77) rfl) rfl
theorem wt_1022 : Cond.code yX9_tree cX9_tree 2 (some .long) ∈ mWT := mt_3 (List.mem_of_getElem? (i := 135) rfl) rfl
theorem wt_1023 : Cond.methodLink RL 91 yX9_tree ∈ mWT := mt_3 (List.mem_of_getElem? (i := 132) rfl) rfl
theorem wt_1024 : Cond.instanceMethod yX9_tree ∈ mWT := mt_3 (List.mem_of_getElem? (i := 133) rfl) rfl
theorem wt_1025 : Cond.selects RX9 yX9_tree yX9_tree ∈ mWT := mt_3 (List.mem_of_getElem? (i := 134) rfl) rfl
theorem wt_1026 : Cond.code yX10_tree cX10_tree 2 (some .long) ∈ mWT := mt_6 (List.mem_of_getElem? (i := 82) rfl) rfl
theorem wt_1027 : Cond.methodLink RL 94 yX10_tree ∈ mWT := mt_6 (List.mem_of_getElem? (i := 79) rfl) rfl
theorem wt_1028 : Cond.instanceMethod yX10_tree ∈ mWT := mt_6 (List.mem_of_getElem? (i := 80) rfl) rfl
theorem wt_1029 : Cond.selects RX10 yX10_tree yX10_tree ∈ mWT := mt_6 (List.mem_of_getElem? (i := 81) rfl) rfl
theorem wt_1030 : Cond.code yX9_walk cX9_walk 5 (some .long) ∈ mWT := mt_3 (List.mem_of_getElem? (i := 201) rfl) rfl
theorem wt_1031 : Cond.methodLink RL 95 yX9_walk ∈ mWT := mt_3 (List.mem_of_getElem? (i := 198) rfl) rfl
theorem wt_1032 : Cond.instanceMethod yX9_walk ∈ mWT := mt_3 (List.mem_of_getElem? (i := 199) rfl) rfl
theorem wt_1033 : Cond.selects RX9 yX9_walk yX9_walk ∈ mWT := mt_3 (List.mem_of_getElem? (i := 200) rfl) rfl
theorem wt_1034 : Cond.code yX10_walk cX10_walk 4 (some .long) ∈ mWT := mt_6 (List.mem_of_getElem? (i := 142) rfl) rfl
theorem wt_1035 : Cond.methodLink RL 99 yX10_walk ∈ mWT := mt_6 (List.mem_of_getElem? (i := 139) rfl) rfl
theorem wt_1036 : Cond.instanceMethod yX10_walk ∈ mWT := mt_6 (List.mem_of_getElem? (i := 140) rfl) rfl
theorem wt_1037 : Cond.selects RX10 yX10_walk yX10_walk ∈ mWT := mt_6 (List.mem_of_getElem? (i := 141) rfl) rfl
theorem wt_1038 : Cond.code yX9_load cX9_load 3 (some .long) ∈ mWT := mt_3 (List.mem_of_getElem? (i := 215) rfl) rfl
theorem wt_1039 : Cond.methodLink RL 100 yX9_load ∈ mWT := mt_3 (List.mem_of_getElem? (i := 212) rfl) rfl
theorem wt_1040 : Cond.instanceMethod yX9_load ∈ mWT := mt_3 (List.mem_of_getElem? (i := 213) rfl) rfl
theorem wt_1041 : Cond.selects RX9 yX9_load yX9_load ∈ mWT := mt_3 (List.mem_of_getElem? (i := 214) rfl) rfl
theorem wt_1042 : Cond.code yX10_load cX10_load 3 (some .long) ∈ mWT := mt_6 (List.mem_of_getElem? (i := 146) rfl) rfl
theorem wt_1043 : Cond.methodLink RL 103 yX10_load ∈ mWT := mt_6 (List.mem_of_getElem? (i := 143) rfl) rfl
theorem wt_1044 : Cond.instanceMethod yX10_load ∈ mWT := mt_6 (List.mem_of_getElem? (i := 144) rfl) rfl
theorem wt_1045 : Cond.selects RX10 yX10_load yX10_load ∈ mWT := mt_6 (List.mem_of_getElem? (i := 145) rfl) rfl
theorem wt_1046 : Cond.code yX9_ratio cX9_ratio 4 (some .long) ∈ mWT := mt_3 (List.mem_of_getElem? (i := 226) rfl) rfl
theorem wt_1047 : Cond.methodLink RL 104 yX9_ratio ∈ mWT := mt_3 (List.mem_of_getElem? (i := 223) rfl) rfl
theorem wt_1048 : Cond.instanceMethod yX9_ratio ∈ mWT := mt_3 (List.mem_of_getElem? (i := 224) rfl) rfl
theorem wt_1049 : Cond.selects RX9 yX9_ratio yX9_ratio ∈ mWT := mt_3 (List.mem_of_getElem? (i := 225) rfl) rfl
theorem wt_1050 : Cond.code yX10_ratio cX10_ratio 4 (some .long) ∈ mWT := mt_6 (List.mem_of_getElem? (i := 150) rfl) rfl
theorem wt_1051 : Cond.methodLink RL 107 yX10_ratio ∈ mWT := mt_6 (List.mem_of_getElem? (i := 147) rfl) rfl
theorem wt_1052 : Cond.instanceMethod yX10_ratio ∈ mWT := mt_6 (List.mem_of_getElem? (i := 148) rfl) rfl
theorem wt_1053 : Cond.selects RX10 yX10_ratio yX10_ratio ∈ mWT := mt_6 (List.mem_of_getElem? (i := 149) rfl) rfl
theorem wt_1054 : Cond.code yX9_compare cX9_compare 7 (some .int) ∈ mWT := mt_4 (List.mem_of_getElem? (i := 42) rfl) rfl
theorem wt_1055 : Cond.methodLink RL 108 yX9_compare ∈ mWT := mt_4 (List.mem_of_getElem? (i := 39) rfl) rfl
theorem wt_1056 : Cond.instanceMethod yX9_compare ∈ mWT := mt_4 (List.mem_of_getElem? (i := 40) rfl) rfl
theorem wt_1057 : Cond.selects RX9 yX9_compare yX9_compare ∈ mWT := mt_4 (List.mem_of_getElem? (i := 41) rfl) rfl
theorem wt_1058 : Cond.code yX10_compare cX10_compare 12 (some .int) ∈ mWT := mt_6 (List.mem_of_getElem? (i := 154) rfl) rfl
theorem wt_1059 : Cond.methodLink RL 111 yX10_compare ∈ mWT := mt_6 (List.mem_of_getElem? (i := 151) rfl) rfl
theorem wt_1060 : Cond.instanceMethod yX10_compare ∈ mWT := mt_6 (List.mem_of_getElem? (i := 152) rfl) rfl
theorem wt_1061 : Cond.selects RX10 yX10_compare yX10_compare ∈ mWT := mt_6 (List.mem_of_getElem? (i := 153) rfl) rfl
theorem wt_1062 : Cond.code yX9_reduce cX9_reduce 11 (some .long) ∈ mWT := mt_4 (List.mem_of_getElem? (i := 60) rfl) rfl
theorem wt_1063 : Cond.methodLink RL 112 yX9_reduce ∈ mWT := mt_4 (List.mem_of_getElem? (i := 57) rfl) rfl
theorem wt_1064 : Cond.instanceMethod yX9_reduce ∈ mWT := mt_4 (List.mem_of_getElem? (i := 58) rfl) rfl
theorem wt_1065 : Cond.selects RX9 yX9_reduce yX9_reduce ∈ mWT := mt_4 (List.mem_of_getElem? (i := 59) rfl) rfl
theorem wt_1066 : Cond.code yX10_reduce cX10_reduce 19 (some .long) ∈ mWT := mt_6 (List.mem_of_getElem? (i := 165) rfl) rfl
theorem wt_1067 : Cond.methodLink RL 115 yX10_reduce ∈ mWT := mt_6 (List.mem_of_getElem? (i := 162) rfl) rfl
theorem wt_1068 : Cond.instanceMethod yX10_reduce ∈ mWT := mt_6 (List.mem_of_getElem? (i := 163) rfl) rfl
theorem wt_1069 : Cond.selects RX10 yX10_reduce yX10_reduce ∈ mWT := mt_6 (List.mem_of_getElem? (i := 164) rfl) rfl
theorem wt_1070 : Cond.code yX9_add cX9_add 14 (some .int) ∈ mWT := mt_4 (List.mem_of_getElem? (i := 68) rfl) rfl
theorem wt_1071 : Cond.methodLink RL 116 yX9_add ∈ mWT := mt_4 (List.mem_of_getElem? (i := 65) rfl) rfl
theorem wt_1072 : Cond.instanceMethod yX9_add ∈ mWT := mt_4 (List.mem_of_getElem? (i := 66) rfl) rfl
theorem wt_1073 : Cond.selects RX9 yX9_add yX9_add ∈ mWT := mt_4 (List.mem_of_getElem? (i := 67) rfl) rfl
theorem wt_1074 : Cond.code yX10_add cX10_add 15 (some .int) ∈ mWT := mt_6 (List.mem_of_getElem? (i := 172) rfl) rfl
theorem wt_1075 : Cond.methodLink RL 119 yX10_add ∈ mWT := mt_6 (List.mem_of_getElem? (i := 169) rfl) rfl
theorem wt_1076 : Cond.instanceMethod yX10_add ∈ mWT := mt_6 (List.mem_of_getElem? (i := 170) rfl) rfl
theorem wt_1077 : Cond.selects RX10 yX10_add yX10_add ∈ mWT := mt_6 (List.mem_of_getElem? (i := 171) rfl) rfl
theorem wt_1078 : Cond.code yX9_feed cX9_feed 4 (some .int) ∈ mWT := mt_4 (List.mem_of_getElem? (i := 75) rfl) rfl
theorem wt_1079 : Cond.methodLink RL 120 yX9_feed ∈ mWT := mt_4 (List.mem_of_getElem? (i := 72) rfl) rfl
theorem wt_1080 : Cond.instanceMethod yX9_feed ∈ mWT := mt_4 (List.mem_of_getElem? (i := 73) rfl) rfl
theorem wt_1081 : Cond.selects RX9 yX9_feed yX9_feed ∈ mWT := mt_4 (List.mem_of_getElem? (i := 74) rfl) rfl
theorem wt_1082 : Cond.code yX10_feed cX10_feed 4 (some .int) ∈ mWT := mt_6 (List.mem_of_getElem? (i := 180) rfl) rfl
theorem wt_1083 : Cond.methodLink RL 123 yX10_feed ∈ mWT := mt_6 (List.mem_of_getElem? (i := 177) rfl) rfl
theorem wt_1084 : Cond.instanceMethod yX10_feed ∈ mWT := mt_6 (List.mem_of_getElem? (i := 178) rfl) rfl
theorem wt_1085 : Cond.selects RX10 yX10_feed yX10_feed ∈ mWT := mt_6 (List.mem_of_getElem? (i := 179) rfl) rfl
theorem wt_1086 : Cond.code yX9_wipe cX9_wipe 2 (some .int) ∈ mWT := mt_4 (List.mem_of_getElem? (i := 83) rfl) rfl
theorem wt_1087 : Cond.methodLink RL 124 yX9_wipe ∈ mWT := mt_4 (List.mem_of_getElem? (i := 80) rfl) rfl
theorem wt_1088 : Cond.instanceMethod yX9_wipe ∈ mWT := mt_4 (List.mem_of_getElem? (i := 81) rfl) rfl
theorem wt_1089 : Cond.selects RX9 yX9_wipe yX9_wipe ∈ mWT := mt_4 (List.mem_of_getElem? (i := 82) rfl) rfl
theorem wt_1090 : Cond.code yX10_wipe cX10_wipe 2 (some .int) ∈ mWT := mt_6 (List.mem_of_getElem? (i := 185) rfl) rfl
theorem wt_1091 : Cond.methodLink RL 127 yX10_wipe ∈ mWT := mt_6 (List.mem_of_getElem? (i := 182) rfl) rfl
theorem wt_1092 : Cond.instanceMethod yX10_wipe ∈ mWT := mt_6 (List.mem_of_getElem? (i := 183) rfl) rfl
theorem wt_1093 : Cond.selects RX10 yX10_wipe yX10_wipe ∈ mWT := mt_6 (List.mem_of_getElem? (i := 184) rfl) rfl
theorem wt_1094 : Cond.code yX9_text cX9_text 2 (some .int) ∈ mWT := mt_4 (List.mem_of_getElem? (i := 87) rfl) rfl
theorem wt_1095 : Cond.methodLink RL 128 yX9_text ∈ mWT := mt_4 (List.mem_of_getElem? (i := 84) rfl) rfl
theorem wt_1096 : Cond.instanceMethod yX9_text ∈ mWT := mt_4 (List.mem_of_getElem? (i := 85) rfl) rfl
theorem wt_1097 : Cond.selects RX9 yX9_text yX9_text ∈ mWT := mt_4 (List.mem_of_getElem? (i := 86) rfl) rfl
theorem wt_1098 : Cond.code yX10_text cX10_text 7 (some .int) ∈ mWT := mt_6 (List.mem_of_getElem? (i := 189) rfl) rfl
theorem wt_1099 : Cond.methodLink RL 131 yX10_text ∈ mWT := mt_6 (List.mem_of_getElem? (i := 186) rfl) rfl
theorem wt_1100 : Cond.instanceMethod yX10_text ∈ mWT := mt_6 (List.mem_of_getElem? (i := 187) rfl) rfl
theorem wt_1101 : Cond.selects RX10 yX10_text yX10_text ∈ mWT := mt_6 (List.mem_of_getElem? (i := 188) rfl) rfl
theorem wt_1102 : Cond.code yX9_sheet cX9_sheet 4 (some .int) ∈ mWT := mt_4 (List.mem_of_getElem? (i := 215) rfl) rfl
theorem wt_1103 : Cond.methodLink RL 132 yX9_sheet ∈ mWT := mt_4 (List.mem_of_getElem? (i := 212) rfl) rfl
theorem wt_1104 : Cond.instanceMethod yX9_sheet ∈ mWT := mt_4 (List.mem_of_getElem? (i := 213) rfl) rfl
theorem wt_1105 : Cond.selects RX9 yX9_sheet yX9_sheet ∈ mWT := mt_4 (List.mem_of_getElem? (i := 214) rfl) rfl
theorem wt_1106 : Cond.code yX10_sheet cX10_sheet 5 (some .int) ∈ mWT := mt_6 (List.mem_of_getElem? (i := 234) rfl) rfl
theorem wt_1107 : Cond.methodLink RL 135 yX10_sheet ∈ mWT := mt_6 (List.mem_of_getElem? (i := 231) rfl) rfl
theorem wt_1108 : Cond.instanceMethod yX10_sheet ∈ mWT := mt_6 (List.mem_of_getElem? (i := 232) rfl) rfl
theorem wt_1109 : Cond.selects RX10 yX10_sheet yX10_sheet ∈ mWT := mt_6 (List.mem_of_getElem? (i := 233) rfl) rfl
theorem wt_1110 : Cond.code yX9_write cX9_write 6 (some .int) ∈ mWT := mt_4 (List.mem_of_getElem? (i := 223) rfl) rfl
theorem wt_1111 : Cond.methodLink RL 136 yX9_write ∈ mWT := mt_4 (List.mem_of_getElem? (i := 220) rfl) rfl
theorem wt_1112 : Cond.instanceMethod yX9_write ∈ mWT := mt_4 (List.mem_of_getElem? (i := 221) rfl) rfl
theorem wt_1113 : Cond.selects RX9 yX9_write yX9_write ∈ mWT := mt_4 (List.mem_of_getElem? (i := 222) rfl) rfl
theorem wt_1114 : Cond.code yX10_write cX10_write 6 (some .int) ∈ mWT := mt_6 (List.mem_of_getElem? (i := 238) rfl) rfl
theorem wt_1115 : Cond.methodLink RL 140 yX10_write ∈ mWT := mt_6 (List.mem_of_getElem? (i := 235) rfl) rfl
theorem wt_1116 : Cond.instanceMethod yX10_write ∈ mWT := mt_6 (List.mem_of_getElem? (i := 236) rfl) rfl
theorem wt_1117 : Cond.selects RX10 yX10_write yX10_write ∈ mWT := mt_6 (List.mem_of_getElem? (i := 237) rfl) rfl
theorem wt_1118 : Cond.code yX9_read cX9_read 4 (some .long) ∈ mWT := mt_4 (List.mem_of_getElem? (i := 231) rfl) rfl
theorem wt_1119 : Cond.methodLink RL 141 yX9_read ∈ mWT := mt_4 (List.mem_of_getElem? (i := 228) rfl) rfl
theorem wt_1120 : Cond.instanceMethod yX9_read ∈ mWT := mt_4 (List.mem_of_getElem? (i := 229) rfl) rfl
theorem wt_1121 : Cond.selects RX9 yX9_read yX9_read ∈ mWT := mt_4 (List.mem_of_getElem? (i := 230) rfl) rfl
theorem wt_1122 : Cond.code yX10_read cX10_read 4 (some .long) ∈ mWT := mt_7 (List.mem_of_getElem? (i := 6) rfl) rfl
theorem wt_1123 : Cond.methodLink RL 144 yX10_read ∈ mWT := mt_7 (List.mem_of_getElem? (i := 3) rfl) rfl
theorem wt_1124 : Cond.instanceMethod yX10_read ∈ mWT := mt_7 (List.mem_of_getElem? (i := 4) rfl) rfl
theorem wt_1125 : Cond.selects RX10 yX10_read yX10_read ∈ mWT := mt_7 (List.mem_of_getElem? (i := 5) rfl) rfl
theorem wt_1126 : Cond.code yX9_copy cX9_copy 6 (some .int) ∈ mWT := mt_4 (List.mem_of_getElem? (i := 235) rfl) rfl
theorem wt_1127 : Cond.methodLink RL 145 yX9_copy ∈ mWT := mt_4 (List.mem_of_getElem? (i := 232) rfl) rfl
theorem wt_1128 : Cond.instanceMethod yX9_copy ∈ mWT := mt_4 (List.mem_of_getElem? (i := 233) rfl) rfl
theorem wt_1129 : Cond.selects RX9 yX9_copy yX9_copy ∈ mWT := mt_4 (List.mem_of_getElem? (i := 234) rfl) rfl
theorem wt_1130 : Cond.code yX10_copy cX10_copy 7 (some .int) ∈ mWT := mt_7 (List.mem_of_getElem? (i := 10) rfl) rfl
theorem wt_1131 : Cond.methodLink RL 148 yX10_copy ∈ mWT := mt_7 (List.mem_of_getElem? (i := 7) rfl) rfl
theorem wt_1132 : Cond.instanceMethod yX10_copy ∈ mWT := mt_7 (List.mem_of_getElem? (i := 8) rfl) rfl
theorem wt_1133 : Cond.selects RX10 yX10_copy yX10_copy ∈ mWT := mt_7 (List.mem_of_getElem? (i := 9) rfl) rfl
theorem wt_1134 : Cond.code yX9_lays cX9_lays 8 (some .int) ∈ mWT := mt_5 (List.mem_of_getElem? (i := 4) rfl) rfl
theorem wt_1135 : Cond.methodLink RL 149 yX9_lays ∈ mWT := mt_5 (List.mem_of_getElem? (i := 1) rfl) rfl
theorem wt_1136 : Cond.instanceMethod yX9_lays ∈ mWT := mt_5 (List.mem_of_getElem? (i := 2) rfl) rfl
theorem wt_1137 : Cond.selects RX9 yX9_lays yX9_lays ∈ mWT := mt_5 (List.mem_of_getElem? (i := 3) rfl) rfl
theorem wt_1138 : Cond.code yX10_lays cX10_lays 4 (some .int) ∈ mWT := mt_7 (List.mem_of_getElem? (i := 14) rfl) rfl
theorem wt_1139 : Cond.methodLink RL 152 yX10_lays ∈ mWT := mt_7 (List.mem_of_getElem? (i := 11) rfl) rfl
theorem wt_1140 : Cond.instanceMethod yX10_lays ∈ mWT := mt_7 (List.mem_of_getElem? (i := 12) rfl) rfl
theorem wt_1141 : Cond.selects RX10 yX10_lays yX10_lays ∈ mWT := mt_7 (List.mem_of_getElem? (i := 13) rfl) rfl
theorem wt_1142 : Cond.code yX9_image cX9_image 1 (some .int) ∈ mWT := mt_5 (List.mem_of_getElem? (i := 9) rfl) rfl
theorem wt_1143 : Cond.methodLink RL 153 yX9_image ∈ mWT := mt_5 (List.mem_of_getElem? (i := 6) rfl) rfl
theorem wt_1144 : Cond.instanceMethod yX9_image ∈ mWT := mt_5 (List.mem_of_getElem? (i := 7) rfl) rfl
theorem wt_1145 : Cond.selects RX9 yX9_image yX9_image ∈ mWT := mt_5 (List.mem_of_getElem? (i := 8) rfl) rfl
theorem wt_1146 : Cond.code yX10_image cX10_image 2 (some .int) ∈ mWT := mt_7 (List.mem_of_getElem? (i := 18) rfl) rfl
theorem wt_1147 : Cond.methodLink RL 156 yX10_image ∈ mWT := mt_7 (List.mem_of_getElem? (i := 15) rfl) rfl
theorem wt_1148 : Cond.instanceMethod yX10_image ∈ mWT := mt_7 (List.mem_of_getElem? (i := 16) rfl) rfl
theorem wt_1149 : Cond.selects RX10 yX10_image yX10_image ∈ mWT := mt_7 (List.mem_of_getElem? (i := 17) rfl) rfl
theorem wt_1150 : Cond.code yX9_undo cX9_undo 1 (some .int) ∈ mWT := mt_5 (List.mem_of_getElem? (i := 13) rfl) rfl
theorem wt_1151 : Cond.methodLink RL 157 yX9_undo ∈ mWT := mt_5 (List.mem_of_getElem? (i := 10) rfl) rfl
theorem wt_1152 : Cond.instanceMethod yX9_undo ∈ mWT := mt_5 (List.mem_of_getElem? (i := 11) rfl) rfl
theorem wt_1153 : Cond.selects RX9 yX9_undo yX9_undo ∈ mWT := mt_5 (List.mem_of_getElem? (i := 12) rfl) rfl
theorem wt_1154 : Cond.code yX10_undo cX10_undo 2 (some .int) ∈ mWT := mt_7 (List.mem_of_getElem? (i := 22) rfl) rfl
theorem wt_1155 : Cond.methodLink RL 160 yX10_undo ∈ mWT := mt_7 (List.mem_of_getElem? (i := 19) rfl) rfl
theorem wt_1156 : Cond.instanceMethod yX10_undo ∈ mWT := mt_7 (List.mem_of_getElem? (i := 20) rfl) rfl
theorem wt_1157 : Cond.selects RX10 yX10_undo yX10_undo ∈ mWT := mt_7 (List.mem_of_getElem? (i := 21) rfl) rfl
theorem wt_1158 : Cond.code yX9_tear cX9_tear 2 (some .int) ∈ mWT := mt_5 (List.mem_of_getElem? (i := 17) rfl) rfl
theorem wt_1159 : Cond.methodLink RL 161 yX9_tear ∈ mWT := mt_5 (List.mem_of_getElem? (i := 14) rfl) rfl
theorem wt_1160 : Cond.instanceMethod yX9_tear ∈ mWT := mt_5 (List.mem_of_getElem? (i := 15) rfl) rfl
theorem wt_1161 : Cond.selects RX9 yX9_tear yX9_tear ∈ mWT := mt_5 (List.mem_of_getElem? (i := 16) rfl) rfl
theorem wt_1162 : Cond.code yX10_tear cX10_tear 2 (some .int) ∈ mWT := mt_7 (List.mem_of_getElem? (i := 26) rfl) rfl
theorem wt_1163 : Cond.methodLink RL 164 yX10_tear ∈ mWT := mt_7 (List.mem_of_getElem? (i := 23) rfl) rfl
theorem wt_1164 : Cond.instanceMethod yX10_tear ∈ mWT := mt_7 (List.mem_of_getElem? (i := 24) rfl) rfl
theorem wt_1165 : Cond.selects RX10 yX10_tear yX10_tear ∈ mWT := mt_7 (List.mem_of_getElem? (i := 25) rfl) rfl
theorem wt_1166 : Cond.code yX9_count cX9_count 2 (some .int) ∈ mWT := mt_5 (List.mem_of_getElem? (i := 21) rfl) rfl
theorem wt_1167 : Cond.methodLink RL 165 yX9_count ∈ mWT := mt_5 (List.mem_of_getElem? (i := 18) rfl) rfl
theorem wt_1168 : Cond.instanceMethod yX9_count ∈ mWT := mt_5 (List.mem_of_getElem? (i := 19) rfl) rfl
theorem wt_1169 : Cond.selects RX9 yX9_count yX9_count ∈ mWT := mt_5 (List.mem_of_getElem? (i := 20) rfl) rfl
theorem wt_1170 : Cond.code yX10_count cX10_count 2 (some .int) ∈ mWT := mt_7 (List.mem_of_getElem? (i := 30) rfl) rfl
theorem wt_1171 : Cond.methodLink RL 168 yX10_count ∈ mWT := mt_7 (List.mem_of_getElem? (i := 27) rfl) rfl
theorem wt_1172 : Cond.instanceMethod yX10_count ∈ mWT := mt_7 (List.mem_of_getElem? (i := 28) rfl) rfl
theorem wt_1173 : Cond.selects RX10 yX10_count yX10_count ∈ mWT := mt_7 (List.mem_of_getElem? (i := 29) rfl) rfl
theorem wt_1174 : Cond.code yX9_status cX9_status 4 (some .int) ∈ mWT := mt_5 (List.mem_of_getElem? (i := 29) rfl) rfl
theorem wt_1175 : Cond.methodLink RL 169 yX9_status ∈ mWT := mt_5 (List.mem_of_getElem? (i := 26) rfl) rfl
theorem wt_1176 : Cond.instanceMethod yX9_status ∈ mWT := mt_5 (List.mem_of_getElem? (i := 27) rfl) rfl
theorem wt_1177 : Cond.selects RX9 yX9_status yX9_status ∈ mWT := mt_5 (List.mem_of_getElem? (i := 28) rfl) rfl
theorem wt_1178 : Cond.code yX10_status cX10_status 4 (some .int) ∈ mWT := mt_7 (List.mem_of_getElem? (i := 34) rfl) rfl
theorem wt_1179 : Cond.methodLink RL 172 yX10_status ∈ mWT := mt_7 (List.mem_of_getElem? (i := 31) rfl) rfl
theorem wt_1180 : Cond.instanceMethod yX10_status ∈ mWT := mt_7 (List.mem_of_getElem? (i := 32) rfl) rfl
theorem wt_1181 : Cond.selects RX10 yX10_status yX10_status ∈ mWT := mt_7 (List.mem_of_getElem? (i := 33) rfl) rfl
theorem lkV_RL_13_yX9_places : MLv RL 13 RX9 yX9_places cX9_places 3 (some .int) 1 := ⟨wt_885, wt_886, wt_887, wt_888, wt_8, rfl, by decide +kernel, by decide +kernel, by decide +kernel⟩
theorem lkV_RL_17_yX10_places : MLv RL 17 RX10 yX10_places cX10_places 3 (some .int) 1 := ⟨wt_889, wt_890, wt_891, wt_892, wt_581, rfl, by decide +kernel, by decide +kernel, by decide +kernel⟩
theorem lkV_RL_18_yX9_weather : MLv RL 18 RX9 yX9_weather cX9_weather 3 (some .int) 1 := ⟨wt_893, wt_894, wt_895, wt_896, wt_8, rfl, by decide +kernel, by decide +kernel, by decide +kernel⟩
theorem lkV_RL_21_yX10_weather : MLv RL 21 RX10 yX10_weather cX10_weather 3 (some .int) 1 := ⟨wt_897, wt_898, wt_899, wt_900, wt_581, rfl, by decide +kernel, by decide +kernel, by decide +kernel⟩
theorem lkV_RL_22_yX9_way : MLv RL 22 RX9 yX9_way cX9_way 7 (some .int) 5 := ⟨wt_901, wt_902, wt_903, wt_904, wt_8, rfl, by decide +kernel, by decide +kernel, by decide +kernel⟩
theorem lkV_RL_26_yX10_way : MLv RL 26 RX10 yX10_way cX10_way 6 (some .int) 5 := ⟨wt_905, wt_906, wt_907, wt_908, wt_581, rfl, by decide +kernel, by decide +kernel, by decide +kernel⟩
theorem lkV_RL_27_yX9_of : MLv RL 27 RX9 yX9_of cX9_of 3 (some .int) 2 := ⟨wt_909, wt_910, wt_911, wt_912, wt_8, rfl, by decide +kernel, by decide +kernel, by decide +kernel⟩
theorem lkV_RL_31_yX10_of : MLv RL 31 RX10 yX10_of cX10_of 3 (some .int) 2 := ⟨wt_913, wt_914, wt_915, wt_916, wt_581, rfl, by decide +kernel, by decide +kernel, by decide +kernel⟩
theorem lkV_RL_32_yX9_change : MLv RL 32 RX9 yX9_change cX9_change 4 (some .int) 3 := ⟨wt_917, wt_918, wt_919, wt_920, wt_8, rfl, by decide +kernel, by decide +kernel, by decide +kernel⟩
theorem lkV_RL_36_yX10_change : MLv RL 36 RX10 yX10_change cX10_change 5 (some .int) 3 := ⟨wt_921, wt_922, wt_923, wt_924, wt_581, rfl, by decide +kernel, by decide +kernel, by decide +kernel⟩
theorem lkV_RL_37_yX9_as : MLv RL 37 RX9 yX9_as cX9_as 3 (some .int) 2 := ⟨wt_925, wt_926, wt_927, wt_928, wt_8, rfl, by decide +kernel, by decide +kernel, by decide +kernel⟩
theorem lkV_RL_40_yX10_as : MLv RL 40 RX10 yX10_as cX10_as 5 (some .int) 2 := ⟨wt_929, wt_930, wt_931, wt_932, wt_581, rfl, by decide +kernel, by decide +kernel, by decide +kernel⟩
theorem lkV_RL_41_yX9_thing : MLv RL 41 RX9 yX9_thing cX9_thing 3 (some .int) 2 := ⟨wt_933, wt_934, wt_935, wt_936, wt_8, rfl, by decide +kernel, by decide +kernel, by decide +kernel⟩
theorem lkV_RL_44_yX10_thing : MLv RL 44 RX10 yX10_thing cX10_thing 3 (some .int) 2 := ⟨wt_937, wt_938, wt_939, wt_940, wt_581, rfl, by decide +kernel, by decide +kernel, by decide +kernel⟩
theorem lkV_RL_45_yX9_alter : MLv RL 45 RX9 yX9_alter cX9_alter 4 (some .int) 3 := ⟨wt_941, wt_942, wt_943, wt_944, wt_8, rfl, by decide +kernel, by decide +kernel, by decide +kernel⟩
theorem lkV_RL_48_yX10_alter : MLv RL 48 RX10 yX10_alter cX10_alter 5 (some .int) 3 := ⟨wt_945, wt_946, wt_947, wt_948, wt_581, rfl, by decide +kernel, by decide +kernel, by decide +kernel⟩
theorem lkV_RL_49_yX9_its : MLv RL 49 RX9 yX9_its cX9_its 3 (some .int) 2 := ⟨wt_949, wt_950, wt_951, wt_952, wt_8, rfl, by decide +kernel, by decide +kernel, by decide +kernel⟩
theorem lkV_RL_52_yX10_its : MLv RL 52 RX10 yX10_its cX10_its 3 (some .int) 2 := ⟨wt_953, wt_954, wt_955, wt_956, wt_581, rfl, by decide +kernel, by decide +kernel, by decide +kernel⟩
theorem lkV_RL_53_yX9_ring : MLv RL 53 RX9 yX9_ring cX9_ring 3 (some .long) 1 := ⟨wt_957, wt_958, wt_959, wt_960, wt_8, rfl, by decide +kernel, by decide +kernel, by decide +kernel⟩
theorem lkV_RL_57_yX10_ring : MLv RL 57 RX10 yX10_ring cX10_ring 2 (some .long) 1 := ⟨wt_961, wt_962, wt_963, wt_964, wt_581, rfl, by decide +kernel, by decide +kernel, by decide +kernel⟩
theorem lkV_RL_58_yX9_ringWays : MLv RL 58 RX9 yX9_ringWays cX9_ringWays 4 (some .int) 0 := ⟨wt_965, wt_966, wt_967, wt_968, wt_8, rfl, by decide +kernel, by decide +kernel, by decide +kernel⟩
theorem lkV_RL_62_yX10_ringWays : MLv RL 62 RX10 yX10_ringWays cX10_ringWays 1 (some .int) 0 := ⟨wt_969, wt_970, wt_971, wt_972, wt_581, rfl, by decide +kernel, by decide +kernel, by decide +kernel⟩
theorem lkV_RL_63_yX9_lift : MLv RL 63 RX9 yX9_lift cX9_lift 8 (some .long) 2 := ⟨wt_973, wt_974, wt_975, wt_976, wt_8, rfl, by decide +kernel, by decide +kernel, by decide +kernel⟩
theorem lkV_RL_67_yX10_lift : MLv RL 67 RX10 yX10_lift cX10_lift 8 (some .long) 2 := ⟨wt_977, wt_978, wt_979, wt_980, wt_581, rfl, by decide +kernel, by decide +kernel, by decide +kernel⟩
theorem lkV_RL_70_yX9_worth : MLv RL 70 RX9 yX9_worth cX9_worth 10 (some .long) 1 := ⟨wt_982, wt_983, wt_984, wt_985, wt_8, rfl, by decide +kernel, by decide +kernel, by decide +kernel⟩
theorem lkV_RL_74_yX10_worth : MLv RL 74 RX10 yX10_worth cX10_worth 5 (some .long) 1 := ⟨wt_986, wt_987, wt_988, wt_989, wt_581, rfl, by decide +kernel, by decide +kernel, by decide +kernel⟩
theorem lkV_RL_75_yX9_raise : MLv RL 75 RX9 yX9_raise cX9_raise 11 (some .int) 1 := ⟨wt_990, wt_991, wt_992, wt_993, wt_8, rfl, by decide +kernel, by decide +kernel, by decide +kernel⟩
theorem lkV_RL_78_yX10_raise : MLv RL 78 RX10 yX10_raise cX10_raise 4 (some .int) 1 := ⟨wt_994, wt_995, wt_996, wt_997, wt_581, rfl, by decide +kernel, by decide +kernel, by decide +kernel⟩
theorem lkV_RL_79_yX9_lose : MLv RL 79 RX9 yX9_lose cX9_lose 5 (some .int) 0 := ⟨wt_998, wt_999, wt_1000, wt_1001, wt_8, rfl, by decide +kernel, by decide +kernel, by decide +kernel⟩
theorem lkV_RL_82_yX10_lose : MLv RL 82 RX10 yX10_lose cX10_lose 9 (some .int) 0 := ⟨wt_1002, wt_1003, wt_1004, wt_1005, wt_581, rfl, by decide +kernel, by decide +kernel, by decide +kernel⟩
theorem lkV_RL_83_yX9_kind : MLv RL 83 RX9 yX9_kind cX9_kind 4 (some .int) 1 := ⟨wt_1006, wt_1007, wt_1008, wt_1009, wt_8, rfl, by decide +kernel, by decide +kernel, by decide +kernel⟩
theorem lkV_RL_86_yX10_kind : MLv RL 86 RX10 yX10_kind cX10_kind 9 (some .int) 1 := ⟨wt_1010, wt_1011, wt_1012, wt_1013, wt_581, rfl, by decide +kernel, by decide +kernel, by decide +kernel⟩
theorem lkV_RL_87_yX9_season : MLv RL 87 RX9 yX9_season cX9_season 3 (some .int) 0 := ⟨wt_1014, wt_1015, wt_1016, wt_1017, wt_8, rfl, by decide +kernel, by decide +kernel, by decide +kernel⟩
theorem lkV_RL_90_yX10_season : MLv RL 90 RX10 yX10_season cX10_season 8 (some .int) 0 := ⟨wt_1018, wt_1019, wt_1020, wt_1021, wt_581, rfl, by decide +kernel, by decide +kernel, by decide +kernel⟩
theorem lkV_RL_91_yX9_tree : MLv RL 91 RX9 yX9_tree cX9_tree 2 (some .long) 1 := ⟨wt_1022, wt_1023, wt_1024, wt_1025, wt_8, rfl, by decide +kernel, by decide +kernel, by decide +kernel⟩
theorem lkV_RL_94_yX10_tree : MLv RL 94 RX10 yX10_tree cX10_tree 2 (some .long) 1 := ⟨wt_1026, wt_1027, wt_1028, wt_1029, wt_581, rfl, by decide +kernel, by decide +kernel, by decide +kernel⟩
theorem lkV_RL_95_yX9_walk : MLv RL 95 RX9 yX9_walk cX9_walk 5 (some .long) 3 := ⟨wt_1030, wt_1031, wt_1032, wt_1033, wt_8, rfl, by decide +kernel, by decide +kernel, by decide +kernel⟩
theorem lkV_RL_99_yX10_walk : MLv RL 99 RX10 yX10_walk cX10_walk 4 (some .long) 3 := ⟨wt_1034, wt_1035, wt_1036, wt_1037, wt_581, rfl, by decide +kernel, by decide +kernel, by decide +kernel⟩
theorem lkV_RL_100_yX9_load : MLv RL 100 RX9 yX9_load cX9_load 3 (some .long) 2 := ⟨wt_1038, wt_1039, wt_1040, wt_1041, wt_8, rfl, by decide +kernel, by decide +kernel, by decide +kernel⟩
theorem lkV_RL_103_yX10_load : MLv RL 103 RX10 yX10_load cX10_load 3 (some .long) 2 := ⟨wt_1042, wt_1043, wt_1044, wt_1045, wt_581, rfl, by decide +kernel, by decide +kernel, by decide +kernel⟩
theorem lkV_RL_104_yX9_ratio : MLv RL 104 RX9 yX9_ratio cX9_ratio 4 (some .long) 3 := ⟨wt_1046, wt_1047, wt_1048, wt_1049, wt_8, rfl, by decide +kernel, by decide +kernel, by decide +kernel⟩
theorem lkV_RL_107_yX10_ratio : MLv RL 107 RX10 yX10_ratio cX10_ratio 4 (some .long) 3 := ⟨wt_1050, wt_1051, wt_1052, wt_1053, wt_581, rfl, by decide +kernel, by decide +kernel, by decide +kernel⟩
theorem lkV_RL_108_yX9_compare : MLv RL 108 RX9 yX9_compare cX9_compare 7 (some .int) 3 := ⟨wt_1054, wt_1055, wt_1056, wt_1057, wt_8, rfl, by decide +kernel, by decide +kernel, by decide +kernel⟩
theorem lkV_RL_111_yX10_compare : MLv RL 111 RX10 yX10_compare cX10_compare 12 (some .int) 3 := ⟨wt_1058, wt_1059, wt_1060, wt_1061, wt_581, rfl, by decide +kernel, by decide +kernel, by decide +kernel⟩
theorem lkV_RL_112_yX9_reduce : MLv RL 112 RX9 yX9_reduce cX9_reduce 11 (some .long) 2 := ⟨wt_1062, wt_1063, wt_1064, wt_1065, wt_8, rfl, by decide +kernel, by decide +kernel, by decide +kernel⟩
theorem lkV_RL_115_yX10_reduce : MLv RL 115 RX10 yX10_reduce cX10_reduce 19 (some .long) 2 := ⟨wt_1066, wt_1067, wt_1068, wt_1069, wt_581, rfl, by decide +kernel, by decide +kernel, by decide +kernel⟩
theorem lkV_RL_116_yX9_add : MLv RL 116 RX9 yX9_add cX9_add 14 (some .int) 3 := ⟨wt_1070, wt_1071, wt_1072, wt_1073, wt_8, rfl, by decide +kernel, by decide +kernel, by decide +kernel⟩
theorem lkV_RL_119_yX10_add : MLv RL 119 RX10 yX10_add cX10_add 15 (some .int) 3 := ⟨wt_1074, wt_1075, wt_1076, wt_1077, wt_581, rfl, by decide +kernel, by decide +kernel, by decide +kernel⟩
theorem lkV_RL_120_yX9_feed : MLv RL 120 RX9 yX9_feed cX9_feed 4 (some .int) 2 := ⟨wt_1078, wt_1079, wt_1080, wt_1081, wt_8, rfl, by decide +kernel, by decide +kernel, by decide +kernel⟩
theorem lkV_RL_123_yX10_feed : MLv RL 123 RX10 yX10_feed cX10_feed 4 (some .int) 2 := ⟨wt_1082, wt_1083, wt_1084, wt_1085, wt_581, rfl, by decide +kernel, by decide +kernel, by decide +kernel⟩
theorem lkV_RL_124_yX9_wipe : MLv RL 124 RX9 yX9_wipe cX9_wipe 2 (some .int) 0 := ⟨wt_1086, wt_1087, wt_1088, wt_1089, wt_8, rfl, by decide +kernel, by decide +kernel, by decide +kernel⟩
theorem lkV_RL_127_yX10_wipe : MLv RL 127 RX10 yX10_wipe cX10_wipe 2 (some .int) 0 := ⟨wt_1090, wt_1091, wt_1092, wt_1093, wt_581, rfl, by decide +kernel, by decide +kernel, by decide +kernel⟩
theorem lkV_RL_128_yX9_text : MLv RL 128 RX9 yX9_text cX9_text 2 (some .int) 0 := ⟨wt_1094, wt_1095, wt_1096, wt_1097, wt_8, rfl, by decide +kernel, by decide +kernel, by decide +kernel⟩
theorem lkV_RL_131_yX10_text : MLv RL 131 RX10 yX10_text cX10_text 7 (some .int) 0 := ⟨wt_1098, wt_1099, wt_1100, wt_1101, wt_581, rfl, by decide +kernel, by decide +kernel, by decide +kernel⟩
theorem lkV_RL_132_yX9_sheet : MLv RL 132 RX9 yX9_sheet cX9_sheet 4 (some .int) 3 := ⟨wt_1102, wt_1103, wt_1104, wt_1105, wt_8, rfl, by decide +kernel, by decide +kernel, by decide +kernel⟩
theorem lkV_RL_135_yX10_sheet : MLv RL 135 RX10 yX10_sheet cX10_sheet 5 (some .int) 3 := ⟨wt_1106, wt_1107, wt_1108, wt_1109, wt_581, rfl, by decide +kernel, by decide +kernel, by decide +kernel⟩
theorem lkV_RL_136_yX9_write : MLv RL 136 RX9 yX9_write cX9_write 6 (some .int) 3 := ⟨wt_1110, wt_1111, wt_1112, wt_1113, wt_8, rfl, by decide +kernel, by decide +kernel, by decide +kernel⟩
theorem lkV_RL_140_yX10_write : MLv RL 140 RX10 yX10_write cX10_write 6 (some .int) 3 := ⟨wt_1114, wt_1115, wt_1116, wt_1117, wt_581, rfl, by decide +kernel, by decide +kernel, by decide +kernel⟩
theorem lkV_RL_141_yX9_read : MLv RL 141 RX9 yX9_read cX9_read 4 (some .long) 2 := ⟨wt_1118, wt_1119, wt_1120, wt_1121, wt_8, rfl, by decide +kernel, by decide +kernel, by decide +kernel⟩
theorem lkV_RL_144_yX10_read : MLv RL 144 RX10 yX10_read cX10_read 4 (some .long) 2 := ⟨wt_1122, wt_1123, wt_1124, wt_1125, wt_581, rfl, by decide +kernel, by decide +kernel, by decide +kernel⟩
theorem lkV_RL_145_yX9_copy : MLv RL 145 RX9 yX9_copy cX9_copy 6 (some .int) 5 := ⟨wt_1126, wt_1127, wt_1128, wt_1129, wt_8, rfl, by decide +kernel, by decide +kernel, by decide +kernel⟩
theorem lkV_RL_148_yX10_copy : MLv RL 148 RX10 yX10_copy cX10_copy 7 (some .int) 5 := ⟨wt_1130, wt_1131, wt_1132, wt_1133, wt_581, rfl, by decide +kernel, by decide +kernel, by decide +kernel⟩
theorem lkV_RL_149_yX9_lays : MLv RL 149 RX9 yX9_lays cX9_lays 8 (some .int) 1 := ⟨wt_1134, wt_1135, wt_1136, wt_1137, wt_8, rfl, by decide +kernel, by decide +kernel, by decide +kernel⟩
theorem lkV_RL_152_yX10_lays : MLv RL 152 RX10 yX10_lays cX10_lays 4 (some .int) 1 := ⟨wt_1138, wt_1139, wt_1140, wt_1141, wt_581, rfl, by decide +kernel, by decide +kernel, by decide +kernel⟩
theorem lkV_RL_153_yX9_image : MLv RL 153 RX9 yX9_image cX9_image 1 (some .int) 0 := ⟨wt_1142, wt_1143, wt_1144, wt_1145, wt_8, rfl, by decide +kernel, by decide +kernel, by decide +kernel⟩
theorem lkV_RL_156_yX10_image : MLv RL 156 RX10 yX10_image cX10_image 2 (some .int) 0 := ⟨wt_1146, wt_1147, wt_1148, wt_1149, wt_581, rfl, by decide +kernel, by decide +kernel, by decide +kernel⟩
theorem lkV_RL_157_yX9_undo : MLv RL 157 RX9 yX9_undo cX9_undo 1 (some .int) 0 := ⟨wt_1150, wt_1151, wt_1152, wt_1153, wt_8, rfl, by decide +kernel, by decide +kernel, by decide +kernel⟩
theorem lkV_RL_160_yX10_undo : MLv RL 160 RX10 yX10_undo cX10_undo 2 (some .int) 0 := ⟨wt_1154, wt_1155, wt_1156, wt_1157, wt_581, rfl, by decide +kernel, by decide +kernel, by decide +kernel⟩
theorem lkV_RL_161_yX9_tear : MLv RL 161 RX9 yX9_tear cX9_tear 2 (some .int) 0 := ⟨wt_1158, wt_1159, wt_1160, wt_1161, wt_8, rfl, by decide +kernel, by decide +kernel, by decide +kernel⟩
theorem lkV_RL_164_yX10_tear : MLv RL 164 RX10 yX10_tear cX10_tear 2 (some .int) 0 := ⟨wt_1162, wt_1163, wt_1164, wt_1165, wt_581, rfl, by decide +kernel, by decide +kernel, by decide +kernel⟩
theorem lkV_RL_165_yX9_count : MLv RL 165 RX9 yX9_count cX9_count 2 (some .int) 1 := ⟨wt_1166, wt_1167, wt_1168, wt_1169, wt_8, rfl, by decide +kernel, by decide +kernel, by decide +kernel⟩
theorem lkV_RL_168_yX10_count : MLv RL 168 RX10 yX10_count cX10_count 2 (some .int) 1 := ⟨wt_1170, wt_1171, wt_1172, wt_1173, wt_581, rfl, by decide +kernel, by decide +kernel, by decide +kernel⟩
theorem lkV_RL_169_yX9_status : MLv RL 169 RX9 yX9_status cX9_status 4 (some .int) 1 := ⟨wt_1174, wt_1175, wt_1176, wt_1177, wt_8, rfl, by decide +kernel, by decide +kernel, by decide +kernel⟩
theorem lkV_RL_172_yX10_status : MLv RL 172 RX10 yX10_status cX10_status 4 (some .int) 1 := ⟨wt_1178, wt_1179, wt_1180, wt_1181, wt_581, rfl, by decide +kernel, by decide +kernel, by decide +kernel⟩
set_option maxRecDepth 100000 in
set_option maxHeartbeats 4000000 in
theorem lc_0 {l : Launch} {E : MX} {b Ln i c s : Nat} {xs : Nat → Int32} {σ σ1 σ2 : ES} {r : Int32} (hi : i + 6 ≤ Ln) (hL : Ln ≤ 3072) (hc : c ≤ 600000) (hs : s ≤ 7302250) (h1 : e_X9_places (xs (i + 1)) σ = some (r, σ1)) (h2 : e_X10_places (xs (i + 1)) σ1 = some (r, σ2)) (K : LW l E b Ln xs 82 c s (mkS σ2) 1366 [(3, .int (nI i)), (2, .ref 69), (1, .ref 0), (0, .ref 2002)] []) : LW l E b Ln xs 82 c s (mkS σ) 196 [(3, .int (nI i)), (2, .ref 69), (1, .ref 0), (0, .ref 2002)] [] := by
  refine lw_aload_n dL_law_196 2 rfl ?_
  refine lw_aload_n dL_law_197 3 rfl ?_
  refine lw_iload_n dL_law_198 0 rfl ?_
  refine lw_iconst (v := 1) dL_law_199 (by decide) ?_
  refine lw_iadd dL_law_200 ?_
  refine lw_ld (i := i + 1) dL_law_201 (lnI0 i 1) (by omega) hL ?_
  refine lw_call_i (As := [.int (xs (i + 1))]) (ci := 8) lkV_RL_13_yX9_places dL_law_202 (k_X9_places h1) rfl rfl rfl rfl (Nat.le_of_ble_eq_true rfl) (by decide) (by decide) hc hs ?_
  refine lw_aload_n dL_law_205 1 rfl ?_
  refine lw_aload_n dL_law_206 3 rfl ?_
  refine lw_iload_n dL_law_207 0 rfl ?_
  refine lw_iconst (v := 1) dL_law_208 (by decide) ?_
  refine lw_iadd dL_law_209 ?_
  refine lw_ld (i := i + 1) dL_law_210 (lnI0 i 1) (by omega) hL ?_
  refine lw_call_i (As := [.int (xs (i + 1))]) (ci := 9) lkV_RL_17_yX10_places dL_law_211 (k_X10_places h2) rfl rfl rfl rfl (Nat.le_of_ble_eq_true rfl) (by decide) (by decide) hc hs ?_
  exact lw_same_i (tgt := 1366) dL_law_214 (by decide) K
set_option maxRecDepth 100000 in
set_option maxHeartbeats 4000000 in
theorem lc_1 {l : Launch} {E : MX} {b Ln i c s : Nat} {xs : Nat → Int32} {σ σ1 σ2 : ES} {r : Int32} (hi : i + 6 ≤ Ln) (hL : Ln ≤ 3072) (hc : c ≤ 600000) (hs : s ≤ 7302250) (h1 : e_X9_weather (xs (i + 1)) σ = some (r, σ1)) (h2 : e_X10_weather (xs (i + 1)) σ1 = some (r, σ2)) (K : LW l E b Ln xs 82 c s (mkS σ2) 1366 [(3, .int (nI i)), (2, .ref 69), (1, .ref 0), (0, .ref 2002)] []) : LW l E b Ln xs 82 c s (mkS σ) 219 [(3, .int (nI i)), (2, .ref 69), (1, .ref 0), (0, .ref 2002)] [] := by
  refine lw_aload_n dL_law_219 2 rfl ?_
  refine lw_aload_n dL_law_220 3 rfl ?_
  refine lw_iload_n dL_law_221 0 rfl ?_
  refine lw_iconst (v := 1) dL_law_222 (by decide) ?_
  refine lw_iadd dL_law_223 ?_
  refine lw_ld (i := i + 1) dL_law_224 (lnI0 i 1) (by omega) hL ?_
  refine lw_call_i (As := [.int (xs (i + 1))]) (ci := 8) lkV_RL_18_yX9_weather dL_law_225 (k_X9_weather h1) rfl rfl rfl rfl (Nat.le_of_ble_eq_true rfl) (by decide) (by decide) hc hs ?_
  refine lw_aload_n dL_law_228 1 rfl ?_
  refine lw_aload_n dL_law_229 3 rfl ?_
  refine lw_iload_n dL_law_230 0 rfl ?_
  refine lw_iconst (v := 1) dL_law_231 (by decide) ?_
  refine lw_iadd dL_law_232 ?_
  refine lw_ld (i := i + 1) dL_law_233 (lnI0 i 1) (by omega) hL ?_
  refine lw_call_i (As := [.int (xs (i + 1))]) (ci := 9) lkV_RL_21_yX10_weather dL_law_234 (k_X10_weather h2) rfl rfl rfl rfl (Nat.le_of_ble_eq_true rfl) (by decide) (by decide) hc hs ?_
  exact lw_same_i (tgt := 1366) dL_law_237 (by decide) K
set_option maxRecDepth 100000 in
set_option maxHeartbeats 4000000 in
theorem lc_2 {l : Launch} {E : MX} {b Ln i c s : Nat} {xs : Nat → Int32} {σ σ1 σ2 : ES} {r : Int32} (hi : i + 6 ≤ Ln) (hL : Ln ≤ 3072) (hc : c ≤ 600000) (hs : s ≤ 7302250) (h1 : e_X9_way (xs (i + 1)) (xs (i + 2)) (xs (i + 3)) (xs (i + 4)) (xs (i + 5)) σ = some (r, σ1)) (h2 : e_X10_way (xs (i + 1)) (xs (i + 2)) (xs (i + 3)) (xs (i + 4)) (xs (i + 5)) σ1 = some (r, σ2)) (K : LW l E b Ln xs 82 c s (mkS σ2) 1366 [(3, .int (nI i)), (2, .ref 69), (1, .ref 0), (0, .ref 2002)] []) : LW l E b Ln xs 82 c s (mkS σ) 242 [(3, .int (nI i)), (2, .ref 69), (1, .ref 0), (0, .ref 2002)] [] := by
  refine lw_aload_n dL_law_242 2 rfl ?_
  refine lw_aload_n dL_law_243 3 rfl ?_
  refine lw_iload_n dL_law_244 0 rfl ?_
  refine lw_iconst (v := 1) dL_law_245 (by decide) ?_
  refine lw_iadd dL_law_246 ?_
  refine lw_ld (i := i + 1) dL_law_247 (lnI0 i 1) (by omega) hL ?_
  refine lw_aload_n dL_law_248 3 rfl ?_
  refine lw_iload_n dL_law_249 0 rfl ?_
  refine lw_iconst (v := 2) dL_law_250 (by decide) ?_
  refine lw_iadd dL_law_251 ?_
  refine lw_ld (i := i + 2) dL_law_252 (lnI0 i 2) (by omega) hL ?_
  refine lw_aload_n dL_law_253 3 rfl ?_
  refine lw_iload_n dL_law_254 0 rfl ?_
  refine lw_iconst (v := 3) dL_law_255 (by decide) ?_
  refine lw_iadd dL_law_256 ?_
  refine lw_ld (i := i + 3) dL_law_257 (lnI0 i 3) (by omega) hL ?_
  refine lw_aload_n dL_law_258 3 rfl ?_
  refine lw_iload_n dL_law_259 0 rfl ?_
  refine lw_iconst (v := 4) dL_law_260 (by decide) ?_
  refine lw_iadd dL_law_261 ?_
  refine lw_ld (i := i + 4) dL_law_262 (lnI0 i 4) (by omega) hL ?_
  refine lw_aload_n dL_law_263 3 rfl ?_
  refine lw_iload_n dL_law_264 0 rfl ?_
  refine lw_iconst (v := 5) dL_law_265 (by decide) ?_
  refine lw_iadd dL_law_266 ?_
  refine lw_ld (i := i + 5) dL_law_267 (lnI0 i 5) (by omega) hL ?_
  refine lw_call_i (As := [.int (xs (i + 1)), .int (xs (i + 2)), .int (xs (i + 3)), .int (xs (i + 4)), .int (xs (i + 5))]) (ci := 8) lkV_RL_22_yX9_way dL_law_268 (k_X9_way h1) rfl rfl rfl rfl (Nat.le_of_ble_eq_true rfl) (by decide) (by decide) hc hs ?_
  refine lw_aload_n dL_law_271 1 rfl ?_
  refine lw_aload_n dL_law_272 3 rfl ?_
  refine lw_iload_n dL_law_273 0 rfl ?_
  refine lw_iconst (v := 1) dL_law_274 (by decide) ?_
  refine lw_iadd dL_law_275 ?_
  refine lw_ld (i := i + 1) dL_law_276 (lnI0 i 1) (by omega) hL ?_
  refine lw_aload_n dL_law_277 3 rfl ?_
  refine lw_iload_n dL_law_278 0 rfl ?_
  refine lw_iconst (v := 2) dL_law_279 (by decide) ?_
  refine lw_iadd dL_law_280 ?_
  refine lw_ld (i := i + 2) dL_law_281 (lnI0 i 2) (by omega) hL ?_
  refine lw_aload_n dL_law_282 3 rfl ?_
  refine lw_iload_n dL_law_283 0 rfl ?_
  refine lw_iconst (v := 3) dL_law_284 (by decide) ?_
  refine lw_iadd dL_law_285 ?_
  refine lw_ld (i := i + 3) dL_law_286 (lnI0 i 3) (by omega) hL ?_
  refine lw_aload_n dL_law_287 3 rfl ?_
  refine lw_iload_n dL_law_288 0 rfl ?_
  refine lw_iconst (v := 4) dL_law_289 (by decide) ?_
  refine lw_iadd dL_law_290 ?_
  refine lw_ld (i := i + 4) dL_law_291 (lnI0 i 4) (by omega) hL ?_
  refine lw_aload_n dL_law_292 3 rfl ?_
  refine lw_iload_n dL_law_293 0 rfl ?_
  refine lw_iconst (v := 5) dL_law_294 (by decide) ?_
  refine lw_iadd dL_law_295 ?_
  refine lw_ld (i := i + 5) dL_law_296 (lnI0 i 5) (by omega) hL ?_
  refine lw_call_i (As := [.int (xs (i + 1)), .int (xs (i + 2)), .int (xs (i + 3)), .int (xs (i + 4)), .int (xs (i + 5))]) (ci := 9) lkV_RL_26_yX10_way dL_law_297 (k_X10_way h2) rfl rfl rfl rfl (Nat.le_of_ble_eq_true rfl) (by decide) (by decide) hc hs ?_
  exact lw_same_i (tgt := 1366) dL_law_300 (by decide) K
set_option maxRecDepth 100000 in
set_option maxHeartbeats 4000000 in
theorem lc_3 {l : Launch} {E : MX} {b Ln i c s : Nat} {xs : Nat → Int32} {σ σ1 σ2 : ES} {r : Int32} (hi : i + 6 ≤ Ln) (hL : Ln ≤ 3072) (hc : c ≤ 600000) (hs : s ≤ 7302250) (h1 : e_X9_of (xs (i + 1)) (xs (i + 2)) σ = some (r, σ1)) (h2 : e_X10_of (xs (i + 1)) (xs (i + 2)) σ1 = some (r, σ2)) (K : LW l E b Ln xs 82 c s (mkS σ2) 1366 [(3, .int (nI i)), (2, .ref 69), (1, .ref 0), (0, .ref 2002)] []) : LW l E b Ln xs 82 c s (mkS σ) 305 [(3, .int (nI i)), (2, .ref 69), (1, .ref 0), (0, .ref 2002)] [] := by
  refine lw_aload_n dL_law_305 2 rfl ?_
  refine lw_aload_n dL_law_306 3 rfl ?_
  refine lw_iload_n dL_law_307 0 rfl ?_
  refine lw_iconst (v := 1) dL_law_308 (by decide) ?_
  refine lw_iadd dL_law_309 ?_
  refine lw_ld (i := i + 1) dL_law_310 (lnI0 i 1) (by omega) hL ?_
  refine lw_aload_n dL_law_311 3 rfl ?_
  refine lw_iload_n dL_law_312 0 rfl ?_
  refine lw_iconst (v := 2) dL_law_313 (by decide) ?_
  refine lw_iadd dL_law_314 ?_
  refine lw_ld (i := i + 2) dL_law_315 (lnI0 i 2) (by omega) hL ?_
  refine lw_call_i (As := [.int (xs (i + 1)), .int (xs (i + 2))]) (ci := 8) lkV_RL_27_yX9_of dL_law_316 (k_X9_of h1) rfl rfl rfl rfl (Nat.le_of_ble_eq_true rfl) (by decide) (by decide) hc hs ?_
  refine lw_aload_n dL_law_319 1 rfl ?_
  refine lw_aload_n dL_law_320 3 rfl ?_
  refine lw_iload_n dL_law_321 0 rfl ?_
  refine lw_iconst (v := 1) dL_law_322 (by decide) ?_
  refine lw_iadd dL_law_323 ?_
  refine lw_ld (i := i + 1) dL_law_324 (lnI0 i 1) (by omega) hL ?_
  refine lw_aload_n dL_law_325 3 rfl ?_
  refine lw_iload_n dL_law_326 0 rfl ?_
  refine lw_iconst (v := 2) dL_law_327 (by decide) ?_
  refine lw_iadd dL_law_328 ?_
  refine lw_ld (i := i + 2) dL_law_329 (lnI0 i 2) (by omega) hL ?_
  refine lw_call_i (As := [.int (xs (i + 1)), .int (xs (i + 2))]) (ci := 9) lkV_RL_31_yX10_of dL_law_330 (k_X10_of h2) rfl rfl rfl rfl (Nat.le_of_ble_eq_true rfl) (by decide) (by decide) hc hs ?_
  exact lw_same_i (tgt := 1366) dL_law_333 (by decide) K
set_option maxRecDepth 100000 in
set_option maxHeartbeats 4000000 in
theorem lc_4 {l : Launch} {E : MX} {b Ln i c s : Nat} {xs : Nat → Int32} {σ σ1 σ2 : ES} {r : Int32} (hi : i + 6 ≤ Ln) (hL : Ln ≤ 3072) (hc : c ≤ 600000) (hs : s ≤ 7302250) (h1 : e_X9_change (xs (i + 1)) (xs (i + 2)) (xs (i + 3)) σ = some (r, σ1)) (h2 : e_X10_change (xs (i + 1)) (xs (i + 2)) (xs (i + 3)) σ1 = some (r, σ2)) (K : LW l E b Ln xs 82 c s (mkS σ2) 1366 [(3, .int (nI i)), (2, .ref 69), (1, .ref 0), (0, .ref 2002)] []) : LW l E b Ln xs 82 c s (mkS σ) 338 [(3, .int (nI i)), (2, .ref 69), (1, .ref 0), (0, .ref 2002)] [] := by
  refine lw_aload_n dL_law_338 2 rfl ?_
  refine lw_aload_n dL_law_339 3 rfl ?_
  refine lw_iload_n dL_law_340 0 rfl ?_
  refine lw_iconst (v := 1) dL_law_341 (by decide) ?_
  refine lw_iadd dL_law_342 ?_
  refine lw_ld (i := i + 1) dL_law_343 (lnI0 i 1) (by omega) hL ?_
  refine lw_aload_n dL_law_344 3 rfl ?_
  refine lw_iload_n dL_law_345 0 rfl ?_
  refine lw_iconst (v := 2) dL_law_346 (by decide) ?_
  refine lw_iadd dL_law_347 ?_
  refine lw_ld (i := i + 2) dL_law_348 (lnI0 i 2) (by omega) hL ?_
  refine lw_aload_n dL_law_349 3 rfl ?_
  refine lw_iload_n dL_law_350 0 rfl ?_
  refine lw_iconst (v := 3) dL_law_351 (by decide) ?_
  refine lw_iadd dL_law_352 ?_
  refine lw_ld (i := i + 3) dL_law_353 (lnI0 i 3) (by omega) hL ?_
  refine lw_call_i (As := [.int (xs (i + 1)), .int (xs (i + 2)), .int (xs (i + 3))]) (ci := 8) lkV_RL_32_yX9_change dL_law_354 (k_X9_change h1) rfl rfl rfl rfl (Nat.le_of_ble_eq_true rfl) (by decide) (by decide) hc hs ?_
  refine lw_aload_n dL_law_357 1 rfl ?_
  refine lw_aload_n dL_law_358 3 rfl ?_
  refine lw_iload_n dL_law_359 0 rfl ?_
  refine lw_iconst (v := 1) dL_law_360 (by decide) ?_
  refine lw_iadd dL_law_361 ?_
  refine lw_ld (i := i + 1) dL_law_362 (lnI0 i 1) (by omega) hL ?_
  refine lw_aload_n dL_law_363 3 rfl ?_
  refine lw_iload_n dL_law_364 0 rfl ?_
  refine lw_iconst (v := 2) dL_law_365 (by decide) ?_
  refine lw_iadd dL_law_366 ?_
  refine lw_ld (i := i + 2) dL_law_367 (lnI0 i 2) (by omega) hL ?_
  refine lw_aload_n dL_law_368 3 rfl ?_
  refine lw_iload_n dL_law_369 0 rfl ?_
  refine lw_iconst (v := 3) dL_law_370 (by decide) ?_
  refine lw_iadd dL_law_371 ?_
  refine lw_ld (i := i + 3) dL_law_372 (lnI0 i 3) (by omega) hL ?_
  refine lw_call_i (As := [.int (xs (i + 1)), .int (xs (i + 2)), .int (xs (i + 3))]) (ci := 9) lkV_RL_36_yX10_change dL_law_373 (k_X10_change h2) rfl rfl rfl rfl (Nat.le_of_ble_eq_true rfl) (by decide) (by decide) hc hs ?_
  exact lw_same_i (tgt := 1366) dL_law_376 (by decide) K
set_option maxRecDepth 100000 in
set_option maxHeartbeats 4000000 in
theorem lc_5 {l : Launch} {E : MX} {b Ln i c s : Nat} {xs : Nat → Int32} {σ σ1 σ2 : ES} {r : Int32} (hi : i + 6 ≤ Ln) (hL : Ln ≤ 3072) (hc : c ≤ 600000) (hs : s ≤ 7302250) (h1 : e_X9_as (xs (i + 1)) (xs (i + 2)) σ = some (r, σ1)) (h2 : e_X10_as (xs (i + 1)) (xs (i + 2)) σ1 = some (r, σ2)) (K : LW l E b Ln xs 82 c s (mkS σ2) 1366 [(3, .int (nI i)), (2, .ref 69), (1, .ref 0), (0, .ref 2002)] []) : LW l E b Ln xs 82 c s (mkS σ) 381 [(3, .int (nI i)), (2, .ref 69), (1, .ref 0), (0, .ref 2002)] [] := by
  refine lw_aload_n dL_law_381 2 rfl ?_
  refine lw_aload_n dL_law_382 3 rfl ?_
  refine lw_iload_n dL_law_383 0 rfl ?_
  refine lw_iconst (v := 1) dL_law_384 (by decide) ?_
  refine lw_iadd dL_law_385 ?_
  refine lw_ld (i := i + 1) dL_law_386 (lnI0 i 1) (by omega) hL ?_
  refine lw_aload_n dL_law_387 3 rfl ?_
  refine lw_iload_n dL_law_388 0 rfl ?_
  refine lw_iconst (v := 2) dL_law_389 (by decide) ?_
  refine lw_iadd dL_law_390 ?_
  refine lw_ld (i := i + 2) dL_law_391 (lnI0 i 2) (by omega) hL ?_
  refine lw_call_i (As := [.int (xs (i + 1)), .int (xs (i + 2))]) (ci := 8) lkV_RL_37_yX9_as dL_law_392 (k_X9_as h1) rfl rfl rfl rfl (Nat.le_of_ble_eq_true rfl) (by decide) (by decide) hc hs ?_
  refine lw_aload_n dL_law_395 1 rfl ?_
  refine lw_aload_n dL_law_396 3 rfl ?_
  refine lw_iload_n dL_law_397 0 rfl ?_
  refine lw_iconst (v := 1) dL_law_398 (by decide) ?_
  refine lw_iadd dL_law_399 ?_
  refine lw_ld (i := i + 1) dL_law_400 (lnI0 i 1) (by omega) hL ?_
  refine lw_aload_n dL_law_401 3 rfl ?_
  refine lw_iload_n dL_law_402 0 rfl ?_
  refine lw_iconst (v := 2) dL_law_403 (by decide) ?_
  refine lw_iadd dL_law_404 ?_
  refine lw_ld (i := i + 2) dL_law_405 (lnI0 i 2) (by omega) hL ?_
  refine lw_call_i (As := [.int (xs (i + 1)), .int (xs (i + 2))]) (ci := 9) lkV_RL_40_yX10_as dL_law_406 (k_X10_as h2) rfl rfl rfl rfl (Nat.le_of_ble_eq_true rfl) (by decide) (by decide) hc hs ?_
  exact lw_same_i (tgt := 1366) dL_law_409 (by decide) K
set_option maxRecDepth 100000 in
set_option maxHeartbeats 4000000 in
theorem lc_6 {l : Launch} {E : MX} {b Ln i c s : Nat} {xs : Nat → Int32} {σ σ1 σ2 : ES} {r : Int32} (hi : i + 6 ≤ Ln) (hL : Ln ≤ 3072) (hc : c ≤ 600000) (hs : s ≤ 7302250) (h1 : e_X9_thing (xs (i + 1)) (xs (i + 2)) σ = some (r, σ1)) (h2 : e_X10_thing (xs (i + 1)) (xs (i + 2)) σ1 = some (r, σ2)) (K : LW l E b Ln xs 82 c s (mkS σ2) 1366 [(3, .int (nI i)), (2, .ref 69), (1, .ref 0), (0, .ref 2002)] []) : LW l E b Ln xs 82 c s (mkS σ) 414 [(3, .int (nI i)), (2, .ref 69), (1, .ref 0), (0, .ref 2002)] [] := by
  refine lw_aload_n dL_law_414 2 rfl ?_
  refine lw_aload_n dL_law_415 3 rfl ?_
  refine lw_iload_n dL_law_416 0 rfl ?_
  refine lw_iconst (v := 1) dL_law_417 (by decide) ?_
  refine lw_iadd dL_law_418 ?_
  refine lw_ld (i := i + 1) dL_law_419 (lnI0 i 1) (by omega) hL ?_
  refine lw_aload_n dL_law_420 3 rfl ?_
  refine lw_iload_n dL_law_421 0 rfl ?_
  refine lw_iconst (v := 2) dL_law_422 (by decide) ?_
  refine lw_iadd dL_law_423 ?_
  refine lw_ld (i := i + 2) dL_law_424 (lnI0 i 2) (by omega) hL ?_
  refine lw_call_i (As := [.int (xs (i + 1)), .int (xs (i + 2))]) (ci := 8) lkV_RL_41_yX9_thing dL_law_425 (k_X9_thing h1) rfl rfl rfl rfl (Nat.le_of_ble_eq_true rfl) (by decide) (by decide) hc hs ?_
  refine lw_aload_n dL_law_428 1 rfl ?_
  refine lw_aload_n dL_law_429 3 rfl ?_
  refine lw_iload_n dL_law_430 0 rfl ?_
  refine lw_iconst (v := 1) dL_law_431 (by decide) ?_
  refine lw_iadd dL_law_432 ?_
  refine lw_ld (i := i + 1) dL_law_433 (lnI0 i 1) (by omega) hL ?_
  refine lw_aload_n dL_law_434 3 rfl ?_
  refine lw_iload_n dL_law_435 0 rfl ?_
  refine lw_iconst (v := 2) dL_law_436 (by decide) ?_
  refine lw_iadd dL_law_437 ?_
  refine lw_ld (i := i + 2) dL_law_438 (lnI0 i 2) (by omega) hL ?_
  refine lw_call_i (As := [.int (xs (i + 1)), .int (xs (i + 2))]) (ci := 9) lkV_RL_44_yX10_thing dL_law_439 (k_X10_thing h2) rfl rfl rfl rfl (Nat.le_of_ble_eq_true rfl) (by decide) (by decide) hc hs ?_
  exact lw_same_i (tgt := 1366) dL_law_442 (by decide) K
set_option maxRecDepth 100000 in
set_option maxHeartbeats 4000000 in
theorem lc_7 {l : Launch} {E : MX} {b Ln i c s : Nat} {xs : Nat → Int32} {σ σ1 σ2 : ES} {r : Int32} (hi : i + 6 ≤ Ln) (hL : Ln ≤ 3072) (hc : c ≤ 600000) (hs : s ≤ 7302250) (h1 : e_X9_alter (xs (i + 1)) (xs (i + 2)) (xs (i + 3)) σ = some (r, σ1)) (h2 : e_X10_alter (xs (i + 1)) (xs (i + 2)) (xs (i + 3)) σ1 = some (r, σ2)) (K : LW l E b Ln xs 82 c s (mkS σ2) 1366 [(3, .int (nI i)), (2, .ref 69), (1, .ref 0), (0, .ref 2002)] []) : LW l E b Ln xs 82 c s (mkS σ) 447 [(3, .int (nI i)), (2, .ref 69), (1, .ref 0), (0, .ref 2002)] [] := by
  refine lw_aload_n dL_law_447 2 rfl ?_
  refine lw_aload_n dL_law_448 3 rfl ?_
  refine lw_iload_n dL_law_449 0 rfl ?_
  refine lw_iconst (v := 1) dL_law_450 (by decide) ?_
  refine lw_iadd dL_law_451 ?_
  refine lw_ld (i := i + 1) dL_law_452 (lnI0 i 1) (by omega) hL ?_
  refine lw_aload_n dL_law_453 3 rfl ?_
  refine lw_iload_n dL_law_454 0 rfl ?_
  refine lw_iconst (v := 2) dL_law_455 (by decide) ?_
  refine lw_iadd dL_law_456 ?_
  refine lw_ld (i := i + 2) dL_law_457 (lnI0 i 2) (by omega) hL ?_
  refine lw_aload_n dL_law_458 3 rfl ?_
  refine lw_iload_n dL_law_459 0 rfl ?_
  refine lw_iconst (v := 3) dL_law_460 (by decide) ?_
  refine lw_iadd dL_law_461 ?_
  refine lw_ld (i := i + 3) dL_law_462 (lnI0 i 3) (by omega) hL ?_
  refine lw_call_i (As := [.int (xs (i + 1)), .int (xs (i + 2)), .int (xs (i + 3))]) (ci := 8) lkV_RL_45_yX9_alter dL_law_463 (k_X9_alter h1) rfl rfl rfl rfl (Nat.le_of_ble_eq_true rfl) (by decide) (by decide) hc hs ?_
  refine lw_aload_n dL_law_466 1 rfl ?_
  refine lw_aload_n dL_law_467 3 rfl ?_
  refine lw_iload_n dL_law_468 0 rfl ?_
  refine lw_iconst (v := 1) dL_law_469 (by decide) ?_
  refine lw_iadd dL_law_470 ?_
  refine lw_ld (i := i + 1) dL_law_471 (lnI0 i 1) (by omega) hL ?_
  refine lw_aload_n dL_law_472 3 rfl ?_
  refine lw_iload_n dL_law_473 0 rfl ?_
  refine lw_iconst (v := 2) dL_law_474 (by decide) ?_
  refine lw_iadd dL_law_475 ?_
  refine lw_ld (i := i + 2) dL_law_476 (lnI0 i 2) (by omega) hL ?_
  refine lw_aload_n dL_law_477 3 rfl ?_
  refine lw_iload_n dL_law_478 0 rfl ?_
  refine lw_iconst (v := 3) dL_law_479 (by decide) ?_
  refine lw_iadd dL_law_480 ?_
  refine lw_ld (i := i + 3) dL_law_481 (lnI0 i 3) (by omega) hL ?_
  refine lw_call_i (As := [.int (xs (i + 1)), .int (xs (i + 2)), .int (xs (i + 3))]) (ci := 9) lkV_RL_48_yX10_alter dL_law_482 (k_X10_alter h2) rfl rfl rfl rfl (Nat.le_of_ble_eq_true rfl) (by decide) (by decide) hc hs ?_
  exact lw_same_i (tgt := 1366) dL_law_485 (by decide) K
set_option maxRecDepth 100000 in
set_option maxHeartbeats 4000000 in
theorem lc_8 {l : Launch} {E : MX} {b Ln i c s : Nat} {xs : Nat → Int32} {σ σ1 σ2 : ES} {r : Int32} (hi : i + 6 ≤ Ln) (hL : Ln ≤ 3072) (hc : c ≤ 600000) (hs : s ≤ 7302250) (h1 : e_X9_its (xs (i + 1)) (xs (i + 2)) σ = some (r, σ1)) (h2 : e_X10_its (xs (i + 1)) (xs (i + 2)) σ1 = some (r, σ2)) (K : LW l E b Ln xs 82 c s (mkS σ2) 1366 [(3, .int (nI i)), (2, .ref 69), (1, .ref 0), (0, .ref 2002)] []) : LW l E b Ln xs 82 c s (mkS σ) 490 [(3, .int (nI i)), (2, .ref 69), (1, .ref 0), (0, .ref 2002)] [] := by
  refine lw_aload_n dL_law_490 2 rfl ?_
  refine lw_aload_n dL_law_491 3 rfl ?_
  refine lw_iload_n dL_law_492 0 rfl ?_
  refine lw_iconst (v := 1) dL_law_493 (by decide) ?_
  refine lw_iadd dL_law_494 ?_
  refine lw_ld (i := i + 1) dL_law_495 (lnI0 i 1) (by omega) hL ?_
  refine lw_aload_n dL_law_496 3 rfl ?_
  refine lw_iload_n dL_law_497 0 rfl ?_
  refine lw_iconst (v := 2) dL_law_498 (by decide) ?_
  refine lw_iadd dL_law_499 ?_
  refine lw_ld (i := i + 2) dL_law_500 (lnI0 i 2) (by omega) hL ?_
  refine lw_call_i (As := [.int (xs (i + 1)), .int (xs (i + 2))]) (ci := 8) lkV_RL_49_yX9_its dL_law_501 (k_X9_its h1) rfl rfl rfl rfl (Nat.le_of_ble_eq_true rfl) (by decide) (by decide) hc hs ?_
  refine lw_aload_n dL_law_504 1 rfl ?_
  refine lw_aload_n dL_law_505 3 rfl ?_
  refine lw_iload_n dL_law_506 0 rfl ?_
  refine lw_iconst (v := 1) dL_law_507 (by decide) ?_
  refine lw_iadd dL_law_508 ?_
  refine lw_ld (i := i + 1) dL_law_509 (lnI0 i 1) (by omega) hL ?_
  refine lw_aload_n dL_law_510 3 rfl ?_
  refine lw_iload_n dL_law_511 0 rfl ?_
  refine lw_iconst (v := 2) dL_law_512 (by decide) ?_
  refine lw_iadd dL_law_513 ?_
  refine lw_ld (i := i + 2) dL_law_514 (lnI0 i 2) (by omega) hL ?_
  refine lw_call_i (As := [.int (xs (i + 1)), .int (xs (i + 2))]) (ci := 9) lkV_RL_52_yX10_its dL_law_515 (k_X10_its h2) rfl rfl rfl rfl (Nat.le_of_ble_eq_true rfl) (by decide) (by decide) hc hs ?_
  exact lw_same_i (tgt := 1366) dL_law_518 (by decide) K
set_option maxRecDepth 100000 in
set_option maxHeartbeats 4000000 in
theorem lc_9 {l : Launch} {E : MX} {b Ln i c s : Nat} {xs : Nat → Int32} {σ σ1 σ2 : ES} {r : Int64} (hi : i + 6 ≤ Ln) (hL : Ln ≤ 3072) (hc : c ≤ 600000) (hs : s ≤ 7302250) (h1 : e_X9_ring (xs (i + 1)) σ = some (r, σ1)) (h2 : e_X10_ring (xs (i + 1)) σ1 = some (r, σ2)) (K : LW l E b Ln xs 82 c s (mkS σ2) 1366 [(3, .int (nI i)), (2, .ref 69), (1, .ref 0), (0, .ref 2002)] []) : LW l E b Ln xs 82 c s (mkS σ) 523 [(3, .int (nI i)), (2, .ref 69), (1, .ref 0), (0, .ref 2002)] [] := by
  refine lw_aload_n dL_law_523 2 rfl ?_
  refine lw_aload_n dL_law_524 3 rfl ?_
  refine lw_iload_n dL_law_525 0 rfl ?_
  refine lw_iconst (v := 1) dL_law_526 (by decide) ?_
  refine lw_iadd dL_law_527 ?_
  refine lw_ld (i := i + 1) dL_law_528 (lnI0 i 1) (by omega) hL ?_
  refine lw_call_l (As := [.int (xs (i + 1))]) (ci := 8) lkV_RL_53_yX9_ring dL_law_529 (k_X9_ring h1) rfl rfl rfl rfl (Nat.le_of_ble_eq_true rfl) (by decide) (by decide) hc hs ?_
  refine lw_aload_n dL_law_532 1 rfl ?_
  refine lw_aload_n dL_law_533 3 rfl ?_
  refine lw_iload_n dL_law_534 0 rfl ?_
  refine lw_iconst (v := 1) dL_law_535 (by decide) ?_
  refine lw_iadd dL_law_536 ?_
  refine lw_ld (i := i + 1) dL_law_537 (lnI0 i 1) (by omega) hL ?_
  refine lw_call_l (As := [.int (xs (i + 1))]) (ci := 9) lkV_RL_57_yX10_ring dL_law_538 (k_X10_ring h2) rfl rfl rfl rfl (Nat.le_of_ble_eq_true rfl) (by decide) (by decide) hc hs ?_
  exact lw_same_l (tgt := 1366) dL_law_541 dL_law_542 (by decide) K
set_option maxRecDepth 100000 in
set_option maxHeartbeats 4000000 in
theorem lc_10 {l : Launch} {E : MX} {b Ln i c s : Nat} {xs : Nat → Int32} {σ σ1 σ2 : ES} {r : Int32} (hi : i + 6 ≤ Ln) (hL : Ln ≤ 3072) (hc : c ≤ 600000) (hs : s ≤ 7302250) (h1 : e_X9_ringWays σ = some (r, σ1)) (h2 : e_X10_ringWays σ1 = some (r, σ2)) (K : LW l E b Ln xs 82 c s (mkS σ2) 1366 [(3, .int (nI i)), (2, .ref 69), (1, .ref 0), (0, .ref 2002)] []) : LW l E b Ln xs 82 c s (mkS σ) 547 [(3, .int (nI i)), (2, .ref 69), (1, .ref 0), (0, .ref 2002)] [] := by
  refine lw_aload_n dL_law_547 2 rfl ?_
  refine lw_call_i (As := []) (ci := 8) lkV_RL_58_yX9_ringWays dL_law_548 (k_X9_ringWays h1) rfl rfl rfl rfl (Nat.le_of_ble_eq_true rfl) (by decide) (by decide) hc hs ?_
  refine lw_aload_n dL_law_551 1 rfl ?_
  refine lw_call_i (As := []) (ci := 9) lkV_RL_62_yX10_ringWays dL_law_552 (k_X10_ringWays h2) rfl rfl rfl rfl (Nat.le_of_ble_eq_true rfl) (by decide) (by decide) hc hs ?_
  exact lw_same_i (tgt := 1366) dL_law_555 (by decide) K
set_option maxRecDepth 100000 in
set_option maxHeartbeats 4000000 in
theorem lc_11 {l : Launch} {E : MX} {b Ln i c s : Nat} {xs : Nat → Int32} {σ σ1 σ2 : ES} {r : Int64} (hi : i + 6 ≤ Ln) (hL : Ln ≤ 3072) (hc : c ≤ 600000) (hs : s ≤ 7302250) (h1 : e_X9_lift (xs (i + 1)) (xs (i + 2)) σ = some (r, σ1)) (h2 : e_X10_lift (xs (i + 1)) (xs (i + 2)) σ1 = some (r, σ2)) (K : LW l E b Ln xs 82 c s (mkS σ2) 1366 [(3, .int (nI i)), (2, .ref 69), (1, .ref 0), (0, .ref 2002)] []) : LW l E b Ln xs 82 c s (mkS σ) 560 [(3, .int (nI i)), (2, .ref 69), (1, .ref 0), (0, .ref 2002)] [] := by
  refine lw_aload_n dL_law_560 2 rfl ?_
  refine lw_aload_n dL_law_561 3 rfl ?_
  refine lw_iload_n dL_law_562 0 rfl ?_
  refine lw_iconst (v := 1) dL_law_563 (by decide) ?_
  refine lw_iadd dL_law_564 ?_
  refine lw_ld (i := i + 1) dL_law_565 (lnI0 i 1) (by omega) hL ?_
  refine lw_aload_n dL_law_566 3 rfl ?_
  refine lw_iload_n dL_law_567 0 rfl ?_
  refine lw_iconst (v := 2) dL_law_568 (by decide) ?_
  refine lw_iadd dL_law_569 ?_
  refine lw_ld (i := i + 2) dL_law_570 (lnI0 i 2) (by omega) hL ?_
  refine lw_call_l (As := [.int (xs (i + 1)), .int (xs (i + 2))]) (ci := 8) lkV_RL_63_yX9_lift dL_law_571 (k_X9_lift h1) rfl rfl rfl rfl (Nat.le_of_ble_eq_true rfl) (by decide) (by decide) hc hs ?_
  refine lw_aload_n dL_law_574 1 rfl ?_
  refine lw_aload_n dL_law_575 3 rfl ?_
  refine lw_iload_n dL_law_576 0 rfl ?_
  refine lw_iconst (v := 1) dL_law_577 (by decide) ?_
  refine lw_iadd dL_law_578 ?_
  refine lw_ld (i := i + 1) dL_law_579 (lnI0 i 1) (by omega) hL ?_
  refine lw_aload_n dL_law_580 3 rfl ?_
  refine lw_iload_n dL_law_581 0 rfl ?_
  refine lw_iconst (v := 2) dL_law_582 (by decide) ?_
  refine lw_iadd dL_law_583 ?_
  refine lw_ld (i := i + 2) dL_law_584 (lnI0 i 2) (by omega) hL ?_
  refine lw_call_l (As := [.int (xs (i + 1)), .int (xs (i + 2))]) (ci := 9) lkV_RL_67_yX10_lift dL_law_585 (k_X10_lift h2) rfl rfl rfl rfl (Nat.le_of_ble_eq_true rfl) (by decide) (by decide) hc hs ?_
  exact lw_same_l (tgt := 1366) dL_law_588 dL_law_589 (by decide) K
set_option maxRecDepth 100000 in
set_option maxHeartbeats 4000000 in
theorem lc_12 {l : Launch} {E : MX} {b Ln i c s : Nat} {xs : Nat → Int32} {σ σ1 σ2 : ES} {r : Int64} (hi : i + 6 ≤ Ln) (hL : Ln ≤ 3072) (hc : c ≤ 600000) (hs : s ≤ 7302250) (h1 : e_X9_worth (((xs (i + 1)).toInt64 <<< ((32 : Int32).toInt64 &&& 63)) ||| ((xs (i + 2)).toInt64 &&& (4294967295 : Int64))) σ = some (r, σ1)) (h2 : e_X10_worth (((xs (i + 1)).toInt64 <<< ((32 : Int32).toInt64 &&& 63)) ||| ((xs (i + 2)).toInt64 &&& (4294967295 : Int64))) σ1 = some (r, σ2)) (K : LW l E b Ln xs 82 c s (mkS σ2) 1366 [(3, .int (nI i)), (2, .ref 69), (1, .ref 0), (0, .ref 2002)] []) : LW l E b Ln xs 82 c s (mkS σ) 594 [(3, .int (nI i)), (2, .ref 69), (1, .ref 0), (0, .ref 2002)] [] := by
  refine lw_aload_n dL_law_594 2 rfl ?_
  refine lw_aload_n dL_law_595 3 rfl ?_
  refine lw_iload_n dL_law_596 0 rfl ?_
  refine lw_iconst (v := 1) dL_law_597 (by decide) ?_
  refine lw_iadd dL_law_598 ?_
  refine lw_ld (i := i + 1) dL_law_599 (lnI0 i 1) (by omega) hL ?_
  refine lw_i2l dL_law_600 ?_
  refine lw_bipush (v := 32) dL_law_601 (by decide) ?_
  refine lw_lshl dL_law_603 ?_
  refine lw_aload_n dL_law_604 3 rfl ?_
  refine lw_iload_n dL_law_605 0 rfl ?_
  refine lw_iconst (v := 2) dL_law_606 (by decide) ?_
  refine lw_iadd dL_law_607 ?_
  refine lw_ld (i := i + 2) dL_law_608 (lnI0 i 2) (by omega) hL ?_
  refine lw_i2l dL_law_609 ?_
  refine lw_ldc2 dL_law_610 wt_981 ?_
  refine lw_land dL_law_613 ?_
  refine lw_lor dL_law_614 ?_
  refine lw_call_l (As := [.long (((xs (i + 1)).toInt64 <<< ((32 : Int32).toInt64 &&& 63)) ||| ((xs (i + 2)).toInt64 &&& (4294967295 : Int64)))]) (ci := 8) lkV_RL_70_yX9_worth dL_law_615 (k_X9_worth h1) rfl rfl rfl rfl (Nat.le_of_ble_eq_true rfl) (by decide) (by decide) hc hs ?_
  refine lw_aload_n dL_law_618 1 rfl ?_
  refine lw_aload_n dL_law_619 3 rfl ?_
  refine lw_iload_n dL_law_620 0 rfl ?_
  refine lw_iconst (v := 1) dL_law_621 (by decide) ?_
  refine lw_iadd dL_law_622 ?_
  refine lw_ld (i := i + 1) dL_law_623 (lnI0 i 1) (by omega) hL ?_
  refine lw_i2l dL_law_624 ?_
  refine lw_bipush (v := 32) dL_law_625 (by decide) ?_
  refine lw_lshl dL_law_627 ?_
  refine lw_aload_n dL_law_628 3 rfl ?_
  refine lw_iload_n dL_law_629 0 rfl ?_
  refine lw_iconst (v := 2) dL_law_630 (by decide) ?_
  refine lw_iadd dL_law_631 ?_
  refine lw_ld (i := i + 2) dL_law_632 (lnI0 i 2) (by omega) hL ?_
  refine lw_i2l dL_law_633 ?_
  refine lw_ldc2 dL_law_634 wt_981 ?_
  refine lw_land dL_law_637 ?_
  refine lw_lor dL_law_638 ?_
  refine lw_call_l (As := [.long (((xs (i + 1)).toInt64 <<< ((32 : Int32).toInt64 &&& 63)) ||| ((xs (i + 2)).toInt64 &&& (4294967295 : Int64)))]) (ci := 9) lkV_RL_74_yX10_worth dL_law_639 (k_X10_worth h2) rfl rfl rfl rfl (Nat.le_of_ble_eq_true rfl) (by decide) (by decide) hc hs ?_
  exact lw_same_l (tgt := 1366) dL_law_642 dL_law_643 (by decide) K
set_option maxRecDepth 100000 in
set_option maxHeartbeats 4000000 in
theorem lc_13 {l : Launch} {E : MX} {b Ln i c s : Nat} {xs : Nat → Int32} {σ σ1 σ2 : ES} {r : Int32} (hi : i + 6 ≤ Ln) (hL : Ln ≤ 3072) (hc : c ≤ 600000) (hs : s ≤ 7302250) (h1 : e_X9_raise (xs (i + 1)) σ = some (r, σ1)) (h2 : e_X10_raise (xs (i + 1)) σ1 = some (r, σ2)) (K : LW l E b Ln xs 82 c s (mkS σ2) 1366 [(3, .int (nI i)), (2, .ref 69), (1, .ref 0), (0, .ref 2002)] []) : LW l E b Ln xs 82 c s (mkS σ) 648 [(3, .int (nI i)), (2, .ref 69), (1, .ref 0), (0, .ref 2002)] [] := by
  refine lw_aload_n dL_law_648 2 rfl ?_
  refine lw_aload_n dL_law_649 3 rfl ?_
  refine lw_iload_n dL_law_650 0 rfl ?_
  refine lw_iconst (v := 1) dL_law_651 (by decide) ?_
  refine lw_iadd dL_law_652 ?_
  refine lw_ld (i := i + 1) dL_law_653 (lnI0 i 1) (by omega) hL ?_
  refine lw_call_i (As := [.int (xs (i + 1))]) (ci := 8) lkV_RL_75_yX9_raise dL_law_654 (k_X9_raise h1) rfl rfl rfl rfl (Nat.le_of_ble_eq_true rfl) (by decide) (by decide) hc hs ?_
  refine lw_aload_n dL_law_657 1 rfl ?_
  refine lw_aload_n dL_law_658 3 rfl ?_
  refine lw_iload_n dL_law_659 0 rfl ?_
  refine lw_iconst (v := 1) dL_law_660 (by decide) ?_
  refine lw_iadd dL_law_661 ?_
  refine lw_ld (i := i + 1) dL_law_662 (lnI0 i 1) (by omega) hL ?_
  refine lw_call_i (As := [.int (xs (i + 1))]) (ci := 9) lkV_RL_78_yX10_raise dL_law_663 (k_X10_raise h2) rfl rfl rfl rfl (Nat.le_of_ble_eq_true rfl) (by decide) (by decide) hc hs ?_
  exact lw_same_i (tgt := 1366) dL_law_666 (by decide) K
set_option maxRecDepth 100000 in
set_option maxHeartbeats 4000000 in
theorem lc_14 {l : Launch} {E : MX} {b Ln i c s : Nat} {xs : Nat → Int32} {σ σ1 σ2 : ES} {r : Int32} (hi : i + 6 ≤ Ln) (hL : Ln ≤ 3072) (hc : c ≤ 600000) (hs : s ≤ 7302250) (h1 : e_X9_lose σ = some (r, σ1)) (h2 : e_X10_lose σ1 = some (r, σ2)) (K : LW l E b Ln xs 82 c s (mkS σ2) 1366 [(3, .int (nI i)), (2, .ref 69), (1, .ref 0), (0, .ref 2002)] []) : LW l E b Ln xs 82 c s (mkS σ) 671 [(3, .int (nI i)), (2, .ref 69), (1, .ref 0), (0, .ref 2002)] [] := by
  refine lw_aload_n dL_law_671 2 rfl ?_
  refine lw_call_i (As := []) (ci := 8) lkV_RL_79_yX9_lose dL_law_672 (k_X9_lose h1) rfl rfl rfl rfl (Nat.le_of_ble_eq_true rfl) (by decide) (by decide) hc hs ?_
  refine lw_aload_n dL_law_675 1 rfl ?_
  refine lw_call_i (As := []) (ci := 9) lkV_RL_82_yX10_lose dL_law_676 (k_X10_lose h2) rfl rfl rfl rfl (Nat.le_of_ble_eq_true rfl) (by decide) (by decide) hc hs ?_
  exact lw_same_i (tgt := 1366) dL_law_679 (by decide) K
set_option maxRecDepth 100000 in
set_option maxHeartbeats 4000000 in
theorem lc_15 {l : Launch} {E : MX} {b Ln i c s : Nat} {xs : Nat → Int32} {σ σ1 σ2 : ES} {r : Int32} (hi : i + 6 ≤ Ln) (hL : Ln ≤ 3072) (hc : c ≤ 600000) (hs : s ≤ 7302250) (h1 : e_X9_kind (xs (i + 1)) σ = some (r, σ1)) (h2 : e_X10_kind (xs (i + 1)) σ1 = some (r, σ2)) (K : LW l E b Ln xs 82 c s (mkS σ2) 1366 [(3, .int (nI i)), (2, .ref 69), (1, .ref 0), (0, .ref 2002)] []) : LW l E b Ln xs 82 c s (mkS σ) 684 [(3, .int (nI i)), (2, .ref 69), (1, .ref 0), (0, .ref 2002)] [] := by
  refine lw_aload_n dL_law_684 2 rfl ?_
  refine lw_aload_n dL_law_685 3 rfl ?_
  refine lw_iload_n dL_law_686 0 rfl ?_
  refine lw_iconst (v := 1) dL_law_687 (by decide) ?_
  refine lw_iadd dL_law_688 ?_
  refine lw_ld (i := i + 1) dL_law_689 (lnI0 i 1) (by omega) hL ?_
  refine lw_call_i (As := [.int (xs (i + 1))]) (ci := 8) lkV_RL_83_yX9_kind dL_law_690 (k_X9_kind h1) rfl rfl rfl rfl (Nat.le_of_ble_eq_true rfl) (by decide) (by decide) hc hs ?_
  refine lw_aload_n dL_law_693 1 rfl ?_
  refine lw_aload_n dL_law_694 3 rfl ?_
  refine lw_iload_n dL_law_695 0 rfl ?_
  refine lw_iconst (v := 1) dL_law_696 (by decide) ?_
  refine lw_iadd dL_law_697 ?_
  refine lw_ld (i := i + 1) dL_law_698 (lnI0 i 1) (by omega) hL ?_
  refine lw_call_i (As := [.int (xs (i + 1))]) (ci := 9) lkV_RL_86_yX10_kind dL_law_699 (k_X10_kind h2) rfl rfl rfl rfl (Nat.le_of_ble_eq_true rfl) (by decide) (by decide) hc hs ?_
  exact lw_same_i (tgt := 1366) dL_law_702 (by decide) K
set_option maxRecDepth 100000 in
set_option maxHeartbeats 4000000 in
theorem lc_16 {l : Launch} {E : MX} {b Ln i c s : Nat} {xs : Nat → Int32} {σ σ1 σ2 : ES} {r : Int32} (hi : i + 6 ≤ Ln) (hL : Ln ≤ 3072) (hc : c ≤ 600000) (hs : s ≤ 7302250) (h1 : e_X9_season σ = some (r, σ1)) (h2 : e_X10_season σ1 = some (r, σ2)) (K : LW l E b Ln xs 82 c s (mkS σ2) 1366 [(3, .int (nI i)), (2, .ref 69), (1, .ref 0), (0, .ref 2002)] []) : LW l E b Ln xs 82 c s (mkS σ) 707 [(3, .int (nI i)), (2, .ref 69), (1, .ref 0), (0, .ref 2002)] [] := by
  refine lw_aload_n dL_law_707 2 rfl ?_
  refine lw_call_i (As := []) (ci := 8) lkV_RL_87_yX9_season dL_law_708 (k_X9_season h1) rfl rfl rfl rfl (Nat.le_of_ble_eq_true rfl) (by decide) (by decide) hc hs ?_
  refine lw_aload_n dL_law_711 1 rfl ?_
  refine lw_call_i (As := []) (ci := 9) lkV_RL_90_yX10_season dL_law_712 (k_X10_season h2) rfl rfl rfl rfl (Nat.le_of_ble_eq_true rfl) (by decide) (by decide) hc hs ?_
  exact lw_same_i (tgt := 1366) dL_law_715 (by decide) K
set_option maxRecDepth 100000 in
set_option maxHeartbeats 4000000 in
theorem lc_17 {l : Launch} {E : MX} {b Ln i c s : Nat} {xs : Nat → Int32} {σ σ1 σ2 : ES} {r : Int64} (hi : i + 6 ≤ Ln) (hL : Ln ≤ 3072) (hc : c ≤ 600000) (hs : s ≤ 7302250) (h1 : e_X9_tree (xs (i + 1)) σ = some (r, σ1)) (h2 : e_X10_tree (xs (i + 1)) σ1 = some (r, σ2)) (K : LW l E b Ln xs 82 c s (mkS σ2) 1366 [(3, .int (nI i)), (2, .ref 69), (1, .ref 0), (0, .ref 2002)] []) : LW l E b Ln xs 82 c s (mkS σ) 720 [(3, .int (nI i)), (2, .ref 69), (1, .ref 0), (0, .ref 2002)] [] := by
  refine lw_aload_n dL_law_720 2 rfl ?_
  refine lw_aload_n dL_law_721 3 rfl ?_
  refine lw_iload_n dL_law_722 0 rfl ?_
  refine lw_iconst (v := 1) dL_law_723 (by decide) ?_
  refine lw_iadd dL_law_724 ?_
  refine lw_ld (i := i + 1) dL_law_725 (lnI0 i 1) (by omega) hL ?_
  refine lw_call_l (As := [.int (xs (i + 1))]) (ci := 8) lkV_RL_91_yX9_tree dL_law_726 (k_X9_tree h1) rfl rfl rfl rfl (Nat.le_of_ble_eq_true rfl) (by decide) (by decide) hc hs ?_
  refine lw_aload_n dL_law_729 1 rfl ?_
  refine lw_aload_n dL_law_730 3 rfl ?_
  refine lw_iload_n dL_law_731 0 rfl ?_
  refine lw_iconst (v := 1) dL_law_732 (by decide) ?_
  refine lw_iadd dL_law_733 ?_
  refine lw_ld (i := i + 1) dL_law_734 (lnI0 i 1) (by omega) hL ?_
  refine lw_call_l (As := [.int (xs (i + 1))]) (ci := 9) lkV_RL_94_yX10_tree dL_law_735 (k_X10_tree h2) rfl rfl rfl rfl (Nat.le_of_ble_eq_true rfl) (by decide) (by decide) hc hs ?_
  exact lw_same_l (tgt := 1366) dL_law_738 dL_law_739 (by decide) K
set_option maxRecDepth 100000 in
set_option maxHeartbeats 4000000 in
theorem lc_18 {l : Launch} {E : MX} {b Ln i c s : Nat} {xs : Nat → Int32} {σ σ1 σ2 : ES} {r : Int64} (hi : i + 6 ≤ Ln) (hL : Ln ≤ 3072) (hc : c ≤ 600000) (hs : s ≤ 7302250) (h1 : e_X9_walk (xs (i + 1)) (xs (i + 2)) (xs (i + 3)) σ = some (r, σ1)) (h2 : e_X10_walk (xs (i + 1)) (xs (i + 2)) (xs (i + 3)) σ1 = some (r, σ2)) (K : LW l E b Ln xs 82 c s (mkS σ2) 1366 [(3, .int (nI i)), (2, .ref 69), (1, .ref 0), (0, .ref 2002)] []) : LW l E b Ln xs 82 c s (mkS σ) 744 [(3, .int (nI i)), (2, .ref 69), (1, .ref 0), (0, .ref 2002)] [] := by
  refine lw_aload_n dL_law_744 2 rfl ?_
  refine lw_aload_n dL_law_745 3 rfl ?_
  refine lw_iload_n dL_law_746 0 rfl ?_
  refine lw_iconst (v := 1) dL_law_747 (by decide) ?_
  refine lw_iadd dL_law_748 ?_
  refine lw_ld (i := i + 1) dL_law_749 (lnI0 i 1) (by omega) hL ?_
  refine lw_aload_n dL_law_750 3 rfl ?_
  refine lw_iload_n dL_law_751 0 rfl ?_
  refine lw_iconst (v := 2) dL_law_752 (by decide) ?_
  refine lw_iadd dL_law_753 ?_
  refine lw_ld (i := i + 2) dL_law_754 (lnI0 i 2) (by omega) hL ?_
  refine lw_aload_n dL_law_755 3 rfl ?_
  refine lw_iload_n dL_law_756 0 rfl ?_
  refine lw_iconst (v := 3) dL_law_757 (by decide) ?_
  refine lw_iadd dL_law_758 ?_
  refine lw_ld (i := i + 3) dL_law_759 (lnI0 i 3) (by omega) hL ?_
  refine lw_call_l (As := [.int (xs (i + 1)), .int (xs (i + 2)), .int (xs (i + 3))]) (ci := 8) lkV_RL_95_yX9_walk dL_law_760 (k_X9_walk h1) rfl rfl rfl rfl (Nat.le_of_ble_eq_true rfl) (by decide) (by decide) hc hs ?_
  refine lw_aload_n dL_law_763 1 rfl ?_
  refine lw_aload_n dL_law_764 3 rfl ?_
  refine lw_iload_n dL_law_765 0 rfl ?_
  refine lw_iconst (v := 1) dL_law_766 (by decide) ?_
  refine lw_iadd dL_law_767 ?_
  refine lw_ld (i := i + 1) dL_law_768 (lnI0 i 1) (by omega) hL ?_
  refine lw_aload_n dL_law_769 3 rfl ?_
  refine lw_iload_n dL_law_770 0 rfl ?_
  refine lw_iconst (v := 2) dL_law_771 (by decide) ?_
  refine lw_iadd dL_law_772 ?_
  refine lw_ld (i := i + 2) dL_law_773 (lnI0 i 2) (by omega) hL ?_
  refine lw_aload_n dL_law_774 3 rfl ?_
  refine lw_iload_n dL_law_775 0 rfl ?_
  refine lw_iconst (v := 3) dL_law_776 (by decide) ?_
  refine lw_iadd dL_law_777 ?_
  refine lw_ld (i := i + 3) dL_law_778 (lnI0 i 3) (by omega) hL ?_
  refine lw_call_l (As := [.int (xs (i + 1)), .int (xs (i + 2)), .int (xs (i + 3))]) (ci := 9) lkV_RL_99_yX10_walk dL_law_779 (k_X10_walk h2) rfl rfl rfl rfl (Nat.le_of_ble_eq_true rfl) (by decide) (by decide) hc hs ?_
  exact lw_same_l (tgt := 1366) dL_law_782 dL_law_783 (by decide) K
set_option maxRecDepth 100000 in
set_option maxHeartbeats 4000000 in
theorem lc_19 {l : Launch} {E : MX} {b Ln i c s : Nat} {xs : Nat → Int32} {σ σ1 σ2 : ES} {r : Int64} (hi : i + 6 ≤ Ln) (hL : Ln ≤ 3072) (hc : c ≤ 600000) (hs : s ≤ 7302250) (h1 : e_X9_load (xs (i + 1)) (xs (i + 2)) σ = some (r, σ1)) (h2 : e_X10_load (xs (i + 1)) (xs (i + 2)) σ1 = some (r, σ2)) (K : LW l E b Ln xs 82 c s (mkS σ2) 1366 [(3, .int (nI i)), (2, .ref 69), (1, .ref 0), (0, .ref 2002)] []) : LW l E b Ln xs 82 c s (mkS σ) 788 [(3, .int (nI i)), (2, .ref 69), (1, .ref 0), (0, .ref 2002)] [] := by
  refine lw_aload_n dL_law_788 2 rfl ?_
  refine lw_aload_n dL_law_789 3 rfl ?_
  refine lw_iload_n dL_law_790 0 rfl ?_
  refine lw_iconst (v := 1) dL_law_791 (by decide) ?_
  refine lw_iadd dL_law_792 ?_
  refine lw_ld (i := i + 1) dL_law_793 (lnI0 i 1) (by omega) hL ?_
  refine lw_aload_n dL_law_794 3 rfl ?_
  refine lw_iload_n dL_law_795 0 rfl ?_
  refine lw_iconst (v := 2) dL_law_796 (by decide) ?_
  refine lw_iadd dL_law_797 ?_
  refine lw_ld (i := i + 2) dL_law_798 (lnI0 i 2) (by omega) hL ?_
  refine lw_call_l (As := [.int (xs (i + 1)), .int (xs (i + 2))]) (ci := 8) lkV_RL_100_yX9_load dL_law_799 (k_X9_load h1) rfl rfl rfl rfl (Nat.le_of_ble_eq_true rfl) (by decide) (by decide) hc hs ?_
  refine lw_aload_n dL_law_802 1 rfl ?_
  refine lw_aload_n dL_law_803 3 rfl ?_
  refine lw_iload_n dL_law_804 0 rfl ?_
  refine lw_iconst (v := 1) dL_law_805 (by decide) ?_
  refine lw_iadd dL_law_806 ?_
  refine lw_ld (i := i + 1) dL_law_807 (lnI0 i 1) (by omega) hL ?_
  refine lw_aload_n dL_law_808 3 rfl ?_
  refine lw_iload_n dL_law_809 0 rfl ?_
  refine lw_iconst (v := 2) dL_law_810 (by decide) ?_
  refine lw_iadd dL_law_811 ?_
  refine lw_ld (i := i + 2) dL_law_812 (lnI0 i 2) (by omega) hL ?_
  refine lw_call_l (As := [.int (xs (i + 1)), .int (xs (i + 2))]) (ci := 9) lkV_RL_103_yX10_load dL_law_813 (k_X10_load h2) rfl rfl rfl rfl (Nat.le_of_ble_eq_true rfl) (by decide) (by decide) hc hs ?_
  exact lw_same_l (tgt := 1366) dL_law_816 dL_law_817 (by decide) K
set_option maxRecDepth 100000 in
set_option maxHeartbeats 4000000 in
theorem lc_20 {l : Launch} {E : MX} {b Ln i c s : Nat} {xs : Nat → Int32} {σ σ1 σ2 : ES} {r : Int64} (hi : i + 6 ≤ Ln) (hL : Ln ≤ 3072) (hc : c ≤ 600000) (hs : s ≤ 7302250) (h1 : e_X9_ratio (xs (i + 1)) (xs (i + 2)) (xs (i + 3)) σ = some (r, σ1)) (h2 : e_X10_ratio (xs (i + 1)) (xs (i + 2)) (xs (i + 3)) σ1 = some (r, σ2)) (K : LW l E b Ln xs 82 c s (mkS σ2) 1366 [(3, .int (nI i)), (2, .ref 69), (1, .ref 0), (0, .ref 2002)] []) : LW l E b Ln xs 82 c s (mkS σ) 822 [(3, .int (nI i)), (2, .ref 69), (1, .ref 0), (0, .ref 2002)] [] := by
  refine lw_aload_n dL_law_822 2 rfl ?_
  refine lw_aload_n dL_law_823 3 rfl ?_
  refine lw_iload_n dL_law_824 0 rfl ?_
  refine lw_iconst (v := 1) dL_law_825 (by decide) ?_
  refine lw_iadd dL_law_826 ?_
  refine lw_ld (i := i + 1) dL_law_827 (lnI0 i 1) (by omega) hL ?_
  refine lw_aload_n dL_law_828 3 rfl ?_
  refine lw_iload_n dL_law_829 0 rfl ?_
  refine lw_iconst (v := 2) dL_law_830 (by decide) ?_
  refine lw_iadd dL_law_831 ?_
  refine lw_ld (i := i + 2) dL_law_832 (lnI0 i 2) (by omega) hL ?_
  refine lw_aload_n dL_law_833 3 rfl ?_
  refine lw_iload_n dL_law_834 0 rfl ?_
  refine lw_iconst (v := 3) dL_law_835 (by decide) ?_
  refine lw_iadd dL_law_836 ?_
  refine lw_ld (i := i + 3) dL_law_837 (lnI0 i 3) (by omega) hL ?_
  refine lw_call_l (As := [.int (xs (i + 1)), .int (xs (i + 2)), .int (xs (i + 3))]) (ci := 8) lkV_RL_104_yX9_ratio dL_law_838 (k_X9_ratio h1) rfl rfl rfl rfl (Nat.le_of_ble_eq_true rfl) (by decide) (by decide) hc hs ?_
  refine lw_aload_n dL_law_841 1 rfl ?_
  refine lw_aload_n dL_law_842 3 rfl ?_
  refine lw_iload_n dL_law_843 0 rfl ?_
  refine lw_iconst (v := 1) dL_law_844 (by decide) ?_
  refine lw_iadd dL_law_845 ?_
  refine lw_ld (i := i + 1) dL_law_846 (lnI0 i 1) (by omega) hL ?_
  refine lw_aload_n dL_law_847 3 rfl ?_
  refine lw_iload_n dL_law_848 0 rfl ?_
  refine lw_iconst (v := 2) dL_law_849 (by decide) ?_
  refine lw_iadd dL_law_850 ?_
  refine lw_ld (i := i + 2) dL_law_851 (lnI0 i 2) (by omega) hL ?_
  refine lw_aload_n dL_law_852 3 rfl ?_
  refine lw_iload_n dL_law_853 0 rfl ?_
  refine lw_iconst (v := 3) dL_law_854 (by decide) ?_
  refine lw_iadd dL_law_855 ?_
  refine lw_ld (i := i + 3) dL_law_856 (lnI0 i 3) (by omega) hL ?_
  refine lw_call_l (As := [.int (xs (i + 1)), .int (xs (i + 2)), .int (xs (i + 3))]) (ci := 9) lkV_RL_107_yX10_ratio dL_law_857 (k_X10_ratio h2) rfl rfl rfl rfl (Nat.le_of_ble_eq_true rfl) (by decide) (by decide) hc hs ?_
  exact lw_same_l (tgt := 1366) dL_law_860 dL_law_861 (by decide) K
set_option maxRecDepth 100000 in
set_option maxHeartbeats 4000000 in
theorem lc_21 {l : Launch} {E : MX} {b Ln i c s : Nat} {xs : Nat → Int32} {σ σ1 σ2 : ES} {r : Int32} (hi : i + 6 ≤ Ln) (hL : Ln ≤ 3072) (hc : c ≤ 600000) (hs : s ≤ 7302250) (h1 : e_X9_compare (xs (i + 1)) (xs (i + 2)) (xs (i + 3)) σ = some (r, σ1)) (h2 : e_X10_compare (xs (i + 1)) (xs (i + 2)) (xs (i + 3)) σ1 = some (r, σ2)) (K : LW l E b Ln xs 82 c s (mkS σ2) 1366 [(3, .int (nI i)), (2, .ref 69), (1, .ref 0), (0, .ref 2002)] []) : LW l E b Ln xs 82 c s (mkS σ) 866 [(3, .int (nI i)), (2, .ref 69), (1, .ref 0), (0, .ref 2002)] [] := by
  refine lw_aload_n dL_law_866 2 rfl ?_
  refine lw_aload_n dL_law_867 3 rfl ?_
  refine lw_iload_n dL_law_868 0 rfl ?_
  refine lw_iconst (v := 1) dL_law_869 (by decide) ?_
  refine lw_iadd dL_law_870 ?_
  refine lw_ld (i := i + 1) dL_law_871 (lnI0 i 1) (by omega) hL ?_
  refine lw_aload_n dL_law_872 3 rfl ?_
  refine lw_iload_n dL_law_873 0 rfl ?_
  refine lw_iconst (v := 2) dL_law_874 (by decide) ?_
  refine lw_iadd dL_law_875 ?_
  refine lw_ld (i := i + 2) dL_law_876 (lnI0 i 2) (by omega) hL ?_
  refine lw_aload_n dL_law_877 3 rfl ?_
  refine lw_iload_n dL_law_878 0 rfl ?_
  refine lw_iconst (v := 3) dL_law_879 (by decide) ?_
  refine lw_iadd dL_law_880 ?_
  refine lw_ld (i := i + 3) dL_law_881 (lnI0 i 3) (by omega) hL ?_
  refine lw_call_i (As := [.int (xs (i + 1)), .int (xs (i + 2)), .int (xs (i + 3))]) (ci := 8) lkV_RL_108_yX9_compare dL_law_882 (k_X9_compare h1) rfl rfl rfl rfl (Nat.le_of_ble_eq_true rfl) (by decide) (by decide) hc hs ?_
  refine lw_aload_n dL_law_885 1 rfl ?_
  refine lw_aload_n dL_law_886 3 rfl ?_
  refine lw_iload_n dL_law_887 0 rfl ?_
  refine lw_iconst (v := 1) dL_law_888 (by decide) ?_
  refine lw_iadd dL_law_889 ?_
  refine lw_ld (i := i + 1) dL_law_890 (lnI0 i 1) (by omega) hL ?_
  refine lw_aload_n dL_law_891 3 rfl ?_
  refine lw_iload_n dL_law_892 0 rfl ?_
  refine lw_iconst (v := 2) dL_law_893 (by decide) ?_
  refine lw_iadd dL_law_894 ?_
  refine lw_ld (i := i + 2) dL_law_895 (lnI0 i 2) (by omega) hL ?_
  refine lw_aload_n dL_law_896 3 rfl ?_
  refine lw_iload_n dL_law_897 0 rfl ?_
  refine lw_iconst (v := 3) dL_law_898 (by decide) ?_
  refine lw_iadd dL_law_899 ?_
  refine lw_ld (i := i + 3) dL_law_900 (lnI0 i 3) (by omega) hL ?_
  refine lw_call_i (As := [.int (xs (i + 1)), .int (xs (i + 2)), .int (xs (i + 3))]) (ci := 9) lkV_RL_111_yX10_compare dL_law_901 (k_X10_compare h2) rfl rfl rfl rfl (Nat.le_of_ble_eq_true rfl) (by decide) (by decide) hc hs ?_
  exact lw_same_i (tgt := 1366) dL_law_904 (by decide) K
set_option maxRecDepth 100000 in
set_option maxHeartbeats 4000000 in
theorem lc_22 {l : Launch} {E : MX} {b Ln i c s : Nat} {xs : Nat → Int32} {σ σ1 σ2 : ES} {r : Int64} (hi : i + 6 ≤ Ln) (hL : Ln ≤ 3072) (hc : c ≤ 600000) (hs : s ≤ 7302250) (h1 : e_X9_reduce (xs (i + 1)) (xs (i + 2)) σ = some (r, σ1)) (h2 : e_X10_reduce (xs (i + 1)) (xs (i + 2)) σ1 = some (r, σ2)) (K : LW l E b Ln xs 82 c s (mkS σ2) 1366 [(3, .int (nI i)), (2, .ref 69), (1, .ref 0), (0, .ref 2002)] []) : LW l E b Ln xs 82 c s (mkS σ) 909 [(3, .int (nI i)), (2, .ref 69), (1, .ref 0), (0, .ref 2002)] [] := by
  refine lw_aload_n dL_law_909 2 rfl ?_
  refine lw_aload_n dL_law_910 3 rfl ?_
  refine lw_iload_n dL_law_911 0 rfl ?_
  refine lw_iconst (v := 1) dL_law_912 (by decide) ?_
  refine lw_iadd dL_law_913 ?_
  refine lw_ld (i := i + 1) dL_law_914 (lnI0 i 1) (by omega) hL ?_
  refine lw_aload_n dL_law_915 3 rfl ?_
  refine lw_iload_n dL_law_916 0 rfl ?_
  refine lw_iconst (v := 2) dL_law_917 (by decide) ?_
  refine lw_iadd dL_law_918 ?_
  refine lw_ld (i := i + 2) dL_law_919 (lnI0 i 2) (by omega) hL ?_
  refine lw_call_l (As := [.int (xs (i + 1)), .int (xs (i + 2))]) (ci := 8) lkV_RL_112_yX9_reduce dL_law_920 (k_X9_reduce h1) rfl rfl rfl rfl (Nat.le_of_ble_eq_true rfl) (by decide) (by decide) hc hs ?_
  refine lw_aload_n dL_law_923 1 rfl ?_
  refine lw_aload_n dL_law_924 3 rfl ?_
  refine lw_iload_n dL_law_925 0 rfl ?_
  refine lw_iconst (v := 1) dL_law_926 (by decide) ?_
  refine lw_iadd dL_law_927 ?_
  refine lw_ld (i := i + 1) dL_law_928 (lnI0 i 1) (by omega) hL ?_
  refine lw_aload_n dL_law_929 3 rfl ?_
  refine lw_iload_n dL_law_930 0 rfl ?_
  refine lw_iconst (v := 2) dL_law_931 (by decide) ?_
  refine lw_iadd dL_law_932 ?_
  refine lw_ld (i := i + 2) dL_law_933 (lnI0 i 2) (by omega) hL ?_
  refine lw_call_l (As := [.int (xs (i + 1)), .int (xs (i + 2))]) (ci := 9) lkV_RL_115_yX10_reduce dL_law_934 (k_X10_reduce h2) rfl rfl rfl rfl (Nat.le_of_ble_eq_true rfl) (by decide) (by decide) hc hs ?_
  exact lw_same_l (tgt := 1366) dL_law_937 dL_law_938 (by decide) K
set_option maxRecDepth 100000 in
set_option maxHeartbeats 4000000 in
theorem lc_23 {l : Launch} {E : MX} {b Ln i c s : Nat} {xs : Nat → Int32} {σ σ1 σ2 : ES} {r : Int32} (hi : i + 6 ≤ Ln) (hL : Ln ≤ 3072) (hc : c ≤ 600000) (hs : s ≤ 7302250) (h1 : e_X9_add (xs (i + 1)) (xs (i + 2)) (xs (i + 3)) σ = some (r, σ1)) (h2 : e_X10_add (xs (i + 1)) (xs (i + 2)) (xs (i + 3)) σ1 = some (r, σ2)) (K : LW l E b Ln xs 82 c s (mkS σ2) 1366 [(3, .int (nI i)), (2, .ref 69), (1, .ref 0), (0, .ref 2002)] []) : LW l E b Ln xs 82 c s (mkS σ) 943 [(3, .int (nI i)), (2, .ref 69), (1, .ref 0), (0, .ref 2002)] [] := by
  refine lw_aload_n dL_law_943 2 rfl ?_
  refine lw_aload_n dL_law_944 3 rfl ?_
  refine lw_iload_n dL_law_945 0 rfl ?_
  refine lw_iconst (v := 1) dL_law_946 (by decide) ?_
  refine lw_iadd dL_law_947 ?_
  refine lw_ld (i := i + 1) dL_law_948 (lnI0 i 1) (by omega) hL ?_
  refine lw_aload_n dL_law_949 3 rfl ?_
  refine lw_iload_n dL_law_950 0 rfl ?_
  refine lw_iconst (v := 2) dL_law_951 (by decide) ?_
  refine lw_iadd dL_law_952 ?_
  refine lw_ld (i := i + 2) dL_law_953 (lnI0 i 2) (by omega) hL ?_
  refine lw_aload_n dL_law_954 3 rfl ?_
  refine lw_iload_n dL_law_955 0 rfl ?_
  refine lw_iconst (v := 3) dL_law_956 (by decide) ?_
  refine lw_iadd dL_law_957 ?_
  refine lw_ld (i := i + 3) dL_law_958 (lnI0 i 3) (by omega) hL ?_
  refine lw_call_i (As := [.int (xs (i + 1)), .int (xs (i + 2)), .int (xs (i + 3))]) (ci := 8) lkV_RL_116_yX9_add dL_law_959 (k_X9_add h1) rfl rfl rfl rfl (Nat.le_of_ble_eq_true rfl) (by decide) (by decide) hc hs ?_
  refine lw_aload_n dL_law_962 1 rfl ?_
  refine lw_aload_n dL_law_963 3 rfl ?_
  refine lw_iload_n dL_law_964 0 rfl ?_
  refine lw_iconst (v := 1) dL_law_965 (by decide) ?_
  refine lw_iadd dL_law_966 ?_
  refine lw_ld (i := i + 1) dL_law_967 (lnI0 i 1) (by omega) hL ?_
  refine lw_aload_n dL_law_968 3 rfl ?_
  refine lw_iload_n dL_law_969 0 rfl ?_
  refine lw_iconst (v := 2) dL_law_970 (by decide) ?_
  refine lw_iadd dL_law_971 ?_
  refine lw_ld (i := i + 2) dL_law_972 (lnI0 i 2) (by omega) hL ?_
  refine lw_aload_n dL_law_973 3 rfl ?_
  refine lw_iload_n dL_law_974 0 rfl ?_
  refine lw_iconst (v := 3) dL_law_975 (by decide) ?_
  refine lw_iadd dL_law_976 ?_
  refine lw_ld (i := i + 3) dL_law_977 (lnI0 i 3) (by omega) hL ?_
  refine lw_call_i (As := [.int (xs (i + 1)), .int (xs (i + 2)), .int (xs (i + 3))]) (ci := 9) lkV_RL_119_yX10_add dL_law_978 (k_X10_add h2) rfl rfl rfl rfl (Nat.le_of_ble_eq_true rfl) (by decide) (by decide) hc hs ?_
  exact lw_same_i (tgt := 1366) dL_law_981 (by decide) K
set_option maxRecDepth 100000 in
set_option maxHeartbeats 4000000 in
theorem lc_24 {l : Launch} {E : MX} {b Ln i c s : Nat} {xs : Nat → Int32} {σ σ1 σ2 : ES} {r : Int32} (hi : i + 6 ≤ Ln) (hL : Ln ≤ 3072) (hc : c ≤ 600000) (hs : s ≤ 7302250) (h1 : e_X9_feed (xs (i + 1)) (xs (i + 2)) σ = some (r, σ1)) (h2 : e_X10_feed (xs (i + 1)) (xs (i + 2)) σ1 = some (r, σ2)) (K : LW l E b Ln xs 82 c s (mkS σ2) 1366 [(3, .int (nI i)), (2, .ref 69), (1, .ref 0), (0, .ref 2002)] []) : LW l E b Ln xs 82 c s (mkS σ) 986 [(3, .int (nI i)), (2, .ref 69), (1, .ref 0), (0, .ref 2002)] [] := by
  refine lw_aload_n dL_law_986 2 rfl ?_
  refine lw_aload_n dL_law_987 3 rfl ?_
  refine lw_iload_n dL_law_988 0 rfl ?_
  refine lw_iconst (v := 1) dL_law_989 (by decide) ?_
  refine lw_iadd dL_law_990 ?_
  refine lw_ld (i := i + 1) dL_law_991 (lnI0 i 1) (by omega) hL ?_
  refine lw_aload_n dL_law_992 3 rfl ?_
  refine lw_iload_n dL_law_993 0 rfl ?_
  refine lw_iconst (v := 2) dL_law_994 (by decide) ?_
  refine lw_iadd dL_law_995 ?_
  refine lw_ld (i := i + 2) dL_law_996 (lnI0 i 2) (by omega) hL ?_
  refine lw_call_i (As := [.int (xs (i + 1)), .int (xs (i + 2))]) (ci := 8) lkV_RL_120_yX9_feed dL_law_997 (k_X9_feed h1) rfl rfl rfl rfl (Nat.le_of_ble_eq_true rfl) (by decide) (by decide) hc hs ?_
  refine lw_aload_n dL_law_1000 1 rfl ?_
  refine lw_aload_n dL_law_1001 3 rfl ?_
  refine lw_iload_n dL_law_1002 0 rfl ?_
  refine lw_iconst (v := 1) dL_law_1003 (by decide) ?_
  refine lw_iadd dL_law_1004 ?_
  refine lw_ld (i := i + 1) dL_law_1005 (lnI0 i 1) (by omega) hL ?_
  refine lw_aload_n dL_law_1006 3 rfl ?_
  refine lw_iload_n dL_law_1007 0 rfl ?_
  refine lw_iconst (v := 2) dL_law_1008 (by decide) ?_
  refine lw_iadd dL_law_1009 ?_
  refine lw_ld (i := i + 2) dL_law_1010 (lnI0 i 2) (by omega) hL ?_
  refine lw_call_i (As := [.int (xs (i + 1)), .int (xs (i + 2))]) (ci := 9) lkV_RL_123_yX10_feed dL_law_1011 (k_X10_feed h2) rfl rfl rfl rfl (Nat.le_of_ble_eq_true rfl) (by decide) (by decide) hc hs ?_
  exact lw_same_i (tgt := 1366) dL_law_1014 (by decide) K
set_option maxRecDepth 100000 in
set_option maxHeartbeats 4000000 in
theorem lc_25 {l : Launch} {E : MX} {b Ln i c s : Nat} {xs : Nat → Int32} {σ σ1 σ2 : ES} {r : Int32} (hi : i + 6 ≤ Ln) (hL : Ln ≤ 3072) (hc : c ≤ 600000) (hs : s ≤ 7302250) (h1 : e_X9_wipe σ = some (r, σ1)) (h2 : e_X10_wipe σ1 = some (r, σ2)) (K : LW l E b Ln xs 82 c s (mkS σ2) 1366 [(3, .int (nI i)), (2, .ref 69), (1, .ref 0), (0, .ref 2002)] []) : LW l E b Ln xs 82 c s (mkS σ) 1019 [(3, .int (nI i)), (2, .ref 69), (1, .ref 0), (0, .ref 2002)] [] := by
  refine lw_aload_n dL_law_1019 2 rfl ?_
  refine lw_call_i (As := []) (ci := 8) lkV_RL_124_yX9_wipe dL_law_1020 (k_X9_wipe h1) rfl rfl rfl rfl (Nat.le_of_ble_eq_true rfl) (by decide) (by decide) hc hs ?_
  refine lw_aload_n dL_law_1023 1 rfl ?_
  refine lw_call_i (As := []) (ci := 9) lkV_RL_127_yX10_wipe dL_law_1024 (k_X10_wipe h2) rfl rfl rfl rfl (Nat.le_of_ble_eq_true rfl) (by decide) (by decide) hc hs ?_
  exact lw_same_i (tgt := 1366) dL_law_1027 (by decide) K
set_option maxRecDepth 100000 in
set_option maxHeartbeats 4000000 in
theorem lc_26 {l : Launch} {E : MX} {b Ln i c s : Nat} {xs : Nat → Int32} {σ σ1 σ2 : ES} {r : Int32} (hi : i + 6 ≤ Ln) (hL : Ln ≤ 3072) (hc : c ≤ 600000) (hs : s ≤ 7302250) (h1 : e_X9_text σ = some (r, σ1)) (h2 : e_X10_text σ1 = some (r, σ2)) (K : LW l E b Ln xs 82 c s (mkS σ2) 1366 [(3, .int (nI i)), (2, .ref 69), (1, .ref 0), (0, .ref 2002)] []) : LW l E b Ln xs 82 c s (mkS σ) 1032 [(3, .int (nI i)), (2, .ref 69), (1, .ref 0), (0, .ref 2002)] [] := by
  refine lw_aload_n dL_law_1032 2 rfl ?_
  refine lw_call_i (As := []) (ci := 8) lkV_RL_128_yX9_text dL_law_1033 (k_X9_text h1) rfl rfl rfl rfl (Nat.le_of_ble_eq_true rfl) (by decide) (by decide) hc hs ?_
  refine lw_aload_n dL_law_1036 1 rfl ?_
  refine lw_call_i (As := []) (ci := 9) lkV_RL_131_yX10_text dL_law_1037 (k_X10_text h2) rfl rfl rfl rfl (Nat.le_of_ble_eq_true rfl) (by decide) (by decide) hc hs ?_
  exact lw_same_i (tgt := 1366) dL_law_1040 (by decide) K
set_option maxRecDepth 100000 in
set_option maxHeartbeats 4000000 in
theorem lc_27 {l : Launch} {E : MX} {b Ln i c s : Nat} {xs : Nat → Int32} {σ σ1 σ2 : ES} {r : Int32} (hi : i + 6 ≤ Ln) (hL : Ln ≤ 3072) (hc : c ≤ 600000) (hs : s ≤ 7302250) (h1 : e_X9_sheet (xs (i + 1)) (xs (i + 2)) (xs (i + 3)) σ = some (r, σ1)) (h2 : e_X10_sheet (xs (i + 1)) (xs (i + 2)) (xs (i + 3)) σ1 = some (r, σ2)) (K : LW l E b Ln xs 82 c s (mkS σ2) 1366 [(3, .int (nI i)), (2, .ref 69), (1, .ref 0), (0, .ref 2002)] []) : LW l E b Ln xs 82 c s (mkS σ) 1045 [(3, .int (nI i)), (2, .ref 69), (1, .ref 0), (0, .ref 2002)] [] := by
  refine lw_aload_n dL_law_1045 2 rfl ?_
  refine lw_aload_n dL_law_1046 3 rfl ?_
  refine lw_iload_n dL_law_1047 0 rfl ?_
  refine lw_iconst (v := 1) dL_law_1048 (by decide) ?_
  refine lw_iadd dL_law_1049 ?_
  refine lw_ld (i := i + 1) dL_law_1050 (lnI0 i 1) (by omega) hL ?_
  refine lw_aload_n dL_law_1051 3 rfl ?_
  refine lw_iload_n dL_law_1052 0 rfl ?_
  refine lw_iconst (v := 2) dL_law_1053 (by decide) ?_
  refine lw_iadd dL_law_1054 ?_
  refine lw_ld (i := i + 2) dL_law_1055 (lnI0 i 2) (by omega) hL ?_
  refine lw_aload_n dL_law_1056 3 rfl ?_
  refine lw_iload_n dL_law_1057 0 rfl ?_
  refine lw_iconst (v := 3) dL_law_1058 (by decide) ?_
  refine lw_iadd dL_law_1059 ?_
  refine lw_ld (i := i + 3) dL_law_1060 (lnI0 i 3) (by omega) hL ?_
  refine lw_call_i (As := [.int (xs (i + 1)), .int (xs (i + 2)), .int (xs (i + 3))]) (ci := 8) lkV_RL_132_yX9_sheet dL_law_1061 (k_X9_sheet h1) rfl rfl rfl rfl (Nat.le_of_ble_eq_true rfl) (by decide) (by decide) hc hs ?_
  refine lw_aload_n dL_law_1064 1 rfl ?_
  refine lw_aload_n dL_law_1065 3 rfl ?_
  refine lw_iload_n dL_law_1066 0 rfl ?_
  refine lw_iconst (v := 1) dL_law_1067 (by decide) ?_
  refine lw_iadd dL_law_1068 ?_
  refine lw_ld (i := i + 1) dL_law_1069 (lnI0 i 1) (by omega) hL ?_
  refine lw_aload_n dL_law_1070 3 rfl ?_
  refine lw_iload_n dL_law_1071 0 rfl ?_
  refine lw_iconst (v := 2) dL_law_1072 (by decide) ?_
  refine lw_iadd dL_law_1073 ?_
  refine lw_ld (i := i + 2) dL_law_1074 (lnI0 i 2) (by omega) hL ?_
  refine lw_aload_n dL_law_1075 3 rfl ?_
  refine lw_iload_n dL_law_1076 0 rfl ?_
  refine lw_iconst (v := 3) dL_law_1077 (by decide) ?_
  refine lw_iadd dL_law_1078 ?_
  refine lw_ld (i := i + 3) dL_law_1079 (lnI0 i 3) (by omega) hL ?_
  refine lw_call_i (As := [.int (xs (i + 1)), .int (xs (i + 2)), .int (xs (i + 3))]) (ci := 9) lkV_RL_135_yX10_sheet dL_law_1080 (k_X10_sheet h2) rfl rfl rfl rfl (Nat.le_of_ble_eq_true rfl) (by decide) (by decide) hc hs ?_
  exact lw_same_i (tgt := 1366) dL_law_1083 (by decide) K
set_option maxRecDepth 100000 in
set_option maxHeartbeats 4000000 in
theorem lc_28 {l : Launch} {E : MX} {b Ln i c s : Nat} {xs : Nat → Int32} {σ σ1 σ2 : ES} {r : Int32} (hi : i + 6 ≤ Ln) (hL : Ln ≤ 3072) (hc : c ≤ 600000) (hs : s ≤ 7302250) (h1 : e_X9_write (xs (i + 1)) (xs (i + 2)) (((xs (i + 3)).toInt64 <<< ((32 : Int32).toInt64 &&& 63)) ||| ((xs (i + 4)).toInt64 &&& (4294967295 : Int64))) σ = some (r, σ1)) (h2 : e_X10_write (xs (i + 1)) (xs (i + 2)) (((xs (i + 3)).toInt64 <<< ((32 : Int32).toInt64 &&& 63)) ||| ((xs (i + 4)).toInt64 &&& (4294967295 : Int64))) σ1 = some (r, σ2)) (K : LW l E b Ln xs 82 c s (mkS σ2) 1366 [(3, .int (nI i)), (2, .ref 69), (1, .ref 0), (0, .ref 2002)] []) : LW l E b Ln xs 82 c s (mkS σ) 1088 [(3, .int (nI i)), (2, .ref 69), (1, .ref 0), (0, .ref 2002)] [] := by
  refine lw_aload_n dL_law_1088 2 rfl ?_
  refine lw_aload_n dL_law_1089 3 rfl ?_
  refine lw_iload_n dL_law_1090 0 rfl ?_
  refine lw_iconst (v := 1) dL_law_1091 (by decide) ?_
  refine lw_iadd dL_law_1092 ?_
  refine lw_ld (i := i + 1) dL_law_1093 (lnI0 i 1) (by omega) hL ?_
  refine lw_aload_n dL_law_1094 3 rfl ?_
  refine lw_iload_n dL_law_1095 0 rfl ?_
  refine lw_iconst (v := 2) dL_law_1096 (by decide) ?_
  refine lw_iadd dL_law_1097 ?_
  refine lw_ld (i := i + 2) dL_law_1098 (lnI0 i 2) (by omega) hL ?_
  refine lw_aload_n dL_law_1099 3 rfl ?_
  refine lw_iload_n dL_law_1100 0 rfl ?_
  refine lw_iconst (v := 3) dL_law_1101 (by decide) ?_
  refine lw_iadd dL_law_1102 ?_
  refine lw_ld (i := i + 3) dL_law_1103 (lnI0 i 3) (by omega) hL ?_
  refine lw_i2l dL_law_1104 ?_
  refine lw_bipush (v := 32) dL_law_1105 (by decide) ?_
  refine lw_lshl dL_law_1107 ?_
  refine lw_aload_n dL_law_1108 3 rfl ?_
  refine lw_iload_n dL_law_1109 0 rfl ?_
  refine lw_iconst (v := 4) dL_law_1110 (by decide) ?_
  refine lw_iadd dL_law_1111 ?_
  refine lw_ld (i := i + 4) dL_law_1112 (lnI0 i 4) (by omega) hL ?_
  refine lw_i2l dL_law_1113 ?_
  refine lw_ldc2 dL_law_1114 wt_981 ?_
  refine lw_land dL_law_1117 ?_
  refine lw_lor dL_law_1118 ?_
  refine lw_call_i (As := [.int (xs (i + 1)), .int (xs (i + 2)), .long (((xs (i + 3)).toInt64 <<< ((32 : Int32).toInt64 &&& 63)) ||| ((xs (i + 4)).toInt64 &&& (4294967295 : Int64)))]) (ci := 8) lkV_RL_136_yX9_write dL_law_1119 (k_X9_write h1) rfl rfl rfl rfl (Nat.le_of_ble_eq_true rfl) (by decide) (by decide) hc hs ?_
  refine lw_aload_n dL_law_1122 1 rfl ?_
  refine lw_aload_n dL_law_1123 3 rfl ?_
  refine lw_iload_n dL_law_1124 0 rfl ?_
  refine lw_iconst (v := 1) dL_law_1125 (by decide) ?_
  refine lw_iadd dL_law_1126 ?_
  refine lw_ld (i := i + 1) dL_law_1127 (lnI0 i 1) (by omega) hL ?_
  refine lw_aload_n dL_law_1128 3 rfl ?_
  refine lw_iload_n dL_law_1129 0 rfl ?_
  refine lw_iconst (v := 2) dL_law_1130 (by decide) ?_
  refine lw_iadd dL_law_1131 ?_
  refine lw_ld (i := i + 2) dL_law_1132 (lnI0 i 2) (by omega) hL ?_
  refine lw_aload_n dL_law_1133 3 rfl ?_
  refine lw_iload_n dL_law_1134 0 rfl ?_
  refine lw_iconst (v := 3) dL_law_1135 (by decide) ?_
  refine lw_iadd dL_law_1136 ?_
  refine lw_ld (i := i + 3) dL_law_1137 (lnI0 i 3) (by omega) hL ?_
  refine lw_i2l dL_law_1138 ?_
  refine lw_bipush (v := 32) dL_law_1139 (by decide) ?_
  refine lw_lshl dL_law_1141 ?_
  refine lw_aload_n dL_law_1142 3 rfl ?_
  refine lw_iload_n dL_law_1143 0 rfl ?_
  refine lw_iconst (v := 4) dL_law_1144 (by decide) ?_
  refine lw_iadd dL_law_1145 ?_
  refine lw_ld (i := i + 4) dL_law_1146 (lnI0 i 4) (by omega) hL ?_
  refine lw_i2l dL_law_1147 ?_
  refine lw_ldc2 dL_law_1148 wt_981 ?_
  refine lw_land dL_law_1151 ?_
  refine lw_lor dL_law_1152 ?_
  refine lw_call_i (As := [.int (xs (i + 1)), .int (xs (i + 2)), .long (((xs (i + 3)).toInt64 <<< ((32 : Int32).toInt64 &&& 63)) ||| ((xs (i + 4)).toInt64 &&& (4294967295 : Int64)))]) (ci := 9) lkV_RL_140_yX10_write dL_law_1153 (k_X10_write h2) rfl rfl rfl rfl (Nat.le_of_ble_eq_true rfl) (by decide) (by decide) hc hs ?_
  exact lw_same_i (tgt := 1366) dL_law_1156 (by decide) K
set_option maxRecDepth 100000 in
set_option maxHeartbeats 4000000 in
theorem lc_29 {l : Launch} {E : MX} {b Ln i c s : Nat} {xs : Nat → Int32} {σ σ1 σ2 : ES} {r : Int64} (hi : i + 6 ≤ Ln) (hL : Ln ≤ 3072) (hc : c ≤ 600000) (hs : s ≤ 7302250) (h1 : e_X9_read (xs (i + 1)) (xs (i + 2)) σ = some (r, σ1)) (h2 : e_X10_read (xs (i + 1)) (xs (i + 2)) σ1 = some (r, σ2)) (K : LW l E b Ln xs 82 c s (mkS σ2) 1366 [(3, .int (nI i)), (2, .ref 69), (1, .ref 0), (0, .ref 2002)] []) : LW l E b Ln xs 82 c s (mkS σ) 1161 [(3, .int (nI i)), (2, .ref 69), (1, .ref 0), (0, .ref 2002)] [] := by
  refine lw_aload_n dL_law_1161 2 rfl ?_
  refine lw_aload_n dL_law_1162 3 rfl ?_
  refine lw_iload_n dL_law_1163 0 rfl ?_
  refine lw_iconst (v := 1) dL_law_1164 (by decide) ?_
  refine lw_iadd dL_law_1165 ?_
  refine lw_ld (i := i + 1) dL_law_1166 (lnI0 i 1) (by omega) hL ?_
  refine lw_aload_n dL_law_1167 3 rfl ?_
  refine lw_iload_n dL_law_1168 0 rfl ?_
  refine lw_iconst (v := 2) dL_law_1169 (by decide) ?_
  refine lw_iadd dL_law_1170 ?_
  refine lw_ld (i := i + 2) dL_law_1171 (lnI0 i 2) (by omega) hL ?_
  refine lw_call_l (As := [.int (xs (i + 1)), .int (xs (i + 2))]) (ci := 8) lkV_RL_141_yX9_read dL_law_1172 (k_X9_read h1) rfl rfl rfl rfl (Nat.le_of_ble_eq_true rfl) (by decide) (by decide) hc hs ?_
  refine lw_aload_n dL_law_1175 1 rfl ?_
  refine lw_aload_n dL_law_1176 3 rfl ?_
  refine lw_iload_n dL_law_1177 0 rfl ?_
  refine lw_iconst (v := 1) dL_law_1178 (by decide) ?_
  refine lw_iadd dL_law_1179 ?_
  refine lw_ld (i := i + 1) dL_law_1180 (lnI0 i 1) (by omega) hL ?_
  refine lw_aload_n dL_law_1181 3 rfl ?_
  refine lw_iload_n dL_law_1182 0 rfl ?_
  refine lw_iconst (v := 2) dL_law_1183 (by decide) ?_
  refine lw_iadd dL_law_1184 ?_
  refine lw_ld (i := i + 2) dL_law_1185 (lnI0 i 2) (by omega) hL ?_
  refine lw_call_l (As := [.int (xs (i + 1)), .int (xs (i + 2))]) (ci := 9) lkV_RL_144_yX10_read dL_law_1186 (k_X10_read h2) rfl rfl rfl rfl (Nat.le_of_ble_eq_true rfl) (by decide) (by decide) hc hs ?_
  exact lw_same_l (tgt := 1366) dL_law_1189 dL_law_1190 (by decide) K
set_option maxRecDepth 100000 in
set_option maxHeartbeats 4000000 in
theorem lc_30 {l : Launch} {E : MX} {b Ln i c s : Nat} {xs : Nat → Int32} {σ σ1 σ2 : ES} {r : Int32} (hi : i + 6 ≤ Ln) (hL : Ln ≤ 3072) (hc : c ≤ 600000) (hs : s ≤ 7302250) (h1 : e_X9_copy (xs (i + 1)) (xs (i + 2)) (xs (i + 3)) (xs (i + 4)) (xs (i + 5)) σ = some (r, σ1)) (h2 : e_X10_copy (xs (i + 1)) (xs (i + 2)) (xs (i + 3)) (xs (i + 4)) (xs (i + 5)) σ1 = some (r, σ2)) (K : LW l E b Ln xs 82 c s (mkS σ2) 1366 [(3, .int (nI i)), (2, .ref 69), (1, .ref 0), (0, .ref 2002)] []) : LW l E b Ln xs 82 c s (mkS σ) 1195 [(3, .int (nI i)), (2, .ref 69), (1, .ref 0), (0, .ref 2002)] [] := by
  refine lw_aload_n dL_law_1195 2 rfl ?_
  refine lw_aload_n dL_law_1196 3 rfl ?_
  refine lw_iload_n dL_law_1197 0 rfl ?_
  refine lw_iconst (v := 1) dL_law_1198 (by decide) ?_
  refine lw_iadd dL_law_1199 ?_
  refine lw_ld (i := i + 1) dL_law_1200 (lnI0 i 1) (by omega) hL ?_
  refine lw_aload_n dL_law_1201 3 rfl ?_
  refine lw_iload_n dL_law_1202 0 rfl ?_
  refine lw_iconst (v := 2) dL_law_1203 (by decide) ?_
  refine lw_iadd dL_law_1204 ?_
  refine lw_ld (i := i + 2) dL_law_1205 (lnI0 i 2) (by omega) hL ?_
  refine lw_aload_n dL_law_1206 3 rfl ?_
  refine lw_iload_n dL_law_1207 0 rfl ?_
  refine lw_iconst (v := 3) dL_law_1208 (by decide) ?_
  refine lw_iadd dL_law_1209 ?_
  refine lw_ld (i := i + 3) dL_law_1210 (lnI0 i 3) (by omega) hL ?_
  refine lw_aload_n dL_law_1211 3 rfl ?_
  refine lw_iload_n dL_law_1212 0 rfl ?_
  refine lw_iconst (v := 4) dL_law_1213 (by decide) ?_
  refine lw_iadd dL_law_1214 ?_
  refine lw_ld (i := i + 4) dL_law_1215 (lnI0 i 4) (by omega) hL ?_
  refine lw_aload_n dL_law_1216 3 rfl ?_
  refine lw_iload_n dL_law_1217 0 rfl ?_
  refine lw_iconst (v := 5) dL_law_1218 (by decide) ?_
  refine lw_iadd dL_law_1219 ?_
  refine lw_ld (i := i + 5) dL_law_1220 (lnI0 i 5) (by omega) hL ?_
  refine lw_call_i (As := [.int (xs (i + 1)), .int (xs (i + 2)), .int (xs (i + 3)), .int (xs (i + 4)), .int (xs (i + 5))]) (ci := 8) lkV_RL_145_yX9_copy dL_law_1221 (k_X9_copy h1) rfl rfl rfl rfl (Nat.le_of_ble_eq_true rfl) (by decide) (by decide) hc hs ?_
  refine lw_aload_n dL_law_1224 1 rfl ?_
  refine lw_aload_n dL_law_1225 3 rfl ?_
  refine lw_iload_n dL_law_1226 0 rfl ?_
  refine lw_iconst (v := 1) dL_law_1227 (by decide) ?_
  refine lw_iadd dL_law_1228 ?_
  refine lw_ld (i := i + 1) dL_law_1229 (lnI0 i 1) (by omega) hL ?_
  refine lw_aload_n dL_law_1230 3 rfl ?_
  refine lw_iload_n dL_law_1231 0 rfl ?_
  refine lw_iconst (v := 2) dL_law_1232 (by decide) ?_
  refine lw_iadd dL_law_1233 ?_
  refine lw_ld (i := i + 2) dL_law_1234 (lnI0 i 2) (by omega) hL ?_
  refine lw_aload_n dL_law_1235 3 rfl ?_
  refine lw_iload_n dL_law_1236 0 rfl ?_
  refine lw_iconst (v := 3) dL_law_1237 (by decide) ?_
  refine lw_iadd dL_law_1238 ?_
  refine lw_ld (i := i + 3) dL_law_1239 (lnI0 i 3) (by omega) hL ?_
  refine lw_aload_n dL_law_1240 3 rfl ?_
  refine lw_iload_n dL_law_1241 0 rfl ?_
  refine lw_iconst (v := 4) dL_law_1242 (by decide) ?_
  refine lw_iadd dL_law_1243 ?_
  refine lw_ld (i := i + 4) dL_law_1244 (lnI0 i 4) (by omega) hL ?_
  refine lw_aload_n dL_law_1245 3 rfl ?_
  refine lw_iload_n dL_law_1246 0 rfl ?_
  refine lw_iconst (v := 5) dL_law_1247 (by decide) ?_
  refine lw_iadd dL_law_1248 ?_
  refine lw_ld (i := i + 5) dL_law_1249 (lnI0 i 5) (by omega) hL ?_
  refine lw_call_i (As := [.int (xs (i + 1)), .int (xs (i + 2)), .int (xs (i + 3)), .int (xs (i + 4)), .int (xs (i + 5))]) (ci := 9) lkV_RL_148_yX10_copy dL_law_1250 (k_X10_copy h2) rfl rfl rfl rfl (Nat.le_of_ble_eq_true rfl) (by decide) (by decide) hc hs ?_
  exact lw_same_i (tgt := 1366) dL_law_1253 (by decide) K
set_option maxRecDepth 100000 in
set_option maxHeartbeats 4000000 in
theorem lc_31 {l : Launch} {E : MX} {b Ln i c s : Nat} {xs : Nat → Int32} {σ σ1 σ2 : ES} {r : Int32} (hi : i + 6 ≤ Ln) (hL : Ln ≤ 3072) (hc : c ≤ 600000) (hs : s ≤ 7302250) (h1 : e_X9_lays (xs (i + 1)) σ = some (r, σ1)) (h2 : e_X10_lays (xs (i + 1)) σ1 = some (r, σ2)) (K : LW l E b Ln xs 82 c s (mkS σ2) 1366 [(3, .int (nI i)), (2, .ref 69), (1, .ref 0), (0, .ref 2002)] []) : LW l E b Ln xs 82 c s (mkS σ) 1258 [(3, .int (nI i)), (2, .ref 69), (1, .ref 0), (0, .ref 2002)] [] := by
  refine lw_aload_n dL_law_1258 2 rfl ?_
  refine lw_aload_n dL_law_1259 3 rfl ?_
  refine lw_iload_n dL_law_1260 0 rfl ?_
  refine lw_iconst (v := 1) dL_law_1261 (by decide) ?_
  refine lw_iadd dL_law_1262 ?_
  refine lw_ld (i := i + 1) dL_law_1263 (lnI0 i 1) (by omega) hL ?_
  refine lw_call_i (As := [.int (xs (i + 1))]) (ci := 8) lkV_RL_149_yX9_lays dL_law_1264 (k_X9_lays h1) rfl rfl rfl rfl (Nat.le_of_ble_eq_true rfl) (by decide) (by decide) hc hs ?_
  refine lw_aload_n dL_law_1267 1 rfl ?_
  refine lw_aload_n dL_law_1268 3 rfl ?_
  refine lw_iload_n dL_law_1269 0 rfl ?_
  refine lw_iconst (v := 1) dL_law_1270 (by decide) ?_
  refine lw_iadd dL_law_1271 ?_
  refine lw_ld (i := i + 1) dL_law_1272 (lnI0 i 1) (by omega) hL ?_
  refine lw_call_i (As := [.int (xs (i + 1))]) (ci := 9) lkV_RL_152_yX10_lays dL_law_1273 (k_X10_lays h2) rfl rfl rfl rfl (Nat.le_of_ble_eq_true rfl) (by decide) (by decide) hc hs ?_
  exact lw_same_i (tgt := 1366) dL_law_1276 (by decide) K
set_option maxRecDepth 100000 in
set_option maxHeartbeats 4000000 in
theorem lc_32 {l : Launch} {E : MX} {b Ln i c s : Nat} {xs : Nat → Int32} {σ σ1 σ2 : ES} {r : Int32} (hi : i + 6 ≤ Ln) (hL : Ln ≤ 3072) (hc : c ≤ 600000) (hs : s ≤ 7302250) (h1 : e_X9_image σ = some (r, σ1)) (h2 : e_X10_image σ1 = some (r, σ2)) (K : LW l E b Ln xs 82 c s (mkS σ2) 1366 [(3, .int (nI i)), (2, .ref 69), (1, .ref 0), (0, .ref 2002)] []) : LW l E b Ln xs 82 c s (mkS σ) 1281 [(3, .int (nI i)), (2, .ref 69), (1, .ref 0), (0, .ref 2002)] [] := by
  refine lw_aload_n dL_law_1281 2 rfl ?_
  refine lw_call_i (As := []) (ci := 8) lkV_RL_153_yX9_image dL_law_1282 (k_X9_image h1) rfl rfl rfl rfl (Nat.le_of_ble_eq_true rfl) (by decide) (by decide) hc hs ?_
  refine lw_aload_n dL_law_1285 1 rfl ?_
  refine lw_call_i (As := []) (ci := 9) lkV_RL_156_yX10_image dL_law_1286 (k_X10_image h2) rfl rfl rfl rfl (Nat.le_of_ble_eq_true rfl) (by decide) (by decide) hc hs ?_
  exact lw_same_i (tgt := 1366) dL_law_1289 (by decide) K
set_option maxRecDepth 100000 in
set_option maxHeartbeats 4000000 in
theorem lc_33 {l : Launch} {E : MX} {b Ln i c s : Nat} {xs : Nat → Int32} {σ σ1 σ2 : ES} {r : Int32} (hi : i + 6 ≤ Ln) (hL : Ln ≤ 3072) (hc : c ≤ 600000) (hs : s ≤ 7302250) (h1 : e_X9_undo σ = some (r, σ1)) (h2 : e_X10_undo σ1 = some (r, σ2)) (K : LW l E b Ln xs 82 c s (mkS σ2) 1366 [(3, .int (nI i)), (2, .ref 69), (1, .ref 0), (0, .ref 2002)] []) : LW l E b Ln xs 82 c s (mkS σ) 1294 [(3, .int (nI i)), (2, .ref 69), (1, .ref 0), (0, .ref 2002)] [] := by
  refine lw_aload_n dL_law_1294 2 rfl ?_
  refine lw_call_i (As := []) (ci := 8) lkV_RL_157_yX9_undo dL_law_1295 (k_X9_undo h1) rfl rfl rfl rfl (Nat.le_of_ble_eq_true rfl) (by decide) (by decide) hc hs ?_
  refine lw_aload_n dL_law_1298 1 rfl ?_
  refine lw_call_i (As := []) (ci := 9) lkV_RL_160_yX10_undo dL_law_1299 (k_X10_undo h2) rfl rfl rfl rfl (Nat.le_of_ble_eq_true rfl) (by decide) (by decide) hc hs ?_
  exact lw_same_i (tgt := 1366) dL_law_1302 (by decide) K
set_option maxRecDepth 100000 in
set_option maxHeartbeats 4000000 in
theorem lc_34 {l : Launch} {E : MX} {b Ln i c s : Nat} {xs : Nat → Int32} {σ σ1 σ2 : ES} {r : Int32} (hi : i + 6 ≤ Ln) (hL : Ln ≤ 3072) (hc : c ≤ 600000) (hs : s ≤ 7302250) (h1 : e_X9_tear σ = some (r, σ1)) (h2 : e_X10_tear σ1 = some (r, σ2)) (K : LW l E b Ln xs 82 c s (mkS σ2) 1366 [(3, .int (nI i)), (2, .ref 69), (1, .ref 0), (0, .ref 2002)] []) : LW l E b Ln xs 82 c s (mkS σ) 1307 [(3, .int (nI i)), (2, .ref 69), (1, .ref 0), (0, .ref 2002)] [] := by
  refine lw_aload_n dL_law_1307 2 rfl ?_
  refine lw_call_i (As := []) (ci := 8) lkV_RL_161_yX9_tear dL_law_1308 (k_X9_tear h1) rfl rfl rfl rfl (Nat.le_of_ble_eq_true rfl) (by decide) (by decide) hc hs ?_
  refine lw_aload_n dL_law_1311 1 rfl ?_
  refine lw_call_i (As := []) (ci := 9) lkV_RL_164_yX10_tear dL_law_1312 (k_X10_tear h2) rfl rfl rfl rfl (Nat.le_of_ble_eq_true rfl) (by decide) (by decide) hc hs ?_
  exact lw_same_i (tgt := 1366) dL_law_1315 (by decide) K
set_option maxRecDepth 100000 in
set_option maxHeartbeats 4000000 in
theorem lc_35 {l : Launch} {E : MX} {b Ln i c s : Nat} {xs : Nat → Int32} {σ σ1 σ2 : ES} {r : Int32} (hi : i + 6 ≤ Ln) (hL : Ln ≤ 3072) (hc : c ≤ 600000) (hs : s ≤ 7302250) (h1 : e_X9_count (xs (i + 1)) σ = some (r, σ1)) (h2 : e_X10_count (xs (i + 1)) σ1 = some (r, σ2)) (K : LW l E b Ln xs 82 c s (mkS σ2) 1366 [(3, .int (nI i)), (2, .ref 69), (1, .ref 0), (0, .ref 2002)] []) : LW l E b Ln xs 82 c s (mkS σ) 1320 [(3, .int (nI i)), (2, .ref 69), (1, .ref 0), (0, .ref 2002)] [] := by
  refine lw_aload_n dL_law_1320 2 rfl ?_
  refine lw_aload_n dL_law_1321 3 rfl ?_
  refine lw_iload_n dL_law_1322 0 rfl ?_
  refine lw_iconst (v := 1) dL_law_1323 (by decide) ?_
  refine lw_iadd dL_law_1324 ?_
  refine lw_ld (i := i + 1) dL_law_1325 (lnI0 i 1) (by omega) hL ?_
  refine lw_call_i (As := [.int (xs (i + 1))]) (ci := 8) lkV_RL_165_yX9_count dL_law_1326 (k_X9_count h1) rfl rfl rfl rfl (Nat.le_of_ble_eq_true rfl) (by decide) (by decide) hc hs ?_
  refine lw_aload_n dL_law_1329 1 rfl ?_
  refine lw_aload_n dL_law_1330 3 rfl ?_
  refine lw_iload_n dL_law_1331 0 rfl ?_
  refine lw_iconst (v := 1) dL_law_1332 (by decide) ?_
  refine lw_iadd dL_law_1333 ?_
  refine lw_ld (i := i + 1) dL_law_1334 (lnI0 i 1) (by omega) hL ?_
  refine lw_call_i (As := [.int (xs (i + 1))]) (ci := 9) lkV_RL_168_yX10_count dL_law_1335 (k_X10_count h2) rfl rfl rfl rfl (Nat.le_of_ble_eq_true rfl) (by decide) (by decide) hc hs ?_
  exact lw_same_i (tgt := 1366) dL_law_1338 (by decide) K
set_option maxRecDepth 100000 in
set_option maxHeartbeats 4000000 in
theorem lc_36 {l : Launch} {E : MX} {b Ln i c s : Nat} {xs : Nat → Int32} {σ σ1 σ2 : ES} {r : Int32} (hi : i + 6 ≤ Ln) (hL : Ln ≤ 3072) (hc : c ≤ 600000) (hs : s ≤ 7302250) (h1 : e_X9_status (xs (i + 1)) σ = some (r, σ1)) (h2 : e_X10_status (xs (i + 1)) σ1 = some (r, σ2)) (K : LW l E b Ln xs 82 c s (mkS σ2) 1366 [(3, .int (nI i)), (2, .ref 69), (1, .ref 0), (0, .ref 2002)] []) : LW l E b Ln xs 82 c s (mkS σ) 1343 [(3, .int (nI i)), (2, .ref 69), (1, .ref 0), (0, .ref 2002)] [] := by
  refine lw_aload_n dL_law_1343 2 rfl ?_
  refine lw_aload_n dL_law_1344 3 rfl ?_
  refine lw_iload_n dL_law_1345 0 rfl ?_
  refine lw_iconst (v := 1) dL_law_1346 (by decide) ?_
  refine lw_iadd dL_law_1347 ?_
  refine lw_ld (i := i + 1) dL_law_1348 (lnI0 i 1) (by omega) hL ?_
  refine lw_call_i (As := [.int (xs (i + 1))]) (ci := 8) lkV_RL_169_yX9_status dL_law_1349 (k_X9_status h1) rfl rfl rfl rfl (Nat.le_of_ble_eq_true rfl) (by decide) (by decide) hc hs ?_
  refine lw_aload_n dL_law_1352 1 rfl ?_
  refine lw_aload_n dL_law_1353 3 rfl ?_
  refine lw_iload_n dL_law_1354 0 rfl ?_
  refine lw_iconst (v := 1) dL_law_1355 (by decide) ?_
  refine lw_iadd dL_law_1356 ?_
  refine lw_ld (i := i + 1) dL_law_1357 (lnI0 i 1) (by omega) hL ?_
  refine lw_call_i (As := [.int (xs (i + 1))]) (ci := 9) lkV_RL_172_yX10_status dL_law_1358 (k_X10_status h2) rfl rfl rfl rfl (Nat.le_of_ble_eq_true rfl) (by decide) (by decide) hc hs ?_
  exact lw_same_i (tgt := 1366) dL_law_1361 (by decide) K
