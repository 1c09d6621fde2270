theorem dL_law_1065 : decode code 1065 = .ok (.aload_n 0, 1) := by decide +kernel
theorem dL_law_1066 : decode code 1066 = .ok (.iload_n 3, 1) := by decide +kernel
theorem dL_law_1067 : decode code 1067 = .ok (.iconst 1, 1) := by decide +kernel
theorem dL_law_1068 : decode code 1068 = .ok (.iadd, 1) := by decide +kernel
theorem dL_law_1069 : decode code 1069 = .ok (.iaload, 1) := by decide +kernel
theorem dL_law_1070 : decode code 1070 = .ok (.aload_n 0, 1) := by decide +kernel
theorem dL_law_1071 : decode code 1071 = .ok (.iload_n 3, 1) := by decide +kernel
theorem dL_law_1072 : decode code 1072 = .ok (.iconst 2, 1) := by decide +kernel
theorem dL_law_1073 : decode code 1073 = .ok (.iadd, 1) := by decide +kernel
theorem dL_law_1074 : decode code 1074 = .ok (.iaload, 1) := by decide +kernel
theorem dL_law_1075 : decode code 1075 = .ok (.aload_n 0, 1) := by decide +kernel
theorem dL_law_1076 : decode code 1076 = .ok (.iload_n 3, 1) := by decide +kernel
theorem dL_law_1077 : decode code 1077 = .ok (.iconst 3, 1) := by decide +kernel
theorem dL_law_1078 : decode code 1078 = .ok (.iadd, 1) := by decide +kernel
theorem dL_law_1079 : decode code 1079 = .ok (.iaload, 1) := by decide +kernel
theorem dL_law_1080 : decode code 1080 = .ok (.invokevirtual 135, 3) := by decide +kernel
theorem dL_law_1083 : decode code 1083 = .ok (.if_icmp .eq 283, 3) := by decide +kernel
theorem dL_law_1086 : decode code 1086 = .ok (.iconst 0, 1) := by decide +kernel
theorem dL_law_1087 : decode code 1087 = .ok (.ireturn, 1) := by decide +kernel
theorem dL_law_1088 : decode code 1088 = .ok (.aload_n 1, 1) := by decide +kernel
theorem dL_law_1089 : decode code 1089 = .ok (.aload_n 0, 1) := by decide +kernel
theorem dL_law_1090 : decode code 1090 = .ok (.iload_n 3, 1) := by decide +kernel
theorem dL_law_1091 : decode code 1091 = .ok (.iconst 1, 1) := by decide +kernel
theorem dL_law_1092 : decode code 1092 = .ok (.iadd, 1) := by decide +kernel
theorem dL_law_1093 : decode code 1093 = .ok (.iaload, 1) := by decide +kernel
theorem dL_law_1094 : decode code 1094 = .ok (.aload_n 0, 1) := by decide +kernel
theorem dL_law_1095 : decode code 1095 = .ok (.iload_n 3, 1) := by decide +kernel
theorem dL_law_1096 : decode code 1096 = .ok (.iconst 2, 1) := by decide +kernel
theorem dL_law_1097 : decode code 1097 = .ok (.iadd, 1) := by decide +kernel
theorem dL_law_1098 : decode code 1098 = .ok (.iaload, 1) := by decide +kernel
theorem dL_law_1099 : decode code 1099 = .ok (.aload_n 0, 1) := by decide +kernel
theorem dL_law_1100 : decode code 1100 = .ok (.iload_n 3, 1) := by decide +kernel
theorem dL_law_1101 : decode code 1101 = .ok (.iconst 3, 1) := by decide +kernel
theorem dL_law_1102 : decode code 1102 = .ok (.iadd, 1) := by decide +kernel
theorem dL_law_1103 : decode code 1103 = .ok (.iaload, 1) := by decide +kernel
theorem dL_law_1104 : decode code 1104 = .ok (.i2l, 1) := by decide +kernel
theorem dL_law_1105 : decode code 1105 = .ok (.bipush 32, 2) := by decide +kernel
theorem dL_law_1107 : decode code 1107 = .ok (.lshl, 1) := by decide +kernel
theorem dL_law_1108 : decode code 1108 = .ok (.aload_n 0, 1) := by decide +kernel
theorem dL_law_1109 : decode code 1109 = .ok (.iload_n 3, 1) := by decide +kernel
theorem dL_law_1110 : decode code 1110 = .ok (.iconst 4, 1) := by decide +kernel
theorem dL_law_1111 : decode code 1111 = .ok (.iadd, 1) := by decide +kernel
theorem dL_law_1112 : decode code 1112 = .ok (.iaload, 1) := by decide +kernel
theorem dL_law_1113 : decode code 1113 = .ok (.i2l, 1) := by decide +kernel
theorem dL_law_1114 : decode code 1114 = .ok (.ldc2_w 68, 3) := by decide +kernel
theorem dL_law_1117 : decode code 1117 = .ok (.land, 1) := by decide +kernel
theorem dL_law_1118 : decode code 1118 = .ok (.lor, 1) := by decide +kernel
theorem dL_law_1119 : decode code 1119 = .ok (.invokevirtual 136, 3) := by decide +kernel
theorem dL_law_1122 : decode code 1122 = .ok (.aload_n 2, 1) := by decide +kernel
theorem dL_law_1123 : decode code 1123 = .ok (.aload_n 0, 1) := by decide +kernel
theorem dL_law_1124 : decode code 1124 = .ok (.iload_n 3, 1) := by decide +kernel
theorem dL_law_1125 : decode code 1125 = .ok (.iconst 1, 1) := by decide +kernel
theorem dL_law_1126 : decode code 1126 = .ok (.iadd, 1) := by decide +kernel
theorem dL_law_1127 : decode code 1127 = .ok (.iaload, 1) := by decide +kernel
theorem dL_law_1128 : decode code 1128 = .ok (.aload_n 0, 1) := by decide +kernel
theorem dL_law_1129 : decode code 1129 = .ok (.iload_n 3, 1) := by decide +kernel
theorem dL_law_1130 : decode code 1130 = .ok (.iconst 2, 1) := by decide +kernel
theorem dL_law_1131 : decode code 1131 = .ok (.iadd, 1) := by decide +kernel
theorem dL_law_1132 : decode code 1132 = .ok (.iaload, 1) := by decide +kernel
theorem dL_law_1133 : decode code 1133 = .ok (.aload_n 0, 1) := by decide +kernel
theorem dL_law_1134 : decode code 1134 = .ok (.iload_n 3, 1) := by decide +kernel
theorem dL_law_1135 : decode code 1135 = .ok (.iconst 3, 1) := by decide +kernel
theorem dL_law_1136 : decode code 1136 = .ok (.iadd, 1) := by decide +kernel
theorem dL_law_1137 : decode code 1137 = .ok (.iaload, 1) := by decide +kernel
theorem dL_law_1138 : decode code 1138 = .ok (.i2l, 1) := by decide +kernel
theorem dL_law_1139 : decode code 1139 = .ok (.bipush 32, 2) := by decide +kernel
theorem dL_law_1141 : decode code 1141 = .ok (.lshl, 1) := by decide +kernel
theorem dL_law_1142 : decode code 1142 = .ok (.aload_n 0, 1) := by decide +kernel
theorem dL_law_1143 : decode code 1143 = .ok (.iload_n 3, 1) := by decide +kernel
theorem dL_law_1144 : decode code 1144 = .ok (.iconst 4, 1) := by decide +kernel
theorem dL_law_1145 : decode code 1145 = .ok (.iadd, 1) := by decide +kernel
theorem dL_law_1146 : decode code 1146 = .ok (.iaload, 1) := by decide +kernel
theorem dL_law_1147 : decode code 1147 = .ok (.i2l, 1) := by decide +kernel
theorem dL_law_1148 : decode code 1148 = .ok (.ldc2_w 68, 3) := by decide +kernel
theorem dL_law_1151 : decode code 1151 = .ok (.land, 1) := by decide +kernel
theorem dL_law_1152 : decode code 1152 = .ok (.lor, 1) := by decide +kernel
theorem dL_law_1153 : decode code 1153 = .ok (.invokevirtual 140, 3) := by decide +kernel
theorem dL_law_1156 : decode code 1156 = .ok (.if_icmp .eq 210, 3) := by decide +kernel
theorem dL_law_1159 : decode code 1159 = .ok (.iconst 0, 1) := by decide +kernel
theorem dL_law_1160 : decode code 1160 = .ok (.ireturn, 1) := by decide +kernel
theorem dL_law_1161 : decode code 1161 = .ok (.aload_n 1, 1) := by decide +kernel
theorem dL_law_1162 : decode code 1162 = .ok (.aload_n 0, 1) := by decide +kernel
theorem dL_law_1163 : decode code 1163 = .ok (.iload_n 3, 1) := by decide +kernel
theorem dL_law_1164 : decode code 1164 = .ok (.iconst 1, 1) := by decide +kernel
theorem dL_law_1165 : decode code 1165 = .ok (.iadd, 1) := by decide +kernel
theorem dL_law_1166 : decode code 1166 = .ok (.iaload, 1) := by decide +kernel
theorem dL_law_1167 : decode code 1167 = .ok (.aload_n 0, 1) := by decide +kernel
theorem dL_law_1168 : decode code 1168 = .ok (.iload_n 3, 1) := by decide +kernel
theorem dL_law_1169 : decode code 1169 = .ok (.iconst 2, 1) := by decide +kernel
theorem dL_law_1170 : decode code 1170 = .ok (.iadd, 1) := by decide +kernel
theorem dL_law_1171 : decode code 1171 = .ok (.iaload, 1) := by decide +kernel
theorem dL_law_1172 : decode code 1172 = .ok (.invokevirtual 141, 3) := by decide +kernel
theorem dL_law_1175 : decode code 1175 = .ok (.aload_n 2, 1) := by decide +kernel
theorem dL_law_1176 : decode code 1176 = .ok (.aload_n 0, 1) := by decide +kernel
theorem dL_law_1177 : decode code 1177 = .ok (.iload_n 3, 1) := by decide +kernel
theorem dL_law_1178 : decode code 1178 = .ok (.iconst 1, 1) := by decide +kernel
theorem dL_law_1179 : decode code 1179 = .ok (.iadd, 1) := by decide +kernel
theorem dL_law_1180 : decode code 1180 = .ok (.iaload, 1) := by decide +kernel
theorem dL_law_1181 : decode code 1181 = .ok (.aload_n 0, 1) := by decide +kernel
theorem dL_law_1182 : decode code 1182 = .ok (.iload_n 3, 1) := by decide +kernel
theorem dL_law_1183 : decode code 1183 = .ok (.iconst 2, 1) := by decide +kernel
theorem dL_law_1184 : decode code 1184 = .ok (.iadd, 1) := by decide +kernel
theorem dL_law_1185 : decode code 1185 = .ok (.iaload, 1) := by decide +kernel
theorem dL_law_1186 : decode code 1186 = .ok (.invokevirtual 144, 3) := by decide +kernel
theorem dL_law_1189 : decode code 1189 = .ok (.lcmp, 1) := by decide +kernel
theorem dL_law_1190 : decode code 1190 = .ok (.ifCond .eq 176, 3) := by decide +kernel
theorem dL_law_1193 : decode code 1193 = .ok (.iconst 0, 1) := by decide +kernel
theorem dL_law_1194 : decode code 1194 = .ok (.ireturn, 1) := by decide +kernel
theorem dL_law_1195 : decode code 1195 = .ok (.aload_n 1, 1) := by decide +kernel
theorem dL_law_1196 : decode code 1196 = .ok (.aload_n 0, 1) := by decide +kernel
theorem dL_law_1197 : decode code 1197 = .ok (.iload_n 3, 1) := by decide +kernel
theorem dL_law_1198 : decode code 1198 = .ok (.iconst 1, 1) := by decide +kernel
theorem dL_law_1199 : decode code 1199 = .ok (.iadd, 1) := by decide +kernel
theorem dL_law_1200 : decode code 1200 = .ok (.iaload, 1) := by decide +kernel
theorem dL_law_1201 : decode code 1201 = .ok (.aload_n 0, 1) := by decide +kernel
theorem dL_law_1202 : decode code 1202 = .ok (.iload_n 3, 1) := by decide +kernel
theorem dL_law_1203 : decode code 1203 = .ok (.iconst 2, 1) := by decide +kernel
theorem dL_law_1204 : decode code 1204 = .ok (.iadd, 1) := by decide +kernel
theorem dL_law_1205 : decode code 1205 = .ok (.iaload, 1) := by decide +kernel
theorem dL_law_1206 : decode code 1206 = .ok (.aload_n 0, 1) := by decide +kernel
theorem dL_law_1207 : decode code 1207 = .ok (.iload_n 3, 1) := by decide +kernel
theorem dL_law_1208 : decode code 1208 = .ok (.iconst 3, 1) := by decide +kernel
theorem dL_law_1209 : decode code 1209 = .ok (.iadd, 1) := by decide +kernel
theorem dL_law_1210 : decode code 1210 = .ok (.iaload, 1) := by decide +kernel
theorem dL_law_1211 : decode code 1211 = .ok (.aload_n 0, 1) := by decide +kernel
theorem dL_law_1212 : decode code 1212 = .ok (.iload_n 3, 1) := by decide +kernel
theorem dL_law_1213 : decode code 1213 = .ok (.iconst 4, 1) := by decide +kernel
theorem dL_law_1214 : decode code 1214 = .ok (.iadd, 1) := by decide +kernel
theorem dL_law_1215 : decode code 1215 = .ok (.iaload, 1) := by decide +kernel
theorem dL_law_1216 : decode code 1216 = .ok (.aload_n 0, 1) := by decide +kernel
theorem dL_law_1217 : decode code 1217 = .ok (.iload_n 3, 1) := by decide +kernel
theorem dL_law_1218 : decode code 1218 = .ok (.iconst 5, 1) := by decide +kernel
theorem dL_law_1219 : decode code 1219 = .ok (.iadd, 1) := by decide +kernel
theorem dL_law_1220 : decode code 1220 = .ok (.iaload, 1) := by decide +kernel
theorem dL_law_1221 : decode code 1221 = .ok (.invokevirtual 145, 3) := by decide +kernel
theorem dL_law_1224 : decode code 1224 = .ok (.aload_n 2, 1) := by decide +kernel
theorem dL_law_1225 : decode code 1225 = .ok (.aload_n 0, 1) := by decide +kernel
theorem dL_law_1226 : decode code 1226 = .ok (.iload_n 3, 1) := by decide +kernel
theorem dL_law_1227 : decode code 1227 = .ok (.iconst 1, 1) := by decide +kernel
theorem dL_law_1228 : decode code 1228 = .ok (.iadd, 1) := by decide +kernel
theorem dL_law_1229 : decode code 1229 = .ok (.iaload, 1) := by decide +kernel
theorem dL_law_1230 : decode code 1230 = .ok (.aload_n 0, 1) := by decide +kernel
theorem dL_law_1231 : decode code 1231 = .ok (.iload_n 3, 1) := by decide +kernel
theorem dL_law_1232 : decode code 1232 = .ok (.iconst 2, 1) := by decide +kernel
theorem dL_law_1233 : decode code 1233 = .ok (.iadd, 1) := by decide +kernel
theorem dL_law_1234 : decode code 1234 = .ok (.iaload, 1) := by decide +kernel
theorem dL_law_1235 : decode code 1235 = .ok (.aload_n 0, 1) := by decide +kernel
theorem dL_law_1236 : decode code 1236 = .ok (.iload_n 3, 1) := by decide +kernel
theorem dL_law_1237 : decode code 1237 = .ok (.iconst 3, 1) := by decide +kernel
theorem dL_law_1238 : decode code 1238 = .ok (.iadd, 1) := by decide +kernel
theorem dL_law_1239 : decode code 1239 = .ok (.iaload, 1) := by decide +kernel
theorem dL_law_1240 : decode code 1240 = .ok (.aload_n 0, 1) := by decide +kernel
theorem dL_law_1241 : decode code 1241 = .ok (.iload_n 3, 1) := by decide +kernel
theorem dL_law_1242 : decode code 1242 = .ok (.iconst 4, 1) := by decide +kernel
theorem dL_law_1243 : decode code 1243 = .ok (.iadd, 1) := by decide +kernel
theorem dL_law_1244 : decode code 1244 = .ok (.iaload, 1) := by decide +kernel
theorem dL_law_1245 : decode code 1245 = .ok (.aload_n 0, 1) := by decide +kernel
theorem dL_law_1246 : decode code 1246 = .ok (.iload_n 3, 1) := by decide +kernel
theorem dL_law_1247 : decode code 1247 = .ok (.iconst 5, 1) := by decide +kernel
theorem dL_law_1248 : decode code 1248 = .ok (.iadd, 1) := by decide +kernel
theorem dL_law_1249 : decode code 1249 = .ok (.iaload, 1) := by decide +kernel
theorem dL_law_1250 : decode code 1250 = .ok (.invokevirtual 148, 3) := by decide +kernel
theorem dL_law_1253 : decode code 1253 = .ok (.if_icmp .eq 113, 3) := by decide +kernel
theorem dL_law_1256 : decode code 1256 = .ok (.iconst 0, 1) := by decide +kernel
theorem dL_law_1257 : decode code 1257 = .ok (.ireturn, 1) := by decide +kernel
theorem dL_law_1258 : decode code 1258 = .ok (.aload_n 1, 1) := by decide +kernel
theorem dL_law_1259 : decode code 1259 = .ok (.aload_n 0, 1) := by decide +kernel
theorem dL_law_1260 : decode code 1260 = .ok (.iload_n 3, 1) := by decide +kernel
theorem dL_law_1261 : decode code 1261 = .ok (.iconst 1, 1) := by decide +kernel
theorem dL_law_1262 : decode code 1262 = .ok (.iadd, 1) := by decide +kernel
theorem dL_law_1263 : decode code 1263 = .ok (.iaload, 1) := by decide +kernel
theorem dL_law_1264 : decode code 1264 = .ok (.invokevirtual 149, 3) := by decide +kernel
theorem dL_law_1267 : decode code 1267 = .ok (.aload_n 2, 1) := by decide +kernel
theorem dL_law_1268 : decode code 1268 = .ok (.aload_n 0, 1) := by decide +kernel
theorem dL_law_1269 : decode code 1269 = .ok (.iload_n 3, 1) := by decide +kernel
theorem dL_law_1270 : decode code 1270 = .ok (.iconst 1, 1) := by decide +kernel
theorem dL_law_1271 : decode code 1271 = .ok (.iadd, 1) := by decide +kernel
theorem dL_law_1272 : decode code 1272 = .ok (.iaload, 1) := by decide +kernel
theorem dL_law_1273 : decode code 1273 = .ok (.invokevirtual 152, 3) := by decide +kernel
theorem dL_law_1276 : decode code 1276 = .ok (.if_icmp .eq 90, 3) := by decide +kernel
theorem dL_law_1279 : decode code 1279 = .ok (.iconst 0, 1) := by decide +kernel
theorem dL_law_1280 : decode code 1280 = .ok (.ireturn, 1) := by decide +kernel
theorem dL_law_1281 : decode code 1281 = .ok (.aload_n 1, 1) := by decide +kernel
theorem dL_law_1282 : decode code 1282 = .ok (.invokevirtual 153, 3) := by decide +kernel
theorem dL_law_1285 : decode code 1285 = .ok (.aload_n 2, 1) := by decide +kernel
theorem dL_law_1286 : decode code 1286 = .ok (.invokevirtual 156, 3) := by decide +kernel
theorem dL_law_1289 : decode code 1289 = .ok (.if_icmp .eq 77, 3) := by decide +kernel
theorem dL_law_1292 : decode code 1292 = .ok (.iconst 0, 1) := by decide +kernel
theorem dL_law_1293 : decode code 1293 = .ok (.ireturn, 1) := by decide +kernel
theorem dL_law_1294 : decode code 1294 = .ok (.aload_n 1, 1) := by decide +kernel
theorem dL_law_1295 : decode code 1295 = .ok (.invokevirtual 157, 3) := by decide +kernel
theorem dL_law_1298 : decode code 1298 = .ok (.aload_n 2, 1) := by decide +kernel
theorem dL_law_1299 : decode code 1299 = .ok (.invokevirtual 160, 3) := by decide +kernel
theorem dL_law_1302 : decode code 1302 = .ok (.if_icmp .eq 64, 3) := by decide +kernel
theorem dL_law_1305 : decode code 1305 = .ok (.iconst 0, 1) := by decide +kernel
theorem dL_law_1306 : decode code 1306 = .ok (.ireturn, 1) := by decide +kernel
theorem dL_law_1307 : decode code 1307 = .ok (.aload_n 1, 1) := by decide +kernel
theorem dL_law_1308 : decode code 1308 = .ok (.invokevirtual 161, 3) := by decide +kernel
theorem dL_law_1311 : decode code 1311 = .ok (.aload_n 2, 1) := by decide +kernel
theorem dL_law_1312 : decode code 1312 = .ok (.invokevirtual 164, 3) := by decide +kernel
theorem dL_law_1315 : decode code 1315 = .ok (.if_icmp .eq 51, 3) := by decide +kernel
theorem dL_law_1318 : decode code 1318 = .ok (.iconst 0, 1) := by decide +kernel
theorem dL_law_1319 : decode code 1319 = .ok (.ireturn, 1) := by decide +kernel
theorem dL_law_1320 : decode code 1320 = .ok (.aload_n 1, 1) := by decide +kernel
theorem dL_law_1321 : decode code 1321 = .ok (.aload_n 0, 1) := by decide +kernel
theorem dL_law_1322 : decode code 1322 = .ok (.iload_n 3, 1) := by decide +kernel
theorem dL_law_1323 : decode code 1323 = .ok (.iconst 1, 1) := by decide +kernel
theorem dL_law_1324 : decode code 1324 = .ok (.iadd, 1) := by decide +kernel
theorem dL_law_1325 : decode code 1325 = .ok (.iaload, 1) := by decide +kernel
theorem dL_law_1326 : decode code 1326 = .ok (.invokevirtual 165, 3) := by decide +kernel
theorem dL_law_1329 : decode code 1329 = .ok (.aload_n 2, 1) := by decide +kernel
theorem dL_law_1330 : decode code 1330 = .ok (.aload_n 0, 1) := by decide +kernel
theorem dL_law_1331 : decode code 1331 = .ok (.iload_n 3, 1) := by decide +kernel
theorem dL_law_1332 : decode code 1332 = .ok (.iconst 1, 1) := by decide +kernel
theorem dL_law_1333 : decode code 1333 = .ok (.iadd, 1) := by decide +kernel
theorem dL_law_1334 : decode code 1334 = .ok (.iaload, 1) := by decide +kernel
theorem dL_law_1335 : decode code 1335 = .ok (.invokevirtual 168, 3) := by decide +kernel
theorem dL_law_1338 : decode code 1338 = .ok (.if_icmp .eq 28, 3) := by decide +kernel
theorem dL_law_1341 : decode code 1341 = .ok (.iconst 0, 1) := by decide +kernel
theorem dL_law_1342 : decode code 1342 = .ok (.ireturn, 1) := by decide +kernel
theorem dL_law_1343 : decode code 1343 = .ok (.aload_n 1, 1) := by decide +kernel
theorem dL_law_1344 : decode code 1344 = .ok (.aload_n 0, 1) := by decide +kernel
theorem dL_law_1345 : decode code 1345 = .ok (.iload_n 3, 1) := by decide +kernel
theorem dL_law_1346 : decode code 1346 = .ok (.iconst 1, 1) := by decide +kernel
theorem dL_law_1347 : decode code 1347 = .ok (.iadd, 1) := by decide +kernel
theorem dL_law_1348 : decode code 1348 = .ok (.iaload, 1) := by decide +kernel
theorem dL_law_1349 : decode code 1349 = .ok (.invokevirtual 169, 3) := by decide +kernel
theorem dL_law_1352 : decode code 1352 = .ok (.aload_n 2, 1) := by decide +kernel
theorem dL_law_1353 : decode code 1353 = .ok (.aload_n 0, 1) := by decide +kernel
theorem dL_law_1354 : decode code 1354 = .ok (.iload_n 3, 1) := by decide +kernel
theorem dL_law_1355 : decode code 1355 = .ok (.iconst 1, 1) := by decide +kernel
theorem dL_law_1356 : decode code 1356 = .ok (.iadd, 1) := by decide +kernel
theorem dL_law_1357 : decode code 1357 = .ok (.iaload, 1) := by decide +kernel
theorem dL_law_1358 : decode code 1358 = .ok (.invokevirtual 172, 3) := by decide +kernel
theorem dL_law_1361 : decode code 1361 = .ok (.if_icmp .eq 5, 3) := by decide +kernel
theorem dL_law_1364 : decode code 1364 = .ok (.iconst 0, 1) := by decide +kernel
theorem dL_law_1365 : decode code 1365 = .ok (.ireturn, 1) := by decide +kernel
theorem dL_law_1366 : decode code 1366 = .ok (.iinc 3 6, 3) := by decide +kernel
theorem dL_law_1369 : decode code 1369 = .ok (.goto (-1351), 3) := by decide +kernel
theorem dL_law_1372 : decode code 1372 = .ok (.iconst 1, 1) := by decide +kernel
theorem dL_law_1373 : decode code 1373 = .ok (.ireturn, 1) := by decide +kernel
