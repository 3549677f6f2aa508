theorem kw_69 : (.initialized RL : Cond) ∈ GW := gw_of 69 (by decide +kernel) rfl
theorem kw_96 : (.classLink RL 8 RX5 : Cond) ∈ GW := gw_of 96 (by decide +kernel) rfl
theorem kw_97 : (.instantiable RX5 8 : Cond) ∈ GW := gw_of 97 (by decide +kernel) rfl
theorem kw_98 : (.methodLink RL 135 yX5_init : Cond) ∈ GW := gw_of 98 (by decide +kernel) rfl
theorem kw_99 : (.instanceMethod yX5_init : Cond) ∈ GW := gw_of 99 (by decide +kernel) rfl
theorem kw_100 : (.code yX5_init cX5_init 2 none : Cond) ∈ GW := gw_of 100 (by decide +kernel) rfl
theorem kw_399 : (.methodLink RL 139 yX5_append : Cond) ∈ GW := gw_of 399 (by decide +kernel) rfl
theorem kw_400 : (.instanceMethod yX5_append : Cond) ∈ GW := gw_of 400 (by decide +kernel) rfl
theorem kw_401 : (.selects RX5 yX5_append yX5_append : Cond) ∈ GW := gw_of 401 (by decide +kernel) rfl
theorem kw_402 : (.code yX5_append cX5_append 6 (some .int) : Cond) ∈ GW := gw_of 402 (by decide +kernel) rfl
theorem kw_407 : (.methodLink RL 153 yX5_load : Cond) ∈ GW := gw_of 407 (by decide +kernel) rfl
theorem kw_408 : (.instanceMethod yX5_load : Cond) ∈ GW := gw_of 408 (by decide +kernel) rfl
theorem kw_409 : (.selects RX5 yX5_load yX5_load : Cond) ∈ GW := gw_of 409 (by decide +kernel) rfl
theorem kw_410 : (.code yX5_load cX5_load 1 (some .int) : Cond) ∈ GW := gw_of 410 (by decide +kernel) rfl
theorem kw_1020 : (.methodLink RL 157 yX5_play : Cond) ∈ GW := gw_of 1020 (by decide +kernel) rfl
theorem kw_1021 : (.instanceMethod yX5_play : Cond) ∈ GW := gw_of 1021 (by decide +kernel) rfl
theorem kw_1022 : (.selects RX5 yX5_play yX5_play : Cond) ∈ GW := gw_of 1022 (by decide +kernel) rfl
theorem kw_1023 : (.code yX5_play cX5_play 1 (some .int) : Cond) ∈ GW := gw_of 1023 (by decide +kernel) rfl
theorem kw_1024 : (.methodLink RL 161 yX5_errorCode : Cond) ∈ GW := gw_of 1024 (by decide +kernel) rfl
theorem kw_1025 : (.instanceMethod yX5_errorCode : Cond) ∈ GW := gw_of 1025 (by decide +kernel) rfl
theorem kw_1026 : (.selects RX5 yX5_errorCode yX5_errorCode : Cond) ∈ GW := gw_of 1026 (by decide +kernel) rfl
theorem kw_1027 : (.code yX5_errorCode cX5_errorCode 1 (some .int) : Cond) ∈ GW := gw_of 1027 (by decide +kernel) rfl
theorem kw_1028 : (.methodLink RL 165 yX5_errorOffset : Cond) ∈ GW := gw_of 1028 (by decide +kernel) rfl
theorem kw_1029 : (.instanceMethod yX5_errorOffset : Cond) ∈ GW := gw_of 1029 (by decide +kernel) rfl
theorem kw_1030 : (.selects RX5 yX5_errorOffset yX5_errorOffset : Cond) ∈ GW := gw_of 1030 (by decide +kernel) rfl
theorem kw_1031 : (.code yX5_errorOffset cX5_errorOffset 1 (some .int) : Cond) ∈ GW := gw_of 1031 (by decide +kernel) rfl
theorem kw_1032 : (.methodLink RL 203 yX5_clock : Cond) ∈ GW := gw_of 1032 (by decide +kernel) rfl
theorem kw_1033 : (.instanceMethod yX5_clock : Cond) ∈ GW := gw_of 1033 (by decide +kernel) rfl
theorem kw_1034 : (.selects RX5 yX5_clock yX5_clock : Cond) ∈ GW := gw_of 1034 (by decide +kernel) rfl
theorem kw_1035 : (.code yX5_clock cX5_clock 1 (some .int) : Cond) ∈ GW := gw_of 1035 (by decide +kernel) rfl
theorem kw_1036 : (.methodLink RL 207 yX5_day : Cond) ∈ GW := gw_of 1036 (by decide +kernel) rfl
theorem kw_1037 : (.instanceMethod yX5_day : Cond) ∈ GW := gw_of 1037 (by decide +kernel) rfl
theorem kw_1038 : (.selects RX5 yX5_day yX5_day : Cond) ∈ GW := gw_of 1038 (by decide +kernel) rfl
theorem kw_1039 : (.code yX5_day cX5_day 1 (some .int) : Cond) ∈ GW := gw_of 1039 (by decide +kernel) rfl
theorem kw_1041 : (.methodLink RL 211 yX5_stopCount : Cond) ∈ GW := gw_of 1041 (by decide +kernel) rfl
theorem kw_1042 : (.instanceMethod yX5_stopCount : Cond) ∈ GW := gw_of 1042 (by decide +kernel) rfl
theorem kw_1043 : (.selects RX5 yX5_stopCount yX5_stopCount : Cond) ∈ GW := gw_of 1043 (by decide +kernel) rfl
theorem kw_1044 : (.code yX5_stopCount cX5_stopCount 1 (some .int) : Cond) ∈ GW := gw_of 1044 (by decide +kernel) rfl
theorem kw_1045 : (.methodLink RL 215 yX5_passengerCount : Cond) ∈ GW := gw_of 1045 (by decide +kernel) rfl
theorem kw_1046 : (.instanceMethod yX5_passengerCount : Cond) ∈ GW := gw_of 1046 (by decide +kernel) rfl
theorem kw_1047 : (.selects RX5 yX5_passengerCount yX5_passengerCount : Cond) ∈ GW := gw_of 1047 (by decide +kernel) rfl
theorem kw_1048 : (.code yX5_passengerCount cX5_passengerCount 1 (some .int) : Cond) ∈ GW := gw_of 1048 (by decide +kernel) rfl
theorem kw_1049 : (.methodLink RL 219 yX5_ticketCount : Cond) ∈ GW := gw_of 1049 (by decide +kernel) rfl
theorem kw_1050 : (.instanceMethod yX5_ticketCount : Cond) ∈ GW := gw_of 1050 (by decide +kernel) rfl
theorem kw_1051 : (.selects RX5 yX5_ticketCount yX5_ticketCount : Cond) ∈ GW := gw_of 1051 (by decide +kernel) rfl
theorem kw_1052 : (.code yX5_ticketCount cX5_ticketCount 1 (some .int) : Cond) ∈ GW := gw_of 1052 (by decide +kernel) rfl
theorem kw_1053 : (.methodLink RL 223 yX5_caseCount : Cond) ∈ GW := gw_of 1053 (by decide +kernel) rfl
theorem kw_1054 : (.instanceMethod yX5_caseCount : Cond) ∈ GW := gw_of 1054 (by decide +kernel) rfl
theorem kw_1055 : (.selects RX5 yX5_caseCount yX5_caseCount : Cond) ∈ GW := gw_of 1055 (by decide +kernel) rfl
theorem kw_1056 : (.code yX5_caseCount cX5_caseCount 1 (some .int) : Cond) ∈ GW := gw_of 1056 (by decide +kernel) rfl
theorem kw_1057 : (.methodLink RL 227 yX5_undoableChanges : Cond) ∈ GW := gw_of 1057 (by decide +kernel) rfl
theorem kw_1058 : (.instanceMethod yX5_undoableChanges : Cond) ∈ GW := gw_of 1058 (by decide +kernel) rfl
theorem kw_1059 : (.selects RX5 yX5_undoableChanges yX5_undoableChanges : Cond) ∈ GW := gw_of 1059 (by decide +kernel) rfl
theorem kw_1060 : (.code yX5_undoableChanges cX5_undoableChanges 1 (some .int) : Cond) ∈ GW := gw_of 1060 (by decide +kernel) rfl
theorem kw_1061 : (.methodLink RL 312 yX5_ticketSales : Cond) ∈ GW := gw_of 1061 (by decide +kernel) rfl
theorem kw_1062 : (.instanceMethod yX5_ticketSales : Cond) ∈ GW := gw_of 1062 (by decide +kernel) rfl
theorem kw_1063 : (.selects RX5 yX5_ticketSales yX5_ticketSales : Cond) ∈ GW := gw_of 1063 (by decide +kernel) rfl
theorem kw_1064 : (.code yX5_ticketSales cX5_ticketSales 1 (some .int) : Cond) ∈ GW := gw_of 1064 (by decide +kernel) rfl
theorem kw_1074 : (.methodLink RL 316 yX5_finesPaid : Cond) ∈ GW := gw_of 1074 (by decide +kernel) rfl
theorem kw_1075 : (.instanceMethod yX5_finesPaid : Cond) ∈ GW := gw_of 1075 (by decide +kernel) rfl
theorem kw_1076 : (.selects RX5 yX5_finesPaid yX5_finesPaid : Cond) ∈ GW := gw_of 1076 (by decide +kernel) rfl
theorem kw_1077 : (.code yX5_finesPaid cX5_finesPaid 1 (some .int) : Cond) ∈ GW := gw_of 1077 (by decide +kernel) rfl
theorem kw_1078 : (.methodLink RL 320 yX5_inspections : Cond) ∈ GW := gw_of 1078 (by decide +kernel) rfl
theorem kw_1079 : (.instanceMethod yX5_inspections : Cond) ∈ GW := gw_of 1079 (by decide +kernel) rfl
theorem kw_1080 : (.selects RX5 yX5_inspections yX5_inspections : Cond) ∈ GW := gw_of 1080 (by decide +kernel) rfl
theorem kw_1081 : (.code yX5_inspections cX5_inspections 1 (some .int) : Cond) ∈ GW := gw_of 1081 (by decide +kernel) rfl
theorem kw_1082 : (.methodLink RL 324 yX5_inconsistencies : Cond) ∈ GW := gw_of 1082 (by decide +kernel) rfl
theorem kw_1083 : (.instanceMethod yX5_inconsistencies : Cond) ∈ GW := gw_of 1083 (by decide +kernel) rfl
theorem kw_1084 : (.selects RX5 yX5_inconsistencies yX5_inconsistencies : Cond) ∈ GW := gw_of 1084 (by decide +kernel) rfl
theorem kw_1085 : (.code yX5_inconsistencies cX5_inconsistencies 2 (some .int) : Cond) ∈ GW := gw_of 1085 (by decide +kernel) rfl
theorem kw_1096 : (.methodLink RL 328 yX5_faultShare : Cond) ∈ GW := gw_of 1096 (by decide +kernel) rfl
theorem kw_1097 : (.instanceMethod yX5_faultShare : Cond) ∈ GW := gw_of 1097 (by decide +kernel) rfl
theorem kw_1098 : (.selects RX5 yX5_faultShare yX5_faultShare : Cond) ∈ GW := gw_of 1098 (by decide +kernel) rfl
theorem kw_1099 : (.code yX5_faultShare cX5_faultShare 1 (some .double) : Cond) ∈ GW := gw_of 1099 (by decide +kernel) rfl
theorem kw_1100 : (.methodLink RL 333 yX5_meanPrice : Cond) ∈ GW := gw_of 1100 (by decide +kernel) rfl
theorem kw_1101 : (.instanceMethod yX5_meanPrice : Cond) ∈ GW := gw_of 1101 (by decide +kernel) rfl
theorem kw_1102 : (.selects RX5 yX5_meanPrice yX5_meanPrice : Cond) ∈ GW := gw_of 1102 (by decide +kernel) rfl
theorem kw_1103 : (.code yX5_meanPrice cX5_meanPrice 1 (some .float) : Cond) ∈ GW := gw_of 1103 (by decide +kernel) rfl
theorem kw_1104 : (.methodLink RL 338 yX5_writeCases : Cond) ∈ GW := gw_of 1104 (by decide +kernel) rfl
theorem kw_1105 : (.instanceMethod yX5_writeCases : Cond) ∈ GW := gw_of 1105 (by decide +kernel) rfl
theorem kw_1106 : (.selects RX5 yX5_writeCases yX5_writeCases : Cond) ∈ GW := gw_of 1106 (by decide +kernel) rfl
theorem kw_1107 : (.code yX5_writeCases cX5_writeCases 2 (some .int) : Cond) ∈ GW := gw_of 1107 (by decide +kernel) rfl
theorem kw_1186 : (.methodLink RL 342 yX5_outputByte : Cond) ∈ GW := gw_of 1186 (by decide +kernel) rfl
theorem kw_1187 : (.instanceMethod yX5_outputByte : Cond) ∈ GW := gw_of 1187 (by decide +kernel) rfl
theorem kw_1188 : (.selects RX5 yX5_outputByte yX5_outputByte : Cond) ∈ GW := gw_of 1188 (by decide +kernel) rfl
theorem kw_1189 : (.code yX5_outputByte cX5_outputByte 2 (some .int) : Cond) ∈ GW := gw_of 1189 (by decide +kernel) rfl
theorem kw_1200 : (.methodLink RL 144 yL_truncateInput : Cond) ∈ GW := gw_of 1200 (by decide +kernel) rfl
theorem kw_1201 : (.static yL_truncateInput : Cond) ∈ GW := gw_of 1201 (by decide +kernel) rfl
theorem kw_1202 : (.codeWith yL_truncateInput cL_truncateInput 4 (some .int) [(0, 9, 12, 13)] : Cond) ∈ GW := gw_of 1202 (by decide +kernel) rfl
theorem kw_1203 : (.classLink RL 13 "java/lang/IllegalArgumentException" : Cond) ∈ GW := gw_of 1203 (by decide +kernel) rfl
theorem kw_1204 : (.methodLink RL 7 yX5_truncateInput : Cond) ∈ GW := gw_of 1204 (by decide +kernel) rfl
theorem kw_1205 : (.instanceMethod yX5_truncateInput : Cond) ∈ GW := gw_of 1205 (by decide +kernel) rfl
theorem kw_1206 : (.selects RX5 yX5_truncateInput yX5_truncateInput : Cond) ∈ GW := gw_of 1206 (by decide +kernel) rfl
theorem kw_1207 : (.code yX5_truncateInput cX5_truncateInput 2 (some .int) : Cond) ∈ GW := gw_of 1207 (by decide +kernel) rfl
theorem kw_1211 : (.methodLink RL 169 yL_buy : Cond) ∈ GW := gw_of 1211 (by decide +kernel) rfl
theorem kw_1212 : (.static yL_buy : Cond) ∈ GW := gw_of 1212 (by decide +kernel) rfl
theorem kw_1213 : (.codeWith yL_buy cL_buy 6 (some .int) [(0, 12, 15, 19), (0, 12, 19, 13), (0, 12, 23, 21)] : Cond) ∈ GW := gw_of 1213 (by decide +kernel) rfl
theorem kw_1214 : (.classLink RL 19 "java/lang/IndexOutOfBoundsException" : Cond) ∈ GW := gw_of 1214 (by decide +kernel) rfl
theorem kw_1215 : (.classLink RL 21 "java/lang/IllegalStateException" : Cond) ∈ GW := gw_of 1215 (by decide +kernel) rfl
theorem kw_1216 : (.methodLink RL 15 yX5_buy : Cond) ∈ GW := gw_of 1216 (by decide +kernel) rfl
theorem kw_1217 : (.instanceMethod yX5_buy : Cond) ∈ GW := gw_of 1217 (by decide +kernel) rfl
theorem kw_1218 : (.selects RX5 yX5_buy yX5_buy : Cond) ∈ GW := gw_of 1218 (by decide +kernel) rfl
theorem kw_1219 : (.code yX5_buy cX5_buy 4 (some .int) : Cond) ∈ GW := gw_of 1219 (by decide +kernel) rfl
theorem kw_1257 : (.methodLink RL 173 yL_ride : Cond) ∈ GW := gw_of 1257 (by decide +kernel) rfl
theorem kw_1258 : (.static yL_ride : Cond) ∈ GW := gw_of 1258 (by decide +kernel) rfl
theorem kw_1259 : (.codeWith yL_ride cL_ride 7 (some .int) [(0, 14, 17, 19), (0, 14, 21, 13), (0, 14, 25, 21)] : Cond) ∈ GW := gw_of 1259 (by decide +kernel) rfl
theorem kw_1260 : (.methodLink RL 23 yX5_ride : Cond) ∈ GW := gw_of 1260 (by decide +kernel) rfl
theorem kw_1261 : (.instanceMethod yX5_ride : Cond) ∈ GW := gw_of 1261 (by decide +kernel) rfl
theorem kw_1262 : (.selects RX5 yX5_ride yX5_ride : Cond) ∈ GW := gw_of 1262 (by decide +kernel) rfl
theorem kw_1263 : (.code yX5_ride cX5_ride 5 (some .int) : Cond) ∈ GW := gw_of 1263 (by decide +kernel) rfl
theorem kw_1278 : (.methodLink RL 177 yL_inspect : Cond) ∈ GW := gw_of 1278 (by decide +kernel) rfl
theorem kw_1279 : (.static yL_inspect : Cond) ∈ GW := gw_of 1279 (by decide +kernel) rfl
theorem kw_1280 : (.codeWith yL_inspect cL_inspect 4 (some .int) [(0, 9, 12, 19), (0, 9, 15, 21)] : Cond) ∈ GW := gw_of 1280 (by decide +kernel) rfl
theorem kw_1281 : (.methodLink RL 27 yX5_inspect : Cond) ∈ GW := gw_of 1281 (by decide +kernel) rfl
theorem kw_1282 : (.instanceMethod yX5_inspect : Cond) ∈ GW := gw_of 1282 (by decide +kernel) rfl
theorem kw_1283 : (.selects RX5 yX5_inspect yX5_inspect : Cond) ∈ GW := gw_of 1283 (by decide +kernel) rfl
theorem kw_1284 : (.code yX5_inspect cX5_inspect 2 (some .int) : Cond) ∈ GW := gw_of 1284 (by decide +kernel) rfl
theorem kw_1288 : (.methodLink RL 180 yL_waitFor : Cond) ∈ GW := gw_of 1288 (by decide +kernel) rfl
theorem kw_1289 : (.static yL_waitFor : Cond) ∈ GW := gw_of 1289 (by decide +kernel) rfl
theorem kw_1290 : (.codeWith yL_waitFor cL_waitFor 4 (some .int) [(0, 9, 12, 13), (0, 9, 15, 21)] : Cond) ∈ GW := gw_of 1290 (by decide +kernel) rfl
theorem kw_1291 : (.methodLink RL 30 yX5_waitFor : Cond) ∈ GW := gw_of 1291 (by decide +kernel) rfl
theorem kw_1292 : (.instanceMethod yX5_waitFor : Cond) ∈ GW := gw_of 1292 (by decide +kernel) rfl
theorem kw_1293 : (.selects RX5 yX5_waitFor yX5_waitFor : Cond) ∈ GW := gw_of 1293 (by decide +kernel) rfl
theorem kw_1294 : (.code yX5_waitFor cX5_waitFor 2 (some .int) : Cond) ∈ GW := gw_of 1294 (by decide +kernel) rfl
theorem kw_1298 : (.methodLink RL 183 yL_appeal : Cond) ∈ GW := gw_of 1298 (by decide +kernel) rfl
theorem kw_1299 : (.static yL_appeal : Cond) ∈ GW := gw_of 1299 (by decide +kernel) rfl
theorem kw_1300 : (.codeWith yL_appeal cL_appeal 5 (some .int) [(0, 10, 13, 19), (0, 10, 17, 21)] : Cond) ∈ GW := gw_of 1300 (by decide +kernel) rfl
theorem kw_1301 : (.methodLink RL 33 yX5_appeal : Cond) ∈ GW := gw_of 1301 (by decide +kernel) rfl
theorem kw_1302 : (.instanceMethod yX5_appeal : Cond) ∈ GW := gw_of 1302 (by decide +kernel) rfl
theorem kw_1303 : (.selects RX5 yX5_appeal yX5_appeal : Cond) ∈ GW := gw_of 1303 (by decide +kernel) rfl
theorem kw_1304 : (.code yX5_appeal cX5_appeal 3 (some .int) : Cond) ∈ GW := gw_of 1304 (by decide +kernel) rfl
theorem kw_1313 : (.methodLink RL 187 yL_decide : Cond) ∈ GW := gw_of 1313 (by decide +kernel) rfl
theorem kw_1314 : (.static yL_decide : Cond) ∈ GW := gw_of 1314 (by decide +kernel) rfl
theorem kw_1315 : (.codeWith yL_decide cL_decide 4 (some .int) [(0, 9, 12, 19), (0, 9, 15, 21)] : Cond) ∈ GW := gw_of 1315 (by decide +kernel) rfl
theorem kw_1316 : (.methodLink RL 37 yX5_decide : Cond) ∈ GW := gw_of 1316 (by decide +kernel) rfl
theorem kw_1317 : (.instanceMethod yX5_decide : Cond) ∈ GW := gw_of 1317 (by decide +kernel) rfl
theorem kw_1318 : (.selects RX5 yX5_decide yX5_decide : Cond) ∈ GW := gw_of 1318 (by decide +kernel) rfl
theorem kw_1319 : (.code yX5_decide cX5_decide 2 (some .int) : Cond) ∈ GW := gw_of 1319 (by decide +kernel) rfl
theorem kw_1323 : (.methodLink RL 190 yL_pay : Cond) ∈ GW := gw_of 1323 (by decide +kernel) rfl
theorem kw_1324 : (.static yL_pay : Cond) ∈ GW := gw_of 1324 (by decide +kernel) rfl
theorem kw_1325 : (.codeWith yL_pay cL_pay 4 (some .int) [(0, 9, 12, 19), (0, 9, 15, 21)] : Cond) ∈ GW := gw_of 1325 (by decide +kernel) rfl
theorem kw_1326 : (.methodLink RL 40 yX5_pay : Cond) ∈ GW := gw_of 1326 (by decide +kernel) rfl
theorem kw_1327 : (.instanceMethod yX5_pay : Cond) ∈ GW := gw_of 1327 (by decide +kernel) rfl
theorem kw_1328 : (.selects RX5 yX5_pay yX5_pay : Cond) ∈ GW := gw_of 1328 (by decide +kernel) rfl
theorem kw_1329 : (.code yX5_pay cX5_pay 2 (some .int) : Cond) ∈ GW := gw_of 1329 (by decide +kernel) rfl
theorem kw_1333 : (.methodLink RL 193 yL_undo : Cond) ∈ GW := gw_of 1333 (by decide +kernel) rfl
theorem kw_1334 : (.static yL_undo : Cond) ∈ GW := gw_of 1334 (by decide +kernel) rfl
theorem kw_1335 : (.codeWith yL_undo cL_undo 3 (some .int) [(0, 8, 11, 21)] : Cond) ∈ GW := gw_of 1335 (by decide +kernel) rfl
theorem kw_1336 : (.methodLink RL 43 yX5_undo : Cond) ∈ GW := gw_of 1336 (by decide +kernel) rfl
theorem kw_1337 : (.instanceMethod yX5_undo : Cond) ∈ GW := gw_of 1337 (by decide +kernel) rfl
theorem kw_1338 : (.selects RX5 yX5_undo yX5_undo : Cond) ∈ GW := gw_of 1338 (by decide +kernel) rfl
theorem kw_1339 : (.code yX5_undo cX5_undo 1 (some .int) : Cond) ∈ GW := gw_of 1339 (by decide +kernel) rfl
theorem kw_1341 : (.methodLink RL 197 yL_save : Cond) ∈ GW := gw_of 1341 (by decide +kernel) rfl
theorem kw_1342 : (.static yL_save : Cond) ∈ GW := gw_of 1342 (by decide +kernel) rfl
theorem kw_1343 : (.codeWith yL_save cL_save 4 (some .int) [(0, 9, 12, 13)] : Cond) ∈ GW := gw_of 1343 (by decide +kernel) rfl
theorem kw_1344 : (.methodLink RL 47 yX5_save : Cond) ∈ GW := gw_of 1344 (by decide +kernel) rfl
theorem kw_1345 : (.instanceMethod yX5_save : Cond) ∈ GW := gw_of 1345 (by decide +kernel) rfl
theorem kw_1346 : (.selects RX5 yX5_save yX5_save : Cond) ∈ GW := gw_of 1346 (by decide +kernel) rfl
theorem kw_1347 : (.code yX5_save cX5_save 2 (some .int) : Cond) ∈ GW := gw_of 1347 (by decide +kernel) rfl
theorem kw_1352 : (.methodLink RL 200 yL_restore : Cond) ∈ GW := gw_of 1352 (by decide +kernel) rfl
theorem kw_1353 : (.static yL_restore : Cond) ∈ GW := gw_of 1353 (by decide +kernel) rfl
theorem kw_1354 : (.codeWith yL_restore cL_restore 4 (some .int) [(0, 9, 12, 13), (0, 9, 15, 21)] : Cond) ∈ GW := gw_of 1354 (by decide +kernel) rfl
theorem kw_1355 : (.methodLink RL 50 yX5_restore : Cond) ∈ GW := gw_of 1355 (by decide +kernel) rfl
theorem kw_1356 : (.instanceMethod yX5_restore : Cond) ∈ GW := gw_of 1356 (by decide +kernel) rfl
theorem kw_1357 : (.selects RX5 yX5_restore yX5_restore : Cond) ∈ GW := gw_of 1357 (by decide +kernel) rfl
theorem kw_1358 : (.code yX5_restore cX5_restore 2 (some .int) : Cond) ∈ GW := gw_of 1358 (by decide +kernel) rfl
theorem kw_1360 : (.methodLink RL 231 yL_zone : Cond) ∈ GW := gw_of 1360 (by decide +kernel) rfl
theorem kw_1361 : (.static yL_zone : Cond) ∈ GW := gw_of 1361 (by decide +kernel) rfl
theorem kw_1362 : (.codeWith yL_zone cL_zone 4 (some .int) [(0, 9, 12, 19)] : Cond) ∈ GW := gw_of 1362 (by decide +kernel) rfl
theorem kw_1363 : (.methodLink RL 53 yX5_zone : Cond) ∈ GW := gw_of 1363 (by decide +kernel) rfl
theorem kw_1364 : (.instanceMethod yX5_zone : Cond) ∈ GW := gw_of 1364 (by decide +kernel) rfl
theorem kw_1365 : (.selects RX5 yX5_zone yX5_zone : Cond) ∈ GW := gw_of 1365 (by decide +kernel) rfl
theorem kw_1366 : (.code yX5_zone cX5_zone 2 (some .int) : Cond) ∈ GW := gw_of 1366 (by decide +kernel) rfl
theorem kw_1367 : (.methodLink RL 234 yL_zonesBetween : Cond) ∈ GW := gw_of 1367 (by decide +kernel) rfl
theorem kw_1368 : (.static yL_zonesBetween : Cond) ∈ GW := gw_of 1368 (by decide +kernel) rfl
theorem kw_1369 : (.codeWith yL_zonesBetween cL_zonesBetween 5 (some .int) [(0, 10, 13, 19)] : Cond) ∈ GW := gw_of 1369 (by decide +kernel) rfl
theorem kw_1370 : (.methodLink RL 56 yX5_zonesBetween : Cond) ∈ GW := gw_of 1370 (by decide +kernel) rfl
theorem kw_1371 : (.instanceMethod yX5_zonesBetween : Cond) ∈ GW := gw_of 1371 (by decide +kernel) rfl
theorem kw_1372 : (.selects RX5 yX5_zonesBetween yX5_zonesBetween : Cond) ∈ GW := gw_of 1372 (by decide +kernel) rfl
theorem kw_1373 : (.code yX5_zonesBetween cX5_zonesBetween 3 (some .int) : Cond) ∈ GW := gw_of 1373 (by decide +kernel) rfl
theorem kw_1375 : (.methodLink RL 237 yL_money : Cond) ∈ GW := gw_of 1375 (by decide +kernel) rfl
theorem kw_1376 : (.static yL_money : Cond) ∈ GW := gw_of 1376 (by decide +kernel) rfl
theorem kw_1377 : (.codeWith yL_money cL_money 4 (some .int) [(0, 9, 12, 19)] : Cond) ∈ GW := gw_of 1377 (by decide +kernel) rfl
theorem kw_1378 : (.methodLink RL 59 yX5_money : Cond) ∈ GW := gw_of 1378 (by decide +kernel) rfl
theorem kw_1379 : (.instanceMethod yX5_money : Cond) ∈ GW := gw_of 1379 (by decide +kernel) rfl
theorem kw_1380 : (.selects RX5 yX5_money yX5_money : Cond) ∈ GW := gw_of 1380 (by decide +kernel) rfl
theorem kw_1381 : (.code yX5_money cX5_money 2 (some .int) : Cond) ∈ GW := gw_of 1381 (by decide +kernel) rfl
theorem kw_1382 : (.methodLink RL 240 yL_isRiding : Cond) ∈ GW := gw_of 1382 (by decide +kernel) rfl
theorem kw_1383 : (.static yL_isRiding : Cond) ∈ GW := gw_of 1383 (by decide +kernel) rfl
theorem kw_1384 : (.codeWith yL_isRiding cL_isRiding 4 (some .int) [(0, 16, 19, 19)] : Cond) ∈ GW := gw_of 1384 (by decide +kernel) rfl
theorem kw_1385 : (.methodLink RL 62 yX5_isRiding : Cond) ∈ GW := gw_of 1385 (by decide +kernel) rfl
theorem kw_1386 : (.instanceMethod yX5_isRiding : Cond) ∈ GW := gw_of 1386 (by decide +kernel) rfl
theorem kw_1387 : (.selects RX5 yX5_isRiding yX5_isRiding : Cond) ∈ GW := gw_of 1387 (by decide +kernel) rfl
theorem kw_1388 : (.code yX5_isRiding cX5_isRiding 2 (some .boolean) : Cond) ∈ GW := gw_of 1388 (by decide +kernel) rfl
theorem kw_1390 : (.methodLink RL 243 yL_rideEnd : Cond) ∈ GW := gw_of 1390 (by decide +kernel) rfl
theorem kw_1391 : (.static yL_rideEnd : Cond) ∈ GW := gw_of 1391 (by decide +kernel) rfl
theorem kw_1392 : (.codeWith yL_rideEnd cL_rideEnd 4 (some .int) [(0, 9, 12, 19)] : Cond) ∈ GW := gw_of 1392 (by decide +kernel) rfl
theorem kw_1393 : (.methodLink RL 66 yX5_rideEnd : Cond) ∈ GW := gw_of 1393 (by decide +kernel) rfl
theorem kw_1394 : (.instanceMethod yX5_rideEnd : Cond) ∈ GW := gw_of 1394 (by decide +kernel) rfl
theorem kw_1395 : (.selects RX5 yX5_rideEnd yX5_rideEnd : Cond) ∈ GW := gw_of 1395 (by decide +kernel) rfl
theorem kw_1396 : (.code yX5_rideEnd cX5_rideEnd 2 (some .int) : Cond) ∈ GW := gw_of 1396 (by decide +kernel) rfl
theorem kw_1397 : (.methodLink RL 246 yL_rideTicket : Cond) ∈ GW := gw_of 1397 (by decide +kernel) rfl
theorem kw_1398 : (.static yL_rideTicket : Cond) ∈ GW := gw_of 1398 (by decide +kernel) rfl
theorem kw_1399 : (.codeWith yL_rideTicket cL_rideTicket 4 (some .int) [(0, 9, 12, 19)] : Cond) ∈ GW := gw_of 1399 (by decide +kernel) rfl
theorem kw_1400 : (.methodLink RL 69 yX5_rideTicket : Cond) ∈ GW := gw_of 1400 (by decide +kernel) rfl
theorem kw_1401 : (.instanceMethod yX5_rideTicket : Cond) ∈ GW := gw_of 1401 (by decide +kernel) rfl
theorem kw_1402 : (.selects RX5 yX5_rideTicket yX5_rideTicket : Cond) ∈ GW := gw_of 1402 (by decide +kernel) rfl
theorem kw_1403 : (.code yX5_rideTicket cX5_rideTicket 2 (some .int) : Cond) ∈ GW := gw_of 1403 (by decide +kernel) rfl
theorem kw_1404 : (.methodLink RL 249 yL_faultNow : Cond) ∈ GW := gw_of 1404 (by decide +kernel) rfl
theorem kw_1405 : (.static yL_faultNow : Cond) ∈ GW := gw_of 1405 (by decide +kernel) rfl
theorem kw_1406 : (.codeWith yL_faultNow cL_faultNow 4 (some .int) [(0, 9, 12, 19)] : Cond) ∈ GW := gw_of 1406 (by decide +kernel) rfl
theorem kw_1407 : (.methodLink RL 72 yX5_faultNow : Cond) ∈ GW := gw_of 1407 (by decide +kernel) rfl
theorem kw_1408 : (.instanceMethod yX5_faultNow : Cond) ∈ GW := gw_of 1408 (by decide +kernel) rfl
theorem kw_1409 : (.selects RX5 yX5_faultNow yX5_faultNow : Cond) ∈ GW := gw_of 1409 (by decide +kernel) rfl
theorem kw_1410 : (.code yX5_faultNow cX5_faultNow 2 (some .int) : Cond) ∈ GW := gw_of 1410 (by decide +kernel) rfl
theorem kw_1412 : (.methodLink RL 252 yL_debt : Cond) ∈ GW := gw_of 1412 (by decide +kernel) rfl
theorem kw_1413 : (.static yL_debt : Cond) ∈ GW := gw_of 1413 (by decide +kernel) rfl
theorem kw_1414 : (.codeWith yL_debt cL_debt 4 (some .int) [(0, 9, 12, 19)] : Cond) ∈ GW := gw_of 1414 (by decide +kernel) rfl
theorem kw_1415 : (.methodLink RL 75 yX5_debt : Cond) ∈ GW := gw_of 1415 (by decide +kernel) rfl
theorem kw_1416 : (.instanceMethod yX5_debt : Cond) ∈ GW := gw_of 1416 (by decide +kernel) rfl
theorem kw_1417 : (.selects RX5 yX5_debt yX5_debt : Cond) ∈ GW := gw_of 1417 (by decide +kernel) rfl
theorem kw_1418 : (.code yX5_debt cX5_debt 2 (some .int) : Cond) ∈ GW := gw_of 1418 (by decide +kernel) rfl
theorem kw_1423 : (.methodLink RL 255 yL_unpaidCases : Cond) ∈ GW := gw_of 1423 (by decide +kernel) rfl
theorem kw_1424 : (.static yL_unpaidCases : Cond) ∈ GW := gw_of 1424 (by decide +kernel) rfl
theorem kw_1425 : (.codeWith yL_unpaidCases cL_unpaidCases 4 (some .int) [(0, 9, 12, 19)] : Cond) ∈ GW := gw_of 1425 (by decide +kernel) rfl
theorem kw_1426 : (.methodLink RL 78 yX5_unpaidCases : Cond) ∈ GW := gw_of 1426 (by decide +kernel) rfl
theorem kw_1427 : (.instanceMethod yX5_unpaidCases : Cond) ∈ GW := gw_of 1427 (by decide +kernel) rfl
theorem kw_1428 : (.selects RX5 yX5_unpaidCases yX5_unpaidCases : Cond) ∈ GW := gw_of 1428 (by decide +kernel) rfl
theorem kw_1429 : (.code yX5_unpaidCases cX5_unpaidCases 2 (some .int) : Cond) ∈ GW := gw_of 1429 (by decide +kernel) rfl
theorem kw_1434 : (.methodLink RL 258 yL_nameByte : Cond) ∈ GW := gw_of 1434 (by decide +kernel) rfl
theorem kw_1435 : (.static yL_nameByte : Cond) ∈ GW := gw_of 1435 (by decide +kernel) rfl
theorem kw_1436 : (.codeWith yL_nameByte cL_nameByte 5 (some .int) [(0, 10, 13, 19)] : Cond) ∈ GW := gw_of 1436 (by decide +kernel) rfl
theorem kw_1437 : (.methodLink RL 81 yX5_nameByte : Cond) ∈ GW := gw_of 1437 (by decide +kernel) rfl
theorem kw_1438 : (.instanceMethod yX5_nameByte : Cond) ∈ GW := gw_of 1438 (by decide +kernel) rfl
theorem kw_1439 : (.selects RX5 yX5_nameByte yX5_nameByte : Cond) ∈ GW := gw_of 1439 (by decide +kernel) rfl
theorem kw_1440 : (.code yX5_nameByte cX5_nameByte 4 (some .int) : Cond) ∈ GW := gw_of 1440 (by decide +kernel) rfl
theorem kw_1443 : (.methodLink RL 261 yL_cheapestKind : Cond) ∈ GW := gw_of 1443 (by decide +kernel) rfl
theorem kw_1444 : (.static yL_cheapestKind : Cond) ∈ GW := gw_of 1444 (by decide +kernel) rfl
theorem kw_1445 : (.codeWith yL_cheapestKind cL_cheapestKind 5 (some .int) [(0, 10, 13, 19)] : Cond) ∈ GW := gw_of 1445 (by decide +kernel) rfl
theorem kw_1446 : (.methodLink RL 84 yX5_cheapestKind : Cond) ∈ GW := gw_of 1446 (by decide +kernel) rfl
theorem kw_1447 : (.instanceMethod yX5_cheapestKind : Cond) ∈ GW := gw_of 1447 (by decide +kernel) rfl
theorem kw_1448 : (.selects RX5 yX5_cheapestKind yX5_cheapestKind : Cond) ∈ GW := gw_of 1448 (by decide +kernel) rfl
theorem kw_1449 : (.code yX5_cheapestKind cX5_cheapestKind 7 (some .int) : Cond) ∈ GW := gw_of 1449 (by decide +kernel) rfl
theorem kw_1451 : (.methodLink RL 264 yL_ticketHolder : Cond) ∈ GW := gw_of 1451 (by decide +kernel) rfl
theorem kw_1452 : (.static yL_ticketHolder : Cond) ∈ GW := gw_of 1452 (by decide +kernel) rfl
theorem kw_1453 : (.codeWith yL_ticketHolder cL_ticketHolder 4 (some .int) [(0, 9, 12, 19)] : Cond) ∈ GW := gw_of 1453 (by decide +kernel) rfl
theorem kw_1454 : (.methodLink RL 87 yX5_ticketHolder : Cond) ∈ GW := gw_of 1454 (by decide +kernel) rfl
theorem kw_1455 : (.instanceMethod yX5_ticketHolder : Cond) ∈ GW := gw_of 1455 (by decide +kernel) rfl
theorem kw_1456 : (.selects RX5 yX5_ticketHolder yX5_ticketHolder : Cond) ∈ GW := gw_of 1456 (by decide +kernel) rfl
theorem kw_1457 : (.code yX5_ticketHolder cX5_ticketHolder 2 (some .int) : Cond) ∈ GW := gw_of 1457 (by decide +kernel) rfl
theorem kw_1458 : (.methodLink RL 267 yL_ticketKind : Cond) ∈ GW := gw_of 1458 (by decide +kernel) rfl
theorem kw_1459 : (.static yL_ticketKind : Cond) ∈ GW := gw_of 1459 (by decide +kernel) rfl
theorem kw_1460 : (.codeWith yL_ticketKind cL_ticketKind 4 (some .int) [(0, 9, 12, 19)] : Cond) ∈ GW := gw_of 1460 (by decide +kernel) rfl
theorem kw_1461 : (.methodLink RL 90 yX5_ticketKind : Cond) ∈ GW := gw_of 1461 (by decide +kernel) rfl
theorem kw_1462 : (.instanceMethod yX5_ticketKind : Cond) ∈ GW := gw_of 1462 (by decide +kernel) rfl
theorem kw_1463 : (.selects RX5 yX5_ticketKind yX5_ticketKind : Cond) ∈ GW := gw_of 1463 (by decide +kernel) rfl
theorem kw_1464 : (.code yX5_ticketKind cX5_ticketKind 2 (some .int) : Cond) ∈ GW := gw_of 1464 (by decide +kernel) rfl
theorem kw_1465 : (.methodLink RL 270 yL_ticketZones : Cond) ∈ GW := gw_of 1465 (by decide +kernel) rfl
theorem kw_1466 : (.static yL_ticketZones : Cond) ∈ GW := gw_of 1466 (by decide +kernel) rfl
theorem kw_1467 : (.codeWith yL_ticketZones cL_ticketZones 4 (some .int) [(0, 9, 12, 19)] : Cond) ∈ GW := gw_of 1467 (by decide +kernel) rfl
theorem kw_1468 : (.methodLink RL 93 yX5_ticketZones : Cond) ∈ GW := gw_of 1468 (by decide +kernel) rfl
theorem kw_1469 : (.instanceMethod yX5_ticketZones : Cond) ∈ GW := gw_of 1469 (by decide +kernel) rfl
theorem kw_1470 : (.selects RX5 yX5_ticketZones yX5_ticketZones : Cond) ∈ GW := gw_of 1470 (by decide +kernel) rfl
theorem kw_1471 : (.code yX5_ticketZones cX5_ticketZones 2 (some .int) : Cond) ∈ GW := gw_of 1471 (by decide +kernel) rfl
theorem kw_1472 : (.methodLink RL 273 yL_ticketPrice : Cond) ∈ GW := gw_of 1472 (by decide +kernel) rfl
theorem kw_1473 : (.static yL_ticketPrice : Cond) ∈ GW := gw_of 1473 (by decide +kernel) rfl
theorem kw_1474 : (.codeWith yL_ticketPrice cL_ticketPrice 4 (some .int) [(0, 9, 12, 19)] : Cond) ∈ GW := gw_of 1474 (by decide +kernel) rfl
theorem kw_1475 : (.methodLink RL 96 yX5_ticketPrice : Cond) ∈ GW := gw_of 1475 (by decide +kernel) rfl
theorem kw_1476 : (.instanceMethod yX5_ticketPrice : Cond) ∈ GW := gw_of 1476 (by decide +kernel) rfl
theorem kw_1477 : (.selects RX5 yX5_ticketPrice yX5_ticketPrice : Cond) ∈ GW := gw_of 1477 (by decide +kernel) rfl
theorem kw_1478 : (.code yX5_ticketPrice cX5_ticketPrice 2 (some .int) : Cond) ∈ GW := gw_of 1478 (by decide +kernel) rfl
theorem kw_1480 : (.methodLink RL 276 yL_stampTime : Cond) ∈ GW := gw_of 1480 (by decide +kernel) rfl
theorem kw_1481 : (.static yL_stampTime : Cond) ∈ GW := gw_of 1481 (by decide +kernel) rfl
theorem kw_1482 : (.codeWith yL_stampTime cL_stampTime 4 (some .int) [(0, 9, 12, 19)] : Cond) ∈ GW := gw_of 1482 (by decide +kernel) rfl
theorem kw_1483 : (.methodLink RL 99 yX5_stampTime : Cond) ∈ GW := gw_of 1483 (by decide +kernel) rfl
theorem kw_1484 : (.instanceMethod yX5_stampTime : Cond) ∈ GW := gw_of 1484 (by decide +kernel) rfl
theorem kw_1485 : (.selects RX5 yX5_stampTime yX5_stampTime : Cond) ∈ GW := gw_of 1485 (by decide +kernel) rfl
theorem kw_1486 : (.code yX5_stampTime cX5_stampTime 2 (some .int) : Cond) ∈ GW := gw_of 1486 (by decide +kernel) rfl
theorem kw_1487 : (.methodLink RL 279 yL_stampStop : Cond) ∈ GW := gw_of 1487 (by decide +kernel) rfl
theorem kw_1488 : (.static yL_stampStop : Cond) ∈ GW := gw_of 1488 (by decide +kernel) rfl
theorem kw_1489 : (.codeWith yL_stampStop cL_stampStop 4 (some .int) [(0, 9, 12, 19)] : Cond) ∈ GW := gw_of 1489 (by decide +kernel) rfl
theorem kw_1490 : (.methodLink RL 102 yX5_stampStop : Cond) ∈ GW := gw_of 1490 (by decide +kernel) rfl
theorem kw_1491 : (.instanceMethod yX5_stampStop : Cond) ∈ GW := gw_of 1491 (by decide +kernel) rfl
theorem kw_1492 : (.selects RX5 yX5_stampStop yX5_stampStop : Cond) ∈ GW := gw_of 1492 (by decide +kernel) rfl
theorem kw_1493 : (.code yX5_stampStop cX5_stampStop 2 (some .int) : Cond) ∈ GW := gw_of 1493 (by decide +kernel) rfl
theorem kw_1494 : (.methodLink RL 282 yL_ticketRides : Cond) ∈ GW := gw_of 1494 (by decide +kernel) rfl
theorem kw_1495 : (.static yL_ticketRides : Cond) ∈ GW := gw_of 1495 (by decide +kernel) rfl
theorem kw_1496 : (.codeWith yL_ticketRides cL_ticketRides 4 (some .int) [(0, 9, 12, 19)] : Cond) ∈ GW := gw_of 1496 (by decide +kernel) rfl
theorem kw_1497 : (.methodLink RL 105 yX5_ticketRides : Cond) ∈ GW := gw_of 1497 (by decide +kernel) rfl
theorem kw_1498 : (.instanceMethod yX5_ticketRides : Cond) ∈ GW := gw_of 1498 (by decide +kernel) rfl
theorem kw_1499 : (.selects RX5 yX5_ticketRides yX5_ticketRides : Cond) ∈ GW := gw_of 1499 (by decide +kernel) rfl
theorem kw_1500 : (.code yX5_ticketRides cX5_ticketRides 2 (some .int) : Cond) ∈ GW := gw_of 1500 (by decide +kernel) rfl
theorem kw_1501 : (.methodLink RL 285 yL_isInTime : Cond) ∈ GW := gw_of 1501 (by decide +kernel) rfl
theorem kw_1502 : (.static yL_isInTime : Cond) ∈ GW := gw_of 1502 (by decide +kernel) rfl
theorem kw_1503 : (.codeWith yL_isInTime cL_isInTime 4 (some .int) [(0, 16, 19, 19)] : Cond) ∈ GW := gw_of 1503 (by decide +kernel) rfl
theorem kw_1504 : (.methodLink RL 108 yX5_isInTime : Cond) ∈ GW := gw_of 1504 (by decide +kernel) rfl
theorem kw_1505 : (.instanceMethod yX5_isInTime : Cond) ∈ GW := gw_of 1505 (by decide +kernel) rfl
theorem kw_1506 : (.selects RX5 yX5_isInTime yX5_isInTime : Cond) ∈ GW := gw_of 1506 (by decide +kernel) rfl
theorem kw_1507 : (.code yX5_isInTime cX5_isInTime 2 (some .boolean) : Cond) ∈ GW := gw_of 1507 (by decide +kernel) rfl
theorem kw_1509 : (.methodLink RL 288 yL_casePassenger : Cond) ∈ GW := gw_of 1509 (by decide +kernel) rfl
theorem kw_1510 : (.static yL_casePassenger : Cond) ∈ GW := gw_of 1510 (by decide +kernel) rfl
theorem kw_1511 : (.codeWith yL_casePassenger cL_casePassenger 4 (some .int) [(0, 9, 12, 19)] : Cond) ∈ GW := gw_of 1511 (by decide +kernel) rfl
theorem kw_1512 : (.methodLink RL 111 yX5_casePassenger : Cond) ∈ GW := gw_of 1512 (by decide +kernel) rfl
theorem kw_1513 : (.instanceMethod yX5_casePassenger : Cond) ∈ GW := gw_of 1513 (by decide +kernel) rfl
theorem kw_1514 : (.selects RX5 yX5_casePassenger yX5_casePassenger : Cond) ∈ GW := gw_of 1514 (by decide +kernel) rfl
theorem kw_1515 : (.code yX5_casePassenger cX5_casePassenger 2 (some .int) : Cond) ∈ GW := gw_of 1515 (by decide +kernel) rfl
theorem kw_1516 : (.methodLink RL 291 yL_caseFault : Cond) ∈ GW := gw_of 1516 (by decide +kernel) rfl
theorem kw_1517 : (.static yL_caseFault : Cond) ∈ GW := gw_of 1517 (by decide +kernel) rfl
theorem kw_1518 : (.codeWith yL_caseFault cL_caseFault 4 (some .int) [(0, 9, 12, 19)] : Cond) ∈ GW := gw_of 1518 (by decide +kernel) rfl
theorem kw_1519 : (.methodLink RL 114 yX5_caseFault : Cond) ∈ GW := gw_of 1519 (by decide +kernel) rfl
theorem kw_1520 : (.instanceMethod yX5_caseFault : Cond) ∈ GW := gw_of 1520 (by decide +kernel) rfl
theorem kw_1521 : (.selects RX5 yX5_caseFault yX5_caseFault : Cond) ∈ GW := gw_of 1521 (by decide +kernel) rfl
theorem kw_1522 : (.code yX5_caseFault cX5_caseFault 2 (some .int) : Cond) ∈ GW := gw_of 1522 (by decide +kernel) rfl
theorem kw_1523 : (.methodLink RL 294 yL_caseState : Cond) ∈ GW := gw_of 1523 (by decide +kernel) rfl
theorem kw_1524 : (.static yL_caseState : Cond) ∈ GW := gw_of 1524 (by decide +kernel) rfl
theorem kw_1525 : (.codeWith yL_caseState cL_caseState 4 (some .int) [(0, 9, 12, 19)] : Cond) ∈ GW := gw_of 1525 (by decide +kernel) rfl
theorem kw_1526 : (.methodLink RL 117 yX5_caseState : Cond) ∈ GW := gw_of 1526 (by decide +kernel) rfl
theorem kw_1527 : (.instanceMethod yX5_caseState : Cond) ∈ GW := gw_of 1527 (by decide +kernel) rfl
theorem kw_1528 : (.selects RX5 yX5_caseState yX5_caseState : Cond) ∈ GW := gw_of 1528 (by decide +kernel) rfl
theorem kw_1529 : (.code yX5_caseState cX5_caseState 2 (some .int) : Cond) ∈ GW := gw_of 1529 (by decide +kernel) rfl
theorem kw_1530 : (.methodLink RL 297 yL_caseTime : Cond) ∈ GW := gw_of 1530 (by decide +kernel) rfl
theorem kw_1531 : (.static yL_caseTime : Cond) ∈ GW := gw_of 1531 (by decide +kernel) rfl
theorem kw_1532 : (.codeWith yL_caseTime cL_caseTime 4 (some .int) [(0, 9, 12, 19)] : Cond) ∈ GW := gw_of 1532 (by decide +kernel) rfl
theorem kw_1533 : (.methodLink RL 120 yX5_caseTime : Cond) ∈ GW := gw_of 1533 (by decide +kernel) rfl
theorem kw_1534 : (.instanceMethod yX5_caseTime : Cond) ∈ GW := gw_of 1534 (by decide +kernel) rfl
theorem kw_1535 : (.selects RX5 yX5_caseTime yX5_caseTime : Cond) ∈ GW := gw_of 1535 (by decide +kernel) rfl
theorem kw_1536 : (.code yX5_caseTime cX5_caseTime 2 (some .int) : Cond) ∈ GW := gw_of 1536 (by decide +kernel) rfl
theorem kw_1537 : (.methodLink RL 300 yL_amountDue : Cond) ∈ GW := gw_of 1537 (by decide +kernel) rfl
theorem kw_1538 : (.static yL_amountDue : Cond) ∈ GW := gw_of 1538 (by decide +kernel) rfl
theorem kw_1539 : (.codeWith yL_amountDue cL_amountDue 4 (some .int) [(0, 9, 12, 19)] : Cond) ∈ GW := gw_of 1539 (by decide +kernel) rfl
theorem kw_1540 : (.methodLink RL 123 yX5_amountDue : Cond) ∈ GW := gw_of 1540 (by decide +kernel) rfl
theorem kw_1541 : (.instanceMethod yX5_amountDue : Cond) ∈ GW := gw_of 1541 (by decide +kernel) rfl
theorem kw_1542 : (.selects RX5 yX5_amountDue yX5_amountDue : Cond) ∈ GW := gw_of 1542 (by decide +kernel) rfl
theorem kw_1543 : (.code yX5_amountDue cX5_amountDue 2 (some .int) : Cond) ∈ GW := gw_of 1543 (by decide +kernel) rfl
theorem kw_1544 : (.methodLink RL 303 yL_caseTicket : Cond) ∈ GW := gw_of 1544 (by decide +kernel) rfl
theorem kw_1545 : (.static yL_caseTicket : Cond) ∈ GW := gw_of 1545 (by decide +kernel) rfl
theorem kw_1546 : (.codeWith yL_caseTicket cL_caseTicket 4 (some .int) [(0, 9, 12, 19)] : Cond) ∈ GW := gw_of 1546 (by decide +kernel) rfl
theorem kw_1547 : (.methodLink RL 126 yX5_caseTicket : Cond) ∈ GW := gw_of 1547 (by decide +kernel) rfl
theorem kw_1548 : (.instanceMethod yX5_caseTicket : Cond) ∈ GW := gw_of 1548 (by decide +kernel) rfl
theorem kw_1549 : (.selects RX5 yX5_caseTicket yX5_caseTicket : Cond) ∈ GW := gw_of 1549 (by decide +kernel) rfl
theorem kw_1550 : (.code yX5_caseTicket cX5_caseTicket 2 (some .int) : Cond) ∈ GW := gw_of 1550 (by decide +kernel) rfl
theorem kw_1551 : (.methodLink RL 306 yL_isOverdue : Cond) ∈ GW := gw_of 1551 (by decide +kernel) rfl
theorem kw_1552 : (.static yL_isOverdue : Cond) ∈ GW := gw_of 1552 (by decide +kernel) rfl
theorem kw_1553 : (.codeWith yL_isOverdue cL_isOverdue 4 (some .int) [(0, 16, 19, 19)] : Cond) ∈ GW := gw_of 1553 (by decide +kernel) rfl
theorem kw_1554 : (.methodLink RL 129 yX5_isOverdue : Cond) ∈ GW := gw_of 1554 (by decide +kernel) rfl
theorem kw_1555 : (.instanceMethod yX5_isOverdue : Cond) ∈ GW := gw_of 1555 (by decide +kernel) rfl
theorem kw_1556 : (.selects RX5 yX5_isOverdue yX5_isOverdue : Cond) ∈ GW := gw_of 1556 (by decide +kernel) rfl
theorem kw_1557 : (.code yX5_isOverdue cX5_isOverdue 2 (some .boolean) : Cond) ∈ GW := gw_of 1557 (by decide +kernel) rfl
theorem kw_1558 : (.methodLink RL 309 yL_outlook : Cond) ∈ GW := gw_of 1558 (by decide +kernel) rfl
theorem kw_1559 : (.static yL_outlook : Cond) ∈ GW := gw_of 1559 (by decide +kernel) rfl
theorem kw_1560 : (.codeWith yL_outlook cL_outlook 5 (some .int) [(0, 10, 13, 19)] : Cond) ∈ GW := gw_of 1560 (by decide +kernel) rfl
theorem kw_1561 : (.methodLink RL 132 yX5_outlook : Cond) ∈ GW := gw_of 1561 (by decide +kernel) rfl
theorem kw_1562 : (.instanceMethod yX5_outlook : Cond) ∈ GW := gw_of 1562 (by decide +kernel) rfl
theorem kw_1563 : (.selects RX5 yX5_outlook yX5_outlook : Cond) ∈ GW := gw_of 1563 (by decide +kernel) rfl
theorem kw_1564 : (.code yX5_outlook cX5_outlook 3 (some .int) : Cond) ∈ GW := gw_of 1564 (by decide +kernel) rfl
theorem kw_1566 : (.classLink RL 136 RX6 : Cond) ∈ GW := gw_of 1566 (by decide +kernel) rfl
theorem kw_1567 : (.instantiable RX6 21 : Cond) ∈ GW := gw_of 1567 (by decide +kernel) rfl
theorem kw_1568 : (.methodLink RL 138 yX6_init : Cond) ∈ GW := gw_of 1568 (by decide +kernel) rfl
theorem kw_1569 : (.instanceMethod yX6_init : Cond) ∈ GW := gw_of 1569 (by decide +kernel) rfl
theorem kw_1570 : (.code yX6_init cX6_init 1 none : Cond) ∈ GW := gw_of 1570 (by decide +kernel) rfl
theorem kw_1867 : (.methodLink RL 150 yX6_thrown : Cond) ∈ GW := gw_of 1867 (by decide +kernel) rfl
theorem kw_1868 : (.instanceMethod yX6_thrown : Cond) ∈ GW := gw_of 1868 (by decide +kernel) rfl
theorem kw_1869 : (.selects RX6 yX6_thrown yX6_thrown : Cond) ∈ GW := gw_of 1869 (by decide +kernel) rfl
theorem kw_1870 : (.code yX6_thrown cX6_thrown 1 (some .int) : Cond) ∈ GW := gw_of 1870 (by decide +kernel) rfl
theorem kw_1871 : (.methodLink RL 143 yX6_append : Cond) ∈ GW := gw_of 1871 (by decide +kernel) rfl
theorem kw_1872 : (.instanceMethod yX6_append : Cond) ∈ GW := gw_of 1872 (by decide +kernel) rfl
theorem kw_1873 : (.selects RX6 yX6_append yX6_append : Cond) ∈ GW := gw_of 1873 (by decide +kernel) rfl
theorem kw_1874 : (.code yX6_append cX6_append 6 (some .int) : Cond) ∈ GW := gw_of 1874 (by decide +kernel) rfl
theorem kw_1879 : (.methodLink RL 149 yX6_truncateInput : Cond) ∈ GW := gw_of 1879 (by decide +kernel) rfl
theorem kw_1880 : (.instanceMethod yX6_truncateInput : Cond) ∈ GW := gw_of 1880 (by decide +kernel) rfl
theorem kw_1881 : (.selects RX6 yX6_truncateInput yX6_truncateInput : Cond) ∈ GW := gw_of 1881 (by decide +kernel) rfl
theorem kw_1882 : (.code yX6_truncateInput cX6_truncateInput 2 (some .int) : Cond) ∈ GW := gw_of 1882 (by decide +kernel) rfl
theorem kw_1887 : (.methodLink RL 156 yX6_load : Cond) ∈ GW := gw_of 1887 (by decide +kernel) rfl
theorem kw_1888 : (.methodLink RL 160 yX6_play : Cond) ∈ GW := gw_of 1888 (by decide +kernel) rfl
theorem kw_1889 : (.instanceMethod yX6_play : Cond) ∈ GW := gw_of 1889 (by decide +kernel) rfl
theorem kw_1890 : (.selects RX6 yX6_play yX6_play : Cond) ∈ GW := gw_of 1890 (by decide +kernel) rfl
theorem kw_1891 : (.code yX6_play cX6_play 1 (some .int) : Cond) ∈ GW := gw_of 1891 (by decide +kernel) rfl
theorem kw_1892 : (.methodLink RL 164 yX6_errorCode : Cond) ∈ GW := gw_of 1892 (by decide +kernel) rfl
theorem kw_1893 : (.instanceMethod yX6_errorCode : Cond) ∈ GW := gw_of 1893 (by decide +kernel) rfl
theorem kw_1894 : (.selects RX6 yX6_errorCode yX6_errorCode : Cond) ∈ GW := gw_of 1894 (by decide +kernel) rfl
theorem kw_1895 : (.code yX6_errorCode cX6_errorCode 1 (some .int) : Cond) ∈ GW := gw_of 1895 (by decide +kernel) rfl
theorem kw_1900 : (.methodLink RL 168 yX6_errorOffset : Cond) ∈ GW := gw_of 1900 (by decide +kernel) rfl
theorem kw_1901 : (.instanceMethod yX6_errorOffset : Cond) ∈ GW := gw_of 1901 (by decide +kernel) rfl
theorem kw_1902 : (.selects RX6 yX6_errorOffset yX6_errorOffset : Cond) ∈ GW := gw_of 1902 (by decide +kernel) rfl
theorem kw_1903 : (.code yX6_errorOffset cX6_errorOffset 1 (some .int) : Cond) ∈ GW := gw_of 1903 (by decide +kernel) rfl
theorem kw_1904 : (.methodLink RL 172 yX6_buy : Cond) ∈ GW := gw_of 1904 (by decide +kernel) rfl
theorem kw_1905 : (.instanceMethod yX6_buy : Cond) ∈ GW := gw_of 1905 (by decide +kernel) rfl
theorem kw_1906 : (.selects RX6 yX6_buy yX6_buy : Cond) ∈ GW := gw_of 1906 (by decide +kernel) rfl
theorem kw_1907 : (.code yX6_buy cX6_buy 6 (some .int) : Cond) ∈ GW := gw_of 1907 (by decide +kernel) rfl
theorem kw_1912 : (.methodLink RL 176 yX6_ride : Cond) ∈ GW := gw_of 1912 (by decide +kernel) rfl
theorem kw_1913 : (.instanceMethod yX6_ride : Cond) ∈ GW := gw_of 1913 (by decide +kernel) rfl
theorem kw_1914 : (.selects RX6 yX6_ride yX6_ride : Cond) ∈ GW := gw_of 1914 (by decide +kernel) rfl
theorem kw_1915 : (.code yX6_ride cX6_ride 6 (some .int) : Cond) ∈ GW := gw_of 1915 (by decide +kernel) rfl
theorem kw_1924 : (.methodLink RL 179 yX6_inspect : Cond) ∈ GW := gw_of 1924 (by decide +kernel) rfl
theorem kw_1925 : (.instanceMethod yX6_inspect : Cond) ∈ GW := gw_of 1925 (by decide +kernel) rfl
theorem kw_1926 : (.selects RX6 yX6_inspect yX6_inspect : Cond) ∈ GW := gw_of 1926 (by decide +kernel) rfl
theorem kw_1927 : (.code yX6_inspect cX6_inspect 3 (some .int) : Cond) ∈ GW := gw_of 1927 (by decide +kernel) rfl
theorem kw_1928 : (.methodLink RL 182 yX6_waitFor : Cond) ∈ GW := gw_of 1928 (by decide +kernel) rfl
theorem kw_1929 : (.instanceMethod yX6_waitFor : Cond) ∈ GW := gw_of 1929 (by decide +kernel) rfl
theorem kw_1930 : (.selects RX6 yX6_waitFor yX6_waitFor : Cond) ∈ GW := gw_of 1930 (by decide +kernel) rfl
theorem kw_1931 : (.code yX6_waitFor cX6_waitFor 3 (some .int) : Cond) ∈ GW := gw_of 1931 (by decide +kernel) rfl
theorem kw_1932 : (.methodLink RL 186 yX6_appeal : Cond) ∈ GW := gw_of 1932 (by decide +kernel) rfl
theorem kw_1933 : (.instanceMethod yX6_appeal : Cond) ∈ GW := gw_of 1933 (by decide +kernel) rfl
theorem kw_1934 : (.selects RX6 yX6_appeal yX6_appeal : Cond) ∈ GW := gw_of 1934 (by decide +kernel) rfl
theorem kw_1935 : (.code yX6_appeal cX6_appeal 4 (some .int) : Cond) ∈ GW := gw_of 1935 (by decide +kernel) rfl
theorem kw_1940 : (.methodLink RL 189 yX6_decide : Cond) ∈ GW := gw_of 1940 (by decide +kernel) rfl
theorem kw_1941 : (.instanceMethod yX6_decide : Cond) ∈ GW := gw_of 1941 (by decide +kernel) rfl
theorem kw_1942 : (.selects RX6 yX6_decide yX6_decide : Cond) ∈ GW := gw_of 1942 (by decide +kernel) rfl
theorem kw_1943 : (.code yX6_decide cX6_decide 3 (some .int) : Cond) ∈ GW := gw_of 1943 (by decide +kernel) rfl
theorem kw_1944 : (.methodLink RL 192 yX6_pay : Cond) ∈ GW := gw_of 1944 (by decide +kernel) rfl
theorem kw_1945 : (.instanceMethod yX6_pay : Cond) ∈ GW := gw_of 1945 (by decide +kernel) rfl
theorem kw_1946 : (.selects RX6 yX6_pay yX6_pay : Cond) ∈ GW := gw_of 1946 (by decide +kernel) rfl
theorem kw_1947 : (.code yX6_pay cX6_pay 3 (some .int) : Cond) ∈ GW := gw_of 1947 (by decide +kernel) rfl
theorem kw_1948 : (.methodLink RL 196 yX6_undo : Cond) ∈ GW := gw_of 1948 (by decide +kernel) rfl
theorem kw_1949 : (.instanceMethod yX6_undo : Cond) ∈ GW := gw_of 1949 (by decide +kernel) rfl
theorem kw_1950 : (.selects RX6 yX6_undo yX6_undo : Cond) ∈ GW := gw_of 1950 (by decide +kernel) rfl
theorem kw_1951 : (.code yX6_undo cX6_undo 1 (some .int) : Cond) ∈ GW := gw_of 1951 (by decide +kernel) rfl
theorem kw_1952 : (.methodLink RL 199 yX6_save : Cond) ∈ GW := gw_of 1952 (by decide +kernel) rfl
theorem kw_1953 : (.instanceMethod yX6_save : Cond) ∈ GW := gw_of 1953 (by decide +kernel) rfl
theorem kw_1954 : (.selects RX6 yX6_save yX6_save : Cond) ∈ GW := gw_of 1954 (by decide +kernel) rfl
theorem kw_1955 : (.code yX6_save cX6_save 2 (some .int) : Cond) ∈ GW := gw_of 1955 (by decide +kernel) rfl
theorem kw_1956 : (.methodLink RL 202 yX6_restore : Cond) ∈ GW := gw_of 1956 (by decide +kernel) rfl
theorem kw_1957 : (.instanceMethod yX6_restore : Cond) ∈ GW := gw_of 1957 (by decide +kernel) rfl
theorem kw_1958 : (.selects RX6 yX6_restore yX6_restore : Cond) ∈ GW := gw_of 1958 (by decide +kernel) rfl
theorem kw_1959 : (.code yX6_restore cX6_restore 3 (some .int) : Cond) ∈ GW := gw_of 1959 (by decide +kernel) rfl
theorem kw_1960 : (.methodLink RL 206 yX6_clock : Cond) ∈ GW := gw_of 1960 (by decide +kernel) rfl
theorem kw_1961 : (.instanceMethod yX6_clock : Cond) ∈ GW := gw_of 1961 (by decide +kernel) rfl
theorem kw_1962 : (.selects RX6 yX6_clock yX6_clock : Cond) ∈ GW := gw_of 1962 (by decide +kernel) rfl
theorem kw_1963 : (.code yX6_clock cX6_clock 1 (some .int) : Cond) ∈ GW := gw_of 1963 (by decide +kernel) rfl
theorem kw_1964 : (.methodLink RL 210 yX6_day : Cond) ∈ GW := gw_of 1964 (by decide +kernel) rfl
theorem kw_1965 : (.instanceMethod yX6_day : Cond) ∈ GW := gw_of 1965 (by decide +kernel) rfl
theorem kw_1966 : (.selects RX6 yX6_day yX6_day : Cond) ∈ GW := gw_of 1966 (by decide +kernel) rfl
theorem kw_1967 : (.code yX6_day cX6_day 1 (some .int) : Cond) ∈ GW := gw_of 1967 (by decide +kernel) rfl
theorem kw_1968 : (.methodLink RL 214 yX6_stopCount : Cond) ∈ GW := gw_of 1968 (by decide +kernel) rfl
theorem kw_1969 : (.instanceMethod yX6_stopCount : Cond) ∈ GW := gw_of 1969 (by decide +kernel) rfl
theorem kw_1970 : (.selects RX6 yX6_stopCount yX6_stopCount : Cond) ∈ GW := gw_of 1970 (by decide +kernel) rfl
theorem kw_1971 : (.code yX6_stopCount cX6_stopCount 1 (some .int) : Cond) ∈ GW := gw_of 1971 (by decide +kernel) rfl
theorem kw_1972 : (.methodLink RL 218 yX6_passengerCount : Cond) ∈ GW := gw_of 1972 (by decide +kernel) rfl
theorem kw_1973 : (.instanceMethod yX6_passengerCount : Cond) ∈ GW := gw_of 1973 (by decide +kernel) rfl
theorem kw_1974 : (.selects RX6 yX6_passengerCount yX6_passengerCount : Cond) ∈ GW := gw_of 1974 (by decide +kernel) rfl
theorem kw_1975 : (.code yX6_passengerCount cX6_passengerCount 1 (some .int) : Cond) ∈ GW := gw_of 1975 (by decide +kernel) rfl
theorem kw_1976 : (.methodLink RL 222 yX6_ticketCount : Cond) ∈ GW := gw_of 1976 (by decide +kernel) rfl
theorem kw_1977 : (.instanceMethod yX6_ticketCount : Cond) ∈ GW := gw_of 1977 (by decide +kernel) rfl
theorem kw_1978 : (.selects RX6 yX6_ticketCount yX6_ticketCount : Cond) ∈ GW := gw_of 1978 (by decide +kernel) rfl
theorem kw_1979 : (.code yX6_ticketCount cX6_ticketCount 1 (some .int) : Cond) ∈ GW := gw_of 1979 (by decide +kernel) rfl
theorem kw_1980 : (.methodLink RL 226 yX6_caseCount : Cond) ∈ GW := gw_of 1980 (by decide +kernel) rfl
theorem kw_1981 : (.instanceMethod yX6_caseCount : Cond) ∈ GW := gw_of 1981 (by decide +kernel) rfl
theorem kw_1982 : (.selects RX6 yX6_caseCount yX6_caseCount : Cond) ∈ GW := gw_of 1982 (by decide +kernel) rfl
theorem kw_1983 : (.code yX6_caseCount cX6_caseCount 1 (some .int) : Cond) ∈ GW := gw_of 1983 (by decide +kernel) rfl
theorem kw_1984 : (.methodLink RL 230 yX6_undoableChanges : Cond) ∈ GW := gw_of 1984 (by decide +kernel) rfl
theorem kw_1985 : (.instanceMethod yX6_undoableChanges : Cond) ∈ GW := gw_of 1985 (by decide +kernel) rfl
theorem kw_1986 : (.selects RX6 yX6_undoableChanges yX6_undoableChanges : Cond) ∈ GW := gw_of 1986 (by decide +kernel) rfl
theorem kw_1987 : (.code yX6_undoableChanges cX6_undoableChanges 1 (some .int) : Cond) ∈ GW := gw_of 1987 (by decide +kernel) rfl
theorem kw_1988 : (.methodLink RL 233 yX6_zone : Cond) ∈ GW := gw_of 1988 (by decide +kernel) rfl
theorem kw_1989 : (.instanceMethod yX6_zone : Cond) ∈ GW := gw_of 1989 (by decide +kernel) rfl
theorem kw_1990 : (.selects RX6 yX6_zone yX6_zone : Cond) ∈ GW := gw_of 1990 (by decide +kernel) rfl
theorem kw_1991 : (.code yX6_zone cX6_zone 2 (some .int) : Cond) ∈ GW := gw_of 1991 (by decide +kernel) rfl
theorem kw_1992 : (.methodLink RL 236 yX6_zonesBetween : Cond) ∈ GW := gw_of 1992 (by decide +kernel) rfl
theorem kw_1993 : (.instanceMethod yX6_zonesBetween : Cond) ∈ GW := gw_of 1993 (by decide +kernel) rfl
theorem kw_1994 : (.selects RX6 yX6_zonesBetween yX6_zonesBetween : Cond) ∈ GW := gw_of 1994 (by decide +kernel) rfl
theorem kw_1995 : (.code yX6_zonesBetween cX6_zonesBetween 3 (some .int) : Cond) ∈ GW := gw_of 1995 (by decide +kernel) rfl
theorem kw_1996 : (.methodLink RL 239 yX6_money : Cond) ∈ GW := gw_of 1996 (by decide +kernel) rfl
theorem kw_1997 : (.instanceMethod yX6_money : Cond) ∈ GW := gw_of 1997 (by decide +kernel) rfl
theorem kw_1998 : (.selects RX6 yX6_money yX6_money : Cond) ∈ GW := gw_of 1998 (by decide +kernel) rfl
theorem kw_1999 : (.code yX6_money cX6_money 2 (some .int) : Cond) ∈ GW := gw_of 1999 (by decide +kernel) rfl
theorem kw_2004 : (.methodLink RL 242 yX6_isRiding : Cond) ∈ GW := gw_of 2004 (by decide +kernel) rfl
theorem kw_2005 : (.instanceMethod yX6_isRiding : Cond) ∈ GW := gw_of 2005 (by decide +kernel) rfl
theorem kw_2006 : (.selects RX6 yX6_isRiding yX6_isRiding : Cond) ∈ GW := gw_of 2006 (by decide +kernel) rfl
theorem kw_2007 : (.code yX6_isRiding cX6_isRiding 2 (some .boolean) : Cond) ∈ GW := gw_of 2007 (by decide +kernel) rfl
theorem kw_2008 : (.methodLink RL 245 yX6_rideEnd : Cond) ∈ GW := gw_of 2008 (by decide +kernel) rfl
theorem kw_2009 : (.instanceMethod yX6_rideEnd : Cond) ∈ GW := gw_of 2009 (by decide +kernel) rfl
theorem kw_2010 : (.selects RX6 yX6_rideEnd yX6_rideEnd : Cond) ∈ GW := gw_of 2010 (by decide +kernel) rfl
theorem kw_2011 : (.code yX6_rideEnd cX6_rideEnd 2 (some .int) : Cond) ∈ GW := gw_of 2011 (by decide +kernel) rfl
theorem kw_2012 : (.methodLink RL 248 yX6_rideTicket : Cond) ∈ GW := gw_of 2012 (by decide +kernel) rfl
theorem kw_2013 : (.instanceMethod yX6_rideTicket : Cond) ∈ GW := gw_of 2013 (by decide +kernel) rfl
theorem kw_2014 : (.selects RX6 yX6_rideTicket yX6_rideTicket : Cond) ∈ GW := gw_of 2014 (by decide +kernel) rfl
theorem kw_2015 : (.code yX6_rideTicket cX6_rideTicket 2 (some .int) : Cond) ∈ GW := gw_of 2015 (by decide +kernel) rfl
theorem kw_2016 : (.methodLink RL 251 yX6_faultNow : Cond) ∈ GW := gw_of 2016 (by decide +kernel) rfl
theorem kw_2017 : (.instanceMethod yX6_faultNow : Cond) ∈ GW := gw_of 2017 (by decide +kernel) rfl
theorem kw_2018 : (.selects RX6 yX6_faultNow yX6_faultNow : Cond) ∈ GW := gw_of 2018 (by decide +kernel) rfl
theorem kw_2019 : (.code yX6_faultNow cX6_faultNow 2 (some .int) : Cond) ∈ GW := gw_of 2019 (by decide +kernel) rfl
theorem kw_2020 : (.methodLink RL 254 yX6_debt : Cond) ∈ GW := gw_of 2020 (by decide +kernel) rfl
theorem kw_2021 : (.instanceMethod yX6_debt : Cond) ∈ GW := gw_of 2021 (by decide +kernel) rfl
theorem kw_2022 : (.selects RX6 yX6_debt yX6_debt : Cond) ∈ GW := gw_of 2022 (by decide +kernel) rfl
theorem kw_2023 : (.code yX6_debt cX6_debt 4 (some .int) : Cond) ∈ GW := gw_of 2023 (by decide +kernel) rfl
theorem kw_2024 : (.methodLink RL 257 yX6_unpaidCases : Cond) ∈ GW := gw_of 2024 (by decide +kernel) rfl
theorem kw_2025 : (.instanceMethod yX6_unpaidCases : Cond) ∈ GW := gw_of 2025 (by decide +kernel) rfl
theorem kw_2026 : (.selects RX6 yX6_unpaidCases yX6_unpaidCases : Cond) ∈ GW := gw_of 2026 (by decide +kernel) rfl
theorem kw_2027 : (.code yX6_unpaidCases cX6_unpaidCases 4 (some .int) : Cond) ∈ GW := gw_of 2027 (by decide +kernel) rfl
theorem kw_2028 : (.methodLink RL 260 yX6_nameByte : Cond) ∈ GW := gw_of 2028 (by decide +kernel) rfl
theorem kw_2029 : (.instanceMethod yX6_nameByte : Cond) ∈ GW := gw_of 2029 (by decide +kernel) rfl
theorem kw_2030 : (.selects RX6 yX6_nameByte yX6_nameByte : Cond) ∈ GW := gw_of 2030 (by decide +kernel) rfl
theorem kw_2031 : (.code yX6_nameByte cX6_nameByte 3 (some .int) : Cond) ∈ GW := gw_of 2031 (by decide +kernel) rfl
theorem kw_2032 : (.methodLink RL 263 yX6_cheapestKind : Cond) ∈ GW := gw_of 2032 (by decide +kernel) rfl
theorem kw_2033 : (.instanceMethod yX6_cheapestKind : Cond) ∈ GW := gw_of 2033 (by decide +kernel) rfl
theorem kw_2034 : (.selects RX6 yX6_cheapestKind yX6_cheapestKind : Cond) ∈ GW := gw_of 2034 (by decide +kernel) rfl
theorem kw_2035 : (.code yX6_cheapestKind cX6_cheapestKind 4 (some .int) : Cond) ∈ GW := gw_of 2035 (by decide +kernel) rfl
theorem kw_2036 : (.methodLink RL 266 yX6_ticketHolder : Cond) ∈ GW := gw_of 2036 (by decide +kernel) rfl
theorem kw_2037 : (.instanceMethod yX6_ticketHolder : Cond) ∈ GW := gw_of 2037 (by decide +kernel) rfl
theorem kw_2038 : (.selects RX6 yX6_ticketHolder yX6_ticketHolder : Cond) ∈ GW := gw_of 2038 (by decide +kernel) rfl
theorem kw_2039 : (.code yX6_ticketHolder cX6_ticketHolder 2 (some .int) : Cond) ∈ GW := gw_of 2039 (by decide +kernel) rfl
theorem kw_2044 : (.methodLink RL 269 yX6_ticketKind : Cond) ∈ GW := gw_of 2044 (by decide +kernel) rfl
theorem kw_2045 : (.instanceMethod yX6_ticketKind : Cond) ∈ GW := gw_of 2045 (by decide +kernel) rfl
theorem kw_2046 : (.selects RX6 yX6_ticketKind yX6_ticketKind : Cond) ∈ GW := gw_of 2046 (by decide +kernel) rfl
theorem kw_2047 : (.code yX6_ticketKind cX6_ticketKind 2 (some .int) : Cond) ∈ GW := gw_of 2047 (by decide +kernel) rfl
theorem kw_2048 : (.methodLink RL 272 yX6_ticketZones : Cond) ∈ GW := gw_of 2048 (by decide +kernel) rfl
theorem kw_2049 : (.instanceMethod yX6_ticketZones : Cond) ∈ GW := gw_of 2049 (by decide +kernel) rfl
theorem kw_2050 : (.selects RX6 yX6_ticketZones yX6_ticketZones : Cond) ∈ GW := gw_of 2050 (by decide +kernel) rfl
theorem kw_2051 : (.code yX6_ticketZones cX6_ticketZones 2 (some .int) : Cond) ∈ GW := gw_of 2051 (by decide +kernel) rfl
theorem kw_2052 : (.methodLink RL 275 yX6_ticketPrice : Cond) ∈ GW := gw_of 2052 (by decide +kernel) rfl
theorem kw_2053 : (.instanceMethod yX6_ticketPrice : Cond) ∈ GW := gw_of 2053 (by decide +kernel) rfl
theorem kw_2054 : (.selects RX6 yX6_ticketPrice yX6_ticketPrice : Cond) ∈ GW := gw_of 2054 (by decide +kernel) rfl
theorem kw_2055 : (.code yX6_ticketPrice cX6_ticketPrice 2 (some .int) : Cond) ∈ GW := gw_of 2055 (by decide +kernel) rfl
theorem kw_2056 : (.methodLink RL 278 yX6_stampTime : Cond) ∈ GW := gw_of 2056 (by decide +kernel) rfl
theorem kw_2057 : (.instanceMethod yX6_stampTime : Cond) ∈ GW := gw_of 2057 (by decide +kernel) rfl
theorem kw_2058 : (.selects RX6 yX6_stampTime yX6_stampTime : Cond) ∈ GW := gw_of 2058 (by decide +kernel) rfl
theorem kw_2059 : (.code yX6_stampTime cX6_stampTime 2 (some .int) : Cond) ∈ GW := gw_of 2059 (by decide +kernel) rfl
theorem kw_2060 : (.methodLink RL 281 yX6_stampStop : Cond) ∈ GW := gw_of 2060 (by decide +kernel) rfl
theorem kw_2061 : (.instanceMethod yX6_stampStop : Cond) ∈ GW := gw_of 2061 (by decide +kernel) rfl
theorem kw_2062 : (.selects RX6 yX6_stampStop yX6_stampStop : Cond) ∈ GW := gw_of 2062 (by decide +kernel) rfl
theorem kw_2063 : (.code yX6_stampStop cX6_stampStop 2 (some .int) : Cond) ∈ GW := gw_of 2063 (by decide +kernel) rfl
theorem kw_2064 : (.methodLink RL 284 yX6_ticketRides : Cond) ∈ GW := gw_of 2064 (by decide +kernel) rfl
theorem kw_2065 : (.instanceMethod yX6_ticketRides : Cond) ∈ GW := gw_of 2065 (by decide +kernel) rfl
theorem kw_2066 : (.selects RX6 yX6_ticketRides yX6_ticketRides : Cond) ∈ GW := gw_of 2066 (by decide +kernel) rfl
theorem kw_2067 : (.code yX6_ticketRides cX6_ticketRides 2 (some .int) : Cond) ∈ GW := gw_of 2067 (by decide +kernel) rfl
theorem kw_2068 : (.methodLink RL 287 yX6_isInTime : Cond) ∈ GW := gw_of 2068 (by decide +kernel) rfl
theorem kw_2069 : (.instanceMethod yX6_isInTime : Cond) ∈ GW := gw_of 2069 (by decide +kernel) rfl
theorem kw_2070 : (.selects RX6 yX6_isInTime yX6_isInTime : Cond) ∈ GW := gw_of 2070 (by decide +kernel) rfl
theorem kw_2071 : (.code yX6_isInTime cX6_isInTime 2 (some .boolean) : Cond) ∈ GW := gw_of 2071 (by decide +kernel) rfl
theorem kw_2072 : (.methodLink RL 290 yX6_casePassenger : Cond) ∈ GW := gw_of 2072 (by decide +kernel) rfl
theorem kw_2073 : (.instanceMethod yX6_casePassenger : Cond) ∈ GW := gw_of 2073 (by decide +kernel) rfl
theorem kw_2074 : (.selects RX6 yX6_casePassenger yX6_casePassenger : Cond) ∈ GW := gw_of 2074 (by decide +kernel) rfl
theorem kw_2075 : (.code yX6_casePassenger cX6_casePassenger 2 (some .int) : Cond) ∈ GW := gw_of 2075 (by decide +kernel) rfl
theorem kw_2080 : (.methodLink RL 293 yX6_caseFault : Cond) ∈ GW := gw_of 2080 (by decide +kernel) rfl
theorem kw_2081 : (.instanceMethod yX6_caseFault : Cond) ∈ GW := gw_of 2081 (by decide +kernel) rfl
theorem kw_2082 : (.selects RX6 yX6_caseFault yX6_caseFault : Cond) ∈ GW := gw_of 2082 (by decide +kernel) rfl
theorem kw_2083 : (.code yX6_caseFault cX6_caseFault 2 (some .int) : Cond) ∈ GW := gw_of 2083 (by decide +kernel) rfl
theorem kw_2084 : (.methodLink RL 296 yX6_caseState : Cond) ∈ GW := gw_of 2084 (by decide +kernel) rfl
theorem kw_2085 : (.instanceMethod yX6_caseState : Cond) ∈ GW := gw_of 2085 (by decide +kernel) rfl
theorem kw_2086 : (.selects RX6 yX6_caseState yX6_caseState : Cond) ∈ GW := gw_of 2086 (by decide +kernel) rfl
theorem kw_2087 : (.code yX6_caseState cX6_caseState 2 (some .int) : Cond) ∈ GW := gw_of 2087 (by decide +kernel) rfl
theorem kw_2088 : (.methodLink RL 299 yX6_caseTime : Cond) ∈ GW := gw_of 2088 (by decide +kernel) rfl
theorem kw_2089 : (.instanceMethod yX6_caseTime : Cond) ∈ GW := gw_of 2089 (by decide +kernel) rfl
theorem kw_2090 : (.selects RX6 yX6_caseTime yX6_caseTime : Cond) ∈ GW := gw_of 2090 (by decide +kernel) rfl
theorem kw_2091 : (.code yX6_caseTime cX6_caseTime 2 (some .int) : Cond) ∈ GW := gw_of 2091 (by decide +kernel) rfl
theorem kw_2092 : (.methodLink RL 302 yX6_amountDue : Cond) ∈ GW := gw_of 2092 (by decide +kernel) rfl
theorem kw_2093 : (.instanceMethod yX6_amountDue : Cond) ∈ GW := gw_of 2093 (by decide +kernel) rfl
theorem kw_2094 : (.selects RX6 yX6_amountDue yX6_amountDue : Cond) ∈ GW := gw_of 2094 (by decide +kernel) rfl
theorem kw_2095 : (.code yX6_amountDue cX6_amountDue 2 (some .int) : Cond) ∈ GW := gw_of 2095 (by decide +kernel) rfl
theorem kw_2096 : (.methodLink RL 305 yX6_caseTicket : Cond) ∈ GW := gw_of 2096 (by decide +kernel) rfl
theorem kw_2097 : (.instanceMethod yX6_caseTicket : Cond) ∈ GW := gw_of 2097 (by decide +kernel) rfl
theorem kw_2098 : (.selects RX6 yX6_caseTicket yX6_caseTicket : Cond) ∈ GW := gw_of 2098 (by decide +kernel) rfl
theorem kw_2099 : (.code yX6_caseTicket cX6_caseTicket 2 (some .int) : Cond) ∈ GW := gw_of 2099 (by decide +kernel) rfl
theorem kw_2100 : (.methodLink RL 308 yX6_isOverdue : Cond) ∈ GW := gw_of 2100 (by decide +kernel) rfl
theorem kw_2101 : (.instanceMethod yX6_isOverdue : Cond) ∈ GW := gw_of 2101 (by decide +kernel) rfl
theorem kw_2102 : (.selects RX6 yX6_isOverdue yX6_isOverdue : Cond) ∈ GW := gw_of 2102 (by decide +kernel) rfl
theorem kw_2103 : (.code yX6_isOverdue cX6_isOverdue 2 (some .boolean) : Cond) ∈ GW := gw_of 2103 (by decide +kernel) rfl
theorem kw_2104 : (.methodLink RL 311 yX6_outlook : Cond) ∈ GW := gw_of 2104 (by decide +kernel) rfl
theorem kw_2105 : (.instanceMethod yX6_outlook : Cond) ∈ GW := gw_of 2105 (by decide +kernel) rfl
theorem kw_2106 : (.selects RX6 yX6_outlook yX6_outlook : Cond) ∈ GW := gw_of 2106 (by decide +kernel) rfl
theorem kw_2107 : (.code yX6_outlook cX6_outlook 3 (some .int) : Cond) ∈ GW := gw_of 2107 (by decide +kernel) rfl
theorem kw_2108 : (.methodLink RL 315 yX6_ticketSales : Cond) ∈ GW := gw_of 2108 (by decide +kernel) rfl
theorem kw_2109 : (.instanceMethod yX6_ticketSales : Cond) ∈ GW := gw_of 2109 (by decide +kernel) rfl
theorem kw_2110 : (.selects RX6 yX6_ticketSales yX6_ticketSales : Cond) ∈ GW := gw_of 2110 (by decide +kernel) rfl
theorem kw_2111 : (.code yX6_ticketSales cX6_ticketSales 1 (some .int) : Cond) ∈ GW := gw_of 2111 (by decide +kernel) rfl
theorem kw_2112 : (.methodLink RL 319 yX6_finesPaid : Cond) ∈ GW := gw_of 2112 (by decide +kernel) rfl
theorem kw_2113 : (.instanceMethod yX6_finesPaid : Cond) ∈ GW := gw_of 2113 (by decide +kernel) rfl
theorem kw_2114 : (.selects RX6 yX6_finesPaid yX6_finesPaid : Cond) ∈ GW := gw_of 2114 (by decide +kernel) rfl
theorem kw_2115 : (.code yX6_finesPaid cX6_finesPaid 1 (some .int) : Cond) ∈ GW := gw_of 2115 (by decide +kernel) rfl
theorem kw_2116 : (.methodLink RL 323 yX6_inspections : Cond) ∈ GW := gw_of 2116 (by decide +kernel) rfl
theorem kw_2117 : (.instanceMethod yX6_inspections : Cond) ∈ GW := gw_of 2117 (by decide +kernel) rfl
theorem kw_2118 : (.selects RX6 yX6_inspections yX6_inspections : Cond) ∈ GW := gw_of 2118 (by decide +kernel) rfl
theorem kw_2119 : (.code yX6_inspections cX6_inspections 1 (some .int) : Cond) ∈ GW := gw_of 2119 (by decide +kernel) rfl
theorem kw_2120 : (.methodLink RL 327 yX6_inconsistencies : Cond) ∈ GW := gw_of 2120 (by decide +kernel) rfl
theorem kw_2121 : (.instanceMethod yX6_inconsistencies : Cond) ∈ GW := gw_of 2121 (by decide +kernel) rfl
theorem kw_2122 : (.selects RX6 yX6_inconsistencies yX6_inconsistencies : Cond) ∈ GW := gw_of 2122 (by decide +kernel) rfl
theorem kw_2123 : (.code yX6_inconsistencies cX6_inconsistencies 4 (some .int) : Cond) ∈ GW := gw_of 2123 (by decide +kernel) rfl
theorem kw_2124 : (.methodLink RL 332 yX6_faultShare : Cond) ∈ GW := gw_of 2124 (by decide +kernel) rfl
theorem kw_2125 : (.instanceMethod yX6_faultShare : Cond) ∈ GW := gw_of 2125 (by decide +kernel) rfl
theorem kw_2126 : (.selects RX6 yX6_faultShare yX6_faultShare : Cond) ∈ GW := gw_of 2126 (by decide +kernel) rfl
theorem kw_2127 : (.code yX6_faultShare cX6_faultShare 1 (some .double) : Cond) ∈ GW := gw_of 2127 (by decide +kernel) rfl
theorem kw_2128 : (.methodLink RL 337 yX6_meanPrice : Cond) ∈ GW := gw_of 2128 (by decide +kernel) rfl
theorem kw_2129 : (.instanceMethod yX6_meanPrice : Cond) ∈ GW := gw_of 2129 (by decide +kernel) rfl
theorem kw_2130 : (.selects RX6 yX6_meanPrice yX6_meanPrice : Cond) ∈ GW := gw_of 2130 (by decide +kernel) rfl
theorem kw_2131 : (.code yX6_meanPrice cX6_meanPrice 1 (some .float) : Cond) ∈ GW := gw_of 2131 (by decide +kernel) rfl
theorem kw_2132 : (.methodLink RL 341 yX6_writeCases : Cond) ∈ GW := gw_of 2132 (by decide +kernel) rfl
theorem kw_2133 : (.instanceMethod yX6_writeCases : Cond) ∈ GW := gw_of 2133 (by decide +kernel) rfl
theorem kw_2134 : (.selects RX6 yX6_writeCases yX6_writeCases : Cond) ∈ GW := gw_of 2134 (by decide +kernel) rfl
theorem kw_2135 : (.code yX6_writeCases cX6_writeCases 4 (some .int) : Cond) ∈ GW := gw_of 2135 (by decide +kernel) rfl
theorem kw_2144 : (.methodLink RL 345 yX6_outputByte : Cond) ∈ GW := gw_of 2144 (by decide +kernel) rfl
theorem kw_2145 : (.instanceMethod yX6_outputByte : Cond) ∈ GW := gw_of 2145 (by decide +kernel) rfl
theorem kw_2146 : (.selects RX6 yX6_outputByte yX6_outputByte : Cond) ∈ GW := gw_of 2146 (by decide +kernel) rfl
theorem kw_2147 : (.code yX6_outputByte cX6_outputByte 2 (some .int) : Cond) ∈ GW := gw_of 2147 (by decide +kernel) rfl
theorem kw_2148 : (.arrayClass .long : Cond) ∈ GW := gw_of 2148 (by decide +kernel) rfl
theorem dL_truncateInput_0 : decode cL_truncateInput 0 = .ok (.aload_n 2, 1) := by decide +kernel
theorem dL_truncateInput_1 : decode cL_truncateInput 1 = .ok (.iconst 0, 1) := by decide +kernel
theorem dL_truncateInput_2 : decode cL_truncateInput 2 = .ok (.aload_n 0, 1) := by decide +kernel
theorem dL_truncateInput_3 : decode cL_truncateInput 3 = .ok (.iload_n 1, 1) := by decide +kernel
theorem dL_truncateInput_4 : decode cL_truncateInput 4 = .ok (.invokevirtual 7, 3) := by decide +kernel
theorem dL_truncateInput_7 : decode cL_truncateInput 7 = .ok (.i2l, 1) := by decide +kernel
theorem dL_truncateInput_8 : decode cL_truncateInput 8 = .ok (.lastore, 1) := by decide +kernel
theorem dL_truncateInput_9 : decode cL_truncateInput 9 = .ok (.goto 6, 3) := by decide +kernel
theorem dL_truncateInput_12 : decode cL_truncateInput 12 = .ok (.astore_n 3, 1) := by decide +kernel
theorem dL_truncateInput_13 : decode cL_truncateInput 13 = .ok (.iconst 1, 1) := by decide +kernel
theorem dL_truncateInput_14 : decode cL_truncateInput 14 = .ok (.ireturn, 1) := by decide +kernel
theorem dL_truncateInput_15 : decode cL_truncateInput 15 = .ok (.iconst 0, 1) := by decide +kernel
theorem dL_truncateInput_16 : decode cL_truncateInput 16 = .ok (.ireturn, 1) := by decide +kernel
theorem dL_buy_0 : decode cL_buy 0 = .ok (.aload 4, 2) := by decide +kernel
theorem dL_buy_2 : decode cL_buy 2 = .ok (.iconst 0, 1) := by decide +kernel
theorem dL_buy_3 : decode cL_buy 3 = .ok (.aload_n 0, 1) := by decide +kernel
theorem dL_buy_4 : decode cL_buy 4 = .ok (.iload_n 1, 1) := by decide +kernel
theorem dL_buy_5 : decode cL_buy 5 = .ok (.iload_n 2, 1) := by decide +kernel
theorem dL_buy_6 : decode cL_buy 6 = .ok (.iload_n 3, 1) := by decide +kernel
theorem dL_buy_7 : decode cL_buy 7 = .ok (.invokevirtual 15, 3) := by decide +kernel
theorem dL_buy_10 : decode cL_buy 10 = .ok (.i2l, 1) := by decide +kernel
theorem dL_buy_11 : decode cL_buy 11 = .ok (.lastore, 1) := by decide +kernel
theorem dL_buy_12 : decode cL_buy 12 = .ok (.goto 15, 3) := by decide +kernel
theorem dL_buy_15 : decode cL_buy 15 = .ok (.astore 5, 2) := by decide +kernel
theorem dL_buy_17 : decode cL_buy 17 = .ok (.iconst 1, 1) := by decide +kernel
theorem dL_buy_18 : decode cL_buy 18 = .ok (.ireturn, 1) := by decide +kernel
theorem dL_buy_19 : decode cL_buy 19 = .ok (.astore 5, 2) := by decide +kernel
theorem dL_buy_21 : decode cL_buy 21 = .ok (.iconst 2, 1) := by decide +kernel
theorem dL_buy_22 : decode cL_buy 22 = .ok (.ireturn, 1) := by decide +kernel
theorem dL_buy_23 : decode cL_buy 23 = .ok (.astore 5, 2) := by decide +kernel
theorem dL_buy_25 : decode cL_buy 25 = .ok (.iconst 3, 1) := by decide +kernel
theorem dL_buy_26 : decode cL_buy 26 = .ok (.ireturn, 1) := by decide +kernel
theorem dL_buy_27 : decode cL_buy 27 = .ok (.iconst 0, 1) := by decide +kernel
theorem dL_buy_28 : decode cL_buy 28 = .ok (.ireturn, 1) := by decide +kernel
theorem dL_ride_0 : decode cL_ride 0 = .ok (.aload 5, 2) := by decide +kernel
theorem dL_ride_2 : decode cL_ride 2 = .ok (.iconst 0, 1) := by decide +kernel
theorem dL_ride_3 : decode cL_ride 3 = .ok (.aload_n 0, 1) := by decide +kernel
theorem dL_ride_4 : decode cL_ride 4 = .ok (.iload_n 1, 1) := by decide +kernel
theorem dL_ride_5 : decode cL_ride 5 = .ok (.iload_n 2, 1) := by decide +kernel
theorem dL_ride_6 : decode cL_ride 6 = .ok (.iload_n 3, 1) := by decide +kernel
theorem dL_ride_7 : decode cL_ride 7 = .ok (.iload 4, 2) := by decide +kernel
theorem dL_ride_9 : decode cL_ride 9 = .ok (.invokevirtual 23, 3) := by decide +kernel
theorem dL_ride_12 : decode cL_ride 12 = .ok (.i2l, 1) := by decide +kernel
theorem dL_ride_13 : decode cL_ride 13 = .ok (.lastore, 1) := by decide +kernel
theorem dL_ride_14 : decode cL_ride 14 = .ok (.goto 15, 3) := by decide +kernel
theorem dL_ride_17 : decode cL_ride 17 = .ok (.astore 6, 2) := by decide +kernel
theorem dL_ride_19 : decode cL_ride 19 = .ok (.iconst 1, 1) := by decide +kernel
theorem dL_ride_20 : decode cL_ride 20 = .ok (.ireturn, 1) := by decide +kernel
theorem dL_ride_21 : decode cL_ride 21 = .ok (.astore 6, 2) := by decide +kernel
theorem dL_ride_23 : decode cL_ride 23 = .ok (.iconst 2, 1) := by decide +kernel
theorem dL_ride_24 : decode cL_ride 24 = .ok (.ireturn, 1) := by decide +kernel
theorem dL_ride_25 : decode cL_ride 25 = .ok (.astore 6, 2) := by decide +kernel
theorem dL_ride_27 : decode cL_ride 27 = .ok (.iconst 3, 1) := by decide +kernel
theorem dL_ride_28 : decode cL_ride 28 = .ok (.ireturn, 1) := by decide +kernel
theorem dL_ride_29 : decode cL_ride 29 = .ok (.iconst 0, 1) := by decide +kernel
theorem dL_ride_30 : decode cL_ride 30 = .ok (.ireturn, 1) := by decide +kernel
theorem dL_inspect_0 : decode cL_inspect 0 = .ok (.aload_n 2, 1) := by decide +kernel
theorem dL_inspect_1 : decode cL_inspect 1 = .ok (.iconst 0, 1) := by decide +kernel
theorem dL_inspect_2 : decode cL_inspect 2 = .ok (.aload_n 0, 1) := by decide +kernel
theorem dL_inspect_3 : decode cL_inspect 3 = .ok (.iload_n 1, 1) := by decide +kernel
theorem dL_inspect_4 : decode cL_inspect 4 = .ok (.invokevirtual 27, 3) := by decide +kernel
theorem dL_inspect_7 : decode cL_inspect 7 = .ok (.i2l, 1) := by decide +kernel
theorem dL_inspect_8 : decode cL_inspect 8 = .ok (.lastore, 1) := by decide +kernel
theorem dL_inspect_9 : decode cL_inspect 9 = .ok (.goto 9, 3) := by decide +kernel
theorem dL_inspect_12 : decode cL_inspect 12 = .ok (.astore_n 3, 1) := by decide +kernel
theorem dL_inspect_13 : decode cL_inspect 13 = .ok (.iconst 1, 1) := by decide +kernel
theorem dL_inspect_14 : decode cL_inspect 14 = .ok (.ireturn, 1) := by decide +kernel
theorem dL_inspect_15 : decode cL_inspect 15 = .ok (.astore_n 3, 1) := by decide +kernel
theorem dL_inspect_16 : decode cL_inspect 16 = .ok (.iconst 2, 1) := by decide +kernel
theorem dL_inspect_17 : decode cL_inspect 17 = .ok (.ireturn, 1) := by decide +kernel
theorem dL_inspect_18 : decode cL_inspect 18 = .ok (.iconst 0, 1) := by decide +kernel
theorem dL_inspect_19 : decode cL_inspect 19 = .ok (.ireturn, 1) := by decide +kernel
theorem dL_waitFor_0 : decode cL_waitFor 0 = .ok (.aload_n 2, 1) := by decide +kernel
theorem dL_waitFor_1 : decode cL_waitFor 1 = .ok (.iconst 0, 1) := by decide +kernel
theorem dL_waitFor_2 : decode cL_waitFor 2 = .ok (.aload_n 0, 1) := by decide +kernel
theorem dL_waitFor_3 : decode cL_waitFor 3 = .ok (.iload_n 1, 1) := by decide +kernel
theorem dL_waitFor_4 : decode cL_waitFor 4 = .ok (.invokevirtual 30, 3) := by decide +kernel
theorem dL_waitFor_7 : decode cL_waitFor 7 = .ok (.i2l, 1) := by decide +kernel
theorem dL_waitFor_8 : decode cL_waitFor 8 = .ok (.lastore, 1) := by decide +kernel
theorem dL_waitFor_9 : decode cL_waitFor 9 = .ok (.goto 9, 3) := by decide +kernel
theorem dL_waitFor_12 : decode cL_waitFor 12 = .ok (.astore_n 3, 1) := by decide +kernel
theorem dL_waitFor_13 : decode cL_waitFor 13 = .ok (.iconst 1, 1) := by decide +kernel
theorem dL_waitFor_14 : decode cL_waitFor 14 = .ok (.ireturn, 1) := by decide +kernel
theorem dL_waitFor_15 : decode cL_waitFor 15 = .ok (.astore_n 3, 1) := by decide +kernel
theorem dL_waitFor_16 : decode cL_waitFor 16 = .ok (.iconst 2, 1) := by decide +kernel
theorem dL_waitFor_17 : decode cL_waitFor 17 = .ok (.ireturn, 1) := by decide +kernel
theorem dL_waitFor_18 : decode cL_waitFor 18 = .ok (.iconst 0, 1) := by decide +kernel
theorem dL_waitFor_19 : decode cL_waitFor 19 = .ok (.ireturn, 1) := by decide +kernel
theorem dL_appeal_0 : decode cL_appeal 0 = .ok (.aload_n 3, 1) := by decide +kernel
theorem dL_appeal_1 : decode cL_appeal 1 = .ok (.iconst 0, 1) := by decide +kernel
theorem dL_appeal_2 : decode cL_appeal 2 = .ok (.aload_n 0, 1) := by decide +kernel
theorem dL_appeal_3 : decode cL_appeal 3 = .ok (.iload_n 1, 1) := by decide +kernel
theorem dL_appeal_4 : decode cL_appeal 4 = .ok (.iload_n 2, 1) := by decide +kernel
theorem dL_appeal_5 : decode cL_appeal 5 = .ok (.invokevirtual 33, 3) := by decide +kernel
theorem dL_appeal_8 : decode cL_appeal 8 = .ok (.i2l, 1) := by decide +kernel
theorem dL_appeal_9 : decode cL_appeal 9 = .ok (.lastore, 1) := by decide +kernel
theorem dL_appeal_10 : decode cL_appeal 10 = .ok (.goto 11, 3) := by decide +kernel
theorem dL_appeal_13 : decode cL_appeal 13 = .ok (.astore 4, 2) := by decide +kernel
theorem dL_appeal_15 : decode cL_appeal 15 = .ok (.iconst 1, 1) := by decide +kernel
theorem dL_appeal_16 : decode cL_appeal 16 = .ok (.ireturn, 1) := by decide +kernel
theorem dL_appeal_17 : decode cL_appeal 17 = .ok (.astore 4, 2) := by decide +kernel
theorem dL_appeal_19 : decode cL_appeal 19 = .ok (.iconst 2, 1) := by decide +kernel
theorem dL_appeal_20 : decode cL_appeal 20 = .ok (.ireturn, 1) := by decide +kernel
theorem dL_appeal_21 : decode cL_appeal 21 = .ok (.iconst 0, 1) := by decide +kernel
theorem dL_appeal_22 : decode cL_appeal 22 = .ok (.ireturn, 1) := by decide +kernel
theorem dL_decide_0 : decode cL_decide 0 = .ok (.aload_n 2, 1) := by decide +kernel
theorem dL_decide_1 : decode cL_decide 1 = .ok (.iconst 0, 1) := by decide +kernel
theorem dL_decide_2 : decode cL_decide 2 = .ok (.aload_n 0, 1) := by decide +kernel
theorem dL_decide_3 : decode cL_decide 3 = .ok (.iload_n 1, 1) := by decide +kernel
theorem dL_decide_4 : decode cL_decide 4 = .ok (.invokevirtual 37, 3) := by decide +kernel
theorem dL_decide_7 : decode cL_decide 7 = .ok (.i2l, 1) := by decide +kernel
theorem dL_decide_8 : decode cL_decide 8 = .ok (.lastore, 1) := by decide +kernel
theorem dL_decide_9 : decode cL_decide 9 = .ok (.goto 9, 3) := by decide +kernel
theorem dL_decide_12 : decode cL_decide 12 = .ok (.astore_n 3, 1) := by decide +kernel
theorem dL_decide_13 : decode cL_decide 13 = .ok (.iconst 1, 1) := by decide +kernel
theorem dL_decide_14 : decode cL_decide 14 = .ok (.ireturn, 1) := by decide +kernel
theorem dL_decide_15 : decode cL_decide 15 = .ok (.astore_n 3, 1) := by decide +kernel
theorem dL_decide_16 : decode cL_decide 16 = .ok (.iconst 2, 1) := by decide +kernel
theorem dL_decide_17 : decode cL_decide 17 = .ok (.ireturn, 1) := by decide +kernel
theorem dL_decide_18 : decode cL_decide 18 = .ok (.iconst 0, 1) := by decide +kernel
theorem dL_decide_19 : decode cL_decide 19 = .ok (.ireturn, 1) := by decide +kernel
theorem dL_pay_0 : decode cL_pay 0 = .ok (.aload_n 2, 1) := by decide +kernel
theorem dL_pay_1 : decode cL_pay 1 = .ok (.iconst 0, 1) := by decide +kernel
theorem dL_pay_2 : decode cL_pay 2 = .ok (.aload_n 0, 1) := by decide +kernel
theorem dL_pay_3 : decode cL_pay 3 = .ok (.iload_n 1, 1) := by decide +kernel
theorem dL_pay_4 : decode cL_pay 4 = .ok (.invokevirtual 40, 3) := by decide +kernel
theorem dL_pay_7 : decode cL_pay 7 = .ok (.i2l, 1) := by decide +kernel
theorem dL_pay_8 : decode cL_pay 8 = .ok (.lastore, 1) := by decide +kernel
theorem dL_pay_9 : decode cL_pay 9 = .ok (.goto 9, 3) := by decide +kernel
theorem dL_pay_12 : decode cL_pay 12 = .ok (.astore_n 3, 1) := by decide +kernel
theorem dL_pay_13 : decode cL_pay 13 = .ok (.iconst 1, 1) := by decide +kernel
theorem dL_pay_14 : decode cL_pay 14 = .ok (.ireturn, 1) := by decide +kernel
theorem dL_pay_15 : decode cL_pay 15 = .ok (.astore_n 3, 1) := by decide +kernel
theorem dL_pay_16 : decode cL_pay 16 = .ok (.iconst 2, 1) := by decide +kernel
theorem dL_pay_17 : decode cL_pay 17 = .ok (.ireturn, 1) := by decide +kernel
theorem dL_pay_18 : decode cL_pay 18 = .ok (.iconst 0, 1) := by decide +kernel
theorem dL_pay_19 : decode cL_pay 19 = .ok (.ireturn, 1) := by decide +kernel
theorem dL_undo_0 : decode cL_undo 0 = .ok (.aload_n 1, 1) := by decide +kernel
theorem dL_undo_1 : decode cL_undo 1 = .ok (.iconst 0, 1) := by decide +kernel
theorem dL_undo_2 : decode cL_undo 2 = .ok (.aload_n 0, 1) := by decide +kernel
theorem dL_undo_3 : decode cL_undo 3 = .ok (.invokevirtual 43, 3) := by decide +kernel
theorem dL_undo_6 : decode cL_undo 6 = .ok (.i2l, 1) := by decide +kernel
theorem dL_undo_7 : decode cL_undo 7 = .ok (.lastore, 1) := by decide +kernel
theorem dL_undo_8 : decode cL_undo 8 = .ok (.goto 6, 3) := by decide +kernel
theorem dL_undo_11 : decode cL_undo 11 = .ok (.astore_n 2, 1) := by decide +kernel
theorem dL_undo_12 : decode cL_undo 12 = .ok (.iconst 1, 1) := by decide +kernel
theorem dL_undo_13 : decode cL_undo 13 = .ok (.ireturn, 1) := by decide +kernel
theorem dL_undo_14 : decode cL_undo 14 = .ok (.iconst 0, 1) := by decide +kernel
theorem dL_undo_15 : decode cL_undo 15 = .ok (.ireturn, 1) := by decide +kernel
theorem dL_save_0 : decode cL_save 0 = .ok (.aload_n 2, 1) := by decide +kernel
theorem dL_save_1 : decode cL_save 1 = .ok (.iconst 0, 1) := by decide +kernel
theorem dL_save_2 : decode cL_save 2 = .ok (.aload_n 0, 1) := by decide +kernel
theorem dL_save_3 : decode cL_save 3 = .ok (.iload_n 1, 1) := by decide +kernel
theorem dL_save_4 : decode cL_save 4 = .ok (.invokevirtual 47, 3) := by decide +kernel
theorem dL_save_7 : decode cL_save 7 = .ok (.i2l, 1) := by decide +kernel
theorem dL_save_8 : decode cL_save 8 = .ok (.lastore, 1) := by decide +kernel
theorem dL_save_9 : decode cL_save 9 = .ok (.goto 6, 3) := by decide +kernel
theorem dL_save_12 : decode cL_save 12 = .ok (.astore_n 3, 1) := by decide +kernel
theorem dL_save_13 : decode cL_save 13 = .ok (.iconst 1, 1) := by decide +kernel
theorem dL_save_14 : decode cL_save 14 = .ok (.ireturn, 1) := by decide +kernel
theorem dL_save_15 : decode cL_save 15 = .ok (.iconst 0, 1) := by decide +kernel
theorem dL_save_16 : decode cL_save 16 = .ok (.ireturn, 1) := by decide +kernel
theorem dL_restore_0 : decode cL_restore 0 = .ok (.aload_n 2, 1) := by decide +kernel
theorem dL_restore_1 : decode cL_restore 1 = .ok (.iconst 0, 1) := by decide +kernel
theorem dL_restore_2 : decode cL_restore 2 = .ok (.aload_n 0, 1) := by decide +kernel
theorem dL_restore_3 : decode cL_restore 3 = .ok (.iload_n 1, 1) := by decide +kernel
theorem dL_restore_4 : decode cL_restore 4 = .ok (.invokevirtual 50, 3) := by decide +kernel
theorem dL_restore_7 : decode cL_restore 7 = .ok (.i2l, 1) := by decide +kernel
theorem dL_restore_8 : decode cL_restore 8 = .ok (.lastore, 1) := by decide +kernel
theorem dL_restore_9 : decode cL_restore 9 = .ok (.goto 9, 3) := by decide +kernel
theorem dL_restore_12 : decode cL_restore 12 = .ok (.astore_n 3, 1) := by decide +kernel
theorem dL_restore_13 : decode cL_restore 13 = .ok (.iconst 1, 1) := by decide +kernel
theorem dL_restore_14 : decode cL_restore 14 = .ok (.ireturn, 1) := by decide +kernel
theorem dL_restore_15 : decode cL_restore 15 = .ok (.astore_n 3, 1) := by decide +kernel
theorem dL_restore_16 : decode cL_restore 16 = .ok (.iconst 2, 1) := by decide +kernel
theorem dL_restore_17 : decode cL_restore 17 = .ok (.ireturn, 1) := by decide +kernel
theorem dL_restore_18 : decode cL_restore 18 = .ok (.iconst 0, 1) := by decide +kernel
theorem dL_restore_19 : decode cL_restore 19 = .ok (.ireturn, 1) := by decide +kernel
theorem dL_zone_0 : decode cL_zone 0 = .ok (.aload_n 2, 1) := by decide +kernel
theorem dL_zone_1 : decode cL_zone 1 = .ok (.iconst 0, 1) := by decide +kernel
theorem dL_zone_2 : decode cL_zone 2 = .ok (.aload_n 0, 1) := by decide +kernel
theorem dL_zone_3 : decode cL_zone 3 = .ok (.iload_n 1, 1) := by decide +kernel
theorem dL_zone_4 : decode cL_zone 4 = .ok (.invokevirtual 53, 3) := by decide +kernel
theorem dL_zone_7 : decode cL_zone 7 = .ok (.i2l, 1) := by decide +kernel
theorem dL_zone_8 : decode cL_zone 8 = .ok (.lastore, 1) := by decide +kernel
theorem dL_zone_9 : decode cL_zone 9 = .ok (.goto 6, 3) := by decide +kernel
theorem dL_zone_12 : decode cL_zone 12 = .ok (.astore_n 3, 1) := by decide +kernel
theorem dL_zone_13 : decode cL_zone 13 = .ok (.iconst 1, 1) := by decide +kernel
theorem dL_zone_14 : decode cL_zone 14 = .ok (.ireturn, 1) := by decide +kernel
theorem dL_zone_15 : decode cL_zone 15 = .ok (.iconst 0, 1) := by decide +kernel
theorem dL_zone_16 : decode cL_zone 16 = .ok (.ireturn, 1) := by decide +kernel
theorem dL_zonesBetween_0 : decode cL_zonesBetween 0 = .ok (.aload_n 3, 1) := by decide +kernel
theorem dL_zonesBetween_1 : decode cL_zonesBetween 1 = .ok (.iconst 0, 1) := by decide +kernel
theorem dL_zonesBetween_2 : decode cL_zonesBetween 2 = .ok (.aload_n 0, 1) := by decide +kernel
theorem dL_zonesBetween_3 : decode cL_zonesBetween 3 = .ok (.iload_n 1, 1) := by decide +kernel
theorem dL_zonesBetween_4 : decode cL_zonesBetween 4 = .ok (.iload_n 2, 1) := by decide +kernel
theorem dL_zonesBetween_5 : decode cL_zonesBetween 5 = .ok (.invokevirtual 56, 3) := by decide +kernel
theorem dL_zonesBetween_8 : decode cL_zonesBetween 8 = .ok (.i2l, 1) := by decide +kernel
theorem dL_zonesBetween_9 : decode cL_zonesBetween 9 = .ok (.lastore, 1) := by decide +kernel
theorem dL_zonesBetween_10 : decode cL_zonesBetween 10 = .ok (.goto 7, 3) := by decide +kernel
theorem dL_zonesBetween_13 : decode cL_zonesBetween 13 = .ok (.astore 4, 2) := by decide +kernel
theorem dL_zonesBetween_15 : decode cL_zonesBetween 15 = .ok (.iconst 1, 1) := by decide +kernel
theorem dL_zonesBetween_16 : decode cL_zonesBetween 16 = .ok (.ireturn, 1) := by decide +kernel
theorem dL_zonesBetween_17 : decode cL_zonesBetween 17 = .ok (.iconst 0, 1) := by decide +kernel
theorem dL_zonesBetween_18 : decode cL_zonesBetween 18 = .ok (.ireturn, 1) := by decide +kernel
theorem dL_money_0 : decode cL_money 0 = .ok (.aload_n 2, 1) := by decide +kernel
theorem dL_money_1 : decode cL_money 1 = .ok (.iconst 0, 1) := by decide +kernel
theorem dL_money_2 : decode cL_money 2 = .ok (.aload_n 0, 1) := by decide +kernel
theorem dL_money_3 : decode cL_money 3 = .ok (.iload_n 1, 1) := by decide +kernel
theorem dL_money_4 : decode cL_money 4 = .ok (.invokevirtual 59, 3) := by decide +kernel
theorem dL_money_7 : decode cL_money 7 = .ok (.i2l, 1) := by decide +kernel
theorem dL_money_8 : decode cL_money 8 = .ok (.lastore, 1) := by decide +kernel
theorem dL_money_9 : decode cL_money 9 = .ok (.goto 6, 3) := by decide +kernel
theorem dL_money_12 : decode cL_money 12 = .ok (.astore_n 3, 1) := by decide +kernel
theorem dL_money_13 : decode cL_money 13 = .ok (.iconst 1, 1) := by decide +kernel
theorem dL_money_14 : decode cL_money 14 = .ok (.ireturn, 1) := by decide +kernel
theorem dL_money_15 : decode cL_money 15 = .ok (.iconst 0, 1) := by decide +kernel
theorem dL_money_16 : decode cL_money 16 = .ok (.ireturn, 1) := by decide +kernel
theorem dL_isRiding_0 : decode cL_isRiding 0 = .ok (.aload_n 2, 1) := by decide +kernel
theorem dL_isRiding_1 : decode cL_isRiding 1 = .ok (.iconst 0, 1) := by decide +kernel
theorem dL_isRiding_2 : decode cL_isRiding 2 = .ok (.aload_n 0, 1) := by decide +kernel
theorem dL_isRiding_3 : decode cL_isRiding 3 = .ok (.iload_n 1, 1) := by decide +kernel
theorem dL_isRiding_4 : decode cL_isRiding 4 = .ok (.invokevirtual 62, 3) := by decide +kernel
theorem dL_isRiding_7 : decode cL_isRiding 7 = .ok (.ifCond .eq 7, 3) := by decide +kernel
theorem dL_isRiding_10 : decode cL_isRiding 10 = .ok (.lconst 1, 1) := by decide +kernel
theorem dL_isRiding_11 : decode cL_isRiding 11 = .ok (.goto 4, 3) := by decide +kernel
theorem dL_isRiding_14 : decode cL_isRiding 14 = .ok (.lconst 0, 1) := by decide +kernel
theorem dL_isRiding_15 : decode cL_isRiding 15 = .ok (.lastore, 1) := by decide +kernel
theorem dL_isRiding_16 : decode cL_isRiding 16 = .ok (.goto 6, 3) := by decide +kernel
theorem dL_isRiding_19 : decode cL_isRiding 19 = .ok (.astore_n 3, 1) := by decide +kernel
theorem dL_isRiding_20 : decode cL_isRiding 20 = .ok (.iconst 1, 1) := by decide +kernel
theorem dL_isRiding_21 : decode cL_isRiding 21 = .ok (.ireturn, 1) := by decide +kernel
theorem dL_isRiding_22 : decode cL_isRiding 22 = .ok (.iconst 0, 1) := by decide +kernel
theorem dL_isRiding_23 : decode cL_isRiding 23 = .ok (.ireturn, 1) := by decide +kernel
theorem dL_rideEnd_0 : decode cL_rideEnd 0 = .ok (.aload_n 2, 1) := by decide +kernel
theorem dL_rideEnd_1 : decode cL_rideEnd 1 = .ok (.iconst 0, 1) := by decide +kernel
theorem dL_rideEnd_2 : decode cL_rideEnd 2 = .ok (.aload_n 0, 1) := by decide +kernel
theorem dL_rideEnd_3 : decode cL_rideEnd 3 = .ok (.iload_n 1, 1) := by decide +kernel
theorem dL_rideEnd_4 : decode cL_rideEnd 4 = .ok (.invokevirtual 66, 3) := by decide +kernel
theorem dL_rideEnd_7 : decode cL_rideEnd 7 = .ok (.i2l, 1) := by decide +kernel
theorem dL_rideEnd_8 : decode cL_rideEnd 8 = .ok (.lastore, 1) := by decide +kernel
theorem dL_rideEnd_9 : decode cL_rideEnd 9 = .ok (.goto 6, 3) := by decide +kernel
theorem dL_rideEnd_12 : decode cL_rideEnd 12 = .ok (.astore_n 3, 1) := by decide +kernel
theorem dL_rideEnd_13 : decode cL_rideEnd 13 = .ok (.iconst 1, 1) := by decide +kernel
theorem dL_rideEnd_14 : decode cL_rideEnd 14 = .ok (.ireturn, 1) := by decide +kernel
theorem dL_rideEnd_15 : decode cL_rideEnd 15 = .ok (.iconst 0, 1) := by decide +kernel
theorem dL_rideEnd_16 : decode cL_rideEnd 16 = .ok (.ireturn, 1) := by decide +kernel
theorem dL_rideTicket_0 : decode cL_rideTicket 0 = .ok (.aload_n 2, 1) := by decide +kernel
theorem dL_rideTicket_1 : decode cL_rideTicket 1 = .ok (.iconst 0, 1) := by decide +kernel
theorem dL_rideTicket_2 : decode cL_rideTicket 2 = .ok (.aload_n 0, 1) := by decide +kernel
theorem dL_rideTicket_3 : decode cL_rideTicket 3 = .ok (.iload_n 1, 1) := by decide +kernel
theorem dL_rideTicket_4 : decode cL_rideTicket 4 = .ok (.invokevirtual 69, 3) := by decide +kernel
theorem dL_rideTicket_7 : decode cL_rideTicket 7 = .ok (.i2l, 1) := by decide +kernel
theorem dL_rideTicket_8 : decode cL_rideTicket 8 = .ok (.lastore, 1) := by decide +kernel
theorem dL_rideTicket_9 : decode cL_rideTicket 9 = .ok (.goto 6, 3) := by decide +kernel
theorem dL_rideTicket_12 : decode cL_rideTicket 12 = .ok (.astore_n 3, 1) := by decide +kernel
theorem dL_rideTicket_13 : decode cL_rideTicket 13 = .ok (.iconst 1, 1) := by decide +kernel
theorem dL_rideTicket_14 : decode cL_rideTicket 14 = .ok (.ireturn, 1) := by decide +kernel
theorem dL_rideTicket_15 : decode cL_rideTicket 15 = .ok (.iconst 0, 1) := by decide +kernel
theorem dL_rideTicket_16 : decode cL_rideTicket 16 = .ok (.ireturn, 1) := by decide +kernel
theorem dL_faultNow_0 : decode cL_faultNow 0 = .ok (.aload_n 2, 1) := by decide +kernel
theorem dL_faultNow_1 : decode cL_faultNow 1 = .ok (.iconst 0, 1) := by decide +kernel
theorem dL_faultNow_2 : decode cL_faultNow 2 = .ok (.aload_n 0, 1) := by decide +kernel
theorem dL_faultNow_3 : decode cL_faultNow 3 = .ok (.iload_n 1, 1) := by decide +kernel
theorem dL_faultNow_4 : decode cL_faultNow 4 = .ok (.invokevirtual 72, 3) := by decide +kernel
theorem dL_faultNow_7 : decode cL_faultNow 7 = .ok (.i2l, 1) := by decide +kernel
theorem dL_faultNow_8 : decode cL_faultNow 8 = .ok (.lastore, 1) := by decide +kernel
theorem dL_faultNow_9 : decode cL_faultNow 9 = .ok (.goto 6, 3) := by decide +kernel
theorem dL_faultNow_12 : decode cL_faultNow 12 = .ok (.astore_n 3, 1) := by decide +kernel
theorem dL_faultNow_13 : decode cL_faultNow 13 = .ok (.iconst 1, 1) := by decide +kernel
theorem dL_faultNow_14 : decode cL_faultNow 14 = .ok (.ireturn, 1) := by decide +kernel
theorem dL_faultNow_15 : decode cL_faultNow 15 = .ok (.iconst 0, 1) := by decide +kernel
theorem dL_faultNow_16 : decode cL_faultNow 16 = .ok (.ireturn, 1) := by decide +kernel
theorem dL_debt_0 : decode cL_debt 0 = .ok (.aload_n 2, 1) := by decide +kernel
theorem dL_debt_1 : decode cL_debt 1 = .ok (.iconst 0, 1) := by decide +kernel
theorem dL_debt_2 : decode cL_debt 2 = .ok (.aload_n 0, 1) := by decide +kernel
theorem dL_debt_3 : decode cL_debt 3 = .ok (.iload_n 1, 1) := by decide +kernel
theorem dL_debt_4 : decode cL_debt 4 = .ok (.invokevirtual 75, 3) := by decide +kernel
theorem dL_debt_7 : decode cL_debt 7 = .ok (.i2l, 1) := by decide +kernel
theorem dL_debt_8 : decode cL_debt 8 = .ok (.lastore, 1) := by decide +kernel
theorem dL_debt_9 : decode cL_debt 9 = .ok (.goto 6, 3) := by decide +kernel
theorem dL_debt_12 : decode cL_debt 12 = .ok (.astore_n 3, 1) := by decide +kernel
theorem dL_debt_13 : decode cL_debt 13 = .ok (.iconst 1, 1) := by decide +kernel
theorem dL_debt_14 : decode cL_debt 14 = .ok (.ireturn, 1) := by decide +kernel
theorem dL_debt_15 : decode cL_debt 15 = .ok (.iconst 0, 1) := by decide +kernel
theorem dL_debt_16 : decode cL_debt 16 = .ok (.ireturn, 1) := by decide +kernel
theorem dL_unpaidCases_0 : decode cL_unpaidCases 0 = .ok (.aload_n 2, 1) := by decide +kernel
theorem dL_unpaidCases_1 : decode cL_unpaidCases 1 = .ok (.iconst 0, 1) := by decide +kernel
theorem dL_unpaidCases_2 : decode cL_unpaidCases 2 = .ok (.aload_n 0, 1) := by decide +kernel
theorem dL_unpaidCases_3 : decode cL_unpaidCases 3 = .ok (.iload_n 1, 1) := by decide +kernel
theorem dL_unpaidCases_4 : decode cL_unpaidCases 4 = .ok (.invokevirtual 78, 3) := by decide +kernel
theorem dL_unpaidCases_7 : decode cL_unpaidCases 7 = .ok (.i2l, 1) := by decide +kernel
theorem dL_unpaidCases_8 : decode cL_unpaidCases 8 = .ok (.lastore, 1) := by decide +kernel
theorem dL_unpaidCases_9 : decode cL_unpaidCases 9 = .ok (.goto 6, 3) := by decide +kernel
theorem dL_unpaidCases_12 : decode cL_unpaidCases 12 = .ok (.astore_n 3, 1) := by decide +kernel
theorem dL_unpaidCases_13 : decode cL_unpaidCases 13 = .ok (.iconst 1, 1) := by decide +kernel
theorem dL_unpaidCases_14 : decode cL_unpaidCases 14 = .ok (.ireturn, 1) := by decide +kernel
theorem dL_unpaidCases_15 : decode cL_unpaidCases 15 = .ok (.iconst 0, 1) := by decide +kernel
theorem dL_unpaidCases_16 : decode cL_unpaidCases 16 = .ok (.ireturn, 1) := by decide +kernel
theorem dL_nameByte_0 : decode cL_nameByte 0 = .ok (.aload_n 3, 1) := by decide +kernel
theorem dL_nameByte_1 : decode cL_nameByte 1 = .ok (.iconst 0, 1) := by decide +kernel
theorem dL_nameByte_2 : decode cL_nameByte 2 = .ok (.aload_n 0, 1) := by decide +kernel
theorem dL_nameByte_3 : decode cL_nameByte 3 = .ok (.iload_n 1, 1) := by decide +kernel
theorem dL_nameByte_4 : decode cL_nameByte 4 = .ok (.iload_n 2, 1) := by decide +kernel
theorem dL_nameByte_5 : decode cL_nameByte 5 = .ok (.invokevirtual 81, 3) := by decide +kernel
theorem dL_nameByte_8 : decode cL_nameByte 8 = .ok (.i2l, 1) := by decide +kernel
theorem dL_nameByte_9 : decode cL_nameByte 9 = .ok (.lastore, 1) := by decide +kernel
theorem dL_nameByte_10 : decode cL_nameByte 10 = .ok (.goto 7, 3) := by decide +kernel
theorem dL_nameByte_13 : decode cL_nameByte 13 = .ok (.astore 4, 2) := by decide +kernel
theorem dL_nameByte_15 : decode cL_nameByte 15 = .ok (.iconst 1, 1) := by decide +kernel
theorem dL_nameByte_16 : decode cL_nameByte 16 = .ok (.ireturn, 1) := by decide +kernel
theorem dL_nameByte_17 : decode cL_nameByte 17 = .ok (.iconst 0, 1) := by decide +kernel
theorem dL_nameByte_18 : decode cL_nameByte 18 = .ok (.ireturn, 1) := by decide +kernel
theorem dL_cheapestKind_0 : decode cL_cheapestKind 0 = .ok (.aload_n 3, 1) := by decide +kernel
theorem dL_cheapestKind_1 : decode cL_cheapestKind 1 = .ok (.iconst 0, 1) := by decide +kernel
theorem dL_cheapestKind_2 : decode cL_cheapestKind 2 = .ok (.aload_n 0, 1) := by decide +kernel
theorem dL_cheapestKind_3 : decode cL_cheapestKind 3 = .ok (.iload_n 1, 1) := by decide +kernel
theorem dL_cheapestKind_4 : decode cL_cheapestKind 4 = .ok (.iload_n 2, 1) := by decide +kernel
theorem dL_cheapestKind_5 : decode cL_cheapestKind 5 = .ok (.invokevirtual 84, 3) := by decide +kernel
theorem dL_cheapestKind_8 : decode cL_cheapestKind 8 = .ok (.i2l, 1) := by decide +kernel
theorem dL_cheapestKind_9 : decode cL_cheapestKind 9 = .ok (.lastore, 1) := by decide +kernel
theorem dL_cheapestKind_10 : decode cL_cheapestKind 10 = .ok (.goto 7, 3) := by decide +kernel
theorem dL_cheapestKind_13 : decode cL_cheapestKind 13 = .ok (.astore 4, 2) := by decide +kernel
theorem dL_cheapestKind_15 : decode cL_cheapestKind 15 = .ok (.iconst 1, 1) := by decide +kernel
theorem dL_cheapestKind_16 : decode cL_cheapestKind 16 = .ok (.ireturn, 1) := by decide +kernel
theorem dL_cheapestKind_17 : decode cL_cheapestKind 17 = .ok (.iconst 0, 1) := by decide +kernel
theorem dL_cheapestKind_18 : decode cL_cheapestKind 18 = .ok (.ireturn, 1) := by decide +kernel
theorem dL_ticketHolder_0 : decode cL_ticketHolder 0 = .ok (.aload_n 2, 1) := by decide +kernel
theorem dL_ticketHolder_1 : decode cL_ticketHolder 1 = .ok (.iconst 0, 1) := by decide +kernel
theorem dL_ticketHolder_2 : decode cL_ticketHolder 2 = .ok (.aload_n 0, 1) := by decide +kernel
theorem dL_ticketHolder_3 : decode cL_ticketHolder 3 = .ok (.iload_n 1, 1) := by decide +kernel
theorem dL_ticketHolder_4 : decode cL_ticketHolder 4 = .ok (.invokevirtual 87, 3) := by decide +kernel
theorem dL_ticketHolder_7 : decode cL_ticketHolder 7 = .ok (.i2l, 1) := by decide +kernel
theorem dL_ticketHolder_8 : decode cL_ticketHolder 8 = .ok (.lastore, 1) := by decide +kernel
theorem dL_ticketHolder_9 : decode cL_ticketHolder 9 = .ok (.goto 6, 3) := by decide +kernel
theorem dL_ticketHolder_12 : decode cL_ticketHolder 12 = .ok (.astore_n 3, 1) := by decide +kernel
theorem dL_ticketHolder_13 : decode cL_ticketHolder 13 = .ok (.iconst 1, 1) := by decide +kernel
theorem dL_ticketHolder_14 : decode cL_ticketHolder 14 = .ok (.ireturn, 1) := by decide +kernel
theorem dL_ticketHolder_15 : decode cL_ticketHolder 15 = .ok (.iconst 0, 1) := by decide +kernel
theorem dL_ticketHolder_16 : decode cL_ticketHolder 16 = .ok (.ireturn, 1) := by decide +kernel
theorem dL_ticketKind_0 : decode cL_ticketKind 0 = .ok (.aload_n 2, 1) := by decide +kernel
theorem dL_ticketKind_1 : decode cL_ticketKind 1 = .ok (.iconst 0, 1) := by decide +kernel
theorem dL_ticketKind_2 : decode cL_ticketKind 2 = .ok (.aload_n 0, 1) := by decide +kernel
theorem dL_ticketKind_3 : decode cL_ticketKind 3 = .ok (.iload_n 1, 1) := by decide +kernel
theorem dL_ticketKind_4 : decode cL_ticketKind 4 = .ok (.invokevirtual 90, 3) := by decide +kernel
theorem dL_ticketKind_7 : decode cL_ticketKind 7 = .ok (.i2l, 1) := by decide +kernel
theorem dL_ticketKind_8 : decode cL_ticketKind 8 = .ok (.lastore, 1) := by decide +kernel
theorem dL_ticketKind_9 : decode cL_ticketKind 9 = .ok (.goto 6, 3) := by decide +kernel
theorem dL_ticketKind_12 : decode cL_ticketKind 12 = .ok (.astore_n 3, 1) := by decide +kernel
theorem dL_ticketKind_13 : decode cL_ticketKind 13 = .ok (.iconst 1, 1) := by decide +kernel
theorem dL_ticketKind_14 : decode cL_ticketKind 14 = .ok (.ireturn, 1) := by decide +kernel
theorem dL_ticketKind_15 : decode cL_ticketKind 15 = .ok (.iconst 0, 1) := by decide +kernel
theorem dL_ticketKind_16 : decode cL_ticketKind 16 = .ok (.ireturn, 1) := by decide +kernel
theorem dL_ticketZones_0 : decode cL_ticketZones 0 = .ok (.aload_n 2, 1) := by decide +kernel
theorem dL_ticketZones_1 : decode cL_ticketZones 1 = .ok (.iconst 0, 1) := by decide +kernel
theorem dL_ticketZones_2 : decode cL_ticketZones 2 = .ok (.aload_n 0, 1) := by decide +kernel
theorem dL_ticketZones_3 : decode cL_ticketZones 3 = .ok (.iload_n 1, 1) := by decide +kernel
theorem dL_ticketZones_4 : decode cL_ticketZones 4 = .ok (.invokevirtual 93, 3) := by decide +kernel
theorem dL_ticketZones_7 : decode cL_ticketZones 7 = .ok (.i2l, 1) := by decide +kernel
theorem dL_ticketZones_8 : decode cL_ticketZones 8 = .ok (.lastore, 1) := by decide +kernel
theorem dL_ticketZones_9 : decode cL_ticketZones 9 = .ok (.goto 6, 3) := by decide +kernel
theorem dL_ticketZones_12 : decode cL_ticketZones 12 = .ok (.astore_n 3, 1) := by decide +kernel
theorem dL_ticketZones_13 : decode cL_ticketZones 13 = .ok (.iconst 1, 1) := by decide +kernel
theorem dL_ticketZones_14 : decode cL_ticketZones 14 = .ok (.ireturn, 1) := by decide +kernel
theorem dL_ticketZones_15 : decode cL_ticketZones 15 = .ok (.iconst 0, 1) := by decide +kernel
theorem dL_ticketZones_16 : decode cL_ticketZones 16 = .ok (.ireturn, 1) := by decide +kernel
theorem dL_ticketPrice_0 : decode cL_ticketPrice 0 = .ok (.aload_n 2, 1) := by decide +kernel
theorem dL_ticketPrice_1 : decode cL_ticketPrice 1 = .ok (.iconst 0, 1) := by decide +kernel
theorem dL_ticketPrice_2 : decode cL_ticketPrice 2 = .ok (.aload_n 0, 1) := by decide +kernel
theorem dL_ticketPrice_3 : decode cL_ticketPrice 3 = .ok (.iload_n 1, 1) := by decide +kernel
theorem dL_ticketPrice_4 : decode cL_ticketPrice 4 = .ok (.invokevirtual 96, 3) := by decide +kernel
theorem dL_ticketPrice_7 : decode cL_ticketPrice 7 = .ok (.i2l, 1) := by decide +kernel
theorem dL_ticketPrice_8 : decode cL_ticketPrice 8 = .ok (.lastore, 1) := by decide +kernel
theorem dL_ticketPrice_9 : decode cL_ticketPrice 9 = .ok (.goto 6, 3) := by decide +kernel
theorem dL_ticketPrice_12 : decode cL_ticketPrice 12 = .ok (.astore_n 3, 1) := by decide +kernel
theorem dL_ticketPrice_13 : decode cL_ticketPrice 13 = .ok (.iconst 1, 1) := by decide +kernel
theorem dL_ticketPrice_14 : decode cL_ticketPrice 14 = .ok (.ireturn, 1) := by decide +kernel
theorem dL_ticketPrice_15 : decode cL_ticketPrice 15 = .ok (.iconst 0, 1) := by decide +kernel
theorem dL_ticketPrice_16 : decode cL_ticketPrice 16 = .ok (.ireturn, 1) := by decide +kernel
theorem dL_stampTime_0 : decode cL_stampTime 0 = .ok (.aload_n 2, 1) := by decide +kernel
theorem dL_stampTime_1 : decode cL_stampTime 1 = .ok (.iconst 0, 1) := by decide +kernel
theorem dL_stampTime_2 : decode cL_stampTime 2 = .ok (.aload_n 0, 1) := by decide +kernel
theorem dL_stampTime_3 : decode cL_stampTime 3 = .ok (.iload_n 1, 1) := by decide +kernel
theorem dL_stampTime_4 : decode cL_stampTime 4 = .ok (.invokevirtual 99, 3) := by decide +kernel
theorem dL_stampTime_7 : decode cL_stampTime 7 = .ok (.i2l, 1) := by decide +kernel
theorem dL_stampTime_8 : decode cL_stampTime 8 = .ok (.lastore, 1) := by decide +kernel
theorem dL_stampTime_9 : decode cL_stampTime 9 = .ok (.goto 6, 3) := by decide +kernel
theorem dL_stampTime_12 : decode cL_stampTime 12 = .ok (.astore_n 3, 1) := by decide +kernel
theorem dL_stampTime_13 : decode cL_stampTime 13 = .ok (.iconst 1, 1) := by decide +kernel
theorem dL_stampTime_14 : decode cL_stampTime 14 = .ok (.ireturn, 1) := by decide +kernel
theorem dL_stampTime_15 : decode cL_stampTime 15 = .ok (.iconst 0, 1) := by decide +kernel
theorem dL_stampTime_16 : decode cL_stampTime 16 = .ok (.ireturn, 1) := by decide +kernel
theorem dL_stampStop_0 : decode cL_stampStop 0 = .ok (.aload_n 2, 1) := by decide +kernel
theorem dL_stampStop_1 : decode cL_stampStop 1 = .ok (.iconst 0, 1) := by decide +kernel
theorem dL_stampStop_2 : decode cL_stampStop 2 = .ok (.aload_n 0, 1) := by decide +kernel
theorem dL_stampStop_3 : decode cL_stampStop 3 = .ok (.iload_n 1, 1) := by decide +kernel
theorem dL_stampStop_4 : decode cL_stampStop 4 = .ok (.invokevirtual 102, 3) := by decide +kernel
theorem dL_stampStop_7 : decode cL_stampStop 7 = .ok (.i2l, 1) := by decide +kernel
theorem dL_stampStop_8 : decode cL_stampStop 8 = .ok (.lastore, 1) := by decide +kernel
theorem dL_stampStop_9 : decode cL_stampStop 9 = .ok (.goto 6, 3) := by decide +kernel
theorem dL_stampStop_12 : decode cL_stampStop 12 = .ok (.astore_n 3, 1) := by decide +kernel
theorem dL_stampStop_13 : decode cL_stampStop 13 = .ok (.iconst 1, 1) := by decide +kernel
theorem dL_stampStop_14 : decode cL_stampStop 14 = .ok (.ireturn, 1) := by decide +kernel
theorem dL_stampStop_15 : decode cL_stampStop 15 = .ok (.iconst 0, 1) := by decide +kernel
theorem dL_stampStop_16 : decode cL_stampStop 16 = .ok (.ireturn, 1) := by decide +kernel
theorem dL_ticketRides_0 : decode cL_ticketRides 0 = .ok (.aload_n 2, 1) := by decide +kernel
theorem dL_ticketRides_1 : decode cL_ticketRides 1 = .ok (.iconst 0, 1) := by decide +kernel
theorem dL_ticketRides_2 : decode cL_ticketRides 2 = .ok (.aload_n 0, 1) := by decide +kernel
theorem dL_ticketRides_3 : decode cL_ticketRides 3 = .ok (.iload_n 1, 1) := by decide +kernel
theorem dL_ticketRides_4 : decode cL_ticketRides 4 = .ok (.invokevirtual 105, 3) := by decide +kernel
theorem dL_ticketRides_7 : decode cL_ticketRides 7 = .ok (.i2l, 1) := by decide +kernel
theorem dL_ticketRides_8 : decode cL_ticketRides 8 = .ok (.lastore, 1) := by decide +kernel
theorem dL_ticketRides_9 : decode cL_ticketRides 9 = .ok (.goto 6, 3) := by decide +kernel
theorem dL_ticketRides_12 : decode cL_ticketRides 12 = .ok (.astore_n 3, 1) := by decide +kernel
theorem dL_ticketRides_13 : decode cL_ticketRides 13 = .ok (.iconst 1, 1) := by decide +kernel
theorem dL_ticketRides_14 : decode cL_ticketRides 14 = .ok (.ireturn, 1) := by decide +kernel
theorem dL_ticketRides_15 : decode cL_ticketRides 15 = .ok (.iconst 0, 1) := by decide +kernel
theorem dL_ticketRides_16 : decode cL_ticketRides 16 = .ok (.ireturn, 1) := by decide +kernel
theorem dL_isInTime_0 : decode cL_isInTime 0 = .ok (.aload_n 2, 1) := by decide +kernel
theorem dL_isInTime_1 : decode cL_isInTime 1 = .ok (.iconst 0, 1) := by decide +kernel
theorem dL_isInTime_2 : decode cL_isInTime 2 = .ok (.aload_n 0, 1) := by decide +kernel
theorem dL_isInTime_3 : decode cL_isInTime 3 = .ok (.iload_n 1, 1) := by decide +kernel
theorem dL_isInTime_4 : decode cL_isInTime 4 = .ok (.invokevirtual 108, 3) := by decide +kernel
theorem dL_isInTime_7 : decode cL_isInTime 7 = .ok (.ifCond .eq 7, 3) := by decide +kernel
theorem dL_isInTime_10 : decode cL_isInTime 10 = .ok (.lconst 1, 1) := by decide +kernel
theorem dL_isInTime_11 : decode cL_isInTime 11 = .ok (.goto 4, 3) := by decide +kernel
theorem dL_isInTime_14 : decode cL_isInTime 14 = .ok (.lconst 0, 1) := by decide +kernel
theorem dL_isInTime_15 : decode cL_isInTime 15 = .ok (.lastore, 1) := by decide +kernel
theorem dL_isInTime_16 : decode cL_isInTime 16 = .ok (.goto 6, 3) := by decide +kernel
theorem dL_isInTime_19 : decode cL_isInTime 19 = .ok (.astore_n 3, 1) := by decide +kernel
theorem dL_isInTime_20 : decode cL_isInTime 20 = .ok (.iconst 1, 1) := by decide +kernel
theorem dL_isInTime_21 : decode cL_isInTime 21 = .ok (.ireturn, 1) := by decide +kernel
theorem dL_isInTime_22 : decode cL_isInTime 22 = .ok (.iconst 0, 1) := by decide +kernel
theorem dL_isInTime_23 : decode cL_isInTime 23 = .ok (.ireturn, 1) := by decide +kernel
theorem dL_casePassenger_0 : decode cL_casePassenger 0 = .ok (.aload_n 2, 1) := by decide +kernel
theorem dL_casePassenger_1 : decode cL_casePassenger 1 = .ok (.iconst 0, 1) := by decide +kernel
theorem dL_casePassenger_2 : decode cL_casePassenger 2 = .ok (.aload_n 0, 1) := by decide +kernel
theorem dL_casePassenger_3 : decode cL_casePassenger 3 = .ok (.iload_n 1, 1) := by decide +kernel
theorem dL_casePassenger_4 : decode cL_casePassenger 4 = .ok (.invokevirtual 111, 3) := by decide +kernel
theorem dL_casePassenger_7 : decode cL_casePassenger 7 = .ok (.i2l, 1) := by decide +kernel
theorem dL_casePassenger_8 : decode cL_casePassenger 8 = .ok (.lastore, 1) := by decide +kernel
theorem dL_casePassenger_9 : decode cL_casePassenger 9 = .ok (.goto 6, 3) := by decide +kernel
theorem dL_casePassenger_12 : decode cL_casePassenger 12 = .ok (.astore_n 3, 1) := by decide +kernel
theorem dL_casePassenger_13 : decode cL_casePassenger 13 = .ok (.iconst 1, 1) := by decide +kernel
theorem dL_casePassenger_14 : decode cL_casePassenger 14 = .ok (.ireturn, 1) := by decide +kernel
theorem dL_casePassenger_15 : decode cL_casePassenger 15 = .ok (.iconst 0, 1) := by decide +kernel
theorem dL_casePassenger_16 : decode cL_casePassenger 16 = .ok (.ireturn, 1) := by decide +kernel
theorem dL_caseFault_0 : decode cL_caseFault 0 = .ok (.aload_n 2, 1) := by decide +kernel
theorem dL_caseFault_1 : decode cL_caseFault 1 = .ok (.iconst 0, 1) := by decide +kernel
theorem dL_caseFault_2 : decode cL_caseFault 2 = .ok (.aload_n 0, 1) := by decide +kernel
theorem dL_caseFault_3 : decode cL_caseFault 3 = .ok (.iload_n 1, 1) := by decide +kernel
theorem dL_caseFault_4 : decode cL_caseFault 4 = .ok (.invokevirtual 114, 3) := by decide +kernel
theorem dL_caseFault_7 : decode cL_caseFault 7 = .ok (.i2l, 1) := by decide +kernel
theorem dL_caseFault_8 : decode cL_caseFault 8 = .ok (.lastore, 1) := by decide +kernel
theorem dL_caseFault_9 : decode cL_caseFault 9 = .ok (.goto 6, 3) := by decide +kernel
theorem dL_caseFault_12 : decode cL_caseFault 12 = .ok (.astore_n 3, 1) := by decide +kernel
theorem dL_caseFault_13 : decode cL_caseFault 13 = .ok (.iconst 1, 1) := by decide +kernel
theorem dL_caseFault_14 : decode cL_caseFault 14 = .ok (.ireturn, 1) := by decide +kernel
theorem dL_caseFault_15 : decode cL_caseFault 15 = .ok (.iconst 0, 1) := by decide +kernel
theorem dL_caseFault_16 : decode cL_caseFault 16 = .ok (.ireturn, 1) := by decide +kernel
theorem dL_caseState_0 : decode cL_caseState 0 = .ok (.aload_n 2, 1) := by decide +kernel
theorem dL_caseState_1 : decode cL_caseState 1 = .ok (.iconst 0, 1) := by decide +kernel
theorem dL_caseState_2 : decode cL_caseState 2 = .ok (.aload_n 0, 1) := by decide +kernel
theorem dL_caseState_3 : decode cL_caseState 3 = .ok (.iload_n 1, 1) := by decide +kernel
theorem dL_caseState_4 : decode cL_caseState 4 = .ok (.invokevirtual 117, 3) := by decide +kernel
theorem dL_caseState_7 : decode cL_caseState 7 = .ok (.i2l, 1) := by decide +kernel
theorem dL_caseState_8 : decode cL_caseState 8 = .ok (.lastore, 1) := by decide +kernel
theorem dL_caseState_9 : decode cL_caseState 9 = .ok (.goto 6, 3) := by decide +kernel
theorem dL_caseState_12 : decode cL_caseState 12 = .ok (.astore_n 3, 1) := by decide +kernel
theorem dL_caseState_13 : decode cL_caseState 13 = .ok (.iconst 1, 1) := by decide +kernel
theorem dL_caseState_14 : decode cL_caseState 14 = .ok (.ireturn, 1) := by decide +kernel
theorem dL_caseState_15 : decode cL_caseState 15 = .ok (.iconst 0, 1) := by decide +kernel
theorem dL_caseState_16 : decode cL_caseState 16 = .ok (.ireturn, 1) := by decide +kernel
theorem dL_caseTime_0 : decode cL_caseTime 0 = .ok (.aload_n 2, 1) := by decide +kernel
theorem dL_caseTime_1 : decode cL_caseTime 1 = .ok (.iconst 0, 1) := by decide +kernel
theorem dL_caseTime_2 : decode cL_caseTime 2 = .ok (.aload_n 0, 1) := by decide +kernel
theorem dL_caseTime_3 : decode cL_caseTime 3 = .ok (.iload_n 1, 1) := by decide +kernel
theorem dL_caseTime_4 : decode cL_caseTime 4 = .ok (.invokevirtual 120, 3) := by decide +kernel
theorem dL_caseTime_7 : decode cL_caseTime 7 = .ok (.i2l, 1) := by decide +kernel
theorem dL_caseTime_8 : decode cL_caseTime 8 = .ok (.lastore, 1) := by decide +kernel
theorem dL_caseTime_9 : decode cL_caseTime 9 = .ok (.goto 6, 3) := by decide +kernel
theorem dL_caseTime_12 : decode cL_caseTime 12 = .ok (.astore_n 3, 1) := by decide +kernel
theorem dL_caseTime_13 : decode cL_caseTime 13 = .ok (.iconst 1, 1) := by decide +kernel
theorem dL_caseTime_14 : decode cL_caseTime 14 = .ok (.ireturn, 1) := by decide +kernel
theorem dL_caseTime_15 : decode cL_caseTime 15 = .ok (.iconst 0, 1) := by decide +kernel
theorem dL_caseTime_16 : decode cL_caseTime 16 = .ok (.ireturn, 1) := by decide +kernel
theorem dL_amountDue_0 : decode cL_amountDue 0 = .ok (.aload_n 2, 1) := by decide +kernel
theorem dL_amountDue_1 : decode cL_amountDue 1 = .ok (.iconst 0, 1) := by decide +kernel
theorem dL_amountDue_2 : decode cL_amountDue 2 = .ok (.aload_n 0, 1) := by decide +kernel
theorem dL_amountDue_3 : decode cL_amountDue 3 = .ok (.iload_n 1, 1) := by decide +kernel
theorem dL_amountDue_4 : decode cL_amountDue 4 = .ok (.invokevirtual 123, 3) := by decide +kernel
theorem dL_amountDue_7 : decode cL_amountDue 7 = .ok (.i2l, 1) := by decide +kernel
theorem dL_amountDue_8 : decode cL_amountDue 8 = .ok (.lastore, 1) := by decide +kernel
theorem dL_amountDue_9 : decode cL_amountDue 9 = .ok (.goto 6, 3) := by decide +kernel
theorem dL_amountDue_12 : decode cL_amountDue 12 = .ok (.astore_n 3, 1) := by decide +kernel
theorem dL_amountDue_13 : decode cL_amountDue 13 = .ok (.iconst 1, 1) := by decide +kernel
theorem dL_amountDue_14 : decode cL_amountDue 14 = .ok (.ireturn, 1) := by decide +kernel
theorem dL_amountDue_15 : decode cL_amountDue 15 = .ok (.iconst 0, 1) := by decide +kernel
theorem dL_amountDue_16 : decode cL_amountDue 16 = .ok (.ireturn, 1) := by decide +kernel
theorem dL_caseTicket_0 : decode cL_caseTicket 0 = .ok (.aload_n 2, 1) := by decide +kernel
theorem dL_caseTicket_1 : decode cL_caseTicket 1 = .ok (.iconst 0, 1) := by decide +kernel
theorem dL_caseTicket_2 : decode cL_caseTicket 2 = .ok (.aload_n 0, 1) := by decide +kernel
theorem dL_caseTicket_3 : decode cL_caseTicket 3 = .ok (.iload_n 1, 1) := by decide +kernel
theorem dL_caseTicket_4 : decode cL_caseTicket 4 = .ok (.invokevirtual 126, 3) := by decide +kernel
theorem dL_caseTicket_7 : decode cL_caseTicket 7 = .ok (.i2l, 1) := by decide +kernel
theorem dL_caseTicket_8 : decode cL_caseTicket 8 = .ok (.lastore, 1) := by decide +kernel
theorem dL_caseTicket_9 : decode cL_caseTicket 9 = .ok (.goto 6, 3) := by decide +kernel
theorem dL_caseTicket_12 : decode cL_caseTicket 12 = .ok (.astore_n 3, 1) := by decide +kernel
theorem dL_caseTicket_13 : decode cL_caseTicket 13 = .ok (.iconst 1, 1) := by decide +kernel
theorem dL_caseTicket_14 : decode cL_caseTicket 14 = .ok (.ireturn, 1) := by decide +kernel
theorem dL_caseTicket_15 : decode cL_caseTicket 15 = .ok (.iconst 0, 1) := by decide +kernel
theorem dL_caseTicket_16 : decode cL_caseTicket 16 = .ok (.ireturn, 1) := by decide +kernel
theorem dL_isOverdue_0 : decode cL_isOverdue 0 = .ok (.aload_n 2, 1) := by decide +kernel
theorem dL_isOverdue_1 : decode cL_isOverdue 1 = .ok (.iconst 0, 1) := by decide +kernel
theorem dL_isOverdue_2 : decode cL_isOverdue 2 = .ok (.aload_n 0, 1) := by decide +kernel
theorem dL_isOverdue_3 : decode cL_isOverdue 3 = .ok (.iload_n 1, 1) := by decide +kernel
theorem dL_isOverdue_4 : decode cL_isOverdue 4 = .ok (.invokevirtual 129, 3) := by decide +kernel
theorem dL_isOverdue_7 : decode cL_isOverdue 7 = .ok (.ifCond .eq 7, 3) := by decide +kernel
theorem dL_isOverdue_10 : decode cL_isOverdue 10 = .ok (.lconst 1, 1) := by decide +kernel
theorem dL_isOverdue_11 : decode cL_isOverdue 11 = .ok (.goto 4, 3) := by decide +kernel
theorem dL_isOverdue_14 : decode cL_isOverdue 14 = .ok (.lconst 0, 1) := by decide +kernel
theorem dL_isOverdue_15 : decode cL_isOverdue 15 = .ok (.lastore, 1) := by decide +kernel
theorem dL_isOverdue_16 : decode cL_isOverdue 16 = .ok (.goto 6, 3) := by decide +kernel
theorem dL_isOverdue_19 : decode cL_isOverdue 19 = .ok (.astore_n 3, 1) := by decide +kernel
theorem dL_isOverdue_20 : decode cL_isOverdue 20 = .ok (.iconst 1, 1) := by decide +kernel
theorem dL_isOverdue_21 : decode cL_isOverdue 21 = .ok (.ireturn, 1) := by decide +kernel
theorem dL_isOverdue_22 : decode cL_isOverdue 22 = .ok (.iconst 0, 1) := by decide +kernel
theorem dL_isOverdue_23 : decode cL_isOverdue 23 = .ok (.ireturn, 1) := by decide +kernel
theorem dL_outlook_0 : decode cL_outlook 0 = .ok (.aload_n 3, 1) := by decide +kernel
theorem dL_outlook_1 : decode cL_outlook 1 = .ok (.iconst 0, 1) := by decide +kernel
theorem dL_outlook_2 : decode cL_outlook 2 = .ok (.aload_n 0, 1) := by decide +kernel
theorem dL_outlook_3 : decode cL_outlook 3 = .ok (.iload_n 1, 1) := by decide +kernel
theorem dL_outlook_4 : decode cL_outlook 4 = .ok (.iload_n 2, 1) := by decide +kernel
theorem dL_outlook_5 : decode cL_outlook 5 = .ok (.invokevirtual 132, 3) := by decide +kernel
theorem dL_outlook_8 : decode cL_outlook 8 = .ok (.i2l, 1) := by decide +kernel
theorem dL_outlook_9 : decode cL_outlook 9 = .ok (.lastore, 1) := by decide +kernel
theorem dL_outlook_10 : decode cL_outlook 10 = .ok (.goto 7, 3) := by decide +kernel
theorem dL_outlook_13 : decode cL_outlook 13 = .ok (.astore 4, 2) := by decide +kernel
theorem dL_outlook_15 : decode cL_outlook 15 = .ok (.iconst 1, 1) := by decide +kernel
theorem dL_outlook_16 : decode cL_outlook 16 = .ok (.ireturn, 1) := by decide +kernel
theorem dL_outlook_17 : decode cL_outlook 17 = .ok (.iconst 0, 1) := by decide +kernel
theorem dL_outlook_18 : decode cL_outlook 18 = .ok (.ireturn, 1) := by decide +kernel
theorem dL_law_0 : decode cL_law 0 = .ok (.new 8, 3) := by decide +kernel
theorem dL_law_3 : decode cL_law 3 = .ok (.dup, 1) := by decide +kernel
theorem dL_law_4 : decode cL_law 4 = .ok (.invokespecial 135, 3) := by decide +kernel
theorem dL_law_7 : decode cL_law 7 = .ok (.astore_n 1, 1) := by decide +kernel
theorem dL_law_8 : decode cL_law 8 = .ok (.new 136, 3) := by decide +kernel
theorem dL_law_11 : decode cL_law 11 = .ok (.dup, 1) := by decide +kernel
theorem dL_law_12 : decode cL_law 12 = .ok (.invokespecial 138, 3) := by decide +kernel
theorem dL_law_15 : decode cL_law 15 = .ok (.astore_n 2, 1) := by decide +kernel
theorem dL_law_16 : decode cL_law 16 = .ok (.iconst 1, 1) := by decide +kernel
theorem dL_law_17 : decode cL_law 17 = .ok (.newarray .long, 2) := by decide +kernel
theorem dL_law_19 : decode cL_law 19 = .ok (.astore_n 3, 1) := by decide +kernel
theorem dL_law_20 : decode cL_law 20 = .ok (.iconst 0, 1) := by decide +kernel
theorem dL_law_21 : decode cL_law 21 = .ok (.istore 4, 2) := by decide +kernel
theorem dL_law_23 : decode cL_law 23 = .ok (.iload 4, 2) := by decide +kernel
theorem dL_law_25 : decode cL_law 25 = .ok (.aload_n 0, 1) := by decide +kernel
theorem dL_law_26 : decode cL_law 26 = .ok (.arraylength, 1) := by decide +kernel
theorem dL_law_27 : decode cL_law 27 = .ok (.bipush 6, 2) := by decide +kernel
theorem dL_law_29 : decode cL_law 29 = .ok (.isub, 1) := by decide +kernel
theorem dL_law_30 : decode cL_law 30 = .ok (.if_icmp .gt 2911, 3) := by decide +kernel
theorem dL_law_33 : decode cL_law 33 = .ok (.aload_n 0, 1) := by decide +kernel
theorem dL_law_34 : decode cL_law 34 = .ok (.iload 4, 2) := by decide +kernel
theorem dL_law_36 : decode cL_law 36 = .ok (.iaload, 1) := by decide +kernel
theorem dL_law_37 : decode cL_law 37 = .ok (.bipush 63, 2) := by decide +kernel
theorem dL_law_39 : decode cL_law 39 = .ok (.iand, 1) := by decide +kernel
theorem dL_law_40 : decode cL_law 40 = .ok (.tableswitch 2895 0 57 #[248, 321, 377, 390, 403, 416, 429, 509, 601, 657, 713, 781, 837, 893, 937, 993, 1049, 1062, 1075, 1088, 1101, 1114, 1127, 1140, 1196, 1264, 1320, 1383, 1439, 1495, 1551, 1607, 1663, 1731, 1799, 1855, 1911, 1967, 2023, 2079, 2135, 2191, 2254, 2310, 2366, 2422, 2478, 2534, 2590, 2653, 2721, 2734, 2747, 2760, 2773, 2814, 2857, 2870], 248) := by decide +kernel
theorem dL_law_288 : decode cL_law 288 = .ok (.aload_n 1, 1) := by decide +kernel
theorem dL_law_289 : decode cL_law 289 = .ok (.aload_n 0, 1) := by decide +kernel
theorem dL_law_290 : decode cL_law 290 = .ok (.iload 4, 2) := by decide +kernel
theorem dL_law_292 : decode cL_law 292 = .ok (.iconst 1, 1) := by decide +kernel
theorem dL_law_293 : decode cL_law 293 = .ok (.iadd, 1) := by decide +kernel
theorem dL_law_294 : decode cL_law 294 = .ok (.iaload, 1) := by decide +kernel
theorem dL_law_295 : decode cL_law 295 = .ok (.aload_n 0, 1) := by decide +kernel
theorem dL_law_296 : decode cL_law 296 = .ok (.iload 4, 2) := by decide +kernel
theorem dL_law_298 : decode cL_law 298 = .ok (.iconst 2, 1) := by decide +kernel
theorem dL_law_299 : decode cL_law 299 = .ok (.iadd, 1) := by decide +kernel
theorem dL_law_300 : decode cL_law 300 = .ok (.iaload, 1) := by decide +kernel
theorem dL_law_301 : decode cL_law 301 = .ok (.aload_n 0, 1) := by decide +kernel
theorem dL_law_302 : decode cL_law 302 = .ok (.iload 4, 2) := by decide +kernel
theorem dL_law_304 : decode cL_law 304 = .ok (.iconst 3, 1) := by decide +kernel
theorem dL_law_305 : decode cL_law 305 = .ok (.iadd, 1) := by decide +kernel
theorem dL_law_306 : decode cL_law 306 = .ok (.iaload, 1) := by decide +kernel
theorem dL_law_307 : decode cL_law 307 = .ok (.aload_n 0, 1) := by decide +kernel
theorem dL_law_308 : decode cL_law 308 = .ok (.iload 4, 2) := by decide +kernel
theorem dL_law_310 : decode cL_law 310 = .ok (.iconst 4, 1) := by decide +kernel
theorem dL_law_311 : decode cL_law 311 = .ok (.iadd, 1) := by decide +kernel
theorem dL_law_312 : decode cL_law 312 = .ok (.iaload, 1) := by decide +kernel
theorem dL_law_313 : decode cL_law 313 = .ok (.aload_n 0, 1) := by decide +kernel
theorem dL_law_314 : decode cL_law 314 = .ok (.iload 4, 2) := by decide +kernel
theorem dL_law_316 : decode cL_law 316 = .ok (.iconst 5, 1) := by decide +kernel
theorem dL_law_317 : decode cL_law 317 = .ok (.iadd, 1) := by decide +kernel
theorem dL_law_318 : decode cL_law 318 = .ok (.iaload, 1) := by decide +kernel
theorem dL_law_319 : decode cL_law 319 = .ok (.invokevirtual 139, 3) := by decide +kernel
theorem dL_law_322 : decode cL_law 322 = .ok (.aload_n 2, 1) := by decide +kernel
theorem dL_law_323 : decode cL_law 323 = .ok (.aload_n 0, 1) := by decide +kernel
theorem dL_law_324 : decode cL_law 324 = .ok (.iload 4, 2) := by decide +kernel
theorem dL_law_326 : decode cL_law 326 = .ok (.iconst 1, 1) := by decide +kernel
theorem dL_law_327 : decode cL_law 327 = .ok (.iadd, 1) := by decide +kernel
theorem dL_law_328 : decode cL_law 328 = .ok (.iaload, 1) := by decide +kernel
theorem dL_law_329 : decode cL_law 329 = .ok (.aload_n 0, 1) := by decide +kernel
theorem dL_law_330 : decode cL_law 330 = .ok (.iload 4, 2) := by decide +kernel
theorem dL_law_332 : decode cL_law 332 = .ok (.iconst 2, 1) := by decide +kernel
theorem dL_law_333 : decode cL_law 333 = .ok (.iadd, 1) := by decide +kernel
theorem dL_law_334 : decode cL_law 334 = .ok (.iaload, 1) := by decide +kernel
theorem dL_law_335 : decode cL_law 335 = .ok (.aload_n 0, 1) := by decide +kernel
theorem dL_law_336 : decode cL_law 336 = .ok (.iload 4, 2) := by decide +kernel
theorem dL_law_338 : decode cL_law 338 = .ok (.iconst 3, 1) := by decide +kernel
theorem dL_law_339 : decode cL_law 339 = .ok (.iadd, 1) := by decide +kernel
theorem dL_law_340 : decode cL_law 340 = .ok (.iaload, 1) := by decide +kernel
theorem dL_law_341 : decode cL_law 341 = .ok (.aload_n 0, 1) := by decide +kernel
theorem dL_law_342 : decode cL_law 342 = .ok (.iload 4, 2) := by decide +kernel
theorem dL_law_344 : decode cL_law 344 = .ok (.iconst 4, 1) := by decide +kernel
theorem dL_law_345 : decode cL_law 345 = .ok (.iadd, 1) := by decide +kernel
theorem dL_law_346 : decode cL_law 346 = .ok (.iaload, 1) := by decide +kernel
theorem dL_law_347 : decode cL_law 347 = .ok (.aload_n 0, 1) := by decide +kernel
theorem dL_law_348 : decode cL_law 348 = .ok (.iload 4, 2) := by decide +kernel
theorem dL_law_350 : decode cL_law 350 = .ok (.iconst 5, 1) := by decide +kernel
theorem dL_law_351 : decode cL_law 351 = .ok (.iadd, 1) := by decide +kernel
theorem dL_law_352 : decode cL_law 352 = .ok (.iaload, 1) := by decide +kernel
theorem dL_law_353 : decode cL_law 353 = .ok (.invokevirtual 143, 3) := by decide +kernel
theorem dL_law_356 : decode cL_law 356 = .ok (.if_icmp .eq 2579, 3) := by decide +kernel
theorem dL_law_359 : decode cL_law 359 = .ok (.iconst 0, 1) := by decide +kernel
theorem dL_law_360 : decode cL_law 360 = .ok (.ireturn, 1) := by decide +kernel
theorem dL_law_361 : decode cL_law 361 = .ok (.aload_n 1, 1) := by decide +kernel
theorem dL_law_362 : decode cL_law 362 = .ok (.aload_n 0, 1) := by decide +kernel
theorem dL_law_363 : decode cL_law 363 = .ok (.iload 4, 2) := by decide +kernel
theorem dL_law_365 : decode cL_law 365 = .ok (.iconst 1, 1) := by decide +kernel
theorem dL_law_366 : decode cL_law 366 = .ok (.iadd, 1) := by decide +kernel
theorem dL_law_367 : decode cL_law 367 = .ok (.iaload, 1) := by decide +kernel
theorem dL_law_368 : decode cL_law 368 = .ok (.aload_n 3, 1) := by decide +kernel
theorem dL_law_369 : decode cL_law 369 = .ok (.invokestatic 144, 3) := by decide +kernel
theorem dL_law_372 : decode cL_law 372 = .ok (.istore 5, 2) := by decide +kernel
theorem dL_law_374 : decode cL_law 374 = .ok (.aload_n 2, 1) := by decide +kernel
theorem dL_law_375 : decode cL_law 375 = .ok (.aload_n 0, 1) := by decide +kernel
theorem dL_law_376 : decode cL_law 376 = .ok (.iload 4, 2) := by decide +kernel
theorem dL_law_378 : decode cL_law 378 = .ok (.iconst 1, 1) := by decide +kernel
theorem dL_law_379 : decode cL_law 379 = .ok (.iadd, 1) := by decide +kernel
theorem dL_law_380 : decode cL_law 380 = .ok (.iaload, 1) := by decide +kernel
theorem dL_law_381 : decode cL_law 381 = .ok (.invokevirtual 149, 3) := by decide +kernel
theorem dL_law_384 : decode cL_law 384 = .ok (.istore 6, 2) := by decide +kernel
theorem dL_law_386 : decode cL_law 386 = .ok (.aload_n 2, 1) := by decide +kernel
theorem dL_law_387 : decode cL_law 387 = .ok (.invokevirtual 150, 3) := by decide +kernel
theorem dL_law_390 : decode cL_law 390 = .ok (.iload 5, 2) := by decide +kernel
theorem dL_law_392 : decode cL_law 392 = .ok (.if_icmp .eq 5, 3) := by decide +kernel
theorem dL_law_395 : decode cL_law 395 = .ok (.iconst 0, 1) := by decide +kernel
theorem dL_law_396 : decode cL_law 396 = .ok (.ireturn, 1) := by decide +kernel
theorem dL_law_397 : decode cL_law 397 = .ok (.iload 5, 2) := by decide +kernel
theorem dL_law_399 : decode cL_law 399 = .ok (.ifCond .ne 15, 3) := by decide +kernel
theorem dL_law_402 : decode cL_law 402 = .ok (.aload_n 3, 1) := by decide +kernel
theorem dL_law_403 : decode cL_law 403 = .ok (.iconst 0, 1) := by decide +kernel
theorem dL_law_404 : decode cL_law 404 = .ok (.laload, 1) := by decide +kernel
theorem dL_law_405 : decode cL_law 405 = .ok (.iload 6, 2) := by decide +kernel
theorem dL_law_407 : decode cL_law 407 = .ok (.i2l, 1) := by decide +kernel
theorem dL_law_408 : decode cL_law 408 = .ok (.lcmp, 1) := by decide +kernel
theorem dL_law_409 : decode cL_law 409 = .ok (.ifCond .eq 5, 3) := by decide +kernel
theorem dL_law_412 : decode cL_law 412 = .ok (.iconst 0, 1) := by decide +kernel
theorem dL_law_413 : decode cL_law 413 = .ok (.ireturn, 1) := by decide +kernel
theorem dL_law_414 : decode cL_law 414 = .ok (.goto 2521, 3) := by decide +kernel
theorem dL_law_417 : decode cL_law 417 = .ok (.aload_n 1, 1) := by decide +kernel
theorem dL_law_418 : decode cL_law 418 = .ok (.invokevirtual 153, 3) := by decide +kernel
theorem dL_law_421 : decode cL_law 421 = .ok (.aload_n 2, 1) := by decide +kernel
theorem dL_law_422 : decode cL_law 422 = .ok (.invokevirtual 156, 3) := by decide +kernel
theorem dL_law_425 : decode cL_law 425 = .ok (.if_icmp .eq 2510, 3) := by decide +kernel
theorem dL_law_428 : decode cL_law 428 = .ok (.iconst 0, 1) := by decide +kernel
theorem dL_law_429 : decode cL_law 429 = .ok (.ireturn, 1) := by decide +kernel
theorem dL_law_430 : decode cL_law 430 = .ok (.aload_n 1, 1) := by decide +kernel
theorem dL_law_431 : decode cL_law 431 = .ok (.invokevirtual 157, 3) := by decide +kernel
theorem dL_law_434 : decode cL_law 434 = .ok (.aload_n 2, 1) := by decide +kernel
theorem dL_law_435 : decode cL_law 435 = .ok (.invokevirtual 160, 3) := by decide +kernel
theorem dL_law_438 : decode cL_law 438 = .ok (.if_icmp .eq 2497, 3) := by decide +kernel
theorem dL_law_441 : decode cL_law 441 = .ok (.iconst 0, 1) := by decide +kernel
theorem dL_law_442 : decode cL_law 442 = .ok (.ireturn, 1) := by decide +kernel
theorem dL_law_443 : decode cL_law 443 = .ok (.aload_n 1, 1) := by decide +kernel
theorem dL_law_444 : decode cL_law 444 = .ok (.invokevirtual 161, 3) := by decide +kernel
theorem dL_law_447 : decode cL_law 447 = .ok (.aload_n 2, 1) := by decide +kernel
theorem dL_law_448 : decode cL_law 448 = .ok (.invokevirtual 164, 3) := by decide +kernel
theorem dL_law_451 : decode cL_law 451 = .ok (.if_icmp .eq 2484, 3) := by decide +kernel
theorem dL_law_454 : decode cL_law 454 = .ok (.iconst 0, 1) := by decide +kernel
theorem dL_law_455 : decode cL_law 455 = .ok (.ireturn, 1) := by decide +kernel
theorem dL_law_456 : decode cL_law 456 = .ok (.aload_n 1, 1) := by decide +kernel
theorem dL_law_457 : decode cL_law 457 = .ok (.invokevirtual 165, 3) := by decide +kernel
theorem dL_law_460 : decode cL_law 460 = .ok (.aload_n 2, 1) := by decide +kernel
theorem dL_law_461 : decode cL_law 461 = .ok (.invokevirtual 168, 3) := by decide +kernel
theorem dL_law_464 : decode cL_law 464 = .ok (.if_icmp .eq 2471, 3) := by decide +kernel
theorem dL_law_467 : decode cL_law 467 = .ok (.iconst 0, 1) := by decide +kernel
theorem dL_law_468 : decode cL_law 468 = .ok (.ireturn, 1) := by decide +kernel
theorem dL_law_469 : decode cL_law 469 = .ok (.aload_n 1, 1) := by decide +kernel
theorem dL_law_470 : decode cL_law 470 = .ok (.aload_n 0, 1) := by decide +kernel
theorem dL_law_471 : decode cL_law 471 = .ok (.iload 4, 2) := by decide +kernel
theorem dL_law_473 : decode cL_law 473 = .ok (.iconst 1, 1) := by decide +kernel
theorem dL_law_474 : decode cL_law 474 = .ok (.iadd, 1) := by decide +kernel
theorem dL_law_475 : decode cL_law 475 = .ok (.iaload, 1) := by decide +kernel
theorem dL_law_476 : decode cL_law 476 = .ok (.aload_n 0, 1) := by decide +kernel
theorem dL_law_477 : decode cL_law 477 = .ok (.iload 4, 2) := by decide +kernel
theorem dL_law_479 : decode cL_law 479 = .ok (.iconst 2, 1) := by decide +kernel
theorem dL_law_480 : decode cL_law 480 = .ok (.iadd, 1) := by decide +kernel
theorem dL_law_481 : decode cL_law 481 = .ok (.iaload, 1) := by decide +kernel
theorem dL_law_482 : decode cL_law 482 = .ok (.aload_n 0, 1) := by decide +kernel
theorem dL_law_483 : decode cL_law 483 = .ok (.iload 4, 2) := by decide +kernel
theorem dL_law_485 : decode cL_law 485 = .ok (.iconst 3, 1) := by decide +kernel
theorem dL_law_486 : decode cL_law 486 = .ok (.iadd, 1) := by decide +kernel
theorem dL_law_487 : decode cL_law 487 = .ok (.iaload, 1) := by decide +kernel
theorem dL_law_488 : decode cL_law 488 = .ok (.aload_n 3, 1) := by decide +kernel
theorem dL_law_489 : decode cL_law 489 = .ok (.invokestatic 169, 3) := by decide +kernel
theorem dL_law_492 : decode cL_law 492 = .ok (.istore 5, 2) := by decide +kernel
theorem dL_law_494 : decode cL_law 494 = .ok (.aload_n 2, 1) := by decide +kernel
theorem dL_law_495 : decode cL_law 495 = .ok (.aload_n 0, 1) := by decide +kernel
theorem dL_law_496 : decode cL_law 496 = .ok (.iload 4, 2) := by decide +kernel
theorem dL_law_498 : decode cL_law 498 = .ok (.iconst 1, 1) := by decide +kernel
theorem dL_law_499 : decode cL_law 499 = .ok (.iadd, 1) := by decide +kernel
theorem dL_law_500 : decode cL_law 500 = .ok (.iaload, 1) := by decide +kernel
theorem dL_law_501 : decode cL_law 501 = .ok (.aload_n 0, 1) := by decide +kernel
theorem dL_law_502 : decode cL_law 502 = .ok (.iload 4, 2) := by decide +kernel
theorem dL_law_504 : decode cL_law 504 = .ok (.iconst 2, 1) := by decide +kernel
theorem dL_law_505 : decode cL_law 505 = .ok (.iadd, 1) := by decide +kernel
theorem dL_law_506 : decode cL_law 506 = .ok (.iaload, 1) := by decide +kernel
theorem dL_law_507 : decode cL_law 507 = .ok (.aload_n 0, 1) := by decide +kernel
theorem dL_law_508 : decode cL_law 508 = .ok (.iload 4, 2) := by decide +kernel
theorem dL_law_510 : decode cL_law 510 = .ok (.iconst 3, 1) := by decide +kernel
theorem dL_law_511 : decode cL_law 511 = .ok (.iadd, 1) := by decide +kernel
theorem dL_law_512 : decode cL_law 512 = .ok (.iaload, 1) := by decide +kernel
theorem dL_law_513 : decode cL_law 513 = .ok (.invokevirtual 172, 3) := by decide +kernel
theorem dL_law_516 : decode cL_law 516 = .ok (.istore 6, 2) := by decide +kernel
theorem dL_law_518 : decode cL_law 518 = .ok (.aload_n 2, 1) := by decide +kernel
theorem dL_law_519 : decode cL_law 519 = .ok (.invokevirtual 150, 3) := by decide +kernel
theorem dL_law_522 : decode cL_law 522 = .ok (.iload 5, 2) := by decide +kernel
theorem dL_law_524 : decode cL_law 524 = .ok (.if_icmp .eq 5, 3) := by decide +kernel
theorem dL_law_527 : decode cL_law 527 = .ok (.iconst 0, 1) := by decide +kernel
theorem dL_law_528 : decode cL_law 528 = .ok (.ireturn, 1) := by decide +kernel
theorem dL_law_529 : decode cL_law 529 = .ok (.iload 5, 2) := by decide +kernel
theorem dL_law_531 : decode cL_law 531 = .ok (.ifCond .ne 15, 3) := by decide +kernel
theorem dL_law_534 : decode cL_law 534 = .ok (.aload_n 3, 1) := by decide +kernel
theorem dL_law_535 : decode cL_law 535 = .ok (.iconst 0, 1) := by decide +kernel
theorem dL_law_536 : decode cL_law 536 = .ok (.laload, 1) := by decide +kernel
theorem dL_law_537 : decode cL_law 537 = .ok (.iload 6, 2) := by decide +kernel
theorem dL_law_539 : decode cL_law 539 = .ok (.i2l, 1) := by decide +kernel
theorem dL_law_540 : decode cL_law 540 = .ok (.lcmp, 1) := by decide +kernel
theorem dL_law_541 : decode cL_law 541 = .ok (.ifCond .eq 5, 3) := by decide +kernel
theorem dL_law_544 : decode cL_law 544 = .ok (.iconst 0, 1) := by decide +kernel
theorem dL_law_545 : decode cL_law 545 = .ok (.ireturn, 1) := by decide +kernel
theorem dL_law_546 : decode cL_law 546 = .ok (.goto 2389, 3) := by decide +kernel
theorem dL_law_549 : decode cL_law 549 = .ok (.aload_n 1, 1) := by decide +kernel
theorem dL_law_550 : decode cL_law 550 = .ok (.aload_n 0, 1) := by decide +kernel
theorem dL_law_551 : decode cL_law 551 = .ok (.iload 4, 2) := by decide +kernel
theorem dL_law_553 : decode cL_law 553 = .ok (.iconst 1, 1) := by decide +kernel
theorem dL_law_554 : decode cL_law 554 = .ok (.iadd, 1) := by decide +kernel
theorem dL_law_555 : decode cL_law 555 = .ok (.iaload, 1) := by decide +kernel
theorem dL_law_556 : decode cL_law 556 = .ok (.aload_n 0, 1) := by decide +kernel
theorem dL_law_557 : decode cL_law 557 = .ok (.iload 4, 2) := by decide +kernel
theorem dL_law_559 : decode cL_law 559 = .ok (.iconst 2, 1) := by decide +kernel
theorem dL_law_560 : decode cL_law 560 = .ok (.iadd, 1) := by decide +kernel
theorem dL_law_561 : decode cL_law 561 = .ok (.iaload, 1) := by decide +kernel
theorem dL_law_562 : decode cL_law 562 = .ok (.aload_n 0, 1) := by decide +kernel
theorem dL_law_563 : decode cL_law 563 = .ok (.iload 4, 2) := by decide +kernel
theorem dL_law_565 : decode cL_law 565 = .ok (.iconst 3, 1) := by decide +kernel
theorem dL_law_566 : decode cL_law 566 = .ok (.iadd, 1) := by decide +kernel
theorem dL_law_567 : decode cL_law 567 = .ok (.iaload, 1) := by decide +kernel
theorem dL_law_568 : decode cL_law 568 = .ok (.aload_n 0, 1) := by decide +kernel
theorem dL_law_569 : decode cL_law 569 = .ok (.iload 4, 2) := by decide +kernel
theorem dL_law_571 : decode cL_law 571 = .ok (.iconst 4, 1) := by decide +kernel
theorem dL_law_572 : decode cL_law 572 = .ok (.iadd, 1) := by decide +kernel
theorem dL_law_573 : decode cL_law 573 = .ok (.iaload, 1) := by decide +kernel
theorem dL_law_574 : decode cL_law 574 = .ok (.aload_n 3, 1) := by decide +kernel
theorem dL_law_575 : decode cL_law 575 = .ok (.invokestatic 173, 3) := by decide +kernel
theorem dL_law_578 : decode cL_law 578 = .ok (.istore 5, 2) := by decide +kernel
theorem dL_law_580 : decode cL_law 580 = .ok (.aload_n 2, 1) := by decide +kernel
theorem dL_law_581 : decode cL_law 581 = .ok (.aload_n 0, 1) := by decide +kernel
theorem dL_law_582 : decode cL_law 582 = .ok (.iload 4, 2) := by decide +kernel
theorem dL_law_584 : decode cL_law 584 = .ok (.iconst 1, 1) := by decide +kernel
theorem dL_law_585 : decode cL_law 585 = .ok (.iadd, 1) := by decide +kernel
theorem dL_law_586 : decode cL_law 586 = .ok (.iaload, 1) := by decide +kernel
theorem dL_law_587 : decode cL_law 587 = .ok (.aload_n 0, 1) := by decide +kernel
theorem dL_law_588 : decode cL_law 588 = .ok (.iload 4, 2) := by decide +kernel
theorem dL_law_590 : decode cL_law 590 = .ok (.iconst 2, 1) := by decide +kernel
theorem dL_law_591 : decode cL_law 591 = .ok (.iadd, 1) := by decide +kernel
theorem dL_law_592 : decode cL_law 592 = .ok (.iaload, 1) := by decide +kernel
theorem dL_law_593 : decode cL_law 593 = .ok (.aload_n 0, 1) := by decide +kernel
theorem dL_law_594 : decode cL_law 594 = .ok (.iload 4, 2) := by decide +kernel
theorem dL_law_596 : decode cL_law 596 = .ok (.iconst 3, 1) := by decide +kernel
theorem dL_law_597 : decode cL_law 597 = .ok (.iadd, 1) := by decide +kernel
theorem dL_law_598 : decode cL_law 598 = .ok (.iaload, 1) := by decide +kernel
theorem dL_law_599 : decode cL_law 599 = .ok (.aload_n 0, 1) := by decide +kernel
theorem dL_law_600 : decode cL_law 600 = .ok (.iload 4, 2) := by decide +kernel
theorem dL_law_602 : decode cL_law 602 = .ok (.iconst 4, 1) := by decide +kernel
theorem dL_law_603 : decode cL_law 603 = .ok (.iadd, 1) := by decide +kernel
theorem dL_law_604 : decode cL_law 604 = .ok (.iaload, 1) := by decide +kernel
theorem dL_law_605 : decode cL_law 605 = .ok (.invokevirtual 176, 3) := by decide +kernel
theorem dL_law_608 : decode cL_law 608 = .ok (.istore 6, 2) := by decide +kernel
theorem dL_law_610 : decode cL_law 610 = .ok (.aload_n 2, 1) := by decide +kernel
theorem dL_law_611 : decode cL_law 611 = .ok (.invokevirtual 150, 3) := by decide +kernel
theorem dL_law_614 : decode cL_law 614 = .ok (.iload 5, 2) := by decide +kernel
theorem dL_law_616 : decode cL_law 616 = .ok (.if_icmp .eq 5, 3) := by decide +kernel
theorem dL_law_619 : decode cL_law 619 = .ok (.iconst 0, 1) := by decide +kernel
theorem dL_law_620 : decode cL_law 620 = .ok (.ireturn, 1) := by decide +kernel
theorem dL_law_621 : decode cL_law 621 = .ok (.iload 5, 2) := by decide +kernel
theorem dL_law_623 : decode cL_law 623 = .ok (.ifCond .ne 15, 3) := by decide +kernel
theorem dL_law_626 : decode cL_law 626 = .ok (.aload_n 3, 1) := by decide +kernel
theorem dL_law_627 : decode cL_law 627 = .ok (.iconst 0, 1) := by decide +kernel
theorem dL_law_628 : decode cL_law 628 = .ok (.laload, 1) := by decide +kernel
theorem dL_law_629 : decode cL_law 629 = .ok (.iload 6, 2) := by decide +kernel
theorem dL_law_631 : decode cL_law 631 = .ok (.i2l, 1) := by decide +kernel
theorem dL_law_632 : decode cL_law 632 = .ok (.lcmp, 1) := by decide +kernel
theorem dL_law_633 : decode cL_law 633 = .ok (.ifCond .eq 5, 3) := by decide +kernel
theorem dL_law_636 : decode cL_law 636 = .ok (.iconst 0, 1) := by decide +kernel
theorem dL_law_637 : decode cL_law 637 = .ok (.ireturn, 1) := by decide +kernel
theorem dL_law_638 : decode cL_law 638 = .ok (.goto 2297, 3) := by decide +kernel
theorem dL_law_641 : decode cL_law 641 = .ok (.aload_n 1, 1) := by decide +kernel
theorem dL_law_642 : decode cL_law 642 = .ok (.aload_n 0, 1) := by decide +kernel
theorem dL_law_643 : decode cL_law 643 = .ok (.iload 4, 2) := by decide +kernel
theorem dL_law_645 : decode cL_law 645 = .ok (.iconst 1, 1) := by decide +kernel
theorem dL_law_646 : decode cL_law 646 = .ok (.iadd, 1) := by decide +kernel
theorem dL_law_647 : decode cL_law 647 = .ok (.iaload, 1) := by decide +kernel
theorem dL_law_648 : decode cL_law 648 = .ok (.aload_n 3, 1) := by decide +kernel
theorem dL_law_649 : decode cL_law 649 = .ok (.invokestatic 177, 3) := by decide +kernel
theorem dL_law_652 : decode cL_law 652 = .ok (.istore 5, 2) := by decide +kernel
theorem dL_law_654 : decode cL_law 654 = .ok (.aload_n 2, 1) := by decide +kernel
theorem dL_law_655 : decode cL_law 655 = .ok (.aload_n 0, 1) := by decide +kernel
theorem dL_law_656 : decode cL_law 656 = .ok (.iload 4, 2) := by decide +kernel
theorem dL_law_658 : decode cL_law 658 = .ok (.iconst 1, 1) := by decide +kernel
theorem dL_law_659 : decode cL_law 659 = .ok (.iadd, 1) := by decide +kernel
theorem dL_law_660 : decode cL_law 660 = .ok (.iaload, 1) := by decide +kernel
theorem dL_law_661 : decode cL_law 661 = .ok (.invokevirtual 179, 3) := by decide +kernel
theorem dL_law_664 : decode cL_law 664 = .ok (.istore 6, 2) := by decide +kernel
theorem dL_law_666 : decode cL_law 666 = .ok (.aload_n 2, 1) := by decide +kernel
theorem dL_law_667 : decode cL_law 667 = .ok (.invokevirtual 150, 3) := by decide +kernel
theorem dL_law_670 : decode cL_law 670 = .ok (.iload 5, 2) := by decide +kernel
theorem dL_law_672 : decode cL_law 672 = .ok (.if_icmp .eq 5, 3) := by decide +kernel
theorem dL_law_675 : decode cL_law 675 = .ok (.iconst 0, 1) := by decide +kernel
theorem dL_law_676 : decode cL_law 676 = .ok (.ireturn, 1) := by decide +kernel
theorem dL_law_677 : decode cL_law 677 = .ok (.iload 5, 2) := by decide +kernel
theorem dL_law_679 : decode cL_law 679 = .ok (.ifCond .ne 15, 3) := by decide +kernel
theorem dL_law_682 : decode cL_law 682 = .ok (.aload_n 3, 1) := by decide +kernel
theorem dL_law_683 : decode cL_law 683 = .ok (.iconst 0, 1) := by decide +kernel
theorem dL_law_684 : decode cL_law 684 = .ok (.laload, 1) := by decide +kernel
theorem dL_law_685 : decode cL_law 685 = .ok (.iload 6, 2) := by decide +kernel
theorem dL_law_687 : decode cL_law 687 = .ok (.i2l, 1) := by decide +kernel
theorem dL_law_688 : decode cL_law 688 = .ok (.lcmp, 1) := by decide +kernel
theorem dL_law_689 : decode cL_law 689 = .ok (.ifCond .eq 5, 3) := by decide +kernel
theorem dL_law_692 : decode cL_law 692 = .ok (.iconst 0, 1) := by decide +kernel
theorem dL_law_693 : decode cL_law 693 = .ok (.ireturn, 1) := by decide +kernel
theorem dL_law_694 : decode cL_law 694 = .ok (.goto 2241, 3) := by decide +kernel
theorem dL_law_697 : decode cL_law 697 = .ok (.aload_n 1, 1) := by decide +kernel
theorem dL_law_698 : decode cL_law 698 = .ok (.aload_n 0, 1) := by decide +kernel
theorem dL_law_699 : decode cL_law 699 = .ok (.iload 4, 2) := by decide +kernel
theorem dL_law_701 : decode cL_law 701 = .ok (.iconst 1, 1) := by decide +kernel
theorem dL_law_702 : decode cL_law 702 = .ok (.iadd, 1) := by decide +kernel
theorem dL_law_703 : decode cL_law 703 = .ok (.iaload, 1) := by decide +kernel
theorem dL_law_704 : decode cL_law 704 = .ok (.aload_n 3, 1) := by decide +kernel
theorem dL_law_705 : decode cL_law 705 = .ok (.invokestatic 180, 3) := by decide +kernel
theorem dL_law_708 : decode cL_law 708 = .ok (.istore 5, 2) := by decide +kernel
theorem dL_law_710 : decode cL_law 710 = .ok (.aload_n 2, 1) := by decide +kernel
theorem dL_law_711 : decode cL_law 711 = .ok (.aload_n 0, 1) := by decide +kernel
theorem dL_law_712 : decode cL_law 712 = .ok (.iload 4, 2) := by decide +kernel
theorem dL_law_714 : decode cL_law 714 = .ok (.iconst 1, 1) := by decide +kernel
theorem dL_law_715 : decode cL_law 715 = .ok (.iadd, 1) := by decide +kernel
theorem dL_law_716 : decode cL_law 716 = .ok (.iaload, 1) := by decide +kernel
theorem dL_law_717 : decode cL_law 717 = .ok (.invokevirtual 182, 3) := by decide +kernel
theorem dL_law_720 : decode cL_law 720 = .ok (.istore 6, 2) := by decide +kernel
theorem dL_law_722 : decode cL_law 722 = .ok (.aload_n 2, 1) := by decide +kernel
theorem dL_law_723 : decode cL_law 723 = .ok (.invokevirtual 150, 3) := by decide +kernel
theorem dL_law_726 : decode cL_law 726 = .ok (.iload 5, 2) := by decide +kernel
theorem dL_law_728 : decode cL_law 728 = .ok (.if_icmp .eq 5, 3) := by decide +kernel
theorem dL_law_731 : decode cL_law 731 = .ok (.iconst 0, 1) := by decide +kernel
theorem dL_law_732 : decode cL_law 732 = .ok (.ireturn, 1) := by decide +kernel
theorem dL_law_733 : decode cL_law 733 = .ok (.iload 5, 2) := by decide +kernel
theorem dL_law_735 : decode cL_law 735 = .ok (.ifCond .ne 15, 3) := by decide +kernel
theorem dL_law_738 : decode cL_law 738 = .ok (.aload_n 3, 1) := by decide +kernel
theorem dL_law_739 : decode cL_law 739 = .ok (.iconst 0, 1) := by decide +kernel
theorem dL_law_740 : decode cL_law 740 = .ok (.laload, 1) := by decide +kernel
theorem dL_law_741 : decode cL_law 741 = .ok (.iload 6, 2) := by decide +kernel
theorem dL_law_743 : decode cL_law 743 = .ok (.i2l, 1) := by decide +kernel
theorem dL_law_744 : decode cL_law 744 = .ok (.lcmp, 1) := by decide +kernel
theorem dL_law_745 : decode cL_law 745 = .ok (.ifCond .eq 5, 3) := by decide +kernel
theorem dL_law_748 : decode cL_law 748 = .ok (.iconst 0, 1) := by decide +kernel
theorem dL_law_749 : decode cL_law 749 = .ok (.ireturn, 1) := by decide +kernel
theorem dL_law_750 : decode cL_law 750 = .ok (.goto 2185, 3) := by decide +kernel
theorem dL_law_753 : decode cL_law 753 = .ok (.aload_n 1, 1) := by decide +kernel
theorem dL_law_754 : decode cL_law 754 = .ok (.aload_n 0, 1) := by decide +kernel
theorem dL_law_755 : decode cL_law 755 = .ok (.iload 4, 2) := by decide +kernel
theorem dL_law_757 : decode cL_law 757 = .ok (.iconst 1, 1) := by decide +kernel
theorem dL_law_758 : decode cL_law 758 = .ok (.iadd, 1) := by decide +kernel
theorem dL_law_759 : decode cL_law 759 = .ok (.iaload, 1) := by decide +kernel
theorem dL_law_760 : decode cL_law 760 = .ok (.aload_n 0, 1) := by decide +kernel
theorem dL_law_761 : decode cL_law 761 = .ok (.iload 4, 2) := by decide +kernel
theorem dL_law_763 : decode cL_law 763 = .ok (.iconst 2, 1) := by decide +kernel
theorem dL_law_764 : decode cL_law 764 = .ok (.iadd, 1) := by decide +kernel
theorem dL_law_765 : decode cL_law 765 = .ok (.iaload, 1) := by decide +kernel
theorem dL_law_766 : decode cL_law 766 = .ok (.aload_n 3, 1) := by decide +kernel
theorem dL_law_767 : decode cL_law 767 = .ok (.invokestatic 183, 3) := by decide +kernel
theorem dL_law_770 : decode cL_law 770 = .ok (.istore 5, 2) := by decide +kernel
theorem dL_law_772 : decode cL_law 772 = .ok (.aload_n 2, 1) := by decide +kernel
theorem dL_law_773 : decode cL_law 773 = .ok (.aload_n 0, 1) := by decide +kernel
theorem dL_law_774 : decode cL_law 774 = .ok (.iload 4, 2) := by decide +kernel
theorem dL_law_776 : decode cL_law 776 = .ok (.iconst 1, 1) := by decide +kernel
theorem dL_law_777 : decode cL_law 777 = .ok (.iadd, 1) := by decide +kernel
theorem dL_law_778 : decode cL_law 778 = .ok (.iaload, 1) := by decide +kernel
theorem dL_law_779 : decode cL_law 779 = .ok (.aload_n 0, 1) := by decide +kernel
theorem dL_law_780 : decode cL_law 780 = .ok (.iload 4, 2) := by decide +kernel
theorem dL_law_782 : decode cL_law 782 = .ok (.iconst 2, 1) := by decide +kernel
theorem dL_law_783 : decode cL_law 783 = .ok (.iadd, 1) := by decide +kernel
theorem dL_law_784 : decode cL_law 784 = .ok (.iaload, 1) := by decide +kernel
theorem dL_law_785 : decode cL_law 785 = .ok (.invokevirtual 186, 3) := by decide +kernel
theorem dL_law_788 : decode cL_law 788 = .ok (.istore 6, 2) := by decide +kernel
theorem dL_law_790 : decode cL_law 790 = .ok (.aload_n 2, 1) := by decide +kernel
theorem dL_law_791 : decode cL_law 791 = .ok (.invokevirtual 150, 3) := by decide +kernel
theorem dL_law_794 : decode cL_law 794 = .ok (.iload 5, 2) := by decide +kernel
theorem dL_law_796 : decode cL_law 796 = .ok (.if_icmp .eq 5, 3) := by decide +kernel
theorem dL_law_799 : decode cL_law 799 = .ok (.iconst 0, 1) := by decide +kernel
theorem dL_law_800 : decode cL_law 800 = .ok (.ireturn, 1) := by decide +kernel
theorem dL_law_801 : decode cL_law 801 = .ok (.iload 5, 2) := by decide +kernel
theorem dL_law_803 : decode cL_law 803 = .ok (.ifCond .ne 15, 3) := by decide +kernel
theorem dL_law_806 : decode cL_law 806 = .ok (.aload_n 3, 1) := by decide +kernel
theorem dL_law_807 : decode cL_law 807 = .ok (.iconst 0, 1) := by decide +kernel
theorem dL_law_808 : decode cL_law 808 = .ok (.laload, 1) := by decide +kernel
theorem dL_law_809 : decode cL_law 809 = .ok (.iload 6, 2) := by decide +kernel
theorem dL_law_811 : decode cL_law 811 = .ok (.i2l, 1) := by decide +kernel
theorem dL_law_812 : decode cL_law 812 = .ok (.lcmp, 1) := by decide +kernel
theorem dL_law_813 : decode cL_law 813 = .ok (.ifCond .eq 5, 3) := by decide +kernel
theorem dL_law_816 : decode cL_law 816 = .ok (.iconst 0, 1) := by decide +kernel
theorem dL_law_817 : decode cL_law 817 = .ok (.ireturn, 1) := by decide +kernel
theorem dL_law_818 : decode cL_law 818 = .ok (.goto 2117, 3) := by decide +kernel
theorem dL_law_821 : decode cL_law 821 = .ok (.aload_n 1, 1) := by decide +kernel
theorem dL_law_822 : decode cL_law 822 = .ok (.aload_n 0, 1) := by decide +kernel
theorem dL_law_823 : decode cL_law 823 = .ok (.iload 4, 2) := by decide +kernel
theorem dL_law_825 : decode cL_law 825 = .ok (.iconst 1, 1) := by decide +kernel
theorem dL_law_826 : decode cL_law 826 = .ok (.iadd, 1) := by decide +kernel
theorem dL_law_827 : decode cL_law 827 = .ok (.iaload, 1) := by decide +kernel
theorem dL_law_828 : decode cL_law 828 = .ok (.aload_n 3, 1) := by decide +kernel
theorem dL_law_829 : decode cL_law 829 = .ok (.invokestatic 187, 3) := by decide +kernel
theorem dL_law_832 : decode cL_law 832 = .ok (.istore 5, 2) := by decide +kernel
theorem dL_law_834 : decode cL_law 834 = .ok (.aload_n 2, 1) := by decide +kernel
theorem dL_law_835 : decode cL_law 835 = .ok (.aload_n 0, 1) := by decide +kernel
theorem dL_law_836 : decode cL_law 836 = .ok (.iload 4, 2) := by decide +kernel
theorem dL_law_838 : decode cL_law 838 = .ok (.iconst 1, 1) := by decide +kernel
theorem dL_law_839 : decode cL_law 839 = .ok (.iadd, 1) := by decide +kernel
theorem dL_law_840 : decode cL_law 840 = .ok (.iaload, 1) := by decide +kernel
theorem dL_law_841 : decode cL_law 841 = .ok (.invokevirtual 189, 3) := by decide +kernel
theorem dL_law_844 : decode cL_law 844 = .ok (.istore 6, 2) := by decide +kernel
theorem dL_law_846 : decode cL_law 846 = .ok (.aload_n 2, 1) := by decide +kernel
theorem dL_law_847 : decode cL_law 847 = .ok (.invokevirtual 150, 3) := by decide +kernel
theorem dL_law_850 : decode cL_law 850 = .ok (.iload 5, 2) := by decide +kernel
theorem dL_law_852 : decode cL_law 852 = .ok (.if_icmp .eq 5, 3) := by decide +kernel
theorem dL_law_855 : decode cL_law 855 = .ok (.iconst 0, 1) := by decide +kernel
theorem dL_law_856 : decode cL_law 856 = .ok (.ireturn, 1) := by decide +kernel
theorem dL_law_857 : decode cL_law 857 = .ok (.iload 5, 2) := by decide +kernel
theorem dL_law_859 : decode cL_law 859 = .ok (.ifCond .ne 15, 3) := by decide +kernel
theorem dL_law_862 : decode cL_law 862 = .ok (.aload_n 3, 1) := by decide +kernel
theorem dL_law_863 : decode cL_law 863 = .ok (.iconst 0, 1) := by decide +kernel
theorem dL_law_864 : decode cL_law 864 = .ok (.laload, 1) := by decide +kernel
theorem dL_law_865 : decode cL_law 865 = .ok (.iload 6, 2) := by decide +kernel
theorem dL_law_867 : decode cL_law 867 = .ok (.i2l, 1) := by decide +kernel
theorem dL_law_868 : decode cL_law 868 = .ok (.lcmp, 1) := by decide +kernel
theorem dL_law_869 : decode cL_law 869 = .ok (.ifCond .eq 5, 3) := by decide +kernel
theorem dL_law_872 : decode cL_law 872 = .ok (.iconst 0, 1) := by decide +kernel
theorem dL_law_873 : decode cL_law 873 = .ok (.ireturn, 1) := by decide +kernel
theorem dL_law_874 : decode cL_law 874 = .ok (.goto 2061, 3) := by decide +kernel
theorem dL_law_877 : decode cL_law 877 = .ok (.aload_n 1, 1) := by decide +kernel
theorem dL_law_878 : decode cL_law 878 = .ok (.aload_n 0, 1) := by decide +kernel
theorem dL_law_879 : decode cL_law 879 = .ok (.iload 4, 2) := by decide +kernel
theorem dL_law_881 : decode cL_law 881 = .ok (.iconst 1, 1) := by decide +kernel
theorem dL_law_882 : decode cL_law 882 = .ok (.iadd, 1) := by decide +kernel
theorem dL_law_883 : decode cL_law 883 = .ok (.iaload, 1) := by decide +kernel
theorem dL_law_884 : decode cL_law 884 = .ok (.aload_n 3, 1) := by decide +kernel
theorem dL_law_885 : decode cL_law 885 = .ok (.invokestatic 190, 3) := by decide +kernel
theorem dL_law_888 : decode cL_law 888 = .ok (.istore 5, 2) := by decide +kernel
theorem dL_law_890 : decode cL_law 890 = .ok (.aload_n 2, 1) := by decide +kernel
theorem dL_law_891 : decode cL_law 891 = .ok (.aload_n 0, 1) := by decide +kernel
theorem dL_law_892 : decode cL_law 892 = .ok (.iload 4, 2) := by decide +kernel
theorem dL_law_894 : decode cL_law 894 = .ok (.iconst 1, 1) := by decide +kernel
theorem dL_law_895 : decode cL_law 895 = .ok (.iadd, 1) := by decide +kernel
theorem dL_law_896 : decode cL_law 896 = .ok (.iaload, 1) := by decide +kernel
theorem dL_law_897 : decode cL_law 897 = .ok (.invokevirtual 192, 3) := by decide +kernel
theorem dL_law_900 : decode cL_law 900 = .ok (.istore 6, 2) := by decide +kernel
theorem dL_law_902 : decode cL_law 902 = .ok (.aload_n 2, 1) := by decide +kernel
theorem dL_law_903 : decode cL_law 903 = .ok (.invokevirtual 150, 3) := by decide +kernel
theorem dL_law_906 : decode cL_law 906 = .ok (.iload 5, 2) := by decide +kernel
theorem dL_law_908 : decode cL_law 908 = .ok (.if_icmp .eq 5, 3) := by decide +kernel
theorem dL_law_911 : decode cL_law 911 = .ok (.iconst 0, 1) := by decide +kernel
theorem dL_law_912 : decode cL_law 912 = .ok (.ireturn, 1) := by decide +kernel
theorem dL_law_913 : decode cL_law 913 = .ok (.iload 5, 2) := by decide +kernel
theorem dL_law_915 : decode cL_law 915 = .ok (.ifCond .ne 15, 3) := by decide +kernel
theorem dL_law_918 : decode cL_law 918 = .ok (.aload_n 3, 1) := by decide +kernel
theorem dL_law_919 : decode cL_law 919 = .ok (.iconst 0, 1) := by decide +kernel
theorem dL_law_920 : decode cL_law 920 = .ok (.laload, 1) := by decide +kernel
theorem dL_law_921 : decode cL_law 921 = .ok (.iload 6, 2) := by decide +kernel
theorem dL_law_923 : decode cL_law 923 = .ok (.i2l, 1) := by decide +kernel
theorem dL_law_924 : decode cL_law 924 = .ok (.lcmp, 1) := by decide +kernel
theorem dL_law_925 : decode cL_law 925 = .ok (.ifCond .eq 5, 3) := by decide +kernel
theorem dL_law_928 : decode cL_law 928 = .ok (.iconst 0, 1) := by decide +kernel
theorem dL_law_929 : decode cL_law 929 = .ok (.ireturn, 1) := by decide +kernel
theorem dL_law_930 : decode cL_law 930 = .ok (.goto 2005, 3) := by decide +kernel
theorem dL_law_933 : decode cL_law 933 = .ok (.aload_n 1, 1) := by decide +kernel
theorem dL_law_934 : decode cL_law 934 = .ok (.aload_n 3, 1) := by decide +kernel
theorem dL_law_935 : decode cL_law 935 = .ok (.invokestatic 193, 3) := by decide +kernel
theorem dL_law_938 : decode cL_law 938 = .ok (.istore 5, 2) := by decide +kernel
theorem dL_law_940 : decode cL_law 940 = .ok (.aload_n 2, 1) := by decide +kernel
theorem dL_law_941 : decode cL_law 941 = .ok (.invokevirtual 196, 3) := by decide +kernel
theorem dL_law_944 : decode cL_law 944 = .ok (.istore 6, 2) := by decide +kernel
theorem dL_law_946 : decode cL_law 946 = .ok (.aload_n 2, 1) := by decide +kernel
theorem dL_law_947 : decode cL_law 947 = .ok (.invokevirtual 150, 3) := by decide +kernel
theorem dL_law_950 : decode cL_law 950 = .ok (.iload 5, 2) := by decide +kernel
theorem dL_law_952 : decode cL_law 952 = .ok (.if_icmp .eq 5, 3) := by decide +kernel
theorem dL_law_955 : decode cL_law 955 = .ok (.iconst 0, 1) := by decide +kernel
theorem dL_law_956 : decode cL_law 956 = .ok (.ireturn, 1) := by decide +kernel
theorem dL_law_957 : decode cL_law 957 = .ok (.iload 5, 2) := by decide +kernel
theorem dL_law_959 : decode cL_law 959 = .ok (.ifCond .ne 15, 3) := by decide +kernel
theorem dL_law_962 : decode cL_law 962 = .ok (.aload_n 3, 1) := by decide +kernel
theorem dL_law_963 : decode cL_law 963 = .ok (.iconst 0, 1) := by decide +kernel
theorem dL_law_964 : decode cL_law 964 = .ok (.laload, 1) := by decide +kernel
theorem dL_law_965 : decode cL_law 965 = .ok (.iload 6, 2) := by decide +kernel
theorem dL_law_967 : decode cL_law 967 = .ok (.i2l, 1) := by decide +kernel
theorem dL_law_968 : decode cL_law 968 = .ok (.lcmp, 1) := by decide +kernel
theorem dL_law_969 : decode cL_law 969 = .ok (.ifCond .eq 5, 3) := by decide +kernel
theorem dL_law_972 : decode cL_law 972 = .ok (.iconst 0, 1) := by decide +kernel
theorem dL_law_973 : decode cL_law 973 = .ok (.ireturn, 1) := by decide +kernel
theorem dL_law_974 : decode cL_law 974 = .ok (.goto 1961, 3) := by decide +kernel
theorem dL_law_977 : decode cL_law 977 = .ok (.aload_n 1, 1) := by decide +kernel
theorem dL_law_978 : decode cL_law 978 = .ok (.aload_n 0, 1) := by decide +kernel
theorem dL_law_979 : decode cL_law 979 = .ok (.iload 4, 2) := by decide +kernel
theorem dL_law_981 : decode cL_law 981 = .ok (.iconst 1, 1) := by decide +kernel
theorem dL_law_982 : decode cL_law 982 = .ok (.iadd, 1) := by decide +kernel
theorem dL_law_983 : decode cL_law 983 = .ok (.iaload, 1) := by decide +kernel
theorem dL_law_984 : decode cL_law 984 = .ok (.aload_n 3, 1) := by decide +kernel
theorem dL_law_985 : decode cL_law 985 = .ok (.invokestatic 197, 3) := by decide +kernel
theorem dL_law_988 : decode cL_law 988 = .ok (.istore 5, 2) := by decide +kernel
theorem dL_law_990 : decode cL_law 990 = .ok (.aload_n 2, 1) := by decide +kernel
theorem dL_law_991 : decode cL_law 991 = .ok (.aload_n 0, 1) := by decide +kernel
theorem dL_law_992 : decode cL_law 992 = .ok (.iload 4, 2) := by decide +kernel
theorem dL_law_994 : decode cL_law 994 = .ok (.iconst 1, 1) := by decide +kernel
theorem dL_law_995 : decode cL_law 995 = .ok (.iadd, 1) := by decide +kernel
theorem dL_law_996 : decode cL_law 996 = .ok (.iaload, 1) := by decide +kernel
theorem dL_law_997 : decode cL_law 997 = .ok (.invokevirtual 199, 3) := by decide +kernel
theorem dL_law_1000 : decode cL_law 1000 = .ok (.istore 6, 2) := by decide +kernel
theorem dL_law_1002 : decode cL_law 1002 = .ok (.aload_n 2, 1) := by decide +kernel
theorem dL_law_1003 : decode cL_law 1003 = .ok (.invokevirtual 150, 3) := by decide +kernel
theorem dL_law_1006 : decode cL_law 1006 = .ok (.iload 5, 2) := by decide +kernel
theorem dL_law_1008 : decode cL_law 1008 = .ok (.if_icmp .eq 5, 3) := by decide +kernel
theorem dL_law_1011 : decode cL_law 1011 = .ok (.iconst 0, 1) := by decide +kernel
theorem dL_law_1012 : decode cL_law 1012 = .ok (.ireturn, 1) := by decide +kernel
theorem dL_law_1013 : decode cL_law 1013 = .ok (.iload 5, 2) := by decide +kernel
theorem dL_law_1015 : decode cL_law 1015 = .ok (.ifCond .ne 15, 3) := by decide +kernel
theorem dL_law_1018 : decode cL_law 1018 = .ok (.aload_n 3, 1) := by decide +kernel
theorem dL_law_1019 : decode cL_law 1019 = .ok (.iconst 0, 1) := by decide +kernel
theorem dL_law_1020 : decode cL_law 1020 = .ok (.laload, 1) := by decide +kernel
theorem dL_law_1021 : decode cL_law 1021 = .ok (.iload 6, 2) := by decide +kernel
theorem dL_law_1023 : decode cL_law 1023 = .ok (.i2l, 1) := by decide +kernel
theorem dL_law_1024 : decode cL_law 1024 = .ok (.lcmp, 1) := by decide +kernel
theorem dL_law_1025 : decode cL_law 1025 = .ok (.ifCond .eq 5, 3) := by decide +kernel
theorem dL_law_1028 : decode cL_law 1028 = .ok (.iconst 0, 1) := by decide +kernel
theorem dL_law_1029 : decode cL_law 1029 = .ok (.ireturn, 1) := by decide +kernel
theorem dL_law_1030 : decode cL_law 1030 = .ok (.goto 1905, 3) := by decide +kernel
theorem dL_law_1033 : decode cL_law 1033 = .ok (.aload_n 1, 1) := by decide +kernel
theorem dL_law_1034 : decode cL_law 1034 = .ok (.aload_n 0, 1) := by decide +kernel
theorem dL_law_1035 : decode cL_law 1035 = .ok (.iload 4, 2) := by decide +kernel
theorem dL_law_1037 : decode cL_law 1037 = .ok (.iconst 1, 1) := by decide +kernel
theorem dL_law_1038 : decode cL_law 1038 = .ok (.iadd, 1) := by decide +kernel
theorem dL_law_1039 : decode cL_law 1039 = .ok (.iaload, 1) := by decide +kernel
theorem dL_law_1040 : decode cL_law 1040 = .ok (.aload_n 3, 1) := by decide +kernel
theorem dL_law_1041 : decode cL_law 1041 = .ok (.invokestatic 200, 3) := by decide +kernel
theorem dL_law_1044 : decode cL_law 1044 = .ok (.istore 5, 2) := by decide +kernel
theorem dL_law_1046 : decode cL_law 1046 = .ok (.aload_n 2, 1) := by decide +kernel
theorem dL_law_1047 : decode cL_law 1047 = .ok (.aload_n 0, 1) := by decide +kernel
theorem dL_law_1048 : decode cL_law 1048 = .ok (.iload 4, 2) := by decide +kernel
theorem dL_law_1050 : decode cL_law 1050 = .ok (.iconst 1, 1) := by decide +kernel
theorem dL_law_1051 : decode cL_law 1051 = .ok (.iadd, 1) := by decide +kernel
theorem dL_law_1052 : decode cL_law 1052 = .ok (.iaload, 1) := by decide +kernel
theorem dL_law_1053 : decode cL_law 1053 = .ok (.invokevirtual 202, 3) := by decide +kernel
theorem dL_law_1056 : decode cL_law 1056 = .ok (.istore 6, 2) := by decide +kernel
theorem dL_law_1058 : decode cL_law 1058 = .ok (.aload_n 2, 1) := by decide +kernel
theorem dL_law_1059 : decode cL_law 1059 = .ok (.invokevirtual 150, 3) := by decide +kernel
theorem dL_law_1062 : decode cL_law 1062 = .ok (.iload 5, 2) := by decide +kernel
theorem dL_law_1064 : decode cL_law 1064 = .ok (.if_icmp .eq 5, 3) := by decide +kernel
theorem dL_law_1067 : decode cL_law 1067 = .ok (.iconst 0, 1) := by decide +kernel
theorem dL_law_1068 : decode cL_law 1068 = .ok (.ireturn, 1) := by decide +kernel
theorem dL_law_1069 : decode cL_law 1069 = .ok (.iload 5, 2) := by decide +kernel
theorem dL_law_1071 : decode cL_law 1071 = .ok (.ifCond .ne 15, 3) := by decide +kernel
theorem dL_law_1074 : decode cL_law 1074 = .ok (.aload_n 3, 1) := by decide +kernel
theorem dL_law_1075 : decode cL_law 1075 = .ok (.iconst 0, 1) := by decide +kernel
theorem dL_law_1076 : decode cL_law 1076 = .ok (.laload, 1) := by decide +kernel
theorem dL_law_1077 : decode cL_law 1077 = .ok (.iload 6, 2) := by decide +kernel
theorem dL_law_1079 : decode cL_law 1079 = .ok (.i2l, 1) := by decide +kernel
theorem dL_law_1080 : decode cL_law 1080 = .ok (.lcmp, 1) := by decide +kernel
theorem dL_law_1081 : decode cL_law 1081 = .ok (.ifCond .eq 5, 3) := by decide +kernel
theorem dL_law_1084 : decode cL_law 1084 = .ok (.iconst 0, 1) := by decide +kernel
theorem dL_law_1085 : decode cL_law 1085 = .ok (.ireturn, 1) := by decide +kernel
theorem dL_law_1086 : decode cL_law 1086 = .ok (.goto 1849, 3) := by decide +kernel
theorem dL_law_1089 : decode cL_law 1089 = .ok (.aload_n 1, 1) := by decide +kernel
theorem dL_law_1090 : decode cL_law 1090 = .ok (.invokevirtual 203, 3) := by decide +kernel
theorem dL_law_1093 : decode cL_law 1093 = .ok (.aload_n 2, 1) := by decide +kernel
theorem dL_law_1094 : decode cL_law 1094 = .ok (.invokevirtual 206, 3) := by decide +kernel
theorem dL_law_1097 : decode cL_law 1097 = .ok (.if_icmp .eq 1838, 3) := by decide +kernel
theorem dL_law_1100 : decode cL_law 1100 = .ok (.iconst 0, 1) := by decide +kernel
theorem dL_law_1101 : decode cL_law 1101 = .ok (.ireturn, 1) := by decide +kernel
theorem dL_law_1102 : decode cL_law 1102 = .ok (.aload_n 1, 1) := by decide +kernel
theorem dL_law_1103 : decode cL_law 1103 = .ok (.invokevirtual 207, 3) := by decide +kernel
theorem dL_law_1106 : decode cL_law 1106 = .ok (.aload_n 2, 1) := by decide +kernel
theorem dL_law_1107 : decode cL_law 1107 = .ok (.invokevirtual 210, 3) := by decide +kernel
theorem dL_law_1110 : decode cL_law 1110 = .ok (.if_icmp .eq 1825, 3) := by decide +kernel
theorem dL_law_1113 : decode cL_law 1113 = .ok (.iconst 0, 1) := by decide +kernel
theorem dL_law_1114 : decode cL_law 1114 = .ok (.ireturn, 1) := by decide +kernel
theorem dL_law_1115 : decode cL_law 1115 = .ok (.aload_n 1, 1) := by decide +kernel
theorem dL_law_1116 : decode cL_law 1116 = .ok (.invokevirtual 211, 3) := by decide +kernel
theorem dL_law_1119 : decode cL_law 1119 = .ok (.aload_n 2, 1) := by decide +kernel
theorem dL_law_1120 : decode cL_law 1120 = .ok (.invokevirtual 214, 3) := by decide +kernel
theorem dL_law_1123 : decode cL_law 1123 = .ok (.if_icmp .eq 1812, 3) := by decide +kernel
theorem dL_law_1126 : decode cL_law 1126 = .ok (.iconst 0, 1) := by decide +kernel
theorem dL_law_1127 : decode cL_law 1127 = .ok (.ireturn, 1) := by decide +kernel
theorem dL_law_1128 : decode cL_law 1128 = .ok (.aload_n 1, 1) := by decide +kernel
theorem dL_law_1129 : decode cL_law 1129 = .ok (.invokevirtual 215, 3) := by decide +kernel
theorem dL_law_1132 : decode cL_law 1132 = .ok (.aload_n 2, 1) := by decide +kernel
theorem dL_law_1133 : decode cL_law 1133 = .ok (.invokevirtual 218, 3) := by decide +kernel
theorem dL_law_1136 : decode cL_law 1136 = .ok (.if_icmp .eq 1799, 3) := by decide +kernel
theorem dL_law_1139 : decode cL_law 1139 = .ok (.iconst 0, 1) := by decide +kernel
theorem dL_law_1140 : decode cL_law 1140 = .ok (.ireturn, 1) := by decide +kernel
theorem dL_law_1141 : decode cL_law 1141 = .ok (.aload_n 1, 1) := by decide +kernel
theorem dL_law_1142 : decode cL_law 1142 = .ok (.invokevirtual 219, 3) := by decide +kernel
theorem dL_law_1145 : decode cL_law 1145 = .ok (.aload_n 2, 1) := by decide +kernel
theorem dL_law_1146 : decode cL_law 1146 = .ok (.invokevirtual 222, 3) := by decide +kernel
theorem dL_law_1149 : decode cL_law 1149 = .ok (.if_icmp .eq 1786, 3) := by decide +kernel
theorem dL_law_1152 : decode cL_law 1152 = .ok (.iconst 0, 1) := by decide +kernel
theorem dL_law_1153 : decode cL_law 1153 = .ok (.ireturn, 1) := by decide +kernel
theorem dL_law_1154 : decode cL_law 1154 = .ok (.aload_n 1, 1) := by decide +kernel
theorem dL_law_1155 : decode cL_law 1155 = .ok (.invokevirtual 223, 3) := by decide +kernel
theorem dL_law_1158 : decode cL_law 1158 = .ok (.aload_n 2, 1) := by decide +kernel
theorem dL_law_1159 : decode cL_law 1159 = .ok (.invokevirtual 226, 3) := by decide +kernel
theorem dL_law_1162 : decode cL_law 1162 = .ok (.if_icmp .eq 1773, 3) := by decide +kernel
theorem dL_law_1165 : decode cL_law 1165 = .ok (.iconst 0, 1) := by decide +kernel
theorem dL_law_1166 : decode cL_law 1166 = .ok (.ireturn, 1) := by decide +kernel
theorem dL_law_1167 : decode cL_law 1167 = .ok (.aload_n 1, 1) := by decide +kernel
theorem dL_law_1168 : decode cL_law 1168 = .ok (.invokevirtual 227, 3) := by decide +kernel
theorem dL_law_1171 : decode cL_law 1171 = .ok (.aload_n 2, 1) := by decide +kernel
theorem dL_law_1172 : decode cL_law 1172 = .ok (.invokevirtual 230, 3) := by decide +kernel
theorem dL_law_1175 : decode cL_law 1175 = .ok (.if_icmp .eq 1760, 3) := by decide +kernel
theorem dL_law_1178 : decode cL_law 1178 = .ok (.iconst 0, 1) := by decide +kernel
theorem dL_law_1179 : decode cL_law 1179 = .ok (.ireturn, 1) := by decide +kernel
theorem dL_law_1180 : decode cL_law 1180 = .ok (.aload_n 1, 1) := by decide +kernel
theorem dL_law_1181 : decode cL_law 1181 = .ok (.aload_n 0, 1) := by decide +kernel
theorem dL_law_1182 : decode cL_law 1182 = .ok (.iload 4, 2) := by decide +kernel
theorem dL_law_1184 : decode cL_law 1184 = .ok (.iconst 1, 1) := by decide +kernel
theorem dL_law_1185 : decode cL_law 1185 = .ok (.iadd, 1) := by decide +kernel
theorem dL_law_1186 : decode cL_law 1186 = .ok (.iaload, 1) := by decide +kernel
theorem dL_law_1187 : decode cL_law 1187 = .ok (.aload_n 3, 1) := by decide +kernel
theorem dL_law_1188 : decode cL_law 1188 = .ok (.invokestatic 231, 3) := by decide +kernel
theorem dL_law_1191 : decode cL_law 1191 = .ok (.istore 5, 2) := by decide +kernel
theorem dL_law_1193 : decode cL_law 1193 = .ok (.aload_n 2, 1) := by decide +kernel
theorem dL_law_1194 : decode cL_law 1194 = .ok (.aload_n 0, 1) := by decide +kernel
theorem dL_law_1195 : decode cL_law 1195 = .ok (.iload 4, 2) := by decide +kernel
theorem dL_law_1197 : decode cL_law 1197 = .ok (.iconst 1, 1) := by decide +kernel
theorem dL_law_1198 : decode cL_law 1198 = .ok (.iadd, 1) := by decide +kernel
theorem dL_law_1199 : decode cL_law 1199 = .ok (.iaload, 1) := by decide +kernel
theorem dL_law_1200 : decode cL_law 1200 = .ok (.invokevirtual 233, 3) := by decide +kernel
theorem dL_law_1203 : decode cL_law 1203 = .ok (.istore 6, 2) := by decide +kernel
theorem dL_law_1205 : decode cL_law 1205 = .ok (.aload_n 2, 1) := by decide +kernel
theorem dL_law_1206 : decode cL_law 1206 = .ok (.invokevirtual 150, 3) := by decide +kernel
theorem dL_law_1209 : decode cL_law 1209 = .ok (.iload 5, 2) := by decide +kernel
theorem dL_law_1211 : decode cL_law 1211 = .ok (.if_icmp .eq 5, 3) := by decide +kernel
theorem dL_law_1214 : decode cL_law 1214 = .ok (.iconst 0, 1) := by decide +kernel
theorem dL_law_1215 : decode cL_law 1215 = .ok (.ireturn, 1) := by decide +kernel
theorem dL_law_1216 : decode cL_law 1216 = .ok (.iload 5, 2) := by decide +kernel
theorem dL_law_1218 : decode cL_law 1218 = .ok (.ifCond .ne 15, 3) := by decide +kernel
theorem dL_law_1221 : decode cL_law 1221 = .ok (.aload_n 3, 1) := by decide +kernel
theorem dL_law_1222 : decode cL_law 1222 = .ok (.iconst 0, 1) := by decide +kernel
theorem dL_law_1223 : decode cL_law 1223 = .ok (.laload, 1) := by decide +kernel
theorem dL_law_1224 : decode cL_law 1224 = .ok (.iload 6, 2) := by decide +kernel
theorem dL_law_1226 : decode cL_law 1226 = .ok (.i2l, 1) := by decide +kernel
theorem dL_law_1227 : decode cL_law 1227 = .ok (.lcmp, 1) := by decide +kernel
theorem dL_law_1228 : decode cL_law 1228 = .ok (.ifCond .eq 5, 3) := by decide +kernel
theorem dL_law_1231 : decode cL_law 1231 = .ok (.iconst 0, 1) := by decide +kernel
theorem dL_law_1232 : decode cL_law 1232 = .ok (.ireturn, 1) := by decide +kernel
theorem dL_law_1233 : decode cL_law 1233 = .ok (.goto 1702, 3) := by decide +kernel
theorem dL_law_1236 : decode cL_law 1236 = .ok (.aload_n 1, 1) := by decide +kernel
theorem dL_law_1237 : decode cL_law 1237 = .ok (.aload_n 0, 1) := by decide +kernel
theorem dL_law_1238 : decode cL_law 1238 = .ok (.iload 4, 2) := by decide +kernel
theorem dL_law_1240 : decode cL_law 1240 = .ok (.iconst 1, 1) := by decide +kernel
theorem dL_law_1241 : decode cL_law 1241 = .ok (.iadd, 1) := by decide +kernel
theorem dL_law_1242 : decode cL_law 1242 = .ok (.iaload, 1) := by decide +kernel
theorem dL_law_1243 : decode cL_law 1243 = .ok (.aload_n 0, 1) := by decide +kernel
theorem dL_law_1244 : decode cL_law 1244 = .ok (.iload 4, 2) := by decide +kernel
theorem dL_law_1246 : decode cL_law 1246 = .ok (.iconst 2, 1) := by decide +kernel
theorem dL_law_1247 : decode cL_law 1247 = .ok (.iadd, 1) := by decide +kernel
theorem dL_law_1248 : decode cL_law 1248 = .ok (.iaload, 1) := by decide +kernel
theorem dL_law_1249 : decode cL_law 1249 = .ok (.aload_n 3, 1) := by decide +kernel
theorem dL_law_1250 : decode cL_law 1250 = .ok (.invokestatic 234, 3) := by decide +kernel
theorem dL_law_1253 : decode cL_law 1253 = .ok (.istore 5, 2) := by decide +kernel
theorem dL_law_1255 : decode cL_law 1255 = .ok (.aload_n 2, 1) := by decide +kernel
theorem dL_law_1256 : decode cL_law 1256 = .ok (.aload_n 0, 1) := by decide +kernel
theorem dL_law_1257 : decode cL_law 1257 = .ok (.iload 4, 2) := by decide +kernel
theorem dL_law_1259 : decode cL_law 1259 = .ok (.iconst 1, 1) := by decide +kernel
theorem dL_law_1260 : decode cL_law 1260 = .ok (.iadd, 1) := by decide +kernel
theorem dL_law_1261 : decode cL_law 1261 = .ok (.iaload, 1) := by decide +kernel
theorem dL_law_1262 : decode cL_law 1262 = .ok (.aload_n 0, 1) := by decide +kernel
theorem dL_law_1263 : decode cL_law 1263 = .ok (.iload 4, 2) := by decide +kernel
theorem dL_law_1265 : decode cL_law 1265 = .ok (.iconst 2, 1) := by decide +kernel
theorem dL_law_1266 : decode cL_law 1266 = .ok (.iadd, 1) := by decide +kernel
theorem dL_law_1267 : decode cL_law 1267 = .ok (.iaload, 1) := by decide +kernel
theorem dL_law_1268 : decode cL_law 1268 = .ok (.invokevirtual 236, 3) := by decide +kernel
theorem dL_law_1271 : decode cL_law 1271 = .ok (.istore 6, 2) := by decide +kernel
theorem dL_law_1273 : decode cL_law 1273 = .ok (.aload_n 2, 1) := by decide +kernel
theorem dL_law_1274 : decode cL_law 1274 = .ok (.invokevirtual 150, 3) := by decide +kernel
theorem dL_law_1277 : decode cL_law 1277 = .ok (.iload 5, 2) := by decide +kernel
theorem dL_law_1279 : decode cL_law 1279 = .ok (.if_icmp .eq 5, 3) := by decide +kernel
theorem dL_law_1282 : decode cL_law 1282 = .ok (.iconst 0, 1) := by decide +kernel
theorem dL_law_1283 : decode cL_law 1283 = .ok (.ireturn, 1) := by decide +kernel
theorem dL_law_1284 : decode cL_law 1284 = .ok (.iload 5, 2) := by decide +kernel
theorem dL_law_1286 : decode cL_law 1286 = .ok (.ifCond .ne 15, 3) := by decide +kernel
theorem dL_law_1289 : decode cL_law 1289 = .ok (.aload_n 3, 1) := by decide +kernel
theorem dL_law_1290 : decode cL_law 1290 = .ok (.iconst 0, 1) := by decide +kernel
theorem dL_law_1291 : decode cL_law 1291 = .ok (.laload, 1) := by decide +kernel
theorem dL_law_1292 : decode cL_law 1292 = .ok (.iload 6, 2) := by decide +kernel
theorem dL_law_1294 : decode cL_law 1294 = .ok (.i2l, 1) := by decide +kernel
theorem dL_law_1295 : decode cL_law 1295 = .ok (.lcmp, 1) := by decide +kernel
theorem dL_law_1296 : decode cL_law 1296 = .ok (.ifCond .eq 5, 3) := by decide +kernel
theorem dL_law_1299 : decode cL_law 1299 = .ok (.iconst 0, 1) := by decide +kernel
theorem dL_law_1300 : decode cL_law 1300 = .ok (.ireturn, 1) := by decide +kernel
theorem dL_law_1301 : decode cL_law 1301 = .ok (.goto 1634, 3) := by decide +kernel
theorem dL_law_1304 : decode cL_law 1304 = .ok (.aload_n 1, 1) := by decide +kernel
theorem dL_law_1305 : decode cL_law 1305 = .ok (.aload_n 0, 1) := by decide +kernel
theorem dL_law_1306 : decode cL_law 1306 = .ok (.iload 4, 2) := by decide +kernel
theorem dL_law_1308 : decode cL_law 1308 = .ok (.iconst 1, 1) := by decide +kernel
theorem dL_law_1309 : decode cL_law 1309 = .ok (.iadd, 1) := by decide +kernel
theorem dL_law_1310 : decode cL_law 1310 = .ok (.iaload, 1) := by decide +kernel
theorem dL_law_1311 : decode cL_law 1311 = .ok (.aload_n 3, 1) := by decide +kernel
theorem dL_law_1312 : decode cL_law 1312 = .ok (.invokestatic 237, 3) := by decide +kernel
theorem dL_law_1315 : decode cL_law 1315 = .ok (.istore 5, 2) := by decide +kernel
theorem dL_law_1317 : decode cL_law 1317 = .ok (.aload_n 2, 1) := by decide +kernel
theorem dL_law_1318 : decode cL_law 1318 = .ok (.aload_n 0, 1) := by decide +kernel
theorem dL_law_1319 : decode cL_law 1319 = .ok (.iload 4, 2) := by decide +kernel
theorem dL_law_1321 : decode cL_law 1321 = .ok (.iconst 1, 1) := by decide +kernel
theorem dL_law_1322 : decode cL_law 1322 = .ok (.iadd, 1) := by decide +kernel
theorem dL_law_1323 : decode cL_law 1323 = .ok (.iaload, 1) := by decide +kernel
theorem dL_law_1324 : decode cL_law 1324 = .ok (.invokevirtual 239, 3) := by decide +kernel
theorem dL_law_1327 : decode cL_law 1327 = .ok (.istore 6, 2) := by decide +kernel
theorem dL_law_1329 : decode cL_law 1329 = .ok (.aload_n 2, 1) := by decide +kernel
theorem dL_law_1330 : decode cL_law 1330 = .ok (.invokevirtual 150, 3) := by decide +kernel
theorem dL_law_1333 : decode cL_law 1333 = .ok (.iload 5, 2) := by decide +kernel
theorem dL_law_1335 : decode cL_law 1335 = .ok (.if_icmp .eq 5, 3) := by decide +kernel
theorem dL_law_1338 : decode cL_law 1338 = .ok (.iconst 0, 1) := by decide +kernel
theorem dL_law_1339 : decode cL_law 1339 = .ok (.ireturn, 1) := by decide +kernel
theorem dL_law_1340 : decode cL_law 1340 = .ok (.iload 5, 2) := by decide +kernel
theorem dL_law_1342 : decode cL_law 1342 = .ok (.ifCond .ne 15, 3) := by decide +kernel
theorem dL_law_1345 : decode cL_law 1345 = .ok (.aload_n 3, 1) := by decide +kernel
theorem dL_law_1346 : decode cL_law 1346 = .ok (.iconst 0, 1) := by decide +kernel
theorem dL_law_1347 : decode cL_law 1347 = .ok (.laload, 1) := by decide +kernel
theorem dL_law_1348 : decode cL_law 1348 = .ok (.iload 6, 2) := by decide +kernel
theorem dL_law_1350 : decode cL_law 1350 = .ok (.i2l, 1) := by decide +kernel
theorem dL_law_1351 : decode cL_law 1351 = .ok (.lcmp, 1) := by decide +kernel
theorem dL_law_1352 : decode cL_law 1352 = .ok (.ifCond .eq 5, 3) := by decide +kernel
theorem dL_law_1355 : decode cL_law 1355 = .ok (.iconst 0, 1) := by decide +kernel
theorem dL_law_1356 : decode cL_law 1356 = .ok (.ireturn, 1) := by decide +kernel
theorem dL_law_1357 : decode cL_law 1357 = .ok (.goto 1578, 3) := by decide +kernel
theorem dL_law_1360 : decode cL_law 1360 = .ok (.aload_n 1, 1) := by decide +kernel
theorem dL_law_1361 : decode cL_law 1361 = .ok (.aload_n 0, 1) := by decide +kernel
theorem dL_law_1362 : decode cL_law 1362 = .ok (.iload 4, 2) := by decide +kernel
theorem dL_law_1364 : decode cL_law 1364 = .ok (.iconst 1, 1) := by decide +kernel
theorem dL_law_1365 : decode cL_law 1365 = .ok (.iadd, 1) := by decide +kernel
theorem dL_law_1366 : decode cL_law 1366 = .ok (.iaload, 1) := by decide +kernel
theorem dL_law_1367 : decode cL_law 1367 = .ok (.aload_n 3, 1) := by decide +kernel
theorem dL_law_1368 : decode cL_law 1368 = .ok (.invokestatic 240, 3) := by decide +kernel
theorem dL_law_1371 : decode cL_law 1371 = .ok (.istore 5, 2) := by decide +kernel
theorem dL_law_1373 : decode cL_law 1373 = .ok (.aload_n 2, 1) := by decide +kernel
theorem dL_law_1374 : decode cL_law 1374 = .ok (.aload_n 0, 1) := by decide +kernel
theorem dL_law_1375 : decode cL_law 1375 = .ok (.iload 4, 2) := by decide +kernel
theorem dL_law_1377 : decode cL_law 1377 = .ok (.iconst 1, 1) := by decide +kernel
theorem dL_law_1378 : decode cL_law 1378 = .ok (.iadd, 1) := by decide +kernel
theorem dL_law_1379 : decode cL_law 1379 = .ok (.iaload, 1) := by decide +kernel
theorem dL_law_1380 : decode cL_law 1380 = .ok (.invokevirtual 242, 3) := by decide +kernel
theorem dL_law_1383 : decode cL_law 1383 = .ok (.istore 6, 2) := by decide +kernel
theorem dL_law_1385 : decode cL_law 1385 = .ok (.aload_n 2, 1) := by decide +kernel
theorem dL_law_1386 : decode cL_law 1386 = .ok (.invokevirtual 150, 3) := by decide +kernel
theorem dL_law_1389 : decode cL_law 1389 = .ok (.iload 5, 2) := by decide +kernel
theorem dL_law_1391 : decode cL_law 1391 = .ok (.if_icmp .eq 5, 3) := by decide +kernel
theorem dL_law_1394 : decode cL_law 1394 = .ok (.iconst 0, 1) := by decide +kernel
theorem dL_law_1395 : decode cL_law 1395 = .ok (.ireturn, 1) := by decide +kernel
theorem dL_law_1396 : decode cL_law 1396 = .ok (.iload 5, 2) := by decide +kernel
theorem dL_law_1398 : decode cL_law 1398 = .ok (.ifCond .ne 22, 3) := by decide +kernel
theorem dL_law_1401 : decode cL_law 1401 = .ok (.aload_n 3, 1) := by decide +kernel
theorem dL_law_1402 : decode cL_law 1402 = .ok (.iconst 0, 1) := by decide +kernel
theorem dL_law_1403 : decode cL_law 1403 = .ok (.laload, 1) := by decide +kernel
theorem dL_law_1404 : decode cL_law 1404 = .ok (.iload 6, 2) := by decide +kernel
theorem dL_law_1406 : decode cL_law 1406 = .ok (.ifCond .eq 7, 3) := by decide +kernel
theorem dL_law_1409 : decode cL_law 1409 = .ok (.lconst 1, 1) := by decide +kernel
theorem dL_law_1410 : decode cL_law 1410 = .ok (.goto 4, 3) := by decide +kernel
theorem dL_law_1413 : decode cL_law 1413 = .ok (.lconst 0, 1) := by decide +kernel
theorem dL_law_1414 : decode cL_law 1414 = .ok (.lcmp, 1) := by decide +kernel
theorem dL_law_1415 : decode cL_law 1415 = .ok (.ifCond .eq 5, 3) := by decide +kernel
theorem dL_law_1418 : decode cL_law 1418 = .ok (.iconst 0, 1) := by decide +kernel
theorem dL_law_1419 : decode cL_law 1419 = .ok (.ireturn, 1) := by decide +kernel
theorem dL_law_1420 : decode cL_law 1420 = .ok (.goto 1515, 3) := by decide +kernel
theorem dL_law_1423 : decode cL_law 1423 = .ok (.aload_n 1, 1) := by decide +kernel
theorem dL_law_1424 : decode cL_law 1424 = .ok (.aload_n 0, 1) := by decide +kernel
theorem dL_law_1425 : decode cL_law 1425 = .ok (.iload 4, 2) := by decide +kernel
theorem dL_law_1427 : decode cL_law 1427 = .ok (.iconst 1, 1) := by decide +kernel
theorem dL_law_1428 : decode cL_law 1428 = .ok (.iadd, 1) := by decide +kernel
theorem dL_law_1429 : decode cL_law 1429 = .ok (.iaload, 1) := by decide +kernel
theorem dL_law_1430 : decode cL_law 1430 = .ok (.aload_n 3, 1) := by decide +kernel
theorem dL_law_1431 : decode cL_law 1431 = .ok (.invokestatic 243, 3) := by decide +kernel
theorem dL_law_1434 : decode cL_law 1434 = .ok (.istore 5, 2) := by decide +kernel
theorem dL_law_1436 : decode cL_law 1436 = .ok (.aload_n 2, 1) := by decide +kernel
theorem dL_law_1437 : decode cL_law 1437 = .ok (.aload_n 0, 1) := by decide +kernel
theorem dL_law_1438 : decode cL_law 1438 = .ok (.iload 4, 2) := by decide +kernel
theorem dL_law_1440 : decode cL_law 1440 = .ok (.iconst 1, 1) := by decide +kernel
theorem dL_law_1441 : decode cL_law 1441 = .ok (.iadd, 1) := by decide +kernel
theorem dL_law_1442 : decode cL_law 1442 = .ok (.iaload, 1) := by decide +kernel
theorem dL_law_1443 : decode cL_law 1443 = .ok (.invokevirtual 245, 3) := by decide +kernel
theorem dL_law_1446 : decode cL_law 1446 = .ok (.istore 6, 2) := by decide +kernel
theorem dL_law_1448 : decode cL_law 1448 = .ok (.aload_n 2, 1) := by decide +kernel
theorem dL_law_1449 : decode cL_law 1449 = .ok (.invokevirtual 150, 3) := by decide +kernel
theorem dL_law_1452 : decode cL_law 1452 = .ok (.iload 5, 2) := by decide +kernel
theorem dL_law_1454 : decode cL_law 1454 = .ok (.if_icmp .eq 5, 3) := by decide +kernel
theorem dL_law_1457 : decode cL_law 1457 = .ok (.iconst 0, 1) := by decide +kernel
theorem dL_law_1458 : decode cL_law 1458 = .ok (.ireturn, 1) := by decide +kernel
theorem dL_law_1459 : decode cL_law 1459 = .ok (.iload 5, 2) := by decide +kernel
theorem dL_law_1461 : decode cL_law 1461 = .ok (.ifCond .ne 15, 3) := by decide +kernel
theorem dL_law_1464 : decode cL_law 1464 = .ok (.aload_n 3, 1) := by decide +kernel
theorem dL_law_1465 : decode cL_law 1465 = .ok (.iconst 0, 1) := by decide +kernel
theorem dL_law_1466 : decode cL_law 1466 = .ok (.laload, 1) := by decide +kernel
theorem dL_law_1467 : decode cL_law 1467 = .ok (.iload 6, 2) := by decide +kernel
theorem dL_law_1469 : decode cL_law 1469 = .ok (.i2l, 1) := by decide +kernel
theorem dL_law_1470 : decode cL_law 1470 = .ok (.lcmp, 1) := by decide +kernel
theorem dL_law_1471 : decode cL_law 1471 = .ok (.ifCond .eq 5, 3) := by decide +kernel
theorem dL_law_1474 : decode cL_law 1474 = .ok (.iconst 0, 1) := by decide +kernel
theorem dL_law_1475 : decode cL_law 1475 = .ok (.ireturn, 1) := by decide +kernel
theorem dL_law_1476 : decode cL_law 1476 = .ok (.goto 1459, 3) := by decide +kernel
theorem dL_law_1479 : decode cL_law 1479 = .ok (.aload_n 1, 1) := by decide +kernel
theorem dL_law_1480 : decode cL_law 1480 = .ok (.aload_n 0, 1) := by decide +kernel
theorem dL_law_1481 : decode cL_law 1481 = .ok (.iload 4, 2) := by decide +kernel
theorem dL_law_1483 : decode cL_law 1483 = .ok (.iconst 1, 1) := by decide +kernel
theorem dL_law_1484 : decode cL_law 1484 = .ok (.iadd, 1) := by decide +kernel
theorem dL_law_1485 : decode cL_law 1485 = .ok (.iaload, 1) := by decide +kernel
theorem dL_law_1486 : decode cL_law 1486 = .ok (.aload_n 3, 1) := by decide +kernel
theorem dL_law_1487 : decode cL_law 1487 = .ok (.invokestatic 246, 3) := by decide +kernel
theorem dL_law_1490 : decode cL_law 1490 = .ok (.istore 5, 2) := by decide +kernel
theorem dL_law_1492 : decode cL_law 1492 = .ok (.aload_n 2, 1) := by decide +kernel
theorem dL_law_1493 : decode cL_law 1493 = .ok (.aload_n 0, 1) := by decide +kernel
theorem dL_law_1494 : decode cL_law 1494 = .ok (.iload 4, 2) := by decide +kernel
theorem dL_law_1496 : decode cL_law 1496 = .ok (.iconst 1, 1) := by decide +kernel
theorem dL_law_1497 : decode cL_law 1497 = .ok (.iadd, 1) := by decide +kernel
theorem dL_law_1498 : decode cL_law 1498 = .ok (.iaload, 1) := by decide +kernel
theorem dL_law_1499 : decode cL_law 1499 = .ok (.invokevirtual 248, 3) := by decide +kernel
theorem dL_law_1502 : decode cL_law 1502 = .ok (.istore 6, 2) := by decide +kernel
theorem dL_law_1504 : decode cL_law 1504 = .ok (.aload_n 2, 1) := by decide +kernel
theorem dL_law_1505 : decode cL_law 1505 = .ok (.invokevirtual 150, 3) := by decide +kernel
theorem dL_law_1508 : decode cL_law 1508 = .ok (.iload 5, 2) := by decide +kernel
theorem dL_law_1510 : decode cL_law 1510 = .ok (.if_icmp .eq 5, 3) := by decide +kernel
theorem dL_law_1513 : decode cL_law 1513 = .ok (.iconst 0, 1) := by decide +kernel
theorem dL_law_1514 : decode cL_law 1514 = .ok (.ireturn, 1) := by decide +kernel
theorem dL_law_1515 : decode cL_law 1515 = .ok (.iload 5, 2) := by decide +kernel
theorem dL_law_1517 : decode cL_law 1517 = .ok (.ifCond .ne 15, 3) := by decide +kernel
theorem dL_law_1520 : decode cL_law 1520 = .ok (.aload_n 3, 1) := by decide +kernel
theorem dL_law_1521 : decode cL_law 1521 = .ok (.iconst 0, 1) := by decide +kernel
theorem dL_law_1522 : decode cL_law 1522 = .ok (.laload, 1) := by decide +kernel
theorem dL_law_1523 : decode cL_law 1523 = .ok (.iload 6, 2) := by decide +kernel
theorem dL_law_1525 : decode cL_law 1525 = .ok (.i2l, 1) := by decide +kernel
theorem dL_law_1526 : decode cL_law 1526 = .ok (.lcmp, 1) := by decide +kernel
theorem dL_law_1527 : decode cL_law 1527 = .ok (.ifCond .eq 5, 3) := by decide +kernel
theorem dL_law_1530 : decode cL_law 1530 = .ok (.iconst 0, 1) := by decide +kernel
theorem dL_law_1531 : decode cL_law 1531 = .ok (.ireturn, 1) := by decide +kernel
theorem dL_law_1532 : decode cL_law 1532 = .ok (.goto 1403, 3) := by decide +kernel
theorem dL_law_1535 : decode cL_law 1535 = .ok (.aload_n 1, 1) := by decide +kernel
theorem dL_law_1536 : decode cL_law 1536 = .ok (.aload_n 0, 1) := by decide +kernel
theorem dL_law_1537 : decode cL_law 1537 = .ok (.iload 4, 2) := by decide +kernel
theorem dL_law_1539 : decode cL_law 1539 = .ok (.iconst 1, 1) := by decide +kernel
theorem dL_law_1540 : decode cL_law 1540 = .ok (.iadd, 1) := by decide +kernel
theorem dL_law_1541 : decode cL_law 1541 = .ok (.iaload, 1) := by decide +kernel
theorem dL_law_1542 : decode cL_law 1542 = .ok (.aload_n 3, 1) := by decide +kernel
theorem dL_law_1543 : decode cL_law 1543 = .ok (.invokestatic 249, 3) := by decide +kernel
theorem dL_law_1546 : decode cL_law 1546 = .ok (.istore 5, 2) := by decide +kernel
theorem dL_law_1548 : decode cL_law 1548 = .ok (.aload_n 2, 1) := by decide +kernel
theorem dL_law_1549 : decode cL_law 1549 = .ok (.aload_n 0, 1) := by decide +kernel
theorem dL_law_1550 : decode cL_law 1550 = .ok (.iload 4, 2) := by decide +kernel
theorem dL_law_1552 : decode cL_law 1552 = .ok (.iconst 1, 1) := by decide +kernel
theorem dL_law_1553 : decode cL_law 1553 = .ok (.iadd, 1) := by decide +kernel
theorem dL_law_1554 : decode cL_law 1554 = .ok (.iaload, 1) := by decide +kernel
theorem dL_law_1555 : decode cL_law 1555 = .ok (.invokevirtual 251, 3) := by decide +kernel
theorem dL_law_1558 : decode cL_law 1558 = .ok (.istore 6, 2) := by decide +kernel
theorem dL_law_1560 : decode cL_law 1560 = .ok (.aload_n 2, 1) := by decide +kernel
theorem dL_law_1561 : decode cL_law 1561 = .ok (.invokevirtual 150, 3) := by decide +kernel
theorem dL_law_1564 : decode cL_law 1564 = .ok (.iload 5, 2) := by decide +kernel
theorem dL_law_1566 : decode cL_law 1566 = .ok (.if_icmp .eq 5, 3) := by decide +kernel
theorem dL_law_1569 : decode cL_law 1569 = .ok (.iconst 0, 1) := by decide +kernel
theorem dL_law_1570 : decode cL_law 1570 = .ok (.ireturn, 1) := by decide +kernel
theorem dL_law_1571 : decode cL_law 1571 = .ok (.iload 5, 2) := by decide +kernel
theorem dL_law_1573 : decode cL_law 1573 = .ok (.ifCond .ne 15, 3) := by decide +kernel
theorem dL_law_1576 : decode cL_law 1576 = .ok (.aload_n 3, 1) := by decide +kernel
theorem dL_law_1577 : decode cL_law 1577 = .ok (.iconst 0, 1) := by decide +kernel
theorem dL_law_1578 : decode cL_law 1578 = .ok (.laload, 1) := by decide +kernel
theorem dL_law_1579 : decode cL_law 1579 = .ok (.iload 6, 2) := by decide +kernel
theorem dL_law_1581 : decode cL_law 1581 = .ok (.i2l, 1) := by decide +kernel
theorem dL_law_1582 : decode cL_law 1582 = .ok (.lcmp, 1) := by decide +kernel
theorem dL_law_1583 : decode cL_law 1583 = .ok (.ifCond .eq 5, 3) := by decide +kernel
theorem dL_law_1586 : decode cL_law 1586 = .ok (.iconst 0, 1) := by decide +kernel
theorem dL_law_1587 : decode cL_law 1587 = .ok (.ireturn, 1) := by decide +kernel
theorem dL_law_1588 : decode cL_law 1588 = .ok (.goto 1347, 3) := by decide +kernel
theorem dL_law_1591 : decode cL_law 1591 = .ok (.aload_n 1, 1) := by decide +kernel
theorem dL_law_1592 : decode cL_law 1592 = .ok (.aload_n 0, 1) := by decide +kernel
theorem dL_law_1593 : decode cL_law 1593 = .ok (.iload 4, 2) := by decide +kernel
theorem dL_law_1595 : decode cL_law 1595 = .ok (.iconst 1, 1) := by decide +kernel
theorem dL_law_1596 : decode cL_law 1596 = .ok (.iadd, 1) := by decide +kernel
theorem dL_law_1597 : decode cL_law 1597 = .ok (.iaload, 1) := by decide +kernel
theorem dL_law_1598 : decode cL_law 1598 = .ok (.aload_n 3, 1) := by decide +kernel
theorem dL_law_1599 : decode cL_law 1599 = .ok (.invokestatic 252, 3) := by decide +kernel
theorem dL_law_1602 : decode cL_law 1602 = .ok (.istore 5, 2) := by decide +kernel
theorem dL_law_1604 : decode cL_law 1604 = .ok (.aload_n 2, 1) := by decide +kernel
theorem dL_law_1605 : decode cL_law 1605 = .ok (.aload_n 0, 1) := by decide +kernel
theorem dL_law_1606 : decode cL_law 1606 = .ok (.iload 4, 2) := by decide +kernel
theorem dL_law_1608 : decode cL_law 1608 = .ok (.iconst 1, 1) := by decide +kernel
theorem dL_law_1609 : decode cL_law 1609 = .ok (.iadd, 1) := by decide +kernel
theorem dL_law_1610 : decode cL_law 1610 = .ok (.iaload, 1) := by decide +kernel
theorem dL_law_1611 : decode cL_law 1611 = .ok (.invokevirtual 254, 3) := by decide +kernel
theorem dL_law_1614 : decode cL_law 1614 = .ok (.istore 6, 2) := by decide +kernel
theorem dL_law_1616 : decode cL_law 1616 = .ok (.aload_n 2, 1) := by decide +kernel
theorem dL_law_1617 : decode cL_law 1617 = .ok (.invokevirtual 150, 3) := by decide +kernel
theorem dL_law_1620 : decode cL_law 1620 = .ok (.iload 5, 2) := by decide +kernel
theorem dL_law_1622 : decode cL_law 1622 = .ok (.if_icmp .eq 5, 3) := by decide +kernel
theorem dL_law_1625 : decode cL_law 1625 = .ok (.iconst 0, 1) := by decide +kernel
theorem dL_law_1626 : decode cL_law 1626 = .ok (.ireturn, 1) := by decide +kernel
theorem dL_law_1627 : decode cL_law 1627 = .ok (.iload 5, 2) := by decide +kernel
theorem dL_law_1629 : decode cL_law 1629 = .ok (.ifCond .ne 15, 3) := by decide +kernel
theorem dL_law_1632 : decode cL_law 1632 = .ok (.aload_n 3, 1) := by decide +kernel
theorem dL_law_1633 : decode cL_law 1633 = .ok (.iconst 0, 1) := by decide +kernel
theorem dL_law_1634 : decode cL_law 1634 = .ok (.laload, 1) := by decide +kernel
theorem dL_law_1635 : decode cL_law 1635 = .ok (.iload 6, 2) := by decide +kernel
theorem dL_law_1637 : decode cL_law 1637 = .ok (.i2l, 1) := by decide +kernel
theorem dL_law_1638 : decode cL_law 1638 = .ok (.lcmp, 1) := by decide +kernel
theorem dL_law_1639 : decode cL_law 1639 = .ok (.ifCond .eq 5, 3) := by decide +kernel
theorem dL_law_1642 : decode cL_law 1642 = .ok (.iconst 0, 1) := by decide +kernel
theorem dL_law_1643 : decode cL_law 1643 = .ok (.ireturn, 1) := by decide +kernel
theorem dL_law_1644 : decode cL_law 1644 = .ok (.goto 1291, 3) := by decide +kernel
theorem dL_law_1647 : decode cL_law 1647 = .ok (.aload_n 1, 1) := by decide +kernel
theorem dL_law_1648 : decode cL_law 1648 = .ok (.aload_n 0, 1) := by decide +kernel
theorem dL_law_1649 : decode cL_law 1649 = .ok (.iload 4, 2) := by decide +kernel
theorem dL_law_1651 : decode cL_law 1651 = .ok (.iconst 1, 1) := by decide +kernel
theorem dL_law_1652 : decode cL_law 1652 = .ok (.iadd, 1) := by decide +kernel
theorem dL_law_1653 : decode cL_law 1653 = .ok (.iaload, 1) := by decide +kernel
theorem dL_law_1654 : decode cL_law 1654 = .ok (.aload_n 3, 1) := by decide +kernel
theorem dL_law_1655 : decode cL_law 1655 = .ok (.invokestatic 255, 3) := by decide +kernel
theorem dL_law_1658 : decode cL_law 1658 = .ok (.istore 5, 2) := by decide +kernel
theorem dL_law_1660 : decode cL_law 1660 = .ok (.aload_n 2, 1) := by decide +kernel
theorem dL_law_1661 : decode cL_law 1661 = .ok (.aload_n 0, 1) := by decide +kernel
theorem dL_law_1662 : decode cL_law 1662 = .ok (.iload 4, 2) := by decide +kernel
theorem dL_law_1664 : decode cL_law 1664 = .ok (.iconst 1, 1) := by decide +kernel
theorem dL_law_1665 : decode cL_law 1665 = .ok (.iadd, 1) := by decide +kernel
theorem dL_law_1666 : decode cL_law 1666 = .ok (.iaload, 1) := by decide +kernel
theorem dL_law_1667 : decode cL_law 1667 = .ok (.invokevirtual 257, 3) := by decide +kernel
theorem dL_law_1670 : decode cL_law 1670 = .ok (.istore 6, 2) := by decide +kernel
theorem dL_law_1672 : decode cL_law 1672 = .ok (.aload_n 2, 1) := by decide +kernel
theorem dL_law_1673 : decode cL_law 1673 = .ok (.invokevirtual 150, 3) := by decide +kernel
theorem dL_law_1676 : decode cL_law 1676 = .ok (.iload 5, 2) := by decide +kernel
theorem dL_law_1678 : decode cL_law 1678 = .ok (.if_icmp .eq 5, 3) := by decide +kernel
theorem dL_law_1681 : decode cL_law 1681 = .ok (.iconst 0, 1) := by decide +kernel
theorem dL_law_1682 : decode cL_law 1682 = .ok (.ireturn, 1) := by decide +kernel
theorem dL_law_1683 : decode cL_law 1683 = .ok (.iload 5, 2) := by decide +kernel
theorem dL_law_1685 : decode cL_law 1685 = .ok (.ifCond .ne 15, 3) := by decide +kernel
theorem dL_law_1688 : decode cL_law 1688 = .ok (.aload_n 3, 1) := by decide +kernel
theorem dL_law_1689 : decode cL_law 1689 = .ok (.iconst 0, 1) := by decide +kernel
theorem dL_law_1690 : decode cL_law 1690 = .ok (.laload, 1) := by decide +kernel
theorem dL_law_1691 : decode cL_law 1691 = .ok (.iload 6, 2) := by decide +kernel
theorem dL_law_1693 : decode cL_law 1693 = .ok (.i2l, 1) := by decide +kernel
theorem dL_law_1694 : decode cL_law 1694 = .ok (.lcmp, 1) := by decide +kernel
theorem dL_law_1695 : decode cL_law 1695 = .ok (.ifCond .eq 5, 3) := by decide +kernel
theorem dL_law_1698 : decode cL_law 1698 = .ok (.iconst 0, 1) := by decide +kernel
theorem dL_law_1699 : decode cL_law 1699 = .ok (.ireturn, 1) := by decide +kernel
theorem dL_law_1700 : decode cL_law 1700 = .ok (.goto 1235, 3) := by decide +kernel
theorem dL_law_1703 : decode cL_law 1703 = .ok (.aload_n 1, 1) := by decide +kernel
theorem dL_law_1704 : decode cL_law 1704 = .ok (.aload_n 0, 1) := by decide +kernel
theorem dL_law_1705 : decode cL_law 1705 = .ok (.iload 4, 2) := by decide +kernel
theorem dL_law_1707 : decode cL_law 1707 = .ok (.iconst 1, 1) := by decide +kernel
theorem dL_law_1708 : decode cL_law 1708 = .ok (.iadd, 1) := by decide +kernel
theorem dL_law_1709 : decode cL_law 1709 = .ok (.iaload, 1) := by decide +kernel
theorem dL_law_1710 : decode cL_law 1710 = .ok (.aload_n 0, 1) := by decide +kernel
theorem dL_law_1711 : decode cL_law 1711 = .ok (.iload 4, 2) := by decide +kernel
theorem dL_law_1713 : decode cL_law 1713 = .ok (.iconst 2, 1) := by decide +kernel
theorem dL_law_1714 : decode cL_law 1714 = .ok (.iadd, 1) := by decide +kernel
theorem dL_law_1715 : decode cL_law 1715 = .ok (.iaload, 1) := by decide +kernel
theorem dL_law_1716 : decode cL_law 1716 = .ok (.aload_n 3, 1) := by decide +kernel
theorem dL_law_1717 : decode cL_law 1717 = .ok (.invokestatic 258, 3) := by decide +kernel
theorem dL_law_1720 : decode cL_law 1720 = .ok (.istore 5, 2) := by decide +kernel
theorem dL_law_1722 : decode cL_law 1722 = .ok (.aload_n 2, 1) := by decide +kernel
theorem dL_law_1723 : decode cL_law 1723 = .ok (.aload_n 0, 1) := by decide +kernel
theorem dL_law_1724 : decode cL_law 1724 = .ok (.iload 4, 2) := by decide +kernel
theorem dL_law_1726 : decode cL_law 1726 = .ok (.iconst 1, 1) := by decide +kernel
theorem dL_law_1727 : decode cL_law 1727 = .ok (.iadd, 1) := by decide +kernel
theorem dL_law_1728 : decode cL_law 1728 = .ok (.iaload, 1) := by decide +kernel
theorem dL_law_1729 : decode cL_law 1729 = .ok (.aload_n 0, 1) := by decide +kernel
theorem dL_law_1730 : decode cL_law 1730 = .ok (.iload 4, 2) := by decide +kernel
theorem dL_law_1732 : decode cL_law 1732 = .ok (.iconst 2, 1) := by decide +kernel
theorem dL_law_1733 : decode cL_law 1733 = .ok (.iadd, 1) := by decide +kernel
theorem dL_law_1734 : decode cL_law 1734 = .ok (.iaload, 1) := by decide +kernel
theorem dL_law_1735 : decode cL_law 1735 = .ok (.invokevirtual 260, 3) := by decide +kernel
theorem dL_law_1738 : decode cL_law 1738 = .ok (.istore 6, 2) := by decide +kernel
theorem dL_law_1740 : decode cL_law 1740 = .ok (.aload_n 2, 1) := by decide +kernel
theorem dL_law_1741 : decode cL_law 1741 = .ok (.invokevirtual 150, 3) := by decide +kernel
theorem dL_law_1744 : decode cL_law 1744 = .ok (.iload 5, 2) := by decide +kernel
theorem dL_law_1746 : decode cL_law 1746 = .ok (.if_icmp .eq 5, 3) := by decide +kernel
theorem dL_law_1749 : decode cL_law 1749 = .ok (.iconst 0, 1) := by decide +kernel
theorem dL_law_1750 : decode cL_law 1750 = .ok (.ireturn, 1) := by decide +kernel
theorem dL_law_1751 : decode cL_law 1751 = .ok (.iload 5, 2) := by decide +kernel
theorem dL_law_1753 : decode cL_law 1753 = .ok (.ifCond .ne 15, 3) := by decide +kernel
theorem dL_law_1756 : decode cL_law 1756 = .ok (.aload_n 3, 1) := by decide +kernel
theorem dL_law_1757 : decode cL_law 1757 = .ok (.iconst 0, 1) := by decide +kernel
theorem dL_law_1758 : decode cL_law 1758 = .ok (.laload, 1) := by decide +kernel
theorem dL_law_1759 : decode cL_law 1759 = .ok (.iload 6, 2) := by decide +kernel
theorem dL_law_1761 : decode cL_law 1761 = .ok (.i2l, 1) := by decide +kernel
theorem dL_law_1762 : decode cL_law 1762 = .ok (.lcmp, 1) := by decide +kernel
theorem dL_law_1763 : decode cL_law 1763 = .ok (.ifCond .eq 5, 3) := by decide +kernel
theorem dL_law_1766 : decode cL_law 1766 = .ok (.iconst 0, 1) := by decide +kernel
theorem dL_law_1767 : decode cL_law 1767 = .ok (.ireturn, 1) := by decide +kernel
theorem dL_law_1768 : decode cL_law 1768 = .ok (.goto 1167, 3) := by decide +kernel
theorem dL_law_1771 : decode cL_law 1771 = .ok (.aload_n 1, 1) := by decide +kernel
theorem dL_law_1772 : decode cL_law 1772 = .ok (.aload_n 0, 1) := by decide +kernel
theorem dL_law_1773 : decode cL_law 1773 = .ok (.iload 4, 2) := by decide +kernel
theorem dL_law_1775 : decode cL_law 1775 = .ok (.iconst 1, 1) := by decide +kernel
theorem dL_law_1776 : decode cL_law 1776 = .ok (.iadd, 1) := by decide +kernel
theorem dL_law_1777 : decode cL_law 1777 = .ok (.iaload, 1) := by decide +kernel
theorem dL_law_1778 : decode cL_law 1778 = .ok (.aload_n 0, 1) := by decide +kernel
theorem dL_law_1779 : decode cL_law 1779 = .ok (.iload 4, 2) := by decide +kernel
theorem dL_law_1781 : decode cL_law 1781 = .ok (.iconst 2, 1) := by decide +kernel
theorem dL_law_1782 : decode cL_law 1782 = .ok (.iadd, 1) := by decide +kernel
theorem dL_law_1783 : decode cL_law 1783 = .ok (.iaload, 1) := by decide +kernel
theorem dL_law_1784 : decode cL_law 1784 = .ok (.aload_n 3, 1) := by decide +kernel
theorem dL_law_1785 : decode cL_law 1785 = .ok (.invokestatic 261, 3) := by decide +kernel
theorem dL_law_1788 : decode cL_law 1788 = .ok (.istore 5, 2) := by decide +kernel
theorem dL_law_1790 : decode cL_law 1790 = .ok (.aload_n 2, 1) := by decide +kernel
theorem dL_law_1791 : decode cL_law 1791 = .ok (.aload_n 0, 1) := by decide +kernel
theorem dL_law_1792 : decode cL_law 1792 = .ok (.iload 4, 2) := by decide +kernel
theorem dL_law_1794 : decode cL_law 1794 = .ok (.iconst 1, 1) := by decide +kernel
theorem dL_law_1795 : decode cL_law 1795 = .ok (.iadd, 1) := by decide +kernel
theorem dL_law_1796 : decode cL_law 1796 = .ok (.iaload, 1) := by decide +kernel
theorem dL_law_1797 : decode cL_law 1797 = .ok (.aload_n 0, 1) := by decide +kernel
theorem dL_law_1798 : decode cL_law 1798 = .ok (.iload 4, 2) := by decide +kernel
theorem dL_law_1800 : decode cL_law 1800 = .ok (.iconst 2, 1) := by decide +kernel
theorem dL_law_1801 : decode cL_law 1801 = .ok (.iadd, 1) := by decide +kernel
theorem dL_law_1802 : decode cL_law 1802 = .ok (.iaload, 1) := by decide +kernel
theorem dL_law_1803 : decode cL_law 1803 = .ok (.invokevirtual 263, 3) := by decide +kernel
theorem dL_law_1806 : decode cL_law 1806 = .ok (.istore 6, 2) := by decide +kernel
theorem dL_law_1808 : decode cL_law 1808 = .ok (.aload_n 2, 1) := by decide +kernel
theorem dL_law_1809 : decode cL_law 1809 = .ok (.invokevirtual 150, 3) := by decide +kernel
theorem dL_law_1812 : decode cL_law 1812 = .ok (.iload 5, 2) := by decide +kernel
theorem dL_law_1814 : decode cL_law 1814 = .ok (.if_icmp .eq 5, 3) := by decide +kernel
theorem dL_law_1817 : decode cL_law 1817 = .ok (.iconst 0, 1) := by decide +kernel
theorem dL_law_1818 : decode cL_law 1818 = .ok (.ireturn, 1) := by decide +kernel
theorem dL_law_1819 : decode cL_law 1819 = .ok (.iload 5, 2) := by decide +kernel
theorem dL_law_1821 : decode cL_law 1821 = .ok (.ifCond .ne 15, 3) := by decide +kernel
theorem dL_law_1824 : decode cL_law 1824 = .ok (.aload_n 3, 1) := by decide +kernel
theorem dL_law_1825 : decode cL_law 1825 = .ok (.iconst 0, 1) := by decide +kernel
theorem dL_law_1826 : decode cL_law 1826 = .ok (.laload, 1) := by decide +kernel
theorem dL_law_1827 : decode cL_law 1827 = .ok (.iload 6, 2) := by decide +kernel
theorem dL_law_1829 : decode cL_law 1829 = .ok (.i2l, 1) := by decide +kernel
theorem dL_law_1830 : decode cL_law 1830 = .ok (.lcmp, 1) := by decide +kernel
theorem dL_law_1831 : decode cL_law 1831 = .ok (.ifCond .eq 5, 3) := by decide +kernel
theorem dL_law_1834 : decode cL_law 1834 = .ok (.iconst 0, 1) := by decide +kernel
theorem dL_law_1835 : decode cL_law 1835 = .ok (.ireturn, 1) := by decide +kernel
theorem dL_law_1836 : decode cL_law 1836 = .ok (.goto 1099, 3) := by decide +kernel
theorem dL_law_1839 : decode cL_law 1839 = .ok (.aload_n 1, 1) := by decide +kernel
theorem dL_law_1840 : decode cL_law 1840 = .ok (.aload_n 0, 1) := by decide +kernel
theorem dL_law_1841 : decode cL_law 1841 = .ok (.iload 4, 2) := by decide +kernel
theorem dL_law_1843 : decode cL_law 1843 = .ok (.iconst 1, 1) := by decide +kernel
theorem dL_law_1844 : decode cL_law 1844 = .ok (.iadd, 1) := by decide +kernel
theorem dL_law_1845 : decode cL_law 1845 = .ok (.iaload, 1) := by decide +kernel
theorem dL_law_1846 : decode cL_law 1846 = .ok (.aload_n 3, 1) := by decide +kernel
theorem dL_law_1847 : decode cL_law 1847 = .ok (.invokestatic 264, 3) := by decide +kernel
theorem dL_law_1850 : decode cL_law 1850 = .ok (.istore 5, 2) := by decide +kernel
theorem dL_law_1852 : decode cL_law 1852 = .ok (.aload_n 2, 1) := by decide +kernel
theorem dL_law_1853 : decode cL_law 1853 = .ok (.aload_n 0, 1) := by decide +kernel
theorem dL_law_1854 : decode cL_law 1854 = .ok (.iload 4, 2) := by decide +kernel
theorem dL_law_1856 : decode cL_law 1856 = .ok (.iconst 1, 1) := by decide +kernel
theorem dL_law_1857 : decode cL_law 1857 = .ok (.iadd, 1) := by decide +kernel
theorem dL_law_1858 : decode cL_law 1858 = .ok (.iaload, 1) := by decide +kernel
theorem dL_law_1859 : decode cL_law 1859 = .ok (.invokevirtual 266, 3) := by decide +kernel
theorem dL_law_1862 : decode cL_law 1862 = .ok (.istore 6, 2) := by decide +kernel
theorem dL_law_1864 : decode cL_law 1864 = .ok (.aload_n 2, 1) := by decide +kernel
theorem dL_law_1865 : decode cL_law 1865 = .ok (.invokevirtual 150, 3) := by decide +kernel
theorem dL_law_1868 : decode cL_law 1868 = .ok (.iload 5, 2) := by decide +kernel
theorem dL_law_1870 : decode cL_law 1870 = .ok (.if_icmp .eq 5, 3) := by decide +kernel
theorem dL_law_1873 : decode cL_law 1873 = .ok (.iconst 0, 1) := by decide +kernel
theorem dL_law_1874 : decode cL_law 1874 = .ok (.ireturn, 1) := by decide +kernel
theorem dL_law_1875 : decode cL_law 1875 = .ok (.iload 5, 2) := by decide +kernel
theorem dL_law_1877 : decode cL_law 1877 = .ok (.ifCond .ne 15, 3) := by decide +kernel
theorem dL_law_1880 : decode cL_law 1880 = .ok (.aload_n 3, 1) := by decide +kernel
theorem dL_law_1881 : decode cL_law 1881 = .ok (.iconst 0, 1) := by decide +kernel
theorem dL_law_1882 : decode cL_law 1882 = .ok (.laload, 1) := by decide +kernel
theorem dL_law_1883 : decode cL_law 1883 = .ok (.iload 6, 2) := by decide +kernel
theorem dL_law_1885 : decode cL_law 1885 = .ok (.i2l, 1) := by decide +kernel
theorem dL_law_1886 : decode cL_law 1886 = .ok (.lcmp, 1) := by decide +kernel
theorem dL_law_1887 : decode cL_law 1887 = .ok (.ifCond .eq 5, 3) := by decide +kernel
theorem dL_law_1890 : decode cL_law 1890 = .ok (.iconst 0, 1) := by decide +kernel
theorem dL_law_1891 : decode cL_law 1891 = .ok (.ireturn, 1) := by decide +kernel
theorem dL_law_1892 : decode cL_law 1892 = .ok (.goto 1043, 3) := by decide +kernel
theorem dL_law_1895 : decode cL_law 1895 = .ok (.aload_n 1, 1) := by decide +kernel
theorem dL_law_1896 : decode cL_law 1896 = .ok (.aload_n 0, 1) := by decide +kernel
theorem dL_law_1897 : decode cL_law 1897 = .ok (.iload 4, 2) := by decide +kernel
theorem dL_law_1899 : decode cL_law 1899 = .ok (.iconst 1, 1) := by decide +kernel
theorem dL_law_1900 : decode cL_law 1900 = .ok (.iadd, 1) := by decide +kernel
theorem dL_law_1901 : decode cL_law 1901 = .ok (.iaload, 1) := by decide +kernel
theorem dL_law_1902 : decode cL_law 1902 = .ok (.aload_n 3, 1) := by decide +kernel
theorem dL_law_1903 : decode cL_law 1903 = .ok (.invokestatic 267, 3) := by decide +kernel
theorem dL_law_1906 : decode cL_law 1906 = .ok (.istore 5, 2) := by decide +kernel
theorem dL_law_1908 : decode cL_law 1908 = .ok (.aload_n 2, 1) := by decide +kernel
theorem dL_law_1909 : decode cL_law 1909 = .ok (.aload_n 0, 1) := by decide +kernel
theorem dL_law_1910 : decode cL_law 1910 = .ok (.iload 4, 2) := by decide +kernel
theorem dL_law_1912 : decode cL_law 1912 = .ok (.iconst 1, 1) := by decide +kernel
theorem dL_law_1913 : decode cL_law 1913 = .ok (.iadd, 1) := by decide +kernel
theorem dL_law_1914 : decode cL_law 1914 = .ok (.iaload, 1) := by decide +kernel
theorem dL_law_1915 : decode cL_law 1915 = .ok (.invokevirtual 269, 3) := by decide +kernel
theorem dL_law_1918 : decode cL_law 1918 = .ok (.istore 6, 2) := by decide +kernel
theorem dL_law_1920 : decode cL_law 1920 = .ok (.aload_n 2, 1) := by decide +kernel
theorem dL_law_1921 : decode cL_law 1921 = .ok (.invokevirtual 150, 3) := by decide +kernel
theorem dL_law_1924 : decode cL_law 1924 = .ok (.iload 5, 2) := by decide +kernel
theorem dL_law_1926 : decode cL_law 1926 = .ok (.if_icmp .eq 5, 3) := by decide +kernel
theorem dL_law_1929 : decode cL_law 1929 = .ok (.iconst 0, 1) := by decide +kernel
theorem dL_law_1930 : decode cL_law 1930 = .ok (.ireturn, 1) := by decide +kernel
theorem dL_law_1931 : decode cL_law 1931 = .ok (.iload 5, 2) := by decide +kernel
theorem dL_law_1933 : decode cL_law 1933 = .ok (.ifCond .ne 15, 3) := by decide +kernel
theorem dL_law_1936 : decode cL_law 1936 = .ok (.aload_n 3, 1) := by decide +kernel
theorem dL_law_1937 : decode cL_law 1937 = .ok (.iconst 0, 1) := by decide +kernel
theorem dL_law_1938 : decode cL_law 1938 = .ok (.laload, 1) := by decide +kernel
theorem dL_law_1939 : decode cL_law 1939 = .ok (.iload 6, 2) := by decide +kernel
theorem dL_law_1941 : decode cL_law 1941 = .ok (.i2l, 1) := by decide +kernel
theorem dL_law_1942 : decode cL_law 1942 = .ok (.lcmp, 1) := by decide +kernel
theorem dL_law_1943 : decode cL_law 1943 = .ok (.ifCond .eq 5, 3) := by decide +kernel
theorem dL_law_1946 : decode cL_law 1946 = .ok (.iconst 0, 1) := by decide +kernel
theorem dL_law_1947 : decode cL_law 1947 = .ok (.ireturn, 1) := by decide +kernel
theorem dL_law_1948 : decode cL_law 1948 = .ok (.goto 987, 3) := by decide +kernel
theorem dL_law_1951 : decode cL_law 1951 = .ok (.aload_n 1, 1) := by decide +kernel
theorem dL_law_1952 : decode cL_law 1952 = .ok (.aload_n 0, 1) := by decide +kernel
theorem dL_law_1953 : decode cL_law 1953 = .ok (.iload 4, 2) := by decide +kernel
theorem dL_law_1955 : decode cL_law 1955 = .ok (.iconst 1, 1) := by decide +kernel
theorem dL_law_1956 : decode cL_law 1956 = .ok (.iadd, 1) := by decide +kernel
theorem dL_law_1957 : decode cL_law 1957 = .ok (.iaload, 1) := by decide +kernel
theorem dL_law_1958 : decode cL_law 1958 = .ok (.aload_n 3, 1) := by decide +kernel
theorem dL_law_1959 : decode cL_law 1959 = .ok (.invokestatic 270, 3) := by decide +kernel
theorem dL_law_1962 : decode cL_law 1962 = .ok (.istore 5, 2) := by decide +kernel
theorem dL_law_1964 : decode cL_law 1964 = .ok (.aload_n 2, 1) := by decide +kernel
theorem dL_law_1965 : decode cL_law 1965 = .ok (.aload_n 0, 1) := by decide +kernel
theorem dL_law_1966 : decode cL_law 1966 = .ok (.iload 4, 2) := by decide +kernel
theorem dL_law_1968 : decode cL_law 1968 = .ok (.iconst 1, 1) := by decide +kernel
theorem dL_law_1969 : decode cL_law 1969 = .ok (.iadd, 1) := by decide +kernel
theorem dL_law_1970 : decode cL_law 1970 = .ok (.iaload, 1) := by decide +kernel
theorem dL_law_1971 : decode cL_law 1971 = .ok (.invokevirtual 272, 3) := by decide +kernel
theorem dL_law_1974 : decode cL_law 1974 = .ok (.istore 6, 2) := by decide +kernel
theorem dL_law_1976 : decode cL_law 1976 = .ok (.aload_n 2, 1) := by decide +kernel
theorem dL_law_1977 : decode cL_law 1977 = .ok (.invokevirtual 150, 3) := by decide +kernel
theorem dL_law_1980 : decode cL_law 1980 = .ok (.iload 5, 2) := by decide +kernel
theorem dL_law_1982 : decode cL_law 1982 = .ok (.if_icmp .eq 5, 3) := by decide +kernel
theorem dL_law_1985 : decode cL_law 1985 = .ok (.iconst 0, 1) := by decide +kernel
theorem dL_law_1986 : decode cL_law 1986 = .ok (.ireturn, 1) := by decide +kernel
theorem dL_law_1987 : decode cL_law 1987 = .ok (.iload 5, 2) := by decide +kernel
theorem dL_law_1989 : decode cL_law 1989 = .ok (.ifCond .ne 15, 3) := by decide +kernel
theorem dL_law_1992 : decode cL_law 1992 = .ok (.aload_n 3, 1) := by decide +kernel
theorem dL_law_1993 : decode cL_law 1993 = .ok (.iconst 0, 1) := by decide +kernel
theorem dL_law_1994 : decode cL_law 1994 = .ok (.laload, 1) := by decide +kernel
theorem dL_law_1995 : decode cL_law 1995 = .ok (.iload 6, 2) := by decide +kernel
theorem dL_law_1997 : decode cL_law 1997 = .ok (.i2l, 1) := by decide +kernel
theorem dL_law_1998 : decode cL_law 1998 = .ok (.lcmp, 1) := by decide +kernel
theorem dL_law_1999 : decode cL_law 1999 = .ok (.ifCond .eq 5, 3) := by decide +kernel
theorem dL_law_2002 : decode cL_law 2002 = .ok (.iconst 0, 1) := by decide +kernel
theorem dL_law_2003 : decode cL_law 2003 = .ok (.ireturn, 1) := by decide +kernel
theorem dL_law_2004 : decode cL_law 2004 = .ok (.goto 931, 3) := by decide +kernel
theorem dL_law_2007 : decode cL_law 2007 = .ok (.aload_n 1, 1) := by decide +kernel
theorem dL_law_2008 : decode cL_law 2008 = .ok (.aload_n 0, 1) := by decide +kernel
theorem dL_law_2009 : decode cL_law 2009 = .ok (.iload 4, 2) := by decide +kernel
theorem dL_law_2011 : decode cL_law 2011 = .ok (.iconst 1, 1) := by decide +kernel
theorem dL_law_2012 : decode cL_law 2012 = .ok (.iadd, 1) := by decide +kernel
theorem dL_law_2013 : decode cL_law 2013 = .ok (.iaload, 1) := by decide +kernel
theorem dL_law_2014 : decode cL_law 2014 = .ok (.aload_n 3, 1) := by decide +kernel
theorem dL_law_2015 : decode cL_law 2015 = .ok (.invokestatic 273, 3) := by decide +kernel
theorem dL_law_2018 : decode cL_law 2018 = .ok (.istore 5, 2) := by decide +kernel
theorem dL_law_2020 : decode cL_law 2020 = .ok (.aload_n 2, 1) := by decide +kernel
theorem dL_law_2021 : decode cL_law 2021 = .ok (.aload_n 0, 1) := by decide +kernel
theorem dL_law_2022 : decode cL_law 2022 = .ok (.iload 4, 2) := by decide +kernel
theorem dL_law_2024 : decode cL_law 2024 = .ok (.iconst 1, 1) := by decide +kernel
theorem dL_law_2025 : decode cL_law 2025 = .ok (.iadd, 1) := by decide +kernel
theorem dL_law_2026 : decode cL_law 2026 = .ok (.iaload, 1) := by decide +kernel
theorem dL_law_2027 : decode cL_law 2027 = .ok (.invokevirtual 275, 3) := by decide +kernel
theorem dL_law_2030 : decode cL_law 2030 = .ok (.istore 6, 2) := by decide +kernel
theorem dL_law_2032 : decode cL_law 2032 = .ok (.aload_n 2, 1) := by decide +kernel
theorem dL_law_2033 : decode cL_law 2033 = .ok (.invokevirtual 150, 3) := by decide +kernel
theorem dL_law_2036 : decode cL_law 2036 = .ok (.iload 5, 2) := by decide +kernel
theorem dL_law_2038 : decode cL_law 2038 = .ok (.if_icmp .eq 5, 3) := by decide +kernel
theorem dL_law_2041 : decode cL_law 2041 = .ok (.iconst 0, 1) := by decide +kernel
theorem dL_law_2042 : decode cL_law 2042 = .ok (.ireturn, 1) := by decide +kernel
theorem dL_law_2043 : decode cL_law 2043 = .ok (.iload 5, 2) := by decide +kernel
theorem dL_law_2045 : decode cL_law 2045 = .ok (.ifCond .ne 15, 3) := by decide +kernel
theorem dL_law_2048 : decode cL_law 2048 = .ok (.aload_n 3, 1) := by decide +kernel
theorem dL_law_2049 : decode cL_law 2049 = .ok (.iconst 0, 1) := by decide +kernel
theorem dL_law_2050 : decode cL_law 2050 = .ok (.laload, 1) := by decide +kernel
theorem dL_law_2051 : decode cL_law 2051 = .ok (.iload 6, 2) := by decide +kernel
theorem dL_law_2053 : decode cL_law 2053 = .ok (.i2l, 1) := by decide +kernel
theorem dL_law_2054 : decode cL_law 2054 = .ok (.lcmp, 1) := by decide +kernel
theorem dL_law_2055 : decode cL_law 2055 = .ok (.ifCond .eq 5, 3) := by decide +kernel
theorem dL_law_2058 : decode cL_law 2058 = .ok (.iconst 0, 1) := by decide +kernel
theorem dL_law_2059 : decode cL_law 2059 = .ok (.ireturn, 1) := by decide +kernel
theorem dL_law_2060 : decode cL_law 2060 = .ok (.goto 875, 3) := by decide +kernel
theorem dL_law_2063 : decode cL_law 2063 = .ok (.aload_n 1, 1) := by decide +kernel
theorem dL_law_2064 : decode cL_law 2064 = .ok (.aload_n 0, 1) := by decide +kernel
theorem dL_law_2065 : decode cL_law 2065 = .ok (.iload 4, 2) := by decide +kernel
theorem dL_law_2067 : decode cL_law 2067 = .ok (.iconst 1, 1) := by decide +kernel
theorem dL_law_2068 : decode cL_law 2068 = .ok (.iadd, 1) := by decide +kernel
theorem dL_law_2069 : decode cL_law 2069 = .ok (.iaload, 1) := by decide +kernel
theorem dL_law_2070 : decode cL_law 2070 = .ok (.aload_n 3, 1) := by decide +kernel
theorem dL_law_2071 : decode cL_law 2071 = .ok (.invokestatic 276, 3) := by decide +kernel
theorem dL_law_2074 : decode cL_law 2074 = .ok (.istore 5, 2) := by decide +kernel
theorem dL_law_2076 : decode cL_law 2076 = .ok (.aload_n 2, 1) := by decide +kernel
theorem dL_law_2077 : decode cL_law 2077 = .ok (.aload_n 0, 1) := by decide +kernel
theorem dL_law_2078 : decode cL_law 2078 = .ok (.iload 4, 2) := by decide +kernel
theorem dL_law_2080 : decode cL_law 2080 = .ok (.iconst 1, 1) := by decide +kernel
theorem dL_law_2081 : decode cL_law 2081 = .ok (.iadd, 1) := by decide +kernel
theorem dL_law_2082 : decode cL_law 2082 = .ok (.iaload, 1) := by decide +kernel
theorem dL_law_2083 : decode cL_law 2083 = .ok (.invokevirtual 278, 3) := by decide +kernel
theorem dL_law_2086 : decode cL_law 2086 = .ok (.istore 6, 2) := by decide +kernel
theorem dL_law_2088 : decode cL_law 2088 = .ok (.aload_n 2, 1) := by decide +kernel
theorem dL_law_2089 : decode cL_law 2089 = .ok (.invokevirtual 150, 3) := by decide +kernel
theorem dL_law_2092 : decode cL_law 2092 = .ok (.iload 5, 2) := by decide +kernel
theorem dL_law_2094 : decode cL_law 2094 = .ok (.if_icmp .eq 5, 3) := by decide +kernel
theorem dL_law_2097 : decode cL_law 2097 = .ok (.iconst 0, 1) := by decide +kernel
theorem dL_law_2098 : decode cL_law 2098 = .ok (.ireturn, 1) := by decide +kernel
theorem dL_law_2099 : decode cL_law 2099 = .ok (.iload 5, 2) := by decide +kernel
theorem dL_law_2101 : decode cL_law 2101 = .ok (.ifCond .ne 15, 3) := by decide +kernel
theorem dL_law_2104 : decode cL_law 2104 = .ok (.aload_n 3, 1) := by decide +kernel
theorem dL_law_2105 : decode cL_law 2105 = .ok (.iconst 0, 1) := by decide +kernel
theorem dL_law_2106 : decode cL_law 2106 = .ok (.laload, 1) := by decide +kernel
theorem dL_law_2107 : decode cL_law 2107 = .ok (.iload 6, 2) := by decide +kernel
theorem dL_law_2109 : decode cL_law 2109 = .ok (.i2l, 1) := by decide +kernel
theorem dL_law_2110 : decode cL_law 2110 = .ok (.lcmp, 1) := by decide +kernel
theorem dL_law_2111 : decode cL_law 2111 = .ok (.ifCond .eq 5, 3) := by decide +kernel
theorem dL_law_2114 : decode cL_law 2114 = .ok (.iconst 0, 1) := by decide +kernel
theorem dL_law_2115 : decode cL_law 2115 = .ok (.ireturn, 1) := by decide +kernel
theorem dL_law_2116 : decode cL_law 2116 = .ok (.goto 819, 3) := by decide +kernel
theorem dL_law_2119 : decode cL_law 2119 = .ok (.aload_n 1, 1) := by decide +kernel
theorem dL_law_2120 : decode cL_law 2120 = .ok (.aload_n 0, 1) := by decide +kernel
theorem dL_law_2121 : decode cL_law 2121 = .ok (.iload 4, 2) := by decide +kernel
theorem dL_law_2123 : decode cL_law 2123 = .ok (.iconst 1, 1) := by decide +kernel
theorem dL_law_2124 : decode cL_law 2124 = .ok (.iadd, 1) := by decide +kernel
theorem dL_law_2125 : decode cL_law 2125 = .ok (.iaload, 1) := by decide +kernel
theorem dL_law_2126 : decode cL_law 2126 = .ok (.aload_n 3, 1) := by decide +kernel
theorem dL_law_2127 : decode cL_law 2127 = .ok (.invokestatic 279, 3) := by decide +kernel
theorem dL_law_2130 : decode cL_law 2130 = .ok (.istore 5, 2) := by decide +kernel
theorem dL_law_2132 : decode cL_law 2132 = .ok (.aload_n 2, 1) := by decide +kernel
theorem dL_law_2133 : decode cL_law 2133 = .ok (.aload_n 0, 1) := by decide +kernel
theorem dL_law_2134 : decode cL_law 2134 = .ok (.iload 4, 2) := by decide +kernel
theorem dL_law_2136 : decode cL_law 2136 = .ok (.iconst 1, 1) := by decide +kernel
theorem dL_law_2137 : decode cL_law 2137 = .ok (.iadd, 1) := by decide +kernel
theorem dL_law_2138 : decode cL_law 2138 = .ok (.iaload, 1) := by decide +kernel
theorem dL_law_2139 : decode cL_law 2139 = .ok (.invokevirtual 281, 3) := by decide +kernel
theorem dL_law_2142 : decode cL_law 2142 = .ok (.istore 6, 2) := by decide +kernel
theorem dL_law_2144 : decode cL_law 2144 = .ok (.aload_n 2, 1) := by decide +kernel
theorem dL_law_2145 : decode cL_law 2145 = .ok (.invokevirtual 150, 3) := by decide +kernel
theorem dL_law_2148 : decode cL_law 2148 = .ok (.iload 5, 2) := by decide +kernel
theorem dL_law_2150 : decode cL_law 2150 = .ok (.if_icmp .eq 5, 3) := by decide +kernel
theorem dL_law_2153 : decode cL_law 2153 = .ok (.iconst 0, 1) := by decide +kernel
theorem dL_law_2154 : decode cL_law 2154 = .ok (.ireturn, 1) := by decide +kernel
theorem dL_law_2155 : decode cL_law 2155 = .ok (.iload 5, 2) := by decide +kernel
theorem dL_law_2157 : decode cL_law 2157 = .ok (.ifCond .ne 15, 3) := by decide +kernel
theorem dL_law_2160 : decode cL_law 2160 = .ok (.aload_n 3, 1) := by decide +kernel
theorem dL_law_2161 : decode cL_law 2161 = .ok (.iconst 0, 1) := by decide +kernel
theorem dL_law_2162 : decode cL_law 2162 = .ok (.laload, 1) := by decide +kernel
theorem dL_law_2163 : decode cL_law 2163 = .ok (.iload 6, 2) := by decide +kernel
theorem dL_law_2165 : decode cL_law 2165 = .ok (.i2l, 1) := by decide +kernel
theorem dL_law_2166 : decode cL_law 2166 = .ok (.lcmp, 1) := by decide +kernel
theorem dL_law_2167 : decode cL_law 2167 = .ok (.ifCond .eq 5, 3) := by decide +kernel
theorem dL_law_2170 : decode cL_law 2170 = .ok (.iconst 0, 1) := by decide +kernel
theorem dL_law_2171 : decode cL_law 2171 = .ok (.ireturn, 1) := by decide +kernel
theorem dL_law_2172 : decode cL_law 2172 = .ok (.goto 763, 3) := by decide +kernel
theorem dL_law_2175 : decode cL_law 2175 = .ok (.aload_n 1, 1) := by decide +kernel
theorem dL_law_2176 : decode cL_law 2176 = .ok (.aload_n 0, 1) := by decide +kernel
theorem dL_law_2177 : decode cL_law 2177 = .ok (.iload 4, 2) := by decide +kernel
theorem dL_law_2179 : decode cL_law 2179 = .ok (.iconst 1, 1) := by decide +kernel
theorem dL_law_2180 : decode cL_law 2180 = .ok (.iadd, 1) := by decide +kernel
theorem dL_law_2181 : decode cL_law 2181 = .ok (.iaload, 1) := by decide +kernel
theorem dL_law_2182 : decode cL_law 2182 = .ok (.aload_n 3, 1) := by decide +kernel
theorem dL_law_2183 : decode cL_law 2183 = .ok (.invokestatic 282, 3) := by decide +kernel
theorem dL_law_2186 : decode cL_law 2186 = .ok (.istore 5, 2) := by decide +kernel
theorem dL_law_2188 : decode cL_law 2188 = .ok (.aload_n 2, 1) := by decide +kernel
theorem dL_law_2189 : decode cL_law 2189 = .ok (.aload_n 0, 1) := by decide +kernel
theorem dL_law_2190 : decode cL_law 2190 = .ok (.iload 4, 2) := by decide +kernel
theorem dL_law_2192 : decode cL_law 2192 = .ok (.iconst 1, 1) := by decide +kernel
theorem dL_law_2193 : decode cL_law 2193 = .ok (.iadd, 1) := by decide +kernel
theorem dL_law_2194 : decode cL_law 2194 = .ok (.iaload, 1) := by decide +kernel
theorem dL_law_2195 : decode cL_law 2195 = .ok (.invokevirtual 284, 3) := by decide +kernel
theorem dL_law_2198 : decode cL_law 2198 = .ok (.istore 6, 2) := by decide +kernel
theorem dL_law_2200 : decode cL_law 2200 = .ok (.aload_n 2, 1) := by decide +kernel
theorem dL_law_2201 : decode cL_law 2201 = .ok (.invokevirtual 150, 3) := by decide +kernel
theorem dL_law_2204 : decode cL_law 2204 = .ok (.iload 5, 2) := by decide +kernel
theorem dL_law_2206 : decode cL_law 2206 = .ok (.if_icmp .eq 5, 3) := by decide +kernel
theorem dL_law_2209 : decode cL_law 2209 = .ok (.iconst 0, 1) := by decide +kernel
theorem dL_law_2210 : decode cL_law 2210 = .ok (.ireturn, 1) := by decide +kernel
theorem dL_law_2211 : decode cL_law 2211 = .ok (.iload 5, 2) := by decide +kernel
theorem dL_law_2213 : decode cL_law 2213 = .ok (.ifCond .ne 15, 3) := by decide +kernel
theorem dL_law_2216 : decode cL_law 2216 = .ok (.aload_n 3, 1) := by decide +kernel
theorem dL_law_2217 : decode cL_law 2217 = .ok (.iconst 0, 1) := by decide +kernel
theorem dL_law_2218 : decode cL_law 2218 = .ok (.laload, 1) := by decide +kernel
theorem dL_law_2219 : decode cL_law 2219 = .ok (.iload 6, 2) := by decide +kernel
theorem dL_law_2221 : decode cL_law 2221 = .ok (.i2l, 1) := by decide +kernel
theorem dL_law_2222 : decode cL_law 2222 = .ok (.lcmp, 1) := by decide +kernel
theorem dL_law_2223 : decode cL_law 2223 = .ok (.ifCond .eq 5, 3) := by decide +kernel
theorem dL_law_2226 : decode cL_law 2226 = .ok (.iconst 0, 1) := by decide +kernel
theorem dL_law_2227 : decode cL_law 2227 = .ok (.ireturn, 1) := by decide +kernel
theorem dL_law_2228 : decode cL_law 2228 = .ok (.goto 707, 3) := by decide +kernel
theorem dL_law_2231 : decode cL_law 2231 = .ok (.aload_n 1, 1) := by decide +kernel
theorem dL_law_2232 : decode cL_law 2232 = .ok (.aload_n 0, 1) := by decide +kernel
theorem dL_law_2233 : decode cL_law 2233 = .ok (.iload 4, 2) := by decide +kernel
theorem dL_law_2235 : decode cL_law 2235 = .ok (.iconst 1, 1) := by decide +kernel
theorem dL_law_2236 : decode cL_law 2236 = .ok (.iadd, 1) := by decide +kernel
theorem dL_law_2237 : decode cL_law 2237 = .ok (.iaload, 1) := by decide +kernel
theorem dL_law_2238 : decode cL_law 2238 = .ok (.aload_n 3, 1) := by decide +kernel
theorem dL_law_2239 : decode cL_law 2239 = .ok (.invokestatic 285, 3) := by decide +kernel
theorem dL_law_2242 : decode cL_law 2242 = .ok (.istore 5, 2) := by decide +kernel
theorem dL_law_2244 : decode cL_law 2244 = .ok (.aload_n 2, 1) := by decide +kernel
theorem dL_law_2245 : decode cL_law 2245 = .ok (.aload_n 0, 1) := by decide +kernel
theorem dL_law_2246 : decode cL_law 2246 = .ok (.iload 4, 2) := by decide +kernel
theorem dL_law_2248 : decode cL_law 2248 = .ok (.iconst 1, 1) := by decide +kernel
theorem dL_law_2249 : decode cL_law 2249 = .ok (.iadd, 1) := by decide +kernel
theorem dL_law_2250 : decode cL_law 2250 = .ok (.iaload, 1) := by decide +kernel
theorem dL_law_2251 : decode cL_law 2251 = .ok (.invokevirtual 287, 3) := by decide +kernel
theorem dL_law_2254 : decode cL_law 2254 = .ok (.istore 6, 2) := by decide +kernel
theorem dL_law_2256 : decode cL_law 2256 = .ok (.aload_n 2, 1) := by decide +kernel
theorem dL_law_2257 : decode cL_law 2257 = .ok (.invokevirtual 150, 3) := by decide +kernel
theorem dL_law_2260 : decode cL_law 2260 = .ok (.iload 5, 2) := by decide +kernel
theorem dL_law_2262 : decode cL_law 2262 = .ok (.if_icmp .eq 5, 3) := by decide +kernel
theorem dL_law_2265 : decode cL_law 2265 = .ok (.iconst 0, 1) := by decide +kernel
theorem dL_law_2266 : decode cL_law 2266 = .ok (.ireturn, 1) := by decide +kernel
theorem dL_law_2267 : decode cL_law 2267 = .ok (.iload 5, 2) := by decide +kernel
theorem dL_law_2269 : decode cL_law 2269 = .ok (.ifCond .ne 22, 3) := by decide +kernel
theorem dL_law_2272 : decode cL_law 2272 = .ok (.aload_n 3, 1) := by decide +kernel
theorem dL_law_2273 : decode cL_law 2273 = .ok (.iconst 0, 1) := by decide +kernel
theorem dL_law_2274 : decode cL_law 2274 = .ok (.laload, 1) := by decide +kernel
theorem dL_law_2275 : decode cL_law 2275 = .ok (.iload 6, 2) := by decide +kernel
theorem dL_law_2277 : decode cL_law 2277 = .ok (.ifCond .eq 7, 3) := by decide +kernel
theorem dL_law_2280 : decode cL_law 2280 = .ok (.lconst 1, 1) := by decide +kernel
theorem dL_law_2281 : decode cL_law 2281 = .ok (.goto 4, 3) := by decide +kernel
theorem dL_law_2284 : decode cL_law 2284 = .ok (.lconst 0, 1) := by decide +kernel
theorem dL_law_2285 : decode cL_law 2285 = .ok (.lcmp, 1) := by decide +kernel
theorem dL_law_2286 : decode cL_law 2286 = .ok (.ifCond .eq 5, 3) := by decide +kernel
theorem dL_law_2289 : decode cL_law 2289 = .ok (.iconst 0, 1) := by decide +kernel
theorem dL_law_2290 : decode cL_law 2290 = .ok (.ireturn, 1) := by decide +kernel
theorem dL_law_2291 : decode cL_law 2291 = .ok (.goto 644, 3) := by decide +kernel
theorem dL_law_2294 : decode cL_law 2294 = .ok (.aload_n 1, 1) := by decide +kernel
theorem dL_law_2295 : decode cL_law 2295 = .ok (.aload_n 0, 1) := by decide +kernel
theorem dL_law_2296 : decode cL_law 2296 = .ok (.iload 4, 2) := by decide +kernel
theorem dL_law_2298 : decode cL_law 2298 = .ok (.iconst 1, 1) := by decide +kernel
theorem dL_law_2299 : decode cL_law 2299 = .ok (.iadd, 1) := by decide +kernel
theorem dL_law_2300 : decode cL_law 2300 = .ok (.iaload, 1) := by decide +kernel
theorem dL_law_2301 : decode cL_law 2301 = .ok (.aload_n 3, 1) := by decide +kernel
theorem dL_law_2302 : decode cL_law 2302 = .ok (.invokestatic 288, 3) := by decide +kernel
theorem dL_law_2305 : decode cL_law 2305 = .ok (.istore 5, 2) := by decide +kernel
theorem dL_law_2307 : decode cL_law 2307 = .ok (.aload_n 2, 1) := by decide +kernel
theorem dL_law_2308 : decode cL_law 2308 = .ok (.aload_n 0, 1) := by decide +kernel
theorem dL_law_2309 : decode cL_law 2309 = .ok (.iload 4, 2) := by decide +kernel
theorem dL_law_2311 : decode cL_law 2311 = .ok (.iconst 1, 1) := by decide +kernel
theorem dL_law_2312 : decode cL_law 2312 = .ok (.iadd, 1) := by decide +kernel
theorem dL_law_2313 : decode cL_law 2313 = .ok (.iaload, 1) := by decide +kernel
theorem dL_law_2314 : decode cL_law 2314 = .ok (.invokevirtual 290, 3) := by decide +kernel
theorem dL_law_2317 : decode cL_law 2317 = .ok (.istore 6, 2) := by decide +kernel
theorem dL_law_2319 : decode cL_law 2319 = .ok (.aload_n 2, 1) := by decide +kernel
theorem dL_law_2320 : decode cL_law 2320 = .ok (.invokevirtual 150, 3) := by decide +kernel
theorem dL_law_2323 : decode cL_law 2323 = .ok (.iload 5, 2) := by decide +kernel
theorem dL_law_2325 : decode cL_law 2325 = .ok (.if_icmp .eq 5, 3) := by decide +kernel
theorem dL_law_2328 : decode cL_law 2328 = .ok (.iconst 0, 1) := by decide +kernel
theorem dL_law_2329 : decode cL_law 2329 = .ok (.ireturn, 1) := by decide +kernel
theorem dL_law_2330 : decode cL_law 2330 = .ok (.iload 5, 2) := by decide +kernel
theorem dL_law_2332 : decode cL_law 2332 = .ok (.ifCond .ne 15, 3) := by decide +kernel
theorem dL_law_2335 : decode cL_law 2335 = .ok (.aload_n 3, 1) := by decide +kernel
theorem dL_law_2336 : decode cL_law 2336 = .ok (.iconst 0, 1) := by decide +kernel
theorem dL_law_2337 : decode cL_law 2337 = .ok (.laload, 1) := by decide +kernel
theorem dL_law_2338 : decode cL_law 2338 = .ok (.iload 6, 2) := by decide +kernel
theorem dL_law_2340 : decode cL_law 2340 = .ok (.i2l, 1) := by decide +kernel
theorem dL_law_2341 : decode cL_law 2341 = .ok (.lcmp, 1) := by decide +kernel
theorem dL_law_2342 : decode cL_law 2342 = .ok (.ifCond .eq 5, 3) := by decide +kernel
theorem dL_law_2345 : decode cL_law 2345 = .ok (.iconst 0, 1) := by decide +kernel
theorem dL_law_2346 : decode cL_law 2346 = .ok (.ireturn, 1) := by decide +kernel
theorem dL_law_2347 : decode cL_law 2347 = .ok (.goto 588, 3) := by decide +kernel
theorem dL_law_2350 : decode cL_law 2350 = .ok (.aload_n 1, 1) := by decide +kernel
theorem dL_law_2351 : decode cL_law 2351 = .ok (.aload_n 0, 1) := by decide +kernel
theorem dL_law_2352 : decode cL_law 2352 = .ok (.iload 4, 2) := by decide +kernel
theorem dL_law_2354 : decode cL_law 2354 = .ok (.iconst 1, 1) := by decide +kernel
theorem dL_law_2355 : decode cL_law 2355 = .ok (.iadd, 1) := by decide +kernel
theorem dL_law_2356 : decode cL_law 2356 = .ok (.iaload, 1) := by decide +kernel
theorem dL_law_2357 : decode cL_law 2357 = .ok (.aload_n 3, 1) := by decide +kernel
theorem dL_law_2358 : decode cL_law 2358 = .ok (.invokestatic 291, 3) := by decide +kernel
theorem dL_law_2361 : decode cL_law 2361 = .ok (.istore 5, 2) := by decide +kernel
theorem dL_law_2363 : decode cL_law 2363 = .ok (.aload_n 2, 1) := by decide +kernel
theorem dL_law_2364 : decode cL_law 2364 = .ok (.aload_n 0, 1) := by decide +kernel
theorem dL_law_2365 : decode cL_law 2365 = .ok (.iload 4, 2) := by decide +kernel
theorem dL_law_2367 : decode cL_law 2367 = .ok (.iconst 1, 1) := by decide +kernel
theorem dL_law_2368 : decode cL_law 2368 = .ok (.iadd, 1) := by decide +kernel
theorem dL_law_2369 : decode cL_law 2369 = .ok (.iaload, 1) := by decide +kernel
theorem dL_law_2370 : decode cL_law 2370 = .ok (.invokevirtual 293, 3) := by decide +kernel
theorem dL_law_2373 : decode cL_law 2373 = .ok (.istore 6, 2) := by decide +kernel
theorem dL_law_2375 : decode cL_law 2375 = .ok (.aload_n 2, 1) := by decide +kernel
theorem dL_law_2376 : decode cL_law 2376 = .ok (.invokevirtual 150, 3) := by decide +kernel
theorem dL_law_2379 : decode cL_law 2379 = .ok (.iload 5, 2) := by decide +kernel
theorem dL_law_2381 : decode cL_law 2381 = .ok (.if_icmp .eq 5, 3) := by decide +kernel
theorem dL_law_2384 : decode cL_law 2384 = .ok (.iconst 0, 1) := by decide +kernel
theorem dL_law_2385 : decode cL_law 2385 = .ok (.ireturn, 1) := by decide +kernel
theorem dL_law_2386 : decode cL_law 2386 = .ok (.iload 5, 2) := by decide +kernel
theorem dL_law_2388 : decode cL_law 2388 = .ok (.ifCond .ne 15, 3) := by decide +kernel
theorem dL_law_2391 : decode cL_law 2391 = .ok (.aload_n 3, 1) := by decide +kernel
theorem dL_law_2392 : decode cL_law 2392 = .ok (.iconst 0, 1) := by decide +kernel
theorem dL_law_2393 : decode cL_law 2393 = .ok (.laload, 1) := by decide +kernel
theorem dL_law_2394 : decode cL_law 2394 = .ok (.iload 6, 2) := by decide +kernel
theorem dL_law_2396 : decode cL_law 2396 = .ok (.i2l, 1) := by decide +kernel
theorem dL_law_2397 : decode cL_law 2397 = .ok (.lcmp, 1) := by decide +kernel
theorem dL_law_2398 : decode cL_law 2398 = .ok (.ifCond .eq 5, 3) := by decide +kernel
theorem dL_law_2401 : decode cL_law 2401 = .ok (.iconst 0, 1) := by decide +kernel
theorem dL_law_2402 : decode cL_law 2402 = .ok (.ireturn, 1) := by decide +kernel
theorem dL_law_2403 : decode cL_law 2403 = .ok (.goto 532, 3) := by decide +kernel
theorem dL_law_2406 : decode cL_law 2406 = .ok (.aload_n 1, 1) := by decide +kernel
theorem dL_law_2407 : decode cL_law 2407 = .ok (.aload_n 0, 1) := by decide +kernel
theorem dL_law_2408 : decode cL_law 2408 = .ok (.iload 4, 2) := by decide +kernel
theorem dL_law_2410 : decode cL_law 2410 = .ok (.iconst 1, 1) := by decide +kernel
theorem dL_law_2411 : decode cL_law 2411 = .ok (.iadd, 1) := by decide +kernel
theorem dL_law_2412 : decode cL_law 2412 = .ok (.iaload, 1) := by decide +kernel
theorem dL_law_2413 : decode cL_law 2413 = .ok (.aload_n 3, 1) := by decide +kernel
theorem dL_law_2414 : decode cL_law 2414 = .ok (.invokestatic 294, 3) := by decide +kernel
theorem dL_law_2417 : decode cL_law 2417 = .ok (.istore 5, 2) := by decide +kernel
theorem dL_law_2419 : decode cL_law 2419 = .ok (.aload_n 2, 1) := by decide +kernel
theorem dL_law_2420 : decode cL_law 2420 = .ok (.aload_n 0, 1) := by decide +kernel
theorem dL_law_2421 : decode cL_law 2421 = .ok (.iload 4, 2) := by decide +kernel
theorem dL_law_2423 : decode cL_law 2423 = .ok (.iconst 1, 1) := by decide +kernel
theorem dL_law_2424 : decode cL_law 2424 = .ok (.iadd, 1) := by decide +kernel
theorem dL_law_2425 : decode cL_law 2425 = .ok (.iaload, 1) := by decide +kernel
theorem dL_law_2426 : decode cL_law 2426 = .ok (.invokevirtual 296, 3) := by decide +kernel
theorem dL_law_2429 : decode cL_law 2429 = .ok (.istore 6, 2) := by decide +kernel
theorem dL_law_2431 : decode cL_law 2431 = .ok (.aload_n 2, 1) := by decide +kernel
theorem dL_law_2432 : decode cL_law 2432 = .ok (.invokevirtual 150, 3) := by decide +kernel
theorem dL_law_2435 : decode cL_law 2435 = .ok (.iload 5, 2) := by decide +kernel
theorem dL_law_2437 : decode cL_law 2437 = .ok (.if_icmp .eq 5, 3) := by decide +kernel
theorem dL_law_2440 : decode cL_law 2440 = .ok (.iconst 0, 1) := by decide +kernel
theorem dL_law_2441 : decode cL_law 2441 = .ok (.ireturn, 1) := by decide +kernel
theorem dL_law_2442 : decode cL_law 2442 = .ok (.iload 5, 2) := by decide +kernel
theorem dL_law_2444 : decode cL_law 2444 = .ok (.ifCond .ne 15, 3) := by decide +kernel
theorem dL_law_2447 : decode cL_law 2447 = .ok (.aload_n 3, 1) := by decide +kernel
theorem dL_law_2448 : decode cL_law 2448 = .ok (.iconst 0, 1) := by decide +kernel
theorem dL_law_2449 : decode cL_law 2449 = .ok (.laload, 1) := by decide +kernel
theorem dL_law_2450 : decode cL_law 2450 = .ok (.iload 6, 2) := by decide +kernel
theorem dL_law_2452 : decode cL_law 2452 = .ok (.i2l, 1) := by decide +kernel
theorem dL_law_2453 : decode cL_law 2453 = .ok (.lcmp, 1) := by decide +kernel
theorem dL_law_2454 : decode cL_law 2454 = .ok (.ifCond .eq 5, 3) := by decide +kernel
theorem dL_law_2457 : decode cL_law 2457 = .ok (.iconst 0, 1) := by decide +kernel
theorem dL_law_2458 : decode cL_law 2458 = .ok (.ireturn, 1) := by decide +kernel
theorem dL_law_2459 : decode cL_law 2459 = .ok (.goto 476, 3) := by decide +kernel
theorem dL_law_2462 : decode cL_law 2462 = .ok (.aload_n 1, 1) := by decide +kernel
theorem dL_law_2463 : decode cL_law 2463 = .ok (.aload_n 0, 1) := by decide +kernel
theorem dL_law_2464 : decode cL_law 2464 = .ok (.iload 4, 2) := by decide +kernel
theorem dL_law_2466 : decode cL_law 2466 = .ok (.iconst 1, 1) := by decide +kernel
theorem dL_law_2467 : decode cL_law 2467 = .ok (.iadd, 1) := by decide +kernel
theorem dL_law_2468 : decode cL_law 2468 = .ok (.iaload, 1) := by decide +kernel
theorem dL_law_2469 : decode cL_law 2469 = .ok (.aload_n 3, 1) := by decide +kernel
theorem dL_law_2470 : decode cL_law 2470 = .ok (.invokestatic 297, 3) := by decide +kernel
theorem dL_law_2473 : decode cL_law 2473 = .ok (.istore 5, 2) := by decide +kernel
theorem dL_law_2475 : decode cL_law 2475 = .ok (.aload_n 2, 1) := by decide +kernel
theorem dL_law_2476 : decode cL_law 2476 = .ok (.aload_n 0, 1) := by decide +kernel
theorem dL_law_2477 : decode cL_law 2477 = .ok (.iload 4, 2) := by decide +kernel
theorem dL_law_2479 : decode cL_law 2479 = .ok (.iconst 1, 1) := by decide +kernel
theorem dL_law_2480 : decode cL_law 2480 = .ok (.iadd, 1) := by decide +kernel
theorem dL_law_2481 : decode cL_law 2481 = .ok (.iaload, 1) := by decide +kernel
theorem dL_law_2482 : decode cL_law 2482 = .ok (.invokevirtual 299, 3) := by decide +kernel
theorem dL_law_2485 : decode cL_law 2485 = .ok (.istore 6, 2) := by decide +kernel
theorem dL_law_2487 : decode cL_law 2487 = .ok (.aload_n 2, 1) := by decide +kernel
theorem dL_law_2488 : decode cL_law 2488 = .ok (.invokevirtual 150, 3) := by decide +kernel
theorem dL_law_2491 : decode cL_law 2491 = .ok (.iload 5, 2) := by decide +kernel
theorem dL_law_2493 : decode cL_law 2493 = .ok (.if_icmp .eq 5, 3) := by decide +kernel
theorem dL_law_2496 : decode cL_law 2496 = .ok (.iconst 0, 1) := by decide +kernel
theorem dL_law_2497 : decode cL_law 2497 = .ok (.ireturn, 1) := by decide +kernel
theorem dL_law_2498 : decode cL_law 2498 = .ok (.iload 5, 2) := by decide +kernel
theorem dL_law_2500 : decode cL_law 2500 = .ok (.ifCond .ne 15, 3) := by decide +kernel
theorem dL_law_2503 : decode cL_law 2503 = .ok (.aload_n 3, 1) := by decide +kernel
theorem dL_law_2504 : decode cL_law 2504 = .ok (.iconst 0, 1) := by decide +kernel
theorem dL_law_2505 : decode cL_law 2505 = .ok (.laload, 1) := by decide +kernel
theorem dL_law_2506 : decode cL_law 2506 = .ok (.iload 6, 2) := by decide +kernel
theorem dL_law_2508 : decode cL_law 2508 = .ok (.i2l, 1) := by decide +kernel
theorem dL_law_2509 : decode cL_law 2509 = .ok (.lcmp, 1) := by decide +kernel
theorem dL_law_2510 : decode cL_law 2510 = .ok (.ifCond .eq 5, 3) := by decide +kernel
theorem dL_law_2513 : decode cL_law 2513 = .ok (.iconst 0, 1) := by decide +kernel
theorem dL_law_2514 : decode cL_law 2514 = .ok (.ireturn, 1) := by decide +kernel
theorem dL_law_2515 : decode cL_law 2515 = .ok (.goto 420, 3) := by decide +kernel
theorem dL_law_2518 : decode cL_law 2518 = .ok (.aload_n 1, 1) := by decide +kernel
theorem dL_law_2519 : decode cL_law 2519 = .ok (.aload_n 0, 1) := by decide +kernel
theorem dL_law_2520 : decode cL_law 2520 = .ok (.iload 4, 2) := by decide +kernel
theorem dL_law_2522 : decode cL_law 2522 = .ok (.iconst 1, 1) := by decide +kernel
theorem dL_law_2523 : decode cL_law 2523 = .ok (.iadd, 1) := by decide +kernel
theorem dL_law_2524 : decode cL_law 2524 = .ok (.iaload, 1) := by decide +kernel
theorem dL_law_2525 : decode cL_law 2525 = .ok (.aload_n 3, 1) := by decide +kernel
theorem dL_law_2526 : decode cL_law 2526 = .ok (.invokestatic 300, 3) := by decide +kernel
theorem dL_law_2529 : decode cL_law 2529 = .ok (.istore 5, 2) := by decide +kernel
theorem dL_law_2531 : decode cL_law 2531 = .ok (.aload_n 2, 1) := by decide +kernel
theorem dL_law_2532 : decode cL_law 2532 = .ok (.aload_n 0, 1) := by decide +kernel
theorem dL_law_2533 : decode cL_law 2533 = .ok (.iload 4, 2) := by decide +kernel
theorem dL_law_2535 : decode cL_law 2535 = .ok (.iconst 1, 1) := by decide +kernel
theorem dL_law_2536 : decode cL_law 2536 = .ok (.iadd, 1) := by decide +kernel
theorem dL_law_2537 : decode cL_law 2537 = .ok (.iaload, 1) := by decide +kernel
theorem dL_law_2538 : decode cL_law 2538 = .ok (.invokevirtual 302, 3) := by decide +kernel
theorem dL_law_2541 : decode cL_law 2541 = .ok (.istore 6, 2) := by decide +kernel
theorem dL_law_2543 : decode cL_law 2543 = .ok (.aload_n 2, 1) := by decide +kernel
theorem dL_law_2544 : decode cL_law 2544 = .ok (.invokevirtual 150, 3) := by decide +kernel
theorem dL_law_2547 : decode cL_law 2547 = .ok (.iload 5, 2) := by decide +kernel
theorem dL_law_2549 : decode cL_law 2549 = .ok (.if_icmp .eq 5, 3) := by decide +kernel
theorem dL_law_2552 : decode cL_law 2552 = .ok (.iconst 0, 1) := by decide +kernel
theorem dL_law_2553 : decode cL_law 2553 = .ok (.ireturn, 1) := by decide +kernel
theorem dL_law_2554 : decode cL_law 2554 = .ok (.iload 5, 2) := by decide +kernel
theorem dL_law_2556 : decode cL_law 2556 = .ok (.ifCond .ne 15, 3) := by decide +kernel
theorem dL_law_2559 : decode cL_law 2559 = .ok (.aload_n 3, 1) := by decide +kernel
theorem dL_law_2560 : decode cL_law 2560 = .ok (.iconst 0, 1) := by decide +kernel
theorem dL_law_2561 : decode cL_law 2561 = .ok (.laload, 1) := by decide +kernel
theorem dL_law_2562 : decode cL_law 2562 = .ok (.iload 6, 2) := by decide +kernel
theorem dL_law_2564 : decode cL_law 2564 = .ok (.i2l, 1) := by decide +kernel
theorem dL_law_2565 : decode cL_law 2565 = .ok (.lcmp, 1) := by decide +kernel
theorem dL_law_2566 : decode cL_law 2566 = .ok (.ifCond .eq 5, 3) := by decide +kernel
theorem dL_law_2569 : decode cL_law 2569 = .ok (.iconst 0, 1) := by decide +kernel
theorem dL_law_2570 : decode cL_law 2570 = .ok (.ireturn, 1) := by decide +kernel
theorem dL_law_2571 : decode cL_law 2571 = .ok (.goto 364, 3) := by decide +kernel
theorem dL_law_2574 : decode cL_law 2574 = .ok (.aload_n 1, 1) := by decide +kernel
theorem dL_law_2575 : decode cL_law 2575 = .ok (.aload_n 0, 1) := by decide +kernel
theorem dL_law_2576 : decode cL_law 2576 = .ok (.iload 4, 2) := by decide +kernel
theorem dL_law_2578 : decode cL_law 2578 = .ok (.iconst 1, 1) := by decide +kernel
theorem dL_law_2579 : decode cL_law 2579 = .ok (.iadd, 1) := by decide +kernel
theorem dL_law_2580 : decode cL_law 2580 = .ok (.iaload, 1) := by decide +kernel
theorem dL_law_2581 : decode cL_law 2581 = .ok (.aload_n 3, 1) := by decide +kernel
theorem dL_law_2582 : decode cL_law 2582 = .ok (.invokestatic 303, 3) := by decide +kernel
theorem dL_law_2585 : decode cL_law 2585 = .ok (.istore 5, 2) := by decide +kernel
theorem dL_law_2587 : decode cL_law 2587 = .ok (.aload_n 2, 1) := by decide +kernel
theorem dL_law_2588 : decode cL_law 2588 = .ok (.aload_n 0, 1) := by decide +kernel
theorem dL_law_2589 : decode cL_law 2589 = .ok (.iload 4, 2) := by decide +kernel
theorem dL_law_2591 : decode cL_law 2591 = .ok (.iconst 1, 1) := by decide +kernel
theorem dL_law_2592 : decode cL_law 2592 = .ok (.iadd, 1) := by decide +kernel
theorem dL_law_2593 : decode cL_law 2593 = .ok (.iaload, 1) := by decide +kernel
theorem dL_law_2594 : decode cL_law 2594 = .ok (.invokevirtual 305, 3) := by decide +kernel
theorem dL_law_2597 : decode cL_law 2597 = .ok (.istore 6, 2) := by decide +kernel
theorem dL_law_2599 : decode cL_law 2599 = .ok (.aload_n 2, 1) := by decide +kernel
theorem dL_law_2600 : decode cL_law 2600 = .ok (.invokevirtual 150, 3) := by decide +kernel
theorem dL_law_2603 : decode cL_law 2603 = .ok (.iload 5, 2) := by decide +kernel
theorem dL_law_2605 : decode cL_law 2605 = .ok (.if_icmp .eq 5, 3) := by decide +kernel
theorem dL_law_2608 : decode cL_law 2608 = .ok (.iconst 0, 1) := by decide +kernel
theorem dL_law_2609 : decode cL_law 2609 = .ok (.ireturn, 1) := by decide +kernel
theorem dL_law_2610 : decode cL_law 2610 = .ok (.iload 5, 2) := by decide +kernel
theorem dL_law_2612 : decode cL_law 2612 = .ok (.ifCond .ne 15, 3) := by decide +kernel
theorem dL_law_2615 : decode cL_law 2615 = .ok (.aload_n 3, 1) := by decide +kernel
theorem dL_law_2616 : decode cL_law 2616 = .ok (.iconst 0, 1) := by decide +kernel
theorem dL_law_2617 : decode cL_law 2617 = .ok (.laload, 1) := by decide +kernel
theorem dL_law_2618 : decode cL_law 2618 = .ok (.iload 6, 2) := by decide +kernel
theorem dL_law_2620 : decode cL_law 2620 = .ok (.i2l, 1) := by decide +kernel
theorem dL_law_2621 : decode cL_law 2621 = .ok (.lcmp, 1) := by decide +kernel
theorem dL_law_2622 : decode cL_law 2622 = .ok (.ifCond .eq 5, 3) := by decide +kernel
theorem dL_law_2625 : decode cL_law 2625 = .ok (.iconst 0, 1) := by decide +kernel
theorem dL_law_2626 : decode cL_law 2626 = .ok (.ireturn, 1) := by decide +kernel
theorem dL_law_2627 : decode cL_law 2627 = .ok (.goto 308, 3) := by decide +kernel
theorem dL_law_2630 : decode cL_law 2630 = .ok (.aload_n 1, 1) := by decide +kernel
theorem dL_law_2631 : decode cL_law 2631 = .ok (.aload_n 0, 1) := by decide +kernel
theorem dL_law_2632 : decode cL_law 2632 = .ok (.iload 4, 2) := by decide +kernel
theorem dL_law_2634 : decode cL_law 2634 = .ok (.iconst 1, 1) := by decide +kernel
theorem dL_law_2635 : decode cL_law 2635 = .ok (.iadd, 1) := by decide +kernel
theorem dL_law_2636 : decode cL_law 2636 = .ok (.iaload, 1) := by decide +kernel
theorem dL_law_2637 : decode cL_law 2637 = .ok (.aload_n 3, 1) := by decide +kernel
theorem dL_law_2638 : decode cL_law 2638 = .ok (.invokestatic 306, 3) := by decide +kernel
theorem dL_law_2641 : decode cL_law 2641 = .ok (.istore 5, 2) := by decide +kernel
theorem dL_law_2643 : decode cL_law 2643 = .ok (.aload_n 2, 1) := by decide +kernel
theorem dL_law_2644 : decode cL_law 2644 = .ok (.aload_n 0, 1) := by decide +kernel
theorem dL_law_2645 : decode cL_law 2645 = .ok (.iload 4, 2) := by decide +kernel
theorem dL_law_2647 : decode cL_law 2647 = .ok (.iconst 1, 1) := by decide +kernel
theorem dL_law_2648 : decode cL_law 2648 = .ok (.iadd, 1) := by decide +kernel
theorem dL_law_2649 : decode cL_law 2649 = .ok (.iaload, 1) := by decide +kernel
theorem dL_law_2650 : decode cL_law 2650 = .ok (.invokevirtual 308, 3) := by decide +kernel
theorem dL_law_2653 : decode cL_law 2653 = .ok (.istore 6, 2) := by decide +kernel
theorem dL_law_2655 : decode cL_law 2655 = .ok (.aload_n 2, 1) := by decide +kernel
theorem dL_law_2656 : decode cL_law 2656 = .ok (.invokevirtual 150, 3) := by decide +kernel
theorem dL_law_2659 : decode cL_law 2659 = .ok (.iload 5, 2) := by decide +kernel
theorem dL_law_2661 : decode cL_law 2661 = .ok (.if_icmp .eq 5, 3) := by decide +kernel
theorem dL_law_2664 : decode cL_law 2664 = .ok (.iconst 0, 1) := by decide +kernel
theorem dL_law_2665 : decode cL_law 2665 = .ok (.ireturn, 1) := by decide +kernel
theorem dL_law_2666 : decode cL_law 2666 = .ok (.iload 5, 2) := by decide +kernel
theorem dL_law_2668 : decode cL_law 2668 = .ok (.ifCond .ne 22, 3) := by decide +kernel
theorem dL_law_2671 : decode cL_law 2671 = .ok (.aload_n 3, 1) := by decide +kernel
theorem dL_law_2672 : decode cL_law 2672 = .ok (.iconst 0, 1) := by decide +kernel
theorem dL_law_2673 : decode cL_law 2673 = .ok (.laload, 1) := by decide +kernel
theorem dL_law_2674 : decode cL_law 2674 = .ok (.iload 6, 2) := by decide +kernel
theorem dL_law_2676 : decode cL_law 2676 = .ok (.ifCond .eq 7, 3) := by decide +kernel
theorem dL_law_2679 : decode cL_law 2679 = .ok (.lconst 1, 1) := by decide +kernel
theorem dL_law_2680 : decode cL_law 2680 = .ok (.goto 4, 3) := by decide +kernel
theorem dL_law_2683 : decode cL_law 2683 = .ok (.lconst 0, 1) := by decide +kernel
theorem dL_law_2684 : decode cL_law 2684 = .ok (.lcmp, 1) := by decide +kernel
theorem dL_law_2685 : decode cL_law 2685 = .ok (.ifCond .eq 5, 3) := by decide +kernel
theorem dL_law_2688 : decode cL_law 2688 = .ok (.iconst 0, 1) := by decide +kernel
theorem dL_law_2689 : decode cL_law 2689 = .ok (.ireturn, 1) := by decide +kernel
theorem dL_law_2690 : decode cL_law 2690 = .ok (.goto 245, 3) := by decide +kernel
theorem dL_law_2693 : decode cL_law 2693 = .ok (.aload_n 1, 1) := by decide +kernel
theorem dL_law_2694 : decode cL_law 2694 = .ok (.aload_n 0, 1) := by decide +kernel
theorem dL_law_2695 : decode cL_law 2695 = .ok (.iload 4, 2) := by decide +kernel
theorem dL_law_2697 : decode cL_law 2697 = .ok (.iconst 1, 1) := by decide +kernel
theorem dL_law_2698 : decode cL_law 2698 = .ok (.iadd, 1) := by decide +kernel
theorem dL_law_2699 : decode cL_law 2699 = .ok (.iaload, 1) := by decide +kernel
theorem dL_law_2700 : decode cL_law 2700 = .ok (.aload_n 0, 1) := by decide +kernel
theorem dL_law_2701 : decode cL_law 2701 = .ok (.iload 4, 2) := by decide +kernel
theorem dL_law_2703 : decode cL_law 2703 = .ok (.iconst 2, 1) := by decide +kernel
theorem dL_law_2704 : decode cL_law 2704 = .ok (.iadd, 1) := by decide +kernel
theorem dL_law_2705 : decode cL_law 2705 = .ok (.iaload, 1) := by decide +kernel
theorem dL_law_2706 : decode cL_law 2706 = .ok (.aload_n 3, 1) := by decide +kernel
theorem dL_law_2707 : decode cL_law 2707 = .ok (.invokestatic 309, 3) := by decide +kernel
theorem dL_law_2710 : decode cL_law 2710 = .ok (.istore 5, 2) := by decide +kernel
theorem dL_law_2712 : decode cL_law 2712 = .ok (.aload_n 2, 1) := by decide +kernel
theorem dL_law_2713 : decode cL_law 2713 = .ok (.aload_n 0, 1) := by decide +kernel
theorem dL_law_2714 : decode cL_law 2714 = .ok (.iload 4, 2) := by decide +kernel
theorem dL_law_2716 : decode cL_law 2716 = .ok (.iconst 1, 1) := by decide +kernel
theorem dL_law_2717 : decode cL_law 2717 = .ok (.iadd, 1) := by decide +kernel
theorem dL_law_2718 : decode cL_law 2718 = .ok (.iaload, 1) := by decide +kernel
theorem dL_law_2719 : decode cL_law 2719 = .ok (.aload_n 0, 1) := by decide +kernel
theorem dL_law_2720 : decode cL_law 2720 = .ok (.iload 4, 2) := by decide +kernel
theorem dL_law_2722 : decode cL_law 2722 = .ok (.iconst 2, 1) := by decide +kernel
theorem dL_law_2723 : decode cL_law 2723 = .ok (.iadd, 1) := by decide +kernel
theorem dL_law_2724 : decode cL_law 2724 = .ok (.iaload, 1) := by decide +kernel
theorem dL_law_2725 : decode cL_law 2725 = .ok (.invokevirtual 311, 3) := by decide +kernel
theorem dL_law_2728 : decode cL_law 2728 = .ok (.istore 6, 2) := by decide +kernel
theorem dL_law_2730 : decode cL_law 2730 = .ok (.aload_n 2, 1) := by decide +kernel
theorem dL_law_2731 : decode cL_law 2731 = .ok (.invokevirtual 150, 3) := by decide +kernel
theorem dL_law_2734 : decode cL_law 2734 = .ok (.iload 5, 2) := by decide +kernel
theorem dL_law_2736 : decode cL_law 2736 = .ok (.if_icmp .eq 5, 3) := by decide +kernel
theorem dL_law_2739 : decode cL_law 2739 = .ok (.iconst 0, 1) := by decide +kernel
theorem dL_law_2740 : decode cL_law 2740 = .ok (.ireturn, 1) := by decide +kernel
theorem dL_law_2741 : decode cL_law 2741 = .ok (.iload 5, 2) := by decide +kernel
theorem dL_law_2743 : decode cL_law 2743 = .ok (.ifCond .ne 15, 3) := by decide +kernel
theorem dL_law_2746 : decode cL_law 2746 = .ok (.aload_n 3, 1) := by decide +kernel
theorem dL_law_2747 : decode cL_law 2747 = .ok (.iconst 0, 1) := by decide +kernel
theorem dL_law_2748 : decode cL_law 2748 = .ok (.laload, 1) := by decide +kernel
theorem dL_law_2749 : decode cL_law 2749 = .ok (.iload 6, 2) := by decide +kernel
theorem dL_law_2751 : decode cL_law 2751 = .ok (.i2l, 1) := by decide +kernel
theorem dL_law_2752 : decode cL_law 2752 = .ok (.lcmp, 1) := by decide +kernel
theorem dL_law_2753 : decode cL_law 2753 = .ok (.ifCond .eq 5, 3) := by decide +kernel
theorem dL_law_2756 : decode cL_law 2756 = .ok (.iconst 0, 1) := by decide +kernel
theorem dL_law_2757 : decode cL_law 2757 = .ok (.ireturn, 1) := by decide +kernel
theorem dL_law_2758 : decode cL_law 2758 = .ok (.goto 177, 3) := by decide +kernel
theorem dL_law_2761 : decode cL_law 2761 = .ok (.aload_n 1, 1) := by decide +kernel
theorem dL_law_2762 : decode cL_law 2762 = .ok (.invokevirtual 312, 3) := by decide +kernel
theorem dL_law_2765 : decode cL_law 2765 = .ok (.aload_n 2, 1) := by decide +kernel
theorem dL_law_2766 : decode cL_law 2766 = .ok (.invokevirtual 315, 3) := by decide +kernel
theorem dL_law_2769 : decode cL_law 2769 = .ok (.if_icmp .eq 166, 3) := by decide +kernel
theorem dL_law_2772 : decode cL_law 2772 = .ok (.iconst 0, 1) := by decide +kernel
theorem dL_law_2773 : decode cL_law 2773 = .ok (.ireturn, 1) := by decide +kernel
theorem dL_law_2774 : decode cL_law 2774 = .ok (.aload_n 1, 1) := by decide +kernel
theorem dL_law_2775 : decode cL_law 2775 = .ok (.invokevirtual 316, 3) := by decide +kernel
theorem dL_law_2778 : decode cL_law 2778 = .ok (.aload_n 2, 1) := by decide +kernel
theorem dL_law_2779 : decode cL_law 2779 = .ok (.invokevirtual 319, 3) := by decide +kernel
theorem dL_law_2782 : decode cL_law 2782 = .ok (.if_icmp .eq 153, 3) := by decide +kernel
theorem dL_law_2785 : decode cL_law 2785 = .ok (.iconst 0, 1) := by decide +kernel
theorem dL_law_2786 : decode cL_law 2786 = .ok (.ireturn, 1) := by decide +kernel
theorem dL_law_2787 : decode cL_law 2787 = .ok (.aload_n 1, 1) := by decide +kernel
theorem dL_law_2788 : decode cL_law 2788 = .ok (.invokevirtual 320, 3) := by decide +kernel
theorem dL_law_2791 : decode cL_law 2791 = .ok (.aload_n 2, 1) := by decide +kernel
theorem dL_law_2792 : decode cL_law 2792 = .ok (.invokevirtual 323, 3) := by decide +kernel
theorem dL_law_2795 : decode cL_law 2795 = .ok (.if_icmp .eq 140, 3) := by decide +kernel
theorem dL_law_2798 : decode cL_law 2798 = .ok (.iconst 0, 1) := by decide +kernel
theorem dL_law_2799 : decode cL_law 2799 = .ok (.ireturn, 1) := by decide +kernel
theorem dL_law_2800 : decode cL_law 2800 = .ok (.aload_n 1, 1) := by decide +kernel
theorem dL_law_2801 : decode cL_law 2801 = .ok (.invokevirtual 324, 3) := by decide +kernel
theorem dL_law_2804 : decode cL_law 2804 = .ok (.aload_n 2, 1) := by decide +kernel
theorem dL_law_2805 : decode cL_law 2805 = .ok (.invokevirtual 327, 3) := by decide +kernel
theorem dL_law_2808 : decode cL_law 2808 = .ok (.if_icmp .eq 127, 3) := by decide +kernel
theorem dL_law_2811 : decode cL_law 2811 = .ok (.iconst 0, 1) := by decide +kernel
theorem dL_law_2812 : decode cL_law 2812 = .ok (.ireturn, 1) := by decide +kernel
theorem dL_law_2813 : decode cL_law 2813 = .ok (.aload_n 1, 1) := by decide +kernel
theorem dL_law_2814 : decode cL_law 2814 = .ok (.invokevirtual 328, 3) := by decide +kernel
theorem dL_law_2817 : decode cL_law 2817 = .ok (.dstore 5, 2) := by decide +kernel
theorem dL_law_2819 : decode cL_law 2819 = .ok (.aload_n 2, 1) := by decide +kernel
theorem dL_law_2820 : decode cL_law 2820 = .ok (.invokevirtual 332, 3) := by decide +kernel
theorem dL_law_2823 : decode cL_law 2823 = .ok (.dstore 7, 2) := by decide +kernel
theorem dL_law_2825 : decode cL_law 2825 = .ok (.dload 5, 2) := by decide +kernel
theorem dL_law_2827 : decode cL_law 2827 = .ok (.dload 7, 2) := by decide +kernel
theorem dL_law_2829 : decode cL_law 2829 = .ok (.dcmp .l, 1) := by decide +kernel
theorem dL_law_2830 : decode cL_law 2830 = .ok (.ifCond .eq 21, 3) := by decide +kernel
theorem dL_law_2833 : decode cL_law 2833 = .ok (.dload 5, 2) := by decide +kernel
theorem dL_law_2835 : decode cL_law 2835 = .ok (.dload 5, 2) := by decide +kernel
theorem dL_law_2837 : decode cL_law 2837 = .ok (.dcmp .l, 1) := by decide +kernel
theorem dL_law_2838 : decode cL_law 2838 = .ok (.ifCond .eq 11, 3) := by decide +kernel
theorem dL_law_2841 : decode cL_law 2841 = .ok (.dload 7, 2) := by decide +kernel
theorem dL_law_2843 : decode cL_law 2843 = .ok (.dload 7, 2) := by decide +kernel
theorem dL_law_2845 : decode cL_law 2845 = .ok (.dcmp .l, 1) := by decide +kernel
theorem dL_law_2846 : decode cL_law 2846 = .ok (.ifCond .ne 5, 3) := by decide +kernel
theorem dL_law_2849 : decode cL_law 2849 = .ok (.iconst 0, 1) := by decide +kernel
theorem dL_law_2850 : decode cL_law 2850 = .ok (.ireturn, 1) := by decide +kernel
theorem dL_law_2851 : decode cL_law 2851 = .ok (.goto 84, 3) := by decide +kernel
theorem dL_law_2854 : decode cL_law 2854 = .ok (.aload_n 1, 1) := by decide +kernel
theorem dL_law_2855 : decode cL_law 2855 = .ok (.invokevirtual 333, 3) := by decide +kernel
theorem dL_law_2858 : decode cL_law 2858 = .ok (.f2d, 1) := by decide +kernel
theorem dL_law_2859 : decode cL_law 2859 = .ok (.dstore 5, 2) := by decide +kernel
theorem dL_law_2861 : decode cL_law 2861 = .ok (.aload_n 2, 1) := by decide +kernel
theorem dL_law_2862 : decode cL_law 2862 = .ok (.invokevirtual 337, 3) := by decide +kernel
theorem dL_law_2865 : decode cL_law 2865 = .ok (.f2d, 1) := by decide +kernel
theorem dL_law_2866 : decode cL_law 2866 = .ok (.dstore 7, 2) := by decide +kernel
theorem dL_law_2868 : decode cL_law 2868 = .ok (.dload 5, 2) := by decide +kernel
theorem dL_law_2870 : decode cL_law 2870 = .ok (.dload 7, 2) := by decide +kernel
theorem dL_law_2872 : decode cL_law 2872 = .ok (.dcmp .l, 1) := by decide +kernel
theorem dL_law_2873 : decode cL_law 2873 = .ok (.ifCond .eq 21, 3) := by decide +kernel
theorem dL_law_2876 : decode cL_law 2876 = .ok (.dload 5, 2) := by decide +kernel
theorem dL_law_2878 : decode cL_law 2878 = .ok (.dload 5, 2) := by decide +kernel
theorem dL_law_2880 : decode cL_law 2880 = .ok (.dcmp .l, 1) := by decide +kernel
theorem dL_law_2881 : decode cL_law 2881 = .ok (.ifCond .eq 11, 3) := by decide +kernel
theorem dL_law_2884 : decode cL_law 2884 = .ok (.dload 7, 2) := by decide +kernel
theorem dL_law_2886 : decode cL_law 2886 = .ok (.dload 7, 2) := by decide +kernel
theorem dL_law_2888 : decode cL_law 2888 = .ok (.dcmp .l, 1) := by decide +kernel
theorem dL_law_2889 : decode cL_law 2889 = .ok (.ifCond .ne 5, 3) := by decide +kernel
theorem dL_law_2892 : decode cL_law 2892 = .ok (.iconst 0, 1) := by decide +kernel
theorem dL_law_2893 : decode cL_law 2893 = .ok (.ireturn, 1) := by decide +kernel
theorem dL_law_2894 : decode cL_law 2894 = .ok (.goto 41, 3) := by decide +kernel
theorem dL_law_2897 : decode cL_law 2897 = .ok (.aload_n 1, 1) := by decide +kernel
theorem dL_law_2898 : decode cL_law 2898 = .ok (.invokevirtual 338, 3) := by decide +kernel
theorem dL_law_2901 : decode cL_law 2901 = .ok (.aload_n 2, 1) := by decide +kernel
theorem dL_law_2902 : decode cL_law 2902 = .ok (.invokevirtual 341, 3) := by decide +kernel
theorem dL_law_2905 : decode cL_law 2905 = .ok (.if_icmp .eq 30, 3) := by decide +kernel
theorem dL_law_2908 : decode cL_law 2908 = .ok (.iconst 0, 1) := by decide +kernel
theorem dL_law_2909 : decode cL_law 2909 = .ok (.ireturn, 1) := by decide +kernel
theorem dL_law_2910 : decode cL_law 2910 = .ok (.aload_n 1, 1) := by decide +kernel
theorem dL_law_2911 : decode cL_law 2911 = .ok (.aload_n 0, 1) := by decide +kernel
theorem dL_law_2912 : decode cL_law 2912 = .ok (.iload 4, 2) := by decide +kernel
theorem dL_law_2914 : decode cL_law 2914 = .ok (.iconst 1, 1) := by decide +kernel
theorem dL_law_2915 : decode cL_law 2915 = .ok (.iadd, 1) := by decide +kernel
theorem dL_law_2916 : decode cL_law 2916 = .ok (.iaload, 1) := by decide +kernel
theorem dL_law_2917 : decode cL_law 2917 = .ok (.invokevirtual 342, 3) := by decide +kernel
theorem dL_law_2920 : decode cL_law 2920 = .ok (.aload_n 2, 1) := by decide +kernel
theorem dL_law_2921 : decode cL_law 2921 = .ok (.aload_n 0, 1) := by decide +kernel
theorem dL_law_2922 : decode cL_law 2922 = .ok (.iload 4, 2) := by decide +kernel
theorem dL_law_2924 : decode cL_law 2924 = .ok (.iconst 1, 1) := by decide +kernel
theorem dL_law_2925 : decode cL_law 2925 = .ok (.iadd, 1) := by decide +kernel
theorem dL_law_2926 : decode cL_law 2926 = .ok (.iaload, 1) := by decide +kernel
theorem dL_law_2927 : decode cL_law 2927 = .ok (.invokevirtual 345, 3) := by decide +kernel
theorem dL_law_2930 : decode cL_law 2930 = .ok (.if_icmp .eq 5, 3) := by decide +kernel
theorem dL_law_2933 : decode cL_law 2933 = .ok (.iconst 0, 1) := by decide +kernel
theorem dL_law_2934 : decode cL_law 2934 = .ok (.ireturn, 1) := by decide +kernel
theorem dL_law_2935 : decode cL_law 2935 = .ok (.iinc 4 6, 3) := by decide +kernel
theorem dL_law_2938 : decode cL_law 2938 = .ok (.goto (-2915), 3) := by decide +kernel
theorem dL_law_2941 : decode cL_law 2941 = .ok (.iconst 1, 1) := by decide +kernel
theorem dL_law_2942 : decode cL_law 2942 = .ok (.ireturn, 1) := by decide +kernel
