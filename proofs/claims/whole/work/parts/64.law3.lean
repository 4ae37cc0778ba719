/-! ===== the law's arms, but text's ===== -/
theorem tw_1093 : Cond.methodLink "OneStrokeLaw" 17 ⟨"OneStrokeModel", "drummer", "(II)I"⟩ ∈ gw_tbl := gw_at 1093 (by decide +kernel) rfl
theorem tw_1094 : Cond.instanceMethod ⟨"OneStrokeModel", "drummer", "(II)I"⟩ ∈ gw_tbl := gw_at 1094 (by decide +kernel) rfl
theorem tw_1095 : Cond.selects "OneStrokeModel" ⟨"OneStrokeModel", "drummer", "(II)I"⟩ ⟨"OneStrokeModel", "drummer", "(II)I"⟩ ∈ gw_tbl := gw_at 1095 (by decide +kernel) rfl
theorem tw_1096 : Cond.code yX12_drummer cX12_drummer 3 (some .int) ∈ gw_tbl := gw_at 1096 (by decide +kernel) rfl
theorem tw_1112 : Cond.methodLink "OneStrokeLaw" 21 ⟨"OneStrokeModel", "told", "(II)I"⟩ ∈ gw_tbl := gw_at 1112 (by decide +kernel) rfl
theorem tw_1113 : Cond.instanceMethod ⟨"OneStrokeModel", "told", "(II)I"⟩ ∈ gw_tbl := gw_at 1113 (by decide +kernel) rfl
theorem tw_1114 : Cond.selects "OneStrokeModel" ⟨"OneStrokeModel", "told", "(II)I"⟩ ⟨"OneStrokeModel", "told", "(II)I"⟩ ∈ gw_tbl := gw_at 1114 (by decide +kernel) rfl
theorem tw_1115 : Cond.code yX12_told cX12_told 3 (some .int) ∈ gw_tbl := gw_at 1115 (by decide +kernel) rfl
theorem tw_1171 : Cond.methodLink "OneStrokeLaw" 25 ⟨"OneStrokeModel", "as", "(II)I"⟩ ∈ gw_tbl := gw_at 1171 (by decide +kernel) rfl
theorem tw_1172 : Cond.instanceMethod ⟨"OneStrokeModel", "as", "(II)I"⟩ ∈ gw_tbl := gw_at 1172 (by decide +kernel) rfl
theorem tw_1173 : Cond.selects "OneStrokeModel" ⟨"OneStrokeModel", "as", "(II)I"⟩ ⟨"OneStrokeModel", "as", "(II)I"⟩ ∈ gw_tbl := gw_at 1173 (by decide +kernel) rfl
theorem tw_1174 : Cond.code yX12_as cX12_as 3 (some .int) ∈ gw_tbl := gw_at 1174 (by decide +kernel) rfl
theorem tw_1179 : Cond.methodLink "OneStrokeLaw" 29 ⟨"OneStrokeModel", "turns", "(II)I"⟩ ∈ gw_tbl := gw_at 1179 (by decide +kernel) rfl
theorem tw_1180 : Cond.instanceMethod ⟨"OneStrokeModel", "turns", "(II)I"⟩ ∈ gw_tbl := gw_at 1180 (by decide +kernel) rfl
theorem tw_1181 : Cond.selects "OneStrokeModel" ⟨"OneStrokeModel", "turns", "(II)I"⟩ ⟨"OneStrokeModel", "turns", "(II)I"⟩ ∈ gw_tbl := gw_at 1181 (by decide +kernel) rfl
theorem tw_1182 : Cond.code yX12_turns cX12_turns 3 (some .int) ∈ gw_tbl := gw_at 1182 (by decide +kernel) rfl
theorem tw_1187 : Cond.methodLink "OneStrokeLaw" 34 ⟨"OneStrokeModel", "set", "(III)I"⟩ ∈ gw_tbl := gw_at 1187 (by decide +kernel) rfl
theorem tw_1188 : Cond.instanceMethod ⟨"OneStrokeModel", "set", "(III)I"⟩ ∈ gw_tbl := gw_at 1188 (by decide +kernel) rfl
theorem tw_1189 : Cond.selects "OneStrokeModel" ⟨"OneStrokeModel", "set", "(III)I"⟩ ⟨"OneStrokeModel", "set", "(III)I"⟩ ∈ gw_tbl := gw_at 1189 (by decide +kernel) rfl
theorem tw_1190 : Cond.code yX12_set cX12_set 4 (some .int) ∈ gw_tbl := gw_at 1190 (by decide +kernel) rfl
theorem tw_1192 : Cond.methodLink "OneStrokeLaw" 39 ⟨"OneStrokeModel", "miss", "(I)I"⟩ ∈ gw_tbl := gw_at 1192 (by decide +kernel) rfl
theorem tw_1193 : Cond.instanceMethod ⟨"OneStrokeModel", "miss", "(I)I"⟩ ∈ gw_tbl := gw_at 1193 (by decide +kernel) rfl
theorem tw_1194 : Cond.selects "OneStrokeModel" ⟨"OneStrokeModel", "miss", "(I)I"⟩ ⟨"OneStrokeModel", "miss", "(I)I"⟩ ∈ gw_tbl := gw_at 1194 (by decide +kernel) rfl
theorem tw_1195 : Cond.code yX12_miss cX12_miss 2 (some .int) ∈ gw_tbl := gw_at 1195 (by decide +kernel) rfl
theorem tw_1197 : Cond.methodLink "OneStrokeLaw" 43 ⟨"OneStrokeModel", "deal", "(I)I"⟩ ∈ gw_tbl := gw_at 1197 (by decide +kernel) rfl
theorem tw_1198 : Cond.instanceMethod ⟨"OneStrokeModel", "deal", "(I)I"⟩ ∈ gw_tbl := gw_at 1198 (by decide +kernel) rfl
theorem tw_1199 : Cond.selects "OneStrokeModel" ⟨"OneStrokeModel", "deal", "(I)I"⟩ ⟨"OneStrokeModel", "deal", "(I)I"⟩ ∈ gw_tbl := gw_at 1199 (by decide +kernel) rfl
theorem tw_1200 : Cond.code yX12_deal cX12_deal 4 (some .int) ∈ gw_tbl := gw_at 1200 (by decide +kernel) rfl
theorem tw_1207 : Cond.methodLink "OneStrokeLaw" 47 ⟨"OneStrokeModel", "seed", "(I)I"⟩ ∈ gw_tbl := gw_at 1207 (by decide +kernel) rfl
theorem tw_1208 : Cond.instanceMethod ⟨"OneStrokeModel", "seed", "(I)I"⟩ ∈ gw_tbl := gw_at 1208 (by decide +kernel) rfl
theorem tw_1209 : Cond.selects "OneStrokeModel" ⟨"OneStrokeModel", "seed", "(I)I"⟩ ⟨"OneStrokeModel", "seed", "(I)I"⟩ ∈ gw_tbl := gw_at 1209 (by decide +kernel) rfl
theorem tw_1210 : Cond.code yX12_seed cX12_seed 2 (some .int) ∈ gw_tbl := gw_at 1210 (by decide +kernel) rfl
theorem tw_1211 : Cond.methodLink "OneStrokeLaw" 51 ⟨"OneStrokeModel", "order", "(I)I"⟩ ∈ gw_tbl := gw_at 1211 (by decide +kernel) rfl
theorem tw_1212 : Cond.instanceMethod ⟨"OneStrokeModel", "order", "(I)I"⟩ ∈ gw_tbl := gw_at 1212 (by decide +kernel) rfl
theorem tw_1213 : Cond.selects "OneStrokeModel" ⟨"OneStrokeModel", "order", "(I)I"⟩ ⟨"OneStrokeModel", "order", "(I)I"⟩ ∈ gw_tbl := gw_at 1213 (by decide +kernel) rfl
theorem tw_1214 : Cond.code yX12_order cX12_order 2 (some .int) ∈ gw_tbl := gw_at 1214 (by decide +kernel) rfl
theorem tw_1224 : Cond.methodLink "OneStrokeLaw" 56 ⟨"OneStrokeModel", "hush", "()I"⟩ ∈ gw_tbl := gw_at 1224 (by decide +kernel) rfl
theorem tw_1225 : Cond.instanceMethod ⟨"OneStrokeModel", "hush", "()I"⟩ ∈ gw_tbl := gw_at 1225 (by decide +kernel) rfl
theorem tw_1226 : Cond.selects "OneStrokeModel" ⟨"OneStrokeModel", "hush", "()I"⟩ ⟨"OneStrokeModel", "hush", "()I"⟩ ∈ gw_tbl := gw_at 1226 (by decide +kernel) rfl
theorem tw_1227 : Cond.code yX12_hush cX12_hush 3 (some .int) ∈ gw_tbl := gw_at 1227 (by decide +kernel) rfl
theorem tw_1228 : Cond.methodLink "OneStrokeLaw" 60 ⟨"OneStrokeModel", "beats", "(I)I"⟩ ∈ gw_tbl := gw_at 1228 (by decide +kernel) rfl
theorem tw_1229 : Cond.instanceMethod ⟨"OneStrokeModel", "beats", "(I)I"⟩ ∈ gw_tbl := gw_at 1229 (by decide +kernel) rfl
theorem tw_1230 : Cond.selects "OneStrokeModel" ⟨"OneStrokeModel", "beats", "(I)I"⟩ ⟨"OneStrokeModel", "beats", "(I)I"⟩ ∈ gw_tbl := gw_at 1230 (by decide +kernel) rfl
theorem tw_1231 : Cond.code yX12_beats cX12_beats 4 (some .int) ∈ gw_tbl := gw_at 1231 (by decide +kernel) rfl
theorem tw_1239 : Cond.methodLink "OneStrokeLaw" 64 ⟨"OneStrokeModel", "behind", "(III)I"⟩ ∈ gw_tbl := gw_at 1239 (by decide +kernel) rfl
theorem tw_1240 : Cond.instanceMethod ⟨"OneStrokeModel", "behind", "(III)I"⟩ ∈ gw_tbl := gw_at 1240 (by decide +kernel) rfl
theorem tw_1241 : Cond.selects "OneStrokeModel" ⟨"OneStrokeModel", "behind", "(III)I"⟩ ⟨"OneStrokeModel", "behind", "(III)I"⟩ ∈ gw_tbl := gw_at 1241 (by decide +kernel) rfl
theorem tw_1242 : Cond.code yX12_behind cX12_behind 8 (some .int) ∈ gw_tbl := gw_at 1242 (by decide +kernel) rfl
theorem tw_1252 : Cond.methodLink "OneStrokeLaw" 68 ⟨"OneStrokeModel", "soon", "()I"⟩ ∈ gw_tbl := gw_at 1252 (by decide +kernel) rfl
theorem tw_1253 : Cond.instanceMethod ⟨"OneStrokeModel", "soon", "()I"⟩ ∈ gw_tbl := gw_at 1253 (by decide +kernel) rfl
theorem tw_1254 : Cond.selects "OneStrokeModel" ⟨"OneStrokeModel", "soon", "()I"⟩ ⟨"OneStrokeModel", "soon", "()I"⟩ ∈ gw_tbl := gw_at 1254 (by decide +kernel) rfl
theorem tw_1255 : Cond.code yX12_soon cX12_soon 1 (some .int) ∈ gw_tbl := gw_at 1255 (by decide +kernel) rfl
theorem tw_1263 : Cond.methodLink "OneStrokeLaw" 72 ⟨"OneStrokeModel", "all", "()I"⟩ ∈ gw_tbl := gw_at 1263 (by decide +kernel) rfl
theorem tw_1264 : Cond.instanceMethod ⟨"OneStrokeModel", "all", "()I"⟩ ∈ gw_tbl := gw_at 1264 (by decide +kernel) rfl
theorem tw_1265 : Cond.selects "OneStrokeModel" ⟨"OneStrokeModel", "all", "()I"⟩ ⟨"OneStrokeModel", "all", "()I"⟩ ∈ gw_tbl := gw_at 1265 (by decide +kernel) rfl
theorem tw_1266 : Cond.code yX12_all cX12_all 1 (some .int) ∈ gw_tbl := gw_at 1266 (by decide +kernel) rfl
theorem tw_1267 : Cond.methodLink "OneStrokeLaw" 76 ⟨"OneStrokeModel", "spread", "(I)I"⟩ ∈ gw_tbl := gw_at 1267 (by decide +kernel) rfl
theorem tw_1268 : Cond.instanceMethod ⟨"OneStrokeModel", "spread", "(I)I"⟩ ∈ gw_tbl := gw_at 1268 (by decide +kernel) rfl
theorem tw_1269 : Cond.selects "OneStrokeModel" ⟨"OneStrokeModel", "spread", "(I)I"⟩ ⟨"OneStrokeModel", "spread", "(I)I"⟩ ∈ gw_tbl := gw_at 1269 (by decide +kernel) rfl
theorem tw_1270 : Cond.code yX12_spread cX12_spread 2 (some .int) ∈ gw_tbl := gw_at 1270 (by decide +kernel) rfl
theorem tw_1279 : Cond.methodLink "OneStrokeLaw" 80 ⟨"OneStrokeModel", "toWhom", "(I)I"⟩ ∈ gw_tbl := gw_at 1279 (by decide +kernel) rfl
theorem tw_1280 : Cond.instanceMethod ⟨"OneStrokeModel", "toWhom", "(I)I"⟩ ∈ gw_tbl := gw_at 1280 (by decide +kernel) rfl
theorem tw_1281 : Cond.selects "OneStrokeModel" ⟨"OneStrokeModel", "toWhom", "(I)I"⟩ ⟨"OneStrokeModel", "toWhom", "(I)I"⟩ ∈ gw_tbl := gw_at 1281 (by decide +kernel) rfl
theorem tw_1282 : Cond.code yX12_toWhom cX12_toWhom 7 (some .int) ∈ gw_tbl := gw_at 1282 (by decide +kernel) rfl
theorem tw_1284 : Cond.methodLink "OneStrokeLaw" 84 ⟨"OneStrokeModel", "mend", "(II)I"⟩ ∈ gw_tbl := gw_at 1284 (by decide +kernel) rfl
theorem tw_1285 : Cond.instanceMethod ⟨"OneStrokeModel", "mend", "(II)I"⟩ ∈ gw_tbl := gw_at 1285 (by decide +kernel) rfl
theorem tw_1286 : Cond.selects "OneStrokeModel" ⟨"OneStrokeModel", "mend", "(II)I"⟩ ⟨"OneStrokeModel", "mend", "(II)I"⟩ ∈ gw_tbl := gw_at 1286 (by decide +kernel) rfl
theorem tw_1287 : Cond.code yX12_mend cX12_mend 8 (some .int) ∈ gw_tbl := gw_at 1287 (by decide +kernel) rfl
theorem tw_1289 : Cond.methodLink "OneStrokeLaw" 88 ⟨"OneStrokeModel", "far", "(II)I"⟩ ∈ gw_tbl := gw_at 1289 (by decide +kernel) rfl
theorem tw_1290 : Cond.instanceMethod ⟨"OneStrokeModel", "far", "(II)I"⟩ ∈ gw_tbl := gw_at 1290 (by decide +kernel) rfl
theorem tw_1291 : Cond.selects "OneStrokeModel" ⟨"OneStrokeModel", "far", "(II)I"⟩ ⟨"OneStrokeModel", "far", "(II)I"⟩ ∈ gw_tbl := gw_at 1291 (by decide +kernel) rfl
theorem tw_1292 : Cond.code yX12_far cX12_far 3 (some .int) ∈ gw_tbl := gw_at 1292 (by decide +kernel) rfl
theorem tw_1297 : Cond.methodLink "OneStrokeLaw" 92 ⟨"OneStrokeModel", "reach", "(II)I"⟩ ∈ gw_tbl := gw_at 1297 (by decide +kernel) rfl
theorem tw_1298 : Cond.instanceMethod ⟨"OneStrokeModel", "reach", "(II)I"⟩ ∈ gw_tbl := gw_at 1298 (by decide +kernel) rfl
theorem tw_1299 : Cond.selects "OneStrokeModel" ⟨"OneStrokeModel", "reach", "(II)I"⟩ ⟨"OneStrokeModel", "reach", "(II)I"⟩ ∈ gw_tbl := gw_at 1299 (by decide +kernel) rfl
theorem tw_1300 : Cond.code yX12_reach cX12_reach 5 (some .int) ∈ gw_tbl := gw_at 1300 (by decide +kernel) rfl
theorem tw_1302 : Cond.methodLink "OneStrokeLaw" 96 ⟨"OneStrokeModel", "edge", "(I)I"⟩ ∈ gw_tbl := gw_at 1302 (by decide +kernel) rfl
theorem tw_1303 : Cond.instanceMethod ⟨"OneStrokeModel", "edge", "(I)I"⟩ ∈ gw_tbl := gw_at 1303 (by decide +kernel) rfl
theorem tw_1304 : Cond.selects "OneStrokeModel" ⟨"OneStrokeModel", "edge", "(I)I"⟩ ⟨"OneStrokeModel", "edge", "(I)I"⟩ ∈ gw_tbl := gw_at 1304 (by decide +kernel) rfl
theorem tw_1305 : Cond.code yX12_edge cX12_edge 4 (some .int) ∈ gw_tbl := gw_at 1305 (by decide +kernel) rfl
theorem tw_1306 : Cond.methodLink "OneStrokeLaw" 104 ⟨"OneStrokeModel", "fine", "()I"⟩ ∈ gw_tbl := gw_at 1306 (by decide +kernel) rfl
theorem tw_1307 : Cond.instanceMethod ⟨"OneStrokeModel", "fine", "()I"⟩ ∈ gw_tbl := gw_at 1307 (by decide +kernel) rfl
theorem tw_1308 : Cond.selects "OneStrokeModel" ⟨"OneStrokeModel", "fine", "()I"⟩ ⟨"OneStrokeModel", "fine", "()I"⟩ ∈ gw_tbl := gw_at 1308 (by decide +kernel) rfl
theorem tw_1309 : Cond.code yX12_fine cX12_fine 2 (some .int) ∈ gw_tbl := gw_at 1309 (by decide +kernel) rfl
theorem tw_1314 : Cond.methodLink "OneStrokeLaw" 108 ⟨"OneStrokeModel", "feed", "(III)I"⟩ ∈ gw_tbl := gw_at 1314 (by decide +kernel) rfl
theorem tw_1315 : Cond.instanceMethod ⟨"OneStrokeModel", "feed", "(III)I"⟩ ∈ gw_tbl := gw_at 1315 (by decide +kernel) rfl
theorem tw_1316 : Cond.selects "OneStrokeModel" ⟨"OneStrokeModel", "feed", "(III)I"⟩ ⟨"OneStrokeModel", "feed", "(III)I"⟩ ∈ gw_tbl := gw_at 1316 (by decide +kernel) rfl
theorem tw_1317 : Cond.code yX12_feed cX12_feed 6 (some .int) ∈ gw_tbl := gw_at 1317 (by decide +kernel) rfl
theorem tw_1318 : Cond.methodLink "OneStrokeLaw" 112 ⟨"OneStrokeModel", "trim", "(I)I"⟩ ∈ gw_tbl := gw_at 1318 (by decide +kernel) rfl
theorem tw_1319 : Cond.instanceMethod ⟨"OneStrokeModel", "trim", "(I)I"⟩ ∈ gw_tbl := gw_at 1319 (by decide +kernel) rfl
theorem tw_1320 : Cond.selects "OneStrokeModel" ⟨"OneStrokeModel", "trim", "(I)I"⟩ ⟨"OneStrokeModel", "trim", "(I)I"⟩ ∈ gw_tbl := gw_at 1320 (by decide +kernel) rfl
theorem tw_1321 : Cond.code yX12_trim cX12_trim 2 (some .int) ∈ gw_tbl := gw_at 1321 (by decide +kernel) rfl
theorem tw_1393 : Cond.methodLink "OneStrokeLaw" 120 ⟨"OneStrokeModel", "textTold", "(II)I"⟩ ∈ gw_tbl := gw_at 1393 (by decide +kernel) rfl
theorem tw_1394 : Cond.instanceMethod ⟨"OneStrokeModel", "textTold", "(II)I"⟩ ∈ gw_tbl := gw_at 1394 (by decide +kernel) rfl
theorem tw_1395 : Cond.selects "OneStrokeModel" ⟨"OneStrokeModel", "textTold", "(II)I"⟩ ⟨"OneStrokeModel", "textTold", "(II)I"⟩ ∈ gw_tbl := gw_at 1395 (by decide +kernel) rfl
theorem tw_1396 : Cond.code yX12_textTold cX12_textTold 3 (some .int) ∈ gw_tbl := gw_at 1396 (by decide +kernel) rfl
theorem tw_1401 : Cond.methodLink "OneStrokeLaw" 124 ⟨"OneStrokeModel", "why", "(I)I"⟩ ∈ gw_tbl := gw_at 1401 (by decide +kernel) rfl
theorem tw_1402 : Cond.instanceMethod ⟨"OneStrokeModel", "why", "(I)I"⟩ ∈ gw_tbl := gw_at 1402 (by decide +kernel) rfl
theorem tw_1403 : Cond.selects "OneStrokeModel" ⟨"OneStrokeModel", "why", "(I)I"⟩ ⟨"OneStrokeModel", "why", "(I)I"⟩ ∈ gw_tbl := gw_at 1403 (by decide +kernel) rfl
theorem tw_1404 : Cond.code yX12_why cX12_why 2 (some .int) ∈ gw_tbl := gw_at 1404 (by decide +kernel) rfl
theorem tw_1405 : Cond.methodLink "OneStrokeLaw" 128 ⟨"OneStrokeModel", "sheet", "(III)I"⟩ ∈ gw_tbl := gw_at 1405 (by decide +kernel) rfl
theorem tw_1406 : Cond.instanceMethod ⟨"OneStrokeModel", "sheet", "(III)I"⟩ ∈ gw_tbl := gw_at 1406 (by decide +kernel) rfl
theorem tw_1407 : Cond.selects "OneStrokeModel" ⟨"OneStrokeModel", "sheet", "(III)I"⟩ ⟨"OneStrokeModel", "sheet", "(III)I"⟩ ∈ gw_tbl := gw_at 1407 (by decide +kernel) rfl
theorem tw_1408 : Cond.code yX12_sheet cX12_sheet 5 (some .int) ∈ gw_tbl := gw_at 1408 (by decide +kernel) rfl
theorem tw_1414 : Cond.methodLink "OneStrokeLaw" 132 ⟨"OneStrokeModel", "mark", "(III)I"⟩ ∈ gw_tbl := gw_at 1414 (by decide +kernel) rfl
theorem tw_1415 : Cond.instanceMethod ⟨"OneStrokeModel", "mark", "(III)I"⟩ ∈ gw_tbl := gw_at 1415 (by decide +kernel) rfl
theorem tw_1416 : Cond.selects "OneStrokeModel" ⟨"OneStrokeModel", "mark", "(III)I"⟩ ⟨"OneStrokeModel", "mark", "(III)I"⟩ ∈ gw_tbl := gw_at 1416 (by decide +kernel) rfl
theorem tw_1417 : Cond.code yX12_mark cX12_mark 4 (some .int) ∈ gw_tbl := gw_at 1417 (by decide +kernel) rfl
theorem tw_1422 : Cond.methodLink "OneStrokeLaw" 136 ⟨"OneStrokeModel", "pour", "(I)I"⟩ ∈ gw_tbl := gw_at 1422 (by decide +kernel) rfl
theorem tw_1423 : Cond.instanceMethod ⟨"OneStrokeModel", "pour", "(I)I"⟩ ∈ gw_tbl := gw_at 1423 (by decide +kernel) rfl
theorem tw_1424 : Cond.selects "OneStrokeModel" ⟨"OneStrokeModel", "pour", "(I)I"⟩ ⟨"OneStrokeModel", "pour", "(I)I"⟩ ∈ gw_tbl := gw_at 1424 (by decide +kernel) rfl
theorem tw_1425 : Cond.code yX12_pour cX12_pour 6 (some .int) ∈ gw_tbl := gw_at 1425 (by decide +kernel) rfl
theorem tw_1426 : Cond.methodLink "OneStrokeLaw" 140 ⟨"OneStrokeModel", "reads", "(II)I"⟩ ∈ gw_tbl := gw_at 1426 (by decide +kernel) rfl
theorem tw_1427 : Cond.instanceMethod ⟨"OneStrokeModel", "reads", "(II)I"⟩ ∈ gw_tbl := gw_at 1427 (by decide +kernel) rfl
theorem tw_1428 : Cond.selects "OneStrokeModel" ⟨"OneStrokeModel", "reads", "(II)I"⟩ ⟨"OneStrokeModel", "reads", "(II)I"⟩ ∈ gw_tbl := gw_at 1428 (by decide +kernel) rfl
theorem tw_1429 : Cond.code yX12_reads cX12_reads 7 (some .int) ∈ gw_tbl := gw_at 1429 (by decide +kernel) rfl
theorem tw_1430 : Cond.methodLink "OneStrokeLaw" 100 ⟨"OneStrokeModel", "miscounted", "(III)I"⟩ ∈ gw_tbl := gw_at 1430 (by decide +kernel) rfl
theorem tw_1431 : Cond.instanceMethod ⟨"OneStrokeModel", "miscounted", "(III)I"⟩ ∈ gw_tbl := gw_at 1431 (by decide +kernel) rfl
theorem tw_1432 : Cond.selects "OneStrokeModel" ⟨"OneStrokeModel", "miscounted", "(III)I"⟩ ⟨"OneStrokeModel", "miscounted", "(III)I"⟩ ∈ gw_tbl := gw_at 1432 (by decide +kernel) rfl
theorem tw_1433 : Cond.code yX12_miscounted cX12_miscounted 10 (some .int) ∈ gw_tbl := gw_at 1433 (by decide +kernel) rfl
theorem tw_1437 : Cond.methodLink "OneStrokeLaw" 145 ⟨"OneStrokeModel", "copy", "(IIIII)I"⟩ ∈ gw_tbl := gw_at 1437 (by decide +kernel) rfl
theorem tw_1438 : Cond.instanceMethod ⟨"OneStrokeModel", "copy", "(IIIII)I"⟩ ∈ gw_tbl := gw_at 1438 (by decide +kernel) rfl
theorem tw_1439 : Cond.selects "OneStrokeModel" ⟨"OneStrokeModel", "copy", "(IIIII)I"⟩ ⟨"OneStrokeModel", "copy", "(IIIII)I"⟩ ∈ gw_tbl := gw_at 1439 (by decide +kernel) rfl
theorem tw_1440 : Cond.code yX12_copy cX12_copy 7 (some .int) ∈ gw_tbl := gw_at 1440 (by decide +kernel) rfl
theorem tw_1441 : Cond.methodLink "OneStrokeLaw" 149 ⟨"OneStrokeModel", "lay", "(III)I"⟩ ∈ gw_tbl := gw_at 1441 (by decide +kernel) rfl
theorem tw_1442 : Cond.instanceMethod ⟨"OneStrokeModel", "lay", "(III)I"⟩ ∈ gw_tbl := gw_at 1442 (by decide +kernel) rfl
theorem tw_1443 : Cond.selects "OneStrokeModel" ⟨"OneStrokeModel", "lay", "(III)I"⟩ ⟨"OneStrokeModel", "lay", "(III)I"⟩ ∈ gw_tbl := gw_at 1443 (by decide +kernel) rfl
theorem tw_1444 : Cond.code yX12_lay cX12_lay 7 (some .int) ∈ gw_tbl := gw_at 1444 (by decide +kernel) rfl
theorem tw_1449 : Cond.methodLink "OneStrokeLaw" 153 ⟨"OneStrokeModel", "ask", "(II)I"⟩ ∈ gw_tbl := gw_at 1449 (by decide +kernel) rfl
theorem tw_1450 : Cond.instanceMethod ⟨"OneStrokeModel", "ask", "(II)I"⟩ ∈ gw_tbl := gw_at 1450 (by decide +kernel) rfl
theorem tw_1451 : Cond.selects "OneStrokeModel" ⟨"OneStrokeModel", "ask", "(II)I"⟩ ⟨"OneStrokeModel", "ask", "(II)I"⟩ ∈ gw_tbl := gw_at 1451 (by decide +kernel) rfl
theorem tw_1452 : Cond.code yX12_ask cX12_ask 3 (some .int) ∈ gw_tbl := gw_at 1452 (by decide +kernel) rfl
theorem tw_1453 : Cond.methodLink "OneStrokeLaw" 157 ⟨"OneStrokeModel", "item", "(II)I"⟩ ∈ gw_tbl := gw_at 1453 (by decide +kernel) rfl
theorem tw_1454 : Cond.instanceMethod ⟨"OneStrokeModel", "item", "(II)I"⟩ ∈ gw_tbl := gw_at 1454 (by decide +kernel) rfl
theorem tw_1455 : Cond.selects "OneStrokeModel" ⟨"OneStrokeModel", "item", "(II)I"⟩ ⟨"OneStrokeModel", "item", "(II)I"⟩ ∈ gw_tbl := gw_at 1455 (by decide +kernel) rfl
theorem tw_1456 : Cond.code yX12_item cX12_item 4 (some .int) ∈ gw_tbl := gw_at 1456 (by decide +kernel) rfl
theorem tw_1457 : Cond.methodLink "OneStrokeLaw" 161 ⟨"OneStrokeModel", "rest", "(II)I"⟩ ∈ gw_tbl := gw_at 1457 (by decide +kernel) rfl
theorem tw_1458 : Cond.instanceMethod ⟨"OneStrokeModel", "rest", "(II)I"⟩ ∈ gw_tbl := gw_at 1458 (by decide +kernel) rfl
theorem tw_1459 : Cond.selects "OneStrokeModel" ⟨"OneStrokeModel", "rest", "(II)I"⟩ ⟨"OneStrokeModel", "rest", "(II)I"⟩ ∈ gw_tbl := gw_at 1459 (by decide +kernel) rfl
theorem tw_1460 : Cond.code yX12_rest cX12_rest 3 (some .int) ∈ gw_tbl := gw_at 1460 (by decide +kernel) rfl
theorem tw_1461 : Cond.methodLink "OneStrokeLaw" 165 ⟨"OneStrokeModel", "tell", "(I)I"⟩ ∈ gw_tbl := gw_at 1461 (by decide +kernel) rfl
theorem tw_1462 : Cond.instanceMethod ⟨"OneStrokeModel", "tell", "(I)I"⟩ ∈ gw_tbl := gw_at 1462 (by decide +kernel) rfl
theorem tw_1463 : Cond.selects "OneStrokeModel" ⟨"OneStrokeModel", "tell", "(I)I"⟩ ⟨"OneStrokeModel", "tell", "(I)I"⟩ ∈ gw_tbl := gw_at 1463 (by decide +kernel) rfl
theorem tw_1464 : Cond.code yX12_tell cX12_tell 2 (some .int) ∈ gw_tbl := gw_at 1464 (by decide +kernel) rfl
theorem tw_1465 : Cond.methodLink "OneStrokeLaw" 169 ⟨"OneStrokeModel", "check", "(I)I"⟩ ∈ gw_tbl := gw_at 1465 (by decide +kernel) rfl
theorem tw_1466 : Cond.instanceMethod ⟨"OneStrokeModel", "check", "(I)I"⟩ ∈ gw_tbl := gw_at 1466 (by decide +kernel) rfl
theorem tw_1467 : Cond.selects "OneStrokeModel" ⟨"OneStrokeModel", "check", "(I)I"⟩ ⟨"OneStrokeModel", "check", "(I)I"⟩ ∈ gw_tbl := gw_at 1467 (by decide +kernel) rfl
theorem tw_1468 : Cond.code yX12_check cX12_check 5 (some .int) ∈ gw_tbl := gw_at 1468 (by decide +kernel) rfl
theorem tw_1477 : Cond.methodLink "OneStrokeLaw" 173 ⟨"OneStrokeModel", "keep", "()I"⟩ ∈ gw_tbl := gw_at 1477 (by decide +kernel) rfl
theorem tw_1478 : Cond.instanceMethod ⟨"OneStrokeModel", "keep", "()I"⟩ ∈ gw_tbl := gw_at 1478 (by decide +kernel) rfl
theorem tw_1479 : Cond.selects "OneStrokeModel" ⟨"OneStrokeModel", "keep", "()I"⟩ ⟨"OneStrokeModel", "keep", "()I"⟩ ∈ gw_tbl := gw_at 1479 (by decide +kernel) rfl
theorem tw_1480 : Cond.code yX12_keep cX12_keep 1 (some .int) ∈ gw_tbl := gw_at 1480 (by decide +kernel) rfl
theorem tw_1481 : Cond.methodLink "OneStrokeLaw" 177 ⟨"OneStrokeModel", "back", "()I"⟩ ∈ gw_tbl := gw_at 1481 (by decide +kernel) rfl
theorem tw_1482 : Cond.instanceMethod ⟨"OneStrokeModel", "back", "()I"⟩ ∈ gw_tbl := gw_at 1482 (by decide +kernel) rfl
theorem tw_1483 : Cond.selects "OneStrokeModel" ⟨"OneStrokeModel", "back", "()I"⟩ ⟨"OneStrokeModel", "back", "()I"⟩ ∈ gw_tbl := gw_at 1483 (by decide +kernel) rfl
theorem tw_1484 : Cond.code yX12_back cX12_back 1 (some .int) ∈ gw_tbl := gw_at 1484 (by decide +kernel) rfl
theorem tw_1485 : Cond.methodLink "OneStrokeLaw" 181 ⟨"OneStrokeModel", "count", "(I)I"⟩ ∈ gw_tbl := gw_at 1485 (by decide +kernel) rfl
theorem tw_1486 : Cond.instanceMethod ⟨"OneStrokeModel", "count", "(I)I"⟩ ∈ gw_tbl := gw_at 1486 (by decide +kernel) rfl
theorem tw_1487 : Cond.selects "OneStrokeModel" ⟨"OneStrokeModel", "count", "(I)I"⟩ ⟨"OneStrokeModel", "count", "(I)I"⟩ ∈ gw_tbl := gw_at 1487 (by decide +kernel) rfl
theorem tw_1488 : Cond.code yX12_count cX12_count 2 (some .int) ∈ gw_tbl := gw_at 1488 (by decide +kernel) rfl
theorem tw_318 : Cond.methodLink "OneStrokeLaw" 13 ⟨"OneStroke", "drummer", "(II)I"⟩ ∈ gw_tbl := gw_at 318 (by decide +kernel) rfl
theorem tw_319 : Cond.instanceMethod ⟨"OneStroke", "drummer", "(II)I"⟩ ∈ gw_tbl := gw_at 319 (by decide +kernel) rfl
theorem tw_320 : Cond.selects "OneStroke" ⟨"OneStroke", "drummer", "(II)I"⟩ ⟨"OneStroke", "drummer", "(II)I"⟩ ∈ gw_tbl := gw_at 320 (by decide +kernel) rfl
theorem tw_321 : Cond.code yX11_drummer cX11_drummer 3 (some .int) ∈ gw_tbl := gw_at 321 (by decide +kernel) rfl
theorem tw_344 : Cond.methodLink "OneStrokeLaw" 18 ⟨"OneStroke", "told", "(II)I"⟩ ∈ gw_tbl := gw_at 344 (by decide +kernel) rfl
theorem tw_345 : Cond.instanceMethod ⟨"OneStroke", "told", "(II)I"⟩ ∈ gw_tbl := gw_at 345 (by decide +kernel) rfl
theorem tw_346 : Cond.selects "OneStroke" ⟨"OneStroke", "told", "(II)I"⟩ ⟨"OneStroke", "told", "(II)I"⟩ ∈ gw_tbl := gw_at 346 (by decide +kernel) rfl
theorem tw_347 : Cond.code yX11_told cX11_told 4 (some .int) ∈ gw_tbl := gw_at 347 (by decide +kernel) rfl
theorem tw_469 : Cond.methodLink "OneStrokeLaw" 22 ⟨"OneStroke", "as", "(II)I"⟩ ∈ gw_tbl := gw_at 469 (by decide +kernel) rfl
theorem tw_470 : Cond.instanceMethod ⟨"OneStroke", "as", "(II)I"⟩ ∈ gw_tbl := gw_at 470 (by decide +kernel) rfl
theorem tw_471 : Cond.selects "OneStroke" ⟨"OneStroke", "as", "(II)I"⟩ ⟨"OneStroke", "as", "(II)I"⟩ ∈ gw_tbl := gw_at 471 (by decide +kernel) rfl
theorem tw_472 : Cond.code yX11_as cX11_as 4 (some .int) ∈ gw_tbl := gw_at 472 (by decide +kernel) rfl
theorem tw_477 : Cond.methodLink "OneStrokeLaw" 26 ⟨"OneStroke", "turns", "(II)I"⟩ ∈ gw_tbl := gw_at 477 (by decide +kernel) rfl
theorem tw_478 : Cond.instanceMethod ⟨"OneStroke", "turns", "(II)I"⟩ ∈ gw_tbl := gw_at 478 (by decide +kernel) rfl
theorem tw_479 : Cond.selects "OneStroke" ⟨"OneStroke", "turns", "(II)I"⟩ ⟨"OneStroke", "turns", "(II)I"⟩ ∈ gw_tbl := gw_at 479 (by decide +kernel) rfl
theorem tw_480 : Cond.code yX11_turns cX11_turns 5 (some .int) ∈ gw_tbl := gw_at 480 (by decide +kernel) rfl
theorem tw_481 : Cond.methodLink "OneStrokeLaw" 30 ⟨"OneStroke", "set", "(III)I"⟩ ∈ gw_tbl := gw_at 481 (by decide +kernel) rfl
theorem tw_482 : Cond.instanceMethod ⟨"OneStroke", "set", "(III)I"⟩ ∈ gw_tbl := gw_at 482 (by decide +kernel) rfl
theorem tw_483 : Cond.selects "OneStroke" ⟨"OneStroke", "set", "(III)I"⟩ ⟨"OneStroke", "set", "(III)I"⟩ ∈ gw_tbl := gw_at 483 (by decide +kernel) rfl
theorem tw_484 : Cond.code yX11_set cX11_set 6 (some .int) ∈ gw_tbl := gw_at 484 (by decide +kernel) rfl
theorem tw_485 : Cond.methodLink "OneStrokeLaw" 35 ⟨"OneStroke", "miss", "(I)I"⟩ ∈ gw_tbl := gw_at 485 (by decide +kernel) rfl
theorem tw_486 : Cond.instanceMethod ⟨"OneStroke", "miss", "(I)I"⟩ ∈ gw_tbl := gw_at 486 (by decide +kernel) rfl
theorem tw_487 : Cond.selects "OneStroke" ⟨"OneStroke", "miss", "(I)I"⟩ ⟨"OneStroke", "miss", "(I)I"⟩ ∈ gw_tbl := gw_at 487 (by decide +kernel) rfl
theorem tw_488 : Cond.code yX11_miss cX11_miss 3 (some .int) ∈ gw_tbl := gw_at 488 (by decide +kernel) rfl
theorem tw_489 : Cond.methodLink "OneStrokeLaw" 40 ⟨"OneStroke", "deal", "(I)I"⟩ ∈ gw_tbl := gw_at 489 (by decide +kernel) rfl
theorem tw_490 : Cond.instanceMethod ⟨"OneStroke", "deal", "(I)I"⟩ ∈ gw_tbl := gw_at 490 (by decide +kernel) rfl
theorem tw_491 : Cond.selects "OneStroke" ⟨"OneStroke", "deal", "(I)I"⟩ ⟨"OneStroke", "deal", "(I)I"⟩ ∈ gw_tbl := gw_at 491 (by decide +kernel) rfl
theorem tw_492 : Cond.code yX11_deal cX11_deal 6 (some .int) ∈ gw_tbl := gw_at 492 (by decide +kernel) rfl
theorem tw_498 : Cond.methodLink "OneStrokeLaw" 44 ⟨"OneStroke", "seed", "(I)I"⟩ ∈ gw_tbl := gw_at 498 (by decide +kernel) rfl
theorem tw_499 : Cond.instanceMethod ⟨"OneStroke", "seed", "(I)I"⟩ ∈ gw_tbl := gw_at 499 (by decide +kernel) rfl
theorem tw_500 : Cond.selects "OneStroke" ⟨"OneStroke", "seed", "(I)I"⟩ ⟨"OneStroke", "seed", "(I)I"⟩ ∈ gw_tbl := gw_at 500 (by decide +kernel) rfl
theorem tw_501 : Cond.code yX11_seed cX11_seed 3 (some .int) ∈ gw_tbl := gw_at 501 (by decide +kernel) rfl
theorem tw_502 : Cond.methodLink "OneStrokeLaw" 48 ⟨"OneStroke", "order", "(I)I"⟩ ∈ gw_tbl := gw_at 502 (by decide +kernel) rfl
theorem tw_503 : Cond.instanceMethod ⟨"OneStroke", "order", "(I)I"⟩ ∈ gw_tbl := gw_at 503 (by decide +kernel) rfl
theorem tw_504 : Cond.selects "OneStroke" ⟨"OneStroke", "order", "(I)I"⟩ ⟨"OneStroke", "order", "(I)I"⟩ ∈ gw_tbl := gw_at 504 (by decide +kernel) rfl
theorem tw_505 : Cond.code yX11_order cX11_order 2 (some .int) ∈ gw_tbl := gw_at 505 (by decide +kernel) rfl
theorem tw_512 : Cond.methodLink "OneStrokeLaw" 52 ⟨"OneStroke", "hush", "()I"⟩ ∈ gw_tbl := gw_at 512 (by decide +kernel) rfl
theorem tw_513 : Cond.instanceMethod ⟨"OneStroke", "hush", "()I"⟩ ∈ gw_tbl := gw_at 513 (by decide +kernel) rfl
theorem tw_514 : Cond.selects "OneStroke" ⟨"OneStroke", "hush", "()I"⟩ ⟨"OneStroke", "hush", "()I"⟩ ∈ gw_tbl := gw_at 514 (by decide +kernel) rfl
theorem tw_515 : Cond.code yX11_hush cX11_hush 3 (some .int) ∈ gw_tbl := gw_at 515 (by decide +kernel) rfl
theorem tw_521 : Cond.methodLink "OneStrokeLaw" 57 ⟨"OneStroke", "beats", "(I)I"⟩ ∈ gw_tbl := gw_at 521 (by decide +kernel) rfl
theorem tw_522 : Cond.instanceMethod ⟨"OneStroke", "beats", "(I)I"⟩ ∈ gw_tbl := gw_at 522 (by decide +kernel) rfl
theorem tw_523 : Cond.selects "OneStroke" ⟨"OneStroke", "beats", "(I)I"⟩ ⟨"OneStroke", "beats", "(I)I"⟩ ∈ gw_tbl := gw_at 523 (by decide +kernel) rfl
theorem tw_524 : Cond.code yX11_beats cX11_beats 2 (some .int) ∈ gw_tbl := gw_at 524 (by decide +kernel) rfl
theorem tw_544 : Cond.methodLink "OneStrokeLaw" 61 ⟨"OneStroke", "behind", "(III)I"⟩ ∈ gw_tbl := gw_at 544 (by decide +kernel) rfl
theorem tw_545 : Cond.instanceMethod ⟨"OneStroke", "behind", "(III)I"⟩ ∈ gw_tbl := gw_at 545 (by decide +kernel) rfl
theorem tw_546 : Cond.selects "OneStroke" ⟨"OneStroke", "behind", "(III)I"⟩ ⟨"OneStroke", "behind", "(III)I"⟩ ∈ gw_tbl := gw_at 546 (by decide +kernel) rfl
theorem tw_547 : Cond.code yX11_behind cX11_behind 6 (some .int) ∈ gw_tbl := gw_at 547 (by decide +kernel) rfl
theorem tw_564 : Cond.methodLink "OneStrokeLaw" 65 ⟨"OneStroke", "soon", "()I"⟩ ∈ gw_tbl := gw_at 564 (by decide +kernel) rfl
theorem tw_565 : Cond.instanceMethod ⟨"OneStroke", "soon", "()I"⟩ ∈ gw_tbl := gw_at 565 (by decide +kernel) rfl
theorem tw_566 : Cond.selects "OneStroke" ⟨"OneStroke", "soon", "()I"⟩ ⟨"OneStroke", "soon", "()I"⟩ ∈ gw_tbl := gw_at 566 (by decide +kernel) rfl
theorem tw_567 : Cond.code yX11_soon cX11_soon 1 (some .int) ∈ gw_tbl := gw_at 567 (by decide +kernel) rfl
theorem tw_573 : Cond.methodLink "OneStrokeLaw" 69 ⟨"OneStroke", "all", "()I"⟩ ∈ gw_tbl := gw_at 573 (by decide +kernel) rfl
theorem tw_574 : Cond.instanceMethod ⟨"OneStroke", "all", "()I"⟩ ∈ gw_tbl := gw_at 574 (by decide +kernel) rfl
theorem tw_575 : Cond.selects "OneStroke" ⟨"OneStroke", "all", "()I"⟩ ⟨"OneStroke", "all", "()I"⟩ ∈ gw_tbl := gw_at 575 (by decide +kernel) rfl
theorem tw_576 : Cond.code yX11_all cX11_all 1 (some .int) ∈ gw_tbl := gw_at 576 (by decide +kernel) rfl
theorem tw_577 : Cond.methodLink "OneStrokeLaw" 73 ⟨"OneStroke", "spread", "(I)I"⟩ ∈ gw_tbl := gw_at 577 (by decide +kernel) rfl
theorem tw_578 : Cond.instanceMethod ⟨"OneStroke", "spread", "(I)I"⟩ ∈ gw_tbl := gw_at 578 (by decide +kernel) rfl
theorem tw_579 : Cond.selects "OneStroke" ⟨"OneStroke", "spread", "(I)I"⟩ ⟨"OneStroke", "spread", "(I)I"⟩ ∈ gw_tbl := gw_at 579 (by decide +kernel) rfl
theorem tw_580 : Cond.code yX11_spread cX11_spread 2 (some .int) ∈ gw_tbl := gw_at 580 (by decide +kernel) rfl
theorem tw_587 : Cond.methodLink "OneStrokeLaw" 77 ⟨"OneStroke", "toWhom", "(I)I"⟩ ∈ gw_tbl := gw_at 587 (by decide +kernel) rfl
theorem tw_588 : Cond.instanceMethod ⟨"OneStroke", "toWhom", "(I)I"⟩ ∈ gw_tbl := gw_at 588 (by decide +kernel) rfl
theorem tw_589 : Cond.selects "OneStroke" ⟨"OneStroke", "toWhom", "(I)I"⟩ ⟨"OneStroke", "toWhom", "(I)I"⟩ ∈ gw_tbl := gw_at 589 (by decide +kernel) rfl
theorem tw_590 : Cond.code yX11_toWhom cX11_toWhom 6 (some .int) ∈ gw_tbl := gw_at 590 (by decide +kernel) rfl
theorem tw_591 : Cond.methodLink "OneStrokeLaw" 81 ⟨"OneStroke", "mend", "(II)I"⟩ ∈ gw_tbl := gw_at 591 (by decide +kernel) rfl
theorem tw_592 : Cond.instanceMethod ⟨"OneStroke", "mend", "(II)I"⟩ ∈ gw_tbl := gw_at 592 (by decide +kernel) rfl
theorem tw_593 : Cond.selects "OneStroke" ⟨"OneStroke", "mend", "(II)I"⟩ ⟨"OneStroke", "mend", "(II)I"⟩ ∈ gw_tbl := gw_at 593 (by decide +kernel) rfl
theorem tw_594 : Cond.code yX11_mend cX11_mend 3 (some .int) ∈ gw_tbl := gw_at 594 (by decide +kernel) rfl
theorem tw_603 : Cond.methodLink "OneStrokeLaw" 85 ⟨"OneStroke", "far", "(II)I"⟩ ∈ gw_tbl := gw_at 603 (by decide +kernel) rfl
theorem tw_604 : Cond.instanceMethod ⟨"OneStroke", "far", "(II)I"⟩ ∈ gw_tbl := gw_at 604 (by decide +kernel) rfl
theorem tw_605 : Cond.selects "OneStroke" ⟨"OneStroke", "far", "(II)I"⟩ ⟨"OneStroke", "far", "(II)I"⟩ ∈ gw_tbl := gw_at 605 (by decide +kernel) rfl
theorem tw_606 : Cond.code yX11_far cX11_far 3 (some .int) ∈ gw_tbl := gw_at 606 (by decide +kernel) rfl
theorem tw_611 : Cond.methodLink "OneStrokeLaw" 89 ⟨"OneStroke", "reach", "(II)I"⟩ ∈ gw_tbl := gw_at 611 (by decide +kernel) rfl
theorem tw_612 : Cond.instanceMethod ⟨"OneStroke", "reach", "(II)I"⟩ ∈ gw_tbl := gw_at 612 (by decide +kernel) rfl
theorem tw_613 : Cond.selects "OneStroke" ⟨"OneStroke", "reach", "(II)I"⟩ ⟨"OneStroke", "reach", "(II)I"⟩ ∈ gw_tbl := gw_at 613 (by decide +kernel) rfl
theorem tw_614 : Cond.code yX11_reach cX11_reach 5 (some .int) ∈ gw_tbl := gw_at 614 (by decide +kernel) rfl
theorem tw_615 : Cond.methodLink "OneStrokeLaw" 93 ⟨"OneStroke", "edge", "(I)I"⟩ ∈ gw_tbl := gw_at 615 (by decide +kernel) rfl
theorem tw_616 : Cond.instanceMethod ⟨"OneStroke", "edge", "(I)I"⟩ ∈ gw_tbl := gw_at 616 (by decide +kernel) rfl
theorem tw_617 : Cond.selects "OneStroke" ⟨"OneStroke", "edge", "(I)I"⟩ ⟨"OneStroke", "edge", "(I)I"⟩ ∈ gw_tbl := gw_at 617 (by decide +kernel) rfl
theorem tw_618 : Cond.code yX11_edge cX11_edge 2 (some .int) ∈ gw_tbl := gw_at 618 (by decide +kernel) rfl
theorem tw_619 : Cond.methodLink "OneStrokeLaw" 97 ⟨"OneStroke", "miscounted", "(III)I"⟩ ∈ gw_tbl := gw_at 619 (by decide +kernel) rfl
theorem tw_620 : Cond.instanceMethod ⟨"OneStroke", "miscounted", "(III)I"⟩ ∈ gw_tbl := gw_at 620 (by decide +kernel) rfl
theorem tw_621 : Cond.selects "OneStroke" ⟨"OneStroke", "miscounted", "(III)I"⟩ ⟨"OneStroke", "miscounted", "(III)I"⟩ ∈ gw_tbl := gw_at 621 (by decide +kernel) rfl
theorem tw_622 : Cond.code yX11_miscounted cX11_miscounted 4 (some .int) ∈ gw_tbl := gw_at 622 (by decide +kernel) rfl
theorem tw_651 : Cond.methodLink "OneStrokeLaw" 101 ⟨"OneStroke", "fine", "()I"⟩ ∈ gw_tbl := gw_at 651 (by decide +kernel) rfl
theorem tw_652 : Cond.instanceMethod ⟨"OneStroke", "fine", "()I"⟩ ∈ gw_tbl := gw_at 652 (by decide +kernel) rfl
theorem tw_653 : Cond.selects "OneStroke" ⟨"OneStroke", "fine", "()I"⟩ ⟨"OneStroke", "fine", "()I"⟩ ∈ gw_tbl := gw_at 653 (by decide +kernel) rfl
theorem tw_654 : Cond.code yX11_fine cX11_fine 3 (some .int) ∈ gw_tbl := gw_at 654 (by decide +kernel) rfl
theorem tw_661 : Cond.methodLink "OneStrokeLaw" 105 ⟨"OneStroke", "feed", "(III)I"⟩ ∈ gw_tbl := gw_at 661 (by decide +kernel) rfl
theorem tw_662 : Cond.instanceMethod ⟨"OneStroke", "feed", "(III)I"⟩ ∈ gw_tbl := gw_at 662 (by decide +kernel) rfl
theorem tw_663 : Cond.selects "OneStroke" ⟨"OneStroke", "feed", "(III)I"⟩ ⟨"OneStroke", "feed", "(III)I"⟩ ∈ gw_tbl := gw_at 663 (by decide +kernel) rfl
theorem tw_664 : Cond.code yX11_feed cX11_feed 4 (some .int) ∈ gw_tbl := gw_at 664 (by decide +kernel) rfl
theorem tw_669 : Cond.methodLink "OneStrokeLaw" 109 ⟨"OneStroke", "trim", "(I)I"⟩ ∈ gw_tbl := gw_at 669 (by decide +kernel) rfl
theorem tw_670 : Cond.instanceMethod ⟨"OneStroke", "trim", "(I)I"⟩ ∈ gw_tbl := gw_at 670 (by decide +kernel) rfl
theorem tw_671 : Cond.selects "OneStroke" ⟨"OneStroke", "trim", "(I)I"⟩ ⟨"OneStroke", "trim", "(I)I"⟩ ∈ gw_tbl := gw_at 671 (by decide +kernel) rfl
theorem tw_672 : Cond.code yX11_trim cX11_trim 2 (some .int) ∈ gw_tbl := gw_at 672 (by decide +kernel) rfl
theorem tw_891 : Cond.methodLink "OneStrokeLaw" 117 ⟨"OneStroke", "textTold", "(II)I"⟩ ∈ gw_tbl := gw_at 891 (by decide +kernel) rfl
theorem tw_892 : Cond.instanceMethod ⟨"OneStroke", "textTold", "(II)I"⟩ ∈ gw_tbl := gw_at 892 (by decide +kernel) rfl
theorem tw_893 : Cond.selects "OneStroke" ⟨"OneStroke", "textTold", "(II)I"⟩ ⟨"OneStroke", "textTold", "(II)I"⟩ ∈ gw_tbl := gw_at 893 (by decide +kernel) rfl
theorem tw_894 : Cond.code yX11_textTold cX11_textTold 4 (some .int) ∈ gw_tbl := gw_at 894 (by decide +kernel) rfl
theorem tw_895 : Cond.methodLink "OneStrokeLaw" 121 ⟨"OneStroke", "why", "(I)I"⟩ ∈ gw_tbl := gw_at 895 (by decide +kernel) rfl
theorem tw_896 : Cond.instanceMethod ⟨"OneStroke", "why", "(I)I"⟩ ∈ gw_tbl := gw_at 896 (by decide +kernel) rfl
theorem tw_897 : Cond.selects "OneStroke" ⟨"OneStroke", "why", "(I)I"⟩ ⟨"OneStroke", "why", "(I)I"⟩ ∈ gw_tbl := gw_at 897 (by decide +kernel) rfl
theorem tw_898 : Cond.code yX11_why cX11_why 2 (some .int) ∈ gw_tbl := gw_at 898 (by decide +kernel) rfl
theorem tw_899 : Cond.methodLink "OneStrokeLaw" 125 ⟨"OneStroke", "sheet", "(III)I"⟩ ∈ gw_tbl := gw_at 899 (by decide +kernel) rfl
theorem tw_900 : Cond.instanceMethod ⟨"OneStroke", "sheet", "(III)I"⟩ ∈ gw_tbl := gw_at 900 (by decide +kernel) rfl
theorem tw_901 : Cond.selects "OneStroke" ⟨"OneStroke", "sheet", "(III)I"⟩ ⟨"OneStroke", "sheet", "(III)I"⟩ ∈ gw_tbl := gw_at 901 (by decide +kernel) rfl
theorem tw_902 : Cond.code yX11_sheet cX11_sheet 5 (some .int) ∈ gw_tbl := gw_at 902 (by decide +kernel) rfl
theorem tw_909 : Cond.methodLink "OneStrokeLaw" 129 ⟨"OneStroke", "mark", "(III)I"⟩ ∈ gw_tbl := gw_at 909 (by decide +kernel) rfl
theorem tw_910 : Cond.instanceMethod ⟨"OneStroke", "mark", "(III)I"⟩ ∈ gw_tbl := gw_at 910 (by decide +kernel) rfl
theorem tw_911 : Cond.selects "OneStroke" ⟨"OneStroke", "mark", "(III)I"⟩ ⟨"OneStroke", "mark", "(III)I"⟩ ∈ gw_tbl := gw_at 911 (by decide +kernel) rfl
theorem tw_912 : Cond.code yX11_mark cX11_mark 5 (some .int) ∈ gw_tbl := gw_at 912 (by decide +kernel) rfl
theorem tw_917 : Cond.methodLink "OneStrokeLaw" 133 ⟨"OneStroke", "pour", "(I)I"⟩ ∈ gw_tbl := gw_at 917 (by decide +kernel) rfl
theorem tw_918 : Cond.instanceMethod ⟨"OneStroke", "pour", "(I)I"⟩ ∈ gw_tbl := gw_at 918 (by decide +kernel) rfl
theorem tw_919 : Cond.selects "OneStroke" ⟨"OneStroke", "pour", "(I)I"⟩ ⟨"OneStroke", "pour", "(I)I"⟩ ∈ gw_tbl := gw_at 919 (by decide +kernel) rfl
theorem tw_920 : Cond.code yX11_pour cX11_pour 6 (some .int) ∈ gw_tbl := gw_at 920 (by decide +kernel) rfl
theorem tw_922 : Cond.methodLink "OneStrokeLaw" 137 ⟨"OneStroke", "reads", "(II)I"⟩ ∈ gw_tbl := gw_at 922 (by decide +kernel) rfl
theorem tw_923 : Cond.instanceMethod ⟨"OneStroke", "reads", "(II)I"⟩ ∈ gw_tbl := gw_at 923 (by decide +kernel) rfl
theorem tw_924 : Cond.selects "OneStroke" ⟨"OneStroke", "reads", "(II)I"⟩ ⟨"OneStroke", "reads", "(II)I"⟩ ∈ gw_tbl := gw_at 924 (by decide +kernel) rfl
theorem tw_925 : Cond.code yX11_reads cX11_reads 5 (some .int) ∈ gw_tbl := gw_at 925 (by decide +kernel) rfl
theorem tw_926 : Cond.methodLink "OneStrokeLaw" 141 ⟨"OneStroke", "copy", "(IIIII)I"⟩ ∈ gw_tbl := gw_at 926 (by decide +kernel) rfl
theorem tw_927 : Cond.instanceMethod ⟨"OneStroke", "copy", "(IIIII)I"⟩ ∈ gw_tbl := gw_at 927 (by decide +kernel) rfl
theorem tw_928 : Cond.selects "OneStroke" ⟨"OneStroke", "copy", "(IIIII)I"⟩ ⟨"OneStroke", "copy", "(IIIII)I"⟩ ∈ gw_tbl := gw_at 928 (by decide +kernel) rfl
theorem tw_929 : Cond.code yX11_copy cX11_copy 8 (some .int) ∈ gw_tbl := gw_at 929 (by decide +kernel) rfl
theorem tw_935 : Cond.methodLink "OneStrokeLaw" 146 ⟨"OneStroke", "lay", "(III)I"⟩ ∈ gw_tbl := gw_at 935 (by decide +kernel) rfl
theorem tw_936 : Cond.instanceMethod ⟨"OneStroke", "lay", "(III)I"⟩ ∈ gw_tbl := gw_at 936 (by decide +kernel) rfl
theorem tw_937 : Cond.selects "OneStroke" ⟨"OneStroke", "lay", "(III)I"⟩ ⟨"OneStroke", "lay", "(III)I"⟩ ∈ gw_tbl := gw_at 937 (by decide +kernel) rfl
theorem tw_938 : Cond.code yX11_lay cX11_lay 5 (some .int) ∈ gw_tbl := gw_at 938 (by decide +kernel) rfl
theorem tw_948 : Cond.methodLink "OneStrokeLaw" 150 ⟨"OneStroke", "ask", "(II)I"⟩ ∈ gw_tbl := gw_at 948 (by decide +kernel) rfl
theorem tw_949 : Cond.instanceMethod ⟨"OneStroke", "ask", "(II)I"⟩ ∈ gw_tbl := gw_at 949 (by decide +kernel) rfl
theorem tw_950 : Cond.selects "OneStroke" ⟨"OneStroke", "ask", "(II)I"⟩ ⟨"OneStroke", "ask", "(II)I"⟩ ∈ gw_tbl := gw_at 950 (by decide +kernel) rfl
theorem tw_951 : Cond.code yX11_ask cX11_ask 4 (some .int) ∈ gw_tbl := gw_at 951 (by decide +kernel) rfl
theorem tw_952 : Cond.methodLink "OneStrokeLaw" 154 ⟨"OneStroke", "item", "(II)I"⟩ ∈ gw_tbl := gw_at 952 (by decide +kernel) rfl
theorem tw_953 : Cond.instanceMethod ⟨"OneStroke", "item", "(II)I"⟩ ∈ gw_tbl := gw_at 953 (by decide +kernel) rfl
theorem tw_954 : Cond.selects "OneStroke" ⟨"OneStroke", "item", "(II)I"⟩ ⟨"OneStroke", "item", "(II)I"⟩ ∈ gw_tbl := gw_at 954 (by decide +kernel) rfl
theorem tw_955 : Cond.code yX11_item cX11_item 4 (some .int) ∈ gw_tbl := gw_at 955 (by decide +kernel) rfl
theorem tw_956 : Cond.methodLink "OneStrokeLaw" 158 ⟨"OneStroke", "rest", "(II)I"⟩ ∈ gw_tbl := gw_at 956 (by decide +kernel) rfl
theorem tw_957 : Cond.instanceMethod ⟨"OneStroke", "rest", "(II)I"⟩ ∈ gw_tbl := gw_at 957 (by decide +kernel) rfl
theorem tw_958 : Cond.selects "OneStroke" ⟨"OneStroke", "rest", "(II)I"⟩ ⟨"OneStroke", "rest", "(II)I"⟩ ∈ gw_tbl := gw_at 958 (by decide +kernel) rfl
theorem tw_959 : Cond.code yX11_rest cX11_rest 3 (some .int) ∈ gw_tbl := gw_at 959 (by decide +kernel) rfl
theorem tw_960 : Cond.methodLink "OneStrokeLaw" 162 ⟨"OneStroke", "tell", "(I)I"⟩ ∈ gw_tbl := gw_at 960 (by decide +kernel) rfl
theorem tw_961 : Cond.instanceMethod ⟨"OneStroke", "tell", "(I)I"⟩ ∈ gw_tbl := gw_at 961 (by decide +kernel) rfl
theorem tw_962 : Cond.selects "OneStroke" ⟨"OneStroke", "tell", "(I)I"⟩ ⟨"OneStroke", "tell", "(I)I"⟩ ∈ gw_tbl := gw_at 962 (by decide +kernel) rfl
theorem tw_963 : Cond.code yX11_tell cX11_tell 2 (some .int) ∈ gw_tbl := gw_at 963 (by decide +kernel) rfl
theorem tw_964 : Cond.methodLink "OneStrokeLaw" 166 ⟨"OneStroke", "check", "(I)I"⟩ ∈ gw_tbl := gw_at 964 (by decide +kernel) rfl
theorem tw_965 : Cond.instanceMethod ⟨"OneStroke", "check", "(I)I"⟩ ∈ gw_tbl := gw_at 965 (by decide +kernel) rfl
theorem tw_966 : Cond.selects "OneStroke" ⟨"OneStroke", "check", "(I)I"⟩ ⟨"OneStroke", "check", "(I)I"⟩ ∈ gw_tbl := gw_at 966 (by decide +kernel) rfl
theorem tw_967 : Cond.code yX11_check cX11_check 6 (some .int) ∈ gw_tbl := gw_at 967 (by decide +kernel) rfl
theorem tw_972 : Cond.methodLink "OneStrokeLaw" 170 ⟨"OneStroke", "keep", "()I"⟩ ∈ gw_tbl := gw_at 972 (by decide +kernel) rfl
theorem tw_973 : Cond.instanceMethod ⟨"OneStroke", "keep", "()I"⟩ ∈ gw_tbl := gw_at 973 (by decide +kernel) rfl
theorem tw_974 : Cond.selects "OneStroke" ⟨"OneStroke", "keep", "()I"⟩ ⟨"OneStroke", "keep", "()I"⟩ ∈ gw_tbl := gw_at 974 (by decide +kernel) rfl
theorem tw_975 : Cond.code yX11_keep cX11_keep 1 (some .int) ∈ gw_tbl := gw_at 975 (by decide +kernel) rfl
theorem tw_976 : Cond.methodLink "OneStrokeLaw" 174 ⟨"OneStroke", "back", "()I"⟩ ∈ gw_tbl := gw_at 976 (by decide +kernel) rfl
theorem tw_977 : Cond.instanceMethod ⟨"OneStroke", "back", "()I"⟩ ∈ gw_tbl := gw_at 977 (by decide +kernel) rfl
theorem tw_978 : Cond.selects "OneStroke" ⟨"OneStroke", "back", "()I"⟩ ⟨"OneStroke", "back", "()I"⟩ ∈ gw_tbl := gw_at 978 (by decide +kernel) rfl
theorem tw_979 : Cond.code yX11_back cX11_back 1 (some .int) ∈ gw_tbl := gw_at 979 (by decide +kernel) rfl
theorem tw_980 : Cond.methodLink "OneStrokeLaw" 178 ⟨"OneStroke", "count", "(I)I"⟩ ∈ gw_tbl := gw_at 980 (by decide +kernel) rfl
theorem tw_981 : Cond.instanceMethod ⟨"OneStroke", "count", "(I)I"⟩ ∈ gw_tbl := gw_at 981 (by decide +kernel) rfl
theorem tw_982 : Cond.selects "OneStroke" ⟨"OneStroke", "count", "(I)I"⟩ ⟨"OneStroke", "count", "(I)I"⟩ ∈ gw_tbl := gw_at 982 (by decide +kernel) rfl
theorem tw_983 : Cond.code yX11_count cX11_count 2 (some .int) ∈ gw_tbl := gw_at 983 (by decide +kernel) rfl
section LWA
variable {p : Program} {l : Launch} {e : Env} {s : State} {m : MethodId} {b : Nat} {below : List Frame} {meth : Method} {c : Code} {L : Nat} {xs : Nat → Int32} {cells slots : Nat} {ad : Nat → Nat → Nat} {dC : Nat → ClassId} {dI : Nat → Nat → Nat} {cA : Nat → ClassId} {n0 : Nat}
def cl_0 : sv_C := [(212, (.aload_n 1, (sv_N, (213, (0, []))))), (213, (.aload_n 0, (sv_N, (214, (0, []))))), (214, (.iload_n 3, (sv_N, (215, (0, []))))), (215, (.iconst 1, (.inl (1 : Int32), (216, (0, []))))), (216, (.iadd, (sv_N, (217, (0, []))))), (217, (.iaload, (sv_N, (218, (0, []))))), (218, (.aload_n 0, (sv_N, (219, (0, []))))), (219, (.iload_n 3, (sv_N, (220, (0, []))))), (220, (.iconst 2, (.inl (2 : Int32), (221, (0, []))))), (221, (.iadd, (sv_N, (222, (0, []))))), (222, (.iaload, (sv_N, (223, (0, []))))), (223, (.invokevirtual 13, (sv_N, (226, (0, []))))), (226, (.aload_n 2, (sv_N, (227, (0, []))))), (227, (.aload_n 0, (sv_N, (228, (0, []))))), (228, (.iload_n 3, (sv_N, (229, (0, []))))), (229, (.iconst 1, (.inl (1 : Int32), (230, (0, []))))), (230, (.iadd, (sv_N, (231, (0, []))))), (231, (.iaload, (sv_N, (232, (0, []))))), (232, (.aload_n 0, (sv_N, (233, (0, []))))), (233, (.iload_n 3, (sv_N, (234, (0, []))))), (234, (.iconst 2, (.inl (2 : Int32), (235, (0, []))))), (235, (.iadd, (sv_N, (236, (0, []))))), (236, (.iaload, (sv_N, (237, (0, []))))), (237, (.invokevirtual 17, (sv_N, (240, (0, []))))), (240, (.if_icmp .eq 1145, (sv_N, (243, (1385, []))))), (243, (.iconst 0, (.inl (0 : Int32), (244, (0, []))))), (244, (.ireturn, (sv_N, (245, (0, [])))))]
theorem dl_0 : cl_0.all (sv_dk code) = true := by decide +kernel
set_option maxRecDepth 20000 in
theorem el_0 (L : Nat) (xs : Nat → Int32) (i : Nat) (σ : sv_S) : sv_ex (lw_ev [(223, (3, .inl n_On_drummer)), (237, (3, .inl n_Mo_drummer))] L xs) lw_rt (fun pc => sv_lk pc [(1385, lw_k i)]) cl_0 60 212 (lw_lo i) [] σ = lw_rd L xs (nI i) 1 (fun x1 => lw_rd L xs (nI i) 2 (fun x2 => sv_b (f_On_drummer x1 x2 σ) (fun v σ => lw_rd L xs (nI i) 1 (fun y1 => lw_rd L xs (nI i) 2 (fun y2 => sv_b (f_Mo_drummer y1 y2 σ) (fun w σ => sv_if (v = w) (lw_k i (lw_lo i) [] σ) (lw_rt (.inl 0) σ))))))) := by
  delta lw_ev n_On_drummer n_Mo_drummer lw_rd
  generalize f_On_drummer = c0
  generalize f_Mo_drummer = c1
  generalize lw_k i = c2
  generalize lw_rt = c3
  rfl
set_option maxRecDepth 20000 in
theorem la_0 (X : lw_X p s m meth c b L xs cells slots ad dC dI cA) {i : Nat} (hi : i + 6 ≤ L) (hL : L ≤ 384) {σ : sv_S} (hR : R_A σ) (next : ∀ υ, R_A υ → sv_T (lw_G p l e s m b below meth c cells slots ad dC dI cA n0) 1385 (lw_lo i) [] υ) : sv_T (lw_G p l e s m b below meth c cells slots ad dC dI cA n0) 212 (lw_lo i) [] σ := by
  obtain ⟨v, σ1, σ2, h1, h2, h3⟩ := R_drummer (xs (i + 1)) (xs (i + 2)) σ hR
  refine sv_run (lw_ok X (cs := [(223, (3, .inl n_On_drummer)), (237, (3, .inl n_Mo_drummer))]) ?_) dl_0 (K := fun pc => sv_lk pc [(1385, lw_k i)]) (lw_Kok next) 60 212 (lw_lo i) [] σ ?_
  · exact List.forall_mem_cons.mpr ⟨(sv_cV X.1 X.2.2.2.1.1 (m_On_drummer l) ⟨Nat.le_of_ble_eq_true rfl, Nat.le_of_ble_eq_true rfl⟩ (by decide) X.2.2.2.2.2.2 rfl (g_On_drummer) (sv_w5 tw_318 tw_319 tw_320 tw_53 tw_321) (by decide +kernel) (sv_dc3 dl_0 (pc := 223) rfl rfl)).I, List.forall_mem_cons.mpr ⟨(sv_cV X.1 X.2.2.2.1.1 (m_Mo_drummer l) ⟨Nat.le_of_ble_eq_true rfl, Nat.le_of_ble_eq_true rfl⟩ (by decide) X.2.2.2.2.2.2 rfl (g_Mo_drummer) (sv_w5 tw_1093 tw_1094 tw_1095 tw_65 tw_1096) (by decide +kernel) (sv_dc3 dl_0 (pc := 237) rfl rfl)).I, fun _ h => absurd h List.not_mem_nil⟩⟩
  · rw [el_0, lw_rd1 hi hL, lw_rd2 hi hL, h1, pz_b, lw_rd1 hi hL, lw_rd2 hi hL, h2, pz_b, sv_if_t rfl]
    exact lw_k_t h3
def cl_1 : sv_C := [(245, (.aload_n 1, (sv_N, (246, (0, []))))), (246, (.aload_n 0, (sv_N, (247, (0, []))))), (247, (.iload_n 3, (sv_N, (248, (0, []))))), (248, (.iconst 1, (.inl (1 : Int32), (249, (0, []))))), (249, (.iadd, (sv_N, (250, (0, []))))), (250, (.iaload, (sv_N, (251, (0, []))))), (251, (.aload_n 0, (sv_N, (252, (0, []))))), (252, (.iload_n 3, (sv_N, (253, (0, []))))), (253, (.iconst 2, (.inl (2 : Int32), (254, (0, []))))), (254, (.iadd, (sv_N, (255, (0, []))))), (255, (.iaload, (sv_N, (256, (0, []))))), (256, (.invokevirtual 18, (sv_N, (259, (0, []))))), (259, (.aload_n 2, (sv_N, (260, (0, []))))), (260, (.aload_n 0, (sv_N, (261, (0, []))))), (261, (.iload_n 3, (sv_N, (262, (0, []))))), (262, (.iconst 1, (.inl (1 : Int32), (263, (0, []))))), (263, (.iadd, (sv_N, (264, (0, []))))), (264, (.iaload, (sv_N, (265, (0, []))))), (265, (.aload_n 0, (sv_N, (266, (0, []))))), (266, (.iload_n 3, (sv_N, (267, (0, []))))), (267, (.iconst 2, (.inl (2 : Int32), (268, (0, []))))), (268, (.iadd, (sv_N, (269, (0, []))))), (269, (.iaload, (sv_N, (270, (0, []))))), (270, (.invokevirtual 21, (sv_N, (273, (0, []))))), (273, (.if_icmp .eq 1112, (sv_N, (276, (1385, []))))), (276, (.iconst 0, (.inl (0 : Int32), (277, (0, []))))), (277, (.ireturn, (sv_N, (278, (0, [])))))]
theorem dl_1 : cl_1.all (sv_dk code) = true := by decide +kernel
set_option maxRecDepth 20000 in
theorem el_1 (L : Nat) (xs : Nat → Int32) (i : Nat) (σ : sv_S) : sv_ex (lw_ev [(256, (3, .inl n_On_told)), (270, (3, .inl n_Mo_told))] L xs) lw_rt (fun pc => sv_lk pc [(1385, lw_k i)]) cl_1 60 245 (lw_lo i) [] σ = lw_rd L xs (nI i) 1 (fun x1 => lw_rd L xs (nI i) 2 (fun x2 => sv_b (f_On_told x1 x2 σ) (fun v σ => lw_rd L xs (nI i) 1 (fun y1 => lw_rd L xs (nI i) 2 (fun y2 => sv_b (f_Mo_told y1 y2 σ) (fun w σ => sv_if (v = w) (lw_k i (lw_lo i) [] σ) (lw_rt (.inl 0) σ))))))) := by
  delta lw_ev n_On_told n_Mo_told lw_rd
  generalize f_On_told = c0
  generalize f_Mo_told = c1
  generalize lw_k i = c2
  generalize lw_rt = c3
  rfl
set_option maxRecDepth 20000 in
theorem la_1 (X : lw_X p s m meth c b L xs cells slots ad dC dI cA) {i : Nat} (hi : i + 6 ≤ L) (hL : L ≤ 384) {σ : sv_S} (hR : R_A σ) (next : ∀ υ, R_A υ → sv_T (lw_G p l e s m b below meth c cells slots ad dC dI cA n0) 1385 (lw_lo i) [] υ) : sv_T (lw_G p l e s m b below meth c cells slots ad dC dI cA n0) 245 (lw_lo i) [] σ := by
  obtain ⟨v, σ1, σ2, h1, h2, h3⟩ := R_told (xs (i + 1)) (xs (i + 2)) σ hR
  refine sv_run (lw_ok X (cs := [(256, (3, .inl n_On_told)), (270, (3, .inl n_Mo_told))]) ?_) dl_1 (K := fun pc => sv_lk pc [(1385, lw_k i)]) (lw_Kok next) 60 245 (lw_lo i) [] σ ?_
  · exact List.forall_mem_cons.mpr ⟨(sv_cV X.1 X.2.2.2.1.1 (m_On_told l) ⟨Nat.le_of_ble_eq_true rfl, Nat.le_of_ble_eq_true rfl⟩ (by decide) X.2.2.2.2.2.2 rfl (g_On_told) (sv_w5 tw_344 tw_345 tw_346 tw_53 tw_347) (by decide +kernel) (sv_dc3 dl_1 (pc := 256) rfl rfl)).I, List.forall_mem_cons.mpr ⟨(sv_cV X.1 X.2.2.2.1.1 (m_Mo_told l) ⟨Nat.le_of_ble_eq_true rfl, Nat.le_of_ble_eq_true rfl⟩ (by decide) X.2.2.2.2.2.2 rfl (g_Mo_told) (sv_w5 tw_1112 tw_1113 tw_1114 tw_65 tw_1115) (by decide +kernel) (sv_dc3 dl_1 (pc := 270) rfl rfl)).I, fun _ h => absurd h List.not_mem_nil⟩⟩
  · rw [el_1, lw_rd1 hi hL, lw_rd2 hi hL, h1, pz_b, lw_rd1 hi hL, lw_rd2 hi hL, h2, pz_b, sv_if_t rfl]
    exact lw_k_t h3
def cl_2 : sv_C := [(278, (.aload_n 1, (sv_N, (279, (0, []))))), (279, (.aload_n 0, (sv_N, (280, (0, []))))), (280, (.iload_n 3, (sv_N, (281, (0, []))))), (281, (.iconst 1, (.inl (1 : Int32), (282, (0, []))))), (282, (.iadd, (sv_N, (283, (0, []))))), (283, (.iaload, (sv_N, (284, (0, []))))), (284, (.aload_n 0, (sv_N, (285, (0, []))))), (285, (.iload_n 3, (sv_N, (286, (0, []))))), (286, (.iconst 2, (.inl (2 : Int32), (287, (0, []))))), (287, (.iadd, (sv_N, (288, (0, []))))), (288, (.iaload, (sv_N, (289, (0, []))))), (289, (.invokevirtual 22, (sv_N, (292, (0, []))))), (292, (.aload_n 2, (sv_N, (293, (0, []))))), (293, (.aload_n 0, (sv_N, (294, (0, []))))), (294, (.iload_n 3, (sv_N, (295, (0, []))))), (295, (.iconst 1, (.inl (1 : Int32), (296, (0, []))))), (296, (.iadd, (sv_N, (297, (0, []))))), (297, (.iaload, (sv_N, (298, (0, []))))), (298, (.aload_n 0, (sv_N, (299, (0, []))))), (299, (.iload_n 3, (sv_N, (300, (0, []))))), (300, (.iconst 2, (.inl (2 : Int32), (301, (0, []))))), (301, (.iadd, (sv_N, (302, (0, []))))), (302, (.iaload, (sv_N, (303, (0, []))))), (303, (.invokevirtual 25, (sv_N, (306, (0, []))))), (306, (.if_icmp .eq 1079, (sv_N, (309, (1385, []))))), (309, (.iconst 0, (.inl (0 : Int32), (310, (0, []))))), (310, (.ireturn, (sv_N, (311, (0, [])))))]
theorem dl_2 : cl_2.all (sv_dk code) = true := by decide +kernel
set_option maxRecDepth 20000 in
theorem el_2 (L : Nat) (xs : Nat → Int32) (i : Nat) (σ : sv_S) : sv_ex (lw_ev [(289, (3, .inl n_On_as)), (303, (3, .inl n_Mo_as))] L xs) lw_rt (fun pc => sv_lk pc [(1385, lw_k i)]) cl_2 60 278 (lw_lo i) [] σ = lw_rd L xs (nI i) 1 (fun x1 => lw_rd L xs (nI i) 2 (fun x2 => sv_b (f_On_as x1 x2 σ) (fun v σ => lw_rd L xs (nI i) 1 (fun y1 => lw_rd L xs (nI i) 2 (fun y2 => sv_b (f_Mo_as y1 y2 σ) (fun w σ => sv_if (v = w) (lw_k i (lw_lo i) [] σ) (lw_rt (.inl 0) σ))))))) := by
  delta lw_ev n_On_as n_Mo_as lw_rd
  generalize f_On_as = c0
  generalize f_Mo_as = c1
  generalize lw_k i = c2
  generalize lw_rt = c3
  rfl
set_option maxRecDepth 20000 in
theorem la_2 (X : lw_X p s m meth c b L xs cells slots ad dC dI cA) {i : Nat} (hi : i + 6 ≤ L) (hL : L ≤ 384) {σ : sv_S} (hR : R_A σ) (next : ∀ υ, R_A υ → sv_T (lw_G p l e s m b below meth c cells slots ad dC dI cA n0) 1385 (lw_lo i) [] υ) : sv_T (lw_G p l e s m b below meth c cells slots ad dC dI cA n0) 278 (lw_lo i) [] σ := by
  obtain ⟨v, σ1, σ2, h1, h2, h3⟩ := R_as (xs (i + 1)) (xs (i + 2)) σ hR
  refine sv_run (lw_ok X (cs := [(289, (3, .inl n_On_as)), (303, (3, .inl n_Mo_as))]) ?_) dl_2 (K := fun pc => sv_lk pc [(1385, lw_k i)]) (lw_Kok next) 60 278 (lw_lo i) [] σ ?_
  · exact List.forall_mem_cons.mpr ⟨(sv_cV X.1 X.2.2.2.1.1 (m_On_as l) ⟨Nat.le_of_ble_eq_true rfl, Nat.le_of_ble_eq_true rfl⟩ (by decide) X.2.2.2.2.2.2 rfl (g_On_as) (sv_w5 tw_469 tw_470 tw_471 tw_53 tw_472) (by decide +kernel) (sv_dc3 dl_2 (pc := 289) rfl rfl)).I, List.forall_mem_cons.mpr ⟨(sv_cV X.1 X.2.2.2.1.1 (m_Mo_as l) ⟨Nat.le_of_ble_eq_true rfl, Nat.le_of_ble_eq_true rfl⟩ (by decide) X.2.2.2.2.2.2 rfl (g_Mo_as) (sv_w5 tw_1171 tw_1172 tw_1173 tw_65 tw_1174) (by decide +kernel) (sv_dc3 dl_2 (pc := 303) rfl rfl)).I, fun _ h => absurd h List.not_mem_nil⟩⟩
  · rw [el_2, lw_rd1 hi hL, lw_rd2 hi hL, h1, pz_b, lw_rd1 hi hL, lw_rd2 hi hL, h2, pz_b, sv_if_t rfl]
    exact lw_k_t h3
def cl_3 : sv_C := [(311, (.aload_n 1, (sv_N, (312, (0, []))))), (312, (.aload_n 0, (sv_N, (313, (0, []))))), (313, (.iload_n 3, (sv_N, (314, (0, []))))), (314, (.iconst 1, (.inl (1 : Int32), (315, (0, []))))), (315, (.iadd, (sv_N, (316, (0, []))))), (316, (.iaload, (sv_N, (317, (0, []))))), (317, (.aload_n 0, (sv_N, (318, (0, []))))), (318, (.iload_n 3, (sv_N, (319, (0, []))))), (319, (.iconst 2, (.inl (2 : Int32), (320, (0, []))))), (320, (.iadd, (sv_N, (321, (0, []))))), (321, (.iaload, (sv_N, (322, (0, []))))), (322, (.invokevirtual 26, (sv_N, (325, (0, []))))), (325, (.aload_n 2, (sv_N, (326, (0, []))))), (326, (.aload_n 0, (sv_N, (327, (0, []))))), (327, (.iload_n 3, (sv_N, (328, (0, []))))), (328, (.iconst 1, (.inl (1 : Int32), (329, (0, []))))), (329, (.iadd, (sv_N, (330, (0, []))))), (330, (.iaload, (sv_N, (331, (0, []))))), (331, (.aload_n 0, (sv_N, (332, (0, []))))), (332, (.iload_n 3, (sv_N, (333, (0, []))))), (333, (.iconst 2, (.inl (2 : Int32), (334, (0, []))))), (334, (.iadd, (sv_N, (335, (0, []))))), (335, (.iaload, (sv_N, (336, (0, []))))), (336, (.invokevirtual 29, (sv_N, (339, (0, []))))), (339, (.if_icmp .eq 1046, (sv_N, (342, (1385, []))))), (342, (.iconst 0, (.inl (0 : Int32), (343, (0, []))))), (343, (.ireturn, (sv_N, (344, (0, [])))))]
theorem dl_3 : cl_3.all (sv_dk code) = true := by decide +kernel
set_option maxRecDepth 20000 in
theorem el_3 (L : Nat) (xs : Nat → Int32) (i : Nat) (σ : sv_S) : sv_ex (lw_ev [(322, (3, .inl n_On_turns)), (336, (3, .inl n_Mo_turns))] L xs) lw_rt (fun pc => sv_lk pc [(1385, lw_k i)]) cl_3 60 311 (lw_lo i) [] σ = lw_rd L xs (nI i) 1 (fun x1 => lw_rd L xs (nI i) 2 (fun x2 => sv_b (f_On_turns x1 x2 σ) (fun v σ => lw_rd L xs (nI i) 1 (fun y1 => lw_rd L xs (nI i) 2 (fun y2 => sv_b (f_Mo_turns y1 y2 σ) (fun w σ => sv_if (v = w) (lw_k i (lw_lo i) [] σ) (lw_rt (.inl 0) σ))))))) := by
  delta lw_ev n_On_turns n_Mo_turns lw_rd
  generalize f_On_turns = c0
  generalize f_Mo_turns = c1
  generalize lw_k i = c2
  generalize lw_rt = c3
  rfl
set_option maxRecDepth 20000 in
theorem la_3 (X : lw_X p s m meth c b L xs cells slots ad dC dI cA) {i : Nat} (hi : i + 6 ≤ L) (hL : L ≤ 384) {σ : sv_S} (hR : R_A σ) (next : ∀ υ, R_A υ → sv_T (lw_G p l e s m b below meth c cells slots ad dC dI cA n0) 1385 (lw_lo i) [] υ) : sv_T (lw_G p l e s m b below meth c cells slots ad dC dI cA n0) 311 (lw_lo i) [] σ := by
  obtain ⟨v, σ1, σ2, h1, h2, h3⟩ := R_turns (xs (i + 1)) (xs (i + 2)) σ hR
  refine sv_run (lw_ok X (cs := [(322, (3, .inl n_On_turns)), (336, (3, .inl n_Mo_turns))]) ?_) dl_3 (K := fun pc => sv_lk pc [(1385, lw_k i)]) (lw_Kok next) 60 311 (lw_lo i) [] σ ?_
  · exact List.forall_mem_cons.mpr ⟨(sv_cV X.1 X.2.2.2.1.1 (m_On_turns l) ⟨Nat.le_of_ble_eq_true rfl, Nat.le_of_ble_eq_true rfl⟩ (by decide) X.2.2.2.2.2.2 rfl (g_On_turns) (sv_w5 tw_477 tw_478 tw_479 tw_53 tw_480) (by decide +kernel) (sv_dc3 dl_3 (pc := 322) rfl rfl)).I, List.forall_mem_cons.mpr ⟨(sv_cV X.1 X.2.2.2.1.1 (m_Mo_turns l) ⟨Nat.le_of_ble_eq_true rfl, Nat.le_of_ble_eq_true rfl⟩ (by decide) X.2.2.2.2.2.2 rfl (g_Mo_turns) (sv_w5 tw_1179 tw_1180 tw_1181 tw_65 tw_1182) (by decide +kernel) (sv_dc3 dl_3 (pc := 336) rfl rfl)).I, fun _ h => absurd h List.not_mem_nil⟩⟩
  · rw [el_3, lw_rd1 hi hL, lw_rd2 hi hL, h1, pz_b, lw_rd1 hi hL, lw_rd2 hi hL, h2, pz_b, sv_if_t rfl]
    exact lw_k_t h3
def cl_4 : sv_C := [(344, (.aload_n 1, (sv_N, (345, (0, []))))), (345, (.aload_n 0, (sv_N, (346, (0, []))))), (346, (.iload_n 3, (sv_N, (347, (0, []))))), (347, (.iconst 1, (.inl (1 : Int32), (348, (0, []))))), (348, (.iadd, (sv_N, (349, (0, []))))), (349, (.iaload, (sv_N, (350, (0, []))))), (350, (.aload_n 0, (sv_N, (351, (0, []))))), (351, (.iload_n 3, (sv_N, (352, (0, []))))), (352, (.iconst 2, (.inl (2 : Int32), (353, (0, []))))), (353, (.iadd, (sv_N, (354, (0, []))))), (354, (.iaload, (sv_N, (355, (0, []))))), (355, (.aload_n 0, (sv_N, (356, (0, []))))), (356, (.iload_n 3, (sv_N, (357, (0, []))))), (357, (.iconst 3, (.inl (3 : Int32), (358, (0, []))))), (358, (.iadd, (sv_N, (359, (0, []))))), (359, (.iaload, (sv_N, (360, (0, []))))), (360, (.invokevirtual 30, (sv_N, (363, (0, []))))), (363, (.aload_n 2, (sv_N, (364, (0, []))))), (364, (.aload_n 0, (sv_N, (365, (0, []))))), (365, (.iload_n 3, (sv_N, (366, (0, []))))), (366, (.iconst 1, (.inl (1 : Int32), (367, (0, []))))), (367, (.iadd, (sv_N, (368, (0, []))))), (368, (.iaload, (sv_N, (369, (0, []))))), (369, (.aload_n 0, (sv_N, (370, (0, []))))), (370, (.iload_n 3, (sv_N, (371, (0, []))))), (371, (.iconst 2, (.inl (2 : Int32), (372, (0, []))))), (372, (.iadd, (sv_N, (373, (0, []))))), (373, (.iaload, (sv_N, (374, (0, []))))), (374, (.aload_n 0, (sv_N, (375, (0, []))))), (375, (.iload_n 3, (sv_N, (376, (0, []))))), (376, (.iconst 3, (.inl (3 : Int32), (377, (0, []))))), (377, (.iadd, (sv_N, (378, (0, []))))), (378, (.iaload, (sv_N, (379, (0, []))))), (379, (.invokevirtual 34, (sv_N, (382, (0, []))))), (382, (.if_icmp .eq 1003, (sv_N, (385, (1385, []))))), (385, (.iconst 0, (.inl (0 : Int32), (386, (0, []))))), (386, (.ireturn, (sv_N, (387, (0, [])))))]
theorem dl_4 : cl_4.all (sv_dk code) = true := by decide +kernel
set_option maxRecDepth 20000 in
theorem el_4 (L : Nat) (xs : Nat → Int32) (i : Nat) (σ : sv_S) : sv_ex (lw_ev [(360, (4, .inl n_On_set)), (379, (4, .inl n_Mo_set))] L xs) lw_rt (fun pc => sv_lk pc [(1385, lw_k i)]) cl_4 60 344 (lw_lo i) [] σ = lw_rd L xs (nI i) 1 (fun x1 => lw_rd L xs (nI i) 2 (fun x2 => lw_rd L xs (nI i) 3 (fun x3 => sv_b (f_On_set x1 x2 x3 σ) (fun v σ => lw_rd L xs (nI i) 1 (fun y1 => lw_rd L xs (nI i) 2 (fun y2 => lw_rd L xs (nI i) 3 (fun y3 => sv_b (f_Mo_set y1 y2 y3 σ) (fun w σ => sv_if (v = w) (lw_k i (lw_lo i) [] σ) (lw_rt (.inl 0) σ))))))))) := by
  delta lw_ev n_On_set n_Mo_set lw_rd
  generalize f_On_set = c0
  generalize f_Mo_set = c1
  generalize lw_k i = c2
  generalize lw_rt = c3
  rfl
set_option maxRecDepth 20000 in
theorem la_4 (X : lw_X p s m meth c b L xs cells slots ad dC dI cA) {i : Nat} (hi : i + 6 ≤ L) (hL : L ≤ 384) {σ : sv_S} (hR : R_A σ) (next : ∀ υ, R_A υ → sv_T (lw_G p l e s m b below meth c cells slots ad dC dI cA n0) 1385 (lw_lo i) [] υ) : sv_T (lw_G p l e s m b below meth c cells slots ad dC dI cA n0) 344 (lw_lo i) [] σ := by
  obtain ⟨v, σ1, σ2, h1, h2, h3⟩ := R_set (xs (i + 1)) (xs (i + 2)) (xs (i + 3)) σ hR
  refine sv_run (lw_ok X (cs := [(360, (4, .inl n_On_set)), (379, (4, .inl n_Mo_set))]) ?_) dl_4 (K := fun pc => sv_lk pc [(1385, lw_k i)]) (lw_Kok next) 60 344 (lw_lo i) [] σ ?_
  · exact List.forall_mem_cons.mpr ⟨(sv_cV X.1 X.2.2.2.1.1 (m_On_set l) ⟨Nat.le_of_ble_eq_true rfl, Nat.le_of_ble_eq_true rfl⟩ (by decide) X.2.2.2.2.2.2 rfl (g_On_set) (sv_w5 tw_481 tw_482 tw_483 tw_53 tw_484) (by decide +kernel) (sv_dc3 dl_4 (pc := 360) rfl rfl)).I, List.forall_mem_cons.mpr ⟨(sv_cV X.1 X.2.2.2.1.1 (m_Mo_set l) ⟨Nat.le_of_ble_eq_true rfl, Nat.le_of_ble_eq_true rfl⟩ (by decide) X.2.2.2.2.2.2 rfl (g_Mo_set) (sv_w5 tw_1187 tw_1188 tw_1189 tw_65 tw_1190) (by decide +kernel) (sv_dc3 dl_4 (pc := 379) rfl rfl)).I, fun _ h => absurd h List.not_mem_nil⟩⟩
  · rw [el_4, lw_rd1 hi hL, lw_rd2 hi hL, lw_rd3 hi hL, h1, pz_b, lw_rd1 hi hL, lw_rd2 hi hL, lw_rd3 hi hL, h2, pz_b, sv_if_t rfl]
    exact lw_k_t h3
def cl_5 : sv_C := [(387, (.aload_n 1, (sv_N, (388, (0, []))))), (388, (.aload_n 0, (sv_N, (389, (0, []))))), (389, (.iload_n 3, (sv_N, (390, (0, []))))), (390, (.iconst 1, (.inl (1 : Int32), (391, (0, []))))), (391, (.iadd, (sv_N, (392, (0, []))))), (392, (.iaload, (sv_N, (393, (0, []))))), (393, (.invokevirtual 35, (sv_N, (396, (0, []))))), (396, (.aload_n 2, (sv_N, (397, (0, []))))), (397, (.aload_n 0, (sv_N, (398, (0, []))))), (398, (.iload_n 3, (sv_N, (399, (0, []))))), (399, (.iconst 1, (.inl (1 : Int32), (400, (0, []))))), (400, (.iadd, (sv_N, (401, (0, []))))), (401, (.iaload, (sv_N, (402, (0, []))))), (402, (.invokevirtual 39, (sv_N, (405, (0, []))))), (405, (.if_icmp .eq 980, (sv_N, (408, (1385, []))))), (408, (.iconst 0, (.inl (0 : Int32), (409, (0, []))))), (409, (.ireturn, (sv_N, (410, (0, [])))))]
theorem dl_5 : cl_5.all (sv_dk code) = true := by decide +kernel
set_option maxRecDepth 20000 in
theorem el_5 (L : Nat) (xs : Nat → Int32) (i : Nat) (σ : sv_S) : sv_ex (lw_ev [(393, (2, .inl n_On_miss)), (402, (2, .inl n_Mo_miss))] L xs) lw_rt (fun pc => sv_lk pc [(1385, lw_k i)]) cl_5 60 387 (lw_lo i) [] σ = lw_rd L xs (nI i) 1 (fun x1 => sv_b (f_On_miss x1 σ) (fun v σ => lw_rd L xs (nI i) 1 (fun y1 => sv_b (f_Mo_miss y1 σ) (fun w σ => sv_if (v = w) (lw_k i (lw_lo i) [] σ) (lw_rt (.inl 0) σ))))) := by
  delta lw_ev n_On_miss n_Mo_miss lw_rd
  generalize f_On_miss = c0
  generalize f_Mo_miss = c1
  generalize lw_k i = c2
  generalize lw_rt = c3
  rfl
set_option maxRecDepth 20000 in
theorem la_5 (X : lw_X p s m meth c b L xs cells slots ad dC dI cA) {i : Nat} (hi : i + 6 ≤ L) (hL : L ≤ 384) {σ : sv_S} (hR : R_A σ) (next : ∀ υ, R_A υ → sv_T (lw_G p l e s m b below meth c cells slots ad dC dI cA n0) 1385 (lw_lo i) [] υ) : sv_T (lw_G p l e s m b below meth c cells slots ad dC dI cA n0) 387 (lw_lo i) [] σ := by
  obtain ⟨v, σ1, σ2, h1, h2, h3⟩ := R_miss (xs (i + 1)) σ hR
  refine sv_run (lw_ok X (cs := [(393, (2, .inl n_On_miss)), (402, (2, .inl n_Mo_miss))]) ?_) dl_5 (K := fun pc => sv_lk pc [(1385, lw_k i)]) (lw_Kok next) 60 387 (lw_lo i) [] σ ?_
  · exact List.forall_mem_cons.mpr ⟨(sv_cV X.1 X.2.2.2.1.1 (m_On_miss l) ⟨Nat.le_of_ble_eq_true rfl, Nat.le_of_ble_eq_true rfl⟩ (by decide) X.2.2.2.2.2.2 rfl (g_On_miss) (sv_w5 tw_485 tw_486 tw_487 tw_53 tw_488) (by decide +kernel) (sv_dc3 dl_5 (pc := 393) rfl rfl)).I, List.forall_mem_cons.mpr ⟨(sv_cV X.1 X.2.2.2.1.1 (m_Mo_miss l) ⟨Nat.le_of_ble_eq_true rfl, Nat.le_of_ble_eq_true rfl⟩ (by decide) X.2.2.2.2.2.2 rfl (g_Mo_miss) (sv_w5 tw_1192 tw_1193 tw_1194 tw_65 tw_1195) (by decide +kernel) (sv_dc3 dl_5 (pc := 402) rfl rfl)).I, fun _ h => absurd h List.not_mem_nil⟩⟩
  · rw [el_5, lw_rd1 hi hL, h1, pz_b, lw_rd1 hi hL, h2, pz_b, sv_if_t rfl]
    exact lw_k_t h3
def cl_6 : sv_C := [(410, (.aload_n 1, (sv_N, (411, (0, []))))), (411, (.aload_n 0, (sv_N, (412, (0, []))))), (412, (.iload_n 3, (sv_N, (413, (0, []))))), (413, (.iconst 1, (.inl (1 : Int32), (414, (0, []))))), (414, (.iadd, (sv_N, (415, (0, []))))), (415, (.iaload, (sv_N, (416, (0, []))))), (416, (.invokevirtual 40, (sv_N, (419, (0, []))))), (419, (.aload_n 2, (sv_N, (420, (0, []))))), (420, (.aload_n 0, (sv_N, (421, (0, []))))), (421, (.iload_n 3, (sv_N, (422, (0, []))))), (422, (.iconst 1, (.inl (1 : Int32), (423, (0, []))))), (423, (.iadd, (sv_N, (424, (0, []))))), (424, (.iaload, (sv_N, (425, (0, []))))), (425, (.invokevirtual 43, (sv_N, (428, (0, []))))), (428, (.if_icmp .eq 957, (sv_N, (431, (1385, []))))), (431, (.iconst 0, (.inl (0 : Int32), (432, (0, []))))), (432, (.ireturn, (sv_N, (433, (0, [])))))]
theorem dl_6 : cl_6.all (sv_dk code) = true := by decide +kernel
set_option maxRecDepth 20000 in
theorem el_6 (L : Nat) (xs : Nat → Int32) (i : Nat) (σ : sv_S) : sv_ex (lw_ev [(416, (2, .inl n_On_deal)), (425, (2, .inl n_Mo_deal))] L xs) lw_rt (fun pc => sv_lk pc [(1385, lw_k i)]) cl_6 60 410 (lw_lo i) [] σ = lw_rd L xs (nI i) 1 (fun x1 => sv_b (f_On_deal x1 σ) (fun v σ => lw_rd L xs (nI i) 1 (fun y1 => sv_b (f_Mo_deal y1 σ) (fun w σ => sv_if (v = w) (lw_k i (lw_lo i) [] σ) (lw_rt (.inl 0) σ))))) := by
  delta lw_ev n_On_deal n_Mo_deal lw_rd
  generalize f_On_deal = c0
  generalize f_Mo_deal = c1
  generalize lw_k i = c2
  generalize lw_rt = c3
  rfl
set_option maxRecDepth 20000 in
theorem la_6 (X : lw_X p s m meth c b L xs cells slots ad dC dI cA) {i : Nat} (hi : i + 6 ≤ L) (hL : L ≤ 384) {σ : sv_S} (hR : R_A σ) (next : ∀ υ, R_A υ → sv_T (lw_G p l e s m b below meth c cells slots ad dC dI cA n0) 1385 (lw_lo i) [] υ) : sv_T (lw_G p l e s m b below meth c cells slots ad dC dI cA n0) 410 (lw_lo i) [] σ := by
  obtain ⟨v, σ1, σ2, h1, h2, h3⟩ := R_deal (xs (i + 1)) σ hR
  refine sv_run (lw_ok X (cs := [(416, (2, .inl n_On_deal)), (425, (2, .inl n_Mo_deal))]) ?_) dl_6 (K := fun pc => sv_lk pc [(1385, lw_k i)]) (lw_Kok next) 60 410 (lw_lo i) [] σ ?_
  · exact List.forall_mem_cons.mpr ⟨(sv_cV X.1 X.2.2.2.1.1 (m_On_deal l) ⟨Nat.le_of_ble_eq_true rfl, Nat.le_of_ble_eq_true rfl⟩ (by decide) X.2.2.2.2.2.2 rfl (g_On_deal) (sv_w5 tw_489 tw_490 tw_491 tw_53 tw_492) (by decide +kernel) (sv_dc3 dl_6 (pc := 416) rfl rfl)).I, List.forall_mem_cons.mpr ⟨(sv_cV X.1 X.2.2.2.1.1 (m_Mo_deal l) ⟨Nat.le_of_ble_eq_true rfl, Nat.le_of_ble_eq_true rfl⟩ (by decide) X.2.2.2.2.2.2 rfl (g_Mo_deal) (sv_w5 tw_1197 tw_1198 tw_1199 tw_65 tw_1200) (by decide +kernel) (sv_dc3 dl_6 (pc := 425) rfl rfl)).I, fun _ h => absurd h List.not_mem_nil⟩⟩
  · rw [el_6, lw_rd1 hi hL, h1, pz_b, lw_rd1 hi hL, h2, pz_b, sv_if_t rfl]
    exact lw_k_t h3
def cl_7 : sv_C := [(433, (.aload_n 1, (sv_N, (434, (0, []))))), (434, (.aload_n 0, (sv_N, (435, (0, []))))), (435, (.iload_n 3, (sv_N, (436, (0, []))))), (436, (.iconst 1, (.inl (1 : Int32), (437, (0, []))))), (437, (.iadd, (sv_N, (438, (0, []))))), (438, (.iaload, (sv_N, (439, (0, []))))), (439, (.invokevirtual 44, (sv_N, (442, (0, []))))), (442, (.aload_n 2, (sv_N, (443, (0, []))))), (443, (.aload_n 0, (sv_N, (444, (0, []))))), (444, (.iload_n 3, (sv_N, (445, (0, []))))), (445, (.iconst 1, (.inl (1 : Int32), (446, (0, []))))), (446, (.iadd, (sv_N, (447, (0, []))))), (447, (.iaload, (sv_N, (448, (0, []))))), (448, (.invokevirtual 47, (sv_N, (451, (0, []))))), (451, (.if_icmp .eq 934, (sv_N, (454, (1385, []))))), (454, (.iconst 0, (.inl (0 : Int32), (455, (0, []))))), (455, (.ireturn, (sv_N, (456, (0, [])))))]
theorem dl_7 : cl_7.all (sv_dk code) = true := by decide +kernel
set_option maxRecDepth 20000 in
theorem el_7 (L : Nat) (xs : Nat → Int32) (i : Nat) (σ : sv_S) : sv_ex (lw_ev [(439, (2, .inl n_On_seed)), (448, (2, .inl n_Mo_seed))] L xs) lw_rt (fun pc => sv_lk pc [(1385, lw_k i)]) cl_7 60 433 (lw_lo i) [] σ = lw_rd L xs (nI i) 1 (fun x1 => sv_b (f_On_seed x1 σ) (fun v σ => lw_rd L xs (nI i) 1 (fun y1 => sv_b (f_Mo_seed y1 σ) (fun w σ => sv_if (v = w) (lw_k i (lw_lo i) [] σ) (lw_rt (.inl 0) σ))))) := by
  delta lw_ev n_On_seed n_Mo_seed lw_rd
  generalize f_On_seed = c0
  generalize f_Mo_seed = c1
  generalize lw_k i = c2
  generalize lw_rt = c3
  rfl
set_option maxRecDepth 20000 in
theorem la_7 (X : lw_X p s m meth c b L xs cells slots ad dC dI cA) {i : Nat} (hi : i + 6 ≤ L) (hL : L ≤ 384) {σ : sv_S} (hR : R_A σ) (next : ∀ υ, R_A υ → sv_T (lw_G p l e s m b below meth c cells slots ad dC dI cA n0) 1385 (lw_lo i) [] υ) : sv_T (lw_G p l e s m b below meth c cells slots ad dC dI cA n0) 433 (lw_lo i) [] σ := by
  obtain ⟨v, σ1, σ2, h1, h2, h3⟩ := R_seed (xs (i + 1)) σ hR
  refine sv_run (lw_ok X (cs := [(439, (2, .inl n_On_seed)), (448, (2, .inl n_Mo_seed))]) ?_) dl_7 (K := fun pc => sv_lk pc [(1385, lw_k i)]) (lw_Kok next) 60 433 (lw_lo i) [] σ ?_
  · exact List.forall_mem_cons.mpr ⟨(sv_cV X.1 X.2.2.2.1.1 (m_On_seed l) ⟨Nat.le_of_ble_eq_true rfl, Nat.le_of_ble_eq_true rfl⟩ (by decide) X.2.2.2.2.2.2 rfl (g_On_seed) (sv_w5 tw_498 tw_499 tw_500 tw_53 tw_501) (by decide +kernel) (sv_dc3 dl_7 (pc := 439) rfl rfl)).I, List.forall_mem_cons.mpr ⟨(sv_cV X.1 X.2.2.2.1.1 (m_Mo_seed l) ⟨Nat.le_of_ble_eq_true rfl, Nat.le_of_ble_eq_true rfl⟩ (by decide) X.2.2.2.2.2.2 rfl (g_Mo_seed) (sv_w5 tw_1207 tw_1208 tw_1209 tw_65 tw_1210) (by decide +kernel) (sv_dc3 dl_7 (pc := 448) rfl rfl)).I, fun _ h => absurd h List.not_mem_nil⟩⟩
  · rw [el_7, lw_rd1 hi hL, h1, pz_b, lw_rd1 hi hL, h2, pz_b, sv_if_t rfl]
    exact lw_k_t h3
def cl_8 : sv_C := [(456, (.aload_n 1, (sv_N, (457, (0, []))))), (457, (.aload_n 0, (sv_N, (458, (0, []))))), (458, (.iload_n 3, (sv_N, (459, (0, []))))), (459, (.iconst 1, (.inl (1 : Int32), (460, (0, []))))), (460, (.iadd, (sv_N, (461, (0, []))))), (461, (.iaload, (sv_N, (462, (0, []))))), (462, (.invokevirtual 48, (sv_N, (465, (0, []))))), (465, (.aload_n 2, (sv_N, (466, (0, []))))), (466, (.aload_n 0, (sv_N, (467, (0, []))))), (467, (.iload_n 3, (sv_N, (468, (0, []))))), (468, (.iconst 1, (.inl (1 : Int32), (469, (0, []))))), (469, (.iadd, (sv_N, (470, (0, []))))), (470, (.iaload, (sv_N, (471, (0, []))))), (471, (.invokevirtual 51, (sv_N, (474, (0, []))))), (474, (.if_icmp .eq 911, (sv_N, (477, (1385, []))))), (477, (.iconst 0, (.inl (0 : Int32), (478, (0, []))))), (478, (.ireturn, (sv_N, (479, (0, [])))))]
theorem dl_8 : cl_8.all (sv_dk code) = true := by decide +kernel
set_option maxRecDepth 20000 in
theorem el_8 (L : Nat) (xs : Nat → Int32) (i : Nat) (σ : sv_S) : sv_ex (lw_ev [(462, (2, .inl n_On_order)), (471, (2, .inl n_Mo_order))] L xs) lw_rt (fun pc => sv_lk pc [(1385, lw_k i)]) cl_8 60 456 (lw_lo i) [] σ = lw_rd L xs (nI i) 1 (fun x1 => sv_b (f_On_order x1 σ) (fun v σ => lw_rd L xs (nI i) 1 (fun y1 => sv_b (f_Mo_order y1 σ) (fun w σ => sv_if (v = w) (lw_k i (lw_lo i) [] σ) (lw_rt (.inl 0) σ))))) := by
  delta lw_ev n_On_order n_Mo_order lw_rd
  generalize f_On_order = c0
  generalize f_Mo_order = c1
  generalize lw_k i = c2
  generalize lw_rt = c3
  rfl
set_option maxRecDepth 20000 in
theorem la_8 (X : lw_X p s m meth c b L xs cells slots ad dC dI cA) {i : Nat} (hi : i + 6 ≤ L) (hL : L ≤ 384) {σ : sv_S} (hR : R_A σ) (next : ∀ υ, R_A υ → sv_T (lw_G p l e s m b below meth c cells slots ad dC dI cA n0) 1385 (lw_lo i) [] υ) : sv_T (lw_G p l e s m b below meth c cells slots ad dC dI cA n0) 456 (lw_lo i) [] σ := by
  obtain ⟨v, σ1, σ2, h1, h2, h3⟩ := R_order (xs (i + 1)) σ hR
  refine sv_run (lw_ok X (cs := [(462, (2, .inl n_On_order)), (471, (2, .inl n_Mo_order))]) ?_) dl_8 (K := fun pc => sv_lk pc [(1385, lw_k i)]) (lw_Kok next) 60 456 (lw_lo i) [] σ ?_
  · exact List.forall_mem_cons.mpr ⟨(sv_cV X.1 X.2.2.2.1.1 (m_On_order l) ⟨Nat.le_of_ble_eq_true rfl, Nat.le_of_ble_eq_true rfl⟩ (by decide) X.2.2.2.2.2.2 rfl (g_On_order) (sv_w5 tw_502 tw_503 tw_504 tw_53 tw_505) (by decide +kernel) (sv_dc3 dl_8 (pc := 462) rfl rfl)).I, List.forall_mem_cons.mpr ⟨(sv_cV X.1 X.2.2.2.1.1 (m_Mo_order l) ⟨Nat.le_of_ble_eq_true rfl, Nat.le_of_ble_eq_true rfl⟩ (by decide) X.2.2.2.2.2.2 rfl (g_Mo_order) (sv_w5 tw_1211 tw_1212 tw_1213 tw_65 tw_1214) (by decide +kernel) (sv_dc3 dl_8 (pc := 471) rfl rfl)).I, fun _ h => absurd h List.not_mem_nil⟩⟩
  · rw [el_8, lw_rd1 hi hL, h1, pz_b, lw_rd1 hi hL, h2, pz_b, sv_if_t rfl]
    exact lw_k_t h3
def cl_9 : sv_C := [(479, (.aload_n 1, (sv_N, (480, (0, []))))), (480, (.invokevirtual 52, (sv_N, (483, (0, []))))), (483, (.aload_n 2, (sv_N, (484, (0, []))))), (484, (.invokevirtual 56, (sv_N, (487, (0, []))))), (487, (.if_icmp .eq 898, (sv_N, (490, (1385, []))))), (490, (.iconst 0, (.inl (0 : Int32), (491, (0, []))))), (491, (.ireturn, (sv_N, (492, (0, [])))))]
theorem dl_9 : cl_9.all (sv_dk code) = true := by decide +kernel
set_option maxRecDepth 20000 in
theorem el_9 (L : Nat) (xs : Nat → Int32) (i : Nat) (σ : sv_S) : sv_ex (lw_ev [(480, (1, .inl n_On_hush)), (484, (1, .inl n_Mo_hush))] L xs) lw_rt (fun pc => sv_lk pc [(1385, lw_k i)]) cl_9 60 479 (lw_lo i) [] σ = sv_b (f_On_hush σ) (fun v σ => sv_b (f_Mo_hush σ) (fun w σ => sv_if (v = w) (lw_k i (lw_lo i) [] σ) (lw_rt (.inl 0) σ))) := by
  delta lw_ev n_On_hush n_Mo_hush lw_rd
  generalize f_On_hush = c0
  generalize f_Mo_hush = c1
  generalize lw_k i = c2
  generalize lw_rt = c3
  rfl
set_option maxRecDepth 20000 in
theorem la_9 (X : lw_X p s m meth c b L xs cells slots ad dC dI cA) {i : Nat} (hi : i + 6 ≤ L) (hL : L ≤ 384) {σ : sv_S} (hR : R_A σ) (next : ∀ υ, R_A υ → sv_T (lw_G p l e s m b below meth c cells slots ad dC dI cA n0) 1385 (lw_lo i) [] υ) : sv_T (lw_G p l e s m b below meth c cells slots ad dC dI cA n0) 479 (lw_lo i) [] σ := by
  obtain ⟨v, σ1, σ2, h1, h2, h3⟩ := R_hush σ hR
  refine sv_run (lw_ok X (cs := [(480, (1, .inl n_On_hush)), (484, (1, .inl n_Mo_hush))]) ?_) dl_9 (K := fun pc => sv_lk pc [(1385, lw_k i)]) (lw_Kok next) 60 479 (lw_lo i) [] σ ?_
  · exact List.forall_mem_cons.mpr ⟨(sv_cV X.1 X.2.2.2.1.1 (m_On_hush l) ⟨Nat.le_of_ble_eq_true rfl, Nat.le_of_ble_eq_true rfl⟩ (by decide) X.2.2.2.2.2.2 rfl (g_On_hush) (sv_w5 tw_512 tw_513 tw_514 tw_53 tw_515) (by decide +kernel) (sv_dc3 dl_9 (pc := 480) rfl rfl)).I, List.forall_mem_cons.mpr ⟨(sv_cV X.1 X.2.2.2.1.1 (m_Mo_hush l) ⟨Nat.le_of_ble_eq_true rfl, Nat.le_of_ble_eq_true rfl⟩ (by decide) X.2.2.2.2.2.2 rfl (g_Mo_hush) (sv_w5 tw_1224 tw_1225 tw_1226 tw_65 tw_1227) (by decide +kernel) (sv_dc3 dl_9 (pc := 484) rfl rfl)).I, fun _ h => absurd h List.not_mem_nil⟩⟩
  · rw [el_9, h1, pz_b, h2, pz_b, sv_if_t rfl]
    exact lw_k_t h3
def cl_10 : sv_C := [(492, (.aload_n 1, (sv_N, (493, (0, []))))), (493, (.aload_n 0, (sv_N, (494, (0, []))))), (494, (.iload_n 3, (sv_N, (495, (0, []))))), (495, (.iconst 1, (.inl (1 : Int32), (496, (0, []))))), (496, (.iadd, (sv_N, (497, (0, []))))), (497, (.iaload, (sv_N, (498, (0, []))))), (498, (.invokevirtual 57, (sv_N, (501, (0, []))))), (501, (.aload_n 2, (sv_N, (502, (0, []))))), (502, (.aload_n 0, (sv_N, (503, (0, []))))), (503, (.iload_n 3, (sv_N, (504, (0, []))))), (504, (.iconst 1, (.inl (1 : Int32), (505, (0, []))))), (505, (.iadd, (sv_N, (506, (0, []))))), (506, (.iaload, (sv_N, (507, (0, []))))), (507, (.invokevirtual 60, (sv_N, (510, (0, []))))), (510, (.if_icmp .eq 875, (sv_N, (513, (1385, []))))), (513, (.iconst 0, (.inl (0 : Int32), (514, (0, []))))), (514, (.ireturn, (sv_N, (515, (0, [])))))]
theorem dl_10 : cl_10.all (sv_dk code) = true := by decide +kernel
set_option maxRecDepth 20000 in
theorem el_10 (L : Nat) (xs : Nat → Int32) (i : Nat) (σ : sv_S) : sv_ex (lw_ev [(498, (2, .inl n_On_beats)), (507, (2, .inl n_Mo_beats))] L xs) lw_rt (fun pc => sv_lk pc [(1385, lw_k i)]) cl_10 60 492 (lw_lo i) [] σ = lw_rd L xs (nI i) 1 (fun x1 => sv_b (f_On_beats x1 σ) (fun v σ => lw_rd L xs (nI i) 1 (fun y1 => sv_b (f_Mo_beats y1 σ) (fun w σ => sv_if (v = w) (lw_k i (lw_lo i) [] σ) (lw_rt (.inl 0) σ))))) := by
  delta lw_ev n_On_beats n_Mo_beats lw_rd
  generalize f_On_beats = c0
  generalize f_Mo_beats = c1
  generalize lw_k i = c2
  generalize lw_rt = c3
  rfl
set_option maxRecDepth 20000 in
theorem la_10 (X : lw_X p s m meth c b L xs cells slots ad dC dI cA) {i : Nat} (hi : i + 6 ≤ L) (hL : L ≤ 384) {σ : sv_S} (hR : R_A σ) (next : ∀ υ, R_A υ → sv_T (lw_G p l e s m b below meth c cells slots ad dC dI cA n0) 1385 (lw_lo i) [] υ) : sv_T (lw_G p l e s m b below meth c cells slots ad dC dI cA n0) 492 (lw_lo i) [] σ := by
  obtain ⟨v, σ1, σ2, h1, h2, h3⟩ := R_beats (xs (i + 1)) σ hR
  refine sv_run (lw_ok X (cs := [(498, (2, .inl n_On_beats)), (507, (2, .inl n_Mo_beats))]) ?_) dl_10 (K := fun pc => sv_lk pc [(1385, lw_k i)]) (lw_Kok next) 60 492 (lw_lo i) [] σ ?_
  · exact List.forall_mem_cons.mpr ⟨(sv_cV X.1 X.2.2.2.1.1 (m_On_beats l) ⟨Nat.le_of_ble_eq_true rfl, Nat.le_of_ble_eq_true rfl⟩ (by decide) X.2.2.2.2.2.2 rfl (g_On_beats) (sv_w5 tw_521 tw_522 tw_523 tw_53 tw_524) (by decide +kernel) (sv_dc3 dl_10 (pc := 498) rfl rfl)).I, List.forall_mem_cons.mpr ⟨(sv_cV X.1 X.2.2.2.1.1 (m_Mo_beats l) ⟨Nat.le_of_ble_eq_true rfl, Nat.le_of_ble_eq_true rfl⟩ (by decide) X.2.2.2.2.2.2 rfl (g_Mo_beats) (sv_w5 tw_1228 tw_1229 tw_1230 tw_65 tw_1231) (by decide +kernel) (sv_dc3 dl_10 (pc := 507) rfl rfl)).I, fun _ h => absurd h List.not_mem_nil⟩⟩
  · rw [el_10, lw_rd1 hi hL, h1, pz_b, lw_rd1 hi hL, h2, pz_b, sv_if_t rfl]
    exact lw_k_t h3
def cl_11 : sv_C := [(515, (.aload_n 1, (sv_N, (516, (0, []))))), (516, (.aload_n 0, (sv_N, (517, (0, []))))), (517, (.iload_n 3, (sv_N, (518, (0, []))))), (518, (.iconst 1, (.inl (1 : Int32), (519, (0, []))))), (519, (.iadd, (sv_N, (520, (0, []))))), (520, (.iaload, (sv_N, (521, (0, []))))), (521, (.aload_n 0, (sv_N, (522, (0, []))))), (522, (.iload_n 3, (sv_N, (523, (0, []))))), (523, (.iconst 2, (.inl (2 : Int32), (524, (0, []))))), (524, (.iadd, (sv_N, (525, (0, []))))), (525, (.iaload, (sv_N, (526, (0, []))))), (526, (.aload_n 0, (sv_N, (527, (0, []))))), (527, (.iload_n 3, (sv_N, (528, (0, []))))), (528, (.iconst 3, (.inl (3 : Int32), (529, (0, []))))), (529, (.iadd, (sv_N, (530, (0, []))))), (530, (.iaload, (sv_N, (531, (0, []))))), (531, (.invokevirtual 61, (sv_N, (534, (0, []))))), (534, (.aload_n 2, (sv_N, (535, (0, []))))), (535, (.aload_n 0, (sv_N, (536, (0, []))))), (536, (.iload_n 3, (sv_N, (537, (0, []))))), (537, (.iconst 1, (.inl (1 : Int32), (538, (0, []))))), (538, (.iadd, (sv_N, (539, (0, []))))), (539, (.iaload, (sv_N, (540, (0, []))))), (540, (.aload_n 0, (sv_N, (541, (0, []))))), (541, (.iload_n 3, (sv_N, (542, (0, []))))), (542, (.iconst 2, (.inl (2 : Int32), (543, (0, []))))), (543, (.iadd, (sv_N, (544, (0, []))))), (544, (.iaload, (sv_N, (545, (0, []))))), (545, (.aload_n 0, (sv_N, (546, (0, []))))), (546, (.iload_n 3, (sv_N, (547, (0, []))))), (547, (.iconst 3, (.inl (3 : Int32), (548, (0, []))))), (548, (.iadd, (sv_N, (549, (0, []))))), (549, (.iaload, (sv_N, (550, (0, []))))), (550, (.invokevirtual 64, (sv_N, (553, (0, []))))), (553, (.if_icmp .eq 832, (sv_N, (556, (1385, []))))), (556, (.iconst 0, (.inl (0 : Int32), (557, (0, []))))), (557, (.ireturn, (sv_N, (558, (0, [])))))]
theorem dl_11 : cl_11.all (sv_dk code) = true := by decide +kernel
set_option maxRecDepth 20000 in
theorem el_11 (L : Nat) (xs : Nat → Int32) (i : Nat) (σ : sv_S) : sv_ex (lw_ev [(531, (4, .inl n_On_behind)), (550, (4, .inl n_Mo_behind))] L xs) lw_rt (fun pc => sv_lk pc [(1385, lw_k i)]) cl_11 60 515 (lw_lo i) [] σ = lw_rd L xs (nI i) 1 (fun x1 => lw_rd L xs (nI i) 2 (fun x2 => lw_rd L xs (nI i) 3 (fun x3 => sv_b (f_On_behind x1 x2 x3 σ) (fun v σ => lw_rd L xs (nI i) 1 (fun y1 => lw_rd L xs (nI i) 2 (fun y2 => lw_rd L xs (nI i) 3 (fun y3 => sv_b (f_Mo_behind y1 y2 y3 σ) (fun w σ => sv_if (v = w) (lw_k i (lw_lo i) [] σ) (lw_rt (.inl 0) σ))))))))) := by
  delta lw_ev n_On_behind n_Mo_behind lw_rd
  generalize f_On_behind = c0
  generalize f_Mo_behind = c1
  generalize lw_k i = c2
  generalize lw_rt = c3
  rfl
set_option maxRecDepth 20000 in
theorem la_11 (X : lw_X p s m meth c b L xs cells slots ad dC dI cA) {i : Nat} (hi : i + 6 ≤ L) (hL : L ≤ 384) {σ : sv_S} (hR : R_A σ) (next : ∀ υ, R_A υ → sv_T (lw_G p l e s m b below meth c cells slots ad dC dI cA n0) 1385 (lw_lo i) [] υ) : sv_T (lw_G p l e s m b below meth c cells slots ad dC dI cA n0) 515 (lw_lo i) [] σ := by
  obtain ⟨v, σ1, σ2, h1, h2, h3⟩ := R_behind (xs (i + 1)) (xs (i + 2)) (xs (i + 3)) σ hR
  refine sv_run (lw_ok X (cs := [(531, (4, .inl n_On_behind)), (550, (4, .inl n_Mo_behind))]) ?_) dl_11 (K := fun pc => sv_lk pc [(1385, lw_k i)]) (lw_Kok next) 60 515 (lw_lo i) [] σ ?_
  · exact List.forall_mem_cons.mpr ⟨(sv_cV X.1 X.2.2.2.1.1 (m_On_behind l) ⟨Nat.le_of_ble_eq_true rfl, Nat.le_of_ble_eq_true rfl⟩ (by decide) X.2.2.2.2.2.2 rfl (g_On_behind) (sv_w5 tw_544 tw_545 tw_546 tw_53 tw_547) (by decide +kernel) (sv_dc3 dl_11 (pc := 531) rfl rfl)).I, List.forall_mem_cons.mpr ⟨(sv_cV X.1 X.2.2.2.1.1 (m_Mo_behind l) ⟨Nat.le_of_ble_eq_true rfl, Nat.le_of_ble_eq_true rfl⟩ (by decide) X.2.2.2.2.2.2 rfl (g_Mo_behind) (sv_w5 tw_1239 tw_1240 tw_1241 tw_65 tw_1242) (by decide +kernel) (sv_dc3 dl_11 (pc := 550) rfl rfl)).I, fun _ h => absurd h List.not_mem_nil⟩⟩
  · rw [el_11, lw_rd1 hi hL, lw_rd2 hi hL, lw_rd3 hi hL, h1, pz_b, lw_rd1 hi hL, lw_rd2 hi hL, lw_rd3 hi hL, h2, pz_b, sv_if_t rfl]
    exact lw_k_t h3
def cl_12 : sv_C := [(558, (.aload_n 1, (sv_N, (559, (0, []))))), (559, (.invokevirtual 65, (sv_N, (562, (0, []))))), (562, (.aload_n 2, (sv_N, (563, (0, []))))), (563, (.invokevirtual 68, (sv_N, (566, (0, []))))), (566, (.if_icmp .eq 819, (sv_N, (569, (1385, []))))), (569, (.iconst 0, (.inl (0 : Int32), (570, (0, []))))), (570, (.ireturn, (sv_N, (571, (0, [])))))]
theorem dl_12 : cl_12.all (sv_dk code) = true := by decide +kernel
set_option maxRecDepth 20000 in
theorem el_12 (L : Nat) (xs : Nat → Int32) (i : Nat) (σ : sv_S) : sv_ex (lw_ev [(559, (1, .inl n_On_soon)), (563, (1, .inl n_Mo_soon))] L xs) lw_rt (fun pc => sv_lk pc [(1385, lw_k i)]) cl_12 60 558 (lw_lo i) [] σ = sv_b (f_On_soon σ) (fun v σ => sv_b (f_Mo_soon σ) (fun w σ => sv_if (v = w) (lw_k i (lw_lo i) [] σ) (lw_rt (.inl 0) σ))) := by
  delta lw_ev n_On_soon n_Mo_soon lw_rd
  generalize f_On_soon = c0
  generalize f_Mo_soon = c1
  generalize lw_k i = c2
  generalize lw_rt = c3
  rfl
set_option maxRecDepth 20000 in
theorem la_12 (X : lw_X p s m meth c b L xs cells slots ad dC dI cA) {i : Nat} (hi : i + 6 ≤ L) (hL : L ≤ 384) {σ : sv_S} (hR : R_A σ) (next : ∀ υ, R_A υ → sv_T (lw_G p l e s m b below meth c cells slots ad dC dI cA n0) 1385 (lw_lo i) [] υ) : sv_T (lw_G p l e s m b below meth c cells slots ad dC dI cA n0) 558 (lw_lo i) [] σ := by
  obtain ⟨v, σ1, σ2, h1, h2, h3⟩ := R_soon σ hR
  refine sv_run (lw_ok X (cs := [(559, (1, .inl n_On_soon)), (563, (1, .inl n_Mo_soon))]) ?_) dl_12 (K := fun pc => sv_lk pc [(1385, lw_k i)]) (lw_Kok next) 60 558 (lw_lo i) [] σ ?_
  · exact List.forall_mem_cons.mpr ⟨(sv_cV X.1 X.2.2.2.1.1 (m_On_soon l) ⟨Nat.le_of_ble_eq_true rfl, Nat.le_of_ble_eq_true rfl⟩ (by decide) X.2.2.2.2.2.2 rfl (g_On_soon) (sv_w5 tw_564 tw_565 tw_566 tw_53 tw_567) (by decide +kernel) (sv_dc3 dl_12 (pc := 559) rfl rfl)).I, List.forall_mem_cons.mpr ⟨(sv_cV X.1 X.2.2.2.1.1 (m_Mo_soon l) ⟨Nat.le_of_ble_eq_true rfl, Nat.le_of_ble_eq_true rfl⟩ (by decide) X.2.2.2.2.2.2 rfl (g_Mo_soon) (sv_w5 tw_1252 tw_1253 tw_1254 tw_65 tw_1255) (by decide +kernel) (sv_dc3 dl_12 (pc := 563) rfl rfl)).I, fun _ h => absurd h List.not_mem_nil⟩⟩
  · rw [el_12, h1, pz_b, h2, pz_b, sv_if_t rfl]
    exact lw_k_t h3
def cl_13 : sv_C := [(571, (.aload_n 1, (sv_N, (572, (0, []))))), (572, (.invokevirtual 69, (sv_N, (575, (0, []))))), (575, (.aload_n 2, (sv_N, (576, (0, []))))), (576, (.invokevirtual 72, (sv_N, (579, (0, []))))), (579, (.if_icmp .eq 806, (sv_N, (582, (1385, []))))), (582, (.iconst 0, (.inl (0 : Int32), (583, (0, []))))), (583, (.ireturn, (sv_N, (584, (0, [])))))]
theorem dl_13 : cl_13.all (sv_dk code) = true := by decide +kernel
set_option maxRecDepth 20000 in
theorem el_13 (L : Nat) (xs : Nat → Int32) (i : Nat) (σ : sv_S) : sv_ex (lw_ev [(572, (1, .inl n_On_all)), (576, (1, .inl n_Mo_all))] L xs) lw_rt (fun pc => sv_lk pc [(1385, lw_k i)]) cl_13 60 571 (lw_lo i) [] σ = sv_b (f_On_all σ) (fun v σ => sv_b (f_Mo_all σ) (fun w σ => sv_if (v = w) (lw_k i (lw_lo i) [] σ) (lw_rt (.inl 0) σ))) := by
  delta lw_ev n_On_all n_Mo_all lw_rd
  generalize f_On_all = c0
  generalize f_Mo_all = c1
  generalize lw_k i = c2
  generalize lw_rt = c3
  rfl
set_option maxRecDepth 20000 in
theorem la_13 (X : lw_X p s m meth c b L xs cells slots ad dC dI cA) {i : Nat} (hi : i + 6 ≤ L) (hL : L ≤ 384) {σ : sv_S} (hR : R_A σ) (next : ∀ υ, R_A υ → sv_T (lw_G p l e s m b below meth c cells slots ad dC dI cA n0) 1385 (lw_lo i) [] υ) : sv_T (lw_G p l e s m b below meth c cells slots ad dC dI cA n0) 571 (lw_lo i) [] σ := by
  obtain ⟨v, σ1, σ2, h1, h2, h3⟩ := R_all σ hR
  refine sv_run (lw_ok X (cs := [(572, (1, .inl n_On_all)), (576, (1, .inl n_Mo_all))]) ?_) dl_13 (K := fun pc => sv_lk pc [(1385, lw_k i)]) (lw_Kok next) 60 571 (lw_lo i) [] σ ?_
  · exact List.forall_mem_cons.mpr ⟨(sv_cV X.1 X.2.2.2.1.1 (m_On_all l) ⟨Nat.le_of_ble_eq_true rfl, Nat.le_of_ble_eq_true rfl⟩ (by decide) X.2.2.2.2.2.2 rfl (g_On_all) (sv_w5 tw_573 tw_574 tw_575 tw_53 tw_576) (by decide +kernel) (sv_dc3 dl_13 (pc := 572) rfl rfl)).I, List.forall_mem_cons.mpr ⟨(sv_cV X.1 X.2.2.2.1.1 (m_Mo_all l) ⟨Nat.le_of_ble_eq_true rfl, Nat.le_of_ble_eq_true rfl⟩ (by decide) X.2.2.2.2.2.2 rfl (g_Mo_all) (sv_w5 tw_1263 tw_1264 tw_1265 tw_65 tw_1266) (by decide +kernel) (sv_dc3 dl_13 (pc := 576) rfl rfl)).I, fun _ h => absurd h List.not_mem_nil⟩⟩
  · rw [el_13, h1, pz_b, h2, pz_b, sv_if_t rfl]
    exact lw_k_t h3
def cl_14 : sv_C := [(584, (.aload_n 1, (sv_N, (585, (0, []))))), (585, (.aload_n 0, (sv_N, (586, (0, []))))), (586, (.iload_n 3, (sv_N, (587, (0, []))))), (587, (.iconst 1, (.inl (1 : Int32), (588, (0, []))))), (588, (.iadd, (sv_N, (589, (0, []))))), (589, (.iaload, (sv_N, (590, (0, []))))), (590, (.invokevirtual 73, (sv_N, (593, (0, []))))), (593, (.aload_n 2, (sv_N, (594, (0, []))))), (594, (.aload_n 0, (sv_N, (595, (0, []))))), (595, (.iload_n 3, (sv_N, (596, (0, []))))), (596, (.iconst 1, (.inl (1 : Int32), (597, (0, []))))), (597, (.iadd, (sv_N, (598, (0, []))))), (598, (.iaload, (sv_N, (599, (0, []))))), (599, (.invokevirtual 76, (sv_N, (602, (0, []))))), (602, (.if_icmp .eq 783, (sv_N, (605, (1385, []))))), (605, (.iconst 0, (.inl (0 : Int32), (606, (0, []))))), (606, (.ireturn, (sv_N, (607, (0, [])))))]
theorem dl_14 : cl_14.all (sv_dk code) = true := by decide +kernel
set_option maxRecDepth 20000 in
theorem el_14 (L : Nat) (xs : Nat → Int32) (i : Nat) (σ : sv_S) : sv_ex (lw_ev [(590, (2, .inl n_On_spread)), (599, (2, .inl n_Mo_spread))] L xs) lw_rt (fun pc => sv_lk pc [(1385, lw_k i)]) cl_14 60 584 (lw_lo i) [] σ = lw_rd L xs (nI i) 1 (fun x1 => sv_b (f_On_spread x1 σ) (fun v σ => lw_rd L xs (nI i) 1 (fun y1 => sv_b (f_Mo_spread y1 σ) (fun w σ => sv_if (v = w) (lw_k i (lw_lo i) [] σ) (lw_rt (.inl 0) σ))))) := by
  delta lw_ev n_On_spread n_Mo_spread lw_rd
  generalize f_On_spread = c0
  generalize f_Mo_spread = c1
  generalize lw_k i = c2
  generalize lw_rt = c3
  rfl
set_option maxRecDepth 20000 in
theorem la_14 (X : lw_X p s m meth c b L xs cells slots ad dC dI cA) {i : Nat} (hi : i + 6 ≤ L) (hL : L ≤ 384) {σ : sv_S} (hR : R_A σ) (next : ∀ υ, R_A υ → sv_T (lw_G p l e s m b below meth c cells slots ad dC dI cA n0) 1385 (lw_lo i) [] υ) : sv_T (lw_G p l e s m b below meth c cells slots ad dC dI cA n0) 584 (lw_lo i) [] σ := by
  obtain ⟨v, σ1, σ2, h1, h2, h3⟩ := R_spread (xs (i + 1)) σ hR
  refine sv_run (lw_ok X (cs := [(590, (2, .inl n_On_spread)), (599, (2, .inl n_Mo_spread))]) ?_) dl_14 (K := fun pc => sv_lk pc [(1385, lw_k i)]) (lw_Kok next) 60 584 (lw_lo i) [] σ ?_
  · exact List.forall_mem_cons.mpr ⟨(sv_cV X.1 X.2.2.2.1.1 (m_On_spread l) ⟨Nat.le_of_ble_eq_true rfl, Nat.le_of_ble_eq_true rfl⟩ (by decide) X.2.2.2.2.2.2 rfl (g_On_spread) (sv_w5 tw_577 tw_578 tw_579 tw_53 tw_580) (by decide +kernel) (sv_dc3 dl_14 (pc := 590) rfl rfl)).I, List.forall_mem_cons.mpr ⟨(sv_cV X.1 X.2.2.2.1.1 (m_Mo_spread l) ⟨Nat.le_of_ble_eq_true rfl, Nat.le_of_ble_eq_true rfl⟩ (by decide) X.2.2.2.2.2.2 rfl (g_Mo_spread) (sv_w5 tw_1267 tw_1268 tw_1269 tw_65 tw_1270) (by decide +kernel) (sv_dc3 dl_14 (pc := 599) rfl rfl)).I, fun _ h => absurd h List.not_mem_nil⟩⟩
  · rw [el_14, lw_rd1 hi hL, h1, pz_b, lw_rd1 hi hL, h2, pz_b, sv_if_t rfl]
    exact lw_k_t h3
def cl_15 : sv_C := [(607, (.aload_n 1, (sv_N, (608, (0, []))))), (608, (.aload_n 0, (sv_N, (609, (0, []))))), (609, (.iload_n 3, (sv_N, (610, (0, []))))), (610, (.iconst 1, (.inl (1 : Int32), (611, (0, []))))), (611, (.iadd, (sv_N, (612, (0, []))))), (612, (.iaload, (sv_N, (613, (0, []))))), (613, (.invokevirtual 77, (sv_N, (616, (0, []))))), (616, (.aload_n 2, (sv_N, (617, (0, []))))), (617, (.aload_n 0, (sv_N, (618, (0, []))))), (618, (.iload_n 3, (sv_N, (619, (0, []))))), (619, (.iconst 1, (.inl (1 : Int32), (620, (0, []))))), (620, (.iadd, (sv_N, (621, (0, []))))), (621, (.iaload, (sv_N, (622, (0, []))))), (622, (.invokevirtual 80, (sv_N, (625, (0, []))))), (625, (.if_icmp .eq 760, (sv_N, (628, (1385, []))))), (628, (.iconst 0, (.inl (0 : Int32), (629, (0, []))))), (629, (.ireturn, (sv_N, (630, (0, [])))))]
theorem dl_15 : cl_15.all (sv_dk code) = true := by decide +kernel
set_option maxRecDepth 20000 in
theorem el_15 (L : Nat) (xs : Nat → Int32) (i : Nat) (σ : sv_S) : sv_ex (lw_ev [(613, (2, .inl n_On_toWhom)), (622, (2, .inl n_Mo_toWhom))] L xs) lw_rt (fun pc => sv_lk pc [(1385, lw_k i)]) cl_15 60 607 (lw_lo i) [] σ = lw_rd L xs (nI i) 1 (fun x1 => sv_b (f_On_toWhom x1 σ) (fun v σ => lw_rd L xs (nI i) 1 (fun y1 => sv_b (f_Mo_toWhom y1 σ) (fun w σ => sv_if (v = w) (lw_k i (lw_lo i) [] σ) (lw_rt (.inl 0) σ))))) := by
  delta lw_ev n_On_toWhom n_Mo_toWhom lw_rd
  generalize f_On_toWhom = c0
  generalize f_Mo_toWhom = c1
  generalize lw_k i = c2
  generalize lw_rt = c3
  rfl
set_option maxRecDepth 20000 in
theorem la_15 (X : lw_X p s m meth c b L xs cells slots ad dC dI cA) {i : Nat} (hi : i + 6 ≤ L) (hL : L ≤ 384) {σ : sv_S} (hR : R_A σ) (next : ∀ υ, R_A υ → sv_T (lw_G p l e s m b below meth c cells slots ad dC dI cA n0) 1385 (lw_lo i) [] υ) : sv_T (lw_G p l e s m b below meth c cells slots ad dC dI cA n0) 607 (lw_lo i) [] σ := by
  obtain ⟨v, σ1, σ2, h1, h2, h3⟩ := R_toWhom (xs (i + 1)) σ hR
  refine sv_run (lw_ok X (cs := [(613, (2, .inl n_On_toWhom)), (622, (2, .inl n_Mo_toWhom))]) ?_) dl_15 (K := fun pc => sv_lk pc [(1385, lw_k i)]) (lw_Kok next) 60 607 (lw_lo i) [] σ ?_
  · exact List.forall_mem_cons.mpr ⟨(sv_cV X.1 X.2.2.2.1.1 (m_On_toWhom l) ⟨Nat.le_of_ble_eq_true rfl, Nat.le_of_ble_eq_true rfl⟩ (by decide) X.2.2.2.2.2.2 rfl (g_On_toWhom) (sv_w5 tw_587 tw_588 tw_589 tw_53 tw_590) (by decide +kernel) (sv_dc3 dl_15 (pc := 613) rfl rfl)).I, List.forall_mem_cons.mpr ⟨(sv_cV X.1 X.2.2.2.1.1 (m_Mo_toWhom l) ⟨Nat.le_of_ble_eq_true rfl, Nat.le_of_ble_eq_true rfl⟩ (by decide) X.2.2.2.2.2.2 rfl (g_Mo_toWhom) (sv_w5 tw_1279 tw_1280 tw_1281 tw_65 tw_1282) (by decide +kernel) (sv_dc3 dl_15 (pc := 622) rfl rfl)).I, fun _ h => absurd h List.not_mem_nil⟩⟩
  · rw [el_15, lw_rd1 hi hL, h1, pz_b, lw_rd1 hi hL, h2, pz_b, sv_if_t rfl]
    exact lw_k_t h3
def cl_16 : sv_C := [(630, (.aload_n 1, (sv_N, (631, (0, []))))), (631, (.aload_n 0, (sv_N, (632, (0, []))))), (632, (.iload_n 3, (sv_N, (633, (0, []))))), (633, (.iconst 1, (.inl (1 : Int32), (634, (0, []))))), (634, (.iadd, (sv_N, (635, (0, []))))), (635, (.iaload, (sv_N, (636, (0, []))))), (636, (.aload_n 0, (sv_N, (637, (0, []))))), (637, (.iload_n 3, (sv_N, (638, (0, []))))), (638, (.iconst 2, (.inl (2 : Int32), (639, (0, []))))), (639, (.iadd, (sv_N, (640, (0, []))))), (640, (.iaload, (sv_N, (641, (0, []))))), (641, (.invokevirtual 81, (sv_N, (644, (0, []))))), (644, (.aload_n 2, (sv_N, (645, (0, []))))), (645, (.aload_n 0, (sv_N, (646, (0, []))))), (646, (.iload_n 3, (sv_N, (647, (0, []))))), (647, (.iconst 1, (.inl (1 : Int32), (648, (0, []))))), (648, (.iadd, (sv_N, (649, (0, []))))), (649, (.iaload, (sv_N, (650, (0, []))))), (650, (.aload_n 0, (sv_N, (651, (0, []))))), (651, (.iload_n 3, (sv_N, (652, (0, []))))), (652, (.iconst 2, (.inl (2 : Int32), (653, (0, []))))), (653, (.iadd, (sv_N, (654, (0, []))))), (654, (.iaload, (sv_N, (655, (0, []))))), (655, (.invokevirtual 84, (sv_N, (658, (0, []))))), (658, (.if_icmp .eq 727, (sv_N, (661, (1385, []))))), (661, (.iconst 0, (.inl (0 : Int32), (662, (0, []))))), (662, (.ireturn, (sv_N, (663, (0, [])))))]
theorem dl_16 : cl_16.all (sv_dk code) = true := by decide +kernel
set_option maxRecDepth 20000 in
theorem el_16 (L : Nat) (xs : Nat → Int32) (i : Nat) (σ : sv_S) : sv_ex (lw_ev [(641, (3, .inl n_On_mend)), (655, (3, .inl n_Mo_mend))] L xs) lw_rt (fun pc => sv_lk pc [(1385, lw_k i)]) cl_16 60 630 (lw_lo i) [] σ = lw_rd L xs (nI i) 1 (fun x1 => lw_rd L xs (nI i) 2 (fun x2 => sv_b (f_On_mend x1 x2 σ) (fun v σ => lw_rd L xs (nI i) 1 (fun y1 => lw_rd L xs (nI i) 2 (fun y2 => sv_b (f_Mo_mend y1 y2 σ) (fun w σ => sv_if (v = w) (lw_k i (lw_lo i) [] σ) (lw_rt (.inl 0) σ))))))) := by
  delta lw_ev n_On_mend n_Mo_mend lw_rd
  generalize f_On_mend = c0
  generalize f_Mo_mend = c1
  generalize lw_k i = c2
  generalize lw_rt = c3
  rfl
set_option maxRecDepth 20000 in
theorem la_16 (X : lw_X p s m meth c b L xs cells slots ad dC dI cA) {i : Nat} (hi : i + 6 ≤ L) (hL : L ≤ 384) {σ : sv_S} (hR : R_A σ) (next : ∀ υ, R_A υ → sv_T (lw_G p l e s m b below meth c cells slots ad dC dI cA n0) 1385 (lw_lo i) [] υ) : sv_T (lw_G p l e s m b below meth c cells slots ad dC dI cA n0) 630 (lw_lo i) [] σ := by
  obtain ⟨v, σ1, σ2, h1, h2, h3⟩ := R_mend (xs (i + 1)) (xs (i + 2)) σ hR
  refine sv_run (lw_ok X (cs := [(641, (3, .inl n_On_mend)), (655, (3, .inl n_Mo_mend))]) ?_) dl_16 (K := fun pc => sv_lk pc [(1385, lw_k i)]) (lw_Kok next) 60 630 (lw_lo i) [] σ ?_
  · exact List.forall_mem_cons.mpr ⟨(sv_cV X.1 X.2.2.2.1.1 (m_On_mend l) ⟨Nat.le_of_ble_eq_true rfl, Nat.le_of_ble_eq_true rfl⟩ (by decide) X.2.2.2.2.2.2 rfl (g_On_mend) (sv_w5 tw_591 tw_592 tw_593 tw_53 tw_594) (by decide +kernel) (sv_dc3 dl_16 (pc := 641) rfl rfl)).I, List.forall_mem_cons.mpr ⟨(sv_cV X.1 X.2.2.2.1.1 (m_Mo_mend l) ⟨Nat.le_of_ble_eq_true rfl, Nat.le_of_ble_eq_true rfl⟩ (by decide) X.2.2.2.2.2.2 rfl (g_Mo_mend) (sv_w5 tw_1284 tw_1285 tw_1286 tw_65 tw_1287) (by decide +kernel) (sv_dc3 dl_16 (pc := 655) rfl rfl)).I, fun _ h => absurd h List.not_mem_nil⟩⟩
  · rw [el_16, lw_rd1 hi hL, lw_rd2 hi hL, h1, pz_b, lw_rd1 hi hL, lw_rd2 hi hL, h2, pz_b, sv_if_t rfl]
    exact lw_k_t h3
def cl_17 : sv_C := [(663, (.aload_n 1, (sv_N, (664, (0, []))))), (664, (.aload_n 0, (sv_N, (665, (0, []))))), (665, (.iload_n 3, (sv_N, (666, (0, []))))), (666, (.iconst 1, (.inl (1 : Int32), (667, (0, []))))), (667, (.iadd, (sv_N, (668, (0, []))))), (668, (.iaload, (sv_N, (669, (0, []))))), (669, (.aload_n 0, (sv_N, (670, (0, []))))), (670, (.iload_n 3, (sv_N, (671, (0, []))))), (671, (.iconst 2, (.inl (2 : Int32), (672, (0, []))))), (672, (.iadd, (sv_N, (673, (0, []))))), (673, (.iaload, (sv_N, (674, (0, []))))), (674, (.invokevirtual 85, (sv_N, (677, (0, []))))), (677, (.aload_n 2, (sv_N, (678, (0, []))))), (678, (.aload_n 0, (sv_N, (679, (0, []))))), (679, (.iload_n 3, (sv_N, (680, (0, []))))), (680, (.iconst 1, (.inl (1 : Int32), (681, (0, []))))), (681, (.iadd, (sv_N, (682, (0, []))))), (682, (.iaload, (sv_N, (683, (0, []))))), (683, (.aload_n 0, (sv_N, (684, (0, []))))), (684, (.iload_n 3, (sv_N, (685, (0, []))))), (685, (.iconst 2, (.inl (2 : Int32), (686, (0, []))))), (686, (.iadd, (sv_N, (687, (0, []))))), (687, (.iaload, (sv_N, (688, (0, []))))), (688, (.invokevirtual 88, (sv_N, (691, (0, []))))), (691, (.if_icmp .eq 694, (sv_N, (694, (1385, []))))), (694, (.iconst 0, (.inl (0 : Int32), (695, (0, []))))), (695, (.ireturn, (sv_N, (696, (0, [])))))]
theorem dl_17 : cl_17.all (sv_dk code) = true := by decide +kernel
set_option maxRecDepth 20000 in
theorem el_17 (L : Nat) (xs : Nat → Int32) (i : Nat) (σ : sv_S) : sv_ex (lw_ev [(674, (3, .inl n_On_far)), (688, (3, .inl n_Mo_far))] L xs) lw_rt (fun pc => sv_lk pc [(1385, lw_k i)]) cl_17 60 663 (lw_lo i) [] σ = lw_rd L xs (nI i) 1 (fun x1 => lw_rd L xs (nI i) 2 (fun x2 => sv_b (f_On_far x1 x2 σ) (fun v σ => lw_rd L xs (nI i) 1 (fun y1 => lw_rd L xs (nI i) 2 (fun y2 => sv_b (f_Mo_far y1 y2 σ) (fun w σ => sv_if (v = w) (lw_k i (lw_lo i) [] σ) (lw_rt (.inl 0) σ))))))) := by
  delta lw_ev n_On_far n_Mo_far lw_rd
  generalize f_On_far = c0
  generalize f_Mo_far = c1
  generalize lw_k i = c2
  generalize lw_rt = c3
  rfl
set_option maxRecDepth 20000 in
theorem la_17 (X : lw_X p s m meth c b L xs cells slots ad dC dI cA) {i : Nat} (hi : i + 6 ≤ L) (hL : L ≤ 384) {σ : sv_S} (hR : R_A σ) (next : ∀ υ, R_A υ → sv_T (lw_G p l e s m b below meth c cells slots ad dC dI cA n0) 1385 (lw_lo i) [] υ) : sv_T (lw_G p l e s m b below meth c cells slots ad dC dI cA n0) 663 (lw_lo i) [] σ := by
  obtain ⟨v, σ1, σ2, h1, h2, h3⟩ := R_far (xs (i + 1)) (xs (i + 2)) σ hR
  refine sv_run (lw_ok X (cs := [(674, (3, .inl n_On_far)), (688, (3, .inl n_Mo_far))]) ?_) dl_17 (K := fun pc => sv_lk pc [(1385, lw_k i)]) (lw_Kok next) 60 663 (lw_lo i) [] σ ?_
  · exact List.forall_mem_cons.mpr ⟨(sv_cV X.1 X.2.2.2.1.1 (m_On_far l) ⟨Nat.le_of_ble_eq_true rfl, Nat.le_of_ble_eq_true rfl⟩ (by decide) X.2.2.2.2.2.2 rfl (g_On_far) (sv_w5 tw_603 tw_604 tw_605 tw_53 tw_606) (by decide +kernel) (sv_dc3 dl_17 (pc := 674) rfl rfl)).I, List.forall_mem_cons.mpr ⟨(sv_cV X.1 X.2.2.2.1.1 (m_Mo_far l) ⟨Nat.le_of_ble_eq_true rfl, Nat.le_of_ble_eq_true rfl⟩ (by decide) X.2.2.2.2.2.2 rfl (g_Mo_far) (sv_w5 tw_1289 tw_1290 tw_1291 tw_65 tw_1292) (by decide +kernel) (sv_dc3 dl_17 (pc := 688) rfl rfl)).I, fun _ h => absurd h List.not_mem_nil⟩⟩
  · rw [el_17, lw_rd1 hi hL, lw_rd2 hi hL, h1, pz_b, lw_rd1 hi hL, lw_rd2 hi hL, h2, pz_b, sv_if_t rfl]
    exact lw_k_t h3
def cl_18 : sv_C := [(696, (.aload_n 1, (sv_N, (697, (0, []))))), (697, (.aload_n 0, (sv_N, (698, (0, []))))), (698, (.iload_n 3, (sv_N, (699, (0, []))))), (699, (.iconst 1, (.inl (1 : Int32), (700, (0, []))))), (700, (.iadd, (sv_N, (701, (0, []))))), (701, (.iaload, (sv_N, (702, (0, []))))), (702, (.aload_n 0, (sv_N, (703, (0, []))))), (703, (.iload_n 3, (sv_N, (704, (0, []))))), (704, (.iconst 2, (.inl (2 : Int32), (705, (0, []))))), (705, (.iadd, (sv_N, (706, (0, []))))), (706, (.iaload, (sv_N, (707, (0, []))))), (707, (.invokevirtual 89, (sv_N, (710, (0, []))))), (710, (.aload_n 2, (sv_N, (711, (0, []))))), (711, (.aload_n 0, (sv_N, (712, (0, []))))), (712, (.iload_n 3, (sv_N, (713, (0, []))))), (713, (.iconst 1, (.inl (1 : Int32), (714, (0, []))))), (714, (.iadd, (sv_N, (715, (0, []))))), (715, (.iaload, (sv_N, (716, (0, []))))), (716, (.aload_n 0, (sv_N, (717, (0, []))))), (717, (.iload_n 3, (sv_N, (718, (0, []))))), (718, (.iconst 2, (.inl (2 : Int32), (719, (0, []))))), (719, (.iadd, (sv_N, (720, (0, []))))), (720, (.iaload, (sv_N, (721, (0, []))))), (721, (.invokevirtual 92, (sv_N, (724, (0, []))))), (724, (.if_icmp .eq 661, (sv_N, (727, (1385, []))))), (727, (.iconst 0, (.inl (0 : Int32), (728, (0, []))))), (728, (.ireturn, (sv_N, (729, (0, [])))))]
theorem dl_18 : cl_18.all (sv_dk code) = true := by decide +kernel
set_option maxRecDepth 20000 in
theorem el_18 (L : Nat) (xs : Nat → Int32) (i : Nat) (σ : sv_S) : sv_ex (lw_ev [(707, (3, .inl n_On_reach)), (721, (3, .inl n_Mo_reach))] L xs) lw_rt (fun pc => sv_lk pc [(1385, lw_k i)]) cl_18 60 696 (lw_lo i) [] σ = lw_rd L xs (nI i) 1 (fun x1 => lw_rd L xs (nI i) 2 (fun x2 => sv_b (f_On_reach x1 x2 σ) (fun v σ => lw_rd L xs (nI i) 1 (fun y1 => lw_rd L xs (nI i) 2 (fun y2 => sv_b (f_Mo_reach y1 y2 σ) (fun w σ => sv_if (v = w) (lw_k i (lw_lo i) [] σ) (lw_rt (.inl 0) σ))))))) := by
  delta lw_ev n_On_reach n_Mo_reach lw_rd
  generalize f_On_reach = c0
  generalize f_Mo_reach = c1
  generalize lw_k i = c2
  generalize lw_rt = c3
  rfl
set_option maxRecDepth 20000 in
theorem la_18 (X : lw_X p s m meth c b L xs cells slots ad dC dI cA) {i : Nat} (hi : i + 6 ≤ L) (hL : L ≤ 384) {σ : sv_S} (hR : R_A σ) (next : ∀ υ, R_A υ → sv_T (lw_G p l e s m b below meth c cells slots ad dC dI cA n0) 1385 (lw_lo i) [] υ) : sv_T (lw_G p l e s m b below meth c cells slots ad dC dI cA n0) 696 (lw_lo i) [] σ := by
  obtain ⟨v, σ1, σ2, h1, h2, h3⟩ := R_reach (xs (i + 1)) (xs (i + 2)) σ hR
  refine sv_run (lw_ok X (cs := [(707, (3, .inl n_On_reach)), (721, (3, .inl n_Mo_reach))]) ?_) dl_18 (K := fun pc => sv_lk pc [(1385, lw_k i)]) (lw_Kok next) 60 696 (lw_lo i) [] σ ?_
  · exact List.forall_mem_cons.mpr ⟨(sv_cV X.1 X.2.2.2.1.1 (m_On_reach l) ⟨Nat.le_of_ble_eq_true rfl, Nat.le_of_ble_eq_true rfl⟩ (by decide) X.2.2.2.2.2.2 rfl (g_On_reach) (sv_w5 tw_611 tw_612 tw_613 tw_53 tw_614) (by decide +kernel) (sv_dc3 dl_18 (pc := 707) rfl rfl)).I, List.forall_mem_cons.mpr ⟨(sv_cV X.1 X.2.2.2.1.1 (m_Mo_reach l) ⟨Nat.le_of_ble_eq_true rfl, Nat.le_of_ble_eq_true rfl⟩ (by decide) X.2.2.2.2.2.2 rfl (g_Mo_reach) (sv_w5 tw_1297 tw_1298 tw_1299 tw_65 tw_1300) (by decide +kernel) (sv_dc3 dl_18 (pc := 721) rfl rfl)).I, fun _ h => absurd h List.not_mem_nil⟩⟩
  · rw [el_18, lw_rd1 hi hL, lw_rd2 hi hL, h1, pz_b, lw_rd1 hi hL, lw_rd2 hi hL, h2, pz_b, sv_if_t rfl]
    exact lw_k_t h3
def cl_19 : sv_C := [(729, (.aload_n 1, (sv_N, (730, (0, []))))), (730, (.aload_n 0, (sv_N, (731, (0, []))))), (731, (.iload_n 3, (sv_N, (732, (0, []))))), (732, (.iconst 1, (.inl (1 : Int32), (733, (0, []))))), (733, (.iadd, (sv_N, (734, (0, []))))), (734, (.iaload, (sv_N, (735, (0, []))))), (735, (.invokevirtual 93, (sv_N, (738, (0, []))))), (738, (.aload_n 2, (sv_N, (739, (0, []))))), (739, (.aload_n 0, (sv_N, (740, (0, []))))), (740, (.iload_n 3, (sv_N, (741, (0, []))))), (741, (.iconst 1, (.inl (1 : Int32), (742, (0, []))))), (742, (.iadd, (sv_N, (743, (0, []))))), (743, (.iaload, (sv_N, (744, (0, []))))), (744, (.invokevirtual 96, (sv_N, (747, (0, []))))), (747, (.if_icmp .eq 638, (sv_N, (750, (1385, []))))), (750, (.iconst 0, (.inl (0 : Int32), (751, (0, []))))), (751, (.ireturn, (sv_N, (752, (0, [])))))]
theorem dl_19 : cl_19.all (sv_dk code) = true := by decide +kernel
set_option maxRecDepth 20000 in
theorem el_19 (L : Nat) (xs : Nat → Int32) (i : Nat) (σ : sv_S) : sv_ex (lw_ev [(735, (2, .inl n_On_edge)), (744, (2, .inl n_Mo_edge))] L xs) lw_rt (fun pc => sv_lk pc [(1385, lw_k i)]) cl_19 60 729 (lw_lo i) [] σ = lw_rd L xs (nI i) 1 (fun x1 => sv_b (f_On_edge x1 σ) (fun v σ => lw_rd L xs (nI i) 1 (fun y1 => sv_b (f_Mo_edge y1 σ) (fun w σ => sv_if (v = w) (lw_k i (lw_lo i) [] σ) (lw_rt (.inl 0) σ))))) := by
  delta lw_ev n_On_edge n_Mo_edge lw_rd
  generalize f_On_edge = c0
  generalize f_Mo_edge = c1
  generalize lw_k i = c2
  generalize lw_rt = c3
  rfl
set_option maxRecDepth 20000 in
theorem la_19 (X : lw_X p s m meth c b L xs cells slots ad dC dI cA) {i : Nat} (hi : i + 6 ≤ L) (hL : L ≤ 384) {σ : sv_S} (hR : R_A σ) (next : ∀ υ, R_A υ → sv_T (lw_G p l e s m b below meth c cells slots ad dC dI cA n0) 1385 (lw_lo i) [] υ) : sv_T (lw_G p l e s m b below meth c cells slots ad dC dI cA n0) 729 (lw_lo i) [] σ := by
  obtain ⟨v, σ1, σ2, h1, h2, h3⟩ := R_edge (xs (i + 1)) σ hR
  refine sv_run (lw_ok X (cs := [(735, (2, .inl n_On_edge)), (744, (2, .inl n_Mo_edge))]) ?_) dl_19 (K := fun pc => sv_lk pc [(1385, lw_k i)]) (lw_Kok next) 60 729 (lw_lo i) [] σ ?_
  · exact List.forall_mem_cons.mpr ⟨(sv_cV X.1 X.2.2.2.1.1 (m_On_edge l) ⟨Nat.le_of_ble_eq_true rfl, Nat.le_of_ble_eq_true rfl⟩ (by decide) X.2.2.2.2.2.2 rfl (g_On_edge) (sv_w5 tw_615 tw_616 tw_617 tw_53 tw_618) (by decide +kernel) (sv_dc3 dl_19 (pc := 735) rfl rfl)).I, List.forall_mem_cons.mpr ⟨(sv_cV X.1 X.2.2.2.1.1 (m_Mo_edge l) ⟨Nat.le_of_ble_eq_true rfl, Nat.le_of_ble_eq_true rfl⟩ (by decide) X.2.2.2.2.2.2 rfl (g_Mo_edge) (sv_w5 tw_1302 tw_1303 tw_1304 tw_65 tw_1305) (by decide +kernel) (sv_dc3 dl_19 (pc := 744) rfl rfl)).I, fun _ h => absurd h List.not_mem_nil⟩⟩
  · rw [el_19, lw_rd1 hi hL, h1, pz_b, lw_rd1 hi hL, h2, pz_b, sv_if_t rfl]
    exact lw_k_t h3
def cl_20 : sv_C := [(752, (.aload_n 1, (sv_N, (753, (0, []))))), (753, (.aload_n 0, (sv_N, (754, (0, []))))), (754, (.iload_n 3, (sv_N, (755, (0, []))))), (755, (.iconst 1, (.inl (1 : Int32), (756, (0, []))))), (756, (.iadd, (sv_N, (757, (0, []))))), (757, (.iaload, (sv_N, (758, (0, []))))), (758, (.aload_n 0, (sv_N, (759, (0, []))))), (759, (.iload_n 3, (sv_N, (760, (0, []))))), (760, (.iconst 2, (.inl (2 : Int32), (761, (0, []))))), (761, (.iadd, (sv_N, (762, (0, []))))), (762, (.iaload, (sv_N, (763, (0, []))))), (763, (.aload_n 0, (sv_N, (764, (0, []))))), (764, (.iload_n 3, (sv_N, (765, (0, []))))), (765, (.iconst 3, (.inl (3 : Int32), (766, (0, []))))), (766, (.iadd, (sv_N, (767, (0, []))))), (767, (.iaload, (sv_N, (768, (0, []))))), (768, (.invokevirtual 97, (sv_N, (771, (0, []))))), (771, (.aload_n 2, (sv_N, (772, (0, []))))), (772, (.aload_n 0, (sv_N, (773, (0, []))))), (773, (.iload_n 3, (sv_N, (774, (0, []))))), (774, (.iconst 1, (.inl (1 : Int32), (775, (0, []))))), (775, (.iadd, (sv_N, (776, (0, []))))), (776, (.iaload, (sv_N, (777, (0, []))))), (777, (.aload_n 0, (sv_N, (778, (0, []))))), (778, (.iload_n 3, (sv_N, (779, (0, []))))), (779, (.iconst 2, (.inl (2 : Int32), (780, (0, []))))), (780, (.iadd, (sv_N, (781, (0, []))))), (781, (.iaload, (sv_N, (782, (0, []))))), (782, (.aload_n 0, (sv_N, (783, (0, []))))), (783, (.iload_n 3, (sv_N, (784, (0, []))))), (784, (.iconst 3, (.inl (3 : Int32), (785, (0, []))))), (785, (.iadd, (sv_N, (786, (0, []))))), (786, (.iaload, (sv_N, (787, (0, []))))), (787, (.invokevirtual 100, (sv_N, (790, (0, []))))), (790, (.if_icmp .eq 595, (sv_N, (793, (1385, []))))), (793, (.iconst 0, (.inl (0 : Int32), (794, (0, []))))), (794, (.ireturn, (sv_N, (795, (0, [])))))]
theorem dl_20 : cl_20.all (sv_dk code) = true := by decide +kernel
set_option maxRecDepth 20000 in
theorem el_20 (L : Nat) (xs : Nat → Int32) (i : Nat) (σ : sv_S) : sv_ex (lw_ev [(768, (4, .inl n_On_miscounted)), (787, (4, .inl n_Mo_miscounted))] L xs) lw_rt (fun pc => sv_lk pc [(1385, lw_k i)]) cl_20 60 752 (lw_lo i) [] σ = lw_rd L xs (nI i) 1 (fun x1 => lw_rd L xs (nI i) 2 (fun x2 => lw_rd L xs (nI i) 3 (fun x3 => sv_b (f_On_miscounted x1 x2 x3 σ) (fun v σ => lw_rd L xs (nI i) 1 (fun y1 => lw_rd L xs (nI i) 2 (fun y2 => lw_rd L xs (nI i) 3 (fun y3 => sv_b (f_Mo_miscounted y1 y2 y3 σ) (fun w σ => sv_if (v = w) (lw_k i (lw_lo i) [] σ) (lw_rt (.inl 0) σ))))))))) := by
  delta lw_ev n_On_miscounted n_Mo_miscounted lw_rd
  generalize f_On_miscounted = c0
  generalize f_Mo_miscounted = c1
  generalize lw_k i = c2
  generalize lw_rt = c3
  rfl
set_option maxRecDepth 20000 in
theorem la_20 (X : lw_X p s m meth c b L xs cells slots ad dC dI cA) {i : Nat} (hi : i + 6 ≤ L) (hL : L ≤ 384) {σ : sv_S} (hR : R_A σ) (next : ∀ υ, R_A υ → sv_T (lw_G p l e s m b below meth c cells slots ad dC dI cA n0) 1385 (lw_lo i) [] υ) : sv_T (lw_G p l e s m b below meth c cells slots ad dC dI cA n0) 752 (lw_lo i) [] σ := by
  obtain ⟨v, σ1, σ2, h1, h2, h3⟩ := R_miscounted (xs (i + 1)) (xs (i + 2)) (xs (i + 3)) σ hR
  refine sv_run (lw_ok X (cs := [(768, (4, .inl n_On_miscounted)), (787, (4, .inl n_Mo_miscounted))]) ?_) dl_20 (K := fun pc => sv_lk pc [(1385, lw_k i)]) (lw_Kok next) 60 752 (lw_lo i) [] σ ?_
  · exact List.forall_mem_cons.mpr ⟨(sv_cV X.1 X.2.2.2.1.1 (m_On_miscounted l) ⟨Nat.le_of_ble_eq_true rfl, Nat.le_of_ble_eq_true rfl⟩ (by decide) X.2.2.2.2.2.2 rfl (g_On_miscounted) (sv_w5 tw_619 tw_620 tw_621 tw_53 tw_622) (by decide +kernel) (sv_dc3 dl_20 (pc := 768) rfl rfl)).I, List.forall_mem_cons.mpr ⟨(sv_cV X.1 X.2.2.2.1.1 (m_Mo_miscounted l) ⟨Nat.le_of_ble_eq_true rfl, Nat.le_of_ble_eq_true rfl⟩ (by decide) X.2.2.2.2.2.2 rfl (g_Mo_miscounted) (sv_w5 tw_1430 tw_1431 tw_1432 tw_65 tw_1433) (by decide +kernel) (sv_dc3 dl_20 (pc := 787) rfl rfl)).I, fun _ h => absurd h List.not_mem_nil⟩⟩
  · rw [el_20, lw_rd1 hi hL, lw_rd2 hi hL, lw_rd3 hi hL, h1, pz_b, lw_rd1 hi hL, lw_rd2 hi hL, lw_rd3 hi hL, h2, pz_b, sv_if_t rfl]
    exact lw_k_t h3
def cl_21 : sv_C := [(795, (.aload_n 1, (sv_N, (796, (0, []))))), (796, (.invokevirtual 101, (sv_N, (799, (0, []))))), (799, (.aload_n 2, (sv_N, (800, (0, []))))), (800, (.invokevirtual 104, (sv_N, (803, (0, []))))), (803, (.if_icmp .eq 582, (sv_N, (806, (1385, []))))), (806, (.iconst 0, (.inl (0 : Int32), (807, (0, []))))), (807, (.ireturn, (sv_N, (808, (0, [])))))]
theorem dl_21 : cl_21.all (sv_dk code) = true := by decide +kernel
set_option maxRecDepth 20000 in
theorem el_21 (L : Nat) (xs : Nat → Int32) (i : Nat) (σ : sv_S) : sv_ex (lw_ev [(796, (1, .inl n_On_fine)), (800, (1, .inl n_Mo_fine))] L xs) lw_rt (fun pc => sv_lk pc [(1385, lw_k i)]) cl_21 60 795 (lw_lo i) [] σ = sv_b (f_On_fine σ) (fun v σ => sv_b (f_Mo_fine σ) (fun w σ => sv_if (v = w) (lw_k i (lw_lo i) [] σ) (lw_rt (.inl 0) σ))) := by
  delta lw_ev n_On_fine n_Mo_fine lw_rd
  generalize f_On_fine = c0
  generalize f_Mo_fine = c1
  generalize lw_k i = c2
  generalize lw_rt = c3
  rfl
set_option maxRecDepth 20000 in
theorem la_21 (X : lw_X p s m meth c b L xs cells slots ad dC dI cA) {i : Nat} (hi : i + 6 ≤ L) (hL : L ≤ 384) {σ : sv_S} (hR : R_A σ) (next : ∀ υ, R_A υ → sv_T (lw_G p l e s m b below meth c cells slots ad dC dI cA n0) 1385 (lw_lo i) [] υ) : sv_T (lw_G p l e s m b below meth c cells slots ad dC dI cA n0) 795 (lw_lo i) [] σ := by
  obtain ⟨v, σ1, σ2, h1, h2, h3⟩ := R_fine σ hR
  refine sv_run (lw_ok X (cs := [(796, (1, .inl n_On_fine)), (800, (1, .inl n_Mo_fine))]) ?_) dl_21 (K := fun pc => sv_lk pc [(1385, lw_k i)]) (lw_Kok next) 60 795 (lw_lo i) [] σ ?_
  · exact List.forall_mem_cons.mpr ⟨(sv_cV X.1 X.2.2.2.1.1 (m_On_fine l) ⟨Nat.le_of_ble_eq_true rfl, Nat.le_of_ble_eq_true rfl⟩ (by decide) X.2.2.2.2.2.2 rfl (g_On_fine) (sv_w5 tw_651 tw_652 tw_653 tw_53 tw_654) (by decide +kernel) (sv_dc3 dl_21 (pc := 796) rfl rfl)).I, List.forall_mem_cons.mpr ⟨(sv_cV X.1 X.2.2.2.1.1 (m_Mo_fine l) ⟨Nat.le_of_ble_eq_true rfl, Nat.le_of_ble_eq_true rfl⟩ (by decide) X.2.2.2.2.2.2 rfl (g_Mo_fine) (sv_w5 tw_1306 tw_1307 tw_1308 tw_65 tw_1309) (by decide +kernel) (sv_dc3 dl_21 (pc := 800) rfl rfl)).I, fun _ h => absurd h List.not_mem_nil⟩⟩
  · rw [el_21, h1, pz_b, h2, pz_b, sv_if_t rfl]
    exact lw_k_t h3
def cl_22 : sv_C := [(808, (.aload_n 1, (sv_N, (809, (0, []))))), (809, (.aload_n 0, (sv_N, (810, (0, []))))), (810, (.iload_n 3, (sv_N, (811, (0, []))))), (811, (.iconst 1, (.inl (1 : Int32), (812, (0, []))))), (812, (.iadd, (sv_N, (813, (0, []))))), (813, (.iaload, (sv_N, (814, (0, []))))), (814, (.aload_n 0, (sv_N, (815, (0, []))))), (815, (.iload_n 3, (sv_N, (816, (0, []))))), (816, (.iconst 2, (.inl (2 : Int32), (817, (0, []))))), (817, (.iadd, (sv_N, (818, (0, []))))), (818, (.iaload, (sv_N, (819, (0, []))))), (819, (.aload_n 0, (sv_N, (820, (0, []))))), (820, (.iload_n 3, (sv_N, (821, (0, []))))), (821, (.iconst 3, (.inl (3 : Int32), (822, (0, []))))), (822, (.iadd, (sv_N, (823, (0, []))))), (823, (.iaload, (sv_N, (824, (0, []))))), (824, (.invokevirtual 105, (sv_N, (827, (0, []))))), (827, (.aload_n 2, (sv_N, (828, (0, []))))), (828, (.aload_n 0, (sv_N, (829, (0, []))))), (829, (.iload_n 3, (sv_N, (830, (0, []))))), (830, (.iconst 1, (.inl (1 : Int32), (831, (0, []))))), (831, (.iadd, (sv_N, (832, (0, []))))), (832, (.iaload, (sv_N, (833, (0, []))))), (833, (.aload_n 0, (sv_N, (834, (0, []))))), (834, (.iload_n 3, (sv_N, (835, (0, []))))), (835, (.iconst 2, (.inl (2 : Int32), (836, (0, []))))), (836, (.iadd, (sv_N, (837, (0, []))))), (837, (.iaload, (sv_N, (838, (0, []))))), (838, (.aload_n 0, (sv_N, (839, (0, []))))), (839, (.iload_n 3, (sv_N, (840, (0, []))))), (840, (.iconst 3, (.inl (3 : Int32), (841, (0, []))))), (841, (.iadd, (sv_N, (842, (0, []))))), (842, (.iaload, (sv_N, (843, (0, []))))), (843, (.invokevirtual 108, (sv_N, (846, (0, []))))), (846, (.if_icmp .eq 539, (sv_N, (849, (1385, []))))), (849, (.iconst 0, (.inl (0 : Int32), (850, (0, []))))), (850, (.ireturn, (sv_N, (851, (0, [])))))]
theorem dl_22 : cl_22.all (sv_dk code) = true := by decide +kernel
set_option maxRecDepth 20000 in
theorem el_22 (L : Nat) (xs : Nat → Int32) (i : Nat) (σ : sv_S) : sv_ex (lw_ev [(824, (4, .inl n_On_feed)), (843, (4, .inl n_Mo_feed))] L xs) lw_rt (fun pc => sv_lk pc [(1385, lw_k i)]) cl_22 60 808 (lw_lo i) [] σ = lw_rd L xs (nI i) 1 (fun x1 => lw_rd L xs (nI i) 2 (fun x2 => lw_rd L xs (nI i) 3 (fun x3 => sv_b (f_On_feed x1 x2 x3 σ) (fun v σ => lw_rd L xs (nI i) 1 (fun y1 => lw_rd L xs (nI i) 2 (fun y2 => lw_rd L xs (nI i) 3 (fun y3 => sv_b (f_Mo_feed y1 y2 y3 σ) (fun w σ => sv_if (v = w) (lw_k i (lw_lo i) [] σ) (lw_rt (.inl 0) σ))))))))) := by
  delta lw_ev n_On_feed n_Mo_feed lw_rd
  generalize f_On_feed = c0
  generalize f_Mo_feed = c1
  generalize lw_k i = c2
  generalize lw_rt = c3
  rfl
set_option maxRecDepth 20000 in
theorem la_22 (X : lw_X p s m meth c b L xs cells slots ad dC dI cA) {i : Nat} (hi : i + 6 ≤ L) (hL : L ≤ 384) {σ : sv_S} (hR : R_A σ) (next : ∀ υ, R_A υ → sv_T (lw_G p l e s m b below meth c cells slots ad dC dI cA n0) 1385 (lw_lo i) [] υ) : sv_T (lw_G p l e s m b below meth c cells slots ad dC dI cA n0) 808 (lw_lo i) [] σ := by
  obtain ⟨v, σ1, σ2, h1, h2, h3⟩ := R_feed (xs (i + 1)) (xs (i + 2)) (xs (i + 3)) σ hR
  refine sv_run (lw_ok X (cs := [(824, (4, .inl n_On_feed)), (843, (4, .inl n_Mo_feed))]) ?_) dl_22 (K := fun pc => sv_lk pc [(1385, lw_k i)]) (lw_Kok next) 60 808 (lw_lo i) [] σ ?_
  · exact List.forall_mem_cons.mpr ⟨(sv_cV X.1 X.2.2.2.1.1 (m_On_feed l) ⟨Nat.le_of_ble_eq_true rfl, Nat.le_of_ble_eq_true rfl⟩ (by decide) X.2.2.2.2.2.2 rfl (g_On_feed) (sv_w5 tw_661 tw_662 tw_663 tw_53 tw_664) (by decide +kernel) (sv_dc3 dl_22 (pc := 824) rfl rfl)).I, List.forall_mem_cons.mpr ⟨(sv_cV X.1 X.2.2.2.1.1 (m_Mo_feed l) ⟨Nat.le_of_ble_eq_true rfl, Nat.le_of_ble_eq_true rfl⟩ (by decide) X.2.2.2.2.2.2 rfl (g_Mo_feed) (sv_w5 tw_1314 tw_1315 tw_1316 tw_65 tw_1317) (by decide +kernel) (sv_dc3 dl_22 (pc := 843) rfl rfl)).I, fun _ h => absurd h List.not_mem_nil⟩⟩
  · rw [el_22, lw_rd1 hi hL, lw_rd2 hi hL, lw_rd3 hi hL, h1, pz_b, lw_rd1 hi hL, lw_rd2 hi hL, lw_rd3 hi hL, h2, pz_b, sv_if_t rfl]
    exact lw_k_t h3
def cl_23 : sv_C := [(851, (.aload_n 1, (sv_N, (852, (0, []))))), (852, (.aload_n 0, (sv_N, (853, (0, []))))), (853, (.iload_n 3, (sv_N, (854, (0, []))))), (854, (.iconst 1, (.inl (1 : Int32), (855, (0, []))))), (855, (.iadd, (sv_N, (856, (0, []))))), (856, (.iaload, (sv_N, (857, (0, []))))), (857, (.invokevirtual 109, (sv_N, (860, (0, []))))), (860, (.aload_n 2, (sv_N, (861, (0, []))))), (861, (.aload_n 0, (sv_N, (862, (0, []))))), (862, (.iload_n 3, (sv_N, (863, (0, []))))), (863, (.iconst 1, (.inl (1 : Int32), (864, (0, []))))), (864, (.iadd, (sv_N, (865, (0, []))))), (865, (.iaload, (sv_N, (866, (0, []))))), (866, (.invokevirtual 112, (sv_N, (869, (0, []))))), (869, (.if_icmp .eq 516, (sv_N, (872, (1385, []))))), (872, (.iconst 0, (.inl (0 : Int32), (873, (0, []))))), (873, (.ireturn, (sv_N, (874, (0, [])))))]
theorem dl_23 : cl_23.all (sv_dk code) = true := by decide +kernel
set_option maxRecDepth 20000 in
theorem el_23 (L : Nat) (xs : Nat → Int32) (i : Nat) (σ : sv_S) : sv_ex (lw_ev [(857, (2, .inl n_On_trim)), (866, (2, .inl n_Mo_trim))] L xs) lw_rt (fun pc => sv_lk pc [(1385, lw_k i)]) cl_23 60 851 (lw_lo i) [] σ = lw_rd L xs (nI i) 1 (fun x1 => sv_b (f_On_trim x1 σ) (fun v σ => lw_rd L xs (nI i) 1 (fun y1 => sv_b (f_Mo_trim y1 σ) (fun w σ => sv_if (v = w) (lw_k i (lw_lo i) [] σ) (lw_rt (.inl 0) σ))))) := by
  delta lw_ev n_On_trim n_Mo_trim lw_rd
  generalize f_On_trim = c0
  generalize f_Mo_trim = c1
  generalize lw_k i = c2
  generalize lw_rt = c3
  rfl
set_option maxRecDepth 20000 in
theorem la_23 (X : lw_X p s m meth c b L xs cells slots ad dC dI cA) {i : Nat} (hi : i + 6 ≤ L) (hL : L ≤ 384) {σ : sv_S} (hR : R_A σ) (next : ∀ υ, R_A υ → sv_T (lw_G p l e s m b below meth c cells slots ad dC dI cA n0) 1385 (lw_lo i) [] υ) : sv_T (lw_G p l e s m b below meth c cells slots ad dC dI cA n0) 851 (lw_lo i) [] σ := by
  obtain ⟨v, σ1, σ2, h1, h2, h3⟩ := R_trim (xs (i + 1)) σ hR
  refine sv_run (lw_ok X (cs := [(857, (2, .inl n_On_trim)), (866, (2, .inl n_Mo_trim))]) ?_) dl_23 (K := fun pc => sv_lk pc [(1385, lw_k i)]) (lw_Kok next) 60 851 (lw_lo i) [] σ ?_
  · exact List.forall_mem_cons.mpr ⟨(sv_cV X.1 X.2.2.2.1.1 (m_On_trim l) ⟨Nat.le_of_ble_eq_true rfl, Nat.le_of_ble_eq_true rfl⟩ (by decide) X.2.2.2.2.2.2 rfl (g_On_trim) (sv_w5 tw_669 tw_670 tw_671 tw_53 tw_672) (by decide +kernel) (sv_dc3 dl_23 (pc := 857) rfl rfl)).I, List.forall_mem_cons.mpr ⟨(sv_cV X.1 X.2.2.2.1.1 (m_Mo_trim l) ⟨Nat.le_of_ble_eq_true rfl, Nat.le_of_ble_eq_true rfl⟩ (by decide) X.2.2.2.2.2.2 rfl (g_Mo_trim) (sv_w5 tw_1318 tw_1319 tw_1320 tw_65 tw_1321) (by decide +kernel) (sv_dc3 dl_23 (pc := 866) rfl rfl)).I, fun _ h => absurd h List.not_mem_nil⟩⟩
  · rw [el_23, lw_rd1 hi hL, h1, pz_b, lw_rd1 hi hL, h2, pz_b, sv_if_t rfl]
    exact lw_k_t h3
def cl_25 : sv_C := [(887, (.aload_n 1, (sv_N, (888, (0, []))))), (888, (.aload_n 0, (sv_N, (889, (0, []))))), (889, (.iload_n 3, (sv_N, (890, (0, []))))), (890, (.iconst 1, (.inl (1 : Int32), (891, (0, []))))), (891, (.iadd, (sv_N, (892, (0, []))))), (892, (.iaload, (sv_N, (893, (0, []))))), (893, (.aload_n 0, (sv_N, (894, (0, []))))), (894, (.iload_n 3, (sv_N, (895, (0, []))))), (895, (.iconst 2, (.inl (2 : Int32), (896, (0, []))))), (896, (.iadd, (sv_N, (897, (0, []))))), (897, (.iaload, (sv_N, (898, (0, []))))), (898, (.invokevirtual 117, (sv_N, (901, (0, []))))), (901, (.aload_n 2, (sv_N, (902, (0, []))))), (902, (.aload_n 0, (sv_N, (903, (0, []))))), (903, (.iload_n 3, (sv_N, (904, (0, []))))), (904, (.iconst 1, (.inl (1 : Int32), (905, (0, []))))), (905, (.iadd, (sv_N, (906, (0, []))))), (906, (.iaload, (sv_N, (907, (0, []))))), (907, (.aload_n 0, (sv_N, (908, (0, []))))), (908, (.iload_n 3, (sv_N, (909, (0, []))))), (909, (.iconst 2, (.inl (2 : Int32), (910, (0, []))))), (910, (.iadd, (sv_N, (911, (0, []))))), (911, (.iaload, (sv_N, (912, (0, []))))), (912, (.invokevirtual 120, (sv_N, (915, (0, []))))), (915, (.if_icmp .eq 470, (sv_N, (918, (1385, []))))), (918, (.iconst 0, (.inl (0 : Int32), (919, (0, []))))), (919, (.ireturn, (sv_N, (920, (0, [])))))]
theorem dl_25 : cl_25.all (sv_dk code) = true := by decide +kernel
set_option maxRecDepth 20000 in
theorem el_25 (L : Nat) (xs : Nat → Int32) (i : Nat) (σ : sv_S) : sv_ex (lw_ev [(898, (3, .inl n_On_textTold)), (912, (3, .inl n_Mo_textTold))] L xs) lw_rt (fun pc => sv_lk pc [(1385, lw_k i)]) cl_25 60 887 (lw_lo i) [] σ = lw_rd L xs (nI i) 1 (fun x1 => lw_rd L xs (nI i) 2 (fun x2 => sv_b (f_On_textTold x1 x2 σ) (fun v σ => lw_rd L xs (nI i) 1 (fun y1 => lw_rd L xs (nI i) 2 (fun y2 => sv_b (f_Mo_textTold y1 y2 σ) (fun w σ => sv_if (v = w) (lw_k i (lw_lo i) [] σ) (lw_rt (.inl 0) σ))))))) := by
  delta lw_ev n_On_textTold n_Mo_textTold lw_rd
  generalize f_On_textTold = c0
  generalize f_Mo_textTold = c1
  generalize lw_k i = c2
  generalize lw_rt = c3
  rfl
set_option maxRecDepth 20000 in
theorem la_25 (X : lw_X p s m meth c b L xs cells slots ad dC dI cA) {i : Nat} (hi : i + 6 ≤ L) (hL : L ≤ 384) {σ : sv_S} (hR : R_A σ) (next : ∀ υ, R_A υ → sv_T (lw_G p l e s m b below meth c cells slots ad dC dI cA n0) 1385 (lw_lo i) [] υ) : sv_T (lw_G p l e s m b below meth c cells slots ad dC dI cA n0) 887 (lw_lo i) [] σ := by
  obtain ⟨v, σ1, σ2, h1, h2, h3⟩ := R_textTold (xs (i + 1)) (xs (i + 2)) σ hR
  refine sv_run (lw_ok X (cs := [(898, (3, .inl n_On_textTold)), (912, (3, .inl n_Mo_textTold))]) ?_) dl_25 (K := fun pc => sv_lk pc [(1385, lw_k i)]) (lw_Kok next) 60 887 (lw_lo i) [] σ ?_
  · exact List.forall_mem_cons.mpr ⟨(sv_cV X.1 X.2.2.2.1.1 (m_On_textTold l) ⟨Nat.le_of_ble_eq_true rfl, Nat.le_of_ble_eq_true rfl⟩ (by decide) X.2.2.2.2.2.2 rfl (g_On_textTold) (sv_w5 tw_891 tw_892 tw_893 tw_53 tw_894) (by decide +kernel) (sv_dc3 dl_25 (pc := 898) rfl rfl)).I, List.forall_mem_cons.mpr ⟨(sv_cV X.1 X.2.2.2.1.1 (m_Mo_textTold l) ⟨Nat.le_of_ble_eq_true rfl, Nat.le_of_ble_eq_true rfl⟩ (by decide) X.2.2.2.2.2.2 rfl (g_Mo_textTold) (sv_w5 tw_1393 tw_1394 tw_1395 tw_65 tw_1396) (by decide +kernel) (sv_dc3 dl_25 (pc := 912) rfl rfl)).I, fun _ h => absurd h List.not_mem_nil⟩⟩
  · rw [el_25, lw_rd1 hi hL, lw_rd2 hi hL, h1, pz_b, lw_rd1 hi hL, lw_rd2 hi hL, h2, pz_b, sv_if_t rfl]
    exact lw_k_t h3
def cl_26 : sv_C := [(920, (.aload_n 1, (sv_N, (921, (0, []))))), (921, (.aload_n 0, (sv_N, (922, (0, []))))), (922, (.iload_n 3, (sv_N, (923, (0, []))))), (923, (.iconst 1, (.inl (1 : Int32), (924, (0, []))))), (924, (.iadd, (sv_N, (925, (0, []))))), (925, (.iaload, (sv_N, (926, (0, []))))), (926, (.invokevirtual 121, (sv_N, (929, (0, []))))), (929, (.aload_n 2, (sv_N, (930, (0, []))))), (930, (.aload_n 0, (sv_N, (931, (0, []))))), (931, (.iload_n 3, (sv_N, (932, (0, []))))), (932, (.iconst 1, (.inl (1 : Int32), (933, (0, []))))), (933, (.iadd, (sv_N, (934, (0, []))))), (934, (.iaload, (sv_N, (935, (0, []))))), (935, (.invokevirtual 124, (sv_N, (938, (0, []))))), (938, (.if_icmp .eq 447, (sv_N, (941, (1385, []))))), (941, (.iconst 0, (.inl (0 : Int32), (942, (0, []))))), (942, (.ireturn, (sv_N, (943, (0, [])))))]
theorem dl_26 : cl_26.all (sv_dk code) = true := by decide +kernel
set_option maxRecDepth 20000 in
theorem el_26 (L : Nat) (xs : Nat → Int32) (i : Nat) (σ : sv_S) : sv_ex (lw_ev [(926, (2, .inl n_On_why)), (935, (2, .inl n_Mo_why))] L xs) lw_rt (fun pc => sv_lk pc [(1385, lw_k i)]) cl_26 60 920 (lw_lo i) [] σ = lw_rd L xs (nI i) 1 (fun x1 => sv_b (f_On_why x1 σ) (fun v σ => lw_rd L xs (nI i) 1 (fun y1 => sv_b (f_Mo_why y1 σ) (fun w σ => sv_if (v = w) (lw_k i (lw_lo i) [] σ) (lw_rt (.inl 0) σ))))) := by
  delta lw_ev n_On_why n_Mo_why lw_rd
  generalize f_On_why = c0
  generalize f_Mo_why = c1
  generalize lw_k i = c2
  generalize lw_rt = c3
  rfl
set_option maxRecDepth 20000 in
theorem la_26 (X : lw_X p s m meth c b L xs cells slots ad dC dI cA) {i : Nat} (hi : i + 6 ≤ L) (hL : L ≤ 384) {σ : sv_S} (hR : R_A σ) (next : ∀ υ, R_A υ → sv_T (lw_G p l e s m b below meth c cells slots ad dC dI cA n0) 1385 (lw_lo i) [] υ) : sv_T (lw_G p l e s m b below meth c cells slots ad dC dI cA n0) 920 (lw_lo i) [] σ := by
  obtain ⟨v, σ1, σ2, h1, h2, h3⟩ := R_why (xs (i + 1)) σ hR
  refine sv_run (lw_ok X (cs := [(926, (2, .inl n_On_why)), (935, (2, .inl n_Mo_why))]) ?_) dl_26 (K := fun pc => sv_lk pc [(1385, lw_k i)]) (lw_Kok next) 60 920 (lw_lo i) [] σ ?_
  · exact List.forall_mem_cons.mpr ⟨(sv_cV X.1 X.2.2.2.1.1 (m_On_why l) ⟨Nat.le_of_ble_eq_true rfl, Nat.le_of_ble_eq_true rfl⟩ (by decide) X.2.2.2.2.2.2 rfl (g_On_why) (sv_w5 tw_895 tw_896 tw_897 tw_53 tw_898) (by decide +kernel) (sv_dc3 dl_26 (pc := 926) rfl rfl)).I, List.forall_mem_cons.mpr ⟨(sv_cV X.1 X.2.2.2.1.1 (m_Mo_why l) ⟨Nat.le_of_ble_eq_true rfl, Nat.le_of_ble_eq_true rfl⟩ (by decide) X.2.2.2.2.2.2 rfl (g_Mo_why) (sv_w5 tw_1401 tw_1402 tw_1403 tw_65 tw_1404) (by decide +kernel) (sv_dc3 dl_26 (pc := 935) rfl rfl)).I, fun _ h => absurd h List.not_mem_nil⟩⟩
  · rw [el_26, lw_rd1 hi hL, h1, pz_b, lw_rd1 hi hL, h2, pz_b, sv_if_t rfl]
    exact lw_k_t h3
def cl_27 : sv_C := [(943, (.aload_n 1, (sv_N, (944, (0, []))))), (944, (.aload_n 0, (sv_N, (945, (0, []))))), (945, (.iload_n 3, (sv_N, (946, (0, []))))), (946, (.iconst 1, (.inl (1 : Int32), (947, (0, []))))), (947, (.iadd, (sv_N, (948, (0, []))))), (948, (.iaload, (sv_N, (949, (0, []))))), (949, (.aload_n 0, (sv_N, (950, (0, []))))), (950, (.iload_n 3, (sv_N, (951, (0, []))))), (951, (.iconst 2, (.inl (2 : Int32), (952, (0, []))))), (952, (.iadd, (sv_N, (953, (0, []))))), (953, (.iaload, (sv_N, (954, (0, []))))), (954, (.aload_n 0, (sv_N, (955, (0, []))))), (955, (.iload_n 3, (sv_N, (956, (0, []))))), (956, (.iconst 3, (.inl (3 : Int32), (957, (0, []))))), (957, (.iadd, (sv_N, (958, (0, []))))), (958, (.iaload, (sv_N, (959, (0, []))))), (959, (.invokevirtual 125, (sv_N, (962, (0, []))))), (962, (.aload_n 2, (sv_N, (963, (0, []))))), (963, (.aload_n 0, (sv_N, (964, (0, []))))), (964, (.iload_n 3, (sv_N, (965, (0, []))))), (965, (.iconst 1, (.inl (1 : Int32), (966, (0, []))))), (966, (.iadd, (sv_N, (967, (0, []))))), (967, (.iaload, (sv_N, (968, (0, []))))), (968, (.aload_n 0, (sv_N, (969, (0, []))))), (969, (.iload_n 3, (sv_N, (970, (0, []))))), (970, (.iconst 2, (.inl (2 : Int32), (971, (0, []))))), (971, (.iadd, (sv_N, (972, (0, []))))), (972, (.iaload, (sv_N, (973, (0, []))))), (973, (.aload_n 0, (sv_N, (974, (0, []))))), (974, (.iload_n 3, (sv_N, (975, (0, []))))), (975, (.iconst 3, (.inl (3 : Int32), (976, (0, []))))), (976, (.iadd, (sv_N, (977, (0, []))))), (977, (.iaload, (sv_N, (978, (0, []))))), (978, (.invokevirtual 128, (sv_N, (981, (0, []))))), (981, (.if_icmp .eq 404, (sv_N, (984, (1385, []))))), (984, (.iconst 0, (.inl (0 : Int32), (985, (0, []))))), (985, (.ireturn, (sv_N, (986, (0, [])))))]
theorem dl_27 : cl_27.all (sv_dk code) = true := by decide +kernel
set_option maxRecDepth 20000 in
theorem el_27 (L : Nat) (xs : Nat → Int32) (i : Nat) (σ : sv_S) : sv_ex (lw_ev [(959, (4, .inl n_On_sheet)), (978, (4, .inl n_Mo_sheet))] L xs) lw_rt (fun pc => sv_lk pc [(1385, lw_k i)]) cl_27 60 943 (lw_lo i) [] σ = lw_rd L xs (nI i) 1 (fun x1 => lw_rd L xs (nI i) 2 (fun x2 => lw_rd L xs (nI i) 3 (fun x3 => sv_b (f_On_sheet x1 x2 x3 σ) (fun v σ => lw_rd L xs (nI i) 1 (fun y1 => lw_rd L xs (nI i) 2 (fun y2 => lw_rd L xs (nI i) 3 (fun y3 => sv_b (f_Mo_sheet y1 y2 y3 σ) (fun w σ => sv_if (v = w) (lw_k i (lw_lo i) [] σ) (lw_rt (.inl 0) σ))))))))) := by
  delta lw_ev n_On_sheet n_Mo_sheet lw_rd
  generalize f_On_sheet = c0
  generalize f_Mo_sheet = c1
  generalize lw_k i = c2
  generalize lw_rt = c3
  rfl
set_option maxRecDepth 20000 in
theorem la_27 (X : lw_X p s m meth c b L xs cells slots ad dC dI cA) {i : Nat} (hi : i + 6 ≤ L) (hL : L ≤ 384) {σ : sv_S} (hR : R_A σ) (next : ∀ υ, R_A υ → sv_T (lw_G p l e s m b below meth c cells slots ad dC dI cA n0) 1385 (lw_lo i) [] υ) : sv_T (lw_G p l e s m b below meth c cells slots ad dC dI cA n0) 943 (lw_lo i) [] σ := by
  obtain ⟨v, σ1, σ2, h1, h2, h3⟩ := R_sheet (xs (i + 1)) (xs (i + 2)) (xs (i + 3)) σ hR
  refine sv_run (lw_ok X (cs := [(959, (4, .inl n_On_sheet)), (978, (4, .inl n_Mo_sheet))]) ?_) dl_27 (K := fun pc => sv_lk pc [(1385, lw_k i)]) (lw_Kok next) 60 943 (lw_lo i) [] σ ?_
  · exact List.forall_mem_cons.mpr ⟨(sv_cV X.1 X.2.2.2.1.1 (m_On_sheet l) ⟨Nat.le_of_ble_eq_true rfl, Nat.le_of_ble_eq_true rfl⟩ (by decide) X.2.2.2.2.2.2 rfl (g_On_sheet) (sv_w5 tw_899 tw_900 tw_901 tw_53 tw_902) (by decide +kernel) (sv_dc3 dl_27 (pc := 959) rfl rfl)).I, List.forall_mem_cons.mpr ⟨(sv_cV X.1 X.2.2.2.1.1 (m_Mo_sheet l) ⟨Nat.le_of_ble_eq_true rfl, Nat.le_of_ble_eq_true rfl⟩ (by decide) X.2.2.2.2.2.2 rfl (g_Mo_sheet) (sv_w5 tw_1405 tw_1406 tw_1407 tw_65 tw_1408) (by decide +kernel) (sv_dc3 dl_27 (pc := 978) rfl rfl)).I, fun _ h => absurd h List.not_mem_nil⟩⟩
  · rw [el_27, lw_rd1 hi hL, lw_rd2 hi hL, lw_rd3 hi hL, h1, pz_b, lw_rd1 hi hL, lw_rd2 hi hL, lw_rd3 hi hL, h2, pz_b, sv_if_t rfl]
    exact lw_k_t h3
def cl_28 : sv_C := [(986, (.aload_n 1, (sv_N, (987, (0, []))))), (987, (.aload_n 0, (sv_N, (988, (0, []))))), (988, (.iload_n 3, (sv_N, (989, (0, []))))), (989, (.iconst 1, (.inl (1 : Int32), (990, (0, []))))), (990, (.iadd, (sv_N, (991, (0, []))))), (991, (.iaload, (sv_N, (992, (0, []))))), (992, (.aload_n 0, (sv_N, (993, (0, []))))), (993, (.iload_n 3, (sv_N, (994, (0, []))))), (994, (.iconst 2, (.inl (2 : Int32), (995, (0, []))))), (995, (.iadd, (sv_N, (996, (0, []))))), (996, (.iaload, (sv_N, (997, (0, []))))), (997, (.aload_n 0, (sv_N, (998, (0, []))))), (998, (.iload_n 3, (sv_N, (999, (0, []))))), (999, (.iconst 3, (.inl (3 : Int32), (1000, (0, []))))), (1000, (.iadd, (sv_N, (1001, (0, []))))), (1001, (.iaload, (sv_N, (1002, (0, []))))), (1002, (.invokevirtual 129, (sv_N, (1005, (0, []))))), (1005, (.aload_n 2, (sv_N, (1006, (0, []))))), (1006, (.aload_n 0, (sv_N, (1007, (0, []))))), (1007, (.iload_n 3, (sv_N, (1008, (0, []))))), (1008, (.iconst 1, (.inl (1 : Int32), (1009, (0, []))))), (1009, (.iadd, (sv_N, (1010, (0, []))))), (1010, (.iaload, (sv_N, (1011, (0, []))))), (1011, (.aload_n 0, (sv_N, (1012, (0, []))))), (1012, (.iload_n 3, (sv_N, (1013, (0, []))))), (1013, (.iconst 2, (.inl (2 : Int32), (1014, (0, []))))), (1014, (.iadd, (sv_N, (1015, (0, []))))), (1015, (.iaload, (sv_N, (1016, (0, []))))), (1016, (.aload_n 0, (sv_N, (1017, (0, []))))), (1017, (.iload_n 3, (sv_N, (1018, (0, []))))), (1018, (.iconst 3, (.inl (3 : Int32), (1019, (0, []))))), (1019, (.iadd, (sv_N, (1020, (0, []))))), (1020, (.iaload, (sv_N, (1021, (0, []))))), (1021, (.invokevirtual 132, (sv_N, (1024, (0, []))))), (1024, (.if_icmp .eq 361, (sv_N, (1027, (1385, []))))), (1027, (.iconst 0, (.inl (0 : Int32), (1028, (0, []))))), (1028, (.ireturn, (sv_N, (1029, (0, [])))))]
theorem dl_28 : cl_28.all (sv_dk code) = true := by decide +kernel
set_option maxRecDepth 20000 in
theorem el_28 (L : Nat) (xs : Nat → Int32) (i : Nat) (σ : sv_S) : sv_ex (lw_ev [(1002, (4, .inl n_On_mark)), (1021, (4, .inl n_Mo_mark))] L xs) lw_rt (fun pc => sv_lk pc [(1385, lw_k i)]) cl_28 60 986 (lw_lo i) [] σ = lw_rd L xs (nI i) 1 (fun x1 => lw_rd L xs (nI i) 2 (fun x2 => lw_rd L xs (nI i) 3 (fun x3 => sv_b (f_On_mark x1 x2 x3 σ) (fun v σ => lw_rd L xs (nI i) 1 (fun y1 => lw_rd L xs (nI i) 2 (fun y2 => lw_rd L xs (nI i) 3 (fun y3 => sv_b (f_Mo_mark y1 y2 y3 σ) (fun w σ => sv_if (v = w) (lw_k i (lw_lo i) [] σ) (lw_rt (.inl 0) σ))))))))) := by
  delta lw_ev n_On_mark n_Mo_mark lw_rd
  generalize f_On_mark = c0
  generalize f_Mo_mark = c1
  generalize lw_k i = c2
  generalize lw_rt = c3
  rfl
set_option maxRecDepth 20000 in
theorem la_28 (X : lw_X p s m meth c b L xs cells slots ad dC dI cA) {i : Nat} (hi : i + 6 ≤ L) (hL : L ≤ 384) {σ : sv_S} (hR : R_A σ) (next : ∀ υ, R_A υ → sv_T (lw_G p l e s m b below meth c cells slots ad dC dI cA n0) 1385 (lw_lo i) [] υ) : sv_T (lw_G p l e s m b below meth c cells slots ad dC dI cA n0) 986 (lw_lo i) [] σ := by
  obtain ⟨v, σ1, σ2, h1, h2, h3⟩ := R_mark (xs (i + 1)) (xs (i + 2)) (xs (i + 3)) σ hR
  refine sv_run (lw_ok X (cs := [(1002, (4, .inl n_On_mark)), (1021, (4, .inl n_Mo_mark))]) ?_) dl_28 (K := fun pc => sv_lk pc [(1385, lw_k i)]) (lw_Kok next) 60 986 (lw_lo i) [] σ ?_
  · exact List.forall_mem_cons.mpr ⟨(sv_cV X.1 X.2.2.2.1.1 (m_On_mark l) ⟨Nat.le_of_ble_eq_true rfl, Nat.le_of_ble_eq_true rfl⟩ (by decide) X.2.2.2.2.2.2 rfl (g_On_mark) (sv_w5 tw_909 tw_910 tw_911 tw_53 tw_912) (by decide +kernel) (sv_dc3 dl_28 (pc := 1002) rfl rfl)).I, List.forall_mem_cons.mpr ⟨(sv_cV X.1 X.2.2.2.1.1 (m_Mo_mark l) ⟨Nat.le_of_ble_eq_true rfl, Nat.le_of_ble_eq_true rfl⟩ (by decide) X.2.2.2.2.2.2 rfl (g_Mo_mark) (sv_w5 tw_1414 tw_1415 tw_1416 tw_65 tw_1417) (by decide +kernel) (sv_dc3 dl_28 (pc := 1021) rfl rfl)).I, fun _ h => absurd h List.not_mem_nil⟩⟩
  · rw [el_28, lw_rd1 hi hL, lw_rd2 hi hL, lw_rd3 hi hL, h1, pz_b, lw_rd1 hi hL, lw_rd2 hi hL, lw_rd3 hi hL, h2, pz_b, sv_if_t rfl]
    exact lw_k_t h3
def cl_29 : sv_C := [(1029, (.aload_n 1, (sv_N, (1030, (0, []))))), (1030, (.aload_n 0, (sv_N, (1031, (0, []))))), (1031, (.iload_n 3, (sv_N, (1032, (0, []))))), (1032, (.iconst 1, (.inl (1 : Int32), (1033, (0, []))))), (1033, (.iadd, (sv_N, (1034, (0, []))))), (1034, (.iaload, (sv_N, (1035, (0, []))))), (1035, (.invokevirtual 133, (sv_N, (1038, (0, []))))), (1038, (.aload_n 2, (sv_N, (1039, (0, []))))), (1039, (.aload_n 0, (sv_N, (1040, (0, []))))), (1040, (.iload_n 3, (sv_N, (1041, (0, []))))), (1041, (.iconst 1, (.inl (1 : Int32), (1042, (0, []))))), (1042, (.iadd, (sv_N, (1043, (0, []))))), (1043, (.iaload, (sv_N, (1044, (0, []))))), (1044, (.invokevirtual 136, (sv_N, (1047, (0, []))))), (1047, (.if_icmp .eq 338, (sv_N, (1050, (1385, []))))), (1050, (.iconst 0, (.inl (0 : Int32), (1051, (0, []))))), (1051, (.ireturn, (sv_N, (1052, (0, [])))))]
theorem dl_29 : cl_29.all (sv_dk code) = true := by decide +kernel
set_option maxRecDepth 20000 in
theorem el_29 (L : Nat) (xs : Nat → Int32) (i : Nat) (σ : sv_S) : sv_ex (lw_ev [(1035, (2, .inl n_On_pour)), (1044, (2, .inl n_Mo_pour))] L xs) lw_rt (fun pc => sv_lk pc [(1385, lw_k i)]) cl_29 60 1029 (lw_lo i) [] σ = lw_rd L xs (nI i) 1 (fun x1 => sv_b (f_On_pour x1 σ) (fun v σ => lw_rd L xs (nI i) 1 (fun y1 => sv_b (f_Mo_pour y1 σ) (fun w σ => sv_if (v = w) (lw_k i (lw_lo i) [] σ) (lw_rt (.inl 0) σ))))) := by
  delta lw_ev n_On_pour n_Mo_pour lw_rd
  generalize f_On_pour = c0
  generalize f_Mo_pour = c1
  generalize lw_k i = c2
  generalize lw_rt = c3
  rfl
set_option maxRecDepth 20000 in
theorem la_29 (X : lw_X p s m meth c b L xs cells slots ad dC dI cA) {i : Nat} (hi : i + 6 ≤ L) (hL : L ≤ 384) {σ : sv_S} (hR : R_A σ) (next : ∀ υ, R_A υ → sv_T (lw_G p l e s m b below meth c cells slots ad dC dI cA n0) 1385 (lw_lo i) [] υ) : sv_T (lw_G p l e s m b below meth c cells slots ad dC dI cA n0) 1029 (lw_lo i) [] σ := by
  obtain ⟨v, σ1, σ2, h1, h2, h3⟩ := R_pour (xs (i + 1)) σ hR
  refine sv_run (lw_ok X (cs := [(1035, (2, .inl n_On_pour)), (1044, (2, .inl n_Mo_pour))]) ?_) dl_29 (K := fun pc => sv_lk pc [(1385, lw_k i)]) (lw_Kok next) 60 1029 (lw_lo i) [] σ ?_
  · exact List.forall_mem_cons.mpr ⟨(sv_cV X.1 X.2.2.2.1.1 (m_On_pour l) ⟨Nat.le_of_ble_eq_true rfl, Nat.le_of_ble_eq_true rfl⟩ (by decide) X.2.2.2.2.2.2 rfl (g_On_pour) (sv_w5 tw_917 tw_918 tw_919 tw_53 tw_920) (by decide +kernel) (sv_dc3 dl_29 (pc := 1035) rfl rfl)).I, List.forall_mem_cons.mpr ⟨(sv_cV X.1 X.2.2.2.1.1 (m_Mo_pour l) ⟨Nat.le_of_ble_eq_true rfl, Nat.le_of_ble_eq_true rfl⟩ (by decide) X.2.2.2.2.2.2 rfl (g_Mo_pour) (sv_w5 tw_1422 tw_1423 tw_1424 tw_65 tw_1425) (by decide +kernel) (sv_dc3 dl_29 (pc := 1044) rfl rfl)).I, fun _ h => absurd h List.not_mem_nil⟩⟩
  · rw [el_29, lw_rd1 hi hL, h1, pz_b, lw_rd1 hi hL, h2, pz_b, sv_if_t rfl]
    exact lw_k_t h3
def cl_30 : sv_C := [(1052, (.aload_n 1, (sv_N, (1053, (0, []))))), (1053, (.aload_n 0, (sv_N, (1054, (0, []))))), (1054, (.iload_n 3, (sv_N, (1055, (0, []))))), (1055, (.iconst 1, (.inl (1 : Int32), (1056, (0, []))))), (1056, (.iadd, (sv_N, (1057, (0, []))))), (1057, (.iaload, (sv_N, (1058, (0, []))))), (1058, (.aload_n 0, (sv_N, (1059, (0, []))))), (1059, (.iload_n 3, (sv_N, (1060, (0, []))))), (1060, (.iconst 2, (.inl (2 : Int32), (1061, (0, []))))), (1061, (.iadd, (sv_N, (1062, (0, []))))), (1062, (.iaload, (sv_N, (1063, (0, []))))), (1063, (.invokevirtual 137, (sv_N, (1066, (0, []))))), (1066, (.aload_n 2, (sv_N, (1067, (0, []))))), (1067, (.aload_n 0, (sv_N, (1068, (0, []))))), (1068, (.iload_n 3, (sv_N, (1069, (0, []))))), (1069, (.iconst 1, (.inl (1 : Int32), (1070, (0, []))))), (1070, (.iadd, (sv_N, (1071, (0, []))))), (1071, (.iaload, (sv_N, (1072, (0, []))))), (1072, (.aload_n 0, (sv_N, (1073, (0, []))))), (1073, (.iload_n 3, (sv_N, (1074, (0, []))))), (1074, (.iconst 2, (.inl (2 : Int32), (1075, (0, []))))), (1075, (.iadd, (sv_N, (1076, (0, []))))), (1076, (.iaload, (sv_N, (1077, (0, []))))), (1077, (.invokevirtual 140, (sv_N, (1080, (0, []))))), (1080, (.if_icmp .eq 305, (sv_N, (1083, (1385, []))))), (1083, (.iconst 0, (.inl (0 : Int32), (1084, (0, []))))), (1084, (.ireturn, (sv_N, (1085, (0, [])))))]
theorem dl_30 : cl_30.all (sv_dk code) = true := by decide +kernel
set_option maxRecDepth 20000 in
theorem el_30 (L : Nat) (xs : Nat → Int32) (i : Nat) (σ : sv_S) : sv_ex (lw_ev [(1063, (3, .inl n_On_reads)), (1077, (3, .inl n_Mo_reads))] L xs) lw_rt (fun pc => sv_lk pc [(1385, lw_k i)]) cl_30 60 1052 (lw_lo i) [] σ = lw_rd L xs (nI i) 1 (fun x1 => lw_rd L xs (nI i) 2 (fun x2 => sv_b (f_On_reads x1 x2 σ) (fun v σ => lw_rd L xs (nI i) 1 (fun y1 => lw_rd L xs (nI i) 2 (fun y2 => sv_b (f_Mo_reads y1 y2 σ) (fun w σ => sv_if (v = w) (lw_k i (lw_lo i) [] σ) (lw_rt (.inl 0) σ))))))) := by
  delta lw_ev n_On_reads n_Mo_reads lw_rd
  generalize f_On_reads = c0
  generalize f_Mo_reads = c1
  generalize lw_k i = c2
  generalize lw_rt = c3
  rfl
set_option maxRecDepth 20000 in
theorem la_30 (X : lw_X p s m meth c b L xs cells slots ad dC dI cA) {i : Nat} (hi : i + 6 ≤ L) (hL : L ≤ 384) {σ : sv_S} (hR : R_A σ) (next : ∀ υ, R_A υ → sv_T (lw_G p l e s m b below meth c cells slots ad dC dI cA n0) 1385 (lw_lo i) [] υ) : sv_T (lw_G p l e s m b below meth c cells slots ad dC dI cA n0) 1052 (lw_lo i) [] σ := by
  obtain ⟨v, σ1, σ2, h1, h2, h3⟩ := R_reads (xs (i + 1)) (xs (i + 2)) σ hR
  refine sv_run (lw_ok X (cs := [(1063, (3, .inl n_On_reads)), (1077, (3, .inl n_Mo_reads))]) ?_) dl_30 (K := fun pc => sv_lk pc [(1385, lw_k i)]) (lw_Kok next) 60 1052 (lw_lo i) [] σ ?_
  · exact List.forall_mem_cons.mpr ⟨(sv_cV X.1 X.2.2.2.1.1 (m_On_reads l) ⟨Nat.le_of_ble_eq_true rfl, Nat.le_of_ble_eq_true rfl⟩ (by decide) X.2.2.2.2.2.2 rfl (g_On_reads) (sv_w5 tw_922 tw_923 tw_924 tw_53 tw_925) (by decide +kernel) (sv_dc3 dl_30 (pc := 1063) rfl rfl)).I, List.forall_mem_cons.mpr ⟨(sv_cV X.1 X.2.2.2.1.1 (m_Mo_reads l) ⟨Nat.le_of_ble_eq_true rfl, Nat.le_of_ble_eq_true rfl⟩ (by decide) X.2.2.2.2.2.2 rfl (g_Mo_reads) (sv_w5 tw_1426 tw_1427 tw_1428 tw_65 tw_1429) (by decide +kernel) (sv_dc3 dl_30 (pc := 1077) rfl rfl)).I, fun _ h => absurd h List.not_mem_nil⟩⟩
  · rw [el_30, lw_rd1 hi hL, lw_rd2 hi hL, h1, pz_b, lw_rd1 hi hL, lw_rd2 hi hL, h2, pz_b, sv_if_t rfl]
    exact lw_k_t h3
def cl_31 : sv_C := [(1085, (.aload_n 1, (sv_N, (1086, (0, []))))), (1086, (.aload_n 0, (sv_N, (1087, (0, []))))), (1087, (.iload_n 3, (sv_N, (1088, (0, []))))), (1088, (.iconst 1, (.inl (1 : Int32), (1089, (0, []))))), (1089, (.iadd, (sv_N, (1090, (0, []))))), (1090, (.iaload, (sv_N, (1091, (0, []))))), (1091, (.aload_n 0, (sv_N, (1092, (0, []))))), (1092, (.iload_n 3, (sv_N, (1093, (0, []))))), (1093, (.iconst 2, (.inl (2 : Int32), (1094, (0, []))))), (1094, (.iadd, (sv_N, (1095, (0, []))))), (1095, (.iaload, (sv_N, (1096, (0, []))))), (1096, (.aload_n 0, (sv_N, (1097, (0, []))))), (1097, (.iload_n 3, (sv_N, (1098, (0, []))))), (1098, (.iconst 3, (.inl (3 : Int32), (1099, (0, []))))), (1099, (.iadd, (sv_N, (1100, (0, []))))), (1100, (.iaload, (sv_N, (1101, (0, []))))), (1101, (.aload_n 0, (sv_N, (1102, (0, []))))), (1102, (.iload_n 3, (sv_N, (1103, (0, []))))), (1103, (.iconst 4, (.inl (4 : Int32), (1104, (0, []))))), (1104, (.iadd, (sv_N, (1105, (0, []))))), (1105, (.iaload, (sv_N, (1106, (0, []))))), (1106, (.aload_n 0, (sv_N, (1107, (0, []))))), (1107, (.iload_n 3, (sv_N, (1108, (0, []))))), (1108, (.iconst 5, (.inl (5 : Int32), (1109, (0, []))))), (1109, (.iadd, (sv_N, (1110, (0, []))))), (1110, (.iaload, (sv_N, (1111, (0, []))))), (1111, (.invokevirtual 141, (sv_N, (1114, (0, []))))), (1114, (.aload_n 2, (sv_N, (1115, (0, []))))), (1115, (.aload_n 0, (sv_N, (1116, (0, []))))), (1116, (.iload_n 3, (sv_N, (1117, (0, []))))), (1117, (.iconst 1, (.inl (1 : Int32), (1118, (0, []))))), (1118, (.iadd, (sv_N, (1119, (0, []))))), (1119, (.iaload, (sv_N, (1120, (0, []))))), (1120, (.aload_n 0, (sv_N, (1121, (0, []))))), (1121, (.iload_n 3, (sv_N, (1122, (0, []))))), (1122, (.iconst 2, (.inl (2 : Int32), (1123, (0, []))))), (1123, (.iadd, (sv_N, (1124, (0, []))))), (1124, (.iaload, (sv_N, (1125, (0, []))))), (1125, (.aload_n 0, (sv_N, (1126, (0, []))))), (1126, (.iload_n 3, (sv_N, (1127, (0, []))))), (1127, (.iconst 3, (.inl (3 : Int32), (1128, (0, []))))), (1128, (.iadd, (sv_N, (1129, (0, []))))), (1129, (.iaload, (sv_N, (1130, (0, []))))), (1130, (.aload_n 0, (sv_N, (1131, (0, []))))), (1131, (.iload_n 3, (sv_N, (1132, (0, []))))), (1132, (.iconst 4, (.inl (4 : Int32), (1133, (0, []))))), (1133, (.iadd, (sv_N, (1134, (0, []))))), (1134, (.iaload, (sv_N, (1135, (0, []))))), (1135, (.aload_n 0, (sv_N, (1136, (0, []))))), (1136, (.iload_n 3, (sv_N, (1137, (0, []))))), (1137, (.iconst 5, (.inl (5 : Int32), (1138, (0, []))))), (1138, (.iadd, (sv_N, (1139, (0, []))))), (1139, (.iaload, (sv_N, (1140, (0, []))))), (1140, (.invokevirtual 145, (sv_N, (1143, (0, []))))), (1143, (.if_icmp .eq 242, (sv_N, (1146, (1385, []))))), (1146, (.iconst 0, (.inl (0 : Int32), (1147, (0, []))))), (1147, (.ireturn, (sv_N, (1148, (0, [])))))]
theorem dl_31 : cl_31.all (sv_dk code) = true := by decide +kernel
set_option maxRecDepth 20000 in
theorem el_31 (L : Nat) (xs : Nat → Int32) (i : Nat) (σ : sv_S) : sv_ex (lw_ev [(1111, (6, .inl n_On_copy)), (1140, (6, .inl n_Mo_copy))] L xs) lw_rt (fun pc => sv_lk pc [(1385, lw_k i)]) cl_31 60 1085 (lw_lo i) [] σ = lw_rd L xs (nI i) 1 (fun x1 => lw_rd L xs (nI i) 2 (fun x2 => lw_rd L xs (nI i) 3 (fun x3 => lw_rd L xs (nI i) 4 (fun x4 => lw_rd L xs (nI i) 5 (fun x5 => sv_b (f_On_copy x1 x2 x3 x4 x5 σ) (fun v σ => lw_rd L xs (nI i) 1 (fun y1 => lw_rd L xs (nI i) 2 (fun y2 => lw_rd L xs (nI i) 3 (fun y3 => lw_rd L xs (nI i) 4 (fun y4 => lw_rd L xs (nI i) 5 (fun y5 => sv_b (f_Mo_copy y1 y2 y3 y4 y5 σ) (fun w σ => sv_if (v = w) (lw_k i (lw_lo i) [] σ) (lw_rt (.inl 0) σ))))))))))))) := by
  delta lw_ev n_On_copy n_Mo_copy lw_rd
  generalize f_On_copy = c0
  generalize f_Mo_copy = c1
  generalize lw_k i = c2
  generalize lw_rt = c3
  rfl
set_option maxRecDepth 20000 in
theorem la_31 (X : lw_X p s m meth c b L xs cells slots ad dC dI cA) {i : Nat} (hi : i + 6 ≤ L) (hL : L ≤ 384) {σ : sv_S} (hR : R_A σ) (next : ∀ υ, R_A υ → sv_T (lw_G p l e s m b below meth c cells slots ad dC dI cA n0) 1385 (lw_lo i) [] υ) : sv_T (lw_G p l e s m b below meth c cells slots ad dC dI cA n0) 1085 (lw_lo i) [] σ := by
  obtain ⟨v, σ1, σ2, h1, h2, h3⟩ := R_copy (xs (i + 1)) (xs (i + 2)) (xs (i + 3)) (xs (i + 4)) (xs (i + 5)) σ hR
  refine sv_run (lw_ok X (cs := [(1111, (6, .inl n_On_copy)), (1140, (6, .inl n_Mo_copy))]) ?_) dl_31 (K := fun pc => sv_lk pc [(1385, lw_k i)]) (lw_Kok next) 60 1085 (lw_lo i) [] σ ?_
  · exact List.forall_mem_cons.mpr ⟨(sv_cV X.1 X.2.2.2.1.1 (m_On_copy l) ⟨Nat.le_of_ble_eq_true rfl, Nat.le_of_ble_eq_true rfl⟩ (by decide) X.2.2.2.2.2.2 rfl (g_On_copy) (sv_w5 tw_926 tw_927 tw_928 tw_53 tw_929) (by decide +kernel) (sv_dc3 dl_31 (pc := 1111) rfl rfl)).I, List.forall_mem_cons.mpr ⟨(sv_cV X.1 X.2.2.2.1.1 (m_Mo_copy l) ⟨Nat.le_of_ble_eq_true rfl, Nat.le_of_ble_eq_true rfl⟩ (by decide) X.2.2.2.2.2.2 rfl (g_Mo_copy) (sv_w5 tw_1437 tw_1438 tw_1439 tw_65 tw_1440) (by decide +kernel) (sv_dc3 dl_31 (pc := 1140) rfl rfl)).I, fun _ h => absurd h List.not_mem_nil⟩⟩
  · rw [el_31, lw_rd1 hi hL, lw_rd2 hi hL, lw_rd3 hi hL, lw_rd4 hi hL, lw_rd5 hi hL, h1, pz_b, lw_rd1 hi hL, lw_rd2 hi hL, lw_rd3 hi hL, lw_rd4 hi hL, lw_rd5 hi hL, h2, pz_b, sv_if_t rfl]
    exact lw_k_t h3
def cl_32 : sv_C := [(1148, (.aload_n 1, (sv_N, (1149, (0, []))))), (1149, (.aload_n 0, (sv_N, (1150, (0, []))))), (1150, (.iload_n 3, (sv_N, (1151, (0, []))))), (1151, (.iconst 1, (.inl (1 : Int32), (1152, (0, []))))), (1152, (.iadd, (sv_N, (1153, (0, []))))), (1153, (.iaload, (sv_N, (1154, (0, []))))), (1154, (.aload_n 0, (sv_N, (1155, (0, []))))), (1155, (.iload_n 3, (sv_N, (1156, (0, []))))), (1156, (.iconst 2, (.inl (2 : Int32), (1157, (0, []))))), (1157, (.iadd, (sv_N, (1158, (0, []))))), (1158, (.iaload, (sv_N, (1159, (0, []))))), (1159, (.aload_n 0, (sv_N, (1160, (0, []))))), (1160, (.iload_n 3, (sv_N, (1161, (0, []))))), (1161, (.iconst 3, (.inl (3 : Int32), (1162, (0, []))))), (1162, (.iadd, (sv_N, (1163, (0, []))))), (1163, (.iaload, (sv_N, (1164, (0, []))))), (1164, (.invokevirtual 146, (sv_N, (1167, (0, []))))), (1167, (.aload_n 2, (sv_N, (1168, (0, []))))), (1168, (.aload_n 0, (sv_N, (1169, (0, []))))), (1169, (.iload_n 3, (sv_N, (1170, (0, []))))), (1170, (.iconst 1, (.inl (1 : Int32), (1171, (0, []))))), (1171, (.iadd, (sv_N, (1172, (0, []))))), (1172, (.iaload, (sv_N, (1173, (0, []))))), (1173, (.aload_n 0, (sv_N, (1174, (0, []))))), (1174, (.iload_n 3, (sv_N, (1175, (0, []))))), (1175, (.iconst 2, (.inl (2 : Int32), (1176, (0, []))))), (1176, (.iadd, (sv_N, (1177, (0, []))))), (1177, (.iaload, (sv_N, (1178, (0, []))))), (1178, (.aload_n 0, (sv_N, (1179, (0, []))))), (1179, (.iload_n 3, (sv_N, (1180, (0, []))))), (1180, (.iconst 3, (.inl (3 : Int32), (1181, (0, []))))), (1181, (.iadd, (sv_N, (1182, (0, []))))), (1182, (.iaload, (sv_N, (1183, (0, []))))), (1183, (.invokevirtual 149, (sv_N, (1186, (0, []))))), (1186, (.if_icmp .eq 199, (sv_N, (1189, (1385, []))))), (1189, (.iconst 0, (.inl (0 : Int32), (1190, (0, []))))), (1190, (.ireturn, (sv_N, (1191, (0, [])))))]
theorem dl_32 : cl_32.all (sv_dk code) = true := by decide +kernel
set_option maxRecDepth 20000 in
theorem el_32 (L : Nat) (xs : Nat → Int32) (i : Nat) (σ : sv_S) : sv_ex (lw_ev [(1164, (4, .inl n_On_lay)), (1183, (4, .inl n_Mo_lay))] L xs) lw_rt (fun pc => sv_lk pc [(1385, lw_k i)]) cl_32 60 1148 (lw_lo i) [] σ = lw_rd L xs (nI i) 1 (fun x1 => lw_rd L xs (nI i) 2 (fun x2 => lw_rd L xs (nI i) 3 (fun x3 => sv_b (f_On_lay x1 x2 x3 σ) (fun v σ => lw_rd L xs (nI i) 1 (fun y1 => lw_rd L xs (nI i) 2 (fun y2 => lw_rd L xs (nI i) 3 (fun y3 => sv_b (f_Mo_lay y1 y2 y3 σ) (fun w σ => sv_if (v = w) (lw_k i (lw_lo i) [] σ) (lw_rt (.inl 0) σ))))))))) := by
  delta lw_ev n_On_lay n_Mo_lay lw_rd
  generalize f_On_lay = c0
  generalize f_Mo_lay = c1
  generalize lw_k i = c2
  generalize lw_rt = c3
  rfl
set_option maxRecDepth 20000 in
theorem la_32 (X : lw_X p s m meth c b L xs cells slots ad dC dI cA) {i : Nat} (hi : i + 6 ≤ L) (hL : L ≤ 384) {σ : sv_S} (hR : R_A σ) (next : ∀ υ, R_A υ → sv_T (lw_G p l e s m b below meth c cells slots ad dC dI cA n0) 1385 (lw_lo i) [] υ) : sv_T (lw_G p l e s m b below meth c cells slots ad dC dI cA n0) 1148 (lw_lo i) [] σ := by
  obtain ⟨v, σ1, σ2, h1, h2, h3⟩ := R_lay (xs (i + 1)) (xs (i + 2)) (xs (i + 3)) σ hR
  refine sv_run (lw_ok X (cs := [(1164, (4, .inl n_On_lay)), (1183, (4, .inl n_Mo_lay))]) ?_) dl_32 (K := fun pc => sv_lk pc [(1385, lw_k i)]) (lw_Kok next) 60 1148 (lw_lo i) [] σ ?_
  · exact List.forall_mem_cons.mpr ⟨(sv_cV X.1 X.2.2.2.1.1 (m_On_lay l) ⟨Nat.le_of_ble_eq_true rfl, Nat.le_of_ble_eq_true rfl⟩ (by decide) X.2.2.2.2.2.2 rfl (g_On_lay) (sv_w5 tw_935 tw_936 tw_937 tw_53 tw_938) (by decide +kernel) (sv_dc3 dl_32 (pc := 1164) rfl rfl)).I, List.forall_mem_cons.mpr ⟨(sv_cV X.1 X.2.2.2.1.1 (m_Mo_lay l) ⟨Nat.le_of_ble_eq_true rfl, Nat.le_of_ble_eq_true rfl⟩ (by decide) X.2.2.2.2.2.2 rfl (g_Mo_lay) (sv_w5 tw_1441 tw_1442 tw_1443 tw_65 tw_1444) (by decide +kernel) (sv_dc3 dl_32 (pc := 1183) rfl rfl)).I, fun _ h => absurd h List.not_mem_nil⟩⟩
  · rw [el_32, lw_rd1 hi hL, lw_rd2 hi hL, lw_rd3 hi hL, h1, pz_b, lw_rd1 hi hL, lw_rd2 hi hL, lw_rd3 hi hL, h2, pz_b, sv_if_t rfl]
    exact lw_k_t h3
def cl_33 : sv_C := [(1191, (.aload_n 1, (sv_N, (1192, (0, []))))), (1192, (.aload_n 0, (sv_N, (1193, (0, []))))), (1193, (.iload_n 3, (sv_N, (1194, (0, []))))), (1194, (.iconst 1, (.inl (1 : Int32), (1195, (0, []))))), (1195, (.iadd, (sv_N, (1196, (0, []))))), (1196, (.iaload, (sv_N, (1197, (0, []))))), (1197, (.aload_n 0, (sv_N, (1198, (0, []))))), (1198, (.iload_n 3, (sv_N, (1199, (0, []))))), (1199, (.iconst 2, (.inl (2 : Int32), (1200, (0, []))))), (1200, (.iadd, (sv_N, (1201, (0, []))))), (1201, (.iaload, (sv_N, (1202, (0, []))))), (1202, (.invokevirtual 150, (sv_N, (1205, (0, []))))), (1205, (.aload_n 2, (sv_N, (1206, (0, []))))), (1206, (.aload_n 0, (sv_N, (1207, (0, []))))), (1207, (.iload_n 3, (sv_N, (1208, (0, []))))), (1208, (.iconst 1, (.inl (1 : Int32), (1209, (0, []))))), (1209, (.iadd, (sv_N, (1210, (0, []))))), (1210, (.iaload, (sv_N, (1211, (0, []))))), (1211, (.aload_n 0, (sv_N, (1212, (0, []))))), (1212, (.iload_n 3, (sv_N, (1213, (0, []))))), (1213, (.iconst 2, (.inl (2 : Int32), (1214, (0, []))))), (1214, (.iadd, (sv_N, (1215, (0, []))))), (1215, (.iaload, (sv_N, (1216, (0, []))))), (1216, (.invokevirtual 153, (sv_N, (1219, (0, []))))), (1219, (.if_icmp .eq 166, (sv_N, (1222, (1385, []))))), (1222, (.iconst 0, (.inl (0 : Int32), (1223, (0, []))))), (1223, (.ireturn, (sv_N, (1224, (0, [])))))]
theorem dl_33 : cl_33.all (sv_dk code) = true := by decide +kernel
set_option maxRecDepth 20000 in
theorem el_33 (L : Nat) (xs : Nat → Int32) (i : Nat) (σ : sv_S) : sv_ex (lw_ev [(1202, (3, .inl n_On_ask)), (1216, (3, .inl n_Mo_ask))] L xs) lw_rt (fun pc => sv_lk pc [(1385, lw_k i)]) cl_33 60 1191 (lw_lo i) [] σ = lw_rd L xs (nI i) 1 (fun x1 => lw_rd L xs (nI i) 2 (fun x2 => sv_b (f_On_ask x1 x2 σ) (fun v σ => lw_rd L xs (nI i) 1 (fun y1 => lw_rd L xs (nI i) 2 (fun y2 => sv_b (f_Mo_ask y1 y2 σ) (fun w σ => sv_if (v = w) (lw_k i (lw_lo i) [] σ) (lw_rt (.inl 0) σ))))))) := by
  delta lw_ev n_On_ask n_Mo_ask lw_rd
  generalize f_On_ask = c0
  generalize f_Mo_ask = c1
  generalize lw_k i = c2
  generalize lw_rt = c3
  rfl
set_option maxRecDepth 20000 in
theorem la_33 (X : lw_X p s m meth c b L xs cells slots ad dC dI cA) {i : Nat} (hi : i + 6 ≤ L) (hL : L ≤ 384) {σ : sv_S} (hR : R_A σ) (next : ∀ υ, R_A υ → sv_T (lw_G p l e s m b below meth c cells slots ad dC dI cA n0) 1385 (lw_lo i) [] υ) : sv_T (lw_G p l e s m b below meth c cells slots ad dC dI cA n0) 1191 (lw_lo i) [] σ := by
  obtain ⟨v, σ1, σ2, h1, h2, h3⟩ := R_ask (xs (i + 1)) (xs (i + 2)) σ hR
  refine sv_run (lw_ok X (cs := [(1202, (3, .inl n_On_ask)), (1216, (3, .inl n_Mo_ask))]) ?_) dl_33 (K := fun pc => sv_lk pc [(1385, lw_k i)]) (lw_Kok next) 60 1191 (lw_lo i) [] σ ?_
  · exact List.forall_mem_cons.mpr ⟨(sv_cV X.1 X.2.2.2.1.1 (m_On_ask l) ⟨Nat.le_of_ble_eq_true rfl, Nat.le_of_ble_eq_true rfl⟩ (by decide) X.2.2.2.2.2.2 rfl (g_On_ask) (sv_w5 tw_948 tw_949 tw_950 tw_53 tw_951) (by decide +kernel) (sv_dc3 dl_33 (pc := 1202) rfl rfl)).I, List.forall_mem_cons.mpr ⟨(sv_cV X.1 X.2.2.2.1.1 (m_Mo_ask l) ⟨Nat.le_of_ble_eq_true rfl, Nat.le_of_ble_eq_true rfl⟩ (by decide) X.2.2.2.2.2.2 rfl (g_Mo_ask) (sv_w5 tw_1449 tw_1450 tw_1451 tw_65 tw_1452) (by decide +kernel) (sv_dc3 dl_33 (pc := 1216) rfl rfl)).I, fun _ h => absurd h List.not_mem_nil⟩⟩
  · rw [el_33, lw_rd1 hi hL, lw_rd2 hi hL, h1, pz_b, lw_rd1 hi hL, lw_rd2 hi hL, h2, pz_b, sv_if_t rfl]
    exact lw_k_t h3
def cl_34 : sv_C := [(1224, (.aload_n 1, (sv_N, (1225, (0, []))))), (1225, (.aload_n 0, (sv_N, (1226, (0, []))))), (1226, (.iload_n 3, (sv_N, (1227, (0, []))))), (1227, (.iconst 1, (.inl (1 : Int32), (1228, (0, []))))), (1228, (.iadd, (sv_N, (1229, (0, []))))), (1229, (.iaload, (sv_N, (1230, (0, []))))), (1230, (.aload_n 0, (sv_N, (1231, (0, []))))), (1231, (.iload_n 3, (sv_N, (1232, (0, []))))), (1232, (.iconst 2, (.inl (2 : Int32), (1233, (0, []))))), (1233, (.iadd, (sv_N, (1234, (0, []))))), (1234, (.iaload, (sv_N, (1235, (0, []))))), (1235, (.invokevirtual 154, (sv_N, (1238, (0, []))))), (1238, (.aload_n 2, (sv_N, (1239, (0, []))))), (1239, (.aload_n 0, (sv_N, (1240, (0, []))))), (1240, (.iload_n 3, (sv_N, (1241, (0, []))))), (1241, (.iconst 1, (.inl (1 : Int32), (1242, (0, []))))), (1242, (.iadd, (sv_N, (1243, (0, []))))), (1243, (.iaload, (sv_N, (1244, (0, []))))), (1244, (.aload_n 0, (sv_N, (1245, (0, []))))), (1245, (.iload_n 3, (sv_N, (1246, (0, []))))), (1246, (.iconst 2, (.inl (2 : Int32), (1247, (0, []))))), (1247, (.iadd, (sv_N, (1248, (0, []))))), (1248, (.iaload, (sv_N, (1249, (0, []))))), (1249, (.invokevirtual 157, (sv_N, (1252, (0, []))))), (1252, (.if_icmp .eq 133, (sv_N, (1255, (1385, []))))), (1255, (.iconst 0, (.inl (0 : Int32), (1256, (0, []))))), (1256, (.ireturn, (sv_N, (1257, (0, [])))))]
theorem dl_34 : cl_34.all (sv_dk code) = true := by decide +kernel
set_option maxRecDepth 20000 in
theorem el_34 (L : Nat) (xs : Nat → Int32) (i : Nat) (σ : sv_S) : sv_ex (lw_ev [(1235, (3, .inl n_On_item)), (1249, (3, .inl n_Mo_item))] L xs) lw_rt (fun pc => sv_lk pc [(1385, lw_k i)]) cl_34 60 1224 (lw_lo i) [] σ = lw_rd L xs (nI i) 1 (fun x1 => lw_rd L xs (nI i) 2 (fun x2 => sv_b (f_On_item x1 x2 σ) (fun v σ => lw_rd L xs (nI i) 1 (fun y1 => lw_rd L xs (nI i) 2 (fun y2 => sv_b (f_Mo_item y1 y2 σ) (fun w σ => sv_if (v = w) (lw_k i (lw_lo i) [] σ) (lw_rt (.inl 0) σ))))))) := by
  delta lw_ev n_On_item n_Mo_item lw_rd
  generalize f_On_item = c0
  generalize f_Mo_item = c1
  generalize lw_k i = c2
  generalize lw_rt = c3
  rfl
set_option maxRecDepth 20000 in
theorem la_34 (X : lw_X p s m meth c b L xs cells slots ad dC dI cA) {i : Nat} (hi : i + 6 ≤ L) (hL : L ≤ 384) {σ : sv_S} (hR : R_A σ) (next : ∀ υ, R_A υ → sv_T (lw_G p l e s m b below meth c cells slots ad dC dI cA n0) 1385 (lw_lo i) [] υ) : sv_T (lw_G p l e s m b below meth c cells slots ad dC dI cA n0) 1224 (lw_lo i) [] σ := by
  obtain ⟨v, σ1, σ2, h1, h2, h3⟩ := R_item (xs (i + 1)) (xs (i + 2)) σ hR
  refine sv_run (lw_ok X (cs := [(1235, (3, .inl n_On_item)), (1249, (3, .inl n_Mo_item))]) ?_) dl_34 (K := fun pc => sv_lk pc [(1385, lw_k i)]) (lw_Kok next) 60 1224 (lw_lo i) [] σ ?_
  · exact List.forall_mem_cons.mpr ⟨(sv_cV X.1 X.2.2.2.1.1 (m_On_item l) ⟨Nat.le_of_ble_eq_true rfl, Nat.le_of_ble_eq_true rfl⟩ (by decide) X.2.2.2.2.2.2 rfl (g_On_item) (sv_w5 tw_952 tw_953 tw_954 tw_53 tw_955) (by decide +kernel) (sv_dc3 dl_34 (pc := 1235) rfl rfl)).I, List.forall_mem_cons.mpr ⟨(sv_cV X.1 X.2.2.2.1.1 (m_Mo_item l) ⟨Nat.le_of_ble_eq_true rfl, Nat.le_of_ble_eq_true rfl⟩ (by decide) X.2.2.2.2.2.2 rfl (g_Mo_item) (sv_w5 tw_1453 tw_1454 tw_1455 tw_65 tw_1456) (by decide +kernel) (sv_dc3 dl_34 (pc := 1249) rfl rfl)).I, fun _ h => absurd h List.not_mem_nil⟩⟩
  · rw [el_34, lw_rd1 hi hL, lw_rd2 hi hL, h1, pz_b, lw_rd1 hi hL, lw_rd2 hi hL, h2, pz_b, sv_if_t rfl]
    exact lw_k_t h3
def cl_35 : sv_C := [(1257, (.aload_n 1, (sv_N, (1258, (0, []))))), (1258, (.aload_n 0, (sv_N, (1259, (0, []))))), (1259, (.iload_n 3, (sv_N, (1260, (0, []))))), (1260, (.iconst 1, (.inl (1 : Int32), (1261, (0, []))))), (1261, (.iadd, (sv_N, (1262, (0, []))))), (1262, (.iaload, (sv_N, (1263, (0, []))))), (1263, (.aload_n 0, (sv_N, (1264, (0, []))))), (1264, (.iload_n 3, (sv_N, (1265, (0, []))))), (1265, (.iconst 2, (.inl (2 : Int32), (1266, (0, []))))), (1266, (.iadd, (sv_N, (1267, (0, []))))), (1267, (.iaload, (sv_N, (1268, (0, []))))), (1268, (.invokevirtual 158, (sv_N, (1271, (0, []))))), (1271, (.aload_n 2, (sv_N, (1272, (0, []))))), (1272, (.aload_n 0, (sv_N, (1273, (0, []))))), (1273, (.iload_n 3, (sv_N, (1274, (0, []))))), (1274, (.iconst 1, (.inl (1 : Int32), (1275, (0, []))))), (1275, (.iadd, (sv_N, (1276, (0, []))))), (1276, (.iaload, (sv_N, (1277, (0, []))))), (1277, (.aload_n 0, (sv_N, (1278, (0, []))))), (1278, (.iload_n 3, (sv_N, (1279, (0, []))))), (1279, (.iconst 2, (.inl (2 : Int32), (1280, (0, []))))), (1280, (.iadd, (sv_N, (1281, (0, []))))), (1281, (.iaload, (sv_N, (1282, (0, []))))), (1282, (.invokevirtual 161, (sv_N, (1285, (0, []))))), (1285, (.if_icmp .eq 100, (sv_N, (1288, (1385, []))))), (1288, (.iconst 0, (.inl (0 : Int32), (1289, (0, []))))), (1289, (.ireturn, (sv_N, (1290, (0, [])))))]
theorem dl_35 : cl_35.all (sv_dk code) = true := by decide +kernel
set_option maxRecDepth 20000 in
theorem el_35 (L : Nat) (xs : Nat → Int32) (i : Nat) (σ : sv_S) : sv_ex (lw_ev [(1268, (3, .inl n_On_rest)), (1282, (3, .inl n_Mo_rest))] L xs) lw_rt (fun pc => sv_lk pc [(1385, lw_k i)]) cl_35 60 1257 (lw_lo i) [] σ = lw_rd L xs (nI i) 1 (fun x1 => lw_rd L xs (nI i) 2 (fun x2 => sv_b (f_On_rest x1 x2 σ) (fun v σ => lw_rd L xs (nI i) 1 (fun y1 => lw_rd L xs (nI i) 2 (fun y2 => sv_b (f_Mo_rest y1 y2 σ) (fun w σ => sv_if (v = w) (lw_k i (lw_lo i) [] σ) (lw_rt (.inl 0) σ))))))) := by
  delta lw_ev n_On_rest n_Mo_rest lw_rd
  generalize f_On_rest = c0
  generalize f_Mo_rest = c1
  generalize lw_k i = c2
  generalize lw_rt = c3
  rfl
set_option maxRecDepth 20000 in
theorem la_35 (X : lw_X p s m meth c b L xs cells slots ad dC dI cA) {i : Nat} (hi : i + 6 ≤ L) (hL : L ≤ 384) {σ : sv_S} (hR : R_A σ) (next : ∀ υ, R_A υ → sv_T (lw_G p l e s m b below meth c cells slots ad dC dI cA n0) 1385 (lw_lo i) [] υ) : sv_T (lw_G p l e s m b below meth c cells slots ad dC dI cA n0) 1257 (lw_lo i) [] σ := by
  obtain ⟨v, σ1, σ2, h1, h2, h3⟩ := R_rest (xs (i + 1)) (xs (i + 2)) σ hR
  refine sv_run (lw_ok X (cs := [(1268, (3, .inl n_On_rest)), (1282, (3, .inl n_Mo_rest))]) ?_) dl_35 (K := fun pc => sv_lk pc [(1385, lw_k i)]) (lw_Kok next) 60 1257 (lw_lo i) [] σ ?_
  · exact List.forall_mem_cons.mpr ⟨(sv_cV X.1 X.2.2.2.1.1 (m_On_rest l) ⟨Nat.le_of_ble_eq_true rfl, Nat.le_of_ble_eq_true rfl⟩ (by decide) X.2.2.2.2.2.2 rfl (g_On_rest) (sv_w5 tw_956 tw_957 tw_958 tw_53 tw_959) (by decide +kernel) (sv_dc3 dl_35 (pc := 1268) rfl rfl)).I, List.forall_mem_cons.mpr ⟨(sv_cV X.1 X.2.2.2.1.1 (m_Mo_rest l) ⟨Nat.le_of_ble_eq_true rfl, Nat.le_of_ble_eq_true rfl⟩ (by decide) X.2.2.2.2.2.2 rfl (g_Mo_rest) (sv_w5 tw_1457 tw_1458 tw_1459 tw_65 tw_1460) (by decide +kernel) (sv_dc3 dl_35 (pc := 1282) rfl rfl)).I, fun _ h => absurd h List.not_mem_nil⟩⟩
  · rw [el_35, lw_rd1 hi hL, lw_rd2 hi hL, h1, pz_b, lw_rd1 hi hL, lw_rd2 hi hL, h2, pz_b, sv_if_t rfl]
    exact lw_k_t h3
def cl_36 : sv_C := [(1290, (.aload_n 1, (sv_N, (1291, (0, []))))), (1291, (.aload_n 0, (sv_N, (1292, (0, []))))), (1292, (.iload_n 3, (sv_N, (1293, (0, []))))), (1293, (.iconst 1, (.inl (1 : Int32), (1294, (0, []))))), (1294, (.iadd, (sv_N, (1295, (0, []))))), (1295, (.iaload, (sv_N, (1296, (0, []))))), (1296, (.invokevirtual 162, (sv_N, (1299, (0, []))))), (1299, (.aload_n 2, (sv_N, (1300, (0, []))))), (1300, (.aload_n 0, (sv_N, (1301, (0, []))))), (1301, (.iload_n 3, (sv_N, (1302, (0, []))))), (1302, (.iconst 1, (.inl (1 : Int32), (1303, (0, []))))), (1303, (.iadd, (sv_N, (1304, (0, []))))), (1304, (.iaload, (sv_N, (1305, (0, []))))), (1305, (.invokevirtual 165, (sv_N, (1308, (0, []))))), (1308, (.if_icmp .eq 77, (sv_N, (1311, (1385, []))))), (1311, (.iconst 0, (.inl (0 : Int32), (1312, (0, []))))), (1312, (.ireturn, (sv_N, (1313, (0, [])))))]
theorem dl_36 : cl_36.all (sv_dk code) = true := by decide +kernel
set_option maxRecDepth 20000 in
theorem el_36 (L : Nat) (xs : Nat → Int32) (i : Nat) (σ : sv_S) : sv_ex (lw_ev [(1296, (2, .inl n_On_tell)), (1305, (2, .inl n_Mo_tell))] L xs) lw_rt (fun pc => sv_lk pc [(1385, lw_k i)]) cl_36 60 1290 (lw_lo i) [] σ = lw_rd L xs (nI i) 1 (fun x1 => sv_b (f_On_tell x1 σ) (fun v σ => lw_rd L xs (nI i) 1 (fun y1 => sv_b (f_Mo_tell y1 σ) (fun w σ => sv_if (v = w) (lw_k i (lw_lo i) [] σ) (lw_rt (.inl 0) σ))))) := by
  delta lw_ev n_On_tell n_Mo_tell lw_rd
  generalize f_On_tell = c0
  generalize f_Mo_tell = c1
  generalize lw_k i = c2
  generalize lw_rt = c3
  rfl
set_option maxRecDepth 20000 in
theorem la_36 (X : lw_X p s m meth c b L xs cells slots ad dC dI cA) {i : Nat} (hi : i + 6 ≤ L) (hL : L ≤ 384) {σ : sv_S} (hR : R_A σ) (next : ∀ υ, R_A υ → sv_T (lw_G p l e s m b below meth c cells slots ad dC dI cA n0) 1385 (lw_lo i) [] υ) : sv_T (lw_G p l e s m b below meth c cells slots ad dC dI cA n0) 1290 (lw_lo i) [] σ := by
  obtain ⟨v, σ1, σ2, h1, h2, h3⟩ := R_tell (xs (i + 1)) σ hR
  refine sv_run (lw_ok X (cs := [(1296, (2, .inl n_On_tell)), (1305, (2, .inl n_Mo_tell))]) ?_) dl_36 (K := fun pc => sv_lk pc [(1385, lw_k i)]) (lw_Kok next) 60 1290 (lw_lo i) [] σ ?_
  · exact List.forall_mem_cons.mpr ⟨(sv_cV X.1 X.2.2.2.1.1 (m_On_tell l) ⟨Nat.le_of_ble_eq_true rfl, Nat.le_of_ble_eq_true rfl⟩ (by decide) X.2.2.2.2.2.2 rfl (g_On_tell) (sv_w5 tw_960 tw_961 tw_962 tw_53 tw_963) (by decide +kernel) (sv_dc3 dl_36 (pc := 1296) rfl rfl)).I, List.forall_mem_cons.mpr ⟨(sv_cV X.1 X.2.2.2.1.1 (m_Mo_tell l) ⟨Nat.le_of_ble_eq_true rfl, Nat.le_of_ble_eq_true rfl⟩ (by decide) X.2.2.2.2.2.2 rfl (g_Mo_tell) (sv_w5 tw_1461 tw_1462 tw_1463 tw_65 tw_1464) (by decide +kernel) (sv_dc3 dl_36 (pc := 1305) rfl rfl)).I, fun _ h => absurd h List.not_mem_nil⟩⟩
  · rw [el_36, lw_rd1 hi hL, h1, pz_b, lw_rd1 hi hL, h2, pz_b, sv_if_t rfl]
    exact lw_k_t h3
def cl_37 : sv_C := [(1313, (.aload_n 1, (sv_N, (1314, (0, []))))), (1314, (.aload_n 0, (sv_N, (1315, (0, []))))), (1315, (.iload_n 3, (sv_N, (1316, (0, []))))), (1316, (.iconst 1, (.inl (1 : Int32), (1317, (0, []))))), (1317, (.iadd, (sv_N, (1318, (0, []))))), (1318, (.iaload, (sv_N, (1319, (0, []))))), (1319, (.invokevirtual 166, (sv_N, (1322, (0, []))))), (1322, (.aload_n 2, (sv_N, (1323, (0, []))))), (1323, (.aload_n 0, (sv_N, (1324, (0, []))))), (1324, (.iload_n 3, (sv_N, (1325, (0, []))))), (1325, (.iconst 1, (.inl (1 : Int32), (1326, (0, []))))), (1326, (.iadd, (sv_N, (1327, (0, []))))), (1327, (.iaload, (sv_N, (1328, (0, []))))), (1328, (.invokevirtual 169, (sv_N, (1331, (0, []))))), (1331, (.if_icmp .eq 54, (sv_N, (1334, (1385, []))))), (1334, (.iconst 0, (.inl (0 : Int32), (1335, (0, []))))), (1335, (.ireturn, (sv_N, (1336, (0, [])))))]
theorem dl_37 : cl_37.all (sv_dk code) = true := by decide +kernel
set_option maxRecDepth 20000 in
theorem el_37 (L : Nat) (xs : Nat → Int32) (i : Nat) (σ : sv_S) : sv_ex (lw_ev [(1319, (2, .inl n_On_check)), (1328, (2, .inl n_Mo_check))] L xs) lw_rt (fun pc => sv_lk pc [(1385, lw_k i)]) cl_37 60 1313 (lw_lo i) [] σ = lw_rd L xs (nI i) 1 (fun x1 => sv_b (f_On_check x1 σ) (fun v σ => lw_rd L xs (nI i) 1 (fun y1 => sv_b (f_Mo_check y1 σ) (fun w σ => sv_if (v = w) (lw_k i (lw_lo i) [] σ) (lw_rt (.inl 0) σ))))) := by
  delta lw_ev n_On_check n_Mo_check lw_rd
  generalize f_On_check = c0
  generalize f_Mo_check = c1
  generalize lw_k i = c2
  generalize lw_rt = c3
  rfl
set_option maxRecDepth 20000 in
theorem la_37 (X : lw_X p s m meth c b L xs cells slots ad dC dI cA) {i : Nat} (hi : i + 6 ≤ L) (hL : L ≤ 384) {σ : sv_S} (hR : R_A σ) (next : ∀ υ, R_A υ → sv_T (lw_G p l e s m b below meth c cells slots ad dC dI cA n0) 1385 (lw_lo i) [] υ) : sv_T (lw_G p l e s m b below meth c cells slots ad dC dI cA n0) 1313 (lw_lo i) [] σ := by
  obtain ⟨v, σ1, σ2, h1, h2, h3⟩ := R_check (xs (i + 1)) σ hR
  refine sv_run (lw_ok X (cs := [(1319, (2, .inl n_On_check)), (1328, (2, .inl n_Mo_check))]) ?_) dl_37 (K := fun pc => sv_lk pc [(1385, lw_k i)]) (lw_Kok next) 60 1313 (lw_lo i) [] σ ?_
  · exact List.forall_mem_cons.mpr ⟨(sv_cV X.1 X.2.2.2.1.1 (m_On_check l) ⟨Nat.le_of_ble_eq_true rfl, Nat.le_of_ble_eq_true rfl⟩ (by decide) X.2.2.2.2.2.2 rfl (g_On_check) (sv_w5 tw_964 tw_965 tw_966 tw_53 tw_967) (by decide +kernel) (sv_dc3 dl_37 (pc := 1319) rfl rfl)).I, List.forall_mem_cons.mpr ⟨(sv_cV X.1 X.2.2.2.1.1 (m_Mo_check l) ⟨Nat.le_of_ble_eq_true rfl, Nat.le_of_ble_eq_true rfl⟩ (by decide) X.2.2.2.2.2.2 rfl (g_Mo_check) (sv_w5 tw_1465 tw_1466 tw_1467 tw_65 tw_1468) (by decide +kernel) (sv_dc3 dl_37 (pc := 1328) rfl rfl)).I, fun _ h => absurd h List.not_mem_nil⟩⟩
  · rw [el_37, lw_rd1 hi hL, h1, pz_b, lw_rd1 hi hL, h2, pz_b, sv_if_t rfl]
    exact lw_k_t h3
def cl_38 : sv_C := [(1336, (.aload_n 1, (sv_N, (1337, (0, []))))), (1337, (.invokevirtual 170, (sv_N, (1340, (0, []))))), (1340, (.aload_n 2, (sv_N, (1341, (0, []))))), (1341, (.invokevirtual 173, (sv_N, (1344, (0, []))))), (1344, (.if_icmp .eq 41, (sv_N, (1347, (1385, []))))), (1347, (.iconst 0, (.inl (0 : Int32), (1348, (0, []))))), (1348, (.ireturn, (sv_N, (1349, (0, [])))))]
theorem dl_38 : cl_38.all (sv_dk code) = true := by decide +kernel
set_option maxRecDepth 20000 in
theorem el_38 (L : Nat) (xs : Nat → Int32) (i : Nat) (σ : sv_S) : sv_ex (lw_ev [(1337, (1, .inl n_On_keep)), (1341, (1, .inl n_Mo_keep))] L xs) lw_rt (fun pc => sv_lk pc [(1385, lw_k i)]) cl_38 60 1336 (lw_lo i) [] σ = sv_b (f_On_keep σ) (fun v σ => sv_b (f_Mo_keep σ) (fun w σ => sv_if (v = w) (lw_k i (lw_lo i) [] σ) (lw_rt (.inl 0) σ))) := by
  delta lw_ev n_On_keep n_Mo_keep lw_rd
  generalize f_On_keep = c0
  generalize f_Mo_keep = c1
  generalize lw_k i = c2
  generalize lw_rt = c3
  rfl
set_option maxRecDepth 20000 in
theorem la_38 (X : lw_X p s m meth c b L xs cells slots ad dC dI cA) {i : Nat} (hi : i + 6 ≤ L) (hL : L ≤ 384) {σ : sv_S} (hR : R_A σ) (next : ∀ υ, R_A υ → sv_T (lw_G p l e s m b below meth c cells slots ad dC dI cA n0) 1385 (lw_lo i) [] υ) : sv_T (lw_G p l e s m b below meth c cells slots ad dC dI cA n0) 1336 (lw_lo i) [] σ := by
  obtain ⟨v, σ1, σ2, h1, h2, h3⟩ := R_keep σ hR
  refine sv_run (lw_ok X (cs := [(1337, (1, .inl n_On_keep)), (1341, (1, .inl n_Mo_keep))]) ?_) dl_38 (K := fun pc => sv_lk pc [(1385, lw_k i)]) (lw_Kok next) 60 1336 (lw_lo i) [] σ ?_
  · exact List.forall_mem_cons.mpr ⟨(sv_cV X.1 X.2.2.2.1.1 (m_On_keep l) ⟨Nat.le_of_ble_eq_true rfl, Nat.le_of_ble_eq_true rfl⟩ (by decide) X.2.2.2.2.2.2 rfl (g_On_keep) (sv_w5 tw_972 tw_973 tw_974 tw_53 tw_975) (by decide +kernel) (sv_dc3 dl_38 (pc := 1337) rfl rfl)).I, List.forall_mem_cons.mpr ⟨(sv_cV X.1 X.2.2.2.1.1 (m_Mo_keep l) ⟨Nat.le_of_ble_eq_true rfl, Nat.le_of_ble_eq_true rfl⟩ (by decide) X.2.2.2.2.2.2 rfl (g_Mo_keep) (sv_w5 tw_1477 tw_1478 tw_1479 tw_65 tw_1480) (by decide +kernel) (sv_dc3 dl_38 (pc := 1341) rfl rfl)).I, fun _ h => absurd h List.not_mem_nil⟩⟩
  · rw [el_38, h1, pz_b, h2, pz_b, sv_if_t rfl]
    exact lw_k_t h3
def cl_39 : sv_C := [(1349, (.aload_n 1, (sv_N, (1350, (0, []))))), (1350, (.invokevirtual 174, (sv_N, (1353, (0, []))))), (1353, (.aload_n 2, (sv_N, (1354, (0, []))))), (1354, (.invokevirtual 177, (sv_N, (1357, (0, []))))), (1357, (.if_icmp .eq 28, (sv_N, (1360, (1385, []))))), (1360, (.iconst 0, (.inl (0 : Int32), (1361, (0, []))))), (1361, (.ireturn, (sv_N, (1362, (0, [])))))]
theorem dl_39 : cl_39.all (sv_dk code) = true := by decide +kernel
set_option maxRecDepth 20000 in
theorem el_39 (L : Nat) (xs : Nat → Int32) (i : Nat) (σ : sv_S) : sv_ex (lw_ev [(1350, (1, .inl n_On_back)), (1354, (1, .inl n_Mo_back))] L xs) lw_rt (fun pc => sv_lk pc [(1385, lw_k i)]) cl_39 60 1349 (lw_lo i) [] σ = sv_b (f_On_back σ) (fun v σ => sv_b (f_Mo_back σ) (fun w σ => sv_if (v = w) (lw_k i (lw_lo i) [] σ) (lw_rt (.inl 0) σ))) := by
  delta lw_ev n_On_back n_Mo_back lw_rd
  generalize f_On_back = c0
  generalize f_Mo_back = c1
  generalize lw_k i = c2
  generalize lw_rt = c3
  rfl
set_option maxRecDepth 20000 in
theorem la_39 (X : lw_X p s m meth c b L xs cells slots ad dC dI cA) {i : Nat} (hi : i + 6 ≤ L) (hL : L ≤ 384) {σ : sv_S} (hR : R_A σ) (next : ∀ υ, R_A υ → sv_T (lw_G p l e s m b below meth c cells slots ad dC dI cA n0) 1385 (lw_lo i) [] υ) : sv_T (lw_G p l e s m b below meth c cells slots ad dC dI cA n0) 1349 (lw_lo i) [] σ := by
  obtain ⟨v, σ1, σ2, h1, h2, h3⟩ := R_back σ hR
  refine sv_run (lw_ok X (cs := [(1350, (1, .inl n_On_back)), (1354, (1, .inl n_Mo_back))]) ?_) dl_39 (K := fun pc => sv_lk pc [(1385, lw_k i)]) (lw_Kok next) 60 1349 (lw_lo i) [] σ ?_
  · exact List.forall_mem_cons.mpr ⟨(sv_cV X.1 X.2.2.2.1.1 (m_On_back l) ⟨Nat.le_of_ble_eq_true rfl, Nat.le_of_ble_eq_true rfl⟩ (by decide) X.2.2.2.2.2.2 rfl (g_On_back) (sv_w5 tw_976 tw_977 tw_978 tw_53 tw_979) (by decide +kernel) (sv_dc3 dl_39 (pc := 1350) rfl rfl)).I, List.forall_mem_cons.mpr ⟨(sv_cV X.1 X.2.2.2.1.1 (m_Mo_back l) ⟨Nat.le_of_ble_eq_true rfl, Nat.le_of_ble_eq_true rfl⟩ (by decide) X.2.2.2.2.2.2 rfl (g_Mo_back) (sv_w5 tw_1481 tw_1482 tw_1483 tw_65 tw_1484) (by decide +kernel) (sv_dc3 dl_39 (pc := 1354) rfl rfl)).I, fun _ h => absurd h List.not_mem_nil⟩⟩
  · rw [el_39, h1, pz_b, h2, pz_b, sv_if_t rfl]
    exact lw_k_t h3
def cl_40 : sv_C := [(1362, (.aload_n 1, (sv_N, (1363, (0, []))))), (1363, (.aload_n 0, (sv_N, (1364, (0, []))))), (1364, (.iload_n 3, (sv_N, (1365, (0, []))))), (1365, (.iconst 1, (.inl (1 : Int32), (1366, (0, []))))), (1366, (.iadd, (sv_N, (1367, (0, []))))), (1367, (.iaload, (sv_N, (1368, (0, []))))), (1368, (.invokevirtual 178, (sv_N, (1371, (0, []))))), (1371, (.aload_n 2, (sv_N, (1372, (0, []))))), (1372, (.aload_n 0, (sv_N, (1373, (0, []))))), (1373, (.iload_n 3, (sv_N, (1374, (0, []))))), (1374, (.iconst 1, (.inl (1 : Int32), (1375, (0, []))))), (1375, (.iadd, (sv_N, (1376, (0, []))))), (1376, (.iaload, (sv_N, (1377, (0, []))))), (1377, (.invokevirtual 181, (sv_N, (1380, (0, []))))), (1380, (.if_icmp .eq 5, (sv_N, (1383, (1385, []))))), (1383, (.iconst 0, (.inl (0 : Int32), (1384, (0, []))))), (1384, (.ireturn, (sv_N, (1385, (0, [])))))]
theorem dl_40 : cl_40.all (sv_dk code) = true := by decide +kernel
set_option maxRecDepth 20000 in
theorem el_40 (L : Nat) (xs : Nat → Int32) (i : Nat) (σ : sv_S) : sv_ex (lw_ev [(1368, (2, .inl n_On_count)), (1377, (2, .inl n_Mo_count))] L xs) lw_rt (fun pc => sv_lk pc [(1385, lw_k i)]) cl_40 60 1362 (lw_lo i) [] σ = lw_rd L xs (nI i) 1 (fun x1 => sv_b (f_On_count x1 σ) (fun v σ => lw_rd L xs (nI i) 1 (fun y1 => sv_b (f_Mo_count y1 σ) (fun w σ => sv_if (v = w) (lw_k i (lw_lo i) [] σ) (lw_rt (.inl 0) σ))))) := by
  delta lw_ev n_On_count n_Mo_count lw_rd
  generalize f_On_count = c0
  generalize f_Mo_count = c1
  generalize lw_k i = c2
  generalize lw_rt = c3
  rfl
set_option maxRecDepth 20000 in
theorem la_40 (X : lw_X p s m meth c b L xs cells slots ad dC dI cA) {i : Nat} (hi : i + 6 ≤ L) (hL : L ≤ 384) {σ : sv_S} (hR : R_A σ) (next : ∀ υ, R_A υ → sv_T (lw_G p l e s m b below meth c cells slots ad dC dI cA n0) 1385 (lw_lo i) [] υ) : sv_T (lw_G p l e s m b below meth c cells slots ad dC dI cA n0) 1362 (lw_lo i) [] σ := by
  obtain ⟨v, σ1, σ2, h1, h2, h3⟩ := R_count (xs (i + 1)) σ hR
  refine sv_run (lw_ok X (cs := [(1368, (2, .inl n_On_count)), (1377, (2, .inl n_Mo_count))]) ?_) dl_40 (K := fun pc => sv_lk pc [(1385, lw_k i)]) (lw_Kok next) 60 1362 (lw_lo i) [] σ ?_
  · exact List.forall_mem_cons.mpr ⟨(sv_cV X.1 X.2.2.2.1.1 (m_On_count l) ⟨Nat.le_of_ble_eq_true rfl, Nat.le_of_ble_eq_true rfl⟩ (by decide) X.2.2.2.2.2.2 rfl (g_On_count) (sv_w5 tw_980 tw_981 tw_982 tw_53 tw_983) (by decide +kernel) (sv_dc3 dl_40 (pc := 1368) rfl rfl)).I, List.forall_mem_cons.mpr ⟨(sv_cV X.1 X.2.2.2.1.1 (m_Mo_count l) ⟨Nat.le_of_ble_eq_true rfl, Nat.le_of_ble_eq_true rfl⟩ (by decide) X.2.2.2.2.2.2 rfl (g_Mo_count) (sv_w5 tw_1485 tw_1486 tw_1487 tw_65 tw_1488) (by decide +kernel) (sv_dc3 dl_40 (pc := 1377) rfl rfl)).I, fun _ h => absurd h List.not_mem_nil⟩⟩
  · rw [el_40, lw_rd1 hi hL, h1, pz_b, lw_rd1 hi hL, h2, pz_b, sv_if_t rfl]
    exact lw_k_t h3
end LWA
