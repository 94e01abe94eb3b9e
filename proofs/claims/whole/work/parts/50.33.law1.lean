theorem dL_law_1233 : decode cL_law 1233 = .ok (.aload_n 1, 1) := by decide +kernel
theorem dL_law_1234 : decode cL_law 1234 = .ok (.aload_n 0, 1) := by decide +kernel
theorem dL_law_1235 : decode cL_law 1235 = .ok (.iload 4, 2) := by decide +kernel
theorem dL_law_1237 : decode cL_law 1237 = .ok (.iconst 1, 1) := by decide +kernel
theorem dL_law_1238 : decode cL_law 1238 = .ok (.iadd, 1) := by decide +kernel
theorem dL_law_1239 : decode cL_law 1239 = .ok (.iaload, 1) := by decide +kernel
theorem dL_law_1240 : decode cL_law 1240 = .ok (.aload_n 0, 1) := by decide +kernel
theorem dL_law_1241 : decode cL_law 1241 = .ok (.iload 4, 2) := by decide +kernel
theorem dL_law_1243 : decode cL_law 1243 = .ok (.iconst 2, 1) := by decide +kernel
theorem dL_law_1244 : decode cL_law 1244 = .ok (.iadd, 1) := by decide +kernel
theorem dL_law_1245 : decode cL_law 1245 = .ok (.iaload, 1) := by decide +kernel
theorem dL_law_1246 : decode cL_law 1246 = .ok (.aload_n 3, 1) := by decide +kernel
theorem dL_law_1247 : decode cL_law 1247 = .ok (.invokestatic 191, 3) := by decide +kernel
theorem dL_law_1250 : decode cL_law 1250 = .ok (.istore 5, 2) := by decide +kernel
theorem dL_law_1252 : decode cL_law 1252 = .ok (.aload_n 2, 1) := by decide +kernel
theorem dL_law_1253 : decode cL_law 1253 = .ok (.aload_n 0, 1) := by decide +kernel
theorem dL_law_1254 : decode cL_law 1254 = .ok (.iload 4, 2) := by decide +kernel
theorem dL_law_1256 : decode cL_law 1256 = .ok (.iconst 1, 1) := by decide +kernel
theorem dL_law_1257 : decode cL_law 1257 = .ok (.iadd, 1) := by decide +kernel
theorem dL_law_1258 : decode cL_law 1258 = .ok (.iaload, 1) := by decide +kernel
theorem dL_law_1259 : decode cL_law 1259 = .ok (.aload_n 0, 1) := by decide +kernel
theorem dL_law_1260 : decode cL_law 1260 = .ok (.iload 4, 2) := by decide +kernel
theorem dL_law_1262 : decode cL_law 1262 = .ok (.iconst 2, 1) := by decide +kernel
theorem dL_law_1263 : decode cL_law 1263 = .ok (.iadd, 1) := by decide +kernel
theorem dL_law_1264 : decode cL_law 1264 = .ok (.iaload, 1) := by decide +kernel
theorem dL_law_1265 : decode cL_law 1265 = .ok (.invokevirtual 193, 3) := by decide +kernel
theorem dL_law_1268 : decode cL_law 1268 = .ok (.istore 6, 2) := by decide +kernel
theorem dL_law_1270 : decode cL_law 1270 = .ok (.aload_n 2, 1) := by decide +kernel
theorem dL_law_1271 : decode cL_law 1271 = .ok (.invokevirtual 139, 3) := by decide +kernel
theorem dL_law_1274 : decode cL_law 1274 = .ok (.iload 5, 2) := by decide +kernel
theorem dL_law_1276 : decode cL_law 1276 = .ok (.if_icmp .eq 5, 3) := by decide +kernel
theorem dL_law_1279 : decode cL_law 1279 = .ok (.iconst 0, 1) := by decide +kernel
theorem dL_law_1281 : decode cL_law 1281 = .ok (.iload 5, 2) := by decide +kernel
theorem dL_law_1283 : decode cL_law 1283 = .ok (.ifCond .ne 15, 3) := by decide +kernel
theorem dL_law_1286 : decode cL_law 1286 = .ok (.aload_n 3, 1) := by decide +kernel
theorem dL_law_1287 : decode cL_law 1287 = .ok (.iconst 0, 1) := by decide +kernel
theorem dL_law_1288 : decode cL_law 1288 = .ok (.laload, 1) := by decide +kernel
theorem dL_law_1289 : decode cL_law 1289 = .ok (.iload 6, 2) := by decide +kernel
theorem dL_law_1291 : decode cL_law 1291 = .ok (.i2l, 1) := by decide +kernel
theorem dL_law_1292 : decode cL_law 1292 = .ok (.lcmp, 1) := by decide +kernel
theorem dL_law_1293 : decode cL_law 1293 = .ok (.ifCond .eq 5, 3) := by decide +kernel
theorem dL_law_1296 : decode cL_law 1296 = .ok (.iconst 0, 1) := by decide +kernel
theorem dL_law_1298 : decode cL_law 1298 = .ok (.goto 1220, 3) := by decide +kernel
set_option maxRecDepth 20000 in
theorem ggL_law_L_object : GoodIn wsL_law wsL_object := goodIn_ca (goodIn_ca (goodIn_ca (goodIn_r _ [969, 146, 147, 970, 971, 972, 2, 973, 16, 974, 975, 153, 163, 164, 165, 158, 159, 160, 161, 162, 166, 167, 168, 169, 170, 976, 977, 978, 42, 979, 180, 58, 1369, 1370, 1371, 1372, 1373, 1374, 1375, 1376, 1397, 1398, 1399, 1400, 1401, 1402, 1403, 1404, 1424, 1425, 1426, 1427, 1428, 1429, 1430, 1431, 1432, 1433, 1434, 1435] (by decide +kernel) (by decide +kernel)) (goodIn_sub (fun _ h => List.mem_append_left _ (List.mem_append_left _ (List.mem_append_left _ (List.mem_append_left _ (List.mem_append_left _ (List.mem_append_right _ h)))))) (by decide +kernel))) (goodIn_sub (fun _ h => List.mem_append_left _ (List.mem_append_left _ (List.mem_append_left _ (List.mem_append_left _ (List.mem_append_right _ h))))) (by decide +kernel))) (goodIn_sub (fun _ h => List.mem_append_left _ (List.mem_append_left _ (List.mem_append_left _ (List.mem_append_right _ h)))) (by decide +kernel))
set_option maxRecDepth 20000 in
theorem gL_law_L_object : GoodIn wsL_law (va_wsS RL 191 yL_object wsL_object) := goodIn_app (goodIn_of _ (by decide +kernel)) ggL_law_L_object
set_option maxRecDepth 20000 in
theorem ggL_law_X9_object : GoodIn wsL_law wsX9_object := goodIn_ca (goodIn_r _ [983, 193, 132, 200, 201, 5, 202, 197, 198, 199, 1377, 1378, 1379, 1380, 1381, 1382, 1383, 1384, 1385, 1386, 1387, 1388, 1389, 1390, 1391, 1392, 1393, 1394, 1395, 1396] (by decide +kernel) (by decide +kernel)) (goodIn_sub (fun _ h => List.mem_append_left _ (List.mem_append_left _ (List.mem_append_left _ (List.mem_append_left _ (List.mem_append_left _ (List.mem_append_right _ h)))))) (by decide +kernel))
set_option maxRecDepth 20000 in
theorem gL_law_X9_object : GoodIn wsL_law (wsV RL 193 RX9 yX9_object wsX9_object) := goodIn_app (goodIn_of _ (by decide +kernel)) ggL_law_X9_object
set_option maxHeartbeats 4000000 in
set_option maxRecDepth 100000 in
theorem lc_1233 {p : Program} {e : Env} {s : State} {m : MethodId} {below : List Frame} {meth : Method} {c : Code} (l : Launch) (hfl : l.stackTraces = false) {b L : Nat} {xs : Nat → Int32} {Q : State → Prop} (C0 : lw_At p s m meth c b L xs) {G : zG} {ad : Nat → Nat} {σ' : zs} (C1 S1 : Nat) (hC : C1 + 28 ≤ 601024) (hS1 : S1 + 2612 ≤ 7293034) (K23 : zs → Int32 → Option (Int32 × zs)) (hK23 : ∀ (σ : zs) (v4 : Int32) (H : Heap) (locs : List Loc) (ls : Array Slot), K23 σ v4 = some (1, σ') → xB (fun q : Nat => s.heap.size ≤ q) s G ad σ H locs → lv_has ls 7 [(0, .ref b), (1, .ref (ad 0)), (2, .ref (ad 65)), (3, .ref (ad 75)), (4, .int v4)] → W p l e room_1 s m #[Value.ref b] below meth c H locs (C1 + 28) (S1 + 2612) Q (F0 m 23 ls [])) (σ : zs) (v4 : Int32) (H : Heap) (locs : List Loc) (ls : Array Slot) (hf : f_L_law_1233 L xs K23 σ v4 = some (1, σ')) (B : xB (fun q : Nat => s.heap.size ≤ q) s G ad σ H locs) (hl : lv_has ls 7 [(0, .ref b), (1, .ref (ad 0)), (2, .ref (ad 65)), (3, .ref (ad 75)), (4, .int v4)]) : W p l e room_1 s m #[Value.ref b] below meth c H locs C1 S1 Q (F0 m 1233 ls []) := by
  obtain ⟨hx, hb, hr, hml, hown, hts0, hX, hbl, hlocks, hgv⟩ := id C0
  have hts := fun w h => hts0 w (wsL_law_in w h)
  have hbA : ¬ (fun q : Nat => s.heap.size ≤ q) b := Nat.not_le.mpr hbl
  unfold f_L_law_1233 at hf
  refine lv_aload_n hx hb dL_law_1233 rfl (lv_at hl 1 rfl) ?_
  refine lv_aload_n hx hb dL_law_1234 rfl (lv_at hl 0 rfl) ?_
  refine lv_iload hx hb dL_law_1235 (lv_at hl 4 rfl) ?_
  refine lv_iconst (v := (1 : Int32)) hx hb dL_law_1237 (by decide) ?_
  refine lv_iadd hx hb dL_law_1238 ?_
  obtain ⟨hg, hf⟩ := zg_some hf
  refine va_sld hx hb hX hbl hbA (xS B) (zin_ok hg) dL_law_1239 ?_
  refine lv_aload_n hx hb dL_law_1240 rfl (lv_at hl 0 rfl) ?_
  refine lv_iload hx hb dL_law_1241 (lv_at hl 4 rfl) ?_
  refine lv_iconst (v := (2 : Int32)) hx hb dL_law_1243 (by decide) ?_
  refine lv_iadd hx hb dL_law_1244 ?_
  obtain ⟨hg, hf⟩ := zg_some hf
  refine va_sld hx hb hX hbl hbA (xS B) (zin_ok hg) dL_law_1245 ?_
  refine lv_aload_n hx hb dL_law_1246 rfl (lv_at hl 3 rfl) ?_
  obtain ⟨r2, σ3, hu1, hf⟩ := zb_some hf
  refine x_i B (fun nb a g hs Bz => vx_runSW (As := [.ref (ad 0), .int (xs (v4 + (1 : Int32)).toNatClampNeg), .int (xs (v4 + (2 : Int32)).toNatClampNeg), .ref (ad 75)]) (rest := []) ⟨hx, hb, hml, hown, hts⟩ (c_L_object_0_75 l hfl hu1 _ nb a g hs) (vx_cwSW 4 hts gL_law_L_object rfl rfl rfl (by decide +kernel) ⟨Nat.le_of_ble_eq_true rfl, Nat.le_of_ble_eq_true rfl⟩) (z_preS Bz) rfl rfl hl.1 rfl (lv_room (Nat.le_of_ble_eq_true rfl)) dL_law_1247 ⟨(show C1 + 2 ≤ 601024 by omega), (show S1 + 12 ≤ 7293034 by omega)⟩) (fun H locs B => ?_)
  refine lv_istore (lv' := [(5, .int r2), (0, .ref b), (1, .ref (ad 0)), (2, .ref (ad 65)), (3, .ref (ad 75)), (4, .int v4)]) hx hb dL_law_1250 hl (by decide) rfl (fun ls hl => ?_)
  refine lv_aload_n hx hb dL_law_1252 rfl (lv_at hl 3 rfl) ?_
  refine lv_aload_n hx hb dL_law_1253 rfl (lv_at hl 1 rfl) ?_
  refine lv_iload hx hb dL_law_1254 (lv_at hl 5 rfl) ?_
  refine lv_iconst (v := (1 : Int32)) hx hb dL_law_1256 (by decide) ?_
  refine lv_iadd hx hb dL_law_1257 ?_
  obtain ⟨hg, hf⟩ := zg_some hf
  refine va_sld hx hb hX hbl hbA (xS B) (zin_ok hg) dL_law_1258 ?_
  refine lv_aload_n hx hb dL_law_1259 rfl (lv_at hl 1 rfl) ?_
  refine lv_iload hx hb dL_law_1260 (lv_at hl 5 rfl) ?_
  refine lv_iconst (v := (2 : Int32)) hx hb dL_law_1262 (by decide) ?_
  refine lv_iadd hx hb dL_law_1263 ?_
  obtain ⟨hg, hf⟩ := zg_some hf
  refine va_sld hx hb hX hbl hbA (xS B) (zin_ok hg) dL_law_1264 ?_
  obtain ⟨r5, σ6, hu4, hf⟩ := zb_some hf
  refine x_i B (fun nb a g hs Bz => va_runV (As := [.int (xs (v4 + (1 : Int32)).toNatClampNeg), .int (xs (v4 + (2 : Int32)).toNatClampNeg)]) (rest := []) ⟨hx, hb, hml, hown, hts⟩ (c_X9_object l hu4 _ nb a g hs) (cwV 2 hts gL_law_X9_object rfl rfl rfl (by decide +kernel) ⟨Nat.le_of_ble_eq_true rfl, Nat.le_of_ble_eq_true rfl⟩) (x_preV Bz (by decide) (fun _ => rfl) rfl) rfl rfl hl.1 rfl (lv_room (Nat.le_of_ble_eq_true rfl)) dL_law_1265 ⟨(show C1 + 2 + 0 ≤ 601024 by omega), (show S1 + 12 + 0 ≤ 7293034 by omega)⟩) (fun H locs B => ?_)
  refine lv_istore (lv' := [(6, .int r5), (5, .int r2), (0, .ref b), (1, .ref (ad 0)), (2, .ref (ad 65)), (3, .ref (ad 75)), (4, .int v4)]) hx hb dL_law_1268 hl (by decide) rfl (fun ls hl => ?_)
  refine lv_aload_n hx hb dL_law_1270 rfl (lv_at hl 4 rfl) ?_
  obtain ⟨r8, σ9, hu7, hf⟩ := zb_some hf
  refine x_i B (fun nb a g hs Bz => va_runV (As := []) (rest := []) ⟨hx, hb, hml, hown, hts⟩ (c_X9_thrown l hu7 _ nb a g hs) (cwV 0 hts gL_law_X9_thrown rfl rfl rfl (by decide +kernel) ⟨Nat.le_of_ble_eq_true rfl, Nat.le_of_ble_eq_true rfl⟩) (x_preV Bz (by decide) (fun _ => rfl) rfl) rfl rfl hl.1 rfl (lv_room (Nat.le_of_ble_eq_true rfl)) dL_law_1271 ⟨(show C1 + 2 + 0 + 0 ≤ 601024 by omega), (show S1 + 12 + 0 + 0 ≤ 7293034 by omega)⟩) (fun H locs B => ?_)
  refine lv_iload hx hb dL_law_1274 (lv_at hl 1 rfl) ?_
  refine lv_icmp_eq (tgt := 1281) hx hb dL_law_1276 (by decide) (fun hc => ?_) (fun hc => ?_)
  · have hf := zif_t hc hf
    refine lv_iload hx hb dL_law_1281 (lv_at hl 1 rfl) ?_
    refine lv_if_ne (tgt := 1298) hx hb dL_law_1283 (by decide) (fun hc => ?_) (fun hc => ?_)
    · have hf := zif_f hc hf
      refine lv_goto (tgt := 2518) hx hb dL_law_1298 (by decide) ?_
      refine lv_iinc (v := (v4 + (5 : Int32))) (lv' := [(4, .int (v4 + (5 : Int32))), (6, .int r5), (5, .int r2), (0, .ref b), (1, .ref (ad 0)), (2, .ref (ad 65)), (3, .ref (ad 75))]) hx hb dL_law_2518 hl (k := 6) rfl (zc1 (by decide)) (by decide) rfl (fun ls hl => ?_)
      refine lv_goto (tgt := 23) hx hb dL_law_2521 (by decide) ?_
      refine W.widen (k := C1 + 28) (n := S1 + 2612) (show C1 + 2 + 0 + 0 ≤ C1 + 28 by omega) (show S1 + 12 + 0 + 0 ≤ S1 + 2612 by omega) ?_
      exact hK23 _ _ _ _ _ hf B (lv_sub hl [3, 4, 5, 6, 0] rfl)
    · have hf := zif_t hc hf
      refine lv_aload_n hx hb dL_law_1286 rfl (lv_at hl 5 rfl) ?_
      refine lv_iconst (v := (0 : Int32)) hx hb dL_law_1287 (by decide) ?_
      obtain ⟨hg, hf⟩ := zg_some hf
      refine x_lald hx hb B 75 (by decide) (fun _ => rfl) (zin_ok hg) dL_law_1288 ?_
      refine lv_iload hx hb dL_law_1289 (lv_at hl 0 rfl) ?_
      refine lv_i2l (v := r5.toInt64) hx hb dL_law_1291 rfl ?_
      refine W.lcmp hx hb dL_law_1292 ?_
      refine lv_if_eq (tgt := 1298) hx hb dL_law_1293 (by decide) (fun hc => ?_) (fun hc => ?_)
      · have hf := zif_t hc hf
        refine lv_goto (tgt := 2518) hx hb dL_law_1298 (by decide) ?_
        refine lv_iinc (v := (v4 + (5 : Int32))) (lv' := [(4, .int (v4 + (5 : Int32))), (6, .int r5), (5, .int r2), (0, .ref b), (1, .ref (ad 0)), (2, .ref (ad 65)), (3, .ref (ad 75))]) hx hb dL_law_2518 hl (k := 6) rfl (zc1 (by decide)) (by decide) rfl (fun ls hl => ?_)
        refine lv_goto (tgt := 23) hx hb dL_law_2521 (by decide) ?_
        refine W.widen (k := C1 + 28) (n := S1 + 2612) (show C1 + 2 + 0 + 0 ≤ C1 + 28 by omega) (show S1 + 12 + 0 + 0 ≤ S1 + 2612 by omega) ?_
        exact hK23 _ _ _ _ _ hf B (lv_sub hl [3, 4, 5, 6, 0] rfl)
      · have hf := zif_f hc hf
        refine lv_iconst (v := (0 : Int32)) hx hb dL_law_1296 (by decide) ?_
        exact absurd (show (0 : Int32) = 1 from congrArg Prod.fst (Option.some.inj hf)) (by decide)
  · have hf := zif_f hc hf
    refine lv_iconst (v := (0 : Int32)) hx hb dL_law_1279 (by decide) ?_
    exact absurd (show (0 : Int32) = 1 from congrArg Prod.fst (Option.some.inj hf)) (by decide)
theorem dL_law_1301 : decode cL_law 1301 = .ok (.aload_n 1, 1) := by decide +kernel
theorem dL_law_1302 : decode cL_law 1302 = .ok (.aload_n 0, 1) := by decide +kernel
theorem dL_law_1303 : decode cL_law 1303 = .ok (.iload 4, 2) := by decide +kernel
theorem dL_law_1305 : decode cL_law 1305 = .ok (.iconst 1, 1) := by decide +kernel
theorem dL_law_1306 : decode cL_law 1306 = .ok (.iadd, 1) := by decide +kernel
theorem dL_law_1307 : decode cL_law 1307 = .ok (.iaload, 1) := by decide +kernel
theorem dL_law_1308 : decode cL_law 1308 = .ok (.aload_n 3, 1) := by decide +kernel
theorem dL_law_1309 : decode cL_law 1309 = .ok (.invokestatic 194, 3) := by decide +kernel
theorem dL_law_1312 : decode cL_law 1312 = .ok (.istore 5, 2) := by decide +kernel
theorem dL_law_1314 : decode cL_law 1314 = .ok (.aload_n 2, 1) := by decide +kernel
theorem dL_law_1315 : decode cL_law 1315 = .ok (.aload_n 0, 1) := by decide +kernel
theorem dL_law_1316 : decode cL_law 1316 = .ok (.iload 4, 2) := by decide +kernel
theorem dL_law_1318 : decode cL_law 1318 = .ok (.iconst 1, 1) := by decide +kernel
theorem dL_law_1319 : decode cL_law 1319 = .ok (.iadd, 1) := by decide +kernel
theorem dL_law_1320 : decode cL_law 1320 = .ok (.iaload, 1) := by decide +kernel
theorem dL_law_1321 : decode cL_law 1321 = .ok (.invokevirtual 196, 3) := by decide +kernel
theorem dL_law_1324 : decode cL_law 1324 = .ok (.istore 6, 2) := by decide +kernel
theorem dL_law_1326 : decode cL_law 1326 = .ok (.aload_n 2, 1) := by decide +kernel
theorem dL_law_1327 : decode cL_law 1327 = .ok (.invokevirtual 139, 3) := by decide +kernel
theorem dL_law_1330 : decode cL_law 1330 = .ok (.iload 5, 2) := by decide +kernel
theorem dL_law_1332 : decode cL_law 1332 = .ok (.if_icmp .eq 5, 3) := by decide +kernel
theorem dL_law_1335 : decode cL_law 1335 = .ok (.iconst 0, 1) := by decide +kernel
theorem dL_law_1337 : decode cL_law 1337 = .ok (.iload 5, 2) := by decide +kernel
theorem dL_law_1339 : decode cL_law 1339 = .ok (.ifCond .ne 15, 3) := by decide +kernel
theorem dL_law_1342 : decode cL_law 1342 = .ok (.aload_n 3, 1) := by decide +kernel
theorem dL_law_1343 : decode cL_law 1343 = .ok (.iconst 0, 1) := by decide +kernel
theorem dL_law_1344 : decode cL_law 1344 = .ok (.laload, 1) := by decide +kernel
theorem dL_law_1345 : decode cL_law 1345 = .ok (.iload 6, 2) := by decide +kernel
theorem dL_law_1347 : decode cL_law 1347 = .ok (.i2l, 1) := by decide +kernel
theorem dL_law_1348 : decode cL_law 1348 = .ok (.lcmp, 1) := by decide +kernel
theorem dL_law_1349 : decode cL_law 1349 = .ok (.ifCond .eq 5, 3) := by decide +kernel
theorem dL_law_1352 : decode cL_law 1352 = .ok (.iconst 0, 1) := by decide +kernel
theorem dL_law_1354 : decode cL_law 1354 = .ok (.goto 1164, 3) := by decide +kernel
set_option maxRecDepth 20000 in
theorem ggL_law_L_pass : GoodIn wsL_law wsL_pass := goodIn_ca (goodIn_ca (goodIn_r _ [986, 147, 987, 988, 989, 2, 990, 16, 467, 991, 166, 167, 168, 169, 170, 992, 993, 994, 15, 995, 996, 997, 998, 999, 1000, 43, 1001, 1002, 1003, 54, 1004, 817, 818, 42, 819, 71, 59, 60, 64, 65, 66, 67, 62, 820, 821, 822, 70, 823, 824, 825, 826, 827, 828, 829, 830, 831, 832, 833, 834, 310, 311, 312, 835, 314, 315, 836, 837, 838, 1369, 1370, 1371, 1372, 1373, 1374, 1375, 1376, 1397, 1398, 1399, 1400, 1401, 1402, 1403, 1404, 1424, 1425, 1426, 1427, 1428, 1429, 1430, 1431, 1432, 1433, 1434, 1435, 1447, 1448, 1449, 1450, 1451, 1452] (by decide +kernel) (by decide +kernel)) (goodIn_sub (fun _ h => List.mem_append_left _ (List.mem_append_left _ (List.mem_append_left _ (List.mem_append_left _ (List.mem_append_left _ (List.mem_append_right _ h)))))) (by decide +kernel))) (goodIn_sub (fun _ h => List.mem_append_left _ (List.mem_append_left _ (List.mem_append_left _ (List.mem_append_right _ h)))) (by decide +kernel))
set_option maxRecDepth 20000 in
theorem gL_law_L_pass : GoodIn wsL_law (va_wsS RL 194 yL_pass wsL_pass) := goodIn_app (goodIn_of _ (by decide +kernel)) ggL_law_L_pass
set_option maxRecDepth 20000 in
theorem ggL_law_X9_pass : GoodIn wsL_law wsX9_pass := goodIn_ca (goodIn_r _ [1008, 193, 132, 197, 198, 5, 199, 852, 853, 854, 855, 847, 856, 314, 311, 315, 502, 503, 504, 505, 1377, 1378, 1379, 1380, 1381, 1382, 1383, 1384, 1385, 1386, 1387, 1388, 1389, 1390, 1391, 1392, 1393, 1394, 1395, 1396] (by decide +kernel) (by decide +kernel)) (goodIn_sub (fun _ h => List.mem_append_left _ (List.mem_append_left _ (List.mem_append_left _ (List.mem_append_left _ (List.mem_append_left _ (List.mem_append_right _ h)))))) (by decide +kernel))
set_option maxRecDepth 20000 in
theorem gL_law_X9_pass : GoodIn wsL_law (wsV RL 196 RX9 yX9_pass wsX9_pass) := goodIn_app (goodIn_of _ (by decide +kernel)) ggL_law_X9_pass
set_option maxHeartbeats 4000000 in
set_option maxRecDepth 100000 in
theorem lc_1301 {p : Program} {e : Env} {s : State} {m : MethodId} {below : List Frame} {meth : Method} {c : Code} (l : Launch) (hfl : l.stackTraces = false) {b L : Nat} {xs : Nat → Int32} {Q : State → Prop} (C0 : lw_At p s m meth c b L xs) {G : zG} {ad : Nat → Nat} {σ' : zs} (C1 S1 : Nat) (hC : C1 + 28 ≤ 601024) (hS1 : S1 + 2612 ≤ 7293034) (K23 : zs → Int32 → Option (Int32 × zs)) (hK23 : ∀ (σ : zs) (v4 : Int32) (H : Heap) (locs : List Loc) (ls : Array Slot), K23 σ v4 = some (1, σ') → xB (fun q : Nat => s.heap.size ≤ q) s G ad σ H locs → lv_has ls 7 [(0, .ref b), (1, .ref (ad 0)), (2, .ref (ad 65)), (3, .ref (ad 75)), (4, .int v4)] → W p l e room_1 s m #[Value.ref b] below meth c H locs (C1 + 28) (S1 + 2612) Q (F0 m 23 ls [])) (σ : zs) (v4 : Int32) (H : Heap) (locs : List Loc) (ls : Array Slot) (hf : f_L_law_1301 L xs K23 σ v4 = some (1, σ')) (B : xB (fun q : Nat => s.heap.size ≤ q) s G ad σ H locs) (hl : lv_has ls 7 [(0, .ref b), (1, .ref (ad 0)), (2, .ref (ad 65)), (3, .ref (ad 75)), (4, .int v4)]) : W p l e room_1 s m #[Value.ref b] below meth c H locs C1 S1 Q (F0 m 1301 ls []) := by
  obtain ⟨hx, hb, hr, hml, hown, hts0, hX, hbl, hlocks, hgv⟩ := id C0
  have hts := fun w h => hts0 w (wsL_law_in w h)
  have hbA : ¬ (fun q : Nat => s.heap.size ≤ q) b := Nat.not_le.mpr hbl
  unfold f_L_law_1301 at hf
  refine lv_aload_n hx hb dL_law_1301 rfl (lv_at hl 1 rfl) ?_
  refine lv_aload_n hx hb dL_law_1302 rfl (lv_at hl 0 rfl) ?_
  refine lv_iload hx hb dL_law_1303 (lv_at hl 4 rfl) ?_
  refine lv_iconst (v := (1 : Int32)) hx hb dL_law_1305 (by decide) ?_
  refine lv_iadd hx hb dL_law_1306 ?_
  obtain ⟨hg, hf⟩ := zg_some hf
  refine va_sld hx hb hX hbl hbA (xS B) (zin_ok hg) dL_law_1307 ?_
  refine lv_aload_n hx hb dL_law_1308 rfl (lv_at hl 3 rfl) ?_
  obtain ⟨r2, σ3, hu1, hf⟩ := zb_some hf
  refine x_i B (fun nb a g hs Bz => vx_runSW (As := [.ref (ad 0), .int (xs (v4 + (1 : Int32)).toNatClampNeg), .ref (ad 75)]) (rest := []) ⟨hx, hb, hml, hown, hts⟩ (c_L_pass_0_75 l hfl hu1 _ nb a g hs) (vx_cwSW 3 hts gL_law_L_pass rfl rfl rfl (by decide +kernel) ⟨Nat.le_of_ble_eq_true rfl, Nat.le_of_ble_eq_true rfl⟩) (z_preS Bz) rfl rfl hl.1 rfl (lv_room (Nat.le_of_ble_eq_true rfl)) dL_law_1309 ⟨(show C1 + 1 ≤ 601024 by omega), (show S1 + 6 ≤ 7293034 by omega)⟩) (fun H locs B => ?_)
  refine lv_istore (lv' := [(5, .int r2), (0, .ref b), (1, .ref (ad 0)), (2, .ref (ad 65)), (3, .ref (ad 75)), (4, .int v4)]) hx hb dL_law_1312 hl (by decide) rfl (fun ls hl => ?_)
  refine lv_aload_n hx hb dL_law_1314 rfl (lv_at hl 3 rfl) ?_
  refine lv_aload_n hx hb dL_law_1315 rfl (lv_at hl 1 rfl) ?_
  refine lv_iload hx hb dL_law_1316 (lv_at hl 5 rfl) ?_
  refine lv_iconst (v := (1 : Int32)) hx hb dL_law_1318 (by decide) ?_
  refine lv_iadd hx hb dL_law_1319 ?_
  obtain ⟨hg, hf⟩ := zg_some hf
  refine va_sld hx hb hX hbl hbA (xS B) (zin_ok hg) dL_law_1320 ?_
  obtain ⟨r5, σ6, hu4, hf⟩ := zb_some hf
  refine x_i B (fun nb a g hs Bz => va_runV (As := [.int (xs (v4 + (1 : Int32)).toNatClampNeg)]) (rest := []) ⟨hx, hb, hml, hown, hts⟩ (c_X9_pass l hu4 _ nb a g hs) (cwV 1 hts gL_law_X9_pass rfl rfl rfl (by decide +kernel) ⟨Nat.le_of_ble_eq_true rfl, Nat.le_of_ble_eq_true rfl⟩) (x_preV Bz (by decide) (fun _ => rfl) rfl) rfl rfl hl.1 rfl (lv_room (Nat.le_of_ble_eq_true rfl)) dL_law_1321 ⟨(show C1 + 1 + 0 ≤ 601024 by omega), (show S1 + 6 + 0 ≤ 7293034 by omega)⟩) (fun H locs B => ?_)
  refine lv_istore (lv' := [(6, .int r5), (5, .int r2), (0, .ref b), (1, .ref (ad 0)), (2, .ref (ad 65)), (3, .ref (ad 75)), (4, .int v4)]) hx hb dL_law_1324 hl (by decide) rfl (fun ls hl => ?_)
  refine lv_aload_n hx hb dL_law_1326 rfl (lv_at hl 4 rfl) ?_
  obtain ⟨r8, σ9, hu7, hf⟩ := zb_some hf
  refine x_i B (fun nb a g hs Bz => va_runV (As := []) (rest := []) ⟨hx, hb, hml, hown, hts⟩ (c_X9_thrown l hu7 _ nb a g hs) (cwV 0 hts gL_law_X9_thrown rfl rfl rfl (by decide +kernel) ⟨Nat.le_of_ble_eq_true rfl, Nat.le_of_ble_eq_true rfl⟩) (x_preV Bz (by decide) (fun _ => rfl) rfl) rfl rfl hl.1 rfl (lv_room (Nat.le_of_ble_eq_true rfl)) dL_law_1327 ⟨(show C1 + 1 + 0 + 0 ≤ 601024 by omega), (show S1 + 6 + 0 + 0 ≤ 7293034 by omega)⟩) (fun H locs B => ?_)
  refine lv_iload hx hb dL_law_1330 (lv_at hl 1 rfl) ?_
  refine lv_icmp_eq (tgt := 1337) hx hb dL_law_1332 (by decide) (fun hc => ?_) (fun hc => ?_)
  · have hf := zif_t hc hf
    refine lv_iload hx hb dL_law_1337 (lv_at hl 1 rfl) ?_
    refine lv_if_ne (tgt := 1354) hx hb dL_law_1339 (by decide) (fun hc => ?_) (fun hc => ?_)
    · have hf := zif_f hc hf
      refine lv_goto (tgt := 2518) hx hb dL_law_1354 (by decide) ?_
      refine lv_iinc (v := (v4 + (5 : Int32))) (lv' := [(4, .int (v4 + (5 : Int32))), (6, .int r5), (5, .int r2), (0, .ref b), (1, .ref (ad 0)), (2, .ref (ad 65)), (3, .ref (ad 75))]) hx hb dL_law_2518 hl (k := 6) rfl (zc1 (by decide)) (by decide) rfl (fun ls hl => ?_)
      refine lv_goto (tgt := 23) hx hb dL_law_2521 (by decide) ?_
      refine W.widen (k := C1 + 28) (n := S1 + 2612) (show C1 + 1 + 0 + 0 ≤ C1 + 28 by omega) (show S1 + 6 + 0 + 0 ≤ S1 + 2612 by omega) ?_
      exact hK23 _ _ _ _ _ hf B (lv_sub hl [3, 4, 5, 6, 0] rfl)
    · have hf := zif_t hc hf
      refine lv_aload_n hx hb dL_law_1342 rfl (lv_at hl 5 rfl) ?_
      refine lv_iconst (v := (0 : Int32)) hx hb dL_law_1343 (by decide) ?_
      obtain ⟨hg, hf⟩ := zg_some hf
      refine x_lald hx hb B 75 (by decide) (fun _ => rfl) (zin_ok hg) dL_law_1344 ?_
      refine lv_iload hx hb dL_law_1345 (lv_at hl 0 rfl) ?_
      refine lv_i2l (v := r5.toInt64) hx hb dL_law_1347 rfl ?_
      refine W.lcmp hx hb dL_law_1348 ?_
      refine lv_if_eq (tgt := 1354) hx hb dL_law_1349 (by decide) (fun hc => ?_) (fun hc => ?_)
      · have hf := zif_t hc hf
        refine lv_goto (tgt := 2518) hx hb dL_law_1354 (by decide) ?_
        refine lv_iinc (v := (v4 + (5 : Int32))) (lv' := [(4, .int (v4 + (5 : Int32))), (6, .int r5), (5, .int r2), (0, .ref b), (1, .ref (ad 0)), (2, .ref (ad 65)), (3, .ref (ad 75))]) hx hb dL_law_2518 hl (k := 6) rfl (zc1 (by decide)) (by decide) rfl (fun ls hl => ?_)
        refine lv_goto (tgt := 23) hx hb dL_law_2521 (by decide) ?_
        refine W.widen (k := C1 + 28) (n := S1 + 2612) (show C1 + 1 + 0 + 0 ≤ C1 + 28 by omega) (show S1 + 6 + 0 + 0 ≤ S1 + 2612 by omega) ?_
        exact hK23 _ _ _ _ _ hf B (lv_sub hl [3, 4, 5, 6, 0] rfl)
      · have hf := zif_f hc hf
        refine lv_iconst (v := (0 : Int32)) hx hb dL_law_1352 (by decide) ?_
        exact absurd (show (0 : Int32) = 1 from congrArg Prod.fst (Option.some.inj hf)) (by decide)
  · have hf := zif_f hc hf
    refine lv_iconst (v := (0 : Int32)) hx hb dL_law_1335 (by decide) ?_
    exact absurd (show (0 : Int32) = 1 from congrArg Prod.fst (Option.some.inj hf)) (by decide)
theorem dL_law_1357 : decode cL_law 1357 = .ok (.aload_n 1, 1) := by decide +kernel
theorem dL_law_1358 : decode cL_law 1358 = .ok (.aload_n 0, 1) := by decide +kernel
theorem dL_law_1359 : decode cL_law 1359 = .ok (.iload 4, 2) := by decide +kernel
theorem dL_law_1361 : decode cL_law 1361 = .ok (.iconst 1, 1) := by decide +kernel
theorem dL_law_1362 : decode cL_law 1362 = .ok (.iadd, 1) := by decide +kernel
theorem dL_law_1363 : decode cL_law 1363 = .ok (.iaload, 1) := by decide +kernel
theorem dL_law_1364 : decode cL_law 1364 = .ok (.aload_n 3, 1) := by decide +kernel
theorem dL_law_1365 : decode cL_law 1365 = .ok (.invokestatic 197, 3) := by decide +kernel
theorem dL_law_1368 : decode cL_law 1368 = .ok (.istore 5, 2) := by decide +kernel
theorem dL_law_1370 : decode cL_law 1370 = .ok (.aload_n 2, 1) := by decide +kernel
theorem dL_law_1371 : decode cL_law 1371 = .ok (.aload_n 0, 1) := by decide +kernel
theorem dL_law_1372 : decode cL_law 1372 = .ok (.iload 4, 2) := by decide +kernel
theorem dL_law_1374 : decode cL_law 1374 = .ok (.iconst 1, 1) := by decide +kernel
theorem dL_law_1375 : decode cL_law 1375 = .ok (.iadd, 1) := by decide +kernel
theorem dL_law_1376 : decode cL_law 1376 = .ok (.iaload, 1) := by decide +kernel
theorem dL_law_1377 : decode cL_law 1377 = .ok (.invokevirtual 199, 3) := by decide +kernel
theorem dL_law_1380 : decode cL_law 1380 = .ok (.istore 6, 2) := by decide +kernel
theorem dL_law_1382 : decode cL_law 1382 = .ok (.aload_n 2, 1) := by decide +kernel
theorem dL_law_1383 : decode cL_law 1383 = .ok (.invokevirtual 139, 3) := by decide +kernel
theorem dL_law_1386 : decode cL_law 1386 = .ok (.iload 5, 2) := by decide +kernel
theorem dL_law_1388 : decode cL_law 1388 = .ok (.if_icmp .eq 5, 3) := by decide +kernel
theorem dL_law_1391 : decode cL_law 1391 = .ok (.iconst 0, 1) := by decide +kernel
theorem dL_law_1393 : decode cL_law 1393 = .ok (.iload 5, 2) := by decide +kernel
theorem dL_law_1395 : decode cL_law 1395 = .ok (.ifCond .ne 15, 3) := by decide +kernel
theorem dL_law_1398 : decode cL_law 1398 = .ok (.aload_n 3, 1) := by decide +kernel
theorem dL_law_1399 : decode cL_law 1399 = .ok (.iconst 0, 1) := by decide +kernel
theorem dL_law_1400 : decode cL_law 1400 = .ok (.laload, 1) := by decide +kernel
theorem dL_law_1401 : decode cL_law 1401 = .ok (.iload 6, 2) := by decide +kernel
theorem dL_law_1403 : decode cL_law 1403 = .ok (.i2l, 1) := by decide +kernel
theorem dL_law_1404 : decode cL_law 1404 = .ok (.lcmp, 1) := by decide +kernel
theorem dL_law_1405 : decode cL_law 1405 = .ok (.ifCond .eq 5, 3) := by decide +kernel
theorem dL_law_1408 : decode cL_law 1408 = .ok (.iconst 0, 1) := by decide +kernel
theorem dL_law_1410 : decode cL_law 1410 = .ok (.goto 1108, 3) := by decide +kernel
set_option maxRecDepth 20000 in
theorem ggL_law_L_expired : GoodIn wsL_law wsL_expired := goodIn_ca (goodIn_ca (goodIn_r _ [1011, 516, 1012, 1013, 1014, 2, 1015, 16, 991, 1016, 521, 522, 523, 524, 525, 1369, 1370, 1371, 1372, 1373, 1374, 1375, 1376, 1397, 1398, 1399, 1400, 1401, 1402, 1403, 1404] (by decide +kernel) (by decide +kernel)) (goodIn_sub (fun _ h => List.mem_append_left _ (List.mem_append_left _ (List.mem_append_left _ (List.mem_append_left _ (List.mem_append_left _ (List.mem_append_right _ h)))))) (by decide +kernel))) (goodIn_sub (fun _ h => List.mem_append_right _ h) (by decide +kernel))
set_option maxRecDepth 20000 in
theorem gL_law_L_expired : GoodIn wsL_law (va_wsS RL 197 yL_expired wsL_expired) := goodIn_app (goodIn_of _ (by decide +kernel)) ggL_law_L_expired
set_option maxRecDepth 20000 in
theorem ggL_law_X9_expired : GoodIn wsL_law wsX9_expired := goodIn_ca (goodIn_r _ [1020, 132, 193, 197, 198, 5, 199, 1377, 1378, 1379, 1380, 1381, 1382, 1383, 1384, 1385, 1386, 1387, 1388, 1389, 1390, 1391, 1392, 1393, 1394, 1395, 1396] (by decide +kernel) (by decide +kernel)) (goodIn_sub (fun _ h => List.mem_append_left _ (List.mem_append_left _ (List.mem_append_left _ (List.mem_append_left _ (List.mem_append_left _ (List.mem_append_right _ h)))))) (by decide +kernel))
set_option maxRecDepth 20000 in
theorem gL_law_X9_expired : GoodIn wsL_law (wsV RL 199 RX9 yX9_expired wsX9_expired) := goodIn_app (goodIn_of _ (by decide +kernel)) ggL_law_X9_expired
set_option maxHeartbeats 4000000 in
set_option maxRecDepth 100000 in
theorem lc_1357 {p : Program} {e : Env} {s : State} {m : MethodId} {below : List Frame} {meth : Method} {c : Code} (l : Launch) (hfl : l.stackTraces = false) {b L : Nat} {xs : Nat → Int32} {Q : State → Prop} (C0 : lw_At p s m meth c b L xs) {G : zG} {ad : Nat → Nat} {σ' : zs} (C1 S1 : Nat) (hC : C1 + 28 ≤ 601024) (hS1 : S1 + 2612 ≤ 7293034) (K23 : zs → Int32 → Option (Int32 × zs)) (hK23 : ∀ (σ : zs) (v4 : Int32) (H : Heap) (locs : List Loc) (ls : Array Slot), K23 σ v4 = some (1, σ') → xB (fun q : Nat => s.heap.size ≤ q) s G ad σ H locs → lv_has ls 7 [(0, .ref b), (1, .ref (ad 0)), (2, .ref (ad 65)), (3, .ref (ad 75)), (4, .int v4)] → W p l e room_1 s m #[Value.ref b] below meth c H locs (C1 + 28) (S1 + 2612) Q (F0 m 23 ls [])) (σ : zs) (v4 : Int32) (H : Heap) (locs : List Loc) (ls : Array Slot) (hf : f_L_law_1357 L xs K23 σ v4 = some (1, σ')) (B : xB (fun q : Nat => s.heap.size ≤ q) s G ad σ H locs) (hl : lv_has ls 7 [(0, .ref b), (1, .ref (ad 0)), (2, .ref (ad 65)), (3, .ref (ad 75)), (4, .int v4)]) : W p l e room_1 s m #[Value.ref b] below meth c H locs C1 S1 Q (F0 m 1357 ls []) := by
  obtain ⟨hx, hb, hr, hml, hown, hts0, hX, hbl, hlocks, hgv⟩ := id C0
  have hts := fun w h => hts0 w (wsL_law_in w h)
  have hbA : ¬ (fun q : Nat => s.heap.size ≤ q) b := Nat.not_le.mpr hbl
  unfold f_L_law_1357 at hf
  refine lv_aload_n hx hb dL_law_1357 rfl (lv_at hl 1 rfl) ?_
  refine lv_aload_n hx hb dL_law_1358 rfl (lv_at hl 0 rfl) ?_
  refine lv_iload hx hb dL_law_1359 (lv_at hl 4 rfl) ?_
  refine lv_iconst (v := (1 : Int32)) hx hb dL_law_1361 (by decide) ?_
  refine lv_iadd hx hb dL_law_1362 ?_
  obtain ⟨hg, hf⟩ := zg_some hf
  refine va_sld hx hb hX hbl hbA (xS B) (zin_ok hg) dL_law_1363 ?_
  refine lv_aload_n hx hb dL_law_1364 rfl (lv_at hl 3 rfl) ?_
  obtain ⟨r2, σ3, hu1, hf⟩ := zb_some hf
  refine x_i B (fun nb a g hs Bz => vx_runSW (As := [.ref (ad 0), .int (xs (v4 + (1 : Int32)).toNatClampNeg), .ref (ad 75)]) (rest := []) ⟨hx, hb, hml, hown, hts⟩ (c_L_expired_0_75 l hfl hu1 _ nb a g hs) (vx_cwSW 3 hts gL_law_L_expired rfl rfl rfl (by decide +kernel) ⟨Nat.le_of_ble_eq_true rfl, Nat.le_of_ble_eq_true rfl⟩) (z_preS Bz) rfl rfl hl.1 rfl (lv_room (Nat.le_of_ble_eq_true rfl)) dL_law_1365 ⟨(show C1 + 1 ≤ 601024 by omega), (show S1 + 6 ≤ 7293034 by omega)⟩) (fun H locs B => ?_)
  refine lv_istore (lv' := [(5, .int r2), (0, .ref b), (1, .ref (ad 0)), (2, .ref (ad 65)), (3, .ref (ad 75)), (4, .int v4)]) hx hb dL_law_1368 hl (by decide) rfl (fun ls hl => ?_)
  refine lv_aload_n hx hb dL_law_1370 rfl (lv_at hl 3 rfl) ?_
  refine lv_aload_n hx hb dL_law_1371 rfl (lv_at hl 1 rfl) ?_
  refine lv_iload hx hb dL_law_1372 (lv_at hl 5 rfl) ?_
  refine lv_iconst (v := (1 : Int32)) hx hb dL_law_1374 (by decide) ?_
  refine lv_iadd hx hb dL_law_1375 ?_
  obtain ⟨hg, hf⟩ := zg_some hf
  refine va_sld hx hb hX hbl hbA (xS B) (zin_ok hg) dL_law_1376 ?_
  obtain ⟨r5, σ6, hu4, hf⟩ := zb_some hf
  refine x_i B (fun nb a g hs Bz => va_runV (As := [.int (xs (v4 + (1 : Int32)).toNatClampNeg)]) (rest := []) ⟨hx, hb, hml, hown, hts⟩ (c_X9_expired l hu4 _ nb a g hs) (cwV 1 hts gL_law_X9_expired rfl rfl rfl (by decide +kernel) ⟨Nat.le_of_ble_eq_true rfl, Nat.le_of_ble_eq_true rfl⟩) (x_preV Bz (by decide) (fun _ => rfl) rfl) rfl rfl hl.1 rfl (lv_room (Nat.le_of_ble_eq_true rfl)) dL_law_1377 ⟨(show C1 + 1 + 0 ≤ 601024 by omega), (show S1 + 6 + 0 ≤ 7293034 by omega)⟩) (fun H locs B => ?_)
  refine lv_istore (lv' := [(6, .int r5), (5, .int r2), (0, .ref b), (1, .ref (ad 0)), (2, .ref (ad 65)), (3, .ref (ad 75)), (4, .int v4)]) hx hb dL_law_1380 hl (by decide) rfl (fun ls hl => ?_)
  refine lv_aload_n hx hb dL_law_1382 rfl (lv_at hl 4 rfl) ?_
  obtain ⟨r8, σ9, hu7, hf⟩ := zb_some hf
  refine x_i B (fun nb a g hs Bz => va_runV (As := []) (rest := []) ⟨hx, hb, hml, hown, hts⟩ (c_X9_thrown l hu7 _ nb a g hs) (cwV 0 hts gL_law_X9_thrown rfl rfl rfl (by decide +kernel) ⟨Nat.le_of_ble_eq_true rfl, Nat.le_of_ble_eq_true rfl⟩) (x_preV Bz (by decide) (fun _ => rfl) rfl) rfl rfl hl.1 rfl (lv_room (Nat.le_of_ble_eq_true rfl)) dL_law_1383 ⟨(show C1 + 1 + 0 + 0 ≤ 601024 by omega), (show S1 + 6 + 0 + 0 ≤ 7293034 by omega)⟩) (fun H locs B => ?_)
  refine lv_iload hx hb dL_law_1386 (lv_at hl 1 rfl) ?_
  refine lv_icmp_eq (tgt := 1393) hx hb dL_law_1388 (by decide) (fun hc => ?_) (fun hc => ?_)
  · have hf := zif_t hc hf
    refine lv_iload hx hb dL_law_1393 (lv_at hl 1 rfl) ?_
    refine lv_if_ne (tgt := 1410) hx hb dL_law_1395 (by decide) (fun hc => ?_) (fun hc => ?_)
    · have hf := zif_f hc hf
      refine lv_goto (tgt := 2518) hx hb dL_law_1410 (by decide) ?_
      refine lv_iinc (v := (v4 + (5 : Int32))) (lv' := [(4, .int (v4 + (5 : Int32))), (6, .int r5), (5, .int r2), (0, .ref b), (1, .ref (ad 0)), (2, .ref (ad 65)), (3, .ref (ad 75))]) hx hb dL_law_2518 hl (k := 6) rfl (zc1 (by decide)) (by decide) rfl (fun ls hl => ?_)
      refine lv_goto (tgt := 23) hx hb dL_law_2521 (by decide) ?_
      refine W.widen (k := C1 + 28) (n := S1 + 2612) (show C1 + 1 + 0 + 0 ≤ C1 + 28 by omega) (show S1 + 6 + 0 + 0 ≤ S1 + 2612 by omega) ?_
      exact hK23 _ _ _ _ _ hf B (lv_sub hl [3, 4, 5, 6, 0] rfl)
    · have hf := zif_t hc hf
      refine lv_aload_n hx hb dL_law_1398 rfl (lv_at hl 5 rfl) ?_
      refine lv_iconst (v := (0 : Int32)) hx hb dL_law_1399 (by decide) ?_
      obtain ⟨hg, hf⟩ := zg_some hf
      refine x_lald hx hb B 75 (by decide) (fun _ => rfl) (zin_ok hg) dL_law_1400 ?_
      refine lv_iload hx hb dL_law_1401 (lv_at hl 0 rfl) ?_
      refine lv_i2l (v := r5.toInt64) hx hb dL_law_1403 rfl ?_
      refine W.lcmp hx hb dL_law_1404 ?_
      refine lv_if_eq (tgt := 1410) hx hb dL_law_1405 (by decide) (fun hc => ?_) (fun hc => ?_)
      · have hf := zif_t hc hf
        refine lv_goto (tgt := 2518) hx hb dL_law_1410 (by decide) ?_
        refine lv_iinc (v := (v4 + (5 : Int32))) (lv' := [(4, .int (v4 + (5 : Int32))), (6, .int r5), (5, .int r2), (0, .ref b), (1, .ref (ad 0)), (2, .ref (ad 65)), (3, .ref (ad 75))]) hx hb dL_law_2518 hl (k := 6) rfl (zc1 (by decide)) (by decide) rfl (fun ls hl => ?_)
        refine lv_goto (tgt := 23) hx hb dL_law_2521 (by decide) ?_
        refine W.widen (k := C1 + 28) (n := S1 + 2612) (show C1 + 1 + 0 + 0 ≤ C1 + 28 by omega) (show S1 + 6 + 0 + 0 ≤ S1 + 2612 by omega) ?_
        exact hK23 _ _ _ _ _ hf B (lv_sub hl [3, 4, 5, 6, 0] rfl)
      · have hf := zif_f hc hf
        refine lv_iconst (v := (0 : Int32)) hx hb dL_law_1408 (by decide) ?_
        exact absurd (show (0 : Int32) = 1 from congrArg Prod.fst (Option.some.inj hf)) (by decide)
  · have hf := zif_f hc hf
    refine lv_iconst (v := (0 : Int32)) hx hb dL_law_1391 (by decide) ?_
    exact absurd (show (0 : Int32) = 1 from congrArg Prod.fst (Option.some.inj hf)) (by decide)
theorem dL_law_1413 : decode cL_law 1413 = .ok (.aload_n 1, 1) := by decide +kernel
theorem dL_law_1414 : decode cL_law 1414 = .ok (.aload_n 0, 1) := by decide +kernel
theorem dL_law_1415 : decode cL_law 1415 = .ok (.iload 4, 2) := by decide +kernel
theorem dL_law_1417 : decode cL_law 1417 = .ok (.iconst 1, 1) := by decide +kernel
theorem dL_law_1418 : decode cL_law 1418 = .ok (.iadd, 1) := by decide +kernel
theorem dL_law_1419 : decode cL_law 1419 = .ok (.iaload, 1) := by decide +kernel
theorem dL_law_1420 : decode cL_law 1420 = .ok (.aload_n 3, 1) := by decide +kernel
theorem dL_law_1421 : decode cL_law 1421 = .ok (.invokestatic 200, 3) := by decide +kernel
theorem dL_law_1424 : decode cL_law 1424 = .ok (.istore 5, 2) := by decide +kernel
theorem dL_law_1426 : decode cL_law 1426 = .ok (.aload_n 2, 1) := by decide +kernel
theorem dL_law_1427 : decode cL_law 1427 = .ok (.aload_n 0, 1) := by decide +kernel
theorem dL_law_1428 : decode cL_law 1428 = .ok (.iload 4, 2) := by decide +kernel
theorem dL_law_1430 : decode cL_law 1430 = .ok (.iconst 1, 1) := by decide +kernel
theorem dL_law_1431 : decode cL_law 1431 = .ok (.iadd, 1) := by decide +kernel
theorem dL_law_1432 : decode cL_law 1432 = .ok (.iaload, 1) := by decide +kernel
theorem dL_law_1433 : decode cL_law 1433 = .ok (.invokevirtual 202, 3) := by decide +kernel
theorem dL_law_1436 : decode cL_law 1436 = .ok (.istore 6, 2) := by decide +kernel
theorem dL_law_1438 : decode cL_law 1438 = .ok (.aload_n 2, 1) := by decide +kernel
theorem dL_law_1439 : decode cL_law 1439 = .ok (.invokevirtual 139, 3) := by decide +kernel
theorem dL_law_1442 : decode cL_law 1442 = .ok (.iload 5, 2) := by decide +kernel
theorem dL_law_1444 : decode cL_law 1444 = .ok (.if_icmp .eq 5, 3) := by decide +kernel
theorem dL_law_1447 : decode cL_law 1447 = .ok (.iconst 0, 1) := by decide +kernel
theorem dL_law_1449 : decode cL_law 1449 = .ok (.iload 5, 2) := by decide +kernel
theorem dL_law_1451 : decode cL_law 1451 = .ok (.ifCond .ne 15, 3) := by decide +kernel
theorem dL_law_1454 : decode cL_law 1454 = .ok (.aload_n 3, 1) := by decide +kernel
theorem dL_law_1455 : decode cL_law 1455 = .ok (.iconst 0, 1) := by decide +kernel
theorem dL_law_1456 : decode cL_law 1456 = .ok (.laload, 1) := by decide +kernel
theorem dL_law_1457 : decode cL_law 1457 = .ok (.iload 6, 2) := by decide +kernel
theorem dL_law_1459 : decode cL_law 1459 = .ok (.i2l, 1) := by decide +kernel
theorem dL_law_1460 : decode cL_law 1460 = .ok (.lcmp, 1) := by decide +kernel
theorem dL_law_1461 : decode cL_law 1461 = .ok (.ifCond .eq 5, 3) := by decide +kernel
theorem dL_law_1464 : decode cL_law 1464 = .ok (.iconst 0, 1) := by decide +kernel
theorem dL_law_1466 : decode cL_law 1466 = .ok (.goto 1052, 3) := by decide +kernel
set_option maxRecDepth 20000 in
theorem ggL_law_L_log : GoodIn wsL_law wsL_log := goodIn_ca (goodIn_ca (goodIn_r _ [1023, 516, 1024, 1025, 1026, 2, 1027, 16, 941, 1028, 1029, 521, 522, 523, 524, 525, 1369, 1370, 1371, 1372, 1373, 1374, 1375, 1376, 1397, 1398, 1399, 1400, 1401, 1402, 1403, 1404, 1443, 1444, 1445, 1446] (by decide +kernel) (by decide +kernel)) (goodIn_sub (fun _ h => List.mem_append_left _ (List.mem_append_left _ (List.mem_append_left _ (List.mem_append_left _ (List.mem_append_left _ (List.mem_append_right _ h)))))) (by decide +kernel))) (goodIn_sub (fun _ h => List.mem_append_right _ h) (by decide +kernel))
set_option maxRecDepth 20000 in
theorem gL_law_L_log : GoodIn wsL_law (va_wsS RL 200 yL_log wsL_log) := goodIn_app (goodIn_of _ (by decide +kernel)) ggL_law_L_log
set_option maxRecDepth 20000 in
theorem ggL_law_X9_log : GoodIn wsL_law wsX9_log := goodIn_ca (goodIn_r _ [1033, 132, 193, 197, 198, 5, 199, 1377, 1378, 1379, 1380, 1381, 1382, 1383, 1384, 1385, 1386, 1387, 1388, 1389, 1390, 1391, 1392, 1393, 1394, 1395, 1396] (by decide +kernel) (by decide +kernel)) (goodIn_sub (fun _ h => List.mem_append_left _ (List.mem_append_left _ (List.mem_append_left _ (List.mem_append_left _ (List.mem_append_left _ (List.mem_append_right _ h)))))) (by decide +kernel))
set_option maxRecDepth 20000 in
theorem gL_law_X9_log : GoodIn wsL_law (wsV RL 202 RX9 yX9_log wsX9_log) := goodIn_app (goodIn_of _ (by decide +kernel)) ggL_law_X9_log
set_option maxHeartbeats 4000000 in
set_option maxRecDepth 100000 in
theorem lc_1413 {p : Program} {e : Env} {s : State} {m : MethodId} {below : List Frame} {meth : Method} {c : Code} (l : Launch) (hfl : l.stackTraces = false) {b L : Nat} {xs : Nat → Int32} {Q : State → Prop} (C0 : lw_At p s m meth c b L xs) {G : zG} {ad : Nat → Nat} {σ' : zs} (C1 S1 : Nat) (hC : C1 + 28 ≤ 601024) (hS1 : S1 + 2612 ≤ 7293034) (K23 : zs → Int32 → Option (Int32 × zs)) (hK23 : ∀ (σ : zs) (v4 : Int32) (H : Heap) (locs : List Loc) (ls : Array Slot), K23 σ v4 = some (1, σ') → xB (fun q : Nat => s.heap.size ≤ q) s G ad σ H locs → lv_has ls 7 [(0, .ref b), (1, .ref (ad 0)), (2, .ref (ad 65)), (3, .ref (ad 75)), (4, .int v4)] → W p l e room_1 s m #[Value.ref b] below meth c H locs (C1 + 28) (S1 + 2612) Q (F0 m 23 ls [])) (σ : zs) (v4 : Int32) (H : Heap) (locs : List Loc) (ls : Array Slot) (hf : f_L_law_1413 L xs K23 σ v4 = some (1, σ')) (B : xB (fun q : Nat => s.heap.size ≤ q) s G ad σ H locs) (hl : lv_has ls 7 [(0, .ref b), (1, .ref (ad 0)), (2, .ref (ad 65)), (3, .ref (ad 75)), (4, .int v4)]) : W p l e room_1 s m #[Value.ref b] below meth c H locs C1 S1 Q (F0 m 1413 ls []) := by
  obtain ⟨hx, hb, hr, hml, hown, hts0, hX, hbl, hlocks, hgv⟩ := id C0
  have hts := fun w h => hts0 w (wsL_law_in w h)
  have hbA : ¬ (fun q : Nat => s.heap.size ≤ q) b := Nat.not_le.mpr hbl
  unfold f_L_law_1413 at hf
  refine lv_aload_n hx hb dL_law_1413 rfl (lv_at hl 1 rfl) ?_
  refine lv_aload_n hx hb dL_law_1414 rfl (lv_at hl 0 rfl) ?_
  refine lv_iload hx hb dL_law_1415 (lv_at hl 4 rfl) ?_
  refine lv_iconst (v := (1 : Int32)) hx hb dL_law_1417 (by decide) ?_
  refine lv_iadd hx hb dL_law_1418 ?_
  obtain ⟨hg, hf⟩ := zg_some hf
  refine va_sld hx hb hX hbl hbA (xS B) (zin_ok hg) dL_law_1419 ?_
  refine lv_aload_n hx hb dL_law_1420 rfl (lv_at hl 3 rfl) ?_
  obtain ⟨r2, σ3, hu1, hf⟩ := zb_some hf
  refine x_i B (fun nb a g hs Bz => vx_runSW (As := [.ref (ad 0), .int (xs (v4 + (1 : Int32)).toNatClampNeg), .ref (ad 75)]) (rest := []) ⟨hx, hb, hml, hown, hts⟩ (c_L_log_0_75 l hfl hu1 _ nb a g hs) (vx_cwSW 3 hts gL_law_L_log rfl rfl rfl (by decide +kernel) ⟨Nat.le_of_ble_eq_true rfl, Nat.le_of_ble_eq_true rfl⟩) (z_preS Bz) rfl rfl hl.1 rfl (lv_room (Nat.le_of_ble_eq_true rfl)) dL_law_1421 ⟨(show C1 + 1 ≤ 601024 by omega), (show S1 + 6 ≤ 7293034 by omega)⟩) (fun H locs B => ?_)
  refine lv_istore (lv' := [(5, .int r2), (0, .ref b), (1, .ref (ad 0)), (2, .ref (ad 65)), (3, .ref (ad 75)), (4, .int v4)]) hx hb dL_law_1424 hl (by decide) rfl (fun ls hl => ?_)
  refine lv_aload_n hx hb dL_law_1426 rfl (lv_at hl 3 rfl) ?_
  refine lv_aload_n hx hb dL_law_1427 rfl (lv_at hl 1 rfl) ?_
  refine lv_iload hx hb dL_law_1428 (lv_at hl 5 rfl) ?_
  refine lv_iconst (v := (1 : Int32)) hx hb dL_law_1430 (by decide) ?_
  refine lv_iadd hx hb dL_law_1431 ?_
  obtain ⟨hg, hf⟩ := zg_some hf
  refine va_sld hx hb hX hbl hbA (xS B) (zin_ok hg) dL_law_1432 ?_
  obtain ⟨r5, σ6, hu4, hf⟩ := zb_some hf
  refine x_i B (fun nb a g hs Bz => va_runV (As := [.int (xs (v4 + (1 : Int32)).toNatClampNeg)]) (rest := []) ⟨hx, hb, hml, hown, hts⟩ (c_X9_log l hu4 _ nb a g hs) (cwV 1 hts gL_law_X9_log rfl rfl rfl (by decide +kernel) ⟨Nat.le_of_ble_eq_true rfl, Nat.le_of_ble_eq_true rfl⟩) (x_preV Bz (by decide) (fun _ => rfl) rfl) rfl rfl hl.1 rfl (lv_room (Nat.le_of_ble_eq_true rfl)) dL_law_1433 ⟨(show C1 + 1 + 0 ≤ 601024 by omega), (show S1 + 6 + 0 ≤ 7293034 by omega)⟩) (fun H locs B => ?_)
  refine lv_istore (lv' := [(6, .int r5), (5, .int r2), (0, .ref b), (1, .ref (ad 0)), (2, .ref (ad 65)), (3, .ref (ad 75)), (4, .int v4)]) hx hb dL_law_1436 hl (by decide) rfl (fun ls hl => ?_)
  refine lv_aload_n hx hb dL_law_1438 rfl (lv_at hl 4 rfl) ?_
  obtain ⟨r8, σ9, hu7, hf⟩ := zb_some hf
  refine x_i B (fun nb a g hs Bz => va_runV (As := []) (rest := []) ⟨hx, hb, hml, hown, hts⟩ (c_X9_thrown l hu7 _ nb a g hs) (cwV 0 hts gL_law_X9_thrown rfl rfl rfl (by decide +kernel) ⟨Nat.le_of_ble_eq_true rfl, Nat.le_of_ble_eq_true rfl⟩) (x_preV Bz (by decide) (fun _ => rfl) rfl) rfl rfl hl.1 rfl (lv_room (Nat.le_of_ble_eq_true rfl)) dL_law_1439 ⟨(show C1 + 1 + 0 + 0 ≤ 601024 by omega), (show S1 + 6 + 0 + 0 ≤ 7293034 by omega)⟩) (fun H locs B => ?_)
  refine lv_iload hx hb dL_law_1442 (lv_at hl 1 rfl) ?_
  refine lv_icmp_eq (tgt := 1449) hx hb dL_law_1444 (by decide) (fun hc => ?_) (fun hc => ?_)
  · have hf := zif_t hc hf
    refine lv_iload hx hb dL_law_1449 (lv_at hl 1 rfl) ?_
    refine lv_if_ne (tgt := 1466) hx hb dL_law_1451 (by decide) (fun hc => ?_) (fun hc => ?_)
    · have hf := zif_f hc hf
      refine lv_goto (tgt := 2518) hx hb dL_law_1466 (by decide) ?_
      refine lv_iinc (v := (v4 + (5 : Int32))) (lv' := [(4, .int (v4 + (5 : Int32))), (6, .int r5), (5, .int r2), (0, .ref b), (1, .ref (ad 0)), (2, .ref (ad 65)), (3, .ref (ad 75))]) hx hb dL_law_2518 hl (k := 6) rfl (zc1 (by decide)) (by decide) rfl (fun ls hl => ?_)
      refine lv_goto (tgt := 23) hx hb dL_law_2521 (by decide) ?_
      refine W.widen (k := C1 + 28) (n := S1 + 2612) (show C1 + 1 + 0 + 0 ≤ C1 + 28 by omega) (show S1 + 6 + 0 + 0 ≤ S1 + 2612 by omega) ?_
      exact hK23 _ _ _ _ _ hf B (lv_sub hl [3, 4, 5, 6, 0] rfl)
    · have hf := zif_t hc hf
      refine lv_aload_n hx hb dL_law_1454 rfl (lv_at hl 5 rfl) ?_
      refine lv_iconst (v := (0 : Int32)) hx hb dL_law_1455 (by decide) ?_
      obtain ⟨hg, hf⟩ := zg_some hf
      refine x_lald hx hb B 75 (by decide) (fun _ => rfl) (zin_ok hg) dL_law_1456 ?_
      refine lv_iload hx hb dL_law_1457 (lv_at hl 0 rfl) ?_
      refine lv_i2l (v := r5.toInt64) hx hb dL_law_1459 rfl ?_
      refine W.lcmp hx hb dL_law_1460 ?_
      refine lv_if_eq (tgt := 1466) hx hb dL_law_1461 (by decide) (fun hc => ?_) (fun hc => ?_)
      · have hf := zif_t hc hf
        refine lv_goto (tgt := 2518) hx hb dL_law_1466 (by decide) ?_
        refine lv_iinc (v := (v4 + (5 : Int32))) (lv' := [(4, .int (v4 + (5 : Int32))), (6, .int r5), (5, .int r2), (0, .ref b), (1, .ref (ad 0)), (2, .ref (ad 65)), (3, .ref (ad 75))]) hx hb dL_law_2518 hl (k := 6) rfl (zc1 (by decide)) (by decide) rfl (fun ls hl => ?_)
        refine lv_goto (tgt := 23) hx hb dL_law_2521 (by decide) ?_
        refine W.widen (k := C1 + 28) (n := S1 + 2612) (show C1 + 1 + 0 + 0 ≤ C1 + 28 by omega) (show S1 + 6 + 0 + 0 ≤ S1 + 2612 by omega) ?_
        exact hK23 _ _ _ _ _ hf B (lv_sub hl [3, 4, 5, 6, 0] rfl)
      · have hf := zif_f hc hf
        refine lv_iconst (v := (0 : Int32)) hx hb dL_law_1464 (by decide) ?_
        exact absurd (show (0 : Int32) = 1 from congrArg Prod.fst (Option.some.inj hf)) (by decide)
  · have hf := zif_f hc hf
    refine lv_iconst (v := (0 : Int32)) hx hb dL_law_1447 (by decide) ?_
    exact absurd (show (0 : Int32) = 1 from congrArg Prod.fst (Option.some.inj hf)) (by decide)
theorem dL_law_1469 : decode cL_law 1469 = .ok (.aload_n 1, 1) := by decide +kernel
theorem dL_law_1470 : decode cL_law 1470 = .ok (.aload_n 0, 1) := by decide +kernel
theorem dL_law_1471 : decode cL_law 1471 = .ok (.iload 4, 2) := by decide +kernel
theorem dL_law_1473 : decode cL_law 1473 = .ok (.iconst 1, 1) := by decide +kernel
theorem dL_law_1474 : decode cL_law 1474 = .ok (.iadd, 1) := by decide +kernel
theorem dL_law_1475 : decode cL_law 1475 = .ok (.iaload, 1) := by decide +kernel
theorem dL_law_1476 : decode cL_law 1476 = .ok (.aload_n 0, 1) := by decide +kernel
theorem dL_law_1477 : decode cL_law 1477 = .ok (.iload 4, 2) := by decide +kernel
theorem dL_law_1479 : decode cL_law 1479 = .ok (.iconst 2, 1) := by decide +kernel
theorem dL_law_1480 : decode cL_law 1480 = .ok (.iadd, 1) := by decide +kernel
theorem dL_law_1481 : decode cL_law 1481 = .ok (.iaload, 1) := by decide +kernel
theorem dL_law_1482 : decode cL_law 1482 = .ok (.ifCond .eq 7, 3) := by decide +kernel
theorem dL_law_1485 : decode cL_law 1485 = .ok (.iconst 1, 1) := by decide +kernel
theorem dL_law_1486 : decode cL_law 1486 = .ok (.goto 4, 3) := by decide +kernel
theorem dL_law_1489 : decode cL_law 1489 = .ok (.iconst 0, 1) := by decide +kernel
theorem dL_law_1490 : decode cL_law 1490 = .ok (.aload_n 3, 1) := by decide +kernel
theorem dL_law_1491 : decode cL_law 1491 = .ok (.invokestatic 203, 3) := by decide +kernel
theorem dL_law_1494 : decode cL_law 1494 = .ok (.istore 5, 2) := by decide +kernel
theorem dL_law_1496 : decode cL_law 1496 = .ok (.aload_n 2, 1) := by decide +kernel
theorem dL_law_1497 : decode cL_law 1497 = .ok (.aload_n 0, 1) := by decide +kernel
theorem dL_law_1498 : decode cL_law 1498 = .ok (.iload 4, 2) := by decide +kernel
theorem dL_law_1500 : decode cL_law 1500 = .ok (.iconst 1, 1) := by decide +kernel
theorem dL_law_1501 : decode cL_law 1501 = .ok (.iadd, 1) := by decide +kernel
theorem dL_law_1502 : decode cL_law 1502 = .ok (.iaload, 1) := by decide +kernel
theorem dL_law_1503 : decode cL_law 1503 = .ok (.aload_n 0, 1) := by decide +kernel
theorem dL_law_1504 : decode cL_law 1504 = .ok (.iload 4, 2) := by decide +kernel
theorem dL_law_1506 : decode cL_law 1506 = .ok (.iconst 2, 1) := by decide +kernel
theorem dL_law_1507 : decode cL_law 1507 = .ok (.iadd, 1) := by decide +kernel
theorem dL_law_1508 : decode cL_law 1508 = .ok (.iaload, 1) := by decide +kernel
theorem dL_law_1509 : decode cL_law 1509 = .ok (.ifCond .eq 7, 3) := by decide +kernel
theorem dL_law_1512 : decode cL_law 1512 = .ok (.iconst 1, 1) := by decide +kernel
theorem dL_law_1513 : decode cL_law 1513 = .ok (.goto 4, 3) := by decide +kernel
theorem dL_law_1516 : decode cL_law 1516 = .ok (.iconst 0, 1) := by decide +kernel
theorem dL_law_1517 : decode cL_law 1517 = .ok (.invokevirtual 206, 3) := by decide +kernel
theorem dL_law_1520 : decode cL_law 1520 = .ok (.istore 6, 2) := by decide +kernel
theorem dL_law_1522 : decode cL_law 1522 = .ok (.aload_n 2, 1) := by decide +kernel
theorem dL_law_1523 : decode cL_law 1523 = .ok (.invokevirtual 139, 3) := by decide +kernel
theorem dL_law_1526 : decode cL_law 1526 = .ok (.iload 5, 2) := by decide +kernel
theorem dL_law_1528 : decode cL_law 1528 = .ok (.if_icmp .eq 5, 3) := by decide +kernel
theorem dL_law_1531 : decode cL_law 1531 = .ok (.iconst 0, 1) := by decide +kernel
theorem dL_law_1533 : decode cL_law 1533 = .ok (.iload 5, 2) := by decide +kernel
theorem dL_law_1535 : decode cL_law 1535 = .ok (.ifCond .ne 15, 3) := by decide +kernel
theorem dL_law_1538 : decode cL_law 1538 = .ok (.aload_n 3, 1) := by decide +kernel
theorem dL_law_1539 : decode cL_law 1539 = .ok (.iconst 0, 1) := by decide +kernel
theorem dL_law_1540 : decode cL_law 1540 = .ok (.laload, 1) := by decide +kernel
theorem dL_law_1541 : decode cL_law 1541 = .ok (.iload 6, 2) := by decide +kernel
theorem dL_law_1543 : decode cL_law 1543 = .ok (.i2l, 1) := by decide +kernel
theorem dL_law_1544 : decode cL_law 1544 = .ok (.lcmp, 1) := by decide +kernel
theorem dL_law_1545 : decode cL_law 1545 = .ok (.ifCond .eq 5, 3) := by decide +kernel
theorem dL_law_1548 : decode cL_law 1548 = .ok (.iconst 0, 1) := by decide +kernel
theorem dL_law_1550 : decode cL_law 1550 = .ok (.goto 968, 3) := by decide +kernel
set_option maxRecDepth 20000 in
theorem ggL_law_L_logged : GoodIn wsL_law wsL_logged := goodIn_ca (goodIn_ca (goodIn_r _ [1036, 146, 1037, 1038, 1039, 2, 1040, 16, 941, 155, 156, 157, 158, 159, 160, 161, 162, 1041, 1042, 1043, 50, 1044, 947, 86, 1369, 1370, 1371, 1372, 1373, 1374, 1375, 1376, 1397, 1398, 1399, 1400, 1401, 1402, 1403, 1404, 1443, 1444, 1445, 1446] (by decide +kernel) (by decide +kernel)) (goodIn_sub (fun _ h => List.mem_append_left _ (List.mem_append_left _ (List.mem_append_left _ (List.mem_append_left _ (List.mem_append_left _ (List.mem_append_right _ h)))))) (by decide +kernel))) (goodIn_sub (fun _ h => List.mem_append_left _ (List.mem_append_left _ (List.mem_append_left _ (List.mem_append_left _ (List.mem_append_right _ h))))) (by decide +kernel))
set_option maxRecDepth 20000 in
theorem gL_law_L_logged : GoodIn wsL_law (va_wsS RL 203 yL_logged wsL_logged) := goodIn_app (goodIn_of _ (by decide +kernel)) ggL_law_L_logged
set_option maxRecDepth 20000 in
theorem ggL_law_X9_logged : GoodIn wsL_law wsX9_logged := goodIn_ca (goodIn_r _ [1048, 193, 132, 194, 195, 5, 196, 197, 198, 199, 1377, 1378, 1379, 1380, 1381, 1382, 1383, 1384, 1385, 1386, 1387, 1388, 1389, 1390, 1391, 1392, 1393, 1394, 1395, 1396] (by decide +kernel) (by decide +kernel)) (goodIn_sub (fun _ h => List.mem_append_left _ (List.mem_append_left _ (List.mem_append_left _ (List.mem_append_left _ (List.mem_append_left _ (List.mem_append_right _ h)))))) (by decide +kernel))
set_option maxRecDepth 20000 in
theorem gL_law_X9_logged : GoodIn wsL_law (wsV RL 206 RX9 yX9_logged wsX9_logged) := goodIn_app (goodIn_of _ (by decide +kernel)) ggL_law_X9_logged
set_option maxHeartbeats 4000000 in
set_option maxRecDepth 100000 in
theorem lc_1469 {p : Program} {e : Env} {s : State} {m : MethodId} {below : List Frame} {meth : Method} {c : Code} (l : Launch) (hfl : l.stackTraces = false) {b L : Nat} {xs : Nat → Int32} {Q : State → Prop} (C0 : lw_At p s m meth c b L xs) {G : zG} {ad : Nat → Nat} {σ' : zs} (C1 S1 : Nat) (hC : C1 + 28 ≤ 601024) (hS1 : S1 + 2612 ≤ 7293034) (K23 : zs → Int32 → Option (Int32 × zs)) (hK23 : ∀ (σ : zs) (v4 : Int32) (H : Heap) (locs : List Loc) (ls : Array Slot), K23 σ v4 = some (1, σ') → xB (fun q : Nat => s.heap.size ≤ q) s G ad σ H locs → lv_has ls 7 [(0, .ref b), (1, .ref (ad 0)), (2, .ref (ad 65)), (3, .ref (ad 75)), (4, .int v4)] → W p l e room_1 s m #[Value.ref b] below meth c H locs (C1 + 28) (S1 + 2612) Q (F0 m 23 ls [])) (σ : zs) (v4 : Int32) (H : Heap) (locs : List Loc) (ls : Array Slot) (hf : f_L_law_1469 L xs K23 σ v4 = some (1, σ')) (B : xB (fun q : Nat => s.heap.size ≤ q) s G ad σ H locs) (hl : lv_has ls 7 [(0, .ref b), (1, .ref (ad 0)), (2, .ref (ad 65)), (3, .ref (ad 75)), (4, .int v4)]) : W p l e room_1 s m #[Value.ref b] below meth c H locs C1 S1 Q (F0 m 1469 ls []) := by
  obtain ⟨hx, hb, hr, hml, hown, hts0, hX, hbl, hlocks, hgv⟩ := id C0
  have hts := fun w h => hts0 w (wsL_law_in w h)
  have hbA : ¬ (fun q : Nat => s.heap.size ≤ q) b := Nat.not_le.mpr hbl
  unfold f_L_law_1469 at hf
  refine lv_aload_n hx hb dL_law_1469 rfl (lv_at hl 1 rfl) ?_
  refine lv_aload_n hx hb dL_law_1470 rfl (lv_at hl 0 rfl) ?_
  refine lv_iload hx hb dL_law_1471 (lv_at hl 4 rfl) ?_
  refine lv_iconst (v := (1 : Int32)) hx hb dL_law_1473 (by decide) ?_
  refine lv_iadd hx hb dL_law_1474 ?_
  obtain ⟨hg, hf⟩ := zg_some hf
  refine va_sld hx hb hX hbl hbA (xS B) (zin_ok hg) dL_law_1475 ?_
  refine lv_aload_n hx hb dL_law_1476 rfl (lv_at hl 0 rfl) ?_
  refine lv_iload hx hb dL_law_1477 (lv_at hl 4 rfl) ?_
  refine lv_iconst (v := (2 : Int32)) hx hb dL_law_1479 (by decide) ?_
  refine lv_iadd hx hb dL_law_1480 ?_
  obtain ⟨hg, hf⟩ := zg_some hf
  refine va_sld hx hb hX hbl hbA (xS B) (zin_ok hg) dL_law_1481 ?_
  refine lv_if_eq (tgt := 1489) hx hb dL_law_1482 (by decide) (fun hc => ?_) (fun hc => ?_)
  · have hf := zif_t hc hf
    refine lv_iconst (v := (0 : Int32)) hx hb dL_law_1489 (by decide) ?_
    refine lv_aload_n hx hb dL_law_1490 rfl (lv_at hl 3 rfl) ?_
    obtain ⟨r2, σ3, hu1, hf⟩ := zb_some hf
    refine x_i B (fun nb a g hs Bz => vx_runSW (As := [.ref (ad 0), .int (xs (v4 + (1 : Int32)).toNatClampNeg), .int (0 : Int32), .ref (ad 75)]) (rest := []) ⟨hx, hb, hml, hown, hts⟩ (c_L_logged_0_75 l hfl hu1 _ nb a g hs) (vx_cwSW 4 hts gL_law_L_logged rfl rfl rfl (by decide +kernel) ⟨Nat.le_of_ble_eq_true rfl, Nat.le_of_ble_eq_true rfl⟩) (z_preS Bz) rfl rfl hl.1 rfl (lv_room (Nat.le_of_ble_eq_true rfl)) dL_law_1491 ⟨(show C1 + 1 ≤ 601024 by omega), (show S1 + 6 ≤ 7293034 by omega)⟩) (fun H locs B => ?_)
    refine lv_istore (lv' := [(5, .int r2), (0, .ref b), (1, .ref (ad 0)), (2, .ref (ad 65)), (3, .ref (ad 75)), (4, .int v4)]) hx hb dL_law_1494 hl (by decide) rfl (fun ls hl => ?_)
    refine lv_aload_n hx hb dL_law_1496 rfl (lv_at hl 3 rfl) ?_
    refine lv_aload_n hx hb dL_law_1497 rfl (lv_at hl 1 rfl) ?_
    refine lv_iload hx hb dL_law_1498 (lv_at hl 5 rfl) ?_
    refine lv_iconst (v := (1 : Int32)) hx hb dL_law_1500 (by decide) ?_
    refine lv_iadd hx hb dL_law_1501 ?_
    obtain ⟨hg, hf⟩ := zg_some hf
    refine va_sld hx hb hX hbl hbA (xS B) (zin_ok hg) dL_law_1502 ?_
    refine lv_aload_n hx hb dL_law_1503 rfl (lv_at hl 1 rfl) ?_
    refine lv_iload hx hb dL_law_1504 (lv_at hl 5 rfl) ?_
    refine lv_iconst (v := (2 : Int32)) hx hb dL_law_1506 (by decide) ?_
    refine lv_iadd hx hb dL_law_1507 ?_
    obtain ⟨hg, hf⟩ := zg_some hf
    refine va_sld hx hb hX hbl hbA (xS B) (zin_ok hg) dL_law_1508 ?_
    refine lv_if_eq (tgt := 1516) hx hb dL_law_1509 (by decide) (fun hc => ?_) (fun hc => ?_)
    · have hf := zif_t hc hf
      refine lv_iconst (v := (0 : Int32)) hx hb dL_law_1516 (by decide) ?_
      obtain ⟨r5, σ6, hu4, hf⟩ := zb_some hf
      refine x_i B (fun nb a g hs Bz => va_runV (As := [.int (xs (v4 + (1 : Int32)).toNatClampNeg), .int (0 : Int32)]) (rest := []) ⟨hx, hb, hml, hown, hts⟩ (c_X9_logged l hu4 _ nb a g hs) (cwV 2 hts gL_law_X9_logged rfl rfl rfl (by decide +kernel) ⟨Nat.le_of_ble_eq_true rfl, Nat.le_of_ble_eq_true rfl⟩) (x_preV Bz (by decide) (fun _ => rfl) rfl) rfl rfl hl.1 rfl (lv_room (Nat.le_of_ble_eq_true rfl)) dL_law_1517 ⟨(show C1 + 1 + 0 ≤ 601024 by omega), (show S1 + 6 + 0 ≤ 7293034 by omega)⟩) (fun H locs B => ?_)
      refine lv_istore (lv' := [(6, .int r5), (5, .int r2), (0, .ref b), (1, .ref (ad 0)), (2, .ref (ad 65)), (3, .ref (ad 75)), (4, .int v4)]) hx hb dL_law_1520 hl (by decide) rfl (fun ls hl => ?_)
      refine lv_aload_n hx hb dL_law_1522 rfl (lv_at hl 4 rfl) ?_
      obtain ⟨r8, σ9, hu7, hf⟩ := zb_some hf
      refine x_i B (fun nb a g hs Bz => va_runV (As := []) (rest := []) ⟨hx, hb, hml, hown, hts⟩ (c_X9_thrown l hu7 _ nb a g hs) (cwV 0 hts gL_law_X9_thrown rfl rfl rfl (by decide +kernel) ⟨Nat.le_of_ble_eq_true rfl, Nat.le_of_ble_eq_true rfl⟩) (x_preV Bz (by decide) (fun _ => rfl) rfl) rfl rfl hl.1 rfl (lv_room (Nat.le_of_ble_eq_true rfl)) dL_law_1523 ⟨(show C1 + 1 + 0 + 0 ≤ 601024 by omega), (show S1 + 6 + 0 + 0 ≤ 7293034 by omega)⟩) (fun H locs B => ?_)
      refine lv_iload hx hb dL_law_1526 (lv_at hl 1 rfl) ?_
      refine lv_icmp_eq (tgt := 1533) hx hb dL_law_1528 (by decide) (fun hc => ?_) (fun hc => ?_)
      · have hf := zif_t hc hf
        refine lv_iload hx hb dL_law_1533 (lv_at hl 1 rfl) ?_
        refine lv_if_ne (tgt := 1550) hx hb dL_law_1535 (by decide) (fun hc => ?_) (fun hc => ?_)
        · have hf := zif_f hc hf
          refine lv_goto (tgt := 2518) hx hb dL_law_1550 (by decide) ?_
          refine lv_iinc (v := (v4 + (5 : Int32))) (lv' := [(4, .int (v4 + (5 : Int32))), (6, .int r5), (5, .int r2), (0, .ref b), (1, .ref (ad 0)), (2, .ref (ad 65)), (3, .ref (ad 75))]) hx hb dL_law_2518 hl (k := 6) rfl (zc1 (by decide)) (by decide) rfl (fun ls hl => ?_)
          refine lv_goto (tgt := 23) hx hb dL_law_2521 (by decide) ?_
          refine W.widen (k := C1 + 28) (n := S1 + 2612) (show C1 + 1 + 0 + 0 ≤ C1 + 28 by omega) (show S1 + 6 + 0 + 0 ≤ S1 + 2612 by omega) ?_
          exact hK23 _ _ _ _ _ hf B (lv_sub hl [3, 4, 5, 6, 0] rfl)
        · have hf := zif_t hc hf
          refine lv_aload_n hx hb dL_law_1538 rfl (lv_at hl 5 rfl) ?_
          refine lv_iconst (v := (0 : Int32)) hx hb dL_law_1539 (by decide) ?_
          obtain ⟨hg, hf⟩ := zg_some hf
          refine x_lald hx hb B 75 (by decide) (fun _ => rfl) (zin_ok hg) dL_law_1540 ?_
          refine lv_iload hx hb dL_law_1541 (lv_at hl 0 rfl) ?_
          refine lv_i2l (v := r5.toInt64) hx hb dL_law_1543 rfl ?_
          refine W.lcmp hx hb dL_law_1544 ?_
          refine lv_if_eq (tgt := 1550) hx hb dL_law_1545 (by decide) (fun hc => ?_) (fun hc => ?_)
          · have hf := zif_t hc hf
            refine lv_goto (tgt := 2518) hx hb dL_law_1550 (by decide) ?_
            refine lv_iinc (v := (v4 + (5 : Int32))) (lv' := [(4, .int (v4 + (5 : Int32))), (6, .int r5), (5, .int r2), (0, .ref b), (1, .ref (ad 0)), (2, .ref (ad 65)), (3, .ref (ad 75))]) hx hb dL_law_2518 hl (k := 6) rfl (zc1 (by decide)) (by decide) rfl (fun ls hl => ?_)
            refine lv_goto (tgt := 23) hx hb dL_law_2521 (by decide) ?_
            refine W.widen (k := C1 + 28) (n := S1 + 2612) (show C1 + 1 + 0 + 0 ≤ C1 + 28 by omega) (show S1 + 6 + 0 + 0 ≤ S1 + 2612 by omega) ?_
            exact hK23 _ _ _ _ _ hf B (lv_sub hl [3, 4, 5, 6, 0] rfl)
          · have hf := zif_f hc hf
            refine lv_iconst (v := (0 : Int32)) hx hb dL_law_1548 (by decide) ?_
            exact absurd (show (0 : Int32) = 1 from congrArg Prod.fst (Option.some.inj hf)) (by decide)
      · have hf := zif_f hc hf
        refine lv_iconst (v := (0 : Int32)) hx hb dL_law_1531 (by decide) ?_
        exact absurd (show (0 : Int32) = 1 from congrArg Prod.fst (Option.some.inj hf)) (by decide)
    · have hf := zif_f hc hf
      refine lv_iconst (v := (1 : Int32)) hx hb dL_law_1512 (by decide) ?_
      refine lv_goto (tgt := 1517) hx hb dL_law_1513 (by decide) ?_
      obtain ⟨r11, σ12, hu10, hf⟩ := zb_some hf
      refine x_i B (fun nb a g hs Bz => va_runV (As := [.int (xs (v4 + (1 : Int32)).toNatClampNeg), .int (1 : Int32)]) (rest := []) ⟨hx, hb, hml, hown, hts⟩ (c_X9_logged l hu10 _ nb a g hs) (cwV 2 hts gL_law_X9_logged rfl rfl rfl (by decide +kernel) ⟨Nat.le_of_ble_eq_true rfl, Nat.le_of_ble_eq_true rfl⟩) (x_preV Bz (by decide) (fun _ => rfl) rfl) rfl rfl hl.1 rfl (lv_room (Nat.le_of_ble_eq_true rfl)) dL_law_1517 ⟨(show C1 + 1 + 0 ≤ 601024 by omega), (show S1 + 6 + 0 ≤ 7293034 by omega)⟩) (fun H locs B => ?_)
      refine lv_istore (lv' := [(6, .int r11), (5, .int r2), (0, .ref b), (1, .ref (ad 0)), (2, .ref (ad 65)), (3, .ref (ad 75)), (4, .int v4)]) hx hb dL_law_1520 hl (by decide) rfl (fun ls hl => ?_)
      refine lv_aload_n hx hb dL_law_1522 rfl (lv_at hl 4 rfl) ?_
      obtain ⟨r14, σ15, hu13, hf⟩ := zb_some hf
      refine x_i B (fun nb a g hs Bz => va_runV (As := []) (rest := []) ⟨hx, hb, hml, hown, hts⟩ (c_X9_thrown l hu13 _ nb a g hs) (cwV 0 hts gL_law_X9_thrown rfl rfl rfl (by decide +kernel) ⟨Nat.le_of_ble_eq_true rfl, Nat.le_of_ble_eq_true rfl⟩) (x_preV Bz (by decide) (fun _ => rfl) rfl) rfl rfl hl.1 rfl (lv_room (Nat.le_of_ble_eq_true rfl)) dL_law_1523 ⟨(show C1 + 1 + 0 + 0 ≤ 601024 by omega), (show S1 + 6 + 0 + 0 ≤ 7293034 by omega)⟩) (fun H locs B => ?_)
      refine lv_iload hx hb dL_law_1526 (lv_at hl 1 rfl) ?_
      refine lv_icmp_eq (tgt := 1533) hx hb dL_law_1528 (by decide) (fun hc => ?_) (fun hc => ?_)
      · have hf := zif_t hc hf
        refine lv_iload hx hb dL_law_1533 (lv_at hl 1 rfl) ?_
        refine lv_if_ne (tgt := 1550) hx hb dL_law_1535 (by decide) (fun hc => ?_) (fun hc => ?_)
        · have hf := zif_f hc hf
          refine lv_goto (tgt := 2518) hx hb dL_law_1550 (by decide) ?_
          refine lv_iinc (v := (v4 + (5 : Int32))) (lv' := [(4, .int (v4 + (5 : Int32))), (6, .int r11), (5, .int r2), (0, .ref b), (1, .ref (ad 0)), (2, .ref (ad 65)), (3, .ref (ad 75))]) hx hb dL_law_2518 hl (k := 6) rfl (zc1 (by decide)) (by decide) rfl (fun ls hl => ?_)
          refine lv_goto (tgt := 23) hx hb dL_law_2521 (by decide) ?_
          refine W.widen (k := C1 + 28) (n := S1 + 2612) (show C1 + 1 + 0 + 0 ≤ C1 + 28 by omega) (show S1 + 6 + 0 + 0 ≤ S1 + 2612 by omega) ?_
          exact hK23 _ _ _ _ _ hf B (lv_sub hl [3, 4, 5, 6, 0] rfl)
        · have hf := zif_t hc hf
          refine lv_aload_n hx hb dL_law_1538 rfl (lv_at hl 5 rfl) ?_
          refine lv_iconst (v := (0 : Int32)) hx hb dL_law_1539 (by decide) ?_
          obtain ⟨hg, hf⟩ := zg_some hf
          refine x_lald hx hb B 75 (by decide) (fun _ => rfl) (zin_ok hg) dL_law_1540 ?_
          refine lv_iload hx hb dL_law_1541 (lv_at hl 0 rfl) ?_
          refine lv_i2l (v := r11.toInt64) hx hb dL_law_1543 rfl ?_
          refine W.lcmp hx hb dL_law_1544 ?_
          refine lv_if_eq (tgt := 1550) hx hb dL_law_1545 (by decide) (fun hc => ?_) (fun hc => ?_)
          · have hf := zif_t hc hf
            refine lv_goto (tgt := 2518) hx hb dL_law_1550 (by decide) ?_
            refine lv_iinc (v := (v4 + (5 : Int32))) (lv' := [(4, .int (v4 + (5 : Int32))), (6, .int r11), (5, .int r2), (0, .ref b), (1, .ref (ad 0)), (2, .ref (ad 65)), (3, .ref (ad 75))]) hx hb dL_law_2518 hl (k := 6) rfl (zc1 (by decide)) (by decide) rfl (fun ls hl => ?_)
            refine lv_goto (tgt := 23) hx hb dL_law_2521 (by decide) ?_
            refine W.widen (k := C1 + 28) (n := S1 + 2612) (show C1 + 1 + 0 + 0 ≤ C1 + 28 by omega) (show S1 + 6 + 0 + 0 ≤ S1 + 2612 by omega) ?_
            exact hK23 _ _ _ _ _ hf B (lv_sub hl [3, 4, 5, 6, 0] rfl)
          · have hf := zif_f hc hf
            refine lv_iconst (v := (0 : Int32)) hx hb dL_law_1548 (by decide) ?_
            exact absurd (show (0 : Int32) = 1 from congrArg Prod.fst (Option.some.inj hf)) (by decide)
      · have hf := zif_f hc hf
        refine lv_iconst (v := (0 : Int32)) hx hb dL_law_1531 (by decide) ?_
        exact absurd (show (0 : Int32) = 1 from congrArg Prod.fst (Option.some.inj hf)) (by decide)
  · have hf := zif_f hc hf
    refine lv_iconst (v := (1 : Int32)) hx hb dL_law_1485 (by decide) ?_
    refine lv_goto (tgt := 1490) hx hb dL_law_1486 (by decide) ?_
    refine lv_aload_n hx hb dL_law_1490 rfl (lv_at hl 3 rfl) ?_
    obtain ⟨r17, σ18, hu16, hf⟩ := zb_some hf
    refine x_i B (fun nb a g hs Bz => vx_runSW (As := [.ref (ad 0), .int (xs (v4 + (1 : Int32)).toNatClampNeg), .int (1 : Int32), .ref (ad 75)]) (rest := []) ⟨hx, hb, hml, hown, hts⟩ (c_L_logged_0_75 l hfl hu16 _ nb a g hs) (vx_cwSW 4 hts gL_law_L_logged rfl rfl rfl (by decide +kernel) ⟨Nat.le_of_ble_eq_true rfl, Nat.le_of_ble_eq_true rfl⟩) (z_preS Bz) rfl rfl hl.1 rfl (lv_room (Nat.le_of_ble_eq_true rfl)) dL_law_1491 ⟨(show C1 + 1 ≤ 601024 by omega), (show S1 + 6 ≤ 7293034 by omega)⟩) (fun H locs B => ?_)
    refine lv_istore (lv' := [(5, .int r17), (0, .ref b), (1, .ref (ad 0)), (2, .ref (ad 65)), (3, .ref (ad 75)), (4, .int v4)]) hx hb dL_law_1494 hl (by decide) rfl (fun ls hl => ?_)
    refine lv_aload_n hx hb dL_law_1496 rfl (lv_at hl 3 rfl) ?_
    refine lv_aload_n hx hb dL_law_1497 rfl (lv_at hl 1 rfl) ?_
    refine lv_iload hx hb dL_law_1498 (lv_at hl 5 rfl) ?_
    refine lv_iconst (v := (1 : Int32)) hx hb dL_law_1500 (by decide) ?_
    refine lv_iadd hx hb dL_law_1501 ?_
    obtain ⟨hg, hf⟩ := zg_some hf
    refine va_sld hx hb hX hbl hbA (xS B) (zin_ok hg) dL_law_1502 ?_
    refine lv_aload_n hx hb dL_law_1503 rfl (lv_at hl 1 rfl) ?_
    refine lv_iload hx hb dL_law_1504 (lv_at hl 5 rfl) ?_
    refine lv_iconst (v := (2 : Int32)) hx hb dL_law_1506 (by decide) ?_
    refine lv_iadd hx hb dL_law_1507 ?_
    obtain ⟨hg, hf⟩ := zg_some hf
    refine va_sld hx hb hX hbl hbA (xS B) (zin_ok hg) dL_law_1508 ?_
    refine lv_if_eq (tgt := 1516) hx hb dL_law_1509 (by decide) (fun hc => ?_) (fun hc => ?_)
    · have hf := zif_t hc hf
      refine lv_iconst (v := (0 : Int32)) hx hb dL_law_1516 (by decide) ?_
      obtain ⟨r20, σ21, hu19, hf⟩ := zb_some hf
      refine x_i B (fun nb a g hs Bz => va_runV (As := [.int (xs (v4 + (1 : Int32)).toNatClampNeg), .int (0 : Int32)]) (rest := []) ⟨hx, hb, hml, hown, hts⟩ (c_X9_logged l hu19 _ nb a g hs) (cwV 2 hts gL_law_X9_logged rfl rfl rfl (by decide +kernel) ⟨Nat.le_of_ble_eq_true rfl, Nat.le_of_ble_eq_true rfl⟩) (x_preV Bz (by decide) (fun _ => rfl) rfl) rfl rfl hl.1 rfl (lv_room (Nat.le_of_ble_eq_true rfl)) dL_law_1517 ⟨(show C1 + 1 + 0 ≤ 601024 by omega), (show S1 + 6 + 0 ≤ 7293034 by omega)⟩) (fun H locs B => ?_)
      refine lv_istore (lv' := [(6, .int r20), (5, .int r17), (0, .ref b), (1, .ref (ad 0)), (2, .ref (ad 65)), (3, .ref (ad 75)), (4, .int v4)]) hx hb dL_law_1520 hl (by decide) rfl (fun ls hl => ?_)
      refine lv_aload_n hx hb dL_law_1522 rfl (lv_at hl 4 rfl) ?_
      obtain ⟨r23, σ24, hu22, hf⟩ := zb_some hf
      refine x_i B (fun nb a g hs Bz => va_runV (As := []) (rest := []) ⟨hx, hb, hml, hown, hts⟩ (c_X9_thrown l hu22 _ nb a g hs) (cwV 0 hts gL_law_X9_thrown rfl rfl rfl (by decide +kernel) ⟨Nat.le_of_ble_eq_true rfl, Nat.le_of_ble_eq_true rfl⟩) (x_preV Bz (by decide) (fun _ => rfl) rfl) rfl rfl hl.1 rfl (lv_room (Nat.le_of_ble_eq_true rfl)) dL_law_1523 ⟨(show C1 + 1 + 0 + 0 ≤ 601024 by omega), (show S1 + 6 + 0 + 0 ≤ 7293034 by omega)⟩) (fun H locs B => ?_)
      refine lv_iload hx hb dL_law_1526 (lv_at hl 1 rfl) ?_
      refine lv_icmp_eq (tgt := 1533) hx hb dL_law_1528 (by decide) (fun hc => ?_) (fun hc => ?_)
      · have hf := zif_t hc hf
        refine lv_iload hx hb dL_law_1533 (lv_at hl 1 rfl) ?_
        refine lv_if_ne (tgt := 1550) hx hb dL_law_1535 (by decide) (fun hc => ?_) (fun hc => ?_)
        · have hf := zif_f hc hf
          refine lv_goto (tgt := 2518) hx hb dL_law_1550 (by decide) ?_
          refine lv_iinc (v := (v4 + (5 : Int32))) (lv' := [(4, .int (v4 + (5 : Int32))), (6, .int r20), (5, .int r17), (0, .ref b), (1, .ref (ad 0)), (2, .ref (ad 65)), (3, .ref (ad 75))]) hx hb dL_law_2518 hl (k := 6) rfl (zc1 (by decide)) (by decide) rfl (fun ls hl => ?_)
          refine lv_goto (tgt := 23) hx hb dL_law_2521 (by decide) ?_
          refine W.widen (k := C1 + 28) (n := S1 + 2612) (show C1 + 1 + 0 + 0 ≤ C1 + 28 by omega) (show S1 + 6 + 0 + 0 ≤ S1 + 2612 by omega) ?_
          exact hK23 _ _ _ _ _ hf B (lv_sub hl [3, 4, 5, 6, 0] rfl)
        · have hf := zif_t hc hf
          refine lv_aload_n hx hb dL_law_1538 rfl (lv_at hl 5 rfl) ?_
          refine lv_iconst (v := (0 : Int32)) hx hb dL_law_1539 (by decide) ?_
          obtain ⟨hg, hf⟩ := zg_some hf
          refine x_lald hx hb B 75 (by decide) (fun _ => rfl) (zin_ok hg) dL_law_1540 ?_
          refine lv_iload hx hb dL_law_1541 (lv_at hl 0 rfl) ?_
          refine lv_i2l (v := r20.toInt64) hx hb dL_law_1543 rfl ?_
          refine W.lcmp hx hb dL_law_1544 ?_
          refine lv_if_eq (tgt := 1550) hx hb dL_law_1545 (by decide) (fun hc => ?_) (fun hc => ?_)
          · have hf := zif_t hc hf
            refine lv_goto (tgt := 2518) hx hb dL_law_1550 (by decide) ?_
            refine lv_iinc (v := (v4 + (5 : Int32))) (lv' := [(4, .int (v4 + (5 : Int32))), (6, .int r20), (5, .int r17), (0, .ref b), (1, .ref (ad 0)), (2, .ref (ad 65)), (3, .ref (ad 75))]) hx hb dL_law_2518 hl (k := 6) rfl (zc1 (by decide)) (by decide) rfl (fun ls hl => ?_)
            refine lv_goto (tgt := 23) hx hb dL_law_2521 (by decide) ?_
            refine W.widen (k := C1 + 28) (n := S1 + 2612) (show C1 + 1 + 0 + 0 ≤ C1 + 28 by omega) (show S1 + 6 + 0 + 0 ≤ S1 + 2612 by omega) ?_
            exact hK23 _ _ _ _ _ hf B (lv_sub hl [3, 4, 5, 6, 0] rfl)
          · have hf := zif_f hc hf
            refine lv_iconst (v := (0 : Int32)) hx hb dL_law_1548 (by decide) ?_
            exact absurd (show (0 : Int32) = 1 from congrArg Prod.fst (Option.some.inj hf)) (by decide)
      · have hf := zif_f hc hf
        refine lv_iconst (v := (0 : Int32)) hx hb dL_law_1531 (by decide) ?_
        exact absurd (show (0 : Int32) = 1 from congrArg Prod.fst (Option.some.inj hf)) (by decide)
    · have hf := zif_f hc hf
      refine lv_iconst (v := (1 : Int32)) hx hb dL_law_1512 (by decide) ?_
      refine lv_goto (tgt := 1517) hx hb dL_law_1513 (by decide) ?_
      obtain ⟨r26, σ27, hu25, hf⟩ := zb_some hf
      refine x_i B (fun nb a g hs Bz => va_runV (As := [.int (xs (v4 + (1 : Int32)).toNatClampNeg), .int (1 : Int32)]) (rest := []) ⟨hx, hb, hml, hown, hts⟩ (c_X9_logged l hu25 _ nb a g hs) (cwV 2 hts gL_law_X9_logged rfl rfl rfl (by decide +kernel) ⟨Nat.le_of_ble_eq_true rfl, Nat.le_of_ble_eq_true rfl⟩) (x_preV Bz (by decide) (fun _ => rfl) rfl) rfl rfl hl.1 rfl (lv_room (Nat.le_of_ble_eq_true rfl)) dL_law_1517 ⟨(show C1 + 1 + 0 ≤ 601024 by omega), (show S1 + 6 + 0 ≤ 7293034 by omega)⟩) (fun H locs B => ?_)
      refine lv_istore (lv' := [(6, .int r26), (5, .int r17), (0, .ref b), (1, .ref (ad 0)), (2, .ref (ad 65)), (3, .ref (ad 75)), (4, .int v4)]) hx hb dL_law_1520 hl (by decide) rfl (fun ls hl => ?_)
      refine lv_aload_n hx hb dL_law_1522 rfl (lv_at hl 4 rfl) ?_
      obtain ⟨r29, σ30, hu28, hf⟩ := zb_some hf
      refine x_i B (fun nb a g hs Bz => va_runV (As := []) (rest := []) ⟨hx, hb, hml, hown, hts⟩ (c_X9_thrown l hu28 _ nb a g hs) (cwV 0 hts gL_law_X9_thrown rfl rfl rfl (by decide +kernel) ⟨Nat.le_of_ble_eq_true rfl, Nat.le_of_ble_eq_true rfl⟩) (x_preV Bz (by decide) (fun _ => rfl) rfl) rfl rfl hl.1 rfl (lv_room (Nat.le_of_ble_eq_true rfl)) dL_law_1523 ⟨(show C1 + 1 + 0 + 0 ≤ 601024 by omega), (show S1 + 6 + 0 + 0 ≤ 7293034 by omega)⟩) (fun H locs B => ?_)
      refine lv_iload hx hb dL_law_1526 (lv_at hl 1 rfl) ?_
      refine lv_icmp_eq (tgt := 1533) hx hb dL_law_1528 (by decide) (fun hc => ?_) (fun hc => ?_)
      · have hf := zif_t hc hf
        refine lv_iload hx hb dL_law_1533 (lv_at hl 1 rfl) ?_
        refine lv_if_ne (tgt := 1550) hx hb dL_law_1535 (by decide) (fun hc => ?_) (fun hc => ?_)
        · have hf := zif_f hc hf
          refine lv_goto (tgt := 2518) hx hb dL_law_1550 (by decide) ?_
          refine lv_iinc (v := (v4 + (5 : Int32))) (lv' := [(4, .int (v4 + (5 : Int32))), (6, .int r26), (5, .int r17), (0, .ref b), (1, .ref (ad 0)), (2, .ref (ad 65)), (3, .ref (ad 75))]) hx hb dL_law_2518 hl (k := 6) rfl (zc1 (by decide)) (by decide) rfl (fun ls hl => ?_)
          refine lv_goto (tgt := 23) hx hb dL_law_2521 (by decide) ?_
          refine W.widen (k := C1 + 28) (n := S1 + 2612) (show C1 + 1 + 0 + 0 ≤ C1 + 28 by omega) (show S1 + 6 + 0 + 0 ≤ S1 + 2612 by omega) ?_
          exact hK23 _ _ _ _ _ hf B (lv_sub hl [3, 4, 5, 6, 0] rfl)
        · have hf := zif_t hc hf
          refine lv_aload_n hx hb dL_law_1538 rfl (lv_at hl 5 rfl) ?_
          refine lv_iconst (v := (0 : Int32)) hx hb dL_law_1539 (by decide) ?_
          obtain ⟨hg, hf⟩ := zg_some hf
          refine x_lald hx hb B 75 (by decide) (fun _ => rfl) (zin_ok hg) dL_law_1540 ?_
          refine lv_iload hx hb dL_law_1541 (lv_at hl 0 rfl) ?_
          refine lv_i2l (v := r26.toInt64) hx hb dL_law_1543 rfl ?_
          refine W.lcmp hx hb dL_law_1544 ?_
          refine lv_if_eq (tgt := 1550) hx hb dL_law_1545 (by decide) (fun hc => ?_) (fun hc => ?_)
          · have hf := zif_t hc hf
            refine lv_goto (tgt := 2518) hx hb dL_law_1550 (by decide) ?_
            refine lv_iinc (v := (v4 + (5 : Int32))) (lv' := [(4, .int (v4 + (5 : Int32))), (6, .int r26), (5, .int r17), (0, .ref b), (1, .ref (ad 0)), (2, .ref (ad 65)), (3, .ref (ad 75))]) hx hb dL_law_2518 hl (k := 6) rfl (zc1 (by decide)) (by decide) rfl (fun ls hl => ?_)
            refine lv_goto (tgt := 23) hx hb dL_law_2521 (by decide) ?_
            refine W.widen (k := C1 + 28) (n := S1 + 2612) (show C1 + 1 + 0 + 0 ≤ C1 + 28 by omega) (show S1 + 6 + 0 + 0 ≤ S1 + 2612 by omega) ?_
            exact hK23 _ _ _ _ _ hf B (lv_sub hl [3, 4, 5, 6, 0] rfl)
          · have hf := zif_f hc hf
            refine lv_iconst (v := (0 : Int32)) hx hb dL_law_1548 (by decide) ?_
            exact absurd (show (0 : Int32) = 1 from congrArg Prod.fst (Option.some.inj hf)) (by decide)
      · have hf := zif_f hc hf
        refine lv_iconst (v := (0 : Int32)) hx hb dL_law_1531 (by decide) ?_
        exact absurd (show (0 : Int32) = 1 from congrArg Prod.fst (Option.some.inj hf)) (by decide)
theorem dL_law_1553 : decode cL_law 1553 = .ok (.aload_n 1, 1) := by decide +kernel
theorem dL_law_1554 : decode cL_law 1554 = .ok (.invokevirtual 207, 3) := by decide +kernel
theorem dL_law_1557 : decode cL_law 1557 = .ok (.aload_n 2, 1) := by decide +kernel
theorem dL_law_1558 : decode cL_law 1558 = .ok (.invokevirtual 210, 3) := by decide +kernel
theorem dL_law_1561 : decode cL_law 1561 = .ok (.if_icmp .eq 957, 3) := by decide +kernel
theorem dL_law_1564 : decode cL_law 1564 = .ok (.iconst 0, 1) := by decide +kernel
set_option maxRecDepth 20000 in
theorem ggL_law_X8_levels : GoodIn wsL_law wsX8_levels := goodIn_r _ [1052, 22, 1053, 1369, 1370, 1371, 1372, 1373, 1374, 1375, 1376, 1405, 1406, 1407] (by decide +kernel) (by decide +kernel)
set_option maxRecDepth 20000 in
theorem gL_law_X8_levels : GoodIn wsL_law (wsV RL 207 RX8 yX8_levels wsX8_levels) := goodIn_app (goodIn_of _ (by decide +kernel)) ggL_law_X8_levels
set_option maxRecDepth 20000 in
theorem ggL_law_X9_levels : GoodIn wsL_law wsX9_levels := goodIn_r _ [1057, 193, 419, 1377, 1378, 1379, 1380, 1381, 1382, 1383, 1384, 1385, 1386, 1387, 1388, 1389, 1390, 1391, 1392, 1393, 1394, 1395, 1396] (by decide +kernel) (by decide +kernel)
set_option maxRecDepth 20000 in
theorem gL_law_X9_levels : GoodIn wsL_law (wsV RL 210 RX9 yX9_levels wsX9_levels) := goodIn_app (goodIn_of _ (by decide +kernel)) ggL_law_X9_levels
set_option maxHeartbeats 4000000 in
set_option maxRecDepth 100000 in
theorem lc_1553 {p : Program} {e : Env} {s : State} {m : MethodId} {below : List Frame} {meth : Method} {c : Code} (l : Launch) (hfl : l.stackTraces = false) {b L : Nat} {xs : Nat → Int32} {Q : State → Prop} (C0 : lw_At p s m meth c b L xs) {G : zG} {ad : Nat → Nat} {σ' : zs} (C1 S1 : Nat) (hC : C1 + 28 ≤ 601024) (hS1 : S1 + 2612 ≤ 7293034) (K23 : zs → Int32 → Option (Int32 × zs)) (hK23 : ∀ (σ : zs) (v4 : Int32) (H : Heap) (locs : List Loc) (ls : Array Slot), K23 σ v4 = some (1, σ') → xB (fun q : Nat => s.heap.size ≤ q) s G ad σ H locs → lv_has ls 7 [(0, .ref b), (1, .ref (ad 0)), (2, .ref (ad 65)), (3, .ref (ad 75)), (4, .int v4)] → W p l e room_1 s m #[Value.ref b] below meth c H locs (C1 + 28) (S1 + 2612) Q (F0 m 23 ls [])) (σ : zs) (v4 : Int32) (H : Heap) (locs : List Loc) (ls : Array Slot) (hf : f_L_law_1553 L xs K23 σ v4 = some (1, σ')) (B : xB (fun q : Nat => s.heap.size ≤ q) s G ad σ H locs) (hl : lv_has ls 7 [(0, .ref b), (1, .ref (ad 0)), (2, .ref (ad 65)), (3, .ref (ad 75)), (4, .int v4)]) : W p l e room_1 s m #[Value.ref b] below meth c H locs C1 S1 Q (F0 m 1553 ls []) := by
  obtain ⟨hx, hb, hr, hml, hown, hts0, hX, hbl, hlocks, hgv⟩ := id C0
  have hts := fun w h => hts0 w (wsL_law_in w h)
  have hbA : ¬ (fun q : Nat => s.heap.size ≤ q) b := Nat.not_le.mpr hbl
  unfold f_L_law_1553 at hf
  refine lv_aload_n hx hb dL_law_1553 rfl (lv_at hl 1 rfl) ?_
  obtain ⟨r2, σ3, hu1, hf⟩ := zb_some hf
  refine x_i B (fun nb a g hs Bz => va_runV (As := []) (rest := []) ⟨hx, hb, hml, hown, hts⟩ (c_X8_levels l hu1 _ nb a g hs) (cwV 0 hts gL_law_X8_levels rfl rfl rfl (by decide +kernel) ⟨Nat.le_of_ble_eq_true rfl, Nat.le_of_ble_eq_true rfl⟩) (x_preV Bz (by decide) (fun _ => rfl) rfl) rfl rfl hl.1 rfl (lv_room (Nat.le_of_ble_eq_true rfl)) dL_law_1554 ⟨(show C1 + 0 ≤ 601024 by omega), (show S1 + 0 ≤ 7293034 by omega)⟩) (fun H locs B => ?_)
  refine lv_aload_n hx hb dL_law_1557 rfl (lv_at hl 2 rfl) ?_
  obtain ⟨r5, σ6, hu4, hf⟩ := zb_some hf
  refine x_i B (fun nb a g hs Bz => va_runV (As := []) (rest := [.int r2]) ⟨hx, hb, hml, hown, hts⟩ (c_X9_levels l hu4 _ nb a g hs) (cwV 0 hts gL_law_X9_levels rfl rfl rfl (by decide +kernel) ⟨Nat.le_of_ble_eq_true rfl, Nat.le_of_ble_eq_true rfl⟩) (x_preV Bz (by decide) (fun _ => rfl) rfl) rfl rfl hl.1 rfl (lv_room (Nat.le_of_ble_eq_true rfl)) dL_law_1558 ⟨(show C1 + 0 + 0 ≤ 601024 by omega), (show S1 + 0 + 0 ≤ 7293034 by omega)⟩) (fun H locs B => ?_)
  refine lv_icmp_eq (tgt := 2518) hx hb dL_law_1561 (by decide) (fun hc => ?_) (fun hc => ?_)
  · have hf := zif_t hc hf
    refine lv_iinc (v := (v4 + (5 : Int32))) (lv' := [(4, .int (v4 + (5 : Int32))), (0, .ref b), (1, .ref (ad 0)), (2, .ref (ad 65)), (3, .ref (ad 75))]) hx hb dL_law_2518 hl (k := 4) rfl (zc1 (by decide)) (by decide) rfl (fun ls hl => ?_)
    refine lv_goto (tgt := 23) hx hb dL_law_2521 (by decide) ?_
    refine W.widen (k := C1 + 28) (n := S1 + 2612) (show C1 + 0 + 0 ≤ C1 + 28 by omega) (show S1 + 0 + 0 ≤ S1 + 2612 by omega) ?_
    exact hK23 _ _ _ _ _ hf B (lv_sub hl [1, 2, 3, 4, 0] rfl)
  · have hf := zif_f hc hf
    refine lv_iconst (v := (0 : Int32)) hx hb dL_law_1564 (by decide) ?_
    exact absurd (show (0 : Int32) = 1 from congrArg Prod.fst (Option.some.inj hf)) (by decide)
theorem dL_law_1566 : decode cL_law 1566 = .ok (.aload_n 1, 1) := by decide +kernel
theorem dL_law_1567 : decode cL_law 1567 = .ok (.aload_n 0, 1) := by decide +kernel
theorem dL_law_1568 : decode cL_law 1568 = .ok (.iload 4, 2) := by decide +kernel
theorem dL_law_1570 : decode cL_law 1570 = .ok (.iconst 1, 1) := by decide +kernel
theorem dL_law_1571 : decode cL_law 1571 = .ok (.iadd, 1) := by decide +kernel
theorem dL_law_1572 : decode cL_law 1572 = .ok (.iaload, 1) := by decide +kernel
theorem dL_law_1573 : decode cL_law 1573 = .ok (.aload_n 0, 1) := by decide +kernel
theorem dL_law_1574 : decode cL_law 1574 = .ok (.iload 4, 2) := by decide +kernel
theorem dL_law_1576 : decode cL_law 1576 = .ok (.iconst 2, 1) := by decide +kernel
theorem dL_law_1577 : decode cL_law 1577 = .ok (.iadd, 1) := by decide +kernel
theorem dL_law_1578 : decode cL_law 1578 = .ok (.iaload, 1) := by decide +kernel
theorem dL_law_1579 : decode cL_law 1579 = .ok (.aload_n 3, 1) := by decide +kernel
theorem dL_law_1580 : decode cL_law 1580 = .ok (.invokestatic 211, 3) := by decide +kernel
theorem dL_law_1583 : decode cL_law 1583 = .ok (.istore 5, 2) := by decide +kernel
theorem dL_law_1585 : decode cL_law 1585 = .ok (.aload_n 2, 1) := by decide +kernel
theorem dL_law_1586 : decode cL_law 1586 = .ok (.aload_n 0, 1) := by decide +kernel
theorem dL_law_1587 : decode cL_law 1587 = .ok (.iload 4, 2) := by decide +kernel
theorem dL_law_1589 : decode cL_law 1589 = .ok (.iconst 1, 1) := by decide +kernel
theorem dL_law_1590 : decode cL_law 1590 = .ok (.iadd, 1) := by decide +kernel
theorem dL_law_1591 : decode cL_law 1591 = .ok (.iaload, 1) := by decide +kernel
theorem dL_law_1592 : decode cL_law 1592 = .ok (.aload_n 0, 1) := by decide +kernel
theorem dL_law_1593 : decode cL_law 1593 = .ok (.iload 4, 2) := by decide +kernel
theorem dL_law_1595 : decode cL_law 1595 = .ok (.iconst 2, 1) := by decide +kernel
theorem dL_law_1596 : decode cL_law 1596 = .ok (.iadd, 1) := by decide +kernel
theorem dL_law_1597 : decode cL_law 1597 = .ok (.iaload, 1) := by decide +kernel
theorem dL_law_1598 : decode cL_law 1598 = .ok (.invokevirtual 213, 3) := by decide +kernel
theorem dL_law_1601 : decode cL_law 1601 = .ok (.istore 6, 2) := by decide +kernel
theorem dL_law_1603 : decode cL_law 1603 = .ok (.aload_n 2, 1) := by decide +kernel
theorem dL_law_1604 : decode cL_law 1604 = .ok (.invokevirtual 139, 3) := by decide +kernel
theorem dL_law_1607 : decode cL_law 1607 = .ok (.iload 5, 2) := by decide +kernel
theorem dL_law_1609 : decode cL_law 1609 = .ok (.if_icmp .eq 5, 3) := by decide +kernel
theorem dL_law_1612 : decode cL_law 1612 = .ok (.iconst 0, 1) := by decide +kernel
theorem dL_law_1614 : decode cL_law 1614 = .ok (.iload 5, 2) := by decide +kernel
theorem dL_law_1616 : decode cL_law 1616 = .ok (.ifCond .ne 15, 3) := by decide +kernel
theorem dL_law_1619 : decode cL_law 1619 = .ok (.aload_n 3, 1) := by decide +kernel
theorem dL_law_1620 : decode cL_law 1620 = .ok (.iconst 0, 1) := by decide +kernel
theorem dL_law_1621 : decode cL_law 1621 = .ok (.laload, 1) := by decide +kernel
theorem dL_law_1622 : decode cL_law 1622 = .ok (.iload 6, 2) := by decide +kernel
theorem dL_law_1624 : decode cL_law 1624 = .ok (.i2l, 1) := by decide +kernel
theorem dL_law_1625 : decode cL_law 1625 = .ok (.lcmp, 1) := by decide +kernel
theorem dL_law_1626 : decode cL_law 1626 = .ok (.ifCond .eq 5, 3) := by decide +kernel
theorem dL_law_1629 : decode cL_law 1629 = .ok (.iconst 0, 1) := by decide +kernel
theorem dL_law_1631 : decode cL_law 1631 = .ok (.goto 887, 3) := by decide +kernel
set_option maxRecDepth 20000 in
theorem ggL_law_L_report : GoodIn wsL_law wsL_report := goodIn_ca (goodIn_ca (goodIn_ca (goodIn_r _ [1060, 516, 147, 1061, 1062, 1063, 2, 1064, 22, 1053, 1065, 1066, 521, 522, 523, 524, 525, 166, 167, 168, 169, 170, 1369, 1370, 1371, 1372, 1373, 1374, 1375, 1376, 1405, 1406, 1407] (by decide +kernel) (by decide +kernel)) (goodIn_sub (fun _ h => List.mem_append_left _ (List.mem_append_left _ (List.mem_append_left _ (List.mem_append_left _ (List.mem_append_left _ (List.mem_append_right _ h)))))) (by decide +kernel))) (goodIn_sub (fun _ h => List.mem_append_right _ h) (by decide +kernel))) (goodIn_sub (fun _ h => List.mem_append_left _ (List.mem_append_left _ (List.mem_append_left _ (List.mem_append_right _ h)))) (by decide +kernel))
set_option maxRecDepth 20000 in
theorem gL_law_L_report : GoodIn wsL_law (va_wsS RL 211 yL_report wsL_report) := goodIn_app (goodIn_of _ (by decide +kernel)) ggL_law_L_report
set_option maxRecDepth 20000 in
theorem ggL_law_X9_report : GoodIn wsL_law wsX9_report := goodIn_ca (goodIn_r _ [1070, 419, 193, 137, 138, 197, 198, 5, 199, 1377, 1378, 1379, 1380, 1381, 1382, 1383, 1384, 1385, 1386, 1387, 1388, 1389, 1390, 1391, 1392, 1393, 1394, 1395, 1396] (by decide +kernel) (by decide +kernel)) (goodIn_sub (fun _ h => List.mem_append_left _ (List.mem_append_left _ (List.mem_append_left _ (List.mem_append_left _ (List.mem_append_left _ (List.mem_append_right _ h)))))) (by decide +kernel))
set_option maxRecDepth 20000 in
theorem gL_law_X9_report : GoodIn wsL_law (wsV RL 213 RX9 yX9_report wsX9_report) := goodIn_app (goodIn_of _ (by decide +kernel)) ggL_law_X9_report
set_option maxHeartbeats 4000000 in
set_option maxRecDepth 100000 in
theorem lc_1566 {p : Program} {e : Env} {s : State} {m : MethodId} {below : List Frame} {meth : Method} {c : Code} (l : Launch) (hfl : l.stackTraces = false) {b L : Nat} {xs : Nat → Int32} {Q : State → Prop} (C0 : lw_At p s m meth c b L xs) {G : zG} {ad : Nat → Nat} {σ' : zs} (C1 S1 : Nat) (hC : C1 + 28 ≤ 601024) (hS1 : S1 + 2612 ≤ 7293034) (K23 : zs → Int32 → Option (Int32 × zs)) (hK23 : ∀ (σ : zs) (v4 : Int32) (H : Heap) (locs : List Loc) (ls : Array Slot), K23 σ v4 = some (1, σ') → xB (fun q : Nat => s.heap.size ≤ q) s G ad σ H locs → lv_has ls 7 [(0, .ref b), (1, .ref (ad 0)), (2, .ref (ad 65)), (3, .ref (ad 75)), (4, .int v4)] → W p l e room_1 s m #[Value.ref b] below meth c H locs (C1 + 28) (S1 + 2612) Q (F0 m 23 ls [])) (σ : zs) (v4 : Int32) (H : Heap) (locs : List Loc) (ls : Array Slot) (hf : f_L_law_1566 L xs K23 σ v4 = some (1, σ')) (B : xB (fun q : Nat => s.heap.size ≤ q) s G ad σ H locs) (hl : lv_has ls 7 [(0, .ref b), (1, .ref (ad 0)), (2, .ref (ad 65)), (3, .ref (ad 75)), (4, .int v4)]) : W p l e room_1 s m #[Value.ref b] below meth c H locs C1 S1 Q (F0 m 1566 ls []) := by
  obtain ⟨hx, hb, hr, hml, hown, hts0, hX, hbl, hlocks, hgv⟩ := id C0
  have hts := fun w h => hts0 w (wsL_law_in w h)
  have hbA : ¬ (fun q : Nat => s.heap.size ≤ q) b := Nat.not_le.mpr hbl
  unfold f_L_law_1566 at hf
  refine lv_aload_n hx hb dL_law_1566 rfl (lv_at hl 1 rfl) ?_
  refine lv_aload_n hx hb dL_law_1567 rfl (lv_at hl 0 rfl) ?_
  refine lv_iload hx hb dL_law_1568 (lv_at hl 4 rfl) ?_
  refine lv_iconst (v := (1 : Int32)) hx hb dL_law_1570 (by decide) ?_
  refine lv_iadd hx hb dL_law_1571 ?_
  obtain ⟨hg, hf⟩ := zg_some hf
  refine va_sld hx hb hX hbl hbA (xS B) (zin_ok hg) dL_law_1572 ?_
  refine lv_aload_n hx hb dL_law_1573 rfl (lv_at hl 0 rfl) ?_
  refine lv_iload hx hb dL_law_1574 (lv_at hl 4 rfl) ?_
  refine lv_iconst (v := (2 : Int32)) hx hb dL_law_1576 (by decide) ?_
  refine lv_iadd hx hb dL_law_1577 ?_
  obtain ⟨hg, hf⟩ := zg_some hf
  refine va_sld hx hb hX hbl hbA (xS B) (zin_ok hg) dL_law_1578 ?_
  refine lv_aload_n hx hb dL_law_1579 rfl (lv_at hl 3 rfl) ?_
  obtain ⟨r2, σ3, hu1, hf⟩ := zb_some hf
  refine x_i B (fun nb a g hs Bz => vx_runSW (As := [.ref (ad 0), .int (xs (v4 + (1 : Int32)).toNatClampNeg), .int (xs (v4 + (2 : Int32)).toNatClampNeg), .ref (ad 75)]) (rest := []) ⟨hx, hb, hml, hown, hts⟩ (c_L_report_0_75 l hfl hu1 _ nb a g hs) (vx_cwSW 4 hts gL_law_L_report rfl rfl rfl (by decide +kernel) ⟨Nat.le_of_ble_eq_true rfl, Nat.le_of_ble_eq_true rfl⟩) (z_preS Bz) rfl rfl hl.1 rfl (lv_room (Nat.le_of_ble_eq_true rfl)) dL_law_1580 ⟨(show C1 + 2 ≤ 601024 by omega), (show S1 + 12 ≤ 7293034 by omega)⟩) (fun H locs B => ?_)
  refine lv_istore (lv' := [(5, .int r2), (0, .ref b), (1, .ref (ad 0)), (2, .ref (ad 65)), (3, .ref (ad 75)), (4, .int v4)]) hx hb dL_law_1583 hl (by decide) rfl (fun ls hl => ?_)
  refine lv_aload_n hx hb dL_law_1585 rfl (lv_at hl 3 rfl) ?_
  refine lv_aload_n hx hb dL_law_1586 rfl (lv_at hl 1 rfl) ?_
  refine lv_iload hx hb dL_law_1587 (lv_at hl 5 rfl) ?_
  refine lv_iconst (v := (1 : Int32)) hx hb dL_law_1589 (by decide) ?_
  refine lv_iadd hx hb dL_law_1590 ?_
  obtain ⟨hg, hf⟩ := zg_some hf
  refine va_sld hx hb hX hbl hbA (xS B) (zin_ok hg) dL_law_1591 ?_
  refine lv_aload_n hx hb dL_law_1592 rfl (lv_at hl 1 rfl) ?_
  refine lv_iload hx hb dL_law_1593 (lv_at hl 5 rfl) ?_
  refine lv_iconst (v := (2 : Int32)) hx hb dL_law_1595 (by decide) ?_
  refine lv_iadd hx hb dL_law_1596 ?_
  obtain ⟨hg, hf⟩ := zg_some hf
  refine va_sld hx hb hX hbl hbA (xS B) (zin_ok hg) dL_law_1597 ?_
  obtain ⟨r5, σ6, hu4, hf⟩ := zb_some hf
  refine x_i B (fun nb a g hs Bz => va_runV (As := [.int (xs (v4 + (1 : Int32)).toNatClampNeg), .int (xs (v4 + (2 : Int32)).toNatClampNeg)]) (rest := []) ⟨hx, hb, hml, hown, hts⟩ (c_X9_report l hu4 _ nb a g hs) (cwV 2 hts gL_law_X9_report rfl rfl rfl (by decide +kernel) ⟨Nat.le_of_ble_eq_true rfl, Nat.le_of_ble_eq_true rfl⟩) (x_preV Bz (by decide) (fun _ => rfl) rfl) rfl rfl hl.1 rfl (lv_room (Nat.le_of_ble_eq_true rfl)) dL_law_1598 ⟨(show C1 + 2 + 0 ≤ 601024 by omega), (show S1 + 12 + 0 ≤ 7293034 by omega)⟩) (fun H locs B => ?_)
  refine lv_istore (lv' := [(6, .int r5), (5, .int r2), (0, .ref b), (1, .ref (ad 0)), (2, .ref (ad 65)), (3, .ref (ad 75)), (4, .int v4)]) hx hb dL_law_1601 hl (by decide) rfl (fun ls hl => ?_)
  refine lv_aload_n hx hb dL_law_1603 rfl (lv_at hl 4 rfl) ?_
  obtain ⟨r8, σ9, hu7, hf⟩ := zb_some hf
  refine x_i B (fun nb a g hs Bz => va_runV (As := []) (rest := []) ⟨hx, hb, hml, hown, hts⟩ (c_X9_thrown l hu7 _ nb a g hs) (cwV 0 hts gL_law_X9_thrown rfl rfl rfl (by decide +kernel) ⟨Nat.le_of_ble_eq_true rfl, Nat.le_of_ble_eq_true rfl⟩) (x_preV Bz (by decide) (fun _ => rfl) rfl) rfl rfl hl.1 rfl (lv_room (Nat.le_of_ble_eq_true rfl)) dL_law_1604 ⟨(show C1 + 2 + 0 + 0 ≤ 601024 by omega), (show S1 + 12 + 0 + 0 ≤ 7293034 by omega)⟩) (fun H locs B => ?_)
  refine lv_iload hx hb dL_law_1607 (lv_at hl 1 rfl) ?_
  refine lv_icmp_eq (tgt := 1614) hx hb dL_law_1609 (by decide) (fun hc => ?_) (fun hc => ?_)
  · have hf := zif_t hc hf
    refine lv_iload hx hb dL_law_1614 (lv_at hl 1 rfl) ?_
    refine lv_if_ne (tgt := 1631) hx hb dL_law_1616 (by decide) (fun hc => ?_) (fun hc => ?_)
    · have hf := zif_f hc hf
      refine lv_goto (tgt := 2518) hx hb dL_law_1631 (by decide) ?_
      refine lv_iinc (v := (v4 + (5 : Int32))) (lv' := [(4, .int (v4 + (5 : Int32))), (6, .int r5), (5, .int r2), (0, .ref b), (1, .ref (ad 0)), (2, .ref (ad 65)), (3, .ref (ad 75))]) hx hb dL_law_2518 hl (k := 6) rfl (zc1 (by decide)) (by decide) rfl (fun ls hl => ?_)
      refine lv_goto (tgt := 23) hx hb dL_law_2521 (by decide) ?_
      refine W.widen (k := C1 + 28) (n := S1 + 2612) (show C1 + 2 + 0 + 0 ≤ C1 + 28 by omega) (show S1 + 12 + 0 + 0 ≤ S1 + 2612 by omega) ?_
      exact hK23 _ _ _ _ _ hf B (lv_sub hl [3, 4, 5, 6, 0] rfl)
    · have hf := zif_t hc hf
      refine lv_aload_n hx hb dL_law_1619 rfl (lv_at hl 5 rfl) ?_
      refine lv_iconst (v := (0 : Int32)) hx hb dL_law_1620 (by decide) ?_
      obtain ⟨hg, hf⟩ := zg_some hf
      refine x_lald hx hb B 75 (by decide) (fun _ => rfl) (zin_ok hg) dL_law_1621 ?_
      refine lv_iload hx hb dL_law_1622 (lv_at hl 0 rfl) ?_
      refine lv_i2l (v := r5.toInt64) hx hb dL_law_1624 rfl ?_
      refine W.lcmp hx hb dL_law_1625 ?_
      refine lv_if_eq (tgt := 1631) hx hb dL_law_1626 (by decide) (fun hc => ?_) (fun hc => ?_)
      · have hf := zif_t hc hf
        refine lv_goto (tgt := 2518) hx hb dL_law_1631 (by decide) ?_
        refine lv_iinc (v := (v4 + (5 : Int32))) (lv' := [(4, .int (v4 + (5 : Int32))), (6, .int r5), (5, .int r2), (0, .ref b), (1, .ref (ad 0)), (2, .ref (ad 65)), (3, .ref (ad 75))]) hx hb dL_law_2518 hl (k := 6) rfl (zc1 (by decide)) (by decide) rfl (fun ls hl => ?_)
        refine lv_goto (tgt := 23) hx hb dL_law_2521 (by decide) ?_
        refine W.widen (k := C1 + 28) (n := S1 + 2612) (show C1 + 2 + 0 + 0 ≤ C1 + 28 by omega) (show S1 + 12 + 0 + 0 ≤ S1 + 2612 by omega) ?_
        exact hK23 _ _ _ _ _ hf B (lv_sub hl [3, 4, 5, 6, 0] rfl)
      · have hf := zif_f hc hf
        refine lv_iconst (v := (0 : Int32)) hx hb dL_law_1629 (by decide) ?_
        exact absurd (show (0 : Int32) = 1 from congrArg Prod.fst (Option.some.inj hf)) (by decide)
  · have hf := zif_f hc hf
    refine lv_iconst (v := (0 : Int32)) hx hb dL_law_1612 (by decide) ?_
    exact absurd (show (0 : Int32) = 1 from congrArg Prod.fst (Option.some.inj hf)) (by decide)
theorem dL_law_1634 : decode cL_law 1634 = .ok (.aload_n 1, 1) := by decide +kernel
theorem dL_law_1635 : decode cL_law 1635 = .ok (.aload_n 0, 1) := by decide +kernel
theorem dL_law_1636 : decode cL_law 1636 = .ok (.iload 4, 2) := by decide +kernel
theorem dL_law_1638 : decode cL_law 1638 = .ok (.iconst 1, 1) := by decide +kernel
theorem dL_law_1639 : decode cL_law 1639 = .ok (.iadd, 1) := by decide +kernel
theorem dL_law_1640 : decode cL_law 1640 = .ok (.iaload, 1) := by decide +kernel
theorem dL_law_1641 : decode cL_law 1641 = .ok (.aload_n 3, 1) := by decide +kernel
theorem dL_law_1642 : decode cL_law 1642 = .ok (.invokestatic 214, 3) := by decide +kernel
theorem dL_law_1645 : decode cL_law 1645 = .ok (.istore 5, 2) := by decide +kernel
theorem dL_law_1647 : decode cL_law 1647 = .ok (.aload_n 2, 1) := by decide +kernel
theorem dL_law_1648 : decode cL_law 1648 = .ok (.aload_n 0, 1) := by decide +kernel
theorem dL_law_1649 : decode cL_law 1649 = .ok (.iload 4, 2) := by decide +kernel
theorem dL_law_1651 : decode cL_law 1651 = .ok (.iconst 1, 1) := by decide +kernel
theorem dL_law_1652 : decode cL_law 1652 = .ok (.iadd, 1) := by decide +kernel
theorem dL_law_1653 : decode cL_law 1653 = .ok (.iaload, 1) := by decide +kernel
theorem dL_law_1654 : decode cL_law 1654 = .ok (.invokevirtual 216, 3) := by decide +kernel
theorem dL_law_1657 : decode cL_law 1657 = .ok (.istore 6, 2) := by decide +kernel
theorem dL_law_1659 : decode cL_law 1659 = .ok (.aload_n 2, 1) := by decide +kernel
theorem dL_law_1660 : decode cL_law 1660 = .ok (.invokevirtual 139, 3) := by decide +kernel
theorem dL_law_1663 : decode cL_law 1663 = .ok (.iload 5, 2) := by decide +kernel
theorem dL_law_1665 : decode cL_law 1665 = .ok (.if_icmp .eq 5, 3) := by decide +kernel
theorem dL_law_1668 : decode cL_law 1668 = .ok (.iconst 0, 1) := by decide +kernel
theorem dL_law_1670 : decode cL_law 1670 = .ok (.iload 5, 2) := by decide +kernel
theorem dL_law_1672 : decode cL_law 1672 = .ok (.ifCond .ne 15, 3) := by decide +kernel
theorem dL_law_1675 : decode cL_law 1675 = .ok (.aload_n 3, 1) := by decide +kernel
theorem dL_law_1676 : decode cL_law 1676 = .ok (.iconst 0, 1) := by decide +kernel
theorem dL_law_1677 : decode cL_law 1677 = .ok (.laload, 1) := by decide +kernel
theorem dL_law_1678 : decode cL_law 1678 = .ok (.iload 6, 2) := by decide +kernel
theorem dL_law_1680 : decode cL_law 1680 = .ok (.i2l, 1) := by decide +kernel
theorem dL_law_1681 : decode cL_law 1681 = .ok (.lcmp, 1) := by decide +kernel
theorem dL_law_1682 : decode cL_law 1682 = .ok (.ifCond .eq 5, 3) := by decide +kernel
theorem dL_law_1685 : decode cL_law 1685 = .ok (.iconst 0, 1) := by decide +kernel
theorem dL_law_1687 : decode cL_law 1687 = .ok (.goto 831, 3) := by decide +kernel
set_option maxRecDepth 20000 in
theorem ggL_law_L_makePair : GoodIn wsL_law wsL_makePair := goodIn_ca (goodIn_ca (goodIn_ca (goodIn_r _ [1073, 146, 148, 1074, 1075, 1076, 2, 1077, 16, 1078, 1079, 155, 156, 157, 158, 159, 160, 161, 162, 171, 172, 173, 174, 175, 1080, 1081, 1082, 46, 1083, 1084, 78, 79, 1369, 1370, 1371, 1372, 1373, 1374, 1375, 1376, 1397, 1398, 1399, 1400, 1401, 1402, 1403, 1404, 1436, 1437, 1438, 1439, 1440, 1441, 1442] (by decide +kernel) (by decide +kernel)) (goodIn_sub (fun _ h => List.mem_append_left _ (List.mem_append_left _ (List.mem_append_left _ (List.mem_append_left _ (List.mem_append_left _ (List.mem_append_right _ h)))))) (by decide +kernel))) (goodIn_sub (fun _ h => List.mem_append_left _ (List.mem_append_left _ (List.mem_append_left _ (List.mem_append_left _ (List.mem_append_right _ h))))) (by decide +kernel))) (goodIn_sub (fun _ h => List.mem_append_left _ (List.mem_append_left _ (List.mem_append_right _ h))) (by decide +kernel))
set_option maxRecDepth 20000 in
theorem gL_law_L_makePair : GoodIn wsL_law (va_wsS RL 214 yL_makePair wsL_makePair) := goodIn_app (goodIn_of _ (by decide +kernel)) ggL_law_L_makePair
set_option maxRecDepth 20000 in
theorem ggL_law_X9_makePair : GoodIn wsL_law wsX9_makePair := goodIn_ca (goodIn_r _ [1088, 132, 193, 194, 195, 5, 196, 197, 198, 199, 1377, 1378, 1379, 1380, 1381, 1382, 1383, 1384, 1385, 1386, 1387, 1388, 1389, 1390, 1391, 1392, 1393, 1394, 1395, 1396] (by decide +kernel) (by decide +kernel)) (goodIn_sub (fun _ h => List.mem_append_left _ (List.mem_append_left _ (List.mem_append_left _ (List.mem_append_left _ (List.mem_append_left _ (List.mem_append_right _ h)))))) (by decide +kernel))
set_option maxRecDepth 20000 in
theorem gL_law_X9_makePair : GoodIn wsL_law (wsV RL 216 RX9 yX9_makePair wsX9_makePair) := goodIn_app (goodIn_of _ (by decide +kernel)) ggL_law_X9_makePair
set_option maxHeartbeats 4000000 in
set_option maxRecDepth 100000 in
theorem lc_1634 {p : Program} {e : Env} {s : State} {m : MethodId} {below : List Frame} {meth : Method} {c : Code} (l : Launch) (hfl : l.stackTraces = false) {b L : Nat} {xs : Nat → Int32} {Q : State → Prop} (C0 : lw_At p s m meth c b L xs) {G : zG} {ad : Nat → Nat} {σ' : zs} (C1 S1 : Nat) (hC : C1 + 28 ≤ 601024) (hS1 : S1 + 2612 ≤ 7293034) (K23 : zs → Int32 → Option (Int32 × zs)) (hK23 : ∀ (σ : zs) (v4 : Int32) (H : Heap) (locs : List Loc) (ls : Array Slot), K23 σ v4 = some (1, σ') → xB (fun q : Nat => s.heap.size ≤ q) s G ad σ H locs → lv_has ls 7 [(0, .ref b), (1, .ref (ad 0)), (2, .ref (ad 65)), (3, .ref (ad 75)), (4, .int v4)] → W p l e room_1 s m #[Value.ref b] below meth c H locs (C1 + 28) (S1 + 2612) Q (F0 m 23 ls [])) (σ : zs) (v4 : Int32) (H : Heap) (locs : List Loc) (ls : Array Slot) (hf : f_L_law_1634 L xs K23 σ v4 = some (1, σ')) (B : xB (fun q : Nat => s.heap.size ≤ q) s G ad σ H locs) (hl : lv_has ls 7 [(0, .ref b), (1, .ref (ad 0)), (2, .ref (ad 65)), (3, .ref (ad 75)), (4, .int v4)]) : W p l e room_1 s m #[Value.ref b] below meth c H locs C1 S1 Q (F0 m 1634 ls []) := by
  obtain ⟨hx, hb, hr, hml, hown, hts0, hX, hbl, hlocks, hgv⟩ := id C0
  have hts := fun w h => hts0 w (wsL_law_in w h)
  have hbA : ¬ (fun q : Nat => s.heap.size ≤ q) b := Nat.not_le.mpr hbl
  unfold f_L_law_1634 at hf
  refine lv_aload_n hx hb dL_law_1634 rfl (lv_at hl 1 rfl) ?_
  refine lv_aload_n hx hb dL_law_1635 rfl (lv_at hl 0 rfl) ?_
  refine lv_iload hx hb dL_law_1636 (lv_at hl 4 rfl) ?_
  refine lv_iconst (v := (1 : Int32)) hx hb dL_law_1638 (by decide) ?_
  refine lv_iadd hx hb dL_law_1639 ?_
  obtain ⟨hg, hf⟩ := zg_some hf
  refine va_sld hx hb hX hbl hbA (xS B) (zin_ok hg) dL_law_1640 ?_
  refine lv_aload_n hx hb dL_law_1641 rfl (lv_at hl 3 rfl) ?_
  obtain ⟨r2, σ3, hu1, hf⟩ := zb_some hf
  refine x_i B (fun nb a g hs Bz => vx_runSW (As := [.ref (ad 0), .int (xs (v4 + (1 : Int32)).toNatClampNeg), .ref (ad 75)]) (rest := []) ⟨hx, hb, hml, hown, hts⟩ (c_L_makePair_0_75 l hfl hu1 _ nb a g hs) (vx_cwSW 3 hts gL_law_L_makePair rfl rfl rfl (by decide +kernel) ⟨Nat.le_of_ble_eq_true rfl, Nat.le_of_ble_eq_true rfl⟩) (z_preS Bz) rfl rfl hl.1 rfl (lv_room (Nat.le_of_ble_eq_true rfl)) dL_law_1642 ⟨(show C1 + 2 ≤ 601024 by omega), (show S1 + 12 ≤ 7293034 by omega)⟩) (fun H locs B => ?_)
  refine lv_istore (lv' := [(5, .int r2), (0, .ref b), (1, .ref (ad 0)), (2, .ref (ad 65)), (3, .ref (ad 75)), (4, .int v4)]) hx hb dL_law_1645 hl (by decide) rfl (fun ls hl => ?_)
  refine lv_aload_n hx hb dL_law_1647 rfl (lv_at hl 3 rfl) ?_
  refine lv_aload_n hx hb dL_law_1648 rfl (lv_at hl 1 rfl) ?_
  refine lv_iload hx hb dL_law_1649 (lv_at hl 5 rfl) ?_
  refine lv_iconst (v := (1 : Int32)) hx hb dL_law_1651 (by decide) ?_
  refine lv_iadd hx hb dL_law_1652 ?_
  obtain ⟨hg, hf⟩ := zg_some hf
  refine va_sld hx hb hX hbl hbA (xS B) (zin_ok hg) dL_law_1653 ?_
  obtain ⟨r5, σ6, hu4, hf⟩ := zb_some hf
  refine x_i B (fun nb a g hs Bz => va_runV (As := [.int (xs (v4 + (1 : Int32)).toNatClampNeg)]) (rest := []) ⟨hx, hb, hml, hown, hts⟩ (c_X9_makePair l hu4 _ nb a g hs) (cwV 1 hts gL_law_X9_makePair rfl rfl rfl (by decide +kernel) ⟨Nat.le_of_ble_eq_true rfl, Nat.le_of_ble_eq_true rfl⟩) (x_preV Bz (by decide) (fun _ => rfl) rfl) rfl rfl hl.1 rfl (lv_room (Nat.le_of_ble_eq_true rfl)) dL_law_1654 ⟨(show C1 + 2 + 0 ≤ 601024 by omega), (show S1 + 12 + 0 ≤ 7293034 by omega)⟩) (fun H locs B => ?_)
  refine lv_istore (lv' := [(6, .int r5), (5, .int r2), (0, .ref b), (1, .ref (ad 0)), (2, .ref (ad 65)), (3, .ref (ad 75)), (4, .int v4)]) hx hb dL_law_1657 hl (by decide) rfl (fun ls hl => ?_)
  refine lv_aload_n hx hb dL_law_1659 rfl (lv_at hl 4 rfl) ?_
  obtain ⟨r8, σ9, hu7, hf⟩ := zb_some hf
  refine x_i B (fun nb a g hs Bz => va_runV (As := []) (rest := []) ⟨hx, hb, hml, hown, hts⟩ (c_X9_thrown l hu7 _ nb a g hs) (cwV 0 hts gL_law_X9_thrown rfl rfl rfl (by decide +kernel) ⟨Nat.le_of_ble_eq_true rfl, Nat.le_of_ble_eq_true rfl⟩) (x_preV Bz (by decide) (fun _ => rfl) rfl) rfl rfl hl.1 rfl (lv_room (Nat.le_of_ble_eq_true rfl)) dL_law_1660 ⟨(show C1 + 2 + 0 + 0 ≤ 601024 by omega), (show S1 + 12 + 0 + 0 ≤ 7293034 by omega)⟩) (fun H locs B => ?_)
  refine lv_iload hx hb dL_law_1663 (lv_at hl 1 rfl) ?_
  refine lv_icmp_eq (tgt := 1670) hx hb dL_law_1665 (by decide) (fun hc => ?_) (fun hc => ?_)
  · have hf := zif_t hc hf
    refine lv_iload hx hb dL_law_1670 (lv_at hl 1 rfl) ?_
    refine lv_if_ne (tgt := 1687) hx hb dL_law_1672 (by decide) (fun hc => ?_) (fun hc => ?_)
    · have hf := zif_f hc hf
      refine lv_goto (tgt := 2518) hx hb dL_law_1687 (by decide) ?_
      refine lv_iinc (v := (v4 + (5 : Int32))) (lv' := [(4, .int (v4 + (5 : Int32))), (6, .int r5), (5, .int r2), (0, .ref b), (1, .ref (ad 0)), (2, .ref (ad 65)), (3, .ref (ad 75))]) hx hb dL_law_2518 hl (k := 6) rfl (zc1 (by decide)) (by decide) rfl (fun ls hl => ?_)
      refine lv_goto (tgt := 23) hx hb dL_law_2521 (by decide) ?_
      refine W.widen (k := C1 + 28) (n := S1 + 2612) (show C1 + 2 + 0 + 0 ≤ C1 + 28 by omega) (show S1 + 12 + 0 + 0 ≤ S1 + 2612 by omega) ?_
      exact hK23 _ _ _ _ _ hf B (lv_sub hl [3, 4, 5, 6, 0] rfl)
    · have hf := zif_t hc hf
      refine lv_aload_n hx hb dL_law_1675 rfl (lv_at hl 5 rfl) ?_
      refine lv_iconst (v := (0 : Int32)) hx hb dL_law_1676 (by decide) ?_
      obtain ⟨hg, hf⟩ := zg_some hf
      refine x_lald hx hb B 75 (by decide) (fun _ => rfl) (zin_ok hg) dL_law_1677 ?_
      refine lv_iload hx hb dL_law_1678 (lv_at hl 0 rfl) ?_
      refine lv_i2l (v := r5.toInt64) hx hb dL_law_1680 rfl ?_
      refine W.lcmp hx hb dL_law_1681 ?_
      refine lv_if_eq (tgt := 1687) hx hb dL_law_1682 (by decide) (fun hc => ?_) (fun hc => ?_)
      · have hf := zif_t hc hf
        refine lv_goto (tgt := 2518) hx hb dL_law_1687 (by decide) ?_
        refine lv_iinc (v := (v4 + (5 : Int32))) (lv' := [(4, .int (v4 + (5 : Int32))), (6, .int r5), (5, .int r2), (0, .ref b), (1, .ref (ad 0)), (2, .ref (ad 65)), (3, .ref (ad 75))]) hx hb dL_law_2518 hl (k := 6) rfl (zc1 (by decide)) (by decide) rfl (fun ls hl => ?_)
        refine lv_goto (tgt := 23) hx hb dL_law_2521 (by decide) ?_
        refine W.widen (k := C1 + 28) (n := S1 + 2612) (show C1 + 2 + 0 + 0 ≤ C1 + 28 by omega) (show S1 + 12 + 0 + 0 ≤ S1 + 2612 by omega) ?_
        exact hK23 _ _ _ _ _ hf B (lv_sub hl [3, 4, 5, 6, 0] rfl)
      · have hf := zif_f hc hf
        refine lv_iconst (v := (0 : Int32)) hx hb dL_law_1685 (by decide) ?_
        exact absurd (show (0 : Int32) = 1 from congrArg Prod.fst (Option.some.inj hf)) (by decide)
  · have hf := zif_f hc hf
    refine lv_iconst (v := (0 : Int32)) hx hb dL_law_1668 (by decide) ?_
    exact absurd (show (0 : Int32) = 1 from congrArg Prod.fst (Option.some.inj hf)) (by decide)
theorem dL_law_1690 : decode cL_law 1690 = .ok (.aload_n 1, 1) := by decide +kernel
theorem dL_law_1691 : decode cL_law 1691 = .ok (.aload_n 0, 1) := by decide +kernel
theorem dL_law_1692 : decode cL_law 1692 = .ok (.iload 4, 2) := by decide +kernel
theorem dL_law_1694 : decode cL_law 1694 = .ok (.iconst 1, 1) := by decide +kernel
theorem dL_law_1695 : decode cL_law 1695 = .ok (.iadd, 1) := by decide +kernel
theorem dL_law_1696 : decode cL_law 1696 = .ok (.iaload, 1) := by decide +kernel
theorem dL_law_1697 : decode cL_law 1697 = .ok (.aload_n 0, 1) := by decide +kernel
theorem dL_law_1698 : decode cL_law 1698 = .ok (.iload 4, 2) := by decide +kernel
theorem dL_law_1700 : decode cL_law 1700 = .ok (.iconst 2, 1) := by decide +kernel
theorem dL_law_1701 : decode cL_law 1701 = .ok (.iadd, 1) := by decide +kernel
theorem dL_law_1702 : decode cL_law 1702 = .ok (.iaload, 1) := by decide +kernel
theorem dL_law_1703 : decode cL_law 1703 = .ok (.aload_n 0, 1) := by decide +kernel
theorem dL_law_1704 : decode cL_law 1704 = .ok (.iload 4, 2) := by decide +kernel
theorem dL_law_1706 : decode cL_law 1706 = .ok (.iconst 3, 1) := by decide +kernel
theorem dL_law_1707 : decode cL_law 1707 = .ok (.iadd, 1) := by decide +kernel
theorem dL_law_1708 : decode cL_law 1708 = .ok (.iaload, 1) := by decide +kernel
theorem dL_law_1709 : decode cL_law 1709 = .ok (.aload_n 0, 1) := by decide +kernel
theorem dL_law_1710 : decode cL_law 1710 = .ok (.iload 4, 2) := by decide +kernel
theorem dL_law_1712 : decode cL_law 1712 = .ok (.iconst 4, 1) := by decide +kernel
theorem dL_law_1713 : decode cL_law 1713 = .ok (.iadd, 1) := by decide +kernel
theorem dL_law_1714 : decode cL_law 1714 = .ok (.iaload, 1) := by decide +kernel
theorem dL_law_1715 : decode cL_law 1715 = .ok (.ifCond .eq 7, 3) := by decide +kernel
theorem dL_law_1718 : decode cL_law 1718 = .ok (.iconst 1, 1) := by decide +kernel
theorem dL_law_1719 : decode cL_law 1719 = .ok (.goto 4, 3) := by decide +kernel
theorem dL_law_1722 : decode cL_law 1722 = .ok (.iconst 0, 1) := by decide +kernel
theorem dL_law_1723 : decode cL_law 1723 = .ok (.aload_n 3, 1) := by decide +kernel
theorem dL_law_1724 : decode cL_law 1724 = .ok (.invokestatic 217, 3) := by decide +kernel
theorem dL_law_1727 : decode cL_law 1727 = .ok (.istore 5, 2) := by decide +kernel
theorem dL_law_1729 : decode cL_law 1729 = .ok (.aload_n 2, 1) := by decide +kernel
theorem dL_law_1730 : decode cL_law 1730 = .ok (.aload_n 0, 1) := by decide +kernel
theorem dL_law_1731 : decode cL_law 1731 = .ok (.iload 4, 2) := by decide +kernel
theorem dL_law_1733 : decode cL_law 1733 = .ok (.iconst 1, 1) := by decide +kernel
theorem dL_law_1734 : decode cL_law 1734 = .ok (.iadd, 1) := by decide +kernel
theorem dL_law_1735 : decode cL_law 1735 = .ok (.iaload, 1) := by decide +kernel
theorem dL_law_1736 : decode cL_law 1736 = .ok (.aload_n 0, 1) := by decide +kernel
theorem dL_law_1737 : decode cL_law 1737 = .ok (.iload 4, 2) := by decide +kernel
theorem dL_law_1739 : decode cL_law 1739 = .ok (.iconst 2, 1) := by decide +kernel
theorem dL_law_1740 : decode cL_law 1740 = .ok (.iadd, 1) := by decide +kernel
theorem dL_law_1741 : decode cL_law 1741 = .ok (.iaload, 1) := by decide +kernel
theorem dL_law_1742 : decode cL_law 1742 = .ok (.aload_n 0, 1) := by decide +kernel
theorem dL_law_1743 : decode cL_law 1743 = .ok (.iload 4, 2) := by decide +kernel
theorem dL_law_1745 : decode cL_law 1745 = .ok (.iconst 3, 1) := by decide +kernel
theorem dL_law_1746 : decode cL_law 1746 = .ok (.iadd, 1) := by decide +kernel
theorem dL_law_1747 : decode cL_law 1747 = .ok (.iaload, 1) := by decide +kernel
theorem dL_law_1748 : decode cL_law 1748 = .ok (.aload_n 0, 1) := by decide +kernel
theorem dL_law_1749 : decode cL_law 1749 = .ok (.iload 4, 2) := by decide +kernel
theorem dL_law_1751 : decode cL_law 1751 = .ok (.iconst 4, 1) := by decide +kernel
theorem dL_law_1752 : decode cL_law 1752 = .ok (.iadd, 1) := by decide +kernel
theorem dL_law_1753 : decode cL_law 1753 = .ok (.iaload, 1) := by decide +kernel
theorem dL_law_1754 : decode cL_law 1754 = .ok (.ifCond .eq 7, 3) := by decide +kernel
theorem dL_law_1757 : decode cL_law 1757 = .ok (.iconst 1, 1) := by decide +kernel
theorem dL_law_1758 : decode cL_law 1758 = .ok (.goto 4, 3) := by decide +kernel
theorem dL_law_1761 : decode cL_law 1761 = .ok (.iconst 0, 1) := by decide +kernel
theorem dL_law_1762 : decode cL_law 1762 = .ok (.invokevirtual 220, 3) := by decide +kernel
theorem dL_law_1765 : decode cL_law 1765 = .ok (.istore 6, 2) := by decide +kernel
theorem dL_law_1767 : decode cL_law 1767 = .ok (.aload_n 2, 1) := by decide +kernel
theorem dL_law_1768 : decode cL_law 1768 = .ok (.invokevirtual 139, 3) := by decide +kernel
theorem dL_law_1771 : decode cL_law 1771 = .ok (.iload 5, 2) := by decide +kernel
theorem dL_law_1773 : decode cL_law 1773 = .ok (.if_icmp .eq 5, 3) := by decide +kernel
theorem dL_law_1776 : decode cL_law 1776 = .ok (.iconst 0, 1) := by decide +kernel
theorem dL_law_1778 : decode cL_law 1778 = .ok (.iload 5, 2) := by decide +kernel
theorem dL_law_1780 : decode cL_law 1780 = .ok (.ifCond .ne 15, 3) := by decide +kernel
theorem dL_law_1783 : decode cL_law 1783 = .ok (.aload_n 3, 1) := by decide +kernel
theorem dL_law_1784 : decode cL_law 1784 = .ok (.iconst 0, 1) := by decide +kernel
theorem dL_law_1785 : decode cL_law 1785 = .ok (.laload, 1) := by decide +kernel
theorem dL_law_1786 : decode cL_law 1786 = .ok (.iload 6, 2) := by decide +kernel
theorem dL_law_1788 : decode cL_law 1788 = .ok (.i2l, 1) := by decide +kernel
theorem dL_law_1789 : decode cL_law 1789 = .ok (.lcmp, 1) := by decide +kernel
theorem dL_law_1790 : decode cL_law 1790 = .ok (.ifCond .eq 5, 3) := by decide +kernel
theorem dL_law_1793 : decode cL_law 1793 = .ok (.iconst 0, 1) := by decide +kernel
theorem dL_law_1795 : decode cL_law 1795 = .ok (.goto 723, 3) := by decide +kernel
set_option maxRecDepth 20000 in
theorem ggL_law_L_givePair : GoodIn wsL_law wsL_givePair := goodIn_ca (goodIn_ca (goodIn_ca (goodIn_r _ [1091, 146, 239, 1092, 1093, 1094, 2, 1095, 16, 1078, 155, 156, 157, 158, 159, 160, 161, 162, 1096, 1097, 1098, 1099, 1079, 1100, 1101, 1102, 1103, 22, 1104, 1105, 1106, 46, 1107, 79, 78, 259, 260, 261, 262, 263, 264, 21, 265, 266, 267, 268, 269, 270, 90, 91, 389, 390, 391, 392, 393, 1369, 1370, 1371, 1372, 1373, 1374, 1375, 1376, 1397, 1398, 1399, 1400, 1401, 1402, 1403, 1404, 1436, 1437, 1438, 1439, 1440, 1441, 1442, 1405, 1406, 1407] (by decide +kernel) (by decide +kernel)) (goodIn_sub (fun _ h => List.mem_append_left _ (List.mem_append_left _ (List.mem_append_left _ (List.mem_append_left _ (List.mem_append_left _ (List.mem_append_right _ h)))))) (by decide +kernel))) (goodIn_sub (fun _ h => List.mem_append_left _ (List.mem_append_left _ (List.mem_append_left _ (List.mem_append_left _ (List.mem_append_right _ h))))) (by decide +kernel))) (goodIn_sub (fun _ h => List.mem_append_left _ (List.mem_append_right _ h)) (by decide +kernel))
set_option maxRecDepth 20000 in
theorem gL_law_L_givePair : GoodIn wsL_law (va_wsS RL 217 yL_givePair wsL_givePair) := goodIn_app (goodIn_of _ (by decide +kernel)) ggL_law_L_givePair
set_option maxRecDepth 20000 in
theorem ggL_law_X9_givePair : GoodIn wsL_law wsX9_givePair := goodIn_ca (goodIn_r _ [1111, 193, 132, 194, 195, 5, 196, 197, 198, 199, 1112, 1113, 1114, 1115, 412, 413, 414, 415, 416, 417, 418, 419, 420, 421, 422, 423, 137, 138, 1377, 1378, 1379, 1380, 1381, 1382, 1383, 1384, 1385, 1386, 1387, 1388, 1389, 1390, 1391, 1392, 1393, 1394, 1395, 1396] (by decide +kernel) (by decide +kernel)) (goodIn_sub (fun _ h => List.mem_append_left _ (List.mem_append_left _ (List.mem_append_left _ (List.mem_append_left _ (List.mem_append_left _ (List.mem_append_right _ h)))))) (by decide +kernel))
set_option maxRecDepth 20000 in
theorem gL_law_X9_givePair : GoodIn wsL_law (wsV RL 220 RX9 yX9_givePair wsX9_givePair) := goodIn_app (goodIn_of _ (by decide +kernel)) ggL_law_X9_givePair
set_option maxHeartbeats 4000000 in
set_option maxRecDepth 100000 in
theorem lc_1690 {p : Program} {e : Env} {s : State} {m : MethodId} {below : List Frame} {meth : Method} {c : Code} (l : Launch) (hfl : l.stackTraces = false) {b L : Nat} {xs : Nat → Int32} {Q : State → Prop} (C0 : lw_At p s m meth c b L xs) {G : zG} {ad : Nat → Nat} {σ' : zs} (C1 S1 : Nat) (hC : C1 + 28 ≤ 601024) (hS1 : S1 + 2612 ≤ 7293034) (K23 : zs → Int32 → Option (Int32 × zs)) (hK23 : ∀ (σ : zs) (v4 : Int32) (H : Heap) (locs : List Loc) (ls : Array Slot), K23 σ v4 = some (1, σ') → xB (fun q : Nat => s.heap.size ≤ q) s G ad σ H locs → lv_has ls 7 [(0, .ref b), (1, .ref (ad 0)), (2, .ref (ad 65)), (3, .ref (ad 75)), (4, .int v4)] → W p l e room_1 s m #[Value.ref b] below meth c H locs (C1 + 28) (S1 + 2612) Q (F0 m 23 ls [])) (σ : zs) (v4 : Int32) (H : Heap) (locs : List Loc) (ls : Array Slot) (hf : f_L_law_1690 L xs K23 σ v4 = some (1, σ')) (B : xB (fun q : Nat => s.heap.size ≤ q) s G ad σ H locs) (hl : lv_has ls 7 [(0, .ref b), (1, .ref (ad 0)), (2, .ref (ad 65)), (3, .ref (ad 75)), (4, .int v4)]) : W p l e room_1 s m #[Value.ref b] below meth c H locs C1 S1 Q (F0 m 1690 ls []) := by
  obtain ⟨hx, hb, hr, hml, hown, hts0, hX, hbl, hlocks, hgv⟩ := id C0
  have hts := fun w h => hts0 w (wsL_law_in w h)
  have hbA : ¬ (fun q : Nat => s.heap.size ≤ q) b := Nat.not_le.mpr hbl
  unfold f_L_law_1690 at hf
  refine lv_aload_n hx hb dL_law_1690 rfl (lv_at hl 1 rfl) ?_
  refine lv_aload_n hx hb dL_law_1691 rfl (lv_at hl 0 rfl) ?_
  refine lv_iload hx hb dL_law_1692 (lv_at hl 4 rfl) ?_
  refine lv_iconst (v := (1 : Int32)) hx hb dL_law_1694 (by decide) ?_
  refine lv_iadd hx hb dL_law_1695 ?_
  obtain ⟨hg, hf⟩ := zg_some hf
  refine va_sld hx hb hX hbl hbA (xS B) (zin_ok hg) dL_law_1696 ?_
  refine lv_aload_n hx hb dL_law_1697 rfl (lv_at hl 0 rfl) ?_
  refine lv_iload hx hb dL_law_1698 (lv_at hl 4 rfl) ?_
  refine lv_iconst (v := (2 : Int32)) hx hb dL_law_1700 (by decide) ?_
  refine lv_iadd hx hb dL_law_1701 ?_
  obtain ⟨hg, hf⟩ := zg_some hf
  refine va_sld hx hb hX hbl hbA (xS B) (zin_ok hg) dL_law_1702 ?_
  refine lv_aload_n hx hb dL_law_1703 rfl (lv_at hl 0 rfl) ?_
  refine lv_iload hx hb dL_law_1704 (lv_at hl 4 rfl) ?_
  refine lv_iconst (v := (3 : Int32)) hx hb dL_law_1706 (by decide) ?_
  refine lv_iadd hx hb dL_law_1707 ?_
  obtain ⟨hg, hf⟩ := zg_some hf
  refine va_sld hx hb hX hbl hbA (xS B) (zin_ok hg) dL_law_1708 ?_
  refine lv_aload_n hx hb dL_law_1709 rfl (lv_at hl 0 rfl) ?_
  refine lv_iload hx hb dL_law_1710 (lv_at hl 4 rfl) ?_
  refine lv_iconst (v := (4 : Int32)) hx hb dL_law_1712 (by decide) ?_
  refine lv_iadd hx hb dL_law_1713 ?_
  obtain ⟨hg, hf⟩ := zg_some hf
  refine va_sld hx hb hX hbl hbA (xS B) (zin_ok hg) dL_law_1714 ?_
  refine lv_if_eq (tgt := 1722) hx hb dL_law_1715 (by decide) (fun hc => ?_) (fun hc => ?_)
  · have hf := zif_t hc hf
    refine lv_iconst (v := (0 : Int32)) hx hb dL_law_1722 (by decide) ?_
    refine lv_aload_n hx hb dL_law_1723 rfl (lv_at hl 3 rfl) ?_
    obtain ⟨r2, σ3, hu1, hf⟩ := zb_some hf
    refine x_i B (fun nb a g hs Bz => vx_runSW (As := [.ref (ad 0), .int (xs (v4 + (1 : Int32)).toNatClampNeg), .int (xs (v4 + (2 : Int32)).toNatClampNeg), .int (xs (v4 + (3 : Int32)).toNatClampNeg), .int (0 : Int32), .ref (ad 75)]) (rest := []) ⟨hx, hb, hml, hown, hts⟩ (c_L_givePair_0_75 l hfl hu1 _ nb a g hs) (vx_cwSW 6 hts gL_law_L_givePair rfl rfl rfl (by decide +kernel) ⟨Nat.le_of_ble_eq_true rfl, Nat.le_of_ble_eq_true rfl⟩) (z_preS Bz) rfl rfl hl.1 rfl (lv_room (Nat.le_of_ble_eq_true rfl)) dL_law_1724 ⟨(show C1 + 4 ≤ 601024 by omega), (show S1 + 24 ≤ 7293034 by omega)⟩) (fun H locs B => ?_)
    refine lv_istore (lv' := [(5, .int r2), (0, .ref b), (1, .ref (ad 0)), (2, .ref (ad 65)), (3, .ref (ad 75)), (4, .int v4)]) hx hb dL_law_1727 hl (by decide) rfl (fun ls hl => ?_)
    refine lv_aload_n hx hb dL_law_1729 rfl (lv_at hl 3 rfl) ?_
    refine lv_aload_n hx hb dL_law_1730 rfl (lv_at hl 1 rfl) ?_
    refine lv_iload hx hb dL_law_1731 (lv_at hl 5 rfl) ?_
    refine lv_iconst (v := (1 : Int32)) hx hb dL_law_1733 (by decide) ?_
    refine lv_iadd hx hb dL_law_1734 ?_
    obtain ⟨hg, hf⟩ := zg_some hf
    refine va_sld hx hb hX hbl hbA (xS B) (zin_ok hg) dL_law_1735 ?_
    refine lv_aload_n hx hb dL_law_1736 rfl (lv_at hl 1 rfl) ?_
    refine lv_iload hx hb dL_law_1737 (lv_at hl 5 rfl) ?_
    refine lv_iconst (v := (2 : Int32)) hx hb dL_law_1739 (by decide) ?_
    refine lv_iadd hx hb dL_law_1740 ?_
    obtain ⟨hg, hf⟩ := zg_some hf
    refine va_sld hx hb hX hbl hbA (xS B) (zin_ok hg) dL_law_1741 ?_
    refine lv_aload_n hx hb dL_law_1742 rfl (lv_at hl 1 rfl) ?_
    refine lv_iload hx hb dL_law_1743 (lv_at hl 5 rfl) ?_
    refine lv_iconst (v := (3 : Int32)) hx hb dL_law_1745 (by decide) ?_
    refine lv_iadd hx hb dL_law_1746 ?_
    obtain ⟨hg, hf⟩ := zg_some hf
    refine va_sld hx hb hX hbl hbA (xS B) (zin_ok hg) dL_law_1747 ?_
    refine lv_aload_n hx hb dL_law_1748 rfl (lv_at hl 1 rfl) ?_
    refine lv_iload hx hb dL_law_1749 (lv_at hl 5 rfl) ?_
    refine lv_iconst (v := (4 : Int32)) hx hb dL_law_1751 (by decide) ?_
    refine lv_iadd hx hb dL_law_1752 ?_
    obtain ⟨hg, hf⟩ := zg_some hf
    refine va_sld hx hb hX hbl hbA (xS B) (zin_ok hg) dL_law_1753 ?_
    refine lv_if_eq (tgt := 1761) hx hb dL_law_1754 (by decide) (fun hc => ?_) (fun hc => ?_)
    · have hf := zif_t hc hf
      refine lv_iconst (v := (0 : Int32)) hx hb dL_law_1761 (by decide) ?_
      obtain ⟨r5, σ6, hu4, hf⟩ := zb_some hf
      refine x_i B (fun nb a g hs Bz => va_runV (As := [.int (xs (v4 + (1 : Int32)).toNatClampNeg), .int (xs (v4 + (2 : Int32)).toNatClampNeg), .int (xs (v4 + (3 : Int32)).toNatClampNeg), .int (0 : Int32)]) (rest := []) ⟨hx, hb, hml, hown, hts⟩ (c_X9_givePair l hu4 _ nb a g hs) (cwV 4 hts gL_law_X9_givePair rfl rfl rfl (by decide +kernel) ⟨Nat.le_of_ble_eq_true rfl, Nat.le_of_ble_eq_true rfl⟩) (x_preV Bz (by decide) (fun _ => rfl) rfl) rfl rfl hl.1 rfl (lv_room (Nat.le_of_ble_eq_true rfl)) dL_law_1762 ⟨(show C1 + 4 + 0 ≤ 601024 by omega), (show S1 + 24 + 0 ≤ 7293034 by omega)⟩) (fun H locs B => ?_)
      refine lv_istore (lv' := [(6, .int r5), (5, .int r2), (0, .ref b), (1, .ref (ad 0)), (2, .ref (ad 65)), (3, .ref (ad 75)), (4, .int v4)]) hx hb dL_law_1765 hl (by decide) rfl (fun ls hl => ?_)
      refine lv_aload_n hx hb dL_law_1767 rfl (lv_at hl 4 rfl) ?_
      obtain ⟨r8, σ9, hu7, hf⟩ := zb_some hf
      refine x_i B (fun nb a g hs Bz => va_runV (As := []) (rest := []) ⟨hx, hb, hml, hown, hts⟩ (c_X9_thrown l hu7 _ nb a g hs) (cwV 0 hts gL_law_X9_thrown rfl rfl rfl (by decide +kernel) ⟨Nat.le_of_ble_eq_true rfl, Nat.le_of_ble_eq_true rfl⟩) (x_preV Bz (by decide) (fun _ => rfl) rfl) rfl rfl hl.1 rfl (lv_room (Nat.le_of_ble_eq_true rfl)) dL_law_1768 ⟨(show C1 + 4 + 0 + 0 ≤ 601024 by omega), (show S1 + 24 + 0 + 0 ≤ 7293034 by omega)⟩) (fun H locs B => ?_)
      refine lv_iload hx hb dL_law_1771 (lv_at hl 1 rfl) ?_
      refine lv_icmp_eq (tgt := 1778) hx hb dL_law_1773 (by decide) (fun hc => ?_) (fun hc => ?_)
      · have hf := zif_t hc hf
        refine lv_iload hx hb dL_law_1778 (lv_at hl 1 rfl) ?_
        refine lv_if_ne (tgt := 1795) hx hb dL_law_1780 (by decide) (fun hc => ?_) (fun hc => ?_)
        · have hf := zif_f hc hf
          refine lv_goto (tgt := 2518) hx hb dL_law_1795 (by decide) ?_
          refine lv_iinc (v := (v4 + (5 : Int32))) (lv' := [(4, .int (v4 + (5 : Int32))), (6, .int r5), (5, .int r2), (0, .ref b), (1, .ref (ad 0)), (2, .ref (ad 65)), (3, .ref (ad 75))]) hx hb dL_law_2518 hl (k := 6) rfl (zc1 (by decide)) (by decide) rfl (fun ls hl => ?_)
          refine lv_goto (tgt := 23) hx hb dL_law_2521 (by decide) ?_
          refine W.widen (k := C1 + 28) (n := S1 + 2612) (show C1 + 4 + 0 + 0 ≤ C1 + 28 by omega) (show S1 + 24 + 0 + 0 ≤ S1 + 2612 by omega) ?_
          exact hK23 _ _ _ _ _ hf B (lv_sub hl [3, 4, 5, 6, 0] rfl)
        · have hf := zif_t hc hf
          refine lv_aload_n hx hb dL_law_1783 rfl (lv_at hl 5 rfl) ?_
          refine lv_iconst (v := (0 : Int32)) hx hb dL_law_1784 (by decide) ?_
          obtain ⟨hg, hf⟩ := zg_some hf
          refine x_lald hx hb B 75 (by decide) (fun _ => rfl) (zin_ok hg) dL_law_1785 ?_
          refine lv_iload hx hb dL_law_1786 (lv_at hl 0 rfl) ?_
          refine lv_i2l (v := r5.toInt64) hx hb dL_law_1788 rfl ?_
          refine W.lcmp hx hb dL_law_1789 ?_
          refine lv_if_eq (tgt := 1795) hx hb dL_law_1790 (by decide) (fun hc => ?_) (fun hc => ?_)
          · have hf := zif_t hc hf
            refine lv_goto (tgt := 2518) hx hb dL_law_1795 (by decide) ?_
            refine lv_iinc (v := (v4 + (5 : Int32))) (lv' := [(4, .int (v4 + (5 : Int32))), (6, .int r5), (5, .int r2), (0, .ref b), (1, .ref (ad 0)), (2, .ref (ad 65)), (3, .ref (ad 75))]) hx hb dL_law_2518 hl (k := 6) rfl (zc1 (by decide)) (by decide) rfl (fun ls hl => ?_)
            refine lv_goto (tgt := 23) hx hb dL_law_2521 (by decide) ?_
            refine W.widen (k := C1 + 28) (n := S1 + 2612) (show C1 + 4 + 0 + 0 ≤ C1 + 28 by omega) (show S1 + 24 + 0 + 0 ≤ S1 + 2612 by omega) ?_
            exact hK23 _ _ _ _ _ hf B (lv_sub hl [3, 4, 5, 6, 0] rfl)
          · have hf := zif_f hc hf
            refine lv_iconst (v := (0 : Int32)) hx hb dL_law_1793 (by decide) ?_
            exact absurd (show (0 : Int32) = 1 from congrArg Prod.fst (Option.some.inj hf)) (by decide)
      · have hf := zif_f hc hf
        refine lv_iconst (v := (0 : Int32)) hx hb dL_law_1776 (by decide) ?_
        exact absurd (show (0 : Int32) = 1 from congrArg Prod.fst (Option.some.inj hf)) (by decide)
    · have hf := zif_f hc hf
      refine lv_iconst (v := (1 : Int32)) hx hb dL_law_1757 (by decide) ?_
      refine lv_goto (tgt := 1762) hx hb dL_law_1758 (by decide) ?_
      obtain ⟨r11, σ12, hu10, hf⟩ := zb_some hf
      refine x_i B (fun nb a g hs Bz => va_runV (As := [.int (xs (v4 + (1 : Int32)).toNatClampNeg), .int (xs (v4 + (2 : Int32)).toNatClampNeg), .int (xs (v4 + (3 : Int32)).toNatClampNeg), .int (1 : Int32)]) (rest := []) ⟨hx, hb, hml, hown, hts⟩ (c_X9_givePair l hu10 _ nb a g hs) (cwV 4 hts gL_law_X9_givePair rfl rfl rfl (by decide +kernel) ⟨Nat.le_of_ble_eq_true rfl, Nat.le_of_ble_eq_true rfl⟩) (x_preV Bz (by decide) (fun _ => rfl) rfl) rfl rfl hl.1 rfl (lv_room (Nat.le_of_ble_eq_true rfl)) dL_law_1762 ⟨(show C1 + 4 + 0 ≤ 601024 by omega), (show S1 + 24 + 0 ≤ 7293034 by omega)⟩) (fun H locs B => ?_)
      refine lv_istore (lv' := [(6, .int r11), (5, .int r2), (0, .ref b), (1, .ref (ad 0)), (2, .ref (ad 65)), (3, .ref (ad 75)), (4, .int v4)]) hx hb dL_law_1765 hl (by decide) rfl (fun ls hl => ?_)
      refine lv_aload_n hx hb dL_law_1767 rfl (lv_at hl 4 rfl) ?_
      obtain ⟨r14, σ15, hu13, hf⟩ := zb_some hf
      refine x_i B (fun nb a g hs Bz => va_runV (As := []) (rest := []) ⟨hx, hb, hml, hown, hts⟩ (c_X9_thrown l hu13 _ nb a g hs) (cwV 0 hts gL_law_X9_thrown rfl rfl rfl (by decide +kernel) ⟨Nat.le_of_ble_eq_true rfl, Nat.le_of_ble_eq_true rfl⟩) (x_preV Bz (by decide) (fun _ => rfl) rfl) rfl rfl hl.1 rfl (lv_room (Nat.le_of_ble_eq_true rfl)) dL_law_1768 ⟨(show C1 + 4 + 0 + 0 ≤ 601024 by omega), (show S1 + 24 + 0 + 0 ≤ 7293034 by omega)⟩) (fun H locs B => ?_)
      refine lv_iload hx hb dL_law_1771 (lv_at hl 1 rfl) ?_
      refine lv_icmp_eq (tgt := 1778) hx hb dL_law_1773 (by decide) (fun hc => ?_) (fun hc => ?_)
      · have hf := zif_t hc hf
        refine lv_iload hx hb dL_law_1778 (lv_at hl 1 rfl) ?_
        refine lv_if_ne (tgt := 1795) hx hb dL_law_1780 (by decide) (fun hc => ?_) (fun hc => ?_)
        · have hf := zif_f hc hf
          refine lv_goto (tgt := 2518) hx hb dL_law_1795 (by decide) ?_
          refine lv_iinc (v := (v4 + (5 : Int32))) (lv' := [(4, .int (v4 + (5 : Int32))), (6, .int r11), (5, .int r2), (0, .ref b), (1, .ref (ad 0)), (2, .ref (ad 65)), (3, .ref (ad 75))]) hx hb dL_law_2518 hl (k := 6) rfl (zc1 (by decide)) (by decide) rfl (fun ls hl => ?_)
          refine lv_goto (tgt := 23) hx hb dL_law_2521 (by decide) ?_
          refine W.widen (k := C1 + 28) (n := S1 + 2612) (show C1 + 4 + 0 + 0 ≤ C1 + 28 by omega) (show S1 + 24 + 0 + 0 ≤ S1 + 2612 by omega) ?_
          exact hK23 _ _ _ _ _ hf B (lv_sub hl [3, 4, 5, 6, 0] rfl)
        · have hf := zif_t hc hf
          refine lv_aload_n hx hb dL_law_1783 rfl (lv_at hl 5 rfl) ?_
          refine lv_iconst (v := (0 : Int32)) hx hb dL_law_1784 (by decide) ?_
          obtain ⟨hg, hf⟩ := zg_some hf
          refine x_lald hx hb B 75 (by decide) (fun _ => rfl) (zin_ok hg) dL_law_1785 ?_
          refine lv_iload hx hb dL_law_1786 (lv_at hl 0 rfl) ?_
          refine lv_i2l (v := r11.toInt64) hx hb dL_law_1788 rfl ?_
          refine W.lcmp hx hb dL_law_1789 ?_
          refine lv_if_eq (tgt := 1795) hx hb dL_law_1790 (by decide) (fun hc => ?_) (fun hc => ?_)
          · have hf := zif_t hc hf
            refine lv_goto (tgt := 2518) hx hb dL_law_1795 (by decide) ?_
            refine lv_iinc (v := (v4 + (5 : Int32))) (lv' := [(4, .int (v4 + (5 : Int32))), (6, .int r11), (5, .int r2), (0, .ref b), (1, .ref (ad 0)), (2, .ref (ad 65)), (3, .ref (ad 75))]) hx hb dL_law_2518 hl (k := 6) rfl (zc1 (by decide)) (by decide) rfl (fun ls hl => ?_)
            refine lv_goto (tgt := 23) hx hb dL_law_2521 (by decide) ?_
            refine W.widen (k := C1 + 28) (n := S1 + 2612) (show C1 + 4 + 0 + 0 ≤ C1 + 28 by omega) (show S1 + 24 + 0 + 0 ≤ S1 + 2612 by omega) ?_
            exact hK23 _ _ _ _ _ hf B (lv_sub hl [3, 4, 5, 6, 0] rfl)
          · have hf := zif_f hc hf
            refine lv_iconst (v := (0 : Int32)) hx hb dL_law_1793 (by decide) ?_
            exact absurd (show (0 : Int32) = 1 from congrArg Prod.fst (Option.some.inj hf)) (by decide)
      · have hf := zif_f hc hf
        refine lv_iconst (v := (0 : Int32)) hx hb dL_law_1776 (by decide) ?_
        exact absurd (show (0 : Int32) = 1 from congrArg Prod.fst (Option.some.inj hf)) (by decide)
  · have hf := zif_f hc hf
    refine lv_iconst (v := (1 : Int32)) hx hb dL_law_1718 (by decide) ?_
    refine lv_goto (tgt := 1723) hx hb dL_law_1719 (by decide) ?_
    refine lv_aload_n hx hb dL_law_1723 rfl (lv_at hl 3 rfl) ?_
    obtain ⟨r17, σ18, hu16, hf⟩ := zb_some hf
    refine x_i B (fun nb a g hs Bz => vx_runSW (As := [.ref (ad 0), .int (xs (v4 + (1 : Int32)).toNatClampNeg), .int (xs (v4 + (2 : Int32)).toNatClampNeg), .int (xs (v4 + (3 : Int32)).toNatClampNeg), .int (1 : Int32), .ref (ad 75)]) (rest := []) ⟨hx, hb, hml, hown, hts⟩ (c_L_givePair_0_75 l hfl hu16 _ nb a g hs) (vx_cwSW 6 hts gL_law_L_givePair rfl rfl rfl (by decide +kernel) ⟨Nat.le_of_ble_eq_true rfl, Nat.le_of_ble_eq_true rfl⟩) (z_preS Bz) rfl rfl hl.1 rfl (lv_room (Nat.le_of_ble_eq_true rfl)) dL_law_1724 ⟨(show C1 + 4 ≤ 601024 by omega), (show S1 + 24 ≤ 7293034 by omega)⟩) (fun H locs B => ?_)
    refine lv_istore (lv' := [(5, .int r17), (0, .ref b), (1, .ref (ad 0)), (2, .ref (ad 65)), (3, .ref (ad 75)), (4, .int v4)]) hx hb dL_law_1727 hl (by decide) rfl (fun ls hl => ?_)
    refine lv_aload_n hx hb dL_law_1729 rfl (lv_at hl 3 rfl) ?_
    refine lv_aload_n hx hb dL_law_1730 rfl (lv_at hl 1 rfl) ?_
    refine lv_iload hx hb dL_law_1731 (lv_at hl 5 rfl) ?_
    refine lv_iconst (v := (1 : Int32)) hx hb dL_law_1733 (by decide) ?_
    refine lv_iadd hx hb dL_law_1734 ?_
    obtain ⟨hg, hf⟩ := zg_some hf
    refine va_sld hx hb hX hbl hbA (xS B) (zin_ok hg) dL_law_1735 ?_
    refine lv_aload_n hx hb dL_law_1736 rfl (lv_at hl 1 rfl) ?_
    refine lv_iload hx hb dL_law_1737 (lv_at hl 5 rfl) ?_
    refine lv_iconst (v := (2 : Int32)) hx hb dL_law_1739 (by decide) ?_
    refine lv_iadd hx hb dL_law_1740 ?_
    obtain ⟨hg, hf⟩ := zg_some hf
    refine va_sld hx hb hX hbl hbA (xS B) (zin_ok hg) dL_law_1741 ?_
    refine lv_aload_n hx hb dL_law_1742 rfl (lv_at hl 1 rfl) ?_
    refine lv_iload hx hb dL_law_1743 (lv_at hl 5 rfl) ?_
    refine lv_iconst (v := (3 : Int32)) hx hb dL_law_1745 (by decide) ?_
    refine lv_iadd hx hb dL_law_1746 ?_
    obtain ⟨hg, hf⟩ := zg_some hf
    refine va_sld hx hb hX hbl hbA (xS B) (zin_ok hg) dL_law_1747 ?_
    refine lv_aload_n hx hb dL_law_1748 rfl (lv_at hl 1 rfl) ?_
    refine lv_iload hx hb dL_law_1749 (lv_at hl 5 rfl) ?_
    refine lv_iconst (v := (4 : Int32)) hx hb dL_law_1751 (by decide) ?_
    refine lv_iadd hx hb dL_law_1752 ?_
    obtain ⟨hg, hf⟩ := zg_some hf
    refine va_sld hx hb hX hbl hbA (xS B) (zin_ok hg) dL_law_1753 ?_
    refine lv_if_eq (tgt := 1761) hx hb dL_law_1754 (by decide) (fun hc => ?_) (fun hc => ?_)
    · have hf := zif_t hc hf
      refine lv_iconst (v := (0 : Int32)) hx hb dL_law_1761 (by decide) ?_
      obtain ⟨r20, σ21, hu19, hf⟩ := zb_some hf
      refine x_i B (fun nb a g hs Bz => va_runV (As := [.int (xs (v4 + (1 : Int32)).toNatClampNeg), .int (xs (v4 + (2 : Int32)).toNatClampNeg), .int (xs (v4 + (3 : Int32)).toNatClampNeg), .int (0 : Int32)]) (rest := []) ⟨hx, hb, hml, hown, hts⟩ (c_X9_givePair l hu19 _ nb a g hs) (cwV 4 hts gL_law_X9_givePair rfl rfl rfl (by decide +kernel) ⟨Nat.le_of_ble_eq_true rfl, Nat.le_of_ble_eq_true rfl⟩) (x_preV Bz (by decide) (fun _ => rfl) rfl) rfl rfl hl.1 rfl (lv_room (Nat.le_of_ble_eq_true rfl)) dL_law_1762 ⟨(show C1 + 4 + 0 ≤ 601024 by omega), (show S1 + 24 + 0 ≤ 7293034 by omega)⟩) (fun H locs B => ?_)
      refine lv_istore (lv' := [(6, .int r20), (5, .int r17), (0, .ref b), (1, .ref (ad 0)), (2, .ref (ad 65)), (3, .ref (ad 75)), (4, .int v4)]) hx hb dL_law_1765 hl (by decide) rfl (fun ls hl => ?_)
      refine lv_aload_n hx hb dL_law_1767 rfl (lv_at hl 4 rfl) ?_
      obtain ⟨r23, σ24, hu22, hf⟩ := zb_some hf
      refine x_i B (fun nb a g hs Bz => va_runV (As := []) (rest := []) ⟨hx, hb, hml, hown, hts⟩ (c_X9_thrown l hu22 _ nb a g hs) (cwV 0 hts gL_law_X9_thrown rfl rfl rfl (by decide +kernel) ⟨Nat.le_of_ble_eq_true rfl, Nat.le_of_ble_eq_true rfl⟩) (x_preV Bz (by decide) (fun _ => rfl) rfl) rfl rfl hl.1 rfl (lv_room (Nat.le_of_ble_eq_true rfl)) dL_law_1768 ⟨(show C1 + 4 + 0 + 0 ≤ 601024 by omega), (show S1 + 24 + 0 + 0 ≤ 7293034 by omega)⟩) (fun H locs B => ?_)
      refine lv_iload hx hb dL_law_1771 (lv_at hl 1 rfl) ?_
      refine lv_icmp_eq (tgt := 1778) hx hb dL_law_1773 (by decide) (fun hc => ?_) (fun hc => ?_)
      · have hf := zif_t hc hf
        refine lv_iload hx hb dL_law_1778 (lv_at hl 1 rfl) ?_
        refine lv_if_ne (tgt := 1795) hx hb dL_law_1780 (by decide) (fun hc => ?_) (fun hc => ?_)
        · have hf := zif_f hc hf
          refine lv_goto (tgt := 2518) hx hb dL_law_1795 (by decide) ?_
          refine lv_iinc (v := (v4 + (5 : Int32))) (lv' := [(4, .int (v4 + (5 : Int32))), (6, .int r20), (5, .int r17), (0, .ref b), (1, .ref (ad 0)), (2, .ref (ad 65)), (3, .ref (ad 75))]) hx hb dL_law_2518 hl (k := 6) rfl (zc1 (by decide)) (by decide) rfl (fun ls hl => ?_)
          refine lv_goto (tgt := 23) hx hb dL_law_2521 (by decide) ?_
          refine W.widen (k := C1 + 28) (n := S1 + 2612) (show C1 + 4 + 0 + 0 ≤ C1 + 28 by omega) (show S1 + 24 + 0 + 0 ≤ S1 + 2612 by omega) ?_
          exact hK23 _ _ _ _ _ hf B (lv_sub hl [3, 4, 5, 6, 0] rfl)
        · have hf := zif_t hc hf
          refine lv_aload_n hx hb dL_law_1783 rfl (lv_at hl 5 rfl) ?_
          refine lv_iconst (v := (0 : Int32)) hx hb dL_law_1784 (by decide) ?_
          obtain ⟨hg, hf⟩ := zg_some hf
          refine x_lald hx hb B 75 (by decide) (fun _ => rfl) (zin_ok hg) dL_law_1785 ?_
          refine lv_iload hx hb dL_law_1786 (lv_at hl 0 rfl) ?_
          refine lv_i2l (v := r20.toInt64) hx hb dL_law_1788 rfl ?_
          refine W.lcmp hx hb dL_law_1789 ?_
          refine lv_if_eq (tgt := 1795) hx hb dL_law_1790 (by decide) (fun hc => ?_) (fun hc => ?_)
          · have hf := zif_t hc hf
            refine lv_goto (tgt := 2518) hx hb dL_law_1795 (by decide) ?_
            refine lv_iinc (v := (v4 + (5 : Int32))) (lv' := [(4, .int (v4 + (5 : Int32))), (6, .int r20), (5, .int r17), (0, .ref b), (1, .ref (ad 0)), (2, .ref (ad 65)), (3, .ref (ad 75))]) hx hb dL_law_2518 hl (k := 6) rfl (zc1 (by decide)) (by decide) rfl (fun ls hl => ?_)
            refine lv_goto (tgt := 23) hx hb dL_law_2521 (by decide) ?_
            refine W.widen (k := C1 + 28) (n := S1 + 2612) (show C1 + 4 + 0 + 0 ≤ C1 + 28 by omega) (show S1 + 24 + 0 + 0 ≤ S1 + 2612 by omega) ?_
            exact hK23 _ _ _ _ _ hf B (lv_sub hl [3, 4, 5, 6, 0] rfl)
          · have hf := zif_f hc hf
            refine lv_iconst (v := (0 : Int32)) hx hb dL_law_1793 (by decide) ?_
            exact absurd (show (0 : Int32) = 1 from congrArg Prod.fst (Option.some.inj hf)) (by decide)
      · have hf := zif_f hc hf
        refine lv_iconst (v := (0 : Int32)) hx hb dL_law_1776 (by decide) ?_
        exact absurd (show (0 : Int32) = 1 from congrArg Prod.fst (Option.some.inj hf)) (by decide)
    · have hf := zif_f hc hf
      refine lv_iconst (v := (1 : Int32)) hx hb dL_law_1757 (by decide) ?_
      refine lv_goto (tgt := 1762) hx hb dL_law_1758 (by decide) ?_
      obtain ⟨r26, σ27, hu25, hf⟩ := zb_some hf
      refine x_i B (fun nb a g hs Bz => va_runV (As := [.int (xs (v4 + (1 : Int32)).toNatClampNeg), .int (xs (v4 + (2 : Int32)).toNatClampNeg), .int (xs (v4 + (3 : Int32)).toNatClampNeg), .int (1 : Int32)]) (rest := []) ⟨hx, hb, hml, hown, hts⟩ (c_X9_givePair l hu25 _ nb a g hs) (cwV 4 hts gL_law_X9_givePair rfl rfl rfl (by decide +kernel) ⟨Nat.le_of_ble_eq_true rfl, Nat.le_of_ble_eq_true rfl⟩) (x_preV Bz (by decide) (fun _ => rfl) rfl) rfl rfl hl.1 rfl (lv_room (Nat.le_of_ble_eq_true rfl)) dL_law_1762 ⟨(show C1 + 4 + 0 ≤ 601024 by omega), (show S1 + 24 + 0 ≤ 7293034 by omega)⟩) (fun H locs B => ?_)
      refine lv_istore (lv' := [(6, .int r26), (5, .int r17), (0, .ref b), (1, .ref (ad 0)), (2, .ref (ad 65)), (3, .ref (ad 75)), (4, .int v4)]) hx hb dL_law_1765 hl (by decide) rfl (fun ls hl => ?_)
      refine lv_aload_n hx hb dL_law_1767 rfl (lv_at hl 4 rfl) ?_
      obtain ⟨r29, σ30, hu28, hf⟩ := zb_some hf
      refine x_i B (fun nb a g hs Bz => va_runV (As := []) (rest := []) ⟨hx, hb, hml, hown, hts⟩ (c_X9_thrown l hu28 _ nb a g hs) (cwV 0 hts gL_law_X9_thrown rfl rfl rfl (by decide +kernel) ⟨Nat.le_of_ble_eq_true rfl, Nat.le_of_ble_eq_true rfl⟩) (x_preV Bz (by decide) (fun _ => rfl) rfl) rfl rfl hl.1 rfl (lv_room (Nat.le_of_ble_eq_true rfl)) dL_law_1768 ⟨(show C1 + 4 + 0 + 0 ≤ 601024 by omega), (show S1 + 24 + 0 + 0 ≤ 7293034 by omega)⟩) (fun H locs B => ?_)
      refine lv_iload hx hb dL_law_1771 (lv_at hl 1 rfl) ?_
      refine lv_icmp_eq (tgt := 1778) hx hb dL_law_1773 (by decide) (fun hc => ?_) (fun hc => ?_)
      · have hf := zif_t hc hf
        refine lv_iload hx hb dL_law_1778 (lv_at hl 1 rfl) ?_
        refine lv_if_ne (tgt := 1795) hx hb dL_law_1780 (by decide) (fun hc => ?_) (fun hc => ?_)
        · have hf := zif_f hc hf
          refine lv_goto (tgt := 2518) hx hb dL_law_1795 (by decide) ?_
          refine lv_iinc (v := (v4 + (5 : Int32))) (lv' := [(4, .int (v4 + (5 : Int32))), (6, .int r26), (5, .int r17), (0, .ref b), (1, .ref (ad 0)), (2, .ref (ad 65)), (3, .ref (ad 75))]) hx hb dL_law_2518 hl (k := 6) rfl (zc1 (by decide)) (by decide) rfl (fun ls hl => ?_)
          refine lv_goto (tgt := 23) hx hb dL_law_2521 (by decide) ?_
          refine W.widen (k := C1 + 28) (n := S1 + 2612) (show C1 + 4 + 0 + 0 ≤ C1 + 28 by omega) (show S1 + 24 + 0 + 0 ≤ S1 + 2612 by omega) ?_
          exact hK23 _ _ _ _ _ hf B (lv_sub hl [3, 4, 5, 6, 0] rfl)
        · have hf := zif_t hc hf
          refine lv_aload_n hx hb dL_law_1783 rfl (lv_at hl 5 rfl) ?_
          refine lv_iconst (v := (0 : Int32)) hx hb dL_law_1784 (by decide) ?_
          obtain ⟨hg, hf⟩ := zg_some hf
          refine x_lald hx hb B 75 (by decide) (fun _ => rfl) (zin_ok hg) dL_law_1785 ?_
          refine lv_iload hx hb dL_law_1786 (lv_at hl 0 rfl) ?_
          refine lv_i2l (v := r26.toInt64) hx hb dL_law_1788 rfl ?_
          refine W.lcmp hx hb dL_law_1789 ?_
          refine lv_if_eq (tgt := 1795) hx hb dL_law_1790 (by decide) (fun hc => ?_) (fun hc => ?_)
          · have hf := zif_t hc hf
            refine lv_goto (tgt := 2518) hx hb dL_law_1795 (by decide) ?_
            refine lv_iinc (v := (v4 + (5 : Int32))) (lv' := [(4, .int (v4 + (5 : Int32))), (6, .int r26), (5, .int r17), (0, .ref b), (1, .ref (ad 0)), (2, .ref (ad 65)), (3, .ref (ad 75))]) hx hb dL_law_2518 hl (k := 6) rfl (zc1 (by decide)) (by decide) rfl (fun ls hl => ?_)
            refine lv_goto (tgt := 23) hx hb dL_law_2521 (by decide) ?_
            refine W.widen (k := C1 + 28) (n := S1 + 2612) (show C1 + 4 + 0 + 0 ≤ C1 + 28 by omega) (show S1 + 24 + 0 + 0 ≤ S1 + 2612 by omega) ?_
            exact hK23 _ _ _ _ _ hf B (lv_sub hl [3, 4, 5, 6, 0] rfl)
          · have hf := zif_f hc hf
            refine lv_iconst (v := (0 : Int32)) hx hb dL_law_1793 (by decide) ?_
            exact absurd (show (0 : Int32) = 1 from congrArg Prod.fst (Option.some.inj hf)) (by decide)
      · have hf := zif_f hc hf
        refine lv_iconst (v := (0 : Int32)) hx hb dL_law_1776 (by decide) ?_
        exact absurd (show (0 : Int32) = 1 from congrArg Prod.fst (Option.some.inj hf)) (by decide)
theorem dL_law_1798 : decode cL_law 1798 = .ok (.aload_n 1, 1) := by decide +kernel
theorem dL_law_1799 : decode cL_law 1799 = .ok (.aload_n 0, 1) := by decide +kernel
theorem dL_law_1800 : decode cL_law 1800 = .ok (.iload 4, 2) := by decide +kernel
theorem dL_law_1802 : decode cL_law 1802 = .ok (.iconst 1, 1) := by decide +kernel
theorem dL_law_1803 : decode cL_law 1803 = .ok (.iadd, 1) := by decide +kernel
theorem dL_law_1804 : decode cL_law 1804 = .ok (.iaload, 1) := by decide +kernel
theorem dL_law_1805 : decode cL_law 1805 = .ok (.aload_n 0, 1) := by decide +kernel
theorem dL_law_1806 : decode cL_law 1806 = .ok (.iload 4, 2) := by decide +kernel
theorem dL_law_1808 : decode cL_law 1808 = .ok (.iconst 2, 1) := by decide +kernel
theorem dL_law_1809 : decode cL_law 1809 = .ok (.iadd, 1) := by decide +kernel
theorem dL_law_1810 : decode cL_law 1810 = .ok (.iaload, 1) := by decide +kernel
theorem dL_law_1811 : decode cL_law 1811 = .ok (.aload_n 0, 1) := by decide +kernel
theorem dL_law_1812 : decode cL_law 1812 = .ok (.iload 4, 2) := by decide +kernel
theorem dL_law_1814 : decode cL_law 1814 = .ok (.iconst 3, 1) := by decide +kernel
theorem dL_law_1815 : decode cL_law 1815 = .ok (.iadd, 1) := by decide +kernel
theorem dL_law_1816 : decode cL_law 1816 = .ok (.iaload, 1) := by decide +kernel
theorem dL_law_1817 : decode cL_law 1817 = .ok (.aload_n 3, 1) := by decide +kernel
theorem dL_law_1818 : decode cL_law 1818 = .ok (.invokestatic 221, 3) := by decide +kernel
theorem dL_law_1821 : decode cL_law 1821 = .ok (.istore 5, 2) := by decide +kernel
theorem dL_law_1823 : decode cL_law 1823 = .ok (.aload_n 2, 1) := by decide +kernel
theorem dL_law_1824 : decode cL_law 1824 = .ok (.aload_n 0, 1) := by decide +kernel
theorem dL_law_1825 : decode cL_law 1825 = .ok (.iload 4, 2) := by decide +kernel
theorem dL_law_1827 : decode cL_law 1827 = .ok (.iconst 1, 1) := by decide +kernel
theorem dL_law_1828 : decode cL_law 1828 = .ok (.iadd, 1) := by decide +kernel
theorem dL_law_1829 : decode cL_law 1829 = .ok (.iaload, 1) := by decide +kernel
theorem dL_law_1830 : decode cL_law 1830 = .ok (.aload_n 0, 1) := by decide +kernel
theorem dL_law_1831 : decode cL_law 1831 = .ok (.iload 4, 2) := by decide +kernel
theorem dL_law_1833 : decode cL_law 1833 = .ok (.iconst 2, 1) := by decide +kernel
theorem dL_law_1834 : decode cL_law 1834 = .ok (.iadd, 1) := by decide +kernel
theorem dL_law_1835 : decode cL_law 1835 = .ok (.iaload, 1) := by decide +kernel
theorem dL_law_1836 : decode cL_law 1836 = .ok (.aload_n 0, 1) := by decide +kernel
theorem dL_law_1837 : decode cL_law 1837 = .ok (.iload 4, 2) := by decide +kernel
theorem dL_law_1839 : decode cL_law 1839 = .ok (.iconst 3, 1) := by decide +kernel
theorem dL_law_1840 : decode cL_law 1840 = .ok (.iadd, 1) := by decide +kernel
theorem dL_law_1841 : decode cL_law 1841 = .ok (.iaload, 1) := by decide +kernel
theorem dL_law_1842 : decode cL_law 1842 = .ok (.invokevirtual 223, 3) := by decide +kernel
theorem dL_law_1845 : decode cL_law 1845 = .ok (.istore 6, 2) := by decide +kernel
theorem dL_law_1847 : decode cL_law 1847 = .ok (.aload_n 2, 1) := by decide +kernel
theorem dL_law_1848 : decode cL_law 1848 = .ok (.invokevirtual 139, 3) := by decide +kernel
theorem dL_law_1851 : decode cL_law 1851 = .ok (.iload 5, 2) := by decide +kernel
theorem dL_law_1853 : decode cL_law 1853 = .ok (.if_icmp .eq 5, 3) := by decide +kernel
theorem dL_law_1856 : decode cL_law 1856 = .ok (.iconst 0, 1) := by decide +kernel
theorem dL_law_1858 : decode cL_law 1858 = .ok (.iload 5, 2) := by decide +kernel
theorem dL_law_1860 : decode cL_law 1860 = .ok (.ifCond .ne 15, 3) := by decide +kernel
theorem dL_law_1863 : decode cL_law 1863 = .ok (.aload_n 3, 1) := by decide +kernel
theorem dL_law_1864 : decode cL_law 1864 = .ok (.iconst 0, 1) := by decide +kernel
theorem dL_law_1865 : decode cL_law 1865 = .ok (.laload, 1) := by decide +kernel
theorem dL_law_1866 : decode cL_law 1866 = .ok (.iload 6, 2) := by decide +kernel
theorem dL_law_1868 : decode cL_law 1868 = .ok (.i2l, 1) := by decide +kernel
theorem dL_law_1869 : decode cL_law 1869 = .ok (.lcmp, 1) := by decide +kernel
theorem dL_law_1870 : decode cL_law 1870 = .ok (.ifCond .eq 5, 3) := by decide +kernel
theorem dL_law_1873 : decode cL_law 1873 = .ok (.iconst 0, 1) := by decide +kernel
theorem dL_law_1875 : decode cL_law 1875 = .ok (.goto 643, 3) := by decide +kernel
set_option maxRecDepth 20000 in
theorem ggL_law_L_seal : GoodIn wsL_law wsL_seal := goodIn_ca (goodIn_ca (goodIn_ca (goodIn_ca (goodIn_r _ [1118, 146, 239, 148, 1119, 1120, 1121, 2, 1122, 16, 1078, 1123, 155, 156, 157, 158, 159, 160, 161, 162, 1096, 1097, 1098, 1099, 1079, 250, 251, 252, 253, 153, 154, 1100, 1101, 1102, 1103, 22, 1104, 1105, 1106, 46, 1107, 79, 78, 259, 260, 261, 262, 263, 264, 21, 265, 266, 267, 268, 269, 270, 90, 91, 254, 255, 256, 257, 258, 389, 390, 391, 392, 393, 171, 172, 173, 174, 175, 1124, 1125, 1126, 1127, 1128, 80, 81, 82, 1369, 1370, 1371, 1372, 1373, 1374, 1375, 1376, 1397, 1398, 1399, 1400, 1401, 1402, 1403, 1404, 1436, 1437, 1438, 1439, 1440, 1441, 1442, 1424, 1425, 1426, 1427, 1428, 1429, 1430, 1431, 1432, 1433, 1434, 1435, 1405, 1406, 1407] (by decide +kernel) (by decide +kernel)) (goodIn_sub (fun _ h => List.mem_append_left _ (List.mem_append_left _ (List.mem_append_left _ (List.mem_append_left _ (List.mem_append_left _ (List.mem_append_right _ h)))))) (by decide +kernel))) (goodIn_sub (fun _ h => List.mem_append_left _ (List.mem_append_left _ (List.mem_append_left _ (List.mem_append_left _ (List.mem_append_right _ h))))) (by decide +kernel))) (goodIn_sub (fun _ h => List.mem_append_left _ (List.mem_append_right _ h)) (by decide +kernel))) (goodIn_sub (fun _ h => List.mem_append_left _ (List.mem_append_left _ (List.mem_append_right _ h))) (by decide +kernel))
set_option maxRecDepth 20000 in
theorem gL_law_L_seal : GoodIn wsL_law (va_wsS RL 221 yL_seal wsL_seal) := goodIn_app (goodIn_of _ (by decide +kernel)) ggL_law_L_seal
set_option maxRecDepth 20000 in
theorem ggL_law_X9_seal : GoodIn wsL_law wsX9_seal := goodIn_ca (goodIn_r _ [1132, 193, 132, 194, 195, 5, 196, 197, 198, 199, 1112, 1113, 1114, 1115, 408, 409, 410, 411, 412, 413, 414, 415, 416, 417, 418, 419, 420, 421, 422, 423, 137, 138, 1377, 1378, 1379, 1380, 1381, 1382, 1383, 1384, 1385, 1386, 1387, 1388, 1389, 1390, 1391, 1392, 1393, 1394, 1395, 1396] (by decide +kernel) (by decide +kernel)) (goodIn_sub (fun _ h => List.mem_append_left _ (List.mem_append_left _ (List.mem_append_left _ (List.mem_append_left _ (List.mem_append_left _ (List.mem_append_right _ h)))))) (by decide +kernel))
set_option maxRecDepth 20000 in
theorem gL_law_X9_seal : GoodIn wsL_law (wsV RL 223 RX9 yX9_seal wsX9_seal) := goodIn_app (goodIn_of _ (by decide +kernel)) ggL_law_X9_seal
set_option maxHeartbeats 4000000 in
set_option maxRecDepth 100000 in
theorem lc_1798 {p : Program} {e : Env} {s : State} {m : MethodId} {below : List Frame} {meth : Method} {c : Code} (l : Launch) (hfl : l.stackTraces = false) {b L : Nat} {xs : Nat → Int32} {Q : State → Prop} (C0 : lw_At p s m meth c b L xs) {G : zG} {ad : Nat → Nat} {σ' : zs} (C1 S1 : Nat) (hC : C1 + 28 ≤ 601024) (hS1 : S1 + 2612 ≤ 7293034) (K23 : zs → Int32 → Option (Int32 × zs)) (hK23 : ∀ (σ : zs) (v4 : Int32) (H : Heap) (locs : List Loc) (ls : Array Slot), K23 σ v4 = some (1, σ') → xB (fun q : Nat => s.heap.size ≤ q) s G ad σ H locs → lv_has ls 7 [(0, .ref b), (1, .ref (ad 0)), (2, .ref (ad 65)), (3, .ref (ad 75)), (4, .int v4)] → W p l e room_1 s m #[Value.ref b] below meth c H locs (C1 + 28) (S1 + 2612) Q (F0 m 23 ls [])) (σ : zs) (v4 : Int32) (H : Heap) (locs : List Loc) (ls : Array Slot) (hf : f_L_law_1798 L xs K23 σ v4 = some (1, σ')) (B : xB (fun q : Nat => s.heap.size ≤ q) s G ad σ H locs) (hl : lv_has ls 7 [(0, .ref b), (1, .ref (ad 0)), (2, .ref (ad 65)), (3, .ref (ad 75)), (4, .int v4)]) : W p l e room_1 s m #[Value.ref b] below meth c H locs C1 S1 Q (F0 m 1798 ls []) := by
  obtain ⟨hx, hb, hr, hml, hown, hts0, hX, hbl, hlocks, hgv⟩ := id C0
  have hts := fun w h => hts0 w (wsL_law_in w h)
  have hbA : ¬ (fun q : Nat => s.heap.size ≤ q) b := Nat.not_le.mpr hbl
  unfold f_L_law_1798 at hf
  refine lv_aload_n hx hb dL_law_1798 rfl (lv_at hl 1 rfl) ?_
  refine lv_aload_n hx hb dL_law_1799 rfl (lv_at hl 0 rfl) ?_
  refine lv_iload hx hb dL_law_1800 (lv_at hl 4 rfl) ?_
  refine lv_iconst (v := (1 : Int32)) hx hb dL_law_1802 (by decide) ?_
  refine lv_iadd hx hb dL_law_1803 ?_
  obtain ⟨hg, hf⟩ := zg_some hf
  refine va_sld hx hb hX hbl hbA (xS B) (zin_ok hg) dL_law_1804 ?_
  refine lv_aload_n hx hb dL_law_1805 rfl (lv_at hl 0 rfl) ?_
  refine lv_iload hx hb dL_law_1806 (lv_at hl 4 rfl) ?_
  refine lv_iconst (v := (2 : Int32)) hx hb dL_law_1808 (by decide) ?_
  refine lv_iadd hx hb dL_law_1809 ?_
  obtain ⟨hg, hf⟩ := zg_some hf
  refine va_sld hx hb hX hbl hbA (xS B) (zin_ok hg) dL_law_1810 ?_
  refine lv_aload_n hx hb dL_law_1811 rfl (lv_at hl 0 rfl) ?_
  refine lv_iload hx hb dL_law_1812 (lv_at hl 4 rfl) ?_
  refine lv_iconst (v := (3 : Int32)) hx hb dL_law_1814 (by decide) ?_
  refine lv_iadd hx hb dL_law_1815 ?_
  obtain ⟨hg, hf⟩ := zg_some hf
  refine va_sld hx hb hX hbl hbA (xS B) (zin_ok hg) dL_law_1816 ?_
  refine lv_aload_n hx hb dL_law_1817 rfl (lv_at hl 3 rfl) ?_
  obtain ⟨r2, σ3, hu1, hf⟩ := zb_some hf
  refine x_i B (fun nb a g hs Bz => vx_runSW (As := [.ref (ad 0), .int (xs (v4 + (1 : Int32)).toNatClampNeg), .int (xs (v4 + (2 : Int32)).toNatClampNeg), .int (xs (v4 + (3 : Int32)).toNatClampNeg), .ref (ad 75)]) (rest := []) ⟨hx, hb, hml, hown, hts⟩ (c_L_seal_0_75 l hfl hu1 _ nb a g hs) (vx_cwSW 5 hts gL_law_L_seal rfl rfl rfl (by decide +kernel) ⟨Nat.le_of_ble_eq_true rfl, Nat.le_of_ble_eq_true rfl⟩) (z_preS Bz) rfl rfl hl.1 rfl (lv_room (Nat.le_of_ble_eq_true rfl)) dL_law_1818 ⟨(show C1 + 5 ≤ 601024 by omega), (show S1 + 30 ≤ 7293034 by omega)⟩) (fun H locs B => ?_)
  refine lv_istore (lv' := [(5, .int r2), (0, .ref b), (1, .ref (ad 0)), (2, .ref (ad 65)), (3, .ref (ad 75)), (4, .int v4)]) hx hb dL_law_1821 hl (by decide) rfl (fun ls hl => ?_)
  refine lv_aload_n hx hb dL_law_1823 rfl (lv_at hl 3 rfl) ?_
  refine lv_aload_n hx hb dL_law_1824 rfl (lv_at hl 1 rfl) ?_
  refine lv_iload hx hb dL_law_1825 (lv_at hl 5 rfl) ?_
  refine lv_iconst (v := (1 : Int32)) hx hb dL_law_1827 (by decide) ?_
  refine lv_iadd hx hb dL_law_1828 ?_
  obtain ⟨hg, hf⟩ := zg_some hf
  refine va_sld hx hb hX hbl hbA (xS B) (zin_ok hg) dL_law_1829 ?_
  refine lv_aload_n hx hb dL_law_1830 rfl (lv_at hl 1 rfl) ?_
  refine lv_iload hx hb dL_law_1831 (lv_at hl 5 rfl) ?_
  refine lv_iconst (v := (2 : Int32)) hx hb dL_law_1833 (by decide) ?_
  refine lv_iadd hx hb dL_law_1834 ?_
  obtain ⟨hg, hf⟩ := zg_some hf
  refine va_sld hx hb hX hbl hbA (xS B) (zin_ok hg) dL_law_1835 ?_
  refine lv_aload_n hx hb dL_law_1836 rfl (lv_at hl 1 rfl) ?_
  refine lv_iload hx hb dL_law_1837 (lv_at hl 5 rfl) ?_
  refine lv_iconst (v := (3 : Int32)) hx hb dL_law_1839 (by decide) ?_
  refine lv_iadd hx hb dL_law_1840 ?_
  obtain ⟨hg, hf⟩ := zg_some hf
  refine va_sld hx hb hX hbl hbA (xS B) (zin_ok hg) dL_law_1841 ?_
  obtain ⟨r5, σ6, hu4, hf⟩ := zb_some hf
  refine x_i B (fun nb a g hs Bz => va_runV (As := [.int (xs (v4 + (1 : Int32)).toNatClampNeg), .int (xs (v4 + (2 : Int32)).toNatClampNeg), .int (xs (v4 + (3 : Int32)).toNatClampNeg)]) (rest := []) ⟨hx, hb, hml, hown, hts⟩ (c_X9_seal l hu4 _ nb a g hs) (cwV 3 hts gL_law_X9_seal rfl rfl rfl (by decide +kernel) ⟨Nat.le_of_ble_eq_true rfl, Nat.le_of_ble_eq_true rfl⟩) (x_preV Bz (by decide) (fun _ => rfl) rfl) rfl rfl hl.1 rfl (lv_room (Nat.le_of_ble_eq_true rfl)) dL_law_1842 ⟨(show C1 + 5 + 0 ≤ 601024 by omega), (show S1 + 30 + 0 ≤ 7293034 by omega)⟩) (fun H locs B => ?_)
  refine lv_istore (lv' := [(6, .int r5), (5, .int r2), (0, .ref b), (1, .ref (ad 0)), (2, .ref (ad 65)), (3, .ref (ad 75)), (4, .int v4)]) hx hb dL_law_1845 hl (by decide) rfl (fun ls hl => ?_)
  refine lv_aload_n hx hb dL_law_1847 rfl (lv_at hl 4 rfl) ?_
  obtain ⟨r8, σ9, hu7, hf⟩ := zb_some hf
  refine x_i B (fun nb a g hs Bz => va_runV (As := []) (rest := []) ⟨hx, hb, hml, hown, hts⟩ (c_X9_thrown l hu7 _ nb a g hs) (cwV 0 hts gL_law_X9_thrown rfl rfl rfl (by decide +kernel) ⟨Nat.le_of_ble_eq_true rfl, Nat.le_of_ble_eq_true rfl⟩) (x_preV Bz (by decide) (fun _ => rfl) rfl) rfl rfl hl.1 rfl (lv_room (Nat.le_of_ble_eq_true rfl)) dL_law_1848 ⟨(show C1 + 5 + 0 + 0 ≤ 601024 by omega), (show S1 + 30 + 0 + 0 ≤ 7293034 by omega)⟩) (fun H locs B => ?_)
  refine lv_iload hx hb dL_law_1851 (lv_at hl 1 rfl) ?_
  refine lv_icmp_eq (tgt := 1858) hx hb dL_law_1853 (by decide) (fun hc => ?_) (fun hc => ?_)
  · have hf := zif_t hc hf
    refine lv_iload hx hb dL_law_1858 (lv_at hl 1 rfl) ?_
    refine lv_if_ne (tgt := 1875) hx hb dL_law_1860 (by decide) (fun hc => ?_) (fun hc => ?_)
    · have hf := zif_f hc hf
      refine lv_goto (tgt := 2518) hx hb dL_law_1875 (by decide) ?_
      refine lv_iinc (v := (v4 + (5 : Int32))) (lv' := [(4, .int (v4 + (5 : Int32))), (6, .int r5), (5, .int r2), (0, .ref b), (1, .ref (ad 0)), (2, .ref (ad 65)), (3, .ref (ad 75))]) hx hb dL_law_2518 hl (k := 6) rfl (zc1 (by decide)) (by decide) rfl (fun ls hl => ?_)
      refine lv_goto (tgt := 23) hx hb dL_law_2521 (by decide) ?_
      refine W.widen (k := C1 + 28) (n := S1 + 2612) (show C1 + 5 + 0 + 0 ≤ C1 + 28 by omega) (show S1 + 30 + 0 + 0 ≤ S1 + 2612 by omega) ?_
      exact hK23 _ _ _ _ _ hf B (lv_sub hl [3, 4, 5, 6, 0] rfl)
    · have hf := zif_t hc hf
      refine lv_aload_n hx hb dL_law_1863 rfl (lv_at hl 5 rfl) ?_
      refine lv_iconst (v := (0 : Int32)) hx hb dL_law_1864 (by decide) ?_
      obtain ⟨hg, hf⟩ := zg_some hf
      refine x_lald hx hb B 75 (by decide) (fun _ => rfl) (zin_ok hg) dL_law_1865 ?_
      refine lv_iload hx hb dL_law_1866 (lv_at hl 0 rfl) ?_
      refine lv_i2l (v := r5.toInt64) hx hb dL_law_1868 rfl ?_
      refine W.lcmp hx hb dL_law_1869 ?_
      refine lv_if_eq (tgt := 1875) hx hb dL_law_1870 (by decide) (fun hc => ?_) (fun hc => ?_)
      · have hf := zif_t hc hf
        refine lv_goto (tgt := 2518) hx hb dL_law_1875 (by decide) ?_
        refine lv_iinc (v := (v4 + (5 : Int32))) (lv' := [(4, .int (v4 + (5 : Int32))), (6, .int r5), (5, .int r2), (0, .ref b), (1, .ref (ad 0)), (2, .ref (ad 65)), (3, .ref (ad 75))]) hx hb dL_law_2518 hl (k := 6) rfl (zc1 (by decide)) (by decide) rfl (fun ls hl => ?_)
        refine lv_goto (tgt := 23) hx hb dL_law_2521 (by decide) ?_
        refine W.widen (k := C1 + 28) (n := S1 + 2612) (show C1 + 5 + 0 + 0 ≤ C1 + 28 by omega) (show S1 + 30 + 0 + 0 ≤ S1 + 2612 by omega) ?_
        exact hK23 _ _ _ _ _ hf B (lv_sub hl [3, 4, 5, 6, 0] rfl)
      · have hf := zif_f hc hf
        refine lv_iconst (v := (0 : Int32)) hx hb dL_law_1873 (by decide) ?_
        exact absurd (show (0 : Int32) = 1 from congrArg Prod.fst (Option.some.inj hf)) (by decide)
  · have hf := zif_f hc hf
    refine lv_iconst (v := (0 : Int32)) hx hb dL_law_1856 (by decide) ?_
    exact absurd (show (0 : Int32) = 1 from congrArg Prod.fst (Option.some.inj hf)) (by decide)
theorem dL_law_1878 : decode cL_law 1878 = .ok (.aload_n 1, 1) := by decide +kernel
theorem dL_law_1879 : decode cL_law 1879 = .ok (.aload_n 0, 1) := by decide +kernel
theorem dL_law_1880 : decode cL_law 1880 = .ok (.iload 4, 2) := by decide +kernel
theorem dL_law_1882 : decode cL_law 1882 = .ok (.iconst 1, 1) := by decide +kernel
theorem dL_law_1883 : decode cL_law 1883 = .ok (.iadd, 1) := by decide +kernel
theorem dL_law_1884 : decode cL_law 1884 = .ok (.iaload, 1) := by decide +kernel
theorem dL_law_1885 : decode cL_law 1885 = .ok (.aload_n 0, 1) := by decide +kernel
theorem dL_law_1886 : decode cL_law 1886 = .ok (.iload 4, 2) := by decide +kernel
theorem dL_law_1888 : decode cL_law 1888 = .ok (.iconst 2, 1) := by decide +kernel
theorem dL_law_1889 : decode cL_law 1889 = .ok (.iadd, 1) := by decide +kernel
theorem dL_law_1890 : decode cL_law 1890 = .ok (.iaload, 1) := by decide +kernel
theorem dL_law_1891 : decode cL_law 1891 = .ok (.aload_n 0, 1) := by decide +kernel
theorem dL_law_1892 : decode cL_law 1892 = .ok (.iload 4, 2) := by decide +kernel
theorem dL_law_1894 : decode cL_law 1894 = .ok (.iconst 3, 1) := by decide +kernel
theorem dL_law_1895 : decode cL_law 1895 = .ok (.iadd, 1) := by decide +kernel
theorem dL_law_1896 : decode cL_law 1896 = .ok (.iaload, 1) := by decide +kernel
theorem dL_law_1897 : decode cL_law 1897 = .ok (.aload_n 3, 1) := by decide +kernel
theorem dL_law_1898 : decode cL_law 1898 = .ok (.invokestatic 224, 3) := by decide +kernel
theorem dL_law_1901 : decode cL_law 1901 = .ok (.istore 5, 2) := by decide +kernel
theorem dL_law_1903 : decode cL_law 1903 = .ok (.aload_n 2, 1) := by decide +kernel
theorem dL_law_1904 : decode cL_law 1904 = .ok (.aload_n 0, 1) := by decide +kernel
theorem dL_law_1905 : decode cL_law 1905 = .ok (.iload 4, 2) := by decide +kernel
theorem dL_law_1907 : decode cL_law 1907 = .ok (.iconst 1, 1) := by decide +kernel
theorem dL_law_1908 : decode cL_law 1908 = .ok (.iadd, 1) := by decide +kernel
theorem dL_law_1909 : decode cL_law 1909 = .ok (.iaload, 1) := by decide +kernel
theorem dL_law_1910 : decode cL_law 1910 = .ok (.aload_n 0, 1) := by decide +kernel
theorem dL_law_1911 : decode cL_law 1911 = .ok (.iload 4, 2) := by decide +kernel
theorem dL_law_1913 : decode cL_law 1913 = .ok (.iconst 2, 1) := by decide +kernel
theorem dL_law_1914 : decode cL_law 1914 = .ok (.iadd, 1) := by decide +kernel
theorem dL_law_1915 : decode cL_law 1915 = .ok (.iaload, 1) := by decide +kernel
theorem dL_law_1916 : decode cL_law 1916 = .ok (.aload_n 0, 1) := by decide +kernel
theorem dL_law_1917 : decode cL_law 1917 = .ok (.iload 4, 2) := by decide +kernel
theorem dL_law_1919 : decode cL_law 1919 = .ok (.iconst 3, 1) := by decide +kernel
theorem dL_law_1920 : decode cL_law 1920 = .ok (.iadd, 1) := by decide +kernel
theorem dL_law_1921 : decode cL_law 1921 = .ok (.iaload, 1) := by decide +kernel
theorem dL_law_1922 : decode cL_law 1922 = .ok (.invokevirtual 226, 3) := by decide +kernel
theorem dL_law_1925 : decode cL_law 1925 = .ok (.istore 6, 2) := by decide +kernel
theorem dL_law_1927 : decode cL_law 1927 = .ok (.aload_n 2, 1) := by decide +kernel
theorem dL_law_1928 : decode cL_law 1928 = .ok (.invokevirtual 139, 3) := by decide +kernel
theorem dL_law_1931 : decode cL_law 1931 = .ok (.iload 5, 2) := by decide +kernel
theorem dL_law_1933 : decode cL_law 1933 = .ok (.if_icmp .eq 5, 3) := by decide +kernel
theorem dL_law_1936 : decode cL_law 1936 = .ok (.iconst 0, 1) := by decide +kernel
theorem dL_law_1938 : decode cL_law 1938 = .ok (.iload 5, 2) := by decide +kernel
theorem dL_law_1940 : decode cL_law 1940 = .ok (.ifCond .ne 15, 3) := by decide +kernel
theorem dL_law_1943 : decode cL_law 1943 = .ok (.aload_n 3, 1) := by decide +kernel
theorem dL_law_1944 : decode cL_law 1944 = .ok (.iconst 0, 1) := by decide +kernel
theorem dL_law_1945 : decode cL_law 1945 = .ok (.laload, 1) := by decide +kernel
theorem dL_law_1946 : decode cL_law 1946 = .ok (.iload 6, 2) := by decide +kernel
theorem dL_law_1948 : decode cL_law 1948 = .ok (.i2l, 1) := by decide +kernel
theorem dL_law_1949 : decode cL_law 1949 = .ok (.lcmp, 1) := by decide +kernel
theorem dL_law_1950 : decode cL_law 1950 = .ok (.ifCond .eq 5, 3) := by decide +kernel
theorem dL_law_1953 : decode cL_law 1953 = .ok (.iconst 0, 1) := by decide +kernel
theorem dL_law_1955 : decode cL_law 1955 = .ok (.goto 563, 3) := by decide +kernel
set_option maxRecDepth 20000 in
theorem ggL_law_L_giveBox : GoodIn wsL_law wsL_giveBox := goodIn_ca (goodIn_ca (goodIn_ca (goodIn_r _ [1135, 146, 239, 1136, 1137, 1138, 2, 1139, 16, 1078, 1140, 155, 156, 157, 158, 159, 160, 161, 162, 1141, 1142, 1143, 1144, 1123, 1145, 1146, 1147, 1148, 22, 259, 260, 261, 262, 263, 264, 21, 265, 266, 267, 268, 269, 270, 90, 91, 389, 390, 391, 392, 393, 1369, 1370, 1371, 1372, 1373, 1374, 1375, 1376, 1397, 1398, 1399, 1400, 1401, 1402, 1403, 1404, 1436, 1437, 1438, 1439, 1440, 1441, 1442, 1405, 1406, 1407] (by decide +kernel) (by decide +kernel)) (goodIn_sub (fun _ h => List.mem_append_left _ (List.mem_append_left _ (List.mem_append_left _ (List.mem_append_left _ (List.mem_append_left _ (List.mem_append_right _ h)))))) (by decide +kernel))) (goodIn_sub (fun _ h => List.mem_append_left _ (List.mem_append_left _ (List.mem_append_left _ (List.mem_append_left _ (List.mem_append_right _ h))))) (by decide +kernel))) (goodIn_sub (fun _ h => List.mem_append_left _ (List.mem_append_right _ h)) (by decide +kernel))
set_option maxRecDepth 20000 in
theorem gL_law_L_giveBox : GoodIn wsL_law (va_wsS RL 224 yL_giveBox wsL_giveBox) := goodIn_app (goodIn_of _ (by decide +kernel)) ggL_law_L_giveBox
set_option maxRecDepth 20000 in
theorem ggL_law_X9_giveBox : GoodIn wsL_law wsX9_giveBox := goodIn_ca (goodIn_r _ [1152, 193, 132, 194, 195, 5, 196, 197, 198, 199, 1153, 1154, 1155, 1156, 412, 413, 414, 415, 416, 417, 418, 419, 420, 421, 422, 423, 137, 138, 1377, 1378, 1379, 1380, 1381, 1382, 1383, 1384, 1385, 1386, 1387, 1388, 1389, 1390, 1391, 1392, 1393, 1394, 1395, 1396] (by decide +kernel) (by decide +kernel)) (goodIn_sub (fun _ h => List.mem_append_left _ (List.mem_append_left _ (List.mem_append_left _ (List.mem_append_left _ (List.mem_append_left _ (List.mem_append_right _ h)))))) (by decide +kernel))
set_option maxRecDepth 20000 in
theorem gL_law_X9_giveBox : GoodIn wsL_law (wsV RL 226 RX9 yX9_giveBox wsX9_giveBox) := goodIn_app (goodIn_of _ (by decide +kernel)) ggL_law_X9_giveBox
set_option maxHeartbeats 4000000 in
set_option maxRecDepth 100000 in
theorem lc_1878 {p : Program} {e : Env} {s : State} {m : MethodId} {below : List Frame} {meth : Method} {c : Code} (l : Launch) (hfl : l.stackTraces = false) {b L : Nat} {xs : Nat → Int32} {Q : State → Prop} (C0 : lw_At p s m meth c b L xs) {G : zG} {ad : Nat → Nat} {σ' : zs} (C1 S1 : Nat) (hC : C1 + 28 ≤ 601024) (hS1 : S1 + 2612 ≤ 7293034) (K23 : zs → Int32 → Option (Int32 × zs)) (hK23 : ∀ (σ : zs) (v4 : Int32) (H : Heap) (locs : List Loc) (ls : Array Slot), K23 σ v4 = some (1, σ') → xB (fun q : Nat => s.heap.size ≤ q) s G ad σ H locs → lv_has ls 7 [(0, .ref b), (1, .ref (ad 0)), (2, .ref (ad 65)), (3, .ref (ad 75)), (4, .int v4)] → W p l e room_1 s m #[Value.ref b] below meth c H locs (C1 + 28) (S1 + 2612) Q (F0 m 23 ls [])) (σ : zs) (v4 : Int32) (H : Heap) (locs : List Loc) (ls : Array Slot) (hf : f_L_law_1878 L xs K23 σ v4 = some (1, σ')) (B : xB (fun q : Nat => s.heap.size ≤ q) s G ad σ H locs) (hl : lv_has ls 7 [(0, .ref b), (1, .ref (ad 0)), (2, .ref (ad 65)), (3, .ref (ad 75)), (4, .int v4)]) : W p l e room_1 s m #[Value.ref b] below meth c H locs C1 S1 Q (F0 m 1878 ls []) := by
  obtain ⟨hx, hb, hr, hml, hown, hts0, hX, hbl, hlocks, hgv⟩ := id C0
  have hts := fun w h => hts0 w (wsL_law_in w h)
  have hbA : ¬ (fun q : Nat => s.heap.size ≤ q) b := Nat.not_le.mpr hbl
  unfold f_L_law_1878 at hf
  refine lv_aload_n hx hb dL_law_1878 rfl (lv_at hl 1 rfl) ?_
  refine lv_aload_n hx hb dL_law_1879 rfl (lv_at hl 0 rfl) ?_
  refine lv_iload hx hb dL_law_1880 (lv_at hl 4 rfl) ?_
  refine lv_iconst (v := (1 : Int32)) hx hb dL_law_1882 (by decide) ?_
  refine lv_iadd hx hb dL_law_1883 ?_
  obtain ⟨hg, hf⟩ := zg_some hf
  refine va_sld hx hb hX hbl hbA (xS B) (zin_ok hg) dL_law_1884 ?_
  refine lv_aload_n hx hb dL_law_1885 rfl (lv_at hl 0 rfl) ?_
  refine lv_iload hx hb dL_law_1886 (lv_at hl 4 rfl) ?_
  refine lv_iconst (v := (2 : Int32)) hx hb dL_law_1888 (by decide) ?_
  refine lv_iadd hx hb dL_law_1889 ?_
  obtain ⟨hg, hf⟩ := zg_some hf
  refine va_sld hx hb hX hbl hbA (xS B) (zin_ok hg) dL_law_1890 ?_
  refine lv_aload_n hx hb dL_law_1891 rfl (lv_at hl 0 rfl) ?_
  refine lv_iload hx hb dL_law_1892 (lv_at hl 4 rfl) ?_
  refine lv_iconst (v := (3 : Int32)) hx hb dL_law_1894 (by decide) ?_
  refine lv_iadd hx hb dL_law_1895 ?_
  obtain ⟨hg, hf⟩ := zg_some hf
  refine va_sld hx hb hX hbl hbA (xS B) (zin_ok hg) dL_law_1896 ?_
  refine lv_aload_n hx hb dL_law_1897 rfl (lv_at hl 3 rfl) ?_
  obtain ⟨r2, σ3, hu1, hf⟩ := zb_some hf
  refine x_i B (fun nb a g hs Bz => vx_runSW (As := [.ref (ad 0), .int (xs (v4 + (1 : Int32)).toNatClampNeg), .int (xs (v4 + (2 : Int32)).toNatClampNeg), .int (xs (v4 + (3 : Int32)).toNatClampNeg), .ref (ad 75)]) (rest := []) ⟨hx, hb, hml, hown, hts⟩ (c_L_giveBox_0_75 l hfl hu1 _ nb a g hs) (vx_cwSW 5 hts gL_law_L_giveBox rfl rfl rfl (by decide +kernel) ⟨Nat.le_of_ble_eq_true rfl, Nat.le_of_ble_eq_true rfl⟩) (z_preS Bz) rfl rfl hl.1 rfl (lv_room (Nat.le_of_ble_eq_true rfl)) dL_law_1898 ⟨(show C1 + 4 ≤ 601024 by omega), (show S1 + 24 ≤ 7293034 by omega)⟩) (fun H locs B => ?_)
  refine lv_istore (lv' := [(5, .int r2), (0, .ref b), (1, .ref (ad 0)), (2, .ref (ad 65)), (3, .ref (ad 75)), (4, .int v4)]) hx hb dL_law_1901 hl (by decide) rfl (fun ls hl => ?_)
  refine lv_aload_n hx hb dL_law_1903 rfl (lv_at hl 3 rfl) ?_
  refine lv_aload_n hx hb dL_law_1904 rfl (lv_at hl 1 rfl) ?_
  refine lv_iload hx hb dL_law_1905 (lv_at hl 5 rfl) ?_
  refine lv_iconst (v := (1 : Int32)) hx hb dL_law_1907 (by decide) ?_
  refine lv_iadd hx hb dL_law_1908 ?_
  obtain ⟨hg, hf⟩ := zg_some hf
  refine va_sld hx hb hX hbl hbA (xS B) (zin_ok hg) dL_law_1909 ?_
  refine lv_aload_n hx hb dL_law_1910 rfl (lv_at hl 1 rfl) ?_
  refine lv_iload hx hb dL_law_1911 (lv_at hl 5 rfl) ?_
  refine lv_iconst (v := (2 : Int32)) hx hb dL_law_1913 (by decide) ?_
  refine lv_iadd hx hb dL_law_1914 ?_
  obtain ⟨hg, hf⟩ := zg_some hf
  refine va_sld hx hb hX hbl hbA (xS B) (zin_ok hg) dL_law_1915 ?_
  refine lv_aload_n hx hb dL_law_1916 rfl (lv_at hl 1 rfl) ?_
  refine lv_iload hx hb dL_law_1917 (lv_at hl 5 rfl) ?_
  refine lv_iconst (v := (3 : Int32)) hx hb dL_law_1919 (by decide) ?_
  refine lv_iadd hx hb dL_law_1920 ?_
  obtain ⟨hg, hf⟩ := zg_some hf
  refine va_sld hx hb hX hbl hbA (xS B) (zin_ok hg) dL_law_1921 ?_
  obtain ⟨r5, σ6, hu4, hf⟩ := zb_some hf
  refine x_i B (fun nb a g hs Bz => va_runV (As := [.int (xs (v4 + (1 : Int32)).toNatClampNeg), .int (xs (v4 + (2 : Int32)).toNatClampNeg), .int (xs (v4 + (3 : Int32)).toNatClampNeg)]) (rest := []) ⟨hx, hb, hml, hown, hts⟩ (c_X9_giveBox l hu4 _ nb a g hs) (cwV 3 hts gL_law_X9_giveBox rfl rfl rfl (by decide +kernel) ⟨Nat.le_of_ble_eq_true rfl, Nat.le_of_ble_eq_true rfl⟩) (x_preV Bz (by decide) (fun _ => rfl) rfl) rfl rfl hl.1 rfl (lv_room (Nat.le_of_ble_eq_true rfl)) dL_law_1922 ⟨(show C1 + 4 + 0 ≤ 601024 by omega), (show S1 + 24 + 0 ≤ 7293034 by omega)⟩) (fun H locs B => ?_)
  refine lv_istore (lv' := [(6, .int r5), (5, .int r2), (0, .ref b), (1, .ref (ad 0)), (2, .ref (ad 65)), (3, .ref (ad 75)), (4, .int v4)]) hx hb dL_law_1925 hl (by decide) rfl (fun ls hl => ?_)
  refine lv_aload_n hx hb dL_law_1927 rfl (lv_at hl 4 rfl) ?_
  obtain ⟨r8, σ9, hu7, hf⟩ := zb_some hf
  refine x_i B (fun nb a g hs Bz => va_runV (As := []) (rest := []) ⟨hx, hb, hml, hown, hts⟩ (c_X9_thrown l hu7 _ nb a g hs) (cwV 0 hts gL_law_X9_thrown rfl rfl rfl (by decide +kernel) ⟨Nat.le_of_ble_eq_true rfl, Nat.le_of_ble_eq_true rfl⟩) (x_preV Bz (by decide) (fun _ => rfl) rfl) rfl rfl hl.1 rfl (lv_room (Nat.le_of_ble_eq_true rfl)) dL_law_1928 ⟨(show C1 + 4 + 0 + 0 ≤ 601024 by omega), (show S1 + 24 + 0 + 0 ≤ 7293034 by omega)⟩) (fun H locs B => ?_)
  refine lv_iload hx hb dL_law_1931 (lv_at hl 1 rfl) ?_
  refine lv_icmp_eq (tgt := 1938) hx hb dL_law_1933 (by decide) (fun hc => ?_) (fun hc => ?_)
  · have hf := zif_t hc hf
    refine lv_iload hx hb dL_law_1938 (lv_at hl 1 rfl) ?_
    refine lv_if_ne (tgt := 1955) hx hb dL_law_1940 (by decide) (fun hc => ?_) (fun hc => ?_)
    · have hf := zif_f hc hf
      refine lv_goto (tgt := 2518) hx hb dL_law_1955 (by decide) ?_
      refine lv_iinc (v := (v4 + (5 : Int32))) (lv' := [(4, .int (v4 + (5 : Int32))), (6, .int r5), (5, .int r2), (0, .ref b), (1, .ref (ad 0)), (2, .ref (ad 65)), (3, .ref (ad 75))]) hx hb dL_law_2518 hl (k := 6) rfl (zc1 (by decide)) (by decide) rfl (fun ls hl => ?_)
      refine lv_goto (tgt := 23) hx hb dL_law_2521 (by decide) ?_
      refine W.widen (k := C1 + 28) (n := S1 + 2612) (show C1 + 4 + 0 + 0 ≤ C1 + 28 by omega) (show S1 + 24 + 0 + 0 ≤ S1 + 2612 by omega) ?_
      exact hK23 _ _ _ _ _ hf B (lv_sub hl [3, 4, 5, 6, 0] rfl)
    · have hf := zif_t hc hf
      refine lv_aload_n hx hb dL_law_1943 rfl (lv_at hl 5 rfl) ?_
      refine lv_iconst (v := (0 : Int32)) hx hb dL_law_1944 (by decide) ?_
      obtain ⟨hg, hf⟩ := zg_some hf
      refine x_lald hx hb B 75 (by decide) (fun _ => rfl) (zin_ok hg) dL_law_1945 ?_
      refine lv_iload hx hb dL_law_1946 (lv_at hl 0 rfl) ?_
      refine lv_i2l (v := r5.toInt64) hx hb dL_law_1948 rfl ?_
      refine W.lcmp hx hb dL_law_1949 ?_
      refine lv_if_eq (tgt := 1955) hx hb dL_law_1950 (by decide) (fun hc => ?_) (fun hc => ?_)
      · have hf := zif_t hc hf
        refine lv_goto (tgt := 2518) hx hb dL_law_1955 (by decide) ?_
        refine lv_iinc (v := (v4 + (5 : Int32))) (lv' := [(4, .int (v4 + (5 : Int32))), (6, .int r5), (5, .int r2), (0, .ref b), (1, .ref (ad 0)), (2, .ref (ad 65)), (3, .ref (ad 75))]) hx hb dL_law_2518 hl (k := 6) rfl (zc1 (by decide)) (by decide) rfl (fun ls hl => ?_)
        refine lv_goto (tgt := 23) hx hb dL_law_2521 (by decide) ?_
        refine W.widen (k := C1 + 28) (n := S1 + 2612) (show C1 + 4 + 0 + 0 ≤ C1 + 28 by omega) (show S1 + 24 + 0 + 0 ≤ S1 + 2612 by omega) ?_
        exact hK23 _ _ _ _ _ hf B (lv_sub hl [3, 4, 5, 6, 0] rfl)
      · have hf := zif_f hc hf
        refine lv_iconst (v := (0 : Int32)) hx hb dL_law_1953 (by decide) ?_
        exact absurd (show (0 : Int32) = 1 from congrArg Prod.fst (Option.some.inj hf)) (by decide)
  · have hf := zif_f hc hf
    refine lv_iconst (v := (0 : Int32)) hx hb dL_law_1936 (by decide) ?_
    exact absurd (show (0 : Int32) = 1 from congrArg Prod.fst (Option.some.inj hf)) (by decide)
theorem dL_law_1958 : decode cL_law 1958 = .ok (.aload_n 1, 1) := by decide +kernel
theorem dL_law_1959 : decode cL_law 1959 = .ok (.aload_n 0, 1) := by decide +kernel
theorem dL_law_1960 : decode cL_law 1960 = .ok (.iload 4, 2) := by decide +kernel
theorem dL_law_1962 : decode cL_law 1962 = .ok (.iconst 1, 1) := by decide +kernel
theorem dL_law_1963 : decode cL_law 1963 = .ok (.iadd, 1) := by decide +kernel
theorem dL_law_1964 : decode cL_law 1964 = .ok (.iaload, 1) := by decide +kernel
theorem dL_law_1965 : decode cL_law 1965 = .ok (.aload_n 0, 1) := by decide +kernel
theorem dL_law_1966 : decode cL_law 1966 = .ok (.iload 4, 2) := by decide +kernel
theorem dL_law_1968 : decode cL_law 1968 = .ok (.iconst 2, 1) := by decide +kernel
theorem dL_law_1969 : decode cL_law 1969 = .ok (.iadd, 1) := by decide +kernel
theorem dL_law_1970 : decode cL_law 1970 = .ok (.iaload, 1) := by decide +kernel
theorem dL_law_1971 : decode cL_law 1971 = .ok (.aload_n 3, 1) := by decide +kernel
theorem dL_law_1972 : decode cL_law 1972 = .ok (.invokestatic 227, 3) := by decide +kernel
theorem dL_law_1975 : decode cL_law 1975 = .ok (.istore 5, 2) := by decide +kernel
theorem dL_law_1977 : decode cL_law 1977 = .ok (.aload_n 2, 1) := by decide +kernel
theorem dL_law_1978 : decode cL_law 1978 = .ok (.aload_n 0, 1) := by decide +kernel
theorem dL_law_1979 : decode cL_law 1979 = .ok (.iload 4, 2) := by decide +kernel
theorem dL_law_1981 : decode cL_law 1981 = .ok (.iconst 1, 1) := by decide +kernel
theorem dL_law_1982 : decode cL_law 1982 = .ok (.iadd, 1) := by decide +kernel
theorem dL_law_1983 : decode cL_law 1983 = .ok (.iaload, 1) := by decide +kernel
theorem dL_law_1984 : decode cL_law 1984 = .ok (.aload_n 0, 1) := by decide +kernel
theorem dL_law_1985 : decode cL_law 1985 = .ok (.iload 4, 2) := by decide +kernel
theorem dL_law_1987 : decode cL_law 1987 = .ok (.iconst 2, 1) := by decide +kernel
theorem dL_law_1988 : decode cL_law 1988 = .ok (.iadd, 1) := by decide +kernel
theorem dL_law_1989 : decode cL_law 1989 = .ok (.iaload, 1) := by decide +kernel
theorem dL_law_1990 : decode cL_law 1990 = .ok (.invokevirtual 229, 3) := by decide +kernel
theorem dL_law_1993 : decode cL_law 1993 = .ok (.istore 6, 2) := by decide +kernel
theorem dL_law_1995 : decode cL_law 1995 = .ok (.aload_n 2, 1) := by decide +kernel
theorem dL_law_1996 : decode cL_law 1996 = .ok (.invokevirtual 139, 3) := by decide +kernel
theorem dL_law_1999 : decode cL_law 1999 = .ok (.iload 5, 2) := by decide +kernel
theorem dL_law_2001 : decode cL_law 2001 = .ok (.if_icmp .eq 5, 3) := by decide +kernel
theorem dL_law_2004 : decode cL_law 2004 = .ok (.iconst 0, 1) := by decide +kernel
theorem dL_law_2006 : decode cL_law 2006 = .ok (.iload 5, 2) := by decide +kernel
theorem dL_law_2008 : decode cL_law 2008 = .ok (.ifCond .ne 15, 3) := by decide +kernel
theorem dL_law_2011 : decode cL_law 2011 = .ok (.aload_n 3, 1) := by decide +kernel
theorem dL_law_2012 : decode cL_law 2012 = .ok (.iconst 0, 1) := by decide +kernel
theorem dL_law_2013 : decode cL_law 2013 = .ok (.laload, 1) := by decide +kernel
theorem dL_law_2014 : decode cL_law 2014 = .ok (.iload 6, 2) := by decide +kernel
theorem dL_law_2016 : decode cL_law 2016 = .ok (.i2l, 1) := by decide +kernel
theorem dL_law_2017 : decode cL_law 2017 = .ok (.lcmp, 1) := by decide +kernel
theorem dL_law_2018 : decode cL_law 2018 = .ok (.ifCond .eq 5, 3) := by decide +kernel
theorem dL_law_2021 : decode cL_law 2021 = .ok (.iconst 0, 1) := by decide +kernel
theorem dL_law_2023 : decode cL_law 2023 = .ok (.goto 495, 3) := by decide +kernel
set_option maxRecDepth 20000 in
theorem ggL_law_L_unseal : GoodIn wsL_law wsL_unseal := goodIn_ca (goodIn_ca (goodIn_ca (goodIn_r _ [1159, 146, 239, 1160, 1161, 1162, 2, 1163, 16, 1078, 1164, 1165, 153, 258, 155, 156, 157, 158, 159, 160, 161, 162, 1141, 1142, 1143, 1144, 1123, 1145, 1146, 1147, 1148, 1140, 22, 259, 260, 261, 262, 263, 264, 21, 265, 266, 267, 268, 269, 270, 90, 91, 1100, 1101, 1102, 1103, 1104, 1105, 1106, 46, 1107, 79, 78, 389, 390, 391, 392, 393, 1369, 1370, 1371, 1372, 1373, 1374, 1375, 1376, 1397, 1398, 1399, 1400, 1401, 1402, 1403, 1404, 1436, 1437, 1438, 1439, 1440, 1441, 1442, 1424, 1425, 1426, 1427, 1428, 1429, 1430, 1431, 1432, 1433, 1434, 1435, 1405, 1406, 1407] (by decide +kernel) (by decide +kernel)) (goodIn_sub (fun _ h => List.mem_append_left _ (List.mem_append_left _ (List.mem_append_left _ (List.mem_append_left _ (List.mem_append_left _ (List.mem_append_right _ h)))))) (by decide +kernel))) (goodIn_sub (fun _ h => List.mem_append_left _ (List.mem_append_left _ (List.mem_append_left _ (List.mem_append_left _ (List.mem_append_right _ h))))) (by decide +kernel))) (goodIn_sub (fun _ h => List.mem_append_left _ (List.mem_append_right _ h)) (by decide +kernel))
set_option maxRecDepth 20000 in
theorem gL_law_L_unseal : GoodIn wsL_law (va_wsS RL 227 yL_unseal wsL_unseal) := goodIn_app (goodIn_of _ (by decide +kernel)) ggL_law_L_unseal
set_option maxRecDepth 20000 in
theorem ggL_law_X9_unseal : GoodIn wsL_law wsX9_unseal := goodIn_ca (goodIn_r _ [1169, 193, 132, 194, 195, 5, 196, 197, 198, 199, 1153, 1154, 1155, 1156, 412, 413, 414, 415, 416, 417, 418, 419, 420, 421, 422, 423, 137, 138, 1377, 1378, 1379, 1380, 1381, 1382, 1383, 1384, 1385, 1386, 1387, 1388, 1389, 1390, 1391, 1392, 1393, 1394, 1395, 1396] (by decide +kernel) (by decide +kernel)) (goodIn_sub (fun _ h => List.mem_append_left _ (List.mem_append_left _ (List.mem_append_left _ (List.mem_append_left _ (List.mem_append_left _ (List.mem_append_right _ h)))))) (by decide +kernel))
set_option maxRecDepth 20000 in
theorem gL_law_X9_unseal : GoodIn wsL_law (wsV RL 229 RX9 yX9_unseal wsX9_unseal) := goodIn_app (goodIn_of _ (by decide +kernel)) ggL_law_X9_unseal
set_option maxHeartbeats 4000000 in
set_option maxRecDepth 100000 in
theorem lc_1958 {p : Program} {e : Env} {s : State} {m : MethodId} {below : List Frame} {meth : Method} {c : Code} (l : Launch) (hfl : l.stackTraces = false) {b L : Nat} {xs : Nat → Int32} {Q : State → Prop} (C0 : lw_At p s m meth c b L xs) {G : zG} {ad : Nat → Nat} {σ' : zs} (C1 S1 : Nat) (hC : C1 + 28 ≤ 601024) (hS1 : S1 + 2612 ≤ 7293034) (K23 : zs → Int32 → Option (Int32 × zs)) (hK23 : ∀ (σ : zs) (v4 : Int32) (H : Heap) (locs : List Loc) (ls : Array Slot), K23 σ v4 = some (1, σ') → xB (fun q : Nat => s.heap.size ≤ q) s G ad σ H locs → lv_has ls 7 [(0, .ref b), (1, .ref (ad 0)), (2, .ref (ad 65)), (3, .ref (ad 75)), (4, .int v4)] → W p l e room_1 s m #[Value.ref b] below meth c H locs (C1 + 28) (S1 + 2612) Q (F0 m 23 ls [])) (σ : zs) (v4 : Int32) (H : Heap) (locs : List Loc) (ls : Array Slot) (hf : f_L_law_1958 L xs K23 σ v4 = some (1, σ')) (B : xB (fun q : Nat => s.heap.size ≤ q) s G ad σ H locs) (hl : lv_has ls 7 [(0, .ref b), (1, .ref (ad 0)), (2, .ref (ad 65)), (3, .ref (ad 75)), (4, .int v4)]) : W p l e room_1 s m #[Value.ref b] below meth c H locs C1 S1 Q (F0 m 1958 ls []) := by
  obtain ⟨hx, hb, hr, hml, hown, hts0, hX, hbl, hlocks, hgv⟩ := id C0
  have hts := fun w h => hts0 w (wsL_law_in w h)
  have hbA : ¬ (fun q : Nat => s.heap.size ≤ q) b := Nat.not_le.mpr hbl
  unfold f_L_law_1958 at hf
  refine lv_aload_n hx hb dL_law_1958 rfl (lv_at hl 1 rfl) ?_
  refine lv_aload_n hx hb dL_law_1959 rfl (lv_at hl 0 rfl) ?_
  refine lv_iload hx hb dL_law_1960 (lv_at hl 4 rfl) ?_
  refine lv_iconst (v := (1 : Int32)) hx hb dL_law_1962 (by decide) ?_
  refine lv_iadd hx hb dL_law_1963 ?_
  obtain ⟨hg, hf⟩ := zg_some hf
  refine va_sld hx hb hX hbl hbA (xS B) (zin_ok hg) dL_law_1964 ?_
  refine lv_aload_n hx hb dL_law_1965 rfl (lv_at hl 0 rfl) ?_
  refine lv_iload hx hb dL_law_1966 (lv_at hl 4 rfl) ?_
  refine lv_iconst (v := (2 : Int32)) hx hb dL_law_1968 (by decide) ?_
  refine lv_iadd hx hb dL_law_1969 ?_
  obtain ⟨hg, hf⟩ := zg_some hf
  refine va_sld hx hb hX hbl hbA (xS B) (zin_ok hg) dL_law_1970 ?_
  refine lv_aload_n hx hb dL_law_1971 rfl (lv_at hl 3 rfl) ?_
  obtain ⟨r2, σ3, hu1, hf⟩ := zb_some hf
  refine x_i B (fun nb a g hs Bz => vx_runSW (As := [.ref (ad 0), .int (xs (v4 + (1 : Int32)).toNatClampNeg), .int (xs (v4 + (2 : Int32)).toNatClampNeg), .ref (ad 75)]) (rest := []) ⟨hx, hb, hml, hown, hts⟩ (c_L_unseal_0_75 l hfl hu1 _ nb a g hs) (vx_cwSW 4 hts gL_law_L_unseal rfl rfl rfl (by decide +kernel) ⟨Nat.le_of_ble_eq_true rfl, Nat.le_of_ble_eq_true rfl⟩) (z_preS Bz) rfl rfl hl.1 rfl (lv_room (Nat.le_of_ble_eq_true rfl)) dL_law_1972 ⟨(show C1 + 3 ≤ 601024 by omega), (show S1 + 18 ≤ 7293034 by omega)⟩) (fun H locs B => ?_)
  refine lv_istore (lv' := [(5, .int r2), (0, .ref b), (1, .ref (ad 0)), (2, .ref (ad 65)), (3, .ref (ad 75)), (4, .int v4)]) hx hb dL_law_1975 hl (by decide) rfl (fun ls hl => ?_)
  refine lv_aload_n hx hb dL_law_1977 rfl (lv_at hl 3 rfl) ?_
  refine lv_aload_n hx hb dL_law_1978 rfl (lv_at hl 1 rfl) ?_
  refine lv_iload hx hb dL_law_1979 (lv_at hl 5 rfl) ?_
  refine lv_iconst (v := (1 : Int32)) hx hb dL_law_1981 (by decide) ?_
  refine lv_iadd hx hb dL_law_1982 ?_
  obtain ⟨hg, hf⟩ := zg_some hf
  refine va_sld hx hb hX hbl hbA (xS B) (zin_ok hg) dL_law_1983 ?_
  refine lv_aload_n hx hb dL_law_1984 rfl (lv_at hl 1 rfl) ?_
  refine lv_iload hx hb dL_law_1985 (lv_at hl 5 rfl) ?_
  refine lv_iconst (v := (2 : Int32)) hx hb dL_law_1987 (by decide) ?_
  refine lv_iadd hx hb dL_law_1988 ?_
  obtain ⟨hg, hf⟩ := zg_some hf
  refine va_sld hx hb hX hbl hbA (xS B) (zin_ok hg) dL_law_1989 ?_
  obtain ⟨r5, σ6, hu4, hf⟩ := zb_some hf
  refine x_i B (fun nb a g hs Bz => va_runV (As := [.int (xs (v4 + (1 : Int32)).toNatClampNeg), .int (xs (v4 + (2 : Int32)).toNatClampNeg)]) (rest := []) ⟨hx, hb, hml, hown, hts⟩ (c_X9_unseal l hu4 _ nb a g hs) (cwV 2 hts gL_law_X9_unseal rfl rfl rfl (by decide +kernel) ⟨Nat.le_of_ble_eq_true rfl, Nat.le_of_ble_eq_true rfl⟩) (x_preV Bz (by decide) (fun _ => rfl) rfl) rfl rfl hl.1 rfl (lv_room (Nat.le_of_ble_eq_true rfl)) dL_law_1990 ⟨(show C1 + 3 + 0 ≤ 601024 by omega), (show S1 + 18 + 0 ≤ 7293034 by omega)⟩) (fun H locs B => ?_)
  refine lv_istore (lv' := [(6, .int r5), (5, .int r2), (0, .ref b), (1, .ref (ad 0)), (2, .ref (ad 65)), (3, .ref (ad 75)), (4, .int v4)]) hx hb dL_law_1993 hl (by decide) rfl (fun ls hl => ?_)
  refine lv_aload_n hx hb dL_law_1995 rfl (lv_at hl 4 rfl) ?_
  obtain ⟨r8, σ9, hu7, hf⟩ := zb_some hf
  refine x_i B (fun nb a g hs Bz => va_runV (As := []) (rest := []) ⟨hx, hb, hml, hown, hts⟩ (c_X9_thrown l hu7 _ nb a g hs) (cwV 0 hts gL_law_X9_thrown rfl rfl rfl (by decide +kernel) ⟨Nat.le_of_ble_eq_true rfl, Nat.le_of_ble_eq_true rfl⟩) (x_preV Bz (by decide) (fun _ => rfl) rfl) rfl rfl hl.1 rfl (lv_room (Nat.le_of_ble_eq_true rfl)) dL_law_1996 ⟨(show C1 + 3 + 0 + 0 ≤ 601024 by omega), (show S1 + 18 + 0 + 0 ≤ 7293034 by omega)⟩) (fun H locs B => ?_)
  refine lv_iload hx hb dL_law_1999 (lv_at hl 1 rfl) ?_
  refine lv_icmp_eq (tgt := 2006) hx hb dL_law_2001 (by decide) (fun hc => ?_) (fun hc => ?_)
  · have hf := zif_t hc hf
    refine lv_iload hx hb dL_law_2006 (lv_at hl 1 rfl) ?_
    refine lv_if_ne (tgt := 2023) hx hb dL_law_2008 (by decide) (fun hc => ?_) (fun hc => ?_)
    · have hf := zif_f hc hf
      refine lv_goto (tgt := 2518) hx hb dL_law_2023 (by decide) ?_
      refine lv_iinc (v := (v4 + (5 : Int32))) (lv' := [(4, .int (v4 + (5 : Int32))), (6, .int r5), (5, .int r2), (0, .ref b), (1, .ref (ad 0)), (2, .ref (ad 65)), (3, .ref (ad 75))]) hx hb dL_law_2518 hl (k := 6) rfl (zc1 (by decide)) (by decide) rfl (fun ls hl => ?_)
      refine lv_goto (tgt := 23) hx hb dL_law_2521 (by decide) ?_
      refine W.widen (k := C1 + 28) (n := S1 + 2612) (show C1 + 3 + 0 + 0 ≤ C1 + 28 by omega) (show S1 + 18 + 0 + 0 ≤ S1 + 2612 by omega) ?_
      exact hK23 _ _ _ _ _ hf B (lv_sub hl [3, 4, 5, 6, 0] rfl)
    · have hf := zif_t hc hf
      refine lv_aload_n hx hb dL_law_2011 rfl (lv_at hl 5 rfl) ?_
      refine lv_iconst (v := (0 : Int32)) hx hb dL_law_2012 (by decide) ?_
      obtain ⟨hg, hf⟩ := zg_some hf
      refine x_lald hx hb B 75 (by decide) (fun _ => rfl) (zin_ok hg) dL_law_2013 ?_
      refine lv_iload hx hb dL_law_2014 (lv_at hl 0 rfl) ?_
      refine lv_i2l (v := r5.toInt64) hx hb dL_law_2016 rfl ?_
      refine W.lcmp hx hb dL_law_2017 ?_
      refine lv_if_eq (tgt := 2023) hx hb dL_law_2018 (by decide) (fun hc => ?_) (fun hc => ?_)
      · have hf := zif_t hc hf
        refine lv_goto (tgt := 2518) hx hb dL_law_2023 (by decide) ?_
        refine lv_iinc (v := (v4 + (5 : Int32))) (lv' := [(4, .int (v4 + (5 : Int32))), (6, .int r5), (5, .int r2), (0, .ref b), (1, .ref (ad 0)), (2, .ref (ad 65)), (3, .ref (ad 75))]) hx hb dL_law_2518 hl (k := 6) rfl (zc1 (by decide)) (by decide) rfl (fun ls hl => ?_)
        refine lv_goto (tgt := 23) hx hb dL_law_2521 (by decide) ?_
        refine W.widen (k := C1 + 28) (n := S1 + 2612) (show C1 + 3 + 0 + 0 ≤ C1 + 28 by omega) (show S1 + 18 + 0 + 0 ≤ S1 + 2612 by omega) ?_
        exact hK23 _ _ _ _ _ hf B (lv_sub hl [3, 4, 5, 6, 0] rfl)
      · have hf := zif_f hc hf
        refine lv_iconst (v := (0 : Int32)) hx hb dL_law_2021 (by decide) ?_
        exact absurd (show (0 : Int32) = 1 from congrArg Prod.fst (Option.some.inj hf)) (by decide)
  · have hf := zif_f hc hf
    refine lv_iconst (v := (0 : Int32)) hx hb dL_law_2004 (by decide) ?_
    exact absurd (show (0 : Int32) = 1 from congrArg Prod.fst (Option.some.inj hf)) (by decide)
theorem dL_law_2026 : decode cL_law 2026 = .ok (.aload_n 1, 1) := by decide +kernel
theorem dL_law_2027 : decode cL_law 2027 = .ok (.aload_n 0, 1) := by decide +kernel
theorem dL_law_2028 : decode cL_law 2028 = .ok (.iload 4, 2) := by decide +kernel
theorem dL_law_2030 : decode cL_law 2030 = .ok (.iconst 1, 1) := by decide +kernel
theorem dL_law_2031 : decode cL_law 2031 = .ok (.iadd, 1) := by decide +kernel
theorem dL_law_2032 : decode cL_law 2032 = .ok (.iaload, 1) := by decide +kernel
theorem dL_law_2033 : decode cL_law 2033 = .ok (.aload_n 3, 1) := by decide +kernel
theorem dL_law_2034 : decode cL_law 2034 = .ok (.invokestatic 230, 3) := by decide +kernel
theorem dL_law_2037 : decode cL_law 2037 = .ok (.istore 5, 2) := by decide +kernel
theorem dL_law_2039 : decode cL_law 2039 = .ok (.aload_n 2, 1) := by decide +kernel
theorem dL_law_2040 : decode cL_law 2040 = .ok (.aload_n 0, 1) := by decide +kernel
theorem dL_law_2041 : decode cL_law 2041 = .ok (.iload 4, 2) := by decide +kernel
theorem dL_law_2043 : decode cL_law 2043 = .ok (.iconst 1, 1) := by decide +kernel
theorem dL_law_2044 : decode cL_law 2044 = .ok (.iadd, 1) := by decide +kernel
theorem dL_law_2045 : decode cL_law 2045 = .ok (.iaload, 1) := by decide +kernel
theorem dL_law_2046 : decode cL_law 2046 = .ok (.invokevirtual 232, 3) := by decide +kernel
theorem dL_law_2049 : decode cL_law 2049 = .ok (.istore 6, 2) := by decide +kernel
theorem dL_law_2051 : decode cL_law 2051 = .ok (.aload_n 2, 1) := by decide +kernel
theorem dL_law_2052 : decode cL_law 2052 = .ok (.invokevirtual 139, 3) := by decide +kernel
theorem dL_law_2055 : decode cL_law 2055 = .ok (.iload 5, 2) := by decide +kernel
theorem dL_law_2057 : decode cL_law 2057 = .ok (.if_icmp .eq 5, 3) := by decide +kernel
theorem dL_law_2060 : decode cL_law 2060 = .ok (.iconst 0, 1) := by decide +kernel
theorem dL_law_2062 : decode cL_law 2062 = .ok (.iload 5, 2) := by decide +kernel
theorem dL_law_2064 : decode cL_law 2064 = .ok (.ifCond .ne 15, 3) := by decide +kernel
theorem dL_law_2067 : decode cL_law 2067 = .ok (.aload_n 3, 1) := by decide +kernel
theorem dL_law_2068 : decode cL_law 2068 = .ok (.iconst 0, 1) := by decide +kernel
theorem dL_law_2069 : decode cL_law 2069 = .ok (.laload, 1) := by decide +kernel
theorem dL_law_2070 : decode cL_law 2070 = .ok (.iload 6, 2) := by decide +kernel
theorem dL_law_2072 : decode cL_law 2072 = .ok (.i2l, 1) := by decide +kernel
theorem dL_law_2073 : decode cL_law 2073 = .ok (.lcmp, 1) := by decide +kernel
theorem dL_law_2074 : decode cL_law 2074 = .ok (.ifCond .eq 5, 3) := by decide +kernel
theorem dL_law_2077 : decode cL_law 2077 = .ok (.iconst 0, 1) := by decide +kernel
theorem dL_law_2079 : decode cL_law 2079 = .ok (.goto 439, 3) := by decide +kernel
set_option maxRecDepth 20000 in
theorem ggL_law_L_pairOf : GoodIn wsL_law wsL_pairOf := goodIn_ca (goodIn_ca (goodIn_r _ [1172, 146, 1173, 1174, 1175, 2, 1176, 16, 1078, 1164, 1141, 1142, 1143, 1144, 1123, 158, 159, 160, 161, 162, 1369, 1370, 1371, 1372, 1373, 1374, 1375, 1376, 1397, 1398, 1399, 1400, 1401, 1402, 1403, 1404, 1436, 1437, 1438, 1439, 1440, 1441, 1442] (by decide +kernel) (by decide +kernel)) (goodIn_sub (fun _ h => List.mem_append_left _ (List.mem_append_left _ (List.mem_append_left _ (List.mem_append_left _ (List.mem_append_left _ (List.mem_append_right _ h)))))) (by decide +kernel))) (goodIn_sub (fun _ h => List.mem_append_left _ (List.mem_append_left _ (List.mem_append_left _ (List.mem_append_left _ (List.mem_append_right _ h))))) (by decide +kernel))
set_option maxRecDepth 20000 in
theorem gL_law_L_pairOf : GoodIn wsL_law (va_wsS RL 230 yL_pairOf wsL_pairOf) := goodIn_app (goodIn_of _ (by decide +kernel)) ggL_law_L_pairOf
set_option maxRecDepth 20000 in
theorem ggL_law_X9_pairOf : GoodIn wsL_law wsX9_pairOf := goodIn_ca (goodIn_r _ [1180, 193, 132, 1153, 1154, 1155, 5, 1156, 197, 198, 199, 1377, 1378, 1379, 1380, 1381, 1382, 1383, 1384, 1385, 1386, 1387, 1388, 1389, 1390, 1391, 1392, 1393, 1394, 1395, 1396] (by decide +kernel) (by decide +kernel)) (goodIn_sub (fun _ h => List.mem_append_left _ (List.mem_append_left _ (List.mem_append_left _ (List.mem_append_left _ (List.mem_append_left _ (List.mem_append_right _ h)))))) (by decide +kernel))
set_option maxRecDepth 20000 in
theorem gL_law_X9_pairOf : GoodIn wsL_law (wsV RL 232 RX9 yX9_pairOf wsX9_pairOf) := goodIn_app (goodIn_of _ (by decide +kernel)) ggL_law_X9_pairOf
set_option maxHeartbeats 4000000 in
set_option maxRecDepth 100000 in
theorem lc_2026 {p : Program} {e : Env} {s : State} {m : MethodId} {below : List Frame} {meth : Method} {c : Code} (l : Launch) (hfl : l.stackTraces = false) {b L : Nat} {xs : Nat → Int32} {Q : State → Prop} (C0 : lw_At p s m meth c b L xs) {G : zG} {ad : Nat → Nat} {σ' : zs} (C1 S1 : Nat) (hC : C1 + 28 ≤ 601024) (hS1 : S1 + 2612 ≤ 7293034) (K23 : zs → Int32 → Option (Int32 × zs)) (hK23 : ∀ (σ : zs) (v4 : Int32) (H : Heap) (locs : List Loc) (ls : Array Slot), K23 σ v4 = some (1, σ') → xB (fun q : Nat => s.heap.size ≤ q) s G ad σ H locs → lv_has ls 7 [(0, .ref b), (1, .ref (ad 0)), (2, .ref (ad 65)), (3, .ref (ad 75)), (4, .int v4)] → W p l e room_1 s m #[Value.ref b] below meth c H locs (C1 + 28) (S1 + 2612) Q (F0 m 23 ls [])) (σ : zs) (v4 : Int32) (H : Heap) (locs : List Loc) (ls : Array Slot) (hf : f_L_law_2026 L xs K23 σ v4 = some (1, σ')) (B : xB (fun q : Nat => s.heap.size ≤ q) s G ad σ H locs) (hl : lv_has ls 7 [(0, .ref b), (1, .ref (ad 0)), (2, .ref (ad 65)), (3, .ref (ad 75)), (4, .int v4)]) : W p l e room_1 s m #[Value.ref b] below meth c H locs C1 S1 Q (F0 m 2026 ls []) := by
  obtain ⟨hx, hb, hr, hml, hown, hts0, hX, hbl, hlocks, hgv⟩ := id C0
  have hts := fun w h => hts0 w (wsL_law_in w h)
  have hbA : ¬ (fun q : Nat => s.heap.size ≤ q) b := Nat.not_le.mpr hbl
  unfold f_L_law_2026 at hf
  refine lv_aload_n hx hb dL_law_2026 rfl (lv_at hl 1 rfl) ?_
  refine lv_aload_n hx hb dL_law_2027 rfl (lv_at hl 0 rfl) ?_
  refine lv_iload hx hb dL_law_2028 (lv_at hl 4 rfl) ?_
  refine lv_iconst (v := (1 : Int32)) hx hb dL_law_2030 (by decide) ?_
  refine lv_iadd hx hb dL_law_2031 ?_
  obtain ⟨hg, hf⟩ := zg_some hf
  refine va_sld hx hb hX hbl hbA (xS B) (zin_ok hg) dL_law_2032 ?_
  refine lv_aload_n hx hb dL_law_2033 rfl (lv_at hl 3 rfl) ?_
  obtain ⟨r2, σ3, hu1, hf⟩ := zb_some hf
  refine x_i B (fun nb a g hs Bz => vx_runSW (As := [.ref (ad 0), .int (xs (v4 + (1 : Int32)).toNatClampNeg), .ref (ad 75)]) (rest := []) ⟨hx, hb, hml, hown, hts⟩ (c_L_pairOf_0_75 l hfl hu1 _ nb a g hs) (vx_cwSW 3 hts gL_law_L_pairOf rfl rfl rfl (by decide +kernel) ⟨Nat.le_of_ble_eq_true rfl, Nat.le_of_ble_eq_true rfl⟩) (z_preS Bz) rfl rfl hl.1 rfl (lv_room (Nat.le_of_ble_eq_true rfl)) dL_law_2034 ⟨(show C1 + 1 ≤ 601024 by omega), (show S1 + 6 ≤ 7293034 by omega)⟩) (fun H locs B => ?_)
  refine lv_istore (lv' := [(5, .int r2), (0, .ref b), (1, .ref (ad 0)), (2, .ref (ad 65)), (3, .ref (ad 75)), (4, .int v4)]) hx hb dL_law_2037 hl (by decide) rfl (fun ls hl => ?_)
  refine lv_aload_n hx hb dL_law_2039 rfl (lv_at hl 3 rfl) ?_
  refine lv_aload_n hx hb dL_law_2040 rfl (lv_at hl 1 rfl) ?_
  refine lv_iload hx hb dL_law_2041 (lv_at hl 5 rfl) ?_
  refine lv_iconst (v := (1 : Int32)) hx hb dL_law_2043 (by decide) ?_
  refine lv_iadd hx hb dL_law_2044 ?_
  obtain ⟨hg, hf⟩ := zg_some hf
  refine va_sld hx hb hX hbl hbA (xS B) (zin_ok hg) dL_law_2045 ?_
  obtain ⟨r5, σ6, hu4, hf⟩ := zb_some hf
  refine x_i B (fun nb a g hs Bz => va_runV (As := [.int (xs (v4 + (1 : Int32)).toNatClampNeg)]) (rest := []) ⟨hx, hb, hml, hown, hts⟩ (c_X9_pairOf l hu4 _ nb a g hs) (cwV 1 hts gL_law_X9_pairOf rfl rfl rfl (by decide +kernel) ⟨Nat.le_of_ble_eq_true rfl, Nat.le_of_ble_eq_true rfl⟩) (x_preV Bz (by decide) (fun _ => rfl) rfl) rfl rfl hl.1 rfl (lv_room (Nat.le_of_ble_eq_true rfl)) dL_law_2046 ⟨(show C1 + 1 + 0 ≤ 601024 by omega), (show S1 + 6 + 0 ≤ 7293034 by omega)⟩) (fun H locs B => ?_)
  refine lv_istore (lv' := [(6, .int r5), (5, .int r2), (0, .ref b), (1, .ref (ad 0)), (2, .ref (ad 65)), (3, .ref (ad 75)), (4, .int v4)]) hx hb dL_law_2049 hl (by decide) rfl (fun ls hl => ?_)
  refine lv_aload_n hx hb dL_law_2051 rfl (lv_at hl 4 rfl) ?_
  obtain ⟨r8, σ9, hu7, hf⟩ := zb_some hf
  refine x_i B (fun nb a g hs Bz => va_runV (As := []) (rest := []) ⟨hx, hb, hml, hown, hts⟩ (c_X9_thrown l hu7 _ nb a g hs) (cwV 0 hts gL_law_X9_thrown rfl rfl rfl (by decide +kernel) ⟨Nat.le_of_ble_eq_true rfl, Nat.le_of_ble_eq_true rfl⟩) (x_preV Bz (by decide) (fun _ => rfl) rfl) rfl rfl hl.1 rfl (lv_room (Nat.le_of_ble_eq_true rfl)) dL_law_2052 ⟨(show C1 + 1 + 0 + 0 ≤ 601024 by omega), (show S1 + 6 + 0 + 0 ≤ 7293034 by omega)⟩) (fun H locs B => ?_)
  refine lv_iload hx hb dL_law_2055 (lv_at hl 1 rfl) ?_
  refine lv_icmp_eq (tgt := 2062) hx hb dL_law_2057 (by decide) (fun hc => ?_) (fun hc => ?_)
  · have hf := zif_t hc hf
    refine lv_iload hx hb dL_law_2062 (lv_at hl 1 rfl) ?_
    refine lv_if_ne (tgt := 2079) hx hb dL_law_2064 (by decide) (fun hc => ?_) (fun hc => ?_)
    · have hf := zif_f hc hf
      refine lv_goto (tgt := 2518) hx hb dL_law_2079 (by decide) ?_
      refine lv_iinc (v := (v4 + (5 : Int32))) (lv' := [(4, .int (v4 + (5 : Int32))), (6, .int r5), (5, .int r2), (0, .ref b), (1, .ref (ad 0)), (2, .ref (ad 65)), (3, .ref (ad 75))]) hx hb dL_law_2518 hl (k := 6) rfl (zc1 (by decide)) (by decide) rfl (fun ls hl => ?_)
      refine lv_goto (tgt := 23) hx hb dL_law_2521 (by decide) ?_
      refine W.widen (k := C1 + 28) (n := S1 + 2612) (show C1 + 1 + 0 + 0 ≤ C1 + 28 by omega) (show S1 + 6 + 0 + 0 ≤ S1 + 2612 by omega) ?_
      exact hK23 _ _ _ _ _ hf B (lv_sub hl [3, 4, 5, 6, 0] rfl)
    · have hf := zif_t hc hf
      refine lv_aload_n hx hb dL_law_2067 rfl (lv_at hl 5 rfl) ?_
      refine lv_iconst (v := (0 : Int32)) hx hb dL_law_2068 (by decide) ?_
      obtain ⟨hg, hf⟩ := zg_some hf
      refine x_lald hx hb B 75 (by decide) (fun _ => rfl) (zin_ok hg) dL_law_2069 ?_
      refine lv_iload hx hb dL_law_2070 (lv_at hl 0 rfl) ?_
      refine lv_i2l (v := r5.toInt64) hx hb dL_law_2072 rfl ?_
      refine W.lcmp hx hb dL_law_2073 ?_
      refine lv_if_eq (tgt := 2079) hx hb dL_law_2074 (by decide) (fun hc => ?_) (fun hc => ?_)
      · have hf := zif_t hc hf
        refine lv_goto (tgt := 2518) hx hb dL_law_2079 (by decide) ?_
        refine lv_iinc (v := (v4 + (5 : Int32))) (lv' := [(4, .int (v4 + (5 : Int32))), (6, .int r5), (5, .int r2), (0, .ref b), (1, .ref (ad 0)), (2, .ref (ad 65)), (3, .ref (ad 75))]) hx hb dL_law_2518 hl (k := 6) rfl (zc1 (by decide)) (by decide) rfl (fun ls hl => ?_)
        refine lv_goto (tgt := 23) hx hb dL_law_2521 (by decide) ?_
        refine W.widen (k := C1 + 28) (n := S1 + 2612) (show C1 + 1 + 0 + 0 ≤ C1 + 28 by omega) (show S1 + 6 + 0 + 0 ≤ S1 + 2612 by omega) ?_
        exact hK23 _ _ _ _ _ hf B (lv_sub hl [3, 4, 5, 6, 0] rfl)
      · have hf := zif_f hc hf
        refine lv_iconst (v := (0 : Int32)) hx hb dL_law_2077 (by decide) ?_
        exact absurd (show (0 : Int32) = 1 from congrArg Prod.fst (Option.some.inj hf)) (by decide)
  · have hf := zif_f hc hf
    refine lv_iconst (v := (0 : Int32)) hx hb dL_law_2060 (by decide) ?_
    exact absurd (show (0 : Int32) = 1 from congrArg Prod.fst (Option.some.inj hf)) (by decide)
