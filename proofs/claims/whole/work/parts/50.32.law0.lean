theorem dL_law_200 : decode cL_law 200 = .ok (.aload_n 1, 1) := by decide +kernel
theorem dL_law_201 : decode cL_law 201 = .ok (.aload_n 0, 1) := by decide +kernel
theorem dL_law_202 : decode cL_law 202 = .ok (.iload 4, 2) := by decide +kernel
theorem dL_law_204 : decode cL_law 204 = .ok (.iconst 1, 1) := by decide +kernel
theorem dL_law_205 : decode cL_law 205 = .ok (.iadd, 1) := by decide +kernel
theorem dL_law_206 : decode cL_law 206 = .ok (.iaload, 1) := by decide +kernel
theorem dL_law_207 : decode cL_law 207 = .ok (.aload_n 0, 1) := by decide +kernel
theorem dL_law_208 : decode cL_law 208 = .ok (.iload 4, 2) := by decide +kernel
theorem dL_law_210 : decode cL_law 210 = .ok (.iconst 2, 1) := by decide +kernel
theorem dL_law_211 : decode cL_law 211 = .ok (.iadd, 1) := by decide +kernel
theorem dL_law_212 : decode cL_law 212 = .ok (.iaload, 1) := by decide +kernel
theorem dL_law_213 : decode cL_law 213 = .ok (.aload_n 0, 1) := by decide +kernel
theorem dL_law_214 : decode cL_law 214 = .ok (.iload 4, 2) := by decide +kernel
theorem dL_law_216 : decode cL_law 216 = .ok (.iconst 3, 1) := by decide +kernel
theorem dL_law_217 : decode cL_law 217 = .ok (.iadd, 1) := by decide +kernel
theorem dL_law_218 : decode cL_law 218 = .ok (.iaload, 1) := by decide +kernel
theorem dL_law_219 : decode cL_law 219 = .ok (.aload_n 3, 1) := by decide +kernel
theorem dL_law_220 : decode cL_law 220 = .ok (.invokestatic 133, 3) := by decide +kernel
theorem dL_law_223 : decode cL_law 223 = .ok (.istore 5, 2) := by decide +kernel
theorem dL_law_225 : decode cL_law 225 = .ok (.aload_n 2, 1) := by decide +kernel
theorem dL_law_226 : decode cL_law 226 = .ok (.aload_n 0, 1) := by decide +kernel
theorem dL_law_227 : decode cL_law 227 = .ok (.iload 4, 2) := by decide +kernel
theorem dL_law_229 : decode cL_law 229 = .ok (.iconst 1, 1) := by decide +kernel
theorem dL_law_230 : decode cL_law 230 = .ok (.iadd, 1) := by decide +kernel
theorem dL_law_231 : decode cL_law 231 = .ok (.iaload, 1) := by decide +kernel
theorem dL_law_232 : decode cL_law 232 = .ok (.aload_n 0, 1) := by decide +kernel
theorem dL_law_233 : decode cL_law 233 = .ok (.iload 4, 2) := by decide +kernel
theorem dL_law_235 : decode cL_law 235 = .ok (.iconst 2, 1) := by decide +kernel
theorem dL_law_236 : decode cL_law 236 = .ok (.iadd, 1) := by decide +kernel
theorem dL_law_237 : decode cL_law 237 = .ok (.iaload, 1) := by decide +kernel
theorem dL_law_238 : decode cL_law 238 = .ok (.aload_n 0, 1) := by decide +kernel
theorem dL_law_239 : decode cL_law 239 = .ok (.iload 4, 2) := by decide +kernel
theorem dL_law_241 : decode cL_law 241 = .ok (.iconst 3, 1) := by decide +kernel
theorem dL_law_242 : decode cL_law 242 = .ok (.iadd, 1) := by decide +kernel
theorem dL_law_243 : decode cL_law 243 = .ok (.iaload, 1) := by decide +kernel
theorem dL_law_244 : decode cL_law 244 = .ok (.invokevirtual 138, 3) := by decide +kernel
theorem dL_law_247 : decode cL_law 247 = .ok (.istore 6, 2) := by decide +kernel
theorem dL_law_249 : decode cL_law 249 = .ok (.aload_n 2, 1) := by decide +kernel
theorem dL_law_250 : decode cL_law 250 = .ok (.invokevirtual 139, 3) := by decide +kernel
theorem dL_law_253 : decode cL_law 253 = .ok (.iload 5, 2) := by decide +kernel
theorem dL_law_255 : decode cL_law 255 = .ok (.if_icmp .eq 5, 3) := by decide +kernel
theorem dL_law_258 : decode cL_law 258 = .ok (.iconst 0, 1) := by decide +kernel
theorem dL_law_260 : decode cL_law 260 = .ok (.iload 5, 2) := by decide +kernel
theorem dL_law_262 : decode cL_law 262 = .ok (.ifCond .ne 15, 3) := by decide +kernel
theorem dL_law_265 : decode cL_law 265 = .ok (.aload_n 3, 1) := by decide +kernel
theorem dL_law_266 : decode cL_law 266 = .ok (.iconst 0, 1) := by decide +kernel
theorem dL_law_267 : decode cL_law 267 = .ok (.laload, 1) := by decide +kernel
theorem dL_law_268 : decode cL_law 268 = .ok (.iload 6, 2) := by decide +kernel
theorem dL_law_270 : decode cL_law 270 = .ok (.i2l, 1) := by decide +kernel
theorem dL_law_271 : decode cL_law 271 = .ok (.lcmp, 1) := by decide +kernel
theorem dL_law_272 : decode cL_law 272 = .ok (.ifCond .eq 5, 3) := by decide +kernel
theorem dL_law_275 : decode cL_law 275 = .ok (.iconst 0, 1) := by decide +kernel
theorem dL_law_277 : decode cL_law 277 = .ok (.goto 2241, 3) := by decide +kernel
theorem dL_law_2518 : decode cL_law 2518 = .ok (.iinc 4 5, 3) := by decide +kernel
theorem dL_law_2521 : decode cL_law 2521 = .ok (.goto (-2498), 3) := by decide +kernel
set_option maxRecDepth 20000 in
theorem ggL_law_L_mint : GoodIn wsL_law wsL_mint := goodIn_ca (goodIn_ca (goodIn_ca (goodIn_ca (goodIn_r _ [145, 146, 147, 148, 149, 150, 151, 2, 152, 16, 153, 154, 155, 156, 157, 158, 159, 160, 161, 162, 163, 164, 165, 166, 167, 168, 169, 170, 171, 172, 173, 174, 175, 176, 177, 178, 42, 179, 180, 58, 59, 60, 181, 182, 183, 184, 61, 62, 63, 64, 185, 186, 187, 188, 65, 66, 67, 1369, 1370, 1371, 1372, 1373, 1374, 1375, 1376, 1397, 1398, 1399, 1400, 1401, 1402, 1403, 1404, 1424, 1425, 1426, 1427, 1428, 1429, 1430, 1431, 1432, 1433, 1434, 1435] (by decide +kernel) (by decide +kernel)) (goodIn_sub (fun _ h => List.mem_append_left _ (List.mem_append_left _ (List.mem_append_left _ (List.mem_append_left _ (List.mem_append_left _ (List.mem_append_right _ h)))))) (by decide +kernel))) (goodIn_sub (fun _ h => List.mem_append_left _ (List.mem_append_left _ (List.mem_append_left _ (List.mem_append_left _ (List.mem_append_right _ h))))) (by decide +kernel))) (goodIn_sub (fun _ h => List.mem_append_left _ (List.mem_append_left _ (List.mem_append_left _ (List.mem_append_right _ h)))) (by decide +kernel))) (goodIn_sub (fun _ h => List.mem_append_left _ (List.mem_append_left _ (List.mem_append_right _ h))) (by decide +kernel))
set_option maxRecDepth 20000 in
theorem gL_law_L_mint : GoodIn wsL_law (va_wsS RL 133 yL_mint wsL_mint) := goodIn_app (goodIn_of _ (by decide +kernel)) ggL_law_L_mint
set_option maxRecDepth 20000 in
theorem ggL_law_X9_mint : GoodIn wsL_law wsX9_mint := goodIn_ca (goodIn_r _ [192, 132, 193, 194, 195, 5, 196, 197, 198, 199, 200, 201, 202, 203, 204, 205, 206, 207, 208, 209, 210, 1377, 1378, 1379, 1380, 1381, 1382, 1383, 1384, 1385, 1386, 1387, 1388, 1389, 1390, 1391, 1392, 1393, 1394, 1395, 1396] (by decide +kernel) (by decide +kernel)) (goodIn_sub (fun _ h => List.mem_append_left _ (List.mem_append_left _ (List.mem_append_left _ (List.mem_append_left _ (List.mem_append_left _ (List.mem_append_right _ h)))))) (by decide +kernel))
set_option maxRecDepth 20000 in
theorem gL_law_X9_mint : GoodIn wsL_law (wsV RL 138 RX9 yX9_mint wsX9_mint) := goodIn_app (goodIn_of _ (by decide +kernel)) ggL_law_X9_mint
set_option maxRecDepth 20000 in
theorem ggL_law_X9_thrown : GoodIn wsL_law wsX9_thrown := goodIn_r _ [214, 193, 1377, 1378, 1379, 1380, 1381, 1382, 1383, 1384, 1385, 1386, 1387, 1388, 1389, 1390, 1391, 1392, 1393, 1394, 1395, 1396] (by decide +kernel) (by decide +kernel)
set_option maxRecDepth 20000 in
theorem gL_law_X9_thrown : GoodIn wsL_law (wsV RL 139 RX9 yX9_thrown wsX9_thrown) := goodIn_app (goodIn_of _ (by decide +kernel)) ggL_law_X9_thrown
set_option maxHeartbeats 4000000 in
set_option maxRecDepth 100000 in
theorem lc_200 {p : Program} {e : Env} {s : State} {m : MethodId} {below : List Frame} {meth : Method} {c : Code} (l : Launch) (hfl : l.stackTraces = false) {b L : Nat} {xs : Nat → Int32} {Q : State → Prop} (C0 : lw_At p s m meth c b L xs) {G : zG} {ad : Nat → Nat} {σ' : zs} (C1 S1 : Nat) (hC : C1 + 28 ≤ 601024) (hS1 : S1 + 2612 ≤ 7293034) (K23 : zs → Int32 → Option (Int32 × zs)) (hK23 : ∀ (σ : zs) (v4 : Int32) (H : Heap) (locs : List Loc) (ls : Array Slot), K23 σ v4 = some (1, σ') → xB (fun q : Nat => s.heap.size ≤ q) s G ad σ H locs → lv_has ls 7 [(0, .ref b), (1, .ref (ad 0)), (2, .ref (ad 65)), (3, .ref (ad 75)), (4, .int v4)] → W p l e room_1 s m #[Value.ref b] below meth c H locs (C1 + 28) (S1 + 2612) Q (F0 m 23 ls [])) (σ : zs) (v4 : Int32) (H : Heap) (locs : List Loc) (ls : Array Slot) (hf : f_L_law_200 L xs K23 σ v4 = some (1, σ')) (B : xB (fun q : Nat => s.heap.size ≤ q) s G ad σ H locs) (hl : lv_has ls 7 [(0, .ref b), (1, .ref (ad 0)), (2, .ref (ad 65)), (3, .ref (ad 75)), (4, .int v4)]) : W p l e room_1 s m #[Value.ref b] below meth c H locs C1 S1 Q (F0 m 200 ls []) := by
  obtain ⟨hx, hb, hr, hml, hown, hts0, hX, hbl, hlocks, hgv⟩ := id C0
  have hts := fun w h => hts0 w (wsL_law_in w h)
  have hbA : ¬ (fun q : Nat => s.heap.size ≤ q) b := Nat.not_le.mpr hbl
  unfold f_L_law_200 at hf
  refine lv_aload_n hx hb dL_law_200 rfl (lv_at hl 1 rfl) ?_
  refine lv_aload_n hx hb dL_law_201 rfl (lv_at hl 0 rfl) ?_
  refine lv_iload hx hb dL_law_202 (lv_at hl 4 rfl) ?_
  refine lv_iconst (v := (1 : Int32)) hx hb dL_law_204 (by decide) ?_
  refine lv_iadd hx hb dL_law_205 ?_
  obtain ⟨hg, hf⟩ := zg_some hf
  refine va_sld hx hb hX hbl hbA (xS B) (zin_ok hg) dL_law_206 ?_
  refine lv_aload_n hx hb dL_law_207 rfl (lv_at hl 0 rfl) ?_
  refine lv_iload hx hb dL_law_208 (lv_at hl 4 rfl) ?_
  refine lv_iconst (v := (2 : Int32)) hx hb dL_law_210 (by decide) ?_
  refine lv_iadd hx hb dL_law_211 ?_
  obtain ⟨hg, hf⟩ := zg_some hf
  refine va_sld hx hb hX hbl hbA (xS B) (zin_ok hg) dL_law_212 ?_
  refine lv_aload_n hx hb dL_law_213 rfl (lv_at hl 0 rfl) ?_
  refine lv_iload hx hb dL_law_214 (lv_at hl 4 rfl) ?_
  refine lv_iconst (v := (3 : Int32)) hx hb dL_law_216 (by decide) ?_
  refine lv_iadd hx hb dL_law_217 ?_
  obtain ⟨hg, hf⟩ := zg_some hf
  refine va_sld hx hb hX hbl hbA (xS B) (zin_ok hg) dL_law_218 ?_
  refine lv_aload_n hx hb dL_law_219 rfl (lv_at hl 3 rfl) ?_
  obtain ⟨r2, σ3, hu1, hf⟩ := zb_some hf
  refine x_i B (fun nb a g hs Bz => vx_runSW (As := [.ref (ad 0), .int (xs (v4 + (1 : Int32)).toNatClampNeg), .int (xs (v4 + (2 : Int32)).toNatClampNeg), .int (xs (v4 + (3 : Int32)).toNatClampNeg), .ref (ad 75)]) (rest := []) ⟨hx, hb, hml, hown, hts⟩ (c_L_mint_0_75 l hfl hu1 _ nb a g hs) (vx_cwSW 5 hts gL_law_L_mint rfl rfl rfl (by decide +kernel) ⟨Nat.le_of_ble_eq_true rfl, Nat.le_of_ble_eq_true rfl⟩) (z_preS Bz) rfl rfl hl.1 rfl (lv_room (Nat.le_of_ble_eq_true rfl)) dL_law_220 ⟨(show C1 + 4 ≤ 601024 by omega), (show S1 + 24 ≤ 7293034 by omega)⟩) (fun H locs B => ?_)
  refine lv_istore (lv' := [(5, .int r2), (0, .ref b), (1, .ref (ad 0)), (2, .ref (ad 65)), (3, .ref (ad 75)), (4, .int v4)]) hx hb dL_law_223 hl (by decide) rfl (fun ls hl => ?_)
  refine lv_aload_n hx hb dL_law_225 rfl (lv_at hl 3 rfl) ?_
  refine lv_aload_n hx hb dL_law_226 rfl (lv_at hl 1 rfl) ?_
  refine lv_iload hx hb dL_law_227 (lv_at hl 5 rfl) ?_
  refine lv_iconst (v := (1 : Int32)) hx hb dL_law_229 (by decide) ?_
  refine lv_iadd hx hb dL_law_230 ?_
  obtain ⟨hg, hf⟩ := zg_some hf
  refine va_sld hx hb hX hbl hbA (xS B) (zin_ok hg) dL_law_231 ?_
  refine lv_aload_n hx hb dL_law_232 rfl (lv_at hl 1 rfl) ?_
  refine lv_iload hx hb dL_law_233 (lv_at hl 5 rfl) ?_
  refine lv_iconst (v := (2 : Int32)) hx hb dL_law_235 (by decide) ?_
  refine lv_iadd hx hb dL_law_236 ?_
  obtain ⟨hg, hf⟩ := zg_some hf
  refine va_sld hx hb hX hbl hbA (xS B) (zin_ok hg) dL_law_237 ?_
  refine lv_aload_n hx hb dL_law_238 rfl (lv_at hl 1 rfl) ?_
  refine lv_iload hx hb dL_law_239 (lv_at hl 5 rfl) ?_
  refine lv_iconst (v := (3 : Int32)) hx hb dL_law_241 (by decide) ?_
  refine lv_iadd hx hb dL_law_242 ?_
  obtain ⟨hg, hf⟩ := zg_some hf
  refine va_sld hx hb hX hbl hbA (xS B) (zin_ok hg) dL_law_243 ?_
  obtain ⟨r5, σ6, hu4, hf⟩ := zb_some hf
  refine x_i B (fun nb a g hs Bz => va_runV (As := [.int (xs (v4 + (1 : Int32)).toNatClampNeg), .int (xs (v4 + (2 : Int32)).toNatClampNeg), .int (xs (v4 + (3 : Int32)).toNatClampNeg)]) (rest := []) ⟨hx, hb, hml, hown, hts⟩ (c_X9_mint l hu4 _ nb a g hs) (cwV 3 hts gL_law_X9_mint rfl rfl rfl (by decide +kernel) ⟨Nat.le_of_ble_eq_true rfl, Nat.le_of_ble_eq_true rfl⟩) (x_preV Bz (by decide) (fun _ => rfl) rfl) rfl rfl hl.1 rfl (lv_room (Nat.le_of_ble_eq_true rfl)) dL_law_244 ⟨(show C1 + 4 + 0 ≤ 601024 by omega), (show S1 + 24 + 0 ≤ 7293034 by omega)⟩) (fun H locs B => ?_)
  refine lv_istore (lv' := [(6, .int r5), (5, .int r2), (0, .ref b), (1, .ref (ad 0)), (2, .ref (ad 65)), (3, .ref (ad 75)), (4, .int v4)]) hx hb dL_law_247 hl (by decide) rfl (fun ls hl => ?_)
  refine lv_aload_n hx hb dL_law_249 rfl (lv_at hl 4 rfl) ?_
  obtain ⟨r8, σ9, hu7, hf⟩ := zb_some hf
  refine x_i B (fun nb a g hs Bz => va_runV (As := []) (rest := []) ⟨hx, hb, hml, hown, hts⟩ (c_X9_thrown l hu7 _ nb a g hs) (cwV 0 hts gL_law_X9_thrown rfl rfl rfl (by decide +kernel) ⟨Nat.le_of_ble_eq_true rfl, Nat.le_of_ble_eq_true rfl⟩) (x_preV Bz (by decide) (fun _ => rfl) rfl) rfl rfl hl.1 rfl (lv_room (Nat.le_of_ble_eq_true rfl)) dL_law_250 ⟨(show C1 + 4 + 0 + 0 ≤ 601024 by omega), (show S1 + 24 + 0 + 0 ≤ 7293034 by omega)⟩) (fun H locs B => ?_)
  refine lv_iload hx hb dL_law_253 (lv_at hl 1 rfl) ?_
  refine lv_icmp_eq (tgt := 260) hx hb dL_law_255 (by decide) (fun hc => ?_) (fun hc => ?_)
  · have hf := zif_t hc hf
    refine lv_iload hx hb dL_law_260 (lv_at hl 1 rfl) ?_
    refine lv_if_ne (tgt := 277) hx hb dL_law_262 (by decide) (fun hc => ?_) (fun hc => ?_)
    · have hf := zif_f hc hf
      refine lv_goto (tgt := 2518) hx hb dL_law_277 (by decide) ?_
      refine lv_iinc (v := (v4 + (5 : Int32))) (lv' := [(4, .int (v4 + (5 : Int32))), (6, .int r5), (5, .int r2), (0, .ref b), (1, .ref (ad 0)), (2, .ref (ad 65)), (3, .ref (ad 75))]) hx hb dL_law_2518 hl (k := 6) rfl (zc1 (by decide)) (by decide) rfl (fun ls hl => ?_)
      refine lv_goto (tgt := 23) hx hb dL_law_2521 (by decide) ?_
      refine W.widen (k := C1 + 28) (n := S1 + 2612) (show C1 + 4 + 0 + 0 ≤ C1 + 28 by omega) (show S1 + 24 + 0 + 0 ≤ S1 + 2612 by omega) ?_
      exact hK23 _ _ _ _ _ hf B (lv_sub hl [3, 4, 5, 6, 0] rfl)
    · have hf := zif_t hc hf
      refine lv_aload_n hx hb dL_law_265 rfl (lv_at hl 5 rfl) ?_
      refine lv_iconst (v := (0 : Int32)) hx hb dL_law_266 (by decide) ?_
      obtain ⟨hg, hf⟩ := zg_some hf
      refine x_lald hx hb B 75 (by decide) (fun _ => rfl) (zin_ok hg) dL_law_267 ?_
      refine lv_iload hx hb dL_law_268 (lv_at hl 0 rfl) ?_
      refine lv_i2l (v := r5.toInt64) hx hb dL_law_270 rfl ?_
      refine W.lcmp hx hb dL_law_271 ?_
      refine lv_if_eq (tgt := 277) hx hb dL_law_272 (by decide) (fun hc => ?_) (fun hc => ?_)
      · have hf := zif_t hc hf
        refine lv_goto (tgt := 2518) hx hb dL_law_277 (by decide) ?_
        refine lv_iinc (v := (v4 + (5 : Int32))) (lv' := [(4, .int (v4 + (5 : Int32))), (6, .int r5), (5, .int r2), (0, .ref b), (1, .ref (ad 0)), (2, .ref (ad 65)), (3, .ref (ad 75))]) hx hb dL_law_2518 hl (k := 6) rfl (zc1 (by decide)) (by decide) rfl (fun ls hl => ?_)
        refine lv_goto (tgt := 23) hx hb dL_law_2521 (by decide) ?_
        refine W.widen (k := C1 + 28) (n := S1 + 2612) (show C1 + 4 + 0 + 0 ≤ C1 + 28 by omega) (show S1 + 24 + 0 + 0 ≤ S1 + 2612 by omega) ?_
        exact hK23 _ _ _ _ _ hf B (lv_sub hl [3, 4, 5, 6, 0] rfl)
      · have hf := zif_f hc hf
        refine lv_iconst (v := (0 : Int32)) hx hb dL_law_275 (by decide) ?_
        exact absurd (show (0 : Int32) = 1 from congrArg Prod.fst (Option.some.inj hf)) (by decide)
  · have hf := zif_f hc hf
    refine lv_iconst (v := (0 : Int32)) hx hb dL_law_258 (by decide) ?_
    exact absurd (show (0 : Int32) = 1 from congrArg Prod.fst (Option.some.inj hf)) (by decide)
theorem dL_law_280 : decode cL_law 280 = .ok (.aload_n 1, 1) := by decide +kernel
theorem dL_law_281 : decode cL_law 281 = .ok (.aload_n 0, 1) := by decide +kernel
theorem dL_law_282 : decode cL_law 282 = .ok (.iload 4, 2) := by decide +kernel
theorem dL_law_284 : decode cL_law 284 = .ok (.iconst 1, 1) := by decide +kernel
theorem dL_law_285 : decode cL_law 285 = .ok (.iadd, 1) := by decide +kernel
theorem dL_law_286 : decode cL_law 286 = .ok (.iaload, 1) := by decide +kernel
theorem dL_law_287 : decode cL_law 287 = .ok (.aload_n 3, 1) := by decide +kernel
theorem dL_law_288 : decode cL_law 288 = .ok (.invokestatic 142, 3) := by decide +kernel
theorem dL_law_291 : decode cL_law 291 = .ok (.istore 5, 2) := by decide +kernel
theorem dL_law_293 : decode cL_law 293 = .ok (.aload_n 2, 1) := by decide +kernel
theorem dL_law_294 : decode cL_law 294 = .ok (.aload_n 0, 1) := by decide +kernel
theorem dL_law_295 : decode cL_law 295 = .ok (.iload 4, 2) := by decide +kernel
theorem dL_law_297 : decode cL_law 297 = .ok (.iconst 1, 1) := by decide +kernel
theorem dL_law_298 : decode cL_law 298 = .ok (.iadd, 1) := by decide +kernel
theorem dL_law_299 : decode cL_law 299 = .ok (.iaload, 1) := by decide +kernel
theorem dL_law_300 : decode cL_law 300 = .ok (.invokevirtual 145, 3) := by decide +kernel
theorem dL_law_303 : decode cL_law 303 = .ok (.istore 6, 2) := by decide +kernel
theorem dL_law_305 : decode cL_law 305 = .ok (.aload_n 2, 1) := by decide +kernel
theorem dL_law_306 : decode cL_law 306 = .ok (.invokevirtual 139, 3) := by decide +kernel
theorem dL_law_309 : decode cL_law 309 = .ok (.iload 5, 2) := by decide +kernel
theorem dL_law_311 : decode cL_law 311 = .ok (.if_icmp .eq 5, 3) := by decide +kernel
theorem dL_law_314 : decode cL_law 314 = .ok (.iconst 0, 1) := by decide +kernel
theorem dL_law_316 : decode cL_law 316 = .ok (.iload 5, 2) := by decide +kernel
theorem dL_law_318 : decode cL_law 318 = .ok (.ifCond .ne 15, 3) := by decide +kernel
theorem dL_law_321 : decode cL_law 321 = .ok (.aload_n 3, 1) := by decide +kernel
theorem dL_law_322 : decode cL_law 322 = .ok (.iconst 0, 1) := by decide +kernel
theorem dL_law_323 : decode cL_law 323 = .ok (.laload, 1) := by decide +kernel
theorem dL_law_324 : decode cL_law 324 = .ok (.iload 6, 2) := by decide +kernel
theorem dL_law_326 : decode cL_law 326 = .ok (.i2l, 1) := by decide +kernel
theorem dL_law_327 : decode cL_law 327 = .ok (.lcmp, 1) := by decide +kernel
theorem dL_law_328 : decode cL_law 328 = .ok (.ifCond .eq 5, 3) := by decide +kernel
theorem dL_law_331 : decode cL_law 331 = .ok (.iconst 0, 1) := by decide +kernel
theorem dL_law_333 : decode cL_law 333 = .ok (.goto 2185, 3) := by decide +kernel
set_option maxRecDepth 20000 in
theorem ggL_law_L_append : GoodIn wsL_law wsL_append := goodIn_ca (goodIn_ca (goodIn_ca (goodIn_r _ [217, 147, 148, 218, 219, 220, 2, 221, 26, 222, 223, 224, 225, 166, 167, 168, 169, 170, 171, 172, 173, 174, 175, 226, 227, 228, 25, 229, 230, 96, 1369, 1370, 1371, 1372, 1373, 1374, 1375, 1376, 1408, 1409, 1410, 1411, 1412, 1413, 1414, 1415] (by decide +kernel) (by decide +kernel)) (goodIn_sub (fun _ h => List.mem_append_left _ (List.mem_append_left _ (List.mem_append_left _ (List.mem_append_left _ (List.mem_append_left _ (List.mem_append_right _ h)))))) (by decide +kernel))) (goodIn_sub (fun _ h => List.mem_append_left _ (List.mem_append_left _ (List.mem_append_left _ (List.mem_append_right _ h)))) (by decide +kernel))) (goodIn_sub (fun _ h => List.mem_append_left _ (List.mem_append_left _ (List.mem_append_right _ h))) (by decide +kernel))
set_option maxRecDepth 20000 in
theorem gL_law_L_append : GoodIn wsL_law (va_wsS RL 142 yL_append wsL_append) := goodIn_app (goodIn_of _ (by decide +kernel)) ggL_law_L_append
set_option maxRecDepth 20000 in
theorem ggL_law_X9_append : GoodIn wsL_law wsX9_append := goodIn_ca (goodIn_r _ [234, 235, 193, 134, 197, 198, 5, 199, 1377, 1378, 1379, 1380, 1381, 1382, 1383, 1384, 1385, 1386, 1387, 1388, 1389, 1390, 1391, 1392, 1393, 1394, 1395, 1396] (by decide +kernel) (by decide +kernel)) (goodIn_sub (fun _ h => List.mem_append_left _ (List.mem_append_left _ (List.mem_append_left _ (List.mem_append_left _ (List.mem_append_left _ (List.mem_append_right _ h)))))) (by decide +kernel))
set_option maxRecDepth 20000 in
theorem gL_law_X9_append : GoodIn wsL_law (wsV RL 145 RX9 yX9_append wsX9_append) := goodIn_app (goodIn_of _ (by decide +kernel)) ggL_law_X9_append
set_option maxHeartbeats 4000000 in
set_option maxRecDepth 100000 in
theorem lc_280 {p : Program} {e : Env} {s : State} {m : MethodId} {below : List Frame} {meth : Method} {c : Code} (l : Launch) (hfl : l.stackTraces = false) {b L : Nat} {xs : Nat → Int32} {Q : State → Prop} (C0 : lw_At p s m meth c b L xs) {G : zG} {ad : Nat → Nat} {σ' : zs} (C1 S1 : Nat) (hC : C1 + 28 ≤ 601024) (hS1 : S1 + 2612 ≤ 7293034) (K23 : zs → Int32 → Option (Int32 × zs)) (hK23 : ∀ (σ : zs) (v4 : Int32) (H : Heap) (locs : List Loc) (ls : Array Slot), K23 σ v4 = some (1, σ') → xB (fun q : Nat => s.heap.size ≤ q) s G ad σ H locs → lv_has ls 7 [(0, .ref b), (1, .ref (ad 0)), (2, .ref (ad 65)), (3, .ref (ad 75)), (4, .int v4)] → W p l e room_1 s m #[Value.ref b] below meth c H locs (C1 + 28) (S1 + 2612) Q (F0 m 23 ls [])) (σ : zs) (v4 : Int32) (H : Heap) (locs : List Loc) (ls : Array Slot) (hf : f_L_law_280 L xs K23 σ v4 = some (1, σ')) (B : xB (fun q : Nat => s.heap.size ≤ q) s G ad σ H locs) (hl : lv_has ls 7 [(0, .ref b), (1, .ref (ad 0)), (2, .ref (ad 65)), (3, .ref (ad 75)), (4, .int v4)]) : W p l e room_1 s m #[Value.ref b] below meth c H locs C1 S1 Q (F0 m 280 ls []) := by
  obtain ⟨hx, hb, hr, hml, hown, hts0, hX, hbl, hlocks, hgv⟩ := id C0
  have hts := fun w h => hts0 w (wsL_law_in w h)
  have hbA : ¬ (fun q : Nat => s.heap.size ≤ q) b := Nat.not_le.mpr hbl
  unfold f_L_law_280 at hf
  refine lv_aload_n hx hb dL_law_280 rfl (lv_at hl 1 rfl) ?_
  refine lv_aload_n hx hb dL_law_281 rfl (lv_at hl 0 rfl) ?_
  refine lv_iload hx hb dL_law_282 (lv_at hl 4 rfl) ?_
  refine lv_iconst (v := (1 : Int32)) hx hb dL_law_284 (by decide) ?_
  refine lv_iadd hx hb dL_law_285 ?_
  obtain ⟨hg, hf⟩ := zg_some hf
  refine va_sld hx hb hX hbl hbA (xS B) (zin_ok hg) dL_law_286 ?_
  refine lv_aload_n hx hb dL_law_287 rfl (lv_at hl 3 rfl) ?_
  obtain ⟨r2, σ3, hu1, hf⟩ := zb_some hf
  refine x_i B (fun nb a g hs Bz => vx_runSW (As := [.ref (ad 0), .int (xs (v4 + (1 : Int32)).toNatClampNeg), .ref (ad 75)]) (rest := []) ⟨hx, hb, hml, hown, hts⟩ (c_L_append_0_75 l hfl hu1 _ nb a g hs) (vx_cwSW 3 hts gL_law_L_append rfl rfl rfl (by decide +kernel) ⟨Nat.le_of_ble_eq_true rfl, Nat.le_of_ble_eq_true rfl⟩) (z_preS Bz) rfl rfl hl.1 rfl (lv_room (Nat.le_of_ble_eq_true rfl)) dL_law_288 ⟨(show C1 + 5 ≤ 601024 by omega), (show S1 + 30 ≤ 7293034 by omega)⟩) (fun H locs B => ?_)
  refine lv_istore (lv' := [(5, .int r2), (0, .ref b), (1, .ref (ad 0)), (2, .ref (ad 65)), (3, .ref (ad 75)), (4, .int v4)]) hx hb dL_law_291 hl (by decide) rfl (fun ls hl => ?_)
  refine lv_aload_n hx hb dL_law_293 rfl (lv_at hl 3 rfl) ?_
  refine lv_aload_n hx hb dL_law_294 rfl (lv_at hl 1 rfl) ?_
  refine lv_iload hx hb dL_law_295 (lv_at hl 5 rfl) ?_
  refine lv_iconst (v := (1 : Int32)) hx hb dL_law_297 (by decide) ?_
  refine lv_iadd hx hb dL_law_298 ?_
  obtain ⟨hg, hf⟩ := zg_some hf
  refine va_sld hx hb hX hbl hbA (xS B) (zin_ok hg) dL_law_299 ?_
  obtain ⟨r5, σ6, hu4, hf⟩ := zb_some hf
  refine x_i B (fun nb a g hs Bz => va_runV (As := [.int (xs (v4 + (1 : Int32)).toNatClampNeg)]) (rest := []) ⟨hx, hb, hml, hown, hts⟩ (c_X9_append l hu4 _ nb a g hs) (cwV 1 hts gL_law_X9_append rfl rfl rfl (by decide +kernel) ⟨Nat.le_of_ble_eq_true rfl, Nat.le_of_ble_eq_true rfl⟩) (x_preV Bz (by decide) (fun _ => rfl) rfl) rfl rfl hl.1 rfl (lv_room (Nat.le_of_ble_eq_true rfl)) dL_law_300 ⟨(show C1 + 5 + 0 ≤ 601024 by omega), (show S1 + 30 + 0 ≤ 7293034 by omega)⟩) (fun H locs B => ?_)
  refine lv_istore (lv' := [(6, .int r5), (5, .int r2), (0, .ref b), (1, .ref (ad 0)), (2, .ref (ad 65)), (3, .ref (ad 75)), (4, .int v4)]) hx hb dL_law_303 hl (by decide) rfl (fun ls hl => ?_)
  refine lv_aload_n hx hb dL_law_305 rfl (lv_at hl 4 rfl) ?_
  obtain ⟨r8, σ9, hu7, hf⟩ := zb_some hf
  refine x_i B (fun nb a g hs Bz => va_runV (As := []) (rest := []) ⟨hx, hb, hml, hown, hts⟩ (c_X9_thrown l hu7 _ nb a g hs) (cwV 0 hts gL_law_X9_thrown rfl rfl rfl (by decide +kernel) ⟨Nat.le_of_ble_eq_true rfl, Nat.le_of_ble_eq_true rfl⟩) (x_preV Bz (by decide) (fun _ => rfl) rfl) rfl rfl hl.1 rfl (lv_room (Nat.le_of_ble_eq_true rfl)) dL_law_306 ⟨(show C1 + 5 + 0 + 0 ≤ 601024 by omega), (show S1 + 30 + 0 + 0 ≤ 7293034 by omega)⟩) (fun H locs B => ?_)
  refine lv_iload hx hb dL_law_309 (lv_at hl 1 rfl) ?_
  refine lv_icmp_eq (tgt := 316) hx hb dL_law_311 (by decide) (fun hc => ?_) (fun hc => ?_)
  · have hf := zif_t hc hf
    refine lv_iload hx hb dL_law_316 (lv_at hl 1 rfl) ?_
    refine lv_if_ne (tgt := 333) hx hb dL_law_318 (by decide) (fun hc => ?_) (fun hc => ?_)
    · have hf := zif_f hc hf
      refine lv_goto (tgt := 2518) hx hb dL_law_333 (by decide) ?_
      refine lv_iinc (v := (v4 + (5 : Int32))) (lv' := [(4, .int (v4 + (5 : Int32))), (6, .int r5), (5, .int r2), (0, .ref b), (1, .ref (ad 0)), (2, .ref (ad 65)), (3, .ref (ad 75))]) hx hb dL_law_2518 hl (k := 6) rfl (zc1 (by decide)) (by decide) rfl (fun ls hl => ?_)
      refine lv_goto (tgt := 23) hx hb dL_law_2521 (by decide) ?_
      refine W.widen (k := C1 + 28) (n := S1 + 2612) (show C1 + 5 + 0 + 0 ≤ C1 + 28 by omega) (show S1 + 30 + 0 + 0 ≤ S1 + 2612 by omega) ?_
      exact hK23 _ _ _ _ _ hf B (lv_sub hl [3, 4, 5, 6, 0] rfl)
    · have hf := zif_t hc hf
      refine lv_aload_n hx hb dL_law_321 rfl (lv_at hl 5 rfl) ?_
      refine lv_iconst (v := (0 : Int32)) hx hb dL_law_322 (by decide) ?_
      obtain ⟨hg, hf⟩ := zg_some hf
      refine x_lald hx hb B 75 (by decide) (fun _ => rfl) (zin_ok hg) dL_law_323 ?_
      refine lv_iload hx hb dL_law_324 (lv_at hl 0 rfl) ?_
      refine lv_i2l (v := r5.toInt64) hx hb dL_law_326 rfl ?_
      refine W.lcmp hx hb dL_law_327 ?_
      refine lv_if_eq (tgt := 333) hx hb dL_law_328 (by decide) (fun hc => ?_) (fun hc => ?_)
      · have hf := zif_t hc hf
        refine lv_goto (tgt := 2518) hx hb dL_law_333 (by decide) ?_
        refine lv_iinc (v := (v4 + (5 : Int32))) (lv' := [(4, .int (v4 + (5 : Int32))), (6, .int r5), (5, .int r2), (0, .ref b), (1, .ref (ad 0)), (2, .ref (ad 65)), (3, .ref (ad 75))]) hx hb dL_law_2518 hl (k := 6) rfl (zc1 (by decide)) (by decide) rfl (fun ls hl => ?_)
        refine lv_goto (tgt := 23) hx hb dL_law_2521 (by decide) ?_
        refine W.widen (k := C1 + 28) (n := S1 + 2612) (show C1 + 5 + 0 + 0 ≤ C1 + 28 by omega) (show S1 + 30 + 0 + 0 ≤ S1 + 2612 by omega) ?_
        exact hK23 _ _ _ _ _ hf B (lv_sub hl [3, 4, 5, 6, 0] rfl)
      · have hf := zif_f hc hf
        refine lv_iconst (v := (0 : Int32)) hx hb dL_law_331 (by decide) ?_
        exact absurd (show (0 : Int32) = 1 from congrArg Prod.fst (Option.some.inj hf)) (by decide)
  · have hf := zif_f hc hf
    refine lv_iconst (v := (0 : Int32)) hx hb dL_law_314 (by decide) ?_
    exact absurd (show (0 : Int32) = 1 from congrArg Prod.fst (Option.some.inj hf)) (by decide)
theorem dL_law_336 : decode cL_law 336 = .ok (.aload_n 1, 1) := by decide +kernel
theorem dL_law_337 : decode cL_law 337 = .ok (.aload_n 0, 1) := by decide +kernel
theorem dL_law_338 : decode cL_law 338 = .ok (.iload 4, 2) := by decide +kernel
theorem dL_law_340 : decode cL_law 340 = .ok (.iconst 1, 1) := by decide +kernel
theorem dL_law_341 : decode cL_law 341 = .ok (.iadd, 1) := by decide +kernel
theorem dL_law_342 : decode cL_law 342 = .ok (.iaload, 1) := by decide +kernel
theorem dL_law_343 : decode cL_law 343 = .ok (.aload_n 0, 1) := by decide +kernel
theorem dL_law_344 : decode cL_law 344 = .ok (.iload 4, 2) := by decide +kernel
theorem dL_law_346 : decode cL_law 346 = .ok (.iconst 2, 1) := by decide +kernel
theorem dL_law_347 : decode cL_law 347 = .ok (.iadd, 1) := by decide +kernel
theorem dL_law_348 : decode cL_law 348 = .ok (.iaload, 1) := by decide +kernel
theorem dL_law_349 : decode cL_law 349 = .ok (.aload_n 3, 1) := by decide +kernel
theorem dL_law_350 : decode cL_law 350 = .ok (.invokestatic 146, 3) := by decide +kernel
theorem dL_law_353 : decode cL_law 353 = .ok (.istore 5, 2) := by decide +kernel
theorem dL_law_355 : decode cL_law 355 = .ok (.aload_n 2, 1) := by decide +kernel
theorem dL_law_356 : decode cL_law 356 = .ok (.aload_n 0, 1) := by decide +kernel
theorem dL_law_357 : decode cL_law 357 = .ok (.iload 4, 2) := by decide +kernel
theorem dL_law_359 : decode cL_law 359 = .ok (.iconst 1, 1) := by decide +kernel
theorem dL_law_360 : decode cL_law 360 = .ok (.iadd, 1) := by decide +kernel
theorem dL_law_361 : decode cL_law 361 = .ok (.iaload, 1) := by decide +kernel
theorem dL_law_362 : decode cL_law 362 = .ok (.aload_n 0, 1) := by decide +kernel
theorem dL_law_363 : decode cL_law 363 = .ok (.iload 4, 2) := by decide +kernel
theorem dL_law_365 : decode cL_law 365 = .ok (.iconst 2, 1) := by decide +kernel
theorem dL_law_366 : decode cL_law 366 = .ok (.iadd, 1) := by decide +kernel
theorem dL_law_367 : decode cL_law 367 = .ok (.iaload, 1) := by decide +kernel
theorem dL_law_368 : decode cL_law 368 = .ok (.invokevirtual 149, 3) := by decide +kernel
theorem dL_law_371 : decode cL_law 371 = .ok (.istore 6, 2) := by decide +kernel
theorem dL_law_373 : decode cL_law 373 = .ok (.aload_n 2, 1) := by decide +kernel
theorem dL_law_374 : decode cL_law 374 = .ok (.invokevirtual 139, 3) := by decide +kernel
theorem dL_law_377 : decode cL_law 377 = .ok (.iload 5, 2) := by decide +kernel
theorem dL_law_379 : decode cL_law 379 = .ok (.if_icmp .eq 5, 3) := by decide +kernel
theorem dL_law_382 : decode cL_law 382 = .ok (.iconst 0, 1) := by decide +kernel
theorem dL_law_384 : decode cL_law 384 = .ok (.iload 5, 2) := by decide +kernel
theorem dL_law_386 : decode cL_law 386 = .ok (.ifCond .ne 15, 3) := by decide +kernel
theorem dL_law_389 : decode cL_law 389 = .ok (.aload_n 3, 1) := by decide +kernel
theorem dL_law_390 : decode cL_law 390 = .ok (.iconst 0, 1) := by decide +kernel
theorem dL_law_391 : decode cL_law 391 = .ok (.laload, 1) := by decide +kernel
theorem dL_law_392 : decode cL_law 392 = .ok (.iload 6, 2) := by decide +kernel
theorem dL_law_394 : decode cL_law 394 = .ok (.i2l, 1) := by decide +kernel
theorem dL_law_395 : decode cL_law 395 = .ok (.lcmp, 1) := by decide +kernel
theorem dL_law_396 : decode cL_law 396 = .ok (.ifCond .eq 5, 3) := by decide +kernel
theorem dL_law_399 : decode cL_law 399 = .ok (.iconst 0, 1) := by decide +kernel
theorem dL_law_401 : decode cL_law 401 = .ok (.goto 2117, 3) := by decide +kernel
set_option maxRecDepth 20000 in
theorem ggL_law_L_derive : GoodIn wsL_law wsL_derive := goodIn_ca (goodIn_ca (goodIn_ca (goodIn_ca (goodIn_ca (goodIn_r _ [238, 146, 239, 147, 148, 240, 241, 242, 2, 243, 26, 244, 16, 153, 154, 245, 246, 247, 248, 249, 155, 156, 157, 158, 159, 160, 161, 162, 250, 251, 252, 253, 254, 255, 256, 257, 258, 22, 259, 260, 261, 262, 263, 264, 21, 265, 266, 267, 268, 269, 270, 90, 91, 271, 272, 273, 25, 274, 275, 276, 97, 230, 277, 278, 279, 280, 96, 98, 99, 100, 281, 282, 283, 284, 285, 286, 287, 288, 289, 290, 291, 292, 293, 294, 295, 296, 297, 298, 299, 300, 301, 302, 303, 304, 305, 306, 307, 308, 309, 310, 311, 312, 313, 314, 315, 316, 317, 318, 319, 320, 321, 322, 323, 122, 324, 325, 326, 327, 328, 329, 330, 331, 332, 333, 334, 335, 336, 337, 338, 339, 340, 341, 342, 343, 344, 345, 346, 347, 348, 349, 350, 351, 352, 353, 354, 355, 356, 357, 358, 359, 360, 361, 362, 363, 364, 365, 366, 367, 368, 369, 370, 371, 372, 373, 374, 375, 376, 377, 378, 379, 380, 381, 382, 383, 384, 385, 386, 387, 388, 389, 390, 391, 392, 393, 166, 167, 168, 169, 170, 171, 172, 173, 174, 175, 394, 395, 396, 42, 397, 180, 58, 59, 60, 398, 399, 400, 401, 181, 182, 183, 184, 61, 62, 63, 64, 185, 186, 187, 188, 65, 66, 67, 1369, 1370, 1371, 1372, 1373, 1374, 1375, 1376, 1408, 1409, 1410, 1411, 1412, 1413, 1414, 1415, 1397, 1398, 1399, 1400, 1401, 1402, 1403, 1404, 1424, 1425, 1426, 1427, 1428, 1429, 1430, 1431, 1432, 1433, 1434, 1435, 1405, 1406, 1407, 1453, 1454, 1455, 1456] (by decide +kernel) (by decide +kernel)) (goodIn_sub (fun _ h => List.mem_append_left _ (List.mem_append_left _ (List.mem_append_left _ (List.mem_append_left _ (List.mem_append_left _ (List.mem_append_right _ h)))))) (by decide +kernel))) (goodIn_sub (fun _ h => List.mem_append_left _ (List.mem_append_left _ (List.mem_append_left _ (List.mem_append_left _ (List.mem_append_right _ h))))) (by decide +kernel))) (goodIn_sub (fun _ h => List.mem_append_left _ (List.mem_append_right _ h)) (by decide +kernel))) (goodIn_sub (fun _ h => List.mem_append_left _ (List.mem_append_left _ (List.mem_append_left _ (List.mem_append_right _ h)))) (by decide +kernel))) (goodIn_sub (fun _ h => List.mem_append_left _ (List.mem_append_left _ (List.mem_append_right _ h))) (by decide +kernel))
set_option maxRecDepth 20000 in
theorem gL_law_L_derive : GoodIn wsL_law (va_wsS RL 146 yL_derive wsL_derive) := goodIn_app (goodIn_of _ (by decide +kernel)) ggL_law_L_derive
set_option maxRecDepth 20000 in
theorem ggL_law_X9_derive : GoodIn wsL_law wsX9_derive := goodIn_ca (goodIn_r _ [405, 193, 132, 235, 406, 135, 407, 139, 194, 195, 5, 196, 197, 198, 199, 408, 409, 410, 411, 412, 413, 414, 415, 416, 417, 418, 419, 420, 421, 422, 423, 137, 138, 424, 425, 426, 427, 428, 429, 430, 431, 432, 433, 434, 435, 436, 134, 437, 438, 439, 440, 441, 442, 443, 444, 445, 446, 447, 136, 203, 204, 205, 206, 207, 208, 209, 210, 1377, 1378, 1379, 1380, 1381, 1382, 1383, 1384, 1385, 1386, 1387, 1388, 1389, 1390, 1391, 1392, 1393, 1394, 1395, 1396] (by decide +kernel) (by decide +kernel)) (goodIn_sub (fun _ h => List.mem_append_left _ (List.mem_append_left _ (List.mem_append_left _ (List.mem_append_left _ (List.mem_append_left _ (List.mem_append_right _ h)))))) (by decide +kernel))
set_option maxRecDepth 20000 in
theorem gL_law_X9_derive : GoodIn wsL_law (wsV RL 149 RX9 yX9_derive wsX9_derive) := goodIn_app (goodIn_of _ (by decide +kernel)) ggL_law_X9_derive
set_option maxHeartbeats 4000000 in
set_option maxRecDepth 100000 in
theorem lc_336 {p : Program} {e : Env} {s : State} {m : MethodId} {below : List Frame} {meth : Method} {c : Code} (l : Launch) (hfl : l.stackTraces = false) {b L : Nat} {xs : Nat → Int32} {Q : State → Prop} (C0 : lw_At p s m meth c b L xs) {G : zG} {ad : Nat → Nat} {σ' : zs} (C1 S1 : Nat) (hC : C1 + 28 ≤ 601024) (hS1 : S1 + 2612 ≤ 7293034) (K23 : zs → Int32 → Option (Int32 × zs)) (hK23 : ∀ (σ : zs) (v4 : Int32) (H : Heap) (locs : List Loc) (ls : Array Slot), K23 σ v4 = some (1, σ') → xB (fun q : Nat => s.heap.size ≤ q) s G ad σ H locs → lv_has ls 7 [(0, .ref b), (1, .ref (ad 0)), (2, .ref (ad 65)), (3, .ref (ad 75)), (4, .int v4)] → W p l e room_1 s m #[Value.ref b] below meth c H locs (C1 + 28) (S1 + 2612) Q (F0 m 23 ls [])) (σ : zs) (v4 : Int32) (H : Heap) (locs : List Loc) (ls : Array Slot) (hf : f_L_law_336 L xs K23 σ v4 = some (1, σ')) (B : xB (fun q : Nat => s.heap.size ≤ q) s G ad σ H locs) (hl : lv_has ls 7 [(0, .ref b), (1, .ref (ad 0)), (2, .ref (ad 65)), (3, .ref (ad 75)), (4, .int v4)]) : W p l e room_1 s m #[Value.ref b] below meth c H locs C1 S1 Q (F0 m 336 ls []) := by
  obtain ⟨hx, hb, hr, hml, hown, hts0, hX, hbl, hlocks, hgv⟩ := id C0
  have hts := fun w h => hts0 w (wsL_law_in w h)
  have hbA : ¬ (fun q : Nat => s.heap.size ≤ q) b := Nat.not_le.mpr hbl
  unfold f_L_law_336 at hf
  refine lv_aload_n hx hb dL_law_336 rfl (lv_at hl 1 rfl) ?_
  refine lv_aload_n hx hb dL_law_337 rfl (lv_at hl 0 rfl) ?_
  refine lv_iload hx hb dL_law_338 (lv_at hl 4 rfl) ?_
  refine lv_iconst (v := (1 : Int32)) hx hb dL_law_340 (by decide) ?_
  refine lv_iadd hx hb dL_law_341 ?_
  obtain ⟨hg, hf⟩ := zg_some hf
  refine va_sld hx hb hX hbl hbA (xS B) (zin_ok hg) dL_law_342 ?_
  refine lv_aload_n hx hb dL_law_343 rfl (lv_at hl 0 rfl) ?_
  refine lv_iload hx hb dL_law_344 (lv_at hl 4 rfl) ?_
  refine lv_iconst (v := (2 : Int32)) hx hb dL_law_346 (by decide) ?_
  refine lv_iadd hx hb dL_law_347 ?_
  obtain ⟨hg, hf⟩ := zg_some hf
  refine va_sld hx hb hX hbl hbA (xS B) (zin_ok hg) dL_law_348 ?_
  refine lv_aload_n hx hb dL_law_349 rfl (lv_at hl 3 rfl) ?_
  obtain ⟨r2, σ3, hu1, hf⟩ := zb_some hf
  refine x_i B (fun nb a g hs Bz => vx_runSW (As := [.ref (ad 0), .int (xs (v4 + (1 : Int32)).toNatClampNeg), .int (xs (v4 + (2 : Int32)).toNatClampNeg), .ref (ad 75)]) (rest := []) ⟨hx, hb, hml, hown, hts⟩ (c_L_derive_0_75 l hfl hu1 _ nb a g hs) (vx_cwSW 4 hts gL_law_L_derive rfl rfl rfl (by decide +kernel) ⟨Nat.le_of_ble_eq_true rfl, Nat.le_of_ble_eq_true rfl⟩) (z_preS Bz) rfl rfl hl.1 rfl (lv_room (Nat.le_of_ble_eq_true rfl)) dL_law_350 ⟨(show C1 + 5 ≤ 601024 by omega), (show S1 + 30 ≤ 7293034 by omega)⟩) (fun H locs B => ?_)
  refine lv_istore (lv' := [(5, .int r2), (0, .ref b), (1, .ref (ad 0)), (2, .ref (ad 65)), (3, .ref (ad 75)), (4, .int v4)]) hx hb dL_law_353 hl (by decide) rfl (fun ls hl => ?_)
  refine lv_aload_n hx hb dL_law_355 rfl (lv_at hl 3 rfl) ?_
  refine lv_aload_n hx hb dL_law_356 rfl (lv_at hl 1 rfl) ?_
  refine lv_iload hx hb dL_law_357 (lv_at hl 5 rfl) ?_
  refine lv_iconst (v := (1 : Int32)) hx hb dL_law_359 (by decide) ?_
  refine lv_iadd hx hb dL_law_360 ?_
  obtain ⟨hg, hf⟩ := zg_some hf
  refine va_sld hx hb hX hbl hbA (xS B) (zin_ok hg) dL_law_361 ?_
  refine lv_aload_n hx hb dL_law_362 rfl (lv_at hl 1 rfl) ?_
  refine lv_iload hx hb dL_law_363 (lv_at hl 5 rfl) ?_
  refine lv_iconst (v := (2 : Int32)) hx hb dL_law_365 (by decide) ?_
  refine lv_iadd hx hb dL_law_366 ?_
  obtain ⟨hg, hf⟩ := zg_some hf
  refine va_sld hx hb hX hbl hbA (xS B) (zin_ok hg) dL_law_367 ?_
  obtain ⟨r5, σ6, hu4, hf⟩ := zb_some hf
  refine x_i B (fun nb a g hs Bz => va_runV (As := [.int (xs (v4 + (1 : Int32)).toNatClampNeg), .int (xs (v4 + (2 : Int32)).toNatClampNeg)]) (rest := []) ⟨hx, hb, hml, hown, hts⟩ (c_X9_derive l hu4 _ nb a g hs) (cwV 2 hts gL_law_X9_derive rfl rfl rfl (by decide +kernel) ⟨Nat.le_of_ble_eq_true rfl, Nat.le_of_ble_eq_true rfl⟩) (x_preV Bz (by decide) (fun _ => rfl) rfl) rfl rfl hl.1 rfl (lv_room (Nat.le_of_ble_eq_true rfl)) dL_law_368 ⟨(show C1 + 5 + 0 ≤ 601024 by omega), (show S1 + 30 + 0 ≤ 7293034 by omega)⟩) (fun H locs B => ?_)
  refine lv_istore (lv' := [(6, .int r5), (5, .int r2), (0, .ref b), (1, .ref (ad 0)), (2, .ref (ad 65)), (3, .ref (ad 75)), (4, .int v4)]) hx hb dL_law_371 hl (by decide) rfl (fun ls hl => ?_)
  refine lv_aload_n hx hb dL_law_373 rfl (lv_at hl 4 rfl) ?_
  obtain ⟨r8, σ9, hu7, hf⟩ := zb_some hf
  refine x_i B (fun nb a g hs Bz => va_runV (As := []) (rest := []) ⟨hx, hb, hml, hown, hts⟩ (c_X9_thrown l hu7 _ nb a g hs) (cwV 0 hts gL_law_X9_thrown rfl rfl rfl (by decide +kernel) ⟨Nat.le_of_ble_eq_true rfl, Nat.le_of_ble_eq_true rfl⟩) (x_preV Bz (by decide) (fun _ => rfl) rfl) rfl rfl hl.1 rfl (lv_room (Nat.le_of_ble_eq_true rfl)) dL_law_374 ⟨(show C1 + 5 + 0 + 0 ≤ 601024 by omega), (show S1 + 30 + 0 + 0 ≤ 7293034 by omega)⟩) (fun H locs B => ?_)
  refine lv_iload hx hb dL_law_377 (lv_at hl 1 rfl) ?_
  refine lv_icmp_eq (tgt := 384) hx hb dL_law_379 (by decide) (fun hc => ?_) (fun hc => ?_)
  · have hf := zif_t hc hf
    refine lv_iload hx hb dL_law_384 (lv_at hl 1 rfl) ?_
    refine lv_if_ne (tgt := 401) hx hb dL_law_386 (by decide) (fun hc => ?_) (fun hc => ?_)
    · have hf := zif_f hc hf
      refine lv_goto (tgt := 2518) hx hb dL_law_401 (by decide) ?_
      refine lv_iinc (v := (v4 + (5 : Int32))) (lv' := [(4, .int (v4 + (5 : Int32))), (6, .int r5), (5, .int r2), (0, .ref b), (1, .ref (ad 0)), (2, .ref (ad 65)), (3, .ref (ad 75))]) hx hb dL_law_2518 hl (k := 6) rfl (zc1 (by decide)) (by decide) rfl (fun ls hl => ?_)
      refine lv_goto (tgt := 23) hx hb dL_law_2521 (by decide) ?_
      refine W.widen (k := C1 + 28) (n := S1 + 2612) (show C1 + 5 + 0 + 0 ≤ C1 + 28 by omega) (show S1 + 30 + 0 + 0 ≤ S1 + 2612 by omega) ?_
      exact hK23 _ _ _ _ _ hf B (lv_sub hl [3, 4, 5, 6, 0] rfl)
    · have hf := zif_t hc hf
      refine lv_aload_n hx hb dL_law_389 rfl (lv_at hl 5 rfl) ?_
      refine lv_iconst (v := (0 : Int32)) hx hb dL_law_390 (by decide) ?_
      obtain ⟨hg, hf⟩ := zg_some hf
      refine x_lald hx hb B 75 (by decide) (fun _ => rfl) (zin_ok hg) dL_law_391 ?_
      refine lv_iload hx hb dL_law_392 (lv_at hl 0 rfl) ?_
      refine lv_i2l (v := r5.toInt64) hx hb dL_law_394 rfl ?_
      refine W.lcmp hx hb dL_law_395 ?_
      refine lv_if_eq (tgt := 401) hx hb dL_law_396 (by decide) (fun hc => ?_) (fun hc => ?_)
      · have hf := zif_t hc hf
        refine lv_goto (tgt := 2518) hx hb dL_law_401 (by decide) ?_
        refine lv_iinc (v := (v4 + (5 : Int32))) (lv' := [(4, .int (v4 + (5 : Int32))), (6, .int r5), (5, .int r2), (0, .ref b), (1, .ref (ad 0)), (2, .ref (ad 65)), (3, .ref (ad 75))]) hx hb dL_law_2518 hl (k := 6) rfl (zc1 (by decide)) (by decide) rfl (fun ls hl => ?_)
        refine lv_goto (tgt := 23) hx hb dL_law_2521 (by decide) ?_
        refine W.widen (k := C1 + 28) (n := S1 + 2612) (show C1 + 5 + 0 + 0 ≤ C1 + 28 by omega) (show S1 + 30 + 0 + 0 ≤ S1 + 2612 by omega) ?_
        exact hK23 _ _ _ _ _ hf B (lv_sub hl [3, 4, 5, 6, 0] rfl)
      · have hf := zif_f hc hf
        refine lv_iconst (v := (0 : Int32)) hx hb dL_law_399 (by decide) ?_
        exact absurd (show (0 : Int32) = 1 from congrArg Prod.fst (Option.some.inj hf)) (by decide)
  · have hf := zif_f hc hf
    refine lv_iconst (v := (0 : Int32)) hx hb dL_law_382 (by decide) ?_
    exact absurd (show (0 : Int32) = 1 from congrArg Prod.fst (Option.some.inj hf)) (by decide)
theorem dL_law_404 : decode cL_law 404 = .ok (.aload_n 1, 1) := by decide +kernel
theorem dL_law_405 : decode cL_law 405 = .ok (.invokevirtual 150, 3) := by decide +kernel
theorem dL_law_408 : decode cL_law 408 = .ok (.aload_n 2, 1) := by decide +kernel
theorem dL_law_409 : decode cL_law 409 = .ok (.invokevirtual 153, 3) := by decide +kernel
theorem dL_law_412 : decode cL_law 412 = .ok (.if_icmp .eq 2106, 3) := by decide +kernel
theorem dL_law_415 : decode cL_law 415 = .ok (.iconst 0, 1) := by decide +kernel
set_option maxRecDepth 20000 in
theorem ggL_law_X8_errorPosition : GoodIn wsL_law wsX8_errorPosition := goodIn_r _ [451, 26, 244, 1369, 1370, 1371, 1372, 1373, 1374, 1375, 1376, 1408, 1409, 1410, 1411, 1412, 1413, 1414, 1415] (by decide +kernel) (by decide +kernel)
set_option maxRecDepth 20000 in
theorem gL_law_X8_errorPosition : GoodIn wsL_law (wsV RL 150 RX8 yX8_errorPosition wsX8_errorPosition) := goodIn_app (goodIn_of _ (by decide +kernel)) ggL_law_X8_errorPosition
set_option maxRecDepth 20000 in
theorem ggL_law_X9_errorPosition : GoodIn wsL_law wsX9_errorPosition := goodIn_r _ [455, 193, 135, 1377, 1378, 1379, 1380, 1381, 1382, 1383, 1384, 1385, 1386, 1387, 1388, 1389, 1390, 1391, 1392, 1393, 1394, 1395, 1396] (by decide +kernel) (by decide +kernel)
set_option maxRecDepth 20000 in
theorem gL_law_X9_errorPosition : GoodIn wsL_law (wsV RL 153 RX9 yX9_errorPosition wsX9_errorPosition) := goodIn_app (goodIn_of _ (by decide +kernel)) ggL_law_X9_errorPosition
set_option maxHeartbeats 4000000 in
set_option maxRecDepth 100000 in
theorem lc_404 {p : Program} {e : Env} {s : State} {m : MethodId} {below : List Frame} {meth : Method} {c : Code} (l : Launch) (hfl : l.stackTraces = false) {b L : Nat} {xs : Nat → Int32} {Q : State → Prop} (C0 : lw_At p s m meth c b L xs) {G : zG} {ad : Nat → Nat} {σ' : zs} (C1 S1 : Nat) (hC : C1 + 28 ≤ 601024) (hS1 : S1 + 2612 ≤ 7293034) (K23 : zs → Int32 → Option (Int32 × zs)) (hK23 : ∀ (σ : zs) (v4 : Int32) (H : Heap) (locs : List Loc) (ls : Array Slot), K23 σ v4 = some (1, σ') → xB (fun q : Nat => s.heap.size ≤ q) s G ad σ H locs → lv_has ls 7 [(0, .ref b), (1, .ref (ad 0)), (2, .ref (ad 65)), (3, .ref (ad 75)), (4, .int v4)] → W p l e room_1 s m #[Value.ref b] below meth c H locs (C1 + 28) (S1 + 2612) Q (F0 m 23 ls [])) (σ : zs) (v4 : Int32) (H : Heap) (locs : List Loc) (ls : Array Slot) (hf : f_L_law_404 L xs K23 σ v4 = some (1, σ')) (B : xB (fun q : Nat => s.heap.size ≤ q) s G ad σ H locs) (hl : lv_has ls 7 [(0, .ref b), (1, .ref (ad 0)), (2, .ref (ad 65)), (3, .ref (ad 75)), (4, .int v4)]) : W p l e room_1 s m #[Value.ref b] below meth c H locs C1 S1 Q (F0 m 404 ls []) := by
  obtain ⟨hx, hb, hr, hml, hown, hts0, hX, hbl, hlocks, hgv⟩ := id C0
  have hts := fun w h => hts0 w (wsL_law_in w h)
  have hbA : ¬ (fun q : Nat => s.heap.size ≤ q) b := Nat.not_le.mpr hbl
  unfold f_L_law_404 at hf
  refine lv_aload_n hx hb dL_law_404 rfl (lv_at hl 1 rfl) ?_
  obtain ⟨r2, σ3, hu1, hf⟩ := zb_some hf
  refine x_i B (fun nb a g hs Bz => va_runV (As := []) (rest := []) ⟨hx, hb, hml, hown, hts⟩ (c_X8_errorPosition l hu1 _ nb a g hs) (cwV 0 hts gL_law_X8_errorPosition rfl rfl rfl (by decide +kernel) ⟨Nat.le_of_ble_eq_true rfl, Nat.le_of_ble_eq_true rfl⟩) (x_preV Bz (by decide) (fun _ => rfl) rfl) rfl rfl hl.1 rfl (lv_room (Nat.le_of_ble_eq_true rfl)) dL_law_405 ⟨(show C1 + 0 ≤ 601024 by omega), (show S1 + 0 ≤ 7293034 by omega)⟩) (fun H locs B => ?_)
  refine lv_aload_n hx hb dL_law_408 rfl (lv_at hl 2 rfl) ?_
  obtain ⟨r5, σ6, hu4, hf⟩ := zb_some hf
  refine x_i B (fun nb a g hs Bz => va_runV (As := []) (rest := [.int r2]) ⟨hx, hb, hml, hown, hts⟩ (c_X9_errorPosition l hu4 _ nb a g hs) (cwV 0 hts gL_law_X9_errorPosition rfl rfl rfl (by decide +kernel) ⟨Nat.le_of_ble_eq_true rfl, Nat.le_of_ble_eq_true rfl⟩) (x_preV Bz (by decide) (fun _ => rfl) rfl) rfl rfl hl.1 rfl (lv_room (Nat.le_of_ble_eq_true rfl)) dL_law_409 ⟨(show C1 + 0 + 0 ≤ 601024 by omega), (show S1 + 0 + 0 ≤ 7293034 by omega)⟩) (fun H locs B => ?_)
  refine lv_icmp_eq (tgt := 2518) hx hb dL_law_412 (by decide) (fun hc => ?_) (fun hc => ?_)
  · have hf := zif_t hc hf
    refine lv_iinc (v := (v4 + (5 : Int32))) (lv' := [(4, .int (v4 + (5 : Int32))), (0, .ref b), (1, .ref (ad 0)), (2, .ref (ad 65)), (3, .ref (ad 75))]) hx hb dL_law_2518 hl (k := 4) rfl (zc1 (by decide)) (by decide) rfl (fun ls hl => ?_)
    refine lv_goto (tgt := 23) hx hb dL_law_2521 (by decide) ?_
    refine W.widen (k := C1 + 28) (n := S1 + 2612) (show C1 + 0 + 0 ≤ C1 + 28 by omega) (show S1 + 0 + 0 ≤ S1 + 2612 by omega) ?_
    exact hK23 _ _ _ _ _ hf B (lv_sub hl [1, 2, 3, 4, 0] rfl)
  · have hf := zif_f hc hf
    refine lv_iconst (v := (0 : Int32)) hx hb dL_law_415 (by decide) ?_
    exact absurd (show (0 : Int32) = 1 from congrArg Prod.fst (Option.some.inj hf)) (by decide)
theorem dL_law_417 : decode cL_law 417 = .ok (.aload_n 1, 1) := by decide +kernel
theorem dL_law_418 : decode cL_law 418 = .ok (.aload_n 0, 1) := by decide +kernel
theorem dL_law_419 : decode cL_law 419 = .ok (.iload 4, 2) := by decide +kernel
theorem dL_law_421 : decode cL_law 421 = .ok (.iconst 1, 1) := by decide +kernel
theorem dL_law_422 : decode cL_law 422 = .ok (.iadd, 1) := by decide +kernel
theorem dL_law_423 : decode cL_law 423 = .ok (.iaload, 1) := by decide +kernel
theorem dL_law_424 : decode cL_law 424 = .ok (.aload_n 0, 1) := by decide +kernel
theorem dL_law_425 : decode cL_law 425 = .ok (.iload 4, 2) := by decide +kernel
theorem dL_law_427 : decode cL_law 427 = .ok (.iconst 2, 1) := by decide +kernel
theorem dL_law_428 : decode cL_law 428 = .ok (.iadd, 1) := by decide +kernel
theorem dL_law_429 : decode cL_law 429 = .ok (.iaload, 1) := by decide +kernel
theorem dL_law_430 : decode cL_law 430 = .ok (.aload_n 0, 1) := by decide +kernel
theorem dL_law_431 : decode cL_law 431 = .ok (.iload 4, 2) := by decide +kernel
theorem dL_law_433 : decode cL_law 433 = .ok (.iconst 3, 1) := by decide +kernel
theorem dL_law_434 : decode cL_law 434 = .ok (.iadd, 1) := by decide +kernel
theorem dL_law_435 : decode cL_law 435 = .ok (.iaload, 1) := by decide +kernel
theorem dL_law_436 : decode cL_law 436 = .ok (.aload_n 3, 1) := by decide +kernel
theorem dL_law_437 : decode cL_law 437 = .ok (.invokestatic 154, 3) := by decide +kernel
theorem dL_law_440 : decode cL_law 440 = .ok (.istore 5, 2) := by decide +kernel
theorem dL_law_442 : decode cL_law 442 = .ok (.aload_n 2, 1) := by decide +kernel
theorem dL_law_443 : decode cL_law 443 = .ok (.aload_n 0, 1) := by decide +kernel
theorem dL_law_444 : decode cL_law 444 = .ok (.iload 4, 2) := by decide +kernel
theorem dL_law_446 : decode cL_law 446 = .ok (.iconst 1, 1) := by decide +kernel
theorem dL_law_447 : decode cL_law 447 = .ok (.iadd, 1) := by decide +kernel
theorem dL_law_448 : decode cL_law 448 = .ok (.iaload, 1) := by decide +kernel
theorem dL_law_449 : decode cL_law 449 = .ok (.aload_n 0, 1) := by decide +kernel
theorem dL_law_450 : decode cL_law 450 = .ok (.iload 4, 2) := by decide +kernel
theorem dL_law_452 : decode cL_law 452 = .ok (.iconst 2, 1) := by decide +kernel
theorem dL_law_453 : decode cL_law 453 = .ok (.iadd, 1) := by decide +kernel
theorem dL_law_454 : decode cL_law 454 = .ok (.iaload, 1) := by decide +kernel
theorem dL_law_455 : decode cL_law 455 = .ok (.aload_n 0, 1) := by decide +kernel
theorem dL_law_456 : decode cL_law 456 = .ok (.iload 4, 2) := by decide +kernel
theorem dL_law_458 : decode cL_law 458 = .ok (.iconst 3, 1) := by decide +kernel
theorem dL_law_459 : decode cL_law 459 = .ok (.iadd, 1) := by decide +kernel
theorem dL_law_460 : decode cL_law 460 = .ok (.iaload, 1) := by decide +kernel
theorem dL_law_461 : decode cL_law 461 = .ok (.invokevirtual 156, 3) := by decide +kernel
theorem dL_law_464 : decode cL_law 464 = .ok (.istore 6, 2) := by decide +kernel
theorem dL_law_466 : decode cL_law 466 = .ok (.aload_n 2, 1) := by decide +kernel
theorem dL_law_467 : decode cL_law 467 = .ok (.invokevirtual 139, 3) := by decide +kernel
theorem dL_law_470 : decode cL_law 470 = .ok (.iload 5, 2) := by decide +kernel
theorem dL_law_472 : decode cL_law 472 = .ok (.if_icmp .eq 5, 3) := by decide +kernel
theorem dL_law_475 : decode cL_law 475 = .ok (.iconst 0, 1) := by decide +kernel
theorem dL_law_477 : decode cL_law 477 = .ok (.iload 5, 2) := by decide +kernel
theorem dL_law_479 : decode cL_law 479 = .ok (.ifCond .ne 15, 3) := by decide +kernel
theorem dL_law_482 : decode cL_law 482 = .ok (.aload_n 3, 1) := by decide +kernel
theorem dL_law_483 : decode cL_law 483 = .ok (.iconst 0, 1) := by decide +kernel
theorem dL_law_484 : decode cL_law 484 = .ok (.laload, 1) := by decide +kernel
theorem dL_law_485 : decode cL_law 485 = .ok (.iload 6, 2) := by decide +kernel
theorem dL_law_487 : decode cL_law 487 = .ok (.i2l, 1) := by decide +kernel
theorem dL_law_488 : decode cL_law 488 = .ok (.lcmp, 1) := by decide +kernel
theorem dL_law_489 : decode cL_law 489 = .ok (.ifCond .eq 5, 3) := by decide +kernel
theorem dL_law_492 : decode cL_law 492 = .ok (.iconst 0, 1) := by decide +kernel
theorem dL_law_494 : decode cL_law 494 = .ok (.goto 2024, 3) := by decide +kernel
set_option maxRecDepth 20000 in
theorem ggL_law_L_give : GoodIn wsL_law wsL_give := goodIn_ca (goodIn_ca (goodIn_ca (goodIn_r _ [458, 146, 239, 459, 460, 461, 2, 462, 16, 153, 258, 155, 156, 157, 158, 159, 160, 161, 162, 250, 251, 252, 253, 154, 463, 464, 465, 466, 32, 467, 245, 468, 254, 255, 256, 257, 22, 259, 260, 261, 262, 263, 264, 21, 265, 266, 267, 268, 269, 270, 90, 91, 469, 470, 471, 472, 473, 474, 475, 476, 477, 478, 479, 480, 481, 482, 389, 390, 391, 392, 393, 483, 484, 485, 486, 487, 488, 489, 1369, 1370, 1371, 1372, 1373, 1374, 1375, 1376, 1397, 1398, 1399, 1400, 1401, 1402, 1403, 1404, 1424, 1425, 1426, 1427, 1428, 1429, 1430, 1431, 1432, 1433, 1434, 1435, 1405, 1406, 1407] (by decide +kernel) (by decide +kernel)) (goodIn_sub (fun _ h => List.mem_append_left _ (List.mem_append_left _ (List.mem_append_left _ (List.mem_append_left _ (List.mem_append_left _ (List.mem_append_right _ h)))))) (by decide +kernel))) (goodIn_sub (fun _ h => List.mem_append_left _ (List.mem_append_left _ (List.mem_append_left _ (List.mem_append_left _ (List.mem_append_right _ h))))) (by decide +kernel))) (goodIn_sub (fun _ h => List.mem_append_left _ (List.mem_append_right _ h)) (by decide +kernel))
set_option maxRecDepth 20000 in
theorem gL_law_L_give : GoodIn wsL_law (va_wsS RL 154 yL_give wsL_give) := goodIn_app (goodIn_of _ (by decide +kernel)) ggL_law_L_give
set_option maxRecDepth 20000 in
theorem ggL_law_X9_give : GoodIn wsL_law wsX9_give := goodIn_ca (goodIn_r _ [493, 193, 132, 194, 195, 5, 196, 197, 198, 199, 408, 409, 410, 411, 494, 495, 496, 497, 136, 412, 413, 414, 415, 416, 417, 418, 419, 420, 421, 422, 423, 137, 138, 444, 445, 446, 447, 498, 499, 500, 501, 502, 503, 504, 505, 506, 507, 508, 509, 510, 511, 512, 1377, 1378, 1379, 1380, 1381, 1382, 1383, 1384, 1385, 1386, 1387, 1388, 1389, 1390, 1391, 1392, 1393, 1394, 1395, 1396] (by decide +kernel) (by decide +kernel)) (goodIn_sub (fun _ h => List.mem_append_left _ (List.mem_append_left _ (List.mem_append_left _ (List.mem_append_left _ (List.mem_append_left _ (List.mem_append_right _ h)))))) (by decide +kernel))
set_option maxRecDepth 20000 in
theorem gL_law_X9_give : GoodIn wsL_law (wsV RL 156 RX9 yX9_give wsX9_give) := goodIn_app (goodIn_of _ (by decide +kernel)) ggL_law_X9_give
set_option maxHeartbeats 4000000 in
set_option maxRecDepth 100000 in
theorem lc_417 {p : Program} {e : Env} {s : State} {m : MethodId} {below : List Frame} {meth : Method} {c : Code} (l : Launch) (hfl : l.stackTraces = false) {b L : Nat} {xs : Nat → Int32} {Q : State → Prop} (C0 : lw_At p s m meth c b L xs) {G : zG} {ad : Nat → Nat} {σ' : zs} (C1 S1 : Nat) (hC : C1 + 28 ≤ 601024) (hS1 : S1 + 2612 ≤ 7293034) (K23 : zs → Int32 → Option (Int32 × zs)) (hK23 : ∀ (σ : zs) (v4 : Int32) (H : Heap) (locs : List Loc) (ls : Array Slot), K23 σ v4 = some (1, σ') → xB (fun q : Nat => s.heap.size ≤ q) s G ad σ H locs → lv_has ls 7 [(0, .ref b), (1, .ref (ad 0)), (2, .ref (ad 65)), (3, .ref (ad 75)), (4, .int v4)] → W p l e room_1 s m #[Value.ref b] below meth c H locs (C1 + 28) (S1 + 2612) Q (F0 m 23 ls [])) (σ : zs) (v4 : Int32) (H : Heap) (locs : List Loc) (ls : Array Slot) (hf : f_L_law_417 L xs K23 σ v4 = some (1, σ')) (B : xB (fun q : Nat => s.heap.size ≤ q) s G ad σ H locs) (hl : lv_has ls 7 [(0, .ref b), (1, .ref (ad 0)), (2, .ref (ad 65)), (3, .ref (ad 75)), (4, .int v4)]) : W p l e room_1 s m #[Value.ref b] below meth c H locs C1 S1 Q (F0 m 417 ls []) := by
  obtain ⟨hx, hb, hr, hml, hown, hts0, hX, hbl, hlocks, hgv⟩ := id C0
  have hts := fun w h => hts0 w (wsL_law_in w h)
  have hbA : ¬ (fun q : Nat => s.heap.size ≤ q) b := Nat.not_le.mpr hbl
  unfold f_L_law_417 at hf
  refine lv_aload_n hx hb dL_law_417 rfl (lv_at hl 1 rfl) ?_
  refine lv_aload_n hx hb dL_law_418 rfl (lv_at hl 0 rfl) ?_
  refine lv_iload hx hb dL_law_419 (lv_at hl 4 rfl) ?_
  refine lv_iconst (v := (1 : Int32)) hx hb dL_law_421 (by decide) ?_
  refine lv_iadd hx hb dL_law_422 ?_
  obtain ⟨hg, hf⟩ := zg_some hf
  refine va_sld hx hb hX hbl hbA (xS B) (zin_ok hg) dL_law_423 ?_
  refine lv_aload_n hx hb dL_law_424 rfl (lv_at hl 0 rfl) ?_
  refine lv_iload hx hb dL_law_425 (lv_at hl 4 rfl) ?_
  refine lv_iconst (v := (2 : Int32)) hx hb dL_law_427 (by decide) ?_
  refine lv_iadd hx hb dL_law_428 ?_
  obtain ⟨hg, hf⟩ := zg_some hf
  refine va_sld hx hb hX hbl hbA (xS B) (zin_ok hg) dL_law_429 ?_
  refine lv_aload_n hx hb dL_law_430 rfl (lv_at hl 0 rfl) ?_
  refine lv_iload hx hb dL_law_431 (lv_at hl 4 rfl) ?_
  refine lv_iconst (v := (3 : Int32)) hx hb dL_law_433 (by decide) ?_
  refine lv_iadd hx hb dL_law_434 ?_
  obtain ⟨hg, hf⟩ := zg_some hf
  refine va_sld hx hb hX hbl hbA (xS B) (zin_ok hg) dL_law_435 ?_
  refine lv_aload_n hx hb dL_law_436 rfl (lv_at hl 3 rfl) ?_
  obtain ⟨r2, σ3, hu1, hf⟩ := zb_some hf
  refine x_i B (fun nb a g hs Bz => vx_runSW (As := [.ref (ad 0), .int (xs (v4 + (1 : Int32)).toNatClampNeg), .int (xs (v4 + (2 : Int32)).toNatClampNeg), .int (xs (v4 + (3 : Int32)).toNatClampNeg), .ref (ad 75)]) (rest := []) ⟨hx, hb, hml, hown, hts⟩ (c_L_give_0_75 l hfl hu1 _ nb a g hs) (vx_cwSW 5 hts gL_law_L_give rfl rfl rfl (by decide +kernel) ⟨Nat.le_of_ble_eq_true rfl, Nat.le_of_ble_eq_true rfl⟩) (z_preS Bz) rfl rfl hl.1 rfl (lv_room (Nat.le_of_ble_eq_true rfl)) dL_law_437 ⟨(show C1 + 4 ≤ 601024 by omega), (show S1 + 24 ≤ 7293034 by omega)⟩) (fun H locs B => ?_)
  refine lv_istore (lv' := [(5, .int r2), (0, .ref b), (1, .ref (ad 0)), (2, .ref (ad 65)), (3, .ref (ad 75)), (4, .int v4)]) hx hb dL_law_440 hl (by decide) rfl (fun ls hl => ?_)
  refine lv_aload_n hx hb dL_law_442 rfl (lv_at hl 3 rfl) ?_
  refine lv_aload_n hx hb dL_law_443 rfl (lv_at hl 1 rfl) ?_
  refine lv_iload hx hb dL_law_444 (lv_at hl 5 rfl) ?_
  refine lv_iconst (v := (1 : Int32)) hx hb dL_law_446 (by decide) ?_
  refine lv_iadd hx hb dL_law_447 ?_
  obtain ⟨hg, hf⟩ := zg_some hf
  refine va_sld hx hb hX hbl hbA (xS B) (zin_ok hg) dL_law_448 ?_
  refine lv_aload_n hx hb dL_law_449 rfl (lv_at hl 1 rfl) ?_
  refine lv_iload hx hb dL_law_450 (lv_at hl 5 rfl) ?_
  refine lv_iconst (v := (2 : Int32)) hx hb dL_law_452 (by decide) ?_
  refine lv_iadd hx hb dL_law_453 ?_
  obtain ⟨hg, hf⟩ := zg_some hf
  refine va_sld hx hb hX hbl hbA (xS B) (zin_ok hg) dL_law_454 ?_
  refine lv_aload_n hx hb dL_law_455 rfl (lv_at hl 1 rfl) ?_
  refine lv_iload hx hb dL_law_456 (lv_at hl 5 rfl) ?_
  refine lv_iconst (v := (3 : Int32)) hx hb dL_law_458 (by decide) ?_
  refine lv_iadd hx hb dL_law_459 ?_
  obtain ⟨hg, hf⟩ := zg_some hf
  refine va_sld hx hb hX hbl hbA (xS B) (zin_ok hg) dL_law_460 ?_
  obtain ⟨r5, σ6, hu4, hf⟩ := zb_some hf
  refine x_i B (fun nb a g hs Bz => va_runV (As := [.int (xs (v4 + (1 : Int32)).toNatClampNeg), .int (xs (v4 + (2 : Int32)).toNatClampNeg), .int (xs (v4 + (3 : Int32)).toNatClampNeg)]) (rest := []) ⟨hx, hb, hml, hown, hts⟩ (c_X9_give l hu4 _ nb a g hs) (cwV 3 hts gL_law_X9_give rfl rfl rfl (by decide +kernel) ⟨Nat.le_of_ble_eq_true rfl, Nat.le_of_ble_eq_true rfl⟩) (x_preV Bz (by decide) (fun _ => rfl) rfl) rfl rfl hl.1 rfl (lv_room (Nat.le_of_ble_eq_true rfl)) dL_law_461 ⟨(show C1 + 4 + 0 ≤ 601024 by omega), (show S1 + 24 + 0 ≤ 7293034 by omega)⟩) (fun H locs B => ?_)
  refine lv_istore (lv' := [(6, .int r5), (5, .int r2), (0, .ref b), (1, .ref (ad 0)), (2, .ref (ad 65)), (3, .ref (ad 75)), (4, .int v4)]) hx hb dL_law_464 hl (by decide) rfl (fun ls hl => ?_)
  refine lv_aload_n hx hb dL_law_466 rfl (lv_at hl 4 rfl) ?_
  obtain ⟨r8, σ9, hu7, hf⟩ := zb_some hf
  refine x_i B (fun nb a g hs Bz => va_runV (As := []) (rest := []) ⟨hx, hb, hml, hown, hts⟩ (c_X9_thrown l hu7 _ nb a g hs) (cwV 0 hts gL_law_X9_thrown rfl rfl rfl (by decide +kernel) ⟨Nat.le_of_ble_eq_true rfl, Nat.le_of_ble_eq_true rfl⟩) (x_preV Bz (by decide) (fun _ => rfl) rfl) rfl rfl hl.1 rfl (lv_room (Nat.le_of_ble_eq_true rfl)) dL_law_467 ⟨(show C1 + 4 + 0 + 0 ≤ 601024 by omega), (show S1 + 24 + 0 + 0 ≤ 7293034 by omega)⟩) (fun H locs B => ?_)
  refine lv_iload hx hb dL_law_470 (lv_at hl 1 rfl) ?_
  refine lv_icmp_eq (tgt := 477) hx hb dL_law_472 (by decide) (fun hc => ?_) (fun hc => ?_)
  · have hf := zif_t hc hf
    refine lv_iload hx hb dL_law_477 (lv_at hl 1 rfl) ?_
    refine lv_if_ne (tgt := 494) hx hb dL_law_479 (by decide) (fun hc => ?_) (fun hc => ?_)
    · have hf := zif_f hc hf
      refine lv_goto (tgt := 2518) hx hb dL_law_494 (by decide) ?_
      refine lv_iinc (v := (v4 + (5 : Int32))) (lv' := [(4, .int (v4 + (5 : Int32))), (6, .int r5), (5, .int r2), (0, .ref b), (1, .ref (ad 0)), (2, .ref (ad 65)), (3, .ref (ad 75))]) hx hb dL_law_2518 hl (k := 6) rfl (zc1 (by decide)) (by decide) rfl (fun ls hl => ?_)
      refine lv_goto (tgt := 23) hx hb dL_law_2521 (by decide) ?_
      refine W.widen (k := C1 + 28) (n := S1 + 2612) (show C1 + 4 + 0 + 0 ≤ C1 + 28 by omega) (show S1 + 24 + 0 + 0 ≤ S1 + 2612 by omega) ?_
      exact hK23 _ _ _ _ _ hf B (lv_sub hl [3, 4, 5, 6, 0] rfl)
    · have hf := zif_t hc hf
      refine lv_aload_n hx hb dL_law_482 rfl (lv_at hl 5 rfl) ?_
      refine lv_iconst (v := (0 : Int32)) hx hb dL_law_483 (by decide) ?_
      obtain ⟨hg, hf⟩ := zg_some hf
      refine x_lald hx hb B 75 (by decide) (fun _ => rfl) (zin_ok hg) dL_law_484 ?_
      refine lv_iload hx hb dL_law_485 (lv_at hl 0 rfl) ?_
      refine lv_i2l (v := r5.toInt64) hx hb dL_law_487 rfl ?_
      refine W.lcmp hx hb dL_law_488 ?_
      refine lv_if_eq (tgt := 494) hx hb dL_law_489 (by decide) (fun hc => ?_) (fun hc => ?_)
      · have hf := zif_t hc hf
        refine lv_goto (tgt := 2518) hx hb dL_law_494 (by decide) ?_
        refine lv_iinc (v := (v4 + (5 : Int32))) (lv' := [(4, .int (v4 + (5 : Int32))), (6, .int r5), (5, .int r2), (0, .ref b), (1, .ref (ad 0)), (2, .ref (ad 65)), (3, .ref (ad 75))]) hx hb dL_law_2518 hl (k := 6) rfl (zc1 (by decide)) (by decide) rfl (fun ls hl => ?_)
        refine lv_goto (tgt := 23) hx hb dL_law_2521 (by decide) ?_
        refine W.widen (k := C1 + 28) (n := S1 + 2612) (show C1 + 4 + 0 + 0 ≤ C1 + 28 by omega) (show S1 + 24 + 0 + 0 ≤ S1 + 2612 by omega) ?_
        exact hK23 _ _ _ _ _ hf B (lv_sub hl [3, 4, 5, 6, 0] rfl)
      · have hf := zif_f hc hf
        refine lv_iconst (v := (0 : Int32)) hx hb dL_law_492 (by decide) ?_
        exact absurd (show (0 : Int32) = 1 from congrArg Prod.fst (Option.some.inj hf)) (by decide)
  · have hf := zif_f hc hf
    refine lv_iconst (v := (0 : Int32)) hx hb dL_law_475 (by decide) ?_
    exact absurd (show (0 : Int32) = 1 from congrArg Prod.fst (Option.some.inj hf)) (by decide)
theorem dL_law_497 : decode cL_law 497 = .ok (.aload_n 1, 1) := by decide +kernel
theorem dL_law_498 : decode cL_law 498 = .ok (.aload_n 0, 1) := by decide +kernel
theorem dL_law_499 : decode cL_law 499 = .ok (.iload 4, 2) := by decide +kernel
theorem dL_law_501 : decode cL_law 501 = .ok (.iconst 1, 1) := by decide +kernel
theorem dL_law_502 : decode cL_law 502 = .ok (.iadd, 1) := by decide +kernel
theorem dL_law_503 : decode cL_law 503 = .ok (.iaload, 1) := by decide +kernel
theorem dL_law_504 : decode cL_law 504 = .ok (.aload_n 0, 1) := by decide +kernel
theorem dL_law_505 : decode cL_law 505 = .ok (.iload 4, 2) := by decide +kernel
theorem dL_law_507 : decode cL_law 507 = .ok (.iconst 2, 1) := by decide +kernel
theorem dL_law_508 : decode cL_law 508 = .ok (.iadd, 1) := by decide +kernel
theorem dL_law_509 : decode cL_law 509 = .ok (.iaload, 1) := by decide +kernel
theorem dL_law_510 : decode cL_law 510 = .ok (.aload_n 3, 1) := by decide +kernel
theorem dL_law_511 : decode cL_law 511 = .ok (.invokestatic 157, 3) := by decide +kernel
theorem dL_law_514 : decode cL_law 514 = .ok (.istore 5, 2) := by decide +kernel
theorem dL_law_516 : decode cL_law 516 = .ok (.aload_n 2, 1) := by decide +kernel
theorem dL_law_517 : decode cL_law 517 = .ok (.aload_n 0, 1) := by decide +kernel
theorem dL_law_518 : decode cL_law 518 = .ok (.iload 4, 2) := by decide +kernel
theorem dL_law_520 : decode cL_law 520 = .ok (.iconst 1, 1) := by decide +kernel
theorem dL_law_521 : decode cL_law 521 = .ok (.iadd, 1) := by decide +kernel
theorem dL_law_522 : decode cL_law 522 = .ok (.iaload, 1) := by decide +kernel
theorem dL_law_523 : decode cL_law 523 = .ok (.aload_n 0, 1) := by decide +kernel
theorem dL_law_524 : decode cL_law 524 = .ok (.iload 4, 2) := by decide +kernel
theorem dL_law_526 : decode cL_law 526 = .ok (.iconst 2, 1) := by decide +kernel
theorem dL_law_527 : decode cL_law 527 = .ok (.iadd, 1) := by decide +kernel
theorem dL_law_528 : decode cL_law 528 = .ok (.iaload, 1) := by decide +kernel
theorem dL_law_529 : decode cL_law 529 = .ok (.invokevirtual 159, 3) := by decide +kernel
theorem dL_law_532 : decode cL_law 532 = .ok (.istore 6, 2) := by decide +kernel
theorem dL_law_534 : decode cL_law 534 = .ok (.aload_n 2, 1) := by decide +kernel
theorem dL_law_535 : decode cL_law 535 = .ok (.invokevirtual 139, 3) := by decide +kernel
theorem dL_law_538 : decode cL_law 538 = .ok (.iload 5, 2) := by decide +kernel
theorem dL_law_540 : decode cL_law 540 = .ok (.if_icmp .eq 5, 3) := by decide +kernel
theorem dL_law_543 : decode cL_law 543 = .ok (.iconst 0, 1) := by decide +kernel
theorem dL_law_545 : decode cL_law 545 = .ok (.iload 5, 2) := by decide +kernel
theorem dL_law_547 : decode cL_law 547 = .ok (.ifCond .ne 15, 3) := by decide +kernel
theorem dL_law_550 : decode cL_law 550 = .ok (.aload_n 3, 1) := by decide +kernel
theorem dL_law_551 : decode cL_law 551 = .ok (.iconst 0, 1) := by decide +kernel
theorem dL_law_552 : decode cL_law 552 = .ok (.laload, 1) := by decide +kernel
theorem dL_law_553 : decode cL_law 553 = .ok (.iload 6, 2) := by decide +kernel
theorem dL_law_555 : decode cL_law 555 = .ok (.i2l, 1) := by decide +kernel
theorem dL_law_556 : decode cL_law 556 = .ok (.lcmp, 1) := by decide +kernel
theorem dL_law_557 : decode cL_law 557 = .ok (.ifCond .eq 5, 3) := by decide +kernel
theorem dL_law_560 : decode cL_law 560 = .ok (.iconst 0, 1) := by decide +kernel
theorem dL_law_562 : decode cL_law 562 = .ok (.goto 1956, 3) := by decide +kernel
set_option maxRecDepth 20000 in
theorem ggL_law_L_drop : GoodIn wsL_law wsL_drop := goodIn_ca (goodIn_ca (goodIn_ca (goodIn_r _ [515, 146, 516, 517, 518, 519, 2, 520, 16, 153, 258, 155, 156, 157, 158, 159, 160, 161, 162, 250, 251, 252, 253, 154, 259, 260, 261, 521, 522, 523, 524, 525, 483, 484, 485, 486, 487, 488, 489, 1369, 1370, 1371, 1372, 1373, 1374, 1375, 1376, 1397, 1398, 1399, 1400, 1401, 1402, 1403, 1404, 1424, 1425, 1426, 1427, 1428, 1429, 1430, 1431, 1432, 1433, 1434, 1435] (by decide +kernel) (by decide +kernel)) (goodIn_sub (fun _ h => List.mem_append_left _ (List.mem_append_left _ (List.mem_append_left _ (List.mem_append_left _ (List.mem_append_left _ (List.mem_append_right _ h)))))) (by decide +kernel))) (goodIn_sub (fun _ h => List.mem_append_left _ (List.mem_append_left _ (List.mem_append_left _ (List.mem_append_left _ (List.mem_append_right _ h))))) (by decide +kernel))) (goodIn_sub (fun _ h => List.mem_append_right _ h) (by decide +kernel))
set_option maxRecDepth 20000 in
theorem gL_law_L_drop : GoodIn wsL_law (va_wsS RL 157 yL_drop wsL_drop) := goodIn_app (goodIn_of _ (by decide +kernel)) ggL_law_L_drop
set_option maxRecDepth 20000 in
theorem ggL_law_X9_drop : GoodIn wsL_law wsX9_drop := goodIn_ca (goodIn_r _ [529, 132, 193, 194, 195, 5, 196, 197, 198, 199, 408, 409, 410, 411, 412, 413, 414, 510, 511, 512, 1377, 1378, 1379, 1380, 1381, 1382, 1383, 1384, 1385, 1386, 1387, 1388, 1389, 1390, 1391, 1392, 1393, 1394, 1395, 1396] (by decide +kernel) (by decide +kernel)) (goodIn_sub (fun _ h => List.mem_append_left _ (List.mem_append_left _ (List.mem_append_left _ (List.mem_append_left _ (List.mem_append_left _ (List.mem_append_right _ h)))))) (by decide +kernel))
set_option maxRecDepth 20000 in
theorem gL_law_X9_drop : GoodIn wsL_law (wsV RL 159 RX9 yX9_drop wsX9_drop) := goodIn_app (goodIn_of _ (by decide +kernel)) ggL_law_X9_drop
set_option maxHeartbeats 4000000 in
set_option maxRecDepth 100000 in
theorem lc_497 {p : Program} {e : Env} {s : State} {m : MethodId} {below : List Frame} {meth : Method} {c : Code} (l : Launch) (hfl : l.stackTraces = false) {b L : Nat} {xs : Nat → Int32} {Q : State → Prop} (C0 : lw_At p s m meth c b L xs) {G : zG} {ad : Nat → Nat} {σ' : zs} (C1 S1 : Nat) (hC : C1 + 28 ≤ 601024) (hS1 : S1 + 2612 ≤ 7293034) (K23 : zs → Int32 → Option (Int32 × zs)) (hK23 : ∀ (σ : zs) (v4 : Int32) (H : Heap) (locs : List Loc) (ls : Array Slot), K23 σ v4 = some (1, σ') → xB (fun q : Nat => s.heap.size ≤ q) s G ad σ H locs → lv_has ls 7 [(0, .ref b), (1, .ref (ad 0)), (2, .ref (ad 65)), (3, .ref (ad 75)), (4, .int v4)] → W p l e room_1 s m #[Value.ref b] below meth c H locs (C1 + 28) (S1 + 2612) Q (F0 m 23 ls [])) (σ : zs) (v4 : Int32) (H : Heap) (locs : List Loc) (ls : Array Slot) (hf : f_L_law_497 L xs K23 σ v4 = some (1, σ')) (B : xB (fun q : Nat => s.heap.size ≤ q) s G ad σ H locs) (hl : lv_has ls 7 [(0, .ref b), (1, .ref (ad 0)), (2, .ref (ad 65)), (3, .ref (ad 75)), (4, .int v4)]) : W p l e room_1 s m #[Value.ref b] below meth c H locs C1 S1 Q (F0 m 497 ls []) := by
  obtain ⟨hx, hb, hr, hml, hown, hts0, hX, hbl, hlocks, hgv⟩ := id C0
  have hts := fun w h => hts0 w (wsL_law_in w h)
  have hbA : ¬ (fun q : Nat => s.heap.size ≤ q) b := Nat.not_le.mpr hbl
  unfold f_L_law_497 at hf
  refine lv_aload_n hx hb dL_law_497 rfl (lv_at hl 1 rfl) ?_
  refine lv_aload_n hx hb dL_law_498 rfl (lv_at hl 0 rfl) ?_
  refine lv_iload hx hb dL_law_499 (lv_at hl 4 rfl) ?_
  refine lv_iconst (v := (1 : Int32)) hx hb dL_law_501 (by decide) ?_
  refine lv_iadd hx hb dL_law_502 ?_
  obtain ⟨hg, hf⟩ := zg_some hf
  refine va_sld hx hb hX hbl hbA (xS B) (zin_ok hg) dL_law_503 ?_
  refine lv_aload_n hx hb dL_law_504 rfl (lv_at hl 0 rfl) ?_
  refine lv_iload hx hb dL_law_505 (lv_at hl 4 rfl) ?_
  refine lv_iconst (v := (2 : Int32)) hx hb dL_law_507 (by decide) ?_
  refine lv_iadd hx hb dL_law_508 ?_
  obtain ⟨hg, hf⟩ := zg_some hf
  refine va_sld hx hb hX hbl hbA (xS B) (zin_ok hg) dL_law_509 ?_
  refine lv_aload_n hx hb dL_law_510 rfl (lv_at hl 3 rfl) ?_
  obtain ⟨r2, σ3, hu1, hf⟩ := zb_some hf
  refine x_i B (fun nb a g hs Bz => vx_runSW (As := [.ref (ad 0), .int (xs (v4 + (1 : Int32)).toNatClampNeg), .int (xs (v4 + (2 : Int32)).toNatClampNeg), .ref (ad 75)]) (rest := []) ⟨hx, hb, hml, hown, hts⟩ (c_L_drop_0_75 l hfl hu1 _ nb a g hs) (vx_cwSW 4 hts gL_law_L_drop rfl rfl rfl (by decide +kernel) ⟨Nat.le_of_ble_eq_true rfl, Nat.le_of_ble_eq_true rfl⟩) (z_preS Bz) rfl rfl hl.1 rfl (lv_room (Nat.le_of_ble_eq_true rfl)) dL_law_511 ⟨(show C1 + 3 ≤ 601024 by omega), (show S1 + 18 ≤ 7293034 by omega)⟩) (fun H locs B => ?_)
  refine lv_istore (lv' := [(5, .int r2), (0, .ref b), (1, .ref (ad 0)), (2, .ref (ad 65)), (3, .ref (ad 75)), (4, .int v4)]) hx hb dL_law_514 hl (by decide) rfl (fun ls hl => ?_)
  refine lv_aload_n hx hb dL_law_516 rfl (lv_at hl 3 rfl) ?_
  refine lv_aload_n hx hb dL_law_517 rfl (lv_at hl 1 rfl) ?_
  refine lv_iload hx hb dL_law_518 (lv_at hl 5 rfl) ?_
  refine lv_iconst (v := (1 : Int32)) hx hb dL_law_520 (by decide) ?_
  refine lv_iadd hx hb dL_law_521 ?_
  obtain ⟨hg, hf⟩ := zg_some hf
  refine va_sld hx hb hX hbl hbA (xS B) (zin_ok hg) dL_law_522 ?_
  refine lv_aload_n hx hb dL_law_523 rfl (lv_at hl 1 rfl) ?_
  refine lv_iload hx hb dL_law_524 (lv_at hl 5 rfl) ?_
  refine lv_iconst (v := (2 : Int32)) hx hb dL_law_526 (by decide) ?_
  refine lv_iadd hx hb dL_law_527 ?_
  obtain ⟨hg, hf⟩ := zg_some hf
  refine va_sld hx hb hX hbl hbA (xS B) (zin_ok hg) dL_law_528 ?_
  obtain ⟨r5, σ6, hu4, hf⟩ := zb_some hf
  refine x_i B (fun nb a g hs Bz => va_runV (As := [.int (xs (v4 + (1 : Int32)).toNatClampNeg), .int (xs (v4 + (2 : Int32)).toNatClampNeg)]) (rest := []) ⟨hx, hb, hml, hown, hts⟩ (c_X9_drop l hu4 _ nb a g hs) (cwV 2 hts gL_law_X9_drop rfl rfl rfl (by decide +kernel) ⟨Nat.le_of_ble_eq_true rfl, Nat.le_of_ble_eq_true rfl⟩) (x_preV Bz (by decide) (fun _ => rfl) rfl) rfl rfl hl.1 rfl (lv_room (Nat.le_of_ble_eq_true rfl)) dL_law_529 ⟨(show C1 + 3 + 0 ≤ 601024 by omega), (show S1 + 18 + 0 ≤ 7293034 by omega)⟩) (fun H locs B => ?_)
  refine lv_istore (lv' := [(6, .int r5), (5, .int r2), (0, .ref b), (1, .ref (ad 0)), (2, .ref (ad 65)), (3, .ref (ad 75)), (4, .int v4)]) hx hb dL_law_532 hl (by decide) rfl (fun ls hl => ?_)
  refine lv_aload_n hx hb dL_law_534 rfl (lv_at hl 4 rfl) ?_
  obtain ⟨r8, σ9, hu7, hf⟩ := zb_some hf
  refine x_i B (fun nb a g hs Bz => va_runV (As := []) (rest := []) ⟨hx, hb, hml, hown, hts⟩ (c_X9_thrown l hu7 _ nb a g hs) (cwV 0 hts gL_law_X9_thrown rfl rfl rfl (by decide +kernel) ⟨Nat.le_of_ble_eq_true rfl, Nat.le_of_ble_eq_true rfl⟩) (x_preV Bz (by decide) (fun _ => rfl) rfl) rfl rfl hl.1 rfl (lv_room (Nat.le_of_ble_eq_true rfl)) dL_law_535 ⟨(show C1 + 3 + 0 + 0 ≤ 601024 by omega), (show S1 + 18 + 0 + 0 ≤ 7293034 by omega)⟩) (fun H locs B => ?_)
  refine lv_iload hx hb dL_law_538 (lv_at hl 1 rfl) ?_
  refine lv_icmp_eq (tgt := 545) hx hb dL_law_540 (by decide) (fun hc => ?_) (fun hc => ?_)
  · have hf := zif_t hc hf
    refine lv_iload hx hb dL_law_545 (lv_at hl 1 rfl) ?_
    refine lv_if_ne (tgt := 562) hx hb dL_law_547 (by decide) (fun hc => ?_) (fun hc => ?_)
    · have hf := zif_f hc hf
      refine lv_goto (tgt := 2518) hx hb dL_law_562 (by decide) ?_
      refine lv_iinc (v := (v4 + (5 : Int32))) (lv' := [(4, .int (v4 + (5 : Int32))), (6, .int r5), (5, .int r2), (0, .ref b), (1, .ref (ad 0)), (2, .ref (ad 65)), (3, .ref (ad 75))]) hx hb dL_law_2518 hl (k := 6) rfl (zc1 (by decide)) (by decide) rfl (fun ls hl => ?_)
      refine lv_goto (tgt := 23) hx hb dL_law_2521 (by decide) ?_
      refine W.widen (k := C1 + 28) (n := S1 + 2612) (show C1 + 3 + 0 + 0 ≤ C1 + 28 by omega) (show S1 + 18 + 0 + 0 ≤ S1 + 2612 by omega) ?_
      exact hK23 _ _ _ _ _ hf B (lv_sub hl [3, 4, 5, 6, 0] rfl)
    · have hf := zif_t hc hf
      refine lv_aload_n hx hb dL_law_550 rfl (lv_at hl 5 rfl) ?_
      refine lv_iconst (v := (0 : Int32)) hx hb dL_law_551 (by decide) ?_
      obtain ⟨hg, hf⟩ := zg_some hf
      refine x_lald hx hb B 75 (by decide) (fun _ => rfl) (zin_ok hg) dL_law_552 ?_
      refine lv_iload hx hb dL_law_553 (lv_at hl 0 rfl) ?_
      refine lv_i2l (v := r5.toInt64) hx hb dL_law_555 rfl ?_
      refine W.lcmp hx hb dL_law_556 ?_
      refine lv_if_eq (tgt := 562) hx hb dL_law_557 (by decide) (fun hc => ?_) (fun hc => ?_)
      · have hf := zif_t hc hf
        refine lv_goto (tgt := 2518) hx hb dL_law_562 (by decide) ?_
        refine lv_iinc (v := (v4 + (5 : Int32))) (lv' := [(4, .int (v4 + (5 : Int32))), (6, .int r5), (5, .int r2), (0, .ref b), (1, .ref (ad 0)), (2, .ref (ad 65)), (3, .ref (ad 75))]) hx hb dL_law_2518 hl (k := 6) rfl (zc1 (by decide)) (by decide) rfl (fun ls hl => ?_)
        refine lv_goto (tgt := 23) hx hb dL_law_2521 (by decide) ?_
        refine W.widen (k := C1 + 28) (n := S1 + 2612) (show C1 + 3 + 0 + 0 ≤ C1 + 28 by omega) (show S1 + 18 + 0 + 0 ≤ S1 + 2612 by omega) ?_
        exact hK23 _ _ _ _ _ hf B (lv_sub hl [3, 4, 5, 6, 0] rfl)
      · have hf := zif_f hc hf
        refine lv_iconst (v := (0 : Int32)) hx hb dL_law_560 (by decide) ?_
        exact absurd (show (0 : Int32) = 1 from congrArg Prod.fst (Option.some.inj hf)) (by decide)
  · have hf := zif_f hc hf
    refine lv_iconst (v := (0 : Int32)) hx hb dL_law_543 (by decide) ?_
    exact absurd (show (0 : Int32) = 1 from congrArg Prod.fst (Option.some.inj hf)) (by decide)
theorem dL_law_565 : decode cL_law 565 = .ok (.aload_n 1, 1) := by decide +kernel
theorem dL_law_566 : decode cL_law 566 = .ok (.aload_n 0, 1) := by decide +kernel
theorem dL_law_567 : decode cL_law 567 = .ok (.iload 4, 2) := by decide +kernel
theorem dL_law_569 : decode cL_law 569 = .ok (.iconst 1, 1) := by decide +kernel
theorem dL_law_570 : decode cL_law 570 = .ok (.iadd, 1) := by decide +kernel
theorem dL_law_571 : decode cL_law 571 = .ok (.iaload, 1) := by decide +kernel
theorem dL_law_572 : decode cL_law 572 = .ok (.aload_n 0, 1) := by decide +kernel
theorem dL_law_573 : decode cL_law 573 = .ok (.iload 4, 2) := by decide +kernel
theorem dL_law_575 : decode cL_law 575 = .ok (.iconst 2, 1) := by decide +kernel
theorem dL_law_576 : decode cL_law 576 = .ok (.iadd, 1) := by decide +kernel
theorem dL_law_577 : decode cL_law 577 = .ok (.iaload, 1) := by decide +kernel
theorem dL_law_578 : decode cL_law 578 = .ok (.aload_n 3, 1) := by decide +kernel
theorem dL_law_579 : decode cL_law 579 = .ok (.invokestatic 160, 3) := by decide +kernel
theorem dL_law_582 : decode cL_law 582 = .ok (.istore 5, 2) := by decide +kernel
theorem dL_law_584 : decode cL_law 584 = .ok (.aload_n 2, 1) := by decide +kernel
theorem dL_law_585 : decode cL_law 585 = .ok (.aload_n 0, 1) := by decide +kernel
theorem dL_law_586 : decode cL_law 586 = .ok (.iload 4, 2) := by decide +kernel
theorem dL_law_588 : decode cL_law 588 = .ok (.iconst 1, 1) := by decide +kernel
theorem dL_law_589 : decode cL_law 589 = .ok (.iadd, 1) := by decide +kernel
theorem dL_law_590 : decode cL_law 590 = .ok (.iaload, 1) := by decide +kernel
theorem dL_law_591 : decode cL_law 591 = .ok (.aload_n 0, 1) := by decide +kernel
theorem dL_law_592 : decode cL_law 592 = .ok (.iload 4, 2) := by decide +kernel
theorem dL_law_594 : decode cL_law 594 = .ok (.iconst 2, 1) := by decide +kernel
theorem dL_law_595 : decode cL_law 595 = .ok (.iadd, 1) := by decide +kernel
theorem dL_law_596 : decode cL_law 596 = .ok (.iaload, 1) := by decide +kernel
theorem dL_law_597 : decode cL_law 597 = .ok (.invokevirtual 162, 3) := by decide +kernel
theorem dL_law_600 : decode cL_law 600 = .ok (.istore 6, 2) := by decide +kernel
theorem dL_law_602 : decode cL_law 602 = .ok (.aload_n 2, 1) := by decide +kernel
theorem dL_law_603 : decode cL_law 603 = .ok (.invokevirtual 139, 3) := by decide +kernel
theorem dL_law_606 : decode cL_law 606 = .ok (.iload 5, 2) := by decide +kernel
theorem dL_law_608 : decode cL_law 608 = .ok (.if_icmp .eq 5, 3) := by decide +kernel
theorem dL_law_611 : decode cL_law 611 = .ok (.iconst 0, 1) := by decide +kernel
theorem dL_law_613 : decode cL_law 613 = .ok (.iload 5, 2) := by decide +kernel
theorem dL_law_615 : decode cL_law 615 = .ok (.ifCond .ne 15, 3) := by decide +kernel
theorem dL_law_618 : decode cL_law 618 = .ok (.aload_n 3, 1) := by decide +kernel
theorem dL_law_619 : decode cL_law 619 = .ok (.iconst 0, 1) := by decide +kernel
theorem dL_law_620 : decode cL_law 620 = .ok (.laload, 1) := by decide +kernel
theorem dL_law_621 : decode cL_law 621 = .ok (.iload 6, 2) := by decide +kernel
theorem dL_law_623 : decode cL_law 623 = .ok (.i2l, 1) := by decide +kernel
theorem dL_law_624 : decode cL_law 624 = .ok (.lcmp, 1) := by decide +kernel
theorem dL_law_625 : decode cL_law 625 = .ok (.ifCond .eq 5, 3) := by decide +kernel
theorem dL_law_628 : decode cL_law 628 = .ok (.iconst 0, 1) := by decide +kernel
theorem dL_law_630 : decode cL_law 630 = .ok (.goto 1888, 3) := by decide +kernel
set_option maxRecDepth 20000 in
theorem ggL_law_L_revoke : GoodIn wsL_law wsL_revoke := goodIn_ca (goodIn_ca (goodIn_ca (goodIn_r _ [532, 146, 239, 533, 534, 535, 2, 536, 16, 153, 22, 473, 155, 156, 157, 158, 159, 160, 161, 162, 250, 251, 252, 253, 154, 537, 538, 539, 42, 540, 59, 61, 60, 260, 261, 262, 263, 264, 21, 265, 266, 267, 268, 269, 270, 90, 91, 389, 390, 391, 392, 393, 541, 542, 543, 544, 180, 545, 546, 547, 548, 549, 550, 551, 552, 553, 554, 555, 556, 63, 483, 484, 485, 486, 487, 488, 489, 1369, 1370, 1371, 1372, 1373, 1374, 1375, 1376, 1397, 1398, 1399, 1400, 1401, 1402, 1403, 1404, 1424, 1425, 1426, 1427, 1428, 1429, 1430, 1431, 1432, 1433, 1434, 1435, 1405, 1406, 1407] (by decide +kernel) (by decide +kernel)) (goodIn_sub (fun _ h => List.mem_append_left _ (List.mem_append_left _ (List.mem_append_left _ (List.mem_append_left _ (List.mem_append_left _ (List.mem_append_right _ h)))))) (by decide +kernel))) (goodIn_sub (fun _ h => List.mem_append_left _ (List.mem_append_left _ (List.mem_append_left _ (List.mem_append_left _ (List.mem_append_right _ h))))) (by decide +kernel))) (goodIn_sub (fun _ h => List.mem_append_left _ (List.mem_append_right _ h)) (by decide +kernel))
set_option maxRecDepth 20000 in
theorem gL_law_L_revoke : GoodIn wsL_law (va_wsS RL 160 yL_revoke wsL_revoke) := goodIn_app (goodIn_of _ (by decide +kernel)) ggL_law_L_revoke
set_option maxRecDepth 20000 in
theorem ggL_law_X9_revoke : GoodIn wsL_law wsX9_revoke := goodIn_ca (goodIn_r _ [560, 193, 132, 194, 195, 5, 196, 197, 198, 199, 408, 409, 410, 411, 412, 413, 414, 415, 416, 417, 418, 419, 420, 421, 422, 423, 137, 138, 561, 562, 563, 564, 565, 566, 567, 568, 1377, 1378, 1379, 1380, 1381, 1382, 1383, 1384, 1385, 1386, 1387, 1388, 1389, 1390, 1391, 1392, 1393, 1394, 1395, 1396] (by decide +kernel) (by decide +kernel)) (goodIn_sub (fun _ h => List.mem_append_left _ (List.mem_append_left _ (List.mem_append_left _ (List.mem_append_left _ (List.mem_append_left _ (List.mem_append_right _ h)))))) (by decide +kernel))
set_option maxRecDepth 20000 in
theorem gL_law_X9_revoke : GoodIn wsL_law (wsV RL 162 RX9 yX9_revoke wsX9_revoke) := goodIn_app (goodIn_of _ (by decide +kernel)) ggL_law_X9_revoke
set_option maxHeartbeats 4000000 in
set_option maxRecDepth 100000 in
theorem lc_565 {p : Program} {e : Env} {s : State} {m : MethodId} {below : List Frame} {meth : Method} {c : Code} (l : Launch) (hfl : l.stackTraces = false) {b L : Nat} {xs : Nat → Int32} {Q : State → Prop} (C0 : lw_At p s m meth c b L xs) {G : zG} {ad : Nat → Nat} {σ' : zs} (C1 S1 : Nat) (hC : C1 + 28 ≤ 601024) (hS1 : S1 + 2612 ≤ 7293034) (K23 : zs → Int32 → Option (Int32 × zs)) (hK23 : ∀ (σ : zs) (v4 : Int32) (H : Heap) (locs : List Loc) (ls : Array Slot), K23 σ v4 = some (1, σ') → xB (fun q : Nat => s.heap.size ≤ q) s G ad σ H locs → lv_has ls 7 [(0, .ref b), (1, .ref (ad 0)), (2, .ref (ad 65)), (3, .ref (ad 75)), (4, .int v4)] → W p l e room_1 s m #[Value.ref b] below meth c H locs (C1 + 28) (S1 + 2612) Q (F0 m 23 ls [])) (σ : zs) (v4 : Int32) (H : Heap) (locs : List Loc) (ls : Array Slot) (hf : f_L_law_565 L xs K23 σ v4 = some (1, σ')) (B : xB (fun q : Nat => s.heap.size ≤ q) s G ad σ H locs) (hl : lv_has ls 7 [(0, .ref b), (1, .ref (ad 0)), (2, .ref (ad 65)), (3, .ref (ad 75)), (4, .int v4)]) : W p l e room_1 s m #[Value.ref b] below meth c H locs C1 S1 Q (F0 m 565 ls []) := by
  obtain ⟨hx, hb, hr, hml, hown, hts0, hX, hbl, hlocks, hgv⟩ := id C0
  have hts := fun w h => hts0 w (wsL_law_in w h)
  have hbA : ¬ (fun q : Nat => s.heap.size ≤ q) b := Nat.not_le.mpr hbl
  unfold f_L_law_565 at hf
  refine lv_aload_n hx hb dL_law_565 rfl (lv_at hl 1 rfl) ?_
  refine lv_aload_n hx hb dL_law_566 rfl (lv_at hl 0 rfl) ?_
  refine lv_iload hx hb dL_law_567 (lv_at hl 4 rfl) ?_
  refine lv_iconst (v := (1 : Int32)) hx hb dL_law_569 (by decide) ?_
  refine lv_iadd hx hb dL_law_570 ?_
  obtain ⟨hg, hf⟩ := zg_some hf
  refine va_sld hx hb hX hbl hbA (xS B) (zin_ok hg) dL_law_571 ?_
  refine lv_aload_n hx hb dL_law_572 rfl (lv_at hl 0 rfl) ?_
  refine lv_iload hx hb dL_law_573 (lv_at hl 4 rfl) ?_
  refine lv_iconst (v := (2 : Int32)) hx hb dL_law_575 (by decide) ?_
  refine lv_iadd hx hb dL_law_576 ?_
  obtain ⟨hg, hf⟩ := zg_some hf
  refine va_sld hx hb hX hbl hbA (xS B) (zin_ok hg) dL_law_577 ?_
  refine lv_aload_n hx hb dL_law_578 rfl (lv_at hl 3 rfl) ?_
  obtain ⟨r2, σ3, hu1, hf⟩ := zb_some hf
  refine x_i B (fun nb a g hs Bz => vx_runSW (As := [.ref (ad 0), .int (xs (v4 + (1 : Int32)).toNatClampNeg), .int (xs (v4 + (2 : Int32)).toNatClampNeg), .ref (ad 75)]) (rest := []) ⟨hx, hb, hml, hown, hts⟩ (c_L_revoke_0_75 l hfl hu1 _ nb a g hs) (vx_cwSW 4 hts gL_law_L_revoke rfl rfl rfl (by decide +kernel) ⟨Nat.le_of_ble_eq_true rfl, Nat.le_of_ble_eq_true rfl⟩) (z_preS Bz) rfl rfl hl.1 rfl (lv_room (Nat.le_of_ble_eq_true rfl)) dL_law_579 ⟨(show C1 + 3 ≤ 601024 by omega), (show S1 + 18 ≤ 7293034 by omega)⟩) (fun H locs B => ?_)
  refine lv_istore (lv' := [(5, .int r2), (0, .ref b), (1, .ref (ad 0)), (2, .ref (ad 65)), (3, .ref (ad 75)), (4, .int v4)]) hx hb dL_law_582 hl (by decide) rfl (fun ls hl => ?_)
  refine lv_aload_n hx hb dL_law_584 rfl (lv_at hl 3 rfl) ?_
  refine lv_aload_n hx hb dL_law_585 rfl (lv_at hl 1 rfl) ?_
  refine lv_iload hx hb dL_law_586 (lv_at hl 5 rfl) ?_
  refine lv_iconst (v := (1 : Int32)) hx hb dL_law_588 (by decide) ?_
  refine lv_iadd hx hb dL_law_589 ?_
  obtain ⟨hg, hf⟩ := zg_some hf
  refine va_sld hx hb hX hbl hbA (xS B) (zin_ok hg) dL_law_590 ?_
  refine lv_aload_n hx hb dL_law_591 rfl (lv_at hl 1 rfl) ?_
  refine lv_iload hx hb dL_law_592 (lv_at hl 5 rfl) ?_
  refine lv_iconst (v := (2 : Int32)) hx hb dL_law_594 (by decide) ?_
  refine lv_iadd hx hb dL_law_595 ?_
  obtain ⟨hg, hf⟩ := zg_some hf
  refine va_sld hx hb hX hbl hbA (xS B) (zin_ok hg) dL_law_596 ?_
  obtain ⟨r5, σ6, hu4, hf⟩ := zb_some hf
  refine x_i B (fun nb a g hs Bz => va_runV (As := [.int (xs (v4 + (1 : Int32)).toNatClampNeg), .int (xs (v4 + (2 : Int32)).toNatClampNeg)]) (rest := []) ⟨hx, hb, hml, hown, hts⟩ (c_X9_revoke l hu4 _ nb a g hs) (cwV 2 hts gL_law_X9_revoke rfl rfl rfl (by decide +kernel) ⟨Nat.le_of_ble_eq_true rfl, Nat.le_of_ble_eq_true rfl⟩) (x_preV Bz (by decide) (fun _ => rfl) rfl) rfl rfl hl.1 rfl (lv_room (Nat.le_of_ble_eq_true rfl)) dL_law_597 ⟨(show C1 + 3 + 0 ≤ 601024 by omega), (show S1 + 18 + 0 ≤ 7293034 by omega)⟩) (fun H locs B => ?_)
  refine lv_istore (lv' := [(6, .int r5), (5, .int r2), (0, .ref b), (1, .ref (ad 0)), (2, .ref (ad 65)), (3, .ref (ad 75)), (4, .int v4)]) hx hb dL_law_600 hl (by decide) rfl (fun ls hl => ?_)
  refine lv_aload_n hx hb dL_law_602 rfl (lv_at hl 4 rfl) ?_
  obtain ⟨r8, σ9, hu7, hf⟩ := zb_some hf
  refine x_i B (fun nb a g hs Bz => va_runV (As := []) (rest := []) ⟨hx, hb, hml, hown, hts⟩ (c_X9_thrown l hu7 _ nb a g hs) (cwV 0 hts gL_law_X9_thrown rfl rfl rfl (by decide +kernel) ⟨Nat.le_of_ble_eq_true rfl, Nat.le_of_ble_eq_true rfl⟩) (x_preV Bz (by decide) (fun _ => rfl) rfl) rfl rfl hl.1 rfl (lv_room (Nat.le_of_ble_eq_true rfl)) dL_law_603 ⟨(show C1 + 3 + 0 + 0 ≤ 601024 by omega), (show S1 + 18 + 0 + 0 ≤ 7293034 by omega)⟩) (fun H locs B => ?_)
  refine lv_iload hx hb dL_law_606 (lv_at hl 1 rfl) ?_
  refine lv_icmp_eq (tgt := 613) hx hb dL_law_608 (by decide) (fun hc => ?_) (fun hc => ?_)
  · have hf := zif_t hc hf
    refine lv_iload hx hb dL_law_613 (lv_at hl 1 rfl) ?_
    refine lv_if_ne (tgt := 630) hx hb dL_law_615 (by decide) (fun hc => ?_) (fun hc => ?_)
    · have hf := zif_f hc hf
      refine lv_goto (tgt := 2518) hx hb dL_law_630 (by decide) ?_
      refine lv_iinc (v := (v4 + (5 : Int32))) (lv' := [(4, .int (v4 + (5 : Int32))), (6, .int r5), (5, .int r2), (0, .ref b), (1, .ref (ad 0)), (2, .ref (ad 65)), (3, .ref (ad 75))]) hx hb dL_law_2518 hl (k := 6) rfl (zc1 (by decide)) (by decide) rfl (fun ls hl => ?_)
      refine lv_goto (tgt := 23) hx hb dL_law_2521 (by decide) ?_
      refine W.widen (k := C1 + 28) (n := S1 + 2612) (show C1 + 3 + 0 + 0 ≤ C1 + 28 by omega) (show S1 + 18 + 0 + 0 ≤ S1 + 2612 by omega) ?_
      exact hK23 _ _ _ _ _ hf B (lv_sub hl [3, 4, 5, 6, 0] rfl)
    · have hf := zif_t hc hf
      refine lv_aload_n hx hb dL_law_618 rfl (lv_at hl 5 rfl) ?_
      refine lv_iconst (v := (0 : Int32)) hx hb dL_law_619 (by decide) ?_
      obtain ⟨hg, hf⟩ := zg_some hf
      refine x_lald hx hb B 75 (by decide) (fun _ => rfl) (zin_ok hg) dL_law_620 ?_
      refine lv_iload hx hb dL_law_621 (lv_at hl 0 rfl) ?_
      refine lv_i2l (v := r5.toInt64) hx hb dL_law_623 rfl ?_
      refine W.lcmp hx hb dL_law_624 ?_
      refine lv_if_eq (tgt := 630) hx hb dL_law_625 (by decide) (fun hc => ?_) (fun hc => ?_)
      · have hf := zif_t hc hf
        refine lv_goto (tgt := 2518) hx hb dL_law_630 (by decide) ?_
        refine lv_iinc (v := (v4 + (5 : Int32))) (lv' := [(4, .int (v4 + (5 : Int32))), (6, .int r5), (5, .int r2), (0, .ref b), (1, .ref (ad 0)), (2, .ref (ad 65)), (3, .ref (ad 75))]) hx hb dL_law_2518 hl (k := 6) rfl (zc1 (by decide)) (by decide) rfl (fun ls hl => ?_)
        refine lv_goto (tgt := 23) hx hb dL_law_2521 (by decide) ?_
        refine W.widen (k := C1 + 28) (n := S1 + 2612) (show C1 + 3 + 0 + 0 ≤ C1 + 28 by omega) (show S1 + 18 + 0 + 0 ≤ S1 + 2612 by omega) ?_
        exact hK23 _ _ _ _ _ hf B (lv_sub hl [3, 4, 5, 6, 0] rfl)
      · have hf := zif_f hc hf
        refine lv_iconst (v := (0 : Int32)) hx hb dL_law_628 (by decide) ?_
        exact absurd (show (0 : Int32) = 1 from congrArg Prod.fst (Option.some.inj hf)) (by decide)
  · have hf := zif_f hc hf
    refine lv_iconst (v := (0 : Int32)) hx hb dL_law_611 (by decide) ?_
    exact absurd (show (0 : Int32) = 1 from congrArg Prod.fst (Option.some.inj hf)) (by decide)
theorem dL_law_633 : decode cL_law 633 = .ok (.aload_n 1, 1) := by decide +kernel
theorem dL_law_634 : decode cL_law 634 = .ok (.aload_n 0, 1) := by decide +kernel
theorem dL_law_635 : decode cL_law 635 = .ok (.iload 4, 2) := by decide +kernel
theorem dL_law_637 : decode cL_law 637 = .ok (.iconst 1, 1) := by decide +kernel
theorem dL_law_638 : decode cL_law 638 = .ok (.iadd, 1) := by decide +kernel
theorem dL_law_639 : decode cL_law 639 = .ok (.iaload, 1) := by decide +kernel
theorem dL_law_640 : decode cL_law 640 = .ok (.aload_n 0, 1) := by decide +kernel
theorem dL_law_641 : decode cL_law 641 = .ok (.iload 4, 2) := by decide +kernel
theorem dL_law_643 : decode cL_law 643 = .ok (.iconst 2, 1) := by decide +kernel
theorem dL_law_644 : decode cL_law 644 = .ok (.iadd, 1) := by decide +kernel
theorem dL_law_645 : decode cL_law 645 = .ok (.iaload, 1) := by decide +kernel
theorem dL_law_646 : decode cL_law 646 = .ok (.aload_n 3, 1) := by decide +kernel
theorem dL_law_647 : decode cL_law 647 = .ok (.invokestatic 163, 3) := by decide +kernel
theorem dL_law_650 : decode cL_law 650 = .ok (.istore 5, 2) := by decide +kernel
theorem dL_law_652 : decode cL_law 652 = .ok (.aload_n 2, 1) := by decide +kernel
theorem dL_law_653 : decode cL_law 653 = .ok (.aload_n 0, 1) := by decide +kernel
theorem dL_law_654 : decode cL_law 654 = .ok (.iload 4, 2) := by decide +kernel
theorem dL_law_656 : decode cL_law 656 = .ok (.iconst 1, 1) := by decide +kernel
theorem dL_law_657 : decode cL_law 657 = .ok (.iadd, 1) := by decide +kernel
theorem dL_law_658 : decode cL_law 658 = .ok (.iaload, 1) := by decide +kernel
theorem dL_law_659 : decode cL_law 659 = .ok (.aload_n 0, 1) := by decide +kernel
theorem dL_law_660 : decode cL_law 660 = .ok (.iload 4, 2) := by decide +kernel
theorem dL_law_662 : decode cL_law 662 = .ok (.iconst 2, 1) := by decide +kernel
theorem dL_law_663 : decode cL_law 663 = .ok (.iadd, 1) := by decide +kernel
theorem dL_law_664 : decode cL_law 664 = .ok (.iaload, 1) := by decide +kernel
theorem dL_law_665 : decode cL_law 665 = .ok (.invokevirtual 165, 3) := by decide +kernel
theorem dL_law_668 : decode cL_law 668 = .ok (.istore 6, 2) := by decide +kernel
theorem dL_law_670 : decode cL_law 670 = .ok (.aload_n 2, 1) := by decide +kernel
theorem dL_law_671 : decode cL_law 671 = .ok (.invokevirtual 139, 3) := by decide +kernel
theorem dL_law_674 : decode cL_law 674 = .ok (.iload 5, 2) := by decide +kernel
theorem dL_law_676 : decode cL_law 676 = .ok (.if_icmp .eq 5, 3) := by decide +kernel
theorem dL_law_679 : decode cL_law 679 = .ok (.iconst 0, 1) := by decide +kernel
theorem dL_law_681 : decode cL_law 681 = .ok (.iload 5, 2) := by decide +kernel
theorem dL_law_683 : decode cL_law 683 = .ok (.ifCond .ne 15, 3) := by decide +kernel
theorem dL_law_686 : decode cL_law 686 = .ok (.aload_n 3, 1) := by decide +kernel
theorem dL_law_687 : decode cL_law 687 = .ok (.iconst 0, 1) := by decide +kernel
theorem dL_law_688 : decode cL_law 688 = .ok (.laload, 1) := by decide +kernel
theorem dL_law_689 : decode cL_law 689 = .ok (.iload 6, 2) := by decide +kernel
theorem dL_law_691 : decode cL_law 691 = .ok (.i2l, 1) := by decide +kernel
theorem dL_law_692 : decode cL_law 692 = .ok (.lcmp, 1) := by decide +kernel
theorem dL_law_693 : decode cL_law 693 = .ok (.ifCond .eq 5, 3) := by decide +kernel
theorem dL_law_696 : decode cL_law 696 = .ok (.iconst 0, 1) := by decide +kernel
theorem dL_law_698 : decode cL_law 698 = .ok (.goto 1820, 3) := by decide +kernel
set_option maxRecDepth 20000 in
theorem ggL_law_L_token : GoodIn wsL_law wsL_token := goodIn_ca (goodIn_ca (goodIn_ca (goodIn_r _ [571, 146, 147, 572, 573, 574, 2, 575, 16, 153, 576, 475, 474, 245, 250, 251, 252, 253, 154, 158, 159, 160, 161, 162, 166, 167, 168, 169, 170, 577, 578, 579, 42, 580, 59, 60, 581, 554, 555, 556, 63, 582, 583, 584, 585, 180, 586, 1369, 1370, 1371, 1372, 1373, 1374, 1375, 1376, 1397, 1398, 1399, 1400, 1401, 1402, 1403, 1404, 1424, 1425, 1426, 1427, 1428, 1429, 1430, 1431, 1432, 1433, 1434, 1435] (by decide +kernel) (by decide +kernel)) (goodIn_sub (fun _ h => List.mem_append_left _ (List.mem_append_left _ (List.mem_append_left _ (List.mem_append_left _ (List.mem_append_left _ (List.mem_append_right _ h)))))) (by decide +kernel))) (goodIn_sub (fun _ h => List.mem_append_left _ (List.mem_append_left _ (List.mem_append_left _ (List.mem_append_left _ (List.mem_append_right _ h))))) (by decide +kernel))) (goodIn_sub (fun _ h => List.mem_append_left _ (List.mem_append_left _ (List.mem_append_left _ (List.mem_append_right _ h)))) (by decide +kernel))
set_option maxRecDepth 20000 in
theorem gL_law_L_token : GoodIn wsL_law (va_wsS RL 163 yL_token wsL_token) := goodIn_app (goodIn_of _ (by decide +kernel)) ggL_law_L_token
set_option maxRecDepth 20000 in
theorem ggL_law_X9_token : GoodIn wsL_law wsX9_token := goodIn_ca (goodIn_r _ [590, 193, 132, 408, 409, 410, 5, 411, 197, 198, 199, 444, 445, 446, 447, 136, 565, 566, 567, 568, 591, 592, 593, 594, 1377, 1378, 1379, 1380, 1381, 1382, 1383, 1384, 1385, 1386, 1387, 1388, 1389, 1390, 1391, 1392, 1393, 1394, 1395, 1396] (by decide +kernel) (by decide +kernel)) (goodIn_sub (fun _ h => List.mem_append_left _ (List.mem_append_left _ (List.mem_append_left _ (List.mem_append_left _ (List.mem_append_left _ (List.mem_append_right _ h)))))) (by decide +kernel))
set_option maxRecDepth 20000 in
theorem gL_law_X9_token : GoodIn wsL_law (wsV RL 165 RX9 yX9_token wsX9_token) := goodIn_app (goodIn_of _ (by decide +kernel)) ggL_law_X9_token
set_option maxHeartbeats 4000000 in
set_option maxRecDepth 100000 in
theorem lc_633 {p : Program} {e : Env} {s : State} {m : MethodId} {below : List Frame} {meth : Method} {c : Code} (l : Launch) (hfl : l.stackTraces = false) {b L : Nat} {xs : Nat → Int32} {Q : State → Prop} (C0 : lw_At p s m meth c b L xs) {G : zG} {ad : Nat → Nat} {σ' : zs} (C1 S1 : Nat) (hC : C1 + 28 ≤ 601024) (hS1 : S1 + 2612 ≤ 7293034) (K23 : zs → Int32 → Option (Int32 × zs)) (hK23 : ∀ (σ : zs) (v4 : Int32) (H : Heap) (locs : List Loc) (ls : Array Slot), K23 σ v4 = some (1, σ') → xB (fun q : Nat => s.heap.size ≤ q) s G ad σ H locs → lv_has ls 7 [(0, .ref b), (1, .ref (ad 0)), (2, .ref (ad 65)), (3, .ref (ad 75)), (4, .int v4)] → W p l e room_1 s m #[Value.ref b] below meth c H locs (C1 + 28) (S1 + 2612) Q (F0 m 23 ls [])) (σ : zs) (v4 : Int32) (H : Heap) (locs : List Loc) (ls : Array Slot) (hf : f_L_law_633 L xs K23 σ v4 = some (1, σ')) (B : xB (fun q : Nat => s.heap.size ≤ q) s G ad σ H locs) (hl : lv_has ls 7 [(0, .ref b), (1, .ref (ad 0)), (2, .ref (ad 65)), (3, .ref (ad 75)), (4, .int v4)]) : W p l e room_1 s m #[Value.ref b] below meth c H locs C1 S1 Q (F0 m 633 ls []) := by
  obtain ⟨hx, hb, hr, hml, hown, hts0, hX, hbl, hlocks, hgv⟩ := id C0
  have hts := fun w h => hts0 w (wsL_law_in w h)
  have hbA : ¬ (fun q : Nat => s.heap.size ≤ q) b := Nat.not_le.mpr hbl
  unfold f_L_law_633 at hf
  refine lv_aload_n hx hb dL_law_633 rfl (lv_at hl 1 rfl) ?_
  refine lv_aload_n hx hb dL_law_634 rfl (lv_at hl 0 rfl) ?_
  refine lv_iload hx hb dL_law_635 (lv_at hl 4 rfl) ?_
  refine lv_iconst (v := (1 : Int32)) hx hb dL_law_637 (by decide) ?_
  refine lv_iadd hx hb dL_law_638 ?_
  obtain ⟨hg, hf⟩ := zg_some hf
  refine va_sld hx hb hX hbl hbA (xS B) (zin_ok hg) dL_law_639 ?_
  refine lv_aload_n hx hb dL_law_640 rfl (lv_at hl 0 rfl) ?_
  refine lv_iload hx hb dL_law_641 (lv_at hl 4 rfl) ?_
  refine lv_iconst (v := (2 : Int32)) hx hb dL_law_643 (by decide) ?_
  refine lv_iadd hx hb dL_law_644 ?_
  obtain ⟨hg, hf⟩ := zg_some hf
  refine va_sld hx hb hX hbl hbA (xS B) (zin_ok hg) dL_law_645 ?_
  refine lv_aload_n hx hb dL_law_646 rfl (lv_at hl 3 rfl) ?_
  obtain ⟨r2, σ3, hu1, hf⟩ := zb_some hf
  refine x_i B (fun nb a g hs Bz => vx_runSW (As := [.ref (ad 0), .int (xs (v4 + (1 : Int32)).toNatClampNeg), .int (xs (v4 + (2 : Int32)).toNatClampNeg), .ref (ad 75)]) (rest := []) ⟨hx, hb, hml, hown, hts⟩ (c_L_token_0_75 l hfl hu1 _ nb a g hs) (vx_cwSW 4 hts gL_law_L_token rfl rfl rfl (by decide +kernel) ⟨Nat.le_of_ble_eq_true rfl, Nat.le_of_ble_eq_true rfl⟩) (z_preS Bz) rfl rfl hl.1 rfl (lv_room (Nat.le_of_ble_eq_true rfl)) dL_law_647 ⟨(show C1 + 2 ≤ 601024 by omega), (show S1 + 12 ≤ 7293034 by omega)⟩) (fun H locs B => ?_)
  refine lv_istore (lv' := [(5, .int r2), (0, .ref b), (1, .ref (ad 0)), (2, .ref (ad 65)), (3, .ref (ad 75)), (4, .int v4)]) hx hb dL_law_650 hl (by decide) rfl (fun ls hl => ?_)
  refine lv_aload_n hx hb dL_law_652 rfl (lv_at hl 3 rfl) ?_
  refine lv_aload_n hx hb dL_law_653 rfl (lv_at hl 1 rfl) ?_
  refine lv_iload hx hb dL_law_654 (lv_at hl 5 rfl) ?_
  refine lv_iconst (v := (1 : Int32)) hx hb dL_law_656 (by decide) ?_
  refine lv_iadd hx hb dL_law_657 ?_
  obtain ⟨hg, hf⟩ := zg_some hf
  refine va_sld hx hb hX hbl hbA (xS B) (zin_ok hg) dL_law_658 ?_
  refine lv_aload_n hx hb dL_law_659 rfl (lv_at hl 1 rfl) ?_
  refine lv_iload hx hb dL_law_660 (lv_at hl 5 rfl) ?_
  refine lv_iconst (v := (2 : Int32)) hx hb dL_law_662 (by decide) ?_
  refine lv_iadd hx hb dL_law_663 ?_
  obtain ⟨hg, hf⟩ := zg_some hf
  refine va_sld hx hb hX hbl hbA (xS B) (zin_ok hg) dL_law_664 ?_
  obtain ⟨r5, σ6, hu4, hf⟩ := zb_some hf
  refine x_i B (fun nb a g hs Bz => va_runV (As := [.int (xs (v4 + (1 : Int32)).toNatClampNeg), .int (xs (v4 + (2 : Int32)).toNatClampNeg)]) (rest := []) ⟨hx, hb, hml, hown, hts⟩ (c_X9_token l hu4 _ nb a g hs) (cwV 2 hts gL_law_X9_token rfl rfl rfl (by decide +kernel) ⟨Nat.le_of_ble_eq_true rfl, Nat.le_of_ble_eq_true rfl⟩) (x_preV Bz (by decide) (fun _ => rfl) rfl) rfl rfl hl.1 rfl (lv_room (Nat.le_of_ble_eq_true rfl)) dL_law_665 ⟨(show C1 + 2 + 0 ≤ 601024 by omega), (show S1 + 12 + 0 ≤ 7293034 by omega)⟩) (fun H locs B => ?_)
  refine lv_istore (lv' := [(6, .int r5), (5, .int r2), (0, .ref b), (1, .ref (ad 0)), (2, .ref (ad 65)), (3, .ref (ad 75)), (4, .int v4)]) hx hb dL_law_668 hl (by decide) rfl (fun ls hl => ?_)
  refine lv_aload_n hx hb dL_law_670 rfl (lv_at hl 4 rfl) ?_
  obtain ⟨r8, σ9, hu7, hf⟩ := zb_some hf
  refine x_i B (fun nb a g hs Bz => va_runV (As := []) (rest := []) ⟨hx, hb, hml, hown, hts⟩ (c_X9_thrown l hu7 _ nb a g hs) (cwV 0 hts gL_law_X9_thrown rfl rfl rfl (by decide +kernel) ⟨Nat.le_of_ble_eq_true rfl, Nat.le_of_ble_eq_true rfl⟩) (x_preV Bz (by decide) (fun _ => rfl) rfl) rfl rfl hl.1 rfl (lv_room (Nat.le_of_ble_eq_true rfl)) dL_law_671 ⟨(show C1 + 2 + 0 + 0 ≤ 601024 by omega), (show S1 + 12 + 0 + 0 ≤ 7293034 by omega)⟩) (fun H locs B => ?_)
  refine lv_iload hx hb dL_law_674 (lv_at hl 1 rfl) ?_
  refine lv_icmp_eq (tgt := 681) hx hb dL_law_676 (by decide) (fun hc => ?_) (fun hc => ?_)
  · have hf := zif_t hc hf
    refine lv_iload hx hb dL_law_681 (lv_at hl 1 rfl) ?_
    refine lv_if_ne (tgt := 698) hx hb dL_law_683 (by decide) (fun hc => ?_) (fun hc => ?_)
    · have hf := zif_f hc hf
      refine lv_goto (tgt := 2518) hx hb dL_law_698 (by decide) ?_
      refine lv_iinc (v := (v4 + (5 : Int32))) (lv' := [(4, .int (v4 + (5 : Int32))), (6, .int r5), (5, .int r2), (0, .ref b), (1, .ref (ad 0)), (2, .ref (ad 65)), (3, .ref (ad 75))]) hx hb dL_law_2518 hl (k := 6) rfl (zc1 (by decide)) (by decide) rfl (fun ls hl => ?_)
      refine lv_goto (tgt := 23) hx hb dL_law_2521 (by decide) ?_
      refine W.widen (k := C1 + 28) (n := S1 + 2612) (show C1 + 2 + 0 + 0 ≤ C1 + 28 by omega) (show S1 + 12 + 0 + 0 ≤ S1 + 2612 by omega) ?_
      exact hK23 _ _ _ _ _ hf B (lv_sub hl [3, 4, 5, 6, 0] rfl)
    · have hf := zif_t hc hf
      refine lv_aload_n hx hb dL_law_686 rfl (lv_at hl 5 rfl) ?_
      refine lv_iconst (v := (0 : Int32)) hx hb dL_law_687 (by decide) ?_
      obtain ⟨hg, hf⟩ := zg_some hf
      refine x_lald hx hb B 75 (by decide) (fun _ => rfl) (zin_ok hg) dL_law_688 ?_
      refine lv_iload hx hb dL_law_689 (lv_at hl 0 rfl) ?_
      refine lv_i2l (v := r5.toInt64) hx hb dL_law_691 rfl ?_
      refine W.lcmp hx hb dL_law_692 ?_
      refine lv_if_eq (tgt := 698) hx hb dL_law_693 (by decide) (fun hc => ?_) (fun hc => ?_)
      · have hf := zif_t hc hf
        refine lv_goto (tgt := 2518) hx hb dL_law_698 (by decide) ?_
        refine lv_iinc (v := (v4 + (5 : Int32))) (lv' := [(4, .int (v4 + (5 : Int32))), (6, .int r5), (5, .int r2), (0, .ref b), (1, .ref (ad 0)), (2, .ref (ad 65)), (3, .ref (ad 75))]) hx hb dL_law_2518 hl (k := 6) rfl (zc1 (by decide)) (by decide) rfl (fun ls hl => ?_)
        refine lv_goto (tgt := 23) hx hb dL_law_2521 (by decide) ?_
        refine W.widen (k := C1 + 28) (n := S1 + 2612) (show C1 + 2 + 0 + 0 ≤ C1 + 28 by omega) (show S1 + 12 + 0 + 0 ≤ S1 + 2612 by omega) ?_
        exact hK23 _ _ _ _ _ hf B (lv_sub hl [3, 4, 5, 6, 0] rfl)
      · have hf := zif_f hc hf
        refine lv_iconst (v := (0 : Int32)) hx hb dL_law_696 (by decide) ?_
        exact absurd (show (0 : Int32) = 1 from congrArg Prod.fst (Option.some.inj hf)) (by decide)
  · have hf := zif_f hc hf
    refine lv_iconst (v := (0 : Int32)) hx hb dL_law_679 (by decide) ?_
    exact absurd (show (0 : Int32) = 1 from congrArg Prod.fst (Option.some.inj hf)) (by decide)
theorem dL_law_701 : decode cL_law 701 = .ok (.aload_n 1, 1) := by decide +kernel
theorem dL_law_702 : decode cL_law 702 = .ok (.aload_n 0, 1) := by decide +kernel
theorem dL_law_703 : decode cL_law 703 = .ok (.iload 4, 2) := by decide +kernel
theorem dL_law_705 : decode cL_law 705 = .ok (.iconst 1, 1) := by decide +kernel
theorem dL_law_706 : decode cL_law 706 = .ok (.iadd, 1) := by decide +kernel
theorem dL_law_707 : decode cL_law 707 = .ok (.iaload, 1) := by decide +kernel
theorem dL_law_708 : decode cL_law 708 = .ok (.aload_n 0, 1) := by decide +kernel
theorem dL_law_709 : decode cL_law 709 = .ok (.iload 4, 2) := by decide +kernel
theorem dL_law_711 : decode cL_law 711 = .ok (.iconst 2, 1) := by decide +kernel
theorem dL_law_712 : decode cL_law 712 = .ok (.iadd, 1) := by decide +kernel
theorem dL_law_713 : decode cL_law 713 = .ok (.iaload, 1) := by decide +kernel
theorem dL_law_714 : decode cL_law 714 = .ok (.aload_n 0, 1) := by decide +kernel
theorem dL_law_715 : decode cL_law 715 = .ok (.iload 4, 2) := by decide +kernel
theorem dL_law_717 : decode cL_law 717 = .ok (.iconst 3, 1) := by decide +kernel
theorem dL_law_718 : decode cL_law 718 = .ok (.iadd, 1) := by decide +kernel
theorem dL_law_719 : decode cL_law 719 = .ok (.iaload, 1) := by decide +kernel
theorem dL_law_720 : decode cL_law 720 = .ok (.aload_n 3, 1) := by decide +kernel
theorem dL_law_721 : decode cL_law 721 = .ok (.invokestatic 166, 3) := by decide +kernel
theorem dL_law_724 : decode cL_law 724 = .ok (.istore 5, 2) := by decide +kernel
theorem dL_law_726 : decode cL_law 726 = .ok (.aload_n 2, 1) := by decide +kernel
theorem dL_law_727 : decode cL_law 727 = .ok (.aload_n 0, 1) := by decide +kernel
theorem dL_law_728 : decode cL_law 728 = .ok (.iload 4, 2) := by decide +kernel
theorem dL_law_730 : decode cL_law 730 = .ok (.iconst 1, 1) := by decide +kernel
theorem dL_law_731 : decode cL_law 731 = .ok (.iadd, 1) := by decide +kernel
theorem dL_law_732 : decode cL_law 732 = .ok (.iaload, 1) := by decide +kernel
theorem dL_law_733 : decode cL_law 733 = .ok (.aload_n 0, 1) := by decide +kernel
theorem dL_law_734 : decode cL_law 734 = .ok (.iload 4, 2) := by decide +kernel
theorem dL_law_736 : decode cL_law 736 = .ok (.iconst 2, 1) := by decide +kernel
theorem dL_law_737 : decode cL_law 737 = .ok (.iadd, 1) := by decide +kernel
theorem dL_law_738 : decode cL_law 738 = .ok (.iaload, 1) := by decide +kernel
theorem dL_law_739 : decode cL_law 739 = .ok (.aload_n 0, 1) := by decide +kernel
theorem dL_law_740 : decode cL_law 740 = .ok (.iload 4, 2) := by decide +kernel
theorem dL_law_742 : decode cL_law 742 = .ok (.iconst 3, 1) := by decide +kernel
theorem dL_law_743 : decode cL_law 743 = .ok (.iadd, 1) := by decide +kernel
theorem dL_law_744 : decode cL_law 744 = .ok (.iaload, 1) := by decide +kernel
theorem dL_law_745 : decode cL_law 745 = .ok (.invokevirtual 168, 3) := by decide +kernel
theorem dL_law_748 : decode cL_law 748 = .ok (.istore 6, 2) := by decide +kernel
theorem dL_law_750 : decode cL_law 750 = .ok (.aload_n 2, 1) := by decide +kernel
theorem dL_law_751 : decode cL_law 751 = .ok (.invokevirtual 139, 3) := by decide +kernel
theorem dL_law_754 : decode cL_law 754 = .ok (.iload 5, 2) := by decide +kernel
theorem dL_law_756 : decode cL_law 756 = .ok (.if_icmp .eq 5, 3) := by decide +kernel
theorem dL_law_759 : decode cL_law 759 = .ok (.iconst 0, 1) := by decide +kernel
theorem dL_law_761 : decode cL_law 761 = .ok (.iload 5, 2) := by decide +kernel
theorem dL_law_763 : decode cL_law 763 = .ok (.ifCond .ne 15, 3) := by decide +kernel
theorem dL_law_766 : decode cL_law 766 = .ok (.aload_n 3, 1) := by decide +kernel
theorem dL_law_767 : decode cL_law 767 = .ok (.iconst 0, 1) := by decide +kernel
theorem dL_law_768 : decode cL_law 768 = .ok (.laload, 1) := by decide +kernel
theorem dL_law_769 : decode cL_law 769 = .ok (.iload 6, 2) := by decide +kernel
theorem dL_law_771 : decode cL_law 771 = .ok (.i2l, 1) := by decide +kernel
theorem dL_law_772 : decode cL_law 772 = .ok (.lcmp, 1) := by decide +kernel
theorem dL_law_773 : decode cL_law 773 = .ok (.ifCond .eq 5, 3) := by decide +kernel
theorem dL_law_776 : decode cL_law 776 = .ok (.iconst 0, 1) := by decide +kernel
theorem dL_law_778 : decode cL_law 778 = .ok (.goto 1740, 3) := by decide +kernel
set_option maxRecDepth 20000 in
theorem ggL_law_L_caveat : GoodIn wsL_law wsL_caveat := goodIn_ca (goodIn_ca (goodIn_ca (goodIn_r _ [597, 146, 147, 598, 599, 600, 2, 601, 16, 153, 475, 476, 477, 478, 250, 251, 252, 253, 154, 158, 159, 160, 161, 162, 166, 167, 168, 169, 170, 1369, 1370, 1371, 1372, 1373, 1374, 1375, 1376, 1397, 1398, 1399, 1400, 1401, 1402, 1403, 1404, 1424, 1425, 1426, 1427, 1428, 1429, 1430, 1431, 1432, 1433, 1434, 1435] (by decide +kernel) (by decide +kernel)) (goodIn_sub (fun _ h => List.mem_append_left _ (List.mem_append_left _ (List.mem_append_left _ (List.mem_append_left _ (List.mem_append_left _ (List.mem_append_right _ h)))))) (by decide +kernel))) (goodIn_sub (fun _ h => List.mem_append_left _ (List.mem_append_left _ (List.mem_append_left _ (List.mem_append_left _ (List.mem_append_right _ h))))) (by decide +kernel))) (goodIn_sub (fun _ h => List.mem_append_left _ (List.mem_append_left _ (List.mem_append_left _ (List.mem_append_right _ h)))) (by decide +kernel))
set_option maxRecDepth 20000 in
theorem gL_law_L_caveat : GoodIn wsL_law (va_wsS RL 166 yL_caveat wsL_caveat) := goodIn_app (goodIn_of _ (by decide +kernel)) ggL_law_L_caveat
set_option maxRecDepth 20000 in
theorem ggL_law_X9_caveat : GoodIn wsL_law wsX9_caveat := goodIn_ca (goodIn_r _ [605, 132, 193, 408, 409, 410, 5, 411, 197, 198, 199, 502, 503, 504, 505, 1377, 1378, 1379, 1380, 1381, 1382, 1383, 1384, 1385, 1386, 1387, 1388, 1389, 1390, 1391, 1392, 1393, 1394, 1395, 1396] (by decide +kernel) (by decide +kernel)) (goodIn_sub (fun _ h => List.mem_append_left _ (List.mem_append_left _ (List.mem_append_left _ (List.mem_append_left _ (List.mem_append_left _ (List.mem_append_right _ h)))))) (by decide +kernel))
set_option maxRecDepth 20000 in
theorem gL_law_X9_caveat : GoodIn wsL_law (wsV RL 168 RX9 yX9_caveat wsX9_caveat) := goodIn_app (goodIn_of _ (by decide +kernel)) ggL_law_X9_caveat
set_option maxHeartbeats 4000000 in
set_option maxRecDepth 100000 in
theorem lc_701 {p : Program} {e : Env} {s : State} {m : MethodId} {below : List Frame} {meth : Method} {c : Code} (l : Launch) (hfl : l.stackTraces = false) {b L : Nat} {xs : Nat → Int32} {Q : State → Prop} (C0 : lw_At p s m meth c b L xs) {G : zG} {ad : Nat → Nat} {σ' : zs} (C1 S1 : Nat) (hC : C1 + 28 ≤ 601024) (hS1 : S1 + 2612 ≤ 7293034) (K23 : zs → Int32 → Option (Int32 × zs)) (hK23 : ∀ (σ : zs) (v4 : Int32) (H : Heap) (locs : List Loc) (ls : Array Slot), K23 σ v4 = some (1, σ') → xB (fun q : Nat => s.heap.size ≤ q) s G ad σ H locs → lv_has ls 7 [(0, .ref b), (1, .ref (ad 0)), (2, .ref (ad 65)), (3, .ref (ad 75)), (4, .int v4)] → W p l e room_1 s m #[Value.ref b] below meth c H locs (C1 + 28) (S1 + 2612) Q (F0 m 23 ls [])) (σ : zs) (v4 : Int32) (H : Heap) (locs : List Loc) (ls : Array Slot) (hf : f_L_law_701 L xs K23 σ v4 = some (1, σ')) (B : xB (fun q : Nat => s.heap.size ≤ q) s G ad σ H locs) (hl : lv_has ls 7 [(0, .ref b), (1, .ref (ad 0)), (2, .ref (ad 65)), (3, .ref (ad 75)), (4, .int v4)]) : W p l e room_1 s m #[Value.ref b] below meth c H locs C1 S1 Q (F0 m 701 ls []) := by
  obtain ⟨hx, hb, hr, hml, hown, hts0, hX, hbl, hlocks, hgv⟩ := id C0
  have hts := fun w h => hts0 w (wsL_law_in w h)
  have hbA : ¬ (fun q : Nat => s.heap.size ≤ q) b := Nat.not_le.mpr hbl
  unfold f_L_law_701 at hf
  refine lv_aload_n hx hb dL_law_701 rfl (lv_at hl 1 rfl) ?_
  refine lv_aload_n hx hb dL_law_702 rfl (lv_at hl 0 rfl) ?_
  refine lv_iload hx hb dL_law_703 (lv_at hl 4 rfl) ?_
  refine lv_iconst (v := (1 : Int32)) hx hb dL_law_705 (by decide) ?_
  refine lv_iadd hx hb dL_law_706 ?_
  obtain ⟨hg, hf⟩ := zg_some hf
  refine va_sld hx hb hX hbl hbA (xS B) (zin_ok hg) dL_law_707 ?_
  refine lv_aload_n hx hb dL_law_708 rfl (lv_at hl 0 rfl) ?_
  refine lv_iload hx hb dL_law_709 (lv_at hl 4 rfl) ?_
  refine lv_iconst (v := (2 : Int32)) hx hb dL_law_711 (by decide) ?_
  refine lv_iadd hx hb dL_law_712 ?_
  obtain ⟨hg, hf⟩ := zg_some hf
  refine va_sld hx hb hX hbl hbA (xS B) (zin_ok hg) dL_law_713 ?_
  refine lv_aload_n hx hb dL_law_714 rfl (lv_at hl 0 rfl) ?_
  refine lv_iload hx hb dL_law_715 (lv_at hl 4 rfl) ?_
  refine lv_iconst (v := (3 : Int32)) hx hb dL_law_717 (by decide) ?_
  refine lv_iadd hx hb dL_law_718 ?_
  obtain ⟨hg, hf⟩ := zg_some hf
  refine va_sld hx hb hX hbl hbA (xS B) (zin_ok hg) dL_law_719 ?_
  refine lv_aload_n hx hb dL_law_720 rfl (lv_at hl 3 rfl) ?_
  obtain ⟨r2, σ3, hu1, hf⟩ := zb_some hf
  refine x_i B (fun nb a g hs Bz => vx_runSW (As := [.ref (ad 0), .int (xs (v4 + (1 : Int32)).toNatClampNeg), .int (xs (v4 + (2 : Int32)).toNatClampNeg), .int (xs (v4 + (3 : Int32)).toNatClampNeg), .ref (ad 75)]) (rest := []) ⟨hx, hb, hml, hown, hts⟩ (c_L_caveat_0_75 l hfl hu1 _ nb a g hs) (vx_cwSW 5 hts gL_law_L_caveat rfl rfl rfl (by decide +kernel) ⟨Nat.le_of_ble_eq_true rfl, Nat.le_of_ble_eq_true rfl⟩) (z_preS Bz) rfl rfl hl.1 rfl (lv_room (Nat.le_of_ble_eq_true rfl)) dL_law_721 ⟨(show C1 + 3 ≤ 601024 by omega), (show S1 + 18 ≤ 7293034 by omega)⟩) (fun H locs B => ?_)
  refine lv_istore (lv' := [(5, .int r2), (0, .ref b), (1, .ref (ad 0)), (2, .ref (ad 65)), (3, .ref (ad 75)), (4, .int v4)]) hx hb dL_law_724 hl (by decide) rfl (fun ls hl => ?_)
  refine lv_aload_n hx hb dL_law_726 rfl (lv_at hl 3 rfl) ?_
  refine lv_aload_n hx hb dL_law_727 rfl (lv_at hl 1 rfl) ?_
  refine lv_iload hx hb dL_law_728 (lv_at hl 5 rfl) ?_
  refine lv_iconst (v := (1 : Int32)) hx hb dL_law_730 (by decide) ?_
  refine lv_iadd hx hb dL_law_731 ?_
  obtain ⟨hg, hf⟩ := zg_some hf
  refine va_sld hx hb hX hbl hbA (xS B) (zin_ok hg) dL_law_732 ?_
  refine lv_aload_n hx hb dL_law_733 rfl (lv_at hl 1 rfl) ?_
  refine lv_iload hx hb dL_law_734 (lv_at hl 5 rfl) ?_
  refine lv_iconst (v := (2 : Int32)) hx hb dL_law_736 (by decide) ?_
  refine lv_iadd hx hb dL_law_737 ?_
  obtain ⟨hg, hf⟩ := zg_some hf
  refine va_sld hx hb hX hbl hbA (xS B) (zin_ok hg) dL_law_738 ?_
  refine lv_aload_n hx hb dL_law_739 rfl (lv_at hl 1 rfl) ?_
  refine lv_iload hx hb dL_law_740 (lv_at hl 5 rfl) ?_
  refine lv_iconst (v := (3 : Int32)) hx hb dL_law_742 (by decide) ?_
  refine lv_iadd hx hb dL_law_743 ?_
  obtain ⟨hg, hf⟩ := zg_some hf
  refine va_sld hx hb hX hbl hbA (xS B) (zin_ok hg) dL_law_744 ?_
  obtain ⟨r5, σ6, hu4, hf⟩ := zb_some hf
  refine x_i B (fun nb a g hs Bz => va_runV (As := [.int (xs (v4 + (1 : Int32)).toNatClampNeg), .int (xs (v4 + (2 : Int32)).toNatClampNeg), .int (xs (v4 + (3 : Int32)).toNatClampNeg)]) (rest := []) ⟨hx, hb, hml, hown, hts⟩ (c_X9_caveat l hu4 _ nb a g hs) (cwV 3 hts gL_law_X9_caveat rfl rfl rfl (by decide +kernel) ⟨Nat.le_of_ble_eq_true rfl, Nat.le_of_ble_eq_true rfl⟩) (x_preV Bz (by decide) (fun _ => rfl) rfl) rfl rfl hl.1 rfl (lv_room (Nat.le_of_ble_eq_true rfl)) dL_law_745 ⟨(show C1 + 3 + 0 ≤ 601024 by omega), (show S1 + 18 + 0 ≤ 7293034 by omega)⟩) (fun H locs B => ?_)
  refine lv_istore (lv' := [(6, .int r5), (5, .int r2), (0, .ref b), (1, .ref (ad 0)), (2, .ref (ad 65)), (3, .ref (ad 75)), (4, .int v4)]) hx hb dL_law_748 hl (by decide) rfl (fun ls hl => ?_)
  refine lv_aload_n hx hb dL_law_750 rfl (lv_at hl 4 rfl) ?_
  obtain ⟨r8, σ9, hu7, hf⟩ := zb_some hf
  refine x_i B (fun nb a g hs Bz => va_runV (As := []) (rest := []) ⟨hx, hb, hml, hown, hts⟩ (c_X9_thrown l hu7 _ nb a g hs) (cwV 0 hts gL_law_X9_thrown rfl rfl rfl (by decide +kernel) ⟨Nat.le_of_ble_eq_true rfl, Nat.le_of_ble_eq_true rfl⟩) (x_preV Bz (by decide) (fun _ => rfl) rfl) rfl rfl hl.1 rfl (lv_room (Nat.le_of_ble_eq_true rfl)) dL_law_751 ⟨(show C1 + 3 + 0 + 0 ≤ 601024 by omega), (show S1 + 18 + 0 + 0 ≤ 7293034 by omega)⟩) (fun H locs B => ?_)
  refine lv_iload hx hb dL_law_754 (lv_at hl 1 rfl) ?_
  refine lv_icmp_eq (tgt := 761) hx hb dL_law_756 (by decide) (fun hc => ?_) (fun hc => ?_)
  · have hf := zif_t hc hf
    refine lv_iload hx hb dL_law_761 (lv_at hl 1 rfl) ?_
    refine lv_if_ne (tgt := 778) hx hb dL_law_763 (by decide) (fun hc => ?_) (fun hc => ?_)
    · have hf := zif_f hc hf
      refine lv_goto (tgt := 2518) hx hb dL_law_778 (by decide) ?_
      refine lv_iinc (v := (v4 + (5 : Int32))) (lv' := [(4, .int (v4 + (5 : Int32))), (6, .int r5), (5, .int r2), (0, .ref b), (1, .ref (ad 0)), (2, .ref (ad 65)), (3, .ref (ad 75))]) hx hb dL_law_2518 hl (k := 6) rfl (zc1 (by decide)) (by decide) rfl (fun ls hl => ?_)
      refine lv_goto (tgt := 23) hx hb dL_law_2521 (by decide) ?_
      refine W.widen (k := C1 + 28) (n := S1 + 2612) (show C1 + 3 + 0 + 0 ≤ C1 + 28 by omega) (show S1 + 18 + 0 + 0 ≤ S1 + 2612 by omega) ?_
      exact hK23 _ _ _ _ _ hf B (lv_sub hl [3, 4, 5, 6, 0] rfl)
    · have hf := zif_t hc hf
      refine lv_aload_n hx hb dL_law_766 rfl (lv_at hl 5 rfl) ?_
      refine lv_iconst (v := (0 : Int32)) hx hb dL_law_767 (by decide) ?_
      obtain ⟨hg, hf⟩ := zg_some hf
      refine x_lald hx hb B 75 (by decide) (fun _ => rfl) (zin_ok hg) dL_law_768 ?_
      refine lv_iload hx hb dL_law_769 (lv_at hl 0 rfl) ?_
      refine lv_i2l (v := r5.toInt64) hx hb dL_law_771 rfl ?_
      refine W.lcmp hx hb dL_law_772 ?_
      refine lv_if_eq (tgt := 778) hx hb dL_law_773 (by decide) (fun hc => ?_) (fun hc => ?_)
      · have hf := zif_t hc hf
        refine lv_goto (tgt := 2518) hx hb dL_law_778 (by decide) ?_
        refine lv_iinc (v := (v4 + (5 : Int32))) (lv' := [(4, .int (v4 + (5 : Int32))), (6, .int r5), (5, .int r2), (0, .ref b), (1, .ref (ad 0)), (2, .ref (ad 65)), (3, .ref (ad 75))]) hx hb dL_law_2518 hl (k := 6) rfl (zc1 (by decide)) (by decide) rfl (fun ls hl => ?_)
        refine lv_goto (tgt := 23) hx hb dL_law_2521 (by decide) ?_
        refine W.widen (k := C1 + 28) (n := S1 + 2612) (show C1 + 3 + 0 + 0 ≤ C1 + 28 by omega) (show S1 + 18 + 0 + 0 ≤ S1 + 2612 by omega) ?_
        exact hK23 _ _ _ _ _ hf B (lv_sub hl [3, 4, 5, 6, 0] rfl)
      · have hf := zif_f hc hf
        refine lv_iconst (v := (0 : Int32)) hx hb dL_law_776 (by decide) ?_
        exact absurd (show (0 : Int32) = 1 from congrArg Prod.fst (Option.some.inj hf)) (by decide)
  · have hf := zif_f hc hf
    refine lv_iconst (v := (0 : Int32)) hx hb dL_law_759 (by decide) ?_
    exact absurd (show (0 : Int32) = 1 from congrArg Prod.fst (Option.some.inj hf)) (by decide)
theorem dL_law_781 : decode cL_law 781 = .ok (.aload_n 1, 1) := by decide +kernel
theorem dL_law_782 : decode cL_law 782 = .ok (.aload_n 0, 1) := by decide +kernel
theorem dL_law_783 : decode cL_law 783 = .ok (.iload 4, 2) := by decide +kernel
theorem dL_law_785 : decode cL_law 785 = .ok (.iconst 1, 1) := by decide +kernel
theorem dL_law_786 : decode cL_law 786 = .ok (.iadd, 1) := by decide +kernel
theorem dL_law_787 : decode cL_law 787 = .ok (.iaload, 1) := by decide +kernel
theorem dL_law_788 : decode cL_law 788 = .ok (.aload_n 0, 1) := by decide +kernel
theorem dL_law_789 : decode cL_law 789 = .ok (.iload 4, 2) := by decide +kernel
theorem dL_law_791 : decode cL_law 791 = .ok (.iconst 2, 1) := by decide +kernel
theorem dL_law_792 : decode cL_law 792 = .ok (.iadd, 1) := by decide +kernel
theorem dL_law_793 : decode cL_law 793 = .ok (.iaload, 1) := by decide +kernel
theorem dL_law_794 : decode cL_law 794 = .ok (.aload_n 3, 1) := by decide +kernel
theorem dL_law_795 : decode cL_law 795 = .ok (.invokestatic 169, 3) := by decide +kernel
theorem dL_law_798 : decode cL_law 798 = .ok (.istore 5, 2) := by decide +kernel
theorem dL_law_800 : decode cL_law 800 = .ok (.aload_n 2, 1) := by decide +kernel
theorem dL_law_801 : decode cL_law 801 = .ok (.aload_n 0, 1) := by decide +kernel
theorem dL_law_802 : decode cL_law 802 = .ok (.iload 4, 2) := by decide +kernel
theorem dL_law_804 : decode cL_law 804 = .ok (.iconst 1, 1) := by decide +kernel
theorem dL_law_805 : decode cL_law 805 = .ok (.iadd, 1) := by decide +kernel
theorem dL_law_806 : decode cL_law 806 = .ok (.iaload, 1) := by decide +kernel
theorem dL_law_807 : decode cL_law 807 = .ok (.aload_n 0, 1) := by decide +kernel
theorem dL_law_808 : decode cL_law 808 = .ok (.iload 4, 2) := by decide +kernel
theorem dL_law_810 : decode cL_law 810 = .ok (.iconst 2, 1) := by decide +kernel
theorem dL_law_811 : decode cL_law 811 = .ok (.iadd, 1) := by decide +kernel
theorem dL_law_812 : decode cL_law 812 = .ok (.iaload, 1) := by decide +kernel
theorem dL_law_813 : decode cL_law 813 = .ok (.invokevirtual 171, 3) := by decide +kernel
theorem dL_law_816 : decode cL_law 816 = .ok (.istore 6, 2) := by decide +kernel
theorem dL_law_818 : decode cL_law 818 = .ok (.aload_n 2, 1) := by decide +kernel
theorem dL_law_819 : decode cL_law 819 = .ok (.invokevirtual 139, 3) := by decide +kernel
theorem dL_law_822 : decode cL_law 822 = .ok (.iload 5, 2) := by decide +kernel
theorem dL_law_824 : decode cL_law 824 = .ok (.if_icmp .eq 5, 3) := by decide +kernel
theorem dL_law_827 : decode cL_law 827 = .ok (.iconst 0, 1) := by decide +kernel
theorem dL_law_829 : decode cL_law 829 = .ok (.iload 5, 2) := by decide +kernel
theorem dL_law_831 : decode cL_law 831 = .ok (.ifCond .ne 15, 3) := by decide +kernel
theorem dL_law_834 : decode cL_law 834 = .ok (.aload_n 3, 1) := by decide +kernel
theorem dL_law_835 : decode cL_law 835 = .ok (.iconst 0, 1) := by decide +kernel
theorem dL_law_836 : decode cL_law 836 = .ok (.laload, 1) := by decide +kernel
theorem dL_law_837 : decode cL_law 837 = .ok (.iload 6, 2) := by decide +kernel
theorem dL_law_839 : decode cL_law 839 = .ok (.i2l, 1) := by decide +kernel
theorem dL_law_840 : decode cL_law 840 = .ok (.lcmp, 1) := by decide +kernel
theorem dL_law_841 : decode cL_law 841 = .ok (.ifCond .eq 5, 3) := by decide +kernel
theorem dL_law_844 : decode cL_law 844 = .ok (.iconst 0, 1) := by decide +kernel
theorem dL_law_846 : decode cL_law 846 = .ok (.goto 1672, 3) := by decide +kernel
set_option maxRecDepth 20000 in
theorem ggL_law_L_describe : GoodIn wsL_law wsL_describe := goodIn_ca (goodIn_ca (goodIn_r _ [608, 146, 609, 610, 611, 2, 612, 36, 250, 251, 252, 253, 16, 153, 154, 158, 159, 160, 161, 162, 613, 614, 615, 616, 475, 476, 477, 478, 617, 618, 619, 35, 620, 621, 622, 623, 624, 113, 625, 626, 627, 628, 629, 118, 630, 631, 632, 633, 634, 635, 119, 636, 637, 638, 639, 640, 641, 642, 643, 644, 645, 646, 310, 311, 312, 647, 648, 649, 650, 651, 652, 653, 654, 655, 656, 657, 658, 659, 660, 117, 661, 314, 315, 662, 399, 400, 401, 663, 664, 665, 666, 667, 116, 668, 669, 307, 670, 671, 672, 673, 674, 675, 676, 677, 34, 678, 679, 680, 681, 682, 122, 683, 684, 685, 686, 687, 688, 689, 690, 691, 692, 693, 694, 695, 696, 697, 698, 699, 700, 120, 121, 123, 124, 125, 126, 127, 701, 702, 703, 704, 705, 706, 707, 708, 709, 334, 335, 336, 710, 711, 284, 712, 340, 713, 714, 343, 715, 716, 717, 718, 351, 352, 353, 719, 720, 721, 722, 723, 724, 725, 726, 727, 728, 729, 730, 731, 732, 733, 734, 290, 291, 292, 293, 294, 295, 296, 735, 736, 737, 738, 739, 740, 741, 348, 349, 350, 742, 743, 744, 745, 746, 747, 748, 749, 750, 751, 485, 752, 753, 754, 755, 756, 757, 758, 759, 760, 331, 332, 333, 337, 338, 339, 341, 342, 344, 761, 762, 763, 764, 765, 766, 767, 768, 769, 770, 771, 772, 773, 774, 775, 776, 777, 778, 779, 780, 781, 782, 783, 784, 1369, 1370, 1371, 1372, 1373, 1374, 1375, 1376, 1397, 1398, 1399, 1400, 1401, 1402, 1403, 1404, 1424, 1425, 1426, 1427, 1428, 1429, 1430, 1431, 1432, 1433, 1434, 1435, 1457, 1458, 1459, 1460, 1461, 1462, 1420, 1421, 1422, 1423, 1463, 1464, 1465, 1466, 1467, 1468, 1453, 1454, 1455, 1456] (by decide +kernel) (by decide +kernel)) (goodIn_sub (fun _ h => List.mem_append_left _ (List.mem_append_left _ (List.mem_append_left _ (List.mem_append_left _ (List.mem_append_left _ (List.mem_append_right _ h)))))) (by decide +kernel))) (goodIn_sub (fun _ h => List.mem_append_left _ (List.mem_append_left _ (List.mem_append_left _ (List.mem_append_left _ (List.mem_append_right _ h))))) (by decide +kernel))
set_option maxRecDepth 20000 in
theorem gL_law_L_describe : GoodIn wsL_law (va_wsS RL 169 yL_describe wsL_describe) := goodIn_app (goodIn_of _ (by decide +kernel)) ggL_law_L_describe
set_option maxRecDepth 20000 in
theorem ggL_law_X9_describe : GoodIn wsL_law wsX9_describe := goodIn_ca (goodIn_r _ [788, 193, 789, 790, 132, 791, 408, 409, 410, 5, 411, 197, 198, 199, 792, 793, 794, 795, 502, 503, 504, 505, 796, 797, 798, 799, 800, 801, 802, 1377, 1378, 1379, 1380, 1381, 1382, 1383, 1384, 1385, 1386, 1387, 1388, 1389, 1390, 1391, 1392, 1393, 1394, 1395, 1396] (by decide +kernel) (by decide +kernel)) (goodIn_sub (fun _ h => List.mem_append_left _ (List.mem_append_left _ (List.mem_append_left _ (List.mem_append_left _ (List.mem_append_left _ (List.mem_append_right _ h)))))) (by decide +kernel))
set_option maxRecDepth 20000 in
theorem gL_law_X9_describe : GoodIn wsL_law (wsV RL 171 RX9 yX9_describe wsX9_describe) := goodIn_app (goodIn_of _ (by decide +kernel)) ggL_law_X9_describe
set_option maxHeartbeats 4000000 in
set_option maxRecDepth 100000 in
theorem lc_781 {p : Program} {e : Env} {s : State} {m : MethodId} {below : List Frame} {meth : Method} {c : Code} (l : Launch) (hfl : l.stackTraces = false) {b L : Nat} {xs : Nat → Int32} {Q : State → Prop} (C0 : lw_At p s m meth c b L xs) {G : zG} {ad : Nat → Nat} {σ' : zs} (C1 S1 : Nat) (hC : C1 + 28 ≤ 601024) (hS1 : S1 + 2612 ≤ 7293034) (K23 : zs → Int32 → Option (Int32 × zs)) (hK23 : ∀ (σ : zs) (v4 : Int32) (H : Heap) (locs : List Loc) (ls : Array Slot), K23 σ v4 = some (1, σ') → xB (fun q : Nat => s.heap.size ≤ q) s G ad σ H locs → lv_has ls 7 [(0, .ref b), (1, .ref (ad 0)), (2, .ref (ad 65)), (3, .ref (ad 75)), (4, .int v4)] → W p l e room_1 s m #[Value.ref b] below meth c H locs (C1 + 28) (S1 + 2612) Q (F0 m 23 ls [])) (σ : zs) (v4 : Int32) (H : Heap) (locs : List Loc) (ls : Array Slot) (hf : f_L_law_781 L xs K23 σ v4 = some (1, σ')) (B : xB (fun q : Nat => s.heap.size ≤ q) s G ad σ H locs) (hl : lv_has ls 7 [(0, .ref b), (1, .ref (ad 0)), (2, .ref (ad 65)), (3, .ref (ad 75)), (4, .int v4)]) : W p l e room_1 s m #[Value.ref b] below meth c H locs C1 S1 Q (F0 m 781 ls []) := by
  obtain ⟨hx, hb, hr, hml, hown, hts0, hX, hbl, hlocks, hgv⟩ := id C0
  have hts := fun w h => hts0 w (wsL_law_in w h)
  have hbA : ¬ (fun q : Nat => s.heap.size ≤ q) b := Nat.not_le.mpr hbl
  unfold f_L_law_781 at hf
  refine lv_aload_n hx hb dL_law_781 rfl (lv_at hl 1 rfl) ?_
  refine lv_aload_n hx hb dL_law_782 rfl (lv_at hl 0 rfl) ?_
  refine lv_iload hx hb dL_law_783 (lv_at hl 4 rfl) ?_
  refine lv_iconst (v := (1 : Int32)) hx hb dL_law_785 (by decide) ?_
  refine lv_iadd hx hb dL_law_786 ?_
  obtain ⟨hg, hf⟩ := zg_some hf
  refine va_sld hx hb hX hbl hbA (xS B) (zin_ok hg) dL_law_787 ?_
  refine lv_aload_n hx hb dL_law_788 rfl (lv_at hl 0 rfl) ?_
  refine lv_iload hx hb dL_law_789 (lv_at hl 4 rfl) ?_
  refine lv_iconst (v := (2 : Int32)) hx hb dL_law_791 (by decide) ?_
  refine lv_iadd hx hb dL_law_792 ?_
  obtain ⟨hg, hf⟩ := zg_some hf
  refine va_sld hx hb hX hbl hbA (xS B) (zin_ok hg) dL_law_793 ?_
  refine lv_aload_n hx hb dL_law_794 rfl (lv_at hl 3 rfl) ?_
  obtain ⟨r2, σ3, hu1, hf⟩ := zb_some hf
  refine x_i B (fun nb a g hs Bz => vx_runSW (As := [.ref (ad 0), .int (xs (v4 + (1 : Int32)).toNatClampNeg), .int (xs (v4 + (2 : Int32)).toNatClampNeg), .ref (ad 75)]) (rest := []) ⟨hx, hb, hml, hown, hts⟩ (c_L_describe_0_75 l hfl hu1 _ nb a g hs) (vx_cwSW 4 hts gL_law_L_describe rfl rfl rfl (by decide +kernel) ⟨Nat.le_of_ble_eq_true rfl, Nat.le_of_ble_eq_true rfl⟩) (z_preS Bz) rfl rfl hl.1 rfl (lv_room (Nat.le_of_ble_eq_true rfl)) dL_law_795 ⟨(show C1 + 28 ≤ 601024 by omega), (show S1 + 2612 ≤ 7293034 by omega)⟩) (fun H locs B => ?_)
  refine lv_istore (lv' := [(5, .int r2), (0, .ref b), (1, .ref (ad 0)), (2, .ref (ad 65)), (3, .ref (ad 75)), (4, .int v4)]) hx hb dL_law_798 hl (by decide) rfl (fun ls hl => ?_)
  refine lv_aload_n hx hb dL_law_800 rfl (lv_at hl 3 rfl) ?_
  refine lv_aload_n hx hb dL_law_801 rfl (lv_at hl 1 rfl) ?_
  refine lv_iload hx hb dL_law_802 (lv_at hl 5 rfl) ?_
  refine lv_iconst (v := (1 : Int32)) hx hb dL_law_804 (by decide) ?_
  refine lv_iadd hx hb dL_law_805 ?_
  obtain ⟨hg, hf⟩ := zg_some hf
  refine va_sld hx hb hX hbl hbA (xS B) (zin_ok hg) dL_law_806 ?_
  refine lv_aload_n hx hb dL_law_807 rfl (lv_at hl 1 rfl) ?_
  refine lv_iload hx hb dL_law_808 (lv_at hl 5 rfl) ?_
  refine lv_iconst (v := (2 : Int32)) hx hb dL_law_810 (by decide) ?_
  refine lv_iadd hx hb dL_law_811 ?_
  obtain ⟨hg, hf⟩ := zg_some hf
  refine va_sld hx hb hX hbl hbA (xS B) (zin_ok hg) dL_law_812 ?_
  obtain ⟨r5, σ6, hu4, hf⟩ := zb_some hf
  refine x_i B (fun nb a g hs Bz => va_runV (As := [.int (xs (v4 + (1 : Int32)).toNatClampNeg), .int (xs (v4 + (2 : Int32)).toNatClampNeg)]) (rest := []) ⟨hx, hb, hml, hown, hts⟩ (c_X9_describe l hu4 _ nb a g hs) (cwV 2 hts gL_law_X9_describe rfl rfl rfl (by decide +kernel) ⟨Nat.le_of_ble_eq_true rfl, Nat.le_of_ble_eq_true rfl⟩) (x_preV Bz (by decide) (fun _ => rfl) rfl) rfl rfl hl.1 rfl (lv_room (Nat.le_of_ble_eq_true rfl)) dL_law_813 ⟨(show C1 + 28 + 0 ≤ 601024 by omega), (show S1 + 2612 + 0 ≤ 7293034 by omega)⟩) (fun H locs B => ?_)
  refine lv_istore (lv' := [(6, .int r5), (5, .int r2), (0, .ref b), (1, .ref (ad 0)), (2, .ref (ad 65)), (3, .ref (ad 75)), (4, .int v4)]) hx hb dL_law_816 hl (by decide) rfl (fun ls hl => ?_)
  refine lv_aload_n hx hb dL_law_818 rfl (lv_at hl 4 rfl) ?_
  obtain ⟨r8, σ9, hu7, hf⟩ := zb_some hf
  refine x_i B (fun nb a g hs Bz => va_runV (As := []) (rest := []) ⟨hx, hb, hml, hown, hts⟩ (c_X9_thrown l hu7 _ nb a g hs) (cwV 0 hts gL_law_X9_thrown rfl rfl rfl (by decide +kernel) ⟨Nat.le_of_ble_eq_true rfl, Nat.le_of_ble_eq_true rfl⟩) (x_preV Bz (by decide) (fun _ => rfl) rfl) rfl rfl hl.1 rfl (lv_room (Nat.le_of_ble_eq_true rfl)) dL_law_819 ⟨(show C1 + 28 + 0 + 0 ≤ 601024 by omega), (show S1 + 2612 + 0 + 0 ≤ 7293034 by omega)⟩) (fun H locs B => ?_)
  refine lv_iload hx hb dL_law_822 (lv_at hl 1 rfl) ?_
  refine lv_icmp_eq (tgt := 829) hx hb dL_law_824 (by decide) (fun hc => ?_) (fun hc => ?_)
  · have hf := zif_t hc hf
    refine lv_iload hx hb dL_law_829 (lv_at hl 1 rfl) ?_
    refine lv_if_ne (tgt := 846) hx hb dL_law_831 (by decide) (fun hc => ?_) (fun hc => ?_)
    · have hf := zif_f hc hf
      refine lv_goto (tgt := 2518) hx hb dL_law_846 (by decide) ?_
      refine lv_iinc (v := (v4 + (5 : Int32))) (lv' := [(4, .int (v4 + (5 : Int32))), (6, .int r5), (5, .int r2), (0, .ref b), (1, .ref (ad 0)), (2, .ref (ad 65)), (3, .ref (ad 75))]) hx hb dL_law_2518 hl (k := 6) rfl (zc1 (by decide)) (by decide) rfl (fun ls hl => ?_)
      refine lv_goto (tgt := 23) hx hb dL_law_2521 (by decide) ?_
      refine W.widen (k := C1 + 28) (n := S1 + 2612) (show C1 + 28 + 0 + 0 ≤ C1 + 28 by omega) (show S1 + 2612 + 0 + 0 ≤ S1 + 2612 by omega) ?_
      exact hK23 _ _ _ _ _ hf B (lv_sub hl [3, 4, 5, 6, 0] rfl)
    · have hf := zif_t hc hf
      refine lv_aload_n hx hb dL_law_834 rfl (lv_at hl 5 rfl) ?_
      refine lv_iconst (v := (0 : Int32)) hx hb dL_law_835 (by decide) ?_
      obtain ⟨hg, hf⟩ := zg_some hf
      refine x_lald hx hb B 75 (by decide) (fun _ => rfl) (zin_ok hg) dL_law_836 ?_
      refine lv_iload hx hb dL_law_837 (lv_at hl 0 rfl) ?_
      refine lv_i2l (v := r5.toInt64) hx hb dL_law_839 rfl ?_
      refine W.lcmp hx hb dL_law_840 ?_
      refine lv_if_eq (tgt := 846) hx hb dL_law_841 (by decide) (fun hc => ?_) (fun hc => ?_)
      · have hf := zif_t hc hf
        refine lv_goto (tgt := 2518) hx hb dL_law_846 (by decide) ?_
        refine lv_iinc (v := (v4 + (5 : Int32))) (lv' := [(4, .int (v4 + (5 : Int32))), (6, .int r5), (5, .int r2), (0, .ref b), (1, .ref (ad 0)), (2, .ref (ad 65)), (3, .ref (ad 75))]) hx hb dL_law_2518 hl (k := 6) rfl (zc1 (by decide)) (by decide) rfl (fun ls hl => ?_)
        refine lv_goto (tgt := 23) hx hb dL_law_2521 (by decide) ?_
        refine W.widen (k := C1 + 28) (n := S1 + 2612) (show C1 + 28 + 0 + 0 ≤ C1 + 28 by omega) (show S1 + 2612 + 0 + 0 ≤ S1 + 2612 by omega) ?_
        exact hK23 _ _ _ _ _ hf B (lv_sub hl [3, 4, 5, 6, 0] rfl)
      · have hf := zif_f hc hf
        refine lv_iconst (v := (0 : Int32)) hx hb dL_law_844 (by decide) ?_
        exact absurd (show (0 : Int32) = 1 from congrArg Prod.fst (Option.some.inj hf)) (by decide)
  · have hf := zif_f hc hf
    refine lv_iconst (v := (0 : Int32)) hx hb dL_law_827 (by decide) ?_
    exact absurd (show (0 : Int32) = 1 from congrArg Prod.fst (Option.some.inj hf)) (by decide)
theorem dL_law_849 : decode cL_law 849 = .ok (.aload_n 1, 1) := by decide +kernel
theorem dL_law_850 : decode cL_law 850 = .ok (.aload_n 0, 1) := by decide +kernel
theorem dL_law_851 : decode cL_law 851 = .ok (.iload 4, 2) := by decide +kernel
theorem dL_law_853 : decode cL_law 853 = .ok (.iconst 1, 1) := by decide +kernel
theorem dL_law_854 : decode cL_law 854 = .ok (.iadd, 1) := by decide +kernel
theorem dL_law_855 : decode cL_law 855 = .ok (.iaload, 1) := by decide +kernel
theorem dL_law_856 : decode cL_law 856 = .ok (.aload_n 0, 1) := by decide +kernel
theorem dL_law_857 : decode cL_law 857 = .ok (.iload 4, 2) := by decide +kernel
theorem dL_law_859 : decode cL_law 859 = .ok (.iconst 2, 1) := by decide +kernel
theorem dL_law_860 : decode cL_law 860 = .ok (.iadd, 1) := by decide +kernel
theorem dL_law_861 : decode cL_law 861 = .ok (.iaload, 1) := by decide +kernel
theorem dL_law_862 : decode cL_law 862 = .ok (.aload_n 3, 1) := by decide +kernel
theorem dL_law_863 : decode cL_law 863 = .ok (.invokestatic 172, 3) := by decide +kernel
theorem dL_law_866 : decode cL_law 866 = .ok (.istore 5, 2) := by decide +kernel
theorem dL_law_868 : decode cL_law 868 = .ok (.aload_n 2, 1) := by decide +kernel
theorem dL_law_869 : decode cL_law 869 = .ok (.aload_n 0, 1) := by decide +kernel
theorem dL_law_870 : decode cL_law 870 = .ok (.iload 4, 2) := by decide +kernel
theorem dL_law_872 : decode cL_law 872 = .ok (.iconst 1, 1) := by decide +kernel
theorem dL_law_873 : decode cL_law 873 = .ok (.iadd, 1) := by decide +kernel
theorem dL_law_874 : decode cL_law 874 = .ok (.iaload, 1) := by decide +kernel
theorem dL_law_875 : decode cL_law 875 = .ok (.aload_n 0, 1) := by decide +kernel
theorem dL_law_876 : decode cL_law 876 = .ok (.iload 4, 2) := by decide +kernel
theorem dL_law_878 : decode cL_law 878 = .ok (.iconst 2, 1) := by decide +kernel
theorem dL_law_879 : decode cL_law 879 = .ok (.iadd, 1) := by decide +kernel
theorem dL_law_880 : decode cL_law 880 = .ok (.iaload, 1) := by decide +kernel
theorem dL_law_881 : decode cL_law 881 = .ok (.invokevirtual 174, 3) := by decide +kernel
theorem dL_law_884 : decode cL_law 884 = .ok (.istore 6, 2) := by decide +kernel
theorem dL_law_886 : decode cL_law 886 = .ok (.aload_n 2, 1) := by decide +kernel
theorem dL_law_887 : decode cL_law 887 = .ok (.invokevirtual 139, 3) := by decide +kernel
theorem dL_law_890 : decode cL_law 890 = .ok (.iload 5, 2) := by decide +kernel
theorem dL_law_892 : decode cL_law 892 = .ok (.if_icmp .eq 5, 3) := by decide +kernel
theorem dL_law_895 : decode cL_law 895 = .ok (.iconst 0, 1) := by decide +kernel
theorem dL_law_897 : decode cL_law 897 = .ok (.iload 5, 2) := by decide +kernel
theorem dL_law_899 : decode cL_law 899 = .ok (.ifCond .ne 15, 3) := by decide +kernel
theorem dL_law_902 : decode cL_law 902 = .ok (.aload_n 3, 1) := by decide +kernel
theorem dL_law_903 : decode cL_law 903 = .ok (.iconst 0, 1) := by decide +kernel
theorem dL_law_904 : decode cL_law 904 = .ok (.laload, 1) := by decide +kernel
theorem dL_law_905 : decode cL_law 905 = .ok (.iload 6, 2) := by decide +kernel
theorem dL_law_907 : decode cL_law 907 = .ok (.i2l, 1) := by decide +kernel
theorem dL_law_908 : decode cL_law 908 = .ok (.lcmp, 1) := by decide +kernel
theorem dL_law_909 : decode cL_law 909 = .ok (.ifCond .eq 5, 3) := by decide +kernel
theorem dL_law_912 : decode cL_law 912 = .ok (.iconst 0, 1) := by decide +kernel
theorem dL_law_914 : decode cL_law 914 = .ok (.goto 1604, 3) := by decide +kernel
set_option maxRecDepth 20000 in
theorem ggL_law_L_left : GoodIn wsL_law wsL_left := goodIn_ca (goodIn_ca (goodIn_ca (goodIn_r _ [805, 146, 147, 806, 807, 808, 2, 809, 16, 153, 810, 811, 812, 813, 814, 815, 250, 251, 252, 253, 154, 158, 159, 160, 161, 162, 166, 167, 168, 169, 170, 816, 817, 818, 42, 819, 71, 59, 60, 64, 65, 66, 67, 62, 820, 821, 822, 70, 823, 824, 825, 826, 827, 828, 829, 830, 831, 832, 833, 834, 310, 311, 312, 835, 314, 315, 836, 837, 838, 839, 840, 841, 842, 1369, 1370, 1371, 1372, 1373, 1374, 1375, 1376, 1397, 1398, 1399, 1400, 1401, 1402, 1403, 1404, 1447, 1448, 1449, 1450, 1451, 1452, 1424, 1425, 1426, 1427, 1428, 1429, 1430, 1431, 1432, 1433, 1434, 1435] (by decide +kernel) (by decide +kernel)) (goodIn_sub (fun _ h => List.mem_append_left _ (List.mem_append_left _ (List.mem_append_left _ (List.mem_append_left _ (List.mem_append_left _ (List.mem_append_right _ h)))))) (by decide +kernel))) (goodIn_sub (fun _ h => List.mem_append_left _ (List.mem_append_left _ (List.mem_append_left _ (List.mem_append_left _ (List.mem_append_right _ h))))) (by decide +kernel))) (goodIn_sub (fun _ h => List.mem_append_left _ (List.mem_append_left _ (List.mem_append_left _ (List.mem_append_right _ h)))) (by decide +kernel))
set_option maxRecDepth 20000 in
theorem gL_law_L_left : GoodIn wsL_law (va_wsS RL 172 yL_left wsL_left) := goodIn_app (goodIn_of _ (by decide +kernel)) ggL_law_L_left
set_option maxRecDepth 20000 in
theorem ggL_law_X9_left : GoodIn wsL_law wsX9_left := goodIn_ca (goodIn_r _ [846, 193, 847, 408, 409, 410, 5, 411, 132, 197, 198, 199, 848, 849, 850, 851, 502, 503, 504, 505, 852, 853, 854, 855, 856, 314, 311, 315, 857, 858, 859, 860, 861, 310, 312, 862, 863, 864, 865, 1377, 1378, 1379, 1380, 1381, 1382, 1383, 1384, 1385, 1386, 1387, 1388, 1389, 1390, 1391, 1392, 1393, 1394, 1395, 1396] (by decide +kernel) (by decide +kernel)) (goodIn_sub (fun _ h => List.mem_append_left _ (List.mem_append_left _ (List.mem_append_left _ (List.mem_append_left _ (List.mem_append_left _ (List.mem_append_right _ h)))))) (by decide +kernel))
set_option maxRecDepth 20000 in
theorem gL_law_X9_left : GoodIn wsL_law (wsV RL 174 RX9 yX9_left wsX9_left) := goodIn_app (goodIn_of _ (by decide +kernel)) ggL_law_X9_left
set_option maxHeartbeats 4000000 in
set_option maxRecDepth 100000 in
theorem lc_849 {p : Program} {e : Env} {s : State} {m : MethodId} {below : List Frame} {meth : Method} {c : Code} (l : Launch) (hfl : l.stackTraces = false) {b L : Nat} {xs : Nat → Int32} {Q : State → Prop} (C0 : lw_At p s m meth c b L xs) {G : zG} {ad : Nat → Nat} {σ' : zs} (C1 S1 : Nat) (hC : C1 + 28 ≤ 601024) (hS1 : S1 + 2612 ≤ 7293034) (K23 : zs → Int32 → Option (Int32 × zs)) (hK23 : ∀ (σ : zs) (v4 : Int32) (H : Heap) (locs : List Loc) (ls : Array Slot), K23 σ v4 = some (1, σ') → xB (fun q : Nat => s.heap.size ≤ q) s G ad σ H locs → lv_has ls 7 [(0, .ref b), (1, .ref (ad 0)), (2, .ref (ad 65)), (3, .ref (ad 75)), (4, .int v4)] → W p l e room_1 s m #[Value.ref b] below meth c H locs (C1 + 28) (S1 + 2612) Q (F0 m 23 ls [])) (σ : zs) (v4 : Int32) (H : Heap) (locs : List Loc) (ls : Array Slot) (hf : f_L_law_849 L xs K23 σ v4 = some (1, σ')) (B : xB (fun q : Nat => s.heap.size ≤ q) s G ad σ H locs) (hl : lv_has ls 7 [(0, .ref b), (1, .ref (ad 0)), (2, .ref (ad 65)), (3, .ref (ad 75)), (4, .int v4)]) : W p l e room_1 s m #[Value.ref b] below meth c H locs C1 S1 Q (F0 m 849 ls []) := by
  obtain ⟨hx, hb, hr, hml, hown, hts0, hX, hbl, hlocks, hgv⟩ := id C0
  have hts := fun w h => hts0 w (wsL_law_in w h)
  have hbA : ¬ (fun q : Nat => s.heap.size ≤ q) b := Nat.not_le.mpr hbl
  unfold f_L_law_849 at hf
  refine lv_aload_n hx hb dL_law_849 rfl (lv_at hl 1 rfl) ?_
  refine lv_aload_n hx hb dL_law_850 rfl (lv_at hl 0 rfl) ?_
  refine lv_iload hx hb dL_law_851 (lv_at hl 4 rfl) ?_
  refine lv_iconst (v := (1 : Int32)) hx hb dL_law_853 (by decide) ?_
  refine lv_iadd hx hb dL_law_854 ?_
  obtain ⟨hg, hf⟩ := zg_some hf
  refine va_sld hx hb hX hbl hbA (xS B) (zin_ok hg) dL_law_855 ?_
  refine lv_aload_n hx hb dL_law_856 rfl (lv_at hl 0 rfl) ?_
  refine lv_iload hx hb dL_law_857 (lv_at hl 4 rfl) ?_
  refine lv_iconst (v := (2 : Int32)) hx hb dL_law_859 (by decide) ?_
  refine lv_iadd hx hb dL_law_860 ?_
  obtain ⟨hg, hf⟩ := zg_some hf
  refine va_sld hx hb hX hbl hbA (xS B) (zin_ok hg) dL_law_861 ?_
  refine lv_aload_n hx hb dL_law_862 rfl (lv_at hl 3 rfl) ?_
  obtain ⟨r2, σ3, hu1, hf⟩ := zb_some hf
  refine x_i B (fun nb a g hs Bz => vx_runSW (As := [.ref (ad 0), .int (xs (v4 + (1 : Int32)).toNatClampNeg), .int (xs (v4 + (2 : Int32)).toNatClampNeg), .ref (ad 75)]) (rest := []) ⟨hx, hb, hml, hown, hts⟩ (c_L_left_0_75 l hfl hu1 _ nb a g hs) (vx_cwSW 4 hts gL_law_L_left rfl rfl rfl (by decide +kernel) ⟨Nat.le_of_ble_eq_true rfl, Nat.le_of_ble_eq_true rfl⟩) (z_preS Bz) rfl rfl hl.1 rfl (lv_room (Nat.le_of_ble_eq_true rfl)) dL_law_863 ⟨(show C1 + 2 ≤ 601024 by omega), (show S1 + 12 ≤ 7293034 by omega)⟩) (fun H locs B => ?_)
  refine lv_istore (lv' := [(5, .int r2), (0, .ref b), (1, .ref (ad 0)), (2, .ref (ad 65)), (3, .ref (ad 75)), (4, .int v4)]) hx hb dL_law_866 hl (by decide) rfl (fun ls hl => ?_)
  refine lv_aload_n hx hb dL_law_868 rfl (lv_at hl 3 rfl) ?_
  refine lv_aload_n hx hb dL_law_869 rfl (lv_at hl 1 rfl) ?_
  refine lv_iload hx hb dL_law_870 (lv_at hl 5 rfl) ?_
  refine lv_iconst (v := (1 : Int32)) hx hb dL_law_872 (by decide) ?_
  refine lv_iadd hx hb dL_law_873 ?_
  obtain ⟨hg, hf⟩ := zg_some hf
  refine va_sld hx hb hX hbl hbA (xS B) (zin_ok hg) dL_law_874 ?_
  refine lv_aload_n hx hb dL_law_875 rfl (lv_at hl 1 rfl) ?_
  refine lv_iload hx hb dL_law_876 (lv_at hl 5 rfl) ?_
  refine lv_iconst (v := (2 : Int32)) hx hb dL_law_878 (by decide) ?_
  refine lv_iadd hx hb dL_law_879 ?_
  obtain ⟨hg, hf⟩ := zg_some hf
  refine va_sld hx hb hX hbl hbA (xS B) (zin_ok hg) dL_law_880 ?_
  obtain ⟨r5, σ6, hu4, hf⟩ := zb_some hf
  refine x_i B (fun nb a g hs Bz => va_runV (As := [.int (xs (v4 + (1 : Int32)).toNatClampNeg), .int (xs (v4 + (2 : Int32)).toNatClampNeg)]) (rest := []) ⟨hx, hb, hml, hown, hts⟩ (c_X9_left l hu4 _ nb a g hs) (cwV 2 hts gL_law_X9_left rfl rfl rfl (by decide +kernel) ⟨Nat.le_of_ble_eq_true rfl, Nat.le_of_ble_eq_true rfl⟩) (x_preV Bz (by decide) (fun _ => rfl) rfl) rfl rfl hl.1 rfl (lv_room (Nat.le_of_ble_eq_true rfl)) dL_law_881 ⟨(show C1 + 2 + 0 ≤ 601024 by omega), (show S1 + 12 + 0 ≤ 7293034 by omega)⟩) (fun H locs B => ?_)
  refine lv_istore (lv' := [(6, .int r5), (5, .int r2), (0, .ref b), (1, .ref (ad 0)), (2, .ref (ad 65)), (3, .ref (ad 75)), (4, .int v4)]) hx hb dL_law_884 hl (by decide) rfl (fun ls hl => ?_)
  refine lv_aload_n hx hb dL_law_886 rfl (lv_at hl 4 rfl) ?_
  obtain ⟨r8, σ9, hu7, hf⟩ := zb_some hf
  refine x_i B (fun nb a g hs Bz => va_runV (As := []) (rest := []) ⟨hx, hb, hml, hown, hts⟩ (c_X9_thrown l hu7 _ nb a g hs) (cwV 0 hts gL_law_X9_thrown rfl rfl rfl (by decide +kernel) ⟨Nat.le_of_ble_eq_true rfl, Nat.le_of_ble_eq_true rfl⟩) (x_preV Bz (by decide) (fun _ => rfl) rfl) rfl rfl hl.1 rfl (lv_room (Nat.le_of_ble_eq_true rfl)) dL_law_887 ⟨(show C1 + 2 + 0 + 0 ≤ 601024 by omega), (show S1 + 12 + 0 + 0 ≤ 7293034 by omega)⟩) (fun H locs B => ?_)
  refine lv_iload hx hb dL_law_890 (lv_at hl 1 rfl) ?_
  refine lv_icmp_eq (tgt := 897) hx hb dL_law_892 (by decide) (fun hc => ?_) (fun hc => ?_)
  · have hf := zif_t hc hf
    refine lv_iload hx hb dL_law_897 (lv_at hl 1 rfl) ?_
    refine lv_if_ne (tgt := 914) hx hb dL_law_899 (by decide) (fun hc => ?_) (fun hc => ?_)
    · have hf := zif_f hc hf
      refine lv_goto (tgt := 2518) hx hb dL_law_914 (by decide) ?_
      refine lv_iinc (v := (v4 + (5 : Int32))) (lv' := [(4, .int (v4 + (5 : Int32))), (6, .int r5), (5, .int r2), (0, .ref b), (1, .ref (ad 0)), (2, .ref (ad 65)), (3, .ref (ad 75))]) hx hb dL_law_2518 hl (k := 6) rfl (zc1 (by decide)) (by decide) rfl (fun ls hl => ?_)
      refine lv_goto (tgt := 23) hx hb dL_law_2521 (by decide) ?_
      refine W.widen (k := C1 + 28) (n := S1 + 2612) (show C1 + 2 + 0 + 0 ≤ C1 + 28 by omega) (show S1 + 12 + 0 + 0 ≤ S1 + 2612 by omega) ?_
      exact hK23 _ _ _ _ _ hf B (lv_sub hl [3, 4, 5, 6, 0] rfl)
    · have hf := zif_t hc hf
      refine lv_aload_n hx hb dL_law_902 rfl (lv_at hl 5 rfl) ?_
      refine lv_iconst (v := (0 : Int32)) hx hb dL_law_903 (by decide) ?_
      obtain ⟨hg, hf⟩ := zg_some hf
      refine x_lald hx hb B 75 (by decide) (fun _ => rfl) (zin_ok hg) dL_law_904 ?_
      refine lv_iload hx hb dL_law_905 (lv_at hl 0 rfl) ?_
      refine lv_i2l (v := r5.toInt64) hx hb dL_law_907 rfl ?_
      refine W.lcmp hx hb dL_law_908 ?_
      refine lv_if_eq (tgt := 914) hx hb dL_law_909 (by decide) (fun hc => ?_) (fun hc => ?_)
      · have hf := zif_t hc hf
        refine lv_goto (tgt := 2518) hx hb dL_law_914 (by decide) ?_
        refine lv_iinc (v := (v4 + (5 : Int32))) (lv' := [(4, .int (v4 + (5 : Int32))), (6, .int r5), (5, .int r2), (0, .ref b), (1, .ref (ad 0)), (2, .ref (ad 65)), (3, .ref (ad 75))]) hx hb dL_law_2518 hl (k := 6) rfl (zc1 (by decide)) (by decide) rfl (fun ls hl => ?_)
        refine lv_goto (tgt := 23) hx hb dL_law_2521 (by decide) ?_
        refine W.widen (k := C1 + 28) (n := S1 + 2612) (show C1 + 2 + 0 + 0 ≤ C1 + 28 by omega) (show S1 + 12 + 0 + 0 ≤ S1 + 2612 by omega) ?_
        exact hK23 _ _ _ _ _ hf B (lv_sub hl [3, 4, 5, 6, 0] rfl)
      · have hf := zif_f hc hf
        refine lv_iconst (v := (0 : Int32)) hx hb dL_law_912 (by decide) ?_
        exact absurd (show (0 : Int32) = 1 from congrArg Prod.fst (Option.some.inj hf)) (by decide)
  · have hf := zif_f hc hf
    refine lv_iconst (v := (0 : Int32)) hx hb dL_law_895 (by decide) ?_
    exact absurd (show (0 : Int32) = 1 from congrArg Prod.fst (Option.some.inj hf)) (by decide)
theorem dL_law_917 : decode cL_law 917 = .ok (.aload_n 1, 1) := by decide +kernel
theorem dL_law_918 : decode cL_law 918 = .ok (.aload_n 0, 1) := by decide +kernel
theorem dL_law_919 : decode cL_law 919 = .ok (.iload 4, 2) := by decide +kernel
theorem dL_law_921 : decode cL_law 921 = .ok (.iconst 1, 1) := by decide +kernel
theorem dL_law_922 : decode cL_law 922 = .ok (.iadd, 1) := by decide +kernel
theorem dL_law_923 : decode cL_law 923 = .ok (.iaload, 1) := by decide +kernel
theorem dL_law_924 : decode cL_law 924 = .ok (.aload_n 3, 1) := by decide +kernel
theorem dL_law_925 : decode cL_law 925 = .ok (.invokestatic 175, 3) := by decide +kernel
theorem dL_law_928 : decode cL_law 928 = .ok (.istore 5, 2) := by decide +kernel
theorem dL_law_930 : decode cL_law 930 = .ok (.aload_n 2, 1) := by decide +kernel
theorem dL_law_931 : decode cL_law 931 = .ok (.aload_n 0, 1) := by decide +kernel
theorem dL_law_932 : decode cL_law 932 = .ok (.iload 4, 2) := by decide +kernel
theorem dL_law_934 : decode cL_law 934 = .ok (.iconst 1, 1) := by decide +kernel
theorem dL_law_935 : decode cL_law 935 = .ok (.iadd, 1) := by decide +kernel
theorem dL_law_936 : decode cL_law 936 = .ok (.iaload, 1) := by decide +kernel
theorem dL_law_937 : decode cL_law 937 = .ok (.invokevirtual 177, 3) := by decide +kernel
theorem dL_law_940 : decode cL_law 940 = .ok (.istore 6, 2) := by decide +kernel
theorem dL_law_942 : decode cL_law 942 = .ok (.aload_n 2, 1) := by decide +kernel
theorem dL_law_943 : decode cL_law 943 = .ok (.invokevirtual 139, 3) := by decide +kernel
theorem dL_law_946 : decode cL_law 946 = .ok (.iload 5, 2) := by decide +kernel
theorem dL_law_948 : decode cL_law 948 = .ok (.if_icmp .eq 5, 3) := by decide +kernel
theorem dL_law_951 : decode cL_law 951 = .ok (.iconst 0, 1) := by decide +kernel
theorem dL_law_953 : decode cL_law 953 = .ok (.iload 5, 2) := by decide +kernel
theorem dL_law_955 : decode cL_law 955 = .ok (.ifCond .ne 15, 3) := by decide +kernel
theorem dL_law_958 : decode cL_law 958 = .ok (.aload_n 3, 1) := by decide +kernel
theorem dL_law_959 : decode cL_law 959 = .ok (.iconst 0, 1) := by decide +kernel
theorem dL_law_960 : decode cL_law 960 = .ok (.laload, 1) := by decide +kernel
theorem dL_law_961 : decode cL_law 961 = .ok (.iload 6, 2) := by decide +kernel
theorem dL_law_963 : decode cL_law 963 = .ok (.i2l, 1) := by decide +kernel
theorem dL_law_964 : decode cL_law 964 = .ok (.lcmp, 1) := by decide +kernel
theorem dL_law_965 : decode cL_law 965 = .ok (.ifCond .eq 5, 3) := by decide +kernel
theorem dL_law_968 : decode cL_law 968 = .ok (.iconst 0, 1) := by decide +kernel
theorem dL_law_970 : decode cL_law 970 = .ok (.goto 1548, 3) := by decide +kernel
set_option maxRecDepth 20000 in
theorem ggL_law_L_holders : GoodIn wsL_law wsL_holders := goodIn_ca (goodIn_ca (goodIn_r _ [868, 146, 869, 870, 871, 2, 872, 16, 153, 258, 250, 251, 252, 253, 154, 158, 159, 160, 161, 162, 1369, 1370, 1371, 1372, 1373, 1374, 1375, 1376, 1397, 1398, 1399, 1400, 1401, 1402, 1403, 1404, 1424, 1425, 1426, 1427, 1428, 1429, 1430, 1431, 1432, 1433, 1434, 1435] (by decide +kernel) (by decide +kernel)) (goodIn_sub (fun _ h => List.mem_append_left _ (List.mem_append_left _ (List.mem_append_left _ (List.mem_append_left _ (List.mem_append_left _ (List.mem_append_right _ h)))))) (by decide +kernel))) (goodIn_sub (fun _ h => List.mem_append_left _ (List.mem_append_left _ (List.mem_append_left _ (List.mem_append_left _ (List.mem_append_right _ h))))) (by decide +kernel))
set_option maxRecDepth 20000 in
theorem gL_law_L_holders : GoodIn wsL_law (va_wsS RL 175 yL_holders wsL_holders) := goodIn_app (goodIn_of _ (by decide +kernel)) ggL_law_L_holders
set_option maxRecDepth 20000 in
theorem ggL_law_X9_holders : GoodIn wsL_law wsX9_holders := goodIn_ca (goodIn_r _ [876, 193, 132, 408, 409, 410, 5, 411, 197, 198, 199, 1377, 1378, 1379, 1380, 1381, 1382, 1383, 1384, 1385, 1386, 1387, 1388, 1389, 1390, 1391, 1392, 1393, 1394, 1395, 1396] (by decide +kernel) (by decide +kernel)) (goodIn_sub (fun _ h => List.mem_append_left _ (List.mem_append_left _ (List.mem_append_left _ (List.mem_append_left _ (List.mem_append_left _ (List.mem_append_right _ h)))))) (by decide +kernel))
set_option maxRecDepth 20000 in
theorem gL_law_X9_holders : GoodIn wsL_law (wsV RL 177 RX9 yX9_holders wsX9_holders) := goodIn_app (goodIn_of _ (by decide +kernel)) ggL_law_X9_holders
set_option maxHeartbeats 4000000 in
set_option maxRecDepth 100000 in
theorem lc_917 {p : Program} {e : Env} {s : State} {m : MethodId} {below : List Frame} {meth : Method} {c : Code} (l : Launch) (hfl : l.stackTraces = false) {b L : Nat} {xs : Nat → Int32} {Q : State → Prop} (C0 : lw_At p s m meth c b L xs) {G : zG} {ad : Nat → Nat} {σ' : zs} (C1 S1 : Nat) (hC : C1 + 28 ≤ 601024) (hS1 : S1 + 2612 ≤ 7293034) (K23 : zs → Int32 → Option (Int32 × zs)) (hK23 : ∀ (σ : zs) (v4 : Int32) (H : Heap) (locs : List Loc) (ls : Array Slot), K23 σ v4 = some (1, σ') → xB (fun q : Nat => s.heap.size ≤ q) s G ad σ H locs → lv_has ls 7 [(0, .ref b), (1, .ref (ad 0)), (2, .ref (ad 65)), (3, .ref (ad 75)), (4, .int v4)] → W p l e room_1 s m #[Value.ref b] below meth c H locs (C1 + 28) (S1 + 2612) Q (F0 m 23 ls [])) (σ : zs) (v4 : Int32) (H : Heap) (locs : List Loc) (ls : Array Slot) (hf : f_L_law_917 L xs K23 σ v4 = some (1, σ')) (B : xB (fun q : Nat => s.heap.size ≤ q) s G ad σ H locs) (hl : lv_has ls 7 [(0, .ref b), (1, .ref (ad 0)), (2, .ref (ad 65)), (3, .ref (ad 75)), (4, .int v4)]) : W p l e room_1 s m #[Value.ref b] below meth c H locs C1 S1 Q (F0 m 917 ls []) := by
  obtain ⟨hx, hb, hr, hml, hown, hts0, hX, hbl, hlocks, hgv⟩ := id C0
  have hts := fun w h => hts0 w (wsL_law_in w h)
  have hbA : ¬ (fun q : Nat => s.heap.size ≤ q) b := Nat.not_le.mpr hbl
  unfold f_L_law_917 at hf
  refine lv_aload_n hx hb dL_law_917 rfl (lv_at hl 1 rfl) ?_
  refine lv_aload_n hx hb dL_law_918 rfl (lv_at hl 0 rfl) ?_
  refine lv_iload hx hb dL_law_919 (lv_at hl 4 rfl) ?_
  refine lv_iconst (v := (1 : Int32)) hx hb dL_law_921 (by decide) ?_
  refine lv_iadd hx hb dL_law_922 ?_
  obtain ⟨hg, hf⟩ := zg_some hf
  refine va_sld hx hb hX hbl hbA (xS B) (zin_ok hg) dL_law_923 ?_
  refine lv_aload_n hx hb dL_law_924 rfl (lv_at hl 3 rfl) ?_
  obtain ⟨r2, σ3, hu1, hf⟩ := zb_some hf
  refine x_i B (fun nb a g hs Bz => vx_runSW (As := [.ref (ad 0), .int (xs (v4 + (1 : Int32)).toNatClampNeg), .ref (ad 75)]) (rest := []) ⟨hx, hb, hml, hown, hts⟩ (c_L_holders_0_75 l hfl hu1 _ nb a g hs) (vx_cwSW 3 hts gL_law_L_holders rfl rfl rfl (by decide +kernel) ⟨Nat.le_of_ble_eq_true rfl, Nat.le_of_ble_eq_true rfl⟩) (z_preS Bz) rfl rfl hl.1 rfl (lv_room (Nat.le_of_ble_eq_true rfl)) dL_law_925 ⟨(show C1 + 1 ≤ 601024 by omega), (show S1 + 6 ≤ 7293034 by omega)⟩) (fun H locs B => ?_)
  refine lv_istore (lv' := [(5, .int r2), (0, .ref b), (1, .ref (ad 0)), (2, .ref (ad 65)), (3, .ref (ad 75)), (4, .int v4)]) hx hb dL_law_928 hl (by decide) rfl (fun ls hl => ?_)
  refine lv_aload_n hx hb dL_law_930 rfl (lv_at hl 3 rfl) ?_
  refine lv_aload_n hx hb dL_law_931 rfl (lv_at hl 1 rfl) ?_
  refine lv_iload hx hb dL_law_932 (lv_at hl 5 rfl) ?_
  refine lv_iconst (v := (1 : Int32)) hx hb dL_law_934 (by decide) ?_
  refine lv_iadd hx hb dL_law_935 ?_
  obtain ⟨hg, hf⟩ := zg_some hf
  refine va_sld hx hb hX hbl hbA (xS B) (zin_ok hg) dL_law_936 ?_
  obtain ⟨r5, σ6, hu4, hf⟩ := zb_some hf
  refine x_i B (fun nb a g hs Bz => va_runV (As := [.int (xs (v4 + (1 : Int32)).toNatClampNeg)]) (rest := []) ⟨hx, hb, hml, hown, hts⟩ (c_X9_holders l hu4 _ nb a g hs) (cwV 1 hts gL_law_X9_holders rfl rfl rfl (by decide +kernel) ⟨Nat.le_of_ble_eq_true rfl, Nat.le_of_ble_eq_true rfl⟩) (x_preV Bz (by decide) (fun _ => rfl) rfl) rfl rfl hl.1 rfl (lv_room (Nat.le_of_ble_eq_true rfl)) dL_law_937 ⟨(show C1 + 1 + 0 ≤ 601024 by omega), (show S1 + 6 + 0 ≤ 7293034 by omega)⟩) (fun H locs B => ?_)
  refine lv_istore (lv' := [(6, .int r5), (5, .int r2), (0, .ref b), (1, .ref (ad 0)), (2, .ref (ad 65)), (3, .ref (ad 75)), (4, .int v4)]) hx hb dL_law_940 hl (by decide) rfl (fun ls hl => ?_)
  refine lv_aload_n hx hb dL_law_942 rfl (lv_at hl 4 rfl) ?_
  obtain ⟨r8, σ9, hu7, hf⟩ := zb_some hf
  refine x_i B (fun nb a g hs Bz => va_runV (As := []) (rest := []) ⟨hx, hb, hml, hown, hts⟩ (c_X9_thrown l hu7 _ nb a g hs) (cwV 0 hts gL_law_X9_thrown rfl rfl rfl (by decide +kernel) ⟨Nat.le_of_ble_eq_true rfl, Nat.le_of_ble_eq_true rfl⟩) (x_preV Bz (by decide) (fun _ => rfl) rfl) rfl rfl hl.1 rfl (lv_room (Nat.le_of_ble_eq_true rfl)) dL_law_943 ⟨(show C1 + 1 + 0 + 0 ≤ 601024 by omega), (show S1 + 6 + 0 + 0 ≤ 7293034 by omega)⟩) (fun H locs B => ?_)
  refine lv_iload hx hb dL_law_946 (lv_at hl 1 rfl) ?_
  refine lv_icmp_eq (tgt := 953) hx hb dL_law_948 (by decide) (fun hc => ?_) (fun hc => ?_)
  · have hf := zif_t hc hf
    refine lv_iload hx hb dL_law_953 (lv_at hl 1 rfl) ?_
    refine lv_if_ne (tgt := 970) hx hb dL_law_955 (by decide) (fun hc => ?_) (fun hc => ?_)
    · have hf := zif_f hc hf
      refine lv_goto (tgt := 2518) hx hb dL_law_970 (by decide) ?_
      refine lv_iinc (v := (v4 + (5 : Int32))) (lv' := [(4, .int (v4 + (5 : Int32))), (6, .int r5), (5, .int r2), (0, .ref b), (1, .ref (ad 0)), (2, .ref (ad 65)), (3, .ref (ad 75))]) hx hb dL_law_2518 hl (k := 6) rfl (zc1 (by decide)) (by decide) rfl (fun ls hl => ?_)
      refine lv_goto (tgt := 23) hx hb dL_law_2521 (by decide) ?_
      refine W.widen (k := C1 + 28) (n := S1 + 2612) (show C1 + 1 + 0 + 0 ≤ C1 + 28 by omega) (show S1 + 6 + 0 + 0 ≤ S1 + 2612 by omega) ?_
      exact hK23 _ _ _ _ _ hf B (lv_sub hl [3, 4, 5, 6, 0] rfl)
    · have hf := zif_t hc hf
      refine lv_aload_n hx hb dL_law_958 rfl (lv_at hl 5 rfl) ?_
      refine lv_iconst (v := (0 : Int32)) hx hb dL_law_959 (by decide) ?_
      obtain ⟨hg, hf⟩ := zg_some hf
      refine x_lald hx hb B 75 (by decide) (fun _ => rfl) (zin_ok hg) dL_law_960 ?_
      refine lv_iload hx hb dL_law_961 (lv_at hl 0 rfl) ?_
      refine lv_i2l (v := r5.toInt64) hx hb dL_law_963 rfl ?_
      refine W.lcmp hx hb dL_law_964 ?_
      refine lv_if_eq (tgt := 970) hx hb dL_law_965 (by decide) (fun hc => ?_) (fun hc => ?_)
      · have hf := zif_t hc hf
        refine lv_goto (tgt := 2518) hx hb dL_law_970 (by decide) ?_
        refine lv_iinc (v := (v4 + (5 : Int32))) (lv' := [(4, .int (v4 + (5 : Int32))), (6, .int r5), (5, .int r2), (0, .ref b), (1, .ref (ad 0)), (2, .ref (ad 65)), (3, .ref (ad 75))]) hx hb dL_law_2518 hl (k := 6) rfl (zc1 (by decide)) (by decide) rfl (fun ls hl => ?_)
        refine lv_goto (tgt := 23) hx hb dL_law_2521 (by decide) ?_
        refine W.widen (k := C1 + 28) (n := S1 + 2612) (show C1 + 1 + 0 + 0 ≤ C1 + 28 by omega) (show S1 + 6 + 0 + 0 ≤ S1 + 2612 by omega) ?_
        exact hK23 _ _ _ _ _ hf B (lv_sub hl [3, 4, 5, 6, 0] rfl)
      · have hf := zif_f hc hf
        refine lv_iconst (v := (0 : Int32)) hx hb dL_law_968 (by decide) ?_
        exact absurd (show (0 : Int32) = 1 from congrArg Prod.fst (Option.some.inj hf)) (by decide)
  · have hf := zif_f hc hf
    refine lv_iconst (v := (0 : Int32)) hx hb dL_law_951 (by decide) ?_
    exact absurd (show (0 : Int32) = 1 from congrArg Prod.fst (Option.some.inj hf)) (by decide)
theorem dL_law_973 : decode cL_law 973 = .ok (.aload_n 1, 1) := by decide +kernel
theorem dL_law_974 : decode cL_law 974 = .ok (.aload_n 0, 1) := by decide +kernel
theorem dL_law_975 : decode cL_law 975 = .ok (.iload 4, 2) := by decide +kernel
theorem dL_law_977 : decode cL_law 977 = .ok (.iconst 1, 1) := by decide +kernel
theorem dL_law_978 : decode cL_law 978 = .ok (.iadd, 1) := by decide +kernel
theorem dL_law_979 : decode cL_law 979 = .ok (.iaload, 1) := by decide +kernel
theorem dL_law_980 : decode cL_law 980 = .ok (.aload_n 3, 1) := by decide +kernel
theorem dL_law_981 : decode cL_law 981 = .ok (.invokestatic 178, 3) := by decide +kernel
theorem dL_law_984 : decode cL_law 984 = .ok (.istore 5, 2) := by decide +kernel
theorem dL_law_986 : decode cL_law 986 = .ok (.aload_n 2, 1) := by decide +kernel
theorem dL_law_987 : decode cL_law 987 = .ok (.aload_n 0, 1) := by decide +kernel
theorem dL_law_988 : decode cL_law 988 = .ok (.iload 4, 2) := by decide +kernel
theorem dL_law_990 : decode cL_law 990 = .ok (.iconst 1, 1) := by decide +kernel
theorem dL_law_991 : decode cL_law 991 = .ok (.iadd, 1) := by decide +kernel
theorem dL_law_992 : decode cL_law 992 = .ok (.iaload, 1) := by decide +kernel
theorem dL_law_993 : decode cL_law 993 = .ok (.invokevirtual 180, 3) := by decide +kernel
theorem dL_law_996 : decode cL_law 996 = .ok (.istore 6, 2) := by decide +kernel
theorem dL_law_998 : decode cL_law 998 = .ok (.aload_n 2, 1) := by decide +kernel
theorem dL_law_999 : decode cL_law 999 = .ok (.invokevirtual 139, 3) := by decide +kernel
theorem dL_law_1002 : decode cL_law 1002 = .ok (.iload 5, 2) := by decide +kernel
theorem dL_law_1004 : decode cL_law 1004 = .ok (.if_icmp .eq 5, 3) := by decide +kernel
theorem dL_law_1007 : decode cL_law 1007 = .ok (.iconst 0, 1) := by decide +kernel
theorem dL_law_1009 : decode cL_law 1009 = .ok (.iload 5, 2) := by decide +kernel
theorem dL_law_1011 : decode cL_law 1011 = .ok (.ifCond .ne 15, 3) := by decide +kernel
theorem dL_law_1014 : decode cL_law 1014 = .ok (.aload_n 3, 1) := by decide +kernel
theorem dL_law_1015 : decode cL_law 1015 = .ok (.iconst 0, 1) := by decide +kernel
theorem dL_law_1016 : decode cL_law 1016 = .ok (.laload, 1) := by decide +kernel
theorem dL_law_1017 : decode cL_law 1017 = .ok (.iload 6, 2) := by decide +kernel
theorem dL_law_1019 : decode cL_law 1019 = .ok (.i2l, 1) := by decide +kernel
theorem dL_law_1020 : decode cL_law 1020 = .ok (.lcmp, 1) := by decide +kernel
theorem dL_law_1021 : decode cL_law 1021 = .ok (.ifCond .eq 5, 3) := by decide +kernel
theorem dL_law_1024 : decode cL_law 1024 = .ok (.iconst 0, 1) := by decide +kernel
theorem dL_law_1026 : decode cL_law 1026 = .ok (.goto 1492, 3) := by decide +kernel
set_option maxRecDepth 20000 in
theorem ggL_law_L_held : GoodIn wsL_law wsL_held := goodIn_ca (goodIn_ca (goodIn_r _ [879, 146, 880, 881, 882, 2, 883, 16, 153, 155, 156, 157, 158, 159, 160, 161, 162, 884, 885, 886, 42, 887, 180, 61, 260, 261, 1369, 1370, 1371, 1372, 1373, 1374, 1375, 1376, 1397, 1398, 1399, 1400, 1401, 1402, 1403, 1404, 1424, 1425, 1426, 1427, 1428, 1429, 1430, 1431, 1432, 1433, 1434, 1435] (by decide +kernel) (by decide +kernel)) (goodIn_sub (fun _ h => List.mem_append_left _ (List.mem_append_left _ (List.mem_append_left _ (List.mem_append_left _ (List.mem_append_left _ (List.mem_append_right _ h)))))) (by decide +kernel))) (goodIn_sub (fun _ h => List.mem_append_left _ (List.mem_append_left _ (List.mem_append_left _ (List.mem_append_left _ (List.mem_append_right _ h))))) (by decide +kernel))
set_option maxRecDepth 20000 in
theorem gL_law_L_held : GoodIn wsL_law (va_wsS RL 178 yL_held wsL_held) := goodIn_app (goodIn_of _ (by decide +kernel)) ggL_law_L_held
set_option maxRecDepth 20000 in
theorem ggL_law_X9_held : GoodIn wsL_law wsX9_held := goodIn_ca (goodIn_r _ [891, 193, 194, 195, 5, 196, 197, 198, 199, 892, 893, 894, 895, 132, 412, 413, 414, 1377, 1378, 1379, 1380, 1381, 1382, 1383, 1384, 1385, 1386, 1387, 1388, 1389, 1390, 1391, 1392, 1393, 1394, 1395, 1396] (by decide +kernel) (by decide +kernel)) (goodIn_sub (fun _ h => List.mem_append_left _ (List.mem_append_left _ (List.mem_append_left _ (List.mem_append_left _ (List.mem_append_left _ (List.mem_append_right _ h)))))) (by decide +kernel))
set_option maxRecDepth 20000 in
theorem gL_law_X9_held : GoodIn wsL_law (wsV RL 180 RX9 yX9_held wsX9_held) := goodIn_app (goodIn_of _ (by decide +kernel)) ggL_law_X9_held
set_option maxHeartbeats 4000000 in
set_option maxRecDepth 100000 in
theorem lc_973 {p : Program} {e : Env} {s : State} {m : MethodId} {below : List Frame} {meth : Method} {c : Code} (l : Launch) (hfl : l.stackTraces = false) {b L : Nat} {xs : Nat → Int32} {Q : State → Prop} (C0 : lw_At p s m meth c b L xs) {G : zG} {ad : Nat → Nat} {σ' : zs} (C1 S1 : Nat) (hC : C1 + 28 ≤ 601024) (hS1 : S1 + 2612 ≤ 7293034) (K23 : zs → Int32 → Option (Int32 × zs)) (hK23 : ∀ (σ : zs) (v4 : Int32) (H : Heap) (locs : List Loc) (ls : Array Slot), K23 σ v4 = some (1, σ') → xB (fun q : Nat => s.heap.size ≤ q) s G ad σ H locs → lv_has ls 7 [(0, .ref b), (1, .ref (ad 0)), (2, .ref (ad 65)), (3, .ref (ad 75)), (4, .int v4)] → W p l e room_1 s m #[Value.ref b] below meth c H locs (C1 + 28) (S1 + 2612) Q (F0 m 23 ls [])) (σ : zs) (v4 : Int32) (H : Heap) (locs : List Loc) (ls : Array Slot) (hf : f_L_law_973 L xs K23 σ v4 = some (1, σ')) (B : xB (fun q : Nat => s.heap.size ≤ q) s G ad σ H locs) (hl : lv_has ls 7 [(0, .ref b), (1, .ref (ad 0)), (2, .ref (ad 65)), (3, .ref (ad 75)), (4, .int v4)]) : W p l e room_1 s m #[Value.ref b] below meth c H locs C1 S1 Q (F0 m 973 ls []) := by
  obtain ⟨hx, hb, hr, hml, hown, hts0, hX, hbl, hlocks, hgv⟩ := id C0
  have hts := fun w h => hts0 w (wsL_law_in w h)
  have hbA : ¬ (fun q : Nat => s.heap.size ≤ q) b := Nat.not_le.mpr hbl
  unfold f_L_law_973 at hf
  refine lv_aload_n hx hb dL_law_973 rfl (lv_at hl 1 rfl) ?_
  refine lv_aload_n hx hb dL_law_974 rfl (lv_at hl 0 rfl) ?_
  refine lv_iload hx hb dL_law_975 (lv_at hl 4 rfl) ?_
  refine lv_iconst (v := (1 : Int32)) hx hb dL_law_977 (by decide) ?_
  refine lv_iadd hx hb dL_law_978 ?_
  obtain ⟨hg, hf⟩ := zg_some hf
  refine va_sld hx hb hX hbl hbA (xS B) (zin_ok hg) dL_law_979 ?_
  refine lv_aload_n hx hb dL_law_980 rfl (lv_at hl 3 rfl) ?_
  obtain ⟨r2, σ3, hu1, hf⟩ := zb_some hf
  refine x_i B (fun nb a g hs Bz => vx_runSW (As := [.ref (ad 0), .int (xs (v4 + (1 : Int32)).toNatClampNeg), .ref (ad 75)]) (rest := []) ⟨hx, hb, hml, hown, hts⟩ (c_L_held_0_75 l hfl hu1 _ nb a g hs) (vx_cwSW 3 hts gL_law_L_held rfl rfl rfl (by decide +kernel) ⟨Nat.le_of_ble_eq_true rfl, Nat.le_of_ble_eq_true rfl⟩) (z_preS Bz) rfl rfl hl.1 rfl (lv_room (Nat.le_of_ble_eq_true rfl)) dL_law_981 ⟨(show C1 + 1 ≤ 601024 by omega), (show S1 + 6 ≤ 7293034 by omega)⟩) (fun H locs B => ?_)
  refine lv_istore (lv' := [(5, .int r2), (0, .ref b), (1, .ref (ad 0)), (2, .ref (ad 65)), (3, .ref (ad 75)), (4, .int v4)]) hx hb dL_law_984 hl (by decide) rfl (fun ls hl => ?_)
  refine lv_aload_n hx hb dL_law_986 rfl (lv_at hl 3 rfl) ?_
  refine lv_aload_n hx hb dL_law_987 rfl (lv_at hl 1 rfl) ?_
  refine lv_iload hx hb dL_law_988 (lv_at hl 5 rfl) ?_
  refine lv_iconst (v := (1 : Int32)) hx hb dL_law_990 (by decide) ?_
  refine lv_iadd hx hb dL_law_991 ?_
  obtain ⟨hg, hf⟩ := zg_some hf
  refine va_sld hx hb hX hbl hbA (xS B) (zin_ok hg) dL_law_992 ?_
  obtain ⟨r5, σ6, hu4, hf⟩ := zb_some hf
  refine x_i B (fun nb a g hs Bz => va_runV (As := [.int (xs (v4 + (1 : Int32)).toNatClampNeg)]) (rest := []) ⟨hx, hb, hml, hown, hts⟩ (c_X9_held l hu4 _ nb a g hs) (cwV 1 hts gL_law_X9_held rfl rfl rfl (by decide +kernel) ⟨Nat.le_of_ble_eq_true rfl, Nat.le_of_ble_eq_true rfl⟩) (x_preV Bz (by decide) (fun _ => rfl) rfl) rfl rfl hl.1 rfl (lv_room (Nat.le_of_ble_eq_true rfl)) dL_law_993 ⟨(show C1 + 1 + 0 ≤ 601024 by omega), (show S1 + 6 + 0 ≤ 7293034 by omega)⟩) (fun H locs B => ?_)
  refine lv_istore (lv' := [(6, .int r5), (5, .int r2), (0, .ref b), (1, .ref (ad 0)), (2, .ref (ad 65)), (3, .ref (ad 75)), (4, .int v4)]) hx hb dL_law_996 hl (by decide) rfl (fun ls hl => ?_)
  refine lv_aload_n hx hb dL_law_998 rfl (lv_at hl 4 rfl) ?_
  obtain ⟨r8, σ9, hu7, hf⟩ := zb_some hf
  refine x_i B (fun nb a g hs Bz => va_runV (As := []) (rest := []) ⟨hx, hb, hml, hown, hts⟩ (c_X9_thrown l hu7 _ nb a g hs) (cwV 0 hts gL_law_X9_thrown rfl rfl rfl (by decide +kernel) ⟨Nat.le_of_ble_eq_true rfl, Nat.le_of_ble_eq_true rfl⟩) (x_preV Bz (by decide) (fun _ => rfl) rfl) rfl rfl hl.1 rfl (lv_room (Nat.le_of_ble_eq_true rfl)) dL_law_999 ⟨(show C1 + 1 + 0 + 0 ≤ 601024 by omega), (show S1 + 6 + 0 + 0 ≤ 7293034 by omega)⟩) (fun H locs B => ?_)
  refine lv_iload hx hb dL_law_1002 (lv_at hl 1 rfl) ?_
  refine lv_icmp_eq (tgt := 1009) hx hb dL_law_1004 (by decide) (fun hc => ?_) (fun hc => ?_)
  · have hf := zif_t hc hf
    refine lv_iload hx hb dL_law_1009 (lv_at hl 1 rfl) ?_
    refine lv_if_ne (tgt := 1026) hx hb dL_law_1011 (by decide) (fun hc => ?_) (fun hc => ?_)
    · have hf := zif_f hc hf
      refine lv_goto (tgt := 2518) hx hb dL_law_1026 (by decide) ?_
      refine lv_iinc (v := (v4 + (5 : Int32))) (lv' := [(4, .int (v4 + (5 : Int32))), (6, .int r5), (5, .int r2), (0, .ref b), (1, .ref (ad 0)), (2, .ref (ad 65)), (3, .ref (ad 75))]) hx hb dL_law_2518 hl (k := 6) rfl (zc1 (by decide)) (by decide) rfl (fun ls hl => ?_)
      refine lv_goto (tgt := 23) hx hb dL_law_2521 (by decide) ?_
      refine W.widen (k := C1 + 28) (n := S1 + 2612) (show C1 + 1 + 0 + 0 ≤ C1 + 28 by omega) (show S1 + 6 + 0 + 0 ≤ S1 + 2612 by omega) ?_
      exact hK23 _ _ _ _ _ hf B (lv_sub hl [3, 4, 5, 6, 0] rfl)
    · have hf := zif_t hc hf
      refine lv_aload_n hx hb dL_law_1014 rfl (lv_at hl 5 rfl) ?_
      refine lv_iconst (v := (0 : Int32)) hx hb dL_law_1015 (by decide) ?_
      obtain ⟨hg, hf⟩ := zg_some hf
      refine x_lald hx hb B 75 (by decide) (fun _ => rfl) (zin_ok hg) dL_law_1016 ?_
      refine lv_iload hx hb dL_law_1017 (lv_at hl 0 rfl) ?_
      refine lv_i2l (v := r5.toInt64) hx hb dL_law_1019 rfl ?_
      refine W.lcmp hx hb dL_law_1020 ?_
      refine lv_if_eq (tgt := 1026) hx hb dL_law_1021 (by decide) (fun hc => ?_) (fun hc => ?_)
      · have hf := zif_t hc hf
        refine lv_goto (tgt := 2518) hx hb dL_law_1026 (by decide) ?_
        refine lv_iinc (v := (v4 + (5 : Int32))) (lv' := [(4, .int (v4 + (5 : Int32))), (6, .int r5), (5, .int r2), (0, .ref b), (1, .ref (ad 0)), (2, .ref (ad 65)), (3, .ref (ad 75))]) hx hb dL_law_2518 hl (k := 6) rfl (zc1 (by decide)) (by decide) rfl (fun ls hl => ?_)
        refine lv_goto (tgt := 23) hx hb dL_law_2521 (by decide) ?_
        refine W.widen (k := C1 + 28) (n := S1 + 2612) (show C1 + 1 + 0 + 0 ≤ C1 + 28 by omega) (show S1 + 6 + 0 + 0 ≤ S1 + 2612 by omega) ?_
        exact hK23 _ _ _ _ _ hf B (lv_sub hl [3, 4, 5, 6, 0] rfl)
      · have hf := zif_f hc hf
        refine lv_iconst (v := (0 : Int32)) hx hb dL_law_1024 (by decide) ?_
        exact absurd (show (0 : Int32) = 1 from congrArg Prod.fst (Option.some.inj hf)) (by decide)
  · have hf := zif_f hc hf
    refine lv_iconst (v := (0 : Int32)) hx hb dL_law_1007 (by decide) ?_
    exact absurd (show (0 : Int32) = 1 from congrArg Prod.fst (Option.some.inj hf)) (by decide)
theorem dL_law_1029 : decode cL_law 1029 = .ok (.aload_n 1, 1) := by decide +kernel
theorem dL_law_1030 : decode cL_law 1030 = .ok (.aload_n 0, 1) := by decide +kernel
theorem dL_law_1031 : decode cL_law 1031 = .ok (.iload 4, 2) := by decide +kernel
theorem dL_law_1033 : decode cL_law 1033 = .ok (.iconst 1, 1) := by decide +kernel
theorem dL_law_1034 : decode cL_law 1034 = .ok (.iadd, 1) := by decide +kernel
theorem dL_law_1035 : decode cL_law 1035 = .ok (.iaload, 1) := by decide +kernel
theorem dL_law_1036 : decode cL_law 1036 = .ok (.aload_n 3, 1) := by decide +kernel
theorem dL_law_1037 : decode cL_law 1037 = .ok (.invokestatic 181, 3) := by decide +kernel
theorem dL_law_1040 : decode cL_law 1040 = .ok (.istore 5, 2) := by decide +kernel
theorem dL_law_1042 : decode cL_law 1042 = .ok (.aload_n 2, 1) := by decide +kernel
theorem dL_law_1043 : decode cL_law 1043 = .ok (.aload_n 0, 1) := by decide +kernel
theorem dL_law_1044 : decode cL_law 1044 = .ok (.iload 4, 2) := by decide +kernel
theorem dL_law_1046 : decode cL_law 1046 = .ok (.iconst 1, 1) := by decide +kernel
theorem dL_law_1047 : decode cL_law 1047 = .ok (.iadd, 1) := by decide +kernel
theorem dL_law_1048 : decode cL_law 1048 = .ok (.iaload, 1) := by decide +kernel
theorem dL_law_1049 : decode cL_law 1049 = .ok (.invokevirtual 183, 3) := by decide +kernel
theorem dL_law_1052 : decode cL_law 1052 = .ok (.istore 6, 2) := by decide +kernel
theorem dL_law_1054 : decode cL_law 1054 = .ok (.aload_n 2, 1) := by decide +kernel
theorem dL_law_1055 : decode cL_law 1055 = .ok (.invokevirtual 139, 3) := by decide +kernel
theorem dL_law_1058 : decode cL_law 1058 = .ok (.iload 5, 2) := by decide +kernel
theorem dL_law_1060 : decode cL_law 1060 = .ok (.if_icmp .eq 5, 3) := by decide +kernel
theorem dL_law_1063 : decode cL_law 1063 = .ok (.iconst 0, 1) := by decide +kernel
theorem dL_law_1065 : decode cL_law 1065 = .ok (.iload 5, 2) := by decide +kernel
theorem dL_law_1067 : decode cL_law 1067 = .ok (.ifCond .ne 15, 3) := by decide +kernel
theorem dL_law_1070 : decode cL_law 1070 = .ok (.aload_n 3, 1) := by decide +kernel
theorem dL_law_1071 : decode cL_law 1071 = .ok (.iconst 0, 1) := by decide +kernel
theorem dL_law_1072 : decode cL_law 1072 = .ok (.laload, 1) := by decide +kernel
theorem dL_law_1073 : decode cL_law 1073 = .ok (.iload 6, 2) := by decide +kernel
theorem dL_law_1075 : decode cL_law 1075 = .ok (.i2l, 1) := by decide +kernel
theorem dL_law_1076 : decode cL_law 1076 = .ok (.lcmp, 1) := by decide +kernel
theorem dL_law_1077 : decode cL_law 1077 = .ok (.ifCond .eq 5, 3) := by decide +kernel
theorem dL_law_1080 : decode cL_law 1080 = .ok (.iconst 0, 1) := by decide +kernel
theorem dL_law_1082 : decode cL_law 1082 = .ok (.goto 1436, 3) := by decide +kernel
set_option maxRecDepth 20000 in
theorem ggL_law_L_below : GoodIn wsL_law wsL_below := goodIn_ca (goodIn_ca (goodIn_r _ [898, 146, 899, 900, 901, 2, 902, 16, 153, 250, 251, 252, 253, 154, 158, 159, 160, 161, 162, 541, 542, 543, 42, 544, 180, 545, 546, 547, 548, 59, 60, 1369, 1370, 1371, 1372, 1373, 1374, 1375, 1376, 1397, 1398, 1399, 1400, 1401, 1402, 1403, 1404, 1424, 1425, 1426, 1427, 1428, 1429, 1430, 1431, 1432, 1433, 1434, 1435] (by decide +kernel) (by decide +kernel)) (goodIn_sub (fun _ h => List.mem_append_left _ (List.mem_append_left _ (List.mem_append_left _ (List.mem_append_left _ (List.mem_append_left _ (List.mem_append_right _ h)))))) (by decide +kernel))) (goodIn_sub (fun _ h => List.mem_append_left _ (List.mem_append_left _ (List.mem_append_left _ (List.mem_append_left _ (List.mem_append_right _ h))))) (by decide +kernel))
set_option maxRecDepth 20000 in
theorem gL_law_L_below : GoodIn wsL_law (va_wsS RL 181 yL_below wsL_below) := goodIn_app (goodIn_of _ (by decide +kernel)) ggL_law_L_below
set_option maxRecDepth 20000 in
theorem ggL_law_X9_below : GoodIn wsL_law wsX9_below := goodIn_ca (goodIn_r _ [906, 193, 132, 408, 409, 410, 5, 411, 197, 198, 199, 561, 562, 563, 564, 1377, 1378, 1379, 1380, 1381, 1382, 1383, 1384, 1385, 1386, 1387, 1388, 1389, 1390, 1391, 1392, 1393, 1394, 1395, 1396] (by decide +kernel) (by decide +kernel)) (goodIn_sub (fun _ h => List.mem_append_left _ (List.mem_append_left _ (List.mem_append_left _ (List.mem_append_left _ (List.mem_append_left _ (List.mem_append_right _ h)))))) (by decide +kernel))
set_option maxRecDepth 20000 in
theorem gL_law_X9_below : GoodIn wsL_law (wsV RL 183 RX9 yX9_below wsX9_below) := goodIn_app (goodIn_of _ (by decide +kernel)) ggL_law_X9_below
set_option maxHeartbeats 4000000 in
set_option maxRecDepth 100000 in
theorem lc_1029 {p : Program} {e : Env} {s : State} {m : MethodId} {below : List Frame} {meth : Method} {c : Code} (l : Launch) (hfl : l.stackTraces = false) {b L : Nat} {xs : Nat → Int32} {Q : State → Prop} (C0 : lw_At p s m meth c b L xs) {G : zG} {ad : Nat → Nat} {σ' : zs} (C1 S1 : Nat) (hC : C1 + 28 ≤ 601024) (hS1 : S1 + 2612 ≤ 7293034) (K23 : zs → Int32 → Option (Int32 × zs)) (hK23 : ∀ (σ : zs) (v4 : Int32) (H : Heap) (locs : List Loc) (ls : Array Slot), K23 σ v4 = some (1, σ') → xB (fun q : Nat => s.heap.size ≤ q) s G ad σ H locs → lv_has ls 7 [(0, .ref b), (1, .ref (ad 0)), (2, .ref (ad 65)), (3, .ref (ad 75)), (4, .int v4)] → W p l e room_1 s m #[Value.ref b] below meth c H locs (C1 + 28) (S1 + 2612) Q (F0 m 23 ls [])) (σ : zs) (v4 : Int32) (H : Heap) (locs : List Loc) (ls : Array Slot) (hf : f_L_law_1029 L xs K23 σ v4 = some (1, σ')) (B : xB (fun q : Nat => s.heap.size ≤ q) s G ad σ H locs) (hl : lv_has ls 7 [(0, .ref b), (1, .ref (ad 0)), (2, .ref (ad 65)), (3, .ref (ad 75)), (4, .int v4)]) : W p l e room_1 s m #[Value.ref b] below meth c H locs C1 S1 Q (F0 m 1029 ls []) := by
  obtain ⟨hx, hb, hr, hml, hown, hts0, hX, hbl, hlocks, hgv⟩ := id C0
  have hts := fun w h => hts0 w (wsL_law_in w h)
  have hbA : ¬ (fun q : Nat => s.heap.size ≤ q) b := Nat.not_le.mpr hbl
  unfold f_L_law_1029 at hf
  refine lv_aload_n hx hb dL_law_1029 rfl (lv_at hl 1 rfl) ?_
  refine lv_aload_n hx hb dL_law_1030 rfl (lv_at hl 0 rfl) ?_
  refine lv_iload hx hb dL_law_1031 (lv_at hl 4 rfl) ?_
  refine lv_iconst (v := (1 : Int32)) hx hb dL_law_1033 (by decide) ?_
  refine lv_iadd hx hb dL_law_1034 ?_
  obtain ⟨hg, hf⟩ := zg_some hf
  refine va_sld hx hb hX hbl hbA (xS B) (zin_ok hg) dL_law_1035 ?_
  refine lv_aload_n hx hb dL_law_1036 rfl (lv_at hl 3 rfl) ?_
  obtain ⟨r2, σ3, hu1, hf⟩ := zb_some hf
  refine x_i B (fun nb a g hs Bz => vx_runSW (As := [.ref (ad 0), .int (xs (v4 + (1 : Int32)).toNatClampNeg), .ref (ad 75)]) (rest := []) ⟨hx, hb, hml, hown, hts⟩ (c_L_below_0_75 l hfl hu1 _ nb a g hs) (vx_cwSW 3 hts gL_law_L_below rfl rfl rfl (by decide +kernel) ⟨Nat.le_of_ble_eq_true rfl, Nat.le_of_ble_eq_true rfl⟩) (z_preS Bz) rfl rfl hl.1 rfl (lv_room (Nat.le_of_ble_eq_true rfl)) dL_law_1037 ⟨(show C1 + 1 ≤ 601024 by omega), (show S1 + 6 ≤ 7293034 by omega)⟩) (fun H locs B => ?_)
  refine lv_istore (lv' := [(5, .int r2), (0, .ref b), (1, .ref (ad 0)), (2, .ref (ad 65)), (3, .ref (ad 75)), (4, .int v4)]) hx hb dL_law_1040 hl (by decide) rfl (fun ls hl => ?_)
  refine lv_aload_n hx hb dL_law_1042 rfl (lv_at hl 3 rfl) ?_
  refine lv_aload_n hx hb dL_law_1043 rfl (lv_at hl 1 rfl) ?_
  refine lv_iload hx hb dL_law_1044 (lv_at hl 5 rfl) ?_
  refine lv_iconst (v := (1 : Int32)) hx hb dL_law_1046 (by decide) ?_
  refine lv_iadd hx hb dL_law_1047 ?_
  obtain ⟨hg, hf⟩ := zg_some hf
  refine va_sld hx hb hX hbl hbA (xS B) (zin_ok hg) dL_law_1048 ?_
  obtain ⟨r5, σ6, hu4, hf⟩ := zb_some hf
  refine x_i B (fun nb a g hs Bz => va_runV (As := [.int (xs (v4 + (1 : Int32)).toNatClampNeg)]) (rest := []) ⟨hx, hb, hml, hown, hts⟩ (c_X9_below l hu4 _ nb a g hs) (cwV 1 hts gL_law_X9_below rfl rfl rfl (by decide +kernel) ⟨Nat.le_of_ble_eq_true rfl, Nat.le_of_ble_eq_true rfl⟩) (x_preV Bz (by decide) (fun _ => rfl) rfl) rfl rfl hl.1 rfl (lv_room (Nat.le_of_ble_eq_true rfl)) dL_law_1049 ⟨(show C1 + 1 + 0 ≤ 601024 by omega), (show S1 + 6 + 0 ≤ 7293034 by omega)⟩) (fun H locs B => ?_)
  refine lv_istore (lv' := [(6, .int r5), (5, .int r2), (0, .ref b), (1, .ref (ad 0)), (2, .ref (ad 65)), (3, .ref (ad 75)), (4, .int v4)]) hx hb dL_law_1052 hl (by decide) rfl (fun ls hl => ?_)
  refine lv_aload_n hx hb dL_law_1054 rfl (lv_at hl 4 rfl) ?_
  obtain ⟨r8, σ9, hu7, hf⟩ := zb_some hf
  refine x_i B (fun nb a g hs Bz => va_runV (As := []) (rest := []) ⟨hx, hb, hml, hown, hts⟩ (c_X9_thrown l hu7 _ nb a g hs) (cwV 0 hts gL_law_X9_thrown rfl rfl rfl (by decide +kernel) ⟨Nat.le_of_ble_eq_true rfl, Nat.le_of_ble_eq_true rfl⟩) (x_preV Bz (by decide) (fun _ => rfl) rfl) rfl rfl hl.1 rfl (lv_room (Nat.le_of_ble_eq_true rfl)) dL_law_1055 ⟨(show C1 + 1 + 0 + 0 ≤ 601024 by omega), (show S1 + 6 + 0 + 0 ≤ 7293034 by omega)⟩) (fun H locs B => ?_)
  refine lv_iload hx hb dL_law_1058 (lv_at hl 1 rfl) ?_
  refine lv_icmp_eq (tgt := 1065) hx hb dL_law_1060 (by decide) (fun hc => ?_) (fun hc => ?_)
  · have hf := zif_t hc hf
    refine lv_iload hx hb dL_law_1065 (lv_at hl 1 rfl) ?_
    refine lv_if_ne (tgt := 1082) hx hb dL_law_1067 (by decide) (fun hc => ?_) (fun hc => ?_)
    · have hf := zif_f hc hf
      refine lv_goto (tgt := 2518) hx hb dL_law_1082 (by decide) ?_
      refine lv_iinc (v := (v4 + (5 : Int32))) (lv' := [(4, .int (v4 + (5 : Int32))), (6, .int r5), (5, .int r2), (0, .ref b), (1, .ref (ad 0)), (2, .ref (ad 65)), (3, .ref (ad 75))]) hx hb dL_law_2518 hl (k := 6) rfl (zc1 (by decide)) (by decide) rfl (fun ls hl => ?_)
      refine lv_goto (tgt := 23) hx hb dL_law_2521 (by decide) ?_
      refine W.widen (k := C1 + 28) (n := S1 + 2612) (show C1 + 1 + 0 + 0 ≤ C1 + 28 by omega) (show S1 + 6 + 0 + 0 ≤ S1 + 2612 by omega) ?_
      exact hK23 _ _ _ _ _ hf B (lv_sub hl [3, 4, 5, 6, 0] rfl)
    · have hf := zif_t hc hf
      refine lv_aload_n hx hb dL_law_1070 rfl (lv_at hl 5 rfl) ?_
      refine lv_iconst (v := (0 : Int32)) hx hb dL_law_1071 (by decide) ?_
      obtain ⟨hg, hf⟩ := zg_some hf
      refine x_lald hx hb B 75 (by decide) (fun _ => rfl) (zin_ok hg) dL_law_1072 ?_
      refine lv_iload hx hb dL_law_1073 (lv_at hl 0 rfl) ?_
      refine lv_i2l (v := r5.toInt64) hx hb dL_law_1075 rfl ?_
      refine W.lcmp hx hb dL_law_1076 ?_
      refine lv_if_eq (tgt := 1082) hx hb dL_law_1077 (by decide) (fun hc => ?_) (fun hc => ?_)
      · have hf := zif_t hc hf
        refine lv_goto (tgt := 2518) hx hb dL_law_1082 (by decide) ?_
        refine lv_iinc (v := (v4 + (5 : Int32))) (lv' := [(4, .int (v4 + (5 : Int32))), (6, .int r5), (5, .int r2), (0, .ref b), (1, .ref (ad 0)), (2, .ref (ad 65)), (3, .ref (ad 75))]) hx hb dL_law_2518 hl (k := 6) rfl (zc1 (by decide)) (by decide) rfl (fun ls hl => ?_)
        refine lv_goto (tgt := 23) hx hb dL_law_2521 (by decide) ?_
        refine W.widen (k := C1 + 28) (n := S1 + 2612) (show C1 + 1 + 0 + 0 ≤ C1 + 28 by omega) (show S1 + 6 + 0 + 0 ≤ S1 + 2612 by omega) ?_
        exact hK23 _ _ _ _ _ hf B (lv_sub hl [3, 4, 5, 6, 0] rfl)
      · have hf := zif_f hc hf
        refine lv_iconst (v := (0 : Int32)) hx hb dL_law_1080 (by decide) ?_
        exact absurd (show (0 : Int32) = 1 from congrArg Prod.fst (Option.some.inj hf)) (by decide)
  · have hf := zif_f hc hf
    refine lv_iconst (v := (0 : Int32)) hx hb dL_law_1063 (by decide) ?_
    exact absurd (show (0 : Int32) = 1 from congrArg Prod.fst (Option.some.inj hf)) (by decide)
theorem dL_law_1085 : decode cL_law 1085 = .ok (.aload_n 1, 1) := by decide +kernel
theorem dL_law_1086 : decode cL_law 1086 = .ok (.aload_n 0, 1) := by decide +kernel
theorem dL_law_1087 : decode cL_law 1087 = .ok (.iload 4, 2) := by decide +kernel
theorem dL_law_1089 : decode cL_law 1089 = .ok (.iconst 1, 1) := by decide +kernel
theorem dL_law_1090 : decode cL_law 1090 = .ok (.iadd, 1) := by decide +kernel
theorem dL_law_1091 : decode cL_law 1091 = .ok (.iaload, 1) := by decide +kernel
theorem dL_law_1092 : decode cL_law 1092 = .ok (.aload_n 3, 1) := by decide +kernel
theorem dL_law_1093 : decode cL_law 1093 = .ok (.invokestatic 184, 3) := by decide +kernel
theorem dL_law_1096 : decode cL_law 1096 = .ok (.istore 5, 2) := by decide +kernel
theorem dL_law_1098 : decode cL_law 1098 = .ok (.aload_n 2, 1) := by decide +kernel
theorem dL_law_1099 : decode cL_law 1099 = .ok (.aload_n 0, 1) := by decide +kernel
theorem dL_law_1100 : decode cL_law 1100 = .ok (.iload 4, 2) := by decide +kernel
theorem dL_law_1102 : decode cL_law 1102 = .ok (.iconst 1, 1) := by decide +kernel
theorem dL_law_1103 : decode cL_law 1103 = .ok (.iadd, 1) := by decide +kernel
theorem dL_law_1104 : decode cL_law 1104 = .ok (.iaload, 1) := by decide +kernel
theorem dL_law_1105 : decode cL_law 1105 = .ok (.invokevirtual 186, 3) := by decide +kernel
theorem dL_law_1108 : decode cL_law 1108 = .ok (.istore 6, 2) := by decide +kernel
theorem dL_law_1110 : decode cL_law 1110 = .ok (.aload_n 2, 1) := by decide +kernel
theorem dL_law_1111 : decode cL_law 1111 = .ok (.invokevirtual 139, 3) := by decide +kernel
theorem dL_law_1114 : decode cL_law 1114 = .ok (.iload 5, 2) := by decide +kernel
theorem dL_law_1116 : decode cL_law 1116 = .ok (.if_icmp .eq 5, 3) := by decide +kernel
theorem dL_law_1119 : decode cL_law 1119 = .ok (.iconst 0, 1) := by decide +kernel
theorem dL_law_1121 : decode cL_law 1121 = .ok (.iload 5, 2) := by decide +kernel
theorem dL_law_1123 : decode cL_law 1123 = .ok (.ifCond .ne 15, 3) := by decide +kernel
theorem dL_law_1126 : decode cL_law 1126 = .ok (.aload_n 3, 1) := by decide +kernel
theorem dL_law_1127 : decode cL_law 1127 = .ok (.iconst 0, 1) := by decide +kernel
theorem dL_law_1128 : decode cL_law 1128 = .ok (.laload, 1) := by decide +kernel
theorem dL_law_1129 : decode cL_law 1129 = .ok (.iload 6, 2) := by decide +kernel
theorem dL_law_1131 : decode cL_law 1131 = .ok (.i2l, 1) := by decide +kernel
theorem dL_law_1132 : decode cL_law 1132 = .ok (.lcmp, 1) := by decide +kernel
theorem dL_law_1133 : decode cL_law 1133 = .ok (.ifCond .eq 5, 3) := by decide +kernel
theorem dL_law_1136 : decode cL_law 1136 = .ok (.iconst 0, 1) := by decide +kernel
theorem dL_law_1138 : decode cL_law 1138 = .ok (.goto 1380, 3) := by decide +kernel
set_option maxRecDepth 20000 in
theorem ggL_law_L_ranked : GoodIn wsL_law wsL_ranked := goodIn_ca (goodIn_ca (goodIn_r _ [909, 516, 910, 911, 912, 2, 913, 16, 153, 914, 915, 916, 42, 917, 180, 918, 919, 920, 921, 922, 923, 924, 925, 58, 59, 521, 522, 523, 524, 525, 1369, 1370, 1371, 1372, 1373, 1374, 1375, 1376, 1397, 1398, 1399, 1400, 1401, 1402, 1403, 1404, 1424, 1425, 1426, 1427, 1428, 1429, 1430, 1431, 1432, 1433, 1434, 1435] (by decide +kernel) (by decide +kernel)) (goodIn_sub (fun _ h => List.mem_append_left _ (List.mem_append_left _ (List.mem_append_left _ (List.mem_append_left _ (List.mem_append_left _ (List.mem_append_right _ h)))))) (by decide +kernel))) (goodIn_sub (fun _ h => List.mem_append_right _ h) (by decide +kernel))
set_option maxRecDepth 20000 in
theorem gL_law_L_ranked : GoodIn wsL_law (va_wsS RL 184 yL_ranked wsL_ranked) := goodIn_app (goodIn_of _ (by decide +kernel)) ggL_law_L_ranked
set_option maxRecDepth 20000 in
theorem ggL_law_X9_ranked : GoodIn wsL_law wsX9_ranked := goodIn_ca (goodIn_r _ [929, 193, 132, 408, 409, 410, 5, 411, 197, 198, 199, 930, 931, 932, 933, 444, 445, 446, 447, 136, 1377, 1378, 1379, 1380, 1381, 1382, 1383, 1384, 1385, 1386, 1387, 1388, 1389, 1390, 1391, 1392, 1393, 1394, 1395, 1396] (by decide +kernel) (by decide +kernel)) (goodIn_sub (fun _ h => List.mem_append_left _ (List.mem_append_left _ (List.mem_append_left _ (List.mem_append_left _ (List.mem_append_left _ (List.mem_append_right _ h)))))) (by decide +kernel))
set_option maxRecDepth 20000 in
theorem gL_law_X9_ranked : GoodIn wsL_law (wsV RL 186 RX9 yX9_ranked wsX9_ranked) := goodIn_app (goodIn_of _ (by decide +kernel)) ggL_law_X9_ranked
set_option maxHeartbeats 4000000 in
set_option maxRecDepth 100000 in
theorem lc_1085 {p : Program} {e : Env} {s : State} {m : MethodId} {below : List Frame} {meth : Method} {c : Code} (l : Launch) (hfl : l.stackTraces = false) {b L : Nat} {xs : Nat → Int32} {Q : State → Prop} (C0 : lw_At p s m meth c b L xs) {G : zG} {ad : Nat → Nat} {σ' : zs} (C1 S1 : Nat) (hC : C1 + 28 ≤ 601024) (hS1 : S1 + 2612 ≤ 7293034) (K23 : zs → Int32 → Option (Int32 × zs)) (hK23 : ∀ (σ : zs) (v4 : Int32) (H : Heap) (locs : List Loc) (ls : Array Slot), K23 σ v4 = some (1, σ') → xB (fun q : Nat => s.heap.size ≤ q) s G ad σ H locs → lv_has ls 7 [(0, .ref b), (1, .ref (ad 0)), (2, .ref (ad 65)), (3, .ref (ad 75)), (4, .int v4)] → W p l e room_1 s m #[Value.ref b] below meth c H locs (C1 + 28) (S1 + 2612) Q (F0 m 23 ls [])) (σ : zs) (v4 : Int32) (H : Heap) (locs : List Loc) (ls : Array Slot) (hf : f_L_law_1085 L xs K23 σ v4 = some (1, σ')) (B : xB (fun q : Nat => s.heap.size ≤ q) s G ad σ H locs) (hl : lv_has ls 7 [(0, .ref b), (1, .ref (ad 0)), (2, .ref (ad 65)), (3, .ref (ad 75)), (4, .int v4)]) : W p l e room_1 s m #[Value.ref b] below meth c H locs C1 S1 Q (F0 m 1085 ls []) := by
  obtain ⟨hx, hb, hr, hml, hown, hts0, hX, hbl, hlocks, hgv⟩ := id C0
  have hts := fun w h => hts0 w (wsL_law_in w h)
  have hbA : ¬ (fun q : Nat => s.heap.size ≤ q) b := Nat.not_le.mpr hbl
  unfold f_L_law_1085 at hf
  refine lv_aload_n hx hb dL_law_1085 rfl (lv_at hl 1 rfl) ?_
  refine lv_aload_n hx hb dL_law_1086 rfl (lv_at hl 0 rfl) ?_
  refine lv_iload hx hb dL_law_1087 (lv_at hl 4 rfl) ?_
  refine lv_iconst (v := (1 : Int32)) hx hb dL_law_1089 (by decide) ?_
  refine lv_iadd hx hb dL_law_1090 ?_
  obtain ⟨hg, hf⟩ := zg_some hf
  refine va_sld hx hb hX hbl hbA (xS B) (zin_ok hg) dL_law_1091 ?_
  refine lv_aload_n hx hb dL_law_1092 rfl (lv_at hl 3 rfl) ?_
  obtain ⟨r2, σ3, hu1, hf⟩ := zb_some hf
  refine x_i B (fun nb a g hs Bz => vx_runSW (As := [.ref (ad 0), .int (xs (v4 + (1 : Int32)).toNatClampNeg), .ref (ad 75)]) (rest := []) ⟨hx, hb, hml, hown, hts⟩ (c_L_ranked_0_75 l hfl hu1 _ nb a g hs) (vx_cwSW 3 hts gL_law_L_ranked rfl rfl rfl (by decide +kernel) ⟨Nat.le_of_ble_eq_true rfl, Nat.le_of_ble_eq_true rfl⟩) (z_preS Bz) rfl rfl hl.1 rfl (lv_room (Nat.le_of_ble_eq_true rfl)) dL_law_1093 ⟨(show C1 + 1 ≤ 601024 by omega), (show S1 + 6 ≤ 7293034 by omega)⟩) (fun H locs B => ?_)
  refine lv_istore (lv' := [(5, .int r2), (0, .ref b), (1, .ref (ad 0)), (2, .ref (ad 65)), (3, .ref (ad 75)), (4, .int v4)]) hx hb dL_law_1096 hl (by decide) rfl (fun ls hl => ?_)
  refine lv_aload_n hx hb dL_law_1098 rfl (lv_at hl 3 rfl) ?_
  refine lv_aload_n hx hb dL_law_1099 rfl (lv_at hl 1 rfl) ?_
  refine lv_iload hx hb dL_law_1100 (lv_at hl 5 rfl) ?_
  refine lv_iconst (v := (1 : Int32)) hx hb dL_law_1102 (by decide) ?_
  refine lv_iadd hx hb dL_law_1103 ?_
  obtain ⟨hg, hf⟩ := zg_some hf
  refine va_sld hx hb hX hbl hbA (xS B) (zin_ok hg) dL_law_1104 ?_
  obtain ⟨r5, σ6, hu4, hf⟩ := zb_some hf
  refine x_i B (fun nb a g hs Bz => va_runV (As := [.int (xs (v4 + (1 : Int32)).toNatClampNeg)]) (rest := []) ⟨hx, hb, hml, hown, hts⟩ (c_X9_ranked l hu4 _ nb a g hs) (cwV 1 hts gL_law_X9_ranked rfl rfl rfl (by decide +kernel) ⟨Nat.le_of_ble_eq_true rfl, Nat.le_of_ble_eq_true rfl⟩) (x_preV Bz (by decide) (fun _ => rfl) rfl) rfl rfl hl.1 rfl (lv_room (Nat.le_of_ble_eq_true rfl)) dL_law_1105 ⟨(show C1 + 1 + 0 ≤ 601024 by omega), (show S1 + 6 + 0 ≤ 7293034 by omega)⟩) (fun H locs B => ?_)
  refine lv_istore (lv' := [(6, .int r5), (5, .int r2), (0, .ref b), (1, .ref (ad 0)), (2, .ref (ad 65)), (3, .ref (ad 75)), (4, .int v4)]) hx hb dL_law_1108 hl (by decide) rfl (fun ls hl => ?_)
  refine lv_aload_n hx hb dL_law_1110 rfl (lv_at hl 4 rfl) ?_
  obtain ⟨r8, σ9, hu7, hf⟩ := zb_some hf
  refine x_i B (fun nb a g hs Bz => va_runV (As := []) (rest := []) ⟨hx, hb, hml, hown, hts⟩ (c_X9_thrown l hu7 _ nb a g hs) (cwV 0 hts gL_law_X9_thrown rfl rfl rfl (by decide +kernel) ⟨Nat.le_of_ble_eq_true rfl, Nat.le_of_ble_eq_true rfl⟩) (x_preV Bz (by decide) (fun _ => rfl) rfl) rfl rfl hl.1 rfl (lv_room (Nat.le_of_ble_eq_true rfl)) dL_law_1111 ⟨(show C1 + 1 + 0 + 0 ≤ 601024 by omega), (show S1 + 6 + 0 + 0 ≤ 7293034 by omega)⟩) (fun H locs B => ?_)
  refine lv_iload hx hb dL_law_1114 (lv_at hl 1 rfl) ?_
  refine lv_icmp_eq (tgt := 1121) hx hb dL_law_1116 (by decide) (fun hc => ?_) (fun hc => ?_)
  · have hf := zif_t hc hf
    refine lv_iload hx hb dL_law_1121 (lv_at hl 1 rfl) ?_
    refine lv_if_ne (tgt := 1138) hx hb dL_law_1123 (by decide) (fun hc => ?_) (fun hc => ?_)
    · have hf := zif_f hc hf
      refine lv_goto (tgt := 2518) hx hb dL_law_1138 (by decide) ?_
      refine lv_iinc (v := (v4 + (5 : Int32))) (lv' := [(4, .int (v4 + (5 : Int32))), (6, .int r5), (5, .int r2), (0, .ref b), (1, .ref (ad 0)), (2, .ref (ad 65)), (3, .ref (ad 75))]) hx hb dL_law_2518 hl (k := 6) rfl (zc1 (by decide)) (by decide) rfl (fun ls hl => ?_)
      refine lv_goto (tgt := 23) hx hb dL_law_2521 (by decide) ?_
      refine W.widen (k := C1 + 28) (n := S1 + 2612) (show C1 + 1 + 0 + 0 ≤ C1 + 28 by omega) (show S1 + 6 + 0 + 0 ≤ S1 + 2612 by omega) ?_
      exact hK23 _ _ _ _ _ hf B (lv_sub hl [3, 4, 5, 6, 0] rfl)
    · have hf := zif_t hc hf
      refine lv_aload_n hx hb dL_law_1126 rfl (lv_at hl 5 rfl) ?_
      refine lv_iconst (v := (0 : Int32)) hx hb dL_law_1127 (by decide) ?_
      obtain ⟨hg, hf⟩ := zg_some hf
      refine x_lald hx hb B 75 (by decide) (fun _ => rfl) (zin_ok hg) dL_law_1128 ?_
      refine lv_iload hx hb dL_law_1129 (lv_at hl 0 rfl) ?_
      refine lv_i2l (v := r5.toInt64) hx hb dL_law_1131 rfl ?_
      refine W.lcmp hx hb dL_law_1132 ?_
      refine lv_if_eq (tgt := 1138) hx hb dL_law_1133 (by decide) (fun hc => ?_) (fun hc => ?_)
      · have hf := zif_t hc hf
        refine lv_goto (tgt := 2518) hx hb dL_law_1138 (by decide) ?_
        refine lv_iinc (v := (v4 + (5 : Int32))) (lv' := [(4, .int (v4 + (5 : Int32))), (6, .int r5), (5, .int r2), (0, .ref b), (1, .ref (ad 0)), (2, .ref (ad 65)), (3, .ref (ad 75))]) hx hb dL_law_2518 hl (k := 6) rfl (zc1 (by decide)) (by decide) rfl (fun ls hl => ?_)
        refine lv_goto (tgt := 23) hx hb dL_law_2521 (by decide) ?_
        refine W.widen (k := C1 + 28) (n := S1 + 2612) (show C1 + 1 + 0 + 0 ≤ C1 + 28 by omega) (show S1 + 6 + 0 + 0 ≤ S1 + 2612 by omega) ?_
        exact hK23 _ _ _ _ _ hf B (lv_sub hl [3, 4, 5, 6, 0] rfl)
      · have hf := zif_f hc hf
        refine lv_iconst (v := (0 : Int32)) hx hb dL_law_1136 (by decide) ?_
        exact absurd (show (0 : Int32) = 1 from congrArg Prod.fst (Option.some.inj hf)) (by decide)
  · have hf := zif_f hc hf
    refine lv_iconst (v := (0 : Int32)) hx hb dL_law_1119 (by decide) ?_
    exact absurd (show (0 : Int32) = 1 from congrArg Prod.fst (Option.some.inj hf)) (by decide)
theorem dL_law_1141 : decode cL_law 1141 = .ok (.aload_n 1, 1) := by decide +kernel
theorem dL_law_1142 : decode cL_law 1142 = .ok (.aload_n 0, 1) := by decide +kernel
theorem dL_law_1143 : decode cL_law 1143 = .ok (.iload 4, 2) := by decide +kernel
theorem dL_law_1145 : decode cL_law 1145 = .ok (.iconst 1, 1) := by decide +kernel
theorem dL_law_1146 : decode cL_law 1146 = .ok (.iadd, 1) := by decide +kernel
theorem dL_law_1147 : decode cL_law 1147 = .ok (.iaload, 1) := by decide +kernel
theorem dL_law_1148 : decode cL_law 1148 = .ok (.aload_n 0, 1) := by decide +kernel
theorem dL_law_1149 : decode cL_law 1149 = .ok (.iload 4, 2) := by decide +kernel
theorem dL_law_1151 : decode cL_law 1151 = .ok (.iconst 2, 1) := by decide +kernel
theorem dL_law_1152 : decode cL_law 1152 = .ok (.iadd, 1) := by decide +kernel
theorem dL_law_1153 : decode cL_law 1153 = .ok (.iaload, 1) := by decide +kernel
theorem dL_law_1154 : decode cL_law 1154 = .ok (.aload_n 0, 1) := by decide +kernel
theorem dL_law_1155 : decode cL_law 1155 = .ok (.iload 4, 2) := by decide +kernel
theorem dL_law_1157 : decode cL_law 1157 = .ok (.iconst 3, 1) := by decide +kernel
theorem dL_law_1158 : decode cL_law 1158 = .ok (.iadd, 1) := by decide +kernel
theorem dL_law_1159 : decode cL_law 1159 = .ok (.iaload, 1) := by decide +kernel
theorem dL_law_1160 : decode cL_law 1160 = .ok (.aload_n 0, 1) := by decide +kernel
theorem dL_law_1161 : decode cL_law 1161 = .ok (.iload 4, 2) := by decide +kernel
theorem dL_law_1163 : decode cL_law 1163 = .ok (.iconst 4, 1) := by decide +kernel
theorem dL_law_1164 : decode cL_law 1164 = .ok (.iadd, 1) := by decide +kernel
theorem dL_law_1165 : decode cL_law 1165 = .ok (.iaload, 1) := by decide +kernel
theorem dL_law_1166 : decode cL_law 1166 = .ok (.aload_n 3, 1) := by decide +kernel
theorem dL_law_1167 : decode cL_law 1167 = .ok (.invokestatic 187, 3) := by decide +kernel
theorem dL_law_1170 : decode cL_law 1170 = .ok (.istore 5, 2) := by decide +kernel
theorem dL_law_1172 : decode cL_law 1172 = .ok (.aload_n 2, 1) := by decide +kernel
theorem dL_law_1173 : decode cL_law 1173 = .ok (.aload_n 0, 1) := by decide +kernel
theorem dL_law_1174 : decode cL_law 1174 = .ok (.iload 4, 2) := by decide +kernel
theorem dL_law_1176 : decode cL_law 1176 = .ok (.iconst 1, 1) := by decide +kernel
theorem dL_law_1177 : decode cL_law 1177 = .ok (.iadd, 1) := by decide +kernel
theorem dL_law_1178 : decode cL_law 1178 = .ok (.iaload, 1) := by decide +kernel
theorem dL_law_1179 : decode cL_law 1179 = .ok (.aload_n 0, 1) := by decide +kernel
theorem dL_law_1180 : decode cL_law 1180 = .ok (.iload 4, 2) := by decide +kernel
theorem dL_law_1182 : decode cL_law 1182 = .ok (.iconst 2, 1) := by decide +kernel
theorem dL_law_1183 : decode cL_law 1183 = .ok (.iadd, 1) := by decide +kernel
theorem dL_law_1184 : decode cL_law 1184 = .ok (.iaload, 1) := by decide +kernel
theorem dL_law_1185 : decode cL_law 1185 = .ok (.aload_n 0, 1) := by decide +kernel
theorem dL_law_1186 : decode cL_law 1186 = .ok (.iload 4, 2) := by decide +kernel
theorem dL_law_1188 : decode cL_law 1188 = .ok (.iconst 3, 1) := by decide +kernel
theorem dL_law_1189 : decode cL_law 1189 = .ok (.iadd, 1) := by decide +kernel
theorem dL_law_1190 : decode cL_law 1190 = .ok (.iaload, 1) := by decide +kernel
theorem dL_law_1191 : decode cL_law 1191 = .ok (.aload_n 0, 1) := by decide +kernel
theorem dL_law_1192 : decode cL_law 1192 = .ok (.iload 4, 2) := by decide +kernel
theorem dL_law_1194 : decode cL_law 1194 = .ok (.iconst 4, 1) := by decide +kernel
theorem dL_law_1195 : decode cL_law 1195 = .ok (.iadd, 1) := by decide +kernel
theorem dL_law_1196 : decode cL_law 1196 = .ok (.iaload, 1) := by decide +kernel
theorem dL_law_1197 : decode cL_law 1197 = .ok (.invokevirtual 190, 3) := by decide +kernel
theorem dL_law_1200 : decode cL_law 1200 = .ok (.istore 6, 2) := by decide +kernel
theorem dL_law_1202 : decode cL_law 1202 = .ok (.aload_n 2, 1) := by decide +kernel
theorem dL_law_1203 : decode cL_law 1203 = .ok (.invokevirtual 139, 3) := by decide +kernel
theorem dL_law_1206 : decode cL_law 1206 = .ok (.iload 5, 2) := by decide +kernel
theorem dL_law_1208 : decode cL_law 1208 = .ok (.if_icmp .eq 5, 3) := by decide +kernel
theorem dL_law_1211 : decode cL_law 1211 = .ok (.iconst 0, 1) := by decide +kernel
theorem dL_law_1213 : decode cL_law 1213 = .ok (.iload 5, 2) := by decide +kernel
theorem dL_law_1215 : decode cL_law 1215 = .ok (.ifCond .ne 15, 3) := by decide +kernel
theorem dL_law_1218 : decode cL_law 1218 = .ok (.aload_n 3, 1) := by decide +kernel
theorem dL_law_1219 : decode cL_law 1219 = .ok (.iconst 0, 1) := by decide +kernel
theorem dL_law_1220 : decode cL_law 1220 = .ok (.laload, 1) := by decide +kernel
theorem dL_law_1221 : decode cL_law 1221 = .ok (.iload 6, 2) := by decide +kernel
theorem dL_law_1223 : decode cL_law 1223 = .ok (.i2l, 1) := by decide +kernel
theorem dL_law_1224 : decode cL_law 1224 = .ok (.lcmp, 1) := by decide +kernel
theorem dL_law_1225 : decode cL_law 1225 = .ok (.ifCond .eq 5, 3) := by decide +kernel
theorem dL_law_1228 : decode cL_law 1228 = .ok (.iconst 0, 1) := by decide +kernel
theorem dL_law_1230 : decode cL_law 1230 = .ok (.goto 1288, 3) := by decide +kernel
set_option maxRecDepth 20000 in
theorem ggL_law_L_request : GoodIn wsL_law wsL_request := goodIn_ca (goodIn_ca (goodIn_ca (goodIn_ca (goodIn_r _ [936, 146, 147, 239, 937, 938, 939, 2, 940, 16, 941, 153, 576, 155, 156, 157, 158, 159, 160, 161, 162, 250, 251, 252, 253, 154, 166, 167, 168, 169, 170, 463, 464, 465, 466, 32, 467, 245, 468, 254, 255, 256, 257, 258, 22, 259, 260, 261, 262, 263, 264, 21, 265, 266, 267, 268, 269, 270, 90, 91, 469, 470, 471, 472, 473, 474, 475, 476, 477, 478, 479, 480, 481, 482, 942, 943, 944, 50, 945, 86, 946, 399, 400, 401, 947, 948, 314, 311, 315, 949, 950, 389, 390, 391, 392, 393, 951, 952, 953, 42, 954, 59, 62, 60, 955, 956, 957, 15, 958, 52, 53, 1369, 1370, 1371, 1372, 1373, 1374, 1375, 1376, 1397, 1398, 1399, 1400, 1401, 1402, 1403, 1404, 1424, 1425, 1426, 1427, 1428, 1429, 1430, 1431, 1432, 1433, 1434, 1435, 1405, 1406, 1407, 1443, 1444, 1445, 1446] (by decide +kernel) (by decide +kernel)) (goodIn_sub (fun _ h => List.mem_append_left _ (List.mem_append_left _ (List.mem_append_left _ (List.mem_append_left _ (List.mem_append_left _ (List.mem_append_right _ h)))))) (by decide +kernel))) (goodIn_sub (fun _ h => List.mem_append_left _ (List.mem_append_left _ (List.mem_append_left _ (List.mem_append_left _ (List.mem_append_right _ h))))) (by decide +kernel))) (goodIn_sub (fun _ h => List.mem_append_left _ (List.mem_append_left _ (List.mem_append_left _ (List.mem_append_right _ h)))) (by decide +kernel))) (goodIn_sub (fun _ h => List.mem_append_left _ (List.mem_append_right _ h)) (by decide +kernel))
set_option maxRecDepth 20000 in
theorem gL_law_L_request : GoodIn wsL_law (va_wsS RL 187 yL_request wsL_request) := goodIn_app (goodIn_of _ (by decide +kernel)) ggL_law_L_request
set_option maxRecDepth 20000 in
theorem ggL_law_X9_request : GoodIn wsL_law wsX9_request := goodIn_ca (goodIn_r _ [962, 193, 132, 194, 195, 5, 196, 197, 198, 199, 408, 409, 410, 411, 494, 495, 496, 497, 136, 412, 413, 414, 415, 416, 417, 418, 419, 420, 421, 422, 423, 137, 138, 444, 445, 446, 447, 498, 499, 500, 501, 502, 503, 504, 505, 506, 507, 508, 509, 963, 964, 965, 966, 856, 314, 311, 315, 1377, 1378, 1379, 1380, 1381, 1382, 1383, 1384, 1385, 1386, 1387, 1388, 1389, 1390, 1391, 1392, 1393, 1394, 1395, 1396] (by decide +kernel) (by decide +kernel)) (goodIn_sub (fun _ h => List.mem_append_left _ (List.mem_append_left _ (List.mem_append_left _ (List.mem_append_left _ (List.mem_append_left _ (List.mem_append_right _ h)))))) (by decide +kernel))
set_option maxRecDepth 20000 in
theorem gL_law_X9_request : GoodIn wsL_law (wsV RL 190 RX9 yX9_request wsX9_request) := goodIn_app (goodIn_of _ (by decide +kernel)) ggL_law_X9_request
set_option maxHeartbeats 4000000 in
set_option maxRecDepth 100000 in
theorem lc_1141 {p : Program} {e : Env} {s : State} {m : MethodId} {below : List Frame} {meth : Method} {c : Code} (l : Launch) (hfl : l.stackTraces = false) {b L : Nat} {xs : Nat → Int32} {Q : State → Prop} (C0 : lw_At p s m meth c b L xs) {G : zG} {ad : Nat → Nat} {σ' : zs} (C1 S1 : Nat) (hC : C1 + 28 ≤ 601024) (hS1 : S1 + 2612 ≤ 7293034) (K23 : zs → Int32 → Option (Int32 × zs)) (hK23 : ∀ (σ : zs) (v4 : Int32) (H : Heap) (locs : List Loc) (ls : Array Slot), K23 σ v4 = some (1, σ') → xB (fun q : Nat => s.heap.size ≤ q) s G ad σ H locs → lv_has ls 7 [(0, .ref b), (1, .ref (ad 0)), (2, .ref (ad 65)), (3, .ref (ad 75)), (4, .int v4)] → W p l e room_1 s m #[Value.ref b] below meth c H locs (C1 + 28) (S1 + 2612) Q (F0 m 23 ls [])) (σ : zs) (v4 : Int32) (H : Heap) (locs : List Loc) (ls : Array Slot) (hf : f_L_law_1141 L xs K23 σ v4 = some (1, σ')) (B : xB (fun q : Nat => s.heap.size ≤ q) s G ad σ H locs) (hl : lv_has ls 7 [(0, .ref b), (1, .ref (ad 0)), (2, .ref (ad 65)), (3, .ref (ad 75)), (4, .int v4)]) : W p l e room_1 s m #[Value.ref b] below meth c H locs C1 S1 Q (F0 m 1141 ls []) := by
  obtain ⟨hx, hb, hr, hml, hown, hts0, hX, hbl, hlocks, hgv⟩ := id C0
  have hts := fun w h => hts0 w (wsL_law_in w h)
  have hbA : ¬ (fun q : Nat => s.heap.size ≤ q) b := Nat.not_le.mpr hbl
  unfold f_L_law_1141 at hf
  refine lv_aload_n hx hb dL_law_1141 rfl (lv_at hl 1 rfl) ?_
  refine lv_aload_n hx hb dL_law_1142 rfl (lv_at hl 0 rfl) ?_
  refine lv_iload hx hb dL_law_1143 (lv_at hl 4 rfl) ?_
  refine lv_iconst (v := (1 : Int32)) hx hb dL_law_1145 (by decide) ?_
  refine lv_iadd hx hb dL_law_1146 ?_
  obtain ⟨hg, hf⟩ := zg_some hf
  refine va_sld hx hb hX hbl hbA (xS B) (zin_ok hg) dL_law_1147 ?_
  refine lv_aload_n hx hb dL_law_1148 rfl (lv_at hl 0 rfl) ?_
  refine lv_iload hx hb dL_law_1149 (lv_at hl 4 rfl) ?_
  refine lv_iconst (v := (2 : Int32)) hx hb dL_law_1151 (by decide) ?_
  refine lv_iadd hx hb dL_law_1152 ?_
  obtain ⟨hg, hf⟩ := zg_some hf
  refine va_sld hx hb hX hbl hbA (xS B) (zin_ok hg) dL_law_1153 ?_
  refine lv_aload_n hx hb dL_law_1154 rfl (lv_at hl 0 rfl) ?_
  refine lv_iload hx hb dL_law_1155 (lv_at hl 4 rfl) ?_
  refine lv_iconst (v := (3 : Int32)) hx hb dL_law_1157 (by decide) ?_
  refine lv_iadd hx hb dL_law_1158 ?_
  obtain ⟨hg, hf⟩ := zg_some hf
  refine va_sld hx hb hX hbl hbA (xS B) (zin_ok hg) dL_law_1159 ?_
  refine lv_aload_n hx hb dL_law_1160 rfl (lv_at hl 0 rfl) ?_
  refine lv_iload hx hb dL_law_1161 (lv_at hl 4 rfl) ?_
  refine lv_iconst (v := (4 : Int32)) hx hb dL_law_1163 (by decide) ?_
  refine lv_iadd hx hb dL_law_1164 ?_
  obtain ⟨hg, hf⟩ := zg_some hf
  refine va_sld hx hb hX hbl hbA (xS B) (zin_ok hg) dL_law_1165 ?_
  refine lv_aload_n hx hb dL_law_1166 rfl (lv_at hl 3 rfl) ?_
  obtain ⟨r2, σ3, hu1, hf⟩ := zb_some hf
  refine x_i B (fun nb a g hs Bz => vx_runSW (As := [.ref (ad 0), .int (xs (v4 + (1 : Int32)).toNatClampNeg), .int (xs (v4 + (2 : Int32)).toNatClampNeg), .int (xs (v4 + (3 : Int32)).toNatClampNeg), .int (xs (v4 + (4 : Int32)).toNatClampNeg), .ref (ad 75)]) (rest := []) ⟨hx, hb, hml, hown, hts⟩ (c_L_request_0_75 l hfl hu1 _ nb a g hs) (vx_cwSW 6 hts gL_law_L_request rfl rfl rfl (by decide +kernel) ⟨Nat.le_of_ble_eq_true rfl, Nat.le_of_ble_eq_true rfl⟩) (z_preS Bz) rfl rfl hl.1 rfl (lv_room (Nat.le_of_ble_eq_true rfl)) dL_law_1167 ⟨(show C1 + 4 ≤ 601024 by omega), (show S1 + 24 ≤ 7293034 by omega)⟩) (fun H locs B => ?_)
  refine lv_istore (lv' := [(5, .int r2), (0, .ref b), (1, .ref (ad 0)), (2, .ref (ad 65)), (3, .ref (ad 75)), (4, .int v4)]) hx hb dL_law_1170 hl (by decide) rfl (fun ls hl => ?_)
  refine lv_aload_n hx hb dL_law_1172 rfl (lv_at hl 3 rfl) ?_
  refine lv_aload_n hx hb dL_law_1173 rfl (lv_at hl 1 rfl) ?_
  refine lv_iload hx hb dL_law_1174 (lv_at hl 5 rfl) ?_
  refine lv_iconst (v := (1 : Int32)) hx hb dL_law_1176 (by decide) ?_
  refine lv_iadd hx hb dL_law_1177 ?_
  obtain ⟨hg, hf⟩ := zg_some hf
  refine va_sld hx hb hX hbl hbA (xS B) (zin_ok hg) dL_law_1178 ?_
  refine lv_aload_n hx hb dL_law_1179 rfl (lv_at hl 1 rfl) ?_
  refine lv_iload hx hb dL_law_1180 (lv_at hl 5 rfl) ?_
  refine lv_iconst (v := (2 : Int32)) hx hb dL_law_1182 (by decide) ?_
  refine lv_iadd hx hb dL_law_1183 ?_
  obtain ⟨hg, hf⟩ := zg_some hf
  refine va_sld hx hb hX hbl hbA (xS B) (zin_ok hg) dL_law_1184 ?_
  refine lv_aload_n hx hb dL_law_1185 rfl (lv_at hl 1 rfl) ?_
  refine lv_iload hx hb dL_law_1186 (lv_at hl 5 rfl) ?_
  refine lv_iconst (v := (3 : Int32)) hx hb dL_law_1188 (by decide) ?_
  refine lv_iadd hx hb dL_law_1189 ?_
  obtain ⟨hg, hf⟩ := zg_some hf
  refine va_sld hx hb hX hbl hbA (xS B) (zin_ok hg) dL_law_1190 ?_
  refine lv_aload_n hx hb dL_law_1191 rfl (lv_at hl 1 rfl) ?_
  refine lv_iload hx hb dL_law_1192 (lv_at hl 5 rfl) ?_
  refine lv_iconst (v := (4 : Int32)) hx hb dL_law_1194 (by decide) ?_
  refine lv_iadd hx hb dL_law_1195 ?_
  obtain ⟨hg, hf⟩ := zg_some hf
  refine va_sld hx hb hX hbl hbA (xS B) (zin_ok hg) dL_law_1196 ?_
  obtain ⟨r5, σ6, hu4, hf⟩ := zb_some hf
  refine x_i B (fun nb a g hs Bz => va_runV (As := [.int (xs (v4 + (1 : Int32)).toNatClampNeg), .int (xs (v4 + (2 : Int32)).toNatClampNeg), .int (xs (v4 + (3 : Int32)).toNatClampNeg), .int (xs (v4 + (4 : Int32)).toNatClampNeg)]) (rest := []) ⟨hx, hb, hml, hown, hts⟩ (c_X9_request l hu4 _ nb a g hs) (cwV 4 hts gL_law_X9_request rfl rfl rfl (by decide +kernel) ⟨Nat.le_of_ble_eq_true rfl, Nat.le_of_ble_eq_true rfl⟩) (x_preV Bz (by decide) (fun _ => rfl) rfl) rfl rfl hl.1 rfl (lv_room (Nat.le_of_ble_eq_true rfl)) dL_law_1197 ⟨(show C1 + 4 + 0 ≤ 601024 by omega), (show S1 + 24 + 0 ≤ 7293034 by omega)⟩) (fun H locs B => ?_)
  refine lv_istore (lv' := [(6, .int r5), (5, .int r2), (0, .ref b), (1, .ref (ad 0)), (2, .ref (ad 65)), (3, .ref (ad 75)), (4, .int v4)]) hx hb dL_law_1200 hl (by decide) rfl (fun ls hl => ?_)
  refine lv_aload_n hx hb dL_law_1202 rfl (lv_at hl 4 rfl) ?_
  obtain ⟨r8, σ9, hu7, hf⟩ := zb_some hf
  refine x_i B (fun nb a g hs Bz => va_runV (As := []) (rest := []) ⟨hx, hb, hml, hown, hts⟩ (c_X9_thrown l hu7 _ nb a g hs) (cwV 0 hts gL_law_X9_thrown rfl rfl rfl (by decide +kernel) ⟨Nat.le_of_ble_eq_true rfl, Nat.le_of_ble_eq_true rfl⟩) (x_preV Bz (by decide) (fun _ => rfl) rfl) rfl rfl hl.1 rfl (lv_room (Nat.le_of_ble_eq_true rfl)) dL_law_1203 ⟨(show C1 + 4 + 0 + 0 ≤ 601024 by omega), (show S1 + 24 + 0 + 0 ≤ 7293034 by omega)⟩) (fun H locs B => ?_)
  refine lv_iload hx hb dL_law_1206 (lv_at hl 1 rfl) ?_
  refine lv_icmp_eq (tgt := 1213) hx hb dL_law_1208 (by decide) (fun hc => ?_) (fun hc => ?_)
  · have hf := zif_t hc hf
    refine lv_iload hx hb dL_law_1213 (lv_at hl 1 rfl) ?_
    refine lv_if_ne (tgt := 1230) hx hb dL_law_1215 (by decide) (fun hc => ?_) (fun hc => ?_)
    · have hf := zif_f hc hf
      refine lv_goto (tgt := 2518) hx hb dL_law_1230 (by decide) ?_
      refine lv_iinc (v := (v4 + (5 : Int32))) (lv' := [(4, .int (v4 + (5 : Int32))), (6, .int r5), (5, .int r2), (0, .ref b), (1, .ref (ad 0)), (2, .ref (ad 65)), (3, .ref (ad 75))]) hx hb dL_law_2518 hl (k := 6) rfl (zc1 (by decide)) (by decide) rfl (fun ls hl => ?_)
      refine lv_goto (tgt := 23) hx hb dL_law_2521 (by decide) ?_
      refine W.widen (k := C1 + 28) (n := S1 + 2612) (show C1 + 4 + 0 + 0 ≤ C1 + 28 by omega) (show S1 + 24 + 0 + 0 ≤ S1 + 2612 by omega) ?_
      exact hK23 _ _ _ _ _ hf B (lv_sub hl [3, 4, 5, 6, 0] rfl)
    · have hf := zif_t hc hf
      refine lv_aload_n hx hb dL_law_1218 rfl (lv_at hl 5 rfl) ?_
      refine lv_iconst (v := (0 : Int32)) hx hb dL_law_1219 (by decide) ?_
      obtain ⟨hg, hf⟩ := zg_some hf
      refine x_lald hx hb B 75 (by decide) (fun _ => rfl) (zin_ok hg) dL_law_1220 ?_
      refine lv_iload hx hb dL_law_1221 (lv_at hl 0 rfl) ?_
      refine lv_i2l (v := r5.toInt64) hx hb dL_law_1223 rfl ?_
      refine W.lcmp hx hb dL_law_1224 ?_
      refine lv_if_eq (tgt := 1230) hx hb dL_law_1225 (by decide) (fun hc => ?_) (fun hc => ?_)
      · have hf := zif_t hc hf
        refine lv_goto (tgt := 2518) hx hb dL_law_1230 (by decide) ?_
        refine lv_iinc (v := (v4 + (5 : Int32))) (lv' := [(4, .int (v4 + (5 : Int32))), (6, .int r5), (5, .int r2), (0, .ref b), (1, .ref (ad 0)), (2, .ref (ad 65)), (3, .ref (ad 75))]) hx hb dL_law_2518 hl (k := 6) rfl (zc1 (by decide)) (by decide) rfl (fun ls hl => ?_)
        refine lv_goto (tgt := 23) hx hb dL_law_2521 (by decide) ?_
        refine W.widen (k := C1 + 28) (n := S1 + 2612) (show C1 + 4 + 0 + 0 ≤ C1 + 28 by omega) (show S1 + 24 + 0 + 0 ≤ S1 + 2612 by omega) ?_
        exact hK23 _ _ _ _ _ hf B (lv_sub hl [3, 4, 5, 6, 0] rfl)
      · have hf := zif_f hc hf
        refine lv_iconst (v := (0 : Int32)) hx hb dL_law_1228 (by decide) ?_
        exact absurd (show (0 : Int32) = 1 from congrArg Prod.fst (Option.some.inj hf)) (by decide)
  · have hf := zif_f hc hf
    refine lv_iconst (v := (0 : Int32)) hx hb dL_law_1211 (by decide) ?_
    exact absurd (show (0 : Int32) = 1 from congrArg Prod.fst (Option.some.inj hf)) (by decide)
