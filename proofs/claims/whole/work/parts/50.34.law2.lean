theorem dL_law_2082 : decode cL_law 2082 = .ok (.aload_n 1, 1) := by decide +kernel
theorem dL_law_2083 : decode cL_law 2083 = .ok (.aload_n 0, 1) := by decide +kernel
theorem dL_law_2084 : decode cL_law 2084 = .ok (.iload 4, 2) := by decide +kernel
theorem dL_law_2086 : decode cL_law 2086 = .ok (.iconst 1, 1) := by decide +kernel
theorem dL_law_2087 : decode cL_law 2087 = .ok (.iadd, 1) := by decide +kernel
theorem dL_law_2088 : decode cL_law 2088 = .ok (.iaload, 1) := by decide +kernel
theorem dL_law_2089 : decode cL_law 2089 = .ok (.aload_n 0, 1) := by decide +kernel
theorem dL_law_2090 : decode cL_law 2090 = .ok (.iload 4, 2) := by decide +kernel
theorem dL_law_2092 : decode cL_law 2092 = .ok (.iconst 2, 1) := by decide +kernel
theorem dL_law_2093 : decode cL_law 2093 = .ok (.iadd, 1) := by decide +kernel
theorem dL_law_2094 : decode cL_law 2094 = .ok (.iaload, 1) := by decide +kernel
theorem dL_law_2095 : decode cL_law 2095 = .ok (.aload_n 3, 1) := by decide +kernel
theorem dL_law_2096 : decode cL_law 2096 = .ok (.invokestatic 233, 3) := by decide +kernel
theorem dL_law_2099 : decode cL_law 2099 = .ok (.istore 5, 2) := by decide +kernel
theorem dL_law_2101 : decode cL_law 2101 = .ok (.aload_n 2, 1) := by decide +kernel
theorem dL_law_2102 : decode cL_law 2102 = .ok (.aload_n 0, 1) := by decide +kernel
theorem dL_law_2103 : decode cL_law 2103 = .ok (.iload 4, 2) := by decide +kernel
theorem dL_law_2105 : decode cL_law 2105 = .ok (.iconst 1, 1) := by decide +kernel
theorem dL_law_2106 : decode cL_law 2106 = .ok (.iadd, 1) := by decide +kernel
theorem dL_law_2107 : decode cL_law 2107 = .ok (.iaload, 1) := by decide +kernel
theorem dL_law_2108 : decode cL_law 2108 = .ok (.aload_n 0, 1) := by decide +kernel
theorem dL_law_2109 : decode cL_law 2109 = .ok (.iload 4, 2) := by decide +kernel
theorem dL_law_2111 : decode cL_law 2111 = .ok (.iconst 2, 1) := by decide +kernel
theorem dL_law_2112 : decode cL_law 2112 = .ok (.iadd, 1) := by decide +kernel
theorem dL_law_2113 : decode cL_law 2113 = .ok (.iaload, 1) := by decide +kernel
theorem dL_law_2114 : decode cL_law 2114 = .ok (.invokevirtual 235, 3) := by decide +kernel
theorem dL_law_2117 : decode cL_law 2117 = .ok (.istore 6, 2) := by decide +kernel
theorem dL_law_2119 : decode cL_law 2119 = .ok (.aload_n 2, 1) := by decide +kernel
theorem dL_law_2120 : decode cL_law 2120 = .ok (.invokevirtual 139, 3) := by decide +kernel
theorem dL_law_2123 : decode cL_law 2123 = .ok (.iload 5, 2) := by decide +kernel
theorem dL_law_2125 : decode cL_law 2125 = .ok (.if_icmp .eq 5, 3) := by decide +kernel
theorem dL_law_2128 : decode cL_law 2128 = .ok (.iconst 0, 1) := by decide +kernel
theorem dL_law_2130 : decode cL_law 2130 = .ok (.iload 5, 2) := by decide +kernel
theorem dL_law_2132 : decode cL_law 2132 = .ok (.ifCond .ne 15, 3) := by decide +kernel
theorem dL_law_2135 : decode cL_law 2135 = .ok (.aload_n 3, 1) := by decide +kernel
theorem dL_law_2136 : decode cL_law 2136 = .ok (.iconst 0, 1) := by decide +kernel
theorem dL_law_2137 : decode cL_law 2137 = .ok (.laload, 1) := by decide +kernel
theorem dL_law_2138 : decode cL_law 2138 = .ok (.iload 6, 2) := by decide +kernel
theorem dL_law_2140 : decode cL_law 2140 = .ok (.i2l, 1) := by decide +kernel
theorem dL_law_2141 : decode cL_law 2141 = .ok (.lcmp, 1) := by decide +kernel
theorem dL_law_2142 : decode cL_law 2142 = .ok (.ifCond .eq 5, 3) := by decide +kernel
theorem dL_law_2145 : decode cL_law 2145 = .ok (.iconst 0, 1) := by decide +kernel
theorem dL_law_2147 : decode cL_law 2147 = .ok (.goto 371, 3) := by decide +kernel
set_option maxRecDepth 20000 in
theorem ggL_law_L_rights : GoodIn wsL_law wsL_rights := goodIn_ca (goodIn_ca (goodIn_r _ [1183, 146, 1184, 1185, 1186, 2, 1187, 16, 153, 467, 155, 156, 157, 158, 159, 160, 161, 162, 250, 251, 252, 253, 154, 1188, 1189, 1190, 42, 1191, 1192, 1193, 1194, 1195, 553, 554, 555, 556, 59, 63, 60, 1196, 817, 818, 819, 71, 64, 65, 66, 67, 62, 820, 821, 822, 70, 823, 824, 825, 826, 827, 828, 829, 830, 831, 832, 833, 834, 310, 311, 312, 835, 314, 315, 836, 837, 838, 260, 261, 1197, 840, 841, 842, 1369, 1370, 1371, 1372, 1373, 1374, 1375, 1376, 1397, 1398, 1399, 1400, 1401, 1402, 1403, 1404, 1424, 1425, 1426, 1427, 1428, 1429, 1430, 1431, 1432, 1433, 1434, 1435, 1447, 1448, 1449, 1450, 1451, 1452] (by decide +kernel) (by decide +kernel)) (goodIn_sub (fun _ h => List.mem_append_left _ (List.mem_append_left _ (List.mem_append_left _ (List.mem_append_left _ (List.mem_append_left _ (List.mem_append_right _ h)))))) (by decide +kernel))) (goodIn_sub (fun _ h => List.mem_append_left _ (List.mem_append_left _ (List.mem_append_left _ (List.mem_append_left _ (List.mem_append_right _ h))))) (by decide +kernel))
set_option maxRecDepth 20000 in
theorem gL_law_L_rights : GoodIn wsL_law (va_wsS RL 233 yL_rights wsL_rights) := goodIn_app (goodIn_of _ (by decide +kernel)) ggL_law_L_rights
set_option maxRecDepth 20000 in
theorem ggL_law_X9_rights : GoodIn wsL_law wsX9_rights := goodIn_ca (goodIn_r _ [1201, 193, 194, 195, 5, 196, 197, 198, 199, 408, 409, 410, 411, 132, 1202, 1203, 1204, 1205, 861, 310, 311, 312, 856, 314, 315, 565, 566, 567, 568, 502, 503, 504, 505, 498, 499, 500, 501, 1377, 1378, 1379, 1380, 1381, 1382, 1383, 1384, 1385, 1386, 1387, 1388, 1389, 1390, 1391, 1392, 1393, 1394, 1395, 1396] (by decide +kernel) (by decide +kernel)) (goodIn_sub (fun _ h => List.mem_append_left _ (List.mem_append_left _ (List.mem_append_left _ (List.mem_append_left _ (List.mem_append_left _ (List.mem_append_right _ h)))))) (by decide +kernel))
set_option maxRecDepth 20000 in
theorem gL_law_X9_rights : GoodIn wsL_law (wsV RL 235 RX9 yX9_rights wsX9_rights) := goodIn_app (goodIn_of _ (by decide +kernel)) ggL_law_X9_rights
set_option maxHeartbeats 4000000 in
set_option maxRecDepth 100000 in
theorem lc_2082 {p : Program} {e : Env} {s : State} {m : MethodId} {below : List Frame} {meth : Method} {c : Code} (l : Launch) (hfl : l.stackTraces = false) {b L : Nat} {xs : Nat → Int32} {Q : State → Prop} (C0 : lw_At p s m meth c b L xs) {G : zG} {ad : Nat → Nat} {σ' : zs} (C1 S1 : Nat) (hC : C1 + 28 ≤ 601024) (hS1 : S1 + 2612 ≤ 7293034) (K23 : zs → Int32 → Option (Int32 × zs)) (hK23 : ∀ (σ : zs) (v4 : Int32) (H : Heap) (locs : List Loc) (ls : Array Slot), K23 σ v4 = some (1, σ') → xB (fun q : Nat => s.heap.size ≤ q) s G ad σ H locs → lv_has ls 7 [(0, .ref b), (1, .ref (ad 0)), (2, .ref (ad 65)), (3, .ref (ad 75)), (4, .int v4)] → W p l e room_1 s m #[Value.ref b] below meth c H locs (C1 + 28) (S1 + 2612) Q (F0 m 23 ls [])) (σ : zs) (v4 : Int32) (H : Heap) (locs : List Loc) (ls : Array Slot) (hf : f_L_law_2082 L xs K23 σ v4 = some (1, σ')) (B : xB (fun q : Nat => s.heap.size ≤ q) s G ad σ H locs) (hl : lv_has ls 7 [(0, .ref b), (1, .ref (ad 0)), (2, .ref (ad 65)), (3, .ref (ad 75)), (4, .int v4)]) : W p l e room_1 s m #[Value.ref b] below meth c H locs C1 S1 Q (F0 m 2082 ls []) := by
  obtain ⟨hx, hb, hr, hml, hown, hts0, hX, hbl, hlocks, hgv⟩ := id C0
  have hts := fun w h => hts0 w (wsL_law_in w h)
  have hbA : ¬ (fun q : Nat => s.heap.size ≤ q) b := Nat.not_le.mpr hbl
  unfold f_L_law_2082 at hf
  refine lv_aload_n hx hb dL_law_2082 rfl (lv_at hl 1 rfl) ?_
  refine lv_aload_n hx hb dL_law_2083 rfl (lv_at hl 0 rfl) ?_
  refine lv_iload hx hb dL_law_2084 (lv_at hl 4 rfl) ?_
  refine lv_iconst (v := (1 : Int32)) hx hb dL_law_2086 (by decide) ?_
  refine lv_iadd hx hb dL_law_2087 ?_
  obtain ⟨hg, hf⟩ := zg_some hf
  refine va_sld hx hb hX hbl hbA (xS B) (zin_ok hg) dL_law_2088 ?_
  refine lv_aload_n hx hb dL_law_2089 rfl (lv_at hl 0 rfl) ?_
  refine lv_iload hx hb dL_law_2090 (lv_at hl 4 rfl) ?_
  refine lv_iconst (v := (2 : Int32)) hx hb dL_law_2092 (by decide) ?_
  refine lv_iadd hx hb dL_law_2093 ?_
  obtain ⟨hg, hf⟩ := zg_some hf
  refine va_sld hx hb hX hbl hbA (xS B) (zin_ok hg) dL_law_2094 ?_
  refine lv_aload_n hx hb dL_law_2095 rfl (lv_at hl 3 rfl) ?_
  obtain ⟨r2, σ3, hu1, hf⟩ := zb_some hf
  refine x_i B (fun nb a g hs Bz => vx_runSW (As := [.ref (ad 0), .int (xs (v4 + (1 : Int32)).toNatClampNeg), .int (xs (v4 + (2 : Int32)).toNatClampNeg), .ref (ad 75)]) (rest := []) ⟨hx, hb, hml, hown, hts⟩ (c_L_rights_0_75 l hfl hu1 _ nb a g hs) (vx_cwSW 4 hts gL_law_L_rights rfl rfl rfl (by decide +kernel) ⟨Nat.le_of_ble_eq_true rfl, Nat.le_of_ble_eq_true rfl⟩) (z_preS Bz) rfl rfl hl.1 rfl (lv_room (Nat.le_of_ble_eq_true rfl)) dL_law_2096 ⟨(show C1 + 2 ≤ 601024 by omega), (show S1 + 12 ≤ 7293034 by omega)⟩) (fun H locs B => ?_)
  refine lv_istore (lv' := [(5, .int r2), (0, .ref b), (1, .ref (ad 0)), (2, .ref (ad 65)), (3, .ref (ad 75)), (4, .int v4)]) hx hb dL_law_2099 hl (by decide) rfl (fun ls hl => ?_)
  refine lv_aload_n hx hb dL_law_2101 rfl (lv_at hl 3 rfl) ?_
  refine lv_aload_n hx hb dL_law_2102 rfl (lv_at hl 1 rfl) ?_
  refine lv_iload hx hb dL_law_2103 (lv_at hl 5 rfl) ?_
  refine lv_iconst (v := (1 : Int32)) hx hb dL_law_2105 (by decide) ?_
  refine lv_iadd hx hb dL_law_2106 ?_
  obtain ⟨hg, hf⟩ := zg_some hf
  refine va_sld hx hb hX hbl hbA (xS B) (zin_ok hg) dL_law_2107 ?_
  refine lv_aload_n hx hb dL_law_2108 rfl (lv_at hl 1 rfl) ?_
  refine lv_iload hx hb dL_law_2109 (lv_at hl 5 rfl) ?_
  refine lv_iconst (v := (2 : Int32)) hx hb dL_law_2111 (by decide) ?_
  refine lv_iadd hx hb dL_law_2112 ?_
  obtain ⟨hg, hf⟩ := zg_some hf
  refine va_sld hx hb hX hbl hbA (xS B) (zin_ok hg) dL_law_2113 ?_
  obtain ⟨r5, σ6, hu4, hf⟩ := zb_some hf
  refine x_i B (fun nb a g hs Bz => va_runV (As := [.int (xs (v4 + (1 : Int32)).toNatClampNeg), .int (xs (v4 + (2 : Int32)).toNatClampNeg)]) (rest := []) ⟨hx, hb, hml, hown, hts⟩ (c_X9_rights l hu4 _ nb a g hs) (cwV 2 hts gL_law_X9_rights rfl rfl rfl (by decide +kernel) ⟨Nat.le_of_ble_eq_true rfl, Nat.le_of_ble_eq_true rfl⟩) (x_preV Bz (by decide) (fun _ => rfl) rfl) rfl rfl hl.1 rfl (lv_room (Nat.le_of_ble_eq_true rfl)) dL_law_2114 ⟨(show C1 + 2 + 0 ≤ 601024 by omega), (show S1 + 12 + 0 ≤ 7293034 by omega)⟩) (fun H locs B => ?_)
  refine lv_istore (lv' := [(6, .int r5), (5, .int r2), (0, .ref b), (1, .ref (ad 0)), (2, .ref (ad 65)), (3, .ref (ad 75)), (4, .int v4)]) hx hb dL_law_2117 hl (by decide) rfl (fun ls hl => ?_)
  refine lv_aload_n hx hb dL_law_2119 rfl (lv_at hl 4 rfl) ?_
  obtain ⟨r8, σ9, hu7, hf⟩ := zb_some hf
  refine x_i B (fun nb a g hs Bz => va_runV (As := []) (rest := []) ⟨hx, hb, hml, hown, hts⟩ (c_X9_thrown l hu7 _ nb a g hs) (cwV 0 hts gL_law_X9_thrown rfl rfl rfl (by decide +kernel) ⟨Nat.le_of_ble_eq_true rfl, Nat.le_of_ble_eq_true rfl⟩) (x_preV Bz (by decide) (fun _ => rfl) rfl) rfl rfl hl.1 rfl (lv_room (Nat.le_of_ble_eq_true rfl)) dL_law_2120 ⟨(show C1 + 2 + 0 + 0 ≤ 601024 by omega), (show S1 + 12 + 0 + 0 ≤ 7293034 by omega)⟩) (fun H locs B => ?_)
  refine lv_iload hx hb dL_law_2123 (lv_at hl 1 rfl) ?_
  refine lv_icmp_eq (tgt := 2130) hx hb dL_law_2125 (by decide) (fun hc => ?_) (fun hc => ?_)
  · have hf := zif_t hc hf
    refine lv_iload hx hb dL_law_2130 (lv_at hl 1 rfl) ?_
    refine lv_if_ne (tgt := 2147) hx hb dL_law_2132 (by decide) (fun hc => ?_) (fun hc => ?_)
    · have hf := zif_f hc hf
      refine lv_goto (tgt := 2518) hx hb dL_law_2147 (by decide) ?_
      refine lv_iinc (v := (v4 + (5 : Int32))) (lv' := [(4, .int (v4 + (5 : Int32))), (6, .int r5), (5, .int r2), (0, .ref b), (1, .ref (ad 0)), (2, .ref (ad 65)), (3, .ref (ad 75))]) hx hb dL_law_2518 hl (k := 6) rfl (zc1 (by decide)) (by decide) rfl (fun ls hl => ?_)
      refine lv_goto (tgt := 23) hx hb dL_law_2521 (by decide) ?_
      refine W.widen (k := C1 + 28) (n := S1 + 2612) (show C1 + 2 + 0 + 0 ≤ C1 + 28 by omega) (show S1 + 12 + 0 + 0 ≤ S1 + 2612 by omega) ?_
      exact hK23 _ _ _ _ _ hf B (lv_sub hl [3, 4, 5, 6, 0] rfl)
    · have hf := zif_t hc hf
      refine lv_aload_n hx hb dL_law_2135 rfl (lv_at hl 5 rfl) ?_
      refine lv_iconst (v := (0 : Int32)) hx hb dL_law_2136 (by decide) ?_
      obtain ⟨hg, hf⟩ := zg_some hf
      refine x_lald hx hb B 75 (by decide) (fun _ => rfl) (zin_ok hg) dL_law_2137 ?_
      refine lv_iload hx hb dL_law_2138 (lv_at hl 0 rfl) ?_
      refine lv_i2l (v := r5.toInt64) hx hb dL_law_2140 rfl ?_
      refine W.lcmp hx hb dL_law_2141 ?_
      refine lv_if_eq (tgt := 2147) hx hb dL_law_2142 (by decide) (fun hc => ?_) (fun hc => ?_)
      · have hf := zif_t hc hf
        refine lv_goto (tgt := 2518) hx hb dL_law_2147 (by decide) ?_
        refine lv_iinc (v := (v4 + (5 : Int32))) (lv' := [(4, .int (v4 + (5 : Int32))), (6, .int r5), (5, .int r2), (0, .ref b), (1, .ref (ad 0)), (2, .ref (ad 65)), (3, .ref (ad 75))]) hx hb dL_law_2518 hl (k := 6) rfl (zc1 (by decide)) (by decide) rfl (fun ls hl => ?_)
        refine lv_goto (tgt := 23) hx hb dL_law_2521 (by decide) ?_
        refine W.widen (k := C1 + 28) (n := S1 + 2612) (show C1 + 2 + 0 + 0 ≤ C1 + 28 by omega) (show S1 + 12 + 0 + 0 ≤ S1 + 2612 by omega) ?_
        exact hK23 _ _ _ _ _ hf B (lv_sub hl [3, 4, 5, 6, 0] rfl)
      · have hf := zif_f hc hf
        refine lv_iconst (v := (0 : Int32)) hx hb dL_law_2145 (by decide) ?_
        exact absurd (show (0 : Int32) = 1 from congrArg Prod.fst (Option.some.inj hf)) (by decide)
  · have hf := zif_f hc hf
    refine lv_iconst (v := (0 : Int32)) hx hb dL_law_2128 (by decide) ?_
    exact absurd (show (0 : Int32) = 1 from congrArg Prod.fst (Option.some.inj hf)) (by decide)
theorem dL_law_2150 : decode cL_law 2150 = .ok (.aload_n 1, 1) := by decide +kernel
theorem dL_law_2151 : decode cL_law 2151 = .ok (.aload_n 0, 1) := by decide +kernel
theorem dL_law_2152 : decode cL_law 2152 = .ok (.iload 4, 2) := by decide +kernel
theorem dL_law_2154 : decode cL_law 2154 = .ok (.iconst 1, 1) := by decide +kernel
theorem dL_law_2155 : decode cL_law 2155 = .ok (.iadd, 1) := by decide +kernel
theorem dL_law_2156 : decode cL_law 2156 = .ok (.iaload, 1) := by decide +kernel
theorem dL_law_2157 : decode cL_law 2157 = .ok (.aload_n 3, 1) := by decide +kernel
theorem dL_law_2158 : decode cL_law 2158 = .ok (.invokestatic 236, 3) := by decide +kernel
theorem dL_law_2161 : decode cL_law 2161 = .ok (.istore 5, 2) := by decide +kernel
theorem dL_law_2163 : decode cL_law 2163 = .ok (.aload_n 2, 1) := by decide +kernel
theorem dL_law_2164 : decode cL_law 2164 = .ok (.aload_n 0, 1) := by decide +kernel
theorem dL_law_2165 : decode cL_law 2165 = .ok (.iload 4, 2) := by decide +kernel
theorem dL_law_2167 : decode cL_law 2167 = .ok (.iconst 1, 1) := by decide +kernel
theorem dL_law_2168 : decode cL_law 2168 = .ok (.iadd, 1) := by decide +kernel
theorem dL_law_2169 : decode cL_law 2169 = .ok (.iaload, 1) := by decide +kernel
theorem dL_law_2170 : decode cL_law 2170 = .ok (.invokevirtual 238, 3) := by decide +kernel
theorem dL_law_2173 : decode cL_law 2173 = .ok (.istore 6, 2) := by decide +kernel
theorem dL_law_2175 : decode cL_law 2175 = .ok (.aload_n 2, 1) := by decide +kernel
theorem dL_law_2176 : decode cL_law 2176 = .ok (.invokevirtual 139, 3) := by decide +kernel
theorem dL_law_2179 : decode cL_law 2179 = .ok (.iload 5, 2) := by decide +kernel
theorem dL_law_2181 : decode cL_law 2181 = .ok (.if_icmp .eq 5, 3) := by decide +kernel
theorem dL_law_2184 : decode cL_law 2184 = .ok (.iconst 0, 1) := by decide +kernel
theorem dL_law_2186 : decode cL_law 2186 = .ok (.iload 5, 2) := by decide +kernel
theorem dL_law_2188 : decode cL_law 2188 = .ok (.ifCond .ne 15, 3) := by decide +kernel
theorem dL_law_2191 : decode cL_law 2191 = .ok (.aload_n 3, 1) := by decide +kernel
theorem dL_law_2192 : decode cL_law 2192 = .ok (.iconst 0, 1) := by decide +kernel
theorem dL_law_2193 : decode cL_law 2193 = .ok (.laload, 1) := by decide +kernel
theorem dL_law_2194 : decode cL_law 2194 = .ok (.iload 6, 2) := by decide +kernel
theorem dL_law_2196 : decode cL_law 2196 = .ok (.i2l, 1) := by decide +kernel
theorem dL_law_2197 : decode cL_law 2197 = .ok (.lcmp, 1) := by decide +kernel
theorem dL_law_2198 : decode cL_law 2198 = .ok (.ifCond .eq 5, 3) := by decide +kernel
theorem dL_law_2201 : decode cL_law 2201 = .ok (.iconst 0, 1) := by decide +kernel
theorem dL_law_2203 : decode cL_law 2203 = .ok (.goto 315, 3) := by decide +kernel
set_option maxRecDepth 20000 in
theorem ggL_law_L_coming : GoodIn wsL_law wsL_coming := goodIn_ca (goodIn_ca (goodIn_r _ [1208, 146, 1209, 1210, 1211, 2, 1212, 30, 16, 1213, 155, 156, 157, 158, 159, 160, 161, 162, 1214, 1215, 1216, 29, 1217, 1218, 1219, 1220, 1221, 1222, 1223, 107, 1224, 1225, 1189, 1190, 42, 1191, 1192, 1193, 1194, 1195, 553, 554, 555, 556, 59, 63, 60, 1196, 817, 818, 819, 71, 64, 65, 66, 67, 62, 820, 821, 822, 70, 823, 824, 825, 826, 827, 828, 829, 830, 831, 832, 833, 834, 310, 311, 312, 835, 314, 315, 836, 837, 838, 260, 261, 1197, 840, 841, 842, 1226, 1227, 1228, 1229, 104, 105, 1230, 1231, 1232, 1233, 885, 886, 887, 180, 61, 1234, 1235, 1236, 46, 1237, 82, 79, 80, 1238, 1239, 1240, 1241, 106, 1242, 1243, 1244, 1245, 1246, 1247, 1248, 1249, 1250, 1369, 1370, 1371, 1372, 1373, 1374, 1375, 1376, 1416, 1417, 1418, 1419, 1397, 1398, 1399, 1400, 1401, 1402, 1403, 1404, 1424, 1425, 1426, 1427, 1428, 1429, 1430, 1431, 1432, 1433, 1434, 1435, 1447, 1448, 1449, 1450, 1451, 1452, 1436, 1437, 1438, 1439, 1440, 1441, 1442] (by decide +kernel) (by decide +kernel)) (goodIn_sub (fun _ h => List.mem_append_left _ (List.mem_append_left _ (List.mem_append_left _ (List.mem_append_left _ (List.mem_append_left _ (List.mem_append_right _ h)))))) (by decide +kernel))) (goodIn_sub (fun _ h => List.mem_append_left _ (List.mem_append_left _ (List.mem_append_left _ (List.mem_append_left _ (List.mem_append_right _ h))))) (by decide +kernel))
set_option maxRecDepth 20000 in
theorem gL_law_L_coming : GoodIn wsL_law (va_wsS RL 236 yL_coming wsL_coming) := goodIn_app (goodIn_of _ (by decide +kernel)) ggL_law_L_coming
set_option maxRecDepth 20000 in
theorem ggL_law_X9_coming : GoodIn wsL_law wsX9_coming := goodIn_ca (goodIn_r _ [1254, 193, 140, 194, 195, 5, 196, 197, 198, 199, 1255, 1256, 1257, 1258, 1259, 1260, 1261, 1262, 132, 892, 893, 894, 895, 412, 413, 414, 1263, 1264, 1265, 1266, 1202, 1203, 1204, 1205, 861, 310, 311, 312, 856, 314, 315, 565, 566, 567, 568, 502, 503, 504, 505, 498, 499, 500, 501, 1377, 1378, 1379, 1380, 1381, 1382, 1383, 1384, 1385, 1386, 1387, 1388, 1389, 1390, 1391, 1392, 1393, 1394, 1395, 1396] (by decide +kernel) (by decide +kernel)) (goodIn_sub (fun _ h => List.mem_append_left _ (List.mem_append_left _ (List.mem_append_left _ (List.mem_append_left _ (List.mem_append_left _ (List.mem_append_right _ h)))))) (by decide +kernel))
set_option maxRecDepth 20000 in
theorem gL_law_X9_coming : GoodIn wsL_law (wsV RL 238 RX9 yX9_coming wsX9_coming) := goodIn_app (goodIn_of _ (by decide +kernel)) ggL_law_X9_coming
set_option maxHeartbeats 4000000 in
set_option maxRecDepth 100000 in
theorem lc_2150 {p : Program} {e : Env} {s : State} {m : MethodId} {below : List Frame} {meth : Method} {c : Code} (l : Launch) (hfl : l.stackTraces = false) {b L : Nat} {xs : Nat → Int32} {Q : State → Prop} (C0 : lw_At p s m meth c b L xs) {G : zG} {ad : Nat → Nat} {σ' : zs} (C1 S1 : Nat) (hC : C1 + 28 ≤ 601024) (hS1 : S1 + 2612 ≤ 7293034) (K23 : zs → Int32 → Option (Int32 × zs)) (hK23 : ∀ (σ : zs) (v4 : Int32) (H : Heap) (locs : List Loc) (ls : Array Slot), K23 σ v4 = some (1, σ') → xB (fun q : Nat => s.heap.size ≤ q) s G ad σ H locs → lv_has ls 7 [(0, .ref b), (1, .ref (ad 0)), (2, .ref (ad 65)), (3, .ref (ad 75)), (4, .int v4)] → W p l e room_1 s m #[Value.ref b] below meth c H locs (C1 + 28) (S1 + 2612) Q (F0 m 23 ls [])) (σ : zs) (v4 : Int32) (H : Heap) (locs : List Loc) (ls : Array Slot) (hf : f_L_law_2150 L xs K23 σ v4 = some (1, σ')) (B : xB (fun q : Nat => s.heap.size ≤ q) s G ad σ H locs) (hl : lv_has ls 7 [(0, .ref b), (1, .ref (ad 0)), (2, .ref (ad 65)), (3, .ref (ad 75)), (4, .int v4)]) : W p l e room_1 s m #[Value.ref b] below meth c H locs C1 S1 Q (F0 m 2150 ls []) := by
  obtain ⟨hx, hb, hr, hml, hown, hts0, hX, hbl, hlocks, hgv⟩ := id C0
  have hts := fun w h => hts0 w (wsL_law_in w h)
  have hbA : ¬ (fun q : Nat => s.heap.size ≤ q) b := Nat.not_le.mpr hbl
  unfold f_L_law_2150 at hf
  refine lv_aload_n hx hb dL_law_2150 rfl (lv_at hl 1 rfl) ?_
  refine lv_aload_n hx hb dL_law_2151 rfl (lv_at hl 0 rfl) ?_
  refine lv_iload hx hb dL_law_2152 (lv_at hl 4 rfl) ?_
  refine lv_iconst (v := (1 : Int32)) hx hb dL_law_2154 (by decide) ?_
  refine lv_iadd hx hb dL_law_2155 ?_
  obtain ⟨hg, hf⟩ := zg_some hf
  refine va_sld hx hb hX hbl hbA (xS B) (zin_ok hg) dL_law_2156 ?_
  refine lv_aload_n hx hb dL_law_2157 rfl (lv_at hl 3 rfl) ?_
  obtain ⟨r2, σ3, hu1, hf⟩ := zb_some hf
  refine x_i B (fun nb a g hs Bz => vx_runSW (As := [.ref (ad 0), .int (xs (v4 + (1 : Int32)).toNatClampNeg), .ref (ad 75)]) (rest := []) ⟨hx, hb, hml, hown, hts⟩ (c_L_coming_0_75 l hfl hu1 _ nb a g hs) (vx_cwSW 3 hts gL_law_L_coming rfl rfl rfl (by decide +kernel) ⟨Nat.le_of_ble_eq_true rfl, Nat.le_of_ble_eq_true rfl⟩) (z_preS Bz) rfl rfl hl.1 rfl (lv_room (Nat.le_of_ble_eq_true rfl)) dL_law_2158 ⟨(show C1 + 1 ≤ 601024 by omega), (show S1 + 6 ≤ 7293034 by omega)⟩) (fun H locs B => ?_)
  refine lv_istore (lv' := [(5, .int r2), (0, .ref b), (1, .ref (ad 0)), (2, .ref (ad 65)), (3, .ref (ad 75)), (4, .int v4)]) hx hb dL_law_2161 hl (by decide) rfl (fun ls hl => ?_)
  refine lv_aload_n hx hb dL_law_2163 rfl (lv_at hl 3 rfl) ?_
  refine lv_aload_n hx hb dL_law_2164 rfl (lv_at hl 1 rfl) ?_
  refine lv_iload hx hb dL_law_2165 (lv_at hl 5 rfl) ?_
  refine lv_iconst (v := (1 : Int32)) hx hb dL_law_2167 (by decide) ?_
  refine lv_iadd hx hb dL_law_2168 ?_
  obtain ⟨hg, hf⟩ := zg_some hf
  refine va_sld hx hb hX hbl hbA (xS B) (zin_ok hg) dL_law_2169 ?_
  obtain ⟨r5, σ6, hu4, hf⟩ := zb_some hf
  refine x_i B (fun nb a g hs Bz => va_runV (As := [.int (xs (v4 + (1 : Int32)).toNatClampNeg)]) (rest := []) ⟨hx, hb, hml, hown, hts⟩ (c_X9_coming l hu4 _ nb a g hs) (cwV 1 hts gL_law_X9_coming rfl rfl rfl (by decide +kernel) ⟨Nat.le_of_ble_eq_true rfl, Nat.le_of_ble_eq_true rfl⟩) (x_preV Bz (by decide) (fun _ => rfl) rfl) rfl rfl hl.1 rfl (lv_room (Nat.le_of_ble_eq_true rfl)) dL_law_2170 ⟨(show C1 + 1 + 0 ≤ 601024 by omega), (show S1 + 6 + 0 ≤ 7293034 by omega)⟩) (fun H locs B => ?_)
  refine lv_istore (lv' := [(6, .int r5), (5, .int r2), (0, .ref b), (1, .ref (ad 0)), (2, .ref (ad 65)), (3, .ref (ad 75)), (4, .int v4)]) hx hb dL_law_2173 hl (by decide) rfl (fun ls hl => ?_)
  refine lv_aload_n hx hb dL_law_2175 rfl (lv_at hl 4 rfl) ?_
  obtain ⟨r8, σ9, hu7, hf⟩ := zb_some hf
  refine x_i B (fun nb a g hs Bz => va_runV (As := []) (rest := []) ⟨hx, hb, hml, hown, hts⟩ (c_X9_thrown l hu7 _ nb a g hs) (cwV 0 hts gL_law_X9_thrown rfl rfl rfl (by decide +kernel) ⟨Nat.le_of_ble_eq_true rfl, Nat.le_of_ble_eq_true rfl⟩) (x_preV Bz (by decide) (fun _ => rfl) rfl) rfl rfl hl.1 rfl (lv_room (Nat.le_of_ble_eq_true rfl)) dL_law_2176 ⟨(show C1 + 1 + 0 + 0 ≤ 601024 by omega), (show S1 + 6 + 0 + 0 ≤ 7293034 by omega)⟩) (fun H locs B => ?_)
  refine lv_iload hx hb dL_law_2179 (lv_at hl 1 rfl) ?_
  refine lv_icmp_eq (tgt := 2186) hx hb dL_law_2181 (by decide) (fun hc => ?_) (fun hc => ?_)
  · have hf := zif_t hc hf
    refine lv_iload hx hb dL_law_2186 (lv_at hl 1 rfl) ?_
    refine lv_if_ne (tgt := 2203) hx hb dL_law_2188 (by decide) (fun hc => ?_) (fun hc => ?_)
    · have hf := zif_f hc hf
      refine lv_goto (tgt := 2518) hx hb dL_law_2203 (by decide) ?_
      refine lv_iinc (v := (v4 + (5 : Int32))) (lv' := [(4, .int (v4 + (5 : Int32))), (6, .int r5), (5, .int r2), (0, .ref b), (1, .ref (ad 0)), (2, .ref (ad 65)), (3, .ref (ad 75))]) hx hb dL_law_2518 hl (k := 6) rfl (zc1 (by decide)) (by decide) rfl (fun ls hl => ?_)
      refine lv_goto (tgt := 23) hx hb dL_law_2521 (by decide) ?_
      refine W.widen (k := C1 + 28) (n := S1 + 2612) (show C1 + 1 + 0 + 0 ≤ C1 + 28 by omega) (show S1 + 6 + 0 + 0 ≤ S1 + 2612 by omega) ?_
      exact hK23 _ _ _ _ _ hf B (lv_sub hl [3, 4, 5, 6, 0] rfl)
    · have hf := zif_t hc hf
      refine lv_aload_n hx hb dL_law_2191 rfl (lv_at hl 5 rfl) ?_
      refine lv_iconst (v := (0 : Int32)) hx hb dL_law_2192 (by decide) ?_
      obtain ⟨hg, hf⟩ := zg_some hf
      refine x_lald hx hb B 75 (by decide) (fun _ => rfl) (zin_ok hg) dL_law_2193 ?_
      refine lv_iload hx hb dL_law_2194 (lv_at hl 0 rfl) ?_
      refine lv_i2l (v := r5.toInt64) hx hb dL_law_2196 rfl ?_
      refine W.lcmp hx hb dL_law_2197 ?_
      refine lv_if_eq (tgt := 2203) hx hb dL_law_2198 (by decide) (fun hc => ?_) (fun hc => ?_)
      · have hf := zif_t hc hf
        refine lv_goto (tgt := 2518) hx hb dL_law_2203 (by decide) ?_
        refine lv_iinc (v := (v4 + (5 : Int32))) (lv' := [(4, .int (v4 + (5 : Int32))), (6, .int r5), (5, .int r2), (0, .ref b), (1, .ref (ad 0)), (2, .ref (ad 65)), (3, .ref (ad 75))]) hx hb dL_law_2518 hl (k := 6) rfl (zc1 (by decide)) (by decide) rfl (fun ls hl => ?_)
        refine lv_goto (tgt := 23) hx hb dL_law_2521 (by decide) ?_
        refine W.widen (k := C1 + 28) (n := S1 + 2612) (show C1 + 1 + 0 + 0 ≤ C1 + 28 by omega) (show S1 + 6 + 0 + 0 ≤ S1 + 2612 by omega) ?_
        exact hK23 _ _ _ _ _ hf B (lv_sub hl [3, 4, 5, 6, 0] rfl)
      · have hf := zif_f hc hf
        refine lv_iconst (v := (0 : Int32)) hx hb dL_law_2201 (by decide) ?_
        exact absurd (show (0 : Int32) = 1 from congrArg Prod.fst (Option.some.inj hf)) (by decide)
  · have hf := zif_f hc hf
    refine lv_iconst (v := (0 : Int32)) hx hb dL_law_2184 (by decide) ?_
    exact absurd (show (0 : Int32) = 1 from congrArg Prod.fst (Option.some.inj hf)) (by decide)
theorem dL_law_2206 : decode cL_law 2206 = .ok (.aload_n 1, 1) := by decide +kernel
theorem dL_law_2207 : decode cL_law 2207 = .ok (.aload_n 0, 1) := by decide +kernel
theorem dL_law_2208 : decode cL_law 2208 = .ok (.iload 4, 2) := by decide +kernel
theorem dL_law_2210 : decode cL_law 2210 = .ok (.iconst 1, 1) := by decide +kernel
theorem dL_law_2211 : decode cL_law 2211 = .ok (.iadd, 1) := by decide +kernel
theorem dL_law_2212 : decode cL_law 2212 = .ok (.iaload, 1) := by decide +kernel
theorem dL_law_2213 : decode cL_law 2213 = .ok (.aload_n 0, 1) := by decide +kernel
theorem dL_law_2214 : decode cL_law 2214 = .ok (.iload 4, 2) := by decide +kernel
theorem dL_law_2216 : decode cL_law 2216 = .ok (.iconst 2, 1) := by decide +kernel
theorem dL_law_2217 : decode cL_law 2217 = .ok (.iadd, 1) := by decide +kernel
theorem dL_law_2218 : decode cL_law 2218 = .ok (.iaload, 1) := by decide +kernel
theorem dL_law_2219 : decode cL_law 2219 = .ok (.aload_n 3, 1) := by decide +kernel
theorem dL_law_2220 : decode cL_law 2220 = .ok (.invokestatic 239, 3) := by decide +kernel
theorem dL_law_2223 : decode cL_law 2223 = .ok (.istore 5, 2) := by decide +kernel
theorem dL_law_2225 : decode cL_law 2225 = .ok (.aload_n 2, 1) := by decide +kernel
theorem dL_law_2226 : decode cL_law 2226 = .ok (.aload_n 0, 1) := by decide +kernel
theorem dL_law_2227 : decode cL_law 2227 = .ok (.iload 4, 2) := by decide +kernel
theorem dL_law_2229 : decode cL_law 2229 = .ok (.iconst 1, 1) := by decide +kernel
theorem dL_law_2230 : decode cL_law 2230 = .ok (.iadd, 1) := by decide +kernel
theorem dL_law_2231 : decode cL_law 2231 = .ok (.iaload, 1) := by decide +kernel
theorem dL_law_2232 : decode cL_law 2232 = .ok (.aload_n 0, 1) := by decide +kernel
theorem dL_law_2233 : decode cL_law 2233 = .ok (.iload 4, 2) := by decide +kernel
theorem dL_law_2235 : decode cL_law 2235 = .ok (.iconst 2, 1) := by decide +kernel
theorem dL_law_2236 : decode cL_law 2236 = .ok (.iadd, 1) := by decide +kernel
theorem dL_law_2237 : decode cL_law 2237 = .ok (.iaload, 1) := by decide +kernel
theorem dL_law_2238 : decode cL_law 2238 = .ok (.invokevirtual 241, 3) := by decide +kernel
theorem dL_law_2241 : decode cL_law 2241 = .ok (.istore 6, 2) := by decide +kernel
theorem dL_law_2243 : decode cL_law 2243 = .ok (.aload_n 2, 1) := by decide +kernel
theorem dL_law_2244 : decode cL_law 2244 = .ok (.invokevirtual 139, 3) := by decide +kernel
theorem dL_law_2247 : decode cL_law 2247 = .ok (.iload 5, 2) := by decide +kernel
theorem dL_law_2249 : decode cL_law 2249 = .ok (.if_icmp .eq 5, 3) := by decide +kernel
theorem dL_law_2252 : decode cL_law 2252 = .ok (.iconst 0, 1) := by decide +kernel
theorem dL_law_2254 : decode cL_law 2254 = .ok (.iload 5, 2) := by decide +kernel
theorem dL_law_2256 : decode cL_law 2256 = .ok (.ifCond .ne 15, 3) := by decide +kernel
theorem dL_law_2259 : decode cL_law 2259 = .ok (.aload_n 3, 1) := by decide +kernel
theorem dL_law_2260 : decode cL_law 2260 = .ok (.iconst 0, 1) := by decide +kernel
theorem dL_law_2261 : decode cL_law 2261 = .ok (.laload, 1) := by decide +kernel
theorem dL_law_2262 : decode cL_law 2262 = .ok (.iload 6, 2) := by decide +kernel
theorem dL_law_2264 : decode cL_law 2264 = .ok (.i2l, 1) := by decide +kernel
theorem dL_law_2265 : decode cL_law 2265 = .ok (.lcmp, 1) := by decide +kernel
theorem dL_law_2266 : decode cL_law 2266 = .ok (.ifCond .eq 5, 3) := by decide +kernel
theorem dL_law_2269 : decode cL_law 2269 = .ok (.iconst 0, 1) := by decide +kernel
theorem dL_law_2271 : decode cL_law 2271 = .ok (.goto 247, 3) := by decide +kernel
set_option maxRecDepth 20000 in
theorem ggL_law_L_round : GoodIn wsL_law wsL_round := goodIn_ca (goodIn_ca (goodIn_ca (goodIn_r _ [1269, 146, 516, 1270, 1271, 1272, 2, 1273, 30, 16, 1213, 1274, 155, 156, 157, 158, 159, 160, 161, 162, 250, 251, 252, 253, 153, 154, 1214, 1215, 1216, 29, 1217, 1218, 1219, 1220, 1221, 1222, 1223, 107, 1224, 1225, 1189, 1190, 42, 1191, 1192, 1193, 1194, 1195, 553, 554, 555, 556, 59, 63, 60, 1196, 817, 818, 819, 71, 64, 65, 66, 67, 62, 820, 821, 822, 70, 823, 824, 825, 826, 827, 828, 829, 830, 831, 832, 833, 834, 310, 311, 312, 835, 314, 315, 836, 837, 838, 260, 261, 1197, 840, 841, 842, 1226, 1227, 1228, 1229, 104, 105, 1230, 1231, 1232, 1233, 885, 886, 887, 180, 61, 1234, 1235, 1236, 46, 1237, 82, 79, 80, 1238, 1239, 1240, 1241, 106, 1242, 1243, 1244, 1245, 1246, 1247, 1248, 1249, 1250, 259, 521, 522, 523, 524, 525, 1369, 1370, 1371, 1372, 1373, 1374, 1375, 1376, 1416, 1417, 1418, 1419, 1397, 1398, 1399, 1400, 1401, 1402, 1403, 1404, 1424, 1425, 1426, 1427, 1428, 1429, 1430, 1431, 1432, 1433, 1434, 1435, 1447, 1448, 1449, 1450, 1451, 1452, 1436, 1437, 1438, 1439, 1440, 1441, 1442] (by decide +kernel) (by decide +kernel)) (goodIn_sub (fun _ h => List.mem_append_left _ (List.mem_append_left _ (List.mem_append_left _ (List.mem_append_left _ (List.mem_append_left _ (List.mem_append_right _ h)))))) (by decide +kernel))) (goodIn_sub (fun _ h => List.mem_append_left _ (List.mem_append_left _ (List.mem_append_left _ (List.mem_append_left _ (List.mem_append_right _ h))))) (by decide +kernel))) (goodIn_sub (fun _ h => List.mem_append_right _ h) (by decide +kernel))
set_option maxRecDepth 20000 in
theorem gL_law_L_round : GoodIn wsL_law (va_wsS RL 239 yL_round wsL_round) := goodIn_app (goodIn_of _ (by decide +kernel)) ggL_law_L_round
set_option maxRecDepth 20000 in
theorem ggL_law_X9_round : GoodIn wsL_law wsX9_round := goodIn_ca (goodIn_r _ [1278, 193, 140, 194, 195, 5, 196, 197, 198, 199, 408, 409, 410, 411, 132, 1259, 1260, 1261, 1262, 892, 893, 894, 895, 412, 413, 414, 1279, 1280, 1281, 1282, 141, 1202, 1203, 1204, 1205, 861, 310, 311, 312, 856, 314, 315, 565, 566, 567, 568, 502, 503, 504, 505, 498, 499, 500, 501, 1377, 1378, 1379, 1380, 1381, 1382, 1383, 1384, 1385, 1386, 1387, 1388, 1389, 1390, 1391, 1392, 1393, 1394, 1395, 1396] (by decide +kernel) (by decide +kernel)) (goodIn_sub (fun _ h => List.mem_append_left _ (List.mem_append_left _ (List.mem_append_left _ (List.mem_append_left _ (List.mem_append_left _ (List.mem_append_right _ h)))))) (by decide +kernel))
set_option maxRecDepth 20000 in
theorem gL_law_X9_round : GoodIn wsL_law (wsV RL 241 RX9 yX9_round wsX9_round) := goodIn_app (goodIn_of _ (by decide +kernel)) ggL_law_X9_round
set_option maxHeartbeats 4000000 in
set_option maxRecDepth 100000 in
theorem lc_2206 {p : Program} {e : Env} {s : State} {m : MethodId} {below : List Frame} {meth : Method} {c : Code} (l : Launch) (hfl : l.stackTraces = false) {b L : Nat} {xs : Nat → Int32} {Q : State → Prop} (C0 : lw_At p s m meth c b L xs) {G : zG} {ad : Nat → Nat} {σ' : zs} (C1 S1 : Nat) (hC : C1 + 28 ≤ 601024) (hS1 : S1 + 2612 ≤ 7293034) (K23 : zs → Int32 → Option (Int32 × zs)) (hK23 : ∀ (σ : zs) (v4 : Int32) (H : Heap) (locs : List Loc) (ls : Array Slot), K23 σ v4 = some (1, σ') → xB (fun q : Nat => s.heap.size ≤ q) s G ad σ H locs → lv_has ls 7 [(0, .ref b), (1, .ref (ad 0)), (2, .ref (ad 65)), (3, .ref (ad 75)), (4, .int v4)] → W p l e room_1 s m #[Value.ref b] below meth c H locs (C1 + 28) (S1 + 2612) Q (F0 m 23 ls [])) (σ : zs) (v4 : Int32) (H : Heap) (locs : List Loc) (ls : Array Slot) (hf : f_L_law_2206 L xs K23 σ v4 = some (1, σ')) (B : xB (fun q : Nat => s.heap.size ≤ q) s G ad σ H locs) (hl : lv_has ls 7 [(0, .ref b), (1, .ref (ad 0)), (2, .ref (ad 65)), (3, .ref (ad 75)), (4, .int v4)]) : W p l e room_1 s m #[Value.ref b] below meth c H locs C1 S1 Q (F0 m 2206 ls []) := by
  obtain ⟨hx, hb, hr, hml, hown, hts0, hX, hbl, hlocks, hgv⟩ := id C0
  have hts := fun w h => hts0 w (wsL_law_in w h)
  have hbA : ¬ (fun q : Nat => s.heap.size ≤ q) b := Nat.not_le.mpr hbl
  unfold f_L_law_2206 at hf
  refine lv_aload_n hx hb dL_law_2206 rfl (lv_at hl 1 rfl) ?_
  refine lv_aload_n hx hb dL_law_2207 rfl (lv_at hl 0 rfl) ?_
  refine lv_iload hx hb dL_law_2208 (lv_at hl 4 rfl) ?_
  refine lv_iconst (v := (1 : Int32)) hx hb dL_law_2210 (by decide) ?_
  refine lv_iadd hx hb dL_law_2211 ?_
  obtain ⟨hg, hf⟩ := zg_some hf
  refine va_sld hx hb hX hbl hbA (xS B) (zin_ok hg) dL_law_2212 ?_
  refine lv_aload_n hx hb dL_law_2213 rfl (lv_at hl 0 rfl) ?_
  refine lv_iload hx hb dL_law_2214 (lv_at hl 4 rfl) ?_
  refine lv_iconst (v := (2 : Int32)) hx hb dL_law_2216 (by decide) ?_
  refine lv_iadd hx hb dL_law_2217 ?_
  obtain ⟨hg, hf⟩ := zg_some hf
  refine va_sld hx hb hX hbl hbA (xS B) (zin_ok hg) dL_law_2218 ?_
  refine lv_aload_n hx hb dL_law_2219 rfl (lv_at hl 3 rfl) ?_
  obtain ⟨r2, σ3, hu1, hf⟩ := zb_some hf
  refine x_i B (fun nb a g hs Bz => vx_runSW (As := [.ref (ad 0), .int (xs (v4 + (1 : Int32)).toNatClampNeg), .int (xs (v4 + (2 : Int32)).toNatClampNeg), .ref (ad 75)]) (rest := []) ⟨hx, hb, hml, hown, hts⟩ (c_L_round_0_75 l hfl hu1 _ nb a g hs) (vx_cwSW 4 hts gL_law_L_round rfl rfl rfl (by decide +kernel) ⟨Nat.le_of_ble_eq_true rfl, Nat.le_of_ble_eq_true rfl⟩) (z_preS Bz) rfl rfl hl.1 rfl (lv_room (Nat.le_of_ble_eq_true rfl)) dL_law_2220 ⟨(show C1 + 3 ≤ 601024 by omega), (show S1 + 18 ≤ 7293034 by omega)⟩) (fun H locs B => ?_)
  refine lv_istore (lv' := [(5, .int r2), (0, .ref b), (1, .ref (ad 0)), (2, .ref (ad 65)), (3, .ref (ad 75)), (4, .int v4)]) hx hb dL_law_2223 hl (by decide) rfl (fun ls hl => ?_)
  refine lv_aload_n hx hb dL_law_2225 rfl (lv_at hl 3 rfl) ?_
  refine lv_aload_n hx hb dL_law_2226 rfl (lv_at hl 1 rfl) ?_
  refine lv_iload hx hb dL_law_2227 (lv_at hl 5 rfl) ?_
  refine lv_iconst (v := (1 : Int32)) hx hb dL_law_2229 (by decide) ?_
  refine lv_iadd hx hb dL_law_2230 ?_
  obtain ⟨hg, hf⟩ := zg_some hf
  refine va_sld hx hb hX hbl hbA (xS B) (zin_ok hg) dL_law_2231 ?_
  refine lv_aload_n hx hb dL_law_2232 rfl (lv_at hl 1 rfl) ?_
  refine lv_iload hx hb dL_law_2233 (lv_at hl 5 rfl) ?_
  refine lv_iconst (v := (2 : Int32)) hx hb dL_law_2235 (by decide) ?_
  refine lv_iadd hx hb dL_law_2236 ?_
  obtain ⟨hg, hf⟩ := zg_some hf
  refine va_sld hx hb hX hbl hbA (xS B) (zin_ok hg) dL_law_2237 ?_
  obtain ⟨r5, σ6, hu4, hf⟩ := zb_some hf
  refine x_i B (fun nb a g hs Bz => va_runV (As := [.int (xs (v4 + (1 : Int32)).toNatClampNeg), .int (xs (v4 + (2 : Int32)).toNatClampNeg)]) (rest := []) ⟨hx, hb, hml, hown, hts⟩ (c_X9_round l hu4 _ nb a g hs) (cwV 2 hts gL_law_X9_round rfl rfl rfl (by decide +kernel) ⟨Nat.le_of_ble_eq_true rfl, Nat.le_of_ble_eq_true rfl⟩) (x_preV Bz (by decide) (fun _ => rfl) rfl) rfl rfl hl.1 rfl (lv_room (Nat.le_of_ble_eq_true rfl)) dL_law_2238 ⟨(show C1 + 3 + 0 ≤ 601024 by omega), (show S1 + 18 + 0 ≤ 7293034 by omega)⟩) (fun H locs B => ?_)
  refine lv_istore (lv' := [(6, .int r5), (5, .int r2), (0, .ref b), (1, .ref (ad 0)), (2, .ref (ad 65)), (3, .ref (ad 75)), (4, .int v4)]) hx hb dL_law_2241 hl (by decide) rfl (fun ls hl => ?_)
  refine lv_aload_n hx hb dL_law_2243 rfl (lv_at hl 4 rfl) ?_
  obtain ⟨r8, σ9, hu7, hf⟩ := zb_some hf
  refine x_i B (fun nb a g hs Bz => va_runV (As := []) (rest := []) ⟨hx, hb, hml, hown, hts⟩ (c_X9_thrown l hu7 _ nb a g hs) (cwV 0 hts gL_law_X9_thrown rfl rfl rfl (by decide +kernel) ⟨Nat.le_of_ble_eq_true rfl, Nat.le_of_ble_eq_true rfl⟩) (x_preV Bz (by decide) (fun _ => rfl) rfl) rfl rfl hl.1 rfl (lv_room (Nat.le_of_ble_eq_true rfl)) dL_law_2244 ⟨(show C1 + 3 + 0 + 0 ≤ 601024 by omega), (show S1 + 18 + 0 + 0 ≤ 7293034 by omega)⟩) (fun H locs B => ?_)
  refine lv_iload hx hb dL_law_2247 (lv_at hl 1 rfl) ?_
  refine lv_icmp_eq (tgt := 2254) hx hb dL_law_2249 (by decide) (fun hc => ?_) (fun hc => ?_)
  · have hf := zif_t hc hf
    refine lv_iload hx hb dL_law_2254 (lv_at hl 1 rfl) ?_
    refine lv_if_ne (tgt := 2271) hx hb dL_law_2256 (by decide) (fun hc => ?_) (fun hc => ?_)
    · have hf := zif_f hc hf
      refine lv_goto (tgt := 2518) hx hb dL_law_2271 (by decide) ?_
      refine lv_iinc (v := (v4 + (5 : Int32))) (lv' := [(4, .int (v4 + (5 : Int32))), (6, .int r5), (5, .int r2), (0, .ref b), (1, .ref (ad 0)), (2, .ref (ad 65)), (3, .ref (ad 75))]) hx hb dL_law_2518 hl (k := 6) rfl (zc1 (by decide)) (by decide) rfl (fun ls hl => ?_)
      refine lv_goto (tgt := 23) hx hb dL_law_2521 (by decide) ?_
      refine W.widen (k := C1 + 28) (n := S1 + 2612) (show C1 + 3 + 0 + 0 ≤ C1 + 28 by omega) (show S1 + 18 + 0 + 0 ≤ S1 + 2612 by omega) ?_
      exact hK23 _ _ _ _ _ hf B (lv_sub hl [3, 4, 5, 6, 0] rfl)
    · have hf := zif_t hc hf
      refine lv_aload_n hx hb dL_law_2259 rfl (lv_at hl 5 rfl) ?_
      refine lv_iconst (v := (0 : Int32)) hx hb dL_law_2260 (by decide) ?_
      obtain ⟨hg, hf⟩ := zg_some hf
      refine x_lald hx hb B 75 (by decide) (fun _ => rfl) (zin_ok hg) dL_law_2261 ?_
      refine lv_iload hx hb dL_law_2262 (lv_at hl 0 rfl) ?_
      refine lv_i2l (v := r5.toInt64) hx hb dL_law_2264 rfl ?_
      refine W.lcmp hx hb dL_law_2265 ?_
      refine lv_if_eq (tgt := 2271) hx hb dL_law_2266 (by decide) (fun hc => ?_) (fun hc => ?_)
      · have hf := zif_t hc hf
        refine lv_goto (tgt := 2518) hx hb dL_law_2271 (by decide) ?_
        refine lv_iinc (v := (v4 + (5 : Int32))) (lv' := [(4, .int (v4 + (5 : Int32))), (6, .int r5), (5, .int r2), (0, .ref b), (1, .ref (ad 0)), (2, .ref (ad 65)), (3, .ref (ad 75))]) hx hb dL_law_2518 hl (k := 6) rfl (zc1 (by decide)) (by decide) rfl (fun ls hl => ?_)
        refine lv_goto (tgt := 23) hx hb dL_law_2521 (by decide) ?_
        refine W.widen (k := C1 + 28) (n := S1 + 2612) (show C1 + 3 + 0 + 0 ≤ C1 + 28 by omega) (show S1 + 18 + 0 + 0 ≤ S1 + 2612 by omega) ?_
        exact hK23 _ _ _ _ _ hf B (lv_sub hl [3, 4, 5, 6, 0] rfl)
      · have hf := zif_f hc hf
        refine lv_iconst (v := (0 : Int32)) hx hb dL_law_2269 (by decide) ?_
        exact absurd (show (0 : Int32) = 1 from congrArg Prod.fst (Option.some.inj hf)) (by decide)
  · have hf := zif_f hc hf
    refine lv_iconst (v := (0 : Int32)) hx hb dL_law_2252 (by decide) ?_
    exact absurd (show (0 : Int32) = 1 from congrArg Prod.fst (Option.some.inj hf)) (by decide)
theorem dL_law_2274 : decode cL_law 2274 = .ok (.aload_n 1, 1) := by decide +kernel
theorem dL_law_2275 : decode cL_law 2275 = .ok (.aload_n 0, 1) := by decide +kernel
theorem dL_law_2276 : decode cL_law 2276 = .ok (.iload 4, 2) := by decide +kernel
theorem dL_law_2278 : decode cL_law 2278 = .ok (.iconst 1, 1) := by decide +kernel
theorem dL_law_2279 : decode cL_law 2279 = .ok (.iadd, 1) := by decide +kernel
theorem dL_law_2280 : decode cL_law 2280 = .ok (.iaload, 1) := by decide +kernel
theorem dL_law_2281 : decode cL_law 2281 = .ok (.aload_n 3, 1) := by decide +kernel
theorem dL_law_2282 : decode cL_law 2282 = .ok (.invokestatic 242, 3) := by decide +kernel
theorem dL_law_2285 : decode cL_law 2285 = .ok (.istore 5, 2) := by decide +kernel
theorem dL_law_2287 : decode cL_law 2287 = .ok (.aload_n 2, 1) := by decide +kernel
theorem dL_law_2288 : decode cL_law 2288 = .ok (.aload_n 0, 1) := by decide +kernel
theorem dL_law_2289 : decode cL_law 2289 = .ok (.iload 4, 2) := by decide +kernel
theorem dL_law_2291 : decode cL_law 2291 = .ok (.iconst 1, 1) := by decide +kernel
theorem dL_law_2292 : decode cL_law 2292 = .ok (.iadd, 1) := by decide +kernel
theorem dL_law_2293 : decode cL_law 2293 = .ok (.iaload, 1) := by decide +kernel
theorem dL_law_2294 : decode cL_law 2294 = .ok (.invokevirtual 244, 3) := by decide +kernel
theorem dL_law_2297 : decode cL_law 2297 = .ok (.istore 6, 2) := by decide +kernel
theorem dL_law_2299 : decode cL_law 2299 = .ok (.aload_n 2, 1) := by decide +kernel
theorem dL_law_2300 : decode cL_law 2300 = .ok (.invokevirtual 139, 3) := by decide +kernel
theorem dL_law_2303 : decode cL_law 2303 = .ok (.iload 5, 2) := by decide +kernel
theorem dL_law_2305 : decode cL_law 2305 = .ok (.if_icmp .eq 5, 3) := by decide +kernel
theorem dL_law_2308 : decode cL_law 2308 = .ok (.iconst 0, 1) := by decide +kernel
theorem dL_law_2310 : decode cL_law 2310 = .ok (.iload 5, 2) := by decide +kernel
theorem dL_law_2312 : decode cL_law 2312 = .ok (.ifCond .ne 15, 3) := by decide +kernel
theorem dL_law_2315 : decode cL_law 2315 = .ok (.aload_n 3, 1) := by decide +kernel
theorem dL_law_2316 : decode cL_law 2316 = .ok (.iconst 0, 1) := by decide +kernel
theorem dL_law_2317 : decode cL_law 2317 = .ok (.laload, 1) := by decide +kernel
theorem dL_law_2318 : decode cL_law 2318 = .ok (.iload 6, 2) := by decide +kernel
theorem dL_law_2320 : decode cL_law 2320 = .ok (.i2l, 1) := by decide +kernel
theorem dL_law_2321 : decode cL_law 2321 = .ok (.lcmp, 1) := by decide +kernel
theorem dL_law_2322 : decode cL_law 2322 = .ok (.ifCond .eq 5, 3) := by decide +kernel
theorem dL_law_2325 : decode cL_law 2325 = .ok (.iconst 0, 1) := by decide +kernel
theorem dL_law_2327 : decode cL_law 2327 = .ok (.goto 191, 3) := by decide +kernel
set_option maxRecDepth 20000 in
theorem ggL_law_L_reached : GoodIn wsL_law wsL_reached := goodIn_ca (goodIn_ca (goodIn_r _ [1285, 146, 1286, 1287, 1288, 2, 1289, 30, 16, 153, 155, 156, 157, 158, 159, 160, 161, 162, 1214, 1215, 1216, 29, 1217, 1218, 1219, 1220, 1221, 1222, 1223, 107, 1224, 1225, 1189, 1190, 42, 1191, 1192, 1193, 1194, 1195, 553, 554, 555, 556, 59, 63, 60, 1196, 817, 818, 819, 71, 64, 65, 66, 67, 62, 820, 821, 822, 70, 823, 824, 825, 826, 827, 828, 829, 830, 831, 832, 833, 834, 310, 311, 312, 835, 314, 315, 836, 837, 838, 260, 261, 1197, 840, 841, 842, 1226, 1227, 1228, 1229, 104, 105, 1230, 1231, 1232, 1233, 885, 886, 887, 180, 61, 1234, 1235, 1236, 46, 1237, 82, 79, 80, 1238, 1239, 1240, 1241, 106, 1242, 1243, 1244, 1245, 1246, 1247, 1248, 1249, 1250, 1290, 1291, 1292, 1293, 1369, 1370, 1371, 1372, 1373, 1374, 1375, 1376, 1397, 1398, 1399, 1400, 1401, 1402, 1403, 1404, 1424, 1425, 1426, 1427, 1428, 1429, 1430, 1431, 1432, 1433, 1434, 1435, 1416, 1417, 1418, 1419, 1447, 1448, 1449, 1450, 1451, 1452, 1436, 1437, 1438, 1439, 1440, 1441, 1442] (by decide +kernel) (by decide +kernel)) (goodIn_sub (fun _ h => List.mem_append_left _ (List.mem_append_left _ (List.mem_append_left _ (List.mem_append_left _ (List.mem_append_left _ (List.mem_append_right _ h)))))) (by decide +kernel))) (goodIn_sub (fun _ h => List.mem_append_left _ (List.mem_append_left _ (List.mem_append_left _ (List.mem_append_left _ (List.mem_append_right _ h))))) (by decide +kernel))
set_option maxRecDepth 20000 in
theorem gL_law_L_reached : GoodIn wsL_law (va_wsS RL 242 yL_reached wsL_reached) := goodIn_app (goodIn_of _ (by decide +kernel)) ggL_law_L_reached
set_option maxRecDepth 20000 in
theorem ggL_law_X9_reached : GoodIn wsL_law wsX9_reached := goodIn_ca (goodIn_r _ [1297, 193, 194, 195, 5, 196, 197, 198, 199, 1298, 1299, 1300, 1301, 132, 140, 1255, 1256, 1257, 1258, 1259, 1260, 1261, 1262, 892, 893, 894, 895, 412, 413, 414, 1263, 1264, 1265, 1266, 1202, 1203, 1204, 1205, 861, 310, 311, 312, 856, 314, 315, 565, 566, 567, 568, 502, 503, 504, 505, 498, 499, 500, 501, 1377, 1378, 1379, 1380, 1381, 1382, 1383, 1384, 1385, 1386, 1387, 1388, 1389, 1390, 1391, 1392, 1393, 1394, 1395, 1396] (by decide +kernel) (by decide +kernel)) (goodIn_sub (fun _ h => List.mem_append_left _ (List.mem_append_left _ (List.mem_append_left _ (List.mem_append_left _ (List.mem_append_left _ (List.mem_append_right _ h)))))) (by decide +kernel))
set_option maxRecDepth 20000 in
theorem gL_law_X9_reached : GoodIn wsL_law (wsV RL 244 RX9 yX9_reached wsX9_reached) := goodIn_app (goodIn_of _ (by decide +kernel)) ggL_law_X9_reached
set_option maxHeartbeats 4000000 in
set_option maxRecDepth 100000 in
theorem lc_2274 {p : Program} {e : Env} {s : State} {m : MethodId} {below : List Frame} {meth : Method} {c : Code} (l : Launch) (hfl : l.stackTraces = false) {b L : Nat} {xs : Nat → Int32} {Q : State → Prop} (C0 : lw_At p s m meth c b L xs) {G : zG} {ad : Nat → Nat} {σ' : zs} (C1 S1 : Nat) (hC : C1 + 28 ≤ 601024) (hS1 : S1 + 2612 ≤ 7293034) (K23 : zs → Int32 → Option (Int32 × zs)) (hK23 : ∀ (σ : zs) (v4 : Int32) (H : Heap) (locs : List Loc) (ls : Array Slot), K23 σ v4 = some (1, σ') → xB (fun q : Nat => s.heap.size ≤ q) s G ad σ H locs → lv_has ls 7 [(0, .ref b), (1, .ref (ad 0)), (2, .ref (ad 65)), (3, .ref (ad 75)), (4, .int v4)] → W p l e room_1 s m #[Value.ref b] below meth c H locs (C1 + 28) (S1 + 2612) Q (F0 m 23 ls [])) (σ : zs) (v4 : Int32) (H : Heap) (locs : List Loc) (ls : Array Slot) (hf : f_L_law_2274 L xs K23 σ v4 = some (1, σ')) (B : xB (fun q : Nat => s.heap.size ≤ q) s G ad σ H locs) (hl : lv_has ls 7 [(0, .ref b), (1, .ref (ad 0)), (2, .ref (ad 65)), (3, .ref (ad 75)), (4, .int v4)]) : W p l e room_1 s m #[Value.ref b] below meth c H locs C1 S1 Q (F0 m 2274 ls []) := by
  obtain ⟨hx, hb, hr, hml, hown, hts0, hX, hbl, hlocks, hgv⟩ := id C0
  have hts := fun w h => hts0 w (wsL_law_in w h)
  have hbA : ¬ (fun q : Nat => s.heap.size ≤ q) b := Nat.not_le.mpr hbl
  unfold f_L_law_2274 at hf
  refine lv_aload_n hx hb dL_law_2274 rfl (lv_at hl 1 rfl) ?_
  refine lv_aload_n hx hb dL_law_2275 rfl (lv_at hl 0 rfl) ?_
  refine lv_iload hx hb dL_law_2276 (lv_at hl 4 rfl) ?_
  refine lv_iconst (v := (1 : Int32)) hx hb dL_law_2278 (by decide) ?_
  refine lv_iadd hx hb dL_law_2279 ?_
  obtain ⟨hg, hf⟩ := zg_some hf
  refine va_sld hx hb hX hbl hbA (xS B) (zin_ok hg) dL_law_2280 ?_
  refine lv_aload_n hx hb dL_law_2281 rfl (lv_at hl 3 rfl) ?_
  obtain ⟨r2, σ3, hu1, hf⟩ := zb_some hf
  refine x_i B (fun nb a g hs Bz => vx_runSW (As := [.ref (ad 0), .int (xs (v4 + (1 : Int32)).toNatClampNeg), .ref (ad 75)]) (rest := []) ⟨hx, hb, hml, hown, hts⟩ (c_L_reached_0_75 l hfl hu1 _ nb a g hs) (vx_cwSW 3 hts gL_law_L_reached rfl rfl rfl (by decide +kernel) ⟨Nat.le_of_ble_eq_true rfl, Nat.le_of_ble_eq_true rfl⟩) (z_preS Bz) rfl rfl hl.1 rfl (lv_room (Nat.le_of_ble_eq_true rfl)) dL_law_2282 ⟨(show C1 + 1 ≤ 601024 by omega), (show S1 + 6 ≤ 7293034 by omega)⟩) (fun H locs B => ?_)
  refine lv_istore (lv' := [(5, .int r2), (0, .ref b), (1, .ref (ad 0)), (2, .ref (ad 65)), (3, .ref (ad 75)), (4, .int v4)]) hx hb dL_law_2285 hl (by decide) rfl (fun ls hl => ?_)
  refine lv_aload_n hx hb dL_law_2287 rfl (lv_at hl 3 rfl) ?_
  refine lv_aload_n hx hb dL_law_2288 rfl (lv_at hl 1 rfl) ?_
  refine lv_iload hx hb dL_law_2289 (lv_at hl 5 rfl) ?_
  refine lv_iconst (v := (1 : Int32)) hx hb dL_law_2291 (by decide) ?_
  refine lv_iadd hx hb dL_law_2292 ?_
  obtain ⟨hg, hf⟩ := zg_some hf
  refine va_sld hx hb hX hbl hbA (xS B) (zin_ok hg) dL_law_2293 ?_
  obtain ⟨r5, σ6, hu4, hf⟩ := zb_some hf
  refine x_i B (fun nb a g hs Bz => va_runV (As := [.int (xs (v4 + (1 : Int32)).toNatClampNeg)]) (rest := []) ⟨hx, hb, hml, hown, hts⟩ (c_X9_reached l hu4 _ nb a g hs) (cwV 1 hts gL_law_X9_reached rfl rfl rfl (by decide +kernel) ⟨Nat.le_of_ble_eq_true rfl, Nat.le_of_ble_eq_true rfl⟩) (x_preV Bz (by decide) (fun _ => rfl) rfl) rfl rfl hl.1 rfl (lv_room (Nat.le_of_ble_eq_true rfl)) dL_law_2294 ⟨(show C1 + 1 + 0 ≤ 601024 by omega), (show S1 + 6 + 0 ≤ 7293034 by omega)⟩) (fun H locs B => ?_)
  refine lv_istore (lv' := [(6, .int r5), (5, .int r2), (0, .ref b), (1, .ref (ad 0)), (2, .ref (ad 65)), (3, .ref (ad 75)), (4, .int v4)]) hx hb dL_law_2297 hl (by decide) rfl (fun ls hl => ?_)
  refine lv_aload_n hx hb dL_law_2299 rfl (lv_at hl 4 rfl) ?_
  obtain ⟨r8, σ9, hu7, hf⟩ := zb_some hf
  refine x_i B (fun nb a g hs Bz => va_runV (As := []) (rest := []) ⟨hx, hb, hml, hown, hts⟩ (c_X9_thrown l hu7 _ nb a g hs) (cwV 0 hts gL_law_X9_thrown rfl rfl rfl (by decide +kernel) ⟨Nat.le_of_ble_eq_true rfl, Nat.le_of_ble_eq_true rfl⟩) (x_preV Bz (by decide) (fun _ => rfl) rfl) rfl rfl hl.1 rfl (lv_room (Nat.le_of_ble_eq_true rfl)) dL_law_2300 ⟨(show C1 + 1 + 0 + 0 ≤ 601024 by omega), (show S1 + 6 + 0 + 0 ≤ 7293034 by omega)⟩) (fun H locs B => ?_)
  refine lv_iload hx hb dL_law_2303 (lv_at hl 1 rfl) ?_
  refine lv_icmp_eq (tgt := 2310) hx hb dL_law_2305 (by decide) (fun hc => ?_) (fun hc => ?_)
  · have hf := zif_t hc hf
    refine lv_iload hx hb dL_law_2310 (lv_at hl 1 rfl) ?_
    refine lv_if_ne (tgt := 2327) hx hb dL_law_2312 (by decide) (fun hc => ?_) (fun hc => ?_)
    · have hf := zif_f hc hf
      refine lv_goto (tgt := 2518) hx hb dL_law_2327 (by decide) ?_
      refine lv_iinc (v := (v4 + (5 : Int32))) (lv' := [(4, .int (v4 + (5 : Int32))), (6, .int r5), (5, .int r2), (0, .ref b), (1, .ref (ad 0)), (2, .ref (ad 65)), (3, .ref (ad 75))]) hx hb dL_law_2518 hl (k := 6) rfl (zc1 (by decide)) (by decide) rfl (fun ls hl => ?_)
      refine lv_goto (tgt := 23) hx hb dL_law_2521 (by decide) ?_
      refine W.widen (k := C1 + 28) (n := S1 + 2612) (show C1 + 1 + 0 + 0 ≤ C1 + 28 by omega) (show S1 + 6 + 0 + 0 ≤ S1 + 2612 by omega) ?_
      exact hK23 _ _ _ _ _ hf B (lv_sub hl [3, 4, 5, 6, 0] rfl)
    · have hf := zif_t hc hf
      refine lv_aload_n hx hb dL_law_2315 rfl (lv_at hl 5 rfl) ?_
      refine lv_iconst (v := (0 : Int32)) hx hb dL_law_2316 (by decide) ?_
      obtain ⟨hg, hf⟩ := zg_some hf
      refine x_lald hx hb B 75 (by decide) (fun _ => rfl) (zin_ok hg) dL_law_2317 ?_
      refine lv_iload hx hb dL_law_2318 (lv_at hl 0 rfl) ?_
      refine lv_i2l (v := r5.toInt64) hx hb dL_law_2320 rfl ?_
      refine W.lcmp hx hb dL_law_2321 ?_
      refine lv_if_eq (tgt := 2327) hx hb dL_law_2322 (by decide) (fun hc => ?_) (fun hc => ?_)
      · have hf := zif_t hc hf
        refine lv_goto (tgt := 2518) hx hb dL_law_2327 (by decide) ?_
        refine lv_iinc (v := (v4 + (5 : Int32))) (lv' := [(4, .int (v4 + (5 : Int32))), (6, .int r5), (5, .int r2), (0, .ref b), (1, .ref (ad 0)), (2, .ref (ad 65)), (3, .ref (ad 75))]) hx hb dL_law_2518 hl (k := 6) rfl (zc1 (by decide)) (by decide) rfl (fun ls hl => ?_)
        refine lv_goto (tgt := 23) hx hb dL_law_2521 (by decide) ?_
        refine W.widen (k := C1 + 28) (n := S1 + 2612) (show C1 + 1 + 0 + 0 ≤ C1 + 28 by omega) (show S1 + 6 + 0 + 0 ≤ S1 + 2612 by omega) ?_
        exact hK23 _ _ _ _ _ hf B (lv_sub hl [3, 4, 5, 6, 0] rfl)
      · have hf := zif_f hc hf
        refine lv_iconst (v := (0 : Int32)) hx hb dL_law_2325 (by decide) ?_
        exact absurd (show (0 : Int32) = 1 from congrArg Prod.fst (Option.some.inj hf)) (by decide)
  · have hf := zif_f hc hf
    refine lv_iconst (v := (0 : Int32)) hx hb dL_law_2308 (by decide) ?_
    exact absurd (show (0 : Int32) = 1 from congrArg Prod.fst (Option.some.inj hf)) (by decide)
theorem dL_law_2330 : decode cL_law 2330 = .ok (.aload_n 1, 1) := by decide +kernel
theorem dL_law_2331 : decode cL_law 2331 = .ok (.aload_n 0, 1) := by decide +kernel
theorem dL_law_2332 : decode cL_law 2332 = .ok (.iload 4, 2) := by decide +kernel
theorem dL_law_2334 : decode cL_law 2334 = .ok (.iconst 1, 1) := by decide +kernel
theorem dL_law_2335 : decode cL_law 2335 = .ok (.iadd, 1) := by decide +kernel
theorem dL_law_2336 : decode cL_law 2336 = .ok (.iaload, 1) := by decide +kernel
theorem dL_law_2337 : decode cL_law 2337 = .ok (.aload_n 0, 1) := by decide +kernel
theorem dL_law_2338 : decode cL_law 2338 = .ok (.iload 4, 2) := by decide +kernel
theorem dL_law_2340 : decode cL_law 2340 = .ok (.iconst 2, 1) := by decide +kernel
theorem dL_law_2341 : decode cL_law 2341 = .ok (.iadd, 1) := by decide +kernel
theorem dL_law_2342 : decode cL_law 2342 = .ok (.iaload, 1) := by decide +kernel
theorem dL_law_2343 : decode cL_law 2343 = .ok (.aload_n 3, 1) := by decide +kernel
theorem dL_law_2344 : decode cL_law 2344 = .ok (.invokestatic 245, 3) := by decide +kernel
theorem dL_law_2347 : decode cL_law 2347 = .ok (.istore 5, 2) := by decide +kernel
theorem dL_law_2349 : decode cL_law 2349 = .ok (.aload_n 2, 1) := by decide +kernel
theorem dL_law_2350 : decode cL_law 2350 = .ok (.aload_n 0, 1) := by decide +kernel
theorem dL_law_2351 : decode cL_law 2351 = .ok (.iload 4, 2) := by decide +kernel
theorem dL_law_2353 : decode cL_law 2353 = .ok (.iconst 1, 1) := by decide +kernel
theorem dL_law_2354 : decode cL_law 2354 = .ok (.iadd, 1) := by decide +kernel
theorem dL_law_2355 : decode cL_law 2355 = .ok (.iaload, 1) := by decide +kernel
theorem dL_law_2356 : decode cL_law 2356 = .ok (.aload_n 0, 1) := by decide +kernel
theorem dL_law_2357 : decode cL_law 2357 = .ok (.iload 4, 2) := by decide +kernel
theorem dL_law_2359 : decode cL_law 2359 = .ok (.iconst 2, 1) := by decide +kernel
theorem dL_law_2360 : decode cL_law 2360 = .ok (.iadd, 1) := by decide +kernel
theorem dL_law_2361 : decode cL_law 2361 = .ok (.iaload, 1) := by decide +kernel
theorem dL_law_2362 : decode cL_law 2362 = .ok (.invokevirtual 247, 3) := by decide +kernel
theorem dL_law_2365 : decode cL_law 2365 = .ok (.istore 6, 2) := by decide +kernel
theorem dL_law_2367 : decode cL_law 2367 = .ok (.aload_n 2, 1) := by decide +kernel
theorem dL_law_2368 : decode cL_law 2368 = .ok (.invokevirtual 139, 3) := by decide +kernel
theorem dL_law_2371 : decode cL_law 2371 = .ok (.iload 5, 2) := by decide +kernel
theorem dL_law_2373 : decode cL_law 2373 = .ok (.if_icmp .eq 5, 3) := by decide +kernel
theorem dL_law_2376 : decode cL_law 2376 = .ok (.iconst 0, 1) := by decide +kernel
theorem dL_law_2378 : decode cL_law 2378 = .ok (.iload 5, 2) := by decide +kernel
theorem dL_law_2380 : decode cL_law 2380 = .ok (.ifCond .ne 22, 3) := by decide +kernel
theorem dL_law_2383 : decode cL_law 2383 = .ok (.aload_n 3, 1) := by decide +kernel
theorem dL_law_2384 : decode cL_law 2384 = .ok (.iconst 0, 1) := by decide +kernel
theorem dL_law_2385 : decode cL_law 2385 = .ok (.laload, 1) := by decide +kernel
theorem dL_law_2386 : decode cL_law 2386 = .ok (.iload 6, 2) := by decide +kernel
theorem dL_law_2388 : decode cL_law 2388 = .ok (.ifCond .eq 7, 3) := by decide +kernel
theorem dL_law_2391 : decode cL_law 2391 = .ok (.lconst 1, 1) := by decide +kernel
theorem dL_law_2392 : decode cL_law 2392 = .ok (.goto 4, 3) := by decide +kernel
theorem dL_law_2395 : decode cL_law 2395 = .ok (.lconst 0, 1) := by decide +kernel
theorem dL_law_2396 : decode cL_law 2396 = .ok (.lcmp, 1) := by decide +kernel
theorem dL_law_2397 : decode cL_law 2397 = .ok (.ifCond .eq 5, 3) := by decide +kernel
theorem dL_law_2400 : decode cL_law 2400 = .ok (.iconst 0, 1) := by decide +kernel
theorem dL_law_2402 : decode cL_law 2402 = .ok (.goto 116, 3) := by decide +kernel
set_option maxRecDepth 20000 in
theorem ggL_law_L_isConfined : GoodIn wsL_law wsL_isConfined := goodIn_ca (goodIn_ca (goodIn_ca (goodIn_r _ [1304, 146, 147, 1305, 1306, 1307, 2, 1308, 30, 16, 153, 155, 156, 157, 158, 159, 160, 161, 162, 166, 167, 168, 169, 170, 1214, 1215, 1216, 29, 1217, 1218, 1219, 1220, 1221, 1222, 1223, 107, 1224, 1225, 1189, 1190, 42, 1191, 1192, 1193, 1194, 1195, 553, 554, 555, 556, 59, 63, 60, 1196, 817, 818, 819, 71, 64, 65, 66, 67, 62, 820, 821, 822, 70, 823, 824, 825, 826, 827, 828, 829, 830, 831, 832, 833, 834, 310, 311, 312, 835, 314, 315, 836, 837, 838, 260, 261, 1197, 840, 841, 842, 1226, 1227, 1228, 1229, 104, 105, 1230, 1231, 1232, 1233, 885, 886, 887, 180, 61, 1234, 1235, 1236, 46, 1237, 82, 79, 80, 1238, 1239, 1240, 1241, 106, 1242, 1243, 1244, 1245, 1246, 1247, 1248, 1249, 1250, 1290, 1291, 1292, 1293, 1369, 1370, 1371, 1372, 1373, 1374, 1375, 1376, 1397, 1398, 1399, 1400, 1401, 1402, 1403, 1404, 1424, 1425, 1426, 1427, 1428, 1429, 1430, 1431, 1432, 1433, 1434, 1435, 1416, 1417, 1418, 1419, 1447, 1448, 1449, 1450, 1451, 1452, 1436, 1437, 1438, 1439, 1440, 1441, 1442] (by decide +kernel) (by decide +kernel)) (goodIn_sub (fun _ h => List.mem_append_left _ (List.mem_append_left _ (List.mem_append_left _ (List.mem_append_left _ (List.mem_append_left _ (List.mem_append_right _ h)))))) (by decide +kernel))) (goodIn_sub (fun _ h => List.mem_append_left _ (List.mem_append_left _ (List.mem_append_left _ (List.mem_append_left _ (List.mem_append_right _ h))))) (by decide +kernel))) (goodIn_sub (fun _ h => List.mem_append_left _ (List.mem_append_left _ (List.mem_append_left _ (List.mem_append_right _ h)))) (by decide +kernel))
set_option maxRecDepth 20000 in
theorem gL_law_L_isConfined : GoodIn wsL_law (va_wsS RL 245 yL_isConfined wsL_isConfined) := goodIn_app (goodIn_of _ (by decide +kernel)) ggL_law_L_isConfined
set_option maxRecDepth 20000 in
theorem ggL_law_X9_isConfined : GoodIn wsL_law wsX9_isConfined := goodIn_ca (goodIn_r _ [1312, 193, 194, 195, 5, 196, 197, 198, 199, 1298, 1299, 1300, 1301, 132, 140, 1255, 1256, 1257, 1258, 1259, 1260, 1261, 1262, 892, 893, 894, 895, 412, 413, 414, 1263, 1264, 1265, 1266, 1202, 1203, 1204, 1205, 861, 310, 311, 312, 856, 314, 315, 565, 566, 567, 568, 502, 503, 504, 505, 498, 499, 500, 501, 1377, 1378, 1379, 1380, 1381, 1382, 1383, 1384, 1385, 1386, 1387, 1388, 1389, 1390, 1391, 1392, 1393, 1394, 1395, 1396] (by decide +kernel) (by decide +kernel)) (goodIn_sub (fun _ h => List.mem_append_left _ (List.mem_append_left _ (List.mem_append_left _ (List.mem_append_left _ (List.mem_append_left _ (List.mem_append_right _ h)))))) (by decide +kernel))
set_option maxRecDepth 20000 in
theorem gL_law_X9_isConfined : GoodIn wsL_law (wsV RL 247 RX9 yX9_isConfined wsX9_isConfined) := goodIn_app (goodIn_of _ (by decide +kernel)) ggL_law_X9_isConfined
set_option maxHeartbeats 4000000 in
set_option maxRecDepth 100000 in
theorem lc_2330 {p : Program} {e : Env} {s : State} {m : MethodId} {below : List Frame} {meth : Method} {c : Code} (l : Launch) (hfl : l.stackTraces = false) {b L : Nat} {xs : Nat → Int32} {Q : State → Prop} (C0 : lw_At p s m meth c b L xs) {G : zG} {ad : Nat → Nat} {σ' : zs} (C1 S1 : Nat) (hC : C1 + 28 ≤ 601024) (hS1 : S1 + 2612 ≤ 7293034) (K23 : zs → Int32 → Option (Int32 × zs)) (hK23 : ∀ (σ : zs) (v4 : Int32) (H : Heap) (locs : List Loc) (ls : Array Slot), K23 σ v4 = some (1, σ') → xB (fun q : Nat => s.heap.size ≤ q) s G ad σ H locs → lv_has ls 7 [(0, .ref b), (1, .ref (ad 0)), (2, .ref (ad 65)), (3, .ref (ad 75)), (4, .int v4)] → W p l e room_1 s m #[Value.ref b] below meth c H locs (C1 + 28) (S1 + 2612) Q (F0 m 23 ls [])) (σ : zs) (v4 : Int32) (H : Heap) (locs : List Loc) (ls : Array Slot) (hf : f_L_law_2330 L xs K23 σ v4 = some (1, σ')) (B : xB (fun q : Nat => s.heap.size ≤ q) s G ad σ H locs) (hl : lv_has ls 7 [(0, .ref b), (1, .ref (ad 0)), (2, .ref (ad 65)), (3, .ref (ad 75)), (4, .int v4)]) : W p l e room_1 s m #[Value.ref b] below meth c H locs C1 S1 Q (F0 m 2330 ls []) := by
  obtain ⟨hx, hb, hr, hml, hown, hts0, hX, hbl, hlocks, hgv⟩ := id C0
  have hts := fun w h => hts0 w (wsL_law_in w h)
  have hbA : ¬ (fun q : Nat => s.heap.size ≤ q) b := Nat.not_le.mpr hbl
  unfold f_L_law_2330 at hf
  refine lv_aload_n hx hb dL_law_2330 rfl (lv_at hl 1 rfl) ?_
  refine lv_aload_n hx hb dL_law_2331 rfl (lv_at hl 0 rfl) ?_
  refine lv_iload hx hb dL_law_2332 (lv_at hl 4 rfl) ?_
  refine lv_iconst (v := (1 : Int32)) hx hb dL_law_2334 (by decide) ?_
  refine lv_iadd hx hb dL_law_2335 ?_
  obtain ⟨hg, hf⟩ := zg_some hf
  refine va_sld hx hb hX hbl hbA (xS B) (zin_ok hg) dL_law_2336 ?_
  refine lv_aload_n hx hb dL_law_2337 rfl (lv_at hl 0 rfl) ?_
  refine lv_iload hx hb dL_law_2338 (lv_at hl 4 rfl) ?_
  refine lv_iconst (v := (2 : Int32)) hx hb dL_law_2340 (by decide) ?_
  refine lv_iadd hx hb dL_law_2341 ?_
  obtain ⟨hg, hf⟩ := zg_some hf
  refine va_sld hx hb hX hbl hbA (xS B) (zin_ok hg) dL_law_2342 ?_
  refine lv_aload_n hx hb dL_law_2343 rfl (lv_at hl 3 rfl) ?_
  obtain ⟨r2, σ3, hu1, hf⟩ := zb_some hf
  refine x_i B (fun nb a g hs Bz => vx_runSW (As := [.ref (ad 0), .int (xs (v4 + (1 : Int32)).toNatClampNeg), .int (xs (v4 + (2 : Int32)).toNatClampNeg), .ref (ad 75)]) (rest := []) ⟨hx, hb, hml, hown, hts⟩ (c_L_isConfined_0_75 l hfl hu1 _ nb a g hs) (vx_cwSW 4 hts gL_law_L_isConfined rfl rfl rfl (by decide +kernel) ⟨Nat.le_of_ble_eq_true rfl, Nat.le_of_ble_eq_true rfl⟩) (z_preS Bz) rfl rfl hl.1 rfl (lv_room (Nat.le_of_ble_eq_true rfl)) dL_law_2344 ⟨(show C1 + 2 ≤ 601024 by omega), (show S1 + 12 ≤ 7293034 by omega)⟩) (fun H locs B => ?_)
  refine lv_istore (lv' := [(5, .int r2), (0, .ref b), (1, .ref (ad 0)), (2, .ref (ad 65)), (3, .ref (ad 75)), (4, .int v4)]) hx hb dL_law_2347 hl (by decide) rfl (fun ls hl => ?_)
  refine lv_aload_n hx hb dL_law_2349 rfl (lv_at hl 3 rfl) ?_
  refine lv_aload_n hx hb dL_law_2350 rfl (lv_at hl 1 rfl) ?_
  refine lv_iload hx hb dL_law_2351 (lv_at hl 5 rfl) ?_
  refine lv_iconst (v := (1 : Int32)) hx hb dL_law_2353 (by decide) ?_
  refine lv_iadd hx hb dL_law_2354 ?_
  obtain ⟨hg, hf⟩ := zg_some hf
  refine va_sld hx hb hX hbl hbA (xS B) (zin_ok hg) dL_law_2355 ?_
  refine lv_aload_n hx hb dL_law_2356 rfl (lv_at hl 1 rfl) ?_
  refine lv_iload hx hb dL_law_2357 (lv_at hl 5 rfl) ?_
  refine lv_iconst (v := (2 : Int32)) hx hb dL_law_2359 (by decide) ?_
  refine lv_iadd hx hb dL_law_2360 ?_
  obtain ⟨hg, hf⟩ := zg_some hf
  refine va_sld hx hb hX hbl hbA (xS B) (zin_ok hg) dL_law_2361 ?_
  obtain ⟨r5, σ6, hu4, hf⟩ := zb_some hf
  refine x_i B (fun nb a g hs Bz => va_runV (As := [.int (xs (v4 + (1 : Int32)).toNatClampNeg), .int (xs (v4 + (2 : Int32)).toNatClampNeg)]) (rest := []) ⟨hx, hb, hml, hown, hts⟩ (c_X9_isConfined l hu4 _ nb a g hs) (cwV 2 hts gL_law_X9_isConfined rfl rfl rfl (by decide +kernel) ⟨Nat.le_of_ble_eq_true rfl, Nat.le_of_ble_eq_true rfl⟩) (x_preV Bz (by decide) (fun _ => rfl) rfl) rfl rfl hl.1 rfl (lv_room (Nat.le_of_ble_eq_true rfl)) dL_law_2362 ⟨(show C1 + 2 + 0 ≤ 601024 by omega), (show S1 + 12 + 0 ≤ 7293034 by omega)⟩) (fun H locs B => ?_)
  refine lv_istore (lv' := [(6, .int r5), (5, .int r2), (0, .ref b), (1, .ref (ad 0)), (2, .ref (ad 65)), (3, .ref (ad 75)), (4, .int v4)]) hx hb dL_law_2365 hl (by decide) rfl (fun ls hl => ?_)
  refine lv_aload_n hx hb dL_law_2367 rfl (lv_at hl 4 rfl) ?_
  obtain ⟨r8, σ9, hu7, hf⟩ := zb_some hf
  refine x_i B (fun nb a g hs Bz => va_runV (As := []) (rest := []) ⟨hx, hb, hml, hown, hts⟩ (c_X9_thrown l hu7 _ nb a g hs) (cwV 0 hts gL_law_X9_thrown rfl rfl rfl (by decide +kernel) ⟨Nat.le_of_ble_eq_true rfl, Nat.le_of_ble_eq_true rfl⟩) (x_preV Bz (by decide) (fun _ => rfl) rfl) rfl rfl hl.1 rfl (lv_room (Nat.le_of_ble_eq_true rfl)) dL_law_2368 ⟨(show C1 + 2 + 0 + 0 ≤ 601024 by omega), (show S1 + 12 + 0 + 0 ≤ 7293034 by omega)⟩) (fun H locs B => ?_)
  refine lv_iload hx hb dL_law_2371 (lv_at hl 1 rfl) ?_
  refine lv_icmp_eq (tgt := 2378) hx hb dL_law_2373 (by decide) (fun hc => ?_) (fun hc => ?_)
  · have hf := zif_t hc hf
    refine lv_iload hx hb dL_law_2378 (lv_at hl 1 rfl) ?_
    refine lv_if_ne (tgt := 2402) hx hb dL_law_2380 (by decide) (fun hc => ?_) (fun hc => ?_)
    · have hf := zif_f hc hf
      refine lv_goto (tgt := 2518) hx hb dL_law_2402 (by decide) ?_
      refine lv_iinc (v := (v4 + (5 : Int32))) (lv' := [(4, .int (v4 + (5 : Int32))), (6, .int r5), (5, .int r2), (0, .ref b), (1, .ref (ad 0)), (2, .ref (ad 65)), (3, .ref (ad 75))]) hx hb dL_law_2518 hl (k := 6) rfl (zc1 (by decide)) (by decide) rfl (fun ls hl => ?_)
      refine lv_goto (tgt := 23) hx hb dL_law_2521 (by decide) ?_
      refine W.widen (k := C1 + 28) (n := S1 + 2612) (show C1 + 2 + 0 + 0 ≤ C1 + 28 by omega) (show S1 + 12 + 0 + 0 ≤ S1 + 2612 by omega) ?_
      exact hK23 _ _ _ _ _ hf B (lv_sub hl [3, 4, 5, 6, 0] rfl)
    · have hf := zif_t hc hf
      refine lv_aload_n hx hb dL_law_2383 rfl (lv_at hl 5 rfl) ?_
      refine lv_iconst (v := (0 : Int32)) hx hb dL_law_2384 (by decide) ?_
      obtain ⟨hg, hf⟩ := zg_some hf
      refine x_lald hx hb B 75 (by decide) (fun _ => rfl) (zin_ok hg) dL_law_2385 ?_
      refine lv_iload hx hb dL_law_2386 (lv_at hl 0 rfl) ?_
      refine lv_if_eq (tgt := 2395) hx hb dL_law_2388 (by decide) (fun hc => ?_) (fun hc => ?_)
      · have hf := zif_t hc hf
        refine lv_lconst (v := (0 : Int32).toInt64) hx hb dL_law_2395 (by decide) ?_
        refine W.lcmp hx hb dL_law_2396 ?_
        refine lv_if_eq (tgt := 2402) hx hb dL_law_2397 (by decide) (fun hc => ?_) (fun hc => ?_)
        · have hf := zif_t hc hf
          refine lv_goto (tgt := 2518) hx hb dL_law_2402 (by decide) ?_
          refine lv_iinc (v := (v4 + (5 : Int32))) (lv' := [(4, .int (v4 + (5 : Int32))), (6, .int r5), (5, .int r2), (0, .ref b), (1, .ref (ad 0)), (2, .ref (ad 65)), (3, .ref (ad 75))]) hx hb dL_law_2518 hl (k := 6) rfl (zc1 (by decide)) (by decide) rfl (fun ls hl => ?_)
          refine lv_goto (tgt := 23) hx hb dL_law_2521 (by decide) ?_
          refine W.widen (k := C1 + 28) (n := S1 + 2612) (show C1 + 2 + 0 + 0 ≤ C1 + 28 by omega) (show S1 + 12 + 0 + 0 ≤ S1 + 2612 by omega) ?_
          exact hK23 _ _ _ _ _ hf B (lv_sub hl [3, 4, 5, 6, 0] rfl)
        · have hf := zif_f hc hf
          refine lv_iconst (v := (0 : Int32)) hx hb dL_law_2400 (by decide) ?_
          exact absurd (show (0 : Int32) = 1 from congrArg Prod.fst (Option.some.inj hf)) (by decide)
      · have hf := zif_f hc hf
        refine lv_lconst (v := (1 : Int32).toInt64) hx hb dL_law_2391 (by decide) ?_
        refine lv_goto (tgt := 2396) hx hb dL_law_2392 (by decide) ?_
        refine W.lcmp hx hb dL_law_2396 ?_
        refine lv_if_eq (tgt := 2402) hx hb dL_law_2397 (by decide) (fun hc => ?_) (fun hc => ?_)
        · have hf := zif_t hc hf
          refine lv_goto (tgt := 2518) hx hb dL_law_2402 (by decide) ?_
          refine lv_iinc (v := (v4 + (5 : Int32))) (lv' := [(4, .int (v4 + (5 : Int32))), (6, .int r5), (5, .int r2), (0, .ref b), (1, .ref (ad 0)), (2, .ref (ad 65)), (3, .ref (ad 75))]) hx hb dL_law_2518 hl (k := 6) rfl (zc1 (by decide)) (by decide) rfl (fun ls hl => ?_)
          refine lv_goto (tgt := 23) hx hb dL_law_2521 (by decide) ?_
          refine W.widen (k := C1 + 28) (n := S1 + 2612) (show C1 + 2 + 0 + 0 ≤ C1 + 28 by omega) (show S1 + 12 + 0 + 0 ≤ S1 + 2612 by omega) ?_
          exact hK23 _ _ _ _ _ hf B (lv_sub hl [3, 4, 5, 6, 0] rfl)
        · have hf := zif_f hc hf
          refine lv_iconst (v := (0 : Int32)) hx hb dL_law_2400 (by decide) ?_
          exact absurd (show (0 : Int32) = 1 from congrArg Prod.fst (Option.some.inj hf)) (by decide)
  · have hf := zif_f hc hf
    refine lv_iconst (v := (0 : Int32)) hx hb dL_law_2376 (by decide) ?_
    exact absurd (show (0 : Int32) = 1 from congrArg Prod.fst (Option.some.inj hf)) (by decide)
theorem dL_law_2405 : decode cL_law 2405 = .ok (.aload_n 1, 1) := by decide +kernel
theorem dL_law_2406 : decode cL_law 2406 = .ok (.aload_n 0, 1) := by decide +kernel
theorem dL_law_2407 : decode cL_law 2407 = .ok (.iload 4, 2) := by decide +kernel
theorem dL_law_2409 : decode cL_law 2409 = .ok (.iconst 1, 1) := by decide +kernel
theorem dL_law_2410 : decode cL_law 2410 = .ok (.iadd, 1) := by decide +kernel
theorem dL_law_2411 : decode cL_law 2411 = .ok (.iaload, 1) := by decide +kernel
theorem dL_law_2412 : decode cL_law 2412 = .ok (.aload_n 3, 1) := by decide +kernel
theorem dL_law_2413 : decode cL_law 2413 = .ok (.invokestatic 248, 3) := by decide +kernel
theorem dL_law_2416 : decode cL_law 2416 = .ok (.istore 5, 2) := by decide +kernel
theorem dL_law_2418 : decode cL_law 2418 = .ok (.aload_n 2, 1) := by decide +kernel
theorem dL_law_2419 : decode cL_law 2419 = .ok (.aload_n 0, 1) := by decide +kernel
theorem dL_law_2420 : decode cL_law 2420 = .ok (.iload 4, 2) := by decide +kernel
theorem dL_law_2422 : decode cL_law 2422 = .ok (.iconst 1, 1) := by decide +kernel
theorem dL_law_2423 : decode cL_law 2423 = .ok (.iadd, 1) := by decide +kernel
theorem dL_law_2424 : decode cL_law 2424 = .ok (.iaload, 1) := by decide +kernel
theorem dL_law_2425 : decode cL_law 2425 = .ok (.invokevirtual 250, 3) := by decide +kernel
theorem dL_law_2428 : decode cL_law 2428 = .ok (.istore 6, 2) := by decide +kernel
theorem dL_law_2430 : decode cL_law 2430 = .ok (.aload_n 2, 1) := by decide +kernel
theorem dL_law_2431 : decode cL_law 2431 = .ok (.invokevirtual 139, 3) := by decide +kernel
theorem dL_law_2434 : decode cL_law 2434 = .ok (.iload 5, 2) := by decide +kernel
theorem dL_law_2436 : decode cL_law 2436 = .ok (.if_icmp .eq 5, 3) := by decide +kernel
theorem dL_law_2439 : decode cL_law 2439 = .ok (.iconst 0, 1) := by decide +kernel
theorem dL_law_2441 : decode cL_law 2441 = .ok (.iload 5, 2) := by decide +kernel
theorem dL_law_2443 : decode cL_law 2443 = .ok (.ifCond .ne 15, 3) := by decide +kernel
theorem dL_law_2446 : decode cL_law 2446 = .ok (.aload_n 3, 1) := by decide +kernel
theorem dL_law_2447 : decode cL_law 2447 = .ok (.iconst 0, 1) := by decide +kernel
theorem dL_law_2448 : decode cL_law 2448 = .ok (.laload, 1) := by decide +kernel
theorem dL_law_2449 : decode cL_law 2449 = .ok (.iload 6, 2) := by decide +kernel
theorem dL_law_2451 : decode cL_law 2451 = .ok (.i2l, 1) := by decide +kernel
theorem dL_law_2452 : decode cL_law 2452 = .ok (.lcmp, 1) := by decide +kernel
theorem dL_law_2453 : decode cL_law 2453 = .ok (.ifCond .eq 5, 3) := by decide +kernel
theorem dL_law_2456 : decode cL_law 2456 = .ok (.iconst 0, 1) := by decide +kernel
theorem dL_law_2458 : decode cL_law 2458 = .ok (.goto 60, 3) := by decide +kernel
set_option maxRecDepth 20000 in
theorem ggL_law_L_count : GoodIn wsL_law wsL_count := goodIn_ca (goodIn_ca (goodIn_r _ [1315, 147, 1316, 1317, 1318, 2, 1319, 16, 153, 154, 467, 1078, 1079, 1123, 941, 1320, 1321, 1028, 26, 222, 166, 167, 168, 169, 170, 549, 550, 551, 42, 552, 180, 553, 554, 555, 556, 59, 63, 60, 483, 484, 485, 486, 487, 488, 489, 1369, 1370, 1371, 1372, 1373, 1374, 1375, 1376, 1397, 1398, 1399, 1400, 1401, 1402, 1403, 1404, 1424, 1425, 1426, 1427, 1428, 1429, 1430, 1431, 1432, 1433, 1434, 1435, 1436, 1437, 1438, 1439, 1440, 1441, 1442, 1443, 1444, 1445, 1446, 1408, 1409, 1410, 1411, 1412, 1413, 1414, 1415] (by decide +kernel) (by decide +kernel)) (goodIn_sub (fun _ h => List.mem_append_left _ (List.mem_append_left _ (List.mem_append_left _ (List.mem_append_left _ (List.mem_append_left _ (List.mem_append_right _ h)))))) (by decide +kernel))) (goodIn_sub (fun _ h => List.mem_append_left _ (List.mem_append_left _ (List.mem_append_left _ (List.mem_append_right _ h)))) (by decide +kernel))
set_option maxRecDepth 20000 in
theorem gL_law_L_count : GoodIn wsL_law (va_wsS RL 248 yL_count wsL_count) := goodIn_app (goodIn_of _ (by decide +kernel)) ggL_law_L_count
set_option maxRecDepth 20000 in
theorem ggL_law_X9_count : GoodIn wsL_law wsX9_count := goodIn_ca (goodIn_r _ [1325, 193, 132, 235, 197, 198, 5, 199, 1326, 1327, 1328, 1329, 565, 566, 567, 568, 1377, 1378, 1379, 1380, 1381, 1382, 1383, 1384, 1385, 1386, 1387, 1388, 1389, 1390, 1391, 1392, 1393, 1394, 1395, 1396] (by decide +kernel) (by decide +kernel)) (goodIn_sub (fun _ h => List.mem_append_left _ (List.mem_append_left _ (List.mem_append_left _ (List.mem_append_left _ (List.mem_append_left _ (List.mem_append_right _ h)))))) (by decide +kernel))
set_option maxRecDepth 20000 in
theorem gL_law_X9_count : GoodIn wsL_law (wsV RL 250 RX9 yX9_count wsX9_count) := goodIn_app (goodIn_of _ (by decide +kernel)) ggL_law_X9_count
set_option maxHeartbeats 4000000 in
set_option maxRecDepth 100000 in
theorem lc_2405 {p : Program} {e : Env} {s : State} {m : MethodId} {below : List Frame} {meth : Method} {c : Code} (l : Launch) (hfl : l.stackTraces = false) {b L : Nat} {xs : Nat → Int32} {Q : State → Prop} (C0 : lw_At p s m meth c b L xs) {G : zG} {ad : Nat → Nat} {σ' : zs} (C1 S1 : Nat) (hC : C1 + 28 ≤ 601024) (hS1 : S1 + 2612 ≤ 7293034) (K23 : zs → Int32 → Option (Int32 × zs)) (hK23 : ∀ (σ : zs) (v4 : Int32) (H : Heap) (locs : List Loc) (ls : Array Slot), K23 σ v4 = some (1, σ') → xB (fun q : Nat => s.heap.size ≤ q) s G ad σ H locs → lv_has ls 7 [(0, .ref b), (1, .ref (ad 0)), (2, .ref (ad 65)), (3, .ref (ad 75)), (4, .int v4)] → W p l e room_1 s m #[Value.ref b] below meth c H locs (C1 + 28) (S1 + 2612) Q (F0 m 23 ls [])) (σ : zs) (v4 : Int32) (H : Heap) (locs : List Loc) (ls : Array Slot) (hf : f_L_law_2405 L xs K23 σ v4 = some (1, σ')) (B : xB (fun q : Nat => s.heap.size ≤ q) s G ad σ H locs) (hl : lv_has ls 7 [(0, .ref b), (1, .ref (ad 0)), (2, .ref (ad 65)), (3, .ref (ad 75)), (4, .int v4)]) : W p l e room_1 s m #[Value.ref b] below meth c H locs C1 S1 Q (F0 m 2405 ls []) := by
  obtain ⟨hx, hb, hr, hml, hown, hts0, hX, hbl, hlocks, hgv⟩ := id C0
  have hts := fun w h => hts0 w (wsL_law_in w h)
  have hbA : ¬ (fun q : Nat => s.heap.size ≤ q) b := Nat.not_le.mpr hbl
  unfold f_L_law_2405 at hf
  refine lv_aload_n hx hb dL_law_2405 rfl (lv_at hl 1 rfl) ?_
  refine lv_aload_n hx hb dL_law_2406 rfl (lv_at hl 0 rfl) ?_
  refine lv_iload hx hb dL_law_2407 (lv_at hl 4 rfl) ?_
  refine lv_iconst (v := (1 : Int32)) hx hb dL_law_2409 (by decide) ?_
  refine lv_iadd hx hb dL_law_2410 ?_
  obtain ⟨hg, hf⟩ := zg_some hf
  refine va_sld hx hb hX hbl hbA (xS B) (zin_ok hg) dL_law_2411 ?_
  refine lv_aload_n hx hb dL_law_2412 rfl (lv_at hl 3 rfl) ?_
  obtain ⟨r2, σ3, hu1, hf⟩ := zb_some hf
  refine x_i B (fun nb a g hs Bz => vx_runSW (As := [.ref (ad 0), .int (xs (v4 + (1 : Int32)).toNatClampNeg), .ref (ad 75)]) (rest := []) ⟨hx, hb, hml, hown, hts⟩ (c_L_count_0_75 l hfl hu1 _ nb a g hs) (vx_cwSW 3 hts gL_law_L_count rfl rfl rfl (by decide +kernel) ⟨Nat.le_of_ble_eq_true rfl, Nat.le_of_ble_eq_true rfl⟩) (z_preS Bz) rfl rfl hl.1 rfl (lv_room (Nat.le_of_ble_eq_true rfl)) dL_law_2413 ⟨(show C1 + 1 ≤ 601024 by omega), (show S1 + 6 ≤ 7293034 by omega)⟩) (fun H locs B => ?_)
  refine lv_istore (lv' := [(5, .int r2), (0, .ref b), (1, .ref (ad 0)), (2, .ref (ad 65)), (3, .ref (ad 75)), (4, .int v4)]) hx hb dL_law_2416 hl (by decide) rfl (fun ls hl => ?_)
  refine lv_aload_n hx hb dL_law_2418 rfl (lv_at hl 3 rfl) ?_
  refine lv_aload_n hx hb dL_law_2419 rfl (lv_at hl 1 rfl) ?_
  refine lv_iload hx hb dL_law_2420 (lv_at hl 5 rfl) ?_
  refine lv_iconst (v := (1 : Int32)) hx hb dL_law_2422 (by decide) ?_
  refine lv_iadd hx hb dL_law_2423 ?_
  obtain ⟨hg, hf⟩ := zg_some hf
  refine va_sld hx hb hX hbl hbA (xS B) (zin_ok hg) dL_law_2424 ?_
  obtain ⟨r5, σ6, hu4, hf⟩ := zb_some hf
  refine x_i B (fun nb a g hs Bz => va_runV (As := [.int (xs (v4 + (1 : Int32)).toNatClampNeg)]) (rest := []) ⟨hx, hb, hml, hown, hts⟩ (c_X9_count l hu4 _ nb a g hs) (cwV 1 hts gL_law_X9_count rfl rfl rfl (by decide +kernel) ⟨Nat.le_of_ble_eq_true rfl, Nat.le_of_ble_eq_true rfl⟩) (x_preV Bz (by decide) (fun _ => rfl) rfl) rfl rfl hl.1 rfl (lv_room (Nat.le_of_ble_eq_true rfl)) dL_law_2425 ⟨(show C1 + 1 + 0 ≤ 601024 by omega), (show S1 + 6 + 0 ≤ 7293034 by omega)⟩) (fun H locs B => ?_)
  refine lv_istore (lv' := [(6, .int r5), (5, .int r2), (0, .ref b), (1, .ref (ad 0)), (2, .ref (ad 65)), (3, .ref (ad 75)), (4, .int v4)]) hx hb dL_law_2428 hl (by decide) rfl (fun ls hl => ?_)
  refine lv_aload_n hx hb dL_law_2430 rfl (lv_at hl 4 rfl) ?_
  obtain ⟨r8, σ9, hu7, hf⟩ := zb_some hf
  refine x_i B (fun nb a g hs Bz => va_runV (As := []) (rest := []) ⟨hx, hb, hml, hown, hts⟩ (c_X9_thrown l hu7 _ nb a g hs) (cwV 0 hts gL_law_X9_thrown rfl rfl rfl (by decide +kernel) ⟨Nat.le_of_ble_eq_true rfl, Nat.le_of_ble_eq_true rfl⟩) (x_preV Bz (by decide) (fun _ => rfl) rfl) rfl rfl hl.1 rfl (lv_room (Nat.le_of_ble_eq_true rfl)) dL_law_2431 ⟨(show C1 + 1 + 0 + 0 ≤ 601024 by omega), (show S1 + 6 + 0 + 0 ≤ 7293034 by omega)⟩) (fun H locs B => ?_)
  refine lv_iload hx hb dL_law_2434 (lv_at hl 1 rfl) ?_
  refine lv_icmp_eq (tgt := 2441) hx hb dL_law_2436 (by decide) (fun hc => ?_) (fun hc => ?_)
  · have hf := zif_t hc hf
    refine lv_iload hx hb dL_law_2441 (lv_at hl 1 rfl) ?_
    refine lv_if_ne (tgt := 2458) hx hb dL_law_2443 (by decide) (fun hc => ?_) (fun hc => ?_)
    · have hf := zif_f hc hf
      refine lv_goto (tgt := 2518) hx hb dL_law_2458 (by decide) ?_
      refine lv_iinc (v := (v4 + (5 : Int32))) (lv' := [(4, .int (v4 + (5 : Int32))), (6, .int r5), (5, .int r2), (0, .ref b), (1, .ref (ad 0)), (2, .ref (ad 65)), (3, .ref (ad 75))]) hx hb dL_law_2518 hl (k := 6) rfl (zc1 (by decide)) (by decide) rfl (fun ls hl => ?_)
      refine lv_goto (tgt := 23) hx hb dL_law_2521 (by decide) ?_
      refine W.widen (k := C1 + 28) (n := S1 + 2612) (show C1 + 1 + 0 + 0 ≤ C1 + 28 by omega) (show S1 + 6 + 0 + 0 ≤ S1 + 2612 by omega) ?_
      exact hK23 _ _ _ _ _ hf B (lv_sub hl [3, 4, 5, 6, 0] rfl)
    · have hf := zif_t hc hf
      refine lv_aload_n hx hb dL_law_2446 rfl (lv_at hl 5 rfl) ?_
      refine lv_iconst (v := (0 : Int32)) hx hb dL_law_2447 (by decide) ?_
      obtain ⟨hg, hf⟩ := zg_some hf
      refine x_lald hx hb B 75 (by decide) (fun _ => rfl) (zin_ok hg) dL_law_2448 ?_
      refine lv_iload hx hb dL_law_2449 (lv_at hl 0 rfl) ?_
      refine lv_i2l (v := r5.toInt64) hx hb dL_law_2451 rfl ?_
      refine W.lcmp hx hb dL_law_2452 ?_
      refine lv_if_eq (tgt := 2458) hx hb dL_law_2453 (by decide) (fun hc => ?_) (fun hc => ?_)
      · have hf := zif_t hc hf
        refine lv_goto (tgt := 2518) hx hb dL_law_2458 (by decide) ?_
        refine lv_iinc (v := (v4 + (5 : Int32))) (lv' := [(4, .int (v4 + (5 : Int32))), (6, .int r5), (5, .int r2), (0, .ref b), (1, .ref (ad 0)), (2, .ref (ad 65)), (3, .ref (ad 75))]) hx hb dL_law_2518 hl (k := 6) rfl (zc1 (by decide)) (by decide) rfl (fun ls hl => ?_)
        refine lv_goto (tgt := 23) hx hb dL_law_2521 (by decide) ?_
        refine W.widen (k := C1 + 28) (n := S1 + 2612) (show C1 + 1 + 0 + 0 ≤ C1 + 28 by omega) (show S1 + 6 + 0 + 0 ≤ S1 + 2612 by omega) ?_
        exact hK23 _ _ _ _ _ hf B (lv_sub hl [3, 4, 5, 6, 0] rfl)
      · have hf := zif_f hc hf
        refine lv_iconst (v := (0 : Int32)) hx hb dL_law_2456 (by decide) ?_
        exact absurd (show (0 : Int32) = 1 from congrArg Prod.fst (Option.some.inj hf)) (by decide)
  · have hf := zif_f hc hf
    refine lv_iconst (v := (0 : Int32)) hx hb dL_law_2439 (by decide) ?_
    exact absurd (show (0 : Int32) = 1 from congrArg Prod.fst (Option.some.inj hf)) (by decide)
theorem dL_law_2461 : decode cL_law 2461 = .ok (.aload_n 1, 1) := by decide +kernel
theorem dL_law_2462 : decode cL_law 2462 = .ok (.invokevirtual 251, 3) := by decide +kernel
theorem dL_law_2465 : decode cL_law 2465 = .ok (.aload_n 2, 1) := by decide +kernel
theorem dL_law_2466 : decode cL_law 2466 = .ok (.invokevirtual 254, 3) := by decide +kernel
theorem dL_law_2469 : decode cL_law 2469 = .ok (.if_icmp .eq 49, 3) := by decide +kernel
theorem dL_law_2472 : decode cL_law 2472 = .ok (.iconst 0, 1) := by decide +kernel
set_option maxRecDepth 20000 in
theorem ggL_law_X8_save : GoodIn wsL_law wsX8_save := goodIn_r _ [1333, 17, 16, 18, 153, 154, 1334, 1335, 1336, 15, 1337, 43, 47, 51, 52, 53, 1003, 54, 996, 1338, 1339, 1340, 42, 1341, 180, 58, 59, 60, 61, 62, 63, 64, 65, 66, 67, 1342, 2, 1343, 1344, 399, 400, 401, 1345, 1346, 1347, 46, 1348, 1084, 78, 79, 1128, 80, 81, 82, 1349, 1350, 1351, 50, 1352, 86, 947, 949, 950, 1369, 1370, 1371, 1372, 1373, 1374, 1375, 1376, 1397, 1398, 1399, 1400, 1401, 1402, 1403, 1404, 1424, 1425, 1426, 1427, 1428, 1429, 1430, 1431, 1432, 1433, 1434, 1435, 1436, 1437, 1438, 1439, 1440, 1441, 1442, 1443, 1444, 1445, 1446] (by decide +kernel) (by decide +kernel)
set_option maxRecDepth 20000 in
theorem gL_law_X8_save : GoodIn wsL_law (wsV RL 251 RX8 yX8_save wsX8_save) := goodIn_app (goodIn_of _ (by decide +kernel)) ggL_law_X8_save
set_option maxRecDepth 20000 in
theorem ggL_law_X9_save : GoodIn wsL_law wsX9_save := goodIn_ca (goodIn_r _ [1356, 193, 133, 132, 1357, 1377, 1378, 1379, 1380, 1381, 1382, 1383, 1384, 1385, 1386, 1387, 1388, 1389, 1390, 1391, 1392, 1393, 1394, 1395, 1396] (by decide +kernel) (by decide +kernel)) (goodIn_sub (fun _ h => List.mem_append_left _ (List.mem_append_left _ (List.mem_append_left _ (List.mem_append_left _ (List.mem_append_left _ (List.mem_append_right _ h)))))) (by decide +kernel))
set_option maxRecDepth 20000 in
theorem gL_law_X9_save : GoodIn wsL_law (wsV RL 254 RX9 yX9_save wsX9_save) := goodIn_app (goodIn_of _ (by decide +kernel)) ggL_law_X9_save
set_option maxHeartbeats 4000000 in
set_option maxRecDepth 100000 in
theorem lc_2461 {p : Program} {e : Env} {s : State} {m : MethodId} {below : List Frame} {meth : Method} {c : Code} (l : Launch) (hfl : l.stackTraces = false) {b L : Nat} {xs : Nat → Int32} {Q : State → Prop} (C0 : lw_At p s m meth c b L xs) {G : zG} {ad : Nat → Nat} {σ' : zs} (C1 S1 : Nat) (hC : C1 + 28 ≤ 601024) (hS1 : S1 + 2612 ≤ 7293034) (K23 : zs → Int32 → Option (Int32 × zs)) (hK23 : ∀ (σ : zs) (v4 : Int32) (H : Heap) (locs : List Loc) (ls : Array Slot), K23 σ v4 = some (1, σ') → xB (fun q : Nat => s.heap.size ≤ q) s G ad σ H locs → lv_has ls 7 [(0, .ref b), (1, .ref (ad 0)), (2, .ref (ad 65)), (3, .ref (ad 75)), (4, .int v4)] → W p l e room_1 s m #[Value.ref b] below meth c H locs (C1 + 28) (S1 + 2612) Q (F0 m 23 ls [])) (σ : zs) (v4 : Int32) (H : Heap) (locs : List Loc) (ls : Array Slot) (hf : f_L_law_2461 L xs K23 σ v4 = some (1, σ')) (B : xB (fun q : Nat => s.heap.size ≤ q) s G ad σ H locs) (hl : lv_has ls 7 [(0, .ref b), (1, .ref (ad 0)), (2, .ref (ad 65)), (3, .ref (ad 75)), (4, .int v4)]) : W p l e room_1 s m #[Value.ref b] below meth c H locs C1 S1 Q (F0 m 2461 ls []) := by
  obtain ⟨hx, hb, hr, hml, hown, hts0, hX, hbl, hlocks, hgv⟩ := id C0
  have hts := fun w h => hts0 w (wsL_law_in w h)
  have hbA : ¬ (fun q : Nat => s.heap.size ≤ q) b := Nat.not_le.mpr hbl
  unfold f_L_law_2461 at hf
  refine lv_aload_n hx hb dL_law_2461 rfl (lv_at hl 1 rfl) ?_
  obtain ⟨r2, σ3, hu1, hf⟩ := zb_some hf
  refine x_i B (fun nb a g hs Bz => va_runV (As := []) (rest := []) ⟨hx, hb, hml, hown, hts⟩ (c_X8_save l hu1 _ nb a g hs) (cwV 0 hts gL_law_X8_save rfl rfl rfl (by decide +kernel) ⟨Nat.le_of_ble_eq_true rfl, Nat.le_of_ble_eq_true rfl⟩) (x_preV Bz (by decide) (fun _ => rfl) rfl) rfl rfl hl.1 rfl (lv_room (Nat.le_of_ble_eq_true rfl)) dL_law_2462 ⟨(show C1 + 0 ≤ 601024 by omega), (show S1 + 0 ≤ 7293034 by omega)⟩) (fun H locs B => ?_)
  refine lv_aload_n hx hb dL_law_2465 rfl (lv_at hl 2 rfl) ?_
  obtain ⟨r5, σ6, hu4, hf⟩ := zb_some hf
  refine x_i B (fun nb a g hs Bz => va_runV (As := []) (rest := [.int r2]) ⟨hx, hb, hml, hown, hts⟩ (c_X9_save l hu4 _ nb a g hs) (cwV 0 hts gL_law_X9_save rfl rfl rfl (by decide +kernel) ⟨Nat.le_of_ble_eq_true rfl, Nat.le_of_ble_eq_true rfl⟩) (x_preV Bz (by decide) (fun _ => rfl) rfl) rfl rfl hl.1 rfl (lv_room (Nat.le_of_ble_eq_true rfl)) dL_law_2466 ⟨(show C1 + 0 + 0 ≤ 601024 by omega), (show S1 + 0 + 0 ≤ 7293034 by omega)⟩) (fun H locs B => ?_)
  refine lv_icmp_eq (tgt := 2518) hx hb dL_law_2469 (by decide) (fun hc => ?_) (fun hc => ?_)
  · have hf := zif_t hc hf
    refine lv_iinc (v := (v4 + (5 : Int32))) (lv' := [(4, .int (v4 + (5 : Int32))), (0, .ref b), (1, .ref (ad 0)), (2, .ref (ad 65)), (3, .ref (ad 75))]) hx hb dL_law_2518 hl (k := 4) rfl (zc1 (by decide)) (by decide) rfl (fun ls hl => ?_)
    refine lv_goto (tgt := 23) hx hb dL_law_2521 (by decide) ?_
    refine W.widen (k := C1 + 28) (n := S1 + 2612) (show C1 + 0 + 0 ≤ C1 + 28 by omega) (show S1 + 0 + 0 ≤ S1 + 2612 by omega) ?_
    exact hK23 _ _ _ _ _ hf B (lv_sub hl [1, 2, 3, 4, 0] rfl)
  · have hf := zif_f hc hf
    refine lv_iconst (v := (0 : Int32)) hx hb dL_law_2472 (by decide) ?_
    exact absurd (show (0 : Int32) = 1 from congrArg Prod.fst (Option.some.inj hf)) (by decide)
theorem dL_law_2474 : decode cL_law 2474 = .ok (.aload_n 1, 1) := by decide +kernel
theorem dL_law_2475 : decode cL_law 2475 = .ok (.aload_n 3, 1) := by decide +kernel
theorem dL_law_2476 : decode cL_law 2476 = .ok (.invokestatic 255, 3) := by decide +kernel
theorem dL_law_2479 : decode cL_law 2479 = .ok (.istore 5, 2) := by decide +kernel
theorem dL_law_2481 : decode cL_law 2481 = .ok (.aload_n 2, 1) := by decide +kernel
theorem dL_law_2482 : decode cL_law 2482 = .ok (.invokevirtual 258, 3) := by decide +kernel
theorem dL_law_2485 : decode cL_law 2485 = .ok (.istore 6, 2) := by decide +kernel
theorem dL_law_2487 : decode cL_law 2487 = .ok (.aload_n 2, 1) := by decide +kernel
theorem dL_law_2488 : decode cL_law 2488 = .ok (.invokevirtual 139, 3) := by decide +kernel
theorem dL_law_2491 : decode cL_law 2491 = .ok (.iload 5, 2) := by decide +kernel
theorem dL_law_2493 : decode cL_law 2493 = .ok (.if_icmp .eq 5, 3) := by decide +kernel
theorem dL_law_2496 : decode cL_law 2496 = .ok (.iconst 0, 1) := by decide +kernel
theorem dL_law_2498 : decode cL_law 2498 = .ok (.iload 5, 2) := by decide +kernel
theorem dL_law_2500 : decode cL_law 2500 = .ok (.ifCond .ne 15, 3) := by decide +kernel
theorem dL_law_2503 : decode cL_law 2503 = .ok (.aload_n 3, 1) := by decide +kernel
theorem dL_law_2504 : decode cL_law 2504 = .ok (.iconst 0, 1) := by decide +kernel
theorem dL_law_2505 : decode cL_law 2505 = .ok (.laload, 1) := by decide +kernel
theorem dL_law_2506 : decode cL_law 2506 = .ok (.iload 6, 2) := by decide +kernel
theorem dL_law_2508 : decode cL_law 2508 = .ok (.i2l, 1) := by decide +kernel
theorem dL_law_2509 : decode cL_law 2509 = .ok (.lcmp, 1) := by decide +kernel
theorem dL_law_2510 : decode cL_law 2510 = .ok (.ifCond .eq 5, 3) := by decide +kernel
theorem dL_law_2513 : decode cL_law 2513 = .ok (.iconst 0, 1) := by decide +kernel
theorem dL_law_2515 : decode cL_law 2515 = .ok (.goto 3, 3) := by decide +kernel
set_option maxRecDepth 20000 in
theorem ggL_law_L_restore : GoodIn wsL_law wsL_restore := goodIn_ca (goodIn_ca (goodIn_r _ [1360, 148, 1361, 1362, 1363, 2, 1364, 18, 16, 17, 153, 154, 171, 172, 173, 174, 175, 1334, 1335, 1336, 15, 1337, 43, 47, 51, 52, 53, 1003, 54, 996, 1338, 1339, 1340, 42, 1341, 180, 58, 59, 60, 61, 62, 63, 64, 65, 66, 67, 1342, 1343, 1344, 399, 400, 401, 1345, 1346, 1347, 46, 1348, 1084, 78, 79, 1128, 80, 81, 82, 1349, 1350, 1351, 50, 1352, 86, 947, 949, 950, 1369, 1370, 1371, 1372, 1373, 1374, 1375, 1376, 1397, 1398, 1399, 1400, 1401, 1402, 1403, 1404, 1424, 1425, 1426, 1427, 1428, 1429, 1430, 1431, 1432, 1433, 1434, 1435, 1436, 1437, 1438, 1439, 1440, 1441, 1442, 1443, 1444, 1445, 1446] (by decide +kernel) (by decide +kernel)) (goodIn_sub (fun _ h => List.mem_append_left _ (List.mem_append_left _ (List.mem_append_left _ (List.mem_append_left _ (List.mem_append_left _ (List.mem_append_right _ h)))))) (by decide +kernel))) (goodIn_sub (fun _ h => List.mem_append_left _ (List.mem_append_left _ (List.mem_append_right _ h))) (by decide +kernel))
set_option maxRecDepth 20000 in
theorem gL_law_L_restore : GoodIn wsL_law (va_wsS RL 255 yL_restore wsL_restore) := goodIn_app (goodIn_of _ (by decide +kernel)) ggL_law_L_restore
set_option maxRecDepth 20000 in
theorem ggL_law_X9_restore : GoodIn wsL_law wsX9_restore := goodIn_ca (goodIn_r _ [1368, 1357, 193, 132, 133, 1377, 1378, 1379, 1380, 1381, 1382, 1383, 1384, 1385, 1386, 1387, 1388, 1389, 1390, 1391, 1392, 1393, 1394, 1395, 1396] (by decide +kernel) (by decide +kernel)) (goodIn_sub (fun _ h => List.mem_append_left _ (List.mem_append_left _ (List.mem_append_left _ (List.mem_append_left _ (List.mem_append_left _ (List.mem_append_right _ h)))))) (by decide +kernel))
set_option maxRecDepth 20000 in
theorem gL_law_X9_restore : GoodIn wsL_law (wsV RL 258 RX9 yX9_restore wsX9_restore) := goodIn_app (goodIn_of _ (by decide +kernel)) ggL_law_X9_restore
set_option maxHeartbeats 4000000 in
set_option maxRecDepth 100000 in
theorem lc_2474 {p : Program} {e : Env} {s : State} {m : MethodId} {below : List Frame} {meth : Method} {c : Code} (l : Launch) (hfl : l.stackTraces = false) {b L : Nat} {xs : Nat → Int32} {Q : State → Prop} (C0 : lw_At p s m meth c b L xs) {G : zG} {ad : Nat → Nat} {σ' : zs} (C1 S1 : Nat) (hC : C1 + 28 ≤ 601024) (hS1 : S1 + 2612 ≤ 7293034) (K23 : zs → Int32 → Option (Int32 × zs)) (hK23 : ∀ (σ : zs) (v4 : Int32) (H : Heap) (locs : List Loc) (ls : Array Slot), K23 σ v4 = some (1, σ') → xB (fun q : Nat => s.heap.size ≤ q) s G ad σ H locs → lv_has ls 7 [(0, .ref b), (1, .ref (ad 0)), (2, .ref (ad 65)), (3, .ref (ad 75)), (4, .int v4)] → W p l e room_1 s m #[Value.ref b] below meth c H locs (C1 + 28) (S1 + 2612) Q (F0 m 23 ls [])) (σ : zs) (v4 : Int32) (H : Heap) (locs : List Loc) (ls : Array Slot) (hf : f_L_law_2474 L xs K23 σ v4 = some (1, σ')) (B : xB (fun q : Nat => s.heap.size ≤ q) s G ad σ H locs) (hl : lv_has ls 7 [(0, .ref b), (1, .ref (ad 0)), (2, .ref (ad 65)), (3, .ref (ad 75)), (4, .int v4)]) : W p l e room_1 s m #[Value.ref b] below meth c H locs C1 S1 Q (F0 m 2474 ls []) := by
  obtain ⟨hx, hb, hr, hml, hown, hts0, hX, hbl, hlocks, hgv⟩ := id C0
  have hts := fun w h => hts0 w (wsL_law_in w h)
  have hbA : ¬ (fun q : Nat => s.heap.size ≤ q) b := Nat.not_le.mpr hbl
  unfold f_L_law_2474 at hf
  refine lv_aload_n hx hb dL_law_2474 rfl (lv_at hl 1 rfl) ?_
  refine lv_aload_n hx hb dL_law_2475 rfl (lv_at hl 3 rfl) ?_
  obtain ⟨r2, σ3, hu1, hf⟩ := zb_some hf
  refine x_i B (fun nb a g hs Bz => vx_runSW (As := [.ref (ad 0), .ref (ad 75)]) (rest := []) ⟨hx, hb, hml, hown, hts⟩ (c_L_restore_0_75 l hfl hu1 _ nb a g hs) (vx_cwSW 2 hts gL_law_L_restore rfl rfl rfl (by decide +kernel) ⟨Nat.le_of_ble_eq_true rfl, Nat.le_of_ble_eq_true rfl⟩) (z_preS Bz) rfl rfl hl.1 rfl (lv_room (Nat.le_of_ble_eq_true rfl)) dL_law_2476 ⟨(show C1 + 1 ≤ 601024 by omega), (show S1 + 6 ≤ 7293034 by omega)⟩) (fun H locs B => ?_)
  refine lv_istore (lv' := [(5, .int r2), (0, .ref b), (1, .ref (ad 0)), (2, .ref (ad 65)), (3, .ref (ad 75)), (4, .int v4)]) hx hb dL_law_2479 hl (by decide) rfl (fun ls hl => ?_)
  refine lv_aload_n hx hb dL_law_2481 rfl (lv_at hl 3 rfl) ?_
  obtain ⟨r5, σ6, hu4, hf⟩ := zb_some hf
  refine x_i B (fun nb a g hs Bz => va_runV (As := []) (rest := []) ⟨hx, hb, hml, hown, hts⟩ (c_X9_restore l hu4 _ nb a g hs) (cwV 0 hts gL_law_X9_restore rfl rfl rfl (by decide +kernel) ⟨Nat.le_of_ble_eq_true rfl, Nat.le_of_ble_eq_true rfl⟩) (x_preV Bz (by decide) (fun _ => rfl) rfl) rfl rfl hl.1 rfl (lv_room (Nat.le_of_ble_eq_true rfl)) dL_law_2482 ⟨(show C1 + 1 + 0 ≤ 601024 by omega), (show S1 + 6 + 0 ≤ 7293034 by omega)⟩) (fun H locs B => ?_)
  refine lv_istore (lv' := [(6, .int r5), (5, .int r2), (0, .ref b), (1, .ref (ad 0)), (2, .ref (ad 65)), (3, .ref (ad 75)), (4, .int v4)]) hx hb dL_law_2485 hl (by decide) rfl (fun ls hl => ?_)
  refine lv_aload_n hx hb dL_law_2487 rfl (lv_at hl 4 rfl) ?_
  obtain ⟨r8, σ9, hu7, hf⟩ := zb_some hf
  refine x_i B (fun nb a g hs Bz => va_runV (As := []) (rest := []) ⟨hx, hb, hml, hown, hts⟩ (c_X9_thrown l hu7 _ nb a g hs) (cwV 0 hts gL_law_X9_thrown rfl rfl rfl (by decide +kernel) ⟨Nat.le_of_ble_eq_true rfl, Nat.le_of_ble_eq_true rfl⟩) (x_preV Bz (by decide) (fun _ => rfl) rfl) rfl rfl hl.1 rfl (lv_room (Nat.le_of_ble_eq_true rfl)) dL_law_2488 ⟨(show C1 + 1 + 0 + 0 ≤ 601024 by omega), (show S1 + 6 + 0 + 0 ≤ 7293034 by omega)⟩) (fun H locs B => ?_)
  refine lv_iload hx hb dL_law_2491 (lv_at hl 1 rfl) ?_
  refine lv_icmp_eq (tgt := 2498) hx hb dL_law_2493 (by decide) (fun hc => ?_) (fun hc => ?_)
  · have hf := zif_t hc hf
    refine lv_iload hx hb dL_law_2498 (lv_at hl 1 rfl) ?_
    refine lv_if_ne (tgt := 2515) hx hb dL_law_2500 (by decide) (fun hc => ?_) (fun hc => ?_)
    · have hf := zif_f hc hf
      refine lv_goto (tgt := 2518) hx hb dL_law_2515 (by decide) ?_
      refine lv_iinc (v := (v4 + (5 : Int32))) (lv' := [(4, .int (v4 + (5 : Int32))), (6, .int r5), (5, .int r2), (0, .ref b), (1, .ref (ad 0)), (2, .ref (ad 65)), (3, .ref (ad 75))]) hx hb dL_law_2518 hl (k := 6) rfl (zc1 (by decide)) (by decide) rfl (fun ls hl => ?_)
      refine lv_goto (tgt := 23) hx hb dL_law_2521 (by decide) ?_
      refine W.widen (k := C1 + 28) (n := S1 + 2612) (show C1 + 1 + 0 + 0 ≤ C1 + 28 by omega) (show S1 + 6 + 0 + 0 ≤ S1 + 2612 by omega) ?_
      exact hK23 _ _ _ _ _ hf B (lv_sub hl [3, 4, 5, 6, 0] rfl)
    · have hf := zif_t hc hf
      refine lv_aload_n hx hb dL_law_2503 rfl (lv_at hl 5 rfl) ?_
      refine lv_iconst (v := (0 : Int32)) hx hb dL_law_2504 (by decide) ?_
      obtain ⟨hg, hf⟩ := zg_some hf
      refine x_lald hx hb B 75 (by decide) (fun _ => rfl) (zin_ok hg) dL_law_2505 ?_
      refine lv_iload hx hb dL_law_2506 (lv_at hl 0 rfl) ?_
      refine lv_i2l (v := r5.toInt64) hx hb dL_law_2508 rfl ?_
      refine W.lcmp hx hb dL_law_2509 ?_
      refine lv_if_eq (tgt := 2515) hx hb dL_law_2510 (by decide) (fun hc => ?_) (fun hc => ?_)
      · have hf := zif_t hc hf
        refine lv_goto (tgt := 2518) hx hb dL_law_2515 (by decide) ?_
        refine lv_iinc (v := (v4 + (5 : Int32))) (lv' := [(4, .int (v4 + (5 : Int32))), (6, .int r5), (5, .int r2), (0, .ref b), (1, .ref (ad 0)), (2, .ref (ad 65)), (3, .ref (ad 75))]) hx hb dL_law_2518 hl (k := 6) rfl (zc1 (by decide)) (by decide) rfl (fun ls hl => ?_)
        refine lv_goto (tgt := 23) hx hb dL_law_2521 (by decide) ?_
        refine W.widen (k := C1 + 28) (n := S1 + 2612) (show C1 + 1 + 0 + 0 ≤ C1 + 28 by omega) (show S1 + 6 + 0 + 0 ≤ S1 + 2612 by omega) ?_
        exact hK23 _ _ _ _ _ hf B (lv_sub hl [3, 4, 5, 6, 0] rfl)
      · have hf := zif_f hc hf
        refine lv_iconst (v := (0 : Int32)) hx hb dL_law_2513 (by decide) ?_
        exact absurd (show (0 : Int32) = 1 from congrArg Prod.fst (Option.some.inj hf)) (by decide)
  · have hf := zif_f hc hf
    refine lv_iconst (v := (0 : Int32)) hx hb dL_law_2496 (by decide) ?_
    exact absurd (show (0 : Int32) = 1 from congrArg Prod.fst (Option.some.inj hf)) (by decide)
