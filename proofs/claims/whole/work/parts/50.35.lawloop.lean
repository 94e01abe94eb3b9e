theorem dL_law_23 : decode cL_law 23 = .ok (.iload 4, 2) := by decide +kernel
theorem dL_law_25 : decode cL_law 25 = .ok (.aload_n 0, 1) := by decide +kernel
theorem dL_law_26 : decode cL_law 26 = .ok (.arraylength, 1) := by decide +kernel
theorem dL_law_27 : decode cL_law 27 = .ok (.iconst 5, 1) := by decide +kernel
theorem dL_law_28 : decode cL_law 28 = .ok (.isub, 1) := by decide +kernel
theorem dL_law_29 : decode cL_law 29 = .ok (.if_icmp .gt 2495, 3) := by decide +kernel
theorem dL_law_32 : decode cL_law 32 = .ok (.aload_n 0, 1) := by decide +kernel
theorem dL_law_33 : decode cL_law 33 = .ok (.iload 4, 2) := by decide +kernel
theorem dL_law_35 : decode cL_law 35 = .ok (.iaload, 1) := by decide +kernel
theorem dL_law_36 : decode cL_law 36 = .ok (.bipush 63, 2) := by decide +kernel
theorem dL_law_38 : decode cL_law 38 = .ok (.iand, 1) := by decide +kernel
theorem dL_law_39 : decode cL_law 39 = .ok (.tableswitch 2479 0 36 #[161, 241, 297, 365, 378, 458, 526, 594, 662, 742, 810, 878, 934, 990, 1046, 1102, 1194, 1262, 1318, 1374, 1430, 1514, 1527, 1595, 1651, 1759, 1839, 1919, 1987, 2043, 2111, 2167, 2235, 2291, 2366, 2422, 2435], 161) := by decide +kernel
theorem dL_law_2524 : decode cL_law 2524 = .ok (.iconst 1, 1) := by decide +kernel
theorem dL_law_2525 : decode cL_law 2525 = .ok (.ireturn, 1) := by decide +kernel
set_option maxHeartbeats 8000000 in
set_option maxRecDepth 100000 in
theorem law_loop {p : Program} {e : Env} {s : State} {m : MethodId} {below : List Frame} {meth : Method} {c : Code} (l : Launch) (hfl : l.stackTraces = false) {b L : Nat} {xs : Nat → Int32} (C0 : lw_At p s m meth c b L xs) {G : zG} {ad : Nat → Nat} {σ' : zs} (c0 s0 : Nat) (hc0 : c0 ≤ 1000) (hs0 : s0 ≤ 10000) : ∀ (n k : Nat), n + k = 600 → ∀ (σ : zs) (v4 : Int32) (H : Heap) (locs : List Loc) (ls : Array Slot), zlp1 (f_L_law_23 L xs) n σ v4 = some (1, σ') → xB (fun q : Nat => s.heap.size ≤ q) s G ad σ H locs → lv_has ls 7 [(0, .ref b), (1, .ref (ad 0)), (2, .ref (ad 65)), (3, .ref (ad 75)), (4, .int v4)] → W p l e room_1 s m #[Value.ref b] below meth c H locs (c0 + 28 * k) (s0 + 2612 * k) (lw_Z below #[Value.ref b] s) (F0 m 23 ls []) := by
  obtain ⟨hx, hb, hr, hml, hown, hts0, hX, hbl, hlocks, hgv⟩ := id C0
  have hts := fun w h => hts0 w (wsL_law_in w h)
  have hbA : ¬ (fun q : Nat => s.heap.size ≤ q) b := Nat.not_le.mpr hbl
  intro n
  induction n with
  | zero => intro k hk σ v4 H locs ls hf; cases hf
  | succ n ih0 =>
    intro k hk σ v4 H locs ls hf B hl
    have hf : f_L_law_23 L xs (zlp1 (f_L_law_23 L xs) n) σ v4 = some (1, σ') := hf
    unfold f_L_law_23 at hf
    obtain ⟨C1, hC1⟩ : ∃ z, z = c0 + 28 * k := ⟨_, rfl⟩
    obtain ⟨S1, hS1e⟩ : ∃ z, z = s0 + 2612 * k := ⟨_, rfl⟩
    rw [← hC1, ← hS1e]
    have hC : C1 + 28 ≤ 601024 := by omega
    have hS1 : S1 + 2612 ≤ 7293034 := by omega
    have ih : ∀ (σ : zs) (v4 : Int32) (H : Heap) (locs : List Loc) (ls : Array Slot), zlp1 (f_L_law_23 L xs) n σ v4 = some (1, σ') → xB (fun q : Nat => s.heap.size ≤ q) s G ad σ H locs → lv_has ls 7 [(0, .ref b), (1, .ref (ad 0)), (2, .ref (ad 65)), (3, .ref (ad 75)), (4, .int v4)] → W p l e room_1 s m #[Value.ref b] below meth c H locs (C1 + 28) (S1 + 2612) (lw_Z below #[Value.ref b] s) (F0 m 23 ls []) := by
      intro σ v4 H locs ls hf B hl
      have h := ih0 (k + 1) (by omega) σ v4 H locs ls hf B hl
      rw [show C1 + 28 = c0 + 28 * (k + 1) by omega, show S1 + 2612 = s0 + 2612 * (k + 1) by omega]
      exact h
    refine lv_iload hx hb dL_law_23 (lv_at hl 4 rfl) ?_
    refine lv_aload_n hx hb dL_law_25 rfl (lv_at hl 0 rfl) ?_
    refine va_slen hx hb hX hbl hbA (xS B) dL_law_26 ?_
    refine lv_iconst (v := (5 : Int32)) hx hb dL_law_27 (by decide) ?_
    refine lv_isub hx hb dL_law_28 ?_
    refine lv_icmp_gt (tgt := 2524) hx hb dL_law_29 (by decide) (fun hc => ?_) (fun hc => ?_)
    · refine lv_iconst (v := (1 : Int32)) hx hb dL_law_2524 (by decide) ?_
      refine va_forget (fun q hq => (xS B).2.2 q hq) ?_
      refine W.widen (k := 601024) (n := 7293034) (by omega) (by omega) ?_
      exact lw_ret hx hb hr hlocks dL_law_2525
    · have hf := zif_f hc hf
      obtain ⟨hg, hf⟩ := zg_some hf
      refine lv_aload_n hx hb dL_law_32 rfl (lv_at hl 0 rfl) ?_
      refine lv_iload hx hb dL_law_33 (lv_at hl 4 rfl) ?_
      refine va_sld hx hb hX hbl hbA (xS B) (zin_ok hg) dL_law_35 ?_
      refine lv_bipush (v := (63 : Int32)) hx hb dL_law_36 (by decide) ?_
      refine lv_iand hx hb dL_law_38 ?_
      generalize (xs v4.toNatClampNeg &&& (63 : Int32)) = sw at hf ⊢
      by_cases hc0 : sw = (0 : Int32)
      · have hf := zif_t hc0 hf
        refine lv_tableIn (off := 161) (tgt := 200) hx hb dL_law_39 (by rw [hc0]; decide) (by rw [hc0]; decide) (by rw [hc0]; rfl) (by decide) ?_
        exact lc_200 l hfl C0 C1 S1 hC hS1 _ ih _ _ _ _ _ hf B hl
      have hf := zif_f hc0 hf
      by_cases hc1 : sw = (1 : Int32)
      · have hf := zif_t hc1 hf
        refine lv_tableIn (off := 241) (tgt := 280) hx hb dL_law_39 (by rw [hc1]; decide) (by rw [hc1]; decide) (by rw [hc1]; rfl) (by decide) ?_
        exact lc_280 l hfl C0 C1 S1 hC hS1 _ ih _ _ _ _ _ hf B hl
      have hf := zif_f hc1 hf
      by_cases hc2 : sw = (2 : Int32)
      · have hf := zif_t hc2 hf
        refine lv_tableIn (off := 297) (tgt := 336) hx hb dL_law_39 (by rw [hc2]; decide) (by rw [hc2]; decide) (by rw [hc2]; rfl) (by decide) ?_
        exact lc_336 l hfl C0 C1 S1 hC hS1 _ ih _ _ _ _ _ hf B hl
      have hf := zif_f hc2 hf
      by_cases hc3 : sw = (3 : Int32)
      · have hf := zif_t hc3 hf
        refine lv_tableIn (off := 365) (tgt := 404) hx hb dL_law_39 (by rw [hc3]; decide) (by rw [hc3]; decide) (by rw [hc3]; rfl) (by decide) ?_
        exact lc_404 l hfl C0 C1 S1 hC hS1 _ ih _ _ _ _ _ hf B hl
      have hf := zif_f hc3 hf
      by_cases hc4 : sw = (4 : Int32)
      · have hf := zif_t hc4 hf
        refine lv_tableIn (off := 378) (tgt := 417) hx hb dL_law_39 (by rw [hc4]; decide) (by rw [hc4]; decide) (by rw [hc4]; rfl) (by decide) ?_
        exact lc_417 l hfl C0 C1 S1 hC hS1 _ ih _ _ _ _ _ hf B hl
      have hf := zif_f hc4 hf
      by_cases hc5 : sw = (5 : Int32)
      · have hf := zif_t hc5 hf
        refine lv_tableIn (off := 458) (tgt := 497) hx hb dL_law_39 (by rw [hc5]; decide) (by rw [hc5]; decide) (by rw [hc5]; rfl) (by decide) ?_
        exact lc_497 l hfl C0 C1 S1 hC hS1 _ ih _ _ _ _ _ hf B hl
      have hf := zif_f hc5 hf
      by_cases hc6 : sw = (6 : Int32)
      · have hf := zif_t hc6 hf
        refine lv_tableIn (off := 526) (tgt := 565) hx hb dL_law_39 (by rw [hc6]; decide) (by rw [hc6]; decide) (by rw [hc6]; rfl) (by decide) ?_
        exact lc_565 l hfl C0 C1 S1 hC hS1 _ ih _ _ _ _ _ hf B hl
      have hf := zif_f hc6 hf
      by_cases hc7 : sw = (7 : Int32)
      · have hf := zif_t hc7 hf
        refine lv_tableIn (off := 594) (tgt := 633) hx hb dL_law_39 (by rw [hc7]; decide) (by rw [hc7]; decide) (by rw [hc7]; rfl) (by decide) ?_
        exact lc_633 l hfl C0 C1 S1 hC hS1 _ ih _ _ _ _ _ hf B hl
      have hf := zif_f hc7 hf
      by_cases hc8 : sw = (8 : Int32)
      · have hf := zif_t hc8 hf
        refine lv_tableIn (off := 662) (tgt := 701) hx hb dL_law_39 (by rw [hc8]; decide) (by rw [hc8]; decide) (by rw [hc8]; rfl) (by decide) ?_
        exact lc_701 l hfl C0 C1 S1 hC hS1 _ ih _ _ _ _ _ hf B hl
      have hf := zif_f hc8 hf
      by_cases hc9 : sw = (9 : Int32)
      · have hf := zif_t hc9 hf
        refine lv_tableIn (off := 742) (tgt := 781) hx hb dL_law_39 (by rw [hc9]; decide) (by rw [hc9]; decide) (by rw [hc9]; rfl) (by decide) ?_
        exact lc_781 l hfl C0 C1 S1 hC hS1 _ ih _ _ _ _ _ hf B hl
      have hf := zif_f hc9 hf
      by_cases hc10 : sw = (10 : Int32)
      · have hf := zif_t hc10 hf
        refine lv_tableIn (off := 810) (tgt := 849) hx hb dL_law_39 (by rw [hc10]; decide) (by rw [hc10]; decide) (by rw [hc10]; rfl) (by decide) ?_
        exact lc_849 l hfl C0 C1 S1 hC hS1 _ ih _ _ _ _ _ hf B hl
      have hf := zif_f hc10 hf
      by_cases hc11 : sw = (11 : Int32)
      · have hf := zif_t hc11 hf
        refine lv_tableIn (off := 878) (tgt := 917) hx hb dL_law_39 (by rw [hc11]; decide) (by rw [hc11]; decide) (by rw [hc11]; rfl) (by decide) ?_
        exact lc_917 l hfl C0 C1 S1 hC hS1 _ ih _ _ _ _ _ hf B hl
      have hf := zif_f hc11 hf
      by_cases hc12 : sw = (12 : Int32)
      · have hf := zif_t hc12 hf
        refine lv_tableIn (off := 934) (tgt := 973) hx hb dL_law_39 (by rw [hc12]; decide) (by rw [hc12]; decide) (by rw [hc12]; rfl) (by decide) ?_
        exact lc_973 l hfl C0 C1 S1 hC hS1 _ ih _ _ _ _ _ hf B hl
      have hf := zif_f hc12 hf
      by_cases hc13 : sw = (13 : Int32)
      · have hf := zif_t hc13 hf
        refine lv_tableIn (off := 990) (tgt := 1029) hx hb dL_law_39 (by rw [hc13]; decide) (by rw [hc13]; decide) (by rw [hc13]; rfl) (by decide) ?_
        exact lc_1029 l hfl C0 C1 S1 hC hS1 _ ih _ _ _ _ _ hf B hl
      have hf := zif_f hc13 hf
      by_cases hc14 : sw = (14 : Int32)
      · have hf := zif_t hc14 hf
        refine lv_tableIn (off := 1046) (tgt := 1085) hx hb dL_law_39 (by rw [hc14]; decide) (by rw [hc14]; decide) (by rw [hc14]; rfl) (by decide) ?_
        exact lc_1085 l hfl C0 C1 S1 hC hS1 _ ih _ _ _ _ _ hf B hl
      have hf := zif_f hc14 hf
      by_cases hc15 : sw = (15 : Int32)
      · have hf := zif_t hc15 hf
        refine lv_tableIn (off := 1102) (tgt := 1141) hx hb dL_law_39 (by rw [hc15]; decide) (by rw [hc15]; decide) (by rw [hc15]; rfl) (by decide) ?_
        exact lc_1141 l hfl C0 C1 S1 hC hS1 _ ih _ _ _ _ _ hf B hl
      have hf := zif_f hc15 hf
      by_cases hc16 : sw = (16 : Int32)
      · have hf := zif_t hc16 hf
        refine lv_tableIn (off := 1194) (tgt := 1233) hx hb dL_law_39 (by rw [hc16]; decide) (by rw [hc16]; decide) (by rw [hc16]; rfl) (by decide) ?_
        exact lc_1233 l hfl C0 C1 S1 hC hS1 _ ih _ _ _ _ _ hf B hl
      have hf := zif_f hc16 hf
      by_cases hc17 : sw = (17 : Int32)
      · have hf := zif_t hc17 hf
        refine lv_tableIn (off := 1262) (tgt := 1301) hx hb dL_law_39 (by rw [hc17]; decide) (by rw [hc17]; decide) (by rw [hc17]; rfl) (by decide) ?_
        exact lc_1301 l hfl C0 C1 S1 hC hS1 _ ih _ _ _ _ _ hf B hl
      have hf := zif_f hc17 hf
      by_cases hc18 : sw = (18 : Int32)
      · have hf := zif_t hc18 hf
        refine lv_tableIn (off := 1318) (tgt := 1357) hx hb dL_law_39 (by rw [hc18]; decide) (by rw [hc18]; decide) (by rw [hc18]; rfl) (by decide) ?_
        exact lc_1357 l hfl C0 C1 S1 hC hS1 _ ih _ _ _ _ _ hf B hl
      have hf := zif_f hc18 hf
      by_cases hc19 : sw = (19 : Int32)
      · have hf := zif_t hc19 hf
        refine lv_tableIn (off := 1374) (tgt := 1413) hx hb dL_law_39 (by rw [hc19]; decide) (by rw [hc19]; decide) (by rw [hc19]; rfl) (by decide) ?_
        exact lc_1413 l hfl C0 C1 S1 hC hS1 _ ih _ _ _ _ _ hf B hl
      have hf := zif_f hc19 hf
      by_cases hc20 : sw = (20 : Int32)
      · have hf := zif_t hc20 hf
        refine lv_tableIn (off := 1430) (tgt := 1469) hx hb dL_law_39 (by rw [hc20]; decide) (by rw [hc20]; decide) (by rw [hc20]; rfl) (by decide) ?_
        exact lc_1469 l hfl C0 C1 S1 hC hS1 _ ih _ _ _ _ _ hf B hl
      have hf := zif_f hc20 hf
      by_cases hc21 : sw = (21 : Int32)
      · have hf := zif_t hc21 hf
        refine lv_tableIn (off := 1514) (tgt := 1553) hx hb dL_law_39 (by rw [hc21]; decide) (by rw [hc21]; decide) (by rw [hc21]; rfl) (by decide) ?_
        exact lc_1553 l hfl C0 C1 S1 hC hS1 _ ih _ _ _ _ _ hf B hl
      have hf := zif_f hc21 hf
      by_cases hc22 : sw = (22 : Int32)
      · have hf := zif_t hc22 hf
        refine lv_tableIn (off := 1527) (tgt := 1566) hx hb dL_law_39 (by rw [hc22]; decide) (by rw [hc22]; decide) (by rw [hc22]; rfl) (by decide) ?_
        exact lc_1566 l hfl C0 C1 S1 hC hS1 _ ih _ _ _ _ _ hf B hl
      have hf := zif_f hc22 hf
      by_cases hc23 : sw = (23 : Int32)
      · have hf := zif_t hc23 hf
        refine lv_tableIn (off := 1595) (tgt := 1634) hx hb dL_law_39 (by rw [hc23]; decide) (by rw [hc23]; decide) (by rw [hc23]; rfl) (by decide) ?_
        exact lc_1634 l hfl C0 C1 S1 hC hS1 _ ih _ _ _ _ _ hf B hl
      have hf := zif_f hc23 hf
      by_cases hc24 : sw = (24 : Int32)
      · have hf := zif_t hc24 hf
        refine lv_tableIn (off := 1651) (tgt := 1690) hx hb dL_law_39 (by rw [hc24]; decide) (by rw [hc24]; decide) (by rw [hc24]; rfl) (by decide) ?_
        exact lc_1690 l hfl C0 C1 S1 hC hS1 _ ih _ _ _ _ _ hf B hl
      have hf := zif_f hc24 hf
      by_cases hc25 : sw = (25 : Int32)
      · have hf := zif_t hc25 hf
        refine lv_tableIn (off := 1759) (tgt := 1798) hx hb dL_law_39 (by rw [hc25]; decide) (by rw [hc25]; decide) (by rw [hc25]; rfl) (by decide) ?_
        exact lc_1798 l hfl C0 C1 S1 hC hS1 _ ih _ _ _ _ _ hf B hl
      have hf := zif_f hc25 hf
      by_cases hc26 : sw = (26 : Int32)
      · have hf := zif_t hc26 hf
        refine lv_tableIn (off := 1839) (tgt := 1878) hx hb dL_law_39 (by rw [hc26]; decide) (by rw [hc26]; decide) (by rw [hc26]; rfl) (by decide) ?_
        exact lc_1878 l hfl C0 C1 S1 hC hS1 _ ih _ _ _ _ _ hf B hl
      have hf := zif_f hc26 hf
      by_cases hc27 : sw = (27 : Int32)
      · have hf := zif_t hc27 hf
        refine lv_tableIn (off := 1919) (tgt := 1958) hx hb dL_law_39 (by rw [hc27]; decide) (by rw [hc27]; decide) (by rw [hc27]; rfl) (by decide) ?_
        exact lc_1958 l hfl C0 C1 S1 hC hS1 _ ih _ _ _ _ _ hf B hl
      have hf := zif_f hc27 hf
      by_cases hc28 : sw = (28 : Int32)
      · have hf := zif_t hc28 hf
        refine lv_tableIn (off := 1987) (tgt := 2026) hx hb dL_law_39 (by rw [hc28]; decide) (by rw [hc28]; decide) (by rw [hc28]; rfl) (by decide) ?_
        exact lc_2026 l hfl C0 C1 S1 hC hS1 _ ih _ _ _ _ _ hf B hl
      have hf := zif_f hc28 hf
      by_cases hc29 : sw = (29 : Int32)
      · have hf := zif_t hc29 hf
        refine lv_tableIn (off := 2043) (tgt := 2082) hx hb dL_law_39 (by rw [hc29]; decide) (by rw [hc29]; decide) (by rw [hc29]; rfl) (by decide) ?_
        exact lc_2082 l hfl C0 C1 S1 hC hS1 _ ih _ _ _ _ _ hf B hl
      have hf := zif_f hc29 hf
      by_cases hc30 : sw = (30 : Int32)
      · have hf := zif_t hc30 hf
        refine lv_tableIn (off := 2111) (tgt := 2150) hx hb dL_law_39 (by rw [hc30]; decide) (by rw [hc30]; decide) (by rw [hc30]; rfl) (by decide) ?_
        exact lc_2150 l hfl C0 C1 S1 hC hS1 _ ih _ _ _ _ _ hf B hl
      have hf := zif_f hc30 hf
      by_cases hc31 : sw = (31 : Int32)
      · have hf := zif_t hc31 hf
        refine lv_tableIn (off := 2167) (tgt := 2206) hx hb dL_law_39 (by rw [hc31]; decide) (by rw [hc31]; decide) (by rw [hc31]; rfl) (by decide) ?_
        exact lc_2206 l hfl C0 C1 S1 hC hS1 _ ih _ _ _ _ _ hf B hl
      have hf := zif_f hc31 hf
      by_cases hc32 : sw = (32 : Int32)
      · have hf := zif_t hc32 hf
        refine lv_tableIn (off := 2235) (tgt := 2274) hx hb dL_law_39 (by rw [hc32]; decide) (by rw [hc32]; decide) (by rw [hc32]; rfl) (by decide) ?_
        exact lc_2274 l hfl C0 C1 S1 hC hS1 _ ih _ _ _ _ _ hf B hl
      have hf := zif_f hc32 hf
      by_cases hc33 : sw = (33 : Int32)
      · have hf := zif_t hc33 hf
        refine lv_tableIn (off := 2291) (tgt := 2330) hx hb dL_law_39 (by rw [hc33]; decide) (by rw [hc33]; decide) (by rw [hc33]; rfl) (by decide) ?_
        exact lc_2330 l hfl C0 C1 S1 hC hS1 _ ih _ _ _ _ _ hf B hl
      have hf := zif_f hc33 hf
      by_cases hc34 : sw = (34 : Int32)
      · have hf := zif_t hc34 hf
        refine lv_tableIn (off := 2366) (tgt := 2405) hx hb dL_law_39 (by rw [hc34]; decide) (by rw [hc34]; decide) (by rw [hc34]; rfl) (by decide) ?_
        exact lc_2405 l hfl C0 C1 S1 hC hS1 _ ih _ _ _ _ _ hf B hl
      have hf := zif_f hc34 hf
      by_cases hc35 : sw = (35 : Int32)
      · have hf := zif_t hc35 hf
        refine lv_tableIn (off := 2422) (tgt := 2461) hx hb dL_law_39 (by rw [hc35]; decide) (by rw [hc35]; decide) (by rw [hc35]; rfl) (by decide) ?_
        exact lc_2461 l hfl C0 C1 S1 hC hS1 _ ih _ _ _ _ _ hf B hl
      have hf := zif_f hc35 hf
      by_cases hc36 : sw = (36 : Int32)
      · have hf := zif_t hc36 hf
        refine lv_tableIn (off := 2435) (tgt := 2474) hx hb dL_law_39 (by rw [hc36]; decide) (by rw [hc36]; decide) (by rw [hc36]; rfl) (by decide) ?_
        exact lc_2474 l hfl C0 C1 S1 hC hS1 _ ih _ _ _ _ _ hf B hl
      have hf := zif_f hc36 hf
      refine lv_tableOut (tgt := 2518) hx hb dL_law_39 (zsw_out (fun j h1 h2 hj => ?_)) (by decide) ?_
      · have hd : j = 0 ∨ j = 1 ∨ j = 2 ∨ j = 3 ∨ j = 4 ∨ j = 5 ∨ j = 6 ∨ j = 7 ∨ j = 8 ∨ j = 9 ∨ j = 10 ∨ j = 11 ∨ j = 12 ∨ j = 13 ∨ j = 14 ∨ j = 15 ∨ j = 16 ∨ j = 17 ∨ j = 18 ∨ j = 19 ∨ j = 20 ∨ j = 21 ∨ j = 22 ∨ j = 23 ∨ j = 24 ∨ j = 25 ∨ j = 26 ∨ j = 27 ∨ j = 28 ∨ j = 29 ∨ j = 30 ∨ j = 31 ∨ j = 32 ∨ j = 33 ∨ j = 34 ∨ j = 35 ∨ j = 36 := by omega
        rcases hd with rfl | rfl | rfl | rfl | rfl | rfl | rfl | rfl | rfl | rfl | rfl | rfl | rfl | rfl | rfl | rfl | rfl | rfl | rfl | rfl | rfl | rfl | rfl | rfl | rfl | rfl | rfl | rfl | rfl | rfl | rfl | rfl | rfl | rfl | rfl | rfl | rfl
        · exact hc0 (Int32.toInt_inj.mp (hj.trans (by decide)))
        · exact hc1 (Int32.toInt_inj.mp (hj.trans (by decide)))
        · exact hc2 (Int32.toInt_inj.mp (hj.trans (by decide)))
        · exact hc3 (Int32.toInt_inj.mp (hj.trans (by decide)))
        · exact hc4 (Int32.toInt_inj.mp (hj.trans (by decide)))
        · exact hc5 (Int32.toInt_inj.mp (hj.trans (by decide)))
        · exact hc6 (Int32.toInt_inj.mp (hj.trans (by decide)))
        · exact hc7 (Int32.toInt_inj.mp (hj.trans (by decide)))
        · exact hc8 (Int32.toInt_inj.mp (hj.trans (by decide)))
        · exact hc9 (Int32.toInt_inj.mp (hj.trans (by decide)))
        · exact hc10 (Int32.toInt_inj.mp (hj.trans (by decide)))
        · exact hc11 (Int32.toInt_inj.mp (hj.trans (by decide)))
        · exact hc12 (Int32.toInt_inj.mp (hj.trans (by decide)))
        · exact hc13 (Int32.toInt_inj.mp (hj.trans (by decide)))
        · exact hc14 (Int32.toInt_inj.mp (hj.trans (by decide)))
        · exact hc15 (Int32.toInt_inj.mp (hj.trans (by decide)))
        · exact hc16 (Int32.toInt_inj.mp (hj.trans (by decide)))
        · exact hc17 (Int32.toInt_inj.mp (hj.trans (by decide)))
        · exact hc18 (Int32.toInt_inj.mp (hj.trans (by decide)))
        · exact hc19 (Int32.toInt_inj.mp (hj.trans (by decide)))
        · exact hc20 (Int32.toInt_inj.mp (hj.trans (by decide)))
        · exact hc21 (Int32.toInt_inj.mp (hj.trans (by decide)))
        · exact hc22 (Int32.toInt_inj.mp (hj.trans (by decide)))
        · exact hc23 (Int32.toInt_inj.mp (hj.trans (by decide)))
        · exact hc24 (Int32.toInt_inj.mp (hj.trans (by decide)))
        · exact hc25 (Int32.toInt_inj.mp (hj.trans (by decide)))
        · exact hc26 (Int32.toInt_inj.mp (hj.trans (by decide)))
        · exact hc27 (Int32.toInt_inj.mp (hj.trans (by decide)))
        · exact hc28 (Int32.toInt_inj.mp (hj.trans (by decide)))
        · exact hc29 (Int32.toInt_inj.mp (hj.trans (by decide)))
        · exact hc30 (Int32.toInt_inj.mp (hj.trans (by decide)))
        · exact hc31 (Int32.toInt_inj.mp (hj.trans (by decide)))
        · exact hc32 (Int32.toInt_inj.mp (hj.trans (by decide)))
        · exact hc33 (Int32.toInt_inj.mp (hj.trans (by decide)))
        · exact hc34 (Int32.toInt_inj.mp (hj.trans (by decide)))
        · exact hc35 (Int32.toInt_inj.mp (hj.trans (by decide)))
        · exact hc36 (Int32.toInt_inj.mp (hj.trans (by decide)))
      refine lv_iinc (v := (v4 + (5 : Int32))) (lv' := [(4, .int (v4 + (5 : Int32))), (0, .ref b), (1, .ref (ad 0)), (2, .ref (ad 65)), (3, .ref (ad 75))]) hx hb dL_law_2518 hl (k := 4) rfl (zc1 (by decide)) (by decide) rfl (fun ls hl => ?_)
      refine lv_goto (tgt := 23) hx hb dL_law_2521 (by decide) ?_
      refine W.widen (k := C1 + 28) (n := S1 + 2612) (show C1 ≤ C1 + 28 by omega) (show S1 ≤ S1 + 2612 by omega) ?_
      exact ih _ _ _ _ _ hf B (lv_sub hl [1, 2, 3, 4, 0] rfl)
