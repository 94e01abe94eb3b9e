theorem dX8_object_0 : decode cX8_object 0 = .ok (.iload_n 1, 1) := by decide +kernel
theorem dX8_object_1 : decode cX8_object 1 = .ok (.invokestatic 59, 3) := by decide +kernel
theorem dX8_object_4 : decode cX8_object 4 = .ok (.iload_n 2, 1) := by decide +kernel
theorem dX8_object_5 : decode cX8_object 5 = .ok (.ifCond .lt 12, 3) := by decide +kernel
theorem dX8_object_8 : decode cX8_object 8 = .ok (.iload_n 2, 1) := by decide +kernel
theorem dX8_object_9 : decode cX8_object 9 = .ok (.iconst 2, 1) := by decide +kernel
theorem dX8_object_10 : decode cX8_object 10 = .ok (.if_icmp .gt 7, 3) := by decide +kernel
theorem dX8_object_13 : decode cX8_object 13 = .ok (.iconst 1, 1) := by decide +kernel
theorem dX8_object_14 : decode cX8_object 14 = .ok (.goto 4, 3) := by decide +kernel
theorem dX8_object_17 : decode cX8_object 17 = .ok (.iconst 0, 1) := by decide +kernel
theorem dX8_object_18 : decode cX8_object 18 = .ok (.invokestatic 62, 3) := by decide +kernel
theorem dX8_object_21 : decode cX8_object 21 = .ok (.iload_n 2, 1) := by decide +kernel
theorem dX8_object_22 : decode cX8_object 22 = .ok (.lookupswitch 46 #[(0, 26), (1, 36)], 26) := by decide +kernel
theorem dX8_object_48 : decode cX8_object 48 = .ok (.aload_n 0, 1) := by decide +kernel
theorem dX8_object_49 : decode cX8_object 49 = .ok (.getfield 12, 3) := by decide +kernel
theorem dX8_object_52 : decode cX8_object 52 = .ok (.getfield 251, 3) := by decide +kernel
theorem dX8_object_55 : decode cX8_object 55 = .ok (.iload_n 1, 1) := by decide +kernel
theorem dX8_object_56 : decode cX8_object 56 = .ok (.iaload, 1) := by decide +kernel
theorem dX8_object_57 : decode cX8_object 57 = .ok (.ireturn, 1) := by decide +kernel
theorem dX8_object_58 : decode cX8_object 58 = .ok (.aload_n 0, 1) := by decide +kernel
theorem dX8_object_59 : decode cX8_object 59 = .ok (.getfield 12, 3) := by decide +kernel
theorem dX8_object_62 : decode cX8_object 62 = .ok (.getfield 254, 3) := by decide +kernel
theorem dX8_object_65 : decode cX8_object 65 = .ok (.iload_n 1, 1) := by decide +kernel
theorem dX8_object_66 : decode cX8_object 66 = .ok (.iaload, 1) := by decide +kernel
theorem dX8_object_67 : decode cX8_object 67 = .ok (.ireturn, 1) := by decide +kernel
theorem dX8_object_68 : decode cX8_object 68 = .ok (.aload_n 0, 1) := by decide +kernel
theorem dX8_object_69 : decode cX8_object 69 = .ok (.getfield 12, 3) := by decide +kernel
theorem dX8_object_72 : decode cX8_object 72 = .ok (.getfield 66, 3) := by decide +kernel
theorem dX8_object_75 : decode cX8_object 75 = .ok (.iload_n 1, 1) := by decide +kernel
theorem dX8_object_76 : decode cX8_object 76 = .ok (.invokevirtual 257, 3) := by decide +kernel
theorem dX8_object_79 : decode cX8_object 79 = .ok (.ireturn, 1) := by decide +kernel
set_option maxRecDepth 20000 in
theorem ggX8_object_X8_needObject : GoodIn wsX8_object wsX8_needObject := goodIn_ca (goodIn_r _ [8, 9, 10, 7, 11, 12, 13] (by decide +kernel) (by decide +kernel)) (goodIn_sub (fun _ h => List.mem_cons_of_mem _ (List.mem_append_left _ (List.mem_append_right _ h))) (by decide +kernel))
set_option maxRecDepth 20000 in
theorem gX8_object_X8_needObject : GoodIn wsX8_object (va_wsS RX8 59 yX8_needObject wsX8_needObject) := goodIn_app (goodIn_of _ (by decide +kernel)) ggX8_object_X8_needObject
set_option maxRecDepth 20000 in
theorem ggX8_object_X8_needArgument : GoodIn wsX8_object wsX8_needArgument := goodIn_ca (goodIn_r _ [16, 17, 18] (by decide +kernel) (by decide +kernel)) (goodIn_sub (fun _ h => List.mem_cons_of_mem _ (List.mem_append_right _ h)) (by decide +kernel))
set_option maxRecDepth 20000 in
theorem gX8_object_X8_needArgument : GoodIn wsX8_object (va_wsS RX8 62 yX8_needArgument wsX8_needArgument) := goodIn_app (goodIn_of _ (by decide +kernel)) ggX8_object_X8_needArgument
set_option maxRecDepth 20000 in
theorem ggX8_object_X7_numberFor : GoodIn wsX8_object wsX7_numberFor := goodIn_ca (goodIn_r _ [23, 24, 25, 42, 43, 44, 45, 46, 47, 48, 49, 50, 51, 52, 53] (by decide +kernel) (by decide +kernel)) (goodIn_sub (fun _ h => List.mem_cons_of_mem _ (List.mem_append_left _ (List.mem_append_left _ (List.mem_append_right _ h)))) (by decide +kernel))
set_option maxRecDepth 20000 in
theorem gX8_object_X7_numberFor : GoodIn wsX8_object (wsV RX8 257 RX7 yX7_numberFor wsX7_numberFor) := goodIn_app (goodIn_of _ (by decide +kernel)) ggX8_object_X7_numberFor
def rm_X8_object : Room := { frames := 10, cells := 2, slots := 12, locals := 240 }
set_option maxHeartbeats 4000000 in
set_option maxRecDepth 100000 in
theorem c_X8_object (l : Launch) (hfl : l.stackTraces = false) {G : zG} {ad : Nat → Nat} {σ σ' : zs} {a1 a2 : Int32} {ex : Nat} {r : Int32} (hf : f_X8_object σ a1 a2 = some (ex, r, σ')) : xXi l yX8_object wsX8_object rm_X8_object G ad σ [.ref (ad 0), .int a1, .int a2] ex r σ' := by
  intro sz nb a g hs
  refine vx_ofW (cc := cX8_object) (maxL := 3) (ret := (some .int)) (by decide) rfl ?_
  intro p e s m args below meth c s₁ B hml hno hv
  obtain ⟨rfl, hsz, hv⟩ := hv
  have hx := B.exec
  have hb := B.bytes
  have hr := B.returns
  have hts := atoms_spec (ws := wsX8_object) B.pre
  have hown : s.vm.findClass RX8 = some m.cls := findClass_of_methodNamed B.named
  have hlocks := B.notSynchronized
  subst hsz
  have B := xB_start hs hv
  have hinRX6 : ∀ w ∈ wsX60, w ∈ wsX8_object := by decide +kernel
  have hinRX8 : ∀ w ∈ wsX80, w ∈ wsX8_object := by decide +kernel
  have hl := lv_entry ([.ref (ad 0), .int a1, .int a2]) (n := 3) (Nat.le_of_ble_eq_true rfl)
  rw [lg_entry_eq]
  generalize (lg_sl ([.ref (ad 0), .int a1, .int a2]) ++ List.replicate (3 - (lg_sl ([.ref (ad 0), .int a1, .int a2])).length) Slot.unset).toArray = ls at hl ⊢
  have hl : lv_has ls 3 [(0, .ref (ad 0)), (1, .int a1), (2, .int a2)] := hl
  generalize hAe : xA ad a s.heap.size = A at B ⊢
  have L18 : ∀ (σ : zs) (v1 : Int32) (v2 : Int32) (s0 : Int32) (H : Heap) (locs : List Loc) (ls : Array Slot), f_X8_object_18 σ v1 v2 s0 = some (ex, r, σ') → xB A s G ad σ H locs → lv_has ls 3 [(0, .ref (ad 0)), (1, .int v1), (2, .int v2)] → W p l e (headSpec wsX8_object rm_X8_object).room s m ([.ref (ad 0), .int a1, .int a2] : List Value).toArray below meth c H locs 1 6 (vx_MQ below (va_Qi (fun r' (u : xV) => (ex = 0 ∧ r' = r) ∧ xQ σ' u) (xPost G ad σ' A) A) (xXC G ad ex σ' A) ([.ref (ad 0), .int a1, .int a2] : List Value).toArray s 2 12 A) (F0 m 18 ls [.int s0]) := by
    intro σ v1 v2 s0 H locs ls hf B hl
    unfold f_X8_object_18 at hf
    obtain ⟨u4, r5, σ6, hu4, hf⟩ := zx_some hf
    refine x_xv B (fun nb a g hs Bz => vx_runS (As := [.int s0]) (rest := []) ⟨hx, hb, hml, hown, hts⟩ (c_X8_needArgument l hfl hu4 _ nb a g hs) (va_cwS 1 hts gX8_object_X8_needArgument rfl rfl rfl (by decide +kernel) ⟨Nat.le_of_ble_eq_true rfl, Nat.le_of_ble_eq_true rfl⟩) (z_preS Bz) rfl rfl hl.1 rfl (lv_room (Nat.le_of_ble_eq_true rfl)) dX8_object_18 ⟨Nat.le_of_ble_eq_true rfl, Nat.le_of_ble_eq_true rfl⟩) (fun H locs ce q9 h0 B k1 k2 k3 => ?_) (fun H locs h0 B => ?_)
    · exact x_xout hno hlocks (zx_no hf h0) h0 B k1 k2 k3 (Nat.le_of_ble_eq_true rfl) (Nat.le_of_ble_eq_true rfl)
    have hf := zx_ok hf h0
    refine lv_iload_n hx hb dX8_object_21 rfl (lv_at hl 2 rfl) ?_
    by_cases hc0 : v2 = (0 : Int32)
    · have hf := zif_t hc0 hf
      refine lv_lookup (off := 26) (tgt := 48) hx hb dX8_object_22 (by decide) (by rw [hc0]; decide) (by decide) ?_
      refine lv_aload_n hx hb dX8_object_48 rfl (lv_at hl 0 rfl) ?_
      refine x_getr hx hb hts hinRX8 hown B 0 0 1 (by decide) (by decide) (fun _ => rfl) rfl rfl (by decide) (by decide +kernel) rfl dX8_object_49 ?_
      refine x_getr hx hb hts hinRX6 hown B 1 3 22 (by decide) (by decide) (fun _ => rfl) rfl rfl (by decide) (by decide +kernel) rfl dX8_object_52 ?_
      refine lv_iload_n hx hb dX8_object_55 rfl (lv_at hl 1 rfl) ?_
      obtain ⟨hg, hf⟩ := zg_some hf
      refine x_iald hx hb B 22 (by decide) (fun _ => rfl) (zin_ok hg) dX8_object_56 ?_
      refine W.widen (k := 2) (n := 12) (Nat.le_of_ble_eq_true rfl) (Nat.le_of_ble_eq_true rfl) ?_
      exact x_xiret hx hb hr rfl hlocks B hf dX8_object_57
    have hf := zif_f hc0 hf
    by_cases hc1 : v2 = (1 : Int32)
    · have hf := zif_t hc1 hf
      refine lv_lookup (off := 36) (tgt := 58) hx hb dX8_object_22 (by decide) (by rw [hc1]; decide) (by decide) ?_
      refine lv_aload_n hx hb dX8_object_58 rfl (lv_at hl 0 rfl) ?_
      refine x_getr hx hb hts hinRX8 hown B 0 0 1 (by decide) (by decide) (fun _ => rfl) rfl rfl (by decide) (by decide +kernel) rfl dX8_object_59 ?_
      refine x_getr hx hb hts hinRX6 hown B 1 4 23 (by decide) (by decide) (fun _ => rfl) rfl rfl (by decide) (by decide +kernel) rfl dX8_object_62 ?_
      refine lv_iload_n hx hb dX8_object_65 rfl (lv_at hl 1 rfl) ?_
      obtain ⟨hg, hf⟩ := zg_some hf
      refine x_iald hx hb B 23 (by decide) (fun _ => rfl) (zin_ok hg) dX8_object_66 ?_
      refine W.widen (k := 2) (n := 12) (Nat.le_of_ble_eq_true rfl) (Nat.le_of_ble_eq_true rfl) ?_
      exact x_xiret hx hb hr rfl hlocks B hf dX8_object_67
    have hf := zif_f hc1 hf
    refine lv_lookup (off := 46) (tgt := 68) hx hb dX8_object_22 (by decide) (zlk2 hc0 hc1) (by decide) ?_
    refine lv_aload_n hx hb dX8_object_68 rfl (lv_at hl 0 rfl) ?_
    refine x_getr hx hb hts hinRX8 hown B 0 0 1 (by decide) (by decide) (fun _ => rfl) rfl rfl (by decide) (by decide +kernel) rfl dX8_object_69 ?_
    refine x_getr hx hb hts hinRX6 hown B 1 0 2 (by decide) (by decide) (fun _ => rfl) rfl rfl (by decide) (by decide +kernel) rfl dX8_object_72 ?_
    refine lv_iload_n hx hb dX8_object_75 rfl (lv_at hl 1 rfl) ?_
    obtain ⟨r8, σ9, hu7, hf⟩ := zb_some hf
    refine x_i B (fun nb a g hs Bz => va_runV (As := [.int v1]) (rest := []) ⟨hx, hb, hml, hown, hts⟩ (c_X7_numberFor l hu7 _ nb a g hs) (cwV 1 hts gX8_object_X7_numberFor rfl rfl rfl (by decide +kernel) ⟨Nat.le_of_ble_eq_true rfl, Nat.le_of_ble_eq_true rfl⟩) (x_preV Bz (by decide) (fun _ => rfl) rfl) rfl rfl hl.1 rfl (lv_room (Nat.le_of_ble_eq_true rfl)) dX8_object_76 ⟨Nat.le_of_ble_eq_true rfl, Nat.le_of_ble_eq_true rfl⟩) (fun H locs B => ?_)
    refine W.widen (k := 2) (n := 12) (Nat.le_of_ble_eq_true rfl) (Nat.le_of_ble_eq_true rfl) ?_
    exact x_xiret hx hb hr rfl hlocks B hf dX8_object_79
  unfold f_X8_object at hf
  refine lv_iload_n hx hb dX8_object_0 rfl (lv_at hl 1 rfl) ?_
  obtain ⟨u1, r2, σ3, hu1, hf⟩ := zx_some hf
  refine x_xv B (fun nb a g hs Bz => vx_runS (As := [.int a1]) (rest := []) ⟨hx, hb, hml, hown, hts⟩ (c_X8_needObject l hfl hu1 _ nb a g hs) (va_cwS 1 hts gX8_object_X8_needObject rfl rfl rfl (by decide +kernel) ⟨Nat.le_of_ble_eq_true rfl, Nat.le_of_ble_eq_true rfl⟩) (z_preS Bz) rfl rfl hl.1 rfl (lv_room (Nat.le_of_ble_eq_true rfl)) dX8_object_1 ⟨Nat.le_of_ble_eq_true rfl, Nat.le_of_ble_eq_true rfl⟩) (fun H locs ce q9 h0 B k1 k2 k3 => ?_) (fun H locs h0 B => ?_)
  · exact x_xout hno hlocks (zx_no hf h0) h0 B k1 k2 k3 (Nat.le_of_ble_eq_true rfl) (Nat.le_of_ble_eq_true rfl)
  have hf := zx_ok hf h0
  refine lv_iload_n hx hb dX8_object_4 rfl (lv_at hl 2 rfl) ?_
  refine lv_if_lt (tgt := 17) hx hb dX8_object_5 (by decide) (fun hc => ?_) (fun hc => ?_)
  · have hf := zif_t hc hf
    refine lv_iconst (v := (0 : Int32)) hx hb dX8_object_17 (by decide) ?_
    exact L18  _ _ _ _ _ _ _ hf B (lv_sub hl [0, 1, 2] rfl)
  · have hf := zif_f hc hf
    refine lv_iload_n hx hb dX8_object_8 rfl (lv_at hl 2 rfl) ?_
    refine lv_iconst (v := (2 : Int32)) hx hb dX8_object_9 (by decide) ?_
    refine lv_icmp_gt (tgt := 17) hx hb dX8_object_10 (by decide) (fun hc => ?_) (fun hc => ?_)
    · have hf := zif_t hc hf
      refine lv_iconst (v := (0 : Int32)) hx hb dX8_object_17 (by decide) ?_
      exact L18  _ _ _ _ _ _ _ hf B (lv_sub hl [0, 1, 2] rfl)
    · have hf := zif_f hc hf
      refine lv_iconst (v := (1 : Int32)) hx hb dX8_object_13 (by decide) ?_
      refine lv_goto (tgt := 18) hx hb dX8_object_14 (by decide) ?_
      exact L18  _ _ _ _ _ _ _ hf B (lv_sub hl [0, 1, 2] rfl)
theorem dX8_pass_0 : decode cX8_pass 0 = .ok (.iload_n 1, 1) := by decide +kernel
theorem dX8_pass_1 : decode cX8_pass 1 = .ok (.iconst 1, 1) := by decide +kernel
theorem dX8_pass_2 : decode cX8_pass 2 = .ok (.if_icmp .lt 13, 3) := by decide +kernel
theorem dX8_pass_5 : decode cX8_pass 5 = .ok (.iload_n 1, 1) := by decide +kernel
theorem dX8_pass_6 : decode cX8_pass 6 = .ok (.bipush 100, 2) := by decide +kernel
theorem dX8_pass_8 : decode cX8_pass 8 = .ok (.if_icmp .gt 7, 3) := by decide +kernel
theorem dX8_pass_11 : decode cX8_pass 11 = .ok (.iconst 1, 1) := by decide +kernel
theorem dX8_pass_12 : decode cX8_pass 12 = .ok (.goto 4, 3) := by decide +kernel
theorem dX8_pass_15 : decode cX8_pass 15 = .ok (.iconst 0, 1) := by decide +kernel
theorem dX8_pass_16 : decode cX8_pass 16 = .ok (.invokestatic 62, 3) := by decide +kernel
theorem dX8_pass_19 : decode cX8_pass 19 = .ok (.aload_n 0, 1) := by decide +kernel
theorem dX8_pass_20 : decode cX8_pass 20 = .ok (.getfield 12, 3) := by decide +kernel
theorem dX8_pass_23 : decode cX8_pass 23 = .ok (.invokevirtual 260, 3) := by decide +kernel
theorem dX8_pass_26 : decode cX8_pass 26 = .ok (.iconst 0, 1) := by decide +kernel
theorem dX8_pass_27 : decode cX8_pass 27 = .ok (.istore_n 2, 1) := by decide +kernel
theorem dX8_pass_28 : decode cX8_pass 28 = .ok (.iload_n 2, 1) := by decide +kernel
theorem dX8_pass_29 : decode cX8_pass 29 = .ok (.iload_n 1, 1) := by decide +kernel
theorem dX8_pass_30 : decode cX8_pass 30 = .ok (.if_icmp .ge 29, 3) := by decide +kernel
theorem dX8_pass_33 : decode cX8_pass 33 = .ok (.aload_n 0, 1) := by decide +kernel
theorem dX8_pass_34 : decode cX8_pass 34 = .ok (.getfield 12, 3) := by decide +kernel
theorem dX8_pass_37 : decode cX8_pass 37 = .ok (.dup, 1) := by decide +kernel
theorem dX8_pass_38 : decode cX8_pass 38 = .ok (.getfield 263, 3) := by decide +kernel
theorem dX8_pass_41 : decode cX8_pass 41 = .ok (.iconst 1, 1) := by decide +kernel
theorem dX8_pass_42 : decode cX8_pass 42 = .ok (.iadd, 1) := by decide +kernel
theorem dX8_pass_43 : decode cX8_pass 43 = .ok (.putfield 263, 3) := by decide +kernel
theorem dX8_pass_46 : decode cX8_pass 46 = .ok (.aload_n 0, 1) := by decide +kernel
theorem dX8_pass_47 : decode cX8_pass 47 = .ok (.getfield 12, 3) := by decide +kernel
theorem dX8_pass_50 : decode cX8_pass 50 = .ok (.invokevirtual 264, 3) := by decide +kernel
theorem dX8_pass_53 : decode cX8_pass 53 = .ok (.iinc 2 1, 3) := by decide +kernel
theorem dX8_pass_56 : decode cX8_pass 56 = .ok (.goto (-28), 3) := by decide +kernel
theorem dX8_pass_59 : decode cX8_pass 59 = .ok (.aload_n 0, 1) := by decide +kernel
theorem dX8_pass_60 : decode cX8_pass 60 = .ok (.getfield 12, 3) := by decide +kernel
theorem dX8_pass_63 : decode cX8_pass 63 = .ok (.getfield 267, 3) := by decide +kernel
theorem dX8_pass_66 : decode cX8_pass 66 = .ok (.ireturn, 1) := by decide +kernel
set_option maxRecDepth 20000 in
theorem ggX8_pass_X8_needArgument : GoodIn wsX8_pass wsX8_needArgument := goodIn_ca (goodIn_r _ [7, 8, 9] (by decide +kernel) (by decide +kernel)) (goodIn_sub (fun _ h => List.mem_cons_of_mem _ (List.mem_append_left _ (List.mem_append_right _ h))) (by decide +kernel))
set_option maxRecDepth 20000 in
theorem gX8_pass_X8_needArgument : GoodIn wsX8_pass (va_wsS RX8 62 yX8_needArgument wsX8_needArgument) := goodIn_app (goodIn_of _ (by decide +kernel)) ggX8_pass_X8_needArgument
set_option maxRecDepth 20000 in
theorem ggX8_pass_X6_clearExpired : GoodIn wsX8_pass wsX6_clearExpired := goodIn_r _ [14, 15, 71, 72, 73, 74, 75, 76, 77, 78] (by decide +kernel) (by decide +kernel)
set_option maxRecDepth 20000 in
theorem gX8_pass_X6_clearExpired : GoodIn wsX8_pass (wsV RX8 260 RX6 yX6_clearExpired wsX6_clearExpired) := goodIn_app (goodIn_of _ (by decide +kernel)) ggX8_pass_X6_clearExpired
set_option maxRecDepth 20000 in
theorem ggX8_pass_X6_expireAtPresent : GoodIn wsX8_pass wsX6_expireAtPresent := goodIn_ca (goodIn_r _ [19, 20, 21, 22, 23, 15, 24, 25, 26, 27, 28, 29, 30, 31, 32, 33, 34, 35, 36, 37, 38, 39, 40, 41, 42, 43, 44, 45, 46, 47, 48, 49, 50, 51, 52, 53, 54, 55, 56, 57, 58, 59, 60, 61, 62, 71, 72, 73, 74, 75, 76, 77, 78, 79, 80, 81, 82, 83, 84, 85, 86, 87, 88, 89, 90, 91, 92, 93, 94, 95, 96] (by decide +kernel) (by decide +kernel)) (goodIn_sub (fun _ h => List.mem_cons_of_mem _ (List.mem_append_right _ h)) (by decide +kernel))
set_option maxRecDepth 20000 in
theorem gX8_pass_X6_expireAtPresent : GoodIn wsX8_pass (wsV RX8 264 RX6 yX6_expireAtPresent wsX6_expireAtPresent) := goodIn_app (goodIn_of _ (by decide +kernel)) ggX8_pass_X6_expireAtPresent
def rm_X8_pass : Room := { frames := 9, cells := 1, slots := 6, locals := 220 }
set_option maxHeartbeats 4000000 in
set_option maxRecDepth 100000 in
theorem c_X8_pass (l : Launch) (hfl : l.stackTraces = false) {G : zG} {ad : Nat → Nat} {σ σ' : zs} {a1 : Int32} {ex : Nat} {r : Int32} (hf : f_X8_pass σ a1 = some (ex, r, σ')) : xXi l yX8_pass wsX8_pass rm_X8_pass G ad σ [.ref (ad 0), .int a1] ex r σ' := by
  intro sz nb a g hs
  refine vx_ofW (cc := cX8_pass) (maxL := 3) (ret := (some .int)) (by decide) rfl ?_
  intro p e s m args below meth c s₁ B hml hno hv
  obtain ⟨rfl, hsz, hv⟩ := hv
  have hx := B.exec
  have hb := B.bytes
  have hr := B.returns
  have hts := atoms_spec (ws := wsX8_pass) B.pre
  have hown : s.vm.findClass RX8 = some m.cls := findClass_of_methodNamed B.named
  have hlocks := B.notSynchronized
  subst hsz
  have B := xB_start hs hv
  have hinRX6 : ∀ w ∈ wsX60, w ∈ wsX8_pass := by decide +kernel
  have hinRX8 : ∀ w ∈ wsX80, w ∈ wsX8_pass := by decide +kernel
  have hl := lv_entry ([.ref (ad 0), .int a1]) (n := 3) (Nat.le_of_ble_eq_true rfl)
  rw [lg_entry_eq]
  generalize (lg_sl ([.ref (ad 0), .int a1]) ++ List.replicate (3 - (lg_sl ([.ref (ad 0), .int a1])).length) Slot.unset).toArray = ls at hl ⊢
  have hl : lv_has ls 3 [(0, .ref (ad 0)), (1, .int a1)] := hl
  generalize hAe : xA ad a s.heap.size = A at B ⊢
  have L28 : ∀ (n : Nat) (σ : zs) (v1 : Int32) (v2 : Int32) (H : Heap) (locs : List Loc) (ls : Array Slot), zlp2 (f_X8_pass_28) n σ v1 v2 = some (ex, r, σ') → xB A s G ad σ H locs → lv_has ls 3 [(0, .ref (ad 0)), (1, .int v1), (2, .int v2)] → W p l e (headSpec wsX8_pass rm_X8_pass).room s m ([.ref (ad 0), .int a1] : List Value).toArray below meth c H locs 1 6 (vx_MQ below (va_Qi (fun r' (u : xV) => (ex = 0 ∧ r' = r) ∧ xQ σ' u) (xPost G ad σ' A) A) (xXC G ad ex σ' A) ([.ref (ad 0), .int a1] : List Value).toArray s 1 6 A) (F0 m 28 ls []) := by
    intro n
    induction n with
    | zero =>
      intro σ v1 v2 H locs ls hf
      cases hf
    | succ n ih =>
      intro σ v1 v2 H locs ls hf B hl
      have hf : f_X8_pass_28 (zlp2 (f_X8_pass_28) n) σ v1 v2 = some (ex, r, σ') := hf
      unfold f_X8_pass_28 at hf
      refine lv_iload_n hx hb dX8_pass_28 rfl (lv_at hl 2 rfl) ?_
      refine lv_iload_n hx hb dX8_pass_29 rfl (lv_at hl 1 rfl) ?_
      refine lv_icmp_ge (tgt := 59) hx hb dX8_pass_30 (by decide) (fun hc => ?_) (fun hc => ?_)
      · have hf := zif_t hc hf
        refine lv_aload_n hx hb dX8_pass_59 rfl (lv_at hl 0 rfl) ?_
        refine x_getr hx hb hts hinRX8 hown B 0 0 1 (by decide) (by decide) (fun _ => rfl) rfl rfl (by decide) (by decide +kernel) rfl dX8_pass_60 ?_
        refine x_geti hx hb hts hinRX6 hown B 1 7 (by decide) (fun _ => rfl) rfl rfl (by decide) (by decide +kernel) rfl dX8_pass_63 ?_
        refine W.widen (k := 1) (n := 6) (Nat.le_of_ble_eq_true rfl) (Nat.le_of_ble_eq_true rfl) ?_
        exact x_xiret hx hb hr rfl hlocks B hf dX8_pass_66
      · have hf := zif_f hc hf
        refine lv_aload_n hx hb dX8_pass_33 rfl (lv_at hl 0 rfl) ?_
        refine x_getr hx hb hts hinRX8 hown B 0 0 1 (by decide) (by decide) (fun _ => rfl) rfl rfl (by decide) (by decide +kernel) rfl dX8_pass_34 ?_
        refine lv_dup hx hb dX8_pass_37 rfl ?_
        refine x_geti hx hb hts hinRX6 hown B 1 5 (by decide) (fun _ => rfl) rfl rfl (by decide) (by decide +kernel) rfl dX8_pass_38 ?_
        refine lv_iconst (v := (1 : Int32)) hx hb dX8_pass_41 (by decide) ?_
        refine lv_iadd hx hb dX8_pass_42 ?_
        refine x_puti hx hb hts hinRX6 hown tyX6 tyX6_ok nmX6 B 1 5 (by decide) (by decide) (fun _ => rfl) rfl rfl (by decide) (by decide +kernel) rfl rfl rfl rfl dX8_pass_43 (fun H locs B => ?_)
        refine lv_aload_n hx hb dX8_pass_46 rfl (lv_at hl 0 rfl) ?_
        refine x_getr hx hb hts hinRX8 hown B 0 0 1 (by decide) (by decide) (fun _ => rfl) rfl rfl (by decide) (by decide +kernel) rfl dX8_pass_47 ?_
        obtain ⟨r8, σ9, hu7, hf⟩ := zb_some hf
        refine x_v B (fun nb a g hs Bz => va_runV (As := []) (rest := []) ⟨hx, hb, hml, hown, hts⟩ (c_X6_expireAtPresent l hu7 _ nb a g hs) (cwV 0 hts gX8_pass_X6_expireAtPresent rfl rfl rfl (by decide +kernel) ⟨Nat.le_of_ble_eq_true rfl, Nat.le_of_ble_eq_true rfl⟩) (x_preV Bz (by decide) (fun _ => rfl) rfl) rfl rfl hl.1 rfl (lv_room (Nat.le_of_ble_eq_true rfl)) dX8_pass_50 ⟨Nat.le_of_ble_eq_true rfl, Nat.le_of_ble_eq_true rfl⟩) (fun H locs B => ?_)
        refine lv_iinc (v := (v2 + (1 : Int32))) (lv' := [(2, .int (v2 + (1 : Int32))), (0, .ref (ad 0)), (1, .int v1)]) hx hb dX8_pass_53 hl (k := 2) rfl (zc1 (by decide)) (by decide) rfl (fun ls hl => ?_)
        refine lv_goto (tgt := 28) hx hb dX8_pass_56 (by decide) ?_
        exact ih _ _ _ _ _ _ hf B (lv_sub hl [1, 2, 0] rfl)
  have L16 : ∀ (σ : zs) (v1 : Int32) (s0 : Int32) (H : Heap) (locs : List Loc) (ls : Array Slot), f_X8_pass_16 σ v1 s0 = some (ex, r, σ') → xB A s G ad σ H locs → lv_has ls 3 [(0, .ref (ad 0)), (1, .int v1)] → W p l e (headSpec wsX8_pass rm_X8_pass).room s m ([.ref (ad 0), .int a1] : List Value).toArray below meth c H locs 0 0 (vx_MQ below (va_Qi (fun r' (u : xV) => (ex = 0 ∧ r' = r) ∧ xQ σ' u) (xPost G ad σ' A) A) (xXC G ad ex σ' A) ([.ref (ad 0), .int a1] : List Value).toArray s 1 6 A) (F0 m 16 ls [.int s0]) := by
    intro σ v1 s0 H locs ls hf B hl
    unfold f_X8_pass_16 at hf
    obtain ⟨u1, r2, σ3, hu1, hf⟩ := zx_some hf
    refine x_xv B (fun nb a g hs Bz => vx_runS (As := [.int s0]) (rest := []) ⟨hx, hb, hml, hown, hts⟩ (c_X8_needArgument l hfl hu1 _ nb a g hs) (va_cwS 1 hts gX8_pass_X8_needArgument rfl rfl rfl (by decide +kernel) ⟨Nat.le_of_ble_eq_true rfl, Nat.le_of_ble_eq_true rfl⟩) (z_preS Bz) rfl rfl hl.1 rfl (lv_room (Nat.le_of_ble_eq_true rfl)) dX8_pass_16 ⟨Nat.le_of_ble_eq_true rfl, Nat.le_of_ble_eq_true rfl⟩) (fun H locs ce q9 h0 B k1 k2 k3 => ?_) (fun H locs h0 B => ?_)
    · exact x_xout hno hlocks (zx_no hf h0) h0 B k1 k2 k3 (Nat.le_of_ble_eq_true rfl) (Nat.le_of_ble_eq_true rfl)
    have hf := zx_ok hf h0
    refine lv_aload_n hx hb dX8_pass_19 rfl (lv_at hl 0 rfl) ?_
    refine x_getr hx hb hts hinRX8 hown B 0 0 1 (by decide) (by decide) (fun _ => rfl) rfl rfl (by decide) (by decide +kernel) rfl dX8_pass_20 ?_
    obtain ⟨r5, σ6, hu4, hf⟩ := zb_some hf
    refine x_v B (fun nb a g hs Bz => va_runV (As := []) (rest := []) ⟨hx, hb, hml, hown, hts⟩ (c_X6_clearExpired l hu4 _ nb a g hs) (cwV 0 hts gX8_pass_X6_clearExpired rfl rfl rfl (by decide +kernel) ⟨Nat.le_of_ble_eq_true rfl, Nat.le_of_ble_eq_true rfl⟩) (x_preV Bz (by decide) (fun _ => rfl) rfl) rfl rfl hl.1 rfl (lv_room (Nat.le_of_ble_eq_true rfl)) dX8_pass_23 ⟨Nat.le_of_ble_eq_true rfl, Nat.le_of_ble_eq_true rfl⟩) (fun H locs B => ?_)
    refine lv_iconst (v := (0 : Int32)) hx hb dX8_pass_26 (by decide) ?_
    refine lv_istore_n (lv' := [(2, .int (0 : Int32)), (0, .ref (ad 0)), (1, .int v1)]) hx hb dX8_pass_27 rfl hl (by decide) rfl (fun ls hl => ?_)
    exact L28  _ _ _ _ _ _ _ hf B (lv_sub hl [1, 2, 0] rfl)
  unfold f_X8_pass at hf
  refine lv_iload_n hx hb dX8_pass_0 rfl (lv_at hl 1 rfl) ?_
  refine lv_iconst (v := (1 : Int32)) hx hb dX8_pass_1 (by decide) ?_
  refine lv_icmp_lt (tgt := 15) hx hb dX8_pass_2 (by decide) (fun hc => ?_) (fun hc => ?_)
  · have hf := zif_t hc hf
    refine lv_iconst (v := (0 : Int32)) hx hb dX8_pass_15 (by decide) ?_
    exact L16  _ _ _ _ _ _ hf B (lv_sub hl [0, 1] rfl)
  · have hf := zif_f hc hf
    refine lv_iload_n hx hb dX8_pass_5 rfl (lv_at hl 1 rfl) ?_
    refine lv_bipush (v := (100 : Int32)) hx hb dX8_pass_6 (by decide) ?_
    refine lv_icmp_gt (tgt := 15) hx hb dX8_pass_8 (by decide) (fun hc => ?_) (fun hc => ?_)
    · have hf := zif_t hc hf
      refine lv_iconst (v := (0 : Int32)) hx hb dX8_pass_15 (by decide) ?_
      exact L16  _ _ _ _ _ _ hf B (lv_sub hl [0, 1] rfl)
    · have hf := zif_f hc hf
      refine lv_iconst (v := (1 : Int32)) hx hb dX8_pass_11 (by decide) ?_
      refine lv_goto (tgt := 16) hx hb dX8_pass_12 (by decide) ?_
      exact L16  _ _ _ _ _ _ hf B (lv_sub hl [0, 1] rfl)
theorem dX8_expired_0 : decode cX8_expired 0 = .ok (.iload_n 1, 1) := by decide +kernel
theorem dX8_expired_1 : decode cX8_expired 1 = .ok (.ifCond .lt 18, 3) := by decide +kernel
theorem dX8_expired_4 : decode cX8_expired 4 = .ok (.iload_n 1, 1) := by decide +kernel
theorem dX8_expired_5 : decode cX8_expired 5 = .ok (.aload_n 0, 1) := by decide +kernel
theorem dX8_expired_6 : decode cX8_expired 6 = .ok (.getfield 12, 3) := by decide +kernel
theorem dX8_expired_9 : decode cX8_expired 9 = .ok (.getfield 267, 3) := by decide +kernel
theorem dX8_expired_12 : decode cX8_expired 12 = .ok (.if_icmp .ge 7, 3) := by decide +kernel
theorem dX8_expired_15 : decode cX8_expired 15 = .ok (.iconst 1, 1) := by decide +kernel
theorem dX8_expired_16 : decode cX8_expired 16 = .ok (.goto 4, 3) := by decide +kernel
theorem dX8_expired_19 : decode cX8_expired 19 = .ok (.iconst 0, 1) := by decide +kernel
theorem dX8_expired_20 : decode cX8_expired 20 = .ok (.invokestatic 149, 3) := by decide +kernel
theorem dX8_expired_23 : decode cX8_expired 23 = .ok (.aload_n 0, 1) := by decide +kernel
theorem dX8_expired_24 : decode cX8_expired 24 = .ok (.getfield 12, 3) := by decide +kernel
theorem dX8_expired_27 : decode cX8_expired 27 = .ok (.getfield 270, 3) := by decide +kernel
theorem dX8_expired_30 : decode cX8_expired 30 = .ok (.iload_n 1, 1) := by decide +kernel
theorem dX8_expired_31 : decode cX8_expired 31 = .ok (.iaload, 1) := by decide +kernel
theorem dX8_expired_32 : decode cX8_expired 32 = .ok (.ireturn, 1) := by decide +kernel
set_option maxRecDepth 20000 in
theorem ggX8_expired_X8_needElement : GoodIn wsX8_expired wsX8_needElement := goodIn_ca (goodIn_r _ [7, 8, 9] (by decide +kernel) (by decide +kernel)) (goodIn_sub (fun _ h => List.mem_cons_of_mem _ (List.mem_append_right _ h)) (by decide +kernel))
set_option maxRecDepth 20000 in
theorem gX8_expired_X8_needElement : GoodIn wsX8_expired (va_wsS RX8 149 yX8_needElement wsX8_needElement) := goodIn_app (goodIn_of _ (by decide +kernel)) ggX8_expired_X8_needElement
def rm_X8_expired : Room := { frames := 9, cells := 1, slots := 6, locals := 220 }
set_option maxHeartbeats 4000000 in
set_option maxRecDepth 100000 in
theorem c_X8_expired (l : Launch) (hfl : l.stackTraces = false) {G : zG} {ad : Nat → Nat} {σ σ' : zs} {a1 : Int32} {ex : Nat} {r : Int32} (hf : f_X8_expired σ a1 = some (ex, r, σ')) : xXi l yX8_expired wsX8_expired rm_X8_expired G ad σ [.ref (ad 0), .int a1] ex r σ' := by
  intro sz nb a g hs
  refine vx_ofW (cc := cX8_expired) (maxL := 2) (ret := (some .int)) (by decide) rfl ?_
  intro p e s m args below meth c s₁ B hml hno hv
  obtain ⟨rfl, hsz, hv⟩ := hv
  have hx := B.exec
  have hb := B.bytes
  have hr := B.returns
  have hts := atoms_spec (ws := wsX8_expired) B.pre
  have hown : s.vm.findClass RX8 = some m.cls := findClass_of_methodNamed B.named
  have hlocks := B.notSynchronized
  subst hsz
  have B := xB_start hs hv
  have hinRX6 : ∀ w ∈ wsX60, w ∈ wsX8_expired := by decide +kernel
  have hinRX8 : ∀ w ∈ wsX80, w ∈ wsX8_expired := by decide +kernel
  have hl := lv_entry ([.ref (ad 0), .int a1]) (n := 2) (Nat.le_of_ble_eq_true rfl)
  rw [lg_entry_eq]
  generalize (lg_sl ([.ref (ad 0), .int a1]) ++ List.replicate (2 - (lg_sl ([.ref (ad 0), .int a1])).length) Slot.unset).toArray = ls at hl ⊢
  have hl : lv_has ls 2 [(0, .ref (ad 0)), (1, .int a1)] := hl
  generalize hAe : xA ad a s.heap.size = A at B ⊢
  have L20 : ∀ (σ : zs) (v1 : Int32) (s0 : Int32) (H : Heap) (locs : List Loc) (ls : Array Slot), f_X8_expired_20 σ v1 s0 = some (ex, r, σ') → xB A s G ad σ H locs → lv_has ls 2 [(0, .ref (ad 0)), (1, .int v1)] → W p l e (headSpec wsX8_expired rm_X8_expired).room s m ([.ref (ad 0), .int a1] : List Value).toArray below meth c H locs 0 0 (vx_MQ below (va_Qi (fun r' (u : xV) => (ex = 0 ∧ r' = r) ∧ xQ σ' u) (xPost G ad σ' A) A) (xXC G ad ex σ' A) ([.ref (ad 0), .int a1] : List Value).toArray s 1 6 A) (F0 m 20 ls [.int s0]) := by
    intro σ v1 s0 H locs ls hf B hl
    unfold f_X8_expired_20 at hf
    obtain ⟨u1, r2, σ3, hu1, hf⟩ := zx_some hf
    refine x_xv B (fun nb a g hs Bz => vx_runS (As := [.int s0]) (rest := []) ⟨hx, hb, hml, hown, hts⟩ (c_X8_needElement l hfl hu1 _ nb a g hs) (va_cwS 1 hts gX8_expired_X8_needElement rfl rfl rfl (by decide +kernel) ⟨Nat.le_of_ble_eq_true rfl, Nat.le_of_ble_eq_true rfl⟩) (z_preS Bz) rfl rfl hl.1 rfl (lv_room (Nat.le_of_ble_eq_true rfl)) dX8_expired_20 ⟨Nat.le_of_ble_eq_true rfl, Nat.le_of_ble_eq_true rfl⟩) (fun H locs ce q9 h0 B k1 k2 k3 => ?_) (fun H locs h0 B => ?_)
    · exact x_xout hno hlocks (zx_no hf h0) h0 B k1 k2 k3 (Nat.le_of_ble_eq_true rfl) (Nat.le_of_ble_eq_true rfl)
    have hf := zx_ok hf h0
    refine lv_aload_n hx hb dX8_expired_23 rfl (lv_at hl 0 rfl) ?_
    refine x_getr hx hb hts hinRX8 hown B 0 0 1 (by decide) (by decide) (fun _ => rfl) rfl rfl (by decide) (by decide +kernel) rfl dX8_expired_24 ?_
    refine x_getr hx hb hts hinRX6 hown B 1 6 24 (by decide) (by decide) (fun _ => rfl) rfl rfl (by decide) (by decide +kernel) rfl dX8_expired_27 ?_
    refine lv_iload_n hx hb dX8_expired_30 rfl (lv_at hl 1 rfl) ?_
    obtain ⟨hg, hf⟩ := zg_some hf
    refine x_iald hx hb B 24 (by decide) (fun _ => rfl) (zin_ok hg) dX8_expired_31 ?_
    refine W.widen (k := 1) (n := 6) (Nat.le_of_ble_eq_true rfl) (Nat.le_of_ble_eq_true rfl) ?_
    exact x_xiret hx hb hr rfl hlocks B hf dX8_expired_32
  unfold f_X8_expired at hf
  refine lv_iload_n hx hb dX8_expired_0 rfl (lv_at hl 1 rfl) ?_
  refine lv_if_lt (tgt := 19) hx hb dX8_expired_1 (by decide) (fun hc => ?_) (fun hc => ?_)
  · have hf := zif_t hc hf
    refine lv_iconst (v := (0 : Int32)) hx hb dX8_expired_19 (by decide) ?_
    exact L20  _ _ _ _ _ _ hf B (lv_sub hl [0, 1] rfl)
  · have hf := zif_f hc hf
    refine lv_iload_n hx hb dX8_expired_4 rfl (lv_at hl 1 rfl) ?_
    refine lv_aload_n hx hb dX8_expired_5 rfl (lv_at hl 0 rfl) ?_
    refine x_getr hx hb hts hinRX8 hown B 0 0 1 (by decide) (by decide) (fun _ => rfl) rfl rfl (by decide) (by decide +kernel) rfl dX8_expired_6 ?_
    refine x_geti hx hb hts hinRX6 hown B 1 7 (by decide) (fun _ => rfl) rfl rfl (by decide) (by decide +kernel) rfl dX8_expired_9 ?_
    refine lv_icmp_ge (tgt := 19) hx hb dX8_expired_12 (by decide) (fun hc => ?_) (fun hc => ?_)
    · have hf := zif_t hc hf
      refine lv_iconst (v := (0 : Int32)) hx hb dX8_expired_19 (by decide) ?_
      exact L20  _ _ _ _ _ _ hf B (lv_sub hl [0, 1] rfl)
    · have hf := zif_f hc hf
      refine lv_iconst (v := (1 : Int32)) hx hb dX8_expired_15 (by decide) ?_
      refine lv_goto (tgt := 20) hx hb dX8_expired_16 (by decide) ?_
      exact L20  _ _ _ _ _ _ hf B (lv_sub hl [0, 1] rfl)
theorem dX8_log_0 : decode cX8_log 0 = .ok (.iload_n 1, 1) := by decide +kernel
theorem dX8_log_1 : decode cX8_log 1 = .ok (.ifCond .lt 21, 3) := by decide +kernel
theorem dX8_log_4 : decode cX8_log 4 = .ok (.iload_n 1, 1) := by decide +kernel
theorem dX8_log_5 : decode cX8_log 5 = .ok (.aload_n 0, 1) := by decide +kernel
theorem dX8_log_6 : decode cX8_log 6 = .ok (.getfield 12, 3) := by decide +kernel
theorem dX8_log_9 : decode cX8_log 9 = .ok (.getfield 234, 3) := by decide +kernel
theorem dX8_log_12 : decode cX8_log 12 = .ok (.getfield 273, 3) := by decide +kernel
theorem dX8_log_15 : decode cX8_log 15 = .ok (.if_icmp .ge 7, 3) := by decide +kernel
theorem dX8_log_18 : decode cX8_log 18 = .ok (.iconst 1, 1) := by decide +kernel
theorem dX8_log_19 : decode cX8_log 19 = .ok (.goto 4, 3) := by decide +kernel
theorem dX8_log_22 : decode cX8_log 22 = .ok (.iconst 0, 1) := by decide +kernel
theorem dX8_log_23 : decode cX8_log 23 = .ok (.invokestatic 149, 3) := by decide +kernel
theorem dX8_log_26 : decode cX8_log 26 = .ok (.aload_n 0, 1) := by decide +kernel
theorem dX8_log_27 : decode cX8_log 27 = .ok (.getfield 12, 3) := by decide +kernel
theorem dX8_log_30 : decode cX8_log 30 = .ok (.getfield 234, 3) := by decide +kernel
theorem dX8_log_33 : decode cX8_log 33 = .ok (.getfield 276, 3) := by decide +kernel
theorem dX8_log_36 : decode cX8_log 36 = .ok (.iload_n 1, 1) := by decide +kernel
theorem dX8_log_37 : decode cX8_log 37 = .ok (.iaload, 1) := by decide +kernel
theorem dX8_log_38 : decode cX8_log 38 = .ok (.ireturn, 1) := by decide +kernel
set_option maxRecDepth 20000 in
theorem ggX8_log_X8_needElement : GoodIn wsX8_log wsX8_needElement := goodIn_ca (goodIn_r _ [8, 9, 10] (by decide +kernel) (by decide +kernel)) (goodIn_sub (fun _ h => List.mem_cons_of_mem _ (List.mem_append_right _ h)) (by decide +kernel))
set_option maxRecDepth 20000 in
theorem gX8_log_X8_needElement : GoodIn wsX8_log (va_wsS RX8 149 yX8_needElement wsX8_needElement) := goodIn_app (goodIn_of _ (by decide +kernel)) ggX8_log_X8_needElement
def rm_X8_log : Room := { frames := 9, cells := 1, slots := 6, locals := 220 }
set_option maxHeartbeats 4000000 in
set_option maxRecDepth 100000 in
theorem c_X8_log (l : Launch) (hfl : l.stackTraces = false) {G : zG} {ad : Nat → Nat} {σ σ' : zs} {a1 : Int32} {ex : Nat} {r : Int32} (hf : f_X8_log σ a1 = some (ex, r, σ')) : xXi l yX8_log wsX8_log rm_X8_log G ad σ [.ref (ad 0), .int a1] ex r σ' := by
  intro sz nb a g hs
  refine vx_ofW (cc := cX8_log) (maxL := 2) (ret := (some .int)) (by decide) rfl ?_
  intro p e s m args below meth c s₁ B hml hno hv
  obtain ⟨rfl, hsz, hv⟩ := hv
  have hx := B.exec
  have hb := B.bytes
  have hr := B.returns
  have hts := atoms_spec (ws := wsX8_log) B.pre
  have hown : s.vm.findClass RX8 = some m.cls := findClass_of_methodNamed B.named
  have hlocks := B.notSynchronized
  subst hsz
  have B := xB_start hs hv
  have hinRX2 : ∀ w ∈ wsX20, w ∈ wsX8_log := by decide +kernel
  have hinRX6 : ∀ w ∈ wsX60, w ∈ wsX8_log := by decide +kernel
  have hinRX8 : ∀ w ∈ wsX80, w ∈ wsX8_log := by decide +kernel
  have hl := lv_entry ([.ref (ad 0), .int a1]) (n := 2) (Nat.le_of_ble_eq_true rfl)
  rw [lg_entry_eq]
  generalize (lg_sl ([.ref (ad 0), .int a1]) ++ List.replicate (2 - (lg_sl ([.ref (ad 0), .int a1])).length) Slot.unset).toArray = ls at hl ⊢
  have hl : lv_has ls 2 [(0, .ref (ad 0)), (1, .int a1)] := hl
  generalize hAe : xA ad a s.heap.size = A at B ⊢
  have L23 : ∀ (σ : zs) (v1 : Int32) (s0 : Int32) (H : Heap) (locs : List Loc) (ls : Array Slot), f_X8_log_23 σ v1 s0 = some (ex, r, σ') → xB A s G ad σ H locs → lv_has ls 2 [(0, .ref (ad 0)), (1, .int v1)] → W p l e (headSpec wsX8_log rm_X8_log).room s m ([.ref (ad 0), .int a1] : List Value).toArray below meth c H locs 0 0 (vx_MQ below (va_Qi (fun r' (u : xV) => (ex = 0 ∧ r' = r) ∧ xQ σ' u) (xPost G ad σ' A) A) (xXC G ad ex σ' A) ([.ref (ad 0), .int a1] : List Value).toArray s 1 6 A) (F0 m 23 ls [.int s0]) := by
    intro σ v1 s0 H locs ls hf B hl
    unfold f_X8_log_23 at hf
    obtain ⟨u1, r2, σ3, hu1, hf⟩ := zx_some hf
    refine x_xv B (fun nb a g hs Bz => vx_runS (As := [.int s0]) (rest := []) ⟨hx, hb, hml, hown, hts⟩ (c_X8_needElement l hfl hu1 _ nb a g hs) (va_cwS 1 hts gX8_log_X8_needElement rfl rfl rfl (by decide +kernel) ⟨Nat.le_of_ble_eq_true rfl, Nat.le_of_ble_eq_true rfl⟩) (z_preS Bz) rfl rfl hl.1 rfl (lv_room (Nat.le_of_ble_eq_true rfl)) dX8_log_23 ⟨Nat.le_of_ble_eq_true rfl, Nat.le_of_ble_eq_true rfl⟩) (fun H locs ce q9 h0 B k1 k2 k3 => ?_) (fun H locs h0 B => ?_)
    · exact x_xout hno hlocks (zx_no hf h0) h0 B k1 k2 k3 (Nat.le_of_ble_eq_true rfl) (Nat.le_of_ble_eq_true rfl)
    have hf := zx_ok hf h0
    refine lv_aload_n hx hb dX8_log_26 rfl (lv_at hl 0 rfl) ?_
    refine x_getr hx hb hts hinRX8 hown B 0 0 1 (by decide) (by decide) (fun _ => rfl) rfl rfl (by decide) (by decide +kernel) rfl dX8_log_27 ?_
    refine x_getr hx hb hts hinRX6 hown B 1 2 20 (by decide) (by decide) (fun _ => rfl) rfl rfl (by decide) (by decide +kernel) rfl dX8_log_30 ?_
    refine x_getr hx hb hts hinRX2 hown B 20 0 21 (by decide) (by decide) (fun _ => rfl) rfl rfl (by decide) (by decide +kernel) rfl dX8_log_33 ?_
    refine lv_iload_n hx hb dX8_log_36 rfl (lv_at hl 1 rfl) ?_
    obtain ⟨hg, hf⟩ := zg_some hf
    refine x_iald hx hb B 21 (by decide) (fun _ => rfl) (zin_ok hg) dX8_log_37 ?_
    refine W.widen (k := 1) (n := 6) (Nat.le_of_ble_eq_true rfl) (Nat.le_of_ble_eq_true rfl) ?_
    exact x_xiret hx hb hr rfl hlocks B hf dX8_log_38
  unfold f_X8_log at hf
  refine lv_iload_n hx hb dX8_log_0 rfl (lv_at hl 1 rfl) ?_
  refine lv_if_lt (tgt := 22) hx hb dX8_log_1 (by decide) (fun hc => ?_) (fun hc => ?_)
  · have hf := zif_t hc hf
    refine lv_iconst (v := (0 : Int32)) hx hb dX8_log_22 (by decide) ?_
    exact L23  _ _ _ _ _ _ hf B (lv_sub hl [0, 1] rfl)
  · have hf := zif_f hc hf
    refine lv_iload_n hx hb dX8_log_4 rfl (lv_at hl 1 rfl) ?_
    refine lv_aload_n hx hb dX8_log_5 rfl (lv_at hl 0 rfl) ?_
    refine x_getr hx hb hts hinRX8 hown B 0 0 1 (by decide) (by decide) (fun _ => rfl) rfl rfl (by decide) (by decide +kernel) rfl dX8_log_6 ?_
    refine x_getr hx hb hts hinRX6 hown B 1 2 20 (by decide) (by decide) (fun _ => rfl) rfl rfl (by decide) (by decide +kernel) rfl dX8_log_9 ?_
    refine x_geti hx hb hts hinRX2 hown B 20 1 (by decide) (fun _ => rfl) rfl rfl (by decide) (by decide +kernel) rfl dX8_log_12 ?_
    refine lv_icmp_ge (tgt := 22) hx hb dX8_log_15 (by decide) (fun hc => ?_) (fun hc => ?_)
    · have hf := zif_t hc hf
      refine lv_iconst (v := (0 : Int32)) hx hb dX8_log_22 (by decide) ?_
      exact L23  _ _ _ _ _ _ hf B (lv_sub hl [0, 1] rfl)
    · have hf := zif_f hc hf
      refine lv_iconst (v := (1 : Int32)) hx hb dX8_log_18 (by decide) ?_
      refine lv_goto (tgt := 23) hx hb dX8_log_19 (by decide) ?_
      exact L23  _ _ _ _ _ _ hf B (lv_sub hl [0, 1] rfl)
theorem dX8_logged_0 : decode cX8_logged 0 = .ok (.iload_n 1, 1) := by decide +kernel
theorem dX8_logged_1 : decode cX8_logged 1 = .ok (.invokestatic 55, 3) := by decide +kernel
theorem dX8_logged_4 : decode cX8_logged 4 = .ok (.aload_n 0, 1) := by decide +kernel
theorem dX8_logged_5 : decode cX8_logged 5 = .ok (.getfield 12, 3) := by decide +kernel
theorem dX8_logged_8 : decode cX8_logged 8 = .ok (.getfield 234, 3) := by decide +kernel
theorem dX8_logged_11 : decode cX8_logged 11 = .ok (.iload_n 1, 1) := by decide +kernel
theorem dX8_logged_12 : decode cX8_logged 12 = .ok (.iload_n 2, 1) := by decide +kernel
theorem dX8_logged_13 : decode cX8_logged 13 = .ok (.invokevirtual 279, 3) := by decide +kernel
theorem dX8_logged_16 : decode cX8_logged 16 = .ok (.ireturn, 1) := by decide +kernel
set_option maxRecDepth 20000 in
theorem ggX8_logged_X8_needSubject : GoodIn wsX8_logged wsX8_needSubject := goodIn_ca (goodIn_r _ [6, 7, 8, 5, 9, 10, 11] (by decide +kernel) (by decide +kernel)) (goodIn_sub (fun _ h => List.mem_cons_of_mem _ (List.mem_append_left _ (List.mem_append_right _ h))) (by decide +kernel))
set_option maxRecDepth 20000 in
theorem gX8_logged_X8_needSubject : GoodIn wsX8_logged (va_wsS RX8 55 yX8_needSubject wsX8_needSubject) := goodIn_app (goodIn_of _ (by decide +kernel)) ggX8_logged_X8_needSubject
set_option maxRecDepth 20000 in
theorem ggX8_logged_X2_numberOf : GoodIn wsX8_logged wsX2_numberOf := goodIn_ca (goodIn_r _ [16, 17, 18, 35, 36, 37, 38] (by decide +kernel) (by decide +kernel)) (goodIn_sub (fun _ h => List.mem_cons_of_mem _ (List.mem_append_right _ h)) (by decide +kernel))
set_option maxRecDepth 20000 in
theorem gX8_logged_X2_numberOf : GoodIn wsX8_logged (wsV RX8 279 RX2 yX2_numberOf wsX2_numberOf) := goodIn_app (goodIn_of _ (by decide +kernel)) ggX8_logged_X2_numberOf
def rm_X8_logged : Room := { frames := 10, cells := 1, slots := 6, locals := 240 }
set_option maxHeartbeats 4000000 in
set_option maxRecDepth 100000 in
theorem c_X8_logged (l : Launch) (hfl : l.stackTraces = false) {G : zG} {ad : Nat → Nat} {σ σ' : zs} {a1 a2 : Int32} {ex : Nat} {r : Int32} (hf : f_X8_logged σ a1 a2 = some (ex, r, σ')) : xXi l yX8_logged wsX8_logged rm_X8_logged G ad σ [.ref (ad 0), .int a1, .int a2] ex r σ' := by
  intro sz nb a g hs
  refine vx_ofW (cc := cX8_logged) (maxL := 3) (ret := (some .int)) (by decide) rfl ?_
  intro p e s m args below meth c s₁ B hml hno hv
  obtain ⟨rfl, hsz, hv⟩ := hv
  have hx := B.exec
  have hb := B.bytes
  have hr := B.returns
  have hts := atoms_spec (ws := wsX8_logged) B.pre
  have hown : s.vm.findClass RX8 = some m.cls := findClass_of_methodNamed B.named
  have hlocks := B.notSynchronized
  subst hsz
  have B := xB_start hs hv
  have hinRX6 : ∀ w ∈ wsX60, w ∈ wsX8_logged := by decide +kernel
  have hinRX8 : ∀ w ∈ wsX80, w ∈ wsX8_logged := by decide +kernel
  have hl := lv_entry ([.ref (ad 0), .int a1, .int a2]) (n := 3) (Nat.le_of_ble_eq_true rfl)
  rw [lg_entry_eq]
  generalize (lg_sl ([.ref (ad 0), .int a1, .int a2]) ++ List.replicate (3 - (lg_sl ([.ref (ad 0), .int a1, .int a2])).length) Slot.unset).toArray = ls at hl ⊢
  have hl : lv_has ls 3 [(0, .ref (ad 0)), (1, .int a1), (2, .int a2)] := hl
  generalize hAe : xA ad a s.heap.size = A at B ⊢
  unfold f_X8_logged at hf
  refine lv_iload_n hx hb dX8_logged_0 rfl (lv_at hl 1 rfl) ?_
  obtain ⟨u1, r2, σ3, hu1, hf⟩ := zx_some hf
  refine x_xv B (fun nb a g hs Bz => vx_runS (As := [.int a1]) (rest := []) ⟨hx, hb, hml, hown, hts⟩ (c_X8_needSubject l hfl hu1 _ nb a g hs) (va_cwS 1 hts gX8_logged_X8_needSubject rfl rfl rfl (by decide +kernel) ⟨Nat.le_of_ble_eq_true rfl, Nat.le_of_ble_eq_true rfl⟩) (z_preS Bz) rfl rfl hl.1 rfl (lv_room (Nat.le_of_ble_eq_true rfl)) dX8_logged_1 ⟨Nat.le_of_ble_eq_true rfl, Nat.le_of_ble_eq_true rfl⟩) (fun H locs ce q9 h0 B k1 k2 k3 => ?_) (fun H locs h0 B => ?_)
  · exact x_xout hno hlocks (zx_no hf h0) h0 B k1 k2 k3 (Nat.le_of_ble_eq_true rfl) (Nat.le_of_ble_eq_true rfl)
  have hf := zx_ok hf h0
  refine lv_aload_n hx hb dX8_logged_4 rfl (lv_at hl 0 rfl) ?_
  refine x_getr hx hb hts hinRX8 hown B 0 0 1 (by decide) (by decide) (fun _ => rfl) rfl rfl (by decide) (by decide +kernel) rfl dX8_logged_5 ?_
  refine x_getr hx hb hts hinRX6 hown B 1 2 20 (by decide) (by decide) (fun _ => rfl) rfl rfl (by decide) (by decide +kernel) rfl dX8_logged_8 ?_
  refine lv_iload_n hx hb dX8_logged_11 rfl (lv_at hl 1 rfl) ?_
  refine lv_iload_n hx hb dX8_logged_12 rfl (lv_at hl 2 rfl) ?_
  obtain ⟨r5, σ6, hu4, hf⟩ := zb_some hf
  refine x_i B (fun nb a g hs Bz => va_runV (As := [.int a1, .int a2]) (rest := []) ⟨hx, hb, hml, hown, hts⟩ (c_X2_numberOf l hu4 _ nb a g hs) (cwV 2 hts gX8_logged_X2_numberOf rfl rfl rfl (by decide +kernel) ⟨Nat.le_of_ble_eq_true rfl, Nat.le_of_ble_eq_true rfl⟩) (x_preV Bz (by decide) (fun _ => rfl) rfl) rfl rfl hl.1 rfl (lv_room (Nat.le_of_ble_eq_true rfl)) dX8_logged_13 ⟨Nat.le_of_ble_eq_true rfl, Nat.le_of_ble_eq_true rfl⟩) (fun H locs B => ?_)
  refine W.widen (k := 1) (n := 6) (Nat.le_of_ble_eq_true rfl) (Nat.le_of_ble_eq_true rfl) ?_
  exact x_xiret hx hb hr rfl hlocks B hf dX8_logged_16
theorem dX8_levels_0 : decode cX8_levels 0 = .ok (.aload_n 0, 1) := by decide +kernel
theorem dX8_levels_1 : decode cX8_levels 1 = .ok (.getfield 26, 3) := by decide +kernel
theorem dX8_levels_4 : decode cX8_levels 4 = .ok (.getfield 283, 3) := by decide +kernel
theorem dX8_levels_7 : decode cX8_levels 7 = .ok (.ireturn, 1) := by decide +kernel
def rm_X8_levels : Room := { frames := 1, cells := 0, slots := 0, locals := 16 }
set_option maxHeartbeats 4000000 in
set_option maxRecDepth 100000 in
theorem c_X8_levels (l : Launch) {G : zG} {ad : Nat → Nat} {σ σ' : zs} {r : Int32} (hf : f_X8_levels σ  = some (r, σ')) : xMi l yX8_levels wsX8_levels rm_X8_levels G ad σ [.ref (ad 0)] r σ' := by
  intro sz nb a g hs
  refine Met.ofW (cc := cX8_levels) (maxL := 1) (ret := (some .int)) (by decide) rfl ?_
  intro p e s m args below meth c s₁ B hml hv
  obtain ⟨rfl, hsz, hv⟩ := hv
  have hx := B.exec
  have hb := B.bytes
  have hr := B.returns
  have hts := atoms_spec (ws := wsX8_levels) B.pre
  have hown : s.vm.findClass RX8 = some m.cls := findClass_of_methodNamed B.named
  have hlocks := B.notSynchronized
  subst hsz
  have B := xB_start hs hv
  have hinRX5 : ∀ w ∈ wsX50, w ∈ wsX8_levels := by decide +kernel
  have hinRX8 : ∀ w ∈ wsX80, w ∈ wsX8_levels := by decide +kernel
  have hl := lv_entry ([.ref (ad 0)]) (n := 1) (Nat.le_of_ble_eq_true rfl)
  rw [lg_entry_eq]
  generalize (lg_sl ([.ref (ad 0)]) ++ List.replicate (1 - (lg_sl ([.ref (ad 0)])).length) Slot.unset).toArray = ls at hl ⊢
  have hl : lv_has ls 1 [(0, .ref (ad 0))] := hl
  generalize hAe : xA ad a s.heap.size = A at B ⊢
  unfold f_X8_levels at hf
  refine lv_aload_n hx hb dX8_levels_0 rfl (lv_at hl 0 rfl) ?_
  refine x_getr hx hb hts hinRX8 hown B 0 3 49 (by decide) (by decide) (fun _ => rfl) rfl rfl (by decide) (by decide +kernel) rfl dX8_levels_1 ?_
  refine x_geti hx hb hts hinRX5 hown B 49 2 (by decide) (fun _ => rfl) rfl rfl (by decide) (by decide +kernel) rfl dX8_levels_4 ?_
  refine W.widen (k := 0) (n := 0) (Nat.le_of_ble_eq_true rfl) (Nat.le_of_ble_eq_true rfl) ?_
  exact x_iret hx hb hr rfl hlocks B hf dX8_levels_7
theorem dX8_report_0 : decode cX8_report 0 = .ok (.iload_n 1, 1) := by decide +kernel
theorem dX8_report_1 : decode cX8_report 1 = .ok (.ifCond .lt 18, 3) := by decide +kernel
theorem dX8_report_4 : decode cX8_report 4 = .ok (.iload_n 1, 1) := by decide +kernel
theorem dX8_report_5 : decode cX8_report 5 = .ok (.aload_n 0, 1) := by decide +kernel
theorem dX8_report_6 : decode cX8_report 6 = .ok (.getfield 26, 3) := by decide +kernel
theorem dX8_report_9 : decode cX8_report 9 = .ok (.getfield 283, 3) := by decide +kernel
theorem dX8_report_12 : decode cX8_report 12 = .ok (.if_icmp .ge 7, 3) := by decide +kernel
theorem dX8_report_15 : decode cX8_report 15 = .ok (.iconst 1, 1) := by decide +kernel
theorem dX8_report_16 : decode cX8_report 16 = .ok (.goto 4, 3) := by decide +kernel
theorem dX8_report_19 : decode cX8_report 19 = .ok (.iconst 0, 1) := by decide +kernel
theorem dX8_report_20 : decode cX8_report 20 = .ok (.invokestatic 149, 3) := by decide +kernel
theorem dX8_report_23 : decode cX8_report 23 = .ok (.iload_n 2, 1) := by decide +kernel
theorem dX8_report_24 : decode cX8_report 24 = .ok (.ifCond .eq 8, 3) := by decide +kernel
theorem dX8_report_27 : decode cX8_report 27 = .ok (.iload_n 2, 1) := by decide +kernel
theorem dX8_report_28 : decode cX8_report 28 = .ok (.iconst 1, 1) := by decide +kernel
theorem dX8_report_29 : decode cX8_report 29 = .ok (.if_icmp .ne 7, 3) := by decide +kernel
theorem dX8_report_32 : decode cX8_report 32 = .ok (.iconst 1, 1) := by decide +kernel
theorem dX8_report_33 : decode cX8_report 33 = .ok (.goto 4, 3) := by decide +kernel
theorem dX8_report_36 : decode cX8_report 36 = .ok (.iconst 0, 1) := by decide +kernel
theorem dX8_report_37 : decode cX8_report 37 = .ok (.invokestatic 62, 3) := by decide +kernel
theorem dX8_report_40 : decode cX8_report 40 = .ok (.iload_n 2, 1) := by decide +kernel
theorem dX8_report_41 : decode cX8_report 41 = .ok (.ifCond .ne 15, 3) := by decide +kernel
theorem dX8_report_44 : decode cX8_report 44 = .ok (.aload_n 0, 1) := by decide +kernel
theorem dX8_report_45 : decode cX8_report 45 = .ok (.getfield 26, 3) := by decide +kernel
theorem dX8_report_48 : decode cX8_report 48 = .ok (.getfield 286, 3) := by decide +kernel
theorem dX8_report_51 : decode cX8_report 51 = .ok (.iload_n 1, 1) := by decide +kernel
theorem dX8_report_52 : decode cX8_report 52 = .ok (.iaload, 1) := by decide +kernel
theorem dX8_report_53 : decode cX8_report 53 = .ok (.goto 12, 3) := by decide +kernel
theorem dX8_report_56 : decode cX8_report 56 = .ok (.aload_n 0, 1) := by decide +kernel
theorem dX8_report_57 : decode cX8_report 57 = .ok (.getfield 26, 3) := by decide +kernel
theorem dX8_report_60 : decode cX8_report 60 = .ok (.getfield 289, 3) := by decide +kernel
theorem dX8_report_63 : decode cX8_report 63 = .ok (.iload_n 1, 1) := by decide +kernel
theorem dX8_report_64 : decode cX8_report 64 = .ok (.iaload, 1) := by decide +kernel
theorem dX8_report_65 : decode cX8_report 65 = .ok (.ireturn, 1) := by decide +kernel
set_option maxRecDepth 20000 in
theorem ggX8_report_X8_needElement : GoodIn wsX8_report wsX8_needElement := goodIn_ca (goodIn_r _ [8, 9, 10] (by decide +kernel) (by decide +kernel)) (goodIn_sub (fun _ h => List.mem_cons_of_mem _ (List.mem_append_left _ (List.mem_append_right _ h))) (by decide +kernel))
set_option maxRecDepth 20000 in
theorem gX8_report_X8_needElement : GoodIn wsX8_report (va_wsS RX8 149 yX8_needElement wsX8_needElement) := goodIn_app (goodIn_of _ (by decide +kernel)) ggX8_report_X8_needElement
set_option maxRecDepth 20000 in
theorem ggX8_report_X8_needArgument : GoodIn wsX8_report wsX8_needArgument := goodIn_ca (goodIn_r _ [13, 14, 15] (by decide +kernel) (by decide +kernel)) (goodIn_sub (fun _ h => List.mem_cons_of_mem _ (List.mem_append_right _ h)) (by decide +kernel))
set_option maxRecDepth 20000 in
theorem gX8_report_X8_needArgument : GoodIn wsX8_report (va_wsS RX8 62 yX8_needArgument wsX8_needArgument) := goodIn_app (goodIn_of _ (by decide +kernel)) ggX8_report_X8_needArgument
def rm_X8_report : Room := { frames := 9, cells := 2, slots := 12, locals := 220 }
set_option maxHeartbeats 4000000 in
set_option maxRecDepth 100000 in
theorem c_X8_report (l : Launch) (hfl : l.stackTraces = false) {G : zG} {ad : Nat → Nat} {σ σ' : zs} {a1 a2 : Int32} {ex : Nat} {r : Int32} (hf : f_X8_report σ a1 a2 = some (ex, r, σ')) : xXi l yX8_report wsX8_report rm_X8_report G ad σ [.ref (ad 0), .int a1, .int a2] ex r σ' := by
  intro sz nb a g hs
  refine vx_ofW (cc := cX8_report) (maxL := 3) (ret := (some .int)) (by decide) rfl ?_
  intro p e s m args below meth c s₁ B hml hno hv
  obtain ⟨rfl, hsz, hv⟩ := hv
  have hx := B.exec
  have hb := B.bytes
  have hr := B.returns
  have hts := atoms_spec (ws := wsX8_report) B.pre
  have hown : s.vm.findClass RX8 = some m.cls := findClass_of_methodNamed B.named
  have hlocks := B.notSynchronized
  subst hsz
  have B := xB_start hs hv
  have hinRX5 : ∀ w ∈ wsX50, w ∈ wsX8_report := by decide +kernel
  have hinRX8 : ∀ w ∈ wsX80, w ∈ wsX8_report := by decide +kernel
  have hl := lv_entry ([.ref (ad 0), .int a1, .int a2]) (n := 3) (Nat.le_of_ble_eq_true rfl)
  rw [lg_entry_eq]
  generalize (lg_sl ([.ref (ad 0), .int a1, .int a2]) ++ List.replicate (3 - (lg_sl ([.ref (ad 0), .int a1, .int a2])).length) Slot.unset).toArray = ls at hl ⊢
  have hl : lv_has ls 3 [(0, .ref (ad 0)), (1, .int a1), (2, .int a2)] := hl
  generalize hAe : xA ad a s.heap.size = A at B ⊢
  have L37 : ∀ (σ : zs) (v1 : Int32) (v2 : Int32) (s0 : Int32) (H : Heap) (locs : List Loc) (ls : Array Slot), f_X8_report_37 σ v1 v2 s0 = some (ex, r, σ') → xB A s G ad σ H locs → lv_has ls 3 [(0, .ref (ad 0)), (1, .int v1), (2, .int v2)] → W p l e (headSpec wsX8_report rm_X8_report).room s m ([.ref (ad 0), .int a1, .int a2] : List Value).toArray below meth c H locs 1 6 (vx_MQ below (va_Qi (fun r' (u : xV) => (ex = 0 ∧ r' = r) ∧ xQ σ' u) (xPost G ad σ' A) A) (xXC G ad ex σ' A) ([.ref (ad 0), .int a1, .int a2] : List Value).toArray s 2 12 A) (F0 m 37 ls [.int s0]) := by
    intro σ v1 v2 s0 H locs ls hf B hl
    unfold f_X8_report_37 at hf
    obtain ⟨u4, r5, σ6, hu4, hf⟩ := zx_some hf
    refine x_xv B (fun nb a g hs Bz => vx_runS (As := [.int s0]) (rest := []) ⟨hx, hb, hml, hown, hts⟩ (c_X8_needArgument l hfl hu4 _ nb a g hs) (va_cwS 1 hts gX8_report_X8_needArgument rfl rfl rfl (by decide +kernel) ⟨Nat.le_of_ble_eq_true rfl, Nat.le_of_ble_eq_true rfl⟩) (z_preS Bz) rfl rfl hl.1 rfl (lv_room (Nat.le_of_ble_eq_true rfl)) dX8_report_37 ⟨Nat.le_of_ble_eq_true rfl, Nat.le_of_ble_eq_true rfl⟩) (fun H locs ce q9 h0 B k1 k2 k3 => ?_) (fun H locs h0 B => ?_)
    · exact x_xout hno hlocks (zx_no hf h0) h0 B k1 k2 k3 (Nat.le_of_ble_eq_true rfl) (Nat.le_of_ble_eq_true rfl)
    have hf := zx_ok hf h0
    refine lv_iload_n hx hb dX8_report_40 rfl (lv_at hl 2 rfl) ?_
    refine lv_if_ne (tgt := 56) hx hb dX8_report_41 (by decide) (fun hc => ?_) (fun hc => ?_)
    · have hf := zif_f hc hf
      refine lv_aload_n hx hb dX8_report_56 rfl (lv_at hl 0 rfl) ?_
      refine x_getr hx hb hts hinRX8 hown B 0 3 49 (by decide) (by decide) (fun _ => rfl) rfl rfl (by decide) (by decide +kernel) rfl dX8_report_57 ?_
      refine x_getr hx hb hts hinRX5 hown B 49 1 51 (by decide) (by decide) (fun _ => rfl) rfl rfl (by decide) (by decide +kernel) rfl dX8_report_60 ?_
      refine lv_iload_n hx hb dX8_report_63 rfl (lv_at hl 1 rfl) ?_
      obtain ⟨hg, hf⟩ := zg_some hf
      refine x_iald hx hb B 51 (by decide) (fun _ => rfl) (zin_ok hg) dX8_report_64 ?_
      refine W.widen (k := 2) (n := 12) (Nat.le_of_ble_eq_true rfl) (Nat.le_of_ble_eq_true rfl) ?_
      exact x_xiret hx hb hr rfl hlocks B hf dX8_report_65
    · have hf := zif_t hc hf
      refine lv_aload_n hx hb dX8_report_44 rfl (lv_at hl 0 rfl) ?_
      refine x_getr hx hb hts hinRX8 hown B 0 3 49 (by decide) (by decide) (fun _ => rfl) rfl rfl (by decide) (by decide +kernel) rfl dX8_report_45 ?_
      refine x_getr hx hb hts hinRX5 hown B 49 0 50 (by decide) (by decide) (fun _ => rfl) rfl rfl (by decide) (by decide +kernel) rfl dX8_report_48 ?_
      refine lv_iload_n hx hb dX8_report_51 rfl (lv_at hl 1 rfl) ?_
      obtain ⟨hg, hf⟩ := zg_some hf
      refine x_iald hx hb B 50 (by decide) (fun _ => rfl) (zin_ok hg) dX8_report_52 ?_
      refine lv_goto (tgt := 65) hx hb dX8_report_53 (by decide) ?_
      refine W.widen (k := 2) (n := 12) (Nat.le_of_ble_eq_true rfl) (Nat.le_of_ble_eq_true rfl) ?_
      exact x_xiret hx hb hr rfl hlocks B hf dX8_report_65
  have L20 : ∀ (σ : zs) (v1 : Int32) (v2 : Int32) (s0 : Int32) (H : Heap) (locs : List Loc) (ls : Array Slot), f_X8_report_20 σ v1 v2 s0 = some (ex, r, σ') → xB A s G ad σ H locs → lv_has ls 3 [(0, .ref (ad 0)), (1, .int v1), (2, .int v2)] → W p l e (headSpec wsX8_report rm_X8_report).room s m ([.ref (ad 0), .int a1, .int a2] : List Value).toArray below meth c H locs 0 0 (vx_MQ below (va_Qi (fun r' (u : xV) => (ex = 0 ∧ r' = r) ∧ xQ σ' u) (xPost G ad σ' A) A) (xXC G ad ex σ' A) ([.ref (ad 0), .int a1, .int a2] : List Value).toArray s 2 12 A) (F0 m 20 ls [.int s0]) := by
    intro σ v1 v2 s0 H locs ls hf B hl
    unfold f_X8_report_20 at hf
    obtain ⟨u1, r2, σ3, hu1, hf⟩ := zx_some hf
    refine x_xv B (fun nb a g hs Bz => vx_runS (As := [.int s0]) (rest := []) ⟨hx, hb, hml, hown, hts⟩ (c_X8_needElement l hfl hu1 _ nb a g hs) (va_cwS 1 hts gX8_report_X8_needElement rfl rfl rfl (by decide +kernel) ⟨Nat.le_of_ble_eq_true rfl, Nat.le_of_ble_eq_true rfl⟩) (z_preS Bz) rfl rfl hl.1 rfl (lv_room (Nat.le_of_ble_eq_true rfl)) dX8_report_20 ⟨Nat.le_of_ble_eq_true rfl, Nat.le_of_ble_eq_true rfl⟩) (fun H locs ce q9 h0 B k1 k2 k3 => ?_) (fun H locs h0 B => ?_)
    · exact x_xout hno hlocks (zx_no hf h0) h0 B k1 k2 k3 (Nat.le_of_ble_eq_true rfl) (Nat.le_of_ble_eq_true rfl)
    have hf := zx_ok hf h0
    refine lv_iload_n hx hb dX8_report_23 rfl (lv_at hl 2 rfl) ?_
    refine lv_if_eq (tgt := 32) hx hb dX8_report_24 (by decide) (fun hc => ?_) (fun hc => ?_)
    · have hf := zif_t hc hf
      refine lv_iconst (v := (1 : Int32)) hx hb dX8_report_32 (by decide) ?_
      refine lv_goto (tgt := 37) hx hb dX8_report_33 (by decide) ?_
      exact L37  _ _ _ _ _ _ _ hf B (lv_sub hl [0, 1, 2] rfl)
    · have hf := zif_f hc hf
      refine lv_iload_n hx hb dX8_report_27 rfl (lv_at hl 2 rfl) ?_
      refine lv_iconst (v := (1 : Int32)) hx hb dX8_report_28 (by decide) ?_
      refine lv_icmp_ne (tgt := 36) hx hb dX8_report_29 (by decide) (fun hc => ?_) (fun hc => ?_)
      · have hf := zif_f hc hf
        refine lv_iconst (v := (0 : Int32)) hx hb dX8_report_36 (by decide) ?_
        exact L37  _ _ _ _ _ _ _ hf B (lv_sub hl [0, 1, 2] rfl)
      · have hf := zif_t hc hf
        refine lv_iconst (v := (1 : Int32)) hx hb dX8_report_32 (by decide) ?_
        refine lv_goto (tgt := 37) hx hb dX8_report_33 (by decide) ?_
        exact L37  _ _ _ _ _ _ _ hf B (lv_sub hl [0, 1, 2] rfl)
  unfold f_X8_report at hf
  refine lv_iload_n hx hb dX8_report_0 rfl (lv_at hl 1 rfl) ?_
  refine lv_if_lt (tgt := 19) hx hb dX8_report_1 (by decide) (fun hc => ?_) (fun hc => ?_)
  · have hf := zif_t hc hf
    refine lv_iconst (v := (0 : Int32)) hx hb dX8_report_19 (by decide) ?_
    exact L20  _ _ _ _ _ _ _ hf B (lv_sub hl [0, 1, 2] rfl)
  · have hf := zif_f hc hf
    refine lv_iload_n hx hb dX8_report_4 rfl (lv_at hl 1 rfl) ?_
    refine lv_aload_n hx hb dX8_report_5 rfl (lv_at hl 0 rfl) ?_
    refine x_getr hx hb hts hinRX8 hown B 0 3 49 (by decide) (by decide) (fun _ => rfl) rfl rfl (by decide) (by decide +kernel) rfl dX8_report_6 ?_
    refine x_geti hx hb hts hinRX5 hown B 49 2 (by decide) (fun _ => rfl) rfl rfl (by decide) (by decide +kernel) rfl dX8_report_9 ?_
    refine lv_icmp_ge (tgt := 19) hx hb dX8_report_12 (by decide) (fun hc => ?_) (fun hc => ?_)
    · have hf := zif_t hc hf
      refine lv_iconst (v := (0 : Int32)) hx hb dX8_report_19 (by decide) ?_
      exact L20  _ _ _ _ _ _ _ hf B (lv_sub hl [0, 1, 2] rfl)
    · have hf := zif_f hc hf
      refine lv_iconst (v := (1 : Int32)) hx hb dX8_report_15 (by decide) ?_
      refine lv_goto (tgt := 20) hx hb dX8_report_16 (by decide) ?_
      exact L20  _ _ _ _ _ _ _ hf B (lv_sub hl [0, 1, 2] rfl)
theorem dX8_makePair_0 : decode cX8_makePair 0 = .ok (.iload_n 1, 1) := by decide +kernel
theorem dX8_makePair_1 : decode cX8_makePair 1 = .ok (.invokestatic 55, 3) := by decide +kernel
theorem dX8_makePair_4 : decode cX8_makePair 4 = .ok (.aload_n 0, 1) := by decide +kernel
theorem dX8_makePair_5 : decode cX8_makePair 5 = .ok (.getfield 12, 3) := by decide +kernel
theorem dX8_makePair_8 : decode cX8_makePair 8 = .ok (.getfield 292, 3) := by decide +kernel
theorem dX8_makePair_11 : decode cX8_makePair 11 = .ok (.getfield 296, 3) := by decide +kernel
theorem dX8_makePair_14 : decode cX8_makePair 14 = .ok (.iconst 4, 1) := by decide +kernel
theorem dX8_makePair_15 : decode cX8_makePair 15 = .ok (.if_icmp .ge 7, 3) := by decide +kernel
theorem dX8_makePair_18 : decode cX8_makePair 18 = .ok (.iconst 1, 1) := by decide +kernel
theorem dX8_makePair_19 : decode cX8_makePair 19 = .ok (.goto 4, 3) := by decide +kernel
theorem dX8_makePair_22 : decode cX8_makePair 22 = .ok (.iconst 0, 1) := by decide +kernel
theorem dX8_makePair_23 : decode cX8_makePair 23 = .ok (.invokestatic 76, 3) := by decide +kernel
theorem dX8_makePair_26 : decode cX8_makePair 26 = .ok (.aload_n 0, 1) := by decide +kernel
theorem dX8_makePair_27 : decode cX8_makePair 27 = .ok (.getfield 12, 3) := by decide +kernel
theorem dX8_makePair_30 : decode cX8_makePair 30 = .ok (.getfield 292, 3) := by decide +kernel
theorem dX8_makePair_33 : decode cX8_makePair 33 = .ok (.iload_n 1, 1) := by decide +kernel
theorem dX8_makePair_34 : decode cX8_makePair 34 = .ok (.invokevirtual 301, 3) := by decide +kernel
theorem dX8_makePair_37 : decode cX8_makePair 37 = .ok (.ireturn, 1) := by decide +kernel
set_option maxRecDepth 20000 in
theorem ggX8_makePair_X8_needSubject : GoodIn wsX8_makePair wsX8_needSubject := goodIn_ca (goodIn_r _ [7, 8, 9, 6, 10, 11, 12] (by decide +kernel) (by decide +kernel)) (goodIn_sub (fun _ h => List.mem_cons_of_mem _ (List.mem_append_left _ (List.mem_append_left _ (List.mem_append_right _ h)))) (by decide +kernel))
set_option maxRecDepth 20000 in
theorem gX8_makePair_X8_needSubject : GoodIn wsX8_makePair (va_wsS RX8 55 yX8_needSubject wsX8_needSubject) := goodIn_app (goodIn_of _ (by decide +kernel)) ggX8_makePair_X8_needSubject
set_option maxRecDepth 20000 in
theorem ggX8_makePair_X8_needState : GoodIn wsX8_makePair wsX8_needState := goodIn_ca (goodIn_r _ [15, 16, 17] (by decide +kernel) (by decide +kernel)) (goodIn_sub (fun _ h => List.mem_cons_of_mem _ (List.mem_append_left _ (List.mem_append_right _ h))) (by decide +kernel))
set_option maxRecDepth 20000 in
theorem gX8_makePair_X8_needState : GoodIn wsX8_makePair (va_wsS RX8 76 yX8_needState wsX8_needState) := goodIn_app (goodIn_of _ (by decide +kernel)) ggX8_makePair_X8_needState
set_option maxRecDepth 20000 in
theorem ggX8_makePair_X0_addPair : GoodIn wsX8_makePair wsX0_addPair := goodIn_ca (goodIn_r _ [22, 23, 24, 25, 42, 43, 44, 45, 46, 47, 48] (by decide +kernel) (by decide +kernel)) (goodIn_sub (fun _ h => List.mem_cons_of_mem _ (List.mem_append_right _ h)) (by decide +kernel))
set_option maxRecDepth 20000 in
theorem gX8_makePair_X0_addPair : GoodIn wsX8_makePair (wsV RX8 301 RX0 yX0_addPair wsX0_addPair) := goodIn_app (goodIn_of _ (by decide +kernel)) ggX8_makePair_X0_addPair
def rm_X8_makePair : Room := { frames := 10, cells := 2, slots := 12, locals := 240 }
set_option maxHeartbeats 4000000 in
set_option maxRecDepth 100000 in
theorem c_X8_makePair (l : Launch) (hfl : l.stackTraces = false) {G : zG} {ad : Nat → Nat} {σ σ' : zs} {a1 : Int32} {ex : Nat} {r : Int32} (hf : f_X8_makePair σ a1 = some (ex, r, σ')) : xXi l yX8_makePair wsX8_makePair rm_X8_makePair G ad σ [.ref (ad 0), .int a1] ex r σ' := by
  intro sz nb a g hs
  refine vx_ofW (cc := cX8_makePair) (maxL := 2) (ret := (some .int)) (by decide) rfl ?_
  intro p e s m args below meth c s₁ B hml hno hv
  obtain ⟨rfl, hsz, hv⟩ := hv
  have hx := B.exec
  have hb := B.bytes
  have hr := B.returns
  have hts := atoms_spec (ws := wsX8_makePair) B.pre
  have hown : s.vm.findClass RX8 = some m.cls := findClass_of_methodNamed B.named
  have hlocks := B.notSynchronized
  subst hsz
  have B := xB_start hs hv
  have hinRX0 : ∀ w ∈ wsX00, w ∈ wsX8_makePair := by decide +kernel
  have hinRX6 : ∀ w ∈ wsX60, w ∈ wsX8_makePair := by decide +kernel
  have hinRX8 : ∀ w ∈ wsX80, w ∈ wsX8_makePair := by decide +kernel
  have hl := lv_entry ([.ref (ad 0), .int a1]) (n := 2) (Nat.le_of_ble_eq_true rfl)
  rw [lg_entry_eq]
  generalize (lg_sl ([.ref (ad 0), .int a1]) ++ List.replicate (2 - (lg_sl ([.ref (ad 0), .int a1])).length) Slot.unset).toArray = ls at hl ⊢
  have hl : lv_has ls 2 [(0, .ref (ad 0)), (1, .int a1)] := hl
  generalize hAe : xA ad a s.heap.size = A at B ⊢
  have L23 : ∀ (σ : zs) (v1 : Int32) (s0 : Int32) (H : Heap) (locs : List Loc) (ls : Array Slot), f_X8_makePair_23 σ v1 s0 = some (ex, r, σ') → xB A s G ad σ H locs → lv_has ls 2 [(0, .ref (ad 0)), (1, .int v1)] → W p l e (headSpec wsX8_makePair rm_X8_makePair).room s m ([.ref (ad 0), .int a1] : List Value).toArray below meth c H locs 1 6 (vx_MQ below (va_Qi (fun r' (u : xV) => (ex = 0 ∧ r' = r) ∧ xQ σ' u) (xPost G ad σ' A) A) (xXC G ad ex σ' A) ([.ref (ad 0), .int a1] : List Value).toArray s 2 12 A) (F0 m 23 ls [.int s0]) := by
    intro σ v1 s0 H locs ls hf B hl
    unfold f_X8_makePair_23 at hf
    obtain ⟨u4, r5, σ6, hu4, hf⟩ := zx_some hf
    refine x_xv B (fun nb a g hs Bz => vx_runS (As := [.int s0]) (rest := []) ⟨hx, hb, hml, hown, hts⟩ (c_X8_needState l hfl hu4 _ nb a g hs) (va_cwS 1 hts gX8_makePair_X8_needState rfl rfl rfl (by decide +kernel) ⟨Nat.le_of_ble_eq_true rfl, Nat.le_of_ble_eq_true rfl⟩) (z_preS Bz) rfl rfl hl.1 rfl (lv_room (Nat.le_of_ble_eq_true rfl)) dX8_makePair_23 ⟨Nat.le_of_ble_eq_true rfl, Nat.le_of_ble_eq_true rfl⟩) (fun H locs ce q9 h0 B k1 k2 k3 => ?_) (fun H locs h0 B => ?_)
    · exact x_xout hno hlocks (zx_no hf h0) h0 B k1 k2 k3 (Nat.le_of_ble_eq_true rfl) (Nat.le_of_ble_eq_true rfl)
    have hf := zx_ok hf h0
    refine lv_aload_n hx hb dX8_makePair_26 rfl (lv_at hl 0 rfl) ?_
    refine x_getr hx hb hts hinRX8 hown B 0 0 1 (by decide) (by decide) (fun _ => rfl) rfl rfl (by decide) (by decide +kernel) rfl dX8_makePair_27 ?_
    refine x_getr hx hb hts hinRX6 hown B 1 1 14 (by decide) (by decide) (fun _ => rfl) rfl rfl (by decide) (by decide +kernel) rfl dX8_makePair_30 ?_
    refine lv_iload_n hx hb dX8_makePair_33 rfl (lv_at hl 1 rfl) ?_
    obtain ⟨r8, σ9, hu7, hf⟩ := zb_some hf
    refine x_i B (fun nb a g hs Bz => va_runV (As := [.int v1]) (rest := []) ⟨hx, hb, hml, hown, hts⟩ (c_X0_addPair l hu7 _ nb a g hs) (cwV 1 hts gX8_makePair_X0_addPair rfl rfl rfl (by decide +kernel) ⟨Nat.le_of_ble_eq_true rfl, Nat.le_of_ble_eq_true rfl⟩) (x_preV Bz (by decide) (fun _ => rfl) rfl) rfl rfl hl.1 rfl (lv_room (Nat.le_of_ble_eq_true rfl)) dX8_makePair_34 ⟨Nat.le_of_ble_eq_true rfl, Nat.le_of_ble_eq_true rfl⟩) (fun H locs B => ?_)
    refine W.widen (k := 2) (n := 12) (Nat.le_of_ble_eq_true rfl) (Nat.le_of_ble_eq_true rfl) ?_
    exact x_xiret hx hb hr rfl hlocks B hf dX8_makePair_37
  unfold f_X8_makePair at hf
  refine lv_iload_n hx hb dX8_makePair_0 rfl (lv_at hl 1 rfl) ?_
  obtain ⟨u1, r2, σ3, hu1, hf⟩ := zx_some hf
  refine x_xv B (fun nb a g hs Bz => vx_runS (As := [.int a1]) (rest := []) ⟨hx, hb, hml, hown, hts⟩ (c_X8_needSubject l hfl hu1 _ nb a g hs) (va_cwS 1 hts gX8_makePair_X8_needSubject rfl rfl rfl (by decide +kernel) ⟨Nat.le_of_ble_eq_true rfl, Nat.le_of_ble_eq_true rfl⟩) (z_preS Bz) rfl rfl hl.1 rfl (lv_room (Nat.le_of_ble_eq_true rfl)) dX8_makePair_1 ⟨Nat.le_of_ble_eq_true rfl, Nat.le_of_ble_eq_true rfl⟩) (fun H locs ce q9 h0 B k1 k2 k3 => ?_) (fun H locs h0 B => ?_)
  · exact x_xout hno hlocks (zx_no hf h0) h0 B k1 k2 k3 (Nat.le_of_ble_eq_true rfl) (Nat.le_of_ble_eq_true rfl)
  have hf := zx_ok hf h0
  refine lv_aload_n hx hb dX8_makePair_4 rfl (lv_at hl 0 rfl) ?_
  refine x_getr hx hb hts hinRX8 hown B 0 0 1 (by decide) (by decide) (fun _ => rfl) rfl rfl (by decide) (by decide +kernel) rfl dX8_makePair_5 ?_
  refine x_getr hx hb hts hinRX6 hown B 1 1 14 (by decide) (by decide) (fun _ => rfl) rfl rfl (by decide) (by decide +kernel) rfl dX8_makePair_8 ?_
  refine x_geti hx hb hts hinRX0 hown B 14 0 (by decide) (fun _ => rfl) rfl rfl (by decide) (by decide +kernel) rfl dX8_makePair_11 ?_
  refine lv_iconst (v := (4 : Int32)) hx hb dX8_makePair_14 (by decide) ?_
  refine lv_icmp_ge (tgt := 22) hx hb dX8_makePair_15 (by decide) (fun hc => ?_) (fun hc => ?_)
  · have hf := zif_t hc hf
    refine lv_iconst (v := (0 : Int32)) hx hb dX8_makePair_22 (by decide) ?_
    exact L23  _ _ _ _ _ _ hf B (lv_sub hl [0, 1] rfl)
  · have hf := zif_f hc hf
    refine lv_iconst (v := (1 : Int32)) hx hb dX8_makePair_18 (by decide) ?_
    refine lv_goto (tgt := 23) hx hb dX8_makePair_19 (by decide) ?_
    exact L23  _ _ _ _ _ _ hf B (lv_sub hl [0, 1] rfl)
theorem dX8_needPair_0 : decode cX8_needPair 0 = .ok (.iload_n 1, 1) := by decide +kernel
theorem dX8_needPair_1 : decode cX8_needPair 1 = .ok (.ifCond .lt 21, 3) := by decide +kernel
theorem dX8_needPair_4 : decode cX8_needPair 4 = .ok (.iload_n 1, 1) := by decide +kernel
theorem dX8_needPair_5 : decode cX8_needPair 5 = .ok (.aload_n 0, 1) := by decide +kernel
theorem dX8_needPair_6 : decode cX8_needPair 6 = .ok (.getfield 12, 3) := by decide +kernel
theorem dX8_needPair_9 : decode cX8_needPair 9 = .ok (.getfield 292, 3) := by decide +kernel
theorem dX8_needPair_12 : decode cX8_needPair 12 = .ok (.getfield 296, 3) := by decide +kernel
theorem dX8_needPair_15 : decode cX8_needPair 15 = .ok (.if_icmp .ge 7, 3) := by decide +kernel
theorem dX8_needPair_18 : decode cX8_needPair 18 = .ok (.iconst 1, 1) := by decide +kernel
theorem dX8_needPair_19 : decode cX8_needPair 19 = .ok (.goto 4, 3) := by decide +kernel
theorem dX8_needPair_22 : decode cX8_needPair 22 = .ok (.iconst 0, 1) := by decide +kernel
theorem dX8_needPair_23 : decode cX8_needPair 23 = .ok (.invokestatic 186, 3) := by decide +kernel
theorem dX8_needPair_26 : decode cX8_needPair 26 = .ok (.return_, 1) := by decide +kernel
set_option maxRecDepth 20000 in
theorem ggX8_needPair_X8_needIndex : GoodIn wsX8_needPair wsX8_needIndex := goodIn_ca (goodIn_r _ [7, 8, 9] (by decide +kernel) (by decide +kernel)) (goodIn_sub (fun _ h => List.mem_cons_of_mem _ (List.mem_append_right _ h)) (by decide +kernel))
set_option maxRecDepth 20000 in
theorem gX8_needPair_X8_needIndex : GoodIn wsX8_needPair (va_wsS RX8 186 yX8_needIndex wsX8_needIndex) := goodIn_app (goodIn_of _ (by decide +kernel)) ggX8_needPair_X8_needIndex
def rm_X8_needPair : Room := { frames := 9, cells := 1, slots := 6, locals := 220 }
set_option maxHeartbeats 4000000 in
set_option maxRecDepth 100000 in
theorem c_X8_needPair (l : Launch) (hfl : l.stackTraces = false) {G : zG} {ad : Nat → Nat} {σ σ' : zs} {a1 : Int32} {ex : Nat} {r : Int32} (hf : f_X8_needPair σ a1 = some (ex, r, σ')) : xXv l yX8_needPair wsX8_needPair rm_X8_needPair G ad σ [.ref (ad 0), .int a1] ex σ' := by
  intro sz nb a g hs
  refine vx_ofW (cc := cX8_needPair) (maxL := 2) (ret := none) (by decide) rfl ?_
  intro p e s m args below meth c s₁ B hml hno hv
  obtain ⟨rfl, hsz, hv⟩ := hv
  have hx := B.exec
  have hb := B.bytes
  have hr := B.returns
  have hts := atoms_spec (ws := wsX8_needPair) B.pre
  have hown : s.vm.findClass RX8 = some m.cls := findClass_of_methodNamed B.named
  have hlocks := B.notSynchronized
  subst hsz
  have B := xB_start hs hv
  have hinRX0 : ∀ w ∈ wsX00, w ∈ wsX8_needPair := by decide +kernel
  have hinRX6 : ∀ w ∈ wsX60, w ∈ wsX8_needPair := by decide +kernel
  have hinRX8 : ∀ w ∈ wsX80, w ∈ wsX8_needPair := by decide +kernel
  have hl := lv_entry ([.ref (ad 0), .int a1]) (n := 2) (Nat.le_of_ble_eq_true rfl)
  rw [lg_entry_eq]
  generalize (lg_sl ([.ref (ad 0), .int a1]) ++ List.replicate (2 - (lg_sl ([.ref (ad 0), .int a1])).length) Slot.unset).toArray = ls at hl ⊢
  have hl : lv_has ls 2 [(0, .ref (ad 0)), (1, .int a1)] := hl
  generalize hAe : xA ad a s.heap.size = A at B ⊢
  have L23 : ∀ (σ : zs) (s0 : Int32) (H : Heap) (locs : List Loc) (ls : Array Slot), f_X8_needPair_23 σ s0 = some (ex, r, σ') → xB A s G ad σ H locs → lv_has ls 2 [] → W p l e (headSpec wsX8_needPair rm_X8_needPair).room s m ([.ref (ad 0), .int a1] : List Value).toArray below meth c H locs 0 0 (vx_MQ below (va_Qv (fun (u : xV) => ex = 0 ∧ xQ σ' u) (xPost G ad σ' A) A) (xXC G ad ex σ' A) ([.ref (ad 0), .int a1] : List Value).toArray s 1 6 A) (F0 m 23 ls [.int s0]) := by
    intro σ s0 H locs ls hf B hl
    unfold f_X8_needPair_23 at hf
    obtain ⟨u1, r2, σ3, hu1, hf⟩ := zx_some hf
    refine x_xv B (fun nb a g hs Bz => vx_runS (As := [.int s0]) (rest := []) ⟨hx, hb, hml, hown, hts⟩ (c_X8_needIndex l hfl hu1 _ nb a g hs) (va_cwS 1 hts gX8_needPair_X8_needIndex rfl rfl rfl (by decide +kernel) ⟨Nat.le_of_ble_eq_true rfl, Nat.le_of_ble_eq_true rfl⟩) (z_preS Bz) rfl rfl hl.1 rfl (lv_room (Nat.le_of_ble_eq_true rfl)) dX8_needPair_23 ⟨Nat.le_of_ble_eq_true rfl, Nat.le_of_ble_eq_true rfl⟩) (fun H locs ce q9 h0 B k1 k2 k3 => ?_) (fun H locs h0 B => ?_)
    · exact x_xout hno hlocks (zx_no hf h0) h0 B k1 k2 k3 (Nat.le_of_ble_eq_true rfl) (Nat.le_of_ble_eq_true rfl)
    have hf := zx_ok hf h0
    refine W.widen (k := 1) (n := 6) (Nat.le_of_ble_eq_true rfl) (Nat.le_of_ble_eq_true rfl) ?_
    exact x_xvret hx hb hr hlocks B hf dX8_needPair_26
  unfold f_X8_needPair at hf
  refine lv_iload_n hx hb dX8_needPair_0 rfl (lv_at hl 1 rfl) ?_
  refine lv_if_lt (tgt := 22) hx hb dX8_needPair_1 (by decide) (fun hc => ?_) (fun hc => ?_)
  · have hf := zif_t hc hf
    refine lv_iconst (v := (0 : Int32)) hx hb dX8_needPair_22 (by decide) ?_
    exact L23  _ _ _ _ _ hf B (lv_sub hl [] rfl)
  · have hf := zif_f hc hf
    refine lv_iload_n hx hb dX8_needPair_4 rfl (lv_at hl 1 rfl) ?_
    refine lv_aload_n hx hb dX8_needPair_5 rfl (lv_at hl 0 rfl) ?_
    refine x_getr hx hb hts hinRX8 hown B 0 0 1 (by decide) (by decide) (fun _ => rfl) rfl rfl (by decide) (by decide +kernel) rfl dX8_needPair_6 ?_
    refine x_getr hx hb hts hinRX6 hown B 1 1 14 (by decide) (by decide) (fun _ => rfl) rfl rfl (by decide) (by decide +kernel) rfl dX8_needPair_9 ?_
    refine x_geti hx hb hts hinRX0 hown B 14 0 (by decide) (fun _ => rfl) rfl rfl (by decide) (by decide +kernel) rfl dX8_needPair_12 ?_
    refine lv_icmp_ge (tgt := 22) hx hb dX8_needPair_15 (by decide) (fun hc => ?_) (fun hc => ?_)
    · have hf := zif_t hc hf
      refine lv_iconst (v := (0 : Int32)) hx hb dX8_needPair_22 (by decide) ?_
      exact L23  _ _ _ _ _ hf B (lv_sub hl [] rfl)
    · have hf := zif_f hc hf
      refine lv_iconst (v := (1 : Int32)) hx hb dX8_needPair_18 (by decide) ?_
      refine lv_goto (tgt := 23) hx hb dX8_needPair_19 (by decide) ?_
      exact L23  _ _ _ _ _ hf B (lv_sub hl [] rfl)
theorem dX8_holdsPart_0 : decode cX8_holdsPart 0 = .ok (.aload_n 0, 1) := by decide +kernel
theorem dX8_holdsPart_1 : decode cX8_holdsPart 1 = .ok (.getfield 12, 3) := by decide +kernel
theorem dX8_holdsPart_4 : decode cX8_holdsPart 4 = .ok (.getfield 292, 3) := by decide +kernel
theorem dX8_holdsPart_7 : decode cX8_holdsPart 7 = .ok (.iload_n 3, 1) := by decide +kernel
theorem dX8_holdsPart_8 : decode cX8_holdsPart 8 = .ok (.invokevirtual 311, 3) := by decide +kernel
theorem dX8_holdsPart_11 : decode cX8_holdsPart 11 = .ok (.iload_n 2, 1) := by decide +kernel
theorem dX8_holdsPart_12 : decode cX8_holdsPart 12 = .ok (.iaload, 1) := by decide +kernel
theorem dX8_holdsPart_13 : decode cX8_holdsPart 13 = .ok (.iload_n 1, 1) := by decide +kernel
theorem dX8_holdsPart_14 : decode cX8_holdsPart 14 = .ok (.invokestatic 146, 3) := by decide +kernel
theorem dX8_holdsPart_17 : decode cX8_holdsPart 17 = .ok (.istore 4, 2) := by decide +kernel
theorem dX8_holdsPart_19 : decode cX8_holdsPart 19 = .ok (.iload 4, 2) := by decide +kernel
theorem dX8_holdsPart_21 : decode cX8_holdsPart 21 = .ok (.ifCond .ne 12, 3) := by decide +kernel
theorem dX8_holdsPart_24 : decode cX8_holdsPart 24 = .ok (.aload_n 0, 1) := by decide +kernel
theorem dX8_holdsPart_25 : decode cX8_holdsPart 25 = .ok (.getfield 26, 3) := by decide +kernel
theorem dX8_holdsPart_28 : decode cX8_holdsPart 28 = .ok (.iconst 5, 1) := by decide +kernel
theorem dX8_holdsPart_29 : decode cX8_holdsPart 29 = .ok (.iload_n 2, 1) := by decide +kernel
theorem dX8_holdsPart_30 : decode cX8_holdsPart 30 = .ok (.invokevirtual 155, 3) := by decide +kernel
theorem dX8_holdsPart_33 : decode cX8_holdsPart 33 = .ok (.iload 4, 2) := by decide +kernel
theorem dX8_holdsPart_35 : decode cX8_holdsPart 35 = .ok (.ireturn, 1) := by decide +kernel
set_option maxRecDepth 20000 in
theorem ggX8_holdsPart_X0_holdersOfPart : GoodIn wsX8_holdsPart wsX0_holdersOfPart := goodIn_r _ [8, 9, 10, 43, 44, 45, 46, 47, 48, 49] (by decide +kernel) (by decide +kernel)
set_option maxRecDepth 20000 in
theorem gX8_holdsPart_X0_holdersOfPart : GoodIn wsX8_holdsPart (wsV RX8 311 RX0 yX0_holdersOfPart wsX0_holdersOfPart) := goodIn_app (goodIn_of _ (by decide +kernel)) ggX8_holdsPart_X0_holdersOfPart
set_option maxRecDepth 20000 in
theorem ggX8_holdsPart_X8_hasBit : GoodIn wsX8_holdsPart wsX8_hasBit := goodIn_r _ [14] (by decide +kernel) (by decide +kernel)
set_option maxRecDepth 20000 in
theorem gX8_holdsPart_X8_hasBit : GoodIn wsX8_holdsPart (va_wsS RX8 146 yX8_hasBit wsX8_hasBit) := goodIn_app (goodIn_of _ (by decide +kernel)) ggX8_holdsPart_X8_hasBit
set_option maxRecDepth 20000 in
theorem ggX8_holdsPart_X5_begin : GoodIn wsX8_holdsPart wsX5_begin := goodIn_ca (goodIn_r _ [19, 20, 21, 22, 23, 18, 24, 25, 26, 50, 51, 52] (by decide +kernel) (by decide +kernel)) (goodIn_sub (fun _ h => List.mem_cons_of_mem _ (List.mem_append_right _ h)) (by decide +kernel))
set_option maxRecDepth 20000 in
theorem gX8_holdsPart_X5_begin : GoodIn wsX8_holdsPart (wsV RX8 155 RX5 yX5_begin wsX5_begin) := goodIn_app (goodIn_of _ (by decide +kernel)) ggX8_holdsPart_X5_begin
def rm_X8_holdsPart : Room := { frames := 3, cells := 0, slots := 0, locals := 60 }
set_option maxHeartbeats 4000000 in
set_option maxRecDepth 100000 in
theorem c_X8_holdsPart (l : Launch) {G : zG} {ad : Nat → Nat} {σ σ' : zs} {a1 a2 a3 : Int32} {r : Int32} (hf : f_X8_holdsPart σ a1 a2 a3 = some (r, σ')) : xMi l yX8_holdsPart wsX8_holdsPart rm_X8_holdsPart G ad σ [.ref (ad 0), .int a1, .int a2, .int a3] r σ' := by
  intro sz nb a g hs
  refine Met.ofW (cc := cX8_holdsPart) (maxL := 5) (ret := (some .boolean)) (by decide) rfl ?_
  intro p e s m args below meth c s₁ B hml hv
  obtain ⟨rfl, hsz, hv⟩ := hv
  have hx := B.exec
  have hb := B.bytes
  have hr := B.returns
  have hts := atoms_spec (ws := wsX8_holdsPart) B.pre
  have hown : s.vm.findClass RX8 = some m.cls := findClass_of_methodNamed B.named
  have hlocks := B.notSynchronized
  subst hsz
  have B := xB_start hs hv
  have hinRX6 : ∀ w ∈ wsX60, w ∈ wsX8_holdsPart := by decide +kernel
  have hinRX8 : ∀ w ∈ wsX80, w ∈ wsX8_holdsPart := by decide +kernel
  have hl := lv_entry ([.ref (ad 0), .int a1, .int a2, .int a3]) (n := 5) (Nat.le_of_ble_eq_true rfl)
  rw [lg_entry_eq]
  generalize (lg_sl ([.ref (ad 0), .int a1, .int a2, .int a3]) ++ List.replicate (5 - (lg_sl ([.ref (ad 0), .int a1, .int a2, .int a3])).length) Slot.unset).toArray = ls at hl ⊢
  have hl : lv_has ls 5 [(0, .ref (ad 0)), (1, .int a1), (2, .int a2), (3, .int a3)] := hl
  generalize hAe : xA ad a s.heap.size = A at B ⊢
  unfold f_X8_holdsPart at hf
  refine lv_aload_n hx hb dX8_holdsPart_0 rfl (lv_at hl 0 rfl) ?_
  refine x_getr hx hb hts hinRX8 hown B 0 0 1 (by decide) (by decide) (fun _ => rfl) rfl rfl (by decide) (by decide +kernel) rfl dX8_holdsPart_1 ?_
  refine x_getr hx hb hts hinRX6 hown B 1 1 14 (by decide) (by decide) (fun _ => rfl) rfl rfl (by decide) (by decide +kernel) rfl dX8_holdsPart_4 ?_
  refine lv_iload_n hx hb dX8_holdsPart_7 rfl (lv_at hl 3 rfl) ?_
  by_cases hc : a3 = 0
  · have hf := zif_t hc hf
    refine x_r B (fun nb a g hs Bz => va_runV (As := [.int a3]) (rest := []) ⟨hx, hb, hml, hown, hts⟩ (c_X0_holdersOfPart_0 l hc _ nb a g hs) (cwV 1 hts gX8_holdsPart_X0_holdersOfPart rfl rfl rfl (by decide +kernel) ⟨Nat.le_of_ble_eq_true rfl, Nat.le_of_ble_eq_true rfl⟩) (x_preV Bz (by decide) (fun _ => rfl) rfl) rfl rfl hl.1 rfl (lv_room (Nat.le_of_ble_eq_true rfl)) dX8_holdsPart_8 ⟨Nat.le_of_ble_eq_true rfl, Nat.le_of_ble_eq_true rfl⟩) (fun H locs B => ?_)
    refine lv_iload_n hx hb dX8_holdsPart_11 rfl (lv_at hl 2 rfl) ?_
    obtain ⟨hg, hf⟩ := zg_some hf
    refine x_iald hx hb B 15 (by decide) (fun _ => rfl) (zin_ok hg) dX8_holdsPart_12 ?_
    refine lv_iload_n hx hb dX8_holdsPart_13 rfl (lv_at hl 1 rfl) ?_
    obtain ⟨r2, σ3, hu1, hf⟩ := zb_some hf
    refine x_i B (fun nb a g hs Bz => va_runS (As := [.int (σ 15 a2.toNatClampNeg), .int a1]) (rest := []) ⟨hx, hb, hml, hown, hts⟩ (c_X8_hasBit l hu1 _ nb a g hs) (va_cwS 2 hts gX8_holdsPart_X8_hasBit rfl rfl rfl (by decide +kernel) ⟨Nat.le_of_ble_eq_true rfl, Nat.le_of_ble_eq_true rfl⟩) (z_preS Bz) rfl rfl hl.1 rfl (lv_room (Nat.le_of_ble_eq_true rfl)) dX8_holdsPart_14 ⟨Nat.le_of_ble_eq_true rfl, Nat.le_of_ble_eq_true rfl⟩) (fun H locs B => ?_)
    refine lv_istore (lv' := [(4, .int r2), (0, .ref (ad 0)), (1, .int a1), (2, .int a2), (3, .int a3)]) hx hb dX8_holdsPart_17 hl (by decide) rfl (fun ls hl => ?_)
    refine lv_iload hx hb dX8_holdsPart_19 (lv_at hl 0 rfl) ?_
    refine lv_if_ne (tgt := 33) hx hb dX8_holdsPart_21 (by decide) (fun hc => ?_) (fun hc => ?_)
    · have hf := zif_f hc hf
      refine lv_iload hx hb dX8_holdsPart_33 (lv_at hl 0 rfl) ?_
      obtain ⟨hg, hf⟩ := zg_some hf
      refine W.widen (k := 0) (n := 0) (Nat.le_of_ble_eq_true rfl) (Nat.le_of_ble_eq_true rfl) ?_
      exact x_iret hx hb hr (znz hg) hlocks B hf dX8_holdsPart_35
    · have hf := zif_t hc hf
      refine lv_aload_n hx hb dX8_holdsPart_24 rfl (lv_at hl 1 rfl) ?_
      refine x_getr hx hb hts hinRX8 hown B 0 3 49 (by decide) (by decide) (fun _ => rfl) rfl rfl (by decide) (by decide +kernel) rfl dX8_holdsPart_25 ?_
      refine lv_iconst (v := (5 : Int32)) hx hb dX8_holdsPart_28 (by decide) ?_
      refine lv_iload_n hx hb dX8_holdsPart_29 rfl (lv_at hl 3 rfl) ?_
      obtain ⟨r5, σ6, hu4, hf⟩ := zb_some hf
      refine x_v B (fun nb a g hs Bz => va_runV (As := [.int (5 : Int32), .int a2]) (rest := []) ⟨hx, hb, hml, hown, hts⟩ (c_X5_begin l hu4 _ nb a g hs) (cwV 2 hts gX8_holdsPart_X5_begin rfl rfl rfl (by decide +kernel) ⟨Nat.le_of_ble_eq_true rfl, Nat.le_of_ble_eq_true rfl⟩) (x_preV Bz (by decide) (fun _ => rfl) rfl) rfl rfl hl.1 rfl (lv_room (Nat.le_of_ble_eq_true rfl)) dX8_holdsPart_30 ⟨Nat.le_of_ble_eq_true rfl, Nat.le_of_ble_eq_true rfl⟩) (fun H locs B => ?_)
      refine lv_iload hx hb dX8_holdsPart_33 (lv_at hl 0 rfl) ?_
      obtain ⟨hg, hf⟩ := zg_some hf
      refine W.widen (k := 0) (n := 0) (Nat.le_of_ble_eq_true rfl) (Nat.le_of_ble_eq_true rfl) ?_
      exact x_iret hx hb hr (znz hg) hlocks B hf dX8_holdsPart_35
  · have hf := zif_f hc hf
    refine x_r B (fun nb a g hs Bz => va_runV (As := [.int a3]) (rest := []) ⟨hx, hb, hml, hown, hts⟩ (c_X0_holdersOfPart_1 l hc _ nb a g hs) (cwV 1 hts gX8_holdsPart_X0_holdersOfPart rfl rfl rfl (by decide +kernel) ⟨Nat.le_of_ble_eq_true rfl, Nat.le_of_ble_eq_true rfl⟩) (x_preV Bz (by decide) (fun _ => rfl) rfl) rfl rfl hl.1 rfl (lv_room (Nat.le_of_ble_eq_true rfl)) dX8_holdsPart_8 ⟨Nat.le_of_ble_eq_true rfl, Nat.le_of_ble_eq_true rfl⟩) (fun H locs B => ?_)
    refine lv_iload_n hx hb dX8_holdsPart_11 rfl (lv_at hl 2 rfl) ?_
    obtain ⟨hg, hf⟩ := zg_some hf
    refine x_iald hx hb B 16 (by decide) (fun _ => rfl) (zin_ok hg) dX8_holdsPart_12 ?_
    refine lv_iload_n hx hb dX8_holdsPart_13 rfl (lv_at hl 1 rfl) ?_
    obtain ⟨r8, σ9, hu7, hf⟩ := zb_some hf
    refine x_i B (fun nb a g hs Bz => va_runS (As := [.int (σ 16 a2.toNatClampNeg), .int a1]) (rest := []) ⟨hx, hb, hml, hown, hts⟩ (c_X8_hasBit l hu7 _ nb a g hs) (va_cwS 2 hts gX8_holdsPart_X8_hasBit rfl rfl rfl (by decide +kernel) ⟨Nat.le_of_ble_eq_true rfl, Nat.le_of_ble_eq_true rfl⟩) (z_preS Bz) rfl rfl hl.1 rfl (lv_room (Nat.le_of_ble_eq_true rfl)) dX8_holdsPart_14 ⟨Nat.le_of_ble_eq_true rfl, Nat.le_of_ble_eq_true rfl⟩) (fun H locs B => ?_)
    refine lv_istore (lv' := [(4, .int r8), (0, .ref (ad 0)), (1, .int a1), (2, .int a2), (3, .int a3)]) hx hb dX8_holdsPart_17 hl (by decide) rfl (fun ls hl => ?_)
    refine lv_iload hx hb dX8_holdsPart_19 (lv_at hl 0 rfl) ?_
    refine lv_if_ne (tgt := 33) hx hb dX8_holdsPart_21 (by decide) (fun hc => ?_) (fun hc => ?_)
    · have hf := zif_f hc hf
      refine lv_iload hx hb dX8_holdsPart_33 (lv_at hl 0 rfl) ?_
      obtain ⟨hg, hf⟩ := zg_some hf
      refine W.widen (k := 0) (n := 0) (Nat.le_of_ble_eq_true rfl) (Nat.le_of_ble_eq_true rfl) ?_
      exact x_iret hx hb hr (znz hg) hlocks B hf dX8_holdsPart_35
    · have hf := zif_t hc hf
      refine lv_aload_n hx hb dX8_holdsPart_24 rfl (lv_at hl 1 rfl) ?_
      refine x_getr hx hb hts hinRX8 hown B 0 3 49 (by decide) (by decide) (fun _ => rfl) rfl rfl (by decide) (by decide +kernel) rfl dX8_holdsPart_25 ?_
      refine lv_iconst (v := (5 : Int32)) hx hb dX8_holdsPart_28 (by decide) ?_
      refine lv_iload_n hx hb dX8_holdsPart_29 rfl (lv_at hl 3 rfl) ?_
      obtain ⟨r11, σ12, hu10, hf⟩ := zb_some hf
      refine x_v B (fun nb a g hs Bz => va_runV (As := [.int (5 : Int32), .int a2]) (rest := []) ⟨hx, hb, hml, hown, hts⟩ (c_X5_begin l hu10 _ nb a g hs) (cwV 2 hts gX8_holdsPart_X5_begin rfl rfl rfl (by decide +kernel) ⟨Nat.le_of_ble_eq_true rfl, Nat.le_of_ble_eq_true rfl⟩) (x_preV Bz (by decide) (fun _ => rfl) rfl) rfl rfl hl.1 rfl (lv_room (Nat.le_of_ble_eq_true rfl)) dX8_holdsPart_30 ⟨Nat.le_of_ble_eq_true rfl, Nat.le_of_ble_eq_true rfl⟩) (fun H locs B => ?_)
      refine lv_iload hx hb dX8_holdsPart_33 (lv_at hl 0 rfl) ?_
      obtain ⟨hg, hf⟩ := zg_some hf
      refine W.widen (k := 0) (n := 0) (Nat.le_of_ble_eq_true rfl) (Nat.le_of_ble_eq_true rfl) ?_
      exact x_iret hx hb hr (znz hg) hlocks B hf dX8_holdsPart_35
theorem dX8_givePair_0 : decode cX8_givePair 0 = .ok (.iload_n 1, 1) := by decide +kernel
theorem dX8_givePair_1 : decode cX8_givePair 1 = .ok (.invokestatic 55, 3) := by decide +kernel
theorem dX8_givePair_4 : decode cX8_givePair 4 = .ok (.iload_n 2, 1) := by decide +kernel
theorem dX8_givePair_5 : decode cX8_givePair 5 = .ok (.invokestatic 55, 3) := by decide +kernel
theorem dX8_givePair_8 : decode cX8_givePair 8 = .ok (.aload_n 0, 1) := by decide +kernel
theorem dX8_givePair_9 : decode cX8_givePair 9 = .ok (.iload_n 3, 1) := by decide +kernel
theorem dX8_givePair_10 : decode cX8_givePair 10 = .ok (.invokevirtual 304, 3) := by decide +kernel
theorem dX8_givePair_13 : decode cX8_givePair 13 = .ok (.aload_n 0, 1) := by decide +kernel
theorem dX8_givePair_14 : decode cX8_givePair 14 = .ok (.iload_n 1, 1) := by decide +kernel
theorem dX8_givePair_15 : decode cX8_givePair 15 = .ok (.iload_n 3, 1) := by decide +kernel
theorem dX8_givePair_16 : decode cX8_givePair 16 = .ok (.iload 4, 2) := by decide +kernel
theorem dX8_givePair_18 : decode cX8_givePair 18 = .ok (.invokevirtual 307, 3) := by decide +kernel
theorem dX8_givePair_21 : decode cX8_givePair 21 = .ok (.invokestatic 110, 3) := by decide +kernel
theorem dX8_givePair_24 : decode cX8_givePair 24 = .ok (.aload_n 0, 1) := by decide +kernel
theorem dX8_givePair_25 : decode cX8_givePair 25 = .ok (.getfield 12, 3) := by decide +kernel
theorem dX8_givePair_28 : decode cX8_givePair 28 = .ok (.getfield 292, 3) := by decide +kernel
theorem dX8_givePair_31 : decode cX8_givePair 31 = .ok (.iload 4, 2) := by decide +kernel
theorem dX8_givePair_33 : decode cX8_givePair 33 = .ok (.invokevirtual 311, 3) := by decide +kernel
theorem dX8_givePair_36 : decode cX8_givePair 36 = .ok (.astore 5, 2) := by decide +kernel
theorem dX8_givePair_38 : decode cX8_givePair 38 = .ok (.aload 5, 2) := by decide +kernel
theorem dX8_givePair_40 : decode cX8_givePair 40 = .ok (.iload_n 3, 1) := by decide +kernel
theorem dX8_givePair_41 : decode cX8_givePair 41 = .ok (.dup2, 1) := by decide +kernel
theorem dX8_givePair_42 : decode cX8_givePair 42 = .ok (.iaload, 1) := by decide +kernel
theorem dX8_givePair_43 : decode cX8_givePair 43 = .ok (.iconst 1, 1) := by decide +kernel
theorem dX8_givePair_44 : decode cX8_givePair 44 = .ok (.iload_n 2, 1) := by decide +kernel
theorem dX8_givePair_45 : decode cX8_givePair 45 = .ok (.ishl, 1) := by decide +kernel
theorem dX8_givePair_46 : decode cX8_givePair 46 = .ok (.ior, 1) := by decide +kernel
theorem dX8_givePair_47 : decode cX8_givePair 47 = .ok (.iastore, 1) := by decide +kernel
theorem dX8_givePair_48 : decode cX8_givePair 48 = .ok (.aload 5, 2) := by decide +kernel
theorem dX8_givePair_50 : decode cX8_givePair 50 = .ok (.iload_n 3, 1) := by decide +kernel
theorem dX8_givePair_51 : decode cX8_givePair 51 = .ok (.iaload, 1) := by decide +kernel
theorem dX8_givePair_52 : decode cX8_givePair 52 = .ok (.ireturn, 1) := by decide +kernel
set_option maxRecDepth 20000 in
theorem ggX8_givePair_X8_needSubject : GoodIn wsX8_givePair wsX8_needSubject := goodIn_ca (goodIn_r _ [6, 7, 8, 5, 9, 10, 11] (by decide +kernel) (by decide +kernel)) (goodIn_sub (fun _ h => List.mem_cons_of_mem _ (List.mem_append_left _ (List.mem_append_right _ h))) (by decide +kernel))
set_option maxRecDepth 20000 in
theorem gX8_givePair_X8_needSubject : GoodIn wsX8_givePair (va_wsS RX8 55 yX8_needSubject wsX8_needSubject) := goodIn_app (goodIn_of _ (by decide +kernel)) ggX8_givePair_X8_needSubject
set_option maxRecDepth 20000 in
theorem ggX8_givePair_X8_needPair : GoodIn wsX8_givePair wsX8_needPair := goodIn_ca (goodIn_r _ [15, 1, 2, 16, 7, 8, 5, 9, 10, 11, 49, 50, 51, 52, 53, 54, 55, 56, 57, 58, 59, 60, 61, 62, 63, 64, 65, 66, 67, 68, 69, 70, 71] (by decide +kernel) (by decide +kernel)) (goodIn_sub (fun _ h => List.mem_cons_of_mem _ (List.mem_append_left _ (List.mem_append_right _ h))) (by decide +kernel))
set_option maxRecDepth 20000 in
theorem gX8_givePair_X8_needPair : GoodIn wsX8_givePair (wsV RX8 304 RX8 yX8_needPair wsX8_needPair) := goodIn_app (goodIn_of _ (by decide +kernel)) ggX8_givePair_X8_needPair
set_option maxRecDepth 20000 in
theorem ggX8_givePair_X8_holdsPart : GoodIn wsX8_givePair wsX8_holdsPart := goodIn_ca (goodIn_r _ [20, 1, 2, 21, 22, 23, 24, 25, 26, 27, 28, 29, 30, 5, 31, 32, 33, 34, 35, 36, 37, 38, 39, 40, 41, 42, 43, 49, 50, 51, 52, 53, 54, 55, 56, 57, 58, 59, 60, 61, 62, 63, 64, 65, 66, 67, 68, 69, 70, 71, 72, 73, 74] (by decide +kernel) (by decide +kernel)) (goodIn_sub (fun _ h => List.mem_cons_of_mem _ (List.mem_append_left _ (List.mem_append_left _ (List.mem_append_right _ h)))) (by decide +kernel))
set_option maxRecDepth 20000 in
theorem gX8_givePair_X8_holdsPart : GoodIn wsX8_givePair (wsV RX8 307 RX8 yX8_holdsPart wsX8_holdsPart) := goodIn_app (goodIn_of _ (by decide +kernel)) ggX8_givePair_X8_holdsPart
set_option maxRecDepth 20000 in
theorem ggX8_givePair_X8_needPermission : GoodIn wsX8_givePair wsX8_needPermission := goodIn_ca (goodIn_r _ [46, 47, 48] (by decide +kernel) (by decide +kernel)) (goodIn_sub (fun _ h => List.mem_cons_of_mem _ (List.mem_append_right _ h)) (by decide +kernel))
set_option maxRecDepth 20000 in
theorem gX8_givePair_X8_needPermission : GoodIn wsX8_givePair (va_wsS RX8 110 yX8_needPermission wsX8_needPermission) := goodIn_app (goodIn_of _ (by decide +kernel)) ggX8_givePair_X8_needPermission
set_option maxRecDepth 20000 in
theorem ggX8_givePair_X0_holdersOfPart : GoodIn wsX8_givePair wsX0_holdersOfPart := goodIn_r _ [26, 27, 28, 65, 66, 67, 68, 69, 70, 71] (by decide +kernel) (by decide +kernel)
set_option maxRecDepth 20000 in
theorem gX8_givePair_X0_holdersOfPart : GoodIn wsX8_givePair (wsV RX8 311 RX0 yX0_holdersOfPart wsX0_holdersOfPart) := goodIn_app (goodIn_of _ (by decide +kernel)) ggX8_givePair_X0_holdersOfPart
def rm_X8_givePair : Room := { frames := 10, cells := 4, slots := 24, locals := 241 }
set_option maxHeartbeats 4000000 in
set_option maxRecDepth 100000 in
theorem c_X8_givePair (l : Launch) (hfl : l.stackTraces = false) {G : zG} {ad : Nat → Nat} {σ σ' : zs} {a1 a2 a3 a4 : Int32} {ex : Nat} {r : Int32} (hf : f_X8_givePair σ a1 a2 a3 a4 = some (ex, r, σ')) : xXi l yX8_givePair wsX8_givePair rm_X8_givePair G ad σ [.ref (ad 0), .int a1, .int a2, .int a3, .int a4] ex r σ' := by
  intro sz nb a g hs
  refine vx_ofW (cc := cX8_givePair) (maxL := 6) (ret := (some .int)) (by decide) rfl ?_
  intro p e s m args below meth c s₁ B hml hno hv
  obtain ⟨rfl, hsz, hv⟩ := hv
  have hx := B.exec
  have hb := B.bytes
  have hr := B.returns
  have hts := atoms_spec (ws := wsX8_givePair) B.pre
  have hown : s.vm.findClass RX8 = some m.cls := findClass_of_methodNamed B.named
  have hlocks := B.notSynchronized
  subst hsz
  have B := xB_start hs hv
  have hinRX6 : ∀ w ∈ wsX60, w ∈ wsX8_givePair := by decide +kernel
  have hinRX8 : ∀ w ∈ wsX80, w ∈ wsX8_givePair := by decide +kernel
  have hl := lv_entry ([.ref (ad 0), .int a1, .int a2, .int a3, .int a4]) (n := 6) (Nat.le_of_ble_eq_true rfl)
  rw [lg_entry_eq]
  generalize (lg_sl ([.ref (ad 0), .int a1, .int a2, .int a3, .int a4]) ++ List.replicate (6 - (lg_sl ([.ref (ad 0), .int a1, .int a2, .int a3, .int a4])).length) Slot.unset).toArray = ls at hl ⊢
  have hl : lv_has ls 6 [(0, .ref (ad 0)), (1, .int a1), (2, .int a2), (3, .int a3), (4, .int a4)] := hl
  generalize hAe : xA ad a s.heap.size = A at B ⊢
  unfold f_X8_givePair at hf
  refine lv_iload_n hx hb dX8_givePair_0 rfl (lv_at hl 1 rfl) ?_
  obtain ⟨u1, r2, σ3, hu1, hf⟩ := zx_some hf
  refine x_xv B (fun nb a g hs Bz => vx_runS (As := [.int a1]) (rest := []) ⟨hx, hb, hml, hown, hts⟩ (c_X8_needSubject l hfl hu1 _ nb a g hs) (va_cwS 1 hts gX8_givePair_X8_needSubject rfl rfl rfl (by decide +kernel) ⟨Nat.le_of_ble_eq_true rfl, Nat.le_of_ble_eq_true rfl⟩) (z_preS Bz) rfl rfl hl.1 rfl (lv_room (Nat.le_of_ble_eq_true rfl)) dX8_givePair_1 ⟨Nat.le_of_ble_eq_true rfl, Nat.le_of_ble_eq_true rfl⟩) (fun H locs ce q9 h0 B k1 k2 k3 => ?_) (fun H locs h0 B => ?_)
  · exact x_xout hno hlocks (zx_no hf h0) h0 B k1 k2 k3 (Nat.le_of_ble_eq_true rfl) (Nat.le_of_ble_eq_true rfl)
  have hf := zx_ok hf h0
  refine lv_iload_n hx hb dX8_givePair_4 rfl (lv_at hl 2 rfl) ?_
  obtain ⟨u4, r5, σ6, hu4, hf⟩ := zx_some hf
  refine x_xv B (fun nb a g hs Bz => vx_runS (As := [.int a2]) (rest := []) ⟨hx, hb, hml, hown, hts⟩ (c_X8_needSubject l hfl hu4 _ nb a g hs) (va_cwS 1 hts gX8_givePair_X8_needSubject rfl rfl rfl (by decide +kernel) ⟨Nat.le_of_ble_eq_true rfl, Nat.le_of_ble_eq_true rfl⟩) (z_preS Bz) rfl rfl hl.1 rfl (lv_room (Nat.le_of_ble_eq_true rfl)) dX8_givePair_5 ⟨Nat.le_of_ble_eq_true rfl, Nat.le_of_ble_eq_true rfl⟩) (fun H locs ce q9 h0 B k1 k2 k3 => ?_) (fun H locs h0 B => ?_)
  · exact x_xout hno hlocks (zx_no hf h0) h0 B k1 k2 k3 (Nat.le_of_ble_eq_true rfl) (Nat.le_of_ble_eq_true rfl)
  have hf := zx_ok hf h0
  refine lv_aload_n hx hb dX8_givePair_8 rfl (lv_at hl 0 rfl) ?_
  refine lv_iload_n hx hb dX8_givePair_9 rfl (lv_at hl 3 rfl) ?_
  obtain ⟨u7, r8, σ9, hu7, hf⟩ := zx_some hf
  refine x_xv B (fun nb a g hs Bz => vx_runV (As := [.int a3]) (rest := []) ⟨hx, hb, hml, hown, hts⟩ (c_X8_needPair l hfl hu7 _ nb a g hs) (cwV 1 hts gX8_givePair_X8_needPair rfl rfl rfl (by decide +kernel) ⟨Nat.le_of_ble_eq_true rfl, Nat.le_of_ble_eq_true rfl⟩) (x_preV Bz (by decide) (fun _ => rfl) rfl) rfl rfl hl.1 rfl (lv_room (Nat.le_of_ble_eq_true rfl)) dX8_givePair_10 ⟨Nat.le_of_ble_eq_true rfl, Nat.le_of_ble_eq_true rfl⟩) (fun H locs ce q9 h0 B k1 k2 k3 => ?_) (fun H locs h0 B => ?_)
  · exact x_xout hno hlocks (zx_no hf h0) h0 B k1 k2 k3 (Nat.le_of_ble_eq_true rfl) (Nat.le_of_ble_eq_true rfl)
  have hf := zx_ok hf h0
  refine lv_aload_n hx hb dX8_givePair_13 rfl (lv_at hl 0 rfl) ?_
  refine lv_iload_n hx hb dX8_givePair_14 rfl (lv_at hl 1 rfl) ?_
  refine lv_iload_n hx hb dX8_givePair_15 rfl (lv_at hl 3 rfl) ?_
  refine lv_iload hx hb dX8_givePair_16 (lv_at hl 4 rfl) ?_
  obtain ⟨r11, σ12, hu10, hf⟩ := zb_some hf
  refine x_i B (fun nb a g hs Bz => va_runV (As := [.int a1, .int a3, .int a4]) (rest := []) ⟨hx, hb, hml, hown, hts⟩ (c_X8_holdsPart l hu10 _ nb a g hs) (cwV 3 hts gX8_givePair_X8_holdsPart rfl rfl rfl (by decide +kernel) ⟨Nat.le_of_ble_eq_true rfl, Nat.le_of_ble_eq_true rfl⟩) (x_preV Bz (by decide) (fun _ => rfl) rfl) rfl rfl hl.1 rfl (lv_room (Nat.le_of_ble_eq_true rfl)) dX8_givePair_18 ⟨Nat.le_of_ble_eq_true rfl, Nat.le_of_ble_eq_true rfl⟩) (fun H locs B => ?_)
  obtain ⟨u13, r14, σ15, hu13, hf⟩ := zx_some hf
  refine x_xv B (fun nb a g hs Bz => vx_runS (As := [.int r11]) (rest := []) ⟨hx, hb, hml, hown, hts⟩ (c_X8_needPermission l hfl hu13 _ nb a g hs) (va_cwS 1 hts gX8_givePair_X8_needPermission rfl rfl rfl (by decide +kernel) ⟨Nat.le_of_ble_eq_true rfl, Nat.le_of_ble_eq_true rfl⟩) (z_preS Bz) rfl rfl hl.1 rfl (lv_room (Nat.le_of_ble_eq_true rfl)) dX8_givePair_21 ⟨Nat.le_of_ble_eq_true rfl, Nat.le_of_ble_eq_true rfl⟩) (fun H locs ce q9 h0 B k1 k2 k3 => ?_) (fun H locs h0 B => ?_)
  · exact x_xout hno hlocks (zx_no hf h0) h0 B k1 k2 k3 (Nat.le_of_ble_eq_true rfl) (Nat.le_of_ble_eq_true rfl)
  have hf := zx_ok hf h0
  refine lv_aload_n hx hb dX8_givePair_24 rfl (lv_at hl 0 rfl) ?_
  refine x_getr hx hb hts hinRX8 hown B 0 0 1 (by decide) (by decide) (fun _ => rfl) rfl rfl (by decide) (by decide +kernel) rfl dX8_givePair_25 ?_
  refine x_getr hx hb hts hinRX6 hown B 1 1 14 (by decide) (by decide) (fun _ => rfl) rfl rfl (by decide) (by decide +kernel) rfl dX8_givePair_28 ?_
  refine lv_iload hx hb dX8_givePair_31 (lv_at hl 4 rfl) ?_
  by_cases hc : a4 = 0
  · have hf := zif_t hc hf
    refine x_r B (fun nb a g hs Bz => va_runV (As := [.int a4]) (rest := []) ⟨hx, hb, hml, hown, hts⟩ (c_X0_holdersOfPart_0 l hc _ nb a g hs) (cwV 1 hts gX8_givePair_X0_holdersOfPart rfl rfl rfl (by decide +kernel) ⟨Nat.le_of_ble_eq_true rfl, Nat.le_of_ble_eq_true rfl⟩) (x_preV Bz (by decide) (fun _ => rfl) rfl) rfl rfl hl.1 rfl (lv_room (Nat.le_of_ble_eq_true rfl)) dX8_givePair_33 ⟨Nat.le_of_ble_eq_true rfl, Nat.le_of_ble_eq_true rfl⟩) (fun H locs B => ?_)
    refine lv_astore (lv' := [(5, .ref (ad 15)), (0, .ref (ad 0)), (1, .int a1), (2, .int a2), (3, .int a3), (4, .int a4)]) hx hb dX8_givePair_36 hl (by decide) rfl (fun ls hl => ?_)
    refine lv_aload hx hb dX8_givePair_38 (lv_at hl 0 rfl) ?_
    refine lv_iload_n hx hb dX8_givePair_40 rfl (lv_at hl 4 rfl) ?_
    refine lv_dup2_11 hx hb dX8_givePair_41 rfl rfl ?_
    obtain ⟨hg, hf⟩ := zg_some hf
    refine x_iald hx hb B 15 (by decide) (fun _ => rfl) (zin_ok hg) dX8_givePair_42 ?_
    refine lv_iconst (v := (1 : Int32)) hx hb dX8_givePair_43 (by decide) ?_
    refine lv_iload_n hx hb dX8_givePair_44 rfl (lv_at hl 3 rfl) ?_
    refine lv_ishl hx hb dX8_givePair_45 ?_
    refine lv_ior hx hb dX8_givePair_46 ?_
    obtain ⟨hg, hf⟩ := zg_some hf
    refine x_iast hx hb B 15 (by decide) (by decide) (fun _ => rfl) (zin_ok hg) dX8_givePair_47 (fun H locs B => ?_)
    refine lv_aload hx hb dX8_givePair_48 (lv_at hl 0 rfl) ?_
    refine lv_iload_n hx hb dX8_givePair_50 rfl (lv_at hl 4 rfl) ?_
    obtain ⟨hg, hf⟩ := zg_some hf
    refine x_iald hx hb B 15 (by decide) (fun _ => rfl) (zin_ok hg) dX8_givePair_51 ?_
    refine W.widen (k := 4) (n := 24) (Nat.le_of_ble_eq_true rfl) (Nat.le_of_ble_eq_true rfl) ?_
    exact x_xiret hx hb hr rfl hlocks B hf dX8_givePair_52
  · have hf := zif_f hc hf
    refine x_r B (fun nb a g hs Bz => va_runV (As := [.int a4]) (rest := []) ⟨hx, hb, hml, hown, hts⟩ (c_X0_holdersOfPart_1 l hc _ nb a g hs) (cwV 1 hts gX8_givePair_X0_holdersOfPart rfl rfl rfl (by decide +kernel) ⟨Nat.le_of_ble_eq_true rfl, Nat.le_of_ble_eq_true rfl⟩) (x_preV Bz (by decide) (fun _ => rfl) rfl) rfl rfl hl.1 rfl (lv_room (Nat.le_of_ble_eq_true rfl)) dX8_givePair_33 ⟨Nat.le_of_ble_eq_true rfl, Nat.le_of_ble_eq_true rfl⟩) (fun H locs B => ?_)
    refine lv_astore (lv' := [(5, .ref (ad 16)), (0, .ref (ad 0)), (1, .int a1), (2, .int a2), (3, .int a3), (4, .int a4)]) hx hb dX8_givePair_36 hl (by decide) rfl (fun ls hl => ?_)
    refine lv_aload hx hb dX8_givePair_38 (lv_at hl 0 rfl) ?_
    refine lv_iload_n hx hb dX8_givePair_40 rfl (lv_at hl 4 rfl) ?_
    refine lv_dup2_11 hx hb dX8_givePair_41 rfl rfl ?_
    obtain ⟨hg, hf⟩ := zg_some hf
    refine x_iald hx hb B 16 (by decide) (fun _ => rfl) (zin_ok hg) dX8_givePair_42 ?_
    refine lv_iconst (v := (1 : Int32)) hx hb dX8_givePair_43 (by decide) ?_
    refine lv_iload_n hx hb dX8_givePair_44 rfl (lv_at hl 3 rfl) ?_
    refine lv_ishl hx hb dX8_givePair_45 ?_
    refine lv_ior hx hb dX8_givePair_46 ?_
    obtain ⟨hg, hf⟩ := zg_some hf
    refine x_iast hx hb B 16 (by decide) (by decide) (fun _ => rfl) (zin_ok hg) dX8_givePair_47 (fun H locs B => ?_)
    refine lv_aload hx hb dX8_givePair_48 (lv_at hl 0 rfl) ?_
    refine lv_iload_n hx hb dX8_givePair_50 rfl (lv_at hl 4 rfl) ?_
    obtain ⟨hg, hf⟩ := zg_some hf
    refine x_iald hx hb B 16 (by decide) (fun _ => rfl) (zin_ok hg) dX8_givePair_51 ?_
    refine W.widen (k := 4) (n := 24) (Nat.le_of_ble_eq_true rfl) (Nat.le_of_ble_eq_true rfl) ?_
    exact x_xiret hx hb hr rfl hlocks B hf dX8_givePair_52
theorem dX8_seal_0 : decode cX8_seal 0 = .ok (.iload_n 1, 1) := by decide +kernel
theorem dX8_seal_1 : decode cX8_seal 1 = .ok (.invokestatic 55, 3) := by decide +kernel
theorem dX8_seal_4 : decode cX8_seal 4 = .ok (.aload_n 0, 1) := by decide +kernel
theorem dX8_seal_5 : decode cX8_seal 5 = .ok (.iload_n 2, 1) := by decide +kernel
theorem dX8_seal_6 : decode cX8_seal 6 = .ok (.invokevirtual 304, 3) := by decide +kernel
theorem dX8_seal_9 : decode cX8_seal 9 = .ok (.aload_n 0, 1) := by decide +kernel
theorem dX8_seal_10 : decode cX8_seal 10 = .ok (.iload_n 3, 1) := by decide +kernel
theorem dX8_seal_11 : decode cX8_seal 11 = .ok (.invokevirtual 97, 3) := by decide +kernel
theorem dX8_seal_14 : decode cX8_seal 14 = .ok (.aload_n 0, 1) := by decide +kernel
theorem dX8_seal_15 : decode cX8_seal 15 = .ok (.iload_n 1, 1) := by decide +kernel
theorem dX8_seal_16 : decode cX8_seal 16 = .ok (.iload_n 2, 1) := by decide +kernel
theorem dX8_seal_17 : decode cX8_seal 17 = .ok (.iconst 0, 1) := by decide +kernel
theorem dX8_seal_18 : decode cX8_seal 18 = .ok (.invokevirtual 307, 3) := by decide +kernel
theorem dX8_seal_21 : decode cX8_seal 21 = .ok (.ifCond .eq 16, 3) := by decide +kernel
theorem dX8_seal_24 : decode cX8_seal 24 = .ok (.aload_n 0, 1) := by decide +kernel
theorem dX8_seal_25 : decode cX8_seal 25 = .ok (.iload_n 1, 1) := by decide +kernel
theorem dX8_seal_26 : decode cX8_seal 26 = .ok (.iload_n 3, 1) := by decide +kernel
theorem dX8_seal_27 : decode cX8_seal 27 = .ok (.invokevirtual 100, 3) := by decide +kernel
theorem dX8_seal_30 : decode cX8_seal 30 = .ok (.ifCond .eq 7, 3) := by decide +kernel
theorem dX8_seal_33 : decode cX8_seal 33 = .ok (.iconst 1, 1) := by decide +kernel
theorem dX8_seal_34 : decode cX8_seal 34 = .ok (.goto 4, 3) := by decide +kernel
theorem dX8_seal_37 : decode cX8_seal 37 = .ok (.iconst 0, 1) := by decide +kernel
theorem dX8_seal_38 : decode cX8_seal 38 = .ok (.invokestatic 110, 3) := by decide +kernel
theorem dX8_seal_41 : decode cX8_seal 41 = .ok (.aload_n 0, 1) := by decide +kernel
theorem dX8_seal_42 : decode cX8_seal 42 = .ok (.getfield 12, 3) := by decide +kernel
theorem dX8_seal_45 : decode cX8_seal 45 = .ok (.getfield 292, 3) := by decide +kernel
theorem dX8_seal_48 : decode cX8_seal 48 = .ok (.getfield 315, 3) := by decide +kernel
theorem dX8_seal_51 : decode cX8_seal 51 = .ok (.bipush 12, 2) := by decide +kernel
theorem dX8_seal_53 : decode cX8_seal 53 = .ok (.if_icmp .ge 7, 3) := by decide +kernel
theorem dX8_seal_56 : decode cX8_seal 56 = .ok (.iconst 1, 1) := by decide +kernel
theorem dX8_seal_57 : decode cX8_seal 57 = .ok (.goto 4, 3) := by decide +kernel
theorem dX8_seal_60 : decode cX8_seal 60 = .ok (.iconst 0, 1) := by decide +kernel
theorem dX8_seal_61 : decode cX8_seal 61 = .ok (.invokestatic 76, 3) := by decide +kernel
theorem dX8_seal_64 : decode cX8_seal 64 = .ok (.aload_n 0, 1) := by decide +kernel
theorem dX8_seal_65 : decode cX8_seal 65 = .ok (.getfield 12, 3) := by decide +kernel
theorem dX8_seal_68 : decode cX8_seal 68 = .ok (.getfield 292, 3) := by decide +kernel
theorem dX8_seal_71 : decode cX8_seal 71 = .ok (.iload_n 1, 1) := by decide +kernel
theorem dX8_seal_72 : decode cX8_seal 72 = .ok (.iload_n 2, 1) := by decide +kernel
theorem dX8_seal_73 : decode cX8_seal 73 = .ok (.iload_n 3, 1) := by decide +kernel
theorem dX8_seal_74 : decode cX8_seal 74 = .ok (.invokevirtual 317, 3) := by decide +kernel
theorem dX8_seal_77 : decode cX8_seal 77 = .ok (.ireturn, 1) := by decide +kernel
set_option maxRecDepth 20000 in
theorem ggX8_seal_X8_needSubject : GoodIn wsX8_seal wsX8_needSubject := goodIn_ca (goodIn_r _ [7, 8, 9, 6, 10, 11, 12] (by decide +kernel) (by decide +kernel)) (goodIn_sub (fun _ h => List.mem_cons_of_mem _ (List.mem_append_left _ (List.mem_append_left _ (List.mem_append_left _ (List.mem_append_right _ h))))) (by decide +kernel))
set_option maxRecDepth 20000 in
theorem gX8_seal_X8_needSubject : GoodIn wsX8_seal (va_wsS RX8 55 yX8_needSubject wsX8_needSubject) := goodIn_app (goodIn_of _ (by decide +kernel)) ggX8_seal_X8_needSubject
set_option maxRecDepth 20000 in
theorem ggX8_seal_X8_needPair : GoodIn wsX8_seal wsX8_needPair := goodIn_ca (goodIn_r _ [16, 1, 2, 17, 8, 9, 6, 10, 11, 12, 74, 75, 76, 77, 78, 79, 80, 81, 82, 83, 84, 85, 86, 87, 88, 89, 90, 91, 92, 93, 94, 95, 96] (by decide +kernel) (by decide +kernel)) (goodIn_sub (fun _ h => List.mem_cons_of_mem _ (List.mem_append_left _ (List.mem_append_left _ (List.mem_append_left _ (List.mem_append_right _ h))))) (by decide +kernel))
set_option maxRecDepth 20000 in
theorem gX8_seal_X8_needPair : GoodIn wsX8_seal (wsV RX8 304 RX8 yX8_needPair wsX8_needPair) := goodIn_app (goodIn_of _ (by decide +kernel)) ggX8_seal_X8_needPair
set_option maxRecDepth 20000 in
theorem ggX8_seal_X8_needToken : GoodIn wsX8_seal wsX8_needToken := goodIn_ca (goodIn_r _ [21, 1, 22, 23, 8, 9, 6, 10, 11, 12, 74, 75, 76, 77, 78, 79, 80, 81, 82, 83, 84, 85, 86, 87, 88, 89, 97, 98, 99, 100, 101, 102, 103, 104, 105, 106, 107, 108] (by decide +kernel) (by decide +kernel)) (goodIn_sub (fun _ h => List.mem_cons_of_mem _ (List.mem_append_left _ (List.mem_append_left _ (List.mem_append_left _ (List.mem_append_right _ h))))) (by decide +kernel))
set_option maxRecDepth 20000 in
theorem gX8_seal_X8_needToken : GoodIn wsX8_seal (wsV RX8 97 RX8 yX8_needToken wsX8_needToken) := goodIn_app (goodIn_of _ (by decide +kernel)) ggX8_seal_X8_needToken
set_option maxRecDepth 20000 in
theorem ggX8_seal_X8_holdsPart : GoodIn wsX8_seal wsX8_holdsPart := goodIn_ca (goodIn_r _ [27, 1, 2, 28, 29, 30, 31, 32, 33, 34, 35, 36, 37, 6, 38, 39, 40, 41, 42, 43, 44, 45, 46, 47, 48, 49, 50, 74, 75, 76, 77, 78, 79, 80, 81, 82, 83, 84, 85, 86, 87, 88, 89, 90, 91, 92, 93, 94, 95, 96, 109, 110, 111] (by decide +kernel) (by decide +kernel)) (goodIn_sub (fun _ h => List.mem_cons_of_mem _ (List.mem_append_left _ (List.mem_append_left _ (List.mem_append_right _ h)))) (by decide +kernel))
set_option maxRecDepth 20000 in
theorem gX8_seal_X8_holdsPart : GoodIn wsX8_seal (wsV RX8 307 RX8 yX8_holdsPart wsX8_holdsPart) := goodIn_app (goodIn_of _ (by decide +kernel)) ggX8_seal_X8_holdsPart
set_option maxRecDepth 20000 in
theorem ggX8_seal_X8_needPermission : GoodIn wsX8_seal wsX8_needPermission := goodIn_ca (goodIn_r _ [58, 59, 60] (by decide +kernel) (by decide +kernel)) (goodIn_sub (fun _ h => List.mem_cons_of_mem _ (List.mem_append_left _ (List.mem_append_right _ h))) (by decide +kernel))
set_option maxRecDepth 20000 in
theorem gX8_seal_X8_needPermission : GoodIn wsX8_seal (va_wsS RX8 110 yX8_needPermission wsX8_needPermission) := goodIn_app (goodIn_of _ (by decide +kernel)) ggX8_seal_X8_needPermission
set_option maxRecDepth 20000 in
theorem ggX8_seal_X8_needState : GoodIn wsX8_seal wsX8_needState := goodIn_ca (goodIn_r _ [63, 64, 65] (by decide +kernel) (by decide +kernel)) (goodIn_sub (fun _ h => List.mem_cons_of_mem _ (List.mem_append_right _ h)) (by decide +kernel))
set_option maxRecDepth 20000 in
theorem gX8_seal_X8_needState : GoodIn wsX8_seal (va_wsS RX8 76 yX8_needState wsX8_needState) := goodIn_app (goodIn_of _ (by decide +kernel)) ggX8_seal_X8_needState
set_option maxRecDepth 20000 in
theorem ggX8_seal_X0_addBox : GoodIn wsX8_seal wsX0_addBox := goodIn_ca (goodIn_r _ [69, 70, 71, 72, 73, 90, 91, 92, 93, 94, 95, 96] (by decide +kernel) (by decide +kernel)) (goodIn_sub (fun _ h => List.mem_cons_of_mem _ (List.mem_append_left _ (List.mem_append_left _ (List.mem_append_right _ h)))) (by decide +kernel))
set_option maxRecDepth 20000 in
theorem gX8_seal_X0_addBox : GoodIn wsX8_seal (wsV RX8 317 RX0 yX0_addBox wsX0_addBox) := goodIn_app (goodIn_of _ (by decide +kernel)) ggX8_seal_X0_addBox
set_option maxRecDepth 20000 in
theorem ggX8_seal_X8_holdsToken : GoodIn wsX8_seal wsX8_holdsToken := goodIn_ca (goodIn_r _ [54, 1, 22, 55, 28, 36, 37, 6, 38, 39, 40, 41, 42, 43, 44, 45, 46, 47, 48, 49, 50, 74, 75, 76, 77, 78, 79, 80, 81, 82, 83, 84, 85, 86, 87, 88, 89, 97, 98, 99, 100, 101, 102, 103, 104, 105, 106, 107, 108, 109, 110, 111] (by decide +kernel) (by decide +kernel)) (goodIn_sub (fun _ h => List.mem_cons_of_mem _ (List.mem_append_left _ (List.mem_append_left _ (List.mem_append_right _ h)))) (by decide +kernel))
set_option maxRecDepth 20000 in
theorem gX8_seal_X8_holdsToken : GoodIn wsX8_seal (wsV RX8 100 RX8 yX8_holdsToken wsX8_holdsToken) := goodIn_app (goodIn_of _ (by decide +kernel)) ggX8_seal_X8_holdsToken
def rm_X8_seal : Room := { frames := 10, cells := 5, slots := 30, locals := 241 }
set_option maxHeartbeats 4000000 in
set_option maxRecDepth 100000 in
theorem c_X8_seal (l : Launch) (hfl : l.stackTraces = false) {G : zG} {ad : Nat → Nat} {σ σ' : zs} {a1 a2 a3 : Int32} {ex : Nat} {r : Int32} (hf : f_X8_seal σ a1 a2 a3 = some (ex, r, σ')) : xXi l yX8_seal wsX8_seal rm_X8_seal G ad σ [.ref (ad 0), .int a1, .int a2, .int a3] ex r σ' := by
  intro sz nb a g hs
  refine vx_ofW (cc := cX8_seal) (maxL := 4) (ret := (some .int)) (by decide) rfl ?_
  intro p e s m args below meth c s₁ B hml hno hv
  obtain ⟨rfl, hsz, hv⟩ := hv
  have hx := B.exec
  have hb := B.bytes
  have hr := B.returns
  have hts := atoms_spec (ws := wsX8_seal) B.pre
  have hown : s.vm.findClass RX8 = some m.cls := findClass_of_methodNamed B.named
  have hlocks := B.notSynchronized
  subst hsz
  have B := xB_start hs hv
  have hinRX0 : ∀ w ∈ wsX00, w ∈ wsX8_seal := by decide +kernel
  have hinRX6 : ∀ w ∈ wsX60, w ∈ wsX8_seal := by decide +kernel
  have hinRX8 : ∀ w ∈ wsX80, w ∈ wsX8_seal := by decide +kernel
  have hl := lv_entry ([.ref (ad 0), .int a1, .int a2, .int a3]) (n := 4) (Nat.le_of_ble_eq_true rfl)
  rw [lg_entry_eq]
  generalize (lg_sl ([.ref (ad 0), .int a1, .int a2, .int a3]) ++ List.replicate (4 - (lg_sl ([.ref (ad 0), .int a1, .int a2, .int a3])).length) Slot.unset).toArray = ls at hl ⊢
  have hl : lv_has ls 4 [(0, .ref (ad 0)), (1, .int a1), (2, .int a2), (3, .int a3)] := hl
  generalize hAe : xA ad a s.heap.size = A at B ⊢
  have L61 : ∀ (σ : zs) (v1 : Int32) (v2 : Int32) (v3 : Int32) (s0 : Int32) (H : Heap) (locs : List Loc) (ls : Array Slot), f_X8_seal_61 σ v1 v2 v3 s0 = some (ex, r, σ') → xB A s G ad σ H locs → lv_has ls 4 [(0, .ref (ad 0)), (1, .int v1), (2, .int v2), (3, .int v3)] → W p l e (headSpec wsX8_seal rm_X8_seal).room s m ([.ref (ad 0), .int a1, .int a2, .int a3] : List Value).toArray below meth c H locs 4 24 (vx_MQ below (va_Qi (fun r' (u : xV) => (ex = 0 ∧ r' = r) ∧ xQ σ' u) (xPost G ad σ' A) A) (xXC G ad ex σ' A) ([.ref (ad 0), .int a1, .int a2, .int a3] : List Value).toArray s 5 30 A) (F0 m 61 ls [.int s0]) := by
    intro σ v1 v2 v3 s0 H locs ls hf B hl
    unfold f_X8_seal_61 at hf
    obtain ⟨u16, r17, σ18, hu16, hf⟩ := zx_some hf
    refine x_xv B (fun nb a g hs Bz => vx_runS (As := [.int s0]) (rest := []) ⟨hx, hb, hml, hown, hts⟩ (c_X8_needState l hfl hu16 _ nb a g hs) (va_cwS 1 hts gX8_seal_X8_needState rfl rfl rfl (by decide +kernel) ⟨Nat.le_of_ble_eq_true rfl, Nat.le_of_ble_eq_true rfl⟩) (z_preS Bz) rfl rfl hl.1 rfl (lv_room (Nat.le_of_ble_eq_true rfl)) dX8_seal_61 ⟨Nat.le_of_ble_eq_true rfl, Nat.le_of_ble_eq_true rfl⟩) (fun H locs ce q9 h0 B k1 k2 k3 => ?_) (fun H locs h0 B => ?_)
    · exact x_xout hno hlocks (zx_no hf h0) h0 B k1 k2 k3 (Nat.le_of_ble_eq_true rfl) (Nat.le_of_ble_eq_true rfl)
    have hf := zx_ok hf h0
    refine lv_aload_n hx hb dX8_seal_64 rfl (lv_at hl 0 rfl) ?_
    refine x_getr hx hb hts hinRX8 hown B 0 0 1 (by decide) (by decide) (fun _ => rfl) rfl rfl (by decide) (by decide +kernel) rfl dX8_seal_65 ?_
    refine x_getr hx hb hts hinRX6 hown B 1 1 14 (by decide) (by decide) (fun _ => rfl) rfl rfl (by decide) (by decide +kernel) rfl dX8_seal_68 ?_
    refine lv_iload_n hx hb dX8_seal_71 rfl (lv_at hl 1 rfl) ?_
    refine lv_iload_n hx hb dX8_seal_72 rfl (lv_at hl 2 rfl) ?_
    refine lv_iload_n hx hb dX8_seal_73 rfl (lv_at hl 3 rfl) ?_
    obtain ⟨r20, σ21, hu19, hf⟩ := zb_some hf
    refine x_i B (fun nb a g hs Bz => va_runV (As := [.int v1, .int v2, .int v3]) (rest := []) ⟨hx, hb, hml, hown, hts⟩ (c_X0_addBox l hu19 _ nb a g hs) (cwV 3 hts gX8_seal_X0_addBox rfl rfl rfl (by decide +kernel) ⟨Nat.le_of_ble_eq_true rfl, Nat.le_of_ble_eq_true rfl⟩) (x_preV Bz (by decide) (fun _ => rfl) rfl) rfl rfl hl.1 rfl (lv_room (Nat.le_of_ble_eq_true rfl)) dX8_seal_74 ⟨Nat.le_of_ble_eq_true rfl, Nat.le_of_ble_eq_true rfl⟩) (fun H locs B => ?_)
    refine W.widen (k := 5) (n := 30) (Nat.le_of_ble_eq_true rfl) (Nat.le_of_ble_eq_true rfl) ?_
    exact x_xiret hx hb hr rfl hlocks B hf dX8_seal_77
  have L38 : ∀ (σ : zs) (v1 : Int32) (v2 : Int32) (v3 : Int32) (s0 : Int32) (H : Heap) (locs : List Loc) (ls : Array Slot), f_X8_seal_38 σ v1 v2 v3 s0 = some (ex, r, σ') → xB A s G ad σ H locs → lv_has ls 4 [(0, .ref (ad 0)), (1, .int v1), (2, .int v2), (3, .int v3)] → W p l e (headSpec wsX8_seal rm_X8_seal).room s m ([.ref (ad 0), .int a1, .int a2, .int a3] : List Value).toArray below meth c H locs 3 18 (vx_MQ below (va_Qi (fun r' (u : xV) => (ex = 0 ∧ r' = r) ∧ xQ σ' u) (xPost G ad σ' A) A) (xXC G ad ex σ' A) ([.ref (ad 0), .int a1, .int a2, .int a3] : List Value).toArray s 5 30 A) (F0 m 38 ls [.int s0]) := by
    intro σ v1 v2 v3 s0 H locs ls hf B hl
    unfold f_X8_seal_38 at hf
    obtain ⟨u13, r14, σ15, hu13, hf⟩ := zx_some hf
    refine x_xv B (fun nb a g hs Bz => vx_runS (As := [.int s0]) (rest := []) ⟨hx, hb, hml, hown, hts⟩ (c_X8_needPermission l hfl hu13 _ nb a g hs) (va_cwS 1 hts gX8_seal_X8_needPermission rfl rfl rfl (by decide +kernel) ⟨Nat.le_of_ble_eq_true rfl, Nat.le_of_ble_eq_true rfl⟩) (z_preS Bz) rfl rfl hl.1 rfl (lv_room (Nat.le_of_ble_eq_true rfl)) dX8_seal_38 ⟨Nat.le_of_ble_eq_true rfl, Nat.le_of_ble_eq_true rfl⟩) (fun H locs ce q9 h0 B k1 k2 k3 => ?_) (fun H locs h0 B => ?_)
    · exact x_xout hno hlocks (zx_no hf h0) h0 B k1 k2 k3 (Nat.le_of_ble_eq_true rfl) (Nat.le_of_ble_eq_true rfl)
    have hf := zx_ok hf h0
    refine lv_aload_n hx hb dX8_seal_41 rfl (lv_at hl 0 rfl) ?_
    refine x_getr hx hb hts hinRX8 hown B 0 0 1 (by decide) (by decide) (fun _ => rfl) rfl rfl (by decide) (by decide +kernel) rfl dX8_seal_42 ?_
    refine x_getr hx hb hts hinRX6 hown B 1 1 14 (by decide) (by decide) (fun _ => rfl) rfl rfl (by decide) (by decide +kernel) rfl dX8_seal_45 ?_
    refine x_geti hx hb hts hinRX0 hown B 14 3 (by decide) (fun _ => rfl) rfl rfl (by decide) (by decide +kernel) rfl dX8_seal_48 ?_
    refine lv_bipush (v := (12 : Int32)) hx hb dX8_seal_51 (by decide) ?_
    refine lv_icmp_ge (tgt := 60) hx hb dX8_seal_53 (by decide) (fun hc => ?_) (fun hc => ?_)
    · have hf := zif_t hc hf
      refine lv_iconst (v := (0 : Int32)) hx hb dX8_seal_60 (by decide) ?_
      exact L61  _ _ _ _ _ _ _ _ hf B (lv_sub hl [0, 1, 2, 3] rfl)
    · have hf := zif_f hc hf
      refine lv_iconst (v := (1 : Int32)) hx hb dX8_seal_56 (by decide) ?_
      refine lv_goto (tgt := 61) hx hb dX8_seal_57 (by decide) ?_
      exact L61  _ _ _ _ _ _ _ _ hf B (lv_sub hl [0, 1, 2, 3] rfl)
  unfold f_X8_seal at hf
  refine lv_iload_n hx hb dX8_seal_0 rfl (lv_at hl 1 rfl) ?_
  obtain ⟨u1, r2, σ3, hu1, hf⟩ := zx_some hf
  refine x_xv B (fun nb a g hs Bz => vx_runS (As := [.int a1]) (rest := []) ⟨hx, hb, hml, hown, hts⟩ (c_X8_needSubject l hfl hu1 _ nb a g hs) (va_cwS 1 hts gX8_seal_X8_needSubject rfl rfl rfl (by decide +kernel) ⟨Nat.le_of_ble_eq_true rfl, Nat.le_of_ble_eq_true rfl⟩) (z_preS Bz) rfl rfl hl.1 rfl (lv_room (Nat.le_of_ble_eq_true rfl)) dX8_seal_1 ⟨Nat.le_of_ble_eq_true rfl, Nat.le_of_ble_eq_true rfl⟩) (fun H locs ce q9 h0 B k1 k2 k3 => ?_) (fun H locs h0 B => ?_)
  · exact x_xout hno hlocks (zx_no hf h0) h0 B k1 k2 k3 (Nat.le_of_ble_eq_true rfl) (Nat.le_of_ble_eq_true rfl)
  have hf := zx_ok hf h0
  refine lv_aload_n hx hb dX8_seal_4 rfl (lv_at hl 0 rfl) ?_
  refine lv_iload_n hx hb dX8_seal_5 rfl (lv_at hl 2 rfl) ?_
  obtain ⟨u4, r5, σ6, hu4, hf⟩ := zx_some hf
  refine x_xv B (fun nb a g hs Bz => vx_runV (As := [.int a2]) (rest := []) ⟨hx, hb, hml, hown, hts⟩ (c_X8_needPair l hfl hu4 _ nb a g hs) (cwV 1 hts gX8_seal_X8_needPair rfl rfl rfl (by decide +kernel) ⟨Nat.le_of_ble_eq_true rfl, Nat.le_of_ble_eq_true rfl⟩) (x_preV Bz (by decide) (fun _ => rfl) rfl) rfl rfl hl.1 rfl (lv_room (Nat.le_of_ble_eq_true rfl)) dX8_seal_6 ⟨Nat.le_of_ble_eq_true rfl, Nat.le_of_ble_eq_true rfl⟩) (fun H locs ce q9 h0 B k1 k2 k3 => ?_) (fun H locs h0 B => ?_)
  · exact x_xout hno hlocks (zx_no hf h0) h0 B k1 k2 k3 (Nat.le_of_ble_eq_true rfl) (Nat.le_of_ble_eq_true rfl)
  have hf := zx_ok hf h0
  refine lv_aload_n hx hb dX8_seal_9 rfl (lv_at hl 0 rfl) ?_
  refine lv_iload_n hx hb dX8_seal_10 rfl (lv_at hl 3 rfl) ?_
  obtain ⟨u7, r8, σ9, hu7, hf⟩ := zx_some hf
  refine x_xv B (fun nb a g hs Bz => vx_runV (As := [.int a3]) (rest := []) ⟨hx, hb, hml, hown, hts⟩ (c_X8_needToken l hfl hu7 _ nb a g hs) (cwV 1 hts gX8_seal_X8_needToken rfl rfl rfl (by decide +kernel) ⟨Nat.le_of_ble_eq_true rfl, Nat.le_of_ble_eq_true rfl⟩) (x_preV Bz (by decide) (fun _ => rfl) rfl) rfl rfl hl.1 rfl (lv_room (Nat.le_of_ble_eq_true rfl)) dX8_seal_11 ⟨Nat.le_of_ble_eq_true rfl, Nat.le_of_ble_eq_true rfl⟩) (fun H locs ce q9 h0 B k1 k2 k3 => ?_) (fun H locs h0 B => ?_)
  · exact x_xout hno hlocks (zx_no hf h0) h0 B k1 k2 k3 (Nat.le_of_ble_eq_true rfl) (Nat.le_of_ble_eq_true rfl)
  have hf := zx_ok hf h0
  refine lv_aload_n hx hb dX8_seal_14 rfl (lv_at hl 0 rfl) ?_
  refine lv_iload_n hx hb dX8_seal_15 rfl (lv_at hl 1 rfl) ?_
  refine lv_iload_n hx hb dX8_seal_16 rfl (lv_at hl 2 rfl) ?_
  refine lv_iconst (v := (0 : Int32)) hx hb dX8_seal_17 (by decide) ?_
  obtain ⟨r11, σ12, hu10, hf⟩ := zb_some hf
  refine x_i B (fun nb a g hs Bz => va_runV (As := [.int a1, .int a2, .int (0 : Int32)]) (rest := []) ⟨hx, hb, hml, hown, hts⟩ (c_X8_holdsPart l hu10 _ nb a g hs) (cwV 3 hts gX8_seal_X8_holdsPart rfl rfl rfl (by decide +kernel) ⟨Nat.le_of_ble_eq_true rfl, Nat.le_of_ble_eq_true rfl⟩) (x_preV Bz (by decide) (fun _ => rfl) rfl) rfl rfl hl.1 rfl (lv_room (Nat.le_of_ble_eq_true rfl)) dX8_seal_18 ⟨Nat.le_of_ble_eq_true rfl, Nat.le_of_ble_eq_true rfl⟩) (fun H locs B => ?_)
  refine lv_if_eq (tgt := 37) hx hb dX8_seal_21 (by decide) (fun hc => ?_) (fun hc => ?_)
  · have hf := zif_t hc hf
    refine lv_iconst (v := (0 : Int32)) hx hb dX8_seal_37 (by decide) ?_
    exact L38  _ _ _ _ _ _ _ _ hf B (lv_sub hl [0, 1, 2, 3] rfl)
  · have hf := zif_f hc hf
    refine lv_aload_n hx hb dX8_seal_24 rfl (lv_at hl 0 rfl) ?_
    refine lv_iload_n hx hb dX8_seal_25 rfl (lv_at hl 1 rfl) ?_
    refine lv_iload_n hx hb dX8_seal_26 rfl (lv_at hl 3 rfl) ?_
    obtain ⟨r23, σ24, hu22, hf⟩ := zb_some hf
    refine x_i B (fun nb a g hs Bz => va_runV (As := [.int a1, .int a3]) (rest := []) ⟨hx, hb, hml, hown, hts⟩ (c_X8_holdsToken l hu22 _ nb a g hs) (cwV 2 hts gX8_seal_X8_holdsToken rfl rfl rfl (by decide +kernel) ⟨Nat.le_of_ble_eq_true rfl, Nat.le_of_ble_eq_true rfl⟩) (x_preV Bz (by decide) (fun _ => rfl) rfl) rfl rfl hl.1 rfl (lv_room (Nat.le_of_ble_eq_true rfl)) dX8_seal_27 ⟨Nat.le_of_ble_eq_true rfl, Nat.le_of_ble_eq_true rfl⟩) (fun H locs B => ?_)
    refine lv_if_eq (tgt := 37) hx hb dX8_seal_30 (by decide) (fun hc => ?_) (fun hc => ?_)
    · have hf := zif_t hc hf
      refine lv_iconst (v := (0 : Int32)) hx hb dX8_seal_37 (by decide) ?_
      exact L38  _ _ _ _ _ _ _ _ hf B (lv_sub hl [0, 1, 2, 3] rfl)
    · have hf := zif_f hc hf
      refine lv_iconst (v := (1 : Int32)) hx hb dX8_seal_33 (by decide) ?_
      refine lv_goto (tgt := 38) hx hb dX8_seal_34 (by decide) ?_
      exact L38  _ _ _ _ _ _ _ _ hf B (lv_sub hl [0, 1, 2, 3] rfl)
theorem dX8_needBox_0 : decode cX8_needBox 0 = .ok (.iload_n 1, 1) := by decide +kernel
theorem dX8_needBox_1 : decode cX8_needBox 1 = .ok (.ifCond .lt 21, 3) := by decide +kernel
theorem dX8_needBox_4 : decode cX8_needBox 4 = .ok (.iload_n 1, 1) := by decide +kernel
theorem dX8_needBox_5 : decode cX8_needBox 5 = .ok (.aload_n 0, 1) := by decide +kernel
theorem dX8_needBox_6 : decode cX8_needBox 6 = .ok (.getfield 12, 3) := by decide +kernel
theorem dX8_needBox_9 : decode cX8_needBox 9 = .ok (.getfield 292, 3) := by decide +kernel
theorem dX8_needBox_12 : decode cX8_needBox 12 = .ok (.getfield 315, 3) := by decide +kernel
theorem dX8_needBox_15 : decode cX8_needBox 15 = .ok (.if_icmp .ge 7, 3) := by decide +kernel
theorem dX8_needBox_18 : decode cX8_needBox 18 = .ok (.iconst 1, 1) := by decide +kernel
theorem dX8_needBox_19 : decode cX8_needBox 19 = .ok (.goto 4, 3) := by decide +kernel
theorem dX8_needBox_22 : decode cX8_needBox 22 = .ok (.iconst 0, 1) := by decide +kernel
theorem dX8_needBox_23 : decode cX8_needBox 23 = .ok (.invokestatic 186, 3) := by decide +kernel
theorem dX8_needBox_26 : decode cX8_needBox 26 = .ok (.return_, 1) := by decide +kernel
set_option maxRecDepth 20000 in
theorem ggX8_needBox_X8_needIndex : GoodIn wsX8_needBox wsX8_needIndex := goodIn_ca (goodIn_r _ [7, 8, 9] (by decide +kernel) (by decide +kernel)) (goodIn_sub (fun _ h => List.mem_cons_of_mem _ (List.mem_append_right _ h)) (by decide +kernel))
set_option maxRecDepth 20000 in
theorem gX8_needBox_X8_needIndex : GoodIn wsX8_needBox (va_wsS RX8 186 yX8_needIndex wsX8_needIndex) := goodIn_app (goodIn_of _ (by decide +kernel)) ggX8_needBox_X8_needIndex
def rm_X8_needBox : Room := { frames := 9, cells := 1, slots := 6, locals := 220 }
set_option maxHeartbeats 4000000 in
set_option maxRecDepth 100000 in
theorem c_X8_needBox (l : Launch) (hfl : l.stackTraces = false) {G : zG} {ad : Nat → Nat} {σ σ' : zs} {a1 : Int32} {ex : Nat} {r : Int32} (hf : f_X8_needBox σ a1 = some (ex, r, σ')) : xXv l yX8_needBox wsX8_needBox rm_X8_needBox G ad σ [.ref (ad 0), .int a1] ex σ' := by
  intro sz nb a g hs
  refine vx_ofW (cc := cX8_needBox) (maxL := 2) (ret := none) (by decide) rfl ?_
  intro p e s m args below meth c s₁ B hml hno hv
  obtain ⟨rfl, hsz, hv⟩ := hv
  have hx := B.exec
  have hb := B.bytes
  have hr := B.returns
  have hts := atoms_spec (ws := wsX8_needBox) B.pre
  have hown : s.vm.findClass RX8 = some m.cls := findClass_of_methodNamed B.named
  have hlocks := B.notSynchronized
  subst hsz
  have B := xB_start hs hv
  have hinRX0 : ∀ w ∈ wsX00, w ∈ wsX8_needBox := by decide +kernel
  have hinRX6 : ∀ w ∈ wsX60, w ∈ wsX8_needBox := by decide +kernel
  have hinRX8 : ∀ w ∈ wsX80, w ∈ wsX8_needBox := by decide +kernel
  have hl := lv_entry ([.ref (ad 0), .int a1]) (n := 2) (Nat.le_of_ble_eq_true rfl)
  rw [lg_entry_eq]
  generalize (lg_sl ([.ref (ad 0), .int a1]) ++ List.replicate (2 - (lg_sl ([.ref (ad 0), .int a1])).length) Slot.unset).toArray = ls at hl ⊢
  have hl : lv_has ls 2 [(0, .ref (ad 0)), (1, .int a1)] := hl
  generalize hAe : xA ad a s.heap.size = A at B ⊢
  have L23 : ∀ (σ : zs) (s0 : Int32) (H : Heap) (locs : List Loc) (ls : Array Slot), f_X8_needBox_23 σ s0 = some (ex, r, σ') → xB A s G ad σ H locs → lv_has ls 2 [] → W p l e (headSpec wsX8_needBox rm_X8_needBox).room s m ([.ref (ad 0), .int a1] : List Value).toArray below meth c H locs 0 0 (vx_MQ below (va_Qv (fun (u : xV) => ex = 0 ∧ xQ σ' u) (xPost G ad σ' A) A) (xXC G ad ex σ' A) ([.ref (ad 0), .int a1] : List Value).toArray s 1 6 A) (F0 m 23 ls [.int s0]) := by
    intro σ s0 H locs ls hf B hl
    unfold f_X8_needBox_23 at hf
    obtain ⟨u1, r2, σ3, hu1, hf⟩ := zx_some hf
    refine x_xv B (fun nb a g hs Bz => vx_runS (As := [.int s0]) (rest := []) ⟨hx, hb, hml, hown, hts⟩ (c_X8_needIndex l hfl hu1 _ nb a g hs) (va_cwS 1 hts gX8_needBox_X8_needIndex rfl rfl rfl (by decide +kernel) ⟨Nat.le_of_ble_eq_true rfl, Nat.le_of_ble_eq_true rfl⟩) (z_preS Bz) rfl rfl hl.1 rfl (lv_room (Nat.le_of_ble_eq_true rfl)) dX8_needBox_23 ⟨Nat.le_of_ble_eq_true rfl, Nat.le_of_ble_eq_true rfl⟩) (fun H locs ce q9 h0 B k1 k2 k3 => ?_) (fun H locs h0 B => ?_)
    · exact x_xout hno hlocks (zx_no hf h0) h0 B k1 k2 k3 (Nat.le_of_ble_eq_true rfl) (Nat.le_of_ble_eq_true rfl)
    have hf := zx_ok hf h0
    refine W.widen (k := 1) (n := 6) (Nat.le_of_ble_eq_true rfl) (Nat.le_of_ble_eq_true rfl) ?_
    exact x_xvret hx hb hr hlocks B hf dX8_needBox_26
  unfold f_X8_needBox at hf
  refine lv_iload_n hx hb dX8_needBox_0 rfl (lv_at hl 1 rfl) ?_
  refine lv_if_lt (tgt := 22) hx hb dX8_needBox_1 (by decide) (fun hc => ?_) (fun hc => ?_)
  · have hf := zif_t hc hf
    refine lv_iconst (v := (0 : Int32)) hx hb dX8_needBox_22 (by decide) ?_
    exact L23  _ _ _ _ _ hf B (lv_sub hl [] rfl)
  · have hf := zif_f hc hf
    refine lv_iload_n hx hb dX8_needBox_4 rfl (lv_at hl 1 rfl) ?_
    refine lv_aload_n hx hb dX8_needBox_5 rfl (lv_at hl 0 rfl) ?_
    refine x_getr hx hb hts hinRX8 hown B 0 0 1 (by decide) (by decide) (fun _ => rfl) rfl rfl (by decide) (by decide +kernel) rfl dX8_needBox_6 ?_
    refine x_getr hx hb hts hinRX6 hown B 1 1 14 (by decide) (by decide) (fun _ => rfl) rfl rfl (by decide) (by decide +kernel) rfl dX8_needBox_9 ?_
    refine x_geti hx hb hts hinRX0 hown B 14 3 (by decide) (fun _ => rfl) rfl rfl (by decide) (by decide +kernel) rfl dX8_needBox_12 ?_
    refine lv_icmp_ge (tgt := 22) hx hb dX8_needBox_15 (by decide) (fun hc => ?_) (fun hc => ?_)
    · have hf := zif_t hc hf
      refine lv_iconst (v := (0 : Int32)) hx hb dX8_needBox_22 (by decide) ?_
      exact L23  _ _ _ _ _ hf B (lv_sub hl [] rfl)
    · have hf := zif_f hc hf
      refine lv_iconst (v := (1 : Int32)) hx hb dX8_needBox_18 (by decide) ?_
      refine lv_goto (tgt := 23) hx hb dX8_needBox_19 (by decide) ?_
      exact L23  _ _ _ _ _ hf B (lv_sub hl [] rfl)
theorem dX8_holdsBox_0 : decode cX8_holdsBox 0 = .ok (.aload_n 0, 1) := by decide +kernel
theorem dX8_holdsBox_1 : decode cX8_holdsBox 1 = .ok (.getfield 12, 3) := by decide +kernel
theorem dX8_holdsBox_4 : decode cX8_holdsBox 4 = .ok (.getfield 292, 3) := by decide +kernel
theorem dX8_holdsBox_7 : decode cX8_holdsBox 7 = .ok (.getfield 326, 3) := by decide +kernel
theorem dX8_holdsBox_10 : decode cX8_holdsBox 10 = .ok (.iload_n 2, 1) := by decide +kernel
theorem dX8_holdsBox_11 : decode cX8_holdsBox 11 = .ok (.iaload, 1) := by decide +kernel
theorem dX8_holdsBox_12 : decode cX8_holdsBox 12 = .ok (.iload_n 1, 1) := by decide +kernel
theorem dX8_holdsBox_13 : decode cX8_holdsBox 13 = .ok (.invokestatic 146, 3) := by decide +kernel
theorem dX8_holdsBox_16 : decode cX8_holdsBox 16 = .ok (.istore_n 3, 1) := by decide +kernel
theorem dX8_holdsBox_17 : decode cX8_holdsBox 17 = .ok (.iload_n 3, 1) := by decide +kernel
theorem dX8_holdsBox_18 : decode cX8_holdsBox 18 = .ok (.ifCond .ne 13, 3) := by decide +kernel
theorem dX8_holdsBox_21 : decode cX8_holdsBox 21 = .ok (.aload_n 0, 1) := by decide +kernel
theorem dX8_holdsBox_22 : decode cX8_holdsBox 22 = .ok (.getfield 26, 3) := by decide +kernel
theorem dX8_holdsBox_25 : decode cX8_holdsBox 25 = .ok (.bipush 6, 2) := by decide +kernel
theorem dX8_holdsBox_27 : decode cX8_holdsBox 27 = .ok (.iload_n 2, 1) := by decide +kernel
theorem dX8_holdsBox_28 : decode cX8_holdsBox 28 = .ok (.invokevirtual 155, 3) := by decide +kernel
theorem dX8_holdsBox_31 : decode cX8_holdsBox 31 = .ok (.iload_n 3, 1) := by decide +kernel
theorem dX8_holdsBox_32 : decode cX8_holdsBox 32 = .ok (.ireturn, 1) := by decide +kernel
set_option maxRecDepth 20000 in
theorem ggX8_holdsBox_X8_hasBit : GoodIn wsX8_holdsBox wsX8_hasBit := goodIn_r _ [8] (by decide +kernel) (by decide +kernel)
set_option maxRecDepth 20000 in
theorem gX8_holdsBox_X8_hasBit : GoodIn wsX8_holdsBox (va_wsS RX8 146 yX8_hasBit wsX8_hasBit) := goodIn_app (goodIn_of _ (by decide +kernel)) ggX8_holdsBox_X8_hasBit
set_option maxRecDepth 20000 in
theorem ggX8_holdsBox_X5_begin : GoodIn wsX8_holdsBox wsX5_begin := goodIn_ca (goodIn_r _ [13, 14, 15, 16, 17, 12, 18, 19, 20, 44, 45, 46] (by decide +kernel) (by decide +kernel)) (goodIn_sub (fun _ h => List.mem_cons_of_mem _ (List.mem_append_right _ h)) (by decide +kernel))
set_option maxRecDepth 20000 in
theorem gX8_holdsBox_X5_begin : GoodIn wsX8_holdsBox (wsV RX8 155 RX5 yX5_begin wsX5_begin) := goodIn_app (goodIn_of _ (by decide +kernel)) ggX8_holdsBox_X5_begin
def rm_X8_holdsBox : Room := { frames := 3, cells := 0, slots := 0, locals := 60 }
set_option maxHeartbeats 4000000 in
set_option maxRecDepth 100000 in
theorem c_X8_holdsBox (l : Launch) {G : zG} {ad : Nat → Nat} {σ σ' : zs} {a1 a2 : Int32} {r : Int32} (hf : f_X8_holdsBox σ a1 a2 = some (r, σ')) : xMi l yX8_holdsBox wsX8_holdsBox rm_X8_holdsBox G ad σ [.ref (ad 0), .int a1, .int a2] r σ' := by
  intro sz nb a g hs
  refine Met.ofW (cc := cX8_holdsBox) (maxL := 4) (ret := (some .boolean)) (by decide) rfl ?_
  intro p e s m args below meth c s₁ B hml hv
  obtain ⟨rfl, hsz, hv⟩ := hv
  have hx := B.exec
  have hb := B.bytes
  have hr := B.returns
  have hts := atoms_spec (ws := wsX8_holdsBox) B.pre
  have hown : s.vm.findClass RX8 = some m.cls := findClass_of_methodNamed B.named
  have hlocks := B.notSynchronized
  subst hsz
  have B := xB_start hs hv
  have hinRX0 : ∀ w ∈ wsX00, w ∈ wsX8_holdsBox := by decide +kernel
  have hinRX6 : ∀ w ∈ wsX60, w ∈ wsX8_holdsBox := by decide +kernel
  have hinRX8 : ∀ w ∈ wsX80, w ∈ wsX8_holdsBox := by decide +kernel
  have hl := lv_entry ([.ref (ad 0), .int a1, .int a2]) (n := 4) (Nat.le_of_ble_eq_true rfl)
  rw [lg_entry_eq]
  generalize (lg_sl ([.ref (ad 0), .int a1, .int a2]) ++ List.replicate (4 - (lg_sl ([.ref (ad 0), .int a1, .int a2])).length) Slot.unset).toArray = ls at hl ⊢
  have hl : lv_has ls 4 [(0, .ref (ad 0)), (1, .int a1), (2, .int a2)] := hl
  generalize hAe : xA ad a s.heap.size = A at B ⊢
  unfold f_X8_holdsBox at hf
  refine lv_aload_n hx hb dX8_holdsBox_0 rfl (lv_at hl 0 rfl) ?_
  refine x_getr hx hb hts hinRX8 hown B 0 0 1 (by decide) (by decide) (fun _ => rfl) rfl rfl (by decide) (by decide +kernel) rfl dX8_holdsBox_1 ?_
  refine x_getr hx hb hts hinRX6 hown B 1 1 14 (by decide) (by decide) (fun _ => rfl) rfl rfl (by decide) (by decide +kernel) rfl dX8_holdsBox_4 ?_
  refine x_getr hx hb hts hinRX0 hown B 14 6 19 (by decide) (by decide) (fun _ => rfl) rfl rfl (by decide) (by decide +kernel) rfl dX8_holdsBox_7 ?_
  refine lv_iload_n hx hb dX8_holdsBox_10 rfl (lv_at hl 2 rfl) ?_
  obtain ⟨hg, hf⟩ := zg_some hf
  refine x_iald hx hb B 19 (by decide) (fun _ => rfl) (zin_ok hg) dX8_holdsBox_11 ?_
  refine lv_iload_n hx hb dX8_holdsBox_12 rfl (lv_at hl 1 rfl) ?_
  obtain ⟨r2, σ3, hu1, hf⟩ := zb_some hf
  refine x_i B (fun nb a g hs Bz => va_runS (As := [.int (σ 19 a2.toNatClampNeg), .int a1]) (rest := []) ⟨hx, hb, hml, hown, hts⟩ (c_X8_hasBit l hu1 _ nb a g hs) (va_cwS 2 hts gX8_holdsBox_X8_hasBit rfl rfl rfl (by decide +kernel) ⟨Nat.le_of_ble_eq_true rfl, Nat.le_of_ble_eq_true rfl⟩) (z_preS Bz) rfl rfl hl.1 rfl (lv_room (Nat.le_of_ble_eq_true rfl)) dX8_holdsBox_13 ⟨Nat.le_of_ble_eq_true rfl, Nat.le_of_ble_eq_true rfl⟩) (fun H locs B => ?_)
  refine lv_istore_n (lv' := [(3, .int r2), (0, .ref (ad 0)), (1, .int a1), (2, .int a2)]) hx hb dX8_holdsBox_16 rfl hl (by decide) rfl (fun ls hl => ?_)
  refine lv_iload_n hx hb dX8_holdsBox_17 rfl (lv_at hl 0 rfl) ?_
  refine lv_if_ne (tgt := 31) hx hb dX8_holdsBox_18 (by decide) (fun hc => ?_) (fun hc => ?_)
  · have hf := zif_f hc hf
    refine lv_iload_n hx hb dX8_holdsBox_31 rfl (lv_at hl 0 rfl) ?_
    obtain ⟨hg, hf⟩ := zg_some hf
    refine W.widen (k := 0) (n := 0) (Nat.le_of_ble_eq_true rfl) (Nat.le_of_ble_eq_true rfl) ?_
    exact x_iret hx hb hr (znz hg) hlocks B hf dX8_holdsBox_32
  · have hf := zif_t hc hf
    refine lv_aload_n hx hb dX8_holdsBox_21 rfl (lv_at hl 1 rfl) ?_
    refine x_getr hx hb hts hinRX8 hown B 0 3 49 (by decide) (by decide) (fun _ => rfl) rfl rfl (by decide) (by decide +kernel) rfl dX8_holdsBox_22 ?_
    refine lv_bipush (v := (6 : Int32)) hx hb dX8_holdsBox_25 (by decide) ?_
    refine lv_iload_n hx hb dX8_holdsBox_27 rfl (lv_at hl 3 rfl) ?_
    obtain ⟨r5, σ6, hu4, hf⟩ := zb_some hf
    refine x_v B (fun nb a g hs Bz => va_runV (As := [.int (6 : Int32), .int a2]) (rest := []) ⟨hx, hb, hml, hown, hts⟩ (c_X5_begin l hu4 _ nb a g hs) (cwV 2 hts gX8_holdsBox_X5_begin rfl rfl rfl (by decide +kernel) ⟨Nat.le_of_ble_eq_true rfl, Nat.le_of_ble_eq_true rfl⟩) (x_preV Bz (by decide) (fun _ => rfl) rfl) rfl rfl hl.1 rfl (lv_room (Nat.le_of_ble_eq_true rfl)) dX8_holdsBox_28 ⟨Nat.le_of_ble_eq_true rfl, Nat.le_of_ble_eq_true rfl⟩) (fun H locs B => ?_)
    refine lv_iload_n hx hb dX8_holdsBox_31 rfl (lv_at hl 0 rfl) ?_
    obtain ⟨hg, hf⟩ := zg_some hf
    refine W.widen (k := 0) (n := 0) (Nat.le_of_ble_eq_true rfl) (Nat.le_of_ble_eq_true rfl) ?_
    exact x_iret hx hb hr (znz hg) hlocks B hf dX8_holdsBox_32
theorem dX8_giveBox_0 : decode cX8_giveBox 0 = .ok (.iload_n 1, 1) := by decide +kernel
theorem dX8_giveBox_1 : decode cX8_giveBox 1 = .ok (.invokestatic 55, 3) := by decide +kernel
theorem dX8_giveBox_4 : decode cX8_giveBox 4 = .ok (.iload_n 2, 1) := by decide +kernel
theorem dX8_giveBox_5 : decode cX8_giveBox 5 = .ok (.invokestatic 55, 3) := by decide +kernel
theorem dX8_giveBox_8 : decode cX8_giveBox 8 = .ok (.aload_n 0, 1) := by decide +kernel
theorem dX8_giveBox_9 : decode cX8_giveBox 9 = .ok (.iload_n 3, 1) := by decide +kernel
theorem dX8_giveBox_10 : decode cX8_giveBox 10 = .ok (.invokevirtual 320, 3) := by decide +kernel
theorem dX8_giveBox_13 : decode cX8_giveBox 13 = .ok (.aload_n 0, 1) := by decide +kernel
theorem dX8_giveBox_14 : decode cX8_giveBox 14 = .ok (.iload_n 1, 1) := by decide +kernel
theorem dX8_giveBox_15 : decode cX8_giveBox 15 = .ok (.iload_n 3, 1) := by decide +kernel
theorem dX8_giveBox_16 : decode cX8_giveBox 16 = .ok (.invokevirtual 323, 3) := by decide +kernel
theorem dX8_giveBox_19 : decode cX8_giveBox 19 = .ok (.invokestatic 110, 3) := by decide +kernel
theorem dX8_giveBox_22 : decode cX8_giveBox 22 = .ok (.aload_n 0, 1) := by decide +kernel
theorem dX8_giveBox_23 : decode cX8_giveBox 23 = .ok (.getfield 12, 3) := by decide +kernel
theorem dX8_giveBox_26 : decode cX8_giveBox 26 = .ok (.getfield 292, 3) := by decide +kernel
theorem dX8_giveBox_29 : decode cX8_giveBox 29 = .ok (.getfield 326, 3) := by decide +kernel
theorem dX8_giveBox_32 : decode cX8_giveBox 32 = .ok (.iload_n 3, 1) := by decide +kernel
theorem dX8_giveBox_33 : decode cX8_giveBox 33 = .ok (.dup2, 1) := by decide +kernel
theorem dX8_giveBox_34 : decode cX8_giveBox 34 = .ok (.iaload, 1) := by decide +kernel
theorem dX8_giveBox_35 : decode cX8_giveBox 35 = .ok (.iconst 1, 1) := by decide +kernel
theorem dX8_giveBox_36 : decode cX8_giveBox 36 = .ok (.iload_n 2, 1) := by decide +kernel
theorem dX8_giveBox_37 : decode cX8_giveBox 37 = .ok (.ishl, 1) := by decide +kernel
theorem dX8_giveBox_38 : decode cX8_giveBox 38 = .ok (.ior, 1) := by decide +kernel
theorem dX8_giveBox_39 : decode cX8_giveBox 39 = .ok (.iastore, 1) := by decide +kernel
theorem dX8_giveBox_40 : decode cX8_giveBox 40 = .ok (.aload_n 0, 1) := by decide +kernel
theorem dX8_giveBox_41 : decode cX8_giveBox 41 = .ok (.getfield 12, 3) := by decide +kernel
theorem dX8_giveBox_44 : decode cX8_giveBox 44 = .ok (.getfield 292, 3) := by decide +kernel
theorem dX8_giveBox_47 : decode cX8_giveBox 47 = .ok (.getfield 326, 3) := by decide +kernel
theorem dX8_giveBox_50 : decode cX8_giveBox 50 = .ok (.iload_n 3, 1) := by decide +kernel
theorem dX8_giveBox_51 : decode cX8_giveBox 51 = .ok (.iaload, 1) := by decide +kernel
theorem dX8_giveBox_52 : decode cX8_giveBox 52 = .ok (.ireturn, 1) := by decide +kernel
set_option maxRecDepth 20000 in
theorem ggX8_giveBox_X8_needSubject : GoodIn wsX8_giveBox wsX8_needSubject := goodIn_ca (goodIn_r _ [7, 8, 9, 6, 10, 11, 12] (by decide +kernel) (by decide +kernel)) (goodIn_sub (fun _ h => List.mem_cons_of_mem _ (List.mem_append_left _ (List.mem_append_right _ h))) (by decide +kernel))
set_option maxRecDepth 20000 in
theorem gX8_giveBox_X8_needSubject : GoodIn wsX8_giveBox (va_wsS RX8 55 yX8_needSubject wsX8_needSubject) := goodIn_app (goodIn_of _ (by decide +kernel)) ggX8_giveBox_X8_needSubject
set_option maxRecDepth 20000 in
theorem ggX8_giveBox_X8_needBox : GoodIn wsX8_giveBox wsX8_needBox := goodIn_ca (goodIn_r _ [16, 1, 2, 17, 8, 9, 6, 10, 11, 12, 43, 44, 45, 46, 47, 48, 49, 50, 51, 52, 53, 54, 55, 56, 57, 58, 59, 60, 61, 62, 63, 64, 65] (by decide +kernel) (by decide +kernel)) (goodIn_sub (fun _ h => List.mem_cons_of_mem _ (List.mem_append_left _ (List.mem_append_right _ h))) (by decide +kernel))
set_option maxRecDepth 20000 in
theorem gX8_giveBox_X8_needBox : GoodIn wsX8_giveBox (wsV RX8 320 RX8 yX8_needBox wsX8_needBox) := goodIn_app (goodIn_of _ (by decide +kernel)) ggX8_giveBox_X8_needBox
set_option maxRecDepth 20000 in
theorem ggX8_giveBox_X8_holdsBox : GoodIn wsX8_giveBox wsX8_holdsBox := goodIn_ca (goodIn_r _ [21, 1, 2, 3, 22, 23, 24, 6, 25, 26, 27, 28, 29, 30, 31, 32, 33, 34, 35, 36, 37, 43, 44, 45, 46, 47, 48, 49, 50, 51, 52, 53, 54, 55, 56, 57, 58, 59, 60, 61, 62, 63, 64, 65, 66, 67, 68] (by decide +kernel) (by decide +kernel)) (goodIn_sub (fun _ h => List.mem_cons_of_mem _ (List.mem_append_left _ (List.mem_append_left _ (List.mem_append_right _ h)))) (by decide +kernel))
set_option maxRecDepth 20000 in
theorem gX8_giveBox_X8_holdsBox : GoodIn wsX8_giveBox (wsV RX8 323 RX8 yX8_holdsBox wsX8_holdsBox) := goodIn_app (goodIn_of _ (by decide +kernel)) ggX8_giveBox_X8_holdsBox
set_option maxRecDepth 20000 in
theorem ggX8_giveBox_X8_needPermission : GoodIn wsX8_giveBox wsX8_needPermission := goodIn_ca (goodIn_r _ [40, 41, 42] (by decide +kernel) (by decide +kernel)) (goodIn_sub (fun _ h => List.mem_cons_of_mem _ (List.mem_append_right _ h)) (by decide +kernel))
set_option maxRecDepth 20000 in
theorem gX8_giveBox_X8_needPermission : GoodIn wsX8_giveBox (va_wsS RX8 110 yX8_needPermission wsX8_needPermission) := goodIn_app (goodIn_of _ (by decide +kernel)) ggX8_giveBox_X8_needPermission
def rm_X8_giveBox : Room := { frames := 10, cells := 4, slots := 24, locals := 241 }
set_option maxHeartbeats 4000000 in
set_option maxRecDepth 100000 in
theorem c_X8_giveBox (l : Launch) (hfl : l.stackTraces = false) {G : zG} {ad : Nat → Nat} {σ σ' : zs} {a1 a2 a3 : Int32} {ex : Nat} {r : Int32} (hf : f_X8_giveBox σ a1 a2 a3 = some (ex, r, σ')) : xXi l yX8_giveBox wsX8_giveBox rm_X8_giveBox G ad σ [.ref (ad 0), .int a1, .int a2, .int a3] ex r σ' := by
  intro sz nb a g hs
  refine vx_ofW (cc := cX8_giveBox) (maxL := 4) (ret := (some .int)) (by decide) rfl ?_
  intro p e s m args below meth c s₁ B hml hno hv
  obtain ⟨rfl, hsz, hv⟩ := hv
  have hx := B.exec
  have hb := B.bytes
  have hr := B.returns
  have hts := atoms_spec (ws := wsX8_giveBox) B.pre
  have hown : s.vm.findClass RX8 = some m.cls := findClass_of_methodNamed B.named
  have hlocks := B.notSynchronized
  subst hsz
  have B := xB_start hs hv
  have hinRX0 : ∀ w ∈ wsX00, w ∈ wsX8_giveBox := by decide +kernel
  have hinRX6 : ∀ w ∈ wsX60, w ∈ wsX8_giveBox := by decide +kernel
  have hinRX8 : ∀ w ∈ wsX80, w ∈ wsX8_giveBox := by decide +kernel
  have hl := lv_entry ([.ref (ad 0), .int a1, .int a2, .int a3]) (n := 4) (Nat.le_of_ble_eq_true rfl)
  rw [lg_entry_eq]
  generalize (lg_sl ([.ref (ad 0), .int a1, .int a2, .int a3]) ++ List.replicate (4 - (lg_sl ([.ref (ad 0), .int a1, .int a2, .int a3])).length) Slot.unset).toArray = ls at hl ⊢
  have hl : lv_has ls 4 [(0, .ref (ad 0)), (1, .int a1), (2, .int a2), (3, .int a3)] := hl
  generalize hAe : xA ad a s.heap.size = A at B ⊢
  unfold f_X8_giveBox at hf
  refine lv_iload_n hx hb dX8_giveBox_0 rfl (lv_at hl 1 rfl) ?_
  obtain ⟨u1, r2, σ3, hu1, hf⟩ := zx_some hf
  refine x_xv B (fun nb a g hs Bz => vx_runS (As := [.int a1]) (rest := []) ⟨hx, hb, hml, hown, hts⟩ (c_X8_needSubject l hfl hu1 _ nb a g hs) (va_cwS 1 hts gX8_giveBox_X8_needSubject rfl rfl rfl (by decide +kernel) ⟨Nat.le_of_ble_eq_true rfl, Nat.le_of_ble_eq_true rfl⟩) (z_preS Bz) rfl rfl hl.1 rfl (lv_room (Nat.le_of_ble_eq_true rfl)) dX8_giveBox_1 ⟨Nat.le_of_ble_eq_true rfl, Nat.le_of_ble_eq_true rfl⟩) (fun H locs ce q9 h0 B k1 k2 k3 => ?_) (fun H locs h0 B => ?_)
  · exact x_xout hno hlocks (zx_no hf h0) h0 B k1 k2 k3 (Nat.le_of_ble_eq_true rfl) (Nat.le_of_ble_eq_true rfl)
  have hf := zx_ok hf h0
  refine lv_iload_n hx hb dX8_giveBox_4 rfl (lv_at hl 2 rfl) ?_
  obtain ⟨u4, r5, σ6, hu4, hf⟩ := zx_some hf
  refine x_xv B (fun nb a g hs Bz => vx_runS (As := [.int a2]) (rest := []) ⟨hx, hb, hml, hown, hts⟩ (c_X8_needSubject l hfl hu4 _ nb a g hs) (va_cwS 1 hts gX8_giveBox_X8_needSubject rfl rfl rfl (by decide +kernel) ⟨Nat.le_of_ble_eq_true rfl, Nat.le_of_ble_eq_true rfl⟩) (z_preS Bz) rfl rfl hl.1 rfl (lv_room (Nat.le_of_ble_eq_true rfl)) dX8_giveBox_5 ⟨Nat.le_of_ble_eq_true rfl, Nat.le_of_ble_eq_true rfl⟩) (fun H locs ce q9 h0 B k1 k2 k3 => ?_) (fun H locs h0 B => ?_)
  · exact x_xout hno hlocks (zx_no hf h0) h0 B k1 k2 k3 (Nat.le_of_ble_eq_true rfl) (Nat.le_of_ble_eq_true rfl)
  have hf := zx_ok hf h0
  refine lv_aload_n hx hb dX8_giveBox_8 rfl (lv_at hl 0 rfl) ?_
  refine lv_iload_n hx hb dX8_giveBox_9 rfl (lv_at hl 3 rfl) ?_
  obtain ⟨u7, r8, σ9, hu7, hf⟩ := zx_some hf
  refine x_xv B (fun nb a g hs Bz => vx_runV (As := [.int a3]) (rest := []) ⟨hx, hb, hml, hown, hts⟩ (c_X8_needBox l hfl hu7 _ nb a g hs) (cwV 1 hts gX8_giveBox_X8_needBox rfl rfl rfl (by decide +kernel) ⟨Nat.le_of_ble_eq_true rfl, Nat.le_of_ble_eq_true rfl⟩) (x_preV Bz (by decide) (fun _ => rfl) rfl) rfl rfl hl.1 rfl (lv_room (Nat.le_of_ble_eq_true rfl)) dX8_giveBox_10 ⟨Nat.le_of_ble_eq_true rfl, Nat.le_of_ble_eq_true rfl⟩) (fun H locs ce q9 h0 B k1 k2 k3 => ?_) (fun H locs h0 B => ?_)
  · exact x_xout hno hlocks (zx_no hf h0) h0 B k1 k2 k3 (Nat.le_of_ble_eq_true rfl) (Nat.le_of_ble_eq_true rfl)
  have hf := zx_ok hf h0
  refine lv_aload_n hx hb dX8_giveBox_13 rfl (lv_at hl 0 rfl) ?_
  refine lv_iload_n hx hb dX8_giveBox_14 rfl (lv_at hl 1 rfl) ?_
  refine lv_iload_n hx hb dX8_giveBox_15 rfl (lv_at hl 3 rfl) ?_
  obtain ⟨r11, σ12, hu10, hf⟩ := zb_some hf
  refine x_i B (fun nb a g hs Bz => va_runV (As := [.int a1, .int a3]) (rest := []) ⟨hx, hb, hml, hown, hts⟩ (c_X8_holdsBox l hu10 _ nb a g hs) (cwV 2 hts gX8_giveBox_X8_holdsBox rfl rfl rfl (by decide +kernel) ⟨Nat.le_of_ble_eq_true rfl, Nat.le_of_ble_eq_true rfl⟩) (x_preV Bz (by decide) (fun _ => rfl) rfl) rfl rfl hl.1 rfl (lv_room (Nat.le_of_ble_eq_true rfl)) dX8_giveBox_16 ⟨Nat.le_of_ble_eq_true rfl, Nat.le_of_ble_eq_true rfl⟩) (fun H locs B => ?_)
  obtain ⟨u13, r14, σ15, hu13, hf⟩ := zx_some hf
  refine x_xv B (fun nb a g hs Bz => vx_runS (As := [.int r11]) (rest := []) ⟨hx, hb, hml, hown, hts⟩ (c_X8_needPermission l hfl hu13 _ nb a g hs) (va_cwS 1 hts gX8_giveBox_X8_needPermission rfl rfl rfl (by decide +kernel) ⟨Nat.le_of_ble_eq_true rfl, Nat.le_of_ble_eq_true rfl⟩) (z_preS Bz) rfl rfl hl.1 rfl (lv_room (Nat.le_of_ble_eq_true rfl)) dX8_giveBox_19 ⟨Nat.le_of_ble_eq_true rfl, Nat.le_of_ble_eq_true rfl⟩) (fun H locs ce q9 h0 B k1 k2 k3 => ?_) (fun H locs h0 B => ?_)
  · exact x_xout hno hlocks (zx_no hf h0) h0 B k1 k2 k3 (Nat.le_of_ble_eq_true rfl) (Nat.le_of_ble_eq_true rfl)
  have hf := zx_ok hf h0
  refine lv_aload_n hx hb dX8_giveBox_22 rfl (lv_at hl 0 rfl) ?_
  refine x_getr hx hb hts hinRX8 hown B 0 0 1 (by decide) (by decide) (fun _ => rfl) rfl rfl (by decide) (by decide +kernel) rfl dX8_giveBox_23 ?_
  refine x_getr hx hb hts hinRX6 hown B 1 1 14 (by decide) (by decide) (fun _ => rfl) rfl rfl (by decide) (by decide +kernel) rfl dX8_giveBox_26 ?_
  refine x_getr hx hb hts hinRX0 hown B 14 6 19 (by decide) (by decide) (fun _ => rfl) rfl rfl (by decide) (by decide +kernel) rfl dX8_giveBox_29 ?_
  refine lv_iload_n hx hb dX8_giveBox_32 rfl (lv_at hl 3 rfl) ?_
  refine lv_dup2_11 hx hb dX8_giveBox_33 rfl rfl ?_
  obtain ⟨hg, hf⟩ := zg_some hf
  refine x_iald hx hb B 19 (by decide) (fun _ => rfl) (zin_ok hg) dX8_giveBox_34 ?_
  refine lv_iconst (v := (1 : Int32)) hx hb dX8_giveBox_35 (by decide) ?_
  refine lv_iload_n hx hb dX8_giveBox_36 rfl (lv_at hl 2 rfl) ?_
  refine lv_ishl hx hb dX8_giveBox_37 ?_
  refine lv_ior hx hb dX8_giveBox_38 ?_
  obtain ⟨hg, hf⟩ := zg_some hf
  refine x_iast hx hb B 19 (by decide) (by decide) (fun _ => rfl) (zin_ok hg) dX8_giveBox_39 (fun H locs B => ?_)
  refine lv_aload_n hx hb dX8_giveBox_40 rfl (lv_at hl 0 rfl) ?_
  refine x_getr hx hb hts hinRX8 hown B 0 0 1 (by decide) (by decide) (fun _ => rfl) rfl rfl (by decide) (by decide +kernel) rfl dX8_giveBox_41 ?_
  refine x_getr hx hb hts hinRX6 hown B 1 1 14 (by decide) (by decide) (fun _ => rfl) rfl rfl (by decide) (by decide +kernel) rfl dX8_giveBox_44 ?_
  refine x_getr hx hb hts hinRX0 hown B 14 6 19 (by decide) (by decide) (fun _ => rfl) rfl rfl (by decide) (by decide +kernel) rfl dX8_giveBox_47 ?_
  refine lv_iload_n hx hb dX8_giveBox_50 rfl (lv_at hl 3 rfl) ?_
  obtain ⟨hg, hf⟩ := zg_some hf
  refine x_iald hx hb B 19 (by decide) (fun _ => rfl) (zin_ok hg) dX8_giveBox_51 ?_
  refine W.widen (k := 4) (n := 24) (Nat.le_of_ble_eq_true rfl) (Nat.le_of_ble_eq_true rfl) ?_
  exact x_xiret hx hb hr rfl hlocks B hf dX8_giveBox_52
theorem dX8_unseal_0 : decode cX8_unseal 0 = .ok (.iload_n 1, 1) := by decide +kernel
theorem dX8_unseal_1 : decode cX8_unseal 1 = .ok (.invokestatic 55, 3) := by decide +kernel
theorem dX8_unseal_4 : decode cX8_unseal 4 = .ok (.aload_n 0, 1) := by decide +kernel
theorem dX8_unseal_5 : decode cX8_unseal 5 = .ok (.iload_n 2, 1) := by decide +kernel
theorem dX8_unseal_6 : decode cX8_unseal 6 = .ok (.invokevirtual 320, 3) := by decide +kernel
theorem dX8_unseal_9 : decode cX8_unseal 9 = .ok (.aload_n 0, 1) := by decide +kernel
theorem dX8_unseal_10 : decode cX8_unseal 10 = .ok (.iload_n 1, 1) := by decide +kernel
theorem dX8_unseal_11 : decode cX8_unseal 11 = .ok (.iload_n 2, 1) := by decide +kernel
theorem dX8_unseal_12 : decode cX8_unseal 12 = .ok (.invokevirtual 323, 3) := by decide +kernel
theorem dX8_unseal_15 : decode cX8_unseal 15 = .ok (.ifCond .eq 28, 3) := by decide +kernel
theorem dX8_unseal_18 : decode cX8_unseal 18 = .ok (.aload_n 0, 1) := by decide +kernel
theorem dX8_unseal_19 : decode cX8_unseal 19 = .ok (.iload_n 1, 1) := by decide +kernel
theorem dX8_unseal_20 : decode cX8_unseal 20 = .ok (.aload_n 0, 1) := by decide +kernel
theorem dX8_unseal_21 : decode cX8_unseal 21 = .ok (.getfield 12, 3) := by decide +kernel
theorem dX8_unseal_24 : decode cX8_unseal 24 = .ok (.getfield 292, 3) := by decide +kernel
theorem dX8_unseal_27 : decode cX8_unseal 27 = .ok (.getfield 329, 3) := by decide +kernel
theorem dX8_unseal_30 : decode cX8_unseal 30 = .ok (.iload_n 2, 1) := by decide +kernel
theorem dX8_unseal_31 : decode cX8_unseal 31 = .ok (.iaload, 1) := by decide +kernel
theorem dX8_unseal_32 : decode cX8_unseal 32 = .ok (.iconst 1, 1) := by decide +kernel
theorem dX8_unseal_33 : decode cX8_unseal 33 = .ok (.invokevirtual 307, 3) := by decide +kernel
theorem dX8_unseal_36 : decode cX8_unseal 36 = .ok (.ifCond .eq 7, 3) := by decide +kernel
theorem dX8_unseal_39 : decode cX8_unseal 39 = .ok (.iconst 1, 1) := by decide +kernel
theorem dX8_unseal_40 : decode cX8_unseal 40 = .ok (.goto 4, 3) := by decide +kernel
theorem dX8_unseal_43 : decode cX8_unseal 43 = .ok (.iconst 0, 1) := by decide +kernel
theorem dX8_unseal_44 : decode cX8_unseal 44 = .ok (.invokestatic 110, 3) := by decide +kernel
theorem dX8_unseal_47 : decode cX8_unseal 47 = .ok (.aload_n 0, 1) := by decide +kernel
theorem dX8_unseal_48 : decode cX8_unseal 48 = .ok (.getfield 12, 3) := by decide +kernel
theorem dX8_unseal_51 : decode cX8_unseal 51 = .ok (.getfield 292, 3) := by decide +kernel
theorem dX8_unseal_54 : decode cX8_unseal 54 = .ok (.getfield 332, 3) := by decide +kernel
theorem dX8_unseal_57 : decode cX8_unseal 57 = .ok (.iload_n 2, 1) := by decide +kernel
theorem dX8_unseal_58 : decode cX8_unseal 58 = .ok (.iaload, 1) := by decide +kernel
theorem dX8_unseal_59 : decode cX8_unseal 59 = .ok (.istore_n 3, 1) := by decide +kernel
theorem dX8_unseal_60 : decode cX8_unseal 60 = .ok (.aload_n 0, 1) := by decide +kernel
theorem dX8_unseal_61 : decode cX8_unseal 61 = .ok (.getfield 12, 3) := by decide +kernel
theorem dX8_unseal_64 : decode cX8_unseal 64 = .ok (.getfield 66, 3) := by decide +kernel
theorem dX8_unseal_67 : decode cX8_unseal 67 = .ok (.getfield 137, 3) := by decide +kernel
theorem dX8_unseal_70 : decode cX8_unseal 70 = .ok (.iload_n 3, 1) := by decide +kernel
theorem dX8_unseal_71 : decode cX8_unseal 71 = .ok (.dup2, 1) := by decide +kernel
theorem dX8_unseal_72 : decode cX8_unseal 72 = .ok (.iaload, 1) := by decide +kernel
theorem dX8_unseal_73 : decode cX8_unseal 73 = .ok (.iconst 1, 1) := by decide +kernel
theorem dX8_unseal_74 : decode cX8_unseal 74 = .ok (.iload_n 1, 1) := by decide +kernel
theorem dX8_unseal_75 : decode cX8_unseal 75 = .ok (.ishl, 1) := by decide +kernel
theorem dX8_unseal_76 : decode cX8_unseal 76 = .ok (.ior, 1) := by decide +kernel
theorem dX8_unseal_77 : decode cX8_unseal 77 = .ok (.iastore, 1) := by decide +kernel
theorem dX8_unseal_78 : decode cX8_unseal 78 = .ok (.iload_n 3, 1) := by decide +kernel
theorem dX8_unseal_79 : decode cX8_unseal 79 = .ok (.ireturn, 1) := by decide +kernel
set_option maxRecDepth 20000 in
theorem ggX8_unseal_X8_needSubject : GoodIn wsX8_unseal wsX8_needSubject := goodIn_ca (goodIn_r _ [10, 11, 12, 9, 13, 14, 15] (by decide +kernel) (by decide +kernel)) (goodIn_sub (fun _ h => List.mem_cons_of_mem _ (List.mem_append_left _ (List.mem_append_right _ h))) (by decide +kernel))
set_option maxRecDepth 20000 in
theorem gX8_unseal_X8_needSubject : GoodIn wsX8_unseal (va_wsS RX8 55 yX8_needSubject wsX8_needSubject) := goodIn_app (goodIn_of _ (by decide +kernel)) ggX8_unseal_X8_needSubject
set_option maxRecDepth 20000 in
theorem ggX8_unseal_X8_needBox : GoodIn wsX8_unseal wsX8_needBox := goodIn_ca (goodIn_r _ [19, 1, 2, 20, 11, 12, 9, 13, 14, 15, 58, 59, 60, 61, 62, 63, 64, 65, 66, 67, 68, 69, 70, 71, 72, 73, 74, 75, 76, 77, 78, 79, 80] (by decide +kernel) (by decide +kernel)) (goodIn_sub (fun _ h => List.mem_cons_of_mem _ (List.mem_append_left _ (List.mem_append_right _ h))) (by decide +kernel))
set_option maxRecDepth 20000 in
theorem gX8_unseal_X8_needBox : GoodIn wsX8_unseal (wsV RX8 320 RX8 yX8_needBox wsX8_needBox) := goodIn_app (goodIn_of _ (by decide +kernel)) ggX8_unseal_X8_needBox
set_option maxRecDepth 20000 in
theorem ggX8_unseal_X8_holdsBox : GoodIn wsX8_unseal wsX8_holdsBox := goodIn_ca (goodIn_r _ [24, 1, 2, 25, 26, 27, 28, 9, 29, 30, 31, 32, 33, 34, 35, 36, 37, 38, 39, 40, 41, 58, 59, 60, 61, 62, 63, 64, 65, 66, 67, 68, 69, 70, 71, 72, 73, 74, 75, 76, 77, 78, 79, 80, 93, 94, 95] (by decide +kernel) (by decide +kernel)) (goodIn_sub (fun _ h => List.mem_cons_of_mem _ (List.mem_append_left _ (List.mem_append_left _ (List.mem_append_right _ h)))) (by decide +kernel))
set_option maxRecDepth 20000 in
theorem gX8_unseal_X8_holdsBox : GoodIn wsX8_unseal (wsV RX8 323 RX8 yX8_holdsBox wsX8_holdsBox) := goodIn_app (goodIn_of _ (by decide +kernel)) ggX8_unseal_X8_holdsBox
set_option maxRecDepth 20000 in
theorem ggX8_unseal_X8_needPermission : GoodIn wsX8_unseal wsX8_needPermission := goodIn_ca (goodIn_r _ [55, 56, 57] (by decide +kernel) (by decide +kernel)) (goodIn_sub (fun _ h => List.mem_cons_of_mem _ (List.mem_append_right _ h)) (by decide +kernel))
set_option maxRecDepth 20000 in
theorem gX8_unseal_X8_needPermission : GoodIn wsX8_unseal (va_wsS RX8 110 yX8_needPermission wsX8_needPermission) := goodIn_app (goodIn_of _ (by decide +kernel)) ggX8_unseal_X8_needPermission
set_option maxRecDepth 20000 in
theorem ggX8_unseal_X8_holdsPart : GoodIn wsX8_unseal wsX8_holdsPart := goodIn_ca (goodIn_r _ [45, 1, 2, 26, 46, 47, 48, 49, 50, 51, 52, 27, 28, 9, 29, 30, 31, 32, 33, 34, 35, 36, 37, 38, 39, 40, 41, 58, 59, 60, 61, 62, 63, 64, 65, 66, 67, 68, 69, 70, 71, 72, 73, 74, 75, 76, 77, 78, 79, 80, 93, 94, 95] (by decide +kernel) (by decide +kernel)) (goodIn_sub (fun _ h => List.mem_cons_of_mem _ (List.mem_append_left _ (List.mem_append_left _ (List.mem_append_right _ h)))) (by decide +kernel))
set_option maxRecDepth 20000 in
theorem gX8_unseal_X8_holdsPart : GoodIn wsX8_unseal (wsV RX8 307 RX8 yX8_holdsPart wsX8_holdsPart) := goodIn_app (goodIn_of _ (by decide +kernel)) ggX8_unseal_X8_holdsPart
def rm_X8_unseal : Room := { frames := 10, cells := 3, slots := 18, locals := 241 }
set_option maxHeartbeats 4000000 in
set_option maxRecDepth 100000 in
theorem c_X8_unseal (l : Launch) (hfl : l.stackTraces = false) {G : zG} {ad : Nat → Nat} {σ σ' : zs} {a1 a2 : Int32} {ex : Nat} {r : Int32} (hf : f_X8_unseal σ a1 a2 = some (ex, r, σ')) : xXi l yX8_unseal wsX8_unseal rm_X8_unseal G ad σ [.ref (ad 0), .int a1, .int a2] ex r σ' := by
  intro sz nb a g hs
  refine vx_ofW (cc := cX8_unseal) (maxL := 4) (ret := (some .int)) (by decide) rfl ?_
  intro p e s m args below meth c s₁ B hml hno hv
  obtain ⟨rfl, hsz, hv⟩ := hv
  have hx := B.exec
  have hb := B.bytes
  have hr := B.returns
  have hts := atoms_spec (ws := wsX8_unseal) B.pre
  have hown : s.vm.findClass RX8 = some m.cls := findClass_of_methodNamed B.named
  have hlocks := B.notSynchronized
  subst hsz
  have B := xB_start hs hv
  have hinRX0 : ∀ w ∈ wsX00, w ∈ wsX8_unseal := by decide +kernel
  have hinRX6 : ∀ w ∈ wsX60, w ∈ wsX8_unseal := by decide +kernel
  have hinRX7 : ∀ w ∈ wsX70, w ∈ wsX8_unseal := by decide +kernel
  have hinRX8 : ∀ w ∈ wsX80, w ∈ wsX8_unseal := by decide +kernel
  have hl := lv_entry ([.ref (ad 0), .int a1, .int a2]) (n := 4) (Nat.le_of_ble_eq_true rfl)
  rw [lg_entry_eq]
  generalize (lg_sl ([.ref (ad 0), .int a1, .int a2]) ++ List.replicate (4 - (lg_sl ([.ref (ad 0), .int a1, .int a2])).length) Slot.unset).toArray = ls at hl ⊢
  have hl : lv_has ls 4 [(0, .ref (ad 0)), (1, .int a1), (2, .int a2)] := hl
  generalize hAe : xA ad a s.heap.size = A at B ⊢
  have L44 : ∀ (σ : zs) (v1 : Int32) (v2 : Int32) (s0 : Int32) (H : Heap) (locs : List Loc) (ls : Array Slot), f_X8_unseal_44 σ v1 v2 s0 = some (ex, r, σ') → xB A s G ad σ H locs → lv_has ls 4 [(0, .ref (ad 0)), (1, .int v1), (2, .int v2)] → W p l e (headSpec wsX8_unseal rm_X8_unseal).room s m ([.ref (ad 0), .int a1, .int a2] : List Value).toArray below meth c H locs 2 12 (vx_MQ below (va_Qi (fun r' (u : xV) => (ex = 0 ∧ r' = r) ∧ xQ σ' u) (xPost G ad σ' A) A) (xXC G ad ex σ' A) ([.ref (ad 0), .int a1, .int a2] : List Value).toArray s 3 18 A) (F0 m 44 ls [.int s0]) := by
    intro σ v1 v2 s0 H locs ls hf B hl
    unfold f_X8_unseal_44 at hf
    obtain ⟨u10, r11, σ12, hu10, hf⟩ := zx_some hf
    refine x_xv B (fun nb a g hs Bz => vx_runS (As := [.int s0]) (rest := []) ⟨hx, hb, hml, hown, hts⟩ (c_X8_needPermission l hfl hu10 _ nb a g hs) (va_cwS 1 hts gX8_unseal_X8_needPermission rfl rfl rfl (by decide +kernel) ⟨Nat.le_of_ble_eq_true rfl, Nat.le_of_ble_eq_true rfl⟩) (z_preS Bz) rfl rfl hl.1 rfl (lv_room (Nat.le_of_ble_eq_true rfl)) dX8_unseal_44 ⟨Nat.le_of_ble_eq_true rfl, Nat.le_of_ble_eq_true rfl⟩) (fun H locs ce q9 h0 B k1 k2 k3 => ?_) (fun H locs h0 B => ?_)
    · exact x_xout hno hlocks (zx_no hf h0) h0 B k1 k2 k3 (Nat.le_of_ble_eq_true rfl) (Nat.le_of_ble_eq_true rfl)
    have hf := zx_ok hf h0
    refine lv_aload_n hx hb dX8_unseal_47 rfl (lv_at hl 0 rfl) ?_
    refine x_getr hx hb hts hinRX8 hown B 0 0 1 (by decide) (by decide) (fun _ => rfl) rfl rfl (by decide) (by decide +kernel) rfl dX8_unseal_48 ?_
    refine x_getr hx hb hts hinRX6 hown B 1 1 14 (by decide) (by decide) (fun _ => rfl) rfl rfl (by decide) (by decide +kernel) rfl dX8_unseal_51 ?_
    refine x_getr hx hb hts hinRX0 hown B 14 5 18 (by decide) (by decide) (fun _ => rfl) rfl rfl (by decide) (by decide +kernel) rfl dX8_unseal_54 ?_
    refine lv_iload_n hx hb dX8_unseal_57 rfl (lv_at hl 2 rfl) ?_
    obtain ⟨hg, hf⟩ := zg_some hf
    refine x_iald hx hb B 18 (by decide) (fun _ => rfl) (zin_ok hg) dX8_unseal_58 ?_
    refine lv_istore_n (lv' := [(3, .int (σ12 18 v2.toNatClampNeg)), (0, .ref (ad 0)), (1, .int v1), (2, .int v2)]) hx hb dX8_unseal_59 rfl hl (by decide) rfl (fun ls hl => ?_)
    refine lv_aload_n hx hb dX8_unseal_60 rfl (lv_at hl 1 rfl) ?_
    refine x_getr hx hb hts hinRX8 hown B 0 0 1 (by decide) (by decide) (fun _ => rfl) rfl rfl (by decide) (by decide +kernel) rfl dX8_unseal_61 ?_
    refine x_getr hx hb hts hinRX6 hown B 1 0 2 (by decide) (by decide) (fun _ => rfl) rfl rfl (by decide) (by decide +kernel) rfl dX8_unseal_64 ?_
    refine x_getr hx hb hts hinRX7 hown B 2 4 6 (by decide) (by decide) (fun _ => rfl) rfl rfl (by decide) (by decide +kernel) rfl dX8_unseal_67 ?_
    refine lv_iload_n hx hb dX8_unseal_70 rfl (lv_at hl 0 rfl) ?_
    refine lv_dup2_11 hx hb dX8_unseal_71 rfl rfl ?_
    obtain ⟨hg, hf⟩ := zg_some hf
    refine x_iald hx hb B 6 (by decide) (fun _ => rfl) (zin_ok hg) dX8_unseal_72 ?_
    refine lv_iconst (v := (1 : Int32)) hx hb dX8_unseal_73 (by decide) ?_
    refine lv_iload_n hx hb dX8_unseal_74 rfl (lv_at hl 2 rfl) ?_
    refine lv_ishl hx hb dX8_unseal_75 ?_
    refine lv_ior hx hb dX8_unseal_76 ?_
    obtain ⟨hg, hf⟩ := zg_some hf
    refine x_iast hx hb B 6 (by decide) (by decide) (fun _ => rfl) (zin_ok hg) dX8_unseal_77 (fun H locs B => ?_)
    refine lv_iload_n hx hb dX8_unseal_78 rfl (lv_at hl 0 rfl) ?_
    refine W.widen (k := 3) (n := 18) (Nat.le_of_ble_eq_true rfl) (Nat.le_of_ble_eq_true rfl) ?_
    exact x_xiret hx hb hr rfl hlocks B hf dX8_unseal_79
  unfold f_X8_unseal at hf
  refine lv_iload_n hx hb dX8_unseal_0 rfl (lv_at hl 1 rfl) ?_
  obtain ⟨u1, r2, σ3, hu1, hf⟩ := zx_some hf
  refine x_xv B (fun nb a g hs Bz => vx_runS (As := [.int a1]) (rest := []) ⟨hx, hb, hml, hown, hts⟩ (c_X8_needSubject l hfl hu1 _ nb a g hs) (va_cwS 1 hts gX8_unseal_X8_needSubject rfl rfl rfl (by decide +kernel) ⟨Nat.le_of_ble_eq_true rfl, Nat.le_of_ble_eq_true rfl⟩) (z_preS Bz) rfl rfl hl.1 rfl (lv_room (Nat.le_of_ble_eq_true rfl)) dX8_unseal_1 ⟨Nat.le_of_ble_eq_true rfl, Nat.le_of_ble_eq_true rfl⟩) (fun H locs ce q9 h0 B k1 k2 k3 => ?_) (fun H locs h0 B => ?_)
  · exact x_xout hno hlocks (zx_no hf h0) h0 B k1 k2 k3 (Nat.le_of_ble_eq_true rfl) (Nat.le_of_ble_eq_true rfl)
  have hf := zx_ok hf h0
  refine lv_aload_n hx hb dX8_unseal_4 rfl (lv_at hl 0 rfl) ?_
  refine lv_iload_n hx hb dX8_unseal_5 rfl (lv_at hl 2 rfl) ?_
  obtain ⟨u4, r5, σ6, hu4, hf⟩ := zx_some hf
  refine x_xv B (fun nb a g hs Bz => vx_runV (As := [.int a2]) (rest := []) ⟨hx, hb, hml, hown, hts⟩ (c_X8_needBox l hfl hu4 _ nb a g hs) (cwV 1 hts gX8_unseal_X8_needBox rfl rfl rfl (by decide +kernel) ⟨Nat.le_of_ble_eq_true rfl, Nat.le_of_ble_eq_true rfl⟩) (x_preV Bz (by decide) (fun _ => rfl) rfl) rfl rfl hl.1 rfl (lv_room (Nat.le_of_ble_eq_true rfl)) dX8_unseal_6 ⟨Nat.le_of_ble_eq_true rfl, Nat.le_of_ble_eq_true rfl⟩) (fun H locs ce q9 h0 B k1 k2 k3 => ?_) (fun H locs h0 B => ?_)
  · exact x_xout hno hlocks (zx_no hf h0) h0 B k1 k2 k3 (Nat.le_of_ble_eq_true rfl) (Nat.le_of_ble_eq_true rfl)
  have hf := zx_ok hf h0
  refine lv_aload_n hx hb dX8_unseal_9 rfl (lv_at hl 0 rfl) ?_
  refine lv_iload_n hx hb dX8_unseal_10 rfl (lv_at hl 1 rfl) ?_
  refine lv_iload_n hx hb dX8_unseal_11 rfl (lv_at hl 2 rfl) ?_
  obtain ⟨r8, σ9, hu7, hf⟩ := zb_some hf
  refine x_i B (fun nb a g hs Bz => va_runV (As := [.int a1, .int a2]) (rest := []) ⟨hx, hb, hml, hown, hts⟩ (c_X8_holdsBox l hu7 _ nb a g hs) (cwV 2 hts gX8_unseal_X8_holdsBox rfl rfl rfl (by decide +kernel) ⟨Nat.le_of_ble_eq_true rfl, Nat.le_of_ble_eq_true rfl⟩) (x_preV Bz (by decide) (fun _ => rfl) rfl) rfl rfl hl.1 rfl (lv_room (Nat.le_of_ble_eq_true rfl)) dX8_unseal_12 ⟨Nat.le_of_ble_eq_true rfl, Nat.le_of_ble_eq_true rfl⟩) (fun H locs B => ?_)
  refine lv_if_eq (tgt := 43) hx hb dX8_unseal_15 (by decide) (fun hc => ?_) (fun hc => ?_)
  · have hf := zif_t hc hf
    refine lv_iconst (v := (0 : Int32)) hx hb dX8_unseal_43 (by decide) ?_
    exact L44  _ _ _ _ _ _ _ hf B (lv_sub hl [0, 1, 2] rfl)
  · have hf := zif_f hc hf
    refine lv_aload_n hx hb dX8_unseal_18 rfl (lv_at hl 0 rfl) ?_
    refine lv_iload_n hx hb dX8_unseal_19 rfl (lv_at hl 1 rfl) ?_
    refine lv_aload_n hx hb dX8_unseal_20 rfl (lv_at hl 0 rfl) ?_
    refine x_getr hx hb hts hinRX8 hown B 0 0 1 (by decide) (by decide) (fun _ => rfl) rfl rfl (by decide) (by decide +kernel) rfl dX8_unseal_21 ?_
    refine x_getr hx hb hts hinRX6 hown B 1 1 14 (by decide) (by decide) (fun _ => rfl) rfl rfl (by decide) (by decide +kernel) rfl dX8_unseal_24 ?_
    refine x_getr hx hb hts hinRX0 hown B 14 4 17 (by decide) (by decide) (fun _ => rfl) rfl rfl (by decide) (by decide +kernel) rfl dX8_unseal_27 ?_
    refine lv_iload_n hx hb dX8_unseal_30 rfl (lv_at hl 2 rfl) ?_
    obtain ⟨hg, hf⟩ := zg_some hf
    refine x_iald hx hb B 17 (by decide) (fun _ => rfl) (zin_ok hg) dX8_unseal_31 ?_
    refine lv_iconst (v := (1 : Int32)) hx hb dX8_unseal_32 (by decide) ?_
    obtain ⟨r14, σ15, hu13, hf⟩ := zb_some hf
    refine x_i B (fun nb a g hs Bz => va_runV (As := [.int a1, .int (σ9 17 a2.toNatClampNeg), .int (1 : Int32)]) (rest := []) ⟨hx, hb, hml, hown, hts⟩ (c_X8_holdsPart l hu13 _ nb a g hs) (cwV 3 hts gX8_unseal_X8_holdsPart rfl rfl rfl (by decide +kernel) ⟨Nat.le_of_ble_eq_true rfl, Nat.le_of_ble_eq_true rfl⟩) (x_preV Bz (by decide) (fun _ => rfl) rfl) rfl rfl hl.1 rfl (lv_room (Nat.le_of_ble_eq_true rfl)) dX8_unseal_33 ⟨Nat.le_of_ble_eq_true rfl, Nat.le_of_ble_eq_true rfl⟩) (fun H locs B => ?_)
    refine lv_if_eq (tgt := 43) hx hb dX8_unseal_36 (by decide) (fun hc => ?_) (fun hc => ?_)
    · have hf := zif_t hc hf
      refine lv_iconst (v := (0 : Int32)) hx hb dX8_unseal_43 (by decide) ?_
      exact L44  _ _ _ _ _ _ _ hf B (lv_sub hl [0, 1, 2] rfl)
    · have hf := zif_f hc hf
      refine lv_iconst (v := (1 : Int32)) hx hb dX8_unseal_39 (by decide) ?_
      refine lv_goto (tgt := 44) hx hb dX8_unseal_40 (by decide) ?_
      exact L44  _ _ _ _ _ _ _ hf B (lv_sub hl [0, 1, 2] rfl)
theorem dX8_pairOf_0 : decode cX8_pairOf 0 = .ok (.aload_n 0, 1) := by decide +kernel
theorem dX8_pairOf_1 : decode cX8_pairOf 1 = .ok (.iload_n 1, 1) := by decide +kernel
theorem dX8_pairOf_2 : decode cX8_pairOf 2 = .ok (.invokevirtual 320, 3) := by decide +kernel
theorem dX8_pairOf_5 : decode cX8_pairOf 5 = .ok (.aload_n 0, 1) := by decide +kernel
theorem dX8_pairOf_6 : decode cX8_pairOf 6 = .ok (.getfield 12, 3) := by decide +kernel
theorem dX8_pairOf_9 : decode cX8_pairOf 9 = .ok (.getfield 292, 3) := by decide +kernel
theorem dX8_pairOf_12 : decode cX8_pairOf 12 = .ok (.getfield 329, 3) := by decide +kernel
theorem dX8_pairOf_15 : decode cX8_pairOf 15 = .ok (.iload_n 1, 1) := by decide +kernel
theorem dX8_pairOf_16 : decode cX8_pairOf 16 = .ok (.iaload, 1) := by decide +kernel
theorem dX8_pairOf_17 : decode cX8_pairOf 17 = .ok (.ireturn, 1) := by decide +kernel
set_option maxRecDepth 20000 in
theorem ggX8_pairOf_X8_needBox : GoodIn wsX8_pairOf wsX8_needBox := goodIn_ca (goodIn_r _ [8, 1, 2, 9, 10, 11, 7, 12, 13, 14, 15, 16, 17, 18, 19, 20, 21, 22, 23, 24, 25, 26, 27, 28, 29, 30, 31, 32, 33, 34, 35, 36, 37] (by decide +kernel) (by decide +kernel)) (goodIn_sub (fun _ h => List.mem_cons_of_mem _ (List.mem_append_right _ h)) (by decide +kernel))
set_option maxRecDepth 20000 in
theorem gX8_pairOf_X8_needBox : GoodIn wsX8_pairOf (wsV RX8 320 RX8 yX8_needBox wsX8_needBox) := goodIn_app (goodIn_of _ (by decide +kernel)) ggX8_pairOf_X8_needBox
def rm_X8_pairOf : Room := { frames := 10, cells := 1, slots := 6, locals := 241 }
set_option maxHeartbeats 4000000 in
set_option maxRecDepth 100000 in
theorem c_X8_pairOf (l : Launch) (hfl : l.stackTraces = false) {G : zG} {ad : Nat → Nat} {σ σ' : zs} {a1 : Int32} {ex : Nat} {r : Int32} (hf : f_X8_pairOf σ a1 = some (ex, r, σ')) : xXi l yX8_pairOf wsX8_pairOf rm_X8_pairOf G ad σ [.ref (ad 0), .int a1] ex r σ' := by
  intro sz nb a g hs
  refine vx_ofW (cc := cX8_pairOf) (maxL := 2) (ret := (some .int)) (by decide) rfl ?_
  intro p e s m args below meth c s₁ B hml hno hv
  obtain ⟨rfl, hsz, hv⟩ := hv
  have hx := B.exec
  have hb := B.bytes
  have hr := B.returns
  have hts := atoms_spec (ws := wsX8_pairOf) B.pre
  have hown : s.vm.findClass RX8 = some m.cls := findClass_of_methodNamed B.named
  have hlocks := B.notSynchronized
  subst hsz
  have B := xB_start hs hv
  have hinRX0 : ∀ w ∈ wsX00, w ∈ wsX8_pairOf := by decide +kernel
  have hinRX6 : ∀ w ∈ wsX60, w ∈ wsX8_pairOf := by decide +kernel
  have hinRX8 : ∀ w ∈ wsX80, w ∈ wsX8_pairOf := by decide +kernel
  have hl := lv_entry ([.ref (ad 0), .int a1]) (n := 2) (Nat.le_of_ble_eq_true rfl)
  rw [lg_entry_eq]
  generalize (lg_sl ([.ref (ad 0), .int a1]) ++ List.replicate (2 - (lg_sl ([.ref (ad 0), .int a1])).length) Slot.unset).toArray = ls at hl ⊢
  have hl : lv_has ls 2 [(0, .ref (ad 0)), (1, .int a1)] := hl
  generalize hAe : xA ad a s.heap.size = A at B ⊢
  unfold f_X8_pairOf at hf
  refine lv_aload_n hx hb dX8_pairOf_0 rfl (lv_at hl 0 rfl) ?_
  refine lv_iload_n hx hb dX8_pairOf_1 rfl (lv_at hl 1 rfl) ?_
  obtain ⟨u1, r2, σ3, hu1, hf⟩ := zx_some hf
  refine x_xv B (fun nb a g hs Bz => vx_runV (As := [.int a1]) (rest := []) ⟨hx, hb, hml, hown, hts⟩ (c_X8_needBox l hfl hu1 _ nb a g hs) (cwV 1 hts gX8_pairOf_X8_needBox rfl rfl rfl (by decide +kernel) ⟨Nat.le_of_ble_eq_true rfl, Nat.le_of_ble_eq_true rfl⟩) (x_preV Bz (by decide) (fun _ => rfl) rfl) rfl rfl hl.1 rfl (lv_room (Nat.le_of_ble_eq_true rfl)) dX8_pairOf_2 ⟨Nat.le_of_ble_eq_true rfl, Nat.le_of_ble_eq_true rfl⟩) (fun H locs ce q9 h0 B k1 k2 k3 => ?_) (fun H locs h0 B => ?_)
  · exact x_xout hno hlocks (zx_no hf h0) h0 B k1 k2 k3 (Nat.le_of_ble_eq_true rfl) (Nat.le_of_ble_eq_true rfl)
  have hf := zx_ok hf h0
  refine lv_aload_n hx hb dX8_pairOf_5 rfl (lv_at hl 0 rfl) ?_
  refine x_getr hx hb hts hinRX8 hown B 0 0 1 (by decide) (by decide) (fun _ => rfl) rfl rfl (by decide) (by decide +kernel) rfl dX8_pairOf_6 ?_
  refine x_getr hx hb hts hinRX6 hown B 1 1 14 (by decide) (by decide) (fun _ => rfl) rfl rfl (by decide) (by decide +kernel) rfl dX8_pairOf_9 ?_
  refine x_getr hx hb hts hinRX0 hown B 14 4 17 (by decide) (by decide) (fun _ => rfl) rfl rfl (by decide) (by decide +kernel) rfl dX8_pairOf_12 ?_
  refine lv_iload_n hx hb dX8_pairOf_15 rfl (lv_at hl 1 rfl) ?_
  obtain ⟨hg, hf⟩ := zg_some hf
  refine x_iald hx hb B 17 (by decide) (fun _ => rfl) (zin_ok hg) dX8_pairOf_16 ?_
  refine W.widen (k := 1) (n := 6) (Nat.le_of_ble_eq_true rfl) (Nat.le_of_ble_eq_true rfl) ?_
  exact x_xiret hx hb hr rfl hlocks B hf dX8_pairOf_17
theorem dX8_rights_0 : decode cX8_rights 0 = .ok (.iload_n 1, 1) := by decide +kernel
theorem dX8_rights_1 : decode cX8_rights 1 = .ok (.invokestatic 55, 3) := by decide +kernel
theorem dX8_rights_4 : decode cX8_rights 4 = .ok (.aload_n 0, 1) := by decide +kernel
theorem dX8_rights_5 : decode cX8_rights 5 = .ok (.iload_n 2, 1) := by decide +kernel
theorem dX8_rights_6 : decode cX8_rights 6 = .ok (.invokevirtual 97, 3) := by decide +kernel
theorem dX8_rights_9 : decode cX8_rights 9 = .ok (.aload_n 0, 1) := by decide +kernel
theorem dX8_rights_10 : decode cX8_rights 10 = .ok (.getfield 12, 3) := by decide +kernel
theorem dX8_rights_13 : decode cX8_rights 13 = .ok (.getfield 66, 3) := by decide +kernel
theorem dX8_rights_16 : decode cX8_rights 16 = .ok (.iload_n 1, 1) := by decide +kernel
theorem dX8_rights_17 : decode cX8_rights 17 = .ok (.iload_n 2, 1) := by decide +kernel
theorem dX8_rights_18 : decode cX8_rights 18 = .ok (.aload_n 0, 1) := by decide +kernel
theorem dX8_rights_19 : decode cX8_rights 19 = .ok (.getfield 12, 3) := by decide +kernel
theorem dX8_rights_22 : decode cX8_rights 22 = .ok (.getfield 263, 3) := by decide +kernel
theorem dX8_rights_25 : decode cX8_rights 25 = .ok (.invokevirtual 335, 3) := by decide +kernel
theorem dX8_rights_28 : decode cX8_rights 28 = .ok (.ireturn, 1) := by decide +kernel
set_option maxRecDepth 20000 in
theorem ggX8_rights_X8_needSubject : GoodIn wsX8_rights wsX8_needSubject := goodIn_ca (goodIn_r _ [7, 8, 9, 6, 10, 11, 12] (by decide +kernel) (by decide +kernel)) (goodIn_sub (fun _ h => List.mem_cons_of_mem _ (List.mem_append_left _ (List.mem_append_right _ h))) (by decide +kernel))
set_option maxRecDepth 20000 in
theorem gX8_rights_X8_needSubject : GoodIn wsX8_rights (va_wsS RX8 55 yX8_needSubject wsX8_needSubject) := goodIn_app (goodIn_of _ (by decide +kernel)) ggX8_rights_X8_needSubject
set_option maxRecDepth 20000 in
theorem ggX8_rights_X8_needToken : GoodIn wsX8_rights wsX8_needToken := goodIn_ca (goodIn_r _ [16, 1, 2, 17, 8, 9, 6, 10, 11, 12, 75, 76, 77, 78, 79, 80, 81, 82, 83, 84, 85, 86, 87, 88, 89, 90, 91, 92, 93, 94, 95, 96, 97, 98, 99, 100, 101, 102] (by decide +kernel) (by decide +kernel)) (goodIn_sub (fun _ h => List.mem_cons_of_mem _ (List.mem_append_left _ (List.mem_append_right _ h))) (by decide +kernel))
set_option maxRecDepth 20000 in
theorem gX8_rights_X8_needToken : GoodIn wsX8_rights (wsV RX8 97 RX8 yX8_needToken wsX8_needToken) := goodIn_app (goodIn_of _ (by decide +kernel)) ggX8_rights_X8_needToken
set_option maxRecDepth 20000 in
theorem ggX8_rights_X7_openRights : GoodIn wsX8_rights wsX7_openRights := goodIn_ca (goodIn_r _ [22, 23, 24, 25, 26, 27, 28, 29, 21, 30, 31, 32, 33, 34, 35, 36, 37, 38, 39, 40, 41, 42, 43, 44, 45, 46, 47, 48, 49, 50, 51, 52, 53, 54, 55, 56, 57, 58, 59, 60, 61, 62, 63, 64, 65, 66, 67, 68, 69, 6, 70, 71, 72, 73, 74, 103, 104, 105, 106, 107, 108, 91, 92, 93, 94, 95, 96, 97, 98, 99, 100, 101, 102] (by decide +kernel) (by decide +kernel)) (goodIn_sub (fun _ h => List.mem_cons_of_mem _ (List.mem_append_right _ h)) (by decide +kernel))
set_option maxRecDepth 20000 in
theorem gX8_rights_X7_openRights : GoodIn wsX8_rights (wsV RX8 335 RX7 yX7_openRights wsX7_openRights) := goodIn_app (goodIn_of _ (by decide +kernel)) ggX8_rights_X7_openRights
def rm_X8_rights : Room := { frames := 10, cells := 2, slots := 12, locals := 241 }
set_option maxHeartbeats 4000000 in
set_option maxRecDepth 100000 in
theorem c_X8_rights (l : Launch) (hfl : l.stackTraces = false) {G : zG} {ad : Nat → Nat} {σ σ' : zs} {a1 a2 : Int32} {ex : Nat} {r : Int32} (hf : f_X8_rights σ a1 a2 = some (ex, r, σ')) : xXi l yX8_rights wsX8_rights rm_X8_rights G ad σ [.ref (ad 0), .int a1, .int a2] ex r σ' := by
  intro sz nb a g hs
  refine vx_ofW (cc := cX8_rights) (maxL := 3) (ret := (some .int)) (by decide) rfl ?_
  intro p e s m args below meth c s₁ B hml hno hv
  obtain ⟨rfl, hsz, hv⟩ := hv
  have hx := B.exec
  have hb := B.bytes
  have hr := B.returns
  have hts := atoms_spec (ws := wsX8_rights) B.pre
  have hown : s.vm.findClass RX8 = some m.cls := findClass_of_methodNamed B.named
  have hlocks := B.notSynchronized
  subst hsz
  have B := xB_start hs hv
  have hinRX6 : ∀ w ∈ wsX60, w ∈ wsX8_rights := by decide +kernel
  have hinRX8 : ∀ w ∈ wsX80, w ∈ wsX8_rights := by decide +kernel
  have hl := lv_entry ([.ref (ad 0), .int a1, .int a2]) (n := 3) (Nat.le_of_ble_eq_true rfl)
  rw [lg_entry_eq]
  generalize (lg_sl ([.ref (ad 0), .int a1, .int a2]) ++ List.replicate (3 - (lg_sl ([.ref (ad 0), .int a1, .int a2])).length) Slot.unset).toArray = ls at hl ⊢
  have hl : lv_has ls 3 [(0, .ref (ad 0)), (1, .int a1), (2, .int a2)] := hl
  generalize hAe : xA ad a s.heap.size = A at B ⊢
  unfold f_X8_rights at hf
  refine lv_iload_n hx hb dX8_rights_0 rfl (lv_at hl 1 rfl) ?_
  obtain ⟨u1, r2, σ3, hu1, hf⟩ := zx_some hf
  refine x_xv B (fun nb a g hs Bz => vx_runS (As := [.int a1]) (rest := []) ⟨hx, hb, hml, hown, hts⟩ (c_X8_needSubject l hfl hu1 _ nb a g hs) (va_cwS 1 hts gX8_rights_X8_needSubject rfl rfl rfl (by decide +kernel) ⟨Nat.le_of_ble_eq_true rfl, Nat.le_of_ble_eq_true rfl⟩) (z_preS Bz) rfl rfl hl.1 rfl (lv_room (Nat.le_of_ble_eq_true rfl)) dX8_rights_1 ⟨Nat.le_of_ble_eq_true rfl, Nat.le_of_ble_eq_true rfl⟩) (fun H locs ce q9 h0 B k1 k2 k3 => ?_) (fun H locs h0 B => ?_)
  · exact x_xout hno hlocks (zx_no hf h0) h0 B k1 k2 k3 (Nat.le_of_ble_eq_true rfl) (Nat.le_of_ble_eq_true rfl)
  have hf := zx_ok hf h0
  refine lv_aload_n hx hb dX8_rights_4 rfl (lv_at hl 0 rfl) ?_
  refine lv_iload_n hx hb dX8_rights_5 rfl (lv_at hl 2 rfl) ?_
  obtain ⟨u4, r5, σ6, hu4, hf⟩ := zx_some hf
  refine x_xv B (fun nb a g hs Bz => vx_runV (As := [.int a2]) (rest := []) ⟨hx, hb, hml, hown, hts⟩ (c_X8_needToken l hfl hu4 _ nb a g hs) (cwV 1 hts gX8_rights_X8_needToken rfl rfl rfl (by decide +kernel) ⟨Nat.le_of_ble_eq_true rfl, Nat.le_of_ble_eq_true rfl⟩) (x_preV Bz (by decide) (fun _ => rfl) rfl) rfl rfl hl.1 rfl (lv_room (Nat.le_of_ble_eq_true rfl)) dX8_rights_6 ⟨Nat.le_of_ble_eq_true rfl, Nat.le_of_ble_eq_true rfl⟩) (fun H locs ce q9 h0 B k1 k2 k3 => ?_) (fun H locs h0 B => ?_)
  · exact x_xout hno hlocks (zx_no hf h0) h0 B k1 k2 k3 (Nat.le_of_ble_eq_true rfl) (Nat.le_of_ble_eq_true rfl)
  have hf := zx_ok hf h0
  refine lv_aload_n hx hb dX8_rights_9 rfl (lv_at hl 0 rfl) ?_
  refine x_getr hx hb hts hinRX8 hown B 0 0 1 (by decide) (by decide) (fun _ => rfl) rfl rfl (by decide) (by decide +kernel) rfl dX8_rights_10 ?_
  refine x_getr hx hb hts hinRX6 hown B 1 0 2 (by decide) (by decide) (fun _ => rfl) rfl rfl (by decide) (by decide +kernel) rfl dX8_rights_13 ?_
  refine lv_iload_n hx hb dX8_rights_16 rfl (lv_at hl 1 rfl) ?_
  refine lv_iload_n hx hb dX8_rights_17 rfl (lv_at hl 2 rfl) ?_
  refine lv_aload_n hx hb dX8_rights_18 rfl (lv_at hl 0 rfl) ?_
  refine x_getr hx hb hts hinRX8 hown B 0 0 1 (by decide) (by decide) (fun _ => rfl) rfl rfl (by decide) (by decide +kernel) rfl dX8_rights_19 ?_
  refine x_geti hx hb hts hinRX6 hown B 1 5 (by decide) (fun _ => rfl) rfl rfl (by decide) (by decide +kernel) rfl dX8_rights_22 ?_
  obtain ⟨r8, σ9, hu7, hf⟩ := zb_some hf
  refine x_i B (fun nb a g hs Bz => va_runV (As := [.int a1, .int a2, .int (σ6 1 5)]) (rest := []) ⟨hx, hb, hml, hown, hts⟩ (c_X7_openRights l hu7 _ nb a g hs) (cwV 3 hts gX8_rights_X7_openRights rfl rfl rfl (by decide +kernel) ⟨Nat.le_of_ble_eq_true rfl, Nat.le_of_ble_eq_true rfl⟩) (x_preV Bz (by decide) (fun _ => rfl) rfl) rfl rfl hl.1 rfl (lv_room (Nat.le_of_ble_eq_true rfl)) dX8_rights_25 ⟨Nat.le_of_ble_eq_true rfl, Nat.le_of_ble_eq_true rfl⟩) (fun H locs B => ?_)
  refine W.widen (k := 2) (n := 12) (Nat.le_of_ble_eq_true rfl) (Nat.le_of_ble_eq_true rfl) ?_
  exact x_xiret hx hb hr rfl hlocks B hf dX8_rights_28
theorem dX4_findOpen_0 : decode cX4_findOpen 0 = .ok (.iconst 0, 1) := by decide +kernel
theorem dX4_findOpen_1 : decode cX4_findOpen 1 = .ok (.istore_n 2, 1) := by decide +kernel
theorem dX4_findOpen_2 : decode cX4_findOpen 2 = .ok (.iload_n 2, 1) := by decide +kernel
theorem dX4_findOpen_3 : decode cX4_findOpen 3 = .ok (.bipush 6, 2) := by decide +kernel
theorem dX4_findOpen_5 : decode cX4_findOpen 5 = .ok (.if_icmp .ge 52, 3) := by decide +kernel
theorem dX4_findOpen_8 : decode cX4_findOpen 8 = .ok (.iconst 0, 1) := by decide +kernel
theorem dX4_findOpen_9 : decode cX4_findOpen 9 = .ok (.istore_n 3, 1) := by decide +kernel
theorem dX4_findOpen_10 : decode cX4_findOpen 10 = .ok (.iload_n 3, 1) := by decide +kernel
theorem dX4_findOpen_11 : decode cX4_findOpen 11 = .ok (.aload_n 1, 1) := by decide +kernel
theorem dX4_findOpen_12 : decode cX4_findOpen 12 = .ok (.getfield 31, 3) := by decide +kernel
theorem dX4_findOpen_15 : decode cX4_findOpen 15 = .ok (.getfield 37, 3) := by decide +kernel
theorem dX4_findOpen_18 : decode cX4_findOpen 18 = .ok (.if_icmp .ge 33, 3) := by decide +kernel
theorem dX4_findOpen_21 : decode cX4_findOpen 21 = .ok (.aload_n 0, 1) := by decide +kernel
theorem dX4_findOpen_22 : decode cX4_findOpen 22 = .ok (.getfield 21, 3) := by decide +kernel
theorem dX4_findOpen_25 : decode cX4_findOpen 25 = .ok (.iload_n 2, 1) := by decide +kernel
theorem dX4_findOpen_26 : decode cX4_findOpen 26 = .ok (.bipush 28, 2) := by decide +kernel
theorem dX4_findOpen_28 : decode cX4_findOpen 28 = .ok (.imul, 1) := by decide +kernel
theorem dX4_findOpen_29 : decode cX4_findOpen 29 = .ok (.iload_n 3, 1) := by decide +kernel
theorem dX4_findOpen_30 : decode cX4_findOpen 30 = .ok (.iadd, 1) := by decide +kernel
theorem dX4_findOpen_31 : decode cX4_findOpen 31 = .ok (.aload_n 1, 1) := by decide +kernel
theorem dX4_findOpen_32 : decode cX4_findOpen 32 = .ok (.getfield 31, 3) := by decide +kernel
theorem dX4_findOpen_35 : decode cX4_findOpen 35 = .ok (.iload_n 2, 1) := by decide +kernel
theorem dX4_findOpen_36 : decode cX4_findOpen 36 = .ok (.iload_n 3, 1) := by decide +kernel
theorem dX4_findOpen_37 : decode cX4_findOpen 37 = .ok (.aload_n 1, 1) := by decide +kernel
theorem dX4_findOpen_38 : decode cX4_findOpen 38 = .ok (.getfield 51, 3) := by decide +kernel
theorem dX4_findOpen_41 : decode cX4_findOpen 41 = .ok (.invokevirtual 54, 3) := by decide +kernel
theorem dX4_findOpen_44 : decode cX4_findOpen 44 = .ok (.iastore, 1) := by decide +kernel
theorem dX4_findOpen_45 : decode cX4_findOpen 45 = .ok (.iinc 3 1, 3) := by decide +kernel
theorem dX4_findOpen_48 : decode cX4_findOpen 48 = .ok (.goto (-38), 3) := by decide +kernel
theorem dX4_findOpen_51 : decode cX4_findOpen 51 = .ok (.iinc 2 1, 3) := by decide +kernel
theorem dX4_findOpen_54 : decode cX4_findOpen 54 = .ok (.goto (-52), 3) := by decide +kernel
theorem dX4_findOpen_57 : decode cX4_findOpen 57 = .ok (.return_, 1) := by decide +kernel
set_option maxRecDepth 20000 in
theorem ggX4_findOpen_X7_openRights : GoodIn wsX4_findOpen wsX7_openRights := goodIn_ca (goodIn_r _ [9, 10, 11, 12, 13, 14, 15, 16, 8, 17, 18, 19, 20, 21, 22, 23, 24, 25, 26, 27, 28, 29, 30, 31, 32, 33, 34, 35, 36, 37, 38, 39, 40, 41, 42, 43, 44, 45, 46, 47, 48, 49, 50, 51, 52, 53, 54, 55, 56, 57, 58, 59, 60, 61, 62, 87, 88, 89, 90, 91, 92, 71, 72, 73, 74, 75, 76, 77, 78, 79, 80, 81, 82] (by decide +kernel) (by decide +kernel)) (goodIn_sub (fun _ h => List.mem_cons_of_mem _ (List.mem_append_right _ h)) (by decide +kernel))
set_option maxRecDepth 20000 in
theorem gX4_findOpen_X7_openRights : GoodIn wsX4_findOpen (wsV RX4 54 RX7 yX7_openRights wsX7_openRights) := goodIn_app (goodIn_of _ (by decide +kernel)) ggX4_findOpen_X7_openRights
def rm_X4_findOpen_1 : Room := { frames := 5, cells := 0, slots := 0, locals := 115 }
set_option maxHeartbeats 4000000 in
set_option maxRecDepth 100000 in
theorem c_X4_findOpen_1 (l : Launch) {G : zG} {ad : Nat → Nat} {σ σ' : zs} {r : Int32} (hf : f_X4_findOpen_1 σ  = some (r, σ')) : xMv l yX4_findOpen wsX4_findOpen rm_X4_findOpen_1 G ad σ [.ref (ad 57), .ref (ad 1)] σ' := by
  intro sz nb a g hs
  refine Met.ofW (cc := cX4_findOpen) (maxL := 4) (ret := none) (by decide) rfl ?_
  intro p e s m args below meth c s₁ B hml hv
  obtain ⟨rfl, hsz, hv⟩ := hv
  have hx := B.exec
  have hb := B.bytes
  have hr := B.returns
  have hts := atoms_spec (ws := wsX4_findOpen) B.pre
  have hown : s.vm.findClass RX4 = some m.cls := findClass_of_methodNamed B.named
  have hlocks := B.notSynchronized
  subst hsz
  have B := xB_start hs hv
  have hinRX4 : ∀ w ∈ wsX40, w ∈ wsX4_findOpen := by decide +kernel
  have hinRX6 : ∀ w ∈ wsX60, w ∈ wsX4_findOpen := by decide +kernel
  have hinRX7 : ∀ w ∈ wsX70, w ∈ wsX4_findOpen := by decide +kernel
  have hl := lv_entry ([.ref (ad 57), .ref (ad 1)]) (n := 4) (Nat.le_of_ble_eq_true rfl)
  rw [lg_entry_eq]
  generalize (lg_sl ([.ref (ad 57), .ref (ad 1)]) ++ List.replicate (4 - (lg_sl ([.ref (ad 57), .ref (ad 1)])).length) Slot.unset).toArray = ls at hl ⊢
  have hl : lv_has ls 4 [(0, .ref (ad 57)), (1, .ref (ad 1))] := hl
  generalize hAe : xA ad a s.heap.size = A at B ⊢
  have L10 : ∀ (K2 : zs → Int32 → Option (Int32 × zs)) (hK2 : ∀ (σ : zs) (v2 : Int32) (H : Heap) (locs : List Loc) (ls : Array Slot), K2 σ v2 = some (r, σ') → xB A s G ad σ H locs → lv_has ls 4 [(0, .ref (ad 57)), (1, .ref (ad 1)), (2, .int v2)] → W p l e (headSpec wsX4_findOpen rm_X4_findOpen_1).room s m ([.ref (ad 57), .ref (ad 1)] : List Value).toArray below meth c H locs 0 0 (MQ below (va_Qv (fun (u : xV) => xQ σ' u) (xPost G ad σ' A) A) ([.ref (ad 57), .ref (ad 1)] : List Value).toArray s 0 0 A) (F0 m 2 ls [])) (n : Nat) (σ : zs) (v2 : Int32) (v3 : Int32) (H : Heap) (locs : List Loc) (ls : Array Slot), zlp2 (f_X4_findOpen_1_10 K2) n σ v2 v3 = some (r, σ') → xB A s G ad σ H locs → lv_has ls 4 [(0, .ref (ad 57)), (1, .ref (ad 1)), (2, .int v2), (3, .int v3)] → W p l e (headSpec wsX4_findOpen rm_X4_findOpen_1).room s m ([.ref (ad 57), .ref (ad 1)] : List Value).toArray below meth c H locs 0 0 (MQ below (va_Qv (fun (u : xV) => xQ σ' u) (xPost G ad σ' A) A) ([.ref (ad 57), .ref (ad 1)] : List Value).toArray s 0 0 A) (F0 m 10 ls []) := by
    intro K2 hK2 n
    induction n with
    | zero =>
      intro σ v2 v3 H locs ls hf
      cases hf
    | succ n ih =>
      intro σ v2 v3 H locs ls hf B hl
      have hf : f_X4_findOpen_1_10 K2 (zlp2 (f_X4_findOpen_1_10 K2) n) σ v2 v3 = some (r, σ') := hf
      unfold f_X4_findOpen_1_10 at hf
      refine lv_iload_n hx hb dX4_findOpen_10 rfl (lv_at hl 3 rfl) ?_
      refine lv_aload_n hx hb dX4_findOpen_11 rfl (lv_at hl 1 rfl) ?_
      refine x_getr hx hb hts hinRX6 hown B 1 0 2 (by decide) (by decide) (fun _ => rfl) rfl rfl (by decide) (by decide +kernel) rfl dX4_findOpen_12 ?_
      refine x_geti hx hb hts hinRX7 hown B 2 0 (by decide) (fun _ => rfl) rfl rfl (by decide) (by decide +kernel) rfl dX4_findOpen_15 ?_
      refine lv_icmp_ge (tgt := 51) hx hb dX4_findOpen_18 (by decide) (fun hc => ?_) (fun hc => ?_)
      · have hf := zif_t hc hf
        refine lv_iinc (v := (v2 + (1 : Int32))) (lv' := [(2, .int (v2 + (1 : Int32))), (0, .ref (ad 57)), (1, .ref (ad 1)), (3, .int v3)]) hx hb dX4_findOpen_51 hl (k := 2) rfl (zc1 (by decide)) (by decide) rfl (fun ls hl => ?_)
        refine lv_goto (tgt := 2) hx hb dX4_findOpen_54 (by decide) ?_
        exact hK2 _ _ _ _ _ hf B (lv_sub hl [1, 2, 0] rfl)
      · have hf := zif_f hc hf
        refine lv_aload_n hx hb dX4_findOpen_21 rfl (lv_at hl 0 rfl) ?_
        refine x_getr hx hb hts hinRX4 hown B 57 3 61 (by decide) (by decide) (fun _ => rfl) rfl rfl (by decide) (by decide +kernel) rfl dX4_findOpen_22 ?_
        refine lv_iload_n hx hb dX4_findOpen_25 rfl (lv_at hl 2 rfl) ?_
        refine lv_bipush (v := (28 : Int32)) hx hb dX4_findOpen_26 (by decide) ?_
        refine lv_imul hx hb dX4_findOpen_28 ?_
        refine lv_iload_n hx hb dX4_findOpen_29 rfl (lv_at hl 3 rfl) ?_
        refine lv_iadd hx hb dX4_findOpen_30 ?_
        refine lv_aload_n hx hb dX4_findOpen_31 rfl (lv_at hl 1 rfl) ?_
        refine x_getr hx hb hts hinRX6 hown B 1 0 2 (by decide) (by decide) (fun _ => rfl) rfl rfl (by decide) (by decide +kernel) rfl dX4_findOpen_32 ?_
        refine lv_iload_n hx hb dX4_findOpen_35 rfl (lv_at hl 2 rfl) ?_
        refine lv_iload_n hx hb dX4_findOpen_36 rfl (lv_at hl 3 rfl) ?_
        refine lv_aload_n hx hb dX4_findOpen_37 rfl (lv_at hl 1 rfl) ?_
        refine x_geti hx hb hts hinRX6 hown B 1 5 (by decide) (fun _ => rfl) rfl rfl (by decide) (by decide +kernel) rfl dX4_findOpen_38 ?_
        obtain ⟨r2, σ3, hu1, hf⟩ := zb_some hf
        refine x_i B (fun nb a g hs Bz => va_runV (As := [.int v2, .int v3, .int (σ 1 5)]) (rest := [.int ((v2 * (28 : Int32)) + v3), .ref (ad 61)]) ⟨hx, hb, hml, hown, hts⟩ (c_X7_openRights l hu1 _ nb a g hs) (cwV 3 hts gX4_findOpen_X7_openRights rfl rfl rfl (by decide +kernel) ⟨Nat.le_of_ble_eq_true rfl, Nat.le_of_ble_eq_true rfl⟩) (x_preV Bz (by decide) (fun _ => rfl) rfl) rfl rfl hl.1 rfl (lv_room (Nat.le_of_ble_eq_true rfl)) dX4_findOpen_41 ⟨Nat.le_of_ble_eq_true rfl, Nat.le_of_ble_eq_true rfl⟩) (fun H locs B => ?_)
        obtain ⟨hg, hf⟩ := zg_some hf
        refine x_iast hx hb B 61 (by decide) (by decide) (fun _ => rfl) (zin_ok hg) dX4_findOpen_44 (fun H locs B => ?_)
        refine lv_iinc (v := (v3 + (1 : Int32))) (lv' := [(3, .int (v3 + (1 : Int32))), (0, .ref (ad 57)), (1, .ref (ad 1)), (2, .int v2)]) hx hb dX4_findOpen_45 hl (k := 3) rfl (zc1 (by decide)) (by decide) rfl (fun ls hl => ?_)
        refine lv_goto (tgt := 10) hx hb dX4_findOpen_48 (by decide) ?_
        exact ih _ _ _ _ _ _ hf B (lv_sub hl [1, 2, 3, 0] rfl)
  have L2 : ∀ (n : Nat) (σ : zs) (v2 : Int32) (H : Heap) (locs : List Loc) (ls : Array Slot), zlp1 (f_X4_findOpen_1_2) n σ v2 = some (r, σ') → xB A s G ad σ H locs → lv_has ls 4 [(0, .ref (ad 57)), (1, .ref (ad 1)), (2, .int v2)] → W p l e (headSpec wsX4_findOpen rm_X4_findOpen_1).room s m ([.ref (ad 57), .ref (ad 1)] : List Value).toArray below meth c H locs 0 0 (MQ below (va_Qv (fun (u : xV) => xQ σ' u) (xPost G ad σ' A) A) ([.ref (ad 57), .ref (ad 1)] : List Value).toArray s 0 0 A) (F0 m 2 ls []) := by
    intro n
    induction n with
    | zero =>
      intro σ v2 H locs ls hf
      cases hf
    | succ n ih =>
      intro σ v2 H locs ls hf B hl
      have hf : f_X4_findOpen_1_2 (zlp1 (f_X4_findOpen_1_2) n) σ v2 = some (r, σ') := hf
      unfold f_X4_findOpen_1_2 at hf
      refine lv_iload_n hx hb dX4_findOpen_2 rfl (lv_at hl 2 rfl) ?_
      refine lv_bipush (v := (6 : Int32)) hx hb dX4_findOpen_3 (by decide) ?_
      refine lv_icmp_ge (tgt := 57) hx hb dX4_findOpen_5 (by decide) (fun hc => ?_) (fun hc => ?_)
      · have hf := zif_t hc hf
        refine W.widen (k := 0) (n := 0) (Nat.le_of_ble_eq_true rfl) (Nat.le_of_ble_eq_true rfl) ?_
        exact x_vret hx hb hr hlocks B hf dX4_findOpen_57
      · have hf := zif_f hc hf
        refine lv_iconst (v := (0 : Int32)) hx hb dX4_findOpen_8 (by decide) ?_
        refine lv_istore_n (lv' := [(3, .int (0 : Int32)), (0, .ref (ad 57)), (1, .ref (ad 1)), (2, .int v2)]) hx hb dX4_findOpen_9 rfl hl (by decide) rfl (fun ls hl => ?_)
        exact L10 _ ih  _ _ _ _ _ _ _ hf B (lv_sub hl [1, 2, 3, 0] rfl)
  unfold f_X4_findOpen_1 at hf
  refine lv_iconst (v := (0 : Int32)) hx hb dX4_findOpen_0 (by decide) ?_
  refine lv_istore_n (lv' := [(2, .int (0 : Int32)), (0, .ref (ad 57)), (1, .ref (ad 1))]) hx hb dX4_findOpen_1 rfl hl (by decide) rfl (fun ls hl => ?_)
  exact L2  _ _ _ _ _ _ hf B (lv_sub hl [1, 2, 0] rfl)
theorem dX4_findFirst_0 : decode cX4_findFirst 0 = .ok (.iconst 0, 1) := by decide +kernel
theorem dX4_findFirst_1 : decode cX4_findFirst 1 = .ok (.istore_n 2, 1) := by decide +kernel
theorem dX4_findFirst_2 : decode cX4_findFirst 2 = .ok (.iload_n 2, 1) := by decide +kernel
theorem dX4_findFirst_3 : decode cX4_findFirst 3 = .ok (.bipush 6, 2) := by decide +kernel
theorem dX4_findFirst_5 : decode cX4_findFirst 5 = .ok (.if_icmp .ge 81, 3) := by decide +kernel
theorem dX4_findFirst_8 : decode cX4_findFirst 8 = .ok (.aload_n 0, 1) := by decide +kernel
theorem dX4_findFirst_9 : decode cX4_findFirst 9 = .ok (.getfield 9, 3) := by decide +kernel
theorem dX4_findFirst_12 : decode cX4_findFirst 12 = .ok (.iload_n 2, 1) := by decide +kernel
theorem dX4_findFirst_13 : decode cX4_findFirst 13 = .ok (.iconst 0, 1) := by decide +kernel
theorem dX4_findFirst_14 : decode cX4_findFirst 14 = .ok (.iastore, 1) := by decide +kernel
theorem dX4_findFirst_15 : decode cX4_findFirst 15 = .ok (.aload_n 0, 1) := by decide +kernel
theorem dX4_findFirst_16 : decode cX4_findFirst 16 = .ok (.getfield 15, 3) := by decide +kernel
theorem dX4_findFirst_19 : decode cX4_findFirst 19 = .ok (.iload_n 2, 1) := by decide +kernel
theorem dX4_findFirst_20 : decode cX4_findFirst 20 = .ok (.aload_n 1, 1) := by decide +kernel
theorem dX4_findFirst_21 : decode cX4_findFirst 21 = .ok (.getfield 31, 3) := by decide +kernel
theorem dX4_findFirst_24 : decode cX4_findFirst 24 = .ok (.iload_n 2, 1) := by decide +kernel
theorem dX4_findFirst_25 : decode cX4_findFirst 25 = .ok (.invokevirtual 58, 3) := by decide +kernel
theorem dX4_findFirst_28 : decode cX4_findFirst 28 = .ok (.iastore, 1) := by decide +kernel
theorem dX4_findFirst_29 : decode cX4_findFirst 29 = .ok (.iconst 0, 1) := by decide +kernel
theorem dX4_findFirst_30 : decode cX4_findFirst 30 = .ok (.istore_n 3, 1) := by decide +kernel
theorem dX4_findFirst_31 : decode cX4_findFirst 31 = .ok (.iload_n 3, 1) := by decide +kernel
theorem dX4_findFirst_32 : decode cX4_findFirst 32 = .ok (.aload_n 1, 1) := by decide +kernel
theorem dX4_findFirst_33 : decode cX4_findFirst 33 = .ok (.getfield 62, 3) := by decide +kernel
theorem dX4_findFirst_36 : decode cX4_findFirst 36 = .ok (.getfield 66, 3) := by decide +kernel
theorem dX4_findFirst_39 : decode cX4_findFirst 39 = .ok (.if_icmp .ge 41, 3) := by decide +kernel
theorem dX4_findFirst_42 : decode cX4_findFirst 42 = .ok (.aload_n 1, 1) := by decide +kernel
theorem dX4_findFirst_43 : decode cX4_findFirst 43 = .ok (.getfield 62, 3) := by decide +kernel
theorem dX4_findFirst_46 : decode cX4_findFirst 46 = .ok (.iload_n 2, 1) := by decide +kernel
theorem dX4_findFirst_47 : decode cX4_findFirst 47 = .ok (.iload_n 3, 1) := by decide +kernel
theorem dX4_findFirst_48 : decode cX4_findFirst 48 = .ok (.invokevirtual 70, 3) := by decide +kernel
theorem dX4_findFirst_51 : decode cX4_findFirst 51 = .ok (.ifCond .eq 23, 3) := by decide +kernel
theorem dX4_findFirst_54 : decode cX4_findFirst 54 = .ok (.aload_n 0, 1) := by decide +kernel
theorem dX4_findFirst_55 : decode cX4_findFirst 55 = .ok (.getfield 15, 3) := by decide +kernel
theorem dX4_findFirst_58 : decode cX4_findFirst 58 = .ok (.iload_n 2, 1) := by decide +kernel
theorem dX4_findFirst_59 : decode cX4_findFirst 59 = .ok (.dup2, 1) := by decide +kernel
theorem dX4_findFirst_60 : decode cX4_findFirst 60 = .ok (.iaload, 1) := by decide +kernel
theorem dX4_findFirst_61 : decode cX4_findFirst 61 = .ok (.iconst 1, 1) := by decide +kernel
theorem dX4_findFirst_62 : decode cX4_findFirst 62 = .ok (.aload_n 1, 1) := by decide +kernel
theorem dX4_findFirst_63 : decode cX4_findFirst 63 = .ok (.getfield 62, 3) := by decide +kernel
theorem dX4_findFirst_66 : decode cX4_findFirst 66 = .ok (.getfield 73, 3) := by decide +kernel
theorem dX4_findFirst_69 : decode cX4_findFirst 69 = .ok (.iload_n 3, 1) := by decide +kernel
theorem dX4_findFirst_70 : decode cX4_findFirst 70 = .ok (.iaload, 1) := by decide +kernel
theorem dX4_findFirst_71 : decode cX4_findFirst 71 = .ok (.ishl, 1) := by decide +kernel
theorem dX4_findFirst_72 : decode cX4_findFirst 72 = .ok (.ior, 1) := by decide +kernel
theorem dX4_findFirst_73 : decode cX4_findFirst 73 = .ok (.iastore, 1) := by decide +kernel
theorem dX4_findFirst_74 : decode cX4_findFirst 74 = .ok (.iinc 3 1, 3) := by decide +kernel
theorem dX4_findFirst_77 : decode cX4_findFirst 77 = .ok (.goto (-46), 3) := by decide +kernel
theorem dX4_findFirst_80 : decode cX4_findFirst 80 = .ok (.iinc 2 1, 3) := by decide +kernel
theorem dX4_findFirst_83 : decode cX4_findFirst 83 = .ok (.goto (-81), 3) := by decide +kernel
theorem dX4_findFirst_86 : decode cX4_findFirst 86 = .ok (.return_, 1) := by decide +kernel
set_option maxRecDepth 20000 in
theorem ggX4_findFirst_X7_setHeldBy : GoodIn wsX4_findFirst wsX7_setHeldBy := goodIn_ca (goodIn_r _ [11, 12, 13, 14, 15, 16, 44, 45, 46, 47, 48, 49, 50, 51, 52, 53, 54, 55] (by decide +kernel) (by decide +kernel)) (goodIn_sub (fun _ h => List.mem_cons_of_mem _ (List.mem_append_right _ h)) (by decide +kernel))
set_option maxRecDepth 20000 in
theorem gX4_findFirst_X7_setHeldBy : GoodIn wsX4_findFirst (wsV RX4 58 RX7 yX7_setHeldBy wsX7_setHeldBy) := goodIn_app (goodIn_of _ (by decide +kernel)) ggX4_findFirst_X7_setHeldBy
set_option maxRecDepth 20000 in
theorem ggX4_findFirst_X0_canOpen : GoodIn wsX4_findFirst wsX0_canOpen := goodIn_ca (goodIn_r _ [21, 22, 23, 24, 14, 15, 16, 37, 38, 39, 40, 41, 42, 43] (by decide +kernel) (by decide +kernel)) (goodIn_sub (fun _ h => List.mem_cons_of_mem _ (List.mem_append_right _ h)) (by decide +kernel))
set_option maxRecDepth 20000 in
theorem gX4_findFirst_X0_canOpen : GoodIn wsX4_findFirst (wsV RX4 70 RX0 yX0_canOpen wsX0_canOpen) := goodIn_app (goodIn_of _ (by decide +kernel)) ggX4_findFirst_X0_canOpen
def rm_X4_findFirst_1 : Room := { frames := 3, cells := 0, slots := 0, locals := 60 }
set_option maxHeartbeats 4000000 in
set_option maxRecDepth 100000 in
theorem c_X4_findFirst_1 (l : Launch) {G : zG} {ad : Nat → Nat} {σ σ' : zs} {r : Int32} (hf : f_X4_findFirst_1 σ  = some (r, σ')) : xMv l yX4_findFirst wsX4_findFirst rm_X4_findFirst_1 G ad σ [.ref (ad 57), .ref (ad 1)] σ' := by
  intro sz nb a g hs
  refine Met.ofW (cc := cX4_findFirst) (maxL := 4) (ret := none) (by decide) rfl ?_
  intro p e s m args below meth c s₁ B hml hv
  obtain ⟨rfl, hsz, hv⟩ := hv
  have hx := B.exec
  have hb := B.bytes
  have hr := B.returns
  have hts := atoms_spec (ws := wsX4_findFirst) B.pre
  have hown : s.vm.findClass RX4 = some m.cls := findClass_of_methodNamed B.named
  have hlocks := B.notSynchronized
  subst hsz
  have B := xB_start hs hv
  have hinRX0 : ∀ w ∈ wsX00, w ∈ wsX4_findFirst := by decide +kernel
  have hinRX4 : ∀ w ∈ wsX40, w ∈ wsX4_findFirst := by decide +kernel
  have hinRX6 : ∀ w ∈ wsX60, w ∈ wsX4_findFirst := by decide +kernel
  have hl := lv_entry ([.ref (ad 57), .ref (ad 1)]) (n := 4) (Nat.le_of_ble_eq_true rfl)
  rw [lg_entry_eq]
  generalize (lg_sl ([.ref (ad 57), .ref (ad 1)]) ++ List.replicate (4 - (lg_sl ([.ref (ad 57), .ref (ad 1)])).length) Slot.unset).toArray = ls at hl ⊢
  have hl : lv_has ls 4 [(0, .ref (ad 57)), (1, .ref (ad 1))] := hl
  generalize hAe : xA ad a s.heap.size = A at B ⊢
  have L31 : ∀ (K2 : zs → Int32 → Option (Int32 × zs)) (hK2 : ∀ (σ : zs) (v2 : Int32) (H : Heap) (locs : List Loc) (ls : Array Slot), K2 σ v2 = some (r, σ') → xB A s G ad σ H locs → lv_has ls 4 [(0, .ref (ad 57)), (1, .ref (ad 1)), (2, .int v2)] → W p l e (headSpec wsX4_findFirst rm_X4_findFirst_1).room s m ([.ref (ad 57), .ref (ad 1)] : List Value).toArray below meth c H locs 0 0 (MQ below (va_Qv (fun (u : xV) => xQ σ' u) (xPost G ad σ' A) A) ([.ref (ad 57), .ref (ad 1)] : List Value).toArray s 0 0 A) (F0 m 2 ls [])) (n : Nat) (σ : zs) (v2 : Int32) (v3 : Int32) (H : Heap) (locs : List Loc) (ls : Array Slot), zlp2 (f_X4_findFirst_1_31 K2) n σ v2 v3 = some (r, σ') → xB A s G ad σ H locs → lv_has ls 4 [(0, .ref (ad 57)), (1, .ref (ad 1)), (2, .int v2), (3, .int v3)] → W p l e (headSpec wsX4_findFirst rm_X4_findFirst_1).room s m ([.ref (ad 57), .ref (ad 1)] : List Value).toArray below meth c H locs 0 0 (MQ below (va_Qv (fun (u : xV) => xQ σ' u) (xPost G ad σ' A) A) ([.ref (ad 57), .ref (ad 1)] : List Value).toArray s 0 0 A) (F0 m 31 ls []) := by
    intro K2 hK2 n
    induction n with
    | zero =>
      intro σ v2 v3 H locs ls hf
      cases hf
    | succ n ih =>
      intro σ v2 v3 H locs ls hf B hl
      have hf : f_X4_findFirst_1_31 K2 (zlp2 (f_X4_findFirst_1_31 K2) n) σ v2 v3 = some (r, σ') := hf
      unfold f_X4_findFirst_1_31 at hf
      refine lv_iload_n hx hb dX4_findFirst_31 rfl (lv_at hl 3 rfl) ?_
      refine lv_aload_n hx hb dX4_findFirst_32 rfl (lv_at hl 1 rfl) ?_
      refine x_getr hx hb hts hinRX6 hown B 1 1 14 (by decide) (by decide) (fun _ => rfl) rfl rfl (by decide) (by decide +kernel) rfl dX4_findFirst_33 ?_
      refine x_geti hx hb hts hinRX0 hown B 14 3 (by decide) (fun _ => rfl) rfl rfl (by decide) (by decide +kernel) rfl dX4_findFirst_36 ?_
      refine lv_icmp_ge (tgt := 80) hx hb dX4_findFirst_39 (by decide) (fun hc => ?_) (fun hc => ?_)
      · have hf := zif_t hc hf
        refine lv_iinc (v := (v2 + (1 : Int32))) (lv' := [(2, .int (v2 + (1 : Int32))), (0, .ref (ad 57)), (1, .ref (ad 1)), (3, .int v3)]) hx hb dX4_findFirst_80 hl (k := 2) rfl (zc1 (by decide)) (by decide) rfl (fun ls hl => ?_)
        refine lv_goto (tgt := 2) hx hb dX4_findFirst_83 (by decide) ?_
        exact hK2 _ _ _ _ _ hf B (lv_sub hl [1, 2, 0] rfl)
      · have hf := zif_f hc hf
        refine lv_aload_n hx hb dX4_findFirst_42 rfl (lv_at hl 1 rfl) ?_
        refine x_getr hx hb hts hinRX6 hown B 1 1 14 (by decide) (by decide) (fun _ => rfl) rfl rfl (by decide) (by decide +kernel) rfl dX4_findFirst_43 ?_
        refine lv_iload_n hx hb dX4_findFirst_46 rfl (lv_at hl 2 rfl) ?_
        refine lv_iload_n hx hb dX4_findFirst_47 rfl (lv_at hl 3 rfl) ?_
        obtain ⟨r5, σ6, hu4, hf⟩ := zb_some hf
        refine x_i B (fun nb a g hs Bz => va_runV (As := [.int v2, .int v3]) (rest := []) ⟨hx, hb, hml, hown, hts⟩ (c_X0_canOpen l hu4 _ nb a g hs) (cwV 2 hts gX4_findFirst_X0_canOpen rfl rfl rfl (by decide +kernel) ⟨Nat.le_of_ble_eq_true rfl, Nat.le_of_ble_eq_true rfl⟩) (x_preV Bz (by decide) (fun _ => rfl) rfl) rfl rfl hl.1 rfl (lv_room (Nat.le_of_ble_eq_true rfl)) dX4_findFirst_48 ⟨Nat.le_of_ble_eq_true rfl, Nat.le_of_ble_eq_true rfl⟩) (fun H locs B => ?_)
        refine lv_if_eq (tgt := 74) hx hb dX4_findFirst_51 (by decide) (fun hc => ?_) (fun hc => ?_)
        · have hf := zif_t hc hf
          refine lv_iinc (v := (v3 + (1 : Int32))) (lv' := [(3, .int (v3 + (1 : Int32))), (0, .ref (ad 57)), (1, .ref (ad 1)), (2, .int v2)]) hx hb dX4_findFirst_74 hl (k := 3) rfl (zc1 (by decide)) (by decide) rfl (fun ls hl => ?_)
          refine lv_goto (tgt := 31) hx hb dX4_findFirst_77 (by decide) ?_
          exact ih _ _ _ _ _ _ hf B (lv_sub hl [1, 2, 3, 0] rfl)
        · have hf := zif_f hc hf
          refine lv_aload_n hx hb dX4_findFirst_54 rfl (lv_at hl 0 rfl) ?_
          refine x_getr hx hb hts hinRX4 hown B 57 1 59 (by decide) (by decide) (fun _ => rfl) rfl rfl (by decide) (by decide +kernel) rfl dX4_findFirst_55 ?_
          refine lv_iload_n hx hb dX4_findFirst_58 rfl (lv_at hl 2 rfl) ?_
          refine lv_dup2_11 hx hb dX4_findFirst_59 rfl rfl ?_
          obtain ⟨hg, hf⟩ := zg_some hf
          refine x_iald hx hb B 59 (by decide) (fun _ => rfl) (zin_ok hg) dX4_findFirst_60 ?_
          refine lv_iconst (v := (1 : Int32)) hx hb dX4_findFirst_61 (by decide) ?_
          refine lv_aload_n hx hb dX4_findFirst_62 rfl (lv_at hl 1 rfl) ?_
          refine x_getr hx hb hts hinRX6 hown B 1 1 14 (by decide) (by decide) (fun _ => rfl) rfl rfl (by decide) (by decide +kernel) rfl dX4_findFirst_63 ?_
          refine x_getr hx hb hts hinRX0 hown B 14 5 18 (by decide) (by decide) (fun _ => rfl) rfl rfl (by decide) (by decide +kernel) rfl dX4_findFirst_66 ?_
          refine lv_iload_n hx hb dX4_findFirst_69 rfl (lv_at hl 3 rfl) ?_
          obtain ⟨hg, hf⟩ := zg_some hf
          refine x_iald hx hb B 18 (by decide) (fun _ => rfl) (zin_ok hg) dX4_findFirst_70 ?_
          refine lv_ishl hx hb dX4_findFirst_71 ?_
          refine lv_ior hx hb dX4_findFirst_72 ?_
          obtain ⟨hg, hf⟩ := zg_some hf
          refine x_iast hx hb B 59 (by decide) (by decide) (fun _ => rfl) (zin_ok hg) dX4_findFirst_73 (fun H locs B => ?_)
          refine lv_iinc (v := (v3 + (1 : Int32))) (lv' := [(3, .int (v3 + (1 : Int32))), (0, .ref (ad 57)), (1, .ref (ad 1)), (2, .int v2)]) hx hb dX4_findFirst_74 hl (k := 3) rfl (zc1 (by decide)) (by decide) rfl (fun ls hl => ?_)
          refine lv_goto (tgt := 31) hx hb dX4_findFirst_77 (by decide) ?_
          exact ih _ _ _ _ _ _ hf B (lv_sub hl [1, 2, 3, 0] rfl)
  have L2 : ∀ (n : Nat) (σ : zs) (v2 : Int32) (H : Heap) (locs : List Loc) (ls : Array Slot), zlp1 (f_X4_findFirst_1_2) n σ v2 = some (r, σ') → xB A s G ad σ H locs → lv_has ls 4 [(0, .ref (ad 57)), (1, .ref (ad 1)), (2, .int v2)] → W p l e (headSpec wsX4_findFirst rm_X4_findFirst_1).room s m ([.ref (ad 57), .ref (ad 1)] : List Value).toArray below meth c H locs 0 0 (MQ below (va_Qv (fun (u : xV) => xQ σ' u) (xPost G ad σ' A) A) ([.ref (ad 57), .ref (ad 1)] : List Value).toArray s 0 0 A) (F0 m 2 ls []) := by
    intro n
    induction n with
    | zero =>
      intro σ v2 H locs ls hf
      cases hf
    | succ n ih =>
      intro σ v2 H locs ls hf B hl
      have hf : f_X4_findFirst_1_2 (zlp1 (f_X4_findFirst_1_2) n) σ v2 = some (r, σ') := hf
      unfold f_X4_findFirst_1_2 at hf
      refine lv_iload_n hx hb dX4_findFirst_2 rfl (lv_at hl 2 rfl) ?_
      refine lv_bipush (v := (6 : Int32)) hx hb dX4_findFirst_3 (by decide) ?_
      refine lv_icmp_ge (tgt := 86) hx hb dX4_findFirst_5 (by decide) (fun hc => ?_) (fun hc => ?_)
      · have hf := zif_t hc hf
        refine W.widen (k := 0) (n := 0) (Nat.le_of_ble_eq_true rfl) (Nat.le_of_ble_eq_true rfl) ?_
        exact x_vret hx hb hr hlocks B hf dX4_findFirst_86
      · have hf := zif_f hc hf
        refine lv_aload_n hx hb dX4_findFirst_8 rfl (lv_at hl 0 rfl) ?_
        refine x_getr hx hb hts hinRX4 hown B 57 0 58 (by decide) (by decide) (fun _ => rfl) rfl rfl (by decide) (by decide +kernel) rfl dX4_findFirst_9 ?_
        refine lv_iload_n hx hb dX4_findFirst_12 rfl (lv_at hl 2 rfl) ?_
        refine lv_iconst (v := (0 : Int32)) hx hb dX4_findFirst_13 (by decide) ?_
        obtain ⟨hg, hf⟩ := zg_some hf
        refine x_iast hx hb B 58 (by decide) (by decide) (fun _ => rfl) (zin_ok hg) dX4_findFirst_14 (fun H locs B => ?_)
        refine lv_aload_n hx hb dX4_findFirst_15 rfl (lv_at hl 0 rfl) ?_
        refine x_getr hx hb hts hinRX4 hown B 57 1 59 (by decide) (by decide) (fun _ => rfl) rfl rfl (by decide) (by decide +kernel) rfl dX4_findFirst_16 ?_
        refine lv_iload_n hx hb dX4_findFirst_19 rfl (lv_at hl 2 rfl) ?_
        refine lv_aload_n hx hb dX4_findFirst_20 rfl (lv_at hl 1 rfl) ?_
        refine x_getr hx hb hts hinRX6 hown B 1 0 2 (by decide) (by decide) (fun _ => rfl) rfl rfl (by decide) (by decide +kernel) rfl dX4_findFirst_21 ?_
        refine lv_iload_n hx hb dX4_findFirst_24 rfl (lv_at hl 2 rfl) ?_
        obtain ⟨r2, σ3, hu1, hf⟩ := zb_some hf
        refine x_i B (fun nb a g hs Bz => va_runV (As := [.int v2]) (rest := [.int v2, .ref (ad 59)]) ⟨hx, hb, hml, hown, hts⟩ (c_X7_setHeldBy l hu1 _ nb a g hs) (cwV 1 hts gX4_findFirst_X7_setHeldBy rfl rfl rfl (by decide +kernel) ⟨Nat.le_of_ble_eq_true rfl, Nat.le_of_ble_eq_true rfl⟩) (x_preV Bz (by decide) (fun _ => rfl) rfl) rfl rfl hl.1 rfl (lv_room (Nat.le_of_ble_eq_true rfl)) dX4_findFirst_25 ⟨Nat.le_of_ble_eq_true rfl, Nat.le_of_ble_eq_true rfl⟩) (fun H locs B => ?_)
        obtain ⟨hg, hf⟩ := zg_some hf
        refine x_iast hx hb B 59 (by decide) (by decide) (fun _ => rfl) (zin_ok hg) dX4_findFirst_28 (fun H locs B => ?_)
        refine lv_iconst (v := (0 : Int32)) hx hb dX4_findFirst_29 (by decide) ?_
        refine lv_istore_n (lv' := [(3, .int (0 : Int32)), (0, .ref (ad 57)), (1, .ref (ad 1)), (2, .int v2)]) hx hb dX4_findFirst_30 rfl hl (by decide) rfl (fun ls hl => ?_)
        exact L31 _ ih  _ _ _ _ _ _ _ hf B (lv_sub hl [1, 2, 3, 0] rfl)
  unfold f_X4_findFirst_1 at hf
  refine lv_iconst (v := (0 : Int32)) hx hb dX4_findFirst_0 (by decide) ?_
  refine lv_istore_n (lv' := [(2, .int (0 : Int32)), (0, .ref (ad 57)), (1, .ref (ad 1))]) hx hb dX4_findFirst_1 rfl hl (by decide) rfl (fun ls hl => ?_)
  exact L2  _ _ _ _ _ _ hf B (lv_sub hl [1, 2, 0] rfl)
