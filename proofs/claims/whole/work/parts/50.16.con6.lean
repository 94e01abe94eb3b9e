theorem dX6_copyFrom_0 : decode cX6_copyFrom 0 = .ok (.aload_n 0, 1) := by decide +kernel
theorem dX6_copyFrom_1 : decode cX6_copyFrom 1 = .ok (.getfield 12, 3) := by decide +kernel
theorem dX6_copyFrom_4 : decode cX6_copyFrom 4 = .ok (.aload_n 1, 1) := by decide +kernel
theorem dX6_copyFrom_5 : decode cX6_copyFrom 5 = .ok (.getfield 12, 3) := by decide +kernel
theorem dX6_copyFrom_8 : decode cX6_copyFrom 8 = .ok (.invokevirtual 42, 3) := by decide +kernel
theorem dX6_copyFrom_11 : decode cX6_copyFrom 11 = .ok (.aload_n 0, 1) := by decide +kernel
theorem dX6_copyFrom_12 : decode cX6_copyFrom 12 = .ok (.getfield 21, 3) := by decide +kernel
theorem dX6_copyFrom_15 : decode cX6_copyFrom 15 = .ok (.aload_n 1, 1) := by decide +kernel
theorem dX6_copyFrom_16 : decode cX6_copyFrom 16 = .ok (.getfield 21, 3) := by decide +kernel
theorem dX6_copyFrom_19 : decode cX6_copyFrom 19 = .ok (.invokevirtual 46, 3) := by decide +kernel
theorem dX6_copyFrom_22 : decode cX6_copyFrom 22 = .ok (.aload_n 0, 1) := by decide +kernel
theorem dX6_copyFrom_23 : decode cX6_copyFrom 23 = .ok (.getfield 28, 3) := by decide +kernel
theorem dX6_copyFrom_26 : decode cX6_copyFrom 26 = .ok (.aload_n 1, 1) := by decide +kernel
theorem dX6_copyFrom_27 : decode cX6_copyFrom 27 = .ok (.getfield 28, 3) := by decide +kernel
theorem dX6_copyFrom_30 : decode cX6_copyFrom 30 = .ok (.invokevirtual 49, 3) := by decide +kernel
theorem dX6_copyFrom_33 : decode cX6_copyFrom 33 = .ok (.aload_n 1, 1) := by decide +kernel
theorem dX6_copyFrom_34 : decode cX6_copyFrom 34 = .ok (.getfield 32, 3) := by decide +kernel
theorem dX6_copyFrom_37 : decode cX6_copyFrom 37 = .ok (.aload_n 0, 1) := by decide +kernel
theorem dX6_copyFrom_38 : decode cX6_copyFrom 38 = .ok (.getfield 32, 3) := by decide +kernel
theorem dX6_copyFrom_41 : decode cX6_copyFrom 41 = .ok (.invokestatic 52, 3) := by decide +kernel
theorem dX6_copyFrom_44 : decode cX6_copyFrom 44 = .ok (.aload_n 1, 1) := by decide +kernel
theorem dX6_copyFrom_45 : decode cX6_copyFrom 45 = .ok (.getfield 36, 3) := by decide +kernel
theorem dX6_copyFrom_48 : decode cX6_copyFrom 48 = .ok (.aload_n 0, 1) := by decide +kernel
theorem dX6_copyFrom_49 : decode cX6_copyFrom 49 = .ok (.getfield 36, 3) := by decide +kernel
theorem dX6_copyFrom_52 : decode cX6_copyFrom 52 = .ok (.invokestatic 52, 3) := by decide +kernel
theorem dX6_copyFrom_55 : decode cX6_copyFrom 55 = .ok (.aload_n 0, 1) := by decide +kernel
theorem dX6_copyFrom_56 : decode cX6_copyFrom 56 = .ok (.aload_n 1, 1) := by decide +kernel
theorem dX6_copyFrom_57 : decode cX6_copyFrom 57 = .ok (.getfield 56, 3) := by decide +kernel
theorem dX6_copyFrom_60 : decode cX6_copyFrom 60 = .ok (.putfield 56, 3) := by decide +kernel
theorem dX6_copyFrom_63 : decode cX6_copyFrom 63 = .ok (.aload_n 1, 1) := by decide +kernel
theorem dX6_copyFrom_64 : decode cX6_copyFrom 64 = .ok (.getfield 39, 3) := by decide +kernel
theorem dX6_copyFrom_67 : decode cX6_copyFrom 67 = .ok (.aload_n 0, 1) := by decide +kernel
theorem dX6_copyFrom_68 : decode cX6_copyFrom 68 = .ok (.getfield 39, 3) := by decide +kernel
theorem dX6_copyFrom_71 : decode cX6_copyFrom 71 = .ok (.invokestatic 52, 3) := by decide +kernel
theorem dX6_copyFrom_74 : decode cX6_copyFrom 74 = .ok (.aload_n 0, 1) := by decide +kernel
theorem dX6_copyFrom_75 : decode cX6_copyFrom 75 = .ok (.aload_n 1, 1) := by decide +kernel
theorem dX6_copyFrom_76 : decode cX6_copyFrom 76 = .ok (.getfield 60, 3) := by decide +kernel
theorem dX6_copyFrom_79 : decode cX6_copyFrom 79 = .ok (.putfield 60, 3) := by decide +kernel
theorem dX6_copyFrom_82 : decode cX6_copyFrom 82 = .ok (.return_, 1) := by decide +kernel
set_option maxRecDepth 20000 in
theorem ggX6_copyFrom_X7_copyFrom : GoodIn wsX6_copyFrom wsX7_copyFrom := goodIn_r _ [13, 14, 15, 16, 17, 18, 19, 20, 21, 22, 23, 24, 25, 26, 27, 28, 29, 30, 31, 61, 62, 63, 64, 65, 66, 67, 68, 69, 70, 71, 72] (by decide +kernel) (by decide +kernel)
set_option maxRecDepth 20000 in
theorem gX6_copyFrom_X7_copyFrom : GoodIn wsX6_copyFrom (wsV RX6 42 RX7 yX7_copyFrom wsX7_copyFrom) := goodIn_app (goodIn_of _ (by decide +kernel)) ggX6_copyFrom_X7_copyFrom
set_option maxRecDepth 20000 in
theorem ggX6_copyFrom_X0_copyFrom : GoodIn wsX6_copyFrom wsX0_copyFrom := goodIn_r _ [36, 37, 38, 39, 40, 41, 42, 43, 25, 26, 27, 28, 29, 30, 31, 73, 74, 75, 76, 77, 78, 79] (by decide +kernel) (by decide +kernel)
set_option maxRecDepth 20000 in
theorem gX6_copyFrom_X0_copyFrom : GoodIn wsX6_copyFrom (wsV RX6 46 RX0 yX0_copyFrom wsX0_copyFrom) := goodIn_app (goodIn_of _ (by decide +kernel)) ggX6_copyFrom_X0_copyFrom
set_option maxRecDepth 20000 in
theorem ggX6_copyFrom_X2_copyFrom : GoodIn wsX6_copyFrom wsX2_copyFrom := goodIn_r _ [48, 49, 50, 51, 52, 25, 26, 27, 28, 29, 30, 31, 80, 81, 82, 83] (by decide +kernel) (by decide +kernel)
set_option maxRecDepth 20000 in
theorem gX6_copyFrom_X2_copyFrom : GoodIn wsX6_copyFrom (wsV RX6 49 RX2 yX2_copyFrom wsX2_copyFrom) := goodIn_app (goodIn_of _ (by decide +kernel)) ggX6_copyFrom_X2_copyFrom
set_option maxRecDepth 20000 in
theorem ggX6_copyFrom_X8_copyRow : GoodIn wsX6_copyFrom wsX8_copyRow := goodIn_r _ [27, 28, 29, 30, 31] (by decide +kernel) (by decide +kernel)
set_option maxRecDepth 20000 in
theorem gX6_copyFrom_X8_copyRow_n52 : GoodIn wsX6_copyFrom (wsX8_copyRow) := ggX6_copyFrom_X8_copyRow
def rm_X6_copyFrom_t25_1 : Room := { frames := 3, cells := 0, slots := 0, locals := 242 }
set_option maxHeartbeats 4000000 in
set_option maxRecDepth 100000 in
theorem c_X6_copyFrom_t25_1 (l : Launch) {G : zG} {ad : Nat → Nat} {σ σ' : zs} {r : Int32} (hf : f_X6_copyFrom_t25_1 σ  = some (r, σ')) : xMv l yX6_copyFrom wsX6_copyFrom rm_X6_copyFrom_t25_1 G ad σ [.ref (ad 25), .ref (ad 1)] σ' := by
  intro sz nb a g hs
  refine Met.ofW (cc := cX6_copyFrom) (maxL := 2) (ret := none) (by decide) rfl ?_
  intro p e s m args below meth c s₁ B hml hv
  obtain ⟨rfl, hsz, hv⟩ := hv
  have hx := B.exec
  have hb := B.bytes
  have hr := B.returns
  have hts := atoms_spec (ws := wsX6_copyFrom) B.pre
  have hown : s.vm.findClass RX6 = some m.cls := findClass_of_methodNamed B.named
  have hlocks := B.notSynchronized
  subst hsz
  have B := xB_start hs hv
  have hinRX6 : ∀ w ∈ wsX60, w ∈ wsX6_copyFrom := by decide +kernel
  have hl := lv_entry ([.ref (ad 25), .ref (ad 1)]) (n := 2) (Nat.le_of_ble_eq_true rfl)
  rw [lg_entry_eq]
  generalize (lg_sl ([.ref (ad 25), .ref (ad 1)]) ++ List.replicate (2 - (lg_sl ([.ref (ad 25), .ref (ad 1)])).length) Slot.unset).toArray = ls at hl ⊢
  have hl : lv_has ls 2 [(0, .ref (ad 25)), (1, .ref (ad 1))] := hl
  generalize hAe : xA ad a s.heap.size = A at B ⊢
  unfold f_X6_copyFrom_t25_1 at hf
  refine lv_aload_n hx hb dX6_copyFrom_0 rfl (lv_at hl 0 rfl) ?_
  refine x_getr hx hb hts hinRX6 hown B 25 0 26 (by decide) (by decide) (fun _ => rfl) rfl rfl (by decide) (by decide +kernel) rfl dX6_copyFrom_1 ?_
  refine lv_aload_n hx hb dX6_copyFrom_4 rfl (lv_at hl 1 rfl) ?_
  refine x_getr hx hb hts hinRX6 hown B 1 0 2 (by decide) (by decide) (fun _ => rfl) rfl rfl (by decide) (by decide +kernel) rfl dX6_copyFrom_5 ?_
  obtain ⟨r2, σ3, hu1, hf⟩ := zb_some hf
  refine x_v B (fun nb a g hs Bz => va_runV (As := [.ref (ad 2)]) (rest := []) ⟨hx, hb, hml, hown, hts⟩ (c_X7_copyFrom_t26_2 l hu1 _ nb a g hs) (cwV 1 hts gX6_copyFrom_X7_copyFrom rfl rfl rfl (by decide +kernel) ⟨Nat.le_of_ble_eq_true rfl, Nat.le_of_ble_eq_true rfl⟩) (x_preV Bz (by decide) (fun _ => rfl) rfl) rfl rfl hl.1 rfl (lv_room (Nat.le_of_ble_eq_true rfl)) dX6_copyFrom_8 ⟨Nat.le_of_ble_eq_true rfl, Nat.le_of_ble_eq_true rfl⟩) (fun H locs B => ?_)
  refine lv_aload_n hx hb dX6_copyFrom_11 rfl (lv_at hl 0 rfl) ?_
  refine x_getr hx hb hts hinRX6 hown B 25 1 38 (by decide) (by decide) (fun _ => rfl) rfl rfl (by decide) (by decide +kernel) rfl dX6_copyFrom_12 ?_
  refine lv_aload_n hx hb dX6_copyFrom_15 rfl (lv_at hl 1 rfl) ?_
  refine x_getr hx hb hts hinRX6 hown B 1 1 14 (by decide) (by decide) (fun _ => rfl) rfl rfl (by decide) (by decide +kernel) rfl dX6_copyFrom_16 ?_
  obtain ⟨r5, σ6, hu4, hf⟩ := zb_some hf
  refine x_v B (fun nb a g hs Bz => va_runV (As := [.ref (ad 14)]) (rest := []) ⟨hx, hb, hml, hown, hts⟩ (c_X0_copyFrom_t38_14 l hu4 _ nb a g hs) (cwV 1 hts gX6_copyFrom_X0_copyFrom rfl rfl rfl (by decide +kernel) ⟨Nat.le_of_ble_eq_true rfl, Nat.le_of_ble_eq_true rfl⟩) (x_preV Bz (by decide) (fun _ => rfl) rfl) rfl rfl hl.1 rfl (lv_room (Nat.le_of_ble_eq_true rfl)) dX6_copyFrom_19 ⟨Nat.le_of_ble_eq_true rfl, Nat.le_of_ble_eq_true rfl⟩) (fun H locs B => ?_)
  refine lv_aload_n hx hb dX6_copyFrom_22 rfl (lv_at hl 0 rfl) ?_
  refine x_getr hx hb hts hinRX6 hown B 25 2 44 (by decide) (by decide) (fun _ => rfl) rfl rfl (by decide) (by decide +kernel) rfl dX6_copyFrom_23 ?_
  refine lv_aload_n hx hb dX6_copyFrom_26 rfl (lv_at hl 1 rfl) ?_
  refine x_getr hx hb hts hinRX6 hown B 1 2 20 (by decide) (by decide) (fun _ => rfl) rfl rfl (by decide) (by decide +kernel) rfl dX6_copyFrom_27 ?_
  obtain ⟨r8, σ9, hu7, hf⟩ := zb_some hf
  refine x_v B (fun nb a g hs Bz => va_runV (As := [.ref (ad 20)]) (rest := []) ⟨hx, hb, hml, hown, hts⟩ (c_X2_copyFrom_t44_20 l hu7 _ nb a g hs) (cwV 1 hts gX6_copyFrom_X2_copyFrom rfl rfl rfl (by decide +kernel) ⟨Nat.le_of_ble_eq_true rfl, Nat.le_of_ble_eq_true rfl⟩) (x_preV Bz (by decide) (fun _ => rfl) rfl) rfl rfl hl.1 rfl (lv_room (Nat.le_of_ble_eq_true rfl)) dX6_copyFrom_30 ⟨Nat.le_of_ble_eq_true rfl, Nat.le_of_ble_eq_true rfl⟩) (fun H locs B => ?_)
  refine lv_aload_n hx hb dX6_copyFrom_33 rfl (lv_at hl 1 rfl) ?_
  refine x_getr hx hb hts hinRX6 hown B 1 3 22 (by decide) (by decide) (fun _ => rfl) rfl rfl (by decide) (by decide +kernel) rfl dX6_copyFrom_34 ?_
  refine lv_aload_n hx hb dX6_copyFrom_37 rfl (lv_at hl 0 rfl) ?_
  refine x_getr hx hb hts hinRX6 hown B 25 3 46 (by decide) (by decide) (fun _ => rfl) rfl rfl (by decide) (by decide +kernel) rfl dX6_copyFrom_38 ?_
  obtain ⟨r11, σ12, hu10, hf⟩ := zb_some hf
  refine x_v B (fun nb a g hs Bz => va_runSN (As := [.ref (ad 22), .ref (ad 46)]) (rest := []) ⟨hx, hb, hml, hown, hts⟩ (c_X8_copyRow_22_46 l hu10 _ nb a g hs) ⟨va_cnB 2 hts gX6_copyFrom_X8_copyRow_n52 rfl rfl rfl (x_nest B (q := (RX6, 52, yX8_copyRow)) (by decide +kernel)) (hts (.initialized RX8) (by decide +kernel)) (by decide +kernel) ⟨Nat.le_of_ble_eq_true rfl, Nat.le_of_ble_eq_true rfl⟩, hts (.static yX8_copyRow) (by decide +kernel), trivial⟩ (z_preS Bz) rfl rfl hl.1 rfl (lv_room (Nat.le_of_ble_eq_true rfl)) dX6_copyFrom_41 ⟨Nat.le_of_ble_eq_true rfl, Nat.le_of_ble_eq_true rfl⟩) (fun H locs B => ?_)
  refine lv_aload_n hx hb dX6_copyFrom_44 rfl (lv_at hl 1 rfl) ?_
  refine x_getr hx hb hts hinRX6 hown B 1 4 23 (by decide) (by decide) (fun _ => rfl) rfl rfl (by decide) (by decide +kernel) rfl dX6_copyFrom_45 ?_
  refine lv_aload_n hx hb dX6_copyFrom_48 rfl (lv_at hl 0 rfl) ?_
  refine x_getr hx hb hts hinRX6 hown B 25 4 47 (by decide) (by decide) (fun _ => rfl) rfl rfl (by decide) (by decide +kernel) rfl dX6_copyFrom_49 ?_
  obtain ⟨r14, σ15, hu13, hf⟩ := zb_some hf
  refine x_v B (fun nb a g hs Bz => va_runSN (As := [.ref (ad 23), .ref (ad 47)]) (rest := []) ⟨hx, hb, hml, hown, hts⟩ (c_X8_copyRow_23_47 l hu13 _ nb a g hs) ⟨va_cnB 2 hts gX6_copyFrom_X8_copyRow_n52 rfl rfl rfl (x_nest B (q := (RX6, 52, yX8_copyRow)) (by decide +kernel)) (hts (.initialized RX8) (by decide +kernel)) (by decide +kernel) ⟨Nat.le_of_ble_eq_true rfl, Nat.le_of_ble_eq_true rfl⟩, hts (.static yX8_copyRow) (by decide +kernel), trivial⟩ (z_preS Bz) rfl rfl hl.1 rfl (lv_room (Nat.le_of_ble_eq_true rfl)) dX6_copyFrom_52 ⟨Nat.le_of_ble_eq_true rfl, Nat.le_of_ble_eq_true rfl⟩) (fun H locs B => ?_)
  refine lv_aload_n hx hb dX6_copyFrom_55 rfl (lv_at hl 0 rfl) ?_
  refine lv_aload_n hx hb dX6_copyFrom_56 rfl (lv_at hl 1 rfl) ?_
  refine x_geti hx hb hts hinRX6 hown B 1 5 (by decide) (fun _ => rfl) rfl rfl (by decide) (by decide +kernel) rfl dX6_copyFrom_57 ?_
  refine x_puti hx hb hts hinRX6 hown tyX6 tyX6_ok nmX6 B 25 5 (by decide) (by decide) (fun _ => rfl) rfl rfl (by decide) (by decide +kernel) rfl rfl rfl rfl dX6_copyFrom_60 (fun H locs B => ?_)
  refine lv_aload_n hx hb dX6_copyFrom_63 rfl (lv_at hl 1 rfl) ?_
  refine x_getr hx hb hts hinRX6 hown B 1 6 24 (by decide) (by decide) (fun _ => rfl) rfl rfl (by decide) (by decide +kernel) rfl dX6_copyFrom_64 ?_
  refine lv_aload_n hx hb dX6_copyFrom_67 rfl (lv_at hl 0 rfl) ?_
  refine x_getr hx hb hts hinRX6 hown B 25 6 48 (by decide) (by decide) (fun _ => rfl) rfl rfl (by decide) (by decide +kernel) rfl dX6_copyFrom_68 ?_
  obtain ⟨r17, σ18, hu16, hf⟩ := zb_some hf
  refine x_v B (fun nb a g hs Bz => va_runSN (As := [.ref (ad 24), .ref (ad 48)]) (rest := []) ⟨hx, hb, hml, hown, hts⟩ (c_X8_copyRow_24_48 l hu16 _ nb a g hs) ⟨va_cnB 2 hts gX6_copyFrom_X8_copyRow_n52 rfl rfl rfl (x_nest B (q := (RX6, 52, yX8_copyRow)) (by decide +kernel)) (hts (.initialized RX8) (by decide +kernel)) (by decide +kernel) ⟨Nat.le_of_ble_eq_true rfl, Nat.le_of_ble_eq_true rfl⟩, hts (.static yX8_copyRow) (by decide +kernel), trivial⟩ (z_preS Bz) rfl rfl hl.1 rfl (lv_room (Nat.le_of_ble_eq_true rfl)) dX6_copyFrom_71 ⟨Nat.le_of_ble_eq_true rfl, Nat.le_of_ble_eq_true rfl⟩) (fun H locs B => ?_)
  refine lv_aload_n hx hb dX6_copyFrom_74 rfl (lv_at hl 0 rfl) ?_
  refine lv_aload_n hx hb dX6_copyFrom_75 rfl (lv_at hl 1 rfl) ?_
  refine x_geti hx hb hts hinRX6 hown B 1 7 (by decide) (fun _ => rfl) rfl rfl (by decide) (by decide +kernel) rfl dX6_copyFrom_76 ?_
  refine x_puti hx hb hts hinRX6 hown tyX6 tyX6_ok nmX6 B 25 7 (by decide) (by decide) (fun _ => rfl) rfl rfl (by decide) (by decide +kernel) rfl rfl rfl rfl dX6_copyFrom_79 (fun H locs B => ?_)
  refine W.widen (k := 0) (n := 0) (Nat.le_of_ble_eq_true rfl) (Nat.le_of_ble_eq_true rfl) ?_
  exact x_vret hx hb hr hlocks B hf dX6_copyFrom_82
theorem dX8_save_0 : decode cX8_save 0 = .ok (.aload_n 0, 1) := by decide +kernel
theorem dX8_save_1 : decode cX8_save 1 = .ok (.getfield 16, 3) := by decide +kernel
theorem dX8_save_4 : decode cX8_save 4 = .ok (.aload_n 0, 1) := by decide +kernel
theorem dX8_save_5 : decode cX8_save 5 = .ok (.getfield 12, 3) := by decide +kernel
theorem dX8_save_8 : decode cX8_save 8 = .ok (.invokevirtual 358, 3) := by decide +kernel
theorem dX8_save_11 : decode cX8_save 11 = .ok (.aload_n 0, 1) := by decide +kernel
theorem dX8_save_12 : decode cX8_save 12 = .ok (.iconst 1, 1) := by decide +kernel
theorem dX8_save_13 : decode cX8_save 13 = .ok (.putfield 19, 3) := by decide +kernel
theorem dX8_save_16 : decode cX8_save 16 = .ok (.aload_n 0, 1) := by decide +kernel
theorem dX8_save_17 : decode cX8_save 17 = .ok (.getfield 12, 3) := by decide +kernel
theorem dX8_save_20 : decode cX8_save 20 = .ok (.getfield 66, 3) := by decide +kernel
theorem dX8_save_23 : decode cX8_save 23 = .ok (.getfield 70, 3) := by decide +kernel
theorem dX8_save_26 : decode cX8_save 26 = .ok (.ireturn, 1) := by decide +kernel
set_option maxRecDepth 20000 in
theorem ggX8_save_X6_copyFrom : GoodIn wsX8_save wsX6_copyFrom := goodIn_r _ [10, 11, 12, 13, 14, 15, 16, 17, 18, 19, 20, 21, 22, 23, 24, 25, 26, 27, 28, 29, 30, 31, 32, 33, 34, 35, 36, 37, 38, 39, 40, 41, 42, 43, 44, 45, 46, 47, 48, 49, 50, 51, 52, 53, 54, 55, 56, 57, 58, 59, 60, 61, 62, 71, 72, 73, 74, 75, 76, 77, 78, 79, 80, 81, 82, 83, 84, 85, 86, 87, 88, 89, 90, 91, 92, 93, 94, 95, 96, 97, 98, 99, 100, 101] (by decide +kernel) (by decide +kernel)
set_option maxRecDepth 20000 in
theorem gX8_save_X6_copyFrom : GoodIn wsX8_save (wsV RX8 358 RX6 yX6_copyFrom wsX6_copyFrom) := goodIn_app (goodIn_of _ (by decide +kernel)) ggX8_save_X6_copyFrom
def rm_X8_save : Room := { frames := 4, cells := 0, slots := 0, locals := 263 }
set_option maxHeartbeats 4000000 in
set_option maxRecDepth 100000 in
theorem c_X8_save (l : Launch) {G : zG} {ad : Nat → Nat} {σ σ' : zs} {r : Int32} (hf : f_X8_save σ  = some (r, σ')) : xMi l yX8_save wsX8_save rm_X8_save G ad σ [.ref (ad 0)] r σ' := by
  intro sz nb a g hs
  refine Met.ofW (cc := cX8_save) (maxL := 1) (ret := (some .int)) (by decide) rfl ?_
  intro p e s m args below meth c s₁ B hml hv
  obtain ⟨rfl, hsz, hv⟩ := hv
  have hx := B.exec
  have hb := B.bytes
  have hr := B.returns
  have hts := atoms_spec (ws := wsX8_save) B.pre
  have hown : s.vm.findClass RX8 = some m.cls := findClass_of_methodNamed B.named
  have hlocks := B.notSynchronized
  subst hsz
  have B := xB_start hs hv
  have hinRX6 : ∀ w ∈ wsX60, w ∈ wsX8_save := by decide +kernel
  have hinRX7 : ∀ w ∈ wsX70, w ∈ wsX8_save := by decide +kernel
  have hinRX8 : ∀ w ∈ wsX80, w ∈ wsX8_save := by decide +kernel
  have hl := lv_entry ([.ref (ad 0)]) (n := 1) (Nat.le_of_ble_eq_true rfl)
  rw [lg_entry_eq]
  generalize (lg_sl ([.ref (ad 0)]) ++ List.replicate (1 - (lg_sl ([.ref (ad 0)])).length) Slot.unset).toArray = ls at hl ⊢
  have hl : lv_has ls 1 [(0, .ref (ad 0))] := hl
  generalize hAe : xA ad a s.heap.size = A at B ⊢
  unfold f_X8_save at hf
  refine lv_aload_n hx hb dX8_save_0 rfl (lv_at hl 0 rfl) ?_
  refine x_getr hx hb hts hinRX8 hown B 0 1 25 (by decide) (by decide) (fun _ => rfl) rfl rfl (by decide) (by decide +kernel) rfl dX8_save_1 ?_
  refine lv_aload_n hx hb dX8_save_4 rfl (lv_at hl 0 rfl) ?_
  refine x_getr hx hb hts hinRX8 hown B 0 0 1 (by decide) (by decide) (fun _ => rfl) rfl rfl (by decide) (by decide +kernel) rfl dX8_save_5 ?_
  obtain ⟨r2, σ3, hu1, hf⟩ := zb_some hf
  refine x_v B (fun nb a g hs Bz => va_runV (As := [.ref (ad 1)]) (rest := []) ⟨hx, hb, hml, hown, hts⟩ (c_X6_copyFrom_t25_1 l hu1 _ nb a g hs) (cwV 1 hts gX8_save_X6_copyFrom rfl rfl rfl (by decide +kernel) ⟨Nat.le_of_ble_eq_true rfl, Nat.le_of_ble_eq_true rfl⟩) (x_preV Bz (by decide) (fun _ => rfl) rfl) rfl rfl hl.1 rfl (lv_room (Nat.le_of_ble_eq_true rfl)) dX8_save_8 ⟨Nat.le_of_ble_eq_true rfl, Nat.le_of_ble_eq_true rfl⟩) (fun H locs B => ?_)
  refine lv_aload_n hx hb dX8_save_11 rfl (lv_at hl 0 rfl) ?_
  refine lv_iconst (v := (1 : Int32)) hx hb dX8_save_12 (by decide) ?_
  refine x_puti hx hb hts hinRX8 hown tyX8 tyX8_ok nmX8 B 0 2 (by decide) (by decide) (fun _ => rfl) rfl rfl (by decide) (by decide +kernel) rfl rfl (by decide) (by decide) dX8_save_13 (fun H locs B => ?_)
  refine lv_aload_n hx hb dX8_save_16 rfl (lv_at hl 0 rfl) ?_
  refine x_getr hx hb hts hinRX8 hown B 0 0 1 (by decide) (by decide) (fun _ => rfl) rfl rfl (by decide) (by decide +kernel) rfl dX8_save_17 ?_
  refine x_getr hx hb hts hinRX6 hown B 1 0 2 (by decide) (by decide) (fun _ => rfl) rfl rfl (by decide) (by decide +kernel) rfl dX8_save_20 ?_
  refine x_geti hx hb hts hinRX7 hown B 2 0 (by decide) (fun _ => rfl) rfl rfl (by decide) (by decide +kernel) rfl dX8_save_23 ?_
  refine W.widen (k := 0) (n := 0) (Nat.le_of_ble_eq_true rfl) (Nat.le_of_ble_eq_true rfl) ?_
  exact x_iret hx hb hr rfl hlocks B hf dX8_save_26
def rm_X8_copyRow_27_3 : Room := { frames := 1, cells := 0, slots := 0, locals := 200 }
set_option maxHeartbeats 4000000 in
set_option maxRecDepth 100000 in
theorem c_X8_copyRow_27_3 (l : Launch) {G : zG} {ad : Nat → Nat} {σ σ' : zs} {r : Int32} (hf : f_X8_copyRow_27_3 σ  = some (r, σ')) : xMv l yX8_copyRow wsX8_copyRow rm_X8_copyRow_27_3 G ad σ [.ref (ad 27), .ref (ad 3)] σ' := by
  intro sz nb a g hs
  refine Met.ofW (cc := cX8_copyRow) (maxL := 2) (ret := none) (by decide) rfl ?_
  intro p e s m args below meth c s₁ B hml hv
  obtain ⟨rfl, hsz, hv⟩ := hv
  have hx := B.exec
  have hb := B.bytes
  have hr := B.returns
  have hts := atoms_spec (ws := wsX8_copyRow) B.pre
  have hown : s.vm.findClass RX8 = some m.cls := findClass_of_methodNamed B.named
  have hlocks := B.notSynchronized
  subst hsz
  have B := xB_start hs hv
  have hl := lv_entry ([.ref (ad 27), .ref (ad 3)]) (n := 2) (Nat.le_of_ble_eq_true rfl)
  rw [lg_entry_eq]
  generalize (lg_sl ([.ref (ad 27), .ref (ad 3)]) ++ List.replicate (2 - (lg_sl ([.ref (ad 27), .ref (ad 3)])).length) Slot.unset).toArray = ls at hl ⊢
  have hl : lv_has ls 2 [(0, .ref (ad 27)), (1, .ref (ad 3))] := hl
  generalize hAe : xA ad a s.heap.size = A at B ⊢
  unfold f_X8_copyRow_27_3 at hf
  refine lv_aload_n hx hb dX8_copyRow_0 rfl (lv_at hl 0 rfl) ?_
  refine x_alen hx hb B 27 (v := (28 : Int32)) (by decide) (fun _ => rfl) rfl (by decide) dX8_copyRow_1 ?_
  refine lv_aload_n hx hb dX8_copyRow_2 rfl (lv_at hl 1 rfl) ?_
  refine x_alen hx hb B 3 (v := (28 : Int32)) (by decide) (fun _ => rfl) rfl (by decide) dX8_copyRow_3 ?_
  refine lv_icmp_ne (tgt := 16) hx hb dX8_copyRow_4 (by decide) (fun hc => absurd (by decide) hc) (fun hc => ?_)
  refine lv_aload_n hx hb dX8_copyRow_7 rfl (lv_at hl 0 rfl) ?_
  refine lv_iconst (v := (0 : Int32)) hx hb dX8_copyRow_8 (by decide) ?_
  refine lv_aload_n hx hb dX8_copyRow_9 rfl (lv_at hl 1 rfl) ?_
  refine lv_iconst (v := (0 : Int32)) hx hb dX8_copyRow_10 (by decide) ?_
  refine lv_aload_n hx hb dX8_copyRow_11 rfl (lv_at hl 0 rfl) ?_
  refine x_alen hx hb B 27 (v := (28 : Int32)) (by decide) (fun _ => rfl) rfl (by decide) dX8_copyRow_12 ?_
  obtain ⟨hg, hf⟩ := zg_some hf
  obtain ⟨g1, g2, g3, g4, g5⟩ := zcp_ok hg
  refine x_copyi hx hb (hml.trans hl.1.symm) hts hown (index := 415) (by decide +kernel) (by decide +kernel) (by decide +kernel) (by decide +kernel) B 27 3 (by decide) (by decide) (by decide) (fun _ => rfl) (fun _ => rfl) g1 g2 g3 g4 g5 (Nat.le_of_ble_eq_true rfl) (Nat.le_of_ble_eq_true rfl) dX8_copyRow_13 (fun H locs B => ?_)
  refine W.widen (k := 0) (n := 0) (Nat.le_of_ble_eq_true rfl) (Nat.le_of_ble_eq_true rfl) ?_
  exact x_vret hx hb hr hlocks B hf dX8_copyRow_16
def rm_X8_copyRow_28_4 : Room := { frames := 1, cells := 0, slots := 0, locals := 200 }
set_option maxHeartbeats 4000000 in
set_option maxRecDepth 100000 in
theorem c_X8_copyRow_28_4 (l : Launch) {G : zG} {ad : Nat → Nat} {σ σ' : zs} {r : Int32} (hf : f_X8_copyRow_28_4 σ  = some (r, σ')) : xMv l yX8_copyRow wsX8_copyRow rm_X8_copyRow_28_4 G ad σ [.ref (ad 28), .ref (ad 4)] σ' := by
  intro sz nb a g hs
  refine Met.ofW (cc := cX8_copyRow) (maxL := 2) (ret := none) (by decide) rfl ?_
  intro p e s m args below meth c s₁ B hml hv
  obtain ⟨rfl, hsz, hv⟩ := hv
  have hx := B.exec
  have hb := B.bytes
  have hr := B.returns
  have hts := atoms_spec (ws := wsX8_copyRow) B.pre
  have hown : s.vm.findClass RX8 = some m.cls := findClass_of_methodNamed B.named
  have hlocks := B.notSynchronized
  subst hsz
  have B := xB_start hs hv
  have hl := lv_entry ([.ref (ad 28), .ref (ad 4)]) (n := 2) (Nat.le_of_ble_eq_true rfl)
  rw [lg_entry_eq]
  generalize (lg_sl ([.ref (ad 28), .ref (ad 4)]) ++ List.replicate (2 - (lg_sl ([.ref (ad 28), .ref (ad 4)])).length) Slot.unset).toArray = ls at hl ⊢
  have hl : lv_has ls 2 [(0, .ref (ad 28)), (1, .ref (ad 4))] := hl
  generalize hAe : xA ad a s.heap.size = A at B ⊢
  unfold f_X8_copyRow_28_4 at hf
  refine lv_aload_n hx hb dX8_copyRow_0 rfl (lv_at hl 0 rfl) ?_
  refine x_alen hx hb B 28 (v := (28 : Int32)) (by decide) (fun _ => rfl) rfl (by decide) dX8_copyRow_1 ?_
  refine lv_aload_n hx hb dX8_copyRow_2 rfl (lv_at hl 1 rfl) ?_
  refine x_alen hx hb B 4 (v := (28 : Int32)) (by decide) (fun _ => rfl) rfl (by decide) dX8_copyRow_3 ?_
  refine lv_icmp_ne (tgt := 16) hx hb dX8_copyRow_4 (by decide) (fun hc => absurd (by decide) hc) (fun hc => ?_)
  refine lv_aload_n hx hb dX8_copyRow_7 rfl (lv_at hl 0 rfl) ?_
  refine lv_iconst (v := (0 : Int32)) hx hb dX8_copyRow_8 (by decide) ?_
  refine lv_aload_n hx hb dX8_copyRow_9 rfl (lv_at hl 1 rfl) ?_
  refine lv_iconst (v := (0 : Int32)) hx hb dX8_copyRow_10 (by decide) ?_
  refine lv_aload_n hx hb dX8_copyRow_11 rfl (lv_at hl 0 rfl) ?_
  refine x_alen hx hb B 28 (v := (28 : Int32)) (by decide) (fun _ => rfl) rfl (by decide) dX8_copyRow_12 ?_
  obtain ⟨hg, hf⟩ := zg_some hf
  obtain ⟨g1, g2, g3, g4, g5⟩ := zcp_ok hg
  refine x_copyi hx hb (hml.trans hl.1.symm) hts hown (index := 415) (by decide +kernel) (by decide +kernel) (by decide +kernel) (by decide +kernel) B 28 4 (by decide) (by decide) (by decide) (fun _ => rfl) (fun _ => rfl) g1 g2 g3 g4 g5 (Nat.le_of_ble_eq_true rfl) (Nat.le_of_ble_eq_true rfl) dX8_copyRow_13 (fun H locs B => ?_)
  refine W.widen (k := 0) (n := 0) (Nat.le_of_ble_eq_true rfl) (Nat.le_of_ble_eq_true rfl) ?_
  exact x_vret hx hb hr hlocks B hf dX8_copyRow_16
def rm_X8_copyRow_29_5 : Room := { frames := 1, cells := 0, slots := 0, locals := 200 }
set_option maxHeartbeats 4000000 in
set_option maxRecDepth 100000 in
theorem c_X8_copyRow_29_5 (l : Launch) {G : zG} {ad : Nat → Nat} {σ σ' : zs} {r : Int32} (hf : f_X8_copyRow_29_5 σ  = some (r, σ')) : xMv l yX8_copyRow wsX8_copyRow rm_X8_copyRow_29_5 G ad σ [.ref (ad 29), .ref (ad 5)] σ' := by
  intro sz nb a g hs
  refine Met.ofW (cc := cX8_copyRow) (maxL := 2) (ret := none) (by decide) rfl ?_
  intro p e s m args below meth c s₁ B hml hv
  obtain ⟨rfl, hsz, hv⟩ := hv
  have hx := B.exec
  have hb := B.bytes
  have hr := B.returns
  have hts := atoms_spec (ws := wsX8_copyRow) B.pre
  have hown : s.vm.findClass RX8 = some m.cls := findClass_of_methodNamed B.named
  have hlocks := B.notSynchronized
  subst hsz
  have B := xB_start hs hv
  have hl := lv_entry ([.ref (ad 29), .ref (ad 5)]) (n := 2) (Nat.le_of_ble_eq_true rfl)
  rw [lg_entry_eq]
  generalize (lg_sl ([.ref (ad 29), .ref (ad 5)]) ++ List.replicate (2 - (lg_sl ([.ref (ad 29), .ref (ad 5)])).length) Slot.unset).toArray = ls at hl ⊢
  have hl : lv_has ls 2 [(0, .ref (ad 29)), (1, .ref (ad 5))] := hl
  generalize hAe : xA ad a s.heap.size = A at B ⊢
  unfold f_X8_copyRow_29_5 at hf
  refine lv_aload_n hx hb dX8_copyRow_0 rfl (lv_at hl 0 rfl) ?_
  refine x_alen hx hb B 29 (v := (196 : Int32)) (by decide) (fun _ => rfl) rfl (by decide) dX8_copyRow_1 ?_
  refine lv_aload_n hx hb dX8_copyRow_2 rfl (lv_at hl 1 rfl) ?_
  refine x_alen hx hb B 5 (v := (196 : Int32)) (by decide) (fun _ => rfl) rfl (by decide) dX8_copyRow_3 ?_
  refine lv_icmp_ne (tgt := 16) hx hb dX8_copyRow_4 (by decide) (fun hc => absurd (by decide) hc) (fun hc => ?_)
  refine lv_aload_n hx hb dX8_copyRow_7 rfl (lv_at hl 0 rfl) ?_
  refine lv_iconst (v := (0 : Int32)) hx hb dX8_copyRow_8 (by decide) ?_
  refine lv_aload_n hx hb dX8_copyRow_9 rfl (lv_at hl 1 rfl) ?_
  refine lv_iconst (v := (0 : Int32)) hx hb dX8_copyRow_10 (by decide) ?_
  refine lv_aload_n hx hb dX8_copyRow_11 rfl (lv_at hl 0 rfl) ?_
  refine x_alen hx hb B 29 (v := (196 : Int32)) (by decide) (fun _ => rfl) rfl (by decide) dX8_copyRow_12 ?_
  obtain ⟨hg, hf⟩ := zg_some hf
  obtain ⟨g1, g2, g3, g4, g5⟩ := zcp_ok hg
  refine x_copyi hx hb (hml.trans hl.1.symm) hts hown (index := 415) (by decide +kernel) (by decide +kernel) (by decide +kernel) (by decide +kernel) B 29 5 (by decide) (by decide) (by decide) (fun _ => rfl) (fun _ => rfl) g1 g2 g3 g4 g5 (Nat.le_of_ble_eq_true rfl) (Nat.le_of_ble_eq_true rfl) dX8_copyRow_13 (fun H locs B => ?_)
  refine W.widen (k := 0) (n := 0) (Nat.le_of_ble_eq_true rfl) (Nat.le_of_ble_eq_true rfl) ?_
  exact x_vret hx hb hr hlocks B hf dX8_copyRow_16
def rm_X8_copyRow_30_6 : Room := { frames := 1, cells := 0, slots := 0, locals := 200 }
set_option maxHeartbeats 4000000 in
set_option maxRecDepth 100000 in
theorem c_X8_copyRow_30_6 (l : Launch) {G : zG} {ad : Nat → Nat} {σ σ' : zs} {r : Int32} (hf : f_X8_copyRow_30_6 σ  = some (r, σ')) : xMv l yX8_copyRow wsX8_copyRow rm_X8_copyRow_30_6 G ad σ [.ref (ad 30), .ref (ad 6)] σ' := by
  intro sz nb a g hs
  refine Met.ofW (cc := cX8_copyRow) (maxL := 2) (ret := none) (by decide) rfl ?_
  intro p e s m args below meth c s₁ B hml hv
  obtain ⟨rfl, hsz, hv⟩ := hv
  have hx := B.exec
  have hb := B.bytes
  have hr := B.returns
  have hts := atoms_spec (ws := wsX8_copyRow) B.pre
  have hown : s.vm.findClass RX8 = some m.cls := findClass_of_methodNamed B.named
  have hlocks := B.notSynchronized
  subst hsz
  have B := xB_start hs hv
  have hl := lv_entry ([.ref (ad 30), .ref (ad 6)]) (n := 2) (Nat.le_of_ble_eq_true rfl)
  rw [lg_entry_eq]
  generalize (lg_sl ([.ref (ad 30), .ref (ad 6)]) ++ List.replicate (2 - (lg_sl ([.ref (ad 30), .ref (ad 6)])).length) Slot.unset).toArray = ls at hl ⊢
  have hl : lv_has ls 2 [(0, .ref (ad 30)), (1, .ref (ad 6))] := hl
  generalize hAe : xA ad a s.heap.size = A at B ⊢
  unfold f_X8_copyRow_30_6 at hf
  refine lv_aload_n hx hb dX8_copyRow_0 rfl (lv_at hl 0 rfl) ?_
  refine x_alen hx hb B 30 (v := (28 : Int32)) (by decide) (fun _ => rfl) rfl (by decide) dX8_copyRow_1 ?_
  refine lv_aload_n hx hb dX8_copyRow_2 rfl (lv_at hl 1 rfl) ?_
  refine x_alen hx hb B 6 (v := (28 : Int32)) (by decide) (fun _ => rfl) rfl (by decide) dX8_copyRow_3 ?_
  refine lv_icmp_ne (tgt := 16) hx hb dX8_copyRow_4 (by decide) (fun hc => absurd (by decide) hc) (fun hc => ?_)
  refine lv_aload_n hx hb dX8_copyRow_7 rfl (lv_at hl 0 rfl) ?_
  refine lv_iconst (v := (0 : Int32)) hx hb dX8_copyRow_8 (by decide) ?_
  refine lv_aload_n hx hb dX8_copyRow_9 rfl (lv_at hl 1 rfl) ?_
  refine lv_iconst (v := (0 : Int32)) hx hb dX8_copyRow_10 (by decide) ?_
  refine lv_aload_n hx hb dX8_copyRow_11 rfl (lv_at hl 0 rfl) ?_
  refine x_alen hx hb B 30 (v := (28 : Int32)) (by decide) (fun _ => rfl) rfl (by decide) dX8_copyRow_12 ?_
  obtain ⟨hg, hf⟩ := zg_some hf
  obtain ⟨g1, g2, g3, g4, g5⟩ := zcp_ok hg
  refine x_copyi hx hb (hml.trans hl.1.symm) hts hown (index := 415) (by decide +kernel) (by decide +kernel) (by decide +kernel) (by decide +kernel) B 30 6 (by decide) (by decide) (by decide) (fun _ => rfl) (fun _ => rfl) g1 g2 g3 g4 g5 (Nat.le_of_ble_eq_true rfl) (Nat.le_of_ble_eq_true rfl) dX8_copyRow_13 (fun H locs B => ?_)
  refine W.widen (k := 0) (n := 0) (Nat.le_of_ble_eq_true rfl) (Nat.le_of_ble_eq_true rfl) ?_
  exact x_vret hx hb hr hlocks B hf dX8_copyRow_16
def rm_X8_copyRow_31_7 : Room := { frames := 1, cells := 0, slots := 0, locals := 200 }
set_option maxHeartbeats 4000000 in
set_option maxRecDepth 100000 in
theorem c_X8_copyRow_31_7 (l : Launch) {G : zG} {ad : Nat → Nat} {σ σ' : zs} {r : Int32} (hf : f_X8_copyRow_31_7 σ  = some (r, σ')) : xMv l yX8_copyRow wsX8_copyRow rm_X8_copyRow_31_7 G ad σ [.ref (ad 31), .ref (ad 7)] σ' := by
  intro sz nb a g hs
  refine Met.ofW (cc := cX8_copyRow) (maxL := 2) (ret := none) (by decide) rfl ?_
  intro p e s m args below meth c s₁ B hml hv
  obtain ⟨rfl, hsz, hv⟩ := hv
  have hx := B.exec
  have hb := B.bytes
  have hr := B.returns
  have hts := atoms_spec (ws := wsX8_copyRow) B.pre
  have hown : s.vm.findClass RX8 = some m.cls := findClass_of_methodNamed B.named
  have hlocks := B.notSynchronized
  subst hsz
  have B := xB_start hs hv
  have hl := lv_entry ([.ref (ad 31), .ref (ad 7)]) (n := 2) (Nat.le_of_ble_eq_true rfl)
  rw [lg_entry_eq]
  generalize (lg_sl ([.ref (ad 31), .ref (ad 7)]) ++ List.replicate (2 - (lg_sl ([.ref (ad 31), .ref (ad 7)])).length) Slot.unset).toArray = ls at hl ⊢
  have hl : lv_has ls 2 [(0, .ref (ad 31)), (1, .ref (ad 7))] := hl
  generalize hAe : xA ad a s.heap.size = A at B ⊢
  unfold f_X8_copyRow_31_7 at hf
  refine lv_aload_n hx hb dX8_copyRow_0 rfl (lv_at hl 0 rfl) ?_
  refine x_alen hx hb B 31 (v := (28 : Int32)) (by decide) (fun _ => rfl) rfl (by decide) dX8_copyRow_1 ?_
  refine lv_aload_n hx hb dX8_copyRow_2 rfl (lv_at hl 1 rfl) ?_
  refine x_alen hx hb B 7 (v := (28 : Int32)) (by decide) (fun _ => rfl) rfl (by decide) dX8_copyRow_3 ?_
  refine lv_icmp_ne (tgt := 16) hx hb dX8_copyRow_4 (by decide) (fun hc => absurd (by decide) hc) (fun hc => ?_)
  refine lv_aload_n hx hb dX8_copyRow_7 rfl (lv_at hl 0 rfl) ?_
  refine lv_iconst (v := (0 : Int32)) hx hb dX8_copyRow_8 (by decide) ?_
  refine lv_aload_n hx hb dX8_copyRow_9 rfl (lv_at hl 1 rfl) ?_
  refine lv_iconst (v := (0 : Int32)) hx hb dX8_copyRow_10 (by decide) ?_
  refine lv_aload_n hx hb dX8_copyRow_11 rfl (lv_at hl 0 rfl) ?_
  refine x_alen hx hb B 31 (v := (28 : Int32)) (by decide) (fun _ => rfl) rfl (by decide) dX8_copyRow_12 ?_
  obtain ⟨hg, hf⟩ := zg_some hf
  obtain ⟨g1, g2, g3, g4, g5⟩ := zcp_ok hg
  refine x_copyi hx hb (hml.trans hl.1.symm) hts hown (index := 415) (by decide +kernel) (by decide +kernel) (by decide +kernel) (by decide +kernel) B 31 7 (by decide) (by decide) (by decide) (fun _ => rfl) (fun _ => rfl) g1 g2 g3 g4 g5 (Nat.le_of_ble_eq_true rfl) (Nat.le_of_ble_eq_true rfl) dX8_copyRow_13 (fun H locs B => ?_)
  refine W.widen (k := 0) (n := 0) (Nat.le_of_ble_eq_true rfl) (Nat.le_of_ble_eq_true rfl) ?_
  exact x_vret hx hb hr hlocks B hf dX8_copyRow_16
def rm_X8_copyRow_32_8 : Room := { frames := 1, cells := 0, slots := 0, locals := 200 }
set_option maxHeartbeats 4000000 in
set_option maxRecDepth 100000 in
theorem c_X8_copyRow_32_8 (l : Launch) {G : zG} {ad : Nat → Nat} {σ σ' : zs} {r : Int32} (hf : f_X8_copyRow_32_8 σ  = some (r, σ')) : xMv l yX8_copyRow wsX8_copyRow rm_X8_copyRow_32_8 G ad σ [.ref (ad 32), .ref (ad 8)] σ' := by
  intro sz nb a g hs
  refine Met.ofW (cc := cX8_copyRow) (maxL := 2) (ret := none) (by decide) rfl ?_
  intro p e s m args below meth c s₁ B hml hv
  obtain ⟨rfl, hsz, hv⟩ := hv
  have hx := B.exec
  have hb := B.bytes
  have hr := B.returns
  have hts := atoms_spec (ws := wsX8_copyRow) B.pre
  have hown : s.vm.findClass RX8 = some m.cls := findClass_of_methodNamed B.named
  have hlocks := B.notSynchronized
  subst hsz
  have B := xB_start hs hv
  have hl := lv_entry ([.ref (ad 32), .ref (ad 8)]) (n := 2) (Nat.le_of_ble_eq_true rfl)
  rw [lg_entry_eq]
  generalize (lg_sl ([.ref (ad 32), .ref (ad 8)]) ++ List.replicate (2 - (lg_sl ([.ref (ad 32), .ref (ad 8)])).length) Slot.unset).toArray = ls at hl ⊢
  have hl : lv_has ls 2 [(0, .ref (ad 32)), (1, .ref (ad 8))] := hl
  generalize hAe : xA ad a s.heap.size = A at B ⊢
  unfold f_X8_copyRow_32_8 at hf
  refine lv_aload_n hx hb dX8_copyRow_0 rfl (lv_at hl 0 rfl) ?_
  refine x_alen hx hb B 32 (v := (28 : Int32)) (by decide) (fun _ => rfl) rfl (by decide) dX8_copyRow_1 ?_
  refine lv_aload_n hx hb dX8_copyRow_2 rfl (lv_at hl 1 rfl) ?_
  refine x_alen hx hb B 8 (v := (28 : Int32)) (by decide) (fun _ => rfl) rfl (by decide) dX8_copyRow_3 ?_
  refine lv_icmp_ne (tgt := 16) hx hb dX8_copyRow_4 (by decide) (fun hc => absurd (by decide) hc) (fun hc => ?_)
  refine lv_aload_n hx hb dX8_copyRow_7 rfl (lv_at hl 0 rfl) ?_
  refine lv_iconst (v := (0 : Int32)) hx hb dX8_copyRow_8 (by decide) ?_
  refine lv_aload_n hx hb dX8_copyRow_9 rfl (lv_at hl 1 rfl) ?_
  refine lv_iconst (v := (0 : Int32)) hx hb dX8_copyRow_10 (by decide) ?_
  refine lv_aload_n hx hb dX8_copyRow_11 rfl (lv_at hl 0 rfl) ?_
  refine x_alen hx hb B 32 (v := (28 : Int32)) (by decide) (fun _ => rfl) rfl (by decide) dX8_copyRow_12 ?_
  obtain ⟨hg, hf⟩ := zg_some hf
  obtain ⟨g1, g2, g3, g4, g5⟩ := zcp_ok hg
  refine x_copyi hx hb (hml.trans hl.1.symm) hts hown (index := 415) (by decide +kernel) (by decide +kernel) (by decide +kernel) (by decide +kernel) B 32 8 (by decide) (by decide) (by decide) (fun _ => rfl) (fun _ => rfl) g1 g2 g3 g4 g5 (Nat.le_of_ble_eq_true rfl) (Nat.le_of_ble_eq_true rfl) dX8_copyRow_13 (fun H locs B => ?_)
  refine W.widen (k := 0) (n := 0) (Nat.le_of_ble_eq_true rfl) (Nat.le_of_ble_eq_true rfl) ?_
  exact x_vret hx hb hr hlocks B hf dX8_copyRow_16
def rm_X8_copyRow_33_9 : Room := { frames := 1, cells := 0, slots := 0, locals := 200 }
set_option maxHeartbeats 4000000 in
set_option maxRecDepth 100000 in
theorem c_X8_copyRow_33_9 (l : Launch) {G : zG} {ad : Nat → Nat} {σ σ' : zs} {r : Int32} (hf : f_X8_copyRow_33_9 σ  = some (r, σ')) : xMv l yX8_copyRow wsX8_copyRow rm_X8_copyRow_33_9 G ad σ [.ref (ad 33), .ref (ad 9)] σ' := by
  intro sz nb a g hs
  refine Met.ofW (cc := cX8_copyRow) (maxL := 2) (ret := none) (by decide) rfl ?_
  intro p e s m args below meth c s₁ B hml hv
  obtain ⟨rfl, hsz, hv⟩ := hv
  have hx := B.exec
  have hb := B.bytes
  have hr := B.returns
  have hts := atoms_spec (ws := wsX8_copyRow) B.pre
  have hown : s.vm.findClass RX8 = some m.cls := findClass_of_methodNamed B.named
  have hlocks := B.notSynchronized
  subst hsz
  have B := xB_start hs hv
  have hl := lv_entry ([.ref (ad 33), .ref (ad 9)]) (n := 2) (Nat.le_of_ble_eq_true rfl)
  rw [lg_entry_eq]
  generalize (lg_sl ([.ref (ad 33), .ref (ad 9)]) ++ List.replicate (2 - (lg_sl ([.ref (ad 33), .ref (ad 9)])).length) Slot.unset).toArray = ls at hl ⊢
  have hl : lv_has ls 2 [(0, .ref (ad 33)), (1, .ref (ad 9))] := hl
  generalize hAe : xA ad a s.heap.size = A at B ⊢
  unfold f_X8_copyRow_33_9 at hf
  refine lv_aload_n hx hb dX8_copyRow_0 rfl (lv_at hl 0 rfl) ?_
  refine x_alen hx hb B 33 (v := (28 : Int32)) (by decide) (fun _ => rfl) rfl (by decide) dX8_copyRow_1 ?_
  refine lv_aload_n hx hb dX8_copyRow_2 rfl (lv_at hl 1 rfl) ?_
  refine x_alen hx hb B 9 (v := (28 : Int32)) (by decide) (fun _ => rfl) rfl (by decide) dX8_copyRow_3 ?_
  refine lv_icmp_ne (tgt := 16) hx hb dX8_copyRow_4 (by decide) (fun hc => absurd (by decide) hc) (fun hc => ?_)
  refine lv_aload_n hx hb dX8_copyRow_7 rfl (lv_at hl 0 rfl) ?_
  refine lv_iconst (v := (0 : Int32)) hx hb dX8_copyRow_8 (by decide) ?_
  refine lv_aload_n hx hb dX8_copyRow_9 rfl (lv_at hl 1 rfl) ?_
  refine lv_iconst (v := (0 : Int32)) hx hb dX8_copyRow_10 (by decide) ?_
  refine lv_aload_n hx hb dX8_copyRow_11 rfl (lv_at hl 0 rfl) ?_
  refine x_alen hx hb B 33 (v := (28 : Int32)) (by decide) (fun _ => rfl) rfl (by decide) dX8_copyRow_12 ?_
  obtain ⟨hg, hf⟩ := zg_some hf
  obtain ⟨g1, g2, g3, g4, g5⟩ := zcp_ok hg
  refine x_copyi hx hb (hml.trans hl.1.symm) hts hown (index := 415) (by decide +kernel) (by decide +kernel) (by decide +kernel) (by decide +kernel) B 33 9 (by decide) (by decide) (by decide) (fun _ => rfl) (fun _ => rfl) g1 g2 g3 g4 g5 (Nat.le_of_ble_eq_true rfl) (Nat.le_of_ble_eq_true rfl) dX8_copyRow_13 (fun H locs B => ?_)
  refine W.widen (k := 0) (n := 0) (Nat.le_of_ble_eq_true rfl) (Nat.le_of_ble_eq_true rfl) ?_
  exact x_vret hx hb hr hlocks B hf dX8_copyRow_16
def rm_X8_copyRow_34_10 : Room := { frames := 1, cells := 0, slots := 0, locals := 200 }
set_option maxHeartbeats 4000000 in
set_option maxRecDepth 100000 in
theorem c_X8_copyRow_34_10 (l : Launch) {G : zG} {ad : Nat → Nat} {σ σ' : zs} {r : Int32} (hf : f_X8_copyRow_34_10 σ  = some (r, σ')) : xMv l yX8_copyRow wsX8_copyRow rm_X8_copyRow_34_10 G ad σ [.ref (ad 34), .ref (ad 10)] σ' := by
  intro sz nb a g hs
  refine Met.ofW (cc := cX8_copyRow) (maxL := 2) (ret := none) (by decide) rfl ?_
  intro p e s m args below meth c s₁ B hml hv
  obtain ⟨rfl, hsz, hv⟩ := hv
  have hx := B.exec
  have hb := B.bytes
  have hr := B.returns
  have hts := atoms_spec (ws := wsX8_copyRow) B.pre
  have hown : s.vm.findClass RX8 = some m.cls := findClass_of_methodNamed B.named
  have hlocks := B.notSynchronized
  subst hsz
  have B := xB_start hs hv
  have hl := lv_entry ([.ref (ad 34), .ref (ad 10)]) (n := 2) (Nat.le_of_ble_eq_true rfl)
  rw [lg_entry_eq]
  generalize (lg_sl ([.ref (ad 34), .ref (ad 10)]) ++ List.replicate (2 - (lg_sl ([.ref (ad 34), .ref (ad 10)])).length) Slot.unset).toArray = ls at hl ⊢
  have hl : lv_has ls 2 [(0, .ref (ad 34)), (1, .ref (ad 10))] := hl
  generalize hAe : xA ad a s.heap.size = A at B ⊢
  unfold f_X8_copyRow_34_10 at hf
  refine lv_aload_n hx hb dX8_copyRow_0 rfl (lv_at hl 0 rfl) ?_
  refine x_alen hx hb B 34 (v := (112 : Int32)) (by decide) (fun _ => rfl) rfl (by decide) dX8_copyRow_1 ?_
  refine lv_aload_n hx hb dX8_copyRow_2 rfl (lv_at hl 1 rfl) ?_
  refine x_alen hx hb B 10 (v := (112 : Int32)) (by decide) (fun _ => rfl) rfl (by decide) dX8_copyRow_3 ?_
  refine lv_icmp_ne (tgt := 16) hx hb dX8_copyRow_4 (by decide) (fun hc => absurd (by decide) hc) (fun hc => ?_)
  refine lv_aload_n hx hb dX8_copyRow_7 rfl (lv_at hl 0 rfl) ?_
  refine lv_iconst (v := (0 : Int32)) hx hb dX8_copyRow_8 (by decide) ?_
  refine lv_aload_n hx hb dX8_copyRow_9 rfl (lv_at hl 1 rfl) ?_
  refine lv_iconst (v := (0 : Int32)) hx hb dX8_copyRow_10 (by decide) ?_
  refine lv_aload_n hx hb dX8_copyRow_11 rfl (lv_at hl 0 rfl) ?_
  refine x_alen hx hb B 34 (v := (112 : Int32)) (by decide) (fun _ => rfl) rfl (by decide) dX8_copyRow_12 ?_
  obtain ⟨hg, hf⟩ := zg_some hf
  obtain ⟨g1, g2, g3, g4, g5⟩ := zcp_ok hg
  refine x_copyi hx hb (hml.trans hl.1.symm) hts hown (index := 415) (by decide +kernel) (by decide +kernel) (by decide +kernel) (by decide +kernel) B 34 10 (by decide) (by decide) (by decide) (fun _ => rfl) (fun _ => rfl) g1 g2 g3 g4 g5 (Nat.le_of_ble_eq_true rfl) (Nat.le_of_ble_eq_true rfl) dX8_copyRow_13 (fun H locs B => ?_)
  refine W.widen (k := 0) (n := 0) (Nat.le_of_ble_eq_true rfl) (Nat.le_of_ble_eq_true rfl) ?_
  exact x_vret hx hb hr hlocks B hf dX8_copyRow_16
def rm_X8_copyRow_35_11 : Room := { frames := 1, cells := 0, slots := 0, locals := 200 }
set_option maxHeartbeats 4000000 in
set_option maxRecDepth 100000 in
theorem c_X8_copyRow_35_11 (l : Launch) {G : zG} {ad : Nat → Nat} {σ σ' : zs} {r : Int32} (hf : f_X8_copyRow_35_11 σ  = some (r, σ')) : xMv l yX8_copyRow wsX8_copyRow rm_X8_copyRow_35_11 G ad σ [.ref (ad 35), .ref (ad 11)] σ' := by
  intro sz nb a g hs
  refine Met.ofW (cc := cX8_copyRow) (maxL := 2) (ret := none) (by decide) rfl ?_
  intro p e s m args below meth c s₁ B hml hv
  obtain ⟨rfl, hsz, hv⟩ := hv
  have hx := B.exec
  have hb := B.bytes
  have hr := B.returns
  have hts := atoms_spec (ws := wsX8_copyRow) B.pre
  have hown : s.vm.findClass RX8 = some m.cls := findClass_of_methodNamed B.named
  have hlocks := B.notSynchronized
  subst hsz
  have B := xB_start hs hv
  have hl := lv_entry ([.ref (ad 35), .ref (ad 11)]) (n := 2) (Nat.le_of_ble_eq_true rfl)
  rw [lg_entry_eq]
  generalize (lg_sl ([.ref (ad 35), .ref (ad 11)]) ++ List.replicate (2 - (lg_sl ([.ref (ad 35), .ref (ad 11)])).length) Slot.unset).toArray = ls at hl ⊢
  have hl : lv_has ls 2 [(0, .ref (ad 35)), (1, .ref (ad 11))] := hl
  generalize hAe : xA ad a s.heap.size = A at B ⊢
  unfold f_X8_copyRow_35_11 at hf
  refine lv_aload_n hx hb dX8_copyRow_0 rfl (lv_at hl 0 rfl) ?_
  refine x_alen hx hb B 35 (v := (112 : Int32)) (by decide) (fun _ => rfl) rfl (by decide) dX8_copyRow_1 ?_
  refine lv_aload_n hx hb dX8_copyRow_2 rfl (lv_at hl 1 rfl) ?_
  refine x_alen hx hb B 11 (v := (112 : Int32)) (by decide) (fun _ => rfl) rfl (by decide) dX8_copyRow_3 ?_
  refine lv_icmp_ne (tgt := 16) hx hb dX8_copyRow_4 (by decide) (fun hc => absurd (by decide) hc) (fun hc => ?_)
  refine lv_aload_n hx hb dX8_copyRow_7 rfl (lv_at hl 0 rfl) ?_
  refine lv_iconst (v := (0 : Int32)) hx hb dX8_copyRow_8 (by decide) ?_
  refine lv_aload_n hx hb dX8_copyRow_9 rfl (lv_at hl 1 rfl) ?_
  refine lv_iconst (v := (0 : Int32)) hx hb dX8_copyRow_10 (by decide) ?_
  refine lv_aload_n hx hb dX8_copyRow_11 rfl (lv_at hl 0 rfl) ?_
  refine x_alen hx hb B 35 (v := (112 : Int32)) (by decide) (fun _ => rfl) rfl (by decide) dX8_copyRow_12 ?_
  obtain ⟨hg, hf⟩ := zg_some hf
  obtain ⟨g1, g2, g3, g4, g5⟩ := zcp_ok hg
  refine x_copyi hx hb (hml.trans hl.1.symm) hts hown (index := 415) (by decide +kernel) (by decide +kernel) (by decide +kernel) (by decide +kernel) B 35 11 (by decide) (by decide) (by decide) (fun _ => rfl) (fun _ => rfl) g1 g2 g3 g4 g5 (Nat.le_of_ble_eq_true rfl) (Nat.le_of_ble_eq_true rfl) dX8_copyRow_13 (fun H locs B => ?_)
  refine W.widen (k := 0) (n := 0) (Nat.le_of_ble_eq_true rfl) (Nat.le_of_ble_eq_true rfl) ?_
  exact x_vret hx hb hr hlocks B hf dX8_copyRow_16
def rm_X8_copyRow_36_12 : Room := { frames := 1, cells := 0, slots := 0, locals := 200 }
set_option maxHeartbeats 4000000 in
set_option maxRecDepth 100000 in
theorem c_X8_copyRow_36_12 (l : Launch) {G : zG} {ad : Nat → Nat} {σ σ' : zs} {r : Int32} (hf : f_X8_copyRow_36_12 σ  = some (r, σ')) : xMv l yX8_copyRow wsX8_copyRow rm_X8_copyRow_36_12 G ad σ [.ref (ad 36), .ref (ad 12)] σ' := by
  intro sz nb a g hs
  refine Met.ofW (cc := cX8_copyRow) (maxL := 2) (ret := none) (by decide) rfl ?_
  intro p e s m args below meth c s₁ B hml hv
  obtain ⟨rfl, hsz, hv⟩ := hv
  have hx := B.exec
  have hb := B.bytes
  have hr := B.returns
  have hts := atoms_spec (ws := wsX8_copyRow) B.pre
  have hown : s.vm.findClass RX8 = some m.cls := findClass_of_methodNamed B.named
  have hlocks := B.notSynchronized
  subst hsz
  have B := xB_start hs hv
  have hl := lv_entry ([.ref (ad 36), .ref (ad 12)]) (n := 2) (Nat.le_of_ble_eq_true rfl)
  rw [lg_entry_eq]
  generalize (lg_sl ([.ref (ad 36), .ref (ad 12)]) ++ List.replicate (2 - (lg_sl ([.ref (ad 36), .ref (ad 12)])).length) Slot.unset).toArray = ls at hl ⊢
  have hl : lv_has ls 2 [(0, .ref (ad 36)), (1, .ref (ad 12))] := hl
  generalize hAe : xA ad a s.heap.size = A at B ⊢
  unfold f_X8_copyRow_36_12 at hf
  refine lv_aload_n hx hb dX8_copyRow_0 rfl (lv_at hl 0 rfl) ?_
  refine x_alen hx hb B 36 (v := (112 : Int32)) (by decide) (fun _ => rfl) rfl (by decide) dX8_copyRow_1 ?_
  refine lv_aload_n hx hb dX8_copyRow_2 rfl (lv_at hl 1 rfl) ?_
  refine x_alen hx hb B 12 (v := (112 : Int32)) (by decide) (fun _ => rfl) rfl (by decide) dX8_copyRow_3 ?_
  refine lv_icmp_ne (tgt := 16) hx hb dX8_copyRow_4 (by decide) (fun hc => absurd (by decide) hc) (fun hc => ?_)
  refine lv_aload_n hx hb dX8_copyRow_7 rfl (lv_at hl 0 rfl) ?_
  refine lv_iconst (v := (0 : Int32)) hx hb dX8_copyRow_8 (by decide) ?_
  refine lv_aload_n hx hb dX8_copyRow_9 rfl (lv_at hl 1 rfl) ?_
  refine lv_iconst (v := (0 : Int32)) hx hb dX8_copyRow_10 (by decide) ?_
  refine lv_aload_n hx hb dX8_copyRow_11 rfl (lv_at hl 0 rfl) ?_
  refine x_alen hx hb B 36 (v := (112 : Int32)) (by decide) (fun _ => rfl) rfl (by decide) dX8_copyRow_12 ?_
  obtain ⟨hg, hf⟩ := zg_some hf
  obtain ⟨g1, g2, g3, g4, g5⟩ := zcp_ok hg
  refine x_copyi hx hb (hml.trans hl.1.symm) hts hown (index := 415) (by decide +kernel) (by decide +kernel) (by decide +kernel) (by decide +kernel) B 36 12 (by decide) (by decide) (by decide) (fun _ => rfl) (fun _ => rfl) g1 g2 g3 g4 g5 (Nat.le_of_ble_eq_true rfl) (Nat.le_of_ble_eq_true rfl) dX8_copyRow_13 (fun H locs B => ?_)
  refine W.widen (k := 0) (n := 0) (Nat.le_of_ble_eq_true rfl) (Nat.le_of_ble_eq_true rfl) ?_
  exact x_vret hx hb hr hlocks B hf dX8_copyRow_16
def rm_X7_copyFrom_26 : Room := { frames := 2, cells := 0, slots := 0, locals := 221 }
set_option maxHeartbeats 4000000 in
set_option maxRecDepth 100000 in
theorem c_X7_copyFrom_26 (l : Launch) {G : zG} {ad : Nat → Nat} {σ σ' : zs} {r : Int32} (hf : f_X7_copyFrom_26 σ  = some (r, σ')) : xMv l yX7_copyFrom wsX7_copyFrom rm_X7_copyFrom_26 G ad σ [.ref (ad 2), .ref (ad 26)] σ' := by
  intro sz nb a g hs
  refine Met.ofW (cc := cX7_copyFrom) (maxL := 2) (ret := none) (by decide) rfl ?_
  intro p e s m args below meth c s₁ B hml hv
  obtain ⟨rfl, hsz, hv⟩ := hv
  have hx := B.exec
  have hb := B.bytes
  have hr := B.returns
  have hts := atoms_spec (ws := wsX7_copyFrom) B.pre
  have hown : s.vm.findClass RX7 = some m.cls := findClass_of_methodNamed B.named
  have hlocks := B.notSynchronized
  subst hsz
  have B := xB_start hs hv
  have hinRX7 : ∀ w ∈ wsX70, w ∈ wsX7_copyFrom := by decide +kernel
  have hl := lv_entry ([.ref (ad 2), .ref (ad 26)]) (n := 2) (Nat.le_of_ble_eq_true rfl)
  rw [lg_entry_eq]
  generalize (lg_sl ([.ref (ad 2), .ref (ad 26)]) ++ List.replicate (2 - (lg_sl ([.ref (ad 2), .ref (ad 26)])).length) Slot.unset).toArray = ls at hl ⊢
  have hl : lv_has ls 2 [(0, .ref (ad 2)), (1, .ref (ad 26))] := hl
  generalize hAe : xA ad a s.heap.size = A at B ⊢
  unfold f_X7_copyFrom_26 at hf
  refine lv_aload_n hx hb dX7_copyFrom_0 rfl (lv_at hl 0 rfl) ?_
  refine lv_aload_n hx hb dX7_copyFrom_1 rfl (lv_at hl 1 rfl) ?_
  refine x_geti hx hb hts hinRX7 hown B 26 0 (by decide) (fun _ => rfl) rfl rfl (by decide) (by decide +kernel) rfl dX7_copyFrom_2 ?_
  refine x_puti hx hb hts hinRX7 hown tyX7 tyX7_ok nmX7 B 2 0 (by decide) (by decide) (fun _ => rfl) rfl rfl (by decide) (by decide +kernel) rfl rfl rfl rfl dX7_copyFrom_5 (fun H locs B => ?_)
  refine lv_aload_n hx hb dX7_copyFrom_8 rfl (lv_at hl 1 rfl) ?_
  refine x_getr hx hb hts hinRX7 hown B 26 1 27 (by decide) (by decide) (fun _ => rfl) rfl rfl (by decide) (by decide +kernel) rfl dX7_copyFrom_9 ?_
  refine lv_aload_n hx hb dX7_copyFrom_12 rfl (lv_at hl 0 rfl) ?_
  refine x_getr hx hb hts hinRX7 hown B 2 1 3 (by decide) (by decide) (fun _ => rfl) rfl rfl (by decide) (by decide +kernel) rfl dX7_copyFrom_13 ?_
  obtain ⟨r2, σ3, hu1, hf⟩ := zb_some hf
  refine x_v B (fun nb a g hs Bz => va_runSN (As := [.ref (ad 27), .ref (ad 3)]) (rest := []) ⟨hx, hb, hml, hown, hts⟩ (c_X8_copyRow_27_3 l hu1 _ nb a g hs) ⟨va_cnB 2 hts gX7_copyFrom_X8_copyRow_n53 rfl rfl rfl (x_nest B (q := (RX7, 53, yX8_copyRow)) (by decide +kernel)) (hts (.initialized RX8) (by decide +kernel)) (by decide +kernel) ⟨Nat.le_of_ble_eq_true rfl, Nat.le_of_ble_eq_true rfl⟩, hts (.static yX8_copyRow) (by decide +kernel), trivial⟩ (z_preS Bz) rfl rfl hl.1 rfl (lv_room (Nat.le_of_ble_eq_true rfl)) dX7_copyFrom_16 ⟨Nat.le_of_ble_eq_true rfl, Nat.le_of_ble_eq_true rfl⟩) (fun H locs B => ?_)
  refine lv_aload_n hx hb dX7_copyFrom_19 rfl (lv_at hl 1 rfl) ?_
  refine x_getr hx hb hts hinRX7 hown B 26 2 28 (by decide) (by decide) (fun _ => rfl) rfl rfl (by decide) (by decide +kernel) rfl dX7_copyFrom_20 ?_
  refine lv_aload_n hx hb dX7_copyFrom_23 rfl (lv_at hl 0 rfl) ?_
  refine x_getr hx hb hts hinRX7 hown B 2 2 4 (by decide) (by decide) (fun _ => rfl) rfl rfl (by decide) (by decide +kernel) rfl dX7_copyFrom_24 ?_
  obtain ⟨r5, σ6, hu4, hf⟩ := zb_some hf
  refine x_v B (fun nb a g hs Bz => va_runSN (As := [.ref (ad 28), .ref (ad 4)]) (rest := []) ⟨hx, hb, hml, hown, hts⟩ (c_X8_copyRow_28_4 l hu4 _ nb a g hs) ⟨va_cnB 2 hts gX7_copyFrom_X8_copyRow_n53 rfl rfl rfl (x_nest B (q := (RX7, 53, yX8_copyRow)) (by decide +kernel)) (hts (.initialized RX8) (by decide +kernel)) (by decide +kernel) ⟨Nat.le_of_ble_eq_true rfl, Nat.le_of_ble_eq_true rfl⟩, hts (.static yX8_copyRow) (by decide +kernel), trivial⟩ (z_preS Bz) rfl rfl hl.1 rfl (lv_room (Nat.le_of_ble_eq_true rfl)) dX7_copyFrom_27 ⟨Nat.le_of_ble_eq_true rfl, Nat.le_of_ble_eq_true rfl⟩) (fun H locs B => ?_)
  refine lv_aload_n hx hb dX7_copyFrom_30 rfl (lv_at hl 1 rfl) ?_
  refine x_getr hx hb hts hinRX7 hown B 26 3 29 (by decide) (by decide) (fun _ => rfl) rfl rfl (by decide) (by decide +kernel) rfl dX7_copyFrom_31 ?_
  refine lv_aload_n hx hb dX7_copyFrom_34 rfl (lv_at hl 0 rfl) ?_
  refine x_getr hx hb hts hinRX7 hown B 2 3 5 (by decide) (by decide) (fun _ => rfl) rfl rfl (by decide) (by decide +kernel) rfl dX7_copyFrom_35 ?_
  obtain ⟨r8, σ9, hu7, hf⟩ := zb_some hf
  refine x_v B (fun nb a g hs Bz => va_runSN (As := [.ref (ad 29), .ref (ad 5)]) (rest := []) ⟨hx, hb, hml, hown, hts⟩ (c_X8_copyRow_29_5 l hu7 _ nb a g hs) ⟨va_cnB 2 hts gX7_copyFrom_X8_copyRow_n53 rfl rfl rfl (x_nest B (q := (RX7, 53, yX8_copyRow)) (by decide +kernel)) (hts (.initialized RX8) (by decide +kernel)) (by decide +kernel) ⟨Nat.le_of_ble_eq_true rfl, Nat.le_of_ble_eq_true rfl⟩, hts (.static yX8_copyRow) (by decide +kernel), trivial⟩ (z_preS Bz) rfl rfl hl.1 rfl (lv_room (Nat.le_of_ble_eq_true rfl)) dX7_copyFrom_38 ⟨Nat.le_of_ble_eq_true rfl, Nat.le_of_ble_eq_true rfl⟩) (fun H locs B => ?_)
  refine lv_aload_n hx hb dX7_copyFrom_41 rfl (lv_at hl 1 rfl) ?_
  refine x_getr hx hb hts hinRX7 hown B 26 4 30 (by decide) (by decide) (fun _ => rfl) rfl rfl (by decide) (by decide +kernel) rfl dX7_copyFrom_42 ?_
  refine lv_aload_n hx hb dX7_copyFrom_45 rfl (lv_at hl 0 rfl) ?_
  refine x_getr hx hb hts hinRX7 hown B 2 4 6 (by decide) (by decide) (fun _ => rfl) rfl rfl (by decide) (by decide +kernel) rfl dX7_copyFrom_46 ?_
  obtain ⟨r11, σ12, hu10, hf⟩ := zb_some hf
  refine x_v B (fun nb a g hs Bz => va_runSN (As := [.ref (ad 30), .ref (ad 6)]) (rest := []) ⟨hx, hb, hml, hown, hts⟩ (c_X8_copyRow_30_6 l hu10 _ nb a g hs) ⟨va_cnB 2 hts gX7_copyFrom_X8_copyRow_n53 rfl rfl rfl (x_nest B (q := (RX7, 53, yX8_copyRow)) (by decide +kernel)) (hts (.initialized RX8) (by decide +kernel)) (by decide +kernel) ⟨Nat.le_of_ble_eq_true rfl, Nat.le_of_ble_eq_true rfl⟩, hts (.static yX8_copyRow) (by decide +kernel), trivial⟩ (z_preS Bz) rfl rfl hl.1 rfl (lv_room (Nat.le_of_ble_eq_true rfl)) dX7_copyFrom_49 ⟨Nat.le_of_ble_eq_true rfl, Nat.le_of_ble_eq_true rfl⟩) (fun H locs B => ?_)
  refine lv_aload_n hx hb dX7_copyFrom_52 rfl (lv_at hl 1 rfl) ?_
  refine x_getr hx hb hts hinRX7 hown B 26 5 31 (by decide) (by decide) (fun _ => rfl) rfl rfl (by decide) (by decide +kernel) rfl dX7_copyFrom_53 ?_
  refine lv_aload_n hx hb dX7_copyFrom_56 rfl (lv_at hl 0 rfl) ?_
  refine x_getr hx hb hts hinRX7 hown B 2 5 7 (by decide) (by decide) (fun _ => rfl) rfl rfl (by decide) (by decide +kernel) rfl dX7_copyFrom_57 ?_
  obtain ⟨r14, σ15, hu13, hf⟩ := zb_some hf
  refine x_v B (fun nb a g hs Bz => va_runSN (As := [.ref (ad 31), .ref (ad 7)]) (rest := []) ⟨hx, hb, hml, hown, hts⟩ (c_X8_copyRow_31_7 l hu13 _ nb a g hs) ⟨va_cnB 2 hts gX7_copyFrom_X8_copyRow_n53 rfl rfl rfl (x_nest B (q := (RX7, 53, yX8_copyRow)) (by decide +kernel)) (hts (.initialized RX8) (by decide +kernel)) (by decide +kernel) ⟨Nat.le_of_ble_eq_true rfl, Nat.le_of_ble_eq_true rfl⟩, hts (.static yX8_copyRow) (by decide +kernel), trivial⟩ (z_preS Bz) rfl rfl hl.1 rfl (lv_room (Nat.le_of_ble_eq_true rfl)) dX7_copyFrom_60 ⟨Nat.le_of_ble_eq_true rfl, Nat.le_of_ble_eq_true rfl⟩) (fun H locs B => ?_)
  refine lv_aload_n hx hb dX7_copyFrom_63 rfl (lv_at hl 1 rfl) ?_
  refine x_getr hx hb hts hinRX7 hown B 26 6 32 (by decide) (by decide) (fun _ => rfl) rfl rfl (by decide) (by decide +kernel) rfl dX7_copyFrom_64 ?_
  refine lv_aload_n hx hb dX7_copyFrom_67 rfl (lv_at hl 0 rfl) ?_
  refine x_getr hx hb hts hinRX7 hown B 2 6 8 (by decide) (by decide) (fun _ => rfl) rfl rfl (by decide) (by decide +kernel) rfl dX7_copyFrom_68 ?_
  obtain ⟨r17, σ18, hu16, hf⟩ := zb_some hf
  refine x_v B (fun nb a g hs Bz => va_runSN (As := [.ref (ad 32), .ref (ad 8)]) (rest := []) ⟨hx, hb, hml, hown, hts⟩ (c_X8_copyRow_32_8 l hu16 _ nb a g hs) ⟨va_cnB 2 hts gX7_copyFrom_X8_copyRow_n53 rfl rfl rfl (x_nest B (q := (RX7, 53, yX8_copyRow)) (by decide +kernel)) (hts (.initialized RX8) (by decide +kernel)) (by decide +kernel) ⟨Nat.le_of_ble_eq_true rfl, Nat.le_of_ble_eq_true rfl⟩, hts (.static yX8_copyRow) (by decide +kernel), trivial⟩ (z_preS Bz) rfl rfl hl.1 rfl (lv_room (Nat.le_of_ble_eq_true rfl)) dX7_copyFrom_71 ⟨Nat.le_of_ble_eq_true rfl, Nat.le_of_ble_eq_true rfl⟩) (fun H locs B => ?_)
  refine lv_aload_n hx hb dX7_copyFrom_74 rfl (lv_at hl 1 rfl) ?_
  refine x_getr hx hb hts hinRX7 hown B 26 7 33 (by decide) (by decide) (fun _ => rfl) rfl rfl (by decide) (by decide +kernel) rfl dX7_copyFrom_75 ?_
  refine lv_aload_n hx hb dX7_copyFrom_78 rfl (lv_at hl 0 rfl) ?_
  refine x_getr hx hb hts hinRX7 hown B 2 7 9 (by decide) (by decide) (fun _ => rfl) rfl rfl (by decide) (by decide +kernel) rfl dX7_copyFrom_79 ?_
  obtain ⟨r20, σ21, hu19, hf⟩ := zb_some hf
  refine x_v B (fun nb a g hs Bz => va_runSN (As := [.ref (ad 33), .ref (ad 9)]) (rest := []) ⟨hx, hb, hml, hown, hts⟩ (c_X8_copyRow_33_9 l hu19 _ nb a g hs) ⟨va_cnB 2 hts gX7_copyFrom_X8_copyRow_n53 rfl rfl rfl (x_nest B (q := (RX7, 53, yX8_copyRow)) (by decide +kernel)) (hts (.initialized RX8) (by decide +kernel)) (by decide +kernel) ⟨Nat.le_of_ble_eq_true rfl, Nat.le_of_ble_eq_true rfl⟩, hts (.static yX8_copyRow) (by decide +kernel), trivial⟩ (z_preS Bz) rfl rfl hl.1 rfl (lv_room (Nat.le_of_ble_eq_true rfl)) dX7_copyFrom_82 ⟨Nat.le_of_ble_eq_true rfl, Nat.le_of_ble_eq_true rfl⟩) (fun H locs B => ?_)
  refine lv_aload_n hx hb dX7_copyFrom_85 rfl (lv_at hl 1 rfl) ?_
  refine x_getr hx hb hts hinRX7 hown B 26 8 34 (by decide) (by decide) (fun _ => rfl) rfl rfl (by decide) (by decide +kernel) rfl dX7_copyFrom_86 ?_
  refine lv_aload_n hx hb dX7_copyFrom_89 rfl (lv_at hl 0 rfl) ?_
  refine x_getr hx hb hts hinRX7 hown B 2 8 10 (by decide) (by decide) (fun _ => rfl) rfl rfl (by decide) (by decide +kernel) rfl dX7_copyFrom_90 ?_
  obtain ⟨r23, σ24, hu22, hf⟩ := zb_some hf
  refine x_v B (fun nb a g hs Bz => va_runSN (As := [.ref (ad 34), .ref (ad 10)]) (rest := []) ⟨hx, hb, hml, hown, hts⟩ (c_X8_copyRow_34_10 l hu22 _ nb a g hs) ⟨va_cnB 2 hts gX7_copyFrom_X8_copyRow_n53 rfl rfl rfl (x_nest B (q := (RX7, 53, yX8_copyRow)) (by decide +kernel)) (hts (.initialized RX8) (by decide +kernel)) (by decide +kernel) ⟨Nat.le_of_ble_eq_true rfl, Nat.le_of_ble_eq_true rfl⟩, hts (.static yX8_copyRow) (by decide +kernel), trivial⟩ (z_preS Bz) rfl rfl hl.1 rfl (lv_room (Nat.le_of_ble_eq_true rfl)) dX7_copyFrom_93 ⟨Nat.le_of_ble_eq_true rfl, Nat.le_of_ble_eq_true rfl⟩) (fun H locs B => ?_)
  refine lv_aload_n hx hb dX7_copyFrom_96 rfl (lv_at hl 1 rfl) ?_
  refine x_getr hx hb hts hinRX7 hown B 26 9 35 (by decide) (by decide) (fun _ => rfl) rfl rfl (by decide) (by decide +kernel) rfl dX7_copyFrom_97 ?_
  refine lv_aload_n hx hb dX7_copyFrom_100 rfl (lv_at hl 0 rfl) ?_
  refine x_getr hx hb hts hinRX7 hown B 2 9 11 (by decide) (by decide) (fun _ => rfl) rfl rfl (by decide) (by decide +kernel) rfl dX7_copyFrom_101 ?_
  obtain ⟨r26, σ27, hu25, hf⟩ := zb_some hf
  refine x_v B (fun nb a g hs Bz => va_runSN (As := [.ref (ad 35), .ref (ad 11)]) (rest := []) ⟨hx, hb, hml, hown, hts⟩ (c_X8_copyRow_35_11 l hu25 _ nb a g hs) ⟨va_cnB 2 hts gX7_copyFrom_X8_copyRow_n53 rfl rfl rfl (x_nest B (q := (RX7, 53, yX8_copyRow)) (by decide +kernel)) (hts (.initialized RX8) (by decide +kernel)) (by decide +kernel) ⟨Nat.le_of_ble_eq_true rfl, Nat.le_of_ble_eq_true rfl⟩, hts (.static yX8_copyRow) (by decide +kernel), trivial⟩ (z_preS Bz) rfl rfl hl.1 rfl (lv_room (Nat.le_of_ble_eq_true rfl)) dX7_copyFrom_104 ⟨Nat.le_of_ble_eq_true rfl, Nat.le_of_ble_eq_true rfl⟩) (fun H locs B => ?_)
  refine lv_aload_n hx hb dX7_copyFrom_107 rfl (lv_at hl 1 rfl) ?_
  refine x_getr hx hb hts hinRX7 hown B 26 10 36 (by decide) (by decide) (fun _ => rfl) rfl rfl (by decide) (by decide +kernel) rfl dX7_copyFrom_108 ?_
  refine lv_aload_n hx hb dX7_copyFrom_111 rfl (lv_at hl 0 rfl) ?_
  refine x_getr hx hb hts hinRX7 hown B 2 10 12 (by decide) (by decide) (fun _ => rfl) rfl rfl (by decide) (by decide +kernel) rfl dX7_copyFrom_112 ?_
  obtain ⟨r29, σ30, hu28, hf⟩ := zb_some hf
  refine x_v B (fun nb a g hs Bz => va_runSN (As := [.ref (ad 36), .ref (ad 12)]) (rest := []) ⟨hx, hb, hml, hown, hts⟩ (c_X8_copyRow_36_12 l hu28 _ nb a g hs) ⟨va_cnB 2 hts gX7_copyFrom_X8_copyRow_n53 rfl rfl rfl (x_nest B (q := (RX7, 53, yX8_copyRow)) (by decide +kernel)) (hts (.initialized RX8) (by decide +kernel)) (by decide +kernel) ⟨Nat.le_of_ble_eq_true rfl, Nat.le_of_ble_eq_true rfl⟩, hts (.static yX8_copyRow) (by decide +kernel), trivial⟩ (z_preS Bz) rfl rfl hl.1 rfl (lv_room (Nat.le_of_ble_eq_true rfl)) dX7_copyFrom_115 ⟨Nat.le_of_ble_eq_true rfl, Nat.le_of_ble_eq_true rfl⟩) (fun H locs B => ?_)
  refine W.widen (k := 0) (n := 0) (Nat.le_of_ble_eq_true rfl) (Nat.le_of_ble_eq_true rfl) ?_
  exact x_vret hx hb hr hlocks B hf dX7_copyFrom_118
def rm_X8_copyRow_39_15 : Room := { frames := 1, cells := 0, slots := 0, locals := 200 }
set_option maxHeartbeats 4000000 in
set_option maxRecDepth 100000 in
theorem c_X8_copyRow_39_15 (l : Launch) {G : zG} {ad : Nat → Nat} {σ σ' : zs} {r : Int32} (hf : f_X8_copyRow_39_15 σ  = some (r, σ')) : xMv l yX8_copyRow wsX8_copyRow rm_X8_copyRow_39_15 G ad σ [.ref (ad 39), .ref (ad 15)] σ' := by
  intro sz nb a g hs
  refine Met.ofW (cc := cX8_copyRow) (maxL := 2) (ret := none) (by decide) rfl ?_
  intro p e s m args below meth c s₁ B hml hv
  obtain ⟨rfl, hsz, hv⟩ := hv
  have hx := B.exec
  have hb := B.bytes
  have hr := B.returns
  have hts := atoms_spec (ws := wsX8_copyRow) B.pre
  have hown : s.vm.findClass RX8 = some m.cls := findClass_of_methodNamed B.named
  have hlocks := B.notSynchronized
  subst hsz
  have B := xB_start hs hv
  have hl := lv_entry ([.ref (ad 39), .ref (ad 15)]) (n := 2) (Nat.le_of_ble_eq_true rfl)
  rw [lg_entry_eq]
  generalize (lg_sl ([.ref (ad 39), .ref (ad 15)]) ++ List.replicate (2 - (lg_sl ([.ref (ad 39), .ref (ad 15)])).length) Slot.unset).toArray = ls at hl ⊢
  have hl : lv_has ls 2 [(0, .ref (ad 39)), (1, .ref (ad 15))] := hl
  generalize hAe : xA ad a s.heap.size = A at B ⊢
  unfold f_X8_copyRow_39_15 at hf
  refine lv_aload_n hx hb dX8_copyRow_0 rfl (lv_at hl 0 rfl) ?_
  refine x_alen hx hb B 39 (v := (4 : Int32)) (by decide) (fun _ => rfl) rfl (by decide) dX8_copyRow_1 ?_
  refine lv_aload_n hx hb dX8_copyRow_2 rfl (lv_at hl 1 rfl) ?_
  refine x_alen hx hb B 15 (v := (4 : Int32)) (by decide) (fun _ => rfl) rfl (by decide) dX8_copyRow_3 ?_
  refine lv_icmp_ne (tgt := 16) hx hb dX8_copyRow_4 (by decide) (fun hc => absurd (by decide) hc) (fun hc => ?_)
  refine lv_aload_n hx hb dX8_copyRow_7 rfl (lv_at hl 0 rfl) ?_
  refine lv_iconst (v := (0 : Int32)) hx hb dX8_copyRow_8 (by decide) ?_
  refine lv_aload_n hx hb dX8_copyRow_9 rfl (lv_at hl 1 rfl) ?_
  refine lv_iconst (v := (0 : Int32)) hx hb dX8_copyRow_10 (by decide) ?_
  refine lv_aload_n hx hb dX8_copyRow_11 rfl (lv_at hl 0 rfl) ?_
  refine x_alen hx hb B 39 (v := (4 : Int32)) (by decide) (fun _ => rfl) rfl (by decide) dX8_copyRow_12 ?_
  obtain ⟨hg, hf⟩ := zg_some hf
  obtain ⟨g1, g2, g3, g4, g5⟩ := zcp_ok hg
  refine x_copyi hx hb (hml.trans hl.1.symm) hts hown (index := 415) (by decide +kernel) (by decide +kernel) (by decide +kernel) (by decide +kernel) B 39 15 (by decide) (by decide) (by decide) (fun _ => rfl) (fun _ => rfl) g1 g2 g3 g4 g5 (Nat.le_of_ble_eq_true rfl) (Nat.le_of_ble_eq_true rfl) dX8_copyRow_13 (fun H locs B => ?_)
  refine W.widen (k := 0) (n := 0) (Nat.le_of_ble_eq_true rfl) (Nat.le_of_ble_eq_true rfl) ?_
  exact x_vret hx hb hr hlocks B hf dX8_copyRow_16
def rm_X8_copyRow_40_16 : Room := { frames := 1, cells := 0, slots := 0, locals := 200 }
set_option maxHeartbeats 4000000 in
set_option maxRecDepth 100000 in
theorem c_X8_copyRow_40_16 (l : Launch) {G : zG} {ad : Nat → Nat} {σ σ' : zs} {r : Int32} (hf : f_X8_copyRow_40_16 σ  = some (r, σ')) : xMv l yX8_copyRow wsX8_copyRow rm_X8_copyRow_40_16 G ad σ [.ref (ad 40), .ref (ad 16)] σ' := by
  intro sz nb a g hs
  refine Met.ofW (cc := cX8_copyRow) (maxL := 2) (ret := none) (by decide) rfl ?_
  intro p e s m args below meth c s₁ B hml hv
  obtain ⟨rfl, hsz, hv⟩ := hv
  have hx := B.exec
  have hb := B.bytes
  have hr := B.returns
  have hts := atoms_spec (ws := wsX8_copyRow) B.pre
  have hown : s.vm.findClass RX8 = some m.cls := findClass_of_methodNamed B.named
  have hlocks := B.notSynchronized
  subst hsz
  have B := xB_start hs hv
  have hl := lv_entry ([.ref (ad 40), .ref (ad 16)]) (n := 2) (Nat.le_of_ble_eq_true rfl)
  rw [lg_entry_eq]
  generalize (lg_sl ([.ref (ad 40), .ref (ad 16)]) ++ List.replicate (2 - (lg_sl ([.ref (ad 40), .ref (ad 16)])).length) Slot.unset).toArray = ls at hl ⊢
  have hl : lv_has ls 2 [(0, .ref (ad 40)), (1, .ref (ad 16))] := hl
  generalize hAe : xA ad a s.heap.size = A at B ⊢
  unfold f_X8_copyRow_40_16 at hf
  refine lv_aload_n hx hb dX8_copyRow_0 rfl (lv_at hl 0 rfl) ?_
  refine x_alen hx hb B 40 (v := (4 : Int32)) (by decide) (fun _ => rfl) rfl (by decide) dX8_copyRow_1 ?_
  refine lv_aload_n hx hb dX8_copyRow_2 rfl (lv_at hl 1 rfl) ?_
  refine x_alen hx hb B 16 (v := (4 : Int32)) (by decide) (fun _ => rfl) rfl (by decide) dX8_copyRow_3 ?_
  refine lv_icmp_ne (tgt := 16) hx hb dX8_copyRow_4 (by decide) (fun hc => absurd (by decide) hc) (fun hc => ?_)
  refine lv_aload_n hx hb dX8_copyRow_7 rfl (lv_at hl 0 rfl) ?_
  refine lv_iconst (v := (0 : Int32)) hx hb dX8_copyRow_8 (by decide) ?_
  refine lv_aload_n hx hb dX8_copyRow_9 rfl (lv_at hl 1 rfl) ?_
  refine lv_iconst (v := (0 : Int32)) hx hb dX8_copyRow_10 (by decide) ?_
  refine lv_aload_n hx hb dX8_copyRow_11 rfl (lv_at hl 0 rfl) ?_
  refine x_alen hx hb B 40 (v := (4 : Int32)) (by decide) (fun _ => rfl) rfl (by decide) dX8_copyRow_12 ?_
  obtain ⟨hg, hf⟩ := zg_some hf
  obtain ⟨g1, g2, g3, g4, g5⟩ := zcp_ok hg
  refine x_copyi hx hb (hml.trans hl.1.symm) hts hown (index := 415) (by decide +kernel) (by decide +kernel) (by decide +kernel) (by decide +kernel) B 40 16 (by decide) (by decide) (by decide) (fun _ => rfl) (fun _ => rfl) g1 g2 g3 g4 g5 (Nat.le_of_ble_eq_true rfl) (Nat.le_of_ble_eq_true rfl) dX8_copyRow_13 (fun H locs B => ?_)
  refine W.widen (k := 0) (n := 0) (Nat.le_of_ble_eq_true rfl) (Nat.le_of_ble_eq_true rfl) ?_
  exact x_vret hx hb hr hlocks B hf dX8_copyRow_16
def rm_X8_copyRow_41_17 : Room := { frames := 1, cells := 0, slots := 0, locals := 200 }
set_option maxHeartbeats 4000000 in
set_option maxRecDepth 100000 in
theorem c_X8_copyRow_41_17 (l : Launch) {G : zG} {ad : Nat → Nat} {σ σ' : zs} {r : Int32} (hf : f_X8_copyRow_41_17 σ  = some (r, σ')) : xMv l yX8_copyRow wsX8_copyRow rm_X8_copyRow_41_17 G ad σ [.ref (ad 41), .ref (ad 17)] σ' := by
  intro sz nb a g hs
  refine Met.ofW (cc := cX8_copyRow) (maxL := 2) (ret := none) (by decide) rfl ?_
  intro p e s m args below meth c s₁ B hml hv
  obtain ⟨rfl, hsz, hv⟩ := hv
  have hx := B.exec
  have hb := B.bytes
  have hr := B.returns
  have hts := atoms_spec (ws := wsX8_copyRow) B.pre
  have hown : s.vm.findClass RX8 = some m.cls := findClass_of_methodNamed B.named
  have hlocks := B.notSynchronized
  subst hsz
  have B := xB_start hs hv
  have hl := lv_entry ([.ref (ad 41), .ref (ad 17)]) (n := 2) (Nat.le_of_ble_eq_true rfl)
  rw [lg_entry_eq]
  generalize (lg_sl ([.ref (ad 41), .ref (ad 17)]) ++ List.replicate (2 - (lg_sl ([.ref (ad 41), .ref (ad 17)])).length) Slot.unset).toArray = ls at hl ⊢
  have hl : lv_has ls 2 [(0, .ref (ad 41)), (1, .ref (ad 17))] := hl
  generalize hAe : xA ad a s.heap.size = A at B ⊢
  unfold f_X8_copyRow_41_17 at hf
  refine lv_aload_n hx hb dX8_copyRow_0 rfl (lv_at hl 0 rfl) ?_
  refine x_alen hx hb B 41 (v := (12 : Int32)) (by decide) (fun _ => rfl) rfl (by decide) dX8_copyRow_1 ?_
  refine lv_aload_n hx hb dX8_copyRow_2 rfl (lv_at hl 1 rfl) ?_
  refine x_alen hx hb B 17 (v := (12 : Int32)) (by decide) (fun _ => rfl) rfl (by decide) dX8_copyRow_3 ?_
  refine lv_icmp_ne (tgt := 16) hx hb dX8_copyRow_4 (by decide) (fun hc => absurd (by decide) hc) (fun hc => ?_)
  refine lv_aload_n hx hb dX8_copyRow_7 rfl (lv_at hl 0 rfl) ?_
  refine lv_iconst (v := (0 : Int32)) hx hb dX8_copyRow_8 (by decide) ?_
  refine lv_aload_n hx hb dX8_copyRow_9 rfl (lv_at hl 1 rfl) ?_
  refine lv_iconst (v := (0 : Int32)) hx hb dX8_copyRow_10 (by decide) ?_
  refine lv_aload_n hx hb dX8_copyRow_11 rfl (lv_at hl 0 rfl) ?_
  refine x_alen hx hb B 41 (v := (12 : Int32)) (by decide) (fun _ => rfl) rfl (by decide) dX8_copyRow_12 ?_
  obtain ⟨hg, hf⟩ := zg_some hf
  obtain ⟨g1, g2, g3, g4, g5⟩ := zcp_ok hg
  refine x_copyi hx hb (hml.trans hl.1.symm) hts hown (index := 415) (by decide +kernel) (by decide +kernel) (by decide +kernel) (by decide +kernel) B 41 17 (by decide) (by decide) (by decide) (fun _ => rfl) (fun _ => rfl) g1 g2 g3 g4 g5 (Nat.le_of_ble_eq_true rfl) (Nat.le_of_ble_eq_true rfl) dX8_copyRow_13 (fun H locs B => ?_)
  refine W.widen (k := 0) (n := 0) (Nat.le_of_ble_eq_true rfl) (Nat.le_of_ble_eq_true rfl) ?_
  exact x_vret hx hb hr hlocks B hf dX8_copyRow_16
def rm_X8_copyRow_42_18 : Room := { frames := 1, cells := 0, slots := 0, locals := 200 }
set_option maxHeartbeats 4000000 in
set_option maxRecDepth 100000 in
theorem c_X8_copyRow_42_18 (l : Launch) {G : zG} {ad : Nat → Nat} {σ σ' : zs} {r : Int32} (hf : f_X8_copyRow_42_18 σ  = some (r, σ')) : xMv l yX8_copyRow wsX8_copyRow rm_X8_copyRow_42_18 G ad σ [.ref (ad 42), .ref (ad 18)] σ' := by
  intro sz nb a g hs
  refine Met.ofW (cc := cX8_copyRow) (maxL := 2) (ret := none) (by decide) rfl ?_
  intro p e s m args below meth c s₁ B hml hv
  obtain ⟨rfl, hsz, hv⟩ := hv
  have hx := B.exec
  have hb := B.bytes
  have hr := B.returns
  have hts := atoms_spec (ws := wsX8_copyRow) B.pre
  have hown : s.vm.findClass RX8 = some m.cls := findClass_of_methodNamed B.named
  have hlocks := B.notSynchronized
  subst hsz
  have B := xB_start hs hv
  have hl := lv_entry ([.ref (ad 42), .ref (ad 18)]) (n := 2) (Nat.le_of_ble_eq_true rfl)
  rw [lg_entry_eq]
  generalize (lg_sl ([.ref (ad 42), .ref (ad 18)]) ++ List.replicate (2 - (lg_sl ([.ref (ad 42), .ref (ad 18)])).length) Slot.unset).toArray = ls at hl ⊢
  have hl : lv_has ls 2 [(0, .ref (ad 42)), (1, .ref (ad 18))] := hl
  generalize hAe : xA ad a s.heap.size = A at B ⊢
  unfold f_X8_copyRow_42_18 at hf
  refine lv_aload_n hx hb dX8_copyRow_0 rfl (lv_at hl 0 rfl) ?_
  refine x_alen hx hb B 42 (v := (12 : Int32)) (by decide) (fun _ => rfl) rfl (by decide) dX8_copyRow_1 ?_
  refine lv_aload_n hx hb dX8_copyRow_2 rfl (lv_at hl 1 rfl) ?_
  refine x_alen hx hb B 18 (v := (12 : Int32)) (by decide) (fun _ => rfl) rfl (by decide) dX8_copyRow_3 ?_
  refine lv_icmp_ne (tgt := 16) hx hb dX8_copyRow_4 (by decide) (fun hc => absurd (by decide) hc) (fun hc => ?_)
  refine lv_aload_n hx hb dX8_copyRow_7 rfl (lv_at hl 0 rfl) ?_
  refine lv_iconst (v := (0 : Int32)) hx hb dX8_copyRow_8 (by decide) ?_
  refine lv_aload_n hx hb dX8_copyRow_9 rfl (lv_at hl 1 rfl) ?_
  refine lv_iconst (v := (0 : Int32)) hx hb dX8_copyRow_10 (by decide) ?_
  refine lv_aload_n hx hb dX8_copyRow_11 rfl (lv_at hl 0 rfl) ?_
  refine x_alen hx hb B 42 (v := (12 : Int32)) (by decide) (fun _ => rfl) rfl (by decide) dX8_copyRow_12 ?_
  obtain ⟨hg, hf⟩ := zg_some hf
  obtain ⟨g1, g2, g3, g4, g5⟩ := zcp_ok hg
  refine x_copyi hx hb (hml.trans hl.1.symm) hts hown (index := 415) (by decide +kernel) (by decide +kernel) (by decide +kernel) (by decide +kernel) B 42 18 (by decide) (by decide) (by decide) (fun _ => rfl) (fun _ => rfl) g1 g2 g3 g4 g5 (Nat.le_of_ble_eq_true rfl) (Nat.le_of_ble_eq_true rfl) dX8_copyRow_13 (fun H locs B => ?_)
  refine W.widen (k := 0) (n := 0) (Nat.le_of_ble_eq_true rfl) (Nat.le_of_ble_eq_true rfl) ?_
  exact x_vret hx hb hr hlocks B hf dX8_copyRow_16
def rm_X8_copyRow_43_19 : Room := { frames := 1, cells := 0, slots := 0, locals := 200 }
set_option maxHeartbeats 4000000 in
set_option maxRecDepth 100000 in
theorem c_X8_copyRow_43_19 (l : Launch) {G : zG} {ad : Nat → Nat} {σ σ' : zs} {r : Int32} (hf : f_X8_copyRow_43_19 σ  = some (r, σ')) : xMv l yX8_copyRow wsX8_copyRow rm_X8_copyRow_43_19 G ad σ [.ref (ad 43), .ref (ad 19)] σ' := by
  intro sz nb a g hs
  refine Met.ofW (cc := cX8_copyRow) (maxL := 2) (ret := none) (by decide) rfl ?_
  intro p e s m args below meth c s₁ B hml hv
  obtain ⟨rfl, hsz, hv⟩ := hv
  have hx := B.exec
  have hb := B.bytes
  have hr := B.returns
  have hts := atoms_spec (ws := wsX8_copyRow) B.pre
  have hown : s.vm.findClass RX8 = some m.cls := findClass_of_methodNamed B.named
  have hlocks := B.notSynchronized
  subst hsz
  have B := xB_start hs hv
  have hl := lv_entry ([.ref (ad 43), .ref (ad 19)]) (n := 2) (Nat.le_of_ble_eq_true rfl)
  rw [lg_entry_eq]
  generalize (lg_sl ([.ref (ad 43), .ref (ad 19)]) ++ List.replicate (2 - (lg_sl ([.ref (ad 43), .ref (ad 19)])).length) Slot.unset).toArray = ls at hl ⊢
  have hl : lv_has ls 2 [(0, .ref (ad 43)), (1, .ref (ad 19))] := hl
  generalize hAe : xA ad a s.heap.size = A at B ⊢
  unfold f_X8_copyRow_43_19 at hf
  refine lv_aload_n hx hb dX8_copyRow_0 rfl (lv_at hl 0 rfl) ?_
  refine x_alen hx hb B 43 (v := (12 : Int32)) (by decide) (fun _ => rfl) rfl (by decide) dX8_copyRow_1 ?_
  refine lv_aload_n hx hb dX8_copyRow_2 rfl (lv_at hl 1 rfl) ?_
  refine x_alen hx hb B 19 (v := (12 : Int32)) (by decide) (fun _ => rfl) rfl (by decide) dX8_copyRow_3 ?_
  refine lv_icmp_ne (tgt := 16) hx hb dX8_copyRow_4 (by decide) (fun hc => absurd (by decide) hc) (fun hc => ?_)
  refine lv_aload_n hx hb dX8_copyRow_7 rfl (lv_at hl 0 rfl) ?_
  refine lv_iconst (v := (0 : Int32)) hx hb dX8_copyRow_8 (by decide) ?_
  refine lv_aload_n hx hb dX8_copyRow_9 rfl (lv_at hl 1 rfl) ?_
  refine lv_iconst (v := (0 : Int32)) hx hb dX8_copyRow_10 (by decide) ?_
  refine lv_aload_n hx hb dX8_copyRow_11 rfl (lv_at hl 0 rfl) ?_
  refine x_alen hx hb B 43 (v := (12 : Int32)) (by decide) (fun _ => rfl) rfl (by decide) dX8_copyRow_12 ?_
  obtain ⟨hg, hf⟩ := zg_some hf
  obtain ⟨g1, g2, g3, g4, g5⟩ := zcp_ok hg
  refine x_copyi hx hb (hml.trans hl.1.symm) hts hown (index := 415) (by decide +kernel) (by decide +kernel) (by decide +kernel) (by decide +kernel) B 43 19 (by decide) (by decide) (by decide) (fun _ => rfl) (fun _ => rfl) g1 g2 g3 g4 g5 (Nat.le_of_ble_eq_true rfl) (Nat.le_of_ble_eq_true rfl) dX8_copyRow_13 (fun H locs B => ?_)
  refine W.widen (k := 0) (n := 0) (Nat.le_of_ble_eq_true rfl) (Nat.le_of_ble_eq_true rfl) ?_
  exact x_vret hx hb hr hlocks B hf dX8_copyRow_16
def rm_X0_copyFrom_38 : Room := { frames := 2, cells := 0, slots := 0, locals := 221 }
set_option maxHeartbeats 4000000 in
set_option maxRecDepth 100000 in
theorem c_X0_copyFrom_38 (l : Launch) {G : zG} {ad : Nat → Nat} {σ σ' : zs} {r : Int32} (hf : f_X0_copyFrom_38 σ  = some (r, σ')) : xMv l yX0_copyFrom wsX0_copyFrom rm_X0_copyFrom_38 G ad σ [.ref (ad 14), .ref (ad 38)] σ' := by
  intro sz nb a g hs
  refine Met.ofW (cc := cX0_copyFrom) (maxL := 2) (ret := none) (by decide) rfl ?_
  intro p e s m args below meth c s₁ B hml hv
  obtain ⟨rfl, hsz, hv⟩ := hv
  have hx := B.exec
  have hb := B.bytes
  have hr := B.returns
  have hts := atoms_spec (ws := wsX0_copyFrom) B.pre
  have hown : s.vm.findClass RX0 = some m.cls := findClass_of_methodNamed B.named
  have hlocks := B.notSynchronized
  subst hsz
  have B := xB_start hs hv
  have hinRX0 : ∀ w ∈ wsX00, w ∈ wsX0_copyFrom := by decide +kernel
  have hl := lv_entry ([.ref (ad 14), .ref (ad 38)]) (n := 2) (Nat.le_of_ble_eq_true rfl)
  rw [lg_entry_eq]
  generalize (lg_sl ([.ref (ad 14), .ref (ad 38)]) ++ List.replicate (2 - (lg_sl ([.ref (ad 14), .ref (ad 38)])).length) Slot.unset).toArray = ls at hl ⊢
  have hl : lv_has ls 2 [(0, .ref (ad 14)), (1, .ref (ad 38))] := hl
  generalize hAe : xA ad a s.heap.size = A at B ⊢
  unfold f_X0_copyFrom_38 at hf
  refine lv_aload_n hx hb dX0_copyFrom_0 rfl (lv_at hl 0 rfl) ?_
  refine lv_aload_n hx hb dX0_copyFrom_1 rfl (lv_at hl 1 rfl) ?_
  refine x_geti hx hb hts hinRX0 hown B 38 0 (by decide) (fun _ => rfl) rfl rfl (by decide) (by decide +kernel) rfl dX0_copyFrom_2 ?_
  refine x_puti hx hb hts hinRX0 hown tyX0 tyX0_ok nmX0 B 14 0 (by decide) (by decide) (fun _ => rfl) rfl rfl (by decide) (by decide +kernel) rfl rfl rfl rfl dX0_copyFrom_5 (fun H locs B => ?_)
  refine lv_aload_n hx hb dX0_copyFrom_8 rfl (lv_at hl 1 rfl) ?_
  refine x_getr hx hb hts hinRX0 hown B 38 1 39 (by decide) (by decide) (fun _ => rfl) rfl rfl (by decide) (by decide +kernel) rfl dX0_copyFrom_9 ?_
  refine lv_aload_n hx hb dX0_copyFrom_12 rfl (lv_at hl 0 rfl) ?_
  refine x_getr hx hb hts hinRX0 hown B 14 1 15 (by decide) (by decide) (fun _ => rfl) rfl rfl (by decide) (by decide +kernel) rfl dX0_copyFrom_13 ?_
  obtain ⟨r2, σ3, hu1, hf⟩ := zb_some hf
  refine x_v B (fun nb a g hs Bz => va_runSN (As := [.ref (ad 39), .ref (ad 15)]) (rest := []) ⟨hx, hb, hml, hown, hts⟩ (c_X8_copyRow_39_15 l hu1 _ nb a g hs) ⟨va_cnB 2 hts gX0_copyFrom_X8_copyRow_n31 rfl rfl rfl (x_nest B (q := (RX0, 31, yX8_copyRow)) (by decide +kernel)) (hts (.initialized RX8) (by decide +kernel)) (by decide +kernel) ⟨Nat.le_of_ble_eq_true rfl, Nat.le_of_ble_eq_true rfl⟩, hts (.static yX8_copyRow) (by decide +kernel), trivial⟩ (z_preS Bz) rfl rfl hl.1 rfl (lv_room (Nat.le_of_ble_eq_true rfl)) dX0_copyFrom_16 ⟨Nat.le_of_ble_eq_true rfl, Nat.le_of_ble_eq_true rfl⟩) (fun H locs B => ?_)
  refine lv_aload_n hx hb dX0_copyFrom_19 rfl (lv_at hl 1 rfl) ?_
  refine x_getr hx hb hts hinRX0 hown B 38 2 40 (by decide) (by decide) (fun _ => rfl) rfl rfl (by decide) (by decide +kernel) rfl dX0_copyFrom_20 ?_
  refine lv_aload_n hx hb dX0_copyFrom_23 rfl (lv_at hl 0 rfl) ?_
  refine x_getr hx hb hts hinRX0 hown B 14 2 16 (by decide) (by decide) (fun _ => rfl) rfl rfl (by decide) (by decide +kernel) rfl dX0_copyFrom_24 ?_
  obtain ⟨r5, σ6, hu4, hf⟩ := zb_some hf
  refine x_v B (fun nb a g hs Bz => va_runSN (As := [.ref (ad 40), .ref (ad 16)]) (rest := []) ⟨hx, hb, hml, hown, hts⟩ (c_X8_copyRow_40_16 l hu4 _ nb a g hs) ⟨va_cnB 2 hts gX0_copyFrom_X8_copyRow_n31 rfl rfl rfl (x_nest B (q := (RX0, 31, yX8_copyRow)) (by decide +kernel)) (hts (.initialized RX8) (by decide +kernel)) (by decide +kernel) ⟨Nat.le_of_ble_eq_true rfl, Nat.le_of_ble_eq_true rfl⟩, hts (.static yX8_copyRow) (by decide +kernel), trivial⟩ (z_preS Bz) rfl rfl hl.1 rfl (lv_room (Nat.le_of_ble_eq_true rfl)) dX0_copyFrom_27 ⟨Nat.le_of_ble_eq_true rfl, Nat.le_of_ble_eq_true rfl⟩) (fun H locs B => ?_)
  refine lv_aload_n hx hb dX0_copyFrom_30 rfl (lv_at hl 0 rfl) ?_
  refine lv_aload_n hx hb dX0_copyFrom_31 rfl (lv_at hl 1 rfl) ?_
  refine x_geti hx hb hts hinRX0 hown B 38 3 (by decide) (fun _ => rfl) rfl rfl (by decide) (by decide +kernel) rfl dX0_copyFrom_32 ?_
  refine x_puti hx hb hts hinRX0 hown tyX0 tyX0_ok nmX0 B 14 3 (by decide) (by decide) (fun _ => rfl) rfl rfl (by decide) (by decide +kernel) rfl rfl rfl rfl dX0_copyFrom_35 (fun H locs B => ?_)
  refine lv_aload_n hx hb dX0_copyFrom_38 rfl (lv_at hl 1 rfl) ?_
  refine x_getr hx hb hts hinRX0 hown B 38 4 41 (by decide) (by decide) (fun _ => rfl) rfl rfl (by decide) (by decide +kernel) rfl dX0_copyFrom_39 ?_
  refine lv_aload_n hx hb dX0_copyFrom_42 rfl (lv_at hl 0 rfl) ?_
  refine x_getr hx hb hts hinRX0 hown B 14 4 17 (by decide) (by decide) (fun _ => rfl) rfl rfl (by decide) (by decide +kernel) rfl dX0_copyFrom_43 ?_
  obtain ⟨r8, σ9, hu7, hf⟩ := zb_some hf
  refine x_v B (fun nb a g hs Bz => va_runSN (As := [.ref (ad 41), .ref (ad 17)]) (rest := []) ⟨hx, hb, hml, hown, hts⟩ (c_X8_copyRow_41_17 l hu7 _ nb a g hs) ⟨va_cnB 2 hts gX0_copyFrom_X8_copyRow_n31 rfl rfl rfl (x_nest B (q := (RX0, 31, yX8_copyRow)) (by decide +kernel)) (hts (.initialized RX8) (by decide +kernel)) (by decide +kernel) ⟨Nat.le_of_ble_eq_true rfl, Nat.le_of_ble_eq_true rfl⟩, hts (.static yX8_copyRow) (by decide +kernel), trivial⟩ (z_preS Bz) rfl rfl hl.1 rfl (lv_room (Nat.le_of_ble_eq_true rfl)) dX0_copyFrom_46 ⟨Nat.le_of_ble_eq_true rfl, Nat.le_of_ble_eq_true rfl⟩) (fun H locs B => ?_)
  refine lv_aload_n hx hb dX0_copyFrom_49 rfl (lv_at hl 1 rfl) ?_
  refine x_getr hx hb hts hinRX0 hown B 38 5 42 (by decide) (by decide) (fun _ => rfl) rfl rfl (by decide) (by decide +kernel) rfl dX0_copyFrom_50 ?_
  refine lv_aload_n hx hb dX0_copyFrom_53 rfl (lv_at hl 0 rfl) ?_
  refine x_getr hx hb hts hinRX0 hown B 14 5 18 (by decide) (by decide) (fun _ => rfl) rfl rfl (by decide) (by decide +kernel) rfl dX0_copyFrom_54 ?_
  obtain ⟨r11, σ12, hu10, hf⟩ := zb_some hf
  refine x_v B (fun nb a g hs Bz => va_runSN (As := [.ref (ad 42), .ref (ad 18)]) (rest := []) ⟨hx, hb, hml, hown, hts⟩ (c_X8_copyRow_42_18 l hu10 _ nb a g hs) ⟨va_cnB 2 hts gX0_copyFrom_X8_copyRow_n31 rfl rfl rfl (x_nest B (q := (RX0, 31, yX8_copyRow)) (by decide +kernel)) (hts (.initialized RX8) (by decide +kernel)) (by decide +kernel) ⟨Nat.le_of_ble_eq_true rfl, Nat.le_of_ble_eq_true rfl⟩, hts (.static yX8_copyRow) (by decide +kernel), trivial⟩ (z_preS Bz) rfl rfl hl.1 rfl (lv_room (Nat.le_of_ble_eq_true rfl)) dX0_copyFrom_57 ⟨Nat.le_of_ble_eq_true rfl, Nat.le_of_ble_eq_true rfl⟩) (fun H locs B => ?_)
  refine lv_aload_n hx hb dX0_copyFrom_60 rfl (lv_at hl 1 rfl) ?_
  refine x_getr hx hb hts hinRX0 hown B 38 6 43 (by decide) (by decide) (fun _ => rfl) rfl rfl (by decide) (by decide +kernel) rfl dX0_copyFrom_61 ?_
  refine lv_aload_n hx hb dX0_copyFrom_64 rfl (lv_at hl 0 rfl) ?_
  refine x_getr hx hb hts hinRX0 hown B 14 6 19 (by decide) (by decide) (fun _ => rfl) rfl rfl (by decide) (by decide +kernel) rfl dX0_copyFrom_65 ?_
  obtain ⟨r14, σ15, hu13, hf⟩ := zb_some hf
  refine x_v B (fun nb a g hs Bz => va_runSN (As := [.ref (ad 43), .ref (ad 19)]) (rest := []) ⟨hx, hb, hml, hown, hts⟩ (c_X8_copyRow_43_19 l hu13 _ nb a g hs) ⟨va_cnB 2 hts gX0_copyFrom_X8_copyRow_n31 rfl rfl rfl (x_nest B (q := (RX0, 31, yX8_copyRow)) (by decide +kernel)) (hts (.initialized RX8) (by decide +kernel)) (by decide +kernel) ⟨Nat.le_of_ble_eq_true rfl, Nat.le_of_ble_eq_true rfl⟩, hts (.static yX8_copyRow) (by decide +kernel), trivial⟩ (z_preS Bz) rfl rfl hl.1 rfl (lv_room (Nat.le_of_ble_eq_true rfl)) dX0_copyFrom_68 ⟨Nat.le_of_ble_eq_true rfl, Nat.le_of_ble_eq_true rfl⟩) (fun H locs B => ?_)
  refine W.widen (k := 0) (n := 0) (Nat.le_of_ble_eq_true rfl) (Nat.le_of_ble_eq_true rfl) ?_
  exact x_vret hx hb hr hlocks B hf dX0_copyFrom_71
def rm_X8_copyRow_45_21 : Room := { frames := 1, cells := 0, slots := 0, locals := 200 }
set_option maxHeartbeats 4000000 in
set_option maxRecDepth 100000 in
theorem c_X8_copyRow_45_21 (l : Launch) {G : zG} {ad : Nat → Nat} {σ σ' : zs} {r : Int32} (hf : f_X8_copyRow_45_21 σ  = some (r, σ')) : xMv l yX8_copyRow wsX8_copyRow rm_X8_copyRow_45_21 G ad σ [.ref (ad 45), .ref (ad 21)] σ' := by
  intro sz nb a g hs
  refine Met.ofW (cc := cX8_copyRow) (maxL := 2) (ret := none) (by decide) rfl ?_
  intro p e s m args below meth c s₁ B hml hv
  obtain ⟨rfl, hsz, hv⟩ := hv
  have hx := B.exec
  have hb := B.bytes
  have hr := B.returns
  have hts := atoms_spec (ws := wsX8_copyRow) B.pre
  have hown : s.vm.findClass RX8 = some m.cls := findClass_of_methodNamed B.named
  have hlocks := B.notSynchronized
  subst hsz
  have B := xB_start hs hv
  have hl := lv_entry ([.ref (ad 45), .ref (ad 21)]) (n := 2) (Nat.le_of_ble_eq_true rfl)
  rw [lg_entry_eq]
  generalize (lg_sl ([.ref (ad 45), .ref (ad 21)]) ++ List.replicate (2 - (lg_sl ([.ref (ad 45), .ref (ad 21)])).length) Slot.unset).toArray = ls at hl ⊢
  have hl : lv_has ls 2 [(0, .ref (ad 45)), (1, .ref (ad 21))] := hl
  generalize hAe : xA ad a s.heap.size = A at B ⊢
  unfold f_X8_copyRow_45_21 at hf
  refine lv_aload_n hx hb dX8_copyRow_0 rfl (lv_at hl 0 rfl) ?_
  refine x_alen hx hb B 45 (v := (20 : Int32)) (by decide) (fun _ => rfl) rfl (by decide) dX8_copyRow_1 ?_
  refine lv_aload_n hx hb dX8_copyRow_2 rfl (lv_at hl 1 rfl) ?_
  refine x_alen hx hb B 21 (v := (20 : Int32)) (by decide) (fun _ => rfl) rfl (by decide) dX8_copyRow_3 ?_
  refine lv_icmp_ne (tgt := 16) hx hb dX8_copyRow_4 (by decide) (fun hc => absurd (by decide) hc) (fun hc => ?_)
  refine lv_aload_n hx hb dX8_copyRow_7 rfl (lv_at hl 0 rfl) ?_
  refine lv_iconst (v := (0 : Int32)) hx hb dX8_copyRow_8 (by decide) ?_
  refine lv_aload_n hx hb dX8_copyRow_9 rfl (lv_at hl 1 rfl) ?_
  refine lv_iconst (v := (0 : Int32)) hx hb dX8_copyRow_10 (by decide) ?_
  refine lv_aload_n hx hb dX8_copyRow_11 rfl (lv_at hl 0 rfl) ?_
  refine x_alen hx hb B 45 (v := (20 : Int32)) (by decide) (fun _ => rfl) rfl (by decide) dX8_copyRow_12 ?_
  obtain ⟨hg, hf⟩ := zg_some hf
  obtain ⟨g1, g2, g3, g4, g5⟩ := zcp_ok hg
  refine x_copyi hx hb (hml.trans hl.1.symm) hts hown (index := 415) (by decide +kernel) (by decide +kernel) (by decide +kernel) (by decide +kernel) B 45 21 (by decide) (by decide) (by decide) (fun _ => rfl) (fun _ => rfl) g1 g2 g3 g4 g5 (Nat.le_of_ble_eq_true rfl) (Nat.le_of_ble_eq_true rfl) dX8_copyRow_13 (fun H locs B => ?_)
  refine W.widen (k := 0) (n := 0) (Nat.le_of_ble_eq_true rfl) (Nat.le_of_ble_eq_true rfl) ?_
  exact x_vret hx hb hr hlocks B hf dX8_copyRow_16
def rm_X2_copyFrom_44 : Room := { frames := 2, cells := 0, slots := 0, locals := 221 }
set_option maxHeartbeats 4000000 in
set_option maxRecDepth 100000 in
theorem c_X2_copyFrom_44 (l : Launch) {G : zG} {ad : Nat → Nat} {σ σ' : zs} {r : Int32} (hf : f_X2_copyFrom_44 σ  = some (r, σ')) : xMv l yX2_copyFrom wsX2_copyFrom rm_X2_copyFrom_44 G ad σ [.ref (ad 20), .ref (ad 44)] σ' := by
  intro sz nb a g hs
  refine Met.ofW (cc := cX2_copyFrom) (maxL := 2) (ret := none) (by decide) rfl ?_
  intro p e s m args below meth c s₁ B hml hv
  obtain ⟨rfl, hsz, hv⟩ := hv
  have hx := B.exec
  have hb := B.bytes
  have hr := B.returns
  have hts := atoms_spec (ws := wsX2_copyFrom) B.pre
  have hown : s.vm.findClass RX2 = some m.cls := findClass_of_methodNamed B.named
  have hlocks := B.notSynchronized
  subst hsz
  have B := xB_start hs hv
  have hinRX2 : ∀ w ∈ wsX20, w ∈ wsX2_copyFrom := by decide +kernel
  have hl := lv_entry ([.ref (ad 20), .ref (ad 44)]) (n := 2) (Nat.le_of_ble_eq_true rfl)
  rw [lg_entry_eq]
  generalize (lg_sl ([.ref (ad 20), .ref (ad 44)]) ++ List.replicate (2 - (lg_sl ([.ref (ad 20), .ref (ad 44)])).length) Slot.unset).toArray = ls at hl ⊢
  have hl : lv_has ls 2 [(0, .ref (ad 20)), (1, .ref (ad 44))] := hl
  generalize hAe : xA ad a s.heap.size = A at B ⊢
  unfold f_X2_copyFrom_44 at hf
  refine lv_aload_n hx hb dX2_copyFrom_0 rfl (lv_at hl 1 rfl) ?_
  refine x_getr hx hb hts hinRX2 hown B 44 0 45 (by decide) (by decide) (fun _ => rfl) rfl rfl (by decide) (by decide +kernel) rfl dX2_copyFrom_1 ?_
  refine lv_aload_n hx hb dX2_copyFrom_4 rfl (lv_at hl 0 rfl) ?_
  refine x_getr hx hb hts hinRX2 hown B 20 0 21 (by decide) (by decide) (fun _ => rfl) rfl rfl (by decide) (by decide +kernel) rfl dX2_copyFrom_5 ?_
  obtain ⟨r2, σ3, hu1, hf⟩ := zb_some hf
  refine x_v B (fun nb a g hs Bz => va_runSN (As := [.ref (ad 45), .ref (ad 21)]) (rest := []) ⟨hx, hb, hml, hown, hts⟩ (c_X8_copyRow_45_21 l hu1 _ nb a g hs) ⟨va_cnB 2 hts gX2_copyFrom_X8_copyRow_n15 rfl rfl rfl (x_nest B (q := (RX2, 15, yX8_copyRow)) (by decide +kernel)) (hts (.initialized RX8) (by decide +kernel)) (by decide +kernel) ⟨Nat.le_of_ble_eq_true rfl, Nat.le_of_ble_eq_true rfl⟩, hts (.static yX8_copyRow) (by decide +kernel), trivial⟩ (z_preS Bz) rfl rfl hl.1 rfl (lv_room (Nat.le_of_ble_eq_true rfl)) dX2_copyFrom_8 ⟨Nat.le_of_ble_eq_true rfl, Nat.le_of_ble_eq_true rfl⟩) (fun H locs B => ?_)
  refine lv_aload_n hx hb dX2_copyFrom_11 rfl (lv_at hl 0 rfl) ?_
  refine lv_aload_n hx hb dX2_copyFrom_12 rfl (lv_at hl 1 rfl) ?_
  refine x_geti hx hb hts hinRX2 hown B 44 1 (by decide) (fun _ => rfl) rfl rfl (by decide) (by decide +kernel) rfl dX2_copyFrom_13 ?_
  refine x_puti hx hb hts hinRX2 hown tyX2 tyX2_ok nmX2 B 20 1 (by decide) (by decide) (fun _ => rfl) rfl rfl (by decide) (by decide +kernel) rfl rfl rfl rfl dX2_copyFrom_16 (fun H locs B => ?_)
  refine lv_aload_n hx hb dX2_copyFrom_19 rfl (lv_at hl 0 rfl) ?_
  refine lv_aload_n hx hb dX2_copyFrom_20 rfl (lv_at hl 1 rfl) ?_
  refine x_geti hx hb hts hinRX2 hown B 44 2 (by decide) (fun _ => rfl) rfl rfl (by decide) (by decide +kernel) rfl dX2_copyFrom_21 ?_
  refine x_puti hx hb hts hinRX2 hown tyX2 tyX2_ok nmX2 B 20 2 (by decide) (by decide) (fun _ => rfl) rfl rfl (by decide) (by decide +kernel) rfl rfl rfl rfl dX2_copyFrom_24 (fun H locs B => ?_)
  refine lv_aload_n hx hb dX2_copyFrom_27 rfl (lv_at hl 0 rfl) ?_
  refine lv_aload_n hx hb dX2_copyFrom_28 rfl (lv_at hl 1 rfl) ?_
  refine x_geti hx hb hts hinRX2 hown B 44 3 (by decide) (fun _ => rfl) rfl rfl (by decide) (by decide +kernel) rfl dX2_copyFrom_29 ?_
  refine x_puti hx hb hts hinRX2 hown tyX2 tyX2_ok nmX2 B 20 3 (by decide) (by decide) (fun _ => rfl) rfl rfl (by decide) (by decide +kernel) rfl rfl rfl rfl dX2_copyFrom_32 (fun H locs B => ?_)
  refine W.widen (k := 0) (n := 0) (Nat.le_of_ble_eq_true rfl) (Nat.le_of_ble_eq_true rfl) ?_
  exact x_vret hx hb hr hlocks B hf dX2_copyFrom_35
def rm_X8_copyRow_46_22 : Room := { frames := 1, cells := 0, slots := 0, locals := 200 }
set_option maxHeartbeats 4000000 in
set_option maxRecDepth 100000 in
theorem c_X8_copyRow_46_22 (l : Launch) {G : zG} {ad : Nat → Nat} {σ σ' : zs} {r : Int32} (hf : f_X8_copyRow_46_22 σ  = some (r, σ')) : xMv l yX8_copyRow wsX8_copyRow rm_X8_copyRow_46_22 G ad σ [.ref (ad 46), .ref (ad 22)] σ' := by
  intro sz nb a g hs
  refine Met.ofW (cc := cX8_copyRow) (maxL := 2) (ret := none) (by decide) rfl ?_
  intro p e s m args below meth c s₁ B hml hv
  obtain ⟨rfl, hsz, hv⟩ := hv
  have hx := B.exec
  have hb := B.bytes
  have hr := B.returns
  have hts := atoms_spec (ws := wsX8_copyRow) B.pre
  have hown : s.vm.findClass RX8 = some m.cls := findClass_of_methodNamed B.named
  have hlocks := B.notSynchronized
  subst hsz
  have B := xB_start hs hv
  have hl := lv_entry ([.ref (ad 46), .ref (ad 22)]) (n := 2) (Nat.le_of_ble_eq_true rfl)
  rw [lg_entry_eq]
  generalize (lg_sl ([.ref (ad 46), .ref (ad 22)]) ++ List.replicate (2 - (lg_sl ([.ref (ad 46), .ref (ad 22)])).length) Slot.unset).toArray = ls at hl ⊢
  have hl : lv_has ls 2 [(0, .ref (ad 46)), (1, .ref (ad 22))] := hl
  generalize hAe : xA ad a s.heap.size = A at B ⊢
  unfold f_X8_copyRow_46_22 at hf
  refine lv_aload_n hx hb dX8_copyRow_0 rfl (lv_at hl 0 rfl) ?_
  refine x_alen hx hb B 46 (v := (12 : Int32)) (by decide) (fun _ => rfl) rfl (by decide) dX8_copyRow_1 ?_
  refine lv_aload_n hx hb dX8_copyRow_2 rfl (lv_at hl 1 rfl) ?_
  refine x_alen hx hb B 22 (v := (12 : Int32)) (by decide) (fun _ => rfl) rfl (by decide) dX8_copyRow_3 ?_
  refine lv_icmp_ne (tgt := 16) hx hb dX8_copyRow_4 (by decide) (fun hc => absurd (by decide) hc) (fun hc => ?_)
  refine lv_aload_n hx hb dX8_copyRow_7 rfl (lv_at hl 0 rfl) ?_
  refine lv_iconst (v := (0 : Int32)) hx hb dX8_copyRow_8 (by decide) ?_
  refine lv_aload_n hx hb dX8_copyRow_9 rfl (lv_at hl 1 rfl) ?_
  refine lv_iconst (v := (0 : Int32)) hx hb dX8_copyRow_10 (by decide) ?_
  refine lv_aload_n hx hb dX8_copyRow_11 rfl (lv_at hl 0 rfl) ?_
  refine x_alen hx hb B 46 (v := (12 : Int32)) (by decide) (fun _ => rfl) rfl (by decide) dX8_copyRow_12 ?_
  obtain ⟨hg, hf⟩ := zg_some hf
  obtain ⟨g1, g2, g3, g4, g5⟩ := zcp_ok hg
  refine x_copyi hx hb (hml.trans hl.1.symm) hts hown (index := 415) (by decide +kernel) (by decide +kernel) (by decide +kernel) (by decide +kernel) B 46 22 (by decide) (by decide) (by decide) (fun _ => rfl) (fun _ => rfl) g1 g2 g3 g4 g5 (Nat.le_of_ble_eq_true rfl) (Nat.le_of_ble_eq_true rfl) dX8_copyRow_13 (fun H locs B => ?_)
  refine W.widen (k := 0) (n := 0) (Nat.le_of_ble_eq_true rfl) (Nat.le_of_ble_eq_true rfl) ?_
  exact x_vret hx hb hr hlocks B hf dX8_copyRow_16
def rm_X8_copyRow_47_23 : Room := { frames := 1, cells := 0, slots := 0, locals := 200 }
set_option maxHeartbeats 4000000 in
set_option maxRecDepth 100000 in
theorem c_X8_copyRow_47_23 (l : Launch) {G : zG} {ad : Nat → Nat} {σ σ' : zs} {r : Int32} (hf : f_X8_copyRow_47_23 σ  = some (r, σ')) : xMv l yX8_copyRow wsX8_copyRow rm_X8_copyRow_47_23 G ad σ [.ref (ad 47), .ref (ad 23)] σ' := by
  intro sz nb a g hs
  refine Met.ofW (cc := cX8_copyRow) (maxL := 2) (ret := none) (by decide) rfl ?_
  intro p e s m args below meth c s₁ B hml hv
  obtain ⟨rfl, hsz, hv⟩ := hv
  have hx := B.exec
  have hb := B.bytes
  have hr := B.returns
  have hts := atoms_spec (ws := wsX8_copyRow) B.pre
  have hown : s.vm.findClass RX8 = some m.cls := findClass_of_methodNamed B.named
  have hlocks := B.notSynchronized
  subst hsz
  have B := xB_start hs hv
  have hl := lv_entry ([.ref (ad 47), .ref (ad 23)]) (n := 2) (Nat.le_of_ble_eq_true rfl)
  rw [lg_entry_eq]
  generalize (lg_sl ([.ref (ad 47), .ref (ad 23)]) ++ List.replicate (2 - (lg_sl ([.ref (ad 47), .ref (ad 23)])).length) Slot.unset).toArray = ls at hl ⊢
  have hl : lv_has ls 2 [(0, .ref (ad 47)), (1, .ref (ad 23))] := hl
  generalize hAe : xA ad a s.heap.size = A at B ⊢
  unfold f_X8_copyRow_47_23 at hf
  refine lv_aload_n hx hb dX8_copyRow_0 rfl (lv_at hl 0 rfl) ?_
  refine x_alen hx hb B 47 (v := (12 : Int32)) (by decide) (fun _ => rfl) rfl (by decide) dX8_copyRow_1 ?_
  refine lv_aload_n hx hb dX8_copyRow_2 rfl (lv_at hl 1 rfl) ?_
  refine x_alen hx hb B 23 (v := (12 : Int32)) (by decide) (fun _ => rfl) rfl (by decide) dX8_copyRow_3 ?_
  refine lv_icmp_ne (tgt := 16) hx hb dX8_copyRow_4 (by decide) (fun hc => absurd (by decide) hc) (fun hc => ?_)
  refine lv_aload_n hx hb dX8_copyRow_7 rfl (lv_at hl 0 rfl) ?_
  refine lv_iconst (v := (0 : Int32)) hx hb dX8_copyRow_8 (by decide) ?_
  refine lv_aload_n hx hb dX8_copyRow_9 rfl (lv_at hl 1 rfl) ?_
  refine lv_iconst (v := (0 : Int32)) hx hb dX8_copyRow_10 (by decide) ?_
  refine lv_aload_n hx hb dX8_copyRow_11 rfl (lv_at hl 0 rfl) ?_
  refine x_alen hx hb B 47 (v := (12 : Int32)) (by decide) (fun _ => rfl) rfl (by decide) dX8_copyRow_12 ?_
  obtain ⟨hg, hf⟩ := zg_some hf
  obtain ⟨g1, g2, g3, g4, g5⟩ := zcp_ok hg
  refine x_copyi hx hb (hml.trans hl.1.symm) hts hown (index := 415) (by decide +kernel) (by decide +kernel) (by decide +kernel) (by decide +kernel) B 47 23 (by decide) (by decide) (by decide) (fun _ => rfl) (fun _ => rfl) g1 g2 g3 g4 g5 (Nat.le_of_ble_eq_true rfl) (Nat.le_of_ble_eq_true rfl) dX8_copyRow_13 (fun H locs B => ?_)
  refine W.widen (k := 0) (n := 0) (Nat.le_of_ble_eq_true rfl) (Nat.le_of_ble_eq_true rfl) ?_
  exact x_vret hx hb hr hlocks B hf dX8_copyRow_16
def rm_X8_copyRow_48_24 : Room := { frames := 1, cells := 0, slots := 0, locals := 200 }
set_option maxHeartbeats 4000000 in
set_option maxRecDepth 100000 in
theorem c_X8_copyRow_48_24 (l : Launch) {G : zG} {ad : Nat → Nat} {σ σ' : zs} {r : Int32} (hf : f_X8_copyRow_48_24 σ  = some (r, σ')) : xMv l yX8_copyRow wsX8_copyRow rm_X8_copyRow_48_24 G ad σ [.ref (ad 48), .ref (ad 24)] σ' := by
  intro sz nb a g hs
  refine Met.ofW (cc := cX8_copyRow) (maxL := 2) (ret := none) (by decide) rfl ?_
  intro p e s m args below meth c s₁ B hml hv
  obtain ⟨rfl, hsz, hv⟩ := hv
  have hx := B.exec
  have hb := B.bytes
  have hr := B.returns
  have hts := atoms_spec (ws := wsX8_copyRow) B.pre
  have hown : s.vm.findClass RX8 = some m.cls := findClass_of_methodNamed B.named
  have hlocks := B.notSynchronized
  subst hsz
  have B := xB_start hs hv
  have hl := lv_entry ([.ref (ad 48), .ref (ad 24)]) (n := 2) (Nat.le_of_ble_eq_true rfl)
  rw [lg_entry_eq]
  generalize (lg_sl ([.ref (ad 48), .ref (ad 24)]) ++ List.replicate (2 - (lg_sl ([.ref (ad 48), .ref (ad 24)])).length) Slot.unset).toArray = ls at hl ⊢
  have hl : lv_has ls 2 [(0, .ref (ad 48)), (1, .ref (ad 24))] := hl
  generalize hAe : xA ad a s.heap.size = A at B ⊢
  unfold f_X8_copyRow_48_24 at hf
  refine lv_aload_n hx hb dX8_copyRow_0 rfl (lv_at hl 0 rfl) ?_
  refine x_alen hx hb B 48 (v := (28 : Int32)) (by decide) (fun _ => rfl) rfl (by decide) dX8_copyRow_1 ?_
  refine lv_aload_n hx hb dX8_copyRow_2 rfl (lv_at hl 1 rfl) ?_
  refine x_alen hx hb B 24 (v := (28 : Int32)) (by decide) (fun _ => rfl) rfl (by decide) dX8_copyRow_3 ?_
  refine lv_icmp_ne (tgt := 16) hx hb dX8_copyRow_4 (by decide) (fun hc => absurd (by decide) hc) (fun hc => ?_)
  refine lv_aload_n hx hb dX8_copyRow_7 rfl (lv_at hl 0 rfl) ?_
  refine lv_iconst (v := (0 : Int32)) hx hb dX8_copyRow_8 (by decide) ?_
  refine lv_aload_n hx hb dX8_copyRow_9 rfl (lv_at hl 1 rfl) ?_
  refine lv_iconst (v := (0 : Int32)) hx hb dX8_copyRow_10 (by decide) ?_
  refine lv_aload_n hx hb dX8_copyRow_11 rfl (lv_at hl 0 rfl) ?_
  refine x_alen hx hb B 48 (v := (28 : Int32)) (by decide) (fun _ => rfl) rfl (by decide) dX8_copyRow_12 ?_
  obtain ⟨hg, hf⟩ := zg_some hf
  obtain ⟨g1, g2, g3, g4, g5⟩ := zcp_ok hg
  refine x_copyi hx hb (hml.trans hl.1.symm) hts hown (index := 415) (by decide +kernel) (by decide +kernel) (by decide +kernel) (by decide +kernel) B 48 24 (by decide) (by decide) (by decide) (fun _ => rfl) (fun _ => rfl) g1 g2 g3 g4 g5 (Nat.le_of_ble_eq_true rfl) (Nat.le_of_ble_eq_true rfl) dX8_copyRow_13 (fun H locs B => ?_)
  refine W.widen (k := 0) (n := 0) (Nat.le_of_ble_eq_true rfl) (Nat.le_of_ble_eq_true rfl) ?_
  exact x_vret hx hb hr hlocks B hf dX8_copyRow_16
def rm_X6_copyFrom_25 : Room := { frames := 3, cells := 0, slots := 0, locals := 242 }
set_option maxHeartbeats 4000000 in
set_option maxRecDepth 100000 in
theorem c_X6_copyFrom_25 (l : Launch) {G : zG} {ad : Nat → Nat} {σ σ' : zs} {r : Int32} (hf : f_X6_copyFrom_25 σ  = some (r, σ')) : xMv l yX6_copyFrom wsX6_copyFrom rm_X6_copyFrom_25 G ad σ [.ref (ad 1), .ref (ad 25)] σ' := by
  intro sz nb a g hs
  refine Met.ofW (cc := cX6_copyFrom) (maxL := 2) (ret := none) (by decide) rfl ?_
  intro p e s m args below meth c s₁ B hml hv
  obtain ⟨rfl, hsz, hv⟩ := hv
  have hx := B.exec
  have hb := B.bytes
  have hr := B.returns
  have hts := atoms_spec (ws := wsX6_copyFrom) B.pre
  have hown : s.vm.findClass RX6 = some m.cls := findClass_of_methodNamed B.named
  have hlocks := B.notSynchronized
  subst hsz
  have B := xB_start hs hv
  have hinRX6 : ∀ w ∈ wsX60, w ∈ wsX6_copyFrom := by decide +kernel
  have hl := lv_entry ([.ref (ad 1), .ref (ad 25)]) (n := 2) (Nat.le_of_ble_eq_true rfl)
  rw [lg_entry_eq]
  generalize (lg_sl ([.ref (ad 1), .ref (ad 25)]) ++ List.replicate (2 - (lg_sl ([.ref (ad 1), .ref (ad 25)])).length) Slot.unset).toArray = ls at hl ⊢
  have hl : lv_has ls 2 [(0, .ref (ad 1)), (1, .ref (ad 25))] := hl
  generalize hAe : xA ad a s.heap.size = A at B ⊢
  unfold f_X6_copyFrom_25 at hf
  refine lv_aload_n hx hb dX6_copyFrom_0 rfl (lv_at hl 0 rfl) ?_
  refine x_getr hx hb hts hinRX6 hown B 1 0 2 (by decide) (by decide) (fun _ => rfl) rfl rfl (by decide) (by decide +kernel) rfl dX6_copyFrom_1 ?_
  refine lv_aload_n hx hb dX6_copyFrom_4 rfl (lv_at hl 1 rfl) ?_
  refine x_getr hx hb hts hinRX6 hown B 25 0 26 (by decide) (by decide) (fun _ => rfl) rfl rfl (by decide) (by decide +kernel) rfl dX6_copyFrom_5 ?_
  obtain ⟨r2, σ3, hu1, hf⟩ := zb_some hf
  refine x_v B (fun nb a g hs Bz => va_runV (As := [.ref (ad 26)]) (rest := []) ⟨hx, hb, hml, hown, hts⟩ (c_X7_copyFrom_26 l hu1 _ nb a g hs) (cwV 1 hts gX6_copyFrom_X7_copyFrom rfl rfl rfl (by decide +kernel) ⟨Nat.le_of_ble_eq_true rfl, Nat.le_of_ble_eq_true rfl⟩) (x_preV Bz (by decide) (fun _ => rfl) rfl) rfl rfl hl.1 rfl (lv_room (Nat.le_of_ble_eq_true rfl)) dX6_copyFrom_8 ⟨Nat.le_of_ble_eq_true rfl, Nat.le_of_ble_eq_true rfl⟩) (fun H locs B => ?_)
  refine lv_aload_n hx hb dX6_copyFrom_11 rfl (lv_at hl 0 rfl) ?_
  refine x_getr hx hb hts hinRX6 hown B 1 1 14 (by decide) (by decide) (fun _ => rfl) rfl rfl (by decide) (by decide +kernel) rfl dX6_copyFrom_12 ?_
  refine lv_aload_n hx hb dX6_copyFrom_15 rfl (lv_at hl 1 rfl) ?_
  refine x_getr hx hb hts hinRX6 hown B 25 1 38 (by decide) (by decide) (fun _ => rfl) rfl rfl (by decide) (by decide +kernel) rfl dX6_copyFrom_16 ?_
  obtain ⟨r5, σ6, hu4, hf⟩ := zb_some hf
  refine x_v B (fun nb a g hs Bz => va_runV (As := [.ref (ad 38)]) (rest := []) ⟨hx, hb, hml, hown, hts⟩ (c_X0_copyFrom_38 l hu4 _ nb a g hs) (cwV 1 hts gX6_copyFrom_X0_copyFrom rfl rfl rfl (by decide +kernel) ⟨Nat.le_of_ble_eq_true rfl, Nat.le_of_ble_eq_true rfl⟩) (x_preV Bz (by decide) (fun _ => rfl) rfl) rfl rfl hl.1 rfl (lv_room (Nat.le_of_ble_eq_true rfl)) dX6_copyFrom_19 ⟨Nat.le_of_ble_eq_true rfl, Nat.le_of_ble_eq_true rfl⟩) (fun H locs B => ?_)
  refine lv_aload_n hx hb dX6_copyFrom_22 rfl (lv_at hl 0 rfl) ?_
  refine x_getr hx hb hts hinRX6 hown B 1 2 20 (by decide) (by decide) (fun _ => rfl) rfl rfl (by decide) (by decide +kernel) rfl dX6_copyFrom_23 ?_
  refine lv_aload_n hx hb dX6_copyFrom_26 rfl (lv_at hl 1 rfl) ?_
  refine x_getr hx hb hts hinRX6 hown B 25 2 44 (by decide) (by decide) (fun _ => rfl) rfl rfl (by decide) (by decide +kernel) rfl dX6_copyFrom_27 ?_
  obtain ⟨r8, σ9, hu7, hf⟩ := zb_some hf
  refine x_v B (fun nb a g hs Bz => va_runV (As := [.ref (ad 44)]) (rest := []) ⟨hx, hb, hml, hown, hts⟩ (c_X2_copyFrom_44 l hu7 _ nb a g hs) (cwV 1 hts gX6_copyFrom_X2_copyFrom rfl rfl rfl (by decide +kernel) ⟨Nat.le_of_ble_eq_true rfl, Nat.le_of_ble_eq_true rfl⟩) (x_preV Bz (by decide) (fun _ => rfl) rfl) rfl rfl hl.1 rfl (lv_room (Nat.le_of_ble_eq_true rfl)) dX6_copyFrom_30 ⟨Nat.le_of_ble_eq_true rfl, Nat.le_of_ble_eq_true rfl⟩) (fun H locs B => ?_)
  refine lv_aload_n hx hb dX6_copyFrom_33 rfl (lv_at hl 1 rfl) ?_
  refine x_getr hx hb hts hinRX6 hown B 25 3 46 (by decide) (by decide) (fun _ => rfl) rfl rfl (by decide) (by decide +kernel) rfl dX6_copyFrom_34 ?_
  refine lv_aload_n hx hb dX6_copyFrom_37 rfl (lv_at hl 0 rfl) ?_
  refine x_getr hx hb hts hinRX6 hown B 1 3 22 (by decide) (by decide) (fun _ => rfl) rfl rfl (by decide) (by decide +kernel) rfl dX6_copyFrom_38 ?_
  obtain ⟨r11, σ12, hu10, hf⟩ := zb_some hf
  refine x_v B (fun nb a g hs Bz => va_runSN (As := [.ref (ad 46), .ref (ad 22)]) (rest := []) ⟨hx, hb, hml, hown, hts⟩ (c_X8_copyRow_46_22 l hu10 _ nb a g hs) ⟨va_cnB 2 hts gX6_copyFrom_X8_copyRow_n52 rfl rfl rfl (x_nest B (q := (RX6, 52, yX8_copyRow)) (by decide +kernel)) (hts (.initialized RX8) (by decide +kernel)) (by decide +kernel) ⟨Nat.le_of_ble_eq_true rfl, Nat.le_of_ble_eq_true rfl⟩, hts (.static yX8_copyRow) (by decide +kernel), trivial⟩ (z_preS Bz) rfl rfl hl.1 rfl (lv_room (Nat.le_of_ble_eq_true rfl)) dX6_copyFrom_41 ⟨Nat.le_of_ble_eq_true rfl, Nat.le_of_ble_eq_true rfl⟩) (fun H locs B => ?_)
  refine lv_aload_n hx hb dX6_copyFrom_44 rfl (lv_at hl 1 rfl) ?_
  refine x_getr hx hb hts hinRX6 hown B 25 4 47 (by decide) (by decide) (fun _ => rfl) rfl rfl (by decide) (by decide +kernel) rfl dX6_copyFrom_45 ?_
  refine lv_aload_n hx hb dX6_copyFrom_48 rfl (lv_at hl 0 rfl) ?_
  refine x_getr hx hb hts hinRX6 hown B 1 4 23 (by decide) (by decide) (fun _ => rfl) rfl rfl (by decide) (by decide +kernel) rfl dX6_copyFrom_49 ?_
  obtain ⟨r14, σ15, hu13, hf⟩ := zb_some hf
  refine x_v B (fun nb a g hs Bz => va_runSN (As := [.ref (ad 47), .ref (ad 23)]) (rest := []) ⟨hx, hb, hml, hown, hts⟩ (c_X8_copyRow_47_23 l hu13 _ nb a g hs) ⟨va_cnB 2 hts gX6_copyFrom_X8_copyRow_n52 rfl rfl rfl (x_nest B (q := (RX6, 52, yX8_copyRow)) (by decide +kernel)) (hts (.initialized RX8) (by decide +kernel)) (by decide +kernel) ⟨Nat.le_of_ble_eq_true rfl, Nat.le_of_ble_eq_true rfl⟩, hts (.static yX8_copyRow) (by decide +kernel), trivial⟩ (z_preS Bz) rfl rfl hl.1 rfl (lv_room (Nat.le_of_ble_eq_true rfl)) dX6_copyFrom_52 ⟨Nat.le_of_ble_eq_true rfl, Nat.le_of_ble_eq_true rfl⟩) (fun H locs B => ?_)
  refine lv_aload_n hx hb dX6_copyFrom_55 rfl (lv_at hl 0 rfl) ?_
  refine lv_aload_n hx hb dX6_copyFrom_56 rfl (lv_at hl 1 rfl) ?_
  refine x_geti hx hb hts hinRX6 hown B 25 5 (by decide) (fun _ => rfl) rfl rfl (by decide) (by decide +kernel) rfl dX6_copyFrom_57 ?_
  refine x_puti hx hb hts hinRX6 hown tyX6 tyX6_ok nmX6 B 1 5 (by decide) (by decide) (fun _ => rfl) rfl rfl (by decide) (by decide +kernel) rfl rfl rfl rfl dX6_copyFrom_60 (fun H locs B => ?_)
  refine lv_aload_n hx hb dX6_copyFrom_63 rfl (lv_at hl 1 rfl) ?_
  refine x_getr hx hb hts hinRX6 hown B 25 6 48 (by decide) (by decide) (fun _ => rfl) rfl rfl (by decide) (by decide +kernel) rfl dX6_copyFrom_64 ?_
  refine lv_aload_n hx hb dX6_copyFrom_67 rfl (lv_at hl 0 rfl) ?_
  refine x_getr hx hb hts hinRX6 hown B 1 6 24 (by decide) (by decide) (fun _ => rfl) rfl rfl (by decide) (by decide +kernel) rfl dX6_copyFrom_68 ?_
  obtain ⟨r17, σ18, hu16, hf⟩ := zb_some hf
  refine x_v B (fun nb a g hs Bz => va_runSN (As := [.ref (ad 48), .ref (ad 24)]) (rest := []) ⟨hx, hb, hml, hown, hts⟩ (c_X8_copyRow_48_24 l hu16 _ nb a g hs) ⟨va_cnB 2 hts gX6_copyFrom_X8_copyRow_n52 rfl rfl rfl (x_nest B (q := (RX6, 52, yX8_copyRow)) (by decide +kernel)) (hts (.initialized RX8) (by decide +kernel)) (by decide +kernel) ⟨Nat.le_of_ble_eq_true rfl, Nat.le_of_ble_eq_true rfl⟩, hts (.static yX8_copyRow) (by decide +kernel), trivial⟩ (z_preS Bz) rfl rfl hl.1 rfl (lv_room (Nat.le_of_ble_eq_true rfl)) dX6_copyFrom_71 ⟨Nat.le_of_ble_eq_true rfl, Nat.le_of_ble_eq_true rfl⟩) (fun H locs B => ?_)
  refine lv_aload_n hx hb dX6_copyFrom_74 rfl (lv_at hl 0 rfl) ?_
  refine lv_aload_n hx hb dX6_copyFrom_75 rfl (lv_at hl 1 rfl) ?_
  refine x_geti hx hb hts hinRX6 hown B 25 7 (by decide) (fun _ => rfl) rfl rfl (by decide) (by decide +kernel) rfl dX6_copyFrom_76 ?_
  refine x_puti hx hb hts hinRX6 hown tyX6 tyX6_ok nmX6 B 1 7 (by decide) (by decide) (fun _ => rfl) rfl rfl (by decide) (by decide +kernel) rfl rfl rfl rfl dX6_copyFrom_79 (fun H locs B => ?_)
  refine W.widen (k := 0) (n := 0) (Nat.le_of_ble_eq_true rfl) (Nat.le_of_ble_eq_true rfl) ?_
  exact x_vret hx hb hr hlocks B hf dX6_copyFrom_82
theorem dX8_restore_0 : decode cX8_restore 0 = .ok (.aload_n 0, 1) := by decide +kernel
theorem dX8_restore_1 : decode cX8_restore 1 = .ok (.getfield 19, 3) := by decide +kernel
theorem dX8_restore_4 : decode cX8_restore 4 = .ok (.invokestatic 76, 3) := by decide +kernel
theorem dX8_restore_7 : decode cX8_restore 7 = .ok (.aload_n 0, 1) := by decide +kernel
theorem dX8_restore_8 : decode cX8_restore 8 = .ok (.getfield 12, 3) := by decide +kernel
theorem dX8_restore_11 : decode cX8_restore 11 = .ok (.aload_n 0, 1) := by decide +kernel
theorem dX8_restore_12 : decode cX8_restore 12 = .ok (.getfield 16, 3) := by decide +kernel
theorem dX8_restore_15 : decode cX8_restore 15 = .ok (.invokevirtual 358, 3) := by decide +kernel
theorem dX8_restore_18 : decode cX8_restore 18 = .ok (.aload_n 0, 1) := by decide +kernel
theorem dX8_restore_19 : decode cX8_restore 19 = .ok (.getfield 12, 3) := by decide +kernel
theorem dX8_restore_22 : decode cX8_restore 22 = .ok (.getfield 66, 3) := by decide +kernel
theorem dX8_restore_25 : decode cX8_restore 25 = .ok (.getfield 70, 3) := by decide +kernel
theorem dX8_restore_28 : decode cX8_restore 28 = .ok (.ireturn, 1) := by decide +kernel
set_option maxRecDepth 20000 in
theorem ggX8_restore_X8_needState : GoodIn wsX8_restore wsX8_needState := goodIn_ca (goodIn_r _ [9, 10, 11] (by decide +kernel) (by decide +kernel)) (goodIn_sub (fun _ h => List.mem_cons_of_mem _ (List.mem_append_right _ h)) (by decide +kernel))
set_option maxRecDepth 20000 in
theorem gX8_restore_X8_needState : GoodIn wsX8_restore (va_wsS RX8 76 yX8_needState wsX8_needState) := goodIn_app (goodIn_of _ (by decide +kernel)) ggX8_restore_X8_needState
set_option maxRecDepth 20000 in
theorem ggX8_restore_X6_copyFrom : GoodIn wsX8_restore wsX6_copyFrom := goodIn_r _ [16, 17, 18, 19, 20, 21, 22, 23, 24, 25, 26, 27, 28, 29, 30, 31, 32, 33, 34, 35, 36, 37, 38, 39, 40, 41, 8, 42, 43, 44, 45, 46, 47, 48, 49, 50, 51, 52, 53, 54, 55, 56, 57, 58, 59, 60, 61, 62, 63, 64, 65, 66, 67, 76, 77, 78, 79, 80, 81, 82, 83, 84, 85, 86, 87, 88, 89, 90, 91, 92, 93, 94, 95, 96, 97, 98, 99, 100, 101, 102, 103, 104, 105, 106] (by decide +kernel) (by decide +kernel)
set_option maxRecDepth 20000 in
theorem gX8_restore_X6_copyFrom : GoodIn wsX8_restore (wsV RX8 358 RX6 yX6_copyFrom wsX6_copyFrom) := goodIn_app (goodIn_of _ (by decide +kernel)) ggX8_restore_X6_copyFrom
def rm_X8_restore : Room := { frames := 9, cells := 1, slots := 6, locals := 263 }
set_option maxHeartbeats 4000000 in
set_option maxRecDepth 100000 in
theorem c_X8_restore (l : Launch) (hfl : l.stackTraces = false) {G : zG} {ad : Nat → Nat} {σ σ' : zs} {ex : Nat} {r : Int32} (hf : f_X8_restore σ  = some (ex, r, σ')) : xXi l yX8_restore wsX8_restore rm_X8_restore G ad σ [.ref (ad 0)] ex r σ' := by
  intro sz nb a g hs
  refine vx_ofW (cc := cX8_restore) (maxL := 1) (ret := (some .int)) (by decide) rfl ?_
  intro p e s m args below meth c s₁ B hml hno hv
  obtain ⟨rfl, hsz, hv⟩ := hv
  have hx := B.exec
  have hb := B.bytes
  have hr := B.returns
  have hts := atoms_spec (ws := wsX8_restore) B.pre
  have hown : s.vm.findClass RX8 = some m.cls := findClass_of_methodNamed B.named
  have hlocks := B.notSynchronized
  subst hsz
  have B := xB_start hs hv
  have hinRX6 : ∀ w ∈ wsX60, w ∈ wsX8_restore := by decide +kernel
  have hinRX7 : ∀ w ∈ wsX70, w ∈ wsX8_restore := by decide +kernel
  have hinRX8 : ∀ w ∈ wsX80, w ∈ wsX8_restore := by decide +kernel
  have hl := lv_entry ([.ref (ad 0)]) (n := 1) (Nat.le_of_ble_eq_true rfl)
  rw [lg_entry_eq]
  generalize (lg_sl ([.ref (ad 0)]) ++ List.replicate (1 - (lg_sl ([.ref (ad 0)])).length) Slot.unset).toArray = ls at hl ⊢
  have hl : lv_has ls 1 [(0, .ref (ad 0))] := hl
  generalize hAe : xA ad a s.heap.size = A at B ⊢
  unfold f_X8_restore at hf
  refine lv_aload_n hx hb dX8_restore_0 rfl (lv_at hl 0 rfl) ?_
  refine x_geti hx hb hts hinRX8 hown B 0 2 (by decide) (fun _ => rfl) rfl rfl (by decide) (by decide +kernel) rfl dX8_restore_1 ?_
  obtain ⟨u1, r2, σ3, hu1, hf⟩ := zx_some hf
  refine x_xv B (fun nb a g hs Bz => vx_runS (As := [.int (σ 0 2)]) (rest := []) ⟨hx, hb, hml, hown, hts⟩ (c_X8_needState l hfl hu1 _ nb a g hs) (va_cwS 1 hts gX8_restore_X8_needState rfl rfl rfl (by decide +kernel) ⟨Nat.le_of_ble_eq_true rfl, Nat.le_of_ble_eq_true rfl⟩) (z_preS Bz) rfl rfl hl.1 rfl (lv_room (Nat.le_of_ble_eq_true rfl)) dX8_restore_4 ⟨Nat.le_of_ble_eq_true rfl, Nat.le_of_ble_eq_true rfl⟩) (fun H locs ce q9 h0 B k1 k2 k3 => ?_) (fun H locs h0 B => ?_)
  · exact x_xout hno hlocks (zx_no hf h0) h0 B k1 k2 k3 (Nat.le_of_ble_eq_true rfl) (Nat.le_of_ble_eq_true rfl)
  have hf := zx_ok hf h0
  refine lv_aload_n hx hb dX8_restore_7 rfl (lv_at hl 0 rfl) ?_
  refine x_getr hx hb hts hinRX8 hown B 0 0 1 (by decide) (by decide) (fun _ => rfl) rfl rfl (by decide) (by decide +kernel) rfl dX8_restore_8 ?_
  refine lv_aload_n hx hb dX8_restore_11 rfl (lv_at hl 0 rfl) ?_
  refine x_getr hx hb hts hinRX8 hown B 0 1 25 (by decide) (by decide) (fun _ => rfl) rfl rfl (by decide) (by decide +kernel) rfl dX8_restore_12 ?_
  obtain ⟨r5, σ6, hu4, hf⟩ := zb_some hf
  refine x_v B (fun nb a g hs Bz => va_runV (As := [.ref (ad 25)]) (rest := []) ⟨hx, hb, hml, hown, hts⟩ (c_X6_copyFrom_25 l hu4 _ nb a g hs) (cwV 1 hts gX8_restore_X6_copyFrom rfl rfl rfl (by decide +kernel) ⟨Nat.le_of_ble_eq_true rfl, Nat.le_of_ble_eq_true rfl⟩) (x_preV Bz (by decide) (fun _ => rfl) rfl) rfl rfl hl.1 rfl (lv_room (Nat.le_of_ble_eq_true rfl)) dX8_restore_15 ⟨Nat.le_of_ble_eq_true rfl, Nat.le_of_ble_eq_true rfl⟩) (fun H locs B => ?_)
  refine lv_aload_n hx hb dX8_restore_18 rfl (lv_at hl 0 rfl) ?_
  refine x_getr hx hb hts hinRX8 hown B 0 0 1 (by decide) (by decide) (fun _ => rfl) rfl rfl (by decide) (by decide +kernel) rfl dX8_restore_19 ?_
  refine x_getr hx hb hts hinRX6 hown B 1 0 2 (by decide) (by decide) (fun _ => rfl) rfl rfl (by decide) (by decide +kernel) rfl dX8_restore_22 ?_
  refine x_geti hx hb hts hinRX7 hown B 2 0 (by decide) (fun _ => rfl) rfl rfl (by decide) (by decide +kernel) rfl dX8_restore_25 ?_
  refine W.widen (k := 1) (n := 6) (Nat.le_of_ble_eq_true rfl) (Nat.le_of_ble_eq_true rfl) ?_
  exact x_xiret hx hb hr rfl hlocks B hf dX8_restore_28
theorem dX9_thrown_0 : decode cX9_thrown 0 = .ok (.aload_n 0, 1) := by decide +kernel
theorem dX9_thrown_1 : decode cX9_thrown 1 = .ok (.getfield 41, 3) := by decide +kernel
theorem dX9_thrown_4 : decode cX9_thrown 4 = .ok (.ireturn, 1) := by decide +kernel
def rm_X9_thrown : Room := { frames := 1, cells := 0, slots := 0, locals := 16 }
set_option maxHeartbeats 4000000 in
set_option maxRecDepth 100000 in
theorem c_X9_thrown (l : Launch) {G : zG} {ad : Nat → Nat} {σ σ' : zs} {r : Int32} (hf : f_X9_thrown σ  = some (r, σ')) : xMi l yX9_thrown wsX9_thrown rm_X9_thrown G ad σ [.ref (ad 65)] r σ' := by
  intro sz nb a g hs
  refine Met.ofW (cc := cX9_thrown) (maxL := 1) (ret := (some .int)) (by decide) rfl ?_
  intro p e s m args below meth c s₁ B hml hv
  obtain ⟨rfl, hsz, hv⟩ := hv
  have hx := B.exec
  have hb := B.bytes
  have hr := B.returns
  have hts := atoms_spec (ws := wsX9_thrown) B.pre
  have hown : s.vm.findClass RX9 = some m.cls := findClass_of_methodNamed B.named
  have hlocks := B.notSynchronized
  subst hsz
  have B := xB_start hs hv
  have hinRX9 : ∀ w ∈ wsX90, w ∈ wsX9_thrown := by decide +kernel
  have hl := lv_entry ([.ref (ad 65)]) (n := 1) (Nat.le_of_ble_eq_true rfl)
  rw [lg_entry_eq]
  generalize (lg_sl ([.ref (ad 65)]) ++ List.replicate (1 - (lg_sl ([.ref (ad 65)])).length) Slot.unset).toArray = ls at hl ⊢
  have hl : lv_has ls 1 [(0, .ref (ad 65))] := hl
  generalize hAe : xA ad a s.heap.size = A at B ⊢
  unfold f_X9_thrown at hf
  refine lv_aload_n hx hb dX9_thrown_0 rfl (lv_at hl 0 rfl) ?_
  refine x_geti hx hb hts hinRX9 hown B 65 3 (by decide) (fun _ => rfl) rfl rfl (by decide) (by decide +kernel) rfl dX9_thrown_1 ?_
  refine W.widen (k := 0) (n := 0) (Nat.le_of_ble_eq_true rfl) (Nat.le_of_ble_eq_true rfl) ?_
  exact x_iret hx hb hr rfl hlocks B hf dX9_thrown_4
theorem dX9_isIn_0 : decode cX9_isIn 0 = .ok (.iload_n 0, 1) := by decide +kernel
theorem dX9_isIn_1 : decode cX9_isIn 1 = .ok (.iload_n 1, 1) := by decide +kernel
theorem dX9_isIn_2 : decode cX9_isIn 2 = .ok (.if_icmp .lt 12, 3) := by decide +kernel
theorem dX9_isIn_5 : decode cX9_isIn 5 = .ok (.iload_n 0, 1) := by decide +kernel
theorem dX9_isIn_6 : decode cX9_isIn 6 = .ok (.iload_n 2, 1) := by decide +kernel
theorem dX9_isIn_7 : decode cX9_isIn 7 = .ok (.if_icmp .gt 7, 3) := by decide +kernel
theorem dX9_isIn_10 : decode cX9_isIn 10 = .ok (.iconst 1, 1) := by decide +kernel
theorem dX9_isIn_11 : decode cX9_isIn 11 = .ok (.goto 4, 3) := by decide +kernel
theorem dX9_isIn_14 : decode cX9_isIn 14 = .ok (.iconst 0, 1) := by decide +kernel
theorem dX9_isIn_15 : decode cX9_isIn 15 = .ok (.ireturn, 1) := by decide +kernel
def rm_X9_isIn : Room := { frames := 1, cells := 0, slots := 0, locals := 16 }
set_option maxHeartbeats 4000000 in
set_option maxRecDepth 100000 in
theorem c_X9_isIn (l : Launch) {G : zG} {ad : Nat → Nat} {σ σ' : zs} {a0 a1 a2 : Int32} {r : Int32} (hf : f_X9_isIn σ a0 a1 a2 = some (r, σ')) : xMi l yX9_isIn wsX9_isIn rm_X9_isIn G ad σ [.int a0, .int a1, .int a2] r σ' := by
  intro sz nb a g hs
  refine Met.ofW (cc := cX9_isIn) (maxL := 3) (ret := (some .boolean)) (by decide) rfl ?_
  intro p e s m args below meth c s₁ B hml hv
  obtain ⟨rfl, hsz, hv⟩ := hv
  have hx := B.exec
  have hb := B.bytes
  have hr := B.returns
  have hts := atoms_spec (ws := wsX9_isIn) B.pre
  have hown : s.vm.findClass RX9 = some m.cls := findClass_of_methodNamed B.named
  have hlocks := B.notSynchronized
  subst hsz
  have B := xB_start hs hv
  have hl := lv_entry ([.int a0, .int a1, .int a2]) (n := 3) (Nat.le_of_ble_eq_true rfl)
  rw [lg_entry_eq]
  generalize (lg_sl ([.int a0, .int a1, .int a2]) ++ List.replicate (3 - (lg_sl ([.int a0, .int a1, .int a2])).length) Slot.unset).toArray = ls at hl ⊢
  have hl : lv_has ls 3 [(0, .int a0), (1, .int a1), (2, .int a2)] := hl
  generalize hAe : xA ad a s.heap.size = A at B ⊢
  unfold f_X9_isIn at hf
  refine lv_iload_n hx hb dX9_isIn_0 rfl (lv_at hl 0 rfl) ?_
  refine lv_iload_n hx hb dX9_isIn_1 rfl (lv_at hl 1 rfl) ?_
  refine lv_icmp_lt (tgt := 14) hx hb dX9_isIn_2 (by decide) (fun hc => ?_) (fun hc => ?_)
  · have hf := zif_t hc hf
    refine lv_iconst (v := (0 : Int32)) hx hb dX9_isIn_14 (by decide) ?_
    refine W.widen (k := 0) (n := 0) (Nat.le_of_ble_eq_true rfl) (Nat.le_of_ble_eq_true rfl) ?_
    exact x_iret hx hb hr (by decide) hlocks B hf dX9_isIn_15
  · have hf := zif_f hc hf
    refine lv_iload_n hx hb dX9_isIn_5 rfl (lv_at hl 0 rfl) ?_
    refine lv_iload_n hx hb dX9_isIn_6 rfl (lv_at hl 2 rfl) ?_
    refine lv_icmp_gt (tgt := 14) hx hb dX9_isIn_7 (by decide) (fun hc => ?_) (fun hc => ?_)
    · have hf := zif_t hc hf
      refine lv_iconst (v := (0 : Int32)) hx hb dX9_isIn_14 (by decide) ?_
      refine W.widen (k := 0) (n := 0) (Nat.le_of_ble_eq_true rfl) (Nat.le_of_ble_eq_true rfl) ?_
      exact x_iret hx hb hr (by decide) hlocks B hf dX9_isIn_15
    · have hf := zif_f hc hf
      refine lv_iconst (v := (1 : Int32)) hx hb dX9_isIn_10 (by decide) ?_
      refine lv_goto (tgt := 15) hx hb dX9_isIn_11 (by decide) ?_
      refine W.widen (k := 0) (n := 0) (Nat.le_of_ble_eq_true rfl) (Nat.le_of_ble_eq_true rfl) ?_
      exact x_iret hx hb hr (by decide) hlocks B hf dX9_isIn_15
theorem dX9_isSubject_0 : decode cX9_isSubject 0 = .ok (.iload_n 0, 1) := by decide +kernel
theorem dX9_isSubject_1 : decode cX9_isSubject 1 = .ok (.iconst 0, 1) := by decide +kernel
theorem dX9_isSubject_2 : decode cX9_isSubject 2 = .ok (.iconst 5, 1) := by decide +kernel
theorem dX9_isSubject_3 : decode cX9_isSubject 3 = .ok (.invokestatic 44, 3) := by decide +kernel
theorem dX9_isSubject_6 : decode cX9_isSubject 6 = .ok (.ireturn, 1) := by decide +kernel
set_option maxRecDepth 20000 in
theorem ggX9_isSubject_X9_isIn : GoodIn wsX9_isSubject wsX9_isIn := goodIn_r _ [4] (by decide +kernel) (by decide +kernel)
set_option maxRecDepth 20000 in
theorem gX9_isSubject_X9_isIn : GoodIn wsX9_isSubject (va_wsS RX9 44 yX9_isIn wsX9_isIn) := goodIn_app (goodIn_of _ (by decide +kernel)) ggX9_isSubject_X9_isIn
def rm_X9_isSubject : Room := { frames := 2, cells := 0, slots := 0, locals := 38 }
set_option maxHeartbeats 4000000 in
set_option maxRecDepth 100000 in
theorem c_X9_isSubject (l : Launch) {G : zG} {ad : Nat → Nat} {σ σ' : zs} {a0 : Int32} {r : Int32} (hf : f_X9_isSubject σ a0 = some (r, σ')) : xMi l yX9_isSubject wsX9_isSubject rm_X9_isSubject G ad σ [.int a0] r σ' := by
  intro sz nb a g hs
  refine Met.ofW (cc := cX9_isSubject) (maxL := 1) (ret := (some .boolean)) (by decide) rfl ?_
  intro p e s m args below meth c s₁ B hml hv
  obtain ⟨rfl, hsz, hv⟩ := hv
  have hx := B.exec
  have hb := B.bytes
  have hr := B.returns
  have hts := atoms_spec (ws := wsX9_isSubject) B.pre
  have hown : s.vm.findClass RX9 = some m.cls := findClass_of_methodNamed B.named
  have hlocks := B.notSynchronized
  subst hsz
  have B := xB_start hs hv
  have hl := lv_entry ([.int a0]) (n := 1) (Nat.le_of_ble_eq_true rfl)
  rw [lg_entry_eq]
  generalize (lg_sl ([.int a0]) ++ List.replicate (1 - (lg_sl ([.int a0])).length) Slot.unset).toArray = ls at hl ⊢
  have hl : lv_has ls 1 [(0, .int a0)] := hl
  generalize hAe : xA ad a s.heap.size = A at B ⊢
  unfold f_X9_isSubject at hf
  refine lv_iload_n hx hb dX9_isSubject_0 rfl (lv_at hl 0 rfl) ?_
  refine lv_iconst (v := (0 : Int32)) hx hb dX9_isSubject_1 (by decide) ?_
  refine lv_iconst (v := (5 : Int32)) hx hb dX9_isSubject_2 (by decide) ?_
  obtain ⟨r2, σ3, hu1, hf⟩ := zb_some hf
  refine x_i B (fun nb a g hs Bz => va_runS (As := [.int a0, .int (0 : Int32), .int (5 : Int32)]) (rest := []) ⟨hx, hb, hml, hown, hts⟩ (c_X9_isIn l hu1 _ nb a g hs) (va_cwS 3 hts gX9_isSubject_X9_isIn rfl rfl rfl (by decide +kernel) ⟨Nat.le_of_ble_eq_true rfl, Nat.le_of_ble_eq_true rfl⟩) (z_preS Bz) rfl rfl hl.1 rfl (lv_room (Nat.le_of_ble_eq_true rfl)) dX9_isSubject_3 ⟨Nat.le_of_ble_eq_true rfl, Nat.le_of_ble_eq_true rfl⟩) (fun H locs B => ?_)
  obtain ⟨hg, hf⟩ := zg_some hf
  refine W.widen (k := 0) (n := 0) (Nat.le_of_ble_eq_true rfl) (Nat.le_of_ble_eq_true rfl) ?_
  exact x_iret hx hb hr (znz hg) hlocks B hf dX9_isSubject_6
theorem dX9_isObject_0 : decode cX9_isObject 0 = .ok (.iload_n 0, 1) := by decide +kernel
theorem dX9_isObject_1 : decode cX9_isObject 1 = .ok (.iconst 0, 1) := by decide +kernel
theorem dX9_isObject_2 : decode cX9_isObject 2 = .ok (.bipush 11, 2) := by decide +kernel
theorem dX9_isObject_4 : decode cX9_isObject 4 = .ok (.invokestatic 44, 3) := by decide +kernel
theorem dX9_isObject_7 : decode cX9_isObject 7 = .ok (.ireturn, 1) := by decide +kernel
set_option maxRecDepth 20000 in
theorem ggX9_isObject_X9_isIn : GoodIn wsX9_isObject wsX9_isIn := goodIn_r _ [4] (by decide +kernel) (by decide +kernel)
set_option maxRecDepth 20000 in
theorem gX9_isObject_X9_isIn : GoodIn wsX9_isObject (va_wsS RX9 44 yX9_isIn wsX9_isIn) := goodIn_app (goodIn_of _ (by decide +kernel)) ggX9_isObject_X9_isIn
def rm_X9_isObject : Room := { frames := 2, cells := 0, slots := 0, locals := 38 }
set_option maxHeartbeats 4000000 in
set_option maxRecDepth 100000 in
theorem c_X9_isObject (l : Launch) {G : zG} {ad : Nat → Nat} {σ σ' : zs} {a0 : Int32} {r : Int32} (hf : f_X9_isObject σ a0 = some (r, σ')) : xMi l yX9_isObject wsX9_isObject rm_X9_isObject G ad σ [.int a0] r σ' := by
  intro sz nb a g hs
  refine Met.ofW (cc := cX9_isObject) (maxL := 1) (ret := (some .boolean)) (by decide) rfl ?_
  intro p e s m args below meth c s₁ B hml hv
  obtain ⟨rfl, hsz, hv⟩ := hv
  have hx := B.exec
  have hb := B.bytes
  have hr := B.returns
  have hts := atoms_spec (ws := wsX9_isObject) B.pre
  have hown : s.vm.findClass RX9 = some m.cls := findClass_of_methodNamed B.named
  have hlocks := B.notSynchronized
  subst hsz
  have B := xB_start hs hv
  have hl := lv_entry ([.int a0]) (n := 1) (Nat.le_of_ble_eq_true rfl)
  rw [lg_entry_eq]
  generalize (lg_sl ([.int a0]) ++ List.replicate (1 - (lg_sl ([.int a0])).length) Slot.unset).toArray = ls at hl ⊢
  have hl : lv_has ls 1 [(0, .int a0)] := hl
  generalize hAe : xA ad a s.heap.size = A at B ⊢
  unfold f_X9_isObject at hf
  refine lv_iload_n hx hb dX9_isObject_0 rfl (lv_at hl 0 rfl) ?_
  refine lv_iconst (v := (0 : Int32)) hx hb dX9_isObject_1 (by decide) ?_
  refine lv_bipush (v := (11 : Int32)) hx hb dX9_isObject_2 (by decide) ?_
  obtain ⟨r2, σ3, hu1, hf⟩ := zb_some hf
  refine x_i B (fun nb a g hs Bz => va_runS (As := [.int a0, .int (0 : Int32), .int (11 : Int32)]) (rest := []) ⟨hx, hb, hml, hown, hts⟩ (c_X9_isIn l hu1 _ nb a g hs) (va_cwS 3 hts gX9_isObject_X9_isIn rfl rfl rfl (by decide +kernel) ⟨Nat.le_of_ble_eq_true rfl, Nat.le_of_ble_eq_true rfl⟩) (z_preS Bz) rfl rfl hl.1 rfl (lv_room (Nat.le_of_ble_eq_true rfl)) dX9_isObject_4 ⟨Nat.le_of_ble_eq_true rfl, Nat.le_of_ble_eq_true rfl⟩) (fun H locs B => ?_)
  obtain ⟨hg, hf⟩ := zg_some hf
  refine W.widen (k := 0) (n := 0) (Nat.le_of_ble_eq_true rfl) (Nat.le_of_ble_eq_true rfl) ?_
  exact x_iret hx hb hr (znz hg) hlocks B hf dX9_isObject_7
theorem dX9_isToken_0 : decode cX9_isToken 0 = .ok (.iload_n 1, 1) := by decide +kernel
theorem dX9_isToken_1 : decode cX9_isToken 1 = .ok (.iconst 0, 1) := by decide +kernel
theorem dX9_isToken_2 : decode cX9_isToken 2 = .ok (.aload_n 0, 1) := by decide +kernel
theorem dX9_isToken_3 : decode cX9_isToken 3 = .ok (.getfield 9, 3) := by decide +kernel
theorem dX9_isToken_6 : decode cX9_isToken 6 = .ok (.iconst 1, 1) := by decide +kernel
theorem dX9_isToken_7 : decode cX9_isToken 7 = .ok (.iaload, 1) := by decide +kernel
theorem dX9_isToken_8 : decode cX9_isToken 8 = .ok (.iconst 1, 1) := by decide +kernel
theorem dX9_isToken_9 : decode cX9_isToken 9 = .ok (.isub, 1) := by decide +kernel
theorem dX9_isToken_10 : decode cX9_isToken 10 = .ok (.invokestatic 44, 3) := by decide +kernel
theorem dX9_isToken_13 : decode cX9_isToken 13 = .ok (.ireturn, 1) := by decide +kernel
set_option maxRecDepth 20000 in
theorem ggX9_isToken_X9_isIn : GoodIn wsX9_isToken wsX9_isIn := goodIn_r _ [5] (by decide +kernel) (by decide +kernel)
set_option maxRecDepth 20000 in
theorem gX9_isToken_X9_isIn : GoodIn wsX9_isToken (va_wsS RX9 44 yX9_isIn wsX9_isIn) := goodIn_app (goodIn_of _ (by decide +kernel)) ggX9_isToken_X9_isIn
def rm_X9_isToken : Room := { frames := 2, cells := 0, slots := 0, locals := 38 }
set_option maxHeartbeats 4000000 in
set_option maxRecDepth 100000 in
theorem c_X9_isToken (l : Launch) {G : zG} {ad : Nat → Nat} {σ σ' : zs} {a1 : Int32} {r : Int32} (hf : f_X9_isToken σ a1 = some (r, σ')) : xMi l yX9_isToken wsX9_isToken rm_X9_isToken G ad σ [.ref (ad 65), .int a1] r σ' := by
  intro sz nb a g hs
  refine Met.ofW (cc := cX9_isToken) (maxL := 2) (ret := (some .boolean)) (by decide) rfl ?_
  intro p e s m args below meth c s₁ B hml hv
  obtain ⟨rfl, hsz, hv⟩ := hv
  have hx := B.exec
  have hb := B.bytes
  have hr := B.returns
  have hts := atoms_spec (ws := wsX9_isToken) B.pre
  have hown : s.vm.findClass RX9 = some m.cls := findClass_of_methodNamed B.named
  have hlocks := B.notSynchronized
  subst hsz
  have B := xB_start hs hv
  have hinRX9 : ∀ w ∈ wsX90, w ∈ wsX9_isToken := by decide +kernel
  have hl := lv_entry ([.ref (ad 65), .int a1]) (n := 2) (Nat.le_of_ble_eq_true rfl)
  rw [lg_entry_eq]
  generalize (lg_sl ([.ref (ad 65), .int a1]) ++ List.replicate (2 - (lg_sl ([.ref (ad 65), .int a1])).length) Slot.unset).toArray = ls at hl ⊢
  have hl : lv_has ls 2 [(0, .ref (ad 65)), (1, .int a1)] := hl
  generalize hAe : xA ad a s.heap.size = A at B ⊢
  unfold f_X9_isToken at hf
  refine lv_iload_n hx hb dX9_isToken_0 rfl (lv_at hl 1 rfl) ?_
  refine lv_iconst (v := (0 : Int32)) hx hb dX9_isToken_1 (by decide) ?_
  refine lv_aload_n hx hb dX9_isToken_2 rfl (lv_at hl 0 rfl) ?_
  refine x_getr hx hb hts hinRX9 hown B 65 0 66 (by decide) (by decide) (fun _ => rfl) rfl rfl (by decide) (by decide +kernel) rfl dX9_isToken_3 ?_
  refine lv_iconst (v := (1 : Int32)) hx hb dX9_isToken_6 (by decide) ?_
  obtain ⟨hg, hf⟩ := zg_some hf
  refine x_iald hx hb B 66 (by decide) (fun _ => rfl) (zin_ok hg) dX9_isToken_7 ?_
  refine lv_iconst (v := (1 : Int32)) hx hb dX9_isToken_8 (by decide) ?_
  refine lv_isub hx hb dX9_isToken_9 ?_
  obtain ⟨r2, σ3, hu1, hf⟩ := zb_some hf
  refine x_i B (fun nb a g hs Bz => va_runS (As := [.int a1, .int (0 : Int32), .int ((σ 66 (1 : Int32).toNatClampNeg) - (1 : Int32))]) (rest := []) ⟨hx, hb, hml, hown, hts⟩ (c_X9_isIn l hu1 _ nb a g hs) (va_cwS 3 hts gX9_isToken_X9_isIn rfl rfl rfl (by decide +kernel) ⟨Nat.le_of_ble_eq_true rfl, Nat.le_of_ble_eq_true rfl⟩) (z_preS Bz) rfl rfl hl.1 rfl (lv_room (Nat.le_of_ble_eq_true rfl)) dX9_isToken_10 ⟨Nat.le_of_ble_eq_true rfl, Nat.le_of_ble_eq_true rfl⟩) (fun H locs B => ?_)
  obtain ⟨hg, hf⟩ := zg_some hf
  refine W.widen (k := 0) (n := 0) (Nat.le_of_ble_eq_true rfl) (Nat.le_of_ble_eq_true rfl) ?_
  exact x_iret hx hb hr (znz hg) hlocks B hf dX9_isToken_13
theorem dX9_has_0 : decode cX9_has 0 = .ok (.iload_n 0, 1) := by decide +kernel
theorem dX9_has_1 : decode cX9_has 1 = .ok (.iload_n 1, 1) := by decide +kernel
theorem dX9_has_2 : decode cX9_has 2 = .ok (.ishr, 1) := by decide +kernel
theorem dX9_has_3 : decode cX9_has 3 = .ok (.iconst 1, 1) := by decide +kernel
theorem dX9_has_4 : decode cX9_has 4 = .ok (.iand, 1) := by decide +kernel
theorem dX9_has_5 : decode cX9_has 5 = .ok (.iconst 1, 1) := by decide +kernel
theorem dX9_has_6 : decode cX9_has 6 = .ok (.if_icmp .ne 7, 3) := by decide +kernel
theorem dX9_has_9 : decode cX9_has 9 = .ok (.iconst 1, 1) := by decide +kernel
theorem dX9_has_10 : decode cX9_has 10 = .ok (.goto 4, 3) := by decide +kernel
theorem dX9_has_13 : decode cX9_has 13 = .ok (.iconst 0, 1) := by decide +kernel
theorem dX9_has_14 : decode cX9_has 14 = .ok (.ireturn, 1) := by decide +kernel
def rm_X9_has : Room := { frames := 1, cells := 0, slots := 0, locals := 16 }
set_option maxHeartbeats 4000000 in
set_option maxRecDepth 100000 in
theorem c_X9_has (l : Launch) {G : zG} {ad : Nat → Nat} {σ σ' : zs} {a0 a1 : Int32} {r : Int32} (hf : f_X9_has σ a0 a1 = some (r, σ')) : xMi l yX9_has wsX9_has rm_X9_has G ad σ [.int a0, .int a1] r σ' := by
  intro sz nb a g hs
  refine Met.ofW (cc := cX9_has) (maxL := 2) (ret := (some .boolean)) (by decide) rfl ?_
  intro p e s m args below meth c s₁ B hml hv
  obtain ⟨rfl, hsz, hv⟩ := hv
  have hx := B.exec
  have hb := B.bytes
  have hr := B.returns
  have hts := atoms_spec (ws := wsX9_has) B.pre
  have hown : s.vm.findClass RX9 = some m.cls := findClass_of_methodNamed B.named
  have hlocks := B.notSynchronized
  subst hsz
  have B := xB_start hs hv
  have hl := lv_entry ([.int a0, .int a1]) (n := 2) (Nat.le_of_ble_eq_true rfl)
  rw [lg_entry_eq]
  generalize (lg_sl ([.int a0, .int a1]) ++ List.replicate (2 - (lg_sl ([.int a0, .int a1])).length) Slot.unset).toArray = ls at hl ⊢
  have hl : lv_has ls 2 [(0, .int a0), (1, .int a1)] := hl
  generalize hAe : xA ad a s.heap.size = A at B ⊢
  unfold f_X9_has at hf
  refine lv_iload_n hx hb dX9_has_0 rfl (lv_at hl 0 rfl) ?_
  refine lv_iload_n hx hb dX9_has_1 rfl (lv_at hl 1 rfl) ?_
  refine lv_ishr hx hb dX9_has_2 ?_
  refine lv_iconst (v := (1 : Int32)) hx hb dX9_has_3 (by decide) ?_
  refine lv_iand hx hb dX9_has_4 ?_
  refine lv_iconst (v := (1 : Int32)) hx hb dX9_has_5 (by decide) ?_
  refine lv_icmp_ne (tgt := 13) hx hb dX9_has_6 (by decide) (fun hc => ?_) (fun hc => ?_)
  · have hf := zif_f hc hf
    refine lv_iconst (v := (0 : Int32)) hx hb dX9_has_13 (by decide) ?_
    refine W.widen (k := 0) (n := 0) (Nat.le_of_ble_eq_true rfl) (Nat.le_of_ble_eq_true rfl) ?_
    exact x_iret hx hb hr (by decide) hlocks B hf dX9_has_14
  · have hf := zif_t hc hf
    refine lv_iconst (v := (1 : Int32)) hx hb dX9_has_9 (by decide) ?_
    refine lv_goto (tgt := 14) hx hb dX9_has_10 (by decide) ?_
    refine W.widen (k := 0) (n := 0) (Nat.le_of_ble_eq_true rfl) (Nat.le_of_ble_eq_true rfl) ?_
    exact x_iret hx hb hr (by decide) hlocks B hf dX9_has_14
theorem dX9_bits_0 : decode cX9_bits 0 = .ok (.iconst 0, 1) := by decide +kernel
theorem dX9_bits_1 : decode cX9_bits 1 = .ok (.istore_n 1, 1) := by decide +kernel
theorem dX9_bits_2 : decode cX9_bits 2 = .ok (.iload_n 0, 1) := by decide +kernel
theorem dX9_bits_3 : decode cX9_bits 3 = .ok (.istore_n 2, 1) := by decide +kernel
theorem dX9_bits_4 : decode cX9_bits 4 = .ok (.iload_n 2, 1) := by decide +kernel
theorem dX9_bits_5 : decode cX9_bits 5 = .ok (.ifCond .eq 15, 3) := by decide +kernel
theorem dX9_bits_8 : decode cX9_bits 8 = .ok (.iinc 1 1, 3) := by decide +kernel
theorem dX9_bits_11 : decode cX9_bits 11 = .ok (.iload_n 2, 1) := by decide +kernel
theorem dX9_bits_12 : decode cX9_bits 12 = .ok (.iload_n 2, 1) := by decide +kernel
theorem dX9_bits_13 : decode cX9_bits 13 = .ok (.iconst 1, 1) := by decide +kernel
theorem dX9_bits_14 : decode cX9_bits 14 = .ok (.isub, 1) := by decide +kernel
theorem dX9_bits_15 : decode cX9_bits 15 = .ok (.iand, 1) := by decide +kernel
theorem dX9_bits_16 : decode cX9_bits 16 = .ok (.istore_n 2, 1) := by decide +kernel
theorem dX9_bits_17 : decode cX9_bits 17 = .ok (.goto (-13), 3) := by decide +kernel
theorem dX9_bits_20 : decode cX9_bits 20 = .ok (.iload_n 1, 1) := by decide +kernel
theorem dX9_bits_21 : decode cX9_bits 21 = .ok (.ireturn, 1) := by decide +kernel
def rm_X9_bits : Room := { frames := 1, cells := 0, slots := 0, locals := 16 }
set_option maxHeartbeats 4000000 in
set_option maxRecDepth 100000 in
theorem c_X9_bits (l : Launch) {G : zG} {ad : Nat → Nat} {σ σ' : zs} {a0 : Int32} {r : Int32} (hf : f_X9_bits σ a0 = some (r, σ')) : xMi l yX9_bits wsX9_bits rm_X9_bits G ad σ [.int a0] r σ' := by
  intro sz nb a g hs
  refine Met.ofW (cc := cX9_bits) (maxL := 3) (ret := (some .int)) (by decide) rfl ?_
  intro p e s m args below meth c s₁ B hml hv
  obtain ⟨rfl, hsz, hv⟩ := hv
  have hx := B.exec
  have hb := B.bytes
  have hr := B.returns
  have hts := atoms_spec (ws := wsX9_bits) B.pre
  have hown : s.vm.findClass RX9 = some m.cls := findClass_of_methodNamed B.named
  have hlocks := B.notSynchronized
  subst hsz
  have B := xB_start hs hv
  have hl := lv_entry ([.int a0]) (n := 3) (Nat.le_of_ble_eq_true rfl)
  rw [lg_entry_eq]
  generalize (lg_sl ([.int a0]) ++ List.replicate (3 - (lg_sl ([.int a0])).length) Slot.unset).toArray = ls at hl ⊢
  have hl : lv_has ls 3 [(0, .int a0)] := hl
  generalize hAe : xA ad a s.heap.size = A at B ⊢
  have L4 : ∀ (n : Nat) (σ : zs) (v1 : Int32) (v2 : Int32) (H : Heap) (locs : List Loc) (ls : Array Slot), zlp2 (f_X9_bits_4) n σ v1 v2 = some (r, σ') → xB A s G ad σ H locs → lv_has ls 3 [(1, .int v1), (2, .int v2)] → W p l e (headSpec wsX9_bits rm_X9_bits).room s m ([.int a0] : List Value).toArray below meth c H locs 0 0 (MQ below (va_Qi (fun r' (u : xV) => r' = r ∧ xQ σ' u) (xPost G ad σ' A) A) ([.int a0] : List Value).toArray s 0 0 A) (F0 m 4 ls []) := by
    intro n
    induction n with
    | zero =>
      intro σ v1 v2 H locs ls hf
      cases hf
    | succ n ih =>
      intro σ v1 v2 H locs ls hf B hl
      have hf : f_X9_bits_4 (zlp2 (f_X9_bits_4) n) σ v1 v2 = some (r, σ') := hf
      unfold f_X9_bits_4 at hf
      refine lv_iload_n hx hb dX9_bits_4 rfl (lv_at hl 1 rfl) ?_
      refine lv_if_eq (tgt := 20) hx hb dX9_bits_5 (by decide) (fun hc => ?_) (fun hc => ?_)
      · have hf := zif_t hc hf
        refine lv_iload_n hx hb dX9_bits_20 rfl (lv_at hl 0 rfl) ?_
        refine W.widen (k := 0) (n := 0) (Nat.le_of_ble_eq_true rfl) (Nat.le_of_ble_eq_true rfl) ?_
        exact x_iret hx hb hr rfl hlocks B hf dX9_bits_21
      · have hf := zif_f hc hf
        refine lv_iinc (v := (v1 + (1 : Int32))) (lv' := [(1, .int (v1 + (1 : Int32))), (2, .int v2)]) hx hb dX9_bits_8 hl (k := 0) rfl (zc1 (by decide)) (by decide) rfl (fun ls hl => ?_)
        refine lv_iload_n hx hb dX9_bits_11 rfl (lv_at hl 1 rfl) ?_
        refine lv_iload_n hx hb dX9_bits_12 rfl (lv_at hl 1 rfl) ?_
        refine lv_iconst (v := (1 : Int32)) hx hb dX9_bits_13 (by decide) ?_
        refine lv_isub hx hb dX9_bits_14 ?_
        refine lv_iand hx hb dX9_bits_15 ?_
        refine lv_istore_n (lv' := [(2, .int (v2 &&& (v2 - (1 : Int32)))), (1, .int (v1 + (1 : Int32)))]) hx hb dX9_bits_16 rfl hl (by decide) rfl (fun ls hl => ?_)
        refine lv_goto (tgt := 4) hx hb dX9_bits_17 (by decide) ?_
        exact ih _ _ _ _ _ _ hf B (lv_sub hl [1, 0] rfl)
  unfold f_X9_bits at hf
  refine lv_iconst (v := (0 : Int32)) hx hb dX9_bits_0 (by decide) ?_
  refine lv_istore_n (lv' := [(1, .int (0 : Int32)), (0, .int a0)]) hx hb dX9_bits_1 rfl hl (by decide) rfl (fun ls hl => ?_)
  refine lv_iload_n hx hb dX9_bits_2 rfl (lv_at hl 1 rfl) ?_
  refine lv_istore_n (lv' := [(2, .int a0), (1, .int (0 : Int32)), (0, .int a0)]) hx hb dX9_bits_3 rfl hl (by decide) rfl (fun ls hl => ?_)
  exact L4  _ _ _ _ _ _ _ hf B (lv_sub hl [1, 0] rfl)
theorem dX9_chainOf_0 : decode cX9_chainOf 0 = .ok (.iconst 0, 1) := by decide +kernel
theorem dX9_chainOf_1 : decode cX9_chainOf 1 = .ok (.istore_n 2, 1) := by decide +kernel
theorem dX9_chainOf_2 : decode cX9_chainOf 2 = .ok (.iload_n 1, 1) := by decide +kernel
theorem dX9_chainOf_3 : decode cX9_chainOf 3 = .ok (.istore_n 3, 1) := by decide +kernel
theorem dX9_chainOf_4 : decode cX9_chainOf 4 = .ok (.iload_n 3, 1) := by decide +kernel
theorem dX9_chainOf_5 : decode cX9_chainOf 5 = .ok (.ifCond .lt 19, 3) := by decide +kernel
theorem dX9_chainOf_8 : decode cX9_chainOf 8 = .ok (.iinc 2 1, 3) := by decide +kernel
theorem dX9_chainOf_11 : decode cX9_chainOf 11 = .ok (.aload_n 0, 1) := by decide +kernel
theorem dX9_chainOf_12 : decode cX9_chainOf 12 = .ok (.getfield 9, 3) := by decide +kernel
theorem dX9_chainOf_15 : decode cX9_chainOf 15 = .ok (.bipush 79, 2) := by decide +kernel
theorem dX9_chainOf_17 : decode cX9_chainOf 17 = .ok (.iload_n 3, 1) := by decide +kernel
theorem dX9_chainOf_18 : decode cX9_chainOf 18 = .ok (.iadd, 1) := by decide +kernel
theorem dX9_chainOf_19 : decode cX9_chainOf 19 = .ok (.iaload, 1) := by decide +kernel
theorem dX9_chainOf_20 : decode cX9_chainOf 20 = .ok (.istore_n 3, 1) := by decide +kernel
theorem dX9_chainOf_21 : decode cX9_chainOf 21 = .ok (.goto (-17), 3) := by decide +kernel
theorem dX9_chainOf_24 : decode cX9_chainOf 24 = .ok (.iload_n 2, 1) := by decide +kernel
theorem dX9_chainOf_25 : decode cX9_chainOf 25 = .ok (.istore_n 3, 1) := by decide +kernel
theorem dX9_chainOf_26 : decode cX9_chainOf 26 = .ok (.iload_n 1, 1) := by decide +kernel
theorem dX9_chainOf_27 : decode cX9_chainOf 27 = .ok (.istore 4, 2) := by decide +kernel
theorem dX9_chainOf_29 : decode cX9_chainOf 29 = .ok (.iload 4, 2) := by decide +kernel
theorem dX9_chainOf_31 : decode cX9_chainOf 31 = .ok (.ifCond .lt 29, 3) := by decide +kernel
theorem dX9_chainOf_34 : decode cX9_chainOf 34 = .ok (.iinc 3 (-1), 3) := by decide +kernel
theorem dX9_chainOf_37 : decode cX9_chainOf 37 = .ok (.aload_n 0, 1) := by decide +kernel
theorem dX9_chainOf_38 : decode cX9_chainOf 38 = .ok (.getfield 23, 3) := by decide +kernel
theorem dX9_chainOf_41 : decode cX9_chainOf 41 = .ok (.iload_n 3, 1) := by decide +kernel
theorem dX9_chainOf_42 : decode cX9_chainOf 42 = .ok (.iload 4, 2) := by decide +kernel
theorem dX9_chainOf_44 : decode cX9_chainOf 44 = .ok (.iastore, 1) := by decide +kernel
theorem dX9_chainOf_45 : decode cX9_chainOf 45 = .ok (.aload_n 0, 1) := by decide +kernel
theorem dX9_chainOf_46 : decode cX9_chainOf 46 = .ok (.getfield 9, 3) := by decide +kernel
theorem dX9_chainOf_49 : decode cX9_chainOf 49 = .ok (.bipush 79, 2) := by decide +kernel
theorem dX9_chainOf_51 : decode cX9_chainOf 51 = .ok (.iload 4, 2) := by decide +kernel
theorem dX9_chainOf_53 : decode cX9_chainOf 53 = .ok (.iadd, 1) := by decide +kernel
theorem dX9_chainOf_54 : decode cX9_chainOf 54 = .ok (.iaload, 1) := by decide +kernel
theorem dX9_chainOf_55 : decode cX9_chainOf 55 = .ok (.istore 4, 2) := by decide +kernel
theorem dX9_chainOf_57 : decode cX9_chainOf 57 = .ok (.goto (-28), 3) := by decide +kernel
theorem dX9_chainOf_60 : decode cX9_chainOf 60 = .ok (.iload_n 2, 1) := by decide +kernel
theorem dX9_chainOf_61 : decode cX9_chainOf 61 = .ok (.ireturn, 1) := by decide +kernel
def rm_X9_chainOf : Room := { frames := 1, cells := 0, slots := 0, locals := 16 }
set_option maxHeartbeats 4000000 in
set_option maxRecDepth 100000 in
theorem c_X9_chainOf (l : Launch) {G : zG} {ad : Nat → Nat} {σ σ' : zs} {a1 : Int32} {r : Int32} (hf : f_X9_chainOf σ a1 = some (r, σ')) : xMi l yX9_chainOf wsX9_chainOf rm_X9_chainOf G ad σ [.ref (ad 65), .int a1] r σ' := by
  intro sz nb a g hs
  refine Met.ofW (cc := cX9_chainOf) (maxL := 5) (ret := (some .int)) (by decide) rfl ?_
  intro p e s m args below meth c s₁ B hml hv
  obtain ⟨rfl, hsz, hv⟩ := hv
  have hx := B.exec
  have hb := B.bytes
  have hr := B.returns
  have hts := atoms_spec (ws := wsX9_chainOf) B.pre
  have hown : s.vm.findClass RX9 = some m.cls := findClass_of_methodNamed B.named
  have hlocks := B.notSynchronized
  subst hsz
  have B := xB_start hs hv
  have hinRX9 : ∀ w ∈ wsX90, w ∈ wsX9_chainOf := by decide +kernel
  have hl := lv_entry ([.ref (ad 65), .int a1]) (n := 5) (Nat.le_of_ble_eq_true rfl)
  rw [lg_entry_eq]
  generalize (lg_sl ([.ref (ad 65), .int a1]) ++ List.replicate (5 - (lg_sl ([.ref (ad 65), .int a1])).length) Slot.unset).toArray = ls at hl ⊢
  have hl : lv_has ls 5 [(0, .ref (ad 65)), (1, .int a1)] := hl
  generalize hAe : xA ad a s.heap.size = A at B ⊢
  have L29 : ∀ (n : Nat) (σ : zs) (v2 : Int32) (v3 : Int32) (v4 : Int32) (H : Heap) (locs : List Loc) (ls : Array Slot), zlp3 (f_X9_chainOf_29) n σ v2 v3 v4 = some (r, σ') → xB A s G ad σ H locs → lv_has ls 5 [(0, .ref (ad 65)), (2, .int v2), (3, .int v3), (4, .int v4)] → W p l e (headSpec wsX9_chainOf rm_X9_chainOf).room s m ([.ref (ad 65), .int a1] : List Value).toArray below meth c H locs 0 0 (MQ below (va_Qi (fun r' (u : xV) => r' = r ∧ xQ σ' u) (xPost G ad σ' A) A) ([.ref (ad 65), .int a1] : List Value).toArray s 0 0 A) (F0 m 29 ls []) := by
    intro n
    induction n with
    | zero =>
      intro σ v2 v3 v4 H locs ls hf
      cases hf
    | succ n ih =>
      intro σ v2 v3 v4 H locs ls hf B hl
      have hf : f_X9_chainOf_29 (zlp3 (f_X9_chainOf_29) n) σ v2 v3 v4 = some (r, σ') := hf
      unfold f_X9_chainOf_29 at hf
      refine lv_iload hx hb dX9_chainOf_29 (lv_at hl 3 rfl) ?_
      refine lv_if_lt (tgt := 60) hx hb dX9_chainOf_31 (by decide) (fun hc => ?_) (fun hc => ?_)
      · have hf := zif_t hc hf
        refine lv_iload_n hx hb dX9_chainOf_60 rfl (lv_at hl 1 rfl) ?_
        refine W.widen (k := 0) (n := 0) (Nat.le_of_ble_eq_true rfl) (Nat.le_of_ble_eq_true rfl) ?_
        exact x_iret hx hb hr rfl hlocks B hf dX9_chainOf_61
      · have hf := zif_f hc hf
        refine lv_iinc (v := (v3 + (-1 : Int32))) (lv' := [(3, .int (v3 + (-1 : Int32))), (0, .ref (ad 65)), (2, .int v2), (4, .int v4)]) hx hb dX9_chainOf_34 hl (k := 2) rfl (zc1 (by decide)) (by decide) rfl (fun ls hl => ?_)
        refine lv_aload_n hx hb dX9_chainOf_37 rfl (lv_at hl 1 rfl) ?_
        refine x_getr hx hb hts hinRX9 hown B 65 7 69 (by decide) (by decide) (fun _ => rfl) rfl rfl (by decide) (by decide +kernel) rfl dX9_chainOf_38 ?_
        refine lv_iload_n hx hb dX9_chainOf_41 rfl (lv_at hl 0 rfl) ?_
        refine lv_iload hx hb dX9_chainOf_42 (lv_at hl 3 rfl) ?_
        obtain ⟨hg, hf⟩ := zg_some hf
        refine x_iast hx hb B 69 (by decide) (by decide) (fun _ => rfl) (zin_ok hg) dX9_chainOf_44 (fun H locs B => ?_)
        refine lv_aload_n hx hb dX9_chainOf_45 rfl (lv_at hl 1 rfl) ?_
        refine x_getr hx hb hts hinRX9 hown B 65 0 66 (by decide) (by decide) (fun _ => rfl) rfl rfl (by decide) (by decide +kernel) rfl dX9_chainOf_46 ?_
        refine lv_bipush (v := (79 : Int32)) hx hb dX9_chainOf_49 (by decide) ?_
        refine lv_iload hx hb dX9_chainOf_51 (lv_at hl 3 rfl) ?_
        refine lv_iadd hx hb dX9_chainOf_53 ?_
        obtain ⟨hg, hf⟩ := zg_some hf
        refine x_iald hx hb B 66 (by decide) (fun _ => rfl) (zin_ok hg) dX9_chainOf_54 ?_
        refine lv_istore (lv' := [(4, .int ((zp σ 69 (v3 + (-1 : Int32)).toNatClampNeg v4) 66 ((79 : Int32) + v4).toNatClampNeg)), (3, .int (v3 + (-1 : Int32))), (0, .ref (ad 65)), (2, .int v2)]) hx hb dX9_chainOf_55 hl (by decide) rfl (fun ls hl => ?_)
        refine lv_goto (tgt := 29) hx hb dX9_chainOf_57 (by decide) ?_
        exact ih _ _ _ _ _ _ _ hf B (lv_sub hl [2, 3, 1, 0] rfl)
  have L4 : ∀ (n : Nat) (σ : zs) (v1 : Int32) (v2 : Int32) (v3 : Int32) (H : Heap) (locs : List Loc) (ls : Array Slot), zlp3 (f_X9_chainOf_4) n σ v1 v2 v3 = some (r, σ') → xB A s G ad σ H locs → lv_has ls 5 [(0, .ref (ad 65)), (1, .int v1), (2, .int v2), (3, .int v3)] → W p l e (headSpec wsX9_chainOf rm_X9_chainOf).room s m ([.ref (ad 65), .int a1] : List Value).toArray below meth c H locs 0 0 (MQ below (va_Qi (fun r' (u : xV) => r' = r ∧ xQ σ' u) (xPost G ad σ' A) A) ([.ref (ad 65), .int a1] : List Value).toArray s 0 0 A) (F0 m 4 ls []) := by
    intro n
    induction n with
    | zero =>
      intro σ v1 v2 v3 H locs ls hf
      cases hf
    | succ n ih =>
      intro σ v1 v2 v3 H locs ls hf B hl
      have hf : f_X9_chainOf_4 (zlp3 (f_X9_chainOf_4) n) σ v1 v2 v3 = some (r, σ') := hf
      unfold f_X9_chainOf_4 at hf
      refine lv_iload_n hx hb dX9_chainOf_4 rfl (lv_at hl 3 rfl) ?_
      refine lv_if_lt (tgt := 24) hx hb dX9_chainOf_5 (by decide) (fun hc => ?_) (fun hc => ?_)
      · have hf := zif_t hc hf
        refine lv_iload_n hx hb dX9_chainOf_24 rfl (lv_at hl 2 rfl) ?_
        refine lv_istore_n (lv' := [(3, .int v2), (0, .ref (ad 65)), (1, .int v1), (2, .int v2)]) hx hb dX9_chainOf_25 rfl hl (by decide) rfl (fun ls hl => ?_)
        refine lv_iload_n hx hb dX9_chainOf_26 rfl (lv_at hl 2 rfl) ?_
        refine lv_istore (lv' := [(4, .int v1), (3, .int v2), (0, .ref (ad 65)), (1, .int v1), (2, .int v2)]) hx hb dX9_chainOf_27 hl (by decide) rfl (fun ls hl => ?_)
        exact L29  _ _ _ _ _ _ _ _ hf B (lv_sub hl [2, 4, 1, 0] rfl)
      · have hf := zif_f hc hf
        refine lv_iinc (v := (v2 + (1 : Int32))) (lv' := [(2, .int (v2 + (1 : Int32))), (0, .ref (ad 65)), (1, .int v1), (3, .int v3)]) hx hb dX9_chainOf_8 hl (k := 2) rfl (zc1 (by decide)) (by decide) rfl (fun ls hl => ?_)
        refine lv_aload_n hx hb dX9_chainOf_11 rfl (lv_at hl 1 rfl) ?_
        refine x_getr hx hb hts hinRX9 hown B 65 0 66 (by decide) (by decide) (fun _ => rfl) rfl rfl (by decide) (by decide +kernel) rfl dX9_chainOf_12 ?_
        refine lv_bipush (v := (79 : Int32)) hx hb dX9_chainOf_15 (by decide) ?_
        refine lv_iload_n hx hb dX9_chainOf_17 rfl (lv_at hl 3 rfl) ?_
        refine lv_iadd hx hb dX9_chainOf_18 ?_
        obtain ⟨hg, hf⟩ := zg_some hf
        refine x_iald hx hb B 66 (by decide) (fun _ => rfl) (zin_ok hg) dX9_chainOf_19 ?_
        refine lv_istore_n (lv' := [(3, .int (σ 66 ((79 : Int32) + v3).toNatClampNeg)), (2, .int (v2 + (1 : Int32))), (0, .ref (ad 65)), (1, .int v1)]) hx hb dX9_chainOf_20 rfl hl (by decide) rfl (fun ls hl => ?_)
        refine lv_goto (tgt := 4) hx hb dX9_chainOf_21 (by decide) ?_
        exact ih _ _ _ _ _ _ _ hf B (lv_sub hl [2, 3, 1, 0] rfl)
  unfold f_X9_chainOf at hf
  refine lv_iconst (v := (0 : Int32)) hx hb dX9_chainOf_0 (by decide) ?_
  refine lv_istore_n (lv' := [(2, .int (0 : Int32)), (0, .ref (ad 65)), (1, .int a1)]) hx hb dX9_chainOf_1 rfl hl (by decide) rfl (fun ls hl => ?_)
  refine lv_iload_n hx hb dX9_chainOf_2 rfl (lv_at hl 2 rfl) ?_
  refine lv_istore_n (lv' := [(3, .int a1), (2, .int (0 : Int32)), (0, .ref (ad 65)), (1, .int a1)]) hx hb dX9_chainOf_3 rfl hl (by decide) rfl (fun ls hl => ?_)
  exact L4  _ _ _ _ _ _ _ _ hf B (lv_sub hl [2, 3, 1, 0] rfl)
theorem dX9_revokedIn_0 : decode cX9_revokedIn 0 = .ok (.iconst 0, 1) := by decide +kernel
theorem dX9_revokedIn_1 : decode cX9_revokedIn 1 = .ok (.istore_n 2, 1) := by decide +kernel
theorem dX9_revokedIn_2 : decode cX9_revokedIn 2 = .ok (.iload_n 1, 1) := by decide +kernel
theorem dX9_revokedIn_3 : decode cX9_revokedIn 3 = .ok (.istore_n 3, 1) := by decide +kernel
theorem dX9_revokedIn_4 : decode cX9_revokedIn 4 = .ok (.iload_n 3, 1) := by decide +kernel
theorem dX9_revokedIn_5 : decode cX9_revokedIn 5 = .ok (.ifCond .lt 37, 3) := by decide +kernel
theorem dX9_revokedIn_8 : decode cX9_revokedIn 8 = .ok (.iload_n 2, 1) := by decide +kernel
theorem dX9_revokedIn_9 : decode cX9_revokedIn 9 = .ok (.aload_n 0, 1) := by decide +kernel
theorem dX9_revokedIn_10 : decode cX9_revokedIn 10 = .ok (.getfield 9, 3) := by decide +kernel
theorem dX9_revokedIn_13 : decode cX9_revokedIn 13 = .ok (.sipush 135, 3) := by decide +kernel
theorem dX9_revokedIn_16 : decode cX9_revokedIn 16 = .ok (.iload_n 3, 1) := by decide +kernel
theorem dX9_revokedIn_17 : decode cX9_revokedIn 17 = .ok (.iadd, 1) := by decide +kernel
theorem dX9_revokedIn_18 : decode cX9_revokedIn 18 = .ok (.iaload, 1) := by decide +kernel
theorem dX9_revokedIn_19 : decode cX9_revokedIn 19 = .ok (.ifCond .lt 7, 3) := by decide +kernel
theorem dX9_revokedIn_22 : decode cX9_revokedIn 22 = .ok (.iconst 1, 1) := by decide +kernel
theorem dX9_revokedIn_23 : decode cX9_revokedIn 23 = .ok (.goto 4, 3) := by decide +kernel
theorem dX9_revokedIn_26 : decode cX9_revokedIn 26 = .ok (.iconst 0, 1) := by decide +kernel
theorem dX9_revokedIn_27 : decode cX9_revokedIn 27 = .ok (.iadd, 1) := by decide +kernel
theorem dX9_revokedIn_28 : decode cX9_revokedIn 28 = .ok (.istore_n 2, 1) := by decide +kernel
theorem dX9_revokedIn_29 : decode cX9_revokedIn 29 = .ok (.aload_n 0, 1) := by decide +kernel
theorem dX9_revokedIn_30 : decode cX9_revokedIn 30 = .ok (.getfield 9, 3) := by decide +kernel
theorem dX9_revokedIn_33 : decode cX9_revokedIn 33 = .ok (.bipush 79, 2) := by decide +kernel
theorem dX9_revokedIn_35 : decode cX9_revokedIn 35 = .ok (.iload_n 3, 1) := by decide +kernel
theorem dX9_revokedIn_36 : decode cX9_revokedIn 36 = .ok (.iadd, 1) := by decide +kernel
theorem dX9_revokedIn_37 : decode cX9_revokedIn 37 = .ok (.iaload, 1) := by decide +kernel
theorem dX9_revokedIn_38 : decode cX9_revokedIn 38 = .ok (.istore_n 3, 1) := by decide +kernel
theorem dX9_revokedIn_39 : decode cX9_revokedIn 39 = .ok (.goto (-35), 3) := by decide +kernel
theorem dX9_revokedIn_42 : decode cX9_revokedIn 42 = .ok (.iload_n 2, 1) := by decide +kernel
theorem dX9_revokedIn_43 : decode cX9_revokedIn 43 = .ok (.ireturn, 1) := by decide +kernel
def rm_X9_revokedIn : Room := { frames := 1, cells := 0, slots := 0, locals := 16 }
set_option maxHeartbeats 4000000 in
set_option maxRecDepth 100000 in
theorem c_X9_revokedIn (l : Launch) {G : zG} {ad : Nat → Nat} {σ σ' : zs} {a1 : Int32} {r : Int32} (hf : f_X9_revokedIn σ a1 = some (r, σ')) : xMi l yX9_revokedIn wsX9_revokedIn rm_X9_revokedIn G ad σ [.ref (ad 65), .int a1] r σ' := by
  intro sz nb a g hs
  refine Met.ofW (cc := cX9_revokedIn) (maxL := 4) (ret := (some .int)) (by decide) rfl ?_
  intro p e s m args below meth c s₁ B hml hv
  obtain ⟨rfl, hsz, hv⟩ := hv
  have hx := B.exec
  have hb := B.bytes
  have hr := B.returns
  have hts := atoms_spec (ws := wsX9_revokedIn) B.pre
  have hown : s.vm.findClass RX9 = some m.cls := findClass_of_methodNamed B.named
  have hlocks := B.notSynchronized
  subst hsz
  have B := xB_start hs hv
  have hinRX9 : ∀ w ∈ wsX90, w ∈ wsX9_revokedIn := by decide +kernel
  have hl := lv_entry ([.ref (ad 65), .int a1]) (n := 4) (Nat.le_of_ble_eq_true rfl)
  rw [lg_entry_eq]
  generalize (lg_sl ([.ref (ad 65), .int a1]) ++ List.replicate (4 - (lg_sl ([.ref (ad 65), .int a1])).length) Slot.unset).toArray = ls at hl ⊢
  have hl : lv_has ls 4 [(0, .ref (ad 65)), (1, .int a1)] := hl
  generalize hAe : xA ad a s.heap.size = A at B ⊢
  have L27 : ∀ (K4 : zs → Int32 → Int32 → Option (Int32 × zs)) (hK4 : ∀ (σ : zs) (v2 : Int32) (v3 : Int32) (H : Heap) (locs : List Loc) (ls : Array Slot), K4 σ v2 v3 = some (r, σ') → xB A s G ad σ H locs → lv_has ls 4 [(0, .ref (ad 65)), (2, .int v2), (3, .int v3)] → W p l e (headSpec wsX9_revokedIn rm_X9_revokedIn).room s m ([.ref (ad 65), .int a1] : List Value).toArray below meth c H locs 0 0 (MQ below (va_Qi (fun r' (u : xV) => r' = r ∧ xQ σ' u) (xPost G ad σ' A) A) ([.ref (ad 65), .int a1] : List Value).toArray s 0 0 A) (F0 m 4 ls [])) (σ : zs) (v3 : Int32) (s0 : Int32) (s1 : Int32) (H : Heap) (locs : List Loc) (ls : Array Slot), f_X9_revokedIn_27 K4 σ v3 s0 s1 = some (r, σ') → xB A s G ad σ H locs → lv_has ls 4 [(0, .ref (ad 65)), (3, .int v3)] → W p l e (headSpec wsX9_revokedIn rm_X9_revokedIn).room s m ([.ref (ad 65), .int a1] : List Value).toArray below meth c H locs 0 0 (MQ below (va_Qi (fun r' (u : xV) => r' = r ∧ xQ σ' u) (xPost G ad σ' A) A) ([.ref (ad 65), .int a1] : List Value).toArray s 0 0 A) (F0 m 27 ls [.int s0, .int s1]) := by
    intro K4 hK4 σ v3 s0 s1 H locs ls hf B hl
    unfold f_X9_revokedIn_27 at hf
    refine lv_iadd hx hb dX9_revokedIn_27 ?_
    refine lv_istore_n (lv' := [(2, .int (s1 + s0)), (0, .ref (ad 65)), (3, .int v3)]) hx hb dX9_revokedIn_28 rfl hl (by decide) rfl (fun ls hl => ?_)
    refine lv_aload_n hx hb dX9_revokedIn_29 rfl (lv_at hl 1 rfl) ?_
    refine x_getr hx hb hts hinRX9 hown B 65 0 66 (by decide) (by decide) (fun _ => rfl) rfl rfl (by decide) (by decide +kernel) rfl dX9_revokedIn_30 ?_
    refine lv_bipush (v := (79 : Int32)) hx hb dX9_revokedIn_33 (by decide) ?_
    refine lv_iload_n hx hb dX9_revokedIn_35 rfl (lv_at hl 2 rfl) ?_
    refine lv_iadd hx hb dX9_revokedIn_36 ?_
    obtain ⟨hg, hf⟩ := zg_some hf
    refine x_iald hx hb B 66 (by decide) (fun _ => rfl) (zin_ok hg) dX9_revokedIn_37 ?_
    refine lv_istore_n (lv' := [(3, .int (σ 66 ((79 : Int32) + v3).toNatClampNeg)), (2, .int (s1 + s0)), (0, .ref (ad 65))]) hx hb dX9_revokedIn_38 rfl hl (by decide) rfl (fun ls hl => ?_)
    refine lv_goto (tgt := 4) hx hb dX9_revokedIn_39 (by decide) ?_
    exact hK4 _ _ _ _ _ _ hf B (lv_sub hl [2, 1, 0] rfl)
  have L4 : ∀ (n : Nat) (σ : zs) (v2 : Int32) (v3 : Int32) (H : Heap) (locs : List Loc) (ls : Array Slot), zlp2 (f_X9_revokedIn_4) n σ v2 v3 = some (r, σ') → xB A s G ad σ H locs → lv_has ls 4 [(0, .ref (ad 65)), (2, .int v2), (3, .int v3)] → W p l e (headSpec wsX9_revokedIn rm_X9_revokedIn).room s m ([.ref (ad 65), .int a1] : List Value).toArray below meth c H locs 0 0 (MQ below (va_Qi (fun r' (u : xV) => r' = r ∧ xQ σ' u) (xPost G ad σ' A) A) ([.ref (ad 65), .int a1] : List Value).toArray s 0 0 A) (F0 m 4 ls []) := by
    intro n
    induction n with
    | zero =>
      intro σ v2 v3 H locs ls hf
      cases hf
    | succ n ih =>
      intro σ v2 v3 H locs ls hf B hl
      have hf : f_X9_revokedIn_4 (zlp2 (f_X9_revokedIn_4) n) σ v2 v3 = some (r, σ') := hf
      unfold f_X9_revokedIn_4 at hf
      refine lv_iload_n hx hb dX9_revokedIn_4 rfl (lv_at hl 2 rfl) ?_
      refine lv_if_lt (tgt := 42) hx hb dX9_revokedIn_5 (by decide) (fun hc => ?_) (fun hc => ?_)
      · have hf := zif_t hc hf
        refine lv_iload_n hx hb dX9_revokedIn_42 rfl (lv_at hl 1 rfl) ?_
        refine W.widen (k := 0) (n := 0) (Nat.le_of_ble_eq_true rfl) (Nat.le_of_ble_eq_true rfl) ?_
        exact x_iret hx hb hr rfl hlocks B hf dX9_revokedIn_43
      · have hf := zif_f hc hf
        refine lv_iload_n hx hb dX9_revokedIn_8 rfl (lv_at hl 1 rfl) ?_
        refine lv_aload_n hx hb dX9_revokedIn_9 rfl (lv_at hl 0 rfl) ?_
        refine x_getr hx hb hts hinRX9 hown B 65 0 66 (by decide) (by decide) (fun _ => rfl) rfl rfl (by decide) (by decide +kernel) rfl dX9_revokedIn_10 ?_
        refine lv_sipush (v := (135 : Int32)) hx hb dX9_revokedIn_13 (by decide) ?_
        refine lv_iload_n hx hb dX9_revokedIn_16 rfl (lv_at hl 2 rfl) ?_
        refine lv_iadd hx hb dX9_revokedIn_17 ?_
        obtain ⟨hg, hf⟩ := zg_some hf
        refine x_iald hx hb B 66 (by decide) (fun _ => rfl) (zin_ok hg) dX9_revokedIn_18 ?_
        refine lv_if_lt (tgt := 26) hx hb dX9_revokedIn_19 (by decide) (fun hc => ?_) (fun hc => ?_)
        · have hf := zif_t hc hf
          refine lv_iconst (v := (0 : Int32)) hx hb dX9_revokedIn_26 (by decide) ?_
          exact L27 _ ih  _ _ _ _ _ _ _ hf B (lv_sub hl [0, 2] rfl)
        · have hf := zif_f hc hf
          refine lv_iconst (v := (1 : Int32)) hx hb dX9_revokedIn_22 (by decide) ?_
          refine lv_goto (tgt := 27) hx hb dX9_revokedIn_23 (by decide) ?_
          exact L27 _ ih  _ _ _ _ _ _ _ hf B (lv_sub hl [0, 2] rfl)
  unfold f_X9_revokedIn at hf
  refine lv_iconst (v := (0 : Int32)) hx hb dX9_revokedIn_0 (by decide) ?_
  refine lv_istore_n (lv' := [(2, .int (0 : Int32)), (0, .ref (ad 65)), (1, .int a1)]) hx hb dX9_revokedIn_1 rfl hl (by decide) rfl (fun ls hl => ?_)
  refine lv_iload_n hx hb dX9_revokedIn_2 rfl (lv_at hl 2 rfl) ?_
  refine lv_istore_n (lv' := [(3, .int a1), (2, .int (0 : Int32)), (0, .ref (ad 65)), (1, .int a1)]) hx hb dX9_revokedIn_3 rfl hl (by decide) rfl (fun ls hl => ?_)
  exact L4  _ _ _ _ _ _ _ hf B (lv_sub hl [2, 1, 0] rfl)
theorem dX9_isBelow_0 : decode cX9_isBelow 0 = .ok (.iload_n 1, 1) := by decide +kernel
theorem dX9_isBelow_1 : decode cX9_isBelow 1 = .ok (.istore_n 3, 1) := by decide +kernel
theorem dX9_isBelow_2 : decode cX9_isBelow 2 = .ok (.iload_n 3, 1) := by decide +kernel
theorem dX9_isBelow_3 : decode cX9_isBelow 3 = .ok (.ifCond .lt 23, 3) := by decide +kernel
theorem dX9_isBelow_6 : decode cX9_isBelow 6 = .ok (.iload_n 3, 1) := by decide +kernel
theorem dX9_isBelow_7 : decode cX9_isBelow 7 = .ok (.iload_n 2, 1) := by decide +kernel
theorem dX9_isBelow_8 : decode cX9_isBelow 8 = .ok (.if_icmp .ne 5, 3) := by decide +kernel
theorem dX9_isBelow_11 : decode cX9_isBelow 11 = .ok (.iconst 1, 1) := by decide +kernel
theorem dX9_isBelow_12 : decode cX9_isBelow 12 = .ok (.ireturn, 1) := by decide +kernel
theorem dX9_isBelow_13 : decode cX9_isBelow 13 = .ok (.aload_n 0, 1) := by decide +kernel
theorem dX9_isBelow_14 : decode cX9_isBelow 14 = .ok (.getfield 9, 3) := by decide +kernel
theorem dX9_isBelow_17 : decode cX9_isBelow 17 = .ok (.bipush 79, 2) := by decide +kernel
theorem dX9_isBelow_19 : decode cX9_isBelow 19 = .ok (.iload_n 3, 1) := by decide +kernel
theorem dX9_isBelow_20 : decode cX9_isBelow 20 = .ok (.iadd, 1) := by decide +kernel
theorem dX9_isBelow_21 : decode cX9_isBelow 21 = .ok (.iaload, 1) := by decide +kernel
theorem dX9_isBelow_22 : decode cX9_isBelow 22 = .ok (.istore_n 3, 1) := by decide +kernel
theorem dX9_isBelow_23 : decode cX9_isBelow 23 = .ok (.goto (-21), 3) := by decide +kernel
theorem dX9_isBelow_26 : decode cX9_isBelow 26 = .ok (.iconst 0, 1) := by decide +kernel
theorem dX9_isBelow_27 : decode cX9_isBelow 27 = .ok (.ireturn, 1) := by decide +kernel
def rm_X9_isBelow : Room := { frames := 1, cells := 0, slots := 0, locals := 16 }
set_option maxHeartbeats 4000000 in
set_option maxRecDepth 100000 in
theorem c_X9_isBelow (l : Launch) {G : zG} {ad : Nat → Nat} {σ σ' : zs} {a1 a2 : Int32} {r : Int32} (hf : f_X9_isBelow σ a1 a2 = some (r, σ')) : xMi l yX9_isBelow wsX9_isBelow rm_X9_isBelow G ad σ [.ref (ad 65), .int a1, .int a2] r σ' := by
  intro sz nb a g hs
  refine Met.ofW (cc := cX9_isBelow) (maxL := 4) (ret := (some .boolean)) (by decide) rfl ?_
  intro p e s m args below meth c s₁ B hml hv
  obtain ⟨rfl, hsz, hv⟩ := hv
  have hx := B.exec
  have hb := B.bytes
  have hr := B.returns
  have hts := atoms_spec (ws := wsX9_isBelow) B.pre
  have hown : s.vm.findClass RX9 = some m.cls := findClass_of_methodNamed B.named
  have hlocks := B.notSynchronized
  subst hsz
  have B := xB_start hs hv
  have hinRX9 : ∀ w ∈ wsX90, w ∈ wsX9_isBelow := by decide +kernel
  have hl := lv_entry ([.ref (ad 65), .int a1, .int a2]) (n := 4) (Nat.le_of_ble_eq_true rfl)
  rw [lg_entry_eq]
  generalize (lg_sl ([.ref (ad 65), .int a1, .int a2]) ++ List.replicate (4 - (lg_sl ([.ref (ad 65), .int a1, .int a2])).length) Slot.unset).toArray = ls at hl ⊢
  have hl : lv_has ls 4 [(0, .ref (ad 65)), (1, .int a1), (2, .int a2)] := hl
  generalize hAe : xA ad a s.heap.size = A at B ⊢
  have L2 : ∀ (n : Nat) (σ : zs) (v2 : Int32) (v3 : Int32) (H : Heap) (locs : List Loc) (ls : Array Slot), zlp2 (f_X9_isBelow_2) n σ v2 v3 = some (r, σ') → xB A s G ad σ H locs → lv_has ls 4 [(0, .ref (ad 65)), (2, .int v2), (3, .int v3)] → W p l e (headSpec wsX9_isBelow rm_X9_isBelow).room s m ([.ref (ad 65), .int a1, .int a2] : List Value).toArray below meth c H locs 0 0 (MQ below (va_Qi (fun r' (u : xV) => r' = r ∧ xQ σ' u) (xPost G ad σ' A) A) ([.ref (ad 65), .int a1, .int a2] : List Value).toArray s 0 0 A) (F0 m 2 ls []) := by
    intro n
    induction n with
    | zero =>
      intro σ v2 v3 H locs ls hf
      cases hf
    | succ n ih =>
      intro σ v2 v3 H locs ls hf B hl
      have hf : f_X9_isBelow_2 (zlp2 (f_X9_isBelow_2) n) σ v2 v3 = some (r, σ') := hf
      unfold f_X9_isBelow_2 at hf
      refine lv_iload_n hx hb dX9_isBelow_2 rfl (lv_at hl 2 rfl) ?_
      refine lv_if_lt (tgt := 26) hx hb dX9_isBelow_3 (by decide) (fun hc => ?_) (fun hc => ?_)
      · have hf := zif_t hc hf
        refine lv_iconst (v := (0 : Int32)) hx hb dX9_isBelow_26 (by decide) ?_
        refine W.widen (k := 0) (n := 0) (Nat.le_of_ble_eq_true rfl) (Nat.le_of_ble_eq_true rfl) ?_
        exact x_iret hx hb hr (by decide) hlocks B hf dX9_isBelow_27
      · have hf := zif_f hc hf
        refine lv_iload_n hx hb dX9_isBelow_6 rfl (lv_at hl 2 rfl) ?_
        refine lv_iload_n hx hb dX9_isBelow_7 rfl (lv_at hl 1 rfl) ?_
        refine lv_icmp_ne (tgt := 13) hx hb dX9_isBelow_8 (by decide) (fun hc => ?_) (fun hc => ?_)
        · have hf := zif_f hc hf
          refine lv_aload_n hx hb dX9_isBelow_13 rfl (lv_at hl 0 rfl) ?_
          refine x_getr hx hb hts hinRX9 hown B 65 0 66 (by decide) (by decide) (fun _ => rfl) rfl rfl (by decide) (by decide +kernel) rfl dX9_isBelow_14 ?_
          refine lv_bipush (v := (79 : Int32)) hx hb dX9_isBelow_17 (by decide) ?_
          refine lv_iload_n hx hb dX9_isBelow_19 rfl (lv_at hl 2 rfl) ?_
          refine lv_iadd hx hb dX9_isBelow_20 ?_
          obtain ⟨hg, hf⟩ := zg_some hf
          refine x_iald hx hb B 66 (by decide) (fun _ => rfl) (zin_ok hg) dX9_isBelow_21 ?_
          refine lv_istore_n (lv' := [(3, .int (σ 66 ((79 : Int32) + v3).toNatClampNeg)), (0, .ref (ad 65)), (2, .int v2)]) hx hb dX9_isBelow_22 rfl hl (by decide) rfl (fun ls hl => ?_)
          refine lv_goto (tgt := 2) hx hb dX9_isBelow_23 (by decide) ?_
          exact ih _ _ _ _ _ _ hf B (lv_sub hl [1, 2, 0] rfl)
        · have hf := zif_t hc hf
          refine lv_iconst (v := (1 : Int32)) hx hb dX9_isBelow_11 (by decide) ?_
          refine W.widen (k := 0) (n := 0) (Nat.le_of_ble_eq_true rfl) (Nat.le_of_ble_eq_true rfl) ?_
          exact x_iret hx hb hr (by decide) hlocks B hf dX9_isBelow_12
  unfold f_X9_isBelow at hf
  refine lv_iload_n hx hb dX9_isBelow_0 rfl (lv_at hl 1 rfl) ?_
  refine lv_istore_n (lv' := [(3, .int a1), (0, .ref (ad 65)), (1, .int a1), (2, .int a2)]) hx hb dX9_isBelow_1 rfl hl (by decide) rfl (fun ls hl => ?_)
  exact L2  _ _ _ _ _ _ _ hf B (lv_sub hl [1, 3, 0] rfl)
theorem dX9_tells_0 : decode cX9_tells 0 = .ok (.aload_n 0, 1) := by decide +kernel
theorem dX9_tells_1 : decode cX9_tells 1 = .ok (.getfield 26, 3) := by decide +kernel
theorem dX9_tells_4 : decode cX9_tells 4 = .ok (.aload_n 0, 1) := by decide +kernel
theorem dX9_tells_5 : decode cX9_tells 5 = .ok (.getfield 48, 3) := by decide +kernel
theorem dX9_tells_8 : decode cX9_tells 8 = .ok (.iload_n 1, 1) := by decide +kernel
theorem dX9_tells_9 : decode cX9_tells 9 = .ok (.iastore, 1) := by decide +kernel
theorem dX9_tells_10 : decode cX9_tells 10 = .ok (.aload_n 0, 1) := by decide +kernel
theorem dX9_tells_11 : decode cX9_tells 11 = .ok (.getfield 29, 3) := by decide +kernel
theorem dX9_tells_14 : decode cX9_tells 14 = .ok (.aload_n 0, 1) := by decide +kernel
theorem dX9_tells_15 : decode cX9_tells 15 = .ok (.getfield 48, 3) := by decide +kernel
theorem dX9_tells_18 : decode cX9_tells 18 = .ok (.iload_n 2, 1) := by decide +kernel
theorem dX9_tells_19 : decode cX9_tells 19 = .ok (.iastore, 1) := by decide +kernel
theorem dX9_tells_20 : decode cX9_tells 20 = .ok (.aload_n 0, 1) := by decide +kernel
theorem dX9_tells_21 : decode cX9_tells 21 = .ok (.dup, 1) := by decide +kernel
theorem dX9_tells_22 : decode cX9_tells 22 = .ok (.getfield 48, 3) := by decide +kernel
theorem dX9_tells_25 : decode cX9_tells 25 = .ok (.iconst 1, 1) := by decide +kernel
theorem dX9_tells_26 : decode cX9_tells 26 = .ok (.iadd, 1) := by decide +kernel
theorem dX9_tells_27 : decode cX9_tells 27 = .ok (.putfield 48, 3) := by decide +kernel
theorem dX9_tells_30 : decode cX9_tells 30 = .ok (.return_, 1) := by decide +kernel
def rm_X9_tells : Room := { frames := 1, cells := 0, slots := 0, locals := 16 }
set_option maxHeartbeats 4000000 in
set_option maxRecDepth 100000 in
theorem c_X9_tells (l : Launch) {G : zG} {ad : Nat → Nat} {σ σ' : zs} {a1 a2 : Int32} {r : Int32} (hf : f_X9_tells σ a1 a2 = some (r, σ')) : xMv l yX9_tells wsX9_tells rm_X9_tells G ad σ [.ref (ad 65), .int a1, .int a2] σ' := by
  intro sz nb a g hs
  refine Met.ofW (cc := cX9_tells) (maxL := 3) (ret := none) (by decide) rfl ?_
  intro p e s m args below meth c s₁ B hml hv
  obtain ⟨rfl, hsz, hv⟩ := hv
  have hx := B.exec
  have hb := B.bytes
  have hr := B.returns
  have hts := atoms_spec (ws := wsX9_tells) B.pre
  have hown : s.vm.findClass RX9 = some m.cls := findClass_of_methodNamed B.named
  have hlocks := B.notSynchronized
  subst hsz
  have B := xB_start hs hv
  have hinRX9 : ∀ w ∈ wsX90, w ∈ wsX9_tells := by decide +kernel
  have hl := lv_entry ([.ref (ad 65), .int a1, .int a2]) (n := 3) (Nat.le_of_ble_eq_true rfl)
  rw [lg_entry_eq]
  generalize (lg_sl ([.ref (ad 65), .int a1, .int a2]) ++ List.replicate (3 - (lg_sl ([.ref (ad 65), .int a1, .int a2])).length) Slot.unset).toArray = ls at hl ⊢
  have hl : lv_has ls 3 [(0, .ref (ad 65)), (1, .int a1), (2, .int a2)] := hl
  generalize hAe : xA ad a s.heap.size = A at B ⊢
  unfold f_X9_tells at hf
  refine lv_aload_n hx hb dX9_tells_0 rfl (lv_at hl 0 rfl) ?_
  refine x_getr hx hb hts hinRX9 hown B 65 8 70 (by decide) (by decide) (fun _ => rfl) rfl rfl (by decide) (by decide +kernel) rfl dX9_tells_1 ?_
  refine lv_aload_n hx hb dX9_tells_4 rfl (lv_at hl 0 rfl) ?_
  refine x_geti hx hb hts hinRX9 hown B 65 10 (by decide) (fun _ => rfl) rfl rfl (by decide) (by decide +kernel) rfl dX9_tells_5 ?_
  refine lv_iload_n hx hb dX9_tells_8 rfl (lv_at hl 1 rfl) ?_
  obtain ⟨hg, hf⟩ := zg_some hf
  refine x_iast hx hb B 70 (by decide) (by decide) (fun _ => rfl) (zin_ok hg) dX9_tells_9 (fun H locs B => ?_)
  refine lv_aload_n hx hb dX9_tells_10 rfl (lv_at hl 0 rfl) ?_
  refine x_getr hx hb hts hinRX9 hown B 65 9 71 (by decide) (by decide) (fun _ => rfl) rfl rfl (by decide) (by decide +kernel) rfl dX9_tells_11 ?_
  refine lv_aload_n hx hb dX9_tells_14 rfl (lv_at hl 0 rfl) ?_
  refine x_geti hx hb hts hinRX9 hown B 65 10 (by decide) (fun _ => rfl) rfl rfl (by decide) (by decide +kernel) rfl dX9_tells_15 ?_
  refine lv_iload_n hx hb dX9_tells_18 rfl (lv_at hl 2 rfl) ?_
  obtain ⟨hg, hf⟩ := zg_some hf
  refine x_iast hx hb B 71 (by decide) (by decide) (fun _ => rfl) (zin_ok hg) dX9_tells_19 (fun H locs B => ?_)
  refine lv_aload_n hx hb dX9_tells_20 rfl (lv_at hl 0 rfl) ?_
  refine lv_dup hx hb dX9_tells_21 rfl ?_
  refine x_geti hx hb hts hinRX9 hown B 65 10 (by decide) (fun _ => rfl) rfl rfl (by decide) (by decide +kernel) rfl dX9_tells_22 ?_
  refine lv_iconst (v := (1 : Int32)) hx hb dX9_tells_25 (by decide) ?_
  refine lv_iadd hx hb dX9_tells_26 ?_
  refine x_puti hx hb hts hinRX9 hown tyX9 tyX9_ok nmX9 B 65 10 (by decide) (by decide) (fun _ => rfl) rfl rfl (by decide) (by decide +kernel) rfl rfl rfl rfl dX9_tells_27 (fun H locs B => ?_)
  refine W.widen (k := 0) (n := 0) (Nat.le_of_ble_eq_true rfl) (Nat.le_of_ble_eq_true rfl) ?_
  exact x_vret hx hb hr hlocks B hf dX9_tells_30
theorem dX9_reports_0 : decode cX9_reports 0 = .ok (.aload_n 0, 1) := by decide +kernel
theorem dX9_reports_1 : decode cX9_reports 1 = .ok (.iconst 0, 1) := by decide +kernel
theorem dX9_reports_2 : decode cX9_reports 2 = .ok (.putfield 48, 3) := by decide +kernel
theorem dX9_reports_5 : decode cX9_reports 5 = .ok (.aload_n 0, 1) := by decide +kernel
theorem dX9_reports_6 : decode cX9_reports 6 = .ok (.iload_n 1, 1) := by decide +kernel
theorem dX9_reports_7 : decode cX9_reports 7 = .ok (.iload_n 2, 1) := by decide +kernel
theorem dX9_reports_8 : decode cX9_reports 8 = .ok (.invokevirtual 51, 3) := by decide +kernel
theorem dX9_reports_11 : decode cX9_reports 11 = .ok (.iload_n 3, 1) := by decide +kernel
theorem dX9_reports_12 : decode cX9_reports 12 = .ok (.ireturn, 1) := by decide +kernel
set_option maxRecDepth 20000 in
theorem ggX9_reports_X9_tells : GoodIn wsX9_reports wsX9_tells := goodIn_ca (goodIn_r _ [6, 7, 1, 8, 9, 10, 11, 12, 13, 14, 15, 16, 17, 18, 19, 20, 21, 22, 23, 24, 25, 26, 27, 28] (by decide +kernel) (by decide +kernel)) (goodIn_sub (fun _ h => List.mem_cons_of_mem _ (List.mem_append_right _ h)) (by decide +kernel))
set_option maxRecDepth 20000 in
theorem gX9_reports_X9_tells : GoodIn wsX9_reports (wsV RX9 51 RX9 yX9_tells wsX9_tells) := goodIn_app (goodIn_of _ (by decide +kernel)) ggX9_reports_X9_tells
def rm_X9_reports : Room := { frames := 2, cells := 0, slots := 0, locals := 38 }
set_option maxHeartbeats 4000000 in
set_option maxRecDepth 100000 in
theorem c_X9_reports (l : Launch) {G : zG} {ad : Nat → Nat} {σ σ' : zs} {a1 a2 a3 : Int32} {r : Int32} (hf : f_X9_reports σ a1 a2 a3 = some (r, σ')) : xMi l yX9_reports wsX9_reports rm_X9_reports G ad σ [.ref (ad 65), .int a1, .int a2, .int a3] r σ' := by
  intro sz nb a g hs
  refine Met.ofW (cc := cX9_reports) (maxL := 4) (ret := (some .int)) (by decide) rfl ?_
  intro p e s m args below meth c s₁ B hml hv
  obtain ⟨rfl, hsz, hv⟩ := hv
  have hx := B.exec
  have hb := B.bytes
  have hr := B.returns
  have hts := atoms_spec (ws := wsX9_reports) B.pre
  have hown : s.vm.findClass RX9 = some m.cls := findClass_of_methodNamed B.named
  have hlocks := B.notSynchronized
  subst hsz
  have B := xB_start hs hv
  have hinRX9 : ∀ w ∈ wsX90, w ∈ wsX9_reports := by decide +kernel
  have hl := lv_entry ([.ref (ad 65), .int a1, .int a2, .int a3]) (n := 4) (Nat.le_of_ble_eq_true rfl)
  rw [lg_entry_eq]
  generalize (lg_sl ([.ref (ad 65), .int a1, .int a2, .int a3]) ++ List.replicate (4 - (lg_sl ([.ref (ad 65), .int a1, .int a2, .int a3])).length) Slot.unset).toArray = ls at hl ⊢
  have hl : lv_has ls 4 [(0, .ref (ad 65)), (1, .int a1), (2, .int a2), (3, .int a3)] := hl
  generalize hAe : xA ad a s.heap.size = A at B ⊢
  unfold f_X9_reports at hf
  refine lv_aload_n hx hb dX9_reports_0 rfl (lv_at hl 0 rfl) ?_
  refine lv_iconst (v := (0 : Int32)) hx hb dX9_reports_1 (by decide) ?_
  refine x_puti hx hb hts hinRX9 hown tyX9 tyX9_ok nmX9 B 65 10 (by decide) (by decide) (fun _ => rfl) rfl rfl (by decide) (by decide +kernel) rfl rfl rfl rfl dX9_reports_2 (fun H locs B => ?_)
  refine lv_aload_n hx hb dX9_reports_5 rfl (lv_at hl 0 rfl) ?_
  refine lv_iload_n hx hb dX9_reports_6 rfl (lv_at hl 1 rfl) ?_
  refine lv_iload_n hx hb dX9_reports_7 rfl (lv_at hl 2 rfl) ?_
  obtain ⟨r2, σ3, hu1, hf⟩ := zb_some hf
  refine x_v B (fun nb a g hs Bz => va_runV (As := [.int a1, .int a2]) (rest := []) ⟨hx, hb, hml, hown, hts⟩ (c_X9_tells l hu1 _ nb a g hs) (cwV 2 hts gX9_reports_X9_tells rfl rfl rfl (by decide +kernel) ⟨Nat.le_of_ble_eq_true rfl, Nat.le_of_ble_eq_true rfl⟩) (x_preV Bz (by decide) (fun _ => rfl) rfl) rfl rfl hl.1 rfl (lv_room (Nat.le_of_ble_eq_true rfl)) dX9_reports_8 ⟨Nat.le_of_ble_eq_true rfl, Nat.le_of_ble_eq_true rfl⟩) (fun H locs B => ?_)
  refine lv_iload_n hx hb dX9_reports_11 rfl (lv_at hl 3 rfl) ?_
  refine W.widen (k := 0) (n := 0) (Nat.le_of_ble_eq_true rfl) (Nat.le_of_ble_eq_true rfl) ?_
  exact x_iret hx hb hr rfl hlocks B hf dX9_reports_12
theorem dX9_part_0 : decode cX9_part 0 = .ok (.aload_n 0, 1) := by decide +kernel
theorem dX9_part_1 : decode cX9_part 1 = .ok (.getfield 9, 3) := by decide +kernel
theorem dX9_part_4 : decode cX9_part 4 = .ok (.sipush 219, 3) := by decide +kernel
theorem dX9_part_7 : decode cX9_part 7 = .ok (.iconst 3, 1) := by decide +kernel
theorem dX9_part_8 : decode cX9_part 8 = .ok (.iconst 4, 1) := by decide +kernel
theorem dX9_part_9 : decode cX9_part 9 = .ok (.iload_n 1, 1) := by decide +kernel
theorem dX9_part_10 : decode cX9_part 10 = .ok (.imul, 1) := by decide +kernel
theorem dX9_part_11 : decode cX9_part 11 = .ok (.iload_n 2, 1) := by decide +kernel
theorem dX9_part_12 : decode cX9_part 12 = .ok (.iadd, 1) := by decide +kernel
theorem dX9_part_13 : decode cX9_part 13 = .ok (.imul, 1) := by decide +kernel
theorem dX9_part_14 : decode cX9_part 14 = .ok (.iadd, 1) := by decide +kernel
theorem dX9_part_15 : decode cX9_part 15 = .ok (.iload_n 3, 1) := by decide +kernel
theorem dX9_part_16 : decode cX9_part 16 = .ok (.iadd, 1) := by decide +kernel
theorem dX9_part_17 : decode cX9_part 17 = .ok (.iaload, 1) := by decide +kernel
theorem dX9_part_18 : decode cX9_part 18 = .ok (.ireturn, 1) := by decide +kernel
def rm_X9_part : Room := { frames := 1, cells := 0, slots := 0, locals := 16 }
set_option maxHeartbeats 4000000 in
set_option maxRecDepth 100000 in
theorem c_X9_part (l : Launch) {G : zG} {ad : Nat → Nat} {σ σ' : zs} {a1 a2 a3 : Int32} {r : Int32} (hf : f_X9_part σ a1 a2 a3 = some (r, σ')) : xMi l yX9_part wsX9_part rm_X9_part G ad σ [.ref (ad 65), .int a1, .int a2, .int a3] r σ' := by
  intro sz nb a g hs
  refine Met.ofW (cc := cX9_part) (maxL := 4) (ret := (some .int)) (by decide) rfl ?_
  intro p e s m args below meth c s₁ B hml hv
  obtain ⟨rfl, hsz, hv⟩ := hv
  have hx := B.exec
  have hb := B.bytes
  have hr := B.returns
  have hts := atoms_spec (ws := wsX9_part) B.pre
  have hown : s.vm.findClass RX9 = some m.cls := findClass_of_methodNamed B.named
  have hlocks := B.notSynchronized
  subst hsz
  have B := xB_start hs hv
  have hinRX9 : ∀ w ∈ wsX90, w ∈ wsX9_part := by decide +kernel
  have hl := lv_entry ([.ref (ad 65), .int a1, .int a2, .int a3]) (n := 4) (Nat.le_of_ble_eq_true rfl)
  rw [lg_entry_eq]
  generalize (lg_sl ([.ref (ad 65), .int a1, .int a2, .int a3]) ++ List.replicate (4 - (lg_sl ([.ref (ad 65), .int a1, .int a2, .int a3])).length) Slot.unset).toArray = ls at hl ⊢
  have hl : lv_has ls 4 [(0, .ref (ad 65)), (1, .int a1), (2, .int a2), (3, .int a3)] := hl
  generalize hAe : xA ad a s.heap.size = A at B ⊢
  unfold f_X9_part at hf
  refine lv_aload_n hx hb dX9_part_0 rfl (lv_at hl 0 rfl) ?_
  refine x_getr hx hb hts hinRX9 hown B 65 0 66 (by decide) (by decide) (fun _ => rfl) rfl rfl (by decide) (by decide +kernel) rfl dX9_part_1 ?_
  refine lv_sipush (v := (219 : Int32)) hx hb dX9_part_4 (by decide) ?_
  refine lv_iconst (v := (3 : Int32)) hx hb dX9_part_7 (by decide) ?_
  refine lv_iconst (v := (4 : Int32)) hx hb dX9_part_8 (by decide) ?_
  refine lv_iload_n hx hb dX9_part_9 rfl (lv_at hl 1 rfl) ?_
  refine lv_imul hx hb dX9_part_10 ?_
  refine lv_iload_n hx hb dX9_part_11 rfl (lv_at hl 2 rfl) ?_
  refine lv_iadd hx hb dX9_part_12 ?_
  refine lv_imul hx hb dX9_part_13 ?_
  refine lv_iadd hx hb dX9_part_14 ?_
  refine lv_iload_n hx hb dX9_part_15 rfl (lv_at hl 3 rfl) ?_
  refine lv_iadd hx hb dX9_part_16 ?_
  obtain ⟨hg, hf⟩ := zg_some hf
  refine x_iald hx hb B 66 (by decide) (fun _ => rfl) (zin_ok hg) dX9_part_17 ?_
  refine W.widen (k := 0) (n := 0) (Nat.le_of_ble_eq_true rfl) (Nat.le_of_ble_eq_true rfl) ?_
  exact x_iret hx hb hr rfl hlocks B hf dX9_part_18
theorem dX9_holds_0 : decode cX9_holds 0 = .ok (.aload_n 0, 1) := by decide +kernel
theorem dX9_holds_1 : decode cX9_holds 1 = .ok (.iload_n 1, 1) := by decide +kernel
theorem dX9_holds_2 : decode cX9_holds 2 = .ok (.iload_n 2, 1) := by decide +kernel
theorem dX9_holds_3 : decode cX9_holds 3 = .ok (.iconst 1, 1) := by decide +kernel
theorem dX9_holds_4 : decode cX9_holds 4 = .ok (.invokevirtual 55, 3) := by decide +kernel
theorem dX9_holds_7 : decode cX9_holds 7 = .ok (.istore 6, 2) := by decide +kernel
theorem dX9_holds_9 : decode cX9_holds 9 = .ok (.aload_n 0, 1) := by decide +kernel
theorem dX9_holds_10 : decode cX9_holds 10 = .ok (.iload_n 1, 1) := by decide +kernel
theorem dX9_holds_11 : decode cX9_holds 11 = .ok (.iload_n 2, 1) := by decide +kernel
theorem dX9_holds_12 : decode cX9_holds 12 = .ok (.iconst 0, 1) := by decide +kernel
theorem dX9_holds_13 : decode cX9_holds 13 = .ok (.invokevirtual 55, 3) := by decide +kernel
theorem dX9_holds_16 : decode cX9_holds 16 = .ok (.tableswitch 96 0 3 #[32, 46, 63, 75], 32) := by decide +kernel
theorem dX9_holds_48 : decode cX9_holds 48 = .ok (.iload 6, 2) := by decide +kernel
theorem dX9_holds_50 : decode cX9_holds 50 = .ok (.iload 4, 2) := by decide +kernel
theorem dX9_holds_52 : decode cX9_holds 52 = .ok (.iand, 1) := by decide +kernel
theorem dX9_holds_53 : decode cX9_holds 53 = .ok (.ifCond .eq 7, 3) := by decide +kernel
theorem dX9_holds_56 : decode cX9_holds 56 = .ok (.iconst 1, 1) := by decide +kernel
theorem dX9_holds_57 : decode cX9_holds 57 = .ok (.goto 4, 3) := by decide +kernel
theorem dX9_holds_60 : decode cX9_holds 60 = .ok (.iconst 0, 1) := by decide +kernel
theorem dX9_holds_61 : decode cX9_holds 61 = .ok (.ireturn, 1) := by decide +kernel
theorem dX9_holds_62 : decode cX9_holds 62 = .ok (.aload_n 0, 1) := by decide +kernel
theorem dX9_holds_63 : decode cX9_holds 63 = .ok (.getfield 9, 3) := by decide +kernel
theorem dX9_holds_66 : decode cX9_holds 66 = .ok (.iconst 0, 1) := by decide +kernel
theorem dX9_holds_67 : decode cX9_holds 67 = .ok (.iaload, 1) := by decide +kernel
theorem dX9_holds_68 : decode cX9_holds 68 = .ok (.iload 6, 2) := by decide +kernel
theorem dX9_holds_70 : decode cX9_holds 70 = .ok (.if_icmp .ge 7, 3) := by decide +kernel
theorem dX9_holds_73 : decode cX9_holds 73 = .ok (.iconst 1, 1) := by decide +kernel
theorem dX9_holds_74 : decode cX9_holds 74 = .ok (.goto 4, 3) := by decide +kernel
theorem dX9_holds_77 : decode cX9_holds 77 = .ok (.iconst 0, 1) := by decide +kernel
theorem dX9_holds_78 : decode cX9_holds 78 = .ok (.ireturn, 1) := by decide +kernel
theorem dX9_holds_79 : decode cX9_holds 79 = .ok (.iload_n 3, 1) := by decide +kernel
theorem dX9_holds_80 : decode cX9_holds 80 = .ok (.iload 6, 2) := by decide +kernel
theorem dX9_holds_82 : decode cX9_holds 82 = .ok (.if_icmp .ne 7, 3) := by decide +kernel
theorem dX9_holds_85 : decode cX9_holds 85 = .ok (.iconst 1, 1) := by decide +kernel
theorem dX9_holds_86 : decode cX9_holds 86 = .ok (.goto 4, 3) := by decide +kernel
theorem dX9_holds_89 : decode cX9_holds 89 = .ok (.iconst 0, 1) := by decide +kernel
theorem dX9_holds_90 : decode cX9_holds 90 = .ok (.ireturn, 1) := by decide +kernel
theorem dX9_holds_91 : decode cX9_holds 91 = .ok (.aload_n 0, 1) := by decide +kernel
theorem dX9_holds_92 : decode cX9_holds 92 = .ok (.getfield 9, 3) := by decide +kernel
theorem dX9_holds_95 : decode cX9_holds 95 = .ok (.sipush 163, 3) := by decide +kernel
theorem dX9_holds_98 : decode cX9_holds 98 = .ok (.iload_n 1, 1) := by decide +kernel
theorem dX9_holds_99 : decode cX9_holds 99 = .ok (.iadd, 1) := by decide +kernel
theorem dX9_holds_100 : decode cX9_holds 100 = .ok (.iaload, 1) := by decide +kernel
theorem dX9_holds_101 : decode cX9_holds 101 = .ok (.iload 6, 2) := by decide +kernel
theorem dX9_holds_103 : decode cX9_holds 103 = .ok (.if_icmp .ge 7, 3) := by decide +kernel
theorem dX9_holds_106 : decode cX9_holds 106 = .ok (.iconst 1, 1) := by decide +kernel
theorem dX9_holds_107 : decode cX9_holds 107 = .ok (.goto 4, 3) := by decide +kernel
theorem dX9_holds_110 : decode cX9_holds 110 = .ok (.iconst 0, 1) := by decide +kernel
theorem dX9_holds_111 : decode cX9_holds 111 = .ok (.ireturn, 1) := by decide +kernel
theorem dX9_holds_112 : decode cX9_holds 112 = .ok (.iload 5, 2) := by decide +kernel
theorem dX9_holds_114 : decode cX9_holds 114 = .ok (.iload 6, 2) := by decide +kernel
theorem dX9_holds_116 : decode cX9_holds 116 = .ok (.aload_n 0, 1) := by decide +kernel
theorem dX9_holds_117 : decode cX9_holds 117 = .ok (.iload_n 1, 1) := by decide +kernel
theorem dX9_holds_118 : decode cX9_holds 118 = .ok (.iload_n 2, 1) := by decide +kernel
theorem dX9_holds_119 : decode cX9_holds 119 = .ok (.iconst 2, 1) := by decide +kernel
theorem dX9_holds_120 : decode cX9_holds 120 = .ok (.invokevirtual 55, 3) := by decide +kernel
theorem dX9_holds_123 : decode cX9_holds 123 = .ok (.invokestatic 44, 3) := by decide +kernel
theorem dX9_holds_126 : decode cX9_holds 126 = .ok (.ireturn, 1) := by decide +kernel
set_option maxRecDepth 20000 in
theorem ggX9_holds_X9_part : GoodIn wsX9_holds wsX9_part := goodIn_ca (goodIn_r _ [6, 1, 10, 11, 12, 13, 14, 15, 16, 17, 18, 19, 20, 21, 22, 23, 24, 25, 26, 27, 28, 29] (by decide +kernel) (by decide +kernel)) (goodIn_sub (fun _ h => List.mem_cons_of_mem _ (List.mem_append_right _ h)) (by decide +kernel))
set_option maxRecDepth 20000 in
theorem gX9_holds_X9_part : GoodIn wsX9_holds (wsV RX9 55 RX9 yX9_part wsX9_part) := goodIn_app (goodIn_of _ (by decide +kernel)) ggX9_holds_X9_part
set_option maxRecDepth 20000 in
theorem ggX9_holds_X9_isIn : GoodIn wsX9_holds wsX9_isIn := goodIn_r _ [9] (by decide +kernel) (by decide +kernel)
set_option maxRecDepth 20000 in
theorem gX9_holds_X9_isIn : GoodIn wsX9_holds (va_wsS RX9 44 yX9_isIn wsX9_isIn) := goodIn_app (goodIn_of _ (by decide +kernel)) ggX9_holds_X9_isIn
def rm_X9_holds : Room := { frames := 2, cells := 0, slots := 0, locals := 39 }
set_option maxHeartbeats 4000000 in
set_option maxRecDepth 100000 in
theorem c_X9_holds (l : Launch) {G : zG} {ad : Nat → Nat} {σ σ' : zs} {a1 a2 a3 a4 a5 : Int32} {r : Int32} (hf : f_X9_holds σ a1 a2 a3 a4 a5 = some (r, σ')) : xMi l yX9_holds wsX9_holds rm_X9_holds G ad σ [.ref (ad 65), .int a1, .int a2, .int a3, .int a4, .int a5] r σ' := by
  intro sz nb a g hs
  refine Met.ofW (cc := cX9_holds) (maxL := 7) (ret := (some .boolean)) (by decide) rfl ?_
  intro p e s m args below meth c s₁ B hml hv
  obtain ⟨rfl, hsz, hv⟩ := hv
  have hx := B.exec
  have hb := B.bytes
  have hr := B.returns
  have hts := atoms_spec (ws := wsX9_holds) B.pre
  have hown : s.vm.findClass RX9 = some m.cls := findClass_of_methodNamed B.named
  have hlocks := B.notSynchronized
  subst hsz
  have B := xB_start hs hv
  have hinRX9 : ∀ w ∈ wsX90, w ∈ wsX9_holds := by decide +kernel
  have hl := lv_entry ([.ref (ad 65), .int a1, .int a2, .int a3, .int a4, .int a5]) (n := 7) (Nat.le_of_ble_eq_true rfl)
  rw [lg_entry_eq]
  generalize (lg_sl ([.ref (ad 65), .int a1, .int a2, .int a3, .int a4, .int a5]) ++ List.replicate (7 - (lg_sl ([.ref (ad 65), .int a1, .int a2, .int a3, .int a4, .int a5])).length) Slot.unset).toArray = ls at hl ⊢
  have hl : lv_has ls 7 [(0, .ref (ad 65)), (1, .int a1), (2, .int a2), (3, .int a3), (4, .int a4), (5, .int a5)] := hl
  generalize hAe : xA ad a s.heap.size = A at B ⊢
  unfold f_X9_holds at hf
  refine lv_aload_n hx hb dX9_holds_0 rfl (lv_at hl 0 rfl) ?_
  refine lv_iload_n hx hb dX9_holds_1 rfl (lv_at hl 1 rfl) ?_
  refine lv_iload_n hx hb dX9_holds_2 rfl (lv_at hl 2 rfl) ?_
  refine lv_iconst (v := (1 : Int32)) hx hb dX9_holds_3 (by decide) ?_
  obtain ⟨r2, σ3, hu1, hf⟩ := zb_some hf
  refine x_i B (fun nb a g hs Bz => va_runV (As := [.int a1, .int a2, .int (1 : Int32)]) (rest := []) ⟨hx, hb, hml, hown, hts⟩ (c_X9_part l hu1 _ nb a g hs) (cwV 3 hts gX9_holds_X9_part rfl rfl rfl (by decide +kernel) ⟨Nat.le_of_ble_eq_true rfl, Nat.le_of_ble_eq_true rfl⟩) (x_preV Bz (by decide) (fun _ => rfl) rfl) rfl rfl hl.1 rfl (lv_room (Nat.le_of_ble_eq_true rfl)) dX9_holds_4 ⟨Nat.le_of_ble_eq_true rfl, Nat.le_of_ble_eq_true rfl⟩) (fun H locs B => ?_)
  refine lv_istore (lv' := [(6, .int r2), (0, .ref (ad 65)), (1, .int a1), (2, .int a2), (3, .int a3), (4, .int a4), (5, .int a5)]) hx hb dX9_holds_7 hl (by decide) rfl (fun ls hl => ?_)
  refine lv_aload_n hx hb dX9_holds_9 rfl (lv_at hl 1 rfl) ?_
  refine lv_iload_n hx hb dX9_holds_10 rfl (lv_at hl 2 rfl) ?_
  refine lv_iload_n hx hb dX9_holds_11 rfl (lv_at hl 3 rfl) ?_
  refine lv_iconst (v := (0 : Int32)) hx hb dX9_holds_12 (by decide) ?_
  obtain ⟨r5, σ6, hu4, hf⟩ := zb_some hf
  refine x_i B (fun nb a g hs Bz => va_runV (As := [.int a1, .int a2, .int (0 : Int32)]) (rest := []) ⟨hx, hb, hml, hown, hts⟩ (c_X9_part l hu4 _ nb a g hs) (cwV 3 hts gX9_holds_X9_part rfl rfl rfl (by decide +kernel) ⟨Nat.le_of_ble_eq_true rfl, Nat.le_of_ble_eq_true rfl⟩) (x_preV Bz (by decide) (fun _ => rfl) rfl) rfl rfl hl.1 rfl (lv_room (Nat.le_of_ble_eq_true rfl)) dX9_holds_13 ⟨Nat.le_of_ble_eq_true rfl, Nat.le_of_ble_eq_true rfl⟩) (fun H locs B => ?_)
  by_cases hc0 : r5 = (0 : Int32)
  · have hf := zif_t hc0 hf
    refine lv_tableIn (off := 32) (tgt := 48) hx hb dX9_holds_16 (by rw [hc0]; decide) (by rw [hc0]; decide) (by rw [hc0]; rfl) (by decide) ?_
    refine lv_iload hx hb dX9_holds_48 (lv_at hl 0 rfl) ?_
    refine lv_iload hx hb dX9_holds_50 (lv_at hl 5 rfl) ?_
    refine lv_iand hx hb dX9_holds_52 ?_
    refine lv_if_eq (tgt := 60) hx hb dX9_holds_53 (by decide) (fun hc => ?_) (fun hc => ?_)
    · have hf := zif_t hc hf
      refine lv_iconst (v := (0 : Int32)) hx hb dX9_holds_60 (by decide) ?_
      refine W.widen (k := 0) (n := 0) (Nat.le_of_ble_eq_true rfl) (Nat.le_of_ble_eq_true rfl) ?_
      exact x_iret hx hb hr (by decide) hlocks B hf dX9_holds_61
    · have hf := zif_f hc hf
      refine lv_iconst (v := (1 : Int32)) hx hb dX9_holds_56 (by decide) ?_
      refine lv_goto (tgt := 61) hx hb dX9_holds_57 (by decide) ?_
      refine W.widen (k := 0) (n := 0) (Nat.le_of_ble_eq_true rfl) (Nat.le_of_ble_eq_true rfl) ?_
      exact x_iret hx hb hr (by decide) hlocks B hf dX9_holds_61
  have hf := zif_f hc0 hf
  by_cases hc1 : r5 = (1 : Int32)
  · have hf := zif_t hc1 hf
    refine lv_tableIn (off := 46) (tgt := 62) hx hb dX9_holds_16 (by rw [hc1]; decide) (by rw [hc1]; decide) (by rw [hc1]; rfl) (by decide) ?_
    refine lv_aload_n hx hb dX9_holds_62 rfl (lv_at hl 1 rfl) ?_
    refine x_getr hx hb hts hinRX9 hown B 65 0 66 (by decide) (by decide) (fun _ => rfl) rfl rfl (by decide) (by decide +kernel) rfl dX9_holds_63 ?_
    refine lv_iconst (v := (0 : Int32)) hx hb dX9_holds_66 (by decide) ?_
    obtain ⟨hg, hf⟩ := zg_some hf
    refine x_iald hx hb B 66 (by decide) (fun _ => rfl) (zin_ok hg) dX9_holds_67 ?_
    refine lv_iload hx hb dX9_holds_68 (lv_at hl 0 rfl) ?_
    refine lv_icmp_ge (tgt := 77) hx hb dX9_holds_70 (by decide) (fun hc => ?_) (fun hc => ?_)
    · have hf := zif_t hc hf
      refine lv_iconst (v := (0 : Int32)) hx hb dX9_holds_77 (by decide) ?_
      refine W.widen (k := 0) (n := 0) (Nat.le_of_ble_eq_true rfl) (Nat.le_of_ble_eq_true rfl) ?_
      exact x_iret hx hb hr (by decide) hlocks B hf dX9_holds_78
    · have hf := zif_f hc hf
      refine lv_iconst (v := (1 : Int32)) hx hb dX9_holds_73 (by decide) ?_
      refine lv_goto (tgt := 78) hx hb dX9_holds_74 (by decide) ?_
      refine W.widen (k := 0) (n := 0) (Nat.le_of_ble_eq_true rfl) (Nat.le_of_ble_eq_true rfl) ?_
      exact x_iret hx hb hr (by decide) hlocks B hf dX9_holds_78
  have hf := zif_f hc1 hf
  by_cases hc2 : r5 = (2 : Int32)
  · have hf := zif_t hc2 hf
    refine lv_tableIn (off := 63) (tgt := 79) hx hb dX9_holds_16 (by rw [hc2]; decide) (by rw [hc2]; decide) (by rw [hc2]; rfl) (by decide) ?_
    refine lv_iload_n hx hb dX9_holds_79 rfl (lv_at hl 4 rfl) ?_
    refine lv_iload hx hb dX9_holds_80 (lv_at hl 0 rfl) ?_
    refine lv_icmp_ne (tgt := 89) hx hb dX9_holds_82 (by decide) (fun hc => ?_) (fun hc => ?_)
    · have hf := zif_f hc hf
      refine lv_iconst (v := (0 : Int32)) hx hb dX9_holds_89 (by decide) ?_
      refine W.widen (k := 0) (n := 0) (Nat.le_of_ble_eq_true rfl) (Nat.le_of_ble_eq_true rfl) ?_
      exact x_iret hx hb hr (by decide) hlocks B hf dX9_holds_90
    · have hf := zif_t hc hf
      refine lv_iconst (v := (1 : Int32)) hx hb dX9_holds_85 (by decide) ?_
      refine lv_goto (tgt := 90) hx hb dX9_holds_86 (by decide) ?_
      refine W.widen (k := 0) (n := 0) (Nat.le_of_ble_eq_true rfl) (Nat.le_of_ble_eq_true rfl) ?_
      exact x_iret hx hb hr (by decide) hlocks B hf dX9_holds_90
  have hf := zif_f hc2 hf
  by_cases hc3 : r5 = (3 : Int32)
  · have hf := zif_t hc3 hf
    refine lv_tableIn (off := 75) (tgt := 91) hx hb dX9_holds_16 (by rw [hc3]; decide) (by rw [hc3]; decide) (by rw [hc3]; rfl) (by decide) ?_
    refine lv_aload_n hx hb dX9_holds_91 rfl (lv_at hl 1 rfl) ?_
    refine x_getr hx hb hts hinRX9 hown B 65 0 66 (by decide) (by decide) (fun _ => rfl) rfl rfl (by decide) (by decide +kernel) rfl dX9_holds_92 ?_
    refine lv_sipush (v := (163 : Int32)) hx hb dX9_holds_95 (by decide) ?_
    refine lv_iload_n hx hb dX9_holds_98 rfl (lv_at hl 2 rfl) ?_
    refine lv_iadd hx hb dX9_holds_99 ?_
    obtain ⟨hg, hf⟩ := zg_some hf
    refine x_iald hx hb B 66 (by decide) (fun _ => rfl) (zin_ok hg) dX9_holds_100 ?_
    refine lv_iload hx hb dX9_holds_101 (lv_at hl 0 rfl) ?_
    refine lv_icmp_ge (tgt := 110) hx hb dX9_holds_103 (by decide) (fun hc => ?_) (fun hc => ?_)
    · have hf := zif_t hc hf
      refine lv_iconst (v := (0 : Int32)) hx hb dX9_holds_110 (by decide) ?_
      refine W.widen (k := 0) (n := 0) (Nat.le_of_ble_eq_true rfl) (Nat.le_of_ble_eq_true rfl) ?_
      exact x_iret hx hb hr (by decide) hlocks B hf dX9_holds_111
    · have hf := zif_f hc hf
      refine lv_iconst (v := (1 : Int32)) hx hb dX9_holds_106 (by decide) ?_
      refine lv_goto (tgt := 111) hx hb dX9_holds_107 (by decide) ?_
      refine W.widen (k := 0) (n := 0) (Nat.le_of_ble_eq_true rfl) (Nat.le_of_ble_eq_true rfl) ?_
      exact x_iret hx hb hr (by decide) hlocks B hf dX9_holds_111
  have hf := zif_f hc3 hf
  refine lv_tableOut (tgt := 112) hx hb dX9_holds_16 (zsw_out (fun j h1 h2 hj => ?_)) (by decide) ?_
  · have hd : j = 0 ∨ j = 1 ∨ j = 2 ∨ j = 3 := by omega
    rcases hd with rfl | rfl | rfl | rfl
    · exact hc0 (Int32.toInt_inj.mp (hj.trans (by decide)))
    · exact hc1 (Int32.toInt_inj.mp (hj.trans (by decide)))
    · exact hc2 (Int32.toInt_inj.mp (hj.trans (by decide)))
    · exact hc3 (Int32.toInt_inj.mp (hj.trans (by decide)))
  refine lv_iload hx hb dX9_holds_112 (lv_at hl 6 rfl) ?_
  refine lv_iload hx hb dX9_holds_114 (lv_at hl 0 rfl) ?_
  refine lv_aload_n hx hb dX9_holds_116 rfl (lv_at hl 1 rfl) ?_
  refine lv_iload_n hx hb dX9_holds_117 rfl (lv_at hl 2 rfl) ?_
  refine lv_iload_n hx hb dX9_holds_118 rfl (lv_at hl 3 rfl) ?_
  refine lv_iconst (v := (2 : Int32)) hx hb dX9_holds_119 (by decide) ?_
  obtain ⟨r8, σ9, hu7, hf⟩ := zb_some hf
  refine x_i B (fun nb a g hs Bz => va_runV (As := [.int a1, .int a2, .int (2 : Int32)]) (rest := [.int r2, .int a5]) ⟨hx, hb, hml, hown, hts⟩ (c_X9_part l hu7 _ nb a g hs) (cwV 3 hts gX9_holds_X9_part rfl rfl rfl (by decide +kernel) ⟨Nat.le_of_ble_eq_true rfl, Nat.le_of_ble_eq_true rfl⟩) (x_preV Bz (by decide) (fun _ => rfl) rfl) rfl rfl hl.1 rfl (lv_room (Nat.le_of_ble_eq_true rfl)) dX9_holds_120 ⟨Nat.le_of_ble_eq_true rfl, Nat.le_of_ble_eq_true rfl⟩) (fun H locs B => ?_)
  obtain ⟨r11, σ12, hu10, hf⟩ := zb_some hf
  refine x_i B (fun nb a g hs Bz => va_runS (As := [.int a5, .int r2, .int r8]) (rest := []) ⟨hx, hb, hml, hown, hts⟩ (c_X9_isIn l hu10 _ nb a g hs) (va_cwS 3 hts gX9_holds_X9_isIn rfl rfl rfl (by decide +kernel) ⟨Nat.le_of_ble_eq_true rfl, Nat.le_of_ble_eq_true rfl⟩) (z_preS Bz) rfl rfl hl.1 rfl (lv_room (Nat.le_of_ble_eq_true rfl)) dX9_holds_123 ⟨Nat.le_of_ble_eq_true rfl, Nat.le_of_ble_eq_true rfl⟩) (fun H locs B => ?_)
  obtain ⟨hg, hf⟩ := zg_some hf
  refine W.widen (k := 0) (n := 0) (Nat.le_of_ble_eq_true rfl) (Nat.le_of_ble_eq_true rfl) ?_
  exact x_iret hx hb hr (znz hg) hlocks B hf dX9_holds_126
theorem dX9_asked_0 : decode cX9_asked 0 = .ok (.aload_n 0, 1) := by decide +kernel
theorem dX9_asked_1 : decode cX9_asked 1 = .ok (.iload_n 1, 1) := by decide +kernel
theorem dX9_asked_2 : decode cX9_asked 2 = .ok (.iload_n 2, 1) := by decide +kernel
theorem dX9_asked_3 : decode cX9_asked 3 = .ok (.iconst 0, 1) := by decide +kernel
theorem dX9_asked_4 : decode cX9_asked 4 = .ok (.invokevirtual 55, 3) := by decide +kernel
theorem dX9_asked_7 : decode cX9_asked 7 = .ok (.tableswitch 52 0 3 #[29, 32, 39, 41], 29) := by decide +kernel
theorem dX9_asked_36 : decode cX9_asked 36 = .ok (.iload 4, 2) := by decide +kernel
theorem dX9_asked_38 : decode cX9_asked 38 = .ok (.ireturn, 1) := by decide +kernel
theorem dX9_asked_39 : decode cX9_asked 39 = .ok (.aload_n 0, 1) := by decide +kernel
theorem dX9_asked_40 : decode cX9_asked 40 = .ok (.getfield 9, 3) := by decide +kernel
theorem dX9_asked_43 : decode cX9_asked 43 = .ok (.iconst 0, 1) := by decide +kernel
theorem dX9_asked_44 : decode cX9_asked 44 = .ok (.iaload, 1) := by decide +kernel
theorem dX9_asked_45 : decode cX9_asked 45 = .ok (.ireturn, 1) := by decide +kernel
theorem dX9_asked_46 : decode cX9_asked 46 = .ok (.iload_n 3, 1) := by decide +kernel
theorem dX9_asked_47 : decode cX9_asked 47 = .ok (.ireturn, 1) := by decide +kernel
theorem dX9_asked_48 : decode cX9_asked 48 = .ok (.aload_n 0, 1) := by decide +kernel
theorem dX9_asked_49 : decode cX9_asked 49 = .ok (.getfield 9, 3) := by decide +kernel
theorem dX9_asked_52 : decode cX9_asked 52 = .ok (.sipush 163, 3) := by decide +kernel
theorem dX9_asked_55 : decode cX9_asked 55 = .ok (.iload_n 1, 1) := by decide +kernel
theorem dX9_asked_56 : decode cX9_asked 56 = .ok (.iadd, 1) := by decide +kernel
theorem dX9_asked_57 : decode cX9_asked 57 = .ok (.iaload, 1) := by decide +kernel
theorem dX9_asked_58 : decode cX9_asked 58 = .ok (.ireturn, 1) := by decide +kernel
theorem dX9_asked_59 : decode cX9_asked 59 = .ok (.iload 5, 2) := by decide +kernel
theorem dX9_asked_61 : decode cX9_asked 61 = .ok (.ireturn, 1) := by decide +kernel
set_option maxRecDepth 20000 in
theorem ggX9_asked_X9_part : GoodIn wsX9_asked wsX9_part := goodIn_ca (goodIn_r _ [6, 1, 7, 8, 9, 10, 11, 12, 13, 14, 15, 16, 17, 18, 19, 20, 21, 22, 23, 24, 25, 26] (by decide +kernel) (by decide +kernel)) (goodIn_sub (fun _ h => List.mem_cons_of_mem _ (List.mem_append_right _ h)) (by decide +kernel))
set_option maxRecDepth 20000 in
theorem gX9_asked_X9_part : GoodIn wsX9_asked (wsV RX9 55 RX9 yX9_part wsX9_part) := goodIn_app (goodIn_of _ (by decide +kernel)) ggX9_asked_X9_part
def rm_X9_asked : Room := { frames := 2, cells := 0, slots := 0, locals := 39 }
set_option maxHeartbeats 4000000 in
set_option maxRecDepth 100000 in
theorem c_X9_asked (l : Launch) {G : zG} {ad : Nat → Nat} {σ σ' : zs} {a1 a2 a3 a4 a5 : Int32} {r : Int32} (hf : f_X9_asked σ a1 a2 a3 a4 a5 = some (r, σ')) : xMi l yX9_asked wsX9_asked rm_X9_asked G ad σ [.ref (ad 65), .int a1, .int a2, .int a3, .int a4, .int a5] r σ' := by
  intro sz nb a g hs
  refine Met.ofW (cc := cX9_asked) (maxL := 6) (ret := (some .int)) (by decide) rfl ?_
  intro p e s m args below meth c s₁ B hml hv
  obtain ⟨rfl, hsz, hv⟩ := hv
  have hx := B.exec
  have hb := B.bytes
  have hr := B.returns
  have hts := atoms_spec (ws := wsX9_asked) B.pre
  have hown : s.vm.findClass RX9 = some m.cls := findClass_of_methodNamed B.named
  have hlocks := B.notSynchronized
  subst hsz
  have B := xB_start hs hv
  have hinRX9 : ∀ w ∈ wsX90, w ∈ wsX9_asked := by decide +kernel
  have hl := lv_entry ([.ref (ad 65), .int a1, .int a2, .int a3, .int a4, .int a5]) (n := 6) (Nat.le_of_ble_eq_true rfl)
  rw [lg_entry_eq]
  generalize (lg_sl ([.ref (ad 65), .int a1, .int a2, .int a3, .int a4, .int a5]) ++ List.replicate (6 - (lg_sl ([.ref (ad 65), .int a1, .int a2, .int a3, .int a4, .int a5])).length) Slot.unset).toArray = ls at hl ⊢
  have hl : lv_has ls 6 [(0, .ref (ad 65)), (1, .int a1), (2, .int a2), (3, .int a3), (4, .int a4), (5, .int a5)] := hl
  generalize hAe : xA ad a s.heap.size = A at B ⊢
  unfold f_X9_asked at hf
  refine lv_aload_n hx hb dX9_asked_0 rfl (lv_at hl 0 rfl) ?_
  refine lv_iload_n hx hb dX9_asked_1 rfl (lv_at hl 1 rfl) ?_
  refine lv_iload_n hx hb dX9_asked_2 rfl (lv_at hl 2 rfl) ?_
  refine lv_iconst (v := (0 : Int32)) hx hb dX9_asked_3 (by decide) ?_
  obtain ⟨r2, σ3, hu1, hf⟩ := zb_some hf
  refine x_i B (fun nb a g hs Bz => va_runV (As := [.int a1, .int a2, .int (0 : Int32)]) (rest := []) ⟨hx, hb, hml, hown, hts⟩ (c_X9_part l hu1 _ nb a g hs) (cwV 3 hts gX9_asked_X9_part rfl rfl rfl (by decide +kernel) ⟨Nat.le_of_ble_eq_true rfl, Nat.le_of_ble_eq_true rfl⟩) (x_preV Bz (by decide) (fun _ => rfl) rfl) rfl rfl hl.1 rfl (lv_room (Nat.le_of_ble_eq_true rfl)) dX9_asked_4 ⟨Nat.le_of_ble_eq_true rfl, Nat.le_of_ble_eq_true rfl⟩) (fun H locs B => ?_)
  by_cases hc0 : r2 = (0 : Int32)
  · have hf := zif_t hc0 hf
    refine lv_tableIn (off := 29) (tgt := 36) hx hb dX9_asked_7 (by rw [hc0]; decide) (by rw [hc0]; decide) (by rw [hc0]; rfl) (by decide) ?_
    refine lv_iload hx hb dX9_asked_36 (lv_at hl 4 rfl) ?_
    refine W.widen (k := 0) (n := 0) (Nat.le_of_ble_eq_true rfl) (Nat.le_of_ble_eq_true rfl) ?_
    exact x_iret hx hb hr rfl hlocks B hf dX9_asked_38
  have hf := zif_f hc0 hf
  by_cases hc1 : r2 = (1 : Int32)
  · have hf := zif_t hc1 hf
    refine lv_tableIn (off := 32) (tgt := 39) hx hb dX9_asked_7 (by rw [hc1]; decide) (by rw [hc1]; decide) (by rw [hc1]; rfl) (by decide) ?_
    refine lv_aload_n hx hb dX9_asked_39 rfl (lv_at hl 0 rfl) ?_
    refine x_getr hx hb hts hinRX9 hown B 65 0 66 (by decide) (by decide) (fun _ => rfl) rfl rfl (by decide) (by decide +kernel) rfl dX9_asked_40 ?_
    refine lv_iconst (v := (0 : Int32)) hx hb dX9_asked_43 (by decide) ?_
    obtain ⟨hg, hf⟩ := zg_some hf
    refine x_iald hx hb B 66 (by decide) (fun _ => rfl) (zin_ok hg) dX9_asked_44 ?_
    refine W.widen (k := 0) (n := 0) (Nat.le_of_ble_eq_true rfl) (Nat.le_of_ble_eq_true rfl) ?_
    exact x_iret hx hb hr rfl hlocks B hf dX9_asked_45
  have hf := zif_f hc1 hf
  by_cases hc2 : r2 = (2 : Int32)
  · have hf := zif_t hc2 hf
    refine lv_tableIn (off := 39) (tgt := 46) hx hb dX9_asked_7 (by rw [hc2]; decide) (by rw [hc2]; decide) (by rw [hc2]; rfl) (by decide) ?_
    refine lv_iload_n hx hb dX9_asked_46 rfl (lv_at hl 3 rfl) ?_
    refine W.widen (k := 0) (n := 0) (Nat.le_of_ble_eq_true rfl) (Nat.le_of_ble_eq_true rfl) ?_
    exact x_iret hx hb hr rfl hlocks B hf dX9_asked_47
  have hf := zif_f hc2 hf
  by_cases hc3 : r2 = (3 : Int32)
  · have hf := zif_t hc3 hf
    refine lv_tableIn (off := 41) (tgt := 48) hx hb dX9_asked_7 (by rw [hc3]; decide) (by rw [hc3]; decide) (by rw [hc3]; rfl) (by decide) ?_
    refine lv_aload_n hx hb dX9_asked_48 rfl (lv_at hl 0 rfl) ?_
    refine x_getr hx hb hts hinRX9 hown B 65 0 66 (by decide) (by decide) (fun _ => rfl) rfl rfl (by decide) (by decide +kernel) rfl dX9_asked_49 ?_
    refine lv_sipush (v := (163 : Int32)) hx hb dX9_asked_52 (by decide) ?_
    refine lv_iload_n hx hb dX9_asked_55 rfl (lv_at hl 1 rfl) ?_
    refine lv_iadd hx hb dX9_asked_56 ?_
    obtain ⟨hg, hf⟩ := zg_some hf
    refine x_iald hx hb B 66 (by decide) (fun _ => rfl) (zin_ok hg) dX9_asked_57 ?_
    refine W.widen (k := 0) (n := 0) (Nat.le_of_ble_eq_true rfl) (Nat.le_of_ble_eq_true rfl) ?_
    exact x_iret hx hb hr rfl hlocks B hf dX9_asked_58
  have hf := zif_f hc3 hf
  refine lv_tableOut (tgt := 59) hx hb dX9_asked_7 (zsw_out (fun j h1 h2 hj => ?_)) (by decide) ?_
  · have hd : j = 0 ∨ j = 1 ∨ j = 2 ∨ j = 3 := by omega
    rcases hd with rfl | rfl | rfl | rfl
    · exact hc0 (Int32.toInt_inj.mp (hj.trans (by decide)))
    · exact hc1 (Int32.toInt_inj.mp (hj.trans (by decide)))
    · exact hc2 (Int32.toInt_inj.mp (hj.trans (by decide)))
    · exact hc3 (Int32.toInt_inj.mp (hj.trans (by decide)))
  refine lv_iload hx hb dX9_asked_59 (lv_at hl 5 rfl) ?_
  refine W.widen (k := 0) (n := 0) (Nat.le_of_ble_eq_true rfl) (Nat.le_of_ble_eq_true rfl) ?_
  exact x_iret hx hb hr rfl hlocks B hf dX9_asked_61
