theorem dX3_openAll_0 : decode cX3_openAll 0 = .ok (.aload_n 0, 1) := by decide +kernel
theorem dX3_openAll_1 : decode cX3_openAll 1 = .ok (.bipush 15, 2) := by decide +kernel
theorem dX3_openAll_3 : decode cX3_openAll 3 = .ok (.putfield 9, 3) := by decide +kernel
theorem dX3_openAll_6 : decode cX3_openAll 6 = .ok (.aload_n 0, 1) := by decide +kernel
theorem dX3_openAll_7 : decode cX3_openAll 7 = .ok (.iconst (-1), 1) := by decide +kernel
theorem dX3_openAll_8 : decode cX3_openAll 8 = .ok (.putfield 15, 3) := by decide +kernel
theorem dX3_openAll_11 : decode cX3_openAll 11 = .ok (.aload_n 0, 1) := by decide +kernel
theorem dX3_openAll_12 : decode cX3_openAll 12 = .ok (.bipush 63, 2) := by decide +kernel
theorem dX3_openAll_14 : decode cX3_openAll 14 = .ok (.putfield 18, 3) := by decide +kernel
theorem dX3_openAll_17 : decode cX3_openAll 17 = .ok (.aload_n 0, 1) := by decide +kernel
theorem dX3_openAll_18 : decode cX3_openAll 18 = .ok (.iconst (-1), 1) := by decide +kernel
theorem dX3_openAll_19 : decode cX3_openAll 19 = .ok (.putfield 21, 3) := by decide +kernel
theorem dX3_openAll_22 : decode cX3_openAll 22 = .ok (.aload_n 0, 1) := by decide +kernel
theorem dX3_openAll_23 : decode cX3_openAll 23 = .ok (.iconst 0, 1) := by decide +kernel
theorem dX3_openAll_24 : decode cX3_openAll 24 = .ok (.putfield 24, 3) := by decide +kernel
theorem dX3_openAll_27 : decode cX3_openAll 27 = .ok (.aload_n 0, 1) := by decide +kernel
theorem dX3_openAll_28 : decode cX3_openAll 28 = .ok (.sipush 999, 3) := by decide +kernel
theorem dX3_openAll_31 : decode cX3_openAll 31 = .ok (.putfield 27, 3) := by decide +kernel
theorem dX3_openAll_34 : decode cX3_openAll 34 = .ok (.return_, 1) := by decide +kernel
def rm_X3_openAll : Room := { frames := 1, cells := 0, slots := 0, locals := 16 }
set_option maxHeartbeats 4000000 in
set_option maxRecDepth 100000 in
theorem c_X3_openAll (l : Launch) {G : zG} {ad : Nat → Nat} {σ σ' : zs} {r : Int32} (hf : f_X3_openAll σ  = some (r, σ')) : xMv l yX3_openAll wsX3_openAll rm_X3_openAll G ad σ [.ref (ad 13)] σ' := by
  intro sz nb a g hs
  refine Met.ofW (cc := cX3_openAll) (maxL := 1) (ret := none) (by decide) rfl ?_
  intro p e s m args below meth c s₁ B hml hv
  obtain ⟨rfl, hsz, hv⟩ := hv
  have hx := B.exec
  have hb := B.bytes
  have hr := B.returns
  have hts := atoms_spec (ws := wsX3_openAll) B.pre
  have hown : s.vm.findClass RX3 = some m.cls := findClass_of_methodNamed B.named
  have hlocks := B.notSynchronized
  subst hsz
  have B := xB_start hs hv
  have hinRX3 : ∀ w ∈ wsX30, w ∈ wsX3_openAll := by decide +kernel
  have hl := lv_entry ([.ref (ad 13)]) (n := 1) (Nat.le_of_ble_eq_true rfl)
  rw [lg_entry_eq]
  generalize (lg_sl ([.ref (ad 13)]) ++ List.replicate (1 - (lg_sl ([.ref (ad 13)])).length) Slot.unset).toArray = ls at hl ⊢
  have hl : lv_has ls 1 [(0, .ref (ad 13))] := hl
  generalize hAe : xA ad a s.heap.size = A at B ⊢
  unfold f_X3_openAll at hf
  refine lv_aload_n hx hb dX3_openAll_0 rfl (lv_at hl 0 rfl) ?_
  refine lv_bipush (v := (15 : Int32)) hx hb dX3_openAll_1 (by decide) ?_
  refine x_puti hx hb hts hinRX3 hown tyX3 tyX3_ok nmX3 B 13 0 (by decide) (by decide) (fun _ => rfl) rfl rfl (by decide) (by decide +kernel) rfl rfl rfl rfl dX3_openAll_3 (fun H locs B => ?_)
  refine lv_aload_n hx hb dX3_openAll_6 rfl (lv_at hl 0 rfl) ?_
  refine lv_iconst (v := (-1 : Int32)) hx hb dX3_openAll_7 (by decide) ?_
  refine x_puti hx hb hts hinRX3 hown tyX3 tyX3_ok nmX3 B 13 1 (by decide) (by decide) (fun _ => rfl) rfl rfl (by decide) (by decide +kernel) rfl rfl rfl rfl dX3_openAll_8 (fun H locs B => ?_)
  refine lv_aload_n hx hb dX3_openAll_11 rfl (lv_at hl 0 rfl) ?_
  refine lv_bipush (v := (63 : Int32)) hx hb dX3_openAll_12 (by decide) ?_
  refine x_puti hx hb hts hinRX3 hown tyX3 tyX3_ok nmX3 B 13 2 (by decide) (by decide) (fun _ => rfl) rfl rfl (by decide) (by decide +kernel) rfl rfl rfl rfl dX3_openAll_14 (fun H locs B => ?_)
  refine lv_aload_n hx hb dX3_openAll_17 rfl (lv_at hl 0 rfl) ?_
  refine lv_iconst (v := (-1 : Int32)) hx hb dX3_openAll_18 (by decide) ?_
  refine x_puti hx hb hts hinRX3 hown tyX3 tyX3_ok nmX3 B 13 3 (by decide) (by decide) (fun _ => rfl) rfl rfl (by decide) (by decide +kernel) rfl rfl rfl rfl dX3_openAll_19 (fun H locs B => ?_)
  refine lv_aload_n hx hb dX3_openAll_22 rfl (lv_at hl 0 rfl) ?_
  refine lv_iconst (v := (0 : Int32)) hx hb dX3_openAll_23 (by decide) ?_
  refine x_puti hx hb hts hinRX3 hown tyX3 tyX3_ok nmX3 B 13 4 (by decide) (by decide) (fun _ => rfl) rfl rfl (by decide) (by decide +kernel) rfl rfl rfl rfl dX3_openAll_24 (fun H locs B => ?_)
  refine lv_aload_n hx hb dX3_openAll_27 rfl (lv_at hl 0 rfl) ?_
  refine lv_sipush (v := (999 : Int32)) hx hb dX3_openAll_28 (by decide) ?_
  refine x_puti hx hb hts hinRX3 hown tyX3 tyX3_ok nmX3 B 13 5 (by decide) (by decide) (fun _ => rfl) rfl rfl (by decide) (by decide +kernel) rfl rfl rfl rfl dX3_openAll_31 (fun H locs B => ?_)
  refine W.widen (k := 0) (n := 0) (Nat.le_of_ble_eq_true rfl) (Nat.le_of_ble_eq_true rfl) ?_
  exact x_vret hx hb hr hlocks B hf dX3_openAll_34
theorem dX3_lesser_0 : decode cX3_lesser 0 = .ok (.iload_n 0, 1) := by decide +kernel
theorem dX3_lesser_1 : decode cX3_lesser 1 = .ok (.iconst (-1), 1) := by decide +kernel
theorem dX3_lesser_2 : decode cX3_lesser 2 = .ok (.if_icmp .eq 8, 3) := by decide +kernel
theorem dX3_lesser_5 : decode cX3_lesser 5 = .ok (.iload_n 1, 1) := by decide +kernel
theorem dX3_lesser_6 : decode cX3_lesser 6 = .ok (.iload_n 0, 1) := by decide +kernel
theorem dX3_lesser_7 : decode cX3_lesser 7 = .ok (.if_icmp .ge 7, 3) := by decide +kernel
theorem dX3_lesser_10 : decode cX3_lesser 10 = .ok (.iload_n 1, 1) := by decide +kernel
theorem dX3_lesser_11 : decode cX3_lesser 11 = .ok (.goto 4, 3) := by decide +kernel
theorem dX3_lesser_14 : decode cX3_lesser 14 = .ok (.iload_n 0, 1) := by decide +kernel
theorem dX3_lesser_15 : decode cX3_lesser 15 = .ok (.ireturn, 1) := by decide +kernel
def rm_X3_lesser : Room := { frames := 1, cells := 0, slots := 0, locals := 16 }
set_option maxHeartbeats 4000000 in
set_option maxRecDepth 100000 in
theorem c_X3_lesser (l : Launch) {G : zG} {ad : Nat → Nat} {σ σ' : zs} {a0 a1 : Int32} {r : Int32} (hf : f_X3_lesser σ a0 a1 = some (r, σ')) : xMi l yX3_lesser wsX3_lesser rm_X3_lesser G ad σ [.int a0, .int a1] r σ' := by
  intro sz nb a g hs
  refine Met.ofW (cc := cX3_lesser) (maxL := 2) (ret := (some .int)) (by decide) rfl ?_
  intro p e s m args below meth c s₁ B hml hv
  obtain ⟨rfl, hsz, hv⟩ := hv
  have hx := B.exec
  have hb := B.bytes
  have hr := B.returns
  have hts := atoms_spec (ws := wsX3_lesser) B.pre
  have hown : s.vm.findClass RX3 = some m.cls := findClass_of_methodNamed B.named
  have hlocks := B.notSynchronized
  subst hsz
  have B := xB_start hs hv
  have hl := lv_entry ([.int a0, .int a1]) (n := 2) (Nat.le_of_ble_eq_true rfl)
  rw [lg_entry_eq]
  generalize (lg_sl ([.int a0, .int a1]) ++ List.replicate (2 - (lg_sl ([.int a0, .int a1])).length) Slot.unset).toArray = ls at hl ⊢
  have hl : lv_has ls 2 [(0, .int a0), (1, .int a1)] := hl
  generalize hAe : xA ad a s.heap.size = A at B ⊢
  unfold f_X3_lesser at hf
  refine lv_iload_n hx hb dX3_lesser_0 rfl (lv_at hl 0 rfl) ?_
  refine lv_iconst (v := (-1 : Int32)) hx hb dX3_lesser_1 (by decide) ?_
  refine lv_icmp_eq (tgt := 10) hx hb dX3_lesser_2 (by decide) (fun hc => ?_) (fun hc => ?_)
  · have hf := zif_t hc hf
    refine lv_iload_n hx hb dX3_lesser_10 rfl (lv_at hl 1 rfl) ?_
    refine lv_goto (tgt := 15) hx hb dX3_lesser_11 (by decide) ?_
    refine W.widen (k := 0) (n := 0) (Nat.le_of_ble_eq_true rfl) (Nat.le_of_ble_eq_true rfl) ?_
    exact x_iret hx hb hr rfl hlocks B hf dX3_lesser_15
  · have hf := zif_f hc hf
    refine lv_iload_n hx hb dX3_lesser_5 rfl (lv_at hl 1 rfl) ?_
    refine lv_iload_n hx hb dX3_lesser_6 rfl (lv_at hl 0 rfl) ?_
    refine lv_icmp_ge (tgt := 14) hx hb dX3_lesser_7 (by decide) (fun hc => ?_) (fun hc => ?_)
    · have hf := zif_t hc hf
      refine lv_iload_n hx hb dX3_lesser_14 rfl (lv_at hl 0 rfl) ?_
      refine W.widen (k := 0) (n := 0) (Nat.le_of_ble_eq_true rfl) (Nat.le_of_ble_eq_true rfl) ?_
      exact x_iret hx hb hr rfl hlocks B hf dX3_lesser_15
    · have hf := zif_f hc hf
      refine lv_iload_n hx hb dX3_lesser_10 rfl (lv_at hl 1 rfl) ?_
      refine lv_goto (tgt := 15) hx hb dX3_lesser_11 (by decide) ?_
      refine W.widen (k := 0) (n := 0) (Nat.le_of_ble_eq_true rfl) (Nat.le_of_ble_eq_true rfl) ?_
      exact x_iret hx hb hr rfl hlocks B hf dX3_lesser_15
theorem dX3_narrow_0 : decode cX3_narrow 0 = .ok (.iload_n 1, 1) := by decide +kernel
theorem dX3_narrow_1 : decode cX3_narrow 1 = .ok (.tableswitch 96 0 3 #[31, 44, 59, 74], 31) := by decide +kernel
theorem dX3_narrow_32 : decode cX3_narrow 32 = .ok (.aload_n 0, 1) := by decide +kernel
theorem dX3_narrow_33 : decode cX3_narrow 33 = .ok (.dup, 1) := by decide +kernel
theorem dX3_narrow_34 : decode cX3_narrow 34 = .ok (.getfield 9, 3) := by decide +kernel
theorem dX3_narrow_37 : decode cX3_narrow 37 = .ok (.iload_n 2, 1) := by decide +kernel
theorem dX3_narrow_38 : decode cX3_narrow 38 = .ok (.iand, 1) := by decide +kernel
theorem dX3_narrow_39 : decode cX3_narrow 39 = .ok (.putfield 9, 3) := by decide +kernel
theorem dX3_narrow_42 : decode cX3_narrow 42 = .ok (.goto 79, 3) := by decide +kernel
theorem dX3_narrow_45 : decode cX3_narrow 45 = .ok (.aload_n 0, 1) := by decide +kernel
theorem dX3_narrow_46 : decode cX3_narrow 46 = .ok (.aload_n 0, 1) := by decide +kernel
theorem dX3_narrow_47 : decode cX3_narrow 47 = .ok (.getfield 15, 3) := by decide +kernel
theorem dX3_narrow_50 : decode cX3_narrow 50 = .ok (.iload_n 2, 1) := by decide +kernel
theorem dX3_narrow_51 : decode cX3_narrow 51 = .ok (.invokestatic 30, 3) := by decide +kernel
theorem dX3_narrow_54 : decode cX3_narrow 54 = .ok (.putfield 15, 3) := by decide +kernel
theorem dX3_narrow_57 : decode cX3_narrow 57 = .ok (.goto 64, 3) := by decide +kernel
theorem dX3_narrow_60 : decode cX3_narrow 60 = .ok (.aload_n 0, 1) := by decide +kernel
theorem dX3_narrow_61 : decode cX3_narrow 61 = .ok (.dup, 1) := by decide +kernel
theorem dX3_narrow_62 : decode cX3_narrow 62 = .ok (.getfield 18, 3) := by decide +kernel
theorem dX3_narrow_65 : decode cX3_narrow 65 = .ok (.iconst 1, 1) := by decide +kernel
theorem dX3_narrow_66 : decode cX3_narrow 66 = .ok (.iload_n 2, 1) := by decide +kernel
theorem dX3_narrow_67 : decode cX3_narrow 67 = .ok (.ishl, 1) := by decide +kernel
theorem dX3_narrow_68 : decode cX3_narrow 68 = .ok (.iand, 1) := by decide +kernel
theorem dX3_narrow_69 : decode cX3_narrow 69 = .ok (.putfield 18, 3) := by decide +kernel
theorem dX3_narrow_72 : decode cX3_narrow 72 = .ok (.goto 49, 3) := by decide +kernel
theorem dX3_narrow_75 : decode cX3_narrow 75 = .ok (.aload_n 0, 1) := by decide +kernel
theorem dX3_narrow_76 : decode cX3_narrow 76 = .ok (.aload_n 0, 1) := by decide +kernel
theorem dX3_narrow_77 : decode cX3_narrow 77 = .ok (.getfield 21, 3) := by decide +kernel
theorem dX3_narrow_80 : decode cX3_narrow 80 = .ok (.iconst 0, 1) := by decide +kernel
theorem dX3_narrow_81 : decode cX3_narrow 81 = .ok (.iload_n 2, 1) := by decide +kernel
theorem dX3_narrow_82 : decode cX3_narrow 82 = .ok (.iload 4, 2) := by decide +kernel
theorem dX3_narrow_84 : decode cX3_narrow 84 = .ok (.isub, 1) := by decide +kernel
theorem dX3_narrow_85 : decode cX3_narrow 85 = .ok (.invokestatic 34, 3) := by decide +kernel
theorem dX3_narrow_88 : decode cX3_narrow 88 = .ok (.invokestatic 30, 3) := by decide +kernel
theorem dX3_narrow_91 : decode cX3_narrow 91 = .ok (.putfield 21, 3) := by decide +kernel
theorem dX3_narrow_94 : decode cX3_narrow 94 = .ok (.goto 27, 3) := by decide +kernel
theorem dX3_narrow_97 : decode cX3_narrow 97 = .ok (.aload_n 0, 1) := by decide +kernel
theorem dX3_narrow_98 : decode cX3_narrow 98 = .ok (.aload_n 0, 1) := by decide +kernel
theorem dX3_narrow_99 : decode cX3_narrow 99 = .ok (.getfield 24, 3) := by decide +kernel
theorem dX3_narrow_102 : decode cX3_narrow 102 = .ok (.iload_n 2, 1) := by decide +kernel
theorem dX3_narrow_103 : decode cX3_narrow 103 = .ok (.invokestatic 34, 3) := by decide +kernel
theorem dX3_narrow_106 : decode cX3_narrow 106 = .ok (.putfield 24, 3) := by decide +kernel
theorem dX3_narrow_109 : decode cX3_narrow 109 = .ok (.aload_n 0, 1) := by decide +kernel
theorem dX3_narrow_110 : decode cX3_narrow 110 = .ok (.aload_n 0, 1) := by decide +kernel
theorem dX3_narrow_111 : decode cX3_narrow 111 = .ok (.getfield 27, 3) := by decide +kernel
theorem dX3_narrow_114 : decode cX3_narrow 114 = .ok (.iload_n 3, 1) := by decide +kernel
theorem dX3_narrow_115 : decode cX3_narrow 115 = .ok (.invokestatic 39, 3) := by decide +kernel
theorem dX3_narrow_118 : decode cX3_narrow 118 = .ok (.putfield 27, 3) := by decide +kernel
theorem dX3_narrow_121 : decode cX3_narrow 121 = .ok (.return_, 1) := by decide +kernel
set_option maxRecDepth 20000 in
theorem ggX3_narrow_X3_lesser : GoodIn wsX3_narrow wsX3_lesser := goodIn_r _ [17] (by decide +kernel) (by decide +kernel)
set_option maxRecDepth 20000 in
theorem gX3_narrow_X3_lesser : GoodIn wsX3_narrow (va_wsS RX3 30 yX3_lesser wsX3_lesser) := goodIn_app (goodIn_of _ (by decide +kernel)) ggX3_narrow_X3_lesser
def rm_X3_narrow : Room := { frames := 2, cells := 0, slots := 0, locals := 40 }
set_option maxHeartbeats 4000000 in
set_option maxRecDepth 100000 in
theorem c_X3_narrow (l : Launch) {G : zG} {ad : Nat → Nat} {σ σ' : zs} {a1 a2 a3 a4 : Int32} {r : Int32} (hf : f_X3_narrow σ a1 a2 a3 a4 = some (r, σ')) : xMv l yX3_narrow wsX3_narrow rm_X3_narrow G ad σ [.ref (ad 13), .int a1, .int a2, .int a3, .int a4] σ' := by
  intro sz nb a g hs
  refine Met.ofW (cc := cX3_narrow) (maxL := 5) (ret := none) (by decide) rfl ?_
  intro p e s m args below meth c s₁ B hml hv
  obtain ⟨rfl, hsz, hv⟩ := hv
  have hx := B.exec
  have hb := B.bytes
  have hr := B.returns
  have hts := atoms_spec (ws := wsX3_narrow) B.pre
  have hown : s.vm.findClass RX3 = some m.cls := findClass_of_methodNamed B.named
  have hlocks := B.notSynchronized
  subst hsz
  have B := xB_start hs hv
  have hinRX3 : ∀ w ∈ wsX30, w ∈ wsX3_narrow := by decide +kernel
  have hl := lv_entry ([.ref (ad 13), .int a1, .int a2, .int a3, .int a4]) (n := 5) (Nat.le_of_ble_eq_true rfl)
  rw [lg_entry_eq]
  generalize (lg_sl ([.ref (ad 13), .int a1, .int a2, .int a3, .int a4]) ++ List.replicate (5 - (lg_sl ([.ref (ad 13), .int a1, .int a2, .int a3, .int a4])).length) Slot.unset).toArray = ls at hl ⊢
  have hl : lv_has ls 5 [(0, .ref (ad 13)), (1, .int a1), (2, .int a2), (3, .int a3), (4, .int a4)] := hl
  generalize hAe : xA ad a s.heap.size = A at B ⊢
  unfold f_X3_narrow at hf
  refine lv_iload_n hx hb dX3_narrow_0 rfl (lv_at hl 1 rfl) ?_
  by_cases hc0 : a1 = (0 : Int32)
  · have hf := zif_t hc0 hf
    refine lv_tableIn (off := 31) (tgt := 32) hx hb dX3_narrow_1 (by rw [hc0]; decide) (by rw [hc0]; decide) (by rw [hc0]; rfl) (by decide) ?_
    refine lv_aload_n hx hb dX3_narrow_32 rfl (lv_at hl 0 rfl) ?_
    refine lv_dup hx hb dX3_narrow_33 rfl ?_
    refine x_geti hx hb hts hinRX3 hown B 13 0 (by decide) (fun _ => rfl) rfl rfl (by decide) (by decide +kernel) rfl dX3_narrow_34 ?_
    refine lv_iload_n hx hb dX3_narrow_37 rfl (lv_at hl 2 rfl) ?_
    refine lv_iand hx hb dX3_narrow_38 ?_
    refine x_puti hx hb hts hinRX3 hown tyX3 tyX3_ok nmX3 B 13 0 (by decide) (by decide) (fun _ => rfl) rfl rfl (by decide) (by decide +kernel) rfl rfl rfl rfl dX3_narrow_39 (fun H locs B => ?_)
    refine lv_goto (tgt := 121) hx hb dX3_narrow_42 (by decide) ?_
    refine W.widen (k := 0) (n := 0) (Nat.le_of_ble_eq_true rfl) (Nat.le_of_ble_eq_true rfl) ?_
    exact x_vret hx hb hr hlocks B hf dX3_narrow_121
  have hf := zif_f hc0 hf
  by_cases hc1 : a1 = (1 : Int32)
  · have hf := zif_t hc1 hf
    refine lv_tableIn (off := 44) (tgt := 45) hx hb dX3_narrow_1 (by rw [hc1]; decide) (by rw [hc1]; decide) (by rw [hc1]; rfl) (by decide) ?_
    refine lv_aload_n hx hb dX3_narrow_45 rfl (lv_at hl 0 rfl) ?_
    refine lv_aload_n hx hb dX3_narrow_46 rfl (lv_at hl 0 rfl) ?_
    refine x_geti hx hb hts hinRX3 hown B 13 1 (by decide) (fun _ => rfl) rfl rfl (by decide) (by decide +kernel) rfl dX3_narrow_47 ?_
    refine lv_iload_n hx hb dX3_narrow_50 rfl (lv_at hl 2 rfl) ?_
    obtain ⟨r2, σ3, hu1, hf⟩ := zb_some hf
    refine x_i B (fun nb a g hs Bz => va_runS (As := [.int (σ 13 1), .int a2]) (rest := [.ref (ad 13)]) ⟨hx, hb, hml, hown, hts⟩ (c_X3_lesser l hu1 _ nb a g hs) (va_cwS 2 hts gX3_narrow_X3_lesser rfl rfl rfl (by decide +kernel) ⟨Nat.le_of_ble_eq_true rfl, Nat.le_of_ble_eq_true rfl⟩) (z_preS Bz) rfl rfl hl.1 rfl (lv_room (Nat.le_of_ble_eq_true rfl)) dX3_narrow_51 ⟨Nat.le_of_ble_eq_true rfl, Nat.le_of_ble_eq_true rfl⟩) (fun H locs B => ?_)
    refine x_puti hx hb hts hinRX3 hown tyX3 tyX3_ok nmX3 B 13 1 (by decide) (by decide) (fun _ => rfl) rfl rfl (by decide) (by decide +kernel) rfl rfl rfl rfl dX3_narrow_54 (fun H locs B => ?_)
    refine lv_goto (tgt := 121) hx hb dX3_narrow_57 (by decide) ?_
    refine W.widen (k := 0) (n := 0) (Nat.le_of_ble_eq_true rfl) (Nat.le_of_ble_eq_true rfl) ?_
    exact x_vret hx hb hr hlocks B hf dX3_narrow_121
  have hf := zif_f hc1 hf
  by_cases hc2 : a1 = (2 : Int32)
  · have hf := zif_t hc2 hf
    refine lv_tableIn (off := 59) (tgt := 60) hx hb dX3_narrow_1 (by rw [hc2]; decide) (by rw [hc2]; decide) (by rw [hc2]; rfl) (by decide) ?_
    refine lv_aload_n hx hb dX3_narrow_60 rfl (lv_at hl 0 rfl) ?_
    refine lv_dup hx hb dX3_narrow_61 rfl ?_
    refine x_geti hx hb hts hinRX3 hown B 13 2 (by decide) (fun _ => rfl) rfl rfl (by decide) (by decide +kernel) rfl dX3_narrow_62 ?_
    refine lv_iconst (v := (1 : Int32)) hx hb dX3_narrow_65 (by decide) ?_
    refine lv_iload_n hx hb dX3_narrow_66 rfl (lv_at hl 2 rfl) ?_
    refine lv_ishl hx hb dX3_narrow_67 ?_
    refine lv_iand hx hb dX3_narrow_68 ?_
    refine x_puti hx hb hts hinRX3 hown tyX3 tyX3_ok nmX3 B 13 2 (by decide) (by decide) (fun _ => rfl) rfl rfl (by decide) (by decide +kernel) rfl rfl rfl rfl dX3_narrow_69 (fun H locs B => ?_)
    refine lv_goto (tgt := 121) hx hb dX3_narrow_72 (by decide) ?_
    refine W.widen (k := 0) (n := 0) (Nat.le_of_ble_eq_true rfl) (Nat.le_of_ble_eq_true rfl) ?_
    exact x_vret hx hb hr hlocks B hf dX3_narrow_121
  have hf := zif_f hc2 hf
  by_cases hc3 : a1 = (3 : Int32)
  · have hf := zif_t hc3 hf
    refine lv_tableIn (off := 74) (tgt := 75) hx hb dX3_narrow_1 (by rw [hc3]; decide) (by rw [hc3]; decide) (by rw [hc3]; rfl) (by decide) ?_
    refine lv_aload_n hx hb dX3_narrow_75 rfl (lv_at hl 0 rfl) ?_
    refine lv_aload_n hx hb dX3_narrow_76 rfl (lv_at hl 0 rfl) ?_
    refine x_geti hx hb hts hinRX3 hown B 13 3 (by decide) (fun _ => rfl) rfl rfl (by decide) (by decide +kernel) rfl dX3_narrow_77 ?_
    refine lv_iconst (v := (0 : Int32)) hx hb dX3_narrow_80 (by decide) ?_
    refine lv_iload_n hx hb dX3_narrow_81 rfl (lv_at hl 2 rfl) ?_
    refine lv_iload hx hb dX3_narrow_82 (lv_at hl 4 rfl) ?_
    refine lv_isub hx hb dX3_narrow_84 ?_
    refine va_mmax hx hb (hml.trans hl.1.symm) hown (index := 34) (hts _ (by decide +kernel)) (hts _ (by decide +kernel)) (hts _ (by decide +kernel)) (hts _ (by decide +kernel)) (Nat.le_of_ble_eq_true rfl) (Nat.le_of_ble_eq_true rfl) (Nat.le_of_ble_eq_true rfl) (Nat.le_of_ble_eq_true rfl) dX3_narrow_85 ?_
    obtain ⟨r5, σ6, hu4, hf⟩ := zb_some hf
    refine x_i B (fun nb a g hs Bz => va_runS (As := [.int (σ 13 3), .int (if (0 : Int32) < (a2 - a4) then (a2 - a4) else (0 : Int32))]) (rest := [.ref (ad 13)]) ⟨hx, hb, hml, hown, hts⟩ (c_X3_lesser l hu4 _ nb a g hs) (va_cwS 2 hts gX3_narrow_X3_lesser rfl rfl rfl (by decide +kernel) ⟨Nat.le_of_ble_eq_true rfl, Nat.le_of_ble_eq_true rfl⟩) (z_preS Bz) rfl rfl hl.1 rfl (lv_room (Nat.le_of_ble_eq_true rfl)) dX3_narrow_88 ⟨Nat.le_of_ble_eq_true rfl, Nat.le_of_ble_eq_true rfl⟩) (fun H locs B => ?_)
    refine x_puti hx hb hts hinRX3 hown tyX3 tyX3_ok nmX3 B 13 3 (by decide) (by decide) (fun _ => rfl) rfl rfl (by decide) (by decide +kernel) rfl rfl rfl rfl dX3_narrow_91 (fun H locs B => ?_)
    refine lv_goto (tgt := 121) hx hb dX3_narrow_94 (by decide) ?_
    refine W.widen (k := 0) (n := 0) (Nat.le_of_ble_eq_true rfl) (Nat.le_of_ble_eq_true rfl) ?_
    exact x_vret hx hb hr hlocks B hf dX3_narrow_121
  have hf := zif_f hc3 hf
  refine lv_tableOut (tgt := 97) hx hb dX3_narrow_1 (zsw_out (fun j h1 h2 hj => ?_)) (by decide) ?_
  · have hd : j = 0 ∨ j = 1 ∨ j = 2 ∨ j = 3 := by omega
    rcases hd with rfl | rfl | rfl | rfl
    · exact hc0 (Int32.toInt_inj.mp (hj.trans (by decide)))
    · exact hc1 (Int32.toInt_inj.mp (hj.trans (by decide)))
    · exact hc2 (Int32.toInt_inj.mp (hj.trans (by decide)))
    · exact hc3 (Int32.toInt_inj.mp (hj.trans (by decide)))
  refine lv_aload_n hx hb dX3_narrow_97 rfl (lv_at hl 0 rfl) ?_
  refine lv_aload_n hx hb dX3_narrow_98 rfl (lv_at hl 0 rfl) ?_
  refine x_geti hx hb hts hinRX3 hown B 13 4 (by decide) (fun _ => rfl) rfl rfl (by decide) (by decide +kernel) rfl dX3_narrow_99 ?_
  refine lv_iload_n hx hb dX3_narrow_102 rfl (lv_at hl 2 rfl) ?_
  refine va_mmax hx hb (hml.trans hl.1.symm) hown (index := 34) (hts _ (by decide +kernel)) (hts _ (by decide +kernel)) (hts _ (by decide +kernel)) (hts _ (by decide +kernel)) (Nat.le_of_ble_eq_true rfl) (Nat.le_of_ble_eq_true rfl) (Nat.le_of_ble_eq_true rfl) (Nat.le_of_ble_eq_true rfl) dX3_narrow_103 ?_
  refine x_puti hx hb hts hinRX3 hown tyX3 tyX3_ok nmX3 B 13 4 (by decide) (by decide) (fun _ => rfl) rfl rfl (by decide) (by decide +kernel) rfl rfl rfl rfl dX3_narrow_106 (fun H locs B => ?_)
  refine lv_aload_n hx hb dX3_narrow_109 rfl (lv_at hl 0 rfl) ?_
  refine lv_aload_n hx hb dX3_narrow_110 rfl (lv_at hl 0 rfl) ?_
  refine x_geti hx hb hts hinRX3 hown B 13 5 (by decide) (fun _ => rfl) rfl rfl (by decide) (by decide +kernel) rfl dX3_narrow_111 ?_
  refine lv_iload_n hx hb dX3_narrow_114 rfl (lv_at hl 3 rfl) ?_
  refine va_mmin hx hb (hml.trans hl.1.symm) hown (index := 39) (hts _ (by decide +kernel)) (hts _ (by decide +kernel)) (hts _ (by decide +kernel)) (hts _ (by decide +kernel)) (Nat.le_of_ble_eq_true rfl) (Nat.le_of_ble_eq_true rfl) (Nat.le_of_ble_eq_true rfl) (Nat.le_of_ble_eq_true rfl) dX3_narrow_115 ?_
  refine x_puti hx hb hts hinRX3 hown tyX3 tyX3_ok nmX3 B 13 5 (by decide) (by decide) (fun _ => rfl) rfl rfl (by decide) (by decide +kernel) rfl rfl rfl rfl dX3_narrow_118 (fun H locs B => ?_)
  refine W.widen (k := 0) (n := 0) (Nat.le_of_ble_eq_true rfl) (Nat.le_of_ble_eq_true rfl) ?_
  exact x_vret hx hb hr hlocks B hf dX3_narrow_121
theorem dX3_hasArgument_0 : decode cX3_hasArgument 0 = .ok (.aload_n 0, 1) := by decide +kernel
theorem dX3_hasArgument_1 : decode cX3_hasArgument 1 = .ok (.getfield 24, 3) := by decide +kernel
theorem dX3_hasArgument_4 : decode cX3_hasArgument 4 = .ok (.aload_n 0, 1) := by decide +kernel
theorem dX3_hasArgument_5 : decode cX3_hasArgument 5 = .ok (.getfield 27, 3) := by decide +kernel
theorem dX3_hasArgument_8 : decode cX3_hasArgument 8 = .ok (.if_icmp .gt 7, 3) := by decide +kernel
theorem dX3_hasArgument_11 : decode cX3_hasArgument 11 = .ok (.iconst 1, 1) := by decide +kernel
theorem dX3_hasArgument_12 : decode cX3_hasArgument 12 = .ok (.goto 4, 3) := by decide +kernel
theorem dX3_hasArgument_15 : decode cX3_hasArgument 15 = .ok (.iconst 0, 1) := by decide +kernel
theorem dX3_hasArgument_16 : decode cX3_hasArgument 16 = .ok (.ireturn, 1) := by decide +kernel
def rm_X3_hasArgument : Room := { frames := 1, cells := 0, slots := 0, locals := 16 }
set_option maxHeartbeats 4000000 in
set_option maxRecDepth 100000 in
theorem c_X3_hasArgument (l : Launch) {G : zG} {ad : Nat → Nat} {σ σ' : zs} {r : Int32} (hf : f_X3_hasArgument σ  = some (r, σ')) : xMi l yX3_hasArgument wsX3_hasArgument rm_X3_hasArgument G ad σ [.ref (ad 13)] r σ' := by
  intro sz nb a g hs
  refine Met.ofW (cc := cX3_hasArgument) (maxL := 1) (ret := (some .boolean)) (by decide) rfl ?_
  intro p e s m args below meth c s₁ B hml hv
  obtain ⟨rfl, hsz, hv⟩ := hv
  have hx := B.exec
  have hb := B.bytes
  have hr := B.returns
  have hts := atoms_spec (ws := wsX3_hasArgument) B.pre
  have hown : s.vm.findClass RX3 = some m.cls := findClass_of_methodNamed B.named
  have hlocks := B.notSynchronized
  subst hsz
  have B := xB_start hs hv
  have hinRX3 : ∀ w ∈ wsX30, w ∈ wsX3_hasArgument := by decide +kernel
  have hl := lv_entry ([.ref (ad 13)]) (n := 1) (Nat.le_of_ble_eq_true rfl)
  rw [lg_entry_eq]
  generalize (lg_sl ([.ref (ad 13)]) ++ List.replicate (1 - (lg_sl ([.ref (ad 13)])).length) Slot.unset).toArray = ls at hl ⊢
  have hl : lv_has ls 1 [(0, .ref (ad 13))] := hl
  generalize hAe : xA ad a s.heap.size = A at B ⊢
  unfold f_X3_hasArgument at hf
  refine lv_aload_n hx hb dX3_hasArgument_0 rfl (lv_at hl 0 rfl) ?_
  refine x_geti hx hb hts hinRX3 hown B 13 4 (by decide) (fun _ => rfl) rfl rfl (by decide) (by decide +kernel) rfl dX3_hasArgument_1 ?_
  refine lv_aload_n hx hb dX3_hasArgument_4 rfl (lv_at hl 0 rfl) ?_
  refine x_geti hx hb hts hinRX3 hown B 13 5 (by decide) (fun _ => rfl) rfl rfl (by decide) (by decide +kernel) rfl dX3_hasArgument_5 ?_
  refine lv_icmp_gt (tgt := 15) hx hb dX3_hasArgument_8 (by decide) (fun hc => ?_) (fun hc => ?_)
  · have hf := zif_t hc hf
    refine lv_iconst (v := (0 : Int32)) hx hb dX3_hasArgument_15 (by decide) ?_
    refine W.widen (k := 0) (n := 0) (Nat.le_of_ble_eq_true rfl) (Nat.le_of_ble_eq_true rfl) ?_
    exact x_iret hx hb hr (by decide) hlocks B hf dX3_hasArgument_16
  · have hf := zif_f hc hf
    refine lv_iconst (v := (1 : Int32)) hx hb dX3_hasArgument_11 (by decide) ?_
    refine lv_goto (tgt := 16) hx hb dX3_hasArgument_12 (by decide) ?_
    refine W.widen (k := 0) (n := 0) (Nat.le_of_ble_eq_true rfl) (Nat.le_of_ble_eq_true rfl) ?_
    exact x_iret hx hb hr (by decide) hlocks B hf dX3_hasArgument_16
theorem dX4_settle_0 : decode cX4_settle 0 = .ok (.iload_n 2, 1) := by decide +kernel
theorem dX4_settle_1 : decode cX4_settle 1 = .ok (.ifCond .ne 7, 3) := by decide +kernel
theorem dX4_settle_4 : decode cX4_settle 4 = .ok (.iconst 1, 1) := by decide +kernel
theorem dX4_settle_5 : decode cX4_settle 5 = .ok (.goto 4, 3) := by decide +kernel
theorem dX4_settle_8 : decode cX4_settle 8 = .ok (.iconst 0, 1) := by decide +kernel
theorem dX4_settle_9 : decode cX4_settle 9 = .ok (.istore_n 3, 1) := by decide +kernel
theorem dX4_settle_10 : decode cX4_settle 10 = .ok (.iconst 0, 1) := by decide +kernel
theorem dX4_settle_11 : decode cX4_settle 11 = .ok (.istore 4, 2) := by decide +kernel
theorem dX4_settle_13 : decode cX4_settle 13 = .ok (.iload 4, 2) := by decide +kernel
theorem dX4_settle_15 : decode cX4_settle 15 = .ok (.bipush 6, 2) := by decide +kernel
theorem dX4_settle_17 : decode cX4_settle 17 = .ok (.if_icmp .ge 81, 3) := by decide +kernel
theorem dX4_settle_20 : decode cX4_settle 20 = .ok (.aload_n 0, 1) := by decide +kernel
theorem dX4_settle_21 : decode cX4_settle 21 = .ok (.getfield 15, 3) := by decide +kernel
theorem dX4_settle_24 : decode cX4_settle 24 = .ok (.iload 4, 2) := by decide +kernel
theorem dX4_settle_26 : decode cX4_settle 26 = .ok (.iaload, 1) := by decide +kernel
theorem dX4_settle_27 : decode cX4_settle 27 = .ok (.aload_n 0, 1) := by decide +kernel
theorem dX4_settle_28 : decode cX4_settle 28 = .ok (.getfield 9, 3) := by decide +kernel
theorem dX4_settle_31 : decode cX4_settle 31 = .ok (.iload 4, 2) := by decide +kernel
theorem dX4_settle_33 : decode cX4_settle 33 = .ok (.iaload, 1) := by decide +kernel
theorem dX4_settle_34 : decode cX4_settle 34 = .ok (.iconst (-1), 1) := by decide +kernel
theorem dX4_settle_35 : decode cX4_settle 35 = .ok (.ixor, 1) := by decide +kernel
theorem dX4_settle_36 : decode cX4_settle 36 = .ok (.iand, 1) := by decide +kernel
theorem dX4_settle_37 : decode cX4_settle 37 = .ok (.istore 5, 2) := by decide +kernel
theorem dX4_settle_39 : decode cX4_settle 39 = .ok (.iconst 0, 1) := by decide +kernel
theorem dX4_settle_40 : decode cX4_settle 40 = .ok (.istore 6, 2) := by decide +kernel
theorem dX4_settle_42 : decode cX4_settle 42 = .ok (.iload 6, 2) := by decide +kernel
theorem dX4_settle_44 : decode cX4_settle 44 = .ok (.iload_n 1, 1) := by decide +kernel
theorem dX4_settle_45 : decode cX4_settle 45 = .ok (.if_icmp .ge 35, 3) := by decide +kernel
theorem dX4_settle_48 : decode cX4_settle 48 = .ok (.iload 5, 2) := by decide +kernel
theorem dX4_settle_50 : decode cX4_settle 50 = .ok (.iload 6, 2) := by decide +kernel
theorem dX4_settle_52 : decode cX4_settle 52 = .ok (.invokestatic 76, 3) := by decide +kernel
theorem dX4_settle_55 : decode cX4_settle 55 = .ok (.ifCond .eq 19, 3) := by decide +kernel
theorem dX4_settle_58 : decode cX4_settle 58 = .ok (.aload_n 0, 1) := by decide +kernel
theorem dX4_settle_59 : decode cX4_settle 59 = .ok (.getfield 18, 3) := by decide +kernel
theorem dX4_settle_62 : decode cX4_settle 62 = .ok (.iload 4, 2) := by decide +kernel
theorem dX4_settle_64 : decode cX4_settle 64 = .ok (.bipush 28, 2) := by decide +kernel
theorem dX4_settle_66 : decode cX4_settle 66 = .ok (.imul, 1) := by decide +kernel
theorem dX4_settle_67 : decode cX4_settle 67 = .ok (.iload 6, 2) := by decide +kernel
theorem dX4_settle_69 : decode cX4_settle 69 = .ok (.iadd, 1) := by decide +kernel
theorem dX4_settle_70 : decode cX4_settle 70 = .ok (.iload_n 2, 1) := by decide +kernel
theorem dX4_settle_71 : decode cX4_settle 71 = .ok (.iastore, 1) := by decide +kernel
theorem dX4_settle_72 : decode cX4_settle 72 = .ok (.iconst 1, 1) := by decide +kernel
theorem dX4_settle_73 : decode cX4_settle 73 = .ok (.istore_n 3, 1) := by decide +kernel
theorem dX4_settle_74 : decode cX4_settle 74 = .ok (.iinc 6 1, 3) := by decide +kernel
theorem dX4_settle_77 : decode cX4_settle 77 = .ok (.goto (-35), 3) := by decide +kernel
theorem dX4_settle_80 : decode cX4_settle 80 = .ok (.aload_n 0, 1) := by decide +kernel
theorem dX4_settle_81 : decode cX4_settle 81 = .ok (.getfield 9, 3) := by decide +kernel
theorem dX4_settle_84 : decode cX4_settle 84 = .ok (.iload 4, 2) := by decide +kernel
theorem dX4_settle_86 : decode cX4_settle 86 = .ok (.dup2, 1) := by decide +kernel
theorem dX4_settle_87 : decode cX4_settle 87 = .ok (.iaload, 1) := by decide +kernel
theorem dX4_settle_88 : decode cX4_settle 88 = .ok (.iload 5, 2) := by decide +kernel
theorem dX4_settle_90 : decode cX4_settle 90 = .ok (.ior, 1) := by decide +kernel
theorem dX4_settle_91 : decode cX4_settle 91 = .ok (.iastore, 1) := by decide +kernel
theorem dX4_settle_92 : decode cX4_settle 92 = .ok (.iinc 4 1, 3) := by decide +kernel
theorem dX4_settle_95 : decode cX4_settle 95 = .ok (.goto (-82), 3) := by decide +kernel
theorem dX4_settle_98 : decode cX4_settle 98 = .ok (.iload_n 3, 1) := by decide +kernel
theorem dX4_settle_99 : decode cX4_settle 99 = .ok (.ireturn, 1) := by decide +kernel
set_option maxRecDepth 20000 in
theorem ggX4_settle_X8_hasBit : GoodIn wsX4_settle wsX8_hasBit := goodIn_r _ [6] (by decide +kernel) (by decide +kernel)
set_option maxRecDepth 20000 in
theorem gX4_settle_X8_hasBit_n76 : GoodIn wsX4_settle (wsX8_hasBit) := ggX4_settle_X8_hasBit
def rm_X4_settle : Room := { frames := 2, cells := 0, slots := 0, locals := 37 }
set_option maxHeartbeats 4000000 in
set_option maxRecDepth 100000 in
theorem c_X4_settle (l : Launch) {G : zG} {ad : Nat → Nat} {σ σ' : zs} {a1 a2 : Int32} {r : Int32} (hf : f_X4_settle σ a1 a2 = some (r, σ')) : xMi l yX4_settle wsX4_settle rm_X4_settle G ad σ [.ref (ad 57), .int a1, .int a2] r σ' := by
  intro sz nb a g hs
  refine Met.ofW (cc := cX4_settle) (maxL := 7) (ret := (some .boolean)) (by decide) rfl ?_
  intro p e s m args below meth c s₁ B hml hv
  obtain ⟨rfl, hsz, hv⟩ := hv
  have hx := B.exec
  have hb := B.bytes
  have hr := B.returns
  have hts := atoms_spec (ws := wsX4_settle) B.pre
  have hown : s.vm.findClass RX4 = some m.cls := findClass_of_methodNamed B.named
  have hlocks := B.notSynchronized
  subst hsz
  have B := xB_start hs hv
  have hinRX4 : ∀ w ∈ wsX40, w ∈ wsX4_settle := by decide +kernel
  have hl := lv_entry ([.ref (ad 57), .int a1, .int a2]) (n := 7) (Nat.le_of_ble_eq_true rfl)
  rw [lg_entry_eq]
  generalize (lg_sl ([.ref (ad 57), .int a1, .int a2]) ++ List.replicate (7 - (lg_sl ([.ref (ad 57), .int a1, .int a2])).length) Slot.unset).toArray = ls at hl ⊢
  have hl : lv_has ls 7 [(0, .ref (ad 57)), (1, .int a1), (2, .int a2)] := hl
  generalize hAe : xA ad a s.heap.size = A at B ⊢
  have L42 : ∀ (K13 : zs → Int32 → Int32 → Int32 → Int32 → Option (Int32 × zs)) (hK13 : ∀ (σ : zs) (v1 : Int32) (v2 : Int32) (v3 : Int32) (v4 : Int32) (H : Heap) (locs : List Loc) (ls : Array Slot), K13 σ v1 v2 v3 v4 = some (r, σ') → xB A s G ad σ H locs → lv_has ls 7 [(0, .ref (ad 57)), (1, .int v1), (2, .int v2), (3, .int v3), (4, .int v4)] → W p l e (headSpec wsX4_settle rm_X4_settle).room s m ([.ref (ad 57), .int a1, .int a2] : List Value).toArray below meth c H locs 0 0 (MQ below (va_Qi (fun r' (u : xV) => r' = r ∧ xQ σ' u) (xPost G ad σ' A) A) ([.ref (ad 57), .int a1, .int a2] : List Value).toArray s 0 0 A) (F0 m 13 ls [])) (n : Nat) (σ : zs) (v1 : Int32) (v2 : Int32) (v3 : Int32) (v4 : Int32) (v5 : Int32) (v6 : Int32) (H : Heap) (locs : List Loc) (ls : Array Slot), zlp6 (f_X4_settle_42 K13) n σ v1 v2 v3 v4 v5 v6 = some (r, σ') → xB A s G ad σ H locs → lv_has ls 7 [(0, .ref (ad 57)), (1, .int v1), (2, .int v2), (3, .int v3), (4, .int v4), (5, .int v5), (6, .int v6)] → W p l e (headSpec wsX4_settle rm_X4_settle).room s m ([.ref (ad 57), .int a1, .int a2] : List Value).toArray below meth c H locs 0 0 (MQ below (va_Qi (fun r' (u : xV) => r' = r ∧ xQ σ' u) (xPost G ad σ' A) A) ([.ref (ad 57), .int a1, .int a2] : List Value).toArray s 0 0 A) (F0 m 42 ls []) := by
    intro K13 hK13 n
    induction n with
    | zero =>
      intro σ v1 v2 v3 v4 v5 v6 H locs ls hf
      cases hf
    | succ n ih =>
      intro σ v1 v2 v3 v4 v5 v6 H locs ls hf B hl
      have hf : f_X4_settle_42 K13 (zlp6 (f_X4_settle_42 K13) n) σ v1 v2 v3 v4 v5 v6 = some (r, σ') := hf
      unfold f_X4_settle_42 at hf
      refine lv_iload hx hb dX4_settle_42 (lv_at hl 6 rfl) ?_
      refine lv_iload_n hx hb dX4_settle_44 rfl (lv_at hl 1 rfl) ?_
      refine lv_icmp_ge (tgt := 80) hx hb dX4_settle_45 (by decide) (fun hc => ?_) (fun hc => ?_)
      · have hf := zif_t hc hf
        refine lv_aload_n hx hb dX4_settle_80 rfl (lv_at hl 0 rfl) ?_
        refine x_getr hx hb hts hinRX4 hown B 57 0 58 (by decide) (by decide) (fun _ => rfl) rfl rfl (by decide) (by decide +kernel) rfl dX4_settle_81 ?_
        refine lv_iload hx hb dX4_settle_84 (lv_at hl 4 rfl) ?_
        refine lv_dup2_11 hx hb dX4_settle_86 rfl rfl ?_
        obtain ⟨hg, hf⟩ := zg_some hf
        refine x_iald hx hb B 58 (by decide) (fun _ => rfl) (zin_ok hg) dX4_settle_87 ?_
        refine lv_iload hx hb dX4_settle_88 (lv_at hl 5 rfl) ?_
        refine lv_ior hx hb dX4_settle_90 ?_
        obtain ⟨hg, hf⟩ := zg_some hf
        refine x_iast hx hb B 58 (by decide) (by decide) (fun _ => rfl) (zin_ok hg) dX4_settle_91 (fun H locs B => ?_)
        refine lv_iinc (v := (v4 + (1 : Int32))) (lv' := [(4, .int (v4 + (1 : Int32))), (0, .ref (ad 57)), (1, .int v1), (2, .int v2), (3, .int v3), (5, .int v5), (6, .int v6)]) hx hb dX4_settle_92 hl (k := 4) rfl (zc1 (by decide)) (by decide) rfl (fun ls hl => ?_)
        refine lv_goto (tgt := 13) hx hb dX4_settle_95 (by decide) ?_
        exact hK13 _ _ _ _ _ _ _ _ hf B (lv_sub hl [1, 2, 3, 4, 0] rfl)
      · have hf := zif_f hc hf
        refine lv_iload hx hb dX4_settle_48 (lv_at hl 5 rfl) ?_
        refine lv_iload hx hb dX4_settle_50 (lv_at hl 6 rfl) ?_
        obtain ⟨r2, σ3, hu1, hf⟩ := zb_some hf
        refine x_i B (fun nb a g hs Bz => va_runSN (As := [.int v5, .int v6]) (rest := []) ⟨hx, hb, hml, hown, hts⟩ (c_X8_hasBit l hu1 _ nb a g hs) ⟨va_cnB 2 hts gX4_settle_X8_hasBit_n76 rfl rfl rfl (x_nest B (q := (RX4, 76, yX8_hasBit)) (by decide +kernel)) (hts (.initialized RX8) (by decide +kernel)) (by decide +kernel) ⟨Nat.le_of_ble_eq_true rfl, Nat.le_of_ble_eq_true rfl⟩, hts (.static yX8_hasBit) (by decide +kernel), trivial⟩ (z_preS Bz) rfl rfl hl.1 rfl (lv_room (Nat.le_of_ble_eq_true rfl)) dX4_settle_52 ⟨Nat.le_of_ble_eq_true rfl, Nat.le_of_ble_eq_true rfl⟩) (fun H locs B => ?_)
        refine lv_if_eq (tgt := 74) hx hb dX4_settle_55 (by decide) (fun hc => ?_) (fun hc => ?_)
        · have hf := zif_t hc hf
          refine lv_iinc (v := (v6 + (1 : Int32))) (lv' := [(6, .int (v6 + (1 : Int32))), (0, .ref (ad 57)), (1, .int v1), (2, .int v2), (3, .int v3), (4, .int v4), (5, .int v5)]) hx hb dX4_settle_74 hl (k := 6) rfl (zc1 (by decide)) (by decide) rfl (fun ls hl => ?_)
          refine lv_goto (tgt := 42) hx hb dX4_settle_77 (by decide) ?_
          exact ih _ _ _ _ _ _ _ _ _ _ hf B (lv_sub hl [1, 2, 3, 4, 5, 6, 0] rfl)
        · have hf := zif_f hc hf
          refine lv_aload_n hx hb dX4_settle_58 rfl (lv_at hl 0 rfl) ?_
          refine x_getr hx hb hts hinRX4 hown B 57 2 60 (by decide) (by decide) (fun _ => rfl) rfl rfl (by decide) (by decide +kernel) rfl dX4_settle_59 ?_
          refine lv_iload hx hb dX4_settle_62 (lv_at hl 4 rfl) ?_
          refine lv_bipush (v := (28 : Int32)) hx hb dX4_settle_64 (by decide) ?_
          refine lv_imul hx hb dX4_settle_66 ?_
          refine lv_iload hx hb dX4_settle_67 (lv_at hl 6 rfl) ?_
          refine lv_iadd hx hb dX4_settle_69 ?_
          refine lv_iload_n hx hb dX4_settle_70 rfl (lv_at hl 2 rfl) ?_
          obtain ⟨hg, hf⟩ := zg_some hf
          refine x_iast hx hb B 60 (by decide) (by decide) (fun _ => rfl) (zin_ok hg) dX4_settle_71 (fun H locs B => ?_)
          refine lv_iconst (v := (1 : Int32)) hx hb dX4_settle_72 (by decide) ?_
          refine lv_istore_n (lv' := [(3, .int (1 : Int32)), (0, .ref (ad 57)), (1, .int v1), (2, .int v2), (4, .int v4), (5, .int v5), (6, .int v6)]) hx hb dX4_settle_73 rfl hl (by decide) rfl (fun ls hl => ?_)
          refine lv_iinc (v := (v6 + (1 : Int32))) (lv' := [(6, .int (v6 + (1 : Int32))), (3, .int (1 : Int32)), (0, .ref (ad 57)), (1, .int v1), (2, .int v2), (4, .int v4), (5, .int v5)]) hx hb dX4_settle_74 hl (k := 6) rfl (zc1 (by decide)) (by decide) rfl (fun ls hl => ?_)
          refine lv_goto (tgt := 42) hx hb dX4_settle_77 (by decide) ?_
          exact ih _ _ _ _ _ _ _ _ _ _ hf B (lv_sub hl [2, 3, 4, 1, 5, 6, 0] rfl)
  have L13 : ∀ (n : Nat) (σ : zs) (v1 : Int32) (v2 : Int32) (v3 : Int32) (v4 : Int32) (H : Heap) (locs : List Loc) (ls : Array Slot), zlp4 (f_X4_settle_13) n σ v1 v2 v3 v4 = some (r, σ') → xB A s G ad σ H locs → lv_has ls 7 [(0, .ref (ad 57)), (1, .int v1), (2, .int v2), (3, .int v3), (4, .int v4)] → W p l e (headSpec wsX4_settle rm_X4_settle).room s m ([.ref (ad 57), .int a1, .int a2] : List Value).toArray below meth c H locs 0 0 (MQ below (va_Qi (fun r' (u : xV) => r' = r ∧ xQ σ' u) (xPost G ad σ' A) A) ([.ref (ad 57), .int a1, .int a2] : List Value).toArray s 0 0 A) (F0 m 13 ls []) := by
    intro n
    induction n with
    | zero =>
      intro σ v1 v2 v3 v4 H locs ls hf
      cases hf
    | succ n ih =>
      intro σ v1 v2 v3 v4 H locs ls hf B hl
      have hf : f_X4_settle_13 (zlp4 (f_X4_settle_13) n) σ v1 v2 v3 v4 = some (r, σ') := hf
      unfold f_X4_settle_13 at hf
      refine lv_iload hx hb dX4_settle_13 (lv_at hl 4 rfl) ?_
      refine lv_bipush (v := (6 : Int32)) hx hb dX4_settle_15 (by decide) ?_
      refine lv_icmp_ge (tgt := 98) hx hb dX4_settle_17 (by decide) (fun hc => ?_) (fun hc => ?_)
      · have hf := zif_t hc hf
        refine lv_iload_n hx hb dX4_settle_98 rfl (lv_at hl 3 rfl) ?_
        obtain ⟨hg, hf⟩ := zg_some hf
        refine W.widen (k := 0) (n := 0) (Nat.le_of_ble_eq_true rfl) (Nat.le_of_ble_eq_true rfl) ?_
        exact x_iret hx hb hr (znz hg) hlocks B hf dX4_settle_99
      · have hf := zif_f hc hf
        refine lv_aload_n hx hb dX4_settle_20 rfl (lv_at hl 0 rfl) ?_
        refine x_getr hx hb hts hinRX4 hown B 57 1 59 (by decide) (by decide) (fun _ => rfl) rfl rfl (by decide) (by decide +kernel) rfl dX4_settle_21 ?_
        refine lv_iload hx hb dX4_settle_24 (lv_at hl 4 rfl) ?_
        obtain ⟨hg, hf⟩ := zg_some hf
        refine x_iald hx hb B 59 (by decide) (fun _ => rfl) (zin_ok hg) dX4_settle_26 ?_
        refine lv_aload_n hx hb dX4_settle_27 rfl (lv_at hl 0 rfl) ?_
        refine x_getr hx hb hts hinRX4 hown B 57 0 58 (by decide) (by decide) (fun _ => rfl) rfl rfl (by decide) (by decide +kernel) rfl dX4_settle_28 ?_
        refine lv_iload hx hb dX4_settle_31 (lv_at hl 4 rfl) ?_
        obtain ⟨hg, hf⟩ := zg_some hf
        refine x_iald hx hb B 58 (by decide) (fun _ => rfl) (zin_ok hg) dX4_settle_33 ?_
        refine lv_iconst (v := (-1 : Int32)) hx hb dX4_settle_34 (by decide) ?_
        refine lv_ixor hx hb dX4_settle_35 ?_
        refine lv_iand hx hb dX4_settle_36 ?_
        refine lv_istore (lv' := [(5, .int ((σ 59 v4.toNatClampNeg) &&& ((σ 58 v4.toNatClampNeg) ^^^ (-1 : Int32)))), (0, .ref (ad 57)), (1, .int v1), (2, .int v2), (3, .int v3), (4, .int v4)]) hx hb dX4_settle_37 hl (by decide) rfl (fun ls hl => ?_)
        refine lv_iconst (v := (0 : Int32)) hx hb dX4_settle_39 (by decide) ?_
        refine lv_istore (lv' := [(6, .int (0 : Int32)), (5, .int ((σ 59 v4.toNatClampNeg) &&& ((σ 58 v4.toNatClampNeg) ^^^ (-1 : Int32)))), (0, .ref (ad 57)), (1, .int v1), (2, .int v2), (3, .int v3), (4, .int v4)]) hx hb dX4_settle_40 hl (by decide) rfl (fun ls hl => ?_)
        exact L42 _ ih  _ _ _ _ _ _ _ _ _ _ _ hf B (lv_sub hl [2, 3, 4, 5, 6, 1, 0] rfl)
  have L9 : ∀ (σ : zs) (v1 : Int32) (v2 : Int32) (s0 : Int32) (H : Heap) (locs : List Loc) (ls : Array Slot), f_X4_settle_9 σ v1 v2 s0 = some (r, σ') → xB A s G ad σ H locs → lv_has ls 7 [(0, .ref (ad 57)), (1, .int v1), (2, .int v2)] → W p l e (headSpec wsX4_settle rm_X4_settle).room s m ([.ref (ad 57), .int a1, .int a2] : List Value).toArray below meth c H locs 0 0 (MQ below (va_Qi (fun r' (u : xV) => r' = r ∧ xQ σ' u) (xPost G ad σ' A) A) ([.ref (ad 57), .int a1, .int a2] : List Value).toArray s 0 0 A) (F0 m 9 ls [.int s0]) := by
    intro σ v1 v2 s0 H locs ls hf B hl
    unfold f_X4_settle_9 at hf
    refine lv_istore_n (lv' := [(3, .int s0), (0, .ref (ad 57)), (1, .int v1), (2, .int v2)]) hx hb dX4_settle_9 rfl hl (by decide) rfl (fun ls hl => ?_)
    refine lv_iconst (v := (0 : Int32)) hx hb dX4_settle_10 (by decide) ?_
    refine lv_istore (lv' := [(4, .int (0 : Int32)), (3, .int s0), (0, .ref (ad 57)), (1, .int v1), (2, .int v2)]) hx hb dX4_settle_11 hl (by decide) rfl (fun ls hl => ?_)
    exact L13  _ _ _ _ _ _ _ _ _ hf B (lv_sub hl [2, 3, 4, 1, 0] rfl)
  unfold f_X4_settle at hf
  refine lv_iload_n hx hb dX4_settle_0 rfl (lv_at hl 2 rfl) ?_
  refine lv_if_ne (tgt := 8) hx hb dX4_settle_1 (by decide) (fun hc => ?_) (fun hc => ?_)
  · have hf := zif_f hc hf
    refine lv_iconst (v := (0 : Int32)) hx hb dX4_settle_8 (by decide) ?_
    exact L9  _ _ _ _ _ _ _ hf B (lv_sub hl [0, 1, 2] rfl)
  · have hf := zif_t hc hf
    refine lv_iconst (v := (1 : Int32)) hx hb dX4_settle_4 (by decide) ?_
    refine lv_goto (tgt := 9) hx hb dX4_settle_5 (by decide) ?_
    exact L9  _ _ _ _ _ _ _ hf B (lv_sub hl [0, 1, 2] rfl)
theorem dX5_addCause_0 : decode cX5_addCause 0 = .ok (.aload_n 0, 1) := by decide +kernel
theorem dX5_addCause_1 : decode cX5_addCause 1 = .ok (.getfield 18, 3) := by decide +kernel
theorem dX5_addCause_4 : decode cX5_addCause 4 = .ok (.iconst 3, 1) := by decide +kernel
theorem dX5_addCause_5 : decode cX5_addCause 5 = .ok (.if_icmp .ge 33, 3) := by decide +kernel
theorem dX5_addCause_8 : decode cX5_addCause 8 = .ok (.aload_n 0, 1) := by decide +kernel
theorem dX5_addCause_9 : decode cX5_addCause 9 = .ok (.getfield 9, 3) := by decide +kernel
theorem dX5_addCause_12 : decode cX5_addCause 12 = .ok (.aload_n 0, 1) := by decide +kernel
theorem dX5_addCause_13 : decode cX5_addCause 13 = .ok (.getfield 18, 3) := by decide +kernel
theorem dX5_addCause_16 : decode cX5_addCause 16 = .ok (.iload_n 1, 1) := by decide +kernel
theorem dX5_addCause_17 : decode cX5_addCause 17 = .ok (.iastore, 1) := by decide +kernel
theorem dX5_addCause_18 : decode cX5_addCause 18 = .ok (.aload_n 0, 1) := by decide +kernel
theorem dX5_addCause_19 : decode cX5_addCause 19 = .ok (.getfield 15, 3) := by decide +kernel
theorem dX5_addCause_22 : decode cX5_addCause 22 = .ok (.aload_n 0, 1) := by decide +kernel
theorem dX5_addCause_23 : decode cX5_addCause 23 = .ok (.getfield 18, 3) := by decide +kernel
theorem dX5_addCause_26 : decode cX5_addCause 26 = .ok (.iload_n 2, 1) := by decide +kernel
theorem dX5_addCause_27 : decode cX5_addCause 27 = .ok (.iastore, 1) := by decide +kernel
theorem dX5_addCause_28 : decode cX5_addCause 28 = .ok (.aload_n 0, 1) := by decide +kernel
theorem dX5_addCause_29 : decode cX5_addCause 29 = .ok (.dup, 1) := by decide +kernel
theorem dX5_addCause_30 : decode cX5_addCause 30 = .ok (.getfield 18, 3) := by decide +kernel
theorem dX5_addCause_33 : decode cX5_addCause 33 = .ok (.iconst 1, 1) := by decide +kernel
theorem dX5_addCause_34 : decode cX5_addCause 34 = .ok (.iadd, 1) := by decide +kernel
theorem dX5_addCause_35 : decode cX5_addCause 35 = .ok (.putfield 18, 3) := by decide +kernel
theorem dX5_addCause_38 : decode cX5_addCause 38 = .ok (.return_, 1) := by decide +kernel
def rm_X5_addCause : Room := { frames := 1, cells := 0, slots := 0, locals := 16 }
set_option maxHeartbeats 4000000 in
set_option maxRecDepth 100000 in
theorem c_X5_addCause (l : Launch) {G : zG} {ad : Nat → Nat} {σ σ' : zs} {a1 a2 : Int32} {r : Int32} (hf : f_X5_addCause σ a1 a2 = some (r, σ')) : xMv l yX5_addCause wsX5_addCause rm_X5_addCause G ad σ [.ref (ad 49), .int a1, .int a2] σ' := by
  intro sz nb a g hs
  refine Met.ofW (cc := cX5_addCause) (maxL := 3) (ret := none) (by decide) rfl ?_
  intro p e s m args below meth c s₁ B hml hv
  obtain ⟨rfl, hsz, hv⟩ := hv
  have hx := B.exec
  have hb := B.bytes
  have hr := B.returns
  have hts := atoms_spec (ws := wsX5_addCause) B.pre
  have hown : s.vm.findClass RX5 = some m.cls := findClass_of_methodNamed B.named
  have hlocks := B.notSynchronized
  subst hsz
  have B := xB_start hs hv
  have hinRX5 : ∀ w ∈ wsX50, w ∈ wsX5_addCause := by decide +kernel
  have hl := lv_entry ([.ref (ad 49), .int a1, .int a2]) (n := 3) (Nat.le_of_ble_eq_true rfl)
  rw [lg_entry_eq]
  generalize (lg_sl ([.ref (ad 49), .int a1, .int a2]) ++ List.replicate (3 - (lg_sl ([.ref (ad 49), .int a1, .int a2])).length) Slot.unset).toArray = ls at hl ⊢
  have hl : lv_has ls 3 [(0, .ref (ad 49)), (1, .int a1), (2, .int a2)] := hl
  generalize hAe : xA ad a s.heap.size = A at B ⊢
  unfold f_X5_addCause at hf
  refine lv_aload_n hx hb dX5_addCause_0 rfl (lv_at hl 0 rfl) ?_
  refine x_geti hx hb hts hinRX5 hown B 49 2 (by decide) (fun _ => rfl) rfl rfl (by decide) (by decide +kernel) rfl dX5_addCause_1 ?_
  refine lv_iconst (v := (3 : Int32)) hx hb dX5_addCause_4 (by decide) ?_
  refine lv_icmp_ge (tgt := 38) hx hb dX5_addCause_5 (by decide) (fun hc => ?_) (fun hc => ?_)
  · have hf := zif_t hc hf
    refine W.widen (k := 0) (n := 0) (Nat.le_of_ble_eq_true rfl) (Nat.le_of_ble_eq_true rfl) ?_
    exact x_vret hx hb hr hlocks B hf dX5_addCause_38
  · have hf := zif_f hc hf
    refine lv_aload_n hx hb dX5_addCause_8 rfl (lv_at hl 0 rfl) ?_
    refine x_getr hx hb hts hinRX5 hown B 49 0 50 (by decide) (by decide) (fun _ => rfl) rfl rfl (by decide) (by decide +kernel) rfl dX5_addCause_9 ?_
    refine lv_aload_n hx hb dX5_addCause_12 rfl (lv_at hl 0 rfl) ?_
    refine x_geti hx hb hts hinRX5 hown B 49 2 (by decide) (fun _ => rfl) rfl rfl (by decide) (by decide +kernel) rfl dX5_addCause_13 ?_
    refine lv_iload_n hx hb dX5_addCause_16 rfl (lv_at hl 1 rfl) ?_
    obtain ⟨hg, hf⟩ := zg_some hf
    refine x_iast hx hb B 50 (by decide) (by decide) (fun _ => rfl) (zin_ok hg) dX5_addCause_17 (fun H locs B => ?_)
    refine lv_aload_n hx hb dX5_addCause_18 rfl (lv_at hl 0 rfl) ?_
    refine x_getr hx hb hts hinRX5 hown B 49 1 51 (by decide) (by decide) (fun _ => rfl) rfl rfl (by decide) (by decide +kernel) rfl dX5_addCause_19 ?_
    refine lv_aload_n hx hb dX5_addCause_22 rfl (lv_at hl 0 rfl) ?_
    refine x_geti hx hb hts hinRX5 hown B 49 2 (by decide) (fun _ => rfl) rfl rfl (by decide) (by decide +kernel) rfl dX5_addCause_23 ?_
    refine lv_iload_n hx hb dX5_addCause_26 rfl (lv_at hl 2 rfl) ?_
    obtain ⟨hg, hf⟩ := zg_some hf
    refine x_iast hx hb B 51 (by decide) (by decide) (fun _ => rfl) (zin_ok hg) dX5_addCause_27 (fun H locs B => ?_)
    refine lv_aload_n hx hb dX5_addCause_28 rfl (lv_at hl 0 rfl) ?_
    refine lv_dup hx hb dX5_addCause_29 rfl ?_
    refine x_geti hx hb hts hinRX5 hown B 49 2 (by decide) (fun _ => rfl) rfl rfl (by decide) (by decide +kernel) rfl dX5_addCause_30 ?_
    refine lv_iconst (v := (1 : Int32)) hx hb dX5_addCause_33 (by decide) ?_
    refine lv_iadd hx hb dX5_addCause_34 ?_
    refine x_puti hx hb hts hinRX5 hown tyX5 tyX5_ok nmX5 B 49 2 (by decide) (by decide) (fun _ => rfl) rfl rfl (by decide) (by decide +kernel) rfl rfl rfl rfl dX5_addCause_35 (fun H locs B => ?_)
    refine W.widen (k := 0) (n := 0) (Nat.le_of_ble_eq_true rfl) (Nat.le_of_ble_eq_true rfl) ?_
    exact x_vret hx hb hr hlocks B hf dX5_addCause_38
theorem dX5_begin_0 : decode cX5_begin 0 = .ok (.aload_n 0, 1) := by decide +kernel
theorem dX5_begin_1 : decode cX5_begin 1 = .ok (.iconst 0, 1) := by decide +kernel
theorem dX5_begin_2 : decode cX5_begin 2 = .ok (.putfield 18, 3) := by decide +kernel
theorem dX5_begin_5 : decode cX5_begin 5 = .ok (.aload_n 0, 1) := by decide +kernel
theorem dX5_begin_6 : decode cX5_begin 6 = .ok (.iload_n 1, 1) := by decide +kernel
theorem dX5_begin_7 : decode cX5_begin 7 = .ok (.iload_n 2, 1) := by decide +kernel
theorem dX5_begin_8 : decode cX5_begin 8 = .ok (.invokevirtual 22, 3) := by decide +kernel
theorem dX5_begin_11 : decode cX5_begin 11 = .ok (.return_, 1) := by decide +kernel
set_option maxRecDepth 20000 in
theorem ggX5_begin_X5_addCause : GoodIn wsX5_begin wsX5_addCause := goodIn_ca (goodIn_r _ [6, 1, 7, 8, 9, 10, 11] (by decide +kernel) (by decide +kernel)) (goodIn_sub (fun _ h => List.mem_cons_of_mem _ (List.mem_append_right _ h)) (by decide +kernel))
set_option maxRecDepth 20000 in
theorem gX5_begin_X5_addCause : GoodIn wsX5_begin (wsV RX5 22 RX5 yX5_addCause wsX5_addCause) := goodIn_app (goodIn_of _ (by decide +kernel)) ggX5_begin_X5_addCause
def rm_X5_begin : Room := { frames := 2, cells := 0, slots := 0, locals := 38 }
set_option maxHeartbeats 4000000 in
set_option maxRecDepth 100000 in
theorem c_X5_begin (l : Launch) {G : zG} {ad : Nat → Nat} {σ σ' : zs} {a1 a2 : Int32} {r : Int32} (hf : f_X5_begin σ a1 a2 = some (r, σ')) : xMv l yX5_begin wsX5_begin rm_X5_begin G ad σ [.ref (ad 49), .int a1, .int a2] σ' := by
  intro sz nb a g hs
  refine Met.ofW (cc := cX5_begin) (maxL := 3) (ret := none) (by decide) rfl ?_
  intro p e s m args below meth c s₁ B hml hv
  obtain ⟨rfl, hsz, hv⟩ := hv
  have hx := B.exec
  have hb := B.bytes
  have hr := B.returns
  have hts := atoms_spec (ws := wsX5_begin) B.pre
  have hown : s.vm.findClass RX5 = some m.cls := findClass_of_methodNamed B.named
  have hlocks := B.notSynchronized
  subst hsz
  have B := xB_start hs hv
  have hinRX5 : ∀ w ∈ wsX50, w ∈ wsX5_begin := by decide +kernel
  have hl := lv_entry ([.ref (ad 49), .int a1, .int a2]) (n := 3) (Nat.le_of_ble_eq_true rfl)
  rw [lg_entry_eq]
  generalize (lg_sl ([.ref (ad 49), .int a1, .int a2]) ++ List.replicate (3 - (lg_sl ([.ref (ad 49), .int a1, .int a2])).length) Slot.unset).toArray = ls at hl ⊢
  have hl : lv_has ls 3 [(0, .ref (ad 49)), (1, .int a1), (2, .int a2)] := hl
  generalize hAe : xA ad a s.heap.size = A at B ⊢
  unfold f_X5_begin at hf
  refine lv_aload_n hx hb dX5_begin_0 rfl (lv_at hl 0 rfl) ?_
  refine lv_iconst (v := (0 : Int32)) hx hb dX5_begin_1 (by decide) ?_
  refine x_puti hx hb hts hinRX5 hown tyX5 tyX5_ok nmX5 B 49 2 (by decide) (by decide) (fun _ => rfl) rfl rfl (by decide) (by decide +kernel) rfl rfl rfl rfl dX5_begin_2 (fun H locs B => ?_)
  refine lv_aload_n hx hb dX5_begin_5 rfl (lv_at hl 0 rfl) ?_
  refine lv_iload_n hx hb dX5_begin_6 rfl (lv_at hl 1 rfl) ?_
  refine lv_iload_n hx hb dX5_begin_7 rfl (lv_at hl 2 rfl) ?_
  obtain ⟨r2, σ3, hu1, hf⟩ := zb_some hf
  refine x_v B (fun nb a g hs Bz => va_runV (As := [.int a1, .int a2]) (rest := []) ⟨hx, hb, hml, hown, hts⟩ (c_X5_addCause l hu1 _ nb a g hs) (cwV 2 hts gX5_begin_X5_addCause rfl rfl rfl (by decide +kernel) ⟨Nat.le_of_ble_eq_true rfl, Nat.le_of_ble_eq_true rfl⟩) (x_preV Bz (by decide) (fun _ => rfl) rfl) rfl rfl hl.1 rfl (lv_room (Nat.le_of_ble_eq_true rfl)) dX5_begin_8 ⟨Nat.le_of_ble_eq_true rfl, Nat.le_of_ble_eq_true rfl⟩) (fun H locs B => ?_)
  refine W.widen (k := 0) (n := 0) (Nat.le_of_ble_eq_true rfl) (Nat.le_of_ble_eq_true rfl) ?_
  exact x_vret hx hb hr hlocks B hf dX5_begin_11
theorem dX6_act_0 : decode cX6_act 0 = .ok (.aload_n 0, 1) := by decide +kernel
theorem dX6_act_1 : decode cX6_act 1 = .ok (.getfield 32, 3) := by decide +kernel
theorem dX6_act_4 : decode cX6_act 4 = .ok (.iload_n 1, 1) := by decide +kernel
theorem dX6_act_5 : decode cX6_act 5 = .ok (.iaload, 1) := by decide +kernel
theorem dX6_act_6 : decode cX6_act 6 = .ok (.istore 4, 2) := by decide +kernel
theorem dX6_act_8 : decode cX6_act 8 = .ok (.iload_n 2, 1) := by decide +kernel
theorem dX6_act_9 : decode cX6_act 9 = .ok (.bipush 8, 2) := by decide +kernel
theorem dX6_act_11 : decode cX6_act 11 = .ok (.if_icmp .ne 20, 3) := by decide +kernel
theorem dX6_act_14 : decode cX6_act 14 = .ok (.aload_n 0, 1) := by decide +kernel
theorem dX6_act_15 : decode cX6_act 15 = .ok (.getfield 36, 3) := by decide +kernel
theorem dX6_act_18 : decode cX6_act 18 = .ok (.iload_n 1, 1) := by decide +kernel
theorem dX6_act_19 : decode cX6_act 19 = .ok (.dup2, 1) := by decide +kernel
theorem dX6_act_20 : decode cX6_act 20 = .ok (.iaload, 1) := by decide +kernel
theorem dX6_act_21 : decode cX6_act 21 = .ok (.iconst 1, 1) := by decide +kernel
theorem dX6_act_22 : decode cX6_act 22 = .ok (.iadd, 1) := by decide +kernel
theorem dX6_act_23 : decode cX6_act 23 = .ok (.iastore, 1) := by decide +kernel
theorem dX6_act_24 : decode cX6_act 24 = .ok (.aload_n 0, 1) := by decide +kernel
theorem dX6_act_25 : decode cX6_act 25 = .ok (.getfield 36, 3) := by decide +kernel
theorem dX6_act_28 : decode cX6_act 28 = .ok (.iload_n 1, 1) := by decide +kernel
theorem dX6_act_29 : decode cX6_act 29 = .ok (.iaload, 1) := by decide +kernel
theorem dX6_act_30 : decode cX6_act 30 = .ok (.ireturn, 1) := by decide +kernel
theorem dX6_act_31 : decode cX6_act 31 = .ok (.iload_n 2, 1) := by decide +kernel
theorem dX6_act_32 : decode cX6_act 32 = .ok (.iconst 2, 1) := by decide +kernel
theorem dX6_act_33 : decode cX6_act 33 = .ok (.if_icmp .ne 10, 3) := by decide +kernel
theorem dX6_act_36 : decode cX6_act 36 = .ok (.aload_n 0, 1) := by decide +kernel
theorem dX6_act_37 : decode cX6_act 37 = .ok (.getfield 32, 3) := by decide +kernel
theorem dX6_act_40 : decode cX6_act 40 = .ok (.iload_n 1, 1) := by decide +kernel
theorem dX6_act_41 : decode cX6_act 41 = .ok (.iload_n 3, 1) := by decide +kernel
theorem dX6_act_42 : decode cX6_act 42 = .ok (.iastore, 1) := by decide +kernel
theorem dX6_act_43 : decode cX6_act 43 = .ok (.iload 4, 2) := by decide +kernel
theorem dX6_act_45 : decode cX6_act 45 = .ok (.ireturn, 1) := by decide +kernel
def rm_X6_act : Room := { frames := 1, cells := 0, slots := 0, locals := 16 }
set_option maxHeartbeats 4000000 in
set_option maxRecDepth 100000 in
theorem c_X6_act (l : Launch) {G : zG} {ad : Nat → Nat} {σ σ' : zs} {a1 a2 a3 : Int32} {r : Int32} (hf : f_X6_act σ a1 a2 a3 = some (r, σ')) : xMi l yX6_act wsX6_act rm_X6_act G ad σ [.ref (ad 1), .int a1, .int a2, .int a3] r σ' := by
  intro sz nb a g hs
  refine Met.ofW (cc := cX6_act) (maxL := 5) (ret := (some .int)) (by decide) rfl ?_
  intro p e s m args below meth c s₁ B hml hv
  obtain ⟨rfl, hsz, hv⟩ := hv
  have hx := B.exec
  have hb := B.bytes
  have hr := B.returns
  have hts := atoms_spec (ws := wsX6_act) B.pre
  have hown : s.vm.findClass RX6 = some m.cls := findClass_of_methodNamed B.named
  have hlocks := B.notSynchronized
  subst hsz
  have B := xB_start hs hv
  have hinRX6 : ∀ w ∈ wsX60, w ∈ wsX6_act := by decide +kernel
  have hl := lv_entry ([.ref (ad 1), .int a1, .int a2, .int a3]) (n := 5) (Nat.le_of_ble_eq_true rfl)
  rw [lg_entry_eq]
  generalize (lg_sl ([.ref (ad 1), .int a1, .int a2, .int a3]) ++ List.replicate (5 - (lg_sl ([.ref (ad 1), .int a1, .int a2, .int a3])).length) Slot.unset).toArray = ls at hl ⊢
  have hl : lv_has ls 5 [(0, .ref (ad 1)), (1, .int a1), (2, .int a2), (3, .int a3)] := hl
  generalize hAe : xA ad a s.heap.size = A at B ⊢
  unfold f_X6_act at hf
  refine lv_aload_n hx hb dX6_act_0 rfl (lv_at hl 0 rfl) ?_
  refine x_getr hx hb hts hinRX6 hown B 1 3 22 (by decide) (by decide) (fun _ => rfl) rfl rfl (by decide) (by decide +kernel) rfl dX6_act_1 ?_
  refine lv_iload_n hx hb dX6_act_4 rfl (lv_at hl 1 rfl) ?_
  obtain ⟨hg, hf⟩ := zg_some hf
  refine x_iald hx hb B 22 (by decide) (fun _ => rfl) (zin_ok hg) dX6_act_5 ?_
  refine lv_istore (lv' := [(4, .int (σ 22 a1.toNatClampNeg)), (0, .ref (ad 1)), (1, .int a1), (2, .int a2), (3, .int a3)]) hx hb dX6_act_6 hl (by decide) rfl (fun ls hl => ?_)
  refine lv_iload_n hx hb dX6_act_8 rfl (lv_at hl 3 rfl) ?_
  refine lv_bipush (v := (8 : Int32)) hx hb dX6_act_9 (by decide) ?_
  refine lv_icmp_ne (tgt := 31) hx hb dX6_act_11 (by decide) (fun hc => ?_) (fun hc => ?_)
  · have hf := zif_f hc hf
    refine lv_iload_n hx hb dX6_act_31 rfl (lv_at hl 3 rfl) ?_
    refine lv_iconst (v := (2 : Int32)) hx hb dX6_act_32 (by decide) ?_
    refine lv_icmp_ne (tgt := 43) hx hb dX6_act_33 (by decide) (fun hc => ?_) (fun hc => ?_)
    · have hf := zif_f hc hf
      refine lv_iload hx hb dX6_act_43 (lv_at hl 0 rfl) ?_
      refine W.widen (k := 0) (n := 0) (Nat.le_of_ble_eq_true rfl) (Nat.le_of_ble_eq_true rfl) ?_
      exact x_iret hx hb hr rfl hlocks B hf dX6_act_45
    · have hf := zif_t hc hf
      refine lv_aload_n hx hb dX6_act_36 rfl (lv_at hl 1 rfl) ?_
      refine x_getr hx hb hts hinRX6 hown B 1 3 22 (by decide) (by decide) (fun _ => rfl) rfl rfl (by decide) (by decide +kernel) rfl dX6_act_37 ?_
      refine lv_iload_n hx hb dX6_act_40 rfl (lv_at hl 2 rfl) ?_
      refine lv_iload_n hx hb dX6_act_41 rfl (lv_at hl 4 rfl) ?_
      obtain ⟨hg, hf⟩ := zg_some hf
      refine x_iast hx hb B 22 (by decide) (by decide) (fun _ => rfl) (zin_ok hg) dX6_act_42 (fun H locs B => ?_)
      refine lv_iload hx hb dX6_act_43 (lv_at hl 0 rfl) ?_
      refine W.widen (k := 0) (n := 0) (Nat.le_of_ble_eq_true rfl) (Nat.le_of_ble_eq_true rfl) ?_
      exact x_iret hx hb hr rfl hlocks B hf dX6_act_45
  · have hf := zif_t hc hf
    refine lv_aload_n hx hb dX6_act_14 rfl (lv_at hl 1 rfl) ?_
    refine x_getr hx hb hts hinRX6 hown B 1 4 23 (by decide) (by decide) (fun _ => rfl) rfl rfl (by decide) (by decide +kernel) rfl dX6_act_15 ?_
    refine lv_iload_n hx hb dX6_act_18 rfl (lv_at hl 2 rfl) ?_
    refine lv_dup2_11 hx hb dX6_act_19 rfl rfl ?_
    obtain ⟨hg, hf⟩ := zg_some hf
    refine x_iald hx hb B 23 (by decide) (fun _ => rfl) (zin_ok hg) dX6_act_20 ?_
    refine lv_iconst (v := (1 : Int32)) hx hb dX6_act_21 (by decide) ?_
    refine lv_iadd hx hb dX6_act_22 ?_
    obtain ⟨hg, hf⟩ := zg_some hf
    refine x_iast hx hb B 23 (by decide) (by decide) (fun _ => rfl) (zin_ok hg) dX6_act_23 (fun H locs B => ?_)
    refine lv_aload_n hx hb dX6_act_24 rfl (lv_at hl 1 rfl) ?_
    refine x_getr hx hb hts hinRX6 hown B 1 4 23 (by decide) (by decide) (fun _ => rfl) rfl rfl (by decide) (by decide +kernel) rfl dX6_act_25 ?_
    refine lv_iload_n hx hb dX6_act_28 rfl (lv_at hl 2 rfl) ?_
    obtain ⟨hg, hf⟩ := zg_some hf
    refine x_iald hx hb B 23 (by decide) (fun _ => rfl) (zin_ok hg) dX6_act_29 ?_
    refine W.widen (k := 0) (n := 0) (Nat.le_of_ble_eq_true rfl) (Nat.le_of_ble_eq_true rfl) ?_
    exact x_iret hx hb hr rfl hlocks B hf dX6_act_30
theorem dX6_clearExpired_0 : decode cX6_clearExpired 0 = .ok (.aload_n 0, 1) := by decide +kernel
theorem dX6_clearExpired_1 : decode cX6_clearExpired 1 = .ok (.iconst 0, 1) := by decide +kernel
theorem dX6_clearExpired_2 : decode cX6_clearExpired 2 = .ok (.putfield 60, 3) := by decide +kernel
theorem dX6_clearExpired_5 : decode cX6_clearExpired 5 = .ok (.return_, 1) := by decide +kernel
def rm_X6_clearExpired : Room := { frames := 1, cells := 0, slots := 0, locals := 16 }
set_option maxHeartbeats 4000000 in
set_option maxRecDepth 100000 in
theorem c_X6_clearExpired (l : Launch) {G : zG} {ad : Nat → Nat} {σ σ' : zs} {r : Int32} (hf : f_X6_clearExpired σ  = some (r, σ')) : xMv l yX6_clearExpired wsX6_clearExpired rm_X6_clearExpired G ad σ [.ref (ad 1)] σ' := by
  intro sz nb a g hs
  refine Met.ofW (cc := cX6_clearExpired) (maxL := 1) (ret := none) (by decide) rfl ?_
  intro p e s m args below meth c s₁ B hml hv
  obtain ⟨rfl, hsz, hv⟩ := hv
  have hx := B.exec
  have hb := B.bytes
  have hr := B.returns
  have hts := atoms_spec (ws := wsX6_clearExpired) B.pre
  have hown : s.vm.findClass RX6 = some m.cls := findClass_of_methodNamed B.named
  have hlocks := B.notSynchronized
  subst hsz
  have B := xB_start hs hv
  have hinRX6 : ∀ w ∈ wsX60, w ∈ wsX6_clearExpired := by decide +kernel
  have hl := lv_entry ([.ref (ad 1)]) (n := 1) (Nat.le_of_ble_eq_true rfl)
  rw [lg_entry_eq]
  generalize (lg_sl ([.ref (ad 1)]) ++ List.replicate (1 - (lg_sl ([.ref (ad 1)])).length) Slot.unset).toArray = ls at hl ⊢
  have hl : lv_has ls 1 [(0, .ref (ad 1))] := hl
  generalize hAe : xA ad a s.heap.size = A at B ⊢
  unfold f_X6_clearExpired at hf
  refine lv_aload_n hx hb dX6_clearExpired_0 rfl (lv_at hl 0 rfl) ?_
  refine lv_iconst (v := (0 : Int32)) hx hb dX6_clearExpired_1 (by decide) ?_
  refine x_puti hx hb hts hinRX6 hown tyX6 tyX6_ok nmX6 B 1 7 (by decide) (by decide) (fun _ => rfl) rfl rfl (by decide) (by decide +kernel) rfl rfl rfl rfl dX6_clearExpired_2 (fun H locs B => ?_)
  refine W.widen (k := 0) (n := 0) (Nat.le_of_ble_eq_true rfl) (Nat.le_of_ble_eq_true rfl) ?_
  exact x_vret hx hb hr hlocks B hf dX6_clearExpired_5
theorem dX7_limitsOf_0 : decode cX7_limitsOf 0 = .ok (.aload_n 0, 1) := by decide +kernel
theorem dX7_limitsOf_1 : decode cX7_limitsOf 1 = .ok (.getfield 45, 3) := by decide +kernel
theorem dX7_limitsOf_4 : decode cX7_limitsOf 4 = .ok (.invokevirtual 88, 3) := by decide +kernel
theorem dX7_limitsOf_7 : decode cX7_limitsOf 7 = .ok (.iconst 0, 1) := by decide +kernel
theorem dX7_limitsOf_8 : decode cX7_limitsOf 8 = .ok (.istore_n 2, 1) := by decide +kernel
theorem dX7_limitsOf_9 : decode cX7_limitsOf 9 = .ok (.iload_n 2, 1) := by decide +kernel
theorem dX7_limitsOf_10 : decode cX7_limitsOf 10 = .ok (.aload_n 0, 1) := by decide +kernel
theorem dX7_limitsOf_11 : decode cX7_limitsOf 11 = .ok (.getfield 15, 3) := by decide +kernel
theorem dX7_limitsOf_14 : decode cX7_limitsOf 14 = .ok (.iload_n 1, 1) := by decide +kernel
theorem dX7_limitsOf_15 : decode cX7_limitsOf 15 = .ok (.iaload, 1) := by decide +kernel
theorem dX7_limitsOf_16 : decode cX7_limitsOf 16 = .ok (.if_icmp .ge 83, 3) := by decide +kernel
theorem dX7_limitsOf_19 : decode cX7_limitsOf 19 = .ok (.aload_n 0, 1) := by decide +kernel
theorem dX7_limitsOf_20 : decode cX7_limitsOf 20 = .ok (.getfield 18, 3) := by decide +kernel
theorem dX7_limitsOf_23 : decode cX7_limitsOf 23 = .ok (.iload_n 1, 1) := by decide +kernel
theorem dX7_limitsOf_24 : decode cX7_limitsOf 24 = .ok (.bipush 7, 2) := by decide +kernel
theorem dX7_limitsOf_26 : decode cX7_limitsOf 26 = .ok (.imul, 1) := by decide +kernel
theorem dX7_limitsOf_27 : decode cX7_limitsOf 27 = .ok (.iload_n 2, 1) := by decide +kernel
theorem dX7_limitsOf_28 : decode cX7_limitsOf 28 = .ok (.iadd, 1) := by decide +kernel
theorem dX7_limitsOf_29 : decode cX7_limitsOf 29 = .ok (.iaload, 1) := by decide +kernel
theorem dX7_limitsOf_30 : decode cX7_limitsOf 30 = .ok (.istore_n 3, 1) := by decide +kernel
theorem dX7_limitsOf_31 : decode cX7_limitsOf 31 = .ok (.iconst 0, 1) := by decide +kernel
theorem dX7_limitsOf_32 : decode cX7_limitsOf 32 = .ok (.istore 4, 2) := by decide +kernel
theorem dX7_limitsOf_34 : decode cX7_limitsOf 34 = .ok (.iload 4, 2) := by decide +kernel
theorem dX7_limitsOf_36 : decode cX7_limitsOf 36 = .ok (.aload_n 0, 1) := by decide +kernel
theorem dX7_limitsOf_37 : decode cX7_limitsOf 37 = .ok (.getfield 30, 3) := by decide +kernel
theorem dX7_limitsOf_40 : decode cX7_limitsOf 40 = .ok (.iload_n 3, 1) := by decide +kernel
theorem dX7_limitsOf_41 : decode cX7_limitsOf 41 = .ok (.iaload, 1) := by decide +kernel
theorem dX7_limitsOf_42 : decode cX7_limitsOf 42 = .ok (.if_icmp .ge 51, 3) := by decide +kernel
theorem dX7_limitsOf_45 : decode cX7_limitsOf 45 = .ok (.iload_n 3, 1) := by decide +kernel
theorem dX7_limitsOf_46 : decode cX7_limitsOf 46 = .ok (.iconst 4, 1) := by decide +kernel
theorem dX7_limitsOf_47 : decode cX7_limitsOf 47 = .ok (.imul, 1) := by decide +kernel
theorem dX7_limitsOf_48 : decode cX7_limitsOf 48 = .ok (.iload 4, 2) := by decide +kernel
theorem dX7_limitsOf_50 : decode cX7_limitsOf 50 = .ok (.iadd, 1) := by decide +kernel
theorem dX7_limitsOf_51 : decode cX7_limitsOf 51 = .ok (.istore 5, 2) := by decide +kernel
theorem dX7_limitsOf_53 : decode cX7_limitsOf 53 = .ok (.aload_n 0, 1) := by decide +kernel
theorem dX7_limitsOf_54 : decode cX7_limitsOf 54 = .ok (.getfield 45, 3) := by decide +kernel
theorem dX7_limitsOf_57 : decode cX7_limitsOf 57 = .ok (.aload_n 0, 1) := by decide +kernel
theorem dX7_limitsOf_58 : decode cX7_limitsOf 58 = .ok (.getfield 33, 3) := by decide +kernel
theorem dX7_limitsOf_61 : decode cX7_limitsOf 61 = .ok (.iload 5, 2) := by decide +kernel
theorem dX7_limitsOf_63 : decode cX7_limitsOf 63 = .ok (.iaload, 1) := by decide +kernel
theorem dX7_limitsOf_64 : decode cX7_limitsOf 64 = .ok (.aload_n 0, 1) := by decide +kernel
theorem dX7_limitsOf_65 : decode cX7_limitsOf 65 = .ok (.getfield 36, 3) := by decide +kernel
theorem dX7_limitsOf_68 : decode cX7_limitsOf 68 = .ok (.iload 5, 2) := by decide +kernel
theorem dX7_limitsOf_70 : decode cX7_limitsOf 70 = .ok (.iaload, 1) := by decide +kernel
theorem dX7_limitsOf_71 : decode cX7_limitsOf 71 = .ok (.aload_n 0, 1) := by decide +kernel
theorem dX7_limitsOf_72 : decode cX7_limitsOf 72 = .ok (.getfield 39, 3) := by decide +kernel
theorem dX7_limitsOf_75 : decode cX7_limitsOf 75 = .ok (.iload 5, 2) := by decide +kernel
theorem dX7_limitsOf_77 : decode cX7_limitsOf 77 = .ok (.iaload, 1) := by decide +kernel
theorem dX7_limitsOf_78 : decode cX7_limitsOf 78 = .ok (.aload_n 0, 1) := by decide +kernel
theorem dX7_limitsOf_79 : decode cX7_limitsOf 79 = .ok (.getfield 24, 3) := by decide +kernel
theorem dX7_limitsOf_82 : decode cX7_limitsOf 82 = .ok (.iload_n 3, 1) := by decide +kernel
theorem dX7_limitsOf_83 : decode cX7_limitsOf 83 = .ok (.iaload, 1) := by decide +kernel
theorem dX7_limitsOf_84 : decode cX7_limitsOf 84 = .ok (.invokevirtual 91, 3) := by decide +kernel
theorem dX7_limitsOf_87 : decode cX7_limitsOf 87 = .ok (.iinc 4 1, 3) := by decide +kernel
theorem dX7_limitsOf_90 : decode cX7_limitsOf 90 = .ok (.goto (-56), 3) := by decide +kernel
theorem dX7_limitsOf_93 : decode cX7_limitsOf 93 = .ok (.iinc 2 1, 3) := by decide +kernel
theorem dX7_limitsOf_96 : decode cX7_limitsOf 96 = .ok (.goto (-87), 3) := by decide +kernel
theorem dX7_limitsOf_99 : decode cX7_limitsOf 99 = .ok (.aload_n 0, 1) := by decide +kernel
theorem dX7_limitsOf_100 : decode cX7_limitsOf 100 = .ok (.getfield 45, 3) := by decide +kernel
theorem dX7_limitsOf_103 : decode cX7_limitsOf 103 = .ok (.areturn, 1) := by decide +kernel
set_option maxRecDepth 20000 in
theorem ggX7_limitsOf_X3_openAll : GoodIn wsX7_limitsOf wsX3_openAll := goodIn_r _ [13, 14, 15, 16, 17, 18, 19, 46, 47, 48, 49, 50, 51] (by decide +kernel) (by decide +kernel)
set_option maxRecDepth 20000 in
theorem gX7_limitsOf_X3_openAll : GoodIn wsX7_limitsOf (wsV RX7 88 RX3 yX3_openAll wsX3_openAll) := goodIn_app (goodIn_of _ (by decide +kernel)) ggX7_limitsOf_X3_openAll
set_option maxRecDepth 20000 in
theorem ggX7_limitsOf_X3_narrow : GoodIn wsX7_limitsOf wsX3_narrow := goodIn_r _ [23, 14, 15, 16, 17, 24, 25, 26, 27, 18, 19, 28, 29, 30, 31, 32, 12, 33, 46, 47, 48, 49, 50, 51] (by decide +kernel) (by decide +kernel)
set_option maxRecDepth 20000 in
theorem gX7_limitsOf_X3_narrow : GoodIn wsX7_limitsOf (wsV RX7 91 RX3 yX3_narrow wsX3_narrow) := goodIn_app (goodIn_of _ (by decide +kernel)) ggX7_limitsOf_X3_narrow
def rm_X7_limitsOf : Room := { frames := 3, cells := 0, slots := 0, locals := 64 }
set_option maxHeartbeats 4000000 in
set_option maxRecDepth 100000 in
theorem c_X7_limitsOf (l : Launch) {G : zG} {ad : Nat → Nat} {σ σ' : zs} {a1 : Int32} {r : Int32} (hf : f_X7_limitsOf σ a1 = some (r, σ')) : xMr l yX7_limitsOf wsX7_limitsOf rm_X7_limitsOf G ad σ [.ref (ad 2), .int a1] 13 σ' := by
  intro sz nb a g hs
  refine Met.ofW (cc := cX7_limitsOf) (maxL := 6) (ret := (some (.object "CapabilityStore$Limits"))) (by decide) rfl ?_
  intro p e s m args below meth c s₁ B hml hv
  obtain ⟨rfl, hsz, hv⟩ := hv
  have hx := B.exec
  have hb := B.bytes
  have hr := B.returns
  have hts := atoms_spec (ws := wsX7_limitsOf) B.pre
  have hown : s.vm.findClass RX7 = some m.cls := findClass_of_methodNamed B.named
  have hlocks := B.notSynchronized
  subst hsz
  have B := xB_start hs hv
  have hinRX7 : ∀ w ∈ wsX70, w ∈ wsX7_limitsOf := by decide +kernel
  have hl := lv_entry ([.ref (ad 2), .int a1]) (n := 6) (Nat.le_of_ble_eq_true rfl)
  rw [lg_entry_eq]
  generalize (lg_sl ([.ref (ad 2), .int a1]) ++ List.replicate (6 - (lg_sl ([.ref (ad 2), .int a1])).length) Slot.unset).toArray = ls at hl ⊢
  have hl : lv_has ls 6 [(0, .ref (ad 2)), (1, .int a1)] := hl
  generalize hAe : xA ad a s.heap.size = A at B ⊢
  have L34 : ∀ (K9 : zs → Int32 → Int32 → Option (Int32 × zs)) (hK9 : ∀ (σ : zs) (v1 : Int32) (v2 : Int32) (H : Heap) (locs : List Loc) (ls : Array Slot), K9 σ v1 v2 = some (r, σ') → xB A s G ad σ H locs → lv_has ls 6 [(0, .ref (ad 2)), (1, .int v1), (2, .int v2)] → W p l e (headSpec wsX7_limitsOf rm_X7_limitsOf).room s m ([.ref (ad 2), .int a1] : List Value).toArray below meth c H locs 0 0 (MQ below (va_Qr (fun (u : xV) => xQ σ' u) (fun u q t => q = ad 13 ∧ xPost G ad σ' A u t) A) ([.ref (ad 2), .int a1] : List Value).toArray s 0 0 A) (F0 m 9 ls [])) (n : Nat) (σ : zs) (v1 : Int32) (v2 : Int32) (v3 : Int32) (v4 : Int32) (H : Heap) (locs : List Loc) (ls : Array Slot), zlp4 (f_X7_limitsOf_34 K9) n σ v1 v2 v3 v4 = some (r, σ') → xB A s G ad σ H locs → lv_has ls 6 [(0, .ref (ad 2)), (1, .int v1), (2, .int v2), (3, .int v3), (4, .int v4)] → W p l e (headSpec wsX7_limitsOf rm_X7_limitsOf).room s m ([.ref (ad 2), .int a1] : List Value).toArray below meth c H locs 0 0 (MQ below (va_Qr (fun (u : xV) => xQ σ' u) (fun u q t => q = ad 13 ∧ xPost G ad σ' A u t) A) ([.ref (ad 2), .int a1] : List Value).toArray s 0 0 A) (F0 m 34 ls []) := by
    intro K9 hK9 n
    induction n with
    | zero =>
      intro σ v1 v2 v3 v4 H locs ls hf
      cases hf
    | succ n ih =>
      intro σ v1 v2 v3 v4 H locs ls hf B hl
      have hf : f_X7_limitsOf_34 K9 (zlp4 (f_X7_limitsOf_34 K9) n) σ v1 v2 v3 v4 = some (r, σ') := hf
      unfold f_X7_limitsOf_34 at hf
      refine lv_iload hx hb dX7_limitsOf_34 (lv_at hl 4 rfl) ?_
      refine lv_aload_n hx hb dX7_limitsOf_36 rfl (lv_at hl 0 rfl) ?_
      refine x_getr hx hb hts hinRX7 hown B 2 7 9 (by decide) (by decide) (fun _ => rfl) rfl rfl (by decide) (by decide +kernel) rfl dX7_limitsOf_37 ?_
      refine lv_iload_n hx hb dX7_limitsOf_40 rfl (lv_at hl 3 rfl) ?_
      obtain ⟨hg, hf⟩ := zg_some hf
      refine x_iald hx hb B 9 (by decide) (fun _ => rfl) (zin_ok hg) dX7_limitsOf_41 ?_
      refine lv_icmp_ge (tgt := 93) hx hb dX7_limitsOf_42 (by decide) (fun hc => ?_) (fun hc => ?_)
      · have hf := zif_t hc hf
        refine lv_iinc (v := (v2 + (1 : Int32))) (lv' := [(2, .int (v2 + (1 : Int32))), (0, .ref (ad 2)), (1, .int v1), (3, .int v3), (4, .int v4)]) hx hb dX7_limitsOf_93 hl (k := 2) rfl (zc1 (by decide)) (by decide) rfl (fun ls hl => ?_)
        refine lv_goto (tgt := 9) hx hb dX7_limitsOf_96 (by decide) ?_
        exact hK9 _ _ _ _ _ _ hf B (lv_sub hl [1, 2, 0] rfl)
      · have hf := zif_f hc hf
        refine lv_iload_n hx hb dX7_limitsOf_45 rfl (lv_at hl 3 rfl) ?_
        refine lv_iconst (v := (4 : Int32)) hx hb dX7_limitsOf_46 (by decide) ?_
        refine lv_imul hx hb dX7_limitsOf_47 ?_
        refine lv_iload hx hb dX7_limitsOf_48 (lv_at hl 4 rfl) ?_
        refine lv_iadd hx hb dX7_limitsOf_50 ?_
        refine lv_istore (lv' := [(5, .int ((v3 * (4 : Int32)) + v4)), (0, .ref (ad 2)), (1, .int v1), (2, .int v2), (3, .int v3), (4, .int v4)]) hx hb dX7_limitsOf_51 hl (by decide) rfl (fun ls hl => ?_)
        refine lv_aload_n hx hb dX7_limitsOf_53 rfl (lv_at hl 1 rfl) ?_
        refine x_getr hx hb hts hinRX7 hown B 2 11 13 (by decide) (by decide) (fun _ => rfl) rfl rfl (by decide) (by decide +kernel) rfl dX7_limitsOf_54 ?_
        refine lv_aload_n hx hb dX7_limitsOf_57 rfl (lv_at hl 1 rfl) ?_
        refine x_getr hx hb hts hinRX7 hown B 2 8 10 (by decide) (by decide) (fun _ => rfl) rfl rfl (by decide) (by decide +kernel) rfl dX7_limitsOf_58 ?_
        refine lv_iload hx hb dX7_limitsOf_61 (lv_at hl 0 rfl) ?_
        obtain ⟨hg, hf⟩ := zg_some hf
        refine x_iald hx hb B 10 (by decide) (fun _ => rfl) (zin_ok hg) dX7_limitsOf_63 ?_
        refine lv_aload_n hx hb dX7_limitsOf_64 rfl (lv_at hl 1 rfl) ?_
        refine x_getr hx hb hts hinRX7 hown B 2 9 11 (by decide) (by decide) (fun _ => rfl) rfl rfl (by decide) (by decide +kernel) rfl dX7_limitsOf_65 ?_
        refine lv_iload hx hb dX7_limitsOf_68 (lv_at hl 0 rfl) ?_
        obtain ⟨hg, hf⟩ := zg_some hf
        refine x_iald hx hb B 11 (by decide) (fun _ => rfl) (zin_ok hg) dX7_limitsOf_70 ?_
        refine lv_aload_n hx hb dX7_limitsOf_71 rfl (lv_at hl 1 rfl) ?_
        refine x_getr hx hb hts hinRX7 hown B 2 10 12 (by decide) (by decide) (fun _ => rfl) rfl rfl (by decide) (by decide +kernel) rfl dX7_limitsOf_72 ?_
        refine lv_iload hx hb dX7_limitsOf_75 (lv_at hl 0 rfl) ?_
        obtain ⟨hg, hf⟩ := zg_some hf
        refine x_iald hx hb B 12 (by decide) (fun _ => rfl) (zin_ok hg) dX7_limitsOf_77 ?_
        refine lv_aload_n hx hb dX7_limitsOf_78 rfl (lv_at hl 1 rfl) ?_
        refine x_getr hx hb hts hinRX7 hown B 2 5 7 (by decide) (by decide) (fun _ => rfl) rfl rfl (by decide) (by decide +kernel) rfl dX7_limitsOf_79 ?_
        refine lv_iload_n hx hb dX7_limitsOf_82 rfl (lv_at hl 4 rfl) ?_
        obtain ⟨hg, hf⟩ := zg_some hf
        refine x_iald hx hb B 7 (by decide) (fun _ => rfl) (zin_ok hg) dX7_limitsOf_83 ?_
        obtain ⟨r5, σ6, hu4, hf⟩ := zb_some hf
        refine x_v B (fun nb a g hs Bz => va_runV (As := [.int (σ 10 ((v3 * (4 : Int32)) + v4).toNatClampNeg), .int (σ 11 ((v3 * (4 : Int32)) + v4).toNatClampNeg), .int (σ 12 ((v3 * (4 : Int32)) + v4).toNatClampNeg), .int (σ 7 v3.toNatClampNeg)]) (rest := []) ⟨hx, hb, hml, hown, hts⟩ (c_X3_narrow l hu4 _ nb a g hs) (cwV 4 hts gX7_limitsOf_X3_narrow rfl rfl rfl (by decide +kernel) ⟨Nat.le_of_ble_eq_true rfl, Nat.le_of_ble_eq_true rfl⟩) (x_preV Bz (by decide) (fun _ => rfl) rfl) rfl rfl hl.1 rfl (lv_room (Nat.le_of_ble_eq_true rfl)) dX7_limitsOf_84 ⟨Nat.le_of_ble_eq_true rfl, Nat.le_of_ble_eq_true rfl⟩) (fun H locs B => ?_)
        refine lv_iinc (v := (v4 + (1 : Int32))) (lv' := [(4, .int (v4 + (1 : Int32))), (5, .int ((v3 * (4 : Int32)) + v4)), (0, .ref (ad 2)), (1, .int v1), (2, .int v2), (3, .int v3)]) hx hb dX7_limitsOf_87 hl (k := 5) rfl (zc1 (by decide)) (by decide) rfl (fun ls hl => ?_)
        refine lv_goto (tgt := 34) hx hb dX7_limitsOf_90 (by decide) ?_
        exact ih _ _ _ _ _ _ _ _ hf B (lv_sub hl [2, 3, 4, 5, 0] rfl)
  have L9 : ∀ (n : Nat) (σ : zs) (v1 : Int32) (v2 : Int32) (H : Heap) (locs : List Loc) (ls : Array Slot), zlp2 (f_X7_limitsOf_9) n σ v1 v2 = some (r, σ') → xB A s G ad σ H locs → lv_has ls 6 [(0, .ref (ad 2)), (1, .int v1), (2, .int v2)] → W p l e (headSpec wsX7_limitsOf rm_X7_limitsOf).room s m ([.ref (ad 2), .int a1] : List Value).toArray below meth c H locs 0 0 (MQ below (va_Qr (fun (u : xV) => xQ σ' u) (fun u q t => q = ad 13 ∧ xPost G ad σ' A u t) A) ([.ref (ad 2), .int a1] : List Value).toArray s 0 0 A) (F0 m 9 ls []) := by
    intro n
    induction n with
    | zero =>
      intro σ v1 v2 H locs ls hf
      cases hf
    | succ n ih =>
      intro σ v1 v2 H locs ls hf B hl
      have hf : f_X7_limitsOf_9 (zlp2 (f_X7_limitsOf_9) n) σ v1 v2 = some (r, σ') := hf
      unfold f_X7_limitsOf_9 at hf
      refine lv_iload_n hx hb dX7_limitsOf_9 rfl (lv_at hl 2 rfl) ?_
      refine lv_aload_n hx hb dX7_limitsOf_10 rfl (lv_at hl 0 rfl) ?_
      refine x_getr hx hb hts hinRX7 hown B 2 2 4 (by decide) (by decide) (fun _ => rfl) rfl rfl (by decide) (by decide +kernel) rfl dX7_limitsOf_11 ?_
      refine lv_iload_n hx hb dX7_limitsOf_14 rfl (lv_at hl 1 rfl) ?_
      obtain ⟨hg, hf⟩ := zg_some hf
      refine x_iald hx hb B 4 (by decide) (fun _ => rfl) (zin_ok hg) dX7_limitsOf_15 ?_
      refine lv_icmp_ge (tgt := 99) hx hb dX7_limitsOf_16 (by decide) (fun hc => ?_) (fun hc => ?_)
      · have hf := zif_t hc hf
        refine lv_aload_n hx hb dX7_limitsOf_99 rfl (lv_at hl 0 rfl) ?_
        refine x_getr hx hb hts hinRX7 hown B 2 11 13 (by decide) (by decide) (fun _ => rfl) rfl rfl (by decide) (by decide +kernel) rfl dX7_limitsOf_100 ?_
        refine W.widen (k := 0) (n := 0) (Nat.le_of_ble_eq_true rfl) (Nat.le_of_ble_eq_true rfl) ?_
        exact x_aret hx hb hr (Or.inl ⟨_, rfl⟩) hlocks B hf dX7_limitsOf_103
      · have hf := zif_f hc hf
        refine lv_aload_n hx hb dX7_limitsOf_19 rfl (lv_at hl 0 rfl) ?_
        refine x_getr hx hb hts hinRX7 hown B 2 3 5 (by decide) (by decide) (fun _ => rfl) rfl rfl (by decide) (by decide +kernel) rfl dX7_limitsOf_20 ?_
        refine lv_iload_n hx hb dX7_limitsOf_23 rfl (lv_at hl 1 rfl) ?_
        refine lv_bipush (v := (7 : Int32)) hx hb dX7_limitsOf_24 (by decide) ?_
        refine lv_imul hx hb dX7_limitsOf_26 ?_
        refine lv_iload_n hx hb dX7_limitsOf_27 rfl (lv_at hl 2 rfl) ?_
        refine lv_iadd hx hb dX7_limitsOf_28 ?_
        obtain ⟨hg, hf⟩ := zg_some hf
        refine x_iald hx hb B 5 (by decide) (fun _ => rfl) (zin_ok hg) dX7_limitsOf_29 ?_
        refine lv_istore_n (lv' := [(3, .int (σ 5 ((v1 * (7 : Int32)) + v2).toNatClampNeg)), (0, .ref (ad 2)), (1, .int v1), (2, .int v2)]) hx hb dX7_limitsOf_30 rfl hl (by decide) rfl (fun ls hl => ?_)
        refine lv_iconst (v := (0 : Int32)) hx hb dX7_limitsOf_31 (by decide) ?_
        refine lv_istore (lv' := [(4, .int (0 : Int32)), (3, .int (σ 5 ((v1 * (7 : Int32)) + v2).toNatClampNeg)), (0, .ref (ad 2)), (1, .int v1), (2, .int v2)]) hx hb dX7_limitsOf_32 hl (by decide) rfl (fun ls hl => ?_)
        exact L34 _ ih  _ _ _ _ _ _ _ _ _ hf B (lv_sub hl [2, 3, 4, 1, 0] rfl)
  unfold f_X7_limitsOf at hf
  refine lv_aload_n hx hb dX7_limitsOf_0 rfl (lv_at hl 0 rfl) ?_
  refine x_getr hx hb hts hinRX7 hown B 2 11 13 (by decide) (by decide) (fun _ => rfl) rfl rfl (by decide) (by decide +kernel) rfl dX7_limitsOf_1 ?_
  obtain ⟨r2, σ3, hu1, hf⟩ := zb_some hf
  refine x_v B (fun nb a g hs Bz => va_runV (As := []) (rest := []) ⟨hx, hb, hml, hown, hts⟩ (c_X3_openAll l hu1 _ nb a g hs) (cwV 0 hts gX7_limitsOf_X3_openAll rfl rfl rfl (by decide +kernel) ⟨Nat.le_of_ble_eq_true rfl, Nat.le_of_ble_eq_true rfl⟩) (x_preV Bz (by decide) (fun _ => rfl) rfl) rfl rfl hl.1 rfl (lv_room (Nat.le_of_ble_eq_true rfl)) dX7_limitsOf_4 ⟨Nat.le_of_ble_eq_true rfl, Nat.le_of_ble_eq_true rfl⟩) (fun H locs B => ?_)
  refine lv_iconst (v := (0 : Int32)) hx hb dX7_limitsOf_7 (by decide) ?_
  refine lv_istore_n (lv' := [(2, .int (0 : Int32)), (0, .ref (ad 2)), (1, .int a1)]) hx hb dX7_limitsOf_8 rfl hl (by decide) rfl (fun ls hl => ?_)
  exact L9  _ _ _ _ _ _ _ hf B (lv_sub hl [1, 2, 0] rfl)
theorem dX6_expireAtPresent_0 : decode cX6_expireAtPresent 0 = .ok (.iconst 0, 1) := by decide +kernel
theorem dX6_expireAtPresent_1 : decode cX6_expireAtPresent 1 = .ok (.istore_n 1, 1) := by decide +kernel
theorem dX6_expireAtPresent_2 : decode cX6_expireAtPresent 2 = .ok (.iload_n 1, 1) := by decide +kernel
theorem dX6_expireAtPresent_3 : decode cX6_expireAtPresent 3 = .ok (.aload_n 0, 1) := by decide +kernel
theorem dX6_expireAtPresent_4 : decode cX6_expireAtPresent 4 = .ok (.getfield 12, 3) := by decide +kernel
theorem dX6_expireAtPresent_7 : decode cX6_expireAtPresent 7 = .ok (.getfield 63, 3) := by decide +kernel
theorem dX6_expireAtPresent_10 : decode cX6_expireAtPresent 10 = .ok (.if_icmp .ge 56, 3) := by decide +kernel
theorem dX6_expireAtPresent_13 : decode cX6_expireAtPresent 13 = .ok (.aload_n 0, 1) := by decide +kernel
theorem dX6_expireAtPresent_14 : decode cX6_expireAtPresent 14 = .ok (.getfield 12, 3) := by decide +kernel
theorem dX6_expireAtPresent_17 : decode cX6_expireAtPresent 17 = .ok (.iload_n 1, 1) := by decide +kernel
theorem dX6_expireAtPresent_18 : decode cX6_expireAtPresent 18 = .ok (.invokevirtual 66, 3) := by decide +kernel
theorem dX6_expireAtPresent_21 : decode cX6_expireAtPresent 21 = .ok (.getfield 70, 3) := by decide +kernel
theorem dX6_expireAtPresent_24 : decode cX6_expireAtPresent 24 = .ok (.aload_n 0, 1) := by decide +kernel
theorem dX6_expireAtPresent_25 : decode cX6_expireAtPresent 25 = .ok (.getfield 56, 3) := by decide +kernel
theorem dX6_expireAtPresent_28 : decode cX6_expireAtPresent 28 = .ok (.if_icmp .ne 32, 3) := by decide +kernel
theorem dX6_expireAtPresent_31 : decode cX6_expireAtPresent 31 = .ok (.aload_n 0, 1) := by decide +kernel
theorem dX6_expireAtPresent_32 : decode cX6_expireAtPresent 32 = .ok (.getfield 60, 3) := by decide +kernel
theorem dX6_expireAtPresent_35 : decode cX6_expireAtPresent 35 = .ok (.bipush 28, 2) := by decide +kernel
theorem dX6_expireAtPresent_37 : decode cX6_expireAtPresent 37 = .ok (.if_icmp .ge 23, 3) := by decide +kernel
theorem dX6_expireAtPresent_40 : decode cX6_expireAtPresent 40 = .ok (.aload_n 0, 1) := by decide +kernel
theorem dX6_expireAtPresent_41 : decode cX6_expireAtPresent 41 = .ok (.getfield 39, 3) := by decide +kernel
theorem dX6_expireAtPresent_44 : decode cX6_expireAtPresent 44 = .ok (.aload_n 0, 1) := by decide +kernel
theorem dX6_expireAtPresent_45 : decode cX6_expireAtPresent 45 = .ok (.getfield 60, 3) := by decide +kernel
theorem dX6_expireAtPresent_48 : decode cX6_expireAtPresent 48 = .ok (.iload_n 1, 1) := by decide +kernel
theorem dX6_expireAtPresent_49 : decode cX6_expireAtPresent 49 = .ok (.iastore, 1) := by decide +kernel
theorem dX6_expireAtPresent_50 : decode cX6_expireAtPresent 50 = .ok (.aload_n 0, 1) := by decide +kernel
theorem dX6_expireAtPresent_51 : decode cX6_expireAtPresent 51 = .ok (.dup, 1) := by decide +kernel
theorem dX6_expireAtPresent_52 : decode cX6_expireAtPresent 52 = .ok (.getfield 60, 3) := by decide +kernel
theorem dX6_expireAtPresent_55 : decode cX6_expireAtPresent 55 = .ok (.iconst 1, 1) := by decide +kernel
theorem dX6_expireAtPresent_56 : decode cX6_expireAtPresent 56 = .ok (.iadd, 1) := by decide +kernel
theorem dX6_expireAtPresent_57 : decode cX6_expireAtPresent 57 = .ok (.putfield 60, 3) := by decide +kernel
theorem dX6_expireAtPresent_60 : decode cX6_expireAtPresent 60 = .ok (.iinc 1 1, 3) := by decide +kernel
theorem dX6_expireAtPresent_63 : decode cX6_expireAtPresent 63 = .ok (.goto (-61), 3) := by decide +kernel
theorem dX6_expireAtPresent_66 : decode cX6_expireAtPresent 66 = .ok (.return_, 1) := by decide +kernel
set_option maxRecDepth 20000 in
theorem ggX6_expireAtPresent_X7_limitsOf : GoodIn wsX6_expireAtPresent wsX7_limitsOf := goodIn_ca (goodIn_r _ [11, 12, 13, 14, 15, 16, 17, 18, 19, 20, 21, 22, 23, 24, 25, 26, 27, 28, 29, 30, 31, 32, 33, 34, 35, 36, 37, 38, 39, 40, 41, 42, 43, 44, 53, 54, 55, 56, 57, 58, 59, 60, 61, 62, 63, 64, 65, 66, 67, 68, 69, 70] (by decide +kernel) (by decide +kernel)) (goodIn_sub (fun _ h => List.mem_cons_of_mem _ (List.mem_append_right _ h)) (by decide +kernel))
set_option maxRecDepth 20000 in
theorem gX6_expireAtPresent_X7_limitsOf : GoodIn wsX6_expireAtPresent (wsV RX6 66 RX7 yX7_limitsOf wsX7_limitsOf) := goodIn_app (goodIn_of _ (by decide +kernel)) ggX6_expireAtPresent_X7_limitsOf
def rm_X6_expireAtPresent : Room := { frames := 4, cells := 0, slots := 0, locals := 89 }
set_option maxHeartbeats 4000000 in
set_option maxRecDepth 100000 in
theorem c_X6_expireAtPresent (l : Launch) {G : zG} {ad : Nat → Nat} {σ σ' : zs} {r : Int32} (hf : f_X6_expireAtPresent σ  = some (r, σ')) : xMv l yX6_expireAtPresent wsX6_expireAtPresent rm_X6_expireAtPresent G ad σ [.ref (ad 1)] σ' := by
  intro sz nb a g hs
  refine Met.ofW (cc := cX6_expireAtPresent) (maxL := 2) (ret := none) (by decide) rfl ?_
  intro p e s m args below meth c s₁ B hml hv
  obtain ⟨rfl, hsz, hv⟩ := hv
  have hx := B.exec
  have hb := B.bytes
  have hr := B.returns
  have hts := atoms_spec (ws := wsX6_expireAtPresent) B.pre
  have hown : s.vm.findClass RX6 = some m.cls := findClass_of_methodNamed B.named
  have hlocks := B.notSynchronized
  subst hsz
  have B := xB_start hs hv
  have hinRX3 : ∀ w ∈ wsX30, w ∈ wsX6_expireAtPresent := by decide +kernel
  have hinRX6 : ∀ w ∈ wsX60, w ∈ wsX6_expireAtPresent := by decide +kernel
  have hinRX7 : ∀ w ∈ wsX70, w ∈ wsX6_expireAtPresent := by decide +kernel
  have hl := lv_entry ([.ref (ad 1)]) (n := 2) (Nat.le_of_ble_eq_true rfl)
  rw [lg_entry_eq]
  generalize (lg_sl ([.ref (ad 1)]) ++ List.replicate (2 - (lg_sl ([.ref (ad 1)])).length) Slot.unset).toArray = ls at hl ⊢
  have hl : lv_has ls 2 [(0, .ref (ad 1))] := hl
  generalize hAe : xA ad a s.heap.size = A at B ⊢
  have L2 : ∀ (n : Nat) (σ : zs) (v1 : Int32) (H : Heap) (locs : List Loc) (ls : Array Slot), zlp1 (f_X6_expireAtPresent_2) n σ v1 = some (r, σ') → xB A s G ad σ H locs → lv_has ls 2 [(0, .ref (ad 1)), (1, .int v1)] → W p l e (headSpec wsX6_expireAtPresent rm_X6_expireAtPresent).room s m ([.ref (ad 1)] : List Value).toArray below meth c H locs 0 0 (MQ below (va_Qv (fun (u : xV) => xQ σ' u) (xPost G ad σ' A) A) ([.ref (ad 1)] : List Value).toArray s 0 0 A) (F0 m 2 ls []) := by
    intro n
    induction n with
    | zero =>
      intro σ v1 H locs ls hf
      cases hf
    | succ n ih =>
      intro σ v1 H locs ls hf B hl
      have hf : f_X6_expireAtPresent_2 (zlp1 (f_X6_expireAtPresent_2) n) σ v1 = some (r, σ') := hf
      unfold f_X6_expireAtPresent_2 at hf
      refine lv_iload_n hx hb dX6_expireAtPresent_2 rfl (lv_at hl 1 rfl) ?_
      refine lv_aload_n hx hb dX6_expireAtPresent_3 rfl (lv_at hl 0 rfl) ?_
      refine x_getr hx hb hts hinRX6 hown B 1 0 2 (by decide) (by decide) (fun _ => rfl) rfl rfl (by decide) (by decide +kernel) rfl dX6_expireAtPresent_4 ?_
      refine x_geti hx hb hts hinRX7 hown B 2 0 (by decide) (fun _ => rfl) rfl rfl (by decide) (by decide +kernel) rfl dX6_expireAtPresent_7 ?_
      refine lv_icmp_ge (tgt := 66) hx hb dX6_expireAtPresent_10 (by decide) (fun hc => ?_) (fun hc => ?_)
      · have hf := zif_t hc hf
        refine W.widen (k := 0) (n := 0) (Nat.le_of_ble_eq_true rfl) (Nat.le_of_ble_eq_true rfl) ?_
        exact x_vret hx hb hr hlocks B hf dX6_expireAtPresent_66
      · have hf := zif_f hc hf
        refine lv_aload_n hx hb dX6_expireAtPresent_13 rfl (lv_at hl 0 rfl) ?_
        refine x_getr hx hb hts hinRX6 hown B 1 0 2 (by decide) (by decide) (fun _ => rfl) rfl rfl (by decide) (by decide +kernel) rfl dX6_expireAtPresent_14 ?_
        refine lv_iload_n hx hb dX6_expireAtPresent_17 rfl (lv_at hl 1 rfl) ?_
        obtain ⟨r2, σ3, hu1, hf⟩ := zb_some hf
        refine x_r B (fun nb a g hs Bz => va_runV (As := [.int v1]) (rest := []) ⟨hx, hb, hml, hown, hts⟩ (c_X7_limitsOf l hu1 _ nb a g hs) (cwV 1 hts gX6_expireAtPresent_X7_limitsOf rfl rfl rfl (by decide +kernel) ⟨Nat.le_of_ble_eq_true rfl, Nat.le_of_ble_eq_true rfl⟩) (x_preV Bz (by decide) (fun _ => rfl) rfl) rfl rfl hl.1 rfl (lv_room (Nat.le_of_ble_eq_true rfl)) dX6_expireAtPresent_18 ⟨Nat.le_of_ble_eq_true rfl, Nat.le_of_ble_eq_true rfl⟩) (fun H locs B => ?_)
        refine x_geti hx hb hts hinRX3 hown B 13 1 (by decide) (fun _ => rfl) rfl rfl (by decide) (by decide +kernel) rfl dX6_expireAtPresent_21 ?_
        refine lv_aload_n hx hb dX6_expireAtPresent_24 rfl (lv_at hl 0 rfl) ?_
        refine x_geti hx hb hts hinRX6 hown B 1 5 (by decide) (fun _ => rfl) rfl rfl (by decide) (by decide +kernel) rfl dX6_expireAtPresent_25 ?_
        refine lv_icmp_ne (tgt := 60) hx hb dX6_expireAtPresent_28 (by decide) (fun hc => ?_) (fun hc => ?_)
        · have hf := zif_f hc hf
          refine lv_iinc (v := (v1 + (1 : Int32))) (lv' := [(1, .int (v1 + (1 : Int32))), (0, .ref (ad 1))]) hx hb dX6_expireAtPresent_60 hl (k := 1) rfl (zc1 (by decide)) (by decide) rfl (fun ls hl => ?_)
          refine lv_goto (tgt := 2) hx hb dX6_expireAtPresent_63 (by decide) ?_
          exact ih _ _ _ _ _ hf B (lv_sub hl [1, 0] rfl)
        · have hf := zif_t hc hf
          refine lv_aload_n hx hb dX6_expireAtPresent_31 rfl (lv_at hl 0 rfl) ?_
          refine x_geti hx hb hts hinRX6 hown B 1 7 (by decide) (fun _ => rfl) rfl rfl (by decide) (by decide +kernel) rfl dX6_expireAtPresent_32 ?_
          refine lv_bipush (v := (28 : Int32)) hx hb dX6_expireAtPresent_35 (by decide) ?_
          refine lv_icmp_ge (tgt := 60) hx hb dX6_expireAtPresent_37 (by decide) (fun hc => ?_) (fun hc => ?_)
          · have hf := zif_t hc hf
            refine lv_iinc (v := (v1 + (1 : Int32))) (lv' := [(1, .int (v1 + (1 : Int32))), (0, .ref (ad 1))]) hx hb dX6_expireAtPresent_60 hl (k := 1) rfl (zc1 (by decide)) (by decide) rfl (fun ls hl => ?_)
            refine lv_goto (tgt := 2) hx hb dX6_expireAtPresent_63 (by decide) ?_
            exact ih _ _ _ _ _ hf B (lv_sub hl [1, 0] rfl)
          · have hf := zif_f hc hf
            refine lv_aload_n hx hb dX6_expireAtPresent_40 rfl (lv_at hl 0 rfl) ?_
            refine x_getr hx hb hts hinRX6 hown B 1 6 24 (by decide) (by decide) (fun _ => rfl) rfl rfl (by decide) (by decide +kernel) rfl dX6_expireAtPresent_41 ?_
            refine lv_aload_n hx hb dX6_expireAtPresent_44 rfl (lv_at hl 0 rfl) ?_
            refine x_geti hx hb hts hinRX6 hown B 1 7 (by decide) (fun _ => rfl) rfl rfl (by decide) (by decide +kernel) rfl dX6_expireAtPresent_45 ?_
            refine lv_iload_n hx hb dX6_expireAtPresent_48 rfl (lv_at hl 1 rfl) ?_
            obtain ⟨hg, hf⟩ := zg_some hf
            refine x_iast hx hb B 24 (by decide) (by decide) (fun _ => rfl) (zin_ok hg) dX6_expireAtPresent_49 (fun H locs B => ?_)
            refine lv_aload_n hx hb dX6_expireAtPresent_50 rfl (lv_at hl 0 rfl) ?_
            refine lv_dup hx hb dX6_expireAtPresent_51 rfl ?_
            refine x_geti hx hb hts hinRX6 hown B 1 7 (by decide) (fun _ => rfl) rfl rfl (by decide) (by decide +kernel) rfl dX6_expireAtPresent_52 ?_
            refine lv_iconst (v := (1 : Int32)) hx hb dX6_expireAtPresent_55 (by decide) ?_
            refine lv_iadd hx hb dX6_expireAtPresent_56 ?_
            refine x_puti hx hb hts hinRX6 hown tyX6 tyX6_ok nmX6 B 1 7 (by decide) (by decide) (fun _ => rfl) rfl rfl (by decide) (by decide +kernel) rfl rfl rfl rfl dX6_expireAtPresent_57 (fun H locs B => ?_)
            refine lv_iinc (v := (v1 + (1 : Int32))) (lv' := [(1, .int (v1 + (1 : Int32))), (0, .ref (ad 1))]) hx hb dX6_expireAtPresent_60 hl (k := 1) rfl (zc1 (by decide)) (by decide) rfl (fun ls hl => ?_)
            refine lv_goto (tgt := 2) hx hb dX6_expireAtPresent_63 (by decide) ?_
            exact ih _ _ _ _ _ hf B (lv_sub hl [1, 0] rfl)
  unfold f_X6_expireAtPresent at hf
  refine lv_iconst (v := (0 : Int32)) hx hb dX6_expireAtPresent_0 (by decide) ?_
  refine lv_istore_n (lv' := [(1, .int (0 : Int32)), (0, .ref (ad 1))]) hx hb dX6_expireAtPresent_1 rfl hl (by decide) rfl (fun ls hl => ?_)
  exact L2  _ _ _ _ _ _ hf B (lv_sub hl [1, 0] rfl)
theorem dX7_startToken_0 : decode cX7_startToken 0 = .ok (.aload_n 0, 1) := by decide +kernel
theorem dX7_startToken_1 : decode cX7_startToken 1 = .ok (.getfield 21, 3) := by decide +kernel
theorem dX7_startToken_4 : decode cX7_startToken 4 = .ok (.iload_n 1, 1) := by decide +kernel
theorem dX7_startToken_5 : decode cX7_startToken 5 = .ok (.iconst 1, 1) := by decide +kernel
theorem dX7_startToken_6 : decode cX7_startToken 6 = .ok (.iload_n 2, 1) := by decide +kernel
theorem dX7_startToken_7 : decode cX7_startToken 7 = .ok (.ishl, 1) := by decide +kernel
theorem dX7_startToken_8 : decode cX7_startToken 8 = .ok (.iastore, 1) := by decide +kernel
theorem dX7_startToken_9 : decode cX7_startToken 9 = .ok (.aload_n 0, 1) := by decide +kernel
theorem dX7_startToken_10 : decode cX7_startToken 10 = .ok (.getfield 24, 3) := by decide +kernel
theorem dX7_startToken_13 : decode cX7_startToken 13 = .ok (.iload_n 1, 1) := by decide +kernel
theorem dX7_startToken_14 : decode cX7_startToken 14 = .ok (.iconst 0, 1) := by decide +kernel
theorem dX7_startToken_15 : decode cX7_startToken 15 = .ok (.iastore, 1) := by decide +kernel
theorem dX7_startToken_16 : decode cX7_startToken 16 = .ok (.aload_n 0, 1) := by decide +kernel
theorem dX7_startToken_17 : decode cX7_startToken 17 = .ok (.getfield 27, 3) := by decide +kernel
theorem dX7_startToken_20 : decode cX7_startToken 20 = .ok (.iload_n 1, 1) := by decide +kernel
theorem dX7_startToken_21 : decode cX7_startToken 21 = .ok (.iconst (-1), 1) := by decide +kernel
theorem dX7_startToken_22 : decode cX7_startToken 22 = .ok (.iastore, 1) := by decide +kernel
theorem dX7_startToken_23 : decode cX7_startToken 23 = .ok (.aload_n 0, 1) := by decide +kernel
theorem dX7_startToken_24 : decode cX7_startToken 24 = .ok (.getfield 30, 3) := by decide +kernel
theorem dX7_startToken_27 : decode cX7_startToken 27 = .ok (.iload_n 1, 1) := by decide +kernel
theorem dX7_startToken_28 : decode cX7_startToken 28 = .ok (.iconst 0, 1) := by decide +kernel
theorem dX7_startToken_29 : decode cX7_startToken 29 = .ok (.iastore, 1) := by decide +kernel
theorem dX7_startToken_30 : decode cX7_startToken 30 = .ok (.aload_n 0, 1) := by decide +kernel
theorem dX7_startToken_31 : decode cX7_startToken 31 = .ok (.dup, 1) := by decide +kernel
theorem dX7_startToken_32 : decode cX7_startToken 32 = .ok (.getfield 49, 3) := by decide +kernel
theorem dX7_startToken_35 : decode cX7_startToken 35 = .ok (.iconst 1, 1) := by decide +kernel
theorem dX7_startToken_36 : decode cX7_startToken 36 = .ok (.iadd, 1) := by decide +kernel
theorem dX7_startToken_37 : decode cX7_startToken 37 = .ok (.putfield 49, 3) := by decide +kernel
theorem dX7_startToken_40 : decode cX7_startToken 40 = .ok (.return_, 1) := by decide +kernel
def rm_X7_startToken : Room := { frames := 1, cells := 0, slots := 0, locals := 16 }
set_option maxHeartbeats 4000000 in
set_option maxRecDepth 100000 in
theorem c_X7_startToken (l : Launch) {G : zG} {ad : Nat → Nat} {σ σ' : zs} {a1 a2 : Int32} {r : Int32} (hf : f_X7_startToken σ a1 a2 = some (r, σ')) : xMv l yX7_startToken wsX7_startToken rm_X7_startToken G ad σ [.ref (ad 2), .int a1, .int a2] σ' := by
  intro sz nb a g hs
  refine Met.ofW (cc := cX7_startToken) (maxL := 3) (ret := none) (by decide) rfl ?_
  intro p e s m args below meth c s₁ B hml hv
  obtain ⟨rfl, hsz, hv⟩ := hv
  have hx := B.exec
  have hb := B.bytes
  have hr := B.returns
  have hts := atoms_spec (ws := wsX7_startToken) B.pre
  have hown : s.vm.findClass RX7 = some m.cls := findClass_of_methodNamed B.named
  have hlocks := B.notSynchronized
  subst hsz
  have B := xB_start hs hv
  have hinRX7 : ∀ w ∈ wsX70, w ∈ wsX7_startToken := by decide +kernel
  have hl := lv_entry ([.ref (ad 2), .int a1, .int a2]) (n := 3) (Nat.le_of_ble_eq_true rfl)
  rw [lg_entry_eq]
  generalize (lg_sl ([.ref (ad 2), .int a1, .int a2]) ++ List.replicate (3 - (lg_sl ([.ref (ad 2), .int a1, .int a2])).length) Slot.unset).toArray = ls at hl ⊢
  have hl : lv_has ls 3 [(0, .ref (ad 2)), (1, .int a1), (2, .int a2)] := hl
  generalize hAe : xA ad a s.heap.size = A at B ⊢
  unfold f_X7_startToken at hf
  refine lv_aload_n hx hb dX7_startToken_0 rfl (lv_at hl 0 rfl) ?_
  refine x_getr hx hb hts hinRX7 hown B 2 4 6 (by decide) (by decide) (fun _ => rfl) rfl rfl (by decide) (by decide +kernel) rfl dX7_startToken_1 ?_
  refine lv_iload_n hx hb dX7_startToken_4 rfl (lv_at hl 1 rfl) ?_
  refine lv_iconst (v := (1 : Int32)) hx hb dX7_startToken_5 (by decide) ?_
  refine lv_iload_n hx hb dX7_startToken_6 rfl (lv_at hl 2 rfl) ?_
  refine lv_ishl hx hb dX7_startToken_7 ?_
  obtain ⟨hg, hf⟩ := zg_some hf
  refine x_iast hx hb B 6 (by decide) (by decide) (fun _ => rfl) (zin_ok hg) dX7_startToken_8 (fun H locs B => ?_)
  refine lv_aload_n hx hb dX7_startToken_9 rfl (lv_at hl 0 rfl) ?_
  refine x_getr hx hb hts hinRX7 hown B 2 5 7 (by decide) (by decide) (fun _ => rfl) rfl rfl (by decide) (by decide +kernel) rfl dX7_startToken_10 ?_
  refine lv_iload_n hx hb dX7_startToken_13 rfl (lv_at hl 1 rfl) ?_
  refine lv_iconst (v := (0 : Int32)) hx hb dX7_startToken_14 (by decide) ?_
  obtain ⟨hg, hf⟩ := zg_some hf
  refine x_iast hx hb B 7 (by decide) (by decide) (fun _ => rfl) (zin_ok hg) dX7_startToken_15 (fun H locs B => ?_)
  refine lv_aload_n hx hb dX7_startToken_16 rfl (lv_at hl 0 rfl) ?_
  refine x_getr hx hb hts hinRX7 hown B 2 6 8 (by decide) (by decide) (fun _ => rfl) rfl rfl (by decide) (by decide +kernel) rfl dX7_startToken_17 ?_
  refine lv_iload_n hx hb dX7_startToken_20 rfl (lv_at hl 1 rfl) ?_
  refine lv_iconst (v := (-1 : Int32)) hx hb dX7_startToken_21 (by decide) ?_
  obtain ⟨hg, hf⟩ := zg_some hf
  refine x_iast hx hb B 8 (by decide) (by decide) (fun _ => rfl) (zin_ok hg) dX7_startToken_22 (fun H locs B => ?_)
  refine lv_aload_n hx hb dX7_startToken_23 rfl (lv_at hl 0 rfl) ?_
  refine x_getr hx hb hts hinRX7 hown B 2 7 9 (by decide) (by decide) (fun _ => rfl) rfl rfl (by decide) (by decide +kernel) rfl dX7_startToken_24 ?_
  refine lv_iload_n hx hb dX7_startToken_27 rfl (lv_at hl 1 rfl) ?_
  refine lv_iconst (v := (0 : Int32)) hx hb dX7_startToken_28 (by decide) ?_
  obtain ⟨hg, hf⟩ := zg_some hf
  refine x_iast hx hb B 9 (by decide) (by decide) (fun _ => rfl) (zin_ok hg) dX7_startToken_29 (fun H locs B => ?_)
  refine lv_aload_n hx hb dX7_startToken_30 rfl (lv_at hl 0 rfl) ?_
  refine lv_dup hx hb dX7_startToken_31 rfl ?_
  refine x_geti hx hb hts hinRX7 hown B 2 0 (by decide) (fun _ => rfl) rfl rfl (by decide) (by decide +kernel) rfl dX7_startToken_32 ?_
  refine lv_iconst (v := (1 : Int32)) hx hb dX7_startToken_35 (by decide) ?_
  refine lv_iadd hx hb dX7_startToken_36 ?_
  refine x_puti hx hb hts hinRX7 hown tyX7 tyX7_ok nmX7 B 2 0 (by decide) (by decide) (fun _ => rfl) rfl rfl (by decide) (by decide +kernel) rfl rfl rfl rfl dX7_startToken_37 (fun H locs B => ?_)
  refine W.widen (k := 0) (n := 0) (Nat.le_of_ble_eq_true rfl) (Nat.le_of_ble_eq_true rfl) ?_
  exact x_vret hx hb hr hlocks B hf dX7_startToken_40
theorem dX7_makeRoot_0 : decode cX7_makeRoot 0 = .ok (.aload_n 0, 1) := by decide +kernel
theorem dX7_makeRoot_1 : decode cX7_makeRoot 1 = .ok (.getfield 49, 3) := by decide +kernel
theorem dX7_makeRoot_4 : decode cX7_makeRoot 4 = .ok (.istore_n 3, 1) := by decide +kernel
theorem dX7_makeRoot_5 : decode cX7_makeRoot 5 = .ok (.aload_n 0, 1) := by decide +kernel
theorem dX7_makeRoot_6 : decode cX7_makeRoot 6 = .ok (.getfield 9, 3) := by decide +kernel
theorem dX7_makeRoot_9 : decode cX7_makeRoot 9 = .ok (.iload_n 3, 1) := by decide +kernel
theorem dX7_makeRoot_10 : decode cX7_makeRoot 10 = .ok (.iload_n 2, 1) := by decide +kernel
theorem dX7_makeRoot_11 : decode cX7_makeRoot 11 = .ok (.iastore, 1) := by decide +kernel
theorem dX7_makeRoot_12 : decode cX7_makeRoot 12 = .ok (.aload_n 0, 1) := by decide +kernel
theorem dX7_makeRoot_13 : decode cX7_makeRoot 13 = .ok (.getfield 15, 3) := by decide +kernel
theorem dX7_makeRoot_16 : decode cX7_makeRoot 16 = .ok (.iload_n 3, 1) := by decide +kernel
theorem dX7_makeRoot_17 : decode cX7_makeRoot 17 = .ok (.iconst 1, 1) := by decide +kernel
theorem dX7_makeRoot_18 : decode cX7_makeRoot 18 = .ok (.iastore, 1) := by decide +kernel
theorem dX7_makeRoot_19 : decode cX7_makeRoot 19 = .ok (.aload_n 0, 1) := by decide +kernel
theorem dX7_makeRoot_20 : decode cX7_makeRoot 20 = .ok (.getfield 18, 3) := by decide +kernel
theorem dX7_makeRoot_23 : decode cX7_makeRoot 23 = .ok (.iload_n 3, 1) := by decide +kernel
theorem dX7_makeRoot_24 : decode cX7_makeRoot 24 = .ok (.bipush 7, 2) := by decide +kernel
theorem dX7_makeRoot_26 : decode cX7_makeRoot 26 = .ok (.imul, 1) := by decide +kernel
theorem dX7_makeRoot_27 : decode cX7_makeRoot 27 = .ok (.iload_n 3, 1) := by decide +kernel
theorem dX7_makeRoot_28 : decode cX7_makeRoot 28 = .ok (.iastore, 1) := by decide +kernel
theorem dX7_makeRoot_29 : decode cX7_makeRoot 29 = .ok (.aload_n 0, 1) := by decide +kernel
theorem dX7_makeRoot_30 : decode cX7_makeRoot 30 = .ok (.iload_n 3, 1) := by decide +kernel
theorem dX7_makeRoot_31 : decode cX7_makeRoot 31 = .ok (.iload_n 1, 1) := by decide +kernel
theorem dX7_makeRoot_32 : decode cX7_makeRoot 32 = .ok (.invokevirtual 57, 3) := by decide +kernel
theorem dX7_makeRoot_35 : decode cX7_makeRoot 35 = .ok (.iload_n 3, 1) := by decide +kernel
theorem dX7_makeRoot_36 : decode cX7_makeRoot 36 = .ok (.ireturn, 1) := by decide +kernel
set_option maxRecDepth 20000 in
theorem ggX7_makeRoot_X7_startToken : GoodIn wsX7_makeRoot wsX7_startToken := goodIn_ca (goodIn_r _ [9, 10, 11, 12, 13, 1, 14, 15, 16, 17, 18, 19, 20, 21, 22, 23, 24, 25] (by decide +kernel) (by decide +kernel)) (goodIn_sub (fun _ h => List.mem_cons_of_mem _ (List.mem_append_right _ h)) (by decide +kernel))
set_option maxRecDepth 20000 in
theorem gX7_makeRoot_X7_startToken : GoodIn wsX7_makeRoot (wsV RX7 57 RX7 yX7_startToken wsX7_startToken) := goodIn_app (goodIn_of _ (by decide +kernel)) ggX7_makeRoot_X7_startToken
def rm_X7_makeRoot : Room := { frames := 2, cells := 0, slots := 0, locals := 38 }
set_option maxHeartbeats 4000000 in
set_option maxRecDepth 100000 in
theorem c_X7_makeRoot (l : Launch) {G : zG} {ad : Nat → Nat} {σ σ' : zs} {a1 a2 : Int32} {r : Int32} (hf : f_X7_makeRoot σ a1 a2 = some (r, σ')) : xMi l yX7_makeRoot wsX7_makeRoot rm_X7_makeRoot G ad σ [.ref (ad 2), .int a1, .int a2] r σ' := by
  intro sz nb a g hs
  refine Met.ofW (cc := cX7_makeRoot) (maxL := 4) (ret := (some .int)) (by decide) rfl ?_
  intro p e s m args below meth c s₁ B hml hv
  obtain ⟨rfl, hsz, hv⟩ := hv
  have hx := B.exec
  have hb := B.bytes
  have hr := B.returns
  have hts := atoms_spec (ws := wsX7_makeRoot) B.pre
  have hown : s.vm.findClass RX7 = some m.cls := findClass_of_methodNamed B.named
  have hlocks := B.notSynchronized
  subst hsz
  have B := xB_start hs hv
  have hinRX7 : ∀ w ∈ wsX70, w ∈ wsX7_makeRoot := by decide +kernel
  have hl := lv_entry ([.ref (ad 2), .int a1, .int a2]) (n := 4) (Nat.le_of_ble_eq_true rfl)
  rw [lg_entry_eq]
  generalize (lg_sl ([.ref (ad 2), .int a1, .int a2]) ++ List.replicate (4 - (lg_sl ([.ref (ad 2), .int a1, .int a2])).length) Slot.unset).toArray = ls at hl ⊢
  have hl : lv_has ls 4 [(0, .ref (ad 2)), (1, .int a1), (2, .int a2)] := hl
  generalize hAe : xA ad a s.heap.size = A at B ⊢
  unfold f_X7_makeRoot at hf
  refine lv_aload_n hx hb dX7_makeRoot_0 rfl (lv_at hl 0 rfl) ?_
  refine x_geti hx hb hts hinRX7 hown B 2 0 (by decide) (fun _ => rfl) rfl rfl (by decide) (by decide +kernel) rfl dX7_makeRoot_1 ?_
  refine lv_istore_n (lv' := [(3, .int (σ 2 0)), (0, .ref (ad 2)), (1, .int a1), (2, .int a2)]) hx hb dX7_makeRoot_4 rfl hl (by decide) rfl (fun ls hl => ?_)
  refine lv_aload_n hx hb dX7_makeRoot_5 rfl (lv_at hl 1 rfl) ?_
  refine x_getr hx hb hts hinRX7 hown B 2 1 3 (by decide) (by decide) (fun _ => rfl) rfl rfl (by decide) (by decide +kernel) rfl dX7_makeRoot_6 ?_
  refine lv_iload_n hx hb dX7_makeRoot_9 rfl (lv_at hl 0 rfl) ?_
  refine lv_iload_n hx hb dX7_makeRoot_10 rfl (lv_at hl 3 rfl) ?_
  obtain ⟨hg, hf⟩ := zg_some hf
  refine x_iast hx hb B 3 (by decide) (by decide) (fun _ => rfl) (zin_ok hg) dX7_makeRoot_11 (fun H locs B => ?_)
  refine lv_aload_n hx hb dX7_makeRoot_12 rfl (lv_at hl 1 rfl) ?_
  refine x_getr hx hb hts hinRX7 hown B 2 2 4 (by decide) (by decide) (fun _ => rfl) rfl rfl (by decide) (by decide +kernel) rfl dX7_makeRoot_13 ?_
  refine lv_iload_n hx hb dX7_makeRoot_16 rfl (lv_at hl 0 rfl) ?_
  refine lv_iconst (v := (1 : Int32)) hx hb dX7_makeRoot_17 (by decide) ?_
  obtain ⟨hg, hf⟩ := zg_some hf
  refine x_iast hx hb B 4 (by decide) (by decide) (fun _ => rfl) (zin_ok hg) dX7_makeRoot_18 (fun H locs B => ?_)
  refine lv_aload_n hx hb dX7_makeRoot_19 rfl (lv_at hl 1 rfl) ?_
  refine x_getr hx hb hts hinRX7 hown B 2 3 5 (by decide) (by decide) (fun _ => rfl) rfl rfl (by decide) (by decide +kernel) rfl dX7_makeRoot_20 ?_
  refine lv_iload_n hx hb dX7_makeRoot_23 rfl (lv_at hl 0 rfl) ?_
  refine lv_bipush (v := (7 : Int32)) hx hb dX7_makeRoot_24 (by decide) ?_
  refine lv_imul hx hb dX7_makeRoot_26 ?_
  refine lv_iload_n hx hb dX7_makeRoot_27 rfl (lv_at hl 0 rfl) ?_
  obtain ⟨hg, hf⟩ := zg_some hf
  refine x_iast hx hb B 5 (by decide) (by decide) (fun _ => rfl) (zin_ok hg) dX7_makeRoot_28 (fun H locs B => ?_)
  refine lv_aload_n hx hb dX7_makeRoot_29 rfl (lv_at hl 1 rfl) ?_
  refine lv_iload_n hx hb dX7_makeRoot_30 rfl (lv_at hl 0 rfl) ?_
  refine lv_iload_n hx hb dX7_makeRoot_31 rfl (lv_at hl 2 rfl) ?_
  obtain ⟨r2, σ3, hu1, hf⟩ := zb_some hf
  refine x_v B (fun nb a g hs Bz => va_runV (As := [.int (σ 2 0), .int a1]) (rest := []) ⟨hx, hb, hml, hown, hts⟩ (c_X7_startToken l hu1 _ nb a g hs) (cwV 2 hts gX7_makeRoot_X7_startToken rfl rfl rfl (by decide +kernel) ⟨Nat.le_of_ble_eq_true rfl, Nat.le_of_ble_eq_true rfl⟩) (x_preV Bz (by decide) (fun _ => rfl) rfl) rfl rfl hl.1 rfl (lv_room (Nat.le_of_ble_eq_true rfl)) dX7_makeRoot_32 ⟨Nat.le_of_ble_eq_true rfl, Nat.le_of_ble_eq_true rfl⟩) (fun H locs B => ?_)
  refine lv_iload_n hx hb dX7_makeRoot_35 rfl (lv_at hl 0 rfl) ?_
  refine W.widen (k := 0) (n := 0) (Nat.le_of_ble_eq_true rfl) (Nat.le_of_ble_eq_true rfl) ?_
  exact x_iret hx hb hr rfl hlocks B hf dX7_makeRoot_36
theorem dX7_makeDerived_0 : decode cX7_makeDerived 0 = .ok (.aload_n 0, 1) := by decide +kernel
theorem dX7_makeDerived_1 : decode cX7_makeDerived 1 = .ok (.getfield 49, 3) := by decide +kernel
theorem dX7_makeDerived_4 : decode cX7_makeDerived 4 = .ok (.istore_n 3, 1) := by decide +kernel
theorem dX7_makeDerived_5 : decode cX7_makeDerived 5 = .ok (.aload_n 0, 1) := by decide +kernel
theorem dX7_makeDerived_6 : decode cX7_makeDerived 6 = .ok (.getfield 9, 3) := by decide +kernel
theorem dX7_makeDerived_9 : decode cX7_makeDerived 9 = .ok (.iload_n 3, 1) := by decide +kernel
theorem dX7_makeDerived_10 : decode cX7_makeDerived 10 = .ok (.aload_n 0, 1) := by decide +kernel
theorem dX7_makeDerived_11 : decode cX7_makeDerived 11 = .ok (.getfield 9, 3) := by decide +kernel
theorem dX7_makeDerived_14 : decode cX7_makeDerived 14 = .ok (.iload_n 2, 1) := by decide +kernel
theorem dX7_makeDerived_15 : decode cX7_makeDerived 15 = .ok (.iaload, 1) := by decide +kernel
theorem dX7_makeDerived_16 : decode cX7_makeDerived 16 = .ok (.iastore, 1) := by decide +kernel
theorem dX7_makeDerived_17 : decode cX7_makeDerived 17 = .ok (.aload_n 0, 1) := by decide +kernel
theorem dX7_makeDerived_18 : decode cX7_makeDerived 18 = .ok (.getfield 15, 3) := by decide +kernel
theorem dX7_makeDerived_21 : decode cX7_makeDerived 21 = .ok (.iload_n 3, 1) := by decide +kernel
theorem dX7_makeDerived_22 : decode cX7_makeDerived 22 = .ok (.aload_n 0, 1) := by decide +kernel
theorem dX7_makeDerived_23 : decode cX7_makeDerived 23 = .ok (.getfield 15, 3) := by decide +kernel
theorem dX7_makeDerived_26 : decode cX7_makeDerived 26 = .ok (.iload_n 2, 1) := by decide +kernel
theorem dX7_makeDerived_27 : decode cX7_makeDerived 27 = .ok (.iaload, 1) := by decide +kernel
theorem dX7_makeDerived_28 : decode cX7_makeDerived 28 = .ok (.iconst 1, 1) := by decide +kernel
theorem dX7_makeDerived_29 : decode cX7_makeDerived 29 = .ok (.iadd, 1) := by decide +kernel
theorem dX7_makeDerived_30 : decode cX7_makeDerived 30 = .ok (.iastore, 1) := by decide +kernel
theorem dX7_makeDerived_31 : decode cX7_makeDerived 31 = .ok (.aload_n 0, 1) := by decide +kernel
theorem dX7_makeDerived_32 : decode cX7_makeDerived 32 = .ok (.getfield 18, 3) := by decide +kernel
theorem dX7_makeDerived_35 : decode cX7_makeDerived 35 = .ok (.iload_n 2, 1) := by decide +kernel
theorem dX7_makeDerived_36 : decode cX7_makeDerived 36 = .ok (.bipush 7, 2) := by decide +kernel
theorem dX7_makeDerived_38 : decode cX7_makeDerived 38 = .ok (.imul, 1) := by decide +kernel
theorem dX7_makeDerived_39 : decode cX7_makeDerived 39 = .ok (.aload_n 0, 1) := by decide +kernel
theorem dX7_makeDerived_40 : decode cX7_makeDerived 40 = .ok (.getfield 18, 3) := by decide +kernel
theorem dX7_makeDerived_43 : decode cX7_makeDerived 43 = .ok (.iload_n 3, 1) := by decide +kernel
theorem dX7_makeDerived_44 : decode cX7_makeDerived 44 = .ok (.bipush 7, 2) := by decide +kernel
theorem dX7_makeDerived_46 : decode cX7_makeDerived 46 = .ok (.imul, 1) := by decide +kernel
theorem dX7_makeDerived_47 : decode cX7_makeDerived 47 = .ok (.aload_n 0, 1) := by decide +kernel
theorem dX7_makeDerived_48 : decode cX7_makeDerived 48 = .ok (.getfield 15, 3) := by decide +kernel
theorem dX7_makeDerived_51 : decode cX7_makeDerived 51 = .ok (.iload_n 2, 1) := by decide +kernel
theorem dX7_makeDerived_52 : decode cX7_makeDerived 52 = .ok (.iaload, 1) := by decide +kernel
theorem dX7_makeDerived_53 : decode cX7_makeDerived 53 = .ok (.invokestatic 61, 3) := by decide +kernel
theorem dX7_makeDerived_56 : decode cX7_makeDerived 56 = .ok (.aload_n 0, 1) := by decide +kernel
theorem dX7_makeDerived_57 : decode cX7_makeDerived 57 = .ok (.getfield 18, 3) := by decide +kernel
theorem dX7_makeDerived_60 : decode cX7_makeDerived 60 = .ok (.iload_n 3, 1) := by decide +kernel
theorem dX7_makeDerived_61 : decode cX7_makeDerived 61 = .ok (.bipush 7, 2) := by decide +kernel
theorem dX7_makeDerived_63 : decode cX7_makeDerived 63 = .ok (.imul, 1) := by decide +kernel
theorem dX7_makeDerived_64 : decode cX7_makeDerived 64 = .ok (.aload_n 0, 1) := by decide +kernel
theorem dX7_makeDerived_65 : decode cX7_makeDerived 65 = .ok (.getfield 15, 3) := by decide +kernel
theorem dX7_makeDerived_68 : decode cX7_makeDerived 68 = .ok (.iload_n 2, 1) := by decide +kernel
theorem dX7_makeDerived_69 : decode cX7_makeDerived 69 = .ok (.iaload, 1) := by decide +kernel
theorem dX7_makeDerived_70 : decode cX7_makeDerived 70 = .ok (.iadd, 1) := by decide +kernel
theorem dX7_makeDerived_71 : decode cX7_makeDerived 71 = .ok (.iload_n 3, 1) := by decide +kernel
theorem dX7_makeDerived_72 : decode cX7_makeDerived 72 = .ok (.iastore, 1) := by decide +kernel
theorem dX7_makeDerived_73 : decode cX7_makeDerived 73 = .ok (.aload_n 0, 1) := by decide +kernel
theorem dX7_makeDerived_74 : decode cX7_makeDerived 74 = .ok (.iload_n 3, 1) := by decide +kernel
theorem dX7_makeDerived_75 : decode cX7_makeDerived 75 = .ok (.iload_n 1, 1) := by decide +kernel
theorem dX7_makeDerived_76 : decode cX7_makeDerived 76 = .ok (.invokevirtual 57, 3) := by decide +kernel
theorem dX7_makeDerived_79 : decode cX7_makeDerived 79 = .ok (.iload_n 3, 1) := by decide +kernel
theorem dX7_makeDerived_80 : decode cX7_makeDerived 80 = .ok (.ireturn, 1) := by decide +kernel
set_option maxRecDepth 20000 in
theorem ggX7_makeDerived_X7_startToken : GoodIn wsX7_makeDerived wsX7_startToken := goodIn_ca (goodIn_r _ [13, 14, 15, 16, 17, 1, 18, 19, 20, 21, 22, 23, 24, 25, 26, 27, 28, 29] (by decide +kernel) (by decide +kernel)) (goodIn_sub (fun _ h => List.mem_cons_of_mem _ (List.mem_append_right _ h)) (by decide +kernel))
set_option maxRecDepth 20000 in
theorem gX7_makeDerived_X7_startToken : GoodIn wsX7_makeDerived (wsV RX7 57 RX7 yX7_startToken wsX7_startToken) := goodIn_app (goodIn_of _ (by decide +kernel)) ggX7_makeDerived_X7_startToken
def rm_X7_makeDerived : Room := { frames := 2, cells := 0, slots := 0, locals := 200 }
set_option maxHeartbeats 4000000 in
set_option maxRecDepth 100000 in
theorem c_X7_makeDerived (l : Launch) {G : zG} {ad : Nat → Nat} {σ σ' : zs} {a1 a2 : Int32} {r : Int32} (hf : f_X7_makeDerived σ a1 a2 = some (r, σ')) : xMi l yX7_makeDerived wsX7_makeDerived rm_X7_makeDerived G ad σ [.ref (ad 2), .int a1, .int a2] r σ' := by
  intro sz nb a g hs
  refine Met.ofW (cc := cX7_makeDerived) (maxL := 4) (ret := (some .int)) (by decide) rfl ?_
  intro p e s m args below meth c s₁ B hml hv
  obtain ⟨rfl, hsz, hv⟩ := hv
  have hx := B.exec
  have hb := B.bytes
  have hr := B.returns
  have hts := atoms_spec (ws := wsX7_makeDerived) B.pre
  have hown : s.vm.findClass RX7 = some m.cls := findClass_of_methodNamed B.named
  have hlocks := B.notSynchronized
  subst hsz
  have B := xB_start hs hv
  have hinRX7 : ∀ w ∈ wsX70, w ∈ wsX7_makeDerived := by decide +kernel
  have hl := lv_entry ([.ref (ad 2), .int a1, .int a2]) (n := 4) (Nat.le_of_ble_eq_true rfl)
  rw [lg_entry_eq]
  generalize (lg_sl ([.ref (ad 2), .int a1, .int a2]) ++ List.replicate (4 - (lg_sl ([.ref (ad 2), .int a1, .int a2])).length) Slot.unset).toArray = ls at hl ⊢
  have hl : lv_has ls 4 [(0, .ref (ad 2)), (1, .int a1), (2, .int a2)] := hl
  generalize hAe : xA ad a s.heap.size = A at B ⊢
  unfold f_X7_makeDerived at hf
  refine lv_aload_n hx hb dX7_makeDerived_0 rfl (lv_at hl 0 rfl) ?_
  refine x_geti hx hb hts hinRX7 hown B 2 0 (by decide) (fun _ => rfl) rfl rfl (by decide) (by decide +kernel) rfl dX7_makeDerived_1 ?_
  refine lv_istore_n (lv' := [(3, .int (σ 2 0)), (0, .ref (ad 2)), (1, .int a1), (2, .int a2)]) hx hb dX7_makeDerived_4 rfl hl (by decide) rfl (fun ls hl => ?_)
  refine lv_aload_n hx hb dX7_makeDerived_5 rfl (lv_at hl 1 rfl) ?_
  refine x_getr hx hb hts hinRX7 hown B 2 1 3 (by decide) (by decide) (fun _ => rfl) rfl rfl (by decide) (by decide +kernel) rfl dX7_makeDerived_6 ?_
  refine lv_iload_n hx hb dX7_makeDerived_9 rfl (lv_at hl 0 rfl) ?_
  refine lv_aload_n hx hb dX7_makeDerived_10 rfl (lv_at hl 1 rfl) ?_
  refine x_getr hx hb hts hinRX7 hown B 2 1 3 (by decide) (by decide) (fun _ => rfl) rfl rfl (by decide) (by decide +kernel) rfl dX7_makeDerived_11 ?_
  refine lv_iload_n hx hb dX7_makeDerived_14 rfl (lv_at hl 3 rfl) ?_
  obtain ⟨hg, hf⟩ := zg_some hf
  refine x_iald hx hb B 3 (by decide) (fun _ => rfl) (zin_ok hg) dX7_makeDerived_15 ?_
  obtain ⟨hg, hf⟩ := zg_some hf
  refine x_iast hx hb B 3 (by decide) (by decide) (fun _ => rfl) (zin_ok hg) dX7_makeDerived_16 (fun H locs B => ?_)
  refine lv_aload_n hx hb dX7_makeDerived_17 rfl (lv_at hl 1 rfl) ?_
  refine x_getr hx hb hts hinRX7 hown B 2 2 4 (by decide) (by decide) (fun _ => rfl) rfl rfl (by decide) (by decide +kernel) rfl dX7_makeDerived_18 ?_
  refine lv_iload_n hx hb dX7_makeDerived_21 rfl (lv_at hl 0 rfl) ?_
  refine lv_aload_n hx hb dX7_makeDerived_22 rfl (lv_at hl 1 rfl) ?_
  refine x_getr hx hb hts hinRX7 hown B 2 2 4 (by decide) (by decide) (fun _ => rfl) rfl rfl (by decide) (by decide +kernel) rfl dX7_makeDerived_23 ?_
  refine lv_iload_n hx hb dX7_makeDerived_26 rfl (lv_at hl 3 rfl) ?_
  obtain ⟨hg, hf⟩ := zg_some hf
  refine x_iald hx hb B 4 (by decide) (fun _ => rfl) (zin_ok hg) dX7_makeDerived_27 ?_
  refine lv_iconst (v := (1 : Int32)) hx hb dX7_makeDerived_28 (by decide) ?_
  refine lv_iadd hx hb dX7_makeDerived_29 ?_
  obtain ⟨hg, hf⟩ := zg_some hf
  refine x_iast hx hb B 4 (by decide) (by decide) (fun _ => rfl) (zin_ok hg) dX7_makeDerived_30 (fun H locs B => ?_)
  refine lv_aload_n hx hb dX7_makeDerived_31 rfl (lv_at hl 1 rfl) ?_
  refine x_getr hx hb hts hinRX7 hown B 2 3 5 (by decide) (by decide) (fun _ => rfl) rfl rfl (by decide) (by decide +kernel) rfl dX7_makeDerived_32 ?_
  refine lv_iload_n hx hb dX7_makeDerived_35 rfl (lv_at hl 3 rfl) ?_
  refine lv_bipush (v := (7 : Int32)) hx hb dX7_makeDerived_36 (by decide) ?_
  refine lv_imul hx hb dX7_makeDerived_38 ?_
  refine lv_aload_n hx hb dX7_makeDerived_39 rfl (lv_at hl 1 rfl) ?_
  refine x_getr hx hb hts hinRX7 hown B 2 3 5 (by decide) (by decide) (fun _ => rfl) rfl rfl (by decide) (by decide +kernel) rfl dX7_makeDerived_40 ?_
  refine lv_iload_n hx hb dX7_makeDerived_43 rfl (lv_at hl 0 rfl) ?_
  refine lv_bipush (v := (7 : Int32)) hx hb dX7_makeDerived_44 (by decide) ?_
  refine lv_imul hx hb dX7_makeDerived_46 ?_
  refine lv_aload_n hx hb dX7_makeDerived_47 rfl (lv_at hl 1 rfl) ?_
  refine x_getr hx hb hts hinRX7 hown B 2 2 4 (by decide) (by decide) (fun _ => rfl) rfl rfl (by decide) (by decide +kernel) rfl dX7_makeDerived_48 ?_
  refine lv_iload_n hx hb dX7_makeDerived_51 rfl (lv_at hl 3 rfl) ?_
  obtain ⟨hg, hf⟩ := zg_some hf
  refine x_iald hx hb B 4 (by decide) (fun _ => rfl) (zin_ok hg) dX7_makeDerived_52 ?_
  obtain ⟨hg, hf⟩ := zg_some hf
  obtain ⟨g1, g2, g3, g4, g5⟩ := zcp_ok hg
  refine x_copyi hx hb (hml.trans hl.1.symm) hts hown (index := 61) (by decide +kernel) (by decide +kernel) (by decide +kernel) (by decide +kernel) B 5 5 (by decide) (by decide) (by decide) (fun _ => rfl) (fun _ => rfl) g1 g2 g3 g4 g5 (Nat.le_of_ble_eq_true rfl) (Nat.le_of_ble_eq_true rfl) dX7_makeDerived_53 (fun H locs B => ?_)
  refine lv_aload_n hx hb dX7_makeDerived_56 rfl (lv_at hl 1 rfl) ?_
  refine x_getr hx hb hts hinRX7 hown B 2 3 5 (by decide) (by decide) (fun _ => rfl) rfl rfl (by decide) (by decide +kernel) rfl dX7_makeDerived_57 ?_
  refine lv_iload_n hx hb dX7_makeDerived_60 rfl (lv_at hl 0 rfl) ?_
  refine lv_bipush (v := (7 : Int32)) hx hb dX7_makeDerived_61 (by decide) ?_
  refine lv_imul hx hb dX7_makeDerived_63 ?_
  refine lv_aload_n hx hb dX7_makeDerived_64 rfl (lv_at hl 1 rfl) ?_
  refine x_getr hx hb hts hinRX7 hown B 2 2 4 (by decide) (by decide) (fun _ => rfl) rfl rfl (by decide) (by decide +kernel) rfl dX7_makeDerived_65 ?_
  refine lv_iload_n hx hb dX7_makeDerived_68 rfl (lv_at hl 3 rfl) ?_
  obtain ⟨hg, hf⟩ := zg_some hf
  refine x_iald hx hb B 4 (by decide) (fun _ => rfl) (zin_ok hg) dX7_makeDerived_69 ?_
  refine lv_iadd hx hb dX7_makeDerived_70 ?_
  refine lv_iload_n hx hb dX7_makeDerived_71 rfl (lv_at hl 0 rfl) ?_
  obtain ⟨hg, hf⟩ := zg_some hf
  refine x_iast hx hb B 5 (by decide) (by decide) (fun _ => rfl) (zin_ok hg) dX7_makeDerived_72 (fun H locs B => ?_)
  refine lv_aload_n hx hb dX7_makeDerived_73 rfl (lv_at hl 1 rfl) ?_
  refine lv_iload_n hx hb dX7_makeDerived_74 rfl (lv_at hl 0 rfl) ?_
  refine lv_iload_n hx hb dX7_makeDerived_75 rfl (lv_at hl 2 rfl) ?_
  obtain ⟨r2, σ3, hu1, hf⟩ := zb_some hf
  refine x_v B (fun nb a g hs Bz => va_runV (As := [.int (σ 2 0), .int a1]) (rest := []) ⟨hx, hb, hml, hown, hts⟩ (c_X7_startToken l hu1 _ nb a g hs) (cwV 2 hts gX7_makeDerived_X7_startToken rfl rfl rfl (by decide +kernel) ⟨Nat.le_of_ble_eq_true rfl, Nat.le_of_ble_eq_true rfl⟩) (x_preV Bz (by decide) (fun _ => rfl) rfl) rfl rfl hl.1 rfl (lv_room (Nat.le_of_ble_eq_true rfl)) dX7_makeDerived_76 ⟨Nat.le_of_ble_eq_true rfl, Nat.le_of_ble_eq_true rfl⟩) (fun H locs B => ?_)
  refine lv_iload_n hx hb dX7_makeDerived_79 rfl (lv_at hl 0 rfl) ?_
  refine W.widen (k := 0) (n := 0) (Nat.le_of_ble_eq_true rfl) (Nat.le_of_ble_eq_true rfl) ?_
  exact x_iret hx hb hr rfl hlocks B hf dX7_makeDerived_80
theorem dX7_addCaveat_0 : decode cX7_addCaveat 0 = .ok (.aload_n 0, 1) := by decide +kernel
theorem dX7_addCaveat_1 : decode cX7_addCaveat 1 = .ok (.getfield 30, 3) := by decide +kernel
theorem dX7_addCaveat_4 : decode cX7_addCaveat 4 = .ok (.iload_n 1, 1) := by decide +kernel
theorem dX7_addCaveat_5 : decode cX7_addCaveat 5 = .ok (.iaload, 1) := by decide +kernel
theorem dX7_addCaveat_6 : decode cX7_addCaveat 6 = .ok (.iconst 4, 1) := by decide +kernel
theorem dX7_addCaveat_7 : decode cX7_addCaveat 7 = .ok (.if_icmp .ge 50, 3) := by decide +kernel
theorem dX7_addCaveat_10 : decode cX7_addCaveat 10 = .ok (.iload_n 1, 1) := by decide +kernel
theorem dX7_addCaveat_11 : decode cX7_addCaveat 11 = .ok (.iconst 4, 1) := by decide +kernel
theorem dX7_addCaveat_12 : decode cX7_addCaveat 12 = .ok (.imul, 1) := by decide +kernel
theorem dX7_addCaveat_13 : decode cX7_addCaveat 13 = .ok (.aload_n 0, 1) := by decide +kernel
theorem dX7_addCaveat_14 : decode cX7_addCaveat 14 = .ok (.getfield 30, 3) := by decide +kernel
theorem dX7_addCaveat_17 : decode cX7_addCaveat 17 = .ok (.iload_n 1, 1) := by decide +kernel
theorem dX7_addCaveat_18 : decode cX7_addCaveat 18 = .ok (.iaload, 1) := by decide +kernel
theorem dX7_addCaveat_19 : decode cX7_addCaveat 19 = .ok (.iadd, 1) := by decide +kernel
theorem dX7_addCaveat_20 : decode cX7_addCaveat 20 = .ok (.istore 5, 2) := by decide +kernel
theorem dX7_addCaveat_22 : decode cX7_addCaveat 22 = .ok (.aload_n 0, 1) := by decide +kernel
theorem dX7_addCaveat_23 : decode cX7_addCaveat 23 = .ok (.getfield 33, 3) := by decide +kernel
theorem dX7_addCaveat_26 : decode cX7_addCaveat 26 = .ok (.iload 5, 2) := by decide +kernel
theorem dX7_addCaveat_28 : decode cX7_addCaveat 28 = .ok (.iload_n 2, 1) := by decide +kernel
theorem dX7_addCaveat_29 : decode cX7_addCaveat 29 = .ok (.iastore, 1) := by decide +kernel
theorem dX7_addCaveat_30 : decode cX7_addCaveat 30 = .ok (.aload_n 0, 1) := by decide +kernel
theorem dX7_addCaveat_31 : decode cX7_addCaveat 31 = .ok (.getfield 36, 3) := by decide +kernel
theorem dX7_addCaveat_34 : decode cX7_addCaveat 34 = .ok (.iload 5, 2) := by decide +kernel
theorem dX7_addCaveat_36 : decode cX7_addCaveat 36 = .ok (.iload_n 3, 1) := by decide +kernel
theorem dX7_addCaveat_37 : decode cX7_addCaveat 37 = .ok (.iastore, 1) := by decide +kernel
theorem dX7_addCaveat_38 : decode cX7_addCaveat 38 = .ok (.aload_n 0, 1) := by decide +kernel
theorem dX7_addCaveat_39 : decode cX7_addCaveat 39 = .ok (.getfield 39, 3) := by decide +kernel
theorem dX7_addCaveat_42 : decode cX7_addCaveat 42 = .ok (.iload 5, 2) := by decide +kernel
theorem dX7_addCaveat_44 : decode cX7_addCaveat 44 = .ok (.iload 4, 2) := by decide +kernel
theorem dX7_addCaveat_46 : decode cX7_addCaveat 46 = .ok (.iastore, 1) := by decide +kernel
theorem dX7_addCaveat_47 : decode cX7_addCaveat 47 = .ok (.aload_n 0, 1) := by decide +kernel
theorem dX7_addCaveat_48 : decode cX7_addCaveat 48 = .ok (.getfield 30, 3) := by decide +kernel
theorem dX7_addCaveat_51 : decode cX7_addCaveat 51 = .ok (.iload_n 1, 1) := by decide +kernel
theorem dX7_addCaveat_52 : decode cX7_addCaveat 52 = .ok (.dup2, 1) := by decide +kernel
theorem dX7_addCaveat_53 : decode cX7_addCaveat 53 = .ok (.iaload, 1) := by decide +kernel
theorem dX7_addCaveat_54 : decode cX7_addCaveat 54 = .ok (.iconst 1, 1) := by decide +kernel
theorem dX7_addCaveat_55 : decode cX7_addCaveat 55 = .ok (.iadd, 1) := by decide +kernel
theorem dX7_addCaveat_56 : decode cX7_addCaveat 56 = .ok (.iastore, 1) := by decide +kernel
theorem dX7_addCaveat_57 : decode cX7_addCaveat 57 = .ok (.return_, 1) := by decide +kernel
def rm_X7_addCaveat : Room := { frames := 1, cells := 0, slots := 0, locals := 16 }
set_option maxHeartbeats 4000000 in
set_option maxRecDepth 100000 in
theorem c_X7_addCaveat (l : Launch) {G : zG} {ad : Nat → Nat} {σ σ' : zs} {a1 a2 a3 a4 : Int32} {r : Int32} (hf : f_X7_addCaveat σ a1 a2 a3 a4 = some (r, σ')) : xMv l yX7_addCaveat wsX7_addCaveat rm_X7_addCaveat G ad σ [.ref (ad 2), .int a1, .int a2, .int a3, .int a4] σ' := by
  intro sz nb a g hs
  refine Met.ofW (cc := cX7_addCaveat) (maxL := 6) (ret := none) (by decide) rfl ?_
  intro p e s m args below meth c s₁ B hml hv
  obtain ⟨rfl, hsz, hv⟩ := hv
  have hx := B.exec
  have hb := B.bytes
  have hr := B.returns
  have hts := atoms_spec (ws := wsX7_addCaveat) B.pre
  have hown : s.vm.findClass RX7 = some m.cls := findClass_of_methodNamed B.named
  have hlocks := B.notSynchronized
  subst hsz
  have B := xB_start hs hv
  have hinRX7 : ∀ w ∈ wsX70, w ∈ wsX7_addCaveat := by decide +kernel
  have hl := lv_entry ([.ref (ad 2), .int a1, .int a2, .int a3, .int a4]) (n := 6) (Nat.le_of_ble_eq_true rfl)
  rw [lg_entry_eq]
  generalize (lg_sl ([.ref (ad 2), .int a1, .int a2, .int a3, .int a4]) ++ List.replicate (6 - (lg_sl ([.ref (ad 2), .int a1, .int a2, .int a3, .int a4])).length) Slot.unset).toArray = ls at hl ⊢
  have hl : lv_has ls 6 [(0, .ref (ad 2)), (1, .int a1), (2, .int a2), (3, .int a3), (4, .int a4)] := hl
  generalize hAe : xA ad a s.heap.size = A at B ⊢
  unfold f_X7_addCaveat at hf
  refine lv_aload_n hx hb dX7_addCaveat_0 rfl (lv_at hl 0 rfl) ?_
  refine x_getr hx hb hts hinRX7 hown B 2 7 9 (by decide) (by decide) (fun _ => rfl) rfl rfl (by decide) (by decide +kernel) rfl dX7_addCaveat_1 ?_
  refine lv_iload_n hx hb dX7_addCaveat_4 rfl (lv_at hl 1 rfl) ?_
  obtain ⟨hg, hf⟩ := zg_some hf
  refine x_iald hx hb B 9 (by decide) (fun _ => rfl) (zin_ok hg) dX7_addCaveat_5 ?_
  refine lv_iconst (v := (4 : Int32)) hx hb dX7_addCaveat_6 (by decide) ?_
  refine lv_icmp_ge (tgt := 57) hx hb dX7_addCaveat_7 (by decide) (fun hc => ?_) (fun hc => ?_)
  · have hf := zif_t hc hf
    refine W.widen (k := 0) (n := 0) (Nat.le_of_ble_eq_true rfl) (Nat.le_of_ble_eq_true rfl) ?_
    exact x_vret hx hb hr hlocks B hf dX7_addCaveat_57
  · have hf := zif_f hc hf
    refine lv_iload_n hx hb dX7_addCaveat_10 rfl (lv_at hl 1 rfl) ?_
    refine lv_iconst (v := (4 : Int32)) hx hb dX7_addCaveat_11 (by decide) ?_
    refine lv_imul hx hb dX7_addCaveat_12 ?_
    refine lv_aload_n hx hb dX7_addCaveat_13 rfl (lv_at hl 0 rfl) ?_
    refine x_getr hx hb hts hinRX7 hown B 2 7 9 (by decide) (by decide) (fun _ => rfl) rfl rfl (by decide) (by decide +kernel) rfl dX7_addCaveat_14 ?_
    refine lv_iload_n hx hb dX7_addCaveat_17 rfl (lv_at hl 1 rfl) ?_
    obtain ⟨hg, hf⟩ := zg_some hf
    refine x_iald hx hb B 9 (by decide) (fun _ => rfl) (zin_ok hg) dX7_addCaveat_18 ?_
    refine lv_iadd hx hb dX7_addCaveat_19 ?_
    refine lv_istore (lv' := [(5, .int ((a1 * (4 : Int32)) + (σ 9 a1.toNatClampNeg))), (0, .ref (ad 2)), (1, .int a1), (2, .int a2), (3, .int a3), (4, .int a4)]) hx hb dX7_addCaveat_20 hl (by decide) rfl (fun ls hl => ?_)
    refine lv_aload_n hx hb dX7_addCaveat_22 rfl (lv_at hl 1 rfl) ?_
    refine x_getr hx hb hts hinRX7 hown B 2 8 10 (by decide) (by decide) (fun _ => rfl) rfl rfl (by decide) (by decide +kernel) rfl dX7_addCaveat_23 ?_
    refine lv_iload hx hb dX7_addCaveat_26 (lv_at hl 0 rfl) ?_
    refine lv_iload_n hx hb dX7_addCaveat_28 rfl (lv_at hl 3 rfl) ?_
    obtain ⟨hg, hf⟩ := zg_some hf
    refine x_iast hx hb B 10 (by decide) (by decide) (fun _ => rfl) (zin_ok hg) dX7_addCaveat_29 (fun H locs B => ?_)
    refine lv_aload_n hx hb dX7_addCaveat_30 rfl (lv_at hl 1 rfl) ?_
    refine x_getr hx hb hts hinRX7 hown B 2 9 11 (by decide) (by decide) (fun _ => rfl) rfl rfl (by decide) (by decide +kernel) rfl dX7_addCaveat_31 ?_
    refine lv_iload hx hb dX7_addCaveat_34 (lv_at hl 0 rfl) ?_
    refine lv_iload_n hx hb dX7_addCaveat_36 rfl (lv_at hl 4 rfl) ?_
    obtain ⟨hg, hf⟩ := zg_some hf
    refine x_iast hx hb B 11 (by decide) (by decide) (fun _ => rfl) (zin_ok hg) dX7_addCaveat_37 (fun H locs B => ?_)
    refine lv_aload_n hx hb dX7_addCaveat_38 rfl (lv_at hl 1 rfl) ?_
    refine x_getr hx hb hts hinRX7 hown B 2 10 12 (by decide) (by decide) (fun _ => rfl) rfl rfl (by decide) (by decide +kernel) rfl dX7_addCaveat_39 ?_
    refine lv_iload hx hb dX7_addCaveat_42 (lv_at hl 0 rfl) ?_
    refine lv_iload hx hb dX7_addCaveat_44 (lv_at hl 5 rfl) ?_
    obtain ⟨hg, hf⟩ := zg_some hf
    refine x_iast hx hb B 12 (by decide) (by decide) (fun _ => rfl) (zin_ok hg) dX7_addCaveat_46 (fun H locs B => ?_)
    refine lv_aload_n hx hb dX7_addCaveat_47 rfl (lv_at hl 1 rfl) ?_
    refine x_getr hx hb hts hinRX7 hown B 2 7 9 (by decide) (by decide) (fun _ => rfl) rfl rfl (by decide) (by decide +kernel) rfl dX7_addCaveat_48 ?_
    refine lv_iload_n hx hb dX7_addCaveat_51 rfl (lv_at hl 2 rfl) ?_
    refine lv_dup2_11 hx hb dX7_addCaveat_52 rfl rfl ?_
    obtain ⟨hg, hf⟩ := zg_some hf
    refine x_iald hx hb B 9 (by decide) (fun _ => rfl) (zin_ok hg) dX7_addCaveat_53 ?_
    refine lv_iconst (v := (1 : Int32)) hx hb dX7_addCaveat_54 (by decide) ?_
    refine lv_iadd hx hb dX7_addCaveat_55 ?_
    obtain ⟨hg, hf⟩ := zg_some hf
    refine x_iast hx hb B 9 (by decide) (by decide) (fun _ => rfl) (zin_ok hg) dX7_addCaveat_56 (fun H locs B => ?_)
    refine W.widen (k := 0) (n := 0) (Nat.le_of_ble_eq_true rfl) (Nat.le_of_ble_eq_true rfl) ?_
    exact x_vret hx hb hr hlocks B hf dX7_addCaveat_57
theorem dX7_parentOf_0 : decode cX7_parentOf 0 = .ok (.aload_n 0, 1) := by decide +kernel
theorem dX7_parentOf_1 : decode cX7_parentOf 1 = .ok (.getfield 15, 3) := by decide +kernel
theorem dX7_parentOf_4 : decode cX7_parentOf 4 = .ok (.iload_n 1, 1) := by decide +kernel
theorem dX7_parentOf_5 : decode cX7_parentOf 5 = .ok (.iaload, 1) := by decide +kernel
theorem dX7_parentOf_6 : decode cX7_parentOf 6 = .ok (.iconst 1, 1) := by decide +kernel
theorem dX7_parentOf_7 : decode cX7_parentOf 7 = .ok (.if_icmp .le 24, 3) := by decide +kernel
theorem dX7_parentOf_10 : decode cX7_parentOf 10 = .ok (.aload_n 0, 1) := by decide +kernel
theorem dX7_parentOf_11 : decode cX7_parentOf 11 = .ok (.getfield 18, 3) := by decide +kernel
theorem dX7_parentOf_14 : decode cX7_parentOf 14 = .ok (.iload_n 1, 1) := by decide +kernel
theorem dX7_parentOf_15 : decode cX7_parentOf 15 = .ok (.bipush 7, 2) := by decide +kernel
theorem dX7_parentOf_17 : decode cX7_parentOf 17 = .ok (.imul, 1) := by decide +kernel
theorem dX7_parentOf_18 : decode cX7_parentOf 18 = .ok (.aload_n 0, 1) := by decide +kernel
theorem dX7_parentOf_19 : decode cX7_parentOf 19 = .ok (.getfield 15, 3) := by decide +kernel
theorem dX7_parentOf_22 : decode cX7_parentOf 22 = .ok (.iload_n 1, 1) := by decide +kernel
theorem dX7_parentOf_23 : decode cX7_parentOf 23 = .ok (.iaload, 1) := by decide +kernel
theorem dX7_parentOf_24 : decode cX7_parentOf 24 = .ok (.iadd, 1) := by decide +kernel
theorem dX7_parentOf_25 : decode cX7_parentOf 25 = .ok (.iconst 2, 1) := by decide +kernel
theorem dX7_parentOf_26 : decode cX7_parentOf 26 = .ok (.isub, 1) := by decide +kernel
theorem dX7_parentOf_27 : decode cX7_parentOf 27 = .ok (.iaload, 1) := by decide +kernel
theorem dX7_parentOf_28 : decode cX7_parentOf 28 = .ok (.goto 4, 3) := by decide +kernel
theorem dX7_parentOf_31 : decode cX7_parentOf 31 = .ok (.iconst (-1), 1) := by decide +kernel
theorem dX7_parentOf_32 : decode cX7_parentOf 32 = .ok (.ireturn, 1) := by decide +kernel
def rm_X7_parentOf : Room := { frames := 1, cells := 0, slots := 0, locals := 16 }
set_option maxHeartbeats 4000000 in
set_option maxRecDepth 100000 in
theorem c_X7_parentOf (l : Launch) {G : zG} {ad : Nat → Nat} {σ σ' : zs} {a1 : Int32} {r : Int32} (hf : f_X7_parentOf σ a1 = some (r, σ')) : xMi l yX7_parentOf wsX7_parentOf rm_X7_parentOf G ad σ [.ref (ad 2), .int a1] r σ' := by
  intro sz nb a g hs
  refine Met.ofW (cc := cX7_parentOf) (maxL := 2) (ret := (some .int)) (by decide) rfl ?_
  intro p e s m args below meth c s₁ B hml hv
  obtain ⟨rfl, hsz, hv⟩ := hv
  have hx := B.exec
  have hb := B.bytes
  have hr := B.returns
  have hts := atoms_spec (ws := wsX7_parentOf) B.pre
  have hown : s.vm.findClass RX7 = some m.cls := findClass_of_methodNamed B.named
  have hlocks := B.notSynchronized
  subst hsz
  have B := xB_start hs hv
  have hinRX7 : ∀ w ∈ wsX70, w ∈ wsX7_parentOf := by decide +kernel
  have hl := lv_entry ([.ref (ad 2), .int a1]) (n := 2) (Nat.le_of_ble_eq_true rfl)
  rw [lg_entry_eq]
  generalize (lg_sl ([.ref (ad 2), .int a1]) ++ List.replicate (2 - (lg_sl ([.ref (ad 2), .int a1])).length) Slot.unset).toArray = ls at hl ⊢
  have hl : lv_has ls 2 [(0, .ref (ad 2)), (1, .int a1)] := hl
  generalize hAe : xA ad a s.heap.size = A at B ⊢
  unfold f_X7_parentOf at hf
  refine lv_aload_n hx hb dX7_parentOf_0 rfl (lv_at hl 0 rfl) ?_
  refine x_getr hx hb hts hinRX7 hown B 2 2 4 (by decide) (by decide) (fun _ => rfl) rfl rfl (by decide) (by decide +kernel) rfl dX7_parentOf_1 ?_
  refine lv_iload_n hx hb dX7_parentOf_4 rfl (lv_at hl 1 rfl) ?_
  obtain ⟨hg, hf⟩ := zg_some hf
  refine x_iald hx hb B 4 (by decide) (fun _ => rfl) (zin_ok hg) dX7_parentOf_5 ?_
  refine lv_iconst (v := (1 : Int32)) hx hb dX7_parentOf_6 (by decide) ?_
  refine lv_icmp_le (tgt := 31) hx hb dX7_parentOf_7 (by decide) (fun hc => ?_) (fun hc => ?_)
  · have hf := zif_t hc hf
    refine lv_iconst (v := (-1 : Int32)) hx hb dX7_parentOf_31 (by decide) ?_
    refine W.widen (k := 0) (n := 0) (Nat.le_of_ble_eq_true rfl) (Nat.le_of_ble_eq_true rfl) ?_
    exact x_iret hx hb hr rfl hlocks B hf dX7_parentOf_32
  · have hf := zif_f hc hf
    refine lv_aload_n hx hb dX7_parentOf_10 rfl (lv_at hl 0 rfl) ?_
    refine x_getr hx hb hts hinRX7 hown B 2 3 5 (by decide) (by decide) (fun _ => rfl) rfl rfl (by decide) (by decide +kernel) rfl dX7_parentOf_11 ?_
    refine lv_iload_n hx hb dX7_parentOf_14 rfl (lv_at hl 1 rfl) ?_
    refine lv_bipush (v := (7 : Int32)) hx hb dX7_parentOf_15 (by decide) ?_
    refine lv_imul hx hb dX7_parentOf_17 ?_
    refine lv_aload_n hx hb dX7_parentOf_18 rfl (lv_at hl 0 rfl) ?_
    refine x_getr hx hb hts hinRX7 hown B 2 2 4 (by decide) (by decide) (fun _ => rfl) rfl rfl (by decide) (by decide +kernel) rfl dX7_parentOf_19 ?_
    refine lv_iload_n hx hb dX7_parentOf_22 rfl (lv_at hl 1 rfl) ?_
    obtain ⟨hg, hf⟩ := zg_some hf
    refine x_iald hx hb B 4 (by decide) (fun _ => rfl) (zin_ok hg) dX7_parentOf_23 ?_
    refine lv_iadd hx hb dX7_parentOf_24 ?_
    refine lv_iconst (v := (2 : Int32)) hx hb dX7_parentOf_25 (by decide) ?_
    refine lv_isub hx hb dX7_parentOf_26 ?_
    obtain ⟨hg, hf⟩ := zg_some hf
    refine x_iald hx hb B 5 (by decide) (fun _ => rfl) (zin_ok hg) dX7_parentOf_27 ?_
    refine lv_goto (tgt := 32) hx hb dX7_parentOf_28 (by decide) ?_
    refine W.widen (k := 0) (n := 0) (Nat.le_of_ble_eq_true rfl) (Nat.le_of_ble_eq_true rfl) ?_
    exact x_iret hx hb hr rfl hlocks B hf dX7_parentOf_32
theorem dX7_isBelow_0 : decode cX7_isBelow 0 = .ok (.aload_n 0, 1) := by decide +kernel
theorem dX7_isBelow_1 : decode cX7_isBelow 1 = .ok (.getfield 15, 3) := by decide +kernel
theorem dX7_isBelow_4 : decode cX7_isBelow 4 = .ok (.iload_n 1, 1) := by decide +kernel
theorem dX7_isBelow_5 : decode cX7_isBelow 5 = .ok (.iaload, 1) := by decide +kernel
theorem dX7_isBelow_6 : decode cX7_isBelow 6 = .ok (.aload_n 0, 1) := by decide +kernel
theorem dX7_isBelow_7 : decode cX7_isBelow 7 = .ok (.getfield 15, 3) := by decide +kernel
theorem dX7_isBelow_10 : decode cX7_isBelow 10 = .ok (.iload_n 2, 1) := by decide +kernel
theorem dX7_isBelow_11 : decode cX7_isBelow 11 = .ok (.iaload, 1) := by decide +kernel
theorem dX7_isBelow_12 : decode cX7_isBelow 12 = .ok (.if_icmp .lt 29, 3) := by decide +kernel
theorem dX7_isBelow_15 : decode cX7_isBelow 15 = .ok (.aload_n 0, 1) := by decide +kernel
theorem dX7_isBelow_16 : decode cX7_isBelow 16 = .ok (.getfield 18, 3) := by decide +kernel
theorem dX7_isBelow_19 : decode cX7_isBelow 19 = .ok (.iload_n 1, 1) := by decide +kernel
theorem dX7_isBelow_20 : decode cX7_isBelow 20 = .ok (.bipush 7, 2) := by decide +kernel
theorem dX7_isBelow_22 : decode cX7_isBelow 22 = .ok (.imul, 1) := by decide +kernel
theorem dX7_isBelow_23 : decode cX7_isBelow 23 = .ok (.aload_n 0, 1) := by decide +kernel
theorem dX7_isBelow_24 : decode cX7_isBelow 24 = .ok (.getfield 15, 3) := by decide +kernel
theorem dX7_isBelow_27 : decode cX7_isBelow 27 = .ok (.iload_n 2, 1) := by decide +kernel
theorem dX7_isBelow_28 : decode cX7_isBelow 28 = .ok (.iaload, 1) := by decide +kernel
theorem dX7_isBelow_29 : decode cX7_isBelow 29 = .ok (.iadd, 1) := by decide +kernel
theorem dX7_isBelow_30 : decode cX7_isBelow 30 = .ok (.iconst 1, 1) := by decide +kernel
theorem dX7_isBelow_31 : decode cX7_isBelow 31 = .ok (.isub, 1) := by decide +kernel
theorem dX7_isBelow_32 : decode cX7_isBelow 32 = .ok (.iaload, 1) := by decide +kernel
theorem dX7_isBelow_33 : decode cX7_isBelow 33 = .ok (.iload_n 2, 1) := by decide +kernel
theorem dX7_isBelow_34 : decode cX7_isBelow 34 = .ok (.if_icmp .ne 7, 3) := by decide +kernel
theorem dX7_isBelow_37 : decode cX7_isBelow 37 = .ok (.iconst 1, 1) := by decide +kernel
theorem dX7_isBelow_38 : decode cX7_isBelow 38 = .ok (.goto 4, 3) := by decide +kernel
theorem dX7_isBelow_41 : decode cX7_isBelow 41 = .ok (.iconst 0, 1) := by decide +kernel
theorem dX7_isBelow_42 : decode cX7_isBelow 42 = .ok (.ireturn, 1) := by decide +kernel
def rm_X7_isBelow : Room := { frames := 1, cells := 0, slots := 0, locals := 16 }
set_option maxHeartbeats 4000000 in
set_option maxRecDepth 100000 in
theorem c_X7_isBelow (l : Launch) {G : zG} {ad : Nat → Nat} {σ σ' : zs} {a1 a2 : Int32} {r : Int32} (hf : f_X7_isBelow σ a1 a2 = some (r, σ')) : xMi l yX7_isBelow wsX7_isBelow rm_X7_isBelow G ad σ [.ref (ad 2), .int a1, .int a2] r σ' := by
  intro sz nb a g hs
  refine Met.ofW (cc := cX7_isBelow) (maxL := 3) (ret := (some .boolean)) (by decide) rfl ?_
  intro p e s m args below meth c s₁ B hml hv
  obtain ⟨rfl, hsz, hv⟩ := hv
  have hx := B.exec
  have hb := B.bytes
  have hr := B.returns
  have hts := atoms_spec (ws := wsX7_isBelow) B.pre
  have hown : s.vm.findClass RX7 = some m.cls := findClass_of_methodNamed B.named
  have hlocks := B.notSynchronized
  subst hsz
  have B := xB_start hs hv
  have hinRX7 : ∀ w ∈ wsX70, w ∈ wsX7_isBelow := by decide +kernel
  have hl := lv_entry ([.ref (ad 2), .int a1, .int a2]) (n := 3) (Nat.le_of_ble_eq_true rfl)
  rw [lg_entry_eq]
  generalize (lg_sl ([.ref (ad 2), .int a1, .int a2]) ++ List.replicate (3 - (lg_sl ([.ref (ad 2), .int a1, .int a2])).length) Slot.unset).toArray = ls at hl ⊢
  have hl : lv_has ls 3 [(0, .ref (ad 2)), (1, .int a1), (2, .int a2)] := hl
  generalize hAe : xA ad a s.heap.size = A at B ⊢
  unfold f_X7_isBelow at hf
  refine lv_aload_n hx hb dX7_isBelow_0 rfl (lv_at hl 0 rfl) ?_
  refine x_getr hx hb hts hinRX7 hown B 2 2 4 (by decide) (by decide) (fun _ => rfl) rfl rfl (by decide) (by decide +kernel) rfl dX7_isBelow_1 ?_
  refine lv_iload_n hx hb dX7_isBelow_4 rfl (lv_at hl 1 rfl) ?_
  obtain ⟨hg, hf⟩ := zg_some hf
  refine x_iald hx hb B 4 (by decide) (fun _ => rfl) (zin_ok hg) dX7_isBelow_5 ?_
  refine lv_aload_n hx hb dX7_isBelow_6 rfl (lv_at hl 0 rfl) ?_
  refine x_getr hx hb hts hinRX7 hown B 2 2 4 (by decide) (by decide) (fun _ => rfl) rfl rfl (by decide) (by decide +kernel) rfl dX7_isBelow_7 ?_
  refine lv_iload_n hx hb dX7_isBelow_10 rfl (lv_at hl 2 rfl) ?_
  obtain ⟨hg, hf⟩ := zg_some hf
  refine x_iald hx hb B 4 (by decide) (fun _ => rfl) (zin_ok hg) dX7_isBelow_11 ?_
  refine lv_icmp_lt (tgt := 41) hx hb dX7_isBelow_12 (by decide) (fun hc => ?_) (fun hc => ?_)
  · have hf := zif_t hc hf
    refine lv_iconst (v := (0 : Int32)) hx hb dX7_isBelow_41 (by decide) ?_
    refine W.widen (k := 0) (n := 0) (Nat.le_of_ble_eq_true rfl) (Nat.le_of_ble_eq_true rfl) ?_
    exact x_iret hx hb hr (by decide) hlocks B hf dX7_isBelow_42
  · have hf := zif_f hc hf
    refine lv_aload_n hx hb dX7_isBelow_15 rfl (lv_at hl 0 rfl) ?_
    refine x_getr hx hb hts hinRX7 hown B 2 3 5 (by decide) (by decide) (fun _ => rfl) rfl rfl (by decide) (by decide +kernel) rfl dX7_isBelow_16 ?_
    refine lv_iload_n hx hb dX7_isBelow_19 rfl (lv_at hl 1 rfl) ?_
    refine lv_bipush (v := (7 : Int32)) hx hb dX7_isBelow_20 (by decide) ?_
    refine lv_imul hx hb dX7_isBelow_22 ?_
    refine lv_aload_n hx hb dX7_isBelow_23 rfl (lv_at hl 0 rfl) ?_
    refine x_getr hx hb hts hinRX7 hown B 2 2 4 (by decide) (by decide) (fun _ => rfl) rfl rfl (by decide) (by decide +kernel) rfl dX7_isBelow_24 ?_
    refine lv_iload_n hx hb dX7_isBelow_27 rfl (lv_at hl 2 rfl) ?_
    obtain ⟨hg, hf⟩ := zg_some hf
    refine x_iald hx hb B 4 (by decide) (fun _ => rfl) (zin_ok hg) dX7_isBelow_28 ?_
    refine lv_iadd hx hb dX7_isBelow_29 ?_
    refine lv_iconst (v := (1 : Int32)) hx hb dX7_isBelow_30 (by decide) ?_
    refine lv_isub hx hb dX7_isBelow_31 ?_
    obtain ⟨hg, hf⟩ := zg_some hf
    refine x_iald hx hb B 5 (by decide) (fun _ => rfl) (zin_ok hg) dX7_isBelow_32 ?_
    refine lv_iload_n hx hb dX7_isBelow_33 rfl (lv_at hl 2 rfl) ?_
    refine lv_icmp_ne (tgt := 41) hx hb dX7_isBelow_34 (by decide) (fun hc => ?_) (fun hc => ?_)
    · have hf := zif_f hc hf
      refine lv_iconst (v := (0 : Int32)) hx hb dX7_isBelow_41 (by decide) ?_
      refine W.widen (k := 0) (n := 0) (Nat.le_of_ble_eq_true rfl) (Nat.le_of_ble_eq_true rfl) ?_
      exact x_iret hx hb hr (by decide) hlocks B hf dX7_isBelow_42
    · have hf := zif_t hc hf
      refine lv_iconst (v := (1 : Int32)) hx hb dX7_isBelow_37 (by decide) ?_
      refine lv_goto (tgt := 42) hx hb dX7_isBelow_38 (by decide) ?_
      refine W.widen (k := 0) (n := 0) (Nat.le_of_ble_eq_true rfl) (Nat.le_of_ble_eq_true rfl) ?_
      exact x_iret hx hb hr (by decide) hlocks B hf dX7_isBelow_42
theorem dX7_setBelow_0 : decode cX7_setBelow 0 = .ok (.iconst 0, 1) := by decide +kernel
theorem dX7_setBelow_1 : decode cX7_setBelow 1 = .ok (.istore_n 2, 1) := by decide +kernel
theorem dX7_setBelow_2 : decode cX7_setBelow 2 = .ok (.iconst 0, 1) := by decide +kernel
theorem dX7_setBelow_3 : decode cX7_setBelow 3 = .ok (.istore_n 3, 1) := by decide +kernel
theorem dX7_setBelow_4 : decode cX7_setBelow 4 = .ok (.iload_n 3, 1) := by decide +kernel
theorem dX7_setBelow_5 : decode cX7_setBelow 5 = .ok (.aload_n 0, 1) := by decide +kernel
theorem dX7_setBelow_6 : decode cX7_setBelow 6 = .ok (.getfield 49, 3) := by decide +kernel
theorem dX7_setBelow_9 : decode cX7_setBelow 9 = .ok (.if_icmp .ge 24, 3) := by decide +kernel
theorem dX7_setBelow_12 : decode cX7_setBelow 12 = .ok (.aload_n 0, 1) := by decide +kernel
theorem dX7_setBelow_13 : decode cX7_setBelow 13 = .ok (.iload_n 3, 1) := by decide +kernel
theorem dX7_setBelow_14 : decode cX7_setBelow 14 = .ok (.iload_n 1, 1) := by decide +kernel
theorem dX7_setBelow_15 : decode cX7_setBelow 15 = .ok (.invokevirtual 67, 3) := by decide +kernel
theorem dX7_setBelow_18 : decode cX7_setBelow 18 = .ok (.ifCond .eq 9, 3) := by decide +kernel
theorem dX7_setBelow_21 : decode cX7_setBelow 21 = .ok (.iload_n 2, 1) := by decide +kernel
theorem dX7_setBelow_22 : decode cX7_setBelow 22 = .ok (.iconst 1, 1) := by decide +kernel
theorem dX7_setBelow_23 : decode cX7_setBelow 23 = .ok (.iload_n 3, 1) := by decide +kernel
theorem dX7_setBelow_24 : decode cX7_setBelow 24 = .ok (.ishl, 1) := by decide +kernel
theorem dX7_setBelow_25 : decode cX7_setBelow 25 = .ok (.ior, 1) := by decide +kernel
theorem dX7_setBelow_26 : decode cX7_setBelow 26 = .ok (.istore_n 2, 1) := by decide +kernel
theorem dX7_setBelow_27 : decode cX7_setBelow 27 = .ok (.iinc 3 1, 3) := by decide +kernel
theorem dX7_setBelow_30 : decode cX7_setBelow 30 = .ok (.goto (-26), 3) := by decide +kernel
theorem dX7_setBelow_33 : decode cX7_setBelow 33 = .ok (.iload_n 2, 1) := by decide +kernel
theorem dX7_setBelow_34 : decode cX7_setBelow 34 = .ok (.ireturn, 1) := by decide +kernel
set_option maxRecDepth 20000 in
theorem ggX7_setBelow_X7_isBelow : GoodIn wsX7_setBelow wsX7_isBelow := goodIn_ca (goodIn_r _ [6, 7, 8, 9, 10, 11, 12, 13, 14, 15, 16, 17, 18, 19, 20] (by decide +kernel) (by decide +kernel)) (goodIn_sub (fun _ h => List.mem_cons_of_mem _ (List.mem_append_right _ h)) (by decide +kernel))
set_option maxRecDepth 20000 in
theorem gX7_setBelow_X7_isBelow : GoodIn wsX7_setBelow (wsV RX7 67 RX7 yX7_isBelow wsX7_isBelow) := goodIn_app (goodIn_of _ (by decide +kernel)) ggX7_setBelow_X7_isBelow
def rm_X7_setBelow : Room := { frames := 2, cells := 0, slots := 0, locals := 38 }
set_option maxHeartbeats 4000000 in
set_option maxRecDepth 100000 in
theorem c_X7_setBelow (l : Launch) {G : zG} {ad : Nat → Nat} {σ σ' : zs} {a1 : Int32} {r : Int32} (hf : f_X7_setBelow σ a1 = some (r, σ')) : xMi l yX7_setBelow wsX7_setBelow rm_X7_setBelow G ad σ [.ref (ad 2), .int a1] r σ' := by
  intro sz nb a g hs
  refine Met.ofW (cc := cX7_setBelow) (maxL := 4) (ret := (some .int)) (by decide) rfl ?_
  intro p e s m args below meth c s₁ B hml hv
  obtain ⟨rfl, hsz, hv⟩ := hv
  have hx := B.exec
  have hb := B.bytes
  have hr := B.returns
  have hts := atoms_spec (ws := wsX7_setBelow) B.pre
  have hown : s.vm.findClass RX7 = some m.cls := findClass_of_methodNamed B.named
  have hlocks := B.notSynchronized
  subst hsz
  have B := xB_start hs hv
  have hinRX7 : ∀ w ∈ wsX70, w ∈ wsX7_setBelow := by decide +kernel
  have hl := lv_entry ([.ref (ad 2), .int a1]) (n := 4) (Nat.le_of_ble_eq_true rfl)
  rw [lg_entry_eq]
  generalize (lg_sl ([.ref (ad 2), .int a1]) ++ List.replicate (4 - (lg_sl ([.ref (ad 2), .int a1])).length) Slot.unset).toArray = ls at hl ⊢
  have hl : lv_has ls 4 [(0, .ref (ad 2)), (1, .int a1)] := hl
  generalize hAe : xA ad a s.heap.size = A at B ⊢
  have L4 : ∀ (n : Nat) (σ : zs) (v1 : Int32) (v2 : Int32) (v3 : Int32) (H : Heap) (locs : List Loc) (ls : Array Slot), zlp3 (f_X7_setBelow_4) n σ v1 v2 v3 = some (r, σ') → xB A s G ad σ H locs → lv_has ls 4 [(0, .ref (ad 2)), (1, .int v1), (2, .int v2), (3, .int v3)] → W p l e (headSpec wsX7_setBelow rm_X7_setBelow).room s m ([.ref (ad 2), .int a1] : List Value).toArray below meth c H locs 0 0 (MQ below (va_Qi (fun r' (u : xV) => r' = r ∧ xQ σ' u) (xPost G ad σ' A) A) ([.ref (ad 2), .int a1] : List Value).toArray s 0 0 A) (F0 m 4 ls []) := by
    intro n
    induction n with
    | zero =>
      intro σ v1 v2 v3 H locs ls hf
      cases hf
    | succ n ih =>
      intro σ v1 v2 v3 H locs ls hf B hl
      have hf : f_X7_setBelow_4 (zlp3 (f_X7_setBelow_4) n) σ v1 v2 v3 = some (r, σ') := hf
      unfold f_X7_setBelow_4 at hf
      refine lv_iload_n hx hb dX7_setBelow_4 rfl (lv_at hl 3 rfl) ?_
      refine lv_aload_n hx hb dX7_setBelow_5 rfl (lv_at hl 0 rfl) ?_
      refine x_geti hx hb hts hinRX7 hown B 2 0 (by decide) (fun _ => rfl) rfl rfl (by decide) (by decide +kernel) rfl dX7_setBelow_6 ?_
      refine lv_icmp_ge (tgt := 33) hx hb dX7_setBelow_9 (by decide) (fun hc => ?_) (fun hc => ?_)
      · have hf := zif_t hc hf
        refine lv_iload_n hx hb dX7_setBelow_33 rfl (lv_at hl 2 rfl) ?_
        refine W.widen (k := 0) (n := 0) (Nat.le_of_ble_eq_true rfl) (Nat.le_of_ble_eq_true rfl) ?_
        exact x_iret hx hb hr rfl hlocks B hf dX7_setBelow_34
      · have hf := zif_f hc hf
        refine lv_aload_n hx hb dX7_setBelow_12 rfl (lv_at hl 0 rfl) ?_
        refine lv_iload_n hx hb dX7_setBelow_13 rfl (lv_at hl 3 rfl) ?_
        refine lv_iload_n hx hb dX7_setBelow_14 rfl (lv_at hl 1 rfl) ?_
        obtain ⟨r2, σ3, hu1, hf⟩ := zb_some hf
        refine x_i B (fun nb a g hs Bz => va_runV (As := [.int v3, .int v1]) (rest := []) ⟨hx, hb, hml, hown, hts⟩ (c_X7_isBelow l hu1 _ nb a g hs) (cwV 2 hts gX7_setBelow_X7_isBelow rfl rfl rfl (by decide +kernel) ⟨Nat.le_of_ble_eq_true rfl, Nat.le_of_ble_eq_true rfl⟩) (x_preV Bz (by decide) (fun _ => rfl) rfl) rfl rfl hl.1 rfl (lv_room (Nat.le_of_ble_eq_true rfl)) dX7_setBelow_15 ⟨Nat.le_of_ble_eq_true rfl, Nat.le_of_ble_eq_true rfl⟩) (fun H locs B => ?_)
        refine lv_if_eq (tgt := 27) hx hb dX7_setBelow_18 (by decide) (fun hc => ?_) (fun hc => ?_)
        · have hf := zif_t hc hf
          refine lv_iinc (v := (v3 + (1 : Int32))) (lv' := [(3, .int (v3 + (1 : Int32))), (0, .ref (ad 2)), (1, .int v1), (2, .int v2)]) hx hb dX7_setBelow_27 hl (k := 3) rfl (zc1 (by decide)) (by decide) rfl (fun ls hl => ?_)
          refine lv_goto (tgt := 4) hx hb dX7_setBelow_30 (by decide) ?_
          exact ih _ _ _ _ _ _ _ hf B (lv_sub hl [1, 2, 3, 0] rfl)
        · have hf := zif_f hc hf
          refine lv_iload_n hx hb dX7_setBelow_21 rfl (lv_at hl 2 rfl) ?_
          refine lv_iconst (v := (1 : Int32)) hx hb dX7_setBelow_22 (by decide) ?_
          refine lv_iload_n hx hb dX7_setBelow_23 rfl (lv_at hl 3 rfl) ?_
          refine lv_ishl hx hb dX7_setBelow_24 ?_
          refine lv_ior hx hb dX7_setBelow_25 ?_
          refine lv_istore_n (lv' := [(2, .int (v2 ||| ((1 : Int32) <<< (v3 &&& 31)))), (0, .ref (ad 2)), (1, .int v1), (3, .int v3)]) hx hb dX7_setBelow_26 rfl hl (by decide) rfl (fun ls hl => ?_)
          refine lv_iinc (v := (v3 + (1 : Int32))) (lv' := [(3, .int (v3 + (1 : Int32))), (2, .int (v2 ||| ((1 : Int32) <<< (v3 &&& 31)))), (0, .ref (ad 2)), (1, .int v1)]) hx hb dX7_setBelow_27 hl (k := 3) rfl (zc1 (by decide)) (by decide) rfl (fun ls hl => ?_)
          refine lv_goto (tgt := 4) hx hb dX7_setBelow_30 (by decide) ?_
          exact ih _ _ _ _ _ _ _ hf B (lv_sub hl [2, 3, 1, 0] rfl)
  unfold f_X7_setBelow at hf
  refine lv_iconst (v := (0 : Int32)) hx hb dX7_setBelow_0 (by decide) ?_
  refine lv_istore_n (lv' := [(2, .int (0 : Int32)), (0, .ref (ad 2)), (1, .int a1)]) hx hb dX7_setBelow_1 rfl hl (by decide) rfl (fun ls hl => ?_)
  refine lv_iconst (v := (0 : Int32)) hx hb dX7_setBelow_2 (by decide) ?_
  refine lv_istore_n (lv' := [(3, .int (0 : Int32)), (2, .int (0 : Int32)), (0, .ref (ad 2)), (1, .int a1)]) hx hb dX7_setBelow_3 rfl hl (by decide) rfl (fun ls hl => ?_)
  exact L4  _ _ _ _ _ _ _ _ hf B (lv_sub hl [2, 3, 1, 0] rfl)
theorem dX7_setHeldBy_0 : decode cX7_setHeldBy 0 = .ok (.iconst 0, 1) := by decide +kernel
theorem dX7_setHeldBy_1 : decode cX7_setHeldBy 1 = .ok (.istore_n 2, 1) := by decide +kernel
theorem dX7_setHeldBy_2 : decode cX7_setHeldBy 2 = .ok (.iconst 0, 1) := by decide +kernel
theorem dX7_setHeldBy_3 : decode cX7_setHeldBy 3 = .ok (.istore_n 3, 1) := by decide +kernel
theorem dX7_setHeldBy_4 : decode cX7_setHeldBy 4 = .ok (.iload_n 3, 1) := by decide +kernel
theorem dX7_setHeldBy_5 : decode cX7_setHeldBy 5 = .ok (.aload_n 0, 1) := by decide +kernel
theorem dX7_setHeldBy_6 : decode cX7_setHeldBy 6 = .ok (.getfield 49, 3) := by decide +kernel
theorem dX7_setHeldBy_9 : decode cX7_setHeldBy 9 = .ok (.if_icmp .ge 28, 3) := by decide +kernel
theorem dX7_setHeldBy_12 : decode cX7_setHeldBy 12 = .ok (.aload_n 0, 1) := by decide +kernel
theorem dX7_setHeldBy_13 : decode cX7_setHeldBy 13 = .ok (.getfield 21, 3) := by decide +kernel
theorem dX7_setHeldBy_16 : decode cX7_setHeldBy 16 = .ok (.iload_n 3, 1) := by decide +kernel
theorem dX7_setHeldBy_17 : decode cX7_setHeldBy 17 = .ok (.iaload, 1) := by decide +kernel
theorem dX7_setHeldBy_18 : decode cX7_setHeldBy 18 = .ok (.iload_n 1, 1) := by decide +kernel
theorem dX7_setHeldBy_19 : decode cX7_setHeldBy 19 = .ok (.invokestatic 71, 3) := by decide +kernel
theorem dX7_setHeldBy_22 : decode cX7_setHeldBy 22 = .ok (.ifCond .eq 9, 3) := by decide +kernel
theorem dX7_setHeldBy_25 : decode cX7_setHeldBy 25 = .ok (.iload_n 2, 1) := by decide +kernel
theorem dX7_setHeldBy_26 : decode cX7_setHeldBy 26 = .ok (.iconst 1, 1) := by decide +kernel
theorem dX7_setHeldBy_27 : decode cX7_setHeldBy 27 = .ok (.iload_n 3, 1) := by decide +kernel
theorem dX7_setHeldBy_28 : decode cX7_setHeldBy 28 = .ok (.ishl, 1) := by decide +kernel
theorem dX7_setHeldBy_29 : decode cX7_setHeldBy 29 = .ok (.ior, 1) := by decide +kernel
theorem dX7_setHeldBy_30 : decode cX7_setHeldBy 30 = .ok (.istore_n 2, 1) := by decide +kernel
theorem dX7_setHeldBy_31 : decode cX7_setHeldBy 31 = .ok (.iinc 3 1, 3) := by decide +kernel
theorem dX7_setHeldBy_34 : decode cX7_setHeldBy 34 = .ok (.goto (-30), 3) := by decide +kernel
theorem dX7_setHeldBy_37 : decode cX7_setHeldBy 37 = .ok (.iload_n 2, 1) := by decide +kernel
theorem dX7_setHeldBy_38 : decode cX7_setHeldBy 38 = .ok (.ireturn, 1) := by decide +kernel
set_option maxRecDepth 20000 in
theorem ggX7_setHeldBy_X8_hasBit : GoodIn wsX7_setHeldBy wsX8_hasBit := goodIn_r _ [5] (by decide +kernel) (by decide +kernel)
set_option maxRecDepth 20000 in
theorem gX7_setHeldBy_X8_hasBit_n71 : GoodIn wsX7_setHeldBy (wsX8_hasBit) := ggX7_setHeldBy_X8_hasBit
def rm_X7_setHeldBy : Room := { frames := 2, cells := 0, slots := 0, locals := 37 }
set_option maxHeartbeats 4000000 in
set_option maxRecDepth 100000 in
theorem c_X7_setHeldBy (l : Launch) {G : zG} {ad : Nat → Nat} {σ σ' : zs} {a1 : Int32} {r : Int32} (hf : f_X7_setHeldBy σ a1 = some (r, σ')) : xMi l yX7_setHeldBy wsX7_setHeldBy rm_X7_setHeldBy G ad σ [.ref (ad 2), .int a1] r σ' := by
  intro sz nb a g hs
  refine Met.ofW (cc := cX7_setHeldBy) (maxL := 4) (ret := (some .int)) (by decide) rfl ?_
  intro p e s m args below meth c s₁ B hml hv
  obtain ⟨rfl, hsz, hv⟩ := hv
  have hx := B.exec
  have hb := B.bytes
  have hr := B.returns
  have hts := atoms_spec (ws := wsX7_setHeldBy) B.pre
  have hown : s.vm.findClass RX7 = some m.cls := findClass_of_methodNamed B.named
  have hlocks := B.notSynchronized
  subst hsz
  have B := xB_start hs hv
  have hinRX7 : ∀ w ∈ wsX70, w ∈ wsX7_setHeldBy := by decide +kernel
  have hl := lv_entry ([.ref (ad 2), .int a1]) (n := 4) (Nat.le_of_ble_eq_true rfl)
  rw [lg_entry_eq]
  generalize (lg_sl ([.ref (ad 2), .int a1]) ++ List.replicate (4 - (lg_sl ([.ref (ad 2), .int a1])).length) Slot.unset).toArray = ls at hl ⊢
  have hl : lv_has ls 4 [(0, .ref (ad 2)), (1, .int a1)] := hl
  generalize hAe : xA ad a s.heap.size = A at B ⊢
  have L4 : ∀ (n : Nat) (σ : zs) (v1 : Int32) (v2 : Int32) (v3 : Int32) (H : Heap) (locs : List Loc) (ls : Array Slot), zlp3 (f_X7_setHeldBy_4) n σ v1 v2 v3 = some (r, σ') → xB A s G ad σ H locs → lv_has ls 4 [(0, .ref (ad 2)), (1, .int v1), (2, .int v2), (3, .int v3)] → W p l e (headSpec wsX7_setHeldBy rm_X7_setHeldBy).room s m ([.ref (ad 2), .int a1] : List Value).toArray below meth c H locs 0 0 (MQ below (va_Qi (fun r' (u : xV) => r' = r ∧ xQ σ' u) (xPost G ad σ' A) A) ([.ref (ad 2), .int a1] : List Value).toArray s 0 0 A) (F0 m 4 ls []) := by
    intro n
    induction n with
    | zero =>
      intro σ v1 v2 v3 H locs ls hf
      cases hf
    | succ n ih =>
      intro σ v1 v2 v3 H locs ls hf B hl
      have hf : f_X7_setHeldBy_4 (zlp3 (f_X7_setHeldBy_4) n) σ v1 v2 v3 = some (r, σ') := hf
      unfold f_X7_setHeldBy_4 at hf
      refine lv_iload_n hx hb dX7_setHeldBy_4 rfl (lv_at hl 3 rfl) ?_
      refine lv_aload_n hx hb dX7_setHeldBy_5 rfl (lv_at hl 0 rfl) ?_
      refine x_geti hx hb hts hinRX7 hown B 2 0 (by decide) (fun _ => rfl) rfl rfl (by decide) (by decide +kernel) rfl dX7_setHeldBy_6 ?_
      refine lv_icmp_ge (tgt := 37) hx hb dX7_setHeldBy_9 (by decide) (fun hc => ?_) (fun hc => ?_)
      · have hf := zif_t hc hf
        refine lv_iload_n hx hb dX7_setHeldBy_37 rfl (lv_at hl 2 rfl) ?_
        refine W.widen (k := 0) (n := 0) (Nat.le_of_ble_eq_true rfl) (Nat.le_of_ble_eq_true rfl) ?_
        exact x_iret hx hb hr rfl hlocks B hf dX7_setHeldBy_38
      · have hf := zif_f hc hf
        refine lv_aload_n hx hb dX7_setHeldBy_12 rfl (lv_at hl 0 rfl) ?_
        refine x_getr hx hb hts hinRX7 hown B 2 4 6 (by decide) (by decide) (fun _ => rfl) rfl rfl (by decide) (by decide +kernel) rfl dX7_setHeldBy_13 ?_
        refine lv_iload_n hx hb dX7_setHeldBy_16 rfl (lv_at hl 3 rfl) ?_
        obtain ⟨hg, hf⟩ := zg_some hf
        refine x_iald hx hb B 6 (by decide) (fun _ => rfl) (zin_ok hg) dX7_setHeldBy_17 ?_
        refine lv_iload_n hx hb dX7_setHeldBy_18 rfl (lv_at hl 1 rfl) ?_
        obtain ⟨r2, σ3, hu1, hf⟩ := zb_some hf
        refine x_i B (fun nb a g hs Bz => va_runSN (As := [.int (σ 6 v3.toNatClampNeg), .int v1]) (rest := []) ⟨hx, hb, hml, hown, hts⟩ (c_X8_hasBit l hu1 _ nb a g hs) ⟨va_cnB 2 hts gX7_setHeldBy_X8_hasBit_n71 rfl rfl rfl (x_nest B (q := (RX7, 71, yX8_hasBit)) (by decide +kernel)) (hts (.initialized RX8) (by decide +kernel)) (by decide +kernel) ⟨Nat.le_of_ble_eq_true rfl, Nat.le_of_ble_eq_true rfl⟩, hts (.static yX8_hasBit) (by decide +kernel), trivial⟩ (z_preS Bz) rfl rfl hl.1 rfl (lv_room (Nat.le_of_ble_eq_true rfl)) dX7_setHeldBy_19 ⟨Nat.le_of_ble_eq_true rfl, Nat.le_of_ble_eq_true rfl⟩) (fun H locs B => ?_)
        refine lv_if_eq (tgt := 31) hx hb dX7_setHeldBy_22 (by decide) (fun hc => ?_) (fun hc => ?_)
        · have hf := zif_t hc hf
          refine lv_iinc (v := (v3 + (1 : Int32))) (lv' := [(3, .int (v3 + (1 : Int32))), (0, .ref (ad 2)), (1, .int v1), (2, .int v2)]) hx hb dX7_setHeldBy_31 hl (k := 3) rfl (zc1 (by decide)) (by decide) rfl (fun ls hl => ?_)
          refine lv_goto (tgt := 4) hx hb dX7_setHeldBy_34 (by decide) ?_
          exact ih _ _ _ _ _ _ _ hf B (lv_sub hl [1, 2, 3, 0] rfl)
        · have hf := zif_f hc hf
          refine lv_iload_n hx hb dX7_setHeldBy_25 rfl (lv_at hl 2 rfl) ?_
          refine lv_iconst (v := (1 : Int32)) hx hb dX7_setHeldBy_26 (by decide) ?_
          refine lv_iload_n hx hb dX7_setHeldBy_27 rfl (lv_at hl 3 rfl) ?_
          refine lv_ishl hx hb dX7_setHeldBy_28 ?_
          refine lv_ior hx hb dX7_setHeldBy_29 ?_
          refine lv_istore_n (lv' := [(2, .int (v2 ||| ((1 : Int32) <<< (v3 &&& 31)))), (0, .ref (ad 2)), (1, .int v1), (3, .int v3)]) hx hb dX7_setHeldBy_30 rfl hl (by decide) rfl (fun ls hl => ?_)
          refine lv_iinc (v := (v3 + (1 : Int32))) (lv' := [(3, .int (v3 + (1 : Int32))), (2, .int (v2 ||| ((1 : Int32) <<< (v3 &&& 31)))), (0, .ref (ad 2)), (1, .int v1)]) hx hb dX7_setHeldBy_31 hl (k := 3) rfl (zc1 (by decide)) (by decide) rfl (fun ls hl => ?_)
          refine lv_goto (tgt := 4) hx hb dX7_setHeldBy_34 (by decide) ?_
          exact ih _ _ _ _ _ _ _ hf B (lv_sub hl [2, 3, 1, 0] rfl)
  unfold f_X7_setHeldBy at hf
  refine lv_iconst (v := (0 : Int32)) hx hb dX7_setHeldBy_0 (by decide) ?_
  refine lv_istore_n (lv' := [(2, .int (0 : Int32)), (0, .ref (ad 2)), (1, .int a1)]) hx hb dX7_setHeldBy_1 rfl hl (by decide) rfl (fun ls hl => ?_)
  refine lv_iconst (v := (0 : Int32)) hx hb dX7_setHeldBy_2 (by decide) ?_
  refine lv_istore_n (lv' := [(3, .int (0 : Int32)), (2, .int (0 : Int32)), (0, .ref (ad 2)), (1, .int a1)]) hx hb dX7_setHeldBy_3 rfl hl (by decide) rfl (fun ls hl => ?_)
  exact L4  _ _ _ _ _ _ _ _ hf B (lv_sub hl [2, 3, 1, 0] rfl)
theorem dX7_isEnded_0 : decode cX7_isEnded 0 = .ok (.iconst 0, 1) := by decide +kernel
theorem dX7_isEnded_1 : decode cX7_isEnded 1 = .ok (.istore_n 2, 1) := by decide +kernel
theorem dX7_isEnded_2 : decode cX7_isEnded 2 = .ok (.iload_n 2, 1) := by decide +kernel
theorem dX7_isEnded_3 : decode cX7_isEnded 3 = .ok (.aload_n 0, 1) := by decide +kernel
theorem dX7_isEnded_4 : decode cX7_isEnded 4 = .ok (.getfield 15, 3) := by decide +kernel
theorem dX7_isEnded_7 : decode cX7_isEnded 7 = .ok (.iload_n 1, 1) := by decide +kernel
theorem dX7_isEnded_8 : decode cX7_isEnded 8 = .ok (.iaload, 1) := by decide +kernel
theorem dX7_isEnded_9 : decode cX7_isEnded 9 = .ok (.if_icmp .ge 31, 3) := by decide +kernel
theorem dX7_isEnded_12 : decode cX7_isEnded 12 = .ok (.aload_n 0, 1) := by decide +kernel
theorem dX7_isEnded_13 : decode cX7_isEnded 13 = .ok (.getfield 27, 3) := by decide +kernel
theorem dX7_isEnded_16 : decode cX7_isEnded 16 = .ok (.aload_n 0, 1) := by decide +kernel
theorem dX7_isEnded_17 : decode cX7_isEnded 17 = .ok (.getfield 18, 3) := by decide +kernel
theorem dX7_isEnded_20 : decode cX7_isEnded 20 = .ok (.iload_n 1, 1) := by decide +kernel
theorem dX7_isEnded_21 : decode cX7_isEnded 21 = .ok (.bipush 7, 2) := by decide +kernel
theorem dX7_isEnded_23 : decode cX7_isEnded 23 = .ok (.imul, 1) := by decide +kernel
theorem dX7_isEnded_24 : decode cX7_isEnded 24 = .ok (.iload_n 2, 1) := by decide +kernel
theorem dX7_isEnded_25 : decode cX7_isEnded 25 = .ok (.iadd, 1) := by decide +kernel
theorem dX7_isEnded_26 : decode cX7_isEnded 26 = .ok (.iaload, 1) := by decide +kernel
theorem dX7_isEnded_27 : decode cX7_isEnded 27 = .ok (.iaload, 1) := by decide +kernel
theorem dX7_isEnded_28 : decode cX7_isEnded 28 = .ok (.iconst (-1), 1) := by decide +kernel
theorem dX7_isEnded_29 : decode cX7_isEnded 29 = .ok (.if_icmp .eq 5, 3) := by decide +kernel
theorem dX7_isEnded_32 : decode cX7_isEnded 32 = .ok (.iconst 1, 1) := by decide +kernel
theorem dX7_isEnded_33 : decode cX7_isEnded 33 = .ok (.ireturn, 1) := by decide +kernel
theorem dX7_isEnded_34 : decode cX7_isEnded 34 = .ok (.iinc 2 1, 3) := by decide +kernel
theorem dX7_isEnded_37 : decode cX7_isEnded 37 = .ok (.goto (-35), 3) := by decide +kernel
theorem dX7_isEnded_40 : decode cX7_isEnded 40 = .ok (.iconst 0, 1) := by decide +kernel
theorem dX7_isEnded_41 : decode cX7_isEnded 41 = .ok (.ireturn, 1) := by decide +kernel
def rm_X7_isEnded : Room := { frames := 1, cells := 0, slots := 0, locals := 16 }
set_option maxHeartbeats 4000000 in
set_option maxRecDepth 100000 in
theorem c_X7_isEnded (l : Launch) {G : zG} {ad : Nat → Nat} {σ σ' : zs} {a1 : Int32} {r : Int32} (hf : f_X7_isEnded σ a1 = some (r, σ')) : xMi l yX7_isEnded wsX7_isEnded rm_X7_isEnded G ad σ [.ref (ad 2), .int a1] r σ' := by
  intro sz nb a g hs
  refine Met.ofW (cc := cX7_isEnded) (maxL := 3) (ret := (some .boolean)) (by decide) rfl ?_
  intro p e s m args below meth c s₁ B hml hv
  obtain ⟨rfl, hsz, hv⟩ := hv
  have hx := B.exec
  have hb := B.bytes
  have hr := B.returns
  have hts := atoms_spec (ws := wsX7_isEnded) B.pre
  have hown : s.vm.findClass RX7 = some m.cls := findClass_of_methodNamed B.named
  have hlocks := B.notSynchronized
  subst hsz
  have B := xB_start hs hv
  have hinRX7 : ∀ w ∈ wsX70, w ∈ wsX7_isEnded := by decide +kernel
  have hl := lv_entry ([.ref (ad 2), .int a1]) (n := 3) (Nat.le_of_ble_eq_true rfl)
  rw [lg_entry_eq]
  generalize (lg_sl ([.ref (ad 2), .int a1]) ++ List.replicate (3 - (lg_sl ([.ref (ad 2), .int a1])).length) Slot.unset).toArray = ls at hl ⊢
  have hl : lv_has ls 3 [(0, .ref (ad 2)), (1, .int a1)] := hl
  generalize hAe : xA ad a s.heap.size = A at B ⊢
  have L2 : ∀ (n : Nat) (σ : zs) (v1 : Int32) (v2 : Int32) (H : Heap) (locs : List Loc) (ls : Array Slot), zlp2 (f_X7_isEnded_2) n σ v1 v2 = some (r, σ') → xB A s G ad σ H locs → lv_has ls 3 [(0, .ref (ad 2)), (1, .int v1), (2, .int v2)] → W p l e (headSpec wsX7_isEnded rm_X7_isEnded).room s m ([.ref (ad 2), .int a1] : List Value).toArray below meth c H locs 0 0 (MQ below (va_Qi (fun r' (u : xV) => r' = r ∧ xQ σ' u) (xPost G ad σ' A) A) ([.ref (ad 2), .int a1] : List Value).toArray s 0 0 A) (F0 m 2 ls []) := by
    intro n
    induction n with
    | zero =>
      intro σ v1 v2 H locs ls hf
      cases hf
    | succ n ih =>
      intro σ v1 v2 H locs ls hf B hl
      have hf : f_X7_isEnded_2 (zlp2 (f_X7_isEnded_2) n) σ v1 v2 = some (r, σ') := hf
      unfold f_X7_isEnded_2 at hf
      refine lv_iload_n hx hb dX7_isEnded_2 rfl (lv_at hl 2 rfl) ?_
      refine lv_aload_n hx hb dX7_isEnded_3 rfl (lv_at hl 0 rfl) ?_
      refine x_getr hx hb hts hinRX7 hown B 2 2 4 (by decide) (by decide) (fun _ => rfl) rfl rfl (by decide) (by decide +kernel) rfl dX7_isEnded_4 ?_
      refine lv_iload_n hx hb dX7_isEnded_7 rfl (lv_at hl 1 rfl) ?_
      obtain ⟨hg, hf⟩ := zg_some hf
      refine x_iald hx hb B 4 (by decide) (fun _ => rfl) (zin_ok hg) dX7_isEnded_8 ?_
      refine lv_icmp_ge (tgt := 40) hx hb dX7_isEnded_9 (by decide) (fun hc => ?_) (fun hc => ?_)
      · have hf := zif_t hc hf
        refine lv_iconst (v := (0 : Int32)) hx hb dX7_isEnded_40 (by decide) ?_
        refine W.widen (k := 0) (n := 0) (Nat.le_of_ble_eq_true rfl) (Nat.le_of_ble_eq_true rfl) ?_
        exact x_iret hx hb hr (by decide) hlocks B hf dX7_isEnded_41
      · have hf := zif_f hc hf
        refine lv_aload_n hx hb dX7_isEnded_12 rfl (lv_at hl 0 rfl) ?_
        refine x_getr hx hb hts hinRX7 hown B 2 6 8 (by decide) (by decide) (fun _ => rfl) rfl rfl (by decide) (by decide +kernel) rfl dX7_isEnded_13 ?_
        refine lv_aload_n hx hb dX7_isEnded_16 rfl (lv_at hl 0 rfl) ?_
        refine x_getr hx hb hts hinRX7 hown B 2 3 5 (by decide) (by decide) (fun _ => rfl) rfl rfl (by decide) (by decide +kernel) rfl dX7_isEnded_17 ?_
        refine lv_iload_n hx hb dX7_isEnded_20 rfl (lv_at hl 1 rfl) ?_
        refine lv_bipush (v := (7 : Int32)) hx hb dX7_isEnded_21 (by decide) ?_
        refine lv_imul hx hb dX7_isEnded_23 ?_
        refine lv_iload_n hx hb dX7_isEnded_24 rfl (lv_at hl 2 rfl) ?_
        refine lv_iadd hx hb dX7_isEnded_25 ?_
        obtain ⟨hg, hf⟩ := zg_some hf
        refine x_iald hx hb B 5 (by decide) (fun _ => rfl) (zin_ok hg) dX7_isEnded_26 ?_
        obtain ⟨hg, hf⟩ := zg_some hf
        refine x_iald hx hb B 8 (by decide) (fun _ => rfl) (zin_ok hg) dX7_isEnded_27 ?_
        refine lv_iconst (v := (-1 : Int32)) hx hb dX7_isEnded_28 (by decide) ?_
        refine lv_icmp_eq (tgt := 34) hx hb dX7_isEnded_29 (by decide) (fun hc => ?_) (fun hc => ?_)
        · have hf := zif_t hc hf
          refine lv_iinc (v := (v2 + (1 : Int32))) (lv' := [(2, .int (v2 + (1 : Int32))), (0, .ref (ad 2)), (1, .int v1)]) hx hb dX7_isEnded_34 hl (k := 2) rfl (zc1 (by decide)) (by decide) rfl (fun ls hl => ?_)
          refine lv_goto (tgt := 2) hx hb dX7_isEnded_37 (by decide) ?_
          exact ih _ _ _ _ _ _ hf B (lv_sub hl [1, 2, 0] rfl)
        · have hf := zif_f hc hf
          refine lv_iconst (v := (1 : Int32)) hx hb dX7_isEnded_32 (by decide) ?_
          refine W.widen (k := 0) (n := 0) (Nat.le_of_ble_eq_true rfl) (Nat.le_of_ble_eq_true rfl) ?_
          exact x_iret hx hb hr (by decide) hlocks B hf dX7_isEnded_33
  unfold f_X7_isEnded at hf
  refine lv_iconst (v := (0 : Int32)) hx hb dX7_isEnded_0 (by decide) ?_
  refine lv_istore_n (lv' := [(2, .int (0 : Int32)), (0, .ref (ad 2)), (1, .int a1)]) hx hb dX7_isEnded_1 rfl hl (by decide) rfl (fun ls hl => ?_)
  exact L2  _ _ _ _ _ _ _ hf B (lv_sub hl [1, 2, 0] rfl)
theorem dX7_setOfLiving_0 : decode cX7_setOfLiving 0 = .ok (.iconst 0, 1) := by decide +kernel
theorem dX7_setOfLiving_1 : decode cX7_setOfLiving 1 = .ok (.istore_n 1, 1) := by decide +kernel
theorem dX7_setOfLiving_2 : decode cX7_setOfLiving 2 = .ok (.iconst 0, 1) := by decide +kernel
theorem dX7_setOfLiving_3 : decode cX7_setOfLiving 3 = .ok (.istore_n 2, 1) := by decide +kernel
theorem dX7_setOfLiving_4 : decode cX7_setOfLiving 4 = .ok (.iload_n 2, 1) := by decide +kernel
theorem dX7_setOfLiving_5 : decode cX7_setOfLiving 5 = .ok (.aload_n 0, 1) := by decide +kernel
theorem dX7_setOfLiving_6 : decode cX7_setOfLiving 6 = .ok (.getfield 49, 3) := by decide +kernel
theorem dX7_setOfLiving_9 : decode cX7_setOfLiving 9 = .ok (.if_icmp .ge 23, 3) := by decide +kernel
theorem dX7_setOfLiving_12 : decode cX7_setOfLiving 12 = .ok (.aload_n 0, 1) := by decide +kernel
theorem dX7_setOfLiving_13 : decode cX7_setOfLiving 13 = .ok (.iload_n 2, 1) := by decide +kernel
theorem dX7_setOfLiving_14 : decode cX7_setOfLiving 14 = .ok (.invokevirtual 74, 3) := by decide +kernel
theorem dX7_setOfLiving_17 : decode cX7_setOfLiving 17 = .ok (.ifCond .ne 9, 3) := by decide +kernel
theorem dX7_setOfLiving_20 : decode cX7_setOfLiving 20 = .ok (.iload_n 1, 1) := by decide +kernel
theorem dX7_setOfLiving_21 : decode cX7_setOfLiving 21 = .ok (.iconst 1, 1) := by decide +kernel
theorem dX7_setOfLiving_22 : decode cX7_setOfLiving 22 = .ok (.iload_n 2, 1) := by decide +kernel
theorem dX7_setOfLiving_23 : decode cX7_setOfLiving 23 = .ok (.ishl, 1) := by decide +kernel
theorem dX7_setOfLiving_24 : decode cX7_setOfLiving 24 = .ok (.ior, 1) := by decide +kernel
theorem dX7_setOfLiving_25 : decode cX7_setOfLiving 25 = .ok (.istore_n 1, 1) := by decide +kernel
theorem dX7_setOfLiving_26 : decode cX7_setOfLiving 26 = .ok (.iinc 2 1, 3) := by decide +kernel
theorem dX7_setOfLiving_29 : decode cX7_setOfLiving 29 = .ok (.goto (-25), 3) := by decide +kernel
theorem dX7_setOfLiving_32 : decode cX7_setOfLiving 32 = .ok (.iload_n 1, 1) := by decide +kernel
theorem dX7_setOfLiving_33 : decode cX7_setOfLiving 33 = .ok (.ireturn, 1) := by decide +kernel
set_option maxRecDepth 20000 in
theorem ggX7_setOfLiving_X7_isEnded : GoodIn wsX7_setOfLiving wsX7_isEnded := goodIn_ca (goodIn_r _ [6, 7, 8, 9, 10, 11, 12, 13, 14, 15, 16, 17, 18, 19, 20, 21] (by decide +kernel) (by decide +kernel)) (goodIn_sub (fun _ h => List.mem_cons_of_mem _ (List.mem_append_right _ h)) (by decide +kernel))
set_option maxRecDepth 20000 in
theorem gX7_setOfLiving_X7_isEnded : GoodIn wsX7_setOfLiving (wsV RX7 74 RX7 yX7_isEnded wsX7_isEnded) := goodIn_app (goodIn_of _ (by decide +kernel)) ggX7_setOfLiving_X7_isEnded
def rm_X7_setOfLiving : Room := { frames := 2, cells := 0, slots := 0, locals := 38 }
set_option maxHeartbeats 4000000 in
set_option maxRecDepth 100000 in
theorem c_X7_setOfLiving (l : Launch) {G : zG} {ad : Nat → Nat} {σ σ' : zs} {r : Int32} (hf : f_X7_setOfLiving σ  = some (r, σ')) : xMi l yX7_setOfLiving wsX7_setOfLiving rm_X7_setOfLiving G ad σ [.ref (ad 2)] r σ' := by
  intro sz nb a g hs
  refine Met.ofW (cc := cX7_setOfLiving) (maxL := 3) (ret := (some .int)) (by decide) rfl ?_
  intro p e s m args below meth c s₁ B hml hv
  obtain ⟨rfl, hsz, hv⟩ := hv
  have hx := B.exec
  have hb := B.bytes
  have hr := B.returns
  have hts := atoms_spec (ws := wsX7_setOfLiving) B.pre
  have hown : s.vm.findClass RX7 = some m.cls := findClass_of_methodNamed B.named
  have hlocks := B.notSynchronized
  subst hsz
  have B := xB_start hs hv
  have hinRX7 : ∀ w ∈ wsX70, w ∈ wsX7_setOfLiving := by decide +kernel
  have hl := lv_entry ([.ref (ad 2)]) (n := 3) (Nat.le_of_ble_eq_true rfl)
  rw [lg_entry_eq]
  generalize (lg_sl ([.ref (ad 2)]) ++ List.replicate (3 - (lg_sl ([.ref (ad 2)])).length) Slot.unset).toArray = ls at hl ⊢
  have hl : lv_has ls 3 [(0, .ref (ad 2))] := hl
  generalize hAe : xA ad a s.heap.size = A at B ⊢
  have L4 : ∀ (n : Nat) (σ : zs) (v1 : Int32) (v2 : Int32) (H : Heap) (locs : List Loc) (ls : Array Slot), zlp2 (f_X7_setOfLiving_4) n σ v1 v2 = some (r, σ') → xB A s G ad σ H locs → lv_has ls 3 [(0, .ref (ad 2)), (1, .int v1), (2, .int v2)] → W p l e (headSpec wsX7_setOfLiving rm_X7_setOfLiving).room s m ([.ref (ad 2)] : List Value).toArray below meth c H locs 0 0 (MQ below (va_Qi (fun r' (u : xV) => r' = r ∧ xQ σ' u) (xPost G ad σ' A) A) ([.ref (ad 2)] : List Value).toArray s 0 0 A) (F0 m 4 ls []) := by
    intro n
    induction n with
    | zero =>
      intro σ v1 v2 H locs ls hf
      cases hf
    | succ n ih =>
      intro σ v1 v2 H locs ls hf B hl
      have hf : f_X7_setOfLiving_4 (zlp2 (f_X7_setOfLiving_4) n) σ v1 v2 = some (r, σ') := hf
      unfold f_X7_setOfLiving_4 at hf
      refine lv_iload_n hx hb dX7_setOfLiving_4 rfl (lv_at hl 2 rfl) ?_
      refine lv_aload_n hx hb dX7_setOfLiving_5 rfl (lv_at hl 0 rfl) ?_
      refine x_geti hx hb hts hinRX7 hown B 2 0 (by decide) (fun _ => rfl) rfl rfl (by decide) (by decide +kernel) rfl dX7_setOfLiving_6 ?_
      refine lv_icmp_ge (tgt := 32) hx hb dX7_setOfLiving_9 (by decide) (fun hc => ?_) (fun hc => ?_)
      · have hf := zif_t hc hf
        refine lv_iload_n hx hb dX7_setOfLiving_32 rfl (lv_at hl 1 rfl) ?_
        refine W.widen (k := 0) (n := 0) (Nat.le_of_ble_eq_true rfl) (Nat.le_of_ble_eq_true rfl) ?_
        exact x_iret hx hb hr rfl hlocks B hf dX7_setOfLiving_33
      · have hf := zif_f hc hf
        refine lv_aload_n hx hb dX7_setOfLiving_12 rfl (lv_at hl 0 rfl) ?_
        refine lv_iload_n hx hb dX7_setOfLiving_13 rfl (lv_at hl 2 rfl) ?_
        obtain ⟨r2, σ3, hu1, hf⟩ := zb_some hf
        refine x_i B (fun nb a g hs Bz => va_runV (As := [.int v2]) (rest := []) ⟨hx, hb, hml, hown, hts⟩ (c_X7_isEnded l hu1 _ nb a g hs) (cwV 1 hts gX7_setOfLiving_X7_isEnded rfl rfl rfl (by decide +kernel) ⟨Nat.le_of_ble_eq_true rfl, Nat.le_of_ble_eq_true rfl⟩) (x_preV Bz (by decide) (fun _ => rfl) rfl) rfl rfl hl.1 rfl (lv_room (Nat.le_of_ble_eq_true rfl)) dX7_setOfLiving_14 ⟨Nat.le_of_ble_eq_true rfl, Nat.le_of_ble_eq_true rfl⟩) (fun H locs B => ?_)
        refine lv_if_ne (tgt := 26) hx hb dX7_setOfLiving_17 (by decide) (fun hc => ?_) (fun hc => ?_)
        · have hf := zif_f hc hf
          refine lv_iinc (v := (v2 + (1 : Int32))) (lv' := [(2, .int (v2 + (1 : Int32))), (0, .ref (ad 2)), (1, .int v1)]) hx hb dX7_setOfLiving_26 hl (k := 2) rfl (zc1 (by decide)) (by decide) rfl (fun ls hl => ?_)
          refine lv_goto (tgt := 4) hx hb dX7_setOfLiving_29 (by decide) ?_
          exact ih _ _ _ _ _ _ hf B (lv_sub hl [1, 2, 0] rfl)
        · have hf := zif_t hc hf
          refine lv_iload_n hx hb dX7_setOfLiving_20 rfl (lv_at hl 1 rfl) ?_
          refine lv_iconst (v := (1 : Int32)) hx hb dX7_setOfLiving_21 (by decide) ?_
          refine lv_iload_n hx hb dX7_setOfLiving_22 rfl (lv_at hl 2 rfl) ?_
          refine lv_ishl hx hb dX7_setOfLiving_23 ?_
          refine lv_ior hx hb dX7_setOfLiving_24 ?_
          refine lv_istore_n (lv' := [(1, .int (v1 ||| ((1 : Int32) <<< (v2 &&& 31)))), (0, .ref (ad 2)), (2, .int v2)]) hx hb dX7_setOfLiving_25 rfl hl (by decide) rfl (fun ls hl => ?_)
          refine lv_iinc (v := (v2 + (1 : Int32))) (lv' := [(2, .int (v2 + (1 : Int32))), (1, .int (v1 ||| ((1 : Int32) <<< (v2 &&& 31)))), (0, .ref (ad 2))]) hx hb dX7_setOfLiving_26 hl (k := 2) rfl (zc1 (by decide)) (by decide) rfl (fun ls hl => ?_)
          refine lv_goto (tgt := 4) hx hb dX7_setOfLiving_29 (by decide) ?_
          exact ih _ _ _ _ _ _ hf B (lv_sub hl [2, 1, 0] rfl)
  unfold f_X7_setOfLiving at hf
  refine lv_iconst (v := (0 : Int32)) hx hb dX7_setOfLiving_0 (by decide) ?_
  refine lv_istore_n (lv' := [(1, .int (0 : Int32)), (0, .ref (ad 2))]) hx hb dX7_setOfLiving_1 rfl hl (by decide) rfl (fun ls hl => ?_)
  refine lv_iconst (v := (0 : Int32)) hx hb dX7_setOfLiving_2 (by decide) ?_
  refine lv_istore_n (lv' := [(2, .int (0 : Int32)), (1, .int (0 : Int32)), (0, .ref (ad 2))]) hx hb dX7_setOfLiving_3 rfl hl (by decide) rfl (fun ls hl => ?_)
  exact L4  _ _ _ _ _ _ _ hf B (lv_sub hl [2, 1, 0] rfl)
theorem dX7_holdsOfChain_0 : decode cX7_holdsOfChain 0 = .ok (.iconst 0, 1) := by decide +kernel
theorem dX7_holdsOfChain_1 : decode cX7_holdsOfChain 1 = .ok (.istore_n 3, 1) := by decide +kernel
theorem dX7_holdsOfChain_2 : decode cX7_holdsOfChain 2 = .ok (.iload_n 3, 1) := by decide +kernel
theorem dX7_holdsOfChain_3 : decode cX7_holdsOfChain 3 = .ok (.aload_n 0, 1) := by decide +kernel
theorem dX7_holdsOfChain_4 : decode cX7_holdsOfChain 4 = .ok (.getfield 15, 3) := by decide +kernel
theorem dX7_holdsOfChain_7 : decode cX7_holdsOfChain 7 = .ok (.iload_n 2, 1) := by decide +kernel
theorem dX7_holdsOfChain_8 : decode cX7_holdsOfChain 8 = .ok (.iaload, 1) := by decide +kernel
theorem dX7_holdsOfChain_9 : decode cX7_holdsOfChain 9 = .ok (.if_icmp .ge 34, 3) := by decide +kernel
theorem dX7_holdsOfChain_12 : decode cX7_holdsOfChain 12 = .ok (.aload_n 0, 1) := by decide +kernel
theorem dX7_holdsOfChain_13 : decode cX7_holdsOfChain 13 = .ok (.getfield 21, 3) := by decide +kernel
theorem dX7_holdsOfChain_16 : decode cX7_holdsOfChain 16 = .ok (.aload_n 0, 1) := by decide +kernel
theorem dX7_holdsOfChain_17 : decode cX7_holdsOfChain 17 = .ok (.getfield 18, 3) := by decide +kernel
theorem dX7_holdsOfChain_20 : decode cX7_holdsOfChain 20 = .ok (.iload_n 2, 1) := by decide +kernel
theorem dX7_holdsOfChain_21 : decode cX7_holdsOfChain 21 = .ok (.bipush 7, 2) := by decide +kernel
theorem dX7_holdsOfChain_23 : decode cX7_holdsOfChain 23 = .ok (.imul, 1) := by decide +kernel
theorem dX7_holdsOfChain_24 : decode cX7_holdsOfChain 24 = .ok (.iload_n 3, 1) := by decide +kernel
theorem dX7_holdsOfChain_25 : decode cX7_holdsOfChain 25 = .ok (.iadd, 1) := by decide +kernel
theorem dX7_holdsOfChain_26 : decode cX7_holdsOfChain 26 = .ok (.iaload, 1) := by decide +kernel
theorem dX7_holdsOfChain_27 : decode cX7_holdsOfChain 27 = .ok (.iaload, 1) := by decide +kernel
theorem dX7_holdsOfChain_28 : decode cX7_holdsOfChain 28 = .ok (.iload_n 1, 1) := by decide +kernel
theorem dX7_holdsOfChain_29 : decode cX7_holdsOfChain 29 = .ok (.invokestatic 71, 3) := by decide +kernel
theorem dX7_holdsOfChain_32 : decode cX7_holdsOfChain 32 = .ok (.ifCond .eq 5, 3) := by decide +kernel
theorem dX7_holdsOfChain_35 : decode cX7_holdsOfChain 35 = .ok (.iconst 1, 1) := by decide +kernel
theorem dX7_holdsOfChain_36 : decode cX7_holdsOfChain 36 = .ok (.ireturn, 1) := by decide +kernel
theorem dX7_holdsOfChain_37 : decode cX7_holdsOfChain 37 = .ok (.iinc 3 1, 3) := by decide +kernel
theorem dX7_holdsOfChain_40 : decode cX7_holdsOfChain 40 = .ok (.goto (-38), 3) := by decide +kernel
theorem dX7_holdsOfChain_43 : decode cX7_holdsOfChain 43 = .ok (.iconst 0, 1) := by decide +kernel
theorem dX7_holdsOfChain_44 : decode cX7_holdsOfChain 44 = .ok (.ireturn, 1) := by decide +kernel
set_option maxRecDepth 20000 in
theorem ggX7_holdsOfChain_X8_hasBit : GoodIn wsX7_holdsOfChain wsX8_hasBit := goodIn_r _ [6] (by decide +kernel) (by decide +kernel)
set_option maxRecDepth 20000 in
theorem gX7_holdsOfChain_X8_hasBit_n71 : GoodIn wsX7_holdsOfChain (wsX8_hasBit) := ggX7_holdsOfChain_X8_hasBit
def rm_X7_holdsOfChain : Room := { frames := 2, cells := 0, slots := 0, locals := 37 }
set_option maxHeartbeats 4000000 in
set_option maxRecDepth 100000 in
theorem c_X7_holdsOfChain (l : Launch) {G : zG} {ad : Nat → Nat} {σ σ' : zs} {a1 a2 : Int32} {r : Int32} (hf : f_X7_holdsOfChain σ a1 a2 = some (r, σ')) : xMi l yX7_holdsOfChain wsX7_holdsOfChain rm_X7_holdsOfChain G ad σ [.ref (ad 2), .int a1, .int a2] r σ' := by
  intro sz nb a g hs
  refine Met.ofW (cc := cX7_holdsOfChain) (maxL := 4) (ret := (some .boolean)) (by decide) rfl ?_
  intro p e s m args below meth c s₁ B hml hv
  obtain ⟨rfl, hsz, hv⟩ := hv
  have hx := B.exec
  have hb := B.bytes
  have hr := B.returns
  have hts := atoms_spec (ws := wsX7_holdsOfChain) B.pre
  have hown : s.vm.findClass RX7 = some m.cls := findClass_of_methodNamed B.named
  have hlocks := B.notSynchronized
  subst hsz
  have B := xB_start hs hv
  have hinRX7 : ∀ w ∈ wsX70, w ∈ wsX7_holdsOfChain := by decide +kernel
  have hl := lv_entry ([.ref (ad 2), .int a1, .int a2]) (n := 4) (Nat.le_of_ble_eq_true rfl)
  rw [lg_entry_eq]
  generalize (lg_sl ([.ref (ad 2), .int a1, .int a2]) ++ List.replicate (4 - (lg_sl ([.ref (ad 2), .int a1, .int a2])).length) Slot.unset).toArray = ls at hl ⊢
  have hl : lv_has ls 4 [(0, .ref (ad 2)), (1, .int a1), (2, .int a2)] := hl
  generalize hAe : xA ad a s.heap.size = A at B ⊢
  have L2 : ∀ (n : Nat) (σ : zs) (v1 : Int32) (v2 : Int32) (v3 : Int32) (H : Heap) (locs : List Loc) (ls : Array Slot), zlp3 (f_X7_holdsOfChain_2) n σ v1 v2 v3 = some (r, σ') → xB A s G ad σ H locs → lv_has ls 4 [(0, .ref (ad 2)), (1, .int v1), (2, .int v2), (3, .int v3)] → W p l e (headSpec wsX7_holdsOfChain rm_X7_holdsOfChain).room s m ([.ref (ad 2), .int a1, .int a2] : List Value).toArray below meth c H locs 0 0 (MQ below (va_Qi (fun r' (u : xV) => r' = r ∧ xQ σ' u) (xPost G ad σ' A) A) ([.ref (ad 2), .int a1, .int a2] : List Value).toArray s 0 0 A) (F0 m 2 ls []) := by
    intro n
    induction n with
    | zero =>
      intro σ v1 v2 v3 H locs ls hf
      cases hf
    | succ n ih =>
      intro σ v1 v2 v3 H locs ls hf B hl
      have hf : f_X7_holdsOfChain_2 (zlp3 (f_X7_holdsOfChain_2) n) σ v1 v2 v3 = some (r, σ') := hf
      unfold f_X7_holdsOfChain_2 at hf
      refine lv_iload_n hx hb dX7_holdsOfChain_2 rfl (lv_at hl 3 rfl) ?_
      refine lv_aload_n hx hb dX7_holdsOfChain_3 rfl (lv_at hl 0 rfl) ?_
      refine x_getr hx hb hts hinRX7 hown B 2 2 4 (by decide) (by decide) (fun _ => rfl) rfl rfl (by decide) (by decide +kernel) rfl dX7_holdsOfChain_4 ?_
      refine lv_iload_n hx hb dX7_holdsOfChain_7 rfl (lv_at hl 2 rfl) ?_
      obtain ⟨hg, hf⟩ := zg_some hf
      refine x_iald hx hb B 4 (by decide) (fun _ => rfl) (zin_ok hg) dX7_holdsOfChain_8 ?_
      refine lv_icmp_ge (tgt := 43) hx hb dX7_holdsOfChain_9 (by decide) (fun hc => ?_) (fun hc => ?_)
      · have hf := zif_t hc hf
        refine lv_iconst (v := (0 : Int32)) hx hb dX7_holdsOfChain_43 (by decide) ?_
        refine W.widen (k := 0) (n := 0) (Nat.le_of_ble_eq_true rfl) (Nat.le_of_ble_eq_true rfl) ?_
        exact x_iret hx hb hr (by decide) hlocks B hf dX7_holdsOfChain_44
      · have hf := zif_f hc hf
        refine lv_aload_n hx hb dX7_holdsOfChain_12 rfl (lv_at hl 0 rfl) ?_
        refine x_getr hx hb hts hinRX7 hown B 2 4 6 (by decide) (by decide) (fun _ => rfl) rfl rfl (by decide) (by decide +kernel) rfl dX7_holdsOfChain_13 ?_
        refine lv_aload_n hx hb dX7_holdsOfChain_16 rfl (lv_at hl 0 rfl) ?_
        refine x_getr hx hb hts hinRX7 hown B 2 3 5 (by decide) (by decide) (fun _ => rfl) rfl rfl (by decide) (by decide +kernel) rfl dX7_holdsOfChain_17 ?_
        refine lv_iload_n hx hb dX7_holdsOfChain_20 rfl (lv_at hl 2 rfl) ?_
        refine lv_bipush (v := (7 : Int32)) hx hb dX7_holdsOfChain_21 (by decide) ?_
        refine lv_imul hx hb dX7_holdsOfChain_23 ?_
        refine lv_iload_n hx hb dX7_holdsOfChain_24 rfl (lv_at hl 3 rfl) ?_
        refine lv_iadd hx hb dX7_holdsOfChain_25 ?_
        obtain ⟨hg, hf⟩ := zg_some hf
        refine x_iald hx hb B 5 (by decide) (fun _ => rfl) (zin_ok hg) dX7_holdsOfChain_26 ?_
        obtain ⟨hg, hf⟩ := zg_some hf
        refine x_iald hx hb B 6 (by decide) (fun _ => rfl) (zin_ok hg) dX7_holdsOfChain_27 ?_
        refine lv_iload_n hx hb dX7_holdsOfChain_28 rfl (lv_at hl 1 rfl) ?_
        obtain ⟨r2, σ3, hu1, hf⟩ := zb_some hf
        refine x_i B (fun nb a g hs Bz => va_runSN (As := [.int (σ 6 (σ 5 ((v2 * (7 : Int32)) + v3).toNatClampNeg).toNatClampNeg), .int v1]) (rest := []) ⟨hx, hb, hml, hown, hts⟩ (c_X8_hasBit l hu1 _ nb a g hs) ⟨va_cnB 2 hts gX7_holdsOfChain_X8_hasBit_n71 rfl rfl rfl (x_nest B (q := (RX7, 71, yX8_hasBit)) (by decide +kernel)) (hts (.initialized RX8) (by decide +kernel)) (by decide +kernel) ⟨Nat.le_of_ble_eq_true rfl, Nat.le_of_ble_eq_true rfl⟩, hts (.static yX8_hasBit) (by decide +kernel), trivial⟩ (z_preS Bz) rfl rfl hl.1 rfl (lv_room (Nat.le_of_ble_eq_true rfl)) dX7_holdsOfChain_29 ⟨Nat.le_of_ble_eq_true rfl, Nat.le_of_ble_eq_true rfl⟩) (fun H locs B => ?_)
        refine lv_if_eq (tgt := 37) hx hb dX7_holdsOfChain_32 (by decide) (fun hc => ?_) (fun hc => ?_)
        · have hf := zif_t hc hf
          refine lv_iinc (v := (v3 + (1 : Int32))) (lv' := [(3, .int (v3 + (1 : Int32))), (0, .ref (ad 2)), (1, .int v1), (2, .int v2)]) hx hb dX7_holdsOfChain_37 hl (k := 3) rfl (zc1 (by decide)) (by decide) rfl (fun ls hl => ?_)
          refine lv_goto (tgt := 2) hx hb dX7_holdsOfChain_40 (by decide) ?_
          exact ih _ _ _ _ _ _ _ hf B (lv_sub hl [1, 2, 3, 0] rfl)
        · have hf := zif_f hc hf
          refine lv_iconst (v := (1 : Int32)) hx hb dX7_holdsOfChain_35 (by decide) ?_
          refine W.widen (k := 0) (n := 0) (Nat.le_of_ble_eq_true rfl) (Nat.le_of_ble_eq_true rfl) ?_
          exact x_iret hx hb hr (by decide) hlocks B hf dX7_holdsOfChain_36
  unfold f_X7_holdsOfChain at hf
  refine lv_iconst (v := (0 : Int32)) hx hb dX7_holdsOfChain_0 (by decide) ?_
  refine lv_istore_n (lv' := [(3, .int (0 : Int32)), (0, .ref (ad 2)), (1, .int a1), (2, .int a2)]) hx hb dX7_holdsOfChain_1 rfl hl (by decide) rfl (fun ls hl => ?_)
  exact L2  _ _ _ _ _ _ _ _ hf B (lv_sub hl [1, 2, 3, 0] rfl)
theorem dX7_derivedFrom_0 : decode cX7_derivedFrom 0 = .ok (.iconst 0, 1) := by decide +kernel
theorem dX7_derivedFrom_1 : decode cX7_derivedFrom 1 = .ok (.istore_n 2, 1) := by decide +kernel
theorem dX7_derivedFrom_2 : decode cX7_derivedFrom 2 = .ok (.iconst 0, 1) := by decide +kernel
theorem dX7_derivedFrom_3 : decode cX7_derivedFrom 3 = .ok (.istore_n 3, 1) := by decide +kernel
theorem dX7_derivedFrom_4 : decode cX7_derivedFrom 4 = .ok (.iload_n 3, 1) := by decide +kernel
theorem dX7_derivedFrom_5 : decode cX7_derivedFrom 5 = .ok (.aload_n 0, 1) := by decide +kernel
theorem dX7_derivedFrom_6 : decode cX7_derivedFrom 6 = .ok (.getfield 49, 3) := by decide +kernel
theorem dX7_derivedFrom_9 : decode cX7_derivedFrom 9 = .ok (.if_icmp .ge 21, 3) := by decide +kernel
theorem dX7_derivedFrom_12 : decode cX7_derivedFrom 12 = .ok (.aload_n 0, 1) := by decide +kernel
theorem dX7_derivedFrom_13 : decode cX7_derivedFrom 13 = .ok (.iload_n 3, 1) := by decide +kernel
theorem dX7_derivedFrom_14 : decode cX7_derivedFrom 14 = .ok (.invokevirtual 78, 3) := by decide +kernel
theorem dX7_derivedFrom_17 : decode cX7_derivedFrom 17 = .ok (.iload_n 1, 1) := by decide +kernel
theorem dX7_derivedFrom_18 : decode cX7_derivedFrom 18 = .ok (.if_icmp .ne 6, 3) := by decide +kernel
theorem dX7_derivedFrom_21 : decode cX7_derivedFrom 21 = .ok (.iinc 2 1, 3) := by decide +kernel
theorem dX7_derivedFrom_24 : decode cX7_derivedFrom 24 = .ok (.iinc 3 1, 3) := by decide +kernel
theorem dX7_derivedFrom_27 : decode cX7_derivedFrom 27 = .ok (.goto (-23), 3) := by decide +kernel
theorem dX7_derivedFrom_30 : decode cX7_derivedFrom 30 = .ok (.iload_n 2, 1) := by decide +kernel
theorem dX7_derivedFrom_31 : decode cX7_derivedFrom 31 = .ok (.ireturn, 1) := by decide +kernel
set_option maxRecDepth 20000 in
theorem ggX7_derivedFrom_X7_parentOf : GoodIn wsX7_derivedFrom wsX7_parentOf := goodIn_ca (goodIn_r _ [6, 7, 8, 9, 10, 11, 12, 13, 14, 15, 16, 17, 18, 19, 20] (by decide +kernel) (by decide +kernel)) (goodIn_sub (fun _ h => List.mem_cons_of_mem _ (List.mem_append_right _ h)) (by decide +kernel))
set_option maxRecDepth 20000 in
theorem gX7_derivedFrom_X7_parentOf : GoodIn wsX7_derivedFrom (wsV RX7 78 RX7 yX7_parentOf wsX7_parentOf) := goodIn_app (goodIn_of _ (by decide +kernel)) ggX7_derivedFrom_X7_parentOf
def rm_X7_derivedFrom : Room := { frames := 2, cells := 0, slots := 0, locals := 37 }
set_option maxHeartbeats 4000000 in
set_option maxRecDepth 100000 in
theorem c_X7_derivedFrom (l : Launch) {G : zG} {ad : Nat → Nat} {σ σ' : zs} {a1 : Int32} {r : Int32} (hf : f_X7_derivedFrom σ a1 = some (r, σ')) : xMi l yX7_derivedFrom wsX7_derivedFrom rm_X7_derivedFrom G ad σ [.ref (ad 2), .int a1] r σ' := by
  intro sz nb a g hs
  refine Met.ofW (cc := cX7_derivedFrom) (maxL := 4) (ret := (some .int)) (by decide) rfl ?_
  intro p e s m args below meth c s₁ B hml hv
  obtain ⟨rfl, hsz, hv⟩ := hv
  have hx := B.exec
  have hb := B.bytes
  have hr := B.returns
  have hts := atoms_spec (ws := wsX7_derivedFrom) B.pre
  have hown : s.vm.findClass RX7 = some m.cls := findClass_of_methodNamed B.named
  have hlocks := B.notSynchronized
  subst hsz
  have B := xB_start hs hv
  have hinRX7 : ∀ w ∈ wsX70, w ∈ wsX7_derivedFrom := by decide +kernel
  have hl := lv_entry ([.ref (ad 2), .int a1]) (n := 4) (Nat.le_of_ble_eq_true rfl)
  rw [lg_entry_eq]
  generalize (lg_sl ([.ref (ad 2), .int a1]) ++ List.replicate (4 - (lg_sl ([.ref (ad 2), .int a1])).length) Slot.unset).toArray = ls at hl ⊢
  have hl : lv_has ls 4 [(0, .ref (ad 2)), (1, .int a1)] := hl
  generalize hAe : xA ad a s.heap.size = A at B ⊢
  have L4 : ∀ (n : Nat) (σ : zs) (v1 : Int32) (v2 : Int32) (v3 : Int32) (H : Heap) (locs : List Loc) (ls : Array Slot), zlp3 (f_X7_derivedFrom_4) n σ v1 v2 v3 = some (r, σ') → xB A s G ad σ H locs → lv_has ls 4 [(0, .ref (ad 2)), (1, .int v1), (2, .int v2), (3, .int v3)] → W p l e (headSpec wsX7_derivedFrom rm_X7_derivedFrom).room s m ([.ref (ad 2), .int a1] : List Value).toArray below meth c H locs 0 0 (MQ below (va_Qi (fun r' (u : xV) => r' = r ∧ xQ σ' u) (xPost G ad σ' A) A) ([.ref (ad 2), .int a1] : List Value).toArray s 0 0 A) (F0 m 4 ls []) := by
    intro n
    induction n with
    | zero =>
      intro σ v1 v2 v3 H locs ls hf
      cases hf
    | succ n ih =>
      intro σ v1 v2 v3 H locs ls hf B hl
      have hf : f_X7_derivedFrom_4 (zlp3 (f_X7_derivedFrom_4) n) σ v1 v2 v3 = some (r, σ') := hf
      unfold f_X7_derivedFrom_4 at hf
      refine lv_iload_n hx hb dX7_derivedFrom_4 rfl (lv_at hl 3 rfl) ?_
      refine lv_aload_n hx hb dX7_derivedFrom_5 rfl (lv_at hl 0 rfl) ?_
      refine x_geti hx hb hts hinRX7 hown B 2 0 (by decide) (fun _ => rfl) rfl rfl (by decide) (by decide +kernel) rfl dX7_derivedFrom_6 ?_
      refine lv_icmp_ge (tgt := 30) hx hb dX7_derivedFrom_9 (by decide) (fun hc => ?_) (fun hc => ?_)
      · have hf := zif_t hc hf
        refine lv_iload_n hx hb dX7_derivedFrom_30 rfl (lv_at hl 2 rfl) ?_
        refine W.widen (k := 0) (n := 0) (Nat.le_of_ble_eq_true rfl) (Nat.le_of_ble_eq_true rfl) ?_
        exact x_iret hx hb hr rfl hlocks B hf dX7_derivedFrom_31
      · have hf := zif_f hc hf
        refine lv_aload_n hx hb dX7_derivedFrom_12 rfl (lv_at hl 0 rfl) ?_
        refine lv_iload_n hx hb dX7_derivedFrom_13 rfl (lv_at hl 3 rfl) ?_
        obtain ⟨r2, σ3, hu1, hf⟩ := zb_some hf
        refine x_i B (fun nb a g hs Bz => va_runV (As := [.int v3]) (rest := []) ⟨hx, hb, hml, hown, hts⟩ (c_X7_parentOf l hu1 _ nb a g hs) (cwV 1 hts gX7_derivedFrom_X7_parentOf rfl rfl rfl (by decide +kernel) ⟨Nat.le_of_ble_eq_true rfl, Nat.le_of_ble_eq_true rfl⟩) (x_preV Bz (by decide) (fun _ => rfl) rfl) rfl rfl hl.1 rfl (lv_room (Nat.le_of_ble_eq_true rfl)) dX7_derivedFrom_14 ⟨Nat.le_of_ble_eq_true rfl, Nat.le_of_ble_eq_true rfl⟩) (fun H locs B => ?_)
        refine lv_iload_n hx hb dX7_derivedFrom_17 rfl (lv_at hl 1 rfl) ?_
        refine lv_icmp_ne (tgt := 24) hx hb dX7_derivedFrom_18 (by decide) (fun hc => ?_) (fun hc => ?_)
        · have hf := zif_f hc hf
          refine lv_iinc (v := (v3 + (1 : Int32))) (lv' := [(3, .int (v3 + (1 : Int32))), (0, .ref (ad 2)), (1, .int v1), (2, .int v2)]) hx hb dX7_derivedFrom_24 hl (k := 3) rfl (zc1 (by decide)) (by decide) rfl (fun ls hl => ?_)
          refine lv_goto (tgt := 4) hx hb dX7_derivedFrom_27 (by decide) ?_
          exact ih _ _ _ _ _ _ _ hf B (lv_sub hl [1, 2, 3, 0] rfl)
        · have hf := zif_t hc hf
          refine lv_iinc (v := (v2 + (1 : Int32))) (lv' := [(2, .int (v2 + (1 : Int32))), (0, .ref (ad 2)), (1, .int v1), (3, .int v3)]) hx hb dX7_derivedFrom_21 hl (k := 2) rfl (zc1 (by decide)) (by decide) rfl (fun ls hl => ?_)
          refine lv_iinc (v := (v3 + (1 : Int32))) (lv' := [(3, .int (v3 + (1 : Int32))), (2, .int (v2 + (1 : Int32))), (0, .ref (ad 2)), (1, .int v1)]) hx hb dX7_derivedFrom_24 hl (k := 3) rfl (zc1 (by decide)) (by decide) rfl (fun ls hl => ?_)
          refine lv_goto (tgt := 4) hx hb dX7_derivedFrom_27 (by decide) ?_
          exact ih _ _ _ _ _ _ _ hf B (lv_sub hl [2, 3, 1, 0] rfl)
  unfold f_X7_derivedFrom at hf
  refine lv_iconst (v := (0 : Int32)) hx hb dX7_derivedFrom_0 (by decide) ?_
  refine lv_istore_n (lv' := [(2, .int (0 : Int32)), (0, .ref (ad 2)), (1, .int a1)]) hx hb dX7_derivedFrom_1 rfl hl (by decide) rfl (fun ls hl => ?_)
  refine lv_iconst (v := (0 : Int32)) hx hb dX7_derivedFrom_2 (by decide) ?_
  refine lv_istore_n (lv' := [(3, .int (0 : Int32)), (2, .int (0 : Int32)), (0, .ref (ad 2)), (1, .int a1)]) hx hb dX7_derivedFrom_3 rfl hl (by decide) rfl (fun ls hl => ?_)
  exact L4  _ _ _ _ _ _ _ _ hf B (lv_sub hl [2, 3, 1, 0] rfl)
theorem dX7_numberFor_0 : decode cX7_numberFor 0 = .ok (.iconst 0, 1) := by decide +kernel
theorem dX7_numberFor_1 : decode cX7_numberFor 1 = .ok (.istore_n 2, 1) := by decide +kernel
theorem dX7_numberFor_2 : decode cX7_numberFor 2 = .ok (.iconst 0, 1) := by decide +kernel
theorem dX7_numberFor_3 : decode cX7_numberFor 3 = .ok (.istore_n 3, 1) := by decide +kernel
theorem dX7_numberFor_4 : decode cX7_numberFor 4 = .ok (.iload_n 3, 1) := by decide +kernel
theorem dX7_numberFor_5 : decode cX7_numberFor 5 = .ok (.aload_n 0, 1) := by decide +kernel
theorem dX7_numberFor_6 : decode cX7_numberFor 6 = .ok (.getfield 49, 3) := by decide +kernel
theorem dX7_numberFor_9 : decode cX7_numberFor 9 = .ok (.if_icmp .ge 22, 3) := by decide +kernel
theorem dX7_numberFor_12 : decode cX7_numberFor 12 = .ok (.aload_n 0, 1) := by decide +kernel
theorem dX7_numberFor_13 : decode cX7_numberFor 13 = .ok (.getfield 9, 3) := by decide +kernel
theorem dX7_numberFor_16 : decode cX7_numberFor 16 = .ok (.iload_n 3, 1) := by decide +kernel
theorem dX7_numberFor_17 : decode cX7_numberFor 17 = .ok (.iaload, 1) := by decide +kernel
theorem dX7_numberFor_18 : decode cX7_numberFor 18 = .ok (.iload_n 1, 1) := by decide +kernel
theorem dX7_numberFor_19 : decode cX7_numberFor 19 = .ok (.if_icmp .ne 6, 3) := by decide +kernel
theorem dX7_numberFor_22 : decode cX7_numberFor 22 = .ok (.iinc 2 1, 3) := by decide +kernel
theorem dX7_numberFor_25 : decode cX7_numberFor 25 = .ok (.iinc 3 1, 3) := by decide +kernel
theorem dX7_numberFor_28 : decode cX7_numberFor 28 = .ok (.goto (-24), 3) := by decide +kernel
theorem dX7_numberFor_31 : decode cX7_numberFor 31 = .ok (.iload_n 2, 1) := by decide +kernel
theorem dX7_numberFor_32 : decode cX7_numberFor 32 = .ok (.ireturn, 1) := by decide +kernel
def rm_X7_numberFor : Room := { frames := 1, cells := 0, slots := 0, locals := 16 }
set_option maxHeartbeats 4000000 in
set_option maxRecDepth 100000 in
theorem c_X7_numberFor (l : Launch) {G : zG} {ad : Nat → Nat} {σ σ' : zs} {a1 : Int32} {r : Int32} (hf : f_X7_numberFor σ a1 = some (r, σ')) : xMi l yX7_numberFor wsX7_numberFor rm_X7_numberFor G ad σ [.ref (ad 2), .int a1] r σ' := by
  intro sz nb a g hs
  refine Met.ofW (cc := cX7_numberFor) (maxL := 4) (ret := (some .int)) (by decide) rfl ?_
  intro p e s m args below meth c s₁ B hml hv
  obtain ⟨rfl, hsz, hv⟩ := hv
  have hx := B.exec
  have hb := B.bytes
  have hr := B.returns
  have hts := atoms_spec (ws := wsX7_numberFor) B.pre
  have hown : s.vm.findClass RX7 = some m.cls := findClass_of_methodNamed B.named
  have hlocks := B.notSynchronized
  subst hsz
  have B := xB_start hs hv
  have hinRX7 : ∀ w ∈ wsX70, w ∈ wsX7_numberFor := by decide +kernel
  have hl := lv_entry ([.ref (ad 2), .int a1]) (n := 4) (Nat.le_of_ble_eq_true rfl)
  rw [lg_entry_eq]
  generalize (lg_sl ([.ref (ad 2), .int a1]) ++ List.replicate (4 - (lg_sl ([.ref (ad 2), .int a1])).length) Slot.unset).toArray = ls at hl ⊢
  have hl : lv_has ls 4 [(0, .ref (ad 2)), (1, .int a1)] := hl
  generalize hAe : xA ad a s.heap.size = A at B ⊢
  have L4 : ∀ (n : Nat) (σ : zs) (v1 : Int32) (v2 : Int32) (v3 : Int32) (H : Heap) (locs : List Loc) (ls : Array Slot), zlp3 (f_X7_numberFor_4) n σ v1 v2 v3 = some (r, σ') → xB A s G ad σ H locs → lv_has ls 4 [(0, .ref (ad 2)), (1, .int v1), (2, .int v2), (3, .int v3)] → W p l e (headSpec wsX7_numberFor rm_X7_numberFor).room s m ([.ref (ad 2), .int a1] : List Value).toArray below meth c H locs 0 0 (MQ below (va_Qi (fun r' (u : xV) => r' = r ∧ xQ σ' u) (xPost G ad σ' A) A) ([.ref (ad 2), .int a1] : List Value).toArray s 0 0 A) (F0 m 4 ls []) := by
    intro n
    induction n with
    | zero =>
      intro σ v1 v2 v3 H locs ls hf
      cases hf
    | succ n ih =>
      intro σ v1 v2 v3 H locs ls hf B hl
      have hf : f_X7_numberFor_4 (zlp3 (f_X7_numberFor_4) n) σ v1 v2 v3 = some (r, σ') := hf
      unfold f_X7_numberFor_4 at hf
      refine lv_iload_n hx hb dX7_numberFor_4 rfl (lv_at hl 3 rfl) ?_
      refine lv_aload_n hx hb dX7_numberFor_5 rfl (lv_at hl 0 rfl) ?_
      refine x_geti hx hb hts hinRX7 hown B 2 0 (by decide) (fun _ => rfl) rfl rfl (by decide) (by decide +kernel) rfl dX7_numberFor_6 ?_
      refine lv_icmp_ge (tgt := 31) hx hb dX7_numberFor_9 (by decide) (fun hc => ?_) (fun hc => ?_)
      · have hf := zif_t hc hf
        refine lv_iload_n hx hb dX7_numberFor_31 rfl (lv_at hl 2 rfl) ?_
        refine W.widen (k := 0) (n := 0) (Nat.le_of_ble_eq_true rfl) (Nat.le_of_ble_eq_true rfl) ?_
        exact x_iret hx hb hr rfl hlocks B hf dX7_numberFor_32
      · have hf := zif_f hc hf
        refine lv_aload_n hx hb dX7_numberFor_12 rfl (lv_at hl 0 rfl) ?_
        refine x_getr hx hb hts hinRX7 hown B 2 1 3 (by decide) (by decide) (fun _ => rfl) rfl rfl (by decide) (by decide +kernel) rfl dX7_numberFor_13 ?_
        refine lv_iload_n hx hb dX7_numberFor_16 rfl (lv_at hl 3 rfl) ?_
        obtain ⟨hg, hf⟩ := zg_some hf
        refine x_iald hx hb B 3 (by decide) (fun _ => rfl) (zin_ok hg) dX7_numberFor_17 ?_
        refine lv_iload_n hx hb dX7_numberFor_18 rfl (lv_at hl 1 rfl) ?_
        refine lv_icmp_ne (tgt := 25) hx hb dX7_numberFor_19 (by decide) (fun hc => ?_) (fun hc => ?_)
        · have hf := zif_f hc hf
          refine lv_iinc (v := (v3 + (1 : Int32))) (lv' := [(3, .int (v3 + (1 : Int32))), (0, .ref (ad 2)), (1, .int v1), (2, .int v2)]) hx hb dX7_numberFor_25 hl (k := 3) rfl (zc1 (by decide)) (by decide) rfl (fun ls hl => ?_)
          refine lv_goto (tgt := 4) hx hb dX7_numberFor_28 (by decide) ?_
          exact ih _ _ _ _ _ _ _ hf B (lv_sub hl [1, 2, 3, 0] rfl)
        · have hf := zif_t hc hf
          refine lv_iinc (v := (v2 + (1 : Int32))) (lv' := [(2, .int (v2 + (1 : Int32))), (0, .ref (ad 2)), (1, .int v1), (3, .int v3)]) hx hb dX7_numberFor_22 hl (k := 2) rfl (zc1 (by decide)) (by decide) rfl (fun ls hl => ?_)
          refine lv_iinc (v := (v3 + (1 : Int32))) (lv' := [(3, .int (v3 + (1 : Int32))), (2, .int (v2 + (1 : Int32))), (0, .ref (ad 2)), (1, .int v1)]) hx hb dX7_numberFor_25 hl (k := 3) rfl (zc1 (by decide)) (by decide) rfl (fun ls hl => ?_)
          refine lv_goto (tgt := 4) hx hb dX7_numberFor_28 (by decide) ?_
          exact ih _ _ _ _ _ _ _ hf B (lv_sub hl [2, 3, 1, 0] rfl)
  unfold f_X7_numberFor at hf
  refine lv_iconst (v := (0 : Int32)) hx hb dX7_numberFor_0 (by decide) ?_
  refine lv_istore_n (lv' := [(2, .int (0 : Int32)), (0, .ref (ad 2)), (1, .int a1)]) hx hb dX7_numberFor_1 rfl hl (by decide) rfl (fun ls hl => ?_)
  refine lv_iconst (v := (0 : Int32)) hx hb dX7_numberFor_2 (by decide) ?_
  refine lv_istore_n (lv' := [(3, .int (0 : Int32)), (2, .int (0 : Int32)), (0, .ref (ad 2)), (1, .int a1)]) hx hb dX7_numberFor_3 rfl hl (by decide) rfl (fun ls hl => ?_)
  exact L4  _ _ _ _ _ _ _ _ hf B (lv_sub hl [2, 3, 1, 0] rfl)
