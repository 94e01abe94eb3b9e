theorem dX9_giveBox_0 : decode cX9_giveBox 0 = .ok (.aload_n 0, 1) := by decide +kernel
theorem dX9_giveBox_1 : decode cX9_giveBox 1 = .ok (.iload_n 1, 1) := by decide +kernel
theorem dX9_giveBox_2 : decode cX9_giveBox 2 = .ok (.invokestatic 78, 3) := by decide +kernel
theorem dX9_giveBox_5 : decode cX9_giveBox 5 = .ok (.ifCond .eq 22, 3) := by decide +kernel
theorem dX9_giveBox_8 : decode cX9_giveBox 8 = .ok (.iload_n 2, 1) := by decide +kernel
theorem dX9_giveBox_9 : decode cX9_giveBox 9 = .ok (.invokestatic 78, 3) := by decide +kernel
theorem dX9_giveBox_12 : decode cX9_giveBox 12 = .ok (.ifCond .eq 15, 3) := by decide +kernel
theorem dX9_giveBox_15 : decode cX9_giveBox 15 = .ok (.aload_n 0, 1) := by decide +kernel
theorem dX9_giveBox_16 : decode cX9_giveBox 16 = .ok (.iload_n 3, 1) := by decide +kernel
theorem dX9_giveBox_17 : decode cX9_giveBox 17 = .ok (.invokevirtual 196, 3) := by decide +kernel
theorem dX9_giveBox_20 : decode cX9_giveBox 20 = .ok (.ifCond .eq 7, 3) := by decide +kernel
theorem dX9_giveBox_23 : decode cX9_giveBox 23 = .ok (.iconst 0, 1) := by decide +kernel
theorem dX9_giveBox_24 : decode cX9_giveBox 24 = .ok (.goto 4, 3) := by decide +kernel
theorem dX9_giveBox_27 : decode cX9_giveBox 27 = .ok (.iconst 1, 1) := by decide +kernel
theorem dX9_giveBox_28 : decode cX9_giveBox 28 = .ok (.putfield 41, 3) := by decide +kernel
theorem dX9_giveBox_31 : decode cX9_giveBox 31 = .ok (.aload_n 0, 1) := by decide +kernel
theorem dX9_giveBox_32 : decode cX9_giveBox 32 = .ok (.getfield 41, 3) := by decide +kernel
theorem dX9_giveBox_35 : decode cX9_giveBox 35 = .ok (.ifCond .ne 36, 3) := by decide +kernel
theorem dX9_giveBox_38 : decode cX9_giveBox 38 = .ok (.aload_n 0, 1) := by decide +kernel
theorem dX9_giveBox_39 : decode cX9_giveBox 39 = .ok (.aload_n 0, 1) := by decide +kernel
theorem dX9_giveBox_40 : decode cX9_giveBox 40 = .ok (.getfield 9, 3) := by decide +kernel
theorem dX9_giveBox_43 : decode cX9_giveBox 43 = .ok (.sipush 587, 3) := by decide +kernel
theorem dX9_giveBox_46 : decode cX9_giveBox 46 = .ok (.iload_n 3, 1) := by decide +kernel
theorem dX9_giveBox_47 : decode cX9_giveBox 47 = .ok (.iadd, 1) := by decide +kernel
theorem dX9_giveBox_48 : decode cX9_giveBox 48 = .ok (.iaload, 1) := by decide +kernel
theorem dX9_giveBox_49 : decode cX9_giveBox 49 = .ok (.iload_n 1, 1) := by decide +kernel
theorem dX9_giveBox_50 : decode cX9_giveBox 50 = .ok (.invokestatic 59, 3) := by decide +kernel
theorem dX9_giveBox_53 : decode cX9_giveBox 53 = .ok (.ifCond .eq 7, 3) := by decide +kernel
theorem dX9_giveBox_56 : decode cX9_giveBox 56 = .ok (.iconst 0, 1) := by decide +kernel
theorem dX9_giveBox_57 : decode cX9_giveBox 57 = .ok (.goto 11, 3) := by decide +kernel
theorem dX9_giveBox_60 : decode cX9_giveBox 60 = .ok (.aload_n 0, 1) := by decide +kernel
theorem dX9_giveBox_61 : decode cX9_giveBox 61 = .ok (.bipush 6, 2) := by decide +kernel
theorem dX9_giveBox_63 : decode cX9_giveBox 63 = .ok (.iload_n 3, 1) := by decide +kernel
theorem dX9_giveBox_64 : decode cX9_giveBox 64 = .ok (.iconst 2, 1) := by decide +kernel
theorem dX9_giveBox_65 : decode cX9_giveBox 65 = .ok (.invokevirtual 63, 3) := by decide +kernel
theorem dX9_giveBox_68 : decode cX9_giveBox 68 = .ok (.putfield 41, 3) := by decide +kernel
theorem dX9_giveBox_71 : decode cX9_giveBox 71 = .ok (.aload_n 0, 1) := by decide +kernel
theorem dX9_giveBox_72 : decode cX9_giveBox 72 = .ok (.getfield 41, 3) := by decide +kernel
theorem dX9_giveBox_75 : decode cX9_giveBox 75 = .ok (.ifCond .eq 5, 3) := by decide +kernel
theorem dX9_giveBox_78 : decode cX9_giveBox 78 = .ok (.iconst 0, 1) := by decide +kernel
theorem dX9_giveBox_79 : decode cX9_giveBox 79 = .ok (.ireturn, 1) := by decide +kernel
theorem dX9_giveBox_80 : decode cX9_giveBox 80 = .ok (.aload_n 0, 1) := by decide +kernel
theorem dX9_giveBox_81 : decode cX9_giveBox 81 = .ok (.getfield 9, 3) := by decide +kernel
theorem dX9_giveBox_84 : decode cX9_giveBox 84 = .ok (.sipush 587, 3) := by decide +kernel
theorem dX9_giveBox_87 : decode cX9_giveBox 87 = .ok (.iload_n 3, 1) := by decide +kernel
theorem dX9_giveBox_88 : decode cX9_giveBox 88 = .ok (.iadd, 1) := by decide +kernel
theorem dX9_giveBox_89 : decode cX9_giveBox 89 = .ok (.dup2, 1) := by decide +kernel
theorem dX9_giveBox_90 : decode cX9_giveBox 90 = .ok (.iaload, 1) := by decide +kernel
theorem dX9_giveBox_91 : decode cX9_giveBox 91 = .ok (.iconst 1, 1) := by decide +kernel
theorem dX9_giveBox_92 : decode cX9_giveBox 92 = .ok (.iload_n 2, 1) := by decide +kernel
theorem dX9_giveBox_93 : decode cX9_giveBox 93 = .ok (.ishl, 1) := by decide +kernel
theorem dX9_giveBox_94 : decode cX9_giveBox 94 = .ok (.ior, 1) := by decide +kernel
theorem dX9_giveBox_95 : decode cX9_giveBox 95 = .ok (.iastore, 1) := by decide +kernel
theorem dX9_giveBox_96 : decode cX9_giveBox 96 = .ok (.aload_n 0, 1) := by decide +kernel
theorem dX9_giveBox_97 : decode cX9_giveBox 97 = .ok (.getfield 9, 3) := by decide +kernel
theorem dX9_giveBox_100 : decode cX9_giveBox 100 = .ok (.sipush 587, 3) := by decide +kernel
theorem dX9_giveBox_103 : decode cX9_giveBox 103 = .ok (.iload_n 3, 1) := by decide +kernel
theorem dX9_giveBox_104 : decode cX9_giveBox 104 = .ok (.iadd, 1) := by decide +kernel
theorem dX9_giveBox_105 : decode cX9_giveBox 105 = .ok (.iaload, 1) := by decide +kernel
theorem dX9_giveBox_106 : decode cX9_giveBox 106 = .ok (.ireturn, 1) := by decide +kernel
set_option maxRecDepth 20000 in
theorem ggX9_giveBox_X9_isSubject : GoodIn wsX9_giveBox wsX9_isSubject := goodIn_r _ [6, 7, 8, 5, 9] (by decide +kernel) (by decide +kernel)
set_option maxRecDepth 20000 in
theorem gX9_giveBox_X9_isSubject : GoodIn wsX9_giveBox (va_wsS RX9 78 yX9_isSubject wsX9_isSubject) := goodIn_app (goodIn_of _ (by decide +kernel)) ggX9_giveBox_X9_isSubject
set_option maxRecDepth 20000 in
theorem ggX9_giveBox_X9_has : GoodIn wsX9_giveBox wsX9_has := goodIn_r _ [16] (by decide +kernel) (by decide +kernel)
set_option maxRecDepth 20000 in
theorem gX9_giveBox_X9_has : GoodIn wsX9_giveBox (va_wsS RX9 59 yX9_has wsX9_has) := goodIn_app (goodIn_of _ (by decide +kernel)) ggX9_giveBox_X9_has
set_option maxRecDepth 20000 in
theorem ggX9_giveBox_X9_reports : GoodIn wsX9_giveBox wsX9_reports := goodIn_ca (goodIn_r _ [20, 21, 22, 23, 24, 5, 25, 26, 27, 28, 29, 30, 31, 32, 33, 34, 35, 36, 37, 38, 39, 40, 41, 42, 43, 44, 45, 46, 47] (by decide +kernel) (by decide +kernel)) (goodIn_sub (fun _ h => List.mem_cons_of_mem _ (List.mem_append_right _ h)) (by decide +kernel))
set_option maxRecDepth 20000 in
theorem gX9_giveBox_X9_reports : GoodIn wsX9_giveBox (wsV RX9 63 RX9 yX9_reports wsX9_reports) := goodIn_app (goodIn_of _ (by decide +kernel)) ggX9_giveBox_X9_reports
set_option maxRecDepth 20000 in
theorem ggX9_giveBox_X9_isBox : GoodIn wsX9_giveBox wsX9_isBox := goodIn_ca (goodIn_r _ [13, 2, 7, 8, 5, 9, 28, 29, 30, 31, 32, 33, 34, 35, 36, 37, 38, 39, 40, 41, 42, 43, 44, 45, 46, 47] (by decide +kernel) (by decide +kernel)) (goodIn_sub (fun _ h => List.mem_cons_of_mem _ (List.mem_append_right _ h)) (by decide +kernel))
set_option maxRecDepth 20000 in
theorem gX9_giveBox_X9_isBox : GoodIn wsX9_giveBox (wsV RX9 196 RX9 yX9_isBox wsX9_isBox) := goodIn_app (goodIn_of _ (by decide +kernel)) ggX9_giveBox_X9_isBox
def rm_X9_giveBox : Room := { frames := 3, cells := 0, slots := 0, locals := 61 }
set_option maxHeartbeats 4000000 in
set_option maxRecDepth 100000 in
theorem c_X9_giveBox (l : Launch) {G : zG} {ad : Nat → Nat} {σ σ' : zs} {a1 a2 a3 : Int32} {r : Int32} (hf : f_X9_giveBox σ a1 a2 a3 = some (r, σ')) : xMi l yX9_giveBox wsX9_giveBox rm_X9_giveBox G ad σ [.ref (ad 65), .int a1, .int a2, .int a3] r σ' := by
  intro sz nb a g hs
  refine Met.ofW (cc := cX9_giveBox) (maxL := 4) (ret := (some .int)) (by decide) rfl ?_
  intro p e s m args below meth c s₁ B hml hv
  obtain ⟨rfl, hsz, hv⟩ := hv
  have hx := B.exec
  have hb := B.bytes
  have hr := B.returns
  have hts := atoms_spec (ws := wsX9_giveBox) B.pre
  have hown : s.vm.findClass RX9 = some m.cls := findClass_of_methodNamed B.named
  have hlocks := B.notSynchronized
  subst hsz
  have B := xB_start hs hv
  have hinRX9 : ∀ w ∈ wsX90, w ∈ wsX9_giveBox := by decide +kernel
  have hl := lv_entry ([.ref (ad 65), .int a1, .int a2, .int a3]) (n := 4) (Nat.le_of_ble_eq_true rfl)
  rw [lg_entry_eq]
  generalize (lg_sl ([.ref (ad 65), .int a1, .int a2, .int a3]) ++ List.replicate (4 - (lg_sl ([.ref (ad 65), .int a1, .int a2, .int a3])).length) Slot.unset).toArray = ls at hl ⊢
  have hl : lv_has ls 4 [(0, .ref (ad 65)), (1, .int a1), (2, .int a2), (3, .int a3)] := hl
  generalize hAe : xA ad a s.heap.size = A at B ⊢
  have L71 : ∀ (σ : zs) (v2 : Int32) (v3 : Int32) (H : Heap) (locs : List Loc) (ls : Array Slot), f_X9_giveBox_71 σ v2 v3 = some (r, σ') → xB A s G ad σ H locs → lv_has ls 4 [(0, .ref (ad 65)), (2, .int v2), (3, .int v3)] → W p l e (headSpec wsX9_giveBox rm_X9_giveBox).room s m ([.ref (ad 65), .int a1, .int a2, .int a3] : List Value).toArray below meth c H locs 0 0 (MQ below (va_Qi (fun r' (u : xV) => r' = r ∧ xQ σ' u) (xPost G ad σ' A) A) ([.ref (ad 65), .int a1, .int a2, .int a3] : List Value).toArray s 0 0 A) (F0 m 71 ls []) := by
    intro σ v2 v3 H locs ls hf B hl
    unfold f_X9_giveBox_71 at hf
    refine lv_aload_n hx hb dX9_giveBox_71 rfl (lv_at hl 0 rfl) ?_
    refine x_geti hx hb hts hinRX9 hown B 65 3 (by decide) (fun _ => rfl) rfl rfl (by decide) (by decide +kernel) rfl dX9_giveBox_72 ?_
    refine lv_if_eq (tgt := 80) hx hb dX9_giveBox_75 (by decide) (fun hc => ?_) (fun hc => ?_)
    · have hf := zif_t hc hf
      refine lv_aload_n hx hb dX9_giveBox_80 rfl (lv_at hl 0 rfl) ?_
      refine x_getr hx hb hts hinRX9 hown B 65 0 66 (by decide) (by decide) (fun _ => rfl) rfl rfl (by decide) (by decide +kernel) rfl dX9_giveBox_81 ?_
      refine lv_sipush (v := (587 : Int32)) hx hb dX9_giveBox_84 (by decide) ?_
      refine lv_iload_n hx hb dX9_giveBox_87 rfl (lv_at hl 2 rfl) ?_
      refine lv_iadd hx hb dX9_giveBox_88 ?_
      refine lv_dup2_11 hx hb dX9_giveBox_89 rfl rfl ?_
      obtain ⟨hg, hf⟩ := zg_some hf
      refine x_iald hx hb B 66 (by decide) (fun _ => rfl) (zin_ok hg) dX9_giveBox_90 ?_
      refine lv_iconst (v := (1 : Int32)) hx hb dX9_giveBox_91 (by decide) ?_
      refine lv_iload_n hx hb dX9_giveBox_92 rfl (lv_at hl 1 rfl) ?_
      refine lv_ishl hx hb dX9_giveBox_93 ?_
      refine lv_ior hx hb dX9_giveBox_94 ?_
      obtain ⟨hg, hf⟩ := zg_some hf
      refine x_iast hx hb B 66 (by decide) (by decide) (fun _ => rfl) (zin_ok hg) dX9_giveBox_95 (fun H locs B => ?_)
      refine lv_aload_n hx hb dX9_giveBox_96 rfl (lv_at hl 0 rfl) ?_
      refine x_getr hx hb hts hinRX9 hown B 65 0 66 (by decide) (by decide) (fun _ => rfl) rfl rfl (by decide) (by decide +kernel) rfl dX9_giveBox_97 ?_
      refine lv_sipush (v := (587 : Int32)) hx hb dX9_giveBox_100 (by decide) ?_
      refine lv_iload_n hx hb dX9_giveBox_103 rfl (lv_at hl 2 rfl) ?_
      refine lv_iadd hx hb dX9_giveBox_104 ?_
      obtain ⟨hg, hf⟩ := zg_some hf
      refine x_iald hx hb B 66 (by decide) (fun _ => rfl) (zin_ok hg) dX9_giveBox_105 ?_
      refine W.widen (k := 0) (n := 0) (Nat.le_of_ble_eq_true rfl) (Nat.le_of_ble_eq_true rfl) ?_
      exact x_iret hx hb hr rfl hlocks B hf dX9_giveBox_106
    · have hf := zif_f hc hf
      refine lv_iconst (v := (0 : Int32)) hx hb dX9_giveBox_78 (by decide) ?_
      refine W.widen (k := 0) (n := 0) (Nat.le_of_ble_eq_true rfl) (Nat.le_of_ble_eq_true rfl) ?_
      exact x_iret hx hb hr rfl hlocks B hf dX9_giveBox_79
  have L28 : ∀ (σ : zs) (v1 : Int32) (v2 : Int32) (v3 : Int32) (s0 : Int32) (H : Heap) (locs : List Loc) (ls : Array Slot), f_X9_giveBox_28 σ v1 v2 v3 s0 = some (r, σ') → xB A s G ad σ H locs → lv_has ls 4 [(0, .ref (ad 65)), (1, .int v1), (2, .int v2), (3, .int v3)] → W p l e (headSpec wsX9_giveBox rm_X9_giveBox).room s m ([.ref (ad 65), .int a1, .int a2, .int a3] : List Value).toArray below meth c H locs 0 0 (MQ below (va_Qi (fun r' (u : xV) => r' = r ∧ xQ σ' u) (xPost G ad σ' A) A) ([.ref (ad 65), .int a1, .int a2, .int a3] : List Value).toArray s 0 0 A) (F0 m 28 ls [.int s0, .ref (ad 65)]) := by
    intro σ v1 v2 v3 s0 H locs ls hf B hl
    unfold f_X9_giveBox_28 at hf
    refine x_puti hx hb hts hinRX9 hown tyX9 tyX9_ok nmX9 B 65 3 (by decide) (by decide) (fun _ => rfl) rfl rfl (by decide) (by decide +kernel) rfl rfl rfl rfl dX9_giveBox_28 (fun H locs B => ?_)
    refine lv_aload_n hx hb dX9_giveBox_31 rfl (lv_at hl 0 rfl) ?_
    refine x_geti hx hb hts hinRX9 hown B 65 3 (by decide) (fun _ => rfl) rfl rfl (by decide) (by decide +kernel) rfl dX9_giveBox_32 ?_
    refine lv_if_ne (tgt := 71) hx hb dX9_giveBox_35 (by decide) (fun hc => ?_) (fun hc => ?_)
    · have hf := zif_f hc hf
      exact L71  _ _ _ _ _ _ hf B (lv_sub hl [0, 2, 3] rfl)
    · have hf := zif_t hc hf
      refine lv_aload_n hx hb dX9_giveBox_38 rfl (lv_at hl 0 rfl) ?_
      refine lv_aload_n hx hb dX9_giveBox_39 rfl (lv_at hl 0 rfl) ?_
      refine x_getr hx hb hts hinRX9 hown B 65 0 66 (by decide) (by decide) (fun _ => rfl) rfl rfl (by decide) (by decide +kernel) rfl dX9_giveBox_40 ?_
      refine lv_sipush (v := (587 : Int32)) hx hb dX9_giveBox_43 (by decide) ?_
      refine lv_iload_n hx hb dX9_giveBox_46 rfl (lv_at hl 3 rfl) ?_
      refine lv_iadd hx hb dX9_giveBox_47 ?_
      obtain ⟨hg, hf⟩ := zg_some hf
      refine x_iald hx hb B 66 (by decide) (fun _ => rfl) (zin_ok hg) dX9_giveBox_48 ?_
      refine lv_iload_n hx hb dX9_giveBox_49 rfl (lv_at hl 1 rfl) ?_
      obtain ⟨r5, σ6, hu4, hf⟩ := zb_some hf
      refine x_i B (fun nb a g hs Bz => va_runS (As := [.int ((zp σ 65 3 s0) 66 ((587 : Int32) + v3).toNatClampNeg), .int v1]) (rest := [.ref (ad 65)]) ⟨hx, hb, hml, hown, hts⟩ (c_X9_has l hu4 _ nb a g hs) (va_cwS 2 hts gX9_giveBox_X9_has rfl rfl rfl (by decide +kernel) ⟨Nat.le_of_ble_eq_true rfl, Nat.le_of_ble_eq_true rfl⟩) (z_preS Bz) rfl rfl hl.1 rfl (lv_room (Nat.le_of_ble_eq_true rfl)) dX9_giveBox_50 ⟨Nat.le_of_ble_eq_true rfl, Nat.le_of_ble_eq_true rfl⟩) (fun H locs B => ?_)
      refine lv_if_eq (tgt := 60) hx hb dX9_giveBox_53 (by decide) (fun hc => ?_) (fun hc => ?_)
      · have hf := zif_t hc hf
        refine lv_aload_n hx hb dX9_giveBox_60 rfl (lv_at hl 0 rfl) ?_
        refine lv_bipush (v := (6 : Int32)) hx hb dX9_giveBox_61 (by decide) ?_
        refine lv_iload_n hx hb dX9_giveBox_63 rfl (lv_at hl 3 rfl) ?_
        refine lv_iconst (v := (2 : Int32)) hx hb dX9_giveBox_64 (by decide) ?_
        obtain ⟨r8, σ9, hu7, hf⟩ := zb_some hf
        refine x_i B (fun nb a g hs Bz => va_runV (As := [.int (6 : Int32), .int v3, .int (2 : Int32)]) (rest := [.ref (ad 65)]) ⟨hx, hb, hml, hown, hts⟩ (c_X9_reports l hu7 _ nb a g hs) (cwV 3 hts gX9_giveBox_X9_reports rfl rfl rfl (by decide +kernel) ⟨Nat.le_of_ble_eq_true rfl, Nat.le_of_ble_eq_true rfl⟩) (x_preV Bz (by decide) (fun _ => rfl) rfl) rfl rfl hl.1 rfl (lv_room (Nat.le_of_ble_eq_true rfl)) dX9_giveBox_65 ⟨Nat.le_of_ble_eq_true rfl, Nat.le_of_ble_eq_true rfl⟩) (fun H locs B => ?_)
        refine x_puti hx hb hts hinRX9 hown tyX9 tyX9_ok nmX9 B 65 3 (by decide) (by decide) (fun _ => rfl) rfl rfl (by decide) (by decide +kernel) rfl rfl rfl rfl dX9_giveBox_68 (fun H locs B => ?_)
        exact L71  _ _ _ _ _ _ hf B (lv_sub hl [0, 2, 3] rfl)
      · have hf := zif_f hc hf
        refine lv_iconst (v := (0 : Int32)) hx hb dX9_giveBox_56 (by decide) ?_
        refine lv_goto (tgt := 68) hx hb dX9_giveBox_57 (by decide) ?_
        refine x_puti hx hb hts hinRX9 hown tyX9 tyX9_ok nmX9 B 65 3 (by decide) (by decide) (fun _ => rfl) rfl rfl (by decide) (by decide +kernel) rfl rfl rfl rfl dX9_giveBox_68 (fun H locs B => ?_)
        exact L71  _ _ _ _ _ _ hf B (lv_sub hl [0, 2, 3] rfl)
  unfold f_X9_giveBox at hf
  refine lv_aload_n hx hb dX9_giveBox_0 rfl (lv_at hl 0 rfl) ?_
  refine lv_iload_n hx hb dX9_giveBox_1 rfl (lv_at hl 1 rfl) ?_
  obtain ⟨r2, σ3, hu1, hf⟩ := zb_some hf
  refine x_i B (fun nb a g hs Bz => va_runS (As := [.int a1]) (rest := [.ref (ad 65)]) ⟨hx, hb, hml, hown, hts⟩ (c_X9_isSubject l hu1 _ nb a g hs) (va_cwS 1 hts gX9_giveBox_X9_isSubject rfl rfl rfl (by decide +kernel) ⟨Nat.le_of_ble_eq_true rfl, Nat.le_of_ble_eq_true rfl⟩) (z_preS Bz) rfl rfl hl.1 rfl (lv_room (Nat.le_of_ble_eq_true rfl)) dX9_giveBox_2 ⟨Nat.le_of_ble_eq_true rfl, Nat.le_of_ble_eq_true rfl⟩) (fun H locs B => ?_)
  refine lv_if_eq (tgt := 27) hx hb dX9_giveBox_5 (by decide) (fun hc => ?_) (fun hc => ?_)
  · have hf := zif_t hc hf
    refine lv_iconst (v := (1 : Int32)) hx hb dX9_giveBox_27 (by decide) ?_
    exact L28  _ _ _ _ _ _ _ _ hf B (lv_sub hl [0, 1, 2, 3] rfl)
  · have hf := zif_f hc hf
    refine lv_iload_n hx hb dX9_giveBox_8 rfl (lv_at hl 2 rfl) ?_
    obtain ⟨r11, σ12, hu10, hf⟩ := zb_some hf
    refine x_i B (fun nb a g hs Bz => va_runS (As := [.int a2]) (rest := [.ref (ad 65)]) ⟨hx, hb, hml, hown, hts⟩ (c_X9_isSubject l hu10 _ nb a g hs) (va_cwS 1 hts gX9_giveBox_X9_isSubject rfl rfl rfl (by decide +kernel) ⟨Nat.le_of_ble_eq_true rfl, Nat.le_of_ble_eq_true rfl⟩) (z_preS Bz) rfl rfl hl.1 rfl (lv_room (Nat.le_of_ble_eq_true rfl)) dX9_giveBox_9 ⟨Nat.le_of_ble_eq_true rfl, Nat.le_of_ble_eq_true rfl⟩) (fun H locs B => ?_)
    refine lv_if_eq (tgt := 27) hx hb dX9_giveBox_12 (by decide) (fun hc => ?_) (fun hc => ?_)
    · have hf := zif_t hc hf
      refine lv_iconst (v := (1 : Int32)) hx hb dX9_giveBox_27 (by decide) ?_
      exact L28  _ _ _ _ _ _ _ _ hf B (lv_sub hl [0, 1, 2, 3] rfl)
    · have hf := zif_f hc hf
      refine lv_aload_n hx hb dX9_giveBox_15 rfl (lv_at hl 0 rfl) ?_
      refine lv_iload_n hx hb dX9_giveBox_16 rfl (lv_at hl 3 rfl) ?_
      obtain ⟨r14, σ15, hu13, hf⟩ := zb_some hf
      refine x_i B (fun nb a g hs Bz => va_runV (As := [.int a3]) (rest := [.ref (ad 65)]) ⟨hx, hb, hml, hown, hts⟩ (c_X9_isBox l hu13 _ nb a g hs) (cwV 1 hts gX9_giveBox_X9_isBox rfl rfl rfl (by decide +kernel) ⟨Nat.le_of_ble_eq_true rfl, Nat.le_of_ble_eq_true rfl⟩) (x_preV Bz (by decide) (fun _ => rfl) rfl) rfl rfl hl.1 rfl (lv_room (Nat.le_of_ble_eq_true rfl)) dX9_giveBox_17 ⟨Nat.le_of_ble_eq_true rfl, Nat.le_of_ble_eq_true rfl⟩) (fun H locs B => ?_)
      refine lv_if_eq (tgt := 27) hx hb dX9_giveBox_20 (by decide) (fun hc => ?_) (fun hc => ?_)
      · have hf := zif_t hc hf
        refine lv_iconst (v := (1 : Int32)) hx hb dX9_giveBox_27 (by decide) ?_
        exact L28  _ _ _ _ _ _ _ _ hf B (lv_sub hl [0, 1, 2, 3] rfl)
      · have hf := zif_f hc hf
        refine lv_iconst (v := (0 : Int32)) hx hb dX9_giveBox_23 (by decide) ?_
        refine lv_goto (tgt := 28) hx hb dX9_giveBox_24 (by decide) ?_
        exact L28  _ _ _ _ _ _ _ _ hf B (lv_sub hl [0, 1, 2, 3] rfl)
theorem dX9_unseal_0 : decode cX9_unseal 0 = .ok (.aload_n 0, 1) := by decide +kernel
theorem dX9_unseal_1 : decode cX9_unseal 1 = .ok (.iload_n 1, 1) := by decide +kernel
theorem dX9_unseal_2 : decode cX9_unseal 2 = .ok (.invokestatic 78, 3) := by decide +kernel
theorem dX9_unseal_5 : decode cX9_unseal 5 = .ok (.ifCond .eq 15, 3) := by decide +kernel
theorem dX9_unseal_8 : decode cX9_unseal 8 = .ok (.aload_n 0, 1) := by decide +kernel
theorem dX9_unseal_9 : decode cX9_unseal 9 = .ok (.iload_n 2, 1) := by decide +kernel
theorem dX9_unseal_10 : decode cX9_unseal 10 = .ok (.invokevirtual 196, 3) := by decide +kernel
theorem dX9_unseal_13 : decode cX9_unseal 13 = .ok (.ifCond .eq 7, 3) := by decide +kernel
theorem dX9_unseal_16 : decode cX9_unseal 16 = .ok (.iconst 0, 1) := by decide +kernel
theorem dX9_unseal_17 : decode cX9_unseal 17 = .ok (.goto 4, 3) := by decide +kernel
theorem dX9_unseal_20 : decode cX9_unseal 20 = .ok (.iconst 1, 1) := by decide +kernel
theorem dX9_unseal_21 : decode cX9_unseal 21 = .ok (.putfield 41, 3) := by decide +kernel
theorem dX9_unseal_24 : decode cX9_unseal 24 = .ok (.aload_n 0, 1) := by decide +kernel
theorem dX9_unseal_25 : decode cX9_unseal 25 = .ok (.getfield 41, 3) := by decide +kernel
theorem dX9_unseal_28 : decode cX9_unseal 28 = .ok (.ifCond .ne 74, 3) := by decide +kernel
theorem dX9_unseal_31 : decode cX9_unseal 31 = .ok (.aload_n 0, 1) := by decide +kernel
theorem dX9_unseal_32 : decode cX9_unseal 32 = .ok (.getfield 9, 3) := by decide +kernel
theorem dX9_unseal_35 : decode cX9_unseal 35 = .ok (.sipush 563, 3) := by decide +kernel
theorem dX9_unseal_38 : decode cX9_unseal 38 = .ok (.iload_n 2, 1) := by decide +kernel
theorem dX9_unseal_39 : decode cX9_unseal 39 = .ok (.iadd, 1) := by decide +kernel
theorem dX9_unseal_40 : decode cX9_unseal 40 = .ok (.iaload, 1) := by decide +kernel
theorem dX9_unseal_41 : decode cX9_unseal 41 = .ok (.istore_n 3, 1) := by decide +kernel
theorem dX9_unseal_42 : decode cX9_unseal 42 = .ok (.aload_n 0, 1) := by decide +kernel
theorem dX9_unseal_43 : decode cX9_unseal 43 = .ok (.aload_n 0, 1) := by decide +kernel
theorem dX9_unseal_44 : decode cX9_unseal 44 = .ok (.getfield 9, 3) := by decide +kernel
theorem dX9_unseal_47 : decode cX9_unseal 47 = .ok (.sipush 587, 3) := by decide +kernel
theorem dX9_unseal_50 : decode cX9_unseal 50 = .ok (.iload_n 2, 1) := by decide +kernel
theorem dX9_unseal_51 : decode cX9_unseal 51 = .ok (.iadd, 1) := by decide +kernel
theorem dX9_unseal_52 : decode cX9_unseal 52 = .ok (.iaload, 1) := by decide +kernel
theorem dX9_unseal_53 : decode cX9_unseal 53 = .ok (.iload_n 1, 1) := by decide +kernel
theorem dX9_unseal_54 : decode cX9_unseal 54 = .ok (.invokestatic 59, 3) := by decide +kernel
theorem dX9_unseal_57 : decode cX9_unseal 57 = .ok (.ifCond .ne 14, 3) := by decide +kernel
theorem dX9_unseal_60 : decode cX9_unseal 60 = .ok (.aload_n 0, 1) := by decide +kernel
theorem dX9_unseal_61 : decode cX9_unseal 61 = .ok (.bipush 6, 2) := by decide +kernel
theorem dX9_unseal_63 : decode cX9_unseal 63 = .ok (.iload_n 2, 1) := by decide +kernel
theorem dX9_unseal_64 : decode cX9_unseal 64 = .ok (.iconst 2, 1) := by decide +kernel
theorem dX9_unseal_65 : decode cX9_unseal 65 = .ok (.invokevirtual 63, 3) := by decide +kernel
theorem dX9_unseal_68 : decode cX9_unseal 68 = .ok (.goto 31, 3) := by decide +kernel
theorem dX9_unseal_71 : decode cX9_unseal 71 = .ok (.aload_n 0, 1) := by decide +kernel
theorem dX9_unseal_72 : decode cX9_unseal 72 = .ok (.getfield 9, 3) := by decide +kernel
theorem dX9_unseal_75 : decode cX9_unseal 75 = .ok (.sipush 559, 3) := by decide +kernel
theorem dX9_unseal_78 : decode cX9_unseal 78 = .ok (.iload_n 3, 1) := by decide +kernel
theorem dX9_unseal_79 : decode cX9_unseal 79 = .ok (.iadd, 1) := by decide +kernel
theorem dX9_unseal_80 : decode cX9_unseal 80 = .ok (.iaload, 1) := by decide +kernel
theorem dX9_unseal_81 : decode cX9_unseal 81 = .ok (.iload_n 1, 1) := by decide +kernel
theorem dX9_unseal_82 : decode cX9_unseal 82 = .ok (.invokestatic 59, 3) := by decide +kernel
theorem dX9_unseal_85 : decode cX9_unseal 85 = .ok (.ifCond .ne 13, 3) := by decide +kernel
theorem dX9_unseal_88 : decode cX9_unseal 88 = .ok (.aload_n 0, 1) := by decide +kernel
theorem dX9_unseal_89 : decode cX9_unseal 89 = .ok (.iconst 5, 1) := by decide +kernel
theorem dX9_unseal_90 : decode cX9_unseal 90 = .ok (.iload_n 3, 1) := by decide +kernel
theorem dX9_unseal_91 : decode cX9_unseal 91 = .ok (.iconst 2, 1) := by decide +kernel
theorem dX9_unseal_92 : decode cX9_unseal 92 = .ok (.invokevirtual 63, 3) := by decide +kernel
theorem dX9_unseal_95 : decode cX9_unseal 95 = .ok (.goto 4, 3) := by decide +kernel
theorem dX9_unseal_98 : decode cX9_unseal 98 = .ok (.iconst 0, 1) := by decide +kernel
theorem dX9_unseal_99 : decode cX9_unseal 99 = .ok (.putfield 41, 3) := by decide +kernel
theorem dX9_unseal_102 : decode cX9_unseal 102 = .ok (.aload_n 0, 1) := by decide +kernel
theorem dX9_unseal_103 : decode cX9_unseal 103 = .ok (.getfield 41, 3) := by decide +kernel
theorem dX9_unseal_106 : decode cX9_unseal 106 = .ok (.ifCond .eq 5, 3) := by decide +kernel
theorem dX9_unseal_109 : decode cX9_unseal 109 = .ok (.iconst 0, 1) := by decide +kernel
theorem dX9_unseal_110 : decode cX9_unseal 110 = .ok (.ireturn, 1) := by decide +kernel
theorem dX9_unseal_111 : decode cX9_unseal 111 = .ok (.aload_n 0, 1) := by decide +kernel
theorem dX9_unseal_112 : decode cX9_unseal 112 = .ok (.getfield 9, 3) := by decide +kernel
theorem dX9_unseal_115 : decode cX9_unseal 115 = .ok (.bipush 107, 2) := by decide +kernel
theorem dX9_unseal_117 : decode cX9_unseal 117 = .ok (.aload_n 0, 1) := by decide +kernel
theorem dX9_unseal_118 : decode cX9_unseal 118 = .ok (.getfield 9, 3) := by decide +kernel
theorem dX9_unseal_121 : decode cX9_unseal 121 = .ok (.sipush 575, 3) := by decide +kernel
theorem dX9_unseal_124 : decode cX9_unseal 124 = .ok (.iload_n 2, 1) := by decide +kernel
theorem dX9_unseal_125 : decode cX9_unseal 125 = .ok (.iadd, 1) := by decide +kernel
theorem dX9_unseal_126 : decode cX9_unseal 126 = .ok (.iaload, 1) := by decide +kernel
theorem dX9_unseal_127 : decode cX9_unseal 127 = .ok (.iadd, 1) := by decide +kernel
theorem dX9_unseal_128 : decode cX9_unseal 128 = .ok (.dup2, 1) := by decide +kernel
theorem dX9_unseal_129 : decode cX9_unseal 129 = .ok (.iaload, 1) := by decide +kernel
theorem dX9_unseal_130 : decode cX9_unseal 130 = .ok (.iconst 1, 1) := by decide +kernel
theorem dX9_unseal_131 : decode cX9_unseal 131 = .ok (.iload_n 1, 1) := by decide +kernel
theorem dX9_unseal_132 : decode cX9_unseal 132 = .ok (.ishl, 1) := by decide +kernel
theorem dX9_unseal_133 : decode cX9_unseal 133 = .ok (.ior, 1) := by decide +kernel
theorem dX9_unseal_134 : decode cX9_unseal 134 = .ok (.iastore, 1) := by decide +kernel
theorem dX9_unseal_135 : decode cX9_unseal 135 = .ok (.aload_n 0, 1) := by decide +kernel
theorem dX9_unseal_136 : decode cX9_unseal 136 = .ok (.getfield 9, 3) := by decide +kernel
theorem dX9_unseal_139 : decode cX9_unseal 139 = .ok (.sipush 575, 3) := by decide +kernel
theorem dX9_unseal_142 : decode cX9_unseal 142 = .ok (.iload_n 2, 1) := by decide +kernel
theorem dX9_unseal_143 : decode cX9_unseal 143 = .ok (.iadd, 1) := by decide +kernel
theorem dX9_unseal_144 : decode cX9_unseal 144 = .ok (.iaload, 1) := by decide +kernel
theorem dX9_unseal_145 : decode cX9_unseal 145 = .ok (.ireturn, 1) := by decide +kernel
set_option maxRecDepth 20000 in
theorem ggX9_unseal_X9_isSubject : GoodIn wsX9_unseal wsX9_isSubject := goodIn_r _ [6, 7, 8, 5, 9] (by decide +kernel) (by decide +kernel)
set_option maxRecDepth 20000 in
theorem gX9_unseal_X9_isSubject : GoodIn wsX9_unseal (va_wsS RX9 78 yX9_isSubject wsX9_isSubject) := goodIn_app (goodIn_of _ (by decide +kernel)) ggX9_unseal_X9_isSubject
set_option maxRecDepth 20000 in
theorem ggX9_unseal_X9_has : GoodIn wsX9_unseal wsX9_has := goodIn_r _ [16] (by decide +kernel) (by decide +kernel)
set_option maxRecDepth 20000 in
theorem gX9_unseal_X9_has : GoodIn wsX9_unseal (va_wsS RX9 59 yX9_has wsX9_has) := goodIn_app (goodIn_of _ (by decide +kernel)) ggX9_unseal_X9_has
set_option maxRecDepth 20000 in
theorem ggX9_unseal_X9_reports : GoodIn wsX9_unseal wsX9_reports := goodIn_ca (goodIn_r _ [20, 21, 22, 23, 24, 5, 25, 26, 27, 28, 29, 30, 31, 32, 33, 34, 35, 36, 37, 38, 39, 40, 41, 42, 43, 44, 45, 46, 47] (by decide +kernel) (by decide +kernel)) (goodIn_sub (fun _ h => List.mem_cons_of_mem _ (List.mem_append_right _ h)) (by decide +kernel))
set_option maxRecDepth 20000 in
theorem gX9_unseal_X9_reports : GoodIn wsX9_unseal (wsV RX9 63 RX9 yX9_reports wsX9_reports) := goodIn_app (goodIn_of _ (by decide +kernel)) ggX9_unseal_X9_reports
set_option maxRecDepth 20000 in
theorem ggX9_unseal_X9_isBox : GoodIn wsX9_unseal wsX9_isBox := goodIn_ca (goodIn_r _ [13, 2, 7, 8, 5, 9, 28, 29, 30, 31, 32, 33, 34, 35, 36, 37, 38, 39, 40, 41, 42, 43, 44, 45, 46, 47] (by decide +kernel) (by decide +kernel)) (goodIn_sub (fun _ h => List.mem_cons_of_mem _ (List.mem_append_right _ h)) (by decide +kernel))
set_option maxRecDepth 20000 in
theorem gX9_unseal_X9_isBox : GoodIn wsX9_unseal (wsV RX9 196 RX9 yX9_isBox wsX9_isBox) := goodIn_app (goodIn_of _ (by decide +kernel)) ggX9_unseal_X9_isBox
def rm_X9_unseal : Room := { frames := 3, cells := 0, slots := 0, locals := 61 }
set_option maxHeartbeats 4000000 in
set_option maxRecDepth 100000 in
theorem c_X9_unseal (l : Launch) {G : zG} {ad : Nat → Nat} {σ σ' : zs} {a1 a2 : Int32} {r : Int32} (hf : f_X9_unseal σ a1 a2 = some (r, σ')) : xMi l yX9_unseal wsX9_unseal rm_X9_unseal G ad σ [.ref (ad 65), .int a1, .int a2] r σ' := by
  intro sz nb a g hs
  refine Met.ofW (cc := cX9_unseal) (maxL := 4) (ret := (some .int)) (by decide) rfl ?_
  intro p e s m args below meth c s₁ B hml hv
  obtain ⟨rfl, hsz, hv⟩ := hv
  have hx := B.exec
  have hb := B.bytes
  have hr := B.returns
  have hts := atoms_spec (ws := wsX9_unseal) B.pre
  have hown : s.vm.findClass RX9 = some m.cls := findClass_of_methodNamed B.named
  have hlocks := B.notSynchronized
  subst hsz
  have B := xB_start hs hv
  have hinRX9 : ∀ w ∈ wsX90, w ∈ wsX9_unseal := by decide +kernel
  have hl := lv_entry ([.ref (ad 65), .int a1, .int a2]) (n := 4) (Nat.le_of_ble_eq_true rfl)
  rw [lg_entry_eq]
  generalize (lg_sl ([.ref (ad 65), .int a1, .int a2]) ++ List.replicate (4 - (lg_sl ([.ref (ad 65), .int a1, .int a2])).length) Slot.unset).toArray = ls at hl ⊢
  have hl : lv_has ls 4 [(0, .ref (ad 65)), (1, .int a1), (2, .int a2)] := hl
  generalize hAe : xA ad a s.heap.size = A at B ⊢
  have L102 : ∀ (σ : zs) (v1 : Int32) (v2 : Int32) (H : Heap) (locs : List Loc) (ls : Array Slot), f_X9_unseal_102 σ v1 v2 = some (r, σ') → xB A s G ad σ H locs → lv_has ls 4 [(0, .ref (ad 65)), (1, .int v1), (2, .int v2)] → W p l e (headSpec wsX9_unseal rm_X9_unseal).room s m ([.ref (ad 65), .int a1, .int a2] : List Value).toArray below meth c H locs 0 0 (MQ below (va_Qi (fun r' (u : xV) => r' = r ∧ xQ σ' u) (xPost G ad σ' A) A) ([.ref (ad 65), .int a1, .int a2] : List Value).toArray s 0 0 A) (F0 m 102 ls []) := by
    intro σ v1 v2 H locs ls hf B hl
    unfold f_X9_unseal_102 at hf
    refine lv_aload_n hx hb dX9_unseal_102 rfl (lv_at hl 0 rfl) ?_
    refine x_geti hx hb hts hinRX9 hown B 65 3 (by decide) (fun _ => rfl) rfl rfl (by decide) (by decide +kernel) rfl dX9_unseal_103 ?_
    refine lv_if_eq (tgt := 111) hx hb dX9_unseal_106 (by decide) (fun hc => ?_) (fun hc => ?_)
    · have hf := zif_t hc hf
      refine lv_aload_n hx hb dX9_unseal_111 rfl (lv_at hl 0 rfl) ?_
      refine x_getr hx hb hts hinRX9 hown B 65 0 66 (by decide) (by decide) (fun _ => rfl) rfl rfl (by decide) (by decide +kernel) rfl dX9_unseal_112 ?_
      refine lv_bipush (v := (107 : Int32)) hx hb dX9_unseal_115 (by decide) ?_
      refine lv_aload_n hx hb dX9_unseal_117 rfl (lv_at hl 0 rfl) ?_
      refine x_getr hx hb hts hinRX9 hown B 65 0 66 (by decide) (by decide) (fun _ => rfl) rfl rfl (by decide) (by decide +kernel) rfl dX9_unseal_118 ?_
      refine lv_sipush (v := (575 : Int32)) hx hb dX9_unseal_121 (by decide) ?_
      refine lv_iload_n hx hb dX9_unseal_124 rfl (lv_at hl 2 rfl) ?_
      refine lv_iadd hx hb dX9_unseal_125 ?_
      obtain ⟨hg, hf⟩ := zg_some hf
      refine x_iald hx hb B 66 (by decide) (fun _ => rfl) (zin_ok hg) dX9_unseal_126 ?_
      refine lv_iadd hx hb dX9_unseal_127 ?_
      refine lv_dup2_11 hx hb dX9_unseal_128 rfl rfl ?_
      obtain ⟨hg, hf⟩ := zg_some hf
      refine x_iald hx hb B 66 (by decide) (fun _ => rfl) (zin_ok hg) dX9_unseal_129 ?_
      refine lv_iconst (v := (1 : Int32)) hx hb dX9_unseal_130 (by decide) ?_
      refine lv_iload_n hx hb dX9_unseal_131 rfl (lv_at hl 1 rfl) ?_
      refine lv_ishl hx hb dX9_unseal_132 ?_
      refine lv_ior hx hb dX9_unseal_133 ?_
      obtain ⟨hg, hf⟩ := zg_some hf
      refine x_iast hx hb B 66 (by decide) (by decide) (fun _ => rfl) (zin_ok hg) dX9_unseal_134 (fun H locs B => ?_)
      refine lv_aload_n hx hb dX9_unseal_135 rfl (lv_at hl 0 rfl) ?_
      refine x_getr hx hb hts hinRX9 hown B 65 0 66 (by decide) (by decide) (fun _ => rfl) rfl rfl (by decide) (by decide +kernel) rfl dX9_unseal_136 ?_
      refine lv_sipush (v := (575 : Int32)) hx hb dX9_unseal_139 (by decide) ?_
      refine lv_iload_n hx hb dX9_unseal_142 rfl (lv_at hl 2 rfl) ?_
      refine lv_iadd hx hb dX9_unseal_143 ?_
      obtain ⟨hg, hf⟩ := zg_some hf
      refine x_iald hx hb B 66 (by decide) (fun _ => rfl) (zin_ok hg) dX9_unseal_144 ?_
      refine W.widen (k := 0) (n := 0) (Nat.le_of_ble_eq_true rfl) (Nat.le_of_ble_eq_true rfl) ?_
      exact x_iret hx hb hr rfl hlocks B hf dX9_unseal_145
    · have hf := zif_f hc hf
      refine lv_iconst (v := (0 : Int32)) hx hb dX9_unseal_109 (by decide) ?_
      refine W.widen (k := 0) (n := 0) (Nat.le_of_ble_eq_true rfl) (Nat.le_of_ble_eq_true rfl) ?_
      exact x_iret hx hb hr rfl hlocks B hf dX9_unseal_110
  have L21 : ∀ (σ : zs) (v1 : Int32) (v2 : Int32) (s0 : Int32) (H : Heap) (locs : List Loc) (ls : Array Slot), f_X9_unseal_21 σ v1 v2 s0 = some (r, σ') → xB A s G ad σ H locs → lv_has ls 4 [(0, .ref (ad 65)), (1, .int v1), (2, .int v2)] → W p l e (headSpec wsX9_unseal rm_X9_unseal).room s m ([.ref (ad 65), .int a1, .int a2] : List Value).toArray below meth c H locs 0 0 (MQ below (va_Qi (fun r' (u : xV) => r' = r ∧ xQ σ' u) (xPost G ad σ' A) A) ([.ref (ad 65), .int a1, .int a2] : List Value).toArray s 0 0 A) (F0 m 21 ls [.int s0, .ref (ad 65)]) := by
    intro σ v1 v2 s0 H locs ls hf B hl
    unfold f_X9_unseal_21 at hf
    refine x_puti hx hb hts hinRX9 hown tyX9 tyX9_ok nmX9 B 65 3 (by decide) (by decide) (fun _ => rfl) rfl rfl (by decide) (by decide +kernel) rfl rfl rfl rfl dX9_unseal_21 (fun H locs B => ?_)
    refine lv_aload_n hx hb dX9_unseal_24 rfl (lv_at hl 0 rfl) ?_
    refine x_geti hx hb hts hinRX9 hown B 65 3 (by decide) (fun _ => rfl) rfl rfl (by decide) (by decide +kernel) rfl dX9_unseal_25 ?_
    refine lv_if_ne (tgt := 102) hx hb dX9_unseal_28 (by decide) (fun hc => ?_) (fun hc => ?_)
    · have hf := zif_f hc hf
      exact L102  _ _ _ _ _ _ hf B (lv_sub hl [0, 1, 2] rfl)
    · have hf := zif_t hc hf
      refine lv_aload_n hx hb dX9_unseal_31 rfl (lv_at hl 0 rfl) ?_
      refine x_getr hx hb hts hinRX9 hown B 65 0 66 (by decide) (by decide) (fun _ => rfl) rfl rfl (by decide) (by decide +kernel) rfl dX9_unseal_32 ?_
      refine lv_sipush (v := (563 : Int32)) hx hb dX9_unseal_35 (by decide) ?_
      refine lv_iload_n hx hb dX9_unseal_38 rfl (lv_at hl 2 rfl) ?_
      refine lv_iadd hx hb dX9_unseal_39 ?_
      obtain ⟨hg, hf⟩ := zg_some hf
      refine x_iald hx hb B 66 (by decide) (fun _ => rfl) (zin_ok hg) dX9_unseal_40 ?_
      refine lv_istore_n (lv' := [(3, .int ((zp σ 65 3 s0) 66 ((563 : Int32) + v2).toNatClampNeg)), (0, .ref (ad 65)), (1, .int v1), (2, .int v2)]) hx hb dX9_unseal_41 rfl hl (by decide) rfl (fun ls hl => ?_)
      refine lv_aload_n hx hb dX9_unseal_42 rfl (lv_at hl 1 rfl) ?_
      refine lv_aload_n hx hb dX9_unseal_43 rfl (lv_at hl 1 rfl) ?_
      refine x_getr hx hb hts hinRX9 hown B 65 0 66 (by decide) (by decide) (fun _ => rfl) rfl rfl (by decide) (by decide +kernel) rfl dX9_unseal_44 ?_
      refine lv_sipush (v := (587 : Int32)) hx hb dX9_unseal_47 (by decide) ?_
      refine lv_iload_n hx hb dX9_unseal_50 rfl (lv_at hl 3 rfl) ?_
      refine lv_iadd hx hb dX9_unseal_51 ?_
      obtain ⟨hg, hf⟩ := zg_some hf
      refine x_iald hx hb B 66 (by decide) (fun _ => rfl) (zin_ok hg) dX9_unseal_52 ?_
      refine lv_iload_n hx hb dX9_unseal_53 rfl (lv_at hl 2 rfl) ?_
      obtain ⟨r5, σ6, hu4, hf⟩ := zb_some hf
      refine x_i B (fun nb a g hs Bz => va_runS (As := [.int ((zp σ 65 3 s0) 66 ((587 : Int32) + v2).toNatClampNeg), .int v1]) (rest := [.ref (ad 65)]) ⟨hx, hb, hml, hown, hts⟩ (c_X9_has l hu4 _ nb a g hs) (va_cwS 2 hts gX9_unseal_X9_has rfl rfl rfl (by decide +kernel) ⟨Nat.le_of_ble_eq_true rfl, Nat.le_of_ble_eq_true rfl⟩) (z_preS Bz) rfl rfl hl.1 rfl (lv_room (Nat.le_of_ble_eq_true rfl)) dX9_unseal_54 ⟨Nat.le_of_ble_eq_true rfl, Nat.le_of_ble_eq_true rfl⟩) (fun H locs B => ?_)
      refine lv_if_ne (tgt := 71) hx hb dX9_unseal_57 (by decide) (fun hc => ?_) (fun hc => ?_)
      · have hf := zif_f hc hf
        refine lv_aload_n hx hb dX9_unseal_71 rfl (lv_at hl 1 rfl) ?_
        refine x_getr hx hb hts hinRX9 hown B 65 0 66 (by decide) (by decide) (fun _ => rfl) rfl rfl (by decide) (by decide +kernel) rfl dX9_unseal_72 ?_
        refine lv_sipush (v := (559 : Int32)) hx hb dX9_unseal_75 (by decide) ?_
        refine lv_iload_n hx hb dX9_unseal_78 rfl (lv_at hl 0 rfl) ?_
        refine lv_iadd hx hb dX9_unseal_79 ?_
        obtain ⟨hg, hf⟩ := zg_some hf
        refine x_iald hx hb B 66 (by decide) (fun _ => rfl) (zin_ok hg) dX9_unseal_80 ?_
        refine lv_iload_n hx hb dX9_unseal_81 rfl (lv_at hl 2 rfl) ?_
        obtain ⟨r8, σ9, hu7, hf⟩ := zb_some hf
        refine x_i B (fun nb a g hs Bz => va_runS (As := [.int (σ6 66 ((559 : Int32) + ((zp σ 65 3 s0) 66 ((563 : Int32) + v2).toNatClampNeg)).toNatClampNeg), .int v1]) (rest := [.ref (ad 65)]) ⟨hx, hb, hml, hown, hts⟩ (c_X9_has l hu7 _ nb a g hs) (va_cwS 2 hts gX9_unseal_X9_has rfl rfl rfl (by decide +kernel) ⟨Nat.le_of_ble_eq_true rfl, Nat.le_of_ble_eq_true rfl⟩) (z_preS Bz) rfl rfl hl.1 rfl (lv_room (Nat.le_of_ble_eq_true rfl)) dX9_unseal_82 ⟨Nat.le_of_ble_eq_true rfl, Nat.le_of_ble_eq_true rfl⟩) (fun H locs B => ?_)
        refine lv_if_ne (tgt := 98) hx hb dX9_unseal_85 (by decide) (fun hc => ?_) (fun hc => ?_)
        · have hf := zif_f hc hf
          refine lv_iconst (v := (0 : Int32)) hx hb dX9_unseal_98 (by decide) ?_
          refine x_puti hx hb hts hinRX9 hown tyX9 tyX9_ok nmX9 B 65 3 (by decide) (by decide) (fun _ => rfl) rfl rfl (by decide) (by decide +kernel) rfl rfl rfl rfl dX9_unseal_99 (fun H locs B => ?_)
          exact L102  _ _ _ _ _ _ hf B (lv_sub hl [1, 2, 3] rfl)
        · have hf := zif_t hc hf
          refine lv_aload_n hx hb dX9_unseal_88 rfl (lv_at hl 1 rfl) ?_
          refine lv_iconst (v := (5 : Int32)) hx hb dX9_unseal_89 (by decide) ?_
          refine lv_iload_n hx hb dX9_unseal_90 rfl (lv_at hl 0 rfl) ?_
          refine lv_iconst (v := (2 : Int32)) hx hb dX9_unseal_91 (by decide) ?_
          obtain ⟨r11, σ12, hu10, hf⟩ := zb_some hf
          refine x_i B (fun nb a g hs Bz => va_runV (As := [.int (5 : Int32), .int ((zp σ 65 3 s0) 66 ((563 : Int32) + v2).toNatClampNeg), .int (2 : Int32)]) (rest := [.ref (ad 65)]) ⟨hx, hb, hml, hown, hts⟩ (c_X9_reports l hu10 _ nb a g hs) (cwV 3 hts gX9_unseal_X9_reports rfl rfl rfl (by decide +kernel) ⟨Nat.le_of_ble_eq_true rfl, Nat.le_of_ble_eq_true rfl⟩) (x_preV Bz (by decide) (fun _ => rfl) rfl) rfl rfl hl.1 rfl (lv_room (Nat.le_of_ble_eq_true rfl)) dX9_unseal_92 ⟨Nat.le_of_ble_eq_true rfl, Nat.le_of_ble_eq_true rfl⟩) (fun H locs B => ?_)
          refine lv_goto (tgt := 99) hx hb dX9_unseal_95 (by decide) ?_
          refine x_puti hx hb hts hinRX9 hown tyX9 tyX9_ok nmX9 B 65 3 (by decide) (by decide) (fun _ => rfl) rfl rfl (by decide) (by decide +kernel) rfl rfl rfl rfl dX9_unseal_99 (fun H locs B => ?_)
          exact L102  _ _ _ _ _ _ hf B (lv_sub hl [1, 2, 3] rfl)
      · have hf := zif_t hc hf
        refine lv_aload_n hx hb dX9_unseal_60 rfl (lv_at hl 1 rfl) ?_
        refine lv_bipush (v := (6 : Int32)) hx hb dX9_unseal_61 (by decide) ?_
        refine lv_iload_n hx hb dX9_unseal_63 rfl (lv_at hl 3 rfl) ?_
        refine lv_iconst (v := (2 : Int32)) hx hb dX9_unseal_64 (by decide) ?_
        obtain ⟨r14, σ15, hu13, hf⟩ := zb_some hf
        refine x_i B (fun nb a g hs Bz => va_runV (As := [.int (6 : Int32), .int v2, .int (2 : Int32)]) (rest := [.ref (ad 65)]) ⟨hx, hb, hml, hown, hts⟩ (c_X9_reports l hu13 _ nb a g hs) (cwV 3 hts gX9_unseal_X9_reports rfl rfl rfl (by decide +kernel) ⟨Nat.le_of_ble_eq_true rfl, Nat.le_of_ble_eq_true rfl⟩) (x_preV Bz (by decide) (fun _ => rfl) rfl) rfl rfl hl.1 rfl (lv_room (Nat.le_of_ble_eq_true rfl)) dX9_unseal_65 ⟨Nat.le_of_ble_eq_true rfl, Nat.le_of_ble_eq_true rfl⟩) (fun H locs B => ?_)
        refine lv_goto (tgt := 99) hx hb dX9_unseal_68 (by decide) ?_
        refine x_puti hx hb hts hinRX9 hown tyX9 tyX9_ok nmX9 B 65 3 (by decide) (by decide) (fun _ => rfl) rfl rfl (by decide) (by decide +kernel) rfl rfl rfl rfl dX9_unseal_99 (fun H locs B => ?_)
        exact L102  _ _ _ _ _ _ hf B (lv_sub hl [1, 2, 3] rfl)
  unfold f_X9_unseal at hf
  refine lv_aload_n hx hb dX9_unseal_0 rfl (lv_at hl 0 rfl) ?_
  refine lv_iload_n hx hb dX9_unseal_1 rfl (lv_at hl 1 rfl) ?_
  obtain ⟨r2, σ3, hu1, hf⟩ := zb_some hf
  refine x_i B (fun nb a g hs Bz => va_runS (As := [.int a1]) (rest := [.ref (ad 65)]) ⟨hx, hb, hml, hown, hts⟩ (c_X9_isSubject l hu1 _ nb a g hs) (va_cwS 1 hts gX9_unseal_X9_isSubject rfl rfl rfl (by decide +kernel) ⟨Nat.le_of_ble_eq_true rfl, Nat.le_of_ble_eq_true rfl⟩) (z_preS Bz) rfl rfl hl.1 rfl (lv_room (Nat.le_of_ble_eq_true rfl)) dX9_unseal_2 ⟨Nat.le_of_ble_eq_true rfl, Nat.le_of_ble_eq_true rfl⟩) (fun H locs B => ?_)
  refine lv_if_eq (tgt := 20) hx hb dX9_unseal_5 (by decide) (fun hc => ?_) (fun hc => ?_)
  · have hf := zif_t hc hf
    refine lv_iconst (v := (1 : Int32)) hx hb dX9_unseal_20 (by decide) ?_
    exact L21  _ _ _ _ _ _ _ hf B (lv_sub hl [0, 1, 2] rfl)
  · have hf := zif_f hc hf
    refine lv_aload_n hx hb dX9_unseal_8 rfl (lv_at hl 0 rfl) ?_
    refine lv_iload_n hx hb dX9_unseal_9 rfl (lv_at hl 2 rfl) ?_
    obtain ⟨r17, σ18, hu16, hf⟩ := zb_some hf
    refine x_i B (fun nb a g hs Bz => va_runV (As := [.int a2]) (rest := [.ref (ad 65)]) ⟨hx, hb, hml, hown, hts⟩ (c_X9_isBox l hu16 _ nb a g hs) (cwV 1 hts gX9_unseal_X9_isBox rfl rfl rfl (by decide +kernel) ⟨Nat.le_of_ble_eq_true rfl, Nat.le_of_ble_eq_true rfl⟩) (x_preV Bz (by decide) (fun _ => rfl) rfl) rfl rfl hl.1 rfl (lv_room (Nat.le_of_ble_eq_true rfl)) dX9_unseal_10 ⟨Nat.le_of_ble_eq_true rfl, Nat.le_of_ble_eq_true rfl⟩) (fun H locs B => ?_)
    refine lv_if_eq (tgt := 20) hx hb dX9_unseal_13 (by decide) (fun hc => ?_) (fun hc => ?_)
    · have hf := zif_t hc hf
      refine lv_iconst (v := (1 : Int32)) hx hb dX9_unseal_20 (by decide) ?_
      exact L21  _ _ _ _ _ _ _ hf B (lv_sub hl [0, 1, 2] rfl)
    · have hf := zif_f hc hf
      refine lv_iconst (v := (0 : Int32)) hx hb dX9_unseal_16 (by decide) ?_
      refine lv_goto (tgt := 21) hx hb dX9_unseal_17 (by decide) ?_
      exact L21  _ _ _ _ _ _ _ hf B (lv_sub hl [0, 1, 2] rfl)
theorem dX9_pairOf_0 : decode cX9_pairOf 0 = .ok (.aload_n 0, 1) := by decide +kernel
theorem dX9_pairOf_1 : decode cX9_pairOf 1 = .ok (.aload_n 0, 1) := by decide +kernel
theorem dX9_pairOf_2 : decode cX9_pairOf 2 = .ok (.iload_n 1, 1) := by decide +kernel
theorem dX9_pairOf_3 : decode cX9_pairOf 3 = .ok (.invokevirtual 196, 3) := by decide +kernel
theorem dX9_pairOf_6 : decode cX9_pairOf 6 = .ok (.ifCond .eq 7, 3) := by decide +kernel
theorem dX9_pairOf_9 : decode cX9_pairOf 9 = .ok (.iconst 0, 1) := by decide +kernel
theorem dX9_pairOf_10 : decode cX9_pairOf 10 = .ok (.goto 4, 3) := by decide +kernel
theorem dX9_pairOf_13 : decode cX9_pairOf 13 = .ok (.iconst 1, 1) := by decide +kernel
theorem dX9_pairOf_14 : decode cX9_pairOf 14 = .ok (.putfield 41, 3) := by decide +kernel
theorem dX9_pairOf_17 : decode cX9_pairOf 17 = .ok (.aload_n 0, 1) := by decide +kernel
theorem dX9_pairOf_18 : decode cX9_pairOf 18 = .ok (.getfield 41, 3) := by decide +kernel
theorem dX9_pairOf_21 : decode cX9_pairOf 21 = .ok (.ifCond .ne 16, 3) := by decide +kernel
theorem dX9_pairOf_24 : decode cX9_pairOf 24 = .ok (.aload_n 0, 1) := by decide +kernel
theorem dX9_pairOf_25 : decode cX9_pairOf 25 = .ok (.getfield 9, 3) := by decide +kernel
theorem dX9_pairOf_28 : decode cX9_pairOf 28 = .ok (.sipush 563, 3) := by decide +kernel
theorem dX9_pairOf_31 : decode cX9_pairOf 31 = .ok (.iload_n 1, 1) := by decide +kernel
theorem dX9_pairOf_32 : decode cX9_pairOf 32 = .ok (.iadd, 1) := by decide +kernel
theorem dX9_pairOf_33 : decode cX9_pairOf 33 = .ok (.iaload, 1) := by decide +kernel
theorem dX9_pairOf_34 : decode cX9_pairOf 34 = .ok (.goto 4, 3) := by decide +kernel
theorem dX9_pairOf_37 : decode cX9_pairOf 37 = .ok (.iconst 0, 1) := by decide +kernel
theorem dX9_pairOf_38 : decode cX9_pairOf 38 = .ok (.ireturn, 1) := by decide +kernel
set_option maxRecDepth 20000 in
theorem ggX9_pairOf_X9_isBox : GoodIn wsX9_pairOf wsX9_isBox := goodIn_ca (goodIn_r _ [7, 2, 8, 9, 6, 10, 11, 12, 13, 14, 15, 16, 17, 18, 19, 20, 21, 22, 23, 24, 25, 26, 27, 28, 29, 30] (by decide +kernel) (by decide +kernel)) (goodIn_sub (fun _ h => List.mem_cons_of_mem _ (List.mem_append_right _ h)) (by decide +kernel))
set_option maxRecDepth 20000 in
theorem gX9_pairOf_X9_isBox : GoodIn wsX9_pairOf (wsV RX9 196 RX9 yX9_isBox wsX9_isBox) := goodIn_app (goodIn_of _ (by decide +kernel)) ggX9_pairOf_X9_isBox
def rm_X9_pairOf : Room := { frames := 3, cells := 0, slots := 0, locals := 59 }
set_option maxHeartbeats 4000000 in
set_option maxRecDepth 100000 in
theorem c_X9_pairOf (l : Launch) {G : zG} {ad : Nat → Nat} {σ σ' : zs} {a1 : Int32} {r : Int32} (hf : f_X9_pairOf σ a1 = some (r, σ')) : xMi l yX9_pairOf wsX9_pairOf rm_X9_pairOf G ad σ [.ref (ad 65), .int a1] r σ' := by
  intro sz nb a g hs
  refine Met.ofW (cc := cX9_pairOf) (maxL := 2) (ret := (some .int)) (by decide) rfl ?_
  intro p e s m args below meth c s₁ B hml hv
  obtain ⟨rfl, hsz, hv⟩ := hv
  have hx := B.exec
  have hb := B.bytes
  have hr := B.returns
  have hts := atoms_spec (ws := wsX9_pairOf) B.pre
  have hown : s.vm.findClass RX9 = some m.cls := findClass_of_methodNamed B.named
  have hlocks := B.notSynchronized
  subst hsz
  have B := xB_start hs hv
  have hinRX9 : ∀ w ∈ wsX90, w ∈ wsX9_pairOf := by decide +kernel
  have hl := lv_entry ([.ref (ad 65), .int a1]) (n := 2) (Nat.le_of_ble_eq_true rfl)
  rw [lg_entry_eq]
  generalize (lg_sl ([.ref (ad 65), .int a1]) ++ List.replicate (2 - (lg_sl ([.ref (ad 65), .int a1])).length) Slot.unset).toArray = ls at hl ⊢
  have hl : lv_has ls 2 [(0, .ref (ad 65)), (1, .int a1)] := hl
  generalize hAe : xA ad a s.heap.size = A at B ⊢
  have L14 : ∀ (σ : zs) (v1 : Int32) (s0 : Int32) (H : Heap) (locs : List Loc) (ls : Array Slot), f_X9_pairOf_14 σ v1 s0 = some (r, σ') → xB A s G ad σ H locs → lv_has ls 2 [(0, .ref (ad 65)), (1, .int v1)] → W p l e (headSpec wsX9_pairOf rm_X9_pairOf).room s m ([.ref (ad 65), .int a1] : List Value).toArray below meth c H locs 0 0 (MQ below (va_Qi (fun r' (u : xV) => r' = r ∧ xQ σ' u) (xPost G ad σ' A) A) ([.ref (ad 65), .int a1] : List Value).toArray s 0 0 A) (F0 m 14 ls [.int s0, .ref (ad 65)]) := by
    intro σ v1 s0 H locs ls hf B hl
    unfold f_X9_pairOf_14 at hf
    refine x_puti hx hb hts hinRX9 hown tyX9 tyX9_ok nmX9 B 65 3 (by decide) (by decide) (fun _ => rfl) rfl rfl (by decide) (by decide +kernel) rfl rfl rfl rfl dX9_pairOf_14 (fun H locs B => ?_)
    refine lv_aload_n hx hb dX9_pairOf_17 rfl (lv_at hl 0 rfl) ?_
    refine x_geti hx hb hts hinRX9 hown B 65 3 (by decide) (fun _ => rfl) rfl rfl (by decide) (by decide +kernel) rfl dX9_pairOf_18 ?_
    refine lv_if_ne (tgt := 37) hx hb dX9_pairOf_21 (by decide) (fun hc => ?_) (fun hc => ?_)
    · have hf := zif_f hc hf
      refine lv_iconst (v := (0 : Int32)) hx hb dX9_pairOf_37 (by decide) ?_
      refine W.widen (k := 0) (n := 0) (Nat.le_of_ble_eq_true rfl) (Nat.le_of_ble_eq_true rfl) ?_
      exact x_iret hx hb hr rfl hlocks B hf dX9_pairOf_38
    · have hf := zif_t hc hf
      refine lv_aload_n hx hb dX9_pairOf_24 rfl (lv_at hl 0 rfl) ?_
      refine x_getr hx hb hts hinRX9 hown B 65 0 66 (by decide) (by decide) (fun _ => rfl) rfl rfl (by decide) (by decide +kernel) rfl dX9_pairOf_25 ?_
      refine lv_sipush (v := (563 : Int32)) hx hb dX9_pairOf_28 (by decide) ?_
      refine lv_iload_n hx hb dX9_pairOf_31 rfl (lv_at hl 1 rfl) ?_
      refine lv_iadd hx hb dX9_pairOf_32 ?_
      obtain ⟨hg, hf⟩ := zg_some hf
      refine x_iald hx hb B 66 (by decide) (fun _ => rfl) (zin_ok hg) dX9_pairOf_33 ?_
      refine lv_goto (tgt := 38) hx hb dX9_pairOf_34 (by decide) ?_
      refine W.widen (k := 0) (n := 0) (Nat.le_of_ble_eq_true rfl) (Nat.le_of_ble_eq_true rfl) ?_
      exact x_iret hx hb hr rfl hlocks B hf dX9_pairOf_38
  unfold f_X9_pairOf at hf
  refine lv_aload_n hx hb dX9_pairOf_0 rfl (lv_at hl 0 rfl) ?_
  refine lv_aload_n hx hb dX9_pairOf_1 rfl (lv_at hl 0 rfl) ?_
  refine lv_iload_n hx hb dX9_pairOf_2 rfl (lv_at hl 1 rfl) ?_
  obtain ⟨r2, σ3, hu1, hf⟩ := zb_some hf
  refine x_i B (fun nb a g hs Bz => va_runV (As := [.int a1]) (rest := [.ref (ad 65)]) ⟨hx, hb, hml, hown, hts⟩ (c_X9_isBox l hu1 _ nb a g hs) (cwV 1 hts gX9_pairOf_X9_isBox rfl rfl rfl (by decide +kernel) ⟨Nat.le_of_ble_eq_true rfl, Nat.le_of_ble_eq_true rfl⟩) (x_preV Bz (by decide) (fun _ => rfl) rfl) rfl rfl hl.1 rfl (lv_room (Nat.le_of_ble_eq_true rfl)) dX9_pairOf_3 ⟨Nat.le_of_ble_eq_true rfl, Nat.le_of_ble_eq_true rfl⟩) (fun H locs B => ?_)
  refine lv_if_eq (tgt := 13) hx hb dX9_pairOf_6 (by decide) (fun hc => ?_) (fun hc => ?_)
  · have hf := zif_t hc hf
    refine lv_iconst (v := (1 : Int32)) hx hb dX9_pairOf_13 (by decide) ?_
    exact L14  _ _ _ _ _ _ hf B (lv_sub hl [0, 1] rfl)
  · have hf := zif_f hc hf
    refine lv_iconst (v := (0 : Int32)) hx hb dX9_pairOf_9 (by decide) ?_
    refine lv_goto (tgt := 14) hx hb dX9_pairOf_10 (by decide) ?_
    exact L14  _ _ _ _ _ _ hf B (lv_sub hl [0, 1] rfl)
theorem dX9_openRights_0 : decode cX9_openRights 0 = .ok (.aload_n 0, 1) := by decide +kernel
theorem dX9_openRights_1 : decode cX9_openRights 1 = .ok (.iload_n 2, 1) := by decide +kernel
theorem dX9_openRights_2 : decode cX9_openRights 2 = .ok (.invokevirtual 134, 3) := by decide +kernel
theorem dX9_openRights_5 : decode cX9_openRights 5 = .ok (.ifCond .le 5, 3) := by decide +kernel
theorem dX9_openRights_8 : decode cX9_openRights 8 = .ok (.iconst 0, 1) := by decide +kernel
theorem dX9_openRights_9 : decode cX9_openRights 9 = .ok (.ireturn, 1) := by decide +kernel
theorem dX9_openRights_10 : decode cX9_openRights 10 = .ok (.bipush 15, 2) := by decide +kernel
theorem dX9_openRights_12 : decode cX9_openRights 12 = .ok (.istore_n 3, 1) := by decide +kernel
theorem dX9_openRights_13 : decode cX9_openRights 13 = .ok (.iconst 0, 1) := by decide +kernel
theorem dX9_openRights_14 : decode cX9_openRights 14 = .ok (.istore 4, 2) := by decide +kernel
theorem dX9_openRights_16 : decode cX9_openRights 16 = .ok (.sipush 999, 3) := by decide +kernel
theorem dX9_openRights_19 : decode cX9_openRights 19 = .ok (.istore 5, 2) := by decide +kernel
theorem dX9_openRights_21 : decode cX9_openRights 21 = .ok (.iload_n 2, 1) := by decide +kernel
theorem dX9_openRights_22 : decode cX9_openRights 22 = .ok (.istore 6, 2) := by decide +kernel
theorem dX9_openRights_24 : decode cX9_openRights 24 = .ok (.iload 6, 2) := by decide +kernel
theorem dX9_openRights_26 : decode cX9_openRights 26 = .ok (.ifCond .lt 131, 3) := by decide +kernel
theorem dX9_openRights_29 : decode cX9_openRights 29 = .ok (.iconst 0, 1) := by decide +kernel
theorem dX9_openRights_30 : decode cX9_openRights 30 = .ok (.istore 7, 2) := by decide +kernel
theorem dX9_openRights_32 : decode cX9_openRights 32 = .ok (.iload 7, 2) := by decide +kernel
theorem dX9_openRights_34 : decode cX9_openRights 34 = .ok (.aload_n 0, 1) := by decide +kernel
theorem dX9_openRights_35 : decode cX9_openRights 35 = .ok (.getfield 9, 3) := by decide +kernel
theorem dX9_openRights_38 : decode cX9_openRights 38 = .ok (.sipush 191, 3) := by decide +kernel
theorem dX9_openRights_41 : decode cX9_openRights 41 = .ok (.iload 6, 2) := by decide +kernel
theorem dX9_openRights_43 : decode cX9_openRights 43 = .ok (.iadd, 1) := by decide +kernel
theorem dX9_openRights_44 : decode cX9_openRights 44 = .ok (.iaload, 1) := by decide +kernel
theorem dX9_openRights_45 : decode cX9_openRights 45 = .ok (.if_icmp .ge 97, 3) := by decide +kernel
theorem dX9_openRights_48 : decode cX9_openRights 48 = .ok (.aload_n 0, 1) := by decide +kernel
theorem dX9_openRights_49 : decode cX9_openRights 49 = .ok (.iload 6, 2) := by decide +kernel
theorem dX9_openRights_51 : decode cX9_openRights 51 = .ok (.iload 7, 2) := by decide +kernel
theorem dX9_openRights_53 : decode cX9_openRights 53 = .ok (.iconst 0, 1) := by decide +kernel
theorem dX9_openRights_54 : decode cX9_openRights 54 = .ok (.invokevirtual 55, 3) := by decide +kernel
theorem dX9_openRights_57 : decode cX9_openRights 57 = .ok (.istore 8, 2) := by decide +kernel
theorem dX9_openRights_59 : decode cX9_openRights 59 = .ok (.iload 8, 2) := by decide +kernel
theorem dX9_openRights_61 : decode cX9_openRights 61 = .ok (.ifCond .ne 18, 3) := by decide +kernel
theorem dX9_openRights_64 : decode cX9_openRights 64 = .ok (.iload_n 3, 1) := by decide +kernel
theorem dX9_openRights_65 : decode cX9_openRights 65 = .ok (.aload_n 0, 1) := by decide +kernel
theorem dX9_openRights_66 : decode cX9_openRights 66 = .ok (.iload 6, 2) := by decide +kernel
theorem dX9_openRights_68 : decode cX9_openRights 68 = .ok (.iload 7, 2) := by decide +kernel
theorem dX9_openRights_70 : decode cX9_openRights 70 = .ok (.iconst 1, 1) := by decide +kernel
theorem dX9_openRights_71 : decode cX9_openRights 71 = .ok (.invokevirtual 55, 3) := by decide +kernel
theorem dX9_openRights_74 : decode cX9_openRights 74 = .ok (.iand, 1) := by decide +kernel
theorem dX9_openRights_75 : decode cX9_openRights 75 = .ok (.istore_n 3, 1) := by decide +kernel
theorem dX9_openRights_76 : decode cX9_openRights 76 = .ok (.goto 60, 3) := by decide +kernel
theorem dX9_openRights_79 : decode cX9_openRights 79 = .ok (.iload 8, 2) := by decide +kernel
theorem dX9_openRights_81 : decode cX9_openRights 81 = .ok (.iconst 4, 1) := by decide +kernel
theorem dX9_openRights_82 : decode cX9_openRights 82 = .ok (.if_icmp .ne 38, 3) := by decide +kernel
theorem dX9_openRights_85 : decode cX9_openRights 85 = .ok (.iload 4, 2) := by decide +kernel
theorem dX9_openRights_87 : decode cX9_openRights 87 = .ok (.aload_n 0, 1) := by decide +kernel
theorem dX9_openRights_88 : decode cX9_openRights 88 = .ok (.iload 6, 2) := by decide +kernel
theorem dX9_openRights_90 : decode cX9_openRights 90 = .ok (.iload 7, 2) := by decide +kernel
theorem dX9_openRights_92 : decode cX9_openRights 92 = .ok (.iconst 1, 1) := by decide +kernel
theorem dX9_openRights_93 : decode cX9_openRights 93 = .ok (.invokevirtual 55, 3) := by decide +kernel
theorem dX9_openRights_96 : decode cX9_openRights 96 = .ok (.invokestatic 159, 3) := by decide +kernel
theorem dX9_openRights_99 : decode cX9_openRights 99 = .ok (.istore 4, 2) := by decide +kernel
theorem dX9_openRights_101 : decode cX9_openRights 101 = .ok (.iload 5, 2) := by decide +kernel
theorem dX9_openRights_103 : decode cX9_openRights 103 = .ok (.aload_n 0, 1) := by decide +kernel
theorem dX9_openRights_104 : decode cX9_openRights 104 = .ok (.iload 6, 2) := by decide +kernel
theorem dX9_openRights_106 : decode cX9_openRights 106 = .ok (.iload 7, 2) := by decide +kernel
theorem dX9_openRights_108 : decode cX9_openRights 108 = .ok (.iconst 2, 1) := by decide +kernel
theorem dX9_openRights_109 : decode cX9_openRights 109 = .ok (.invokevirtual 55, 3) := by decide +kernel
theorem dX9_openRights_112 : decode cX9_openRights 112 = .ok (.invokestatic 165, 3) := by decide +kernel
theorem dX9_openRights_115 : decode cX9_openRights 115 = .ok (.istore 5, 2) := by decide +kernel
theorem dX9_openRights_117 : decode cX9_openRights 117 = .ok (.goto 19, 3) := by decide +kernel
theorem dX9_openRights_120 : decode cX9_openRights 120 = .ok (.aload_n 0, 1) := by decide +kernel
theorem dX9_openRights_121 : decode cX9_openRights 121 = .ok (.iload 6, 2) := by decide +kernel
theorem dX9_openRights_123 : decode cX9_openRights 123 = .ok (.iload 7, 2) := by decide +kernel
theorem dX9_openRights_125 : decode cX9_openRights 125 = .ok (.iload_n 1, 1) := by decide +kernel
theorem dX9_openRights_126 : decode cX9_openRights 126 = .ok (.iconst 0, 1) := by decide +kernel
theorem dX9_openRights_127 : decode cX9_openRights 127 = .ok (.iconst 0, 1) := by decide +kernel
theorem dX9_openRights_128 : decode cX9_openRights 128 = .ok (.invokevirtual 70, 3) := by decide +kernel
theorem dX9_openRights_131 : decode cX9_openRights 131 = .ok (.ifCond .ne 5, 3) := by decide +kernel
theorem dX9_openRights_134 : decode cX9_openRights 134 = .ok (.iconst 0, 1) := by decide +kernel
theorem dX9_openRights_135 : decode cX9_openRights 135 = .ok (.ireturn, 1) := by decide +kernel
theorem dX9_openRights_136 : decode cX9_openRights 136 = .ok (.iinc 7 1, 3) := by decide +kernel
theorem dX9_openRights_139 : decode cX9_openRights 139 = .ok (.goto (-107), 3) := by decide +kernel
theorem dX9_openRights_142 : decode cX9_openRights 142 = .ok (.aload_n 0, 1) := by decide +kernel
theorem dX9_openRights_143 : decode cX9_openRights 143 = .ok (.getfield 9, 3) := by decide +kernel
theorem dX9_openRights_146 : decode cX9_openRights 146 = .ok (.bipush 79, 2) := by decide +kernel
theorem dX9_openRights_148 : decode cX9_openRights 148 = .ok (.iload 6, 2) := by decide +kernel
theorem dX9_openRights_150 : decode cX9_openRights 150 = .ok (.iadd, 1) := by decide +kernel
theorem dX9_openRights_151 : decode cX9_openRights 151 = .ok (.iaload, 1) := by decide +kernel
theorem dX9_openRights_152 : decode cX9_openRights 152 = .ok (.istore 6, 2) := by decide +kernel
theorem dX9_openRights_154 : decode cX9_openRights 154 = .ok (.goto (-130), 3) := by decide +kernel
theorem dX9_openRights_157 : decode cX9_openRights 157 = .ok (.iload 4, 2) := by decide +kernel
theorem dX9_openRights_159 : decode cX9_openRights 159 = .ok (.iload 5, 2) := by decide +kernel
theorem dX9_openRights_161 : decode cX9_openRights 161 = .ok (.if_icmp .gt 7, 3) := by decide +kernel
theorem dX9_openRights_164 : decode cX9_openRights 164 = .ok (.iload_n 3, 1) := by decide +kernel
theorem dX9_openRights_165 : decode cX9_openRights 165 = .ok (.goto 4, 3) := by decide +kernel
theorem dX9_openRights_168 : decode cX9_openRights 168 = .ok (.iconst 0, 1) := by decide +kernel
theorem dX9_openRights_169 : decode cX9_openRights 169 = .ok (.ireturn, 1) := by decide +kernel
set_option maxRecDepth 20000 in
theorem ggX9_openRights_X9_revokedIn : GoodIn wsX9_openRights wsX9_revokedIn := goodIn_ca (goodIn_r _ [13, 1, 25, 26, 27, 28, 29, 30, 31, 32, 33, 34, 35, 36, 37, 38, 39, 40, 41, 42, 43, 44] (by decide +kernel) (by decide +kernel)) (goodIn_sub (fun _ h => List.mem_cons_of_mem _ (List.mem_append_right _ h)) (by decide +kernel))
set_option maxRecDepth 20000 in
theorem gX9_openRights_X9_revokedIn : GoodIn wsX9_openRights (wsV RX9 134 RX9 yX9_revokedIn wsX9_revokedIn) := goodIn_app (goodIn_of _ (by decide +kernel)) ggX9_openRights_X9_revokedIn
set_option maxRecDepth 20000 in
theorem ggX9_openRights_X9_part : GoodIn wsX9_openRights wsX9_part := goodIn_ca (goodIn_r _ [17, 1, 25, 26, 27, 28, 29, 30, 31, 32, 33, 34, 35, 36, 37, 38, 39, 40, 41, 42, 43, 44] (by decide +kernel) (by decide +kernel)) (goodIn_sub (fun _ h => List.mem_cons_of_mem _ (List.mem_append_right _ h)) (by decide +kernel))
set_option maxRecDepth 20000 in
theorem gX9_openRights_X9_part : GoodIn wsX9_openRights (wsV RX9 55 RX9 yX9_part wsX9_part) := goodIn_app (goodIn_of _ (by decide +kernel)) ggX9_openRights_X9_part
set_option maxRecDepth 20000 in
theorem ggX9_openRights_X9_holds : GoodIn wsX9_openRights wsX9_holds := goodIn_ca (goodIn_r _ [21, 1, 14, 15, 16, 12, 17, 22, 23, 24, 25, 26, 27, 28, 29, 30, 31, 32, 33, 34, 35, 36, 37, 38, 39, 40, 41, 42, 43, 44] (by decide +kernel) (by decide +kernel)) (goodIn_sub (fun _ h => List.mem_cons_of_mem _ (List.mem_append_right _ h)) (by decide +kernel))
set_option maxRecDepth 20000 in
theorem gX9_openRights_X9_holds : GoodIn wsX9_openRights (wsV RX9 70 RX9 yX9_holds wsX9_holds) := goodIn_app (goodIn_of _ (by decide +kernel)) ggX9_openRights_X9_holds
def rm_X9_openRights : Room := { frames := 3, cells := 0, slots := 0, locals := 65 }
set_option maxHeartbeats 4000000 in
set_option maxRecDepth 100000 in
theorem c_X9_openRights (l : Launch) {G : zG} {ad : Nat → Nat} {σ σ' : zs} {a1 a2 : Int32} {r : Int32} (hf : f_X9_openRights σ a1 a2 = some (r, σ')) : xMi l yX9_openRights wsX9_openRights rm_X9_openRights G ad σ [.ref (ad 65), .int a1, .int a2] r σ' := by
  intro sz nb a g hs
  refine Met.ofW (cc := cX9_openRights) (maxL := 9) (ret := (some .int)) (by decide) rfl ?_
  intro p e s m args below meth c s₁ B hml hv
  obtain ⟨rfl, hsz, hv⟩ := hv
  have hx := B.exec
  have hb := B.bytes
  have hr := B.returns
  have hts := atoms_spec (ws := wsX9_openRights) B.pre
  have hown : s.vm.findClass RX9 = some m.cls := findClass_of_methodNamed B.named
  have hlocks := B.notSynchronized
  subst hsz
  have B := xB_start hs hv
  have hinRX9 : ∀ w ∈ wsX90, w ∈ wsX9_openRights := by decide +kernel
  have hl := lv_entry ([.ref (ad 65), .int a1, .int a2]) (n := 9) (Nat.le_of_ble_eq_true rfl)
  rw [lg_entry_eq]
  generalize (lg_sl ([.ref (ad 65), .int a1, .int a2]) ++ List.replicate (9 - (lg_sl ([.ref (ad 65), .int a1, .int a2])).length) Slot.unset).toArray = ls at hl ⊢
  have hl : lv_has ls 9 [(0, .ref (ad 65)), (1, .int a1), (2, .int a2)] := hl
  generalize hAe : xA ad a s.heap.size = A at B ⊢
  have L32 : ∀ (K24 : zs → Int32 → Int32 → Int32 → Int32 → Int32 → Option (Int32 × zs)) (hK24 : ∀ (σ : zs) (v1 : Int32) (v3 : Int32) (v4 : Int32) (v5 : Int32) (v6 : Int32) (H : Heap) (locs : List Loc) (ls : Array Slot), K24 σ v1 v3 v4 v5 v6 = some (r, σ') → xB A s G ad σ H locs → lv_has ls 9 [(0, .ref (ad 65)), (1, .int v1), (3, .int v3), (4, .int v4), (5, .int v5), (6, .int v6)] → W p l e (headSpec wsX9_openRights rm_X9_openRights).room s m ([.ref (ad 65), .int a1, .int a2] : List Value).toArray below meth c H locs 0 0 (MQ below (va_Qi (fun r' (u : xV) => r' = r ∧ xQ σ' u) (xPost G ad σ' A) A) ([.ref (ad 65), .int a1, .int a2] : List Value).toArray s 0 0 A) (F0 m 24 ls [])) (n : Nat) (σ : zs) (v1 : Int32) (v3 : Int32) (v4 : Int32) (v5 : Int32) (v6 : Int32) (v7 : Int32) (H : Heap) (locs : List Loc) (ls : Array Slot), zlp6 (f_X9_openRights_32 K24) n σ v1 v3 v4 v5 v6 v7 = some (r, σ') → xB A s G ad σ H locs → lv_has ls 9 [(0, .ref (ad 65)), (1, .int v1), (3, .int v3), (4, .int v4), (5, .int v5), (6, .int v6), (7, .int v7)] → W p l e (headSpec wsX9_openRights rm_X9_openRights).room s m ([.ref (ad 65), .int a1, .int a2] : List Value).toArray below meth c H locs 0 0 (MQ below (va_Qi (fun r' (u : xV) => r' = r ∧ xQ σ' u) (xPost G ad σ' A) A) ([.ref (ad 65), .int a1, .int a2] : List Value).toArray s 0 0 A) (F0 m 32 ls []) := by
    intro K24 hK24 n
    induction n with
    | zero =>
      intro σ v1 v3 v4 v5 v6 v7 H locs ls hf
      cases hf
    | succ n ih =>
      intro σ v1 v3 v4 v5 v6 v7 H locs ls hf B hl
      have hf : f_X9_openRights_32 K24 (zlp6 (f_X9_openRights_32 K24) n) σ v1 v3 v4 v5 v6 v7 = some (r, σ') := hf
      unfold f_X9_openRights_32 at hf
      refine lv_iload hx hb dX9_openRights_32 (lv_at hl 6 rfl) ?_
      refine lv_aload_n hx hb dX9_openRights_34 rfl (lv_at hl 0 rfl) ?_
      refine x_getr hx hb hts hinRX9 hown B 65 0 66 (by decide) (by decide) (fun _ => rfl) rfl rfl (by decide) (by decide +kernel) rfl dX9_openRights_35 ?_
      refine lv_sipush (v := (191 : Int32)) hx hb dX9_openRights_38 (by decide) ?_
      refine lv_iload hx hb dX9_openRights_41 (lv_at hl 5 rfl) ?_
      refine lv_iadd hx hb dX9_openRights_43 ?_
      obtain ⟨hg, hf⟩ := zg_some hf
      refine x_iald hx hb B 66 (by decide) (fun _ => rfl) (zin_ok hg) dX9_openRights_44 ?_
      refine lv_icmp_ge (tgt := 142) hx hb dX9_openRights_45 (by decide) (fun hc => ?_) (fun hc => ?_)
      · have hf := zif_t hc hf
        refine lv_aload_n hx hb dX9_openRights_142 rfl (lv_at hl 0 rfl) ?_
        refine x_getr hx hb hts hinRX9 hown B 65 0 66 (by decide) (by decide) (fun _ => rfl) rfl rfl (by decide) (by decide +kernel) rfl dX9_openRights_143 ?_
        refine lv_bipush (v := (79 : Int32)) hx hb dX9_openRights_146 (by decide) ?_
        refine lv_iload hx hb dX9_openRights_148 (lv_at hl 5 rfl) ?_
        refine lv_iadd hx hb dX9_openRights_150 ?_
        obtain ⟨hg, hf⟩ := zg_some hf
        refine x_iald hx hb B 66 (by decide) (fun _ => rfl) (zin_ok hg) dX9_openRights_151 ?_
        refine lv_istore (lv' := [(6, .int (σ 66 ((79 : Int32) + v6).toNatClampNeg)), (0, .ref (ad 65)), (1, .int v1), (3, .int v3), (4, .int v4), (5, .int v5), (7, .int v7)]) hx hb dX9_openRights_152 hl (by decide) rfl (fun ls hl => ?_)
        refine lv_goto (tgt := 24) hx hb dX9_openRights_154 (by decide) ?_
        exact hK24 _ _ _ _ _ _ _ _ _ hf B (lv_sub hl [1, 2, 3, 4, 5, 0] rfl)
      · have hf := zif_f hc hf
        refine lv_aload_n hx hb dX9_openRights_48 rfl (lv_at hl 0 rfl) ?_
        refine lv_iload hx hb dX9_openRights_49 (lv_at hl 5 rfl) ?_
        refine lv_iload hx hb dX9_openRights_51 (lv_at hl 6 rfl) ?_
        refine lv_iconst (v := (0 : Int32)) hx hb dX9_openRights_53 (by decide) ?_
        obtain ⟨r5, σ6, hu4, hf⟩ := zb_some hf
        refine x_i B (fun nb a g hs Bz => va_runV (As := [.int v6, .int v7, .int (0 : Int32)]) (rest := []) ⟨hx, hb, hml, hown, hts⟩ (c_X9_part l hu4 _ nb a g hs) (cwV 3 hts gX9_openRights_X9_part rfl rfl rfl (by decide +kernel) ⟨Nat.le_of_ble_eq_true rfl, Nat.le_of_ble_eq_true rfl⟩) (x_preV Bz (by decide) (fun _ => rfl) rfl) rfl rfl hl.1 rfl (lv_room (Nat.le_of_ble_eq_true rfl)) dX9_openRights_54 ⟨Nat.le_of_ble_eq_true rfl, Nat.le_of_ble_eq_true rfl⟩) (fun H locs B => ?_)
        refine lv_istore (lv' := [(8, .int r5), (0, .ref (ad 65)), (1, .int v1), (3, .int v3), (4, .int v4), (5, .int v5), (6, .int v6), (7, .int v7)]) hx hb dX9_openRights_57 hl (by decide) rfl (fun ls hl => ?_)
        refine lv_iload hx hb dX9_openRights_59 (lv_at hl 0 rfl) ?_
        refine lv_if_ne (tgt := 79) hx hb dX9_openRights_61 (by decide) (fun hc => ?_) (fun hc => ?_)
        · have hf := zif_f hc hf
          refine lv_iload hx hb dX9_openRights_79 (lv_at hl 0 rfl) ?_
          refine lv_iconst (v := (4 : Int32)) hx hb dX9_openRights_81 (by decide) ?_
          refine lv_icmp_ne (tgt := 120) hx hb dX9_openRights_82 (by decide) (fun hc => ?_) (fun hc => ?_)
          · have hf := zif_f hc hf
            refine lv_aload_n hx hb dX9_openRights_120 rfl (lv_at hl 1 rfl) ?_
            refine lv_iload hx hb dX9_openRights_121 (lv_at hl 6 rfl) ?_
            refine lv_iload hx hb dX9_openRights_123 (lv_at hl 7 rfl) ?_
            refine lv_iload_n hx hb dX9_openRights_125 rfl (lv_at hl 2 rfl) ?_
            refine lv_iconst (v := (0 : Int32)) hx hb dX9_openRights_126 (by decide) ?_
            refine lv_iconst (v := (0 : Int32)) hx hb dX9_openRights_127 (by decide) ?_
            obtain ⟨r8, σ9, hu7, hf⟩ := zb_some hf
            refine x_i B (fun nb a g hs Bz => va_runV (As := [.int v6, .int v7, .int v1, .int (0 : Int32), .int (0 : Int32)]) (rest := []) ⟨hx, hb, hml, hown, hts⟩ (c_X9_holds l hu7 _ nb a g hs) (cwV 5 hts gX9_openRights_X9_holds rfl rfl rfl (by decide +kernel) ⟨Nat.le_of_ble_eq_true rfl, Nat.le_of_ble_eq_true rfl⟩) (x_preV Bz (by decide) (fun _ => rfl) rfl) rfl rfl hl.1 rfl (lv_room (Nat.le_of_ble_eq_true rfl)) dX9_openRights_128 ⟨Nat.le_of_ble_eq_true rfl, Nat.le_of_ble_eq_true rfl⟩) (fun H locs B => ?_)
            refine lv_if_ne (tgt := 136) hx hb dX9_openRights_131 (by decide) (fun hc => ?_) (fun hc => ?_)
            · have hf := zif_f hc hf
              refine lv_iinc (v := (v7 + (1 : Int32))) (lv' := [(7, .int (v7 + (1 : Int32))), (8, .int r5), (0, .ref (ad 65)), (1, .int v1), (3, .int v3), (4, .int v4), (5, .int v5), (6, .int v6)]) hx hb dX9_openRights_136 hl (k := 7) rfl (zc1 (by decide)) (by decide) rfl (fun ls hl => ?_)
              refine lv_goto (tgt := 32) hx hb dX9_openRights_139 (by decide) ?_
              exact ih _ _ _ _ _ _ _ _ _ _ hf B (lv_sub hl [2, 3, 4, 5, 6, 7, 0] rfl)
            · have hf := zif_t hc hf
              refine lv_iconst (v := (0 : Int32)) hx hb dX9_openRights_134 (by decide) ?_
              refine W.widen (k := 0) (n := 0) (Nat.le_of_ble_eq_true rfl) (Nat.le_of_ble_eq_true rfl) ?_
              exact x_iret hx hb hr rfl hlocks B hf dX9_openRights_135
          · have hf := zif_t hc hf
            refine lv_iload hx hb dX9_openRights_85 (lv_at hl 4 rfl) ?_
            refine lv_aload_n hx hb dX9_openRights_87 rfl (lv_at hl 1 rfl) ?_
            refine lv_iload hx hb dX9_openRights_88 (lv_at hl 6 rfl) ?_
            refine lv_iload hx hb dX9_openRights_90 (lv_at hl 7 rfl) ?_
            refine lv_iconst (v := (1 : Int32)) hx hb dX9_openRights_92 (by decide) ?_
            obtain ⟨r11, σ12, hu10, hf⟩ := zb_some hf
            refine x_i B (fun nb a g hs Bz => va_runV (As := [.int v6, .int v7, .int (1 : Int32)]) (rest := [.int v4]) ⟨hx, hb, hml, hown, hts⟩ (c_X9_part l hu10 _ nb a g hs) (cwV 3 hts gX9_openRights_X9_part rfl rfl rfl (by decide +kernel) ⟨Nat.le_of_ble_eq_true rfl, Nat.le_of_ble_eq_true rfl⟩) (x_preV Bz (by decide) (fun _ => rfl) rfl) rfl rfl hl.1 rfl (lv_room (Nat.le_of_ble_eq_true rfl)) dX9_openRights_93 ⟨Nat.le_of_ble_eq_true rfl, Nat.le_of_ble_eq_true rfl⟩) (fun H locs B => ?_)
            refine va_mmax hx hb (hml.trans hl.1.symm) hown (index := 159) (hts _ (by decide +kernel)) (hts _ (by decide +kernel)) (hts _ (by decide +kernel)) (hts _ (by decide +kernel)) (Nat.le_of_ble_eq_true rfl) (Nat.le_of_ble_eq_true rfl) (Nat.le_of_ble_eq_true rfl) (Nat.le_of_ble_eq_true rfl) dX9_openRights_96 ?_
            refine lv_istore (lv' := [(4, .int (if v4 < r11 then r11 else v4)), (8, .int r5), (0, .ref (ad 65)), (1, .int v1), (3, .int v3), (5, .int v5), (6, .int v6), (7, .int v7)]) hx hb dX9_openRights_99 hl (by decide) rfl (fun ls hl => ?_)
            refine lv_iload hx hb dX9_openRights_101 (lv_at hl 5 rfl) ?_
            refine lv_aload_n hx hb dX9_openRights_103 rfl (lv_at hl 2 rfl) ?_
            refine lv_iload hx hb dX9_openRights_104 (lv_at hl 6 rfl) ?_
            refine lv_iload hx hb dX9_openRights_106 (lv_at hl 7 rfl) ?_
            refine lv_iconst (v := (2 : Int32)) hx hb dX9_openRights_108 (by decide) ?_
            obtain ⟨r14, σ15, hu13, hf⟩ := zb_some hf
            refine x_i B (fun nb a g hs Bz => va_runV (As := [.int v6, .int v7, .int (2 : Int32)]) (rest := [.int v5]) ⟨hx, hb, hml, hown, hts⟩ (c_X9_part l hu13 _ nb a g hs) (cwV 3 hts gX9_openRights_X9_part rfl rfl rfl (by decide +kernel) ⟨Nat.le_of_ble_eq_true rfl, Nat.le_of_ble_eq_true rfl⟩) (x_preV Bz (by decide) (fun _ => rfl) rfl) rfl rfl hl.1 rfl (lv_room (Nat.le_of_ble_eq_true rfl)) dX9_openRights_109 ⟨Nat.le_of_ble_eq_true rfl, Nat.le_of_ble_eq_true rfl⟩) (fun H locs B => ?_)
            refine va_mmin hx hb (hml.trans hl.1.symm) hown (index := 165) (hts _ (by decide +kernel)) (hts _ (by decide +kernel)) (hts _ (by decide +kernel)) (hts _ (by decide +kernel)) (Nat.le_of_ble_eq_true rfl) (Nat.le_of_ble_eq_true rfl) (Nat.le_of_ble_eq_true rfl) (Nat.le_of_ble_eq_true rfl) dX9_openRights_112 ?_
            refine lv_istore (lv' := [(5, .int (if r14 < v5 then r14 else v5)), (4, .int (if v4 < r11 then r11 else v4)), (8, .int r5), (0, .ref (ad 65)), (1, .int v1), (3, .int v3), (6, .int v6), (7, .int v7)]) hx hb dX9_openRights_115 hl (by decide) rfl (fun ls hl => ?_)
            refine lv_goto (tgt := 136) hx hb dX9_openRights_117 (by decide) ?_
            refine lv_iinc (v := (v7 + (1 : Int32))) (lv' := [(7, .int (v7 + (1 : Int32))), (5, .int (if r14 < v5 then r14 else v5)), (4, .int (if v4 < r11 then r11 else v4)), (8, .int r5), (0, .ref (ad 65)), (1, .int v1), (3, .int v3), (6, .int v6)]) hx hb dX9_openRights_136 hl (k := 7) rfl (zc1 (by decide)) (by decide) rfl (fun ls hl => ?_)
            refine lv_goto (tgt := 32) hx hb dX9_openRights_139 (by decide) ?_
            exact ih _ _ _ _ _ _ _ _ _ _ hf B (lv_sub hl [4, 5, 6, 2, 1, 7, 0] rfl)
        · have hf := zif_t hc hf
          refine lv_iload_n hx hb dX9_openRights_64 rfl (lv_at hl 3 rfl) ?_
          refine lv_aload_n hx hb dX9_openRights_65 rfl (lv_at hl 1 rfl) ?_
          refine lv_iload hx hb dX9_openRights_66 (lv_at hl 6 rfl) ?_
          refine lv_iload hx hb dX9_openRights_68 (lv_at hl 7 rfl) ?_
          refine lv_iconst (v := (1 : Int32)) hx hb dX9_openRights_70 (by decide) ?_
          obtain ⟨r17, σ18, hu16, hf⟩ := zb_some hf
          refine x_i B (fun nb a g hs Bz => va_runV (As := [.int v6, .int v7, .int (1 : Int32)]) (rest := [.int v3]) ⟨hx, hb, hml, hown, hts⟩ (c_X9_part l hu16 _ nb a g hs) (cwV 3 hts gX9_openRights_X9_part rfl rfl rfl (by decide +kernel) ⟨Nat.le_of_ble_eq_true rfl, Nat.le_of_ble_eq_true rfl⟩) (x_preV Bz (by decide) (fun _ => rfl) rfl) rfl rfl hl.1 rfl (lv_room (Nat.le_of_ble_eq_true rfl)) dX9_openRights_71 ⟨Nat.le_of_ble_eq_true rfl, Nat.le_of_ble_eq_true rfl⟩) (fun H locs B => ?_)
          refine lv_iand hx hb dX9_openRights_74 ?_
          refine lv_istore_n (lv' := [(3, .int (v3 &&& r17)), (8, .int r5), (0, .ref (ad 65)), (1, .int v1), (4, .int v4), (5, .int v5), (6, .int v6), (7, .int v7)]) hx hb dX9_openRights_75 rfl hl (by decide) rfl (fun ls hl => ?_)
          refine lv_goto (tgt := 136) hx hb dX9_openRights_76 (by decide) ?_
          refine lv_iinc (v := (v7 + (1 : Int32))) (lv' := [(7, .int (v7 + (1 : Int32))), (3, .int (v3 &&& r17)), (8, .int r5), (0, .ref (ad 65)), (1, .int v1), (4, .int v4), (5, .int v5), (6, .int v6)]) hx hb dX9_openRights_136 hl (k := 7) rfl (zc1 (by decide)) (by decide) rfl (fun ls hl => ?_)
          refine lv_goto (tgt := 32) hx hb dX9_openRights_139 (by decide) ?_
          exact ih _ _ _ _ _ _ _ _ _ _ hf B (lv_sub hl [3, 4, 1, 5, 6, 7, 0] rfl)
  have L24 : ∀ (n : Nat) (σ : zs) (v1 : Int32) (v3 : Int32) (v4 : Int32) (v5 : Int32) (v6 : Int32) (H : Heap) (locs : List Loc) (ls : Array Slot), zlp5 (f_X9_openRights_24) n σ v1 v3 v4 v5 v6 = some (r, σ') → xB A s G ad σ H locs → lv_has ls 9 [(0, .ref (ad 65)), (1, .int v1), (3, .int v3), (4, .int v4), (5, .int v5), (6, .int v6)] → W p l e (headSpec wsX9_openRights rm_X9_openRights).room s m ([.ref (ad 65), .int a1, .int a2] : List Value).toArray below meth c H locs 0 0 (MQ below (va_Qi (fun r' (u : xV) => r' = r ∧ xQ σ' u) (xPost G ad σ' A) A) ([.ref (ad 65), .int a1, .int a2] : List Value).toArray s 0 0 A) (F0 m 24 ls []) := by
    intro n
    induction n with
    | zero =>
      intro σ v1 v3 v4 v5 v6 H locs ls hf
      cases hf
    | succ n ih =>
      intro σ v1 v3 v4 v5 v6 H locs ls hf B hl
      have hf : f_X9_openRights_24 (zlp5 (f_X9_openRights_24) n) σ v1 v3 v4 v5 v6 = some (r, σ') := hf
      unfold f_X9_openRights_24 at hf
      refine lv_iload hx hb dX9_openRights_24 (lv_at hl 5 rfl) ?_
      refine lv_if_lt (tgt := 157) hx hb dX9_openRights_26 (by decide) (fun hc => ?_) (fun hc => ?_)
      · have hf := zif_t hc hf
        refine lv_iload hx hb dX9_openRights_157 (lv_at hl 3 rfl) ?_
        refine lv_iload hx hb dX9_openRights_159 (lv_at hl 4 rfl) ?_
        refine lv_icmp_gt (tgt := 168) hx hb dX9_openRights_161 (by decide) (fun hc => ?_) (fun hc => ?_)
        · have hf := zif_t hc hf
          refine lv_iconst (v := (0 : Int32)) hx hb dX9_openRights_168 (by decide) ?_
          refine W.widen (k := 0) (n := 0) (Nat.le_of_ble_eq_true rfl) (Nat.le_of_ble_eq_true rfl) ?_
          exact x_iret hx hb hr rfl hlocks B hf dX9_openRights_169
        · have hf := zif_f hc hf
          refine lv_iload_n hx hb dX9_openRights_164 rfl (lv_at hl 2 rfl) ?_
          refine lv_goto (tgt := 169) hx hb dX9_openRights_165 (by decide) ?_
          refine W.widen (k := 0) (n := 0) (Nat.le_of_ble_eq_true rfl) (Nat.le_of_ble_eq_true rfl) ?_
          exact x_iret hx hb hr rfl hlocks B hf dX9_openRights_169
      · have hf := zif_f hc hf
        refine lv_iconst (v := (0 : Int32)) hx hb dX9_openRights_29 (by decide) ?_
        refine lv_istore (lv' := [(7, .int (0 : Int32)), (0, .ref (ad 65)), (1, .int v1), (3, .int v3), (4, .int v4), (5, .int v5), (6, .int v6)]) hx hb dX9_openRights_30 hl (by decide) rfl (fun ls hl => ?_)
        exact L32 _ ih  _ _ _ _ _ _ _ _ _ _ _ hf B (lv_sub hl [1, 2, 3, 4, 5, 6, 0] rfl)
  unfold f_X9_openRights at hf
  refine lv_aload_n hx hb dX9_openRights_0 rfl (lv_at hl 0 rfl) ?_
  refine lv_iload_n hx hb dX9_openRights_1 rfl (lv_at hl 2 rfl) ?_
  obtain ⟨r2, σ3, hu1, hf⟩ := zb_some hf
  refine x_i B (fun nb a g hs Bz => va_runV (As := [.int a2]) (rest := []) ⟨hx, hb, hml, hown, hts⟩ (c_X9_revokedIn l hu1 _ nb a g hs) (cwV 1 hts gX9_openRights_X9_revokedIn rfl rfl rfl (by decide +kernel) ⟨Nat.le_of_ble_eq_true rfl, Nat.le_of_ble_eq_true rfl⟩) (x_preV Bz (by decide) (fun _ => rfl) rfl) rfl rfl hl.1 rfl (lv_room (Nat.le_of_ble_eq_true rfl)) dX9_openRights_2 ⟨Nat.le_of_ble_eq_true rfl, Nat.le_of_ble_eq_true rfl⟩) (fun H locs B => ?_)
  refine lv_if_le (tgt := 10) hx hb dX9_openRights_5 (by decide) (fun hc => ?_) (fun hc => ?_)
  · have hf := zif_t hc hf
    refine lv_bipush (v := (15 : Int32)) hx hb dX9_openRights_10 (by decide) ?_
    refine lv_istore_n (lv' := [(3, .int (15 : Int32)), (0, .ref (ad 65)), (1, .int a1), (2, .int a2)]) hx hb dX9_openRights_12 rfl hl (by decide) rfl (fun ls hl => ?_)
    refine lv_iconst (v := (0 : Int32)) hx hb dX9_openRights_13 (by decide) ?_
    refine lv_istore (lv' := [(4, .int (0 : Int32)), (3, .int (15 : Int32)), (0, .ref (ad 65)), (1, .int a1), (2, .int a2)]) hx hb dX9_openRights_14 hl (by decide) rfl (fun ls hl => ?_)
    refine lv_sipush (v := (999 : Int32)) hx hb dX9_openRights_16 (by decide) ?_
    refine lv_istore (lv' := [(5, .int (999 : Int32)), (4, .int (0 : Int32)), (3, .int (15 : Int32)), (0, .ref (ad 65)), (1, .int a1), (2, .int a2)]) hx hb dX9_openRights_19 hl (by decide) rfl (fun ls hl => ?_)
    refine lv_iload_n hx hb dX9_openRights_21 rfl (lv_at hl 5 rfl) ?_
    refine lv_istore (lv' := [(6, .int a2), (5, .int (999 : Int32)), (4, .int (0 : Int32)), (3, .int (15 : Int32)), (0, .ref (ad 65)), (1, .int a1), (2, .int a2)]) hx hb dX9_openRights_22 hl (by decide) rfl (fun ls hl => ?_)
    exact L24  _ _ _ _ _ _ _ _ _ _ hf B (lv_sub hl [4, 5, 3, 2, 1, 0] rfl)
  · have hf := zif_f hc hf
    refine lv_iconst (v := (0 : Int32)) hx hb dX9_openRights_8 (by decide) ?_
    refine W.widen (k := 0) (n := 0) (Nat.le_of_ble_eq_true rfl) (Nat.le_of_ble_eq_true rfl) ?_
    exact x_iret hx hb hr rfl hlocks B hf dX9_openRights_9
theorem dX9_rights_0 : decode cX9_rights 0 = .ok (.aload_n 0, 1) := by decide +kernel
theorem dX9_rights_1 : decode cX9_rights 1 = .ok (.iload_n 1, 1) := by decide +kernel
theorem dX9_rights_2 : decode cX9_rights 2 = .ok (.invokestatic 78, 3) := by decide +kernel
theorem dX9_rights_5 : decode cX9_rights 5 = .ok (.ifCond .eq 15, 3) := by decide +kernel
theorem dX9_rights_8 : decode cX9_rights 8 = .ok (.aload_n 0, 1) := by decide +kernel
theorem dX9_rights_9 : decode cX9_rights 9 = .ok (.iload_n 2, 1) := by decide +kernel
theorem dX9_rights_10 : decode cX9_rights 10 = .ok (.invokevirtual 118, 3) := by decide +kernel
theorem dX9_rights_13 : decode cX9_rights 13 = .ok (.ifCond .eq 7, 3) := by decide +kernel
theorem dX9_rights_16 : decode cX9_rights 16 = .ok (.iconst 0, 1) := by decide +kernel
theorem dX9_rights_17 : decode cX9_rights 17 = .ok (.goto 4, 3) := by decide +kernel
theorem dX9_rights_20 : decode cX9_rights 20 = .ok (.iconst 1, 1) := by decide +kernel
theorem dX9_rights_21 : decode cX9_rights 21 = .ok (.putfield 41, 3) := by decide +kernel
theorem dX9_rights_24 : decode cX9_rights 24 = .ok (.aload_n 0, 1) := by decide +kernel
theorem dX9_rights_25 : decode cX9_rights 25 = .ok (.getfield 41, 3) := by decide +kernel
theorem dX9_rights_28 : decode cX9_rights 28 = .ok (.ifCond .ne 12, 3) := by decide +kernel
theorem dX9_rights_31 : decode cX9_rights 31 = .ok (.aload_n 0, 1) := by decide +kernel
theorem dX9_rights_32 : decode cX9_rights 32 = .ok (.iload_n 1, 1) := by decide +kernel
theorem dX9_rights_33 : decode cX9_rights 33 = .ok (.iload_n 2, 1) := by decide +kernel
theorem dX9_rights_34 : decode cX9_rights 34 = .ok (.invokevirtual 199, 3) := by decide +kernel
theorem dX9_rights_37 : decode cX9_rights 37 = .ok (.goto 4, 3) := by decide +kernel
theorem dX9_rights_40 : decode cX9_rights 40 = .ok (.iconst 0, 1) := by decide +kernel
theorem dX9_rights_41 : decode cX9_rights 41 = .ok (.ireturn, 1) := by decide +kernel
set_option maxRecDepth 20000 in
theorem ggX9_rights_X9_isSubject : GoodIn wsX9_rights wsX9_isSubject := goodIn_r _ [5, 6, 7, 4, 8] (by decide +kernel) (by decide +kernel)
set_option maxRecDepth 20000 in
theorem gX9_rights_X9_isSubject : GoodIn wsX9_rights (va_wsS RX9 78 yX9_isSubject wsX9_isSubject) := goodIn_app (goodIn_of _ (by decide +kernel)) ggX9_rights_X9_isSubject
set_option maxRecDepth 20000 in
theorem ggX9_rights_X9_openRights : GoodIn wsX9_rights wsX9_openRights := goodIn_ca (goodIn_r _ [17, 13, 18, 19, 20, 21, 22, 23, 24, 25, 26, 27, 4, 28, 29, 30, 31, 32, 33, 34, 35, 36, 6, 7, 8, 37, 38, 39, 40, 41, 42, 43, 44, 45, 46, 47, 48, 49, 50, 51, 52, 53, 54, 55, 56] (by decide +kernel) (by decide +kernel)) (goodIn_sub (fun _ h => List.mem_cons_of_mem _ (List.mem_append_right _ h)) (by decide +kernel))
set_option maxRecDepth 20000 in
theorem gX9_rights_X9_openRights : GoodIn wsX9_rights (wsV RX9 199 RX9 yX9_openRights wsX9_openRights) := goodIn_app (goodIn_of _ (by decide +kernel)) ggX9_rights_X9_openRights
set_option maxRecDepth 20000 in
theorem ggX9_rights_X9_isToken : GoodIn wsX9_rights wsX9_isToken := goodIn_ca (goodIn_r _ [12, 13, 6, 7, 4, 8, 37, 38, 39, 40, 41, 42, 43, 44, 45, 46, 47, 48, 49, 50, 51, 52, 53, 54, 55, 56] (by decide +kernel) (by decide +kernel)) (goodIn_sub (fun _ h => List.mem_cons_of_mem _ (List.mem_append_right _ h)) (by decide +kernel))
set_option maxRecDepth 20000 in
theorem gX9_rights_X9_isToken : GoodIn wsX9_rights (wsV RX9 118 RX9 yX9_isToken wsX9_isToken) := goodIn_app (goodIn_of _ (by decide +kernel)) ggX9_rights_X9_isToken
def rm_X9_rights : Room := { frames := 4, cells := 0, slots := 0, locals := 93 }
set_option maxHeartbeats 4000000 in
set_option maxRecDepth 100000 in
theorem c_X9_rights (l : Launch) {G : zG} {ad : Nat → Nat} {σ σ' : zs} {a1 a2 : Int32} {r : Int32} (hf : f_X9_rights σ a1 a2 = some (r, σ')) : xMi l yX9_rights wsX9_rights rm_X9_rights G ad σ [.ref (ad 65), .int a1, .int a2] r σ' := by
  intro sz nb a g hs
  refine Met.ofW (cc := cX9_rights) (maxL := 3) (ret := (some .int)) (by decide) rfl ?_
  intro p e s m args below meth c s₁ B hml hv
  obtain ⟨rfl, hsz, hv⟩ := hv
  have hx := B.exec
  have hb := B.bytes
  have hr := B.returns
  have hts := atoms_spec (ws := wsX9_rights) B.pre
  have hown : s.vm.findClass RX9 = some m.cls := findClass_of_methodNamed B.named
  have hlocks := B.notSynchronized
  subst hsz
  have B := xB_start hs hv
  have hinRX9 : ∀ w ∈ wsX90, w ∈ wsX9_rights := by decide +kernel
  have hl := lv_entry ([.ref (ad 65), .int a1, .int a2]) (n := 3) (Nat.le_of_ble_eq_true rfl)
  rw [lg_entry_eq]
  generalize (lg_sl ([.ref (ad 65), .int a1, .int a2]) ++ List.replicate (3 - (lg_sl ([.ref (ad 65), .int a1, .int a2])).length) Slot.unset).toArray = ls at hl ⊢
  have hl : lv_has ls 3 [(0, .ref (ad 65)), (1, .int a1), (2, .int a2)] := hl
  generalize hAe : xA ad a s.heap.size = A at B ⊢
  have L21 : ∀ (σ : zs) (v1 : Int32) (v2 : Int32) (s0 : Int32) (H : Heap) (locs : List Loc) (ls : Array Slot), f_X9_rights_21 σ v1 v2 s0 = some (r, σ') → xB A s G ad σ H locs → lv_has ls 3 [(0, .ref (ad 65)), (1, .int v1), (2, .int v2)] → W p l e (headSpec wsX9_rights rm_X9_rights).room s m ([.ref (ad 65), .int a1, .int a2] : List Value).toArray below meth c H locs 0 0 (MQ below (va_Qi (fun r' (u : xV) => r' = r ∧ xQ σ' u) (xPost G ad σ' A) A) ([.ref (ad 65), .int a1, .int a2] : List Value).toArray s 0 0 A) (F0 m 21 ls [.int s0, .ref (ad 65)]) := by
    intro σ v1 v2 s0 H locs ls hf B hl
    unfold f_X9_rights_21 at hf
    refine x_puti hx hb hts hinRX9 hown tyX9 tyX9_ok nmX9 B 65 3 (by decide) (by decide) (fun _ => rfl) rfl rfl (by decide) (by decide +kernel) rfl rfl rfl rfl dX9_rights_21 (fun H locs B => ?_)
    refine lv_aload_n hx hb dX9_rights_24 rfl (lv_at hl 0 rfl) ?_
    refine x_geti hx hb hts hinRX9 hown B 65 3 (by decide) (fun _ => rfl) rfl rfl (by decide) (by decide +kernel) rfl dX9_rights_25 ?_
    refine lv_if_ne (tgt := 40) hx hb dX9_rights_28 (by decide) (fun hc => ?_) (fun hc => ?_)
    · have hf := zif_f hc hf
      refine lv_iconst (v := (0 : Int32)) hx hb dX9_rights_40 (by decide) ?_
      refine W.widen (k := 0) (n := 0) (Nat.le_of_ble_eq_true rfl) (Nat.le_of_ble_eq_true rfl) ?_
      exact x_iret hx hb hr rfl hlocks B hf dX9_rights_41
    · have hf := zif_t hc hf
      refine lv_aload_n hx hb dX9_rights_31 rfl (lv_at hl 0 rfl) ?_
      refine lv_iload_n hx hb dX9_rights_32 rfl (lv_at hl 1 rfl) ?_
      refine lv_iload_n hx hb dX9_rights_33 rfl (lv_at hl 2 rfl) ?_
      obtain ⟨r5, σ6, hu4, hf⟩ := zb_some hf
      refine x_i B (fun nb a g hs Bz => va_runV (As := [.int v1, .int v2]) (rest := []) ⟨hx, hb, hml, hown, hts⟩ (c_X9_openRights l hu4 _ nb a g hs) (cwV 2 hts gX9_rights_X9_openRights rfl rfl rfl (by decide +kernel) ⟨Nat.le_of_ble_eq_true rfl, Nat.le_of_ble_eq_true rfl⟩) (x_preV Bz (by decide) (fun _ => rfl) rfl) rfl rfl hl.1 rfl (lv_room (Nat.le_of_ble_eq_true rfl)) dX9_rights_34 ⟨Nat.le_of_ble_eq_true rfl, Nat.le_of_ble_eq_true rfl⟩) (fun H locs B => ?_)
      refine lv_goto (tgt := 41) hx hb dX9_rights_37 (by decide) ?_
      refine W.widen (k := 0) (n := 0) (Nat.le_of_ble_eq_true rfl) (Nat.le_of_ble_eq_true rfl) ?_
      exact x_iret hx hb hr rfl hlocks B hf dX9_rights_41
  unfold f_X9_rights at hf
  refine lv_aload_n hx hb dX9_rights_0 rfl (lv_at hl 0 rfl) ?_
  refine lv_iload_n hx hb dX9_rights_1 rfl (lv_at hl 1 rfl) ?_
  obtain ⟨r2, σ3, hu1, hf⟩ := zb_some hf
  refine x_i B (fun nb a g hs Bz => va_runS (As := [.int a1]) (rest := [.ref (ad 65)]) ⟨hx, hb, hml, hown, hts⟩ (c_X9_isSubject l hu1 _ nb a g hs) (va_cwS 1 hts gX9_rights_X9_isSubject rfl rfl rfl (by decide +kernel) ⟨Nat.le_of_ble_eq_true rfl, Nat.le_of_ble_eq_true rfl⟩) (z_preS Bz) rfl rfl hl.1 rfl (lv_room (Nat.le_of_ble_eq_true rfl)) dX9_rights_2 ⟨Nat.le_of_ble_eq_true rfl, Nat.le_of_ble_eq_true rfl⟩) (fun H locs B => ?_)
  refine lv_if_eq (tgt := 20) hx hb dX9_rights_5 (by decide) (fun hc => ?_) (fun hc => ?_)
  · have hf := zif_t hc hf
    refine lv_iconst (v := (1 : Int32)) hx hb dX9_rights_20 (by decide) ?_
    exact L21  _ _ _ _ _ _ _ hf B (lv_sub hl [0, 1, 2] rfl)
  · have hf := zif_f hc hf
    refine lv_aload_n hx hb dX9_rights_8 rfl (lv_at hl 0 rfl) ?_
    refine lv_iload_n hx hb dX9_rights_9 rfl (lv_at hl 2 rfl) ?_
    obtain ⟨r8, σ9, hu7, hf⟩ := zb_some hf
    refine x_i B (fun nb a g hs Bz => va_runV (As := [.int a2]) (rest := [.ref (ad 65)]) ⟨hx, hb, hml, hown, hts⟩ (c_X9_isToken l hu7 _ nb a g hs) (cwV 1 hts gX9_rights_X9_isToken rfl rfl rfl (by decide +kernel) ⟨Nat.le_of_ble_eq_true rfl, Nat.le_of_ble_eq_true rfl⟩) (x_preV Bz (by decide) (fun _ => rfl) rfl) rfl rfl hl.1 rfl (lv_room (Nat.le_of_ble_eq_true rfl)) dX9_rights_10 ⟨Nat.le_of_ble_eq_true rfl, Nat.le_of_ble_eq_true rfl⟩) (fun H locs B => ?_)
    refine lv_if_eq (tgt := 20) hx hb dX9_rights_13 (by decide) (fun hc => ?_) (fun hc => ?_)
    · have hf := zif_t hc hf
      refine lv_iconst (v := (1 : Int32)) hx hb dX9_rights_20 (by decide) ?_
      exact L21  _ _ _ _ _ _ _ hf B (lv_sub hl [0, 1, 2] rfl)
    · have hf := zif_f hc hf
      refine lv_iconst (v := (0 : Int32)) hx hb dX9_rights_16 (by decide) ?_
      refine lv_goto (tgt := 21) hx hb dX9_rights_17 (by decide) ?_
      exact L21  _ _ _ _ _ _ _ hf B (lv_sub hl [0, 1, 2] rfl)
theorem dX9_sends_0 : decode cX9_sends 0 = .ok (.iconst 0, 1) := by decide +kernel
theorem dX9_sends_1 : decode cX9_sends 1 = .ok (.istore_n 2, 1) := by decide +kernel
theorem dX9_sends_2 : decode cX9_sends 2 = .ok (.iconst 0, 1) := by decide +kernel
theorem dX9_sends_3 : decode cX9_sends 3 = .ok (.istore_n 3, 1) := by decide +kernel
theorem dX9_sends_4 : decode cX9_sends 4 = .ok (.iload_n 3, 1) := by decide +kernel
theorem dX9_sends_5 : decode cX9_sends 5 = .ok (.aload_n 0, 1) := by decide +kernel
theorem dX9_sends_6 : decode cX9_sends 6 = .ok (.getfield 9, 3) := by decide +kernel
theorem dX9_sends_9 : decode cX9_sends 9 = .ok (.iconst 1, 1) := by decide +kernel
theorem dX9_sends_10 : decode cX9_sends 10 = .ok (.iaload, 1) := by decide +kernel
theorem dX9_sends_11 : decode cX9_sends 11 = .ok (.if_icmp .ge 43, 3) := by decide +kernel
theorem dX9_sends_14 : decode cX9_sends 14 = .ok (.iload_n 2, 1) := by decide +kernel
theorem dX9_sends_15 : decode cX9_sends 15 = .ok (.aload_n 0, 1) := by decide +kernel
theorem dX9_sends_16 : decode cX9_sends 16 = .ok (.getfield 35, 3) := by decide +kernel
theorem dX9_sends_19 : decode cX9_sends 19 = .ok (.iload_n 1, 1) := by decide +kernel
theorem dX9_sends_20 : decode cX9_sends 20 = .ok (.iaload, 1) := by decide +kernel
theorem dX9_sends_21 : decode cX9_sends 21 = .ok (.iload_n 3, 1) := by decide +kernel
theorem dX9_sends_22 : decode cX9_sends 22 = .ok (.invokestatic 59, 3) := by decide +kernel
theorem dX9_sends_25 : decode cX9_sends 25 = .ok (.ifCond .eq 20, 3) := by decide +kernel
theorem dX9_sends_28 : decode cX9_sends 28 = .ok (.aload_n 0, 1) := by decide +kernel
theorem dX9_sends_29 : decode cX9_sends 29 = .ok (.iload_n 1, 1) := by decide +kernel
theorem dX9_sends_30 : decode cX9_sends 30 = .ok (.iload_n 3, 1) := by decide +kernel
theorem dX9_sends_31 : decode cX9_sends 31 = .ok (.invokevirtual 199, 3) := by decide +kernel
theorem dX9_sends_34 : decode cX9_sends 34 = .ok (.iconst 4, 1) := by decide +kernel
theorem dX9_sends_35 : decode cX9_sends 35 = .ok (.iand, 1) := by decide +kernel
theorem dX9_sends_36 : decode cX9_sends 36 = .ok (.ifCond .eq 9, 3) := by decide +kernel
theorem dX9_sends_39 : decode cX9_sends 39 = .ok (.iconst 1, 1) := by decide +kernel
theorem dX9_sends_40 : decode cX9_sends 40 = .ok (.iload_n 3, 1) := by decide +kernel
theorem dX9_sends_41 : decode cX9_sends 41 = .ok (.ishl, 1) := by decide +kernel
theorem dX9_sends_42 : decode cX9_sends 42 = .ok (.goto 4, 3) := by decide +kernel
theorem dX9_sends_45 : decode cX9_sends 45 = .ok (.iconst 0, 1) := by decide +kernel
theorem dX9_sends_46 : decode cX9_sends 46 = .ok (.ior, 1) := by decide +kernel
theorem dX9_sends_47 : decode cX9_sends 47 = .ok (.istore_n 2, 1) := by decide +kernel
theorem dX9_sends_48 : decode cX9_sends 48 = .ok (.iinc 3 1, 3) := by decide +kernel
theorem dX9_sends_51 : decode cX9_sends 51 = .ok (.goto (-47), 3) := by decide +kernel
theorem dX9_sends_54 : decode cX9_sends 54 = .ok (.iconst 0, 1) := by decide +kernel
theorem dX9_sends_55 : decode cX9_sends 55 = .ok (.istore_n 3, 1) := by decide +kernel
theorem dX9_sends_56 : decode cX9_sends 56 = .ok (.iconst 0, 1) := by decide +kernel
theorem dX9_sends_57 : decode cX9_sends 57 = .ok (.istore 4, 2) := by decide +kernel
theorem dX9_sends_59 : decode cX9_sends 59 = .ok (.iload 4, 2) := by decide +kernel
theorem dX9_sends_61 : decode cX9_sends 61 = .ok (.aload_n 0, 1) := by decide +kernel
theorem dX9_sends_62 : decode cX9_sends 62 = .ok (.getfield 9, 3) := by decide +kernel
theorem dX9_sends_65 : decode cX9_sends 65 = .ok (.iconst 1, 1) := by decide +kernel
theorem dX9_sends_66 : decode cX9_sends 66 = .ok (.iaload, 1) := by decide +kernel
theorem dX9_sends_67 : decode cX9_sends 67 = .ok (.if_icmp .ge 87, 3) := by decide +kernel
theorem dX9_sends_70 : decode cX9_sends 70 = .ok (.aload_n 0, 1) := by decide +kernel
theorem dX9_sends_71 : decode cX9_sends 71 = .ok (.getfield 9, 3) := by decide +kernel
theorem dX9_sends_74 : decode cX9_sends 74 = .ok (.bipush 51, 2) := by decide +kernel
theorem dX9_sends_76 : decode cX9_sends 76 = .ok (.iload 4, 2) := by decide +kernel
theorem dX9_sends_78 : decode cX9_sends 78 = .ok (.iadd, 1) := by decide +kernel
theorem dX9_sends_79 : decode cX9_sends 79 = .ok (.iaload, 1) := by decide +kernel
theorem dX9_sends_80 : decode cX9_sends 80 = .ok (.istore 5, 2) := by decide +kernel
theorem dX9_sends_82 : decode cX9_sends 82 = .ok (.iload 5, 2) := by decide +kernel
theorem dX9_sends_84 : decode cX9_sends 84 = .ok (.bipush 6, 2) := by decide +kernel
theorem dX9_sends_86 : decode cX9_sends 86 = .ok (.if_icmp .ge 62, 3) := by decide +kernel
theorem dX9_sends_89 : decode cX9_sends 89 = .ok (.aload_n 0, 1) := by decide +kernel
theorem dX9_sends_90 : decode cX9_sends 90 = .ok (.getfield 35, 3) := by decide +kernel
theorem dX9_sends_93 : decode cX9_sends 93 = .ok (.iload_n 1, 1) := by decide +kernel
theorem dX9_sends_94 : decode cX9_sends 94 = .ok (.iaload, 1) := by decide +kernel
theorem dX9_sends_95 : decode cX9_sends 95 = .ok (.iload 4, 2) := by decide +kernel
theorem dX9_sends_97 : decode cX9_sends 97 = .ok (.invokestatic 59, 3) := by decide +kernel
theorem dX9_sends_100 : decode cX9_sends 100 = .ok (.ifCond .eq 48, 3) := by decide +kernel
theorem dX9_sends_103 : decode cX9_sends 103 = .ok (.aload_n 0, 1) := by decide +kernel
theorem dX9_sends_104 : decode cX9_sends 104 = .ok (.iload_n 1, 1) := by decide +kernel
theorem dX9_sends_105 : decode cX9_sends 105 = .ok (.iload 4, 2) := by decide +kernel
theorem dX9_sends_107 : decode cX9_sends 107 = .ok (.invokevirtual 199, 3) := by decide +kernel
theorem dX9_sends_110 : decode cX9_sends 110 = .ok (.iconst 2, 1) := by decide +kernel
theorem dX9_sends_111 : decode cX9_sends 111 = .ok (.iand, 1) := by decide +kernel
theorem dX9_sends_112 : decode cX9_sends 112 = .ok (.ifCond .eq 36, 3) := by decide +kernel
theorem dX9_sends_115 : decode cX9_sends 115 = .ok (.iload_n 3, 1) := by decide +kernel
theorem dX9_sends_116 : decode cX9_sends 116 = .ok (.iload_n 2, 1) := by decide +kernel
theorem dX9_sends_117 : decode cX9_sends 117 = .ok (.aload_n 0, 1) := by decide +kernel
theorem dX9_sends_118 : decode cX9_sends 118 = .ok (.getfield 35, 3) := by decide +kernel
theorem dX9_sends_121 : decode cX9_sends 121 = .ok (.iload 5, 2) := by decide +kernel
theorem dX9_sends_123 : decode cX9_sends 123 = .ok (.iaload, 1) := by decide +kernel
theorem dX9_sends_124 : decode cX9_sends 124 = .ok (.iconst (-1), 1) := by decide +kernel
theorem dX9_sends_125 : decode cX9_sends 125 = .ok (.ixor, 1) := by decide +kernel
theorem dX9_sends_126 : decode cX9_sends 126 = .ok (.iand, 1) := by decide +kernel
theorem dX9_sends_127 : decode cX9_sends 127 = .ok (.ifCond .eq 7, 3) := by decide +kernel
theorem dX9_sends_130 : decode cX9_sends 130 = .ok (.iconst 1, 1) := by decide +kernel
theorem dX9_sends_131 : decode cX9_sends 131 = .ok (.goto 4, 3) := by decide +kernel
theorem dX9_sends_134 : decode cX9_sends 134 = .ok (.iconst 0, 1) := by decide +kernel
theorem dX9_sends_135 : decode cX9_sends 135 = .ok (.ior, 1) := by decide +kernel
theorem dX9_sends_136 : decode cX9_sends 136 = .ok (.istore_n 3, 1) := by decide +kernel
theorem dX9_sends_137 : decode cX9_sends 137 = .ok (.aload_n 0, 1) := by decide +kernel
theorem dX9_sends_138 : decode cX9_sends 138 = .ok (.getfield 35, 3) := by decide +kernel
theorem dX9_sends_141 : decode cX9_sends 141 = .ok (.iload 5, 2) := by decide +kernel
theorem dX9_sends_143 : decode cX9_sends 143 = .ok (.dup2, 1) := by decide +kernel
theorem dX9_sends_144 : decode cX9_sends 144 = .ok (.iaload, 1) := by decide +kernel
theorem dX9_sends_145 : decode cX9_sends 145 = .ok (.iload_n 2, 1) := by decide +kernel
theorem dX9_sends_146 : decode cX9_sends 146 = .ok (.ior, 1) := by decide +kernel
theorem dX9_sends_147 : decode cX9_sends 147 = .ok (.iastore, 1) := by decide +kernel
theorem dX9_sends_148 : decode cX9_sends 148 = .ok (.iinc 4 1, 3) := by decide +kernel
theorem dX9_sends_151 : decode cX9_sends 151 = .ok (.goto (-92), 3) := by decide +kernel
theorem dX9_sends_154 : decode cX9_sends 154 = .ok (.iload_n 3, 1) := by decide +kernel
theorem dX9_sends_155 : decode cX9_sends 155 = .ok (.ireturn, 1) := by decide +kernel
set_option maxRecDepth 20000 in
theorem ggX9_sends_X9_has : GoodIn wsX9_sends wsX9_has := goodIn_r _ [6] (by decide +kernel) (by decide +kernel)
set_option maxRecDepth 20000 in
theorem gX9_sends_X9_has : GoodIn wsX9_sends (va_wsS RX9 59 yX9_has wsX9_has) := goodIn_app (goodIn_of _ (by decide +kernel)) ggX9_sends_X9_has
set_option maxRecDepth 20000 in
theorem ggX9_sends_X9_openRights : GoodIn wsX9_sends wsX9_openRights := goodIn_ca (goodIn_r _ [10, 1, 11, 12, 13, 14, 15, 16, 17, 18, 19, 20, 5, 21, 22, 23, 24, 25, 26, 27, 28, 29, 30, 31, 32, 33, 34, 35, 36, 37, 38, 39, 40, 41, 42, 43, 44, 45, 46, 47, 48, 49, 50, 51, 52] (by decide +kernel) (by decide +kernel)) (goodIn_sub (fun _ h => List.mem_cons_of_mem _ (List.mem_append_right _ h)) (by decide +kernel))
set_option maxRecDepth 20000 in
theorem gX9_sends_X9_openRights : GoodIn wsX9_sends (wsV RX9 199 RX9 yX9_openRights wsX9_openRights) := goodIn_app (goodIn_of _ (by decide +kernel)) ggX9_sends_X9_openRights
def rm_X9_sends : Room := { frames := 4, cells := 0, slots := 0, locals := 93 }
set_option maxHeartbeats 4000000 in
set_option maxRecDepth 100000 in
theorem c_X9_sends (l : Launch) {G : zG} {ad : Nat → Nat} {σ σ' : zs} {a1 : Int32} {r : Int32} (hf : f_X9_sends σ a1 = some (r, σ')) : xMi l yX9_sends wsX9_sends rm_X9_sends G ad σ [.ref (ad 65), .int a1] r σ' := by
  intro sz nb a g hs
  refine Met.ofW (cc := cX9_sends) (maxL := 6) (ret := (some .boolean)) (by decide) rfl ?_
  intro p e s m args below meth c s₁ B hml hv
  obtain ⟨rfl, hsz, hv⟩ := hv
  have hx := B.exec
  have hb := B.bytes
  have hr := B.returns
  have hts := atoms_spec (ws := wsX9_sends) B.pre
  have hown : s.vm.findClass RX9 = some m.cls := findClass_of_methodNamed B.named
  have hlocks := B.notSynchronized
  subst hsz
  have B := xB_start hs hv
  have hinRX9 : ∀ w ∈ wsX90, w ∈ wsX9_sends := by decide +kernel
  have hl := lv_entry ([.ref (ad 65), .int a1]) (n := 6) (Nat.le_of_ble_eq_true rfl)
  rw [lg_entry_eq]
  generalize (lg_sl ([.ref (ad 65), .int a1]) ++ List.replicate (6 - (lg_sl ([.ref (ad 65), .int a1])).length) Slot.unset).toArray = ls at hl ⊢
  have hl : lv_has ls 6 [(0, .ref (ad 65)), (1, .int a1)] := hl
  generalize hAe : xA ad a s.heap.size = A at B ⊢
  have L135 : ∀ (K59 : zs → Int32 → Int32 → Int32 → Int32 → Option (Int32 × zs)) (hK59 : ∀ (σ : zs) (v1 : Int32) (v2 : Int32) (v3 : Int32) (v4 : Int32) (H : Heap) (locs : List Loc) (ls : Array Slot), K59 σ v1 v2 v3 v4 = some (r, σ') → xB A s G ad σ H locs → lv_has ls 6 [(0, .ref (ad 65)), (1, .int v1), (2, .int v2), (3, .int v3), (4, .int v4)] → W p l e (headSpec wsX9_sends rm_X9_sends).room s m ([.ref (ad 65), .int a1] : List Value).toArray below meth c H locs 0 0 (MQ below (va_Qi (fun r' (u : xV) => r' = r ∧ xQ σ' u) (xPost G ad σ' A) A) ([.ref (ad 65), .int a1] : List Value).toArray s 0 0 A) (F0 m 59 ls [])) (σ : zs) (v1 : Int32) (v2 : Int32) (v4 : Int32) (v5 : Int32) (s0 : Int32) (s1 : Int32) (H : Heap) (locs : List Loc) (ls : Array Slot), f_X9_sends_135 K59 σ v1 v2 v4 v5 s0 s1 = some (r, σ') → xB A s G ad σ H locs → lv_has ls 6 [(0, .ref (ad 65)), (1, .int v1), (2, .int v2), (4, .int v4), (5, .int v5)] → W p l e (headSpec wsX9_sends rm_X9_sends).room s m ([.ref (ad 65), .int a1] : List Value).toArray below meth c H locs 0 0 (MQ below (va_Qi (fun r' (u : xV) => r' = r ∧ xQ σ' u) (xPost G ad σ' A) A) ([.ref (ad 65), .int a1] : List Value).toArray s 0 0 A) (F0 m 135 ls [.int s0, .int s1]) := by
    intro K59 hK59 σ v1 v2 v4 v5 s0 s1 H locs ls hf B hl
    unfold f_X9_sends_135 at hf
    refine lv_ior hx hb dX9_sends_135 ?_
    refine lv_istore_n (lv' := [(3, .int (s1 ||| s0)), (0, .ref (ad 65)), (1, .int v1), (2, .int v2), (4, .int v4), (5, .int v5)]) hx hb dX9_sends_136 rfl hl (by decide) rfl (fun ls hl => ?_)
    refine lv_aload_n hx hb dX9_sends_137 rfl (lv_at hl 1 rfl) ?_
    refine x_getr hx hb hts hinRX9 hown B 65 18 73 (by decide) (by decide) (fun _ => rfl) rfl rfl (by decide) (by decide +kernel) rfl dX9_sends_138 ?_
    refine lv_iload hx hb dX9_sends_141 (lv_at hl 5 rfl) ?_
    refine lv_dup2_11 hx hb dX9_sends_143 rfl rfl ?_
    obtain ⟨hg, hf⟩ := zg_some hf
    refine x_iald hx hb B 73 (by decide) (fun _ => rfl) (zin_ok hg) dX9_sends_144 ?_
    refine lv_iload_n hx hb dX9_sends_145 rfl (lv_at hl 3 rfl) ?_
    refine lv_ior hx hb dX9_sends_146 ?_
    obtain ⟨hg, hf⟩ := zg_some hf
    refine x_iast hx hb B 73 (by decide) (by decide) (fun _ => rfl) (zin_ok hg) dX9_sends_147 (fun H locs B => ?_)
    refine lv_iinc (v := (v4 + (1 : Int32))) (lv' := [(4, .int (v4 + (1 : Int32))), (3, .int (s1 ||| s0)), (0, .ref (ad 65)), (1, .int v1), (2, .int v2), (5, .int v5)]) hx hb dX9_sends_148 hl (k := 4) rfl (zc1 (by decide)) (by decide) rfl (fun ls hl => ?_)
    refine lv_goto (tgt := 59) hx hb dX9_sends_151 (by decide) ?_
    exact hK59 _ _ _ _ _ _ _ _ hf B (lv_sub hl [2, 3, 4, 1, 0] rfl)
  have L59 : ∀ (n : Nat) (σ : zs) (v1 : Int32) (v2 : Int32) (v3 : Int32) (v4 : Int32) (H : Heap) (locs : List Loc) (ls : Array Slot), zlp4 (f_X9_sends_59) n σ v1 v2 v3 v4 = some (r, σ') → xB A s G ad σ H locs → lv_has ls 6 [(0, .ref (ad 65)), (1, .int v1), (2, .int v2), (3, .int v3), (4, .int v4)] → W p l e (headSpec wsX9_sends rm_X9_sends).room s m ([.ref (ad 65), .int a1] : List Value).toArray below meth c H locs 0 0 (MQ below (va_Qi (fun r' (u : xV) => r' = r ∧ xQ σ' u) (xPost G ad σ' A) A) ([.ref (ad 65), .int a1] : List Value).toArray s 0 0 A) (F0 m 59 ls []) := by
    intro n
    induction n with
    | zero =>
      intro σ v1 v2 v3 v4 H locs ls hf
      cases hf
    | succ n ih =>
      intro σ v1 v2 v3 v4 H locs ls hf B hl
      have hf : f_X9_sends_59 (zlp4 (f_X9_sends_59) n) σ v1 v2 v3 v4 = some (r, σ') := hf
      unfold f_X9_sends_59 at hf
      refine lv_iload hx hb dX9_sends_59 (lv_at hl 4 rfl) ?_
      refine lv_aload_n hx hb dX9_sends_61 rfl (lv_at hl 0 rfl) ?_
      refine x_getr hx hb hts hinRX9 hown B 65 0 66 (by decide) (by decide) (fun _ => rfl) rfl rfl (by decide) (by decide +kernel) rfl dX9_sends_62 ?_
      refine lv_iconst (v := (1 : Int32)) hx hb dX9_sends_65 (by decide) ?_
      obtain ⟨hg, hf⟩ := zg_some hf
      refine x_iald hx hb B 66 (by decide) (fun _ => rfl) (zin_ok hg) dX9_sends_66 ?_
      refine lv_icmp_ge (tgt := 154) hx hb dX9_sends_67 (by decide) (fun hc => ?_) (fun hc => ?_)
      · have hf := zif_t hc hf
        refine lv_iload_n hx hb dX9_sends_154 rfl (lv_at hl 3 rfl) ?_
        obtain ⟨hg, hf⟩ := zg_some hf
        refine W.widen (k := 0) (n := 0) (Nat.le_of_ble_eq_true rfl) (Nat.le_of_ble_eq_true rfl) ?_
        exact x_iret hx hb hr (znz hg) hlocks B hf dX9_sends_155
      · have hf := zif_f hc hf
        refine lv_aload_n hx hb dX9_sends_70 rfl (lv_at hl 0 rfl) ?_
        refine x_getr hx hb hts hinRX9 hown B 65 0 66 (by decide) (by decide) (fun _ => rfl) rfl rfl (by decide) (by decide +kernel) rfl dX9_sends_71 ?_
        refine lv_bipush (v := (51 : Int32)) hx hb dX9_sends_74 (by decide) ?_
        refine lv_iload hx hb dX9_sends_76 (lv_at hl 4 rfl) ?_
        refine lv_iadd hx hb dX9_sends_78 ?_
        obtain ⟨hg, hf⟩ := zg_some hf
        refine x_iald hx hb B 66 (by decide) (fun _ => rfl) (zin_ok hg) dX9_sends_79 ?_
        refine lv_istore (lv' := [(5, .int (σ 66 ((51 : Int32) + v4).toNatClampNeg)), (0, .ref (ad 65)), (1, .int v1), (2, .int v2), (3, .int v3), (4, .int v4)]) hx hb dX9_sends_80 hl (by decide) rfl (fun ls hl => ?_)
        refine lv_iload hx hb dX9_sends_82 (lv_at hl 0 rfl) ?_
        refine lv_bipush (v := (6 : Int32)) hx hb dX9_sends_84 (by decide) ?_
        refine lv_icmp_ge (tgt := 148) hx hb dX9_sends_86 (by decide) (fun hc => ?_) (fun hc => ?_)
        · have hf := zif_t hc hf
          refine lv_iinc (v := (v4 + (1 : Int32))) (lv' := [(4, .int (v4 + (1 : Int32))), (5, .int (σ 66 ((51 : Int32) + v4).toNatClampNeg)), (0, .ref (ad 65)), (1, .int v1), (2, .int v2), (3, .int v3)]) hx hb dX9_sends_148 hl (k := 5) rfl (zc1 (by decide)) (by decide) rfl (fun ls hl => ?_)
          refine lv_goto (tgt := 59) hx hb dX9_sends_151 (by decide) ?_
          exact ih _ _ _ _ _ _ _ _ hf B (lv_sub hl [2, 3, 4, 5, 0] rfl)
        · have hf := zif_f hc hf
          refine lv_aload_n hx hb dX9_sends_89 rfl (lv_at hl 1 rfl) ?_
          refine x_getr hx hb hts hinRX9 hown B 65 18 73 (by decide) (by decide) (fun _ => rfl) rfl rfl (by decide) (by decide +kernel) rfl dX9_sends_90 ?_
          refine lv_iload_n hx hb dX9_sends_93 rfl (lv_at hl 2 rfl) ?_
          obtain ⟨hg, hf⟩ := zg_some hf
          refine x_iald hx hb B 73 (by decide) (fun _ => rfl) (zin_ok hg) dX9_sends_94 ?_
          refine lv_iload hx hb dX9_sends_95 (lv_at hl 5 rfl) ?_
          obtain ⟨r2, σ3, hu1, hf⟩ := zb_some hf
          refine x_i B (fun nb a g hs Bz => va_runS (As := [.int (σ 73 v1.toNatClampNeg), .int v4]) (rest := []) ⟨hx, hb, hml, hown, hts⟩ (c_X9_has l hu1 _ nb a g hs) (va_cwS 2 hts gX9_sends_X9_has rfl rfl rfl (by decide +kernel) ⟨Nat.le_of_ble_eq_true rfl, Nat.le_of_ble_eq_true rfl⟩) (z_preS Bz) rfl rfl hl.1 rfl (lv_room (Nat.le_of_ble_eq_true rfl)) dX9_sends_97 ⟨Nat.le_of_ble_eq_true rfl, Nat.le_of_ble_eq_true rfl⟩) (fun H locs B => ?_)
          refine lv_if_eq (tgt := 148) hx hb dX9_sends_100 (by decide) (fun hc => ?_) (fun hc => ?_)
          · have hf := zif_t hc hf
            refine lv_iinc (v := (v4 + (1 : Int32))) (lv' := [(4, .int (v4 + (1 : Int32))), (5, .int (σ 66 ((51 : Int32) + v4).toNatClampNeg)), (0, .ref (ad 65)), (1, .int v1), (2, .int v2), (3, .int v3)]) hx hb dX9_sends_148 hl (k := 5) rfl (zc1 (by decide)) (by decide) rfl (fun ls hl => ?_)
            refine lv_goto (tgt := 59) hx hb dX9_sends_151 (by decide) ?_
            exact ih _ _ _ _ _ _ _ _ hf B (lv_sub hl [2, 3, 4, 5, 0] rfl)
          · have hf := zif_f hc hf
            refine lv_aload_n hx hb dX9_sends_103 rfl (lv_at hl 1 rfl) ?_
            refine lv_iload_n hx hb dX9_sends_104 rfl (lv_at hl 2 rfl) ?_
            refine lv_iload hx hb dX9_sends_105 (lv_at hl 5 rfl) ?_
            obtain ⟨r5, σ6, hu4, hf⟩ := zb_some hf
            refine x_i B (fun nb a g hs Bz => va_runV (As := [.int v1, .int v4]) (rest := []) ⟨hx, hb, hml, hown, hts⟩ (c_X9_openRights l hu4 _ nb a g hs) (cwV 2 hts gX9_sends_X9_openRights rfl rfl rfl (by decide +kernel) ⟨Nat.le_of_ble_eq_true rfl, Nat.le_of_ble_eq_true rfl⟩) (x_preV Bz (by decide) (fun _ => rfl) rfl) rfl rfl hl.1 rfl (lv_room (Nat.le_of_ble_eq_true rfl)) dX9_sends_107 ⟨Nat.le_of_ble_eq_true rfl, Nat.le_of_ble_eq_true rfl⟩) (fun H locs B => ?_)
            refine lv_iconst (v := (2 : Int32)) hx hb dX9_sends_110 (by decide) ?_
            refine lv_iand hx hb dX9_sends_111 ?_
            refine lv_if_eq (tgt := 148) hx hb dX9_sends_112 (by decide) (fun hc => ?_) (fun hc => ?_)
            · have hf := zif_t hc hf
              refine lv_iinc (v := (v4 + (1 : Int32))) (lv' := [(4, .int (v4 + (1 : Int32))), (5, .int (σ 66 ((51 : Int32) + v4).toNatClampNeg)), (0, .ref (ad 65)), (1, .int v1), (2, .int v2), (3, .int v3)]) hx hb dX9_sends_148 hl (k := 5) rfl (zc1 (by decide)) (by decide) rfl (fun ls hl => ?_)
              refine lv_goto (tgt := 59) hx hb dX9_sends_151 (by decide) ?_
              exact ih _ _ _ _ _ _ _ _ hf B (lv_sub hl [2, 3, 4, 5, 0] rfl)
            · have hf := zif_f hc hf
              refine lv_iload_n hx hb dX9_sends_115 rfl (lv_at hl 4 rfl) ?_
              refine lv_iload_n hx hb dX9_sends_116 rfl (lv_at hl 3 rfl) ?_
              refine lv_aload_n hx hb dX9_sends_117 rfl (lv_at hl 1 rfl) ?_
              refine x_getr hx hb hts hinRX9 hown B 65 18 73 (by decide) (by decide) (fun _ => rfl) rfl rfl (by decide) (by decide +kernel) rfl dX9_sends_118 ?_
              refine lv_iload hx hb dX9_sends_121 (lv_at hl 0 rfl) ?_
              obtain ⟨hg, hf⟩ := zg_some hf
              refine x_iald hx hb B 73 (by decide) (fun _ => rfl) (zin_ok hg) dX9_sends_123 ?_
              refine lv_iconst (v := (-1 : Int32)) hx hb dX9_sends_124 (by decide) ?_
              refine lv_ixor hx hb dX9_sends_125 ?_
              refine lv_iand hx hb dX9_sends_126 ?_
              refine lv_if_eq (tgt := 134) hx hb dX9_sends_127 (by decide) (fun hc => ?_) (fun hc => ?_)
              · have hf := zif_t hc hf
                refine lv_iconst (v := (0 : Int32)) hx hb dX9_sends_134 (by decide) ?_
                exact L135 _ ih  _ _ _ _ _ _ _ _ _ _ hf B (lv_sub hl [1, 2, 3, 5, 0] rfl)
              · have hf := zif_f hc hf
                refine lv_iconst (v := (1 : Int32)) hx hb dX9_sends_130 (by decide) ?_
                refine lv_goto (tgt := 135) hx hb dX9_sends_131 (by decide) ?_
                exact L135 _ ih  _ _ _ _ _ _ _ _ _ _ hf B (lv_sub hl [1, 2, 3, 5, 0] rfl)
  have L46 : ∀ (K4 : zs → Int32 → Int32 → Int32 → Option (Int32 × zs)) (hK4 : ∀ (σ : zs) (v1 : Int32) (v2 : Int32) (v3 : Int32) (H : Heap) (locs : List Loc) (ls : Array Slot), K4 σ v1 v2 v3 = some (r, σ') → xB A s G ad σ H locs → lv_has ls 6 [(0, .ref (ad 65)), (1, .int v1), (2, .int v2), (3, .int v3)] → W p l e (headSpec wsX9_sends rm_X9_sends).room s m ([.ref (ad 65), .int a1] : List Value).toArray below meth c H locs 0 0 (MQ below (va_Qi (fun r' (u : xV) => r' = r ∧ xQ σ' u) (xPost G ad σ' A) A) ([.ref (ad 65), .int a1] : List Value).toArray s 0 0 A) (F0 m 4 ls [])) (σ : zs) (v1 : Int32) (v3 : Int32) (s0 : Int32) (s1 : Int32) (H : Heap) (locs : List Loc) (ls : Array Slot), f_X9_sends_46 K4 σ v1 v3 s0 s1 = some (r, σ') → xB A s G ad σ H locs → lv_has ls 6 [(0, .ref (ad 65)), (1, .int v1), (3, .int v3)] → W p l e (headSpec wsX9_sends rm_X9_sends).room s m ([.ref (ad 65), .int a1] : List Value).toArray below meth c H locs 0 0 (MQ below (va_Qi (fun r' (u : xV) => r' = r ∧ xQ σ' u) (xPost G ad σ' A) A) ([.ref (ad 65), .int a1] : List Value).toArray s 0 0 A) (F0 m 46 ls [.int s0, .int s1]) := by
    intro K4 hK4 σ v1 v3 s0 s1 H locs ls hf B hl
    unfold f_X9_sends_46 at hf
    refine lv_ior hx hb dX9_sends_46 ?_
    refine lv_istore_n (lv' := [(2, .int (s1 ||| s0)), (0, .ref (ad 65)), (1, .int v1), (3, .int v3)]) hx hb dX9_sends_47 rfl hl (by decide) rfl (fun ls hl => ?_)
    refine lv_iinc (v := (v3 + (1 : Int32))) (lv' := [(3, .int (v3 + (1 : Int32))), (2, .int (s1 ||| s0)), (0, .ref (ad 65)), (1, .int v1)]) hx hb dX9_sends_48 hl (k := 3) rfl (zc1 (by decide)) (by decide) rfl (fun ls hl => ?_)
    refine lv_goto (tgt := 4) hx hb dX9_sends_51 (by decide) ?_
    exact hK4 _ _ _ _ _ _ _ hf B (lv_sub hl [2, 3, 1, 0] rfl)
  have L4 : ∀ (n : Nat) (σ : zs) (v1 : Int32) (v2 : Int32) (v3 : Int32) (H : Heap) (locs : List Loc) (ls : Array Slot), zlp3 (f_X9_sends_4) n σ v1 v2 v3 = some (r, σ') → xB A s G ad σ H locs → lv_has ls 6 [(0, .ref (ad 65)), (1, .int v1), (2, .int v2), (3, .int v3)] → W p l e (headSpec wsX9_sends rm_X9_sends).room s m ([.ref (ad 65), .int a1] : List Value).toArray below meth c H locs 0 0 (MQ below (va_Qi (fun r' (u : xV) => r' = r ∧ xQ σ' u) (xPost G ad σ' A) A) ([.ref (ad 65), .int a1] : List Value).toArray s 0 0 A) (F0 m 4 ls []) := by
    intro n
    induction n with
    | zero =>
      intro σ v1 v2 v3 H locs ls hf
      cases hf
    | succ n ih =>
      intro σ v1 v2 v3 H locs ls hf B hl
      have hf : f_X9_sends_4 (zlp3 (f_X9_sends_4) n) σ v1 v2 v3 = some (r, σ') := hf
      unfold f_X9_sends_4 at hf
      refine lv_iload_n hx hb dX9_sends_4 rfl (lv_at hl 3 rfl) ?_
      refine lv_aload_n hx hb dX9_sends_5 rfl (lv_at hl 0 rfl) ?_
      refine x_getr hx hb hts hinRX9 hown B 65 0 66 (by decide) (by decide) (fun _ => rfl) rfl rfl (by decide) (by decide +kernel) rfl dX9_sends_6 ?_
      refine lv_iconst (v := (1 : Int32)) hx hb dX9_sends_9 (by decide) ?_
      obtain ⟨hg, hf⟩ := zg_some hf
      refine x_iald hx hb B 66 (by decide) (fun _ => rfl) (zin_ok hg) dX9_sends_10 ?_
      refine lv_icmp_ge (tgt := 54) hx hb dX9_sends_11 (by decide) (fun hc => ?_) (fun hc => ?_)
      · have hf := zif_t hc hf
        refine lv_iconst (v := (0 : Int32)) hx hb dX9_sends_54 (by decide) ?_
        refine lv_istore_n (lv' := [(3, .int (0 : Int32)), (0, .ref (ad 65)), (1, .int v1), (2, .int v2)]) hx hb dX9_sends_55 rfl hl (by decide) rfl (fun ls hl => ?_)
        refine lv_iconst (v := (0 : Int32)) hx hb dX9_sends_56 (by decide) ?_
        refine lv_istore (lv' := [(4, .int (0 : Int32)), (3, .int (0 : Int32)), (0, .ref (ad 65)), (1, .int v1), (2, .int v2)]) hx hb dX9_sends_57 hl (by decide) rfl (fun ls hl => ?_)
        exact L59  _ _ _ _ _ _ _ _ _ hf B (lv_sub hl [2, 3, 4, 1, 0] rfl)
      · have hf := zif_f hc hf
        refine lv_iload_n hx hb dX9_sends_14 rfl (lv_at hl 2 rfl) ?_
        refine lv_aload_n hx hb dX9_sends_15 rfl (lv_at hl 0 rfl) ?_
        refine x_getr hx hb hts hinRX9 hown B 65 18 73 (by decide) (by decide) (fun _ => rfl) rfl rfl (by decide) (by decide +kernel) rfl dX9_sends_16 ?_
        refine lv_iload_n hx hb dX9_sends_19 rfl (lv_at hl 1 rfl) ?_
        obtain ⟨hg, hf⟩ := zg_some hf
        refine x_iald hx hb B 73 (by decide) (fun _ => rfl) (zin_ok hg) dX9_sends_20 ?_
        refine lv_iload_n hx hb dX9_sends_21 rfl (lv_at hl 3 rfl) ?_
        obtain ⟨r8, σ9, hu7, hf⟩ := zb_some hf
        refine x_i B (fun nb a g hs Bz => va_runS (As := [.int (σ 73 v1.toNatClampNeg), .int v3]) (rest := [.int v2]) ⟨hx, hb, hml, hown, hts⟩ (c_X9_has l hu7 _ nb a g hs) (va_cwS 2 hts gX9_sends_X9_has rfl rfl rfl (by decide +kernel) ⟨Nat.le_of_ble_eq_true rfl, Nat.le_of_ble_eq_true rfl⟩) (z_preS Bz) rfl rfl hl.1 rfl (lv_room (Nat.le_of_ble_eq_true rfl)) dX9_sends_22 ⟨Nat.le_of_ble_eq_true rfl, Nat.le_of_ble_eq_true rfl⟩) (fun H locs B => ?_)
        refine lv_if_eq (tgt := 45) hx hb dX9_sends_25 (by decide) (fun hc => ?_) (fun hc => ?_)
        · have hf := zif_t hc hf
          refine lv_iconst (v := (0 : Int32)) hx hb dX9_sends_45 (by decide) ?_
          exact L46 _ ih  _ _ _ _ _ _ _ _ hf B (lv_sub hl [0, 1, 3] rfl)
        · have hf := zif_f hc hf
          refine lv_aload_n hx hb dX9_sends_28 rfl (lv_at hl 0 rfl) ?_
          refine lv_iload_n hx hb dX9_sends_29 rfl (lv_at hl 1 rfl) ?_
          refine lv_iload_n hx hb dX9_sends_30 rfl (lv_at hl 3 rfl) ?_
          obtain ⟨r11, σ12, hu10, hf⟩ := zb_some hf
          refine x_i B (fun nb a g hs Bz => va_runV (As := [.int v1, .int v3]) (rest := [.int v2]) ⟨hx, hb, hml, hown, hts⟩ (c_X9_openRights l hu10 _ nb a g hs) (cwV 2 hts gX9_sends_X9_openRights rfl rfl rfl (by decide +kernel) ⟨Nat.le_of_ble_eq_true rfl, Nat.le_of_ble_eq_true rfl⟩) (x_preV Bz (by decide) (fun _ => rfl) rfl) rfl rfl hl.1 rfl (lv_room (Nat.le_of_ble_eq_true rfl)) dX9_sends_31 ⟨Nat.le_of_ble_eq_true rfl, Nat.le_of_ble_eq_true rfl⟩) (fun H locs B => ?_)
          refine lv_iconst (v := (4 : Int32)) hx hb dX9_sends_34 (by decide) ?_
          refine lv_iand hx hb dX9_sends_35 ?_
          refine lv_if_eq (tgt := 45) hx hb dX9_sends_36 (by decide) (fun hc => ?_) (fun hc => ?_)
          · have hf := zif_t hc hf
            refine lv_iconst (v := (0 : Int32)) hx hb dX9_sends_45 (by decide) ?_
            exact L46 _ ih  _ _ _ _ _ _ _ _ hf B (lv_sub hl [0, 1, 3] rfl)
          · have hf := zif_f hc hf
            refine lv_iconst (v := (1 : Int32)) hx hb dX9_sends_39 (by decide) ?_
            refine lv_iload_n hx hb dX9_sends_40 rfl (lv_at hl 3 rfl) ?_
            refine lv_ishl hx hb dX9_sends_41 ?_
            refine lv_goto (tgt := 46) hx hb dX9_sends_42 (by decide) ?_
            exact L46 _ ih  _ _ _ _ _ _ _ _ hf B (lv_sub hl [0, 1, 3] rfl)
  unfold f_X9_sends at hf
  refine lv_iconst (v := (0 : Int32)) hx hb dX9_sends_0 (by decide) ?_
  refine lv_istore_n (lv' := [(2, .int (0 : Int32)), (0, .ref (ad 65)), (1, .int a1)]) hx hb dX9_sends_1 rfl hl (by decide) rfl (fun ls hl => ?_)
  refine lv_iconst (v := (0 : Int32)) hx hb dX9_sends_2 (by decide) ?_
  refine lv_istore_n (lv' := [(3, .int (0 : Int32)), (2, .int (0 : Int32)), (0, .ref (ad 65)), (1, .int a1)]) hx hb dX9_sends_3 rfl hl (by decide) rfl (fun ls hl => ?_)
  exact L4  _ _ _ _ _ _ _ _ hf B (lv_sub hl [2, 3, 1, 0] rfl)
theorem dX9_begins_0 : decode cX9_begins 0 = .ok (.iconst 0, 1) := by decide +kernel
theorem dX9_begins_1 : decode cX9_begins 1 = .ok (.istore_n 1, 1) := by decide +kernel
theorem dX9_begins_2 : decode cX9_begins 2 = .ok (.iload_n 1, 1) := by decide +kernel
theorem dX9_begins_3 : decode cX9_begins 3 = .ok (.bipush 6, 2) := by decide +kernel
theorem dX9_begins_5 : decode cX9_begins 5 = .ok (.if_icmp .ge 20, 3) := by decide +kernel
theorem dX9_begins_8 : decode cX9_begins 8 = .ok (.aload_n 0, 1) := by decide +kernel
theorem dX9_begins_9 : decode cX9_begins 9 = .ok (.getfield 35, 3) := by decide +kernel
theorem dX9_begins_12 : decode cX9_begins 12 = .ok (.iload_n 1, 1) := by decide +kernel
theorem dX9_begins_13 : decode cX9_begins 13 = .ok (.aload_n 0, 1) := by decide +kernel
theorem dX9_begins_14 : decode cX9_begins 14 = .ok (.iload_n 1, 1) := by decide +kernel
theorem dX9_begins_15 : decode cX9_begins 15 = .ok (.invokevirtual 184, 3) := by decide +kernel
theorem dX9_begins_18 : decode cX9_begins 18 = .ok (.iastore, 1) := by decide +kernel
theorem dX9_begins_19 : decode cX9_begins 19 = .ok (.iinc 1 1, 3) := by decide +kernel
theorem dX9_begins_22 : decode cX9_begins 22 = .ok (.goto (-20), 3) := by decide +kernel
theorem dX9_begins_25 : decode cX9_begins 25 = .ok (.iconst 0, 1) := by decide +kernel
theorem dX9_begins_26 : decode cX9_begins 26 = .ok (.istore_n 1, 1) := by decide +kernel
theorem dX9_begins_27 : decode cX9_begins 27 = .ok (.iload_n 1, 1) := by decide +kernel
theorem dX9_begins_28 : decode cX9_begins 28 = .ok (.aload_n 0, 1) := by decide +kernel
theorem dX9_begins_29 : decode cX9_begins 29 = .ok (.getfield 9, 3) := by decide +kernel
theorem dX9_begins_32 : decode cX9_begins 32 = .ok (.iconst 3, 1) := by decide +kernel
theorem dX9_begins_33 : decode cX9_begins 33 = .ok (.iaload, 1) := by decide +kernel
theorem dX9_begins_34 : decode cX9_begins 34 = .ok (.if_icmp .ge 87, 3) := by decide +kernel
theorem dX9_begins_37 : decode cX9_begins 37 = .ok (.iconst 0, 1) := by decide +kernel
theorem dX9_begins_38 : decode cX9_begins 38 = .ok (.istore_n 2, 1) := by decide +kernel
theorem dX9_begins_39 : decode cX9_begins 39 = .ok (.iload_n 2, 1) := by decide +kernel
theorem dX9_begins_40 : decode cX9_begins 40 = .ok (.bipush 6, 2) := by decide +kernel
theorem dX9_begins_42 : decode cX9_begins 42 = .ok (.if_icmp .ge 73, 3) := by decide +kernel
theorem dX9_begins_45 : decode cX9_begins 45 = .ok (.aload_n 0, 1) := by decide +kernel
theorem dX9_begins_46 : decode cX9_begins 46 = .ok (.getfield 9, 3) := by decide +kernel
theorem dX9_begins_49 : decode cX9_begins 49 = .ok (.sipush 587, 3) := by decide +kernel
theorem dX9_begins_52 : decode cX9_begins 52 = .ok (.iload_n 1, 1) := by decide +kernel
theorem dX9_begins_53 : decode cX9_begins 53 = .ok (.iadd, 1) := by decide +kernel
theorem dX9_begins_54 : decode cX9_begins 54 = .ok (.iaload, 1) := by decide +kernel
theorem dX9_begins_55 : decode cX9_begins 55 = .ok (.iload_n 2, 1) := by decide +kernel
theorem dX9_begins_56 : decode cX9_begins 56 = .ok (.invokestatic 59, 3) := by decide +kernel
theorem dX9_begins_59 : decode cX9_begins 59 = .ok (.ifCond .eq 50, 3) := by decide +kernel
theorem dX9_begins_62 : decode cX9_begins 62 = .ok (.aload_n 0, 1) := by decide +kernel
theorem dX9_begins_63 : decode cX9_begins 63 = .ok (.getfield 9, 3) := by decide +kernel
theorem dX9_begins_66 : decode cX9_begins 66 = .ok (.sipush 559, 3) := by decide +kernel
theorem dX9_begins_69 : decode cX9_begins 69 = .ok (.aload_n 0, 1) := by decide +kernel
theorem dX9_begins_70 : decode cX9_begins 70 = .ok (.getfield 9, 3) := by decide +kernel
theorem dX9_begins_73 : decode cX9_begins 73 = .ok (.sipush 563, 3) := by decide +kernel
theorem dX9_begins_76 : decode cX9_begins 76 = .ok (.iload_n 1, 1) := by decide +kernel
theorem dX9_begins_77 : decode cX9_begins 77 = .ok (.iadd, 1) := by decide +kernel
theorem dX9_begins_78 : decode cX9_begins 78 = .ok (.iaload, 1) := by decide +kernel
theorem dX9_begins_79 : decode cX9_begins 79 = .ok (.iadd, 1) := by decide +kernel
theorem dX9_begins_80 : decode cX9_begins 80 = .ok (.iaload, 1) := by decide +kernel
theorem dX9_begins_81 : decode cX9_begins 81 = .ok (.iload_n 2, 1) := by decide +kernel
theorem dX9_begins_82 : decode cX9_begins 82 = .ok (.invokestatic 59, 3) := by decide +kernel
theorem dX9_begins_85 : decode cX9_begins 85 = .ok (.ifCond .eq 24, 3) := by decide +kernel
theorem dX9_begins_88 : decode cX9_begins 88 = .ok (.aload_n 0, 1) := by decide +kernel
theorem dX9_begins_89 : decode cX9_begins 89 = .ok (.getfield 35, 3) := by decide +kernel
theorem dX9_begins_92 : decode cX9_begins 92 = .ok (.iload_n 2, 1) := by decide +kernel
theorem dX9_begins_93 : decode cX9_begins 93 = .ok (.dup2, 1) := by decide +kernel
theorem dX9_begins_94 : decode cX9_begins 94 = .ok (.iaload, 1) := by decide +kernel
theorem dX9_begins_95 : decode cX9_begins 95 = .ok (.iconst 1, 1) := by decide +kernel
theorem dX9_begins_96 : decode cX9_begins 96 = .ok (.aload_n 0, 1) := by decide +kernel
theorem dX9_begins_97 : decode cX9_begins 97 = .ok (.getfield 9, 3) := by decide +kernel
theorem dX9_begins_100 : decode cX9_begins 100 = .ok (.sipush 575, 3) := by decide +kernel
theorem dX9_begins_103 : decode cX9_begins 103 = .ok (.iload_n 1, 1) := by decide +kernel
theorem dX9_begins_104 : decode cX9_begins 104 = .ok (.iadd, 1) := by decide +kernel
theorem dX9_begins_105 : decode cX9_begins 105 = .ok (.iaload, 1) := by decide +kernel
theorem dX9_begins_106 : decode cX9_begins 106 = .ok (.ishl, 1) := by decide +kernel
theorem dX9_begins_107 : decode cX9_begins 107 = .ok (.ior, 1) := by decide +kernel
theorem dX9_begins_108 : decode cX9_begins 108 = .ok (.iastore, 1) := by decide +kernel
theorem dX9_begins_109 : decode cX9_begins 109 = .ok (.iinc 2 1, 3) := by decide +kernel
theorem dX9_begins_112 : decode cX9_begins 112 = .ok (.goto (-73), 3) := by decide +kernel
theorem dX9_begins_115 : decode cX9_begins 115 = .ok (.iinc 1 1, 3) := by decide +kernel
theorem dX9_begins_118 : decode cX9_begins 118 = .ok (.goto (-91), 3) := by decide +kernel
theorem dX9_begins_121 : decode cX9_begins 121 = .ok (.return_, 1) := by decide +kernel
set_option maxRecDepth 20000 in
theorem ggX9_begins_X9_has : GoodIn wsX9_begins wsX9_has := goodIn_r _ [10] (by decide +kernel) (by decide +kernel)
set_option maxRecDepth 20000 in
theorem gX9_begins_X9_has : GoodIn wsX9_begins (va_wsS RX9 59 yX9_has wsX9_has) := goodIn_app (goodIn_of _ (by decide +kernel)) ggX9_begins_X9_has
set_option maxRecDepth 20000 in
theorem ggX9_begins_X9_heldBy : GoodIn wsX9_begins wsX9_heldBy := goodIn_ca (goodIn_r _ [7, 2, 8, 9, 6, 10, 11, 12, 13, 14, 15, 16, 17, 18, 19, 20, 21, 22, 23, 24, 25, 26, 27, 28, 29, 30] (by decide +kernel) (by decide +kernel)) (goodIn_sub (fun _ h => List.mem_cons_of_mem _ (List.mem_append_right _ h)) (by decide +kernel))
set_option maxRecDepth 20000 in
theorem gX9_begins_X9_heldBy : GoodIn wsX9_begins (wsV RX9 184 RX9 yX9_heldBy wsX9_heldBy) := goodIn_app (goodIn_of _ (by decide +kernel)) ggX9_begins_X9_heldBy
def rm_X9_begins : Room := { frames := 3, cells := 0, slots := 0, locals := 60 }
set_option maxHeartbeats 4000000 in
set_option maxRecDepth 100000 in
theorem c_X9_begins (l : Launch) {G : zG} {ad : Nat → Nat} {σ σ' : zs} {r : Int32} (hf : f_X9_begins σ  = some (r, σ')) : xMv l yX9_begins wsX9_begins rm_X9_begins G ad σ [.ref (ad 65)] σ' := by
  intro sz nb a g hs
  refine Met.ofW (cc := cX9_begins) (maxL := 3) (ret := none) (by decide) rfl ?_
  intro p e s m args below meth c s₁ B hml hv
  obtain ⟨rfl, hsz, hv⟩ := hv
  have hx := B.exec
  have hb := B.bytes
  have hr := B.returns
  have hts := atoms_spec (ws := wsX9_begins) B.pre
  have hown : s.vm.findClass RX9 = some m.cls := findClass_of_methodNamed B.named
  have hlocks := B.notSynchronized
  subst hsz
  have B := xB_start hs hv
  have hinRX9 : ∀ w ∈ wsX90, w ∈ wsX9_begins := by decide +kernel
  have hl := lv_entry ([.ref (ad 65)]) (n := 3) (Nat.le_of_ble_eq_true rfl)
  rw [lg_entry_eq]
  generalize (lg_sl ([.ref (ad 65)]) ++ List.replicate (3 - (lg_sl ([.ref (ad 65)])).length) Slot.unset).toArray = ls at hl ⊢
  have hl : lv_has ls 3 [(0, .ref (ad 65))] := hl
  generalize hAe : xA ad a s.heap.size = A at B ⊢
  have L39 : ∀ (K27 : zs → Int32 → Option (Int32 × zs)) (hK27 : ∀ (σ : zs) (v1 : Int32) (H : Heap) (locs : List Loc) (ls : Array Slot), K27 σ v1 = some (r, σ') → xB A s G ad σ H locs → lv_has ls 3 [(0, .ref (ad 65)), (1, .int v1)] → W p l e (headSpec wsX9_begins rm_X9_begins).room s m ([.ref (ad 65)] : List Value).toArray below meth c H locs 0 0 (MQ below (va_Qv (fun (u : xV) => xQ σ' u) (xPost G ad σ' A) A) ([.ref (ad 65)] : List Value).toArray s 0 0 A) (F0 m 27 ls [])) (n : Nat) (σ : zs) (v1 : Int32) (v2 : Int32) (H : Heap) (locs : List Loc) (ls : Array Slot), zlp2 (f_X9_begins_39 K27) n σ v1 v2 = some (r, σ') → xB A s G ad σ H locs → lv_has ls 3 [(0, .ref (ad 65)), (1, .int v1), (2, .int v2)] → W p l e (headSpec wsX9_begins rm_X9_begins).room s m ([.ref (ad 65)] : List Value).toArray below meth c H locs 0 0 (MQ below (va_Qv (fun (u : xV) => xQ σ' u) (xPost G ad σ' A) A) ([.ref (ad 65)] : List Value).toArray s 0 0 A) (F0 m 39 ls []) := by
    intro K27 hK27 n
    induction n with
    | zero =>
      intro σ v1 v2 H locs ls hf
      cases hf
    | succ n ih =>
      intro σ v1 v2 H locs ls hf B hl
      have hf : f_X9_begins_39 K27 (zlp2 (f_X9_begins_39 K27) n) σ v1 v2 = some (r, σ') := hf
      unfold f_X9_begins_39 at hf
      refine lv_iload_n hx hb dX9_begins_39 rfl (lv_at hl 2 rfl) ?_
      refine lv_bipush (v := (6 : Int32)) hx hb dX9_begins_40 (by decide) ?_
      refine lv_icmp_ge (tgt := 115) hx hb dX9_begins_42 (by decide) (fun hc => ?_) (fun hc => ?_)
      · have hf := zif_t hc hf
        refine lv_iinc (v := (v1 + (1 : Int32))) (lv' := [(1, .int (v1 + (1 : Int32))), (0, .ref (ad 65)), (2, .int v2)]) hx hb dX9_begins_115 hl (k := 1) rfl (zc1 (by decide)) (by decide) rfl (fun ls hl => ?_)
        refine lv_goto (tgt := 27) hx hb dX9_begins_118 (by decide) ?_
        exact hK27 _ _ _ _ _ hf B (lv_sub hl [1, 0] rfl)
      · have hf := zif_f hc hf
        refine lv_aload_n hx hb dX9_begins_45 rfl (lv_at hl 0 rfl) ?_
        refine x_getr hx hb hts hinRX9 hown B 65 0 66 (by decide) (by decide) (fun _ => rfl) rfl rfl (by decide) (by decide +kernel) rfl dX9_begins_46 ?_
        refine lv_sipush (v := (587 : Int32)) hx hb dX9_begins_49 (by decide) ?_
        refine lv_iload_n hx hb dX9_begins_52 rfl (lv_at hl 1 rfl) ?_
        refine lv_iadd hx hb dX9_begins_53 ?_
        obtain ⟨hg, hf⟩ := zg_some hf
        refine x_iald hx hb B 66 (by decide) (fun _ => rfl) (zin_ok hg) dX9_begins_54 ?_
        refine lv_iload_n hx hb dX9_begins_55 rfl (lv_at hl 2 rfl) ?_
        obtain ⟨r2, σ3, hu1, hf⟩ := zb_some hf
        refine x_i B (fun nb a g hs Bz => va_runS (As := [.int (σ 66 ((587 : Int32) + v1).toNatClampNeg), .int v2]) (rest := []) ⟨hx, hb, hml, hown, hts⟩ (c_X9_has l hu1 _ nb a g hs) (va_cwS 2 hts gX9_begins_X9_has rfl rfl rfl (by decide +kernel) ⟨Nat.le_of_ble_eq_true rfl, Nat.le_of_ble_eq_true rfl⟩) (z_preS Bz) rfl rfl hl.1 rfl (lv_room (Nat.le_of_ble_eq_true rfl)) dX9_begins_56 ⟨Nat.le_of_ble_eq_true rfl, Nat.le_of_ble_eq_true rfl⟩) (fun H locs B => ?_)
        refine lv_if_eq (tgt := 109) hx hb dX9_begins_59 (by decide) (fun hc => ?_) (fun hc => ?_)
        · have hf := zif_t hc hf
          refine lv_iinc (v := (v2 + (1 : Int32))) (lv' := [(2, .int (v2 + (1 : Int32))), (0, .ref (ad 65)), (1, .int v1)]) hx hb dX9_begins_109 hl (k := 2) rfl (zc1 (by decide)) (by decide) rfl (fun ls hl => ?_)
          refine lv_goto (tgt := 39) hx hb dX9_begins_112 (by decide) ?_
          exact ih _ _ _ _ _ _ hf B (lv_sub hl [1, 2, 0] rfl)
        · have hf := zif_f hc hf
          refine lv_aload_n hx hb dX9_begins_62 rfl (lv_at hl 0 rfl) ?_
          refine x_getr hx hb hts hinRX9 hown B 65 0 66 (by decide) (by decide) (fun _ => rfl) rfl rfl (by decide) (by decide +kernel) rfl dX9_begins_63 ?_
          refine lv_sipush (v := (559 : Int32)) hx hb dX9_begins_66 (by decide) ?_
          refine lv_aload_n hx hb dX9_begins_69 rfl (lv_at hl 0 rfl) ?_
          refine x_getr hx hb hts hinRX9 hown B 65 0 66 (by decide) (by decide) (fun _ => rfl) rfl rfl (by decide) (by decide +kernel) rfl dX9_begins_70 ?_
          refine lv_sipush (v := (563 : Int32)) hx hb dX9_begins_73 (by decide) ?_
          refine lv_iload_n hx hb dX9_begins_76 rfl (lv_at hl 1 rfl) ?_
          refine lv_iadd hx hb dX9_begins_77 ?_
          obtain ⟨hg, hf⟩ := zg_some hf
          refine x_iald hx hb B 66 (by decide) (fun _ => rfl) (zin_ok hg) dX9_begins_78 ?_
          refine lv_iadd hx hb dX9_begins_79 ?_
          obtain ⟨hg, hf⟩ := zg_some hf
          refine x_iald hx hb B 66 (by decide) (fun _ => rfl) (zin_ok hg) dX9_begins_80 ?_
          refine lv_iload_n hx hb dX9_begins_81 rfl (lv_at hl 2 rfl) ?_
          obtain ⟨r5, σ6, hu4, hf⟩ := zb_some hf
          refine x_i B (fun nb a g hs Bz => va_runS (As := [.int (σ3 66 ((559 : Int32) + (σ3 66 ((563 : Int32) + v1).toNatClampNeg)).toNatClampNeg), .int v2]) (rest := []) ⟨hx, hb, hml, hown, hts⟩ (c_X9_has l hu4 _ nb a g hs) (va_cwS 2 hts gX9_begins_X9_has rfl rfl rfl (by decide +kernel) ⟨Nat.le_of_ble_eq_true rfl, Nat.le_of_ble_eq_true rfl⟩) (z_preS Bz) rfl rfl hl.1 rfl (lv_room (Nat.le_of_ble_eq_true rfl)) dX9_begins_82 ⟨Nat.le_of_ble_eq_true rfl, Nat.le_of_ble_eq_true rfl⟩) (fun H locs B => ?_)
          refine lv_if_eq (tgt := 109) hx hb dX9_begins_85 (by decide) (fun hc => ?_) (fun hc => ?_)
          · have hf := zif_t hc hf
            refine lv_iinc (v := (v2 + (1 : Int32))) (lv' := [(2, .int (v2 + (1 : Int32))), (0, .ref (ad 65)), (1, .int v1)]) hx hb dX9_begins_109 hl (k := 2) rfl (zc1 (by decide)) (by decide) rfl (fun ls hl => ?_)
            refine lv_goto (tgt := 39) hx hb dX9_begins_112 (by decide) ?_
            exact ih _ _ _ _ _ _ hf B (lv_sub hl [1, 2, 0] rfl)
          · have hf := zif_f hc hf
            refine lv_aload_n hx hb dX9_begins_88 rfl (lv_at hl 0 rfl) ?_
            refine x_getr hx hb hts hinRX9 hown B 65 18 73 (by decide) (by decide) (fun _ => rfl) rfl rfl (by decide) (by decide +kernel) rfl dX9_begins_89 ?_
            refine lv_iload_n hx hb dX9_begins_92 rfl (lv_at hl 2 rfl) ?_
            refine lv_dup2_11 hx hb dX9_begins_93 rfl rfl ?_
            obtain ⟨hg, hf⟩ := zg_some hf
            refine x_iald hx hb B 73 (by decide) (fun _ => rfl) (zin_ok hg) dX9_begins_94 ?_
            refine lv_iconst (v := (1 : Int32)) hx hb dX9_begins_95 (by decide) ?_
            refine lv_aload_n hx hb dX9_begins_96 rfl (lv_at hl 0 rfl) ?_
            refine x_getr hx hb hts hinRX9 hown B 65 0 66 (by decide) (by decide) (fun _ => rfl) rfl rfl (by decide) (by decide +kernel) rfl dX9_begins_97 ?_
            refine lv_sipush (v := (575 : Int32)) hx hb dX9_begins_100 (by decide) ?_
            refine lv_iload_n hx hb dX9_begins_103 rfl (lv_at hl 1 rfl) ?_
            refine lv_iadd hx hb dX9_begins_104 ?_
            obtain ⟨hg, hf⟩ := zg_some hf
            refine x_iald hx hb B 66 (by decide) (fun _ => rfl) (zin_ok hg) dX9_begins_105 ?_
            refine lv_ishl hx hb dX9_begins_106 ?_
            refine lv_ior hx hb dX9_begins_107 ?_
            obtain ⟨hg, hf⟩ := zg_some hf
            refine x_iast hx hb B 73 (by decide) (by decide) (fun _ => rfl) (zin_ok hg) dX9_begins_108 (fun H locs B => ?_)
            refine lv_iinc (v := (v2 + (1 : Int32))) (lv' := [(2, .int (v2 + (1 : Int32))), (0, .ref (ad 65)), (1, .int v1)]) hx hb dX9_begins_109 hl (k := 2) rfl (zc1 (by decide)) (by decide) rfl (fun ls hl => ?_)
            refine lv_goto (tgt := 39) hx hb dX9_begins_112 (by decide) ?_
            exact ih _ _ _ _ _ _ hf B (lv_sub hl [1, 2, 0] rfl)
  have L27 : ∀ (n : Nat) (σ : zs) (v1 : Int32) (H : Heap) (locs : List Loc) (ls : Array Slot), zlp1 (f_X9_begins_27) n σ v1 = some (r, σ') → xB A s G ad σ H locs → lv_has ls 3 [(0, .ref (ad 65)), (1, .int v1)] → W p l e (headSpec wsX9_begins rm_X9_begins).room s m ([.ref (ad 65)] : List Value).toArray below meth c H locs 0 0 (MQ below (va_Qv (fun (u : xV) => xQ σ' u) (xPost G ad σ' A) A) ([.ref (ad 65)] : List Value).toArray s 0 0 A) (F0 m 27 ls []) := by
    intro n
    induction n with
    | zero =>
      intro σ v1 H locs ls hf
      cases hf
    | succ n ih =>
      intro σ v1 H locs ls hf B hl
      have hf : f_X9_begins_27 (zlp1 (f_X9_begins_27) n) σ v1 = some (r, σ') := hf
      unfold f_X9_begins_27 at hf
      refine lv_iload_n hx hb dX9_begins_27 rfl (lv_at hl 1 rfl) ?_
      refine lv_aload_n hx hb dX9_begins_28 rfl (lv_at hl 0 rfl) ?_
      refine x_getr hx hb hts hinRX9 hown B 65 0 66 (by decide) (by decide) (fun _ => rfl) rfl rfl (by decide) (by decide +kernel) rfl dX9_begins_29 ?_
      refine lv_iconst (v := (3 : Int32)) hx hb dX9_begins_32 (by decide) ?_
      obtain ⟨hg, hf⟩ := zg_some hf
      refine x_iald hx hb B 66 (by decide) (fun _ => rfl) (zin_ok hg) dX9_begins_33 ?_
      refine lv_icmp_ge (tgt := 121) hx hb dX9_begins_34 (by decide) (fun hc => ?_) (fun hc => ?_)
      · have hf := zif_t hc hf
        refine W.widen (k := 0) (n := 0) (Nat.le_of_ble_eq_true rfl) (Nat.le_of_ble_eq_true rfl) ?_
        exact x_vret hx hb hr hlocks B hf dX9_begins_121
      · have hf := zif_f hc hf
        refine lv_iconst (v := (0 : Int32)) hx hb dX9_begins_37 (by decide) ?_
        refine lv_istore_n (lv' := [(2, .int (0 : Int32)), (0, .ref (ad 65)), (1, .int v1)]) hx hb dX9_begins_38 rfl hl (by decide) rfl (fun ls hl => ?_)
        exact L39 _ ih  _ _ _ _ _ _ _ hf B (lv_sub hl [1, 2, 0] rfl)
  have L2 : ∀ (n : Nat) (σ : zs) (v1 : Int32) (H : Heap) (locs : List Loc) (ls : Array Slot), zlp1 (f_X9_begins_2) n σ v1 = some (r, σ') → xB A s G ad σ H locs → lv_has ls 3 [(0, .ref (ad 65)), (1, .int v1)] → W p l e (headSpec wsX9_begins rm_X9_begins).room s m ([.ref (ad 65)] : List Value).toArray below meth c H locs 0 0 (MQ below (va_Qv (fun (u : xV) => xQ σ' u) (xPost G ad σ' A) A) ([.ref (ad 65)] : List Value).toArray s 0 0 A) (F0 m 2 ls []) := by
    intro n
    induction n with
    | zero =>
      intro σ v1 H locs ls hf
      cases hf
    | succ n ih =>
      intro σ v1 H locs ls hf B hl
      have hf : f_X9_begins_2 (zlp1 (f_X9_begins_2) n) σ v1 = some (r, σ') := hf
      unfold f_X9_begins_2 at hf
      refine lv_iload_n hx hb dX9_begins_2 rfl (lv_at hl 1 rfl) ?_
      refine lv_bipush (v := (6 : Int32)) hx hb dX9_begins_3 (by decide) ?_
      refine lv_icmp_ge (tgt := 25) hx hb dX9_begins_5 (by decide) (fun hc => ?_) (fun hc => ?_)
      · have hf := zif_t hc hf
        refine lv_iconst (v := (0 : Int32)) hx hb dX9_begins_25 (by decide) ?_
        refine lv_istore_n (lv' := [(1, .int (0 : Int32)), (0, .ref (ad 65))]) hx hb dX9_begins_26 rfl hl (by decide) rfl (fun ls hl => ?_)
        exact L27  _ _ _ _ _ _ hf B (lv_sub hl [1, 0] rfl)
      · have hf := zif_f hc hf
        refine lv_aload_n hx hb dX9_begins_8 rfl (lv_at hl 0 rfl) ?_
        refine x_getr hx hb hts hinRX9 hown B 65 18 73 (by decide) (by decide) (fun _ => rfl) rfl rfl (by decide) (by decide +kernel) rfl dX9_begins_9 ?_
        refine lv_iload_n hx hb dX9_begins_12 rfl (lv_at hl 1 rfl) ?_
        refine lv_aload_n hx hb dX9_begins_13 rfl (lv_at hl 0 rfl) ?_
        refine lv_iload_n hx hb dX9_begins_14 rfl (lv_at hl 1 rfl) ?_
        obtain ⟨r8, σ9, hu7, hf⟩ := zb_some hf
        refine x_i B (fun nb a g hs Bz => va_runV (As := [.int v1]) (rest := [.int v1, .ref (ad 73)]) ⟨hx, hb, hml, hown, hts⟩ (c_X9_heldBy l hu7 _ nb a g hs) (cwV 1 hts gX9_begins_X9_heldBy rfl rfl rfl (by decide +kernel) ⟨Nat.le_of_ble_eq_true rfl, Nat.le_of_ble_eq_true rfl⟩) (x_preV Bz (by decide) (fun _ => rfl) rfl) rfl rfl hl.1 rfl (lv_room (Nat.le_of_ble_eq_true rfl)) dX9_begins_15 ⟨Nat.le_of_ble_eq_true rfl, Nat.le_of_ble_eq_true rfl⟩) (fun H locs B => ?_)
        obtain ⟨hg, hf⟩ := zg_some hf
        refine x_iast hx hb B 73 (by decide) (by decide) (fun _ => rfl) (zin_ok hg) dX9_begins_18 (fun H locs B => ?_)
        refine lv_iinc (v := (v1 + (1 : Int32))) (lv' := [(1, .int (v1 + (1 : Int32))), (0, .ref (ad 65))]) hx hb dX9_begins_19 hl (k := 1) rfl (zc1 (by decide)) (by decide) rfl (fun ls hl => ?_)
        refine lv_goto (tgt := 2) hx hb dX9_begins_22 (by decide) ?_
        exact ih _ _ _ _ _ hf B (lv_sub hl [1, 0] rfl)
  unfold f_X9_begins at hf
  refine lv_iconst (v := (0 : Int32)) hx hb dX9_begins_0 (by decide) ?_
  refine lv_istore_n (lv' := [(1, .int (0 : Int32)), (0, .ref (ad 65))]) hx hb dX9_begins_1 rfl hl (by decide) rfl (fun ls hl => ?_)
  exact L2  _ _ _ _ _ _ hf B (lv_sub hl [1, 0] rfl)
theorem dX9_comes_0 : decode cX9_comes 0 = .ok (.aload_n 0, 1) := by decide +kernel
theorem dX9_comes_1 : decode cX9_comes 1 = .ok (.invokevirtual 202, 3) := by decide +kernel
theorem dX9_comes_4 : decode cX9_comes 4 = .ok (.iconst 1, 1) := by decide +kernel
theorem dX9_comes_5 : decode cX9_comes 5 = .ok (.istore_n 1, 1) := by decide +kernel
theorem dX9_comes_6 : decode cX9_comes 6 = .ok (.iload_n 1, 1) := by decide +kernel
theorem dX9_comes_7 : decode cX9_comes 7 = .ok (.ifCond .eq 30, 3) := by decide +kernel
theorem dX9_comes_10 : decode cX9_comes 10 = .ok (.iconst 0, 1) := by decide +kernel
theorem dX9_comes_11 : decode cX9_comes 11 = .ok (.istore_n 1, 1) := by decide +kernel
theorem dX9_comes_12 : decode cX9_comes 12 = .ok (.iconst 0, 1) := by decide +kernel
theorem dX9_comes_13 : decode cX9_comes 13 = .ok (.istore_n 2, 1) := by decide +kernel
theorem dX9_comes_14 : decode cX9_comes 14 = .ok (.iload_n 2, 1) := by decide +kernel
theorem dX9_comes_15 : decode cX9_comes 15 = .ok (.bipush 6, 2) := by decide +kernel
theorem dX9_comes_17 : decode cX9_comes 17 = .ok (.if_icmp .ge 17, 3) := by decide +kernel
theorem dX9_comes_20 : decode cX9_comes 20 = .ok (.iload_n 1, 1) := by decide +kernel
theorem dX9_comes_21 : decode cX9_comes 21 = .ok (.aload_n 0, 1) := by decide +kernel
theorem dX9_comes_22 : decode cX9_comes 22 = .ok (.iload_n 2, 1) := by decide +kernel
theorem dX9_comes_23 : decode cX9_comes 23 = .ok (.invokevirtual 205, 3) := by decide +kernel
theorem dX9_comes_26 : decode cX9_comes 26 = .ok (.ior, 1) := by decide +kernel
theorem dX9_comes_27 : decode cX9_comes 27 = .ok (.istore_n 1, 1) := by decide +kernel
theorem dX9_comes_28 : decode cX9_comes 28 = .ok (.iinc 2 1, 3) := by decide +kernel
theorem dX9_comes_31 : decode cX9_comes 31 = .ok (.goto (-17), 3) := by decide +kernel
theorem dX9_comes_34 : decode cX9_comes 34 = .ok (.goto (-28), 3) := by decide +kernel
theorem dX9_comes_37 : decode cX9_comes 37 = .ok (.return_, 1) := by decide +kernel
set_option maxRecDepth 20000 in
theorem ggX9_comes_X9_begins : GoodIn wsX9_comes wsX9_begins := goodIn_ca (goodIn_r _ [5, 6, 7, 8, 9, 10, 4, 11, 12, 13, 14, 45, 46, 47, 48, 49, 50, 51, 52, 53, 54, 55, 56, 57, 58, 59, 60, 61, 62, 63, 64] (by decide +kernel) (by decide +kernel)) (goodIn_sub (fun _ h => List.mem_cons_of_mem _ (List.mem_append_right _ h)) (by decide +kernel))
set_option maxRecDepth 20000 in
theorem gX9_comes_X9_begins : GoodIn wsX9_comes (wsV RX9 202 RX9 yX9_begins wsX9_begins) := goodIn_app (goodIn_of _ (by decide +kernel)) ggX9_comes_X9_begins
set_option maxRecDepth 20000 in
theorem ggX9_comes_X9_sends : GoodIn wsX9_comes wsX9_sends := goodIn_ca (goodIn_r _ [18, 7, 6, 12, 13, 4, 14, 19, 20, 21, 22, 23, 24, 25, 26, 27, 28, 29, 30, 31, 32, 33, 34, 35, 36, 37, 38, 39, 40, 41, 42, 43, 44, 45, 46, 47, 48, 49, 50, 51, 52, 53, 54, 55, 56, 57, 58, 59, 60, 61, 62, 63, 64] (by decide +kernel) (by decide +kernel)) (goodIn_sub (fun _ h => List.mem_cons_of_mem _ (List.mem_append_right _ h)) (by decide +kernel))
set_option maxRecDepth 20000 in
theorem gX9_comes_X9_sends : GoodIn wsX9_comes (wsV RX9 205 RX9 yX9_sends wsX9_sends) := goodIn_app (goodIn_of _ (by decide +kernel)) ggX9_comes_X9_sends
def rm_X9_comes : Room := { frames := 5, cells := 0, slots := 0, locals := 118 }
set_option maxHeartbeats 4000000 in
set_option maxRecDepth 100000 in
theorem c_X9_comes (l : Launch) {G : zG} {ad : Nat → Nat} {σ σ' : zs} {r : Int32} (hf : f_X9_comes σ  = some (r, σ')) : xMv l yX9_comes wsX9_comes rm_X9_comes G ad σ [.ref (ad 65)] σ' := by
  intro sz nb a g hs
  refine Met.ofW (cc := cX9_comes) (maxL := 3) (ret := none) (by decide) rfl ?_
  intro p e s m args below meth c s₁ B hml hv
  obtain ⟨rfl, hsz, hv⟩ := hv
  have hx := B.exec
  have hb := B.bytes
  have hr := B.returns
  have hts := atoms_spec (ws := wsX9_comes) B.pre
  have hown : s.vm.findClass RX9 = some m.cls := findClass_of_methodNamed B.named
  have hlocks := B.notSynchronized
  subst hsz
  have B := xB_start hs hv
  have hl := lv_entry ([.ref (ad 65)]) (n := 3) (Nat.le_of_ble_eq_true rfl)
  rw [lg_entry_eq]
  generalize (lg_sl ([.ref (ad 65)]) ++ List.replicate (3 - (lg_sl ([.ref (ad 65)])).length) Slot.unset).toArray = ls at hl ⊢
  have hl : lv_has ls 3 [(0, .ref (ad 65))] := hl
  generalize hAe : xA ad a s.heap.size = A at B ⊢
  have L14 : ∀ (K6 : zs → Int32 → Option (Int32 × zs)) (hK6 : ∀ (σ : zs) (v1 : Int32) (H : Heap) (locs : List Loc) (ls : Array Slot), K6 σ v1 = some (r, σ') → xB A s G ad σ H locs → lv_has ls 3 [(0, .ref (ad 65)), (1, .int v1)] → W p l e (headSpec wsX9_comes rm_X9_comes).room s m ([.ref (ad 65)] : List Value).toArray below meth c H locs 0 0 (MQ below (va_Qv (fun (u : xV) => xQ σ' u) (xPost G ad σ' A) A) ([.ref (ad 65)] : List Value).toArray s 0 0 A) (F0 m 6 ls [])) (n : Nat) (σ : zs) (v1 : Int32) (v2 : Int32) (H : Heap) (locs : List Loc) (ls : Array Slot), zlp2 (f_X9_comes_14 K6) n σ v1 v2 = some (r, σ') → xB A s G ad σ H locs → lv_has ls 3 [(0, .ref (ad 65)), (1, .int v1), (2, .int v2)] → W p l e (headSpec wsX9_comes rm_X9_comes).room s m ([.ref (ad 65)] : List Value).toArray below meth c H locs 0 0 (MQ below (va_Qv (fun (u : xV) => xQ σ' u) (xPost G ad σ' A) A) ([.ref (ad 65)] : List Value).toArray s 0 0 A) (F0 m 14 ls []) := by
    intro K6 hK6 n
    induction n with
    | zero =>
      intro σ v1 v2 H locs ls hf
      cases hf
    | succ n ih =>
      intro σ v1 v2 H locs ls hf B hl
      have hf : f_X9_comes_14 K6 (zlp2 (f_X9_comes_14 K6) n) σ v1 v2 = some (r, σ') := hf
      unfold f_X9_comes_14 at hf
      refine lv_iload_n hx hb dX9_comes_14 rfl (lv_at hl 2 rfl) ?_
      refine lv_bipush (v := (6 : Int32)) hx hb dX9_comes_15 (by decide) ?_
      refine lv_icmp_ge (tgt := 34) hx hb dX9_comes_17 (by decide) (fun hc => ?_) (fun hc => ?_)
      · have hf := zif_t hc hf
        refine lv_goto (tgt := 6) hx hb dX9_comes_34 (by decide) ?_
        exact hK6 _ _ _ _ _ hf B (lv_sub hl [0, 1] rfl)
      · have hf := zif_f hc hf
        refine lv_iload_n hx hb dX9_comes_20 rfl (lv_at hl 1 rfl) ?_
        refine lv_aload_n hx hb dX9_comes_21 rfl (lv_at hl 0 rfl) ?_
        refine lv_iload_n hx hb dX9_comes_22 rfl (lv_at hl 2 rfl) ?_
        obtain ⟨r5, σ6, hu4, hf⟩ := zb_some hf
        refine x_i B (fun nb a g hs Bz => va_runV (As := [.int v2]) (rest := [.int v1]) ⟨hx, hb, hml, hown, hts⟩ (c_X9_sends l hu4 _ nb a g hs) (cwV 1 hts gX9_comes_X9_sends rfl rfl rfl (by decide +kernel) ⟨Nat.le_of_ble_eq_true rfl, Nat.le_of_ble_eq_true rfl⟩) (x_preV Bz (by decide) (fun _ => rfl) rfl) rfl rfl hl.1 rfl (lv_room (Nat.le_of_ble_eq_true rfl)) dX9_comes_23 ⟨Nat.le_of_ble_eq_true rfl, Nat.le_of_ble_eq_true rfl⟩) (fun H locs B => ?_)
        refine lv_ior hx hb dX9_comes_26 ?_
        refine lv_istore_n (lv' := [(1, .int (v1 ||| r5)), (0, .ref (ad 65)), (2, .int v2)]) hx hb dX9_comes_27 rfl hl (by decide) rfl (fun ls hl => ?_)
        refine lv_iinc (v := (v2 + (1 : Int32))) (lv' := [(2, .int (v2 + (1 : Int32))), (1, .int (v1 ||| r5)), (0, .ref (ad 65))]) hx hb dX9_comes_28 hl (k := 2) rfl (zc1 (by decide)) (by decide) rfl (fun ls hl => ?_)
        refine lv_goto (tgt := 14) hx hb dX9_comes_31 (by decide) ?_
        exact ih _ _ _ _ _ _ hf B (lv_sub hl [2, 1, 0] rfl)
  have L6 : ∀ (n : Nat) (σ : zs) (v1 : Int32) (H : Heap) (locs : List Loc) (ls : Array Slot), zlp1 (f_X9_comes_6) n σ v1 = some (r, σ') → xB A s G ad σ H locs → lv_has ls 3 [(0, .ref (ad 65)), (1, .int v1)] → W p l e (headSpec wsX9_comes rm_X9_comes).room s m ([.ref (ad 65)] : List Value).toArray below meth c H locs 0 0 (MQ below (va_Qv (fun (u : xV) => xQ σ' u) (xPost G ad σ' A) A) ([.ref (ad 65)] : List Value).toArray s 0 0 A) (F0 m 6 ls []) := by
    intro n
    induction n with
    | zero =>
      intro σ v1 H locs ls hf
      cases hf
    | succ n ih =>
      intro σ v1 H locs ls hf B hl
      have hf : f_X9_comes_6 (zlp1 (f_X9_comes_6) n) σ v1 = some (r, σ') := hf
      unfold f_X9_comes_6 at hf
      refine lv_iload_n hx hb dX9_comes_6 rfl (lv_at hl 1 rfl) ?_
      refine lv_if_eq (tgt := 37) hx hb dX9_comes_7 (by decide) (fun hc => ?_) (fun hc => ?_)
      · have hf := zif_t hc hf
        refine W.widen (k := 0) (n := 0) (Nat.le_of_ble_eq_true rfl) (Nat.le_of_ble_eq_true rfl) ?_
        exact x_vret hx hb hr hlocks B hf dX9_comes_37
      · have hf := zif_f hc hf
        refine lv_iconst (v := (0 : Int32)) hx hb dX9_comes_10 (by decide) ?_
        refine lv_istore_n (lv' := [(1, .int (0 : Int32)), (0, .ref (ad 65))]) hx hb dX9_comes_11 rfl hl (by decide) rfl (fun ls hl => ?_)
        refine lv_iconst (v := (0 : Int32)) hx hb dX9_comes_12 (by decide) ?_
        refine lv_istore_n (lv' := [(2, .int (0 : Int32)), (1, .int (0 : Int32)), (0, .ref (ad 65))]) hx hb dX9_comes_13 rfl hl (by decide) rfl (fun ls hl => ?_)
        exact L14 _ ih  _ _ _ _ _ _ _ hf B (lv_sub hl [2, 1, 0] rfl)
  unfold f_X9_comes at hf
  refine lv_aload_n hx hb dX9_comes_0 rfl (lv_at hl 0 rfl) ?_
  obtain ⟨r2, σ3, hu1, hf⟩ := zb_some hf
  refine x_v B (fun nb a g hs Bz => va_runV (As := []) (rest := []) ⟨hx, hb, hml, hown, hts⟩ (c_X9_begins l hu1 _ nb a g hs) (cwV 0 hts gX9_comes_X9_begins rfl rfl rfl (by decide +kernel) ⟨Nat.le_of_ble_eq_true rfl, Nat.le_of_ble_eq_true rfl⟩) (x_preV Bz (by decide) (fun _ => rfl) rfl) rfl rfl hl.1 rfl (lv_room (Nat.le_of_ble_eq_true rfl)) dX9_comes_1 ⟨Nat.le_of_ble_eq_true rfl, Nat.le_of_ble_eq_true rfl⟩) (fun H locs B => ?_)
  refine lv_iconst (v := (1 : Int32)) hx hb dX9_comes_4 (by decide) ?_
  refine lv_istore_n (lv' := [(1, .int (1 : Int32)), (0, .ref (ad 65))]) hx hb dX9_comes_5 rfl hl (by decide) rfl (fun ls hl => ?_)
  exact L6  _ _ _ _ _ _ hf B (lv_sub hl [1, 0] rfl)
theorem dX9_coming_0 : decode cX9_coming 0 = .ok (.aload_n 0, 1) := by decide +kernel
theorem dX9_coming_1 : decode cX9_coming 1 = .ok (.iload_n 1, 1) := by decide +kernel
theorem dX9_coming_2 : decode cX9_coming 2 = .ok (.invokestatic 78, 3) := by decide +kernel
theorem dX9_coming_5 : decode cX9_coming 5 = .ok (.ifCond .eq 7, 3) := by decide +kernel
theorem dX9_coming_8 : decode cX9_coming 8 = .ok (.iconst 0, 1) := by decide +kernel
theorem dX9_coming_9 : decode cX9_coming 9 = .ok (.goto 4, 3) := by decide +kernel
theorem dX9_coming_12 : decode cX9_coming 12 = .ok (.iconst 1, 1) := by decide +kernel
theorem dX9_coming_13 : decode cX9_coming 13 = .ok (.putfield 41, 3) := by decide +kernel
theorem dX9_coming_16 : decode cX9_coming 16 = .ok (.aload_n 0, 1) := by decide +kernel
theorem dX9_coming_17 : decode cX9_coming 17 = .ok (.getfield 41, 3) := by decide +kernel
theorem dX9_coming_20 : decode cX9_coming 20 = .ok (.ifCond .eq 5, 3) := by decide +kernel
theorem dX9_coming_23 : decode cX9_coming 23 = .ok (.iconst 0, 1) := by decide +kernel
theorem dX9_coming_24 : decode cX9_coming 24 = .ok (.ireturn, 1) := by decide +kernel
theorem dX9_coming_25 : decode cX9_coming 25 = .ok (.aload_n 0, 1) := by decide +kernel
theorem dX9_coming_26 : decode cX9_coming 26 = .ok (.invokevirtual 208, 3) := by decide +kernel
theorem dX9_coming_29 : decode cX9_coming 29 = .ok (.aload_n 0, 1) := by decide +kernel
theorem dX9_coming_30 : decode cX9_coming 30 = .ok (.getfield 35, 3) := by decide +kernel
theorem dX9_coming_33 : decode cX9_coming 33 = .ok (.iload_n 1, 1) := by decide +kernel
theorem dX9_coming_34 : decode cX9_coming 34 = .ok (.iaload, 1) := by decide +kernel
theorem dX9_coming_35 : decode cX9_coming 35 = .ok (.ireturn, 1) := by decide +kernel
set_option maxRecDepth 20000 in
theorem ggX9_coming_X9_isSubject : GoodIn wsX9_coming wsX9_isSubject := goodIn_r _ [6, 7, 8, 5, 9] (by decide +kernel) (by decide +kernel)
set_option maxRecDepth 20000 in
theorem gX9_coming_X9_isSubject : GoodIn wsX9_coming (va_wsS RX9 78 yX9_isSubject wsX9_isSubject) := goodIn_app (goodIn_of _ (by decide +kernel)) ggX9_coming_X9_isSubject
set_option maxRecDepth 20000 in
theorem ggX9_coming_X9_comes : GoodIn wsX9_coming wsX9_comes := goodIn_ca (goodIn_r _ [13, 14, 15, 16, 5, 17, 2, 18, 19, 20, 21, 22, 23, 24, 25, 26, 27, 28, 29, 30, 31, 32, 33, 34, 35, 36, 37, 38, 39, 40, 41, 42, 43, 44, 45, 46, 47, 48, 49, 50, 51, 52, 7, 8, 9, 53, 54, 55, 56, 57, 58, 59, 60, 61, 62, 63, 64, 65, 66, 67, 68, 69, 70, 71, 72] (by decide +kernel) (by decide +kernel)) (goodIn_sub (fun _ h => List.mem_cons_of_mem _ (List.mem_append_right _ h)) (by decide +kernel))
set_option maxRecDepth 20000 in
theorem gX9_coming_X9_comes : GoodIn wsX9_coming (wsV RX9 208 RX9 yX9_comes wsX9_comes) := goodIn_app (goodIn_of _ (by decide +kernel)) ggX9_coming_X9_comes
def rm_X9_coming : Room := { frames := 6, cells := 0, slots := 0, locals := 140 }
set_option maxHeartbeats 4000000 in
set_option maxRecDepth 100000 in
theorem c_X9_coming (l : Launch) {G : zG} {ad : Nat → Nat} {σ σ' : zs} {a1 : Int32} {r : Int32} (hf : f_X9_coming σ a1 = some (r, σ')) : xMi l yX9_coming wsX9_coming rm_X9_coming G ad σ [.ref (ad 65), .int a1] r σ' := by
  intro sz nb a g hs
  refine Met.ofW (cc := cX9_coming) (maxL := 2) (ret := (some .int)) (by decide) rfl ?_
  intro p e s m args below meth c s₁ B hml hv
  obtain ⟨rfl, hsz, hv⟩ := hv
  have hx := B.exec
  have hb := B.bytes
  have hr := B.returns
  have hts := atoms_spec (ws := wsX9_coming) B.pre
  have hown : s.vm.findClass RX9 = some m.cls := findClass_of_methodNamed B.named
  have hlocks := B.notSynchronized
  subst hsz
  have B := xB_start hs hv
  have hinRX9 : ∀ w ∈ wsX90, w ∈ wsX9_coming := by decide +kernel
  have hl := lv_entry ([.ref (ad 65), .int a1]) (n := 2) (Nat.le_of_ble_eq_true rfl)
  rw [lg_entry_eq]
  generalize (lg_sl ([.ref (ad 65), .int a1]) ++ List.replicate (2 - (lg_sl ([.ref (ad 65), .int a1])).length) Slot.unset).toArray = ls at hl ⊢
  have hl : lv_has ls 2 [(0, .ref (ad 65)), (1, .int a1)] := hl
  generalize hAe : xA ad a s.heap.size = A at B ⊢
  have L13 : ∀ (σ : zs) (v1 : Int32) (s0 : Int32) (H : Heap) (locs : List Loc) (ls : Array Slot), f_X9_coming_13 σ v1 s0 = some (r, σ') → xB A s G ad σ H locs → lv_has ls 2 [(0, .ref (ad 65)), (1, .int v1)] → W p l e (headSpec wsX9_coming rm_X9_coming).room s m ([.ref (ad 65), .int a1] : List Value).toArray below meth c H locs 0 0 (MQ below (va_Qi (fun r' (u : xV) => r' = r ∧ xQ σ' u) (xPost G ad σ' A) A) ([.ref (ad 65), .int a1] : List Value).toArray s 0 0 A) (F0 m 13 ls [.int s0, .ref (ad 65)]) := by
    intro σ v1 s0 H locs ls hf B hl
    unfold f_X9_coming_13 at hf
    refine x_puti hx hb hts hinRX9 hown tyX9 tyX9_ok nmX9 B 65 3 (by decide) (by decide) (fun _ => rfl) rfl rfl (by decide) (by decide +kernel) rfl rfl rfl rfl dX9_coming_13 (fun H locs B => ?_)
    refine lv_aload_n hx hb dX9_coming_16 rfl (lv_at hl 0 rfl) ?_
    refine x_geti hx hb hts hinRX9 hown B 65 3 (by decide) (fun _ => rfl) rfl rfl (by decide) (by decide +kernel) rfl dX9_coming_17 ?_
    refine lv_if_eq (tgt := 25) hx hb dX9_coming_20 (by decide) (fun hc => ?_) (fun hc => ?_)
    · have hf := zif_t hc hf
      refine lv_aload_n hx hb dX9_coming_25 rfl (lv_at hl 0 rfl) ?_
      obtain ⟨r5, σ6, hu4, hf⟩ := zb_some hf
      refine x_v B (fun nb a g hs Bz => va_runV (As := []) (rest := []) ⟨hx, hb, hml, hown, hts⟩ (c_X9_comes l hu4 _ nb a g hs) (cwV 0 hts gX9_coming_X9_comes rfl rfl rfl (by decide +kernel) ⟨Nat.le_of_ble_eq_true rfl, Nat.le_of_ble_eq_true rfl⟩) (x_preV Bz (by decide) (fun _ => rfl) rfl) rfl rfl hl.1 rfl (lv_room (Nat.le_of_ble_eq_true rfl)) dX9_coming_26 ⟨Nat.le_of_ble_eq_true rfl, Nat.le_of_ble_eq_true rfl⟩) (fun H locs B => ?_)
      refine lv_aload_n hx hb dX9_coming_29 rfl (lv_at hl 0 rfl) ?_
      refine x_getr hx hb hts hinRX9 hown B 65 18 73 (by decide) (by decide) (fun _ => rfl) rfl rfl (by decide) (by decide +kernel) rfl dX9_coming_30 ?_
      refine lv_iload_n hx hb dX9_coming_33 rfl (lv_at hl 1 rfl) ?_
      obtain ⟨hg, hf⟩ := zg_some hf
      refine x_iald hx hb B 73 (by decide) (fun _ => rfl) (zin_ok hg) dX9_coming_34 ?_
      refine W.widen (k := 0) (n := 0) (Nat.le_of_ble_eq_true rfl) (Nat.le_of_ble_eq_true rfl) ?_
      exact x_iret hx hb hr rfl hlocks B hf dX9_coming_35
    · have hf := zif_f hc hf
      refine lv_iconst (v := (0 : Int32)) hx hb dX9_coming_23 (by decide) ?_
      refine W.widen (k := 0) (n := 0) (Nat.le_of_ble_eq_true rfl) (Nat.le_of_ble_eq_true rfl) ?_
      exact x_iret hx hb hr rfl hlocks B hf dX9_coming_24
  unfold f_X9_coming at hf
  refine lv_aload_n hx hb dX9_coming_0 rfl (lv_at hl 0 rfl) ?_
  refine lv_iload_n hx hb dX9_coming_1 rfl (lv_at hl 1 rfl) ?_
  obtain ⟨r2, σ3, hu1, hf⟩ := zb_some hf
  refine x_i B (fun nb a g hs Bz => va_runS (As := [.int a1]) (rest := [.ref (ad 65)]) ⟨hx, hb, hml, hown, hts⟩ (c_X9_isSubject l hu1 _ nb a g hs) (va_cwS 1 hts gX9_coming_X9_isSubject rfl rfl rfl (by decide +kernel) ⟨Nat.le_of_ble_eq_true rfl, Nat.le_of_ble_eq_true rfl⟩) (z_preS Bz) rfl rfl hl.1 rfl (lv_room (Nat.le_of_ble_eq_true rfl)) dX9_coming_2 ⟨Nat.le_of_ble_eq_true rfl, Nat.le_of_ble_eq_true rfl⟩) (fun H locs B => ?_)
  refine lv_if_eq (tgt := 12) hx hb dX9_coming_5 (by decide) (fun hc => ?_) (fun hc => ?_)
  · have hf := zif_t hc hf
    refine lv_iconst (v := (1 : Int32)) hx hb dX9_coming_12 (by decide) ?_
    exact L13  _ _ _ _ _ _ hf B (lv_sub hl [0, 1] rfl)
  · have hf := zif_f hc hf
    refine lv_iconst (v := (0 : Int32)) hx hb dX9_coming_8 (by decide) ?_
    refine lv_goto (tgt := 13) hx hb dX9_coming_9 (by decide) ?_
    exact L13  _ _ _ _ _ _ hf B (lv_sub hl [0, 1] rfl)
theorem dX9_goesRound_0 : decode cX9_goesRound 0 = .ok (.iconst 0, 1) := by decide +kernel
theorem dX9_goesRound_1 : decode cX9_goesRound 1 = .ok (.istore_n 1, 1) := by decide +kernel
theorem dX9_goesRound_2 : decode cX9_goesRound 2 = .ok (.iload_n 1, 1) := by decide +kernel
theorem dX9_goesRound_3 : decode cX9_goesRound 3 = .ok (.bipush 6, 2) := by decide +kernel
theorem dX9_goesRound_5 : decode cX9_goesRound 5 = .ok (.if_icmp .ge 21, 3) := by decide +kernel
theorem dX9_goesRound_8 : decode cX9_goesRound 8 = .ok (.aload_n 0, 1) := by decide +kernel
theorem dX9_goesRound_9 : decode cX9_goesRound 9 = .ok (.getfield 38, 3) := by decide +kernel
theorem dX9_goesRound_12 : decode cX9_goesRound 12 = .ok (.iload_n 1, 1) := by decide +kernel
theorem dX9_goesRound_13 : decode cX9_goesRound 13 = .ok (.aload_n 0, 1) := by decide +kernel
theorem dX9_goesRound_14 : decode cX9_goesRound 14 = .ok (.getfield 35, 3) := by decide +kernel
theorem dX9_goesRound_17 : decode cX9_goesRound 17 = .ok (.iload_n 1, 1) := by decide +kernel
theorem dX9_goesRound_18 : decode cX9_goesRound 18 = .ok (.iaload, 1) := by decide +kernel
theorem dX9_goesRound_19 : decode cX9_goesRound 19 = .ok (.iastore, 1) := by decide +kernel
theorem dX9_goesRound_20 : decode cX9_goesRound 20 = .ok (.iinc 1 1, 3) := by decide +kernel
theorem dX9_goesRound_23 : decode cX9_goesRound 23 = .ok (.goto (-21), 3) := by decide +kernel
theorem dX9_goesRound_26 : decode cX9_goesRound 26 = .ok (.iconst 0, 1) := by decide +kernel
theorem dX9_goesRound_27 : decode cX9_goesRound 27 = .ok (.istore_n 1, 1) := by decide +kernel
theorem dX9_goesRound_28 : decode cX9_goesRound 28 = .ok (.iload_n 1, 1) := by decide +kernel
theorem dX9_goesRound_29 : decode cX9_goesRound 29 = .ok (.bipush 6, 2) := by decide +kernel
theorem dX9_goesRound_31 : decode cX9_goesRound 31 = .ok (.if_icmp .ge 137, 3) := by decide +kernel
theorem dX9_goesRound_34 : decode cX9_goesRound 34 = .ok (.iconst 0, 1) := by decide +kernel
theorem dX9_goesRound_35 : decode cX9_goesRound 35 = .ok (.istore_n 2, 1) := by decide +kernel
theorem dX9_goesRound_36 : decode cX9_goesRound 36 = .ok (.iconst 0, 1) := by decide +kernel
theorem dX9_goesRound_37 : decode cX9_goesRound 37 = .ok (.istore_n 3, 1) := by decide +kernel
theorem dX9_goesRound_38 : decode cX9_goesRound 38 = .ok (.iload_n 3, 1) := by decide +kernel
theorem dX9_goesRound_39 : decode cX9_goesRound 39 = .ok (.aload_n 0, 1) := by decide +kernel
theorem dX9_goesRound_40 : decode cX9_goesRound 40 = .ok (.getfield 9, 3) := by decide +kernel
theorem dX9_goesRound_43 : decode cX9_goesRound 43 = .ok (.iconst 1, 1) := by decide +kernel
theorem dX9_goesRound_44 : decode cX9_goesRound 44 = .ok (.iaload, 1) := by decide +kernel
theorem dX9_goesRound_45 : decode cX9_goesRound 45 = .ok (.if_icmp .ge 43, 3) := by decide +kernel
theorem dX9_goesRound_48 : decode cX9_goesRound 48 = .ok (.iload_n 2, 1) := by decide +kernel
theorem dX9_goesRound_49 : decode cX9_goesRound 49 = .ok (.aload_n 0, 1) := by decide +kernel
theorem dX9_goesRound_50 : decode cX9_goesRound 50 = .ok (.getfield 35, 3) := by decide +kernel
theorem dX9_goesRound_53 : decode cX9_goesRound 53 = .ok (.iload_n 1, 1) := by decide +kernel
theorem dX9_goesRound_54 : decode cX9_goesRound 54 = .ok (.iaload, 1) := by decide +kernel
theorem dX9_goesRound_55 : decode cX9_goesRound 55 = .ok (.iload_n 3, 1) := by decide +kernel
theorem dX9_goesRound_56 : decode cX9_goesRound 56 = .ok (.invokestatic 59, 3) := by decide +kernel
theorem dX9_goesRound_59 : decode cX9_goesRound 59 = .ok (.ifCond .eq 20, 3) := by decide +kernel
theorem dX9_goesRound_62 : decode cX9_goesRound 62 = .ok (.aload_n 0, 1) := by decide +kernel
theorem dX9_goesRound_63 : decode cX9_goesRound 63 = .ok (.iload_n 1, 1) := by decide +kernel
theorem dX9_goesRound_64 : decode cX9_goesRound 64 = .ok (.iload_n 3, 1) := by decide +kernel
theorem dX9_goesRound_65 : decode cX9_goesRound 65 = .ok (.invokevirtual 199, 3) := by decide +kernel
theorem dX9_goesRound_68 : decode cX9_goesRound 68 = .ok (.iconst 4, 1) := by decide +kernel
theorem dX9_goesRound_69 : decode cX9_goesRound 69 = .ok (.iand, 1) := by decide +kernel
theorem dX9_goesRound_70 : decode cX9_goesRound 70 = .ok (.ifCond .eq 9, 3) := by decide +kernel
theorem dX9_goesRound_73 : decode cX9_goesRound 73 = .ok (.iconst 1, 1) := by decide +kernel
theorem dX9_goesRound_74 : decode cX9_goesRound 74 = .ok (.iload_n 3, 1) := by decide +kernel
theorem dX9_goesRound_75 : decode cX9_goesRound 75 = .ok (.ishl, 1) := by decide +kernel
theorem dX9_goesRound_76 : decode cX9_goesRound 76 = .ok (.goto 4, 3) := by decide +kernel
theorem dX9_goesRound_79 : decode cX9_goesRound 79 = .ok (.iconst 0, 1) := by decide +kernel
theorem dX9_goesRound_80 : decode cX9_goesRound 80 = .ok (.ior, 1) := by decide +kernel
theorem dX9_goesRound_81 : decode cX9_goesRound 81 = .ok (.istore_n 2, 1) := by decide +kernel
theorem dX9_goesRound_82 : decode cX9_goesRound 82 = .ok (.iinc 3 1, 3) := by decide +kernel
theorem dX9_goesRound_85 : decode cX9_goesRound 85 = .ok (.goto (-47), 3) := by decide +kernel
theorem dX9_goesRound_88 : decode cX9_goesRound 88 = .ok (.iconst 0, 1) := by decide +kernel
theorem dX9_goesRound_89 : decode cX9_goesRound 89 = .ok (.istore_n 3, 1) := by decide +kernel
theorem dX9_goesRound_90 : decode cX9_goesRound 90 = .ok (.iload_n 3, 1) := by decide +kernel
theorem dX9_goesRound_91 : decode cX9_goesRound 91 = .ok (.aload_n 0, 1) := by decide +kernel
theorem dX9_goesRound_92 : decode cX9_goesRound 92 = .ok (.getfield 9, 3) := by decide +kernel
theorem dX9_goesRound_95 : decode cX9_goesRound 95 = .ok (.iconst 1, 1) := by decide +kernel
theorem dX9_goesRound_96 : decode cX9_goesRound 96 = .ok (.iaload, 1) := by decide +kernel
theorem dX9_goesRound_97 : decode cX9_goesRound 97 = .ok (.if_icmp .ge 65, 3) := by decide +kernel
theorem dX9_goesRound_100 : decode cX9_goesRound 100 = .ok (.aload_n 0, 1) := by decide +kernel
theorem dX9_goesRound_101 : decode cX9_goesRound 101 = .ok (.getfield 9, 3) := by decide +kernel
theorem dX9_goesRound_104 : decode cX9_goesRound 104 = .ok (.bipush 51, 2) := by decide +kernel
theorem dX9_goesRound_106 : decode cX9_goesRound 106 = .ok (.iload_n 3, 1) := by decide +kernel
theorem dX9_goesRound_107 : decode cX9_goesRound 107 = .ok (.iadd, 1) := by decide +kernel
theorem dX9_goesRound_108 : decode cX9_goesRound 108 = .ok (.iaload, 1) := by decide +kernel
theorem dX9_goesRound_109 : decode cX9_goesRound 109 = .ok (.bipush 6, 2) := by decide +kernel
theorem dX9_goesRound_111 : decode cX9_goesRound 111 = .ok (.if_icmp .ge 45, 3) := by decide +kernel
theorem dX9_goesRound_114 : decode cX9_goesRound 114 = .ok (.aload_n 0, 1) := by decide +kernel
theorem dX9_goesRound_115 : decode cX9_goesRound 115 = .ok (.getfield 35, 3) := by decide +kernel
theorem dX9_goesRound_118 : decode cX9_goesRound 118 = .ok (.iload_n 1, 1) := by decide +kernel
theorem dX9_goesRound_119 : decode cX9_goesRound 119 = .ok (.iaload, 1) := by decide +kernel
theorem dX9_goesRound_120 : decode cX9_goesRound 120 = .ok (.iload_n 3, 1) := by decide +kernel
theorem dX9_goesRound_121 : decode cX9_goesRound 121 = .ok (.invokestatic 59, 3) := by decide +kernel
theorem dX9_goesRound_124 : decode cX9_goesRound 124 = .ok (.ifCond .eq 32, 3) := by decide +kernel
theorem dX9_goesRound_127 : decode cX9_goesRound 127 = .ok (.aload_n 0, 1) := by decide +kernel
theorem dX9_goesRound_128 : decode cX9_goesRound 128 = .ok (.iload_n 1, 1) := by decide +kernel
theorem dX9_goesRound_129 : decode cX9_goesRound 129 = .ok (.iload_n 3, 1) := by decide +kernel
theorem dX9_goesRound_130 : decode cX9_goesRound 130 = .ok (.invokevirtual 199, 3) := by decide +kernel
theorem dX9_goesRound_133 : decode cX9_goesRound 133 = .ok (.iconst 2, 1) := by decide +kernel
theorem dX9_goesRound_134 : decode cX9_goesRound 134 = .ok (.iand, 1) := by decide +kernel
theorem dX9_goesRound_135 : decode cX9_goesRound 135 = .ok (.ifCond .eq 21, 3) := by decide +kernel
theorem dX9_goesRound_138 : decode cX9_goesRound 138 = .ok (.aload_n 0, 1) := by decide +kernel
theorem dX9_goesRound_139 : decode cX9_goesRound 139 = .ok (.getfield 38, 3) := by decide +kernel
theorem dX9_goesRound_142 : decode cX9_goesRound 142 = .ok (.aload_n 0, 1) := by decide +kernel
theorem dX9_goesRound_143 : decode cX9_goesRound 143 = .ok (.getfield 9, 3) := by decide +kernel
theorem dX9_goesRound_146 : decode cX9_goesRound 146 = .ok (.bipush 51, 2) := by decide +kernel
theorem dX9_goesRound_148 : decode cX9_goesRound 148 = .ok (.iload_n 3, 1) := by decide +kernel
theorem dX9_goesRound_149 : decode cX9_goesRound 149 = .ok (.iadd, 1) := by decide +kernel
theorem dX9_goesRound_150 : decode cX9_goesRound 150 = .ok (.iaload, 1) := by decide +kernel
theorem dX9_goesRound_151 : decode cX9_goesRound 151 = .ok (.dup2, 1) := by decide +kernel
theorem dX9_goesRound_152 : decode cX9_goesRound 152 = .ok (.iaload, 1) := by decide +kernel
theorem dX9_goesRound_153 : decode cX9_goesRound 153 = .ok (.iload_n 2, 1) := by decide +kernel
theorem dX9_goesRound_154 : decode cX9_goesRound 154 = .ok (.ior, 1) := by decide +kernel
theorem dX9_goesRound_155 : decode cX9_goesRound 155 = .ok (.iastore, 1) := by decide +kernel
theorem dX9_goesRound_156 : decode cX9_goesRound 156 = .ok (.iinc 3 1, 3) := by decide +kernel
theorem dX9_goesRound_159 : decode cX9_goesRound 159 = .ok (.goto (-69), 3) := by decide +kernel
theorem dX9_goesRound_162 : decode cX9_goesRound 162 = .ok (.iinc 1 1, 3) := by decide +kernel
theorem dX9_goesRound_165 : decode cX9_goesRound 165 = .ok (.goto (-137), 3) := by decide +kernel
theorem dX9_goesRound_168 : decode cX9_goesRound 168 = .ok (.iconst 0, 1) := by decide +kernel
theorem dX9_goesRound_169 : decode cX9_goesRound 169 = .ok (.istore_n 1, 1) := by decide +kernel
theorem dX9_goesRound_170 : decode cX9_goesRound 170 = .ok (.iconst 0, 1) := by decide +kernel
theorem dX9_goesRound_171 : decode cX9_goesRound 171 = .ok (.istore_n 2, 1) := by decide +kernel
theorem dX9_goesRound_172 : decode cX9_goesRound 172 = .ok (.iload_n 2, 1) := by decide +kernel
theorem dX9_goesRound_173 : decode cX9_goesRound 173 = .ok (.bipush 6, 2) := by decide +kernel
theorem dX9_goesRound_175 : decode cX9_goesRound 175 = .ok (.if_icmp .ge 44, 3) := by decide +kernel
theorem dX9_goesRound_178 : decode cX9_goesRound 178 = .ok (.iload_n 1, 1) := by decide +kernel
theorem dX9_goesRound_179 : decode cX9_goesRound 179 = .ok (.aload_n 0, 1) := by decide +kernel
theorem dX9_goesRound_180 : decode cX9_goesRound 180 = .ok (.getfield 38, 3) := by decide +kernel
theorem dX9_goesRound_183 : decode cX9_goesRound 183 = .ok (.iload_n 2, 1) := by decide +kernel
theorem dX9_goesRound_184 : decode cX9_goesRound 184 = .ok (.iaload, 1) := by decide +kernel
theorem dX9_goesRound_185 : decode cX9_goesRound 185 = .ok (.aload_n 0, 1) := by decide +kernel
theorem dX9_goesRound_186 : decode cX9_goesRound 186 = .ok (.getfield 35, 3) := by decide +kernel
theorem dX9_goesRound_189 : decode cX9_goesRound 189 = .ok (.iload_n 2, 1) := by decide +kernel
theorem dX9_goesRound_190 : decode cX9_goesRound 190 = .ok (.iaload, 1) := by decide +kernel
theorem dX9_goesRound_191 : decode cX9_goesRound 191 = .ok (.if_icmp .eq 7, 3) := by decide +kernel
theorem dX9_goesRound_194 : decode cX9_goesRound 194 = .ok (.iconst 1, 1) := by decide +kernel
theorem dX9_goesRound_195 : decode cX9_goesRound 195 = .ok (.goto 4, 3) := by decide +kernel
theorem dX9_goesRound_198 : decode cX9_goesRound 198 = .ok (.iconst 0, 1) := by decide +kernel
theorem dX9_goesRound_199 : decode cX9_goesRound 199 = .ok (.ior, 1) := by decide +kernel
theorem dX9_goesRound_200 : decode cX9_goesRound 200 = .ok (.istore_n 1, 1) := by decide +kernel
theorem dX9_goesRound_201 : decode cX9_goesRound 201 = .ok (.aload_n 0, 1) := by decide +kernel
theorem dX9_goesRound_202 : decode cX9_goesRound 202 = .ok (.getfield 35, 3) := by decide +kernel
theorem dX9_goesRound_205 : decode cX9_goesRound 205 = .ok (.iload_n 2, 1) := by decide +kernel
theorem dX9_goesRound_206 : decode cX9_goesRound 206 = .ok (.aload_n 0, 1) := by decide +kernel
theorem dX9_goesRound_207 : decode cX9_goesRound 207 = .ok (.getfield 38, 3) := by decide +kernel
theorem dX9_goesRound_210 : decode cX9_goesRound 210 = .ok (.iload_n 2, 1) := by decide +kernel
theorem dX9_goesRound_211 : decode cX9_goesRound 211 = .ok (.iaload, 1) := by decide +kernel
theorem dX9_goesRound_212 : decode cX9_goesRound 212 = .ok (.iastore, 1) := by decide +kernel
theorem dX9_goesRound_213 : decode cX9_goesRound 213 = .ok (.iinc 2 1, 3) := by decide +kernel
theorem dX9_goesRound_216 : decode cX9_goesRound 216 = .ok (.goto (-44), 3) := by decide +kernel
theorem dX9_goesRound_219 : decode cX9_goesRound 219 = .ok (.iload_n 1, 1) := by decide +kernel
theorem dX9_goesRound_220 : decode cX9_goesRound 220 = .ok (.ireturn, 1) := by decide +kernel
set_option maxRecDepth 20000 in
theorem ggX9_goesRound_X9_has : GoodIn wsX9_goesRound wsX9_has := goodIn_r _ [7] (by decide +kernel) (by decide +kernel)
set_option maxRecDepth 20000 in
theorem gX9_goesRound_X9_has : GoodIn wsX9_goesRound (va_wsS RX9 59 yX9_has wsX9_has) := goodIn_app (goodIn_of _ (by decide +kernel)) ggX9_goesRound_X9_has
set_option maxRecDepth 20000 in
theorem ggX9_goesRound_X9_openRights : GoodIn wsX9_goesRound wsX9_openRights := goodIn_ca (goodIn_r _ [11, 3, 12, 13, 14, 15, 16, 17, 18, 19, 20, 21, 6, 22, 23, 24, 25, 26, 27, 28, 29, 30, 31, 32, 33, 34, 35, 36, 37, 38, 39, 40, 41, 42, 43, 44, 45, 46, 47, 48, 49, 50, 51, 52, 53] (by decide +kernel) (by decide +kernel)) (goodIn_sub (fun _ h => List.mem_cons_of_mem _ (List.mem_append_right _ h)) (by decide +kernel))
set_option maxRecDepth 20000 in
theorem gX9_goesRound_X9_openRights : GoodIn wsX9_goesRound (wsV RX9 199 RX9 yX9_openRights wsX9_openRights) := goodIn_app (goodIn_of _ (by decide +kernel)) ggX9_goesRound_X9_openRights
def rm_X9_goesRound : Room := { frames := 4, cells := 0, slots := 0, locals := 93 }
set_option maxHeartbeats 4000000 in
set_option maxRecDepth 100000 in
theorem c_X9_goesRound (l : Launch) {G : zG} {ad : Nat → Nat} {σ σ' : zs} {r : Int32} (hf : f_X9_goesRound σ  = some (r, σ')) : xMi l yX9_goesRound wsX9_goesRound rm_X9_goesRound G ad σ [.ref (ad 65)] r σ' := by
  intro sz nb a g hs
  refine Met.ofW (cc := cX9_goesRound) (maxL := 4) (ret := (some .boolean)) (by decide) rfl ?_
  intro p e s m args below meth c s₁ B hml hv
  obtain ⟨rfl, hsz, hv⟩ := hv
  have hx := B.exec
  have hb := B.bytes
  have hr := B.returns
  have hts := atoms_spec (ws := wsX9_goesRound) B.pre
  have hown : s.vm.findClass RX9 = some m.cls := findClass_of_methodNamed B.named
  have hlocks := B.notSynchronized
  subst hsz
  have B := xB_start hs hv
  have hinRX9 : ∀ w ∈ wsX90, w ∈ wsX9_goesRound := by decide +kernel
  have hl := lv_entry ([.ref (ad 65)]) (n := 4) (Nat.le_of_ble_eq_true rfl)
  rw [lg_entry_eq]
  generalize (lg_sl ([.ref (ad 65)]) ++ List.replicate (4 - (lg_sl ([.ref (ad 65)])).length) Slot.unset).toArray = ls at hl ⊢
  have hl : lv_has ls 4 [(0, .ref (ad 65))] := hl
  generalize hAe : xA ad a s.heap.size = A at B ⊢
  have L199 : ∀ (K172 : zs → Int32 → Int32 → Option (Int32 × zs)) (hK172 : ∀ (σ : zs) (v1 : Int32) (v2 : Int32) (H : Heap) (locs : List Loc) (ls : Array Slot), K172 σ v1 v2 = some (r, σ') → xB A s G ad σ H locs → lv_has ls 4 [(0, .ref (ad 65)), (1, .int v1), (2, .int v2)] → W p l e (headSpec wsX9_goesRound rm_X9_goesRound).room s m ([.ref (ad 65)] : List Value).toArray below meth c H locs 0 0 (MQ below (va_Qi (fun r' (u : xV) => r' = r ∧ xQ σ' u) (xPost G ad σ' A) A) ([.ref (ad 65)] : List Value).toArray s 0 0 A) (F0 m 172 ls [])) (σ : zs) (v2 : Int32) (s0 : Int32) (s1 : Int32) (H : Heap) (locs : List Loc) (ls : Array Slot), f_X9_goesRound_199 K172 σ v2 s0 s1 = some (r, σ') → xB A s G ad σ H locs → lv_has ls 4 [(0, .ref (ad 65)), (2, .int v2)] → W p l e (headSpec wsX9_goesRound rm_X9_goesRound).room s m ([.ref (ad 65)] : List Value).toArray below meth c H locs 0 0 (MQ below (va_Qi (fun r' (u : xV) => r' = r ∧ xQ σ' u) (xPost G ad σ' A) A) ([.ref (ad 65)] : List Value).toArray s 0 0 A) (F0 m 199 ls [.int s0, .int s1]) := by
    intro K172 hK172 σ v2 s0 s1 H locs ls hf B hl
    unfold f_X9_goesRound_199 at hf
    refine lv_ior hx hb dX9_goesRound_199 ?_
    refine lv_istore_n (lv' := [(1, .int (s1 ||| s0)), (0, .ref (ad 65)), (2, .int v2)]) hx hb dX9_goesRound_200 rfl hl (by decide) rfl (fun ls hl => ?_)
    refine lv_aload_n hx hb dX9_goesRound_201 rfl (lv_at hl 1 rfl) ?_
    refine x_getr hx hb hts hinRX9 hown B 65 18 73 (by decide) (by decide) (fun _ => rfl) rfl rfl (by decide) (by decide +kernel) rfl dX9_goesRound_202 ?_
    refine lv_iload_n hx hb dX9_goesRound_205 rfl (lv_at hl 2 rfl) ?_
    refine lv_aload_n hx hb dX9_goesRound_206 rfl (lv_at hl 1 rfl) ?_
    refine x_getr hx hb hts hinRX9 hown B 65 19 74 (by decide) (by decide) (fun _ => rfl) rfl rfl (by decide) (by decide +kernel) rfl dX9_goesRound_207 ?_
    refine lv_iload_n hx hb dX9_goesRound_210 rfl (lv_at hl 2 rfl) ?_
    obtain ⟨hg, hf⟩ := zg_some hf
    refine x_iald hx hb B 74 (by decide) (fun _ => rfl) (zin_ok hg) dX9_goesRound_211 ?_
    obtain ⟨hg, hf⟩ := zg_some hf
    refine x_iast hx hb B 73 (by decide) (by decide) (fun _ => rfl) (zin_ok hg) dX9_goesRound_212 (fun H locs B => ?_)
    refine lv_iinc (v := (v2 + (1 : Int32))) (lv' := [(2, .int (v2 + (1 : Int32))), (1, .int (s1 ||| s0)), (0, .ref (ad 65))]) hx hb dX9_goesRound_213 hl (k := 2) rfl (zc1 (by decide)) (by decide) rfl (fun ls hl => ?_)
    refine lv_goto (tgt := 172) hx hb dX9_goesRound_216 (by decide) ?_
    exact hK172 _ _ _ _ _ _ hf B (lv_sub hl [2, 1, 0] rfl)
  have L172 : ∀ (n : Nat) (σ : zs) (v1 : Int32) (v2 : Int32) (H : Heap) (locs : List Loc) (ls : Array Slot), zlp2 (f_X9_goesRound_172) n σ v1 v2 = some (r, σ') → xB A s G ad σ H locs → lv_has ls 4 [(0, .ref (ad 65)), (1, .int v1), (2, .int v2)] → W p l e (headSpec wsX9_goesRound rm_X9_goesRound).room s m ([.ref (ad 65)] : List Value).toArray below meth c H locs 0 0 (MQ below (va_Qi (fun r' (u : xV) => r' = r ∧ xQ σ' u) (xPost G ad σ' A) A) ([.ref (ad 65)] : List Value).toArray s 0 0 A) (F0 m 172 ls []) := by
    intro n
    induction n with
    | zero =>
      intro σ v1 v2 H locs ls hf
      cases hf
    | succ n ih =>
      intro σ v1 v2 H locs ls hf B hl
      have hf : f_X9_goesRound_172 (zlp2 (f_X9_goesRound_172) n) σ v1 v2 = some (r, σ') := hf
      unfold f_X9_goesRound_172 at hf
      refine lv_iload_n hx hb dX9_goesRound_172 rfl (lv_at hl 2 rfl) ?_
      refine lv_bipush (v := (6 : Int32)) hx hb dX9_goesRound_173 (by decide) ?_
      refine lv_icmp_ge (tgt := 219) hx hb dX9_goesRound_175 (by decide) (fun hc => ?_) (fun hc => ?_)
      · have hf := zif_t hc hf
        refine lv_iload_n hx hb dX9_goesRound_219 rfl (lv_at hl 1 rfl) ?_
        obtain ⟨hg, hf⟩ := zg_some hf
        refine W.widen (k := 0) (n := 0) (Nat.le_of_ble_eq_true rfl) (Nat.le_of_ble_eq_true rfl) ?_
        exact x_iret hx hb hr (znz hg) hlocks B hf dX9_goesRound_220
      · have hf := zif_f hc hf
        refine lv_iload_n hx hb dX9_goesRound_178 rfl (lv_at hl 1 rfl) ?_
        refine lv_aload_n hx hb dX9_goesRound_179 rfl (lv_at hl 0 rfl) ?_
        refine x_getr hx hb hts hinRX9 hown B 65 19 74 (by decide) (by decide) (fun _ => rfl) rfl rfl (by decide) (by decide +kernel) rfl dX9_goesRound_180 ?_
        refine lv_iload_n hx hb dX9_goesRound_183 rfl (lv_at hl 2 rfl) ?_
        obtain ⟨hg, hf⟩ := zg_some hf
        refine x_iald hx hb B 74 (by decide) (fun _ => rfl) (zin_ok hg) dX9_goesRound_184 ?_
        refine lv_aload_n hx hb dX9_goesRound_185 rfl (lv_at hl 0 rfl) ?_
        refine x_getr hx hb hts hinRX9 hown B 65 18 73 (by decide) (by decide) (fun _ => rfl) rfl rfl (by decide) (by decide +kernel) rfl dX9_goesRound_186 ?_
        refine lv_iload_n hx hb dX9_goesRound_189 rfl (lv_at hl 2 rfl) ?_
        obtain ⟨hg, hf⟩ := zg_some hf
        refine x_iald hx hb B 73 (by decide) (fun _ => rfl) (zin_ok hg) dX9_goesRound_190 ?_
        refine lv_icmp_eq (tgt := 198) hx hb dX9_goesRound_191 (by decide) (fun hc => ?_) (fun hc => ?_)
        · have hf := zif_t hc hf
          refine lv_iconst (v := (0 : Int32)) hx hb dX9_goesRound_198 (by decide) ?_
          exact L199 _ ih  _ _ _ _ _ _ _ hf B (lv_sub hl [0, 2] rfl)
        · have hf := zif_f hc hf
          refine lv_iconst (v := (1 : Int32)) hx hb dX9_goesRound_194 (by decide) ?_
          refine lv_goto (tgt := 199) hx hb dX9_goesRound_195 (by decide) ?_
          exact L199 _ ih  _ _ _ _ _ _ _ hf B (lv_sub hl [0, 2] rfl)
  have L90 : ∀ (K28 : zs → Int32 → Option (Int32 × zs)) (hK28 : ∀ (σ : zs) (v1 : Int32) (H : Heap) (locs : List Loc) (ls : Array Slot), K28 σ v1 = some (r, σ') → xB A s G ad σ H locs → lv_has ls 4 [(0, .ref (ad 65)), (1, .int v1)] → W p l e (headSpec wsX9_goesRound rm_X9_goesRound).room s m ([.ref (ad 65)] : List Value).toArray below meth c H locs 0 0 (MQ below (va_Qi (fun r' (u : xV) => r' = r ∧ xQ σ' u) (xPost G ad σ' A) A) ([.ref (ad 65)] : List Value).toArray s 0 0 A) (F0 m 28 ls [])) (n : Nat) (σ : zs) (v1 : Int32) (v2 : Int32) (v3 : Int32) (H : Heap) (locs : List Loc) (ls : Array Slot), zlp3 (f_X9_goesRound_90 K28) n σ v1 v2 v3 = some (r, σ') → xB A s G ad σ H locs → lv_has ls 4 [(0, .ref (ad 65)), (1, .int v1), (2, .int v2), (3, .int v3)] → W p l e (headSpec wsX9_goesRound rm_X9_goesRound).room s m ([.ref (ad 65)] : List Value).toArray below meth c H locs 0 0 (MQ below (va_Qi (fun r' (u : xV) => r' = r ∧ xQ σ' u) (xPost G ad σ' A) A) ([.ref (ad 65)] : List Value).toArray s 0 0 A) (F0 m 90 ls []) := by
    intro K28 hK28 n
    induction n with
    | zero =>
      intro σ v1 v2 v3 H locs ls hf
      cases hf
    | succ n ih =>
      intro σ v1 v2 v3 H locs ls hf B hl
      have hf : f_X9_goesRound_90 K28 (zlp3 (f_X9_goesRound_90 K28) n) σ v1 v2 v3 = some (r, σ') := hf
      unfold f_X9_goesRound_90 at hf
      refine lv_iload_n hx hb dX9_goesRound_90 rfl (lv_at hl 3 rfl) ?_
      refine lv_aload_n hx hb dX9_goesRound_91 rfl (lv_at hl 0 rfl) ?_
      refine x_getr hx hb hts hinRX9 hown B 65 0 66 (by decide) (by decide) (fun _ => rfl) rfl rfl (by decide) (by decide +kernel) rfl dX9_goesRound_92 ?_
      refine lv_iconst (v := (1 : Int32)) hx hb dX9_goesRound_95 (by decide) ?_
      obtain ⟨hg, hf⟩ := zg_some hf
      refine x_iald hx hb B 66 (by decide) (fun _ => rfl) (zin_ok hg) dX9_goesRound_96 ?_
      refine lv_icmp_ge (tgt := 162) hx hb dX9_goesRound_97 (by decide) (fun hc => ?_) (fun hc => ?_)
      · have hf := zif_t hc hf
        refine lv_iinc (v := (v1 + (1 : Int32))) (lv' := [(1, .int (v1 + (1 : Int32))), (0, .ref (ad 65)), (2, .int v2), (3, .int v3)]) hx hb dX9_goesRound_162 hl (k := 1) rfl (zc1 (by decide)) (by decide) rfl (fun ls hl => ?_)
        refine lv_goto (tgt := 28) hx hb dX9_goesRound_165 (by decide) ?_
        exact hK28 _ _ _ _ _ hf B (lv_sub hl [1, 0] rfl)
      · have hf := zif_f hc hf
        refine lv_aload_n hx hb dX9_goesRound_100 rfl (lv_at hl 0 rfl) ?_
        refine x_getr hx hb hts hinRX9 hown B 65 0 66 (by decide) (by decide) (fun _ => rfl) rfl rfl (by decide) (by decide +kernel) rfl dX9_goesRound_101 ?_
        refine lv_bipush (v := (51 : Int32)) hx hb dX9_goesRound_104 (by decide) ?_
        refine lv_iload_n hx hb dX9_goesRound_106 rfl (lv_at hl 3 rfl) ?_
        refine lv_iadd hx hb dX9_goesRound_107 ?_
        obtain ⟨hg, hf⟩ := zg_some hf
        refine x_iald hx hb B 66 (by decide) (fun _ => rfl) (zin_ok hg) dX9_goesRound_108 ?_
        refine lv_bipush (v := (6 : Int32)) hx hb dX9_goesRound_109 (by decide) ?_
        refine lv_icmp_ge (tgt := 156) hx hb dX9_goesRound_111 (by decide) (fun hc => ?_) (fun hc => ?_)
        · have hf := zif_t hc hf
          refine lv_iinc (v := (v3 + (1 : Int32))) (lv' := [(3, .int (v3 + (1 : Int32))), (0, .ref (ad 65)), (1, .int v1), (2, .int v2)]) hx hb dX9_goesRound_156 hl (k := 3) rfl (zc1 (by decide)) (by decide) rfl (fun ls hl => ?_)
          refine lv_goto (tgt := 90) hx hb dX9_goesRound_159 (by decide) ?_
          exact ih _ _ _ _ _ _ _ hf B (lv_sub hl [1, 2, 3, 0] rfl)
        · have hf := zif_f hc hf
          refine lv_aload_n hx hb dX9_goesRound_114 rfl (lv_at hl 0 rfl) ?_
          refine x_getr hx hb hts hinRX9 hown B 65 18 73 (by decide) (by decide) (fun _ => rfl) rfl rfl (by decide) (by decide +kernel) rfl dX9_goesRound_115 ?_
          refine lv_iload_n hx hb dX9_goesRound_118 rfl (lv_at hl 1 rfl) ?_
          obtain ⟨hg, hf⟩ := zg_some hf
          refine x_iald hx hb B 73 (by decide) (fun _ => rfl) (zin_ok hg) dX9_goesRound_119 ?_
          refine lv_iload_n hx hb dX9_goesRound_120 rfl (lv_at hl 3 rfl) ?_
          obtain ⟨r2, σ3, hu1, hf⟩ := zb_some hf
          refine x_i B (fun nb a g hs Bz => va_runS (As := [.int (σ 73 v1.toNatClampNeg), .int v3]) (rest := []) ⟨hx, hb, hml, hown, hts⟩ (c_X9_has l hu1 _ nb a g hs) (va_cwS 2 hts gX9_goesRound_X9_has rfl rfl rfl (by decide +kernel) ⟨Nat.le_of_ble_eq_true rfl, Nat.le_of_ble_eq_true rfl⟩) (z_preS Bz) rfl rfl hl.1 rfl (lv_room (Nat.le_of_ble_eq_true rfl)) dX9_goesRound_121 ⟨Nat.le_of_ble_eq_true rfl, Nat.le_of_ble_eq_true rfl⟩) (fun H locs B => ?_)
          refine lv_if_eq (tgt := 156) hx hb dX9_goesRound_124 (by decide) (fun hc => ?_) (fun hc => ?_)
          · have hf := zif_t hc hf
            refine lv_iinc (v := (v3 + (1 : Int32))) (lv' := [(3, .int (v3 + (1 : Int32))), (0, .ref (ad 65)), (1, .int v1), (2, .int v2)]) hx hb dX9_goesRound_156 hl (k := 3) rfl (zc1 (by decide)) (by decide) rfl (fun ls hl => ?_)
            refine lv_goto (tgt := 90) hx hb dX9_goesRound_159 (by decide) ?_
            exact ih _ _ _ _ _ _ _ hf B (lv_sub hl [1, 2, 3, 0] rfl)
          · have hf := zif_f hc hf
            refine lv_aload_n hx hb dX9_goesRound_127 rfl (lv_at hl 0 rfl) ?_
            refine lv_iload_n hx hb dX9_goesRound_128 rfl (lv_at hl 1 rfl) ?_
            refine lv_iload_n hx hb dX9_goesRound_129 rfl (lv_at hl 3 rfl) ?_
            obtain ⟨r5, σ6, hu4, hf⟩ := zb_some hf
            refine x_i B (fun nb a g hs Bz => va_runV (As := [.int v1, .int v3]) (rest := []) ⟨hx, hb, hml, hown, hts⟩ (c_X9_openRights l hu4 _ nb a g hs) (cwV 2 hts gX9_goesRound_X9_openRights rfl rfl rfl (by decide +kernel) ⟨Nat.le_of_ble_eq_true rfl, Nat.le_of_ble_eq_true rfl⟩) (x_preV Bz (by decide) (fun _ => rfl) rfl) rfl rfl hl.1 rfl (lv_room (Nat.le_of_ble_eq_true rfl)) dX9_goesRound_130 ⟨Nat.le_of_ble_eq_true rfl, Nat.le_of_ble_eq_true rfl⟩) (fun H locs B => ?_)
            refine lv_iconst (v := (2 : Int32)) hx hb dX9_goesRound_133 (by decide) ?_
            refine lv_iand hx hb dX9_goesRound_134 ?_
            refine lv_if_eq (tgt := 156) hx hb dX9_goesRound_135 (by decide) (fun hc => ?_) (fun hc => ?_)
            · have hf := zif_t hc hf
              refine lv_iinc (v := (v3 + (1 : Int32))) (lv' := [(3, .int (v3 + (1 : Int32))), (0, .ref (ad 65)), (1, .int v1), (2, .int v2)]) hx hb dX9_goesRound_156 hl (k := 3) rfl (zc1 (by decide)) (by decide) rfl (fun ls hl => ?_)
              refine lv_goto (tgt := 90) hx hb dX9_goesRound_159 (by decide) ?_
              exact ih _ _ _ _ _ _ _ hf B (lv_sub hl [1, 2, 3, 0] rfl)
            · have hf := zif_f hc hf
              refine lv_aload_n hx hb dX9_goesRound_138 rfl (lv_at hl 0 rfl) ?_
              refine x_getr hx hb hts hinRX9 hown B 65 19 74 (by decide) (by decide) (fun _ => rfl) rfl rfl (by decide) (by decide +kernel) rfl dX9_goesRound_139 ?_
              refine lv_aload_n hx hb dX9_goesRound_142 rfl (lv_at hl 0 rfl) ?_
              refine x_getr hx hb hts hinRX9 hown B 65 0 66 (by decide) (by decide) (fun _ => rfl) rfl rfl (by decide) (by decide +kernel) rfl dX9_goesRound_143 ?_
              refine lv_bipush (v := (51 : Int32)) hx hb dX9_goesRound_146 (by decide) ?_
              refine lv_iload_n hx hb dX9_goesRound_148 rfl (lv_at hl 3 rfl) ?_
              refine lv_iadd hx hb dX9_goesRound_149 ?_
              obtain ⟨hg, hf⟩ := zg_some hf
              refine x_iald hx hb B 66 (by decide) (fun _ => rfl) (zin_ok hg) dX9_goesRound_150 ?_
              refine lv_dup2_11 hx hb dX9_goesRound_151 rfl rfl ?_
              obtain ⟨hg, hf⟩ := zg_some hf
              refine x_iald hx hb B 74 (by decide) (fun _ => rfl) (zin_ok hg) dX9_goesRound_152 ?_
              refine lv_iload_n hx hb dX9_goesRound_153 rfl (lv_at hl 2 rfl) ?_
              refine lv_ior hx hb dX9_goesRound_154 ?_
              obtain ⟨hg, hf⟩ := zg_some hf
              refine x_iast hx hb B 74 (by decide) (by decide) (fun _ => rfl) (zin_ok hg) dX9_goesRound_155 (fun H locs B => ?_)
              refine lv_iinc (v := (v3 + (1 : Int32))) (lv' := [(3, .int (v3 + (1 : Int32))), (0, .ref (ad 65)), (1, .int v1), (2, .int v2)]) hx hb dX9_goesRound_156 hl (k := 3) rfl (zc1 (by decide)) (by decide) rfl (fun ls hl => ?_)
              refine lv_goto (tgt := 90) hx hb dX9_goesRound_159 (by decide) ?_
              exact ih _ _ _ _ _ _ _ hf B (lv_sub hl [1, 2, 3, 0] rfl)
  have L80 : ∀ (K28 : zs → Int32 → Option (Int32 × zs)) (hK28 : ∀ (σ : zs) (v1 : Int32) (H : Heap) (locs : List Loc) (ls : Array Slot), K28 σ v1 = some (r, σ') → xB A s G ad σ H locs → lv_has ls 4 [(0, .ref (ad 65)), (1, .int v1)] → W p l e (headSpec wsX9_goesRound rm_X9_goesRound).room s m ([.ref (ad 65)] : List Value).toArray below meth c H locs 0 0 (MQ below (va_Qi (fun r' (u : xV) => r' = r ∧ xQ σ' u) (xPost G ad σ' A) A) ([.ref (ad 65)] : List Value).toArray s 0 0 A) (F0 m 28 ls [])) (K38 : zs → Int32 → Int32 → Int32 → Option (Int32 × zs)) (hK38 : ∀ (σ : zs) (v1 : Int32) (v2 : Int32) (v3 : Int32) (H : Heap) (locs : List Loc) (ls : Array Slot), K38 σ v1 v2 v3 = some (r, σ') → xB A s G ad σ H locs → lv_has ls 4 [(0, .ref (ad 65)), (1, .int v1), (2, .int v2), (3, .int v3)] → W p l e (headSpec wsX9_goesRound rm_X9_goesRound).room s m ([.ref (ad 65)] : List Value).toArray below meth c H locs 0 0 (MQ below (va_Qi (fun r' (u : xV) => r' = r ∧ xQ σ' u) (xPost G ad σ' A) A) ([.ref (ad 65)] : List Value).toArray s 0 0 A) (F0 m 38 ls [])) (σ : zs) (v1 : Int32) (v3 : Int32) (s0 : Int32) (s1 : Int32) (H : Heap) (locs : List Loc) (ls : Array Slot), f_X9_goesRound_80 K28 K38 σ v1 v3 s0 s1 = some (r, σ') → xB A s G ad σ H locs → lv_has ls 4 [(0, .ref (ad 65)), (1, .int v1), (3, .int v3)] → W p l e (headSpec wsX9_goesRound rm_X9_goesRound).room s m ([.ref (ad 65)] : List Value).toArray below meth c H locs 0 0 (MQ below (va_Qi (fun r' (u : xV) => r' = r ∧ xQ σ' u) (xPost G ad σ' A) A) ([.ref (ad 65)] : List Value).toArray s 0 0 A) (F0 m 80 ls [.int s0, .int s1]) := by
    intro K28 hK28 K38 hK38 σ v1 v3 s0 s1 H locs ls hf B hl
    unfold f_X9_goesRound_80 at hf
    refine lv_ior hx hb dX9_goesRound_80 ?_
    refine lv_istore_n (lv' := [(2, .int (s1 ||| s0)), (0, .ref (ad 65)), (1, .int v1), (3, .int v3)]) hx hb dX9_goesRound_81 rfl hl (by decide) rfl (fun ls hl => ?_)
    refine lv_iinc (v := (v3 + (1 : Int32))) (lv' := [(3, .int (v3 + (1 : Int32))), (2, .int (s1 ||| s0)), (0, .ref (ad 65)), (1, .int v1)]) hx hb dX9_goesRound_82 hl (k := 3) rfl (zc1 (by decide)) (by decide) rfl (fun ls hl => ?_)
    refine lv_goto (tgt := 38) hx hb dX9_goesRound_85 (by decide) ?_
    exact hK38 _ _ _ _ _ _ _ hf B (lv_sub hl [2, 3, 1, 0] rfl)
  have L38 : ∀ (K28 : zs → Int32 → Option (Int32 × zs)) (hK28 : ∀ (σ : zs) (v1 : Int32) (H : Heap) (locs : List Loc) (ls : Array Slot), K28 σ v1 = some (r, σ') → xB A s G ad σ H locs → lv_has ls 4 [(0, .ref (ad 65)), (1, .int v1)] → W p l e (headSpec wsX9_goesRound rm_X9_goesRound).room s m ([.ref (ad 65)] : List Value).toArray below meth c H locs 0 0 (MQ below (va_Qi (fun r' (u : xV) => r' = r ∧ xQ σ' u) (xPost G ad σ' A) A) ([.ref (ad 65)] : List Value).toArray s 0 0 A) (F0 m 28 ls [])) (n : Nat) (σ : zs) (v1 : Int32) (v2 : Int32) (v3 : Int32) (H : Heap) (locs : List Loc) (ls : Array Slot), zlp3 (f_X9_goesRound_38 K28) n σ v1 v2 v3 = some (r, σ') → xB A s G ad σ H locs → lv_has ls 4 [(0, .ref (ad 65)), (1, .int v1), (2, .int v2), (3, .int v3)] → W p l e (headSpec wsX9_goesRound rm_X9_goesRound).room s m ([.ref (ad 65)] : List Value).toArray below meth c H locs 0 0 (MQ below (va_Qi (fun r' (u : xV) => r' = r ∧ xQ σ' u) (xPost G ad σ' A) A) ([.ref (ad 65)] : List Value).toArray s 0 0 A) (F0 m 38 ls []) := by
    intro K28 hK28 n
    induction n with
    | zero =>
      intro σ v1 v2 v3 H locs ls hf
      cases hf
    | succ n ih =>
      intro σ v1 v2 v3 H locs ls hf B hl
      have hf : f_X9_goesRound_38 K28 (zlp3 (f_X9_goesRound_38 K28) n) σ v1 v2 v3 = some (r, σ') := hf
      unfold f_X9_goesRound_38 at hf
      refine lv_iload_n hx hb dX9_goesRound_38 rfl (lv_at hl 3 rfl) ?_
      refine lv_aload_n hx hb dX9_goesRound_39 rfl (lv_at hl 0 rfl) ?_
      refine x_getr hx hb hts hinRX9 hown B 65 0 66 (by decide) (by decide) (fun _ => rfl) rfl rfl (by decide) (by decide +kernel) rfl dX9_goesRound_40 ?_
      refine lv_iconst (v := (1 : Int32)) hx hb dX9_goesRound_43 (by decide) ?_
      obtain ⟨hg, hf⟩ := zg_some hf
      refine x_iald hx hb B 66 (by decide) (fun _ => rfl) (zin_ok hg) dX9_goesRound_44 ?_
      refine lv_icmp_ge (tgt := 88) hx hb dX9_goesRound_45 (by decide) (fun hc => ?_) (fun hc => ?_)
      · have hf := zif_t hc hf
        refine lv_iconst (v := (0 : Int32)) hx hb dX9_goesRound_88 (by decide) ?_
        refine lv_istore_n (lv' := [(3, .int (0 : Int32)), (0, .ref (ad 65)), (1, .int v1), (2, .int v2)]) hx hb dX9_goesRound_89 rfl hl (by decide) rfl (fun ls hl => ?_)
        exact L90 _ hK28  _ _ _ _ _ _ _ _ hf B (lv_sub hl [1, 2, 3, 0] rfl)
      · have hf := zif_f hc hf
        refine lv_iload_n hx hb dX9_goesRound_48 rfl (lv_at hl 2 rfl) ?_
        refine lv_aload_n hx hb dX9_goesRound_49 rfl (lv_at hl 0 rfl) ?_
        refine x_getr hx hb hts hinRX9 hown B 65 18 73 (by decide) (by decide) (fun _ => rfl) rfl rfl (by decide) (by decide +kernel) rfl dX9_goesRound_50 ?_
        refine lv_iload_n hx hb dX9_goesRound_53 rfl (lv_at hl 1 rfl) ?_
        obtain ⟨hg, hf⟩ := zg_some hf
        refine x_iald hx hb B 73 (by decide) (fun _ => rfl) (zin_ok hg) dX9_goesRound_54 ?_
        refine lv_iload_n hx hb dX9_goesRound_55 rfl (lv_at hl 3 rfl) ?_
        obtain ⟨r8, σ9, hu7, hf⟩ := zb_some hf
        refine x_i B (fun nb a g hs Bz => va_runS (As := [.int (σ 73 v1.toNatClampNeg), .int v3]) (rest := [.int v2]) ⟨hx, hb, hml, hown, hts⟩ (c_X9_has l hu7 _ nb a g hs) (va_cwS 2 hts gX9_goesRound_X9_has rfl rfl rfl (by decide +kernel) ⟨Nat.le_of_ble_eq_true rfl, Nat.le_of_ble_eq_true rfl⟩) (z_preS Bz) rfl rfl hl.1 rfl (lv_room (Nat.le_of_ble_eq_true rfl)) dX9_goesRound_56 ⟨Nat.le_of_ble_eq_true rfl, Nat.le_of_ble_eq_true rfl⟩) (fun H locs B => ?_)
        refine lv_if_eq (tgt := 79) hx hb dX9_goesRound_59 (by decide) (fun hc => ?_) (fun hc => ?_)
        · have hf := zif_t hc hf
          refine lv_iconst (v := (0 : Int32)) hx hb dX9_goesRound_79 (by decide) ?_
          exact L80 _ hK28 _ ih  _ _ _ _ _ _ _ _ hf B (lv_sub hl [0, 1, 3] rfl)
        · have hf := zif_f hc hf
          refine lv_aload_n hx hb dX9_goesRound_62 rfl (lv_at hl 0 rfl) ?_
          refine lv_iload_n hx hb dX9_goesRound_63 rfl (lv_at hl 1 rfl) ?_
          refine lv_iload_n hx hb dX9_goesRound_64 rfl (lv_at hl 3 rfl) ?_
          obtain ⟨r11, σ12, hu10, hf⟩ := zb_some hf
          refine x_i B (fun nb a g hs Bz => va_runV (As := [.int v1, .int v3]) (rest := [.int v2]) ⟨hx, hb, hml, hown, hts⟩ (c_X9_openRights l hu10 _ nb a g hs) (cwV 2 hts gX9_goesRound_X9_openRights rfl rfl rfl (by decide +kernel) ⟨Nat.le_of_ble_eq_true rfl, Nat.le_of_ble_eq_true rfl⟩) (x_preV Bz (by decide) (fun _ => rfl) rfl) rfl rfl hl.1 rfl (lv_room (Nat.le_of_ble_eq_true rfl)) dX9_goesRound_65 ⟨Nat.le_of_ble_eq_true rfl, Nat.le_of_ble_eq_true rfl⟩) (fun H locs B => ?_)
          refine lv_iconst (v := (4 : Int32)) hx hb dX9_goesRound_68 (by decide) ?_
          refine lv_iand hx hb dX9_goesRound_69 ?_
          refine lv_if_eq (tgt := 79) hx hb dX9_goesRound_70 (by decide) (fun hc => ?_) (fun hc => ?_)
          · have hf := zif_t hc hf
            refine lv_iconst (v := (0 : Int32)) hx hb dX9_goesRound_79 (by decide) ?_
            exact L80 _ hK28 _ ih  _ _ _ _ _ _ _ _ hf B (lv_sub hl [0, 1, 3] rfl)
          · have hf := zif_f hc hf
            refine lv_iconst (v := (1 : Int32)) hx hb dX9_goesRound_73 (by decide) ?_
            refine lv_iload_n hx hb dX9_goesRound_74 rfl (lv_at hl 3 rfl) ?_
            refine lv_ishl hx hb dX9_goesRound_75 ?_
            refine lv_goto (tgt := 80) hx hb dX9_goesRound_76 (by decide) ?_
            exact L80 _ hK28 _ ih  _ _ _ _ _ _ _ _ hf B (lv_sub hl [0, 1, 3] rfl)
  have L28 : ∀ (n : Nat) (σ : zs) (v1 : Int32) (H : Heap) (locs : List Loc) (ls : Array Slot), zlp1 (f_X9_goesRound_28) n σ v1 = some (r, σ') → xB A s G ad σ H locs → lv_has ls 4 [(0, .ref (ad 65)), (1, .int v1)] → W p l e (headSpec wsX9_goesRound rm_X9_goesRound).room s m ([.ref (ad 65)] : List Value).toArray below meth c H locs 0 0 (MQ below (va_Qi (fun r' (u : xV) => r' = r ∧ xQ σ' u) (xPost G ad σ' A) A) ([.ref (ad 65)] : List Value).toArray s 0 0 A) (F0 m 28 ls []) := by
    intro n
    induction n with
    | zero =>
      intro σ v1 H locs ls hf
      cases hf
    | succ n ih =>
      intro σ v1 H locs ls hf B hl
      have hf : f_X9_goesRound_28 (zlp1 (f_X9_goesRound_28) n) σ v1 = some (r, σ') := hf
      unfold f_X9_goesRound_28 at hf
      refine lv_iload_n hx hb dX9_goesRound_28 rfl (lv_at hl 1 rfl) ?_
      refine lv_bipush (v := (6 : Int32)) hx hb dX9_goesRound_29 (by decide) ?_
      refine lv_icmp_ge (tgt := 168) hx hb dX9_goesRound_31 (by decide) (fun hc => ?_) (fun hc => ?_)
      · have hf := zif_t hc hf
        refine lv_iconst (v := (0 : Int32)) hx hb dX9_goesRound_168 (by decide) ?_
        refine lv_istore_n (lv' := [(1, .int (0 : Int32)), (0, .ref (ad 65))]) hx hb dX9_goesRound_169 rfl hl (by decide) rfl (fun ls hl => ?_)
        refine lv_iconst (v := (0 : Int32)) hx hb dX9_goesRound_170 (by decide) ?_
        refine lv_istore_n (lv' := [(2, .int (0 : Int32)), (1, .int (0 : Int32)), (0, .ref (ad 65))]) hx hb dX9_goesRound_171 rfl hl (by decide) rfl (fun ls hl => ?_)
        exact L172  _ _ _ _ _ _ _ hf B (lv_sub hl [2, 1, 0] rfl)
      · have hf := zif_f hc hf
        refine lv_iconst (v := (0 : Int32)) hx hb dX9_goesRound_34 (by decide) ?_
        refine lv_istore_n (lv' := [(2, .int (0 : Int32)), (0, .ref (ad 65)), (1, .int v1)]) hx hb dX9_goesRound_35 rfl hl (by decide) rfl (fun ls hl => ?_)
        refine lv_iconst (v := (0 : Int32)) hx hb dX9_goesRound_36 (by decide) ?_
        refine lv_istore_n (lv' := [(3, .int (0 : Int32)), (2, .int (0 : Int32)), (0, .ref (ad 65)), (1, .int v1)]) hx hb dX9_goesRound_37 rfl hl (by decide) rfl (fun ls hl => ?_)
        exact L38 _ ih  _ _ _ _ _ _ _ _ hf B (lv_sub hl [2, 3, 1, 0] rfl)
  have L2 : ∀ (n : Nat) (σ : zs) (v1 : Int32) (H : Heap) (locs : List Loc) (ls : Array Slot), zlp1 (f_X9_goesRound_2) n σ v1 = some (r, σ') → xB A s G ad σ H locs → lv_has ls 4 [(0, .ref (ad 65)), (1, .int v1)] → W p l e (headSpec wsX9_goesRound rm_X9_goesRound).room s m ([.ref (ad 65)] : List Value).toArray below meth c H locs 0 0 (MQ below (va_Qi (fun r' (u : xV) => r' = r ∧ xQ σ' u) (xPost G ad σ' A) A) ([.ref (ad 65)] : List Value).toArray s 0 0 A) (F0 m 2 ls []) := by
    intro n
    induction n with
    | zero =>
      intro σ v1 H locs ls hf
      cases hf
    | succ n ih =>
      intro σ v1 H locs ls hf B hl
      have hf : f_X9_goesRound_2 (zlp1 (f_X9_goesRound_2) n) σ v1 = some (r, σ') := hf
      unfold f_X9_goesRound_2 at hf
      refine lv_iload_n hx hb dX9_goesRound_2 rfl (lv_at hl 1 rfl) ?_
      refine lv_bipush (v := (6 : Int32)) hx hb dX9_goesRound_3 (by decide) ?_
      refine lv_icmp_ge (tgt := 26) hx hb dX9_goesRound_5 (by decide) (fun hc => ?_) (fun hc => ?_)
      · have hf := zif_t hc hf
        refine lv_iconst (v := (0 : Int32)) hx hb dX9_goesRound_26 (by decide) ?_
        refine lv_istore_n (lv' := [(1, .int (0 : Int32)), (0, .ref (ad 65))]) hx hb dX9_goesRound_27 rfl hl (by decide) rfl (fun ls hl => ?_)
        exact L28  _ _ _ _ _ _ hf B (lv_sub hl [1, 0] rfl)
      · have hf := zif_f hc hf
        refine lv_aload_n hx hb dX9_goesRound_8 rfl (lv_at hl 0 rfl) ?_
        refine x_getr hx hb hts hinRX9 hown B 65 19 74 (by decide) (by decide) (fun _ => rfl) rfl rfl (by decide) (by decide +kernel) rfl dX9_goesRound_9 ?_
        refine lv_iload_n hx hb dX9_goesRound_12 rfl (lv_at hl 1 rfl) ?_
        refine lv_aload_n hx hb dX9_goesRound_13 rfl (lv_at hl 0 rfl) ?_
        refine x_getr hx hb hts hinRX9 hown B 65 18 73 (by decide) (by decide) (fun _ => rfl) rfl rfl (by decide) (by decide +kernel) rfl dX9_goesRound_14 ?_
        refine lv_iload_n hx hb dX9_goesRound_17 rfl (lv_at hl 1 rfl) ?_
        obtain ⟨hg, hf⟩ := zg_some hf
        refine x_iald hx hb B 73 (by decide) (fun _ => rfl) (zin_ok hg) dX9_goesRound_18 ?_
        obtain ⟨hg, hf⟩ := zg_some hf
        refine x_iast hx hb B 74 (by decide) (by decide) (fun _ => rfl) (zin_ok hg) dX9_goesRound_19 (fun H locs B => ?_)
        refine lv_iinc (v := (v1 + (1 : Int32))) (lv' := [(1, .int (v1 + (1 : Int32))), (0, .ref (ad 65))]) hx hb dX9_goesRound_20 hl (k := 1) rfl (zc1 (by decide)) (by decide) rfl (fun ls hl => ?_)
        refine lv_goto (tgt := 2) hx hb dX9_goesRound_23 (by decide) ?_
        exact ih _ _ _ _ _ hf B (lv_sub hl [1, 0] rfl)
  unfold f_X9_goesRound at hf
  refine lv_iconst (v := (0 : Int32)) hx hb dX9_goesRound_0 (by decide) ?_
  refine lv_istore_n (lv' := [(1, .int (0 : Int32)), (0, .ref (ad 65))]) hx hb dX9_goesRound_1 rfl hl (by decide) rfl (fun ls hl => ?_)
  exact L2  _ _ _ _ _ _ hf B (lv_sub hl [1, 0] rfl)
