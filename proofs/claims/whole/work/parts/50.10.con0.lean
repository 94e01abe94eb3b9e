theorem dX8_needIndex_0 : decode cX8_needIndex 0 = .ok (.iload_n 0, 1) := by decide +kernel
theorem dX8_needIndex_1 : decode cX8_needIndex 1 = .ok (.ifCond .ne 14, 3) := by decide +kernel
theorem dX8_needIndex_4 : decode cX8_needIndex 4 = .ok (.new 361, 3) := by decide +kernel
theorem dX8_needIndex_7 : decode cX8_needIndex 7 = .ok (.dup, 1) := by decide +kernel
theorem dX8_needIndex_8 : decode cX8_needIndex 8 = .ok (.ldc_w 363, 3) := by decide +kernel
theorem dX8_needIndex_11 : decode cX8_needIndex 11 = .ok (.invokespecial 365, 3) := by decide +kernel
theorem dX8_needIndex_14 : decode cX8_needIndex 14 = .ok (.athrow, 1) := by decide +kernel
theorem dX8_needIndex_15 : decode cX8_needIndex 15 = .ok (.return_, 1) := by decide +kernel
def rm_X8_needIndex : Room := { frames := 8, cells := 1, slots := 6, locals := 200 }
set_option maxHeartbeats 4000000 in
set_option maxRecDepth 100000 in
theorem c_X8_needIndex (l : Launch) (hfl : l.stackTraces = false) {G : zG} {ad : Nat → Nat} {σ σ' : zs} {a0 : Int32} {ex : Nat} {r : Int32} (hf : f_X8_needIndex σ a0 = some (ex, r, σ')) : xXv l yX8_needIndex wsX8_needIndex rm_X8_needIndex G ad σ [.int a0] ex σ' := by
  intro sz nb a g hs
  refine vx_ofW (cc := cX8_needIndex) (maxL := 1) (ret := none) (by decide) rfl ?_
  intro p e s m args below meth c s₁ B hml hno hv
  obtain ⟨rfl, hsz, hv⟩ := hv
  have hx := B.exec
  have hb := B.bytes
  have hr := B.returns
  have hts := atoms_spec (ws := wsX8_needIndex) B.pre
  have hown : s.vm.findClass RX8 = some m.cls := findClass_of_methodNamed B.named
  have hlocks := B.notSynchronized
  subst hsz
  have B := xB_start hs hv
  have hl := lv_entry ([.int a0]) (n := 1) (Nat.le_of_ble_eq_true rfl)
  rw [lg_entry_eq]
  generalize (lg_sl ([.int a0]) ++ List.replicate (1 - (lg_sl ([.int a0])).length) Slot.unset).toArray = ls at hl ⊢
  have hl : lv_has ls 1 [(0, .int a0)] := hl
  generalize hAe : xA ad a s.heap.size = A at B ⊢
  unfold f_X8_needIndex at hf
  refine lv_iload_n hx hb dX8_needIndex_0 rfl (lv_at hl 0 rfl) ?_
  refine lv_if_ne (tgt := 15) hx hb dX8_needIndex_1 (by decide) (fun hc => ?_) (fun hc => ?_)
  · have hf := zif_f hc hf
    refine W.widen (k := 1) (n := 6) (Nat.le_of_ble_eq_true rfl) (Nat.le_of_ble_eq_true rfl) ?_
    exact x_xvret hx hb hr hlocks B hf dX8_needIndex_15
  · have hf := zif_t hc hf
    cases hf
    refine x_cs B (fun nb a g hs B => ?_)
    obtain ⟨sa, hstr⟩ := B.2.2.2.2.2.text1
    have hat : ∀ w ∈ vx_atS RX8 365 "java/lang/IndexOutOfBoundsException" ["java/lang/RuntimeException", "java/lang/Exception"], w.before ([.int a0] : List Value).toArray s = true := vx_hat (B := [.castable "java/lang/IndexOutOfBoundsException" "java/lang/IndexOutOfBoundsException", .declares (Bundle.initS "java/lang/RuntimeException"), .declares (Bundle.initS "java/lang/Exception"), .declares (Bundle.initS Bundle.tN)]) (fun w h => hts w (List.mem_cons_of_mem _ (List.mem_append_right _ h))) (by decide +kernel) (vx_c ((B.2.2.2.2.2.castable (by decide +kernel)).use rfl) (vx_c ((B.2.2.2.2.2.decl (by decide +kernel)).use rfl) (vx_c ((B.2.2.2.2.2.decl (by decide +kernel)).use rfl) (vx_c ((B.2.2.2.2.2.decl (by decide +kernel)).use rfl) vx_n))))
    refine vx_throwSW (names := ["java/lang/RuntimeException", "java/lang/Exception"]) hx hb hfl hown (by decide +kernel) (by decide +kernel) (hts (.classLink RX8 361 "java/lang/IndexOutOfBoundsException") (by decide +kernel)) (hts (.initialized "java/lang/IndexOutOfBoundsException") (by decide +kernel)) hstr hat (by decide +kernel) B.2.2.2.2.2.unas B.2.2.2.2.2.supp B.2.2.2.2.1 (hl.1.trans hml.symm) dX8_needIndex_4 dX8_needIndex_7 dX8_needIndex_8 dX8_needIndex_11 dX8_needIndex_14 (fun z hz => absurd (hno z hz) id) (by decide) (by decide) (Nat.le_of_ble_eq_true rfl) (Nat.le_of_ble_eq_true rfl) hlocks (fun t hal hsz hq => ⟨(nb, a, g), hs, ⟨by decide, rfl, ?_, B.2.2.2.1⟩, ?_⟩) B.2.2.2.2.1.2.2 (Nat.le_of_ble_eq_true rfl) (Nat.le_of_ble_eq_true rfl)
    · exact B.2.2.1.kept (fun k q hk => hq _ (B.2.2.1 k q hk).lt)
    · exact ⟨hsz, fun q h1 h2 => hq q h1⟩
theorem dX8_needArgument_0 : decode cX8_needArgument 0 = .ok (.iload_n 0, 1) := by decide +kernel
theorem dX8_needArgument_1 : decode cX8_needArgument 1 = .ok (.ifCond .ne 14, 3) := by decide +kernel
theorem dX8_needArgument_4 : decode cX8_needArgument 4 = .ok (.new 368, 3) := by decide +kernel
theorem dX8_needArgument_7 : decode cX8_needArgument 7 = .ok (.dup, 1) := by decide +kernel
theorem dX8_needArgument_8 : decode cX8_needArgument 8 = .ok (.ldc_w 370, 3) := by decide +kernel
theorem dX8_needArgument_11 : decode cX8_needArgument 11 = .ok (.invokespecial 372, 3) := by decide +kernel
theorem dX8_needArgument_14 : decode cX8_needArgument 14 = .ok (.athrow, 1) := by decide +kernel
theorem dX8_needArgument_15 : decode cX8_needArgument 15 = .ok (.return_, 1) := by decide +kernel
def rm_X8_needArgument : Room := { frames := 8, cells := 1, slots := 6, locals := 200 }
set_option maxHeartbeats 4000000 in
set_option maxRecDepth 100000 in
theorem c_X8_needArgument (l : Launch) (hfl : l.stackTraces = false) {G : zG} {ad : Nat → Nat} {σ σ' : zs} {a0 : Int32} {ex : Nat} {r : Int32} (hf : f_X8_needArgument σ a0 = some (ex, r, σ')) : xXv l yX8_needArgument wsX8_needArgument rm_X8_needArgument G ad σ [.int a0] ex σ' := by
  intro sz nb a g hs
  refine vx_ofW (cc := cX8_needArgument) (maxL := 1) (ret := none) (by decide) rfl ?_
  intro p e s m args below meth c s₁ B hml hno hv
  obtain ⟨rfl, hsz, hv⟩ := hv
  have hx := B.exec
  have hb := B.bytes
  have hr := B.returns
  have hts := atoms_spec (ws := wsX8_needArgument) B.pre
  have hown : s.vm.findClass RX8 = some m.cls := findClass_of_methodNamed B.named
  have hlocks := B.notSynchronized
  subst hsz
  have B := xB_start hs hv
  have hl := lv_entry ([.int a0]) (n := 1) (Nat.le_of_ble_eq_true rfl)
  rw [lg_entry_eq]
  generalize (lg_sl ([.int a0]) ++ List.replicate (1 - (lg_sl ([.int a0])).length) Slot.unset).toArray = ls at hl ⊢
  have hl : lv_has ls 1 [(0, .int a0)] := hl
  generalize hAe : xA ad a s.heap.size = A at B ⊢
  unfold f_X8_needArgument at hf
  refine lv_iload_n hx hb dX8_needArgument_0 rfl (lv_at hl 0 rfl) ?_
  refine lv_if_ne (tgt := 15) hx hb dX8_needArgument_1 (by decide) (fun hc => ?_) (fun hc => ?_)
  · have hf := zif_f hc hf
    refine W.widen (k := 1) (n := 6) (Nat.le_of_ble_eq_true rfl) (Nat.le_of_ble_eq_true rfl) ?_
    exact x_xvret hx hb hr hlocks B hf dX8_needArgument_15
  · have hf := zif_t hc hf
    cases hf
    refine x_cs B (fun nb a g hs B => ?_)
    obtain ⟨sa, hstr⟩ := B.2.2.2.2.2.text2
    have hat : ∀ w ∈ vx_atS RX8 372 "java/lang/IllegalArgumentException" ["java/lang/RuntimeException", "java/lang/Exception"], w.before ([.int a0] : List Value).toArray s = true := vx_hat (B := [.castable "java/lang/IllegalArgumentException" "java/lang/IllegalArgumentException", .declares (Bundle.initS "java/lang/RuntimeException"), .declares (Bundle.initS "java/lang/Exception"), .declares (Bundle.initS Bundle.tN)]) (fun w h => hts w (List.mem_cons_of_mem _ (List.mem_append_right _ h))) (by decide +kernel) (vx_c ((B.2.2.2.2.2.castable (by decide +kernel)).use rfl) (vx_c ((B.2.2.2.2.2.decl (by decide +kernel)).use rfl) (vx_c ((B.2.2.2.2.2.decl (by decide +kernel)).use rfl) (vx_c ((B.2.2.2.2.2.decl (by decide +kernel)).use rfl) vx_n))))
    refine vx_throwSW (names := ["java/lang/RuntimeException", "java/lang/Exception"]) hx hb hfl hown (by decide +kernel) (by decide +kernel) (hts (.classLink RX8 368 "java/lang/IllegalArgumentException") (by decide +kernel)) (hts (.initialized "java/lang/IllegalArgumentException") (by decide +kernel)) hstr hat (by decide +kernel) B.2.2.2.2.2.unas B.2.2.2.2.2.supp B.2.2.2.2.1 (hl.1.trans hml.symm) dX8_needArgument_4 dX8_needArgument_7 dX8_needArgument_8 dX8_needArgument_11 dX8_needArgument_14 (fun z hz => absurd (hno z hz) id) (by decide) (by decide) (Nat.le_of_ble_eq_true rfl) (Nat.le_of_ble_eq_true rfl) hlocks (fun t hal hsz hq => ⟨(nb, a, g), hs, ⟨by decide, rfl, ?_, B.2.2.2.1⟩, ?_⟩) B.2.2.2.2.1.2.2 (Nat.le_of_ble_eq_true rfl) (Nat.le_of_ble_eq_true rfl)
    · exact B.2.2.1.kept (fun k q hk => hq _ (B.2.2.1 k q hk).lt)
    · exact ⟨hsz, fun q h1 h2 => hq q h1⟩
theorem dX8_needState_0 : decode cX8_needState 0 = .ok (.iload_n 0, 1) := by decide +kernel
theorem dX8_needState_1 : decode cX8_needState 1 = .ok (.ifCond .ne 14, 3) := by decide +kernel
theorem dX8_needState_4 : decode cX8_needState 4 = .ok (.new 373, 3) := by decide +kernel
theorem dX8_needState_7 : decode cX8_needState 7 = .ok (.dup, 1) := by decide +kernel
theorem dX8_needState_8 : decode cX8_needState 8 = .ok (.ldc_w 375, 3) := by decide +kernel
theorem dX8_needState_11 : decode cX8_needState 11 = .ok (.invokespecial 377, 3) := by decide +kernel
theorem dX8_needState_14 : decode cX8_needState 14 = .ok (.athrow, 1) := by decide +kernel
theorem dX8_needState_15 : decode cX8_needState 15 = .ok (.return_, 1) := by decide +kernel
def rm_X8_needState : Room := { frames := 8, cells := 1, slots := 6, locals := 200 }
set_option maxHeartbeats 4000000 in
set_option maxRecDepth 100000 in
theorem c_X8_needState (l : Launch) (hfl : l.stackTraces = false) {G : zG} {ad : Nat → Nat} {σ σ' : zs} {a0 : Int32} {ex : Nat} {r : Int32} (hf : f_X8_needState σ a0 = some (ex, r, σ')) : xXv l yX8_needState wsX8_needState rm_X8_needState G ad σ [.int a0] ex σ' := by
  intro sz nb a g hs
  refine vx_ofW (cc := cX8_needState) (maxL := 1) (ret := none) (by decide) rfl ?_
  intro p e s m args below meth c s₁ B hml hno hv
  obtain ⟨rfl, hsz, hv⟩ := hv
  have hx := B.exec
  have hb := B.bytes
  have hr := B.returns
  have hts := atoms_spec (ws := wsX8_needState) B.pre
  have hown : s.vm.findClass RX8 = some m.cls := findClass_of_methodNamed B.named
  have hlocks := B.notSynchronized
  subst hsz
  have B := xB_start hs hv
  have hl := lv_entry ([.int a0]) (n := 1) (Nat.le_of_ble_eq_true rfl)
  rw [lg_entry_eq]
  generalize (lg_sl ([.int a0]) ++ List.replicate (1 - (lg_sl ([.int a0])).length) Slot.unset).toArray = ls at hl ⊢
  have hl : lv_has ls 1 [(0, .int a0)] := hl
  generalize hAe : xA ad a s.heap.size = A at B ⊢
  unfold f_X8_needState at hf
  refine lv_iload_n hx hb dX8_needState_0 rfl (lv_at hl 0 rfl) ?_
  refine lv_if_ne (tgt := 15) hx hb dX8_needState_1 (by decide) (fun hc => ?_) (fun hc => ?_)
  · have hf := zif_f hc hf
    refine W.widen (k := 1) (n := 6) (Nat.le_of_ble_eq_true rfl) (Nat.le_of_ble_eq_true rfl) ?_
    exact x_xvret hx hb hr hlocks B hf dX8_needState_15
  · have hf := zif_t hc hf
    cases hf
    refine x_cs B (fun nb a g hs B => ?_)
    obtain ⟨sa, hstr⟩ := B.2.2.2.2.2.text3
    have hat : ∀ w ∈ vx_atS RX8 377 "java/lang/IllegalStateException" ["java/lang/RuntimeException", "java/lang/Exception"], w.before ([.int a0] : List Value).toArray s = true := vx_hat (B := [.castable "java/lang/IllegalStateException" "java/lang/IllegalStateException", .declares (Bundle.initS "java/lang/RuntimeException"), .declares (Bundle.initS "java/lang/Exception"), .declares (Bundle.initS Bundle.tN)]) (fun w h => hts w (List.mem_cons_of_mem _ (List.mem_append_right _ h))) (by decide +kernel) (vx_c ((B.2.2.2.2.2.castable (by decide +kernel)).use rfl) (vx_c ((B.2.2.2.2.2.decl (by decide +kernel)).use rfl) (vx_c ((B.2.2.2.2.2.decl (by decide +kernel)).use rfl) (vx_c ((B.2.2.2.2.2.decl (by decide +kernel)).use rfl) vx_n))))
    refine vx_throwSW (names := ["java/lang/RuntimeException", "java/lang/Exception"]) hx hb hfl hown (by decide +kernel) (by decide +kernel) (hts (.classLink RX8 373 "java/lang/IllegalStateException") (by decide +kernel)) (hts (.initialized "java/lang/IllegalStateException") (by decide +kernel)) hstr hat (by decide +kernel) B.2.2.2.2.2.unas B.2.2.2.2.2.supp B.2.2.2.2.1 (hl.1.trans hml.symm) dX8_needState_4 dX8_needState_7 dX8_needState_8 dX8_needState_11 dX8_needState_14 (fun z hz => absurd (hno z hz) id) (by decide) (by decide) (Nat.le_of_ble_eq_true rfl) (Nat.le_of_ble_eq_true rfl) hlocks (fun t hal hsz hq => ⟨(nb, a, g), hs, ⟨by decide, rfl, ?_, B.2.2.2.1⟩, ?_⟩) B.2.2.2.2.1.2.2 (Nat.le_of_ble_eq_true rfl) (Nat.le_of_ble_eq_true rfl)
    · exact B.2.2.1.kept (fun k q hk => hq _ (B.2.2.1 k q hk).lt)
    · exact ⟨hsz, fun q h1 h2 => hq q h1⟩
theorem dX8_needPermission_0 : decode cX8_needPermission 0 = .ok (.iload_n 0, 1) := by decide +kernel
theorem dX8_needPermission_1 : decode cX8_needPermission 1 = .ok (.ifCond .ne 14, 3) := by decide +kernel
theorem dX8_needPermission_4 : decode cX8_needPermission 4 = .ok (.new 378, 3) := by decide +kernel
theorem dX8_needPermission_7 : decode cX8_needPermission 7 = .ok (.dup, 1) := by decide +kernel
theorem dX8_needPermission_8 : decode cX8_needPermission 8 = .ok (.ldc_w 380, 3) := by decide +kernel
theorem dX8_needPermission_11 : decode cX8_needPermission 11 = .ok (.invokespecial 382, 3) := by decide +kernel
theorem dX8_needPermission_14 : decode cX8_needPermission 14 = .ok (.athrow, 1) := by decide +kernel
theorem dX8_needPermission_15 : decode cX8_needPermission 15 = .ok (.return_, 1) := by decide +kernel
def rm_X8_needPermission : Room := { frames := 8, cells := 1, slots := 6, locals := 200 }
set_option maxHeartbeats 4000000 in
set_option maxRecDepth 100000 in
theorem c_X8_needPermission (l : Launch) (hfl : l.stackTraces = false) {G : zG} {ad : Nat → Nat} {σ σ' : zs} {a0 : Int32} {ex : Nat} {r : Int32} (hf : f_X8_needPermission σ a0 = some (ex, r, σ')) : xXv l yX8_needPermission wsX8_needPermission rm_X8_needPermission G ad σ [.int a0] ex σ' := by
  intro sz nb a g hs
  refine vx_ofW (cc := cX8_needPermission) (maxL := 1) (ret := none) (by decide) rfl ?_
  intro p e s m args below meth c s₁ B hml hno hv
  obtain ⟨rfl, hsz, hv⟩ := hv
  have hx := B.exec
  have hb := B.bytes
  have hr := B.returns
  have hts := atoms_spec (ws := wsX8_needPermission) B.pre
  have hown : s.vm.findClass RX8 = some m.cls := findClass_of_methodNamed B.named
  have hlocks := B.notSynchronized
  subst hsz
  have B := xB_start hs hv
  have hl := lv_entry ([.int a0]) (n := 1) (Nat.le_of_ble_eq_true rfl)
  rw [lg_entry_eq]
  generalize (lg_sl ([.int a0]) ++ List.replicate (1 - (lg_sl ([.int a0])).length) Slot.unset).toArray = ls at hl ⊢
  have hl : lv_has ls 1 [(0, .int a0)] := hl
  generalize hAe : xA ad a s.heap.size = A at B ⊢
  unfold f_X8_needPermission at hf
  refine lv_iload_n hx hb dX8_needPermission_0 rfl (lv_at hl 0 rfl) ?_
  refine lv_if_ne (tgt := 15) hx hb dX8_needPermission_1 (by decide) (fun hc => ?_) (fun hc => ?_)
  · have hf := zif_f hc hf
    refine W.widen (k := 1) (n := 6) (Nat.le_of_ble_eq_true rfl) (Nat.le_of_ble_eq_true rfl) ?_
    exact x_xvret hx hb hr hlocks B hf dX8_needPermission_15
  · have hf := zif_t hc hf
    cases hf
    refine x_cs B (fun nb a g hs B => ?_)
    obtain ⟨sa, hstr⟩ := B.2.2.2.2.2.text4
    have hat : ∀ w ∈ vx_atS RX8 382 "java/lang/UnsupportedOperationException" ["java/lang/RuntimeException", "java/lang/Exception"], w.before ([.int a0] : List Value).toArray s = true := vx_hat (B := [.castable "java/lang/UnsupportedOperationException" "java/lang/UnsupportedOperationException", .declares (Bundle.initS "java/lang/RuntimeException"), .declares (Bundle.initS "java/lang/Exception"), .declares (Bundle.initS Bundle.tN)]) (fun w h => hts w (List.mem_cons_of_mem _ (List.mem_append_right _ h))) (by decide +kernel) (vx_c ((B.2.2.2.2.2.castable (by decide +kernel)).use rfl) (vx_c ((B.2.2.2.2.2.decl (by decide +kernel)).use rfl) (vx_c ((B.2.2.2.2.2.decl (by decide +kernel)).use rfl) (vx_c ((B.2.2.2.2.2.decl (by decide +kernel)).use rfl) vx_n))))
    refine vx_throwSW (names := ["java/lang/RuntimeException", "java/lang/Exception"]) hx hb hfl hown (by decide +kernel) (by decide +kernel) (hts (.classLink RX8 378 "java/lang/UnsupportedOperationException") (by decide +kernel)) (hts (.initialized "java/lang/UnsupportedOperationException") (by decide +kernel)) hstr hat (by decide +kernel) B.2.2.2.2.2.unas B.2.2.2.2.2.supp B.2.2.2.2.1 (hl.1.trans hml.symm) dX8_needPermission_4 dX8_needPermission_7 dX8_needPermission_8 dX8_needPermission_11 dX8_needPermission_14 (fun z hz => absurd (hno z hz) id) (by decide) (by decide) (Nat.le_of_ble_eq_true rfl) (Nat.le_of_ble_eq_true rfl) hlocks (fun t hal hsz hq => ⟨(nb, a, g), hs, ⟨by decide, rfl, ?_, B.2.2.2.1⟩, ?_⟩) B.2.2.2.2.1.2.2 (Nat.le_of_ble_eq_true rfl) (Nat.le_of_ble_eq_true rfl)
    · exact B.2.2.1.kept (fun k q hk => hq _ (B.2.2.1 k q hk).lt)
    · exact ⟨hsz, fun q h1 h2 => hq q h1⟩
theorem dX8_needElement_0 : decode cX8_needElement 0 = .ok (.iload_n 0, 1) := by decide +kernel
theorem dX8_needElement_1 : decode cX8_needElement 1 = .ok (.ifCond .ne 14, 3) := by decide +kernel
theorem dX8_needElement_4 : decode cX8_needElement 4 = .ok (.new 383, 3) := by decide +kernel
theorem dX8_needElement_7 : decode cX8_needElement 7 = .ok (.dup, 1) := by decide +kernel
theorem dX8_needElement_8 : decode cX8_needElement 8 = .ok (.ldc_w 385, 3) := by decide +kernel
theorem dX8_needElement_11 : decode cX8_needElement 11 = .ok (.invokespecial 387, 3) := by decide +kernel
theorem dX8_needElement_14 : decode cX8_needElement 14 = .ok (.athrow, 1) := by decide +kernel
theorem dX8_needElement_15 : decode cX8_needElement 15 = .ok (.return_, 1) := by decide +kernel
def rm_X8_needElement : Room := { frames := 8, cells := 1, slots := 6, locals := 200 }
set_option maxHeartbeats 4000000 in
set_option maxRecDepth 100000 in
theorem c_X8_needElement (l : Launch) (hfl : l.stackTraces = false) {G : zG} {ad : Nat → Nat} {σ σ' : zs} {a0 : Int32} {ex : Nat} {r : Int32} (hf : f_X8_needElement σ a0 = some (ex, r, σ')) : xXv l yX8_needElement wsX8_needElement rm_X8_needElement G ad σ [.int a0] ex σ' := by
  intro sz nb a g hs
  refine vx_ofW (cc := cX8_needElement) (maxL := 1) (ret := none) (by decide) rfl ?_
  intro p e s m args below meth c s₁ B hml hno hv
  obtain ⟨rfl, hsz, hv⟩ := hv
  have hx := B.exec
  have hb := B.bytes
  have hr := B.returns
  have hts := atoms_spec (ws := wsX8_needElement) B.pre
  have hown : s.vm.findClass RX8 = some m.cls := findClass_of_methodNamed B.named
  have hlocks := B.notSynchronized
  subst hsz
  have B := xB_start hs hv
  have hl := lv_entry ([.int a0]) (n := 1) (Nat.le_of_ble_eq_true rfl)
  rw [lg_entry_eq]
  generalize (lg_sl ([.int a0]) ++ List.replicate (1 - (lg_sl ([.int a0])).length) Slot.unset).toArray = ls at hl ⊢
  have hl : lv_has ls 1 [(0, .int a0)] := hl
  generalize hAe : xA ad a s.heap.size = A at B ⊢
  unfold f_X8_needElement at hf
  refine lv_iload_n hx hb dX8_needElement_0 rfl (lv_at hl 0 rfl) ?_
  refine lv_if_ne (tgt := 15) hx hb dX8_needElement_1 (by decide) (fun hc => ?_) (fun hc => ?_)
  · have hf := zif_f hc hf
    refine W.widen (k := 1) (n := 6) (Nat.le_of_ble_eq_true rfl) (Nat.le_of_ble_eq_true rfl) ?_
    exact x_xvret hx hb hr hlocks B hf dX8_needElement_15
  · have hf := zif_t hc hf
    cases hf
    refine x_cs B (fun nb a g hs B => ?_)
    obtain ⟨sa, hstr⟩ := B.2.2.2.2.2.text5
    have hat : ∀ w ∈ vx_atX RX8 387 "java/util/NoSuchElementException" 13 prog_39_method_4_code ["java/lang/RuntimeException", "java/lang/Exception"], w.before ([.int a0] : List Value).toArray s = true := vx_hat (B := [.castable "java/util/NoSuchElementException" "java/util/NoSuchElementException", .declares (Bundle.initS "java/lang/RuntimeException"), .declares (Bundle.initS "java/lang/Exception"), .declares (Bundle.initS Bundle.tN)]) (fun w h => hts w (List.mem_cons_of_mem _ (List.mem_append_right _ h))) (by decide +kernel) (vx_c ((B.2.2.2.2.2.castable (by decide +kernel)).use rfl) (vx_c ((B.2.2.2.2.2.decl (by decide +kernel)).use rfl) (vx_c ((B.2.2.2.2.2.decl (by decide +kernel)).use rfl) (vx_c ((B.2.2.2.2.2.decl (by decide +kernel)).use rfl) vx_n))))
    refine vx_throwSWX (names := ["java/lang/RuntimeException", "java/lang/Exception"]) (ix := 13) (rx := prog_39_method_4_code) hx hb hfl (by decide +kernel) (by decide +kernel) (by decide +kernel) (by decide +kernel) hown (by decide +kernel) (by decide +kernel) (hts (.classLink RX8 383 "java/util/NoSuchElementException") (by decide +kernel)) (hts (.initialized "java/util/NoSuchElementException") (by decide +kernel)) hstr hat (by decide +kernel) B.2.2.2.2.2.unas B.2.2.2.2.2.supp B.2.2.2.2.1 (hl.1.trans hml.symm) dX8_needElement_4 dX8_needElement_7 dX8_needElement_8 dX8_needElement_11 dX8_needElement_14 (fun z hz => absurd (hno z hz) id) (by decide) (by decide) (Nat.le_of_ble_eq_true rfl) (Nat.le_of_ble_eq_true rfl) hlocks (fun t hal hsz hq => ⟨(nb, a, g), hs, ⟨by decide, rfl, ?_, B.2.2.2.1⟩, ?_⟩) B.2.2.2.2.1.2.2 (Nat.le_of_ble_eq_true rfl) (Nat.le_of_ble_eq_true rfl)
    · exact B.2.2.1.kept (fun k q hk => hq _ (B.2.2.1 k q hk).lt)
    · exact ⟨hsz, fun q h1 h2 => hq q h1⟩
theorem dJ3_checkIndex_8e157_0 : decode cJ3_checkIndex_8e157 0 = .ok (.iload_n 0, 1) := by decide +kernel
theorem dJ3_checkIndex_8e157_1 : decode cJ3_checkIndex_8e157 1 = .ok (.ifCond .lt 8, 3) := by decide +kernel
theorem dJ3_checkIndex_8e157_4 : decode cJ3_checkIndex_8e157 4 = .ok (.iload_n 0, 1) := by decide +kernel
theorem dJ3_checkIndex_8e157_5 : decode cJ3_checkIndex_8e157 5 = .ok (.iload_n 1, 1) := by decide +kernel
theorem dJ3_checkIndex_8e157_6 : decode cJ3_checkIndex_8e157 6 = .ok (.if_icmp .lt 10, 3) := by decide +kernel
theorem dJ3_checkIndex_8e157_16 : decode cJ3_checkIndex_8e157 16 = .ok (.iload_n 0, 1) := by decide +kernel
theorem dJ3_checkIndex_8e157_17 : decode cJ3_checkIndex_8e157 17 = .ok (.ireturn, 1) := by decide +kernel
def rm_J3_checkIndex_8e157 : Room := { frames := 1, cells := 0, slots := 0, locals := 16 }
set_option maxHeartbeats 4000000 in
set_option maxRecDepth 100000 in
theorem c_J3_checkIndex_8e157_n (l : Launch) {G : zG} {ad : Nat → Nat} {σ σ' : zs} {a0 a1 : Int32} {r : Int32} (hf : f_J3_checkIndex_8e157 σ a0 a1 = some (r, σ')) : xMi l yJ3_checkIndex_8e157 wsJ3_checkIndex_8e157 rm_J3_checkIndex_8e157 G ad σ [.int a0, .int a1, .null] r σ' := by
  intro sz nb a g hs
  refine Met.ofW (cc := cJ3_checkIndex_8e157) (maxL := 3) (ret := (some .int)) (by decide) rfl ?_
  intro p e s m args below meth c s₁ B hml hv
  obtain ⟨rfl, hsz, hv⟩ := hv
  have hx := B.exec
  have hb := B.bytes
  have hr := B.returns
  have hlocks := B.notSynchronized
  subst hsz
  have B := xB_start hs hv
  have hl := lv_entry ([.int a0, .int a1, .null]) (n := 3) (Nat.le_of_ble_eq_true rfl)
  rw [lg_entry_eq]
  generalize (lg_sl ([.int a0, .int a1, .null]) ++ List.replicate (3 - (lg_sl ([.int a0, .int a1, .null])).length) Slot.unset).toArray = ls at hl ⊢
  have hl : lv_has ls 3 [(0, .int a0), (1, .int a1), (2, .null)] := hl
  generalize hAe : xA ad a s.heap.size = A at B ⊢
  unfold f_J3_checkIndex_8e157 at hf
  obtain ⟨hg, hf⟩ := zg_some hf
  simp only [Bool.and_eq_true, decide_eq_true_eq] at hg
  refine lv_iload_n hx hb dJ3_checkIndex_8e157_0 rfl (lv_at hl 0 rfl) ?_
  refine lv_if_lt (tgt := 9) hx hb dJ3_checkIndex_8e157_1 (by decide) (fun hc => absurd hc (z_not_lt hg.1)) (fun hc => ?_)
  refine lv_iload_n hx hb dJ3_checkIndex_8e157_4 rfl (lv_at hl 0 rfl) ?_
  refine lv_iload_n hx hb dJ3_checkIndex_8e157_5 rfl (lv_at hl 1 rfl) ?_
  refine lv_icmp_lt (tgt := 16) hx hb dJ3_checkIndex_8e157_6 (by decide) (fun hc => ?_) (fun hc => absurd hg.2 hc)
  refine lv_iload_n hx hb dJ3_checkIndex_8e157_16 rfl (lv_at hl 0 rfl) ?_
  exact x_iret hx hb hr rfl hlocks B hf dJ3_checkIndex_8e157_17
set_option maxHeartbeats 4000000 in
set_option maxRecDepth 100000 in
theorem c_J3_checkIndex_8e157_r (l : Launch) {G : zG} {ad : Nat → Nat} {σ σ' : zs} {a0 a1 : Int32} {t9 : Nat} {r : Int32} (hf : f_J3_checkIndex_8e157 σ a0 a1 = some (r, σ')) : xMi l yJ3_checkIndex_8e157 wsJ3_checkIndex_8e157 rm_J3_checkIndex_8e157 G ad σ [.int a0, .int a1, .ref t9] r σ' := by
  intro sz nb a g hs
  refine Met.ofW (cc := cJ3_checkIndex_8e157) (maxL := 3) (ret := (some .int)) (by decide) rfl ?_
  intro p e s m args below meth c s₁ B hml hv
  obtain ⟨rfl, hsz, hv⟩ := hv
  have hx := B.exec
  have hb := B.bytes
  have hr := B.returns
  have hlocks := B.notSynchronized
  subst hsz
  have B := xB_start hs hv
  have hl := lv_entry ([.int a0, .int a1, .ref t9]) (n := 3) (Nat.le_of_ble_eq_true rfl)
  rw [lg_entry_eq]
  generalize (lg_sl ([.int a0, .int a1, .ref t9]) ++ List.replicate (3 - (lg_sl ([.int a0, .int a1, .ref t9])).length) Slot.unset).toArray = ls at hl ⊢
  have hl : lv_has ls 3 [(0, .int a0), (1, .int a1), (2, .ref t9)] := hl
  generalize hAe : xA ad a s.heap.size = A at B ⊢
  unfold f_J3_checkIndex_8e157 at hf
  obtain ⟨hg, hf⟩ := zg_some hf
  simp only [Bool.and_eq_true, decide_eq_true_eq] at hg
  refine lv_iload_n hx hb dJ3_checkIndex_8e157_0 rfl (lv_at hl 0 rfl) ?_
  refine lv_if_lt (tgt := 9) hx hb dJ3_checkIndex_8e157_1 (by decide) (fun hc => absurd hc (z_not_lt hg.1)) (fun hc => ?_)
  refine lv_iload_n hx hb dJ3_checkIndex_8e157_4 rfl (lv_at hl 0 rfl) ?_
  refine lv_iload_n hx hb dJ3_checkIndex_8e157_5 rfl (lv_at hl 1 rfl) ?_
  refine lv_icmp_lt (tgt := 16) hx hb dJ3_checkIndex_8e157_6 (by decide) (fun hc => ?_) (fun hc => absurd hg.2 hc)
  refine lv_iload_n hx hb dJ3_checkIndex_8e157_16 rfl (lv_at hl 0 rfl) ?_
  exact x_iret hx hb hr rfl hlocks B hf dJ3_checkIndex_8e157_17
theorem dX0_holdersOfPart_0 : decode cX0_holdersOfPart 0 = .ok (.iload_n 1, 1) := by decide +kernel
theorem dX0_holdersOfPart_1 : decode cX0_holdersOfPart 1 = .ok (.ifCond .eq 10, 3) := by decide +kernel
theorem dX0_holdersOfPart_4 : decode cX0_holdersOfPart 4 = .ok (.aload_n 0, 1) := by decide +kernel
theorem dX0_holdersOfPart_5 : decode cX0_holdersOfPart 5 = .ok (.getfield 15, 3) := by decide +kernel
theorem dX0_holdersOfPart_8 : decode cX0_holdersOfPart 8 = .ok (.goto 7, 3) := by decide +kernel
theorem dX0_holdersOfPart_11 : decode cX0_holdersOfPart 11 = .ok (.aload_n 0, 1) := by decide +kernel
theorem dX0_holdersOfPart_12 : decode cX0_holdersOfPart 12 = .ok (.getfield 9, 3) := by decide +kernel
theorem dX0_holdersOfPart_15 : decode cX0_holdersOfPart 15 = .ok (.areturn, 1) := by decide +kernel
def rm_X0_holdersOfPart : Room := { frames := 1, cells := 0, slots := 0, locals := 16 }
set_option maxHeartbeats 4000000 in
set_option maxRecDepth 100000 in
theorem c_X0_holdersOfPart_0 (l : Launch) {G : zG} {ad : Nat → Nat} {σ : zs} {a1 : Int32} (h : a1 = 0) : xMr l yX0_holdersOfPart wsX0_holdersOfPart rm_X0_holdersOfPart G ad σ [.ref (ad 14), .int a1] 15 σ := by
  intro sz nb a g hs
  refine Met.ofW (cc := cX0_holdersOfPart) (maxL := 2) (ret := (some (.array .int))) (by decide) rfl ?_
  intro p e s m args below meth c s₁ B hml hv
  obtain ⟨rfl, hsz, hv⟩ := hv
  have hx := B.exec
  have hb := B.bytes
  have hr := B.returns
  have hts := atoms_spec (ws := wsX0_holdersOfPart) B.pre
  have hown : s.vm.findClass RX0 = some m.cls := findClass_of_methodNamed B.named
  have hlocks := B.notSynchronized
  subst hsz
  have B := xB_start hs hv
  have hinRX0 : ∀ w ∈ wsX00, w ∈ wsX0_holdersOfPart := by decide +kernel
  have hl := lv_entry ([.ref (ad 14), .int a1]) (n := 2) (Nat.le_of_ble_eq_true rfl)
  rw [lg_entry_eq]
  generalize (lg_sl ([.ref (ad 14), .int a1]) ++ List.replicate (2 - (lg_sl ([.ref (ad 14), .int a1])).length) Slot.unset).toArray = ls at hl ⊢
  have hl : lv_has ls 2 [(0, .ref (ad 14)), (1, .int a1)] := hl
  generalize hAe : xA ad a s.heap.size = A at B ⊢
  have hf : some ((0 : Int32), σ) = some ((0 : Int32), σ) := rfl
  refine lv_iload_n hx hb dX0_holdersOfPart_0 rfl (lv_at hl 1 rfl) ?_
  refine lv_if_eq (tgt := 11) hx hb dX0_holdersOfPart_1 (by decide) (fun hc => ?_) (fun hc => ?_)
  · refine lv_aload_n hx hb dX0_holdersOfPart_11 rfl (lv_at hl 0 rfl) ?_
    refine x_getr hx hb hts hinRX0 hown B 14 1 15 (by decide) (by decide) (fun _ => rfl) rfl rfl (by decide) (by decide +kernel) rfl dX0_holdersOfPart_12 ?_
    exact x_aret hx hb hr (Or.inr ⟨_, rfl⟩) hlocks B hf dX0_holdersOfPart_15
  · exact absurd h hc
set_option maxHeartbeats 4000000 in
set_option maxRecDepth 100000 in
theorem c_X0_holdersOfPart_1 (l : Launch) {G : zG} {ad : Nat → Nat} {σ : zs} {a1 : Int32} (h : ¬ a1 = 0) : xMr l yX0_holdersOfPart wsX0_holdersOfPart rm_X0_holdersOfPart G ad σ [.ref (ad 14), .int a1] 16 σ := by
  intro sz nb a g hs
  refine Met.ofW (cc := cX0_holdersOfPart) (maxL := 2) (ret := (some (.array .int))) (by decide) rfl ?_
  intro p e s m args below meth c s₁ B hml hv
  obtain ⟨rfl, hsz, hv⟩ := hv
  have hx := B.exec
  have hb := B.bytes
  have hr := B.returns
  have hts := atoms_spec (ws := wsX0_holdersOfPart) B.pre
  have hown : s.vm.findClass RX0 = some m.cls := findClass_of_methodNamed B.named
  have hlocks := B.notSynchronized
  subst hsz
  have B := xB_start hs hv
  have hinRX0 : ∀ w ∈ wsX00, w ∈ wsX0_holdersOfPart := by decide +kernel
  have hl := lv_entry ([.ref (ad 14), .int a1]) (n := 2) (Nat.le_of_ble_eq_true rfl)
  rw [lg_entry_eq]
  generalize (lg_sl ([.ref (ad 14), .int a1]) ++ List.replicate (2 - (lg_sl ([.ref (ad 14), .int a1])).length) Slot.unset).toArray = ls at hl ⊢
  have hl : lv_has ls 2 [(0, .ref (ad 14)), (1, .int a1)] := hl
  generalize hAe : xA ad a s.heap.size = A at B ⊢
  have hf : some ((0 : Int32), σ) = some ((0 : Int32), σ) := rfl
  refine lv_iload_n hx hb dX0_holdersOfPart_0 rfl (lv_at hl 1 rfl) ?_
  refine lv_if_eq (tgt := 11) hx hb dX0_holdersOfPart_1 (by decide) (fun hc => ?_) (fun hc => ?_)
  · exact absurd hc h
  · refine lv_aload_n hx hb dX0_holdersOfPart_4 rfl (lv_at hl 0 rfl) ?_
    refine x_getr hx hb hts hinRX0 hown B 14 2 16 (by decide) (by decide) (fun _ => rfl) rfl rfl (by decide) (by decide +kernel) rfl dX0_holdersOfPart_5 ?_
    refine lv_goto (tgt := 15) hx hb dX0_holdersOfPart_8 (by decide) ?_
    exact x_aret hx hb hr (Or.inr ⟨_, rfl⟩) hlocks B hf dX0_holdersOfPart_15
theorem dX0_addPair_0 : decode cX0_addPair 0 = .ok (.aload_n 0, 1) := by decide +kernel
theorem dX0_addPair_1 : decode cX0_addPair 1 = .ok (.getfield 27, 3) := by decide +kernel
theorem dX0_addPair_4 : decode cX0_addPair 4 = .ok (.istore_n 2, 1) := by decide +kernel
theorem dX0_addPair_5 : decode cX0_addPair 5 = .ok (.aload_n 0, 1) := by decide +kernel
theorem dX0_addPair_6 : decode cX0_addPair 6 = .ok (.getfield 9, 3) := by decide +kernel
theorem dX0_addPair_9 : decode cX0_addPair 9 = .ok (.iload_n 2, 1) := by decide +kernel
theorem dX0_addPair_10 : decode cX0_addPair 10 = .ok (.iconst 1, 1) := by decide +kernel
theorem dX0_addPair_11 : decode cX0_addPair 11 = .ok (.iload_n 1, 1) := by decide +kernel
theorem dX0_addPair_12 : decode cX0_addPair 12 = .ok (.ishl, 1) := by decide +kernel
theorem dX0_addPair_13 : decode cX0_addPair 13 = .ok (.iastore, 1) := by decide +kernel
theorem dX0_addPair_14 : decode cX0_addPair 14 = .ok (.aload_n 0, 1) := by decide +kernel
theorem dX0_addPair_15 : decode cX0_addPair 15 = .ok (.getfield 15, 3) := by decide +kernel
theorem dX0_addPair_18 : decode cX0_addPair 18 = .ok (.iload_n 2, 1) := by decide +kernel
theorem dX0_addPair_19 : decode cX0_addPair 19 = .ok (.iconst 1, 1) := by decide +kernel
theorem dX0_addPair_20 : decode cX0_addPair 20 = .ok (.iload_n 1, 1) := by decide +kernel
theorem dX0_addPair_21 : decode cX0_addPair 21 = .ok (.ishl, 1) := by decide +kernel
theorem dX0_addPair_22 : decode cX0_addPair 22 = .ok (.iastore, 1) := by decide +kernel
theorem dX0_addPair_23 : decode cX0_addPair 23 = .ok (.aload_n 0, 1) := by decide +kernel
theorem dX0_addPair_24 : decode cX0_addPair 24 = .ok (.dup, 1) := by decide +kernel
theorem dX0_addPair_25 : decode cX0_addPair 25 = .ok (.getfield 27, 3) := by decide +kernel
theorem dX0_addPair_28 : decode cX0_addPair 28 = .ok (.iconst 1, 1) := by decide +kernel
theorem dX0_addPair_29 : decode cX0_addPair 29 = .ok (.iadd, 1) := by decide +kernel
theorem dX0_addPair_30 : decode cX0_addPair 30 = .ok (.putfield 27, 3) := by decide +kernel
theorem dX0_addPair_33 : decode cX0_addPair 33 = .ok (.iload_n 2, 1) := by decide +kernel
theorem dX0_addPair_34 : decode cX0_addPair 34 = .ok (.ireturn, 1) := by decide +kernel
def rm_X0_addPair : Room := { frames := 1, cells := 0, slots := 0, locals := 16 }
set_option maxHeartbeats 4000000 in
set_option maxRecDepth 100000 in
theorem c_X0_addPair (l : Launch) {G : zG} {ad : Nat → Nat} {σ σ' : zs} {a1 : Int32} {r : Int32} (hf : f_X0_addPair σ a1 = some (r, σ')) : xMi l yX0_addPair wsX0_addPair rm_X0_addPair G ad σ [.ref (ad 14), .int a1] r σ' := by
  intro sz nb a g hs
  refine Met.ofW (cc := cX0_addPair) (maxL := 3) (ret := (some .int)) (by decide) rfl ?_
  intro p e s m args below meth c s₁ B hml hv
  obtain ⟨rfl, hsz, hv⟩ := hv
  have hx := B.exec
  have hb := B.bytes
  have hr := B.returns
  have hts := atoms_spec (ws := wsX0_addPair) B.pre
  have hown : s.vm.findClass RX0 = some m.cls := findClass_of_methodNamed B.named
  have hlocks := B.notSynchronized
  subst hsz
  have B := xB_start hs hv
  have hinRX0 : ∀ w ∈ wsX00, w ∈ wsX0_addPair := by decide +kernel
  have hl := lv_entry ([.ref (ad 14), .int a1]) (n := 3) (Nat.le_of_ble_eq_true rfl)
  rw [lg_entry_eq]
  generalize (lg_sl ([.ref (ad 14), .int a1]) ++ List.replicate (3 - (lg_sl ([.ref (ad 14), .int a1])).length) Slot.unset).toArray = ls at hl ⊢
  have hl : lv_has ls 3 [(0, .ref (ad 14)), (1, .int a1)] := hl
  generalize hAe : xA ad a s.heap.size = A at B ⊢
  unfold f_X0_addPair at hf
  refine lv_aload_n hx hb dX0_addPair_0 rfl (lv_at hl 0 rfl) ?_
  refine x_geti hx hb hts hinRX0 hown B 14 0 (by decide) (fun _ => rfl) rfl rfl (by decide) (by decide +kernel) rfl dX0_addPair_1 ?_
  refine lv_istore_n (lv' := [(2, .int (σ 14 0)), (0, .ref (ad 14)), (1, .int a1)]) hx hb dX0_addPair_4 rfl hl (by decide) rfl (fun ls hl => ?_)
  refine lv_aload_n hx hb dX0_addPair_5 rfl (lv_at hl 1 rfl) ?_
  refine x_getr hx hb hts hinRX0 hown B 14 1 15 (by decide) (by decide) (fun _ => rfl) rfl rfl (by decide) (by decide +kernel) rfl dX0_addPair_6 ?_
  refine lv_iload_n hx hb dX0_addPair_9 rfl (lv_at hl 0 rfl) ?_
  refine lv_iconst (v := (1 : Int32)) hx hb dX0_addPair_10 (by decide) ?_
  refine lv_iload_n hx hb dX0_addPair_11 rfl (lv_at hl 2 rfl) ?_
  refine lv_ishl hx hb dX0_addPair_12 ?_
  obtain ⟨hg, hf⟩ := zg_some hf
  refine x_iast hx hb B 15 (by decide) (by decide) (fun _ => rfl) (zin_ok hg) dX0_addPair_13 (fun H locs B => ?_)
  refine lv_aload_n hx hb dX0_addPair_14 rfl (lv_at hl 1 rfl) ?_
  refine x_getr hx hb hts hinRX0 hown B 14 2 16 (by decide) (by decide) (fun _ => rfl) rfl rfl (by decide) (by decide +kernel) rfl dX0_addPair_15 ?_
  refine lv_iload_n hx hb dX0_addPair_18 rfl (lv_at hl 0 rfl) ?_
  refine lv_iconst (v := (1 : Int32)) hx hb dX0_addPair_19 (by decide) ?_
  refine lv_iload_n hx hb dX0_addPair_20 rfl (lv_at hl 2 rfl) ?_
  refine lv_ishl hx hb dX0_addPair_21 ?_
  obtain ⟨hg, hf⟩ := zg_some hf
  refine x_iast hx hb B 16 (by decide) (by decide) (fun _ => rfl) (zin_ok hg) dX0_addPair_22 (fun H locs B => ?_)
  refine lv_aload_n hx hb dX0_addPair_23 rfl (lv_at hl 1 rfl) ?_
  refine lv_dup hx hb dX0_addPair_24 rfl ?_
  refine x_geti hx hb hts hinRX0 hown B 14 0 (by decide) (fun _ => rfl) rfl rfl (by decide) (by decide +kernel) rfl dX0_addPair_25 ?_
  refine lv_iconst (v := (1 : Int32)) hx hb dX0_addPair_28 (by decide) ?_
  refine lv_iadd hx hb dX0_addPair_29 ?_
  refine x_puti hx hb hts hinRX0 hown tyX0 tyX0_ok nmX0 B 14 0 (by decide) (by decide) (fun _ => rfl) rfl rfl (by decide) (by decide +kernel) rfl rfl rfl rfl dX0_addPair_30 (fun H locs B => ?_)
  refine lv_iload_n hx hb dX0_addPair_33 rfl (lv_at hl 0 rfl) ?_
  refine W.widen (k := 0) (n := 0) (Nat.le_of_ble_eq_true rfl) (Nat.le_of_ble_eq_true rfl) ?_
  exact x_iret hx hb hr rfl hlocks B hf dX0_addPair_34
theorem dX0_addBox_0 : decode cX0_addBox 0 = .ok (.aload_n 0, 1) := by decide +kernel
theorem dX0_addBox_1 : decode cX0_addBox 1 = .ok (.getfield 35, 3) := by decide +kernel
theorem dX0_addBox_4 : decode cX0_addBox 4 = .ok (.istore 4, 2) := by decide +kernel
theorem dX0_addBox_6 : decode cX0_addBox 6 = .ok (.aload_n 0, 1) := by decide +kernel
theorem dX0_addBox_7 : decode cX0_addBox 7 = .ok (.getfield 18, 3) := by decide +kernel
theorem dX0_addBox_10 : decode cX0_addBox 10 = .ok (.iload 4, 2) := by decide +kernel
theorem dX0_addBox_12 : decode cX0_addBox 12 = .ok (.iload_n 2, 1) := by decide +kernel
theorem dX0_addBox_13 : decode cX0_addBox 13 = .ok (.iastore, 1) := by decide +kernel
theorem dX0_addBox_14 : decode cX0_addBox 14 = .ok (.aload_n 0, 1) := by decide +kernel
theorem dX0_addBox_15 : decode cX0_addBox 15 = .ok (.getfield 21, 3) := by decide +kernel
theorem dX0_addBox_18 : decode cX0_addBox 18 = .ok (.iload 4, 2) := by decide +kernel
theorem dX0_addBox_20 : decode cX0_addBox 20 = .ok (.iload_n 3, 1) := by decide +kernel
theorem dX0_addBox_21 : decode cX0_addBox 21 = .ok (.iastore, 1) := by decide +kernel
theorem dX0_addBox_22 : decode cX0_addBox 22 = .ok (.aload_n 0, 1) := by decide +kernel
theorem dX0_addBox_23 : decode cX0_addBox 23 = .ok (.getfield 24, 3) := by decide +kernel
theorem dX0_addBox_26 : decode cX0_addBox 26 = .ok (.iload 4, 2) := by decide +kernel
theorem dX0_addBox_28 : decode cX0_addBox 28 = .ok (.iconst 1, 1) := by decide +kernel
theorem dX0_addBox_29 : decode cX0_addBox 29 = .ok (.iload_n 1, 1) := by decide +kernel
theorem dX0_addBox_30 : decode cX0_addBox 30 = .ok (.ishl, 1) := by decide +kernel
theorem dX0_addBox_31 : decode cX0_addBox 31 = .ok (.iastore, 1) := by decide +kernel
theorem dX0_addBox_32 : decode cX0_addBox 32 = .ok (.aload_n 0, 1) := by decide +kernel
theorem dX0_addBox_33 : decode cX0_addBox 33 = .ok (.dup, 1) := by decide +kernel
theorem dX0_addBox_34 : decode cX0_addBox 34 = .ok (.getfield 35, 3) := by decide +kernel
theorem dX0_addBox_37 : decode cX0_addBox 37 = .ok (.iconst 1, 1) := by decide +kernel
theorem dX0_addBox_38 : decode cX0_addBox 38 = .ok (.iadd, 1) := by decide +kernel
theorem dX0_addBox_39 : decode cX0_addBox 39 = .ok (.putfield 35, 3) := by decide +kernel
theorem dX0_addBox_42 : decode cX0_addBox 42 = .ok (.iload 4, 2) := by decide +kernel
theorem dX0_addBox_44 : decode cX0_addBox 44 = .ok (.ireturn, 1) := by decide +kernel
def rm_X0_addBox : Room := { frames := 1, cells := 0, slots := 0, locals := 16 }
set_option maxHeartbeats 4000000 in
set_option maxRecDepth 100000 in
theorem c_X0_addBox (l : Launch) {G : zG} {ad : Nat → Nat} {σ σ' : zs} {a1 a2 a3 : Int32} {r : Int32} (hf : f_X0_addBox σ a1 a2 a3 = some (r, σ')) : xMi l yX0_addBox wsX0_addBox rm_X0_addBox G ad σ [.ref (ad 14), .int a1, .int a2, .int a3] r σ' := by
  intro sz nb a g hs
  refine Met.ofW (cc := cX0_addBox) (maxL := 5) (ret := (some .int)) (by decide) rfl ?_
  intro p e s m args below meth c s₁ B hml hv
  obtain ⟨rfl, hsz, hv⟩ := hv
  have hx := B.exec
  have hb := B.bytes
  have hr := B.returns
  have hts := atoms_spec (ws := wsX0_addBox) B.pre
  have hown : s.vm.findClass RX0 = some m.cls := findClass_of_methodNamed B.named
  have hlocks := B.notSynchronized
  subst hsz
  have B := xB_start hs hv
  have hinRX0 : ∀ w ∈ wsX00, w ∈ wsX0_addBox := by decide +kernel
  have hl := lv_entry ([.ref (ad 14), .int a1, .int a2, .int a3]) (n := 5) (Nat.le_of_ble_eq_true rfl)
  rw [lg_entry_eq]
  generalize (lg_sl ([.ref (ad 14), .int a1, .int a2, .int a3]) ++ List.replicate (5 - (lg_sl ([.ref (ad 14), .int a1, .int a2, .int a3])).length) Slot.unset).toArray = ls at hl ⊢
  have hl : lv_has ls 5 [(0, .ref (ad 14)), (1, .int a1), (2, .int a2), (3, .int a3)] := hl
  generalize hAe : xA ad a s.heap.size = A at B ⊢
  unfold f_X0_addBox at hf
  refine lv_aload_n hx hb dX0_addBox_0 rfl (lv_at hl 0 rfl) ?_
  refine x_geti hx hb hts hinRX0 hown B 14 3 (by decide) (fun _ => rfl) rfl rfl (by decide) (by decide +kernel) rfl dX0_addBox_1 ?_
  refine lv_istore (lv' := [(4, .int (σ 14 3)), (0, .ref (ad 14)), (1, .int a1), (2, .int a2), (3, .int a3)]) hx hb dX0_addBox_4 hl (by decide) rfl (fun ls hl => ?_)
  refine lv_aload_n hx hb dX0_addBox_6 rfl (lv_at hl 1 rfl) ?_
  refine x_getr hx hb hts hinRX0 hown B 14 4 17 (by decide) (by decide) (fun _ => rfl) rfl rfl (by decide) (by decide +kernel) rfl dX0_addBox_7 ?_
  refine lv_iload hx hb dX0_addBox_10 (lv_at hl 0 rfl) ?_
  refine lv_iload_n hx hb dX0_addBox_12 rfl (lv_at hl 3 rfl) ?_
  obtain ⟨hg, hf⟩ := zg_some hf
  refine x_iast hx hb B 17 (by decide) (by decide) (fun _ => rfl) (zin_ok hg) dX0_addBox_13 (fun H locs B => ?_)
  refine lv_aload_n hx hb dX0_addBox_14 rfl (lv_at hl 1 rfl) ?_
  refine x_getr hx hb hts hinRX0 hown B 14 5 18 (by decide) (by decide) (fun _ => rfl) rfl rfl (by decide) (by decide +kernel) rfl dX0_addBox_15 ?_
  refine lv_iload hx hb dX0_addBox_18 (lv_at hl 0 rfl) ?_
  refine lv_iload_n hx hb dX0_addBox_20 rfl (lv_at hl 4 rfl) ?_
  obtain ⟨hg, hf⟩ := zg_some hf
  refine x_iast hx hb B 18 (by decide) (by decide) (fun _ => rfl) (zin_ok hg) dX0_addBox_21 (fun H locs B => ?_)
  refine lv_aload_n hx hb dX0_addBox_22 rfl (lv_at hl 1 rfl) ?_
  refine x_getr hx hb hts hinRX0 hown B 14 6 19 (by decide) (by decide) (fun _ => rfl) rfl rfl (by decide) (by decide +kernel) rfl dX0_addBox_23 ?_
  refine lv_iload hx hb dX0_addBox_26 (lv_at hl 0 rfl) ?_
  refine lv_iconst (v := (1 : Int32)) hx hb dX0_addBox_28 (by decide) ?_
  refine lv_iload_n hx hb dX0_addBox_29 rfl (lv_at hl 2 rfl) ?_
  refine lv_ishl hx hb dX0_addBox_30 ?_
  obtain ⟨hg, hf⟩ := zg_some hf
  refine x_iast hx hb B 19 (by decide) (by decide) (fun _ => rfl) (zin_ok hg) dX0_addBox_31 (fun H locs B => ?_)
  refine lv_aload_n hx hb dX0_addBox_32 rfl (lv_at hl 1 rfl) ?_
  refine lv_dup hx hb dX0_addBox_33 rfl ?_
  refine x_geti hx hb hts hinRX0 hown B 14 3 (by decide) (fun _ => rfl) rfl rfl (by decide) (by decide +kernel) rfl dX0_addBox_34 ?_
  refine lv_iconst (v := (1 : Int32)) hx hb dX0_addBox_37 (by decide) ?_
  refine lv_iadd hx hb dX0_addBox_38 ?_
  refine x_puti hx hb hts hinRX0 hown tyX0 tyX0_ok nmX0 B 14 3 (by decide) (by decide) (fun _ => rfl) rfl rfl (by decide) (by decide +kernel) rfl rfl rfl rfl dX0_addBox_39 (fun H locs B => ?_)
  refine lv_iload hx hb dX0_addBox_42 (lv_at hl 0 rfl) ?_
  refine W.widen (k := 0) (n := 0) (Nat.le_of_ble_eq_true rfl) (Nat.le_of_ble_eq_true rfl) ?_
  exact x_iret hx hb hr rfl hlocks B hf dX0_addBox_44
theorem dX8_hasBit_0 : decode cX8_hasBit 0 = .ok (.iload_n 0, 1) := by decide +kernel
theorem dX8_hasBit_1 : decode cX8_hasBit 1 = .ok (.iload_n 1, 1) := by decide +kernel
theorem dX8_hasBit_2 : decode cX8_hasBit 2 = .ok (.iushr, 1) := by decide +kernel
theorem dX8_hasBit_3 : decode cX8_hasBit 3 = .ok (.iconst 1, 1) := by decide +kernel
theorem dX8_hasBit_4 : decode cX8_hasBit 4 = .ok (.iand, 1) := by decide +kernel
theorem dX8_hasBit_5 : decode cX8_hasBit 5 = .ok (.ifCond .eq 7, 3) := by decide +kernel
theorem dX8_hasBit_8 : decode cX8_hasBit 8 = .ok (.iconst 1, 1) := by decide +kernel
theorem dX8_hasBit_9 : decode cX8_hasBit 9 = .ok (.goto 4, 3) := by decide +kernel
theorem dX8_hasBit_12 : decode cX8_hasBit 12 = .ok (.iconst 0, 1) := by decide +kernel
theorem dX8_hasBit_13 : decode cX8_hasBit 13 = .ok (.ireturn, 1) := by decide +kernel
def rm_X8_hasBit : Room := { frames := 1, cells := 0, slots := 0, locals := 16 }
set_option maxHeartbeats 4000000 in
set_option maxRecDepth 100000 in
theorem c_X8_hasBit (l : Launch) {G : zG} {ad : Nat → Nat} {σ σ' : zs} {a0 a1 : Int32} {r : Int32} (hf : f_X8_hasBit σ a0 a1 = some (r, σ')) : xMi l yX8_hasBit wsX8_hasBit rm_X8_hasBit G ad σ [.int a0, .int a1] r σ' := by
  intro sz nb a g hs
  refine Met.ofW (cc := cX8_hasBit) (maxL := 2) (ret := (some .boolean)) (by decide) rfl ?_
  intro p e s m args below meth c s₁ B hml hv
  obtain ⟨rfl, hsz, hv⟩ := hv
  have hx := B.exec
  have hb := B.bytes
  have hr := B.returns
  have hts := atoms_spec (ws := wsX8_hasBit) B.pre
  have hown : s.vm.findClass RX8 = some m.cls := findClass_of_methodNamed B.named
  have hlocks := B.notSynchronized
  subst hsz
  have B := xB_start hs hv
  have hl := lv_entry ([.int a0, .int a1]) (n := 2) (Nat.le_of_ble_eq_true rfl)
  rw [lg_entry_eq]
  generalize (lg_sl ([.int a0, .int a1]) ++ List.replicate (2 - (lg_sl ([.int a0, .int a1])).length) Slot.unset).toArray = ls at hl ⊢
  have hl : lv_has ls 2 [(0, .int a0), (1, .int a1)] := hl
  generalize hAe : xA ad a s.heap.size = A at B ⊢
  unfold f_X8_hasBit at hf
  refine lv_iload_n hx hb dX8_hasBit_0 rfl (lv_at hl 0 rfl) ?_
  refine lv_iload_n hx hb dX8_hasBit_1 rfl (lv_at hl 1 rfl) ?_
  refine lv_iushr (v := (a0.toUInt32 >>> (a1.toUInt32 &&& Int32.toUInt32 31)).toInt32) hx hb dX8_hasBit_2 rfl ?_
  refine lv_iconst (v := (1 : Int32)) hx hb dX8_hasBit_3 (by decide) ?_
  refine lv_iand hx hb dX8_hasBit_4 ?_
  refine lv_if_eq (tgt := 12) hx hb dX8_hasBit_5 (by decide) (fun hc => ?_) (fun hc => ?_)
  · have hf := zif_t hc hf
    refine lv_iconst (v := (0 : Int32)) hx hb dX8_hasBit_12 (by decide) ?_
    refine W.widen (k := 0) (n := 0) (Nat.le_of_ble_eq_true rfl) (Nat.le_of_ble_eq_true rfl) ?_
    exact x_iret hx hb hr (by decide) hlocks B hf dX8_hasBit_13
  · have hf := zif_f hc hf
    refine lv_iconst (v := (1 : Int32)) hx hb dX8_hasBit_8 (by decide) ?_
    refine lv_goto (tgt := 13) hx hb dX8_hasBit_9 (by decide) ?_
    refine W.widen (k := 0) (n := 0) (Nat.le_of_ble_eq_true rfl) (Nat.le_of_ble_eq_true rfl) ?_
    exact x_iret hx hb hr (by decide) hlocks B hf dX8_hasBit_13
theorem dX0_canOpen_0 : decode cX0_canOpen 0 = .ok (.aload_n 0, 1) := by decide +kernel
theorem dX0_canOpen_1 : decode cX0_canOpen 1 = .ok (.getfield 24, 3) := by decide +kernel
theorem dX0_canOpen_4 : decode cX0_canOpen 4 = .ok (.iload_n 2, 1) := by decide +kernel
theorem dX0_canOpen_5 : decode cX0_canOpen 5 = .ok (.iaload, 1) := by decide +kernel
theorem dX0_canOpen_6 : decode cX0_canOpen 6 = .ok (.iload_n 1, 1) := by decide +kernel
theorem dX0_canOpen_7 : decode cX0_canOpen 7 = .ok (.invokestatic 38, 3) := by decide +kernel
theorem dX0_canOpen_10 : decode cX0_canOpen 10 = .ok (.ifCond .eq 25, 3) := by decide +kernel
theorem dX0_canOpen_13 : decode cX0_canOpen 13 = .ok (.aload_n 0, 1) := by decide +kernel
theorem dX0_canOpen_14 : decode cX0_canOpen 14 = .ok (.getfield 15, 3) := by decide +kernel
theorem dX0_canOpen_17 : decode cX0_canOpen 17 = .ok (.aload_n 0, 1) := by decide +kernel
theorem dX0_canOpen_18 : decode cX0_canOpen 18 = .ok (.getfield 18, 3) := by decide +kernel
theorem dX0_canOpen_21 : decode cX0_canOpen 21 = .ok (.iload_n 2, 1) := by decide +kernel
theorem dX0_canOpen_22 : decode cX0_canOpen 22 = .ok (.iaload, 1) := by decide +kernel
theorem dX0_canOpen_23 : decode cX0_canOpen 23 = .ok (.iaload, 1) := by decide +kernel
theorem dX0_canOpen_24 : decode cX0_canOpen 24 = .ok (.iload_n 1, 1) := by decide +kernel
theorem dX0_canOpen_25 : decode cX0_canOpen 25 = .ok (.invokestatic 38, 3) := by decide +kernel
theorem dX0_canOpen_28 : decode cX0_canOpen 28 = .ok (.ifCond .eq 7, 3) := by decide +kernel
theorem dX0_canOpen_31 : decode cX0_canOpen 31 = .ok (.iconst 1, 1) := by decide +kernel
theorem dX0_canOpen_32 : decode cX0_canOpen 32 = .ok (.goto 4, 3) := by decide +kernel
theorem dX0_canOpen_35 : decode cX0_canOpen 35 = .ok (.iconst 0, 1) := by decide +kernel
theorem dX0_canOpen_36 : decode cX0_canOpen 36 = .ok (.ireturn, 1) := by decide +kernel
set_option maxRecDepth 20000 in
theorem ggX0_canOpen_X8_hasBit : GoodIn wsX0_canOpen wsX8_hasBit := goodIn_r _ [6] (by decide +kernel) (by decide +kernel)
set_option maxRecDepth 20000 in
theorem gX0_canOpen_X8_hasBit_n38 : GoodIn wsX0_canOpen (wsX8_hasBit) := ggX0_canOpen_X8_hasBit
def rm_X0_canOpen : Room := { frames := 2, cells := 0, slots := 0, locals := 37 }
set_option maxHeartbeats 4000000 in
set_option maxRecDepth 100000 in
theorem c_X0_canOpen (l : Launch) {G : zG} {ad : Nat → Nat} {σ σ' : zs} {a1 a2 : Int32} {r : Int32} (hf : f_X0_canOpen σ a1 a2 = some (r, σ')) : xMi l yX0_canOpen wsX0_canOpen rm_X0_canOpen G ad σ [.ref (ad 14), .int a1, .int a2] r σ' := by
  intro sz nb a g hs
  refine Met.ofW (cc := cX0_canOpen) (maxL := 3) (ret := (some .boolean)) (by decide) rfl ?_
  intro p e s m args below meth c s₁ B hml hv
  obtain ⟨rfl, hsz, hv⟩ := hv
  have hx := B.exec
  have hb := B.bytes
  have hr := B.returns
  have hts := atoms_spec (ws := wsX0_canOpen) B.pre
  have hown : s.vm.findClass RX0 = some m.cls := findClass_of_methodNamed B.named
  have hlocks := B.notSynchronized
  subst hsz
  have B := xB_start hs hv
  have hinRX0 : ∀ w ∈ wsX00, w ∈ wsX0_canOpen := by decide +kernel
  have hl := lv_entry ([.ref (ad 14), .int a1, .int a2]) (n := 3) (Nat.le_of_ble_eq_true rfl)
  rw [lg_entry_eq]
  generalize (lg_sl ([.ref (ad 14), .int a1, .int a2]) ++ List.replicate (3 - (lg_sl ([.ref (ad 14), .int a1, .int a2])).length) Slot.unset).toArray = ls at hl ⊢
  have hl : lv_has ls 3 [(0, .ref (ad 14)), (1, .int a1), (2, .int a2)] := hl
  generalize hAe : xA ad a s.heap.size = A at B ⊢
  unfold f_X0_canOpen at hf
  refine lv_aload_n hx hb dX0_canOpen_0 rfl (lv_at hl 0 rfl) ?_
  refine x_getr hx hb hts hinRX0 hown B 14 6 19 (by decide) (by decide) (fun _ => rfl) rfl rfl (by decide) (by decide +kernel) rfl dX0_canOpen_1 ?_
  refine lv_iload_n hx hb dX0_canOpen_4 rfl (lv_at hl 2 rfl) ?_
  obtain ⟨hg, hf⟩ := zg_some hf
  refine x_iald hx hb B 19 (by decide) (fun _ => rfl) (zin_ok hg) dX0_canOpen_5 ?_
  refine lv_iload_n hx hb dX0_canOpen_6 rfl (lv_at hl 1 rfl) ?_
  obtain ⟨r2, σ3, hu1, hf⟩ := zb_some hf
  refine x_i B (fun nb a g hs Bz => va_runSN (As := [.int (σ 19 a2.toNatClampNeg), .int a1]) (rest := []) ⟨hx, hb, hml, hown, hts⟩ (c_X8_hasBit l hu1 _ nb a g hs) ⟨va_cnB 2 hts gX0_canOpen_X8_hasBit_n38 rfl rfl rfl (x_nest B (q := (RX0, 38, yX8_hasBit)) (by decide +kernel)) (hts (.initialized RX8) (by decide +kernel)) (by decide +kernel) ⟨Nat.le_of_ble_eq_true rfl, Nat.le_of_ble_eq_true rfl⟩, hts (.static yX8_hasBit) (by decide +kernel), trivial⟩ (z_preS Bz) rfl rfl hl.1 rfl (lv_room (Nat.le_of_ble_eq_true rfl)) dX0_canOpen_7 ⟨Nat.le_of_ble_eq_true rfl, Nat.le_of_ble_eq_true rfl⟩) (fun H locs B => ?_)
  refine lv_if_eq (tgt := 35) hx hb dX0_canOpen_10 (by decide) (fun hc => ?_) (fun hc => ?_)
  · have hf := zif_t hc hf
    refine lv_iconst (v := (0 : Int32)) hx hb dX0_canOpen_35 (by decide) ?_
    refine W.widen (k := 0) (n := 0) (Nat.le_of_ble_eq_true rfl) (Nat.le_of_ble_eq_true rfl) ?_
    exact x_iret hx hb hr (by decide) hlocks B hf dX0_canOpen_36
  · have hf := zif_f hc hf
    refine lv_aload_n hx hb dX0_canOpen_13 rfl (lv_at hl 0 rfl) ?_
    refine x_getr hx hb hts hinRX0 hown B 14 2 16 (by decide) (by decide) (fun _ => rfl) rfl rfl (by decide) (by decide +kernel) rfl dX0_canOpen_14 ?_
    refine lv_aload_n hx hb dX0_canOpen_17 rfl (lv_at hl 0 rfl) ?_
    refine x_getr hx hb hts hinRX0 hown B 14 4 17 (by decide) (by decide) (fun _ => rfl) rfl rfl (by decide) (by decide +kernel) rfl dX0_canOpen_18 ?_
    refine lv_iload_n hx hb dX0_canOpen_21 rfl (lv_at hl 2 rfl) ?_
    obtain ⟨hg, hf⟩ := zg_some hf
    refine x_iald hx hb B 17 (by decide) (fun _ => rfl) (zin_ok hg) dX0_canOpen_22 ?_
    obtain ⟨hg, hf⟩ := zg_some hf
    refine x_iald hx hb B 16 (by decide) (fun _ => rfl) (zin_ok hg) dX0_canOpen_23 ?_
    refine lv_iload_n hx hb dX0_canOpen_24 rfl (lv_at hl 1 rfl) ?_
    obtain ⟨r5, σ6, hu4, hf⟩ := zb_some hf
    refine x_i B (fun nb a g hs Bz => va_runSN (As := [.int (σ3 16 (σ3 17 a2.toNatClampNeg).toNatClampNeg), .int a1]) (rest := []) ⟨hx, hb, hml, hown, hts⟩ (c_X8_hasBit l hu4 _ nb a g hs) ⟨va_cnB 2 hts gX0_canOpen_X8_hasBit_n38 rfl rfl rfl (x_nest B (q := (RX0, 38, yX8_hasBit)) (by decide +kernel)) (hts (.initialized RX8) (by decide +kernel)) (by decide +kernel) ⟨Nat.le_of_ble_eq_true rfl, Nat.le_of_ble_eq_true rfl⟩, hts (.static yX8_hasBit) (by decide +kernel), trivial⟩ (z_preS Bz) rfl rfl hl.1 rfl (lv_room (Nat.le_of_ble_eq_true rfl)) dX0_canOpen_25 ⟨Nat.le_of_ble_eq_true rfl, Nat.le_of_ble_eq_true rfl⟩) (fun H locs B => ?_)
    refine lv_if_eq (tgt := 35) hx hb dX0_canOpen_28 (by decide) (fun hc => ?_) (fun hc => ?_)
    · have hf := zif_t hc hf
      refine lv_iconst (v := (0 : Int32)) hx hb dX0_canOpen_35 (by decide) ?_
      refine W.widen (k := 0) (n := 0) (Nat.le_of_ble_eq_true rfl) (Nat.le_of_ble_eq_true rfl) ?_
      exact x_iret hx hb hr (by decide) hlocks B hf dX0_canOpen_36
    · have hf := zif_f hc hf
      refine lv_iconst (v := (1 : Int32)) hx hb dX0_canOpen_31 (by decide) ?_
      refine lv_goto (tgt := 36) hx hb dX0_canOpen_32 (by decide) ?_
      refine W.widen (k := 0) (n := 0) (Nat.le_of_ble_eq_true rfl) (Nat.le_of_ble_eq_true rfl) ?_
      exact x_iret hx hb hr (by decide) hlocks B hf dX0_canOpen_36
theorem dX1_clear_0 : decode cX1_clear 0 = .ok (.aload_n 0, 1) := by decide +kernel
theorem dX1_clear_1 : decode cX1_clear 1 = .ok (.iconst 0, 1) := by decide +kernel
theorem dX1_clear_2 : decode cX1_clear 2 = .ok (.putfield 29, 3) := by decide +kernel
theorem dX1_clear_5 : decode cX1_clear 5 = .ok (.return_, 1) := by decide +kernel
def rm_X1_clear : Room := { frames := 1, cells := 0, slots := 0, locals := 16 }
set_option maxHeartbeats 4000000 in
set_option maxRecDepth 100000 in
theorem c_X1_clear (l : Launch) {G : zG} {ad : Nat → Nat} {σ σ' : zs} {r : Int32} (hf : f_X1_clear σ  = some (r, σ')) : xMv l yX1_clear wsX1_clear rm_X1_clear G ad σ [.ref (ad 52)] σ' := by
  intro sz nb a g hs
  refine Met.ofW (cc := cX1_clear) (maxL := 1) (ret := none) (by decide) rfl ?_
  intro p e s m args below meth c s₁ B hml hv
  obtain ⟨rfl, hsz, hv⟩ := hv
  have hx := B.exec
  have hb := B.bytes
  have hr := B.returns
  have hts := atoms_spec (ws := wsX1_clear) B.pre
  have hown : s.vm.findClass RX1 = some m.cls := findClass_of_methodNamed B.named
  have hlocks := B.notSynchronized
  subst hsz
  have B := xB_start hs hv
  have hinRX1 : ∀ w ∈ wsX10, w ∈ wsX1_clear := by decide +kernel
  have hl := lv_entry ([.ref (ad 52)]) (n := 1) (Nat.le_of_ble_eq_true rfl)
  rw [lg_entry_eq]
  generalize (lg_sl ([.ref (ad 52)]) ++ List.replicate (1 - (lg_sl ([.ref (ad 52)])).length) Slot.unset).toArray = ls at hl ⊢
  have hl : lv_has ls 1 [(0, .ref (ad 52))] := hl
  generalize hAe : xA ad a s.heap.size = A at B ⊢
  unfold f_X1_clear at hf
  refine lv_aload_n hx hb dX1_clear_0 rfl (lv_at hl 0 rfl) ?_
  refine lv_iconst (v := (0 : Int32)) hx hb dX1_clear_1 (by decide) ?_
  refine x_puti hx hb hts hinRX1 hown tyX1 tyX1_ok nmX1 B 52 1 (by decide) (by decide) (fun _ => rfl) rfl rfl (by decide) (by decide +kernel) rfl rfl rfl rfl dX1_clear_2 (fun H locs B => ?_)
  refine W.widen (k := 0) (n := 0) (Nat.le_of_ble_eq_true rfl) (Nat.le_of_ble_eq_true rfl) ?_
  exact x_vret hx hb hr hlocks B hf dX1_clear_5
theorem dX1_addSign_0 : decode cX1_addSign 0 = .ok (.iload_n 1, 1) := by decide +kernel
theorem dX1_addSign_1 : decode cX1_addSign 1 = .ok (.ifCond .eq 33, 3) := by decide +kernel
theorem dX1_addSign_4 : decode cX1_addSign 4 = .ok (.aload_n 0, 1) := by decide +kernel
theorem dX1_addSign_5 : decode cX1_addSign 5 = .ok (.getfield 29, 3) := by decide +kernel
theorem dX1_addSign_8 : decode cX1_addSign 8 = .ok (.bipush 40, 2) := by decide +kernel
theorem dX1_addSign_10 : decode cX1_addSign 10 = .ok (.if_icmp .ge 24, 3) := by decide +kernel
theorem dX1_addSign_13 : decode cX1_addSign 13 = .ok (.aload_n 0, 1) := by decide +kernel
theorem dX1_addSign_14 : decode cX1_addSign 14 = .ok (.getfield 9, 3) := by decide +kernel
theorem dX1_addSign_17 : decode cX1_addSign 17 = .ok (.aload_n 0, 1) := by decide +kernel
theorem dX1_addSign_18 : decode cX1_addSign 18 = .ok (.getfield 29, 3) := by decide +kernel
theorem dX1_addSign_21 : decode cX1_addSign 21 = .ok (.iload_n 1, 1) := by decide +kernel
theorem dX1_addSign_22 : decode cX1_addSign 22 = .ok (.i2c, 1) := by decide +kernel
theorem dX1_addSign_23 : decode cX1_addSign 23 = .ok (.castore, 1) := by decide +kernel
theorem dX1_addSign_24 : decode cX1_addSign 24 = .ok (.aload_n 0, 1) := by decide +kernel
theorem dX1_addSign_25 : decode cX1_addSign 25 = .ok (.dup, 1) := by decide +kernel
theorem dX1_addSign_26 : decode cX1_addSign 26 = .ok (.getfield 29, 3) := by decide +kernel
theorem dX1_addSign_29 : decode cX1_addSign 29 = .ok (.iconst 1, 1) := by decide +kernel
theorem dX1_addSign_30 : decode cX1_addSign 30 = .ok (.iadd, 1) := by decide +kernel
theorem dX1_addSign_31 : decode cX1_addSign 31 = .ok (.putfield 29, 3) := by decide +kernel
theorem dX1_addSign_34 : decode cX1_addSign 34 = .ok (.return_, 1) := by decide +kernel
def rm_X1_addSign : Room := { frames := 1, cells := 0, slots := 0, locals := 16 }
set_option maxHeartbeats 4000000 in
set_option maxRecDepth 100000 in
theorem c_X1_addSign (l : Launch) {G : zG} {ad : Nat → Nat} {σ σ' : zs} {a1 : Int32} {r : Int32} (hf : f_X1_addSign σ a1 = some (r, σ')) : xMv l yX1_addSign wsX1_addSign rm_X1_addSign G ad σ [.ref (ad 52), .int a1] σ' := by
  intro sz nb a g hs
  refine Met.ofW (cc := cX1_addSign) (maxL := 2) (ret := none) (by decide) rfl ?_
  intro p e s m args below meth c s₁ B hml hv
  obtain ⟨rfl, hsz, hv⟩ := hv
  have hx := B.exec
  have hb := B.bytes
  have hr := B.returns
  have hts := atoms_spec (ws := wsX1_addSign) B.pre
  have hown : s.vm.findClass RX1 = some m.cls := findClass_of_methodNamed B.named
  have hlocks := B.notSynchronized
  subst hsz
  have B := xB_start hs hv
  have hinRX1 : ∀ w ∈ wsX10, w ∈ wsX1_addSign := by decide +kernel
  have hl := lv_entry ([.ref (ad 52), .int a1]) (n := 2) (Nat.le_of_ble_eq_true rfl)
  rw [lg_entry_eq]
  generalize (lg_sl ([.ref (ad 52), .int a1]) ++ List.replicate (2 - (lg_sl ([.ref (ad 52), .int a1])).length) Slot.unset).toArray = ls at hl ⊢
  have hl : lv_has ls 2 [(0, .ref (ad 52)), (1, .int a1)] := hl
  generalize hAe : xA ad a s.heap.size = A at B ⊢
  unfold f_X1_addSign at hf
  refine lv_iload_n hx hb dX1_addSign_0 rfl (lv_at hl 1 rfl) ?_
  refine lv_if_eq (tgt := 34) hx hb dX1_addSign_1 (by decide) (fun hc => ?_) (fun hc => ?_)
  · have hf := zif_t hc hf
    refine W.widen (k := 0) (n := 0) (Nat.le_of_ble_eq_true rfl) (Nat.le_of_ble_eq_true rfl) ?_
    exact x_vret hx hb hr hlocks B hf dX1_addSign_34
  · have hf := zif_f hc hf
    refine lv_aload_n hx hb dX1_addSign_4 rfl (lv_at hl 0 rfl) ?_
    refine x_geti hx hb hts hinRX1 hown B 52 1 (by decide) (fun _ => rfl) rfl rfl (by decide) (by decide +kernel) rfl dX1_addSign_5 ?_
    refine lv_bipush (v := (40 : Int32)) hx hb dX1_addSign_8 (by decide) ?_
    refine lv_icmp_ge (tgt := 34) hx hb dX1_addSign_10 (by decide) (fun hc => ?_) (fun hc => ?_)
    · have hf := zif_t hc hf
      refine W.widen (k := 0) (n := 0) (Nat.le_of_ble_eq_true rfl) (Nat.le_of_ble_eq_true rfl) ?_
      exact x_vret hx hb hr hlocks B hf dX1_addSign_34
    · have hf := zif_f hc hf
      refine lv_aload_n hx hb dX1_addSign_13 rfl (lv_at hl 0 rfl) ?_
      refine x_getr hx hb hts hinRX1 hown B 52 0 53 (by decide) (by decide) (fun _ => rfl) rfl rfl (by decide) (by decide +kernel) rfl dX1_addSign_14 ?_
      refine lv_aload_n hx hb dX1_addSign_17 rfl (lv_at hl 0 rfl) ?_
      refine x_geti hx hb hts hinRX1 hown B 52 1 (by decide) (fun _ => rfl) rfl rfl (by decide) (by decide +kernel) rfl dX1_addSign_18 ?_
      refine lv_iload_n hx hb dX1_addSign_21 rfl (lv_at hl 1 rfl) ?_
      refine lv_i2c (v := (a1.toUInt32 % 65536).toInt32) hx hb dX1_addSign_22 rfl ?_
      obtain ⟨hg, hf⟩ := zg_some hf
      refine x_cast hx hb B 53 (by decide) (by decide) (fun _ => rfl) (zin_ok hg) dX1_addSign_23 (fun H locs B => ?_)
      refine lv_aload_n hx hb dX1_addSign_24 rfl (lv_at hl 0 rfl) ?_
      refine lv_dup hx hb dX1_addSign_25 rfl ?_
      refine x_geti hx hb hts hinRX1 hown B 52 1 (by decide) (fun _ => rfl) rfl rfl (by decide) (by decide +kernel) rfl dX1_addSign_26 ?_
      refine lv_iconst (v := (1 : Int32)) hx hb dX1_addSign_29 (by decide) ?_
      refine lv_iadd hx hb dX1_addSign_30 ?_
      refine x_puti hx hb hts hinRX1 hown tyX1 tyX1_ok nmX1 B 52 1 (by decide) (by decide) (fun _ => rfl) rfl rfl (by decide) (by decide +kernel) rfl rfl rfl rfl dX1_addSign_31 (fun H locs B => ?_)
      refine W.widen (k := 0) (n := 0) (Nat.le_of_ble_eq_true rfl) (Nat.le_of_ble_eq_true rfl) ?_
      exact x_vret hx hb hr hlocks B hf dX1_addSign_34
theorem dX1_isDigitNext_0 : decode cX1_isDigitNext 0 = .ok (.aload_n 0, 1) := by decide +kernel
theorem dX1_isDigitNext_1 : decode cX1_isDigitNext 1 = .ok (.getfield 32, 3) := by decide +kernel
theorem dX1_isDigitNext_4 : decode cX1_isDigitNext 4 = .ok (.aload_n 0, 1) := by decide +kernel
theorem dX1_isDigitNext_5 : decode cX1_isDigitNext 5 = .ok (.getfield 29, 3) := by decide +kernel
theorem dX1_isDigitNext_8 : decode cX1_isDigitNext 8 = .ok (.if_icmp .ge 35, 3) := by decide +kernel
theorem dX1_isDigitNext_11 : decode cX1_isDigitNext 11 = .ok (.aload_n 0, 1) := by decide +kernel
theorem dX1_isDigitNext_12 : decode cX1_isDigitNext 12 = .ok (.getfield 9, 3) := by decide +kernel
theorem dX1_isDigitNext_15 : decode cX1_isDigitNext 15 = .ok (.aload_n 0, 1) := by decide +kernel
theorem dX1_isDigitNext_16 : decode cX1_isDigitNext 16 = .ok (.getfield 32, 3) := by decide +kernel
theorem dX1_isDigitNext_19 : decode cX1_isDigitNext 19 = .ok (.caload, 1) := by decide +kernel
theorem dX1_isDigitNext_20 : decode cX1_isDigitNext 20 = .ok (.bipush 48, 2) := by decide +kernel
theorem dX1_isDigitNext_22 : decode cX1_isDigitNext 22 = .ok (.if_icmp .lt 21, 3) := by decide +kernel
theorem dX1_isDigitNext_25 : decode cX1_isDigitNext 25 = .ok (.aload_n 0, 1) := by decide +kernel
theorem dX1_isDigitNext_26 : decode cX1_isDigitNext 26 = .ok (.getfield 9, 3) := by decide +kernel
theorem dX1_isDigitNext_29 : decode cX1_isDigitNext 29 = .ok (.aload_n 0, 1) := by decide +kernel
theorem dX1_isDigitNext_30 : decode cX1_isDigitNext 30 = .ok (.getfield 32, 3) := by decide +kernel
theorem dX1_isDigitNext_33 : decode cX1_isDigitNext 33 = .ok (.caload, 1) := by decide +kernel
theorem dX1_isDigitNext_34 : decode cX1_isDigitNext 34 = .ok (.bipush 57, 2) := by decide +kernel
theorem dX1_isDigitNext_36 : decode cX1_isDigitNext 36 = .ok (.if_icmp .gt 7, 3) := by decide +kernel
theorem dX1_isDigitNext_39 : decode cX1_isDigitNext 39 = .ok (.iconst 1, 1) := by decide +kernel
theorem dX1_isDigitNext_40 : decode cX1_isDigitNext 40 = .ok (.goto 4, 3) := by decide +kernel
theorem dX1_isDigitNext_43 : decode cX1_isDigitNext 43 = .ok (.iconst 0, 1) := by decide +kernel
theorem dX1_isDigitNext_44 : decode cX1_isDigitNext 44 = .ok (.ireturn, 1) := by decide +kernel
def rm_X1_isDigitNext : Room := { frames := 1, cells := 0, slots := 0, locals := 16 }
set_option maxHeartbeats 4000000 in
set_option maxRecDepth 100000 in
theorem c_X1_isDigitNext (l : Launch) {G : zG} {ad : Nat → Nat} {σ σ' : zs} {r : Int32} (hf : f_X1_isDigitNext σ  = some (r, σ')) : xMi l yX1_isDigitNext wsX1_isDigitNext rm_X1_isDigitNext G ad σ [.ref (ad 52)] r σ' := by
  intro sz nb a g hs
  refine Met.ofW (cc := cX1_isDigitNext) (maxL := 1) (ret := (some .boolean)) (by decide) rfl ?_
  intro p e s m args below meth c s₁ B hml hv
  obtain ⟨rfl, hsz, hv⟩ := hv
  have hx := B.exec
  have hb := B.bytes
  have hr := B.returns
  have hts := atoms_spec (ws := wsX1_isDigitNext) B.pre
  have hown : s.vm.findClass RX1 = some m.cls := findClass_of_methodNamed B.named
  have hlocks := B.notSynchronized
  subst hsz
  have B := xB_start hs hv
  have hinRX1 : ∀ w ∈ wsX10, w ∈ wsX1_isDigitNext := by decide +kernel
  have hl := lv_entry ([.ref (ad 52)]) (n := 1) (Nat.le_of_ble_eq_true rfl)
  rw [lg_entry_eq]
  generalize (lg_sl ([.ref (ad 52)]) ++ List.replicate (1 - (lg_sl ([.ref (ad 52)])).length) Slot.unset).toArray = ls at hl ⊢
  have hl : lv_has ls 1 [(0, .ref (ad 52))] := hl
  generalize hAe : xA ad a s.heap.size = A at B ⊢
  unfold f_X1_isDigitNext at hf
  refine lv_aload_n hx hb dX1_isDigitNext_0 rfl (lv_at hl 0 rfl) ?_
  refine x_geti hx hb hts hinRX1 hown B 52 7 (by decide) (fun _ => rfl) rfl rfl (by decide) (by decide +kernel) rfl dX1_isDigitNext_1 ?_
  refine lv_aload_n hx hb dX1_isDigitNext_4 rfl (lv_at hl 0 rfl) ?_
  refine x_geti hx hb hts hinRX1 hown B 52 1 (by decide) (fun _ => rfl) rfl rfl (by decide) (by decide +kernel) rfl dX1_isDigitNext_5 ?_
  refine lv_icmp_ge (tgt := 43) hx hb dX1_isDigitNext_8 (by decide) (fun hc => ?_) (fun hc => ?_)
  · have hf := zif_t hc hf
    refine lv_iconst (v := (0 : Int32)) hx hb dX1_isDigitNext_43 (by decide) ?_
    refine W.widen (k := 0) (n := 0) (Nat.le_of_ble_eq_true rfl) (Nat.le_of_ble_eq_true rfl) ?_
    exact x_iret hx hb hr (by decide) hlocks B hf dX1_isDigitNext_44
  · have hf := zif_f hc hf
    refine lv_aload_n hx hb dX1_isDigitNext_11 rfl (lv_at hl 0 rfl) ?_
    refine x_getr hx hb hts hinRX1 hown B 52 0 53 (by decide) (by decide) (fun _ => rfl) rfl rfl (by decide) (by decide +kernel) rfl dX1_isDigitNext_12 ?_
    refine lv_aload_n hx hb dX1_isDigitNext_15 rfl (lv_at hl 0 rfl) ?_
    refine x_geti hx hb hts hinRX1 hown B 52 7 (by decide) (fun _ => rfl) rfl rfl (by decide) (by decide +kernel) rfl dX1_isDigitNext_16 ?_
    obtain ⟨hg, hf⟩ := zg_some hf
    refine x_cald hx hb B 53 (by decide) (fun _ => rfl) (zin_ok hg) dX1_isDigitNext_19 ?_
    refine lv_bipush (v := (48 : Int32)) hx hb dX1_isDigitNext_20 (by decide) ?_
    refine lv_icmp_lt (tgt := 43) hx hb dX1_isDigitNext_22 (by decide) (fun hc => ?_) (fun hc => ?_)
    · have hf := zif_t hc hf
      refine lv_iconst (v := (0 : Int32)) hx hb dX1_isDigitNext_43 (by decide) ?_
      refine W.widen (k := 0) (n := 0) (Nat.le_of_ble_eq_true rfl) (Nat.le_of_ble_eq_true rfl) ?_
      exact x_iret hx hb hr (by decide) hlocks B hf dX1_isDigitNext_44
    · have hf := zif_f hc hf
      refine lv_aload_n hx hb dX1_isDigitNext_25 rfl (lv_at hl 0 rfl) ?_
      refine x_getr hx hb hts hinRX1 hown B 52 0 53 (by decide) (by decide) (fun _ => rfl) rfl rfl (by decide) (by decide +kernel) rfl dX1_isDigitNext_26 ?_
      refine lv_aload_n hx hb dX1_isDigitNext_29 rfl (lv_at hl 0 rfl) ?_
      refine x_geti hx hb hts hinRX1 hown B 52 7 (by decide) (fun _ => rfl) rfl rfl (by decide) (by decide +kernel) rfl dX1_isDigitNext_30 ?_
      obtain ⟨hg, hf⟩ := zg_some hf
      refine x_cald hx hb B 53 (by decide) (fun _ => rfl) (zin_ok hg) dX1_isDigitNext_33 ?_
      refine lv_bipush (v := (57 : Int32)) hx hb dX1_isDigitNext_34 (by decide) ?_
      refine lv_icmp_gt (tgt := 43) hx hb dX1_isDigitNext_36 (by decide) (fun hc => ?_) (fun hc => ?_)
      · have hf := zif_t hc hf
        refine lv_iconst (v := (0 : Int32)) hx hb dX1_isDigitNext_43 (by decide) ?_
        refine W.widen (k := 0) (n := 0) (Nat.le_of_ble_eq_true rfl) (Nat.le_of_ble_eq_true rfl) ?_
        exact x_iret hx hb hr (by decide) hlocks B hf dX1_isDigitNext_44
      · have hf := zif_f hc hf
        refine lv_iconst (v := (1 : Int32)) hx hb dX1_isDigitNext_39 (by decide) ?_
        refine lv_goto (tgt := 44) hx hb dX1_isDigitNext_40 (by decide) ?_
        refine W.widen (k := 0) (n := 0) (Nat.le_of_ble_eq_true rfl) (Nat.le_of_ble_eq_true rfl) ?_
        exact x_iret hx hb hr (by decide) hlocks B hf dX1_isDigitNext_44
theorem dX1_isNext_0 : decode cX1_isNext 0 = .ok (.aload_n 0, 1) := by decide +kernel
theorem dX1_isNext_1 : decode cX1_isNext 1 = .ok (.getfield 32, 3) := by decide +kernel
theorem dX1_isNext_4 : decode cX1_isNext 4 = .ok (.aload_n 0, 1) := by decide +kernel
theorem dX1_isNext_5 : decode cX1_isNext 5 = .ok (.getfield 29, 3) := by decide +kernel
theorem dX1_isNext_8 : decode cX1_isNext 8 = .ok (.if_icmp .ge 20, 3) := by decide +kernel
theorem dX1_isNext_11 : decode cX1_isNext 11 = .ok (.aload_n 0, 1) := by decide +kernel
theorem dX1_isNext_12 : decode cX1_isNext 12 = .ok (.getfield 9, 3) := by decide +kernel
theorem dX1_isNext_15 : decode cX1_isNext 15 = .ok (.aload_n 0, 1) := by decide +kernel
theorem dX1_isNext_16 : decode cX1_isNext 16 = .ok (.getfield 32, 3) := by decide +kernel
theorem dX1_isNext_19 : decode cX1_isNext 19 = .ok (.caload, 1) := by decide +kernel
theorem dX1_isNext_20 : decode cX1_isNext 20 = .ok (.iload_n 1, 1) := by decide +kernel
theorem dX1_isNext_21 : decode cX1_isNext 21 = .ok (.if_icmp .ne 7, 3) := by decide +kernel
theorem dX1_isNext_24 : decode cX1_isNext 24 = .ok (.iconst 1, 1) := by decide +kernel
theorem dX1_isNext_25 : decode cX1_isNext 25 = .ok (.goto 4, 3) := by decide +kernel
theorem dX1_isNext_28 : decode cX1_isNext 28 = .ok (.iconst 0, 1) := by decide +kernel
theorem dX1_isNext_29 : decode cX1_isNext 29 = .ok (.ireturn, 1) := by decide +kernel
def rm_X1_isNext : Room := { frames := 1, cells := 0, slots := 0, locals := 16 }
set_option maxHeartbeats 4000000 in
set_option maxRecDepth 100000 in
theorem c_X1_isNext (l : Launch) {G : zG} {ad : Nat → Nat} {σ σ' : zs} {a1 : Int32} {r : Int32} (hf : f_X1_isNext σ a1 = some (r, σ')) : xMi l yX1_isNext wsX1_isNext rm_X1_isNext G ad σ [.ref (ad 52), .int a1] r σ' := by
  intro sz nb a g hs
  refine Met.ofW (cc := cX1_isNext) (maxL := 2) (ret := (some .boolean)) (by decide) rfl ?_
  intro p e s m args below meth c s₁ B hml hv
  obtain ⟨rfl, hsz, hv⟩ := hv
  have hx := B.exec
  have hb := B.bytes
  have hr := B.returns
  have hts := atoms_spec (ws := wsX1_isNext) B.pre
  have hown : s.vm.findClass RX1 = some m.cls := findClass_of_methodNamed B.named
  have hlocks := B.notSynchronized
  subst hsz
  have B := xB_start hs hv
  have hinRX1 : ∀ w ∈ wsX10, w ∈ wsX1_isNext := by decide +kernel
  have hl := lv_entry ([.ref (ad 52), .int a1]) (n := 2) (Nat.le_of_ble_eq_true rfl)
  rw [lg_entry_eq]
  generalize (lg_sl ([.ref (ad 52), .int a1]) ++ List.replicate (2 - (lg_sl ([.ref (ad 52), .int a1])).length) Slot.unset).toArray = ls at hl ⊢
  have hl : lv_has ls 2 [(0, .ref (ad 52)), (1, .int a1)] := hl
  generalize hAe : xA ad a s.heap.size = A at B ⊢
  unfold f_X1_isNext at hf
  refine lv_aload_n hx hb dX1_isNext_0 rfl (lv_at hl 0 rfl) ?_
  refine x_geti hx hb hts hinRX1 hown B 52 7 (by decide) (fun _ => rfl) rfl rfl (by decide) (by decide +kernel) rfl dX1_isNext_1 ?_
  refine lv_aload_n hx hb dX1_isNext_4 rfl (lv_at hl 0 rfl) ?_
  refine x_geti hx hb hts hinRX1 hown B 52 1 (by decide) (fun _ => rfl) rfl rfl (by decide) (by decide +kernel) rfl dX1_isNext_5 ?_
  refine lv_icmp_ge (tgt := 28) hx hb dX1_isNext_8 (by decide) (fun hc => ?_) (fun hc => ?_)
  · have hf := zif_t hc hf
    refine lv_iconst (v := (0 : Int32)) hx hb dX1_isNext_28 (by decide) ?_
    refine W.widen (k := 0) (n := 0) (Nat.le_of_ble_eq_true rfl) (Nat.le_of_ble_eq_true rfl) ?_
    exact x_iret hx hb hr (by decide) hlocks B hf dX1_isNext_29
  · have hf := zif_f hc hf
    refine lv_aload_n hx hb dX1_isNext_11 rfl (lv_at hl 0 rfl) ?_
    refine x_getr hx hb hts hinRX1 hown B 52 0 53 (by decide) (by decide) (fun _ => rfl) rfl rfl (by decide) (by decide +kernel) rfl dX1_isNext_12 ?_
    refine lv_aload_n hx hb dX1_isNext_15 rfl (lv_at hl 0 rfl) ?_
    refine x_geti hx hb hts hinRX1 hown B 52 7 (by decide) (fun _ => rfl) rfl rfl (by decide) (by decide +kernel) rfl dX1_isNext_16 ?_
    obtain ⟨hg, hf⟩ := zg_some hf
    refine x_cald hx hb B 53 (by decide) (fun _ => rfl) (zin_ok hg) dX1_isNext_19 ?_
    refine lv_iload_n hx hb dX1_isNext_20 rfl (lv_at hl 1 rfl) ?_
    refine lv_icmp_ne (tgt := 28) hx hb dX1_isNext_21 (by decide) (fun hc => ?_) (fun hc => ?_)
    · have hf := zif_f hc hf
      refine lv_iconst (v := (0 : Int32)) hx hb dX1_isNext_28 (by decide) ?_
      refine W.widen (k := 0) (n := 0) (Nat.le_of_ble_eq_true rfl) (Nat.le_of_ble_eq_true rfl) ?_
      exact x_iret hx hb hr (by decide) hlocks B hf dX1_isNext_29
    · have hf := zif_t hc hf
      refine lv_iconst (v := (1 : Int32)) hx hb dX1_isNext_24 (by decide) ?_
      refine lv_goto (tgt := 29) hx hb dX1_isNext_25 (by decide) ?_
      refine W.widen (k := 0) (n := 0) (Nat.le_of_ble_eq_true rfl) (Nat.le_of_ble_eq_true rfl) ?_
      exact x_iret hx hb hr (by decide) hlocks B hf dX1_isNext_29
theorem dX1_readNumber_0 : decode cX1_readNumber 0 = .ok (.aload_n 0, 1) := by decide +kernel
theorem dX1_readNumber_1 : decode cX1_readNumber 1 = .ok (.invokevirtual 64, 3) := by decide +kernel
theorem dX1_readNumber_4 : decode cX1_readNumber 4 = .ok (.ifCond .ne 13, 3) := by decide +kernel
theorem dX1_readNumber_7 : decode cX1_readNumber 7 = .ok (.aload_n 0, 1) := by decide +kernel
theorem dX1_readNumber_8 : decode cX1_readNumber 8 = .ok (.aload_n 0, 1) := by decide +kernel
theorem dX1_readNumber_9 : decode cX1_readNumber 9 = .ok (.getfield 32, 3) := by decide +kernel
theorem dX1_readNumber_12 : decode cX1_readNumber 12 = .ok (.putfield 15, 3) := by decide +kernel
theorem dX1_readNumber_15 : decode cX1_readNumber 15 = .ok (.iconst 0, 1) := by decide +kernel
theorem dX1_readNumber_16 : decode cX1_readNumber 16 = .ok (.ireturn, 1) := by decide +kernel
theorem dX1_readNumber_17 : decode cX1_readNumber 17 = .ok (.aload_n 0, 1) := by decide +kernel
theorem dX1_readNumber_18 : decode cX1_readNumber 18 = .ok (.bipush 48, 2) := by decide +kernel
theorem dX1_readNumber_20 : decode cX1_readNumber 20 = .ok (.invokevirtual 42, 3) := by decide +kernel
theorem dX1_readNumber_23 : decode cX1_readNumber 23 = .ok (.ifCond .eq 15, 3) := by decide +kernel
theorem dX1_readNumber_26 : decode cX1_readNumber 26 = .ok (.aload_n 0, 1) := by decide +kernel
theorem dX1_readNumber_27 : decode cX1_readNumber 27 = .ok (.dup, 1) := by decide +kernel
theorem dX1_readNumber_28 : decode cX1_readNumber 28 = .ok (.getfield 32, 3) := by decide +kernel
theorem dX1_readNumber_31 : decode cX1_readNumber 31 = .ok (.iconst 1, 1) := by decide +kernel
theorem dX1_readNumber_32 : decode cX1_readNumber 32 = .ok (.iadd, 1) := by decide +kernel
theorem dX1_readNumber_33 : decode cX1_readNumber 33 = .ok (.putfield 32, 3) := by decide +kernel
theorem dX1_readNumber_36 : decode cX1_readNumber 36 = .ok (.iconst 0, 1) := by decide +kernel
theorem dX1_readNumber_37 : decode cX1_readNumber 37 = .ok (.ireturn, 1) := by decide +kernel
theorem dX1_readNumber_38 : decode cX1_readNumber 38 = .ok (.iconst 0, 1) := by decide +kernel
theorem dX1_readNumber_39 : decode cX1_readNumber 39 = .ok (.istore_n 1, 1) := by decide +kernel
theorem dX1_readNumber_40 : decode cX1_readNumber 40 = .ok (.iconst 0, 1) := by decide +kernel
theorem dX1_readNumber_41 : decode cX1_readNumber 41 = .ok (.istore_n 2, 1) := by decide +kernel
theorem dX1_readNumber_42 : decode cX1_readNumber 42 = .ok (.iload_n 2, 1) := by decide +kernel
theorem dX1_readNumber_43 : decode cX1_readNumber 43 = .ok (.iconst 3, 1) := by decide +kernel
theorem dX1_readNumber_44 : decode cX1_readNumber 44 = .ok (.if_icmp .ge 44, 3) := by decide +kernel
theorem dX1_readNumber_47 : decode cX1_readNumber 47 = .ok (.aload_n 0, 1) := by decide +kernel
theorem dX1_readNumber_48 : decode cX1_readNumber 48 = .ok (.invokevirtual 64, 3) := by decide +kernel
theorem dX1_readNumber_51 : decode cX1_readNumber 51 = .ok (.ifCond .eq 37, 3) := by decide +kernel
theorem dX1_readNumber_54 : decode cX1_readNumber 54 = .ok (.bipush 10, 2) := by decide +kernel
theorem dX1_readNumber_56 : decode cX1_readNumber 56 = .ok (.iload_n 1, 1) := by decide +kernel
theorem dX1_readNumber_57 : decode cX1_readNumber 57 = .ok (.imul, 1) := by decide +kernel
theorem dX1_readNumber_58 : decode cX1_readNumber 58 = .ok (.aload_n 0, 1) := by decide +kernel
theorem dX1_readNumber_59 : decode cX1_readNumber 59 = .ok (.getfield 9, 3) := by decide +kernel
theorem dX1_readNumber_62 : decode cX1_readNumber 62 = .ok (.aload_n 0, 1) := by decide +kernel
theorem dX1_readNumber_63 : decode cX1_readNumber 63 = .ok (.getfield 32, 3) := by decide +kernel
theorem dX1_readNumber_66 : decode cX1_readNumber 66 = .ok (.caload, 1) := by decide +kernel
theorem dX1_readNumber_67 : decode cX1_readNumber 67 = .ok (.iadd, 1) := by decide +kernel
theorem dX1_readNumber_68 : decode cX1_readNumber 68 = .ok (.bipush 48, 2) := by decide +kernel
theorem dX1_readNumber_70 : decode cX1_readNumber 70 = .ok (.isub, 1) := by decide +kernel
theorem dX1_readNumber_71 : decode cX1_readNumber 71 = .ok (.istore_n 1, 1) := by decide +kernel
theorem dX1_readNumber_72 : decode cX1_readNumber 72 = .ok (.aload_n 0, 1) := by decide +kernel
theorem dX1_readNumber_73 : decode cX1_readNumber 73 = .ok (.dup, 1) := by decide +kernel
theorem dX1_readNumber_74 : decode cX1_readNumber 74 = .ok (.getfield 32, 3) := by decide +kernel
theorem dX1_readNumber_77 : decode cX1_readNumber 77 = .ok (.iconst 1, 1) := by decide +kernel
theorem dX1_readNumber_78 : decode cX1_readNumber 78 = .ok (.iadd, 1) := by decide +kernel
theorem dX1_readNumber_79 : decode cX1_readNumber 79 = .ok (.putfield 32, 3) := by decide +kernel
theorem dX1_readNumber_82 : decode cX1_readNumber 82 = .ok (.iinc 2 1, 3) := by decide +kernel
theorem dX1_readNumber_85 : decode cX1_readNumber 85 = .ok (.goto (-43), 3) := by decide +kernel
theorem dX1_readNumber_88 : decode cX1_readNumber 88 = .ok (.iload_n 1, 1) := by decide +kernel
theorem dX1_readNumber_89 : decode cX1_readNumber 89 = .ok (.ireturn, 1) := by decide +kernel
set_option maxRecDepth 20000 in
theorem ggX1_readNumber_X1_isDigitNext : GoodIn wsX1_readNumber wsX1_isDigitNext := goodIn_ca (goodIn_r _ [8, 1, 9, 3, 14, 15, 16, 17, 18, 19, 20, 21] (by decide +kernel) (by decide +kernel)) (goodIn_sub (fun _ h => List.mem_cons_of_mem _ (List.mem_append_right _ h)) (by decide +kernel))
set_option maxRecDepth 20000 in
theorem gX1_readNumber_X1_isDigitNext : GoodIn wsX1_readNumber (wsV RX1 64 RX1 yX1_isDigitNext wsX1_isDigitNext) := goodIn_app (goodIn_of _ (by decide +kernel)) ggX1_readNumber_X1_isDigitNext
set_option maxRecDepth 20000 in
theorem ggX1_readNumber_X1_isNext : GoodIn wsX1_readNumber wsX1_isNext := goodIn_ca (goodIn_r _ [13, 1, 9, 3, 14, 15, 16, 17, 18, 19, 20, 21] (by decide +kernel) (by decide +kernel)) (goodIn_sub (fun _ h => List.mem_cons_of_mem _ (List.mem_append_right _ h)) (by decide +kernel))
set_option maxRecDepth 20000 in
theorem gX1_readNumber_X1_isNext : GoodIn wsX1_readNumber (wsV RX1 42 RX1 yX1_isNext wsX1_isNext) := goodIn_app (goodIn_of _ (by decide +kernel)) ggX1_readNumber_X1_isNext
def rm_X1_readNumber : Room := { frames := 2, cells := 0, slots := 0, locals := 37 }
set_option maxHeartbeats 4000000 in
set_option maxRecDepth 100000 in
theorem c_X1_readNumber (l : Launch) {G : zG} {ad : Nat → Nat} {σ σ' : zs} {r : Int32} (hf : f_X1_readNumber σ  = some (r, σ')) : xMi l yX1_readNumber wsX1_readNumber rm_X1_readNumber G ad σ [.ref (ad 52)] r σ' := by
  intro sz nb a g hs
  refine Met.ofW (cc := cX1_readNumber) (maxL := 3) (ret := (some .int)) (by decide) rfl ?_
  intro p e s m args below meth c s₁ B hml hv
  obtain ⟨rfl, hsz, hv⟩ := hv
  have hx := B.exec
  have hb := B.bytes
  have hr := B.returns
  have hts := atoms_spec (ws := wsX1_readNumber) B.pre
  have hown : s.vm.findClass RX1 = some m.cls := findClass_of_methodNamed B.named
  have hlocks := B.notSynchronized
  subst hsz
  have B := xB_start hs hv
  have hinRX1 : ∀ w ∈ wsX10, w ∈ wsX1_readNumber := by decide +kernel
  have hl := lv_entry ([.ref (ad 52)]) (n := 3) (Nat.le_of_ble_eq_true rfl)
  rw [lg_entry_eq]
  generalize (lg_sl ([.ref (ad 52)]) ++ List.replicate (3 - (lg_sl ([.ref (ad 52)])).length) Slot.unset).toArray = ls at hl ⊢
  have hl : lv_has ls 3 [(0, .ref (ad 52))] := hl
  generalize hAe : xA ad a s.heap.size = A at B ⊢
  have L42 : ∀ (n : Nat) (σ : zs) (v1 : Int32) (v2 : Int32) (H : Heap) (locs : List Loc) (ls : Array Slot), zlp2 (f_X1_readNumber_42) n σ v1 v2 = some (r, σ') → xB A s G ad σ H locs → lv_has ls 3 [(0, .ref (ad 52)), (1, .int v1), (2, .int v2)] → W p l e (headSpec wsX1_readNumber rm_X1_readNumber).room s m ([.ref (ad 52)] : List Value).toArray below meth c H locs 0 0 (MQ below (va_Qi (fun r' (u : xV) => r' = r ∧ xQ σ' u) (xPost G ad σ' A) A) ([.ref (ad 52)] : List Value).toArray s 0 0 A) (F0 m 42 ls []) := by
    intro n
    induction n with
    | zero =>
      intro σ v1 v2 H locs ls hf
      cases hf
    | succ n ih =>
      intro σ v1 v2 H locs ls hf B hl
      have hf : f_X1_readNumber_42 (zlp2 (f_X1_readNumber_42) n) σ v1 v2 = some (r, σ') := hf
      unfold f_X1_readNumber_42 at hf
      refine lv_iload_n hx hb dX1_readNumber_42 rfl (lv_at hl 2 rfl) ?_
      refine lv_iconst (v := (3 : Int32)) hx hb dX1_readNumber_43 (by decide) ?_
      refine lv_icmp_ge (tgt := 88) hx hb dX1_readNumber_44 (by decide) (fun hc => ?_) (fun hc => ?_)
      · have hf := zif_t hc hf
        refine lv_iload_n hx hb dX1_readNumber_88 rfl (lv_at hl 1 rfl) ?_
        refine W.widen (k := 0) (n := 0) (Nat.le_of_ble_eq_true rfl) (Nat.le_of_ble_eq_true rfl) ?_
        exact x_iret hx hb hr rfl hlocks B hf dX1_readNumber_89
      · have hf := zif_f hc hf
        refine lv_aload_n hx hb dX1_readNumber_47 rfl (lv_at hl 0 rfl) ?_
        obtain ⟨r8, σ9, hu7, hf⟩ := zb_some hf
        refine x_i B (fun nb a g hs Bz => va_runV (As := []) (rest := []) ⟨hx, hb, hml, hown, hts⟩ (c_X1_isDigitNext l hu7 _ nb a g hs) (cwV 0 hts gX1_readNumber_X1_isDigitNext rfl rfl rfl (by decide +kernel) ⟨Nat.le_of_ble_eq_true rfl, Nat.le_of_ble_eq_true rfl⟩) (x_preV Bz (by decide) (fun _ => rfl) rfl) rfl rfl hl.1 rfl (lv_room (Nat.le_of_ble_eq_true rfl)) dX1_readNumber_48 ⟨Nat.le_of_ble_eq_true rfl, Nat.le_of_ble_eq_true rfl⟩) (fun H locs B => ?_)
        refine lv_if_eq (tgt := 88) hx hb dX1_readNumber_51 (by decide) (fun hc => ?_) (fun hc => ?_)
        · have hf := zif_t hc hf
          refine lv_iload_n hx hb dX1_readNumber_88 rfl (lv_at hl 1 rfl) ?_
          refine W.widen (k := 0) (n := 0) (Nat.le_of_ble_eq_true rfl) (Nat.le_of_ble_eq_true rfl) ?_
          exact x_iret hx hb hr rfl hlocks B hf dX1_readNumber_89
        · have hf := zif_f hc hf
          refine lv_bipush (v := (10 : Int32)) hx hb dX1_readNumber_54 (by decide) ?_
          refine lv_iload_n hx hb dX1_readNumber_56 rfl (lv_at hl 1 rfl) ?_
          refine lv_imul hx hb dX1_readNumber_57 ?_
          refine lv_aload_n hx hb dX1_readNumber_58 rfl (lv_at hl 0 rfl) ?_
          refine x_getr hx hb hts hinRX1 hown B 52 0 53 (by decide) (by decide) (fun _ => rfl) rfl rfl (by decide) (by decide +kernel) rfl dX1_readNumber_59 ?_
          refine lv_aload_n hx hb dX1_readNumber_62 rfl (lv_at hl 0 rfl) ?_
          refine x_geti hx hb hts hinRX1 hown B 52 7 (by decide) (fun _ => rfl) rfl rfl (by decide) (by decide +kernel) rfl dX1_readNumber_63 ?_
          obtain ⟨hg, hf⟩ := zg_some hf
          refine x_cald hx hb B 53 (by decide) (fun _ => rfl) (zin_ok hg) dX1_readNumber_66 ?_
          refine lv_iadd hx hb dX1_readNumber_67 ?_
          refine lv_bipush (v := (48 : Int32)) hx hb dX1_readNumber_68 (by decide) ?_
          refine lv_isub hx hb dX1_readNumber_70 ?_
          refine lv_istore_n (lv' := [(1, .int ((((10 : Int32) * v1) + (σ9 53 (σ9 52 7).toNatClampNeg)) - (48 : Int32))), (0, .ref (ad 52)), (2, .int v2)]) hx hb dX1_readNumber_71 rfl hl (by decide) rfl (fun ls hl => ?_)
          refine lv_aload_n hx hb dX1_readNumber_72 rfl (lv_at hl 1 rfl) ?_
          refine lv_dup hx hb dX1_readNumber_73 rfl ?_
          refine x_geti hx hb hts hinRX1 hown B 52 7 (by decide) (fun _ => rfl) rfl rfl (by decide) (by decide +kernel) rfl dX1_readNumber_74 ?_
          refine lv_iconst (v := (1 : Int32)) hx hb dX1_readNumber_77 (by decide) ?_
          refine lv_iadd hx hb dX1_readNumber_78 ?_
          refine x_puti hx hb hts hinRX1 hown tyX1 tyX1_ok nmX1 B 52 7 (by decide) (by decide) (fun _ => rfl) rfl rfl (by decide) (by decide +kernel) rfl rfl rfl rfl dX1_readNumber_79 (fun H locs B => ?_)
          refine lv_iinc (v := (v2 + (1 : Int32))) (lv' := [(2, .int (v2 + (1 : Int32))), (1, .int ((((10 : Int32) * v1) + (σ9 53 (σ9 52 7).toNatClampNeg)) - (48 : Int32))), (0, .ref (ad 52))]) hx hb dX1_readNumber_82 hl (k := 2) rfl (zc1 (by decide)) (by decide) rfl (fun ls hl => ?_)
          refine lv_goto (tgt := 42) hx hb dX1_readNumber_85 (by decide) ?_
          exact ih _ _ _ _ _ _ hf B (lv_sub hl [2, 1, 0] rfl)
  unfold f_X1_readNumber at hf
  refine lv_aload_n hx hb dX1_readNumber_0 rfl (lv_at hl 0 rfl) ?_
  obtain ⟨r2, σ3, hu1, hf⟩ := zb_some hf
  refine x_i B (fun nb a g hs Bz => va_runV (As := []) (rest := []) ⟨hx, hb, hml, hown, hts⟩ (c_X1_isDigitNext l hu1 _ nb a g hs) (cwV 0 hts gX1_readNumber_X1_isDigitNext rfl rfl rfl (by decide +kernel) ⟨Nat.le_of_ble_eq_true rfl, Nat.le_of_ble_eq_true rfl⟩) (x_preV Bz (by decide) (fun _ => rfl) rfl) rfl rfl hl.1 rfl (lv_room (Nat.le_of_ble_eq_true rfl)) dX1_readNumber_1 ⟨Nat.le_of_ble_eq_true rfl, Nat.le_of_ble_eq_true rfl⟩) (fun H locs B => ?_)
  refine lv_if_ne (tgt := 17) hx hb dX1_readNumber_4 (by decide) (fun hc => ?_) (fun hc => ?_)
  · have hf := zif_f hc hf
    refine lv_aload_n hx hb dX1_readNumber_17 rfl (lv_at hl 0 rfl) ?_
    refine lv_bipush (v := (48 : Int32)) hx hb dX1_readNumber_18 (by decide) ?_
    obtain ⟨r5, σ6, hu4, hf⟩ := zb_some hf
    refine x_i B (fun nb a g hs Bz => va_runV (As := [.int (48 : Int32)]) (rest := []) ⟨hx, hb, hml, hown, hts⟩ (c_X1_isNext l hu4 _ nb a g hs) (cwV 1 hts gX1_readNumber_X1_isNext rfl rfl rfl (by decide +kernel) ⟨Nat.le_of_ble_eq_true rfl, Nat.le_of_ble_eq_true rfl⟩) (x_preV Bz (by decide) (fun _ => rfl) rfl) rfl rfl hl.1 rfl (lv_room (Nat.le_of_ble_eq_true rfl)) dX1_readNumber_20 ⟨Nat.le_of_ble_eq_true rfl, Nat.le_of_ble_eq_true rfl⟩) (fun H locs B => ?_)
    refine lv_if_eq (tgt := 38) hx hb dX1_readNumber_23 (by decide) (fun hc => ?_) (fun hc => ?_)
    · have hf := zif_t hc hf
      refine lv_iconst (v := (0 : Int32)) hx hb dX1_readNumber_38 (by decide) ?_
      refine lv_istore_n (lv' := [(1, .int (0 : Int32)), (0, .ref (ad 52))]) hx hb dX1_readNumber_39 rfl hl (by decide) rfl (fun ls hl => ?_)
      refine lv_iconst (v := (0 : Int32)) hx hb dX1_readNumber_40 (by decide) ?_
      refine lv_istore_n (lv' := [(2, .int (0 : Int32)), (1, .int (0 : Int32)), (0, .ref (ad 52))]) hx hb dX1_readNumber_41 rfl hl (by decide) rfl (fun ls hl => ?_)
      exact L42  _ _ _ _ _ _ _ hf B (lv_sub hl [2, 1, 0] rfl)
    · have hf := zif_f hc hf
      refine lv_aload_n hx hb dX1_readNumber_26 rfl (lv_at hl 0 rfl) ?_
      refine lv_dup hx hb dX1_readNumber_27 rfl ?_
      refine x_geti hx hb hts hinRX1 hown B 52 7 (by decide) (fun _ => rfl) rfl rfl (by decide) (by decide +kernel) rfl dX1_readNumber_28 ?_
      refine lv_iconst (v := (1 : Int32)) hx hb dX1_readNumber_31 (by decide) ?_
      refine lv_iadd hx hb dX1_readNumber_32 ?_
      refine x_puti hx hb hts hinRX1 hown tyX1 tyX1_ok nmX1 B 52 7 (by decide) (by decide) (fun _ => rfl) rfl rfl (by decide) (by decide +kernel) rfl rfl rfl rfl dX1_readNumber_33 (fun H locs B => ?_)
      refine lv_iconst (v := (0 : Int32)) hx hb dX1_readNumber_36 (by decide) ?_
      refine W.widen (k := 0) (n := 0) (Nat.le_of_ble_eq_true rfl) (Nat.le_of_ble_eq_true rfl) ?_
      exact x_iret hx hb hr rfl hlocks B hf dX1_readNumber_37
  · have hf := zif_t hc hf
    refine lv_aload_n hx hb dX1_readNumber_7 rfl (lv_at hl 0 rfl) ?_
    refine lv_aload_n hx hb dX1_readNumber_8 rfl (lv_at hl 0 rfl) ?_
    refine x_geti hx hb hts hinRX1 hown B 52 7 (by decide) (fun _ => rfl) rfl rfl (by decide) (by decide +kernel) rfl dX1_readNumber_9 ?_
    refine x_puti hx hb hts hinRX1 hown tyX1 tyX1_ok nmX1 B 52 2 (by decide) (by decide) (fun _ => rfl) rfl rfl (by decide) (by decide +kernel) rfl rfl rfl rfl dX1_readNumber_12 (fun H locs B => ?_)
    refine lv_iconst (v := (0 : Int32)) hx hb dX1_readNumber_15 (by decide) ?_
    refine W.widen (k := 0) (n := 0) (Nat.le_of_ble_eq_true rfl) (Nat.le_of_ble_eq_true rfl) ?_
    exact x_iret hx hb hr rfl hlocks B hf dX1_readNumber_16
theorem dX1_readEnd_0 : decode cX1_readEnd 0 = .ok (.aload_n 0, 1) := by decide +kernel
theorem dX1_readEnd_1 : decode cX1_readEnd 1 = .ok (.bipush 45, 2) := by decide +kernel
theorem dX1_readEnd_3 : decode cX1_readEnd 3 = .ok (.invokevirtual 42, 3) := by decide +kernel
theorem dX1_readEnd_6 : decode cX1_readEnd 6 = .ok (.ifCond .ne 12, 3) := by decide +kernel
theorem dX1_readEnd_9 : decode cX1_readEnd 9 = .ok (.aload_n 0, 1) := by decide +kernel
theorem dX1_readEnd_10 : decode cX1_readEnd 10 = .ok (.aload_n 0, 1) := by decide +kernel
theorem dX1_readEnd_11 : decode cX1_readEnd 11 = .ok (.getfield 32, 3) := by decide +kernel
theorem dX1_readEnd_14 : decode cX1_readEnd 14 = .ok (.putfield 15, 3) := by decide +kernel
theorem dX1_readEnd_17 : decode cX1_readEnd 17 = .ok (.return_, 1) := by decide +kernel
theorem dX1_readEnd_18 : decode cX1_readEnd 18 = .ok (.aload_n 0, 1) := by decide +kernel
theorem dX1_readEnd_19 : decode cX1_readEnd 19 = .ok (.dup, 1) := by decide +kernel
theorem dX1_readEnd_20 : decode cX1_readEnd 20 = .ok (.getfield 32, 3) := by decide +kernel
theorem dX1_readEnd_23 : decode cX1_readEnd 23 = .ok (.iconst 1, 1) := by decide +kernel
theorem dX1_readEnd_24 : decode cX1_readEnd 24 = .ok (.iadd, 1) := by decide +kernel
theorem dX1_readEnd_25 : decode cX1_readEnd 25 = .ok (.putfield 32, 3) := by decide +kernel
theorem dX1_readEnd_28 : decode cX1_readEnd 28 = .ok (.aload_n 0, 1) := by decide +kernel
theorem dX1_readEnd_29 : decode cX1_readEnd 29 = .ok (.getfield 32, 3) := by decide +kernel
theorem dX1_readEnd_32 : decode cX1_readEnd 32 = .ok (.istore_n 2, 1) := by decide +kernel
theorem dX1_readEnd_33 : decode cX1_readEnd 33 = .ok (.aload_n 0, 1) := by decide +kernel
theorem dX1_readEnd_34 : decode cX1_readEnd 34 = .ok (.getfield 26, 3) := by decide +kernel
theorem dX1_readEnd_37 : decode cX1_readEnd 37 = .ok (.iload_n 1, 1) := by decide +kernel
theorem dX1_readEnd_38 : decode cX1_readEnd 38 = .ok (.aload_n 0, 1) := by decide +kernel
theorem dX1_readEnd_39 : decode cX1_readEnd 39 = .ok (.invokevirtual 54, 3) := by decide +kernel
theorem dX1_readEnd_42 : decode cX1_readEnd 42 = .ok (.iastore, 1) := by decide +kernel
theorem dX1_readEnd_43 : decode cX1_readEnd 43 = .ok (.aload_n 0, 1) := by decide +kernel
theorem dX1_readEnd_44 : decode cX1_readEnd 44 = .ok (.getfield 15, 3) := by decide +kernel
theorem dX1_readEnd_47 : decode cX1_readEnd 47 = .ok (.iconst (-1), 1) := by decide +kernel
theorem dX1_readEnd_48 : decode cX1_readEnd 48 = .ok (.if_icmp .ne 23, 3) := by decide +kernel
theorem dX1_readEnd_51 : decode cX1_readEnd 51 = .ok (.aload_n 0, 1) := by decide +kernel
theorem dX1_readEnd_52 : decode cX1_readEnd 52 = .ok (.getfield 26, 3) := by decide +kernel
theorem dX1_readEnd_55 : decode cX1_readEnd 55 = .ok (.iload_n 1, 1) := by decide +kernel
theorem dX1_readEnd_56 : decode cX1_readEnd 56 = .ok (.iaload, 1) := by decide +kernel
theorem dX1_readEnd_57 : decode cX1_readEnd 57 = .ok (.aload_n 0, 1) := by decide +kernel
theorem dX1_readEnd_58 : decode cX1_readEnd 58 = .ok (.getfield 23, 3) := by decide +kernel
theorem dX1_readEnd_61 : decode cX1_readEnd 61 = .ok (.iload_n 1, 1) := by decide +kernel
theorem dX1_readEnd_62 : decode cX1_readEnd 62 = .ok (.iaload, 1) := by decide +kernel
theorem dX1_readEnd_63 : decode cX1_readEnd 63 = .ok (.if_icmp .ge 8, 3) := by decide +kernel
theorem dX1_readEnd_66 : decode cX1_readEnd 66 = .ok (.aload_n 0, 1) := by decide +kernel
theorem dX1_readEnd_67 : decode cX1_readEnd 67 = .ok (.iload_n 2, 1) := by decide +kernel
theorem dX1_readEnd_68 : decode cX1_readEnd 68 = .ok (.putfield 15, 3) := by decide +kernel
theorem dX1_readEnd_71 : decode cX1_readEnd 71 = .ok (.return_, 1) := by decide +kernel
set_option maxRecDepth 20000 in
theorem ggX1_readEnd_X1_isNext : GoodIn wsX1_readEnd wsX1_isNext := goodIn_ca (goodIn_r _ [9, 1, 10, 11, 20, 21, 22, 23, 24, 25, 26, 27] (by decide +kernel) (by decide +kernel)) (goodIn_sub (fun _ h => List.mem_cons_of_mem _ (List.mem_append_right _ h)) (by decide +kernel))
set_option maxRecDepth 20000 in
theorem gX1_readEnd_X1_isNext : GoodIn wsX1_readEnd (wsV RX1 42 RX1 yX1_isNext wsX1_isNext) := goodIn_app (goodIn_of _ (by decide +kernel)) ggX1_readEnd_X1_isNext
set_option maxRecDepth 20000 in
theorem ggX1_readEnd_X1_readNumber : GoodIn wsX1_readEnd wsX1_readNumber := goodIn_ca (goodIn_r _ [15, 1, 2, 11, 16, 17, 18, 8, 19, 10, 5, 6, 7, 9, 20, 21, 22, 23, 24, 25, 26, 27] (by decide +kernel) (by decide +kernel)) (goodIn_sub (fun _ h => List.mem_cons_of_mem _ (List.mem_append_right _ h)) (by decide +kernel))
set_option maxRecDepth 20000 in
theorem gX1_readEnd_X1_readNumber : GoodIn wsX1_readEnd (wsV RX1 54 RX1 yX1_readNumber wsX1_readNumber) := goodIn_app (goodIn_of _ (by decide +kernel)) ggX1_readEnd_X1_readNumber
def rm_X1_readEnd : Room := { frames := 3, cells := 0, slots := 0, locals := 59 }
set_option maxHeartbeats 4000000 in
set_option maxRecDepth 100000 in
theorem c_X1_readEnd (l : Launch) {G : zG} {ad : Nat → Nat} {σ σ' : zs} {a1 : Int32} {r : Int32} (hf : f_X1_readEnd σ a1 = some (r, σ')) : xMv l yX1_readEnd wsX1_readEnd rm_X1_readEnd G ad σ [.ref (ad 52), .int a1] σ' := by
  intro sz nb a g hs
  refine Met.ofW (cc := cX1_readEnd) (maxL := 3) (ret := none) (by decide) rfl ?_
  intro p e s m args below meth c s₁ B hml hv
  obtain ⟨rfl, hsz, hv⟩ := hv
  have hx := B.exec
  have hb := B.bytes
  have hr := B.returns
  have hts := atoms_spec (ws := wsX1_readEnd) B.pre
  have hown : s.vm.findClass RX1 = some m.cls := findClass_of_methodNamed B.named
  have hlocks := B.notSynchronized
  subst hsz
  have B := xB_start hs hv
  have hinRX1 : ∀ w ∈ wsX10, w ∈ wsX1_readEnd := by decide +kernel
  have hl := lv_entry ([.ref (ad 52), .int a1]) (n := 3) (Nat.le_of_ble_eq_true rfl)
  rw [lg_entry_eq]
  generalize (lg_sl ([.ref (ad 52), .int a1]) ++ List.replicate (3 - (lg_sl ([.ref (ad 52), .int a1])).length) Slot.unset).toArray = ls at hl ⊢
  have hl : lv_has ls 3 [(0, .ref (ad 52)), (1, .int a1)] := hl
  generalize hAe : xA ad a s.heap.size = A at B ⊢
  unfold f_X1_readEnd at hf
  refine lv_aload_n hx hb dX1_readEnd_0 rfl (lv_at hl 0 rfl) ?_
  refine lv_bipush (v := (45 : Int32)) hx hb dX1_readEnd_1 (by decide) ?_
  obtain ⟨r2, σ3, hu1, hf⟩ := zb_some hf
  refine x_i B (fun nb a g hs Bz => va_runV (As := [.int (45 : Int32)]) (rest := []) ⟨hx, hb, hml, hown, hts⟩ (c_X1_isNext l hu1 _ nb a g hs) (cwV 1 hts gX1_readEnd_X1_isNext rfl rfl rfl (by decide +kernel) ⟨Nat.le_of_ble_eq_true rfl, Nat.le_of_ble_eq_true rfl⟩) (x_preV Bz (by decide) (fun _ => rfl) rfl) rfl rfl hl.1 rfl (lv_room (Nat.le_of_ble_eq_true rfl)) dX1_readEnd_3 ⟨Nat.le_of_ble_eq_true rfl, Nat.le_of_ble_eq_true rfl⟩) (fun H locs B => ?_)
  refine lv_if_ne (tgt := 18) hx hb dX1_readEnd_6 (by decide) (fun hc => ?_) (fun hc => ?_)
  · have hf := zif_f hc hf
    refine lv_aload_n hx hb dX1_readEnd_18 rfl (lv_at hl 0 rfl) ?_
    refine lv_dup hx hb dX1_readEnd_19 rfl ?_
    refine x_geti hx hb hts hinRX1 hown B 52 7 (by decide) (fun _ => rfl) rfl rfl (by decide) (by decide +kernel) rfl dX1_readEnd_20 ?_
    refine lv_iconst (v := (1 : Int32)) hx hb dX1_readEnd_23 (by decide) ?_
    refine lv_iadd hx hb dX1_readEnd_24 ?_
    refine x_puti hx hb hts hinRX1 hown tyX1 tyX1_ok nmX1 B 52 7 (by decide) (by decide) (fun _ => rfl) rfl rfl (by decide) (by decide +kernel) rfl rfl rfl rfl dX1_readEnd_25 (fun H locs B => ?_)
    refine lv_aload_n hx hb dX1_readEnd_28 rfl (lv_at hl 0 rfl) ?_
    refine x_geti hx hb hts hinRX1 hown B 52 7 (by decide) (fun _ => rfl) rfl rfl (by decide) (by decide +kernel) rfl dX1_readEnd_29 ?_
    refine lv_istore_n (lv' := [(2, .int ((zp σ3 52 7 ((σ3 52 7) + (1 : Int32))) 52 7)), (0, .ref (ad 52)), (1, .int a1)]) hx hb dX1_readEnd_32 rfl hl (by decide) rfl (fun ls hl => ?_)
    refine lv_aload_n hx hb dX1_readEnd_33 rfl (lv_at hl 1 rfl) ?_
    refine x_getr hx hb hts hinRX1 hown B 52 6 56 (by decide) (by decide) (fun _ => rfl) rfl rfl (by decide) (by decide +kernel) rfl dX1_readEnd_34 ?_
    refine lv_iload_n hx hb dX1_readEnd_37 rfl (lv_at hl 2 rfl) ?_
    refine lv_aload_n hx hb dX1_readEnd_38 rfl (lv_at hl 1 rfl) ?_
    obtain ⟨r5, σ6, hu4, hf⟩ := zb_some hf
    refine x_i B (fun nb a g hs Bz => va_runV (As := []) (rest := [.int a1, .ref (ad 56)]) ⟨hx, hb, hml, hown, hts⟩ (c_X1_readNumber l hu4 _ nb a g hs) (cwV 0 hts gX1_readEnd_X1_readNumber rfl rfl rfl (by decide +kernel) ⟨Nat.le_of_ble_eq_true rfl, Nat.le_of_ble_eq_true rfl⟩) (x_preV Bz (by decide) (fun _ => rfl) rfl) rfl rfl hl.1 rfl (lv_room (Nat.le_of_ble_eq_true rfl)) dX1_readEnd_39 ⟨Nat.le_of_ble_eq_true rfl, Nat.le_of_ble_eq_true rfl⟩) (fun H locs B => ?_)
    obtain ⟨hg, hf⟩ := zg_some hf
    refine x_iast hx hb B 56 (by decide) (by decide) (fun _ => rfl) (zin_ok hg) dX1_readEnd_42 (fun H locs B => ?_)
    refine lv_aload_n hx hb dX1_readEnd_43 rfl (lv_at hl 1 rfl) ?_
    refine x_geti hx hb hts hinRX1 hown B 52 2 (by decide) (fun _ => rfl) rfl rfl (by decide) (by decide +kernel) rfl dX1_readEnd_44 ?_
    refine lv_iconst (v := (-1 : Int32)) hx hb dX1_readEnd_47 (by decide) ?_
    refine lv_icmp_ne (tgt := 71) hx hb dX1_readEnd_48 (by decide) (fun hc => ?_) (fun hc => ?_)
    · have hf := zif_f hc hf
      refine W.widen (k := 0) (n := 0) (Nat.le_of_ble_eq_true rfl) (Nat.le_of_ble_eq_true rfl) ?_
      exact x_vret hx hb hr hlocks B hf dX1_readEnd_71
    · have hf := zif_t hc hf
      refine lv_aload_n hx hb dX1_readEnd_51 rfl (lv_at hl 1 rfl) ?_
      refine x_getr hx hb hts hinRX1 hown B 52 6 56 (by decide) (by decide) (fun _ => rfl) rfl rfl (by decide) (by decide +kernel) rfl dX1_readEnd_52 ?_
      refine lv_iload_n hx hb dX1_readEnd_55 rfl (lv_at hl 2 rfl) ?_
      obtain ⟨hg, hf⟩ := zg_some hf
      refine x_iald hx hb B 56 (by decide) (fun _ => rfl) (zin_ok hg) dX1_readEnd_56 ?_
      refine lv_aload_n hx hb dX1_readEnd_57 rfl (lv_at hl 1 rfl) ?_
      refine x_getr hx hb hts hinRX1 hown B 52 5 55 (by decide) (by decide) (fun _ => rfl) rfl rfl (by decide) (by decide +kernel) rfl dX1_readEnd_58 ?_
      refine lv_iload_n hx hb dX1_readEnd_61 rfl (lv_at hl 2 rfl) ?_
      obtain ⟨hg, hf⟩ := zg_some hf
      refine x_iald hx hb B 55 (by decide) (fun _ => rfl) (zin_ok hg) dX1_readEnd_62 ?_
      refine lv_icmp_ge (tgt := 71) hx hb dX1_readEnd_63 (by decide) (fun hc => ?_) (fun hc => ?_)
      · have hf := zif_t hc hf
        refine W.widen (k := 0) (n := 0) (Nat.le_of_ble_eq_true rfl) (Nat.le_of_ble_eq_true rfl) ?_
        exact x_vret hx hb hr hlocks B hf dX1_readEnd_71
      · have hf := zif_f hc hf
        refine lv_aload_n hx hb dX1_readEnd_66 rfl (lv_at hl 1 rfl) ?_
        refine lv_iload_n hx hb dX1_readEnd_67 rfl (lv_at hl 0 rfl) ?_
        refine x_puti hx hb hts hinRX1 hown tyX1 tyX1_ok nmX1 B 52 2 (by decide) (by decide) (fun _ => rfl) rfl rfl (by decide) (by decide +kernel) rfl rfl rfl rfl dX1_readEnd_68 (fun H locs B => ?_)
        refine W.widen (k := 0) (n := 0) (Nat.le_of_ble_eq_true rfl) (Nat.le_of_ble_eq_true rfl) ?_
        exact x_vret hx hb hr hlocks B hf dX1_readEnd_71
  · have hf := zif_t hc hf
    refine lv_aload_n hx hb dX1_readEnd_9 rfl (lv_at hl 0 rfl) ?_
    refine lv_aload_n hx hb dX1_readEnd_10 rfl (lv_at hl 0 rfl) ?_
    refine x_geti hx hb hts hinRX1 hown B 52 7 (by decide) (fun _ => rfl) rfl rfl (by decide) (by decide +kernel) rfl dX1_readEnd_11 ?_
    refine x_puti hx hb hts hinRX1 hown tyX1 tyX1_ok nmX1 B 52 2 (by decide) (by decide) (fun _ => rfl) rfl rfl (by decide) (by decide +kernel) rfl rfl rfl rfl dX1_readEnd_14 (fun H locs B => ?_)
    refine W.widen (k := 0) (n := 0) (Nat.le_of_ble_eq_true rfl) (Nat.le_of_ble_eq_true rfl) ?_
    exact x_vret hx hb hr hlocks B hf dX1_readEnd_17
theorem dJ0_isLatin1_aae02_0 : decode cJ0_isLatin1_aae02 0 = .ok (.getstatic 38, 3) := by decide +kernel
theorem dJ0_isLatin1_aae02_3 : decode cJ0_isLatin1_aae02 3 = .ok (.ifCond .eq 14, 3) := by decide +kernel
theorem dJ0_isLatin1_aae02_6 : decode cJ0_isLatin1_aae02 6 = .ok (.aload_n 0, 1) := by decide +kernel
theorem dJ0_isLatin1_aae02_7 : decode cJ0_isLatin1_aae02 7 = .ok (.getfield 15, 3) := by decide +kernel
theorem dJ0_isLatin1_aae02_10 : decode cJ0_isLatin1_aae02 10 = .ok (.ifCond .ne 7, 3) := by decide +kernel
theorem dJ0_isLatin1_aae02_13 : decode cJ0_isLatin1_aae02 13 = .ok (.iconst 1, 1) := by decide +kernel
theorem dJ0_isLatin1_aae02_14 : decode cJ0_isLatin1_aae02 14 = .ok (.goto 4, 3) := by decide +kernel
theorem dJ0_isLatin1_aae02_18 : decode cJ0_isLatin1_aae02 18 = .ok (.ireturn, 1) := by decide +kernel
def rm_J0_isLatin1_aae02 : Room := { frames := 1, cells := 0, slots := 0, locals := 16 }
set_option maxHeartbeats 4000000 in
set_option maxRecDepth 100000 in
theorem c_J0_isLatin1_aae02 (l : Launch) {G : zG} {ad : Nat → Nat} {σ σ' : zs} {r : Int32} (hf : f_J0_isLatin1_aae02 σ  = some (r, σ')) : xMi l yJ0_isLatin1_aae02 wsJ0_isLatin1_aae02 rm_J0_isLatin1_aae02 G ad σ [.ref (G.2 4)] r σ' := by
  intro sz nb a g hs
  refine Met.ofW (cc := cJ0_isLatin1_aae02) (maxL := 1) (ret := (some .boolean)) (by decide) rfl ?_
  intro p e s m args below meth c s₁ B hml hv
  obtain ⟨rfl, hsz, hv⟩ := hv
  have hx := B.exec
  have hb := B.bytes
  have hr := B.returns
  have hts := atoms_spec (ws := wsJ0_isLatin1_aae02) B.pre
  have hown : s.vm.findClass RJ0 = some m.cls := findClass_of_methodNamed B.named
  have hlocks := B.notSynchronized
  subst hsz
  have B := xB_start hs hv
  have hl := lv_entry ([.ref (G.2 4)]) (n := 1) (Nat.le_of_ble_eq_true rfl)
  rw [lg_entry_eq]
  generalize (lg_sl ([.ref (G.2 4)]) ++ List.replicate (1 - (lg_sl ([.ref (G.2 4)])).length) Slot.unset).toArray = ls at hl ⊢
  have hl : lv_has ls 1 [(0, .ref (G.2 4))] := hl
  generalize hAe : xA ad a s.heap.size = A at B ⊢
  unfold f_J0_isLatin1_aae02 at hf
  refine x_cs B (fun nb a g hs Bz => z_comp hx hb hts hown Bz (index := 38) (by decide +kernel) rfl dJ0_isLatin1_aae02_0 ?_)
  refine lv_if_eq (tgt := 17) hx hb dJ0_isLatin1_aae02_3 (by decide) (fun hc => absurd hc (by decide)) (fun hc => ?_)
  refine lv_aload_n hx hb dJ0_isLatin1_aae02_6 rfl (lv_at hl 0 rfl) ?_
  refine x_cs B (fun nb a g hs Bz => z_letc hx hb hts hown Bz (index := 15) (by decide +kernel) rfl dJ0_isLatin1_aae02_7 ?_)
  refine lv_if_ne (tgt := 17) hx hb dJ0_isLatin1_aae02_10 (by decide) (fun hc => absurd (by decide) hc) (fun hc => ?_)
  refine lv_iconst (v := (1 : Int32)) hx hb dJ0_isLatin1_aae02_13 (by decide) ?_
  refine lv_goto (tgt := 18) hx hb dJ0_isLatin1_aae02_14 (by decide) ?_
  refine W.widen (k := 0) (n := 0) (Nat.le_of_ble_eq_true rfl) (Nat.le_of_ble_eq_true rfl) ?_
  exact x_iret hx hb hr (by decide) hlocks B hf dJ0_isLatin1_aae02_18
theorem dJ0_coder_7d493_0 : decode cJ0_coder_7d493 0 = .ok (.getstatic 38, 3) := by decide +kernel
theorem dJ0_coder_7d493_3 : decode cJ0_coder_7d493 3 = .ok (.ifCond .eq 10, 3) := by decide +kernel
theorem dJ0_coder_7d493_6 : decode cJ0_coder_7d493 6 = .ok (.aload_n 0, 1) := by decide +kernel
theorem dJ0_coder_7d493_7 : decode cJ0_coder_7d493 7 = .ok (.getfield 15, 3) := by decide +kernel
theorem dJ0_coder_7d493_10 : decode cJ0_coder_7d493 10 = .ok (.goto 4, 3) := by decide +kernel
theorem dJ0_coder_7d493_14 : decode cJ0_coder_7d493 14 = .ok (.ireturn, 1) := by decide +kernel
def rm_J0_coder_7d493 : Room := { frames := 1, cells := 0, slots := 0, locals := 16 }
set_option maxHeartbeats 4000000 in
set_option maxRecDepth 100000 in
theorem c_J0_coder_7d493 (l : Launch) {G : zG} {ad : Nat → Nat} {σ σ' : zs} {r : Int32} (hf : f_J0_coder_7d493 σ  = some (r, σ')) : xMi l yJ0_coder_7d493 wsJ0_coder_7d493 rm_J0_coder_7d493 G ad σ [.ref (G.2 4)] r σ' := by
  intro sz nb a g hs
  refine Met.ofW (cc := cJ0_coder_7d493) (maxL := 1) (ret := (some .byte)) (by decide) rfl ?_
  intro p e s m args below meth c s₁ B hml hv
  obtain ⟨rfl, hsz, hv⟩ := hv
  have hx := B.exec
  have hb := B.bytes
  have hr := B.returns
  have hts := atoms_spec (ws := wsJ0_coder_7d493) B.pre
  have hown : s.vm.findClass RJ0 = some m.cls := findClass_of_methodNamed B.named
  have hlocks := B.notSynchronized
  subst hsz
  have B := xB_start hs hv
  have hl := lv_entry ([.ref (G.2 4)]) (n := 1) (Nat.le_of_ble_eq_true rfl)
  rw [lg_entry_eq]
  generalize (lg_sl ([.ref (G.2 4)]) ++ List.replicate (1 - (lg_sl ([.ref (G.2 4)])).length) Slot.unset).toArray = ls at hl ⊢
  have hl : lv_has ls 1 [(0, .ref (G.2 4))] := hl
  generalize hAe : xA ad a s.heap.size = A at B ⊢
  unfold f_J0_coder_7d493 at hf
  refine x_cs B (fun nb a g hs Bz => z_comp hx hb hts hown Bz (index := 38) (by decide +kernel) rfl dJ0_coder_7d493_0 ?_)
  refine lv_if_eq (tgt := 13) hx hb dJ0_coder_7d493_3 (by decide) (fun hc => absurd hc (by decide)) (fun hc => ?_)
  refine lv_aload_n hx hb dJ0_coder_7d493_6 rfl (lv_at hl 0 rfl) ?_
  refine x_cs B (fun nb a g hs Bz => z_letc hx hb hts hown Bz (index := 15) (by decide +kernel) rfl dJ0_coder_7d493_7 ?_)
  refine lv_goto (tgt := 14) hx hb dJ0_coder_7d493_10 (by decide) ?_
  refine W.widen (k := 0) (n := 0) (Nat.le_of_ble_eq_true rfl) (Nat.le_of_ble_eq_true rfl) ?_
  exact x_iret hx hb hr rfl hlocks B hf dJ0_coder_7d493_14
theorem dJ0_length_8abf5_0 : decode cJ0_length_8abf5 0 = .ok (.aload_n 0, 1) := by decide +kernel
theorem dJ0_length_8abf5_1 : decode cJ0_length_8abf5 1 = .ok (.getfield 9, 3) := by decide +kernel
theorem dJ0_length_8abf5_4 : decode cJ0_length_8abf5 4 = .ok (.arraylength, 1) := by decide +kernel
theorem dJ0_length_8abf5_5 : decode cJ0_length_8abf5 5 = .ok (.aload_n 0, 1) := by decide +kernel
theorem dJ0_length_8abf5_6 : decode cJ0_length_8abf5 6 = .ok (.invokevirtual 335, 3) := by decide +kernel
theorem dJ0_length_8abf5_9 : decode cJ0_length_8abf5 9 = .ok (.ishr, 1) := by decide +kernel
theorem dJ0_length_8abf5_10 : decode cJ0_length_8abf5 10 = .ok (.ireturn, 1) := by decide +kernel
set_option maxRecDepth 20000 in
theorem ggJ0_length_8abf5_J0_coder_7d493 : GoodIn wsJ0_length_8abf5 wsJ0_coder_7d493 := goodIn_r _ [6, 7, 8, 9, 10, 11, 12] (by decide +kernel) (by decide +kernel)
set_option maxRecDepth 20000 in
theorem gJ0_length_8abf5_J0_coder_7d493 : GoodIn wsJ0_length_8abf5 (wsV RJ0 335 RJ0 yJ0_coder_7d493 wsJ0_coder_7d493) := goodIn_app (goodIn_of _ (by decide +kernel)) ggJ0_length_8abf5_J0_coder_7d493
def rm_J0_length_8abf5 : Room := { frames := 2, cells := 0, slots := 0, locals := 36 }
set_option maxHeartbeats 4000000 in
set_option maxRecDepth 100000 in
theorem c_J0_length_8abf5 (l : Launch) {G : zG} {ad : Nat → Nat} {σ σ' : zs} {r : Int32} (hf : f_J0_length_8abf5 σ  = some (r, σ')) : xMi l yJ0_length_8abf5 wsJ0_length_8abf5 rm_J0_length_8abf5 G ad σ [.ref (G.2 4)] r σ' := by
  intro sz nb a g hs
  refine Met.ofW (cc := cJ0_length_8abf5) (maxL := 1) (ret := (some .int)) (by decide) rfl ?_
  intro p e s m args below meth c s₁ B hml hv
  obtain ⟨rfl, hsz, hv⟩ := hv
  have hx := B.exec
  have hb := B.bytes
  have hr := B.returns
  have hts := atoms_spec (ws := wsJ0_length_8abf5) B.pre
  have hown : s.vm.findClass RJ0 = some m.cls := findClass_of_methodNamed B.named
  have hlocks := B.notSynchronized
  subst hsz
  have B := xB_start hs hv
  have hl := lv_entry ([.ref (G.2 4)]) (n := 1) (Nat.le_of_ble_eq_true rfl)
  rw [lg_entry_eq]
  generalize (lg_sl ([.ref (G.2 4)]) ++ List.replicate (1 - (lg_sl ([.ref (G.2 4)])).length) Slot.unset).toArray = ls at hl ⊢
  have hl : lv_has ls 1 [(0, .ref (G.2 4))] := hl
  generalize hAe : xA ad a s.heap.size = A at B ⊢
  unfold f_J0_length_8abf5 at hf
  refine lv_aload_n hx hb dJ0_length_8abf5_0 rfl (lv_at hl 0 rfl) ?_
  refine x_cs B (fun nb a g hs Bz => z_letv hx hb hts hown Bz (index := 9) (by decide +kernel) rfl dJ0_length_8abf5_1 ?_)
  refine x_cs B (fun nb a g hs Bz => z_letl hx hb Bz dJ0_length_8abf5_4 ?_)
  refine lv_aload_n hx hb dJ0_length_8abf5_5 rfl (lv_at hl 0 rfl) ?_
  refine x_i B (fun nb a g hs Bz => va_runV (As := []) (rest := [.int (5 : Int32)]) ⟨hx, hb, hml, hown, hts⟩ (c_J0_coder_7d493 l (show f_J0_coder_7d493 σ = some ((0 : Int32), σ) from rfl) _ nb a g hs) (cwV 0 hts gJ0_length_8abf5_J0_coder_7d493 rfl rfl rfl (by decide +kernel) ⟨Nat.le_of_ble_eq_true rfl, Nat.le_of_ble_eq_true rfl⟩) (z_preL Bz) rfl rfl hl.1 rfl (lv_room (Nat.le_of_ble_eq_true rfl)) dJ0_length_8abf5_6 ⟨Nat.le_of_ble_eq_true rfl, Nat.le_of_ble_eq_true rfl⟩) (fun H locs B => ?_)
  refine lv_ishr hx hb dJ0_length_8abf5_9 ?_
  refine W.widen (k := 0) (n := 0) (Nat.le_of_ble_eq_true rfl) (Nat.le_of_ble_eq_true rfl) ?_
  exact x_iret hx hb hr rfl hlocks B hf dJ0_length_8abf5_10
theorem dJ1_canEncode_9a6ad_0 : decode cJ1_canEncode_9a6ad 0 = .ok (.iload_n 0, 1) := by decide +kernel
theorem dJ1_canEncode_9a6ad_1 : decode cJ1_canEncode_9a6ad 1 = .ok (.ifCond .lt 14, 3) := by decide +kernel
theorem dJ1_canEncode_9a6ad_4 : decode cJ1_canEncode_9a6ad 4 = .ok (.iload_n 0, 1) := by decide +kernel
theorem dJ1_canEncode_9a6ad_5 : decode cJ1_canEncode_9a6ad 5 = .ok (.sipush 255, 3) := by decide +kernel
theorem dJ1_canEncode_9a6ad_8 : decode cJ1_canEncode_9a6ad 8 = .ok (.if_icmp .gt 7, 3) := by decide +kernel
theorem dJ1_canEncode_9a6ad_11 : decode cJ1_canEncode_9a6ad 11 = .ok (.iconst 1, 1) := by decide +kernel
theorem dJ1_canEncode_9a6ad_12 : decode cJ1_canEncode_9a6ad 12 = .ok (.goto 4, 3) := by decide +kernel
theorem dJ1_canEncode_9a6ad_15 : decode cJ1_canEncode_9a6ad 15 = .ok (.iconst 0, 1) := by decide +kernel
theorem dJ1_canEncode_9a6ad_16 : decode cJ1_canEncode_9a6ad 16 = .ok (.ireturn, 1) := by decide +kernel
def rm_J1_canEncode_9a6ad : Room := { frames := 1, cells := 0, slots := 0, locals := 16 }
set_option maxHeartbeats 4000000 in
set_option maxRecDepth 100000 in
theorem c_J1_canEncode_9a6ad (l : Launch) {G : zG} {ad : Nat → Nat} {σ σ' : zs} {a0 : Int32} {r : Int32} (hf : f_J1_canEncode_9a6ad σ a0 = some (r, σ')) : xMi l yJ1_canEncode_9a6ad wsJ1_canEncode_9a6ad rm_J1_canEncode_9a6ad G ad σ [.int a0] r σ' := by
  intro sz nb a g hs
  refine Met.ofW (cc := cJ1_canEncode_9a6ad) (maxL := 1) (ret := (some .boolean)) (by decide) rfl ?_
  intro p e s m args below meth c s₁ B hml hv
  obtain ⟨rfl, hsz, hv⟩ := hv
  have hx := B.exec
  have hb := B.bytes
  have hr := B.returns
  have hts := atoms_spec (ws := wsJ1_canEncode_9a6ad) B.pre
  have hown : s.vm.findClass RJ1 = some m.cls := findClass_of_methodNamed B.named
  have hlocks := B.notSynchronized
  subst hsz
  have B := xB_start hs hv
  have hl := lv_entry ([.int a0]) (n := 1) (Nat.le_of_ble_eq_true rfl)
  rw [lg_entry_eq]
  generalize (lg_sl ([.int a0]) ++ List.replicate (1 - (lg_sl ([.int a0])).length) Slot.unset).toArray = ls at hl ⊢
  have hl : lv_has ls 1 [(0, .int a0)] := hl
  generalize hAe : xA ad a s.heap.size = A at B ⊢
  unfold f_J1_canEncode_9a6ad at hf
  refine lv_iload_n hx hb dJ1_canEncode_9a6ad_0 rfl (lv_at hl 0 rfl) ?_
  refine lv_if_lt (tgt := 15) hx hb dJ1_canEncode_9a6ad_1 (by decide) (fun hc => ?_) (fun hc => ?_)
  · have hf := zif_t hc hf
    refine lv_iconst (v := (0 : Int32)) hx hb dJ1_canEncode_9a6ad_15 (by decide) ?_
    refine W.widen (k := 0) (n := 0) (Nat.le_of_ble_eq_true rfl) (Nat.le_of_ble_eq_true rfl) ?_
    exact x_iret hx hb hr (by decide) hlocks B hf dJ1_canEncode_9a6ad_16
  · have hf := zif_f hc hf
    refine lv_iload_n hx hb dJ1_canEncode_9a6ad_4 rfl (lv_at hl 0 rfl) ?_
    refine lv_sipush (v := (255 : Int32)) hx hb dJ1_canEncode_9a6ad_5 (by decide) ?_
    refine lv_icmp_gt (tgt := 15) hx hb dJ1_canEncode_9a6ad_8 (by decide) (fun hc => ?_) (fun hc => ?_)
    · have hf := zif_t hc hf
      refine lv_iconst (v := (0 : Int32)) hx hb dJ1_canEncode_9a6ad_15 (by decide) ?_
      refine W.widen (k := 0) (n := 0) (Nat.le_of_ble_eq_true rfl) (Nat.le_of_ble_eq_true rfl) ?_
      exact x_iret hx hb hr (by decide) hlocks B hf dJ1_canEncode_9a6ad_16
    · have hf := zif_f hc hf
      refine lv_iconst (v := (1 : Int32)) hx hb dJ1_canEncode_9a6ad_11 (by decide) ?_
      refine lv_goto (tgt := 16) hx hb dJ1_canEncode_9a6ad_12 (by decide) ?_
      refine W.widen (k := 0) (n := 0) (Nat.le_of_ble_eq_true rfl) (Nat.le_of_ble_eq_true rfl) ?_
      exact x_iret hx hb hr (by decide) hlocks B hf dJ1_canEncode_9a6ad_16
theorem dJ1_indexOfChar_4cfef_0 : decode cJ1_indexOfChar_4cfef 0 = .ok (.iload_n 1, 1) := by decide +kernel
theorem dJ1_indexOfChar_4cfef_1 : decode cJ1_indexOfChar_4cfef 1 = .ok (.i2b, 1) := by decide +kernel
theorem dJ1_indexOfChar_4cfef_2 : decode cJ1_indexOfChar_4cfef 2 = .ok (.istore 4, 2) := by decide +kernel
theorem dJ1_indexOfChar_4cfef_4 : decode cJ1_indexOfChar_4cfef 4 = .ok (.iload_n 2, 1) := by decide +kernel
theorem dJ1_indexOfChar_4cfef_5 : decode cJ1_indexOfChar_4cfef 5 = .ok (.istore 5, 2) := by decide +kernel
theorem dJ1_indexOfChar_4cfef_7 : decode cJ1_indexOfChar_4cfef 7 = .ok (.iload 5, 2) := by decide +kernel
theorem dJ1_indexOfChar_4cfef_9 : decode cJ1_indexOfChar_4cfef 9 = .ok (.iload_n 3, 1) := by decide +kernel
theorem dJ1_indexOfChar_4cfef_10 : decode cJ1_indexOfChar_4cfef 10 = .ok (.if_icmp .ge 21, 3) := by decide +kernel
theorem dJ1_indexOfChar_4cfef_13 : decode cJ1_indexOfChar_4cfef 13 = .ok (.aload_n 0, 1) := by decide +kernel
theorem dJ1_indexOfChar_4cfef_14 : decode cJ1_indexOfChar_4cfef 14 = .ok (.iload 5, 2) := by decide +kernel
theorem dJ1_indexOfChar_4cfef_16 : decode cJ1_indexOfChar_4cfef 16 = .ok (.baload, 1) := by decide +kernel
theorem dJ1_indexOfChar_4cfef_17 : decode cJ1_indexOfChar_4cfef 17 = .ok (.iload 4, 2) := by decide +kernel
theorem dJ1_indexOfChar_4cfef_19 : decode cJ1_indexOfChar_4cfef 19 = .ok (.if_icmp .ne 6, 3) := by decide +kernel
theorem dJ1_indexOfChar_4cfef_22 : decode cJ1_indexOfChar_4cfef 22 = .ok (.iload 5, 2) := by decide +kernel
theorem dJ1_indexOfChar_4cfef_24 : decode cJ1_indexOfChar_4cfef 24 = .ok (.ireturn, 1) := by decide +kernel
theorem dJ1_indexOfChar_4cfef_25 : decode cJ1_indexOfChar_4cfef 25 = .ok (.iinc 5 1, 3) := by decide +kernel
theorem dJ1_indexOfChar_4cfef_28 : decode cJ1_indexOfChar_4cfef 28 = .ok (.goto (-21), 3) := by decide +kernel
theorem dJ1_indexOfChar_4cfef_31 : decode cJ1_indexOfChar_4cfef 31 = .ok (.iconst (-1), 1) := by decide +kernel
theorem dJ1_indexOfChar_4cfef_32 : decode cJ1_indexOfChar_4cfef 32 = .ok (.ireturn, 1) := by decide +kernel
def rm_J1_indexOfChar_4cfef_G25 : Room := { frames := 1, cells := 0, slots := 0, locals := 16 }
set_option maxHeartbeats 4000000 in
set_option maxRecDepth 100000 in
theorem c_J1_indexOfChar_4cfef_G25 (l : Launch) {G : zG} {ad : Nat → Nat} {σ σ' : zs} {a1 a2 a3 : Int32} {r : Int32} (hf : f_J1_indexOfChar_4cfef_G25 σ a1 a2 a3 = some (r, σ')) : xMi l yJ1_indexOfChar_4cfef wsJ1_indexOfChar_4cfef rm_J1_indexOfChar_4cfef_G25 G ad σ [.ref (G.2 5), .int a1, .int a2, .int a3] r σ' := by
  intro sz nb a g hs
  refine Met.ofW (cc := cJ1_indexOfChar_4cfef) (maxL := 6) (ret := (some .int)) (by decide) rfl ?_
  intro p e s m args below meth c s₁ B hml hv
  obtain ⟨rfl, hsz, hv⟩ := hv
  have hx := B.exec
  have hb := B.bytes
  have hr := B.returns
  have hts := atoms_spec (ws := wsJ1_indexOfChar_4cfef) B.pre
  have hown : s.vm.findClass RJ1 = some m.cls := findClass_of_methodNamed B.named
  have hlocks := B.notSynchronized
  subst hsz
  have B := xB_start hs hv
  have hl := lv_entry ([.ref (G.2 5), .int a1, .int a2, .int a3]) (n := 6) (Nat.le_of_ble_eq_true rfl)
  rw [lg_entry_eq]
  generalize (lg_sl ([.ref (G.2 5), .int a1, .int a2, .int a3]) ++ List.replicate (6 - (lg_sl ([.ref (G.2 5), .int a1, .int a2, .int a3])).length) Slot.unset).toArray = ls at hl ⊢
  have hl : lv_has ls 6 [(0, .ref (G.2 5)), (1, .int a1), (2, .int a2), (3, .int a3)] := hl
  generalize hAe : xA ad a s.heap.size = A at B ⊢
  have L7 : ∀ (n : Nat) (σ : zs) (v3 : Int32) (v4 : Int32) (v5 : Int32) (H : Heap) (locs : List Loc) (ls : Array Slot), zlp3 (f_J1_indexOfChar_4cfef_G25_7) n σ v3 v4 v5 = some (r, σ') → xB A s G ad σ H locs → lv_has ls 6 [(0, .ref (G.2 5)), (3, .int v3), (4, .int v4), (5, .int v5)] → W p l e (headSpec wsJ1_indexOfChar_4cfef rm_J1_indexOfChar_4cfef_G25).room s m ([.ref (G.2 5), .int a1, .int a2, .int a3] : List Value).toArray below meth c H locs 0 0 (MQ below (va_Qi (fun r' (u : xV) => r' = r ∧ xQ σ' u) (xPost G ad σ' A) A) ([.ref (G.2 5), .int a1, .int a2, .int a3] : List Value).toArray s 0 0 A) (F0 m 7 ls []) := by
    intro n
    induction n with
    | zero =>
      intro σ v3 v4 v5 H locs ls hf
      cases hf
    | succ n ih =>
      intro σ v3 v4 v5 H locs ls hf B hl
      have hf : f_J1_indexOfChar_4cfef_G25_7 (zlp3 (f_J1_indexOfChar_4cfef_G25_7) n) σ v3 v4 v5 = some (r, σ') := hf
      unfold f_J1_indexOfChar_4cfef_G25_7 at hf
      refine lv_iload hx hb dJ1_indexOfChar_4cfef_7 (lv_at hl 3 rfl) ?_
      refine lv_iload_n hx hb dJ1_indexOfChar_4cfef_9 rfl (lv_at hl 1 rfl) ?_
      refine lv_icmp_ge (tgt := 31) hx hb dJ1_indexOfChar_4cfef_10 (by decide) (fun hc => ?_) (fun hc => ?_)
      · have hf := zif_t hc hf
        refine lv_iconst (v := (-1 : Int32)) hx hb dJ1_indexOfChar_4cfef_31 (by decide) ?_
        refine W.widen (k := 0) (n := 0) (Nat.le_of_ble_eq_true rfl) (Nat.le_of_ble_eq_true rfl) ?_
        exact x_iret hx hb hr rfl hlocks B hf dJ1_indexOfChar_4cfef_32
      · have hf := zif_f hc hf
        refine lv_aload_n hx hb dJ1_indexOfChar_4cfef_13 rfl (lv_at hl 0 rfl) ?_
        refine lv_iload hx hb dJ1_indexOfChar_4cfef_14 (lv_at hl 3 rfl) ?_
        obtain ⟨hg, hf⟩ := zg_some hf
        refine x_cs B (fun nb a g hs Bz => z_letb hx hb Bz (zin_ok hg) dJ1_indexOfChar_4cfef_16 ?_)
        refine lv_iload hx hb dJ1_indexOfChar_4cfef_17 (lv_at hl 2 rfl) ?_
        refine lv_icmp_ne (tgt := 25) hx hb dJ1_indexOfChar_4cfef_19 (by decide) (fun hc => ?_) (fun hc => ?_)
        · have hf := zif_f hc hf
          refine lv_iinc (v := (v5 + (1 : Int32))) (lv' := [(5, .int (v5 + (1 : Int32))), (0, .ref (G.2 5)), (3, .int v3), (4, .int v4)]) hx hb dJ1_indexOfChar_4cfef_25 hl (k := 3) rfl (zc1 (by decide)) (by decide) rfl (fun ls hl => ?_)
          refine lv_goto (tgt := 7) hx hb dJ1_indexOfChar_4cfef_28 (by decide) ?_
          exact ih _ _ _ _ _ _ _ hf B (lv_sub hl [1, 2, 3, 0] rfl)
        · have hf := zif_t hc hf
          refine lv_iload hx hb dJ1_indexOfChar_4cfef_22 (lv_at hl 3 rfl) ?_
          refine W.widen (k := 0) (n := 0) (Nat.le_of_ble_eq_true rfl) (Nat.le_of_ble_eq_true rfl) ?_
          exact x_iret hx hb hr rfl hlocks B hf dJ1_indexOfChar_4cfef_24
  unfold f_J1_indexOfChar_4cfef_G25 at hf
  refine lv_iload_n hx hb dJ1_indexOfChar_4cfef_0 rfl (lv_at hl 1 rfl) ?_
  refine lv_i2b (v := a1.toInt8.toInt32) hx hb dJ1_indexOfChar_4cfef_1 rfl ?_
  refine lv_istore (lv' := [(4, .int (a1.toInt8.toInt32)), (0, .ref (G.2 5)), (1, .int a1), (2, .int a2), (3, .int a3)]) hx hb dJ1_indexOfChar_4cfef_2 hl (by decide) rfl (fun ls hl => ?_)
  refine lv_iload_n hx hb dJ1_indexOfChar_4cfef_4 rfl (lv_at hl 3 rfl) ?_
  refine lv_istore (lv' := [(5, .int a2), (4, .int (a1.toInt8.toInt32)), (0, .ref (G.2 5)), (1, .int a1), (2, .int a2), (3, .int a3)]) hx hb dJ1_indexOfChar_4cfef_5 hl (by decide) rfl (fun ls hl => ?_)
  exact L7  _ _ _ _ _ _ _ _ hf B (lv_sub hl [2, 5, 1, 0] rfl)
theorem dJ1_indexOf_4cfef_0 : decode cJ1_indexOf_4cfef 0 = .ok (.iload_n 1, 1) := by decide +kernel
theorem dJ1_indexOf_4cfef_1 : decode cJ1_indexOf_4cfef 1 = .ok (.invokestatic 88, 3) := by decide +kernel
theorem dJ1_indexOf_4cfef_4 : decode cJ1_indexOf_4cfef 4 = .ok (.ifCond .ne 5, 3) := by decide +kernel
theorem dJ1_indexOf_4cfef_7 : decode cJ1_indexOf_4cfef 7 = .ok (.iconst (-1), 1) := by decide +kernel
theorem dJ1_indexOf_4cfef_8 : decode cJ1_indexOf_4cfef 8 = .ok (.ireturn, 1) := by decide +kernel
theorem dJ1_indexOf_4cfef_9 : decode cJ1_indexOf_4cfef 9 = .ok (.iload_n 2, 1) := by decide +kernel
theorem dJ1_indexOf_4cfef_10 : decode cJ1_indexOf_4cfef 10 = .ok (.iconst 0, 1) := by decide +kernel
theorem dJ1_indexOf_4cfef_11 : decode cJ1_indexOf_4cfef 11 = .ok (.invokestatic 92, 3) := by decide +kernel
theorem dJ1_indexOf_4cfef_14 : decode cJ1_indexOf_4cfef 14 = .ok (.istore_n 2, 1) := by decide +kernel
theorem dJ1_indexOf_4cfef_15 : decode cJ1_indexOf_4cfef 15 = .ok (.iload_n 3, 1) := by decide +kernel
theorem dJ1_indexOf_4cfef_16 : decode cJ1_indexOf_4cfef 16 = .ok (.aload_n 0, 1) := by decide +kernel
theorem dJ1_indexOf_4cfef_17 : decode cJ1_indexOf_4cfef 17 = .ok (.arraylength, 1) := by decide +kernel
theorem dJ1_indexOf_4cfef_18 : decode cJ1_indexOf_4cfef 18 = .ok (.invokestatic 38, 3) := by decide +kernel
theorem dJ1_indexOf_4cfef_21 : decode cJ1_indexOf_4cfef 21 = .ok (.istore_n 3, 1) := by decide +kernel
theorem dJ1_indexOf_4cfef_22 : decode cJ1_indexOf_4cfef 22 = .ok (.iload_n 2, 1) := by decide +kernel
theorem dJ1_indexOf_4cfef_23 : decode cJ1_indexOf_4cfef 23 = .ok (.iload_n 3, 1) := by decide +kernel
theorem dJ1_indexOf_4cfef_24 : decode cJ1_indexOf_4cfef 24 = .ok (.if_icmp .lt 5, 3) := by decide +kernel
theorem dJ1_indexOf_4cfef_27 : decode cJ1_indexOf_4cfef 27 = .ok (.iconst (-1), 1) := by decide +kernel
theorem dJ1_indexOf_4cfef_28 : decode cJ1_indexOf_4cfef 28 = .ok (.ireturn, 1) := by decide +kernel
theorem dJ1_indexOf_4cfef_29 : decode cJ1_indexOf_4cfef 29 = .ok (.aload_n 0, 1) := by decide +kernel
theorem dJ1_indexOf_4cfef_30 : decode cJ1_indexOf_4cfef 30 = .ok (.iload_n 1, 1) := by decide +kernel
theorem dJ1_indexOf_4cfef_31 : decode cJ1_indexOf_4cfef 31 = .ok (.iload_n 2, 1) := by decide +kernel
theorem dJ1_indexOf_4cfef_32 : decode cJ1_indexOf_4cfef 32 = .ok (.iload_n 3, 1) := by decide +kernel
theorem dJ1_indexOf_4cfef_33 : decode cJ1_indexOf_4cfef 33 = .ok (.invokestatic 95, 3) := by decide +kernel
theorem dJ1_indexOf_4cfef_36 : decode cJ1_indexOf_4cfef 36 = .ok (.ireturn, 1) := by decide +kernel
set_option maxRecDepth 20000 in
theorem ggJ1_indexOf_4cfef_J1_canEncode_9a6ad : GoodIn wsJ1_indexOf_4cfef wsJ1_canEncode_9a6ad := goodIn_r _ [11] (by decide +kernel) (by decide +kernel)
set_option maxRecDepth 20000 in
theorem gJ1_indexOf_4cfef_J1_canEncode_9a6ad : GoodIn wsJ1_indexOf_4cfef (va_wsS RJ1 88 yJ1_canEncode_9a6ad wsJ1_canEncode_9a6ad) := goodIn_app (goodIn_of _ (by decide +kernel)) ggJ1_indexOf_4cfef_J1_canEncode_9a6ad
set_option maxRecDepth 20000 in
theorem ggJ1_indexOf_4cfef_J1_indexOfChar_4cfef : GoodIn wsJ1_indexOf_4cfef wsJ1_indexOfChar_4cfef := goodIn_r _ [14] (by decide +kernel) (by decide +kernel)
set_option maxRecDepth 20000 in
theorem gJ1_indexOf_4cfef_J1_indexOfChar_4cfef : GoodIn wsJ1_indexOf_4cfef (va_wsS RJ1 95 yJ1_indexOfChar_4cfef wsJ1_indexOfChar_4cfef) := goodIn_app (goodIn_of _ (by decide +kernel)) ggJ1_indexOf_4cfef_J1_indexOfChar_4cfef
def rm_J1_indexOf_4cfef_G25 : Room := { frames := 2, cells := 0, slots := 0, locals := 41 }
set_option maxHeartbeats 4000000 in
set_option maxRecDepth 100000 in
theorem c_J1_indexOf_4cfef_G25 (l : Launch) {G : zG} {ad : Nat → Nat} {σ σ' : zs} {a1 a2 a3 : Int32} {r : Int32} (hf : f_J1_indexOf_4cfef_G25 σ a1 a2 a3 = some (r, σ')) : xMi l yJ1_indexOf_4cfef wsJ1_indexOf_4cfef rm_J1_indexOf_4cfef_G25 G ad σ [.ref (G.2 5), .int a1, .int a2, .int a3] r σ' := by
  intro sz nb a g hs
  refine Met.ofW (cc := cJ1_indexOf_4cfef) (maxL := 4) (ret := (some .int)) (by decide) rfl ?_
  intro p e s m args below meth c s₁ B hml hv
  obtain ⟨rfl, hsz, hv⟩ := hv
  have hx := B.exec
  have hb := B.bytes
  have hr := B.returns
  have hts := atoms_spec (ws := wsJ1_indexOf_4cfef) B.pre
  have hown : s.vm.findClass RJ1 = some m.cls := findClass_of_methodNamed B.named
  have hlocks := B.notSynchronized
  subst hsz
  have B := xB_start hs hv
  have hl := lv_entry ([.ref (G.2 5), .int a1, .int a2, .int a3]) (n := 4) (Nat.le_of_ble_eq_true rfl)
  rw [lg_entry_eq]
  generalize (lg_sl ([.ref (G.2 5), .int a1, .int a2, .int a3]) ++ List.replicate (4 - (lg_sl ([.ref (G.2 5), .int a1, .int a2, .int a3])).length) Slot.unset).toArray = ls at hl ⊢
  have hl : lv_has ls 4 [(0, .ref (G.2 5)), (1, .int a1), (2, .int a2), (3, .int a3)] := hl
  generalize hAe : xA ad a s.heap.size = A at B ⊢
  unfold f_J1_indexOf_4cfef_G25 at hf
  refine lv_iload_n hx hb dJ1_indexOf_4cfef_0 rfl (lv_at hl 1 rfl) ?_
  obtain ⟨r2, σ3, hu1, hf⟩ := zb_some hf
  refine x_i B (fun nb a g hs Bz => va_runS (As := [.int a1]) (rest := []) ⟨hx, hb, hml, hown, hts⟩ (c_J1_canEncode_9a6ad l hu1 _ nb a g hs) (va_cwS 1 hts gJ1_indexOf_4cfef_J1_canEncode_9a6ad rfl rfl rfl (by decide +kernel) ⟨Nat.le_of_ble_eq_true rfl, Nat.le_of_ble_eq_true rfl⟩) (z_preS Bz) rfl rfl hl.1 rfl (lv_room (Nat.le_of_ble_eq_true rfl)) dJ1_indexOf_4cfef_1 ⟨Nat.le_of_ble_eq_true rfl, Nat.le_of_ble_eq_true rfl⟩) (fun H locs B => ?_)
  refine lv_if_ne (tgt := 9) hx hb dJ1_indexOf_4cfef_4 (by decide) (fun hc => ?_) (fun hc => ?_)
  · have hf := zif_f hc hf
    refine lv_iload_n hx hb dJ1_indexOf_4cfef_9 rfl (lv_at hl 2 rfl) ?_
    refine lv_iconst (v := (0 : Int32)) hx hb dJ1_indexOf_4cfef_10 (by decide) ?_
    refine va_mmax hx hb (hml.trans hl.1.symm) hown (index := 92) (hts _ (by decide +kernel)) (hts _ (by decide +kernel)) (hts _ (by decide +kernel)) (hts _ (by decide +kernel)) (Nat.le_of_ble_eq_true rfl) (Nat.le_of_ble_eq_true rfl) (Nat.le_of_ble_eq_true rfl) (Nat.le_of_ble_eq_true rfl) dJ1_indexOf_4cfef_11 ?_
    refine lv_istore_n (lv' := [(2, .int (if a2 < (0 : Int32) then (0 : Int32) else a2)), (0, .ref (G.2 5)), (1, .int a1), (3, .int a3)]) hx hb dJ1_indexOf_4cfef_14 rfl hl (by decide) rfl (fun ls hl => ?_)
    refine lv_iload_n hx hb dJ1_indexOf_4cfef_15 rfl (lv_at hl 3 rfl) ?_
    refine lv_aload_n hx hb dJ1_indexOf_4cfef_16 rfl (lv_at hl 1 rfl) ?_
    refine x_cs B (fun nb a g hs Bz => z_letl hx hb Bz dJ1_indexOf_4cfef_17 ?_)
    refine va_mmin hx hb (hml.trans hl.1.symm) hown (index := 38) (hts _ (by decide +kernel)) (hts _ (by decide +kernel)) (hts _ (by decide +kernel)) (hts _ (by decide +kernel)) (Nat.le_of_ble_eq_true rfl) (Nat.le_of_ble_eq_true rfl) (Nat.le_of_ble_eq_true rfl) (Nat.le_of_ble_eq_true rfl) dJ1_indexOf_4cfef_18 ?_
    refine lv_istore_n (lv' := [(3, .int (if (5 : Int32) < a3 then (5 : Int32) else a3)), (2, .int (if a2 < (0 : Int32) then (0 : Int32) else a2)), (0, .ref (G.2 5)), (1, .int a1)]) hx hb dJ1_indexOf_4cfef_21 rfl hl (by decide) rfl (fun ls hl => ?_)
    refine lv_iload_n hx hb dJ1_indexOf_4cfef_22 rfl (lv_at hl 1 rfl) ?_
    refine lv_iload_n hx hb dJ1_indexOf_4cfef_23 rfl (lv_at hl 0 rfl) ?_
    refine lv_icmp_lt (tgt := 29) hx hb dJ1_indexOf_4cfef_24 (by decide) (fun hc => ?_) (fun hc => ?_)
    · have hf := zif_t hc hf
      refine lv_aload_n hx hb dJ1_indexOf_4cfef_29 rfl (lv_at hl 2 rfl) ?_
      refine lv_iload_n hx hb dJ1_indexOf_4cfef_30 rfl (lv_at hl 3 rfl) ?_
      refine lv_iload_n hx hb dJ1_indexOf_4cfef_31 rfl (lv_at hl 1 rfl) ?_
      refine lv_iload_n hx hb dJ1_indexOf_4cfef_32 rfl (lv_at hl 0 rfl) ?_
      obtain ⟨r5, σ6, hu4, hf⟩ := zb_some hf
      refine x_i B (fun nb a g hs Bz => va_runS (As := [.ref (G.2 5), .int a1, .int (if a2 < (0 : Int32) then (0 : Int32) else a2), .int (if (5 : Int32) < a3 then (5 : Int32) else a3)]) (rest := []) ⟨hx, hb, hml, hown, hts⟩ (c_J1_indexOfChar_4cfef_G25 l hu4 _ nb a g hs) (va_cwS 4 hts gJ1_indexOf_4cfef_J1_indexOfChar_4cfef rfl rfl rfl (by decide +kernel) ⟨Nat.le_of_ble_eq_true rfl, Nat.le_of_ble_eq_true rfl⟩) (z_preS Bz) rfl rfl hl.1 rfl (lv_room (Nat.le_of_ble_eq_true rfl)) dJ1_indexOf_4cfef_33 ⟨Nat.le_of_ble_eq_true rfl, Nat.le_of_ble_eq_true rfl⟩) (fun H locs B => ?_)
      refine W.widen (k := 0) (n := 0) (Nat.le_of_ble_eq_true rfl) (Nat.le_of_ble_eq_true rfl) ?_
      exact x_iret hx hb hr rfl hlocks B hf dJ1_indexOf_4cfef_36
    · have hf := zif_f hc hf
      refine lv_iconst (v := (-1 : Int32)) hx hb dJ1_indexOf_4cfef_27 (by decide) ?_
      refine W.widen (k := 0) (n := 0) (Nat.le_of_ble_eq_true rfl) (Nat.le_of_ble_eq_true rfl) ?_
      exact x_iret hx hb hr rfl hlocks B hf dJ1_indexOf_4cfef_28
  · have hf := zif_t hc hf
    refine lv_iconst (v := (-1 : Int32)) hx hb dJ1_indexOf_4cfef_7 (by decide) ?_
    refine W.widen (k := 0) (n := 0) (Nat.le_of_ble_eq_true rfl) (Nat.le_of_ble_eq_true rfl) ?_
    exact x_iret hx hb hr rfl hlocks B hf dJ1_indexOf_4cfef_8
theorem dJ0_indexOf_7cf53_0 : decode cJ0_indexOf_7cf53 0 = .ok (.aload_n 0, 1) := by decide +kernel
theorem dJ0_indexOf_7cf53_1 : decode cJ0_indexOf_7cf53 1 = .ok (.invokevirtual 492, 3) := by decide +kernel
theorem dJ0_indexOf_7cf53_4 : decode cJ0_indexOf_7cf53 4 = .ok (.ifCond .eq 19, 3) := by decide +kernel
theorem dJ0_indexOf_7cf53_7 : decode cJ0_indexOf_7cf53 7 = .ok (.aload_n 0, 1) := by decide +kernel
theorem dJ0_indexOf_7cf53_8 : decode cJ0_indexOf_7cf53 8 = .ok (.getfield 9, 3) := by decide +kernel
theorem dJ0_indexOf_7cf53_11 : decode cJ0_indexOf_7cf53 11 = .ok (.iload_n 1, 1) := by decide +kernel
theorem dJ0_indexOf_7cf53_12 : decode cJ0_indexOf_7cf53 12 = .ok (.iload_n 2, 1) := by decide +kernel
theorem dJ0_indexOf_7cf53_13 : decode cJ0_indexOf_7cf53 13 = .ok (.aload_n 0, 1) := by decide +kernel
theorem dJ0_indexOf_7cf53_14 : decode cJ0_indexOf_7cf53 14 = .ok (.invokevirtual 505, 3) := by decide +kernel
theorem dJ0_indexOf_7cf53_17 : decode cJ0_indexOf_7cf53 17 = .ok (.invokestatic 637, 3) := by decide +kernel
theorem dJ0_indexOf_7cf53_20 : decode cJ0_indexOf_7cf53 20 = .ok (.goto 16, 3) := by decide +kernel
theorem dJ0_indexOf_7cf53_36 : decode cJ0_indexOf_7cf53 36 = .ok (.ireturn, 1) := by decide +kernel
set_option maxRecDepth 20000 in
theorem ggJ0_indexOf_7cf53_J0_isLatin1_aae02 : GoodIn wsJ0_indexOf_7cf53 wsJ0_isLatin1_aae02 := goodIn_r _ [6, 7, 8, 82, 83, 84, 85] (by decide +kernel) (by decide +kernel)
set_option maxRecDepth 20000 in
theorem gJ0_indexOf_7cf53_J0_isLatin1_aae02 : GoodIn wsJ0_indexOf_7cf53 (wsV RJ0 492 RJ0 yJ0_isLatin1_aae02 wsJ0_isLatin1_aae02) := goodIn_app (goodIn_of _ (by decide +kernel)) ggJ0_indexOf_7cf53_J0_isLatin1_aae02
set_option maxRecDepth 20000 in
theorem ggJ0_indexOf_7cf53_J0_length_8abf5 : GoodIn wsJ0_indexOf_7cf53 wsJ0_length_8abf5 := goodIn_r _ [12, 1, 13, 14, 15, 5, 16, 7, 8, 82, 83, 84, 85] (by decide +kernel) (by decide +kernel)
set_option maxRecDepth 20000 in
theorem gJ0_indexOf_7cf53_J0_length_8abf5 : GoodIn wsJ0_indexOf_7cf53 (wsV RJ0 505 RJ0 yJ0_length_8abf5 wsJ0_length_8abf5) := goodIn_app (goodIn_of _ (by decide +kernel)) ggJ0_indexOf_7cf53_J0_length_8abf5
set_option maxRecDepth 20000 in
theorem ggJ0_indexOf_7cf53_J1_indexOf_4cfef : GoodIn wsJ0_indexOf_7cf53 wsJ1_indexOf_4cfef := goodIn_r _ [20, 21, 22, 23, 24, 25, 26, 27, 28, 29, 19, 30, 31, 32, 33] (by decide +kernel) (by decide +kernel)
set_option maxRecDepth 20000 in
theorem gJ0_indexOf_7cf53_J1_indexOf_4cfef : GoodIn wsJ0_indexOf_7cf53 (va_wsS RJ0 637 yJ1_indexOf_4cfef wsJ1_indexOf_4cfef) := goodIn_app (goodIn_of _ (by decide +kernel)) ggJ0_indexOf_7cf53_J1_indexOf_4cfef
def rm_J0_indexOf_7cf53 : Room := { frames := 3, cells := 0, slots := 0, locals := 64 }
set_option maxHeartbeats 4000000 in
set_option maxRecDepth 100000 in
theorem c_J0_indexOf_7cf53 (l : Launch) {G : zG} {ad : Nat → Nat} {σ σ' : zs} {a1 a2 : Int32} {r : Int32} (hf : f_J0_indexOf_7cf53 σ a1 a2 = some (r, σ')) : xMi l yJ0_indexOf_7cf53 wsJ0_indexOf_7cf53 rm_J0_indexOf_7cf53 G ad σ [.ref (G.2 4), .int a1, .int a2] r σ' := by
  intro sz nb a g hs
  refine Met.ofW (cc := cJ0_indexOf_7cf53) (maxL := 3) (ret := (some .int)) (by decide) rfl ?_
  intro p e s m args below meth c s₁ B hml hv
  obtain ⟨rfl, hsz, hv⟩ := hv
  have hx := B.exec
  have hb := B.bytes
  have hr := B.returns
  have hts := atoms_spec (ws := wsJ0_indexOf_7cf53) B.pre
  have hown : s.vm.findClass RJ0 = some m.cls := findClass_of_methodNamed B.named
  have hlocks := B.notSynchronized
  subst hsz
  have B := xB_start hs hv
  have hl := lv_entry ([.ref (G.2 4), .int a1, .int a2]) (n := 3) (Nat.le_of_ble_eq_true rfl)
  rw [lg_entry_eq]
  generalize (lg_sl ([.ref (G.2 4), .int a1, .int a2]) ++ List.replicate (3 - (lg_sl ([.ref (G.2 4), .int a1, .int a2])).length) Slot.unset).toArray = ls at hl ⊢
  have hl : lv_has ls 3 [(0, .ref (G.2 4)), (1, .int a1), (2, .int a2)] := hl
  generalize hAe : xA ad a s.heap.size = A at B ⊢
  unfold f_J0_indexOf_7cf53 at hf
  refine lv_aload_n hx hb dJ0_indexOf_7cf53_0 rfl (lv_at hl 0 rfl) ?_
  refine x_i B (fun nb a g hs Bz => va_runV (As := []) (rest := []) ⟨hx, hb, hml, hown, hts⟩ (c_J0_isLatin1_aae02 l (show f_J0_isLatin1_aae02 σ = some ((1 : Int32), σ) from rfl) _ nb a g hs) (cwV 0 hts gJ0_indexOf_7cf53_J0_isLatin1_aae02 rfl rfl rfl (by decide +kernel) ⟨Nat.le_of_ble_eq_true rfl, Nat.le_of_ble_eq_true rfl⟩) (z_preL Bz) rfl rfl hl.1 rfl (lv_room (Nat.le_of_ble_eq_true rfl)) dJ0_indexOf_7cf53_1 ⟨Nat.le_of_ble_eq_true rfl, Nat.le_of_ble_eq_true rfl⟩) (fun H locs B => ?_)
  refine lv_if_eq (tgt := 23) hx hb dJ0_indexOf_7cf53_4 (by decide) (fun hc => absurd hc (by decide)) (fun hc => ?_)
  refine lv_aload_n hx hb dJ0_indexOf_7cf53_7 rfl (lv_at hl 0 rfl) ?_
  refine x_cs B (fun nb a g hs Bz => z_letv hx hb hts hown Bz (index := 9) (by decide +kernel) rfl dJ0_indexOf_7cf53_8 ?_)
  refine lv_iload_n hx hb dJ0_indexOf_7cf53_11 rfl (lv_at hl 1 rfl) ?_
  refine lv_iload_n hx hb dJ0_indexOf_7cf53_12 rfl (lv_at hl 2 rfl) ?_
  refine lv_aload_n hx hb dJ0_indexOf_7cf53_13 rfl (lv_at hl 0 rfl) ?_
  obtain ⟨r2, σ3, hu1, hf⟩ := zb_some hf
  refine x_i B (fun nb a g hs Bz => va_runV (As := []) (rest := [.int a2, .int a1, .ref (G.2 5)]) ⟨hx, hb, hml, hown, hts⟩ (c_J0_length_8abf5 l hu1 _ nb a g hs) (cwV 0 hts gJ0_indexOf_7cf53_J0_length_8abf5 rfl rfl rfl (by decide +kernel) ⟨Nat.le_of_ble_eq_true rfl, Nat.le_of_ble_eq_true rfl⟩) (z_preL Bz) rfl rfl hl.1 rfl (lv_room (Nat.le_of_ble_eq_true rfl)) dJ0_indexOf_7cf53_14 ⟨Nat.le_of_ble_eq_true rfl, Nat.le_of_ble_eq_true rfl⟩) (fun H locs B => ?_)
  obtain ⟨r5, σ6, hu4, hf⟩ := zb_some hf
  refine x_i B (fun nb a g hs Bz => va_runS (As := [.ref (G.2 5), .int a1, .int a2, .int r2]) (rest := []) ⟨hx, hb, hml, hown, hts⟩ (c_J1_indexOf_4cfef_G25 l hu4 _ nb a g hs) (va_cwS 4 hts gJ0_indexOf_7cf53_J1_indexOf_4cfef rfl rfl rfl (by decide +kernel) ⟨Nat.le_of_ble_eq_true rfl, Nat.le_of_ble_eq_true rfl⟩) (z_preS Bz) rfl rfl hl.1 rfl (lv_room (Nat.le_of_ble_eq_true rfl)) dJ0_indexOf_7cf53_17 ⟨Nat.le_of_ble_eq_true rfl, Nat.le_of_ble_eq_true rfl⟩) (fun H locs B => ?_)
  refine lv_goto (tgt := 36) hx hb dJ0_indexOf_7cf53_20 (by decide) ?_
  refine W.widen (k := 0) (n := 0) (Nat.le_of_ble_eq_true rfl) (Nat.le_of_ble_eq_true rfl) ?_
  exact x_iret hx hb hr rfl hlocks B hf dJ0_indexOf_7cf53_36
theorem dJ0_indexOf_0f7a4_0 : decode cJ0_indexOf_0f7a4 0 = .ok (.aload_n 0, 1) := by decide +kernel
theorem dJ0_indexOf_0f7a4_1 : decode cJ0_indexOf_0f7a4 1 = .ok (.iload_n 1, 1) := by decide +kernel
theorem dJ0_indexOf_0f7a4_2 : decode cJ0_indexOf_0f7a4 2 = .ok (.iconst 0, 1) := by decide +kernel
theorem dJ0_indexOf_0f7a4_3 : decode cJ0_indexOf_0f7a4 3 = .ok (.invokevirtual 633, 3) := by decide +kernel
theorem dJ0_indexOf_0f7a4_6 : decode cJ0_indexOf_0f7a4 6 = .ok (.ireturn, 1) := by decide +kernel
set_option maxRecDepth 20000 in
theorem ggJ0_indexOf_0f7a4_J0_indexOf_7cf53 : GoodIn wsJ0_indexOf_0f7a4 wsJ0_indexOf_7cf53 := goodIn_r _ [5, 6, 7, 8, 9, 4, 10, 11, 12, 13, 14, 15, 16, 17, 18, 19, 20, 21, 22, 23, 24, 25, 26, 27, 28, 29, 30, 31, 32, 33, 34, 35, 36, 37, 38, 39, 40, 41, 42, 43, 44, 45, 46, 47, 48, 49, 50, 51, 52, 53, 54, 55, 56, 57, 58, 59, 60, 61, 62, 63, 64, 65, 66, 67, 68, 69, 70, 71, 72, 73, 74, 75, 76, 77, 78, 79, 80, 81, 82, 83, 84, 85, 86, 87, 88, 89] (by decide +kernel) (by decide +kernel)
set_option maxRecDepth 20000 in
theorem gJ0_indexOf_0f7a4_J0_indexOf_7cf53 : GoodIn wsJ0_indexOf_0f7a4 (wsV RJ0 633 RJ0 yJ0_indexOf_7cf53 wsJ0_indexOf_7cf53) := goodIn_app (goodIn_of _ (by decide +kernel)) ggJ0_indexOf_0f7a4_J0_indexOf_7cf53
def rm_J0_indexOf_0f7a4 : Room := { frames := 4, cells := 0, slots := 0, locals := 86 }
set_option maxHeartbeats 4000000 in
set_option maxRecDepth 100000 in
theorem c_J0_indexOf_0f7a4 (l : Launch) {G : zG} {ad : Nat → Nat} {σ σ' : zs} {a1 : Int32} {r : Int32} (hf : f_J0_indexOf_0f7a4 σ a1 = some (r, σ')) : xMi l yJ0_indexOf_0f7a4 wsJ0_indexOf_0f7a4 rm_J0_indexOf_0f7a4 G ad σ [.ref (G.2 4), .int a1] r σ' := by
  intro sz nb a g hs
  refine Met.ofW (cc := cJ0_indexOf_0f7a4) (maxL := 2) (ret := (some .int)) (by decide) rfl ?_
  intro p e s m args below meth c s₁ B hml hv
  obtain ⟨rfl, hsz, hv⟩ := hv
  have hx := B.exec
  have hb := B.bytes
  have hr := B.returns
  have hts := atoms_spec (ws := wsJ0_indexOf_0f7a4) B.pre
  have hown : s.vm.findClass RJ0 = some m.cls := findClass_of_methodNamed B.named
  have hlocks := B.notSynchronized
  subst hsz
  have B := xB_start hs hv
  have hl := lv_entry ([.ref (G.2 4), .int a1]) (n := 2) (Nat.le_of_ble_eq_true rfl)
  rw [lg_entry_eq]
  generalize (lg_sl ([.ref (G.2 4), .int a1]) ++ List.replicate (2 - (lg_sl ([.ref (G.2 4), .int a1])).length) Slot.unset).toArray = ls at hl ⊢
  have hl : lv_has ls 2 [(0, .ref (G.2 4)), (1, .int a1)] := hl
  generalize hAe : xA ad a s.heap.size = A at B ⊢
  unfold f_J0_indexOf_0f7a4 at hf
  refine lv_aload_n hx hb dJ0_indexOf_0f7a4_0 rfl (lv_at hl 0 rfl) ?_
  refine lv_iload_n hx hb dJ0_indexOf_0f7a4_1 rfl (lv_at hl 1 rfl) ?_
  refine lv_iconst (v := (0 : Int32)) hx hb dJ0_indexOf_0f7a4_2 (by decide) ?_
  obtain ⟨r2, σ3, hu1, hf⟩ := zb_some hf
  refine x_i B (fun nb a g hs Bz => va_runV (As := [.int a1, .int (0 : Int32)]) (rest := []) ⟨hx, hb, hml, hown, hts⟩ (c_J0_indexOf_7cf53 l hu1 _ nb a g hs) (cwV 2 hts gJ0_indexOf_0f7a4_J0_indexOf_7cf53 rfl rfl rfl (by decide +kernel) ⟨Nat.le_of_ble_eq_true rfl, Nat.le_of_ble_eq_true rfl⟩) (z_preL Bz) rfl rfl hl.1 rfl (lv_room (Nat.le_of_ble_eq_true rfl)) dJ0_indexOf_0f7a4_3 ⟨Nat.le_of_ble_eq_true rfl, Nat.le_of_ble_eq_true rfl⟩) (fun H locs B => ?_)
  refine W.widen (k := 0) (n := 0) (Nat.le_of_ble_eq_true rfl) (Nat.le_of_ble_eq_true rfl) ?_
  exact x_iret hx hb hr rfl hlocks B hf dJ0_indexOf_0f7a4_6
theorem dX1_readCaveat_0 : decode cX1_readCaveat 0 = .ok (.aload_n 0, 1) := by decide +kernel
theorem dX1_readCaveat_1 : decode cX1_readCaveat 1 = .ok (.getfield 32, 3) := by decide +kernel
theorem dX1_readCaveat_4 : decode cX1_readCaveat 4 = .ok (.aload_n 0, 1) := by decide +kernel
theorem dX1_readCaveat_5 : decode cX1_readCaveat 5 = .ok (.getfield 29, 3) := by decide +kernel
theorem dX1_readCaveat_8 : decode cX1_readCaveat 8 = .ok (.if_icmp .ge 20, 3) := by decide +kernel
theorem dX1_readCaveat_11 : decode cX1_readCaveat 11 = .ok (.ldc 46, 2) := by decide +kernel
theorem dX1_readCaveat_13 : decode cX1_readCaveat 13 = .ok (.aload_n 0, 1) := by decide +kernel
theorem dX1_readCaveat_14 : decode cX1_readCaveat 14 = .ok (.getfield 9, 3) := by decide +kernel
theorem dX1_readCaveat_17 : decode cX1_readCaveat 17 = .ok (.aload_n 0, 1) := by decide +kernel
theorem dX1_readCaveat_18 : decode cX1_readCaveat 18 = .ok (.getfield 32, 3) := by decide +kernel
theorem dX1_readCaveat_21 : decode cX1_readCaveat 21 = .ok (.caload, 1) := by decide +kernel
theorem dX1_readCaveat_22 : decode cX1_readCaveat 22 = .ok (.invokevirtual 48, 3) := by decide +kernel
theorem dX1_readCaveat_25 : decode cX1_readCaveat 25 = .ok (.goto 4, 3) := by decide +kernel
theorem dX1_readCaveat_28 : decode cX1_readCaveat 28 = .ok (.iconst (-1), 1) := by decide +kernel
theorem dX1_readCaveat_29 : decode cX1_readCaveat 29 = .ok (.istore_n 2, 1) := by decide +kernel
theorem dX1_readCaveat_30 : decode cX1_readCaveat 30 = .ok (.iload_n 2, 1) := by decide +kernel
theorem dX1_readCaveat_31 : decode cX1_readCaveat 31 = .ok (.ifCond .ge 12, 3) := by decide +kernel
theorem dX1_readCaveat_34 : decode cX1_readCaveat 34 = .ok (.aload_n 0, 1) := by decide +kernel
theorem dX1_readCaveat_35 : decode cX1_readCaveat 35 = .ok (.aload_n 0, 1) := by decide +kernel
theorem dX1_readCaveat_36 : decode cX1_readCaveat 36 = .ok (.getfield 32, 3) := by decide +kernel
theorem dX1_readCaveat_39 : decode cX1_readCaveat 39 = .ok (.putfield 15, 3) := by decide +kernel
theorem dX1_readCaveat_42 : decode cX1_readCaveat 42 = .ok (.return_, 1) := by decide +kernel
theorem dX1_readCaveat_43 : decode cX1_readCaveat 43 = .ok (.aload_n 0, 1) := by decide +kernel
theorem dX1_readCaveat_44 : decode cX1_readCaveat 44 = .ok (.dup, 1) := by decide +kernel
theorem dX1_readCaveat_45 : decode cX1_readCaveat 45 = .ok (.getfield 32, 3) := by decide +kernel
theorem dX1_readCaveat_48 : decode cX1_readCaveat 48 = .ok (.iconst 1, 1) := by decide +kernel
theorem dX1_readCaveat_49 : decode cX1_readCaveat 49 = .ok (.iadd, 1) := by decide +kernel
theorem dX1_readCaveat_50 : decode cX1_readCaveat 50 = .ok (.putfield 32, 3) := by decide +kernel
theorem dX1_readCaveat_53 : decode cX1_readCaveat 53 = .ok (.aload_n 0, 1) := by decide +kernel
theorem dX1_readCaveat_54 : decode cX1_readCaveat 54 = .ok (.getfield 32, 3) := by decide +kernel
theorem dX1_readCaveat_57 : decode cX1_readCaveat 57 = .ok (.istore_n 3, 1) := by decide +kernel
theorem dX1_readCaveat_58 : decode cX1_readCaveat 58 = .ok (.aload_n 0, 1) := by decide +kernel
theorem dX1_readCaveat_59 : decode cX1_readCaveat 59 = .ok (.invokevirtual 54, 3) := by decide +kernel
theorem dX1_readCaveat_62 : decode cX1_readCaveat 62 = .ok (.istore 4, 2) := by decide +kernel
theorem dX1_readCaveat_64 : decode cX1_readCaveat 64 = .ok (.aload_n 0, 1) := by decide +kernel
theorem dX1_readCaveat_65 : decode cX1_readCaveat 65 = .ok (.getfield 15, 3) := by decide +kernel
theorem dX1_readCaveat_68 : decode cX1_readCaveat 68 = .ok (.iconst (-1), 1) := by decide +kernel
theorem dX1_readCaveat_69 : decode cX1_readCaveat 69 = .ok (.if_icmp .ne 18, 3) := by decide +kernel
theorem dX1_readCaveat_72 : decode cX1_readCaveat 72 = .ok (.iload 4, 2) := by decide +kernel
theorem dX1_readCaveat_74 : decode cX1_readCaveat 74 = .ok (.getstatic 58, 3) := by decide +kernel
theorem dX1_readCaveat_77 : decode cX1_readCaveat 77 = .ok (.iload_n 2, 1) := by decide +kernel
theorem dX1_readCaveat_78 : decode cX1_readCaveat 78 = .ok (.iaload, 1) := by decide +kernel
theorem dX1_readCaveat_79 : decode cX1_readCaveat 79 = .ok (.if_icmp .le 8, 3) := by decide +kernel
theorem dX1_readCaveat_82 : decode cX1_readCaveat 82 = .ok (.aload_n 0, 1) := by decide +kernel
theorem dX1_readCaveat_83 : decode cX1_readCaveat 83 = .ok (.iload_n 3, 1) := by decide +kernel
theorem dX1_readCaveat_84 : decode cX1_readCaveat 84 = .ok (.putfield 15, 3) := by decide +kernel
theorem dX1_readCaveat_87 : decode cX1_readCaveat 87 = .ok (.aload_n 0, 1) := by decide +kernel
theorem dX1_readCaveat_88 : decode cX1_readCaveat 88 = .ok (.getfield 19, 3) := by decide +kernel
theorem dX1_readCaveat_91 : decode cX1_readCaveat 91 = .ok (.iload_n 1, 1) := by decide +kernel
theorem dX1_readCaveat_92 : decode cX1_readCaveat 92 = .ok (.iload_n 2, 1) := by decide +kernel
theorem dX1_readCaveat_93 : decode cX1_readCaveat 93 = .ok (.iastore, 1) := by decide +kernel
theorem dX1_readCaveat_94 : decode cX1_readCaveat 94 = .ok (.aload_n 0, 1) := by decide +kernel
theorem dX1_readCaveat_95 : decode cX1_readCaveat 95 = .ok (.getfield 23, 3) := by decide +kernel
theorem dX1_readCaveat_98 : decode cX1_readCaveat 98 = .ok (.iload_n 1, 1) := by decide +kernel
theorem dX1_readCaveat_99 : decode cX1_readCaveat 99 = .ok (.iload 4, 2) := by decide +kernel
theorem dX1_readCaveat_101 : decode cX1_readCaveat 101 = .ok (.iastore, 1) := by decide +kernel
theorem dX1_readCaveat_102 : decode cX1_readCaveat 102 = .ok (.aload_n 0, 1) := by decide +kernel
theorem dX1_readCaveat_103 : decode cX1_readCaveat 103 = .ok (.getfield 26, 3) := by decide +kernel
theorem dX1_readCaveat_106 : decode cX1_readCaveat 106 = .ok (.iload_n 1, 1) := by decide +kernel
theorem dX1_readCaveat_107 : decode cX1_readCaveat 107 = .ok (.iconst (-1), 1) := by decide +kernel
theorem dX1_readCaveat_108 : decode cX1_readCaveat 108 = .ok (.iastore, 1) := by decide +kernel
theorem dX1_readCaveat_109 : decode cX1_readCaveat 109 = .ok (.aload_n 0, 1) := by decide +kernel
theorem dX1_readCaveat_110 : decode cX1_readCaveat 110 = .ok (.getfield 15, 3) := by decide +kernel
theorem dX1_readCaveat_113 : decode cX1_readCaveat 113 = .ok (.iconst (-1), 1) := by decide +kernel
theorem dX1_readCaveat_114 : decode cX1_readCaveat 114 = .ok (.if_icmp .ne 13, 3) := by decide +kernel
theorem dX1_readCaveat_117 : decode cX1_readCaveat 117 = .ok (.iload_n 2, 1) := by decide +kernel
theorem dX1_readCaveat_118 : decode cX1_readCaveat 118 = .ok (.iconst 4, 1) := by decide +kernel
theorem dX1_readCaveat_119 : decode cX1_readCaveat 119 = .ok (.if_icmp .ne 8, 3) := by decide +kernel
theorem dX1_readCaveat_122 : decode cX1_readCaveat 122 = .ok (.aload_n 0, 1) := by decide +kernel
theorem dX1_readCaveat_123 : decode cX1_readCaveat 123 = .ok (.iload_n 1, 1) := by decide +kernel
theorem dX1_readCaveat_124 : decode cX1_readCaveat 124 = .ok (.invokevirtual 61, 3) := by decide +kernel
theorem dX1_readCaveat_127 : decode cX1_readCaveat 127 = .ok (.aload_n 0, 1) := by decide +kernel
theorem dX1_readCaveat_128 : decode cX1_readCaveat 128 = .ok (.iload_n 1, 1) := by decide +kernel
theorem dX1_readCaveat_129 : decode cX1_readCaveat 129 = .ok (.iconst 1, 1) := by decide +kernel
theorem dX1_readCaveat_130 : decode cX1_readCaveat 130 = .ok (.iadd, 1) := by decide +kernel
theorem dX1_readCaveat_131 : decode cX1_readCaveat 131 = .ok (.putfield 35, 3) := by decide +kernel
theorem dX1_readCaveat_134 : decode cX1_readCaveat 134 = .ok (.return_, 1) := by decide +kernel
set_option maxRecDepth 20000 in
theorem ggX1_readCaveat_X1_readNumber : GoodIn wsX1_readCaveat wsX1_readNumber := goodIn_ca (goodIn_r _ [102, 1, 4, 3, 103, 104, 105, 101, 106, 2, 107, 108, 109, 110, 115, 116, 117, 118, 119, 120, 121, 122] (by decide +kernel) (by decide +kernel)) (goodIn_sub (fun _ h => List.mem_cons_of_mem _ (List.mem_append_right _ h)) (by decide +kernel))
set_option maxRecDepth 20000 in
theorem gX1_readCaveat_X1_readNumber : GoodIn wsX1_readCaveat (wsV RX1 54 RX1 yX1_readNumber wsX1_readNumber) := goodIn_app (goodIn_of _ (by decide +kernel)) ggX1_readCaveat_X1_readNumber
set_option maxRecDepth 20000 in
theorem ggX1_readCaveat_X1_readEnd : GoodIn wsX1_readCaveat wsX1_readEnd := goodIn_ca (goodIn_r _ [114, 1, 4, 7, 6, 107, 108, 109, 101, 110, 2, 3, 98, 99, 100, 102, 103, 104, 105, 106, 115, 116, 117, 118, 119, 120, 121, 122] (by decide +kernel) (by decide +kernel)) (goodIn_sub (fun _ h => List.mem_cons_of_mem _ (List.mem_append_right _ h)) (by decide +kernel))
set_option maxRecDepth 20000 in
theorem gX1_readCaveat_X1_readEnd : GoodIn wsX1_readCaveat (wsV RX1 61 RX1 yX1_readEnd wsX1_readEnd) := goodIn_app (goodIn_of _ (by decide +kernel)) ggX1_readCaveat_X1_readEnd
set_option maxRecDepth 20000 in
theorem ggX1_readCaveat_J0_indexOf_0f7a4 : GoodIn wsX1_readCaveat wsJ0_indexOf_0f7a4 := goodIn_r _ [13, 14, 15, 16, 12, 17, 18, 19, 20, 21, 22, 23, 24, 25, 26, 27, 28, 29, 30, 31, 32, 33, 34, 35, 36, 37, 38, 39, 40, 41, 42, 43, 44, 45, 46, 47, 48, 49, 50, 51, 52, 53, 54, 55, 56, 57, 58, 59, 60, 61, 62, 63, 64, 65, 66, 67, 68, 69, 70, 71, 72, 73, 74, 75, 76, 77, 78, 79, 80, 81, 82, 83, 84, 85, 86, 87, 88, 89, 90, 91, 92, 93, 94, 95, 96, 97, 123, 124, 125, 126] (by decide +kernel) (by decide +kernel)
set_option maxRecDepth 20000 in
theorem gX1_readCaveat_J0_indexOf_0f7a4 : GoodIn wsX1_readCaveat (wsV RX1 48 RJ0 yJ0_indexOf_0f7a4 wsJ0_indexOf_0f7a4) := goodIn_app (goodIn_of _ (by decide +kernel)) ggX1_readCaveat_J0_indexOf_0f7a4
def rm_X1_readCaveat : Room := { frames := 5, cells := 0, slots := 0, locals := 107 }
set_option maxHeartbeats 4000000 in
set_option maxRecDepth 100000 in
theorem c_X1_readCaveat (l : Launch) {G : zG} {ad : Nat → Nat} {σ σ' : zs} {a1 : Int32} {r : Int32} (hf : f_X1_readCaveat σ a1 = some (r, σ')) : xMv l yX1_readCaveat wsX1_readCaveat rm_X1_readCaveat G ad σ [.ref (ad 52), .int a1] σ' := by
  intro sz nb a g hs
  refine Met.ofW (cc := cX1_readCaveat) (maxL := 5) (ret := none) (by decide) rfl ?_
  intro p e s m args below meth c s₁ B hml hv
  obtain ⟨rfl, hsz, hv⟩ := hv
  have hx := B.exec
  have hb := B.bytes
  have hr := B.returns
  have hts := atoms_spec (ws := wsX1_readCaveat) B.pre
  have hown : s.vm.findClass RX1 = some m.cls := findClass_of_methodNamed B.named
  have hlocks := B.notSynchronized
  subst hsz
  have B := xB_start hs hv
  have hinRX1 : ∀ w ∈ wsX10, w ∈ wsX1_readCaveat := by decide +kernel
  have hl := lv_entry ([.ref (ad 52), .int a1]) (n := 5) (Nat.le_of_ble_eq_true rfl)
  rw [lg_entry_eq]
  generalize (lg_sl ([.ref (ad 52), .int a1]) ++ List.replicate (5 - (lg_sl ([.ref (ad 52), .int a1])).length) Slot.unset).toArray = ls at hl ⊢
  have hl : lv_has ls 5 [(0, .ref (ad 52)), (1, .int a1)] := hl
  generalize hAe : xA ad a s.heap.size = A at B ⊢
  have L87 : ∀ (σ : zs) (v1 : Int32) (v2 : Int32) (v4 : Int32) (H : Heap) (locs : List Loc) (ls : Array Slot), f_X1_readCaveat_87 σ v1 v2 v4 = some (r, σ') → xB A s G ad σ H locs → lv_has ls 5 [(0, .ref (ad 52)), (1, .int v1), (2, .int v2), (4, .int v4)] → W p l e (headSpec wsX1_readCaveat rm_X1_readCaveat).room s m ([.ref (ad 52), .int a1] : List Value).toArray below meth c H locs 0 0 (MQ below (va_Qv (fun (u : xV) => xQ σ' u) (xPost G ad σ' A) A) ([.ref (ad 52), .int a1] : List Value).toArray s 0 0 A) (F0 m 87 ls []) := by
    intro σ v1 v2 v4 H locs ls hf B hl
    unfold f_X1_readCaveat_87 at hf
    refine lv_aload_n hx hb dX1_readCaveat_87 rfl (lv_at hl 0 rfl) ?_
    refine x_getr hx hb hts hinRX1 hown B 52 4 54 (by decide) (by decide) (fun _ => rfl) rfl rfl (by decide) (by decide +kernel) rfl dX1_readCaveat_88 ?_
    refine lv_iload_n hx hb dX1_readCaveat_91 rfl (lv_at hl 1 rfl) ?_
    refine lv_iload_n hx hb dX1_readCaveat_92 rfl (lv_at hl 2 rfl) ?_
    obtain ⟨hg, hf⟩ := zg_some hf
    refine x_iast hx hb B 54 (by decide) (by decide) (fun _ => rfl) (zin_ok hg) dX1_readCaveat_93 (fun H locs B => ?_)
    refine lv_aload_n hx hb dX1_readCaveat_94 rfl (lv_at hl 0 rfl) ?_
    refine x_getr hx hb hts hinRX1 hown B 52 5 55 (by decide) (by decide) (fun _ => rfl) rfl rfl (by decide) (by decide +kernel) rfl dX1_readCaveat_95 ?_
    refine lv_iload_n hx hb dX1_readCaveat_98 rfl (lv_at hl 1 rfl) ?_
    refine lv_iload hx hb dX1_readCaveat_99 (lv_at hl 3 rfl) ?_
    obtain ⟨hg, hf⟩ := zg_some hf
    refine x_iast hx hb B 55 (by decide) (by decide) (fun _ => rfl) (zin_ok hg) dX1_readCaveat_101 (fun H locs B => ?_)
    refine lv_aload_n hx hb dX1_readCaveat_102 rfl (lv_at hl 0 rfl) ?_
    refine x_getr hx hb hts hinRX1 hown B 52 6 56 (by decide) (by decide) (fun _ => rfl) rfl rfl (by decide) (by decide +kernel) rfl dX1_readCaveat_103 ?_
    refine lv_iload_n hx hb dX1_readCaveat_106 rfl (lv_at hl 1 rfl) ?_
    refine lv_iconst (v := (-1 : Int32)) hx hb dX1_readCaveat_107 (by decide) ?_
    obtain ⟨hg, hf⟩ := zg_some hf
    refine x_iast hx hb B 56 (by decide) (by decide) (fun _ => rfl) (zin_ok hg) dX1_readCaveat_108 (fun H locs B => ?_)
    refine lv_aload_n hx hb dX1_readCaveat_109 rfl (lv_at hl 0 rfl) ?_
    refine x_geti hx hb hts hinRX1 hown B 52 2 (by decide) (fun _ => rfl) rfl rfl (by decide) (by decide +kernel) rfl dX1_readCaveat_110 ?_
    refine lv_iconst (v := (-1 : Int32)) hx hb dX1_readCaveat_113 (by decide) ?_
    refine lv_icmp_ne (tgt := 127) hx hb dX1_readCaveat_114 (by decide) (fun hc => ?_) (fun hc => ?_)
    · have hf := zif_f hc hf
      refine lv_aload_n hx hb dX1_readCaveat_127 rfl (lv_at hl 0 rfl) ?_
      refine lv_iload_n hx hb dX1_readCaveat_128 rfl (lv_at hl 1 rfl) ?_
      refine lv_iconst (v := (1 : Int32)) hx hb dX1_readCaveat_129 (by decide) ?_
      refine lv_iadd hx hb dX1_readCaveat_130 ?_
      refine x_puti hx hb hts hinRX1 hown tyX1 tyX1_ok nmX1 B 52 3 (by decide) (by decide) (fun _ => rfl) rfl rfl (by decide) (by decide +kernel) rfl rfl rfl rfl dX1_readCaveat_131 (fun H locs B => ?_)
      refine W.widen (k := 0) (n := 0) (Nat.le_of_ble_eq_true rfl) (Nat.le_of_ble_eq_true rfl) ?_
      exact x_vret hx hb hr hlocks B hf dX1_readCaveat_134
    · have hf := zif_t hc hf
      refine lv_iload_n hx hb dX1_readCaveat_117 rfl (lv_at hl 2 rfl) ?_
      refine lv_iconst (v := (4 : Int32)) hx hb dX1_readCaveat_118 (by decide) ?_
      refine lv_icmp_ne (tgt := 127) hx hb dX1_readCaveat_119 (by decide) (fun hc => ?_) (fun hc => ?_)
      · have hf := zif_f hc hf
        refine lv_aload_n hx hb dX1_readCaveat_127 rfl (lv_at hl 0 rfl) ?_
        refine lv_iload_n hx hb dX1_readCaveat_128 rfl (lv_at hl 1 rfl) ?_
        refine lv_iconst (v := (1 : Int32)) hx hb dX1_readCaveat_129 (by decide) ?_
        refine lv_iadd hx hb dX1_readCaveat_130 ?_
        refine x_puti hx hb hts hinRX1 hown tyX1 tyX1_ok nmX1 B 52 3 (by decide) (by decide) (fun _ => rfl) rfl rfl (by decide) (by decide +kernel) rfl rfl rfl rfl dX1_readCaveat_131 (fun H locs B => ?_)
        refine W.widen (k := 0) (n := 0) (Nat.le_of_ble_eq_true rfl) (Nat.le_of_ble_eq_true rfl) ?_
        exact x_vret hx hb hr hlocks B hf dX1_readCaveat_134
      · have hf := zif_t hc hf
        refine lv_aload_n hx hb dX1_readCaveat_122 rfl (lv_at hl 0 rfl) ?_
        refine lv_iload_n hx hb dX1_readCaveat_123 rfl (lv_at hl 1 rfl) ?_
        obtain ⟨r5, σ6, hu4, hf⟩ := zb_some hf
        refine x_v B (fun nb a g hs Bz => va_runV (As := [.int v1]) (rest := []) ⟨hx, hb, hml, hown, hts⟩ (c_X1_readEnd l hu4 _ nb a g hs) (cwV 1 hts gX1_readCaveat_X1_readEnd rfl rfl rfl (by decide +kernel) ⟨Nat.le_of_ble_eq_true rfl, Nat.le_of_ble_eq_true rfl⟩) (x_preV Bz (by decide) (fun _ => rfl) rfl) rfl rfl hl.1 rfl (lv_room (Nat.le_of_ble_eq_true rfl)) dX1_readCaveat_124 ⟨Nat.le_of_ble_eq_true rfl, Nat.le_of_ble_eq_true rfl⟩) (fun H locs B => ?_)
        refine lv_aload_n hx hb dX1_readCaveat_127 rfl (lv_at hl 0 rfl) ?_
        refine lv_iload_n hx hb dX1_readCaveat_128 rfl (lv_at hl 1 rfl) ?_
        refine lv_iconst (v := (1 : Int32)) hx hb dX1_readCaveat_129 (by decide) ?_
        refine lv_iadd hx hb dX1_readCaveat_130 ?_
        refine x_puti hx hb hts hinRX1 hown tyX1 tyX1_ok nmX1 B 52 3 (by decide) (by decide) (fun _ => rfl) rfl rfl (by decide) (by decide +kernel) rfl rfl rfl rfl dX1_readCaveat_131 (fun H locs B => ?_)
        refine W.widen (k := 0) (n := 0) (Nat.le_of_ble_eq_true rfl) (Nat.le_of_ble_eq_true rfl) ?_
        exact x_vret hx hb hr hlocks B hf dX1_readCaveat_134
  have L29 : ∀ (σ : zs) (v1 : Int32) (s0 : Int32) (H : Heap) (locs : List Loc) (ls : Array Slot), f_X1_readCaveat_29 σ v1 s0 = some (r, σ') → xB A s G ad σ H locs → lv_has ls 5 [(0, .ref (ad 52)), (1, .int v1)] → W p l e (headSpec wsX1_readCaveat rm_X1_readCaveat).room s m ([.ref (ad 52), .int a1] : List Value).toArray below meth c H locs 0 0 (MQ below (va_Qv (fun (u : xV) => xQ σ' u) (xPost G ad σ' A) A) ([.ref (ad 52), .int a1] : List Value).toArray s 0 0 A) (F0 m 29 ls [.int s0]) := by
    intro σ v1 s0 H locs ls hf B hl
    unfold f_X1_readCaveat_29 at hf
    refine lv_istore_n (lv' := [(2, .int s0), (0, .ref (ad 52)), (1, .int v1)]) hx hb dX1_readCaveat_29 rfl hl (by decide) rfl (fun ls hl => ?_)
    refine lv_iload_n hx hb dX1_readCaveat_30 rfl (lv_at hl 0 rfl) ?_
    refine lv_if_ge (tgt := 43) hx hb dX1_readCaveat_31 (by decide) (fun hc => ?_) (fun hc => ?_)
    · have hf := zif_t hc hf
      refine lv_aload_n hx hb dX1_readCaveat_43 rfl (lv_at hl 1 rfl) ?_
      refine lv_dup hx hb dX1_readCaveat_44 rfl ?_
      refine x_geti hx hb hts hinRX1 hown B 52 7 (by decide) (fun _ => rfl) rfl rfl (by decide) (by decide +kernel) rfl dX1_readCaveat_45 ?_
      refine lv_iconst (v := (1 : Int32)) hx hb dX1_readCaveat_48 (by decide) ?_
      refine lv_iadd hx hb dX1_readCaveat_49 ?_
      refine x_puti hx hb hts hinRX1 hown tyX1 tyX1_ok nmX1 B 52 7 (by decide) (by decide) (fun _ => rfl) rfl rfl (by decide) (by decide +kernel) rfl rfl rfl rfl dX1_readCaveat_50 (fun H locs B => ?_)
      refine lv_aload_n hx hb dX1_readCaveat_53 rfl (lv_at hl 1 rfl) ?_
      refine x_geti hx hb hts hinRX1 hown B 52 7 (by decide) (fun _ => rfl) rfl rfl (by decide) (by decide +kernel) rfl dX1_readCaveat_54 ?_
      refine lv_istore_n (lv' := [(3, .int ((zp σ 52 7 ((σ 52 7) + (1 : Int32))) 52 7)), (2, .int s0), (0, .ref (ad 52)), (1, .int v1)]) hx hb dX1_readCaveat_57 rfl hl (by decide) rfl (fun ls hl => ?_)
      refine lv_aload_n hx hb dX1_readCaveat_58 rfl (lv_at hl 2 rfl) ?_
      obtain ⟨r2, σ3, hu1, hf⟩ := zb_some hf
      refine x_i B (fun nb a g hs Bz => va_runV (As := []) (rest := []) ⟨hx, hb, hml, hown, hts⟩ (c_X1_readNumber l hu1 _ nb a g hs) (cwV 0 hts gX1_readCaveat_X1_readNumber rfl rfl rfl (by decide +kernel) ⟨Nat.le_of_ble_eq_true rfl, Nat.le_of_ble_eq_true rfl⟩) (x_preV Bz (by decide) (fun _ => rfl) rfl) rfl rfl hl.1 rfl (lv_room (Nat.le_of_ble_eq_true rfl)) dX1_readCaveat_59 ⟨Nat.le_of_ble_eq_true rfl, Nat.le_of_ble_eq_true rfl⟩) (fun H locs B => ?_)
      refine lv_istore (lv' := [(4, .int r2), (3, .int ((zp σ 52 7 ((σ 52 7) + (1 : Int32))) 52 7)), (2, .int s0), (0, .ref (ad 52)), (1, .int v1)]) hx hb dX1_readCaveat_62 hl (by decide) rfl (fun ls hl => ?_)
      refine lv_aload_n hx hb dX1_readCaveat_64 rfl (lv_at hl 3 rfl) ?_
      refine x_geti hx hb hts hinRX1 hown B 52 2 (by decide) (fun _ => rfl) rfl rfl (by decide) (by decide +kernel) rfl dX1_readCaveat_65 ?_
      refine lv_iconst (v := (-1 : Int32)) hx hb dX1_readCaveat_68 (by decide) ?_
      refine lv_icmp_ne (tgt := 87) hx hb dX1_readCaveat_69 (by decide) (fun hc => ?_) (fun hc => ?_)
      · have hf := zif_f hc hf
        exact L87  _ _ _ _ _ _ _ hf B (lv_sub hl [3, 4, 2, 0] rfl)
      · have hf := zif_t hc hf
        refine lv_iload hx hb dX1_readCaveat_72 (lv_at hl 0 rfl) ?_
        refine x_cs B (fun nb a g hs Bz => z_greg hx hb hown Bz dX1_readCaveat_74 ?_)
        refine lv_iload_n hx hb dX1_readCaveat_77 rfl (lv_at hl 2 rfl) ?_
        obtain ⟨hg, hf⟩ := zg_some hf
        refine x_cs B (fun nb a g hs Bz => z_grei hx hb Bz (zin_ok hg) dX1_readCaveat_78 ?_)
        refine lv_icmp_le (tgt := 87) hx hb dX1_readCaveat_79 (by decide) (fun hc => ?_) (fun hc => ?_)
        · have hf := zif_t hc hf
          exact L87  _ _ _ _ _ _ _ hf B (lv_sub hl [3, 4, 2, 0] rfl)
        · have hf := zif_f hc hf
          refine lv_aload_n hx hb dX1_readCaveat_82 rfl (lv_at hl 3 rfl) ?_
          refine lv_iload_n hx hb dX1_readCaveat_83 rfl (lv_at hl 1 rfl) ?_
          refine x_puti hx hb hts hinRX1 hown tyX1 tyX1_ok nmX1 B 52 2 (by decide) (by decide) (fun _ => rfl) rfl rfl (by decide) (by decide +kernel) rfl rfl rfl rfl dX1_readCaveat_84 (fun H locs B => ?_)
          exact L87  _ _ _ _ _ _ _ hf B (lv_sub hl [3, 4, 2, 0] rfl)
    · have hf := zif_f hc hf
      refine lv_aload_n hx hb dX1_readCaveat_34 rfl (lv_at hl 1 rfl) ?_
      refine lv_aload_n hx hb dX1_readCaveat_35 rfl (lv_at hl 1 rfl) ?_
      refine x_geti hx hb hts hinRX1 hown B 52 7 (by decide) (fun _ => rfl) rfl rfl (by decide) (by decide +kernel) rfl dX1_readCaveat_36 ?_
      refine x_puti hx hb hts hinRX1 hown tyX1 tyX1_ok nmX1 B 52 2 (by decide) (by decide) (fun _ => rfl) rfl rfl (by decide) (by decide +kernel) rfl rfl rfl rfl dX1_readCaveat_39 (fun H locs B => ?_)
      refine W.widen (k := 0) (n := 0) (Nat.le_of_ble_eq_true rfl) (Nat.le_of_ble_eq_true rfl) ?_
      exact x_vret hx hb hr hlocks B hf dX1_readCaveat_42
  unfold f_X1_readCaveat at hf
  refine lv_aload_n hx hb dX1_readCaveat_0 rfl (lv_at hl 0 rfl) ?_
  refine x_geti hx hb hts hinRX1 hown B 52 7 (by decide) (fun _ => rfl) rfl rfl (by decide) (by decide +kernel) rfl dX1_readCaveat_1 ?_
  refine lv_aload_n hx hb dX1_readCaveat_4 rfl (lv_at hl 0 rfl) ?_
  refine x_geti hx hb hts hinRX1 hown B 52 1 (by decide) (fun _ => rfl) rfl rfl (by decide) (by decide +kernel) rfl dX1_readCaveat_5 ?_
  refine lv_icmp_ge (tgt := 28) hx hb dX1_readCaveat_8 (by decide) (fun hc => ?_) (fun hc => ?_)
  · have hf := zif_t hc hf
    refine lv_iconst (v := (-1 : Int32)) hx hb dX1_readCaveat_28 (by decide) ?_
    exact L29  _ _ _ _ _ _ hf B (lv_sub hl [0, 1] rfl)
  · have hf := zif_f hc hf
    refine x_cs B (fun nb a g hs Bz => z_ldc1 hx hb hown Bz dX1_readCaveat_11 ?_)
    refine lv_aload_n hx hb dX1_readCaveat_13 rfl (lv_at hl 0 rfl) ?_
    refine x_getr hx hb hts hinRX1 hown B 52 0 53 (by decide) (by decide) (fun _ => rfl) rfl rfl (by decide) (by decide +kernel) rfl dX1_readCaveat_14 ?_
    refine lv_aload_n hx hb dX1_readCaveat_17 rfl (lv_at hl 0 rfl) ?_
    refine x_geti hx hb hts hinRX1 hown B 52 7 (by decide) (fun _ => rfl) rfl rfl (by decide) (by decide +kernel) rfl dX1_readCaveat_18 ?_
    obtain ⟨hg, hf⟩ := zg_some hf
    refine x_cald hx hb B 53 (by decide) (fun _ => rfl) (zin_ok hg) dX1_readCaveat_21 ?_
    obtain ⟨r8, σ9, hu7, hf⟩ := zb_some hf
    refine x_i B (fun nb a g hs Bz => va_runV (As := [.int (σ 53 (σ 52 7).toNatClampNeg)]) (rest := []) ⟨hx, hb, hml, hown, hts⟩ (c_J0_indexOf_0f7a4 l hu7 _ nb a g hs) (cwV 1 hts gX1_readCaveat_J0_indexOf_0f7a4 rfl rfl rfl (by decide +kernel) ⟨Nat.le_of_ble_eq_true rfl, Nat.le_of_ble_eq_true rfl⟩) (z_preL Bz) rfl rfl hl.1 rfl (lv_room (Nat.le_of_ble_eq_true rfl)) dX1_readCaveat_22 ⟨Nat.le_of_ble_eq_true rfl, Nat.le_of_ble_eq_true rfl⟩) (fun H locs B => ?_)
    refine lv_goto (tgt := 29) hx hb dX1_readCaveat_25 (by decide) ?_
    exact L29  _ _ _ _ _ _ hf B (lv_sub hl [0, 1] rfl)
theorem dX1_readAll_0 : decode cX1_readAll 0 = .ok (.aload_n 0, 1) := by decide +kernel
theorem dX1_readAll_1 : decode cX1_readAll 1 = .ok (.iconst 0, 1) := by decide +kernel
theorem dX1_readAll_2 : decode cX1_readAll 2 = .ok (.putfield 32, 3) := by decide +kernel
theorem dX1_readAll_5 : decode cX1_readAll 5 = .ok (.aload_n 0, 1) := by decide +kernel
theorem dX1_readAll_6 : decode cX1_readAll 6 = .ok (.iconst 0, 1) := by decide +kernel
theorem dX1_readAll_7 : decode cX1_readAll 7 = .ok (.putfield 35, 3) := by decide +kernel
theorem dX1_readAll_10 : decode cX1_readAll 10 = .ok (.aload_n 0, 1) := by decide +kernel
theorem dX1_readAll_11 : decode cX1_readAll 11 = .ok (.iconst (-1), 1) := by decide +kernel
theorem dX1_readAll_12 : decode cX1_readAll 12 = .ok (.putfield 15, 3) := by decide +kernel
theorem dX1_readAll_15 : decode cX1_readAll 15 = .ok (.iconst 1, 1) := by decide +kernel
theorem dX1_readAll_16 : decode cX1_readAll 16 = .ok (.istore_n 1, 1) := by decide +kernel
theorem dX1_readAll_17 : decode cX1_readAll 17 = .ok (.iconst 0, 1) := by decide +kernel
theorem dX1_readAll_18 : decode cX1_readAll 18 = .ok (.istore_n 2, 1) := by decide +kernel
theorem dX1_readAll_19 : decode cX1_readAll 19 = .ok (.iload_n 2, 1) := by decide +kernel
theorem dX1_readAll_20 : decode cX1_readAll 20 = .ok (.iconst 4, 1) := by decide +kernel
theorem dX1_readAll_21 : decode cX1_readAll 21 = .ok (.if_icmp .ge 62, 3) := by decide +kernel
theorem dX1_readAll_24 : decode cX1_readAll 24 = .ok (.iload_n 1, 1) := by decide +kernel
theorem dX1_readAll_25 : decode cX1_readAll 25 = .ok (.ifCond .eq 58, 3) := by decide +kernel
theorem dX1_readAll_28 : decode cX1_readAll 28 = .ok (.aload_n 0, 1) := by decide +kernel
theorem dX1_readAll_29 : decode cX1_readAll 29 = .ok (.iload_n 2, 1) := by decide +kernel
theorem dX1_readAll_30 : decode cX1_readAll 30 = .ok (.invokevirtual 38, 3) := by decide +kernel
theorem dX1_readAll_33 : decode cX1_readAll 33 = .ok (.aload_n 0, 1) := by decide +kernel
theorem dX1_readAll_34 : decode cX1_readAll 34 = .ok (.getfield 15, 3) := by decide +kernel
theorem dX1_readAll_37 : decode cX1_readAll 37 = .ok (.iconst (-1), 1) := by decide +kernel
theorem dX1_readAll_38 : decode cX1_readAll 38 = .ok (.if_icmp .ne 23, 3) := by decide +kernel
theorem dX1_readAll_41 : decode cX1_readAll 41 = .ok (.iload_n 2, 1) := by decide +kernel
theorem dX1_readAll_42 : decode cX1_readAll 42 = .ok (.iconst 1, 1) := by decide +kernel
theorem dX1_readAll_43 : decode cX1_readAll 43 = .ok (.iadd, 1) := by decide +kernel
theorem dX1_readAll_44 : decode cX1_readAll 44 = .ok (.iconst 4, 1) := by decide +kernel
theorem dX1_readAll_45 : decode cX1_readAll 45 = .ok (.if_icmp .ge 16, 3) := by decide +kernel
theorem dX1_readAll_48 : decode cX1_readAll 48 = .ok (.aload_n 0, 1) := by decide +kernel
theorem dX1_readAll_49 : decode cX1_readAll 49 = .ok (.bipush 59, 2) := by decide +kernel
theorem dX1_readAll_51 : decode cX1_readAll 51 = .ok (.invokevirtual 42, 3) := by decide +kernel
theorem dX1_readAll_54 : decode cX1_readAll 54 = .ok (.ifCond .eq 7, 3) := by decide +kernel
theorem dX1_readAll_57 : decode cX1_readAll 57 = .ok (.iconst 1, 1) := by decide +kernel
theorem dX1_readAll_58 : decode cX1_readAll 58 = .ok (.goto 4, 3) := by decide +kernel
theorem dX1_readAll_61 : decode cX1_readAll 61 = .ok (.iconst 0, 1) := by decide +kernel
theorem dX1_readAll_62 : decode cX1_readAll 62 = .ok (.istore_n 1, 1) := by decide +kernel
theorem dX1_readAll_63 : decode cX1_readAll 63 = .ok (.iload_n 1, 1) := by decide +kernel
theorem dX1_readAll_64 : decode cX1_readAll 64 = .ok (.ifCond .eq 13, 3) := by decide +kernel
theorem dX1_readAll_67 : decode cX1_readAll 67 = .ok (.aload_n 0, 1) := by decide +kernel
theorem dX1_readAll_68 : decode cX1_readAll 68 = .ok (.dup, 1) := by decide +kernel
theorem dX1_readAll_69 : decode cX1_readAll 69 = .ok (.getfield 32, 3) := by decide +kernel
theorem dX1_readAll_72 : decode cX1_readAll 72 = .ok (.iconst 1, 1) := by decide +kernel
theorem dX1_readAll_73 : decode cX1_readAll 73 = .ok (.iadd, 1) := by decide +kernel
theorem dX1_readAll_74 : decode cX1_readAll 74 = .ok (.putfield 32, 3) := by decide +kernel
theorem dX1_readAll_77 : decode cX1_readAll 77 = .ok (.iinc 2 1, 3) := by decide +kernel
theorem dX1_readAll_80 : decode cX1_readAll 80 = .ok (.goto (-61), 3) := by decide +kernel
theorem dX1_readAll_83 : decode cX1_readAll 83 = .ok (.aload_n 0, 1) := by decide +kernel
theorem dX1_readAll_84 : decode cX1_readAll 84 = .ok (.getfield 15, 3) := by decide +kernel
theorem dX1_readAll_87 : decode cX1_readAll 87 = .ok (.iconst (-1), 1) := by decide +kernel
theorem dX1_readAll_88 : decode cX1_readAll 88 = .ok (.if_icmp .ne 22, 3) := by decide +kernel
theorem dX1_readAll_91 : decode cX1_readAll 91 = .ok (.aload_n 0, 1) := by decide +kernel
theorem dX1_readAll_92 : decode cX1_readAll 92 = .ok (.getfield 32, 3) := by decide +kernel
theorem dX1_readAll_95 : decode cX1_readAll 95 = .ok (.aload_n 0, 1) := by decide +kernel
theorem dX1_readAll_96 : decode cX1_readAll 96 = .ok (.getfield 29, 3) := by decide +kernel
theorem dX1_readAll_99 : decode cX1_readAll 99 = .ok (.if_icmp .ge 11, 3) := by decide +kernel
theorem dX1_readAll_102 : decode cX1_readAll 102 = .ok (.aload_n 0, 1) := by decide +kernel
theorem dX1_readAll_103 : decode cX1_readAll 103 = .ok (.aload_n 0, 1) := by decide +kernel
theorem dX1_readAll_104 : decode cX1_readAll 104 = .ok (.getfield 32, 3) := by decide +kernel
theorem dX1_readAll_107 : decode cX1_readAll 107 = .ok (.putfield 15, 3) := by decide +kernel
theorem dX1_readAll_110 : decode cX1_readAll 110 = .ok (.return_, 1) := by decide +kernel
set_option maxRecDepth 20000 in
theorem ggX1_readAll_X1_readCaveat : GoodIn wsX1_readAll wsX1_readCaveat := goodIn_ca (goodIn_r _ [9, 1, 4, 10, 3, 11, 12, 13, 2, 14, 15, 16, 17, 18, 19, 20, 21, 22, 23, 24, 25, 26, 27, 28, 29, 30, 31, 32, 33, 34, 35, 36, 37, 38, 39, 40, 41, 42, 43, 44, 45, 46, 47, 48, 49, 50, 51, 52, 53, 54, 55, 56, 57, 58, 59, 60, 61, 62, 63, 64, 65, 66, 67, 68, 69, 70, 71, 72, 73, 74, 75, 76, 77, 78, 79, 80, 81, 82, 83, 84, 85, 86, 87, 88, 89, 90, 91, 92, 93, 94, 95, 96, 97, 98, 99, 100, 101, 102, 103, 104, 105, 8, 106, 107, 108, 109, 110, 111, 112, 113, 114, 115, 116, 117, 118, 119, 120, 121, 122, 123, 124, 125, 126, 127, 128, 129, 130] (by decide +kernel) (by decide +kernel)) (goodIn_sub (fun _ h => List.mem_cons_of_mem _ (List.mem_append_right _ h)) (by decide +kernel))
set_option maxRecDepth 20000 in
theorem gX1_readAll_X1_readCaveat : GoodIn wsX1_readAll (wsV RX1 38 RX1 yX1_readCaveat wsX1_readCaveat) := goodIn_app (goodIn_of _ (by decide +kernel)) ggX1_readAll_X1_readCaveat
set_option maxRecDepth 20000 in
theorem ggX1_readAll_X1_isNext : GoodIn wsX1_readAll wsX1_isNext := goodIn_ca (goodIn_r _ [114, 1, 4, 10, 119, 120, 121, 122, 123, 124, 125, 126] (by decide +kernel) (by decide +kernel)) (goodIn_sub (fun _ h => List.mem_cons_of_mem _ (List.mem_append_right _ h)) (by decide +kernel))
set_option maxRecDepth 20000 in
theorem gX1_readAll_X1_isNext : GoodIn wsX1_readAll (wsV RX1 42 RX1 yX1_isNext wsX1_isNext) := goodIn_app (goodIn_of _ (by decide +kernel)) ggX1_readAll_X1_isNext
def rm_X1_readAll : Room := { frames := 6, cells := 0, slots := 0, locals := 131 }
set_option maxHeartbeats 4000000 in
set_option maxRecDepth 100000 in
theorem c_X1_readAll (l : Launch) {G : zG} {ad : Nat → Nat} {σ σ' : zs} {r : Int32} (hf : f_X1_readAll σ  = some (r, σ')) : xMv l yX1_readAll wsX1_readAll rm_X1_readAll G ad σ [.ref (ad 52)] σ' := by
  intro sz nb a g hs
  refine Met.ofW (cc := cX1_readAll) (maxL := 3) (ret := none) (by decide) rfl ?_
  intro p e s m args below meth c s₁ B hml hv
  obtain ⟨rfl, hsz, hv⟩ := hv
  have hx := B.exec
  have hb := B.bytes
  have hr := B.returns
  have hts := atoms_spec (ws := wsX1_readAll) B.pre
  have hown : s.vm.findClass RX1 = some m.cls := findClass_of_methodNamed B.named
  have hlocks := B.notSynchronized
  subst hsz
  have B := xB_start hs hv
  have hinRX1 : ∀ w ∈ wsX10, w ∈ wsX1_readAll := by decide +kernel
  have hl := lv_entry ([.ref (ad 52)]) (n := 3) (Nat.le_of_ble_eq_true rfl)
  rw [lg_entry_eq]
  generalize (lg_sl ([.ref (ad 52)]) ++ List.replicate (3 - (lg_sl ([.ref (ad 52)])).length) Slot.unset).toArray = ls at hl ⊢
  have hl : lv_has ls 3 [(0, .ref (ad 52))] := hl
  generalize hAe : xA ad a s.heap.size = A at B ⊢
  have L83 : ∀ (σ : zs) (H : Heap) (locs : List Loc) (ls : Array Slot), f_X1_readAll_83 σ  = some (r, σ') → xB A s G ad σ H locs → lv_has ls 3 [(0, .ref (ad 52))] → W p l e (headSpec wsX1_readAll rm_X1_readAll).room s m ([.ref (ad 52)] : List Value).toArray below meth c H locs 0 0 (MQ below (va_Qv (fun (u : xV) => xQ σ' u) (xPost G ad σ' A) A) ([.ref (ad 52)] : List Value).toArray s 0 0 A) (F0 m 83 ls []) := by
    intro σ  H locs ls hf B hl
    unfold f_X1_readAll_83 at hf
    refine lv_aload_n hx hb dX1_readAll_83 rfl (lv_at hl 0 rfl) ?_
    refine x_geti hx hb hts hinRX1 hown B 52 2 (by decide) (fun _ => rfl) rfl rfl (by decide) (by decide +kernel) rfl dX1_readAll_84 ?_
    refine lv_iconst (v := (-1 : Int32)) hx hb dX1_readAll_87 (by decide) ?_
    refine lv_icmp_ne (tgt := 110) hx hb dX1_readAll_88 (by decide) (fun hc => ?_) (fun hc => ?_)
    · have hf := zif_f hc hf
      refine W.widen (k := 0) (n := 0) (Nat.le_of_ble_eq_true rfl) (Nat.le_of_ble_eq_true rfl) ?_
      exact x_vret hx hb hr hlocks B hf dX1_readAll_110
    · have hf := zif_t hc hf
      refine lv_aload_n hx hb dX1_readAll_91 rfl (lv_at hl 0 rfl) ?_
      refine x_geti hx hb hts hinRX1 hown B 52 7 (by decide) (fun _ => rfl) rfl rfl (by decide) (by decide +kernel) rfl dX1_readAll_92 ?_
      refine lv_aload_n hx hb dX1_readAll_95 rfl (lv_at hl 0 rfl) ?_
      refine x_geti hx hb hts hinRX1 hown B 52 1 (by decide) (fun _ => rfl) rfl rfl (by decide) (by decide +kernel) rfl dX1_readAll_96 ?_
      refine lv_icmp_ge (tgt := 110) hx hb dX1_readAll_99 (by decide) (fun hc => ?_) (fun hc => ?_)
      · have hf := zif_t hc hf
        refine W.widen (k := 0) (n := 0) (Nat.le_of_ble_eq_true rfl) (Nat.le_of_ble_eq_true rfl) ?_
        exact x_vret hx hb hr hlocks B hf dX1_readAll_110
      · have hf := zif_f hc hf
        refine lv_aload_n hx hb dX1_readAll_102 rfl (lv_at hl 0 rfl) ?_
        refine lv_aload_n hx hb dX1_readAll_103 rfl (lv_at hl 0 rfl) ?_
        refine x_geti hx hb hts hinRX1 hown B 52 7 (by decide) (fun _ => rfl) rfl rfl (by decide) (by decide +kernel) rfl dX1_readAll_104 ?_
        refine x_puti hx hb hts hinRX1 hown tyX1 tyX1_ok nmX1 B 52 2 (by decide) (by decide) (fun _ => rfl) rfl rfl (by decide) (by decide +kernel) rfl rfl rfl rfl dX1_readAll_107 (fun H locs B => ?_)
        refine W.widen (k := 0) (n := 0) (Nat.le_of_ble_eq_true rfl) (Nat.le_of_ble_eq_true rfl) ?_
        exact x_vret hx hb hr hlocks B hf dX1_readAll_110
  have L62 : ∀ (K19 : zs → Int32 → Int32 → Option (Int32 × zs)) (hK19 : ∀ (σ : zs) (v1 : Int32) (v2 : Int32) (H : Heap) (locs : List Loc) (ls : Array Slot), K19 σ v1 v2 = some (r, σ') → xB A s G ad σ H locs → lv_has ls 3 [(0, .ref (ad 52)), (1, .int v1), (2, .int v2)] → W p l e (headSpec wsX1_readAll rm_X1_readAll).room s m ([.ref (ad 52)] : List Value).toArray below meth c H locs 0 0 (MQ below (va_Qv (fun (u : xV) => xQ σ' u) (xPost G ad σ' A) A) ([.ref (ad 52)] : List Value).toArray s 0 0 A) (F0 m 19 ls [])) (σ : zs) (v2 : Int32) (s0 : Int32) (H : Heap) (locs : List Loc) (ls : Array Slot), f_X1_readAll_62 K19 σ v2 s0 = some (r, σ') → xB A s G ad σ H locs → lv_has ls 3 [(0, .ref (ad 52)), (2, .int v2)] → W p l e (headSpec wsX1_readAll rm_X1_readAll).room s m ([.ref (ad 52)] : List Value).toArray below meth c H locs 0 0 (MQ below (va_Qv (fun (u : xV) => xQ σ' u) (xPost G ad σ' A) A) ([.ref (ad 52)] : List Value).toArray s 0 0 A) (F0 m 62 ls [.int s0]) := by
    intro K19 hK19 σ v2 s0 H locs ls hf B hl
    unfold f_X1_readAll_62 at hf
    refine lv_istore_n (lv' := [(1, .int s0), (0, .ref (ad 52)), (2, .int v2)]) hx hb dX1_readAll_62 rfl hl (by decide) rfl (fun ls hl => ?_)
    refine lv_iload_n hx hb dX1_readAll_63 rfl (lv_at hl 0 rfl) ?_
    refine lv_if_eq (tgt := 77) hx hb dX1_readAll_64 (by decide) (fun hc => ?_) (fun hc => ?_)
    · have hf := zif_t hc hf
      refine lv_iinc (v := (v2 + (1 : Int32))) (lv' := [(2, .int (v2 + (1 : Int32))), (1, .int s0), (0, .ref (ad 52))]) hx hb dX1_readAll_77 hl (k := 2) rfl (zc1 (by decide)) (by decide) rfl (fun ls hl => ?_)
      refine lv_goto (tgt := 19) hx hb dX1_readAll_80 (by decide) ?_
      exact hK19 _ _ _ _ _ _ hf B (lv_sub hl [2, 1, 0] rfl)
    · have hf := zif_f hc hf
      refine lv_aload_n hx hb dX1_readAll_67 rfl (lv_at hl 1 rfl) ?_
      refine lv_dup hx hb dX1_readAll_68 rfl ?_
      refine x_geti hx hb hts hinRX1 hown B 52 7 (by decide) (fun _ => rfl) rfl rfl (by decide) (by decide +kernel) rfl dX1_readAll_69 ?_
      refine lv_iconst (v := (1 : Int32)) hx hb dX1_readAll_72 (by decide) ?_
      refine lv_iadd hx hb dX1_readAll_73 ?_
      refine x_puti hx hb hts hinRX1 hown tyX1 tyX1_ok nmX1 B 52 7 (by decide) (by decide) (fun _ => rfl) rfl rfl (by decide) (by decide +kernel) rfl rfl rfl rfl dX1_readAll_74 (fun H locs B => ?_)
      refine lv_iinc (v := (v2 + (1 : Int32))) (lv' := [(2, .int (v2 + (1 : Int32))), (1, .int s0), (0, .ref (ad 52))]) hx hb dX1_readAll_77 hl (k := 2) rfl (zc1 (by decide)) (by decide) rfl (fun ls hl => ?_)
      refine lv_goto (tgt := 19) hx hb dX1_readAll_80 (by decide) ?_
      exact hK19 _ _ _ _ _ _ hf B (lv_sub hl [2, 1, 0] rfl)
  have L19 : ∀ (n : Nat) (σ : zs) (v1 : Int32) (v2 : Int32) (H : Heap) (locs : List Loc) (ls : Array Slot), zlp2 (f_X1_readAll_19) n σ v1 v2 = some (r, σ') → xB A s G ad σ H locs → lv_has ls 3 [(0, .ref (ad 52)), (1, .int v1), (2, .int v2)] → W p l e (headSpec wsX1_readAll rm_X1_readAll).room s m ([.ref (ad 52)] : List Value).toArray below meth c H locs 0 0 (MQ below (va_Qv (fun (u : xV) => xQ σ' u) (xPost G ad σ' A) A) ([.ref (ad 52)] : List Value).toArray s 0 0 A) (F0 m 19 ls []) := by
    intro n
    induction n with
    | zero =>
      intro σ v1 v2 H locs ls hf
      cases hf
    | succ n ih =>
      intro σ v1 v2 H locs ls hf B hl
      have hf : f_X1_readAll_19 (zlp2 (f_X1_readAll_19) n) σ v1 v2 = some (r, σ') := hf
      unfold f_X1_readAll_19 at hf
      refine lv_iload_n hx hb dX1_readAll_19 rfl (lv_at hl 2 rfl) ?_
      refine lv_iconst (v := (4 : Int32)) hx hb dX1_readAll_20 (by decide) ?_
      refine lv_icmp_ge (tgt := 83) hx hb dX1_readAll_21 (by decide) (fun hc => ?_) (fun hc => ?_)
      · have hf := zif_t hc hf
        exact L83  _  _ _ _ hf B (lv_sub hl [0] rfl)
      · have hf := zif_f hc hf
        refine lv_iload_n hx hb dX1_readAll_24 rfl (lv_at hl 1 rfl) ?_
        refine lv_if_eq (tgt := 83) hx hb dX1_readAll_25 (by decide) (fun hc => ?_) (fun hc => ?_)
        · have hf := zif_t hc hf
          exact L83  _  _ _ _ hf B (lv_sub hl [0] rfl)
        · have hf := zif_f hc hf
          refine lv_aload_n hx hb dX1_readAll_28 rfl (lv_at hl 0 rfl) ?_
          refine lv_iload_n hx hb dX1_readAll_29 rfl (lv_at hl 2 rfl) ?_
          obtain ⟨r2, σ3, hu1, hf⟩ := zb_some hf
          refine x_v B (fun nb a g hs Bz => va_runV (As := [.int v2]) (rest := []) ⟨hx, hb, hml, hown, hts⟩ (c_X1_readCaveat l hu1 _ nb a g hs) (cwV 1 hts gX1_readAll_X1_readCaveat rfl rfl rfl (by decide +kernel) ⟨Nat.le_of_ble_eq_true rfl, Nat.le_of_ble_eq_true rfl⟩) (x_preV Bz (by decide) (fun _ => rfl) rfl) rfl rfl hl.1 rfl (lv_room (Nat.le_of_ble_eq_true rfl)) dX1_readAll_30 ⟨Nat.le_of_ble_eq_true rfl, Nat.le_of_ble_eq_true rfl⟩) (fun H locs B => ?_)
          refine lv_aload_n hx hb dX1_readAll_33 rfl (lv_at hl 0 rfl) ?_
          refine x_geti hx hb hts hinRX1 hown B 52 2 (by decide) (fun _ => rfl) rfl rfl (by decide) (by decide +kernel) rfl dX1_readAll_34 ?_
          refine lv_iconst (v := (-1 : Int32)) hx hb dX1_readAll_37 (by decide) ?_
          refine lv_icmp_ne (tgt := 61) hx hb dX1_readAll_38 (by decide) (fun hc => ?_) (fun hc => ?_)
          · have hf := zif_f hc hf
            refine lv_iconst (v := (0 : Int32)) hx hb dX1_readAll_61 (by decide) ?_
            exact L62 _ ih  _ _ _ _ _ _ hf B (lv_sub hl [0, 2] rfl)
          · have hf := zif_t hc hf
            refine lv_iload_n hx hb dX1_readAll_41 rfl (lv_at hl 2 rfl) ?_
            refine lv_iconst (v := (1 : Int32)) hx hb dX1_readAll_42 (by decide) ?_
            refine lv_iadd hx hb dX1_readAll_43 ?_
            refine lv_iconst (v := (4 : Int32)) hx hb dX1_readAll_44 (by decide) ?_
            refine lv_icmp_ge (tgt := 61) hx hb dX1_readAll_45 (by decide) (fun hc => ?_) (fun hc => ?_)
            · have hf := zif_t hc hf
              refine lv_iconst (v := (0 : Int32)) hx hb dX1_readAll_61 (by decide) ?_
              exact L62 _ ih  _ _ _ _ _ _ hf B (lv_sub hl [0, 2] rfl)
            · have hf := zif_f hc hf
              refine lv_aload_n hx hb dX1_readAll_48 rfl (lv_at hl 0 rfl) ?_
              refine lv_bipush (v := (59 : Int32)) hx hb dX1_readAll_49 (by decide) ?_
              obtain ⟨r5, σ6, hu4, hf⟩ := zb_some hf
              refine x_i B (fun nb a g hs Bz => va_runV (As := [.int (59 : Int32)]) (rest := []) ⟨hx, hb, hml, hown, hts⟩ (c_X1_isNext l hu4 _ nb a g hs) (cwV 1 hts gX1_readAll_X1_isNext rfl rfl rfl (by decide +kernel) ⟨Nat.le_of_ble_eq_true rfl, Nat.le_of_ble_eq_true rfl⟩) (x_preV Bz (by decide) (fun _ => rfl) rfl) rfl rfl hl.1 rfl (lv_room (Nat.le_of_ble_eq_true rfl)) dX1_readAll_51 ⟨Nat.le_of_ble_eq_true rfl, Nat.le_of_ble_eq_true rfl⟩) (fun H locs B => ?_)
              refine lv_if_eq (tgt := 61) hx hb dX1_readAll_54 (by decide) (fun hc => ?_) (fun hc => ?_)
              · have hf := zif_t hc hf
                refine lv_iconst (v := (0 : Int32)) hx hb dX1_readAll_61 (by decide) ?_
                exact L62 _ ih  _ _ _ _ _ _ hf B (lv_sub hl [0, 2] rfl)
              · have hf := zif_f hc hf
                refine lv_iconst (v := (1 : Int32)) hx hb dX1_readAll_57 (by decide) ?_
                refine lv_goto (tgt := 62) hx hb dX1_readAll_58 (by decide) ?_
                exact L62 _ ih  _ _ _ _ _ _ hf B (lv_sub hl [0, 2] rfl)
  unfold f_X1_readAll at hf
  refine lv_aload_n hx hb dX1_readAll_0 rfl (lv_at hl 0 rfl) ?_
  refine lv_iconst (v := (0 : Int32)) hx hb dX1_readAll_1 (by decide) ?_
  refine x_puti hx hb hts hinRX1 hown tyX1 tyX1_ok nmX1 B 52 7 (by decide) (by decide) (fun _ => rfl) rfl rfl (by decide) (by decide +kernel) rfl rfl rfl rfl dX1_readAll_2 (fun H locs B => ?_)
  refine lv_aload_n hx hb dX1_readAll_5 rfl (lv_at hl 0 rfl) ?_
  refine lv_iconst (v := (0 : Int32)) hx hb dX1_readAll_6 (by decide) ?_
  refine x_puti hx hb hts hinRX1 hown tyX1 tyX1_ok nmX1 B 52 3 (by decide) (by decide) (fun _ => rfl) rfl rfl (by decide) (by decide +kernel) rfl rfl rfl rfl dX1_readAll_7 (fun H locs B => ?_)
  refine lv_aload_n hx hb dX1_readAll_10 rfl (lv_at hl 0 rfl) ?_
  refine lv_iconst (v := (-1 : Int32)) hx hb dX1_readAll_11 (by decide) ?_
  refine x_puti hx hb hts hinRX1 hown tyX1 tyX1_ok nmX1 B 52 2 (by decide) (by decide) (fun _ => rfl) rfl rfl (by decide) (by decide +kernel) rfl rfl rfl rfl dX1_readAll_12 (fun H locs B => ?_)
  refine lv_iconst (v := (1 : Int32)) hx hb dX1_readAll_15 (by decide) ?_
  refine lv_istore_n (lv' := [(1, .int (1 : Int32)), (0, .ref (ad 52))]) hx hb dX1_readAll_16 rfl hl (by decide) rfl (fun ls hl => ?_)
  refine lv_iconst (v := (0 : Int32)) hx hb dX1_readAll_17 (by decide) ?_
  refine lv_istore_n (lv' := [(2, .int (0 : Int32)), (1, .int (1 : Int32)), (0, .ref (ad 52))]) hx hb dX1_readAll_18 rfl hl (by decide) rfl (fun ls hl => ?_)
  exact L19  _ _ _ _ _ _ _ hf B (lv_sub hl [2, 1, 0] rfl)
theorem dX2_enter_0 : decode cX2_enter 0 = .ok (.aload_n 0, 1) := by decide +kernel
theorem dX2_enter_1 : decode cX2_enter 1 = .ok (.getfield 9, 3) := by decide +kernel
theorem dX2_enter_4 : decode cX2_enter 4 = .ok (.iconst 0, 1) := by decide +kernel
theorem dX2_enter_5 : decode cX2_enter 5 = .ok (.aload_n 0, 1) := by decide +kernel
theorem dX2_enter_6 : decode cX2_enter 6 = .ok (.getfield 9, 3) := by decide +kernel
theorem dX2_enter_9 : decode cX2_enter 9 = .ok (.iconst 1, 1) := by decide +kernel
theorem dX2_enter_10 : decode cX2_enter 10 = .ok (.bipush 19, 2) := by decide +kernel
theorem dX2_enter_12 : decode cX2_enter 12 = .ok (.invokestatic 29, 3) := by decide +kernel
theorem dX2_enter_15 : decode cX2_enter 15 = .ok (.aload_n 0, 1) := by decide +kernel
theorem dX2_enter_16 : decode cX2_enter 16 = .ok (.getfield 9, 3) := by decide +kernel
theorem dX2_enter_19 : decode cX2_enter 19 = .ok (.iconst 0, 1) := by decide +kernel
theorem dX2_enter_20 : decode cX2_enter 20 = .ok (.sipush 1000, 3) := by decide +kernel
theorem dX2_enter_23 : decode cX2_enter 23 = .ok (.iload_n 1, 1) := by decide +kernel
theorem dX2_enter_24 : decode cX2_enter 24 = .ok (.imul, 1) := by decide +kernel
theorem dX2_enter_25 : decode cX2_enter 25 = .ok (.bipush 10, 2) := by decide +kernel
theorem dX2_enter_27 : decode cX2_enter 27 = .ok (.iload_n 2, 1) := by decide +kernel
theorem dX2_enter_28 : decode cX2_enter 28 = .ok (.imul, 1) := by decide +kernel
theorem dX2_enter_29 : decode cX2_enter 29 = .ok (.iadd, 1) := by decide +kernel
theorem dX2_enter_30 : decode cX2_enter 30 = .ok (.iload_n 3, 1) := by decide +kernel
theorem dX2_enter_31 : decode cX2_enter 31 = .ok (.ifCond .eq 7, 3) := by decide +kernel
theorem dX2_enter_34 : decode cX2_enter 34 = .ok (.iconst 1, 1) := by decide +kernel
theorem dX2_enter_35 : decode cX2_enter 35 = .ok (.goto 4, 3) := by decide +kernel
theorem dX2_enter_38 : decode cX2_enter 38 = .ok (.iconst 0, 1) := by decide +kernel
theorem dX2_enter_39 : decode cX2_enter 39 = .ok (.iadd, 1) := by decide +kernel
theorem dX2_enter_40 : decode cX2_enter 40 = .ok (.iastore, 1) := by decide +kernel
theorem dX2_enter_41 : decode cX2_enter 41 = .ok (.aload_n 0, 1) := by decide +kernel
theorem dX2_enter_42 : decode cX2_enter 42 = .ok (.aload_n 0, 1) := by decide +kernel
theorem dX2_enter_43 : decode cX2_enter 43 = .ok (.getfield 19, 3) := by decide +kernel
theorem dX2_enter_46 : decode cX2_enter 46 = .ok (.iconst 1, 1) := by decide +kernel
theorem dX2_enter_47 : decode cX2_enter 47 = .ok (.iadd, 1) := by decide +kernel
theorem dX2_enter_48 : decode cX2_enter 48 = .ok (.bipush 20, 2) := by decide +kernel
theorem dX2_enter_50 : decode cX2_enter 50 = .ok (.invokestatic 35, 3) := by decide +kernel
theorem dX2_enter_53 : decode cX2_enter 53 = .ok (.putfield 19, 3) := by decide +kernel
theorem dX2_enter_56 : decode cX2_enter 56 = .ok (.iload_n 3, 1) := by decide +kernel
theorem dX2_enter_57 : decode cX2_enter 57 = .ok (.ifCond .eq 16, 3) := by decide +kernel
theorem dX2_enter_60 : decode cX2_enter 60 = .ok (.aload_n 0, 1) := by decide +kernel
theorem dX2_enter_61 : decode cX2_enter 61 = .ok (.dup, 1) := by decide +kernel
theorem dX2_enter_62 : decode cX2_enter 62 = .ok (.getfield 23, 3) := by decide +kernel
theorem dX2_enter_65 : decode cX2_enter 65 = .ok (.iconst 1, 1) := by decide +kernel
theorem dX2_enter_66 : decode cX2_enter 66 = .ok (.iadd, 1) := by decide +kernel
theorem dX2_enter_67 : decode cX2_enter 67 = .ok (.putfield 23, 3) := by decide +kernel
theorem dX2_enter_70 : decode cX2_enter 70 = .ok (.goto 13, 3) := by decide +kernel
theorem dX2_enter_73 : decode cX2_enter 73 = .ok (.aload_n 0, 1) := by decide +kernel
theorem dX2_enter_74 : decode cX2_enter 74 = .ok (.dup, 1) := by decide +kernel
theorem dX2_enter_75 : decode cX2_enter 75 = .ok (.getfield 26, 3) := by decide +kernel
theorem dX2_enter_78 : decode cX2_enter 78 = .ok (.iconst 1, 1) := by decide +kernel
theorem dX2_enter_79 : decode cX2_enter 79 = .ok (.iadd, 1) := by decide +kernel
theorem dX2_enter_80 : decode cX2_enter 80 = .ok (.putfield 26, 3) := by decide +kernel
theorem dX2_enter_83 : decode cX2_enter 83 = .ok (.return_, 1) := by decide +kernel
def rm_X2_enter : Room := { frames := 2, cells := 0, slots := 0, locals := 200 }
set_option maxHeartbeats 4000000 in
set_option maxRecDepth 100000 in
theorem c_X2_enter (l : Launch) {G : zG} {ad : Nat → Nat} {σ σ' : zs} {a1 a2 a3 : Int32} {r : Int32} (hf : f_X2_enter σ a1 a2 a3 = some (r, σ')) : xMv l yX2_enter wsX2_enter rm_X2_enter G ad σ [.ref (ad 20), .int a1, .int a2, .int a3] σ' := by
  intro sz nb a g hs
  refine Met.ofW (cc := cX2_enter) (maxL := 4) (ret := none) (by decide) rfl ?_
  intro p e s m args below meth c s₁ B hml hv
  obtain ⟨rfl, hsz, hv⟩ := hv
  have hx := B.exec
  have hb := B.bytes
  have hr := B.returns
  have hts := atoms_spec (ws := wsX2_enter) B.pre
  have hown : s.vm.findClass RX2 = some m.cls := findClass_of_methodNamed B.named
  have hlocks := B.notSynchronized
  subst hsz
  have B := xB_start hs hv
  have hinRX2 : ∀ w ∈ wsX20, w ∈ wsX2_enter := by decide +kernel
  have hl := lv_entry ([.ref (ad 20), .int a1, .int a2, .int a3]) (n := 4) (Nat.le_of_ble_eq_true rfl)
  rw [lg_entry_eq]
  generalize (lg_sl ([.ref (ad 20), .int a1, .int a2, .int a3]) ++ List.replicate (4 - (lg_sl ([.ref (ad 20), .int a1, .int a2, .int a3])).length) Slot.unset).toArray = ls at hl ⊢
  have hl : lv_has ls 4 [(0, .ref (ad 20)), (1, .int a1), (2, .int a2), (3, .int a3)] := hl
  generalize hAe : xA ad a s.heap.size = A at B ⊢
  have L39 : ∀ (σ : zs) (v3 : Int32) (s0 : Int32) (s1 : Int32) (s2 : Int32) (H : Heap) (locs : List Loc) (ls : Array Slot), f_X2_enter_39 σ v3 s0 s1 s2 = some (r, σ') → xB A s G ad σ H locs → lv_has ls 4 [(0, .ref (ad 20)), (3, .int v3)] → W p l e (headSpec wsX2_enter rm_X2_enter).room s m ([.ref (ad 20), .int a1, .int a2, .int a3] : List Value).toArray below meth c H locs 0 0 (MQ below (va_Qv (fun (u : xV) => xQ σ' u) (xPost G ad σ' A) A) ([.ref (ad 20), .int a1, .int a2, .int a3] : List Value).toArray s 0 0 A) (F0 m 39 ls [.int s0, .int s1, .int s2, .ref (ad 21)]) := by
    intro σ v3 s0 s1 s2 H locs ls hf B hl
    unfold f_X2_enter_39 at hf
    refine lv_iadd hx hb dX2_enter_39 ?_
    obtain ⟨hg, hf⟩ := zg_some hf
    refine x_iast hx hb B 21 (by decide) (by decide) (fun _ => rfl) (zin_ok hg) dX2_enter_40 (fun H locs B => ?_)
    refine lv_aload_n hx hb dX2_enter_41 rfl (lv_at hl 0 rfl) ?_
    refine lv_aload_n hx hb dX2_enter_42 rfl (lv_at hl 0 rfl) ?_
    refine x_geti hx hb hts hinRX2 hown B 20 1 (by decide) (fun _ => rfl) rfl rfl (by decide) (by decide +kernel) rfl dX2_enter_43 ?_
    refine lv_iconst (v := (1 : Int32)) hx hb dX2_enter_46 (by decide) ?_
    refine lv_iadd hx hb dX2_enter_47 ?_
    refine lv_bipush (v := (20 : Int32)) hx hb dX2_enter_48 (by decide) ?_
    refine va_mmin hx hb (hml.trans hl.1.symm) hown (index := 35) (hts _ (by decide +kernel)) (hts _ (by decide +kernel)) (hts _ (by decide +kernel)) (hts _ (by decide +kernel)) (Nat.le_of_ble_eq_true rfl) (Nat.le_of_ble_eq_true rfl) (Nat.le_of_ble_eq_true rfl) (Nat.le_of_ble_eq_true rfl) dX2_enter_50 ?_
    refine x_puti hx hb hts hinRX2 hown tyX2 tyX2_ok nmX2 B 20 1 (by decide) (by decide) (fun _ => rfl) rfl rfl (by decide) (by decide +kernel) rfl rfl rfl rfl dX2_enter_53 (fun H locs B => ?_)
    refine lv_iload_n hx hb dX2_enter_56 rfl (lv_at hl 1 rfl) ?_
    refine lv_if_eq (tgt := 73) hx hb dX2_enter_57 (by decide) (fun hc => ?_) (fun hc => ?_)
    · have hf := zif_t hc hf
      refine lv_aload_n hx hb dX2_enter_73 rfl (lv_at hl 0 rfl) ?_
      refine lv_dup hx hb dX2_enter_74 rfl ?_
      refine x_geti hx hb hts hinRX2 hown B 20 3 (by decide) (fun _ => rfl) rfl rfl (by decide) (by decide +kernel) rfl dX2_enter_75 ?_
      refine lv_iconst (v := (1 : Int32)) hx hb dX2_enter_78 (by decide) ?_
      refine lv_iadd hx hb dX2_enter_79 ?_
      refine x_puti hx hb hts hinRX2 hown tyX2 tyX2_ok nmX2 B 20 3 (by decide) (by decide) (fun _ => rfl) rfl rfl (by decide) (by decide +kernel) rfl rfl rfl rfl dX2_enter_80 (fun H locs B => ?_)
      refine W.widen (k := 0) (n := 0) (Nat.le_of_ble_eq_true rfl) (Nat.le_of_ble_eq_true rfl) ?_
      exact x_vret hx hb hr hlocks B hf dX2_enter_83
    · have hf := zif_f hc hf
      refine lv_aload_n hx hb dX2_enter_60 rfl (lv_at hl 0 rfl) ?_
      refine lv_dup hx hb dX2_enter_61 rfl ?_
      refine x_geti hx hb hts hinRX2 hown B 20 2 (by decide) (fun _ => rfl) rfl rfl (by decide) (by decide +kernel) rfl dX2_enter_62 ?_
      refine lv_iconst (v := (1 : Int32)) hx hb dX2_enter_65 (by decide) ?_
      refine lv_iadd hx hb dX2_enter_66 ?_
      refine x_puti hx hb hts hinRX2 hown tyX2 tyX2_ok nmX2 B 20 2 (by decide) (by decide) (fun _ => rfl) rfl rfl (by decide) (by decide +kernel) rfl rfl rfl rfl dX2_enter_67 (fun H locs B => ?_)
      refine lv_goto (tgt := 83) hx hb dX2_enter_70 (by decide) ?_
      refine W.widen (k := 0) (n := 0) (Nat.le_of_ble_eq_true rfl) (Nat.le_of_ble_eq_true rfl) ?_
      exact x_vret hx hb hr hlocks B hf dX2_enter_83
  unfold f_X2_enter at hf
  refine lv_aload_n hx hb dX2_enter_0 rfl (lv_at hl 0 rfl) ?_
  refine x_getr hx hb hts hinRX2 hown B 20 0 21 (by decide) (by decide) (fun _ => rfl) rfl rfl (by decide) (by decide +kernel) rfl dX2_enter_1 ?_
  refine lv_iconst (v := (0 : Int32)) hx hb dX2_enter_4 (by decide) ?_
  refine lv_aload_n hx hb dX2_enter_5 rfl (lv_at hl 0 rfl) ?_
  refine x_getr hx hb hts hinRX2 hown B 20 0 21 (by decide) (by decide) (fun _ => rfl) rfl rfl (by decide) (by decide +kernel) rfl dX2_enter_6 ?_
  refine lv_iconst (v := (1 : Int32)) hx hb dX2_enter_9 (by decide) ?_
  refine lv_bipush (v := (19 : Int32)) hx hb dX2_enter_10 (by decide) ?_
  obtain ⟨hg, hf⟩ := zg_some hf
  obtain ⟨g1, g2, g3, g4, g5⟩ := zcp_ok hg
  refine x_copyi hx hb (hml.trans hl.1.symm) hts hown (index := 29) (by decide +kernel) (by decide +kernel) (by decide +kernel) (by decide +kernel) B 21 21 (by decide) (by decide) (by decide) (fun _ => rfl) (fun _ => rfl) g1 g2 g3 g4 g5 (Nat.le_of_ble_eq_true rfl) (Nat.le_of_ble_eq_true rfl) dX2_enter_12 (fun H locs B => ?_)
  refine lv_aload_n hx hb dX2_enter_15 rfl (lv_at hl 0 rfl) ?_
  refine x_getr hx hb hts hinRX2 hown B 20 0 21 (by decide) (by decide) (fun _ => rfl) rfl rfl (by decide) (by decide +kernel) rfl dX2_enter_16 ?_
  refine lv_iconst (v := (0 : Int32)) hx hb dX2_enter_19 (by decide) ?_
  refine lv_sipush (v := (1000 : Int32)) hx hb dX2_enter_20 (by decide) ?_
  refine lv_iload_n hx hb dX2_enter_23 rfl (lv_at hl 1 rfl) ?_
  refine lv_imul hx hb dX2_enter_24 ?_
  refine lv_bipush (v := (10 : Int32)) hx hb dX2_enter_25 (by decide) ?_
  refine lv_iload_n hx hb dX2_enter_27 rfl (lv_at hl 2 rfl) ?_
  refine lv_imul hx hb dX2_enter_28 ?_
  refine lv_iadd hx hb dX2_enter_29 ?_
  refine lv_iload_n hx hb dX2_enter_30 rfl (lv_at hl 3 rfl) ?_
  refine lv_if_eq (tgt := 38) hx hb dX2_enter_31 (by decide) (fun hc => ?_) (fun hc => ?_)
  · have hf := zif_t hc hf
    refine lv_iconst (v := (0 : Int32)) hx hb dX2_enter_38 (by decide) ?_
    exact L39  _ _ _ _ _ _ _ _ hf B (lv_sub hl [0, 3] rfl)
  · have hf := zif_f hc hf
    refine lv_iconst (v := (1 : Int32)) hx hb dX2_enter_34 (by decide) ?_
    refine lv_goto (tgt := 39) hx hb dX2_enter_35 (by decide) ?_
    exact L39  _ _ _ _ _ _ _ _ hf B (lv_sub hl [0, 3] rfl)
theorem dX2_numberOf_0 : decode cX2_numberOf 0 = .ok (.iconst 0, 1) := by decide +kernel
theorem dX2_numberOf_1 : decode cX2_numberOf 1 = .ok (.istore_n 3, 1) := by decide +kernel
theorem dX2_numberOf_2 : decode cX2_numberOf 2 = .ok (.iconst 0, 1) := by decide +kernel
theorem dX2_numberOf_3 : decode cX2_numberOf 3 = .ok (.istore 4, 2) := by decide +kernel
theorem dX2_numberOf_5 : decode cX2_numberOf 5 = .ok (.iload 4, 2) := by decide +kernel
theorem dX2_numberOf_7 : decode cX2_numberOf 7 = .ok (.aload_n 0, 1) := by decide +kernel
theorem dX2_numberOf_8 : decode cX2_numberOf 8 = .ok (.getfield 19, 3) := by decide +kernel
theorem dX2_numberOf_11 : decode cX2_numberOf 11 = .ok (.if_icmp .ge 54, 3) := by decide +kernel
theorem dX2_numberOf_14 : decode cX2_numberOf 14 = .ok (.aload_n 0, 1) := by decide +kernel
theorem dX2_numberOf_15 : decode cX2_numberOf 15 = .ok (.getfield 9, 3) := by decide +kernel
theorem dX2_numberOf_18 : decode cX2_numberOf 18 = .ok (.iload 4, 2) := by decide +kernel
theorem dX2_numberOf_20 : decode cX2_numberOf 20 = .ok (.iaload, 1) := by decide +kernel
theorem dX2_numberOf_21 : decode cX2_numberOf 21 = .ok (.bipush 10, 2) := by decide +kernel
theorem dX2_numberOf_23 : decode cX2_numberOf 23 = .ok (.irem, 1) := by decide +kernel
theorem dX2_numberOf_24 : decode cX2_numberOf 24 = .ok (.iconst 1, 1) := by decide +kernel
theorem dX2_numberOf_25 : decode cX2_numberOf 25 = .ok (.if_icmp .ne 7, 3) := by decide +kernel
theorem dX2_numberOf_28 : decode cX2_numberOf 28 = .ok (.iconst 1, 1) := by decide +kernel
theorem dX2_numberOf_29 : decode cX2_numberOf 29 = .ok (.goto 4, 3) := by decide +kernel
theorem dX2_numberOf_32 : decode cX2_numberOf 32 = .ok (.iconst 0, 1) := by decide +kernel
theorem dX2_numberOf_33 : decode cX2_numberOf 33 = .ok (.istore 5, 2) := by decide +kernel
theorem dX2_numberOf_35 : decode cX2_numberOf 35 = .ok (.aload_n 0, 1) := by decide +kernel
theorem dX2_numberOf_36 : decode cX2_numberOf 36 = .ok (.getfield 9, 3) := by decide +kernel
theorem dX2_numberOf_39 : decode cX2_numberOf 39 = .ok (.iload 4, 2) := by decide +kernel
theorem dX2_numberOf_41 : decode cX2_numberOf 41 = .ok (.iaload, 1) := by decide +kernel
theorem dX2_numberOf_42 : decode cX2_numberOf 42 = .ok (.sipush 1000, 3) := by decide +kernel
theorem dX2_numberOf_45 : decode cX2_numberOf 45 = .ok (.idiv, 1) := by decide +kernel
theorem dX2_numberOf_46 : decode cX2_numberOf 46 = .ok (.iload_n 1, 1) := by decide +kernel
theorem dX2_numberOf_47 : decode cX2_numberOf 47 = .ok (.if_icmp .ne 12, 3) := by decide +kernel
theorem dX2_numberOf_50 : decode cX2_numberOf 50 = .ok (.iload 5, 2) := by decide +kernel
theorem dX2_numberOf_52 : decode cX2_numberOf 52 = .ok (.iload_n 2, 1) := by decide +kernel
theorem dX2_numberOf_53 : decode cX2_numberOf 53 = .ok (.if_icmp .ne 6, 3) := by decide +kernel
theorem dX2_numberOf_56 : decode cX2_numberOf 56 = .ok (.iinc 3 1, 3) := by decide +kernel
theorem dX2_numberOf_59 : decode cX2_numberOf 59 = .ok (.iinc 4 1, 3) := by decide +kernel
theorem dX2_numberOf_62 : decode cX2_numberOf 62 = .ok (.goto (-57), 3) := by decide +kernel
theorem dX2_numberOf_65 : decode cX2_numberOf 65 = .ok (.iload_n 3, 1) := by decide +kernel
theorem dX2_numberOf_66 : decode cX2_numberOf 66 = .ok (.ireturn, 1) := by decide +kernel
def rm_X2_numberOf : Room := { frames := 1, cells := 0, slots := 0, locals := 16 }
set_option maxHeartbeats 4000000 in
set_option maxRecDepth 100000 in
theorem c_X2_numberOf (l : Launch) {G : zG} {ad : Nat → Nat} {σ σ' : zs} {a1 a2 : Int32} {r : Int32} (hf : f_X2_numberOf σ a1 a2 = some (r, σ')) : xMi l yX2_numberOf wsX2_numberOf rm_X2_numberOf G ad σ [.ref (ad 20), .int a1, .int a2] r σ' := by
  intro sz nb a g hs
  refine Met.ofW (cc := cX2_numberOf) (maxL := 6) (ret := (some .int)) (by decide) rfl ?_
  intro p e s m args below meth c s₁ B hml hv
  obtain ⟨rfl, hsz, hv⟩ := hv
  have hx := B.exec
  have hb := B.bytes
  have hr := B.returns
  have hts := atoms_spec (ws := wsX2_numberOf) B.pre
  have hown : s.vm.findClass RX2 = some m.cls := findClass_of_methodNamed B.named
  have hlocks := B.notSynchronized
  subst hsz
  have B := xB_start hs hv
  have hinRX2 : ∀ w ∈ wsX20, w ∈ wsX2_numberOf := by decide +kernel
  have hl := lv_entry ([.ref (ad 20), .int a1, .int a2]) (n := 6) (Nat.le_of_ble_eq_true rfl)
  rw [lg_entry_eq]
  generalize (lg_sl ([.ref (ad 20), .int a1, .int a2]) ++ List.replicate (6 - (lg_sl ([.ref (ad 20), .int a1, .int a2])).length) Slot.unset).toArray = ls at hl ⊢
  have hl : lv_has ls 6 [(0, .ref (ad 20)), (1, .int a1), (2, .int a2)] := hl
  generalize hAe : xA ad a s.heap.size = A at B ⊢
  have L33 : ∀ (K5 : zs → Int32 → Int32 → Int32 → Int32 → Option (Int32 × zs)) (hK5 : ∀ (σ : zs) (v1 : Int32) (v2 : Int32) (v3 : Int32) (v4 : Int32) (H : Heap) (locs : List Loc) (ls : Array Slot), K5 σ v1 v2 v3 v4 = some (r, σ') → xB A s G ad σ H locs → lv_has ls 6 [(0, .ref (ad 20)), (1, .int v1), (2, .int v2), (3, .int v3), (4, .int v4)] → W p l e (headSpec wsX2_numberOf rm_X2_numberOf).room s m ([.ref (ad 20), .int a1, .int a2] : List Value).toArray below meth c H locs 0 0 (MQ below (va_Qi (fun r' (u : xV) => r' = r ∧ xQ σ' u) (xPost G ad σ' A) A) ([.ref (ad 20), .int a1, .int a2] : List Value).toArray s 0 0 A) (F0 m 5 ls [])) (σ : zs) (v1 : Int32) (v2 : Int32) (v3 : Int32) (v4 : Int32) (s0 : Int32) (H : Heap) (locs : List Loc) (ls : Array Slot), f_X2_numberOf_33 K5 σ v1 v2 v3 v4 s0 = some (r, σ') → xB A s G ad σ H locs → lv_has ls 6 [(0, .ref (ad 20)), (1, .int v1), (2, .int v2), (3, .int v3), (4, .int v4)] → W p l e (headSpec wsX2_numberOf rm_X2_numberOf).room s m ([.ref (ad 20), .int a1, .int a2] : List Value).toArray below meth c H locs 0 0 (MQ below (va_Qi (fun r' (u : xV) => r' = r ∧ xQ σ' u) (xPost G ad σ' A) A) ([.ref (ad 20), .int a1, .int a2] : List Value).toArray s 0 0 A) (F0 m 33 ls [.int s0]) := by
    intro K5 hK5 σ v1 v2 v3 v4 s0 H locs ls hf B hl
    unfold f_X2_numberOf_33 at hf
    refine lv_istore (lv' := [(5, .int s0), (0, .ref (ad 20)), (1, .int v1), (2, .int v2), (3, .int v3), (4, .int v4)]) hx hb dX2_numberOf_33 hl (by decide) rfl (fun ls hl => ?_)
    refine lv_aload_n hx hb dX2_numberOf_35 rfl (lv_at hl 1 rfl) ?_
    refine x_getr hx hb hts hinRX2 hown B 20 0 21 (by decide) (by decide) (fun _ => rfl) rfl rfl (by decide) (by decide +kernel) rfl dX2_numberOf_36 ?_
    refine lv_iload hx hb dX2_numberOf_39 (lv_at hl 5 rfl) ?_
    obtain ⟨hg, hf⟩ := zg_some hf
    refine x_iald hx hb B 21 (by decide) (fun _ => rfl) (zin_ok hg) dX2_numberOf_41 ?_
    refine lv_sipush (v := (1000 : Int32)) hx hb dX2_numberOf_42 (by decide) ?_
    refine lv_idiv hx hb dX2_numberOf_45 (by decide) ?_
    refine lv_iload_n hx hb dX2_numberOf_46 rfl (lv_at hl 2 rfl) ?_
    refine lv_icmp_ne (tgt := 59) hx hb dX2_numberOf_47 (by decide) (fun hc => ?_) (fun hc => ?_)
    · have hf := zif_f hc hf
      refine lv_iinc (v := (v4 + (1 : Int32))) (lv' := [(4, .int (v4 + (1 : Int32))), (5, .int s0), (0, .ref (ad 20)), (1, .int v1), (2, .int v2), (3, .int v3)]) hx hb dX2_numberOf_59 hl (k := 5) rfl (zc1 (by decide)) (by decide) rfl (fun ls hl => ?_)
      refine lv_goto (tgt := 5) hx hb dX2_numberOf_62 (by decide) ?_
      exact hK5 _ _ _ _ _ _ _ _ hf B (lv_sub hl [2, 3, 4, 5, 0] rfl)
    · have hf := zif_t hc hf
      refine lv_iload hx hb dX2_numberOf_50 (lv_at hl 0 rfl) ?_
      refine lv_iload_n hx hb dX2_numberOf_52 rfl (lv_at hl 3 rfl) ?_
      refine lv_icmp_ne (tgt := 59) hx hb dX2_numberOf_53 (by decide) (fun hc => ?_) (fun hc => ?_)
      · have hf := zif_f hc hf
        refine lv_iinc (v := (v4 + (1 : Int32))) (lv' := [(4, .int (v4 + (1 : Int32))), (5, .int s0), (0, .ref (ad 20)), (1, .int v1), (2, .int v2), (3, .int v3)]) hx hb dX2_numberOf_59 hl (k := 5) rfl (zc1 (by decide)) (by decide) rfl (fun ls hl => ?_)
        refine lv_goto (tgt := 5) hx hb dX2_numberOf_62 (by decide) ?_
        exact hK5 _ _ _ _ _ _ _ _ hf B (lv_sub hl [2, 3, 4, 5, 0] rfl)
      · have hf := zif_t hc hf
        refine lv_iinc (v := (v3 + (1 : Int32))) (lv' := [(3, .int (v3 + (1 : Int32))), (5, .int s0), (0, .ref (ad 20)), (1, .int v1), (2, .int v2), (4, .int v4)]) hx hb dX2_numberOf_56 hl (k := 4) rfl (zc1 (by decide)) (by decide) rfl (fun ls hl => ?_)
        refine lv_iinc (v := (v4 + (1 : Int32))) (lv' := [(4, .int (v4 + (1 : Int32))), (3, .int (v3 + (1 : Int32))), (5, .int s0), (0, .ref (ad 20)), (1, .int v1), (2, .int v2)]) hx hb dX2_numberOf_59 hl (k := 5) rfl (zc1 (by decide)) (by decide) rfl (fun ls hl => ?_)
        refine lv_goto (tgt := 5) hx hb dX2_numberOf_62 (by decide) ?_
        exact hK5 _ _ _ _ _ _ _ _ hf B (lv_sub hl [3, 4, 5, 1, 0] rfl)
  have L5 : ∀ (n : Nat) (σ : zs) (v1 : Int32) (v2 : Int32) (v3 : Int32) (v4 : Int32) (H : Heap) (locs : List Loc) (ls : Array Slot), zlp4 (f_X2_numberOf_5) n σ v1 v2 v3 v4 = some (r, σ') → xB A s G ad σ H locs → lv_has ls 6 [(0, .ref (ad 20)), (1, .int v1), (2, .int v2), (3, .int v3), (4, .int v4)] → W p l e (headSpec wsX2_numberOf rm_X2_numberOf).room s m ([.ref (ad 20), .int a1, .int a2] : List Value).toArray below meth c H locs 0 0 (MQ below (va_Qi (fun r' (u : xV) => r' = r ∧ xQ σ' u) (xPost G ad σ' A) A) ([.ref (ad 20), .int a1, .int a2] : List Value).toArray s 0 0 A) (F0 m 5 ls []) := by
    intro n
    induction n with
    | zero =>
      intro σ v1 v2 v3 v4 H locs ls hf
      cases hf
    | succ n ih =>
      intro σ v1 v2 v3 v4 H locs ls hf B hl
      have hf : f_X2_numberOf_5 (zlp4 (f_X2_numberOf_5) n) σ v1 v2 v3 v4 = some (r, σ') := hf
      unfold f_X2_numberOf_5 at hf
      refine lv_iload hx hb dX2_numberOf_5 (lv_at hl 4 rfl) ?_
      refine lv_aload_n hx hb dX2_numberOf_7 rfl (lv_at hl 0 rfl) ?_
      refine x_geti hx hb hts hinRX2 hown B 20 1 (by decide) (fun _ => rfl) rfl rfl (by decide) (by decide +kernel) rfl dX2_numberOf_8 ?_
      refine lv_icmp_ge (tgt := 65) hx hb dX2_numberOf_11 (by decide) (fun hc => ?_) (fun hc => ?_)
      · have hf := zif_t hc hf
        refine lv_iload_n hx hb dX2_numberOf_65 rfl (lv_at hl 3 rfl) ?_
        refine W.widen (k := 0) (n := 0) (Nat.le_of_ble_eq_true rfl) (Nat.le_of_ble_eq_true rfl) ?_
        exact x_iret hx hb hr rfl hlocks B hf dX2_numberOf_66
      · have hf := zif_f hc hf
        refine lv_aload_n hx hb dX2_numberOf_14 rfl (lv_at hl 0 rfl) ?_
        refine x_getr hx hb hts hinRX2 hown B 20 0 21 (by decide) (by decide) (fun _ => rfl) rfl rfl (by decide) (by decide +kernel) rfl dX2_numberOf_15 ?_
        refine lv_iload hx hb dX2_numberOf_18 (lv_at hl 4 rfl) ?_
        obtain ⟨hg, hf⟩ := zg_some hf
        refine x_iald hx hb B 21 (by decide) (fun _ => rfl) (zin_ok hg) dX2_numberOf_20 ?_
        refine lv_bipush (v := (10 : Int32)) hx hb dX2_numberOf_21 (by decide) ?_
        refine lv_irem hx hb dX2_numberOf_23 (by decide) ?_
        refine lv_iconst (v := (1 : Int32)) hx hb dX2_numberOf_24 (by decide) ?_
        refine lv_icmp_ne (tgt := 32) hx hb dX2_numberOf_25 (by decide) (fun hc => ?_) (fun hc => ?_)
        · have hf := zif_f hc hf
          refine lv_iconst (v := (0 : Int32)) hx hb dX2_numberOf_32 (by decide) ?_
          exact L33 _ ih  _ _ _ _ _ _ _ _ _ hf B (lv_sub hl [0, 1, 2, 3, 4] rfl)
        · have hf := zif_t hc hf
          refine lv_iconst (v := (1 : Int32)) hx hb dX2_numberOf_28 (by decide) ?_
          refine lv_goto (tgt := 33) hx hb dX2_numberOf_29 (by decide) ?_
          exact L33 _ ih  _ _ _ _ _ _ _ _ _ hf B (lv_sub hl [0, 1, 2, 3, 4] rfl)
  unfold f_X2_numberOf at hf
  refine lv_iconst (v := (0 : Int32)) hx hb dX2_numberOf_0 (by decide) ?_
  refine lv_istore_n (lv' := [(3, .int (0 : Int32)), (0, .ref (ad 20)), (1, .int a1), (2, .int a2)]) hx hb dX2_numberOf_1 rfl hl (by decide) rfl (fun ls hl => ?_)
  refine lv_iconst (v := (0 : Int32)) hx hb dX2_numberOf_2 (by decide) ?_
  refine lv_istore (lv' := [(4, .int (0 : Int32)), (3, .int (0 : Int32)), (0, .ref (ad 20)), (1, .int a1), (2, .int a2)]) hx hb dX2_numberOf_3 hl (by decide) rfl (fun ls hl => ?_)
  exact L5  _ _ _ _ _ _ _ _ _ hf B (lv_sub hl [2, 3, 4, 1, 0] rfl)
