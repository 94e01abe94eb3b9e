theorem dX8_needIndex_0 : decode cX8_needIndex 0 = .ok (.iload_n 0, 1) := by decide +kernel
theorem dX8_needIndex_1 : decode cX8_needIndex 1 = .ok (.ifCond .ne 14, 3) := by decide +kernel
theorem dX8_needIndex_4 : decode cX8_needIndex 4 = .ok (.new 361, 3) := by decide +kernel
theorem dX8_needIndex_7 : decode cX8_needIndex 7 = .ok (.dup, 1) := by decide +kernel
theorem dX8_needIndex_8 : decode cX8_needIndex 8 = .ok (.ldc_w 363, 3) := by decide +kernel
theorem dX8_needIndex_11 : decode cX8_needIndex 11 = .ok (.invokespecial 365, 3) := by decide +kernel
theorem dX8_needIndex_14 : decode cX8_needIndex 14 = .ok (.athrow, 1) := by decide +kernel
theorem dX8_needIndex_15 : decode cX8_needIndex 15 = .ok (.return_, 1) := by decide +kernel
def rm_X8_needIndex : Room := { frames := 8, cells := 1, slots := 6, locals := 200 }
set_option maxHeartbeats 4000000 in
set_option maxRecDepth 100000 in
theorem c_X8_needIndex (l : Launch) (hfl : l.stackTraces = false) {nb : Nat} {G : zG} {ad : Nat → Nat} {σ σ' : zs} {a0 : Int32} {ex : Nat} {r : Int32} (hf : f_X8_needIndex σ a0 = some (ex, r, σ')) : zXv l yX8_needIndex wsX8_needIndex rm_X8_needIndex G (zS nb) ad σ [.int a0] ex σ' := by
  intro sz
  refine vx_ofW (cc := cX8_needIndex) (maxL := 1) (ret := none) (by decide) rfl ?_
  intro p e s m args below meth c s₁ B hml hno hv
  obtain ⟨rfl, hsz, hv⟩ := hv
  have hx := B.exec
  have hb := B.bytes
  have hr := B.returns
  have hts := atoms_spec (ws := wsX8_needIndex) B.pre
  have hown : s.vm.findClass RX8 = some m.cls := findClass_of_methodNamed B.named
  have hlocks := B.notSynchronized
  subst hsz
  have B := zB_start hv
  have hl := lv_entry ([.int a0]) (n := 1) (Nat.le_of_ble_eq_true rfl)
  rw [lg_entry_eq]
  generalize (lg_sl ([.int a0]) ++ List.replicate (1 - (lg_sl ([.int a0])).length) Slot.unset).toArray = ls at hl ⊢
  have hl : lv_has ls 1 [(0, .int a0)] := hl
  generalize hAe : zA ad (zS nb).length s.heap.size = A at B ⊢
  unfold f_X8_needIndex at hf
  refine lv_iload_n hx hb dX8_needIndex_0 rfl (lv_at hl 0 rfl) ?_
  refine lv_if_ne (tgt := 15) hx hb dX8_needIndex_1 (by decide) (fun hc => ?_) (fun hc => ?_)
  · have hf := zif_f hc hf
    refine W.widen (k := 1) (n := 6) (Nat.le_of_ble_eq_true rfl) (Nat.le_of_ble_eq_true rfl) ?_
    exact z_xvret hx hb hr hlocks B hf dX8_needIndex_15
  · have hf := zif_t hc hf
    cases hf
    obtain ⟨sa, hstr⟩ := B.2.2.2.2.2.text1
    have hat : ∀ w ∈ vx_atS RX8 365 "java/lang/IndexOutOfBoundsException" ["java/lang/RuntimeException", "java/lang/Exception"], w.before ([.int a0] : List Value).toArray s = true := vx_hat (B := [.castable "java/lang/IndexOutOfBoundsException" "java/lang/IndexOutOfBoundsException", .declares (Bundle.initS "java/lang/RuntimeException"), .declares (Bundle.initS "java/lang/Exception"), .declares (Bundle.initS Bundle.tN)]) (fun w h => hts w (List.mem_cons_of_mem _ (List.mem_append_right _ h))) (by decide +kernel) (vx_c ((B.2.2.2.2.2.castable (by decide +kernel)).use rfl) (vx_c ((B.2.2.2.2.2.decl (by decide +kernel)).use rfl) (vx_c ((B.2.2.2.2.2.decl (by decide +kernel)).use rfl) (vx_c ((B.2.2.2.2.2.decl (by decide +kernel)).use rfl) vx_n))))
    refine vx_throwSW (names := ["java/lang/RuntimeException", "java/lang/Exception"]) hx hb hfl hown (by decide +kernel) (by decide +kernel) (hts (.classLink RX8 361 "java/lang/IndexOutOfBoundsException") (by decide +kernel)) (hts (.initialized "java/lang/IndexOutOfBoundsException") (by decide +kernel)) hstr hat (by decide +kernel) B.2.2.2.2.2.unas B.2.2.2.2.2.supp B.2.2.2.2.1 (hl.1.trans hml.symm) dX8_needIndex_4 dX8_needIndex_7 dX8_needIndex_8 dX8_needIndex_11 dX8_needIndex_14 (fun z hz => absurd (hno z hz) id) (by decide) (by decide) (Nat.le_of_ble_eq_true rfl) (Nat.le_of_ble_eq_true rfl) hlocks (fun t hal hsz hq => ⟨(), trivial, ⟨by decide, rfl, ?_⟩, ?_⟩) B.2.2.2.2.1.2.2 (Nat.le_of_ble_eq_true rfl) (Nat.le_of_ble_eq_true rfl)
    · exact B.2.2.1.kept (fun k q hk => hq _ (B.2.2.1 k q hk).lt)
    · exact ⟨hsz, fun q h1 h2 => hq q h1⟩
theorem dX8_needArgument_0 : decode cX8_needArgument 0 = .ok (.iload_n 0, 1) := by decide +kernel
theorem dX8_needArgument_1 : decode cX8_needArgument 1 = .ok (.ifCond .ne 14, 3) := by decide +kernel
theorem dX8_needArgument_4 : decode cX8_needArgument 4 = .ok (.new 368, 3) := by decide +kernel
theorem dX8_needArgument_7 : decode cX8_needArgument 7 = .ok (.dup, 1) := by decide +kernel
theorem dX8_needArgument_8 : decode cX8_needArgument 8 = .ok (.ldc_w 370, 3) := by decide +kernel
theorem dX8_needArgument_11 : decode cX8_needArgument 11 = .ok (.invokespecial 372, 3) := by decide +kernel
theorem dX8_needArgument_14 : decode cX8_needArgument 14 = .ok (.athrow, 1) := by decide +kernel
theorem dX8_needArgument_15 : decode cX8_needArgument 15 = .ok (.return_, 1) := by decide +kernel
def rm_X8_needArgument : Room := { frames := 8, cells := 1, slots := 6, locals := 200 }
set_option maxHeartbeats 4000000 in
set_option maxRecDepth 100000 in
theorem c_X8_needArgument (l : Launch) (hfl : l.stackTraces = false) {nb : Nat} {G : zG} {ad : Nat → Nat} {σ σ' : zs} {a0 : Int32} {ex : Nat} {r : Int32} (hf : f_X8_needArgument σ a0 = some (ex, r, σ')) : zXv l yX8_needArgument wsX8_needArgument rm_X8_needArgument G (zS nb) ad σ [.int a0] ex σ' := by
  intro sz
  refine vx_ofW (cc := cX8_needArgument) (maxL := 1) (ret := none) (by decide) rfl ?_
  intro p e s m args below meth c s₁ B hml hno hv
  obtain ⟨rfl, hsz, hv⟩ := hv
  have hx := B.exec
  have hb := B.bytes
  have hr := B.returns
  have hts := atoms_spec (ws := wsX8_needArgument) B.pre
  have hown : s.vm.findClass RX8 = some m.cls := findClass_of_methodNamed B.named
  have hlocks := B.notSynchronized
  subst hsz
  have B := zB_start hv
  have hl := lv_entry ([.int a0]) (n := 1) (Nat.le_of_ble_eq_true rfl)
  rw [lg_entry_eq]
  generalize (lg_sl ([.int a0]) ++ List.replicate (1 - (lg_sl ([.int a0])).length) Slot.unset).toArray = ls at hl ⊢
  have hl : lv_has ls 1 [(0, .int a0)] := hl
  generalize hAe : zA ad (zS nb).length s.heap.size = A at B ⊢
  unfold f_X8_needArgument at hf
  refine lv_iload_n hx hb dX8_needArgument_0 rfl (lv_at hl 0 rfl) ?_
  refine lv_if_ne (tgt := 15) hx hb dX8_needArgument_1 (by decide) (fun hc => ?_) (fun hc => ?_)
  · have hf := zif_f hc hf
    refine W.widen (k := 1) (n := 6) (Nat.le_of_ble_eq_true rfl) (Nat.le_of_ble_eq_true rfl) ?_
    exact z_xvret hx hb hr hlocks B hf dX8_needArgument_15
  · have hf := zif_t hc hf
    cases hf
    obtain ⟨sa, hstr⟩ := B.2.2.2.2.2.text2
    have hat : ∀ w ∈ vx_atS RX8 372 "java/lang/IllegalArgumentException" ["java/lang/RuntimeException", "java/lang/Exception"], w.before ([.int a0] : List Value).toArray s = true := vx_hat (B := [.castable "java/lang/IllegalArgumentException" "java/lang/IllegalArgumentException", .declares (Bundle.initS "java/lang/RuntimeException"), .declares (Bundle.initS "java/lang/Exception"), .declares (Bundle.initS Bundle.tN)]) (fun w h => hts w (List.mem_cons_of_mem _ (List.mem_append_right _ h))) (by decide +kernel) (vx_c ((B.2.2.2.2.2.castable (by decide +kernel)).use rfl) (vx_c ((B.2.2.2.2.2.decl (by decide +kernel)).use rfl) (vx_c ((B.2.2.2.2.2.decl (by decide +kernel)).use rfl) (vx_c ((B.2.2.2.2.2.decl (by decide +kernel)).use rfl) vx_n))))
    refine vx_throwSW (names := ["java/lang/RuntimeException", "java/lang/Exception"]) hx hb hfl hown (by decide +kernel) (by decide +kernel) (hts (.classLink RX8 368 "java/lang/IllegalArgumentException") (by decide +kernel)) (hts (.initialized "java/lang/IllegalArgumentException") (by decide +kernel)) hstr hat (by decide +kernel) B.2.2.2.2.2.unas B.2.2.2.2.2.supp B.2.2.2.2.1 (hl.1.trans hml.symm) dX8_needArgument_4 dX8_needArgument_7 dX8_needArgument_8 dX8_needArgument_11 dX8_needArgument_14 (fun z hz => absurd (hno z hz) id) (by decide) (by decide) (Nat.le_of_ble_eq_true rfl) (Nat.le_of_ble_eq_true rfl) hlocks (fun t hal hsz hq => ⟨(), trivial, ⟨by decide, rfl, ?_⟩, ?_⟩) B.2.2.2.2.1.2.2 (Nat.le_of_ble_eq_true rfl) (Nat.le_of_ble_eq_true rfl)
    · exact B.2.2.1.kept (fun k q hk => hq _ (B.2.2.1 k q hk).lt)
    · exact ⟨hsz, fun q h1 h2 => hq q h1⟩
theorem dX8_needState_0 : decode cX8_needState 0 = .ok (.iload_n 0, 1) := by decide +kernel
theorem dX8_needState_1 : decode cX8_needState 1 = .ok (.ifCond .ne 14, 3) := by decide +kernel
theorem dX8_needState_4 : decode cX8_needState 4 = .ok (.new 373, 3) := by decide +kernel
theorem dX8_needState_7 : decode cX8_needState 7 = .ok (.dup, 1) := by decide +kernel
theorem dX8_needState_8 : decode cX8_needState 8 = .ok (.ldc_w 375, 3) := by decide +kernel
theorem dX8_needState_11 : decode cX8_needState 11 = .ok (.invokespecial 377, 3) := by decide +kernel
theorem dX8_needState_14 : decode cX8_needState 14 = .ok (.athrow, 1) := by decide +kernel
theorem dX8_needState_15 : decode cX8_needState 15 = .ok (.return_, 1) := by decide +kernel
def rm_X8_needState : Room := { frames := 8, cells := 1, slots := 6, locals := 200 }
set_option maxHeartbeats 4000000 in
set_option maxRecDepth 100000 in
theorem c_X8_needState (l : Launch) (hfl : l.stackTraces = false) {nb : Nat} {G : zG} {ad : Nat → Nat} {σ σ' : zs} {a0 : Int32} {ex : Nat} {r : Int32} (hf : f_X8_needState σ a0 = some (ex, r, σ')) : zXv l yX8_needState wsX8_needState rm_X8_needState G (zS nb) ad σ [.int a0] ex σ' := by
  intro sz
  refine vx_ofW (cc := cX8_needState) (maxL := 1) (ret := none) (by decide) rfl ?_
  intro p e s m args below meth c s₁ B hml hno hv
  obtain ⟨rfl, hsz, hv⟩ := hv
  have hx := B.exec
  have hb := B.bytes
  have hr := B.returns
  have hts := atoms_spec (ws := wsX8_needState) B.pre
  have hown : s.vm.findClass RX8 = some m.cls := findClass_of_methodNamed B.named
  have hlocks := B.notSynchronized
  subst hsz
  have B := zB_start hv
  have hl := lv_entry ([.int a0]) (n := 1) (Nat.le_of_ble_eq_true rfl)
  rw [lg_entry_eq]
  generalize (lg_sl ([.int a0]) ++ List.replicate (1 - (lg_sl ([.int a0])).length) Slot.unset).toArray = ls at hl ⊢
  have hl : lv_has ls 1 [(0, .int a0)] := hl
  generalize hAe : zA ad (zS nb).length s.heap.size = A at B ⊢
  unfold f_X8_needState at hf
  refine lv_iload_n hx hb dX8_needState_0 rfl (lv_at hl 0 rfl) ?_
  refine lv_if_ne (tgt := 15) hx hb dX8_needState_1 (by decide) (fun hc => ?_) (fun hc => ?_)
  · have hf := zif_f hc hf
    refine W.widen (k := 1) (n := 6) (Nat.le_of_ble_eq_true rfl) (Nat.le_of_ble_eq_true rfl) ?_
    exact z_xvret hx hb hr hlocks B hf dX8_needState_15
  · have hf := zif_t hc hf
    cases hf
    obtain ⟨sa, hstr⟩ := B.2.2.2.2.2.text3
    have hat : ∀ w ∈ vx_atS RX8 377 "java/lang/IllegalStateException" ["java/lang/RuntimeException", "java/lang/Exception"], w.before ([.int a0] : List Value).toArray s = true := vx_hat (B := [.castable "java/lang/IllegalStateException" "java/lang/IllegalStateException", .declares (Bundle.initS "java/lang/RuntimeException"), .declares (Bundle.initS "java/lang/Exception"), .declares (Bundle.initS Bundle.tN)]) (fun w h => hts w (List.mem_cons_of_mem _ (List.mem_append_right _ h))) (by decide +kernel) (vx_c ((B.2.2.2.2.2.castable (by decide +kernel)).use rfl) (vx_c ((B.2.2.2.2.2.decl (by decide +kernel)).use rfl) (vx_c ((B.2.2.2.2.2.decl (by decide +kernel)).use rfl) (vx_c ((B.2.2.2.2.2.decl (by decide +kernel)).use rfl) vx_n))))
    refine vx_throwSW (names := ["java/lang/RuntimeException", "java/lang/Exception"]) hx hb hfl hown (by decide +kernel) (by decide +kernel) (hts (.classLink RX8 373 "java/lang/IllegalStateException") (by decide +kernel)) (hts (.initialized "java/lang/IllegalStateException") (by decide +kernel)) hstr hat (by decide +kernel) B.2.2.2.2.2.unas B.2.2.2.2.2.supp B.2.2.2.2.1 (hl.1.trans hml.symm) dX8_needState_4 dX8_needState_7 dX8_needState_8 dX8_needState_11 dX8_needState_14 (fun z hz => absurd (hno z hz) id) (by decide) (by decide) (Nat.le_of_ble_eq_true rfl) (Nat.le_of_ble_eq_true rfl) hlocks (fun t hal hsz hq => ⟨(), trivial, ⟨by decide, rfl, ?_⟩, ?_⟩) B.2.2.2.2.1.2.2 (Nat.le_of_ble_eq_true rfl) (Nat.le_of_ble_eq_true rfl)
    · exact B.2.2.1.kept (fun k q hk => hq _ (B.2.2.1 k q hk).lt)
    · exact ⟨hsz, fun q h1 h2 => hq q h1⟩
theorem dX8_needPermission_0 : decode cX8_needPermission 0 = .ok (.iload_n 0, 1) := by decide +kernel
theorem dX8_needPermission_1 : decode cX8_needPermission 1 = .ok (.ifCond .ne 14, 3) := by decide +kernel
theorem dX8_needPermission_4 : decode cX8_needPermission 4 = .ok (.new 378, 3) := by decide +kernel
theorem dX8_needPermission_7 : decode cX8_needPermission 7 = .ok (.dup, 1) := by decide +kernel
theorem dX8_needPermission_8 : decode cX8_needPermission 8 = .ok (.ldc_w 380, 3) := by decide +kernel
theorem dX8_needPermission_11 : decode cX8_needPermission 11 = .ok (.invokespecial 382, 3) := by decide +kernel
theorem dX8_needPermission_14 : decode cX8_needPermission 14 = .ok (.athrow, 1) := by decide +kernel
theorem dX8_needPermission_15 : decode cX8_needPermission 15 = .ok (.return_, 1) := by decide +kernel
def rm_X8_needPermission : Room := { frames := 8, cells := 1, slots := 6, locals := 200 }
set_option maxHeartbeats 4000000 in
set_option maxRecDepth 100000 in
theorem c_X8_needPermission (l : Launch) (hfl : l.stackTraces = false) {nb : Nat} {G : zG} {ad : Nat → Nat} {σ σ' : zs} {a0 : Int32} {ex : Nat} {r : Int32} (hf : f_X8_needPermission σ a0 = some (ex, r, σ')) : zXv l yX8_needPermission wsX8_needPermission rm_X8_needPermission G (zS nb) ad σ [.int a0] ex σ' := by
  intro sz
  refine vx_ofW (cc := cX8_needPermission) (maxL := 1) (ret := none) (by decide) rfl ?_
  intro p e s m args below meth c s₁ B hml hno hv
  obtain ⟨rfl, hsz, hv⟩ := hv
  have hx := B.exec
  have hb := B.bytes
  have hr := B.returns
  have hts := atoms_spec (ws := wsX8_needPermission) B.pre
  have hown : s.vm.findClass RX8 = some m.cls := findClass_of_methodNamed B.named
  have hlocks := B.notSynchronized
  subst hsz
  have B := zB_start hv
  have hl := lv_entry ([.int a0]) (n := 1) (Nat.le_of_ble_eq_true rfl)
  rw [lg_entry_eq]
  generalize (lg_sl ([.int a0]) ++ List.replicate (1 - (lg_sl ([.int a0])).length) Slot.unset).toArray = ls at hl ⊢
  have hl : lv_has ls 1 [(0, .int a0)] := hl
  generalize hAe : zA ad (zS nb).length s.heap.size = A at B ⊢
  unfold f_X8_needPermission at hf
  refine lv_iload_n hx hb dX8_needPermission_0 rfl (lv_at hl 0 rfl) ?_
  refine lv_if_ne (tgt := 15) hx hb dX8_needPermission_1 (by decide) (fun hc => ?_) (fun hc => ?_)
  · have hf := zif_f hc hf
    refine W.widen (k := 1) (n := 6) (Nat.le_of_ble_eq_true rfl) (Nat.le_of_ble_eq_true rfl) ?_
    exact z_xvret hx hb hr hlocks B hf dX8_needPermission_15
  · have hf := zif_t hc hf
    cases hf
    obtain ⟨sa, hstr⟩ := B.2.2.2.2.2.text4
    have hat : ∀ w ∈ vx_atS RX8 382 "java/lang/UnsupportedOperationException" ["java/lang/RuntimeException", "java/lang/Exception"], w.before ([.int a0] : List Value).toArray s = true := vx_hat (B := [.castable "java/lang/UnsupportedOperationException" "java/lang/UnsupportedOperationException", .declares (Bundle.initS "java/lang/RuntimeException"), .declares (Bundle.initS "java/lang/Exception"), .declares (Bundle.initS Bundle.tN)]) (fun w h => hts w (List.mem_cons_of_mem _ (List.mem_append_right _ h))) (by decide +kernel) (vx_c ((B.2.2.2.2.2.castable (by decide +kernel)).use rfl) (vx_c ((B.2.2.2.2.2.decl (by decide +kernel)).use rfl) (vx_c ((B.2.2.2.2.2.decl (by decide +kernel)).use rfl) (vx_c ((B.2.2.2.2.2.decl (by decide +kernel)).use rfl) vx_n))))
    refine vx_throwSW (names := ["java/lang/RuntimeException", "java/lang/Exception"]) hx hb hfl hown (by decide +kernel) (by decide +kernel) (hts (.classLink RX8 378 "java/lang/UnsupportedOperationException") (by decide +kernel)) (hts (.initialized "java/lang/UnsupportedOperationException") (by decide +kernel)) hstr hat (by decide +kernel) B.2.2.2.2.2.unas B.2.2.2.2.2.supp B.2.2.2.2.1 (hl.1.trans hml.symm) dX8_needPermission_4 dX8_needPermission_7 dX8_needPermission_8 dX8_needPermission_11 dX8_needPermission_14 (fun z hz => absurd (hno z hz) id) (by decide) (by decide) (Nat.le_of_ble_eq_true rfl) (Nat.le_of_ble_eq_true rfl) hlocks (fun t hal hsz hq => ⟨(), trivial, ⟨by decide, rfl, ?_⟩, ?_⟩) B.2.2.2.2.1.2.2 (Nat.le_of_ble_eq_true rfl) (Nat.le_of_ble_eq_true rfl)
    · exact B.2.2.1.kept (fun k q hk => hq _ (B.2.2.1 k q hk).lt)
    · exact ⟨hsz, fun q h1 h2 => hq q h1⟩
theorem dX8_needElement_0 : decode cX8_needElement 0 = .ok (.iload_n 0, 1) := by decide +kernel
theorem dX8_needElement_1 : decode cX8_needElement 1 = .ok (.ifCond .ne 14, 3) := by decide +kernel
theorem dX8_needElement_4 : decode cX8_needElement 4 = .ok (.new 383, 3) := by decide +kernel
theorem dX8_needElement_7 : decode cX8_needElement 7 = .ok (.dup, 1) := by decide +kernel
theorem dX8_needElement_8 : decode cX8_needElement 8 = .ok (.ldc_w 385, 3) := by decide +kernel
theorem dX8_needElement_11 : decode cX8_needElement 11 = .ok (.invokespecial 387, 3) := by decide +kernel
theorem dX8_needElement_14 : decode cX8_needElement 14 = .ok (.athrow, 1) := by decide +kernel
theorem dX8_needElement_15 : decode cX8_needElement 15 = .ok (.return_, 1) := by decide +kernel
def rm_X8_needElement : Room := { frames := 8, cells := 1, slots := 6, locals := 200 }
set_option maxHeartbeats 4000000 in
set_option maxRecDepth 100000 in
theorem c_X8_needElement (l : Launch) (hfl : l.stackTraces = false) {nb : Nat} {G : zG} {ad : Nat → Nat} {σ σ' : zs} {a0 : Int32} {ex : Nat} {r : Int32} (hf : f_X8_needElement σ a0 = some (ex, r, σ')) : zXv l yX8_needElement wsX8_needElement rm_X8_needElement G (zS nb) ad σ [.int a0] ex σ' := by
  intro sz
  refine vx_ofW (cc := cX8_needElement) (maxL := 1) (ret := none) (by decide) rfl ?_
  intro p e s m args below meth c s₁ B hml hno hv
  obtain ⟨rfl, hsz, hv⟩ := hv
  have hx := B.exec
  have hb := B.bytes
  have hr := B.returns
  have hts := atoms_spec (ws := wsX8_needElement) B.pre
  have hown : s.vm.findClass RX8 = some m.cls := findClass_of_methodNamed B.named
  have hlocks := B.notSynchronized
  subst hsz
  have B := zB_start hv
  have hl := lv_entry ([.int a0]) (n := 1) (Nat.le_of_ble_eq_true rfl)
  rw [lg_entry_eq]
  generalize (lg_sl ([.int a0]) ++ List.replicate (1 - (lg_sl ([.int a0])).length) Slot.unset).toArray = ls at hl ⊢
  have hl : lv_has ls 1 [(0, .int a0)] := hl
  generalize hAe : zA ad (zS nb).length s.heap.size = A at B ⊢
  unfold f_X8_needElement at hf
  refine lv_iload_n hx hb dX8_needElement_0 rfl (lv_at hl 0 rfl) ?_
  refine lv_if_ne (tgt := 15) hx hb dX8_needElement_1 (by decide) (fun hc => ?_) (fun hc => ?_)
  · have hf := zif_f hc hf
    refine W.widen (k := 1) (n := 6) (Nat.le_of_ble_eq_true rfl) (Nat.le_of_ble_eq_true rfl) ?_
    exact z_xvret hx hb hr hlocks B hf dX8_needElement_15
  · have hf := zif_t hc hf
    cases hf
    obtain ⟨sa, hstr⟩ := B.2.2.2.2.2.text5
    have hat : ∀ w ∈ vx_atS RX8 387 "java/util/NoSuchElementException" ["java/lang/RuntimeException", "java/lang/Exception"], w.before ([.int a0] : List Value).toArray s = true := vx_hat (B := [.castable "java/util/NoSuchElementException" "java/util/NoSuchElementException", .declares (Bundle.initS "java/lang/RuntimeException"), .declares (Bundle.initS "java/lang/Exception"), .declares (Bundle.initS Bundle.tN)]) (fun w h => hts w (List.mem_cons_of_mem _ (List.mem_append_right _ h))) (by decide +kernel) (vx_c ((B.2.2.2.2.2.castable (by decide +kernel)).use rfl) (vx_c ((B.2.2.2.2.2.decl (by decide +kernel)).use rfl) (vx_c ((B.2.2.2.2.2.decl (by decide +kernel)).use rfl) (vx_c ((B.2.2.2.2.2.decl (by decide +kernel)).use rfl) vx_n))))
    refine vx_throwSW (names := ["java/lang/RuntimeException", "java/lang/Exception"]) hx hb hfl hown (by decide +kernel) (by decide +kernel) (hts (.classLink RX8 383 "java/util/NoSuchElementException") (by decide +kernel)) (hts (.initialized "java/util/NoSuchElementException") (by decide +kernel)) hstr hat (by decide +kernel) B.2.2.2.2.2.unas B.2.2.2.2.2.supp B.2.2.2.2.1 (hl.1.trans hml.symm) dX8_needElement_4 dX8_needElement_7 dX8_needElement_8 dX8_needElement_11 dX8_needElement_14 (fun z hz => absurd (hno z hz) id) (by decide) (by decide) (Nat.le_of_ble_eq_true rfl) (Nat.le_of_ble_eq_true rfl) hlocks (fun t hal hsz hq => ⟨(), trivial, ⟨by decide, rfl, ?_⟩, ?_⟩) B.2.2.2.2.1.2.2 (Nat.le_of_ble_eq_true rfl) (Nat.le_of_ble_eq_true rfl)
    · exact B.2.2.1.kept (fun k q hk => hq _ (B.2.2.1 k q hk).lt)
    · exact ⟨hsz, fun q h1 h2 => hq q h1⟩
theorem dX0_holdersOfPart_0 : decode cX0_holdersOfPart 0 = .ok (.iload_n 1, 1) := by decide +kernel
theorem dX0_holdersOfPart_1 : decode cX0_holdersOfPart 1 = .ok (.ifCond .eq 10, 3) := by decide +kernel
theorem dX0_holdersOfPart_4 : decode cX0_holdersOfPart 4 = .ok (.aload_n 0, 1) := by decide +kernel
theorem dX0_holdersOfPart_5 : decode cX0_holdersOfPart 5 = .ok (.getfield 15, 3) := by decide +kernel
theorem dX0_holdersOfPart_8 : decode cX0_holdersOfPart 8 = .ok (.goto 7, 3) := by decide +kernel
theorem dX0_holdersOfPart_11 : decode cX0_holdersOfPart 11 = .ok (.aload_n 0, 1) := by decide +kernel
theorem dX0_holdersOfPart_12 : decode cX0_holdersOfPart 12 = .ok (.getfield 9, 3) := by decide +kernel
theorem dX0_holdersOfPart_15 : decode cX0_holdersOfPart 15 = .ok (.areturn, 1) := by decide +kernel
def rm_X0_holdersOfPart : Room := { frames := 1, cells := 0, slots := 0, locals := 16 }
set_option maxHeartbeats 4000000 in
set_option maxRecDepth 100000 in
theorem c_X0_holdersOfPart_0 (l : Launch) {nb : Nat} {G : zG} {ad : Nat → Nat} {σ : zs} {a1 : Int32} (h : a1 = 0) : zMr l yX0_holdersOfPart wsX0_holdersOfPart rm_X0_holdersOfPart G (zS nb) ad σ [.ref (ad 14), .int a1] 15 σ := by
  intro sz
  refine Met.ofW (cc := cX0_holdersOfPart) (maxL := 2) (ret := (some (.array .int))) (by decide) rfl ?_
  intro p e s m args below meth c s₁ B hml hv
  obtain ⟨rfl, hsz, hv⟩ := hv
  have hx := B.exec
  have hb := B.bytes
  have hr := B.returns
  have hts := atoms_spec (ws := wsX0_holdersOfPart) B.pre
  have hown : s.vm.findClass RX0 = some m.cls := findClass_of_methodNamed B.named
  have hlocks := B.notSynchronized
  subst hsz
  have B := zB_start hv
  have hinRX0 : ∀ w ∈ wsX00, w ∈ wsX0_holdersOfPart := by decide +kernel
  have hl := lv_entry ([.ref (ad 14), .int a1]) (n := 2) (Nat.le_of_ble_eq_true rfl)
  rw [lg_entry_eq]
  generalize (lg_sl ([.ref (ad 14), .int a1]) ++ List.replicate (2 - (lg_sl ([.ref (ad 14), .int a1])).length) Slot.unset).toArray = ls at hl ⊢
  have hl : lv_has ls 2 [(0, .ref (ad 14)), (1, .int a1)] := hl
  generalize hAe : zA ad (zS nb).length s.heap.size = A at B ⊢
  have hf : some ((0 : Int32), σ) = some ((0 : Int32), σ) := rfl
  refine lv_iload_n hx hb dX0_holdersOfPart_0 rfl (lv_at hl 1 rfl) ?_
  refine lv_if_eq (tgt := 11) hx hb dX0_holdersOfPart_1 (by decide) (fun hc => ?_) (fun hc => ?_)
  · refine lv_aload_n hx hb dX0_holdersOfPart_11 rfl (lv_at hl 0 rfl) ?_
    refine z_getr hx hb hts hinRX0 hown B 14 1 15 rfl rfl rfl (by decide) (by decide +kernel) rfl dX0_holdersOfPart_12 ?_
    exact z_aret hx hb hr (Or.inr ⟨_, rfl⟩) hlocks B hf dX0_holdersOfPart_15
  · exact absurd h hc
set_option maxHeartbeats 4000000 in
set_option maxRecDepth 100000 in
theorem c_X0_holdersOfPart_1 (l : Launch) {nb : Nat} {G : zG} {ad : Nat → Nat} {σ : zs} {a1 : Int32} (h : ¬ a1 = 0) : zMr l yX0_holdersOfPart wsX0_holdersOfPart rm_X0_holdersOfPart G (zS nb) ad σ [.ref (ad 14), .int a1] 16 σ := by
  intro sz
  refine Met.ofW (cc := cX0_holdersOfPart) (maxL := 2) (ret := (some (.array .int))) (by decide) rfl ?_
  intro p e s m args below meth c s₁ B hml hv
  obtain ⟨rfl, hsz, hv⟩ := hv
  have hx := B.exec
  have hb := B.bytes
  have hr := B.returns
  have hts := atoms_spec (ws := wsX0_holdersOfPart) B.pre
  have hown : s.vm.findClass RX0 = some m.cls := findClass_of_methodNamed B.named
  have hlocks := B.notSynchronized
  subst hsz
  have B := zB_start hv
  have hinRX0 : ∀ w ∈ wsX00, w ∈ wsX0_holdersOfPart := by decide +kernel
  have hl := lv_entry ([.ref (ad 14), .int a1]) (n := 2) (Nat.le_of_ble_eq_true rfl)
  rw [lg_entry_eq]
  generalize (lg_sl ([.ref (ad 14), .int a1]) ++ List.replicate (2 - (lg_sl ([.ref (ad 14), .int a1])).length) Slot.unset).toArray = ls at hl ⊢
  have hl : lv_has ls 2 [(0, .ref (ad 14)), (1, .int a1)] := hl
  generalize hAe : zA ad (zS nb).length s.heap.size = A at B ⊢
  have hf : some ((0 : Int32), σ) = some ((0 : Int32), σ) := rfl
  refine lv_iload_n hx hb dX0_holdersOfPart_0 rfl (lv_at hl 1 rfl) ?_
  refine lv_if_eq (tgt := 11) hx hb dX0_holdersOfPart_1 (by decide) (fun hc => ?_) (fun hc => ?_)
  · exact absurd hc h
  · refine lv_aload_n hx hb dX0_holdersOfPart_4 rfl (lv_at hl 0 rfl) ?_
    refine z_getr hx hb hts hinRX0 hown B 14 2 16 rfl rfl rfl (by decide) (by decide +kernel) rfl dX0_holdersOfPart_5 ?_
    refine lv_goto (tgt := 15) hx hb dX0_holdersOfPart_8 (by decide) ?_
    exact z_aret hx hb hr (Or.inr ⟨_, rfl⟩) hlocks B hf dX0_holdersOfPart_15
theorem dX8_hasBit_0 : decode cX8_hasBit 0 = .ok (.iload_n 0, 1) := by decide +kernel
theorem dX8_hasBit_1 : decode cX8_hasBit 1 = .ok (.iload_n 1, 1) := by decide +kernel
theorem dX8_hasBit_2 : decode cX8_hasBit 2 = .ok (.iushr, 1) := by decide +kernel
theorem dX8_hasBit_3 : decode cX8_hasBit 3 = .ok (.iconst 1, 1) := by decide +kernel
theorem dX8_hasBit_4 : decode cX8_hasBit 4 = .ok (.iand, 1) := by decide +kernel
theorem dX8_hasBit_5 : decode cX8_hasBit 5 = .ok (.ifCond .eq 7, 3) := by decide +kernel
theorem dX8_hasBit_8 : decode cX8_hasBit 8 = .ok (.iconst 1, 1) := by decide +kernel
theorem dX8_hasBit_9 : decode cX8_hasBit 9 = .ok (.goto 4, 3) := by decide +kernel
theorem dX8_hasBit_12 : decode cX8_hasBit 12 = .ok (.iconst 0, 1) := by decide +kernel
theorem dX8_hasBit_13 : decode cX8_hasBit 13 = .ok (.ireturn, 1) := by decide +kernel
def rm_X8_hasBit : Room := { frames := 1, cells := 0, slots := 0, locals := 16 }
set_option maxHeartbeats 4000000 in
set_option maxRecDepth 100000 in
theorem c_X8_hasBit (l : Launch) {nb : Nat} {G : zG} {ad : Nat → Nat} {σ σ' : zs} {a0 a1 : Int32} {r : Int32} (hf : f_X8_hasBit σ a0 a1 = some (r, σ')) : zMi l yX8_hasBit wsX8_hasBit rm_X8_hasBit G (zS nb) ad σ [.int a0, .int a1] r σ' := by
  intro sz
  refine Met.ofW (cc := cX8_hasBit) (maxL := 2) (ret := (some .boolean)) (by decide) rfl ?_
  intro p e s m args below meth c s₁ B hml hv
  obtain ⟨rfl, hsz, hv⟩ := hv
  have hx := B.exec
  have hb := B.bytes
  have hr := B.returns
  have hts := atoms_spec (ws := wsX8_hasBit) B.pre
  have hown : s.vm.findClass RX8 = some m.cls := findClass_of_methodNamed B.named
  have hlocks := B.notSynchronized
  subst hsz
  have B := zB_start hv
  have hl := lv_entry ([.int a0, .int a1]) (n := 2) (Nat.le_of_ble_eq_true rfl)
  rw [lg_entry_eq]
  generalize (lg_sl ([.int a0, .int a1]) ++ List.replicate (2 - (lg_sl ([.int a0, .int a1])).length) Slot.unset).toArray = ls at hl ⊢
  have hl : lv_has ls 2 [(0, .int a0), (1, .int a1)] := hl
  generalize hAe : zA ad (zS nb).length s.heap.size = A at B ⊢
  unfold f_X8_hasBit at hf
  refine lv_iload_n hx hb dX8_hasBit_0 rfl (lv_at hl 0 rfl) ?_
  refine lv_iload_n hx hb dX8_hasBit_1 rfl (lv_at hl 1 rfl) ?_
  refine lv_iushr (v := (a0.toUInt32 >>> (a1.toUInt32 &&& Int32.toUInt32 31)).toInt32) hx hb dX8_hasBit_2 rfl ?_
  refine lv_iconst (v := (1 : Int32)) hx hb dX8_hasBit_3 (by decide) ?_
  refine lv_iand hx hb dX8_hasBit_4 ?_
  refine lv_if_eq (tgt := 12) hx hb dX8_hasBit_5 (by decide) (fun hc => ?_) (fun hc => ?_)
  · have hf := zif_t hc hf
    refine lv_iconst (v := (0 : Int32)) hx hb dX8_hasBit_12 (by decide) ?_
    refine W.widen (k := 0) (n := 0) (Nat.le_of_ble_eq_true rfl) (Nat.le_of_ble_eq_true rfl) ?_
    exact z_iret hx hb hr (by decide) hlocks B hf dX8_hasBit_13
  · have hf := zif_f hc hf
    refine lv_iconst (v := (1 : Int32)) hx hb dX8_hasBit_8 (by decide) ?_
    refine lv_goto (tgt := 13) hx hb dX8_hasBit_9 (by decide) ?_
    refine W.widen (k := 0) (n := 0) (Nat.le_of_ble_eq_true rfl) (Nat.le_of_ble_eq_true rfl) ?_
    exact z_iret hx hb hr (by decide) hlocks B hf dX8_hasBit_13
theorem dX3_openAll_0 : decode cX3_openAll 0 = .ok (.aload_n 0, 1) := by decide +kernel
theorem dX3_openAll_1 : decode cX3_openAll 1 = .ok (.bipush 15, 2) := by decide +kernel
theorem dX3_openAll_3 : decode cX3_openAll 3 = .ok (.putfield 9, 3) := by decide +kernel
theorem dX3_openAll_6 : decode cX3_openAll 6 = .ok (.aload_n 0, 1) := by decide +kernel
theorem dX3_openAll_7 : decode cX3_openAll 7 = .ok (.iconst (-1), 1) := by decide +kernel
theorem dX3_openAll_8 : decode cX3_openAll 8 = .ok (.putfield 15, 3) := by decide +kernel
theorem dX3_openAll_11 : decode cX3_openAll 11 = .ok (.aload_n 0, 1) := by decide +kernel
theorem dX3_openAll_12 : decode cX3_openAll 12 = .ok (.bipush 63, 2) := by decide +kernel
theorem dX3_openAll_14 : decode cX3_openAll 14 = .ok (.putfield 18, 3) := by decide +kernel
theorem dX3_openAll_17 : decode cX3_openAll 17 = .ok (.aload_n 0, 1) := by decide +kernel
theorem dX3_openAll_18 : decode cX3_openAll 18 = .ok (.iconst (-1), 1) := by decide +kernel
theorem dX3_openAll_19 : decode cX3_openAll 19 = .ok (.putfield 21, 3) := by decide +kernel
theorem dX3_openAll_22 : decode cX3_openAll 22 = .ok (.aload_n 0, 1) := by decide +kernel
theorem dX3_openAll_23 : decode cX3_openAll 23 = .ok (.iconst 0, 1) := by decide +kernel
theorem dX3_openAll_24 : decode cX3_openAll 24 = .ok (.putfield 24, 3) := by decide +kernel
theorem dX3_openAll_27 : decode cX3_openAll 27 = .ok (.aload_n 0, 1) := by decide +kernel
theorem dX3_openAll_28 : decode cX3_openAll 28 = .ok (.sipush 999, 3) := by decide +kernel
theorem dX3_openAll_31 : decode cX3_openAll 31 = .ok (.putfield 27, 3) := by decide +kernel
theorem dX3_openAll_34 : decode cX3_openAll 34 = .ok (.return_, 1) := by decide +kernel
def rm_X3_openAll : Room := { frames := 1, cells := 0, slots := 0, locals := 16 }
set_option maxHeartbeats 4000000 in
set_option maxRecDepth 100000 in
theorem c_X3_openAll (l : Launch) {nb : Nat} {G : zG} {ad : Nat → Nat} {σ σ' : zs} {r : Int32} (hf : f_X3_openAll σ  = some (r, σ')) : zMv l yX3_openAll wsX3_openAll rm_X3_openAll G (zS nb) ad σ [.ref (ad 13)] σ' := by
  intro sz
  refine Met.ofW (cc := cX3_openAll) (maxL := 1) (ret := none) (by decide) rfl ?_
  intro p e s m args below meth c s₁ B hml hv
  obtain ⟨rfl, hsz, hv⟩ := hv
  have hx := B.exec
  have hb := B.bytes
  have hr := B.returns
  have hts := atoms_spec (ws := wsX3_openAll) B.pre
  have hown : s.vm.findClass RX3 = some m.cls := findClass_of_methodNamed B.named
  have hlocks := B.notSynchronized
  subst hsz
  have B := zB_start hv
  have hinRX3 : ∀ w ∈ wsX30, w ∈ wsX3_openAll := by decide +kernel
  have hl := lv_entry ([.ref (ad 13)]) (n := 1) (Nat.le_of_ble_eq_true rfl)
  rw [lg_entry_eq]
  generalize (lg_sl ([.ref (ad 13)]) ++ List.replicate (1 - (lg_sl ([.ref (ad 13)])).length) Slot.unset).toArray = ls at hl ⊢
  have hl : lv_has ls 1 [(0, .ref (ad 13))] := hl
  generalize hAe : zA ad (zS nb).length s.heap.size = A at B ⊢
  unfold f_X3_openAll at hf
  refine lv_aload_n hx hb dX3_openAll_0 rfl (lv_at hl 0 rfl) ?_
  refine lv_bipush (v := (15 : Int32)) hx hb dX3_openAll_1 (by decide) ?_
  refine z_puti hx hb hts hinRX3 hown tyX3 tyX3_ok nmX3 B 13 0 rfl rfl rfl (by decide) (by decide +kernel) rfl rfl rfl rfl dX3_openAll_3 (fun H locs B => ?_)
  refine lv_aload_n hx hb dX3_openAll_6 rfl (lv_at hl 0 rfl) ?_
  refine lv_iconst (v := (-1 : Int32)) hx hb dX3_openAll_7 (by decide) ?_
  refine z_puti hx hb hts hinRX3 hown tyX3 tyX3_ok nmX3 B 13 1 rfl rfl rfl (by decide) (by decide +kernel) rfl rfl rfl rfl dX3_openAll_8 (fun H locs B => ?_)
  refine lv_aload_n hx hb dX3_openAll_11 rfl (lv_at hl 0 rfl) ?_
  refine lv_bipush (v := (63 : Int32)) hx hb dX3_openAll_12 (by decide) ?_
  refine z_puti hx hb hts hinRX3 hown tyX3 tyX3_ok nmX3 B 13 2 rfl rfl rfl (by decide) (by decide +kernel) rfl rfl rfl rfl dX3_openAll_14 (fun H locs B => ?_)
  refine lv_aload_n hx hb dX3_openAll_17 rfl (lv_at hl 0 rfl) ?_
  refine lv_iconst (v := (-1 : Int32)) hx hb dX3_openAll_18 (by decide) ?_
  refine z_puti hx hb hts hinRX3 hown tyX3 tyX3_ok nmX3 B 13 3 rfl rfl rfl (by decide) (by decide +kernel) rfl rfl rfl rfl dX3_openAll_19 (fun H locs B => ?_)
  refine lv_aload_n hx hb dX3_openAll_22 rfl (lv_at hl 0 rfl) ?_
  refine lv_iconst (v := (0 : Int32)) hx hb dX3_openAll_23 (by decide) ?_
  refine z_puti hx hb hts hinRX3 hown tyX3 tyX3_ok nmX3 B 13 4 rfl rfl rfl (by decide) (by decide +kernel) rfl rfl rfl rfl dX3_openAll_24 (fun H locs B => ?_)
  refine lv_aload_n hx hb dX3_openAll_27 rfl (lv_at hl 0 rfl) ?_
  refine lv_sipush (v := (999 : Int32)) hx hb dX3_openAll_28 (by decide) ?_
  refine z_puti hx hb hts hinRX3 hown tyX3 tyX3_ok nmX3 B 13 5 rfl rfl rfl (by decide) (by decide +kernel) rfl rfl rfl rfl dX3_openAll_31 (fun H locs B => ?_)
  refine W.widen (k := 0) (n := 0) (Nat.le_of_ble_eq_true rfl) (Nat.le_of_ble_eq_true rfl) ?_
  exact z_vret hx hb hr hlocks B hf dX3_openAll_34
theorem dX3_lesser_0 : decode cX3_lesser 0 = .ok (.iload_n 0, 1) := by decide +kernel
theorem dX3_lesser_1 : decode cX3_lesser 1 = .ok (.iconst (-1), 1) := by decide +kernel
theorem dX3_lesser_2 : decode cX3_lesser 2 = .ok (.if_icmp .eq 8, 3) := by decide +kernel
theorem dX3_lesser_5 : decode cX3_lesser 5 = .ok (.iload_n 1, 1) := by decide +kernel
theorem dX3_lesser_6 : decode cX3_lesser 6 = .ok (.iload_n 0, 1) := by decide +kernel
theorem dX3_lesser_7 : decode cX3_lesser 7 = .ok (.if_icmp .ge 7, 3) := by decide +kernel
theorem dX3_lesser_10 : decode cX3_lesser 10 = .ok (.iload_n 1, 1) := by decide +kernel
theorem dX3_lesser_11 : decode cX3_lesser 11 = .ok (.goto 4, 3) := by decide +kernel
theorem dX3_lesser_14 : decode cX3_lesser 14 = .ok (.iload_n 0, 1) := by decide +kernel
theorem dX3_lesser_15 : decode cX3_lesser 15 = .ok (.ireturn, 1) := by decide +kernel
def rm_X3_lesser : Room := { frames := 1, cells := 0, slots := 0, locals := 16 }
set_option maxHeartbeats 4000000 in
set_option maxRecDepth 100000 in
theorem c_X3_lesser (l : Launch) {nb : Nat} {G : zG} {ad : Nat → Nat} {σ σ' : zs} {a0 a1 : Int32} {r : Int32} (hf : f_X3_lesser σ a0 a1 = some (r, σ')) : zMi l yX3_lesser wsX3_lesser rm_X3_lesser G (zS nb) ad σ [.int a0, .int a1] r σ' := by
  intro sz
  refine Met.ofW (cc := cX3_lesser) (maxL := 2) (ret := (some .int)) (by decide) rfl ?_
  intro p e s m args below meth c s₁ B hml hv
  obtain ⟨rfl, hsz, hv⟩ := hv
  have hx := B.exec
  have hb := B.bytes
  have hr := B.returns
  have hts := atoms_spec (ws := wsX3_lesser) B.pre
  have hown : s.vm.findClass RX3 = some m.cls := findClass_of_methodNamed B.named
  have hlocks := B.notSynchronized
  subst hsz
  have B := zB_start hv
  have hl := lv_entry ([.int a0, .int a1]) (n := 2) (Nat.le_of_ble_eq_true rfl)
  rw [lg_entry_eq]
  generalize (lg_sl ([.int a0, .int a1]) ++ List.replicate (2 - (lg_sl ([.int a0, .int a1])).length) Slot.unset).toArray = ls at hl ⊢
  have hl : lv_has ls 2 [(0, .int a0), (1, .int a1)] := hl
  generalize hAe : zA ad (zS nb).length s.heap.size = A at B ⊢
  unfold f_X3_lesser at hf
  refine lv_iload_n hx hb dX3_lesser_0 rfl (lv_at hl 0 rfl) ?_
  refine lv_iconst (v := (-1 : Int32)) hx hb dX3_lesser_1 (by decide) ?_
  refine lv_icmp_eq (tgt := 10) hx hb dX3_lesser_2 (by decide) (fun hc => ?_) (fun hc => ?_)
  · have hf := zif_t hc hf
    refine lv_iload_n hx hb dX3_lesser_10 rfl (lv_at hl 1 rfl) ?_
    refine lv_goto (tgt := 15) hx hb dX3_lesser_11 (by decide) ?_
    refine W.widen (k := 0) (n := 0) (Nat.le_of_ble_eq_true rfl) (Nat.le_of_ble_eq_true rfl) ?_
    exact z_iret hx hb hr rfl hlocks B hf dX3_lesser_15
  · have hf := zif_f hc hf
    refine lv_iload_n hx hb dX3_lesser_5 rfl (lv_at hl 1 rfl) ?_
    refine lv_iload_n hx hb dX3_lesser_6 rfl (lv_at hl 0 rfl) ?_
    refine lv_icmp_ge (tgt := 14) hx hb dX3_lesser_7 (by decide) (fun hc => ?_) (fun hc => ?_)
    · have hf := zif_t hc hf
      refine lv_iload_n hx hb dX3_lesser_14 rfl (lv_at hl 0 rfl) ?_
      refine W.widen (k := 0) (n := 0) (Nat.le_of_ble_eq_true rfl) (Nat.le_of_ble_eq_true rfl) ?_
      exact z_iret hx hb hr rfl hlocks B hf dX3_lesser_15
    · have hf := zif_f hc hf
      refine lv_iload_n hx hb dX3_lesser_10 rfl (lv_at hl 1 rfl) ?_
      refine lv_goto (tgt := 15) hx hb dX3_lesser_11 (by decide) ?_
      refine W.widen (k := 0) (n := 0) (Nat.le_of_ble_eq_true rfl) (Nat.le_of_ble_eq_true rfl) ?_
      exact z_iret hx hb hr rfl hlocks B hf dX3_lesser_15
theorem dX3_narrow_0 : decode cX3_narrow 0 = .ok (.iload_n 1, 1) := by decide +kernel
theorem dX3_narrow_1 : decode cX3_narrow 1 = .ok (.tableswitch 96 0 3 #[31, 44, 59, 74], 31) := by decide +kernel
theorem dX3_narrow_32 : decode cX3_narrow 32 = .ok (.aload_n 0, 1) := by decide +kernel
theorem dX3_narrow_33 : decode cX3_narrow 33 = .ok (.dup, 1) := by decide +kernel
theorem dX3_narrow_34 : decode cX3_narrow 34 = .ok (.getfield 9, 3) := by decide +kernel
theorem dX3_narrow_37 : decode cX3_narrow 37 = .ok (.iload_n 2, 1) := by decide +kernel
theorem dX3_narrow_38 : decode cX3_narrow 38 = .ok (.iand, 1) := by decide +kernel
theorem dX3_narrow_39 : decode cX3_narrow 39 = .ok (.putfield 9, 3) := by decide +kernel
theorem dX3_narrow_42 : decode cX3_narrow 42 = .ok (.goto 79, 3) := by decide +kernel
theorem dX3_narrow_45 : decode cX3_narrow 45 = .ok (.aload_n 0, 1) := by decide +kernel
theorem dX3_narrow_46 : decode cX3_narrow 46 = .ok (.aload_n 0, 1) := by decide +kernel
theorem dX3_narrow_47 : decode cX3_narrow 47 = .ok (.getfield 15, 3) := by decide +kernel
theorem dX3_narrow_50 : decode cX3_narrow 50 = .ok (.iload_n 2, 1) := by decide +kernel
theorem dX3_narrow_51 : decode cX3_narrow 51 = .ok (.invokestatic 30, 3) := by decide +kernel
theorem dX3_narrow_54 : decode cX3_narrow 54 = .ok (.putfield 15, 3) := by decide +kernel
theorem dX3_narrow_57 : decode cX3_narrow 57 = .ok (.goto 64, 3) := by decide +kernel
theorem dX3_narrow_60 : decode cX3_narrow 60 = .ok (.aload_n 0, 1) := by decide +kernel
theorem dX3_narrow_61 : decode cX3_narrow 61 = .ok (.dup, 1) := by decide +kernel
theorem dX3_narrow_62 : decode cX3_narrow 62 = .ok (.getfield 18, 3) := by decide +kernel
theorem dX3_narrow_65 : decode cX3_narrow 65 = .ok (.iconst 1, 1) := by decide +kernel
theorem dX3_narrow_66 : decode cX3_narrow 66 = .ok (.iload_n 2, 1) := by decide +kernel
theorem dX3_narrow_67 : decode cX3_narrow 67 = .ok (.ishl, 1) := by decide +kernel
theorem dX3_narrow_68 : decode cX3_narrow 68 = .ok (.iand, 1) := by decide +kernel
theorem dX3_narrow_69 : decode cX3_narrow 69 = .ok (.putfield 18, 3) := by decide +kernel
theorem dX3_narrow_72 : decode cX3_narrow 72 = .ok (.goto 49, 3) := by decide +kernel
theorem dX3_narrow_75 : decode cX3_narrow 75 = .ok (.aload_n 0, 1) := by decide +kernel
theorem dX3_narrow_76 : decode cX3_narrow 76 = .ok (.aload_n 0, 1) := by decide +kernel
theorem dX3_narrow_77 : decode cX3_narrow 77 = .ok (.getfield 21, 3) := by decide +kernel
theorem dX3_narrow_80 : decode cX3_narrow 80 = .ok (.iconst 0, 1) := by decide +kernel
theorem dX3_narrow_81 : decode cX3_narrow 81 = .ok (.iload_n 2, 1) := by decide +kernel
theorem dX3_narrow_82 : decode cX3_narrow 82 = .ok (.iload 4, 2) := by decide +kernel
theorem dX3_narrow_84 : decode cX3_narrow 84 = .ok (.isub, 1) := by decide +kernel
theorem dX3_narrow_85 : decode cX3_narrow 85 = .ok (.invokestatic 34, 3) := by decide +kernel
theorem dX3_narrow_88 : decode cX3_narrow 88 = .ok (.invokestatic 30, 3) := by decide +kernel
theorem dX3_narrow_91 : decode cX3_narrow 91 = .ok (.putfield 21, 3) := by decide +kernel
theorem dX3_narrow_94 : decode cX3_narrow 94 = .ok (.goto 27, 3) := by decide +kernel
theorem dX3_narrow_97 : decode cX3_narrow 97 = .ok (.aload_n 0, 1) := by decide +kernel
theorem dX3_narrow_98 : decode cX3_narrow 98 = .ok (.aload_n 0, 1) := by decide +kernel
theorem dX3_narrow_99 : decode cX3_narrow 99 = .ok (.getfield 24, 3) := by decide +kernel
theorem dX3_narrow_102 : decode cX3_narrow 102 = .ok (.iload_n 2, 1) := by decide +kernel
theorem dX3_narrow_103 : decode cX3_narrow 103 = .ok (.invokestatic 34, 3) := by decide +kernel
theorem dX3_narrow_106 : decode cX3_narrow 106 = .ok (.putfield 24, 3) := by decide +kernel
theorem dX3_narrow_109 : decode cX3_narrow 109 = .ok (.aload_n 0, 1) := by decide +kernel
theorem dX3_narrow_110 : decode cX3_narrow 110 = .ok (.aload_n 0, 1) := by decide +kernel
theorem dX3_narrow_111 : decode cX3_narrow 111 = .ok (.getfield 27, 3) := by decide +kernel
theorem dX3_narrow_114 : decode cX3_narrow 114 = .ok (.iload_n 3, 1) := by decide +kernel
theorem dX3_narrow_115 : decode cX3_narrow 115 = .ok (.invokestatic 39, 3) := by decide +kernel
theorem dX3_narrow_118 : decode cX3_narrow 118 = .ok (.putfield 27, 3) := by decide +kernel
theorem dX3_narrow_121 : decode cX3_narrow 121 = .ok (.return_, 1) := by decide +kernel
set_option maxRecDepth 20000 in
theorem ggX3_narrow_X3_lesser : GoodIn wsX3_narrow wsX3_lesser := goodIn_r _ [17] (by decide +kernel) (by decide +kernel)
set_option maxRecDepth 20000 in
theorem gX3_narrow_X3_lesser : GoodIn wsX3_narrow (va_wsS RX3 30 yX3_lesser wsX3_lesser) := goodIn_app (goodIn_of _ (by decide +kernel)) ggX3_narrow_X3_lesser
def rm_X3_narrow : Room := { frames := 2, cells := 0, slots := 0, locals := 40 }
set_option maxHeartbeats 4000000 in
set_option maxRecDepth 100000 in
theorem c_X3_narrow (l : Launch) {nb : Nat} {G : zG} {ad : Nat → Nat} {σ σ' : zs} {a1 a2 a3 a4 : Int32} {r : Int32} (hf : f_X3_narrow σ a1 a2 a3 a4 = some (r, σ')) : zMv l yX3_narrow wsX3_narrow rm_X3_narrow G (zS nb) ad σ [.ref (ad 13), .int a1, .int a2, .int a3, .int a4] σ' := by
  intro sz
  refine Met.ofW (cc := cX3_narrow) (maxL := 5) (ret := none) (by decide) rfl ?_
  intro p e s m args below meth c s₁ B hml hv
  obtain ⟨rfl, hsz, hv⟩ := hv
  have hx := B.exec
  have hb := B.bytes
  have hr := B.returns
  have hts := atoms_spec (ws := wsX3_narrow) B.pre
  have hown : s.vm.findClass RX3 = some m.cls := findClass_of_methodNamed B.named
  have hlocks := B.notSynchronized
  subst hsz
  have B := zB_start hv
  have hinRX3 : ∀ w ∈ wsX30, w ∈ wsX3_narrow := by decide +kernel
  have hl := lv_entry ([.ref (ad 13), .int a1, .int a2, .int a3, .int a4]) (n := 5) (Nat.le_of_ble_eq_true rfl)
  rw [lg_entry_eq]
  generalize (lg_sl ([.ref (ad 13), .int a1, .int a2, .int a3, .int a4]) ++ List.replicate (5 - (lg_sl ([.ref (ad 13), .int a1, .int a2, .int a3, .int a4])).length) Slot.unset).toArray = ls at hl ⊢
  have hl : lv_has ls 5 [(0, .ref (ad 13)), (1, .int a1), (2, .int a2), (3, .int a3), (4, .int a4)] := hl
  generalize hAe : zA ad (zS nb).length s.heap.size = A at B ⊢
  unfold f_X3_narrow at hf
  refine lv_iload_n hx hb dX3_narrow_0 rfl (lv_at hl 1 rfl) ?_
  by_cases hc0 : a1 = (0 : Int32)
  · have hf := zif_t hc0 hf
    refine lv_tableIn (off := 31) (tgt := 32) hx hb dX3_narrow_1 (by rw [hc0]; decide) (by rw [hc0]; decide) (by rw [hc0]; rfl) (by decide) ?_
    refine lv_aload_n hx hb dX3_narrow_32 rfl (lv_at hl 0 rfl) ?_
    refine lv_dup hx hb dX3_narrow_33 rfl ?_
    refine z_geti hx hb hts hinRX3 hown B 13 0 rfl rfl rfl (by decide) (by decide +kernel) rfl dX3_narrow_34 ?_
    refine lv_iload_n hx hb dX3_narrow_37 rfl (lv_at hl 2 rfl) ?_
    refine lv_iand hx hb dX3_narrow_38 ?_
    refine z_puti hx hb hts hinRX3 hown tyX3 tyX3_ok nmX3 B 13 0 rfl rfl rfl (by decide) (by decide +kernel) rfl rfl rfl rfl dX3_narrow_39 (fun H locs B => ?_)
    refine lv_goto (tgt := 121) hx hb dX3_narrow_42 (by decide) ?_
    refine W.widen (k := 0) (n := 0) (Nat.le_of_ble_eq_true rfl) (Nat.le_of_ble_eq_true rfl) ?_
    exact z_vret hx hb hr hlocks B hf dX3_narrow_121
  have hf := zif_f hc0 hf
  by_cases hc1 : a1 = (1 : Int32)
  · have hf := zif_t hc1 hf
    refine lv_tableIn (off := 44) (tgt := 45) hx hb dX3_narrow_1 (by rw [hc1]; decide) (by rw [hc1]; decide) (by rw [hc1]; rfl) (by decide) ?_
    refine lv_aload_n hx hb dX3_narrow_45 rfl (lv_at hl 0 rfl) ?_
    refine lv_aload_n hx hb dX3_narrow_46 rfl (lv_at hl 0 rfl) ?_
    refine z_geti hx hb hts hinRX3 hown B 13 1 rfl rfl rfl (by decide) (by decide +kernel) rfl dX3_narrow_47 ?_
    refine lv_iload_n hx hb dX3_narrow_50 rfl (lv_at hl 2 rfl) ?_
    obtain ⟨r2, σ3, hu1, hf⟩ := zb_some hf
    refine z_i B (va_runS (As := [.int (σ 13 1), .int a2]) (rest := [.ref (ad 13)]) ⟨hx, hb, hml, hown, hts⟩ (c_X3_lesser l hu1 _) (va_cwS 2 hts gX3_narrow_X3_lesser rfl rfl rfl (by decide +kernel) ⟨Nat.le_of_ble_eq_true rfl, Nat.le_of_ble_eq_true rfl⟩) (z_preS B) rfl rfl hl.1 rfl (lv_room (Nat.le_of_ble_eq_true rfl)) dX3_narrow_51 ⟨Nat.le_of_ble_eq_true rfl, Nat.le_of_ble_eq_true rfl⟩) (fun H locs B => ?_)
    refine z_puti hx hb hts hinRX3 hown tyX3 tyX3_ok nmX3 B 13 1 rfl rfl rfl (by decide) (by decide +kernel) rfl rfl rfl rfl dX3_narrow_54 (fun H locs B => ?_)
    refine lv_goto (tgt := 121) hx hb dX3_narrow_57 (by decide) ?_
    refine W.widen (k := 0) (n := 0) (Nat.le_of_ble_eq_true rfl) (Nat.le_of_ble_eq_true rfl) ?_
    exact z_vret hx hb hr hlocks B hf dX3_narrow_121
  have hf := zif_f hc1 hf
  by_cases hc2 : a1 = (2 : Int32)
  · have hf := zif_t hc2 hf
    refine lv_tableIn (off := 59) (tgt := 60) hx hb dX3_narrow_1 (by rw [hc2]; decide) (by rw [hc2]; decide) (by rw [hc2]; rfl) (by decide) ?_
    refine lv_aload_n hx hb dX3_narrow_60 rfl (lv_at hl 0 rfl) ?_
    refine lv_dup hx hb dX3_narrow_61 rfl ?_
    refine z_geti hx hb hts hinRX3 hown B 13 2 rfl rfl rfl (by decide) (by decide +kernel) rfl dX3_narrow_62 ?_
    refine lv_iconst (v := (1 : Int32)) hx hb dX3_narrow_65 (by decide) ?_
    refine lv_iload_n hx hb dX3_narrow_66 rfl (lv_at hl 2 rfl) ?_
    refine lv_ishl hx hb dX3_narrow_67 ?_
    refine lv_iand hx hb dX3_narrow_68 ?_
    refine z_puti hx hb hts hinRX3 hown tyX3 tyX3_ok nmX3 B 13 2 rfl rfl rfl (by decide) (by decide +kernel) rfl rfl rfl rfl dX3_narrow_69 (fun H locs B => ?_)
    refine lv_goto (tgt := 121) hx hb dX3_narrow_72 (by decide) ?_
    refine W.widen (k := 0) (n := 0) (Nat.le_of_ble_eq_true rfl) (Nat.le_of_ble_eq_true rfl) ?_
    exact z_vret hx hb hr hlocks B hf dX3_narrow_121
  have hf := zif_f hc2 hf
  by_cases hc3 : a1 = (3 : Int32)
  · have hf := zif_t hc3 hf
    refine lv_tableIn (off := 74) (tgt := 75) hx hb dX3_narrow_1 (by rw [hc3]; decide) (by rw [hc3]; decide) (by rw [hc3]; rfl) (by decide) ?_
    refine lv_aload_n hx hb dX3_narrow_75 rfl (lv_at hl 0 rfl) ?_
    refine lv_aload_n hx hb dX3_narrow_76 rfl (lv_at hl 0 rfl) ?_
    refine z_geti hx hb hts hinRX3 hown B 13 3 rfl rfl rfl (by decide) (by decide +kernel) rfl dX3_narrow_77 ?_
    refine lv_iconst (v := (0 : Int32)) hx hb dX3_narrow_80 (by decide) ?_
    refine lv_iload_n hx hb dX3_narrow_81 rfl (lv_at hl 2 rfl) ?_
    refine lv_iload hx hb dX3_narrow_82 (lv_at hl 4 rfl) ?_
    refine lv_isub hx hb dX3_narrow_84 ?_
    refine va_mmax hx hb (hml.trans hl.1.symm) hown (index := 34) (hts _ (by decide +kernel)) (hts _ (by decide +kernel)) (hts _ (by decide +kernel)) (hts _ (by decide +kernel)) (Nat.le_of_ble_eq_true rfl) (Nat.le_of_ble_eq_true rfl) (Nat.le_of_ble_eq_true rfl) (Nat.le_of_ble_eq_true rfl) dX3_narrow_85 ?_
    obtain ⟨r5, σ6, hu4, hf⟩ := zb_some hf
    refine z_i B (va_runS (As := [.int (σ 13 3), .int (if (0 : Int32) < (a2 - a4) then (a2 - a4) else (0 : Int32))]) (rest := [.ref (ad 13)]) ⟨hx, hb, hml, hown, hts⟩ (c_X3_lesser l hu4 _) (va_cwS 2 hts gX3_narrow_X3_lesser rfl rfl rfl (by decide +kernel) ⟨Nat.le_of_ble_eq_true rfl, Nat.le_of_ble_eq_true rfl⟩) (z_preS B) rfl rfl hl.1 rfl (lv_room (Nat.le_of_ble_eq_true rfl)) dX3_narrow_88 ⟨Nat.le_of_ble_eq_true rfl, Nat.le_of_ble_eq_true rfl⟩) (fun H locs B => ?_)
    refine z_puti hx hb hts hinRX3 hown tyX3 tyX3_ok nmX3 B 13 3 rfl rfl rfl (by decide) (by decide +kernel) rfl rfl rfl rfl dX3_narrow_91 (fun H locs B => ?_)
    refine lv_goto (tgt := 121) hx hb dX3_narrow_94 (by decide) ?_
    refine W.widen (k := 0) (n := 0) (Nat.le_of_ble_eq_true rfl) (Nat.le_of_ble_eq_true rfl) ?_
    exact z_vret hx hb hr hlocks B hf dX3_narrow_121
  have hf := zif_f hc3 hf
  refine lv_tableOut (tgt := 97) hx hb dX3_narrow_1 (zsw_out (fun j h1 h2 hj => ?_)) (by decide) ?_
  · have hd : j = 0 ∨ j = 1 ∨ j = 2 ∨ j = 3 := by omega
    rcases hd with rfl | rfl | rfl | rfl
    · exact hc0 (Int32.toInt_inj.mp (hj.trans (by decide)))
    · exact hc1 (Int32.toInt_inj.mp (hj.trans (by decide)))
    · exact hc2 (Int32.toInt_inj.mp (hj.trans (by decide)))
    · exact hc3 (Int32.toInt_inj.mp (hj.trans (by decide)))
  refine lv_aload_n hx hb dX3_narrow_97 rfl (lv_at hl 0 rfl) ?_
  refine lv_aload_n hx hb dX3_narrow_98 rfl (lv_at hl 0 rfl) ?_
  refine z_geti hx hb hts hinRX3 hown B 13 4 rfl rfl rfl (by decide) (by decide +kernel) rfl dX3_narrow_99 ?_
  refine lv_iload_n hx hb dX3_narrow_102 rfl (lv_at hl 2 rfl) ?_
  refine va_mmax hx hb (hml.trans hl.1.symm) hown (index := 34) (hts _ (by decide +kernel)) (hts _ (by decide +kernel)) (hts _ (by decide +kernel)) (hts _ (by decide +kernel)) (Nat.le_of_ble_eq_true rfl) (Nat.le_of_ble_eq_true rfl) (Nat.le_of_ble_eq_true rfl) (Nat.le_of_ble_eq_true rfl) dX3_narrow_103 ?_
  refine z_puti hx hb hts hinRX3 hown tyX3 tyX3_ok nmX3 B 13 4 rfl rfl rfl (by decide) (by decide +kernel) rfl rfl rfl rfl dX3_narrow_106 (fun H locs B => ?_)
  refine lv_aload_n hx hb dX3_narrow_109 rfl (lv_at hl 0 rfl) ?_
  refine lv_aload_n hx hb dX3_narrow_110 rfl (lv_at hl 0 rfl) ?_
  refine z_geti hx hb hts hinRX3 hown B 13 5 rfl rfl rfl (by decide) (by decide +kernel) rfl dX3_narrow_111 ?_
  refine lv_iload_n hx hb dX3_narrow_114 rfl (lv_at hl 3 rfl) ?_
  refine va_mmin hx hb (hml.trans hl.1.symm) hown (index := 39) (hts _ (by decide +kernel)) (hts _ (by decide +kernel)) (hts _ (by decide +kernel)) (hts _ (by decide +kernel)) (Nat.le_of_ble_eq_true rfl) (Nat.le_of_ble_eq_true rfl) (Nat.le_of_ble_eq_true rfl) (Nat.le_of_ble_eq_true rfl) dX3_narrow_115 ?_
  refine z_puti hx hb hts hinRX3 hown tyX3 tyX3_ok nmX3 B 13 5 rfl rfl rfl (by decide) (by decide +kernel) rfl rfl rfl rfl dX3_narrow_118 (fun H locs B => ?_)
  refine W.widen (k := 0) (n := 0) (Nat.le_of_ble_eq_true rfl) (Nat.le_of_ble_eq_true rfl) ?_
  exact z_vret hx hb hr hlocks B hf dX3_narrow_121
theorem dX7_limitsOf_0 : decode cX7_limitsOf 0 = .ok (.aload_n 0, 1) := by decide +kernel
theorem dX7_limitsOf_1 : decode cX7_limitsOf 1 = .ok (.getfield 45, 3) := by decide +kernel
theorem dX7_limitsOf_4 : decode cX7_limitsOf 4 = .ok (.invokevirtual 88, 3) := by decide +kernel
theorem dX7_limitsOf_7 : decode cX7_limitsOf 7 = .ok (.iconst 0, 1) := by decide +kernel
theorem dX7_limitsOf_8 : decode cX7_limitsOf 8 = .ok (.istore_n 2, 1) := by decide +kernel
theorem dX7_limitsOf_9 : decode cX7_limitsOf 9 = .ok (.iload_n 2, 1) := by decide +kernel
theorem dX7_limitsOf_10 : decode cX7_limitsOf 10 = .ok (.aload_n 0, 1) := by decide +kernel
theorem dX7_limitsOf_11 : decode cX7_limitsOf 11 = .ok (.getfield 15, 3) := by decide +kernel
theorem dX7_limitsOf_14 : decode cX7_limitsOf 14 = .ok (.iload_n 1, 1) := by decide +kernel
theorem dX7_limitsOf_15 : decode cX7_limitsOf 15 = .ok (.iaload, 1) := by decide +kernel
theorem dX7_limitsOf_16 : decode cX7_limitsOf 16 = .ok (.if_icmp .ge 83, 3) := by decide +kernel
theorem dX7_limitsOf_19 : decode cX7_limitsOf 19 = .ok (.aload_n 0, 1) := by decide +kernel
theorem dX7_limitsOf_20 : decode cX7_limitsOf 20 = .ok (.getfield 18, 3) := by decide +kernel
theorem dX7_limitsOf_23 : decode cX7_limitsOf 23 = .ok (.iload_n 1, 1) := by decide +kernel
theorem dX7_limitsOf_24 : decode cX7_limitsOf 24 = .ok (.bipush 7, 2) := by decide +kernel
theorem dX7_limitsOf_26 : decode cX7_limitsOf 26 = .ok (.imul, 1) := by decide +kernel
theorem dX7_limitsOf_27 : decode cX7_limitsOf 27 = .ok (.iload_n 2, 1) := by decide +kernel
theorem dX7_limitsOf_28 : decode cX7_limitsOf 28 = .ok (.iadd, 1) := by decide +kernel
theorem dX7_limitsOf_29 : decode cX7_limitsOf 29 = .ok (.iaload, 1) := by decide +kernel
theorem dX7_limitsOf_30 : decode cX7_limitsOf 30 = .ok (.istore_n 3, 1) := by decide +kernel
theorem dX7_limitsOf_31 : decode cX7_limitsOf 31 = .ok (.iconst 0, 1) := by decide +kernel
theorem dX7_limitsOf_32 : decode cX7_limitsOf 32 = .ok (.istore 4, 2) := by decide +kernel
theorem dX7_limitsOf_34 : decode cX7_limitsOf 34 = .ok (.iload 4, 2) := by decide +kernel
theorem dX7_limitsOf_36 : decode cX7_limitsOf 36 = .ok (.aload_n 0, 1) := by decide +kernel
theorem dX7_limitsOf_37 : decode cX7_limitsOf 37 = .ok (.getfield 30, 3) := by decide +kernel
theorem dX7_limitsOf_40 : decode cX7_limitsOf 40 = .ok (.iload_n 3, 1) := by decide +kernel
theorem dX7_limitsOf_41 : decode cX7_limitsOf 41 = .ok (.iaload, 1) := by decide +kernel
theorem dX7_limitsOf_42 : decode cX7_limitsOf 42 = .ok (.if_icmp .ge 51, 3) := by decide +kernel
theorem dX7_limitsOf_45 : decode cX7_limitsOf 45 = .ok (.iload_n 3, 1) := by decide +kernel
theorem dX7_limitsOf_46 : decode cX7_limitsOf 46 = .ok (.iconst 4, 1) := by decide +kernel
theorem dX7_limitsOf_47 : decode cX7_limitsOf 47 = .ok (.imul, 1) := by decide +kernel
theorem dX7_limitsOf_48 : decode cX7_limitsOf 48 = .ok (.iload 4, 2) := by decide +kernel
theorem dX7_limitsOf_50 : decode cX7_limitsOf 50 = .ok (.iadd, 1) := by decide +kernel
theorem dX7_limitsOf_51 : decode cX7_limitsOf 51 = .ok (.istore 5, 2) := by decide +kernel
theorem dX7_limitsOf_53 : decode cX7_limitsOf 53 = .ok (.aload_n 0, 1) := by decide +kernel
theorem dX7_limitsOf_54 : decode cX7_limitsOf 54 = .ok (.getfield 45, 3) := by decide +kernel
theorem dX7_limitsOf_57 : decode cX7_limitsOf 57 = .ok (.aload_n 0, 1) := by decide +kernel
theorem dX7_limitsOf_58 : decode cX7_limitsOf 58 = .ok (.getfield 33, 3) := by decide +kernel
theorem dX7_limitsOf_61 : decode cX7_limitsOf 61 = .ok (.iload 5, 2) := by decide +kernel
theorem dX7_limitsOf_63 : decode cX7_limitsOf 63 = .ok (.iaload, 1) := by decide +kernel
theorem dX7_limitsOf_64 : decode cX7_limitsOf 64 = .ok (.aload_n 0, 1) := by decide +kernel
theorem dX7_limitsOf_65 : decode cX7_limitsOf 65 = .ok (.getfield 36, 3) := by decide +kernel
theorem dX7_limitsOf_68 : decode cX7_limitsOf 68 = .ok (.iload 5, 2) := by decide +kernel
theorem dX7_limitsOf_70 : decode cX7_limitsOf 70 = .ok (.iaload, 1) := by decide +kernel
theorem dX7_limitsOf_71 : decode cX7_limitsOf 71 = .ok (.aload_n 0, 1) := by decide +kernel
theorem dX7_limitsOf_72 : decode cX7_limitsOf 72 = .ok (.getfield 39, 3) := by decide +kernel
theorem dX7_limitsOf_75 : decode cX7_limitsOf 75 = .ok (.iload 5, 2) := by decide +kernel
theorem dX7_limitsOf_77 : decode cX7_limitsOf 77 = .ok (.iaload, 1) := by decide +kernel
theorem dX7_limitsOf_78 : decode cX7_limitsOf 78 = .ok (.aload_n 0, 1) := by decide +kernel
theorem dX7_limitsOf_79 : decode cX7_limitsOf 79 = .ok (.getfield 24, 3) := by decide +kernel
theorem dX7_limitsOf_82 : decode cX7_limitsOf 82 = .ok (.iload_n 3, 1) := by decide +kernel
theorem dX7_limitsOf_83 : decode cX7_limitsOf 83 = .ok (.iaload, 1) := by decide +kernel
theorem dX7_limitsOf_84 : decode cX7_limitsOf 84 = .ok (.invokevirtual 91, 3) := by decide +kernel
theorem dX7_limitsOf_87 : decode cX7_limitsOf 87 = .ok (.iinc 4 1, 3) := by decide +kernel
theorem dX7_limitsOf_90 : decode cX7_limitsOf 90 = .ok (.goto (-56), 3) := by decide +kernel
theorem dX7_limitsOf_93 : decode cX7_limitsOf 93 = .ok (.iinc 2 1, 3) := by decide +kernel
theorem dX7_limitsOf_96 : decode cX7_limitsOf 96 = .ok (.goto (-87), 3) := by decide +kernel
theorem dX7_limitsOf_99 : decode cX7_limitsOf 99 = .ok (.aload_n 0, 1) := by decide +kernel
theorem dX7_limitsOf_100 : decode cX7_limitsOf 100 = .ok (.getfield 45, 3) := by decide +kernel
theorem dX7_limitsOf_103 : decode cX7_limitsOf 103 = .ok (.areturn, 1) := by decide +kernel
set_option maxRecDepth 20000 in
theorem ggX7_limitsOf_X3_openAll : GoodIn wsX7_limitsOf wsX3_openAll := goodIn_r _ [13, 14, 15, 16, 17, 18, 19, 46, 47, 48, 49, 50, 51] (by decide +kernel) (by decide +kernel)
set_option maxRecDepth 20000 in
theorem gX7_limitsOf_X3_openAll : GoodIn wsX7_limitsOf (wsV RX7 88 RX3 yX3_openAll wsX3_openAll) := goodIn_app (goodIn_of _ (by decide +kernel)) ggX7_limitsOf_X3_openAll
set_option maxRecDepth 20000 in
theorem ggX7_limitsOf_X3_narrow : GoodIn wsX7_limitsOf wsX3_narrow := goodIn_r _ [23, 14, 15, 16, 17, 24, 25, 26, 27, 18, 19, 28, 29, 30, 31, 32, 12, 33, 46, 47, 48, 49, 50, 51] (by decide +kernel) (by decide +kernel)
set_option maxRecDepth 20000 in
theorem gX7_limitsOf_X3_narrow : GoodIn wsX7_limitsOf (wsV RX7 91 RX3 yX3_narrow wsX3_narrow) := goodIn_app (goodIn_of _ (by decide +kernel)) ggX7_limitsOf_X3_narrow
def rm_X7_limitsOf : Room := { frames := 3, cells := 0, slots := 0, locals := 64 }
set_option maxHeartbeats 4000000 in
set_option maxRecDepth 100000 in
theorem c_X7_limitsOf (l : Launch) {nb : Nat} {G : zG} {ad : Nat → Nat} {σ σ' : zs} {a1 : Int32} {r : Int32} (hf : f_X7_limitsOf σ a1 = some (r, σ')) : zMr l yX7_limitsOf wsX7_limitsOf rm_X7_limitsOf G (zS nb) ad σ [.ref (ad 2), .int a1] 13 σ' := by
  intro sz
  refine Met.ofW (cc := cX7_limitsOf) (maxL := 6) (ret := (some (.object "CapabilityStore$Limits"))) (by decide) rfl ?_
  intro p e s m args below meth c s₁ B hml hv
  obtain ⟨rfl, hsz, hv⟩ := hv
  have hx := B.exec
  have hb := B.bytes
  have hr := B.returns
  have hts := atoms_spec (ws := wsX7_limitsOf) B.pre
  have hown : s.vm.findClass RX7 = some m.cls := findClass_of_methodNamed B.named
  have hlocks := B.notSynchronized
  subst hsz
  have B := zB_start hv
  have hinRX7 : ∀ w ∈ wsX70, w ∈ wsX7_limitsOf := by decide +kernel
  have hl := lv_entry ([.ref (ad 2), .int a1]) (n := 6) (Nat.le_of_ble_eq_true rfl)
  rw [lg_entry_eq]
  generalize (lg_sl ([.ref (ad 2), .int a1]) ++ List.replicate (6 - (lg_sl ([.ref (ad 2), .int a1])).length) Slot.unset).toArray = ls at hl ⊢
  have hl : lv_has ls 6 [(0, .ref (ad 2)), (1, .int a1)] := hl
  generalize hAe : zA ad (zS nb).length s.heap.size = A at B ⊢
  have L34 : ∀ (K9 : zs → Int32 → Int32 → Option (Int32 × zs)) (hK9 : ∀ (σ : zs) (v1 : Int32) (v2 : Int32) (H : Heap) (locs : List Loc) (ls : Array Slot), K9 σ v1 v2 = some (r, σ') → zB A s G (zS nb) ad σ H locs → lv_has ls 6 [(0, .ref (ad 2)), (1, .int v1), (2, .int v2)] → W p l e (headSpec wsX7_limitsOf rm_X7_limitsOf).room s m ([.ref (ad 2), .int a1] : List Value).toArray below meth c H locs 0 0 (MQ below (va_Qr (fun (_ : Unit) => True) (fun u a t => a = ad 13 ∧ zPost G (zS nb) ad σ' u t) A) ([.ref (ad 2), .int a1] : List Value).toArray s 0 0 A) (F0 m 9 ls [])) (n : Nat) (σ : zs) (v1 : Int32) (v2 : Int32) (v3 : Int32) (v4 : Int32) (H : Heap) (locs : List Loc) (ls : Array Slot), zlp4 (f_X7_limitsOf_34 K9) n σ v1 v2 v3 v4 = some (r, σ') → zB A s G (zS nb) ad σ H locs → lv_has ls 6 [(0, .ref (ad 2)), (1, .int v1), (2, .int v2), (3, .int v3), (4, .int v4)] → W p l e (headSpec wsX7_limitsOf rm_X7_limitsOf).room s m ([.ref (ad 2), .int a1] : List Value).toArray below meth c H locs 0 0 (MQ below (va_Qr (fun (_ : Unit) => True) (fun u a t => a = ad 13 ∧ zPost G (zS nb) ad σ' u t) A) ([.ref (ad 2), .int a1] : List Value).toArray s 0 0 A) (F0 m 34 ls []) := by
    intro K9 hK9 n
    induction n with
    | zero =>
      intro σ v1 v2 v3 v4 H locs ls hf
      cases hf
    | succ n ih =>
      intro σ v1 v2 v3 v4 H locs ls hf B hl
      have hf : f_X7_limitsOf_34 K9 (zlp4 (f_X7_limitsOf_34 K9) n) σ v1 v2 v3 v4 = some (r, σ') := hf
      unfold f_X7_limitsOf_34 at hf
      refine lv_iload hx hb dX7_limitsOf_34 (lv_at hl 4 rfl) ?_
      refine lv_aload_n hx hb dX7_limitsOf_36 rfl (lv_at hl 0 rfl) ?_
      refine z_getr hx hb hts hinRX7 hown B 2 7 9 rfl rfl rfl (by decide) (by decide +kernel) rfl dX7_limitsOf_37 ?_
      refine lv_iload_n hx hb dX7_limitsOf_40 rfl (lv_at hl 3 rfl) ?_
      obtain ⟨hg, hf⟩ := zg_some hf
      refine z_iald hx hb B 9 rfl (zin_ok hg) dX7_limitsOf_41 ?_
      refine lv_icmp_ge (tgt := 93) hx hb dX7_limitsOf_42 (by decide) (fun hc => ?_) (fun hc => ?_)
      · have hf := zif_t hc hf
        refine lv_iinc (v := (v2 + (1 : Int32))) (lv' := [(2, .int (v2 + (1 : Int32))), (0, .ref (ad 2)), (1, .int v1), (3, .int v3), (4, .int v4)]) hx hb dX7_limitsOf_93 hl (k := 2) rfl (zc1 (by decide)) (by decide) rfl (fun ls hl => ?_)
        refine lv_goto (tgt := 9) hx hb dX7_limitsOf_96 (by decide) ?_
        exact hK9 _ _ _ _ _ _ hf B (lv_sub hl [1, 2, 0] rfl)
      · have hf := zif_f hc hf
        refine lv_iload_n hx hb dX7_limitsOf_45 rfl (lv_at hl 3 rfl) ?_
        refine lv_iconst (v := (4 : Int32)) hx hb dX7_limitsOf_46 (by decide) ?_
        refine lv_imul hx hb dX7_limitsOf_47 ?_
        refine lv_iload hx hb dX7_limitsOf_48 (lv_at hl 4 rfl) ?_
        refine lv_iadd hx hb dX7_limitsOf_50 ?_
        refine lv_istore (lv' := [(5, .int ((v3 * (4 : Int32)) + v4)), (0, .ref (ad 2)), (1, .int v1), (2, .int v2), (3, .int v3), (4, .int v4)]) hx hb dX7_limitsOf_51 hl (by decide) rfl (fun ls hl => ?_)
        refine lv_aload_n hx hb dX7_limitsOf_53 rfl (lv_at hl 1 rfl) ?_
        refine z_getr hx hb hts hinRX7 hown B 2 11 13 rfl rfl rfl (by decide) (by decide +kernel) rfl dX7_limitsOf_54 ?_
        refine lv_aload_n hx hb dX7_limitsOf_57 rfl (lv_at hl 1 rfl) ?_
        refine z_getr hx hb hts hinRX7 hown B 2 8 10 rfl rfl rfl (by decide) (by decide +kernel) rfl dX7_limitsOf_58 ?_
        refine lv_iload hx hb dX7_limitsOf_61 (lv_at hl 0 rfl) ?_
        obtain ⟨hg, hf⟩ := zg_some hf
        refine z_iald hx hb B 10 rfl (zin_ok hg) dX7_limitsOf_63 ?_
        refine lv_aload_n hx hb dX7_limitsOf_64 rfl (lv_at hl 1 rfl) ?_
        refine z_getr hx hb hts hinRX7 hown B 2 9 11 rfl rfl rfl (by decide) (by decide +kernel) rfl dX7_limitsOf_65 ?_
        refine lv_iload hx hb dX7_limitsOf_68 (lv_at hl 0 rfl) ?_
        obtain ⟨hg, hf⟩ := zg_some hf
        refine z_iald hx hb B 11 rfl (zin_ok hg) dX7_limitsOf_70 ?_
        refine lv_aload_n hx hb dX7_limitsOf_71 rfl (lv_at hl 1 rfl) ?_
        refine z_getr hx hb hts hinRX7 hown B 2 10 12 rfl rfl rfl (by decide) (by decide +kernel) rfl dX7_limitsOf_72 ?_
        refine lv_iload hx hb dX7_limitsOf_75 (lv_at hl 0 rfl) ?_
        obtain ⟨hg, hf⟩ := zg_some hf
        refine z_iald hx hb B 12 rfl (zin_ok hg) dX7_limitsOf_77 ?_
        refine lv_aload_n hx hb dX7_limitsOf_78 rfl (lv_at hl 1 rfl) ?_
        refine z_getr hx hb hts hinRX7 hown B 2 5 7 rfl rfl rfl (by decide) (by decide +kernel) rfl dX7_limitsOf_79 ?_
        refine lv_iload_n hx hb dX7_limitsOf_82 rfl (lv_at hl 4 rfl) ?_
        obtain ⟨hg, hf⟩ := zg_some hf
        refine z_iald hx hb B 7 rfl (zin_ok hg) dX7_limitsOf_83 ?_
        obtain ⟨r5, σ6, hu4, hf⟩ := zb_some hf
        refine z_v B (va_runV (As := [.int (σ 10 ((v3 * (4 : Int32)) + v4).toNatClampNeg), .int (σ 11 ((v3 * (4 : Int32)) + v4).toNatClampNeg), .int (σ 12 ((v3 * (4 : Int32)) + v4).toNatClampNeg), .int (σ 7 v3.toNatClampNeg)]) (rest := []) ⟨hx, hb, hml, hown, hts⟩ (c_X3_narrow l hu4 _) (cwV 4 hts gX7_limitsOf_X3_narrow rfl rfl rfl (by decide +kernel) ⟨Nat.le_of_ble_eq_true rfl, Nat.le_of_ble_eq_true rfl⟩) (z_preV B rfl rfl) rfl rfl hl.1 rfl (lv_room (Nat.le_of_ble_eq_true rfl)) dX7_limitsOf_84 ⟨Nat.le_of_ble_eq_true rfl, Nat.le_of_ble_eq_true rfl⟩) (fun H locs B => ?_)
        refine lv_iinc (v := (v4 + (1 : Int32))) (lv' := [(4, .int (v4 + (1 : Int32))), (5, .int ((v3 * (4 : Int32)) + v4)), (0, .ref (ad 2)), (1, .int v1), (2, .int v2), (3, .int v3)]) hx hb dX7_limitsOf_87 hl (k := 5) rfl (zc1 (by decide)) (by decide) rfl (fun ls hl => ?_)
        refine lv_goto (tgt := 34) hx hb dX7_limitsOf_90 (by decide) ?_
        exact ih _ _ _ _ _ _ _ _ hf B (lv_sub hl [2, 3, 4, 5, 0] rfl)
  have L9 : ∀ (n : Nat) (σ : zs) (v1 : Int32) (v2 : Int32) (H : Heap) (locs : List Loc) (ls : Array Slot), zlp2 (f_X7_limitsOf_9) n σ v1 v2 = some (r, σ') → zB A s G (zS nb) ad σ H locs → lv_has ls 6 [(0, .ref (ad 2)), (1, .int v1), (2, .int v2)] → W p l e (headSpec wsX7_limitsOf rm_X7_limitsOf).room s m ([.ref (ad 2), .int a1] : List Value).toArray below meth c H locs 0 0 (MQ below (va_Qr (fun (_ : Unit) => True) (fun u a t => a = ad 13 ∧ zPost G (zS nb) ad σ' u t) A) ([.ref (ad 2), .int a1] : List Value).toArray s 0 0 A) (F0 m 9 ls []) := by
    intro n
    induction n with
    | zero =>
      intro σ v1 v2 H locs ls hf
      cases hf
    | succ n ih =>
      intro σ v1 v2 H locs ls hf B hl
      have hf : f_X7_limitsOf_9 (zlp2 (f_X7_limitsOf_9) n) σ v1 v2 = some (r, σ') := hf
      unfold f_X7_limitsOf_9 at hf
      refine lv_iload_n hx hb dX7_limitsOf_9 rfl (lv_at hl 2 rfl) ?_
      refine lv_aload_n hx hb dX7_limitsOf_10 rfl (lv_at hl 0 rfl) ?_
      refine z_getr hx hb hts hinRX7 hown B 2 2 4 rfl rfl rfl (by decide) (by decide +kernel) rfl dX7_limitsOf_11 ?_
      refine lv_iload_n hx hb dX7_limitsOf_14 rfl (lv_at hl 1 rfl) ?_
      obtain ⟨hg, hf⟩ := zg_some hf
      refine z_iald hx hb B 4 rfl (zin_ok hg) dX7_limitsOf_15 ?_
      refine lv_icmp_ge (tgt := 99) hx hb dX7_limitsOf_16 (by decide) (fun hc => ?_) (fun hc => ?_)
      · have hf := zif_t hc hf
        refine lv_aload_n hx hb dX7_limitsOf_99 rfl (lv_at hl 0 rfl) ?_
        refine z_getr hx hb hts hinRX7 hown B 2 11 13 rfl rfl rfl (by decide) (by decide +kernel) rfl dX7_limitsOf_100 ?_
        refine W.widen (k := 0) (n := 0) (Nat.le_of_ble_eq_true rfl) (Nat.le_of_ble_eq_true rfl) ?_
        exact z_aret hx hb hr (Or.inl ⟨_, rfl⟩) hlocks B hf dX7_limitsOf_103
      · have hf := zif_f hc hf
        refine lv_aload_n hx hb dX7_limitsOf_19 rfl (lv_at hl 0 rfl) ?_
        refine z_getr hx hb hts hinRX7 hown B 2 3 5 rfl rfl rfl (by decide) (by decide +kernel) rfl dX7_limitsOf_20 ?_
        refine lv_iload_n hx hb dX7_limitsOf_23 rfl (lv_at hl 1 rfl) ?_
        refine lv_bipush (v := (7 : Int32)) hx hb dX7_limitsOf_24 (by decide) ?_
        refine lv_imul hx hb dX7_limitsOf_26 ?_
        refine lv_iload_n hx hb dX7_limitsOf_27 rfl (lv_at hl 2 rfl) ?_
        refine lv_iadd hx hb dX7_limitsOf_28 ?_
        obtain ⟨hg, hf⟩ := zg_some hf
        refine z_iald hx hb B 5 rfl (zin_ok hg) dX7_limitsOf_29 ?_
        refine lv_istore_n (lv' := [(3, .int (σ 5 ((v1 * (7 : Int32)) + v2).toNatClampNeg)), (0, .ref (ad 2)), (1, .int v1), (2, .int v2)]) hx hb dX7_limitsOf_30 rfl hl (by decide) rfl (fun ls hl => ?_)
        refine lv_iconst (v := (0 : Int32)) hx hb dX7_limitsOf_31 (by decide) ?_
        refine lv_istore (lv' := [(4, .int (0 : Int32)), (3, .int (σ 5 ((v1 * (7 : Int32)) + v2).toNatClampNeg)), (0, .ref (ad 2)), (1, .int v1), (2, .int v2)]) hx hb dX7_limitsOf_32 hl (by decide) rfl (fun ls hl => ?_)
        exact L34 _ ih  _ _ _ _ _ _ _ _ _ hf B (lv_sub hl [2, 3, 4, 1, 0] rfl)
  unfold f_X7_limitsOf at hf
  refine lv_aload_n hx hb dX7_limitsOf_0 rfl (lv_at hl 0 rfl) ?_
  refine z_getr hx hb hts hinRX7 hown B 2 11 13 rfl rfl rfl (by decide) (by decide +kernel) rfl dX7_limitsOf_1 ?_
  obtain ⟨r2, σ3, hu1, hf⟩ := zb_some hf
  refine z_v B (va_runV (As := []) (rest := []) ⟨hx, hb, hml, hown, hts⟩ (c_X3_openAll l hu1 _) (cwV 0 hts gX7_limitsOf_X3_openAll rfl rfl rfl (by decide +kernel) ⟨Nat.le_of_ble_eq_true rfl, Nat.le_of_ble_eq_true rfl⟩) (z_preV B rfl rfl) rfl rfl hl.1 rfl (lv_room (Nat.le_of_ble_eq_true rfl)) dX7_limitsOf_4 ⟨Nat.le_of_ble_eq_true rfl, Nat.le_of_ble_eq_true rfl⟩) (fun H locs B => ?_)
  refine lv_iconst (v := (0 : Int32)) hx hb dX7_limitsOf_7 (by decide) ?_
  refine lv_istore_n (lv' := [(2, .int (0 : Int32)), (0, .ref (ad 2)), (1, .int a1)]) hx hb dX7_limitsOf_8 rfl hl (by decide) rfl (fun ls hl => ?_)
  exact L9  _ _ _ _ _ _ _ hf B (lv_sub hl [1, 2, 0] rfl)
theorem dX7_startToken_0 : decode cX7_startToken 0 = .ok (.aload_n 0, 1) := by decide +kernel
theorem dX7_startToken_1 : decode cX7_startToken 1 = .ok (.getfield 21, 3) := by decide +kernel
theorem dX7_startToken_4 : decode cX7_startToken 4 = .ok (.iload_n 1, 1) := by decide +kernel
theorem dX7_startToken_5 : decode cX7_startToken 5 = .ok (.iconst 1, 1) := by decide +kernel
theorem dX7_startToken_6 : decode cX7_startToken 6 = .ok (.iload_n 2, 1) := by decide +kernel
theorem dX7_startToken_7 : decode cX7_startToken 7 = .ok (.ishl, 1) := by decide +kernel
theorem dX7_startToken_8 : decode cX7_startToken 8 = .ok (.iastore, 1) := by decide +kernel
theorem dX7_startToken_9 : decode cX7_startToken 9 = .ok (.aload_n 0, 1) := by decide +kernel
theorem dX7_startToken_10 : decode cX7_startToken 10 = .ok (.getfield 24, 3) := by decide +kernel
theorem dX7_startToken_13 : decode cX7_startToken 13 = .ok (.iload_n 1, 1) := by decide +kernel
theorem dX7_startToken_14 : decode cX7_startToken 14 = .ok (.iconst 0, 1) := by decide +kernel
theorem dX7_startToken_15 : decode cX7_startToken 15 = .ok (.iastore, 1) := by decide +kernel
theorem dX7_startToken_16 : decode cX7_startToken 16 = .ok (.aload_n 0, 1) := by decide +kernel
theorem dX7_startToken_17 : decode cX7_startToken 17 = .ok (.getfield 27, 3) := by decide +kernel
theorem dX7_startToken_20 : decode cX7_startToken 20 = .ok (.iload_n 1, 1) := by decide +kernel
theorem dX7_startToken_21 : decode cX7_startToken 21 = .ok (.iconst (-1), 1) := by decide +kernel
theorem dX7_startToken_22 : decode cX7_startToken 22 = .ok (.iastore, 1) := by decide +kernel
theorem dX7_startToken_23 : decode cX7_startToken 23 = .ok (.aload_n 0, 1) := by decide +kernel
theorem dX7_startToken_24 : decode cX7_startToken 24 = .ok (.getfield 30, 3) := by decide +kernel
theorem dX7_startToken_27 : decode cX7_startToken 27 = .ok (.iload_n 1, 1) := by decide +kernel
theorem dX7_startToken_28 : decode cX7_startToken 28 = .ok (.iconst 0, 1) := by decide +kernel
theorem dX7_startToken_29 : decode cX7_startToken 29 = .ok (.iastore, 1) := by decide +kernel
theorem dX7_startToken_30 : decode cX7_startToken 30 = .ok (.aload_n 0, 1) := by decide +kernel
theorem dX7_startToken_31 : decode cX7_startToken 31 = .ok (.dup, 1) := by decide +kernel
theorem dX7_startToken_32 : decode cX7_startToken 32 = .ok (.getfield 49, 3) := by decide +kernel
theorem dX7_startToken_35 : decode cX7_startToken 35 = .ok (.iconst 1, 1) := by decide +kernel
theorem dX7_startToken_36 : decode cX7_startToken 36 = .ok (.iadd, 1) := by decide +kernel
theorem dX7_startToken_37 : decode cX7_startToken 37 = .ok (.putfield 49, 3) := by decide +kernel
theorem dX7_startToken_40 : decode cX7_startToken 40 = .ok (.return_, 1) := by decide +kernel
def rm_X7_startToken : Room := { frames := 1, cells := 0, slots := 0, locals := 16 }
set_option maxHeartbeats 4000000 in
set_option maxRecDepth 100000 in
theorem c_X7_startToken (l : Launch) {nb : Nat} {G : zG} {ad : Nat → Nat} {σ σ' : zs} {a1 a2 : Int32} {r : Int32} (hf : f_X7_startToken σ a1 a2 = some (r, σ')) : zMv l yX7_startToken wsX7_startToken rm_X7_startToken G (zS nb) ad σ [.ref (ad 2), .int a1, .int a2] σ' := by
  intro sz
  refine Met.ofW (cc := cX7_startToken) (maxL := 3) (ret := none) (by decide) rfl ?_
  intro p e s m args below meth c s₁ B hml hv
  obtain ⟨rfl, hsz, hv⟩ := hv
  have hx := B.exec
  have hb := B.bytes
  have hr := B.returns
  have hts := atoms_spec (ws := wsX7_startToken) B.pre
  have hown : s.vm.findClass RX7 = some m.cls := findClass_of_methodNamed B.named
  have hlocks := B.notSynchronized
  subst hsz
  have B := zB_start hv
  have hinRX7 : ∀ w ∈ wsX70, w ∈ wsX7_startToken := by decide +kernel
  have hl := lv_entry ([.ref (ad 2), .int a1, .int a2]) (n := 3) (Nat.le_of_ble_eq_true rfl)
  rw [lg_entry_eq]
  generalize (lg_sl ([.ref (ad 2), .int a1, .int a2]) ++ List.replicate (3 - (lg_sl ([.ref (ad 2), .int a1, .int a2])).length) Slot.unset).toArray = ls at hl ⊢
  have hl : lv_has ls 3 [(0, .ref (ad 2)), (1, .int a1), (2, .int a2)] := hl
  generalize hAe : zA ad (zS nb).length s.heap.size = A at B ⊢
  unfold f_X7_startToken at hf
  refine lv_aload_n hx hb dX7_startToken_0 rfl (lv_at hl 0 rfl) ?_
  refine z_getr hx hb hts hinRX7 hown B 2 4 6 rfl rfl rfl (by decide) (by decide +kernel) rfl dX7_startToken_1 ?_
  refine lv_iload_n hx hb dX7_startToken_4 rfl (lv_at hl 1 rfl) ?_
  refine lv_iconst (v := (1 : Int32)) hx hb dX7_startToken_5 (by decide) ?_
  refine lv_iload_n hx hb dX7_startToken_6 rfl (lv_at hl 2 rfl) ?_
  refine lv_ishl hx hb dX7_startToken_7 ?_
  obtain ⟨hg, hf⟩ := zg_some hf
  refine z_iast hx hb B 6 rfl (zin_ok hg) dX7_startToken_8 (fun H locs B => ?_)
  refine lv_aload_n hx hb dX7_startToken_9 rfl (lv_at hl 0 rfl) ?_
  refine z_getr hx hb hts hinRX7 hown B 2 5 7 rfl rfl rfl (by decide) (by decide +kernel) rfl dX7_startToken_10 ?_
  refine lv_iload_n hx hb dX7_startToken_13 rfl (lv_at hl 1 rfl) ?_
  refine lv_iconst (v := (0 : Int32)) hx hb dX7_startToken_14 (by decide) ?_
  obtain ⟨hg, hf⟩ := zg_some hf
  refine z_iast hx hb B 7 rfl (zin_ok hg) dX7_startToken_15 (fun H locs B => ?_)
  refine lv_aload_n hx hb dX7_startToken_16 rfl (lv_at hl 0 rfl) ?_
  refine z_getr hx hb hts hinRX7 hown B 2 6 8 rfl rfl rfl (by decide) (by decide +kernel) rfl dX7_startToken_17 ?_
  refine lv_iload_n hx hb dX7_startToken_20 rfl (lv_at hl 1 rfl) ?_
  refine lv_iconst (v := (-1 : Int32)) hx hb dX7_startToken_21 (by decide) ?_
  obtain ⟨hg, hf⟩ := zg_some hf
  refine z_iast hx hb B 8 rfl (zin_ok hg) dX7_startToken_22 (fun H locs B => ?_)
  refine lv_aload_n hx hb dX7_startToken_23 rfl (lv_at hl 0 rfl) ?_
  refine z_getr hx hb hts hinRX7 hown B 2 7 9 rfl rfl rfl (by decide) (by decide +kernel) rfl dX7_startToken_24 ?_
  refine lv_iload_n hx hb dX7_startToken_27 rfl (lv_at hl 1 rfl) ?_
  refine lv_iconst (v := (0 : Int32)) hx hb dX7_startToken_28 (by decide) ?_
  obtain ⟨hg, hf⟩ := zg_some hf
  refine z_iast hx hb B 9 rfl (zin_ok hg) dX7_startToken_29 (fun H locs B => ?_)
  refine lv_aload_n hx hb dX7_startToken_30 rfl (lv_at hl 0 rfl) ?_
  refine lv_dup hx hb dX7_startToken_31 rfl ?_
  refine z_geti hx hb hts hinRX7 hown B 2 0 rfl rfl rfl (by decide) (by decide +kernel) rfl dX7_startToken_32 ?_
  refine lv_iconst (v := (1 : Int32)) hx hb dX7_startToken_35 (by decide) ?_
  refine lv_iadd hx hb dX7_startToken_36 ?_
  refine z_puti hx hb hts hinRX7 hown tyX7 tyX7_ok nmX7 B 2 0 rfl rfl rfl (by decide) (by decide +kernel) rfl rfl rfl rfl dX7_startToken_37 (fun H locs B => ?_)
  refine W.widen (k := 0) (n := 0) (Nat.le_of_ble_eq_true rfl) (Nat.le_of_ble_eq_true rfl) ?_
  exact z_vret hx hb hr hlocks B hf dX7_startToken_40
theorem dX7_makeRoot_0 : decode cX7_makeRoot 0 = .ok (.aload_n 0, 1) := by decide +kernel
theorem dX7_makeRoot_1 : decode cX7_makeRoot 1 = .ok (.getfield 49, 3) := by decide +kernel
theorem dX7_makeRoot_4 : decode cX7_makeRoot 4 = .ok (.istore_n 3, 1) := by decide +kernel
theorem dX7_makeRoot_5 : decode cX7_makeRoot 5 = .ok (.aload_n 0, 1) := by decide +kernel
theorem dX7_makeRoot_6 : decode cX7_makeRoot 6 = .ok (.getfield 9, 3) := by decide +kernel
theorem dX7_makeRoot_9 : decode cX7_makeRoot 9 = .ok (.iload_n 3, 1) := by decide +kernel
theorem dX7_makeRoot_10 : decode cX7_makeRoot 10 = .ok (.iload_n 2, 1) := by decide +kernel
theorem dX7_makeRoot_11 : decode cX7_makeRoot 11 = .ok (.iastore, 1) := by decide +kernel
theorem dX7_makeRoot_12 : decode cX7_makeRoot 12 = .ok (.aload_n 0, 1) := by decide +kernel
theorem dX7_makeRoot_13 : decode cX7_makeRoot 13 = .ok (.getfield 15, 3) := by decide +kernel
theorem dX7_makeRoot_16 : decode cX7_makeRoot 16 = .ok (.iload_n 3, 1) := by decide +kernel
theorem dX7_makeRoot_17 : decode cX7_makeRoot 17 = .ok (.iconst 1, 1) := by decide +kernel
theorem dX7_makeRoot_18 : decode cX7_makeRoot 18 = .ok (.iastore, 1) := by decide +kernel
theorem dX7_makeRoot_19 : decode cX7_makeRoot 19 = .ok (.aload_n 0, 1) := by decide +kernel
theorem dX7_makeRoot_20 : decode cX7_makeRoot 20 = .ok (.getfield 18, 3) := by decide +kernel
theorem dX7_makeRoot_23 : decode cX7_makeRoot 23 = .ok (.iload_n 3, 1) := by decide +kernel
theorem dX7_makeRoot_24 : decode cX7_makeRoot 24 = .ok (.bipush 7, 2) := by decide +kernel
theorem dX7_makeRoot_26 : decode cX7_makeRoot 26 = .ok (.imul, 1) := by decide +kernel
theorem dX7_makeRoot_27 : decode cX7_makeRoot 27 = .ok (.iload_n 3, 1) := by decide +kernel
theorem dX7_makeRoot_28 : decode cX7_makeRoot 28 = .ok (.iastore, 1) := by decide +kernel
theorem dX7_makeRoot_29 : decode cX7_makeRoot 29 = .ok (.aload_n 0, 1) := by decide +kernel
theorem dX7_makeRoot_30 : decode cX7_makeRoot 30 = .ok (.iload_n 3, 1) := by decide +kernel
theorem dX7_makeRoot_31 : decode cX7_makeRoot 31 = .ok (.iload_n 1, 1) := by decide +kernel
theorem dX7_makeRoot_32 : decode cX7_makeRoot 32 = .ok (.invokevirtual 57, 3) := by decide +kernel
theorem dX7_makeRoot_35 : decode cX7_makeRoot 35 = .ok (.iload_n 3, 1) := by decide +kernel
theorem dX7_makeRoot_36 : decode cX7_makeRoot 36 = .ok (.ireturn, 1) := by decide +kernel
set_option maxRecDepth 20000 in
theorem ggX7_makeRoot_X7_startToken : GoodIn wsX7_makeRoot wsX7_startToken := goodIn_ca (goodIn_r _ [9, 10, 11, 12, 13, 1, 14, 15, 16, 17, 18, 19, 20, 21, 22, 23, 24, 25] (by decide +kernel) (by decide +kernel)) (goodIn_sub (fun _ h => List.mem_cons_of_mem _ (List.mem_append_right _ h)) (by decide +kernel))
set_option maxRecDepth 20000 in
theorem gX7_makeRoot_X7_startToken : GoodIn wsX7_makeRoot (wsV RX7 57 RX7 yX7_startToken wsX7_startToken) := goodIn_app (goodIn_of _ (by decide +kernel)) ggX7_makeRoot_X7_startToken
def rm_X7_makeRoot : Room := { frames := 2, cells := 0, slots := 0, locals := 38 }
set_option maxHeartbeats 4000000 in
set_option maxRecDepth 100000 in
theorem c_X7_makeRoot (l : Launch) {nb : Nat} {G : zG} {ad : Nat → Nat} {σ σ' : zs} {a1 a2 : Int32} {r : Int32} (hf : f_X7_makeRoot σ a1 a2 = some (r, σ')) : zMi l yX7_makeRoot wsX7_makeRoot rm_X7_makeRoot G (zS nb) ad σ [.ref (ad 2), .int a1, .int a2] r σ' := by
  intro sz
  refine Met.ofW (cc := cX7_makeRoot) (maxL := 4) (ret := (some .int)) (by decide) rfl ?_
  intro p e s m args below meth c s₁ B hml hv
  obtain ⟨rfl, hsz, hv⟩ := hv
  have hx := B.exec
  have hb := B.bytes
  have hr := B.returns
  have hts := atoms_spec (ws := wsX7_makeRoot) B.pre
  have hown : s.vm.findClass RX7 = some m.cls := findClass_of_methodNamed B.named
  have hlocks := B.notSynchronized
  subst hsz
  have B := zB_start hv
  have hinRX7 : ∀ w ∈ wsX70, w ∈ wsX7_makeRoot := by decide +kernel
  have hl := lv_entry ([.ref (ad 2), .int a1, .int a2]) (n := 4) (Nat.le_of_ble_eq_true rfl)
  rw [lg_entry_eq]
  generalize (lg_sl ([.ref (ad 2), .int a1, .int a2]) ++ List.replicate (4 - (lg_sl ([.ref (ad 2), .int a1, .int a2])).length) Slot.unset).toArray = ls at hl ⊢
  have hl : lv_has ls 4 [(0, .ref (ad 2)), (1, .int a1), (2, .int a2)] := hl
  generalize hAe : zA ad (zS nb).length s.heap.size = A at B ⊢
  unfold f_X7_makeRoot at hf
  refine lv_aload_n hx hb dX7_makeRoot_0 rfl (lv_at hl 0 rfl) ?_
  refine z_geti hx hb hts hinRX7 hown B 2 0 rfl rfl rfl (by decide) (by decide +kernel) rfl dX7_makeRoot_1 ?_
  refine lv_istore_n (lv' := [(3, .int (σ 2 0)), (0, .ref (ad 2)), (1, .int a1), (2, .int a2)]) hx hb dX7_makeRoot_4 rfl hl (by decide) rfl (fun ls hl => ?_)
  refine lv_aload_n hx hb dX7_makeRoot_5 rfl (lv_at hl 1 rfl) ?_
  refine z_getr hx hb hts hinRX7 hown B 2 1 3 rfl rfl rfl (by decide) (by decide +kernel) rfl dX7_makeRoot_6 ?_
  refine lv_iload_n hx hb dX7_makeRoot_9 rfl (lv_at hl 0 rfl) ?_
  refine lv_iload_n hx hb dX7_makeRoot_10 rfl (lv_at hl 3 rfl) ?_
  obtain ⟨hg, hf⟩ := zg_some hf
  refine z_iast hx hb B 3 rfl (zin_ok hg) dX7_makeRoot_11 (fun H locs B => ?_)
  refine lv_aload_n hx hb dX7_makeRoot_12 rfl (lv_at hl 1 rfl) ?_
  refine z_getr hx hb hts hinRX7 hown B 2 2 4 rfl rfl rfl (by decide) (by decide +kernel) rfl dX7_makeRoot_13 ?_
  refine lv_iload_n hx hb dX7_makeRoot_16 rfl (lv_at hl 0 rfl) ?_
  refine lv_iconst (v := (1 : Int32)) hx hb dX7_makeRoot_17 (by decide) ?_
  obtain ⟨hg, hf⟩ := zg_some hf
  refine z_iast hx hb B 4 rfl (zin_ok hg) dX7_makeRoot_18 (fun H locs B => ?_)
  refine lv_aload_n hx hb dX7_makeRoot_19 rfl (lv_at hl 1 rfl) ?_
  refine z_getr hx hb hts hinRX7 hown B 2 3 5 rfl rfl rfl (by decide) (by decide +kernel) rfl dX7_makeRoot_20 ?_
  refine lv_iload_n hx hb dX7_makeRoot_23 rfl (lv_at hl 0 rfl) ?_
  refine lv_bipush (v := (7 : Int32)) hx hb dX7_makeRoot_24 (by decide) ?_
  refine lv_imul hx hb dX7_makeRoot_26 ?_
  refine lv_iload_n hx hb dX7_makeRoot_27 rfl (lv_at hl 0 rfl) ?_
  obtain ⟨hg, hf⟩ := zg_some hf
  refine z_iast hx hb B 5 rfl (zin_ok hg) dX7_makeRoot_28 (fun H locs B => ?_)
  refine lv_aload_n hx hb dX7_makeRoot_29 rfl (lv_at hl 1 rfl) ?_
  refine lv_iload_n hx hb dX7_makeRoot_30 rfl (lv_at hl 0 rfl) ?_
  refine lv_iload_n hx hb dX7_makeRoot_31 rfl (lv_at hl 2 rfl) ?_
  obtain ⟨r2, σ3, hu1, hf⟩ := zb_some hf
  refine z_v B (va_runV (As := [.int (σ 2 0), .int a1]) (rest := []) ⟨hx, hb, hml, hown, hts⟩ (c_X7_startToken l hu1 _) (cwV 2 hts gX7_makeRoot_X7_startToken rfl rfl rfl (by decide +kernel) ⟨Nat.le_of_ble_eq_true rfl, Nat.le_of_ble_eq_true rfl⟩) (z_preV B rfl rfl) rfl rfl hl.1 rfl (lv_room (Nat.le_of_ble_eq_true rfl)) dX7_makeRoot_32 ⟨Nat.le_of_ble_eq_true rfl, Nat.le_of_ble_eq_true rfl⟩) (fun H locs B => ?_)
  refine lv_iload_n hx hb dX7_makeRoot_35 rfl (lv_at hl 0 rfl) ?_
  refine W.widen (k := 0) (n := 0) (Nat.le_of_ble_eq_true rfl) (Nat.le_of_ble_eq_true rfl) ?_
  exact z_iret hx hb hr rfl hlocks B hf dX7_makeRoot_36
theorem dX7_addCaveat_0 : decode cX7_addCaveat 0 = .ok (.aload_n 0, 1) := by decide +kernel
theorem dX7_addCaveat_1 : decode cX7_addCaveat 1 = .ok (.getfield 30, 3) := by decide +kernel
theorem dX7_addCaveat_4 : decode cX7_addCaveat 4 = .ok (.iload_n 1, 1) := by decide +kernel
theorem dX7_addCaveat_5 : decode cX7_addCaveat 5 = .ok (.iaload, 1) := by decide +kernel
theorem dX7_addCaveat_6 : decode cX7_addCaveat 6 = .ok (.iconst 4, 1) := by decide +kernel
theorem dX7_addCaveat_7 : decode cX7_addCaveat 7 = .ok (.if_icmp .ge 50, 3) := by decide +kernel
theorem dX7_addCaveat_10 : decode cX7_addCaveat 10 = .ok (.iload_n 1, 1) := by decide +kernel
theorem dX7_addCaveat_11 : decode cX7_addCaveat 11 = .ok (.iconst 4, 1) := by decide +kernel
theorem dX7_addCaveat_12 : decode cX7_addCaveat 12 = .ok (.imul, 1) := by decide +kernel
theorem dX7_addCaveat_13 : decode cX7_addCaveat 13 = .ok (.aload_n 0, 1) := by decide +kernel
theorem dX7_addCaveat_14 : decode cX7_addCaveat 14 = .ok (.getfield 30, 3) := by decide +kernel
theorem dX7_addCaveat_17 : decode cX7_addCaveat 17 = .ok (.iload_n 1, 1) := by decide +kernel
theorem dX7_addCaveat_18 : decode cX7_addCaveat 18 = .ok (.iaload, 1) := by decide +kernel
theorem dX7_addCaveat_19 : decode cX7_addCaveat 19 = .ok (.iadd, 1) := by decide +kernel
theorem dX7_addCaveat_20 : decode cX7_addCaveat 20 = .ok (.istore 5, 2) := by decide +kernel
theorem dX7_addCaveat_22 : decode cX7_addCaveat 22 = .ok (.aload_n 0, 1) := by decide +kernel
theorem dX7_addCaveat_23 : decode cX7_addCaveat 23 = .ok (.getfield 33, 3) := by decide +kernel
theorem dX7_addCaveat_26 : decode cX7_addCaveat 26 = .ok (.iload 5, 2) := by decide +kernel
theorem dX7_addCaveat_28 : decode cX7_addCaveat 28 = .ok (.iload_n 2, 1) := by decide +kernel
theorem dX7_addCaveat_29 : decode cX7_addCaveat 29 = .ok (.iastore, 1) := by decide +kernel
theorem dX7_addCaveat_30 : decode cX7_addCaveat 30 = .ok (.aload_n 0, 1) := by decide +kernel
theorem dX7_addCaveat_31 : decode cX7_addCaveat 31 = .ok (.getfield 36, 3) := by decide +kernel
theorem dX7_addCaveat_34 : decode cX7_addCaveat 34 = .ok (.iload 5, 2) := by decide +kernel
theorem dX7_addCaveat_36 : decode cX7_addCaveat 36 = .ok (.iload_n 3, 1) := by decide +kernel
theorem dX7_addCaveat_37 : decode cX7_addCaveat 37 = .ok (.iastore, 1) := by decide +kernel
theorem dX7_addCaveat_38 : decode cX7_addCaveat 38 = .ok (.aload_n 0, 1) := by decide +kernel
theorem dX7_addCaveat_39 : decode cX7_addCaveat 39 = .ok (.getfield 39, 3) := by decide +kernel
theorem dX7_addCaveat_42 : decode cX7_addCaveat 42 = .ok (.iload 5, 2) := by decide +kernel
theorem dX7_addCaveat_44 : decode cX7_addCaveat 44 = .ok (.iload 4, 2) := by decide +kernel
theorem dX7_addCaveat_46 : decode cX7_addCaveat 46 = .ok (.iastore, 1) := by decide +kernel
theorem dX7_addCaveat_47 : decode cX7_addCaveat 47 = .ok (.aload_n 0, 1) := by decide +kernel
theorem dX7_addCaveat_48 : decode cX7_addCaveat 48 = .ok (.getfield 30, 3) := by decide +kernel
theorem dX7_addCaveat_51 : decode cX7_addCaveat 51 = .ok (.iload_n 1, 1) := by decide +kernel
theorem dX7_addCaveat_52 : decode cX7_addCaveat 52 = .ok (.dup2, 1) := by decide +kernel
theorem dX7_addCaveat_53 : decode cX7_addCaveat 53 = .ok (.iaload, 1) := by decide +kernel
theorem dX7_addCaveat_54 : decode cX7_addCaveat 54 = .ok (.iconst 1, 1) := by decide +kernel
theorem dX7_addCaveat_55 : decode cX7_addCaveat 55 = .ok (.iadd, 1) := by decide +kernel
theorem dX7_addCaveat_56 : decode cX7_addCaveat 56 = .ok (.iastore, 1) := by decide +kernel
theorem dX7_addCaveat_57 : decode cX7_addCaveat 57 = .ok (.return_, 1) := by decide +kernel
def rm_X7_addCaveat : Room := { frames := 1, cells := 0, slots := 0, locals := 16 }
set_option maxHeartbeats 4000000 in
set_option maxRecDepth 100000 in
theorem c_X7_addCaveat (l : Launch) {nb : Nat} {G : zG} {ad : Nat → Nat} {σ σ' : zs} {a1 a2 a3 a4 : Int32} {r : Int32} (hf : f_X7_addCaveat σ a1 a2 a3 a4 = some (r, σ')) : zMv l yX7_addCaveat wsX7_addCaveat rm_X7_addCaveat G (zS nb) ad σ [.ref (ad 2), .int a1, .int a2, .int a3, .int a4] σ' := by
  intro sz
  refine Met.ofW (cc := cX7_addCaveat) (maxL := 6) (ret := none) (by decide) rfl ?_
  intro p e s m args below meth c s₁ B hml hv
  obtain ⟨rfl, hsz, hv⟩ := hv
  have hx := B.exec
  have hb := B.bytes
  have hr := B.returns
  have hts := atoms_spec (ws := wsX7_addCaveat) B.pre
  have hown : s.vm.findClass RX7 = some m.cls := findClass_of_methodNamed B.named
  have hlocks := B.notSynchronized
  subst hsz
  have B := zB_start hv
  have hinRX7 : ∀ w ∈ wsX70, w ∈ wsX7_addCaveat := by decide +kernel
  have hl := lv_entry ([.ref (ad 2), .int a1, .int a2, .int a3, .int a4]) (n := 6) (Nat.le_of_ble_eq_true rfl)
  rw [lg_entry_eq]
  generalize (lg_sl ([.ref (ad 2), .int a1, .int a2, .int a3, .int a4]) ++ List.replicate (6 - (lg_sl ([.ref (ad 2), .int a1, .int a2, .int a3, .int a4])).length) Slot.unset).toArray = ls at hl ⊢
  have hl : lv_has ls 6 [(0, .ref (ad 2)), (1, .int a1), (2, .int a2), (3, .int a3), (4, .int a4)] := hl
  generalize hAe : zA ad (zS nb).length s.heap.size = A at B ⊢
  unfold f_X7_addCaveat at hf
  refine lv_aload_n hx hb dX7_addCaveat_0 rfl (lv_at hl 0 rfl) ?_
  refine z_getr hx hb hts hinRX7 hown B 2 7 9 rfl rfl rfl (by decide) (by decide +kernel) rfl dX7_addCaveat_1 ?_
  refine lv_iload_n hx hb dX7_addCaveat_4 rfl (lv_at hl 1 rfl) ?_
  obtain ⟨hg, hf⟩ := zg_some hf
  refine z_iald hx hb B 9 rfl (zin_ok hg) dX7_addCaveat_5 ?_
  refine lv_iconst (v := (4 : Int32)) hx hb dX7_addCaveat_6 (by decide) ?_
  refine lv_icmp_ge (tgt := 57) hx hb dX7_addCaveat_7 (by decide) (fun hc => ?_) (fun hc => ?_)
  · have hf := zif_t hc hf
    refine W.widen (k := 0) (n := 0) (Nat.le_of_ble_eq_true rfl) (Nat.le_of_ble_eq_true rfl) ?_
    exact z_vret hx hb hr hlocks B hf dX7_addCaveat_57
  · have hf := zif_f hc hf
    refine lv_iload_n hx hb dX7_addCaveat_10 rfl (lv_at hl 1 rfl) ?_
    refine lv_iconst (v := (4 : Int32)) hx hb dX7_addCaveat_11 (by decide) ?_
    refine lv_imul hx hb dX7_addCaveat_12 ?_
    refine lv_aload_n hx hb dX7_addCaveat_13 rfl (lv_at hl 0 rfl) ?_
    refine z_getr hx hb hts hinRX7 hown B 2 7 9 rfl rfl rfl (by decide) (by decide +kernel) rfl dX7_addCaveat_14 ?_
    refine lv_iload_n hx hb dX7_addCaveat_17 rfl (lv_at hl 1 rfl) ?_
    obtain ⟨hg, hf⟩ := zg_some hf
    refine z_iald hx hb B 9 rfl (zin_ok hg) dX7_addCaveat_18 ?_
    refine lv_iadd hx hb dX7_addCaveat_19 ?_
    refine lv_istore (lv' := [(5, .int ((a1 * (4 : Int32)) + (σ 9 a1.toNatClampNeg))), (0, .ref (ad 2)), (1, .int a1), (2, .int a2), (3, .int a3), (4, .int a4)]) hx hb dX7_addCaveat_20 hl (by decide) rfl (fun ls hl => ?_)
    refine lv_aload_n hx hb dX7_addCaveat_22 rfl (lv_at hl 1 rfl) ?_
    refine z_getr hx hb hts hinRX7 hown B 2 8 10 rfl rfl rfl (by decide) (by decide +kernel) rfl dX7_addCaveat_23 ?_
    refine lv_iload hx hb dX7_addCaveat_26 (lv_at hl 0 rfl) ?_
    refine lv_iload_n hx hb dX7_addCaveat_28 rfl (lv_at hl 3 rfl) ?_
    obtain ⟨hg, hf⟩ := zg_some hf
    refine z_iast hx hb B 10 rfl (zin_ok hg) dX7_addCaveat_29 (fun H locs B => ?_)
    refine lv_aload_n hx hb dX7_addCaveat_30 rfl (lv_at hl 1 rfl) ?_
    refine z_getr hx hb hts hinRX7 hown B 2 9 11 rfl rfl rfl (by decide) (by decide +kernel) rfl dX7_addCaveat_31 ?_
    refine lv_iload hx hb dX7_addCaveat_34 (lv_at hl 0 rfl) ?_
    refine lv_iload_n hx hb dX7_addCaveat_36 rfl (lv_at hl 4 rfl) ?_
    obtain ⟨hg, hf⟩ := zg_some hf
    refine z_iast hx hb B 11 rfl (zin_ok hg) dX7_addCaveat_37 (fun H locs B => ?_)
    refine lv_aload_n hx hb dX7_addCaveat_38 rfl (lv_at hl 1 rfl) ?_
    refine z_getr hx hb hts hinRX7 hown B 2 10 12 rfl rfl rfl (by decide) (by decide +kernel) rfl dX7_addCaveat_39 ?_
    refine lv_iload hx hb dX7_addCaveat_42 (lv_at hl 0 rfl) ?_
    refine lv_iload hx hb dX7_addCaveat_44 (lv_at hl 5 rfl) ?_
    obtain ⟨hg, hf⟩ := zg_some hf
    refine z_iast hx hb B 12 rfl (zin_ok hg) dX7_addCaveat_46 (fun H locs B => ?_)
    refine lv_aload_n hx hb dX7_addCaveat_47 rfl (lv_at hl 1 rfl) ?_
    refine z_getr hx hb hts hinRX7 hown B 2 7 9 rfl rfl rfl (by decide) (by decide +kernel) rfl dX7_addCaveat_48 ?_
    refine lv_iload_n hx hb dX7_addCaveat_51 rfl (lv_at hl 2 rfl) ?_
    refine lv_dup2_11 hx hb dX7_addCaveat_52 rfl rfl ?_
    obtain ⟨hg, hf⟩ := zg_some hf
    refine z_iald hx hb B 9 rfl (zin_ok hg) dX7_addCaveat_53 ?_
    refine lv_iconst (v := (1 : Int32)) hx hb dX7_addCaveat_54 (by decide) ?_
    refine lv_iadd hx hb dX7_addCaveat_55 ?_
    obtain ⟨hg, hf⟩ := zg_some hf
    refine z_iast hx hb B 9 rfl (zin_ok hg) dX7_addCaveat_56 (fun H locs B => ?_)
    refine W.widen (k := 0) (n := 0) (Nat.le_of_ble_eq_true rfl) (Nat.le_of_ble_eq_true rfl) ?_
    exact z_vret hx hb hr hlocks B hf dX7_addCaveat_57
theorem dX7_isBelow_0 : decode cX7_isBelow 0 = .ok (.aload_n 0, 1) := by decide +kernel
theorem dX7_isBelow_1 : decode cX7_isBelow 1 = .ok (.getfield 15, 3) := by decide +kernel
theorem dX7_isBelow_4 : decode cX7_isBelow 4 = .ok (.iload_n 1, 1) := by decide +kernel
theorem dX7_isBelow_5 : decode cX7_isBelow 5 = .ok (.iaload, 1) := by decide +kernel
theorem dX7_isBelow_6 : decode cX7_isBelow 6 = .ok (.aload_n 0, 1) := by decide +kernel
theorem dX7_isBelow_7 : decode cX7_isBelow 7 = .ok (.getfield 15, 3) := by decide +kernel
theorem dX7_isBelow_10 : decode cX7_isBelow 10 = .ok (.iload_n 2, 1) := by decide +kernel
theorem dX7_isBelow_11 : decode cX7_isBelow 11 = .ok (.iaload, 1) := by decide +kernel
theorem dX7_isBelow_12 : decode cX7_isBelow 12 = .ok (.if_icmp .lt 29, 3) := by decide +kernel
theorem dX7_isBelow_15 : decode cX7_isBelow 15 = .ok (.aload_n 0, 1) := by decide +kernel
theorem dX7_isBelow_16 : decode cX7_isBelow 16 = .ok (.getfield 18, 3) := by decide +kernel
theorem dX7_isBelow_19 : decode cX7_isBelow 19 = .ok (.iload_n 1, 1) := by decide +kernel
theorem dX7_isBelow_20 : decode cX7_isBelow 20 = .ok (.bipush 7, 2) := by decide +kernel
theorem dX7_isBelow_22 : decode cX7_isBelow 22 = .ok (.imul, 1) := by decide +kernel
theorem dX7_isBelow_23 : decode cX7_isBelow 23 = .ok (.aload_n 0, 1) := by decide +kernel
theorem dX7_isBelow_24 : decode cX7_isBelow 24 = .ok (.getfield 15, 3) := by decide +kernel
theorem dX7_isBelow_27 : decode cX7_isBelow 27 = .ok (.iload_n 2, 1) := by decide +kernel
theorem dX7_isBelow_28 : decode cX7_isBelow 28 = .ok (.iaload, 1) := by decide +kernel
theorem dX7_isBelow_29 : decode cX7_isBelow 29 = .ok (.iadd, 1) := by decide +kernel
theorem dX7_isBelow_30 : decode cX7_isBelow 30 = .ok (.iconst 1, 1) := by decide +kernel
theorem dX7_isBelow_31 : decode cX7_isBelow 31 = .ok (.isub, 1) := by decide +kernel
theorem dX7_isBelow_32 : decode cX7_isBelow 32 = .ok (.iaload, 1) := by decide +kernel
theorem dX7_isBelow_33 : decode cX7_isBelow 33 = .ok (.iload_n 2, 1) := by decide +kernel
theorem dX7_isBelow_34 : decode cX7_isBelow 34 = .ok (.if_icmp .ne 7, 3) := by decide +kernel
theorem dX7_isBelow_37 : decode cX7_isBelow 37 = .ok (.iconst 1, 1) := by decide +kernel
theorem dX7_isBelow_38 : decode cX7_isBelow 38 = .ok (.goto 4, 3) := by decide +kernel
theorem dX7_isBelow_41 : decode cX7_isBelow 41 = .ok (.iconst 0, 1) := by decide +kernel
theorem dX7_isBelow_42 : decode cX7_isBelow 42 = .ok (.ireturn, 1) := by decide +kernel
def rm_X7_isBelow : Room := { frames := 1, cells := 0, slots := 0, locals := 16 }
set_option maxHeartbeats 4000000 in
set_option maxRecDepth 100000 in
theorem c_X7_isBelow (l : Launch) {nb : Nat} {G : zG} {ad : Nat → Nat} {σ σ' : zs} {a1 a2 : Int32} {r : Int32} (hf : f_X7_isBelow σ a1 a2 = some (r, σ')) : zMi l yX7_isBelow wsX7_isBelow rm_X7_isBelow G (zS nb) ad σ [.ref (ad 2), .int a1, .int a2] r σ' := by
  intro sz
  refine Met.ofW (cc := cX7_isBelow) (maxL := 3) (ret := (some .boolean)) (by decide) rfl ?_
  intro p e s m args below meth c s₁ B hml hv
  obtain ⟨rfl, hsz, hv⟩ := hv
  have hx := B.exec
  have hb := B.bytes
  have hr := B.returns
  have hts := atoms_spec (ws := wsX7_isBelow) B.pre
  have hown : s.vm.findClass RX7 = some m.cls := findClass_of_methodNamed B.named
  have hlocks := B.notSynchronized
  subst hsz
  have B := zB_start hv
  have hinRX7 : ∀ w ∈ wsX70, w ∈ wsX7_isBelow := by decide +kernel
  have hl := lv_entry ([.ref (ad 2), .int a1, .int a2]) (n := 3) (Nat.le_of_ble_eq_true rfl)
  rw [lg_entry_eq]
  generalize (lg_sl ([.ref (ad 2), .int a1, .int a2]) ++ List.replicate (3 - (lg_sl ([.ref (ad 2), .int a1, .int a2])).length) Slot.unset).toArray = ls at hl ⊢
  have hl : lv_has ls 3 [(0, .ref (ad 2)), (1, .int a1), (2, .int a2)] := hl
  generalize hAe : zA ad (zS nb).length s.heap.size = A at B ⊢
  unfold f_X7_isBelow at hf
  refine lv_aload_n hx hb dX7_isBelow_0 rfl (lv_at hl 0 rfl) ?_
  refine z_getr hx hb hts hinRX7 hown B 2 2 4 rfl rfl rfl (by decide) (by decide +kernel) rfl dX7_isBelow_1 ?_
  refine lv_iload_n hx hb dX7_isBelow_4 rfl (lv_at hl 1 rfl) ?_
  obtain ⟨hg, hf⟩ := zg_some hf
  refine z_iald hx hb B 4 rfl (zin_ok hg) dX7_isBelow_5 ?_
  refine lv_aload_n hx hb dX7_isBelow_6 rfl (lv_at hl 0 rfl) ?_
  refine z_getr hx hb hts hinRX7 hown B 2 2 4 rfl rfl rfl (by decide) (by decide +kernel) rfl dX7_isBelow_7 ?_
  refine lv_iload_n hx hb dX7_isBelow_10 rfl (lv_at hl 2 rfl) ?_
  obtain ⟨hg, hf⟩ := zg_some hf
  refine z_iald hx hb B 4 rfl (zin_ok hg) dX7_isBelow_11 ?_
  refine lv_icmp_lt (tgt := 41) hx hb dX7_isBelow_12 (by decide) (fun hc => ?_) (fun hc => ?_)
  · have hf := zif_t hc hf
    refine lv_iconst (v := (0 : Int32)) hx hb dX7_isBelow_41 (by decide) ?_
    refine W.widen (k := 0) (n := 0) (Nat.le_of_ble_eq_true rfl) (Nat.le_of_ble_eq_true rfl) ?_
    exact z_iret hx hb hr (by decide) hlocks B hf dX7_isBelow_42
  · have hf := zif_f hc hf
    refine lv_aload_n hx hb dX7_isBelow_15 rfl (lv_at hl 0 rfl) ?_
    refine z_getr hx hb hts hinRX7 hown B 2 3 5 rfl rfl rfl (by decide) (by decide +kernel) rfl dX7_isBelow_16 ?_
    refine lv_iload_n hx hb dX7_isBelow_19 rfl (lv_at hl 1 rfl) ?_
    refine lv_bipush (v := (7 : Int32)) hx hb dX7_isBelow_20 (by decide) ?_
    refine lv_imul hx hb dX7_isBelow_22 ?_
    refine lv_aload_n hx hb dX7_isBelow_23 rfl (lv_at hl 0 rfl) ?_
    refine z_getr hx hb hts hinRX7 hown B 2 2 4 rfl rfl rfl (by decide) (by decide +kernel) rfl dX7_isBelow_24 ?_
    refine lv_iload_n hx hb dX7_isBelow_27 rfl (lv_at hl 2 rfl) ?_
    obtain ⟨hg, hf⟩ := zg_some hf
    refine z_iald hx hb B 4 rfl (zin_ok hg) dX7_isBelow_28 ?_
    refine lv_iadd hx hb dX7_isBelow_29 ?_
    refine lv_iconst (v := (1 : Int32)) hx hb dX7_isBelow_30 (by decide) ?_
    refine lv_isub hx hb dX7_isBelow_31 ?_
    obtain ⟨hg, hf⟩ := zg_some hf
    refine z_iald hx hb B 5 rfl (zin_ok hg) dX7_isBelow_32 ?_
    refine lv_iload_n hx hb dX7_isBelow_33 rfl (lv_at hl 2 rfl) ?_
    refine lv_icmp_ne (tgt := 41) hx hb dX7_isBelow_34 (by decide) (fun hc => ?_) (fun hc => ?_)
    · have hf := zif_f hc hf
      refine lv_iconst (v := (0 : Int32)) hx hb dX7_isBelow_41 (by decide) ?_
      refine W.widen (k := 0) (n := 0) (Nat.le_of_ble_eq_true rfl) (Nat.le_of_ble_eq_true rfl) ?_
      exact z_iret hx hb hr (by decide) hlocks B hf dX7_isBelow_42
    · have hf := zif_t hc hf
      refine lv_iconst (v := (1 : Int32)) hx hb dX7_isBelow_37 (by decide) ?_
      refine lv_goto (tgt := 42) hx hb dX7_isBelow_38 (by decide) ?_
      refine W.widen (k := 0) (n := 0) (Nat.le_of_ble_eq_true rfl) (Nat.le_of_ble_eq_true rfl) ?_
      exact z_iret hx hb hr (by decide) hlocks B hf dX7_isBelow_42
theorem dX7_setBelow_0 : decode cX7_setBelow 0 = .ok (.iconst 0, 1) := by decide +kernel
theorem dX7_setBelow_1 : decode cX7_setBelow 1 = .ok (.istore_n 2, 1) := by decide +kernel
theorem dX7_setBelow_2 : decode cX7_setBelow 2 = .ok (.iconst 0, 1) := by decide +kernel
theorem dX7_setBelow_3 : decode cX7_setBelow 3 = .ok (.istore_n 3, 1) := by decide +kernel
theorem dX7_setBelow_4 : decode cX7_setBelow 4 = .ok (.iload_n 3, 1) := by decide +kernel
theorem dX7_setBelow_5 : decode cX7_setBelow 5 = .ok (.aload_n 0, 1) := by decide +kernel
theorem dX7_setBelow_6 : decode cX7_setBelow 6 = .ok (.getfield 49, 3) := by decide +kernel
theorem dX7_setBelow_9 : decode cX7_setBelow 9 = .ok (.if_icmp .ge 24, 3) := by decide +kernel
theorem dX7_setBelow_12 : decode cX7_setBelow 12 = .ok (.aload_n 0, 1) := by decide +kernel
theorem dX7_setBelow_13 : decode cX7_setBelow 13 = .ok (.iload_n 3, 1) := by decide +kernel
theorem dX7_setBelow_14 : decode cX7_setBelow 14 = .ok (.iload_n 1, 1) := by decide +kernel
theorem dX7_setBelow_15 : decode cX7_setBelow 15 = .ok (.invokevirtual 67, 3) := by decide +kernel
theorem dX7_setBelow_18 : decode cX7_setBelow 18 = .ok (.ifCond .eq 9, 3) := by decide +kernel
theorem dX7_setBelow_21 : decode cX7_setBelow 21 = .ok (.iload_n 2, 1) := by decide +kernel
theorem dX7_setBelow_22 : decode cX7_setBelow 22 = .ok (.iconst 1, 1) := by decide +kernel
theorem dX7_setBelow_23 : decode cX7_setBelow 23 = .ok (.iload_n 3, 1) := by decide +kernel
theorem dX7_setBelow_24 : decode cX7_setBelow 24 = .ok (.ishl, 1) := by decide +kernel
theorem dX7_setBelow_25 : decode cX7_setBelow 25 = .ok (.ior, 1) := by decide +kernel
theorem dX7_setBelow_26 : decode cX7_setBelow 26 = .ok (.istore_n 2, 1) := by decide +kernel
theorem dX7_setBelow_27 : decode cX7_setBelow 27 = .ok (.iinc 3 1, 3) := by decide +kernel
theorem dX7_setBelow_30 : decode cX7_setBelow 30 = .ok (.goto (-26), 3) := by decide +kernel
theorem dX7_setBelow_33 : decode cX7_setBelow 33 = .ok (.iload_n 2, 1) := by decide +kernel
theorem dX7_setBelow_34 : decode cX7_setBelow 34 = .ok (.ireturn, 1) := by decide +kernel
set_option maxRecDepth 20000 in
theorem ggX7_setBelow_X7_isBelow : GoodIn wsX7_setBelow wsX7_isBelow := goodIn_ca (goodIn_r _ [6, 7, 8, 9, 10, 11, 12, 13, 14, 15, 16, 17, 18, 19, 20] (by decide +kernel) (by decide +kernel)) (goodIn_sub (fun _ h => List.mem_cons_of_mem _ (List.mem_append_right _ h)) (by decide +kernel))
set_option maxRecDepth 20000 in
theorem gX7_setBelow_X7_isBelow : GoodIn wsX7_setBelow (wsV RX7 67 RX7 yX7_isBelow wsX7_isBelow) := goodIn_app (goodIn_of _ (by decide +kernel)) ggX7_setBelow_X7_isBelow
def rm_X7_setBelow : Room := { frames := 2, cells := 0, slots := 0, locals := 38 }
set_option maxHeartbeats 4000000 in
set_option maxRecDepth 100000 in
theorem c_X7_setBelow (l : Launch) {nb : Nat} {G : zG} {ad : Nat → Nat} {σ σ' : zs} {a1 : Int32} {r : Int32} (hf : f_X7_setBelow σ a1 = some (r, σ')) : zMi l yX7_setBelow wsX7_setBelow rm_X7_setBelow G (zS nb) ad σ [.ref (ad 2), .int a1] r σ' := by
  intro sz
  refine Met.ofW (cc := cX7_setBelow) (maxL := 4) (ret := (some .int)) (by decide) rfl ?_
  intro p e s m args below meth c s₁ B hml hv
  obtain ⟨rfl, hsz, hv⟩ := hv
  have hx := B.exec
  have hb := B.bytes
  have hr := B.returns
  have hts := atoms_spec (ws := wsX7_setBelow) B.pre
  have hown : s.vm.findClass RX7 = some m.cls := findClass_of_methodNamed B.named
  have hlocks := B.notSynchronized
  subst hsz
  have B := zB_start hv
  have hinRX7 : ∀ w ∈ wsX70, w ∈ wsX7_setBelow := by decide +kernel
  have hl := lv_entry ([.ref (ad 2), .int a1]) (n := 4) (Nat.le_of_ble_eq_true rfl)
  rw [lg_entry_eq]
  generalize (lg_sl ([.ref (ad 2), .int a1]) ++ List.replicate (4 - (lg_sl ([.ref (ad 2), .int a1])).length) Slot.unset).toArray = ls at hl ⊢
  have hl : lv_has ls 4 [(0, .ref (ad 2)), (1, .int a1)] := hl
  generalize hAe : zA ad (zS nb).length s.heap.size = A at B ⊢
  have L4 : ∀ (n : Nat) (σ : zs) (v1 : Int32) (v2 : Int32) (v3 : Int32) (H : Heap) (locs : List Loc) (ls : Array Slot), zlp3 (f_X7_setBelow_4) n σ v1 v2 v3 = some (r, σ') → zB A s G (zS nb) ad σ H locs → lv_has ls 4 [(0, .ref (ad 2)), (1, .int v1), (2, .int v2), (3, .int v3)] → W p l e (headSpec wsX7_setBelow rm_X7_setBelow).room s m ([.ref (ad 2), .int a1] : List Value).toArray below meth c H locs 0 0 (MQ below (va_Qi (fun r' (_ : Unit) => r' = r) (zPost G (zS nb) ad σ') A) ([.ref (ad 2), .int a1] : List Value).toArray s 0 0 A) (F0 m 4 ls []) := by
    intro n
    induction n with
    | zero =>
      intro σ v1 v2 v3 H locs ls hf
      cases hf
    | succ n ih =>
      intro σ v1 v2 v3 H locs ls hf B hl
      have hf : f_X7_setBelow_4 (zlp3 (f_X7_setBelow_4) n) σ v1 v2 v3 = some (r, σ') := hf
      unfold f_X7_setBelow_4 at hf
      refine lv_iload_n hx hb dX7_setBelow_4 rfl (lv_at hl 3 rfl) ?_
      refine lv_aload_n hx hb dX7_setBelow_5 rfl (lv_at hl 0 rfl) ?_
      refine z_geti hx hb hts hinRX7 hown B 2 0 rfl rfl rfl (by decide) (by decide +kernel) rfl dX7_setBelow_6 ?_
      refine lv_icmp_ge (tgt := 33) hx hb dX7_setBelow_9 (by decide) (fun hc => ?_) (fun hc => ?_)
      · have hf := zif_t hc hf
        refine lv_iload_n hx hb dX7_setBelow_33 rfl (lv_at hl 2 rfl) ?_
        refine W.widen (k := 0) (n := 0) (Nat.le_of_ble_eq_true rfl) (Nat.le_of_ble_eq_true rfl) ?_
        exact z_iret hx hb hr rfl hlocks B hf dX7_setBelow_34
      · have hf := zif_f hc hf
        refine lv_aload_n hx hb dX7_setBelow_12 rfl (lv_at hl 0 rfl) ?_
        refine lv_iload_n hx hb dX7_setBelow_13 rfl (lv_at hl 3 rfl) ?_
        refine lv_iload_n hx hb dX7_setBelow_14 rfl (lv_at hl 1 rfl) ?_
        obtain ⟨r2, σ3, hu1, hf⟩ := zb_some hf
        refine z_i B (va_runV (As := [.int v3, .int v1]) (rest := []) ⟨hx, hb, hml, hown, hts⟩ (c_X7_isBelow l hu1 _) (cwV 2 hts gX7_setBelow_X7_isBelow rfl rfl rfl (by decide +kernel) ⟨Nat.le_of_ble_eq_true rfl, Nat.le_of_ble_eq_true rfl⟩) (z_preV B rfl rfl) rfl rfl hl.1 rfl (lv_room (Nat.le_of_ble_eq_true rfl)) dX7_setBelow_15 ⟨Nat.le_of_ble_eq_true rfl, Nat.le_of_ble_eq_true rfl⟩) (fun H locs B => ?_)
        refine lv_if_eq (tgt := 27) hx hb dX7_setBelow_18 (by decide) (fun hc => ?_) (fun hc => ?_)
        · have hf := zif_t hc hf
          refine lv_iinc (v := (v3 + (1 : Int32))) (lv' := [(3, .int (v3 + (1 : Int32))), (0, .ref (ad 2)), (1, .int v1), (2, .int v2)]) hx hb dX7_setBelow_27 hl (k := 3) rfl (zc1 (by decide)) (by decide) rfl (fun ls hl => ?_)
          refine lv_goto (tgt := 4) hx hb dX7_setBelow_30 (by decide) ?_
          exact ih _ _ _ _ _ _ _ hf B (lv_sub hl [1, 2, 3, 0] rfl)
        · have hf := zif_f hc hf
          refine lv_iload_n hx hb dX7_setBelow_21 rfl (lv_at hl 2 rfl) ?_
          refine lv_iconst (v := (1 : Int32)) hx hb dX7_setBelow_22 (by decide) ?_
          refine lv_iload_n hx hb dX7_setBelow_23 rfl (lv_at hl 3 rfl) ?_
          refine lv_ishl hx hb dX7_setBelow_24 ?_
          refine lv_ior hx hb dX7_setBelow_25 ?_
          refine lv_istore_n (lv' := [(2, .int (v2 ||| ((1 : Int32) <<< (v3 &&& 31)))), (0, .ref (ad 2)), (1, .int v1), (3, .int v3)]) hx hb dX7_setBelow_26 rfl hl (by decide) rfl (fun ls hl => ?_)
          refine lv_iinc (v := (v3 + (1 : Int32))) (lv' := [(3, .int (v3 + (1 : Int32))), (2, .int (v2 ||| ((1 : Int32) <<< (v3 &&& 31)))), (0, .ref (ad 2)), (1, .int v1)]) hx hb dX7_setBelow_27 hl (k := 3) rfl (zc1 (by decide)) (by decide) rfl (fun ls hl => ?_)
          refine lv_goto (tgt := 4) hx hb dX7_setBelow_30 (by decide) ?_
          exact ih _ _ _ _ _ _ _ hf B (lv_sub hl [2, 3, 1, 0] rfl)
  unfold f_X7_setBelow at hf
  refine lv_iconst (v := (0 : Int32)) hx hb dX7_setBelow_0 (by decide) ?_
  refine lv_istore_n (lv' := [(2, .int (0 : Int32)), (0, .ref (ad 2)), (1, .int a1)]) hx hb dX7_setBelow_1 rfl hl (by decide) rfl (fun ls hl => ?_)
  refine lv_iconst (v := (0 : Int32)) hx hb dX7_setBelow_2 (by decide) ?_
  refine lv_istore_n (lv' := [(3, .int (0 : Int32)), (2, .int (0 : Int32)), (0, .ref (ad 2)), (1, .int a1)]) hx hb dX7_setBelow_3 rfl hl (by decide) rfl (fun ls hl => ?_)
  exact L4  _ _ _ _ _ _ _ _ hf B (lv_sub hl [2, 3, 1, 0] rfl)
theorem dX7_setHeldBy_0 : decode cX7_setHeldBy 0 = .ok (.iconst 0, 1) := by decide +kernel
theorem dX7_setHeldBy_1 : decode cX7_setHeldBy 1 = .ok (.istore_n 2, 1) := by decide +kernel
theorem dX7_setHeldBy_2 : decode cX7_setHeldBy 2 = .ok (.iconst 0, 1) := by decide +kernel
theorem dX7_setHeldBy_3 : decode cX7_setHeldBy 3 = .ok (.istore_n 3, 1) := by decide +kernel
theorem dX7_setHeldBy_4 : decode cX7_setHeldBy 4 = .ok (.iload_n 3, 1) := by decide +kernel
theorem dX7_setHeldBy_5 : decode cX7_setHeldBy 5 = .ok (.aload_n 0, 1) := by decide +kernel
theorem dX7_setHeldBy_6 : decode cX7_setHeldBy 6 = .ok (.getfield 49, 3) := by decide +kernel
theorem dX7_setHeldBy_9 : decode cX7_setHeldBy 9 = .ok (.if_icmp .ge 28, 3) := by decide +kernel
theorem dX7_setHeldBy_12 : decode cX7_setHeldBy 12 = .ok (.aload_n 0, 1) := by decide +kernel
theorem dX7_setHeldBy_13 : decode cX7_setHeldBy 13 = .ok (.getfield 21, 3) := by decide +kernel
theorem dX7_setHeldBy_16 : decode cX7_setHeldBy 16 = .ok (.iload_n 3, 1) := by decide +kernel
theorem dX7_setHeldBy_17 : decode cX7_setHeldBy 17 = .ok (.iaload, 1) := by decide +kernel
theorem dX7_setHeldBy_18 : decode cX7_setHeldBy 18 = .ok (.iload_n 1, 1) := by decide +kernel
theorem dX7_setHeldBy_19 : decode cX7_setHeldBy 19 = .ok (.invokestatic 71, 3) := by decide +kernel
theorem dX7_setHeldBy_22 : decode cX7_setHeldBy 22 = .ok (.ifCond .eq 9, 3) := by decide +kernel
theorem dX7_setHeldBy_25 : decode cX7_setHeldBy 25 = .ok (.iload_n 2, 1) := by decide +kernel
theorem dX7_setHeldBy_26 : decode cX7_setHeldBy 26 = .ok (.iconst 1, 1) := by decide +kernel
theorem dX7_setHeldBy_27 : decode cX7_setHeldBy 27 = .ok (.iload_n 3, 1) := by decide +kernel
theorem dX7_setHeldBy_28 : decode cX7_setHeldBy 28 = .ok (.ishl, 1) := by decide +kernel
theorem dX7_setHeldBy_29 : decode cX7_setHeldBy 29 = .ok (.ior, 1) := by decide +kernel
theorem dX7_setHeldBy_30 : decode cX7_setHeldBy 30 = .ok (.istore_n 2, 1) := by decide +kernel
theorem dX7_setHeldBy_31 : decode cX7_setHeldBy 31 = .ok (.iinc 3 1, 3) := by decide +kernel
theorem dX7_setHeldBy_34 : decode cX7_setHeldBy 34 = .ok (.goto (-30), 3) := by decide +kernel
theorem dX7_setHeldBy_37 : decode cX7_setHeldBy 37 = .ok (.iload_n 2, 1) := by decide +kernel
theorem dX7_setHeldBy_38 : decode cX7_setHeldBy 38 = .ok (.ireturn, 1) := by decide +kernel
set_option maxRecDepth 20000 in
theorem ggX7_setHeldBy_X8_hasBit : GoodIn wsX7_setHeldBy wsX8_hasBit := goodIn_r _ [5] (by decide +kernel) (by decide +kernel)
set_option maxRecDepth 20000 in
theorem gX7_setHeldBy_X8_hasBit_n71 : GoodIn wsX7_setHeldBy (wsX8_hasBit) := ggX7_setHeldBy_X8_hasBit
def rm_X7_setHeldBy : Room := { frames := 2, cells := 0, slots := 0, locals := 37 }
set_option maxHeartbeats 4000000 in
set_option maxRecDepth 100000 in
theorem c_X7_setHeldBy (l : Launch) {nb : Nat} {G : zG} {ad : Nat → Nat} {σ σ' : zs} {a1 : Int32} {r : Int32} (hf : f_X7_setHeldBy σ a1 = some (r, σ')) : zMi l yX7_setHeldBy wsX7_setHeldBy rm_X7_setHeldBy G (zS nb) ad σ [.ref (ad 2), .int a1] r σ' := by
  intro sz
  refine Met.ofW (cc := cX7_setHeldBy) (maxL := 4) (ret := (some .int)) (by decide) rfl ?_
  intro p e s m args below meth c s₁ B hml hv
  obtain ⟨rfl, hsz, hv⟩ := hv
  have hx := B.exec
  have hb := B.bytes
  have hr := B.returns
  have hts := atoms_spec (ws := wsX7_setHeldBy) B.pre
  have hown : s.vm.findClass RX7 = some m.cls := findClass_of_methodNamed B.named
  have hlocks := B.notSynchronized
  subst hsz
  have B := zB_start hv
  have hinRX7 : ∀ w ∈ wsX70, w ∈ wsX7_setHeldBy := by decide +kernel
  have hl := lv_entry ([.ref (ad 2), .int a1]) (n := 4) (Nat.le_of_ble_eq_true rfl)
  rw [lg_entry_eq]
  generalize (lg_sl ([.ref (ad 2), .int a1]) ++ List.replicate (4 - (lg_sl ([.ref (ad 2), .int a1])).length) Slot.unset).toArray = ls at hl ⊢
  have hl : lv_has ls 4 [(0, .ref (ad 2)), (1, .int a1)] := hl
  generalize hAe : zA ad (zS nb).length s.heap.size = A at B ⊢
  have L4 : ∀ (n : Nat) (σ : zs) (v1 : Int32) (v2 : Int32) (v3 : Int32) (H : Heap) (locs : List Loc) (ls : Array Slot), zlp3 (f_X7_setHeldBy_4) n σ v1 v2 v3 = some (r, σ') → zB A s G (zS nb) ad σ H locs → lv_has ls 4 [(0, .ref (ad 2)), (1, .int v1), (2, .int v2), (3, .int v3)] → W p l e (headSpec wsX7_setHeldBy rm_X7_setHeldBy).room s m ([.ref (ad 2), .int a1] : List Value).toArray below meth c H locs 0 0 (MQ below (va_Qi (fun r' (_ : Unit) => r' = r) (zPost G (zS nb) ad σ') A) ([.ref (ad 2), .int a1] : List Value).toArray s 0 0 A) (F0 m 4 ls []) := by
    intro n
    induction n with
    | zero =>
      intro σ v1 v2 v3 H locs ls hf
      cases hf
    | succ n ih =>
      intro σ v1 v2 v3 H locs ls hf B hl
      have hf : f_X7_setHeldBy_4 (zlp3 (f_X7_setHeldBy_4) n) σ v1 v2 v3 = some (r, σ') := hf
      unfold f_X7_setHeldBy_4 at hf
      refine lv_iload_n hx hb dX7_setHeldBy_4 rfl (lv_at hl 3 rfl) ?_
      refine lv_aload_n hx hb dX7_setHeldBy_5 rfl (lv_at hl 0 rfl) ?_
      refine z_geti hx hb hts hinRX7 hown B 2 0 rfl rfl rfl (by decide) (by decide +kernel) rfl dX7_setHeldBy_6 ?_
      refine lv_icmp_ge (tgt := 37) hx hb dX7_setHeldBy_9 (by decide) (fun hc => ?_) (fun hc => ?_)
      · have hf := zif_t hc hf
        refine lv_iload_n hx hb dX7_setHeldBy_37 rfl (lv_at hl 2 rfl) ?_
        refine W.widen (k := 0) (n := 0) (Nat.le_of_ble_eq_true rfl) (Nat.le_of_ble_eq_true rfl) ?_
        exact z_iret hx hb hr rfl hlocks B hf dX7_setHeldBy_38
      · have hf := zif_f hc hf
        refine lv_aload_n hx hb dX7_setHeldBy_12 rfl (lv_at hl 0 rfl) ?_
        refine z_getr hx hb hts hinRX7 hown B 2 4 6 rfl rfl rfl (by decide) (by decide +kernel) rfl dX7_setHeldBy_13 ?_
        refine lv_iload_n hx hb dX7_setHeldBy_16 rfl (lv_at hl 3 rfl) ?_
        obtain ⟨hg, hf⟩ := zg_some hf
        refine z_iald hx hb B 6 rfl (zin_ok hg) dX7_setHeldBy_17 ?_
        refine lv_iload_n hx hb dX7_setHeldBy_18 rfl (lv_at hl 1 rfl) ?_
        obtain ⟨r2, σ3, hu1, hf⟩ := zb_some hf
        refine z_i B (va_runSN (As := [.int (σ 6 v3.toNatClampNeg), .int v1]) (rest := []) ⟨hx, hb, hml, hown, hts⟩ (c_X8_hasBit l hu1 _) ⟨va_cnB 2 hts gX7_setHeldBy_X8_hasBit_n71 rfl rfl rfl (z_nest B (q := (RX7, 71, yX8_hasBit)) (by decide +kernel)) (hts (.initialized RX8) (by decide +kernel)) (by decide +kernel) ⟨Nat.le_of_ble_eq_true rfl, Nat.le_of_ble_eq_true rfl⟩, hts (.static yX8_hasBit) (by decide +kernel), trivial⟩ (z_preS B) rfl rfl hl.1 rfl (lv_room (Nat.le_of_ble_eq_true rfl)) dX7_setHeldBy_19 ⟨Nat.le_of_ble_eq_true rfl, Nat.le_of_ble_eq_true rfl⟩) (fun H locs B => ?_)
        refine lv_if_eq (tgt := 31) hx hb dX7_setHeldBy_22 (by decide) (fun hc => ?_) (fun hc => ?_)
        · have hf := zif_t hc hf
          refine lv_iinc (v := (v3 + (1 : Int32))) (lv' := [(3, .int (v3 + (1 : Int32))), (0, .ref (ad 2)), (1, .int v1), (2, .int v2)]) hx hb dX7_setHeldBy_31 hl (k := 3) rfl (zc1 (by decide)) (by decide) rfl (fun ls hl => ?_)
          refine lv_goto (tgt := 4) hx hb dX7_setHeldBy_34 (by decide) ?_
          exact ih _ _ _ _ _ _ _ hf B (lv_sub hl [1, 2, 3, 0] rfl)
        · have hf := zif_f hc hf
          refine lv_iload_n hx hb dX7_setHeldBy_25 rfl (lv_at hl 2 rfl) ?_
          refine lv_iconst (v := (1 : Int32)) hx hb dX7_setHeldBy_26 (by decide) ?_
          refine lv_iload_n hx hb dX7_setHeldBy_27 rfl (lv_at hl 3 rfl) ?_
          refine lv_ishl hx hb dX7_setHeldBy_28 ?_
          refine lv_ior hx hb dX7_setHeldBy_29 ?_
          refine lv_istore_n (lv' := [(2, .int (v2 ||| ((1 : Int32) <<< (v3 &&& 31)))), (0, .ref (ad 2)), (1, .int v1), (3, .int v3)]) hx hb dX7_setHeldBy_30 rfl hl (by decide) rfl (fun ls hl => ?_)
          refine lv_iinc (v := (v3 + (1 : Int32))) (lv' := [(3, .int (v3 + (1 : Int32))), (2, .int (v2 ||| ((1 : Int32) <<< (v3 &&& 31)))), (0, .ref (ad 2)), (1, .int v1)]) hx hb dX7_setHeldBy_31 hl (k := 3) rfl (zc1 (by decide)) (by decide) rfl (fun ls hl => ?_)
          refine lv_goto (tgt := 4) hx hb dX7_setHeldBy_34 (by decide) ?_
          exact ih _ _ _ _ _ _ _ hf B (lv_sub hl [2, 3, 1, 0] rfl)
  unfold f_X7_setHeldBy at hf
  refine lv_iconst (v := (0 : Int32)) hx hb dX7_setHeldBy_0 (by decide) ?_
  refine lv_istore_n (lv' := [(2, .int (0 : Int32)), (0, .ref (ad 2)), (1, .int a1)]) hx hb dX7_setHeldBy_1 rfl hl (by decide) rfl (fun ls hl => ?_)
  refine lv_iconst (v := (0 : Int32)) hx hb dX7_setHeldBy_2 (by decide) ?_
  refine lv_istore_n (lv' := [(3, .int (0 : Int32)), (2, .int (0 : Int32)), (0, .ref (ad 2)), (1, .int a1)]) hx hb dX7_setHeldBy_3 rfl hl (by decide) rfl (fun ls hl => ?_)
  exact L4  _ _ _ _ _ _ _ _ hf B (lv_sub hl [2, 3, 1, 0] rfl)
theorem dX7_isEnded_0 : decode cX7_isEnded 0 = .ok (.iconst 0, 1) := by decide +kernel
theorem dX7_isEnded_1 : decode cX7_isEnded 1 = .ok (.istore_n 2, 1) := by decide +kernel
theorem dX7_isEnded_2 : decode cX7_isEnded 2 = .ok (.iload_n 2, 1) := by decide +kernel
theorem dX7_isEnded_3 : decode cX7_isEnded 3 = .ok (.aload_n 0, 1) := by decide +kernel
theorem dX7_isEnded_4 : decode cX7_isEnded 4 = .ok (.getfield 15, 3) := by decide +kernel
theorem dX7_isEnded_7 : decode cX7_isEnded 7 = .ok (.iload_n 1, 1) := by decide +kernel
theorem dX7_isEnded_8 : decode cX7_isEnded 8 = .ok (.iaload, 1) := by decide +kernel
theorem dX7_isEnded_9 : decode cX7_isEnded 9 = .ok (.if_icmp .ge 31, 3) := by decide +kernel
theorem dX7_isEnded_12 : decode cX7_isEnded 12 = .ok (.aload_n 0, 1) := by decide +kernel
theorem dX7_isEnded_13 : decode cX7_isEnded 13 = .ok (.getfield 27, 3) := by decide +kernel
theorem dX7_isEnded_16 : decode cX7_isEnded 16 = .ok (.aload_n 0, 1) := by decide +kernel
theorem dX7_isEnded_17 : decode cX7_isEnded 17 = .ok (.getfield 18, 3) := by decide +kernel
theorem dX7_isEnded_20 : decode cX7_isEnded 20 = .ok (.iload_n 1, 1) := by decide +kernel
theorem dX7_isEnded_21 : decode cX7_isEnded 21 = .ok (.bipush 7, 2) := by decide +kernel
theorem dX7_isEnded_23 : decode cX7_isEnded 23 = .ok (.imul, 1) := by decide +kernel
theorem dX7_isEnded_24 : decode cX7_isEnded 24 = .ok (.iload_n 2, 1) := by decide +kernel
theorem dX7_isEnded_25 : decode cX7_isEnded 25 = .ok (.iadd, 1) := by decide +kernel
theorem dX7_isEnded_26 : decode cX7_isEnded 26 = .ok (.iaload, 1) := by decide +kernel
theorem dX7_isEnded_27 : decode cX7_isEnded 27 = .ok (.iaload, 1) := by decide +kernel
theorem dX7_isEnded_28 : decode cX7_isEnded 28 = .ok (.iconst (-1), 1) := by decide +kernel
theorem dX7_isEnded_29 : decode cX7_isEnded 29 = .ok (.if_icmp .eq 5, 3) := by decide +kernel
theorem dX7_isEnded_32 : decode cX7_isEnded 32 = .ok (.iconst 1, 1) := by decide +kernel
theorem dX7_isEnded_33 : decode cX7_isEnded 33 = .ok (.ireturn, 1) := by decide +kernel
theorem dX7_isEnded_34 : decode cX7_isEnded 34 = .ok (.iinc 2 1, 3) := by decide +kernel
theorem dX7_isEnded_37 : decode cX7_isEnded 37 = .ok (.goto (-35), 3) := by decide +kernel
theorem dX7_isEnded_40 : decode cX7_isEnded 40 = .ok (.iconst 0, 1) := by decide +kernel
theorem dX7_isEnded_41 : decode cX7_isEnded 41 = .ok (.ireturn, 1) := by decide +kernel
def rm_X7_isEnded : Room := { frames := 1, cells := 0, slots := 0, locals := 16 }
set_option maxHeartbeats 4000000 in
set_option maxRecDepth 100000 in
theorem c_X7_isEnded (l : Launch) {nb : Nat} {G : zG} {ad : Nat → Nat} {σ σ' : zs} {a1 : Int32} {r : Int32} (hf : f_X7_isEnded σ a1 = some (r, σ')) : zMi l yX7_isEnded wsX7_isEnded rm_X7_isEnded G (zS nb) ad σ [.ref (ad 2), .int a1] r σ' := by
  intro sz
  refine Met.ofW (cc := cX7_isEnded) (maxL := 3) (ret := (some .boolean)) (by decide) rfl ?_
  intro p e s m args below meth c s₁ B hml hv
  obtain ⟨rfl, hsz, hv⟩ := hv
  have hx := B.exec
  have hb := B.bytes
  have hr := B.returns
  have hts := atoms_spec (ws := wsX7_isEnded) B.pre
  have hown : s.vm.findClass RX7 = some m.cls := findClass_of_methodNamed B.named
  have hlocks := B.notSynchronized
  subst hsz
  have B := zB_start hv
  have hinRX7 : ∀ w ∈ wsX70, w ∈ wsX7_isEnded := by decide +kernel
  have hl := lv_entry ([.ref (ad 2), .int a1]) (n := 3) (Nat.le_of_ble_eq_true rfl)
  rw [lg_entry_eq]
  generalize (lg_sl ([.ref (ad 2), .int a1]) ++ List.replicate (3 - (lg_sl ([.ref (ad 2), .int a1])).length) Slot.unset).toArray = ls at hl ⊢
  have hl : lv_has ls 3 [(0, .ref (ad 2)), (1, .int a1)] := hl
  generalize hAe : zA ad (zS nb).length s.heap.size = A at B ⊢
  have L2 : ∀ (n : Nat) (σ : zs) (v1 : Int32) (v2 : Int32) (H : Heap) (locs : List Loc) (ls : Array Slot), zlp2 (f_X7_isEnded_2) n σ v1 v2 = some (r, σ') → zB A s G (zS nb) ad σ H locs → lv_has ls 3 [(0, .ref (ad 2)), (1, .int v1), (2, .int v2)] → W p l e (headSpec wsX7_isEnded rm_X7_isEnded).room s m ([.ref (ad 2), .int a1] : List Value).toArray below meth c H locs 0 0 (MQ below (va_Qi (fun r' (_ : Unit) => r' = r) (zPost G (zS nb) ad σ') A) ([.ref (ad 2), .int a1] : List Value).toArray s 0 0 A) (F0 m 2 ls []) := by
    intro n
    induction n with
    | zero =>
      intro σ v1 v2 H locs ls hf
      cases hf
    | succ n ih =>
      intro σ v1 v2 H locs ls hf B hl
      have hf : f_X7_isEnded_2 (zlp2 (f_X7_isEnded_2) n) σ v1 v2 = some (r, σ') := hf
      unfold f_X7_isEnded_2 at hf
      refine lv_iload_n hx hb dX7_isEnded_2 rfl (lv_at hl 2 rfl) ?_
      refine lv_aload_n hx hb dX7_isEnded_3 rfl (lv_at hl 0 rfl) ?_
      refine z_getr hx hb hts hinRX7 hown B 2 2 4 rfl rfl rfl (by decide) (by decide +kernel) rfl dX7_isEnded_4 ?_
      refine lv_iload_n hx hb dX7_isEnded_7 rfl (lv_at hl 1 rfl) ?_
      obtain ⟨hg, hf⟩ := zg_some hf
      refine z_iald hx hb B 4 rfl (zin_ok hg) dX7_isEnded_8 ?_
      refine lv_icmp_ge (tgt := 40) hx hb dX7_isEnded_9 (by decide) (fun hc => ?_) (fun hc => ?_)
      · have hf := zif_t hc hf
        refine lv_iconst (v := (0 : Int32)) hx hb dX7_isEnded_40 (by decide) ?_
        refine W.widen (k := 0) (n := 0) (Nat.le_of_ble_eq_true rfl) (Nat.le_of_ble_eq_true rfl) ?_
        exact z_iret hx hb hr (by decide) hlocks B hf dX7_isEnded_41
      · have hf := zif_f hc hf
        refine lv_aload_n hx hb dX7_isEnded_12 rfl (lv_at hl 0 rfl) ?_
        refine z_getr hx hb hts hinRX7 hown B 2 6 8 rfl rfl rfl (by decide) (by decide +kernel) rfl dX7_isEnded_13 ?_
        refine lv_aload_n hx hb dX7_isEnded_16 rfl (lv_at hl 0 rfl) ?_
        refine z_getr hx hb hts hinRX7 hown B 2 3 5 rfl rfl rfl (by decide) (by decide +kernel) rfl dX7_isEnded_17 ?_
        refine lv_iload_n hx hb dX7_isEnded_20 rfl (lv_at hl 1 rfl) ?_
        refine lv_bipush (v := (7 : Int32)) hx hb dX7_isEnded_21 (by decide) ?_
        refine lv_imul hx hb dX7_isEnded_23 ?_
        refine lv_iload_n hx hb dX7_isEnded_24 rfl (lv_at hl 2 rfl) ?_
        refine lv_iadd hx hb dX7_isEnded_25 ?_
        obtain ⟨hg, hf⟩ := zg_some hf
        refine z_iald hx hb B 5 rfl (zin_ok hg) dX7_isEnded_26 ?_
        obtain ⟨hg, hf⟩ := zg_some hf
        refine z_iald hx hb B 8 rfl (zin_ok hg) dX7_isEnded_27 ?_
        refine lv_iconst (v := (-1 : Int32)) hx hb dX7_isEnded_28 (by decide) ?_
        refine lv_icmp_eq (tgt := 34) hx hb dX7_isEnded_29 (by decide) (fun hc => ?_) (fun hc => ?_)
        · have hf := zif_t hc hf
          refine lv_iinc (v := (v2 + (1 : Int32))) (lv' := [(2, .int (v2 + (1 : Int32))), (0, .ref (ad 2)), (1, .int v1)]) hx hb dX7_isEnded_34 hl (k := 2) rfl (zc1 (by decide)) (by decide) rfl (fun ls hl => ?_)
          refine lv_goto (tgt := 2) hx hb dX7_isEnded_37 (by decide) ?_
          exact ih _ _ _ _ _ _ hf B (lv_sub hl [1, 2, 0] rfl)
        · have hf := zif_f hc hf
          refine lv_iconst (v := (1 : Int32)) hx hb dX7_isEnded_32 (by decide) ?_
          refine W.widen (k := 0) (n := 0) (Nat.le_of_ble_eq_true rfl) (Nat.le_of_ble_eq_true rfl) ?_
          exact z_iret hx hb hr (by decide) hlocks B hf dX7_isEnded_33
  unfold f_X7_isEnded at hf
  refine lv_iconst (v := (0 : Int32)) hx hb dX7_isEnded_0 (by decide) ?_
  refine lv_istore_n (lv' := [(2, .int (0 : Int32)), (0, .ref (ad 2)), (1, .int a1)]) hx hb dX7_isEnded_1 rfl hl (by decide) rfl (fun ls hl => ?_)
  exact L2  _ _ _ _ _ _ _ hf B (lv_sub hl [1, 2, 0] rfl)
theorem dX8_needSubject_0 : decode cX8_needSubject 0 = .ok (.iload_n 0, 1) := by decide +kernel
theorem dX8_needSubject_1 : decode cX8_needSubject 1 = .ok (.ifCond .lt 13, 3) := by decide +kernel
theorem dX8_needSubject_4 : decode cX8_needSubject 4 = .ok (.iload_n 0, 1) := by decide +kernel
theorem dX8_needSubject_5 : decode cX8_needSubject 5 = .ok (.bipush 6, 2) := by decide +kernel
theorem dX8_needSubject_7 : decode cX8_needSubject 7 = .ok (.if_icmp .ge 7, 3) := by decide +kernel
theorem dX8_needSubject_10 : decode cX8_needSubject 10 = .ok (.iconst 1, 1) := by decide +kernel
theorem dX8_needSubject_11 : decode cX8_needSubject 11 = .ok (.goto 4, 3) := by decide +kernel
theorem dX8_needSubject_14 : decode cX8_needSubject 14 = .ok (.iconst 0, 1) := by decide +kernel
theorem dX8_needSubject_15 : decode cX8_needSubject 15 = .ok (.invokestatic 186, 3) := by decide +kernel
theorem dX8_needSubject_18 : decode cX8_needSubject 18 = .ok (.return_, 1) := by decide +kernel
set_option maxRecDepth 20000 in
theorem ggX8_needSubject_X8_needIndex : GoodIn wsX8_needSubject wsX8_needIndex := goodIn_ca (goodIn_r _ [4, 5, 6] (by decide +kernel) (by decide +kernel)) (goodIn_sub (fun _ h => List.mem_cons_of_mem _ (List.mem_append_right _ h)) (by decide +kernel))
set_option maxRecDepth 20000 in
theorem gX8_needSubject_X8_needIndex : GoodIn wsX8_needSubject (va_wsS RX8 186 yX8_needIndex wsX8_needIndex) := goodIn_app (goodIn_of _ (by decide +kernel)) ggX8_needSubject_X8_needIndex
def rm_X8_needSubject : Room := { frames := 9, cells := 1, slots := 6, locals := 220 }
set_option maxHeartbeats 4000000 in
set_option maxRecDepth 100000 in
theorem c_X8_needSubject (l : Launch) (hfl : l.stackTraces = false) {nb : Nat} {G : zG} {ad : Nat → Nat} {σ σ' : zs} {a0 : Int32} {ex : Nat} {r : Int32} (hf : f_X8_needSubject σ a0 = some (ex, r, σ')) : zXv l yX8_needSubject wsX8_needSubject rm_X8_needSubject G (zS nb) ad σ [.int a0] ex σ' := by
  intro sz
  refine vx_ofW (cc := cX8_needSubject) (maxL := 1) (ret := none) (by decide) rfl ?_
  intro p e s m args below meth c s₁ B hml hno hv
  obtain ⟨rfl, hsz, hv⟩ := hv
  have hx := B.exec
  have hb := B.bytes
  have hr := B.returns
  have hts := atoms_spec (ws := wsX8_needSubject) B.pre
  have hown : s.vm.findClass RX8 = some m.cls := findClass_of_methodNamed B.named
  have hlocks := B.notSynchronized
  subst hsz
  have B := zB_start hv
  have hl := lv_entry ([.int a0]) (n := 1) (Nat.le_of_ble_eq_true rfl)
  rw [lg_entry_eq]
  generalize (lg_sl ([.int a0]) ++ List.replicate (1 - (lg_sl ([.int a0])).length) Slot.unset).toArray = ls at hl ⊢
  have hl : lv_has ls 1 [(0, .int a0)] := hl
  generalize hAe : zA ad (zS nb).length s.heap.size = A at B ⊢
  have L15 : ∀ (σ : zs) (s0 : Int32) (H : Heap) (locs : List Loc) (ls : Array Slot), f_X8_needSubject_15 σ s0 = some (ex, r, σ') → zB A s G (zS nb) ad σ H locs → lv_has ls 1 [] → W p l e (headSpec wsX8_needSubject rm_X8_needSubject).room s m ([.int a0] : List Value).toArray below meth c H locs 0 0 (vx_MQ below (va_Qv (fun (_ : Unit) => ex = 0) (zPost G (zS nb) ad σ') A) (zXC G (zS nb) ad ex σ' A) ([.int a0] : List Value).toArray s 1 6 A) (F0 m 15 ls [.int s0]) := by
    intro σ s0 H locs ls hf B hl
    unfold f_X8_needSubject_15 at hf
    obtain ⟨u1, r2, σ3, hu1, hf⟩ := zx_some hf
    refine z_xv B (vx_runS (As := [.int s0]) (rest := []) ⟨hx, hb, hml, hown, hts⟩ (c_X8_needIndex l hfl hu1 _) (va_cwS 1 hts gX8_needSubject_X8_needIndex rfl rfl rfl (by decide +kernel) ⟨Nat.le_of_ble_eq_true rfl, Nat.le_of_ble_eq_true rfl⟩) (z_preS B) rfl rfl hl.1 rfl (lv_room (Nat.le_of_ble_eq_true rfl)) dX8_needSubject_15 ⟨Nat.le_of_ble_eq_true rfl, Nat.le_of_ble_eq_true rfl⟩) (fun H locs ce q9 h0 B k1 k2 k3 => ?_) (fun H locs h0 B => ?_)
    · exact z_xout hno hlocks (zx_no hf h0) h0 B k1 k2 k3 (Nat.le_of_ble_eq_true rfl) (Nat.le_of_ble_eq_true rfl)
    have hf := zx_ok hf h0
    refine W.widen (k := 1) (n := 6) (Nat.le_of_ble_eq_true rfl) (Nat.le_of_ble_eq_true rfl) ?_
    exact z_xvret hx hb hr hlocks B hf dX8_needSubject_18
  unfold f_X8_needSubject at hf
  refine lv_iload_n hx hb dX8_needSubject_0 rfl (lv_at hl 0 rfl) ?_
  refine lv_if_lt (tgt := 14) hx hb dX8_needSubject_1 (by decide) (fun hc => ?_) (fun hc => ?_)
  · have hf := zif_t hc hf
    refine lv_iconst (v := (0 : Int32)) hx hb dX8_needSubject_14 (by decide) ?_
    exact L15  _ _ _ _ _ hf B (lv_sub hl [] rfl)
  · have hf := zif_f hc hf
    refine lv_iload_n hx hb dX8_needSubject_4 rfl (lv_at hl 0 rfl) ?_
    refine lv_bipush (v := (6 : Int32)) hx hb dX8_needSubject_5 (by decide) ?_
    refine lv_icmp_ge (tgt := 14) hx hb dX8_needSubject_7 (by decide) (fun hc => ?_) (fun hc => ?_)
    · have hf := zif_t hc hf
      refine lv_iconst (v := (0 : Int32)) hx hb dX8_needSubject_14 (by decide) ?_
      exact L15  _ _ _ _ _ hf B (lv_sub hl [] rfl)
    · have hf := zif_f hc hf
      refine lv_iconst (v := (1 : Int32)) hx hb dX8_needSubject_10 (by decide) ?_
      refine lv_goto (tgt := 15) hx hb dX8_needSubject_11 (by decide) ?_
      exact L15  _ _ _ _ _ hf B (lv_sub hl [] rfl)
theorem dX8_needObject_0 : decode cX8_needObject 0 = .ok (.iload_n 0, 1) := by decide +kernel
theorem dX8_needObject_1 : decode cX8_needObject 1 = .ok (.ifCond .lt 13, 3) := by decide +kernel
theorem dX8_needObject_4 : decode cX8_needObject 4 = .ok (.iload_n 0, 1) := by decide +kernel
theorem dX8_needObject_5 : decode cX8_needObject 5 = .ok (.bipush 12, 2) := by decide +kernel
theorem dX8_needObject_7 : decode cX8_needObject 7 = .ok (.if_icmp .ge 7, 3) := by decide +kernel
theorem dX8_needObject_10 : decode cX8_needObject 10 = .ok (.iconst 1, 1) := by decide +kernel
theorem dX8_needObject_11 : decode cX8_needObject 11 = .ok (.goto 4, 3) := by decide +kernel
theorem dX8_needObject_14 : decode cX8_needObject 14 = .ok (.iconst 0, 1) := by decide +kernel
theorem dX8_needObject_15 : decode cX8_needObject 15 = .ok (.invokestatic 186, 3) := by decide +kernel
theorem dX8_needObject_18 : decode cX8_needObject 18 = .ok (.return_, 1) := by decide +kernel
set_option maxRecDepth 20000 in
theorem ggX8_needObject_X8_needIndex : GoodIn wsX8_needObject wsX8_needIndex := goodIn_ca (goodIn_r _ [4, 5, 6] (by decide +kernel) (by decide +kernel)) (goodIn_sub (fun _ h => List.mem_cons_of_mem _ (List.mem_append_right _ h)) (by decide +kernel))
set_option maxRecDepth 20000 in
theorem gX8_needObject_X8_needIndex : GoodIn wsX8_needObject (va_wsS RX8 186 yX8_needIndex wsX8_needIndex) := goodIn_app (goodIn_of _ (by decide +kernel)) ggX8_needObject_X8_needIndex
def rm_X8_needObject : Room := { frames := 9, cells := 1, slots := 6, locals := 220 }
set_option maxHeartbeats 4000000 in
set_option maxRecDepth 100000 in
theorem c_X8_needObject (l : Launch) (hfl : l.stackTraces = false) {nb : Nat} {G : zG} {ad : Nat → Nat} {σ σ' : zs} {a0 : Int32} {ex : Nat} {r : Int32} (hf : f_X8_needObject σ a0 = some (ex, r, σ')) : zXv l yX8_needObject wsX8_needObject rm_X8_needObject G (zS nb) ad σ [.int a0] ex σ' := by
  intro sz
  refine vx_ofW (cc := cX8_needObject) (maxL := 1) (ret := none) (by decide) rfl ?_
  intro p e s m args below meth c s₁ B hml hno hv
  obtain ⟨rfl, hsz, hv⟩ := hv
  have hx := B.exec
  have hb := B.bytes
  have hr := B.returns
  have hts := atoms_spec (ws := wsX8_needObject) B.pre
  have hown : s.vm.findClass RX8 = some m.cls := findClass_of_methodNamed B.named
  have hlocks := B.notSynchronized
  subst hsz
  have B := zB_start hv
  have hl := lv_entry ([.int a0]) (n := 1) (Nat.le_of_ble_eq_true rfl)
  rw [lg_entry_eq]
  generalize (lg_sl ([.int a0]) ++ List.replicate (1 - (lg_sl ([.int a0])).length) Slot.unset).toArray = ls at hl ⊢
  have hl : lv_has ls 1 [(0, .int a0)] := hl
  generalize hAe : zA ad (zS nb).length s.heap.size = A at B ⊢
  have L15 : ∀ (σ : zs) (s0 : Int32) (H : Heap) (locs : List Loc) (ls : Array Slot), f_X8_needObject_15 σ s0 = some (ex, r, σ') → zB A s G (zS nb) ad σ H locs → lv_has ls 1 [] → W p l e (headSpec wsX8_needObject rm_X8_needObject).room s m ([.int a0] : List Value).toArray below meth c H locs 0 0 (vx_MQ below (va_Qv (fun (_ : Unit) => ex = 0) (zPost G (zS nb) ad σ') A) (zXC G (zS nb) ad ex σ' A) ([.int a0] : List Value).toArray s 1 6 A) (F0 m 15 ls [.int s0]) := by
    intro σ s0 H locs ls hf B hl
    unfold f_X8_needObject_15 at hf
    obtain ⟨u1, r2, σ3, hu1, hf⟩ := zx_some hf
    refine z_xv B (vx_runS (As := [.int s0]) (rest := []) ⟨hx, hb, hml, hown, hts⟩ (c_X8_needIndex l hfl hu1 _) (va_cwS 1 hts gX8_needObject_X8_needIndex rfl rfl rfl (by decide +kernel) ⟨Nat.le_of_ble_eq_true rfl, Nat.le_of_ble_eq_true rfl⟩) (z_preS B) rfl rfl hl.1 rfl (lv_room (Nat.le_of_ble_eq_true rfl)) dX8_needObject_15 ⟨Nat.le_of_ble_eq_true rfl, Nat.le_of_ble_eq_true rfl⟩) (fun H locs ce q9 h0 B k1 k2 k3 => ?_) (fun H locs h0 B => ?_)
    · exact z_xout hno hlocks (zx_no hf h0) h0 B k1 k2 k3 (Nat.le_of_ble_eq_true rfl) (Nat.le_of_ble_eq_true rfl)
    have hf := zx_ok hf h0
    refine W.widen (k := 1) (n := 6) (Nat.le_of_ble_eq_true rfl) (Nat.le_of_ble_eq_true rfl) ?_
    exact z_xvret hx hb hr hlocks B hf dX8_needObject_18
  unfold f_X8_needObject at hf
  refine lv_iload_n hx hb dX8_needObject_0 rfl (lv_at hl 0 rfl) ?_
  refine lv_if_lt (tgt := 14) hx hb dX8_needObject_1 (by decide) (fun hc => ?_) (fun hc => ?_)
  · have hf := zif_t hc hf
    refine lv_iconst (v := (0 : Int32)) hx hb dX8_needObject_14 (by decide) ?_
    exact L15  _ _ _ _ _ hf B (lv_sub hl [] rfl)
  · have hf := zif_f hc hf
    refine lv_iload_n hx hb dX8_needObject_4 rfl (lv_at hl 0 rfl) ?_
    refine lv_bipush (v := (12 : Int32)) hx hb dX8_needObject_5 (by decide) ?_
    refine lv_icmp_ge (tgt := 14) hx hb dX8_needObject_7 (by decide) (fun hc => ?_) (fun hc => ?_)
    · have hf := zif_t hc hf
      refine lv_iconst (v := (0 : Int32)) hx hb dX8_needObject_14 (by decide) ?_
      exact L15  _ _ _ _ _ hf B (lv_sub hl [] rfl)
    · have hf := zif_f hc hf
      refine lv_iconst (v := (1 : Int32)) hx hb dX8_needObject_10 (by decide) ?_
      refine lv_goto (tgt := 15) hx hb dX8_needObject_11 (by decide) ?_
      exact L15  _ _ _ _ _ hf B (lv_sub hl [] rfl)
theorem dX8_mint_0 : decode cX8_mint 0 = .ok (.iload_n 1, 1) := by decide +kernel
theorem dX8_mint_1 : decode cX8_mint 1 = .ok (.invokestatic 55, 3) := by decide +kernel
theorem dX8_mint_4 : decode cX8_mint 4 = .ok (.iload_n 2, 1) := by decide +kernel
theorem dX8_mint_5 : decode cX8_mint 5 = .ok (.invokestatic 59, 3) := by decide +kernel
theorem dX8_mint_8 : decode cX8_mint 8 = .ok (.iload_n 3, 1) := by decide +kernel
theorem dX8_mint_9 : decode cX8_mint 9 = .ok (.ifCond .lt 13, 3) := by decide +kernel
theorem dX8_mint_12 : decode cX8_mint 12 = .ok (.iload_n 3, 1) := by decide +kernel
theorem dX8_mint_13 : decode cX8_mint 13 = .ok (.bipush 15, 2) := by decide +kernel
theorem dX8_mint_15 : decode cX8_mint 15 = .ok (.if_icmp .gt 7, 3) := by decide +kernel
theorem dX8_mint_18 : decode cX8_mint 18 = .ok (.iconst 1, 1) := by decide +kernel
theorem dX8_mint_19 : decode cX8_mint 19 = .ok (.goto 4, 3) := by decide +kernel
theorem dX8_mint_22 : decode cX8_mint 22 = .ok (.iconst 0, 1) := by decide +kernel
theorem dX8_mint_23 : decode cX8_mint 23 = .ok (.invokestatic 62, 3) := by decide +kernel
theorem dX8_mint_26 : decode cX8_mint 26 = .ok (.aload_n 0, 1) := by decide +kernel
theorem dX8_mint_27 : decode cX8_mint 27 = .ok (.getfield 12, 3) := by decide +kernel
theorem dX8_mint_30 : decode cX8_mint 30 = .ok (.getfield 66, 3) := by decide +kernel
theorem dX8_mint_33 : decode cX8_mint 33 = .ok (.getfield 70, 3) := by decide +kernel
theorem dX8_mint_36 : decode cX8_mint 36 = .ok (.bipush 28, 2) := by decide +kernel
theorem dX8_mint_38 : decode cX8_mint 38 = .ok (.if_icmp .ge 7, 3) := by decide +kernel
theorem dX8_mint_41 : decode cX8_mint 41 = .ok (.iconst 1, 1) := by decide +kernel
theorem dX8_mint_42 : decode cX8_mint 42 = .ok (.goto 4, 3) := by decide +kernel
theorem dX8_mint_45 : decode cX8_mint 45 = .ok (.iconst 0, 1) := by decide +kernel
theorem dX8_mint_46 : decode cX8_mint 46 = .ok (.invokestatic 76, 3) := by decide +kernel
theorem dX8_mint_49 : decode cX8_mint 49 = .ok (.aload_n 0, 1) := by decide +kernel
theorem dX8_mint_50 : decode cX8_mint 50 = .ok (.getfield 12, 3) := by decide +kernel
theorem dX8_mint_53 : decode cX8_mint 53 = .ok (.getfield 66, 3) := by decide +kernel
theorem dX8_mint_56 : decode cX8_mint 56 = .ok (.iload_n 1, 1) := by decide +kernel
theorem dX8_mint_57 : decode cX8_mint 57 = .ok (.iload_n 2, 1) := by decide +kernel
theorem dX8_mint_58 : decode cX8_mint 58 = .ok (.invokevirtual 79, 3) := by decide +kernel
theorem dX8_mint_61 : decode cX8_mint 61 = .ok (.istore 4, 2) := by decide +kernel
theorem dX8_mint_63 : decode cX8_mint 63 = .ok (.aload_n 0, 1) := by decide +kernel
theorem dX8_mint_64 : decode cX8_mint 64 = .ok (.getfield 12, 3) := by decide +kernel
theorem dX8_mint_67 : decode cX8_mint 67 = .ok (.getfield 66, 3) := by decide +kernel
theorem dX8_mint_70 : decode cX8_mint 70 = .ok (.iload 4, 2) := by decide +kernel
theorem dX8_mint_72 : decode cX8_mint 72 = .ok (.iconst 0, 1) := by decide +kernel
theorem dX8_mint_73 : decode cX8_mint 73 = .ok (.iload_n 3, 1) := by decide +kernel
theorem dX8_mint_74 : decode cX8_mint 74 = .ok (.iconst (-1), 1) := by decide +kernel
theorem dX8_mint_75 : decode cX8_mint 75 = .ok (.invokevirtual 83, 3) := by decide +kernel
theorem dX8_mint_78 : decode cX8_mint 78 = .ok (.iload 4, 2) := by decide +kernel
theorem dX8_mint_80 : decode cX8_mint 80 = .ok (.ireturn, 1) := by decide +kernel
set_option maxRecDepth 20000 in
theorem ggX8_mint_X8_needSubject : GoodIn wsX8_mint wsX8_needSubject := goodIn_ca (goodIn_r _ [7, 8, 9, 6, 10, 11, 12] (by decide +kernel) (by decide +kernel)) (goodIn_sub (fun _ h => List.mem_cons_of_mem _ (List.mem_append_left _ (List.mem_append_left _ (List.mem_append_left _ (List.mem_append_right _ h))))) (by decide +kernel))
set_option maxRecDepth 20000 in
theorem gX8_mint_X8_needSubject : GoodIn wsX8_mint (va_wsS RX8 55 yX8_needSubject wsX8_needSubject) := goodIn_app (goodIn_of _ (by decide +kernel)) ggX8_mint_X8_needSubject
set_option maxRecDepth 20000 in
theorem ggX8_mint_X8_needObject : GoodIn wsX8_mint wsX8_needObject := goodIn_ca (goodIn_r _ [15, 8, 9, 6, 10, 11, 12] (by decide +kernel) (by decide +kernel)) (goodIn_sub (fun _ h => List.mem_cons_of_mem _ (List.mem_append_left _ (List.mem_append_left _ (List.mem_append_left _ (List.mem_append_right _ h))))) (by decide +kernel))
set_option maxRecDepth 20000 in
theorem gX8_mint_X8_needObject : GoodIn wsX8_mint (va_wsS RX8 59 yX8_needObject wsX8_needObject) := goodIn_app (goodIn_of _ (by decide +kernel)) ggX8_mint_X8_needObject
set_option maxRecDepth 20000 in
theorem ggX8_mint_X8_needArgument : GoodIn wsX8_mint wsX8_needArgument := goodIn_ca (goodIn_r _ [18, 19, 20] (by decide +kernel) (by decide +kernel)) (goodIn_sub (fun _ h => List.mem_cons_of_mem _ (List.mem_append_left _ (List.mem_append_left _ (List.mem_append_right _ h)))) (by decide +kernel))
set_option maxRecDepth 20000 in
theorem gX8_mint_X8_needArgument : GoodIn wsX8_mint (va_wsS RX8 62 yX8_needArgument wsX8_needArgument) := goodIn_app (goodIn_of _ (by decide +kernel)) ggX8_mint_X8_needArgument
set_option maxRecDepth 20000 in
theorem ggX8_mint_X8_needState : GoodIn wsX8_mint wsX8_needState := goodIn_ca (goodIn_r _ [23, 24, 25] (by decide +kernel) (by decide +kernel)) (goodIn_sub (fun _ h => List.mem_cons_of_mem _ (List.mem_append_left _ (List.mem_append_right _ h))) (by decide +kernel))
set_option maxRecDepth 20000 in
theorem gX8_mint_X8_needState : GoodIn wsX8_mint (va_wsS RX8 76 yX8_needState wsX8_needState) := goodIn_app (goodIn_of _ (by decide +kernel)) ggX8_mint_X8_needState
set_option maxRecDepth 20000 in
theorem ggX8_mint_X7_makeRoot : GoodIn wsX8_mint wsX7_makeRoot := goodIn_ca (goodIn_r _ [30, 31, 32, 33, 34, 35, 36, 37, 29, 38, 39, 40, 41, 42, 66, 67, 68, 69, 70, 71, 72, 73, 74, 75, 76, 77] (by decide +kernel) (by decide +kernel)) (goodIn_sub (fun _ h => List.mem_cons_of_mem _ (List.mem_append_right _ h)) (by decide +kernel))
set_option maxRecDepth 20000 in
theorem gX8_mint_X7_makeRoot : GoodIn wsX8_mint (wsV RX8 79 RX7 yX7_makeRoot wsX7_makeRoot) := goodIn_app (goodIn_of _ (by decide +kernel)) ggX8_mint_X7_makeRoot
set_option maxRecDepth 20000 in
theorem ggX8_mint_X7_addCaveat : GoodIn wsX8_mint wsX7_addCaveat := goodIn_ca (goodIn_r _ [46, 42, 47, 48, 49, 66, 67, 68, 69, 70, 71, 72, 73, 74, 75, 76, 77] (by decide +kernel) (by decide +kernel)) (goodIn_sub (fun _ h => List.mem_cons_of_mem _ (List.mem_append_right _ h)) (by decide +kernel))
set_option maxRecDepth 20000 in
theorem gX8_mint_X7_addCaveat : GoodIn wsX8_mint (wsV RX8 83 RX7 yX7_addCaveat wsX7_addCaveat) := goodIn_app (goodIn_of _ (by decide +kernel)) ggX8_mint_X7_addCaveat
def rm_X8_mint : Room := { frames := 10, cells := 4, slots := 24, locals := 240 }
set_option maxHeartbeats 4000000 in
set_option maxRecDepth 100000 in
theorem c_X8_mint (l : Launch) (hfl : l.stackTraces = false) {nb : Nat} {G : zG} {ad : Nat → Nat} {σ σ' : zs} {a1 a2 a3 : Int32} {ex : Nat} {r : Int32} (hf : f_X8_mint σ a1 a2 a3 = some (ex, r, σ')) : zXi l yX8_mint wsX8_mint rm_X8_mint G (zS nb) ad σ [.ref (ad 0), .int a1, .int a2, .int a3] ex r σ' := by
  intro sz
  refine vx_ofW (cc := cX8_mint) (maxL := 5) (ret := (some .int)) (by decide) rfl ?_
  intro p e s m args below meth c s₁ B hml hno hv
  obtain ⟨rfl, hsz, hv⟩ := hv
  have hx := B.exec
  have hb := B.bytes
  have hr := B.returns
  have hts := atoms_spec (ws := wsX8_mint) B.pre
  have hown : s.vm.findClass RX8 = some m.cls := findClass_of_methodNamed B.named
  have hlocks := B.notSynchronized
  subst hsz
  have B := zB_start hv
  have hinRX6 : ∀ w ∈ wsX60, w ∈ wsX8_mint := by decide +kernel
  have hinRX7 : ∀ w ∈ wsX70, w ∈ wsX8_mint := by decide +kernel
  have hinRX8 : ∀ w ∈ wsX80, w ∈ wsX8_mint := by decide +kernel
  have hl := lv_entry ([.ref (ad 0), .int a1, .int a2, .int a3]) (n := 5) (Nat.le_of_ble_eq_true rfl)
  rw [lg_entry_eq]
  generalize (lg_sl ([.ref (ad 0), .int a1, .int a2, .int a3]) ++ List.replicate (5 - (lg_sl ([.ref (ad 0), .int a1, .int a2, .int a3])).length) Slot.unset).toArray = ls at hl ⊢
  have hl : lv_has ls 5 [(0, .ref (ad 0)), (1, .int a1), (2, .int a2), (3, .int a3)] := hl
  generalize hAe : zA ad (zS nb).length s.heap.size = A at B ⊢
  have L46 : ∀ (σ : zs) (v1 : Int32) (v2 : Int32) (v3 : Int32) (s0 : Int32) (H : Heap) (locs : List Loc) (ls : Array Slot), f_X8_mint_46 σ v1 v2 v3 s0 = some (ex, r, σ') → zB A s G (zS nb) ad σ H locs → lv_has ls 5 [(0, .ref (ad 0)), (1, .int v1), (2, .int v2), (3, .int v3)] → W p l e (headSpec wsX8_mint rm_X8_mint).room s m ([.ref (ad 0), .int a1, .int a2, .int a3] : List Value).toArray below meth c H locs 3 18 (vx_MQ below (va_Qi (fun r' (_ : Unit) => ex = 0 ∧ r' = r) (zPost G (zS nb) ad σ') A) (zXC G (zS nb) ad ex σ' A) ([.ref (ad 0), .int a1, .int a2, .int a3] : List Value).toArray s 4 24 A) (F0 m 46 ls [.int s0]) := by
    intro σ v1 v2 v3 s0 H locs ls hf B hl
    unfold f_X8_mint_46 at hf
    obtain ⟨u10, r11, σ12, hu10, hf⟩ := zx_some hf
    refine z_xv B (vx_runS (As := [.int s0]) (rest := []) ⟨hx, hb, hml, hown, hts⟩ (c_X8_needState l hfl hu10 _) (va_cwS 1 hts gX8_mint_X8_needState rfl rfl rfl (by decide +kernel) ⟨Nat.le_of_ble_eq_true rfl, Nat.le_of_ble_eq_true rfl⟩) (z_preS B) rfl rfl hl.1 rfl (lv_room (Nat.le_of_ble_eq_true rfl)) dX8_mint_46 ⟨Nat.le_of_ble_eq_true rfl, Nat.le_of_ble_eq_true rfl⟩) (fun H locs ce q9 h0 B k1 k2 k3 => ?_) (fun H locs h0 B => ?_)
    · exact z_xout hno hlocks (zx_no hf h0) h0 B k1 k2 k3 (Nat.le_of_ble_eq_true rfl) (Nat.le_of_ble_eq_true rfl)
    have hf := zx_ok hf h0
    refine lv_aload_n hx hb dX8_mint_49 rfl (lv_at hl 0 rfl) ?_
    refine z_getr hx hb hts hinRX8 hown B 0 0 1 rfl rfl rfl (by decide) (by decide +kernel) rfl dX8_mint_50 ?_
    refine z_getr hx hb hts hinRX6 hown B 1 0 2 rfl rfl rfl (by decide) (by decide +kernel) rfl dX8_mint_53 ?_
    refine lv_iload_n hx hb dX8_mint_56 rfl (lv_at hl 1 rfl) ?_
    refine lv_iload_n hx hb dX8_mint_57 rfl (lv_at hl 2 rfl) ?_
    obtain ⟨r14, σ15, hu13, hf⟩ := zb_some hf
    refine z_i B (va_runV (As := [.int v1, .int v2]) (rest := []) ⟨hx, hb, hml, hown, hts⟩ (c_X7_makeRoot l hu13 _) (cwV 2 hts gX8_mint_X7_makeRoot rfl rfl rfl (by decide +kernel) ⟨Nat.le_of_ble_eq_true rfl, Nat.le_of_ble_eq_true rfl⟩) (z_preV B rfl rfl) rfl rfl hl.1 rfl (lv_room (Nat.le_of_ble_eq_true rfl)) dX8_mint_58 ⟨Nat.le_of_ble_eq_true rfl, Nat.le_of_ble_eq_true rfl⟩) (fun H locs B => ?_)
    refine lv_istore (lv' := [(4, .int r14), (0, .ref (ad 0)), (1, .int v1), (2, .int v2), (3, .int v3)]) hx hb dX8_mint_61 hl (by decide) rfl (fun ls hl => ?_)
    refine lv_aload_n hx hb dX8_mint_63 rfl (lv_at hl 1 rfl) ?_
    refine z_getr hx hb hts hinRX8 hown B 0 0 1 rfl rfl rfl (by decide) (by decide +kernel) rfl dX8_mint_64 ?_
    refine z_getr hx hb hts hinRX6 hown B 1 0 2 rfl rfl rfl (by decide) (by decide +kernel) rfl dX8_mint_67 ?_
    refine lv_iload hx hb dX8_mint_70 (lv_at hl 0 rfl) ?_
    refine lv_iconst (v := (0 : Int32)) hx hb dX8_mint_72 (by decide) ?_
    refine lv_iload_n hx hb dX8_mint_73 rfl (lv_at hl 4 rfl) ?_
    refine lv_iconst (v := (-1 : Int32)) hx hb dX8_mint_74 (by decide) ?_
    obtain ⟨r17, σ18, hu16, hf⟩ := zb_some hf
    refine z_v B (va_runV (As := [.int r14, .int (0 : Int32), .int v3, .int (-1 : Int32)]) (rest := []) ⟨hx, hb, hml, hown, hts⟩ (c_X7_addCaveat l hu16 _) (cwV 4 hts gX8_mint_X7_addCaveat rfl rfl rfl (by decide +kernel) ⟨Nat.le_of_ble_eq_true rfl, Nat.le_of_ble_eq_true rfl⟩) (z_preV B rfl rfl) rfl rfl hl.1 rfl (lv_room (Nat.le_of_ble_eq_true rfl)) dX8_mint_75 ⟨Nat.le_of_ble_eq_true rfl, Nat.le_of_ble_eq_true rfl⟩) (fun H locs B => ?_)
    refine lv_iload hx hb dX8_mint_78 (lv_at hl 0 rfl) ?_
    refine W.widen (k := 4) (n := 24) (Nat.le_of_ble_eq_true rfl) (Nat.le_of_ble_eq_true rfl) ?_
    exact z_xiret hx hb hr rfl hlocks B hf dX8_mint_80
  have L23 : ∀ (σ : zs) (v1 : Int32) (v2 : Int32) (v3 : Int32) (s0 : Int32) (H : Heap) (locs : List Loc) (ls : Array Slot), f_X8_mint_23 σ v1 v2 v3 s0 = some (ex, r, σ') → zB A s G (zS nb) ad σ H locs → lv_has ls 5 [(0, .ref (ad 0)), (1, .int v1), (2, .int v2), (3, .int v3)] → W p l e (headSpec wsX8_mint rm_X8_mint).room s m ([.ref (ad 0), .int a1, .int a2, .int a3] : List Value).toArray below meth c H locs 2 12 (vx_MQ below (va_Qi (fun r' (_ : Unit) => ex = 0 ∧ r' = r) (zPost G (zS nb) ad σ') A) (zXC G (zS nb) ad ex σ' A) ([.ref (ad 0), .int a1, .int a2, .int a3] : List Value).toArray s 4 24 A) (F0 m 23 ls [.int s0]) := by
    intro σ v1 v2 v3 s0 H locs ls hf B hl
    unfold f_X8_mint_23 at hf
    obtain ⟨u7, r8, σ9, hu7, hf⟩ := zx_some hf
    refine z_xv B (vx_runS (As := [.int s0]) (rest := []) ⟨hx, hb, hml, hown, hts⟩ (c_X8_needArgument l hfl hu7 _) (va_cwS 1 hts gX8_mint_X8_needArgument rfl rfl rfl (by decide +kernel) ⟨Nat.le_of_ble_eq_true rfl, Nat.le_of_ble_eq_true rfl⟩) (z_preS B) rfl rfl hl.1 rfl (lv_room (Nat.le_of_ble_eq_true rfl)) dX8_mint_23 ⟨Nat.le_of_ble_eq_true rfl, Nat.le_of_ble_eq_true rfl⟩) (fun H locs ce q9 h0 B k1 k2 k3 => ?_) (fun H locs h0 B => ?_)
    · exact z_xout hno hlocks (zx_no hf h0) h0 B k1 k2 k3 (Nat.le_of_ble_eq_true rfl) (Nat.le_of_ble_eq_true rfl)
    have hf := zx_ok hf h0
    refine lv_aload_n hx hb dX8_mint_26 rfl (lv_at hl 0 rfl) ?_
    refine z_getr hx hb hts hinRX8 hown B 0 0 1 rfl rfl rfl (by decide) (by decide +kernel) rfl dX8_mint_27 ?_
    refine z_getr hx hb hts hinRX6 hown B 1 0 2 rfl rfl rfl (by decide) (by decide +kernel) rfl dX8_mint_30 ?_
    refine z_geti hx hb hts hinRX7 hown B 2 0 rfl rfl rfl (by decide) (by decide +kernel) rfl dX8_mint_33 ?_
    refine lv_bipush (v := (28 : Int32)) hx hb dX8_mint_36 (by decide) ?_
    refine lv_icmp_ge (tgt := 45) hx hb dX8_mint_38 (by decide) (fun hc => ?_) (fun hc => ?_)
    · have hf := zif_t hc hf
      refine lv_iconst (v := (0 : Int32)) hx hb dX8_mint_45 (by decide) ?_
      exact L46  _ _ _ _ _ _ _ _ hf B (lv_sub hl [0, 1, 2, 3] rfl)
    · have hf := zif_f hc hf
      refine lv_iconst (v := (1 : Int32)) hx hb dX8_mint_41 (by decide) ?_
      refine lv_goto (tgt := 46) hx hb dX8_mint_42 (by decide) ?_
      exact L46  _ _ _ _ _ _ _ _ hf B (lv_sub hl [0, 1, 2, 3] rfl)
  unfold f_X8_mint at hf
  refine lv_iload_n hx hb dX8_mint_0 rfl (lv_at hl 1 rfl) ?_
  obtain ⟨u1, r2, σ3, hu1, hf⟩ := zx_some hf
  refine z_xv B (vx_runS (As := [.int a1]) (rest := []) ⟨hx, hb, hml, hown, hts⟩ (c_X8_needSubject l hfl hu1 _) (va_cwS 1 hts gX8_mint_X8_needSubject rfl rfl rfl (by decide +kernel) ⟨Nat.le_of_ble_eq_true rfl, Nat.le_of_ble_eq_true rfl⟩) (z_preS B) rfl rfl hl.1 rfl (lv_room (Nat.le_of_ble_eq_true rfl)) dX8_mint_1 ⟨Nat.le_of_ble_eq_true rfl, Nat.le_of_ble_eq_true rfl⟩) (fun H locs ce q9 h0 B k1 k2 k3 => ?_) (fun H locs h0 B => ?_)
  · exact z_xout hno hlocks (zx_no hf h0) h0 B k1 k2 k3 (Nat.le_of_ble_eq_true rfl) (Nat.le_of_ble_eq_true rfl)
  have hf := zx_ok hf h0
  refine lv_iload_n hx hb dX8_mint_4 rfl (lv_at hl 2 rfl) ?_
  obtain ⟨u4, r5, σ6, hu4, hf⟩ := zx_some hf
  refine z_xv B (vx_runS (As := [.int a2]) (rest := []) ⟨hx, hb, hml, hown, hts⟩ (c_X8_needObject l hfl hu4 _) (va_cwS 1 hts gX8_mint_X8_needObject rfl rfl rfl (by decide +kernel) ⟨Nat.le_of_ble_eq_true rfl, Nat.le_of_ble_eq_true rfl⟩) (z_preS B) rfl rfl hl.1 rfl (lv_room (Nat.le_of_ble_eq_true rfl)) dX8_mint_5 ⟨Nat.le_of_ble_eq_true rfl, Nat.le_of_ble_eq_true rfl⟩) (fun H locs ce q9 h0 B k1 k2 k3 => ?_) (fun H locs h0 B => ?_)
  · exact z_xout hno hlocks (zx_no hf h0) h0 B k1 k2 k3 (Nat.le_of_ble_eq_true rfl) (Nat.le_of_ble_eq_true rfl)
  have hf := zx_ok hf h0
  refine lv_iload_n hx hb dX8_mint_8 rfl (lv_at hl 3 rfl) ?_
  refine lv_if_lt (tgt := 22) hx hb dX8_mint_9 (by decide) (fun hc => ?_) (fun hc => ?_)
  · have hf := zif_t hc hf
    refine lv_iconst (v := (0 : Int32)) hx hb dX8_mint_22 (by decide) ?_
    exact L23  _ _ _ _ _ _ _ _ hf B (lv_sub hl [0, 1, 2, 3] rfl)
  · have hf := zif_f hc hf
    refine lv_iload_n hx hb dX8_mint_12 rfl (lv_at hl 3 rfl) ?_
    refine lv_bipush (v := (15 : Int32)) hx hb dX8_mint_13 (by decide) ?_
    refine lv_icmp_gt (tgt := 22) hx hb dX8_mint_15 (by decide) (fun hc => ?_) (fun hc => ?_)
    · have hf := zif_t hc hf
      refine lv_iconst (v := (0 : Int32)) hx hb dX8_mint_22 (by decide) ?_
      exact L23  _ _ _ _ _ _ _ _ hf B (lv_sub hl [0, 1, 2, 3] rfl)
    · have hf := zif_f hc hf
      refine lv_iconst (v := (1 : Int32)) hx hb dX8_mint_18 (by decide) ?_
      refine lv_goto (tgt := 23) hx hb dX8_mint_19 (by decide) ?_
      exact L23  _ _ _ _ _ _ _ _ hf B (lv_sub hl [0, 1, 2, 3] rfl)
theorem dX8_needToken_0 : decode cX8_needToken 0 = .ok (.iload_n 1, 1) := by decide +kernel
theorem dX8_needToken_1 : decode cX8_needToken 1 = .ok (.ifCond .lt 21, 3) := by decide +kernel
theorem dX8_needToken_4 : decode cX8_needToken 4 = .ok (.iload_n 1, 1) := by decide +kernel
theorem dX8_needToken_5 : decode cX8_needToken 5 = .ok (.aload_n 0, 1) := by decide +kernel
theorem dX8_needToken_6 : decode cX8_needToken 6 = .ok (.getfield 12, 3) := by decide +kernel
theorem dX8_needToken_9 : decode cX8_needToken 9 = .ok (.getfield 66, 3) := by decide +kernel
theorem dX8_needToken_12 : decode cX8_needToken 12 = .ok (.getfield 70, 3) := by decide +kernel
theorem dX8_needToken_15 : decode cX8_needToken 15 = .ok (.if_icmp .ge 7, 3) := by decide +kernel
theorem dX8_needToken_18 : decode cX8_needToken 18 = .ok (.iconst 1, 1) := by decide +kernel
theorem dX8_needToken_19 : decode cX8_needToken 19 = .ok (.goto 4, 3) := by decide +kernel
theorem dX8_needToken_22 : decode cX8_needToken 22 = .ok (.iconst 0, 1) := by decide +kernel
theorem dX8_needToken_23 : decode cX8_needToken 23 = .ok (.invokestatic 186, 3) := by decide +kernel
theorem dX8_needToken_26 : decode cX8_needToken 26 = .ok (.return_, 1) := by decide +kernel
set_option maxRecDepth 20000 in
theorem ggX8_needToken_X8_needIndex : GoodIn wsX8_needToken wsX8_needIndex := goodIn_ca (goodIn_r _ [7, 8, 9] (by decide +kernel) (by decide +kernel)) (goodIn_sub (fun _ h => List.mem_cons_of_mem _ (List.mem_append_right _ h)) (by decide +kernel))
set_option maxRecDepth 20000 in
theorem gX8_needToken_X8_needIndex : GoodIn wsX8_needToken (va_wsS RX8 186 yX8_needIndex wsX8_needIndex) := goodIn_app (goodIn_of _ (by decide +kernel)) ggX8_needToken_X8_needIndex
def rm_X8_needToken : Room := { frames := 9, cells := 1, slots := 6, locals := 220 }
set_option maxHeartbeats 4000000 in
set_option maxRecDepth 100000 in
theorem c_X8_needToken (l : Launch) (hfl : l.stackTraces = false) {nb : Nat} {G : zG} {ad : Nat → Nat} {σ σ' : zs} {a1 : Int32} {ex : Nat} {r : Int32} (hf : f_X8_needToken σ a1 = some (ex, r, σ')) : zXv l yX8_needToken wsX8_needToken rm_X8_needToken G (zS nb) ad σ [.ref (ad 0), .int a1] ex σ' := by
  intro sz
  refine vx_ofW (cc := cX8_needToken) (maxL := 2) (ret := none) (by decide) rfl ?_
  intro p e s m args below meth c s₁ B hml hno hv
  obtain ⟨rfl, hsz, hv⟩ := hv
  have hx := B.exec
  have hb := B.bytes
  have hr := B.returns
  have hts := atoms_spec (ws := wsX8_needToken) B.pre
  have hown : s.vm.findClass RX8 = some m.cls := findClass_of_methodNamed B.named
  have hlocks := B.notSynchronized
  subst hsz
  have B := zB_start hv
  have hinRX6 : ∀ w ∈ wsX60, w ∈ wsX8_needToken := by decide +kernel
  have hinRX7 : ∀ w ∈ wsX70, w ∈ wsX8_needToken := by decide +kernel
  have hinRX8 : ∀ w ∈ wsX80, w ∈ wsX8_needToken := by decide +kernel
  have hl := lv_entry ([.ref (ad 0), .int a1]) (n := 2) (Nat.le_of_ble_eq_true rfl)
  rw [lg_entry_eq]
  generalize (lg_sl ([.ref (ad 0), .int a1]) ++ List.replicate (2 - (lg_sl ([.ref (ad 0), .int a1])).length) Slot.unset).toArray = ls at hl ⊢
  have hl : lv_has ls 2 [(0, .ref (ad 0)), (1, .int a1)] := hl
  generalize hAe : zA ad (zS nb).length s.heap.size = A at B ⊢
  have L23 : ∀ (σ : zs) (s0 : Int32) (H : Heap) (locs : List Loc) (ls : Array Slot), f_X8_needToken_23 σ s0 = some (ex, r, σ') → zB A s G (zS nb) ad σ H locs → lv_has ls 2 [] → W p l e (headSpec wsX8_needToken rm_X8_needToken).room s m ([.ref (ad 0), .int a1] : List Value).toArray below meth c H locs 0 0 (vx_MQ below (va_Qv (fun (_ : Unit) => ex = 0) (zPost G (zS nb) ad σ') A) (zXC G (zS nb) ad ex σ' A) ([.ref (ad 0), .int a1] : List Value).toArray s 1 6 A) (F0 m 23 ls [.int s0]) := by
    intro σ s0 H locs ls hf B hl
    unfold f_X8_needToken_23 at hf
    obtain ⟨u1, r2, σ3, hu1, hf⟩ := zx_some hf
    refine z_xv B (vx_runS (As := [.int s0]) (rest := []) ⟨hx, hb, hml, hown, hts⟩ (c_X8_needIndex l hfl hu1 _) (va_cwS 1 hts gX8_needToken_X8_needIndex rfl rfl rfl (by decide +kernel) ⟨Nat.le_of_ble_eq_true rfl, Nat.le_of_ble_eq_true rfl⟩) (z_preS B) rfl rfl hl.1 rfl (lv_room (Nat.le_of_ble_eq_true rfl)) dX8_needToken_23 ⟨Nat.le_of_ble_eq_true rfl, Nat.le_of_ble_eq_true rfl⟩) (fun H locs ce q9 h0 B k1 k2 k3 => ?_) (fun H locs h0 B => ?_)
    · exact z_xout hno hlocks (zx_no hf h0) h0 B k1 k2 k3 (Nat.le_of_ble_eq_true rfl) (Nat.le_of_ble_eq_true rfl)
    have hf := zx_ok hf h0
    refine W.widen (k := 1) (n := 6) (Nat.le_of_ble_eq_true rfl) (Nat.le_of_ble_eq_true rfl) ?_
    exact z_xvret hx hb hr hlocks B hf dX8_needToken_26
  unfold f_X8_needToken at hf
  refine lv_iload_n hx hb dX8_needToken_0 rfl (lv_at hl 1 rfl) ?_
  refine lv_if_lt (tgt := 22) hx hb dX8_needToken_1 (by decide) (fun hc => ?_) (fun hc => ?_)
  · have hf := zif_t hc hf
    refine lv_iconst (v := (0 : Int32)) hx hb dX8_needToken_22 (by decide) ?_
    exact L23  _ _ _ _ _ hf B (lv_sub hl [] rfl)
  · have hf := zif_f hc hf
    refine lv_iload_n hx hb dX8_needToken_4 rfl (lv_at hl 1 rfl) ?_
    refine lv_aload_n hx hb dX8_needToken_5 rfl (lv_at hl 0 rfl) ?_
    refine z_getr hx hb hts hinRX8 hown B 0 0 1 rfl rfl rfl (by decide) (by decide +kernel) rfl dX8_needToken_6 ?_
    refine z_getr hx hb hts hinRX6 hown B 1 0 2 rfl rfl rfl (by decide) (by decide +kernel) rfl dX8_needToken_9 ?_
    refine z_geti hx hb hts hinRX7 hown B 2 0 rfl rfl rfl (by decide) (by decide +kernel) rfl dX8_needToken_12 ?_
    refine lv_icmp_ge (tgt := 22) hx hb dX8_needToken_15 (by decide) (fun hc => ?_) (fun hc => ?_)
    · have hf := zif_t hc hf
      refine lv_iconst (v := (0 : Int32)) hx hb dX8_needToken_22 (by decide) ?_
      exact L23  _ _ _ _ _ hf B (lv_sub hl [] rfl)
    · have hf := zif_f hc hf
      refine lv_iconst (v := (1 : Int32)) hx hb dX8_needToken_18 (by decide) ?_
      refine lv_goto (tgt := 23) hx hb dX8_needToken_19 (by decide) ?_
      exact L23  _ _ _ _ _ hf B (lv_sub hl [] rfl)
theorem dJ6_bitCount_0f7a4_0 : decode cJ6_bitCount_0f7a4 0 = .ok (.iload_n 0, 1) := by decide +kernel
theorem dJ6_bitCount_0f7a4_1 : decode cJ6_bitCount_0f7a4 1 = .ok (.iload_n 0, 1) := by decide +kernel
theorem dJ6_bitCount_0f7a4_2 : decode cJ6_bitCount_0f7a4 2 = .ok (.iconst 1, 1) := by decide +kernel
theorem dJ6_bitCount_0f7a4_3 : decode cJ6_bitCount_0f7a4 3 = .ok (.iushr, 1) := by decide +kernel
theorem dJ6_bitCount_0f7a4_4 : decode cJ6_bitCount_0f7a4 4 = .ok (.ldc_w 265, 3) := by decide +kernel
theorem dJ6_bitCount_0f7a4_7 : decode cJ6_bitCount_0f7a4 7 = .ok (.iand, 1) := by decide +kernel
theorem dJ6_bitCount_0f7a4_8 : decode cJ6_bitCount_0f7a4 8 = .ok (.isub, 1) := by decide +kernel
theorem dJ6_bitCount_0f7a4_9 : decode cJ6_bitCount_0f7a4 9 = .ok (.istore_n 0, 1) := by decide +kernel
theorem dJ6_bitCount_0f7a4_10 : decode cJ6_bitCount_0f7a4 10 = .ok (.iload_n 0, 1) := by decide +kernel
theorem dJ6_bitCount_0f7a4_11 : decode cJ6_bitCount_0f7a4 11 = .ok (.ldc_w 266, 3) := by decide +kernel
theorem dJ6_bitCount_0f7a4_14 : decode cJ6_bitCount_0f7a4 14 = .ok (.iand, 1) := by decide +kernel
theorem dJ6_bitCount_0f7a4_15 : decode cJ6_bitCount_0f7a4 15 = .ok (.iload_n 0, 1) := by decide +kernel
theorem dJ6_bitCount_0f7a4_16 : decode cJ6_bitCount_0f7a4 16 = .ok (.iconst 2, 1) := by decide +kernel
theorem dJ6_bitCount_0f7a4_17 : decode cJ6_bitCount_0f7a4 17 = .ok (.iushr, 1) := by decide +kernel
theorem dJ6_bitCount_0f7a4_18 : decode cJ6_bitCount_0f7a4 18 = .ok (.ldc_w 266, 3) := by decide +kernel
theorem dJ6_bitCount_0f7a4_21 : decode cJ6_bitCount_0f7a4 21 = .ok (.iand, 1) := by decide +kernel
theorem dJ6_bitCount_0f7a4_22 : decode cJ6_bitCount_0f7a4 22 = .ok (.iadd, 1) := by decide +kernel
theorem dJ6_bitCount_0f7a4_23 : decode cJ6_bitCount_0f7a4 23 = .ok (.istore_n 0, 1) := by decide +kernel
theorem dJ6_bitCount_0f7a4_24 : decode cJ6_bitCount_0f7a4 24 = .ok (.iload_n 0, 1) := by decide +kernel
theorem dJ6_bitCount_0f7a4_25 : decode cJ6_bitCount_0f7a4 25 = .ok (.iload_n 0, 1) := by decide +kernel
theorem dJ6_bitCount_0f7a4_26 : decode cJ6_bitCount_0f7a4 26 = .ok (.iconst 4, 1) := by decide +kernel
theorem dJ6_bitCount_0f7a4_27 : decode cJ6_bitCount_0f7a4 27 = .ok (.iushr, 1) := by decide +kernel
theorem dJ6_bitCount_0f7a4_28 : decode cJ6_bitCount_0f7a4 28 = .ok (.iadd, 1) := by decide +kernel
theorem dJ6_bitCount_0f7a4_29 : decode cJ6_bitCount_0f7a4 29 = .ok (.ldc_w 267, 3) := by decide +kernel
theorem dJ6_bitCount_0f7a4_32 : decode cJ6_bitCount_0f7a4 32 = .ok (.iand, 1) := by decide +kernel
theorem dJ6_bitCount_0f7a4_33 : decode cJ6_bitCount_0f7a4 33 = .ok (.istore_n 0, 1) := by decide +kernel
theorem dJ6_bitCount_0f7a4_34 : decode cJ6_bitCount_0f7a4 34 = .ok (.iload_n 0, 1) := by decide +kernel
theorem dJ6_bitCount_0f7a4_35 : decode cJ6_bitCount_0f7a4 35 = .ok (.iload_n 0, 1) := by decide +kernel
theorem dJ6_bitCount_0f7a4_36 : decode cJ6_bitCount_0f7a4 36 = .ok (.bipush 8, 2) := by decide +kernel
theorem dJ6_bitCount_0f7a4_38 : decode cJ6_bitCount_0f7a4 38 = .ok (.iushr, 1) := by decide +kernel
theorem dJ6_bitCount_0f7a4_39 : decode cJ6_bitCount_0f7a4 39 = .ok (.iadd, 1) := by decide +kernel
theorem dJ6_bitCount_0f7a4_40 : decode cJ6_bitCount_0f7a4 40 = .ok (.istore_n 0, 1) := by decide +kernel
theorem dJ6_bitCount_0f7a4_41 : decode cJ6_bitCount_0f7a4 41 = .ok (.iload_n 0, 1) := by decide +kernel
theorem dJ6_bitCount_0f7a4_42 : decode cJ6_bitCount_0f7a4 42 = .ok (.iload_n 0, 1) := by decide +kernel
theorem dJ6_bitCount_0f7a4_43 : decode cJ6_bitCount_0f7a4 43 = .ok (.bipush 16, 2) := by decide +kernel
theorem dJ6_bitCount_0f7a4_45 : decode cJ6_bitCount_0f7a4 45 = .ok (.iushr, 1) := by decide +kernel
theorem dJ6_bitCount_0f7a4_46 : decode cJ6_bitCount_0f7a4 46 = .ok (.iadd, 1) := by decide +kernel
theorem dJ6_bitCount_0f7a4_47 : decode cJ6_bitCount_0f7a4 47 = .ok (.istore_n 0, 1) := by decide +kernel
theorem dJ6_bitCount_0f7a4_48 : decode cJ6_bitCount_0f7a4 48 = .ok (.iload_n 0, 1) := by decide +kernel
theorem dJ6_bitCount_0f7a4_49 : decode cJ6_bitCount_0f7a4 49 = .ok (.bipush 63, 2) := by decide +kernel
theorem dJ6_bitCount_0f7a4_51 : decode cJ6_bitCount_0f7a4 51 = .ok (.iand, 1) := by decide +kernel
theorem dJ6_bitCount_0f7a4_52 : decode cJ6_bitCount_0f7a4 52 = .ok (.ireturn, 1) := by decide +kernel
def rm_J6_bitCount_0f7a4 : Room := { frames := 1, cells := 0, slots := 0, locals := 16 }
set_option maxHeartbeats 4000000 in
set_option maxRecDepth 100000 in
theorem c_J6_bitCount_0f7a4 (l : Launch) {nb : Nat} {G : zG} {ad : Nat → Nat} {σ σ' : zs} {a0 : Int32} {r : Int32} (hf : f_J6_bitCount_0f7a4 σ a0 = some (r, σ')) : zMi l yJ6_bitCount_0f7a4 wsJ6_bitCount_0f7a4 rm_J6_bitCount_0f7a4 G (zS nb) ad σ [.int a0] r σ' := by
  intro sz
  refine Met.ofW (cc := cJ6_bitCount_0f7a4) (maxL := 1) (ret := (some .int)) (by decide) rfl ?_
  intro p e s m args below meth c s₁ B hml hv
  obtain ⟨rfl, hsz, hv⟩ := hv
  have hx := B.exec
  have hb := B.bytes
  have hr := B.returns
  have hts := atoms_spec (ws := wsJ6_bitCount_0f7a4) B.pre
  have hown : s.vm.findClass RJ6 = some m.cls := findClass_of_methodNamed B.named
  have hlocks := B.notSynchronized
  subst hsz
  have B := zB_start hv
  have hl := lv_entry ([.int a0]) (n := 1) (Nat.le_of_ble_eq_true rfl)
  rw [lg_entry_eq]
  generalize (lg_sl ([.int a0]) ++ List.replicate (1 - (lg_sl ([.int a0])).length) Slot.unset).toArray = ls at hl ⊢
  have hl : lv_has ls 1 [(0, .int a0)] := hl
  generalize hAe : zA ad (zS nb).length s.heap.size = A at B ⊢
  unfold f_J6_bitCount_0f7a4 at hf
  refine lv_iload_n hx hb dJ6_bitCount_0f7a4_0 rfl (lv_at hl 0 rfl) ?_
  refine lv_iload_n hx hb dJ6_bitCount_0f7a4_1 rfl (lv_at hl 0 rfl) ?_
  refine lv_iconst (v := (1 : Int32)) hx hb dJ6_bitCount_0f7a4_2 (by decide) ?_
  refine lv_iushr (v := (a0.toUInt32 >>> ((1 : Int32).toUInt32 &&& Int32.toUInt32 31)).toInt32) hx hb dJ6_bitCount_0f7a4_3 rfl ?_
  refine lv_ldcw (v := (1431655765 : Int32)) hx hb hown (hts (.constant RJ6 265 (1431655765)) (by decide +kernel)) dJ6_bitCount_0f7a4_4 ?_
  refine lv_iand hx hb dJ6_bitCount_0f7a4_7 ?_
  refine lv_isub hx hb dJ6_bitCount_0f7a4_8 ?_
  refine lv_topi (fun w1 ew1 => ?_)
  have hf := zl_at ew1 hf
  refine lv_istore_n (lv' := [(0, .int w1)]) hx hb dJ6_bitCount_0f7a4_9 rfl hl (by decide) rfl (fun ls hl => ?_)
  refine lv_iload_n hx hb dJ6_bitCount_0f7a4_10 rfl (lv_at hl 0 rfl) ?_
  refine lv_ldcw (v := (858993459 : Int32)) hx hb hown (hts (.constant RJ6 266 (858993459)) (by decide +kernel)) dJ6_bitCount_0f7a4_11 ?_
  refine lv_iand hx hb dJ6_bitCount_0f7a4_14 ?_
  refine lv_iload_n hx hb dJ6_bitCount_0f7a4_15 rfl (lv_at hl 0 rfl) ?_
  refine lv_iconst (v := (2 : Int32)) hx hb dJ6_bitCount_0f7a4_16 (by decide) ?_
  refine lv_iushr (v := (w1.toUInt32 >>> ((2 : Int32).toUInt32 &&& Int32.toUInt32 31)).toInt32) hx hb dJ6_bitCount_0f7a4_17 rfl ?_
  refine lv_ldcw (v := (858993459 : Int32)) hx hb hown (hts (.constant RJ6 266 (858993459)) (by decide +kernel)) dJ6_bitCount_0f7a4_18 ?_
  refine lv_iand hx hb dJ6_bitCount_0f7a4_21 ?_
  refine lv_iadd hx hb dJ6_bitCount_0f7a4_22 ?_
  refine lv_topi (fun w2 ew2 => ?_)
  have hf := zl_at ew2 hf
  refine lv_istore_n (lv' := [(0, .int w2)]) hx hb dJ6_bitCount_0f7a4_23 rfl hl (by decide) rfl (fun ls hl => ?_)
  refine lv_iload_n hx hb dJ6_bitCount_0f7a4_24 rfl (lv_at hl 0 rfl) ?_
  refine lv_iload_n hx hb dJ6_bitCount_0f7a4_25 rfl (lv_at hl 0 rfl) ?_
  refine lv_iconst (v := (4 : Int32)) hx hb dJ6_bitCount_0f7a4_26 (by decide) ?_
  refine lv_iushr (v := (w2.toUInt32 >>> ((4 : Int32).toUInt32 &&& Int32.toUInt32 31)).toInt32) hx hb dJ6_bitCount_0f7a4_27 rfl ?_
  refine lv_iadd hx hb dJ6_bitCount_0f7a4_28 ?_
  refine lv_ldcw (v := (252645135 : Int32)) hx hb hown (hts (.constant RJ6 267 (252645135)) (by decide +kernel)) dJ6_bitCount_0f7a4_29 ?_
  refine lv_iand hx hb dJ6_bitCount_0f7a4_32 ?_
  refine lv_topi (fun w3 ew3 => ?_)
  have hf := zl_at ew3 hf
  refine lv_istore_n (lv' := [(0, .int w3)]) hx hb dJ6_bitCount_0f7a4_33 rfl hl (by decide) rfl (fun ls hl => ?_)
  refine lv_iload_n hx hb dJ6_bitCount_0f7a4_34 rfl (lv_at hl 0 rfl) ?_
  refine lv_iload_n hx hb dJ6_bitCount_0f7a4_35 rfl (lv_at hl 0 rfl) ?_
  refine lv_bipush (v := (8 : Int32)) hx hb dJ6_bitCount_0f7a4_36 (by decide) ?_
  refine lv_iushr (v := (w3.toUInt32 >>> ((8 : Int32).toUInt32 &&& Int32.toUInt32 31)).toInt32) hx hb dJ6_bitCount_0f7a4_38 rfl ?_
  refine lv_iadd hx hb dJ6_bitCount_0f7a4_39 ?_
  refine lv_topi (fun w4 ew4 => ?_)
  have hf := zl_at ew4 hf
  refine lv_istore_n (lv' := [(0, .int w4)]) hx hb dJ6_bitCount_0f7a4_40 rfl hl (by decide) rfl (fun ls hl => ?_)
  refine lv_iload_n hx hb dJ6_bitCount_0f7a4_41 rfl (lv_at hl 0 rfl) ?_
  refine lv_iload_n hx hb dJ6_bitCount_0f7a4_42 rfl (lv_at hl 0 rfl) ?_
  refine lv_bipush (v := (16 : Int32)) hx hb dJ6_bitCount_0f7a4_43 (by decide) ?_
  refine lv_iushr (v := (w4.toUInt32 >>> ((16 : Int32).toUInt32 &&& Int32.toUInt32 31)).toInt32) hx hb dJ6_bitCount_0f7a4_45 rfl ?_
  refine lv_iadd hx hb dJ6_bitCount_0f7a4_46 ?_
  refine lv_topi (fun w5 ew5 => ?_)
  have hf := zl_at ew5 hf
  refine lv_istore_n (lv' := [(0, .int w5)]) hx hb dJ6_bitCount_0f7a4_47 rfl hl (by decide) rfl (fun ls hl => ?_)
  refine lv_iload_n hx hb dJ6_bitCount_0f7a4_48 rfl (lv_at hl 0 rfl) ?_
  refine lv_bipush (v := (63 : Int32)) hx hb dJ6_bitCount_0f7a4_49 (by decide) ?_
  refine lv_iand hx hb dJ6_bitCount_0f7a4_51 ?_
  refine W.widen (k := 0) (n := 0) (Nat.le_of_ble_eq_true rfl) (Nat.le_of_ble_eq_true rfl) ?_
  exact z_iret hx hb hr rfl hlocks B hf dJ6_bitCount_0f7a4_52
