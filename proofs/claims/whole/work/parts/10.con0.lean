theorem dX8_needIndex_0 : decode cX8_needIndex 0 = .ok (.iload_n 0, 1) := by decide +kernel
theorem dX8_needIndex_1 : decode cX8_needIndex 1 = .ok (.ifCond .ne 14, 3) := by decide +kernel
theorem dX8_needIndex_4 : decode cX8_needIndex 4 = .ok (.new 361, 3) := by decide +kernel
theorem dX8_needIndex_7 : decode cX8_needIndex 7 = .ok (.dup, 1) := by decide +kernel
theorem dX8_needIndex_8 : decode cX8_needIndex 8 = .ok (.ldc_w 363, 3) := by decide +kernel
theorem dX8_needIndex_11 : decode cX8_needIndex 11 = .ok (.invokespecial 365, 3) := by decide +kernel
theorem dX8_needIndex_14 : decode cX8_needIndex 14 = .ok (.athrow, 1) := by decide +kernel
theorem dX8_needIndex_15 : decode cX8_needIndex 15 = .ok (.return_, 1) := by decide +kernel
def rm_X8_needIndex : Room := { frames := 8, cells := 1, slots := 6, locals := 200 }
set_option maxHeartbeats 4000000 in
set_option maxRecDepth 100000 in
theorem c_X8_needIndex (l : Launch) (hfl : l.stackTraces = false) {nb : Nat} {G : zG} {ad : Nat → Nat} {σ σ' : zs} {a0 : Int32} {ex : Nat} {r : Int32} (hf : f_X8_needIndex σ a0 = some (ex, r, σ')) : zXv l yX8_needIndex wsX8_needIndex rm_X8_needIndex G (zS nb) ad σ [.int a0] ex σ' := by
  intro sz
  refine vx_ofW (cc := cX8_needIndex) (maxL := 1) (ret := none) (by decide) rfl ?_
  intro p e s m args below meth c s₁ B hml hno hv
  obtain ⟨rfl, hsz, hv⟩ := hv
  have hx := B.exec
  have hb := B.bytes
  have hr := B.returns
  have hts := atoms_spec (ws := wsX8_needIndex) B.pre
  have hown : s.vm.findClass RX8 = some m.cls := findClass_of_methodNamed B.named
  have hlocks := B.notSynchronized
  subst hsz
  have B := zB_start hv
  have hl := lv_entry ([.int a0]) (n := 1) (Nat.le_of_ble_eq_true rfl)
  rw [lg_entry_eq]
  generalize (lg_sl ([.int a0]) ++ List.replicate (1 - (lg_sl ([.int a0])).length) Slot.unset).toArray = ls at hl ⊢
  have hl : lv_has ls 1 [(0, .int a0)] := hl
  generalize hAe : zA ad (zS nb).length s.heap.size = A at B ⊢
  unfold f_X8_needIndex at hf
  refine lv_iload_n hx hb dX8_needIndex_0 rfl (lv_at hl 0 rfl) ?_
  refine lv_if_ne (tgt := 15) hx hb dX8_needIndex_1 (by decide) (fun hc => ?_) (fun hc => ?_)
  · have hf := zif_f hc hf
    refine W.widen (k := 1) (n := 6) (Nat.le_of_ble_eq_true rfl) (Nat.le_of_ble_eq_true rfl) ?_
    exact z_xvret hx hb hr hlocks B hf dX8_needIndex_15
  · have hf := zif_t hc hf
    cases hf
    obtain ⟨sa, hstr⟩ := B.2.2.2.2.2.text1
    have hat : ∀ w ∈ vx_atS RX8 365 "java/lang/IndexOutOfBoundsException" ["java/lang/RuntimeException", "java/lang/Exception"], w.before ([.int a0] : List Value).toArray s = true := vx_hat (B := [.castable "java/lang/IndexOutOfBoundsException" "java/lang/IndexOutOfBoundsException", .declares (Bundle.initS "java/lang/RuntimeException"), .declares (Bundle.initS "java/lang/Exception"), .declares (Bundle.initS Bundle.tN)]) (fun w h => hts w (List.mem_cons_of_mem _ (List.mem_append_right _ h))) (by decide +kernel) (vx_c ((B.2.2.2.2.2.castable (by decide +kernel)).use rfl) (vx_c ((B.2.2.2.2.2.decl (by decide +kernel)).use rfl) (vx_c ((B.2.2.2.2.2.decl (by decide +kernel)).use rfl) (vx_c ((B.2.2.2.2.2.decl (by decide +kernel)).use rfl) vx_n))))
    refine vx_throwSW (names := ["java/lang/RuntimeException", "java/lang/Exception"]) hx hb hfl hown (by decide +kernel) (by decide +kernel) (hts (.classLink RX8 361 "java/lang/IndexOutOfBoundsException") (by decide +kernel)) (hts (.initialized "java/lang/IndexOutOfBoundsException") (by decide +kernel)) hstr hat (by decide +kernel) B.2.2.2.2.2.unas B.2.2.2.2.2.supp B.2.2.2.2.1 (hl.1.trans hml.symm) dX8_needIndex_4 dX8_needIndex_7 dX8_needIndex_8 dX8_needIndex_11 dX8_needIndex_14 (fun z hz => absurd (hno z hz) id) (by decide) (by decide) (Nat.le_of_ble_eq_true rfl) (Nat.le_of_ble_eq_true rfl) hlocks (fun t hal hsz hq => ⟨(), trivial, ⟨by decide, rfl, ?_⟩, ?_⟩) B.2.2.2.2.1.2.2 (Nat.le_of_ble_eq_true rfl) (Nat.le_of_ble_eq_true rfl)
    · exact B.2.2.1.kept (fun k q hk => hq _ (B.2.2.1 k q hk).lt)
    · exact ⟨hsz, fun q h1 h2 => hq q h1⟩
theorem dX8_needArgument_0 : decode cX8_needArgument 0 = .ok (.iload_n 0, 1) := by decide +kernel
theorem dX8_needArgument_1 : decode cX8_needArgument 1 = .ok (.ifCond .ne 14, 3) := by decide +kernel
theorem dX8_needArgument_4 : decode cX8_needArgument 4 = .ok (.new 368, 3) := by decide +kernel
theorem dX8_needArgument_7 : decode cX8_needArgument 7 = .ok (.dup, 1) := by decide +kernel
theorem dX8_needArgument_8 : decode cX8_needArgument 8 = .ok (.ldc_w 370, 3) := by decide +kernel
theorem dX8_needArgument_11 : decode cX8_needArgument 11 = .ok (.invokespecial 372, 3) := by decide +kernel
theorem dX8_needArgument_14 : decode cX8_needArgument 14 = .ok (.athrow, 1) := by decide +kernel
theorem dX8_needArgument_15 : decode cX8_needArgument 15 = .ok (.return_, 1) := by decide +kernel
def rm_X8_needArgument : Room := { frames := 8, cells := 1, slots := 6, locals := 200 }
set_option maxHeartbeats 4000000 in
set_option maxRecDepth 100000 in
theorem c_X8_needArgument (l : Launch) (hfl : l.stackTraces = false) {nb : Nat} {G : zG} {ad : Nat → Nat} {σ σ' : zs} {a0 : Int32} {ex : Nat} {r : Int32} (hf : f_X8_needArgument σ a0 = some (ex, r, σ')) : zXv l yX8_needArgument wsX8_needArgument rm_X8_needArgument G (zS nb) ad σ [.int a0] ex σ' := by
  intro sz
  refine vx_ofW (cc := cX8_needArgument) (maxL := 1) (ret := none) (by decide) rfl ?_
  intro p e s m args below meth c s₁ B hml hno hv
  obtain ⟨rfl, hsz, hv⟩ := hv
  have hx := B.exec
  have hb := B.bytes
  have hr := B.returns
  have hts := atoms_spec (ws := wsX8_needArgument) B.pre
  have hown : s.vm.findClass RX8 = some m.cls := findClass_of_methodNamed B.named
  have hlocks := B.notSynchronized
  subst hsz
  have B := zB_start hv
  have hl := lv_entry ([.int a0]) (n := 1) (Nat.le_of_ble_eq_true rfl)
  rw [lg_entry_eq]
  generalize (lg_sl ([.int a0]) ++ List.replicate (1 - (lg_sl ([.int a0])).length) Slot.unset).toArray = ls at hl ⊢
  have hl : lv_has ls 1 [(0, .int a0)] := hl
  generalize hAe : zA ad (zS nb).length s.heap.size = A at B ⊢
  unfold f_X8_needArgument at hf
  refine lv_iload_n hx hb dX8_needArgument_0 rfl (lv_at hl 0 rfl) ?_
  refine lv_if_ne (tgt := 15) hx hb dX8_needArgument_1 (by decide) (fun hc => ?_) (fun hc => ?_)
  · have hf := zif_f hc hf
    refine W.widen (k := 1) (n := 6) (Nat.le_of_ble_eq_true rfl) (Nat.le_of_ble_eq_true rfl) ?_
    exact z_xvret hx hb hr hlocks B hf dX8_needArgument_15
  · have hf := zif_t hc hf
    cases hf
    obtain ⟨sa, hstr⟩ := B.2.2.2.2.2.text2
    have hat : ∀ w ∈ vx_atS RX8 372 "java/lang/IllegalArgumentException" ["java/lang/RuntimeException", "java/lang/Exception"], w.before ([.int a0] : List Value).toArray s = true := vx_hat (B := [.castable "java/lang/IllegalArgumentException" "java/lang/IllegalArgumentException", .declares (Bundle.initS "java/lang/RuntimeException"), .declares (Bundle.initS "java/lang/Exception"), .declares (Bundle.initS Bundle.tN)]) (fun w h => hts w (List.mem_cons_of_mem _ (List.mem_append_right _ h))) (by decide +kernel) (vx_c ((B.2.2.2.2.2.castable (by decide +kernel)).use rfl) (vx_c ((B.2.2.2.2.2.decl (by decide +kernel)).use rfl) (vx_c ((B.2.2.2.2.2.decl (by decide +kernel)).use rfl) (vx_c ((B.2.2.2.2.2.decl (by decide +kernel)).use rfl) vx_n))))
    refine vx_throwSW (names := ["java/lang/RuntimeException", "java/lang/Exception"]) hx hb hfl hown (by decide +kernel) (by decide +kernel) (hts (.classLink RX8 368 "java/lang/IllegalArgumentException") (by decide +kernel)) (hts (.initialized "java/lang/IllegalArgumentException") (by decide +kernel)) hstr hat (by decide +kernel) B.2.2.2.2.2.unas B.2.2.2.2.2.supp B.2.2.2.2.1 (hl.1.trans hml.symm) dX8_needArgument_4 dX8_needArgument_7 dX8_needArgument_8 dX8_needArgument_11 dX8_needArgument_14 (fun z hz => absurd (hno z hz) id) (by decide) (by decide) (Nat.le_of_ble_eq_true rfl) (Nat.le_of_ble_eq_true rfl) hlocks (fun t hal hsz hq => ⟨(), trivial, ⟨by decide, rfl, ?_⟩, ?_⟩) B.2.2.2.2.1.2.2 (Nat.le_of_ble_eq_true rfl) (Nat.le_of_ble_eq_true rfl)
    · exact B.2.2.1.kept (fun k q hk => hq _ (B.2.2.1 k q hk).lt)
    · exact ⟨hsz, fun q h1 h2 => hq q h1⟩
theorem dX8_needState_0 : decode cX8_needState 0 = .ok (.iload_n 0, 1) := by decide +kernel
theorem dX8_needState_1 : decode cX8_needState 1 = .ok (.ifCond .ne 14, 3) := by decide +kernel
theorem dX8_needState_4 : decode cX8_needState 4 = .ok (.new 373, 3) := by decide +kernel
theorem dX8_needState_7 : decode cX8_needState 7 = .ok (.dup, 1) := by decide +kernel
theorem dX8_needState_8 : decode cX8_needState 8 = .ok (.ldc_w 375, 3) := by decide +kernel
theorem dX8_needState_11 : decode cX8_needState 11 = .ok (.invokespecial 377, 3) := by decide +kernel
theorem dX8_needState_14 : decode cX8_needState 14 = .ok (.athrow, 1) := by decide +kernel
theorem dX8_needState_15 : decode cX8_needState 15 = .ok (.return_, 1) := by decide +kernel
def rm_X8_needState : Room := { frames := 8, cells := 1, slots := 6, locals := 200 }
set_option maxHeartbeats 4000000 in
set_option maxRecDepth 100000 in
theorem c_X8_needState (l : Launch) (hfl : l.stackTraces = false) {nb : Nat} {G : zG} {ad : Nat → Nat} {σ σ' : zs} {a0 : Int32} {ex : Nat} {r : Int32} (hf : f_X8_needState σ a0 = some (ex, r, σ')) : zXv l yX8_needState wsX8_needState rm_X8_needState G (zS nb) ad σ [.int a0] ex σ' := by
  intro sz
  refine vx_ofW (cc := cX8_needState) (maxL := 1) (ret := none) (by decide) rfl ?_
  intro p e s m args below meth c s₁ B hml hno hv
  obtain ⟨rfl, hsz, hv⟩ := hv
  have hx := B.exec
  have hb := B.bytes
  have hr := B.returns
  have hts := atoms_spec (ws := wsX8_needState) B.pre
  have hown : s.vm.findClass RX8 = some m.cls := findClass_of_methodNamed B.named
  have hlocks := B.notSynchronized
  subst hsz
  have B := zB_start hv
  have hl := lv_entry ([.int a0]) (n := 1) (Nat.le_of_ble_eq_true rfl)
  rw [lg_entry_eq]
  generalize (lg_sl ([.int a0]) ++ List.replicate (1 - (lg_sl ([.int a0])).length) Slot.unset).toArray = ls at hl ⊢
  have hl : lv_has ls 1 [(0, .int a0)] := hl
  generalize hAe : zA ad (zS nb).length s.heap.size = A at B ⊢
  unfold f_X8_needState at hf
  refine lv_iload_n hx hb dX8_needState_0 rfl (lv_at hl 0 rfl) ?_
  refine lv_if_ne (tgt := 15) hx hb dX8_needState_1 (by decide) (fun hc => ?_) (fun hc => ?_)
  · have hf := zif_f hc hf
    refine W.widen (k := 1) (n := 6) (Nat.le_of_ble_eq_true rfl) (Nat.le_of_ble_eq_true rfl) ?_
    exact z_xvret hx hb hr hlocks B hf dX8_needState_15
  · have hf := zif_t hc hf
    cases hf
    obtain ⟨sa, hstr⟩ := B.2.2.2.2.2.text3
    have hat : ∀ w ∈ vx_atS RX8 377 "java/lang/IllegalStateException" ["java/lang/RuntimeException", "java/lang/Exception"], w.before ([.int a0] : List Value).toArray s = true := vx_hat (B := [.castable "java/lang/IllegalStateException" "java/lang/IllegalStateException", .declares (Bundle.initS "java/lang/RuntimeException"), .declares (Bundle.initS "java/lang/Exception"), .declares (Bundle.initS Bundle.tN)]) (fun w h => hts w (List.mem_cons_of_mem _ (List.mem_append_right _ h))) (by decide +kernel) (vx_c ((B.2.2.2.2.2.castable (by decide +kernel)).use rfl) (vx_c ((B.2.2.2.2.2.decl (by decide +kernel)).use rfl) (vx_c ((B.2.2.2.2.2.decl (by decide +kernel)).use rfl) (vx_c ((B.2.2.2.2.2.decl (by decide +kernel)).use rfl) vx_n))))
    refine vx_throwSW (names := ["java/lang/RuntimeException", "java/lang/Exception"]) hx hb hfl hown (by decide +kernel) (by decide +kernel) (hts (.classLink RX8 373 "java/lang/IllegalStateException") (by decide +kernel)) (hts (.initialized "java/lang/IllegalStateException") (by decide +kernel)) hstr hat (by decide +kernel) B.2.2.2.2.2.unas B.2.2.2.2.2.supp B.2.2.2.2.1 (hl.1.trans hml.symm) dX8_needState_4 dX8_needState_7 dX8_needState_8 dX8_needState_11 dX8_needState_14 (fun z hz => absurd (hno z hz) id) (by decide) (by decide) (Nat.le_of_ble_eq_true rfl) (Nat.le_of_ble_eq_true rfl) hlocks (fun t hal hsz hq => ⟨(), trivial, ⟨by decide, rfl, ?_⟩, ?_⟩) B.2.2.2.2.1.2.2 (Nat.le_of_ble_eq_true rfl) (Nat.le_of_ble_eq_true rfl)
    · exact B.2.2.1.kept (fun k q hk => hq _ (B.2.2.1 k q hk).lt)
    · exact ⟨hsz, fun q h1 h2 => hq q h1⟩
theorem dX8_needPermission_0 : decode cX8_needPermission 0 = .ok (.iload_n 0, 1) := by decide +kernel
theorem dX8_needPermission_1 : decode cX8_needPermission 1 = .ok (.ifCond .ne 14, 3) := by decide +kernel
theorem dX8_needPermission_4 : decode cX8_needPermission 4 = .ok (.new 378, 3) := by decide +kernel
theorem dX8_needPermission_7 : decode cX8_needPermission 7 = .ok (.dup, 1) := by decide +kernel
theorem dX8_needPermission_8 : decode cX8_needPermission 8 = .ok (.ldc_w 380, 3) := by decide +kernel
theorem dX8_needPermission_11 : decode cX8_needPermission 11 = .ok (.invokespecial 382, 3) := by decide +kernel
theorem dX8_needPermission_14 : decode cX8_needPermission 14 = .ok (.athrow, 1) := by decide +kernel
theorem dX8_needPermission_15 : decode cX8_needPermission 15 = .ok (.return_, 1) := by decide +kernel
def rm_X8_needPermission : Room := { frames := 8, cells := 1, slots := 6, locals := 200 }
set_option maxHeartbeats 4000000 in
set_option maxRecDepth 100000 in
theorem c_X8_needPermission (l : Launch) (hfl : l.stackTraces = false) {nb : Nat} {G : zG} {ad : Nat → Nat} {σ σ' : zs} {a0 : Int32} {ex : Nat} {r : Int32} (hf : f_X8_needPermission σ a0 = some (ex, r, σ')) : zXv l yX8_needPermission wsX8_needPermission rm_X8_needPermission G (zS nb) ad σ [.int a0] ex σ' := by
  intro sz
  refine vx_ofW (cc := cX8_needPermission) (maxL := 1) (ret := none) (by decide) rfl ?_
  intro p e s m args below meth c s₁ B hml hno hv
  obtain ⟨rfl, hsz, hv⟩ := hv
  have hx := B.exec
  have hb := B.bytes
  have hr := B.returns
  have hts := atoms_spec (ws := wsX8_needPermission) B.pre
  have hown : s.vm.findClass RX8 = some m.cls := findClass_of_methodNamed B.named
  have hlocks := B.notSynchronized
  subst hsz
  have B := zB_start hv
  have hl := lv_entry ([.int a0]) (n := 1) (Nat.le_of_ble_eq_true rfl)
  rw [lg_entry_eq]
  generalize (lg_sl ([.int a0]) ++ List.replicate (1 - (lg_sl ([.int a0])).length) Slot.unset).toArray = ls at hl ⊢
  have hl : lv_has ls 1 [(0, .int a0)] := hl
  generalize hAe : zA ad (zS nb).length s.heap.size = A at B ⊢
  unfold f_X8_needPermission at hf
  refine lv_iload_n hx hb dX8_needPermission_0 rfl (lv_at hl 0 rfl) ?_
  refine lv_if_ne (tgt := 15) hx hb dX8_needPermission_1 (by decide) (fun hc => ?_) (fun hc => ?_)
  · have hf := zif_f hc hf
    refine W.widen (k := 1) (n := 6) (Nat.le_of_ble_eq_true rfl) (Nat.le_of_ble_eq_true rfl) ?_
    exact z_xvret hx hb hr hlocks B hf dX8_needPermission_15
  · have hf := zif_t hc hf
    cases hf
    obtain ⟨sa, hstr⟩ := B.2.2.2.2.2.text4
    have hat : ∀ w ∈ vx_atS RX8 382 "java/lang/UnsupportedOperationException" ["java/lang/RuntimeException", "java/lang/Exception"], w.before ([.int a0] : List Value).toArray s = true := vx_hat (B := [.castable "java/lang/UnsupportedOperationException" "java/lang/UnsupportedOperationException", .declares (Bundle.initS "java/lang/RuntimeException"), .declares (Bundle.initS "java/lang/Exception"), .declares (Bundle.initS Bundle.tN)]) (fun w h => hts w (List.mem_cons_of_mem _ (List.mem_append_right _ h))) (by decide +kernel) (vx_c ((B.2.2.2.2.2.castable (by decide +kernel)).use rfl) (vx_c ((B.2.2.2.2.2.decl (by decide +kernel)).use rfl) (vx_c ((B.2.2.2.2.2.decl (by decide +kernel)).use rfl) (vx_c ((B.2.2.2.2.2.decl (by decide +kernel)).use rfl) vx_n))))
    refine vx_throwSW (names := ["java/lang/RuntimeException", "java/lang/Exception"]) hx hb hfl hown (by decide +kernel) (by decide +kernel) (hts (.classLink RX8 378 "java/lang/UnsupportedOperationException") (by decide +kernel)) (hts (.initialized "java/lang/UnsupportedOperationException") (by decide +kernel)) hstr hat (by decide +kernel) B.2.2.2.2.2.unas B.2.2.2.2.2.supp B.2.2.2.2.1 (hl.1.trans hml.symm) dX8_needPermission_4 dX8_needPermission_7 dX8_needPermission_8 dX8_needPermission_11 dX8_needPermission_14 (fun z hz => absurd (hno z hz) id) (by decide) (by decide) (Nat.le_of_ble_eq_true rfl) (Nat.le_of_ble_eq_true rfl) hlocks (fun t hal hsz hq => ⟨(), trivial, ⟨by decide, rfl, ?_⟩, ?_⟩) B.2.2.2.2.1.2.2 (Nat.le_of_ble_eq_true rfl) (Nat.le_of_ble_eq_true rfl)
    · exact B.2.2.1.kept (fun k q hk => hq _ (B.2.2.1 k q hk).lt)
    · exact ⟨hsz, fun q h1 h2 => hq q h1⟩
theorem dX8_needElement_0 : decode cX8_needElement 0 = .ok (.iload_n 0, 1) := by decide +kernel
theorem dX8_needElement_1 : decode cX8_needElement 1 = .ok (.ifCond .ne 14, 3) := by decide +kernel
theorem dX8_needElement_4 : decode cX8_needElement 4 = .ok (.new 383, 3) := by decide +kernel
theorem dX8_needElement_7 : decode cX8_needElement 7 = .ok (.dup, 1) := by decide +kernel
theorem dX8_needElement_8 : decode cX8_needElement 8 = .ok (.ldc_w 385, 3) := by decide +kernel
theorem dX8_needElement_11 : decode cX8_needElement 11 = .ok (.invokespecial 387, 3) := by decide +kernel
theorem dX8_needElement_14 : decode cX8_needElement 14 = .ok (.athrow, 1) := by decide +kernel
theorem dX8_needElement_15 : decode cX8_needElement 15 = .ok (.return_, 1) := by decide +kernel
def rm_X8_needElement : Room := { frames := 8, cells := 1, slots := 6, locals := 200 }
set_option maxHeartbeats 4000000 in
set_option maxRecDepth 100000 in
theorem c_X8_needElement (l : Launch) (hfl : l.stackTraces = false) {nb : Nat} {G : zG} {ad : Nat → Nat} {σ σ' : zs} {a0 : Int32} {ex : Nat} {r : Int32} (hf : f_X8_needElement σ a0 = some (ex, r, σ')) : zXv l yX8_needElement wsX8_needElement rm_X8_needElement G (zS nb) ad σ [.int a0] ex σ' := by
  intro sz
  refine vx_ofW (cc := cX8_needElement) (maxL := 1) (ret := none) (by decide) rfl ?_
  intro p e s m args below meth c s₁ B hml hno hv
  obtain ⟨rfl, hsz, hv⟩ := hv
  have hx := B.exec
  have hb := B.bytes
  have hr := B.returns
  have hts := atoms_spec (ws := wsX8_needElement) B.pre
  have hown : s.vm.findClass RX8 = some m.cls := findClass_of_methodNamed B.named
  have hlocks := B.notSynchronized
  subst hsz
  have B := zB_start hv
  have hl := lv_entry ([.int a0]) (n := 1) (Nat.le_of_ble_eq_true rfl)
  rw [lg_entry_eq]
  generalize (lg_sl ([.int a0]) ++ List.replicate (1 - (lg_sl ([.int a0])).length) Slot.unset).toArray = ls at hl ⊢
  have hl : lv_has ls 1 [(0, .int a0)] := hl
  generalize hAe : zA ad (zS nb).length s.heap.size = A at B ⊢
  unfold f_X8_needElement at hf
  refine lv_iload_n hx hb dX8_needElement_0 rfl (lv_at hl 0 rfl) ?_
  refine lv_if_ne (tgt := 15) hx hb dX8_needElement_1 (by decide) (fun hc => ?_) (fun hc => ?_)
  · have hf := zif_f hc hf
    refine W.widen (k := 1) (n := 6) (Nat.le_of_ble_eq_true rfl) (Nat.le_of_ble_eq_true rfl) ?_
    exact z_xvret hx hb hr hlocks B hf dX8_needElement_15
  · have hf := zif_t hc hf
    cases hf
    obtain ⟨sa, hstr⟩ := B.2.2.2.2.2.text5
    have hat : ∀ w ∈ vx_atS RX8 387 "java/util/NoSuchElementException" ["java/lang/RuntimeException", "java/lang/Exception"], w.before ([.int a0] : List Value).toArray s = true := vx_hat (B := [.castable "java/util/NoSuchElementException" "java/util/NoSuchElementException", .declares (Bundle.initS "java/lang/RuntimeException"), .declares (Bundle.initS "java/lang/Exception"), .declares (Bundle.initS Bundle.tN)]) (fun w h => hts w (List.mem_cons_of_mem _ (List.mem_append_right _ h))) (by decide +kernel) (vx_c ((B.2.2.2.2.2.castable (by decide +kernel)).use rfl) (vx_c ((B.2.2.2.2.2.decl (by decide +kernel)).use rfl) (vx_c ((B.2.2.2.2.2.decl (by decide +kernel)).use rfl) (vx_c ((B.2.2.2.2.2.decl (by decide +kernel)).use rfl) vx_n))))
    refine vx_throwSW (names := ["java/lang/RuntimeException", "java/lang/Exception"]) hx hb hfl hown (by decide +kernel) (by decide +kernel) (hts (.classLink RX8 383 "java/util/NoSuchElementException") (by decide +kernel)) (hts (.initialized "java/util/NoSuchElementException") (by decide +kernel)) hstr hat (by decide +kernel) B.2.2.2.2.2.unas B.2.2.2.2.2.supp B.2.2.2.2.1 (hl.1.trans hml.symm) dX8_needElement_4 dX8_needElement_7 dX8_needElement_8 dX8_needElement_11 dX8_needElement_14 (fun z hz => absurd (hno z hz) id) (by decide) (by decide) (Nat.le_of_ble_eq_true rfl) (Nat.le_of_ble_eq_true rfl) hlocks (fun t hal hsz hq => ⟨(), trivial, ⟨by decide, rfl, ?_⟩, ?_⟩) B.2.2.2.2.1.2.2 (Nat.le_of_ble_eq_true rfl) (Nat.le_of_ble_eq_true rfl)
    · exact B.2.2.1.kept (fun k q hk => hq _ (B.2.2.1 k q hk).lt)
    · exact ⟨hsz, fun q h1 h2 => hq q h1⟩
theorem dX0_holdersOfPart_0 : decode cX0_holdersOfPart 0 = .ok (.iload_n 1, 1) := by decide +kernel
theorem dX0_holdersOfPart_1 : decode cX0_holdersOfPart 1 = .ok (.ifCond .eq 10, 3) := by decide +kernel
theorem dX0_holdersOfPart_4 : decode cX0_holdersOfPart 4 = .ok (.aload_n 0, 1) := by decide +kernel
theorem dX0_holdersOfPart_5 : decode cX0_holdersOfPart 5 = .ok (.getfield 15, 3) := by decide +kernel
theorem dX0_holdersOfPart_8 : decode cX0_holdersOfPart 8 = .ok (.goto 7, 3) := by decide +kernel
theorem dX0_holdersOfPart_11 : decode cX0_holdersOfPart 11 = .ok (.aload_n 0, 1) := by decide +kernel
theorem dX0_holdersOfPart_12 : decode cX0_holdersOfPart 12 = .ok (.getfield 9, 3) := by decide +kernel
theorem dX0_holdersOfPart_15 : decode cX0_holdersOfPart 15 = .ok (.areturn, 1) := by decide +kernel
def rm_X0_holdersOfPart : Room := { frames := 1, cells := 0, slots := 0, locals := 16 }
set_option maxHeartbeats 4000000 in
set_option maxRecDepth 100000 in
theorem c_X0_holdersOfPart_0 (l : Launch) {nb : Nat} {G : zG} {ad : Nat → Nat} {σ : zs} {a1 : Int32} (h : a1 = 0) : zMr l yX0_holdersOfPart wsX0_holdersOfPart rm_X0_holdersOfPart G (zS nb) ad σ [.ref (ad 14), .int a1] 15 σ := by
  intro sz
  refine Met.ofW (cc := cX0_holdersOfPart) (maxL := 2) (ret := (some (.array .int))) (by decide) rfl ?_
  intro p e s m args below meth c s₁ B hml hv
  obtain ⟨rfl, hsz, hv⟩ := hv
  have hx := B.exec
  have hb := B.bytes
  have hr := B.returns
  have hts := atoms_spec (ws := wsX0_holdersOfPart) B.pre
  have hown : s.vm.findClass RX0 = some m.cls := findClass_of_methodNamed B.named
  have hlocks := B.notSynchronized
  subst hsz
  have B := zB_start hv
  have hinRX0 : ∀ w ∈ wsX00, w ∈ wsX0_holdersOfPart := by decide +kernel
  have hl := lv_entry ([.ref (ad 14), .int a1]) (n := 2) (Nat.le_of_ble_eq_true rfl)
  rw [lg_entry_eq]
  generalize (lg_sl ([.ref (ad 14), .int a1]) ++ List.replicate (2 - (lg_sl ([.ref (ad 14), .int a1])).length) Slot.unset).toArray = ls at hl ⊢
  have hl : lv_has ls 2 [(0, .ref (ad 14)), (1, .int a1)] := hl
  generalize hAe : zA ad (zS nb).length s.heap.size = A at B ⊢
  have hf : some ((0 : Int32), σ) = some ((0 : Int32), σ) := rfl
  refine lv_iload_n hx hb dX0_holdersOfPart_0 rfl (lv_at hl 1 rfl) ?_
  refine lv_if_eq (tgt := 11) hx hb dX0_holdersOfPart_1 (by decide) (fun hc => ?_) (fun hc => ?_)
  · refine lv_aload_n hx hb dX0_holdersOfPart_11 rfl (lv_at hl 0 rfl) ?_
    refine z_getr hx hb hts hinRX0 hown B 14 1 15 rfl rfl rfl (by decide) (by decide +kernel) rfl dX0_holdersOfPart_12 ?_
    exact z_aret hx hb hr (Or.inr ⟨_, rfl⟩) hlocks B hf dX0_holdersOfPart_15
  · exact absurd h hc
set_option maxHeartbeats 4000000 in
set_option maxRecDepth 100000 in
theorem c_X0_holdersOfPart_1 (l : Launch) {nb : Nat} {G : zG} {ad : Nat → Nat} {σ : zs} {a1 : Int32} (h : ¬ a1 = 0) : zMr l yX0_holdersOfPart wsX0_holdersOfPart rm_X0_holdersOfPart G (zS nb) ad σ [.ref (ad 14), .int a1] 16 σ := by
  intro sz
  refine Met.ofW (cc := cX0_holdersOfPart) (maxL := 2) (ret := (some (.array .int))) (by decide) rfl ?_
  intro p e s m args below meth c s₁ B hml hv
  obtain ⟨rfl, hsz, hv⟩ := hv
  have hx := B.exec
  have hb := B.bytes
  have hr := B.returns
  have hts := atoms_spec (ws := wsX0_holdersOfPart) B.pre
  have hown : s.vm.findClass RX0 = some m.cls := findClass_of_methodNamed B.named
  have hlocks := B.notSynchronized
  subst hsz
  have B := zB_start hv
  have hinRX0 : ∀ w ∈ wsX00, w ∈ wsX0_holdersOfPart := by decide +kernel
  have hl := lv_entry ([.ref (ad 14), .int a1]) (n := 2) (Nat.le_of_ble_eq_true rfl)
  rw [lg_entry_eq]
  generalize (lg_sl ([.ref (ad 14), .int a1]) ++ List.replicate (2 - (lg_sl ([.ref (ad 14), .int a1])).length) Slot.unset).toArray = ls at hl ⊢
  have hl : lv_has ls 2 [(0, .ref (ad 14)), (1, .int a1)] := hl
  generalize hAe : zA ad (zS nb).length s.heap.size = A at B ⊢
  have hf : some ((0 : Int32), σ) = some ((0 : Int32), σ) := rfl
  refine lv_iload_n hx hb dX0_holdersOfPart_0 rfl (lv_at hl 1 rfl) ?_
  refine lv_if_eq (tgt := 11) hx hb dX0_holdersOfPart_1 (by decide) (fun hc => ?_) (fun hc => ?_)
  · exact absurd hc h
  · refine lv_aload_n hx hb dX0_holdersOfPart_4 rfl (lv_at hl 0 rfl) ?_
    refine z_getr hx hb hts hinRX0 hown B 14 2 16 rfl rfl rfl (by decide) (by decide +kernel) rfl dX0_holdersOfPart_5 ?_
    refine lv_goto (tgt := 15) hx hb dX0_holdersOfPart_8 (by decide) ?_
    exact z_aret hx hb hr (Or.inr ⟨_, rfl⟩) hlocks B hf dX0_holdersOfPart_15
theorem dX0_addPair_0 : decode cX0_addPair 0 = .ok (.aload_n 0, 1) := by decide +kernel
theorem dX0_addPair_1 : decode cX0_addPair 1 = .ok (.getfield 27, 3) := by decide +kernel
theorem dX0_addPair_4 : decode cX0_addPair 4 = .ok (.istore_n 2, 1) := by decide +kernel
theorem dX0_addPair_5 : decode cX0_addPair 5 = .ok (.aload_n 0, 1) := by decide +kernel
theorem dX0_addPair_6 : decode cX0_addPair 6 = .ok (.getfield 9, 3) := by decide +kernel
theorem dX0_addPair_9 : decode cX0_addPair 9 = .ok (.iload_n 2, 1) := by decide +kernel
theorem dX0_addPair_10 : decode cX0_addPair 10 = .ok (.iconst 1, 1) := by decide +kernel
theorem dX0_addPair_11 : decode cX0_addPair 11 = .ok (.iload_n 1, 1) := by decide +kernel
theorem dX0_addPair_12 : decode cX0_addPair 12 = .ok (.ishl, 1) := by decide +kernel
theorem dX0_addPair_13 : decode cX0_addPair 13 = .ok (.iastore, 1) := by decide +kernel
theorem dX0_addPair_14 : decode cX0_addPair 14 = .ok (.aload_n 0, 1) := by decide +kernel
theorem dX0_addPair_15 : decode cX0_addPair 15 = .ok (.getfield 15, 3) := by decide +kernel
theorem dX0_addPair_18 : decode cX0_addPair 18 = .ok (.iload_n 2, 1) := by decide +kernel
theorem dX0_addPair_19 : decode cX0_addPair 19 = .ok (.iconst 1, 1) := by decide +kernel
theorem dX0_addPair_20 : decode cX0_addPair 20 = .ok (.iload_n 1, 1) := by decide +kernel
theorem dX0_addPair_21 : decode cX0_addPair 21 = .ok (.ishl, 1) := by decide +kernel
theorem dX0_addPair_22 : decode cX0_addPair 22 = .ok (.iastore, 1) := by decide +kernel
theorem dX0_addPair_23 : decode cX0_addPair 23 = .ok (.aload_n 0, 1) := by decide +kernel
theorem dX0_addPair_24 : decode cX0_addPair 24 = .ok (.dup, 1) := by decide +kernel
theorem dX0_addPair_25 : decode cX0_addPair 25 = .ok (.getfield 27, 3) := by decide +kernel
theorem dX0_addPair_28 : decode cX0_addPair 28 = .ok (.iconst 1, 1) := by decide +kernel
theorem dX0_addPair_29 : decode cX0_addPair 29 = .ok (.iadd, 1) := by decide +kernel
theorem dX0_addPair_30 : decode cX0_addPair 30 = .ok (.putfield 27, 3) := by decide +kernel
theorem dX0_addPair_33 : decode cX0_addPair 33 = .ok (.iload_n 2, 1) := by decide +kernel
theorem dX0_addPair_34 : decode cX0_addPair 34 = .ok (.ireturn, 1) := by decide +kernel
def rm_X0_addPair : Room := { frames := 1, cells := 0, slots := 0, locals := 16 }
set_option maxHeartbeats 4000000 in
set_option maxRecDepth 100000 in
theorem c_X0_addPair (l : Launch) {nb : Nat} {G : zG} {ad : Nat → Nat} {σ σ' : zs} {a1 : Int32} {r : Int32} (hf : f_X0_addPair σ a1 = some (r, σ')) : zMi l yX0_addPair wsX0_addPair rm_X0_addPair G (zS nb) ad σ [.ref (ad 14), .int a1] r σ' := by
  intro sz
  refine Met.ofW (cc := cX0_addPair) (maxL := 3) (ret := (some .int)) (by decide) rfl ?_
  intro p e s m args below meth c s₁ B hml hv
  obtain ⟨rfl, hsz, hv⟩ := hv
  have hx := B.exec
  have hb := B.bytes
  have hr := B.returns
  have hts := atoms_spec (ws := wsX0_addPair) B.pre
  have hown : s.vm.findClass RX0 = some m.cls := findClass_of_methodNamed B.named
  have hlocks := B.notSynchronized
  subst hsz
  have B := zB_start hv
  have hinRX0 : ∀ w ∈ wsX00, w ∈ wsX0_addPair := by decide +kernel
  have hl := lv_entry ([.ref (ad 14), .int a1]) (n := 3) (Nat.le_of_ble_eq_true rfl)
  rw [lg_entry_eq]
  generalize (lg_sl ([.ref (ad 14), .int a1]) ++ List.replicate (3 - (lg_sl ([.ref (ad 14), .int a1])).length) Slot.unset).toArray = ls at hl ⊢
  have hl : lv_has ls 3 [(0, .ref (ad 14)), (1, .int a1)] := hl
  generalize hAe : zA ad (zS nb).length s.heap.size = A at B ⊢
  unfold f_X0_addPair at hf
  refine lv_aload_n hx hb dX0_addPair_0 rfl (lv_at hl 0 rfl) ?_
  refine z_geti hx hb hts hinRX0 hown B 14 0 rfl rfl rfl (by decide) (by decide +kernel) rfl dX0_addPair_1 ?_
  refine lv_istore_n (lv' := [(2, .int (σ 14 0)), (0, .ref (ad 14)), (1, .int a1)]) hx hb dX0_addPair_4 rfl hl (by decide) rfl (fun ls hl => ?_)
  refine lv_aload_n hx hb dX0_addPair_5 rfl (lv_at hl 1 rfl) ?_
  refine z_getr hx hb hts hinRX0 hown B 14 1 15 rfl rfl rfl (by decide) (by decide +kernel) rfl dX0_addPair_6 ?_
  refine lv_iload_n hx hb dX0_addPair_9 rfl (lv_at hl 0 rfl) ?_
  refine lv_iconst (v := (1 : Int32)) hx hb dX0_addPair_10 (by decide) ?_
  refine lv_iload_n hx hb dX0_addPair_11 rfl (lv_at hl 2 rfl) ?_
  refine lv_ishl hx hb dX0_addPair_12 ?_
  obtain ⟨hg, hf⟩ := zg_some hf
  refine z_iast hx hb B 15 rfl (zin_ok hg) dX0_addPair_13 (fun H locs B => ?_)
  refine lv_aload_n hx hb dX0_addPair_14 rfl (lv_at hl 1 rfl) ?_
  refine z_getr hx hb hts hinRX0 hown B 14 2 16 rfl rfl rfl (by decide) (by decide +kernel) rfl dX0_addPair_15 ?_
  refine lv_iload_n hx hb dX0_addPair_18 rfl (lv_at hl 0 rfl) ?_
  refine lv_iconst (v := (1 : Int32)) hx hb dX0_addPair_19 (by decide) ?_
  refine lv_iload_n hx hb dX0_addPair_20 rfl (lv_at hl 2 rfl) ?_
  refine lv_ishl hx hb dX0_addPair_21 ?_
  obtain ⟨hg, hf⟩ := zg_some hf
  refine z_iast hx hb B 16 rfl (zin_ok hg) dX0_addPair_22 (fun H locs B => ?_)
  refine lv_aload_n hx hb dX0_addPair_23 rfl (lv_at hl 1 rfl) ?_
  refine lv_dup hx hb dX0_addPair_24 rfl ?_
  refine z_geti hx hb hts hinRX0 hown B 14 0 rfl rfl rfl (by decide) (by decide +kernel) rfl dX0_addPair_25 ?_
  refine lv_iconst (v := (1 : Int32)) hx hb dX0_addPair_28 (by decide) ?_
  refine lv_iadd hx hb dX0_addPair_29 ?_
  refine z_puti hx hb hts hinRX0 hown tyX0 tyX0_ok nmX0 B 14 0 rfl rfl rfl (by decide) (by decide +kernel) rfl rfl rfl rfl dX0_addPair_30 (fun H locs B => ?_)
  refine lv_iload_n hx hb dX0_addPair_33 rfl (lv_at hl 0 rfl) ?_
  refine W.widen (k := 0) (n := 0) (Nat.le_of_ble_eq_true rfl) (Nat.le_of_ble_eq_true rfl) ?_
  exact z_iret hx hb hr rfl hlocks B hf dX0_addPair_34
theorem dX0_addBox_0 : decode cX0_addBox 0 = .ok (.aload_n 0, 1) := by decide +kernel
theorem dX0_addBox_1 : decode cX0_addBox 1 = .ok (.getfield 35, 3) := by decide +kernel
theorem dX0_addBox_4 : decode cX0_addBox 4 = .ok (.istore 4, 2) := by decide +kernel
theorem dX0_addBox_6 : decode cX0_addBox 6 = .ok (.aload_n 0, 1) := by decide +kernel
theorem dX0_addBox_7 : decode cX0_addBox 7 = .ok (.getfield 18, 3) := by decide +kernel
theorem dX0_addBox_10 : decode cX0_addBox 10 = .ok (.iload 4, 2) := by decide +kernel
theorem dX0_addBox_12 : decode cX0_addBox 12 = .ok (.iload_n 2, 1) := by decide +kernel
theorem dX0_addBox_13 : decode cX0_addBox 13 = .ok (.iastore, 1) := by decide +kernel
theorem dX0_addBox_14 : decode cX0_addBox 14 = .ok (.aload_n 0, 1) := by decide +kernel
theorem dX0_addBox_15 : decode cX0_addBox 15 = .ok (.getfield 21, 3) := by decide +kernel
theorem dX0_addBox_18 : decode cX0_addBox 18 = .ok (.iload 4, 2) := by decide +kernel
theorem dX0_addBox_20 : decode cX0_addBox 20 = .ok (.iload_n 3, 1) := by decide +kernel
theorem dX0_addBox_21 : decode cX0_addBox 21 = .ok (.iastore, 1) := by decide +kernel
theorem dX0_addBox_22 : decode cX0_addBox 22 = .ok (.aload_n 0, 1) := by decide +kernel
theorem dX0_addBox_23 : decode cX0_addBox 23 = .ok (.getfield 24, 3) := by decide +kernel
theorem dX0_addBox_26 : decode cX0_addBox 26 = .ok (.iload 4, 2) := by decide +kernel
theorem dX0_addBox_28 : decode cX0_addBox 28 = .ok (.iconst 1, 1) := by decide +kernel
theorem dX0_addBox_29 : decode cX0_addBox 29 = .ok (.iload_n 1, 1) := by decide +kernel
theorem dX0_addBox_30 : decode cX0_addBox 30 = .ok (.ishl, 1) := by decide +kernel
theorem dX0_addBox_31 : decode cX0_addBox 31 = .ok (.iastore, 1) := by decide +kernel
theorem dX0_addBox_32 : decode cX0_addBox 32 = .ok (.aload_n 0, 1) := by decide +kernel
theorem dX0_addBox_33 : decode cX0_addBox 33 = .ok (.dup, 1) := by decide +kernel
theorem dX0_addBox_34 : decode cX0_addBox 34 = .ok (.getfield 35, 3) := by decide +kernel
theorem dX0_addBox_37 : decode cX0_addBox 37 = .ok (.iconst 1, 1) := by decide +kernel
theorem dX0_addBox_38 : decode cX0_addBox 38 = .ok (.iadd, 1) := by decide +kernel
theorem dX0_addBox_39 : decode cX0_addBox 39 = .ok (.putfield 35, 3) := by decide +kernel
theorem dX0_addBox_42 : decode cX0_addBox 42 = .ok (.iload 4, 2) := by decide +kernel
theorem dX0_addBox_44 : decode cX0_addBox 44 = .ok (.ireturn, 1) := by decide +kernel
def rm_X0_addBox : Room := { frames := 1, cells := 0, slots := 0, locals := 16 }
set_option maxHeartbeats 4000000 in
set_option maxRecDepth 100000 in
theorem c_X0_addBox (l : Launch) {nb : Nat} {G : zG} {ad : Nat → Nat} {σ σ' : zs} {a1 a2 a3 : Int32} {r : Int32} (hf : f_X0_addBox σ a1 a2 a3 = some (r, σ')) : zMi l yX0_addBox wsX0_addBox rm_X0_addBox G (zS nb) ad σ [.ref (ad 14), .int a1, .int a2, .int a3] r σ' := by
  intro sz
  refine Met.ofW (cc := cX0_addBox) (maxL := 5) (ret := (some .int)) (by decide) rfl ?_
  intro p e s m args below meth c s₁ B hml hv
  obtain ⟨rfl, hsz, hv⟩ := hv
  have hx := B.exec
  have hb := B.bytes
  have hr := B.returns
  have hts := atoms_spec (ws := wsX0_addBox) B.pre
  have hown : s.vm.findClass RX0 = some m.cls := findClass_of_methodNamed B.named
  have hlocks := B.notSynchronized
  subst hsz
  have B := zB_start hv
  have hinRX0 : ∀ w ∈ wsX00, w ∈ wsX0_addBox := by decide +kernel
  have hl := lv_entry ([.ref (ad 14), .int a1, .int a2, .int a3]) (n := 5) (Nat.le_of_ble_eq_true rfl)
  rw [lg_entry_eq]
  generalize (lg_sl ([.ref (ad 14), .int a1, .int a2, .int a3]) ++ List.replicate (5 - (lg_sl ([.ref (ad 14), .int a1, .int a2, .int a3])).length) Slot.unset).toArray = ls at hl ⊢
  have hl : lv_has ls 5 [(0, .ref (ad 14)), (1, .int a1), (2, .int a2), (3, .int a3)] := hl
  generalize hAe : zA ad (zS nb).length s.heap.size = A at B ⊢
  unfold f_X0_addBox at hf
  refine lv_aload_n hx hb dX0_addBox_0 rfl (lv_at hl 0 rfl) ?_
  refine z_geti hx hb hts hinRX0 hown B 14 3 rfl rfl rfl (by decide) (by decide +kernel) rfl dX0_addBox_1 ?_
  refine lv_istore (lv' := [(4, .int (σ 14 3)), (0, .ref (ad 14)), (1, .int a1), (2, .int a2), (3, .int a3)]) hx hb dX0_addBox_4 hl (by decide) rfl (fun ls hl => ?_)
  refine lv_aload_n hx hb dX0_addBox_6 rfl (lv_at hl 1 rfl) ?_
  refine z_getr hx hb hts hinRX0 hown B 14 4 17 rfl rfl rfl (by decide) (by decide +kernel) rfl dX0_addBox_7 ?_
  refine lv_iload hx hb dX0_addBox_10 (lv_at hl 0 rfl) ?_
  refine lv_iload_n hx hb dX0_addBox_12 rfl (lv_at hl 3 rfl) ?_
  obtain ⟨hg, hf⟩ := zg_some hf
  refine z_iast hx hb B 17 rfl (zin_ok hg) dX0_addBox_13 (fun H locs B => ?_)
  refine lv_aload_n hx hb dX0_addBox_14 rfl (lv_at hl 1 rfl) ?_
  refine z_getr hx hb hts hinRX0 hown B 14 5 18 rfl rfl rfl (by decide) (by decide +kernel) rfl dX0_addBox_15 ?_
  refine lv_iload hx hb dX0_addBox_18 (lv_at hl 0 rfl) ?_
  refine lv_iload_n hx hb dX0_addBox_20 rfl (lv_at hl 4 rfl) ?_
  obtain ⟨hg, hf⟩ := zg_some hf
  refine z_iast hx hb B 18 rfl (zin_ok hg) dX0_addBox_21 (fun H locs B => ?_)
  refine lv_aload_n hx hb dX0_addBox_22 rfl (lv_at hl 1 rfl) ?_
  refine z_getr hx hb hts hinRX0 hown B 14 6 19 rfl rfl rfl (by decide) (by decide +kernel) rfl dX0_addBox_23 ?_
  refine lv_iload hx hb dX0_addBox_26 (lv_at hl 0 rfl) ?_
  refine lv_iconst (v := (1 : Int32)) hx hb dX0_addBox_28 (by decide) ?_
  refine lv_iload_n hx hb dX0_addBox_29 rfl (lv_at hl 2 rfl) ?_
  refine lv_ishl hx hb dX0_addBox_30 ?_
  obtain ⟨hg, hf⟩ := zg_some hf
  refine z_iast hx hb B 19 rfl (zin_ok hg) dX0_addBox_31 (fun H locs B => ?_)
  refine lv_aload_n hx hb dX0_addBox_32 rfl (lv_at hl 1 rfl) ?_
  refine lv_dup hx hb dX0_addBox_33 rfl ?_
  refine z_geti hx hb hts hinRX0 hown B 14 3 rfl rfl rfl (by decide) (by decide +kernel) rfl dX0_addBox_34 ?_
  refine lv_iconst (v := (1 : Int32)) hx hb dX0_addBox_37 (by decide) ?_
  refine lv_iadd hx hb dX0_addBox_38 ?_
  refine z_puti hx hb hts hinRX0 hown tyX0 tyX0_ok nmX0 B 14 3 rfl rfl rfl (by decide) (by decide +kernel) rfl rfl rfl rfl dX0_addBox_39 (fun H locs B => ?_)
  refine lv_iload hx hb dX0_addBox_42 (lv_at hl 0 rfl) ?_
  refine W.widen (k := 0) (n := 0) (Nat.le_of_ble_eq_true rfl) (Nat.le_of_ble_eq_true rfl) ?_
  exact z_iret hx hb hr rfl hlocks B hf dX0_addBox_44
theorem dX8_hasBit_0 : decode cX8_hasBit 0 = .ok (.iload_n 0, 1) := by decide +kernel
theorem dX8_hasBit_1 : decode cX8_hasBit 1 = .ok (.iload_n 1, 1) := by decide +kernel
theorem dX8_hasBit_2 : decode cX8_hasBit 2 = .ok (.iushr, 1) := by decide +kernel
theorem dX8_hasBit_3 : decode cX8_hasBit 3 = .ok (.iconst 1, 1) := by decide +kernel
theorem dX8_hasBit_4 : decode cX8_hasBit 4 = .ok (.iand, 1) := by decide +kernel
theorem dX8_hasBit_5 : decode cX8_hasBit 5 = .ok (.ifCond .eq 7, 3) := by decide +kernel
theorem dX8_hasBit_8 : decode cX8_hasBit 8 = .ok (.iconst 1, 1) := by decide +kernel
theorem dX8_hasBit_9 : decode cX8_hasBit 9 = .ok (.goto 4, 3) := by decide +kernel
theorem dX8_hasBit_12 : decode cX8_hasBit 12 = .ok (.iconst 0, 1) := by decide +kernel
theorem dX8_hasBit_13 : decode cX8_hasBit 13 = .ok (.ireturn, 1) := by decide +kernel
def rm_X8_hasBit : Room := { frames := 1, cells := 0, slots := 0, locals := 16 }
set_option maxHeartbeats 4000000 in
set_option maxRecDepth 100000 in
theorem c_X8_hasBit (l : Launch) {nb : Nat} {G : zG} {ad : Nat → Nat} {σ σ' : zs} {a0 a1 : Int32} {r : Int32} (hf : f_X8_hasBit σ a0 a1 = some (r, σ')) : zMi l yX8_hasBit wsX8_hasBit rm_X8_hasBit G (zS nb) ad σ [.int a0, .int a1] r σ' := by
  intro sz
  refine Met.ofW (cc := cX8_hasBit) (maxL := 2) (ret := (some .boolean)) (by decide) rfl ?_
  intro p e s m args below meth c s₁ B hml hv
  obtain ⟨rfl, hsz, hv⟩ := hv
  have hx := B.exec
  have hb := B.bytes
  have hr := B.returns
  have hts := atoms_spec (ws := wsX8_hasBit) B.pre
  have hown : s.vm.findClass RX8 = some m.cls := findClass_of_methodNamed B.named
  have hlocks := B.notSynchronized
  subst hsz
  have B := zB_start hv
  have hl := lv_entry ([.int a0, .int a1]) (n := 2) (Nat.le_of_ble_eq_true rfl)
  rw [lg_entry_eq]
  generalize (lg_sl ([.int a0, .int a1]) ++ List.replicate (2 - (lg_sl ([.int a0, .int a1])).length) Slot.unset).toArray = ls at hl ⊢
  have hl : lv_has ls 2 [(0, .int a0), (1, .int a1)] := hl
  generalize hAe : zA ad (zS nb).length s.heap.size = A at B ⊢
  unfold f_X8_hasBit at hf
  refine lv_iload_n hx hb dX8_hasBit_0 rfl (lv_at hl 0 rfl) ?_
  refine lv_iload_n hx hb dX8_hasBit_1 rfl (lv_at hl 1 rfl) ?_
  refine lv_iushr (v := (a0.toUInt32 >>> (a1.toUInt32 &&& Int32.toUInt32 31)).toInt32) hx hb dX8_hasBit_2 rfl ?_
  refine lv_iconst (v := (1 : Int32)) hx hb dX8_hasBit_3 (by decide) ?_
  refine lv_iand hx hb dX8_hasBit_4 ?_
  refine lv_if_eq (tgt := 12) hx hb dX8_hasBit_5 (by decide) (fun hc => ?_) (fun hc => ?_)
  · have hf := zif_t hc hf
    refine lv_iconst (v := (0 : Int32)) hx hb dX8_hasBit_12 (by decide) ?_
    refine W.widen (k := 0) (n := 0) (Nat.le_of_ble_eq_true rfl) (Nat.le_of_ble_eq_true rfl) ?_
    exact z_iret hx hb hr (by decide) hlocks B hf dX8_hasBit_13
  · have hf := zif_f hc hf
    refine lv_iconst (v := (1 : Int32)) hx hb dX8_hasBit_8 (by decide) ?_
    refine lv_goto (tgt := 13) hx hb dX8_hasBit_9 (by decide) ?_
    refine W.widen (k := 0) (n := 0) (Nat.le_of_ble_eq_true rfl) (Nat.le_of_ble_eq_true rfl) ?_
    exact z_iret hx hb hr (by decide) hlocks B hf dX8_hasBit_13
theorem dX0_canOpen_0 : decode cX0_canOpen 0 = .ok (.aload_n 0, 1) := by decide +kernel
theorem dX0_canOpen_1 : decode cX0_canOpen 1 = .ok (.getfield 24, 3) := by decide +kernel
theorem dX0_canOpen_4 : decode cX0_canOpen 4 = .ok (.iload_n 2, 1) := by decide +kernel
theorem dX0_canOpen_5 : decode cX0_canOpen 5 = .ok (.iaload, 1) := by decide +kernel
theorem dX0_canOpen_6 : decode cX0_canOpen 6 = .ok (.iload_n 1, 1) := by decide +kernel
theorem dX0_canOpen_7 : decode cX0_canOpen 7 = .ok (.invokestatic 38, 3) := by decide +kernel
theorem dX0_canOpen_10 : decode cX0_canOpen 10 = .ok (.ifCond .eq 25, 3) := by decide +kernel
theorem dX0_canOpen_13 : decode cX0_canOpen 13 = .ok (.aload_n 0, 1) := by decide +kernel
theorem dX0_canOpen_14 : decode cX0_canOpen 14 = .ok (.getfield 15, 3) := by decide +kernel
theorem dX0_canOpen_17 : decode cX0_canOpen 17 = .ok (.aload_n 0, 1) := by decide +kernel
theorem dX0_canOpen_18 : decode cX0_canOpen 18 = .ok (.getfield 18, 3) := by decide +kernel
theorem dX0_canOpen_21 : decode cX0_canOpen 21 = .ok (.iload_n 2, 1) := by decide +kernel
theorem dX0_canOpen_22 : decode cX0_canOpen 22 = .ok (.iaload, 1) := by decide +kernel
theorem dX0_canOpen_23 : decode cX0_canOpen 23 = .ok (.iaload, 1) := by decide +kernel
theorem dX0_canOpen_24 : decode cX0_canOpen 24 = .ok (.iload_n 1, 1) := by decide +kernel
theorem dX0_canOpen_25 : decode cX0_canOpen 25 = .ok (.invokestatic 38, 3) := by decide +kernel
theorem dX0_canOpen_28 : decode cX0_canOpen 28 = .ok (.ifCond .eq 7, 3) := by decide +kernel
theorem dX0_canOpen_31 : decode cX0_canOpen 31 = .ok (.iconst 1, 1) := by decide +kernel
theorem dX0_canOpen_32 : decode cX0_canOpen 32 = .ok (.goto 4, 3) := by decide +kernel
theorem dX0_canOpen_35 : decode cX0_canOpen 35 = .ok (.iconst 0, 1) := by decide +kernel
theorem dX0_canOpen_36 : decode cX0_canOpen 36 = .ok (.ireturn, 1) := by decide +kernel
set_option maxRecDepth 20000 in
theorem ggX0_canOpen_X8_hasBit : GoodIn wsX0_canOpen wsX8_hasBit := goodIn_r _ [6] (by decide +kernel) (by decide +kernel)
set_option maxRecDepth 20000 in
theorem gX0_canOpen_X8_hasBit_n38 : GoodIn wsX0_canOpen (wsX8_hasBit) := ggX0_canOpen_X8_hasBit
def rm_X0_canOpen : Room := { frames := 2, cells := 0, slots := 0, locals := 37 }
set_option maxHeartbeats 4000000 in
set_option maxRecDepth 100000 in
theorem c_X0_canOpen (l : Launch) {nb : Nat} {G : zG} {ad : Nat → Nat} {σ σ' : zs} {a1 a2 : Int32} {r : Int32} (hf : f_X0_canOpen σ a1 a2 = some (r, σ')) : zMi l yX0_canOpen wsX0_canOpen rm_X0_canOpen G (zS nb) ad σ [.ref (ad 14), .int a1, .int a2] r σ' := by
  intro sz
  refine Met.ofW (cc := cX0_canOpen) (maxL := 3) (ret := (some .boolean)) (by decide) rfl ?_
  intro p e s m args below meth c s₁ B hml hv
  obtain ⟨rfl, hsz, hv⟩ := hv
  have hx := B.exec
  have hb := B.bytes
  have hr := B.returns
  have hts := atoms_spec (ws := wsX0_canOpen) B.pre
  have hown : s.vm.findClass RX0 = some m.cls := findClass_of_methodNamed B.named
  have hlocks := B.notSynchronized
  subst hsz
  have B := zB_start hv
  have hinRX0 : ∀ w ∈ wsX00, w ∈ wsX0_canOpen := by decide +kernel
  have hl := lv_entry ([.ref (ad 14), .int a1, .int a2]) (n := 3) (Nat.le_of_ble_eq_true rfl)
  rw [lg_entry_eq]
  generalize (lg_sl ([.ref (ad 14), .int a1, .int a2]) ++ List.replicate (3 - (lg_sl ([.ref (ad 14), .int a1, .int a2])).length) Slot.unset).toArray = ls at hl ⊢
  have hl : lv_has ls 3 [(0, .ref (ad 14)), (1, .int a1), (2, .int a2)] := hl
  generalize hAe : zA ad (zS nb).length s.heap.size = A at B ⊢
  unfold f_X0_canOpen at hf
  refine lv_aload_n hx hb dX0_canOpen_0 rfl (lv_at hl 0 rfl) ?_
  refine z_getr hx hb hts hinRX0 hown B 14 6 19 rfl rfl rfl (by decide) (by decide +kernel) rfl dX0_canOpen_1 ?_
  refine lv_iload_n hx hb dX0_canOpen_4 rfl (lv_at hl 2 rfl) ?_
  obtain ⟨hg, hf⟩ := zg_some hf
  refine z_iald hx hb B 19 rfl (zin_ok hg) dX0_canOpen_5 ?_
  refine lv_iload_n hx hb dX0_canOpen_6 rfl (lv_at hl 1 rfl) ?_
  obtain ⟨r2, σ3, hu1, hf⟩ := zb_some hf
  refine z_i B (va_runSN (As := [.int (σ 19 a2.toNatClampNeg), .int a1]) (rest := []) ⟨hx, hb, hml, hown, hts⟩ (c_X8_hasBit l hu1 _) ⟨va_cnB 2 hts gX0_canOpen_X8_hasBit_n38 rfl rfl rfl (z_nest B (q := (RX0, 38, yX8_hasBit)) (by decide +kernel)) (hts (.initialized RX8) (by decide +kernel)) (by decide +kernel) ⟨Nat.le_of_ble_eq_true rfl, Nat.le_of_ble_eq_true rfl⟩, hts (.static yX8_hasBit) (by decide +kernel), trivial⟩ (z_preS B) rfl rfl hl.1 rfl (lv_room (Nat.le_of_ble_eq_true rfl)) dX0_canOpen_7 ⟨Nat.le_of_ble_eq_true rfl, Nat.le_of_ble_eq_true rfl⟩) (fun H locs B => ?_)
  refine lv_if_eq (tgt := 35) hx hb dX0_canOpen_10 (by decide) (fun hc => ?_) (fun hc => ?_)
  · have hf := zif_t hc hf
    refine lv_iconst (v := (0 : Int32)) hx hb dX0_canOpen_35 (by decide) ?_
    refine W.widen (k := 0) (n := 0) (Nat.le_of_ble_eq_true rfl) (Nat.le_of_ble_eq_true rfl) ?_
    exact z_iret hx hb hr (by decide) hlocks B hf dX0_canOpen_36
  · have hf := zif_f hc hf
    refine lv_aload_n hx hb dX0_canOpen_13 rfl (lv_at hl 0 rfl) ?_
    refine z_getr hx hb hts hinRX0 hown B 14 2 16 rfl rfl rfl (by decide) (by decide +kernel) rfl dX0_canOpen_14 ?_
    refine lv_aload_n hx hb dX0_canOpen_17 rfl (lv_at hl 0 rfl) ?_
    refine z_getr hx hb hts hinRX0 hown B 14 4 17 rfl rfl rfl (by decide) (by decide +kernel) rfl dX0_canOpen_18 ?_
    refine lv_iload_n hx hb dX0_canOpen_21 rfl (lv_at hl 2 rfl) ?_
    obtain ⟨hg, hf⟩ := zg_some hf
    refine z_iald hx hb B 17 rfl (zin_ok hg) dX0_canOpen_22 ?_
    obtain ⟨hg, hf⟩ := zg_some hf
    refine z_iald hx hb B 16 rfl (zin_ok hg) dX0_canOpen_23 ?_
    refine lv_iload_n hx hb dX0_canOpen_24 rfl (lv_at hl 1 rfl) ?_
    obtain ⟨r5, σ6, hu4, hf⟩ := zb_some hf
    refine z_i B (va_runSN (As := [.int (σ3 16 (σ3 17 a2.toNatClampNeg).toNatClampNeg), .int a1]) (rest := []) ⟨hx, hb, hml, hown, hts⟩ (c_X8_hasBit l hu4 _) ⟨va_cnB 2 hts gX0_canOpen_X8_hasBit_n38 rfl rfl rfl (z_nest B (q := (RX0, 38, yX8_hasBit)) (by decide +kernel)) (hts (.initialized RX8) (by decide +kernel)) (by decide +kernel) ⟨Nat.le_of_ble_eq_true rfl, Nat.le_of_ble_eq_true rfl⟩, hts (.static yX8_hasBit) (by decide +kernel), trivial⟩ (z_preS B) rfl rfl hl.1 rfl (lv_room (Nat.le_of_ble_eq_true rfl)) dX0_canOpen_25 ⟨Nat.le_of_ble_eq_true rfl, Nat.le_of_ble_eq_true rfl⟩) (fun H locs B => ?_)
    refine lv_if_eq (tgt := 35) hx hb dX0_canOpen_28 (by decide) (fun hc => ?_) (fun hc => ?_)
    · have hf := zif_t hc hf
      refine lv_iconst (v := (0 : Int32)) hx hb dX0_canOpen_35 (by decide) ?_
      refine W.widen (k := 0) (n := 0) (Nat.le_of_ble_eq_true rfl) (Nat.le_of_ble_eq_true rfl) ?_
      exact z_iret hx hb hr (by decide) hlocks B hf dX0_canOpen_36
    · have hf := zif_f hc hf
      refine lv_iconst (v := (1 : Int32)) hx hb dX0_canOpen_31 (by decide) ?_
      refine lv_goto (tgt := 36) hx hb dX0_canOpen_32 (by decide) ?_
      refine W.widen (k := 0) (n := 0) (Nat.le_of_ble_eq_true rfl) (Nat.le_of_ble_eq_true rfl) ?_
      exact z_iret hx hb hr (by decide) hlocks B hf dX0_canOpen_36
theorem dX1_clear_0 : decode cX1_clear 0 = .ok (.aload_n 0, 1) := by decide +kernel
theorem dX1_clear_1 : decode cX1_clear 1 = .ok (.iconst 0, 1) := by decide +kernel
theorem dX1_clear_2 : decode cX1_clear 2 = .ok (.putfield 29, 3) := by decide +kernel
theorem dX1_clear_5 : decode cX1_clear 5 = .ok (.return_, 1) := by decide +kernel
def rm_X1_clear : Room := { frames := 1, cells := 0, slots := 0, locals := 16 }
set_option maxHeartbeats 4000000 in
set_option maxRecDepth 100000 in
theorem c_X1_clear (l : Launch) {nb : Nat} {G : zG} {ad : Nat → Nat} {σ σ' : zs} {r : Int32} (hf : f_X1_clear σ  = some (r, σ')) : zMv l yX1_clear wsX1_clear rm_X1_clear G (zS nb) ad σ [.ref (ad 52)] σ' := by
  intro sz
  refine Met.ofW (cc := cX1_clear) (maxL := 1) (ret := none) (by decide) rfl ?_
  intro p e s m args below meth c s₁ B hml hv
  obtain ⟨rfl, hsz, hv⟩ := hv
  have hx := B.exec
  have hb := B.bytes
  have hr := B.returns
  have hts := atoms_spec (ws := wsX1_clear) B.pre
  have hown : s.vm.findClass RX1 = some m.cls := findClass_of_methodNamed B.named
  have hlocks := B.notSynchronized
  subst hsz
  have B := zB_start hv
  have hinRX1 : ∀ w ∈ wsX10, w ∈ wsX1_clear := by decide +kernel
  have hl := lv_entry ([.ref (ad 52)]) (n := 1) (Nat.le_of_ble_eq_true rfl)
  rw [lg_entry_eq]
  generalize (lg_sl ([.ref (ad 52)]) ++ List.replicate (1 - (lg_sl ([.ref (ad 52)])).length) Slot.unset).toArray = ls at hl ⊢
  have hl : lv_has ls 1 [(0, .ref (ad 52))] := hl
  generalize hAe : zA ad (zS nb).length s.heap.size = A at B ⊢
  unfold f_X1_clear at hf
  refine lv_aload_n hx hb dX1_clear_0 rfl (lv_at hl 0 rfl) ?_
  refine lv_iconst (v := (0 : Int32)) hx hb dX1_clear_1 (by decide) ?_
  refine z_puti hx hb hts hinRX1 hown tyX1 tyX1_ok nmX1 B 52 1 rfl rfl rfl (by decide) (by decide +kernel) rfl rfl rfl rfl dX1_clear_2 (fun H locs B => ?_)
  refine W.widen (k := 0) (n := 0) (Nat.le_of_ble_eq_true rfl) (Nat.le_of_ble_eq_true rfl) ?_
  exact z_vret hx hb hr hlocks B hf dX1_clear_5
theorem dX1_addSign_0 : decode cX1_addSign 0 = .ok (.iload_n 1, 1) := by decide +kernel
theorem dX1_addSign_1 : decode cX1_addSign 1 = .ok (.ifCond .eq 33, 3) := by decide +kernel
theorem dX1_addSign_4 : decode cX1_addSign 4 = .ok (.aload_n 0, 1) := by decide +kernel
theorem dX1_addSign_5 : decode cX1_addSign 5 = .ok (.getfield 29, 3) := by decide +kernel
theorem dX1_addSign_8 : decode cX1_addSign 8 = .ok (.bipush 40, 2) := by decide +kernel
theorem dX1_addSign_10 : decode cX1_addSign 10 = .ok (.if_icmp .ge 24, 3) := by decide +kernel
theorem dX1_addSign_13 : decode cX1_addSign 13 = .ok (.aload_n 0, 1) := by decide +kernel
theorem dX1_addSign_14 : decode cX1_addSign 14 = .ok (.getfield 9, 3) := by decide +kernel
theorem dX1_addSign_17 : decode cX1_addSign 17 = .ok (.aload_n 0, 1) := by decide +kernel
theorem dX1_addSign_18 : decode cX1_addSign 18 = .ok (.getfield 29, 3) := by decide +kernel
theorem dX1_addSign_21 : decode cX1_addSign 21 = .ok (.iload_n 1, 1) := by decide +kernel
theorem dX1_addSign_22 : decode cX1_addSign 22 = .ok (.i2c, 1) := by decide +kernel
theorem dX1_addSign_23 : decode cX1_addSign 23 = .ok (.castore, 1) := by decide +kernel
theorem dX1_addSign_24 : decode cX1_addSign 24 = .ok (.aload_n 0, 1) := by decide +kernel
theorem dX1_addSign_25 : decode cX1_addSign 25 = .ok (.dup, 1) := by decide +kernel
theorem dX1_addSign_26 : decode cX1_addSign 26 = .ok (.getfield 29, 3) := by decide +kernel
theorem dX1_addSign_29 : decode cX1_addSign 29 = .ok (.iconst 1, 1) := by decide +kernel
theorem dX1_addSign_30 : decode cX1_addSign 30 = .ok (.iadd, 1) := by decide +kernel
theorem dX1_addSign_31 : decode cX1_addSign 31 = .ok (.putfield 29, 3) := by decide +kernel
theorem dX1_addSign_34 : decode cX1_addSign 34 = .ok (.return_, 1) := by decide +kernel
def rm_X1_addSign : Room := { frames := 1, cells := 0, slots := 0, locals := 16 }
set_option maxHeartbeats 4000000 in
set_option maxRecDepth 100000 in
theorem c_X1_addSign (l : Launch) {nb : Nat} {G : zG} {ad : Nat → Nat} {σ σ' : zs} {a1 : Int32} {r : Int32} (hf : f_X1_addSign σ a1 = some (r, σ')) : zMv l yX1_addSign wsX1_addSign rm_X1_addSign G (zS nb) ad σ [.ref (ad 52), .int a1] σ' := by
  intro sz
  refine Met.ofW (cc := cX1_addSign) (maxL := 2) (ret := none) (by decide) rfl ?_
  intro p e s m args below meth c s₁ B hml hv
  obtain ⟨rfl, hsz, hv⟩ := hv
  have hx := B.exec
  have hb := B.bytes
  have hr := B.returns
  have hts := atoms_spec (ws := wsX1_addSign) B.pre
  have hown : s.vm.findClass RX1 = some m.cls := findClass_of_methodNamed B.named
  have hlocks := B.notSynchronized
  subst hsz
  have B := zB_start hv
  have hinRX1 : ∀ w ∈ wsX10, w ∈ wsX1_addSign := by decide +kernel
  have hl := lv_entry ([.ref (ad 52), .int a1]) (n := 2) (Nat.le_of_ble_eq_true rfl)
  rw [lg_entry_eq]
  generalize (lg_sl ([.ref (ad 52), .int a1]) ++ List.replicate (2 - (lg_sl ([.ref (ad 52), .int a1])).length) Slot.unset).toArray = ls at hl ⊢
  have hl : lv_has ls 2 [(0, .ref (ad 52)), (1, .int a1)] := hl
  generalize hAe : zA ad (zS nb).length s.heap.size = A at B ⊢
  unfold f_X1_addSign at hf
  refine lv_iload_n hx hb dX1_addSign_0 rfl (lv_at hl 1 rfl) ?_
  refine lv_if_eq (tgt := 34) hx hb dX1_addSign_1 (by decide) (fun hc => ?_) (fun hc => ?_)
  · have hf := zif_t hc hf
    refine W.widen (k := 0) (n := 0) (Nat.le_of_ble_eq_true rfl) (Nat.le_of_ble_eq_true rfl) ?_
    exact z_vret hx hb hr hlocks B hf dX1_addSign_34
  · have hf := zif_f hc hf
    refine lv_aload_n hx hb dX1_addSign_4 rfl (lv_at hl 0 rfl) ?_
    refine z_geti hx hb hts hinRX1 hown B 52 1 rfl rfl rfl (by decide) (by decide +kernel) rfl dX1_addSign_5 ?_
    refine lv_bipush (v := (40 : Int32)) hx hb dX1_addSign_8 (by decide) ?_
    refine lv_icmp_ge (tgt := 34) hx hb dX1_addSign_10 (by decide) (fun hc => ?_) (fun hc => ?_)
    · have hf := zif_t hc hf
      refine W.widen (k := 0) (n := 0) (Nat.le_of_ble_eq_true rfl) (Nat.le_of_ble_eq_true rfl) ?_
      exact z_vret hx hb hr hlocks B hf dX1_addSign_34
    · have hf := zif_f hc hf
      refine lv_aload_n hx hb dX1_addSign_13 rfl (lv_at hl 0 rfl) ?_
      refine z_getr hx hb hts hinRX1 hown B 52 0 53 rfl rfl rfl (by decide) (by decide +kernel) rfl dX1_addSign_14 ?_
      refine lv_aload_n hx hb dX1_addSign_17 rfl (lv_at hl 0 rfl) ?_
      refine z_geti hx hb hts hinRX1 hown B 52 1 rfl rfl rfl (by decide) (by decide +kernel) rfl dX1_addSign_18 ?_
      refine lv_iload_n hx hb dX1_addSign_21 rfl (lv_at hl 1 rfl) ?_
      refine lv_i2c (v := (a1.toUInt32 % 65536).toInt32) hx hb dX1_addSign_22 rfl ?_
      obtain ⟨hg, hf⟩ := zg_some hf
      refine z_cast hx hb B 53 rfl (zin_ok hg) dX1_addSign_23 (fun H locs B => ?_)
      refine lv_aload_n hx hb dX1_addSign_24 rfl (lv_at hl 0 rfl) ?_
      refine lv_dup hx hb dX1_addSign_25 rfl ?_
      refine z_geti hx hb hts hinRX1 hown B 52 1 rfl rfl rfl (by decide) (by decide +kernel) rfl dX1_addSign_26 ?_
      refine lv_iconst (v := (1 : Int32)) hx hb dX1_addSign_29 (by decide) ?_
      refine lv_iadd hx hb dX1_addSign_30 ?_
      refine z_puti hx hb hts hinRX1 hown tyX1 tyX1_ok nmX1 B 52 1 rfl rfl rfl (by decide) (by decide +kernel) rfl rfl rfl rfl dX1_addSign_31 (fun H locs B => ?_)
      refine W.widen (k := 0) (n := 0) (Nat.le_of_ble_eq_true rfl) (Nat.le_of_ble_eq_true rfl) ?_
      exact z_vret hx hb hr hlocks B hf dX1_addSign_34
theorem dX1_isNext_0 : decode cX1_isNext 0 = .ok (.aload_n 0, 1) := by decide +kernel
theorem dX1_isNext_1 : decode cX1_isNext 1 = .ok (.getfield 32, 3) := by decide +kernel
theorem dX1_isNext_4 : decode cX1_isNext 4 = .ok (.aload_n 0, 1) := by decide +kernel
theorem dX1_isNext_5 : decode cX1_isNext 5 = .ok (.getfield 29, 3) := by decide +kernel
theorem dX1_isNext_8 : decode cX1_isNext 8 = .ok (.if_icmp .ge 20, 3) := by decide +kernel
theorem dX1_isNext_11 : decode cX1_isNext 11 = .ok (.aload_n 0, 1) := by decide +kernel
theorem dX1_isNext_12 : decode cX1_isNext 12 = .ok (.getfield 9, 3) := by decide +kernel
theorem dX1_isNext_15 : decode cX1_isNext 15 = .ok (.aload_n 0, 1) := by decide +kernel
theorem dX1_isNext_16 : decode cX1_isNext 16 = .ok (.getfield 32, 3) := by decide +kernel
theorem dX1_isNext_19 : decode cX1_isNext 19 = .ok (.caload, 1) := by decide +kernel
theorem dX1_isNext_20 : decode cX1_isNext 20 = .ok (.iload_n 1, 1) := by decide +kernel
theorem dX1_isNext_21 : decode cX1_isNext 21 = .ok (.if_icmp .ne 7, 3) := by decide +kernel
theorem dX1_isNext_24 : decode cX1_isNext 24 = .ok (.iconst 1, 1) := by decide +kernel
theorem dX1_isNext_25 : decode cX1_isNext 25 = .ok (.goto 4, 3) := by decide +kernel
theorem dX1_isNext_28 : decode cX1_isNext 28 = .ok (.iconst 0, 1) := by decide +kernel
theorem dX1_isNext_29 : decode cX1_isNext 29 = .ok (.ireturn, 1) := by decide +kernel
def rm_X1_isNext : Room := { frames := 1, cells := 0, slots := 0, locals := 16 }
set_option maxHeartbeats 4000000 in
set_option maxRecDepth 100000 in
theorem c_X1_isNext (l : Launch) {nb : Nat} {G : zG} {ad : Nat → Nat} {σ σ' : zs} {a1 : Int32} {r : Int32} (hf : f_X1_isNext σ a1 = some (r, σ')) : zMi l yX1_isNext wsX1_isNext rm_X1_isNext G (zS nb) ad σ [.ref (ad 52), .int a1] r σ' := by
  intro sz
  refine Met.ofW (cc := cX1_isNext) (maxL := 2) (ret := (some .boolean)) (by decide) rfl ?_
  intro p e s m args below meth c s₁ B hml hv
  obtain ⟨rfl, hsz, hv⟩ := hv
  have hx := B.exec
  have hb := B.bytes
  have hr := B.returns
  have hts := atoms_spec (ws := wsX1_isNext) B.pre
  have hown : s.vm.findClass RX1 = some m.cls := findClass_of_methodNamed B.named
  have hlocks := B.notSynchronized
  subst hsz
  have B := zB_start hv
  have hinRX1 : ∀ w ∈ wsX10, w ∈ wsX1_isNext := by decide +kernel
  have hl := lv_entry ([.ref (ad 52), .int a1]) (n := 2) (Nat.le_of_ble_eq_true rfl)
  rw [lg_entry_eq]
  generalize (lg_sl ([.ref (ad 52), .int a1]) ++ List.replicate (2 - (lg_sl ([.ref (ad 52), .int a1])).length) Slot.unset).toArray = ls at hl ⊢
  have hl : lv_has ls 2 [(0, .ref (ad 52)), (1, .int a1)] := hl
  generalize hAe : zA ad (zS nb).length s.heap.size = A at B ⊢
  unfold f_X1_isNext at hf
  refine lv_aload_n hx hb dX1_isNext_0 rfl (lv_at hl 0 rfl) ?_
  refine z_geti hx hb hts hinRX1 hown B 52 7 rfl rfl rfl (by decide) (by decide +kernel) rfl dX1_isNext_1 ?_
  refine lv_aload_n hx hb dX1_isNext_4 rfl (lv_at hl 0 rfl) ?_
  refine z_geti hx hb hts hinRX1 hown B 52 1 rfl rfl rfl (by decide) (by decide +kernel) rfl dX1_isNext_5 ?_
  refine lv_icmp_ge (tgt := 28) hx hb dX1_isNext_8 (by decide) (fun hc => ?_) (fun hc => ?_)
  · have hf := zif_t hc hf
    refine lv_iconst (v := (0 : Int32)) hx hb dX1_isNext_28 (by decide) ?_
    refine W.widen (k := 0) (n := 0) (Nat.le_of_ble_eq_true rfl) (Nat.le_of_ble_eq_true rfl) ?_
    exact z_iret hx hb hr (by decide) hlocks B hf dX1_isNext_29
  · have hf := zif_f hc hf
    refine lv_aload_n hx hb dX1_isNext_11 rfl (lv_at hl 0 rfl) ?_
    refine z_getr hx hb hts hinRX1 hown B 52 0 53 rfl rfl rfl (by decide) (by decide +kernel) rfl dX1_isNext_12 ?_
    refine lv_aload_n hx hb dX1_isNext_15 rfl (lv_at hl 0 rfl) ?_
    refine z_geti hx hb hts hinRX1 hown B 52 7 rfl rfl rfl (by decide) (by decide +kernel) rfl dX1_isNext_16 ?_
    obtain ⟨hg, hf⟩ := zg_some hf
    refine z_cald hx hb B 53 rfl (zin_ok hg) dX1_isNext_19 ?_
    refine lv_iload_n hx hb dX1_isNext_20 rfl (lv_at hl 1 rfl) ?_
    refine lv_icmp_ne (tgt := 28) hx hb dX1_isNext_21 (by decide) (fun hc => ?_) (fun hc => ?_)
    · have hf := zif_f hc hf
      refine lv_iconst (v := (0 : Int32)) hx hb dX1_isNext_28 (by decide) ?_
      refine W.widen (k := 0) (n := 0) (Nat.le_of_ble_eq_true rfl) (Nat.le_of_ble_eq_true rfl) ?_
      exact z_iret hx hb hr (by decide) hlocks B hf dX1_isNext_29
    · have hf := zif_t hc hf
      refine lv_iconst (v := (1 : Int32)) hx hb dX1_isNext_24 (by decide) ?_
      refine lv_goto (tgt := 29) hx hb dX1_isNext_25 (by decide) ?_
      refine W.widen (k := 0) (n := 0) (Nat.le_of_ble_eq_true rfl) (Nat.le_of_ble_eq_true rfl) ?_
      exact z_iret hx hb hr (by decide) hlocks B hf dX1_isNext_29
theorem dX1_isDigitNext_0 : decode cX1_isDigitNext 0 = .ok (.aload_n 0, 1) := by decide +kernel
theorem dX1_isDigitNext_1 : decode cX1_isDigitNext 1 = .ok (.getfield 32, 3) := by decide +kernel
theorem dX1_isDigitNext_4 : decode cX1_isDigitNext 4 = .ok (.aload_n 0, 1) := by decide +kernel
theorem dX1_isDigitNext_5 : decode cX1_isDigitNext 5 = .ok (.getfield 29, 3) := by decide +kernel
theorem dX1_isDigitNext_8 : decode cX1_isDigitNext 8 = .ok (.if_icmp .ge 35, 3) := by decide +kernel
theorem dX1_isDigitNext_11 : decode cX1_isDigitNext 11 = .ok (.aload_n 0, 1) := by decide +kernel
theorem dX1_isDigitNext_12 : decode cX1_isDigitNext 12 = .ok (.getfield 9, 3) := by decide +kernel
theorem dX1_isDigitNext_15 : decode cX1_isDigitNext 15 = .ok (.aload_n 0, 1) := by decide +kernel
theorem dX1_isDigitNext_16 : decode cX1_isDigitNext 16 = .ok (.getfield 32, 3) := by decide +kernel
theorem dX1_isDigitNext_19 : decode cX1_isDigitNext 19 = .ok (.caload, 1) := by decide +kernel
theorem dX1_isDigitNext_20 : decode cX1_isDigitNext 20 = .ok (.bipush 48, 2) := by decide +kernel
theorem dX1_isDigitNext_22 : decode cX1_isDigitNext 22 = .ok (.if_icmp .lt 21, 3) := by decide +kernel
theorem dX1_isDigitNext_25 : decode cX1_isDigitNext 25 = .ok (.aload_n 0, 1) := by decide +kernel
theorem dX1_isDigitNext_26 : decode cX1_isDigitNext 26 = .ok (.getfield 9, 3) := by decide +kernel
theorem dX1_isDigitNext_29 : decode cX1_isDigitNext 29 = .ok (.aload_n 0, 1) := by decide +kernel
theorem dX1_isDigitNext_30 : decode cX1_isDigitNext 30 = .ok (.getfield 32, 3) := by decide +kernel
theorem dX1_isDigitNext_33 : decode cX1_isDigitNext 33 = .ok (.caload, 1) := by decide +kernel
theorem dX1_isDigitNext_34 : decode cX1_isDigitNext 34 = .ok (.bipush 57, 2) := by decide +kernel
theorem dX1_isDigitNext_36 : decode cX1_isDigitNext 36 = .ok (.if_icmp .gt 7, 3) := by decide +kernel
theorem dX1_isDigitNext_39 : decode cX1_isDigitNext 39 = .ok (.iconst 1, 1) := by decide +kernel
theorem dX1_isDigitNext_40 : decode cX1_isDigitNext 40 = .ok (.goto 4, 3) := by decide +kernel
theorem dX1_isDigitNext_43 : decode cX1_isDigitNext 43 = .ok (.iconst 0, 1) := by decide +kernel
theorem dX1_isDigitNext_44 : decode cX1_isDigitNext 44 = .ok (.ireturn, 1) := by decide +kernel
def rm_X1_isDigitNext : Room := { frames := 1, cells := 0, slots := 0, locals := 16 }
set_option maxHeartbeats 4000000 in
set_option maxRecDepth 100000 in
theorem c_X1_isDigitNext (l : Launch) {nb : Nat} {G : zG} {ad : Nat → Nat} {σ σ' : zs} {r : Int32} (hf : f_X1_isDigitNext σ  = some (r, σ')) : zMi l yX1_isDigitNext wsX1_isDigitNext rm_X1_isDigitNext G (zS nb) ad σ [.ref (ad 52)] r σ' := by
  intro sz
  refine Met.ofW (cc := cX1_isDigitNext) (maxL := 1) (ret := (some .boolean)) (by decide) rfl ?_
  intro p e s m args below meth c s₁ B hml hv
  obtain ⟨rfl, hsz, hv⟩ := hv
  have hx := B.exec
  have hb := B.bytes
  have hr := B.returns
  have hts := atoms_spec (ws := wsX1_isDigitNext) B.pre
  have hown : s.vm.findClass RX1 = some m.cls := findClass_of_methodNamed B.named
  have hlocks := B.notSynchronized
  subst hsz
  have B := zB_start hv
  have hinRX1 : ∀ w ∈ wsX10, w ∈ wsX1_isDigitNext := by decide +kernel
  have hl := lv_entry ([.ref (ad 52)]) (n := 1) (Nat.le_of_ble_eq_true rfl)
  rw [lg_entry_eq]
  generalize (lg_sl ([.ref (ad 52)]) ++ List.replicate (1 - (lg_sl ([.ref (ad 52)])).length) Slot.unset).toArray = ls at hl ⊢
  have hl : lv_has ls 1 [(0, .ref (ad 52))] := hl
  generalize hAe : zA ad (zS nb).length s.heap.size = A at B ⊢
  unfold f_X1_isDigitNext at hf
  refine lv_aload_n hx hb dX1_isDigitNext_0 rfl (lv_at hl 0 rfl) ?_
  refine z_geti hx hb hts hinRX1 hown B 52 7 rfl rfl rfl (by decide) (by decide +kernel) rfl dX1_isDigitNext_1 ?_
  refine lv_aload_n hx hb dX1_isDigitNext_4 rfl (lv_at hl 0 rfl) ?_
  refine z_geti hx hb hts hinRX1 hown B 52 1 rfl rfl rfl (by decide) (by decide +kernel) rfl dX1_isDigitNext_5 ?_
  refine lv_icmp_ge (tgt := 43) hx hb dX1_isDigitNext_8 (by decide) (fun hc => ?_) (fun hc => ?_)
  · have hf := zif_t hc hf
    refine lv_iconst (v := (0 : Int32)) hx hb dX1_isDigitNext_43 (by decide) ?_
    refine W.widen (k := 0) (n := 0) (Nat.le_of_ble_eq_true rfl) (Nat.le_of_ble_eq_true rfl) ?_
    exact z_iret hx hb hr (by decide) hlocks B hf dX1_isDigitNext_44
  · have hf := zif_f hc hf
    refine lv_aload_n hx hb dX1_isDigitNext_11 rfl (lv_at hl 0 rfl) ?_
    refine z_getr hx hb hts hinRX1 hown B 52 0 53 rfl rfl rfl (by decide) (by decide +kernel) rfl dX1_isDigitNext_12 ?_
    refine lv_aload_n hx hb dX1_isDigitNext_15 rfl (lv_at hl 0 rfl) ?_
    refine z_geti hx hb hts hinRX1 hown B 52 7 rfl rfl rfl (by decide) (by decide +kernel) rfl dX1_isDigitNext_16 ?_
    obtain ⟨hg, hf⟩ := zg_some hf
    refine z_cald hx hb B 53 rfl (zin_ok hg) dX1_isDigitNext_19 ?_
    refine lv_bipush (v := (48 : Int32)) hx hb dX1_isDigitNext_20 (by decide) ?_
    refine lv_icmp_lt (tgt := 43) hx hb dX1_isDigitNext_22 (by decide) (fun hc => ?_) (fun hc => ?_)
    · have hf := zif_t hc hf
      refine lv_iconst (v := (0 : Int32)) hx hb dX1_isDigitNext_43 (by decide) ?_
      refine W.widen (k := 0) (n := 0) (Nat.le_of_ble_eq_true rfl) (Nat.le_of_ble_eq_true rfl) ?_
      exact z_iret hx hb hr (by decide) hlocks B hf dX1_isDigitNext_44
    · have hf := zif_f hc hf
      refine lv_aload_n hx hb dX1_isDigitNext_25 rfl (lv_at hl 0 rfl) ?_
      refine z_getr hx hb hts hinRX1 hown B 52 0 53 rfl rfl rfl (by decide) (by decide +kernel) rfl dX1_isDigitNext_26 ?_
      refine lv_aload_n hx hb dX1_isDigitNext_29 rfl (lv_at hl 0 rfl) ?_
      refine z_geti hx hb hts hinRX1 hown B 52 7 rfl rfl rfl (by decide) (by decide +kernel) rfl dX1_isDigitNext_30 ?_
      obtain ⟨hg, hf⟩ := zg_some hf
      refine z_cald hx hb B 53 rfl (zin_ok hg) dX1_isDigitNext_33 ?_
      refine lv_bipush (v := (57 : Int32)) hx hb dX1_isDigitNext_34 (by decide) ?_
      refine lv_icmp_gt (tgt := 43) hx hb dX1_isDigitNext_36 (by decide) (fun hc => ?_) (fun hc => ?_)
      · have hf := zif_t hc hf
        refine lv_iconst (v := (0 : Int32)) hx hb dX1_isDigitNext_43 (by decide) ?_
        refine W.widen (k := 0) (n := 0) (Nat.le_of_ble_eq_true rfl) (Nat.le_of_ble_eq_true rfl) ?_
        exact z_iret hx hb hr (by decide) hlocks B hf dX1_isDigitNext_44
      · have hf := zif_f hc hf
        refine lv_iconst (v := (1 : Int32)) hx hb dX1_isDigitNext_39 (by decide) ?_
        refine lv_goto (tgt := 44) hx hb dX1_isDigitNext_40 (by decide) ?_
        refine W.widen (k := 0) (n := 0) (Nat.le_of_ble_eq_true rfl) (Nat.le_of_ble_eq_true rfl) ?_
        exact z_iret hx hb hr (by decide) hlocks B hf dX1_isDigitNext_44
theorem dX1_readNumber_0 : decode cX1_readNumber 0 = .ok (.aload_n 0, 1) := by decide +kernel
theorem dX1_readNumber_1 : decode cX1_readNumber 1 = .ok (.invokevirtual 64, 3) := by decide +kernel
theorem dX1_readNumber_4 : decode cX1_readNumber 4 = .ok (.ifCond .ne 13, 3) := by decide +kernel
theorem dX1_readNumber_7 : decode cX1_readNumber 7 = .ok (.aload_n 0, 1) := by decide +kernel
theorem dX1_readNumber_8 : decode cX1_readNumber 8 = .ok (.aload_n 0, 1) := by decide +kernel
theorem dX1_readNumber_9 : decode cX1_readNumber 9 = .ok (.getfield 32, 3) := by decide +kernel
theorem dX1_readNumber_12 : decode cX1_readNumber 12 = .ok (.putfield 15, 3) := by decide +kernel
theorem dX1_readNumber_15 : decode cX1_readNumber 15 = .ok (.iconst 0, 1) := by decide +kernel
theorem dX1_readNumber_16 : decode cX1_readNumber 16 = .ok (.ireturn, 1) := by decide +kernel
theorem dX1_readNumber_17 : decode cX1_readNumber 17 = .ok (.aload_n 0, 1) := by decide +kernel
theorem dX1_readNumber_18 : decode cX1_readNumber 18 = .ok (.bipush 48, 2) := by decide +kernel
theorem dX1_readNumber_20 : decode cX1_readNumber 20 = .ok (.invokevirtual 42, 3) := by decide +kernel
theorem dX1_readNumber_23 : decode cX1_readNumber 23 = .ok (.ifCond .eq 15, 3) := by decide +kernel
theorem dX1_readNumber_26 : decode cX1_readNumber 26 = .ok (.aload_n 0, 1) := by decide +kernel
theorem dX1_readNumber_27 : decode cX1_readNumber 27 = .ok (.dup, 1) := by decide +kernel
theorem dX1_readNumber_28 : decode cX1_readNumber 28 = .ok (.getfield 32, 3) := by decide +kernel
theorem dX1_readNumber_31 : decode cX1_readNumber 31 = .ok (.iconst 1, 1) := by decide +kernel
theorem dX1_readNumber_32 : decode cX1_readNumber 32 = .ok (.iadd, 1) := by decide +kernel
theorem dX1_readNumber_33 : decode cX1_readNumber 33 = .ok (.putfield 32, 3) := by decide +kernel
theorem dX1_readNumber_36 : decode cX1_readNumber 36 = .ok (.iconst 0, 1) := by decide +kernel
theorem dX1_readNumber_37 : decode cX1_readNumber 37 = .ok (.ireturn, 1) := by decide +kernel
theorem dX1_readNumber_38 : decode cX1_readNumber 38 = .ok (.iconst 0, 1) := by decide +kernel
theorem dX1_readNumber_39 : decode cX1_readNumber 39 = .ok (.istore_n 1, 1) := by decide +kernel
theorem dX1_readNumber_40 : decode cX1_readNumber 40 = .ok (.iconst 0, 1) := by decide +kernel
theorem dX1_readNumber_41 : decode cX1_readNumber 41 = .ok (.istore_n 2, 1) := by decide +kernel
theorem dX1_readNumber_42 : decode cX1_readNumber 42 = .ok (.iload_n 2, 1) := by decide +kernel
theorem dX1_readNumber_43 : decode cX1_readNumber 43 = .ok (.iconst 3, 1) := by decide +kernel
theorem dX1_readNumber_44 : decode cX1_readNumber 44 = .ok (.if_icmp .ge 44, 3) := by decide +kernel
theorem dX1_readNumber_47 : decode cX1_readNumber 47 = .ok (.aload_n 0, 1) := by decide +kernel
theorem dX1_readNumber_48 : decode cX1_readNumber 48 = .ok (.invokevirtual 64, 3) := by decide +kernel
theorem dX1_readNumber_51 : decode cX1_readNumber 51 = .ok (.ifCond .eq 37, 3) := by decide +kernel
theorem dX1_readNumber_54 : decode cX1_readNumber 54 = .ok (.bipush 10, 2) := by decide +kernel
theorem dX1_readNumber_56 : decode cX1_readNumber 56 = .ok (.iload_n 1, 1) := by decide +kernel
theorem dX1_readNumber_57 : decode cX1_readNumber 57 = .ok (.imul, 1) := by decide +kernel
theorem dX1_readNumber_58 : decode cX1_readNumber 58 = .ok (.aload_n 0, 1) := by decide +kernel
theorem dX1_readNumber_59 : decode cX1_readNumber 59 = .ok (.getfield 9, 3) := by decide +kernel
theorem dX1_readNumber_62 : decode cX1_readNumber 62 = .ok (.aload_n 0, 1) := by decide +kernel
theorem dX1_readNumber_63 : decode cX1_readNumber 63 = .ok (.getfield 32, 3) := by decide +kernel
theorem dX1_readNumber_66 : decode cX1_readNumber 66 = .ok (.caload, 1) := by decide +kernel
theorem dX1_readNumber_67 : decode cX1_readNumber 67 = .ok (.iadd, 1) := by decide +kernel
theorem dX1_readNumber_68 : decode cX1_readNumber 68 = .ok (.bipush 48, 2) := by decide +kernel
theorem dX1_readNumber_70 : decode cX1_readNumber 70 = .ok (.isub, 1) := by decide +kernel
theorem dX1_readNumber_71 : decode cX1_readNumber 71 = .ok (.istore_n 1, 1) := by decide +kernel
theorem dX1_readNumber_72 : decode cX1_readNumber 72 = .ok (.aload_n 0, 1) := by decide +kernel
theorem dX1_readNumber_73 : decode cX1_readNumber 73 = .ok (.dup, 1) := by decide +kernel
theorem dX1_readNumber_74 : decode cX1_readNumber 74 = .ok (.getfield 32, 3) := by decide +kernel
theorem dX1_readNumber_77 : decode cX1_readNumber 77 = .ok (.iconst 1, 1) := by decide +kernel
theorem dX1_readNumber_78 : decode cX1_readNumber 78 = .ok (.iadd, 1) := by decide +kernel
theorem dX1_readNumber_79 : decode cX1_readNumber 79 = .ok (.putfield 32, 3) := by decide +kernel
theorem dX1_readNumber_82 : decode cX1_readNumber 82 = .ok (.iinc 2 1, 3) := by decide +kernel
theorem dX1_readNumber_85 : decode cX1_readNumber 85 = .ok (.goto (-43), 3) := by decide +kernel
theorem dX1_readNumber_88 : decode cX1_readNumber 88 = .ok (.iload_n 1, 1) := by decide +kernel
theorem dX1_readNumber_89 : decode cX1_readNumber 89 = .ok (.ireturn, 1) := by decide +kernel
set_option maxRecDepth 20000 in
theorem ggX1_readNumber_X1_isDigitNext : GoodIn wsX1_readNumber wsX1_isDigitNext := goodIn_ca (goodIn_r _ [8, 1, 9, 3, 14, 15, 16, 17, 18, 19, 20, 21] (by decide +kernel) (by decide +kernel)) (goodIn_sub (fun _ h => List.mem_cons_of_mem _ (List.mem_append_right _ h)) (by decide +kernel))
set_option maxRecDepth 20000 in
theorem gX1_readNumber_X1_isDigitNext : GoodIn wsX1_readNumber (wsV RX1 64 RX1 yX1_isDigitNext wsX1_isDigitNext) := goodIn_app (goodIn_of _ (by decide +kernel)) ggX1_readNumber_X1_isDigitNext
set_option maxRecDepth 20000 in
theorem ggX1_readNumber_X1_isNext : GoodIn wsX1_readNumber wsX1_isNext := goodIn_ca (goodIn_r _ [13, 1, 9, 3, 14, 15, 16, 17, 18, 19, 20, 21] (by decide +kernel) (by decide +kernel)) (goodIn_sub (fun _ h => List.mem_cons_of_mem _ (List.mem_append_right _ h)) (by decide +kernel))
set_option maxRecDepth 20000 in
theorem gX1_readNumber_X1_isNext : GoodIn wsX1_readNumber (wsV RX1 42 RX1 yX1_isNext wsX1_isNext) := goodIn_app (goodIn_of _ (by decide +kernel)) ggX1_readNumber_X1_isNext
def rm_X1_readNumber : Room := { frames := 2, cells := 0, slots := 0, locals := 37 }
set_option maxHeartbeats 4000000 in
set_option maxRecDepth 100000 in
theorem c_X1_readNumber (l : Launch) {nb : Nat} {G : zG} {ad : Nat → Nat} {σ σ' : zs} {r : Int32} (hf : f_X1_readNumber σ  = some (r, σ')) : zMi l yX1_readNumber wsX1_readNumber rm_X1_readNumber G (zS nb) ad σ [.ref (ad 52)] r σ' := by
  intro sz
  refine Met.ofW (cc := cX1_readNumber) (maxL := 3) (ret := (some .int)) (by decide) rfl ?_
  intro p e s m args below meth c s₁ B hml hv
  obtain ⟨rfl, hsz, hv⟩ := hv
  have hx := B.exec
  have hb := B.bytes
  have hr := B.returns
  have hts := atoms_spec (ws := wsX1_readNumber) B.pre
  have hown : s.vm.findClass RX1 = some m.cls := findClass_of_methodNamed B.named
  have hlocks := B.notSynchronized
  subst hsz
  have B := zB_start hv
  have hinRX1 : ∀ w ∈ wsX10, w ∈ wsX1_readNumber := by decide +kernel
  have hl := lv_entry ([.ref (ad 52)]) (n := 3) (Nat.le_of_ble_eq_true rfl)
  rw [lg_entry_eq]
  generalize (lg_sl ([.ref (ad 52)]) ++ List.replicate (3 - (lg_sl ([.ref (ad 52)])).length) Slot.unset).toArray = ls at hl ⊢
  have hl : lv_has ls 3 [(0, .ref (ad 52))] := hl
  generalize hAe : zA ad (zS nb).length s.heap.size = A at B ⊢
  have L42 : ∀ (n : Nat) (σ : zs) (v1 : Int32) (v2 : Int32) (H : Heap) (locs : List Loc) (ls : Array Slot), zlp2 (f_X1_readNumber_42) n σ v1 v2 = some (r, σ') → zB A s G (zS nb) ad σ H locs → lv_has ls 3 [(0, .ref (ad 52)), (1, .int v1), (2, .int v2)] → W p l e (headSpec wsX1_readNumber rm_X1_readNumber).room s m ([.ref (ad 52)] : List Value).toArray below meth c H locs 0 0 (MQ below (va_Qi (fun r' (_ : Unit) => r' = r) (zPost G (zS nb) ad σ') A) ([.ref (ad 52)] : List Value).toArray s 0 0 A) (F0 m 42 ls []) := by
    intro n
    induction n with
    | zero =>
      intro σ v1 v2 H locs ls hf
      cases hf
    | succ n ih =>
      intro σ v1 v2 H locs ls hf B hl
      have hf : f_X1_readNumber_42 (zlp2 (f_X1_readNumber_42) n) σ v1 v2 = some (r, σ') := hf
      unfold f_X1_readNumber_42 at hf
      refine lv_iload_n hx hb dX1_readNumber_42 rfl (lv_at hl 2 rfl) ?_
      refine lv_iconst (v := (3 : Int32)) hx hb dX1_readNumber_43 (by decide) ?_
      refine lv_icmp_ge (tgt := 88) hx hb dX1_readNumber_44 (by decide) (fun hc => ?_) (fun hc => ?_)
      · have hf := zif_t hc hf
        refine lv_iload_n hx hb dX1_readNumber_88 rfl (lv_at hl 1 rfl) ?_
        refine W.widen (k := 0) (n := 0) (Nat.le_of_ble_eq_true rfl) (Nat.le_of_ble_eq_true rfl) ?_
        exact z_iret hx hb hr rfl hlocks B hf dX1_readNumber_89
      · have hf := zif_f hc hf
        refine lv_aload_n hx hb dX1_readNumber_47 rfl (lv_at hl 0 rfl) ?_
        obtain ⟨r8, σ9, hu7, hf⟩ := zb_some hf
        refine z_i B (va_runV (As := []) (rest := []) ⟨hx, hb, hml, hown, hts⟩ (c_X1_isDigitNext l hu7 _) (cwV 0 hts gX1_readNumber_X1_isDigitNext rfl rfl rfl (by decide +kernel) ⟨Nat.le_of_ble_eq_true rfl, Nat.le_of_ble_eq_true rfl⟩) (z_preV B rfl rfl) rfl rfl hl.1 rfl (lv_room (Nat.le_of_ble_eq_true rfl)) dX1_readNumber_48 ⟨Nat.le_of_ble_eq_true rfl, Nat.le_of_ble_eq_true rfl⟩) (fun H locs B => ?_)
        refine lv_if_eq (tgt := 88) hx hb dX1_readNumber_51 (by decide) (fun hc => ?_) (fun hc => ?_)
        · have hf := zif_t hc hf
          refine lv_iload_n hx hb dX1_readNumber_88 rfl (lv_at hl 1 rfl) ?_
          refine W.widen (k := 0) (n := 0) (Nat.le_of_ble_eq_true rfl) (Nat.le_of_ble_eq_true rfl) ?_
          exact z_iret hx hb hr rfl hlocks B hf dX1_readNumber_89
        · have hf := zif_f hc hf
          refine lv_bipush (v := (10 : Int32)) hx hb dX1_readNumber_54 (by decide) ?_
          refine lv_iload_n hx hb dX1_readNumber_56 rfl (lv_at hl 1 rfl) ?_
          refine lv_imul hx hb dX1_readNumber_57 ?_
          refine lv_aload_n hx hb dX1_readNumber_58 rfl (lv_at hl 0 rfl) ?_
          refine z_getr hx hb hts hinRX1 hown B 52 0 53 rfl rfl rfl (by decide) (by decide +kernel) rfl dX1_readNumber_59 ?_
          refine lv_aload_n hx hb dX1_readNumber_62 rfl (lv_at hl 0 rfl) ?_
          refine z_geti hx hb hts hinRX1 hown B 52 7 rfl rfl rfl (by decide) (by decide +kernel) rfl dX1_readNumber_63 ?_
          obtain ⟨hg, hf⟩ := zg_some hf
          refine z_cald hx hb B 53 rfl (zin_ok hg) dX1_readNumber_66 ?_
          refine lv_iadd hx hb dX1_readNumber_67 ?_
          refine lv_bipush (v := (48 : Int32)) hx hb dX1_readNumber_68 (by decide) ?_
          refine lv_isub hx hb dX1_readNumber_70 ?_
          refine lv_istore_n (lv' := [(1, .int ((((10 : Int32) * v1) + (σ9 53 (σ9 52 7).toNatClampNeg)) - (48 : Int32))), (0, .ref (ad 52)), (2, .int v2)]) hx hb dX1_readNumber_71 rfl hl (by decide) rfl (fun ls hl => ?_)
          refine lv_aload_n hx hb dX1_readNumber_72 rfl (lv_at hl 1 rfl) ?_
          refine lv_dup hx hb dX1_readNumber_73 rfl ?_
          refine z_geti hx hb hts hinRX1 hown B 52 7 rfl rfl rfl (by decide) (by decide +kernel) rfl dX1_readNumber_74 ?_
          refine lv_iconst (v := (1 : Int32)) hx hb dX1_readNumber_77 (by decide) ?_
          refine lv_iadd hx hb dX1_readNumber_78 ?_
          refine z_puti hx hb hts hinRX1 hown tyX1 tyX1_ok nmX1 B 52 7 rfl rfl rfl (by decide) (by decide +kernel) rfl rfl rfl rfl dX1_readNumber_79 (fun H locs B => ?_)
          refine lv_iinc (v := (v2 + (1 : Int32))) (lv' := [(2, .int (v2 + (1 : Int32))), (1, .int ((((10 : Int32) * v1) + (σ9 53 (σ9 52 7).toNatClampNeg)) - (48 : Int32))), (0, .ref (ad 52))]) hx hb dX1_readNumber_82 hl (k := 2) rfl (zc1 (by decide)) (by decide) rfl (fun ls hl => ?_)
          refine lv_goto (tgt := 42) hx hb dX1_readNumber_85 (by decide) ?_
          exact ih _ _ _ _ _ _ hf B (lv_sub hl [2, 1, 0] rfl)
  unfold f_X1_readNumber at hf
  refine lv_aload_n hx hb dX1_readNumber_0 rfl (lv_at hl 0 rfl) ?_
  obtain ⟨r2, σ3, hu1, hf⟩ := zb_some hf
  refine z_i B (va_runV (As := []) (rest := []) ⟨hx, hb, hml, hown, hts⟩ (c_X1_isDigitNext l hu1 _) (cwV 0 hts gX1_readNumber_X1_isDigitNext rfl rfl rfl (by decide +kernel) ⟨Nat.le_of_ble_eq_true rfl, Nat.le_of_ble_eq_true rfl⟩) (z_preV B rfl rfl) rfl rfl hl.1 rfl (lv_room (Nat.le_of_ble_eq_true rfl)) dX1_readNumber_1 ⟨Nat.le_of_ble_eq_true rfl, Nat.le_of_ble_eq_true rfl⟩) (fun H locs B => ?_)
  refine lv_if_ne (tgt := 17) hx hb dX1_readNumber_4 (by decide) (fun hc => ?_) (fun hc => ?_)
  · have hf := zif_f hc hf
    refine lv_aload_n hx hb dX1_readNumber_17 rfl (lv_at hl 0 rfl) ?_
    refine lv_bipush (v := (48 : Int32)) hx hb dX1_readNumber_18 (by decide) ?_
    obtain ⟨r5, σ6, hu4, hf⟩ := zb_some hf
    refine z_i B (va_runV (As := [.int (48 : Int32)]) (rest := []) ⟨hx, hb, hml, hown, hts⟩ (c_X1_isNext l hu4 _) (cwV 1 hts gX1_readNumber_X1_isNext rfl rfl rfl (by decide +kernel) ⟨Nat.le_of_ble_eq_true rfl, Nat.le_of_ble_eq_true rfl⟩) (z_preV B rfl rfl) rfl rfl hl.1 rfl (lv_room (Nat.le_of_ble_eq_true rfl)) dX1_readNumber_20 ⟨Nat.le_of_ble_eq_true rfl, Nat.le_of_ble_eq_true rfl⟩) (fun H locs B => ?_)
    refine lv_if_eq (tgt := 38) hx hb dX1_readNumber_23 (by decide) (fun hc => ?_) (fun hc => ?_)
    · have hf := zif_t hc hf
      refine lv_iconst (v := (0 : Int32)) hx hb dX1_readNumber_38 (by decide) ?_
      refine lv_istore_n (lv' := [(1, .int (0 : Int32)), (0, .ref (ad 52))]) hx hb dX1_readNumber_39 rfl hl (by decide) rfl (fun ls hl => ?_)
      refine lv_iconst (v := (0 : Int32)) hx hb dX1_readNumber_40 (by decide) ?_
      refine lv_istore_n (lv' := [(2, .int (0 : Int32)), (1, .int (0 : Int32)), (0, .ref (ad 52))]) hx hb dX1_readNumber_41 rfl hl (by decide) rfl (fun ls hl => ?_)
      exact L42  _ _ _ _ _ _ _ hf B (lv_sub hl [2, 1, 0] rfl)
    · have hf := zif_f hc hf
      refine lv_aload_n hx hb dX1_readNumber_26 rfl (lv_at hl 0 rfl) ?_
      refine lv_dup hx hb dX1_readNumber_27 rfl ?_
      refine z_geti hx hb hts hinRX1 hown B 52 7 rfl rfl rfl (by decide) (by decide +kernel) rfl dX1_readNumber_28 ?_
      refine lv_iconst (v := (1 : Int32)) hx hb dX1_readNumber_31 (by decide) ?_
      refine lv_iadd hx hb dX1_readNumber_32 ?_
      refine z_puti hx hb hts hinRX1 hown tyX1 tyX1_ok nmX1 B 52 7 rfl rfl rfl (by decide) (by decide +kernel) rfl rfl rfl rfl dX1_readNumber_33 (fun H locs B => ?_)
      refine lv_iconst (v := (0 : Int32)) hx hb dX1_readNumber_36 (by decide) ?_
      refine W.widen (k := 0) (n := 0) (Nat.le_of_ble_eq_true rfl) (Nat.le_of_ble_eq_true rfl) ?_
      exact z_iret hx hb hr rfl hlocks B hf dX1_readNumber_37
  · have hf := zif_t hc hf
    refine lv_aload_n hx hb dX1_readNumber_7 rfl (lv_at hl 0 rfl) ?_
    refine lv_aload_n hx hb dX1_readNumber_8 rfl (lv_at hl 0 rfl) ?_
    refine z_geti hx hb hts hinRX1 hown B 52 7 rfl rfl rfl (by decide) (by decide +kernel) rfl dX1_readNumber_9 ?_
    refine z_puti hx hb hts hinRX1 hown tyX1 tyX1_ok nmX1 B 52 2 rfl rfl rfl (by decide) (by decide +kernel) rfl rfl rfl rfl dX1_readNumber_12 (fun H locs B => ?_)
    refine lv_iconst (v := (0 : Int32)) hx hb dX1_readNumber_15 (by decide) ?_
    refine W.widen (k := 0) (n := 0) (Nat.le_of_ble_eq_true rfl) (Nat.le_of_ble_eq_true rfl) ?_
    exact z_iret hx hb hr rfl hlocks B hf dX1_readNumber_16
theorem dX1_readEnd_0 : decode cX1_readEnd 0 = .ok (.aload_n 0, 1) := by decide +kernel
theorem dX1_readEnd_1 : decode cX1_readEnd 1 = .ok (.bipush 45, 2) := by decide +kernel
theorem dX1_readEnd_3 : decode cX1_readEnd 3 = .ok (.invokevirtual 42, 3) := by decide +kernel
theorem dX1_readEnd_6 : decode cX1_readEnd 6 = .ok (.ifCond .ne 12, 3) := by decide +kernel
theorem dX1_readEnd_9 : decode cX1_readEnd 9 = .ok (.aload_n 0, 1) := by decide +kernel
theorem dX1_readEnd_10 : decode cX1_readEnd 10 = .ok (.aload_n 0, 1) := by decide +kernel
theorem dX1_readEnd_11 : decode cX1_readEnd 11 = .ok (.getfield 32, 3) := by decide +kernel
theorem dX1_readEnd_14 : decode cX1_readEnd 14 = .ok (.putfield 15, 3) := by decide +kernel
theorem dX1_readEnd_17 : decode cX1_readEnd 17 = .ok (.return_, 1) := by decide +kernel
theorem dX1_readEnd_18 : decode cX1_readEnd 18 = .ok (.aload_n 0, 1) := by decide +kernel
theorem dX1_readEnd_19 : decode cX1_readEnd 19 = .ok (.dup, 1) := by decide +kernel
theorem dX1_readEnd_20 : decode cX1_readEnd 20 = .ok (.getfield 32, 3) := by decide +kernel
theorem dX1_readEnd_23 : decode cX1_readEnd 23 = .ok (.iconst 1, 1) := by decide +kernel
theorem dX1_readEnd_24 : decode cX1_readEnd 24 = .ok (.iadd, 1) := by decide +kernel
theorem dX1_readEnd_25 : decode cX1_readEnd 25 = .ok (.putfield 32, 3) := by decide +kernel
theorem dX1_readEnd_28 : decode cX1_readEnd 28 = .ok (.aload_n 0, 1) := by decide +kernel
theorem dX1_readEnd_29 : decode cX1_readEnd 29 = .ok (.getfield 32, 3) := by decide +kernel
theorem dX1_readEnd_32 : decode cX1_readEnd 32 = .ok (.istore_n 2, 1) := by decide +kernel
theorem dX1_readEnd_33 : decode cX1_readEnd 33 = .ok (.aload_n 0, 1) := by decide +kernel
theorem dX1_readEnd_34 : decode cX1_readEnd 34 = .ok (.getfield 26, 3) := by decide +kernel
theorem dX1_readEnd_37 : decode cX1_readEnd 37 = .ok (.iload_n 1, 1) := by decide +kernel
theorem dX1_readEnd_38 : decode cX1_readEnd 38 = .ok (.aload_n 0, 1) := by decide +kernel
theorem dX1_readEnd_39 : decode cX1_readEnd 39 = .ok (.invokevirtual 54, 3) := by decide +kernel
theorem dX1_readEnd_42 : decode cX1_readEnd 42 = .ok (.iastore, 1) := by decide +kernel
theorem dX1_readEnd_43 : decode cX1_readEnd 43 = .ok (.aload_n 0, 1) := by decide +kernel
theorem dX1_readEnd_44 : decode cX1_readEnd 44 = .ok (.getfield 15, 3) := by decide +kernel
theorem dX1_readEnd_47 : decode cX1_readEnd 47 = .ok (.iconst (-1), 1) := by decide +kernel
theorem dX1_readEnd_48 : decode cX1_readEnd 48 = .ok (.if_icmp .ne 23, 3) := by decide +kernel
theorem dX1_readEnd_51 : decode cX1_readEnd 51 = .ok (.aload_n 0, 1) := by decide +kernel
theorem dX1_readEnd_52 : decode cX1_readEnd 52 = .ok (.getfield 26, 3) := by decide +kernel
theorem dX1_readEnd_55 : decode cX1_readEnd 55 = .ok (.iload_n 1, 1) := by decide +kernel
theorem dX1_readEnd_56 : decode cX1_readEnd 56 = .ok (.iaload, 1) := by decide +kernel
theorem dX1_readEnd_57 : decode cX1_readEnd 57 = .ok (.aload_n 0, 1) := by decide +kernel
theorem dX1_readEnd_58 : decode cX1_readEnd 58 = .ok (.getfield 23, 3) := by decide +kernel
theorem dX1_readEnd_61 : decode cX1_readEnd 61 = .ok (.iload_n 1, 1) := by decide +kernel
theorem dX1_readEnd_62 : decode cX1_readEnd 62 = .ok (.iaload, 1) := by decide +kernel
theorem dX1_readEnd_63 : decode cX1_readEnd 63 = .ok (.if_icmp .ge 8, 3) := by decide +kernel
theorem dX1_readEnd_66 : decode cX1_readEnd 66 = .ok (.aload_n 0, 1) := by decide +kernel
theorem dX1_readEnd_67 : decode cX1_readEnd 67 = .ok (.iload_n 2, 1) := by decide +kernel
theorem dX1_readEnd_68 : decode cX1_readEnd 68 = .ok (.putfield 15, 3) := by decide +kernel
theorem dX1_readEnd_71 : decode cX1_readEnd 71 = .ok (.return_, 1) := by decide +kernel
set_option maxRecDepth 20000 in
theorem ggX1_readEnd_X1_isNext : GoodIn wsX1_readEnd wsX1_isNext := goodIn_ca (goodIn_r _ [9, 1, 10, 11, 20, 21, 22, 23, 24, 25, 26, 27] (by decide +kernel) (by decide +kernel)) (goodIn_sub (fun _ h => List.mem_cons_of_mem _ (List.mem_append_right _ h)) (by decide +kernel))
set_option maxRecDepth 20000 in
theorem gX1_readEnd_X1_isNext : GoodIn wsX1_readEnd (wsV RX1 42 RX1 yX1_isNext wsX1_isNext) := goodIn_app (goodIn_of _ (by decide +kernel)) ggX1_readEnd_X1_isNext
set_option maxRecDepth 20000 in
theorem ggX1_readEnd_X1_readNumber : GoodIn wsX1_readEnd wsX1_readNumber := goodIn_ca (goodIn_r _ [15, 1, 2, 11, 16, 17, 18, 8, 19, 10, 5, 6, 7, 9, 20, 21, 22, 23, 24, 25, 26, 27] (by decide +kernel) (by decide +kernel)) (goodIn_sub (fun _ h => List.mem_cons_of_mem _ (List.mem_append_right _ h)) (by decide +kernel))
set_option maxRecDepth 20000 in
theorem gX1_readEnd_X1_readNumber : GoodIn wsX1_readEnd (wsV RX1 54 RX1 yX1_readNumber wsX1_readNumber) := goodIn_app (goodIn_of _ (by decide +kernel)) ggX1_readEnd_X1_readNumber
def rm_X1_readEnd : Room := { frames := 3, cells := 0, slots := 0, locals := 59 }
set_option maxHeartbeats 4000000 in
set_option maxRecDepth 100000 in
theorem c_X1_readEnd (l : Launch) {nb : Nat} {G : zG} {ad : Nat → Nat} {σ σ' : zs} {a1 : Int32} {r : Int32} (hf : f_X1_readEnd σ a1 = some (r, σ')) : zMv l yX1_readEnd wsX1_readEnd rm_X1_readEnd G (zS nb) ad σ [.ref (ad 52), .int a1] σ' := by
  intro sz
  refine Met.ofW (cc := cX1_readEnd) (maxL := 3) (ret := none) (by decide) rfl ?_
  intro p e s m args below meth c s₁ B hml hv
  obtain ⟨rfl, hsz, hv⟩ := hv
  have hx := B.exec
  have hb := B.bytes
  have hr := B.returns
  have hts := atoms_spec (ws := wsX1_readEnd) B.pre
  have hown : s.vm.findClass RX1 = some m.cls := findClass_of_methodNamed B.named
  have hlocks := B.notSynchronized
  subst hsz
  have B := zB_start hv
  have hinRX1 : ∀ w ∈ wsX10, w ∈ wsX1_readEnd := by decide +kernel
  have hl := lv_entry ([.ref (ad 52), .int a1]) (n := 3) (Nat.le_of_ble_eq_true rfl)
  rw [lg_entry_eq]
  generalize (lg_sl ([.ref (ad 52), .int a1]) ++ List.replicate (3 - (lg_sl ([.ref (ad 52), .int a1])).length) Slot.unset).toArray = ls at hl ⊢
  have hl : lv_has ls 3 [(0, .ref (ad 52)), (1, .int a1)] := hl
  generalize hAe : zA ad (zS nb).length s.heap.size = A at B ⊢
  unfold f_X1_readEnd at hf
  refine lv_aload_n hx hb dX1_readEnd_0 rfl (lv_at hl 0 rfl) ?_
  refine lv_bipush (v := (45 : Int32)) hx hb dX1_readEnd_1 (by decide) ?_
  obtain ⟨r2, σ3, hu1, hf⟩ := zb_some hf
  refine z_i B (va_runV (As := [.int (45 : Int32)]) (rest := []) ⟨hx, hb, hml, hown, hts⟩ (c_X1_isNext l hu1 _) (cwV 1 hts gX1_readEnd_X1_isNext rfl rfl rfl (by decide +kernel) ⟨Nat.le_of_ble_eq_true rfl, Nat.le_of_ble_eq_true rfl⟩) (z_preV B rfl rfl) rfl rfl hl.1 rfl (lv_room (Nat.le_of_ble_eq_true rfl)) dX1_readEnd_3 ⟨Nat.le_of_ble_eq_true rfl, Nat.le_of_ble_eq_true rfl⟩) (fun H locs B => ?_)
  refine lv_if_ne (tgt := 18) hx hb dX1_readEnd_6 (by decide) (fun hc => ?_) (fun hc => ?_)
  · have hf := zif_f hc hf
    refine lv_aload_n hx hb dX1_readEnd_18 rfl (lv_at hl 0 rfl) ?_
    refine lv_dup hx hb dX1_readEnd_19 rfl ?_
    refine z_geti hx hb hts hinRX1 hown B 52 7 rfl rfl rfl (by decide) (by decide +kernel) rfl dX1_readEnd_20 ?_
    refine lv_iconst (v := (1 : Int32)) hx hb dX1_readEnd_23 (by decide) ?_
    refine lv_iadd hx hb dX1_readEnd_24 ?_
    refine z_puti hx hb hts hinRX1 hown tyX1 tyX1_ok nmX1 B 52 7 rfl rfl rfl (by decide) (by decide +kernel) rfl rfl rfl rfl dX1_readEnd_25 (fun H locs B => ?_)
    refine lv_aload_n hx hb dX1_readEnd_28 rfl (lv_at hl 0 rfl) ?_
    refine z_geti hx hb hts hinRX1 hown B 52 7 rfl rfl rfl (by decide) (by decide +kernel) rfl dX1_readEnd_29 ?_
    refine lv_istore_n (lv' := [(2, .int ((zp σ3 52 7 ((σ3 52 7) + (1 : Int32))) 52 7)), (0, .ref (ad 52)), (1, .int a1)]) hx hb dX1_readEnd_32 rfl hl (by decide) rfl (fun ls hl => ?_)
    refine lv_aload_n hx hb dX1_readEnd_33 rfl (lv_at hl 1 rfl) ?_
    refine z_getr hx hb hts hinRX1 hown B 52 6 56 rfl rfl rfl (by decide) (by decide +kernel) rfl dX1_readEnd_34 ?_
    refine lv_iload_n hx hb dX1_readEnd_37 rfl (lv_at hl 2 rfl) ?_
    refine lv_aload_n hx hb dX1_readEnd_38 rfl (lv_at hl 1 rfl) ?_
    obtain ⟨r5, σ6, hu4, hf⟩ := zb_some hf
    refine z_i B (va_runV (As := []) (rest := [.int a1, .ref (ad 56)]) ⟨hx, hb, hml, hown, hts⟩ (c_X1_readNumber l hu4 _) (cwV 0 hts gX1_readEnd_X1_readNumber rfl rfl rfl (by decide +kernel) ⟨Nat.le_of_ble_eq_true rfl, Nat.le_of_ble_eq_true rfl⟩) (z_preV B rfl rfl) rfl rfl hl.1 rfl (lv_room (Nat.le_of_ble_eq_true rfl)) dX1_readEnd_39 ⟨Nat.le_of_ble_eq_true rfl, Nat.le_of_ble_eq_true rfl⟩) (fun H locs B => ?_)
    obtain ⟨hg, hf⟩ := zg_some hf
    refine z_iast hx hb B 56 rfl (zin_ok hg) dX1_readEnd_42 (fun H locs B => ?_)
    refine lv_aload_n hx hb dX1_readEnd_43 rfl (lv_at hl 1 rfl) ?_
    refine z_geti hx hb hts hinRX1 hown B 52 2 rfl rfl rfl (by decide) (by decide +kernel) rfl dX1_readEnd_44 ?_
    refine lv_iconst (v := (-1 : Int32)) hx hb dX1_readEnd_47 (by decide) ?_
    refine lv_icmp_ne (tgt := 71) hx hb dX1_readEnd_48 (by decide) (fun hc => ?_) (fun hc => ?_)
    · have hf := zif_f hc hf
      refine W.widen (k := 0) (n := 0) (Nat.le_of_ble_eq_true rfl) (Nat.le_of_ble_eq_true rfl) ?_
      exact z_vret hx hb hr hlocks B hf dX1_readEnd_71
    · have hf := zif_t hc hf
      refine lv_aload_n hx hb dX1_readEnd_51 rfl (lv_at hl 1 rfl) ?_
      refine z_getr hx hb hts hinRX1 hown B 52 6 56 rfl rfl rfl (by decide) (by decide +kernel) rfl dX1_readEnd_52 ?_
      refine lv_iload_n hx hb dX1_readEnd_55 rfl (lv_at hl 2 rfl) ?_
      obtain ⟨hg, hf⟩ := zg_some hf
      refine z_iald hx hb B 56 rfl (zin_ok hg) dX1_readEnd_56 ?_
      refine lv_aload_n hx hb dX1_readEnd_57 rfl (lv_at hl 1 rfl) ?_
      refine z_getr hx hb hts hinRX1 hown B 52 5 55 rfl rfl rfl (by decide) (by decide +kernel) rfl dX1_readEnd_58 ?_
      refine lv_iload_n hx hb dX1_readEnd_61 rfl (lv_at hl 2 rfl) ?_
      obtain ⟨hg, hf⟩ := zg_some hf
      refine z_iald hx hb B 55 rfl (zin_ok hg) dX1_readEnd_62 ?_
      refine lv_icmp_ge (tgt := 71) hx hb dX1_readEnd_63 (by decide) (fun hc => ?_) (fun hc => ?_)
      · have hf := zif_t hc hf
        refine W.widen (k := 0) (n := 0) (Nat.le_of_ble_eq_true rfl) (Nat.le_of_ble_eq_true rfl) ?_
        exact z_vret hx hb hr hlocks B hf dX1_readEnd_71
      · have hf := zif_f hc hf
        refine lv_aload_n hx hb dX1_readEnd_66 rfl (lv_at hl 1 rfl) ?_
        refine lv_iload_n hx hb dX1_readEnd_67 rfl (lv_at hl 0 rfl) ?_
        refine z_puti hx hb hts hinRX1 hown tyX1 tyX1_ok nmX1 B 52 2 rfl rfl rfl (by decide) (by decide +kernel) rfl rfl rfl rfl dX1_readEnd_68 (fun H locs B => ?_)
        refine W.widen (k := 0) (n := 0) (Nat.le_of_ble_eq_true rfl) (Nat.le_of_ble_eq_true rfl) ?_
        exact z_vret hx hb hr hlocks B hf dX1_readEnd_71
  · have hf := zif_t hc hf
    refine lv_aload_n hx hb dX1_readEnd_9 rfl (lv_at hl 0 rfl) ?_
    refine lv_aload_n hx hb dX1_readEnd_10 rfl (lv_at hl 0 rfl) ?_
    refine z_geti hx hb hts hinRX1 hown B 52 7 rfl rfl rfl (by decide) (by decide +kernel) rfl dX1_readEnd_11 ?_
    refine z_puti hx hb hts hinRX1 hown tyX1 tyX1_ok nmX1 B 52 2 rfl rfl rfl (by decide) (by decide +kernel) rfl rfl rfl rfl dX1_readEnd_14 (fun H locs B => ?_)
    refine W.widen (k := 0) (n := 0) (Nat.le_of_ble_eq_true rfl) (Nat.le_of_ble_eq_true rfl) ?_
    exact z_vret hx hb hr hlocks B hf dX1_readEnd_17
theorem dX2_enter_0 : decode cX2_enter 0 = .ok (.aload_n 0, 1) := by decide +kernel
theorem dX2_enter_1 : decode cX2_enter 1 = .ok (.getfield 9, 3) := by decide +kernel
theorem dX2_enter_4 : decode cX2_enter 4 = .ok (.iconst 0, 1) := by decide +kernel
theorem dX2_enter_5 : decode cX2_enter 5 = .ok (.aload_n 0, 1) := by decide +kernel
theorem dX2_enter_6 : decode cX2_enter 6 = .ok (.getfield 9, 3) := by decide +kernel
theorem dX2_enter_9 : decode cX2_enter 9 = .ok (.iconst 1, 1) := by decide +kernel
theorem dX2_enter_10 : decode cX2_enter 10 = .ok (.bipush 19, 2) := by decide +kernel
theorem dX2_enter_12 : decode cX2_enter 12 = .ok (.invokestatic 29, 3) := by decide +kernel
theorem dX2_enter_15 : decode cX2_enter 15 = .ok (.aload_n 0, 1) := by decide +kernel
theorem dX2_enter_16 : decode cX2_enter 16 = .ok (.getfield 9, 3) := by decide +kernel
theorem dX2_enter_19 : decode cX2_enter 19 = .ok (.iconst 0, 1) := by decide +kernel
theorem dX2_enter_20 : decode cX2_enter 20 = .ok (.sipush 1000, 3) := by decide +kernel
theorem dX2_enter_23 : decode cX2_enter 23 = .ok (.iload_n 1, 1) := by decide +kernel
theorem dX2_enter_24 : decode cX2_enter 24 = .ok (.imul, 1) := by decide +kernel
theorem dX2_enter_25 : decode cX2_enter 25 = .ok (.bipush 10, 2) := by decide +kernel
theorem dX2_enter_27 : decode cX2_enter 27 = .ok (.iload_n 2, 1) := by decide +kernel
theorem dX2_enter_28 : decode cX2_enter 28 = .ok (.imul, 1) := by decide +kernel
theorem dX2_enter_29 : decode cX2_enter 29 = .ok (.iadd, 1) := by decide +kernel
theorem dX2_enter_30 : decode cX2_enter 30 = .ok (.iload_n 3, 1) := by decide +kernel
theorem dX2_enter_31 : decode cX2_enter 31 = .ok (.ifCond .eq 7, 3) := by decide +kernel
theorem dX2_enter_34 : decode cX2_enter 34 = .ok (.iconst 1, 1) := by decide +kernel
theorem dX2_enter_35 : decode cX2_enter 35 = .ok (.goto 4, 3) := by decide +kernel
theorem dX2_enter_38 : decode cX2_enter 38 = .ok (.iconst 0, 1) := by decide +kernel
theorem dX2_enter_39 : decode cX2_enter 39 = .ok (.iadd, 1) := by decide +kernel
theorem dX2_enter_40 : decode cX2_enter 40 = .ok (.iastore, 1) := by decide +kernel
theorem dX2_enter_41 : decode cX2_enter 41 = .ok (.aload_n 0, 1) := by decide +kernel
theorem dX2_enter_42 : decode cX2_enter 42 = .ok (.aload_n 0, 1) := by decide +kernel
theorem dX2_enter_43 : decode cX2_enter 43 = .ok (.getfield 19, 3) := by decide +kernel
theorem dX2_enter_46 : decode cX2_enter 46 = .ok (.iconst 1, 1) := by decide +kernel
theorem dX2_enter_47 : decode cX2_enter 47 = .ok (.iadd, 1) := by decide +kernel
theorem dX2_enter_48 : decode cX2_enter 48 = .ok (.bipush 20, 2) := by decide +kernel
theorem dX2_enter_50 : decode cX2_enter 50 = .ok (.invokestatic 35, 3) := by decide +kernel
theorem dX2_enter_53 : decode cX2_enter 53 = .ok (.putfield 19, 3) := by decide +kernel
theorem dX2_enter_56 : decode cX2_enter 56 = .ok (.iload_n 3, 1) := by decide +kernel
theorem dX2_enter_57 : decode cX2_enter 57 = .ok (.ifCond .eq 16, 3) := by decide +kernel
theorem dX2_enter_60 : decode cX2_enter 60 = .ok (.aload_n 0, 1) := by decide +kernel
theorem dX2_enter_61 : decode cX2_enter 61 = .ok (.dup, 1) := by decide +kernel
theorem dX2_enter_62 : decode cX2_enter 62 = .ok (.getfield 23, 3) := by decide +kernel
theorem dX2_enter_65 : decode cX2_enter 65 = .ok (.iconst 1, 1) := by decide +kernel
theorem dX2_enter_66 : decode cX2_enter 66 = .ok (.iadd, 1) := by decide +kernel
theorem dX2_enter_67 : decode cX2_enter 67 = .ok (.putfield 23, 3) := by decide +kernel
theorem dX2_enter_70 : decode cX2_enter 70 = .ok (.goto 13, 3) := by decide +kernel
theorem dX2_enter_73 : decode cX2_enter 73 = .ok (.aload_n 0, 1) := by decide +kernel
theorem dX2_enter_74 : decode cX2_enter 74 = .ok (.dup, 1) := by decide +kernel
theorem dX2_enter_75 : decode cX2_enter 75 = .ok (.getfield 26, 3) := by decide +kernel
theorem dX2_enter_78 : decode cX2_enter 78 = .ok (.iconst 1, 1) := by decide +kernel
theorem dX2_enter_79 : decode cX2_enter 79 = .ok (.iadd, 1) := by decide +kernel
theorem dX2_enter_80 : decode cX2_enter 80 = .ok (.putfield 26, 3) := by decide +kernel
theorem dX2_enter_83 : decode cX2_enter 83 = .ok (.return_, 1) := by decide +kernel
def rm_X2_enter : Room := { frames := 2, cells := 0, slots := 0, locals := 200 }
set_option maxHeartbeats 4000000 in
set_option maxRecDepth 100000 in
theorem c_X2_enter (l : Launch) {nb : Nat} {G : zG} {ad : Nat → Nat} {σ σ' : zs} {a1 a2 a3 : Int32} {r : Int32} (hf : f_X2_enter σ a1 a2 a3 = some (r, σ')) : zMv l yX2_enter wsX2_enter rm_X2_enter G (zS nb) ad σ [.ref (ad 20), .int a1, .int a2, .int a3] σ' := by
  intro sz
  refine Met.ofW (cc := cX2_enter) (maxL := 4) (ret := none) (by decide) rfl ?_
  intro p e s m args below meth c s₁ B hml hv
  obtain ⟨rfl, hsz, hv⟩ := hv
  have hx := B.exec
  have hb := B.bytes
  have hr := B.returns
  have hts := atoms_spec (ws := wsX2_enter) B.pre
  have hown : s.vm.findClass RX2 = some m.cls := findClass_of_methodNamed B.named
  have hlocks := B.notSynchronized
  subst hsz
  have B := zB_start hv
  have hinRX2 : ∀ w ∈ wsX20, w ∈ wsX2_enter := by decide +kernel
  have hl := lv_entry ([.ref (ad 20), .int a1, .int a2, .int a3]) (n := 4) (Nat.le_of_ble_eq_true rfl)
  rw [lg_entry_eq]
  generalize (lg_sl ([.ref (ad 20), .int a1, .int a2, .int a3]) ++ List.replicate (4 - (lg_sl ([.ref (ad 20), .int a1, .int a2, .int a3])).length) Slot.unset).toArray = ls at hl ⊢
  have hl : lv_has ls 4 [(0, .ref (ad 20)), (1, .int a1), (2, .int a2), (3, .int a3)] := hl
  generalize hAe : zA ad (zS nb).length s.heap.size = A at B ⊢
  have L39 : ∀ (σ : zs) (v3 : Int32) (s0 : Int32) (s1 : Int32) (s2 : Int32) (H : Heap) (locs : List Loc) (ls : Array Slot), f_X2_enter_39 σ v3 s0 s1 s2 = some (r, σ') → zB A s G (zS nb) ad σ H locs → lv_has ls 4 [(0, .ref (ad 20)), (3, .int v3)] → W p l e (headSpec wsX2_enter rm_X2_enter).room s m ([.ref (ad 20), .int a1, .int a2, .int a3] : List Value).toArray below meth c H locs 0 0 (MQ below (va_Qv (fun (_ : Unit) => True) (zPost G (zS nb) ad σ') A) ([.ref (ad 20), .int a1, .int a2, .int a3] : List Value).toArray s 0 0 A) (F0 m 39 ls [.int s0, .int s1, .int s2, .ref (ad 21)]) := by
    intro σ v3 s0 s1 s2 H locs ls hf B hl
    unfold f_X2_enter_39 at hf
    refine lv_iadd hx hb dX2_enter_39 ?_
    obtain ⟨hg, hf⟩ := zg_some hf
    refine z_iast hx hb B 21 rfl (zin_ok hg) dX2_enter_40 (fun H locs B => ?_)
    refine lv_aload_n hx hb dX2_enter_41 rfl (lv_at hl 0 rfl) ?_
    refine lv_aload_n hx hb dX2_enter_42 rfl (lv_at hl 0 rfl) ?_
    refine z_geti hx hb hts hinRX2 hown B 20 1 rfl rfl rfl (by decide) (by decide +kernel) rfl dX2_enter_43 ?_
    refine lv_iconst (v := (1 : Int32)) hx hb dX2_enter_46 (by decide) ?_
    refine lv_iadd hx hb dX2_enter_47 ?_
    refine lv_bipush (v := (20 : Int32)) hx hb dX2_enter_48 (by decide) ?_
    refine va_mmin hx hb (hml.trans hl.1.symm) hown (index := 35) (hts _ (by decide +kernel)) (hts _ (by decide +kernel)) (hts _ (by decide +kernel)) (hts _ (by decide +kernel)) (Nat.le_of_ble_eq_true rfl) (Nat.le_of_ble_eq_true rfl) (Nat.le_of_ble_eq_true rfl) (Nat.le_of_ble_eq_true rfl) dX2_enter_50 ?_
    refine z_puti hx hb hts hinRX2 hown tyX2 tyX2_ok nmX2 B 20 1 rfl rfl rfl (by decide) (by decide +kernel) rfl rfl rfl rfl dX2_enter_53 (fun H locs B => ?_)
    refine lv_iload_n hx hb dX2_enter_56 rfl (lv_at hl 1 rfl) ?_
    refine lv_if_eq (tgt := 73) hx hb dX2_enter_57 (by decide) (fun hc => ?_) (fun hc => ?_)
    · have hf := zif_t hc hf
      refine lv_aload_n hx hb dX2_enter_73 rfl (lv_at hl 0 rfl) ?_
      refine lv_dup hx hb dX2_enter_74 rfl ?_
      refine z_geti hx hb hts hinRX2 hown B 20 3 rfl rfl rfl (by decide) (by decide +kernel) rfl dX2_enter_75 ?_
      refine lv_iconst (v := (1 : Int32)) hx hb dX2_enter_78 (by decide) ?_
      refine lv_iadd hx hb dX2_enter_79 ?_
      refine z_puti hx hb hts hinRX2 hown tyX2 tyX2_ok nmX2 B 20 3 rfl rfl rfl (by decide) (by decide +kernel) rfl rfl rfl rfl dX2_enter_80 (fun H locs B => ?_)
      refine W.widen (k := 0) (n := 0) (Nat.le_of_ble_eq_true rfl) (Nat.le_of_ble_eq_true rfl) ?_
      exact z_vret hx hb hr hlocks B hf dX2_enter_83
    · have hf := zif_f hc hf
      refine lv_aload_n hx hb dX2_enter_60 rfl (lv_at hl 0 rfl) ?_
      refine lv_dup hx hb dX2_enter_61 rfl ?_
      refine z_geti hx hb hts hinRX2 hown B 20 2 rfl rfl rfl (by decide) (by decide +kernel) rfl dX2_enter_62 ?_
      refine lv_iconst (v := (1 : Int32)) hx hb dX2_enter_65 (by decide) ?_
      refine lv_iadd hx hb dX2_enter_66 ?_
      refine z_puti hx hb hts hinRX2 hown tyX2 tyX2_ok nmX2 B 20 2 rfl rfl rfl (by decide) (by decide +kernel) rfl rfl rfl rfl dX2_enter_67 (fun H locs B => ?_)
      refine lv_goto (tgt := 83) hx hb dX2_enter_70 (by decide) ?_
      refine W.widen (k := 0) (n := 0) (Nat.le_of_ble_eq_true rfl) (Nat.le_of_ble_eq_true rfl) ?_
      exact z_vret hx hb hr hlocks B hf dX2_enter_83
  unfold f_X2_enter at hf
  refine lv_aload_n hx hb dX2_enter_0 rfl (lv_at hl 0 rfl) ?_
  refine z_getr hx hb hts hinRX2 hown B 20 0 21 rfl rfl rfl (by decide) (by decide +kernel) rfl dX2_enter_1 ?_
  refine lv_iconst (v := (0 : Int32)) hx hb dX2_enter_4 (by decide) ?_
  refine lv_aload_n hx hb dX2_enter_5 rfl (lv_at hl 0 rfl) ?_
  refine z_getr hx hb hts hinRX2 hown B 20 0 21 rfl rfl rfl (by decide) (by decide +kernel) rfl dX2_enter_6 ?_
  refine lv_iconst (v := (1 : Int32)) hx hb dX2_enter_9 (by decide) ?_
  refine lv_bipush (v := (19 : Int32)) hx hb dX2_enter_10 (by decide) ?_
  obtain ⟨hg, hf⟩ := zg_some hf
  obtain ⟨g1, g2, g3, g4, g5⟩ := zcp_ok hg
  refine z_copyi hx hb (hml.trans hl.1.symm) hts hown (index := 29) (by decide +kernel) (by decide +kernel) (by decide +kernel) (by decide +kernel) B 21 21 rfl rfl g1 g2 g3 g4 g5 (Nat.le_of_ble_eq_true rfl) (Nat.le_of_ble_eq_true rfl) dX2_enter_12 (fun H locs B => ?_)
  refine lv_aload_n hx hb dX2_enter_15 rfl (lv_at hl 0 rfl) ?_
  refine z_getr hx hb hts hinRX2 hown B 20 0 21 rfl rfl rfl (by decide) (by decide +kernel) rfl dX2_enter_16 ?_
  refine lv_iconst (v := (0 : Int32)) hx hb dX2_enter_19 (by decide) ?_
  refine lv_sipush (v := (1000 : Int32)) hx hb dX2_enter_20 (by decide) ?_
  refine lv_iload_n hx hb dX2_enter_23 rfl (lv_at hl 1 rfl) ?_
  refine lv_imul hx hb dX2_enter_24 ?_
  refine lv_bipush (v := (10 : Int32)) hx hb dX2_enter_25 (by decide) ?_
  refine lv_iload_n hx hb dX2_enter_27 rfl (lv_at hl 2 rfl) ?_
  refine lv_imul hx hb dX2_enter_28 ?_
  refine lv_iadd hx hb dX2_enter_29 ?_
  refine lv_iload_n hx hb dX2_enter_30 rfl (lv_at hl 3 rfl) ?_
  refine lv_if_eq (tgt := 38) hx hb dX2_enter_31 (by decide) (fun hc => ?_) (fun hc => ?_)
  · have hf := zif_t hc hf
    refine lv_iconst (v := (0 : Int32)) hx hb dX2_enter_38 (by decide) ?_
    exact L39  _ _ _ _ _ _ _ _ hf B (lv_sub hl [0, 3] rfl)
  · have hf := zif_f hc hf
    refine lv_iconst (v := (1 : Int32)) hx hb dX2_enter_34 (by decide) ?_
    refine lv_goto (tgt := 39) hx hb dX2_enter_35 (by decide) ?_
    exact L39  _ _ _ _ _ _ _ _ hf B (lv_sub hl [0, 3] rfl)
theorem dX2_numberOf_0 : decode cX2_numberOf 0 = .ok (.iconst 0, 1) := by decide +kernel
theorem dX2_numberOf_1 : decode cX2_numberOf 1 = .ok (.istore_n 3, 1) := by decide +kernel
theorem dX2_numberOf_2 : decode cX2_numberOf 2 = .ok (.iconst 0, 1) := by decide +kernel
theorem dX2_numberOf_3 : decode cX2_numberOf 3 = .ok (.istore 4, 2) := by decide +kernel
theorem dX2_numberOf_5 : decode cX2_numberOf 5 = .ok (.iload 4, 2) := by decide +kernel
theorem dX2_numberOf_7 : decode cX2_numberOf 7 = .ok (.aload_n 0, 1) := by decide +kernel
theorem dX2_numberOf_8 : decode cX2_numberOf 8 = .ok (.getfield 19, 3) := by decide +kernel
theorem dX2_numberOf_11 : decode cX2_numberOf 11 = .ok (.if_icmp .ge 54, 3) := by decide +kernel
theorem dX2_numberOf_14 : decode cX2_numberOf 14 = .ok (.aload_n 0, 1) := by decide +kernel
theorem dX2_numberOf_15 : decode cX2_numberOf 15 = .ok (.getfield 9, 3) := by decide +kernel
theorem dX2_numberOf_18 : decode cX2_numberOf 18 = .ok (.iload 4, 2) := by decide +kernel
theorem dX2_numberOf_20 : decode cX2_numberOf 20 = .ok (.iaload, 1) := by decide +kernel
theorem dX2_numberOf_21 : decode cX2_numberOf 21 = .ok (.bipush 10, 2) := by decide +kernel
theorem dX2_numberOf_23 : decode cX2_numberOf 23 = .ok (.irem, 1) := by decide +kernel
theorem dX2_numberOf_24 : decode cX2_numberOf 24 = .ok (.iconst 1, 1) := by decide +kernel
theorem dX2_numberOf_25 : decode cX2_numberOf 25 = .ok (.if_icmp .ne 7, 3) := by decide +kernel
theorem dX2_numberOf_28 : decode cX2_numberOf 28 = .ok (.iconst 1, 1) := by decide +kernel
theorem dX2_numberOf_29 : decode cX2_numberOf 29 = .ok (.goto 4, 3) := by decide +kernel
theorem dX2_numberOf_32 : decode cX2_numberOf 32 = .ok (.iconst 0, 1) := by decide +kernel
theorem dX2_numberOf_33 : decode cX2_numberOf 33 = .ok (.istore 5, 2) := by decide +kernel
theorem dX2_numberOf_35 : decode cX2_numberOf 35 = .ok (.aload_n 0, 1) := by decide +kernel
theorem dX2_numberOf_36 : decode cX2_numberOf 36 = .ok (.getfield 9, 3) := by decide +kernel
theorem dX2_numberOf_39 : decode cX2_numberOf 39 = .ok (.iload 4, 2) := by decide +kernel
theorem dX2_numberOf_41 : decode cX2_numberOf 41 = .ok (.iaload, 1) := by decide +kernel
theorem dX2_numberOf_42 : decode cX2_numberOf 42 = .ok (.sipush 1000, 3) := by decide +kernel
theorem dX2_numberOf_45 : decode cX2_numberOf 45 = .ok (.idiv, 1) := by decide +kernel
theorem dX2_numberOf_46 : decode cX2_numberOf 46 = .ok (.iload_n 1, 1) := by decide +kernel
theorem dX2_numberOf_47 : decode cX2_numberOf 47 = .ok (.if_icmp .ne 12, 3) := by decide +kernel
theorem dX2_numberOf_50 : decode cX2_numberOf 50 = .ok (.iload 5, 2) := by decide +kernel
theorem dX2_numberOf_52 : decode cX2_numberOf 52 = .ok (.iload_n 2, 1) := by decide +kernel
theorem dX2_numberOf_53 : decode cX2_numberOf 53 = .ok (.if_icmp .ne 6, 3) := by decide +kernel
theorem dX2_numberOf_56 : decode cX2_numberOf 56 = .ok (.iinc 3 1, 3) := by decide +kernel
theorem dX2_numberOf_59 : decode cX2_numberOf 59 = .ok (.iinc 4 1, 3) := by decide +kernel
theorem dX2_numberOf_62 : decode cX2_numberOf 62 = .ok (.goto (-57), 3) := by decide +kernel
theorem dX2_numberOf_65 : decode cX2_numberOf 65 = .ok (.iload_n 3, 1) := by decide +kernel
theorem dX2_numberOf_66 : decode cX2_numberOf 66 = .ok (.ireturn, 1) := by decide +kernel
def rm_X2_numberOf : Room := { frames := 1, cells := 0, slots := 0, locals := 16 }
set_option maxHeartbeats 4000000 in
set_option maxRecDepth 100000 in
theorem c_X2_numberOf (l : Launch) {nb : Nat} {G : zG} {ad : Nat → Nat} {σ σ' : zs} {a1 a2 : Int32} {r : Int32} (hf : f_X2_numberOf σ a1 a2 = some (r, σ')) : zMi l yX2_numberOf wsX2_numberOf rm_X2_numberOf G (zS nb) ad σ [.ref (ad 20), .int a1, .int a2] r σ' := by
  intro sz
  refine Met.ofW (cc := cX2_numberOf) (maxL := 6) (ret := (some .int)) (by decide) rfl ?_
  intro p e s m args below meth c s₁ B hml hv
  obtain ⟨rfl, hsz, hv⟩ := hv
  have hx := B.exec
  have hb := B.bytes
  have hr := B.returns
  have hts := atoms_spec (ws := wsX2_numberOf) B.pre
  have hown : s.vm.findClass RX2 = some m.cls := findClass_of_methodNamed B.named
  have hlocks := B.notSynchronized
  subst hsz
  have B := zB_start hv
  have hinRX2 : ∀ w ∈ wsX20, w ∈ wsX2_numberOf := by decide +kernel
  have hl := lv_entry ([.ref (ad 20), .int a1, .int a2]) (n := 6) (Nat.le_of_ble_eq_true rfl)
  rw [lg_entry_eq]
  generalize (lg_sl ([.ref (ad 20), .int a1, .int a2]) ++ List.replicate (6 - (lg_sl ([.ref (ad 20), .int a1, .int a2])).length) Slot.unset).toArray = ls at hl ⊢
  have hl : lv_has ls 6 [(0, .ref (ad 20)), (1, .int a1), (2, .int a2)] := hl
  generalize hAe : zA ad (zS nb).length s.heap.size = A at B ⊢
  have L33 : ∀ (K5 : zs → Int32 → Int32 → Int32 → Int32 → Option (Int32 × zs)) (hK5 : ∀ (σ : zs) (v1 : Int32) (v2 : Int32) (v3 : Int32) (v4 : Int32) (H : Heap) (locs : List Loc) (ls : Array Slot), K5 σ v1 v2 v3 v4 = some (r, σ') → zB A s G (zS nb) ad σ H locs → lv_has ls 6 [(0, .ref (ad 20)), (1, .int v1), (2, .int v2), (3, .int v3), (4, .int v4)] → W p l e (headSpec wsX2_numberOf rm_X2_numberOf).room s m ([.ref (ad 20), .int a1, .int a2] : List Value).toArray below meth c H locs 0 0 (MQ below (va_Qi (fun r' (_ : Unit) => r' = r) (zPost G (zS nb) ad σ') A) ([.ref (ad 20), .int a1, .int a2] : List Value).toArray s 0 0 A) (F0 m 5 ls [])) (σ : zs) (v1 : Int32) (v2 : Int32) (v3 : Int32) (v4 : Int32) (s0 : Int32) (H : Heap) (locs : List Loc) (ls : Array Slot), f_X2_numberOf_33 K5 σ v1 v2 v3 v4 s0 = some (r, σ') → zB A s G (zS nb) ad σ H locs → lv_has ls 6 [(0, .ref (ad 20)), (1, .int v1), (2, .int v2), (3, .int v3), (4, .int v4)] → W p l e (headSpec wsX2_numberOf rm_X2_numberOf).room s m ([.ref (ad 20), .int a1, .int a2] : List Value).toArray below meth c H locs 0 0 (MQ below (va_Qi (fun r' (_ : Unit) => r' = r) (zPost G (zS nb) ad σ') A) ([.ref (ad 20), .int a1, .int a2] : List Value).toArray s 0 0 A) (F0 m 33 ls [.int s0]) := by
    intro K5 hK5 σ v1 v2 v3 v4 s0 H locs ls hf B hl
    unfold f_X2_numberOf_33 at hf
    refine lv_istore (lv' := [(5, .int s0), (0, .ref (ad 20)), (1, .int v1), (2, .int v2), (3, .int v3), (4, .int v4)]) hx hb dX2_numberOf_33 hl (by decide) rfl (fun ls hl => ?_)
    refine lv_aload_n hx hb dX2_numberOf_35 rfl (lv_at hl 1 rfl) ?_
    refine z_getr hx hb hts hinRX2 hown B 20 0 21 rfl rfl rfl (by decide) (by decide +kernel) rfl dX2_numberOf_36 ?_
    refine lv_iload hx hb dX2_numberOf_39 (lv_at hl 5 rfl) ?_
    obtain ⟨hg, hf⟩ := zg_some hf
    refine z_iald hx hb B 21 rfl (zin_ok hg) dX2_numberOf_41 ?_
    refine lv_sipush (v := (1000 : Int32)) hx hb dX2_numberOf_42 (by decide) ?_
    refine lv_idiv hx hb dX2_numberOf_45 (by decide) ?_
    refine lv_iload_n hx hb dX2_numberOf_46 rfl (lv_at hl 2 rfl) ?_
    refine lv_icmp_ne (tgt := 59) hx hb dX2_numberOf_47 (by decide) (fun hc => ?_) (fun hc => ?_)
    · have hf := zif_f hc hf
      refine lv_iinc (v := (v4 + (1 : Int32))) (lv' := [(4, .int (v4 + (1 : Int32))), (5, .int s0), (0, .ref (ad 20)), (1, .int v1), (2, .int v2), (3, .int v3)]) hx hb dX2_numberOf_59 hl (k := 5) rfl (zc1 (by decide)) (by decide) rfl (fun ls hl => ?_)
      refine lv_goto (tgt := 5) hx hb dX2_numberOf_62 (by decide) ?_
      exact hK5 _ _ _ _ _ _ _ _ hf B (lv_sub hl [2, 3, 4, 5, 0] rfl)
    · have hf := zif_t hc hf
      refine lv_iload hx hb dX2_numberOf_50 (lv_at hl 0 rfl) ?_
      refine lv_iload_n hx hb dX2_numberOf_52 rfl (lv_at hl 3 rfl) ?_
      refine lv_icmp_ne (tgt := 59) hx hb dX2_numberOf_53 (by decide) (fun hc => ?_) (fun hc => ?_)
      · have hf := zif_f hc hf
        refine lv_iinc (v := (v4 + (1 : Int32))) (lv' := [(4, .int (v4 + (1 : Int32))), (5, .int s0), (0, .ref (ad 20)), (1, .int v1), (2, .int v2), (3, .int v3)]) hx hb dX2_numberOf_59 hl (k := 5) rfl (zc1 (by decide)) (by decide) rfl (fun ls hl => ?_)
        refine lv_goto (tgt := 5) hx hb dX2_numberOf_62 (by decide) ?_
        exact hK5 _ _ _ _ _ _ _ _ hf B (lv_sub hl [2, 3, 4, 5, 0] rfl)
      · have hf := zif_t hc hf
        refine lv_iinc (v := (v3 + (1 : Int32))) (lv' := [(3, .int (v3 + (1 : Int32))), (5, .int s0), (0, .ref (ad 20)), (1, .int v1), (2, .int v2), (4, .int v4)]) hx hb dX2_numberOf_56 hl (k := 4) rfl (zc1 (by decide)) (by decide) rfl (fun ls hl => ?_)
        refine lv_iinc (v := (v4 + (1 : Int32))) (lv' := [(4, .int (v4 + (1 : Int32))), (3, .int (v3 + (1 : Int32))), (5, .int s0), (0, .ref (ad 20)), (1, .int v1), (2, .int v2)]) hx hb dX2_numberOf_59 hl (k := 5) rfl (zc1 (by decide)) (by decide) rfl (fun ls hl => ?_)
        refine lv_goto (tgt := 5) hx hb dX2_numberOf_62 (by decide) ?_
        exact hK5 _ _ _ _ _ _ _ _ hf B (lv_sub hl [3, 4, 5, 1, 0] rfl)
  have L5 : ∀ (n : Nat) (σ : zs) (v1 : Int32) (v2 : Int32) (v3 : Int32) (v4 : Int32) (H : Heap) (locs : List Loc) (ls : Array Slot), zlp4 (f_X2_numberOf_5) n σ v1 v2 v3 v4 = some (r, σ') → zB A s G (zS nb) ad σ H locs → lv_has ls 6 [(0, .ref (ad 20)), (1, .int v1), (2, .int v2), (3, .int v3), (4, .int v4)] → W p l e (headSpec wsX2_numberOf rm_X2_numberOf).room s m ([.ref (ad 20), .int a1, .int a2] : List Value).toArray below meth c H locs 0 0 (MQ below (va_Qi (fun r' (_ : Unit) => r' = r) (zPost G (zS nb) ad σ') A) ([.ref (ad 20), .int a1, .int a2] : List Value).toArray s 0 0 A) (F0 m 5 ls []) := by
    intro n
    induction n with
    | zero =>
      intro σ v1 v2 v3 v4 H locs ls hf
      cases hf
    | succ n ih =>
      intro σ v1 v2 v3 v4 H locs ls hf B hl
      have hf : f_X2_numberOf_5 (zlp4 (f_X2_numberOf_5) n) σ v1 v2 v3 v4 = some (r, σ') := hf
      unfold f_X2_numberOf_5 at hf
      refine lv_iload hx hb dX2_numberOf_5 (lv_at hl 4 rfl) ?_
      refine lv_aload_n hx hb dX2_numberOf_7 rfl (lv_at hl 0 rfl) ?_
      refine z_geti hx hb hts hinRX2 hown B 20 1 rfl rfl rfl (by decide) (by decide +kernel) rfl dX2_numberOf_8 ?_
      refine lv_icmp_ge (tgt := 65) hx hb dX2_numberOf_11 (by decide) (fun hc => ?_) (fun hc => ?_)
      · have hf := zif_t hc hf
        refine lv_iload_n hx hb dX2_numberOf_65 rfl (lv_at hl 3 rfl) ?_
        refine W.widen (k := 0) (n := 0) (Nat.le_of_ble_eq_true rfl) (Nat.le_of_ble_eq_true rfl) ?_
        exact z_iret hx hb hr rfl hlocks B hf dX2_numberOf_66
      · have hf := zif_f hc hf
        refine lv_aload_n hx hb dX2_numberOf_14 rfl (lv_at hl 0 rfl) ?_
        refine z_getr hx hb hts hinRX2 hown B 20 0 21 rfl rfl rfl (by decide) (by decide +kernel) rfl dX2_numberOf_15 ?_
        refine lv_iload hx hb dX2_numberOf_18 (lv_at hl 4 rfl) ?_
        obtain ⟨hg, hf⟩ := zg_some hf
        refine z_iald hx hb B 21 rfl (zin_ok hg) dX2_numberOf_20 ?_
        refine lv_bipush (v := (10 : Int32)) hx hb dX2_numberOf_21 (by decide) ?_
        refine lv_irem hx hb dX2_numberOf_23 (by decide) ?_
        refine lv_iconst (v := (1 : Int32)) hx hb dX2_numberOf_24 (by decide) ?_
        refine lv_icmp_ne (tgt := 32) hx hb dX2_numberOf_25 (by decide) (fun hc => ?_) (fun hc => ?_)
        · have hf := zif_f hc hf
          refine lv_iconst (v := (0 : Int32)) hx hb dX2_numberOf_32 (by decide) ?_
          exact L33 _ ih  _ _ _ _ _ _ _ _ _ hf B (lv_sub hl [0, 1, 2, 3, 4] rfl)
        · have hf := zif_t hc hf
          refine lv_iconst (v := (1 : Int32)) hx hb dX2_numberOf_28 (by decide) ?_
          refine lv_goto (tgt := 33) hx hb dX2_numberOf_29 (by decide) ?_
          exact L33 _ ih  _ _ _ _ _ _ _ _ _ hf B (lv_sub hl [0, 1, 2, 3, 4] rfl)
  unfold f_X2_numberOf at hf
  refine lv_iconst (v := (0 : Int32)) hx hb dX2_numberOf_0 (by decide) ?_
  refine lv_istore_n (lv' := [(3, .int (0 : Int32)), (0, .ref (ad 20)), (1, .int a1), (2, .int a2)]) hx hb dX2_numberOf_1 rfl hl (by decide) rfl (fun ls hl => ?_)
  refine lv_iconst (v := (0 : Int32)) hx hb dX2_numberOf_2 (by decide) ?_
  refine lv_istore (lv' := [(4, .int (0 : Int32)), (3, .int (0 : Int32)), (0, .ref (ad 20)), (1, .int a1), (2, .int a2)]) hx hb dX2_numberOf_3 hl (by decide) rfl (fun ls hl => ?_)
  exact L5  _ _ _ _ _ _ _ _ _ hf B (lv_sub hl [2, 3, 4, 1, 0] rfl)
theorem dX3_openAll_0 : decode cX3_openAll 0 = .ok (.aload_n 0, 1) := by decide +kernel
theorem dX3_openAll_1 : decode cX3_openAll 1 = .ok (.bipush 15, 2) := by decide +kernel
theorem dX3_openAll_3 : decode cX3_openAll 3 = .ok (.putfield 9, 3) := by decide +kernel
theorem dX3_openAll_6 : decode cX3_openAll 6 = .ok (.aload_n 0, 1) := by decide +kernel
theorem dX3_openAll_7 : decode cX3_openAll 7 = .ok (.iconst (-1), 1) := by decide +kernel
theorem dX3_openAll_8 : decode cX3_openAll 8 = .ok (.putfield 15, 3) := by decide +kernel
theorem dX3_openAll_11 : decode cX3_openAll 11 = .ok (.aload_n 0, 1) := by decide +kernel
theorem dX3_openAll_12 : decode cX3_openAll 12 = .ok (.bipush 63, 2) := by decide +kernel
theorem dX3_openAll_14 : decode cX3_openAll 14 = .ok (.putfield 18, 3) := by decide +kernel
theorem dX3_openAll_17 : decode cX3_openAll 17 = .ok (.aload_n 0, 1) := by decide +kernel
theorem dX3_openAll_18 : decode cX3_openAll 18 = .ok (.iconst (-1), 1) := by decide +kernel
theorem dX3_openAll_19 : decode cX3_openAll 19 = .ok (.putfield 21, 3) := by decide +kernel
theorem dX3_openAll_22 : decode cX3_openAll 22 = .ok (.aload_n 0, 1) := by decide +kernel
theorem dX3_openAll_23 : decode cX3_openAll 23 = .ok (.iconst 0, 1) := by decide +kernel
theorem dX3_openAll_24 : decode cX3_openAll 24 = .ok (.putfield 24, 3) := by decide +kernel
theorem dX3_openAll_27 : decode cX3_openAll 27 = .ok (.aload_n 0, 1) := by decide +kernel
theorem dX3_openAll_28 : decode cX3_openAll 28 = .ok (.sipush 999, 3) := by decide +kernel
theorem dX3_openAll_31 : decode cX3_openAll 31 = .ok (.putfield 27, 3) := by decide +kernel
theorem dX3_openAll_34 : decode cX3_openAll 34 = .ok (.return_, 1) := by decide +kernel
def rm_X3_openAll : Room := { frames := 1, cells := 0, slots := 0, locals := 16 }
set_option maxHeartbeats 4000000 in
set_option maxRecDepth 100000 in
theorem c_X3_openAll (l : Launch) {nb : Nat} {G : zG} {ad : Nat → Nat} {σ σ' : zs} {r : Int32} (hf : f_X3_openAll σ  = some (r, σ')) : zMv l yX3_openAll wsX3_openAll rm_X3_openAll G (zS nb) ad σ [.ref (ad 13)] σ' := by
  intro sz
  refine Met.ofW (cc := cX3_openAll) (maxL := 1) (ret := none) (by decide) rfl ?_
  intro p e s m args below meth c s₁ B hml hv
  obtain ⟨rfl, hsz, hv⟩ := hv
  have hx := B.exec
  have hb := B.bytes
  have hr := B.returns
  have hts := atoms_spec (ws := wsX3_openAll) B.pre
  have hown : s.vm.findClass RX3 = some m.cls := findClass_of_methodNamed B.named
  have hlocks := B.notSynchronized
  subst hsz
  have B := zB_start hv
  have hinRX3 : ∀ w ∈ wsX30, w ∈ wsX3_openAll := by decide +kernel
  have hl := lv_entry ([.ref (ad 13)]) (n := 1) (Nat.le_of_ble_eq_true rfl)
  rw [lg_entry_eq]
  generalize (lg_sl ([.ref (ad 13)]) ++ List.replicate (1 - (lg_sl ([.ref (ad 13)])).length) Slot.unset).toArray = ls at hl ⊢
  have hl : lv_has ls 1 [(0, .ref (ad 13))] := hl
  generalize hAe : zA ad (zS nb).length s.heap.size = A at B ⊢
  unfold f_X3_openAll at hf
  refine lv_aload_n hx hb dX3_openAll_0 rfl (lv_at hl 0 rfl) ?_
  refine lv_bipush (v := (15 : Int32)) hx hb dX3_openAll_1 (by decide) ?_
  refine z_puti hx hb hts hinRX3 hown tyX3 tyX3_ok nmX3 B 13 0 rfl rfl rfl (by decide) (by decide +kernel) rfl rfl rfl rfl dX3_openAll_3 (fun H locs B => ?_)
  refine lv_aload_n hx hb dX3_openAll_6 rfl (lv_at hl 0 rfl) ?_
  refine lv_iconst (v := (-1 : Int32)) hx hb dX3_openAll_7 (by decide) ?_
  refine z_puti hx hb hts hinRX3 hown tyX3 tyX3_ok nmX3 B 13 1 rfl rfl rfl (by decide) (by decide +kernel) rfl rfl rfl rfl dX3_openAll_8 (fun H locs B => ?_)
  refine lv_aload_n hx hb dX3_openAll_11 rfl (lv_at hl 0 rfl) ?_
  refine lv_bipush (v := (63 : Int32)) hx hb dX3_openAll_12 (by decide) ?_
  refine z_puti hx hb hts hinRX3 hown tyX3 tyX3_ok nmX3 B 13 2 rfl rfl rfl (by decide) (by decide +kernel) rfl rfl rfl rfl dX3_openAll_14 (fun H locs B => ?_)
  refine lv_aload_n hx hb dX3_openAll_17 rfl (lv_at hl 0 rfl) ?_
  refine lv_iconst (v := (-1 : Int32)) hx hb dX3_openAll_18 (by decide) ?_
  refine z_puti hx hb hts hinRX3 hown tyX3 tyX3_ok nmX3 B 13 3 rfl rfl rfl (by decide) (by decide +kernel) rfl rfl rfl rfl dX3_openAll_19 (fun H locs B => ?_)
  refine lv_aload_n hx hb dX3_openAll_22 rfl (lv_at hl 0 rfl) ?_
  refine lv_iconst (v := (0 : Int32)) hx hb dX3_openAll_23 (by decide) ?_
  refine z_puti hx hb hts hinRX3 hown tyX3 tyX3_ok nmX3 B 13 4 rfl rfl rfl (by decide) (by decide +kernel) rfl rfl rfl rfl dX3_openAll_24 (fun H locs B => ?_)
  refine lv_aload_n hx hb dX3_openAll_27 rfl (lv_at hl 0 rfl) ?_
  refine lv_sipush (v := (999 : Int32)) hx hb dX3_openAll_28 (by decide) ?_
  refine z_puti hx hb hts hinRX3 hown tyX3 tyX3_ok nmX3 B 13 5 rfl rfl rfl (by decide) (by decide +kernel) rfl rfl rfl rfl dX3_openAll_31 (fun H locs B => ?_)
  refine W.widen (k := 0) (n := 0) (Nat.le_of_ble_eq_true rfl) (Nat.le_of_ble_eq_true rfl) ?_
  exact z_vret hx hb hr hlocks B hf dX3_openAll_34
theorem dX3_lesser_0 : decode cX3_lesser 0 = .ok (.iload_n 0, 1) := by decide +kernel
theorem dX3_lesser_1 : decode cX3_lesser 1 = .ok (.iconst (-1), 1) := by decide +kernel
theorem dX3_lesser_2 : decode cX3_lesser 2 = .ok (.if_icmp .eq 8, 3) := by decide +kernel
theorem dX3_lesser_5 : decode cX3_lesser 5 = .ok (.iload_n 1, 1) := by decide +kernel
theorem dX3_lesser_6 : decode cX3_lesser 6 = .ok (.iload_n 0, 1) := by decide +kernel
theorem dX3_lesser_7 : decode cX3_lesser 7 = .ok (.if_icmp .ge 7, 3) := by decide +kernel
theorem dX3_lesser_10 : decode cX3_lesser 10 = .ok (.iload_n 1, 1) := by decide +kernel
theorem dX3_lesser_11 : decode cX3_lesser 11 = .ok (.goto 4, 3) := by decide +kernel
theorem dX3_lesser_14 : decode cX3_lesser 14 = .ok (.iload_n 0, 1) := by decide +kernel
theorem dX3_lesser_15 : decode cX3_lesser 15 = .ok (.ireturn, 1) := by decide +kernel
def rm_X3_lesser : Room := { frames := 1, cells := 0, slots := 0, locals := 16 }
set_option maxHeartbeats 4000000 in
set_option maxRecDepth 100000 in
theorem c_X3_lesser (l : Launch) {nb : Nat} {G : zG} {ad : Nat → Nat} {σ σ' : zs} {a0 a1 : Int32} {r : Int32} (hf : f_X3_lesser σ a0 a1 = some (r, σ')) : zMi l yX3_lesser wsX3_lesser rm_X3_lesser G (zS nb) ad σ [.int a0, .int a1] r σ' := by
  intro sz
  refine Met.ofW (cc := cX3_lesser) (maxL := 2) (ret := (some .int)) (by decide) rfl ?_
  intro p e s m args below meth c s₁ B hml hv
  obtain ⟨rfl, hsz, hv⟩ := hv
  have hx := B.exec
  have hb := B.bytes
  have hr := B.returns
  have hts := atoms_spec (ws := wsX3_lesser) B.pre
  have hown : s.vm.findClass RX3 = some m.cls := findClass_of_methodNamed B.named
  have hlocks := B.notSynchronized
  subst hsz
  have B := zB_start hv
  have hl := lv_entry ([.int a0, .int a1]) (n := 2) (Nat.le_of_ble_eq_true rfl)
  rw [lg_entry_eq]
  generalize (lg_sl ([.int a0, .int a1]) ++ List.replicate (2 - (lg_sl ([.int a0, .int a1])).length) Slot.unset).toArray = ls at hl ⊢
  have hl : lv_has ls 2 [(0, .int a0), (1, .int a1)] := hl
  generalize hAe : zA ad (zS nb).length s.heap.size = A at B ⊢
  unfold f_X3_lesser at hf
  refine lv_iload_n hx hb dX3_lesser_0 rfl (lv_at hl 0 rfl) ?_
  refine lv_iconst (v := (-1 : Int32)) hx hb dX3_lesser_1 (by decide) ?_
  refine lv_icmp_eq (tgt := 10) hx hb dX3_lesser_2 (by decide) (fun hc => ?_) (fun hc => ?_)
  · have hf := zif_t hc hf
    refine lv_iload_n hx hb dX3_lesser_10 rfl (lv_at hl 1 rfl) ?_
    refine lv_goto (tgt := 15) hx hb dX3_lesser_11 (by decide) ?_
    refine W.widen (k := 0) (n := 0) (Nat.le_of_ble_eq_true rfl) (Nat.le_of_ble_eq_true rfl) ?_
    exact z_iret hx hb hr rfl hlocks B hf dX3_lesser_15
  · have hf := zif_f hc hf
    refine lv_iload_n hx hb dX3_lesser_5 rfl (lv_at hl 1 rfl) ?_
    refine lv_iload_n hx hb dX3_lesser_6 rfl (lv_at hl 0 rfl) ?_
    refine lv_icmp_ge (tgt := 14) hx hb dX3_lesser_7 (by decide) (fun hc => ?_) (fun hc => ?_)
    · have hf := zif_t hc hf
      refine lv_iload_n hx hb dX3_lesser_14 rfl (lv_at hl 0 rfl) ?_
      refine W.widen (k := 0) (n := 0) (Nat.le_of_ble_eq_true rfl) (Nat.le_of_ble_eq_true rfl) ?_
      exact z_iret hx hb hr rfl hlocks B hf dX3_lesser_15
    · have hf := zif_f hc hf
      refine lv_iload_n hx hb dX3_lesser_10 rfl (lv_at hl 1 rfl) ?_
      refine lv_goto (tgt := 15) hx hb dX3_lesser_11 (by decide) ?_
      refine W.widen (k := 0) (n := 0) (Nat.le_of_ble_eq_true rfl) (Nat.le_of_ble_eq_true rfl) ?_
      exact z_iret hx hb hr rfl hlocks B hf dX3_lesser_15
theorem dX3_narrow_0 : decode cX3_narrow 0 = .ok (.iload_n 1, 1) := by decide +kernel
theorem dX3_narrow_1 : decode cX3_narrow 1 = .ok (.tableswitch 96 0 3 #[31, 44, 59, 74], 31) := by decide +kernel
theorem dX3_narrow_32 : decode cX3_narrow 32 = .ok (.aload_n 0, 1) := by decide +kernel
theorem dX3_narrow_33 : decode cX3_narrow 33 = .ok (.dup, 1) := by decide +kernel
theorem dX3_narrow_34 : decode cX3_narrow 34 = .ok (.getfield 9, 3) := by decide +kernel
theorem dX3_narrow_37 : decode cX3_narrow 37 = .ok (.iload_n 2, 1) := by decide +kernel
theorem dX3_narrow_38 : decode cX3_narrow 38 = .ok (.iand, 1) := by decide +kernel
theorem dX3_narrow_39 : decode cX3_narrow 39 = .ok (.putfield 9, 3) := by decide +kernel
theorem dX3_narrow_42 : decode cX3_narrow 42 = .ok (.goto 79, 3) := by decide +kernel
theorem dX3_narrow_45 : decode cX3_narrow 45 = .ok (.aload_n 0, 1) := by decide +kernel
theorem dX3_narrow_46 : decode cX3_narrow 46 = .ok (.aload_n 0, 1) := by decide +kernel
theorem dX3_narrow_47 : decode cX3_narrow 47 = .ok (.getfield 15, 3) := by decide +kernel
theorem dX3_narrow_50 : decode cX3_narrow 50 = .ok (.iload_n 2, 1) := by decide +kernel
theorem dX3_narrow_51 : decode cX3_narrow 51 = .ok (.invokestatic 30, 3) := by decide +kernel
theorem dX3_narrow_54 : decode cX3_narrow 54 = .ok (.putfield 15, 3) := by decide +kernel
theorem dX3_narrow_57 : decode cX3_narrow 57 = .ok (.goto 64, 3) := by decide +kernel
theorem dX3_narrow_60 : decode cX3_narrow 60 = .ok (.aload_n 0, 1) := by decide +kernel
theorem dX3_narrow_61 : decode cX3_narrow 61 = .ok (.dup, 1) := by decide +kernel
theorem dX3_narrow_62 : decode cX3_narrow 62 = .ok (.getfield 18, 3) := by decide +kernel
theorem dX3_narrow_65 : decode cX3_narrow 65 = .ok (.iconst 1, 1) := by decide +kernel
theorem dX3_narrow_66 : decode cX3_narrow 66 = .ok (.iload_n 2, 1) := by decide +kernel
theorem dX3_narrow_67 : decode cX3_narrow 67 = .ok (.ishl, 1) := by decide +kernel
theorem dX3_narrow_68 : decode cX3_narrow 68 = .ok (.iand, 1) := by decide +kernel
theorem dX3_narrow_69 : decode cX3_narrow 69 = .ok (.putfield 18, 3) := by decide +kernel
theorem dX3_narrow_72 : decode cX3_narrow 72 = .ok (.goto 49, 3) := by decide +kernel
theorem dX3_narrow_75 : decode cX3_narrow 75 = .ok (.aload_n 0, 1) := by decide +kernel
theorem dX3_narrow_76 : decode cX3_narrow 76 = .ok (.aload_n 0, 1) := by decide +kernel
theorem dX3_narrow_77 : decode cX3_narrow 77 = .ok (.getfield 21, 3) := by decide +kernel
theorem dX3_narrow_80 : decode cX3_narrow 80 = .ok (.iconst 0, 1) := by decide +kernel
theorem dX3_narrow_81 : decode cX3_narrow 81 = .ok (.iload_n 2, 1) := by decide +kernel
theorem dX3_narrow_82 : decode cX3_narrow 82 = .ok (.iload 4, 2) := by decide +kernel
theorem dX3_narrow_84 : decode cX3_narrow 84 = .ok (.isub, 1) := by decide +kernel
theorem dX3_narrow_85 : decode cX3_narrow 85 = .ok (.invokestatic 34, 3) := by decide +kernel
theorem dX3_narrow_88 : decode cX3_narrow 88 = .ok (.invokestatic 30, 3) := by decide +kernel
theorem dX3_narrow_91 : decode cX3_narrow 91 = .ok (.putfield 21, 3) := by decide +kernel
theorem dX3_narrow_94 : decode cX3_narrow 94 = .ok (.goto 27, 3) := by decide +kernel
theorem dX3_narrow_97 : decode cX3_narrow 97 = .ok (.aload_n 0, 1) := by decide +kernel
theorem dX3_narrow_98 : decode cX3_narrow 98 = .ok (.aload_n 0, 1) := by decide +kernel
theorem dX3_narrow_99 : decode cX3_narrow 99 = .ok (.getfield 24, 3) := by decide +kernel
theorem dX3_narrow_102 : decode cX3_narrow 102 = .ok (.iload_n 2, 1) := by decide +kernel
theorem dX3_narrow_103 : decode cX3_narrow 103 = .ok (.invokestatic 34, 3) := by decide +kernel
theorem dX3_narrow_106 : decode cX3_narrow 106 = .ok (.putfield 24, 3) := by decide +kernel
theorem dX3_narrow_109 : decode cX3_narrow 109 = .ok (.aload_n 0, 1) := by decide +kernel
theorem dX3_narrow_110 : decode cX3_narrow 110 = .ok (.aload_n 0, 1) := by decide +kernel
theorem dX3_narrow_111 : decode cX3_narrow 111 = .ok (.getfield 27, 3) := by decide +kernel
theorem dX3_narrow_114 : decode cX3_narrow 114 = .ok (.iload_n 3, 1) := by decide +kernel
theorem dX3_narrow_115 : decode cX3_narrow 115 = .ok (.invokestatic 39, 3) := by decide +kernel
theorem dX3_narrow_118 : decode cX3_narrow 118 = .ok (.putfield 27, 3) := by decide +kernel
theorem dX3_narrow_121 : decode cX3_narrow 121 = .ok (.return_, 1) := by decide +kernel
set_option maxRecDepth 20000 in
theorem ggX3_narrow_X3_lesser : GoodIn wsX3_narrow wsX3_lesser := goodIn_r _ [17] (by decide +kernel) (by decide +kernel)
set_option maxRecDepth 20000 in
theorem gX3_narrow_X3_lesser : GoodIn wsX3_narrow (va_wsS RX3 30 yX3_lesser wsX3_lesser) := goodIn_app (goodIn_of _ (by decide +kernel)) ggX3_narrow_X3_lesser
def rm_X3_narrow : Room := { frames := 2, cells := 0, slots := 0, locals := 40 }
set_option maxHeartbeats 4000000 in
set_option maxRecDepth 100000 in
theorem c_X3_narrow (l : Launch) {nb : Nat} {G : zG} {ad : Nat → Nat} {σ σ' : zs} {a1 a2 a3 a4 : Int32} {r : Int32} (hf : f_X3_narrow σ a1 a2 a3 a4 = some (r, σ')) : zMv l yX3_narrow wsX3_narrow rm_X3_narrow G (zS nb) ad σ [.ref (ad 13), .int a1, .int a2, .int a3, .int a4] σ' := by
  intro sz
  refine Met.ofW (cc := cX3_narrow) (maxL := 5) (ret := none) (by decide) rfl ?_
  intro p e s m args below meth c s₁ B hml hv
  obtain ⟨rfl, hsz, hv⟩ := hv
  have hx := B.exec
  have hb := B.bytes
  have hr := B.returns
  have hts := atoms_spec (ws := wsX3_narrow) B.pre
  have hown : s.vm.findClass RX3 = some m.cls := findClass_of_methodNamed B.named
  have hlocks := B.notSynchronized
  subst hsz
  have B := zB_start hv
  have hinRX3 : ∀ w ∈ wsX30, w ∈ wsX3_narrow := by decide +kernel
  have hl := lv_entry ([.ref (ad 13), .int a1, .int a2, .int a3, .int a4]) (n := 5) (Nat.le_of_ble_eq_true rfl)
  rw [lg_entry_eq]
  generalize (lg_sl ([.ref (ad 13), .int a1, .int a2, .int a3, .int a4]) ++ List.replicate (5 - (lg_sl ([.ref (ad 13), .int a1, .int a2, .int a3, .int a4])).length) Slot.unset).toArray = ls at hl ⊢
  have hl : lv_has ls 5 [(0, .ref (ad 13)), (1, .int a1), (2, .int a2), (3, .int a3), (4, .int a4)] := hl
  generalize hAe : zA ad (zS nb).length s.heap.size = A at B ⊢
  unfold f_X3_narrow at hf
  refine lv_iload_n hx hb dX3_narrow_0 rfl (lv_at hl 1 rfl) ?_
  by_cases hc0 : a1 = (0 : Int32)
  · have hf := zif_t hc0 hf
    refine lv_tableIn (off := 31) (tgt := 32) hx hb dX3_narrow_1 (by rw [hc0]; decide) (by rw [hc0]; decide) (by rw [hc0]; rfl) (by decide) ?_
    refine lv_aload_n hx hb dX3_narrow_32 rfl (lv_at hl 0 rfl) ?_
    refine lv_dup hx hb dX3_narrow_33 rfl ?_
    refine z_geti hx hb hts hinRX3 hown B 13 0 rfl rfl rfl (by decide) (by decide +kernel) rfl dX3_narrow_34 ?_
    refine lv_iload_n hx hb dX3_narrow_37 rfl (lv_at hl 2 rfl) ?_
    refine lv_iand hx hb dX3_narrow_38 ?_
    refine z_puti hx hb hts hinRX3 hown tyX3 tyX3_ok nmX3 B 13 0 rfl rfl rfl (by decide) (by decide +kernel) rfl rfl rfl rfl dX3_narrow_39 (fun H locs B => ?_)
    refine lv_goto (tgt := 121) hx hb dX3_narrow_42 (by decide) ?_
    refine W.widen (k := 0) (n := 0) (Nat.le_of_ble_eq_true rfl) (Nat.le_of_ble_eq_true rfl) ?_
    exact z_vret hx hb hr hlocks B hf dX3_narrow_121
  have hf := zif_f hc0 hf
  by_cases hc1 : a1 = (1 : Int32)
  · have hf := zif_t hc1 hf
    refine lv_tableIn (off := 44) (tgt := 45) hx hb dX3_narrow_1 (by rw [hc1]; decide) (by rw [hc1]; decide) (by rw [hc1]; rfl) (by decide) ?_
    refine lv_aload_n hx hb dX3_narrow_45 rfl (lv_at hl 0 rfl) ?_
    refine lv_aload_n hx hb dX3_narrow_46 rfl (lv_at hl 0 rfl) ?_
    refine z_geti hx hb hts hinRX3 hown B 13 1 rfl rfl rfl (by decide) (by decide +kernel) rfl dX3_narrow_47 ?_
    refine lv_iload_n hx hb dX3_narrow_50 rfl (lv_at hl 2 rfl) ?_
    obtain ⟨r2, σ3, hu1, hf⟩ := zb_some hf
    refine z_i B (va_runS (As := [.int (σ 13 1), .int a2]) (rest := [.ref (ad 13)]) ⟨hx, hb, hml, hown, hts⟩ (c_X3_lesser l hu1 _) (va_cwS 2 hts gX3_narrow_X3_lesser rfl rfl rfl (by decide +kernel) ⟨Nat.le_of_ble_eq_true rfl, Nat.le_of_ble_eq_true rfl⟩) (z_preS B) rfl rfl hl.1 rfl (lv_room (Nat.le_of_ble_eq_true rfl)) dX3_narrow_51 ⟨Nat.le_of_ble_eq_true rfl, Nat.le_of_ble_eq_true rfl⟩) (fun H locs B => ?_)
    refine z_puti hx hb hts hinRX3 hown tyX3 tyX3_ok nmX3 B 13 1 rfl rfl rfl (by decide) (by decide +kernel) rfl rfl rfl rfl dX3_narrow_54 (fun H locs B => ?_)
    refine lv_goto (tgt := 121) hx hb dX3_narrow_57 (by decide) ?_
    refine W.widen (k := 0) (n := 0) (Nat.le_of_ble_eq_true rfl) (Nat.le_of_ble_eq_true rfl) ?_
    exact z_vret hx hb hr hlocks B hf dX3_narrow_121
  have hf := zif_f hc1 hf
  by_cases hc2 : a1 = (2 : Int32)
  · have hf := zif_t hc2 hf
    refine lv_tableIn (off := 59) (tgt := 60) hx hb dX3_narrow_1 (by rw [hc2]; decide) (by rw [hc2]; decide) (by rw [hc2]; rfl) (by decide) ?_
    refine lv_aload_n hx hb dX3_narrow_60 rfl (lv_at hl 0 rfl) ?_
    refine lv_dup hx hb dX3_narrow_61 rfl ?_
    refine z_geti hx hb hts hinRX3 hown B 13 2 rfl rfl rfl (by decide) (by decide +kernel) rfl dX3_narrow_62 ?_
    refine lv_iconst (v := (1 : Int32)) hx hb dX3_narrow_65 (by decide) ?_
    refine lv_iload_n hx hb dX3_narrow_66 rfl (lv_at hl 2 rfl) ?_
    refine lv_ishl hx hb dX3_narrow_67 ?_
    refine lv_iand hx hb dX3_narrow_68 ?_
    refine z_puti hx hb hts hinRX3 hown tyX3 tyX3_ok nmX3 B 13 2 rfl rfl rfl (by decide) (by decide +kernel) rfl rfl rfl rfl dX3_narrow_69 (fun H locs B => ?_)
    refine lv_goto (tgt := 121) hx hb dX3_narrow_72 (by decide) ?_
    refine W.widen (k := 0) (n := 0) (Nat.le_of_ble_eq_true rfl) (Nat.le_of_ble_eq_true rfl) ?_
    exact z_vret hx hb hr hlocks B hf dX3_narrow_121
  have hf := zif_f hc2 hf
  by_cases hc3 : a1 = (3 : Int32)
  · have hf := zif_t hc3 hf
    refine lv_tableIn (off := 74) (tgt := 75) hx hb dX3_narrow_1 (by rw [hc3]; decide) (by rw [hc3]; decide) (by rw [hc3]; rfl) (by decide) ?_
    refine lv_aload_n hx hb dX3_narrow_75 rfl (lv_at hl 0 rfl) ?_
    refine lv_aload_n hx hb dX3_narrow_76 rfl (lv_at hl 0 rfl) ?_
    refine z_geti hx hb hts hinRX3 hown B 13 3 rfl rfl rfl (by decide) (by decide +kernel) rfl dX3_narrow_77 ?_
    refine lv_iconst (v := (0 : Int32)) hx hb dX3_narrow_80 (by decide) ?_
    refine lv_iload_n hx hb dX3_narrow_81 rfl (lv_at hl 2 rfl) ?_
    refine lv_iload hx hb dX3_narrow_82 (lv_at hl 4 rfl) ?_
    refine lv_isub hx hb dX3_narrow_84 ?_
    refine va_mmax hx hb (hml.trans hl.1.symm) hown (index := 34) (hts _ (by decide +kernel)) (hts _ (by decide +kernel)) (hts _ (by decide +kernel)) (hts _ (by decide +kernel)) (Nat.le_of_ble_eq_true rfl) (Nat.le_of_ble_eq_true rfl) (Nat.le_of_ble_eq_true rfl) (Nat.le_of_ble_eq_true rfl) dX3_narrow_85 ?_
    obtain ⟨r5, σ6, hu4, hf⟩ := zb_some hf
    refine z_i B (va_runS (As := [.int (σ 13 3), .int (if (0 : Int32) < (a2 - a4) then (a2 - a4) else (0 : Int32))]) (rest := [.ref (ad 13)]) ⟨hx, hb, hml, hown, hts⟩ (c_X3_lesser l hu4 _) (va_cwS 2 hts gX3_narrow_X3_lesser rfl rfl rfl (by decide +kernel) ⟨Nat.le_of_ble_eq_true rfl, Nat.le_of_ble_eq_true rfl⟩) (z_preS B) rfl rfl hl.1 rfl (lv_room (Nat.le_of_ble_eq_true rfl)) dX3_narrow_88 ⟨Nat.le_of_ble_eq_true rfl, Nat.le_of_ble_eq_true rfl⟩) (fun H locs B => ?_)
    refine z_puti hx hb hts hinRX3 hown tyX3 tyX3_ok nmX3 B 13 3 rfl rfl rfl (by decide) (by decide +kernel) rfl rfl rfl rfl dX3_narrow_91 (fun H locs B => ?_)
    refine lv_goto (tgt := 121) hx hb dX3_narrow_94 (by decide) ?_
    refine W.widen (k := 0) (n := 0) (Nat.le_of_ble_eq_true rfl) (Nat.le_of_ble_eq_true rfl) ?_
    exact z_vret hx hb hr hlocks B hf dX3_narrow_121
  have hf := zif_f hc3 hf
  refine lv_tableOut (tgt := 97) hx hb dX3_narrow_1 (zsw_out (fun j h1 h2 hj => ?_)) (by decide) ?_
  · have hd : j = 0 ∨ j = 1 ∨ j = 2 ∨ j = 3 := by omega
    rcases hd with rfl | rfl | rfl | rfl
    · exact hc0 (Int32.toInt_inj.mp (hj.trans (by decide)))
    · exact hc1 (Int32.toInt_inj.mp (hj.trans (by decide)))
    · exact hc2 (Int32.toInt_inj.mp (hj.trans (by decide)))
    · exact hc3 (Int32.toInt_inj.mp (hj.trans (by decide)))
  refine lv_aload_n hx hb dX3_narrow_97 rfl (lv_at hl 0 rfl) ?_
  refine lv_aload_n hx hb dX3_narrow_98 rfl (lv_at hl 0 rfl) ?_
  refine z_geti hx hb hts hinRX3 hown B 13 4 rfl rfl rfl (by decide) (by decide +kernel) rfl dX3_narrow_99 ?_
  refine lv_iload_n hx hb dX3_narrow_102 rfl (lv_at hl 2 rfl) ?_
  refine va_mmax hx hb (hml.trans hl.1.symm) hown (index := 34) (hts _ (by decide +kernel)) (hts _ (by decide +kernel)) (hts _ (by decide +kernel)) (hts _ (by decide +kernel)) (Nat.le_of_ble_eq_true rfl) (Nat.le_of_ble_eq_true rfl) (Nat.le_of_ble_eq_true rfl) (Nat.le_of_ble_eq_true rfl) dX3_narrow_103 ?_
  refine z_puti hx hb hts hinRX3 hown tyX3 tyX3_ok nmX3 B 13 4 rfl rfl rfl (by decide) (by decide +kernel) rfl rfl rfl rfl dX3_narrow_106 (fun H locs B => ?_)
  refine lv_aload_n hx hb dX3_narrow_109 rfl (lv_at hl 0 rfl) ?_
  refine lv_aload_n hx hb dX3_narrow_110 rfl (lv_at hl 0 rfl) ?_
  refine z_geti hx hb hts hinRX3 hown B 13 5 rfl rfl rfl (by decide) (by decide +kernel) rfl dX3_narrow_111 ?_
  refine lv_iload_n hx hb dX3_narrow_114 rfl (lv_at hl 3 rfl) ?_
  refine va_mmin hx hb (hml.trans hl.1.symm) hown (index := 39) (hts _ (by decide +kernel)) (hts _ (by decide +kernel)) (hts _ (by decide +kernel)) (hts _ (by decide +kernel)) (Nat.le_of_ble_eq_true rfl) (Nat.le_of_ble_eq_true rfl) (Nat.le_of_ble_eq_true rfl) (Nat.le_of_ble_eq_true rfl) dX3_narrow_115 ?_
  refine z_puti hx hb hts hinRX3 hown tyX3 tyX3_ok nmX3 B 13 5 rfl rfl rfl (by decide) (by decide +kernel) rfl rfl rfl rfl dX3_narrow_118 (fun H locs B => ?_)
  refine W.widen (k := 0) (n := 0) (Nat.le_of_ble_eq_true rfl) (Nat.le_of_ble_eq_true rfl) ?_
  exact z_vret hx hb hr hlocks B hf dX3_narrow_121
theorem dX3_hasArgument_0 : decode cX3_hasArgument 0 = .ok (.aload_n 0, 1) := by decide +kernel
theorem dX3_hasArgument_1 : decode cX3_hasArgument 1 = .ok (.getfield 24, 3) := by decide +kernel
theorem dX3_hasArgument_4 : decode cX3_hasArgument 4 = .ok (.aload_n 0, 1) := by decide +kernel
theorem dX3_hasArgument_5 : decode cX3_hasArgument 5 = .ok (.getfield 27, 3) := by decide +kernel
theorem dX3_hasArgument_8 : decode cX3_hasArgument 8 = .ok (.if_icmp .gt 7, 3) := by decide +kernel
theorem dX3_hasArgument_11 : decode cX3_hasArgument 11 = .ok (.iconst 1, 1) := by decide +kernel
theorem dX3_hasArgument_12 : decode cX3_hasArgument 12 = .ok (.goto 4, 3) := by decide +kernel
theorem dX3_hasArgument_15 : decode cX3_hasArgument 15 = .ok (.iconst 0, 1) := by decide +kernel
theorem dX3_hasArgument_16 : decode cX3_hasArgument 16 = .ok (.ireturn, 1) := by decide +kernel
def rm_X3_hasArgument : Room := { frames := 1, cells := 0, slots := 0, locals := 16 }
set_option maxHeartbeats 4000000 in
set_option maxRecDepth 100000 in
theorem c_X3_hasArgument (l : Launch) {nb : Nat} {G : zG} {ad : Nat → Nat} {σ σ' : zs} {r : Int32} (hf : f_X3_hasArgument σ  = some (r, σ')) : zMi l yX3_hasArgument wsX3_hasArgument rm_X3_hasArgument G (zS nb) ad σ [.ref (ad 13)] r σ' := by
  intro sz
  refine Met.ofW (cc := cX3_hasArgument) (maxL := 1) (ret := (some .boolean)) (by decide) rfl ?_
  intro p e s m args below meth c s₁ B hml hv
  obtain ⟨rfl, hsz, hv⟩ := hv
  have hx := B.exec
  have hb := B.bytes
  have hr := B.returns
  have hts := atoms_spec (ws := wsX3_hasArgument) B.pre
  have hown : s.vm.findClass RX3 = some m.cls := findClass_of_methodNamed B.named
  have hlocks := B.notSynchronized
  subst hsz
  have B := zB_start hv
  have hinRX3 : ∀ w ∈ wsX30, w ∈ wsX3_hasArgument := by decide +kernel
  have hl := lv_entry ([.ref (ad 13)]) (n := 1) (Nat.le_of_ble_eq_true rfl)
  rw [lg_entry_eq]
  generalize (lg_sl ([.ref (ad 13)]) ++ List.replicate (1 - (lg_sl ([.ref (ad 13)])).length) Slot.unset).toArray = ls at hl ⊢
  have hl : lv_has ls 1 [(0, .ref (ad 13))] := hl
  generalize hAe : zA ad (zS nb).length s.heap.size = A at B ⊢
  unfold f_X3_hasArgument at hf
  refine lv_aload_n hx hb dX3_hasArgument_0 rfl (lv_at hl 0 rfl) ?_
  refine z_geti hx hb hts hinRX3 hown B 13 4 rfl rfl rfl (by decide) (by decide +kernel) rfl dX3_hasArgument_1 ?_
  refine lv_aload_n hx hb dX3_hasArgument_4 rfl (lv_at hl 0 rfl) ?_
  refine z_geti hx hb hts hinRX3 hown B 13 5 rfl rfl rfl (by decide) (by decide +kernel) rfl dX3_hasArgument_5 ?_
  refine lv_icmp_gt (tgt := 15) hx hb dX3_hasArgument_8 (by decide) (fun hc => ?_) (fun hc => ?_)
  · have hf := zif_t hc hf
    refine lv_iconst (v := (0 : Int32)) hx hb dX3_hasArgument_15 (by decide) ?_
    refine W.widen (k := 0) (n := 0) (Nat.le_of_ble_eq_true rfl) (Nat.le_of_ble_eq_true rfl) ?_
    exact z_iret hx hb hr (by decide) hlocks B hf dX3_hasArgument_16
  · have hf := zif_f hc hf
    refine lv_iconst (v := (1 : Int32)) hx hb dX3_hasArgument_11 (by decide) ?_
    refine lv_goto (tgt := 16) hx hb dX3_hasArgument_12 (by decide) ?_
    refine W.widen (k := 0) (n := 0) (Nat.le_of_ble_eq_true rfl) (Nat.le_of_ble_eq_true rfl) ?_
    exact z_iret hx hb hr (by decide) hlocks B hf dX3_hasArgument_16
theorem dX4_settle_0 : decode cX4_settle 0 = .ok (.iload_n 2, 1) := by decide +kernel
theorem dX4_settle_1 : decode cX4_settle 1 = .ok (.ifCond .ne 7, 3) := by decide +kernel
theorem dX4_settle_4 : decode cX4_settle 4 = .ok (.iconst 1, 1) := by decide +kernel
theorem dX4_settle_5 : decode cX4_settle 5 = .ok (.goto 4, 3) := by decide +kernel
theorem dX4_settle_8 : decode cX4_settle 8 = .ok (.iconst 0, 1) := by decide +kernel
theorem dX4_settle_9 : decode cX4_settle 9 = .ok (.istore_n 3, 1) := by decide +kernel
theorem dX4_settle_10 : decode cX4_settle 10 = .ok (.iconst 0, 1) := by decide +kernel
theorem dX4_settle_11 : decode cX4_settle 11 = .ok (.istore 4, 2) := by decide +kernel
theorem dX4_settle_13 : decode cX4_settle 13 = .ok (.iload 4, 2) := by decide +kernel
theorem dX4_settle_15 : decode cX4_settle 15 = .ok (.bipush 6, 2) := by decide +kernel
theorem dX4_settle_17 : decode cX4_settle 17 = .ok (.if_icmp .ge 81, 3) := by decide +kernel
theorem dX4_settle_20 : decode cX4_settle 20 = .ok (.aload_n 0, 1) := by decide +kernel
theorem dX4_settle_21 : decode cX4_settle 21 = .ok (.getfield 15, 3) := by decide +kernel
theorem dX4_settle_24 : decode cX4_settle 24 = .ok (.iload 4, 2) := by decide +kernel
theorem dX4_settle_26 : decode cX4_settle 26 = .ok (.iaload, 1) := by decide +kernel
theorem dX4_settle_27 : decode cX4_settle 27 = .ok (.aload_n 0, 1) := by decide +kernel
theorem dX4_settle_28 : decode cX4_settle 28 = .ok (.getfield 9, 3) := by decide +kernel
theorem dX4_settle_31 : decode cX4_settle 31 = .ok (.iload 4, 2) := by decide +kernel
theorem dX4_settle_33 : decode cX4_settle 33 = .ok (.iaload, 1) := by decide +kernel
theorem dX4_settle_34 : decode cX4_settle 34 = .ok (.iconst (-1), 1) := by decide +kernel
theorem dX4_settle_35 : decode cX4_settle 35 = .ok (.ixor, 1) := by decide +kernel
theorem dX4_settle_36 : decode cX4_settle 36 = .ok (.iand, 1) := by decide +kernel
theorem dX4_settle_37 : decode cX4_settle 37 = .ok (.istore 5, 2) := by decide +kernel
theorem dX4_settle_39 : decode cX4_settle 39 = .ok (.iconst 0, 1) := by decide +kernel
theorem dX4_settle_40 : decode cX4_settle 40 = .ok (.istore 6, 2) := by decide +kernel
theorem dX4_settle_42 : decode cX4_settle 42 = .ok (.iload 6, 2) := by decide +kernel
theorem dX4_settle_44 : decode cX4_settle 44 = .ok (.iload_n 1, 1) := by decide +kernel
theorem dX4_settle_45 : decode cX4_settle 45 = .ok (.if_icmp .ge 35, 3) := by decide +kernel
theorem dX4_settle_48 : decode cX4_settle 48 = .ok (.iload 5, 2) := by decide +kernel
theorem dX4_settle_50 : decode cX4_settle 50 = .ok (.iload 6, 2) := by decide +kernel
theorem dX4_settle_52 : decode cX4_settle 52 = .ok (.invokestatic 76, 3) := by decide +kernel
theorem dX4_settle_55 : decode cX4_settle 55 = .ok (.ifCond .eq 19, 3) := by decide +kernel
theorem dX4_settle_58 : decode cX4_settle 58 = .ok (.aload_n 0, 1) := by decide +kernel
theorem dX4_settle_59 : decode cX4_settle 59 = .ok (.getfield 18, 3) := by decide +kernel
theorem dX4_settle_62 : decode cX4_settle 62 = .ok (.iload 4, 2) := by decide +kernel
theorem dX4_settle_64 : decode cX4_settle 64 = .ok (.bipush 28, 2) := by decide +kernel
theorem dX4_settle_66 : decode cX4_settle 66 = .ok (.imul, 1) := by decide +kernel
theorem dX4_settle_67 : decode cX4_settle 67 = .ok (.iload 6, 2) := by decide +kernel
theorem dX4_settle_69 : decode cX4_settle 69 = .ok (.iadd, 1) := by decide +kernel
theorem dX4_settle_70 : decode cX4_settle 70 = .ok (.iload_n 2, 1) := by decide +kernel
theorem dX4_settle_71 : decode cX4_settle 71 = .ok (.iastore, 1) := by decide +kernel
theorem dX4_settle_72 : decode cX4_settle 72 = .ok (.iconst 1, 1) := by decide +kernel
theorem dX4_settle_73 : decode cX4_settle 73 = .ok (.istore_n 3, 1) := by decide +kernel
theorem dX4_settle_74 : decode cX4_settle 74 = .ok (.iinc 6 1, 3) := by decide +kernel
theorem dX4_settle_77 : decode cX4_settle 77 = .ok (.goto (-35), 3) := by decide +kernel
theorem dX4_settle_80 : decode cX4_settle 80 = .ok (.aload_n 0, 1) := by decide +kernel
theorem dX4_settle_81 : decode cX4_settle 81 = .ok (.getfield 9, 3) := by decide +kernel
theorem dX4_settle_84 : decode cX4_settle 84 = .ok (.iload 4, 2) := by decide +kernel
theorem dX4_settle_86 : decode cX4_settle 86 = .ok (.dup2, 1) := by decide +kernel
theorem dX4_settle_87 : decode cX4_settle 87 = .ok (.iaload, 1) := by decide +kernel
theorem dX4_settle_88 : decode cX4_settle 88 = .ok (.iload 5, 2) := by decide +kernel
theorem dX4_settle_90 : decode cX4_settle 90 = .ok (.ior, 1) := by decide +kernel
theorem dX4_settle_91 : decode cX4_settle 91 = .ok (.iastore, 1) := by decide +kernel
theorem dX4_settle_92 : decode cX4_settle 92 = .ok (.iinc 4 1, 3) := by decide +kernel
theorem dX4_settle_95 : decode cX4_settle 95 = .ok (.goto (-82), 3) := by decide +kernel
theorem dX4_settle_98 : decode cX4_settle 98 = .ok (.iload_n 3, 1) := by decide +kernel
theorem dX4_settle_99 : decode cX4_settle 99 = .ok (.ireturn, 1) := by decide +kernel
set_option maxRecDepth 20000 in
theorem ggX4_settle_X8_hasBit : GoodIn wsX4_settle wsX8_hasBit := goodIn_r _ [6] (by decide +kernel) (by decide +kernel)
set_option maxRecDepth 20000 in
theorem gX4_settle_X8_hasBit_n76 : GoodIn wsX4_settle (wsX8_hasBit) := ggX4_settle_X8_hasBit
def rm_X4_settle : Room := { frames := 2, cells := 0, slots := 0, locals := 37 }
set_option maxHeartbeats 4000000 in
set_option maxRecDepth 100000 in
theorem c_X4_settle (l : Launch) {nb : Nat} {G : zG} {ad : Nat → Nat} {σ σ' : zs} {a1 a2 : Int32} {r : Int32} (hf : f_X4_settle σ a1 a2 = some (r, σ')) : zMi l yX4_settle wsX4_settle rm_X4_settle G (zS nb) ad σ [.ref (ad 57), .int a1, .int a2] r σ' := by
  intro sz
  refine Met.ofW (cc := cX4_settle) (maxL := 7) (ret := (some .boolean)) (by decide) rfl ?_
  intro p e s m args below meth c s₁ B hml hv
  obtain ⟨rfl, hsz, hv⟩ := hv
  have hx := B.exec
  have hb := B.bytes
  have hr := B.returns
  have hts := atoms_spec (ws := wsX4_settle) B.pre
  have hown : s.vm.findClass RX4 = some m.cls := findClass_of_methodNamed B.named
  have hlocks := B.notSynchronized
  subst hsz
  have B := zB_start hv
  have hinRX4 : ∀ w ∈ wsX40, w ∈ wsX4_settle := by decide +kernel
  have hl := lv_entry ([.ref (ad 57), .int a1, .int a2]) (n := 7) (Nat.le_of_ble_eq_true rfl)
  rw [lg_entry_eq]
  generalize (lg_sl ([.ref (ad 57), .int a1, .int a2]) ++ List.replicate (7 - (lg_sl ([.ref (ad 57), .int a1, .int a2])).length) Slot.unset).toArray = ls at hl ⊢
  have hl : lv_has ls 7 [(0, .ref (ad 57)), (1, .int a1), (2, .int a2)] := hl
  generalize hAe : zA ad (zS nb).length s.heap.size = A at B ⊢
  have L42 : ∀ (K13 : zs → Int32 → Int32 → Int32 → Int32 → Option (Int32 × zs)) (hK13 : ∀ (σ : zs) (v1 : Int32) (v2 : Int32) (v3 : Int32) (v4 : Int32) (H : Heap) (locs : List Loc) (ls : Array Slot), K13 σ v1 v2 v3 v4 = some (r, σ') → zB A s G (zS nb) ad σ H locs → lv_has ls 7 [(0, .ref (ad 57)), (1, .int v1), (2, .int v2), (3, .int v3), (4, .int v4)] → W p l e (headSpec wsX4_settle rm_X4_settle).room s m ([.ref (ad 57), .int a1, .int a2] : List Value).toArray below meth c H locs 0 0 (MQ below (va_Qi (fun r' (_ : Unit) => r' = r) (zPost G (zS nb) ad σ') A) ([.ref (ad 57), .int a1, .int a2] : List Value).toArray s 0 0 A) (F0 m 13 ls [])) (n : Nat) (σ : zs) (v1 : Int32) (v2 : Int32) (v3 : Int32) (v4 : Int32) (v5 : Int32) (v6 : Int32) (H : Heap) (locs : List Loc) (ls : Array Slot), zlp6 (f_X4_settle_42 K13) n σ v1 v2 v3 v4 v5 v6 = some (r, σ') → zB A s G (zS nb) ad σ H locs → lv_has ls 7 [(0, .ref (ad 57)), (1, .int v1), (2, .int v2), (3, .int v3), (4, .int v4), (5, .int v5), (6, .int v6)] → W p l e (headSpec wsX4_settle rm_X4_settle).room s m ([.ref (ad 57), .int a1, .int a2] : List Value).toArray below meth c H locs 0 0 (MQ below (va_Qi (fun r' (_ : Unit) => r' = r) (zPost G (zS nb) ad σ') A) ([.ref (ad 57), .int a1, .int a2] : List Value).toArray s 0 0 A) (F0 m 42 ls []) := by
    intro K13 hK13 n
    induction n with
    | zero =>
      intro σ v1 v2 v3 v4 v5 v6 H locs ls hf
      cases hf
    | succ n ih =>
      intro σ v1 v2 v3 v4 v5 v6 H locs ls hf B hl
      have hf : f_X4_settle_42 K13 (zlp6 (f_X4_settle_42 K13) n) σ v1 v2 v3 v4 v5 v6 = some (r, σ') := hf
      unfold f_X4_settle_42 at hf
      refine lv_iload hx hb dX4_settle_42 (lv_at hl 6 rfl) ?_
      refine lv_iload_n hx hb dX4_settle_44 rfl (lv_at hl 1 rfl) ?_
      refine lv_icmp_ge (tgt := 80) hx hb dX4_settle_45 (by decide) (fun hc => ?_) (fun hc => ?_)
      · have hf := zif_t hc hf
        refine lv_aload_n hx hb dX4_settle_80 rfl (lv_at hl 0 rfl) ?_
        refine z_getr hx hb hts hinRX4 hown B 57 0 58 rfl rfl rfl (by decide) (by decide +kernel) rfl dX4_settle_81 ?_
        refine lv_iload hx hb dX4_settle_84 (lv_at hl 4 rfl) ?_
        refine lv_dup2_11 hx hb dX4_settle_86 rfl rfl ?_
        obtain ⟨hg, hf⟩ := zg_some hf
        refine z_iald hx hb B 58 rfl (zin_ok hg) dX4_settle_87 ?_
        refine lv_iload hx hb dX4_settle_88 (lv_at hl 5 rfl) ?_
        refine lv_ior hx hb dX4_settle_90 ?_
        obtain ⟨hg, hf⟩ := zg_some hf
        refine z_iast hx hb B 58 rfl (zin_ok hg) dX4_settle_91 (fun H locs B => ?_)
        refine lv_iinc (v := (v4 + (1 : Int32))) (lv' := [(4, .int (v4 + (1 : Int32))), (0, .ref (ad 57)), (1, .int v1), (2, .int v2), (3, .int v3), (5, .int v5), (6, .int v6)]) hx hb dX4_settle_92 hl (k := 4) rfl (zc1 (by decide)) (by decide) rfl (fun ls hl => ?_)
        refine lv_goto (tgt := 13) hx hb dX4_settle_95 (by decide) ?_
        exact hK13 _ _ _ _ _ _ _ _ hf B (lv_sub hl [1, 2, 3, 4, 0] rfl)
      · have hf := zif_f hc hf
        refine lv_iload hx hb dX4_settle_48 (lv_at hl 5 rfl) ?_
        refine lv_iload hx hb dX4_settle_50 (lv_at hl 6 rfl) ?_
        obtain ⟨r2, σ3, hu1, hf⟩ := zb_some hf
        refine z_i B (va_runSN (As := [.int v5, .int v6]) (rest := []) ⟨hx, hb, hml, hown, hts⟩ (c_X8_hasBit l hu1 _) ⟨va_cnB 2 hts gX4_settle_X8_hasBit_n76 rfl rfl rfl (z_nest B (q := (RX4, 76, yX8_hasBit)) (by decide +kernel)) (hts (.initialized RX8) (by decide +kernel)) (by decide +kernel) ⟨Nat.le_of_ble_eq_true rfl, Nat.le_of_ble_eq_true rfl⟩, hts (.static yX8_hasBit) (by decide +kernel), trivial⟩ (z_preS B) rfl rfl hl.1 rfl (lv_room (Nat.le_of_ble_eq_true rfl)) dX4_settle_52 ⟨Nat.le_of_ble_eq_true rfl, Nat.le_of_ble_eq_true rfl⟩) (fun H locs B => ?_)
        refine lv_if_eq (tgt := 74) hx hb dX4_settle_55 (by decide) (fun hc => ?_) (fun hc => ?_)
        · have hf := zif_t hc hf
          refine lv_iinc (v := (v6 + (1 : Int32))) (lv' := [(6, .int (v6 + (1 : Int32))), (0, .ref (ad 57)), (1, .int v1), (2, .int v2), (3, .int v3), (4, .int v4), (5, .int v5)]) hx hb dX4_settle_74 hl (k := 6) rfl (zc1 (by decide)) (by decide) rfl (fun ls hl => ?_)
          refine lv_goto (tgt := 42) hx hb dX4_settle_77 (by decide) ?_
          exact ih _ _ _ _ _ _ _ _ _ _ hf B (lv_sub hl [1, 2, 3, 4, 5, 6, 0] rfl)
        · have hf := zif_f hc hf
          refine lv_aload_n hx hb dX4_settle_58 rfl (lv_at hl 0 rfl) ?_
          refine z_getr hx hb hts hinRX4 hown B 57 2 60 rfl rfl rfl (by decide) (by decide +kernel) rfl dX4_settle_59 ?_
          refine lv_iload hx hb dX4_settle_62 (lv_at hl 4 rfl) ?_
          refine lv_bipush (v := (28 : Int32)) hx hb dX4_settle_64 (by decide) ?_
          refine lv_imul hx hb dX4_settle_66 ?_
          refine lv_iload hx hb dX4_settle_67 (lv_at hl 6 rfl) ?_
          refine lv_iadd hx hb dX4_settle_69 ?_
          refine lv_iload_n hx hb dX4_settle_70 rfl (lv_at hl 2 rfl) ?_
          obtain ⟨hg, hf⟩ := zg_some hf
          refine z_iast hx hb B 60 rfl (zin_ok hg) dX4_settle_71 (fun H locs B => ?_)
          refine lv_iconst (v := (1 : Int32)) hx hb dX4_settle_72 (by decide) ?_
          refine lv_istore_n (lv' := [(3, .int (1 : Int32)), (0, .ref (ad 57)), (1, .int v1), (2, .int v2), (4, .int v4), (5, .int v5), (6, .int v6)]) hx hb dX4_settle_73 rfl hl (by decide) rfl (fun ls hl => ?_)
          refine lv_iinc (v := (v6 + (1 : Int32))) (lv' := [(6, .int (v6 + (1 : Int32))), (3, .int (1 : Int32)), (0, .ref (ad 57)), (1, .int v1), (2, .int v2), (4, .int v4), (5, .int v5)]) hx hb dX4_settle_74 hl (k := 6) rfl (zc1 (by decide)) (by decide) rfl (fun ls hl => ?_)
          refine lv_goto (tgt := 42) hx hb dX4_settle_77 (by decide) ?_
          exact ih _ _ _ _ _ _ _ _ _ _ hf B (lv_sub hl [2, 3, 4, 1, 5, 6, 0] rfl)
  have L13 : ∀ (n : Nat) (σ : zs) (v1 : Int32) (v2 : Int32) (v3 : Int32) (v4 : Int32) (H : Heap) (locs : List Loc) (ls : Array Slot), zlp4 (f_X4_settle_13) n σ v1 v2 v3 v4 = some (r, σ') → zB A s G (zS nb) ad σ H locs → lv_has ls 7 [(0, .ref (ad 57)), (1, .int v1), (2, .int v2), (3, .int v3), (4, .int v4)] → W p l e (headSpec wsX4_settle rm_X4_settle).room s m ([.ref (ad 57), .int a1, .int a2] : List Value).toArray below meth c H locs 0 0 (MQ below (va_Qi (fun r' (_ : Unit) => r' = r) (zPost G (zS nb) ad σ') A) ([.ref (ad 57), .int a1, .int a2] : List Value).toArray s 0 0 A) (F0 m 13 ls []) := by
    intro n
    induction n with
    | zero =>
      intro σ v1 v2 v3 v4 H locs ls hf
      cases hf
    | succ n ih =>
      intro σ v1 v2 v3 v4 H locs ls hf B hl
      have hf : f_X4_settle_13 (zlp4 (f_X4_settle_13) n) σ v1 v2 v3 v4 = some (r, σ') := hf
      unfold f_X4_settle_13 at hf
      refine lv_iload hx hb dX4_settle_13 (lv_at hl 4 rfl) ?_
      refine lv_bipush (v := (6 : Int32)) hx hb dX4_settle_15 (by decide) ?_
      refine lv_icmp_ge (tgt := 98) hx hb dX4_settle_17 (by decide) (fun hc => ?_) (fun hc => ?_)
      · have hf := zif_t hc hf
        refine lv_iload_n hx hb dX4_settle_98 rfl (lv_at hl 3 rfl) ?_
        obtain ⟨hg, hf⟩ := zg_some hf
        refine W.widen (k := 0) (n := 0) (Nat.le_of_ble_eq_true rfl) (Nat.le_of_ble_eq_true rfl) ?_
        exact z_iret hx hb hr (znz hg) hlocks B hf dX4_settle_99
      · have hf := zif_f hc hf
        refine lv_aload_n hx hb dX4_settle_20 rfl (lv_at hl 0 rfl) ?_
        refine z_getr hx hb hts hinRX4 hown B 57 1 59 rfl rfl rfl (by decide) (by decide +kernel) rfl dX4_settle_21 ?_
        refine lv_iload hx hb dX4_settle_24 (lv_at hl 4 rfl) ?_
        obtain ⟨hg, hf⟩ := zg_some hf
        refine z_iald hx hb B 59 rfl (zin_ok hg) dX4_settle_26 ?_
        refine lv_aload_n hx hb dX4_settle_27 rfl (lv_at hl 0 rfl) ?_
        refine z_getr hx hb hts hinRX4 hown B 57 0 58 rfl rfl rfl (by decide) (by decide +kernel) rfl dX4_settle_28 ?_
        refine lv_iload hx hb dX4_settle_31 (lv_at hl 4 rfl) ?_
        obtain ⟨hg, hf⟩ := zg_some hf
        refine z_iald hx hb B 58 rfl (zin_ok hg) dX4_settle_33 ?_
        refine lv_iconst (v := (-1 : Int32)) hx hb dX4_settle_34 (by decide) ?_
        refine lv_ixor hx hb dX4_settle_35 ?_
        refine lv_iand hx hb dX4_settle_36 ?_
        refine lv_istore (lv' := [(5, .int ((σ 59 v4.toNatClampNeg) &&& ((σ 58 v4.toNatClampNeg) ^^^ (-1 : Int32)))), (0, .ref (ad 57)), (1, .int v1), (2, .int v2), (3, .int v3), (4, .int v4)]) hx hb dX4_settle_37 hl (by decide) rfl (fun ls hl => ?_)
        refine lv_iconst (v := (0 : Int32)) hx hb dX4_settle_39 (by decide) ?_
        refine lv_istore (lv' := [(6, .int (0 : Int32)), (5, .int ((σ 59 v4.toNatClampNeg) &&& ((σ 58 v4.toNatClampNeg) ^^^ (-1 : Int32)))), (0, .ref (ad 57)), (1, .int v1), (2, .int v2), (3, .int v3), (4, .int v4)]) hx hb dX4_settle_40 hl (by decide) rfl (fun ls hl => ?_)
        exact L42 _ ih  _ _ _ _ _ _ _ _ _ _ _ hf B (lv_sub hl [2, 3, 4, 5, 6, 1, 0] rfl)
  have L9 : ∀ (σ : zs) (v1 : Int32) (v2 : Int32) (s0 : Int32) (H : Heap) (locs : List Loc) (ls : Array Slot), f_X4_settle_9 σ v1 v2 s0 = some (r, σ') → zB A s G (zS nb) ad σ H locs → lv_has ls 7 [(0, .ref (ad 57)), (1, .int v1), (2, .int v2)] → W p l e (headSpec wsX4_settle rm_X4_settle).room s m ([.ref (ad 57), .int a1, .int a2] : List Value).toArray below meth c H locs 0 0 (MQ below (va_Qi (fun r' (_ : Unit) => r' = r) (zPost G (zS nb) ad σ') A) ([.ref (ad 57), .int a1, .int a2] : List Value).toArray s 0 0 A) (F0 m 9 ls [.int s0]) := by
    intro σ v1 v2 s0 H locs ls hf B hl
    unfold f_X4_settle_9 at hf
    refine lv_istore_n (lv' := [(3, .int s0), (0, .ref (ad 57)), (1, .int v1), (2, .int v2)]) hx hb dX4_settle_9 rfl hl (by decide) rfl (fun ls hl => ?_)
    refine lv_iconst (v := (0 : Int32)) hx hb dX4_settle_10 (by decide) ?_
    refine lv_istore (lv' := [(4, .int (0 : Int32)), (3, .int s0), (0, .ref (ad 57)), (1, .int v1), (2, .int v2)]) hx hb dX4_settle_11 hl (by decide) rfl (fun ls hl => ?_)
    exact L13  _ _ _ _ _ _ _ _ _ hf B (lv_sub hl [2, 3, 4, 1, 0] rfl)
  unfold f_X4_settle at hf
  refine lv_iload_n hx hb dX4_settle_0 rfl (lv_at hl 2 rfl) ?_
  refine lv_if_ne (tgt := 8) hx hb dX4_settle_1 (by decide) (fun hc => ?_) (fun hc => ?_)
  · have hf := zif_f hc hf
    refine lv_iconst (v := (0 : Int32)) hx hb dX4_settle_8 (by decide) ?_
    exact L9  _ _ _ _ _ _ _ hf B (lv_sub hl [0, 1, 2] rfl)
  · have hf := zif_t hc hf
    refine lv_iconst (v := (1 : Int32)) hx hb dX4_settle_4 (by decide) ?_
    refine lv_goto (tgt := 9) hx hb dX4_settle_5 (by decide) ?_
    exact L9  _ _ _ _ _ _ _ hf B (lv_sub hl [0, 1, 2] rfl)
theorem dX5_addCause_0 : decode cX5_addCause 0 = .ok (.aload_n 0, 1) := by decide +kernel
theorem dX5_addCause_1 : decode cX5_addCause 1 = .ok (.getfield 18, 3) := by decide +kernel
theorem dX5_addCause_4 : decode cX5_addCause 4 = .ok (.iconst 3, 1) := by decide +kernel
theorem dX5_addCause_5 : decode cX5_addCause 5 = .ok (.if_icmp .ge 33, 3) := by decide +kernel
theorem dX5_addCause_8 : decode cX5_addCause 8 = .ok (.aload_n 0, 1) := by decide +kernel
theorem dX5_addCause_9 : decode cX5_addCause 9 = .ok (.getfield 9, 3) := by decide +kernel
theorem dX5_addCause_12 : decode cX5_addCause 12 = .ok (.aload_n 0, 1) := by decide +kernel
theorem dX5_addCause_13 : decode cX5_addCause 13 = .ok (.getfield 18, 3) := by decide +kernel
theorem dX5_addCause_16 : decode cX5_addCause 16 = .ok (.iload_n 1, 1) := by decide +kernel
theorem dX5_addCause_17 : decode cX5_addCause 17 = .ok (.iastore, 1) := by decide +kernel
theorem dX5_addCause_18 : decode cX5_addCause 18 = .ok (.aload_n 0, 1) := by decide +kernel
theorem dX5_addCause_19 : decode cX5_addCause 19 = .ok (.getfield 15, 3) := by decide +kernel
theorem dX5_addCause_22 : decode cX5_addCause 22 = .ok (.aload_n 0, 1) := by decide +kernel
theorem dX5_addCause_23 : decode cX5_addCause 23 = .ok (.getfield 18, 3) := by decide +kernel
theorem dX5_addCause_26 : decode cX5_addCause 26 = .ok (.iload_n 2, 1) := by decide +kernel
theorem dX5_addCause_27 : decode cX5_addCause 27 = .ok (.iastore, 1) := by decide +kernel
theorem dX5_addCause_28 : decode cX5_addCause 28 = .ok (.aload_n 0, 1) := by decide +kernel
theorem dX5_addCause_29 : decode cX5_addCause 29 = .ok (.dup, 1) := by decide +kernel
theorem dX5_addCause_30 : decode cX5_addCause 30 = .ok (.getfield 18, 3) := by decide +kernel
theorem dX5_addCause_33 : decode cX5_addCause 33 = .ok (.iconst 1, 1) := by decide +kernel
theorem dX5_addCause_34 : decode cX5_addCause 34 = .ok (.iadd, 1) := by decide +kernel
theorem dX5_addCause_35 : decode cX5_addCause 35 = .ok (.putfield 18, 3) := by decide +kernel
theorem dX5_addCause_38 : decode cX5_addCause 38 = .ok (.return_, 1) := by decide +kernel
def rm_X5_addCause : Room := { frames := 1, cells := 0, slots := 0, locals := 16 }
set_option maxHeartbeats 4000000 in
set_option maxRecDepth 100000 in
theorem c_X5_addCause (l : Launch) {nb : Nat} {G : zG} {ad : Nat → Nat} {σ σ' : zs} {a1 a2 : Int32} {r : Int32} (hf : f_X5_addCause σ a1 a2 = some (r, σ')) : zMv l yX5_addCause wsX5_addCause rm_X5_addCause G (zS nb) ad σ [.ref (ad 49), .int a1, .int a2] σ' := by
  intro sz
  refine Met.ofW (cc := cX5_addCause) (maxL := 3) (ret := none) (by decide) rfl ?_
  intro p e s m args below meth c s₁ B hml hv
  obtain ⟨rfl, hsz, hv⟩ := hv
  have hx := B.exec
  have hb := B.bytes
  have hr := B.returns
  have hts := atoms_spec (ws := wsX5_addCause) B.pre
  have hown : s.vm.findClass RX5 = some m.cls := findClass_of_methodNamed B.named
  have hlocks := B.notSynchronized
  subst hsz
  have B := zB_start hv
  have hinRX5 : ∀ w ∈ wsX50, w ∈ wsX5_addCause := by decide +kernel
  have hl := lv_entry ([.ref (ad 49), .int a1, .int a2]) (n := 3) (Nat.le_of_ble_eq_true rfl)
  rw [lg_entry_eq]
  generalize (lg_sl ([.ref (ad 49), .int a1, .int a2]) ++ List.replicate (3 - (lg_sl ([.ref (ad 49), .int a1, .int a2])).length) Slot.unset).toArray = ls at hl ⊢
  have hl : lv_has ls 3 [(0, .ref (ad 49)), (1, .int a1), (2, .int a2)] := hl
  generalize hAe : zA ad (zS nb).length s.heap.size = A at B ⊢
  unfold f_X5_addCause at hf
  refine lv_aload_n hx hb dX5_addCause_0 rfl (lv_at hl 0 rfl) ?_
  refine z_geti hx hb hts hinRX5 hown B 49 2 rfl rfl rfl (by decide) (by decide +kernel) rfl dX5_addCause_1 ?_
  refine lv_iconst (v := (3 : Int32)) hx hb dX5_addCause_4 (by decide) ?_
  refine lv_icmp_ge (tgt := 38) hx hb dX5_addCause_5 (by decide) (fun hc => ?_) (fun hc => ?_)
  · have hf := zif_t hc hf
    refine W.widen (k := 0) (n := 0) (Nat.le_of_ble_eq_true rfl) (Nat.le_of_ble_eq_true rfl) ?_
    exact z_vret hx hb hr hlocks B hf dX5_addCause_38
  · have hf := zif_f hc hf
    refine lv_aload_n hx hb dX5_addCause_8 rfl (lv_at hl 0 rfl) ?_
    refine z_getr hx hb hts hinRX5 hown B 49 0 50 rfl rfl rfl (by decide) (by decide +kernel) rfl dX5_addCause_9 ?_
    refine lv_aload_n hx hb dX5_addCause_12 rfl (lv_at hl 0 rfl) ?_
    refine z_geti hx hb hts hinRX5 hown B 49 2 rfl rfl rfl (by decide) (by decide +kernel) rfl dX5_addCause_13 ?_
    refine lv_iload_n hx hb dX5_addCause_16 rfl (lv_at hl 1 rfl) ?_
    obtain ⟨hg, hf⟩ := zg_some hf
    refine z_iast hx hb B 50 rfl (zin_ok hg) dX5_addCause_17 (fun H locs B => ?_)
    refine lv_aload_n hx hb dX5_addCause_18 rfl (lv_at hl 0 rfl) ?_
    refine z_getr hx hb hts hinRX5 hown B 49 1 51 rfl rfl rfl (by decide) (by decide +kernel) rfl dX5_addCause_19 ?_
    refine lv_aload_n hx hb dX5_addCause_22 rfl (lv_at hl 0 rfl) ?_
    refine z_geti hx hb hts hinRX5 hown B 49 2 rfl rfl rfl (by decide) (by decide +kernel) rfl dX5_addCause_23 ?_
    refine lv_iload_n hx hb dX5_addCause_26 rfl (lv_at hl 2 rfl) ?_
    obtain ⟨hg, hf⟩ := zg_some hf
    refine z_iast hx hb B 51 rfl (zin_ok hg) dX5_addCause_27 (fun H locs B => ?_)
    refine lv_aload_n hx hb dX5_addCause_28 rfl (lv_at hl 0 rfl) ?_
    refine lv_dup hx hb dX5_addCause_29 rfl ?_
    refine z_geti hx hb hts hinRX5 hown B 49 2 rfl rfl rfl (by decide) (by decide +kernel) rfl dX5_addCause_30 ?_
    refine lv_iconst (v := (1 : Int32)) hx hb dX5_addCause_33 (by decide) ?_
    refine lv_iadd hx hb dX5_addCause_34 ?_
    refine z_puti hx hb hts hinRX5 hown tyX5 tyX5_ok nmX5 B 49 2 rfl rfl rfl (by decide) (by decide +kernel) rfl rfl rfl rfl dX5_addCause_35 (fun H locs B => ?_)
    refine W.widen (k := 0) (n := 0) (Nat.le_of_ble_eq_true rfl) (Nat.le_of_ble_eq_true rfl) ?_
    exact z_vret hx hb hr hlocks B hf dX5_addCause_38
theorem dX5_begin_0 : decode cX5_begin 0 = .ok (.aload_n 0, 1) := by decide +kernel
theorem dX5_begin_1 : decode cX5_begin 1 = .ok (.iconst 0, 1) := by decide +kernel
theorem dX5_begin_2 : decode cX5_begin 2 = .ok (.putfield 18, 3) := by decide +kernel
theorem dX5_begin_5 : decode cX5_begin 5 = .ok (.aload_n 0, 1) := by decide +kernel
theorem dX5_begin_6 : decode cX5_begin 6 = .ok (.iload_n 1, 1) := by decide +kernel
theorem dX5_begin_7 : decode cX5_begin 7 = .ok (.iload_n 2, 1) := by decide +kernel
theorem dX5_begin_8 : decode cX5_begin 8 = .ok (.invokevirtual 22, 3) := by decide +kernel
theorem dX5_begin_11 : decode cX5_begin 11 = .ok (.return_, 1) := by decide +kernel
set_option maxRecDepth 20000 in
theorem ggX5_begin_X5_addCause : GoodIn wsX5_begin wsX5_addCause := goodIn_ca (goodIn_r _ [6, 1, 7, 8, 9, 10, 11] (by decide +kernel) (by decide +kernel)) (goodIn_sub (fun _ h => List.mem_cons_of_mem _ (List.mem_append_right _ h)) (by decide +kernel))
set_option maxRecDepth 20000 in
theorem gX5_begin_X5_addCause : GoodIn wsX5_begin (wsV RX5 22 RX5 yX5_addCause wsX5_addCause) := goodIn_app (goodIn_of _ (by decide +kernel)) ggX5_begin_X5_addCause
def rm_X5_begin : Room := { frames := 2, cells := 0, slots := 0, locals := 38 }
set_option maxHeartbeats 4000000 in
set_option maxRecDepth 100000 in
theorem c_X5_begin (l : Launch) {nb : Nat} {G : zG} {ad : Nat → Nat} {σ σ' : zs} {a1 a2 : Int32} {r : Int32} (hf : f_X5_begin σ a1 a2 = some (r, σ')) : zMv l yX5_begin wsX5_begin rm_X5_begin G (zS nb) ad σ [.ref (ad 49), .int a1, .int a2] σ' := by
  intro sz
  refine Met.ofW (cc := cX5_begin) (maxL := 3) (ret := none) (by decide) rfl ?_
  intro p e s m args below meth c s₁ B hml hv
  obtain ⟨rfl, hsz, hv⟩ := hv
  have hx := B.exec
  have hb := B.bytes
  have hr := B.returns
  have hts := atoms_spec (ws := wsX5_begin) B.pre
  have hown : s.vm.findClass RX5 = some m.cls := findClass_of_methodNamed B.named
  have hlocks := B.notSynchronized
  subst hsz
  have B := zB_start hv
  have hinRX5 : ∀ w ∈ wsX50, w ∈ wsX5_begin := by decide +kernel
  have hl := lv_entry ([.ref (ad 49), .int a1, .int a2]) (n := 3) (Nat.le_of_ble_eq_true rfl)
  rw [lg_entry_eq]
  generalize (lg_sl ([.ref (ad 49), .int a1, .int a2]) ++ List.replicate (3 - (lg_sl ([.ref (ad 49), .int a1, .int a2])).length) Slot.unset).toArray = ls at hl ⊢
  have hl : lv_has ls 3 [(0, .ref (ad 49)), (1, .int a1), (2, .int a2)] := hl
  generalize hAe : zA ad (zS nb).length s.heap.size = A at B ⊢
  unfold f_X5_begin at hf
  refine lv_aload_n hx hb dX5_begin_0 rfl (lv_at hl 0 rfl) ?_
  refine lv_iconst (v := (0 : Int32)) hx hb dX5_begin_1 (by decide) ?_
  refine z_puti hx hb hts hinRX5 hown tyX5 tyX5_ok nmX5 B 49 2 rfl rfl rfl (by decide) (by decide +kernel) rfl rfl rfl rfl dX5_begin_2 (fun H locs B => ?_)
  refine lv_aload_n hx hb dX5_begin_5 rfl (lv_at hl 0 rfl) ?_
  refine lv_iload_n hx hb dX5_begin_6 rfl (lv_at hl 1 rfl) ?_
  refine lv_iload_n hx hb dX5_begin_7 rfl (lv_at hl 2 rfl) ?_
  obtain ⟨r2, σ3, hu1, hf⟩ := zb_some hf
  refine z_v B (va_runV (As := [.int a1, .int a2]) (rest := []) ⟨hx, hb, hml, hown, hts⟩ (c_X5_addCause l hu1 _) (cwV 2 hts gX5_begin_X5_addCause rfl rfl rfl (by decide +kernel) ⟨Nat.le_of_ble_eq_true rfl, Nat.le_of_ble_eq_true rfl⟩) (z_preV B rfl rfl) rfl rfl hl.1 rfl (lv_room (Nat.le_of_ble_eq_true rfl)) dX5_begin_8 ⟨Nat.le_of_ble_eq_true rfl, Nat.le_of_ble_eq_true rfl⟩) (fun H locs B => ?_)
  refine W.widen (k := 0) (n := 0) (Nat.le_of_ble_eq_true rfl) (Nat.le_of_ble_eq_true rfl) ?_
  exact z_vret hx hb hr hlocks B hf dX5_begin_11
theorem dX6_act_0 : decode cX6_act 0 = .ok (.aload_n 0, 1) := by decide +kernel
theorem dX6_act_1 : decode cX6_act 1 = .ok (.getfield 32, 3) := by decide +kernel
theorem dX6_act_4 : decode cX6_act 4 = .ok (.iload_n 1, 1) := by decide +kernel
theorem dX6_act_5 : decode cX6_act 5 = .ok (.iaload, 1) := by decide +kernel
theorem dX6_act_6 : decode cX6_act 6 = .ok (.istore 4, 2) := by decide +kernel
theorem dX6_act_8 : decode cX6_act 8 = .ok (.iload_n 2, 1) := by decide +kernel
theorem dX6_act_9 : decode cX6_act 9 = .ok (.bipush 8, 2) := by decide +kernel
theorem dX6_act_11 : decode cX6_act 11 = .ok (.if_icmp .ne 20, 3) := by decide +kernel
theorem dX6_act_14 : decode cX6_act 14 = .ok (.aload_n 0, 1) := by decide +kernel
theorem dX6_act_15 : decode cX6_act 15 = .ok (.getfield 36, 3) := by decide +kernel
theorem dX6_act_18 : decode cX6_act 18 = .ok (.iload_n 1, 1) := by decide +kernel
theorem dX6_act_19 : decode cX6_act 19 = .ok (.dup2, 1) := by decide +kernel
theorem dX6_act_20 : decode cX6_act 20 = .ok (.iaload, 1) := by decide +kernel
theorem dX6_act_21 : decode cX6_act 21 = .ok (.iconst 1, 1) := by decide +kernel
theorem dX6_act_22 : decode cX6_act 22 = .ok (.iadd, 1) := by decide +kernel
theorem dX6_act_23 : decode cX6_act 23 = .ok (.iastore, 1) := by decide +kernel
theorem dX6_act_24 : decode cX6_act 24 = .ok (.aload_n 0, 1) := by decide +kernel
theorem dX6_act_25 : decode cX6_act 25 = .ok (.getfield 36, 3) := by decide +kernel
theorem dX6_act_28 : decode cX6_act 28 = .ok (.iload_n 1, 1) := by decide +kernel
theorem dX6_act_29 : decode cX6_act 29 = .ok (.iaload, 1) := by decide +kernel
theorem dX6_act_30 : decode cX6_act 30 = .ok (.ireturn, 1) := by decide +kernel
theorem dX6_act_31 : decode cX6_act 31 = .ok (.iload_n 2, 1) := by decide +kernel
theorem dX6_act_32 : decode cX6_act 32 = .ok (.iconst 2, 1) := by decide +kernel
theorem dX6_act_33 : decode cX6_act 33 = .ok (.if_icmp .ne 10, 3) := by decide +kernel
theorem dX6_act_36 : decode cX6_act 36 = .ok (.aload_n 0, 1) := by decide +kernel
theorem dX6_act_37 : decode cX6_act 37 = .ok (.getfield 32, 3) := by decide +kernel
theorem dX6_act_40 : decode cX6_act 40 = .ok (.iload_n 1, 1) := by decide +kernel
theorem dX6_act_41 : decode cX6_act 41 = .ok (.iload_n 3, 1) := by decide +kernel
theorem dX6_act_42 : decode cX6_act 42 = .ok (.iastore, 1) := by decide +kernel
theorem dX6_act_43 : decode cX6_act 43 = .ok (.iload 4, 2) := by decide +kernel
theorem dX6_act_45 : decode cX6_act 45 = .ok (.ireturn, 1) := by decide +kernel
def rm_X6_act : Room := { frames := 1, cells := 0, slots := 0, locals := 16 }
set_option maxHeartbeats 4000000 in
set_option maxRecDepth 100000 in
theorem c_X6_act (l : Launch) {nb : Nat} {G : zG} {ad : Nat → Nat} {σ σ' : zs} {a1 a2 a3 : Int32} {r : Int32} (hf : f_X6_act σ a1 a2 a3 = some (r, σ')) : zMi l yX6_act wsX6_act rm_X6_act G (zS nb) ad σ [.ref (ad 1), .int a1, .int a2, .int a3] r σ' := by
  intro sz
  refine Met.ofW (cc := cX6_act) (maxL := 5) (ret := (some .int)) (by decide) rfl ?_
  intro p e s m args below meth c s₁ B hml hv
  obtain ⟨rfl, hsz, hv⟩ := hv
  have hx := B.exec
  have hb := B.bytes
  have hr := B.returns
  have hts := atoms_spec (ws := wsX6_act) B.pre
  have hown : s.vm.findClass RX6 = some m.cls := findClass_of_methodNamed B.named
  have hlocks := B.notSynchronized
  subst hsz
  have B := zB_start hv
  have hinRX6 : ∀ w ∈ wsX60, w ∈ wsX6_act := by decide +kernel
  have hl := lv_entry ([.ref (ad 1), .int a1, .int a2, .int a3]) (n := 5) (Nat.le_of_ble_eq_true rfl)
  rw [lg_entry_eq]
  generalize (lg_sl ([.ref (ad 1), .int a1, .int a2, .int a3]) ++ List.replicate (5 - (lg_sl ([.ref (ad 1), .int a1, .int a2, .int a3])).length) Slot.unset).toArray = ls at hl ⊢
  have hl : lv_has ls 5 [(0, .ref (ad 1)), (1, .int a1), (2, .int a2), (3, .int a3)] := hl
  generalize hAe : zA ad (zS nb).length s.heap.size = A at B ⊢
  unfold f_X6_act at hf
  refine lv_aload_n hx hb dX6_act_0 rfl (lv_at hl 0 rfl) ?_
  refine z_getr hx hb hts hinRX6 hown B 1 3 22 rfl rfl rfl (by decide) (by decide +kernel) rfl dX6_act_1 ?_
  refine lv_iload_n hx hb dX6_act_4 rfl (lv_at hl 1 rfl) ?_
  obtain ⟨hg, hf⟩ := zg_some hf
  refine z_iald hx hb B 22 rfl (zin_ok hg) dX6_act_5 ?_
  refine lv_istore (lv' := [(4, .int (σ 22 a1.toNatClampNeg)), (0, .ref (ad 1)), (1, .int a1), (2, .int a2), (3, .int a3)]) hx hb dX6_act_6 hl (by decide) rfl (fun ls hl => ?_)
  refine lv_iload_n hx hb dX6_act_8 rfl (lv_at hl 3 rfl) ?_
  refine lv_bipush (v := (8 : Int32)) hx hb dX6_act_9 (by decide) ?_
  refine lv_icmp_ne (tgt := 31) hx hb dX6_act_11 (by decide) (fun hc => ?_) (fun hc => ?_)
  · have hf := zif_f hc hf
    refine lv_iload_n hx hb dX6_act_31 rfl (lv_at hl 3 rfl) ?_
    refine lv_iconst (v := (2 : Int32)) hx hb dX6_act_32 (by decide) ?_
    refine lv_icmp_ne (tgt := 43) hx hb dX6_act_33 (by decide) (fun hc => ?_) (fun hc => ?_)
    · have hf := zif_f hc hf
      refine lv_iload hx hb dX6_act_43 (lv_at hl 0 rfl) ?_
      refine W.widen (k := 0) (n := 0) (Nat.le_of_ble_eq_true rfl) (Nat.le_of_ble_eq_true rfl) ?_
      exact z_iret hx hb hr rfl hlocks B hf dX6_act_45
    · have hf := zif_t hc hf
      refine lv_aload_n hx hb dX6_act_36 rfl (lv_at hl 1 rfl) ?_
      refine z_getr hx hb hts hinRX6 hown B 1 3 22 rfl rfl rfl (by decide) (by decide +kernel) rfl dX6_act_37 ?_
      refine lv_iload_n hx hb dX6_act_40 rfl (lv_at hl 2 rfl) ?_
      refine lv_iload_n hx hb dX6_act_41 rfl (lv_at hl 4 rfl) ?_
      obtain ⟨hg, hf⟩ := zg_some hf
      refine z_iast hx hb B 22 rfl (zin_ok hg) dX6_act_42 (fun H locs B => ?_)
      refine lv_iload hx hb dX6_act_43 (lv_at hl 0 rfl) ?_
      refine W.widen (k := 0) (n := 0) (Nat.le_of_ble_eq_true rfl) (Nat.le_of_ble_eq_true rfl) ?_
      exact z_iret hx hb hr rfl hlocks B hf dX6_act_45
  · have hf := zif_t hc hf
    refine lv_aload_n hx hb dX6_act_14 rfl (lv_at hl 1 rfl) ?_
    refine z_getr hx hb hts hinRX6 hown B 1 4 23 rfl rfl rfl (by decide) (by decide +kernel) rfl dX6_act_15 ?_
    refine lv_iload_n hx hb dX6_act_18 rfl (lv_at hl 2 rfl) ?_
    refine lv_dup2_11 hx hb dX6_act_19 rfl rfl ?_
    obtain ⟨hg, hf⟩ := zg_some hf
    refine z_iald hx hb B 23 rfl (zin_ok hg) dX6_act_20 ?_
    refine lv_iconst (v := (1 : Int32)) hx hb dX6_act_21 (by decide) ?_
    refine lv_iadd hx hb dX6_act_22 ?_
    obtain ⟨hg, hf⟩ := zg_some hf
    refine z_iast hx hb B 23 rfl (zin_ok hg) dX6_act_23 (fun H locs B => ?_)
    refine lv_aload_n hx hb dX6_act_24 rfl (lv_at hl 1 rfl) ?_
    refine z_getr hx hb hts hinRX6 hown B 1 4 23 rfl rfl rfl (by decide) (by decide +kernel) rfl dX6_act_25 ?_
    refine lv_iload_n hx hb dX6_act_28 rfl (lv_at hl 2 rfl) ?_
    obtain ⟨hg, hf⟩ := zg_some hf
    refine z_iald hx hb B 23 rfl (zin_ok hg) dX6_act_29 ?_
    refine W.widen (k := 0) (n := 0) (Nat.le_of_ble_eq_true rfl) (Nat.le_of_ble_eq_true rfl) ?_
    exact z_iret hx hb hr rfl hlocks B hf dX6_act_30
theorem dX6_clearExpired_0 : decode cX6_clearExpired 0 = .ok (.aload_n 0, 1) := by decide +kernel
theorem dX6_clearExpired_1 : decode cX6_clearExpired 1 = .ok (.iconst 0, 1) := by decide +kernel
theorem dX6_clearExpired_2 : decode cX6_clearExpired 2 = .ok (.putfield 60, 3) := by decide +kernel
theorem dX6_clearExpired_5 : decode cX6_clearExpired 5 = .ok (.return_, 1) := by decide +kernel
def rm_X6_clearExpired : Room := { frames := 1, cells := 0, slots := 0, locals := 16 }
set_option maxHeartbeats 4000000 in
set_option maxRecDepth 100000 in
theorem c_X6_clearExpired (l : Launch) {nb : Nat} {G : zG} {ad : Nat → Nat} {σ σ' : zs} {r : Int32} (hf : f_X6_clearExpired σ  = some (r, σ')) : zMv l yX6_clearExpired wsX6_clearExpired rm_X6_clearExpired G (zS nb) ad σ [.ref (ad 1)] σ' := by
  intro sz
  refine Met.ofW (cc := cX6_clearExpired) (maxL := 1) (ret := none) (by decide) rfl ?_
  intro p e s m args below meth c s₁ B hml hv
  obtain ⟨rfl, hsz, hv⟩ := hv
  have hx := B.exec
  have hb := B.bytes
  have hr := B.returns
  have hts := atoms_spec (ws := wsX6_clearExpired) B.pre
  have hown : s.vm.findClass RX6 = some m.cls := findClass_of_methodNamed B.named
  have hlocks := B.notSynchronized
  subst hsz
  have B := zB_start hv
  have hinRX6 : ∀ w ∈ wsX60, w ∈ wsX6_clearExpired := by decide +kernel
  have hl := lv_entry ([.ref (ad 1)]) (n := 1) (Nat.le_of_ble_eq_true rfl)
  rw [lg_entry_eq]
  generalize (lg_sl ([.ref (ad 1)]) ++ List.replicate (1 - (lg_sl ([.ref (ad 1)])).length) Slot.unset).toArray = ls at hl ⊢
  have hl : lv_has ls 1 [(0, .ref (ad 1))] := hl
  generalize hAe : zA ad (zS nb).length s.heap.size = A at B ⊢
  unfold f_X6_clearExpired at hf
  refine lv_aload_n hx hb dX6_clearExpired_0 rfl (lv_at hl 0 rfl) ?_
  refine lv_iconst (v := (0 : Int32)) hx hb dX6_clearExpired_1 (by decide) ?_
  refine z_puti hx hb hts hinRX6 hown tyX6 tyX6_ok nmX6 B 1 7 rfl rfl rfl (by decide) (by decide +kernel) rfl rfl rfl rfl dX6_clearExpired_2 (fun H locs B => ?_)
  refine W.widen (k := 0) (n := 0) (Nat.le_of_ble_eq_true rfl) (Nat.le_of_ble_eq_true rfl) ?_
  exact z_vret hx hb hr hlocks B hf dX6_clearExpired_5
theorem dX7_limitsOf_0 : decode cX7_limitsOf 0 = .ok (.aload_n 0, 1) := by decide +kernel
theorem dX7_limitsOf_1 : decode cX7_limitsOf 1 = .ok (.getfield 45, 3) := by decide +kernel
theorem dX7_limitsOf_4 : decode cX7_limitsOf 4 = .ok (.invokevirtual 88, 3) := by decide +kernel
theorem dX7_limitsOf_7 : decode cX7_limitsOf 7 = .ok (.iconst 0, 1) := by decide +kernel
theorem dX7_limitsOf_8 : decode cX7_limitsOf 8 = .ok (.istore_n 2, 1) := by decide +kernel
theorem dX7_limitsOf_9 : decode cX7_limitsOf 9 = .ok (.iload_n 2, 1) := by decide +kernel
theorem dX7_limitsOf_10 : decode cX7_limitsOf 10 = .ok (.aload_n 0, 1) := by decide +kernel
theorem dX7_limitsOf_11 : decode cX7_limitsOf 11 = .ok (.getfield 15, 3) := by decide +kernel
theorem dX7_limitsOf_14 : decode cX7_limitsOf 14 = .ok (.iload_n 1, 1) := by decide +kernel
theorem dX7_limitsOf_15 : decode cX7_limitsOf 15 = .ok (.iaload, 1) := by decide +kernel
theorem dX7_limitsOf_16 : decode cX7_limitsOf 16 = .ok (.if_icmp .ge 83, 3) := by decide +kernel
theorem dX7_limitsOf_19 : decode cX7_limitsOf 19 = .ok (.aload_n 0, 1) := by decide +kernel
theorem dX7_limitsOf_20 : decode cX7_limitsOf 20 = .ok (.getfield 18, 3) := by decide +kernel
theorem dX7_limitsOf_23 : decode cX7_limitsOf 23 = .ok (.iload_n 1, 1) := by decide +kernel
theorem dX7_limitsOf_24 : decode cX7_limitsOf 24 = .ok (.bipush 7, 2) := by decide +kernel
theorem dX7_limitsOf_26 : decode cX7_limitsOf 26 = .ok (.imul, 1) := by decide +kernel
theorem dX7_limitsOf_27 : decode cX7_limitsOf 27 = .ok (.iload_n 2, 1) := by decide +kernel
theorem dX7_limitsOf_28 : decode cX7_limitsOf 28 = .ok (.iadd, 1) := by decide +kernel
theorem dX7_limitsOf_29 : decode cX7_limitsOf 29 = .ok (.iaload, 1) := by decide +kernel
theorem dX7_limitsOf_30 : decode cX7_limitsOf 30 = .ok (.istore_n 3, 1) := by decide +kernel
theorem dX7_limitsOf_31 : decode cX7_limitsOf 31 = .ok (.iconst 0, 1) := by decide +kernel
theorem dX7_limitsOf_32 : decode cX7_limitsOf 32 = .ok (.istore 4, 2) := by decide +kernel
theorem dX7_limitsOf_34 : decode cX7_limitsOf 34 = .ok (.iload 4, 2) := by decide +kernel
theorem dX7_limitsOf_36 : decode cX7_limitsOf 36 = .ok (.aload_n 0, 1) := by decide +kernel
theorem dX7_limitsOf_37 : decode cX7_limitsOf 37 = .ok (.getfield 30, 3) := by decide +kernel
theorem dX7_limitsOf_40 : decode cX7_limitsOf 40 = .ok (.iload_n 3, 1) := by decide +kernel
theorem dX7_limitsOf_41 : decode cX7_limitsOf 41 = .ok (.iaload, 1) := by decide +kernel
theorem dX7_limitsOf_42 : decode cX7_limitsOf 42 = .ok (.if_icmp .ge 51, 3) := by decide +kernel
theorem dX7_limitsOf_45 : decode cX7_limitsOf 45 = .ok (.iload_n 3, 1) := by decide +kernel
theorem dX7_limitsOf_46 : decode cX7_limitsOf 46 = .ok (.iconst 4, 1) := by decide +kernel
theorem dX7_limitsOf_47 : decode cX7_limitsOf 47 = .ok (.imul, 1) := by decide +kernel
theorem dX7_limitsOf_48 : decode cX7_limitsOf 48 = .ok (.iload 4, 2) := by decide +kernel
theorem dX7_limitsOf_50 : decode cX7_limitsOf 50 = .ok (.iadd, 1) := by decide +kernel
theorem dX7_limitsOf_51 : decode cX7_limitsOf 51 = .ok (.istore 5, 2) := by decide +kernel
theorem dX7_limitsOf_53 : decode cX7_limitsOf 53 = .ok (.aload_n 0, 1) := by decide +kernel
theorem dX7_limitsOf_54 : decode cX7_limitsOf 54 = .ok (.getfield 45, 3) := by decide +kernel
theorem dX7_limitsOf_57 : decode cX7_limitsOf 57 = .ok (.aload_n 0, 1) := by decide +kernel
theorem dX7_limitsOf_58 : decode cX7_limitsOf 58 = .ok (.getfield 33, 3) := by decide +kernel
theorem dX7_limitsOf_61 : decode cX7_limitsOf 61 = .ok (.iload 5, 2) := by decide +kernel
theorem dX7_limitsOf_63 : decode cX7_limitsOf 63 = .ok (.iaload, 1) := by decide +kernel
theorem dX7_limitsOf_64 : decode cX7_limitsOf 64 = .ok (.aload_n 0, 1) := by decide +kernel
theorem dX7_limitsOf_65 : decode cX7_limitsOf 65 = .ok (.getfield 36, 3) := by decide +kernel
theorem dX7_limitsOf_68 : decode cX7_limitsOf 68 = .ok (.iload 5, 2) := by decide +kernel
theorem dX7_limitsOf_70 : decode cX7_limitsOf 70 = .ok (.iaload, 1) := by decide +kernel
theorem dX7_limitsOf_71 : decode cX7_limitsOf 71 = .ok (.aload_n 0, 1) := by decide +kernel
theorem dX7_limitsOf_72 : decode cX7_limitsOf 72 = .ok (.getfield 39, 3) := by decide +kernel
theorem dX7_limitsOf_75 : decode cX7_limitsOf 75 = .ok (.iload 5, 2) := by decide +kernel
theorem dX7_limitsOf_77 : decode cX7_limitsOf 77 = .ok (.iaload, 1) := by decide +kernel
theorem dX7_limitsOf_78 : decode cX7_limitsOf 78 = .ok (.aload_n 0, 1) := by decide +kernel
theorem dX7_limitsOf_79 : decode cX7_limitsOf 79 = .ok (.getfield 24, 3) := by decide +kernel
theorem dX7_limitsOf_82 : decode cX7_limitsOf 82 = .ok (.iload_n 3, 1) := by decide +kernel
theorem dX7_limitsOf_83 : decode cX7_limitsOf 83 = .ok (.iaload, 1) := by decide +kernel
theorem dX7_limitsOf_84 : decode cX7_limitsOf 84 = .ok (.invokevirtual 91, 3) := by decide +kernel
theorem dX7_limitsOf_87 : decode cX7_limitsOf 87 = .ok (.iinc 4 1, 3) := by decide +kernel
theorem dX7_limitsOf_90 : decode cX7_limitsOf 90 = .ok (.goto (-56), 3) := by decide +kernel
theorem dX7_limitsOf_93 : decode cX7_limitsOf 93 = .ok (.iinc 2 1, 3) := by decide +kernel
theorem dX7_limitsOf_96 : decode cX7_limitsOf 96 = .ok (.goto (-87), 3) := by decide +kernel
theorem dX7_limitsOf_99 : decode cX7_limitsOf 99 = .ok (.aload_n 0, 1) := by decide +kernel
theorem dX7_limitsOf_100 : decode cX7_limitsOf 100 = .ok (.getfield 45, 3) := by decide +kernel
theorem dX7_limitsOf_103 : decode cX7_limitsOf 103 = .ok (.areturn, 1) := by decide +kernel
set_option maxRecDepth 20000 in
theorem ggX7_limitsOf_X3_openAll : GoodIn wsX7_limitsOf wsX3_openAll := goodIn_r _ [13, 14, 15, 16, 17, 18, 19, 46, 47, 48, 49, 50, 51] (by decide +kernel) (by decide +kernel)
set_option maxRecDepth 20000 in
theorem gX7_limitsOf_X3_openAll : GoodIn wsX7_limitsOf (wsV RX7 88 RX3 yX3_openAll wsX3_openAll) := goodIn_app (goodIn_of _ (by decide +kernel)) ggX7_limitsOf_X3_openAll
set_option maxRecDepth 20000 in
theorem ggX7_limitsOf_X3_narrow : GoodIn wsX7_limitsOf wsX3_narrow := goodIn_r _ [23, 14, 15, 16, 17, 24, 25, 26, 27, 18, 19, 28, 29, 30, 31, 32, 12, 33, 46, 47, 48, 49, 50, 51] (by decide +kernel) (by decide +kernel)
set_option maxRecDepth 20000 in
theorem gX7_limitsOf_X3_narrow : GoodIn wsX7_limitsOf (wsV RX7 91 RX3 yX3_narrow wsX3_narrow) := goodIn_app (goodIn_of _ (by decide +kernel)) ggX7_limitsOf_X3_narrow
def rm_X7_limitsOf : Room := { frames := 3, cells := 0, slots := 0, locals := 64 }
set_option maxHeartbeats 4000000 in
set_option maxRecDepth 100000 in
theorem c_X7_limitsOf (l : Launch) {nb : Nat} {G : zG} {ad : Nat → Nat} {σ σ' : zs} {a1 : Int32} {r : Int32} (hf : f_X7_limitsOf σ a1 = some (r, σ')) : zMr l yX7_limitsOf wsX7_limitsOf rm_X7_limitsOf G (zS nb) ad σ [.ref (ad 2), .int a1] 13 σ' := by
  intro sz
  refine Met.ofW (cc := cX7_limitsOf) (maxL := 6) (ret := (some (.object "CapabilityStore$Limits"))) (by decide) rfl ?_
  intro p e s m args below meth c s₁ B hml hv
  obtain ⟨rfl, hsz, hv⟩ := hv
  have hx := B.exec
  have hb := B.bytes
  have hr := B.returns
  have hts := atoms_spec (ws := wsX7_limitsOf) B.pre
  have hown : s.vm.findClass RX7 = some m.cls := findClass_of_methodNamed B.named
  have hlocks := B.notSynchronized
  subst hsz
  have B := zB_start hv
  have hinRX7 : ∀ w ∈ wsX70, w ∈ wsX7_limitsOf := by decide +kernel
  have hl := lv_entry ([.ref (ad 2), .int a1]) (n := 6) (Nat.le_of_ble_eq_true rfl)
  rw [lg_entry_eq]
  generalize (lg_sl ([.ref (ad 2), .int a1]) ++ List.replicate (6 - (lg_sl ([.ref (ad 2), .int a1])).length) Slot.unset).toArray = ls at hl ⊢
  have hl : lv_has ls 6 [(0, .ref (ad 2)), (1, .int a1)] := hl
  generalize hAe : zA ad (zS nb).length s.heap.size = A at B ⊢
  have L34 : ∀ (K9 : zs → Int32 → Int32 → Option (Int32 × zs)) (hK9 : ∀ (σ : zs) (v1 : Int32) (v2 : Int32) (H : Heap) (locs : List Loc) (ls : Array Slot), K9 σ v1 v2 = some (r, σ') → zB A s G (zS nb) ad σ H locs → lv_has ls 6 [(0, .ref (ad 2)), (1, .int v1), (2, .int v2)] → W p l e (headSpec wsX7_limitsOf rm_X7_limitsOf).room s m ([.ref (ad 2), .int a1] : List Value).toArray below meth c H locs 0 0 (MQ below (va_Qr (fun (_ : Unit) => True) (fun u a t => a = ad 13 ∧ zPost G (zS nb) ad σ' u t) A) ([.ref (ad 2), .int a1] : List Value).toArray s 0 0 A) (F0 m 9 ls [])) (n : Nat) (σ : zs) (v1 : Int32) (v2 : Int32) (v3 : Int32) (v4 : Int32) (H : Heap) (locs : List Loc) (ls : Array Slot), zlp4 (f_X7_limitsOf_34 K9) n σ v1 v2 v3 v4 = some (r, σ') → zB A s G (zS nb) ad σ H locs → lv_has ls 6 [(0, .ref (ad 2)), (1, .int v1), (2, .int v2), (3, .int v3), (4, .int v4)] → W p l e (headSpec wsX7_limitsOf rm_X7_limitsOf).room s m ([.ref (ad 2), .int a1] : List Value).toArray below meth c H locs 0 0 (MQ below (va_Qr (fun (_ : Unit) => True) (fun u a t => a = ad 13 ∧ zPost G (zS nb) ad σ' u t) A) ([.ref (ad 2), .int a1] : List Value).toArray s 0 0 A) (F0 m 34 ls []) := by
    intro K9 hK9 n
    induction n with
    | zero =>
      intro σ v1 v2 v3 v4 H locs ls hf
      cases hf
    | succ n ih =>
      intro σ v1 v2 v3 v4 H locs ls hf B hl
      have hf : f_X7_limitsOf_34 K9 (zlp4 (f_X7_limitsOf_34 K9) n) σ v1 v2 v3 v4 = some (r, σ') := hf
      unfold f_X7_limitsOf_34 at hf
      refine lv_iload hx hb dX7_limitsOf_34 (lv_at hl 4 rfl) ?_
      refine lv_aload_n hx hb dX7_limitsOf_36 rfl (lv_at hl 0 rfl) ?_
      refine z_getr hx hb hts hinRX7 hown B 2 7 9 rfl rfl rfl (by decide) (by decide +kernel) rfl dX7_limitsOf_37 ?_
      refine lv_iload_n hx hb dX7_limitsOf_40 rfl (lv_at hl 3 rfl) ?_
      obtain ⟨hg, hf⟩ := zg_some hf
      refine z_iald hx hb B 9 rfl (zin_ok hg) dX7_limitsOf_41 ?_
      refine lv_icmp_ge (tgt := 93) hx hb dX7_limitsOf_42 (by decide) (fun hc => ?_) (fun hc => ?_)
      · have hf := zif_t hc hf
        refine lv_iinc (v := (v2 + (1 : Int32))) (lv' := [(2, .int (v2 + (1 : Int32))), (0, .ref (ad 2)), (1, .int v1), (3, .int v3), (4, .int v4)]) hx hb dX7_limitsOf_93 hl (k := 2) rfl (zc1 (by decide)) (by decide) rfl (fun ls hl => ?_)
        refine lv_goto (tgt := 9) hx hb dX7_limitsOf_96 (by decide) ?_
        exact hK9 _ _ _ _ _ _ hf B (lv_sub hl [1, 2, 0] rfl)
      · have hf := zif_f hc hf
        refine lv_iload_n hx hb dX7_limitsOf_45 rfl (lv_at hl 3 rfl) ?_
        refine lv_iconst (v := (4 : Int32)) hx hb dX7_limitsOf_46 (by decide) ?_
        refine lv_imul hx hb dX7_limitsOf_47 ?_
        refine lv_iload hx hb dX7_limitsOf_48 (lv_at hl 4 rfl) ?_
        refine lv_iadd hx hb dX7_limitsOf_50 ?_
        refine lv_istore (lv' := [(5, .int ((v3 * (4 : Int32)) + v4)), (0, .ref (ad 2)), (1, .int v1), (2, .int v2), (3, .int v3), (4, .int v4)]) hx hb dX7_limitsOf_51 hl (by decide) rfl (fun ls hl => ?_)
        refine lv_aload_n hx hb dX7_limitsOf_53 rfl (lv_at hl 1 rfl) ?_
        refine z_getr hx hb hts hinRX7 hown B 2 11 13 rfl rfl rfl (by decide) (by decide +kernel) rfl dX7_limitsOf_54 ?_
        refine lv_aload_n hx hb dX7_limitsOf_57 rfl (lv_at hl 1 rfl) ?_
        refine z_getr hx hb hts hinRX7 hown B 2 8 10 rfl rfl rfl (by decide) (by decide +kernel) rfl dX7_limitsOf_58 ?_
        refine lv_iload hx hb dX7_limitsOf_61 (lv_at hl 0 rfl) ?_
        obtain ⟨hg, hf⟩ := zg_some hf
        refine z_iald hx hb B 10 rfl (zin_ok hg) dX7_limitsOf_63 ?_
        refine lv_aload_n hx hb dX7_limitsOf_64 rfl (lv_at hl 1 rfl) ?_
        refine z_getr hx hb hts hinRX7 hown B 2 9 11 rfl rfl rfl (by decide) (by decide +kernel) rfl dX7_limitsOf_65 ?_
        refine lv_iload hx hb dX7_limitsOf_68 (lv_at hl 0 rfl) ?_
        obtain ⟨hg, hf⟩ := zg_some hf
        refine z_iald hx hb B 11 rfl (zin_ok hg) dX7_limitsOf_70 ?_
        refine lv_aload_n hx hb dX7_limitsOf_71 rfl (lv_at hl 1 rfl) ?_
        refine z_getr hx hb hts hinRX7 hown B 2 10 12 rfl rfl rfl (by decide) (by decide +kernel) rfl dX7_limitsOf_72 ?_
        refine lv_iload hx hb dX7_limitsOf_75 (lv_at hl 0 rfl) ?_
        obtain ⟨hg, hf⟩ := zg_some hf
        refine z_iald hx hb B 12 rfl (zin_ok hg) dX7_limitsOf_77 ?_
        refine lv_aload_n hx hb dX7_limitsOf_78 rfl (lv_at hl 1 rfl) ?_
        refine z_getr hx hb hts hinRX7 hown B 2 5 7 rfl rfl rfl (by decide) (by decide +kernel) rfl dX7_limitsOf_79 ?_
        refine lv_iload_n hx hb dX7_limitsOf_82 rfl (lv_at hl 4 rfl) ?_
        obtain ⟨hg, hf⟩ := zg_some hf
        refine z_iald hx hb B 7 rfl (zin_ok hg) dX7_limitsOf_83 ?_
        obtain ⟨r5, σ6, hu4, hf⟩ := zb_some hf
        refine z_v B (va_runV (As := [.int (σ 10 ((v3 * (4 : Int32)) + v4).toNatClampNeg), .int (σ 11 ((v3 * (4 : Int32)) + v4).toNatClampNeg), .int (σ 12 ((v3 * (4 : Int32)) + v4).toNatClampNeg), .int (σ 7 v3.toNatClampNeg)]) (rest := []) ⟨hx, hb, hml, hown, hts⟩ (c_X3_narrow l hu4 _) (cwV 4 hts gX7_limitsOf_X3_narrow rfl rfl rfl (by decide +kernel) ⟨Nat.le_of_ble_eq_true rfl, Nat.le_of_ble_eq_true rfl⟩) (z_preV B rfl rfl) rfl rfl hl.1 rfl (lv_room (Nat.le_of_ble_eq_true rfl)) dX7_limitsOf_84 ⟨Nat.le_of_ble_eq_true rfl, Nat.le_of_ble_eq_true rfl⟩) (fun H locs B => ?_)
        refine lv_iinc (v := (v4 + (1 : Int32))) (lv' := [(4, .int (v4 + (1 : Int32))), (5, .int ((v3 * (4 : Int32)) + v4)), (0, .ref (ad 2)), (1, .int v1), (2, .int v2), (3, .int v3)]) hx hb dX7_limitsOf_87 hl (k := 5) rfl (zc1 (by decide)) (by decide) rfl (fun ls hl => ?_)
        refine lv_goto (tgt := 34) hx hb dX7_limitsOf_90 (by decide) ?_
        exact ih _ _ _ _ _ _ _ _ hf B (lv_sub hl [2, 3, 4, 5, 0] rfl)
  have L9 : ∀ (n : Nat) (σ : zs) (v1 : Int32) (v2 : Int32) (H : Heap) (locs : List Loc) (ls : Array Slot), zlp2 (f_X7_limitsOf_9) n σ v1 v2 = some (r, σ') → zB A s G (zS nb) ad σ H locs → lv_has ls 6 [(0, .ref (ad 2)), (1, .int v1), (2, .int v2)] → W p l e (headSpec wsX7_limitsOf rm_X7_limitsOf).room s m ([.ref (ad 2), .int a1] : List Value).toArray below meth c H locs 0 0 (MQ below (va_Qr (fun (_ : Unit) => True) (fun u a t => a = ad 13 ∧ zPost G (zS nb) ad σ' u t) A) ([.ref (ad 2), .int a1] : List Value).toArray s 0 0 A) (F0 m 9 ls []) := by
    intro n
    induction n with
    | zero =>
      intro σ v1 v2 H locs ls hf
      cases hf
    | succ n ih =>
      intro σ v1 v2 H locs ls hf B hl
      have hf : f_X7_limitsOf_9 (zlp2 (f_X7_limitsOf_9) n) σ v1 v2 = some (r, σ') := hf
      unfold f_X7_limitsOf_9 at hf
      refine lv_iload_n hx hb dX7_limitsOf_9 rfl (lv_at hl 2 rfl) ?_
      refine lv_aload_n hx hb dX7_limitsOf_10 rfl (lv_at hl 0 rfl) ?_
      refine z_getr hx hb hts hinRX7 hown B 2 2 4 rfl rfl rfl (by decide) (by decide +kernel) rfl dX7_limitsOf_11 ?_
      refine lv_iload_n hx hb dX7_limitsOf_14 rfl (lv_at hl 1 rfl) ?_
      obtain ⟨hg, hf⟩ := zg_some hf
      refine z_iald hx hb B 4 rfl (zin_ok hg) dX7_limitsOf_15 ?_
      refine lv_icmp_ge (tgt := 99) hx hb dX7_limitsOf_16 (by decide) (fun hc => ?_) (fun hc => ?_)
      · have hf := zif_t hc hf
        refine lv_aload_n hx hb dX7_limitsOf_99 rfl (lv_at hl 0 rfl) ?_
        refine z_getr hx hb hts hinRX7 hown B 2 11 13 rfl rfl rfl (by decide) (by decide +kernel) rfl dX7_limitsOf_100 ?_
        refine W.widen (k := 0) (n := 0) (Nat.le_of_ble_eq_true rfl) (Nat.le_of_ble_eq_true rfl) ?_
        exact z_aret hx hb hr (Or.inl ⟨_, rfl⟩) hlocks B hf dX7_limitsOf_103
      · have hf := zif_f hc hf
        refine lv_aload_n hx hb dX7_limitsOf_19 rfl (lv_at hl 0 rfl) ?_
        refine z_getr hx hb hts hinRX7 hown B 2 3 5 rfl rfl rfl (by decide) (by decide +kernel) rfl dX7_limitsOf_20 ?_
        refine lv_iload_n hx hb dX7_limitsOf_23 rfl (lv_at hl 1 rfl) ?_
        refine lv_bipush (v := (7 : Int32)) hx hb dX7_limitsOf_24 (by decide) ?_
        refine lv_imul hx hb dX7_limitsOf_26 ?_
        refine lv_iload_n hx hb dX7_limitsOf_27 rfl (lv_at hl 2 rfl) ?_
        refine lv_iadd hx hb dX7_limitsOf_28 ?_
        obtain ⟨hg, hf⟩ := zg_some hf
        refine z_iald hx hb B 5 rfl (zin_ok hg) dX7_limitsOf_29 ?_
        refine lv_istore_n (lv' := [(3, .int (σ 5 ((v1 * (7 : Int32)) + v2).toNatClampNeg)), (0, .ref (ad 2)), (1, .int v1), (2, .int v2)]) hx hb dX7_limitsOf_30 rfl hl (by decide) rfl (fun ls hl => ?_)
        refine lv_iconst (v := (0 : Int32)) hx hb dX7_limitsOf_31 (by decide) ?_
        refine lv_istore (lv' := [(4, .int (0 : Int32)), (3, .int (σ 5 ((v1 * (7 : Int32)) + v2).toNatClampNeg)), (0, .ref (ad 2)), (1, .int v1), (2, .int v2)]) hx hb dX7_limitsOf_32 hl (by decide) rfl (fun ls hl => ?_)
        exact L34 _ ih  _ _ _ _ _ _ _ _ _ hf B (lv_sub hl [2, 3, 4, 1, 0] rfl)
  unfold f_X7_limitsOf at hf
  refine lv_aload_n hx hb dX7_limitsOf_0 rfl (lv_at hl 0 rfl) ?_
  refine z_getr hx hb hts hinRX7 hown B 2 11 13 rfl rfl rfl (by decide) (by decide +kernel) rfl dX7_limitsOf_1 ?_
  obtain ⟨r2, σ3, hu1, hf⟩ := zb_some hf
  refine z_v B (va_runV (As := []) (rest := []) ⟨hx, hb, hml, hown, hts⟩ (c_X3_openAll l hu1 _) (cwV 0 hts gX7_limitsOf_X3_openAll rfl rfl rfl (by decide +kernel) ⟨Nat.le_of_ble_eq_true rfl, Nat.le_of_ble_eq_true rfl⟩) (z_preV B rfl rfl) rfl rfl hl.1 rfl (lv_room (Nat.le_of_ble_eq_true rfl)) dX7_limitsOf_4 ⟨Nat.le_of_ble_eq_true rfl, Nat.le_of_ble_eq_true rfl⟩) (fun H locs B => ?_)
  refine lv_iconst (v := (0 : Int32)) hx hb dX7_limitsOf_7 (by decide) ?_
  refine lv_istore_n (lv' := [(2, .int (0 : Int32)), (0, .ref (ad 2)), (1, .int a1)]) hx hb dX7_limitsOf_8 rfl hl (by decide) rfl (fun ls hl => ?_)
  exact L9  _ _ _ _ _ _ _ hf B (lv_sub hl [1, 2, 0] rfl)
