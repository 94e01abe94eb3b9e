theorem dX8_copyRow_0 : decode cX8_copyRow 0 = .ok (.aload_n 0, 1) := by decide +kernel
theorem dX8_copyRow_1 : decode cX8_copyRow 1 = .ok (.arraylength, 1) := by decide +kernel
theorem dX8_copyRow_2 : decode cX8_copyRow 2 = .ok (.aload_n 1, 1) := by decide +kernel
theorem dX8_copyRow_3 : decode cX8_copyRow 3 = .ok (.arraylength, 1) := by decide +kernel
theorem dX8_copyRow_4 : decode cX8_copyRow 4 = .ok (.if_icmp .ne 12, 3) := by decide +kernel
theorem dX8_copyRow_7 : decode cX8_copyRow 7 = .ok (.aload_n 0, 1) := by decide +kernel
theorem dX8_copyRow_8 : decode cX8_copyRow 8 = .ok (.iconst 0, 1) := by decide +kernel
theorem dX8_copyRow_9 : decode cX8_copyRow 9 = .ok (.aload_n 1, 1) := by decide +kernel
theorem dX8_copyRow_10 : decode cX8_copyRow 10 = .ok (.iconst 0, 1) := by decide +kernel
theorem dX8_copyRow_11 : decode cX8_copyRow 11 = .ok (.aload_n 0, 1) := by decide +kernel
theorem dX8_copyRow_12 : decode cX8_copyRow 12 = .ok (.arraylength, 1) := by decide +kernel
theorem dX8_copyRow_13 : decode cX8_copyRow 13 = .ok (.invokestatic 415, 3) := by decide +kernel
theorem dX8_copyRow_16 : decode cX8_copyRow 16 = .ok (.return_, 1) := by decide +kernel
def rm_X8_copyRow_7_31 : Room := { frames := 1, cells := 0, slots := 0, locals := 200 }
set_option maxHeartbeats 4000000 in
set_option maxRecDepth 100000 in
theorem c_X8_copyRow_7_31 (l : Launch) {nb : Nat} {G : zG} {ad : Nat → Nat} {σ σ' : zs} {r : Int32} (hf : f_X8_copyRow_7_31 σ  = some (r, σ')) : zMv l yX8_copyRow wsX8_copyRow rm_X8_copyRow_7_31 G (zS nb) ad σ [.ref (ad 7), .ref (ad 31)] σ' := by
  intro sz
  refine Met.ofW (cc := cX8_copyRow) (maxL := 2) (ret := none) (by decide) rfl ?_
  intro p e s m args below meth c s₁ B hml hv
  obtain ⟨rfl, hsz, hv⟩ := hv
  have hx := B.exec
  have hb := B.bytes
  have hr := B.returns
  have hts := atoms_spec (ws := wsX8_copyRow) B.pre
  have hown : s.vm.findClass RX8 = some m.cls := findClass_of_methodNamed B.named
  have hlocks := B.notSynchronized
  subst hsz
  have B := zB_start hv
  have hl := lv_entry ([.ref (ad 7), .ref (ad 31)]) (n := 2) (Nat.le_of_ble_eq_true rfl)
  rw [lg_entry_eq]
  generalize (lg_sl ([.ref (ad 7), .ref (ad 31)]) ++ List.replicate (2 - (lg_sl ([.ref (ad 7), .ref (ad 31)])).length) Slot.unset).toArray = ls at hl ⊢
  have hl : lv_has ls 2 [(0, .ref (ad 7)), (1, .ref (ad 31))] := hl
  generalize hAe : zA ad (zS nb).length s.heap.size = A at B ⊢
  unfold f_X8_copyRow_7_31 at hf
  refine lv_aload_n hx hb dX8_copyRow_0 rfl (lv_at hl 0 rfl) ?_
  refine z_alen hx hb B 7 (v := (28 : Int32)) rfl rfl (by decide) dX8_copyRow_1 ?_
  refine lv_aload_n hx hb dX8_copyRow_2 rfl (lv_at hl 1 rfl) ?_
  refine z_alen hx hb B 31 (v := (28 : Int32)) rfl rfl (by decide) dX8_copyRow_3 ?_
  refine lv_icmp_ne (tgt := 16) hx hb dX8_copyRow_4 (by decide) (fun hc => ?_) (fun hc => ?_)
  · have hf := zif_f hc hf
    refine W.widen (k := 0) (n := 0) (Nat.le_of_ble_eq_true rfl) (Nat.le_of_ble_eq_true rfl) ?_
    exact z_vret hx hb hr hlocks B hf dX8_copyRow_16
  · have hf := zif_t hc hf
    refine lv_aload_n hx hb dX8_copyRow_7 rfl (lv_at hl 0 rfl) ?_
    refine lv_iconst (v := (0 : Int32)) hx hb dX8_copyRow_8 (by decide) ?_
    refine lv_aload_n hx hb dX8_copyRow_9 rfl (lv_at hl 1 rfl) ?_
    refine lv_iconst (v := (0 : Int32)) hx hb dX8_copyRow_10 (by decide) ?_
    refine lv_aload_n hx hb dX8_copyRow_11 rfl (lv_at hl 0 rfl) ?_
    refine z_alen hx hb B 7 (v := (28 : Int32)) rfl rfl (by decide) dX8_copyRow_12 ?_
    obtain ⟨hg, hf⟩ := zg_some hf
    obtain ⟨g1, g2, g3, g4, g5⟩ := zcp_ok hg
    refine z_copyi hx hb (hml.trans hl.1.symm) hts hown (index := 415) (by decide +kernel) (by decide +kernel) (by decide +kernel) (by decide +kernel) B 7 31 rfl rfl g1 g2 g3 g4 g5 (Nat.le_of_ble_eq_true rfl) (Nat.le_of_ble_eq_true rfl) dX8_copyRow_13 (fun H locs B => ?_)
    refine W.widen (k := 0) (n := 0) (Nat.le_of_ble_eq_true rfl) (Nat.le_of_ble_eq_true rfl) ?_
    exact z_vret hx hb hr hlocks B hf dX8_copyRow_16
theorem dX8_copyRow_0 : decode cX8_copyRow 0 = .ok (.aload_n 0, 1) := by decide +kernel
theorem dX8_copyRow_1 : decode cX8_copyRow 1 = .ok (.arraylength, 1) := by decide +kernel
theorem dX8_copyRow_2 : decode cX8_copyRow 2 = .ok (.aload_n 1, 1) := by decide +kernel
theorem dX8_copyRow_3 : decode cX8_copyRow 3 = .ok (.arraylength, 1) := by decide +kernel
theorem dX8_copyRow_4 : decode cX8_copyRow 4 = .ok (.if_icmp .ne 12, 3) := by decide +kernel
theorem dX8_copyRow_7 : decode cX8_copyRow 7 = .ok (.aload_n 0, 1) := by decide +kernel
theorem dX8_copyRow_8 : decode cX8_copyRow 8 = .ok (.iconst 0, 1) := by decide +kernel
theorem dX8_copyRow_9 : decode cX8_copyRow 9 = .ok (.aload_n 1, 1) := by decide +kernel
theorem dX8_copyRow_10 : decode cX8_copyRow 10 = .ok (.iconst 0, 1) := by decide +kernel
theorem dX8_copyRow_11 : decode cX8_copyRow 11 = .ok (.aload_n 0, 1) := by decide +kernel
theorem dX8_copyRow_12 : decode cX8_copyRow 12 = .ok (.arraylength, 1) := by decide +kernel
theorem dX8_copyRow_13 : decode cX8_copyRow 13 = .ok (.invokestatic 415, 3) := by decide +kernel
theorem dX8_copyRow_16 : decode cX8_copyRow 16 = .ok (.return_, 1) := by decide +kernel
def rm_X8_copyRow_8_32 : Room := { frames := 1, cells := 0, slots := 0, locals := 200 }
set_option maxHeartbeats 4000000 in
set_option maxRecDepth 100000 in
theorem c_X8_copyRow_8_32 (l : Launch) {nb : Nat} {G : zG} {ad : Nat → Nat} {σ σ' : zs} {r : Int32} (hf : f_X8_copyRow_8_32 σ  = some (r, σ')) : zMv l yX8_copyRow wsX8_copyRow rm_X8_copyRow_8_32 G (zS nb) ad σ [.ref (ad 8), .ref (ad 32)] σ' := by
  intro sz
  refine Met.ofW (cc := cX8_copyRow) (maxL := 2) (ret := none) (by decide) rfl ?_
  intro p e s m args below meth c s₁ B hml hv
  obtain ⟨rfl, hsz, hv⟩ := hv
  have hx := B.exec
  have hb := B.bytes
  have hr := B.returns
  have hts := atoms_spec (ws := wsX8_copyRow) B.pre
  have hown : s.vm.findClass RX8 = some m.cls := findClass_of_methodNamed B.named
  have hlocks := B.notSynchronized
  subst hsz
  have B := zB_start hv
  have hl := lv_entry ([.ref (ad 8), .ref (ad 32)]) (n := 2) (Nat.le_of_ble_eq_true rfl)
  rw [lg_entry_eq]
  generalize (lg_sl ([.ref (ad 8), .ref (ad 32)]) ++ List.replicate (2 - (lg_sl ([.ref (ad 8), .ref (ad 32)])).length) Slot.unset).toArray = ls at hl ⊢
  have hl : lv_has ls 2 [(0, .ref (ad 8)), (1, .ref (ad 32))] := hl
  generalize hAe : zA ad (zS nb).length s.heap.size = A at B ⊢
  unfold f_X8_copyRow_8_32 at hf
  refine lv_aload_n hx hb dX8_copyRow_0 rfl (lv_at hl 0 rfl) ?_
  refine z_alen hx hb B 8 (v := (28 : Int32)) rfl rfl (by decide) dX8_copyRow_1 ?_
  refine lv_aload_n hx hb dX8_copyRow_2 rfl (lv_at hl 1 rfl) ?_
  refine z_alen hx hb B 32 (v := (28 : Int32)) rfl rfl (by decide) dX8_copyRow_3 ?_
  refine lv_icmp_ne (tgt := 16) hx hb dX8_copyRow_4 (by decide) (fun hc => ?_) (fun hc => ?_)
  · have hf := zif_f hc hf
    refine W.widen (k := 0) (n := 0) (Nat.le_of_ble_eq_true rfl) (Nat.le_of_ble_eq_true rfl) ?_
    exact z_vret hx hb hr hlocks B hf dX8_copyRow_16
  · have hf := zif_t hc hf
    refine lv_aload_n hx hb dX8_copyRow_7 rfl (lv_at hl 0 rfl) ?_
    refine lv_iconst (v := (0 : Int32)) hx hb dX8_copyRow_8 (by decide) ?_
    refine lv_aload_n hx hb dX8_copyRow_9 rfl (lv_at hl 1 rfl) ?_
    refine lv_iconst (v := (0 : Int32)) hx hb dX8_copyRow_10 (by decide) ?_
    refine lv_aload_n hx hb dX8_copyRow_11 rfl (lv_at hl 0 rfl) ?_
    refine z_alen hx hb B 8 (v := (28 : Int32)) rfl rfl (by decide) dX8_copyRow_12 ?_
    obtain ⟨hg, hf⟩ := zg_some hf
    obtain ⟨g1, g2, g3, g4, g5⟩ := zcp_ok hg
    refine z_copyi hx hb (hml.trans hl.1.symm) hts hown (index := 415) (by decide +kernel) (by decide +kernel) (by decide +kernel) (by decide +kernel) B 8 32 rfl rfl g1 g2 g3 g4 g5 (Nat.le_of_ble_eq_true rfl) (Nat.le_of_ble_eq_true rfl) dX8_copyRow_13 (fun H locs B => ?_)
    refine W.widen (k := 0) (n := 0) (Nat.le_of_ble_eq_true rfl) (Nat.le_of_ble_eq_true rfl) ?_
    exact z_vret hx hb hr hlocks B hf dX8_copyRow_16
theorem dX8_copyRow_0 : decode cX8_copyRow 0 = .ok (.aload_n 0, 1) := by decide +kernel
theorem dX8_copyRow_1 : decode cX8_copyRow 1 = .ok (.arraylength, 1) := by decide +kernel
theorem dX8_copyRow_2 : decode cX8_copyRow 2 = .ok (.aload_n 1, 1) := by decide +kernel
theorem dX8_copyRow_3 : decode cX8_copyRow 3 = .ok (.arraylength, 1) := by decide +kernel
theorem dX8_copyRow_4 : decode cX8_copyRow 4 = .ok (.if_icmp .ne 12, 3) := by decide +kernel
theorem dX8_copyRow_7 : decode cX8_copyRow 7 = .ok (.aload_n 0, 1) := by decide +kernel
theorem dX8_copyRow_8 : decode cX8_copyRow 8 = .ok (.iconst 0, 1) := by decide +kernel
theorem dX8_copyRow_9 : decode cX8_copyRow 9 = .ok (.aload_n 1, 1) := by decide +kernel
theorem dX8_copyRow_10 : decode cX8_copyRow 10 = .ok (.iconst 0, 1) := by decide +kernel
theorem dX8_copyRow_11 : decode cX8_copyRow 11 = .ok (.aload_n 0, 1) := by decide +kernel
theorem dX8_copyRow_12 : decode cX8_copyRow 12 = .ok (.arraylength, 1) := by decide +kernel
theorem dX8_copyRow_13 : decode cX8_copyRow 13 = .ok (.invokestatic 415, 3) := by decide +kernel
theorem dX8_copyRow_16 : decode cX8_copyRow 16 = .ok (.return_, 1) := by decide +kernel
def rm_X8_copyRow_9_33 : Room := { frames := 1, cells := 0, slots := 0, locals := 200 }
set_option maxHeartbeats 4000000 in
set_option maxRecDepth 100000 in
theorem c_X8_copyRow_9_33 (l : Launch) {nb : Nat} {G : zG} {ad : Nat → Nat} {σ σ' : zs} {r : Int32} (hf : f_X8_copyRow_9_33 σ  = some (r, σ')) : zMv l yX8_copyRow wsX8_copyRow rm_X8_copyRow_9_33 G (zS nb) ad σ [.ref (ad 9), .ref (ad 33)] σ' := by
  intro sz
  refine Met.ofW (cc := cX8_copyRow) (maxL := 2) (ret := none) (by decide) rfl ?_
  intro p e s m args below meth c s₁ B hml hv
  obtain ⟨rfl, hsz, hv⟩ := hv
  have hx := B.exec
  have hb := B.bytes
  have hr := B.returns
  have hts := atoms_spec (ws := wsX8_copyRow) B.pre
  have hown : s.vm.findClass RX8 = some m.cls := findClass_of_methodNamed B.named
  have hlocks := B.notSynchronized
  subst hsz
  have B := zB_start hv
  have hl := lv_entry ([.ref (ad 9), .ref (ad 33)]) (n := 2) (Nat.le_of_ble_eq_true rfl)
  rw [lg_entry_eq]
  generalize (lg_sl ([.ref (ad 9), .ref (ad 33)]) ++ List.replicate (2 - (lg_sl ([.ref (ad 9), .ref (ad 33)])).length) Slot.unset).toArray = ls at hl ⊢
  have hl : lv_has ls 2 [(0, .ref (ad 9)), (1, .ref (ad 33))] := hl
  generalize hAe : zA ad (zS nb).length s.heap.size = A at B ⊢
  unfold f_X8_copyRow_9_33 at hf
  refine lv_aload_n hx hb dX8_copyRow_0 rfl (lv_at hl 0 rfl) ?_
  refine z_alen hx hb B 9 (v := (28 : Int32)) rfl rfl (by decide) dX8_copyRow_1 ?_
  refine lv_aload_n hx hb dX8_copyRow_2 rfl (lv_at hl 1 rfl) ?_
  refine z_alen hx hb B 33 (v := (28 : Int32)) rfl rfl (by decide) dX8_copyRow_3 ?_
  refine lv_icmp_ne (tgt := 16) hx hb dX8_copyRow_4 (by decide) (fun hc => ?_) (fun hc => ?_)
  · have hf := zif_f hc hf
    refine W.widen (k := 0) (n := 0) (Nat.le_of_ble_eq_true rfl) (Nat.le_of_ble_eq_true rfl) ?_
    exact z_vret hx hb hr hlocks B hf dX8_copyRow_16
  · have hf := zif_t hc hf
    refine lv_aload_n hx hb dX8_copyRow_7 rfl (lv_at hl 0 rfl) ?_
    refine lv_iconst (v := (0 : Int32)) hx hb dX8_copyRow_8 (by decide) ?_
    refine lv_aload_n hx hb dX8_copyRow_9 rfl (lv_at hl 1 rfl) ?_
    refine lv_iconst (v := (0 : Int32)) hx hb dX8_copyRow_10 (by decide) ?_
    refine lv_aload_n hx hb dX8_copyRow_11 rfl (lv_at hl 0 rfl) ?_
    refine z_alen hx hb B 9 (v := (28 : Int32)) rfl rfl (by decide) dX8_copyRow_12 ?_
    obtain ⟨hg, hf⟩ := zg_some hf
    obtain ⟨g1, g2, g3, g4, g5⟩ := zcp_ok hg
    refine z_copyi hx hb (hml.trans hl.1.symm) hts hown (index := 415) (by decide +kernel) (by decide +kernel) (by decide +kernel) (by decide +kernel) B 9 33 rfl rfl g1 g2 g3 g4 g5 (Nat.le_of_ble_eq_true rfl) (Nat.le_of_ble_eq_true rfl) dX8_copyRow_13 (fun H locs B => ?_)
    refine W.widen (k := 0) (n := 0) (Nat.le_of_ble_eq_true rfl) (Nat.le_of_ble_eq_true rfl) ?_
    exact z_vret hx hb hr hlocks B hf dX8_copyRow_16
theorem dX8_copyRow_0 : decode cX8_copyRow 0 = .ok (.aload_n 0, 1) := by decide +kernel
theorem dX8_copyRow_1 : decode cX8_copyRow 1 = .ok (.arraylength, 1) := by decide +kernel
theorem dX8_copyRow_2 : decode cX8_copyRow 2 = .ok (.aload_n 1, 1) := by decide +kernel
theorem dX8_copyRow_3 : decode cX8_copyRow 3 = .ok (.arraylength, 1) := by decide +kernel
theorem dX8_copyRow_4 : decode cX8_copyRow 4 = .ok (.if_icmp .ne 12, 3) := by decide +kernel
theorem dX8_copyRow_7 : decode cX8_copyRow 7 = .ok (.aload_n 0, 1) := by decide +kernel
theorem dX8_copyRow_8 : decode cX8_copyRow 8 = .ok (.iconst 0, 1) := by decide +kernel
theorem dX8_copyRow_9 : decode cX8_copyRow 9 = .ok (.aload_n 1, 1) := by decide +kernel
theorem dX8_copyRow_10 : decode cX8_copyRow 10 = .ok (.iconst 0, 1) := by decide +kernel
theorem dX8_copyRow_11 : decode cX8_copyRow 11 = .ok (.aload_n 0, 1) := by decide +kernel
theorem dX8_copyRow_12 : decode cX8_copyRow 12 = .ok (.arraylength, 1) := by decide +kernel
theorem dX8_copyRow_13 : decode cX8_copyRow 13 = .ok (.invokestatic 415, 3) := by decide +kernel
theorem dX8_copyRow_16 : decode cX8_copyRow 16 = .ok (.return_, 1) := by decide +kernel
def rm_X8_copyRow_10_34 : Room := { frames := 1, cells := 0, slots := 0, locals := 200 }
set_option maxHeartbeats 4000000 in
set_option maxRecDepth 100000 in
theorem c_X8_copyRow_10_34 (l : Launch) {nb : Nat} {G : zG} {ad : Nat → Nat} {σ σ' : zs} {r : Int32} (hf : f_X8_copyRow_10_34 σ  = some (r, σ')) : zMv l yX8_copyRow wsX8_copyRow rm_X8_copyRow_10_34 G (zS nb) ad σ [.ref (ad 10), .ref (ad 34)] σ' := by
  intro sz
  refine Met.ofW (cc := cX8_copyRow) (maxL := 2) (ret := none) (by decide) rfl ?_
  intro p e s m args below meth c s₁ B hml hv
  obtain ⟨rfl, hsz, hv⟩ := hv
  have hx := B.exec
  have hb := B.bytes
  have hr := B.returns
  have hts := atoms_spec (ws := wsX8_copyRow) B.pre
  have hown : s.vm.findClass RX8 = some m.cls := findClass_of_methodNamed B.named
  have hlocks := B.notSynchronized
  subst hsz
  have B := zB_start hv
  have hl := lv_entry ([.ref (ad 10), .ref (ad 34)]) (n := 2) (Nat.le_of_ble_eq_true rfl)
  rw [lg_entry_eq]
  generalize (lg_sl ([.ref (ad 10), .ref (ad 34)]) ++ List.replicate (2 - (lg_sl ([.ref (ad 10), .ref (ad 34)])).length) Slot.unset).toArray = ls at hl ⊢
  have hl : lv_has ls 2 [(0, .ref (ad 10)), (1, .ref (ad 34))] := hl
  generalize hAe : zA ad (zS nb).length s.heap.size = A at B ⊢
  unfold f_X8_copyRow_10_34 at hf
  refine lv_aload_n hx hb dX8_copyRow_0 rfl (lv_at hl 0 rfl) ?_
  refine z_alen hx hb B 10 (v := (112 : Int32)) rfl rfl (by decide) dX8_copyRow_1 ?_
  refine lv_aload_n hx hb dX8_copyRow_2 rfl (lv_at hl 1 rfl) ?_
  refine z_alen hx hb B 34 (v := (112 : Int32)) rfl rfl (by decide) dX8_copyRow_3 ?_
  refine lv_icmp_ne (tgt := 16) hx hb dX8_copyRow_4 (by decide) (fun hc => ?_) (fun hc => ?_)
  · have hf := zif_f hc hf
    refine W.widen (k := 0) (n := 0) (Nat.le_of_ble_eq_true rfl) (Nat.le_of_ble_eq_true rfl) ?_
    exact z_vret hx hb hr hlocks B hf dX8_copyRow_16
  · have hf := zif_t hc hf
    refine lv_aload_n hx hb dX8_copyRow_7 rfl (lv_at hl 0 rfl) ?_
    refine lv_iconst (v := (0 : Int32)) hx hb dX8_copyRow_8 (by decide) ?_
    refine lv_aload_n hx hb dX8_copyRow_9 rfl (lv_at hl 1 rfl) ?_
    refine lv_iconst (v := (0 : Int32)) hx hb dX8_copyRow_10 (by decide) ?_
    refine lv_aload_n hx hb dX8_copyRow_11 rfl (lv_at hl 0 rfl) ?_
    refine z_alen hx hb B 10 (v := (112 : Int32)) rfl rfl (by decide) dX8_copyRow_12 ?_
    obtain ⟨hg, hf⟩ := zg_some hf
    obtain ⟨g1, g2, g3, g4, g5⟩ := zcp_ok hg
    refine z_copyi hx hb (hml.trans hl.1.symm) hts hown (index := 415) (by decide +kernel) (by decide +kernel) (by decide +kernel) (by decide +kernel) B 10 34 rfl rfl g1 g2 g3 g4 g5 (Nat.le_of_ble_eq_true rfl) (Nat.le_of_ble_eq_true rfl) dX8_copyRow_13 (fun H locs B => ?_)
    refine W.widen (k := 0) (n := 0) (Nat.le_of_ble_eq_true rfl) (Nat.le_of_ble_eq_true rfl) ?_
    exact z_vret hx hb hr hlocks B hf dX8_copyRow_16
theorem dX8_copyRow_0 : decode cX8_copyRow 0 = .ok (.aload_n 0, 1) := by decide +kernel
theorem dX8_copyRow_1 : decode cX8_copyRow 1 = .ok (.arraylength, 1) := by decide +kernel
theorem dX8_copyRow_2 : decode cX8_copyRow 2 = .ok (.aload_n 1, 1) := by decide +kernel
theorem dX8_copyRow_3 : decode cX8_copyRow 3 = .ok (.arraylength, 1) := by decide +kernel
theorem dX8_copyRow_4 : decode cX8_copyRow 4 = .ok (.if_icmp .ne 12, 3) := by decide +kernel
theorem dX8_copyRow_7 : decode cX8_copyRow 7 = .ok (.aload_n 0, 1) := by decide +kernel
theorem dX8_copyRow_8 : decode cX8_copyRow 8 = .ok (.iconst 0, 1) := by decide +kernel
theorem dX8_copyRow_9 : decode cX8_copyRow 9 = .ok (.aload_n 1, 1) := by decide +kernel
theorem dX8_copyRow_10 : decode cX8_copyRow 10 = .ok (.iconst 0, 1) := by decide +kernel
theorem dX8_copyRow_11 : decode cX8_copyRow 11 = .ok (.aload_n 0, 1) := by decide +kernel
theorem dX8_copyRow_12 : decode cX8_copyRow 12 = .ok (.arraylength, 1) := by decide +kernel
theorem dX8_copyRow_13 : decode cX8_copyRow 13 = .ok (.invokestatic 415, 3) := by decide +kernel
theorem dX8_copyRow_16 : decode cX8_copyRow 16 = .ok (.return_, 1) := by decide +kernel
def rm_X8_copyRow_11_35 : Room := { frames := 1, cells := 0, slots := 0, locals := 200 }
set_option maxHeartbeats 4000000 in
set_option maxRecDepth 100000 in
theorem c_X8_copyRow_11_35 (l : Launch) {nb : Nat} {G : zG} {ad : Nat → Nat} {σ σ' : zs} {r : Int32} (hf : f_X8_copyRow_11_35 σ  = some (r, σ')) : zMv l yX8_copyRow wsX8_copyRow rm_X8_copyRow_11_35 G (zS nb) ad σ [.ref (ad 11), .ref (ad 35)] σ' := by
  intro sz
  refine Met.ofW (cc := cX8_copyRow) (maxL := 2) (ret := none) (by decide) rfl ?_
  intro p e s m args below meth c s₁ B hml hv
  obtain ⟨rfl, hsz, hv⟩ := hv
  have hx := B.exec
  have hb := B.bytes
  have hr := B.returns
  have hts := atoms_spec (ws := wsX8_copyRow) B.pre
  have hown : s.vm.findClass RX8 = some m.cls := findClass_of_methodNamed B.named
  have hlocks := B.notSynchronized
  subst hsz
  have B := zB_start hv
  have hl := lv_entry ([.ref (ad 11), .ref (ad 35)]) (n := 2) (Nat.le_of_ble_eq_true rfl)
  rw [lg_entry_eq]
  generalize (lg_sl ([.ref (ad 11), .ref (ad 35)]) ++ List.replicate (2 - (lg_sl ([.ref (ad 11), .ref (ad 35)])).length) Slot.unset).toArray = ls at hl ⊢
  have hl : lv_has ls 2 [(0, .ref (ad 11)), (1, .ref (ad 35))] := hl
  generalize hAe : zA ad (zS nb).length s.heap.size = A at B ⊢
  unfold f_X8_copyRow_11_35 at hf
  refine lv_aload_n hx hb dX8_copyRow_0 rfl (lv_at hl 0 rfl) ?_
  refine z_alen hx hb B 11 (v := (112 : Int32)) rfl rfl (by decide) dX8_copyRow_1 ?_
  refine lv_aload_n hx hb dX8_copyRow_2 rfl (lv_at hl 1 rfl) ?_
  refine z_alen hx hb B 35 (v := (112 : Int32)) rfl rfl (by decide) dX8_copyRow_3 ?_
  refine lv_icmp_ne (tgt := 16) hx hb dX8_copyRow_4 (by decide) (fun hc => ?_) (fun hc => ?_)
  · have hf := zif_f hc hf
    refine W.widen (k := 0) (n := 0) (Nat.le_of_ble_eq_true rfl) (Nat.le_of_ble_eq_true rfl) ?_
    exact z_vret hx hb hr hlocks B hf dX8_copyRow_16
  · have hf := zif_t hc hf
    refine lv_aload_n hx hb dX8_copyRow_7 rfl (lv_at hl 0 rfl) ?_
    refine lv_iconst (v := (0 : Int32)) hx hb dX8_copyRow_8 (by decide) ?_
    refine lv_aload_n hx hb dX8_copyRow_9 rfl (lv_at hl 1 rfl) ?_
    refine lv_iconst (v := (0 : Int32)) hx hb dX8_copyRow_10 (by decide) ?_
    refine lv_aload_n hx hb dX8_copyRow_11 rfl (lv_at hl 0 rfl) ?_
    refine z_alen hx hb B 11 (v := (112 : Int32)) rfl rfl (by decide) dX8_copyRow_12 ?_
    obtain ⟨hg, hf⟩ := zg_some hf
    obtain ⟨g1, g2, g3, g4, g5⟩ := zcp_ok hg
    refine z_copyi hx hb (hml.trans hl.1.symm) hts hown (index := 415) (by decide +kernel) (by decide +kernel) (by decide +kernel) (by decide +kernel) B 11 35 rfl rfl g1 g2 g3 g4 g5 (Nat.le_of_ble_eq_true rfl) (Nat.le_of_ble_eq_true rfl) dX8_copyRow_13 (fun H locs B => ?_)
    refine W.widen (k := 0) (n := 0) (Nat.le_of_ble_eq_true rfl) (Nat.le_of_ble_eq_true rfl) ?_
    exact z_vret hx hb hr hlocks B hf dX8_copyRow_16
theorem dX8_copyRow_0 : decode cX8_copyRow 0 = .ok (.aload_n 0, 1) := by decide +kernel
theorem dX8_copyRow_1 : decode cX8_copyRow 1 = .ok (.arraylength, 1) := by decide +kernel
theorem dX8_copyRow_2 : decode cX8_copyRow 2 = .ok (.aload_n 1, 1) := by decide +kernel
theorem dX8_copyRow_3 : decode cX8_copyRow 3 = .ok (.arraylength, 1) := by decide +kernel
theorem dX8_copyRow_4 : decode cX8_copyRow 4 = .ok (.if_icmp .ne 12, 3) := by decide +kernel
theorem dX8_copyRow_7 : decode cX8_copyRow 7 = .ok (.aload_n 0, 1) := by decide +kernel
theorem dX8_copyRow_8 : decode cX8_copyRow 8 = .ok (.iconst 0, 1) := by decide +kernel
theorem dX8_copyRow_9 : decode cX8_copyRow 9 = .ok (.aload_n 1, 1) := by decide +kernel
theorem dX8_copyRow_10 : decode cX8_copyRow 10 = .ok (.iconst 0, 1) := by decide +kernel
theorem dX8_copyRow_11 : decode cX8_copyRow 11 = .ok (.aload_n 0, 1) := by decide +kernel
theorem dX8_copyRow_12 : decode cX8_copyRow 12 = .ok (.arraylength, 1) := by decide +kernel
theorem dX8_copyRow_13 : decode cX8_copyRow 13 = .ok (.invokestatic 415, 3) := by decide +kernel
theorem dX8_copyRow_16 : decode cX8_copyRow 16 = .ok (.return_, 1) := by decide +kernel
def rm_X8_copyRow_12_36 : Room := { frames := 1, cells := 0, slots := 0, locals := 200 }
set_option maxHeartbeats 4000000 in
set_option maxRecDepth 100000 in
theorem c_X8_copyRow_12_36 (l : Launch) {nb : Nat} {G : zG} {ad : Nat → Nat} {σ σ' : zs} {r : Int32} (hf : f_X8_copyRow_12_36 σ  = some (r, σ')) : zMv l yX8_copyRow wsX8_copyRow rm_X8_copyRow_12_36 G (zS nb) ad σ [.ref (ad 12), .ref (ad 36)] σ' := by
  intro sz
  refine Met.ofW (cc := cX8_copyRow) (maxL := 2) (ret := none) (by decide) rfl ?_
  intro p e s m args below meth c s₁ B hml hv
  obtain ⟨rfl, hsz, hv⟩ := hv
  have hx := B.exec
  have hb := B.bytes
  have hr := B.returns
  have hts := atoms_spec (ws := wsX8_copyRow) B.pre
  have hown : s.vm.findClass RX8 = some m.cls := findClass_of_methodNamed B.named
  have hlocks := B.notSynchronized
  subst hsz
  have B := zB_start hv
  have hl := lv_entry ([.ref (ad 12), .ref (ad 36)]) (n := 2) (Nat.le_of_ble_eq_true rfl)
  rw [lg_entry_eq]
  generalize (lg_sl ([.ref (ad 12), .ref (ad 36)]) ++ List.replicate (2 - (lg_sl ([.ref (ad 12), .ref (ad 36)])).length) Slot.unset).toArray = ls at hl ⊢
  have hl : lv_has ls 2 [(0, .ref (ad 12)), (1, .ref (ad 36))] := hl
  generalize hAe : zA ad (zS nb).length s.heap.size = A at B ⊢
  unfold f_X8_copyRow_12_36 at hf
  refine lv_aload_n hx hb dX8_copyRow_0 rfl (lv_at hl 0 rfl) ?_
  refine z_alen hx hb B 12 (v := (112 : Int32)) rfl rfl (by decide) dX8_copyRow_1 ?_
  refine lv_aload_n hx hb dX8_copyRow_2 rfl (lv_at hl 1 rfl) ?_
  refine z_alen hx hb B 36 (v := (112 : Int32)) rfl rfl (by decide) dX8_copyRow_3 ?_
  refine lv_icmp_ne (tgt := 16) hx hb dX8_copyRow_4 (by decide) (fun hc => ?_) (fun hc => ?_)
  · have hf := zif_f hc hf
    refine W.widen (k := 0) (n := 0) (Nat.le_of_ble_eq_true rfl) (Nat.le_of_ble_eq_true rfl) ?_
    exact z_vret hx hb hr hlocks B hf dX8_copyRow_16
  · have hf := zif_t hc hf
    refine lv_aload_n hx hb dX8_copyRow_7 rfl (lv_at hl 0 rfl) ?_
    refine lv_iconst (v := (0 : Int32)) hx hb dX8_copyRow_8 (by decide) ?_
    refine lv_aload_n hx hb dX8_copyRow_9 rfl (lv_at hl 1 rfl) ?_
    refine lv_iconst (v := (0 : Int32)) hx hb dX8_copyRow_10 (by decide) ?_
    refine lv_aload_n hx hb dX8_copyRow_11 rfl (lv_at hl 0 rfl) ?_
    refine z_alen hx hb B 12 (v := (112 : Int32)) rfl rfl (by decide) dX8_copyRow_12 ?_
    obtain ⟨hg, hf⟩ := zg_some hf
    obtain ⟨g1, g2, g3, g4, g5⟩ := zcp_ok hg
    refine z_copyi hx hb (hml.trans hl.1.symm) hts hown (index := 415) (by decide +kernel) (by decide +kernel) (by decide +kernel) (by decide +kernel) B 12 36 rfl rfl g1 g2 g3 g4 g5 (Nat.le_of_ble_eq_true rfl) (Nat.le_of_ble_eq_true rfl) dX8_copyRow_13 (fun H locs B => ?_)
    refine W.widen (k := 0) (n := 0) (Nat.le_of_ble_eq_true rfl) (Nat.le_of_ble_eq_true rfl) ?_
    exact z_vret hx hb hr hlocks B hf dX8_copyRow_16
theorem dX7_copyFrom_0 : decode cX7_copyFrom 0 = .ok (.aload_n 0, 1) := by decide +kernel
theorem dX7_copyFrom_1 : decode cX7_copyFrom 1 = .ok (.aload_n 1, 1) := by decide +kernel
theorem dX7_copyFrom_2 : decode cX7_copyFrom 2 = .ok (.getfield 49, 3) := by decide +kernel
theorem dX7_copyFrom_5 : decode cX7_copyFrom 5 = .ok (.putfield 49, 3) := by decide +kernel
theorem dX7_copyFrom_8 : decode cX7_copyFrom 8 = .ok (.aload_n 1, 1) := by decide +kernel
theorem dX7_copyFrom_9 : decode cX7_copyFrom 9 = .ok (.getfield 9, 3) := by decide +kernel
theorem dX7_copyFrom_12 : decode cX7_copyFrom 12 = .ok (.aload_n 0, 1) := by decide +kernel
theorem dX7_copyFrom_13 : decode cX7_copyFrom 13 = .ok (.getfield 9, 3) := by decide +kernel
theorem dX7_copyFrom_16 : decode cX7_copyFrom 16 = .ok (.invokestatic 53, 3) := by decide +kernel
theorem dX7_copyFrom_19 : decode cX7_copyFrom 19 = .ok (.aload_n 1, 1) := by decide +kernel
theorem dX7_copyFrom_20 : decode cX7_copyFrom 20 = .ok (.getfield 15, 3) := by decide +kernel
theorem dX7_copyFrom_23 : decode cX7_copyFrom 23 = .ok (.aload_n 0, 1) := by decide +kernel
theorem dX7_copyFrom_24 : decode cX7_copyFrom 24 = .ok (.getfield 15, 3) := by decide +kernel
theorem dX7_copyFrom_27 : decode cX7_copyFrom 27 = .ok (.invokestatic 53, 3) := by decide +kernel
theorem dX7_copyFrom_30 : decode cX7_copyFrom 30 = .ok (.aload_n 1, 1) := by decide +kernel
theorem dX7_copyFrom_31 : decode cX7_copyFrom 31 = .ok (.getfield 18, 3) := by decide +kernel
theorem dX7_copyFrom_34 : decode cX7_copyFrom 34 = .ok (.aload_n 0, 1) := by decide +kernel
theorem dX7_copyFrom_35 : decode cX7_copyFrom 35 = .ok (.getfield 18, 3) := by decide +kernel
theorem dX7_copyFrom_38 : decode cX7_copyFrom 38 = .ok (.invokestatic 53, 3) := by decide +kernel
theorem dX7_copyFrom_41 : decode cX7_copyFrom 41 = .ok (.aload_n 1, 1) := by decide +kernel
theorem dX7_copyFrom_42 : decode cX7_copyFrom 42 = .ok (.getfield 21, 3) := by decide +kernel
theorem dX7_copyFrom_45 : decode cX7_copyFrom 45 = .ok (.aload_n 0, 1) := by decide +kernel
theorem dX7_copyFrom_46 : decode cX7_copyFrom 46 = .ok (.getfield 21, 3) := by decide +kernel
theorem dX7_copyFrom_49 : decode cX7_copyFrom 49 = .ok (.invokestatic 53, 3) := by decide +kernel
theorem dX7_copyFrom_52 : decode cX7_copyFrom 52 = .ok (.aload_n 1, 1) := by decide +kernel
theorem dX7_copyFrom_53 : decode cX7_copyFrom 53 = .ok (.getfield 24, 3) := by decide +kernel
theorem dX7_copyFrom_56 : decode cX7_copyFrom 56 = .ok (.aload_n 0, 1) := by decide +kernel
theorem dX7_copyFrom_57 : decode cX7_copyFrom 57 = .ok (.getfield 24, 3) := by decide +kernel
theorem dX7_copyFrom_60 : decode cX7_copyFrom 60 = .ok (.invokestatic 53, 3) := by decide +kernel
theorem dX7_copyFrom_63 : decode cX7_copyFrom 63 = .ok (.aload_n 1, 1) := by decide +kernel
theorem dX7_copyFrom_64 : decode cX7_copyFrom 64 = .ok (.getfield 27, 3) := by decide +kernel
theorem dX7_copyFrom_67 : decode cX7_copyFrom 67 = .ok (.aload_n 0, 1) := by decide +kernel
theorem dX7_copyFrom_68 : decode cX7_copyFrom 68 = .ok (.getfield 27, 3) := by decide +kernel
theorem dX7_copyFrom_71 : decode cX7_copyFrom 71 = .ok (.invokestatic 53, 3) := by decide +kernel
theorem dX7_copyFrom_74 : decode cX7_copyFrom 74 = .ok (.aload_n 1, 1) := by decide +kernel
theorem dX7_copyFrom_75 : decode cX7_copyFrom 75 = .ok (.getfield 30, 3) := by decide +kernel
theorem dX7_copyFrom_78 : decode cX7_copyFrom 78 = .ok (.aload_n 0, 1) := by decide +kernel
theorem dX7_copyFrom_79 : decode cX7_copyFrom 79 = .ok (.getfield 30, 3) := by decide +kernel
theorem dX7_copyFrom_82 : decode cX7_copyFrom 82 = .ok (.invokestatic 53, 3) := by decide +kernel
theorem dX7_copyFrom_85 : decode cX7_copyFrom 85 = .ok (.aload_n 1, 1) := by decide +kernel
theorem dX7_copyFrom_86 : decode cX7_copyFrom 86 = .ok (.getfield 33, 3) := by decide +kernel
theorem dX7_copyFrom_89 : decode cX7_copyFrom 89 = .ok (.aload_n 0, 1) := by decide +kernel
theorem dX7_copyFrom_90 : decode cX7_copyFrom 90 = .ok (.getfield 33, 3) := by decide +kernel
theorem dX7_copyFrom_93 : decode cX7_copyFrom 93 = .ok (.invokestatic 53, 3) := by decide +kernel
theorem dX7_copyFrom_96 : decode cX7_copyFrom 96 = .ok (.aload_n 1, 1) := by decide +kernel
theorem dX7_copyFrom_97 : decode cX7_copyFrom 97 = .ok (.getfield 36, 3) := by decide +kernel
theorem dX7_copyFrom_100 : decode cX7_copyFrom 100 = .ok (.aload_n 0, 1) := by decide +kernel
theorem dX7_copyFrom_101 : decode cX7_copyFrom 101 = .ok (.getfield 36, 3) := by decide +kernel
theorem dX7_copyFrom_104 : decode cX7_copyFrom 104 = .ok (.invokestatic 53, 3) := by decide +kernel
theorem dX7_copyFrom_107 : decode cX7_copyFrom 107 = .ok (.aload_n 1, 1) := by decide +kernel
theorem dX7_copyFrom_108 : decode cX7_copyFrom 108 = .ok (.getfield 39, 3) := by decide +kernel
theorem dX7_copyFrom_111 : decode cX7_copyFrom 111 = .ok (.aload_n 0, 1) := by decide +kernel
theorem dX7_copyFrom_112 : decode cX7_copyFrom 112 = .ok (.getfield 39, 3) := by decide +kernel
theorem dX7_copyFrom_115 : decode cX7_copyFrom 115 = .ok (.invokestatic 53, 3) := by decide +kernel
theorem dX7_copyFrom_118 : decode cX7_copyFrom 118 = .ok (.return_, 1) := by decide +kernel
set_option maxRecDepth 20000 in
theorem ggX7_copyFrom_X8_copyRow : GoodIn wsX7_copyFrom wsX8_copyRow := goodIn_r _ [14, 15, 16, 17, 18] (by decide +kernel) (by decide +kernel)
set_option maxRecDepth 20000 in
theorem gX7_copyFrom_X8_copyRow_n53 : GoodIn wsX7_copyFrom (wsX8_copyRow) := ggX7_copyFrom_X8_copyRow
def rm_X7_copyFrom_t26_2 : Room := { frames := 2, cells := 0, slots := 0, locals := 221 }
set_option maxHeartbeats 4000000 in
set_option maxRecDepth 100000 in
theorem c_X7_copyFrom_t26_2 (l : Launch) {nb : Nat} {G : zG} {ad : Nat → Nat} {σ σ' : zs} {r : Int32} (hf : f_X7_copyFrom_t26_2 σ  = some (r, σ')) : zMv l yX7_copyFrom wsX7_copyFrom rm_X7_copyFrom_t26_2 G (zS nb) ad σ [.ref (ad 26), .ref (ad 2)] σ' := by
  intro sz
  refine Met.ofW (cc := cX7_copyFrom) (maxL := 2) (ret := none) (by decide) rfl ?_
  intro p e s m args below meth c s₁ B hml hv
  obtain ⟨rfl, hsz, hv⟩ := hv
  have hx := B.exec
  have hb := B.bytes
  have hr := B.returns
  have hts := atoms_spec (ws := wsX7_copyFrom) B.pre
  have hown : s.vm.findClass RX7 = some m.cls := findClass_of_methodNamed B.named
  have hlocks := B.notSynchronized
  subst hsz
  have B := zB_start hv
  have hinRX7 : ∀ w ∈ wsX70, w ∈ wsX7_copyFrom := by decide +kernel
  have hl := lv_entry ([.ref (ad 26), .ref (ad 2)]) (n := 2) (Nat.le_of_ble_eq_true rfl)
  rw [lg_entry_eq]
  generalize (lg_sl ([.ref (ad 26), .ref (ad 2)]) ++ List.replicate (2 - (lg_sl ([.ref (ad 26), .ref (ad 2)])).length) Slot.unset).toArray = ls at hl ⊢
  have hl : lv_has ls 2 [(0, .ref (ad 26)), (1, .ref (ad 2))] := hl
  generalize hAe : zA ad (zS nb).length s.heap.size = A at B ⊢
  unfold f_X7_copyFrom_t26_2 at hf
  refine lv_aload_n hx hb dX7_copyFrom_0 rfl (lv_at hl 0 rfl) ?_
  refine lv_aload_n hx hb dX7_copyFrom_1 rfl (lv_at hl 1 rfl) ?_
  refine z_geti hx hb hts hinRX7 hown B 2 0 rfl rfl rfl (by decide) (by decide +kernel) rfl dX7_copyFrom_2 ?_
  refine z_puti hx hb hts hinRX7 hown tyX7 tyX7_ok nmX7 B 26 0 rfl rfl rfl (by decide) (by decide +kernel) rfl rfl rfl rfl dX7_copyFrom_5 (fun H locs B => ?_)
  refine lv_aload_n hx hb dX7_copyFrom_8 rfl (lv_at hl 1 rfl) ?_
  refine z_getr hx hb hts hinRX7 hown B 2 1 3 rfl rfl rfl (by decide) (by decide +kernel) rfl dX7_copyFrom_9 ?_
  refine lv_aload_n hx hb dX7_copyFrom_12 rfl (lv_at hl 0 rfl) ?_
  refine z_getr hx hb hts hinRX7 hown B 26 1 27 rfl rfl rfl (by decide) (by decide +kernel) rfl dX7_copyFrom_13 ?_
  obtain ⟨r2, σ3, hu1, hf⟩ := zb_some hf
  refine z_v B (va_runSN (As := [.ref (ad 3), .ref (ad 27)]) (rest := []) ⟨hx, hb, hml, hown, hts⟩ (c_X8_copyRow_3_27 l hu1 _) ⟨va_cnB 2 hts gX7_copyFrom_X8_copyRow_n53 rfl rfl rfl (z_nest B (q := (RX7, 53, yX8_copyRow)) (by decide +kernel)) (hts (.initialized RX8) (by decide +kernel)) (by decide +kernel) ⟨Nat.le_of_ble_eq_true rfl, Nat.le_of_ble_eq_true rfl⟩, hts (.static yX8_copyRow) (by decide +kernel), trivial⟩ (z_preS B) rfl rfl hl.1 rfl (lv_room (Nat.le_of_ble_eq_true rfl)) dX7_copyFrom_16 ⟨Nat.le_of_ble_eq_true rfl, Nat.le_of_ble_eq_true rfl⟩) (fun H locs B => ?_)
  refine lv_aload_n hx hb dX7_copyFrom_19 rfl (lv_at hl 1 rfl) ?_
  refine z_getr hx hb hts hinRX7 hown B 2 2 4 rfl rfl rfl (by decide) (by decide +kernel) rfl dX7_copyFrom_20 ?_
  refine lv_aload_n hx hb dX7_copyFrom_23 rfl (lv_at hl 0 rfl) ?_
  refine z_getr hx hb hts hinRX7 hown B 26 2 28 rfl rfl rfl (by decide) (by decide +kernel) rfl dX7_copyFrom_24 ?_
  obtain ⟨r5, σ6, hu4, hf⟩ := zb_some hf
  refine z_v B (va_runSN (As := [.ref (ad 4), .ref (ad 28)]) (rest := []) ⟨hx, hb, hml, hown, hts⟩ (c_X8_copyRow_4_28 l hu4 _) ⟨va_cnB 2 hts gX7_copyFrom_X8_copyRow_n53 rfl rfl rfl (z_nest B (q := (RX7, 53, yX8_copyRow)) (by decide +kernel)) (hts (.initialized RX8) (by decide +kernel)) (by decide +kernel) ⟨Nat.le_of_ble_eq_true rfl, Nat.le_of_ble_eq_true rfl⟩, hts (.static yX8_copyRow) (by decide +kernel), trivial⟩ (z_preS B) rfl rfl hl.1 rfl (lv_room (Nat.le_of_ble_eq_true rfl)) dX7_copyFrom_27 ⟨Nat.le_of_ble_eq_true rfl, Nat.le_of_ble_eq_true rfl⟩) (fun H locs B => ?_)
  refine lv_aload_n hx hb dX7_copyFrom_30 rfl (lv_at hl 1 rfl) ?_
  refine z_getr hx hb hts hinRX7 hown B 2 3 5 rfl rfl rfl (by decide) (by decide +kernel) rfl dX7_copyFrom_31 ?_
  refine lv_aload_n hx hb dX7_copyFrom_34 rfl (lv_at hl 0 rfl) ?_
  refine z_getr hx hb hts hinRX7 hown B 26 3 29 rfl rfl rfl (by decide) (by decide +kernel) rfl dX7_copyFrom_35 ?_
  obtain ⟨r8, σ9, hu7, hf⟩ := zb_some hf
  refine z_v B (va_runSN (As := [.ref (ad 5), .ref (ad 29)]) (rest := []) ⟨hx, hb, hml, hown, hts⟩ (c_X8_copyRow_5_29 l hu7 _) ⟨va_cnB 2 hts gX7_copyFrom_X8_copyRow_n53 rfl rfl rfl (z_nest B (q := (RX7, 53, yX8_copyRow)) (by decide +kernel)) (hts (.initialized RX8) (by decide +kernel)) (by decide +kernel) ⟨Nat.le_of_ble_eq_true rfl, Nat.le_of_ble_eq_true rfl⟩, hts (.static yX8_copyRow) (by decide +kernel), trivial⟩ (z_preS B) rfl rfl hl.1 rfl (lv_room (Nat.le_of_ble_eq_true rfl)) dX7_copyFrom_38 ⟨Nat.le_of_ble_eq_true rfl, Nat.le_of_ble_eq_true rfl⟩) (fun H locs B => ?_)
  refine lv_aload_n hx hb dX7_copyFrom_41 rfl (lv_at hl 1 rfl) ?_
  refine z_getr hx hb hts hinRX7 hown B 2 4 6 rfl rfl rfl (by decide) (by decide +kernel) rfl dX7_copyFrom_42 ?_
  refine lv_aload_n hx hb dX7_copyFrom_45 rfl (lv_at hl 0 rfl) ?_
  refine z_getr hx hb hts hinRX7 hown B 26 4 30 rfl rfl rfl (by decide) (by decide +kernel) rfl dX7_copyFrom_46 ?_
  obtain ⟨r11, σ12, hu10, hf⟩ := zb_some hf
  refine z_v B (va_runSN (As := [.ref (ad 6), .ref (ad 30)]) (rest := []) ⟨hx, hb, hml, hown, hts⟩ (c_X8_copyRow_6_30 l hu10 _) ⟨va_cnB 2 hts gX7_copyFrom_X8_copyRow_n53 rfl rfl rfl (z_nest B (q := (RX7, 53, yX8_copyRow)) (by decide +kernel)) (hts (.initialized RX8) (by decide +kernel)) (by decide +kernel) ⟨Nat.le_of_ble_eq_true rfl, Nat.le_of_ble_eq_true rfl⟩, hts (.static yX8_copyRow) (by decide +kernel), trivial⟩ (z_preS B) rfl rfl hl.1 rfl (lv_room (Nat.le_of_ble_eq_true rfl)) dX7_copyFrom_49 ⟨Nat.le_of_ble_eq_true rfl, Nat.le_of_ble_eq_true rfl⟩) (fun H locs B => ?_)
  refine lv_aload_n hx hb dX7_copyFrom_52 rfl (lv_at hl 1 rfl) ?_
  refine z_getr hx hb hts hinRX7 hown B 2 5 7 rfl rfl rfl (by decide) (by decide +kernel) rfl dX7_copyFrom_53 ?_
  refine lv_aload_n hx hb dX7_copyFrom_56 rfl (lv_at hl 0 rfl) ?_
  refine z_getr hx hb hts hinRX7 hown B 26 5 31 rfl rfl rfl (by decide) (by decide +kernel) rfl dX7_copyFrom_57 ?_
  obtain ⟨r14, σ15, hu13, hf⟩ := zb_some hf
  refine z_v B (va_runSN (As := [.ref (ad 7), .ref (ad 31)]) (rest := []) ⟨hx, hb, hml, hown, hts⟩ (c_X8_copyRow_7_31 l hu13 _) ⟨va_cnB 2 hts gX7_copyFrom_X8_copyRow_n53 rfl rfl rfl (z_nest B (q := (RX7, 53, yX8_copyRow)) (by decide +kernel)) (hts (.initialized RX8) (by decide +kernel)) (by decide +kernel) ⟨Nat.le_of_ble_eq_true rfl, Nat.le_of_ble_eq_true rfl⟩, hts (.static yX8_copyRow) (by decide +kernel), trivial⟩ (z_preS B) rfl rfl hl.1 rfl (lv_room (Nat.le_of_ble_eq_true rfl)) dX7_copyFrom_60 ⟨Nat.le_of_ble_eq_true rfl, Nat.le_of_ble_eq_true rfl⟩) (fun H locs B => ?_)
  refine lv_aload_n hx hb dX7_copyFrom_63 rfl (lv_at hl 1 rfl) ?_
  refine z_getr hx hb hts hinRX7 hown B 2 6 8 rfl rfl rfl (by decide) (by decide +kernel) rfl dX7_copyFrom_64 ?_
  refine lv_aload_n hx hb dX7_copyFrom_67 rfl (lv_at hl 0 rfl) ?_
  refine z_getr hx hb hts hinRX7 hown B 26 6 32 rfl rfl rfl (by decide) (by decide +kernel) rfl dX7_copyFrom_68 ?_
  obtain ⟨r17, σ18, hu16, hf⟩ := zb_some hf
  refine z_v B (va_runSN (As := [.ref (ad 8), .ref (ad 32)]) (rest := []) ⟨hx, hb, hml, hown, hts⟩ (c_X8_copyRow_8_32 l hu16 _) ⟨va_cnB 2 hts gX7_copyFrom_X8_copyRow_n53 rfl rfl rfl (z_nest B (q := (RX7, 53, yX8_copyRow)) (by decide +kernel)) (hts (.initialized RX8) (by decide +kernel)) (by decide +kernel) ⟨Nat.le_of_ble_eq_true rfl, Nat.le_of_ble_eq_true rfl⟩, hts (.static yX8_copyRow) (by decide +kernel), trivial⟩ (z_preS B) rfl rfl hl.1 rfl (lv_room (Nat.le_of_ble_eq_true rfl)) dX7_copyFrom_71 ⟨Nat.le_of_ble_eq_true rfl, Nat.le_of_ble_eq_true rfl⟩) (fun H locs B => ?_)
  refine lv_aload_n hx hb dX7_copyFrom_74 rfl (lv_at hl 1 rfl) ?_
  refine z_getr hx hb hts hinRX7 hown B 2 7 9 rfl rfl rfl (by decide) (by decide +kernel) rfl dX7_copyFrom_75 ?_
  refine lv_aload_n hx hb dX7_copyFrom_78 rfl (lv_at hl 0 rfl) ?_
  refine z_getr hx hb hts hinRX7 hown B 26 7 33 rfl rfl rfl (by decide) (by decide +kernel) rfl dX7_copyFrom_79 ?_
  obtain ⟨r20, σ21, hu19, hf⟩ := zb_some hf
  refine z_v B (va_runSN (As := [.ref (ad 9), .ref (ad 33)]) (rest := []) ⟨hx, hb, hml, hown, hts⟩ (c_X8_copyRow_9_33 l hu19 _) ⟨va_cnB 2 hts gX7_copyFrom_X8_copyRow_n53 rfl rfl rfl (z_nest B (q := (RX7, 53, yX8_copyRow)) (by decide +kernel)) (hts (.initialized RX8) (by decide +kernel)) (by decide +kernel) ⟨Nat.le_of_ble_eq_true rfl, Nat.le_of_ble_eq_true rfl⟩, hts (.static yX8_copyRow) (by decide +kernel), trivial⟩ (z_preS B) rfl rfl hl.1 rfl (lv_room (Nat.le_of_ble_eq_true rfl)) dX7_copyFrom_82 ⟨Nat.le_of_ble_eq_true rfl, Nat.le_of_ble_eq_true rfl⟩) (fun H locs B => ?_)
  refine lv_aload_n hx hb dX7_copyFrom_85 rfl (lv_at hl 1 rfl) ?_
  refine z_getr hx hb hts hinRX7 hown B 2 8 10 rfl rfl rfl (by decide) (by decide +kernel) rfl dX7_copyFrom_86 ?_
  refine lv_aload_n hx hb dX7_copyFrom_89 rfl (lv_at hl 0 rfl) ?_
  refine z_getr hx hb hts hinRX7 hown B 26 8 34 rfl rfl rfl (by decide) (by decide +kernel) rfl dX7_copyFrom_90 ?_
  obtain ⟨r23, σ24, hu22, hf⟩ := zb_some hf
  refine z_v B (va_runSN (As := [.ref (ad 10), .ref (ad 34)]) (rest := []) ⟨hx, hb, hml, hown, hts⟩ (c_X8_copyRow_10_34 l hu22 _) ⟨va_cnB 2 hts gX7_copyFrom_X8_copyRow_n53 rfl rfl rfl (z_nest B (q := (RX7, 53, yX8_copyRow)) (by decide +kernel)) (hts (.initialized RX8) (by decide +kernel)) (by decide +kernel) ⟨Nat.le_of_ble_eq_true rfl, Nat.le_of_ble_eq_true rfl⟩, hts (.static yX8_copyRow) (by decide +kernel), trivial⟩ (z_preS B) rfl rfl hl.1 rfl (lv_room (Nat.le_of_ble_eq_true rfl)) dX7_copyFrom_93 ⟨Nat.le_of_ble_eq_true rfl, Nat.le_of_ble_eq_true rfl⟩) (fun H locs B => ?_)
  refine lv_aload_n hx hb dX7_copyFrom_96 rfl (lv_at hl 1 rfl) ?_
  refine z_getr hx hb hts hinRX7 hown B 2 9 11 rfl rfl rfl (by decide) (by decide +kernel) rfl dX7_copyFrom_97 ?_
  refine lv_aload_n hx hb dX7_copyFrom_100 rfl (lv_at hl 0 rfl) ?_
  refine z_getr hx hb hts hinRX7 hown B 26 9 35 rfl rfl rfl (by decide) (by decide +kernel) rfl dX7_copyFrom_101 ?_
  obtain ⟨r26, σ27, hu25, hf⟩ := zb_some hf
  refine z_v B (va_runSN (As := [.ref (ad 11), .ref (ad 35)]) (rest := []) ⟨hx, hb, hml, hown, hts⟩ (c_X8_copyRow_11_35 l hu25 _) ⟨va_cnB 2 hts gX7_copyFrom_X8_copyRow_n53 rfl rfl rfl (z_nest B (q := (RX7, 53, yX8_copyRow)) (by decide +kernel)) (hts (.initialized RX8) (by decide +kernel)) (by decide +kernel) ⟨Nat.le_of_ble_eq_true rfl, Nat.le_of_ble_eq_true rfl⟩, hts (.static yX8_copyRow) (by decide +kernel), trivial⟩ (z_preS B) rfl rfl hl.1 rfl (lv_room (Nat.le_of_ble_eq_true rfl)) dX7_copyFrom_104 ⟨Nat.le_of_ble_eq_true rfl, Nat.le_of_ble_eq_true rfl⟩) (fun H locs B => ?_)
  refine lv_aload_n hx hb dX7_copyFrom_107 rfl (lv_at hl 1 rfl) ?_
  refine z_getr hx hb hts hinRX7 hown B 2 10 12 rfl rfl rfl (by decide) (by decide +kernel) rfl dX7_copyFrom_108 ?_
  refine lv_aload_n hx hb dX7_copyFrom_111 rfl (lv_at hl 0 rfl) ?_
  refine z_getr hx hb hts hinRX7 hown B 26 10 36 rfl rfl rfl (by decide) (by decide +kernel) rfl dX7_copyFrom_112 ?_
  obtain ⟨r29, σ30, hu28, hf⟩ := zb_some hf
  refine z_v B (va_runSN (As := [.ref (ad 12), .ref (ad 36)]) (rest := []) ⟨hx, hb, hml, hown, hts⟩ (c_X8_copyRow_12_36 l hu28 _) ⟨va_cnB 2 hts gX7_copyFrom_X8_copyRow_n53 rfl rfl rfl (z_nest B (q := (RX7, 53, yX8_copyRow)) (by decide +kernel)) (hts (.initialized RX8) (by decide +kernel)) (by decide +kernel) ⟨Nat.le_of_ble_eq_true rfl, Nat.le_of_ble_eq_true rfl⟩, hts (.static yX8_copyRow) (by decide +kernel), trivial⟩ (z_preS B) rfl rfl hl.1 rfl (lv_room (Nat.le_of_ble_eq_true rfl)) dX7_copyFrom_115 ⟨Nat.le_of_ble_eq_true rfl, Nat.le_of_ble_eq_true rfl⟩) (fun H locs B => ?_)
  refine W.widen (k := 0) (n := 0) (Nat.le_of_ble_eq_true rfl) (Nat.le_of_ble_eq_true rfl) ?_
  exact z_vret hx hb hr hlocks B hf dX7_copyFrom_118
theorem dX8_copyRow_0 : decode cX8_copyRow 0 = .ok (.aload_n 0, 1) := by decide +kernel
theorem dX8_copyRow_1 : decode cX8_copyRow 1 = .ok (.arraylength, 1) := by decide +kernel
theorem dX8_copyRow_2 : decode cX8_copyRow 2 = .ok (.aload_n 1, 1) := by decide +kernel
theorem dX8_copyRow_3 : decode cX8_copyRow 3 = .ok (.arraylength, 1) := by decide +kernel
theorem dX8_copyRow_4 : decode cX8_copyRow 4 = .ok (.if_icmp .ne 12, 3) := by decide +kernel
theorem dX8_copyRow_7 : decode cX8_copyRow 7 = .ok (.aload_n 0, 1) := by decide +kernel
theorem dX8_copyRow_8 : decode cX8_copyRow 8 = .ok (.iconst 0, 1) := by decide +kernel
theorem dX8_copyRow_9 : decode cX8_copyRow 9 = .ok (.aload_n 1, 1) := by decide +kernel
theorem dX8_copyRow_10 : decode cX8_copyRow 10 = .ok (.iconst 0, 1) := by decide +kernel
theorem dX8_copyRow_11 : decode cX8_copyRow 11 = .ok (.aload_n 0, 1) := by decide +kernel
theorem dX8_copyRow_12 : decode cX8_copyRow 12 = .ok (.arraylength, 1) := by decide +kernel
theorem dX8_copyRow_13 : decode cX8_copyRow 13 = .ok (.invokestatic 415, 3) := by decide +kernel
theorem dX8_copyRow_16 : decode cX8_copyRow 16 = .ok (.return_, 1) := by decide +kernel
def rm_X8_copyRow_15_39 : Room := { frames := 1, cells := 0, slots := 0, locals := 200 }
set_option maxHeartbeats 4000000 in
set_option maxRecDepth 100000 in
theorem c_X8_copyRow_15_39 (l : Launch) {nb : Nat} {G : zG} {ad : Nat → Nat} {σ σ' : zs} {r : Int32} (hf : f_X8_copyRow_15_39 σ  = some (r, σ')) : zMv l yX8_copyRow wsX8_copyRow rm_X8_copyRow_15_39 G (zS nb) ad σ [.ref (ad 15), .ref (ad 39)] σ' := by
  intro sz
  refine Met.ofW (cc := cX8_copyRow) (maxL := 2) (ret := none) (by decide) rfl ?_
  intro p e s m args below meth c s₁ B hml hv
  obtain ⟨rfl, hsz, hv⟩ := hv
  have hx := B.exec
  have hb := B.bytes
  have hr := B.returns
  have hts := atoms_spec (ws := wsX8_copyRow) B.pre
  have hown : s.vm.findClass RX8 = some m.cls := findClass_of_methodNamed B.named
  have hlocks := B.notSynchronized
  subst hsz
  have B := zB_start hv
  have hl := lv_entry ([.ref (ad 15), .ref (ad 39)]) (n := 2) (Nat.le_of_ble_eq_true rfl)
  rw [lg_entry_eq]
  generalize (lg_sl ([.ref (ad 15), .ref (ad 39)]) ++ List.replicate (2 - (lg_sl ([.ref (ad 15), .ref (ad 39)])).length) Slot.unset).toArray = ls at hl ⊢
  have hl : lv_has ls 2 [(0, .ref (ad 15)), (1, .ref (ad 39))] := hl
  generalize hAe : zA ad (zS nb).length s.heap.size = A at B ⊢
  unfold f_X8_copyRow_15_39 at hf
  refine lv_aload_n hx hb dX8_copyRow_0 rfl (lv_at hl 0 rfl) ?_
  refine z_alen hx hb B 15 (v := (4 : Int32)) rfl rfl (by decide) dX8_copyRow_1 ?_
  refine lv_aload_n hx hb dX8_copyRow_2 rfl (lv_at hl 1 rfl) ?_
  refine z_alen hx hb B 39 (v := (4 : Int32)) rfl rfl (by decide) dX8_copyRow_3 ?_
  refine lv_icmp_ne (tgt := 16) hx hb dX8_copyRow_4 (by decide) (fun hc => ?_) (fun hc => ?_)
  · have hf := zif_f hc hf
    refine W.widen (k := 0) (n := 0) (Nat.le_of_ble_eq_true rfl) (Nat.le_of_ble_eq_true rfl) ?_
    exact z_vret hx hb hr hlocks B hf dX8_copyRow_16
  · have hf := zif_t hc hf
    refine lv_aload_n hx hb dX8_copyRow_7 rfl (lv_at hl 0 rfl) ?_
    refine lv_iconst (v := (0 : Int32)) hx hb dX8_copyRow_8 (by decide) ?_
    refine lv_aload_n hx hb dX8_copyRow_9 rfl (lv_at hl 1 rfl) ?_
    refine lv_iconst (v := (0 : Int32)) hx hb dX8_copyRow_10 (by decide) ?_
    refine lv_aload_n hx hb dX8_copyRow_11 rfl (lv_at hl 0 rfl) ?_
    refine z_alen hx hb B 15 (v := (4 : Int32)) rfl rfl (by decide) dX8_copyRow_12 ?_
    obtain ⟨hg, hf⟩ := zg_some hf
    obtain ⟨g1, g2, g3, g4, g5⟩ := zcp_ok hg
    refine z_copyi hx hb (hml.trans hl.1.symm) hts hown (index := 415) (by decide +kernel) (by decide +kernel) (by decide +kernel) (by decide +kernel) B 15 39 rfl rfl g1 g2 g3 g4 g5 (Nat.le_of_ble_eq_true rfl) (Nat.le_of_ble_eq_true rfl) dX8_copyRow_13 (fun H locs B => ?_)
    refine W.widen (k := 0) (n := 0) (Nat.le_of_ble_eq_true rfl) (Nat.le_of_ble_eq_true rfl) ?_
    exact z_vret hx hb hr hlocks B hf dX8_copyRow_16
theorem dX8_copyRow_0 : decode cX8_copyRow 0 = .ok (.aload_n 0, 1) := by decide +kernel
theorem dX8_copyRow_1 : decode cX8_copyRow 1 = .ok (.arraylength, 1) := by decide +kernel
theorem dX8_copyRow_2 : decode cX8_copyRow 2 = .ok (.aload_n 1, 1) := by decide +kernel
theorem dX8_copyRow_3 : decode cX8_copyRow 3 = .ok (.arraylength, 1) := by decide +kernel
theorem dX8_copyRow_4 : decode cX8_copyRow 4 = .ok (.if_icmp .ne 12, 3) := by decide +kernel
theorem dX8_copyRow_7 : decode cX8_copyRow 7 = .ok (.aload_n 0, 1) := by decide +kernel
theorem dX8_copyRow_8 : decode cX8_copyRow 8 = .ok (.iconst 0, 1) := by decide +kernel
theorem dX8_copyRow_9 : decode cX8_copyRow 9 = .ok (.aload_n 1, 1) := by decide +kernel
theorem dX8_copyRow_10 : decode cX8_copyRow 10 = .ok (.iconst 0, 1) := by decide +kernel
theorem dX8_copyRow_11 : decode cX8_copyRow 11 = .ok (.aload_n 0, 1) := by decide +kernel
theorem dX8_copyRow_12 : decode cX8_copyRow 12 = .ok (.arraylength, 1) := by decide +kernel
theorem dX8_copyRow_13 : decode cX8_copyRow 13 = .ok (.invokestatic 415, 3) := by decide +kernel
theorem dX8_copyRow_16 : decode cX8_copyRow 16 = .ok (.return_, 1) := by decide +kernel
def rm_X8_copyRow_16_40 : Room := { frames := 1, cells := 0, slots := 0, locals := 200 }
set_option maxHeartbeats 4000000 in
set_option maxRecDepth 100000 in
theorem c_X8_copyRow_16_40 (l : Launch) {nb : Nat} {G : zG} {ad : Nat → Nat} {σ σ' : zs} {r : Int32} (hf : f_X8_copyRow_16_40 σ  = some (r, σ')) : zMv l yX8_copyRow wsX8_copyRow rm_X8_copyRow_16_40 G (zS nb) ad σ [.ref (ad 16), .ref (ad 40)] σ' := by
  intro sz
  refine Met.ofW (cc := cX8_copyRow) (maxL := 2) (ret := none) (by decide) rfl ?_
  intro p e s m args below meth c s₁ B hml hv
  obtain ⟨rfl, hsz, hv⟩ := hv
  have hx := B.exec
  have hb := B.bytes
  have hr := B.returns
  have hts := atoms_spec (ws := wsX8_copyRow) B.pre
  have hown : s.vm.findClass RX8 = some m.cls := findClass_of_methodNamed B.named
  have hlocks := B.notSynchronized
  subst hsz
  have B := zB_start hv
  have hl := lv_entry ([.ref (ad 16), .ref (ad 40)]) (n := 2) (Nat.le_of_ble_eq_true rfl)
  rw [lg_entry_eq]
  generalize (lg_sl ([.ref (ad 16), .ref (ad 40)]) ++ List.replicate (2 - (lg_sl ([.ref (ad 16), .ref (ad 40)])).length) Slot.unset).toArray = ls at hl ⊢
  have hl : lv_has ls 2 [(0, .ref (ad 16)), (1, .ref (ad 40))] := hl
  generalize hAe : zA ad (zS nb).length s.heap.size = A at B ⊢
  unfold f_X8_copyRow_16_40 at hf
  refine lv_aload_n hx hb dX8_copyRow_0 rfl (lv_at hl 0 rfl) ?_
  refine z_alen hx hb B 16 (v := (4 : Int32)) rfl rfl (by decide) dX8_copyRow_1 ?_
  refine lv_aload_n hx hb dX8_copyRow_2 rfl (lv_at hl 1 rfl) ?_
  refine z_alen hx hb B 40 (v := (4 : Int32)) rfl rfl (by decide) dX8_copyRow_3 ?_
  refine lv_icmp_ne (tgt := 16) hx hb dX8_copyRow_4 (by decide) (fun hc => ?_) (fun hc => ?_)
  · have hf := zif_f hc hf
    refine W.widen (k := 0) (n := 0) (Nat.le_of_ble_eq_true rfl) (Nat.le_of_ble_eq_true rfl) ?_
    exact z_vret hx hb hr hlocks B hf dX8_copyRow_16
  · have hf := zif_t hc hf
    refine lv_aload_n hx hb dX8_copyRow_7 rfl (lv_at hl 0 rfl) ?_
    refine lv_iconst (v := (0 : Int32)) hx hb dX8_copyRow_8 (by decide) ?_
    refine lv_aload_n hx hb dX8_copyRow_9 rfl (lv_at hl 1 rfl) ?_
    refine lv_iconst (v := (0 : Int32)) hx hb dX8_copyRow_10 (by decide) ?_
    refine lv_aload_n hx hb dX8_copyRow_11 rfl (lv_at hl 0 rfl) ?_
    refine z_alen hx hb B 16 (v := (4 : Int32)) rfl rfl (by decide) dX8_copyRow_12 ?_
    obtain ⟨hg, hf⟩ := zg_some hf
    obtain ⟨g1, g2, g3, g4, g5⟩ := zcp_ok hg
    refine z_copyi hx hb (hml.trans hl.1.symm) hts hown (index := 415) (by decide +kernel) (by decide +kernel) (by decide +kernel) (by decide +kernel) B 16 40 rfl rfl g1 g2 g3 g4 g5 (Nat.le_of_ble_eq_true rfl) (Nat.le_of_ble_eq_true rfl) dX8_copyRow_13 (fun H locs B => ?_)
    refine W.widen (k := 0) (n := 0) (Nat.le_of_ble_eq_true rfl) (Nat.le_of_ble_eq_true rfl) ?_
    exact z_vret hx hb hr hlocks B hf dX8_copyRow_16
theorem dX8_copyRow_0 : decode cX8_copyRow 0 = .ok (.aload_n 0, 1) := by decide +kernel
theorem dX8_copyRow_1 : decode cX8_copyRow 1 = .ok (.arraylength, 1) := by decide +kernel
theorem dX8_copyRow_2 : decode cX8_copyRow 2 = .ok (.aload_n 1, 1) := by decide +kernel
theorem dX8_copyRow_3 : decode cX8_copyRow 3 = .ok (.arraylength, 1) := by decide +kernel
theorem dX8_copyRow_4 : decode cX8_copyRow 4 = .ok (.if_icmp .ne 12, 3) := by decide +kernel
theorem dX8_copyRow_7 : decode cX8_copyRow 7 = .ok (.aload_n 0, 1) := by decide +kernel
theorem dX8_copyRow_8 : decode cX8_copyRow 8 = .ok (.iconst 0, 1) := by decide +kernel
theorem dX8_copyRow_9 : decode cX8_copyRow 9 = .ok (.aload_n 1, 1) := by decide +kernel
theorem dX8_copyRow_10 : decode cX8_copyRow 10 = .ok (.iconst 0, 1) := by decide +kernel
theorem dX8_copyRow_11 : decode cX8_copyRow 11 = .ok (.aload_n 0, 1) := by decide +kernel
theorem dX8_copyRow_12 : decode cX8_copyRow 12 = .ok (.arraylength, 1) := by decide +kernel
theorem dX8_copyRow_13 : decode cX8_copyRow 13 = .ok (.invokestatic 415, 3) := by decide +kernel
theorem dX8_copyRow_16 : decode cX8_copyRow 16 = .ok (.return_, 1) := by decide +kernel
def rm_X8_copyRow_17_41 : Room := { frames := 1, cells := 0, slots := 0, locals := 200 }
set_option maxHeartbeats 4000000 in
set_option maxRecDepth 100000 in
theorem c_X8_copyRow_17_41 (l : Launch) {nb : Nat} {G : zG} {ad : Nat → Nat} {σ σ' : zs} {r : Int32} (hf : f_X8_copyRow_17_41 σ  = some (r, σ')) : zMv l yX8_copyRow wsX8_copyRow rm_X8_copyRow_17_41 G (zS nb) ad σ [.ref (ad 17), .ref (ad 41)] σ' := by
  intro sz
  refine Met.ofW (cc := cX8_copyRow) (maxL := 2) (ret := none) (by decide) rfl ?_
  intro p e s m args below meth c s₁ B hml hv
  obtain ⟨rfl, hsz, hv⟩ := hv
  have hx := B.exec
  have hb := B.bytes
  have hr := B.returns
  have hts := atoms_spec (ws := wsX8_copyRow) B.pre
  have hown : s.vm.findClass RX8 = some m.cls := findClass_of_methodNamed B.named
  have hlocks := B.notSynchronized
  subst hsz
  have B := zB_start hv
  have hl := lv_entry ([.ref (ad 17), .ref (ad 41)]) (n := 2) (Nat.le_of_ble_eq_true rfl)
  rw [lg_entry_eq]
  generalize (lg_sl ([.ref (ad 17), .ref (ad 41)]) ++ List.replicate (2 - (lg_sl ([.ref (ad 17), .ref (ad 41)])).length) Slot.unset).toArray = ls at hl ⊢
  have hl : lv_has ls 2 [(0, .ref (ad 17)), (1, .ref (ad 41))] := hl
  generalize hAe : zA ad (zS nb).length s.heap.size = A at B ⊢
  unfold f_X8_copyRow_17_41 at hf
  refine lv_aload_n hx hb dX8_copyRow_0 rfl (lv_at hl 0 rfl) ?_
  refine z_alen hx hb B 17 (v := (12 : Int32)) rfl rfl (by decide) dX8_copyRow_1 ?_
  refine lv_aload_n hx hb dX8_copyRow_2 rfl (lv_at hl 1 rfl) ?_
  refine z_alen hx hb B 41 (v := (12 : Int32)) rfl rfl (by decide) dX8_copyRow_3 ?_
  refine lv_icmp_ne (tgt := 16) hx hb dX8_copyRow_4 (by decide) (fun hc => ?_) (fun hc => ?_)
  · have hf := zif_f hc hf
    refine W.widen (k := 0) (n := 0) (Nat.le_of_ble_eq_true rfl) (Nat.le_of_ble_eq_true rfl) ?_
    exact z_vret hx hb hr hlocks B hf dX8_copyRow_16
  · have hf := zif_t hc hf
    refine lv_aload_n hx hb dX8_copyRow_7 rfl (lv_at hl 0 rfl) ?_
    refine lv_iconst (v := (0 : Int32)) hx hb dX8_copyRow_8 (by decide) ?_
    refine lv_aload_n hx hb dX8_copyRow_9 rfl (lv_at hl 1 rfl) ?_
    refine lv_iconst (v := (0 : Int32)) hx hb dX8_copyRow_10 (by decide) ?_
    refine lv_aload_n hx hb dX8_copyRow_11 rfl (lv_at hl 0 rfl) ?_
    refine z_alen hx hb B 17 (v := (12 : Int32)) rfl rfl (by decide) dX8_copyRow_12 ?_
    obtain ⟨hg, hf⟩ := zg_some hf
    obtain ⟨g1, g2, g3, g4, g5⟩ := zcp_ok hg
    refine z_copyi hx hb (hml.trans hl.1.symm) hts hown (index := 415) (by decide +kernel) (by decide +kernel) (by decide +kernel) (by decide +kernel) B 17 41 rfl rfl g1 g2 g3 g4 g5 (Nat.le_of_ble_eq_true rfl) (Nat.le_of_ble_eq_true rfl) dX8_copyRow_13 (fun H locs B => ?_)
    refine W.widen (k := 0) (n := 0) (Nat.le_of_ble_eq_true rfl) (Nat.le_of_ble_eq_true rfl) ?_
    exact z_vret hx hb hr hlocks B hf dX8_copyRow_16
theorem dX8_copyRow_0 : decode cX8_copyRow 0 = .ok (.aload_n 0, 1) := by decide +kernel
theorem dX8_copyRow_1 : decode cX8_copyRow 1 = .ok (.arraylength, 1) := by decide +kernel
theorem dX8_copyRow_2 : decode cX8_copyRow 2 = .ok (.aload_n 1, 1) := by decide +kernel
theorem dX8_copyRow_3 : decode cX8_copyRow 3 = .ok (.arraylength, 1) := by decide +kernel
theorem dX8_copyRow_4 : decode cX8_copyRow 4 = .ok (.if_icmp .ne 12, 3) := by decide +kernel
theorem dX8_copyRow_7 : decode cX8_copyRow 7 = .ok (.aload_n 0, 1) := by decide +kernel
theorem dX8_copyRow_8 : decode cX8_copyRow 8 = .ok (.iconst 0, 1) := by decide +kernel
theorem dX8_copyRow_9 : decode cX8_copyRow 9 = .ok (.aload_n 1, 1) := by decide +kernel
theorem dX8_copyRow_10 : decode cX8_copyRow 10 = .ok (.iconst 0, 1) := by decide +kernel
theorem dX8_copyRow_11 : decode cX8_copyRow 11 = .ok (.aload_n 0, 1) := by decide +kernel
theorem dX8_copyRow_12 : decode cX8_copyRow 12 = .ok (.arraylength, 1) := by decide +kernel
theorem dX8_copyRow_13 : decode cX8_copyRow 13 = .ok (.invokestatic 415, 3) := by decide +kernel
theorem dX8_copyRow_16 : decode cX8_copyRow 16 = .ok (.return_, 1) := by decide +kernel
def rm_X8_copyRow_18_42 : Room := { frames := 1, cells := 0, slots := 0, locals := 200 }
set_option maxHeartbeats 4000000 in
set_option maxRecDepth 100000 in
theorem c_X8_copyRow_18_42 (l : Launch) {nb : Nat} {G : zG} {ad : Nat → Nat} {σ σ' : zs} {r : Int32} (hf : f_X8_copyRow_18_42 σ  = some (r, σ')) : zMv l yX8_copyRow wsX8_copyRow rm_X8_copyRow_18_42 G (zS nb) ad σ [.ref (ad 18), .ref (ad 42)] σ' := by
  intro sz
  refine Met.ofW (cc := cX8_copyRow) (maxL := 2) (ret := none) (by decide) rfl ?_
  intro p e s m args below meth c s₁ B hml hv
  obtain ⟨rfl, hsz, hv⟩ := hv
  have hx := B.exec
  have hb := B.bytes
  have hr := B.returns
  have hts := atoms_spec (ws := wsX8_copyRow) B.pre
  have hown : s.vm.findClass RX8 = some m.cls := findClass_of_methodNamed B.named
  have hlocks := B.notSynchronized
  subst hsz
  have B := zB_start hv
  have hl := lv_entry ([.ref (ad 18), .ref (ad 42)]) (n := 2) (Nat.le_of_ble_eq_true rfl)
  rw [lg_entry_eq]
  generalize (lg_sl ([.ref (ad 18), .ref (ad 42)]) ++ List.replicate (2 - (lg_sl ([.ref (ad 18), .ref (ad 42)])).length) Slot.unset).toArray = ls at hl ⊢
  have hl : lv_has ls 2 [(0, .ref (ad 18)), (1, .ref (ad 42))] := hl
  generalize hAe : zA ad (zS nb).length s.heap.size = A at B ⊢
  unfold f_X8_copyRow_18_42 at hf
  refine lv_aload_n hx hb dX8_copyRow_0 rfl (lv_at hl 0 rfl) ?_
  refine z_alen hx hb B 18 (v := (12 : Int32)) rfl rfl (by decide) dX8_copyRow_1 ?_
  refine lv_aload_n hx hb dX8_copyRow_2 rfl (lv_at hl 1 rfl) ?_
  refine z_alen hx hb B 42 (v := (12 : Int32)) rfl rfl (by decide) dX8_copyRow_3 ?_
  refine lv_icmp_ne (tgt := 16) hx hb dX8_copyRow_4 (by decide) (fun hc => ?_) (fun hc => ?_)
  · have hf := zif_f hc hf
    refine W.widen (k := 0) (n := 0) (Nat.le_of_ble_eq_true rfl) (Nat.le_of_ble_eq_true rfl) ?_
    exact z_vret hx hb hr hlocks B hf dX8_copyRow_16
  · have hf := zif_t hc hf
    refine lv_aload_n hx hb dX8_copyRow_7 rfl (lv_at hl 0 rfl) ?_
    refine lv_iconst (v := (0 : Int32)) hx hb dX8_copyRow_8 (by decide) ?_
    refine lv_aload_n hx hb dX8_copyRow_9 rfl (lv_at hl 1 rfl) ?_
    refine lv_iconst (v := (0 : Int32)) hx hb dX8_copyRow_10 (by decide) ?_
    refine lv_aload_n hx hb dX8_copyRow_11 rfl (lv_at hl 0 rfl) ?_
    refine z_alen hx hb B 18 (v := (12 : Int32)) rfl rfl (by decide) dX8_copyRow_12 ?_
    obtain ⟨hg, hf⟩ := zg_some hf
    obtain ⟨g1, g2, g3, g4, g5⟩ := zcp_ok hg
    refine z_copyi hx hb (hml.trans hl.1.symm) hts hown (index := 415) (by decide +kernel) (by decide +kernel) (by decide +kernel) (by decide +kernel) B 18 42 rfl rfl g1 g2 g3 g4 g5 (Nat.le_of_ble_eq_true rfl) (Nat.le_of_ble_eq_true rfl) dX8_copyRow_13 (fun H locs B => ?_)
    refine W.widen (k := 0) (n := 0) (Nat.le_of_ble_eq_true rfl) (Nat.le_of_ble_eq_true rfl) ?_
    exact z_vret hx hb hr hlocks B hf dX8_copyRow_16
theorem dX8_copyRow_0 : decode cX8_copyRow 0 = .ok (.aload_n 0, 1) := by decide +kernel
theorem dX8_copyRow_1 : decode cX8_copyRow 1 = .ok (.arraylength, 1) := by decide +kernel
theorem dX8_copyRow_2 : decode cX8_copyRow 2 = .ok (.aload_n 1, 1) := by decide +kernel
theorem dX8_copyRow_3 : decode cX8_copyRow 3 = .ok (.arraylength, 1) := by decide +kernel
theorem dX8_copyRow_4 : decode cX8_copyRow 4 = .ok (.if_icmp .ne 12, 3) := by decide +kernel
theorem dX8_copyRow_7 : decode cX8_copyRow 7 = .ok (.aload_n 0, 1) := by decide +kernel
theorem dX8_copyRow_8 : decode cX8_copyRow 8 = .ok (.iconst 0, 1) := by decide +kernel
theorem dX8_copyRow_9 : decode cX8_copyRow 9 = .ok (.aload_n 1, 1) := by decide +kernel
theorem dX8_copyRow_10 : decode cX8_copyRow 10 = .ok (.iconst 0, 1) := by decide +kernel
theorem dX8_copyRow_11 : decode cX8_copyRow 11 = .ok (.aload_n 0, 1) := by decide +kernel
theorem dX8_copyRow_12 : decode cX8_copyRow 12 = .ok (.arraylength, 1) := by decide +kernel
theorem dX8_copyRow_13 : decode cX8_copyRow 13 = .ok (.invokestatic 415, 3) := by decide +kernel
theorem dX8_copyRow_16 : decode cX8_copyRow 16 = .ok (.return_, 1) := by decide +kernel
def rm_X8_copyRow_19_43 : Room := { frames := 1, cells := 0, slots := 0, locals := 200 }
set_option maxHeartbeats 4000000 in
set_option maxRecDepth 100000 in
theorem c_X8_copyRow_19_43 (l : Launch) {nb : Nat} {G : zG} {ad : Nat → Nat} {σ σ' : zs} {r : Int32} (hf : f_X8_copyRow_19_43 σ  = some (r, σ')) : zMv l yX8_copyRow wsX8_copyRow rm_X8_copyRow_19_43 G (zS nb) ad σ [.ref (ad 19), .ref (ad 43)] σ' := by
  intro sz
  refine Met.ofW (cc := cX8_copyRow) (maxL := 2) (ret := none) (by decide) rfl ?_
  intro p e s m args below meth c s₁ B hml hv
  obtain ⟨rfl, hsz, hv⟩ := hv
  have hx := B.exec
  have hb := B.bytes
  have hr := B.returns
  have hts := atoms_spec (ws := wsX8_copyRow) B.pre
  have hown : s.vm.findClass RX8 = some m.cls := findClass_of_methodNamed B.named
  have hlocks := B.notSynchronized
  subst hsz
  have B := zB_start hv
  have hl := lv_entry ([.ref (ad 19), .ref (ad 43)]) (n := 2) (Nat.le_of_ble_eq_true rfl)
  rw [lg_entry_eq]
  generalize (lg_sl ([.ref (ad 19), .ref (ad 43)]) ++ List.replicate (2 - (lg_sl ([.ref (ad 19), .ref (ad 43)])).length) Slot.unset).toArray = ls at hl ⊢
  have hl : lv_has ls 2 [(0, .ref (ad 19)), (1, .ref (ad 43))] := hl
  generalize hAe : zA ad (zS nb).length s.heap.size = A at B ⊢
  unfold f_X8_copyRow_19_43 at hf
  refine lv_aload_n hx hb dX8_copyRow_0 rfl (lv_at hl 0 rfl) ?_
  refine z_alen hx hb B 19 (v := (12 : Int32)) rfl rfl (by decide) dX8_copyRow_1 ?_
  refine lv_aload_n hx hb dX8_copyRow_2 rfl (lv_at hl 1 rfl) ?_
  refine z_alen hx hb B 43 (v := (12 : Int32)) rfl rfl (by decide) dX8_copyRow_3 ?_
  refine lv_icmp_ne (tgt := 16) hx hb dX8_copyRow_4 (by decide) (fun hc => ?_) (fun hc => ?_)
  · have hf := zif_f hc hf
    refine W.widen (k := 0) (n := 0) (Nat.le_of_ble_eq_true rfl) (Nat.le_of_ble_eq_true rfl) ?_
    exact z_vret hx hb hr hlocks B hf dX8_copyRow_16
  · have hf := zif_t hc hf
    refine lv_aload_n hx hb dX8_copyRow_7 rfl (lv_at hl 0 rfl) ?_
    refine lv_iconst (v := (0 : Int32)) hx hb dX8_copyRow_8 (by decide) ?_
    refine lv_aload_n hx hb dX8_copyRow_9 rfl (lv_at hl 1 rfl) ?_
    refine lv_iconst (v := (0 : Int32)) hx hb dX8_copyRow_10 (by decide) ?_
    refine lv_aload_n hx hb dX8_copyRow_11 rfl (lv_at hl 0 rfl) ?_
    refine z_alen hx hb B 19 (v := (12 : Int32)) rfl rfl (by decide) dX8_copyRow_12 ?_
    obtain ⟨hg, hf⟩ := zg_some hf
    obtain ⟨g1, g2, g3, g4, g5⟩ := zcp_ok hg
    refine z_copyi hx hb (hml.trans hl.1.symm) hts hown (index := 415) (by decide +kernel) (by decide +kernel) (by decide +kernel) (by decide +kernel) B 19 43 rfl rfl g1 g2 g3 g4 g5 (Nat.le_of_ble_eq_true rfl) (Nat.le_of_ble_eq_true rfl) dX8_copyRow_13 (fun H locs B => ?_)
    refine W.widen (k := 0) (n := 0) (Nat.le_of_ble_eq_true rfl) (Nat.le_of_ble_eq_true rfl) ?_
    exact z_vret hx hb hr hlocks B hf dX8_copyRow_16
theorem dX0_copyFrom_0 : decode cX0_copyFrom 0 = .ok (.aload_n 0, 1) := by decide +kernel
theorem dX0_copyFrom_1 : decode cX0_copyFrom 1 = .ok (.aload_n 1, 1) := by decide +kernel
theorem dX0_copyFrom_2 : decode cX0_copyFrom 2 = .ok (.getfield 27, 3) := by decide +kernel
theorem dX0_copyFrom_5 : decode cX0_copyFrom 5 = .ok (.putfield 27, 3) := by decide +kernel
theorem dX0_copyFrom_8 : decode cX0_copyFrom 8 = .ok (.aload_n 1, 1) := by decide +kernel
theorem dX0_copyFrom_9 : decode cX0_copyFrom 9 = .ok (.getfield 9, 3) := by decide +kernel
theorem dX0_copyFrom_12 : decode cX0_copyFrom 12 = .ok (.aload_n 0, 1) := by decide +kernel
theorem dX0_copyFrom_13 : decode cX0_copyFrom 13 = .ok (.getfield 9, 3) := by decide +kernel
theorem dX0_copyFrom_16 : decode cX0_copyFrom 16 = .ok (.invokestatic 31, 3) := by decide +kernel
theorem dX0_copyFrom_19 : decode cX0_copyFrom 19 = .ok (.aload_n 1, 1) := by decide +kernel
theorem dX0_copyFrom_20 : decode cX0_copyFrom 20 = .ok (.getfield 15, 3) := by decide +kernel
theorem dX0_copyFrom_23 : decode cX0_copyFrom 23 = .ok (.aload_n 0, 1) := by decide +kernel
theorem dX0_copyFrom_24 : decode cX0_copyFrom 24 = .ok (.getfield 15, 3) := by decide +kernel
theorem dX0_copyFrom_27 : decode cX0_copyFrom 27 = .ok (.invokestatic 31, 3) := by decide +kernel
theorem dX0_copyFrom_30 : decode cX0_copyFrom 30 = .ok (.aload_n 0, 1) := by decide +kernel
theorem dX0_copyFrom_31 : decode cX0_copyFrom 31 = .ok (.aload_n 1, 1) := by decide +kernel
theorem dX0_copyFrom_32 : decode cX0_copyFrom 32 = .ok (.getfield 35, 3) := by decide +kernel
theorem dX0_copyFrom_35 : decode cX0_copyFrom 35 = .ok (.putfield 35, 3) := by decide +kernel
theorem dX0_copyFrom_38 : decode cX0_copyFrom 38 = .ok (.aload_n 1, 1) := by decide +kernel
theorem dX0_copyFrom_39 : decode cX0_copyFrom 39 = .ok (.getfield 18, 3) := by decide +kernel
theorem dX0_copyFrom_42 : decode cX0_copyFrom 42 = .ok (.aload_n 0, 1) := by decide +kernel
theorem dX0_copyFrom_43 : decode cX0_copyFrom 43 = .ok (.getfield 18, 3) := by decide +kernel
theorem dX0_copyFrom_46 : decode cX0_copyFrom 46 = .ok (.invokestatic 31, 3) := by decide +kernel
theorem dX0_copyFrom_49 : decode cX0_copyFrom 49 = .ok (.aload_n 1, 1) := by decide +kernel
theorem dX0_copyFrom_50 : decode cX0_copyFrom 50 = .ok (.getfield 21, 3) := by decide +kernel
theorem dX0_copyFrom_53 : decode cX0_copyFrom 53 = .ok (.aload_n 0, 1) := by decide +kernel
theorem dX0_copyFrom_54 : decode cX0_copyFrom 54 = .ok (.getfield 21, 3) := by decide +kernel
theorem dX0_copyFrom_57 : decode cX0_copyFrom 57 = .ok (.invokestatic 31, 3) := by decide +kernel
theorem dX0_copyFrom_60 : decode cX0_copyFrom 60 = .ok (.aload_n 1, 1) := by decide +kernel
theorem dX0_copyFrom_61 : decode cX0_copyFrom 61 = .ok (.getfield 24, 3) := by decide +kernel
theorem dX0_copyFrom_64 : decode cX0_copyFrom 64 = .ok (.aload_n 0, 1) := by decide +kernel
theorem dX0_copyFrom_65 : decode cX0_copyFrom 65 = .ok (.getfield 24, 3) := by decide +kernel
theorem dX0_copyFrom_68 : decode cX0_copyFrom 68 = .ok (.invokestatic 31, 3) := by decide +kernel
theorem dX0_copyFrom_71 : decode cX0_copyFrom 71 = .ok (.return_, 1) := by decide +kernel
set_option maxRecDepth 20000 in
theorem ggX0_copyFrom_X8_copyRow : GoodIn wsX0_copyFrom wsX8_copyRow := goodIn_r _ [10, 11, 12, 13, 14] (by decide +kernel) (by decide +kernel)
set_option maxRecDepth 20000 in
theorem gX0_copyFrom_X8_copyRow_n31 : GoodIn wsX0_copyFrom (wsX8_copyRow) := ggX0_copyFrom_X8_copyRow
def rm_X0_copyFrom_t38_14 : Room := { frames := 2, cells := 0, slots := 0, locals := 221 }
set_option maxHeartbeats 4000000 in
set_option maxRecDepth 100000 in
theorem c_X0_copyFrom_t38_14 (l : Launch) {nb : Nat} {G : zG} {ad : Nat → Nat} {σ σ' : zs} {r : Int32} (hf : f_X0_copyFrom_t38_14 σ  = some (r, σ')) : zMv l yX0_copyFrom wsX0_copyFrom rm_X0_copyFrom_t38_14 G (zS nb) ad σ [.ref (ad 38), .ref (ad 14)] σ' := by
  intro sz
  refine Met.ofW (cc := cX0_copyFrom) (maxL := 2) (ret := none) (by decide) rfl ?_
  intro p e s m args below meth c s₁ B hml hv
  obtain ⟨rfl, hsz, hv⟩ := hv
  have hx := B.exec
  have hb := B.bytes
  have hr := B.returns
  have hts := atoms_spec (ws := wsX0_copyFrom) B.pre
  have hown : s.vm.findClass RX0 = some m.cls := findClass_of_methodNamed B.named
  have hlocks := B.notSynchronized
  subst hsz
  have B := zB_start hv
  have hinRX0 : ∀ w ∈ wsX00, w ∈ wsX0_copyFrom := by decide +kernel
  have hl := lv_entry ([.ref (ad 38), .ref (ad 14)]) (n := 2) (Nat.le_of_ble_eq_true rfl)
  rw [lg_entry_eq]
  generalize (lg_sl ([.ref (ad 38), .ref (ad 14)]) ++ List.replicate (2 - (lg_sl ([.ref (ad 38), .ref (ad 14)])).length) Slot.unset).toArray = ls at hl ⊢
  have hl : lv_has ls 2 [(0, .ref (ad 38)), (1, .ref (ad 14))] := hl
  generalize hAe : zA ad (zS nb).length s.heap.size = A at B ⊢
  unfold f_X0_copyFrom_t38_14 at hf
  refine lv_aload_n hx hb dX0_copyFrom_0 rfl (lv_at hl 0 rfl) ?_
  refine lv_aload_n hx hb dX0_copyFrom_1 rfl (lv_at hl 1 rfl) ?_
  refine z_geti hx hb hts hinRX0 hown B 14 0 rfl rfl rfl (by decide) (by decide +kernel) rfl dX0_copyFrom_2 ?_
  refine z_puti hx hb hts hinRX0 hown tyX0 tyX0_ok nmX0 B 38 0 rfl rfl rfl (by decide) (by decide +kernel) rfl rfl rfl rfl dX0_copyFrom_5 (fun H locs B => ?_)
  refine lv_aload_n hx hb dX0_copyFrom_8 rfl (lv_at hl 1 rfl) ?_
  refine z_getr hx hb hts hinRX0 hown B 14 1 15 rfl rfl rfl (by decide) (by decide +kernel) rfl dX0_copyFrom_9 ?_
  refine lv_aload_n hx hb dX0_copyFrom_12 rfl (lv_at hl 0 rfl) ?_
  refine z_getr hx hb hts hinRX0 hown B 38 1 39 rfl rfl rfl (by decide) (by decide +kernel) rfl dX0_copyFrom_13 ?_
  obtain ⟨r2, σ3, hu1, hf⟩ := zb_some hf
  refine z_v B (va_runSN (As := [.ref (ad 15), .ref (ad 39)]) (rest := []) ⟨hx, hb, hml, hown, hts⟩ (c_X8_copyRow_15_39 l hu1 _) ⟨va_cnB 2 hts gX0_copyFrom_X8_copyRow_n31 rfl rfl rfl (z_nest B (q := (RX0, 31, yX8_copyRow)) (by decide +kernel)) (hts (.initialized RX8) (by decide +kernel)) (by decide +kernel) ⟨Nat.le_of_ble_eq_true rfl, Nat.le_of_ble_eq_true rfl⟩, hts (.static yX8_copyRow) (by decide +kernel), trivial⟩ (z_preS B) rfl rfl hl.1 rfl (lv_room (Nat.le_of_ble_eq_true rfl)) dX0_copyFrom_16 ⟨Nat.le_of_ble_eq_true rfl, Nat.le_of_ble_eq_true rfl⟩) (fun H locs B => ?_)
  refine lv_aload_n hx hb dX0_copyFrom_19 rfl (lv_at hl 1 rfl) ?_
  refine z_getr hx hb hts hinRX0 hown B 14 2 16 rfl rfl rfl (by decide) (by decide +kernel) rfl dX0_copyFrom_20 ?_
  refine lv_aload_n hx hb dX0_copyFrom_23 rfl (lv_at hl 0 rfl) ?_
  refine z_getr hx hb hts hinRX0 hown B 38 2 40 rfl rfl rfl (by decide) (by decide +kernel) rfl dX0_copyFrom_24 ?_
  obtain ⟨r5, σ6, hu4, hf⟩ := zb_some hf
  refine z_v B (va_runSN (As := [.ref (ad 16), .ref (ad 40)]) (rest := []) ⟨hx, hb, hml, hown, hts⟩ (c_X8_copyRow_16_40 l hu4 _) ⟨va_cnB 2 hts gX0_copyFrom_X8_copyRow_n31 rfl rfl rfl (z_nest B (q := (RX0, 31, yX8_copyRow)) (by decide +kernel)) (hts (.initialized RX8) (by decide +kernel)) (by decide +kernel) ⟨Nat.le_of_ble_eq_true rfl, Nat.le_of_ble_eq_true rfl⟩, hts (.static yX8_copyRow) (by decide +kernel), trivial⟩ (z_preS B) rfl rfl hl.1 rfl (lv_room (Nat.le_of_ble_eq_true rfl)) dX0_copyFrom_27 ⟨Nat.le_of_ble_eq_true rfl, Nat.le_of_ble_eq_true rfl⟩) (fun H locs B => ?_)
  refine lv_aload_n hx hb dX0_copyFrom_30 rfl (lv_at hl 0 rfl) ?_
  refine lv_aload_n hx hb dX0_copyFrom_31 rfl (lv_at hl 1 rfl) ?_
  refine z_geti hx hb hts hinRX0 hown B 14 3 rfl rfl rfl (by decide) (by decide +kernel) rfl dX0_copyFrom_32 ?_
  refine z_puti hx hb hts hinRX0 hown tyX0 tyX0_ok nmX0 B 38 3 rfl rfl rfl (by decide) (by decide +kernel) rfl rfl rfl rfl dX0_copyFrom_35 (fun H locs B => ?_)
  refine lv_aload_n hx hb dX0_copyFrom_38 rfl (lv_at hl 1 rfl) ?_
  refine z_getr hx hb hts hinRX0 hown B 14 4 17 rfl rfl rfl (by decide) (by decide +kernel) rfl dX0_copyFrom_39 ?_
  refine lv_aload_n hx hb dX0_copyFrom_42 rfl (lv_at hl 0 rfl) ?_
  refine z_getr hx hb hts hinRX0 hown B 38 4 41 rfl rfl rfl (by decide) (by decide +kernel) rfl dX0_copyFrom_43 ?_
  obtain ⟨r8, σ9, hu7, hf⟩ := zb_some hf
  refine z_v B (va_runSN (As := [.ref (ad 17), .ref (ad 41)]) (rest := []) ⟨hx, hb, hml, hown, hts⟩ (c_X8_copyRow_17_41 l hu7 _) ⟨va_cnB 2 hts gX0_copyFrom_X8_copyRow_n31 rfl rfl rfl (z_nest B (q := (RX0, 31, yX8_copyRow)) (by decide +kernel)) (hts (.initialized RX8) (by decide +kernel)) (by decide +kernel) ⟨Nat.le_of_ble_eq_true rfl, Nat.le_of_ble_eq_true rfl⟩, hts (.static yX8_copyRow) (by decide +kernel), trivial⟩ (z_preS B) rfl rfl hl.1 rfl (lv_room (Nat.le_of_ble_eq_true rfl)) dX0_copyFrom_46 ⟨Nat.le_of_ble_eq_true rfl, Nat.le_of_ble_eq_true rfl⟩) (fun H locs B => ?_)
  refine lv_aload_n hx hb dX0_copyFrom_49 rfl (lv_at hl 1 rfl) ?_
  refine z_getr hx hb hts hinRX0 hown B 14 5 18 rfl rfl rfl (by decide) (by decide +kernel) rfl dX0_copyFrom_50 ?_
  refine lv_aload_n hx hb dX0_copyFrom_53 rfl (lv_at hl 0 rfl) ?_
  refine z_getr hx hb hts hinRX0 hown B 38 5 42 rfl rfl rfl (by decide) (by decide +kernel) rfl dX0_copyFrom_54 ?_
  obtain ⟨r11, σ12, hu10, hf⟩ := zb_some hf
  refine z_v B (va_runSN (As := [.ref (ad 18), .ref (ad 42)]) (rest := []) ⟨hx, hb, hml, hown, hts⟩ (c_X8_copyRow_18_42 l hu10 _) ⟨va_cnB 2 hts gX0_copyFrom_X8_copyRow_n31 rfl rfl rfl (z_nest B (q := (RX0, 31, yX8_copyRow)) (by decide +kernel)) (hts (.initialized RX8) (by decide +kernel)) (by decide +kernel) ⟨Nat.le_of_ble_eq_true rfl, Nat.le_of_ble_eq_true rfl⟩, hts (.static yX8_copyRow) (by decide +kernel), trivial⟩ (z_preS B) rfl rfl hl.1 rfl (lv_room (Nat.le_of_ble_eq_true rfl)) dX0_copyFrom_57 ⟨Nat.le_of_ble_eq_true rfl, Nat.le_of_ble_eq_true rfl⟩) (fun H locs B => ?_)
  refine lv_aload_n hx hb dX0_copyFrom_60 rfl (lv_at hl 1 rfl) ?_
  refine z_getr hx hb hts hinRX0 hown B 14 6 19 rfl rfl rfl (by decide) (by decide +kernel) rfl dX0_copyFrom_61 ?_
  refine lv_aload_n hx hb dX0_copyFrom_64 rfl (lv_at hl 0 rfl) ?_
  refine z_getr hx hb hts hinRX0 hown B 38 6 43 rfl rfl rfl (by decide) (by decide +kernel) rfl dX0_copyFrom_65 ?_
  obtain ⟨r14, σ15, hu13, hf⟩ := zb_some hf
  refine z_v B (va_runSN (As := [.ref (ad 19), .ref (ad 43)]) (rest := []) ⟨hx, hb, hml, hown, hts⟩ (c_X8_copyRow_19_43 l hu13 _) ⟨va_cnB 2 hts gX0_copyFrom_X8_copyRow_n31 rfl rfl rfl (z_nest B (q := (RX0, 31, yX8_copyRow)) (by decide +kernel)) (hts (.initialized RX8) (by decide +kernel)) (by decide +kernel) ⟨Nat.le_of_ble_eq_true rfl, Nat.le_of_ble_eq_true rfl⟩, hts (.static yX8_copyRow) (by decide +kernel), trivial⟩ (z_preS B) rfl rfl hl.1 rfl (lv_room (Nat.le_of_ble_eq_true rfl)) dX0_copyFrom_68 ⟨Nat.le_of_ble_eq_true rfl, Nat.le_of_ble_eq_true rfl⟩) (fun H locs B => ?_)
  refine W.widen (k := 0) (n := 0) (Nat.le_of_ble_eq_true rfl) (Nat.le_of_ble_eq_true rfl) ?_
  exact z_vret hx hb hr hlocks B hf dX0_copyFrom_71
theorem dX8_copyRow_0 : decode cX8_copyRow 0 = .ok (.aload_n 0, 1) := by decide +kernel
theorem dX8_copyRow_1 : decode cX8_copyRow 1 = .ok (.arraylength, 1) := by decide +kernel
theorem dX8_copyRow_2 : decode cX8_copyRow 2 = .ok (.aload_n 1, 1) := by decide +kernel
theorem dX8_copyRow_3 : decode cX8_copyRow 3 = .ok (.arraylength, 1) := by decide +kernel
theorem dX8_copyRow_4 : decode cX8_copyRow 4 = .ok (.if_icmp .ne 12, 3) := by decide +kernel
theorem dX8_copyRow_7 : decode cX8_copyRow 7 = .ok (.aload_n 0, 1) := by decide +kernel
theorem dX8_copyRow_8 : decode cX8_copyRow 8 = .ok (.iconst 0, 1) := by decide +kernel
theorem dX8_copyRow_9 : decode cX8_copyRow 9 = .ok (.aload_n 1, 1) := by decide +kernel
theorem dX8_copyRow_10 : decode cX8_copyRow 10 = .ok (.iconst 0, 1) := by decide +kernel
theorem dX8_copyRow_11 : decode cX8_copyRow 11 = .ok (.aload_n 0, 1) := by decide +kernel
theorem dX8_copyRow_12 : decode cX8_copyRow 12 = .ok (.arraylength, 1) := by decide +kernel
theorem dX8_copyRow_13 : decode cX8_copyRow 13 = .ok (.invokestatic 415, 3) := by decide +kernel
theorem dX8_copyRow_16 : decode cX8_copyRow 16 = .ok (.return_, 1) := by decide +kernel
def rm_X8_copyRow_21_45 : Room := { frames := 1, cells := 0, slots := 0, locals := 200 }
set_option maxHeartbeats 4000000 in
set_option maxRecDepth 100000 in
theorem c_X8_copyRow_21_45 (l : Launch) {nb : Nat} {G : zG} {ad : Nat → Nat} {σ σ' : zs} {r : Int32} (hf : f_X8_copyRow_21_45 σ  = some (r, σ')) : zMv l yX8_copyRow wsX8_copyRow rm_X8_copyRow_21_45 G (zS nb) ad σ [.ref (ad 21), .ref (ad 45)] σ' := by
  intro sz
  refine Met.ofW (cc := cX8_copyRow) (maxL := 2) (ret := none) (by decide) rfl ?_
  intro p e s m args below meth c s₁ B hml hv
  obtain ⟨rfl, hsz, hv⟩ := hv
  have hx := B.exec
  have hb := B.bytes
  have hr := B.returns
  have hts := atoms_spec (ws := wsX8_copyRow) B.pre
  have hown : s.vm.findClass RX8 = some m.cls := findClass_of_methodNamed B.named
  have hlocks := B.notSynchronized
  subst hsz
  have B := zB_start hv
  have hl := lv_entry ([.ref (ad 21), .ref (ad 45)]) (n := 2) (Nat.le_of_ble_eq_true rfl)
  rw [lg_entry_eq]
  generalize (lg_sl ([.ref (ad 21), .ref (ad 45)]) ++ List.replicate (2 - (lg_sl ([.ref (ad 21), .ref (ad 45)])).length) Slot.unset).toArray = ls at hl ⊢
  have hl : lv_has ls 2 [(0, .ref (ad 21)), (1, .ref (ad 45))] := hl
  generalize hAe : zA ad (zS nb).length s.heap.size = A at B ⊢
  unfold f_X8_copyRow_21_45 at hf
  refine lv_aload_n hx hb dX8_copyRow_0 rfl (lv_at hl 0 rfl) ?_
  refine z_alen hx hb B 21 (v := (20 : Int32)) rfl rfl (by decide) dX8_copyRow_1 ?_
  refine lv_aload_n hx hb dX8_copyRow_2 rfl (lv_at hl 1 rfl) ?_
  refine z_alen hx hb B 45 (v := (20 : Int32)) rfl rfl (by decide) dX8_copyRow_3 ?_
  refine lv_icmp_ne (tgt := 16) hx hb dX8_copyRow_4 (by decide) (fun hc => ?_) (fun hc => ?_)
  · have hf := zif_f hc hf
    refine W.widen (k := 0) (n := 0) (Nat.le_of_ble_eq_true rfl) (Nat.le_of_ble_eq_true rfl) ?_
    exact z_vret hx hb hr hlocks B hf dX8_copyRow_16
  · have hf := zif_t hc hf
    refine lv_aload_n hx hb dX8_copyRow_7 rfl (lv_at hl 0 rfl) ?_
    refine lv_iconst (v := (0 : Int32)) hx hb dX8_copyRow_8 (by decide) ?_
    refine lv_aload_n hx hb dX8_copyRow_9 rfl (lv_at hl 1 rfl) ?_
    refine lv_iconst (v := (0 : Int32)) hx hb dX8_copyRow_10 (by decide) ?_
    refine lv_aload_n hx hb dX8_copyRow_11 rfl (lv_at hl 0 rfl) ?_
    refine z_alen hx hb B 21 (v := (20 : Int32)) rfl rfl (by decide) dX8_copyRow_12 ?_
    obtain ⟨hg, hf⟩ := zg_some hf
    obtain ⟨g1, g2, g3, g4, g5⟩ := zcp_ok hg
    refine z_copyi hx hb (hml.trans hl.1.symm) hts hown (index := 415) (by decide +kernel) (by decide +kernel) (by decide +kernel) (by decide +kernel) B 21 45 rfl rfl g1 g2 g3 g4 g5 (Nat.le_of_ble_eq_true rfl) (Nat.le_of_ble_eq_true rfl) dX8_copyRow_13 (fun H locs B => ?_)
    refine W.widen (k := 0) (n := 0) (Nat.le_of_ble_eq_true rfl) (Nat.le_of_ble_eq_true rfl) ?_
    exact z_vret hx hb hr hlocks B hf dX8_copyRow_16
theorem dX2_copyFrom_0 : decode cX2_copyFrom 0 = .ok (.aload_n 1, 1) := by decide +kernel
theorem dX2_copyFrom_1 : decode cX2_copyFrom 1 = .ok (.getfield 9, 3) := by decide +kernel
theorem dX2_copyFrom_4 : decode cX2_copyFrom 4 = .ok (.aload_n 0, 1) := by decide +kernel
theorem dX2_copyFrom_5 : decode cX2_copyFrom 5 = .ok (.getfield 9, 3) := by decide +kernel
theorem dX2_copyFrom_8 : decode cX2_copyFrom 8 = .ok (.invokestatic 15, 3) := by decide +kernel
theorem dX2_copyFrom_11 : decode cX2_copyFrom 11 = .ok (.aload_n 0, 1) := by decide +kernel
theorem dX2_copyFrom_12 : decode cX2_copyFrom 12 = .ok (.aload_n 1, 1) := by decide +kernel
theorem dX2_copyFrom_13 : decode cX2_copyFrom 13 = .ok (.getfield 19, 3) := by decide +kernel
theorem dX2_copyFrom_16 : decode cX2_copyFrom 16 = .ok (.putfield 19, 3) := by decide +kernel
theorem dX2_copyFrom_19 : decode cX2_copyFrom 19 = .ok (.aload_n 0, 1) := by decide +kernel
theorem dX2_copyFrom_20 : decode cX2_copyFrom 20 = .ok (.aload_n 1, 1) := by decide +kernel
theorem dX2_copyFrom_21 : decode cX2_copyFrom 21 = .ok (.getfield 23, 3) := by decide +kernel
theorem dX2_copyFrom_24 : decode cX2_copyFrom 24 = .ok (.putfield 23, 3) := by decide +kernel
theorem dX2_copyFrom_27 : decode cX2_copyFrom 27 = .ok (.aload_n 0, 1) := by decide +kernel
theorem dX2_copyFrom_28 : decode cX2_copyFrom 28 = .ok (.aload_n 1, 1) := by decide +kernel
theorem dX2_copyFrom_29 : decode cX2_copyFrom 29 = .ok (.getfield 26, 3) := by decide +kernel
theorem dX2_copyFrom_32 : decode cX2_copyFrom 32 = .ok (.putfield 26, 3) := by decide +kernel
theorem dX2_copyFrom_35 : decode cX2_copyFrom 35 = .ok (.return_, 1) := by decide +kernel
set_option maxRecDepth 20000 in
theorem ggX2_copyFrom_X8_copyRow : GoodIn wsX2_copyFrom wsX8_copyRow := goodIn_r _ [7, 8, 9, 10, 11] (by decide +kernel) (by decide +kernel)
set_option maxRecDepth 20000 in
theorem gX2_copyFrom_X8_copyRow_n15 : GoodIn wsX2_copyFrom (wsX8_copyRow) := ggX2_copyFrom_X8_copyRow
def rm_X2_copyFrom_t44_20 : Room := { frames := 2, cells := 0, slots := 0, locals := 221 }
set_option maxHeartbeats 4000000 in
set_option maxRecDepth 100000 in
theorem c_X2_copyFrom_t44_20 (l : Launch) {nb : Nat} {G : zG} {ad : Nat → Nat} {σ σ' : zs} {r : Int32} (hf : f_X2_copyFrom_t44_20 σ  = some (r, σ')) : zMv l yX2_copyFrom wsX2_copyFrom rm_X2_copyFrom_t44_20 G (zS nb) ad σ [.ref (ad 44), .ref (ad 20)] σ' := by
  intro sz
  refine Met.ofW (cc := cX2_copyFrom) (maxL := 2) (ret := none) (by decide) rfl ?_
  intro p e s m args below meth c s₁ B hml hv
  obtain ⟨rfl, hsz, hv⟩ := hv
  have hx := B.exec
  have hb := B.bytes
  have hr := B.returns
  have hts := atoms_spec (ws := wsX2_copyFrom) B.pre
  have hown : s.vm.findClass RX2 = some m.cls := findClass_of_methodNamed B.named
  have hlocks := B.notSynchronized
  subst hsz
  have B := zB_start hv
  have hinRX2 : ∀ w ∈ wsX20, w ∈ wsX2_copyFrom := by decide +kernel
  have hl := lv_entry ([.ref (ad 44), .ref (ad 20)]) (n := 2) (Nat.le_of_ble_eq_true rfl)
  rw [lg_entry_eq]
  generalize (lg_sl ([.ref (ad 44), .ref (ad 20)]) ++ List.replicate (2 - (lg_sl ([.ref (ad 44), .ref (ad 20)])).length) Slot.unset).toArray = ls at hl ⊢
  have hl : lv_has ls 2 [(0, .ref (ad 44)), (1, .ref (ad 20))] := hl
  generalize hAe : zA ad (zS nb).length s.heap.size = A at B ⊢
  unfold f_X2_copyFrom_t44_20 at hf
  refine lv_aload_n hx hb dX2_copyFrom_0 rfl (lv_at hl 1 rfl) ?_
  refine z_getr hx hb hts hinRX2 hown B 20 0 21 rfl rfl rfl (by decide) (by decide +kernel) rfl dX2_copyFrom_1 ?_
  refine lv_aload_n hx hb dX2_copyFrom_4 rfl (lv_at hl 0 rfl) ?_
  refine z_getr hx hb hts hinRX2 hown B 44 0 45 rfl rfl rfl (by decide) (by decide +kernel) rfl dX2_copyFrom_5 ?_
  obtain ⟨r2, σ3, hu1, hf⟩ := zb_some hf
  refine z_v B (va_runSN (As := [.ref (ad 21), .ref (ad 45)]) (rest := []) ⟨hx, hb, hml, hown, hts⟩ (c_X8_copyRow_21_45 l hu1 _) ⟨va_cnB 2 hts gX2_copyFrom_X8_copyRow_n15 rfl rfl rfl (z_nest B (q := (RX2, 15, yX8_copyRow)) (by decide +kernel)) (hts (.initialized RX8) (by decide +kernel)) (by decide +kernel) ⟨Nat.le_of_ble_eq_true rfl, Nat.le_of_ble_eq_true rfl⟩, hts (.static yX8_copyRow) (by decide +kernel), trivial⟩ (z_preS B) rfl rfl hl.1 rfl (lv_room (Nat.le_of_ble_eq_true rfl)) dX2_copyFrom_8 ⟨Nat.le_of_ble_eq_true rfl, Nat.le_of_ble_eq_true rfl⟩) (fun H locs B => ?_)
  refine lv_aload_n hx hb dX2_copyFrom_11 rfl (lv_at hl 0 rfl) ?_
  refine lv_aload_n hx hb dX2_copyFrom_12 rfl (lv_at hl 1 rfl) ?_
  refine z_geti hx hb hts hinRX2 hown B 20 1 rfl rfl rfl (by decide) (by decide +kernel) rfl dX2_copyFrom_13 ?_
  refine z_puti hx hb hts hinRX2 hown tyX2 tyX2_ok nmX2 B 44 1 rfl rfl rfl (by decide) (by decide +kernel) rfl rfl rfl rfl dX2_copyFrom_16 (fun H locs B => ?_)
  refine lv_aload_n hx hb dX2_copyFrom_19 rfl (lv_at hl 0 rfl) ?_
  refine lv_aload_n hx hb dX2_copyFrom_20 rfl (lv_at hl 1 rfl) ?_
  refine z_geti hx hb hts hinRX2 hown B 20 2 rfl rfl rfl (by decide) (by decide +kernel) rfl dX2_copyFrom_21 ?_
  refine z_puti hx hb hts hinRX2 hown tyX2 tyX2_ok nmX2 B 44 2 rfl rfl rfl (by decide) (by decide +kernel) rfl rfl rfl rfl dX2_copyFrom_24 (fun H locs B => ?_)
  refine lv_aload_n hx hb dX2_copyFrom_27 rfl (lv_at hl 0 rfl) ?_
  refine lv_aload_n hx hb dX2_copyFrom_28 rfl (lv_at hl 1 rfl) ?_
  refine z_geti hx hb hts hinRX2 hown B 20 3 rfl rfl rfl (by decide) (by decide +kernel) rfl dX2_copyFrom_29 ?_
  refine z_puti hx hb hts hinRX2 hown tyX2 tyX2_ok nmX2 B 44 3 rfl rfl rfl (by decide) (by decide +kernel) rfl rfl rfl rfl dX2_copyFrom_32 (fun H locs B => ?_)
  refine W.widen (k := 0) (n := 0) (Nat.le_of_ble_eq_true rfl) (Nat.le_of_ble_eq_true rfl) ?_
  exact z_vret hx hb hr hlocks B hf dX2_copyFrom_35
theorem dX8_copyRow_0 : decode cX8_copyRow 0 = .ok (.aload_n 0, 1) := by decide +kernel
theorem dX8_copyRow_1 : decode cX8_copyRow 1 = .ok (.arraylength, 1) := by decide +kernel
theorem dX8_copyRow_2 : decode cX8_copyRow 2 = .ok (.aload_n 1, 1) := by decide +kernel
theorem dX8_copyRow_3 : decode cX8_copyRow 3 = .ok (.arraylength, 1) := by decide +kernel
theorem dX8_copyRow_4 : decode cX8_copyRow 4 = .ok (.if_icmp .ne 12, 3) := by decide +kernel
theorem dX8_copyRow_7 : decode cX8_copyRow 7 = .ok (.aload_n 0, 1) := by decide +kernel
theorem dX8_copyRow_8 : decode cX8_copyRow 8 = .ok (.iconst 0, 1) := by decide +kernel
theorem dX8_copyRow_9 : decode cX8_copyRow 9 = .ok (.aload_n 1, 1) := by decide +kernel
theorem dX8_copyRow_10 : decode cX8_copyRow 10 = .ok (.iconst 0, 1) := by decide +kernel
theorem dX8_copyRow_11 : decode cX8_copyRow 11 = .ok (.aload_n 0, 1) := by decide +kernel
theorem dX8_copyRow_12 : decode cX8_copyRow 12 = .ok (.arraylength, 1) := by decide +kernel
theorem dX8_copyRow_13 : decode cX8_copyRow 13 = .ok (.invokestatic 415, 3) := by decide +kernel
theorem dX8_copyRow_16 : decode cX8_copyRow 16 = .ok (.return_, 1) := by decide +kernel
def rm_X8_copyRow_22_46 : Room := { frames := 1, cells := 0, slots := 0, locals := 200 }
set_option maxHeartbeats 4000000 in
set_option maxRecDepth 100000 in
theorem c_X8_copyRow_22_46 (l : Launch) {nb : Nat} {G : zG} {ad : Nat → Nat} {σ σ' : zs} {r : Int32} (hf : f_X8_copyRow_22_46 σ  = some (r, σ')) : zMv l yX8_copyRow wsX8_copyRow rm_X8_copyRow_22_46 G (zS nb) ad σ [.ref (ad 22), .ref (ad 46)] σ' := by
  intro sz
  refine Met.ofW (cc := cX8_copyRow) (maxL := 2) (ret := none) (by decide) rfl ?_
  intro p e s m args below meth c s₁ B hml hv
  obtain ⟨rfl, hsz, hv⟩ := hv
  have hx := B.exec
  have hb := B.bytes
  have hr := B.returns
  have hts := atoms_spec (ws := wsX8_copyRow) B.pre
  have hown : s.vm.findClass RX8 = some m.cls := findClass_of_methodNamed B.named
  have hlocks := B.notSynchronized
  subst hsz
  have B := zB_start hv
  have hl := lv_entry ([.ref (ad 22), .ref (ad 46)]) (n := 2) (Nat.le_of_ble_eq_true rfl)
  rw [lg_entry_eq]
  generalize (lg_sl ([.ref (ad 22), .ref (ad 46)]) ++ List.replicate (2 - (lg_sl ([.ref (ad 22), .ref (ad 46)])).length) Slot.unset).toArray = ls at hl ⊢
  have hl : lv_has ls 2 [(0, .ref (ad 22)), (1, .ref (ad 46))] := hl
  generalize hAe : zA ad (zS nb).length s.heap.size = A at B ⊢
  unfold f_X8_copyRow_22_46 at hf
  refine lv_aload_n hx hb dX8_copyRow_0 rfl (lv_at hl 0 rfl) ?_
  refine z_alen hx hb B 22 (v := (12 : Int32)) rfl rfl (by decide) dX8_copyRow_1 ?_
  refine lv_aload_n hx hb dX8_copyRow_2 rfl (lv_at hl 1 rfl) ?_
  refine z_alen hx hb B 46 (v := (12 : Int32)) rfl rfl (by decide) dX8_copyRow_3 ?_
  refine lv_icmp_ne (tgt := 16) hx hb dX8_copyRow_4 (by decide) (fun hc => ?_) (fun hc => ?_)
  · have hf := zif_f hc hf
    refine W.widen (k := 0) (n := 0) (Nat.le_of_ble_eq_true rfl) (Nat.le_of_ble_eq_true rfl) ?_
    exact z_vret hx hb hr hlocks B hf dX8_copyRow_16
  · have hf := zif_t hc hf
    refine lv_aload_n hx hb dX8_copyRow_7 rfl (lv_at hl 0 rfl) ?_
    refine lv_iconst (v := (0 : Int32)) hx hb dX8_copyRow_8 (by decide) ?_
    refine lv_aload_n hx hb dX8_copyRow_9 rfl (lv_at hl 1 rfl) ?_
    refine lv_iconst (v := (0 : Int32)) hx hb dX8_copyRow_10 (by decide) ?_
    refine lv_aload_n hx hb dX8_copyRow_11 rfl (lv_at hl 0 rfl) ?_
    refine z_alen hx hb B 22 (v := (12 : Int32)) rfl rfl (by decide) dX8_copyRow_12 ?_
    obtain ⟨hg, hf⟩ := zg_some hf
    obtain ⟨g1, g2, g3, g4, g5⟩ := zcp_ok hg
    refine z_copyi hx hb (hml.trans hl.1.symm) hts hown (index := 415) (by decide +kernel) (by decide +kernel) (by decide +kernel) (by decide +kernel) B 22 46 rfl rfl g1 g2 g3 g4 g5 (Nat.le_of_ble_eq_true rfl) (Nat.le_of_ble_eq_true rfl) dX8_copyRow_13 (fun H locs B => ?_)
    refine W.widen (k := 0) (n := 0) (Nat.le_of_ble_eq_true rfl) (Nat.le_of_ble_eq_true rfl) ?_
    exact z_vret hx hb hr hlocks B hf dX8_copyRow_16
theorem dX8_copyRow_0 : decode cX8_copyRow 0 = .ok (.aload_n 0, 1) := by decide +kernel
theorem dX8_copyRow_1 : decode cX8_copyRow 1 = .ok (.arraylength, 1) := by decide +kernel
theorem dX8_copyRow_2 : decode cX8_copyRow 2 = .ok (.aload_n 1, 1) := by decide +kernel
theorem dX8_copyRow_3 : decode cX8_copyRow 3 = .ok (.arraylength, 1) := by decide +kernel
theorem dX8_copyRow_4 : decode cX8_copyRow 4 = .ok (.if_icmp .ne 12, 3) := by decide +kernel
theorem dX8_copyRow_7 : decode cX8_copyRow 7 = .ok (.aload_n 0, 1) := by decide +kernel
theorem dX8_copyRow_8 : decode cX8_copyRow 8 = .ok (.iconst 0, 1) := by decide +kernel
theorem dX8_copyRow_9 : decode cX8_copyRow 9 = .ok (.aload_n 1, 1) := by decide +kernel
theorem dX8_copyRow_10 : decode cX8_copyRow 10 = .ok (.iconst 0, 1) := by decide +kernel
theorem dX8_copyRow_11 : decode cX8_copyRow 11 = .ok (.aload_n 0, 1) := by decide +kernel
theorem dX8_copyRow_12 : decode cX8_copyRow 12 = .ok (.arraylength, 1) := by decide +kernel
theorem dX8_copyRow_13 : decode cX8_copyRow 13 = .ok (.invokestatic 415, 3) := by decide +kernel
theorem dX8_copyRow_16 : decode cX8_copyRow 16 = .ok (.return_, 1) := by decide +kernel
def rm_X8_copyRow_23_47 : Room := { frames := 1, cells := 0, slots := 0, locals := 200 }
set_option maxHeartbeats 4000000 in
set_option maxRecDepth 100000 in
theorem c_X8_copyRow_23_47 (l : Launch) {nb : Nat} {G : zG} {ad : Nat → Nat} {σ σ' : zs} {r : Int32} (hf : f_X8_copyRow_23_47 σ  = some (r, σ')) : zMv l yX8_copyRow wsX8_copyRow rm_X8_copyRow_23_47 G (zS nb) ad σ [.ref (ad 23), .ref (ad 47)] σ' := by
  intro sz
  refine Met.ofW (cc := cX8_copyRow) (maxL := 2) (ret := none) (by decide) rfl ?_
  intro p e s m args below meth c s₁ B hml hv
  obtain ⟨rfl, hsz, hv⟩ := hv
  have hx := B.exec
  have hb := B.bytes
  have hr := B.returns
  have hts := atoms_spec (ws := wsX8_copyRow) B.pre
  have hown : s.vm.findClass RX8 = some m.cls := findClass_of_methodNamed B.named
  have hlocks := B.notSynchronized
  subst hsz
  have B := zB_start hv
  have hl := lv_entry ([.ref (ad 23), .ref (ad 47)]) (n := 2) (Nat.le_of_ble_eq_true rfl)
  rw [lg_entry_eq]
  generalize (lg_sl ([.ref (ad 23), .ref (ad 47)]) ++ List.replicate (2 - (lg_sl ([.ref (ad 23), .ref (ad 47)])).length) Slot.unset).toArray = ls at hl ⊢
  have hl : lv_has ls 2 [(0, .ref (ad 23)), (1, .ref (ad 47))] := hl
  generalize hAe : zA ad (zS nb).length s.heap.size = A at B ⊢
  unfold f_X8_copyRow_23_47 at hf
  refine lv_aload_n hx hb dX8_copyRow_0 rfl (lv_at hl 0 rfl) ?_
  refine z_alen hx hb B 23 (v := (12 : Int32)) rfl rfl (by decide) dX8_copyRow_1 ?_
  refine lv_aload_n hx hb dX8_copyRow_2 rfl (lv_at hl 1 rfl) ?_
  refine z_alen hx hb B 47 (v := (12 : Int32)) rfl rfl (by decide) dX8_copyRow_3 ?_
  refine lv_icmp_ne (tgt := 16) hx hb dX8_copyRow_4 (by decide) (fun hc => ?_) (fun hc => ?_)
  · have hf := zif_f hc hf
    refine W.widen (k := 0) (n := 0) (Nat.le_of_ble_eq_true rfl) (Nat.le_of_ble_eq_true rfl) ?_
    exact z_vret hx hb hr hlocks B hf dX8_copyRow_16
  · have hf := zif_t hc hf
    refine lv_aload_n hx hb dX8_copyRow_7 rfl (lv_at hl 0 rfl) ?_
    refine lv_iconst (v := (0 : Int32)) hx hb dX8_copyRow_8 (by decide) ?_
    refine lv_aload_n hx hb dX8_copyRow_9 rfl (lv_at hl 1 rfl) ?_
    refine lv_iconst (v := (0 : Int32)) hx hb dX8_copyRow_10 (by decide) ?_
    refine lv_aload_n hx hb dX8_copyRow_11 rfl (lv_at hl 0 rfl) ?_
    refine z_alen hx hb B 23 (v := (12 : Int32)) rfl rfl (by decide) dX8_copyRow_12 ?_
    obtain ⟨hg, hf⟩ := zg_some hf
    obtain ⟨g1, g2, g3, g4, g5⟩ := zcp_ok hg
    refine z_copyi hx hb (hml.trans hl.1.symm) hts hown (index := 415) (by decide +kernel) (by decide +kernel) (by decide +kernel) (by decide +kernel) B 23 47 rfl rfl g1 g2 g3 g4 g5 (Nat.le_of_ble_eq_true rfl) (Nat.le_of_ble_eq_true rfl) dX8_copyRow_13 (fun H locs B => ?_)
    refine W.widen (k := 0) (n := 0) (Nat.le_of_ble_eq_true rfl) (Nat.le_of_ble_eq_true rfl) ?_
    exact z_vret hx hb hr hlocks B hf dX8_copyRow_16
theorem dX8_copyRow_0 : decode cX8_copyRow 0 = .ok (.aload_n 0, 1) := by decide +kernel
theorem dX8_copyRow_1 : decode cX8_copyRow 1 = .ok (.arraylength, 1) := by decide +kernel
theorem dX8_copyRow_2 : decode cX8_copyRow 2 = .ok (.aload_n 1, 1) := by decide +kernel
theorem dX8_copyRow_3 : decode cX8_copyRow 3 = .ok (.arraylength, 1) := by decide +kernel
theorem dX8_copyRow_4 : decode cX8_copyRow 4 = .ok (.if_icmp .ne 12, 3) := by decide +kernel
theorem dX8_copyRow_7 : decode cX8_copyRow 7 = .ok (.aload_n 0, 1) := by decide +kernel
theorem dX8_copyRow_8 : decode cX8_copyRow 8 = .ok (.iconst 0, 1) := by decide +kernel
theorem dX8_copyRow_9 : decode cX8_copyRow 9 = .ok (.aload_n 1, 1) := by decide +kernel
theorem dX8_copyRow_10 : decode cX8_copyRow 10 = .ok (.iconst 0, 1) := by decide +kernel
theorem dX8_copyRow_11 : decode cX8_copyRow 11 = .ok (.aload_n 0, 1) := by decide +kernel
theorem dX8_copyRow_12 : decode cX8_copyRow 12 = .ok (.arraylength, 1) := by decide +kernel
theorem dX8_copyRow_13 : decode cX8_copyRow 13 = .ok (.invokestatic 415, 3) := by decide +kernel
theorem dX8_copyRow_16 : decode cX8_copyRow 16 = .ok (.return_, 1) := by decide +kernel
def rm_X8_copyRow_24_48 : Room := { frames := 1, cells := 0, slots := 0, locals := 200 }
set_option maxHeartbeats 4000000 in
set_option maxRecDepth 100000 in
theorem c_X8_copyRow_24_48 (l : Launch) {nb : Nat} {G : zG} {ad : Nat → Nat} {σ σ' : zs} {r : Int32} (hf : f_X8_copyRow_24_48 σ  = some (r, σ')) : zMv l yX8_copyRow wsX8_copyRow rm_X8_copyRow_24_48 G (zS nb) ad σ [.ref (ad 24), .ref (ad 48)] σ' := by
  intro sz
  refine Met.ofW (cc := cX8_copyRow) (maxL := 2) (ret := none) (by decide) rfl ?_
  intro p e s m args below meth c s₁ B hml hv
  obtain ⟨rfl, hsz, hv⟩ := hv
  have hx := B.exec
  have hb := B.bytes
  have hr := B.returns
  have hts := atoms_spec (ws := wsX8_copyRow) B.pre
  have hown : s.vm.findClass RX8 = some m.cls := findClass_of_methodNamed B.named
  have hlocks := B.notSynchronized
  subst hsz
  have B := zB_start hv
  have hl := lv_entry ([.ref (ad 24), .ref (ad 48)]) (n := 2) (Nat.le_of_ble_eq_true rfl)
  rw [lg_entry_eq]
  generalize (lg_sl ([.ref (ad 24), .ref (ad 48)]) ++ List.replicate (2 - (lg_sl ([.ref (ad 24), .ref (ad 48)])).length) Slot.unset).toArray = ls at hl ⊢
  have hl : lv_has ls 2 [(0, .ref (ad 24)), (1, .ref (ad 48))] := hl
  generalize hAe : zA ad (zS nb).length s.heap.size = A at B ⊢
  unfold f_X8_copyRow_24_48 at hf
  refine lv_aload_n hx hb dX8_copyRow_0 rfl (lv_at hl 0 rfl) ?_
  refine z_alen hx hb B 24 (v := (28 : Int32)) rfl rfl (by decide) dX8_copyRow_1 ?_
  refine lv_aload_n hx hb dX8_copyRow_2 rfl (lv_at hl 1 rfl) ?_
  refine z_alen hx hb B 48 (v := (28 : Int32)) rfl rfl (by decide) dX8_copyRow_3 ?_
  refine lv_icmp_ne (tgt := 16) hx hb dX8_copyRow_4 (by decide) (fun hc => ?_) (fun hc => ?_)
  · have hf := zif_f hc hf
    refine W.widen (k := 0) (n := 0) (Nat.le_of_ble_eq_true rfl) (Nat.le_of_ble_eq_true rfl) ?_
    exact z_vret hx hb hr hlocks B hf dX8_copyRow_16
  · have hf := zif_t hc hf
    refine lv_aload_n hx hb dX8_copyRow_7 rfl (lv_at hl 0 rfl) ?_
    refine lv_iconst (v := (0 : Int32)) hx hb dX8_copyRow_8 (by decide) ?_
    refine lv_aload_n hx hb dX8_copyRow_9 rfl (lv_at hl 1 rfl) ?_
    refine lv_iconst (v := (0 : Int32)) hx hb dX8_copyRow_10 (by decide) ?_
    refine lv_aload_n hx hb dX8_copyRow_11 rfl (lv_at hl 0 rfl) ?_
    refine z_alen hx hb B 24 (v := (28 : Int32)) rfl rfl (by decide) dX8_copyRow_12 ?_
    obtain ⟨hg, hf⟩ := zg_some hf
    obtain ⟨g1, g2, g3, g4, g5⟩ := zcp_ok hg
    refine z_copyi hx hb (hml.trans hl.1.symm) hts hown (index := 415) (by decide +kernel) (by decide +kernel) (by decide +kernel) (by decide +kernel) B 24 48 rfl rfl g1 g2 g3 g4 g5 (Nat.le_of_ble_eq_true rfl) (Nat.le_of_ble_eq_true rfl) dX8_copyRow_13 (fun H locs B => ?_)
    refine W.widen (k := 0) (n := 0) (Nat.le_of_ble_eq_true rfl) (Nat.le_of_ble_eq_true rfl) ?_
    exact z_vret hx hb hr hlocks B hf dX8_copyRow_16
theorem dX6_copyFrom_0 : decode cX6_copyFrom 0 = .ok (.aload_n 0, 1) := by decide +kernel
theorem dX6_copyFrom_1 : decode cX6_copyFrom 1 = .ok (.getfield 12, 3) := by decide +kernel
theorem dX6_copyFrom_4 : decode cX6_copyFrom 4 = .ok (.aload_n 1, 1) := by decide +kernel
theorem dX6_copyFrom_5 : decode cX6_copyFrom 5 = .ok (.getfield 12, 3) := by decide +kernel
theorem dX6_copyFrom_8 : decode cX6_copyFrom 8 = .ok (.invokevirtual 42, 3) := by decide +kernel
theorem dX6_copyFrom_11 : decode cX6_copyFrom 11 = .ok (.aload_n 0, 1) := by decide +kernel
theorem dX6_copyFrom_12 : decode cX6_copyFrom 12 = .ok (.getfield 21, 3) := by decide +kernel
theorem dX6_copyFrom_15 : decode cX6_copyFrom 15 = .ok (.aload_n 1, 1) := by decide +kernel
theorem dX6_copyFrom_16 : decode cX6_copyFrom 16 = .ok (.getfield 21, 3) := by decide +kernel
theorem dX6_copyFrom_19 : decode cX6_copyFrom 19 = .ok (.invokevirtual 46, 3) := by decide +kernel
theorem dX6_copyFrom_22 : decode cX6_copyFrom 22 = .ok (.aload_n 0, 1) := by decide +kernel
theorem dX6_copyFrom_23 : decode cX6_copyFrom 23 = .ok (.getfield 28, 3) := by decide +kernel
theorem dX6_copyFrom_26 : decode cX6_copyFrom 26 = .ok (.aload_n 1, 1) := by decide +kernel
theorem dX6_copyFrom_27 : decode cX6_copyFrom 27 = .ok (.getfield 28, 3) := by decide +kernel
theorem dX6_copyFrom_30 : decode cX6_copyFrom 30 = .ok (.invokevirtual 49, 3) := by decide +kernel
theorem dX6_copyFrom_33 : decode cX6_copyFrom 33 = .ok (.aload_n 1, 1) := by decide +kernel
theorem dX6_copyFrom_34 : decode cX6_copyFrom 34 = .ok (.getfield 32, 3) := by decide +kernel
theorem dX6_copyFrom_37 : decode cX6_copyFrom 37 = .ok (.aload_n 0, 1) := by decide +kernel
theorem dX6_copyFrom_38 : decode cX6_copyFrom 38 = .ok (.getfield 32, 3) := by decide +kernel
theorem dX6_copyFrom_41 : decode cX6_copyFrom 41 = .ok (.invokestatic 52, 3) := by decide +kernel
theorem dX6_copyFrom_44 : decode cX6_copyFrom 44 = .ok (.aload_n 1, 1) := by decide +kernel
theorem dX6_copyFrom_45 : decode cX6_copyFrom 45 = .ok (.getfield 36, 3) := by decide +kernel
theorem dX6_copyFrom_48 : decode cX6_copyFrom 48 = .ok (.aload_n 0, 1) := by decide +kernel
theorem dX6_copyFrom_49 : decode cX6_copyFrom 49 = .ok (.getfield 36, 3) := by decide +kernel
theorem dX6_copyFrom_52 : decode cX6_copyFrom 52 = .ok (.invokestatic 52, 3) := by decide +kernel
theorem dX6_copyFrom_55 : decode cX6_copyFrom 55 = .ok (.aload_n 0, 1) := by decide +kernel
theorem dX6_copyFrom_56 : decode cX6_copyFrom 56 = .ok (.aload_n 1, 1) := by decide +kernel
theorem dX6_copyFrom_57 : decode cX6_copyFrom 57 = .ok (.getfield 56, 3) := by decide +kernel
theorem dX6_copyFrom_60 : decode cX6_copyFrom 60 = .ok (.putfield 56, 3) := by decide +kernel
theorem dX6_copyFrom_63 : decode cX6_copyFrom 63 = .ok (.aload_n 1, 1) := by decide +kernel
theorem dX6_copyFrom_64 : decode cX6_copyFrom 64 = .ok (.getfield 39, 3) := by decide +kernel
theorem dX6_copyFrom_67 : decode cX6_copyFrom 67 = .ok (.aload_n 0, 1) := by decide +kernel
theorem dX6_copyFrom_68 : decode cX6_copyFrom 68 = .ok (.getfield 39, 3) := by decide +kernel
theorem dX6_copyFrom_71 : decode cX6_copyFrom 71 = .ok (.invokestatic 52, 3) := by decide +kernel
theorem dX6_copyFrom_74 : decode cX6_copyFrom 74 = .ok (.aload_n 0, 1) := by decide +kernel
theorem dX6_copyFrom_75 : decode cX6_copyFrom 75 = .ok (.aload_n 1, 1) := by decide +kernel
theorem dX6_copyFrom_76 : decode cX6_copyFrom 76 = .ok (.getfield 60, 3) := by decide +kernel
theorem dX6_copyFrom_79 : decode cX6_copyFrom 79 = .ok (.putfield 60, 3) := by decide +kernel
theorem dX6_copyFrom_82 : decode cX6_copyFrom 82 = .ok (.return_, 1) := by decide +kernel
set_option maxRecDepth 20000 in
theorem ggX6_copyFrom_X7_copyFrom : GoodIn wsX6_copyFrom wsX7_copyFrom := goodIn_r _ [13, 14, 15, 16, 17, 18, 19, 20, 21, 22, 23, 24, 25, 26, 27, 28, 29, 30, 31, 61, 62, 63, 64, 65, 66, 67, 68, 69, 70, 71, 72] (by decide +kernel) (by decide +kernel)
set_option maxRecDepth 20000 in
theorem gX6_copyFrom_X7_copyFrom : GoodIn wsX6_copyFrom (wsV RX6 42 RX7 yX7_copyFrom wsX7_copyFrom) := goodIn_app (goodIn_of _ (by decide +kernel)) ggX6_copyFrom_X7_copyFrom
set_option maxRecDepth 20000 in
theorem ggX6_copyFrom_X0_copyFrom : GoodIn wsX6_copyFrom wsX0_copyFrom := goodIn_r _ [36, 37, 38, 39, 40, 41, 42, 43, 25, 26, 27, 28, 29, 30, 31, 73, 74, 75, 76, 77, 78, 79] (by decide +kernel) (by decide +kernel)
set_option maxRecDepth 20000 in
theorem gX6_copyFrom_X0_copyFrom : GoodIn wsX6_copyFrom (wsV RX6 46 RX0 yX0_copyFrom wsX0_copyFrom) := goodIn_app (goodIn_of _ (by decide +kernel)) ggX6_copyFrom_X0_copyFrom
set_option maxRecDepth 20000 in
theorem ggX6_copyFrom_X2_copyFrom : GoodIn wsX6_copyFrom wsX2_copyFrom := goodIn_r _ [48, 49, 50, 51, 52, 25, 26, 27, 28, 29, 30, 31, 80, 81, 82, 83] (by decide +kernel) (by decide +kernel)
set_option maxRecDepth 20000 in
theorem gX6_copyFrom_X2_copyFrom : GoodIn wsX6_copyFrom (wsV RX6 49 RX2 yX2_copyFrom wsX2_copyFrom) := goodIn_app (goodIn_of _ (by decide +kernel)) ggX6_copyFrom_X2_copyFrom
set_option maxRecDepth 20000 in
theorem ggX6_copyFrom_X8_copyRow : GoodIn wsX6_copyFrom wsX8_copyRow := goodIn_r _ [27, 28, 29, 30, 31] (by decide +kernel) (by decide +kernel)
set_option maxRecDepth 20000 in
theorem gX6_copyFrom_X8_copyRow_n52 : GoodIn wsX6_copyFrom (wsX8_copyRow) := ggX6_copyFrom_X8_copyRow
def rm_X6_copyFrom_t25_1 : Room := { frames := 3, cells := 0, slots := 0, locals := 242 }
set_option maxHeartbeats 4000000 in
set_option maxRecDepth 100000 in
theorem c_X6_copyFrom_t25_1 (l : Launch) {nb : Nat} {G : zG} {ad : Nat → Nat} {σ σ' : zs} {r : Int32} (hf : f_X6_copyFrom_t25_1 σ  = some (r, σ')) : zMv l yX6_copyFrom wsX6_copyFrom rm_X6_copyFrom_t25_1 G (zS nb) ad σ [.ref (ad 25), .ref (ad 1)] σ' := by
  intro sz
  refine Met.ofW (cc := cX6_copyFrom) (maxL := 2) (ret := none) (by decide) rfl ?_
  intro p e s m args below meth c s₁ B hml hv
  obtain ⟨rfl, hsz, hv⟩ := hv
  have hx := B.exec
  have hb := B.bytes
  have hr := B.returns
  have hts := atoms_spec (ws := wsX6_copyFrom) B.pre
  have hown : s.vm.findClass RX6 = some m.cls := findClass_of_methodNamed B.named
  have hlocks := B.notSynchronized
  subst hsz
  have B := zB_start hv
  have hinRX6 : ∀ w ∈ wsX60, w ∈ wsX6_copyFrom := by decide +kernel
  have hl := lv_entry ([.ref (ad 25), .ref (ad 1)]) (n := 2) (Nat.le_of_ble_eq_true rfl)
  rw [lg_entry_eq]
  generalize (lg_sl ([.ref (ad 25), .ref (ad 1)]) ++ List.replicate (2 - (lg_sl ([.ref (ad 25), .ref (ad 1)])).length) Slot.unset).toArray = ls at hl ⊢
  have hl : lv_has ls 2 [(0, .ref (ad 25)), (1, .ref (ad 1))] := hl
  generalize hAe : zA ad (zS nb).length s.heap.size = A at B ⊢
  unfold f_X6_copyFrom_t25_1 at hf
  refine lv_aload_n hx hb dX6_copyFrom_0 rfl (lv_at hl 0 rfl) ?_
  refine z_getr hx hb hts hinRX6 hown B 25 0 26 rfl rfl rfl (by decide) (by decide +kernel) rfl dX6_copyFrom_1 ?_
  refine lv_aload_n hx hb dX6_copyFrom_4 rfl (lv_at hl 1 rfl) ?_
  refine z_getr hx hb hts hinRX6 hown B 1 0 2 rfl rfl rfl (by decide) (by decide +kernel) rfl dX6_copyFrom_5 ?_
  obtain ⟨r2, σ3, hu1, hf⟩ := zb_some hf
  refine z_v B (va_runV (As := [.ref (ad 2)]) (rest := []) ⟨hx, hb, hml, hown, hts⟩ (c_X7_copyFrom_t26_2 l hu1 _) (cwV 1 hts gX6_copyFrom_X7_copyFrom rfl rfl rfl (by decide +kernel) ⟨Nat.le_of_ble_eq_true rfl, Nat.le_of_ble_eq_true rfl⟩) (z_preV B rfl rfl) rfl rfl hl.1 rfl (lv_room (Nat.le_of_ble_eq_true rfl)) dX6_copyFrom_8 ⟨Nat.le_of_ble_eq_true rfl, Nat.le_of_ble_eq_true rfl⟩) (fun H locs B => ?_)
  refine lv_aload_n hx hb dX6_copyFrom_11 rfl (lv_at hl 0 rfl) ?_
  refine z_getr hx hb hts hinRX6 hown B 25 1 38 rfl rfl rfl (by decide) (by decide +kernel) rfl dX6_copyFrom_12 ?_
  refine lv_aload_n hx hb dX6_copyFrom_15 rfl (lv_at hl 1 rfl) ?_
  refine z_getr hx hb hts hinRX6 hown B 1 1 14 rfl rfl rfl (by decide) (by decide +kernel) rfl dX6_copyFrom_16 ?_
  obtain ⟨r5, σ6, hu4, hf⟩ := zb_some hf
  refine z_v B (va_runV (As := [.ref (ad 14)]) (rest := []) ⟨hx, hb, hml, hown, hts⟩ (c_X0_copyFrom_t38_14 l hu4 _) (cwV 1 hts gX6_copyFrom_X0_copyFrom rfl rfl rfl (by decide +kernel) ⟨Nat.le_of_ble_eq_true rfl, Nat.le_of_ble_eq_true rfl⟩) (z_preV B rfl rfl) rfl rfl hl.1 rfl (lv_room (Nat.le_of_ble_eq_true rfl)) dX6_copyFrom_19 ⟨Nat.le_of_ble_eq_true rfl, Nat.le_of_ble_eq_true rfl⟩) (fun H locs B => ?_)
  refine lv_aload_n hx hb dX6_copyFrom_22 rfl (lv_at hl 0 rfl) ?_
  refine z_getr hx hb hts hinRX6 hown B 25 2 44 rfl rfl rfl (by decide) (by decide +kernel) rfl dX6_copyFrom_23 ?_
  refine lv_aload_n hx hb dX6_copyFrom_26 rfl (lv_at hl 1 rfl) ?_
  refine z_getr hx hb hts hinRX6 hown B 1 2 20 rfl rfl rfl (by decide) (by decide +kernel) rfl dX6_copyFrom_27 ?_
  obtain ⟨r8, σ9, hu7, hf⟩ := zb_some hf
  refine z_v B (va_runV (As := [.ref (ad 20)]) (rest := []) ⟨hx, hb, hml, hown, hts⟩ (c_X2_copyFrom_t44_20 l hu7 _) (cwV 1 hts gX6_copyFrom_X2_copyFrom rfl rfl rfl (by decide +kernel) ⟨Nat.le_of_ble_eq_true rfl, Nat.le_of_ble_eq_true rfl⟩) (z_preV B rfl rfl) rfl rfl hl.1 rfl (lv_room (Nat.le_of_ble_eq_true rfl)) dX6_copyFrom_30 ⟨Nat.le_of_ble_eq_true rfl, Nat.le_of_ble_eq_true rfl⟩) (fun H locs B => ?_)
  refine lv_aload_n hx hb dX6_copyFrom_33 rfl (lv_at hl 1 rfl) ?_
  refine z_getr hx hb hts hinRX6 hown B 1 3 22 rfl rfl rfl (by decide) (by decide +kernel) rfl dX6_copyFrom_34 ?_
  refine lv_aload_n hx hb dX6_copyFrom_37 rfl (lv_at hl 0 rfl) ?_
  refine z_getr hx hb hts hinRX6 hown B 25 3 46 rfl rfl rfl (by decide) (by decide +kernel) rfl dX6_copyFrom_38 ?_
  obtain ⟨r11, σ12, hu10, hf⟩ := zb_some hf
  refine z_v B (va_runSN (As := [.ref (ad 22), .ref (ad 46)]) (rest := []) ⟨hx, hb, hml, hown, hts⟩ (c_X8_copyRow_22_46 l hu10 _) ⟨va_cnB 2 hts gX6_copyFrom_X8_copyRow_n52 rfl rfl rfl (z_nest B (q := (RX6, 52, yX8_copyRow)) (by decide +kernel)) (hts (.initialized RX8) (by decide +kernel)) (by decide +kernel) ⟨Nat.le_of_ble_eq_true rfl, Nat.le_of_ble_eq_true rfl⟩, hts (.static yX8_copyRow) (by decide +kernel), trivial⟩ (z_preS B) rfl rfl hl.1 rfl (lv_room (Nat.le_of_ble_eq_true rfl)) dX6_copyFrom_41 ⟨Nat.le_of_ble_eq_true rfl, Nat.le_of_ble_eq_true rfl⟩) (fun H locs B => ?_)
  refine lv_aload_n hx hb dX6_copyFrom_44 rfl (lv_at hl 1 rfl) ?_
  refine z_getr hx hb hts hinRX6 hown B 1 4 23 rfl rfl rfl (by decide) (by decide +kernel) rfl dX6_copyFrom_45 ?_
  refine lv_aload_n hx hb dX6_copyFrom_48 rfl (lv_at hl 0 rfl) ?_
  refine z_getr hx hb hts hinRX6 hown B 25 4 47 rfl rfl rfl (by decide) (by decide +kernel) rfl dX6_copyFrom_49 ?_
  obtain ⟨r14, σ15, hu13, hf⟩ := zb_some hf
  refine z_v B (va_runSN (As := [.ref (ad 23), .ref (ad 47)]) (rest := []) ⟨hx, hb, hml, hown, hts⟩ (c_X8_copyRow_23_47 l hu13 _) ⟨va_cnB 2 hts gX6_copyFrom_X8_copyRow_n52 rfl rfl rfl (z_nest B (q := (RX6, 52, yX8_copyRow)) (by decide +kernel)) (hts (.initialized RX8) (by decide +kernel)) (by decide +kernel) ⟨Nat.le_of_ble_eq_true rfl, Nat.le_of_ble_eq_true rfl⟩, hts (.static yX8_copyRow) (by decide +kernel), trivial⟩ (z_preS B) rfl rfl hl.1 rfl (lv_room (Nat.le_of_ble_eq_true rfl)) dX6_copyFrom_52 ⟨Nat.le_of_ble_eq_true rfl, Nat.le_of_ble_eq_true rfl⟩) (fun H locs B => ?_)
  refine lv_aload_n hx hb dX6_copyFrom_55 rfl (lv_at hl 0 rfl) ?_
  refine lv_aload_n hx hb dX6_copyFrom_56 rfl (lv_at hl 1 rfl) ?_
  refine z_geti hx hb hts hinRX6 hown B 1 5 rfl rfl rfl (by decide) (by decide +kernel) rfl dX6_copyFrom_57 ?_
  refine z_puti hx hb hts hinRX6 hown tyX6 tyX6_ok nmX6 B 25 5 rfl rfl rfl (by decide) (by decide +kernel) rfl rfl rfl rfl dX6_copyFrom_60 (fun H locs B => ?_)
  refine lv_aload_n hx hb dX6_copyFrom_63 rfl (lv_at hl 1 rfl) ?_
  refine z_getr hx hb hts hinRX6 hown B 1 6 24 rfl rfl rfl (by decide) (by decide +kernel) rfl dX6_copyFrom_64 ?_
  refine lv_aload_n hx hb dX6_copyFrom_67 rfl (lv_at hl 0 rfl) ?_
  refine z_getr hx hb hts hinRX6 hown B 25 6 48 rfl rfl rfl (by decide) (by decide +kernel) rfl dX6_copyFrom_68 ?_
  obtain ⟨r17, σ18, hu16, hf⟩ := zb_some hf
  refine z_v B (va_runSN (As := [.ref (ad 24), .ref (ad 48)]) (rest := []) ⟨hx, hb, hml, hown, hts⟩ (c_X8_copyRow_24_48 l hu16 _) ⟨va_cnB 2 hts gX6_copyFrom_X8_copyRow_n52 rfl rfl rfl (z_nest B (q := (RX6, 52, yX8_copyRow)) (by decide +kernel)) (hts (.initialized RX8) (by decide +kernel)) (by decide +kernel) ⟨Nat.le_of_ble_eq_true rfl, Nat.le_of_ble_eq_true rfl⟩, hts (.static yX8_copyRow) (by decide +kernel), trivial⟩ (z_preS B) rfl rfl hl.1 rfl (lv_room (Nat.le_of_ble_eq_true rfl)) dX6_copyFrom_71 ⟨Nat.le_of_ble_eq_true rfl, Nat.le_of_ble_eq_true rfl⟩) (fun H locs B => ?_)
  refine lv_aload_n hx hb dX6_copyFrom_74 rfl (lv_at hl 0 rfl) ?_
  refine lv_aload_n hx hb dX6_copyFrom_75 rfl (lv_at hl 1 rfl) ?_
  refine z_geti hx hb hts hinRX6 hown B 1 7 rfl rfl rfl (by decide) (by decide +kernel) rfl dX6_copyFrom_76 ?_
  refine z_puti hx hb hts hinRX6 hown tyX6 tyX6_ok nmX6 B 25 7 rfl rfl rfl (by decide) (by decide +kernel) rfl rfl rfl rfl dX6_copyFrom_79 (fun H locs B => ?_)
  refine W.widen (k := 0) (n := 0) (Nat.le_of_ble_eq_true rfl) (Nat.le_of_ble_eq_true rfl) ?_
  exact z_vret hx hb hr hlocks B hf dX6_copyFrom_82
theorem dX8_save_0 : decode cX8_save 0 = .ok (.aload_n 0, 1) := by decide +kernel
theorem dX8_save_1 : decode cX8_save 1 = .ok (.getfield 16, 3) := by decide +kernel
theorem dX8_save_4 : decode cX8_save 4 = .ok (.aload_n 0, 1) := by decide +kernel
theorem dX8_save_5 : decode cX8_save 5 = .ok (.getfield 12, 3) := by decide +kernel
theorem dX8_save_8 : decode cX8_save 8 = .ok (.invokevirtual 358, 3) := by decide +kernel
theorem dX8_save_11 : decode cX8_save 11 = .ok (.aload_n 0, 1) := by decide +kernel
theorem dX8_save_12 : decode cX8_save 12 = .ok (.iconst 1, 1) := by decide +kernel
theorem dX8_save_13 : decode cX8_save 13 = .ok (.putfield 19, 3) := by decide +kernel
theorem dX8_save_16 : decode cX8_save 16 = .ok (.aload_n 0, 1) := by decide +kernel
theorem dX8_save_17 : decode cX8_save 17 = .ok (.getfield 12, 3) := by decide +kernel
theorem dX8_save_20 : decode cX8_save 20 = .ok (.getfield 66, 3) := by decide +kernel
theorem dX8_save_23 : decode cX8_save 23 = .ok (.getfield 70, 3) := by decide +kernel
theorem dX8_save_26 : decode cX8_save 26 = .ok (.ireturn, 1) := by decide +kernel
set_option maxRecDepth 20000 in
theorem ggX8_save_X6_copyFrom : GoodIn wsX8_save wsX6_copyFrom := goodIn_r _ [10, 11, 12, 13, 14, 15, 16, 17, 18, 19, 20, 21, 22, 23, 24, 25, 26, 27, 28, 29, 30, 31, 32, 33, 34, 35, 36, 37, 38, 39, 40, 41, 42, 43, 44, 45, 46, 47, 48, 49, 50, 51, 52, 53, 54, 55, 56, 57, 58, 59, 60, 61, 62, 71, 72, 73, 74, 75, 76, 77, 78, 79, 80, 81, 82, 83, 84, 85, 86, 87, 88, 89, 90, 91, 92, 93, 94, 95, 96, 97, 98, 99, 100, 101] (by decide +kernel) (by decide +kernel)
set_option maxRecDepth 20000 in
theorem gX8_save_X6_copyFrom : GoodIn wsX8_save (wsV RX8 358 RX6 yX6_copyFrom wsX6_copyFrom) := goodIn_app (goodIn_of _ (by decide +kernel)) ggX8_save_X6_copyFrom
def rm_X8_save : Room := { frames := 4, cells := 0, slots := 0, locals := 263 }
set_option maxHeartbeats 4000000 in
set_option maxRecDepth 100000 in
theorem c_X8_save (l : Launch) {nb : Nat} {G : zG} {ad : Nat → Nat} {σ σ' : zs} {r : Int32} (hf : f_X8_save σ  = some (r, σ')) : zMi l yX8_save wsX8_save rm_X8_save G (zS nb) ad σ [.ref (ad 0)] r σ' := by
  intro sz
  refine Met.ofW (cc := cX8_save) (maxL := 1) (ret := (some .int)) (by decide) rfl ?_
  intro p e s m args below meth c s₁ B hml hv
  obtain ⟨rfl, hsz, hv⟩ := hv
  have hx := B.exec
  have hb := B.bytes
  have hr := B.returns
  have hts := atoms_spec (ws := wsX8_save) B.pre
  have hown : s.vm.findClass RX8 = some m.cls := findClass_of_methodNamed B.named
  have hlocks := B.notSynchronized
  subst hsz
  have B := zB_start hv
  have hinRX6 : ∀ w ∈ wsX60, w ∈ wsX8_save := by decide +kernel
  have hinRX7 : ∀ w ∈ wsX70, w ∈ wsX8_save := by decide +kernel
  have hinRX8 : ∀ w ∈ wsX80, w ∈ wsX8_save := by decide +kernel
  have hl := lv_entry ([.ref (ad 0)]) (n := 1) (Nat.le_of_ble_eq_true rfl)
  rw [lg_entry_eq]
  generalize (lg_sl ([.ref (ad 0)]) ++ List.replicate (1 - (lg_sl ([.ref (ad 0)])).length) Slot.unset).toArray = ls at hl ⊢
  have hl : lv_has ls 1 [(0, .ref (ad 0))] := hl
  generalize hAe : zA ad (zS nb).length s.heap.size = A at B ⊢
  unfold f_X8_save at hf
  refine lv_aload_n hx hb dX8_save_0 rfl (lv_at hl 0 rfl) ?_
  refine z_getr hx hb hts hinRX8 hown B 0 1 25 rfl rfl rfl (by decide) (by decide +kernel) rfl dX8_save_1 ?_
  refine lv_aload_n hx hb dX8_save_4 rfl (lv_at hl 0 rfl) ?_
  refine z_getr hx hb hts hinRX8 hown B 0 0 1 rfl rfl rfl (by decide) (by decide +kernel) rfl dX8_save_5 ?_
  obtain ⟨r2, σ3, hu1, hf⟩ := zb_some hf
  refine z_v B (va_runV (As := [.ref (ad 1)]) (rest := []) ⟨hx, hb, hml, hown, hts⟩ (c_X6_copyFrom_t25_1 l hu1 _) (cwV 1 hts gX8_save_X6_copyFrom rfl rfl rfl (by decide +kernel) ⟨Nat.le_of_ble_eq_true rfl, Nat.le_of_ble_eq_true rfl⟩) (z_preV B rfl rfl) rfl rfl hl.1 rfl (lv_room (Nat.le_of_ble_eq_true rfl)) dX8_save_8 ⟨Nat.le_of_ble_eq_true rfl, Nat.le_of_ble_eq_true rfl⟩) (fun H locs B => ?_)
  refine lv_aload_n hx hb dX8_save_11 rfl (lv_at hl 0 rfl) ?_
  refine lv_iconst (v := (1 : Int32)) hx hb dX8_save_12 (by decide) ?_
  refine z_puti hx hb hts hinRX8 hown tyX8 tyX8_ok nmX8 B 0 2 rfl rfl rfl (by decide) (by decide +kernel) rfl rfl (by decide) (by decide) dX8_save_13 (fun H locs B => ?_)
  refine lv_aload_n hx hb dX8_save_16 rfl (lv_at hl 0 rfl) ?_
  refine z_getr hx hb hts hinRX8 hown B 0 0 1 rfl rfl rfl (by decide) (by decide +kernel) rfl dX8_save_17 ?_
  refine z_getr hx hb hts hinRX6 hown B 1 0 2 rfl rfl rfl (by decide) (by decide +kernel) rfl dX8_save_20 ?_
  refine z_geti hx hb hts hinRX7 hown B 2 0 rfl rfl rfl (by decide) (by decide +kernel) rfl dX8_save_23 ?_
  refine W.widen (k := 0) (n := 0) (Nat.le_of_ble_eq_true rfl) (Nat.le_of_ble_eq_true rfl) ?_
  exact z_iret hx hb hr rfl hlocks B hf dX8_save_26
theorem dX8_copyRow_0 : decode cX8_copyRow 0 = .ok (.aload_n 0, 1) := by decide +kernel
theorem dX8_copyRow_1 : decode cX8_copyRow 1 = .ok (.arraylength, 1) := by decide +kernel
theorem dX8_copyRow_2 : decode cX8_copyRow 2 = .ok (.aload_n 1, 1) := by decide +kernel
theorem dX8_copyRow_3 : decode cX8_copyRow 3 = .ok (.arraylength, 1) := by decide +kernel
theorem dX8_copyRow_4 : decode cX8_copyRow 4 = .ok (.if_icmp .ne 12, 3) := by decide +kernel
theorem dX8_copyRow_7 : decode cX8_copyRow 7 = .ok (.aload_n 0, 1) := by decide +kernel
theorem dX8_copyRow_8 : decode cX8_copyRow 8 = .ok (.iconst 0, 1) := by decide +kernel
theorem dX8_copyRow_9 : decode cX8_copyRow 9 = .ok (.aload_n 1, 1) := by decide +kernel
theorem dX8_copyRow_10 : decode cX8_copyRow 10 = .ok (.iconst 0, 1) := by decide +kernel
theorem dX8_copyRow_11 : decode cX8_copyRow 11 = .ok (.aload_n 0, 1) := by decide +kernel
theorem dX8_copyRow_12 : decode cX8_copyRow 12 = .ok (.arraylength, 1) := by decide +kernel
theorem dX8_copyRow_13 : decode cX8_copyRow 13 = .ok (.invokestatic 415, 3) := by decide +kernel
theorem dX8_copyRow_16 : decode cX8_copyRow 16 = .ok (.return_, 1) := by decide +kernel
def rm_X8_copyRow_27_3 : Room := { frames := 1, cells := 0, slots := 0, locals := 200 }
set_option maxHeartbeats 4000000 in
set_option maxRecDepth 100000 in
theorem c_X8_copyRow_27_3 (l : Launch) {nb : Nat} {G : zG} {ad : Nat → Nat} {σ σ' : zs} {r : Int32} (hf : f_X8_copyRow_27_3 σ  = some (r, σ')) : zMv l yX8_copyRow wsX8_copyRow rm_X8_copyRow_27_3 G (zS nb) ad σ [.ref (ad 27), .ref (ad 3)] σ' := by
  intro sz
  refine Met.ofW (cc := cX8_copyRow) (maxL := 2) (ret := none) (by decide) rfl ?_
  intro p e s m args below meth c s₁ B hml hv
  obtain ⟨rfl, hsz, hv⟩ := hv
  have hx := B.exec
  have hb := B.bytes
  have hr := B.returns
  have hts := atoms_spec (ws := wsX8_copyRow) B.pre
  have hown : s.vm.findClass RX8 = some m.cls := findClass_of_methodNamed B.named
  have hlocks := B.notSynchronized
  subst hsz
  have B := zB_start hv
  have hl := lv_entry ([.ref (ad 27), .ref (ad 3)]) (n := 2) (Nat.le_of_ble_eq_true rfl)
  rw [lg_entry_eq]
  generalize (lg_sl ([.ref (ad 27), .ref (ad 3)]) ++ List.replicate (2 - (lg_sl ([.ref (ad 27), .ref (ad 3)])).length) Slot.unset).toArray = ls at hl ⊢
  have hl : lv_has ls 2 [(0, .ref (ad 27)), (1, .ref (ad 3))] := hl
  generalize hAe : zA ad (zS nb).length s.heap.size = A at B ⊢
  unfold f_X8_copyRow_27_3 at hf
  refine lv_aload_n hx hb dX8_copyRow_0 rfl (lv_at hl 0 rfl) ?_
  refine z_alen hx hb B 27 (v := (28 : Int32)) rfl rfl (by decide) dX8_copyRow_1 ?_
  refine lv_aload_n hx hb dX8_copyRow_2 rfl (lv_at hl 1 rfl) ?_
  refine z_alen hx hb B 3 (v := (28 : Int32)) rfl rfl (by decide) dX8_copyRow_3 ?_
  refine lv_icmp_ne (tgt := 16) hx hb dX8_copyRow_4 (by decide) (fun hc => ?_) (fun hc => ?_)
  · have hf := zif_f hc hf
    refine W.widen (k := 0) (n := 0) (Nat.le_of_ble_eq_true rfl) (Nat.le_of_ble_eq_true rfl) ?_
    exact z_vret hx hb hr hlocks B hf dX8_copyRow_16
  · have hf := zif_t hc hf
    refine lv_aload_n hx hb dX8_copyRow_7 rfl (lv_at hl 0 rfl) ?_
    refine lv_iconst (v := (0 : Int32)) hx hb dX8_copyRow_8 (by decide) ?_
    refine lv_aload_n hx hb dX8_copyRow_9 rfl (lv_at hl 1 rfl) ?_
    refine lv_iconst (v := (0 : Int32)) hx hb dX8_copyRow_10 (by decide) ?_
    refine lv_aload_n hx hb dX8_copyRow_11 rfl (lv_at hl 0 rfl) ?_
    refine z_alen hx hb B 27 (v := (28 : Int32)) rfl rfl (by decide) dX8_copyRow_12 ?_
    obtain ⟨hg, hf⟩ := zg_some hf
    obtain ⟨g1, g2, g3, g4, g5⟩ := zcp_ok hg
    refine z_copyi hx hb (hml.trans hl.1.symm) hts hown (index := 415) (by decide +kernel) (by decide +kernel) (by decide +kernel) (by decide +kernel) B 27 3 rfl rfl g1 g2 g3 g4 g5 (Nat.le_of_ble_eq_true rfl) (Nat.le_of_ble_eq_true rfl) dX8_copyRow_13 (fun H locs B => ?_)
    refine W.widen (k := 0) (n := 0) (Nat.le_of_ble_eq_true rfl) (Nat.le_of_ble_eq_true rfl) ?_
    exact z_vret hx hb hr hlocks B hf dX8_copyRow_16
theorem dX8_copyRow_0 : decode cX8_copyRow 0 = .ok (.aload_n 0, 1) := by decide +kernel
theorem dX8_copyRow_1 : decode cX8_copyRow 1 = .ok (.arraylength, 1) := by decide +kernel
theorem dX8_copyRow_2 : decode cX8_copyRow 2 = .ok (.aload_n 1, 1) := by decide +kernel
theorem dX8_copyRow_3 : decode cX8_copyRow 3 = .ok (.arraylength, 1) := by decide +kernel
theorem dX8_copyRow_4 : decode cX8_copyRow 4 = .ok (.if_icmp .ne 12, 3) := by decide +kernel
theorem dX8_copyRow_7 : decode cX8_copyRow 7 = .ok (.aload_n 0, 1) := by decide +kernel
theorem dX8_copyRow_8 : decode cX8_copyRow 8 = .ok (.iconst 0, 1) := by decide +kernel
theorem dX8_copyRow_9 : decode cX8_copyRow 9 = .ok (.aload_n 1, 1) := by decide +kernel
theorem dX8_copyRow_10 : decode cX8_copyRow 10 = .ok (.iconst 0, 1) := by decide +kernel
theorem dX8_copyRow_11 : decode cX8_copyRow 11 = .ok (.aload_n 0, 1) := by decide +kernel
theorem dX8_copyRow_12 : decode cX8_copyRow 12 = .ok (.arraylength, 1) := by decide +kernel
theorem dX8_copyRow_13 : decode cX8_copyRow 13 = .ok (.invokestatic 415, 3) := by decide +kernel
theorem dX8_copyRow_16 : decode cX8_copyRow 16 = .ok (.return_, 1) := by decide +kernel
def rm_X8_copyRow_28_4 : Room := { frames := 1, cells := 0, slots := 0, locals := 200 }
set_option maxHeartbeats 4000000 in
set_option maxRecDepth 100000 in
theorem c_X8_copyRow_28_4 (l : Launch) {nb : Nat} {G : zG} {ad : Nat → Nat} {σ σ' : zs} {r : Int32} (hf : f_X8_copyRow_28_4 σ  = some (r, σ')) : zMv l yX8_copyRow wsX8_copyRow rm_X8_copyRow_28_4 G (zS nb) ad σ [.ref (ad 28), .ref (ad 4)] σ' := by
  intro sz
  refine Met.ofW (cc := cX8_copyRow) (maxL := 2) (ret := none) (by decide) rfl ?_
  intro p e s m args below meth c s₁ B hml hv
  obtain ⟨rfl, hsz, hv⟩ := hv
  have hx := B.exec
  have hb := B.bytes
  have hr := B.returns
  have hts := atoms_spec (ws := wsX8_copyRow) B.pre
  have hown : s.vm.findClass RX8 = some m.cls := findClass_of_methodNamed B.named
  have hlocks := B.notSynchronized
  subst hsz
  have B := zB_start hv
  have hl := lv_entry ([.ref (ad 28), .ref (ad 4)]) (n := 2) (Nat.le_of_ble_eq_true rfl)
  rw [lg_entry_eq]
  generalize (lg_sl ([.ref (ad 28), .ref (ad 4)]) ++ List.replicate (2 - (lg_sl ([.ref (ad 28), .ref (ad 4)])).length) Slot.unset).toArray = ls at hl ⊢
  have hl : lv_has ls 2 [(0, .ref (ad 28)), (1, .ref (ad 4))] := hl
  generalize hAe : zA ad (zS nb).length s.heap.size = A at B ⊢
  unfold f_X8_copyRow_28_4 at hf
  refine lv_aload_n hx hb dX8_copyRow_0 rfl (lv_at hl 0 rfl) ?_
  refine z_alen hx hb B 28 (v := (28 : Int32)) rfl rfl (by decide) dX8_copyRow_1 ?_
  refine lv_aload_n hx hb dX8_copyRow_2 rfl (lv_at hl 1 rfl) ?_
  refine z_alen hx hb B 4 (v := (28 : Int32)) rfl rfl (by decide) dX8_copyRow_3 ?_
  refine lv_icmp_ne (tgt := 16) hx hb dX8_copyRow_4 (by decide) (fun hc => ?_) (fun hc => ?_)
  · have hf := zif_f hc hf
    refine W.widen (k := 0) (n := 0) (Nat.le_of_ble_eq_true rfl) (Nat.le_of_ble_eq_true rfl) ?_
    exact z_vret hx hb hr hlocks B hf dX8_copyRow_16
  · have hf := zif_t hc hf
    refine lv_aload_n hx hb dX8_copyRow_7 rfl (lv_at hl 0 rfl) ?_
    refine lv_iconst (v := (0 : Int32)) hx hb dX8_copyRow_8 (by decide) ?_
    refine lv_aload_n hx hb dX8_copyRow_9 rfl (lv_at hl 1 rfl) ?_
    refine lv_iconst (v := (0 : Int32)) hx hb dX8_copyRow_10 (by decide) ?_
    refine lv_aload_n hx hb dX8_copyRow_11 rfl (lv_at hl 0 rfl) ?_
    refine z_alen hx hb B 28 (v := (28 : Int32)) rfl rfl (by decide) dX8_copyRow_12 ?_
    obtain ⟨hg, hf⟩ := zg_some hf
    obtain ⟨g1, g2, g3, g4, g5⟩ := zcp_ok hg
    refine z_copyi hx hb (hml.trans hl.1.symm) hts hown (index := 415) (by decide +kernel) (by decide +kernel) (by decide +kernel) (by decide +kernel) B 28 4 rfl rfl g1 g2 g3 g4 g5 (Nat.le_of_ble_eq_true rfl) (Nat.le_of_ble_eq_true rfl) dX8_copyRow_13 (fun H locs B => ?_)
    refine W.widen (k := 0) (n := 0) (Nat.le_of_ble_eq_true rfl) (Nat.le_of_ble_eq_true rfl) ?_
    exact z_vret hx hb hr hlocks B hf dX8_copyRow_16
theorem dX8_copyRow_0 : decode cX8_copyRow 0 = .ok (.aload_n 0, 1) := by decide +kernel
theorem dX8_copyRow_1 : decode cX8_copyRow 1 = .ok (.arraylength, 1) := by decide +kernel
theorem dX8_copyRow_2 : decode cX8_copyRow 2 = .ok (.aload_n 1, 1) := by decide +kernel
theorem dX8_copyRow_3 : decode cX8_copyRow 3 = .ok (.arraylength, 1) := by decide +kernel
theorem dX8_copyRow_4 : decode cX8_copyRow 4 = .ok (.if_icmp .ne 12, 3) := by decide +kernel
theorem dX8_copyRow_7 : decode cX8_copyRow 7 = .ok (.aload_n 0, 1) := by decide +kernel
theorem dX8_copyRow_8 : decode cX8_copyRow 8 = .ok (.iconst 0, 1) := by decide +kernel
theorem dX8_copyRow_9 : decode cX8_copyRow 9 = .ok (.aload_n 1, 1) := by decide +kernel
theorem dX8_copyRow_10 : decode cX8_copyRow 10 = .ok (.iconst 0, 1) := by decide +kernel
theorem dX8_copyRow_11 : decode cX8_copyRow 11 = .ok (.aload_n 0, 1) := by decide +kernel
theorem dX8_copyRow_12 : decode cX8_copyRow 12 = .ok (.arraylength, 1) := by decide +kernel
theorem dX8_copyRow_13 : decode cX8_copyRow 13 = .ok (.invokestatic 415, 3) := by decide +kernel
theorem dX8_copyRow_16 : decode cX8_copyRow 16 = .ok (.return_, 1) := by decide +kernel
def rm_X8_copyRow_29_5 : Room := { frames := 1, cells := 0, slots := 0, locals := 200 }
set_option maxHeartbeats 4000000 in
set_option maxRecDepth 100000 in
theorem c_X8_copyRow_29_5 (l : Launch) {nb : Nat} {G : zG} {ad : Nat → Nat} {σ σ' : zs} {r : Int32} (hf : f_X8_copyRow_29_5 σ  = some (r, σ')) : zMv l yX8_copyRow wsX8_copyRow rm_X8_copyRow_29_5 G (zS nb) ad σ [.ref (ad 29), .ref (ad 5)] σ' := by
  intro sz
  refine Met.ofW (cc := cX8_copyRow) (maxL := 2) (ret := none) (by decide) rfl ?_
  intro p e s m args below meth c s₁ B hml hv
  obtain ⟨rfl, hsz, hv⟩ := hv
  have hx := B.exec
  have hb := B.bytes
  have hr := B.returns
  have hts := atoms_spec (ws := wsX8_copyRow) B.pre
  have hown : s.vm.findClass RX8 = some m.cls := findClass_of_methodNamed B.named
  have hlocks := B.notSynchronized
  subst hsz
  have B := zB_start hv
  have hl := lv_entry ([.ref (ad 29), .ref (ad 5)]) (n := 2) (Nat.le_of_ble_eq_true rfl)
  rw [lg_entry_eq]
  generalize (lg_sl ([.ref (ad 29), .ref (ad 5)]) ++ List.replicate (2 - (lg_sl ([.ref (ad 29), .ref (ad 5)])).length) Slot.unset).toArray = ls at hl ⊢
  have hl : lv_has ls 2 [(0, .ref (ad 29)), (1, .ref (ad 5))] := hl
  generalize hAe : zA ad (zS nb).length s.heap.size = A at B ⊢
  unfold f_X8_copyRow_29_5 at hf
  refine lv_aload_n hx hb dX8_copyRow_0 rfl (lv_at hl 0 rfl) ?_
  refine z_alen hx hb B 29 (v := (196 : Int32)) rfl rfl (by decide) dX8_copyRow_1 ?_
  refine lv_aload_n hx hb dX8_copyRow_2 rfl (lv_at hl 1 rfl) ?_
  refine z_alen hx hb B 5 (v := (196 : Int32)) rfl rfl (by decide) dX8_copyRow_3 ?_
  refine lv_icmp_ne (tgt := 16) hx hb dX8_copyRow_4 (by decide) (fun hc => ?_) (fun hc => ?_)
  · have hf := zif_f hc hf
    refine W.widen (k := 0) (n := 0) (Nat.le_of_ble_eq_true rfl) (Nat.le_of_ble_eq_true rfl) ?_
    exact z_vret hx hb hr hlocks B hf dX8_copyRow_16
  · have hf := zif_t hc hf
    refine lv_aload_n hx hb dX8_copyRow_7 rfl (lv_at hl 0 rfl) ?_
    refine lv_iconst (v := (0 : Int32)) hx hb dX8_copyRow_8 (by decide) ?_
    refine lv_aload_n hx hb dX8_copyRow_9 rfl (lv_at hl 1 rfl) ?_
    refine lv_iconst (v := (0 : Int32)) hx hb dX8_copyRow_10 (by decide) ?_
    refine lv_aload_n hx hb dX8_copyRow_11 rfl (lv_at hl 0 rfl) ?_
    refine z_alen hx hb B 29 (v := (196 : Int32)) rfl rfl (by decide) dX8_copyRow_12 ?_
    obtain ⟨hg, hf⟩ := zg_some hf
    obtain ⟨g1, g2, g3, g4, g5⟩ := zcp_ok hg
    refine z_copyi hx hb (hml.trans hl.1.symm) hts hown (index := 415) (by decide +kernel) (by decide +kernel) (by decide +kernel) (by decide +kernel) B 29 5 rfl rfl g1 g2 g3 g4 g5 (Nat.le_of_ble_eq_true rfl) (Nat.le_of_ble_eq_true rfl) dX8_copyRow_13 (fun H locs B => ?_)
    refine W.widen (k := 0) (n := 0) (Nat.le_of_ble_eq_true rfl) (Nat.le_of_ble_eq_true rfl) ?_
    exact z_vret hx hb hr hlocks B hf dX8_copyRow_16
theorem dX8_copyRow_0 : decode cX8_copyRow 0 = .ok (.aload_n 0, 1) := by decide +kernel
theorem dX8_copyRow_1 : decode cX8_copyRow 1 = .ok (.arraylength, 1) := by decide +kernel
theorem dX8_copyRow_2 : decode cX8_copyRow 2 = .ok (.aload_n 1, 1) := by decide +kernel
theorem dX8_copyRow_3 : decode cX8_copyRow 3 = .ok (.arraylength, 1) := by decide +kernel
theorem dX8_copyRow_4 : decode cX8_copyRow 4 = .ok (.if_icmp .ne 12, 3) := by decide +kernel
theorem dX8_copyRow_7 : decode cX8_copyRow 7 = .ok (.aload_n 0, 1) := by decide +kernel
theorem dX8_copyRow_8 : decode cX8_copyRow 8 = .ok (.iconst 0, 1) := by decide +kernel
theorem dX8_copyRow_9 : decode cX8_copyRow 9 = .ok (.aload_n 1, 1) := by decide +kernel
theorem dX8_copyRow_10 : decode cX8_copyRow 10 = .ok (.iconst 0, 1) := by decide +kernel
theorem dX8_copyRow_11 : decode cX8_copyRow 11 = .ok (.aload_n 0, 1) := by decide +kernel
theorem dX8_copyRow_12 : decode cX8_copyRow 12 = .ok (.arraylength, 1) := by decide +kernel
theorem dX8_copyRow_13 : decode cX8_copyRow 13 = .ok (.invokestatic 415, 3) := by decide +kernel
theorem dX8_copyRow_16 : decode cX8_copyRow 16 = .ok (.return_, 1) := by decide +kernel
def rm_X8_copyRow_30_6 : Room := { frames := 1, cells := 0, slots := 0, locals := 200 }
set_option maxHeartbeats 4000000 in
set_option maxRecDepth 100000 in
theorem c_X8_copyRow_30_6 (l : Launch) {nb : Nat} {G : zG} {ad : Nat → Nat} {σ σ' : zs} {r : Int32} (hf : f_X8_copyRow_30_6 σ  = some (r, σ')) : zMv l yX8_copyRow wsX8_copyRow rm_X8_copyRow_30_6 G (zS nb) ad σ [.ref (ad 30), .ref (ad 6)] σ' := by
  intro sz
  refine Met.ofW (cc := cX8_copyRow) (maxL := 2) (ret := none) (by decide) rfl ?_
  intro p e s m args below meth c s₁ B hml hv
  obtain ⟨rfl, hsz, hv⟩ := hv
  have hx := B.exec
  have hb := B.bytes
  have hr := B.returns
  have hts := atoms_spec (ws := wsX8_copyRow) B.pre
  have hown : s.vm.findClass RX8 = some m.cls := findClass_of_methodNamed B.named
  have hlocks := B.notSynchronized
  subst hsz
  have B := zB_start hv
  have hl := lv_entry ([.ref (ad 30), .ref (ad 6)]) (n := 2) (Nat.le_of_ble_eq_true rfl)
  rw [lg_entry_eq]
  generalize (lg_sl ([.ref (ad 30), .ref (ad 6)]) ++ List.replicate (2 - (lg_sl ([.ref (ad 30), .ref (ad 6)])).length) Slot.unset).toArray = ls at hl ⊢
  have hl : lv_has ls 2 [(0, .ref (ad 30)), (1, .ref (ad 6))] := hl
  generalize hAe : zA ad (zS nb).length s.heap.size = A at B ⊢
  unfold f_X8_copyRow_30_6 at hf
  refine lv_aload_n hx hb dX8_copyRow_0 rfl (lv_at hl 0 rfl) ?_
  refine z_alen hx hb B 30 (v := (28 : Int32)) rfl rfl (by decide) dX8_copyRow_1 ?_
  refine lv_aload_n hx hb dX8_copyRow_2 rfl (lv_at hl 1 rfl) ?_
  refine z_alen hx hb B 6 (v := (28 : Int32)) rfl rfl (by decide) dX8_copyRow_3 ?_
  refine lv_icmp_ne (tgt := 16) hx hb dX8_copyRow_4 (by decide) (fun hc => ?_) (fun hc => ?_)
  · have hf := zif_f hc hf
    refine W.widen (k := 0) (n := 0) (Nat.le_of_ble_eq_true rfl) (Nat.le_of_ble_eq_true rfl) ?_
    exact z_vret hx hb hr hlocks B hf dX8_copyRow_16
  · have hf := zif_t hc hf
    refine lv_aload_n hx hb dX8_copyRow_7 rfl (lv_at hl 0 rfl) ?_
    refine lv_iconst (v := (0 : Int32)) hx hb dX8_copyRow_8 (by decide) ?_
    refine lv_aload_n hx hb dX8_copyRow_9 rfl (lv_at hl 1 rfl) ?_
    refine lv_iconst (v := (0 : Int32)) hx hb dX8_copyRow_10 (by decide) ?_
    refine lv_aload_n hx hb dX8_copyRow_11 rfl (lv_at hl 0 rfl) ?_
    refine z_alen hx hb B 30 (v := (28 : Int32)) rfl rfl (by decide) dX8_copyRow_12 ?_
    obtain ⟨hg, hf⟩ := zg_some hf
    obtain ⟨g1, g2, g3, g4, g5⟩ := zcp_ok hg
    refine z_copyi hx hb (hml.trans hl.1.symm) hts hown (index := 415) (by decide +kernel) (by decide +kernel) (by decide +kernel) (by decide +kernel) B 30 6 rfl rfl g1 g2 g3 g4 g5 (Nat.le_of_ble_eq_true rfl) (Nat.le_of_ble_eq_true rfl) dX8_copyRow_13 (fun H locs B => ?_)
    refine W.widen (k := 0) (n := 0) (Nat.le_of_ble_eq_true rfl) (Nat.le_of_ble_eq_true rfl) ?_
    exact z_vret hx hb hr hlocks B hf dX8_copyRow_16
theorem dX8_copyRow_0 : decode cX8_copyRow 0 = .ok (.aload_n 0, 1) := by decide +kernel
theorem dX8_copyRow_1 : decode cX8_copyRow 1 = .ok (.arraylength, 1) := by decide +kernel
theorem dX8_copyRow_2 : decode cX8_copyRow 2 = .ok (.aload_n 1, 1) := by decide +kernel
theorem dX8_copyRow_3 : decode cX8_copyRow 3 = .ok (.arraylength, 1) := by decide +kernel
theorem dX8_copyRow_4 : decode cX8_copyRow 4 = .ok (.if_icmp .ne 12, 3) := by decide +kernel
theorem dX8_copyRow_7 : decode cX8_copyRow 7 = .ok (.aload_n 0, 1) := by decide +kernel
theorem dX8_copyRow_8 : decode cX8_copyRow 8 = .ok (.iconst 0, 1) := by decide +kernel
theorem dX8_copyRow_9 : decode cX8_copyRow 9 = .ok (.aload_n 1, 1) := by decide +kernel
theorem dX8_copyRow_10 : decode cX8_copyRow 10 = .ok (.iconst 0, 1) := by decide +kernel
theorem dX8_copyRow_11 : decode cX8_copyRow 11 = .ok (.aload_n 0, 1) := by decide +kernel
theorem dX8_copyRow_12 : decode cX8_copyRow 12 = .ok (.arraylength, 1) := by decide +kernel
theorem dX8_copyRow_13 : decode cX8_copyRow 13 = .ok (.invokestatic 415, 3) := by decide +kernel
theorem dX8_copyRow_16 : decode cX8_copyRow 16 = .ok (.return_, 1) := by decide +kernel
def rm_X8_copyRow_31_7 : Room := { frames := 1, cells := 0, slots := 0, locals := 200 }
set_option maxHeartbeats 4000000 in
set_option maxRecDepth 100000 in
theorem c_X8_copyRow_31_7 (l : Launch) {nb : Nat} {G : zG} {ad : Nat → Nat} {σ σ' : zs} {r : Int32} (hf : f_X8_copyRow_31_7 σ  = some (r, σ')) : zMv l yX8_copyRow wsX8_copyRow rm_X8_copyRow_31_7 G (zS nb) ad σ [.ref (ad 31), .ref (ad 7)] σ' := by
  intro sz
  refine Met.ofW (cc := cX8_copyRow) (maxL := 2) (ret := none) (by decide) rfl ?_
  intro p e s m args below meth c s₁ B hml hv
  obtain ⟨rfl, hsz, hv⟩ := hv
  have hx := B.exec
  have hb := B.bytes
  have hr := B.returns
  have hts := atoms_spec (ws := wsX8_copyRow) B.pre
  have hown : s.vm.findClass RX8 = some m.cls := findClass_of_methodNamed B.named
  have hlocks := B.notSynchronized
  subst hsz
  have B := zB_start hv
  have hl := lv_entry ([.ref (ad 31), .ref (ad 7)]) (n := 2) (Nat.le_of_ble_eq_true rfl)
  rw [lg_entry_eq]
  generalize (lg_sl ([.ref (ad 31), .ref (ad 7)]) ++ List.replicate (2 - (lg_sl ([.ref (ad 31), .ref (ad 7)])).length) Slot.unset).toArray = ls at hl ⊢
  have hl : lv_has ls 2 [(0, .ref (ad 31)), (1, .ref (ad 7))] := hl
  generalize hAe : zA ad (zS nb).length s.heap.size = A at B ⊢
  unfold f_X8_copyRow_31_7 at hf
  refine lv_aload_n hx hb dX8_copyRow_0 rfl (lv_at hl 0 rfl) ?_
  refine z_alen hx hb B 31 (v := (28 : Int32)) rfl rfl (by decide) dX8_copyRow_1 ?_
  refine lv_aload_n hx hb dX8_copyRow_2 rfl (lv_at hl 1 rfl) ?_
  refine z_alen hx hb B 7 (v := (28 : Int32)) rfl rfl (by decide) dX8_copyRow_3 ?_
  refine lv_icmp_ne (tgt := 16) hx hb dX8_copyRow_4 (by decide) (fun hc => ?_) (fun hc => ?_)
  · have hf := zif_f hc hf
    refine W.widen (k := 0) (n := 0) (Nat.le_of_ble_eq_true rfl) (Nat.le_of_ble_eq_true rfl) ?_
    exact z_vret hx hb hr hlocks B hf dX8_copyRow_16
  · have hf := zif_t hc hf
    refine lv_aload_n hx hb dX8_copyRow_7 rfl (lv_at hl 0 rfl) ?_
    refine lv_iconst (v := (0 : Int32)) hx hb dX8_copyRow_8 (by decide) ?_
    refine lv_aload_n hx hb dX8_copyRow_9 rfl (lv_at hl 1 rfl) ?_
    refine lv_iconst (v := (0 : Int32)) hx hb dX8_copyRow_10 (by decide) ?_
    refine lv_aload_n hx hb dX8_copyRow_11 rfl (lv_at hl 0 rfl) ?_
    refine z_alen hx hb B 31 (v := (28 : Int32)) rfl rfl (by decide) dX8_copyRow_12 ?_
    obtain ⟨hg, hf⟩ := zg_some hf
    obtain ⟨g1, g2, g3, g4, g5⟩ := zcp_ok hg
    refine z_copyi hx hb (hml.trans hl.1.symm) hts hown (index := 415) (by decide +kernel) (by decide +kernel) (by decide +kernel) (by decide +kernel) B 31 7 rfl rfl g1 g2 g3 g4 g5 (Nat.le_of_ble_eq_true rfl) (Nat.le_of_ble_eq_true rfl) dX8_copyRow_13 (fun H locs B => ?_)
    refine W.widen (k := 0) (n := 0) (Nat.le_of_ble_eq_true rfl) (Nat.le_of_ble_eq_true rfl) ?_
    exact z_vret hx hb hr hlocks B hf dX8_copyRow_16
theorem dX8_copyRow_0 : decode cX8_copyRow 0 = .ok (.aload_n 0, 1) := by decide +kernel
theorem dX8_copyRow_1 : decode cX8_copyRow 1 = .ok (.arraylength, 1) := by decide +kernel
theorem dX8_copyRow_2 : decode cX8_copyRow 2 = .ok (.aload_n 1, 1) := by decide +kernel
theorem dX8_copyRow_3 : decode cX8_copyRow 3 = .ok (.arraylength, 1) := by decide +kernel
theorem dX8_copyRow_4 : decode cX8_copyRow 4 = .ok (.if_icmp .ne 12, 3) := by decide +kernel
theorem dX8_copyRow_7 : decode cX8_copyRow 7 = .ok (.aload_n 0, 1) := by decide +kernel
theorem dX8_copyRow_8 : decode cX8_copyRow 8 = .ok (.iconst 0, 1) := by decide +kernel
theorem dX8_copyRow_9 : decode cX8_copyRow 9 = .ok (.aload_n 1, 1) := by decide +kernel
theorem dX8_copyRow_10 : decode cX8_copyRow 10 = .ok (.iconst 0, 1) := by decide +kernel
theorem dX8_copyRow_11 : decode cX8_copyRow 11 = .ok (.aload_n 0, 1) := by decide +kernel
theorem dX8_copyRow_12 : decode cX8_copyRow 12 = .ok (.arraylength, 1) := by decide +kernel
theorem dX8_copyRow_13 : decode cX8_copyRow 13 = .ok (.invokestatic 415, 3) := by decide +kernel
theorem dX8_copyRow_16 : decode cX8_copyRow 16 = .ok (.return_, 1) := by decide +kernel
def rm_X8_copyRow_32_8 : Room := { frames := 1, cells := 0, slots := 0, locals := 200 }
set_option maxHeartbeats 4000000 in
set_option maxRecDepth 100000 in
theorem c_X8_copyRow_32_8 (l : Launch) {nb : Nat} {G : zG} {ad : Nat → Nat} {σ σ' : zs} {r : Int32} (hf : f_X8_copyRow_32_8 σ  = some (r, σ')) : zMv l yX8_copyRow wsX8_copyRow rm_X8_copyRow_32_8 G (zS nb) ad σ [.ref (ad 32), .ref (ad 8)] σ' := by
  intro sz
  refine Met.ofW (cc := cX8_copyRow) (maxL := 2) (ret := none) (by decide) rfl ?_
  intro p e s m args below meth c s₁ B hml hv
  obtain ⟨rfl, hsz, hv⟩ := hv
  have hx := B.exec
  have hb := B.bytes
  have hr := B.returns
  have hts := atoms_spec (ws := wsX8_copyRow) B.pre
  have hown : s.vm.findClass RX8 = some m.cls := findClass_of_methodNamed B.named
  have hlocks := B.notSynchronized
  subst hsz
  have B := zB_start hv
  have hl := lv_entry ([.ref (ad 32), .ref (ad 8)]) (n := 2) (Nat.le_of_ble_eq_true rfl)
  rw [lg_entry_eq]
  generalize (lg_sl ([.ref (ad 32), .ref (ad 8)]) ++ List.replicate (2 - (lg_sl ([.ref (ad 32), .ref (ad 8)])).length) Slot.unset).toArray = ls at hl ⊢
  have hl : lv_has ls 2 [(0, .ref (ad 32)), (1, .ref (ad 8))] := hl
  generalize hAe : zA ad (zS nb).length s.heap.size = A at B ⊢
  unfold f_X8_copyRow_32_8 at hf
  refine lv_aload_n hx hb dX8_copyRow_0 rfl (lv_at hl 0 rfl) ?_
  refine z_alen hx hb B 32 (v := (28 : Int32)) rfl rfl (by decide) dX8_copyRow_1 ?_
  refine lv_aload_n hx hb dX8_copyRow_2 rfl (lv_at hl 1 rfl) ?_
  refine z_alen hx hb B 8 (v := (28 : Int32)) rfl rfl (by decide) dX8_copyRow_3 ?_
  refine lv_icmp_ne (tgt := 16) hx hb dX8_copyRow_4 (by decide) (fun hc => ?_) (fun hc => ?_)
  · have hf := zif_f hc hf
    refine W.widen (k := 0) (n := 0) (Nat.le_of_ble_eq_true rfl) (Nat.le_of_ble_eq_true rfl) ?_
    exact z_vret hx hb hr hlocks B hf dX8_copyRow_16
  · have hf := zif_t hc hf
    refine lv_aload_n hx hb dX8_copyRow_7 rfl (lv_at hl 0 rfl) ?_
    refine lv_iconst (v := (0 : Int32)) hx hb dX8_copyRow_8 (by decide) ?_
    refine lv_aload_n hx hb dX8_copyRow_9 rfl (lv_at hl 1 rfl) ?_
    refine lv_iconst (v := (0 : Int32)) hx hb dX8_copyRow_10 (by decide) ?_
    refine lv_aload_n hx hb dX8_copyRow_11 rfl (lv_at hl 0 rfl) ?_
    refine z_alen hx hb B 32 (v := (28 : Int32)) rfl rfl (by decide) dX8_copyRow_12 ?_
    obtain ⟨hg, hf⟩ := zg_some hf
    obtain ⟨g1, g2, g3, g4, g5⟩ := zcp_ok hg
    refine z_copyi hx hb (hml.trans hl.1.symm) hts hown (index := 415) (by decide +kernel) (by decide +kernel) (by decide +kernel) (by decide +kernel) B 32 8 rfl rfl g1 g2 g3 g4 g5 (Nat.le_of_ble_eq_true rfl) (Nat.le_of_ble_eq_true rfl) dX8_copyRow_13 (fun H locs B => ?_)
    refine W.widen (k := 0) (n := 0) (Nat.le_of_ble_eq_true rfl) (Nat.le_of_ble_eq_true rfl) ?_
    exact z_vret hx hb hr hlocks B hf dX8_copyRow_16
theorem dX8_copyRow_0 : decode cX8_copyRow 0 = .ok (.aload_n 0, 1) := by decide +kernel
theorem dX8_copyRow_1 : decode cX8_copyRow 1 = .ok (.arraylength, 1) := by decide +kernel
theorem dX8_copyRow_2 : decode cX8_copyRow 2 = .ok (.aload_n 1, 1) := by decide +kernel
theorem dX8_copyRow_3 : decode cX8_copyRow 3 = .ok (.arraylength, 1) := by decide +kernel
theorem dX8_copyRow_4 : decode cX8_copyRow 4 = .ok (.if_icmp .ne 12, 3) := by decide +kernel
theorem dX8_copyRow_7 : decode cX8_copyRow 7 = .ok (.aload_n 0, 1) := by decide +kernel
theorem dX8_copyRow_8 : decode cX8_copyRow 8 = .ok (.iconst 0, 1) := by decide +kernel
theorem dX8_copyRow_9 : decode cX8_copyRow 9 = .ok (.aload_n 1, 1) := by decide +kernel
theorem dX8_copyRow_10 : decode cX8_copyRow 10 = .ok (.iconst 0, 1) := by decide +kernel
theorem dX8_copyRow_11 : decode cX8_copyRow 11 = .ok (.aload_n 0, 1) := by decide +kernel
theorem dX8_copyRow_12 : decode cX8_copyRow 12 = .ok (.arraylength, 1) := by decide +kernel
theorem dX8_copyRow_13 : decode cX8_copyRow 13 = .ok (.invokestatic 415, 3) := by decide +kernel
theorem dX8_copyRow_16 : decode cX8_copyRow 16 = .ok (.return_, 1) := by decide +kernel
def rm_X8_copyRow_33_9 : Room := { frames := 1, cells := 0, slots := 0, locals := 200 }
set_option maxHeartbeats 4000000 in
set_option maxRecDepth 100000 in
theorem c_X8_copyRow_33_9 (l : Launch) {nb : Nat} {G : zG} {ad : Nat → Nat} {σ σ' : zs} {r : Int32} (hf : f_X8_copyRow_33_9 σ  = some (r, σ')) : zMv l yX8_copyRow wsX8_copyRow rm_X8_copyRow_33_9 G (zS nb) ad σ [.ref (ad 33), .ref (ad 9)] σ' := by
  intro sz
  refine Met.ofW (cc := cX8_copyRow) (maxL := 2) (ret := none) (by decide) rfl ?_
  intro p e s m args below meth c s₁ B hml hv
  obtain ⟨rfl, hsz, hv⟩ := hv
  have hx := B.exec
  have hb := B.bytes
  have hr := B.returns
  have hts := atoms_spec (ws := wsX8_copyRow) B.pre
  have hown : s.vm.findClass RX8 = some m.cls := findClass_of_methodNamed B.named
  have hlocks := B.notSynchronized
  subst hsz
  have B := zB_start hv
  have hl := lv_entry ([.ref (ad 33), .ref (ad 9)]) (n := 2) (Nat.le_of_ble_eq_true rfl)
  rw [lg_entry_eq]
  generalize (lg_sl ([.ref (ad 33), .ref (ad 9)]) ++ List.replicate (2 - (lg_sl ([.ref (ad 33), .ref (ad 9)])).length) Slot.unset).toArray = ls at hl ⊢
  have hl : lv_has ls 2 [(0, .ref (ad 33)), (1, .ref (ad 9))] := hl
  generalize hAe : zA ad (zS nb).length s.heap.size = A at B ⊢
  unfold f_X8_copyRow_33_9 at hf
  refine lv_aload_n hx hb dX8_copyRow_0 rfl (lv_at hl 0 rfl) ?_
  refine z_alen hx hb B 33 (v := (28 : Int32)) rfl rfl (by decide) dX8_copyRow_1 ?_
  refine lv_aload_n hx hb dX8_copyRow_2 rfl (lv_at hl 1 rfl) ?_
  refine z_alen hx hb B 9 (v := (28 : Int32)) rfl rfl (by decide) dX8_copyRow_3 ?_
  refine lv_icmp_ne (tgt := 16) hx hb dX8_copyRow_4 (by decide) (fun hc => ?_) (fun hc => ?_)
  · have hf := zif_f hc hf
    refine W.widen (k := 0) (n := 0) (Nat.le_of_ble_eq_true rfl) (Nat.le_of_ble_eq_true rfl) ?_
    exact z_vret hx hb hr hlocks B hf dX8_copyRow_16
  · have hf := zif_t hc hf
    refine lv_aload_n hx hb dX8_copyRow_7 rfl (lv_at hl 0 rfl) ?_
    refine lv_iconst (v := (0 : Int32)) hx hb dX8_copyRow_8 (by decide) ?_
    refine lv_aload_n hx hb dX8_copyRow_9 rfl (lv_at hl 1 rfl) ?_
    refine lv_iconst (v := (0 : Int32)) hx hb dX8_copyRow_10 (by decide) ?_
    refine lv_aload_n hx hb dX8_copyRow_11 rfl (lv_at hl 0 rfl) ?_
    refine z_alen hx hb B 33 (v := (28 : Int32)) rfl rfl (by decide) dX8_copyRow_12 ?_
    obtain ⟨hg, hf⟩ := zg_some hf
    obtain ⟨g1, g2, g3, g4, g5⟩ := zcp_ok hg
    refine z_copyi hx hb (hml.trans hl.1.symm) hts hown (index := 415) (by decide +kernel) (by decide +kernel) (by decide +kernel) (by decide +kernel) B 33 9 rfl rfl g1 g2 g3 g4 g5 (Nat.le_of_ble_eq_true rfl) (Nat.le_of_ble_eq_true rfl) dX8_copyRow_13 (fun H locs B => ?_)
    refine W.widen (k := 0) (n := 0) (Nat.le_of_ble_eq_true rfl) (Nat.le_of_ble_eq_true rfl) ?_
    exact z_vret hx hb hr hlocks B hf dX8_copyRow_16
theorem dX8_copyRow_0 : decode cX8_copyRow 0 = .ok (.aload_n 0, 1) := by decide +kernel
theorem dX8_copyRow_1 : decode cX8_copyRow 1 = .ok (.arraylength, 1) := by decide +kernel
theorem dX8_copyRow_2 : decode cX8_copyRow 2 = .ok (.aload_n 1, 1) := by decide +kernel
theorem dX8_copyRow_3 : decode cX8_copyRow 3 = .ok (.arraylength, 1) := by decide +kernel
theorem dX8_copyRow_4 : decode cX8_copyRow 4 = .ok (.if_icmp .ne 12, 3) := by decide +kernel
theorem dX8_copyRow_7 : decode cX8_copyRow 7 = .ok (.aload_n 0, 1) := by decide +kernel
theorem dX8_copyRow_8 : decode cX8_copyRow 8 = .ok (.iconst 0, 1) := by decide +kernel
theorem dX8_copyRow_9 : decode cX8_copyRow 9 = .ok (.aload_n 1, 1) := by decide +kernel
theorem dX8_copyRow_10 : decode cX8_copyRow 10 = .ok (.iconst 0, 1) := by decide +kernel
theorem dX8_copyRow_11 : decode cX8_copyRow 11 = .ok (.aload_n 0, 1) := by decide +kernel
theorem dX8_copyRow_12 : decode cX8_copyRow 12 = .ok (.arraylength, 1) := by decide +kernel
theorem dX8_copyRow_13 : decode cX8_copyRow 13 = .ok (.invokestatic 415, 3) := by decide +kernel
theorem dX8_copyRow_16 : decode cX8_copyRow 16 = .ok (.return_, 1) := by decide +kernel
def rm_X8_copyRow_34_10 : Room := { frames := 1, cells := 0, slots := 0, locals := 200 }
set_option maxHeartbeats 4000000 in
set_option maxRecDepth 100000 in
theorem c_X8_copyRow_34_10 (l : Launch) {nb : Nat} {G : zG} {ad : Nat → Nat} {σ σ' : zs} {r : Int32} (hf : f_X8_copyRow_34_10 σ  = some (r, σ')) : zMv l yX8_copyRow wsX8_copyRow rm_X8_copyRow_34_10 G (zS nb) ad σ [.ref (ad 34), .ref (ad 10)] σ' := by
  intro sz
  refine Met.ofW (cc := cX8_copyRow) (maxL := 2) (ret := none) (by decide) rfl ?_
  intro p e s m args below meth c s₁ B hml hv
  obtain ⟨rfl, hsz, hv⟩ := hv
  have hx := B.exec
  have hb := B.bytes
  have hr := B.returns
  have hts := atoms_spec (ws := wsX8_copyRow) B.pre
  have hown : s.vm.findClass RX8 = some m.cls := findClass_of_methodNamed B.named
  have hlocks := B.notSynchronized
  subst hsz
  have B := zB_start hv
  have hl := lv_entry ([.ref (ad 34), .ref (ad 10)]) (n := 2) (Nat.le_of_ble_eq_true rfl)
  rw [lg_entry_eq]
  generalize (lg_sl ([.ref (ad 34), .ref (ad 10)]) ++ List.replicate (2 - (lg_sl ([.ref (ad 34), .ref (ad 10)])).length) Slot.unset).toArray = ls at hl ⊢
  have hl : lv_has ls 2 [(0, .ref (ad 34)), (1, .ref (ad 10))] := hl
  generalize hAe : zA ad (zS nb).length s.heap.size = A at B ⊢
  unfold f_X8_copyRow_34_10 at hf
  refine lv_aload_n hx hb dX8_copyRow_0 rfl (lv_at hl 0 rfl) ?_
  refine z_alen hx hb B 34 (v := (112 : Int32)) rfl rfl (by decide) dX8_copyRow_1 ?_
  refine lv_aload_n hx hb dX8_copyRow_2 rfl (lv_at hl 1 rfl) ?_
  refine z_alen hx hb B 10 (v := (112 : Int32)) rfl rfl (by decide) dX8_copyRow_3 ?_
  refine lv_icmp_ne (tgt := 16) hx hb dX8_copyRow_4 (by decide) (fun hc => ?_) (fun hc => ?_)
  · have hf := zif_f hc hf
    refine W.widen (k := 0) (n := 0) (Nat.le_of_ble_eq_true rfl) (Nat.le_of_ble_eq_true rfl) ?_
    exact z_vret hx hb hr hlocks B hf dX8_copyRow_16
  · have hf := zif_t hc hf
    refine lv_aload_n hx hb dX8_copyRow_7 rfl (lv_at hl 0 rfl) ?_
    refine lv_iconst (v := (0 : Int32)) hx hb dX8_copyRow_8 (by decide) ?_
    refine lv_aload_n hx hb dX8_copyRow_9 rfl (lv_at hl 1 rfl) ?_
    refine lv_iconst (v := (0 : Int32)) hx hb dX8_copyRow_10 (by decide) ?_
    refine lv_aload_n hx hb dX8_copyRow_11 rfl (lv_at hl 0 rfl) ?_
    refine z_alen hx hb B 34 (v := (112 : Int32)) rfl rfl (by decide) dX8_copyRow_12 ?_
    obtain ⟨hg, hf⟩ := zg_some hf
    obtain ⟨g1, g2, g3, g4, g5⟩ := zcp_ok hg
    refine z_copyi hx hb (hml.trans hl.1.symm) hts hown (index := 415) (by decide +kernel) (by decide +kernel) (by decide +kernel) (by decide +kernel) B 34 10 rfl rfl g1 g2 g3 g4 g5 (Nat.le_of_ble_eq_true rfl) (Nat.le_of_ble_eq_true rfl) dX8_copyRow_13 (fun H locs B => ?_)
    refine W.widen (k := 0) (n := 0) (Nat.le_of_ble_eq_true rfl) (Nat.le_of_ble_eq_true rfl) ?_
    exact z_vret hx hb hr hlocks B hf dX8_copyRow_16
theorem dX8_copyRow_0 : decode cX8_copyRow 0 = .ok (.aload_n 0, 1) := by decide +kernel
theorem dX8_copyRow_1 : decode cX8_copyRow 1 = .ok (.arraylength, 1) := by decide +kernel
theorem dX8_copyRow_2 : decode cX8_copyRow 2 = .ok (.aload_n 1, 1) := by decide +kernel
theorem dX8_copyRow_3 : decode cX8_copyRow 3 = .ok (.arraylength, 1) := by decide +kernel
theorem dX8_copyRow_4 : decode cX8_copyRow 4 = .ok (.if_icmp .ne 12, 3) := by decide +kernel
theorem dX8_copyRow_7 : decode cX8_copyRow 7 = .ok (.aload_n 0, 1) := by decide +kernel
theorem dX8_copyRow_8 : decode cX8_copyRow 8 = .ok (.iconst 0, 1) := by decide +kernel
theorem dX8_copyRow_9 : decode cX8_copyRow 9 = .ok (.aload_n 1, 1) := by decide +kernel
theorem dX8_copyRow_10 : decode cX8_copyRow 10 = .ok (.iconst 0, 1) := by decide +kernel
theorem dX8_copyRow_11 : decode cX8_copyRow 11 = .ok (.aload_n 0, 1) := by decide +kernel
theorem dX8_copyRow_12 : decode cX8_copyRow 12 = .ok (.arraylength, 1) := by decide +kernel
theorem dX8_copyRow_13 : decode cX8_copyRow 13 = .ok (.invokestatic 415, 3) := by decide +kernel
theorem dX8_copyRow_16 : decode cX8_copyRow 16 = .ok (.return_, 1) := by decide +kernel
def rm_X8_copyRow_35_11 : Room := { frames := 1, cells := 0, slots := 0, locals := 200 }
set_option maxHeartbeats 4000000 in
set_option maxRecDepth 100000 in
theorem c_X8_copyRow_35_11 (l : Launch) {nb : Nat} {G : zG} {ad : Nat → Nat} {σ σ' : zs} {r : Int32} (hf : f_X8_copyRow_35_11 σ  = some (r, σ')) : zMv l yX8_copyRow wsX8_copyRow rm_X8_copyRow_35_11 G (zS nb) ad σ [.ref (ad 35), .ref (ad 11)] σ' := by
  intro sz
  refine Met.ofW (cc := cX8_copyRow) (maxL := 2) (ret := none) (by decide) rfl ?_
  intro p e s m args below meth c s₁ B hml hv
  obtain ⟨rfl, hsz, hv⟩ := hv
  have hx := B.exec
  have hb := B.bytes
  have hr := B.returns
  have hts := atoms_spec (ws := wsX8_copyRow) B.pre
  have hown : s.vm.findClass RX8 = some m.cls := findClass_of_methodNamed B.named
  have hlocks := B.notSynchronized
  subst hsz
  have B := zB_start hv
  have hl := lv_entry ([.ref (ad 35), .ref (ad 11)]) (n := 2) (Nat.le_of_ble_eq_true rfl)
  rw [lg_entry_eq]
  generalize (lg_sl ([.ref (ad 35), .ref (ad 11)]) ++ List.replicate (2 - (lg_sl ([.ref (ad 35), .ref (ad 11)])).length) Slot.unset).toArray = ls at hl ⊢
  have hl : lv_has ls 2 [(0, .ref (ad 35)), (1, .ref (ad 11))] := hl
  generalize hAe : zA ad (zS nb).length s.heap.size = A at B ⊢
  unfold f_X8_copyRow_35_11 at hf
  refine lv_aload_n hx hb dX8_copyRow_0 rfl (lv_at hl 0 rfl) ?_
  refine z_alen hx hb B 35 (v := (112 : Int32)) rfl rfl (by decide) dX8_copyRow_1 ?_
  refine lv_aload_n hx hb dX8_copyRow_2 rfl (lv_at hl 1 rfl) ?_
  refine z_alen hx hb B 11 (v := (112 : Int32)) rfl rfl (by decide) dX8_copyRow_3 ?_
  refine lv_icmp_ne (tgt := 16) hx hb dX8_copyRow_4 (by decide) (fun hc => ?_) (fun hc => ?_)
  · have hf := zif_f hc hf
    refine W.widen (k := 0) (n := 0) (Nat.le_of_ble_eq_true rfl) (Nat.le_of_ble_eq_true rfl) ?_
    exact z_vret hx hb hr hlocks B hf dX8_copyRow_16
  · have hf := zif_t hc hf
    refine lv_aload_n hx hb dX8_copyRow_7 rfl (lv_at hl 0 rfl) ?_
    refine lv_iconst (v := (0 : Int32)) hx hb dX8_copyRow_8 (by decide) ?_
    refine lv_aload_n hx hb dX8_copyRow_9 rfl (lv_at hl 1 rfl) ?_
    refine lv_iconst (v := (0 : Int32)) hx hb dX8_copyRow_10 (by decide) ?_
    refine lv_aload_n hx hb dX8_copyRow_11 rfl (lv_at hl 0 rfl) ?_
    refine z_alen hx hb B 35 (v := (112 : Int32)) rfl rfl (by decide) dX8_copyRow_12 ?_
    obtain ⟨hg, hf⟩ := zg_some hf
    obtain ⟨g1, g2, g3, g4, g5⟩ := zcp_ok hg
    refine z_copyi hx hb (hml.trans hl.1.symm) hts hown (index := 415) (by decide +kernel) (by decide +kernel) (by decide +kernel) (by decide +kernel) B 35 11 rfl rfl g1 g2 g3 g4 g5 (Nat.le_of_ble_eq_true rfl) (Nat.le_of_ble_eq_true rfl) dX8_copyRow_13 (fun H locs B => ?_)
    refine W.widen (k := 0) (n := 0) (Nat.le_of_ble_eq_true rfl) (Nat.le_of_ble_eq_true rfl) ?_
    exact z_vret hx hb hr hlocks B hf dX8_copyRow_16
theorem dX8_copyRow_0 : decode cX8_copyRow 0 = .ok (.aload_n 0, 1) := by decide +kernel
theorem dX8_copyRow_1 : decode cX8_copyRow 1 = .ok (.arraylength, 1) := by decide +kernel
theorem dX8_copyRow_2 : decode cX8_copyRow 2 = .ok (.aload_n 1, 1) := by decide +kernel
theorem dX8_copyRow_3 : decode cX8_copyRow 3 = .ok (.arraylength, 1) := by decide +kernel
theorem dX8_copyRow_4 : decode cX8_copyRow 4 = .ok (.if_icmp .ne 12, 3) := by decide +kernel
theorem dX8_copyRow_7 : decode cX8_copyRow 7 = .ok (.aload_n 0, 1) := by decide +kernel
theorem dX8_copyRow_8 : decode cX8_copyRow 8 = .ok (.iconst 0, 1) := by decide +kernel
theorem dX8_copyRow_9 : decode cX8_copyRow 9 = .ok (.aload_n 1, 1) := by decide +kernel
theorem dX8_copyRow_10 : decode cX8_copyRow 10 = .ok (.iconst 0, 1) := by decide +kernel
theorem dX8_copyRow_11 : decode cX8_copyRow 11 = .ok (.aload_n 0, 1) := by decide +kernel
theorem dX8_copyRow_12 : decode cX8_copyRow 12 = .ok (.arraylength, 1) := by decide +kernel
theorem dX8_copyRow_13 : decode cX8_copyRow 13 = .ok (.invokestatic 415, 3) := by decide +kernel
theorem dX8_copyRow_16 : decode cX8_copyRow 16 = .ok (.return_, 1) := by decide +kernel
def rm_X8_copyRow_36_12 : Room := { frames := 1, cells := 0, slots := 0, locals := 200 }
set_option maxHeartbeats 4000000 in
set_option maxRecDepth 100000 in
theorem c_X8_copyRow_36_12 (l : Launch) {nb : Nat} {G : zG} {ad : Nat → Nat} {σ σ' : zs} {r : Int32} (hf : f_X8_copyRow_36_12 σ  = some (r, σ')) : zMv l yX8_copyRow wsX8_copyRow rm_X8_copyRow_36_12 G (zS nb) ad σ [.ref (ad 36), .ref (ad 12)] σ' := by
  intro sz
  refine Met.ofW (cc := cX8_copyRow) (maxL := 2) (ret := none) (by decide) rfl ?_
  intro p e s m args below meth c s₁ B hml hv
  obtain ⟨rfl, hsz, hv⟩ := hv
  have hx := B.exec
  have hb := B.bytes
  have hr := B.returns
  have hts := atoms_spec (ws := wsX8_copyRow) B.pre
  have hown : s.vm.findClass RX8 = some m.cls := findClass_of_methodNamed B.named
  have hlocks := B.notSynchronized
  subst hsz
  have B := zB_start hv
  have hl := lv_entry ([.ref (ad 36), .ref (ad 12)]) (n := 2) (Nat.le_of_ble_eq_true rfl)
  rw [lg_entry_eq]
  generalize (lg_sl ([.ref (ad 36), .ref (ad 12)]) ++ List.replicate (2 - (lg_sl ([.ref (ad 36), .ref (ad 12)])).length) Slot.unset).toArray = ls at hl ⊢
  have hl : lv_has ls 2 [(0, .ref (ad 36)), (1, .ref (ad 12))] := hl
  generalize hAe : zA ad (zS nb).length s.heap.size = A at B ⊢
  unfold f_X8_copyRow_36_12 at hf
  refine lv_aload_n hx hb dX8_copyRow_0 rfl (lv_at hl 0 rfl) ?_
  refine z_alen hx hb B 36 (v := (112 : Int32)) rfl rfl (by decide) dX8_copyRow_1 ?_
  refine lv_aload_n hx hb dX8_copyRow_2 rfl (lv_at hl 1 rfl) ?_
  refine z_alen hx hb B 12 (v := (112 : Int32)) rfl rfl (by decide) dX8_copyRow_3 ?_
  refine lv_icmp_ne (tgt := 16) hx hb dX8_copyRow_4 (by decide) (fun hc => ?_) (fun hc => ?_)
  · have hf := zif_f hc hf
    refine W.widen (k := 0) (n := 0) (Nat.le_of_ble_eq_true rfl) (Nat.le_of_ble_eq_true rfl) ?_
    exact z_vret hx hb hr hlocks B hf dX8_copyRow_16
  · have hf := zif_t hc hf
    refine lv_aload_n hx hb dX8_copyRow_7 rfl (lv_at hl 0 rfl) ?_
    refine lv_iconst (v := (0 : Int32)) hx hb dX8_copyRow_8 (by decide) ?_
    refine lv_aload_n hx hb dX8_copyRow_9 rfl (lv_at hl 1 rfl) ?_
    refine lv_iconst (v := (0 : Int32)) hx hb dX8_copyRow_10 (by decide) ?_
    refine lv_aload_n hx hb dX8_copyRow_11 rfl (lv_at hl 0 rfl) ?_
    refine z_alen hx hb B 36 (v := (112 : Int32)) rfl rfl (by decide) dX8_copyRow_12 ?_
    obtain ⟨hg, hf⟩ := zg_some hf
    obtain ⟨g1, g2, g3, g4, g5⟩ := zcp_ok hg
    refine z_copyi hx hb (hml.trans hl.1.symm) hts hown (index := 415) (by decide +kernel) (by decide +kernel) (by decide +kernel) (by decide +kernel) B 36 12 rfl rfl g1 g2 g3 g4 g5 (Nat.le_of_ble_eq_true rfl) (Nat.le_of_ble_eq_true rfl) dX8_copyRow_13 (fun H locs B => ?_)
    refine W.widen (k := 0) (n := 0) (Nat.le_of_ble_eq_true rfl) (Nat.le_of_ble_eq_true rfl) ?_
    exact z_vret hx hb hr hlocks B hf dX8_copyRow_16
theorem dX7_copyFrom_0 : decode cX7_copyFrom 0 = .ok (.aload_n 0, 1) := by decide +kernel
theorem dX7_copyFrom_1 : decode cX7_copyFrom 1 = .ok (.aload_n 1, 1) := by decide +kernel
theorem dX7_copyFrom_2 : decode cX7_copyFrom 2 = .ok (.getfield 49, 3) := by decide +kernel
theorem dX7_copyFrom_5 : decode cX7_copyFrom 5 = .ok (.putfield 49, 3) := by decide +kernel
theorem dX7_copyFrom_8 : decode cX7_copyFrom 8 = .ok (.aload_n 1, 1) := by decide +kernel
theorem dX7_copyFrom_9 : decode cX7_copyFrom 9 = .ok (.getfield 9, 3) := by decide +kernel
theorem dX7_copyFrom_12 : decode cX7_copyFrom 12 = .ok (.aload_n 0, 1) := by decide +kernel
theorem dX7_copyFrom_13 : decode cX7_copyFrom 13 = .ok (.getfield 9, 3) := by decide +kernel
theorem dX7_copyFrom_16 : decode cX7_copyFrom 16 = .ok (.invokestatic 53, 3) := by decide +kernel
theorem dX7_copyFrom_19 : decode cX7_copyFrom 19 = .ok (.aload_n 1, 1) := by decide +kernel
theorem dX7_copyFrom_20 : decode cX7_copyFrom 20 = .ok (.getfield 15, 3) := by decide +kernel
theorem dX7_copyFrom_23 : decode cX7_copyFrom 23 = .ok (.aload_n 0, 1) := by decide +kernel
theorem dX7_copyFrom_24 : decode cX7_copyFrom 24 = .ok (.getfield 15, 3) := by decide +kernel
theorem dX7_copyFrom_27 : decode cX7_copyFrom 27 = .ok (.invokestatic 53, 3) := by decide +kernel
theorem dX7_copyFrom_30 : decode cX7_copyFrom 30 = .ok (.aload_n 1, 1) := by decide +kernel
theorem dX7_copyFrom_31 : decode cX7_copyFrom 31 = .ok (.getfield 18, 3) := by decide +kernel
theorem dX7_copyFrom_34 : decode cX7_copyFrom 34 = .ok (.aload_n 0, 1) := by decide +kernel
theorem dX7_copyFrom_35 : decode cX7_copyFrom 35 = .ok (.getfield 18, 3) := by decide +kernel
theorem dX7_copyFrom_38 : decode cX7_copyFrom 38 = .ok (.invokestatic 53, 3) := by decide +kernel
theorem dX7_copyFrom_41 : decode cX7_copyFrom 41 = .ok (.aload_n 1, 1) := by decide +kernel
theorem dX7_copyFrom_42 : decode cX7_copyFrom 42 = .ok (.getfield 21, 3) := by decide +kernel
theorem dX7_copyFrom_45 : decode cX7_copyFrom 45 = .ok (.aload_n 0, 1) := by decide +kernel
theorem dX7_copyFrom_46 : decode cX7_copyFrom 46 = .ok (.getfield 21, 3) := by decide +kernel
theorem dX7_copyFrom_49 : decode cX7_copyFrom 49 = .ok (.invokestatic 53, 3) := by decide +kernel
theorem dX7_copyFrom_52 : decode cX7_copyFrom 52 = .ok (.aload_n 1, 1) := by decide +kernel
theorem dX7_copyFrom_53 : decode cX7_copyFrom 53 = .ok (.getfield 24, 3) := by decide +kernel
theorem dX7_copyFrom_56 : decode cX7_copyFrom 56 = .ok (.aload_n 0, 1) := by decide +kernel
theorem dX7_copyFrom_57 : decode cX7_copyFrom 57 = .ok (.getfield 24, 3) := by decide +kernel
theorem dX7_copyFrom_60 : decode cX7_copyFrom 60 = .ok (.invokestatic 53, 3) := by decide +kernel
theorem dX7_copyFrom_63 : decode cX7_copyFrom 63 = .ok (.aload_n 1, 1) := by decide +kernel
theorem dX7_copyFrom_64 : decode cX7_copyFrom 64 = .ok (.getfield 27, 3) := by decide +kernel
theorem dX7_copyFrom_67 : decode cX7_copyFrom 67 = .ok (.aload_n 0, 1) := by decide +kernel
theorem dX7_copyFrom_68 : decode cX7_copyFrom 68 = .ok (.getfield 27, 3) := by decide +kernel
theorem dX7_copyFrom_71 : decode cX7_copyFrom 71 = .ok (.invokestatic 53, 3) := by decide +kernel
theorem dX7_copyFrom_74 : decode cX7_copyFrom 74 = .ok (.aload_n 1, 1) := by decide +kernel
theorem dX7_copyFrom_75 : decode cX7_copyFrom 75 = .ok (.getfield 30, 3) := by decide +kernel
theorem dX7_copyFrom_78 : decode cX7_copyFrom 78 = .ok (.aload_n 0, 1) := by decide +kernel
theorem dX7_copyFrom_79 : decode cX7_copyFrom 79 = .ok (.getfield 30, 3) := by decide +kernel
theorem dX7_copyFrom_82 : decode cX7_copyFrom 82 = .ok (.invokestatic 53, 3) := by decide +kernel
theorem dX7_copyFrom_85 : decode cX7_copyFrom 85 = .ok (.aload_n 1, 1) := by decide +kernel
theorem dX7_copyFrom_86 : decode cX7_copyFrom 86 = .ok (.getfield 33, 3) := by decide +kernel
theorem dX7_copyFrom_89 : decode cX7_copyFrom 89 = .ok (.aload_n 0, 1) := by decide +kernel
theorem dX7_copyFrom_90 : decode cX7_copyFrom 90 = .ok (.getfield 33, 3) := by decide +kernel
theorem dX7_copyFrom_93 : decode cX7_copyFrom 93 = .ok (.invokestatic 53, 3) := by decide +kernel
theorem dX7_copyFrom_96 : decode cX7_copyFrom 96 = .ok (.aload_n 1, 1) := by decide +kernel
theorem dX7_copyFrom_97 : decode cX7_copyFrom 97 = .ok (.getfield 36, 3) := by decide +kernel
theorem dX7_copyFrom_100 : decode cX7_copyFrom 100 = .ok (.aload_n 0, 1) := by decide +kernel
theorem dX7_copyFrom_101 : decode cX7_copyFrom 101 = .ok (.getfield 36, 3) := by decide +kernel
theorem dX7_copyFrom_104 : decode cX7_copyFrom 104 = .ok (.invokestatic 53, 3) := by decide +kernel
theorem dX7_copyFrom_107 : decode cX7_copyFrom 107 = .ok (.aload_n 1, 1) := by decide +kernel
theorem dX7_copyFrom_108 : decode cX7_copyFrom 108 = .ok (.getfield 39, 3) := by decide +kernel
theorem dX7_copyFrom_111 : decode cX7_copyFrom 111 = .ok (.aload_n 0, 1) := by decide +kernel
theorem dX7_copyFrom_112 : decode cX7_copyFrom 112 = .ok (.getfield 39, 3) := by decide +kernel
theorem dX7_copyFrom_115 : decode cX7_copyFrom 115 = .ok (.invokestatic 53, 3) := by decide +kernel
theorem dX7_copyFrom_118 : decode cX7_copyFrom 118 = .ok (.return_, 1) := by decide +kernel
def rm_X7_copyFrom_26 : Room := { frames := 2, cells := 0, slots := 0, locals := 221 }
set_option maxHeartbeats 4000000 in
set_option maxRecDepth 100000 in
theorem c_X7_copyFrom_26 (l : Launch) {nb : Nat} {G : zG} {ad : Nat → Nat} {σ σ' : zs} {r : Int32} (hf : f_X7_copyFrom_26 σ  = some (r, σ')) : zMv l yX7_copyFrom wsX7_copyFrom rm_X7_copyFrom_26 G (zS nb) ad σ [.ref (ad 2), .ref (ad 26)] σ' := by
  intro sz
  refine Met.ofW (cc := cX7_copyFrom) (maxL := 2) (ret := none) (by decide) rfl ?_
  intro p e s m args below meth c s₁ B hml hv
  obtain ⟨rfl, hsz, hv⟩ := hv
  have hx := B.exec
  have hb := B.bytes
  have hr := B.returns
  have hts := atoms_spec (ws := wsX7_copyFrom) B.pre
  have hown : s.vm.findClass RX7 = some m.cls := findClass_of_methodNamed B.named
  have hlocks := B.notSynchronized
  subst hsz
  have B := zB_start hv
  have hinRX7 : ∀ w ∈ wsX70, w ∈ wsX7_copyFrom := by decide +kernel
  have hl := lv_entry ([.ref (ad 2), .ref (ad 26)]) (n := 2) (Nat.le_of_ble_eq_true rfl)
  rw [lg_entry_eq]
  generalize (lg_sl ([.ref (ad 2), .ref (ad 26)]) ++ List.replicate (2 - (lg_sl ([.ref (ad 2), .ref (ad 26)])).length) Slot.unset).toArray = ls at hl ⊢
  have hl : lv_has ls 2 [(0, .ref (ad 2)), (1, .ref (ad 26))] := hl
  generalize hAe : zA ad (zS nb).length s.heap.size = A at B ⊢
  unfold f_X7_copyFrom_26 at hf
  refine lv_aload_n hx hb dX7_copyFrom_0 rfl (lv_at hl 0 rfl) ?_
  refine lv_aload_n hx hb dX7_copyFrom_1 rfl (lv_at hl 1 rfl) ?_
  refine z_geti hx hb hts hinRX7 hown B 26 0 rfl rfl rfl (by decide) (by decide +kernel) rfl dX7_copyFrom_2 ?_
  refine z_puti hx hb hts hinRX7 hown tyX7 tyX7_ok nmX7 B 2 0 rfl rfl rfl (by decide) (by decide +kernel) rfl rfl rfl rfl dX7_copyFrom_5 (fun H locs B => ?_)
  refine lv_aload_n hx hb dX7_copyFrom_8 rfl (lv_at hl 1 rfl) ?_
  refine z_getr hx hb hts hinRX7 hown B 26 1 27 rfl rfl rfl (by decide) (by decide +kernel) rfl dX7_copyFrom_9 ?_
  refine lv_aload_n hx hb dX7_copyFrom_12 rfl (lv_at hl 0 rfl) ?_
  refine z_getr hx hb hts hinRX7 hown B 2 1 3 rfl rfl rfl (by decide) (by decide +kernel) rfl dX7_copyFrom_13 ?_
  obtain ⟨r2, σ3, hu1, hf⟩ := zb_some hf
  refine z_v B (va_runSN (As := [.ref (ad 27), .ref (ad 3)]) (rest := []) ⟨hx, hb, hml, hown, hts⟩ (c_X8_copyRow_27_3 l hu1 _) ⟨va_cnB 2 hts gX7_copyFrom_X8_copyRow_n53 rfl rfl rfl (z_nest B (q := (RX7, 53, yX8_copyRow)) (by decide +kernel)) (hts (.initialized RX8) (by decide +kernel)) (by decide +kernel) ⟨Nat.le_of_ble_eq_true rfl, Nat.le_of_ble_eq_true rfl⟩, hts (.static yX8_copyRow) (by decide +kernel), trivial⟩ (z_preS B) rfl rfl hl.1 rfl (lv_room (Nat.le_of_ble_eq_true rfl)) dX7_copyFrom_16 ⟨Nat.le_of_ble_eq_true rfl, Nat.le_of_ble_eq_true rfl⟩) (fun H locs B => ?_)
  refine lv_aload_n hx hb dX7_copyFrom_19 rfl (lv_at hl 1 rfl) ?_
  refine z_getr hx hb hts hinRX7 hown B 26 2 28 rfl rfl rfl (by decide) (by decide +kernel) rfl dX7_copyFrom_20 ?_
  refine lv_aload_n hx hb dX7_copyFrom_23 rfl (lv_at hl 0 rfl) ?_
  refine z_getr hx hb hts hinRX7 hown B 2 2 4 rfl rfl rfl (by decide) (by decide +kernel) rfl dX7_copyFrom_24 ?_
  obtain ⟨r5, σ6, hu4, hf⟩ := zb_some hf
  refine z_v B (va_runSN (As := [.ref (ad 28), .ref (ad 4)]) (rest := []) ⟨hx, hb, hml, hown, hts⟩ (c_X8_copyRow_28_4 l hu4 _) ⟨va_cnB 2 hts gX7_copyFrom_X8_copyRow_n53 rfl rfl rfl (z_nest B (q := (RX7, 53, yX8_copyRow)) (by decide +kernel)) (hts (.initialized RX8) (by decide +kernel)) (by decide +kernel) ⟨Nat.le_of_ble_eq_true rfl, Nat.le_of_ble_eq_true rfl⟩, hts (.static yX8_copyRow) (by decide +kernel), trivial⟩ (z_preS B) rfl rfl hl.1 rfl (lv_room (Nat.le_of_ble_eq_true rfl)) dX7_copyFrom_27 ⟨Nat.le_of_ble_eq_true rfl, Nat.le_of_ble_eq_true rfl⟩) (fun H locs B => ?_)
  refine lv_aload_n hx hb dX7_copyFrom_30 rfl (lv_at hl 1 rfl) ?_
  refine z_getr hx hb hts hinRX7 hown B 26 3 29 rfl rfl rfl (by decide) (by decide +kernel) rfl dX7_copyFrom_31 ?_
  refine lv_aload_n hx hb dX7_copyFrom_34 rfl (lv_at hl 0 rfl) ?_
  refine z_getr hx hb hts hinRX7 hown B 2 3 5 rfl rfl rfl (by decide) (by decide +kernel) rfl dX7_copyFrom_35 ?_
  obtain ⟨r8, σ9, hu7, hf⟩ := zb_some hf
  refine z_v B (va_runSN (As := [.ref (ad 29), .ref (ad 5)]) (rest := []) ⟨hx, hb, hml, hown, hts⟩ (c_X8_copyRow_29_5 l hu7 _) ⟨va_cnB 2 hts gX7_copyFrom_X8_copyRow_n53 rfl rfl rfl (z_nest B (q := (RX7, 53, yX8_copyRow)) (by decide +kernel)) (hts (.initialized RX8) (by decide +kernel)) (by decide +kernel) ⟨Nat.le_of_ble_eq_true rfl, Nat.le_of_ble_eq_true rfl⟩, hts (.static yX8_copyRow) (by decide +kernel), trivial⟩ (z_preS B) rfl rfl hl.1 rfl (lv_room (Nat.le_of_ble_eq_true rfl)) dX7_copyFrom_38 ⟨Nat.le_of_ble_eq_true rfl, Nat.le_of_ble_eq_true rfl⟩) (fun H locs B => ?_)
  refine lv_aload_n hx hb dX7_copyFrom_41 rfl (lv_at hl 1 rfl) ?_
  refine z_getr hx hb hts hinRX7 hown B 26 4 30 rfl rfl rfl (by decide) (by decide +kernel) rfl dX7_copyFrom_42 ?_
  refine lv_aload_n hx hb dX7_copyFrom_45 rfl (lv_at hl 0 rfl) ?_
  refine z_getr hx hb hts hinRX7 hown B 2 4 6 rfl rfl rfl (by decide) (by decide +kernel) rfl dX7_copyFrom_46 ?_
  obtain ⟨r11, σ12, hu10, hf⟩ := zb_some hf
  refine z_v B (va_runSN (As := [.ref (ad 30), .ref (ad 6)]) (rest := []) ⟨hx, hb, hml, hown, hts⟩ (c_X8_copyRow_30_6 l hu10 _) ⟨va_cnB 2 hts gX7_copyFrom_X8_copyRow_n53 rfl rfl rfl (z_nest B (q := (RX7, 53, yX8_copyRow)) (by decide +kernel)) (hts (.initialized RX8) (by decide +kernel)) (by decide +kernel) ⟨Nat.le_of_ble_eq_true rfl, Nat.le_of_ble_eq_true rfl⟩, hts (.static yX8_copyRow) (by decide +kernel), trivial⟩ (z_preS B) rfl rfl hl.1 rfl (lv_room (Nat.le_of_ble_eq_true rfl)) dX7_copyFrom_49 ⟨Nat.le_of_ble_eq_true rfl, Nat.le_of_ble_eq_true rfl⟩) (fun H locs B => ?_)
  refine lv_aload_n hx hb dX7_copyFrom_52 rfl (lv_at hl 1 rfl) ?_
  refine z_getr hx hb hts hinRX7 hown B 26 5 31 rfl rfl rfl (by decide) (by decide +kernel) rfl dX7_copyFrom_53 ?_
  refine lv_aload_n hx hb dX7_copyFrom_56 rfl (lv_at hl 0 rfl) ?_
  refine z_getr hx hb hts hinRX7 hown B 2 5 7 rfl rfl rfl (by decide) (by decide +kernel) rfl dX7_copyFrom_57 ?_
  obtain ⟨r14, σ15, hu13, hf⟩ := zb_some hf
  refine z_v B (va_runSN (As := [.ref (ad 31), .ref (ad 7)]) (rest := []) ⟨hx, hb, hml, hown, hts⟩ (c_X8_copyRow_31_7 l hu13 _) ⟨va_cnB 2 hts gX7_copyFrom_X8_copyRow_n53 rfl rfl rfl (z_nest B (q := (RX7, 53, yX8_copyRow)) (by decide +kernel)) (hts (.initialized RX8) (by decide +kernel)) (by decide +kernel) ⟨Nat.le_of_ble_eq_true rfl, Nat.le_of_ble_eq_true rfl⟩, hts (.static yX8_copyRow) (by decide +kernel), trivial⟩ (z_preS B) rfl rfl hl.1 rfl (lv_room (Nat.le_of_ble_eq_true rfl)) dX7_copyFrom_60 ⟨Nat.le_of_ble_eq_true rfl, Nat.le_of_ble_eq_true rfl⟩) (fun H locs B => ?_)
  refine lv_aload_n hx hb dX7_copyFrom_63 rfl (lv_at hl 1 rfl) ?_
  refine z_getr hx hb hts hinRX7 hown B 26 6 32 rfl rfl rfl (by decide) (by decide +kernel) rfl dX7_copyFrom_64 ?_
  refine lv_aload_n hx hb dX7_copyFrom_67 rfl (lv_at hl 0 rfl) ?_
  refine z_getr hx hb hts hinRX7 hown B 2 6 8 rfl rfl rfl (by decide) (by decide +kernel) rfl dX7_copyFrom_68 ?_
  obtain ⟨r17, σ18, hu16, hf⟩ := zb_some hf
  refine z_v B (va_runSN (As := [.ref (ad 32), .ref (ad 8)]) (rest := []) ⟨hx, hb, hml, hown, hts⟩ (c_X8_copyRow_32_8 l hu16 _) ⟨va_cnB 2 hts gX7_copyFrom_X8_copyRow_n53 rfl rfl rfl (z_nest B (q := (RX7, 53, yX8_copyRow)) (by decide +kernel)) (hts (.initialized RX8) (by decide +kernel)) (by decide +kernel) ⟨Nat.le_of_ble_eq_true rfl, Nat.le_of_ble_eq_true rfl⟩, hts (.static yX8_copyRow) (by decide +kernel), trivial⟩ (z_preS B) rfl rfl hl.1 rfl (lv_room (Nat.le_of_ble_eq_true rfl)) dX7_copyFrom_71 ⟨Nat.le_of_ble_eq_true rfl, Nat.le_of_ble_eq_true rfl⟩) (fun H locs B => ?_)
  refine lv_aload_n hx hb dX7_copyFrom_74 rfl (lv_at hl 1 rfl) ?_
  refine z_getr hx hb hts hinRX7 hown B 26 7 33 rfl rfl rfl (by decide) (by decide +kernel) rfl dX7_copyFrom_75 ?_
  refine lv_aload_n hx hb dX7_copyFrom_78 rfl (lv_at hl 0 rfl) ?_
  refine z_getr hx hb hts hinRX7 hown B 2 7 9 rfl rfl rfl (by decide) (by decide +kernel) rfl dX7_copyFrom_79 ?_
  obtain ⟨r20, σ21, hu19, hf⟩ := zb_some hf
  refine z_v B (va_runSN (As := [.ref (ad 33), .ref (ad 9)]) (rest := []) ⟨hx, hb, hml, hown, hts⟩ (c_X8_copyRow_33_9 l hu19 _) ⟨va_cnB 2 hts gX7_copyFrom_X8_copyRow_n53 rfl rfl rfl (z_nest B (q := (RX7, 53, yX8_copyRow)) (by decide +kernel)) (hts (.initialized RX8) (by decide +kernel)) (by decide +kernel) ⟨Nat.le_of_ble_eq_true rfl, Nat.le_of_ble_eq_true rfl⟩, hts (.static yX8_copyRow) (by decide +kernel), trivial⟩ (z_preS B) rfl rfl hl.1 rfl (lv_room (Nat.le_of_ble_eq_true rfl)) dX7_copyFrom_82 ⟨Nat.le_of_ble_eq_true rfl, Nat.le_of_ble_eq_true rfl⟩) (fun H locs B => ?_)
  refine lv_aload_n hx hb dX7_copyFrom_85 rfl (lv_at hl 1 rfl) ?_
  refine z_getr hx hb hts hinRX7 hown B 26 8 34 rfl rfl rfl (by decide) (by decide +kernel) rfl dX7_copyFrom_86 ?_
  refine lv_aload_n hx hb dX7_copyFrom_89 rfl (lv_at hl 0 rfl) ?_
  refine z_getr hx hb hts hinRX7 hown B 2 8 10 rfl rfl rfl (by decide) (by decide +kernel) rfl dX7_copyFrom_90 ?_
  obtain ⟨r23, σ24, hu22, hf⟩ := zb_some hf
  refine z_v B (va_runSN (As := [.ref (ad 34), .ref (ad 10)]) (rest := []) ⟨hx, hb, hml, hown, hts⟩ (c_X8_copyRow_34_10 l hu22 _) ⟨va_cnB 2 hts gX7_copyFrom_X8_copyRow_n53 rfl rfl rfl (z_nest B (q := (RX7, 53, yX8_copyRow)) (by decide +kernel)) (hts (.initialized RX8) (by decide +kernel)) (by decide +kernel) ⟨Nat.le_of_ble_eq_true rfl, Nat.le_of_ble_eq_true rfl⟩, hts (.static yX8_copyRow) (by decide +kernel), trivial⟩ (z_preS B) rfl rfl hl.1 rfl (lv_room (Nat.le_of_ble_eq_true rfl)) dX7_copyFrom_93 ⟨Nat.le_of_ble_eq_true rfl, Nat.le_of_ble_eq_true rfl⟩) (fun H locs B => ?_)
  refine lv_aload_n hx hb dX7_copyFrom_96 rfl (lv_at hl 1 rfl) ?_
  refine z_getr hx hb hts hinRX7 hown B 26 9 35 rfl rfl rfl (by decide) (by decide +kernel) rfl dX7_copyFrom_97 ?_
  refine lv_aload_n hx hb dX7_copyFrom_100 rfl (lv_at hl 0 rfl) ?_
  refine z_getr hx hb hts hinRX7 hown B 2 9 11 rfl rfl rfl (by decide) (by decide +kernel) rfl dX7_copyFrom_101 ?_
  obtain ⟨r26, σ27, hu25, hf⟩ := zb_some hf
  refine z_v B (va_runSN (As := [.ref (ad 35), .ref (ad 11)]) (rest := []) ⟨hx, hb, hml, hown, hts⟩ (c_X8_copyRow_35_11 l hu25 _) ⟨va_cnB 2 hts gX7_copyFrom_X8_copyRow_n53 rfl rfl rfl (z_nest B (q := (RX7, 53, yX8_copyRow)) (by decide +kernel)) (hts (.initialized RX8) (by decide +kernel)) (by decide +kernel) ⟨Nat.le_of_ble_eq_true rfl, Nat.le_of_ble_eq_true rfl⟩, hts (.static yX8_copyRow) (by decide +kernel), trivial⟩ (z_preS B) rfl rfl hl.1 rfl (lv_room (Nat.le_of_ble_eq_true rfl)) dX7_copyFrom_104 ⟨Nat.le_of_ble_eq_true rfl, Nat.le_of_ble_eq_true rfl⟩) (fun H locs B => ?_)
  refine lv_aload_n hx hb dX7_copyFrom_107 rfl (lv_at hl 1 rfl) ?_
  refine z_getr hx hb hts hinRX7 hown B 26 10 36 rfl rfl rfl (by decide) (by decide +kernel) rfl dX7_copyFrom_108 ?_
  refine lv_aload_n hx hb dX7_copyFrom_111 rfl (lv_at hl 0 rfl) ?_
  refine z_getr hx hb hts hinRX7 hown B 2 10 12 rfl rfl rfl (by decide) (by decide +kernel) rfl dX7_copyFrom_112 ?_
  obtain ⟨r29, σ30, hu28, hf⟩ := zb_some hf
  refine z_v B (va_runSN (As := [.ref (ad 36), .ref (ad 12)]) (rest := []) ⟨hx, hb, hml, hown, hts⟩ (c_X8_copyRow_36_12 l hu28 _) ⟨va_cnB 2 hts gX7_copyFrom_X8_copyRow_n53 rfl rfl rfl (z_nest B (q := (RX7, 53, yX8_copyRow)) (by decide +kernel)) (hts (.initialized RX8) (by decide +kernel)) (by decide +kernel) ⟨Nat.le_of_ble_eq_true rfl, Nat.le_of_ble_eq_true rfl⟩, hts (.static yX8_copyRow) (by decide +kernel), trivial⟩ (z_preS B) rfl rfl hl.1 rfl (lv_room (Nat.le_of_ble_eq_true rfl)) dX7_copyFrom_115 ⟨Nat.le_of_ble_eq_true rfl, Nat.le_of_ble_eq_true rfl⟩) (fun H locs B => ?_)
  refine W.widen (k := 0) (n := 0) (Nat.le_of_ble_eq_true rfl) (Nat.le_of_ble_eq_true rfl) ?_
  exact z_vret hx hb hr hlocks B hf dX7_copyFrom_118
theorem dX8_copyRow_0 : decode cX8_copyRow 0 = .ok (.aload_n 0, 1) := by decide +kernel
theorem dX8_copyRow_1 : decode cX8_copyRow 1 = .ok (.arraylength, 1) := by decide +kernel
theorem dX8_copyRow_2 : decode cX8_copyRow 2 = .ok (.aload_n 1, 1) := by decide +kernel
theorem dX8_copyRow_3 : decode cX8_copyRow 3 = .ok (.arraylength, 1) := by decide +kernel
theorem dX8_copyRow_4 : decode cX8_copyRow 4 = .ok (.if_icmp .ne 12, 3) := by decide +kernel
theorem dX8_copyRow_7 : decode cX8_copyRow 7 = .ok (.aload_n 0, 1) := by decide +kernel
theorem dX8_copyRow_8 : decode cX8_copyRow 8 = .ok (.iconst 0, 1) := by decide +kernel
theorem dX8_copyRow_9 : decode cX8_copyRow 9 = .ok (.aload_n 1, 1) := by decide +kernel
theorem dX8_copyRow_10 : decode cX8_copyRow 10 = .ok (.iconst 0, 1) := by decide +kernel
theorem dX8_copyRow_11 : decode cX8_copyRow 11 = .ok (.aload_n 0, 1) := by decide +kernel
theorem dX8_copyRow_12 : decode cX8_copyRow 12 = .ok (.arraylength, 1) := by decide +kernel
theorem dX8_copyRow_13 : decode cX8_copyRow 13 = .ok (.invokestatic 415, 3) := by decide +kernel
theorem dX8_copyRow_16 : decode cX8_copyRow 16 = .ok (.return_, 1) := by decide +kernel
def rm_X8_copyRow_39_15 : Room := { frames := 1, cells := 0, slots := 0, locals := 200 }
set_option maxHeartbeats 4000000 in
set_option maxRecDepth 100000 in
theorem c_X8_copyRow_39_15 (l : Launch) {nb : Nat} {G : zG} {ad : Nat → Nat} {σ σ' : zs} {r : Int32} (hf : f_X8_copyRow_39_15 σ  = some (r, σ')) : zMv l yX8_copyRow wsX8_copyRow rm_X8_copyRow_39_15 G (zS nb) ad σ [.ref (ad 39), .ref (ad 15)] σ' := by
  intro sz
  refine Met.ofW (cc := cX8_copyRow) (maxL := 2) (ret := none) (by decide) rfl ?_
  intro p e s m args below meth c s₁ B hml hv
  obtain ⟨rfl, hsz, hv⟩ := hv
  have hx := B.exec
  have hb := B.bytes
  have hr := B.returns
  have hts := atoms_spec (ws := wsX8_copyRow) B.pre
  have hown : s.vm.findClass RX8 = some m.cls := findClass_of_methodNamed B.named
  have hlocks := B.notSynchronized
  subst hsz
  have B := zB_start hv
  have hl := lv_entry ([.ref (ad 39), .ref (ad 15)]) (n := 2) (Nat.le_of_ble_eq_true rfl)
  rw [lg_entry_eq]
  generalize (lg_sl ([.ref (ad 39), .ref (ad 15)]) ++ List.replicate (2 - (lg_sl ([.ref (ad 39), .ref (ad 15)])).length) Slot.unset).toArray = ls at hl ⊢
  have hl : lv_has ls 2 [(0, .ref (ad 39)), (1, .ref (ad 15))] := hl
  generalize hAe : zA ad (zS nb).length s.heap.size = A at B ⊢
  unfold f_X8_copyRow_39_15 at hf
  refine lv_aload_n hx hb dX8_copyRow_0 rfl (lv_at hl 0 rfl) ?_
  refine z_alen hx hb B 39 (v := (4 : Int32)) rfl rfl (by decide) dX8_copyRow_1 ?_
  refine lv_aload_n hx hb dX8_copyRow_2 rfl (lv_at hl 1 rfl) ?_
  refine z_alen hx hb B 15 (v := (4 : Int32)) rfl rfl (by decide) dX8_copyRow_3 ?_
  refine lv_icmp_ne (tgt := 16) hx hb dX8_copyRow_4 (by decide) (fun hc => ?_) (fun hc => ?_)
  · have hf := zif_f hc hf
    refine W.widen (k := 0) (n := 0) (Nat.le_of_ble_eq_true rfl) (Nat.le_of_ble_eq_true rfl) ?_
    exact z_vret hx hb hr hlocks B hf dX8_copyRow_16
  · have hf := zif_t hc hf
    refine lv_aload_n hx hb dX8_copyRow_7 rfl (lv_at hl 0 rfl) ?_
    refine lv_iconst (v := (0 : Int32)) hx hb dX8_copyRow_8 (by decide) ?_
    refine lv_aload_n hx hb dX8_copyRow_9 rfl (lv_at hl 1 rfl) ?_
    refine lv_iconst (v := (0 : Int32)) hx hb dX8_copyRow_10 (by decide) ?_
    refine lv_aload_n hx hb dX8_copyRow_11 rfl (lv_at hl 0 rfl) ?_
    refine z_alen hx hb B 39 (v := (4 : Int32)) rfl rfl (by decide) dX8_copyRow_12 ?_
    obtain ⟨hg, hf⟩ := zg_some hf
    obtain ⟨g1, g2, g3, g4, g5⟩ := zcp_ok hg
    refine z_copyi hx hb (hml.trans hl.1.symm) hts hown (index := 415) (by decide +kernel) (by decide +kernel) (by decide +kernel) (by decide +kernel) B 39 15 rfl rfl g1 g2 g3 g4 g5 (Nat.le_of_ble_eq_true rfl) (Nat.le_of_ble_eq_true rfl) dX8_copyRow_13 (fun H locs B => ?_)
    refine W.widen (k := 0) (n := 0) (Nat.le_of_ble_eq_true rfl) (Nat.le_of_ble_eq_true rfl) ?_
    exact z_vret hx hb hr hlocks B hf dX8_copyRow_16
theorem dX8_copyRow_0 : decode cX8_copyRow 0 = .ok (.aload_n 0, 1) := by decide +kernel
theorem dX8_copyRow_1 : decode cX8_copyRow 1 = .ok (.arraylength, 1) := by decide +kernel
theorem dX8_copyRow_2 : decode cX8_copyRow 2 = .ok (.aload_n 1, 1) := by decide +kernel
theorem dX8_copyRow_3 : decode cX8_copyRow 3 = .ok (.arraylength, 1) := by decide +kernel
theorem dX8_copyRow_4 : decode cX8_copyRow 4 = .ok (.if_icmp .ne 12, 3) := by decide +kernel
theorem dX8_copyRow_7 : decode cX8_copyRow 7 = .ok (.aload_n 0, 1) := by decide +kernel
theorem dX8_copyRow_8 : decode cX8_copyRow 8 = .ok (.iconst 0, 1) := by decide +kernel
theorem dX8_copyRow_9 : decode cX8_copyRow 9 = .ok (.aload_n 1, 1) := by decide +kernel
theorem dX8_copyRow_10 : decode cX8_copyRow 10 = .ok (.iconst 0, 1) := by decide +kernel
theorem dX8_copyRow_11 : decode cX8_copyRow 11 = .ok (.aload_n 0, 1) := by decide +kernel
theorem dX8_copyRow_12 : decode cX8_copyRow 12 = .ok (.arraylength, 1) := by decide +kernel
theorem dX8_copyRow_13 : decode cX8_copyRow 13 = .ok (.invokestatic 415, 3) := by decide +kernel
theorem dX8_copyRow_16 : decode cX8_copyRow 16 = .ok (.return_, 1) := by decide +kernel
def rm_X8_copyRow_40_16 : Room := { frames := 1, cells := 0, slots := 0, locals := 200 }
set_option maxHeartbeats 4000000 in
set_option maxRecDepth 100000 in
theorem c_X8_copyRow_40_16 (l : Launch) {nb : Nat} {G : zG} {ad : Nat → Nat} {σ σ' : zs} {r : Int32} (hf : f_X8_copyRow_40_16 σ  = some (r, σ')) : zMv l yX8_copyRow wsX8_copyRow rm_X8_copyRow_40_16 G (zS nb) ad σ [.ref (ad 40), .ref (ad 16)] σ' := by
  intro sz
  refine Met.ofW (cc := cX8_copyRow) (maxL := 2) (ret := none) (by decide) rfl ?_
  intro p e s m args below meth c s₁ B hml hv
  obtain ⟨rfl, hsz, hv⟩ := hv
  have hx := B.exec
  have hb := B.bytes
  have hr := B.returns
  have hts := atoms_spec (ws := wsX8_copyRow) B.pre
  have hown : s.vm.findClass RX8 = some m.cls := findClass_of_methodNamed B.named
  have hlocks := B.notSynchronized
  subst hsz
  have B := zB_start hv
  have hl := lv_entry ([.ref (ad 40), .ref (ad 16)]) (n := 2) (Nat.le_of_ble_eq_true rfl)
  rw [lg_entry_eq]
  generalize (lg_sl ([.ref (ad 40), .ref (ad 16)]) ++ List.replicate (2 - (lg_sl ([.ref (ad 40), .ref (ad 16)])).length) Slot.unset).toArray = ls at hl ⊢
  have hl : lv_has ls 2 [(0, .ref (ad 40)), (1, .ref (ad 16))] := hl
  generalize hAe : zA ad (zS nb).length s.heap.size = A at B ⊢
  unfold f_X8_copyRow_40_16 at hf
  refine lv_aload_n hx hb dX8_copyRow_0 rfl (lv_at hl 0 rfl) ?_
  refine z_alen hx hb B 40 (v := (4 : Int32)) rfl rfl (by decide) dX8_copyRow_1 ?_
  refine lv_aload_n hx hb dX8_copyRow_2 rfl (lv_at hl 1 rfl) ?_
  refine z_alen hx hb B 16 (v := (4 : Int32)) rfl rfl (by decide) dX8_copyRow_3 ?_
  refine lv_icmp_ne (tgt := 16) hx hb dX8_copyRow_4 (by decide) (fun hc => ?_) (fun hc => ?_)
  · have hf := zif_f hc hf
    refine W.widen (k := 0) (n := 0) (Nat.le_of_ble_eq_true rfl) (Nat.le_of_ble_eq_true rfl) ?_
    exact z_vret hx hb hr hlocks B hf dX8_copyRow_16
  · have hf := zif_t hc hf
    refine lv_aload_n hx hb dX8_copyRow_7 rfl (lv_at hl 0 rfl) ?_
    refine lv_iconst (v := (0 : Int32)) hx hb dX8_copyRow_8 (by decide) ?_
    refine lv_aload_n hx hb dX8_copyRow_9 rfl (lv_at hl 1 rfl) ?_
    refine lv_iconst (v := (0 : Int32)) hx hb dX8_copyRow_10 (by decide) ?_
    refine lv_aload_n hx hb dX8_copyRow_11 rfl (lv_at hl 0 rfl) ?_
    refine z_alen hx hb B 40 (v := (4 : Int32)) rfl rfl (by decide) dX8_copyRow_12 ?_
    obtain ⟨hg, hf⟩ := zg_some hf
    obtain ⟨g1, g2, g3, g4, g5⟩ := zcp_ok hg
    refine z_copyi hx hb (hml.trans hl.1.symm) hts hown (index := 415) (by decide +kernel) (by decide +kernel) (by decide +kernel) (by decide +kernel) B 40 16 rfl rfl g1 g2 g3 g4 g5 (Nat.le_of_ble_eq_true rfl) (Nat.le_of_ble_eq_true rfl) dX8_copyRow_13 (fun H locs B => ?_)
    refine W.widen (k := 0) (n := 0) (Nat.le_of_ble_eq_true rfl) (Nat.le_of_ble_eq_true rfl) ?_
    exact z_vret hx hb hr hlocks B hf dX8_copyRow_16
theorem dX8_copyRow_0 : decode cX8_copyRow 0 = .ok (.aload_n 0, 1) := by decide +kernel
theorem dX8_copyRow_1 : decode cX8_copyRow 1 = .ok (.arraylength, 1) := by decide +kernel
theorem dX8_copyRow_2 : decode cX8_copyRow 2 = .ok (.aload_n 1, 1) := by decide +kernel
theorem dX8_copyRow_3 : decode cX8_copyRow 3 = .ok (.arraylength, 1) := by decide +kernel
theorem dX8_copyRow_4 : decode cX8_copyRow 4 = .ok (.if_icmp .ne 12, 3) := by decide +kernel
theorem dX8_copyRow_7 : decode cX8_copyRow 7 = .ok (.aload_n 0, 1) := by decide +kernel
theorem dX8_copyRow_8 : decode cX8_copyRow 8 = .ok (.iconst 0, 1) := by decide +kernel
theorem dX8_copyRow_9 : decode cX8_copyRow 9 = .ok (.aload_n 1, 1) := by decide +kernel
theorem dX8_copyRow_10 : decode cX8_copyRow 10 = .ok (.iconst 0, 1) := by decide +kernel
theorem dX8_copyRow_11 : decode cX8_copyRow 11 = .ok (.aload_n 0, 1) := by decide +kernel
theorem dX8_copyRow_12 : decode cX8_copyRow 12 = .ok (.arraylength, 1) := by decide +kernel
theorem dX8_copyRow_13 : decode cX8_copyRow 13 = .ok (.invokestatic 415, 3) := by decide +kernel
theorem dX8_copyRow_16 : decode cX8_copyRow 16 = .ok (.return_, 1) := by decide +kernel
def rm_X8_copyRow_41_17 : Room := { frames := 1, cells := 0, slots := 0, locals := 200 }
set_option maxHeartbeats 4000000 in
set_option maxRecDepth 100000 in
theorem c_X8_copyRow_41_17 (l : Launch) {nb : Nat} {G : zG} {ad : Nat → Nat} {σ σ' : zs} {r : Int32} (hf : f_X8_copyRow_41_17 σ  = some (r, σ')) : zMv l yX8_copyRow wsX8_copyRow rm_X8_copyRow_41_17 G (zS nb) ad σ [.ref (ad 41), .ref (ad 17)] σ' := by
  intro sz
  refine Met.ofW (cc := cX8_copyRow) (maxL := 2) (ret := none) (by decide) rfl ?_
  intro p e s m args below meth c s₁ B hml hv
  obtain ⟨rfl, hsz, hv⟩ := hv
  have hx := B.exec
  have hb := B.bytes
  have hr := B.returns
  have hts := atoms_spec (ws := wsX8_copyRow) B.pre
  have hown : s.vm.findClass RX8 = some m.cls := findClass_of_methodNamed B.named
  have hlocks := B.notSynchronized
  subst hsz
  have B := zB_start hv
  have hl := lv_entry ([.ref (ad 41), .ref (ad 17)]) (n := 2) (Nat.le_of_ble_eq_true rfl)
  rw [lg_entry_eq]
  generalize (lg_sl ([.ref (ad 41), .ref (ad 17)]) ++ List.replicate (2 - (lg_sl ([.ref (ad 41), .ref (ad 17)])).length) Slot.unset).toArray = ls at hl ⊢
  have hl : lv_has ls 2 [(0, .ref (ad 41)), (1, .ref (ad 17))] := hl
  generalize hAe : zA ad (zS nb).length s.heap.size = A at B ⊢
  unfold f_X8_copyRow_41_17 at hf
  refine lv_aload_n hx hb dX8_copyRow_0 rfl (lv_at hl 0 rfl) ?_
  refine z_alen hx hb B 41 (v := (12 : Int32)) rfl rfl (by decide) dX8_copyRow_1 ?_
  refine lv_aload_n hx hb dX8_copyRow_2 rfl (lv_at hl 1 rfl) ?_
  refine z_alen hx hb B 17 (v := (12 : Int32)) rfl rfl (by decide) dX8_copyRow_3 ?_
  refine lv_icmp_ne (tgt := 16) hx hb dX8_copyRow_4 (by decide) (fun hc => ?_) (fun hc => ?_)
  · have hf := zif_f hc hf
    refine W.widen (k := 0) (n := 0) (Nat.le_of_ble_eq_true rfl) (Nat.le_of_ble_eq_true rfl) ?_
    exact z_vret hx hb hr hlocks B hf dX8_copyRow_16
  · have hf := zif_t hc hf
    refine lv_aload_n hx hb dX8_copyRow_7 rfl (lv_at hl 0 rfl) ?_
    refine lv_iconst (v := (0 : Int32)) hx hb dX8_copyRow_8 (by decide) ?_
    refine lv_aload_n hx hb dX8_copyRow_9 rfl (lv_at hl 1 rfl) ?_
    refine lv_iconst (v := (0 : Int32)) hx hb dX8_copyRow_10 (by decide) ?_
    refine lv_aload_n hx hb dX8_copyRow_11 rfl (lv_at hl 0 rfl) ?_
    refine z_alen hx hb B 41 (v := (12 : Int32)) rfl rfl (by decide) dX8_copyRow_12 ?_
    obtain ⟨hg, hf⟩ := zg_some hf
    obtain ⟨g1, g2, g3, g4, g5⟩ := zcp_ok hg
    refine z_copyi hx hb (hml.trans hl.1.symm) hts hown (index := 415) (by decide +kernel) (by decide +kernel) (by decide +kernel) (by decide +kernel) B 41 17 rfl rfl g1 g2 g3 g4 g5 (Nat.le_of_ble_eq_true rfl) (Nat.le_of_ble_eq_true rfl) dX8_copyRow_13 (fun H locs B => ?_)
    refine W.widen (k := 0) (n := 0) (Nat.le_of_ble_eq_true rfl) (Nat.le_of_ble_eq_true rfl) ?_
    exact z_vret hx hb hr hlocks B hf dX8_copyRow_16
theorem dX8_copyRow_0 : decode cX8_copyRow 0 = .ok (.aload_n 0, 1) := by decide +kernel
theorem dX8_copyRow_1 : decode cX8_copyRow 1 = .ok (.arraylength, 1) := by decide +kernel
theorem dX8_copyRow_2 : decode cX8_copyRow 2 = .ok (.aload_n 1, 1) := by decide +kernel
theorem dX8_copyRow_3 : decode cX8_copyRow 3 = .ok (.arraylength, 1) := by decide +kernel
theorem dX8_copyRow_4 : decode cX8_copyRow 4 = .ok (.if_icmp .ne 12, 3) := by decide +kernel
theorem dX8_copyRow_7 : decode cX8_copyRow 7 = .ok (.aload_n 0, 1) := by decide +kernel
theorem dX8_copyRow_8 : decode cX8_copyRow 8 = .ok (.iconst 0, 1) := by decide +kernel
theorem dX8_copyRow_9 : decode cX8_copyRow 9 = .ok (.aload_n 1, 1) := by decide +kernel
theorem dX8_copyRow_10 : decode cX8_copyRow 10 = .ok (.iconst 0, 1) := by decide +kernel
theorem dX8_copyRow_11 : decode cX8_copyRow 11 = .ok (.aload_n 0, 1) := by decide +kernel
theorem dX8_copyRow_12 : decode cX8_copyRow 12 = .ok (.arraylength, 1) := by decide +kernel
theorem dX8_copyRow_13 : decode cX8_copyRow 13 = .ok (.invokestatic 415, 3) := by decide +kernel
theorem dX8_copyRow_16 : decode cX8_copyRow 16 = .ok (.return_, 1) := by decide +kernel
def rm_X8_copyRow_42_18 : Room := { frames := 1, cells := 0, slots := 0, locals := 200 }
set_option maxHeartbeats 4000000 in
set_option maxRecDepth 100000 in
theorem c_X8_copyRow_42_18 (l : Launch) {nb : Nat} {G : zG} {ad : Nat → Nat} {σ σ' : zs} {r : Int32} (hf : f_X8_copyRow_42_18 σ  = some (r, σ')) : zMv l yX8_copyRow wsX8_copyRow rm_X8_copyRow_42_18 G (zS nb) ad σ [.ref (ad 42), .ref (ad 18)] σ' := by
  intro sz
  refine Met.ofW (cc := cX8_copyRow) (maxL := 2) (ret := none) (by decide) rfl ?_
  intro p e s m args below meth c s₁ B hml hv
  obtain ⟨rfl, hsz, hv⟩ := hv
  have hx := B.exec
  have hb := B.bytes
  have hr := B.returns
  have hts := atoms_spec (ws := wsX8_copyRow) B.pre
  have hown : s.vm.findClass RX8 = some m.cls := findClass_of_methodNamed B.named
  have hlocks := B.notSynchronized
  subst hsz
  have B := zB_start hv
  have hl := lv_entry ([.ref (ad 42), .ref (ad 18)]) (n := 2) (Nat.le_of_ble_eq_true rfl)
  rw [lg_entry_eq]
  generalize (lg_sl ([.ref (ad 42), .ref (ad 18)]) ++ List.replicate (2 - (lg_sl ([.ref (ad 42), .ref (ad 18)])).length) Slot.unset).toArray = ls at hl ⊢
  have hl : lv_has ls 2 [(0, .ref (ad 42)), (1, .ref (ad 18))] := hl
  generalize hAe : zA ad (zS nb).length s.heap.size = A at B ⊢
  unfold f_X8_copyRow_42_18 at hf
  refine lv_aload_n hx hb dX8_copyRow_0 rfl (lv_at hl 0 rfl) ?_
  refine z_alen hx hb B 42 (v := (12 : Int32)) rfl rfl (by decide) dX8_copyRow_1 ?_
  refine lv_aload_n hx hb dX8_copyRow_2 rfl (lv_at hl 1 rfl) ?_
  refine z_alen hx hb B 18 (v := (12 : Int32)) rfl rfl (by decide) dX8_copyRow_3 ?_
  refine lv_icmp_ne (tgt := 16) hx hb dX8_copyRow_4 (by decide) (fun hc => ?_) (fun hc => ?_)
  · have hf := zif_f hc hf
    refine W.widen (k := 0) (n := 0) (Nat.le_of_ble_eq_true rfl) (Nat.le_of_ble_eq_true rfl) ?_
    exact z_vret hx hb hr hlocks B hf dX8_copyRow_16
  · have hf := zif_t hc hf
    refine lv_aload_n hx hb dX8_copyRow_7 rfl (lv_at hl 0 rfl) ?_
    refine lv_iconst (v := (0 : Int32)) hx hb dX8_copyRow_8 (by decide) ?_
    refine lv_aload_n hx hb dX8_copyRow_9 rfl (lv_at hl 1 rfl) ?_
    refine lv_iconst (v := (0 : Int32)) hx hb dX8_copyRow_10 (by decide) ?_
    refine lv_aload_n hx hb dX8_copyRow_11 rfl (lv_at hl 0 rfl) ?_
    refine z_alen hx hb B 42 (v := (12 : Int32)) rfl rfl (by decide) dX8_copyRow_12 ?_
    obtain ⟨hg, hf⟩ := zg_some hf
    obtain ⟨g1, g2, g3, g4, g5⟩ := zcp_ok hg
    refine z_copyi hx hb (hml.trans hl.1.symm) hts hown (index := 415) (by decide +kernel) (by decide +kernel) (by decide +kernel) (by decide +kernel) B 42 18 rfl rfl g1 g2 g3 g4 g5 (Nat.le_of_ble_eq_true rfl) (Nat.le_of_ble_eq_true rfl) dX8_copyRow_13 (fun H locs B => ?_)
    refine W.widen (k := 0) (n := 0) (Nat.le_of_ble_eq_true rfl) (Nat.le_of_ble_eq_true rfl) ?_
    exact z_vret hx hb hr hlocks B hf dX8_copyRow_16
theorem dX8_copyRow_0 : decode cX8_copyRow 0 = .ok (.aload_n 0, 1) := by decide +kernel
theorem dX8_copyRow_1 : decode cX8_copyRow 1 = .ok (.arraylength, 1) := by decide +kernel
theorem dX8_copyRow_2 : decode cX8_copyRow 2 = .ok (.aload_n 1, 1) := by decide +kernel
theorem dX8_copyRow_3 : decode cX8_copyRow 3 = .ok (.arraylength, 1) := by decide +kernel
theorem dX8_copyRow_4 : decode cX8_copyRow 4 = .ok (.if_icmp .ne 12, 3) := by decide +kernel
theorem dX8_copyRow_7 : decode cX8_copyRow 7 = .ok (.aload_n 0, 1) := by decide +kernel
theorem dX8_copyRow_8 : decode cX8_copyRow 8 = .ok (.iconst 0, 1) := by decide +kernel
theorem dX8_copyRow_9 : decode cX8_copyRow 9 = .ok (.aload_n 1, 1) := by decide +kernel
theorem dX8_copyRow_10 : decode cX8_copyRow 10 = .ok (.iconst 0, 1) := by decide +kernel
theorem dX8_copyRow_11 : decode cX8_copyRow 11 = .ok (.aload_n 0, 1) := by decide +kernel
theorem dX8_copyRow_12 : decode cX8_copyRow 12 = .ok (.arraylength, 1) := by decide +kernel
theorem dX8_copyRow_13 : decode cX8_copyRow 13 = .ok (.invokestatic 415, 3) := by decide +kernel
theorem dX8_copyRow_16 : decode cX8_copyRow 16 = .ok (.return_, 1) := by decide +kernel
def rm_X8_copyRow_43_19 : Room := { frames := 1, cells := 0, slots := 0, locals := 200 }
set_option maxHeartbeats 4000000 in
set_option maxRecDepth 100000 in
theorem c_X8_copyRow_43_19 (l : Launch) {nb : Nat} {G : zG} {ad : Nat → Nat} {σ σ' : zs} {r : Int32} (hf : f_X8_copyRow_43_19 σ  = some (r, σ')) : zMv l yX8_copyRow wsX8_copyRow rm_X8_copyRow_43_19 G (zS nb) ad σ [.ref (ad 43), .ref (ad 19)] σ' := by
  intro sz
  refine Met.ofW (cc := cX8_copyRow) (maxL := 2) (ret := none) (by decide) rfl ?_
  intro p e s m args below meth c s₁ B hml hv
  obtain ⟨rfl, hsz, hv⟩ := hv
  have hx := B.exec
  have hb := B.bytes
  have hr := B.returns
  have hts := atoms_spec (ws := wsX8_copyRow) B.pre
  have hown : s.vm.findClass RX8 = some m.cls := findClass_of_methodNamed B.named
  have hlocks := B.notSynchronized
  subst hsz
  have B := zB_start hv
  have hl := lv_entry ([.ref (ad 43), .ref (ad 19)]) (n := 2) (Nat.le_of_ble_eq_true rfl)
  rw [lg_entry_eq]
  generalize (lg_sl ([.ref (ad 43), .ref (ad 19)]) ++ List.replicate (2 - (lg_sl ([.ref (ad 43), .ref (ad 19)])).length) Slot.unset).toArray = ls at hl ⊢
  have hl : lv_has ls 2 [(0, .ref (ad 43)), (1, .ref (ad 19))] := hl
  generalize hAe : zA ad (zS nb).length s.heap.size = A at B ⊢
  unfold f_X8_copyRow_43_19 at hf
  refine lv_aload_n hx hb dX8_copyRow_0 rfl (lv_at hl 0 rfl) ?_
  refine z_alen hx hb B 43 (v := (12 : Int32)) rfl rfl (by decide) dX8_copyRow_1 ?_
  refine lv_aload_n hx hb dX8_copyRow_2 rfl (lv_at hl 1 rfl) ?_
  refine z_alen hx hb B 19 (v := (12 : Int32)) rfl rfl (by decide) dX8_copyRow_3 ?_
  refine lv_icmp_ne (tgt := 16) hx hb dX8_copyRow_4 (by decide) (fun hc => ?_) (fun hc => ?_)
  · have hf := zif_f hc hf
    refine W.widen (k := 0) (n := 0) (Nat.le_of_ble_eq_true rfl) (Nat.le_of_ble_eq_true rfl) ?_
    exact z_vret hx hb hr hlocks B hf dX8_copyRow_16
  · have hf := zif_t hc hf
    refine lv_aload_n hx hb dX8_copyRow_7 rfl (lv_at hl 0 rfl) ?_
    refine lv_iconst (v := (0 : Int32)) hx hb dX8_copyRow_8 (by decide) ?_
    refine lv_aload_n hx hb dX8_copyRow_9 rfl (lv_at hl 1 rfl) ?_
    refine lv_iconst (v := (0 : Int32)) hx hb dX8_copyRow_10 (by decide) ?_
    refine lv_aload_n hx hb dX8_copyRow_11 rfl (lv_at hl 0 rfl) ?_
    refine z_alen hx hb B 43 (v := (12 : Int32)) rfl rfl (by decide) dX8_copyRow_12 ?_
    obtain ⟨hg, hf⟩ := zg_some hf
    obtain ⟨g1, g2, g3, g4, g5⟩ := zcp_ok hg
    refine z_copyi hx hb (hml.trans hl.1.symm) hts hown (index := 415) (by decide +kernel) (by decide +kernel) (by decide +kernel) (by decide +kernel) B 43 19 rfl rfl g1 g2 g3 g4 g5 (Nat.le_of_ble_eq_true rfl) (Nat.le_of_ble_eq_true rfl) dX8_copyRow_13 (fun H locs B => ?_)
    refine W.widen (k := 0) (n := 0) (Nat.le_of_ble_eq_true rfl) (Nat.le_of_ble_eq_true rfl) ?_
    exact z_vret hx hb hr hlocks B hf dX8_copyRow_16
theorem dX0_copyFrom_0 : decode cX0_copyFrom 0 = .ok (.aload_n 0, 1) := by decide +kernel
theorem dX0_copyFrom_1 : decode cX0_copyFrom 1 = .ok (.aload_n 1, 1) := by decide +kernel
theorem dX0_copyFrom_2 : decode cX0_copyFrom 2 = .ok (.getfield 27, 3) := by decide +kernel
theorem dX0_copyFrom_5 : decode cX0_copyFrom 5 = .ok (.putfield 27, 3) := by decide +kernel
theorem dX0_copyFrom_8 : decode cX0_copyFrom 8 = .ok (.aload_n 1, 1) := by decide +kernel
theorem dX0_copyFrom_9 : decode cX0_copyFrom 9 = .ok (.getfield 9, 3) := by decide +kernel
theorem dX0_copyFrom_12 : decode cX0_copyFrom 12 = .ok (.aload_n 0, 1) := by decide +kernel
theorem dX0_copyFrom_13 : decode cX0_copyFrom 13 = .ok (.getfield 9, 3) := by decide +kernel
theorem dX0_copyFrom_16 : decode cX0_copyFrom 16 = .ok (.invokestatic 31, 3) := by decide +kernel
theorem dX0_copyFrom_19 : decode cX0_copyFrom 19 = .ok (.aload_n 1, 1) := by decide +kernel
theorem dX0_copyFrom_20 : decode cX0_copyFrom 20 = .ok (.getfield 15, 3) := by decide +kernel
theorem dX0_copyFrom_23 : decode cX0_copyFrom 23 = .ok (.aload_n 0, 1) := by decide +kernel
theorem dX0_copyFrom_24 : decode cX0_copyFrom 24 = .ok (.getfield 15, 3) := by decide +kernel
theorem dX0_copyFrom_27 : decode cX0_copyFrom 27 = .ok (.invokestatic 31, 3) := by decide +kernel
theorem dX0_copyFrom_30 : decode cX0_copyFrom 30 = .ok (.aload_n 0, 1) := by decide +kernel
theorem dX0_copyFrom_31 : decode cX0_copyFrom 31 = .ok (.aload_n 1, 1) := by decide +kernel
theorem dX0_copyFrom_32 : decode cX0_copyFrom 32 = .ok (.getfield 35, 3) := by decide +kernel
theorem dX0_copyFrom_35 : decode cX0_copyFrom 35 = .ok (.putfield 35, 3) := by decide +kernel
theorem dX0_copyFrom_38 : decode cX0_copyFrom 38 = .ok (.aload_n 1, 1) := by decide +kernel
theorem dX0_copyFrom_39 : decode cX0_copyFrom 39 = .ok (.getfield 18, 3) := by decide +kernel
theorem dX0_copyFrom_42 : decode cX0_copyFrom 42 = .ok (.aload_n 0, 1) := by decide +kernel
theorem dX0_copyFrom_43 : decode cX0_copyFrom 43 = .ok (.getfield 18, 3) := by decide +kernel
theorem dX0_copyFrom_46 : decode cX0_copyFrom 46 = .ok (.invokestatic 31, 3) := by decide +kernel
theorem dX0_copyFrom_49 : decode cX0_copyFrom 49 = .ok (.aload_n 1, 1) := by decide +kernel
theorem dX0_copyFrom_50 : decode cX0_copyFrom 50 = .ok (.getfield 21, 3) := by decide +kernel
theorem dX0_copyFrom_53 : decode cX0_copyFrom 53 = .ok (.aload_n 0, 1) := by decide +kernel
theorem dX0_copyFrom_54 : decode cX0_copyFrom 54 = .ok (.getfield 21, 3) := by decide +kernel
theorem dX0_copyFrom_57 : decode cX0_copyFrom 57 = .ok (.invokestatic 31, 3) := by decide +kernel
theorem dX0_copyFrom_60 : decode cX0_copyFrom 60 = .ok (.aload_n 1, 1) := by decide +kernel
theorem dX0_copyFrom_61 : decode cX0_copyFrom 61 = .ok (.getfield 24, 3) := by decide +kernel
theorem dX0_copyFrom_64 : decode cX0_copyFrom 64 = .ok (.aload_n 0, 1) := by decide +kernel
theorem dX0_copyFrom_65 : decode cX0_copyFrom 65 = .ok (.getfield 24, 3) := by decide +kernel
theorem dX0_copyFrom_68 : decode cX0_copyFrom 68 = .ok (.invokestatic 31, 3) := by decide +kernel
theorem dX0_copyFrom_71 : decode cX0_copyFrom 71 = .ok (.return_, 1) := by decide +kernel
def rm_X0_copyFrom_38 : Room := { frames := 2, cells := 0, slots := 0, locals := 221 }
set_option maxHeartbeats 4000000 in
set_option maxRecDepth 100000 in
theorem c_X0_copyFrom_38 (l : Launch) {nb : Nat} {G : zG} {ad : Nat → Nat} {σ σ' : zs} {r : Int32} (hf : f_X0_copyFrom_38 σ  = some (r, σ')) : zMv l yX0_copyFrom wsX0_copyFrom rm_X0_copyFrom_38 G (zS nb) ad σ [.ref (ad 14), .ref (ad 38)] σ' := by
  intro sz
  refine Met.ofW (cc := cX0_copyFrom) (maxL := 2) (ret := none) (by decide) rfl ?_
  intro p e s m args below meth c s₁ B hml hv
  obtain ⟨rfl, hsz, hv⟩ := hv
  have hx := B.exec
  have hb := B.bytes
  have hr := B.returns
  have hts := atoms_spec (ws := wsX0_copyFrom) B.pre
  have hown : s.vm.findClass RX0 = some m.cls := findClass_of_methodNamed B.named
  have hlocks := B.notSynchronized
  subst hsz
  have B := zB_start hv
  have hinRX0 : ∀ w ∈ wsX00, w ∈ wsX0_copyFrom := by decide +kernel
  have hl := lv_entry ([.ref (ad 14), .ref (ad 38)]) (n := 2) (Nat.le_of_ble_eq_true rfl)
  rw [lg_entry_eq]
  generalize (lg_sl ([.ref (ad 14), .ref (ad 38)]) ++ List.replicate (2 - (lg_sl ([.ref (ad 14), .ref (ad 38)])).length) Slot.unset).toArray = ls at hl ⊢
  have hl : lv_has ls 2 [(0, .ref (ad 14)), (1, .ref (ad 38))] := hl
  generalize hAe : zA ad (zS nb).length s.heap.size = A at B ⊢
  unfold f_X0_copyFrom_38 at hf
  refine lv_aload_n hx hb dX0_copyFrom_0 rfl (lv_at hl 0 rfl) ?_
  refine lv_aload_n hx hb dX0_copyFrom_1 rfl (lv_at hl 1 rfl) ?_
  refine z_geti hx hb hts hinRX0 hown B 38 0 rfl rfl rfl (by decide) (by decide +kernel) rfl dX0_copyFrom_2 ?_
  refine z_puti hx hb hts hinRX0 hown tyX0 tyX0_ok nmX0 B 14 0 rfl rfl rfl (by decide) (by decide +kernel) rfl rfl rfl rfl dX0_copyFrom_5 (fun H locs B => ?_)
  refine lv_aload_n hx hb dX0_copyFrom_8 rfl (lv_at hl 1 rfl) ?_
  refine z_getr hx hb hts hinRX0 hown B 38 1 39 rfl rfl rfl (by decide) (by decide +kernel) rfl dX0_copyFrom_9 ?_
  refine lv_aload_n hx hb dX0_copyFrom_12 rfl (lv_at hl 0 rfl) ?_
  refine z_getr hx hb hts hinRX0 hown B 14 1 15 rfl rfl rfl (by decide) (by decide +kernel) rfl dX0_copyFrom_13 ?_
  obtain ⟨r2, σ3, hu1, hf⟩ := zb_some hf
  refine z_v B (va_runSN (As := [.ref (ad 39), .ref (ad 15)]) (rest := []) ⟨hx, hb, hml, hown, hts⟩ (c_X8_copyRow_39_15 l hu1 _) ⟨va_cnB 2 hts gX0_copyFrom_X8_copyRow_n31 rfl rfl rfl (z_nest B (q := (RX0, 31, yX8_copyRow)) (by decide +kernel)) (hts (.initialized RX8) (by decide +kernel)) (by decide +kernel) ⟨Nat.le_of_ble_eq_true rfl, Nat.le_of_ble_eq_true rfl⟩, hts (.static yX8_copyRow) (by decide +kernel), trivial⟩ (z_preS B) rfl rfl hl.1 rfl (lv_room (Nat.le_of_ble_eq_true rfl)) dX0_copyFrom_16 ⟨Nat.le_of_ble_eq_true rfl, Nat.le_of_ble_eq_true rfl⟩) (fun H locs B => ?_)
  refine lv_aload_n hx hb dX0_copyFrom_19 rfl (lv_at hl 1 rfl) ?_
  refine z_getr hx hb hts hinRX0 hown B 38 2 40 rfl rfl rfl (by decide) (by decide +kernel) rfl dX0_copyFrom_20 ?_
  refine lv_aload_n hx hb dX0_copyFrom_23 rfl (lv_at hl 0 rfl) ?_
  refine z_getr hx hb hts hinRX0 hown B 14 2 16 rfl rfl rfl (by decide) (by decide +kernel) rfl dX0_copyFrom_24 ?_
  obtain ⟨r5, σ6, hu4, hf⟩ := zb_some hf
  refine z_v B (va_runSN (As := [.ref (ad 40), .ref (ad 16)]) (rest := []) ⟨hx, hb, hml, hown, hts⟩ (c_X8_copyRow_40_16 l hu4 _) ⟨va_cnB 2 hts gX0_copyFrom_X8_copyRow_n31 rfl rfl rfl (z_nest B (q := (RX0, 31, yX8_copyRow)) (by decide +kernel)) (hts (.initialized RX8) (by decide +kernel)) (by decide +kernel) ⟨Nat.le_of_ble_eq_true rfl, Nat.le_of_ble_eq_true rfl⟩, hts (.static yX8_copyRow) (by decide +kernel), trivial⟩ (z_preS B) rfl rfl hl.1 rfl (lv_room (Nat.le_of_ble_eq_true rfl)) dX0_copyFrom_27 ⟨Nat.le_of_ble_eq_true rfl, Nat.le_of_ble_eq_true rfl⟩) (fun H locs B => ?_)
  refine lv_aload_n hx hb dX0_copyFrom_30 rfl (lv_at hl 0 rfl) ?_
  refine lv_aload_n hx hb dX0_copyFrom_31 rfl (lv_at hl 1 rfl) ?_
  refine z_geti hx hb hts hinRX0 hown B 38 3 rfl rfl rfl (by decide) (by decide +kernel) rfl dX0_copyFrom_32 ?_
  refine z_puti hx hb hts hinRX0 hown tyX0 tyX0_ok nmX0 B 14 3 rfl rfl rfl (by decide) (by decide +kernel) rfl rfl rfl rfl dX0_copyFrom_35 (fun H locs B => ?_)
  refine lv_aload_n hx hb dX0_copyFrom_38 rfl (lv_at hl 1 rfl) ?_
  refine z_getr hx hb hts hinRX0 hown B 38 4 41 rfl rfl rfl (by decide) (by decide +kernel) rfl dX0_copyFrom_39 ?_
  refine lv_aload_n hx hb dX0_copyFrom_42 rfl (lv_at hl 0 rfl) ?_
  refine z_getr hx hb hts hinRX0 hown B 14 4 17 rfl rfl rfl (by decide) (by decide +kernel) rfl dX0_copyFrom_43 ?_
  obtain ⟨r8, σ9, hu7, hf⟩ := zb_some hf
  refine z_v B (va_runSN (As := [.ref (ad 41), .ref (ad 17)]) (rest := []) ⟨hx, hb, hml, hown, hts⟩ (c_X8_copyRow_41_17 l hu7 _) ⟨va_cnB 2 hts gX0_copyFrom_X8_copyRow_n31 rfl rfl rfl (z_nest B (q := (RX0, 31, yX8_copyRow)) (by decide +kernel)) (hts (.initialized RX8) (by decide +kernel)) (by decide +kernel) ⟨Nat.le_of_ble_eq_true rfl, Nat.le_of_ble_eq_true rfl⟩, hts (.static yX8_copyRow) (by decide +kernel), trivial⟩ (z_preS B) rfl rfl hl.1 rfl (lv_room (Nat.le_of_ble_eq_true rfl)) dX0_copyFrom_46 ⟨Nat.le_of_ble_eq_true rfl, Nat.le_of_ble_eq_true rfl⟩) (fun H locs B => ?_)
  refine lv_aload_n hx hb dX0_copyFrom_49 rfl (lv_at hl 1 rfl) ?_
  refine z_getr hx hb hts hinRX0 hown B 38 5 42 rfl rfl rfl (by decide) (by decide +kernel) rfl dX0_copyFrom_50 ?_
  refine lv_aload_n hx hb dX0_copyFrom_53 rfl (lv_at hl 0 rfl) ?_
  refine z_getr hx hb hts hinRX0 hown B 14 5 18 rfl rfl rfl (by decide) (by decide +kernel) rfl dX0_copyFrom_54 ?_
  obtain ⟨r11, σ12, hu10, hf⟩ := zb_some hf
  refine z_v B (va_runSN (As := [.ref (ad 42), .ref (ad 18)]) (rest := []) ⟨hx, hb, hml, hown, hts⟩ (c_X8_copyRow_42_18 l hu10 _) ⟨va_cnB 2 hts gX0_copyFrom_X8_copyRow_n31 rfl rfl rfl (z_nest B (q := (RX0, 31, yX8_copyRow)) (by decide +kernel)) (hts (.initialized RX8) (by decide +kernel)) (by decide +kernel) ⟨Nat.le_of_ble_eq_true rfl, Nat.le_of_ble_eq_true rfl⟩, hts (.static yX8_copyRow) (by decide +kernel), trivial⟩ (z_preS B) rfl rfl hl.1 rfl (lv_room (Nat.le_of_ble_eq_true rfl)) dX0_copyFrom_57 ⟨Nat.le_of_ble_eq_true rfl, Nat.le_of_ble_eq_true rfl⟩) (fun H locs B => ?_)
  refine lv_aload_n hx hb dX0_copyFrom_60 rfl (lv_at hl 1 rfl) ?_
  refine z_getr hx hb hts hinRX0 hown B 38 6 43 rfl rfl rfl (by decide) (by decide +kernel) rfl dX0_copyFrom_61 ?_
  refine lv_aload_n hx hb dX0_copyFrom_64 rfl (lv_at hl 0 rfl) ?_
  refine z_getr hx hb hts hinRX0 hown B 14 6 19 rfl rfl rfl (by decide) (by decide +kernel) rfl dX0_copyFrom_65 ?_
  obtain ⟨r14, σ15, hu13, hf⟩ := zb_some hf
  refine z_v B (va_runSN (As := [.ref (ad 43), .ref (ad 19)]) (rest := []) ⟨hx, hb, hml, hown, hts⟩ (c_X8_copyRow_43_19 l hu13 _) ⟨va_cnB 2 hts gX0_copyFrom_X8_copyRow_n31 rfl rfl rfl (z_nest B (q := (RX0, 31, yX8_copyRow)) (by decide +kernel)) (hts (.initialized RX8) (by decide +kernel)) (by decide +kernel) ⟨Nat.le_of_ble_eq_true rfl, Nat.le_of_ble_eq_true rfl⟩, hts (.static yX8_copyRow) (by decide +kernel), trivial⟩ (z_preS B) rfl rfl hl.1 rfl (lv_room (Nat.le_of_ble_eq_true rfl)) dX0_copyFrom_68 ⟨Nat.le_of_ble_eq_true rfl, Nat.le_of_ble_eq_true rfl⟩) (fun H locs B => ?_)
  refine W.widen (k := 0) (n := 0) (Nat.le_of_ble_eq_true rfl) (Nat.le_of_ble_eq_true rfl) ?_
  exact z_vret hx hb hr hlocks B hf dX0_copyFrom_71
theorem dX8_copyRow_0 : decode cX8_copyRow 0 = .ok (.aload_n 0, 1) := by decide +kernel
theorem dX8_copyRow_1 : decode cX8_copyRow 1 = .ok (.arraylength, 1) := by decide +kernel
theorem dX8_copyRow_2 : decode cX8_copyRow 2 = .ok (.aload_n 1, 1) := by decide +kernel
theorem dX8_copyRow_3 : decode cX8_copyRow 3 = .ok (.arraylength, 1) := by decide +kernel
theorem dX8_copyRow_4 : decode cX8_copyRow 4 = .ok (.if_icmp .ne 12, 3) := by decide +kernel
theorem dX8_copyRow_7 : decode cX8_copyRow 7 = .ok (.aload_n 0, 1) := by decide +kernel
theorem dX8_copyRow_8 : decode cX8_copyRow 8 = .ok (.iconst 0, 1) := by decide +kernel
theorem dX8_copyRow_9 : decode cX8_copyRow 9 = .ok (.aload_n 1, 1) := by decide +kernel
theorem dX8_copyRow_10 : decode cX8_copyRow 10 = .ok (.iconst 0, 1) := by decide +kernel
theorem dX8_copyRow_11 : decode cX8_copyRow 11 = .ok (.aload_n 0, 1) := by decide +kernel
theorem dX8_copyRow_12 : decode cX8_copyRow 12 = .ok (.arraylength, 1) := by decide +kernel
theorem dX8_copyRow_13 : decode cX8_copyRow 13 = .ok (.invokestatic 415, 3) := by decide +kernel
theorem dX8_copyRow_16 : decode cX8_copyRow 16 = .ok (.return_, 1) := by decide +kernel
def rm_X8_copyRow_45_21 : Room := { frames := 1, cells := 0, slots := 0, locals := 200 }
set_option maxHeartbeats 4000000 in
set_option maxRecDepth 100000 in
theorem c_X8_copyRow_45_21 (l : Launch) {nb : Nat} {G : zG} {ad : Nat → Nat} {σ σ' : zs} {r : Int32} (hf : f_X8_copyRow_45_21 σ  = some (r, σ')) : zMv l yX8_copyRow wsX8_copyRow rm_X8_copyRow_45_21 G (zS nb) ad σ [.ref (ad 45), .ref (ad 21)] σ' := by
  intro sz
  refine Met.ofW (cc := cX8_copyRow) (maxL := 2) (ret := none) (by decide) rfl ?_
  intro p e s m args below meth c s₁ B hml hv
  obtain ⟨rfl, hsz, hv⟩ := hv
  have hx := B.exec
  have hb := B.bytes
  have hr := B.returns
  have hts := atoms_spec (ws := wsX8_copyRow) B.pre
  have hown : s.vm.findClass RX8 = some m.cls := findClass_of_methodNamed B.named
  have hlocks := B.notSynchronized
  subst hsz
  have B := zB_start hv
  have hl := lv_entry ([.ref (ad 45), .ref (ad 21)]) (n := 2) (Nat.le_of_ble_eq_true rfl)
  rw [lg_entry_eq]
  generalize (lg_sl ([.ref (ad 45), .ref (ad 21)]) ++ List.replicate (2 - (lg_sl ([.ref (ad 45), .ref (ad 21)])).length) Slot.unset).toArray = ls at hl ⊢
  have hl : lv_has ls 2 [(0, .ref (ad 45)), (1, .ref (ad 21))] := hl
  generalize hAe : zA ad (zS nb).length s.heap.size = A at B ⊢
  unfold f_X8_copyRow_45_21 at hf
  refine lv_aload_n hx hb dX8_copyRow_0 rfl (lv_at hl 0 rfl) ?_
  refine z_alen hx hb B 45 (v := (20 : Int32)) rfl rfl (by decide) dX8_copyRow_1 ?_
  refine lv_aload_n hx hb dX8_copyRow_2 rfl (lv_at hl 1 rfl) ?_
  refine z_alen hx hb B 21 (v := (20 : Int32)) rfl rfl (by decide) dX8_copyRow_3 ?_
  refine lv_icmp_ne (tgt := 16) hx hb dX8_copyRow_4 (by decide) (fun hc => ?_) (fun hc => ?_)
  · have hf := zif_f hc hf
    refine W.widen (k := 0) (n := 0) (Nat.le_of_ble_eq_true rfl) (Nat.le_of_ble_eq_true rfl) ?_
    exact z_vret hx hb hr hlocks B hf dX8_copyRow_16
  · have hf := zif_t hc hf
    refine lv_aload_n hx hb dX8_copyRow_7 rfl (lv_at hl 0 rfl) ?_
    refine lv_iconst (v := (0 : Int32)) hx hb dX8_copyRow_8 (by decide) ?_
    refine lv_aload_n hx hb dX8_copyRow_9 rfl (lv_at hl 1 rfl) ?_
    refine lv_iconst (v := (0 : Int32)) hx hb dX8_copyRow_10 (by decide) ?_
    refine lv_aload_n hx hb dX8_copyRow_11 rfl (lv_at hl 0 rfl) ?_
    refine z_alen hx hb B 45 (v := (20 : Int32)) rfl rfl (by decide) dX8_copyRow_12 ?_
    obtain ⟨hg, hf⟩ := zg_some hf
    obtain ⟨g1, g2, g3, g4, g5⟩ := zcp_ok hg
    refine z_copyi hx hb (hml.trans hl.1.symm) hts hown (index := 415) (by decide +kernel) (by decide +kernel) (by decide +kernel) (by decide +kernel) B 45 21 rfl rfl g1 g2 g3 g4 g5 (Nat.le_of_ble_eq_true rfl) (Nat.le_of_ble_eq_true rfl) dX8_copyRow_13 (fun H locs B => ?_)
    refine W.widen (k := 0) (n := 0) (Nat.le_of_ble_eq_true rfl) (Nat.le_of_ble_eq_true rfl) ?_
    exact z_vret hx hb hr hlocks B hf dX8_copyRow_16
