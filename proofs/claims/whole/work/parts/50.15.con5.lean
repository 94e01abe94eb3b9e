theorem dX4_comeWithRight_0 : decode cX4_comeWithRight 0 = .ok (.iconst 0, 1) := by decide +kernel
theorem dX4_comeWithRight_1 : decode cX4_comeWithRight 1 = .ok (.istore 4, 2) := by decide +kernel
theorem dX4_comeWithRight_3 : decode cX4_comeWithRight 3 = .ok (.iconst 0, 1) := by decide +kernel
theorem dX4_comeWithRight_4 : decode cX4_comeWithRight 4 = .ok (.istore 5, 2) := by decide +kernel
theorem dX4_comeWithRight_6 : decode cX4_comeWithRight 6 = .ok (.iload 5, 2) := by decide +kernel
theorem dX4_comeWithRight_8 : decode cX4_comeWithRight 8 = .ok (.aload_n 1, 1) := by decide +kernel
theorem dX4_comeWithRight_9 : decode cX4_comeWithRight 9 = .ok (.getfield 37, 3) := by decide +kernel
theorem dX4_comeWithRight_12 : decode cX4_comeWithRight 12 = .ok (.if_icmp .ge 49, 3) := by decide +kernel
theorem dX4_comeWithRight_15 : decode cX4_comeWithRight 15 = .ok (.aload_n 0, 1) := by decide +kernel
theorem dX4_comeWithRight_16 : decode cX4_comeWithRight 16 = .ok (.getfield 9, 3) := by decide +kernel
theorem dX4_comeWithRight_19 : decode cX4_comeWithRight 19 = .ok (.iload_n 2, 1) := by decide +kernel
theorem dX4_comeWithRight_20 : decode cX4_comeWithRight 20 = .ok (.iaload, 1) := by decide +kernel
theorem dX4_comeWithRight_21 : decode cX4_comeWithRight 21 = .ok (.iload 5, 2) := by decide +kernel
theorem dX4_comeWithRight_23 : decode cX4_comeWithRight 23 = .ok (.invokestatic 76, 3) := by decide +kernel
theorem dX4_comeWithRight_26 : decode cX4_comeWithRight 26 = .ok (.ifCond .eq 29, 3) := by decide +kernel
theorem dX4_comeWithRight_29 : decode cX4_comeWithRight 29 = .ok (.aload_n 0, 1) := by decide +kernel
theorem dX4_comeWithRight_30 : decode cX4_comeWithRight 30 = .ok (.getfield 21, 3) := by decide +kernel
theorem dX4_comeWithRight_33 : decode cX4_comeWithRight 33 = .ok (.iload_n 2, 1) := by decide +kernel
theorem dX4_comeWithRight_34 : decode cX4_comeWithRight 34 = .ok (.bipush 28, 2) := by decide +kernel
theorem dX4_comeWithRight_36 : decode cX4_comeWithRight 36 = .ok (.imul, 1) := by decide +kernel
theorem dX4_comeWithRight_37 : decode cX4_comeWithRight 37 = .ok (.iload 5, 2) := by decide +kernel
theorem dX4_comeWithRight_39 : decode cX4_comeWithRight 39 = .ok (.iadd, 1) := by decide +kernel
theorem dX4_comeWithRight_40 : decode cX4_comeWithRight 40 = .ok (.iaload, 1) := by decide +kernel
theorem dX4_comeWithRight_41 : decode cX4_comeWithRight 41 = .ok (.iload_n 3, 1) := by decide +kernel
theorem dX4_comeWithRight_42 : decode cX4_comeWithRight 42 = .ok (.iand, 1) := by decide +kernel
theorem dX4_comeWithRight_43 : decode cX4_comeWithRight 43 = .ok (.ifCond .eq 12, 3) := by decide +kernel
theorem dX4_comeWithRight_46 : decode cX4_comeWithRight 46 = .ok (.iload 4, 2) := by decide +kernel
theorem dX4_comeWithRight_48 : decode cX4_comeWithRight 48 = .ok (.iconst 1, 1) := by decide +kernel
theorem dX4_comeWithRight_49 : decode cX4_comeWithRight 49 = .ok (.iload 5, 2) := by decide +kernel
theorem dX4_comeWithRight_51 : decode cX4_comeWithRight 51 = .ok (.ishl, 1) := by decide +kernel
theorem dX4_comeWithRight_52 : decode cX4_comeWithRight 52 = .ok (.ior, 1) := by decide +kernel
theorem dX4_comeWithRight_53 : decode cX4_comeWithRight 53 = .ok (.istore 4, 2) := by decide +kernel
theorem dX4_comeWithRight_55 : decode cX4_comeWithRight 55 = .ok (.iinc 5 1, 3) := by decide +kernel
theorem dX4_comeWithRight_58 : decode cX4_comeWithRight 58 = .ok (.goto (-52), 3) := by decide +kernel
theorem dX4_comeWithRight_61 : decode cX4_comeWithRight 61 = .ok (.iload 4, 2) := by decide +kernel
theorem dX4_comeWithRight_63 : decode cX4_comeWithRight 63 = .ok (.ireturn, 1) := by decide +kernel
set_option maxRecDepth 20000 in
theorem ggX4_comeWithRight_X8_hasBit : GoodIn wsX4_comeWithRight wsX8_hasBit := goodIn_r _ [6] (by decide +kernel) (by decide +kernel)
set_option maxRecDepth 20000 in
theorem gX4_comeWithRight_X8_hasBit_n76 : GoodIn wsX4_comeWithRight (wsX8_hasBit) := ggX4_comeWithRight_X8_hasBit
def rm_X4_comeWithRight_2 : Room := { frames := 2, cells := 0, slots := 0, locals := 37 }
set_option maxHeartbeats 4000000 in
set_option maxRecDepth 100000 in
theorem c_X4_comeWithRight_2 (l : Launch) {G : zG} {ad : Nat → Nat} {σ σ' : zs} {a2 a3 : Int32} {r : Int32} (hf : f_X4_comeWithRight_2 σ a2 a3 = some (r, σ')) : xMi l yX4_comeWithRight wsX4_comeWithRight rm_X4_comeWithRight_2 G ad σ [.ref (ad 57), .ref (ad 2), .int a2, .int a3] r σ' := by
  intro sz nb a g hs
  refine Met.ofW (cc := cX4_comeWithRight) (maxL := 6) (ret := (some .int)) (by decide) rfl ?_
  intro p e s m args below meth c s₁ B hml hv
  obtain ⟨rfl, hsz, hv⟩ := hv
  have hx := B.exec
  have hb := B.bytes
  have hr := B.returns
  have hts := atoms_spec (ws := wsX4_comeWithRight) B.pre
  have hown : s.vm.findClass RX4 = some m.cls := findClass_of_methodNamed B.named
  have hlocks := B.notSynchronized
  subst hsz
  have B := xB_start hs hv
  have hinRX4 : ∀ w ∈ wsX40, w ∈ wsX4_comeWithRight := by decide +kernel
  have hinRX7 : ∀ w ∈ wsX70, w ∈ wsX4_comeWithRight := by decide +kernel
  have hl := lv_entry ([.ref (ad 57), .ref (ad 2), .int a2, .int a3]) (n := 6) (Nat.le_of_ble_eq_true rfl)
  rw [lg_entry_eq]
  generalize (lg_sl ([.ref (ad 57), .ref (ad 2), .int a2, .int a3]) ++ List.replicate (6 - (lg_sl ([.ref (ad 57), .ref (ad 2), .int a2, .int a3])).length) Slot.unset).toArray = ls at hl ⊢
  have hl : lv_has ls 6 [(0, .ref (ad 57)), (1, .ref (ad 2)), (2, .int a2), (3, .int a3)] := hl
  generalize hAe : xA ad a s.heap.size = A at B ⊢
  have L6 : ∀ (n : Nat) (σ : zs) (v2 : Int32) (v3 : Int32) (v4 : Int32) (v5 : Int32) (H : Heap) (locs : List Loc) (ls : Array Slot), zlp4 (f_X4_comeWithRight_2_6) n σ v2 v3 v4 v5 = some (r, σ') → xB A s G ad σ H locs → lv_has ls 6 [(0, .ref (ad 57)), (1, .ref (ad 2)), (2, .int v2), (3, .int v3), (4, .int v4), (5, .int v5)] → W p l e (headSpec wsX4_comeWithRight rm_X4_comeWithRight_2).room s m ([.ref (ad 57), .ref (ad 2), .int a2, .int a3] : List Value).toArray below meth c H locs 0 0 (MQ below (va_Qi (fun r' (u : xV) => r' = r ∧ xQ σ' u) (xPost G ad σ' A) A) ([.ref (ad 57), .ref (ad 2), .int a2, .int a3] : List Value).toArray s 0 0 A) (F0 m 6 ls []) := by
    intro n
    induction n with
    | zero =>
      intro σ v2 v3 v4 v5 H locs ls hf
      cases hf
    | succ n ih =>
      intro σ v2 v3 v4 v5 H locs ls hf B hl
      have hf : f_X4_comeWithRight_2_6 (zlp4 (f_X4_comeWithRight_2_6) n) σ v2 v3 v4 v5 = some (r, σ') := hf
      unfold f_X4_comeWithRight_2_6 at hf
      refine lv_iload hx hb dX4_comeWithRight_6 (lv_at hl 5 rfl) ?_
      refine lv_aload_n hx hb dX4_comeWithRight_8 rfl (lv_at hl 1 rfl) ?_
      refine x_geti hx hb hts hinRX7 hown B 2 0 (by decide) (fun _ => rfl) rfl rfl (by decide) (by decide +kernel) rfl dX4_comeWithRight_9 ?_
      refine lv_icmp_ge (tgt := 61) hx hb dX4_comeWithRight_12 (by decide) (fun hc => ?_) (fun hc => ?_)
      · have hf := zif_t hc hf
        refine lv_iload hx hb dX4_comeWithRight_61 (lv_at hl 4 rfl) ?_
        refine W.widen (k := 0) (n := 0) (Nat.le_of_ble_eq_true rfl) (Nat.le_of_ble_eq_true rfl) ?_
        exact x_iret hx hb hr rfl hlocks B hf dX4_comeWithRight_63
      · have hf := zif_f hc hf
        refine lv_aload_n hx hb dX4_comeWithRight_15 rfl (lv_at hl 0 rfl) ?_
        refine x_getr hx hb hts hinRX4 hown B 57 0 58 (by decide) (by decide) (fun _ => rfl) rfl rfl (by decide) (by decide +kernel) rfl dX4_comeWithRight_16 ?_
        refine lv_iload_n hx hb dX4_comeWithRight_19 rfl (lv_at hl 2 rfl) ?_
        obtain ⟨hg, hf⟩ := zg_some hf
        refine x_iald hx hb B 58 (by decide) (fun _ => rfl) (zin_ok hg) dX4_comeWithRight_20 ?_
        refine lv_iload hx hb dX4_comeWithRight_21 (lv_at hl 5 rfl) ?_
        obtain ⟨r2, σ3, hu1, hf⟩ := zb_some hf
        refine x_i B (fun nb a g hs Bz => va_runSN (As := [.int (σ 58 v2.toNatClampNeg), .int v5]) (rest := []) ⟨hx, hb, hml, hown, hts⟩ (c_X8_hasBit l hu1 _ nb a g hs) ⟨va_cnB 2 hts gX4_comeWithRight_X8_hasBit_n76 rfl rfl rfl (x_nest B (q := (RX4, 76, yX8_hasBit)) (by decide +kernel)) (hts (.initialized RX8) (by decide +kernel)) (by decide +kernel) ⟨Nat.le_of_ble_eq_true rfl, Nat.le_of_ble_eq_true rfl⟩, hts (.static yX8_hasBit) (by decide +kernel), trivial⟩ (z_preS Bz) rfl rfl hl.1 rfl (lv_room (Nat.le_of_ble_eq_true rfl)) dX4_comeWithRight_23 ⟨Nat.le_of_ble_eq_true rfl, Nat.le_of_ble_eq_true rfl⟩) (fun H locs B => ?_)
        refine lv_if_eq (tgt := 55) hx hb dX4_comeWithRight_26 (by decide) (fun hc => ?_) (fun hc => ?_)
        · have hf := zif_t hc hf
          refine lv_iinc (v := (v5 + (1 : Int32))) (lv' := [(5, .int (v5 + (1 : Int32))), (0, .ref (ad 57)), (1, .ref (ad 2)), (2, .int v2), (3, .int v3), (4, .int v4)]) hx hb dX4_comeWithRight_55 hl (k := 5) rfl (zc1 (by decide)) (by decide) rfl (fun ls hl => ?_)
          refine lv_goto (tgt := 6) hx hb dX4_comeWithRight_58 (by decide) ?_
          exact ih _ _ _ _ _ _ _ _ hf B (lv_sub hl [1, 2, 3, 4, 5, 0] rfl)
        · have hf := zif_f hc hf
          refine lv_aload_n hx hb dX4_comeWithRight_29 rfl (lv_at hl 0 rfl) ?_
          refine x_getr hx hb hts hinRX4 hown B 57 3 61 (by decide) (by decide) (fun _ => rfl) rfl rfl (by decide) (by decide +kernel) rfl dX4_comeWithRight_30 ?_
          refine lv_iload_n hx hb dX4_comeWithRight_33 rfl (lv_at hl 2 rfl) ?_
          refine lv_bipush (v := (28 : Int32)) hx hb dX4_comeWithRight_34 (by decide) ?_
          refine lv_imul hx hb dX4_comeWithRight_36 ?_
          refine lv_iload hx hb dX4_comeWithRight_37 (lv_at hl 5 rfl) ?_
          refine lv_iadd hx hb dX4_comeWithRight_39 ?_
          obtain ⟨hg, hf⟩ := zg_some hf
          refine x_iald hx hb B 61 (by decide) (fun _ => rfl) (zin_ok hg) dX4_comeWithRight_40 ?_
          refine lv_iload_n hx hb dX4_comeWithRight_41 rfl (lv_at hl 3 rfl) ?_
          refine lv_iand hx hb dX4_comeWithRight_42 ?_
          refine lv_if_eq (tgt := 55) hx hb dX4_comeWithRight_43 (by decide) (fun hc => ?_) (fun hc => ?_)
          · have hf := zif_t hc hf
            refine lv_iinc (v := (v5 + (1 : Int32))) (lv' := [(5, .int (v5 + (1 : Int32))), (0, .ref (ad 57)), (1, .ref (ad 2)), (2, .int v2), (3, .int v3), (4, .int v4)]) hx hb dX4_comeWithRight_55 hl (k := 5) rfl (zc1 (by decide)) (by decide) rfl (fun ls hl => ?_)
            refine lv_goto (tgt := 6) hx hb dX4_comeWithRight_58 (by decide) ?_
            exact ih _ _ _ _ _ _ _ _ hf B (lv_sub hl [1, 2, 3, 4, 5, 0] rfl)
          · have hf := zif_f hc hf
            refine lv_iload hx hb dX4_comeWithRight_46 (lv_at hl 4 rfl) ?_
            refine lv_iconst (v := (1 : Int32)) hx hb dX4_comeWithRight_48 (by decide) ?_
            refine lv_iload hx hb dX4_comeWithRight_49 (lv_at hl 5 rfl) ?_
            refine lv_ishl hx hb dX4_comeWithRight_51 ?_
            refine lv_ior hx hb dX4_comeWithRight_52 ?_
            refine lv_istore (lv' := [(4, .int (v4 ||| ((1 : Int32) <<< (v5 &&& 31)))), (0, .ref (ad 57)), (1, .ref (ad 2)), (2, .int v2), (3, .int v3), (5, .int v5)]) hx hb dX4_comeWithRight_53 hl (by decide) rfl (fun ls hl => ?_)
            refine lv_iinc (v := (v5 + (1 : Int32))) (lv' := [(5, .int (v5 + (1 : Int32))), (4, .int (v4 ||| ((1 : Int32) <<< (v5 &&& 31)))), (0, .ref (ad 57)), (1, .ref (ad 2)), (2, .int v2), (3, .int v3)]) hx hb dX4_comeWithRight_55 hl (k := 5) rfl (zc1 (by decide)) (by decide) rfl (fun ls hl => ?_)
            refine lv_goto (tgt := 6) hx hb dX4_comeWithRight_58 (by decide) ?_
            exact ih _ _ _ _ _ _ _ _ hf B (lv_sub hl [2, 3, 4, 5, 1, 0] rfl)
  unfold f_X4_comeWithRight_2 at hf
  refine lv_iconst (v := (0 : Int32)) hx hb dX4_comeWithRight_0 (by decide) ?_
  refine lv_istore (lv' := [(4, .int (0 : Int32)), (0, .ref (ad 57)), (1, .ref (ad 2)), (2, .int a2), (3, .int a3)]) hx hb dX4_comeWithRight_1 hl (by decide) rfl (fun ls hl => ?_)
  refine lv_iconst (v := (0 : Int32)) hx hb dX4_comeWithRight_3 (by decide) ?_
  refine lv_istore (lv' := [(5, .int (0 : Int32)), (4, .int (0 : Int32)), (0, .ref (ad 57)), (1, .ref (ad 2)), (2, .int a2), (3, .int a3)]) hx hb dX4_comeWithRight_4 hl (by decide) rfl (fun ls hl => ?_)
  exact L6  _ _ _ _ _ _ _ _ _ hf B (lv_sub hl [2, 3, 4, 5, 1, 0] rfl)
theorem dX4_sendThroughMailboxes_0 : decode cX4_sendThroughMailboxes 0 = .ok (.iconst 0, 1) := by decide +kernel
theorem dX4_sendThroughMailboxes_1 : decode cX4_sendThroughMailboxes 1 = .ok (.istore_n 2, 1) := by decide +kernel
theorem dX4_sendThroughMailboxes_2 : decode cX4_sendThroughMailboxes 2 = .ok (.iload_n 2, 1) := by decide +kernel
theorem dX4_sendThroughMailboxes_3 : decode cX4_sendThroughMailboxes 3 = .ok (.bipush 6, 2) := by decide +kernel
theorem dX4_sendThroughMailboxes_5 : decode cX4_sendThroughMailboxes 5 = .ok (.if_icmp .ge 81, 3) := by decide +kernel
theorem dX4_sendThroughMailboxes_8 : decode cX4_sendThroughMailboxes 8 = .ok (.aload_n 0, 1) := by decide +kernel
theorem dX4_sendThroughMailboxes_9 : decode cX4_sendThroughMailboxes 9 = .ok (.aload_n 1, 1) := by decide +kernel
theorem dX4_sendThroughMailboxes_10 : decode cX4_sendThroughMailboxes 10 = .ok (.iload_n 2, 1) := by decide +kernel
theorem dX4_sendThroughMailboxes_11 : decode cX4_sendThroughMailboxes 11 = .ok (.iconst 4, 1) := by decide +kernel
theorem dX4_sendThroughMailboxes_12 : decode cX4_sendThroughMailboxes 12 = .ok (.invokevirtual 79, 3) := by decide +kernel
theorem dX4_sendThroughMailboxes_15 : decode cX4_sendThroughMailboxes 15 = .ok (.istore_n 3, 1) := by decide +kernel
theorem dX4_sendThroughMailboxes_16 : decode cX4_sendThroughMailboxes 16 = .ok (.aload_n 0, 1) := by decide +kernel
theorem dX4_sendThroughMailboxes_17 : decode cX4_sendThroughMailboxes 17 = .ok (.aload_n 1, 1) := by decide +kernel
theorem dX4_sendThroughMailboxes_18 : decode cX4_sendThroughMailboxes 18 = .ok (.iload_n 2, 1) := by decide +kernel
theorem dX4_sendThroughMailboxes_19 : decode cX4_sendThroughMailboxes 19 = .ok (.iconst 2, 1) := by decide +kernel
theorem dX4_sendThroughMailboxes_20 : decode cX4_sendThroughMailboxes 20 = .ok (.invokevirtual 79, 3) := by decide +kernel
theorem dX4_sendThroughMailboxes_23 : decode cX4_sendThroughMailboxes 23 = .ok (.istore 4, 2) := by decide +kernel
theorem dX4_sendThroughMailboxes_25 : decode cX4_sendThroughMailboxes 25 = .ok (.iconst 0, 1) := by decide +kernel
theorem dX4_sendThroughMailboxes_26 : decode cX4_sendThroughMailboxes 26 = .ok (.istore 5, 2) := by decide +kernel
theorem dX4_sendThroughMailboxes_28 : decode cX4_sendThroughMailboxes 28 = .ok (.iload 5, 2) := by decide +kernel
theorem dX4_sendThroughMailboxes_30 : decode cX4_sendThroughMailboxes 30 = .ok (.aload_n 1, 1) := by decide +kernel
theorem dX4_sendThroughMailboxes_31 : decode cX4_sendThroughMailboxes 31 = .ok (.getfield 37, 3) := by decide +kernel
theorem dX4_sendThroughMailboxes_34 : decode cX4_sendThroughMailboxes 34 = .ok (.if_icmp .ge 46, 3) := by decide +kernel
theorem dX4_sendThroughMailboxes_37 : decode cX4_sendThroughMailboxes 37 = .ok (.aload_n 1, 1) := by decide +kernel
theorem dX4_sendThroughMailboxes_38 : decode cX4_sendThroughMailboxes 38 = .ok (.getfield 83, 3) := by decide +kernel
theorem dX4_sendThroughMailboxes_41 : decode cX4_sendThroughMailboxes 41 = .ok (.iload 5, 2) := by decide +kernel
theorem dX4_sendThroughMailboxes_43 : decode cX4_sendThroughMailboxes 43 = .ok (.iaload, 1) := by decide +kernel
theorem dX4_sendThroughMailboxes_44 : decode cX4_sendThroughMailboxes 44 = .ok (.istore 6, 2) := by decide +kernel
theorem dX4_sendThroughMailboxes_46 : decode cX4_sendThroughMailboxes 46 = .ok (.iload 4, 2) := by decide +kernel
theorem dX4_sendThroughMailboxes_48 : decode cX4_sendThroughMailboxes 48 = .ok (.iload 5, 2) := by decide +kernel
theorem dX4_sendThroughMailboxes_50 : decode cX4_sendThroughMailboxes 50 = .ok (.invokestatic 76, 3) := by decide +kernel
theorem dX4_sendThroughMailboxes_53 : decode cX4_sendThroughMailboxes 53 = .ok (.ifCond .eq 21, 3) := by decide +kernel
theorem dX4_sendThroughMailboxes_56 : decode cX4_sendThroughMailboxes 56 = .ok (.iload 6, 2) := by decide +kernel
theorem dX4_sendThroughMailboxes_58 : decode cX4_sendThroughMailboxes 58 = .ok (.bipush 6, 2) := by decide +kernel
theorem dX4_sendThroughMailboxes_60 : decode cX4_sendThroughMailboxes 60 = .ok (.if_icmp .ge 14, 3) := by decide +kernel
theorem dX4_sendThroughMailboxes_63 : decode cX4_sendThroughMailboxes 63 = .ok (.aload_n 0, 1) := by decide +kernel
theorem dX4_sendThroughMailboxes_64 : decode cX4_sendThroughMailboxes 64 = .ok (.getfield 15, 3) := by decide +kernel
theorem dX4_sendThroughMailboxes_67 : decode cX4_sendThroughMailboxes 67 = .ok (.iload 6, 2) := by decide +kernel
theorem dX4_sendThroughMailboxes_69 : decode cX4_sendThroughMailboxes 69 = .ok (.dup2, 1) := by decide +kernel
theorem dX4_sendThroughMailboxes_70 : decode cX4_sendThroughMailboxes 70 = .ok (.iaload, 1) := by decide +kernel
theorem dX4_sendThroughMailboxes_71 : decode cX4_sendThroughMailboxes 71 = .ok (.iload_n 3, 1) := by decide +kernel
theorem dX4_sendThroughMailboxes_72 : decode cX4_sendThroughMailboxes 72 = .ok (.ior, 1) := by decide +kernel
theorem dX4_sendThroughMailboxes_73 : decode cX4_sendThroughMailboxes 73 = .ok (.iastore, 1) := by decide +kernel
theorem dX4_sendThroughMailboxes_74 : decode cX4_sendThroughMailboxes 74 = .ok (.iinc 5 1, 3) := by decide +kernel
theorem dX4_sendThroughMailboxes_77 : decode cX4_sendThroughMailboxes 77 = .ok (.goto (-49), 3) := by decide +kernel
theorem dX4_sendThroughMailboxes_80 : decode cX4_sendThroughMailboxes 80 = .ok (.iinc 2 1, 3) := by decide +kernel
theorem dX4_sendThroughMailboxes_83 : decode cX4_sendThroughMailboxes 83 = .ok (.goto (-81), 3) := by decide +kernel
theorem dX4_sendThroughMailboxes_86 : decode cX4_sendThroughMailboxes 86 = .ok (.return_, 1) := by decide +kernel
set_option maxRecDepth 20000 in
theorem ggX4_sendThroughMailboxes_X4_comeWithRight : GoodIn wsX4_sendThroughMailboxes wsX4_comeWithRight := goodIn_ca (goodIn_r _ [8, 1, 9, 10, 11, 12, 13, 14, 15, 16, 17, 18, 19, 20, 21, 22, 23, 24, 25, 26, 27, 28, 29] (by decide +kernel) (by decide +kernel)) (goodIn_sub (fun _ h => List.mem_cons_of_mem _ (List.mem_append_right _ h)) (by decide +kernel))
set_option maxRecDepth 20000 in
theorem gX4_sendThroughMailboxes_X4_comeWithRight : GoodIn wsX4_sendThroughMailboxes (wsV RX4 79 RX4 yX4_comeWithRight wsX4_comeWithRight) := goodIn_app (goodIn_of _ (by decide +kernel)) ggX4_sendThroughMailboxes_X4_comeWithRight
set_option maxRecDepth 20000 in
theorem ggX4_sendThroughMailboxes_X8_hasBit : GoodIn wsX4_sendThroughMailboxes wsX8_hasBit := goodIn_r _ [13] (by decide +kernel) (by decide +kernel)
set_option maxRecDepth 20000 in
theorem gX4_sendThroughMailboxes_X8_hasBit_n76 : GoodIn wsX4_sendThroughMailboxes (wsX8_hasBit) := ggX4_sendThroughMailboxes_X8_hasBit
def rm_X4_sendThroughMailboxes_2 : Room := { frames := 3, cells := 0, slots := 0, locals := 62 }
set_option maxHeartbeats 4000000 in
set_option maxRecDepth 100000 in
theorem c_X4_sendThroughMailboxes_2 (l : Launch) {G : zG} {ad : Nat → Nat} {σ σ' : zs} {r : Int32} (hf : f_X4_sendThroughMailboxes_2 σ  = some (r, σ')) : xMv l yX4_sendThroughMailboxes wsX4_sendThroughMailboxes rm_X4_sendThroughMailboxes_2 G ad σ [.ref (ad 57), .ref (ad 2)] σ' := by
  intro sz nb a g hs
  refine Met.ofW (cc := cX4_sendThroughMailboxes) (maxL := 7) (ret := none) (by decide) rfl ?_
  intro p e s m args below meth c s₁ B hml hv
  obtain ⟨rfl, hsz, hv⟩ := hv
  have hx := B.exec
  have hb := B.bytes
  have hr := B.returns
  have hts := atoms_spec (ws := wsX4_sendThroughMailboxes) B.pre
  have hown : s.vm.findClass RX4 = some m.cls := findClass_of_methodNamed B.named
  have hlocks := B.notSynchronized
  subst hsz
  have B := xB_start hs hv
  have hinRX4 : ∀ w ∈ wsX40, w ∈ wsX4_sendThroughMailboxes := by decide +kernel
  have hinRX7 : ∀ w ∈ wsX70, w ∈ wsX4_sendThroughMailboxes := by decide +kernel
  have hl := lv_entry ([.ref (ad 57), .ref (ad 2)]) (n := 7) (Nat.le_of_ble_eq_true rfl)
  rw [lg_entry_eq]
  generalize (lg_sl ([.ref (ad 57), .ref (ad 2)]) ++ List.replicate (7 - (lg_sl ([.ref (ad 57), .ref (ad 2)])).length) Slot.unset).toArray = ls at hl ⊢
  have hl : lv_has ls 7 [(0, .ref (ad 57)), (1, .ref (ad 2))] := hl
  generalize hAe : xA ad a s.heap.size = A at B ⊢
  have L28 : ∀ (K2 : zs → Int32 → Option (Int32 × zs)) (hK2 : ∀ (σ : zs) (v2 : Int32) (H : Heap) (locs : List Loc) (ls : Array Slot), K2 σ v2 = some (r, σ') → xB A s G ad σ H locs → lv_has ls 7 [(0, .ref (ad 57)), (1, .ref (ad 2)), (2, .int v2)] → W p l e (headSpec wsX4_sendThroughMailboxes rm_X4_sendThroughMailboxes_2).room s m ([.ref (ad 57), .ref (ad 2)] : List Value).toArray below meth c H locs 0 0 (MQ below (va_Qv (fun (u : xV) => xQ σ' u) (xPost G ad σ' A) A) ([.ref (ad 57), .ref (ad 2)] : List Value).toArray s 0 0 A) (F0 m 2 ls [])) (n : Nat) (σ : zs) (v2 : Int32) (v3 : Int32) (v4 : Int32) (v5 : Int32) (H : Heap) (locs : List Loc) (ls : Array Slot), zlp4 (f_X4_sendThroughMailboxes_2_28 K2) n σ v2 v3 v4 v5 = some (r, σ') → xB A s G ad σ H locs → lv_has ls 7 [(0, .ref (ad 57)), (1, .ref (ad 2)), (2, .int v2), (3, .int v3), (4, .int v4), (5, .int v5)] → W p l e (headSpec wsX4_sendThroughMailboxes rm_X4_sendThroughMailboxes_2).room s m ([.ref (ad 57), .ref (ad 2)] : List Value).toArray below meth c H locs 0 0 (MQ below (va_Qv (fun (u : xV) => xQ σ' u) (xPost G ad σ' A) A) ([.ref (ad 57), .ref (ad 2)] : List Value).toArray s 0 0 A) (F0 m 28 ls []) := by
    intro K2 hK2 n
    induction n with
    | zero =>
      intro σ v2 v3 v4 v5 H locs ls hf
      cases hf
    | succ n ih =>
      intro σ v2 v3 v4 v5 H locs ls hf B hl
      have hf : f_X4_sendThroughMailboxes_2_28 K2 (zlp4 (f_X4_sendThroughMailboxes_2_28 K2) n) σ v2 v3 v4 v5 = some (r, σ') := hf
      unfold f_X4_sendThroughMailboxes_2_28 at hf
      refine lv_iload hx hb dX4_sendThroughMailboxes_28 (lv_at hl 5 rfl) ?_
      refine lv_aload_n hx hb dX4_sendThroughMailboxes_30 rfl (lv_at hl 1 rfl) ?_
      refine x_geti hx hb hts hinRX7 hown B 2 0 (by decide) (fun _ => rfl) rfl rfl (by decide) (by decide +kernel) rfl dX4_sendThroughMailboxes_31 ?_
      refine lv_icmp_ge (tgt := 80) hx hb dX4_sendThroughMailboxes_34 (by decide) (fun hc => ?_) (fun hc => ?_)
      · have hf := zif_t hc hf
        refine lv_iinc (v := (v2 + (1 : Int32))) (lv' := [(2, .int (v2 + (1 : Int32))), (0, .ref (ad 57)), (1, .ref (ad 2)), (3, .int v3), (4, .int v4), (5, .int v5)]) hx hb dX4_sendThroughMailboxes_80 hl (k := 2) rfl (zc1 (by decide)) (by decide) rfl (fun ls hl => ?_)
        refine lv_goto (tgt := 2) hx hb dX4_sendThroughMailboxes_83 (by decide) ?_
        exact hK2 _ _ _ _ _ hf B (lv_sub hl [1, 2, 0] rfl)
      · have hf := zif_f hc hf
        refine lv_aload_n hx hb dX4_sendThroughMailboxes_37 rfl (lv_at hl 1 rfl) ?_
        refine x_getr hx hb hts hinRX7 hown B 2 1 3 (by decide) (by decide) (fun _ => rfl) rfl rfl (by decide) (by decide +kernel) rfl dX4_sendThroughMailboxes_38 ?_
        refine lv_iload hx hb dX4_sendThroughMailboxes_41 (lv_at hl 5 rfl) ?_
        obtain ⟨hg, hf⟩ := zg_some hf
        refine x_iald hx hb B 3 (by decide) (fun _ => rfl) (zin_ok hg) dX4_sendThroughMailboxes_43 ?_
        refine lv_istore (lv' := [(6, .int (σ 3 v5.toNatClampNeg)), (0, .ref (ad 57)), (1, .ref (ad 2)), (2, .int v2), (3, .int v3), (4, .int v4), (5, .int v5)]) hx hb dX4_sendThroughMailboxes_44 hl (by decide) rfl (fun ls hl => ?_)
        refine lv_iload hx hb dX4_sendThroughMailboxes_46 (lv_at hl 5 rfl) ?_
        refine lv_iload hx hb dX4_sendThroughMailboxes_48 (lv_at hl 6 rfl) ?_
        obtain ⟨r8, σ9, hu7, hf⟩ := zb_some hf
        refine x_i B (fun nb a g hs Bz => va_runSN (As := [.int v4, .int v5]) (rest := []) ⟨hx, hb, hml, hown, hts⟩ (c_X8_hasBit l hu7 _ nb a g hs) ⟨va_cnB 2 hts gX4_sendThroughMailboxes_X8_hasBit_n76 rfl rfl rfl (x_nest B (q := (RX4, 76, yX8_hasBit)) (by decide +kernel)) (hts (.initialized RX8) (by decide +kernel)) (by decide +kernel) ⟨Nat.le_of_ble_eq_true rfl, Nat.le_of_ble_eq_true rfl⟩, hts (.static yX8_hasBit) (by decide +kernel), trivial⟩ (z_preS Bz) rfl rfl hl.1 rfl (lv_room (Nat.le_of_ble_eq_true rfl)) dX4_sendThroughMailboxes_50 ⟨Nat.le_of_ble_eq_true rfl, Nat.le_of_ble_eq_true rfl⟩) (fun H locs B => ?_)
        refine lv_if_eq (tgt := 74) hx hb dX4_sendThroughMailboxes_53 (by decide) (fun hc => ?_) (fun hc => ?_)
        · have hf := zif_t hc hf
          refine lv_iinc (v := (v5 + (1 : Int32))) (lv' := [(5, .int (v5 + (1 : Int32))), (6, .int (σ 3 v5.toNatClampNeg)), (0, .ref (ad 57)), (1, .ref (ad 2)), (2, .int v2), (3, .int v3), (4, .int v4)]) hx hb dX4_sendThroughMailboxes_74 hl (k := 6) rfl (zc1 (by decide)) (by decide) rfl (fun ls hl => ?_)
          refine lv_goto (tgt := 28) hx hb dX4_sendThroughMailboxes_77 (by decide) ?_
          exact ih _ _ _ _ _ _ _ _ hf B (lv_sub hl [2, 3, 4, 5, 6, 0] rfl)
        · have hf := zif_f hc hf
          refine lv_iload hx hb dX4_sendThroughMailboxes_56 (lv_at hl 0 rfl) ?_
          refine lv_bipush (v := (6 : Int32)) hx hb dX4_sendThroughMailboxes_58 (by decide) ?_
          refine lv_icmp_ge (tgt := 74) hx hb dX4_sendThroughMailboxes_60 (by decide) (fun hc => ?_) (fun hc => ?_)
          · have hf := zif_t hc hf
            refine lv_iinc (v := (v5 + (1 : Int32))) (lv' := [(5, .int (v5 + (1 : Int32))), (6, .int (σ 3 v5.toNatClampNeg)), (0, .ref (ad 57)), (1, .ref (ad 2)), (2, .int v2), (3, .int v3), (4, .int v4)]) hx hb dX4_sendThroughMailboxes_74 hl (k := 6) rfl (zc1 (by decide)) (by decide) rfl (fun ls hl => ?_)
            refine lv_goto (tgt := 28) hx hb dX4_sendThroughMailboxes_77 (by decide) ?_
            exact ih _ _ _ _ _ _ _ _ hf B (lv_sub hl [2, 3, 4, 5, 6, 0] rfl)
          · have hf := zif_f hc hf
            refine lv_aload_n hx hb dX4_sendThroughMailboxes_63 rfl (lv_at hl 1 rfl) ?_
            refine x_getr hx hb hts hinRX4 hown B 57 1 59 (by decide) (by decide) (fun _ => rfl) rfl rfl (by decide) (by decide +kernel) rfl dX4_sendThroughMailboxes_64 ?_
            refine lv_iload hx hb dX4_sendThroughMailboxes_67 (lv_at hl 0 rfl) ?_
            refine lv_dup2_11 hx hb dX4_sendThroughMailboxes_69 rfl rfl ?_
            obtain ⟨hg, hf⟩ := zg_some hf
            refine x_iald hx hb B 59 (by decide) (fun _ => rfl) (zin_ok hg) dX4_sendThroughMailboxes_70 ?_
            refine lv_iload_n hx hb dX4_sendThroughMailboxes_71 rfl (lv_at hl 4 rfl) ?_
            refine lv_ior hx hb dX4_sendThroughMailboxes_72 ?_
            obtain ⟨hg, hf⟩ := zg_some hf
            refine x_iast hx hb B 59 (by decide) (by decide) (fun _ => rfl) (zin_ok hg) dX4_sendThroughMailboxes_73 (fun H locs B => ?_)
            refine lv_iinc (v := (v5 + (1 : Int32))) (lv' := [(5, .int (v5 + (1 : Int32))), (6, .int (σ 3 v5.toNatClampNeg)), (0, .ref (ad 57)), (1, .ref (ad 2)), (2, .int v2), (3, .int v3), (4, .int v4)]) hx hb dX4_sendThroughMailboxes_74 hl (k := 6) rfl (zc1 (by decide)) (by decide) rfl (fun ls hl => ?_)
            refine lv_goto (tgt := 28) hx hb dX4_sendThroughMailboxes_77 (by decide) ?_
            exact ih _ _ _ _ _ _ _ _ hf B (lv_sub hl [2, 3, 4, 5, 6, 0] rfl)
  have L2 : ∀ (n : Nat) (σ : zs) (v2 : Int32) (H : Heap) (locs : List Loc) (ls : Array Slot), zlp1 (f_X4_sendThroughMailboxes_2_2) n σ v2 = some (r, σ') → xB A s G ad σ H locs → lv_has ls 7 [(0, .ref (ad 57)), (1, .ref (ad 2)), (2, .int v2)] → W p l e (headSpec wsX4_sendThroughMailboxes rm_X4_sendThroughMailboxes_2).room s m ([.ref (ad 57), .ref (ad 2)] : List Value).toArray below meth c H locs 0 0 (MQ below (va_Qv (fun (u : xV) => xQ σ' u) (xPost G ad σ' A) A) ([.ref (ad 57), .ref (ad 2)] : List Value).toArray s 0 0 A) (F0 m 2 ls []) := by
    intro n
    induction n with
    | zero =>
      intro σ v2 H locs ls hf
      cases hf
    | succ n ih =>
      intro σ v2 H locs ls hf B hl
      have hf : f_X4_sendThroughMailboxes_2_2 (zlp1 (f_X4_sendThroughMailboxes_2_2) n) σ v2 = some (r, σ') := hf
      unfold f_X4_sendThroughMailboxes_2_2 at hf
      refine lv_iload_n hx hb dX4_sendThroughMailboxes_2 rfl (lv_at hl 2 rfl) ?_
      refine lv_bipush (v := (6 : Int32)) hx hb dX4_sendThroughMailboxes_3 (by decide) ?_
      refine lv_icmp_ge (tgt := 86) hx hb dX4_sendThroughMailboxes_5 (by decide) (fun hc => ?_) (fun hc => ?_)
      · have hf := zif_t hc hf
        refine W.widen (k := 0) (n := 0) (Nat.le_of_ble_eq_true rfl) (Nat.le_of_ble_eq_true rfl) ?_
        exact x_vret hx hb hr hlocks B hf dX4_sendThroughMailboxes_86
      · have hf := zif_f hc hf
        refine lv_aload_n hx hb dX4_sendThroughMailboxes_8 rfl (lv_at hl 0 rfl) ?_
        refine lv_aload_n hx hb dX4_sendThroughMailboxes_9 rfl (lv_at hl 1 rfl) ?_
        refine lv_iload_n hx hb dX4_sendThroughMailboxes_10 rfl (lv_at hl 2 rfl) ?_
        refine lv_iconst (v := (4 : Int32)) hx hb dX4_sendThroughMailboxes_11 (by decide) ?_
        obtain ⟨r2, σ3, hu1, hf⟩ := zb_some hf
        refine x_i B (fun nb a g hs Bz => va_runV (As := [.ref (ad 2), .int v2, .int (4 : Int32)]) (rest := []) ⟨hx, hb, hml, hown, hts⟩ (c_X4_comeWithRight_2 l hu1 _ nb a g hs) (cwV 3 hts gX4_sendThroughMailboxes_X4_comeWithRight rfl rfl rfl (by decide +kernel) ⟨Nat.le_of_ble_eq_true rfl, Nat.le_of_ble_eq_true rfl⟩) (x_preV Bz (by decide) (fun _ => rfl) rfl) rfl rfl hl.1 rfl (lv_room (Nat.le_of_ble_eq_true rfl)) dX4_sendThroughMailboxes_12 ⟨Nat.le_of_ble_eq_true rfl, Nat.le_of_ble_eq_true rfl⟩) (fun H locs B => ?_)
        refine lv_istore_n (lv' := [(3, .int r2), (0, .ref (ad 57)), (1, .ref (ad 2)), (2, .int v2)]) hx hb dX4_sendThroughMailboxes_15 rfl hl (by decide) rfl (fun ls hl => ?_)
        refine lv_aload_n hx hb dX4_sendThroughMailboxes_16 rfl (lv_at hl 1 rfl) ?_
        refine lv_aload_n hx hb dX4_sendThroughMailboxes_17 rfl (lv_at hl 2 rfl) ?_
        refine lv_iload_n hx hb dX4_sendThroughMailboxes_18 rfl (lv_at hl 3 rfl) ?_
        refine lv_iconst (v := (2 : Int32)) hx hb dX4_sendThroughMailboxes_19 (by decide) ?_
        obtain ⟨r5, σ6, hu4, hf⟩ := zb_some hf
        refine x_i B (fun nb a g hs Bz => va_runV (As := [.ref (ad 2), .int v2, .int (2 : Int32)]) (rest := []) ⟨hx, hb, hml, hown, hts⟩ (c_X4_comeWithRight_2 l hu4 _ nb a g hs) (cwV 3 hts gX4_sendThroughMailboxes_X4_comeWithRight rfl rfl rfl (by decide +kernel) ⟨Nat.le_of_ble_eq_true rfl, Nat.le_of_ble_eq_true rfl⟩) (x_preV Bz (by decide) (fun _ => rfl) rfl) rfl rfl hl.1 rfl (lv_room (Nat.le_of_ble_eq_true rfl)) dX4_sendThroughMailboxes_20 ⟨Nat.le_of_ble_eq_true rfl, Nat.le_of_ble_eq_true rfl⟩) (fun H locs B => ?_)
        refine lv_istore (lv' := [(4, .int r5), (3, .int r2), (0, .ref (ad 57)), (1, .ref (ad 2)), (2, .int v2)]) hx hb dX4_sendThroughMailboxes_23 hl (by decide) rfl (fun ls hl => ?_)
        refine lv_iconst (v := (0 : Int32)) hx hb dX4_sendThroughMailboxes_25 (by decide) ?_
        refine lv_istore (lv' := [(5, .int (0 : Int32)), (4, .int r5), (3, .int r2), (0, .ref (ad 57)), (1, .ref (ad 2)), (2, .int v2)]) hx hb dX4_sendThroughMailboxes_26 hl (by decide) rfl (fun ls hl => ?_)
        exact L28 _ ih  _ _ _ _ _ _ _ _ _ hf B (lv_sub hl [3, 4, 5, 2, 1, 0] rfl)
  unfold f_X4_sendThroughMailboxes_2 at hf
  refine lv_iconst (v := (0 : Int32)) hx hb dX4_sendThroughMailboxes_0 (by decide) ?_
  refine lv_istore_n (lv' := [(2, .int (0 : Int32)), (0, .ref (ad 57)), (1, .ref (ad 2))]) hx hb dX4_sendThroughMailboxes_1 rfl hl (by decide) rfl (fun ls hl => ?_)
  exact L2  _ _ _ _ _ _ hf B (lv_sub hl [1, 2, 0] rfl)
theorem dX4_find_0 : decode cX4_find 0 = .ok (.aload_n 0, 1) := by decide +kernel
theorem dX4_find_1 : decode cX4_find 1 = .ok (.aload_n 1, 1) := by decide +kernel
theorem dX4_find_2 : decode cX4_find 2 = .ok (.invokevirtual 24, 3) := by decide +kernel
theorem dX4_find_5 : decode cX4_find 5 = .ok (.aload_n 0, 1) := by decide +kernel
theorem dX4_find_6 : decode cX4_find 6 = .ok (.aload_n 1, 1) := by decide +kernel
theorem dX4_find_7 : decode cX4_find 7 = .ok (.invokevirtual 28, 3) := by decide +kernel
theorem dX4_find_10 : decode cX4_find 10 = .ok (.iconst 1, 1) := by decide +kernel
theorem dX4_find_11 : decode cX4_find 11 = .ok (.istore_n 2, 1) := by decide +kernel
theorem dX4_find_12 : decode cX4_find 12 = .ok (.iconst 0, 1) := by decide +kernel
theorem dX4_find_13 : decode cX4_find 13 = .ok (.istore_n 3, 1) := by decide +kernel
theorem dX4_find_14 : decode cX4_find 14 = .ok (.iload_n 3, 1) := by decide +kernel
theorem dX4_find_15 : decode cX4_find 15 = .ok (.sipush 168, 3) := by decide +kernel
theorem dX4_find_18 : decode cX4_find 18 = .ok (.if_icmp .gt 34, 3) := by decide +kernel
theorem dX4_find_21 : decode cX4_find 21 = .ok (.iload_n 2, 1) := by decide +kernel
theorem dX4_find_22 : decode cX4_find 22 = .ok (.ifCond .eq 30, 3) := by decide +kernel
theorem dX4_find_25 : decode cX4_find 25 = .ok (.aload_n 0, 1) := by decide +kernel
theorem dX4_find_26 : decode cX4_find 26 = .ok (.aload_n 1, 1) := by decide +kernel
theorem dX4_find_27 : decode cX4_find 27 = .ok (.getfield 31, 3) := by decide +kernel
theorem dX4_find_30 : decode cX4_find 30 = .ok (.getfield 37, 3) := by decide +kernel
theorem dX4_find_33 : decode cX4_find 33 = .ok (.iload_n 3, 1) := by decide +kernel
theorem dX4_find_34 : decode cX4_find 34 = .ok (.invokevirtual 43, 3) := by decide +kernel
theorem dX4_find_37 : decode cX4_find 37 = .ok (.istore_n 2, 1) := by decide +kernel
theorem dX4_find_38 : decode cX4_find 38 = .ok (.aload_n 0, 1) := by decide +kernel
theorem dX4_find_39 : decode cX4_find 39 = .ok (.aload_n 1, 1) := by decide +kernel
theorem dX4_find_40 : decode cX4_find 40 = .ok (.getfield 31, 3) := by decide +kernel
theorem dX4_find_43 : decode cX4_find 43 = .ok (.invokevirtual 47, 3) := by decide +kernel
theorem dX4_find_46 : decode cX4_find 46 = .ok (.iinc 3 1, 3) := by decide +kernel
theorem dX4_find_49 : decode cX4_find 49 = .ok (.goto (-35), 3) := by decide +kernel
theorem dX4_find_52 : decode cX4_find 52 = .ok (.return_, 1) := by decide +kernel
set_option maxRecDepth 20000 in
theorem ggX4_find_X4_findOpen : GoodIn wsX4_find wsX4_findOpen := goodIn_ca (goodIn_r _ [7, 1, 2, 8, 9, 10, 11, 12, 13, 14, 15, 16, 17, 18, 19, 20, 21, 22, 23, 24, 25, 26, 27, 28, 29, 30, 31, 32, 33, 34, 35, 36, 37, 38, 39, 40, 41, 42, 43, 44, 45, 46, 47, 48, 49, 50, 51, 52, 53, 54, 55, 56, 57, 58, 59, 60, 61, 62, 63, 64, 65, 66, 67, 105, 106, 107, 108, 109, 110, 111, 112, 113, 114, 115, 116, 117, 118, 119, 120, 121, 122, 123, 124, 125, 126, 127, 128, 129, 130, 131, 132, 133, 134] (by decide +kernel) (by decide +kernel)) (goodIn_sub (fun _ h => List.mem_cons_of_mem _ (List.mem_append_right _ h)) (by decide +kernel))
set_option maxRecDepth 20000 in
theorem gX4_find_X4_findOpen : GoodIn wsX4_find (wsV RX4 24 RX4 yX4_findOpen wsX4_findOpen) := goodIn_app (goodIn_of _ (by decide +kernel)) ggX4_find_X4_findOpen
set_option maxRecDepth 20000 in
theorem ggX4_find_X4_findFirst : GoodIn wsX4_find wsX4_findFirst := goodIn_ca (goodIn_r _ [71, 72, 73, 1, 74, 75, 76, 77, 78, 79, 13, 80, 81, 82, 61, 62, 63, 83, 84, 85, 86, 87, 88, 89, 90, 125, 126, 127, 128, 105, 106, 107, 108, 109, 110, 111, 112, 135, 136, 137, 138, 139, 140, 141, 113, 114, 115, 116, 117, 118, 119, 120, 121, 122, 123, 124] (by decide +kernel) (by decide +kernel)) (goodIn_sub (fun _ h => List.mem_cons_of_mem _ (List.mem_append_right _ h)) (by decide +kernel))
set_option maxRecDepth 20000 in
theorem gX4_find_X4_findFirst : GoodIn wsX4_find (wsV RX4 28 RX4 yX4_findFirst wsX4_findFirst) := goodIn_app (goodIn_of _ (by decide +kernel)) ggX4_find_X4_findFirst
set_option maxRecDepth 20000 in
theorem ggX4_find_X4_settle : GoodIn wsX4_find wsX4_settle := goodIn_ca (goodIn_r _ [94, 73, 72, 95, 61, 62, 63, 125, 126, 127, 128] (by decide +kernel) (by decide +kernel)) (goodIn_sub (fun _ h => List.mem_cons_of_mem _ (List.mem_append_right _ h)) (by decide +kernel))
set_option maxRecDepth 20000 in
theorem gX4_find_X4_settle : GoodIn wsX4_find (wsV RX4 43 RX4 yX4_settle wsX4_settle) := goodIn_app (goodIn_of _ (by decide +kernel)) ggX4_find_X4_settle
set_option maxRecDepth 20000 in
theorem ggX4_find_X4_sendThroughMailboxes : GoodIn wsX4_find wsX4_sendThroughMailboxes := goodIn_ca (goodIn_r _ [99, 2, 100, 73, 101, 102, 103, 6, 104, 72, 8, 61, 62, 63, 113, 114, 115, 116, 117, 118, 119, 120, 121, 122, 123, 124, 125, 126, 127, 128] (by decide +kernel) (by decide +kernel)) (goodIn_sub (fun _ h => List.mem_cons_of_mem _ (List.mem_append_right _ h)) (by decide +kernel))
set_option maxRecDepth 20000 in
theorem gX4_find_X4_sendThroughMailboxes : GoodIn wsX4_find (wsV RX4 47 RX4 yX4_sendThroughMailboxes wsX4_sendThroughMailboxes) := goodIn_app (goodIn_of _ (by decide +kernel)) ggX4_find_X4_sendThroughMailboxes
def rm_X4_find_1 : Room := { frames := 6, cells := 0, slots := 0, locals := 138 }
set_option maxHeartbeats 4000000 in
set_option maxRecDepth 100000 in
theorem c_X4_find_1 (l : Launch) {G : zG} {ad : Nat → Nat} {σ σ' : zs} {r : Int32} (hf : f_X4_find_1 σ  = some (r, σ')) : xMv l yX4_find wsX4_find rm_X4_find_1 G ad σ [.ref (ad 57), .ref (ad 1)] σ' := by
  intro sz nb a g hs
  refine Met.ofW (cc := cX4_find) (maxL := 4) (ret := none) (by decide) rfl ?_
  intro p e s m args below meth c s₁ B hml hv
  obtain ⟨rfl, hsz, hv⟩ := hv
  have hx := B.exec
  have hb := B.bytes
  have hr := B.returns
  have hts := atoms_spec (ws := wsX4_find) B.pre
  have hown : s.vm.findClass RX4 = some m.cls := findClass_of_methodNamed B.named
  have hlocks := B.notSynchronized
  subst hsz
  have B := xB_start hs hv
  have hinRX6 : ∀ w ∈ wsX60, w ∈ wsX4_find := by decide +kernel
  have hinRX7 : ∀ w ∈ wsX70, w ∈ wsX4_find := by decide +kernel
  have hl := lv_entry ([.ref (ad 57), .ref (ad 1)]) (n := 4) (Nat.le_of_ble_eq_true rfl)
  rw [lg_entry_eq]
  generalize (lg_sl ([.ref (ad 57), .ref (ad 1)]) ++ List.replicate (4 - (lg_sl ([.ref (ad 57), .ref (ad 1)])).length) Slot.unset).toArray = ls at hl ⊢
  have hl : lv_has ls 4 [(0, .ref (ad 57)), (1, .ref (ad 1))] := hl
  generalize hAe : xA ad a s.heap.size = A at B ⊢
  have L14 : ∀ (n : Nat) (σ : zs) (v2 : Int32) (v3 : Int32) (H : Heap) (locs : List Loc) (ls : Array Slot), zlp2 (f_X4_find_1_14) n σ v2 v3 = some (r, σ') → xB A s G ad σ H locs → lv_has ls 4 [(0, .ref (ad 57)), (1, .ref (ad 1)), (2, .int v2), (3, .int v3)] → W p l e (headSpec wsX4_find rm_X4_find_1).room s m ([.ref (ad 57), .ref (ad 1)] : List Value).toArray below meth c H locs 0 0 (MQ below (va_Qv (fun (u : xV) => xQ σ' u) (xPost G ad σ' A) A) ([.ref (ad 57), .ref (ad 1)] : List Value).toArray s 0 0 A) (F0 m 14 ls []) := by
    intro n
    induction n with
    | zero =>
      intro σ v2 v3 H locs ls hf
      cases hf
    | succ n ih =>
      intro σ v2 v3 H locs ls hf B hl
      have hf : f_X4_find_1_14 (zlp2 (f_X4_find_1_14) n) σ v2 v3 = some (r, σ') := hf
      unfold f_X4_find_1_14 at hf
      refine lv_iload_n hx hb dX4_find_14 rfl (lv_at hl 3 rfl) ?_
      refine lv_sipush (v := (168 : Int32)) hx hb dX4_find_15 (by decide) ?_
      refine lv_icmp_gt (tgt := 52) hx hb dX4_find_18 (by decide) (fun hc => ?_) (fun hc => ?_)
      · have hf := zif_t hc hf
        refine W.widen (k := 0) (n := 0) (Nat.le_of_ble_eq_true rfl) (Nat.le_of_ble_eq_true rfl) ?_
        exact x_vret hx hb hr hlocks B hf dX4_find_52
      · have hf := zif_f hc hf
        refine lv_iload_n hx hb dX4_find_21 rfl (lv_at hl 2 rfl) ?_
        refine lv_if_eq (tgt := 52) hx hb dX4_find_22 (by decide) (fun hc => ?_) (fun hc => ?_)
        · have hf := zif_t hc hf
          refine W.widen (k := 0) (n := 0) (Nat.le_of_ble_eq_true rfl) (Nat.le_of_ble_eq_true rfl) ?_
          exact x_vret hx hb hr hlocks B hf dX4_find_52
        · have hf := zif_f hc hf
          refine lv_aload_n hx hb dX4_find_25 rfl (lv_at hl 0 rfl) ?_
          refine lv_aload_n hx hb dX4_find_26 rfl (lv_at hl 1 rfl) ?_
          refine x_getr hx hb hts hinRX6 hown B 1 0 2 (by decide) (by decide) (fun _ => rfl) rfl rfl (by decide) (by decide +kernel) rfl dX4_find_27 ?_
          refine x_geti hx hb hts hinRX7 hown B 2 0 (by decide) (fun _ => rfl) rfl rfl (by decide) (by decide +kernel) rfl dX4_find_30 ?_
          refine lv_iload_n hx hb dX4_find_33 rfl (lv_at hl 3 rfl) ?_
          obtain ⟨r8, σ9, hu7, hf⟩ := zb_some hf
          refine x_i B (fun nb a g hs Bz => va_runV (As := [.int (σ 2 0), .int v3]) (rest := []) ⟨hx, hb, hml, hown, hts⟩ (c_X4_settle l hu7 _ nb a g hs) (cwV 2 hts gX4_find_X4_settle rfl rfl rfl (by decide +kernel) ⟨Nat.le_of_ble_eq_true rfl, Nat.le_of_ble_eq_true rfl⟩) (x_preV Bz (by decide) (fun _ => rfl) rfl) rfl rfl hl.1 rfl (lv_room (Nat.le_of_ble_eq_true rfl)) dX4_find_34 ⟨Nat.le_of_ble_eq_true rfl, Nat.le_of_ble_eq_true rfl⟩) (fun H locs B => ?_)
          refine lv_istore_n (lv' := [(2, .int r8), (0, .ref (ad 57)), (1, .ref (ad 1)), (3, .int v3)]) hx hb dX4_find_37 rfl hl (by decide) rfl (fun ls hl => ?_)
          refine lv_aload_n hx hb dX4_find_38 rfl (lv_at hl 1 rfl) ?_
          refine lv_aload_n hx hb dX4_find_39 rfl (lv_at hl 2 rfl) ?_
          refine x_getr hx hb hts hinRX6 hown B 1 0 2 (by decide) (by decide) (fun _ => rfl) rfl rfl (by decide) (by decide +kernel) rfl dX4_find_40 ?_
          obtain ⟨r11, σ12, hu10, hf⟩ := zb_some hf
          refine x_v B (fun nb a g hs Bz => va_runV (As := [.ref (ad 2)]) (rest := []) ⟨hx, hb, hml, hown, hts⟩ (c_X4_sendThroughMailboxes_2 l hu10 _ nb a g hs) (cwV 1 hts gX4_find_X4_sendThroughMailboxes rfl rfl rfl (by decide +kernel) ⟨Nat.le_of_ble_eq_true rfl, Nat.le_of_ble_eq_true rfl⟩) (x_preV Bz (by decide) (fun _ => rfl) rfl) rfl rfl hl.1 rfl (lv_room (Nat.le_of_ble_eq_true rfl)) dX4_find_43 ⟨Nat.le_of_ble_eq_true rfl, Nat.le_of_ble_eq_true rfl⟩) (fun H locs B => ?_)
          refine lv_iinc (v := (v3 + (1 : Int32))) (lv' := [(3, .int (v3 + (1 : Int32))), (2, .int r8), (0, .ref (ad 57)), (1, .ref (ad 1))]) hx hb dX4_find_46 hl (k := 3) rfl (zc1 (by decide)) (by decide) rfl (fun ls hl => ?_)
          refine lv_goto (tgt := 14) hx hb dX4_find_49 (by decide) ?_
          exact ih _ _ _ _ _ _ hf B (lv_sub hl [2, 3, 1, 0] rfl)
  unfold f_X4_find_1 at hf
  refine lv_aload_n hx hb dX4_find_0 rfl (lv_at hl 0 rfl) ?_
  refine lv_aload_n hx hb dX4_find_1 rfl (lv_at hl 1 rfl) ?_
  obtain ⟨r2, σ3, hu1, hf⟩ := zb_some hf
  refine x_v B (fun nb a g hs Bz => va_runV (As := [.ref (ad 1)]) (rest := []) ⟨hx, hb, hml, hown, hts⟩ (c_X4_findOpen_1 l hu1 _ nb a g hs) (cwV 1 hts gX4_find_X4_findOpen rfl rfl rfl (by decide +kernel) ⟨Nat.le_of_ble_eq_true rfl, Nat.le_of_ble_eq_true rfl⟩) (x_preV Bz (by decide) (fun _ => rfl) rfl) rfl rfl hl.1 rfl (lv_room (Nat.le_of_ble_eq_true rfl)) dX4_find_2 ⟨Nat.le_of_ble_eq_true rfl, Nat.le_of_ble_eq_true rfl⟩) (fun H locs B => ?_)
  refine lv_aload_n hx hb dX4_find_5 rfl (lv_at hl 0 rfl) ?_
  refine lv_aload_n hx hb dX4_find_6 rfl (lv_at hl 1 rfl) ?_
  obtain ⟨r5, σ6, hu4, hf⟩ := zb_some hf
  refine x_v B (fun nb a g hs Bz => va_runV (As := [.ref (ad 1)]) (rest := []) ⟨hx, hb, hml, hown, hts⟩ (c_X4_findFirst_1 l hu4 _ nb a g hs) (cwV 1 hts gX4_find_X4_findFirst rfl rfl rfl (by decide +kernel) ⟨Nat.le_of_ble_eq_true rfl, Nat.le_of_ble_eq_true rfl⟩) (x_preV Bz (by decide) (fun _ => rfl) rfl) rfl rfl hl.1 rfl (lv_room (Nat.le_of_ble_eq_true rfl)) dX4_find_7 ⟨Nat.le_of_ble_eq_true rfl, Nat.le_of_ble_eq_true rfl⟩) (fun H locs B => ?_)
  refine lv_iconst (v := (1 : Int32)) hx hb dX4_find_10 (by decide) ?_
  refine lv_istore_n (lv' := [(2, .int (1 : Int32)), (0, .ref (ad 57)), (1, .ref (ad 1))]) hx hb dX4_find_11 rfl hl (by decide) rfl (fun ls hl => ?_)
  refine lv_iconst (v := (0 : Int32)) hx hb dX4_find_12 (by decide) ?_
  refine lv_istore_n (lv' := [(3, .int (0 : Int32)), (2, .int (1 : Int32)), (0, .ref (ad 57)), (1, .ref (ad 1))]) hx hb dX4_find_13 rfl hl (by decide) rfl (fun ls hl => ?_)
  exact L14  _ _ _ _ _ _ _ hf B (lv_sub hl [2, 3, 1, 0] rfl)
theorem dX8_coming_0 : decode cX8_coming 0 = .ok (.iload_n 1, 1) := by decide +kernel
theorem dX8_coming_1 : decode cX8_coming 1 = .ok (.invokestatic 55, 3) := by decide +kernel
theorem dX8_coming_4 : decode cX8_coming 4 = .ok (.aload_n 0, 1) := by decide +kernel
theorem dX8_coming_5 : decode cX8_coming 5 = .ok (.getfield 40, 3) := by decide +kernel
theorem dX8_coming_8 : decode cX8_coming 8 = .ok (.aload_n 0, 1) := by decide +kernel
theorem dX8_coming_9 : decode cX8_coming 9 = .ok (.getfield 12, 3) := by decide +kernel
theorem dX8_coming_12 : decode cX8_coming 12 = .ok (.invokevirtual 338, 3) := by decide +kernel
theorem dX8_coming_15 : decode cX8_coming 15 = .ok (.aload_n 0, 1) := by decide +kernel
theorem dX8_coming_16 : decode cX8_coming 16 = .ok (.getfield 40, 3) := by decide +kernel
theorem dX8_coming_19 : decode cX8_coming 19 = .ok (.getfield 342, 3) := by decide +kernel
theorem dX8_coming_22 : decode cX8_coming 22 = .ok (.iload_n 1, 1) := by decide +kernel
theorem dX8_coming_23 : decode cX8_coming 23 = .ok (.iaload, 1) := by decide +kernel
theorem dX8_coming_24 : decode cX8_coming 24 = .ok (.ireturn, 1) := by decide +kernel
set_option maxRecDepth 20000 in
theorem ggX8_coming_X8_needSubject : GoodIn wsX8_coming wsX8_needSubject := goodIn_ca (goodIn_r _ [7, 8, 9, 6, 10, 11, 12] (by decide +kernel) (by decide +kernel)) (goodIn_sub (fun _ h => List.mem_cons_of_mem _ (List.mem_append_right _ h)) (by decide +kernel))
set_option maxRecDepth 20000 in
theorem gX8_coming_X8_needSubject : GoodIn wsX8_coming (va_wsS RX8 55 yX8_needSubject wsX8_needSubject) := goodIn_app (goodIn_of _ (by decide +kernel)) ggX8_coming_X8_needSubject
set_option maxRecDepth 20000 in
theorem ggX8_coming_X4_find : GoodIn wsX8_coming wsX4_find := goodIn_ca (goodIn_r _ [17, 18, 19, 20, 21, 22, 16, 23, 24, 25, 26, 27, 28, 29, 30, 31, 32, 33, 34, 35, 36, 37, 38, 39, 40, 41, 42, 43, 44, 45, 46, 47, 48, 49, 50, 51, 52, 53, 54, 55, 56, 57, 58, 59, 60, 61, 62, 63, 64, 65, 66, 67, 68, 69, 70, 71, 72, 73, 74, 75, 76, 77, 6, 78, 79, 80, 81, 82, 83, 84, 85, 86, 87, 88, 89, 90, 91, 92, 93, 94, 95, 96, 97, 98, 99, 100, 101, 102, 103, 104, 105, 106, 107, 108, 109, 110, 111, 112, 113, 114, 115, 116, 117, 118, 119, 132, 133, 134, 135, 136, 137, 138, 139, 140, 141, 142, 143, 144, 145, 146, 147, 148, 149, 150, 151, 128, 129, 130, 131, 152, 153, 154, 155, 156, 157, 158, 159, 160, 161, 162, 163, 164] (by decide +kernel) (by decide +kernel)) (goodIn_sub (fun _ h => List.mem_cons_of_mem _ (List.mem_append_left _ (List.mem_append_right _ h))) (by decide +kernel))
set_option maxRecDepth 20000 in
theorem gX8_coming_X4_find : GoodIn wsX8_coming (wsV RX8 338 RX4 yX4_find wsX4_find) := goodIn_app (goodIn_of _ (by decide +kernel)) ggX8_coming_X4_find
def rm_X8_coming : Room := { frames := 10, cells := 1, slots := 6, locals := 240 }
set_option maxHeartbeats 4000000 in
set_option maxRecDepth 100000 in
theorem c_X8_coming (l : Launch) (hfl : l.stackTraces = false) {G : zG} {ad : Nat → Nat} {σ σ' : zs} {a1 : Int32} {ex : Nat} {r : Int32} (hf : f_X8_coming σ a1 = some (ex, r, σ')) : xXi l yX8_coming wsX8_coming rm_X8_coming G ad σ [.ref (ad 0), .int a1] ex r σ' := by
  intro sz nb a g hs
  refine vx_ofW (cc := cX8_coming) (maxL := 2) (ret := (some .int)) (by decide) rfl ?_
  intro p e s m args below meth c s₁ B hml hno hv
  obtain ⟨rfl, hsz, hv⟩ := hv
  have hx := B.exec
  have hb := B.bytes
  have hr := B.returns
  have hts := atoms_spec (ws := wsX8_coming) B.pre
  have hown : s.vm.findClass RX8 = some m.cls := findClass_of_methodNamed B.named
  have hlocks := B.notSynchronized
  subst hsz
  have B := xB_start hs hv
  have hinRX4 : ∀ w ∈ wsX40, w ∈ wsX8_coming := by decide +kernel
  have hinRX8 : ∀ w ∈ wsX80, w ∈ wsX8_coming := by decide +kernel
  have hl := lv_entry ([.ref (ad 0), .int a1]) (n := 2) (Nat.le_of_ble_eq_true rfl)
  rw [lg_entry_eq]
  generalize (lg_sl ([.ref (ad 0), .int a1]) ++ List.replicate (2 - (lg_sl ([.ref (ad 0), .int a1])).length) Slot.unset).toArray = ls at hl ⊢
  have hl : lv_has ls 2 [(0, .ref (ad 0)), (1, .int a1)] := hl
  generalize hAe : xA ad a s.heap.size = A at B ⊢
  unfold f_X8_coming at hf
  refine lv_iload_n hx hb dX8_coming_0 rfl (lv_at hl 1 rfl) ?_
  obtain ⟨u1, r2, σ3, hu1, hf⟩ := zx_some hf
  refine x_xv B (fun nb a g hs Bz => vx_runS (As := [.int a1]) (rest := []) ⟨hx, hb, hml, hown, hts⟩ (c_X8_needSubject l hfl hu1 _ nb a g hs) (va_cwS 1 hts gX8_coming_X8_needSubject rfl rfl rfl (by decide +kernel) ⟨Nat.le_of_ble_eq_true rfl, Nat.le_of_ble_eq_true rfl⟩) (z_preS Bz) rfl rfl hl.1 rfl (lv_room (Nat.le_of_ble_eq_true rfl)) dX8_coming_1 ⟨Nat.le_of_ble_eq_true rfl, Nat.le_of_ble_eq_true rfl⟩) (fun H locs ce q9 h0 B k1 k2 k3 => ?_) (fun H locs h0 B => ?_)
  · exact x_xout hno hlocks (zx_no hf h0) h0 B k1 k2 k3 (Nat.le_of_ble_eq_true rfl) (Nat.le_of_ble_eq_true rfl)
  have hf := zx_ok hf h0
  refine lv_aload_n hx hb dX8_coming_4 rfl (lv_at hl 0 rfl) ?_
  refine x_getr hx hb hts hinRX8 hown B 0 5 57 (by decide) (by decide) (fun _ => rfl) rfl rfl (by decide) (by decide +kernel) rfl dX8_coming_5 ?_
  refine lv_aload_n hx hb dX8_coming_8 rfl (lv_at hl 0 rfl) ?_
  refine x_getr hx hb hts hinRX8 hown B 0 0 1 (by decide) (by decide) (fun _ => rfl) rfl rfl (by decide) (by decide +kernel) rfl dX8_coming_9 ?_
  obtain ⟨r5, σ6, hu4, hf⟩ := zb_some hf
  refine x_v B (fun nb a g hs Bz => va_runV (As := [.ref (ad 1)]) (rest := []) ⟨hx, hb, hml, hown, hts⟩ (c_X4_find_1 l hu4 _ nb a g hs) (cwV 1 hts gX8_coming_X4_find rfl rfl rfl (by decide +kernel) ⟨Nat.le_of_ble_eq_true rfl, Nat.le_of_ble_eq_true rfl⟩) (x_preV Bz (by decide) (fun _ => rfl) rfl) rfl rfl hl.1 rfl (lv_room (Nat.le_of_ble_eq_true rfl)) dX8_coming_12 ⟨Nat.le_of_ble_eq_true rfl, Nat.le_of_ble_eq_true rfl⟩) (fun H locs B => ?_)
  refine lv_aload_n hx hb dX8_coming_15 rfl (lv_at hl 0 rfl) ?_
  refine x_getr hx hb hts hinRX8 hown B 0 5 57 (by decide) (by decide) (fun _ => rfl) rfl rfl (by decide) (by decide +kernel) rfl dX8_coming_16 ?_
  refine x_getr hx hb hts hinRX4 hown B 57 0 58 (by decide) (by decide) (fun _ => rfl) rfl rfl (by decide) (by decide +kernel) rfl dX8_coming_19 ?_
  refine lv_iload_n hx hb dX8_coming_22 rfl (lv_at hl 1 rfl) ?_
  obtain ⟨hg, hf⟩ := zg_some hf
  refine x_iald hx hb B 58 (by decide) (fun _ => rfl) (zin_ok hg) dX8_coming_23 ?_
  refine W.widen (k := 1) (n := 6) (Nat.le_of_ble_eq_true rfl) (Nat.le_of_ble_eq_true rfl) ?_
  exact x_xiret hx hb hr rfl hlocks B hf dX8_coming_24
theorem dX8_round_0 : decode cX8_round 0 = .ok (.iload_n 1, 1) := by decide +kernel
theorem dX8_round_1 : decode cX8_round 1 = .ok (.invokestatic 55, 3) := by decide +kernel
theorem dX8_round_4 : decode cX8_round 4 = .ok (.aload_n 0, 1) := by decide +kernel
theorem dX8_round_5 : decode cX8_round 5 = .ok (.iload_n 2, 1) := by decide +kernel
theorem dX8_round_6 : decode cX8_round 6 = .ok (.invokevirtual 97, 3) := by decide +kernel
theorem dX8_round_9 : decode cX8_round 9 = .ok (.aload_n 0, 1) := by decide +kernel
theorem dX8_round_10 : decode cX8_round 10 = .ok (.getfield 40, 3) := by decide +kernel
theorem dX8_round_13 : decode cX8_round 13 = .ok (.aload_n 0, 1) := by decide +kernel
theorem dX8_round_14 : decode cX8_round 14 = .ok (.getfield 12, 3) := by decide +kernel
theorem dX8_round_17 : decode cX8_round 17 = .ok (.invokevirtual 338, 3) := by decide +kernel
theorem dX8_round_20 : decode cX8_round 20 = .ok (.aload_n 0, 1) := by decide +kernel
theorem dX8_round_21 : decode cX8_round 21 = .ok (.getfield 40, 3) := by decide +kernel
theorem dX8_round_24 : decode cX8_round 24 = .ok (.getfield 342, 3) := by decide +kernel
theorem dX8_round_27 : decode cX8_round 27 = .ok (.iload_n 1, 1) := by decide +kernel
theorem dX8_round_28 : decode cX8_round 28 = .ok (.iaload, 1) := by decide +kernel
theorem dX8_round_29 : decode cX8_round 29 = .ok (.iload_n 2, 1) := by decide +kernel
theorem dX8_round_30 : decode cX8_round 30 = .ok (.invokestatic 146, 3) := by decide +kernel
theorem dX8_round_33 : decode cX8_round 33 = .ok (.invokestatic 149, 3) := by decide +kernel
theorem dX8_round_36 : decode cX8_round 36 = .ok (.aload_n 0, 1) := by decide +kernel
theorem dX8_round_37 : decode cX8_round 37 = .ok (.getfield 40, 3) := by decide +kernel
theorem dX8_round_40 : decode cX8_round 40 = .ok (.getfield 345, 3) := by decide +kernel
theorem dX8_round_43 : decode cX8_round 43 = .ok (.iload_n 1, 1) := by decide +kernel
theorem dX8_round_44 : decode cX8_round 44 = .ok (.bipush 28, 2) := by decide +kernel
theorem dX8_round_46 : decode cX8_round 46 = .ok (.imul, 1) := by decide +kernel
theorem dX8_round_47 : decode cX8_round 47 = .ok (.iload_n 2, 1) := by decide +kernel
theorem dX8_round_48 : decode cX8_round 48 = .ok (.iadd, 1) := by decide +kernel
theorem dX8_round_49 : decode cX8_round 49 = .ok (.iaload, 1) := by decide +kernel
theorem dX8_round_50 : decode cX8_round 50 = .ok (.ireturn, 1) := by decide +kernel
set_option maxRecDepth 20000 in
theorem ggX8_round_X8_needSubject : GoodIn wsX8_round wsX8_needSubject := goodIn_ca (goodIn_r _ [8, 9, 10, 7, 11, 12, 13] (by decide +kernel) (by decide +kernel)) (goodIn_sub (fun _ h => List.mem_cons_of_mem _ (List.mem_append_left _ (List.mem_append_right _ h))) (by decide +kernel))
set_option maxRecDepth 20000 in
theorem gX8_round_X8_needSubject : GoodIn wsX8_round (va_wsS RX8 55 yX8_needSubject wsX8_needSubject) := goodIn_app (goodIn_of _ (by decide +kernel)) ggX8_round_X8_needSubject
set_option maxRecDepth 20000 in
theorem ggX8_round_X8_needToken : GoodIn wsX8_round wsX8_needToken := goodIn_ca (goodIn_r _ [17, 2, 18, 19, 9, 10, 7, 11, 12, 13, 133, 134, 135, 136, 137, 138, 139, 140, 145, 146, 147, 148, 149, 150, 151, 152, 153, 154, 155, 156, 157, 158, 159, 160, 161, 162, 163, 164] (by decide +kernel) (by decide +kernel)) (goodIn_sub (fun _ h => List.mem_cons_of_mem _ (List.mem_append_left _ (List.mem_append_right _ h))) (by decide +kernel))
set_option maxRecDepth 20000 in
theorem gX8_round_X8_needToken : GoodIn wsX8_round (wsV RX8 97 RX8 yX8_needToken wsX8_needToken) := goodIn_app (goodIn_of _ (by decide +kernel)) ggX8_round_X8_needToken
set_option maxRecDepth 20000 in
theorem ggX8_round_X4_find : GoodIn wsX8_round wsX4_find := goodIn_ca (goodIn_r _ [24, 25, 26, 27, 28, 29, 23, 30, 31, 32, 33, 34, 35, 36, 37, 38, 39, 40, 41, 42, 43, 44, 45, 46, 47, 48, 49, 50, 51, 52, 53, 54, 55, 56, 57, 58, 59, 60, 61, 62, 63, 64, 65, 66, 67, 68, 69, 70, 71, 72, 73, 74, 75, 76, 77, 78, 79, 80, 81, 82, 83, 84, 7, 85, 86, 87, 88, 89, 90, 91, 92, 93, 94, 95, 96, 97, 98, 99, 100, 101, 102, 103, 104, 105, 106, 107, 108, 109, 110, 111, 112, 113, 114, 115, 116, 117, 118, 119, 120, 121, 122, 123, 124, 125, 126, 145, 146, 147, 148, 149, 150, 151, 152, 153, 154, 155, 156, 157, 158, 159, 160, 161, 162, 163, 164, 141, 142, 143, 144, 165, 166, 167, 168, 169, 170, 171, 172, 173, 174, 175, 176, 177] (by decide +kernel) (by decide +kernel)) (goodIn_sub (fun _ h => List.mem_cons_of_mem _ (List.mem_append_left _ (List.mem_append_left _ (List.mem_append_right _ h)))) (by decide +kernel))
set_option maxRecDepth 20000 in
theorem gX8_round_X4_find : GoodIn wsX8_round (wsV RX8 338 RX4 yX4_find wsX4_find) := goodIn_app (goodIn_of _ (by decide +kernel)) ggX8_round_X4_find
set_option maxRecDepth 20000 in
theorem ggX8_round_X8_hasBit : GoodIn wsX8_round wsX8_hasBit := goodIn_r _ [85] (by decide +kernel) (by decide +kernel)
set_option maxRecDepth 20000 in
theorem gX8_round_X8_hasBit : GoodIn wsX8_round (va_wsS RX8 146 yX8_hasBit wsX8_hasBit) := goodIn_app (goodIn_of _ (by decide +kernel)) ggX8_round_X8_hasBit
set_option maxRecDepth 20000 in
theorem ggX8_round_X8_needElement : GoodIn wsX8_round wsX8_needElement := goodIn_ca (goodIn_r _ [130, 131, 132] (by decide +kernel) (by decide +kernel)) (goodIn_sub (fun _ h => List.mem_cons_of_mem _ (List.mem_append_right _ h)) (by decide +kernel))
set_option maxRecDepth 20000 in
theorem gX8_round_X8_needElement : GoodIn wsX8_round (va_wsS RX8 149 yX8_needElement wsX8_needElement) := goodIn_app (goodIn_of _ (by decide +kernel)) ggX8_round_X8_needElement
def rm_X8_round : Room := { frames := 10, cells := 3, slots := 18, locals := 241 }
set_option maxHeartbeats 4000000 in
set_option maxRecDepth 100000 in
theorem c_X8_round (l : Launch) (hfl : l.stackTraces = false) {G : zG} {ad : Nat → Nat} {σ σ' : zs} {a1 a2 : Int32} {ex : Nat} {r : Int32} (hf : f_X8_round σ a1 a2 = some (ex, r, σ')) : xXi l yX8_round wsX8_round rm_X8_round G ad σ [.ref (ad 0), .int a1, .int a2] ex r σ' := by
  intro sz nb a g hs
  refine vx_ofW (cc := cX8_round) (maxL := 3) (ret := (some .int)) (by decide) rfl ?_
  intro p e s m args below meth c s₁ B hml hno hv
  obtain ⟨rfl, hsz, hv⟩ := hv
  have hx := B.exec
  have hb := B.bytes
  have hr := B.returns
  have hts := atoms_spec (ws := wsX8_round) B.pre
  have hown : s.vm.findClass RX8 = some m.cls := findClass_of_methodNamed B.named
  have hlocks := B.notSynchronized
  subst hsz
  have B := xB_start hs hv
  have hinRX4 : ∀ w ∈ wsX40, w ∈ wsX8_round := by decide +kernel
  have hinRX8 : ∀ w ∈ wsX80, w ∈ wsX8_round := by decide +kernel
  have hl := lv_entry ([.ref (ad 0), .int a1, .int a2]) (n := 3) (Nat.le_of_ble_eq_true rfl)
  rw [lg_entry_eq]
  generalize (lg_sl ([.ref (ad 0), .int a1, .int a2]) ++ List.replicate (3 - (lg_sl ([.ref (ad 0), .int a1, .int a2])).length) Slot.unset).toArray = ls at hl ⊢
  have hl : lv_has ls 3 [(0, .ref (ad 0)), (1, .int a1), (2, .int a2)] := hl
  generalize hAe : xA ad a s.heap.size = A at B ⊢
  unfold f_X8_round at hf
  refine lv_iload_n hx hb dX8_round_0 rfl (lv_at hl 1 rfl) ?_
  obtain ⟨u1, r2, σ3, hu1, hf⟩ := zx_some hf
  refine x_xv B (fun nb a g hs Bz => vx_runS (As := [.int a1]) (rest := []) ⟨hx, hb, hml, hown, hts⟩ (c_X8_needSubject l hfl hu1 _ nb a g hs) (va_cwS 1 hts gX8_round_X8_needSubject rfl rfl rfl (by decide +kernel) ⟨Nat.le_of_ble_eq_true rfl, Nat.le_of_ble_eq_true rfl⟩) (z_preS Bz) rfl rfl hl.1 rfl (lv_room (Nat.le_of_ble_eq_true rfl)) dX8_round_1 ⟨Nat.le_of_ble_eq_true rfl, Nat.le_of_ble_eq_true rfl⟩) (fun H locs ce q9 h0 B k1 k2 k3 => ?_) (fun H locs h0 B => ?_)
  · exact x_xout hno hlocks (zx_no hf h0) h0 B k1 k2 k3 (Nat.le_of_ble_eq_true rfl) (Nat.le_of_ble_eq_true rfl)
  have hf := zx_ok hf h0
  refine lv_aload_n hx hb dX8_round_4 rfl (lv_at hl 0 rfl) ?_
  refine lv_iload_n hx hb dX8_round_5 rfl (lv_at hl 2 rfl) ?_
  obtain ⟨u4, r5, σ6, hu4, hf⟩ := zx_some hf
  refine x_xv B (fun nb a g hs Bz => vx_runV (As := [.int a2]) (rest := []) ⟨hx, hb, hml, hown, hts⟩ (c_X8_needToken l hfl hu4 _ nb a g hs) (cwV 1 hts gX8_round_X8_needToken rfl rfl rfl (by decide +kernel) ⟨Nat.le_of_ble_eq_true rfl, Nat.le_of_ble_eq_true rfl⟩) (x_preV Bz (by decide) (fun _ => rfl) rfl) rfl rfl hl.1 rfl (lv_room (Nat.le_of_ble_eq_true rfl)) dX8_round_6 ⟨Nat.le_of_ble_eq_true rfl, Nat.le_of_ble_eq_true rfl⟩) (fun H locs ce q9 h0 B k1 k2 k3 => ?_) (fun H locs h0 B => ?_)
  · exact x_xout hno hlocks (zx_no hf h0) h0 B k1 k2 k3 (Nat.le_of_ble_eq_true rfl) (Nat.le_of_ble_eq_true rfl)
  have hf := zx_ok hf h0
  refine lv_aload_n hx hb dX8_round_9 rfl (lv_at hl 0 rfl) ?_
  refine x_getr hx hb hts hinRX8 hown B 0 5 57 (by decide) (by decide) (fun _ => rfl) rfl rfl (by decide) (by decide +kernel) rfl dX8_round_10 ?_
  refine lv_aload_n hx hb dX8_round_13 rfl (lv_at hl 0 rfl) ?_
  refine x_getr hx hb hts hinRX8 hown B 0 0 1 (by decide) (by decide) (fun _ => rfl) rfl rfl (by decide) (by decide +kernel) rfl dX8_round_14 ?_
  obtain ⟨r8, σ9, hu7, hf⟩ := zb_some hf
  refine x_v B (fun nb a g hs Bz => va_runV (As := [.ref (ad 1)]) (rest := []) ⟨hx, hb, hml, hown, hts⟩ (c_X4_find_1 l hu7 _ nb a g hs) (cwV 1 hts gX8_round_X4_find rfl rfl rfl (by decide +kernel) ⟨Nat.le_of_ble_eq_true rfl, Nat.le_of_ble_eq_true rfl⟩) (x_preV Bz (by decide) (fun _ => rfl) rfl) rfl rfl hl.1 rfl (lv_room (Nat.le_of_ble_eq_true rfl)) dX8_round_17 ⟨Nat.le_of_ble_eq_true rfl, Nat.le_of_ble_eq_true rfl⟩) (fun H locs B => ?_)
  refine lv_aload_n hx hb dX8_round_20 rfl (lv_at hl 0 rfl) ?_
  refine x_getr hx hb hts hinRX8 hown B 0 5 57 (by decide) (by decide) (fun _ => rfl) rfl rfl (by decide) (by decide +kernel) rfl dX8_round_21 ?_
  refine x_getr hx hb hts hinRX4 hown B 57 0 58 (by decide) (by decide) (fun _ => rfl) rfl rfl (by decide) (by decide +kernel) rfl dX8_round_24 ?_
  refine lv_iload_n hx hb dX8_round_27 rfl (lv_at hl 1 rfl) ?_
  obtain ⟨hg, hf⟩ := zg_some hf
  refine x_iald hx hb B 58 (by decide) (fun _ => rfl) (zin_ok hg) dX8_round_28 ?_
  refine lv_iload_n hx hb dX8_round_29 rfl (lv_at hl 2 rfl) ?_
  obtain ⟨r11, σ12, hu10, hf⟩ := zb_some hf
  refine x_i B (fun nb a g hs Bz => va_runS (As := [.int (σ9 58 a1.toNatClampNeg), .int a2]) (rest := []) ⟨hx, hb, hml, hown, hts⟩ (c_X8_hasBit l hu10 _ nb a g hs) (va_cwS 2 hts gX8_round_X8_hasBit rfl rfl rfl (by decide +kernel) ⟨Nat.le_of_ble_eq_true rfl, Nat.le_of_ble_eq_true rfl⟩) (z_preS Bz) rfl rfl hl.1 rfl (lv_room (Nat.le_of_ble_eq_true rfl)) dX8_round_30 ⟨Nat.le_of_ble_eq_true rfl, Nat.le_of_ble_eq_true rfl⟩) (fun H locs B => ?_)
  obtain ⟨u13, r14, σ15, hu13, hf⟩ := zx_some hf
  refine x_xv B (fun nb a g hs Bz => vx_runS (As := [.int r11]) (rest := []) ⟨hx, hb, hml, hown, hts⟩ (c_X8_needElement l hfl hu13 _ nb a g hs) (va_cwS 1 hts gX8_round_X8_needElement rfl rfl rfl (by decide +kernel) ⟨Nat.le_of_ble_eq_true rfl, Nat.le_of_ble_eq_true rfl⟩) (z_preS Bz) rfl rfl hl.1 rfl (lv_room (Nat.le_of_ble_eq_true rfl)) dX8_round_33 ⟨Nat.le_of_ble_eq_true rfl, Nat.le_of_ble_eq_true rfl⟩) (fun H locs ce q9 h0 B k1 k2 k3 => ?_) (fun H locs h0 B => ?_)
  · exact x_xout hno hlocks (zx_no hf h0) h0 B k1 k2 k3 (Nat.le_of_ble_eq_true rfl) (Nat.le_of_ble_eq_true rfl)
  have hf := zx_ok hf h0
  refine lv_aload_n hx hb dX8_round_36 rfl (lv_at hl 0 rfl) ?_
  refine x_getr hx hb hts hinRX8 hown B 0 5 57 (by decide) (by decide) (fun _ => rfl) rfl rfl (by decide) (by decide +kernel) rfl dX8_round_37 ?_
  refine x_getr hx hb hts hinRX4 hown B 57 2 60 (by decide) (by decide) (fun _ => rfl) rfl rfl (by decide) (by decide +kernel) rfl dX8_round_40 ?_
  refine lv_iload_n hx hb dX8_round_43 rfl (lv_at hl 1 rfl) ?_
  refine lv_bipush (v := (28 : Int32)) hx hb dX8_round_44 (by decide) ?_
  refine lv_imul hx hb dX8_round_46 ?_
  refine lv_iload_n hx hb dX8_round_47 rfl (lv_at hl 2 rfl) ?_
  refine lv_iadd hx hb dX8_round_48 ?_
  obtain ⟨hg, hf⟩ := zg_some hf
  refine x_iald hx hb B 60 (by decide) (fun _ => rfl) (zin_ok hg) dX8_round_49 ?_
  refine W.widen (k := 3) (n := 18) (Nat.le_of_ble_eq_true rfl) (Nat.le_of_ble_eq_true rfl) ?_
  exact x_xiret hx hb hr rfl hlocks B hf dX8_round_50
theorem dX4_objectsOf_0 : decode cX4_objectsOf 0 = .ok (.iconst 0, 1) := by decide +kernel
theorem dX4_objectsOf_1 : decode cX4_objectsOf 1 = .ok (.istore_n 3, 1) := by decide +kernel
theorem dX4_objectsOf_2 : decode cX4_objectsOf 2 = .ok (.aload_n 0, 1) := by decide +kernel
theorem dX4_objectsOf_3 : decode cX4_objectsOf 3 = .ok (.aload_n 1, 1) := by decide +kernel
theorem dX4_objectsOf_4 : decode cX4_objectsOf 4 = .ok (.iload_n 2, 1) := by decide +kernel
theorem dX4_objectsOf_5 : decode cX4_objectsOf 5 = .ok (.bipush 15, 2) := by decide +kernel
theorem dX4_objectsOf_7 : decode cX4_objectsOf 7 = .ok (.invokevirtual 79, 3) := by decide +kernel
theorem dX4_objectsOf_10 : decode cX4_objectsOf 10 = .ok (.istore 4, 2) := by decide +kernel
theorem dX4_objectsOf_12 : decode cX4_objectsOf 12 = .ok (.iconst 0, 1) := by decide +kernel
theorem dX4_objectsOf_13 : decode cX4_objectsOf 13 = .ok (.istore 5, 2) := by decide +kernel
theorem dX4_objectsOf_15 : decode cX4_objectsOf 15 = .ok (.iload 5, 2) := by decide +kernel
theorem dX4_objectsOf_17 : decode cX4_objectsOf 17 = .ok (.aload_n 1, 1) := by decide +kernel
theorem dX4_objectsOf_18 : decode cX4_objectsOf 18 = .ok (.getfield 37, 3) := by decide +kernel
theorem dX4_objectsOf_21 : decode cX4_objectsOf 21 = .ok (.if_icmp .ge 31, 3) := by decide +kernel
theorem dX4_objectsOf_24 : decode cX4_objectsOf 24 = .ok (.iload 4, 2) := by decide +kernel
theorem dX4_objectsOf_26 : decode cX4_objectsOf 26 = .ok (.iload 5, 2) := by decide +kernel
theorem dX4_objectsOf_28 : decode cX4_objectsOf 28 = .ok (.invokestatic 76, 3) := by decide +kernel
theorem dX4_objectsOf_31 : decode cX4_objectsOf 31 = .ok (.ifCond .eq 15, 3) := by decide +kernel
theorem dX4_objectsOf_34 : decode cX4_objectsOf 34 = .ok (.iload_n 3, 1) := by decide +kernel
theorem dX4_objectsOf_35 : decode cX4_objectsOf 35 = .ok (.iconst 1, 1) := by decide +kernel
theorem dX4_objectsOf_36 : decode cX4_objectsOf 36 = .ok (.aload_n 1, 1) := by decide +kernel
theorem dX4_objectsOf_37 : decode cX4_objectsOf 37 = .ok (.getfield 83, 3) := by decide +kernel
theorem dX4_objectsOf_40 : decode cX4_objectsOf 40 = .ok (.iload 5, 2) := by decide +kernel
theorem dX4_objectsOf_42 : decode cX4_objectsOf 42 = .ok (.iaload, 1) := by decide +kernel
theorem dX4_objectsOf_43 : decode cX4_objectsOf 43 = .ok (.ishl, 1) := by decide +kernel
theorem dX4_objectsOf_44 : decode cX4_objectsOf 44 = .ok (.ior, 1) := by decide +kernel
theorem dX4_objectsOf_45 : decode cX4_objectsOf 45 = .ok (.istore_n 3, 1) := by decide +kernel
theorem dX4_objectsOf_46 : decode cX4_objectsOf 46 = .ok (.iinc 5 1, 3) := by decide +kernel
theorem dX4_objectsOf_49 : decode cX4_objectsOf 49 = .ok (.goto (-34), 3) := by decide +kernel
theorem dX4_objectsOf_52 : decode cX4_objectsOf 52 = .ok (.iload_n 3, 1) := by decide +kernel
theorem dX4_objectsOf_53 : decode cX4_objectsOf 53 = .ok (.ireturn, 1) := by decide +kernel
set_option maxRecDepth 20000 in
theorem ggX4_objectsOf_X4_comeWithRight : GoodIn wsX4_objectsOf wsX4_comeWithRight := goodIn_ca (goodIn_r _ [7, 1, 8, 9, 10, 11, 12, 13, 14, 15, 16, 17, 18, 19, 20, 21, 22, 23, 24, 25, 26, 27, 28] (by decide +kernel) (by decide +kernel)) (goodIn_sub (fun _ h => List.mem_cons_of_mem _ (List.mem_append_right _ h)) (by decide +kernel))
set_option maxRecDepth 20000 in
theorem gX4_objectsOf_X4_comeWithRight : GoodIn wsX4_objectsOf (wsV RX4 79 RX4 yX4_comeWithRight wsX4_comeWithRight) := goodIn_app (goodIn_of _ (by decide +kernel)) ggX4_objectsOf_X4_comeWithRight
set_option maxRecDepth 20000 in
theorem ggX4_objectsOf_X8_hasBit : GoodIn wsX4_objectsOf wsX8_hasBit := goodIn_r _ [12] (by decide +kernel) (by decide +kernel)
set_option maxRecDepth 20000 in
theorem gX4_objectsOf_X8_hasBit_n76 : GoodIn wsX4_objectsOf (wsX8_hasBit) := ggX4_objectsOf_X8_hasBit
def rm_X4_objectsOf_2 : Room := { frames := 3, cells := 0, slots := 0, locals := 62 }
set_option maxHeartbeats 4000000 in
set_option maxRecDepth 100000 in
theorem c_X4_objectsOf_2 (l : Launch) {G : zG} {ad : Nat → Nat} {σ σ' : zs} {a2 : Int32} {r : Int32} (hf : f_X4_objectsOf_2 σ a2 = some (r, σ')) : xMi l yX4_objectsOf wsX4_objectsOf rm_X4_objectsOf_2 G ad σ [.ref (ad 57), .ref (ad 2), .int a2] r σ' := by
  intro sz nb a g hs
  refine Met.ofW (cc := cX4_objectsOf) (maxL := 6) (ret := (some .int)) (by decide) rfl ?_
  intro p e s m args below meth c s₁ B hml hv
  obtain ⟨rfl, hsz, hv⟩ := hv
  have hx := B.exec
  have hb := B.bytes
  have hr := B.returns
  have hts := atoms_spec (ws := wsX4_objectsOf) B.pre
  have hown : s.vm.findClass RX4 = some m.cls := findClass_of_methodNamed B.named
  have hlocks := B.notSynchronized
  subst hsz
  have B := xB_start hs hv
  have hinRX7 : ∀ w ∈ wsX70, w ∈ wsX4_objectsOf := by decide +kernel
  have hl := lv_entry ([.ref (ad 57), .ref (ad 2), .int a2]) (n := 6) (Nat.le_of_ble_eq_true rfl)
  rw [lg_entry_eq]
  generalize (lg_sl ([.ref (ad 57), .ref (ad 2), .int a2]) ++ List.replicate (6 - (lg_sl ([.ref (ad 57), .ref (ad 2), .int a2])).length) Slot.unset).toArray = ls at hl ⊢
  have hl : lv_has ls 6 [(0, .ref (ad 57)), (1, .ref (ad 2)), (2, .int a2)] := hl
  generalize hAe : xA ad a s.heap.size = A at B ⊢
  have L15 : ∀ (n : Nat) (σ : zs) (v3 : Int32) (v4 : Int32) (v5 : Int32) (H : Heap) (locs : List Loc) (ls : Array Slot), zlp3 (f_X4_objectsOf_2_15) n σ v3 v4 v5 = some (r, σ') → xB A s G ad σ H locs → lv_has ls 6 [(1, .ref (ad 2)), (3, .int v3), (4, .int v4), (5, .int v5)] → W p l e (headSpec wsX4_objectsOf rm_X4_objectsOf_2).room s m ([.ref (ad 57), .ref (ad 2), .int a2] : List Value).toArray below meth c H locs 0 0 (MQ below (va_Qi (fun r' (u : xV) => r' = r ∧ xQ σ' u) (xPost G ad σ' A) A) ([.ref (ad 57), .ref (ad 2), .int a2] : List Value).toArray s 0 0 A) (F0 m 15 ls []) := by
    intro n
    induction n with
    | zero =>
      intro σ v3 v4 v5 H locs ls hf
      cases hf
    | succ n ih =>
      intro σ v3 v4 v5 H locs ls hf B hl
      have hf : f_X4_objectsOf_2_15 (zlp3 (f_X4_objectsOf_2_15) n) σ v3 v4 v5 = some (r, σ') := hf
      unfold f_X4_objectsOf_2_15 at hf
      refine lv_iload hx hb dX4_objectsOf_15 (lv_at hl 3 rfl) ?_
      refine lv_aload_n hx hb dX4_objectsOf_17 rfl (lv_at hl 0 rfl) ?_
      refine x_geti hx hb hts hinRX7 hown B 2 0 (by decide) (fun _ => rfl) rfl rfl (by decide) (by decide +kernel) rfl dX4_objectsOf_18 ?_
      refine lv_icmp_ge (tgt := 52) hx hb dX4_objectsOf_21 (by decide) (fun hc => ?_) (fun hc => ?_)
      · have hf := zif_t hc hf
        refine lv_iload_n hx hb dX4_objectsOf_52 rfl (lv_at hl 1 rfl) ?_
        refine W.widen (k := 0) (n := 0) (Nat.le_of_ble_eq_true rfl) (Nat.le_of_ble_eq_true rfl) ?_
        exact x_iret hx hb hr rfl hlocks B hf dX4_objectsOf_53
      · have hf := zif_f hc hf
        refine lv_iload hx hb dX4_objectsOf_24 (lv_at hl 2 rfl) ?_
        refine lv_iload hx hb dX4_objectsOf_26 (lv_at hl 3 rfl) ?_
        obtain ⟨r5, σ6, hu4, hf⟩ := zb_some hf
        refine x_i B (fun nb a g hs Bz => va_runSN (As := [.int v4, .int v5]) (rest := []) ⟨hx, hb, hml, hown, hts⟩ (c_X8_hasBit l hu4 _ nb a g hs) ⟨va_cnB 2 hts gX4_objectsOf_X8_hasBit_n76 rfl rfl rfl (x_nest B (q := (RX4, 76, yX8_hasBit)) (by decide +kernel)) (hts (.initialized RX8) (by decide +kernel)) (by decide +kernel) ⟨Nat.le_of_ble_eq_true rfl, Nat.le_of_ble_eq_true rfl⟩, hts (.static yX8_hasBit) (by decide +kernel), trivial⟩ (z_preS Bz) rfl rfl hl.1 rfl (lv_room (Nat.le_of_ble_eq_true rfl)) dX4_objectsOf_28 ⟨Nat.le_of_ble_eq_true rfl, Nat.le_of_ble_eq_true rfl⟩) (fun H locs B => ?_)
        refine lv_if_eq (tgt := 46) hx hb dX4_objectsOf_31 (by decide) (fun hc => ?_) (fun hc => ?_)
        · have hf := zif_t hc hf
          refine lv_iinc (v := (v5 + (1 : Int32))) (lv' := [(5, .int (v5 + (1 : Int32))), (1, .ref (ad 2)), (3, .int v3), (4, .int v4)]) hx hb dX4_objectsOf_46 hl (k := 3) rfl (zc1 (by decide)) (by decide) rfl (fun ls hl => ?_)
          refine lv_goto (tgt := 15) hx hb dX4_objectsOf_49 (by decide) ?_
          exact ih _ _ _ _ _ _ _ hf B (lv_sub hl [1, 2, 3, 0] rfl)
        · have hf := zif_f hc hf
          refine lv_iload_n hx hb dX4_objectsOf_34 rfl (lv_at hl 1 rfl) ?_
          refine lv_iconst (v := (1 : Int32)) hx hb dX4_objectsOf_35 (by decide) ?_
          refine lv_aload_n hx hb dX4_objectsOf_36 rfl (lv_at hl 0 rfl) ?_
          refine x_getr hx hb hts hinRX7 hown B 2 1 3 (by decide) (by decide) (fun _ => rfl) rfl rfl (by decide) (by decide +kernel) rfl dX4_objectsOf_37 ?_
          refine lv_iload hx hb dX4_objectsOf_40 (lv_at hl 3 rfl) ?_
          obtain ⟨hg, hf⟩ := zg_some hf
          refine x_iald hx hb B 3 (by decide) (fun _ => rfl) (zin_ok hg) dX4_objectsOf_42 ?_
          refine lv_ishl hx hb dX4_objectsOf_43 ?_
          refine lv_ior hx hb dX4_objectsOf_44 ?_
          refine lv_istore_n (lv' := [(3, .int (v3 ||| ((1 : Int32) <<< ((σ6 3 v5.toNatClampNeg) &&& 31)))), (1, .ref (ad 2)), (4, .int v4), (5, .int v5)]) hx hb dX4_objectsOf_45 rfl hl (by decide) rfl (fun ls hl => ?_)
          refine lv_iinc (v := (v5 + (1 : Int32))) (lv' := [(5, .int (v5 + (1 : Int32))), (3, .int (v3 ||| ((1 : Int32) <<< ((σ6 3 v5.toNatClampNeg) &&& 31)))), (1, .ref (ad 2)), (4, .int v4)]) hx hb dX4_objectsOf_46 hl (k := 3) rfl (zc1 (by decide)) (by decide) rfl (fun ls hl => ?_)
          refine lv_goto (tgt := 15) hx hb dX4_objectsOf_49 (by decide) ?_
          exact ih _ _ _ _ _ _ _ hf B (lv_sub hl [2, 1, 3, 0] rfl)
  unfold f_X4_objectsOf_2 at hf
  refine lv_iconst (v := (0 : Int32)) hx hb dX4_objectsOf_0 (by decide) ?_
  refine lv_istore_n (lv' := [(3, .int (0 : Int32)), (0, .ref (ad 57)), (1, .ref (ad 2)), (2, .int a2)]) hx hb dX4_objectsOf_1 rfl hl (by decide) rfl (fun ls hl => ?_)
  refine lv_aload_n hx hb dX4_objectsOf_2 rfl (lv_at hl 1 rfl) ?_
  refine lv_aload_n hx hb dX4_objectsOf_3 rfl (lv_at hl 2 rfl) ?_
  refine lv_iload_n hx hb dX4_objectsOf_4 rfl (lv_at hl 3 rfl) ?_
  refine lv_bipush (v := (15 : Int32)) hx hb dX4_objectsOf_5 (by decide) ?_
  obtain ⟨r2, σ3, hu1, hf⟩ := zb_some hf
  refine x_i B (fun nb a g hs Bz => va_runV (As := [.ref (ad 2), .int a2, .int (15 : Int32)]) (rest := []) ⟨hx, hb, hml, hown, hts⟩ (c_X4_comeWithRight_2 l hu1 _ nb a g hs) (cwV 3 hts gX4_objectsOf_X4_comeWithRight rfl rfl rfl (by decide +kernel) ⟨Nat.le_of_ble_eq_true rfl, Nat.le_of_ble_eq_true rfl⟩) (x_preV Bz (by decide) (fun _ => rfl) rfl) rfl rfl hl.1 rfl (lv_room (Nat.le_of_ble_eq_true rfl)) dX4_objectsOf_7 ⟨Nat.le_of_ble_eq_true rfl, Nat.le_of_ble_eq_true rfl⟩) (fun H locs B => ?_)
  refine lv_istore (lv' := [(4, .int r2), (3, .int (0 : Int32)), (0, .ref (ad 57)), (1, .ref (ad 2)), (2, .int a2)]) hx hb dX4_objectsOf_10 hl (by decide) rfl (fun ls hl => ?_)
  refine lv_iconst (v := (0 : Int32)) hx hb dX4_objectsOf_12 (by decide) ?_
  refine lv_istore (lv' := [(5, .int (0 : Int32)), (4, .int r2), (3, .int (0 : Int32)), (0, .ref (ad 57)), (1, .ref (ad 2)), (2, .int a2)]) hx hb dX4_objectsOf_13 hl (by decide) rfl (fun ls hl => ?_)
  exact L15  _ _ _ _ _ _ _ _ hf B (lv_sub hl [4, 2, 1, 0] rfl)
theorem dX8_reached_0 : decode cX8_reached 0 = .ok (.iload_n 1, 1) := by decide +kernel
theorem dX8_reached_1 : decode cX8_reached 1 = .ok (.invokestatic 55, 3) := by decide +kernel
theorem dX8_reached_4 : decode cX8_reached 4 = .ok (.aload_n 0, 1) := by decide +kernel
theorem dX8_reached_5 : decode cX8_reached 5 = .ok (.getfield 40, 3) := by decide +kernel
theorem dX8_reached_8 : decode cX8_reached 8 = .ok (.aload_n 0, 1) := by decide +kernel
theorem dX8_reached_9 : decode cX8_reached 9 = .ok (.getfield 12, 3) := by decide +kernel
theorem dX8_reached_12 : decode cX8_reached 12 = .ok (.invokevirtual 338, 3) := by decide +kernel
theorem dX8_reached_15 : decode cX8_reached 15 = .ok (.aload_n 0, 1) := by decide +kernel
theorem dX8_reached_16 : decode cX8_reached 16 = .ok (.getfield 40, 3) := by decide +kernel
theorem dX8_reached_19 : decode cX8_reached 19 = .ok (.aload_n 0, 1) := by decide +kernel
theorem dX8_reached_20 : decode cX8_reached 20 = .ok (.getfield 12, 3) := by decide +kernel
theorem dX8_reached_23 : decode cX8_reached 23 = .ok (.getfield 66, 3) := by decide +kernel
theorem dX8_reached_26 : decode cX8_reached 26 = .ok (.iload_n 1, 1) := by decide +kernel
theorem dX8_reached_27 : decode cX8_reached 27 = .ok (.invokevirtual 348, 3) := by decide +kernel
theorem dX8_reached_30 : decode cX8_reached 30 = .ok (.ireturn, 1) := by decide +kernel
set_option maxRecDepth 20000 in
theorem ggX8_reached_X8_needSubject : GoodIn wsX8_reached wsX8_needSubject := goodIn_ca (goodIn_r _ [7, 8, 9, 6, 10, 11, 12] (by decide +kernel) (by decide +kernel)) (goodIn_sub (fun _ h => List.mem_cons_of_mem _ (List.mem_append_left _ (List.mem_append_right _ h))) (by decide +kernel))
set_option maxRecDepth 20000 in
theorem gX8_reached_X8_needSubject : GoodIn wsX8_reached (va_wsS RX8 55 yX8_needSubject wsX8_needSubject) := goodIn_app (goodIn_of _ (by decide +kernel)) ggX8_reached_X8_needSubject
set_option maxRecDepth 20000 in
theorem ggX8_reached_X4_find : GoodIn wsX8_reached wsX4_find := goodIn_ca (goodIn_r _ [17, 18, 19, 20, 21, 22, 16, 23, 24, 25, 26, 27, 28, 29, 30, 31, 32, 33, 34, 35, 36, 37, 38, 39, 40, 41, 42, 43, 44, 45, 46, 47, 48, 49, 50, 51, 52, 53, 54, 55, 56, 57, 58, 59, 60, 61, 62, 63, 64, 65, 66, 67, 68, 69, 70, 71, 72, 73, 74, 75, 76, 77, 6, 78, 79, 80, 81, 82, 83, 84, 85, 86, 87, 88, 89, 90, 91, 92, 93, 94, 95, 96, 97, 98, 99, 100, 101, 102, 103, 104, 105, 106, 107, 108, 109, 110, 111, 112, 113, 114, 115, 116, 117, 118, 119, 132, 133, 134, 135, 136, 137, 138, 139, 140, 141, 142, 143, 144, 145, 146, 147, 148, 149, 150, 151, 152, 153, 154, 155, 156, 157, 158, 159, 160, 161, 162, 163, 164, 165, 166, 167, 168] (by decide +kernel) (by decide +kernel)) (goodIn_sub (fun _ h => List.mem_cons_of_mem _ (List.mem_append_right _ h)) (by decide +kernel))
set_option maxRecDepth 20000 in
theorem gX8_reached_X4_find : GoodIn wsX8_reached (wsV RX8 338 RX4 yX4_find wsX4_find) := goodIn_app (goodIn_of _ (by decide +kernel)) ggX8_reached_X4_find
set_option maxRecDepth 20000 in
theorem ggX8_reached_X4_objectsOf : GoodIn wsX8_reached wsX4_objectsOf := goodIn_ca (goodIn_r _ [123, 19, 115, 116, 117, 118, 16, 119, 87, 24, 77, 6, 78, 140, 141, 142, 143, 144, 145, 146, 147, 148, 149, 150, 151, 152, 153, 154, 155] (by decide +kernel) (by decide +kernel)) (goodIn_sub (fun _ h => List.mem_cons_of_mem _ (List.mem_append_right _ h)) (by decide +kernel))
set_option maxRecDepth 20000 in
theorem gX8_reached_X4_objectsOf : GoodIn wsX8_reached (wsV RX8 348 RX4 yX4_objectsOf wsX4_objectsOf) := goodIn_app (goodIn_of _ (by decide +kernel)) ggX8_reached_X4_objectsOf
def rm_X8_reached : Room := { frames := 10, cells := 1, slots := 6, locals := 240 }
set_option maxHeartbeats 4000000 in
set_option maxRecDepth 100000 in
theorem c_X8_reached (l : Launch) (hfl : l.stackTraces = false) {G : zG} {ad : Nat → Nat} {σ σ' : zs} {a1 : Int32} {ex : Nat} {r : Int32} (hf : f_X8_reached σ a1 = some (ex, r, σ')) : xXi l yX8_reached wsX8_reached rm_X8_reached G ad σ [.ref (ad 0), .int a1] ex r σ' := by
  intro sz nb a g hs
  refine vx_ofW (cc := cX8_reached) (maxL := 2) (ret := (some .int)) (by decide) rfl ?_
  intro p e s m args below meth c s₁ B hml hno hv
  obtain ⟨rfl, hsz, hv⟩ := hv
  have hx := B.exec
  have hb := B.bytes
  have hr := B.returns
  have hts := atoms_spec (ws := wsX8_reached) B.pre
  have hown : s.vm.findClass RX8 = some m.cls := findClass_of_methodNamed B.named
  have hlocks := B.notSynchronized
  subst hsz
  have B := xB_start hs hv
  have hinRX6 : ∀ w ∈ wsX60, w ∈ wsX8_reached := by decide +kernel
  have hinRX8 : ∀ w ∈ wsX80, w ∈ wsX8_reached := by decide +kernel
  have hl := lv_entry ([.ref (ad 0), .int a1]) (n := 2) (Nat.le_of_ble_eq_true rfl)
  rw [lg_entry_eq]
  generalize (lg_sl ([.ref (ad 0), .int a1]) ++ List.replicate (2 - (lg_sl ([.ref (ad 0), .int a1])).length) Slot.unset).toArray = ls at hl ⊢
  have hl : lv_has ls 2 [(0, .ref (ad 0)), (1, .int a1)] := hl
  generalize hAe : xA ad a s.heap.size = A at B ⊢
  unfold f_X8_reached at hf
  refine lv_iload_n hx hb dX8_reached_0 rfl (lv_at hl 1 rfl) ?_
  obtain ⟨u1, r2, σ3, hu1, hf⟩ := zx_some hf
  refine x_xv B (fun nb a g hs Bz => vx_runS (As := [.int a1]) (rest := []) ⟨hx, hb, hml, hown, hts⟩ (c_X8_needSubject l hfl hu1 _ nb a g hs) (va_cwS 1 hts gX8_reached_X8_needSubject rfl rfl rfl (by decide +kernel) ⟨Nat.le_of_ble_eq_true rfl, Nat.le_of_ble_eq_true rfl⟩) (z_preS Bz) rfl rfl hl.1 rfl (lv_room (Nat.le_of_ble_eq_true rfl)) dX8_reached_1 ⟨Nat.le_of_ble_eq_true rfl, Nat.le_of_ble_eq_true rfl⟩) (fun H locs ce q9 h0 B k1 k2 k3 => ?_) (fun H locs h0 B => ?_)
  · exact x_xout hno hlocks (zx_no hf h0) h0 B k1 k2 k3 (Nat.le_of_ble_eq_true rfl) (Nat.le_of_ble_eq_true rfl)
  have hf := zx_ok hf h0
  refine lv_aload_n hx hb dX8_reached_4 rfl (lv_at hl 0 rfl) ?_
  refine x_getr hx hb hts hinRX8 hown B 0 5 57 (by decide) (by decide) (fun _ => rfl) rfl rfl (by decide) (by decide +kernel) rfl dX8_reached_5 ?_
  refine lv_aload_n hx hb dX8_reached_8 rfl (lv_at hl 0 rfl) ?_
  refine x_getr hx hb hts hinRX8 hown B 0 0 1 (by decide) (by decide) (fun _ => rfl) rfl rfl (by decide) (by decide +kernel) rfl dX8_reached_9 ?_
  obtain ⟨r5, σ6, hu4, hf⟩ := zb_some hf
  refine x_v B (fun nb a g hs Bz => va_runV (As := [.ref (ad 1)]) (rest := []) ⟨hx, hb, hml, hown, hts⟩ (c_X4_find_1 l hu4 _ nb a g hs) (cwV 1 hts gX8_reached_X4_find rfl rfl rfl (by decide +kernel) ⟨Nat.le_of_ble_eq_true rfl, Nat.le_of_ble_eq_true rfl⟩) (x_preV Bz (by decide) (fun _ => rfl) rfl) rfl rfl hl.1 rfl (lv_room (Nat.le_of_ble_eq_true rfl)) dX8_reached_12 ⟨Nat.le_of_ble_eq_true rfl, Nat.le_of_ble_eq_true rfl⟩) (fun H locs B => ?_)
  refine lv_aload_n hx hb dX8_reached_15 rfl (lv_at hl 0 rfl) ?_
  refine x_getr hx hb hts hinRX8 hown B 0 5 57 (by decide) (by decide) (fun _ => rfl) rfl rfl (by decide) (by decide +kernel) rfl dX8_reached_16 ?_
  refine lv_aload_n hx hb dX8_reached_19 rfl (lv_at hl 0 rfl) ?_
  refine x_getr hx hb hts hinRX8 hown B 0 0 1 (by decide) (by decide) (fun _ => rfl) rfl rfl (by decide) (by decide +kernel) rfl dX8_reached_20 ?_
  refine x_getr hx hb hts hinRX6 hown B 1 0 2 (by decide) (by decide) (fun _ => rfl) rfl rfl (by decide) (by decide +kernel) rfl dX8_reached_23 ?_
  refine lv_iload_n hx hb dX8_reached_26 rfl (lv_at hl 1 rfl) ?_
  obtain ⟨r8, σ9, hu7, hf⟩ := zb_some hf
  refine x_i B (fun nb a g hs Bz => va_runV (As := [.ref (ad 2), .int a1]) (rest := []) ⟨hx, hb, hml, hown, hts⟩ (c_X4_objectsOf_2 l hu7 _ nb a g hs) (cwV 2 hts gX8_reached_X4_objectsOf rfl rfl rfl (by decide +kernel) ⟨Nat.le_of_ble_eq_true rfl, Nat.le_of_ble_eq_true rfl⟩) (x_preV Bz (by decide) (fun _ => rfl) rfl) rfl rfl hl.1 rfl (lv_room (Nat.le_of_ble_eq_true rfl)) dX8_reached_27 ⟨Nat.le_of_ble_eq_true rfl, Nat.le_of_ble_eq_true rfl⟩) (fun H locs B => ?_)
  refine W.widen (k := 1) (n := 6) (Nat.le_of_ble_eq_true rfl) (Nat.le_of_ble_eq_true rfl) ?_
  exact x_xiret hx hb hr rfl hlocks B hf dX8_reached_30
theorem dX8_isConfined_0 : decode cX8_isConfined 0 = .ok (.iload_n 1, 1) := by decide +kernel
theorem dX8_isConfined_1 : decode cX8_isConfined 1 = .ok (.invokestatic 55, 3) := by decide +kernel
theorem dX8_isConfined_4 : decode cX8_isConfined 4 = .ok (.iload_n 2, 1) := by decide +kernel
theorem dX8_isConfined_5 : decode cX8_isConfined 5 = .ok (.sipush (-4096), 3) := by decide +kernel
theorem dX8_isConfined_8 : decode cX8_isConfined 8 = .ok (.iand, 1) := by decide +kernel
theorem dX8_isConfined_9 : decode cX8_isConfined 9 = .ok (.ifCond .ne 7, 3) := by decide +kernel
theorem dX8_isConfined_12 : decode cX8_isConfined 12 = .ok (.iconst 1, 1) := by decide +kernel
theorem dX8_isConfined_13 : decode cX8_isConfined 13 = .ok (.goto 4, 3) := by decide +kernel
theorem dX8_isConfined_16 : decode cX8_isConfined 16 = .ok (.iconst 0, 1) := by decide +kernel
theorem dX8_isConfined_17 : decode cX8_isConfined 17 = .ok (.invokestatic 62, 3) := by decide +kernel
theorem dX8_isConfined_20 : decode cX8_isConfined 20 = .ok (.aload_n 0, 1) := by decide +kernel
theorem dX8_isConfined_21 : decode cX8_isConfined 21 = .ok (.getfield 40, 3) := by decide +kernel
theorem dX8_isConfined_24 : decode cX8_isConfined 24 = .ok (.aload_n 0, 1) := by decide +kernel
theorem dX8_isConfined_25 : decode cX8_isConfined 25 = .ok (.getfield 12, 3) := by decide +kernel
theorem dX8_isConfined_28 : decode cX8_isConfined 28 = .ok (.invokevirtual 338, 3) := by decide +kernel
theorem dX8_isConfined_31 : decode cX8_isConfined 31 = .ok (.aload_n 0, 1) := by decide +kernel
theorem dX8_isConfined_32 : decode cX8_isConfined 32 = .ok (.getfield 40, 3) := by decide +kernel
theorem dX8_isConfined_35 : decode cX8_isConfined 35 = .ok (.aload_n 0, 1) := by decide +kernel
theorem dX8_isConfined_36 : decode cX8_isConfined 36 = .ok (.getfield 12, 3) := by decide +kernel
theorem dX8_isConfined_39 : decode cX8_isConfined 39 = .ok (.getfield 66, 3) := by decide +kernel
theorem dX8_isConfined_42 : decode cX8_isConfined 42 = .ok (.iload_n 1, 1) := by decide +kernel
theorem dX8_isConfined_43 : decode cX8_isConfined 43 = .ok (.invokevirtual 348, 3) := by decide +kernel
theorem dX8_isConfined_46 : decode cX8_isConfined 46 = .ok (.iload_n 2, 1) := by decide +kernel
theorem dX8_isConfined_47 : decode cX8_isConfined 47 = .ok (.iconst (-1), 1) := by decide +kernel
theorem dX8_isConfined_48 : decode cX8_isConfined 48 = .ok (.ixor, 1) := by decide +kernel
theorem dX8_isConfined_49 : decode cX8_isConfined 49 = .ok (.iand, 1) := by decide +kernel
theorem dX8_isConfined_50 : decode cX8_isConfined 50 = .ok (.ifCond .ne 7, 3) := by decide +kernel
theorem dX8_isConfined_53 : decode cX8_isConfined 53 = .ok (.iconst 1, 1) := by decide +kernel
theorem dX8_isConfined_54 : decode cX8_isConfined 54 = .ok (.goto 4, 3) := by decide +kernel
theorem dX8_isConfined_57 : decode cX8_isConfined 57 = .ok (.iconst 0, 1) := by decide +kernel
theorem dX8_isConfined_58 : decode cX8_isConfined 58 = .ok (.ireturn, 1) := by decide +kernel
set_option maxRecDepth 20000 in
theorem ggX8_isConfined_X8_needSubject : GoodIn wsX8_isConfined wsX8_needSubject := goodIn_ca (goodIn_r _ [7, 8, 9, 6, 10, 11, 12] (by decide +kernel) (by decide +kernel)) (goodIn_sub (fun _ h => List.mem_cons_of_mem _ (List.mem_append_left _ (List.mem_append_left _ (List.mem_append_right _ h)))) (by decide +kernel))
set_option maxRecDepth 20000 in
theorem gX8_isConfined_X8_needSubject : GoodIn wsX8_isConfined (va_wsS RX8 55 yX8_needSubject wsX8_needSubject) := goodIn_app (goodIn_of _ (by decide +kernel)) ggX8_isConfined_X8_needSubject
set_option maxRecDepth 20000 in
theorem ggX8_isConfined_X8_needArgument : GoodIn wsX8_isConfined wsX8_needArgument := goodIn_ca (goodIn_r _ [15, 16, 17] (by decide +kernel) (by decide +kernel)) (goodIn_sub (fun _ h => List.mem_cons_of_mem _ (List.mem_append_left _ (List.mem_append_right _ h))) (by decide +kernel))
set_option maxRecDepth 20000 in
theorem gX8_isConfined_X8_needArgument : GoodIn wsX8_isConfined (va_wsS RX8 62 yX8_needArgument wsX8_needArgument) := goodIn_app (goodIn_of _ (by decide +kernel)) ggX8_isConfined_X8_needArgument
set_option maxRecDepth 20000 in
theorem ggX8_isConfined_X4_find : GoodIn wsX8_isConfined wsX4_find := goodIn_ca (goodIn_r _ [22, 23, 24, 25, 26, 27, 21, 28, 29, 30, 31, 32, 33, 34, 35, 36, 37, 38, 39, 40, 41, 42, 43, 44, 45, 46, 47, 48, 49, 50, 51, 52, 53, 54, 55, 56, 57, 58, 59, 60, 61, 62, 63, 64, 65, 66, 67, 68, 69, 70, 71, 72, 73, 74, 75, 76, 77, 78, 79, 80, 81, 82, 6, 83, 84, 85, 86, 87, 88, 89, 90, 91, 92, 93, 94, 95, 96, 97, 98, 99, 100, 101, 102, 103, 104, 105, 106, 107, 108, 109, 110, 111, 112, 113, 114, 115, 116, 117, 118, 119, 120, 121, 122, 123, 124, 137, 138, 139, 140, 141, 142, 143, 144, 145, 146, 147, 148, 149, 150, 151, 152, 153, 154, 155, 156, 157, 158, 159, 160, 161, 162, 163, 164, 165, 166, 167, 168, 169, 170, 171, 172, 173] (by decide +kernel) (by decide +kernel)) (goodIn_sub (fun _ h => List.mem_cons_of_mem _ (List.mem_append_right _ h)) (by decide +kernel))
set_option maxRecDepth 20000 in
theorem gX8_isConfined_X4_find : GoodIn wsX8_isConfined (wsV RX8 338 RX4 yX4_find wsX4_find) := goodIn_app (goodIn_of _ (by decide +kernel)) ggX8_isConfined_X4_find
set_option maxRecDepth 20000 in
theorem ggX8_isConfined_X4_objectsOf : GoodIn wsX8_isConfined wsX4_objectsOf := goodIn_ca (goodIn_r _ [128, 24, 120, 121, 122, 123, 21, 124, 92, 29, 82, 6, 83, 145, 146, 147, 148, 149, 150, 151, 152, 153, 154, 155, 156, 157, 158, 159, 160] (by decide +kernel) (by decide +kernel)) (goodIn_sub (fun _ h => List.mem_cons_of_mem _ (List.mem_append_right _ h)) (by decide +kernel))
set_option maxRecDepth 20000 in
theorem gX8_isConfined_X4_objectsOf : GoodIn wsX8_isConfined (wsV RX8 348 RX4 yX4_objectsOf wsX4_objectsOf) := goodIn_app (goodIn_of _ (by decide +kernel)) ggX8_isConfined_X4_objectsOf
def rm_X8_isConfined : Room := { frames := 10, cells := 2, slots := 12, locals := 240 }
set_option maxHeartbeats 4000000 in
set_option maxRecDepth 100000 in
theorem c_X8_isConfined (l : Launch) (hfl : l.stackTraces = false) {G : zG} {ad : Nat → Nat} {σ σ' : zs} {a1 a2 : Int32} {ex : Nat} {r : Int32} (hf : f_X8_isConfined σ a1 a2 = some (ex, r, σ')) : xXi l yX8_isConfined wsX8_isConfined rm_X8_isConfined G ad σ [.ref (ad 0), .int a1, .int a2] ex r σ' := by
  intro sz nb a g hs
  refine vx_ofW (cc := cX8_isConfined) (maxL := 3) (ret := (some .boolean)) (by decide) rfl ?_
  intro p e s m args below meth c s₁ B hml hno hv
  obtain ⟨rfl, hsz, hv⟩ := hv
  have hx := B.exec
  have hb := B.bytes
  have hr := B.returns
  have hts := atoms_spec (ws := wsX8_isConfined) B.pre
  have hown : s.vm.findClass RX8 = some m.cls := findClass_of_methodNamed B.named
  have hlocks := B.notSynchronized
  subst hsz
  have B := xB_start hs hv
  have hinRX6 : ∀ w ∈ wsX60, w ∈ wsX8_isConfined := by decide +kernel
  have hinRX8 : ∀ w ∈ wsX80, w ∈ wsX8_isConfined := by decide +kernel
  have hl := lv_entry ([.ref (ad 0), .int a1, .int a2]) (n := 3) (Nat.le_of_ble_eq_true rfl)
  rw [lg_entry_eq]
  generalize (lg_sl ([.ref (ad 0), .int a1, .int a2]) ++ List.replicate (3 - (lg_sl ([.ref (ad 0), .int a1, .int a2])).length) Slot.unset).toArray = ls at hl ⊢
  have hl : lv_has ls 3 [(0, .ref (ad 0)), (1, .int a1), (2, .int a2)] := hl
  generalize hAe : xA ad a s.heap.size = A at B ⊢
  have L17 : ∀ (σ : zs) (v1 : Int32) (v2 : Int32) (s0 : Int32) (H : Heap) (locs : List Loc) (ls : Array Slot), f_X8_isConfined_17 σ v1 v2 s0 = some (ex, r, σ') → xB A s G ad σ H locs → lv_has ls 3 [(0, .ref (ad 0)), (1, .int v1), (2, .int v2)] → W p l e (headSpec wsX8_isConfined rm_X8_isConfined).room s m ([.ref (ad 0), .int a1, .int a2] : List Value).toArray below meth c H locs 1 6 (vx_MQ below (va_Qi (fun r' (u : xV) => (ex = 0 ∧ r' = r) ∧ xQ σ' u) (xPost G ad σ' A) A) (xXC G ad ex σ' A) ([.ref (ad 0), .int a1, .int a2] : List Value).toArray s 2 12 A) (F0 m 17 ls [.int s0]) := by
    intro σ v1 v2 s0 H locs ls hf B hl
    unfold f_X8_isConfined_17 at hf
    obtain ⟨u4, r5, σ6, hu4, hf⟩ := zx_some hf
    refine x_xv B (fun nb a g hs Bz => vx_runS (As := [.int s0]) (rest := []) ⟨hx, hb, hml, hown, hts⟩ (c_X8_needArgument l hfl hu4 _ nb a g hs) (va_cwS 1 hts gX8_isConfined_X8_needArgument rfl rfl rfl (by decide +kernel) ⟨Nat.le_of_ble_eq_true rfl, Nat.le_of_ble_eq_true rfl⟩) (z_preS Bz) rfl rfl hl.1 rfl (lv_room (Nat.le_of_ble_eq_true rfl)) dX8_isConfined_17 ⟨Nat.le_of_ble_eq_true rfl, Nat.le_of_ble_eq_true rfl⟩) (fun H locs ce q9 h0 B k1 k2 k3 => ?_) (fun H locs h0 B => ?_)
    · exact x_xout hno hlocks (zx_no hf h0) h0 B k1 k2 k3 (Nat.le_of_ble_eq_true rfl) (Nat.le_of_ble_eq_true rfl)
    have hf := zx_ok hf h0
    refine lv_aload_n hx hb dX8_isConfined_20 rfl (lv_at hl 0 rfl) ?_
    refine x_getr hx hb hts hinRX8 hown B 0 5 57 (by decide) (by decide) (fun _ => rfl) rfl rfl (by decide) (by decide +kernel) rfl dX8_isConfined_21 ?_
    refine lv_aload_n hx hb dX8_isConfined_24 rfl (lv_at hl 0 rfl) ?_
    refine x_getr hx hb hts hinRX8 hown B 0 0 1 (by decide) (by decide) (fun _ => rfl) rfl rfl (by decide) (by decide +kernel) rfl dX8_isConfined_25 ?_
    obtain ⟨r8, σ9, hu7, hf⟩ := zb_some hf
    refine x_v B (fun nb a g hs Bz => va_runV (As := [.ref (ad 1)]) (rest := []) ⟨hx, hb, hml, hown, hts⟩ (c_X4_find_1 l hu7 _ nb a g hs) (cwV 1 hts gX8_isConfined_X4_find rfl rfl rfl (by decide +kernel) ⟨Nat.le_of_ble_eq_true rfl, Nat.le_of_ble_eq_true rfl⟩) (x_preV Bz (by decide) (fun _ => rfl) rfl) rfl rfl hl.1 rfl (lv_room (Nat.le_of_ble_eq_true rfl)) dX8_isConfined_28 ⟨Nat.le_of_ble_eq_true rfl, Nat.le_of_ble_eq_true rfl⟩) (fun H locs B => ?_)
    refine lv_aload_n hx hb dX8_isConfined_31 rfl (lv_at hl 0 rfl) ?_
    refine x_getr hx hb hts hinRX8 hown B 0 5 57 (by decide) (by decide) (fun _ => rfl) rfl rfl (by decide) (by decide +kernel) rfl dX8_isConfined_32 ?_
    refine lv_aload_n hx hb dX8_isConfined_35 rfl (lv_at hl 0 rfl) ?_
    refine x_getr hx hb hts hinRX8 hown B 0 0 1 (by decide) (by decide) (fun _ => rfl) rfl rfl (by decide) (by decide +kernel) rfl dX8_isConfined_36 ?_
    refine x_getr hx hb hts hinRX6 hown B 1 0 2 (by decide) (by decide) (fun _ => rfl) rfl rfl (by decide) (by decide +kernel) rfl dX8_isConfined_39 ?_
    refine lv_iload_n hx hb dX8_isConfined_42 rfl (lv_at hl 1 rfl) ?_
    obtain ⟨r11, σ12, hu10, hf⟩ := zb_some hf
    refine x_i B (fun nb a g hs Bz => va_runV (As := [.ref (ad 2), .int v1]) (rest := []) ⟨hx, hb, hml, hown, hts⟩ (c_X4_objectsOf_2 l hu10 _ nb a g hs) (cwV 2 hts gX8_isConfined_X4_objectsOf rfl rfl rfl (by decide +kernel) ⟨Nat.le_of_ble_eq_true rfl, Nat.le_of_ble_eq_true rfl⟩) (x_preV Bz (by decide) (fun _ => rfl) rfl) rfl rfl hl.1 rfl (lv_room (Nat.le_of_ble_eq_true rfl)) dX8_isConfined_43 ⟨Nat.le_of_ble_eq_true rfl, Nat.le_of_ble_eq_true rfl⟩) (fun H locs B => ?_)
    refine lv_iload_n hx hb dX8_isConfined_46 rfl (lv_at hl 2 rfl) ?_
    refine lv_iconst (v := (-1 : Int32)) hx hb dX8_isConfined_47 (by decide) ?_
    refine lv_ixor hx hb dX8_isConfined_48 ?_
    refine lv_iand hx hb dX8_isConfined_49 ?_
    refine lv_if_ne (tgt := 57) hx hb dX8_isConfined_50 (by decide) (fun hc => ?_) (fun hc => ?_)
    · have hf := zif_f hc hf
      refine lv_iconst (v := (0 : Int32)) hx hb dX8_isConfined_57 (by decide) ?_
      refine W.widen (k := 2) (n := 12) (Nat.le_of_ble_eq_true rfl) (Nat.le_of_ble_eq_true rfl) ?_
      exact x_xiret hx hb hr (by decide) hlocks B hf dX8_isConfined_58
    · have hf := zif_t hc hf
      refine lv_iconst (v := (1 : Int32)) hx hb dX8_isConfined_53 (by decide) ?_
      refine lv_goto (tgt := 58) hx hb dX8_isConfined_54 (by decide) ?_
      refine W.widen (k := 2) (n := 12) (Nat.le_of_ble_eq_true rfl) (Nat.le_of_ble_eq_true rfl) ?_
      exact x_xiret hx hb hr (by decide) hlocks B hf dX8_isConfined_58
  unfold f_X8_isConfined at hf
  refine lv_iload_n hx hb dX8_isConfined_0 rfl (lv_at hl 1 rfl) ?_
  obtain ⟨u1, r2, σ3, hu1, hf⟩ := zx_some hf
  refine x_xv B (fun nb a g hs Bz => vx_runS (As := [.int a1]) (rest := []) ⟨hx, hb, hml, hown, hts⟩ (c_X8_needSubject l hfl hu1 _ nb a g hs) (va_cwS 1 hts gX8_isConfined_X8_needSubject rfl rfl rfl (by decide +kernel) ⟨Nat.le_of_ble_eq_true rfl, Nat.le_of_ble_eq_true rfl⟩) (z_preS Bz) rfl rfl hl.1 rfl (lv_room (Nat.le_of_ble_eq_true rfl)) dX8_isConfined_1 ⟨Nat.le_of_ble_eq_true rfl, Nat.le_of_ble_eq_true rfl⟩) (fun H locs ce q9 h0 B k1 k2 k3 => ?_) (fun H locs h0 B => ?_)
  · exact x_xout hno hlocks (zx_no hf h0) h0 B k1 k2 k3 (Nat.le_of_ble_eq_true rfl) (Nat.le_of_ble_eq_true rfl)
  have hf := zx_ok hf h0
  refine lv_iload_n hx hb dX8_isConfined_4 rfl (lv_at hl 2 rfl) ?_
  refine lv_sipush (v := (-4096 : Int32)) hx hb dX8_isConfined_5 (by decide) ?_
  refine lv_iand hx hb dX8_isConfined_8 ?_
  refine lv_if_ne (tgt := 16) hx hb dX8_isConfined_9 (by decide) (fun hc => ?_) (fun hc => ?_)
  · have hf := zif_f hc hf
    refine lv_iconst (v := (0 : Int32)) hx hb dX8_isConfined_16 (by decide) ?_
    exact L17  _ _ _ _ _ _ _ hf B (lv_sub hl [0, 1, 2] rfl)
  · have hf := zif_t hc hf
    refine lv_iconst (v := (1 : Int32)) hx hb dX8_isConfined_12 (by decide) ?_
    refine lv_goto (tgt := 17) hx hb dX8_isConfined_13 (by decide) ?_
    exact L17  _ _ _ _ _ _ _ hf B (lv_sub hl [0, 1, 2] rfl)
theorem dX8_count_0 : decode cX8_count 0 = .ok (.iload_n 1, 1) := by decide +kernel
theorem dX8_count_1 : decode cX8_count 1 = .ok (.ifCond .lt 13, 3) := by decide +kernel
theorem dX8_count_4 : decode cX8_count 4 = .ok (.iload_n 1, 1) := by decide +kernel
theorem dX8_count_5 : decode cX8_count 5 = .ok (.bipush 8, 2) := by decide +kernel
theorem dX8_count_7 : decode cX8_count 7 = .ok (.if_icmp .gt 7, 3) := by decide +kernel
theorem dX8_count_10 : decode cX8_count 10 = .ok (.iconst 1, 1) := by decide +kernel
theorem dX8_count_11 : decode cX8_count 11 = .ok (.goto 4, 3) := by decide +kernel
theorem dX8_count_14 : decode cX8_count 14 = .ok (.iconst 0, 1) := by decide +kernel
theorem dX8_count_15 : decode cX8_count 15 = .ok (.invokestatic 62, 3) := by decide +kernel
theorem dX8_count_18 : decode cX8_count 18 = .ok (.iload_n 1, 1) := by decide +kernel
theorem dX8_count_19 : decode cX8_count 19 = .ok (.tableswitch 127 0 7 #[45, 56, 64, 75, 86, 97, 108, 119], 45) := by decide +kernel
theorem dX8_count_64 : decode cX8_count 64 = .ok (.aload_n 0, 1) := by decide +kernel
theorem dX8_count_65 : decode cX8_count 65 = .ok (.getfield 12, 3) := by decide +kernel
theorem dX8_count_68 : decode cX8_count 68 = .ok (.getfield 66, 3) := by decide +kernel
theorem dX8_count_71 : decode cX8_count 71 = .ok (.getfield 70, 3) := by decide +kernel
theorem dX8_count_74 : decode cX8_count 74 = .ok (.ireturn, 1) := by decide +kernel
theorem dX8_count_75 : decode cX8_count 75 = .ok (.aload_n 0, 1) := by decide +kernel
theorem dX8_count_76 : decode cX8_count 76 = .ok (.getfield 12, 3) := by decide +kernel
theorem dX8_count_79 : decode cX8_count 79 = .ok (.getfield 263, 3) := by decide +kernel
theorem dX8_count_82 : decode cX8_count 82 = .ok (.ireturn, 1) := by decide +kernel
theorem dX8_count_83 : decode cX8_count 83 = .ok (.aload_n 0, 1) := by decide +kernel
theorem dX8_count_84 : decode cX8_count 84 = .ok (.getfield 12, 3) := by decide +kernel
theorem dX8_count_87 : decode cX8_count 87 = .ok (.getfield 292, 3) := by decide +kernel
theorem dX8_count_90 : decode cX8_count 90 = .ok (.getfield 296, 3) := by decide +kernel
theorem dX8_count_93 : decode cX8_count 93 = .ok (.ireturn, 1) := by decide +kernel
theorem dX8_count_94 : decode cX8_count 94 = .ok (.aload_n 0, 1) := by decide +kernel
theorem dX8_count_95 : decode cX8_count 95 = .ok (.getfield 12, 3) := by decide +kernel
theorem dX8_count_98 : decode cX8_count 98 = .ok (.getfield 292, 3) := by decide +kernel
theorem dX8_count_101 : decode cX8_count 101 = .ok (.getfield 315, 3) := by decide +kernel
theorem dX8_count_104 : decode cX8_count 104 = .ok (.ireturn, 1) := by decide +kernel
theorem dX8_count_105 : decode cX8_count 105 = .ok (.aload_n 0, 1) := by decide +kernel
theorem dX8_count_106 : decode cX8_count 106 = .ok (.getfield 12, 3) := by decide +kernel
theorem dX8_count_109 : decode cX8_count 109 = .ok (.getfield 234, 3) := by decide +kernel
theorem dX8_count_112 : decode cX8_count 112 = .ok (.getfield 352, 3) := by decide +kernel
theorem dX8_count_115 : decode cX8_count 115 = .ok (.ireturn, 1) := by decide +kernel
theorem dX8_count_116 : decode cX8_count 116 = .ok (.aload_n 0, 1) := by decide +kernel
theorem dX8_count_117 : decode cX8_count 117 = .ok (.getfield 12, 3) := by decide +kernel
theorem dX8_count_120 : decode cX8_count 120 = .ok (.getfield 234, 3) := by decide +kernel
theorem dX8_count_123 : decode cX8_count 123 = .ok (.getfield 355, 3) := by decide +kernel
theorem dX8_count_126 : decode cX8_count 126 = .ok (.ireturn, 1) := by decide +kernel
theorem dX8_count_127 : decode cX8_count 127 = .ok (.aload_n 0, 1) := by decide +kernel
theorem dX8_count_128 : decode cX8_count 128 = .ok (.getfield 12, 3) := by decide +kernel
theorem dX8_count_131 : decode cX8_count 131 = .ok (.getfield 234, 3) := by decide +kernel
theorem dX8_count_134 : decode cX8_count 134 = .ok (.getfield 273, 3) := by decide +kernel
theorem dX8_count_137 : decode cX8_count 137 = .ok (.ireturn, 1) := by decide +kernel
theorem dX8_count_138 : decode cX8_count 138 = .ok (.aload_n 0, 1) := by decide +kernel
theorem dX8_count_139 : decode cX8_count 139 = .ok (.getfield 33, 3) := by decide +kernel
theorem dX8_count_142 : decode cX8_count 142 = .ok (.getfield 91, 3) := by decide +kernel
theorem dX8_count_145 : decode cX8_count 145 = .ok (.ireturn, 1) := by decide +kernel
theorem dX8_count_146 : decode cX8_count 146 = .ok (.aload_n 0, 1) := by decide +kernel
theorem dX8_count_147 : decode cX8_count 147 = .ok (.getfield 12, 3) := by decide +kernel
theorem dX8_count_150 : decode cX8_count 150 = .ok (.getfield 66, 3) := by decide +kernel
theorem dX8_count_153 : decode cX8_count 153 = .ok (.invokevirtual 165, 3) := by decide +kernel
theorem dX8_count_156 : decode cX8_count 156 = .ok (.invokestatic 140, 3) := by decide +kernel
theorem dX8_count_159 : decode cX8_count 159 = .ok (.ireturn, 1) := by decide +kernel
set_option maxRecDepth 20000 in
theorem ggX8_count_X8_needArgument : GoodIn wsX8_count wsX8_needArgument := goodIn_ca (goodIn_r _ [17, 18, 19] (by decide +kernel) (by decide +kernel)) (goodIn_sub (fun _ h => List.mem_cons_of_mem _ (List.mem_append_left _ (List.mem_append_right _ h))) (by decide +kernel))
set_option maxRecDepth 20000 in
theorem gX8_count_X8_needArgument : GoodIn wsX8_count (va_wsS RX8 62 yX8_needArgument wsX8_needArgument) := goodIn_app (goodIn_of _ (by decide +kernel)) ggX8_count_X8_needArgument
set_option maxRecDepth 20000 in
theorem ggX8_count_X7_setOfLiving : GoodIn wsX8_count wsX7_setOfLiving := goodIn_ca (goodIn_r _ [24, 25, 26, 27, 28, 23, 29, 30, 31, 32, 56, 57, 58, 59, 60, 61, 62, 63, 64, 65, 66, 67] (by decide +kernel) (by decide +kernel)) (goodIn_sub (fun _ h => List.mem_cons_of_mem _ (List.mem_append_right _ h)) (by decide +kernel))
set_option maxRecDepth 20000 in
theorem gX8_count_X7_setOfLiving : GoodIn wsX8_count (wsV RX8 165 RX7 yX7_setOfLiving wsX7_setOfLiving) := goodIn_app (goodIn_of _ (by decide +kernel)) ggX8_count_X7_setOfLiving
set_option maxRecDepth 20000 in
theorem ggX8_count_J6_bitCount_0f7a4 : GoodIn wsX8_count wsJ6_bitCount_0f7a4 := goodIn_r _ [36, 37, 38, 39] (by decide +kernel) (by decide +kernel)
set_option maxRecDepth 20000 in
theorem gX8_count_J6_bitCount_0f7a4 : GoodIn wsX8_count (va_wsS RX8 140 yJ6_bitCount_0f7a4 wsJ6_bitCount_0f7a4) := goodIn_app (goodIn_of _ (by decide +kernel)) ggX8_count_J6_bitCount_0f7a4
def rm_X8_count : Room := { frames := 9, cells := 1, slots := 6, locals := 220 }
set_option maxHeartbeats 4000000 in
set_option maxRecDepth 100000 in
theorem c_X8_count (l : Launch) (hfl : l.stackTraces = false) {G : zG} {ad : Nat → Nat} {σ σ' : zs} {a1 : Int32} {ex : Nat} {r : Int32} (hf : f_X8_count σ a1 = some (ex, r, σ')) : xXi l yX8_count wsX8_count rm_X8_count G ad σ [.ref (ad 0), .int a1] ex r σ' := by
  intro sz nb a g hs
  refine vx_ofW (cc := cX8_count) (maxL := 2) (ret := (some .int)) (by decide) rfl ?_
  intro p e s m args below meth c s₁ B hml hno hv
  obtain ⟨rfl, hsz, hv⟩ := hv
  have hx := B.exec
  have hb := B.bytes
  have hr := B.returns
  have hts := atoms_spec (ws := wsX8_count) B.pre
  have hown : s.vm.findClass RX8 = some m.cls := findClass_of_methodNamed B.named
  have hlocks := B.notSynchronized
  subst hsz
  have B := xB_start hs hv
  have hinRX0 : ∀ w ∈ wsX00, w ∈ wsX8_count := by decide +kernel
  have hinRX1 : ∀ w ∈ wsX10, w ∈ wsX8_count := by decide +kernel
  have hinRX2 : ∀ w ∈ wsX20, w ∈ wsX8_count := by decide +kernel
  have hinRX6 : ∀ w ∈ wsX60, w ∈ wsX8_count := by decide +kernel
  have hinRX7 : ∀ w ∈ wsX70, w ∈ wsX8_count := by decide +kernel
  have hinRX8 : ∀ w ∈ wsX80, w ∈ wsX8_count := by decide +kernel
  have hl := lv_entry ([.ref (ad 0), .int a1]) (n := 2) (Nat.le_of_ble_eq_true rfl)
  rw [lg_entry_eq]
  generalize (lg_sl ([.ref (ad 0), .int a1]) ++ List.replicate (2 - (lg_sl ([.ref (ad 0), .int a1])).length) Slot.unset).toArray = ls at hl ⊢
  have hl : lv_has ls 2 [(0, .ref (ad 0)), (1, .int a1)] := hl
  generalize hAe : xA ad a s.heap.size = A at B ⊢
  have L15 : ∀ (σ : zs) (v1 : Int32) (s0 : Int32) (H : Heap) (locs : List Loc) (ls : Array Slot), f_X8_count_15 σ v1 s0 = some (ex, r, σ') → xB A s G ad σ H locs → lv_has ls 2 [(0, .ref (ad 0)), (1, .int v1)] → W p l e (headSpec wsX8_count rm_X8_count).room s m ([.ref (ad 0), .int a1] : List Value).toArray below meth c H locs 0 0 (vx_MQ below (va_Qi (fun r' (u : xV) => (ex = 0 ∧ r' = r) ∧ xQ σ' u) (xPost G ad σ' A) A) (xXC G ad ex σ' A) ([.ref (ad 0), .int a1] : List Value).toArray s 1 6 A) (F0 m 15 ls [.int s0]) := by
    intro σ v1 s0 H locs ls hf B hl
    unfold f_X8_count_15 at hf
    obtain ⟨u1, r2, σ3, hu1, hf⟩ := zx_some hf
    refine x_xv B (fun nb a g hs Bz => vx_runS (As := [.int s0]) (rest := []) ⟨hx, hb, hml, hown, hts⟩ (c_X8_needArgument l hfl hu1 _ nb a g hs) (va_cwS 1 hts gX8_count_X8_needArgument rfl rfl rfl (by decide +kernel) ⟨Nat.le_of_ble_eq_true rfl, Nat.le_of_ble_eq_true rfl⟩) (z_preS Bz) rfl rfl hl.1 rfl (lv_room (Nat.le_of_ble_eq_true rfl)) dX8_count_15 ⟨Nat.le_of_ble_eq_true rfl, Nat.le_of_ble_eq_true rfl⟩) (fun H locs ce q9 h0 B k1 k2 k3 => ?_) (fun H locs h0 B => ?_)
    · exact x_xout hno hlocks (zx_no hf h0) h0 B k1 k2 k3 (Nat.le_of_ble_eq_true rfl) (Nat.le_of_ble_eq_true rfl)
    have hf := zx_ok hf h0
    refine lv_iload_n hx hb dX8_count_18 rfl (lv_at hl 1 rfl) ?_
    by_cases hc0 : v1 = (0 : Int32)
    · have hf := zif_t hc0 hf
      refine lv_tableIn (off := 45) (tgt := 64) hx hb dX8_count_19 (by rw [hc0]; decide) (by rw [hc0]; decide) (by rw [hc0]; rfl) (by decide) ?_
      refine lv_aload_n hx hb dX8_count_64 rfl (lv_at hl 0 rfl) ?_
      refine x_getr hx hb hts hinRX8 hown B 0 0 1 (by decide) (by decide) (fun _ => rfl) rfl rfl (by decide) (by decide +kernel) rfl dX8_count_65 ?_
      refine x_getr hx hb hts hinRX6 hown B 1 0 2 (by decide) (by decide) (fun _ => rfl) rfl rfl (by decide) (by decide +kernel) rfl dX8_count_68 ?_
      refine x_geti hx hb hts hinRX7 hown B 2 0 (by decide) (fun _ => rfl) rfl rfl (by decide) (by decide +kernel) rfl dX8_count_71 ?_
      refine W.widen (k := 1) (n := 6) (Nat.le_of_ble_eq_true rfl) (Nat.le_of_ble_eq_true rfl) ?_
      exact x_xiret hx hb hr rfl hlocks B hf dX8_count_74
    have hf := zif_f hc0 hf
    by_cases hc1 : v1 = (1 : Int32)
    · have hf := zif_t hc1 hf
      refine lv_tableIn (off := 56) (tgt := 75) hx hb dX8_count_19 (by rw [hc1]; decide) (by rw [hc1]; decide) (by rw [hc1]; rfl) (by decide) ?_
      refine lv_aload_n hx hb dX8_count_75 rfl (lv_at hl 0 rfl) ?_
      refine x_getr hx hb hts hinRX8 hown B 0 0 1 (by decide) (by decide) (fun _ => rfl) rfl rfl (by decide) (by decide +kernel) rfl dX8_count_76 ?_
      refine x_geti hx hb hts hinRX6 hown B 1 5 (by decide) (fun _ => rfl) rfl rfl (by decide) (by decide +kernel) rfl dX8_count_79 ?_
      refine W.widen (k := 1) (n := 6) (Nat.le_of_ble_eq_true rfl) (Nat.le_of_ble_eq_true rfl) ?_
      exact x_xiret hx hb hr rfl hlocks B hf dX8_count_82
    have hf := zif_f hc1 hf
    by_cases hc2 : v1 = (2 : Int32)
    · have hf := zif_t hc2 hf
      refine lv_tableIn (off := 64) (tgt := 83) hx hb dX8_count_19 (by rw [hc2]; decide) (by rw [hc2]; decide) (by rw [hc2]; rfl) (by decide) ?_
      refine lv_aload_n hx hb dX8_count_83 rfl (lv_at hl 0 rfl) ?_
      refine x_getr hx hb hts hinRX8 hown B 0 0 1 (by decide) (by decide) (fun _ => rfl) rfl rfl (by decide) (by decide +kernel) rfl dX8_count_84 ?_
      refine x_getr hx hb hts hinRX6 hown B 1 1 14 (by decide) (by decide) (fun _ => rfl) rfl rfl (by decide) (by decide +kernel) rfl dX8_count_87 ?_
      refine x_geti hx hb hts hinRX0 hown B 14 0 (by decide) (fun _ => rfl) rfl rfl (by decide) (by decide +kernel) rfl dX8_count_90 ?_
      refine W.widen (k := 1) (n := 6) (Nat.le_of_ble_eq_true rfl) (Nat.le_of_ble_eq_true rfl) ?_
      exact x_xiret hx hb hr rfl hlocks B hf dX8_count_93
    have hf := zif_f hc2 hf
    by_cases hc3 : v1 = (3 : Int32)
    · have hf := zif_t hc3 hf
      refine lv_tableIn (off := 75) (tgt := 94) hx hb dX8_count_19 (by rw [hc3]; decide) (by rw [hc3]; decide) (by rw [hc3]; rfl) (by decide) ?_
      refine lv_aload_n hx hb dX8_count_94 rfl (lv_at hl 0 rfl) ?_
      refine x_getr hx hb hts hinRX8 hown B 0 0 1 (by decide) (by decide) (fun _ => rfl) rfl rfl (by decide) (by decide +kernel) rfl dX8_count_95 ?_
      refine x_getr hx hb hts hinRX6 hown B 1 1 14 (by decide) (by decide) (fun _ => rfl) rfl rfl (by decide) (by decide +kernel) rfl dX8_count_98 ?_
      refine x_geti hx hb hts hinRX0 hown B 14 3 (by decide) (fun _ => rfl) rfl rfl (by decide) (by decide +kernel) rfl dX8_count_101 ?_
      refine W.widen (k := 1) (n := 6) (Nat.le_of_ble_eq_true rfl) (Nat.le_of_ble_eq_true rfl) ?_
      exact x_xiret hx hb hr rfl hlocks B hf dX8_count_104
    have hf := zif_f hc3 hf
    by_cases hc4 : v1 = (4 : Int32)
    · have hf := zif_t hc4 hf
      refine lv_tableIn (off := 86) (tgt := 105) hx hb dX8_count_19 (by rw [hc4]; decide) (by rw [hc4]; decide) (by rw [hc4]; rfl) (by decide) ?_
      refine lv_aload_n hx hb dX8_count_105 rfl (lv_at hl 0 rfl) ?_
      refine x_getr hx hb hts hinRX8 hown B 0 0 1 (by decide) (by decide) (fun _ => rfl) rfl rfl (by decide) (by decide +kernel) rfl dX8_count_106 ?_
      refine x_getr hx hb hts hinRX6 hown B 1 2 20 (by decide) (by decide) (fun _ => rfl) rfl rfl (by decide) (by decide +kernel) rfl dX8_count_109 ?_
      refine x_geti hx hb hts hinRX2 hown B 20 2 (by decide) (fun _ => rfl) rfl rfl (by decide) (by decide +kernel) rfl dX8_count_112 ?_
      refine W.widen (k := 1) (n := 6) (Nat.le_of_ble_eq_true rfl) (Nat.le_of_ble_eq_true rfl) ?_
      exact x_xiret hx hb hr rfl hlocks B hf dX8_count_115
    have hf := zif_f hc4 hf
    by_cases hc5 : v1 = (5 : Int32)
    · have hf := zif_t hc5 hf
      refine lv_tableIn (off := 97) (tgt := 116) hx hb dX8_count_19 (by rw [hc5]; decide) (by rw [hc5]; decide) (by rw [hc5]; rfl) (by decide) ?_
      refine lv_aload_n hx hb dX8_count_116 rfl (lv_at hl 0 rfl) ?_
      refine x_getr hx hb hts hinRX8 hown B 0 0 1 (by decide) (by decide) (fun _ => rfl) rfl rfl (by decide) (by decide +kernel) rfl dX8_count_117 ?_
      refine x_getr hx hb hts hinRX6 hown B 1 2 20 (by decide) (by decide) (fun _ => rfl) rfl rfl (by decide) (by decide +kernel) rfl dX8_count_120 ?_
      refine x_geti hx hb hts hinRX2 hown B 20 3 (by decide) (fun _ => rfl) rfl rfl (by decide) (by decide +kernel) rfl dX8_count_123 ?_
      refine W.widen (k := 1) (n := 6) (Nat.le_of_ble_eq_true rfl) (Nat.le_of_ble_eq_true rfl) ?_
      exact x_xiret hx hb hr rfl hlocks B hf dX8_count_126
    have hf := zif_f hc5 hf
    by_cases hc6 : v1 = (6 : Int32)
    · have hf := zif_t hc6 hf
      refine lv_tableIn (off := 108) (tgt := 127) hx hb dX8_count_19 (by rw [hc6]; decide) (by rw [hc6]; decide) (by rw [hc6]; rfl) (by decide) ?_
      refine lv_aload_n hx hb dX8_count_127 rfl (lv_at hl 0 rfl) ?_
      refine x_getr hx hb hts hinRX8 hown B 0 0 1 (by decide) (by decide) (fun _ => rfl) rfl rfl (by decide) (by decide +kernel) rfl dX8_count_128 ?_
      refine x_getr hx hb hts hinRX6 hown B 1 2 20 (by decide) (by decide) (fun _ => rfl) rfl rfl (by decide) (by decide +kernel) rfl dX8_count_131 ?_
      refine x_geti hx hb hts hinRX2 hown B 20 1 (by decide) (fun _ => rfl) rfl rfl (by decide) (by decide +kernel) rfl dX8_count_134 ?_
      refine W.widen (k := 1) (n := 6) (Nat.le_of_ble_eq_true rfl) (Nat.le_of_ble_eq_true rfl) ?_
      exact x_xiret hx hb hr rfl hlocks B hf dX8_count_137
    have hf := zif_f hc6 hf
    by_cases hc7 : v1 = (7 : Int32)
    · have hf := zif_t hc7 hf
      refine lv_tableIn (off := 119) (tgt := 138) hx hb dX8_count_19 (by rw [hc7]; decide) (by rw [hc7]; decide) (by rw [hc7]; rfl) (by decide) ?_
      refine lv_aload_n hx hb dX8_count_138 rfl (lv_at hl 0 rfl) ?_
      refine x_getr hx hb hts hinRX8 hown B 0 4 52 (by decide) (by decide) (fun _ => rfl) rfl rfl (by decide) (by decide +kernel) rfl dX8_count_139 ?_
      refine x_geti hx hb hts hinRX1 hown B 52 1 (by decide) (fun _ => rfl) rfl rfl (by decide) (by decide +kernel) rfl dX8_count_142 ?_
      refine W.widen (k := 1) (n := 6) (Nat.le_of_ble_eq_true rfl) (Nat.le_of_ble_eq_true rfl) ?_
      exact x_xiret hx hb hr rfl hlocks B hf dX8_count_145
    have hf := zif_f hc7 hf
    refine lv_tableOut (tgt := 146) hx hb dX8_count_19 (zsw_out (fun j h1 h2 hj => ?_)) (by decide) ?_
    · have hd : j = 0 ∨ j = 1 ∨ j = 2 ∨ j = 3 ∨ j = 4 ∨ j = 5 ∨ j = 6 ∨ j = 7 := by omega
      rcases hd with rfl | rfl | rfl | rfl | rfl | rfl | rfl | rfl
      · exact hc0 (Int32.toInt_inj.mp (hj.trans (by decide)))
      · exact hc1 (Int32.toInt_inj.mp (hj.trans (by decide)))
      · exact hc2 (Int32.toInt_inj.mp (hj.trans (by decide)))
      · exact hc3 (Int32.toInt_inj.mp (hj.trans (by decide)))
      · exact hc4 (Int32.toInt_inj.mp (hj.trans (by decide)))
      · exact hc5 (Int32.toInt_inj.mp (hj.trans (by decide)))
      · exact hc6 (Int32.toInt_inj.mp (hj.trans (by decide)))
      · exact hc7 (Int32.toInt_inj.mp (hj.trans (by decide)))
    refine lv_aload_n hx hb dX8_count_146 rfl (lv_at hl 0 rfl) ?_
    refine x_getr hx hb hts hinRX8 hown B 0 0 1 (by decide) (by decide) (fun _ => rfl) rfl rfl (by decide) (by decide +kernel) rfl dX8_count_147 ?_
    refine x_getr hx hb hts hinRX6 hown B 1 0 2 (by decide) (by decide) (fun _ => rfl) rfl rfl (by decide) (by decide +kernel) rfl dX8_count_150 ?_
    obtain ⟨r5, σ6, hu4, hf⟩ := zb_some hf
    refine x_i B (fun nb a g hs Bz => va_runV (As := []) (rest := []) ⟨hx, hb, hml, hown, hts⟩ (c_X7_setOfLiving l hu4 _ nb a g hs) (cwV 0 hts gX8_count_X7_setOfLiving rfl rfl rfl (by decide +kernel) ⟨Nat.le_of_ble_eq_true rfl, Nat.le_of_ble_eq_true rfl⟩) (x_preV Bz (by decide) (fun _ => rfl) rfl) rfl rfl hl.1 rfl (lv_room (Nat.le_of_ble_eq_true rfl)) dX8_count_153 ⟨Nat.le_of_ble_eq_true rfl, Nat.le_of_ble_eq_true rfl⟩) (fun H locs B => ?_)
    obtain ⟨r8, σ9, hu7, hf⟩ := zb_some hf
    refine x_i B (fun nb a g hs Bz => va_runS (As := [.int r5]) (rest := []) ⟨hx, hb, hml, hown, hts⟩ (c_J6_bitCount_0f7a4 l hu7 _ nb a g hs) (va_cwS 1 hts gX8_count_J6_bitCount_0f7a4 rfl rfl rfl (by decide +kernel) ⟨Nat.le_of_ble_eq_true rfl, Nat.le_of_ble_eq_true rfl⟩) (z_preS Bz) rfl rfl hl.1 rfl (lv_room (Nat.le_of_ble_eq_true rfl)) dX8_count_156 ⟨Nat.le_of_ble_eq_true rfl, Nat.le_of_ble_eq_true rfl⟩) (fun H locs B => ?_)
    refine W.widen (k := 1) (n := 6) (Nat.le_of_ble_eq_true rfl) (Nat.le_of_ble_eq_true rfl) ?_
    exact x_xiret hx hb hr rfl hlocks B hf dX8_count_159
  unfold f_X8_count at hf
  refine lv_iload_n hx hb dX8_count_0 rfl (lv_at hl 1 rfl) ?_
  refine lv_if_lt (tgt := 14) hx hb dX8_count_1 (by decide) (fun hc => ?_) (fun hc => ?_)
  · have hf := zif_t hc hf
    refine lv_iconst (v := (0 : Int32)) hx hb dX8_count_14 (by decide) ?_
    exact L15  _ _ _ _ _ _ hf B (lv_sub hl [0, 1] rfl)
  · have hf := zif_f hc hf
    refine lv_iload_n hx hb dX8_count_4 rfl (lv_at hl 1 rfl) ?_
    refine lv_bipush (v := (8 : Int32)) hx hb dX8_count_5 (by decide) ?_
    refine lv_icmp_gt (tgt := 14) hx hb dX8_count_7 (by decide) (fun hc => ?_) (fun hc => ?_)
    · have hf := zif_t hc hf
      refine lv_iconst (v := (0 : Int32)) hx hb dX8_count_14 (by decide) ?_
      exact L15  _ _ _ _ _ _ hf B (lv_sub hl [0, 1] rfl)
    · have hf := zif_f hc hf
      refine lv_iconst (v := (1 : Int32)) hx hb dX8_count_10 (by decide) ?_
      refine lv_goto (tgt := 15) hx hb dX8_count_11 (by decide) ?_
      exact L15  _ _ _ _ _ _ hf B (lv_sub hl [0, 1] rfl)
theorem dX8_copyRow_0 : decode cX8_copyRow 0 = .ok (.aload_n 0, 1) := by decide +kernel
theorem dX8_copyRow_1 : decode cX8_copyRow 1 = .ok (.arraylength, 1) := by decide +kernel
theorem dX8_copyRow_2 : decode cX8_copyRow 2 = .ok (.aload_n 1, 1) := by decide +kernel
theorem dX8_copyRow_3 : decode cX8_copyRow 3 = .ok (.arraylength, 1) := by decide +kernel
theorem dX8_copyRow_4 : decode cX8_copyRow 4 = .ok (.if_icmp .ne 12, 3) := by decide +kernel
theorem dX8_copyRow_7 : decode cX8_copyRow 7 = .ok (.aload_n 0, 1) := by decide +kernel
theorem dX8_copyRow_8 : decode cX8_copyRow 8 = .ok (.iconst 0, 1) := by decide +kernel
theorem dX8_copyRow_9 : decode cX8_copyRow 9 = .ok (.aload_n 1, 1) := by decide +kernel
theorem dX8_copyRow_10 : decode cX8_copyRow 10 = .ok (.iconst 0, 1) := by decide +kernel
theorem dX8_copyRow_11 : decode cX8_copyRow 11 = .ok (.aload_n 0, 1) := by decide +kernel
theorem dX8_copyRow_12 : decode cX8_copyRow 12 = .ok (.arraylength, 1) := by decide +kernel
theorem dX8_copyRow_13 : decode cX8_copyRow 13 = .ok (.invokestatic 415, 3) := by decide +kernel
theorem dX8_copyRow_16 : decode cX8_copyRow 16 = .ok (.return_, 1) := by decide +kernel
def rm_X8_copyRow_3_27 : Room := { frames := 1, cells := 0, slots := 0, locals := 200 }
set_option maxHeartbeats 4000000 in
set_option maxRecDepth 100000 in
theorem c_X8_copyRow_3_27 (l : Launch) {G : zG} {ad : Nat → Nat} {σ σ' : zs} {r : Int32} (hf : f_X8_copyRow_3_27 σ  = some (r, σ')) : xMv l yX8_copyRow wsX8_copyRow rm_X8_copyRow_3_27 G ad σ [.ref (ad 3), .ref (ad 27)] σ' := by
  intro sz nb a g hs
  refine Met.ofW (cc := cX8_copyRow) (maxL := 2) (ret := none) (by decide) rfl ?_
  intro p e s m args below meth c s₁ B hml hv
  obtain ⟨rfl, hsz, hv⟩ := hv
  have hx := B.exec
  have hb := B.bytes
  have hr := B.returns
  have hts := atoms_spec (ws := wsX8_copyRow) B.pre
  have hown : s.vm.findClass RX8 = some m.cls := findClass_of_methodNamed B.named
  have hlocks := B.notSynchronized
  subst hsz
  have B := xB_start hs hv
  have hl := lv_entry ([.ref (ad 3), .ref (ad 27)]) (n := 2) (Nat.le_of_ble_eq_true rfl)
  rw [lg_entry_eq]
  generalize (lg_sl ([.ref (ad 3), .ref (ad 27)]) ++ List.replicate (2 - (lg_sl ([.ref (ad 3), .ref (ad 27)])).length) Slot.unset).toArray = ls at hl ⊢
  have hl : lv_has ls 2 [(0, .ref (ad 3)), (1, .ref (ad 27))] := hl
  generalize hAe : xA ad a s.heap.size = A at B ⊢
  unfold f_X8_copyRow_3_27 at hf
  refine lv_aload_n hx hb dX8_copyRow_0 rfl (lv_at hl 0 rfl) ?_
  refine x_alen hx hb B 3 (v := (28 : Int32)) (by decide) (fun _ => rfl) rfl (by decide) dX8_copyRow_1 ?_
  refine lv_aload_n hx hb dX8_copyRow_2 rfl (lv_at hl 1 rfl) ?_
  refine x_alen hx hb B 27 (v := (28 : Int32)) (by decide) (fun _ => rfl) rfl (by decide) dX8_copyRow_3 ?_
  refine lv_icmp_ne (tgt := 16) hx hb dX8_copyRow_4 (by decide) (fun hc => absurd (by decide) hc) (fun hc => ?_)
  refine lv_aload_n hx hb dX8_copyRow_7 rfl (lv_at hl 0 rfl) ?_
  refine lv_iconst (v := (0 : Int32)) hx hb dX8_copyRow_8 (by decide) ?_
  refine lv_aload_n hx hb dX8_copyRow_9 rfl (lv_at hl 1 rfl) ?_
  refine lv_iconst (v := (0 : Int32)) hx hb dX8_copyRow_10 (by decide) ?_
  refine lv_aload_n hx hb dX8_copyRow_11 rfl (lv_at hl 0 rfl) ?_
  refine x_alen hx hb B 3 (v := (28 : Int32)) (by decide) (fun _ => rfl) rfl (by decide) dX8_copyRow_12 ?_
  obtain ⟨hg, hf⟩ := zg_some hf
  obtain ⟨g1, g2, g3, g4, g5⟩ := zcp_ok hg
  refine x_copyi hx hb (hml.trans hl.1.symm) hts hown (index := 415) (by decide +kernel) (by decide +kernel) (by decide +kernel) (by decide +kernel) B 3 27 (by decide) (by decide) (by decide) (fun _ => rfl) (fun _ => rfl) g1 g2 g3 g4 g5 (Nat.le_of_ble_eq_true rfl) (Nat.le_of_ble_eq_true rfl) dX8_copyRow_13 (fun H locs B => ?_)
  refine W.widen (k := 0) (n := 0) (Nat.le_of_ble_eq_true rfl) (Nat.le_of_ble_eq_true rfl) ?_
  exact x_vret hx hb hr hlocks B hf dX8_copyRow_16
def rm_X8_copyRow_4_28 : Room := { frames := 1, cells := 0, slots := 0, locals := 200 }
set_option maxHeartbeats 4000000 in
set_option maxRecDepth 100000 in
theorem c_X8_copyRow_4_28 (l : Launch) {G : zG} {ad : Nat → Nat} {σ σ' : zs} {r : Int32} (hf : f_X8_copyRow_4_28 σ  = some (r, σ')) : xMv l yX8_copyRow wsX8_copyRow rm_X8_copyRow_4_28 G ad σ [.ref (ad 4), .ref (ad 28)] σ' := by
  intro sz nb a g hs
  refine Met.ofW (cc := cX8_copyRow) (maxL := 2) (ret := none) (by decide) rfl ?_
  intro p e s m args below meth c s₁ B hml hv
  obtain ⟨rfl, hsz, hv⟩ := hv
  have hx := B.exec
  have hb := B.bytes
  have hr := B.returns
  have hts := atoms_spec (ws := wsX8_copyRow) B.pre
  have hown : s.vm.findClass RX8 = some m.cls := findClass_of_methodNamed B.named
  have hlocks := B.notSynchronized
  subst hsz
  have B := xB_start hs hv
  have hl := lv_entry ([.ref (ad 4), .ref (ad 28)]) (n := 2) (Nat.le_of_ble_eq_true rfl)
  rw [lg_entry_eq]
  generalize (lg_sl ([.ref (ad 4), .ref (ad 28)]) ++ List.replicate (2 - (lg_sl ([.ref (ad 4), .ref (ad 28)])).length) Slot.unset).toArray = ls at hl ⊢
  have hl : lv_has ls 2 [(0, .ref (ad 4)), (1, .ref (ad 28))] := hl
  generalize hAe : xA ad a s.heap.size = A at B ⊢
  unfold f_X8_copyRow_4_28 at hf
  refine lv_aload_n hx hb dX8_copyRow_0 rfl (lv_at hl 0 rfl) ?_
  refine x_alen hx hb B 4 (v := (28 : Int32)) (by decide) (fun _ => rfl) rfl (by decide) dX8_copyRow_1 ?_
  refine lv_aload_n hx hb dX8_copyRow_2 rfl (lv_at hl 1 rfl) ?_
  refine x_alen hx hb B 28 (v := (28 : Int32)) (by decide) (fun _ => rfl) rfl (by decide) dX8_copyRow_3 ?_
  refine lv_icmp_ne (tgt := 16) hx hb dX8_copyRow_4 (by decide) (fun hc => absurd (by decide) hc) (fun hc => ?_)
  refine lv_aload_n hx hb dX8_copyRow_7 rfl (lv_at hl 0 rfl) ?_
  refine lv_iconst (v := (0 : Int32)) hx hb dX8_copyRow_8 (by decide) ?_
  refine lv_aload_n hx hb dX8_copyRow_9 rfl (lv_at hl 1 rfl) ?_
  refine lv_iconst (v := (0 : Int32)) hx hb dX8_copyRow_10 (by decide) ?_
  refine lv_aload_n hx hb dX8_copyRow_11 rfl (lv_at hl 0 rfl) ?_
  refine x_alen hx hb B 4 (v := (28 : Int32)) (by decide) (fun _ => rfl) rfl (by decide) dX8_copyRow_12 ?_
  obtain ⟨hg, hf⟩ := zg_some hf
  obtain ⟨g1, g2, g3, g4, g5⟩ := zcp_ok hg
  refine x_copyi hx hb (hml.trans hl.1.symm) hts hown (index := 415) (by decide +kernel) (by decide +kernel) (by decide +kernel) (by decide +kernel) B 4 28 (by decide) (by decide) (by decide) (fun _ => rfl) (fun _ => rfl) g1 g2 g3 g4 g5 (Nat.le_of_ble_eq_true rfl) (Nat.le_of_ble_eq_true rfl) dX8_copyRow_13 (fun H locs B => ?_)
  refine W.widen (k := 0) (n := 0) (Nat.le_of_ble_eq_true rfl) (Nat.le_of_ble_eq_true rfl) ?_
  exact x_vret hx hb hr hlocks B hf dX8_copyRow_16
def rm_X8_copyRow_5_29 : Room := { frames := 1, cells := 0, slots := 0, locals := 200 }
set_option maxHeartbeats 4000000 in
set_option maxRecDepth 100000 in
theorem c_X8_copyRow_5_29 (l : Launch) {G : zG} {ad : Nat → Nat} {σ σ' : zs} {r : Int32} (hf : f_X8_copyRow_5_29 σ  = some (r, σ')) : xMv l yX8_copyRow wsX8_copyRow rm_X8_copyRow_5_29 G ad σ [.ref (ad 5), .ref (ad 29)] σ' := by
  intro sz nb a g hs
  refine Met.ofW (cc := cX8_copyRow) (maxL := 2) (ret := none) (by decide) rfl ?_
  intro p e s m args below meth c s₁ B hml hv
  obtain ⟨rfl, hsz, hv⟩ := hv
  have hx := B.exec
  have hb := B.bytes
  have hr := B.returns
  have hts := atoms_spec (ws := wsX8_copyRow) B.pre
  have hown : s.vm.findClass RX8 = some m.cls := findClass_of_methodNamed B.named
  have hlocks := B.notSynchronized
  subst hsz
  have B := xB_start hs hv
  have hl := lv_entry ([.ref (ad 5), .ref (ad 29)]) (n := 2) (Nat.le_of_ble_eq_true rfl)
  rw [lg_entry_eq]
  generalize (lg_sl ([.ref (ad 5), .ref (ad 29)]) ++ List.replicate (2 - (lg_sl ([.ref (ad 5), .ref (ad 29)])).length) Slot.unset).toArray = ls at hl ⊢
  have hl : lv_has ls 2 [(0, .ref (ad 5)), (1, .ref (ad 29))] := hl
  generalize hAe : xA ad a s.heap.size = A at B ⊢
  unfold f_X8_copyRow_5_29 at hf
  refine lv_aload_n hx hb dX8_copyRow_0 rfl (lv_at hl 0 rfl) ?_
  refine x_alen hx hb B 5 (v := (196 : Int32)) (by decide) (fun _ => rfl) rfl (by decide) dX8_copyRow_1 ?_
  refine lv_aload_n hx hb dX8_copyRow_2 rfl (lv_at hl 1 rfl) ?_
  refine x_alen hx hb B 29 (v := (196 : Int32)) (by decide) (fun _ => rfl) rfl (by decide) dX8_copyRow_3 ?_
  refine lv_icmp_ne (tgt := 16) hx hb dX8_copyRow_4 (by decide) (fun hc => absurd (by decide) hc) (fun hc => ?_)
  refine lv_aload_n hx hb dX8_copyRow_7 rfl (lv_at hl 0 rfl) ?_
  refine lv_iconst (v := (0 : Int32)) hx hb dX8_copyRow_8 (by decide) ?_
  refine lv_aload_n hx hb dX8_copyRow_9 rfl (lv_at hl 1 rfl) ?_
  refine lv_iconst (v := (0 : Int32)) hx hb dX8_copyRow_10 (by decide) ?_
  refine lv_aload_n hx hb dX8_copyRow_11 rfl (lv_at hl 0 rfl) ?_
  refine x_alen hx hb B 5 (v := (196 : Int32)) (by decide) (fun _ => rfl) rfl (by decide) dX8_copyRow_12 ?_
  obtain ⟨hg, hf⟩ := zg_some hf
  obtain ⟨g1, g2, g3, g4, g5⟩ := zcp_ok hg
  refine x_copyi hx hb (hml.trans hl.1.symm) hts hown (index := 415) (by decide +kernel) (by decide +kernel) (by decide +kernel) (by decide +kernel) B 5 29 (by decide) (by decide) (by decide) (fun _ => rfl) (fun _ => rfl) g1 g2 g3 g4 g5 (Nat.le_of_ble_eq_true rfl) (Nat.le_of_ble_eq_true rfl) dX8_copyRow_13 (fun H locs B => ?_)
  refine W.widen (k := 0) (n := 0) (Nat.le_of_ble_eq_true rfl) (Nat.le_of_ble_eq_true rfl) ?_
  exact x_vret hx hb hr hlocks B hf dX8_copyRow_16
def rm_X8_copyRow_6_30 : Room := { frames := 1, cells := 0, slots := 0, locals := 200 }
set_option maxHeartbeats 4000000 in
set_option maxRecDepth 100000 in
theorem c_X8_copyRow_6_30 (l : Launch) {G : zG} {ad : Nat → Nat} {σ σ' : zs} {r : Int32} (hf : f_X8_copyRow_6_30 σ  = some (r, σ')) : xMv l yX8_copyRow wsX8_copyRow rm_X8_copyRow_6_30 G ad σ [.ref (ad 6), .ref (ad 30)] σ' := by
  intro sz nb a g hs
  refine Met.ofW (cc := cX8_copyRow) (maxL := 2) (ret := none) (by decide) rfl ?_
  intro p e s m args below meth c s₁ B hml hv
  obtain ⟨rfl, hsz, hv⟩ := hv
  have hx := B.exec
  have hb := B.bytes
  have hr := B.returns
  have hts := atoms_spec (ws := wsX8_copyRow) B.pre
  have hown : s.vm.findClass RX8 = some m.cls := findClass_of_methodNamed B.named
  have hlocks := B.notSynchronized
  subst hsz
  have B := xB_start hs hv
  have hl := lv_entry ([.ref (ad 6), .ref (ad 30)]) (n := 2) (Nat.le_of_ble_eq_true rfl)
  rw [lg_entry_eq]
  generalize (lg_sl ([.ref (ad 6), .ref (ad 30)]) ++ List.replicate (2 - (lg_sl ([.ref (ad 6), .ref (ad 30)])).length) Slot.unset).toArray = ls at hl ⊢
  have hl : lv_has ls 2 [(0, .ref (ad 6)), (1, .ref (ad 30))] := hl
  generalize hAe : xA ad a s.heap.size = A at B ⊢
  unfold f_X8_copyRow_6_30 at hf
  refine lv_aload_n hx hb dX8_copyRow_0 rfl (lv_at hl 0 rfl) ?_
  refine x_alen hx hb B 6 (v := (28 : Int32)) (by decide) (fun _ => rfl) rfl (by decide) dX8_copyRow_1 ?_
  refine lv_aload_n hx hb dX8_copyRow_2 rfl (lv_at hl 1 rfl) ?_
  refine x_alen hx hb B 30 (v := (28 : Int32)) (by decide) (fun _ => rfl) rfl (by decide) dX8_copyRow_3 ?_
  refine lv_icmp_ne (tgt := 16) hx hb dX8_copyRow_4 (by decide) (fun hc => absurd (by decide) hc) (fun hc => ?_)
  refine lv_aload_n hx hb dX8_copyRow_7 rfl (lv_at hl 0 rfl) ?_
  refine lv_iconst (v := (0 : Int32)) hx hb dX8_copyRow_8 (by decide) ?_
  refine lv_aload_n hx hb dX8_copyRow_9 rfl (lv_at hl 1 rfl) ?_
  refine lv_iconst (v := (0 : Int32)) hx hb dX8_copyRow_10 (by decide) ?_
  refine lv_aload_n hx hb dX8_copyRow_11 rfl (lv_at hl 0 rfl) ?_
  refine x_alen hx hb B 6 (v := (28 : Int32)) (by decide) (fun _ => rfl) rfl (by decide) dX8_copyRow_12 ?_
  obtain ⟨hg, hf⟩ := zg_some hf
  obtain ⟨g1, g2, g3, g4, g5⟩ := zcp_ok hg
  refine x_copyi hx hb (hml.trans hl.1.symm) hts hown (index := 415) (by decide +kernel) (by decide +kernel) (by decide +kernel) (by decide +kernel) B 6 30 (by decide) (by decide) (by decide) (fun _ => rfl) (fun _ => rfl) g1 g2 g3 g4 g5 (Nat.le_of_ble_eq_true rfl) (Nat.le_of_ble_eq_true rfl) dX8_copyRow_13 (fun H locs B => ?_)
  refine W.widen (k := 0) (n := 0) (Nat.le_of_ble_eq_true rfl) (Nat.le_of_ble_eq_true rfl) ?_
  exact x_vret hx hb hr hlocks B hf dX8_copyRow_16
def rm_X8_copyRow_7_31 : Room := { frames := 1, cells := 0, slots := 0, locals := 200 }
set_option maxHeartbeats 4000000 in
set_option maxRecDepth 100000 in
theorem c_X8_copyRow_7_31 (l : Launch) {G : zG} {ad : Nat → Nat} {σ σ' : zs} {r : Int32} (hf : f_X8_copyRow_7_31 σ  = some (r, σ')) : xMv l yX8_copyRow wsX8_copyRow rm_X8_copyRow_7_31 G ad σ [.ref (ad 7), .ref (ad 31)] σ' := by
  intro sz nb a g hs
  refine Met.ofW (cc := cX8_copyRow) (maxL := 2) (ret := none) (by decide) rfl ?_
  intro p e s m args below meth c s₁ B hml hv
  obtain ⟨rfl, hsz, hv⟩ := hv
  have hx := B.exec
  have hb := B.bytes
  have hr := B.returns
  have hts := atoms_spec (ws := wsX8_copyRow) B.pre
  have hown : s.vm.findClass RX8 = some m.cls := findClass_of_methodNamed B.named
  have hlocks := B.notSynchronized
  subst hsz
  have B := xB_start hs hv
  have hl := lv_entry ([.ref (ad 7), .ref (ad 31)]) (n := 2) (Nat.le_of_ble_eq_true rfl)
  rw [lg_entry_eq]
  generalize (lg_sl ([.ref (ad 7), .ref (ad 31)]) ++ List.replicate (2 - (lg_sl ([.ref (ad 7), .ref (ad 31)])).length) Slot.unset).toArray = ls at hl ⊢
  have hl : lv_has ls 2 [(0, .ref (ad 7)), (1, .ref (ad 31))] := hl
  generalize hAe : xA ad a s.heap.size = A at B ⊢
  unfold f_X8_copyRow_7_31 at hf
  refine lv_aload_n hx hb dX8_copyRow_0 rfl (lv_at hl 0 rfl) ?_
  refine x_alen hx hb B 7 (v := (28 : Int32)) (by decide) (fun _ => rfl) rfl (by decide) dX8_copyRow_1 ?_
  refine lv_aload_n hx hb dX8_copyRow_2 rfl (lv_at hl 1 rfl) ?_
  refine x_alen hx hb B 31 (v := (28 : Int32)) (by decide) (fun _ => rfl) rfl (by decide) dX8_copyRow_3 ?_
  refine lv_icmp_ne (tgt := 16) hx hb dX8_copyRow_4 (by decide) (fun hc => absurd (by decide) hc) (fun hc => ?_)
  refine lv_aload_n hx hb dX8_copyRow_7 rfl (lv_at hl 0 rfl) ?_
  refine lv_iconst (v := (0 : Int32)) hx hb dX8_copyRow_8 (by decide) ?_
  refine lv_aload_n hx hb dX8_copyRow_9 rfl (lv_at hl 1 rfl) ?_
  refine lv_iconst (v := (0 : Int32)) hx hb dX8_copyRow_10 (by decide) ?_
  refine lv_aload_n hx hb dX8_copyRow_11 rfl (lv_at hl 0 rfl) ?_
  refine x_alen hx hb B 7 (v := (28 : Int32)) (by decide) (fun _ => rfl) rfl (by decide) dX8_copyRow_12 ?_
  obtain ⟨hg, hf⟩ := zg_some hf
  obtain ⟨g1, g2, g3, g4, g5⟩ := zcp_ok hg
  refine x_copyi hx hb (hml.trans hl.1.symm) hts hown (index := 415) (by decide +kernel) (by decide +kernel) (by decide +kernel) (by decide +kernel) B 7 31 (by decide) (by decide) (by decide) (fun _ => rfl) (fun _ => rfl) g1 g2 g3 g4 g5 (Nat.le_of_ble_eq_true rfl) (Nat.le_of_ble_eq_true rfl) dX8_copyRow_13 (fun H locs B => ?_)
  refine W.widen (k := 0) (n := 0) (Nat.le_of_ble_eq_true rfl) (Nat.le_of_ble_eq_true rfl) ?_
  exact x_vret hx hb hr hlocks B hf dX8_copyRow_16
def rm_X8_copyRow_8_32 : Room := { frames := 1, cells := 0, slots := 0, locals := 200 }
set_option maxHeartbeats 4000000 in
set_option maxRecDepth 100000 in
theorem c_X8_copyRow_8_32 (l : Launch) {G : zG} {ad : Nat → Nat} {σ σ' : zs} {r : Int32} (hf : f_X8_copyRow_8_32 σ  = some (r, σ')) : xMv l yX8_copyRow wsX8_copyRow rm_X8_copyRow_8_32 G ad σ [.ref (ad 8), .ref (ad 32)] σ' := by
  intro sz nb a g hs
  refine Met.ofW (cc := cX8_copyRow) (maxL := 2) (ret := none) (by decide) rfl ?_
  intro p e s m args below meth c s₁ B hml hv
  obtain ⟨rfl, hsz, hv⟩ := hv
  have hx := B.exec
  have hb := B.bytes
  have hr := B.returns
  have hts := atoms_spec (ws := wsX8_copyRow) B.pre
  have hown : s.vm.findClass RX8 = some m.cls := findClass_of_methodNamed B.named
  have hlocks := B.notSynchronized
  subst hsz
  have B := xB_start hs hv
  have hl := lv_entry ([.ref (ad 8), .ref (ad 32)]) (n := 2) (Nat.le_of_ble_eq_true rfl)
  rw [lg_entry_eq]
  generalize (lg_sl ([.ref (ad 8), .ref (ad 32)]) ++ List.replicate (2 - (lg_sl ([.ref (ad 8), .ref (ad 32)])).length) Slot.unset).toArray = ls at hl ⊢
  have hl : lv_has ls 2 [(0, .ref (ad 8)), (1, .ref (ad 32))] := hl
  generalize hAe : xA ad a s.heap.size = A at B ⊢
  unfold f_X8_copyRow_8_32 at hf
  refine lv_aload_n hx hb dX8_copyRow_0 rfl (lv_at hl 0 rfl) ?_
  refine x_alen hx hb B 8 (v := (28 : Int32)) (by decide) (fun _ => rfl) rfl (by decide) dX8_copyRow_1 ?_
  refine lv_aload_n hx hb dX8_copyRow_2 rfl (lv_at hl 1 rfl) ?_
  refine x_alen hx hb B 32 (v := (28 : Int32)) (by decide) (fun _ => rfl) rfl (by decide) dX8_copyRow_3 ?_
  refine lv_icmp_ne (tgt := 16) hx hb dX8_copyRow_4 (by decide) (fun hc => absurd (by decide) hc) (fun hc => ?_)
  refine lv_aload_n hx hb dX8_copyRow_7 rfl (lv_at hl 0 rfl) ?_
  refine lv_iconst (v := (0 : Int32)) hx hb dX8_copyRow_8 (by decide) ?_
  refine lv_aload_n hx hb dX8_copyRow_9 rfl (lv_at hl 1 rfl) ?_
  refine lv_iconst (v := (0 : Int32)) hx hb dX8_copyRow_10 (by decide) ?_
  refine lv_aload_n hx hb dX8_copyRow_11 rfl (lv_at hl 0 rfl) ?_
  refine x_alen hx hb B 8 (v := (28 : Int32)) (by decide) (fun _ => rfl) rfl (by decide) dX8_copyRow_12 ?_
  obtain ⟨hg, hf⟩ := zg_some hf
  obtain ⟨g1, g2, g3, g4, g5⟩ := zcp_ok hg
  refine x_copyi hx hb (hml.trans hl.1.symm) hts hown (index := 415) (by decide +kernel) (by decide +kernel) (by decide +kernel) (by decide +kernel) B 8 32 (by decide) (by decide) (by decide) (fun _ => rfl) (fun _ => rfl) g1 g2 g3 g4 g5 (Nat.le_of_ble_eq_true rfl) (Nat.le_of_ble_eq_true rfl) dX8_copyRow_13 (fun H locs B => ?_)
  refine W.widen (k := 0) (n := 0) (Nat.le_of_ble_eq_true rfl) (Nat.le_of_ble_eq_true rfl) ?_
  exact x_vret hx hb hr hlocks B hf dX8_copyRow_16
def rm_X8_copyRow_9_33 : Room := { frames := 1, cells := 0, slots := 0, locals := 200 }
set_option maxHeartbeats 4000000 in
set_option maxRecDepth 100000 in
theorem c_X8_copyRow_9_33 (l : Launch) {G : zG} {ad : Nat → Nat} {σ σ' : zs} {r : Int32} (hf : f_X8_copyRow_9_33 σ  = some (r, σ')) : xMv l yX8_copyRow wsX8_copyRow rm_X8_copyRow_9_33 G ad σ [.ref (ad 9), .ref (ad 33)] σ' := by
  intro sz nb a g hs
  refine Met.ofW (cc := cX8_copyRow) (maxL := 2) (ret := none) (by decide) rfl ?_
  intro p e s m args below meth c s₁ B hml hv
  obtain ⟨rfl, hsz, hv⟩ := hv
  have hx := B.exec
  have hb := B.bytes
  have hr := B.returns
  have hts := atoms_spec (ws := wsX8_copyRow) B.pre
  have hown : s.vm.findClass RX8 = some m.cls := findClass_of_methodNamed B.named
  have hlocks := B.notSynchronized
  subst hsz
  have B := xB_start hs hv
  have hl := lv_entry ([.ref (ad 9), .ref (ad 33)]) (n := 2) (Nat.le_of_ble_eq_true rfl)
  rw [lg_entry_eq]
  generalize (lg_sl ([.ref (ad 9), .ref (ad 33)]) ++ List.replicate (2 - (lg_sl ([.ref (ad 9), .ref (ad 33)])).length) Slot.unset).toArray = ls at hl ⊢
  have hl : lv_has ls 2 [(0, .ref (ad 9)), (1, .ref (ad 33))] := hl
  generalize hAe : xA ad a s.heap.size = A at B ⊢
  unfold f_X8_copyRow_9_33 at hf
  refine lv_aload_n hx hb dX8_copyRow_0 rfl (lv_at hl 0 rfl) ?_
  refine x_alen hx hb B 9 (v := (28 : Int32)) (by decide) (fun _ => rfl) rfl (by decide) dX8_copyRow_1 ?_
  refine lv_aload_n hx hb dX8_copyRow_2 rfl (lv_at hl 1 rfl) ?_
  refine x_alen hx hb B 33 (v := (28 : Int32)) (by decide) (fun _ => rfl) rfl (by decide) dX8_copyRow_3 ?_
  refine lv_icmp_ne (tgt := 16) hx hb dX8_copyRow_4 (by decide) (fun hc => absurd (by decide) hc) (fun hc => ?_)
  refine lv_aload_n hx hb dX8_copyRow_7 rfl (lv_at hl 0 rfl) ?_
  refine lv_iconst (v := (0 : Int32)) hx hb dX8_copyRow_8 (by decide) ?_
  refine lv_aload_n hx hb dX8_copyRow_9 rfl (lv_at hl 1 rfl) ?_
  refine lv_iconst (v := (0 : Int32)) hx hb dX8_copyRow_10 (by decide) ?_
  refine lv_aload_n hx hb dX8_copyRow_11 rfl (lv_at hl 0 rfl) ?_
  refine x_alen hx hb B 9 (v := (28 : Int32)) (by decide) (fun _ => rfl) rfl (by decide) dX8_copyRow_12 ?_
  obtain ⟨hg, hf⟩ := zg_some hf
  obtain ⟨g1, g2, g3, g4, g5⟩ := zcp_ok hg
  refine x_copyi hx hb (hml.trans hl.1.symm) hts hown (index := 415) (by decide +kernel) (by decide +kernel) (by decide +kernel) (by decide +kernel) B 9 33 (by decide) (by decide) (by decide) (fun _ => rfl) (fun _ => rfl) g1 g2 g3 g4 g5 (Nat.le_of_ble_eq_true rfl) (Nat.le_of_ble_eq_true rfl) dX8_copyRow_13 (fun H locs B => ?_)
  refine W.widen (k := 0) (n := 0) (Nat.le_of_ble_eq_true rfl) (Nat.le_of_ble_eq_true rfl) ?_
  exact x_vret hx hb hr hlocks B hf dX8_copyRow_16
def rm_X8_copyRow_10_34 : Room := { frames := 1, cells := 0, slots := 0, locals := 200 }
set_option maxHeartbeats 4000000 in
set_option maxRecDepth 100000 in
theorem c_X8_copyRow_10_34 (l : Launch) {G : zG} {ad : Nat → Nat} {σ σ' : zs} {r : Int32} (hf : f_X8_copyRow_10_34 σ  = some (r, σ')) : xMv l yX8_copyRow wsX8_copyRow rm_X8_copyRow_10_34 G ad σ [.ref (ad 10), .ref (ad 34)] σ' := by
  intro sz nb a g hs
  refine Met.ofW (cc := cX8_copyRow) (maxL := 2) (ret := none) (by decide) rfl ?_
  intro p e s m args below meth c s₁ B hml hv
  obtain ⟨rfl, hsz, hv⟩ := hv
  have hx := B.exec
  have hb := B.bytes
  have hr := B.returns
  have hts := atoms_spec (ws := wsX8_copyRow) B.pre
  have hown : s.vm.findClass RX8 = some m.cls := findClass_of_methodNamed B.named
  have hlocks := B.notSynchronized
  subst hsz
  have B := xB_start hs hv
  have hl := lv_entry ([.ref (ad 10), .ref (ad 34)]) (n := 2) (Nat.le_of_ble_eq_true rfl)
  rw [lg_entry_eq]
  generalize (lg_sl ([.ref (ad 10), .ref (ad 34)]) ++ List.replicate (2 - (lg_sl ([.ref (ad 10), .ref (ad 34)])).length) Slot.unset).toArray = ls at hl ⊢
  have hl : lv_has ls 2 [(0, .ref (ad 10)), (1, .ref (ad 34))] := hl
  generalize hAe : xA ad a s.heap.size = A at B ⊢
  unfold f_X8_copyRow_10_34 at hf
  refine lv_aload_n hx hb dX8_copyRow_0 rfl (lv_at hl 0 rfl) ?_
  refine x_alen hx hb B 10 (v := (112 : Int32)) (by decide) (fun _ => rfl) rfl (by decide) dX8_copyRow_1 ?_
  refine lv_aload_n hx hb dX8_copyRow_2 rfl (lv_at hl 1 rfl) ?_
  refine x_alen hx hb B 34 (v := (112 : Int32)) (by decide) (fun _ => rfl) rfl (by decide) dX8_copyRow_3 ?_
  refine lv_icmp_ne (tgt := 16) hx hb dX8_copyRow_4 (by decide) (fun hc => absurd (by decide) hc) (fun hc => ?_)
  refine lv_aload_n hx hb dX8_copyRow_7 rfl (lv_at hl 0 rfl) ?_
  refine lv_iconst (v := (0 : Int32)) hx hb dX8_copyRow_8 (by decide) ?_
  refine lv_aload_n hx hb dX8_copyRow_9 rfl (lv_at hl 1 rfl) ?_
  refine lv_iconst (v := (0 : Int32)) hx hb dX8_copyRow_10 (by decide) ?_
  refine lv_aload_n hx hb dX8_copyRow_11 rfl (lv_at hl 0 rfl) ?_
  refine x_alen hx hb B 10 (v := (112 : Int32)) (by decide) (fun _ => rfl) rfl (by decide) dX8_copyRow_12 ?_
  obtain ⟨hg, hf⟩ := zg_some hf
  obtain ⟨g1, g2, g3, g4, g5⟩ := zcp_ok hg
  refine x_copyi hx hb (hml.trans hl.1.symm) hts hown (index := 415) (by decide +kernel) (by decide +kernel) (by decide +kernel) (by decide +kernel) B 10 34 (by decide) (by decide) (by decide) (fun _ => rfl) (fun _ => rfl) g1 g2 g3 g4 g5 (Nat.le_of_ble_eq_true rfl) (Nat.le_of_ble_eq_true rfl) dX8_copyRow_13 (fun H locs B => ?_)
  refine W.widen (k := 0) (n := 0) (Nat.le_of_ble_eq_true rfl) (Nat.le_of_ble_eq_true rfl) ?_
  exact x_vret hx hb hr hlocks B hf dX8_copyRow_16
def rm_X8_copyRow_11_35 : Room := { frames := 1, cells := 0, slots := 0, locals := 200 }
set_option maxHeartbeats 4000000 in
set_option maxRecDepth 100000 in
theorem c_X8_copyRow_11_35 (l : Launch) {G : zG} {ad : Nat → Nat} {σ σ' : zs} {r : Int32} (hf : f_X8_copyRow_11_35 σ  = some (r, σ')) : xMv l yX8_copyRow wsX8_copyRow rm_X8_copyRow_11_35 G ad σ [.ref (ad 11), .ref (ad 35)] σ' := by
  intro sz nb a g hs
  refine Met.ofW (cc := cX8_copyRow) (maxL := 2) (ret := none) (by decide) rfl ?_
  intro p e s m args below meth c s₁ B hml hv
  obtain ⟨rfl, hsz, hv⟩ := hv
  have hx := B.exec
  have hb := B.bytes
  have hr := B.returns
  have hts := atoms_spec (ws := wsX8_copyRow) B.pre
  have hown : s.vm.findClass RX8 = some m.cls := findClass_of_methodNamed B.named
  have hlocks := B.notSynchronized
  subst hsz
  have B := xB_start hs hv
  have hl := lv_entry ([.ref (ad 11), .ref (ad 35)]) (n := 2) (Nat.le_of_ble_eq_true rfl)
  rw [lg_entry_eq]
  generalize (lg_sl ([.ref (ad 11), .ref (ad 35)]) ++ List.replicate (2 - (lg_sl ([.ref (ad 11), .ref (ad 35)])).length) Slot.unset).toArray = ls at hl ⊢
  have hl : lv_has ls 2 [(0, .ref (ad 11)), (1, .ref (ad 35))] := hl
  generalize hAe : xA ad a s.heap.size = A at B ⊢
  unfold f_X8_copyRow_11_35 at hf
  refine lv_aload_n hx hb dX8_copyRow_0 rfl (lv_at hl 0 rfl) ?_
  refine x_alen hx hb B 11 (v := (112 : Int32)) (by decide) (fun _ => rfl) rfl (by decide) dX8_copyRow_1 ?_
  refine lv_aload_n hx hb dX8_copyRow_2 rfl (lv_at hl 1 rfl) ?_
  refine x_alen hx hb B 35 (v := (112 : Int32)) (by decide) (fun _ => rfl) rfl (by decide) dX8_copyRow_3 ?_
  refine lv_icmp_ne (tgt := 16) hx hb dX8_copyRow_4 (by decide) (fun hc => absurd (by decide) hc) (fun hc => ?_)
  refine lv_aload_n hx hb dX8_copyRow_7 rfl (lv_at hl 0 rfl) ?_
  refine lv_iconst (v := (0 : Int32)) hx hb dX8_copyRow_8 (by decide) ?_
  refine lv_aload_n hx hb dX8_copyRow_9 rfl (lv_at hl 1 rfl) ?_
  refine lv_iconst (v := (0 : Int32)) hx hb dX8_copyRow_10 (by decide) ?_
  refine lv_aload_n hx hb dX8_copyRow_11 rfl (lv_at hl 0 rfl) ?_
  refine x_alen hx hb B 11 (v := (112 : Int32)) (by decide) (fun _ => rfl) rfl (by decide) dX8_copyRow_12 ?_
  obtain ⟨hg, hf⟩ := zg_some hf
  obtain ⟨g1, g2, g3, g4, g5⟩ := zcp_ok hg
  refine x_copyi hx hb (hml.trans hl.1.symm) hts hown (index := 415) (by decide +kernel) (by decide +kernel) (by decide +kernel) (by decide +kernel) B 11 35 (by decide) (by decide) (by decide) (fun _ => rfl) (fun _ => rfl) g1 g2 g3 g4 g5 (Nat.le_of_ble_eq_true rfl) (Nat.le_of_ble_eq_true rfl) dX8_copyRow_13 (fun H locs B => ?_)
  refine W.widen (k := 0) (n := 0) (Nat.le_of_ble_eq_true rfl) (Nat.le_of_ble_eq_true rfl) ?_
  exact x_vret hx hb hr hlocks B hf dX8_copyRow_16
def rm_X8_copyRow_12_36 : Room := { frames := 1, cells := 0, slots := 0, locals := 200 }
set_option maxHeartbeats 4000000 in
set_option maxRecDepth 100000 in
theorem c_X8_copyRow_12_36 (l : Launch) {G : zG} {ad : Nat → Nat} {σ σ' : zs} {r : Int32} (hf : f_X8_copyRow_12_36 σ  = some (r, σ')) : xMv l yX8_copyRow wsX8_copyRow rm_X8_copyRow_12_36 G ad σ [.ref (ad 12), .ref (ad 36)] σ' := by
  intro sz nb a g hs
  refine Met.ofW (cc := cX8_copyRow) (maxL := 2) (ret := none) (by decide) rfl ?_
  intro p e s m args below meth c s₁ B hml hv
  obtain ⟨rfl, hsz, hv⟩ := hv
  have hx := B.exec
  have hb := B.bytes
  have hr := B.returns
  have hts := atoms_spec (ws := wsX8_copyRow) B.pre
  have hown : s.vm.findClass RX8 = some m.cls := findClass_of_methodNamed B.named
  have hlocks := B.notSynchronized
  subst hsz
  have B := xB_start hs hv
  have hl := lv_entry ([.ref (ad 12), .ref (ad 36)]) (n := 2) (Nat.le_of_ble_eq_true rfl)
  rw [lg_entry_eq]
  generalize (lg_sl ([.ref (ad 12), .ref (ad 36)]) ++ List.replicate (2 - (lg_sl ([.ref (ad 12), .ref (ad 36)])).length) Slot.unset).toArray = ls at hl ⊢
  have hl : lv_has ls 2 [(0, .ref (ad 12)), (1, .ref (ad 36))] := hl
  generalize hAe : xA ad a s.heap.size = A at B ⊢
  unfold f_X8_copyRow_12_36 at hf
  refine lv_aload_n hx hb dX8_copyRow_0 rfl (lv_at hl 0 rfl) ?_
  refine x_alen hx hb B 12 (v := (112 : Int32)) (by decide) (fun _ => rfl) rfl (by decide) dX8_copyRow_1 ?_
  refine lv_aload_n hx hb dX8_copyRow_2 rfl (lv_at hl 1 rfl) ?_
  refine x_alen hx hb B 36 (v := (112 : Int32)) (by decide) (fun _ => rfl) rfl (by decide) dX8_copyRow_3 ?_
  refine lv_icmp_ne (tgt := 16) hx hb dX8_copyRow_4 (by decide) (fun hc => absurd (by decide) hc) (fun hc => ?_)
  refine lv_aload_n hx hb dX8_copyRow_7 rfl (lv_at hl 0 rfl) ?_
  refine lv_iconst (v := (0 : Int32)) hx hb dX8_copyRow_8 (by decide) ?_
  refine lv_aload_n hx hb dX8_copyRow_9 rfl (lv_at hl 1 rfl) ?_
  refine lv_iconst (v := (0 : Int32)) hx hb dX8_copyRow_10 (by decide) ?_
  refine lv_aload_n hx hb dX8_copyRow_11 rfl (lv_at hl 0 rfl) ?_
  refine x_alen hx hb B 12 (v := (112 : Int32)) (by decide) (fun _ => rfl) rfl (by decide) dX8_copyRow_12 ?_
  obtain ⟨hg, hf⟩ := zg_some hf
  obtain ⟨g1, g2, g3, g4, g5⟩ := zcp_ok hg
  refine x_copyi hx hb (hml.trans hl.1.symm) hts hown (index := 415) (by decide +kernel) (by decide +kernel) (by decide +kernel) (by decide +kernel) B 12 36 (by decide) (by decide) (by decide) (fun _ => rfl) (fun _ => rfl) g1 g2 g3 g4 g5 (Nat.le_of_ble_eq_true rfl) (Nat.le_of_ble_eq_true rfl) dX8_copyRow_13 (fun H locs B => ?_)
  refine W.widen (k := 0) (n := 0) (Nat.le_of_ble_eq_true rfl) (Nat.le_of_ble_eq_true rfl) ?_
  exact x_vret hx hb hr hlocks B hf dX8_copyRow_16
theorem dX7_copyFrom_0 : decode cX7_copyFrom 0 = .ok (.aload_n 0, 1) := by decide +kernel
theorem dX7_copyFrom_1 : decode cX7_copyFrom 1 = .ok (.aload_n 1, 1) := by decide +kernel
theorem dX7_copyFrom_2 : decode cX7_copyFrom 2 = .ok (.getfield 49, 3) := by decide +kernel
theorem dX7_copyFrom_5 : decode cX7_copyFrom 5 = .ok (.putfield 49, 3) := by decide +kernel
theorem dX7_copyFrom_8 : decode cX7_copyFrom 8 = .ok (.aload_n 1, 1) := by decide +kernel
theorem dX7_copyFrom_9 : decode cX7_copyFrom 9 = .ok (.getfield 9, 3) := by decide +kernel
theorem dX7_copyFrom_12 : decode cX7_copyFrom 12 = .ok (.aload_n 0, 1) := by decide +kernel
theorem dX7_copyFrom_13 : decode cX7_copyFrom 13 = .ok (.getfield 9, 3) := by decide +kernel
theorem dX7_copyFrom_16 : decode cX7_copyFrom 16 = .ok (.invokestatic 53, 3) := by decide +kernel
theorem dX7_copyFrom_19 : decode cX7_copyFrom 19 = .ok (.aload_n 1, 1) := by decide +kernel
theorem dX7_copyFrom_20 : decode cX7_copyFrom 20 = .ok (.getfield 15, 3) := by decide +kernel
theorem dX7_copyFrom_23 : decode cX7_copyFrom 23 = .ok (.aload_n 0, 1) := by decide +kernel
theorem dX7_copyFrom_24 : decode cX7_copyFrom 24 = .ok (.getfield 15, 3) := by decide +kernel
theorem dX7_copyFrom_27 : decode cX7_copyFrom 27 = .ok (.invokestatic 53, 3) := by decide +kernel
theorem dX7_copyFrom_30 : decode cX7_copyFrom 30 = .ok (.aload_n 1, 1) := by decide +kernel
theorem dX7_copyFrom_31 : decode cX7_copyFrom 31 = .ok (.getfield 18, 3) := by decide +kernel
theorem dX7_copyFrom_34 : decode cX7_copyFrom 34 = .ok (.aload_n 0, 1) := by decide +kernel
theorem dX7_copyFrom_35 : decode cX7_copyFrom 35 = .ok (.getfield 18, 3) := by decide +kernel
theorem dX7_copyFrom_38 : decode cX7_copyFrom 38 = .ok (.invokestatic 53, 3) := by decide +kernel
theorem dX7_copyFrom_41 : decode cX7_copyFrom 41 = .ok (.aload_n 1, 1) := by decide +kernel
theorem dX7_copyFrom_42 : decode cX7_copyFrom 42 = .ok (.getfield 21, 3) := by decide +kernel
theorem dX7_copyFrom_45 : decode cX7_copyFrom 45 = .ok (.aload_n 0, 1) := by decide +kernel
theorem dX7_copyFrom_46 : decode cX7_copyFrom 46 = .ok (.getfield 21, 3) := by decide +kernel
theorem dX7_copyFrom_49 : decode cX7_copyFrom 49 = .ok (.invokestatic 53, 3) := by decide +kernel
theorem dX7_copyFrom_52 : decode cX7_copyFrom 52 = .ok (.aload_n 1, 1) := by decide +kernel
theorem dX7_copyFrom_53 : decode cX7_copyFrom 53 = .ok (.getfield 24, 3) := by decide +kernel
theorem dX7_copyFrom_56 : decode cX7_copyFrom 56 = .ok (.aload_n 0, 1) := by decide +kernel
theorem dX7_copyFrom_57 : decode cX7_copyFrom 57 = .ok (.getfield 24, 3) := by decide +kernel
theorem dX7_copyFrom_60 : decode cX7_copyFrom 60 = .ok (.invokestatic 53, 3) := by decide +kernel
theorem dX7_copyFrom_63 : decode cX7_copyFrom 63 = .ok (.aload_n 1, 1) := by decide +kernel
theorem dX7_copyFrom_64 : decode cX7_copyFrom 64 = .ok (.getfield 27, 3) := by decide +kernel
theorem dX7_copyFrom_67 : decode cX7_copyFrom 67 = .ok (.aload_n 0, 1) := by decide +kernel
theorem dX7_copyFrom_68 : decode cX7_copyFrom 68 = .ok (.getfield 27, 3) := by decide +kernel
theorem dX7_copyFrom_71 : decode cX7_copyFrom 71 = .ok (.invokestatic 53, 3) := by decide +kernel
theorem dX7_copyFrom_74 : decode cX7_copyFrom 74 = .ok (.aload_n 1, 1) := by decide +kernel
theorem dX7_copyFrom_75 : decode cX7_copyFrom 75 = .ok (.getfield 30, 3) := by decide +kernel
theorem dX7_copyFrom_78 : decode cX7_copyFrom 78 = .ok (.aload_n 0, 1) := by decide +kernel
theorem dX7_copyFrom_79 : decode cX7_copyFrom 79 = .ok (.getfield 30, 3) := by decide +kernel
theorem dX7_copyFrom_82 : decode cX7_copyFrom 82 = .ok (.invokestatic 53, 3) := by decide +kernel
theorem dX7_copyFrom_85 : decode cX7_copyFrom 85 = .ok (.aload_n 1, 1) := by decide +kernel
theorem dX7_copyFrom_86 : decode cX7_copyFrom 86 = .ok (.getfield 33, 3) := by decide +kernel
theorem dX7_copyFrom_89 : decode cX7_copyFrom 89 = .ok (.aload_n 0, 1) := by decide +kernel
theorem dX7_copyFrom_90 : decode cX7_copyFrom 90 = .ok (.getfield 33, 3) := by decide +kernel
theorem dX7_copyFrom_93 : decode cX7_copyFrom 93 = .ok (.invokestatic 53, 3) := by decide +kernel
theorem dX7_copyFrom_96 : decode cX7_copyFrom 96 = .ok (.aload_n 1, 1) := by decide +kernel
theorem dX7_copyFrom_97 : decode cX7_copyFrom 97 = .ok (.getfield 36, 3) := by decide +kernel
theorem dX7_copyFrom_100 : decode cX7_copyFrom 100 = .ok (.aload_n 0, 1) := by decide +kernel
theorem dX7_copyFrom_101 : decode cX7_copyFrom 101 = .ok (.getfield 36, 3) := by decide +kernel
theorem dX7_copyFrom_104 : decode cX7_copyFrom 104 = .ok (.invokestatic 53, 3) := by decide +kernel
theorem dX7_copyFrom_107 : decode cX7_copyFrom 107 = .ok (.aload_n 1, 1) := by decide +kernel
theorem dX7_copyFrom_108 : decode cX7_copyFrom 108 = .ok (.getfield 39, 3) := by decide +kernel
theorem dX7_copyFrom_111 : decode cX7_copyFrom 111 = .ok (.aload_n 0, 1) := by decide +kernel
theorem dX7_copyFrom_112 : decode cX7_copyFrom 112 = .ok (.getfield 39, 3) := by decide +kernel
theorem dX7_copyFrom_115 : decode cX7_copyFrom 115 = .ok (.invokestatic 53, 3) := by decide +kernel
theorem dX7_copyFrom_118 : decode cX7_copyFrom 118 = .ok (.return_, 1) := by decide +kernel
set_option maxRecDepth 20000 in
theorem ggX7_copyFrom_X8_copyRow : GoodIn wsX7_copyFrom wsX8_copyRow := goodIn_r _ [14, 15, 16, 17, 18] (by decide +kernel) (by decide +kernel)
set_option maxRecDepth 20000 in
theorem gX7_copyFrom_X8_copyRow_n53 : GoodIn wsX7_copyFrom (wsX8_copyRow) := ggX7_copyFrom_X8_copyRow
def rm_X7_copyFrom_t26_2 : Room := { frames := 2, cells := 0, slots := 0, locals := 221 }
set_option maxHeartbeats 4000000 in
set_option maxRecDepth 100000 in
theorem c_X7_copyFrom_t26_2 (l : Launch) {G : zG} {ad : Nat → Nat} {σ σ' : zs} {r : Int32} (hf : f_X7_copyFrom_t26_2 σ  = some (r, σ')) : xMv l yX7_copyFrom wsX7_copyFrom rm_X7_copyFrom_t26_2 G ad σ [.ref (ad 26), .ref (ad 2)] σ' := by
  intro sz nb a g hs
  refine Met.ofW (cc := cX7_copyFrom) (maxL := 2) (ret := none) (by decide) rfl ?_
  intro p e s m args below meth c s₁ B hml hv
  obtain ⟨rfl, hsz, hv⟩ := hv
  have hx := B.exec
  have hb := B.bytes
  have hr := B.returns
  have hts := atoms_spec (ws := wsX7_copyFrom) B.pre
  have hown : s.vm.findClass RX7 = some m.cls := findClass_of_methodNamed B.named
  have hlocks := B.notSynchronized
  subst hsz
  have B := xB_start hs hv
  have hinRX7 : ∀ w ∈ wsX70, w ∈ wsX7_copyFrom := by decide +kernel
  have hl := lv_entry ([.ref (ad 26), .ref (ad 2)]) (n := 2) (Nat.le_of_ble_eq_true rfl)
  rw [lg_entry_eq]
  generalize (lg_sl ([.ref (ad 26), .ref (ad 2)]) ++ List.replicate (2 - (lg_sl ([.ref (ad 26), .ref (ad 2)])).length) Slot.unset).toArray = ls at hl ⊢
  have hl : lv_has ls 2 [(0, .ref (ad 26)), (1, .ref (ad 2))] := hl
  generalize hAe : xA ad a s.heap.size = A at B ⊢
  unfold f_X7_copyFrom_t26_2 at hf
  refine lv_aload_n hx hb dX7_copyFrom_0 rfl (lv_at hl 0 rfl) ?_
  refine lv_aload_n hx hb dX7_copyFrom_1 rfl (lv_at hl 1 rfl) ?_
  refine x_geti hx hb hts hinRX7 hown B 2 0 (by decide) (fun _ => rfl) rfl rfl (by decide) (by decide +kernel) rfl dX7_copyFrom_2 ?_
  refine x_puti hx hb hts hinRX7 hown tyX7 tyX7_ok nmX7 B 26 0 (by decide) (by decide) (fun _ => rfl) rfl rfl (by decide) (by decide +kernel) rfl rfl rfl rfl dX7_copyFrom_5 (fun H locs B => ?_)
  refine lv_aload_n hx hb dX7_copyFrom_8 rfl (lv_at hl 1 rfl) ?_
  refine x_getr hx hb hts hinRX7 hown B 2 1 3 (by decide) (by decide) (fun _ => rfl) rfl rfl (by decide) (by decide +kernel) rfl dX7_copyFrom_9 ?_
  refine lv_aload_n hx hb dX7_copyFrom_12 rfl (lv_at hl 0 rfl) ?_
  refine x_getr hx hb hts hinRX7 hown B 26 1 27 (by decide) (by decide) (fun _ => rfl) rfl rfl (by decide) (by decide +kernel) rfl dX7_copyFrom_13 ?_
  obtain ⟨r2, σ3, hu1, hf⟩ := zb_some hf
  refine x_v B (fun nb a g hs Bz => va_runSN (As := [.ref (ad 3), .ref (ad 27)]) (rest := []) ⟨hx, hb, hml, hown, hts⟩ (c_X8_copyRow_3_27 l hu1 _ nb a g hs) ⟨va_cnB 2 hts gX7_copyFrom_X8_copyRow_n53 rfl rfl rfl (x_nest B (q := (RX7, 53, yX8_copyRow)) (by decide +kernel)) (hts (.initialized RX8) (by decide +kernel)) (by decide +kernel) ⟨Nat.le_of_ble_eq_true rfl, Nat.le_of_ble_eq_true rfl⟩, hts (.static yX8_copyRow) (by decide +kernel), trivial⟩ (z_preS Bz) rfl rfl hl.1 rfl (lv_room (Nat.le_of_ble_eq_true rfl)) dX7_copyFrom_16 ⟨Nat.le_of_ble_eq_true rfl, Nat.le_of_ble_eq_true rfl⟩) (fun H locs B => ?_)
  refine lv_aload_n hx hb dX7_copyFrom_19 rfl (lv_at hl 1 rfl) ?_
  refine x_getr hx hb hts hinRX7 hown B 2 2 4 (by decide) (by decide) (fun _ => rfl) rfl rfl (by decide) (by decide +kernel) rfl dX7_copyFrom_20 ?_
  refine lv_aload_n hx hb dX7_copyFrom_23 rfl (lv_at hl 0 rfl) ?_
  refine x_getr hx hb hts hinRX7 hown B 26 2 28 (by decide) (by decide) (fun _ => rfl) rfl rfl (by decide) (by decide +kernel) rfl dX7_copyFrom_24 ?_
  obtain ⟨r5, σ6, hu4, hf⟩ := zb_some hf
  refine x_v B (fun nb a g hs Bz => va_runSN (As := [.ref (ad 4), .ref (ad 28)]) (rest := []) ⟨hx, hb, hml, hown, hts⟩ (c_X8_copyRow_4_28 l hu4 _ nb a g hs) ⟨va_cnB 2 hts gX7_copyFrom_X8_copyRow_n53 rfl rfl rfl (x_nest B (q := (RX7, 53, yX8_copyRow)) (by decide +kernel)) (hts (.initialized RX8) (by decide +kernel)) (by decide +kernel) ⟨Nat.le_of_ble_eq_true rfl, Nat.le_of_ble_eq_true rfl⟩, hts (.static yX8_copyRow) (by decide +kernel), trivial⟩ (z_preS Bz) rfl rfl hl.1 rfl (lv_room (Nat.le_of_ble_eq_true rfl)) dX7_copyFrom_27 ⟨Nat.le_of_ble_eq_true rfl, Nat.le_of_ble_eq_true rfl⟩) (fun H locs B => ?_)
  refine lv_aload_n hx hb dX7_copyFrom_30 rfl (lv_at hl 1 rfl) ?_
  refine x_getr hx hb hts hinRX7 hown B 2 3 5 (by decide) (by decide) (fun _ => rfl) rfl rfl (by decide) (by decide +kernel) rfl dX7_copyFrom_31 ?_
  refine lv_aload_n hx hb dX7_copyFrom_34 rfl (lv_at hl 0 rfl) ?_
  refine x_getr hx hb hts hinRX7 hown B 26 3 29 (by decide) (by decide) (fun _ => rfl) rfl rfl (by decide) (by decide +kernel) rfl dX7_copyFrom_35 ?_
  obtain ⟨r8, σ9, hu7, hf⟩ := zb_some hf
  refine x_v B (fun nb a g hs Bz => va_runSN (As := [.ref (ad 5), .ref (ad 29)]) (rest := []) ⟨hx, hb, hml, hown, hts⟩ (c_X8_copyRow_5_29 l hu7 _ nb a g hs) ⟨va_cnB 2 hts gX7_copyFrom_X8_copyRow_n53 rfl rfl rfl (x_nest B (q := (RX7, 53, yX8_copyRow)) (by decide +kernel)) (hts (.initialized RX8) (by decide +kernel)) (by decide +kernel) ⟨Nat.le_of_ble_eq_true rfl, Nat.le_of_ble_eq_true rfl⟩, hts (.static yX8_copyRow) (by decide +kernel), trivial⟩ (z_preS Bz) rfl rfl hl.1 rfl (lv_room (Nat.le_of_ble_eq_true rfl)) dX7_copyFrom_38 ⟨Nat.le_of_ble_eq_true rfl, Nat.le_of_ble_eq_true rfl⟩) (fun H locs B => ?_)
  refine lv_aload_n hx hb dX7_copyFrom_41 rfl (lv_at hl 1 rfl) ?_
  refine x_getr hx hb hts hinRX7 hown B 2 4 6 (by decide) (by decide) (fun _ => rfl) rfl rfl (by decide) (by decide +kernel) rfl dX7_copyFrom_42 ?_
  refine lv_aload_n hx hb dX7_copyFrom_45 rfl (lv_at hl 0 rfl) ?_
  refine x_getr hx hb hts hinRX7 hown B 26 4 30 (by decide) (by decide) (fun _ => rfl) rfl rfl (by decide) (by decide +kernel) rfl dX7_copyFrom_46 ?_
  obtain ⟨r11, σ12, hu10, hf⟩ := zb_some hf
  refine x_v B (fun nb a g hs Bz => va_runSN (As := [.ref (ad 6), .ref (ad 30)]) (rest := []) ⟨hx, hb, hml, hown, hts⟩ (c_X8_copyRow_6_30 l hu10 _ nb a g hs) ⟨va_cnB 2 hts gX7_copyFrom_X8_copyRow_n53 rfl rfl rfl (x_nest B (q := (RX7, 53, yX8_copyRow)) (by decide +kernel)) (hts (.initialized RX8) (by decide +kernel)) (by decide +kernel) ⟨Nat.le_of_ble_eq_true rfl, Nat.le_of_ble_eq_true rfl⟩, hts (.static yX8_copyRow) (by decide +kernel), trivial⟩ (z_preS Bz) rfl rfl hl.1 rfl (lv_room (Nat.le_of_ble_eq_true rfl)) dX7_copyFrom_49 ⟨Nat.le_of_ble_eq_true rfl, Nat.le_of_ble_eq_true rfl⟩) (fun H locs B => ?_)
  refine lv_aload_n hx hb dX7_copyFrom_52 rfl (lv_at hl 1 rfl) ?_
  refine x_getr hx hb hts hinRX7 hown B 2 5 7 (by decide) (by decide) (fun _ => rfl) rfl rfl (by decide) (by decide +kernel) rfl dX7_copyFrom_53 ?_
  refine lv_aload_n hx hb dX7_copyFrom_56 rfl (lv_at hl 0 rfl) ?_
  refine x_getr hx hb hts hinRX7 hown B 26 5 31 (by decide) (by decide) (fun _ => rfl) rfl rfl (by decide) (by decide +kernel) rfl dX7_copyFrom_57 ?_
  obtain ⟨r14, σ15, hu13, hf⟩ := zb_some hf
  refine x_v B (fun nb a g hs Bz => va_runSN (As := [.ref (ad 7), .ref (ad 31)]) (rest := []) ⟨hx, hb, hml, hown, hts⟩ (c_X8_copyRow_7_31 l hu13 _ nb a g hs) ⟨va_cnB 2 hts gX7_copyFrom_X8_copyRow_n53 rfl rfl rfl (x_nest B (q := (RX7, 53, yX8_copyRow)) (by decide +kernel)) (hts (.initialized RX8) (by decide +kernel)) (by decide +kernel) ⟨Nat.le_of_ble_eq_true rfl, Nat.le_of_ble_eq_true rfl⟩, hts (.static yX8_copyRow) (by decide +kernel), trivial⟩ (z_preS Bz) rfl rfl hl.1 rfl (lv_room (Nat.le_of_ble_eq_true rfl)) dX7_copyFrom_60 ⟨Nat.le_of_ble_eq_true rfl, Nat.le_of_ble_eq_true rfl⟩) (fun H locs B => ?_)
  refine lv_aload_n hx hb dX7_copyFrom_63 rfl (lv_at hl 1 rfl) ?_
  refine x_getr hx hb hts hinRX7 hown B 2 6 8 (by decide) (by decide) (fun _ => rfl) rfl rfl (by decide) (by decide +kernel) rfl dX7_copyFrom_64 ?_
  refine lv_aload_n hx hb dX7_copyFrom_67 rfl (lv_at hl 0 rfl) ?_
  refine x_getr hx hb hts hinRX7 hown B 26 6 32 (by decide) (by decide) (fun _ => rfl) rfl rfl (by decide) (by decide +kernel) rfl dX7_copyFrom_68 ?_
  obtain ⟨r17, σ18, hu16, hf⟩ := zb_some hf
  refine x_v B (fun nb a g hs Bz => va_runSN (As := [.ref (ad 8), .ref (ad 32)]) (rest := []) ⟨hx, hb, hml, hown, hts⟩ (c_X8_copyRow_8_32 l hu16 _ nb a g hs) ⟨va_cnB 2 hts gX7_copyFrom_X8_copyRow_n53 rfl rfl rfl (x_nest B (q := (RX7, 53, yX8_copyRow)) (by decide +kernel)) (hts (.initialized RX8) (by decide +kernel)) (by decide +kernel) ⟨Nat.le_of_ble_eq_true rfl, Nat.le_of_ble_eq_true rfl⟩, hts (.static yX8_copyRow) (by decide +kernel), trivial⟩ (z_preS Bz) rfl rfl hl.1 rfl (lv_room (Nat.le_of_ble_eq_true rfl)) dX7_copyFrom_71 ⟨Nat.le_of_ble_eq_true rfl, Nat.le_of_ble_eq_true rfl⟩) (fun H locs B => ?_)
  refine lv_aload_n hx hb dX7_copyFrom_74 rfl (lv_at hl 1 rfl) ?_
  refine x_getr hx hb hts hinRX7 hown B 2 7 9 (by decide) (by decide) (fun _ => rfl) rfl rfl (by decide) (by decide +kernel) rfl dX7_copyFrom_75 ?_
  refine lv_aload_n hx hb dX7_copyFrom_78 rfl (lv_at hl 0 rfl) ?_
  refine x_getr hx hb hts hinRX7 hown B 26 7 33 (by decide) (by decide) (fun _ => rfl) rfl rfl (by decide) (by decide +kernel) rfl dX7_copyFrom_79 ?_
  obtain ⟨r20, σ21, hu19, hf⟩ := zb_some hf
  refine x_v B (fun nb a g hs Bz => va_runSN (As := [.ref (ad 9), .ref (ad 33)]) (rest := []) ⟨hx, hb, hml, hown, hts⟩ (c_X8_copyRow_9_33 l hu19 _ nb a g hs) ⟨va_cnB 2 hts gX7_copyFrom_X8_copyRow_n53 rfl rfl rfl (x_nest B (q := (RX7, 53, yX8_copyRow)) (by decide +kernel)) (hts (.initialized RX8) (by decide +kernel)) (by decide +kernel) ⟨Nat.le_of_ble_eq_true rfl, Nat.le_of_ble_eq_true rfl⟩, hts (.static yX8_copyRow) (by decide +kernel), trivial⟩ (z_preS Bz) rfl rfl hl.1 rfl (lv_room (Nat.le_of_ble_eq_true rfl)) dX7_copyFrom_82 ⟨Nat.le_of_ble_eq_true rfl, Nat.le_of_ble_eq_true rfl⟩) (fun H locs B => ?_)
  refine lv_aload_n hx hb dX7_copyFrom_85 rfl (lv_at hl 1 rfl) ?_
  refine x_getr hx hb hts hinRX7 hown B 2 8 10 (by decide) (by decide) (fun _ => rfl) rfl rfl (by decide) (by decide +kernel) rfl dX7_copyFrom_86 ?_
  refine lv_aload_n hx hb dX7_copyFrom_89 rfl (lv_at hl 0 rfl) ?_
  refine x_getr hx hb hts hinRX7 hown B 26 8 34 (by decide) (by decide) (fun _ => rfl) rfl rfl (by decide) (by decide +kernel) rfl dX7_copyFrom_90 ?_
  obtain ⟨r23, σ24, hu22, hf⟩ := zb_some hf
  refine x_v B (fun nb a g hs Bz => va_runSN (As := [.ref (ad 10), .ref (ad 34)]) (rest := []) ⟨hx, hb, hml, hown, hts⟩ (c_X8_copyRow_10_34 l hu22 _ nb a g hs) ⟨va_cnB 2 hts gX7_copyFrom_X8_copyRow_n53 rfl rfl rfl (x_nest B (q := (RX7, 53, yX8_copyRow)) (by decide +kernel)) (hts (.initialized RX8) (by decide +kernel)) (by decide +kernel) ⟨Nat.le_of_ble_eq_true rfl, Nat.le_of_ble_eq_true rfl⟩, hts (.static yX8_copyRow) (by decide +kernel), trivial⟩ (z_preS Bz) rfl rfl hl.1 rfl (lv_room (Nat.le_of_ble_eq_true rfl)) dX7_copyFrom_93 ⟨Nat.le_of_ble_eq_true rfl, Nat.le_of_ble_eq_true rfl⟩) (fun H locs B => ?_)
  refine lv_aload_n hx hb dX7_copyFrom_96 rfl (lv_at hl 1 rfl) ?_
  refine x_getr hx hb hts hinRX7 hown B 2 9 11 (by decide) (by decide) (fun _ => rfl) rfl rfl (by decide) (by decide +kernel) rfl dX7_copyFrom_97 ?_
  refine lv_aload_n hx hb dX7_copyFrom_100 rfl (lv_at hl 0 rfl) ?_
  refine x_getr hx hb hts hinRX7 hown B 26 9 35 (by decide) (by decide) (fun _ => rfl) rfl rfl (by decide) (by decide +kernel) rfl dX7_copyFrom_101 ?_
  obtain ⟨r26, σ27, hu25, hf⟩ := zb_some hf
  refine x_v B (fun nb a g hs Bz => va_runSN (As := [.ref (ad 11), .ref (ad 35)]) (rest := []) ⟨hx, hb, hml, hown, hts⟩ (c_X8_copyRow_11_35 l hu25 _ nb a g hs) ⟨va_cnB 2 hts gX7_copyFrom_X8_copyRow_n53 rfl rfl rfl (x_nest B (q := (RX7, 53, yX8_copyRow)) (by decide +kernel)) (hts (.initialized RX8) (by decide +kernel)) (by decide +kernel) ⟨Nat.le_of_ble_eq_true rfl, Nat.le_of_ble_eq_true rfl⟩, hts (.static yX8_copyRow) (by decide +kernel), trivial⟩ (z_preS Bz) rfl rfl hl.1 rfl (lv_room (Nat.le_of_ble_eq_true rfl)) dX7_copyFrom_104 ⟨Nat.le_of_ble_eq_true rfl, Nat.le_of_ble_eq_true rfl⟩) (fun H locs B => ?_)
  refine lv_aload_n hx hb dX7_copyFrom_107 rfl (lv_at hl 1 rfl) ?_
  refine x_getr hx hb hts hinRX7 hown B 2 10 12 (by decide) (by decide) (fun _ => rfl) rfl rfl (by decide) (by decide +kernel) rfl dX7_copyFrom_108 ?_
  refine lv_aload_n hx hb dX7_copyFrom_111 rfl (lv_at hl 0 rfl) ?_
  refine x_getr hx hb hts hinRX7 hown B 26 10 36 (by decide) (by decide) (fun _ => rfl) rfl rfl (by decide) (by decide +kernel) rfl dX7_copyFrom_112 ?_
  obtain ⟨r29, σ30, hu28, hf⟩ := zb_some hf
  refine x_v B (fun nb a g hs Bz => va_runSN (As := [.ref (ad 12), .ref (ad 36)]) (rest := []) ⟨hx, hb, hml, hown, hts⟩ (c_X8_copyRow_12_36 l hu28 _ nb a g hs) ⟨va_cnB 2 hts gX7_copyFrom_X8_copyRow_n53 rfl rfl rfl (x_nest B (q := (RX7, 53, yX8_copyRow)) (by decide +kernel)) (hts (.initialized RX8) (by decide +kernel)) (by decide +kernel) ⟨Nat.le_of_ble_eq_true rfl, Nat.le_of_ble_eq_true rfl⟩, hts (.static yX8_copyRow) (by decide +kernel), trivial⟩ (z_preS Bz) rfl rfl hl.1 rfl (lv_room (Nat.le_of_ble_eq_true rfl)) dX7_copyFrom_115 ⟨Nat.le_of_ble_eq_true rfl, Nat.le_of_ble_eq_true rfl⟩) (fun H locs B => ?_)
  refine W.widen (k := 0) (n := 0) (Nat.le_of_ble_eq_true rfl) (Nat.le_of_ble_eq_true rfl) ?_
  exact x_vret hx hb hr hlocks B hf dX7_copyFrom_118
def rm_X8_copyRow_15_39 : Room := { frames := 1, cells := 0, slots := 0, locals := 200 }
set_option maxHeartbeats 4000000 in
set_option maxRecDepth 100000 in
theorem c_X8_copyRow_15_39 (l : Launch) {G : zG} {ad : Nat → Nat} {σ σ' : zs} {r : Int32} (hf : f_X8_copyRow_15_39 σ  = some (r, σ')) : xMv l yX8_copyRow wsX8_copyRow rm_X8_copyRow_15_39 G ad σ [.ref (ad 15), .ref (ad 39)] σ' := by
  intro sz nb a g hs
  refine Met.ofW (cc := cX8_copyRow) (maxL := 2) (ret := none) (by decide) rfl ?_
  intro p e s m args below meth c s₁ B hml hv
  obtain ⟨rfl, hsz, hv⟩ := hv
  have hx := B.exec
  have hb := B.bytes
  have hr := B.returns
  have hts := atoms_spec (ws := wsX8_copyRow) B.pre
  have hown : s.vm.findClass RX8 = some m.cls := findClass_of_methodNamed B.named
  have hlocks := B.notSynchronized
  subst hsz
  have B := xB_start hs hv
  have hl := lv_entry ([.ref (ad 15), .ref (ad 39)]) (n := 2) (Nat.le_of_ble_eq_true rfl)
  rw [lg_entry_eq]
  generalize (lg_sl ([.ref (ad 15), .ref (ad 39)]) ++ List.replicate (2 - (lg_sl ([.ref (ad 15), .ref (ad 39)])).length) Slot.unset).toArray = ls at hl ⊢
  have hl : lv_has ls 2 [(0, .ref (ad 15)), (1, .ref (ad 39))] := hl
  generalize hAe : xA ad a s.heap.size = A at B ⊢
  unfold f_X8_copyRow_15_39 at hf
  refine lv_aload_n hx hb dX8_copyRow_0 rfl (lv_at hl 0 rfl) ?_
  refine x_alen hx hb B 15 (v := (4 : Int32)) (by decide) (fun _ => rfl) rfl (by decide) dX8_copyRow_1 ?_
  refine lv_aload_n hx hb dX8_copyRow_2 rfl (lv_at hl 1 rfl) ?_
  refine x_alen hx hb B 39 (v := (4 : Int32)) (by decide) (fun _ => rfl) rfl (by decide) dX8_copyRow_3 ?_
  refine lv_icmp_ne (tgt := 16) hx hb dX8_copyRow_4 (by decide) (fun hc => absurd (by decide) hc) (fun hc => ?_)
  refine lv_aload_n hx hb dX8_copyRow_7 rfl (lv_at hl 0 rfl) ?_
  refine lv_iconst (v := (0 : Int32)) hx hb dX8_copyRow_8 (by decide) ?_
  refine lv_aload_n hx hb dX8_copyRow_9 rfl (lv_at hl 1 rfl) ?_
  refine lv_iconst (v := (0 : Int32)) hx hb dX8_copyRow_10 (by decide) ?_
  refine lv_aload_n hx hb dX8_copyRow_11 rfl (lv_at hl 0 rfl) ?_
  refine x_alen hx hb B 15 (v := (4 : Int32)) (by decide) (fun _ => rfl) rfl (by decide) dX8_copyRow_12 ?_
  obtain ⟨hg, hf⟩ := zg_some hf
  obtain ⟨g1, g2, g3, g4, g5⟩ := zcp_ok hg
  refine x_copyi hx hb (hml.trans hl.1.symm) hts hown (index := 415) (by decide +kernel) (by decide +kernel) (by decide +kernel) (by decide +kernel) B 15 39 (by decide) (by decide) (by decide) (fun _ => rfl) (fun _ => rfl) g1 g2 g3 g4 g5 (Nat.le_of_ble_eq_true rfl) (Nat.le_of_ble_eq_true rfl) dX8_copyRow_13 (fun H locs B => ?_)
  refine W.widen (k := 0) (n := 0) (Nat.le_of_ble_eq_true rfl) (Nat.le_of_ble_eq_true rfl) ?_
  exact x_vret hx hb hr hlocks B hf dX8_copyRow_16
def rm_X8_copyRow_16_40 : Room := { frames := 1, cells := 0, slots := 0, locals := 200 }
set_option maxHeartbeats 4000000 in
set_option maxRecDepth 100000 in
theorem c_X8_copyRow_16_40 (l : Launch) {G : zG} {ad : Nat → Nat} {σ σ' : zs} {r : Int32} (hf : f_X8_copyRow_16_40 σ  = some (r, σ')) : xMv l yX8_copyRow wsX8_copyRow rm_X8_copyRow_16_40 G ad σ [.ref (ad 16), .ref (ad 40)] σ' := by
  intro sz nb a g hs
  refine Met.ofW (cc := cX8_copyRow) (maxL := 2) (ret := none) (by decide) rfl ?_
  intro p e s m args below meth c s₁ B hml hv
  obtain ⟨rfl, hsz, hv⟩ := hv
  have hx := B.exec
  have hb := B.bytes
  have hr := B.returns
  have hts := atoms_spec (ws := wsX8_copyRow) B.pre
  have hown : s.vm.findClass RX8 = some m.cls := findClass_of_methodNamed B.named
  have hlocks := B.notSynchronized
  subst hsz
  have B := xB_start hs hv
  have hl := lv_entry ([.ref (ad 16), .ref (ad 40)]) (n := 2) (Nat.le_of_ble_eq_true rfl)
  rw [lg_entry_eq]
  generalize (lg_sl ([.ref (ad 16), .ref (ad 40)]) ++ List.replicate (2 - (lg_sl ([.ref (ad 16), .ref (ad 40)])).length) Slot.unset).toArray = ls at hl ⊢
  have hl : lv_has ls 2 [(0, .ref (ad 16)), (1, .ref (ad 40))] := hl
  generalize hAe : xA ad a s.heap.size = A at B ⊢
  unfold f_X8_copyRow_16_40 at hf
  refine lv_aload_n hx hb dX8_copyRow_0 rfl (lv_at hl 0 rfl) ?_
  refine x_alen hx hb B 16 (v := (4 : Int32)) (by decide) (fun _ => rfl) rfl (by decide) dX8_copyRow_1 ?_
  refine lv_aload_n hx hb dX8_copyRow_2 rfl (lv_at hl 1 rfl) ?_
  refine x_alen hx hb B 40 (v := (4 : Int32)) (by decide) (fun _ => rfl) rfl (by decide) dX8_copyRow_3 ?_
  refine lv_icmp_ne (tgt := 16) hx hb dX8_copyRow_4 (by decide) (fun hc => absurd (by decide) hc) (fun hc => ?_)
  refine lv_aload_n hx hb dX8_copyRow_7 rfl (lv_at hl 0 rfl) ?_
  refine lv_iconst (v := (0 : Int32)) hx hb dX8_copyRow_8 (by decide) ?_
  refine lv_aload_n hx hb dX8_copyRow_9 rfl (lv_at hl 1 rfl) ?_
  refine lv_iconst (v := (0 : Int32)) hx hb dX8_copyRow_10 (by decide) ?_
  refine lv_aload_n hx hb dX8_copyRow_11 rfl (lv_at hl 0 rfl) ?_
  refine x_alen hx hb B 16 (v := (4 : Int32)) (by decide) (fun _ => rfl) rfl (by decide) dX8_copyRow_12 ?_
  obtain ⟨hg, hf⟩ := zg_some hf
  obtain ⟨g1, g2, g3, g4, g5⟩ := zcp_ok hg
  refine x_copyi hx hb (hml.trans hl.1.symm) hts hown (index := 415) (by decide +kernel) (by decide +kernel) (by decide +kernel) (by decide +kernel) B 16 40 (by decide) (by decide) (by decide) (fun _ => rfl) (fun _ => rfl) g1 g2 g3 g4 g5 (Nat.le_of_ble_eq_true rfl) (Nat.le_of_ble_eq_true rfl) dX8_copyRow_13 (fun H locs B => ?_)
  refine W.widen (k := 0) (n := 0) (Nat.le_of_ble_eq_true rfl) (Nat.le_of_ble_eq_true rfl) ?_
  exact x_vret hx hb hr hlocks B hf dX8_copyRow_16
def rm_X8_copyRow_17_41 : Room := { frames := 1, cells := 0, slots := 0, locals := 200 }
set_option maxHeartbeats 4000000 in
set_option maxRecDepth 100000 in
theorem c_X8_copyRow_17_41 (l : Launch) {G : zG} {ad : Nat → Nat} {σ σ' : zs} {r : Int32} (hf : f_X8_copyRow_17_41 σ  = some (r, σ')) : xMv l yX8_copyRow wsX8_copyRow rm_X8_copyRow_17_41 G ad σ [.ref (ad 17), .ref (ad 41)] σ' := by
  intro sz nb a g hs
  refine Met.ofW (cc := cX8_copyRow) (maxL := 2) (ret := none) (by decide) rfl ?_
  intro p e s m args below meth c s₁ B hml hv
  obtain ⟨rfl, hsz, hv⟩ := hv
  have hx := B.exec
  have hb := B.bytes
  have hr := B.returns
  have hts := atoms_spec (ws := wsX8_copyRow) B.pre
  have hown : s.vm.findClass RX8 = some m.cls := findClass_of_methodNamed B.named
  have hlocks := B.notSynchronized
  subst hsz
  have B := xB_start hs hv
  have hl := lv_entry ([.ref (ad 17), .ref (ad 41)]) (n := 2) (Nat.le_of_ble_eq_true rfl)
  rw [lg_entry_eq]
  generalize (lg_sl ([.ref (ad 17), .ref (ad 41)]) ++ List.replicate (2 - (lg_sl ([.ref (ad 17), .ref (ad 41)])).length) Slot.unset).toArray = ls at hl ⊢
  have hl : lv_has ls 2 [(0, .ref (ad 17)), (1, .ref (ad 41))] := hl
  generalize hAe : xA ad a s.heap.size = A at B ⊢
  unfold f_X8_copyRow_17_41 at hf
  refine lv_aload_n hx hb dX8_copyRow_0 rfl (lv_at hl 0 rfl) ?_
  refine x_alen hx hb B 17 (v := (12 : Int32)) (by decide) (fun _ => rfl) rfl (by decide) dX8_copyRow_1 ?_
  refine lv_aload_n hx hb dX8_copyRow_2 rfl (lv_at hl 1 rfl) ?_
  refine x_alen hx hb B 41 (v := (12 : Int32)) (by decide) (fun _ => rfl) rfl (by decide) dX8_copyRow_3 ?_
  refine lv_icmp_ne (tgt := 16) hx hb dX8_copyRow_4 (by decide) (fun hc => absurd (by decide) hc) (fun hc => ?_)
  refine lv_aload_n hx hb dX8_copyRow_7 rfl (lv_at hl 0 rfl) ?_
  refine lv_iconst (v := (0 : Int32)) hx hb dX8_copyRow_8 (by decide) ?_
  refine lv_aload_n hx hb dX8_copyRow_9 rfl (lv_at hl 1 rfl) ?_
  refine lv_iconst (v := (0 : Int32)) hx hb dX8_copyRow_10 (by decide) ?_
  refine lv_aload_n hx hb dX8_copyRow_11 rfl (lv_at hl 0 rfl) ?_
  refine x_alen hx hb B 17 (v := (12 : Int32)) (by decide) (fun _ => rfl) rfl (by decide) dX8_copyRow_12 ?_
  obtain ⟨hg, hf⟩ := zg_some hf
  obtain ⟨g1, g2, g3, g4, g5⟩ := zcp_ok hg
  refine x_copyi hx hb (hml.trans hl.1.symm) hts hown (index := 415) (by decide +kernel) (by decide +kernel) (by decide +kernel) (by decide +kernel) B 17 41 (by decide) (by decide) (by decide) (fun _ => rfl) (fun _ => rfl) g1 g2 g3 g4 g5 (Nat.le_of_ble_eq_true rfl) (Nat.le_of_ble_eq_true rfl) dX8_copyRow_13 (fun H locs B => ?_)
  refine W.widen (k := 0) (n := 0) (Nat.le_of_ble_eq_true rfl) (Nat.le_of_ble_eq_true rfl) ?_
  exact x_vret hx hb hr hlocks B hf dX8_copyRow_16
def rm_X8_copyRow_18_42 : Room := { frames := 1, cells := 0, slots := 0, locals := 200 }
set_option maxHeartbeats 4000000 in
set_option maxRecDepth 100000 in
theorem c_X8_copyRow_18_42 (l : Launch) {G : zG} {ad : Nat → Nat} {σ σ' : zs} {r : Int32} (hf : f_X8_copyRow_18_42 σ  = some (r, σ')) : xMv l yX8_copyRow wsX8_copyRow rm_X8_copyRow_18_42 G ad σ [.ref (ad 18), .ref (ad 42)] σ' := by
  intro sz nb a g hs
  refine Met.ofW (cc := cX8_copyRow) (maxL := 2) (ret := none) (by decide) rfl ?_
  intro p e s m args below meth c s₁ B hml hv
  obtain ⟨rfl, hsz, hv⟩ := hv
  have hx := B.exec
  have hb := B.bytes
  have hr := B.returns
  have hts := atoms_spec (ws := wsX8_copyRow) B.pre
  have hown : s.vm.findClass RX8 = some m.cls := findClass_of_methodNamed B.named
  have hlocks := B.notSynchronized
  subst hsz
  have B := xB_start hs hv
  have hl := lv_entry ([.ref (ad 18), .ref (ad 42)]) (n := 2) (Nat.le_of_ble_eq_true rfl)
  rw [lg_entry_eq]
  generalize (lg_sl ([.ref (ad 18), .ref (ad 42)]) ++ List.replicate (2 - (lg_sl ([.ref (ad 18), .ref (ad 42)])).length) Slot.unset).toArray = ls at hl ⊢
  have hl : lv_has ls 2 [(0, .ref (ad 18)), (1, .ref (ad 42))] := hl
  generalize hAe : xA ad a s.heap.size = A at B ⊢
  unfold f_X8_copyRow_18_42 at hf
  refine lv_aload_n hx hb dX8_copyRow_0 rfl (lv_at hl 0 rfl) ?_
  refine x_alen hx hb B 18 (v := (12 : Int32)) (by decide) (fun _ => rfl) rfl (by decide) dX8_copyRow_1 ?_
  refine lv_aload_n hx hb dX8_copyRow_2 rfl (lv_at hl 1 rfl) ?_
  refine x_alen hx hb B 42 (v := (12 : Int32)) (by decide) (fun _ => rfl) rfl (by decide) dX8_copyRow_3 ?_
  refine lv_icmp_ne (tgt := 16) hx hb dX8_copyRow_4 (by decide) (fun hc => absurd (by decide) hc) (fun hc => ?_)
  refine lv_aload_n hx hb dX8_copyRow_7 rfl (lv_at hl 0 rfl) ?_
  refine lv_iconst (v := (0 : Int32)) hx hb dX8_copyRow_8 (by decide) ?_
  refine lv_aload_n hx hb dX8_copyRow_9 rfl (lv_at hl 1 rfl) ?_
  refine lv_iconst (v := (0 : Int32)) hx hb dX8_copyRow_10 (by decide) ?_
  refine lv_aload_n hx hb dX8_copyRow_11 rfl (lv_at hl 0 rfl) ?_
  refine x_alen hx hb B 18 (v := (12 : Int32)) (by decide) (fun _ => rfl) rfl (by decide) dX8_copyRow_12 ?_
  obtain ⟨hg, hf⟩ := zg_some hf
  obtain ⟨g1, g2, g3, g4, g5⟩ := zcp_ok hg
  refine x_copyi hx hb (hml.trans hl.1.symm) hts hown (index := 415) (by decide +kernel) (by decide +kernel) (by decide +kernel) (by decide +kernel) B 18 42 (by decide) (by decide) (by decide) (fun _ => rfl) (fun _ => rfl) g1 g2 g3 g4 g5 (Nat.le_of_ble_eq_true rfl) (Nat.le_of_ble_eq_true rfl) dX8_copyRow_13 (fun H locs B => ?_)
  refine W.widen (k := 0) (n := 0) (Nat.le_of_ble_eq_true rfl) (Nat.le_of_ble_eq_true rfl) ?_
  exact x_vret hx hb hr hlocks B hf dX8_copyRow_16
def rm_X8_copyRow_19_43 : Room := { frames := 1, cells := 0, slots := 0, locals := 200 }
set_option maxHeartbeats 4000000 in
set_option maxRecDepth 100000 in
theorem c_X8_copyRow_19_43 (l : Launch) {G : zG} {ad : Nat → Nat} {σ σ' : zs} {r : Int32} (hf : f_X8_copyRow_19_43 σ  = some (r, σ')) : xMv l yX8_copyRow wsX8_copyRow rm_X8_copyRow_19_43 G ad σ [.ref (ad 19), .ref (ad 43)] σ' := by
  intro sz nb a g hs
  refine Met.ofW (cc := cX8_copyRow) (maxL := 2) (ret := none) (by decide) rfl ?_
  intro p e s m args below meth c s₁ B hml hv
  obtain ⟨rfl, hsz, hv⟩ := hv
  have hx := B.exec
  have hb := B.bytes
  have hr := B.returns
  have hts := atoms_spec (ws := wsX8_copyRow) B.pre
  have hown : s.vm.findClass RX8 = some m.cls := findClass_of_methodNamed B.named
  have hlocks := B.notSynchronized
  subst hsz
  have B := xB_start hs hv
  have hl := lv_entry ([.ref (ad 19), .ref (ad 43)]) (n := 2) (Nat.le_of_ble_eq_true rfl)
  rw [lg_entry_eq]
  generalize (lg_sl ([.ref (ad 19), .ref (ad 43)]) ++ List.replicate (2 - (lg_sl ([.ref (ad 19), .ref (ad 43)])).length) Slot.unset).toArray = ls at hl ⊢
  have hl : lv_has ls 2 [(0, .ref (ad 19)), (1, .ref (ad 43))] := hl
  generalize hAe : xA ad a s.heap.size = A at B ⊢
  unfold f_X8_copyRow_19_43 at hf
  refine lv_aload_n hx hb dX8_copyRow_0 rfl (lv_at hl 0 rfl) ?_
  refine x_alen hx hb B 19 (v := (12 : Int32)) (by decide) (fun _ => rfl) rfl (by decide) dX8_copyRow_1 ?_
  refine lv_aload_n hx hb dX8_copyRow_2 rfl (lv_at hl 1 rfl) ?_
  refine x_alen hx hb B 43 (v := (12 : Int32)) (by decide) (fun _ => rfl) rfl (by decide) dX8_copyRow_3 ?_
  refine lv_icmp_ne (tgt := 16) hx hb dX8_copyRow_4 (by decide) (fun hc => absurd (by decide) hc) (fun hc => ?_)
  refine lv_aload_n hx hb dX8_copyRow_7 rfl (lv_at hl 0 rfl) ?_
  refine lv_iconst (v := (0 : Int32)) hx hb dX8_copyRow_8 (by decide) ?_
  refine lv_aload_n hx hb dX8_copyRow_9 rfl (lv_at hl 1 rfl) ?_
  refine lv_iconst (v := (0 : Int32)) hx hb dX8_copyRow_10 (by decide) ?_
  refine lv_aload_n hx hb dX8_copyRow_11 rfl (lv_at hl 0 rfl) ?_
  refine x_alen hx hb B 19 (v := (12 : Int32)) (by decide) (fun _ => rfl) rfl (by decide) dX8_copyRow_12 ?_
  obtain ⟨hg, hf⟩ := zg_some hf
  obtain ⟨g1, g2, g3, g4, g5⟩ := zcp_ok hg
  refine x_copyi hx hb (hml.trans hl.1.symm) hts hown (index := 415) (by decide +kernel) (by decide +kernel) (by decide +kernel) (by decide +kernel) B 19 43 (by decide) (by decide) (by decide) (fun _ => rfl) (fun _ => rfl) g1 g2 g3 g4 g5 (Nat.le_of_ble_eq_true rfl) (Nat.le_of_ble_eq_true rfl) dX8_copyRow_13 (fun H locs B => ?_)
  refine W.widen (k := 0) (n := 0) (Nat.le_of_ble_eq_true rfl) (Nat.le_of_ble_eq_true rfl) ?_
  exact x_vret hx hb hr hlocks B hf dX8_copyRow_16
theorem dX0_copyFrom_0 : decode cX0_copyFrom 0 = .ok (.aload_n 0, 1) := by decide +kernel
theorem dX0_copyFrom_1 : decode cX0_copyFrom 1 = .ok (.aload_n 1, 1) := by decide +kernel
theorem dX0_copyFrom_2 : decode cX0_copyFrom 2 = .ok (.getfield 27, 3) := by decide +kernel
theorem dX0_copyFrom_5 : decode cX0_copyFrom 5 = .ok (.putfield 27, 3) := by decide +kernel
theorem dX0_copyFrom_8 : decode cX0_copyFrom 8 = .ok (.aload_n 1, 1) := by decide +kernel
theorem dX0_copyFrom_9 : decode cX0_copyFrom 9 = .ok (.getfield 9, 3) := by decide +kernel
theorem dX0_copyFrom_12 : decode cX0_copyFrom 12 = .ok (.aload_n 0, 1) := by decide +kernel
theorem dX0_copyFrom_13 : decode cX0_copyFrom 13 = .ok (.getfield 9, 3) := by decide +kernel
theorem dX0_copyFrom_16 : decode cX0_copyFrom 16 = .ok (.invokestatic 31, 3) := by decide +kernel
theorem dX0_copyFrom_19 : decode cX0_copyFrom 19 = .ok (.aload_n 1, 1) := by decide +kernel
theorem dX0_copyFrom_20 : decode cX0_copyFrom 20 = .ok (.getfield 15, 3) := by decide +kernel
theorem dX0_copyFrom_23 : decode cX0_copyFrom 23 = .ok (.aload_n 0, 1) := by decide +kernel
theorem dX0_copyFrom_24 : decode cX0_copyFrom 24 = .ok (.getfield 15, 3) := by decide +kernel
theorem dX0_copyFrom_27 : decode cX0_copyFrom 27 = .ok (.invokestatic 31, 3) := by decide +kernel
theorem dX0_copyFrom_30 : decode cX0_copyFrom 30 = .ok (.aload_n 0, 1) := by decide +kernel
theorem dX0_copyFrom_31 : decode cX0_copyFrom 31 = .ok (.aload_n 1, 1) := by decide +kernel
theorem dX0_copyFrom_32 : decode cX0_copyFrom 32 = .ok (.getfield 35, 3) := by decide +kernel
theorem dX0_copyFrom_35 : decode cX0_copyFrom 35 = .ok (.putfield 35, 3) := by decide +kernel
theorem dX0_copyFrom_38 : decode cX0_copyFrom 38 = .ok (.aload_n 1, 1) := by decide +kernel
theorem dX0_copyFrom_39 : decode cX0_copyFrom 39 = .ok (.getfield 18, 3) := by decide +kernel
theorem dX0_copyFrom_42 : decode cX0_copyFrom 42 = .ok (.aload_n 0, 1) := by decide +kernel
theorem dX0_copyFrom_43 : decode cX0_copyFrom 43 = .ok (.getfield 18, 3) := by decide +kernel
theorem dX0_copyFrom_46 : decode cX0_copyFrom 46 = .ok (.invokestatic 31, 3) := by decide +kernel
theorem dX0_copyFrom_49 : decode cX0_copyFrom 49 = .ok (.aload_n 1, 1) := by decide +kernel
theorem dX0_copyFrom_50 : decode cX0_copyFrom 50 = .ok (.getfield 21, 3) := by decide +kernel
theorem dX0_copyFrom_53 : decode cX0_copyFrom 53 = .ok (.aload_n 0, 1) := by decide +kernel
theorem dX0_copyFrom_54 : decode cX0_copyFrom 54 = .ok (.getfield 21, 3) := by decide +kernel
theorem dX0_copyFrom_57 : decode cX0_copyFrom 57 = .ok (.invokestatic 31, 3) := by decide +kernel
theorem dX0_copyFrom_60 : decode cX0_copyFrom 60 = .ok (.aload_n 1, 1) := by decide +kernel
theorem dX0_copyFrom_61 : decode cX0_copyFrom 61 = .ok (.getfield 24, 3) := by decide +kernel
theorem dX0_copyFrom_64 : decode cX0_copyFrom 64 = .ok (.aload_n 0, 1) := by decide +kernel
theorem dX0_copyFrom_65 : decode cX0_copyFrom 65 = .ok (.getfield 24, 3) := by decide +kernel
theorem dX0_copyFrom_68 : decode cX0_copyFrom 68 = .ok (.invokestatic 31, 3) := by decide +kernel
theorem dX0_copyFrom_71 : decode cX0_copyFrom 71 = .ok (.return_, 1) := by decide +kernel
set_option maxRecDepth 20000 in
theorem ggX0_copyFrom_X8_copyRow : GoodIn wsX0_copyFrom wsX8_copyRow := goodIn_r _ [10, 11, 12, 13, 14] (by decide +kernel) (by decide +kernel)
set_option maxRecDepth 20000 in
theorem gX0_copyFrom_X8_copyRow_n31 : GoodIn wsX0_copyFrom (wsX8_copyRow) := ggX0_copyFrom_X8_copyRow
def rm_X0_copyFrom_t38_14 : Room := { frames := 2, cells := 0, slots := 0, locals := 221 }
set_option maxHeartbeats 4000000 in
set_option maxRecDepth 100000 in
theorem c_X0_copyFrom_t38_14 (l : Launch) {G : zG} {ad : Nat → Nat} {σ σ' : zs} {r : Int32} (hf : f_X0_copyFrom_t38_14 σ  = some (r, σ')) : xMv l yX0_copyFrom wsX0_copyFrom rm_X0_copyFrom_t38_14 G ad σ [.ref (ad 38), .ref (ad 14)] σ' := by
  intro sz nb a g hs
  refine Met.ofW (cc := cX0_copyFrom) (maxL := 2) (ret := none) (by decide) rfl ?_
  intro p e s m args below meth c s₁ B hml hv
  obtain ⟨rfl, hsz, hv⟩ := hv
  have hx := B.exec
  have hb := B.bytes
  have hr := B.returns
  have hts := atoms_spec (ws := wsX0_copyFrom) B.pre
  have hown : s.vm.findClass RX0 = some m.cls := findClass_of_methodNamed B.named
  have hlocks := B.notSynchronized
  subst hsz
  have B := xB_start hs hv
  have hinRX0 : ∀ w ∈ wsX00, w ∈ wsX0_copyFrom := by decide +kernel
  have hl := lv_entry ([.ref (ad 38), .ref (ad 14)]) (n := 2) (Nat.le_of_ble_eq_true rfl)
  rw [lg_entry_eq]
  generalize (lg_sl ([.ref (ad 38), .ref (ad 14)]) ++ List.replicate (2 - (lg_sl ([.ref (ad 38), .ref (ad 14)])).length) Slot.unset).toArray = ls at hl ⊢
  have hl : lv_has ls 2 [(0, .ref (ad 38)), (1, .ref (ad 14))] := hl
  generalize hAe : xA ad a s.heap.size = A at B ⊢
  unfold f_X0_copyFrom_t38_14 at hf
  refine lv_aload_n hx hb dX0_copyFrom_0 rfl (lv_at hl 0 rfl) ?_
  refine lv_aload_n hx hb dX0_copyFrom_1 rfl (lv_at hl 1 rfl) ?_
  refine x_geti hx hb hts hinRX0 hown B 14 0 (by decide) (fun _ => rfl) rfl rfl (by decide) (by decide +kernel) rfl dX0_copyFrom_2 ?_
  refine x_puti hx hb hts hinRX0 hown tyX0 tyX0_ok nmX0 B 38 0 (by decide) (by decide) (fun _ => rfl) rfl rfl (by decide) (by decide +kernel) rfl rfl rfl rfl dX0_copyFrom_5 (fun H locs B => ?_)
  refine lv_aload_n hx hb dX0_copyFrom_8 rfl (lv_at hl 1 rfl) ?_
  refine x_getr hx hb hts hinRX0 hown B 14 1 15 (by decide) (by decide) (fun _ => rfl) rfl rfl (by decide) (by decide +kernel) rfl dX0_copyFrom_9 ?_
  refine lv_aload_n hx hb dX0_copyFrom_12 rfl (lv_at hl 0 rfl) ?_
  refine x_getr hx hb hts hinRX0 hown B 38 1 39 (by decide) (by decide) (fun _ => rfl) rfl rfl (by decide) (by decide +kernel) rfl dX0_copyFrom_13 ?_
  obtain ⟨r2, σ3, hu1, hf⟩ := zb_some hf
  refine x_v B (fun nb a g hs Bz => va_runSN (As := [.ref (ad 15), .ref (ad 39)]) (rest := []) ⟨hx, hb, hml, hown, hts⟩ (c_X8_copyRow_15_39 l hu1 _ nb a g hs) ⟨va_cnB 2 hts gX0_copyFrom_X8_copyRow_n31 rfl rfl rfl (x_nest B (q := (RX0, 31, yX8_copyRow)) (by decide +kernel)) (hts (.initialized RX8) (by decide +kernel)) (by decide +kernel) ⟨Nat.le_of_ble_eq_true rfl, Nat.le_of_ble_eq_true rfl⟩, hts (.static yX8_copyRow) (by decide +kernel), trivial⟩ (z_preS Bz) rfl rfl hl.1 rfl (lv_room (Nat.le_of_ble_eq_true rfl)) dX0_copyFrom_16 ⟨Nat.le_of_ble_eq_true rfl, Nat.le_of_ble_eq_true rfl⟩) (fun H locs B => ?_)
  refine lv_aload_n hx hb dX0_copyFrom_19 rfl (lv_at hl 1 rfl) ?_
  refine x_getr hx hb hts hinRX0 hown B 14 2 16 (by decide) (by decide) (fun _ => rfl) rfl rfl (by decide) (by decide +kernel) rfl dX0_copyFrom_20 ?_
  refine lv_aload_n hx hb dX0_copyFrom_23 rfl (lv_at hl 0 rfl) ?_
  refine x_getr hx hb hts hinRX0 hown B 38 2 40 (by decide) (by decide) (fun _ => rfl) rfl rfl (by decide) (by decide +kernel) rfl dX0_copyFrom_24 ?_
  obtain ⟨r5, σ6, hu4, hf⟩ := zb_some hf
  refine x_v B (fun nb a g hs Bz => va_runSN (As := [.ref (ad 16), .ref (ad 40)]) (rest := []) ⟨hx, hb, hml, hown, hts⟩ (c_X8_copyRow_16_40 l hu4 _ nb a g hs) ⟨va_cnB 2 hts gX0_copyFrom_X8_copyRow_n31 rfl rfl rfl (x_nest B (q := (RX0, 31, yX8_copyRow)) (by decide +kernel)) (hts (.initialized RX8) (by decide +kernel)) (by decide +kernel) ⟨Nat.le_of_ble_eq_true rfl, Nat.le_of_ble_eq_true rfl⟩, hts (.static yX8_copyRow) (by decide +kernel), trivial⟩ (z_preS Bz) rfl rfl hl.1 rfl (lv_room (Nat.le_of_ble_eq_true rfl)) dX0_copyFrom_27 ⟨Nat.le_of_ble_eq_true rfl, Nat.le_of_ble_eq_true rfl⟩) (fun H locs B => ?_)
  refine lv_aload_n hx hb dX0_copyFrom_30 rfl (lv_at hl 0 rfl) ?_
  refine lv_aload_n hx hb dX0_copyFrom_31 rfl (lv_at hl 1 rfl) ?_
  refine x_geti hx hb hts hinRX0 hown B 14 3 (by decide) (fun _ => rfl) rfl rfl (by decide) (by decide +kernel) rfl dX0_copyFrom_32 ?_
  refine x_puti hx hb hts hinRX0 hown tyX0 tyX0_ok nmX0 B 38 3 (by decide) (by decide) (fun _ => rfl) rfl rfl (by decide) (by decide +kernel) rfl rfl rfl rfl dX0_copyFrom_35 (fun H locs B => ?_)
  refine lv_aload_n hx hb dX0_copyFrom_38 rfl (lv_at hl 1 rfl) ?_
  refine x_getr hx hb hts hinRX0 hown B 14 4 17 (by decide) (by decide) (fun _ => rfl) rfl rfl (by decide) (by decide +kernel) rfl dX0_copyFrom_39 ?_
  refine lv_aload_n hx hb dX0_copyFrom_42 rfl (lv_at hl 0 rfl) ?_
  refine x_getr hx hb hts hinRX0 hown B 38 4 41 (by decide) (by decide) (fun _ => rfl) rfl rfl (by decide) (by decide +kernel) rfl dX0_copyFrom_43 ?_
  obtain ⟨r8, σ9, hu7, hf⟩ := zb_some hf
  refine x_v B (fun nb a g hs Bz => va_runSN (As := [.ref (ad 17), .ref (ad 41)]) (rest := []) ⟨hx, hb, hml, hown, hts⟩ (c_X8_copyRow_17_41 l hu7 _ nb a g hs) ⟨va_cnB 2 hts gX0_copyFrom_X8_copyRow_n31 rfl rfl rfl (x_nest B (q := (RX0, 31, yX8_copyRow)) (by decide +kernel)) (hts (.initialized RX8) (by decide +kernel)) (by decide +kernel) ⟨Nat.le_of_ble_eq_true rfl, Nat.le_of_ble_eq_true rfl⟩, hts (.static yX8_copyRow) (by decide +kernel), trivial⟩ (z_preS Bz) rfl rfl hl.1 rfl (lv_room (Nat.le_of_ble_eq_true rfl)) dX0_copyFrom_46 ⟨Nat.le_of_ble_eq_true rfl, Nat.le_of_ble_eq_true rfl⟩) (fun H locs B => ?_)
  refine lv_aload_n hx hb dX0_copyFrom_49 rfl (lv_at hl 1 rfl) ?_
  refine x_getr hx hb hts hinRX0 hown B 14 5 18 (by decide) (by decide) (fun _ => rfl) rfl rfl (by decide) (by decide +kernel) rfl dX0_copyFrom_50 ?_
  refine lv_aload_n hx hb dX0_copyFrom_53 rfl (lv_at hl 0 rfl) ?_
  refine x_getr hx hb hts hinRX0 hown B 38 5 42 (by decide) (by decide) (fun _ => rfl) rfl rfl (by decide) (by decide +kernel) rfl dX0_copyFrom_54 ?_
  obtain ⟨r11, σ12, hu10, hf⟩ := zb_some hf
  refine x_v B (fun nb a g hs Bz => va_runSN (As := [.ref (ad 18), .ref (ad 42)]) (rest := []) ⟨hx, hb, hml, hown, hts⟩ (c_X8_copyRow_18_42 l hu10 _ nb a g hs) ⟨va_cnB 2 hts gX0_copyFrom_X8_copyRow_n31 rfl rfl rfl (x_nest B (q := (RX0, 31, yX8_copyRow)) (by decide +kernel)) (hts (.initialized RX8) (by decide +kernel)) (by decide +kernel) ⟨Nat.le_of_ble_eq_true rfl, Nat.le_of_ble_eq_true rfl⟩, hts (.static yX8_copyRow) (by decide +kernel), trivial⟩ (z_preS Bz) rfl rfl hl.1 rfl (lv_room (Nat.le_of_ble_eq_true rfl)) dX0_copyFrom_57 ⟨Nat.le_of_ble_eq_true rfl, Nat.le_of_ble_eq_true rfl⟩) (fun H locs B => ?_)
  refine lv_aload_n hx hb dX0_copyFrom_60 rfl (lv_at hl 1 rfl) ?_
  refine x_getr hx hb hts hinRX0 hown B 14 6 19 (by decide) (by decide) (fun _ => rfl) rfl rfl (by decide) (by decide +kernel) rfl dX0_copyFrom_61 ?_
  refine lv_aload_n hx hb dX0_copyFrom_64 rfl (lv_at hl 0 rfl) ?_
  refine x_getr hx hb hts hinRX0 hown B 38 6 43 (by decide) (by decide) (fun _ => rfl) rfl rfl (by decide) (by decide +kernel) rfl dX0_copyFrom_65 ?_
  obtain ⟨r14, σ15, hu13, hf⟩ := zb_some hf
  refine x_v B (fun nb a g hs Bz => va_runSN (As := [.ref (ad 19), .ref (ad 43)]) (rest := []) ⟨hx, hb, hml, hown, hts⟩ (c_X8_copyRow_19_43 l hu13 _ nb a g hs) ⟨va_cnB 2 hts gX0_copyFrom_X8_copyRow_n31 rfl rfl rfl (x_nest B (q := (RX0, 31, yX8_copyRow)) (by decide +kernel)) (hts (.initialized RX8) (by decide +kernel)) (by decide +kernel) ⟨Nat.le_of_ble_eq_true rfl, Nat.le_of_ble_eq_true rfl⟩, hts (.static yX8_copyRow) (by decide +kernel), trivial⟩ (z_preS Bz) rfl rfl hl.1 rfl (lv_room (Nat.le_of_ble_eq_true rfl)) dX0_copyFrom_68 ⟨Nat.le_of_ble_eq_true rfl, Nat.le_of_ble_eq_true rfl⟩) (fun H locs B => ?_)
  refine W.widen (k := 0) (n := 0) (Nat.le_of_ble_eq_true rfl) (Nat.le_of_ble_eq_true rfl) ?_
  exact x_vret hx hb hr hlocks B hf dX0_copyFrom_71
def rm_X8_copyRow_21_45 : Room := { frames := 1, cells := 0, slots := 0, locals := 200 }
set_option maxHeartbeats 4000000 in
set_option maxRecDepth 100000 in
theorem c_X8_copyRow_21_45 (l : Launch) {G : zG} {ad : Nat → Nat} {σ σ' : zs} {r : Int32} (hf : f_X8_copyRow_21_45 σ  = some (r, σ')) : xMv l yX8_copyRow wsX8_copyRow rm_X8_copyRow_21_45 G ad σ [.ref (ad 21), .ref (ad 45)] σ' := by
  intro sz nb a g hs
  refine Met.ofW (cc := cX8_copyRow) (maxL := 2) (ret := none) (by decide) rfl ?_
  intro p e s m args below meth c s₁ B hml hv
  obtain ⟨rfl, hsz, hv⟩ := hv
  have hx := B.exec
  have hb := B.bytes
  have hr := B.returns
  have hts := atoms_spec (ws := wsX8_copyRow) B.pre
  have hown : s.vm.findClass RX8 = some m.cls := findClass_of_methodNamed B.named
  have hlocks := B.notSynchronized
  subst hsz
  have B := xB_start hs hv
  have hl := lv_entry ([.ref (ad 21), .ref (ad 45)]) (n := 2) (Nat.le_of_ble_eq_true rfl)
  rw [lg_entry_eq]
  generalize (lg_sl ([.ref (ad 21), .ref (ad 45)]) ++ List.replicate (2 - (lg_sl ([.ref (ad 21), .ref (ad 45)])).length) Slot.unset).toArray = ls at hl ⊢
  have hl : lv_has ls 2 [(0, .ref (ad 21)), (1, .ref (ad 45))] := hl
  generalize hAe : xA ad a s.heap.size = A at B ⊢
  unfold f_X8_copyRow_21_45 at hf
  refine lv_aload_n hx hb dX8_copyRow_0 rfl (lv_at hl 0 rfl) ?_
  refine x_alen hx hb B 21 (v := (20 : Int32)) (by decide) (fun _ => rfl) rfl (by decide) dX8_copyRow_1 ?_
  refine lv_aload_n hx hb dX8_copyRow_2 rfl (lv_at hl 1 rfl) ?_
  refine x_alen hx hb B 45 (v := (20 : Int32)) (by decide) (fun _ => rfl) rfl (by decide) dX8_copyRow_3 ?_
  refine lv_icmp_ne (tgt := 16) hx hb dX8_copyRow_4 (by decide) (fun hc => absurd (by decide) hc) (fun hc => ?_)
  refine lv_aload_n hx hb dX8_copyRow_7 rfl (lv_at hl 0 rfl) ?_
  refine lv_iconst (v := (0 : Int32)) hx hb dX8_copyRow_8 (by decide) ?_
  refine lv_aload_n hx hb dX8_copyRow_9 rfl (lv_at hl 1 rfl) ?_
  refine lv_iconst (v := (0 : Int32)) hx hb dX8_copyRow_10 (by decide) ?_
  refine lv_aload_n hx hb dX8_copyRow_11 rfl (lv_at hl 0 rfl) ?_
  refine x_alen hx hb B 21 (v := (20 : Int32)) (by decide) (fun _ => rfl) rfl (by decide) dX8_copyRow_12 ?_
  obtain ⟨hg, hf⟩ := zg_some hf
  obtain ⟨g1, g2, g3, g4, g5⟩ := zcp_ok hg
  refine x_copyi hx hb (hml.trans hl.1.symm) hts hown (index := 415) (by decide +kernel) (by decide +kernel) (by decide +kernel) (by decide +kernel) B 21 45 (by decide) (by decide) (by decide) (fun _ => rfl) (fun _ => rfl) g1 g2 g3 g4 g5 (Nat.le_of_ble_eq_true rfl) (Nat.le_of_ble_eq_true rfl) dX8_copyRow_13 (fun H locs B => ?_)
  refine W.widen (k := 0) (n := 0) (Nat.le_of_ble_eq_true rfl) (Nat.le_of_ble_eq_true rfl) ?_
  exact x_vret hx hb hr hlocks B hf dX8_copyRow_16
theorem dX2_copyFrom_0 : decode cX2_copyFrom 0 = .ok (.aload_n 1, 1) := by decide +kernel
theorem dX2_copyFrom_1 : decode cX2_copyFrom 1 = .ok (.getfield 9, 3) := by decide +kernel
theorem dX2_copyFrom_4 : decode cX2_copyFrom 4 = .ok (.aload_n 0, 1) := by decide +kernel
theorem dX2_copyFrom_5 : decode cX2_copyFrom 5 = .ok (.getfield 9, 3) := by decide +kernel
theorem dX2_copyFrom_8 : decode cX2_copyFrom 8 = .ok (.invokestatic 15, 3) := by decide +kernel
theorem dX2_copyFrom_11 : decode cX2_copyFrom 11 = .ok (.aload_n 0, 1) := by decide +kernel
theorem dX2_copyFrom_12 : decode cX2_copyFrom 12 = .ok (.aload_n 1, 1) := by decide +kernel
theorem dX2_copyFrom_13 : decode cX2_copyFrom 13 = .ok (.getfield 19, 3) := by decide +kernel
theorem dX2_copyFrom_16 : decode cX2_copyFrom 16 = .ok (.putfield 19, 3) := by decide +kernel
theorem dX2_copyFrom_19 : decode cX2_copyFrom 19 = .ok (.aload_n 0, 1) := by decide +kernel
theorem dX2_copyFrom_20 : decode cX2_copyFrom 20 = .ok (.aload_n 1, 1) := by decide +kernel
theorem dX2_copyFrom_21 : decode cX2_copyFrom 21 = .ok (.getfield 23, 3) := by decide +kernel
theorem dX2_copyFrom_24 : decode cX2_copyFrom 24 = .ok (.putfield 23, 3) := by decide +kernel
theorem dX2_copyFrom_27 : decode cX2_copyFrom 27 = .ok (.aload_n 0, 1) := by decide +kernel
theorem dX2_copyFrom_28 : decode cX2_copyFrom 28 = .ok (.aload_n 1, 1) := by decide +kernel
theorem dX2_copyFrom_29 : decode cX2_copyFrom 29 = .ok (.getfield 26, 3) := by decide +kernel
theorem dX2_copyFrom_32 : decode cX2_copyFrom 32 = .ok (.putfield 26, 3) := by decide +kernel
theorem dX2_copyFrom_35 : decode cX2_copyFrom 35 = .ok (.return_, 1) := by decide +kernel
set_option maxRecDepth 20000 in
theorem ggX2_copyFrom_X8_copyRow : GoodIn wsX2_copyFrom wsX8_copyRow := goodIn_r _ [7, 8, 9, 10, 11] (by decide +kernel) (by decide +kernel)
set_option maxRecDepth 20000 in
theorem gX2_copyFrom_X8_copyRow_n15 : GoodIn wsX2_copyFrom (wsX8_copyRow) := ggX2_copyFrom_X8_copyRow
def rm_X2_copyFrom_t44_20 : Room := { frames := 2, cells := 0, slots := 0, locals := 221 }
set_option maxHeartbeats 4000000 in
set_option maxRecDepth 100000 in
theorem c_X2_copyFrom_t44_20 (l : Launch) {G : zG} {ad : Nat → Nat} {σ σ' : zs} {r : Int32} (hf : f_X2_copyFrom_t44_20 σ  = some (r, σ')) : xMv l yX2_copyFrom wsX2_copyFrom rm_X2_copyFrom_t44_20 G ad σ [.ref (ad 44), .ref (ad 20)] σ' := by
  intro sz nb a g hs
  refine Met.ofW (cc := cX2_copyFrom) (maxL := 2) (ret := none) (by decide) rfl ?_
  intro p e s m args below meth c s₁ B hml hv
  obtain ⟨rfl, hsz, hv⟩ := hv
  have hx := B.exec
  have hb := B.bytes
  have hr := B.returns
  have hts := atoms_spec (ws := wsX2_copyFrom) B.pre
  have hown : s.vm.findClass RX2 = some m.cls := findClass_of_methodNamed B.named
  have hlocks := B.notSynchronized
  subst hsz
  have B := xB_start hs hv
  have hinRX2 : ∀ w ∈ wsX20, w ∈ wsX2_copyFrom := by decide +kernel
  have hl := lv_entry ([.ref (ad 44), .ref (ad 20)]) (n := 2) (Nat.le_of_ble_eq_true rfl)
  rw [lg_entry_eq]
  generalize (lg_sl ([.ref (ad 44), .ref (ad 20)]) ++ List.replicate (2 - (lg_sl ([.ref (ad 44), .ref (ad 20)])).length) Slot.unset).toArray = ls at hl ⊢
  have hl : lv_has ls 2 [(0, .ref (ad 44)), (1, .ref (ad 20))] := hl
  generalize hAe : xA ad a s.heap.size = A at B ⊢
  unfold f_X2_copyFrom_t44_20 at hf
  refine lv_aload_n hx hb dX2_copyFrom_0 rfl (lv_at hl 1 rfl) ?_
  refine x_getr hx hb hts hinRX2 hown B 20 0 21 (by decide) (by decide) (fun _ => rfl) rfl rfl (by decide) (by decide +kernel) rfl dX2_copyFrom_1 ?_
  refine lv_aload_n hx hb dX2_copyFrom_4 rfl (lv_at hl 0 rfl) ?_
  refine x_getr hx hb hts hinRX2 hown B 44 0 45 (by decide) (by decide) (fun _ => rfl) rfl rfl (by decide) (by decide +kernel) rfl dX2_copyFrom_5 ?_
  obtain ⟨r2, σ3, hu1, hf⟩ := zb_some hf
  refine x_v B (fun nb a g hs Bz => va_runSN (As := [.ref (ad 21), .ref (ad 45)]) (rest := []) ⟨hx, hb, hml, hown, hts⟩ (c_X8_copyRow_21_45 l hu1 _ nb a g hs) ⟨va_cnB 2 hts gX2_copyFrom_X8_copyRow_n15 rfl rfl rfl (x_nest B (q := (RX2, 15, yX8_copyRow)) (by decide +kernel)) (hts (.initialized RX8) (by decide +kernel)) (by decide +kernel) ⟨Nat.le_of_ble_eq_true rfl, Nat.le_of_ble_eq_true rfl⟩, hts (.static yX8_copyRow) (by decide +kernel), trivial⟩ (z_preS Bz) rfl rfl hl.1 rfl (lv_room (Nat.le_of_ble_eq_true rfl)) dX2_copyFrom_8 ⟨Nat.le_of_ble_eq_true rfl, Nat.le_of_ble_eq_true rfl⟩) (fun H locs B => ?_)
  refine lv_aload_n hx hb dX2_copyFrom_11 rfl (lv_at hl 0 rfl) ?_
  refine lv_aload_n hx hb dX2_copyFrom_12 rfl (lv_at hl 1 rfl) ?_
  refine x_geti hx hb hts hinRX2 hown B 20 1 (by decide) (fun _ => rfl) rfl rfl (by decide) (by decide +kernel) rfl dX2_copyFrom_13 ?_
  refine x_puti hx hb hts hinRX2 hown tyX2 tyX2_ok nmX2 B 44 1 (by decide) (by decide) (fun _ => rfl) rfl rfl (by decide) (by decide +kernel) rfl rfl rfl rfl dX2_copyFrom_16 (fun H locs B => ?_)
  refine lv_aload_n hx hb dX2_copyFrom_19 rfl (lv_at hl 0 rfl) ?_
  refine lv_aload_n hx hb dX2_copyFrom_20 rfl (lv_at hl 1 rfl) ?_
  refine x_geti hx hb hts hinRX2 hown B 20 2 (by decide) (fun _ => rfl) rfl rfl (by decide) (by decide +kernel) rfl dX2_copyFrom_21 ?_
  refine x_puti hx hb hts hinRX2 hown tyX2 tyX2_ok nmX2 B 44 2 (by decide) (by decide) (fun _ => rfl) rfl rfl (by decide) (by decide +kernel) rfl rfl rfl rfl dX2_copyFrom_24 (fun H locs B => ?_)
  refine lv_aload_n hx hb dX2_copyFrom_27 rfl (lv_at hl 0 rfl) ?_
  refine lv_aload_n hx hb dX2_copyFrom_28 rfl (lv_at hl 1 rfl) ?_
  refine x_geti hx hb hts hinRX2 hown B 20 3 (by decide) (fun _ => rfl) rfl rfl (by decide) (by decide +kernel) rfl dX2_copyFrom_29 ?_
  refine x_puti hx hb hts hinRX2 hown tyX2 tyX2_ok nmX2 B 44 3 (by decide) (by decide) (fun _ => rfl) rfl rfl (by decide) (by decide +kernel) rfl rfl rfl rfl dX2_copyFrom_32 (fun H locs B => ?_)
  refine W.widen (k := 0) (n := 0) (Nat.le_of_ble_eq_true rfl) (Nat.le_of_ble_eq_true rfl) ?_
  exact x_vret hx hb hr hlocks B hf dX2_copyFrom_35
def rm_X8_copyRow_22_46 : Room := { frames := 1, cells := 0, slots := 0, locals := 200 }
set_option maxHeartbeats 4000000 in
set_option maxRecDepth 100000 in
theorem c_X8_copyRow_22_46 (l : Launch) {G : zG} {ad : Nat → Nat} {σ σ' : zs} {r : Int32} (hf : f_X8_copyRow_22_46 σ  = some (r, σ')) : xMv l yX8_copyRow wsX8_copyRow rm_X8_copyRow_22_46 G ad σ [.ref (ad 22), .ref (ad 46)] σ' := by
  intro sz nb a g hs
  refine Met.ofW (cc := cX8_copyRow) (maxL := 2) (ret := none) (by decide) rfl ?_
  intro p e s m args below meth c s₁ B hml hv
  obtain ⟨rfl, hsz, hv⟩ := hv
  have hx := B.exec
  have hb := B.bytes
  have hr := B.returns
  have hts := atoms_spec (ws := wsX8_copyRow) B.pre
  have hown : s.vm.findClass RX8 = some m.cls := findClass_of_methodNamed B.named
  have hlocks := B.notSynchronized
  subst hsz
  have B := xB_start hs hv
  have hl := lv_entry ([.ref (ad 22), .ref (ad 46)]) (n := 2) (Nat.le_of_ble_eq_true rfl)
  rw [lg_entry_eq]
  generalize (lg_sl ([.ref (ad 22), .ref (ad 46)]) ++ List.replicate (2 - (lg_sl ([.ref (ad 22), .ref (ad 46)])).length) Slot.unset).toArray = ls at hl ⊢
  have hl : lv_has ls 2 [(0, .ref (ad 22)), (1, .ref (ad 46))] := hl
  generalize hAe : xA ad a s.heap.size = A at B ⊢
  unfold f_X8_copyRow_22_46 at hf
  refine lv_aload_n hx hb dX8_copyRow_0 rfl (lv_at hl 0 rfl) ?_
  refine x_alen hx hb B 22 (v := (12 : Int32)) (by decide) (fun _ => rfl) rfl (by decide) dX8_copyRow_1 ?_
  refine lv_aload_n hx hb dX8_copyRow_2 rfl (lv_at hl 1 rfl) ?_
  refine x_alen hx hb B 46 (v := (12 : Int32)) (by decide) (fun _ => rfl) rfl (by decide) dX8_copyRow_3 ?_
  refine lv_icmp_ne (tgt := 16) hx hb dX8_copyRow_4 (by decide) (fun hc => absurd (by decide) hc) (fun hc => ?_)
  refine lv_aload_n hx hb dX8_copyRow_7 rfl (lv_at hl 0 rfl) ?_
  refine lv_iconst (v := (0 : Int32)) hx hb dX8_copyRow_8 (by decide) ?_
  refine lv_aload_n hx hb dX8_copyRow_9 rfl (lv_at hl 1 rfl) ?_
  refine lv_iconst (v := (0 : Int32)) hx hb dX8_copyRow_10 (by decide) ?_
  refine lv_aload_n hx hb dX8_copyRow_11 rfl (lv_at hl 0 rfl) ?_
  refine x_alen hx hb B 22 (v := (12 : Int32)) (by decide) (fun _ => rfl) rfl (by decide) dX8_copyRow_12 ?_
  obtain ⟨hg, hf⟩ := zg_some hf
  obtain ⟨g1, g2, g3, g4, g5⟩ := zcp_ok hg
  refine x_copyi hx hb (hml.trans hl.1.symm) hts hown (index := 415) (by decide +kernel) (by decide +kernel) (by decide +kernel) (by decide +kernel) B 22 46 (by decide) (by decide) (by decide) (fun _ => rfl) (fun _ => rfl) g1 g2 g3 g4 g5 (Nat.le_of_ble_eq_true rfl) (Nat.le_of_ble_eq_true rfl) dX8_copyRow_13 (fun H locs B => ?_)
  refine W.widen (k := 0) (n := 0) (Nat.le_of_ble_eq_true rfl) (Nat.le_of_ble_eq_true rfl) ?_
  exact x_vret hx hb hr hlocks B hf dX8_copyRow_16
def rm_X8_copyRow_23_47 : Room := { frames := 1, cells := 0, slots := 0, locals := 200 }
set_option maxHeartbeats 4000000 in
set_option maxRecDepth 100000 in
theorem c_X8_copyRow_23_47 (l : Launch) {G : zG} {ad : Nat → Nat} {σ σ' : zs} {r : Int32} (hf : f_X8_copyRow_23_47 σ  = some (r, σ')) : xMv l yX8_copyRow wsX8_copyRow rm_X8_copyRow_23_47 G ad σ [.ref (ad 23), .ref (ad 47)] σ' := by
  intro sz nb a g hs
  refine Met.ofW (cc := cX8_copyRow) (maxL := 2) (ret := none) (by decide) rfl ?_
  intro p e s m args below meth c s₁ B hml hv
  obtain ⟨rfl, hsz, hv⟩ := hv
  have hx := B.exec
  have hb := B.bytes
  have hr := B.returns
  have hts := atoms_spec (ws := wsX8_copyRow) B.pre
  have hown : s.vm.findClass RX8 = some m.cls := findClass_of_methodNamed B.named
  have hlocks := B.notSynchronized
  subst hsz
  have B := xB_start hs hv
  have hl := lv_entry ([.ref (ad 23), .ref (ad 47)]) (n := 2) (Nat.le_of_ble_eq_true rfl)
  rw [lg_entry_eq]
  generalize (lg_sl ([.ref (ad 23), .ref (ad 47)]) ++ List.replicate (2 - (lg_sl ([.ref (ad 23), .ref (ad 47)])).length) Slot.unset).toArray = ls at hl ⊢
  have hl : lv_has ls 2 [(0, .ref (ad 23)), (1, .ref (ad 47))] := hl
  generalize hAe : xA ad a s.heap.size = A at B ⊢
  unfold f_X8_copyRow_23_47 at hf
  refine lv_aload_n hx hb dX8_copyRow_0 rfl (lv_at hl 0 rfl) ?_
  refine x_alen hx hb B 23 (v := (12 : Int32)) (by decide) (fun _ => rfl) rfl (by decide) dX8_copyRow_1 ?_
  refine lv_aload_n hx hb dX8_copyRow_2 rfl (lv_at hl 1 rfl) ?_
  refine x_alen hx hb B 47 (v := (12 : Int32)) (by decide) (fun _ => rfl) rfl (by decide) dX8_copyRow_3 ?_
  refine lv_icmp_ne (tgt := 16) hx hb dX8_copyRow_4 (by decide) (fun hc => absurd (by decide) hc) (fun hc => ?_)
  refine lv_aload_n hx hb dX8_copyRow_7 rfl (lv_at hl 0 rfl) ?_
  refine lv_iconst (v := (0 : Int32)) hx hb dX8_copyRow_8 (by decide) ?_
  refine lv_aload_n hx hb dX8_copyRow_9 rfl (lv_at hl 1 rfl) ?_
  refine lv_iconst (v := (0 : Int32)) hx hb dX8_copyRow_10 (by decide) ?_
  refine lv_aload_n hx hb dX8_copyRow_11 rfl (lv_at hl 0 rfl) ?_
  refine x_alen hx hb B 23 (v := (12 : Int32)) (by decide) (fun _ => rfl) rfl (by decide) dX8_copyRow_12 ?_
  obtain ⟨hg, hf⟩ := zg_some hf
  obtain ⟨g1, g2, g3, g4, g5⟩ := zcp_ok hg
  refine x_copyi hx hb (hml.trans hl.1.symm) hts hown (index := 415) (by decide +kernel) (by decide +kernel) (by decide +kernel) (by decide +kernel) B 23 47 (by decide) (by decide) (by decide) (fun _ => rfl) (fun _ => rfl) g1 g2 g3 g4 g5 (Nat.le_of_ble_eq_true rfl) (Nat.le_of_ble_eq_true rfl) dX8_copyRow_13 (fun H locs B => ?_)
  refine W.widen (k := 0) (n := 0) (Nat.le_of_ble_eq_true rfl) (Nat.le_of_ble_eq_true rfl) ?_
  exact x_vret hx hb hr hlocks B hf dX8_copyRow_16
def rm_X8_copyRow_24_48 : Room := { frames := 1, cells := 0, slots := 0, locals := 200 }
set_option maxHeartbeats 4000000 in
set_option maxRecDepth 100000 in
theorem c_X8_copyRow_24_48 (l : Launch) {G : zG} {ad : Nat → Nat} {σ σ' : zs} {r : Int32} (hf : f_X8_copyRow_24_48 σ  = some (r, σ')) : xMv l yX8_copyRow wsX8_copyRow rm_X8_copyRow_24_48 G ad σ [.ref (ad 24), .ref (ad 48)] σ' := by
  intro sz nb a g hs
  refine Met.ofW (cc := cX8_copyRow) (maxL := 2) (ret := none) (by decide) rfl ?_
  intro p e s m args below meth c s₁ B hml hv
  obtain ⟨rfl, hsz, hv⟩ := hv
  have hx := B.exec
  have hb := B.bytes
  have hr := B.returns
  have hts := atoms_spec (ws := wsX8_copyRow) B.pre
  have hown : s.vm.findClass RX8 = some m.cls := findClass_of_methodNamed B.named
  have hlocks := B.notSynchronized
  subst hsz
  have B := xB_start hs hv
  have hl := lv_entry ([.ref (ad 24), .ref (ad 48)]) (n := 2) (Nat.le_of_ble_eq_true rfl)
  rw [lg_entry_eq]
  generalize (lg_sl ([.ref (ad 24), .ref (ad 48)]) ++ List.replicate (2 - (lg_sl ([.ref (ad 24), .ref (ad 48)])).length) Slot.unset).toArray = ls at hl ⊢
  have hl : lv_has ls 2 [(0, .ref (ad 24)), (1, .ref (ad 48))] := hl
  generalize hAe : xA ad a s.heap.size = A at B ⊢
  unfold f_X8_copyRow_24_48 at hf
  refine lv_aload_n hx hb dX8_copyRow_0 rfl (lv_at hl 0 rfl) ?_
  refine x_alen hx hb B 24 (v := (28 : Int32)) (by decide) (fun _ => rfl) rfl (by decide) dX8_copyRow_1 ?_
  refine lv_aload_n hx hb dX8_copyRow_2 rfl (lv_at hl 1 rfl) ?_
  refine x_alen hx hb B 48 (v := (28 : Int32)) (by decide) (fun _ => rfl) rfl (by decide) dX8_copyRow_3 ?_
  refine lv_icmp_ne (tgt := 16) hx hb dX8_copyRow_4 (by decide) (fun hc => absurd (by decide) hc) (fun hc => ?_)
  refine lv_aload_n hx hb dX8_copyRow_7 rfl (lv_at hl 0 rfl) ?_
  refine lv_iconst (v := (0 : Int32)) hx hb dX8_copyRow_8 (by decide) ?_
  refine lv_aload_n hx hb dX8_copyRow_9 rfl (lv_at hl 1 rfl) ?_
  refine lv_iconst (v := (0 : Int32)) hx hb dX8_copyRow_10 (by decide) ?_
  refine lv_aload_n hx hb dX8_copyRow_11 rfl (lv_at hl 0 rfl) ?_
  refine x_alen hx hb B 24 (v := (28 : Int32)) (by decide) (fun _ => rfl) rfl (by decide) dX8_copyRow_12 ?_
  obtain ⟨hg, hf⟩ := zg_some hf
  obtain ⟨g1, g2, g3, g4, g5⟩ := zcp_ok hg
  refine x_copyi hx hb (hml.trans hl.1.symm) hts hown (index := 415) (by decide +kernel) (by decide +kernel) (by decide +kernel) (by decide +kernel) B 24 48 (by decide) (by decide) (by decide) (fun _ => rfl) (fun _ => rfl) g1 g2 g3 g4 g5 (Nat.le_of_ble_eq_true rfl) (Nat.le_of_ble_eq_true rfl) dX8_copyRow_13 (fun H locs B => ?_)
  refine W.widen (k := 0) (n := 0) (Nat.le_of_ble_eq_true rfl) (Nat.le_of_ble_eq_true rfl) ?_
  exact x_vret hx hb hr hlocks B hf dX8_copyRow_16
