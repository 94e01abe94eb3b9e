theorem dX9_timesLeft_0 : decode cX9_timesLeft 0 = .ok (.iconst (-1), 1) := by decide +kernel
theorem dX9_timesLeft_1 : decode cX9_timesLeft 1 = .ok (.istore_n 2, 1) := by decide +kernel
theorem dX9_timesLeft_2 : decode cX9_timesLeft 2 = .ok (.iload_n 1, 1) := by decide +kernel
theorem dX9_timesLeft_3 : decode cX9_timesLeft 3 = .ok (.istore_n 3, 1) := by decide +kernel
theorem dX9_timesLeft_4 : decode cX9_timesLeft 4 = .ok (.iload_n 3, 1) := by decide +kernel
theorem dX9_timesLeft_5 : decode cX9_timesLeft 5 = .ok (.ifCond .lt 93, 3) := by decide +kernel
theorem dX9_timesLeft_8 : decode cX9_timesLeft 8 = .ok (.iconst 0, 1) := by decide +kernel
theorem dX9_timesLeft_9 : decode cX9_timesLeft 9 = .ok (.istore 4, 2) := by decide +kernel
theorem dX9_timesLeft_11 : decode cX9_timesLeft 11 = .ok (.iload 4, 2) := by decide +kernel
theorem dX9_timesLeft_13 : decode cX9_timesLeft 13 = .ok (.aload_n 0, 1) := by decide +kernel
theorem dX9_timesLeft_14 : decode cX9_timesLeft 14 = .ok (.getfield 9, 3) := by decide +kernel
theorem dX9_timesLeft_17 : decode cX9_timesLeft 17 = .ok (.sipush 191, 3) := by decide +kernel
theorem dX9_timesLeft_20 : decode cX9_timesLeft 20 = .ok (.iload_n 3, 1) := by decide +kernel
theorem dX9_timesLeft_21 : decode cX9_timesLeft 21 = .ok (.iadd, 1) := by decide +kernel
theorem dX9_timesLeft_22 : decode cX9_timesLeft 22 = .ok (.iaload, 1) := by decide +kernel
theorem dX9_timesLeft_23 : decode cX9_timesLeft 23 = .ok (.if_icmp .ge 62, 3) := by decide +kernel
theorem dX9_timesLeft_26 : decode cX9_timesLeft 26 = .ok (.aload_n 0, 1) := by decide +kernel
theorem dX9_timesLeft_27 : decode cX9_timesLeft 27 = .ok (.iload_n 3, 1) := by decide +kernel
theorem dX9_timesLeft_28 : decode cX9_timesLeft 28 = .ok (.iload 4, 2) := by decide +kernel
theorem dX9_timesLeft_30 : decode cX9_timesLeft 30 = .ok (.iconst 0, 1) := by decide +kernel
theorem dX9_timesLeft_31 : decode cX9_timesLeft 31 = .ok (.invokevirtual 55, 3) := by decide +kernel
theorem dX9_timesLeft_34 : decode cX9_timesLeft 34 = .ok (.iconst 3, 1) := by decide +kernel
theorem dX9_timesLeft_35 : decode cX9_timesLeft 35 = .ok (.if_icmp .ne 44, 3) := by decide +kernel
theorem dX9_timesLeft_38 : decode cX9_timesLeft 38 = .ok (.iconst 0, 1) := by decide +kernel
theorem dX9_timesLeft_39 : decode cX9_timesLeft 39 = .ok (.aload_n 0, 1) := by decide +kernel
theorem dX9_timesLeft_40 : decode cX9_timesLeft 40 = .ok (.iload_n 3, 1) := by decide +kernel
theorem dX9_timesLeft_41 : decode cX9_timesLeft 41 = .ok (.iload 4, 2) := by decide +kernel
theorem dX9_timesLeft_43 : decode cX9_timesLeft 43 = .ok (.iconst 1, 1) := by decide +kernel
theorem dX9_timesLeft_44 : decode cX9_timesLeft 44 = .ok (.invokevirtual 55, 3) := by decide +kernel
theorem dX9_timesLeft_47 : decode cX9_timesLeft 47 = .ok (.aload_n 0, 1) := by decide +kernel
theorem dX9_timesLeft_48 : decode cX9_timesLeft 48 = .ok (.getfield 9, 3) := by decide +kernel
theorem dX9_timesLeft_51 : decode cX9_timesLeft 51 = .ok (.sipush 163, 3) := by decide +kernel
theorem dX9_timesLeft_54 : decode cX9_timesLeft 54 = .ok (.iload_n 3, 1) := by decide +kernel
theorem dX9_timesLeft_55 : decode cX9_timesLeft 55 = .ok (.iadd, 1) := by decide +kernel
theorem dX9_timesLeft_56 : decode cX9_timesLeft 56 = .ok (.iaload, 1) := by decide +kernel
theorem dX9_timesLeft_57 : decode cX9_timesLeft 57 = .ok (.isub, 1) := by decide +kernel
theorem dX9_timesLeft_58 : decode cX9_timesLeft 58 = .ok (.invokestatic 159, 3) := by decide +kernel
theorem dX9_timesLeft_61 : decode cX9_timesLeft 61 = .ok (.istore 5, 2) := by decide +kernel
theorem dX9_timesLeft_63 : decode cX9_timesLeft 63 = .ok (.iload_n 2, 1) := by decide +kernel
theorem dX9_timesLeft_64 : decode cX9_timesLeft 64 = .ok (.ifCond .ge 8, 3) := by decide +kernel
theorem dX9_timesLeft_67 : decode cX9_timesLeft 67 = .ok (.iload 5, 2) := by decide +kernel
theorem dX9_timesLeft_69 : decode cX9_timesLeft 69 = .ok (.goto 9, 3) := by decide +kernel
theorem dX9_timesLeft_72 : decode cX9_timesLeft 72 = .ok (.iload_n 2, 1) := by decide +kernel
theorem dX9_timesLeft_73 : decode cX9_timesLeft 73 = .ok (.iload 5, 2) := by decide +kernel
theorem dX9_timesLeft_75 : decode cX9_timesLeft 75 = .ok (.invokestatic 165, 3) := by decide +kernel
theorem dX9_timesLeft_78 : decode cX9_timesLeft 78 = .ok (.istore_n 2, 1) := by decide +kernel
theorem dX9_timesLeft_79 : decode cX9_timesLeft 79 = .ok (.iinc 4 1, 3) := by decide +kernel
theorem dX9_timesLeft_82 : decode cX9_timesLeft 82 = .ok (.goto (-71), 3) := by decide +kernel
theorem dX9_timesLeft_85 : decode cX9_timesLeft 85 = .ok (.aload_n 0, 1) := by decide +kernel
theorem dX9_timesLeft_86 : decode cX9_timesLeft 86 = .ok (.getfield 9, 3) := by decide +kernel
theorem dX9_timesLeft_89 : decode cX9_timesLeft 89 = .ok (.bipush 79, 2) := by decide +kernel
theorem dX9_timesLeft_91 : decode cX9_timesLeft 91 = .ok (.iload_n 3, 1) := by decide +kernel
theorem dX9_timesLeft_92 : decode cX9_timesLeft 92 = .ok (.iadd, 1) := by decide +kernel
theorem dX9_timesLeft_93 : decode cX9_timesLeft 93 = .ok (.iaload, 1) := by decide +kernel
theorem dX9_timesLeft_94 : decode cX9_timesLeft 94 = .ok (.istore_n 3, 1) := by decide +kernel
theorem dX9_timesLeft_95 : decode cX9_timesLeft 95 = .ok (.goto (-91), 3) := by decide +kernel
theorem dX9_timesLeft_98 : decode cX9_timesLeft 98 = .ok (.iload_n 2, 1) := by decide +kernel
theorem dX9_timesLeft_99 : decode cX9_timesLeft 99 = .ok (.ireturn, 1) := by decide +kernel
set_option maxRecDepth 20000 in
theorem ggX9_timesLeft_X9_part : GoodIn wsX9_timesLeft wsX9_part := goodIn_ca (goodIn_r _ [13, 1, 14, 15, 16, 17, 18, 19, 20, 21, 22, 23, 24, 25, 26, 27, 28, 29, 30, 31, 32, 33] (by decide +kernel) (by decide +kernel)) (goodIn_sub (fun _ h => List.mem_cons_of_mem _ (List.mem_append_right _ h)) (by decide +kernel))
set_option maxRecDepth 20000 in
theorem gX9_timesLeft_X9_part : GoodIn wsX9_timesLeft (wsV RX9 55 RX9 yX9_part wsX9_part) := goodIn_app (goodIn_of _ (by decide +kernel)) ggX9_timesLeft_X9_part
def rm_X9_timesLeft : Room := { frames := 2, cells := 0, slots := 0, locals := 40 }
set_option maxHeartbeats 4000000 in
set_option maxRecDepth 100000 in
theorem c_X9_timesLeft (l : Launch) {G : zG} {ad : Nat → Nat} {σ σ' : zs} {a1 : Int32} {r : Int32} (hf : f_X9_timesLeft σ a1 = some (r, σ')) : xMi l yX9_timesLeft wsX9_timesLeft rm_X9_timesLeft G ad σ [.ref (ad 65), .int a1] r σ' := by
  intro sz nb a g hs
  refine Met.ofW (cc := cX9_timesLeft) (maxL := 6) (ret := (some .int)) (by decide) rfl ?_
  intro p e s m args below meth c s₁ B hml hv
  obtain ⟨rfl, hsz, hv⟩ := hv
  have hx := B.exec
  have hb := B.bytes
  have hr := B.returns
  have hts := atoms_spec (ws := wsX9_timesLeft) B.pre
  have hown : s.vm.findClass RX9 = some m.cls := findClass_of_methodNamed B.named
  have hlocks := B.notSynchronized
  subst hsz
  have B := xB_start hs hv
  have hinRX9 : ∀ w ∈ wsX90, w ∈ wsX9_timesLeft := by decide +kernel
  have hl := lv_entry ([.ref (ad 65), .int a1]) (n := 6) (Nat.le_of_ble_eq_true rfl)
  rw [lg_entry_eq]
  generalize (lg_sl ([.ref (ad 65), .int a1]) ++ List.replicate (6 - (lg_sl ([.ref (ad 65), .int a1])).length) Slot.unset).toArray = ls at hl ⊢
  have hl : lv_has ls 6 [(0, .ref (ad 65)), (1, .int a1)] := hl
  generalize hAe : xA ad a s.heap.size = A at B ⊢
  have L11 : ∀ (K4 : zs → Int32 → Int32 → Option (Int32 × zs)) (hK4 : ∀ (σ : zs) (v2 : Int32) (v3 : Int32) (H : Heap) (locs : List Loc) (ls : Array Slot), K4 σ v2 v3 = some (r, σ') → xB A s G ad σ H locs → lv_has ls 6 [(0, .ref (ad 65)), (2, .int v2), (3, .int v3)] → W p l e (headSpec wsX9_timesLeft rm_X9_timesLeft).room s m ([.ref (ad 65), .int a1] : List Value).toArray below meth c H locs 0 0 (MQ below (va_Qi (fun r' (u : xV) => r' = r ∧ xQ σ' u) (xPost G ad σ' A) A) ([.ref (ad 65), .int a1] : List Value).toArray s 0 0 A) (F0 m 4 ls [])) (n : Nat) (σ : zs) (v2 : Int32) (v3 : Int32) (v4 : Int32) (H : Heap) (locs : List Loc) (ls : Array Slot), zlp3 (f_X9_timesLeft_11 K4) n σ v2 v3 v4 = some (r, σ') → xB A s G ad σ H locs → lv_has ls 6 [(0, .ref (ad 65)), (2, .int v2), (3, .int v3), (4, .int v4)] → W p l e (headSpec wsX9_timesLeft rm_X9_timesLeft).room s m ([.ref (ad 65), .int a1] : List Value).toArray below meth c H locs 0 0 (MQ below (va_Qi (fun r' (u : xV) => r' = r ∧ xQ σ' u) (xPost G ad σ' A) A) ([.ref (ad 65), .int a1] : List Value).toArray s 0 0 A) (F0 m 11 ls []) := by
    intro K4 hK4 n
    induction n with
    | zero =>
      intro σ v2 v3 v4 H locs ls hf
      cases hf
    | succ n ih =>
      intro σ v2 v3 v4 H locs ls hf B hl
      have hf : f_X9_timesLeft_11 K4 (zlp3 (f_X9_timesLeft_11 K4) n) σ v2 v3 v4 = some (r, σ') := hf
      unfold f_X9_timesLeft_11 at hf
      refine lv_iload hx hb dX9_timesLeft_11 (lv_at hl 3 rfl) ?_
      refine lv_aload_n hx hb dX9_timesLeft_13 rfl (lv_at hl 0 rfl) ?_
      refine x_getr hx hb hts hinRX9 hown B 65 0 66 (by decide) (by decide) (fun _ => rfl) rfl rfl (by decide) (by decide +kernel) rfl dX9_timesLeft_14 ?_
      refine lv_sipush (v := (191 : Int32)) hx hb dX9_timesLeft_17 (by decide) ?_
      refine lv_iload_n hx hb dX9_timesLeft_20 rfl (lv_at hl 2 rfl) ?_
      refine lv_iadd hx hb dX9_timesLeft_21 ?_
      obtain ⟨hg, hf⟩ := zg_some hf
      refine x_iald hx hb B 66 (by decide) (fun _ => rfl) (zin_ok hg) dX9_timesLeft_22 ?_
      refine lv_icmp_ge (tgt := 85) hx hb dX9_timesLeft_23 (by decide) (fun hc => ?_) (fun hc => ?_)
      · have hf := zif_t hc hf
        refine lv_aload_n hx hb dX9_timesLeft_85 rfl (lv_at hl 0 rfl) ?_
        refine x_getr hx hb hts hinRX9 hown B 65 0 66 (by decide) (by decide) (fun _ => rfl) rfl rfl (by decide) (by decide +kernel) rfl dX9_timesLeft_86 ?_
        refine lv_bipush (v := (79 : Int32)) hx hb dX9_timesLeft_89 (by decide) ?_
        refine lv_iload_n hx hb dX9_timesLeft_91 rfl (lv_at hl 2 rfl) ?_
        refine lv_iadd hx hb dX9_timesLeft_92 ?_
        obtain ⟨hg, hf⟩ := zg_some hf
        refine x_iald hx hb B 66 (by decide) (fun _ => rfl) (zin_ok hg) dX9_timesLeft_93 ?_
        refine lv_istore_n (lv' := [(3, .int (σ 66 ((79 : Int32) + v3).toNatClampNeg)), (0, .ref (ad 65)), (2, .int v2), (4, .int v4)]) hx hb dX9_timesLeft_94 rfl hl (by decide) rfl (fun ls hl => ?_)
        refine lv_goto (tgt := 4) hx hb dX9_timesLeft_95 (by decide) ?_
        exact hK4 _ _ _ _ _ _ hf B (lv_sub hl [1, 2, 0] rfl)
      · have hf := zif_f hc hf
        refine lv_aload_n hx hb dX9_timesLeft_26 rfl (lv_at hl 0 rfl) ?_
        refine lv_iload_n hx hb dX9_timesLeft_27 rfl (lv_at hl 2 rfl) ?_
        refine lv_iload hx hb dX9_timesLeft_28 (lv_at hl 3 rfl) ?_
        refine lv_iconst (v := (0 : Int32)) hx hb dX9_timesLeft_30 (by decide) ?_
        obtain ⟨r2, σ3, hu1, hf⟩ := zb_some hf
        refine x_i B (fun nb a g hs Bz => va_runV (As := [.int v3, .int v4, .int (0 : Int32)]) (rest := []) ⟨hx, hb, hml, hown, hts⟩ (c_X9_part l hu1 _ nb a g hs) (cwV 3 hts gX9_timesLeft_X9_part rfl rfl rfl (by decide +kernel) ⟨Nat.le_of_ble_eq_true rfl, Nat.le_of_ble_eq_true rfl⟩) (x_preV Bz (by decide) (fun _ => rfl) rfl) rfl rfl hl.1 rfl (lv_room (Nat.le_of_ble_eq_true rfl)) dX9_timesLeft_31 ⟨Nat.le_of_ble_eq_true rfl, Nat.le_of_ble_eq_true rfl⟩) (fun H locs B => ?_)
        refine lv_iconst (v := (3 : Int32)) hx hb dX9_timesLeft_34 (by decide) ?_
        refine lv_icmp_ne (tgt := 79) hx hb dX9_timesLeft_35 (by decide) (fun hc => ?_) (fun hc => ?_)
        · have hf := zif_f hc hf
          refine lv_iinc (v := (v4 + (1 : Int32))) (lv' := [(4, .int (v4 + (1 : Int32))), (0, .ref (ad 65)), (2, .int v2), (3, .int v3)]) hx hb dX9_timesLeft_79 hl (k := 3) rfl (zc1 (by decide)) (by decide) rfl (fun ls hl => ?_)
          refine lv_goto (tgt := 11) hx hb dX9_timesLeft_82 (by decide) ?_
          exact ih _ _ _ _ _ _ _ hf B (lv_sub hl [1, 2, 3, 0] rfl)
        · have hf := zif_t hc hf
          refine lv_iconst (v := (0 : Int32)) hx hb dX9_timesLeft_38 (by decide) ?_
          refine lv_aload_n hx hb dX9_timesLeft_39 rfl (lv_at hl 0 rfl) ?_
          refine lv_iload_n hx hb dX9_timesLeft_40 rfl (lv_at hl 2 rfl) ?_
          refine lv_iload hx hb dX9_timesLeft_41 (lv_at hl 3 rfl) ?_
          refine lv_iconst (v := (1 : Int32)) hx hb dX9_timesLeft_43 (by decide) ?_
          obtain ⟨r5, σ6, hu4, hf⟩ := zb_some hf
          refine x_i B (fun nb a g hs Bz => va_runV (As := [.int v3, .int v4, .int (1 : Int32)]) (rest := [.int (0 : Int32)]) ⟨hx, hb, hml, hown, hts⟩ (c_X9_part l hu4 _ nb a g hs) (cwV 3 hts gX9_timesLeft_X9_part rfl rfl rfl (by decide +kernel) ⟨Nat.le_of_ble_eq_true rfl, Nat.le_of_ble_eq_true rfl⟩) (x_preV Bz (by decide) (fun _ => rfl) rfl) rfl rfl hl.1 rfl (lv_room (Nat.le_of_ble_eq_true rfl)) dX9_timesLeft_44 ⟨Nat.le_of_ble_eq_true rfl, Nat.le_of_ble_eq_true rfl⟩) (fun H locs B => ?_)
          refine lv_aload_n hx hb dX9_timesLeft_47 rfl (lv_at hl 0 rfl) ?_
          refine x_getr hx hb hts hinRX9 hown B 65 0 66 (by decide) (by decide) (fun _ => rfl) rfl rfl (by decide) (by decide +kernel) rfl dX9_timesLeft_48 ?_
          refine lv_sipush (v := (163 : Int32)) hx hb dX9_timesLeft_51 (by decide) ?_
          refine lv_iload_n hx hb dX9_timesLeft_54 rfl (lv_at hl 2 rfl) ?_
          refine lv_iadd hx hb dX9_timesLeft_55 ?_
          obtain ⟨hg, hf⟩ := zg_some hf
          refine x_iald hx hb B 66 (by decide) (fun _ => rfl) (zin_ok hg) dX9_timesLeft_56 ?_
          refine lv_isub hx hb dX9_timesLeft_57 ?_
          refine va_mmax hx hb (hml.trans hl.1.symm) hown (index := 159) (hts _ (by decide +kernel)) (hts _ (by decide +kernel)) (hts _ (by decide +kernel)) (hts _ (by decide +kernel)) (Nat.le_of_ble_eq_true rfl) (Nat.le_of_ble_eq_true rfl) (Nat.le_of_ble_eq_true rfl) (Nat.le_of_ble_eq_true rfl) dX9_timesLeft_58 ?_
          refine lv_istore (lv' := [(5, .int (if (0 : Int32) < (r5 - (σ6 66 ((163 : Int32) + v3).toNatClampNeg)) then (r5 - (σ6 66 ((163 : Int32) + v3).toNatClampNeg)) else (0 : Int32))), (0, .ref (ad 65)), (2, .int v2), (3, .int v3), (4, .int v4)]) hx hb dX9_timesLeft_61 hl (by decide) rfl (fun ls hl => ?_)
          refine lv_iload_n hx hb dX9_timesLeft_63 rfl (lv_at hl 2 rfl) ?_
          refine lv_if_ge (tgt := 72) hx hb dX9_timesLeft_64 (by decide) (fun hc => ?_) (fun hc => ?_)
          · have hf := zif_t hc hf
            refine lv_iload_n hx hb dX9_timesLeft_72 rfl (lv_at hl 2 rfl) ?_
            refine lv_iload hx hb dX9_timesLeft_73 (lv_at hl 0 rfl) ?_
            refine va_mmin hx hb (hml.trans hl.1.symm) hown (index := 165) (hts _ (by decide +kernel)) (hts _ (by decide +kernel)) (hts _ (by decide +kernel)) (hts _ (by decide +kernel)) (Nat.le_of_ble_eq_true rfl) (Nat.le_of_ble_eq_true rfl) (Nat.le_of_ble_eq_true rfl) (Nat.le_of_ble_eq_true rfl) dX9_timesLeft_75 ?_
            refine lv_istore_n (lv' := [(2, .int (if (if (0 : Int32) < (r5 - (σ6 66 ((163 : Int32) + v3).toNatClampNeg)) then (r5 - (σ6 66 ((163 : Int32) + v3).toNatClampNeg)) else (0 : Int32)) < v2 then (if (0 : Int32) < (r5 - (σ6 66 ((163 : Int32) + v3).toNatClampNeg)) then (r5 - (σ6 66 ((163 : Int32) + v3).toNatClampNeg)) else (0 : Int32)) else v2)), (5, .int (if (0 : Int32) < (r5 - (σ6 66 ((163 : Int32) + v3).toNatClampNeg)) then (r5 - (σ6 66 ((163 : Int32) + v3).toNatClampNeg)) else (0 : Int32))), (0, .ref (ad 65)), (3, .int v3), (4, .int v4)]) hx hb dX9_timesLeft_78 rfl hl (by decide) rfl (fun ls hl => ?_)
            refine lv_iinc (v := (v4 + (1 : Int32))) (lv' := [(4, .int (v4 + (1 : Int32))), (2, .int (if (if (0 : Int32) < (r5 - (σ6 66 ((163 : Int32) + v3).toNatClampNeg)) then (r5 - (σ6 66 ((163 : Int32) + v3).toNatClampNeg)) else (0 : Int32)) < v2 then (if (0 : Int32) < (r5 - (σ6 66 ((163 : Int32) + v3).toNatClampNeg)) then (r5 - (σ6 66 ((163 : Int32) + v3).toNatClampNeg)) else (0 : Int32)) else v2)), (5, .int (if (0 : Int32) < (r5 - (σ6 66 ((163 : Int32) + v3).toNatClampNeg)) then (r5 - (σ6 66 ((163 : Int32) + v3).toNatClampNeg)) else (0 : Int32))), (0, .ref (ad 65)), (3, .int v3)]) hx hb dX9_timesLeft_79 hl (k := 4) rfl (zc1 (by decide)) (by decide) rfl (fun ls hl => ?_)
            refine lv_goto (tgt := 11) hx hb dX9_timesLeft_82 (by decide) ?_
            exact ih _ _ _ _ _ _ _ hf B (lv_sub hl [3, 1, 4, 0] rfl)
          · have hf := zif_f hc hf
            refine lv_iload hx hb dX9_timesLeft_67 (lv_at hl 0 rfl) ?_
            refine lv_goto (tgt := 78) hx hb dX9_timesLeft_69 (by decide) ?_
            refine lv_istore_n (lv' := [(2, .int (if (0 : Int32) < (r5 - (σ6 66 ((163 : Int32) + v3).toNatClampNeg)) then (r5 - (σ6 66 ((163 : Int32) + v3).toNatClampNeg)) else (0 : Int32))), (5, .int (if (0 : Int32) < (r5 - (σ6 66 ((163 : Int32) + v3).toNatClampNeg)) then (r5 - (σ6 66 ((163 : Int32) + v3).toNatClampNeg)) else (0 : Int32))), (0, .ref (ad 65)), (3, .int v3), (4, .int v4)]) hx hb dX9_timesLeft_78 rfl hl (by decide) rfl (fun ls hl => ?_)
            refine lv_iinc (v := (v4 + (1 : Int32))) (lv' := [(4, .int (v4 + (1 : Int32))), (2, .int (if (0 : Int32) < (r5 - (σ6 66 ((163 : Int32) + v3).toNatClampNeg)) then (r5 - (σ6 66 ((163 : Int32) + v3).toNatClampNeg)) else (0 : Int32))), (5, .int (if (0 : Int32) < (r5 - (σ6 66 ((163 : Int32) + v3).toNatClampNeg)) then (r5 - (σ6 66 ((163 : Int32) + v3).toNatClampNeg)) else (0 : Int32))), (0, .ref (ad 65)), (3, .int v3)]) hx hb dX9_timesLeft_79 hl (k := 4) rfl (zc1 (by decide)) (by decide) rfl (fun ls hl => ?_)
            refine lv_goto (tgt := 11) hx hb dX9_timesLeft_82 (by decide) ?_
            exact ih _ _ _ _ _ _ _ hf B (lv_sub hl [3, 1, 4, 0] rfl)
  have L4 : ∀ (n : Nat) (σ : zs) (v2 : Int32) (v3 : Int32) (H : Heap) (locs : List Loc) (ls : Array Slot), zlp2 (f_X9_timesLeft_4) n σ v2 v3 = some (r, σ') → xB A s G ad σ H locs → lv_has ls 6 [(0, .ref (ad 65)), (2, .int v2), (3, .int v3)] → W p l e (headSpec wsX9_timesLeft rm_X9_timesLeft).room s m ([.ref (ad 65), .int a1] : List Value).toArray below meth c H locs 0 0 (MQ below (va_Qi (fun r' (u : xV) => r' = r ∧ xQ σ' u) (xPost G ad σ' A) A) ([.ref (ad 65), .int a1] : List Value).toArray s 0 0 A) (F0 m 4 ls []) := by
    intro n
    induction n with
    | zero =>
      intro σ v2 v3 H locs ls hf
      cases hf
    | succ n ih =>
      intro σ v2 v3 H locs ls hf B hl
      have hf : f_X9_timesLeft_4 (zlp2 (f_X9_timesLeft_4) n) σ v2 v3 = some (r, σ') := hf
      unfold f_X9_timesLeft_4 at hf
      refine lv_iload_n hx hb dX9_timesLeft_4 rfl (lv_at hl 2 rfl) ?_
      refine lv_if_lt (tgt := 98) hx hb dX9_timesLeft_5 (by decide) (fun hc => ?_) (fun hc => ?_)
      · have hf := zif_t hc hf
        refine lv_iload_n hx hb dX9_timesLeft_98 rfl (lv_at hl 1 rfl) ?_
        refine W.widen (k := 0) (n := 0) (Nat.le_of_ble_eq_true rfl) (Nat.le_of_ble_eq_true rfl) ?_
        exact x_iret hx hb hr rfl hlocks B hf dX9_timesLeft_99
      · have hf := zif_f hc hf
        refine lv_iconst (v := (0 : Int32)) hx hb dX9_timesLeft_8 (by decide) ?_
        refine lv_istore (lv' := [(4, .int (0 : Int32)), (0, .ref (ad 65)), (2, .int v2), (3, .int v3)]) hx hb dX9_timesLeft_9 hl (by decide) rfl (fun ls hl => ?_)
        exact L11 _ ih  _ _ _ _ _ _ _ _ hf B (lv_sub hl [1, 2, 3, 0] rfl)
  unfold f_X9_timesLeft at hf
  refine lv_iconst (v := (-1 : Int32)) hx hb dX9_timesLeft_0 (by decide) ?_
  refine lv_istore_n (lv' := [(2, .int (-1 : Int32)), (0, .ref (ad 65)), (1, .int a1)]) hx hb dX9_timesLeft_1 rfl hl (by decide) rfl (fun ls hl => ?_)
  refine lv_iload_n hx hb dX9_timesLeft_2 rfl (lv_at hl 2 rfl) ?_
  refine lv_istore_n (lv' := [(3, .int a1), (2, .int (-1 : Int32)), (0, .ref (ad 65)), (1, .int a1)]) hx hb dX9_timesLeft_3 rfl hl (by decide) rfl (fun ls hl => ?_)
  exact L4  _ _ _ _ _ _ _ hf B (lv_sub hl [2, 1, 0] rfl)
theorem dX9_setLeft_0 : decode cX9_setLeft 0 = .ok (.iload_n 2, 1) := by decide +kernel
theorem dX9_setLeft_1 : decode cX9_setLeft 1 = .ok (.iconst 2, 1) := by decide +kernel
theorem dX9_setLeft_2 : decode cX9_setLeft 2 = .ok (.if_icmp .ne 8, 3) := by decide +kernel
theorem dX9_setLeft_5 : decode cX9_setLeft 5 = .ok (.bipush 63, 2) := by decide +kernel
theorem dX9_setLeft_7 : decode cX9_setLeft 7 = .ok (.goto 5, 3) := by decide +kernel
theorem dX9_setLeft_10 : decode cX9_setLeft 10 = .ok (.bipush 15, 2) := by decide +kernel
theorem dX9_setLeft_12 : decode cX9_setLeft 12 = .ok (.istore_n 3, 1) := by decide +kernel
theorem dX9_setLeft_13 : decode cX9_setLeft 13 = .ok (.iload_n 1, 1) := by decide +kernel
theorem dX9_setLeft_14 : decode cX9_setLeft 14 = .ok (.istore 4, 2) := by decide +kernel
theorem dX9_setLeft_16 : decode cX9_setLeft 16 = .ok (.iload 4, 2) := by decide +kernel
theorem dX9_setLeft_18 : decode cX9_setLeft 18 = .ok (.ifCond .lt 87, 3) := by decide +kernel
theorem dX9_setLeft_21 : decode cX9_setLeft 21 = .ok (.iconst 0, 1) := by decide +kernel
theorem dX9_setLeft_22 : decode cX9_setLeft 22 = .ok (.istore 5, 2) := by decide +kernel
theorem dX9_setLeft_24 : decode cX9_setLeft 24 = .ok (.iload 5, 2) := by decide +kernel
theorem dX9_setLeft_26 : decode cX9_setLeft 26 = .ok (.aload_n 0, 1) := by decide +kernel
theorem dX9_setLeft_27 : decode cX9_setLeft 27 = .ok (.getfield 9, 3) := by decide +kernel
theorem dX9_setLeft_30 : decode cX9_setLeft 30 = .ok (.sipush 191, 3) := by decide +kernel
theorem dX9_setLeft_33 : decode cX9_setLeft 33 = .ok (.iload 4, 2) := by decide +kernel
theorem dX9_setLeft_35 : decode cX9_setLeft 35 = .ok (.iadd, 1) := by decide +kernel
theorem dX9_setLeft_36 : decode cX9_setLeft 36 = .ok (.iaload, 1) := by decide +kernel
theorem dX9_setLeft_37 : decode cX9_setLeft 37 = .ok (.if_icmp .ge 53, 3) := by decide +kernel
theorem dX9_setLeft_40 : decode cX9_setLeft 40 = .ok (.aload_n 0, 1) := by decide +kernel
theorem dX9_setLeft_41 : decode cX9_setLeft 41 = .ok (.iload 4, 2) := by decide +kernel
theorem dX9_setLeft_43 : decode cX9_setLeft 43 = .ok (.iload 5, 2) := by decide +kernel
theorem dX9_setLeft_45 : decode cX9_setLeft 45 = .ok (.iconst 0, 1) := by decide +kernel
theorem dX9_setLeft_46 : decode cX9_setLeft 46 = .ok (.invokevirtual 55, 3) := by decide +kernel
theorem dX9_setLeft_49 : decode cX9_setLeft 49 = .ok (.iload_n 2, 1) := by decide +kernel
theorem dX9_setLeft_50 : decode cX9_setLeft 50 = .ok (.if_icmp .ne 34, 3) := by decide +kernel
theorem dX9_setLeft_53 : decode cX9_setLeft 53 = .ok (.iload_n 3, 1) := by decide +kernel
theorem dX9_setLeft_54 : decode cX9_setLeft 54 = .ok (.iload_n 2, 1) := by decide +kernel
theorem dX9_setLeft_55 : decode cX9_setLeft 55 = .ok (.iconst 2, 1) := by decide +kernel
theorem dX9_setLeft_56 : decode cX9_setLeft 56 = .ok (.if_icmp .ne 17, 3) := by decide +kernel
theorem dX9_setLeft_59 : decode cX9_setLeft 59 = .ok (.iconst 1, 1) := by decide +kernel
theorem dX9_setLeft_60 : decode cX9_setLeft 60 = .ok (.aload_n 0, 1) := by decide +kernel
theorem dX9_setLeft_61 : decode cX9_setLeft 61 = .ok (.iload 4, 2) := by decide +kernel
theorem dX9_setLeft_63 : decode cX9_setLeft 63 = .ok (.iload 5, 2) := by decide +kernel
theorem dX9_setLeft_65 : decode cX9_setLeft 65 = .ok (.iconst 1, 1) := by decide +kernel
theorem dX9_setLeft_66 : decode cX9_setLeft 66 = .ok (.invokevirtual 55, 3) := by decide +kernel
theorem dX9_setLeft_69 : decode cX9_setLeft 69 = .ok (.ishl, 1) := by decide +kernel
theorem dX9_setLeft_70 : decode cX9_setLeft 70 = .ok (.goto 12, 3) := by decide +kernel
theorem dX9_setLeft_73 : decode cX9_setLeft 73 = .ok (.aload_n 0, 1) := by decide +kernel
theorem dX9_setLeft_74 : decode cX9_setLeft 74 = .ok (.iload 4, 2) := by decide +kernel
theorem dX9_setLeft_76 : decode cX9_setLeft 76 = .ok (.iload 5, 2) := by decide +kernel
theorem dX9_setLeft_78 : decode cX9_setLeft 78 = .ok (.iconst 1, 1) := by decide +kernel
theorem dX9_setLeft_79 : decode cX9_setLeft 79 = .ok (.invokevirtual 55, 3) := by decide +kernel
theorem dX9_setLeft_82 : decode cX9_setLeft 82 = .ok (.iand, 1) := by decide +kernel
theorem dX9_setLeft_83 : decode cX9_setLeft 83 = .ok (.istore_n 3, 1) := by decide +kernel
theorem dX9_setLeft_84 : decode cX9_setLeft 84 = .ok (.iinc 5 1, 3) := by decide +kernel
theorem dX9_setLeft_87 : decode cX9_setLeft 87 = .ok (.goto (-63), 3) := by decide +kernel
theorem dX9_setLeft_90 : decode cX9_setLeft 90 = .ok (.aload_n 0, 1) := by decide +kernel
theorem dX9_setLeft_91 : decode cX9_setLeft 91 = .ok (.getfield 9, 3) := by decide +kernel
theorem dX9_setLeft_94 : decode cX9_setLeft 94 = .ok (.bipush 79, 2) := by decide +kernel
theorem dX9_setLeft_96 : decode cX9_setLeft 96 = .ok (.iload 4, 2) := by decide +kernel
theorem dX9_setLeft_98 : decode cX9_setLeft 98 = .ok (.iadd, 1) := by decide +kernel
theorem dX9_setLeft_99 : decode cX9_setLeft 99 = .ok (.iaload, 1) := by decide +kernel
theorem dX9_setLeft_100 : decode cX9_setLeft 100 = .ok (.istore 4, 2) := by decide +kernel
theorem dX9_setLeft_102 : decode cX9_setLeft 102 = .ok (.goto (-86), 3) := by decide +kernel
theorem dX9_setLeft_105 : decode cX9_setLeft 105 = .ok (.iload_n 3, 1) := by decide +kernel
theorem dX9_setLeft_106 : decode cX9_setLeft 106 = .ok (.ireturn, 1) := by decide +kernel
set_option maxRecDepth 20000 in
theorem ggX9_setLeft_X9_part : GoodIn wsX9_setLeft wsX9_part := goodIn_ca (goodIn_r _ [6, 1, 7, 8, 9, 10, 11, 12, 13, 14, 15, 16, 17, 18, 19, 20, 21, 22, 23, 24, 25, 26] (by decide +kernel) (by decide +kernel)) (goodIn_sub (fun _ h => List.mem_cons_of_mem _ (List.mem_append_right _ h)) (by decide +kernel))
set_option maxRecDepth 20000 in
theorem gX9_setLeft_X9_part : GoodIn wsX9_setLeft (wsV RX9 55 RX9 yX9_part wsX9_part) := goodIn_app (goodIn_of _ (by decide +kernel)) ggX9_setLeft_X9_part
def rm_X9_setLeft : Room := { frames := 2, cells := 0, slots := 0, locals := 39 }
set_option maxHeartbeats 4000000 in
set_option maxRecDepth 100000 in
theorem c_X9_setLeft (l : Launch) {G : zG} {ad : Nat → Nat} {σ σ' : zs} {a1 a2 : Int32} {r : Int32} (hf : f_X9_setLeft σ a1 a2 = some (r, σ')) : xMi l yX9_setLeft wsX9_setLeft rm_X9_setLeft G ad σ [.ref (ad 65), .int a1, .int a2] r σ' := by
  intro sz nb a g hs
  refine Met.ofW (cc := cX9_setLeft) (maxL := 6) (ret := (some .int)) (by decide) rfl ?_
  intro p e s m args below meth c s₁ B hml hv
  obtain ⟨rfl, hsz, hv⟩ := hv
  have hx := B.exec
  have hb := B.bytes
  have hr := B.returns
  have hts := atoms_spec (ws := wsX9_setLeft) B.pre
  have hown : s.vm.findClass RX9 = some m.cls := findClass_of_methodNamed B.named
  have hlocks := B.notSynchronized
  subst hsz
  have B := xB_start hs hv
  have hinRX9 : ∀ w ∈ wsX90, w ∈ wsX9_setLeft := by decide +kernel
  have hl := lv_entry ([.ref (ad 65), .int a1, .int a2]) (n := 6) (Nat.le_of_ble_eq_true rfl)
  rw [lg_entry_eq]
  generalize (lg_sl ([.ref (ad 65), .int a1, .int a2]) ++ List.replicate (6 - (lg_sl ([.ref (ad 65), .int a1, .int a2])).length) Slot.unset).toArray = ls at hl ⊢
  have hl : lv_has ls 6 [(0, .ref (ad 65)), (1, .int a1), (2, .int a2)] := hl
  generalize hAe : xA ad a s.heap.size = A at B ⊢
  have L24 : ∀ (K16 : zs → Int32 → Int32 → Int32 → Option (Int32 × zs)) (hK16 : ∀ (σ : zs) (v2 : Int32) (v3 : Int32) (v4 : Int32) (H : Heap) (locs : List Loc) (ls : Array Slot), K16 σ v2 v3 v4 = some (r, σ') → xB A s G ad σ H locs → lv_has ls 6 [(0, .ref (ad 65)), (2, .int v2), (3, .int v3), (4, .int v4)] → W p l e (headSpec wsX9_setLeft rm_X9_setLeft).room s m ([.ref (ad 65), .int a1, .int a2] : List Value).toArray below meth c H locs 0 0 (MQ below (va_Qi (fun r' (u : xV) => r' = r ∧ xQ σ' u) (xPost G ad σ' A) A) ([.ref (ad 65), .int a1, .int a2] : List Value).toArray s 0 0 A) (F0 m 16 ls [])) (n : Nat) (σ : zs) (v2 : Int32) (v3 : Int32) (v4 : Int32) (v5 : Int32) (H : Heap) (locs : List Loc) (ls : Array Slot), zlp4 (f_X9_setLeft_24 K16) n σ v2 v3 v4 v5 = some (r, σ') → xB A s G ad σ H locs → lv_has ls 6 [(0, .ref (ad 65)), (2, .int v2), (3, .int v3), (4, .int v4), (5, .int v5)] → W p l e (headSpec wsX9_setLeft rm_X9_setLeft).room s m ([.ref (ad 65), .int a1, .int a2] : List Value).toArray below meth c H locs 0 0 (MQ below (va_Qi (fun r' (u : xV) => r' = r ∧ xQ σ' u) (xPost G ad σ' A) A) ([.ref (ad 65), .int a1, .int a2] : List Value).toArray s 0 0 A) (F0 m 24 ls []) := by
    intro K16 hK16 n
    induction n with
    | zero =>
      intro σ v2 v3 v4 v5 H locs ls hf
      cases hf
    | succ n ih =>
      intro σ v2 v3 v4 v5 H locs ls hf B hl
      have hf : f_X9_setLeft_24 K16 (zlp4 (f_X9_setLeft_24 K16) n) σ v2 v3 v4 v5 = some (r, σ') := hf
      unfold f_X9_setLeft_24 at hf
      refine lv_iload hx hb dX9_setLeft_24 (lv_at hl 4 rfl) ?_
      refine lv_aload_n hx hb dX9_setLeft_26 rfl (lv_at hl 0 rfl) ?_
      refine x_getr hx hb hts hinRX9 hown B 65 0 66 (by decide) (by decide) (fun _ => rfl) rfl rfl (by decide) (by decide +kernel) rfl dX9_setLeft_27 ?_
      refine lv_sipush (v := (191 : Int32)) hx hb dX9_setLeft_30 (by decide) ?_
      refine lv_iload hx hb dX9_setLeft_33 (lv_at hl 3 rfl) ?_
      refine lv_iadd hx hb dX9_setLeft_35 ?_
      obtain ⟨hg, hf⟩ := zg_some hf
      refine x_iald hx hb B 66 (by decide) (fun _ => rfl) (zin_ok hg) dX9_setLeft_36 ?_
      refine lv_icmp_ge (tgt := 90) hx hb dX9_setLeft_37 (by decide) (fun hc => ?_) (fun hc => ?_)
      · have hf := zif_t hc hf
        refine lv_aload_n hx hb dX9_setLeft_90 rfl (lv_at hl 0 rfl) ?_
        refine x_getr hx hb hts hinRX9 hown B 65 0 66 (by decide) (by decide) (fun _ => rfl) rfl rfl (by decide) (by decide +kernel) rfl dX9_setLeft_91 ?_
        refine lv_bipush (v := (79 : Int32)) hx hb dX9_setLeft_94 (by decide) ?_
        refine lv_iload hx hb dX9_setLeft_96 (lv_at hl 3 rfl) ?_
        refine lv_iadd hx hb dX9_setLeft_98 ?_
        obtain ⟨hg, hf⟩ := zg_some hf
        refine x_iald hx hb B 66 (by decide) (fun _ => rfl) (zin_ok hg) dX9_setLeft_99 ?_
        refine lv_istore (lv' := [(4, .int (σ 66 ((79 : Int32) + v4).toNatClampNeg)), (0, .ref (ad 65)), (2, .int v2), (3, .int v3), (5, .int v5)]) hx hb dX9_setLeft_100 hl (by decide) rfl (fun ls hl => ?_)
        refine lv_goto (tgt := 16) hx hb dX9_setLeft_102 (by decide) ?_
        exact hK16 _ _ _ _ _ _ _ hf B (lv_sub hl [1, 2, 3, 0] rfl)
      · have hf := zif_f hc hf
        refine lv_aload_n hx hb dX9_setLeft_40 rfl (lv_at hl 0 rfl) ?_
        refine lv_iload hx hb dX9_setLeft_41 (lv_at hl 3 rfl) ?_
        refine lv_iload hx hb dX9_setLeft_43 (lv_at hl 4 rfl) ?_
        refine lv_iconst (v := (0 : Int32)) hx hb dX9_setLeft_45 (by decide) ?_
        obtain ⟨r2, σ3, hu1, hf⟩ := zb_some hf
        refine x_i B (fun nb a g hs Bz => va_runV (As := [.int v4, .int v5, .int (0 : Int32)]) (rest := []) ⟨hx, hb, hml, hown, hts⟩ (c_X9_part l hu1 _ nb a g hs) (cwV 3 hts gX9_setLeft_X9_part rfl rfl rfl (by decide +kernel) ⟨Nat.le_of_ble_eq_true rfl, Nat.le_of_ble_eq_true rfl⟩) (x_preV Bz (by decide) (fun _ => rfl) rfl) rfl rfl hl.1 rfl (lv_room (Nat.le_of_ble_eq_true rfl)) dX9_setLeft_46 ⟨Nat.le_of_ble_eq_true rfl, Nat.le_of_ble_eq_true rfl⟩) (fun H locs B => ?_)
        refine lv_iload_n hx hb dX9_setLeft_49 rfl (lv_at hl 1 rfl) ?_
        refine lv_icmp_ne (tgt := 84) hx hb dX9_setLeft_50 (by decide) (fun hc => ?_) (fun hc => ?_)
        · have hf := zif_f hc hf
          refine lv_iinc (v := (v5 + (1 : Int32))) (lv' := [(5, .int (v5 + (1 : Int32))), (0, .ref (ad 65)), (2, .int v2), (3, .int v3), (4, .int v4)]) hx hb dX9_setLeft_84 hl (k := 4) rfl (zc1 (by decide)) (by decide) rfl (fun ls hl => ?_)
          refine lv_goto (tgt := 24) hx hb dX9_setLeft_87 (by decide) ?_
          exact ih _ _ _ _ _ _ _ _ hf B (lv_sub hl [1, 2, 3, 4, 0] rfl)
        · have hf := zif_t hc hf
          refine lv_iload_n hx hb dX9_setLeft_53 rfl (lv_at hl 2 rfl) ?_
          refine lv_iload_n hx hb dX9_setLeft_54 rfl (lv_at hl 1 rfl) ?_
          refine lv_iconst (v := (2 : Int32)) hx hb dX9_setLeft_55 (by decide) ?_
          refine lv_icmp_ne (tgt := 73) hx hb dX9_setLeft_56 (by decide) (fun hc => ?_) (fun hc => ?_)
          · have hf := zif_f hc hf
            refine lv_aload_n hx hb dX9_setLeft_73 rfl (lv_at hl 0 rfl) ?_
            refine lv_iload hx hb dX9_setLeft_74 (lv_at hl 3 rfl) ?_
            refine lv_iload hx hb dX9_setLeft_76 (lv_at hl 4 rfl) ?_
            refine lv_iconst (v := (1 : Int32)) hx hb dX9_setLeft_78 (by decide) ?_
            obtain ⟨r5, σ6, hu4, hf⟩ := zb_some hf
            refine x_i B (fun nb a g hs Bz => va_runV (As := [.int v4, .int v5, .int (1 : Int32)]) (rest := [.int v3]) ⟨hx, hb, hml, hown, hts⟩ (c_X9_part l hu4 _ nb a g hs) (cwV 3 hts gX9_setLeft_X9_part rfl rfl rfl (by decide +kernel) ⟨Nat.le_of_ble_eq_true rfl, Nat.le_of_ble_eq_true rfl⟩) (x_preV Bz (by decide) (fun _ => rfl) rfl) rfl rfl hl.1 rfl (lv_room (Nat.le_of_ble_eq_true rfl)) dX9_setLeft_79 ⟨Nat.le_of_ble_eq_true rfl, Nat.le_of_ble_eq_true rfl⟩) (fun H locs B => ?_)
            refine lv_iand hx hb dX9_setLeft_82 ?_
            refine lv_istore_n (lv' := [(3, .int (v3 &&& r5)), (0, .ref (ad 65)), (2, .int v2), (4, .int v4), (5, .int v5)]) hx hb dX9_setLeft_83 rfl hl (by decide) rfl (fun ls hl => ?_)
            refine lv_iinc (v := (v5 + (1 : Int32))) (lv' := [(5, .int (v5 + (1 : Int32))), (3, .int (v3 &&& r5)), (0, .ref (ad 65)), (2, .int v2), (4, .int v4)]) hx hb dX9_setLeft_84 hl (k := 4) rfl (zc1 (by decide)) (by decide) rfl (fun ls hl => ?_)
            refine lv_goto (tgt := 24) hx hb dX9_setLeft_87 (by decide) ?_
            exact ih _ _ _ _ _ _ _ _ hf B (lv_sub hl [2, 3, 1, 4, 0] rfl)
          · have hf := zif_t hc hf
            refine lv_iconst (v := (1 : Int32)) hx hb dX9_setLeft_59 (by decide) ?_
            refine lv_aload_n hx hb dX9_setLeft_60 rfl (lv_at hl 0 rfl) ?_
            refine lv_iload hx hb dX9_setLeft_61 (lv_at hl 3 rfl) ?_
            refine lv_iload hx hb dX9_setLeft_63 (lv_at hl 4 rfl) ?_
            refine lv_iconst (v := (1 : Int32)) hx hb dX9_setLeft_65 (by decide) ?_
            obtain ⟨r8, σ9, hu7, hf⟩ := zb_some hf
            refine x_i B (fun nb a g hs Bz => va_runV (As := [.int v4, .int v5, .int (1 : Int32)]) (rest := [.int (1 : Int32), .int v3]) ⟨hx, hb, hml, hown, hts⟩ (c_X9_part l hu7 _ nb a g hs) (cwV 3 hts gX9_setLeft_X9_part rfl rfl rfl (by decide +kernel) ⟨Nat.le_of_ble_eq_true rfl, Nat.le_of_ble_eq_true rfl⟩) (x_preV Bz (by decide) (fun _ => rfl) rfl) rfl rfl hl.1 rfl (lv_room (Nat.le_of_ble_eq_true rfl)) dX9_setLeft_66 ⟨Nat.le_of_ble_eq_true rfl, Nat.le_of_ble_eq_true rfl⟩) (fun H locs B => ?_)
            refine lv_ishl hx hb dX9_setLeft_69 ?_
            refine lv_goto (tgt := 82) hx hb dX9_setLeft_70 (by decide) ?_
            refine lv_iand hx hb dX9_setLeft_82 ?_
            refine lv_istore_n (lv' := [(3, .int (v3 &&& ((1 : Int32) <<< (r8 &&& 31)))), (0, .ref (ad 65)), (2, .int v2), (4, .int v4), (5, .int v5)]) hx hb dX9_setLeft_83 rfl hl (by decide) rfl (fun ls hl => ?_)
            refine lv_iinc (v := (v5 + (1 : Int32))) (lv' := [(5, .int (v5 + (1 : Int32))), (3, .int (v3 &&& ((1 : Int32) <<< (r8 &&& 31)))), (0, .ref (ad 65)), (2, .int v2), (4, .int v4)]) hx hb dX9_setLeft_84 hl (k := 4) rfl (zc1 (by decide)) (by decide) rfl (fun ls hl => ?_)
            refine lv_goto (tgt := 24) hx hb dX9_setLeft_87 (by decide) ?_
            exact ih _ _ _ _ _ _ _ _ hf B (lv_sub hl [2, 3, 1, 4, 0] rfl)
  have L16 : ∀ (n : Nat) (σ : zs) (v2 : Int32) (v3 : Int32) (v4 : Int32) (H : Heap) (locs : List Loc) (ls : Array Slot), zlp3 (f_X9_setLeft_16) n σ v2 v3 v4 = some (r, σ') → xB A s G ad σ H locs → lv_has ls 6 [(0, .ref (ad 65)), (2, .int v2), (3, .int v3), (4, .int v4)] → W p l e (headSpec wsX9_setLeft rm_X9_setLeft).room s m ([.ref (ad 65), .int a1, .int a2] : List Value).toArray below meth c H locs 0 0 (MQ below (va_Qi (fun r' (u : xV) => r' = r ∧ xQ σ' u) (xPost G ad σ' A) A) ([.ref (ad 65), .int a1, .int a2] : List Value).toArray s 0 0 A) (F0 m 16 ls []) := by
    intro n
    induction n with
    | zero =>
      intro σ v2 v3 v4 H locs ls hf
      cases hf
    | succ n ih =>
      intro σ v2 v3 v4 H locs ls hf B hl
      have hf : f_X9_setLeft_16 (zlp3 (f_X9_setLeft_16) n) σ v2 v3 v4 = some (r, σ') := hf
      unfold f_X9_setLeft_16 at hf
      refine lv_iload hx hb dX9_setLeft_16 (lv_at hl 3 rfl) ?_
      refine lv_if_lt (tgt := 105) hx hb dX9_setLeft_18 (by decide) (fun hc => ?_) (fun hc => ?_)
      · have hf := zif_t hc hf
        refine lv_iload_n hx hb dX9_setLeft_105 rfl (lv_at hl 2 rfl) ?_
        refine W.widen (k := 0) (n := 0) (Nat.le_of_ble_eq_true rfl) (Nat.le_of_ble_eq_true rfl) ?_
        exact x_iret hx hb hr rfl hlocks B hf dX9_setLeft_106
      · have hf := zif_f hc hf
        refine lv_iconst (v := (0 : Int32)) hx hb dX9_setLeft_21 (by decide) ?_
        refine lv_istore (lv' := [(5, .int (0 : Int32)), (0, .ref (ad 65)), (2, .int v2), (3, .int v3), (4, .int v4)]) hx hb dX9_setLeft_22 hl (by decide) rfl (fun ls hl => ?_)
        exact L24 _ ih  _ _ _ _ _ _ _ _ _ hf B (lv_sub hl [1, 2, 3, 4, 0] rfl)
  have L12 : ∀ (σ : zs) (v1 : Int32) (v2 : Int32) (s0 : Int32) (H : Heap) (locs : List Loc) (ls : Array Slot), f_X9_setLeft_12 σ v1 v2 s0 = some (r, σ') → xB A s G ad σ H locs → lv_has ls 6 [(0, .ref (ad 65)), (1, .int v1), (2, .int v2)] → W p l e (headSpec wsX9_setLeft rm_X9_setLeft).room s m ([.ref (ad 65), .int a1, .int a2] : List Value).toArray below meth c H locs 0 0 (MQ below (va_Qi (fun r' (u : xV) => r' = r ∧ xQ σ' u) (xPost G ad σ' A) A) ([.ref (ad 65), .int a1, .int a2] : List Value).toArray s 0 0 A) (F0 m 12 ls [.int s0]) := by
    intro σ v1 v2 s0 H locs ls hf B hl
    unfold f_X9_setLeft_12 at hf
    refine lv_istore_n (lv' := [(3, .int s0), (0, .ref (ad 65)), (1, .int v1), (2, .int v2)]) hx hb dX9_setLeft_12 rfl hl (by decide) rfl (fun ls hl => ?_)
    refine lv_iload_n hx hb dX9_setLeft_13 rfl (lv_at hl 2 rfl) ?_
    refine lv_istore (lv' := [(4, .int v1), (3, .int s0), (0, .ref (ad 65)), (1, .int v1), (2, .int v2)]) hx hb dX9_setLeft_14 hl (by decide) rfl (fun ls hl => ?_)
    exact L16  _ _ _ _ _ _ _ _ hf B (lv_sub hl [2, 4, 1, 0] rfl)
  unfold f_X9_setLeft at hf
  refine lv_iload_n hx hb dX9_setLeft_0 rfl (lv_at hl 2 rfl) ?_
  refine lv_iconst (v := (2 : Int32)) hx hb dX9_setLeft_1 (by decide) ?_
  refine lv_icmp_ne (tgt := 10) hx hb dX9_setLeft_2 (by decide) (fun hc => ?_) (fun hc => ?_)
  · have hf := zif_f hc hf
    refine lv_bipush (v := (15 : Int32)) hx hb dX9_setLeft_10 (by decide) ?_
    exact L12  _ _ _ _ _ _ _ hf B (lv_sub hl [0, 1, 2] rfl)
  · have hf := zif_t hc hf
    refine lv_bipush (v := (63 : Int32)) hx hb dX9_setLeft_5 (by decide) ?_
    refine lv_goto (tgt := 12) hx hb dX9_setLeft_7 (by decide) ?_
    exact L12  _ _ _ _ _ _ _ hf B (lv_sub hl [0, 1, 2] rfl)
theorem dX9_argumentLeft_0 : decode cX9_argumentLeft 0 = .ok (.iconst 0, 1) := by decide +kernel
theorem dX9_argumentLeft_1 : decode cX9_argumentLeft 1 = .ok (.istore_n 3, 1) := by decide +kernel
theorem dX9_argumentLeft_2 : decode cX9_argumentLeft 2 = .ok (.sipush 999, 3) := by decide +kernel
theorem dX9_argumentLeft_5 : decode cX9_argumentLeft 5 = .ok (.istore 4, 2) := by decide +kernel
theorem dX9_argumentLeft_7 : decode cX9_argumentLeft 7 = .ok (.iload_n 1, 1) := by decide +kernel
theorem dX9_argumentLeft_8 : decode cX9_argumentLeft 8 = .ok (.istore 5, 2) := by decide +kernel
theorem dX9_argumentLeft_10 : decode cX9_argumentLeft 10 = .ok (.iload 5, 2) := by decide +kernel
theorem dX9_argumentLeft_12 : decode cX9_argumentLeft 12 = .ok (.ifCond .lt 86, 3) := by decide +kernel
theorem dX9_argumentLeft_15 : decode cX9_argumentLeft 15 = .ok (.iconst 0, 1) := by decide +kernel
theorem dX9_argumentLeft_16 : decode cX9_argumentLeft 16 = .ok (.istore 6, 2) := by decide +kernel
theorem dX9_argumentLeft_18 : decode cX9_argumentLeft 18 = .ok (.iload 6, 2) := by decide +kernel
theorem dX9_argumentLeft_20 : decode cX9_argumentLeft 20 = .ok (.aload_n 0, 1) := by decide +kernel
theorem dX9_argumentLeft_21 : decode cX9_argumentLeft 21 = .ok (.getfield 9, 3) := by decide +kernel
theorem dX9_argumentLeft_24 : decode cX9_argumentLeft 24 = .ok (.sipush 191, 3) := by decide +kernel
theorem dX9_argumentLeft_27 : decode cX9_argumentLeft 27 = .ok (.iload 5, 2) := by decide +kernel
theorem dX9_argumentLeft_29 : decode cX9_argumentLeft 29 = .ok (.iadd, 1) := by decide +kernel
theorem dX9_argumentLeft_30 : decode cX9_argumentLeft 30 = .ok (.iaload, 1) := by decide +kernel
theorem dX9_argumentLeft_31 : decode cX9_argumentLeft 31 = .ok (.if_icmp .ge 52, 3) := by decide +kernel
theorem dX9_argumentLeft_34 : decode cX9_argumentLeft 34 = .ok (.aload_n 0, 1) := by decide +kernel
theorem dX9_argumentLeft_35 : decode cX9_argumentLeft 35 = .ok (.iload 5, 2) := by decide +kernel
theorem dX9_argumentLeft_37 : decode cX9_argumentLeft 37 = .ok (.iload 6, 2) := by decide +kernel
theorem dX9_argumentLeft_39 : decode cX9_argumentLeft 39 = .ok (.iconst 0, 1) := by decide +kernel
theorem dX9_argumentLeft_40 : decode cX9_argumentLeft 40 = .ok (.invokevirtual 55, 3) := by decide +kernel
theorem dX9_argumentLeft_43 : decode cX9_argumentLeft 43 = .ok (.iconst 4, 1) := by decide +kernel
theorem dX9_argumentLeft_44 : decode cX9_argumentLeft 44 = .ok (.if_icmp .ne 33, 3) := by decide +kernel
theorem dX9_argumentLeft_47 : decode cX9_argumentLeft 47 = .ok (.iload_n 3, 1) := by decide +kernel
theorem dX9_argumentLeft_48 : decode cX9_argumentLeft 48 = .ok (.aload_n 0, 1) := by decide +kernel
theorem dX9_argumentLeft_49 : decode cX9_argumentLeft 49 = .ok (.iload 5, 2) := by decide +kernel
theorem dX9_argumentLeft_51 : decode cX9_argumentLeft 51 = .ok (.iload 6, 2) := by decide +kernel
theorem dX9_argumentLeft_53 : decode cX9_argumentLeft 53 = .ok (.iconst 1, 1) := by decide +kernel
theorem dX9_argumentLeft_54 : decode cX9_argumentLeft 54 = .ok (.invokevirtual 55, 3) := by decide +kernel
theorem dX9_argumentLeft_57 : decode cX9_argumentLeft 57 = .ok (.invokestatic 159, 3) := by decide +kernel
theorem dX9_argumentLeft_60 : decode cX9_argumentLeft 60 = .ok (.istore_n 3, 1) := by decide +kernel
theorem dX9_argumentLeft_61 : decode cX9_argumentLeft 61 = .ok (.iload 4, 2) := by decide +kernel
theorem dX9_argumentLeft_63 : decode cX9_argumentLeft 63 = .ok (.aload_n 0, 1) := by decide +kernel
theorem dX9_argumentLeft_64 : decode cX9_argumentLeft 64 = .ok (.iload 5, 2) := by decide +kernel
theorem dX9_argumentLeft_66 : decode cX9_argumentLeft 66 = .ok (.iload 6, 2) := by decide +kernel
theorem dX9_argumentLeft_68 : decode cX9_argumentLeft 68 = .ok (.iconst 2, 1) := by decide +kernel
theorem dX9_argumentLeft_69 : decode cX9_argumentLeft 69 = .ok (.invokevirtual 55, 3) := by decide +kernel
theorem dX9_argumentLeft_72 : decode cX9_argumentLeft 72 = .ok (.invokestatic 165, 3) := by decide +kernel
theorem dX9_argumentLeft_75 : decode cX9_argumentLeft 75 = .ok (.istore 4, 2) := by decide +kernel
theorem dX9_argumentLeft_77 : decode cX9_argumentLeft 77 = .ok (.iinc 6 1, 3) := by decide +kernel
theorem dX9_argumentLeft_80 : decode cX9_argumentLeft 80 = .ok (.goto (-62), 3) := by decide +kernel
theorem dX9_argumentLeft_83 : decode cX9_argumentLeft 83 = .ok (.aload_n 0, 1) := by decide +kernel
theorem dX9_argumentLeft_84 : decode cX9_argumentLeft 84 = .ok (.getfield 9, 3) := by decide +kernel
theorem dX9_argumentLeft_87 : decode cX9_argumentLeft 87 = .ok (.bipush 79, 2) := by decide +kernel
theorem dX9_argumentLeft_89 : decode cX9_argumentLeft 89 = .ok (.iload 5, 2) := by decide +kernel
theorem dX9_argumentLeft_91 : decode cX9_argumentLeft 91 = .ok (.iadd, 1) := by decide +kernel
theorem dX9_argumentLeft_92 : decode cX9_argumentLeft 92 = .ok (.iaload, 1) := by decide +kernel
theorem dX9_argumentLeft_93 : decode cX9_argumentLeft 93 = .ok (.istore 5, 2) := by decide +kernel
theorem dX9_argumentLeft_95 : decode cX9_argumentLeft 95 = .ok (.goto (-85), 3) := by decide +kernel
theorem dX9_argumentLeft_98 : decode cX9_argumentLeft 98 = .ok (.iload_n 3, 1) := by decide +kernel
theorem dX9_argumentLeft_99 : decode cX9_argumentLeft 99 = .ok (.iload 4, 2) := by decide +kernel
theorem dX9_argumentLeft_101 : decode cX9_argumentLeft 101 = .ok (.if_icmp .le 7, 3) := by decide +kernel
theorem dX9_argumentLeft_104 : decode cX9_argumentLeft 104 = .ok (.iconst (-1), 1) := by decide +kernel
theorem dX9_argumentLeft_105 : decode cX9_argumentLeft 105 = .ok (.goto 13, 3) := by decide +kernel
theorem dX9_argumentLeft_108 : decode cX9_argumentLeft 108 = .ok (.iload_n 2, 1) := by decide +kernel
theorem dX9_argumentLeft_109 : decode cX9_argumentLeft 109 = .ok (.ifCond .eq 7, 3) := by decide +kernel
theorem dX9_argumentLeft_112 : decode cX9_argumentLeft 112 = .ok (.iload_n 3, 1) := by decide +kernel
theorem dX9_argumentLeft_113 : decode cX9_argumentLeft 113 = .ok (.goto 5, 3) := by decide +kernel
theorem dX9_argumentLeft_116 : decode cX9_argumentLeft 116 = .ok (.iload 4, 2) := by decide +kernel
theorem dX9_argumentLeft_118 : decode cX9_argumentLeft 118 = .ok (.ireturn, 1) := by decide +kernel
set_option maxRecDepth 20000 in
theorem ggX9_argumentLeft_X9_part : GoodIn wsX9_argumentLeft wsX9_part := goodIn_ca (goodIn_r _ [13, 1, 14, 15, 16, 17, 18, 19, 20, 21, 22, 23, 24, 25, 26, 27, 28, 29, 30, 31, 32, 33] (by decide +kernel) (by decide +kernel)) (goodIn_sub (fun _ h => List.mem_cons_of_mem _ (List.mem_append_right _ h)) (by decide +kernel))
set_option maxRecDepth 20000 in
theorem gX9_argumentLeft_X9_part : GoodIn wsX9_argumentLeft (wsV RX9 55 RX9 yX9_part wsX9_part) := goodIn_app (goodIn_of _ (by decide +kernel)) ggX9_argumentLeft_X9_part
def rm_X9_argumentLeft : Room := { frames := 2, cells := 0, slots := 0, locals := 40 }
set_option maxHeartbeats 4000000 in
set_option maxRecDepth 100000 in
theorem c_X9_argumentLeft (l : Launch) {G : zG} {ad : Nat → Nat} {σ σ' : zs} {a1 a2 : Int32} {r : Int32} (hf : f_X9_argumentLeft σ a1 a2 = some (r, σ')) : xMi l yX9_argumentLeft wsX9_argumentLeft rm_X9_argumentLeft G ad σ [.ref (ad 65), .int a1, .int a2] r σ' := by
  intro sz nb a g hs
  refine Met.ofW (cc := cX9_argumentLeft) (maxL := 7) (ret := (some .int)) (by decide) rfl ?_
  intro p e s m args below meth c s₁ B hml hv
  obtain ⟨rfl, hsz, hv⟩ := hv
  have hx := B.exec
  have hb := B.bytes
  have hr := B.returns
  have hts := atoms_spec (ws := wsX9_argumentLeft) B.pre
  have hown : s.vm.findClass RX9 = some m.cls := findClass_of_methodNamed B.named
  have hlocks := B.notSynchronized
  subst hsz
  have B := xB_start hs hv
  have hinRX9 : ∀ w ∈ wsX90, w ∈ wsX9_argumentLeft := by decide +kernel
  have hl := lv_entry ([.ref (ad 65), .int a1, .int a2]) (n := 7) (Nat.le_of_ble_eq_true rfl)
  rw [lg_entry_eq]
  generalize (lg_sl ([.ref (ad 65), .int a1, .int a2]) ++ List.replicate (7 - (lg_sl ([.ref (ad 65), .int a1, .int a2])).length) Slot.unset).toArray = ls at hl ⊢
  have hl : lv_has ls 7 [(0, .ref (ad 65)), (1, .int a1), (2, .int a2)] := hl
  generalize hAe : xA ad a s.heap.size = A at B ⊢
  have L18 : ∀ (K10 : zs → Int32 → Int32 → Int32 → Int32 → Option (Int32 × zs)) (hK10 : ∀ (σ : zs) (v2 : Int32) (v3 : Int32) (v4 : Int32) (v5 : Int32) (H : Heap) (locs : List Loc) (ls : Array Slot), K10 σ v2 v3 v4 v5 = some (r, σ') → xB A s G ad σ H locs → lv_has ls 7 [(0, .ref (ad 65)), (2, .int v2), (3, .int v3), (4, .int v4), (5, .int v5)] → W p l e (headSpec wsX9_argumentLeft rm_X9_argumentLeft).room s m ([.ref (ad 65), .int a1, .int a2] : List Value).toArray below meth c H locs 0 0 (MQ below (va_Qi (fun r' (u : xV) => r' = r ∧ xQ σ' u) (xPost G ad σ' A) A) ([.ref (ad 65), .int a1, .int a2] : List Value).toArray s 0 0 A) (F0 m 10 ls [])) (n : Nat) (σ : zs) (v2 : Int32) (v3 : Int32) (v4 : Int32) (v5 : Int32) (v6 : Int32) (H : Heap) (locs : List Loc) (ls : Array Slot), zlp5 (f_X9_argumentLeft_18 K10) n σ v2 v3 v4 v5 v6 = some (r, σ') → xB A s G ad σ H locs → lv_has ls 7 [(0, .ref (ad 65)), (2, .int v2), (3, .int v3), (4, .int v4), (5, .int v5), (6, .int v6)] → W p l e (headSpec wsX9_argumentLeft rm_X9_argumentLeft).room s m ([.ref (ad 65), .int a1, .int a2] : List Value).toArray below meth c H locs 0 0 (MQ below (va_Qi (fun r' (u : xV) => r' = r ∧ xQ σ' u) (xPost G ad σ' A) A) ([.ref (ad 65), .int a1, .int a2] : List Value).toArray s 0 0 A) (F0 m 18 ls []) := by
    intro K10 hK10 n
    induction n with
    | zero =>
      intro σ v2 v3 v4 v5 v6 H locs ls hf
      cases hf
    | succ n ih =>
      intro σ v2 v3 v4 v5 v6 H locs ls hf B hl
      have hf : f_X9_argumentLeft_18 K10 (zlp5 (f_X9_argumentLeft_18 K10) n) σ v2 v3 v4 v5 v6 = some (r, σ') := hf
      unfold f_X9_argumentLeft_18 at hf
      refine lv_iload hx hb dX9_argumentLeft_18 (lv_at hl 5 rfl) ?_
      refine lv_aload_n hx hb dX9_argumentLeft_20 rfl (lv_at hl 0 rfl) ?_
      refine x_getr hx hb hts hinRX9 hown B 65 0 66 (by decide) (by decide) (fun _ => rfl) rfl rfl (by decide) (by decide +kernel) rfl dX9_argumentLeft_21 ?_
      refine lv_sipush (v := (191 : Int32)) hx hb dX9_argumentLeft_24 (by decide) ?_
      refine lv_iload hx hb dX9_argumentLeft_27 (lv_at hl 4 rfl) ?_
      refine lv_iadd hx hb dX9_argumentLeft_29 ?_
      obtain ⟨hg, hf⟩ := zg_some hf
      refine x_iald hx hb B 66 (by decide) (fun _ => rfl) (zin_ok hg) dX9_argumentLeft_30 ?_
      refine lv_icmp_ge (tgt := 83) hx hb dX9_argumentLeft_31 (by decide) (fun hc => ?_) (fun hc => ?_)
      · have hf := zif_t hc hf
        refine lv_aload_n hx hb dX9_argumentLeft_83 rfl (lv_at hl 0 rfl) ?_
        refine x_getr hx hb hts hinRX9 hown B 65 0 66 (by decide) (by decide) (fun _ => rfl) rfl rfl (by decide) (by decide +kernel) rfl dX9_argumentLeft_84 ?_
        refine lv_bipush (v := (79 : Int32)) hx hb dX9_argumentLeft_87 (by decide) ?_
        refine lv_iload hx hb dX9_argumentLeft_89 (lv_at hl 4 rfl) ?_
        refine lv_iadd hx hb dX9_argumentLeft_91 ?_
        obtain ⟨hg, hf⟩ := zg_some hf
        refine x_iald hx hb B 66 (by decide) (fun _ => rfl) (zin_ok hg) dX9_argumentLeft_92 ?_
        refine lv_istore (lv' := [(5, .int (σ 66 ((79 : Int32) + v5).toNatClampNeg)), (0, .ref (ad 65)), (2, .int v2), (3, .int v3), (4, .int v4), (6, .int v6)]) hx hb dX9_argumentLeft_93 hl (by decide) rfl (fun ls hl => ?_)
        refine lv_goto (tgt := 10) hx hb dX9_argumentLeft_95 (by decide) ?_
        exact hK10 _ _ _ _ _ _ _ _ hf B (lv_sub hl [1, 2, 3, 4, 0] rfl)
      · have hf := zif_f hc hf
        refine lv_aload_n hx hb dX9_argumentLeft_34 rfl (lv_at hl 0 rfl) ?_
        refine lv_iload hx hb dX9_argumentLeft_35 (lv_at hl 4 rfl) ?_
        refine lv_iload hx hb dX9_argumentLeft_37 (lv_at hl 5 rfl) ?_
        refine lv_iconst (v := (0 : Int32)) hx hb dX9_argumentLeft_39 (by decide) ?_
        obtain ⟨r2, σ3, hu1, hf⟩ := zb_some hf
        refine x_i B (fun nb a g hs Bz => va_runV (As := [.int v5, .int v6, .int (0 : Int32)]) (rest := []) ⟨hx, hb, hml, hown, hts⟩ (c_X9_part l hu1 _ nb a g hs) (cwV 3 hts gX9_argumentLeft_X9_part rfl rfl rfl (by decide +kernel) ⟨Nat.le_of_ble_eq_true rfl, Nat.le_of_ble_eq_true rfl⟩) (x_preV Bz (by decide) (fun _ => rfl) rfl) rfl rfl hl.1 rfl (lv_room (Nat.le_of_ble_eq_true rfl)) dX9_argumentLeft_40 ⟨Nat.le_of_ble_eq_true rfl, Nat.le_of_ble_eq_true rfl⟩) (fun H locs B => ?_)
        refine lv_iconst (v := (4 : Int32)) hx hb dX9_argumentLeft_43 (by decide) ?_
        refine lv_icmp_ne (tgt := 77) hx hb dX9_argumentLeft_44 (by decide) (fun hc => ?_) (fun hc => ?_)
        · have hf := zif_f hc hf
          refine lv_iinc (v := (v6 + (1 : Int32))) (lv' := [(6, .int (v6 + (1 : Int32))), (0, .ref (ad 65)), (2, .int v2), (3, .int v3), (4, .int v4), (5, .int v5)]) hx hb dX9_argumentLeft_77 hl (k := 5) rfl (zc1 (by decide)) (by decide) rfl (fun ls hl => ?_)
          refine lv_goto (tgt := 18) hx hb dX9_argumentLeft_80 (by decide) ?_
          exact ih _ _ _ _ _ _ _ _ _ hf B (lv_sub hl [1, 2, 3, 4, 5, 0] rfl)
        · have hf := zif_t hc hf
          refine lv_iload_n hx hb dX9_argumentLeft_47 rfl (lv_at hl 2 rfl) ?_
          refine lv_aload_n hx hb dX9_argumentLeft_48 rfl (lv_at hl 0 rfl) ?_
          refine lv_iload hx hb dX9_argumentLeft_49 (lv_at hl 4 rfl) ?_
          refine lv_iload hx hb dX9_argumentLeft_51 (lv_at hl 5 rfl) ?_
          refine lv_iconst (v := (1 : Int32)) hx hb dX9_argumentLeft_53 (by decide) ?_
          obtain ⟨r5, σ6, hu4, hf⟩ := zb_some hf
          refine x_i B (fun nb a g hs Bz => va_runV (As := [.int v5, .int v6, .int (1 : Int32)]) (rest := [.int v3]) ⟨hx, hb, hml, hown, hts⟩ (c_X9_part l hu4 _ nb a g hs) (cwV 3 hts gX9_argumentLeft_X9_part rfl rfl rfl (by decide +kernel) ⟨Nat.le_of_ble_eq_true rfl, Nat.le_of_ble_eq_true rfl⟩) (x_preV Bz (by decide) (fun _ => rfl) rfl) rfl rfl hl.1 rfl (lv_room (Nat.le_of_ble_eq_true rfl)) dX9_argumentLeft_54 ⟨Nat.le_of_ble_eq_true rfl, Nat.le_of_ble_eq_true rfl⟩) (fun H locs B => ?_)
          refine va_mmax hx hb (hml.trans hl.1.symm) hown (index := 159) (hts _ (by decide +kernel)) (hts _ (by decide +kernel)) (hts _ (by decide +kernel)) (hts _ (by decide +kernel)) (Nat.le_of_ble_eq_true rfl) (Nat.le_of_ble_eq_true rfl) (Nat.le_of_ble_eq_true rfl) (Nat.le_of_ble_eq_true rfl) dX9_argumentLeft_57 ?_
          refine lv_istore_n (lv' := [(3, .int (if v3 < r5 then r5 else v3)), (0, .ref (ad 65)), (2, .int v2), (4, .int v4), (5, .int v5), (6, .int v6)]) hx hb dX9_argumentLeft_60 rfl hl (by decide) rfl (fun ls hl => ?_)
          refine lv_iload hx hb dX9_argumentLeft_61 (lv_at hl 3 rfl) ?_
          refine lv_aload_n hx hb dX9_argumentLeft_63 rfl (lv_at hl 1 rfl) ?_
          refine lv_iload hx hb dX9_argumentLeft_64 (lv_at hl 4 rfl) ?_
          refine lv_iload hx hb dX9_argumentLeft_66 (lv_at hl 5 rfl) ?_
          refine lv_iconst (v := (2 : Int32)) hx hb dX9_argumentLeft_68 (by decide) ?_
          obtain ⟨r8, σ9, hu7, hf⟩ := zb_some hf
          refine x_i B (fun nb a g hs Bz => va_runV (As := [.int v5, .int v6, .int (2 : Int32)]) (rest := [.int v4]) ⟨hx, hb, hml, hown, hts⟩ (c_X9_part l hu7 _ nb a g hs) (cwV 3 hts gX9_argumentLeft_X9_part rfl rfl rfl (by decide +kernel) ⟨Nat.le_of_ble_eq_true rfl, Nat.le_of_ble_eq_true rfl⟩) (x_preV Bz (by decide) (fun _ => rfl) rfl) rfl rfl hl.1 rfl (lv_room (Nat.le_of_ble_eq_true rfl)) dX9_argumentLeft_69 ⟨Nat.le_of_ble_eq_true rfl, Nat.le_of_ble_eq_true rfl⟩) (fun H locs B => ?_)
          refine va_mmin hx hb (hml.trans hl.1.symm) hown (index := 165) (hts _ (by decide +kernel)) (hts _ (by decide +kernel)) (hts _ (by decide +kernel)) (hts _ (by decide +kernel)) (Nat.le_of_ble_eq_true rfl) (Nat.le_of_ble_eq_true rfl) (Nat.le_of_ble_eq_true rfl) (Nat.le_of_ble_eq_true rfl) dX9_argumentLeft_72 ?_
          refine lv_istore (lv' := [(4, .int (if r8 < v4 then r8 else v4)), (3, .int (if v3 < r5 then r5 else v3)), (0, .ref (ad 65)), (2, .int v2), (5, .int v5), (6, .int v6)]) hx hb dX9_argumentLeft_75 hl (by decide) rfl (fun ls hl => ?_)
          refine lv_iinc (v := (v6 + (1 : Int32))) (lv' := [(6, .int (v6 + (1 : Int32))), (4, .int (if r8 < v4 then r8 else v4)), (3, .int (if v3 < r5 then r5 else v3)), (0, .ref (ad 65)), (2, .int v2), (5, .int v5)]) hx hb dX9_argumentLeft_77 hl (k := 5) rfl (zc1 (by decide)) (by decide) rfl (fun ls hl => ?_)
          refine lv_goto (tgt := 18) hx hb dX9_argumentLeft_80 (by decide) ?_
          exact ih _ _ _ _ _ _ _ _ _ hf B (lv_sub hl [3, 4, 2, 1, 5, 0] rfl)
  have L10 : ∀ (n : Nat) (σ : zs) (v2 : Int32) (v3 : Int32) (v4 : Int32) (v5 : Int32) (H : Heap) (locs : List Loc) (ls : Array Slot), zlp4 (f_X9_argumentLeft_10) n σ v2 v3 v4 v5 = some (r, σ') → xB A s G ad σ H locs → lv_has ls 7 [(0, .ref (ad 65)), (2, .int v2), (3, .int v3), (4, .int v4), (5, .int v5)] → W p l e (headSpec wsX9_argumentLeft rm_X9_argumentLeft).room s m ([.ref (ad 65), .int a1, .int a2] : List Value).toArray below meth c H locs 0 0 (MQ below (va_Qi (fun r' (u : xV) => r' = r ∧ xQ σ' u) (xPost G ad σ' A) A) ([.ref (ad 65), .int a1, .int a2] : List Value).toArray s 0 0 A) (F0 m 10 ls []) := by
    intro n
    induction n with
    | zero =>
      intro σ v2 v3 v4 v5 H locs ls hf
      cases hf
    | succ n ih =>
      intro σ v2 v3 v4 v5 H locs ls hf B hl
      have hf : f_X9_argumentLeft_10 (zlp4 (f_X9_argumentLeft_10) n) σ v2 v3 v4 v5 = some (r, σ') := hf
      unfold f_X9_argumentLeft_10 at hf
      refine lv_iload hx hb dX9_argumentLeft_10 (lv_at hl 4 rfl) ?_
      refine lv_if_lt (tgt := 98) hx hb dX9_argumentLeft_12 (by decide) (fun hc => ?_) (fun hc => ?_)
      · have hf := zif_t hc hf
        refine lv_iload_n hx hb dX9_argumentLeft_98 rfl (lv_at hl 2 rfl) ?_
        refine lv_iload hx hb dX9_argumentLeft_99 (lv_at hl 3 rfl) ?_
        refine lv_icmp_le (tgt := 108) hx hb dX9_argumentLeft_101 (by decide) (fun hc => ?_) (fun hc => ?_)
        · have hf := zif_t hc hf
          refine lv_iload_n hx hb dX9_argumentLeft_108 rfl (lv_at hl 1 rfl) ?_
          refine lv_if_eq (tgt := 116) hx hb dX9_argumentLeft_109 (by decide) (fun hc => ?_) (fun hc => ?_)
          · have hf := zif_t hc hf
            refine lv_iload hx hb dX9_argumentLeft_116 (lv_at hl 3 rfl) ?_
            refine W.widen (k := 0) (n := 0) (Nat.le_of_ble_eq_true rfl) (Nat.le_of_ble_eq_true rfl) ?_
            exact x_iret hx hb hr rfl hlocks B hf dX9_argumentLeft_118
          · have hf := zif_f hc hf
            refine lv_iload_n hx hb dX9_argumentLeft_112 rfl (lv_at hl 2 rfl) ?_
            refine lv_goto (tgt := 118) hx hb dX9_argumentLeft_113 (by decide) ?_
            refine W.widen (k := 0) (n := 0) (Nat.le_of_ble_eq_true rfl) (Nat.le_of_ble_eq_true rfl) ?_
            exact x_iret hx hb hr rfl hlocks B hf dX9_argumentLeft_118
        · have hf := zif_f hc hf
          refine lv_iconst (v := (-1 : Int32)) hx hb dX9_argumentLeft_104 (by decide) ?_
          refine lv_goto (tgt := 118) hx hb dX9_argumentLeft_105 (by decide) ?_
          refine W.widen (k := 0) (n := 0) (Nat.le_of_ble_eq_true rfl) (Nat.le_of_ble_eq_true rfl) ?_
          exact x_iret hx hb hr rfl hlocks B hf dX9_argumentLeft_118
      · have hf := zif_f hc hf
        refine lv_iconst (v := (0 : Int32)) hx hb dX9_argumentLeft_15 (by decide) ?_
        refine lv_istore (lv' := [(6, .int (0 : Int32)), (0, .ref (ad 65)), (2, .int v2), (3, .int v3), (4, .int v4), (5, .int v5)]) hx hb dX9_argumentLeft_16 hl (by decide) rfl (fun ls hl => ?_)
        exact L18 _ ih  _ _ _ _ _ _ _ _ _ _ hf B (lv_sub hl [1, 2, 3, 4, 5, 0] rfl)
  unfold f_X9_argumentLeft at hf
  refine lv_iconst (v := (0 : Int32)) hx hb dX9_argumentLeft_0 (by decide) ?_
  refine lv_istore_n (lv' := [(3, .int (0 : Int32)), (0, .ref (ad 65)), (1, .int a1), (2, .int a2)]) hx hb dX9_argumentLeft_1 rfl hl (by decide) rfl (fun ls hl => ?_)
  refine lv_sipush (v := (999 : Int32)) hx hb dX9_argumentLeft_2 (by decide) ?_
  refine lv_istore (lv' := [(4, .int (999 : Int32)), (3, .int (0 : Int32)), (0, .ref (ad 65)), (1, .int a1), (2, .int a2)]) hx hb dX9_argumentLeft_5 hl (by decide) rfl (fun ls hl => ?_)
  refine lv_iload_n hx hb dX9_argumentLeft_7 rfl (lv_at hl 3 rfl) ?_
  refine lv_istore (lv' := [(5, .int a1), (4, .int (999 : Int32)), (3, .int (0 : Int32)), (0, .ref (ad 65)), (1, .int a1), (2, .int a2)]) hx hb dX9_argumentLeft_8 hl (by decide) rfl (fun ls hl => ?_)
  exact L10  _ _ _ _ _ _ _ _ _ hf B (lv_sub hl [3, 5, 2, 1, 0] rfl)
theorem dX9_endOf_0 : decode cX9_endOf 0 = .ok (.ldc 176, 2) := by decide +kernel
theorem dX9_endOf_2 : decode cX9_endOf 2 = .ok (.istore_n 2, 1) := by decide +kernel
theorem dX9_endOf_3 : decode cX9_endOf 3 = .ok (.iload_n 1, 1) := by decide +kernel
theorem dX9_endOf_4 : decode cX9_endOf 4 = .ok (.istore_n 3, 1) := by decide +kernel
theorem dX9_endOf_5 : decode cX9_endOf 5 = .ok (.iload_n 3, 1) := by decide +kernel
theorem dX9_endOf_6 : decode cX9_endOf 6 = .ok (.ifCond .lt 69, 3) := by decide +kernel
theorem dX9_endOf_9 : decode cX9_endOf 9 = .ok (.iconst 0, 1) := by decide +kernel
theorem dX9_endOf_10 : decode cX9_endOf 10 = .ok (.istore 4, 2) := by decide +kernel
theorem dX9_endOf_12 : decode cX9_endOf 12 = .ok (.iload 4, 2) := by decide +kernel
theorem dX9_endOf_14 : decode cX9_endOf 14 = .ok (.aload_n 0, 1) := by decide +kernel
theorem dX9_endOf_15 : decode cX9_endOf 15 = .ok (.getfield 9, 3) := by decide +kernel
theorem dX9_endOf_18 : decode cX9_endOf 18 = .ok (.sipush 191, 3) := by decide +kernel
theorem dX9_endOf_21 : decode cX9_endOf 21 = .ok (.iload_n 3, 1) := by decide +kernel
theorem dX9_endOf_22 : decode cX9_endOf 22 = .ok (.iadd, 1) := by decide +kernel
theorem dX9_endOf_23 : decode cX9_endOf 23 = .ok (.iaload, 1) := by decide +kernel
theorem dX9_endOf_24 : decode cX9_endOf 24 = .ok (.if_icmp .ge 38, 3) := by decide +kernel
theorem dX9_endOf_27 : decode cX9_endOf 27 = .ok (.aload_n 0, 1) := by decide +kernel
theorem dX9_endOf_28 : decode cX9_endOf 28 = .ok (.iload_n 3, 1) := by decide +kernel
theorem dX9_endOf_29 : decode cX9_endOf 29 = .ok (.iload 4, 2) := by decide +kernel
theorem dX9_endOf_31 : decode cX9_endOf 31 = .ok (.iconst 0, 1) := by decide +kernel
theorem dX9_endOf_32 : decode cX9_endOf 32 = .ok (.invokevirtual 55, 3) := by decide +kernel
theorem dX9_endOf_35 : decode cX9_endOf 35 = .ok (.iconst 1, 1) := by decide +kernel
theorem dX9_endOf_36 : decode cX9_endOf 36 = .ok (.if_icmp .ne 18, 3) := by decide +kernel
theorem dX9_endOf_39 : decode cX9_endOf 39 = .ok (.iload_n 2, 1) := by decide +kernel
theorem dX9_endOf_40 : decode cX9_endOf 40 = .ok (.aload_n 0, 1) := by decide +kernel
theorem dX9_endOf_41 : decode cX9_endOf 41 = .ok (.iload_n 3, 1) := by decide +kernel
theorem dX9_endOf_42 : decode cX9_endOf 42 = .ok (.iload 4, 2) := by decide +kernel
theorem dX9_endOf_44 : decode cX9_endOf 44 = .ok (.iconst 1, 1) := by decide +kernel
theorem dX9_endOf_45 : decode cX9_endOf 45 = .ok (.invokevirtual 55, 3) := by decide +kernel
theorem dX9_endOf_48 : decode cX9_endOf 48 = .ok (.invokestatic 165, 3) := by decide +kernel
theorem dX9_endOf_51 : decode cX9_endOf 51 = .ok (.goto 4, 3) := by decide +kernel
theorem dX9_endOf_54 : decode cX9_endOf 54 = .ok (.iload_n 2, 1) := by decide +kernel
theorem dX9_endOf_55 : decode cX9_endOf 55 = .ok (.istore_n 2, 1) := by decide +kernel
theorem dX9_endOf_56 : decode cX9_endOf 56 = .ok (.iinc 4 1, 3) := by decide +kernel
theorem dX9_endOf_59 : decode cX9_endOf 59 = .ok (.goto (-47), 3) := by decide +kernel
theorem dX9_endOf_62 : decode cX9_endOf 62 = .ok (.aload_n 0, 1) := by decide +kernel
theorem dX9_endOf_63 : decode cX9_endOf 63 = .ok (.getfield 9, 3) := by decide +kernel
theorem dX9_endOf_66 : decode cX9_endOf 66 = .ok (.bipush 79, 2) := by decide +kernel
theorem dX9_endOf_68 : decode cX9_endOf 68 = .ok (.iload_n 3, 1) := by decide +kernel
theorem dX9_endOf_69 : decode cX9_endOf 69 = .ok (.iadd, 1) := by decide +kernel
theorem dX9_endOf_70 : decode cX9_endOf 70 = .ok (.iaload, 1) := by decide +kernel
theorem dX9_endOf_71 : decode cX9_endOf 71 = .ok (.istore_n 3, 1) := by decide +kernel
theorem dX9_endOf_72 : decode cX9_endOf 72 = .ok (.goto (-67), 3) := by decide +kernel
theorem dX9_endOf_75 : decode cX9_endOf 75 = .ok (.iload_n 2, 1) := by decide +kernel
theorem dX9_endOf_76 : decode cX9_endOf 76 = .ok (.ireturn, 1) := by decide +kernel
set_option maxRecDepth 20000 in
theorem ggX9_endOf_X9_part : GoodIn wsX9_endOf wsX9_part := goodIn_ca (goodIn_r _ [11, 2, 12, 13, 14, 15, 16, 17, 18, 19, 20, 21, 22, 23, 24, 25, 26, 27, 28, 29, 30, 31] (by decide +kernel) (by decide +kernel)) (goodIn_sub (fun _ h => List.mem_cons_of_mem _ (List.mem_append_right _ h)) (by decide +kernel))
set_option maxRecDepth 20000 in
theorem gX9_endOf_X9_part : GoodIn wsX9_endOf (wsV RX9 55 RX9 yX9_part wsX9_part) := goodIn_app (goodIn_of _ (by decide +kernel)) ggX9_endOf_X9_part
def rm_X9_endOf : Room := { frames := 2, cells := 0, slots := 0, locals := 40 }
set_option maxHeartbeats 4000000 in
set_option maxRecDepth 100000 in
theorem c_X9_endOf (l : Launch) {G : zG} {ad : Nat → Nat} {σ σ' : zs} {a1 : Int32} {r : Int32} (hf : f_X9_endOf σ a1 = some (r, σ')) : xMi l yX9_endOf wsX9_endOf rm_X9_endOf G ad σ [.ref (ad 65), .int a1] r σ' := by
  intro sz nb a g hs
  refine Met.ofW (cc := cX9_endOf) (maxL := 5) (ret := (some .int)) (by decide) rfl ?_
  intro p e s m args below meth c s₁ B hml hv
  obtain ⟨rfl, hsz, hv⟩ := hv
  have hx := B.exec
  have hb := B.bytes
  have hr := B.returns
  have hts := atoms_spec (ws := wsX9_endOf) B.pre
  have hown : s.vm.findClass RX9 = some m.cls := findClass_of_methodNamed B.named
  have hlocks := B.notSynchronized
  subst hsz
  have B := xB_start hs hv
  have hinRX9 : ∀ w ∈ wsX90, w ∈ wsX9_endOf := by decide +kernel
  have hl := lv_entry ([.ref (ad 65), .int a1]) (n := 5) (Nat.le_of_ble_eq_true rfl)
  rw [lg_entry_eq]
  generalize (lg_sl ([.ref (ad 65), .int a1]) ++ List.replicate (5 - (lg_sl ([.ref (ad 65), .int a1])).length) Slot.unset).toArray = ls at hl ⊢
  have hl : lv_has ls 5 [(0, .ref (ad 65)), (1, .int a1)] := hl
  generalize hAe : xA ad a s.heap.size = A at B ⊢
  have L12 : ∀ (K5 : zs → Int32 → Int32 → Option (Int32 × zs)) (hK5 : ∀ (σ : zs) (v2 : Int32) (v3 : Int32) (H : Heap) (locs : List Loc) (ls : Array Slot), K5 σ v2 v3 = some (r, σ') → xB A s G ad σ H locs → lv_has ls 5 [(0, .ref (ad 65)), (2, .int v2), (3, .int v3)] → W p l e (headSpec wsX9_endOf rm_X9_endOf).room s m ([.ref (ad 65), .int a1] : List Value).toArray below meth c H locs 0 0 (MQ below (va_Qi (fun r' (u : xV) => r' = r ∧ xQ σ' u) (xPost G ad σ' A) A) ([.ref (ad 65), .int a1] : List Value).toArray s 0 0 A) (F0 m 5 ls [])) (n : Nat) (σ : zs) (v2 : Int32) (v3 : Int32) (v4 : Int32) (H : Heap) (locs : List Loc) (ls : Array Slot), zlp3 (f_X9_endOf_12 K5) n σ v2 v3 v4 = some (r, σ') → xB A s G ad σ H locs → lv_has ls 5 [(0, .ref (ad 65)), (2, .int v2), (3, .int v3), (4, .int v4)] → W p l e (headSpec wsX9_endOf rm_X9_endOf).room s m ([.ref (ad 65), .int a1] : List Value).toArray below meth c H locs 0 0 (MQ below (va_Qi (fun r' (u : xV) => r' = r ∧ xQ σ' u) (xPost G ad σ' A) A) ([.ref (ad 65), .int a1] : List Value).toArray s 0 0 A) (F0 m 12 ls []) := by
    intro K5 hK5 n
    induction n with
    | zero =>
      intro σ v2 v3 v4 H locs ls hf
      cases hf
    | succ n ih =>
      intro σ v2 v3 v4 H locs ls hf B hl
      have hf : f_X9_endOf_12 K5 (zlp3 (f_X9_endOf_12 K5) n) σ v2 v3 v4 = some (r, σ') := hf
      unfold f_X9_endOf_12 at hf
      refine lv_iload hx hb dX9_endOf_12 (lv_at hl 3 rfl) ?_
      refine lv_aload_n hx hb dX9_endOf_14 rfl (lv_at hl 0 rfl) ?_
      refine x_getr hx hb hts hinRX9 hown B 65 0 66 (by decide) (by decide) (fun _ => rfl) rfl rfl (by decide) (by decide +kernel) rfl dX9_endOf_15 ?_
      refine lv_sipush (v := (191 : Int32)) hx hb dX9_endOf_18 (by decide) ?_
      refine lv_iload_n hx hb dX9_endOf_21 rfl (lv_at hl 2 rfl) ?_
      refine lv_iadd hx hb dX9_endOf_22 ?_
      obtain ⟨hg, hf⟩ := zg_some hf
      refine x_iald hx hb B 66 (by decide) (fun _ => rfl) (zin_ok hg) dX9_endOf_23 ?_
      refine lv_icmp_ge (tgt := 62) hx hb dX9_endOf_24 (by decide) (fun hc => ?_) (fun hc => ?_)
      · have hf := zif_t hc hf
        refine lv_aload_n hx hb dX9_endOf_62 rfl (lv_at hl 0 rfl) ?_
        refine x_getr hx hb hts hinRX9 hown B 65 0 66 (by decide) (by decide) (fun _ => rfl) rfl rfl (by decide) (by decide +kernel) rfl dX9_endOf_63 ?_
        refine lv_bipush (v := (79 : Int32)) hx hb dX9_endOf_66 (by decide) ?_
        refine lv_iload_n hx hb dX9_endOf_68 rfl (lv_at hl 2 rfl) ?_
        refine lv_iadd hx hb dX9_endOf_69 ?_
        obtain ⟨hg, hf⟩ := zg_some hf
        refine x_iald hx hb B 66 (by decide) (fun _ => rfl) (zin_ok hg) dX9_endOf_70 ?_
        refine lv_istore_n (lv' := [(3, .int (σ 66 ((79 : Int32) + v3).toNatClampNeg)), (0, .ref (ad 65)), (2, .int v2), (4, .int v4)]) hx hb dX9_endOf_71 rfl hl (by decide) rfl (fun ls hl => ?_)
        refine lv_goto (tgt := 5) hx hb dX9_endOf_72 (by decide) ?_
        exact hK5 _ _ _ _ _ _ hf B (lv_sub hl [1, 2, 0] rfl)
      · have hf := zif_f hc hf
        refine lv_aload_n hx hb dX9_endOf_27 rfl (lv_at hl 0 rfl) ?_
        refine lv_iload_n hx hb dX9_endOf_28 rfl (lv_at hl 2 rfl) ?_
        refine lv_iload hx hb dX9_endOf_29 (lv_at hl 3 rfl) ?_
        refine lv_iconst (v := (0 : Int32)) hx hb dX9_endOf_31 (by decide) ?_
        obtain ⟨r2, σ3, hu1, hf⟩ := zb_some hf
        refine x_i B (fun nb a g hs Bz => va_runV (As := [.int v3, .int v4, .int (0 : Int32)]) (rest := []) ⟨hx, hb, hml, hown, hts⟩ (c_X9_part l hu1 _ nb a g hs) (cwV 3 hts gX9_endOf_X9_part rfl rfl rfl (by decide +kernel) ⟨Nat.le_of_ble_eq_true rfl, Nat.le_of_ble_eq_true rfl⟩) (x_preV Bz (by decide) (fun _ => rfl) rfl) rfl rfl hl.1 rfl (lv_room (Nat.le_of_ble_eq_true rfl)) dX9_endOf_32 ⟨Nat.le_of_ble_eq_true rfl, Nat.le_of_ble_eq_true rfl⟩) (fun H locs B => ?_)
        refine lv_iconst (v := (1 : Int32)) hx hb dX9_endOf_35 (by decide) ?_
        refine lv_icmp_ne (tgt := 54) hx hb dX9_endOf_36 (by decide) (fun hc => ?_) (fun hc => ?_)
        · have hf := zif_f hc hf
          refine lv_iload_n hx hb dX9_endOf_54 rfl (lv_at hl 1 rfl) ?_
          refine lv_istore_n (lv' := [(2, .int v2), (0, .ref (ad 65)), (3, .int v3), (4, .int v4)]) hx hb dX9_endOf_55 rfl hl (by decide) rfl (fun ls hl => ?_)
          refine lv_iinc (v := (v4 + (1 : Int32))) (lv' := [(4, .int (v4 + (1 : Int32))), (2, .int v2), (0, .ref (ad 65)), (3, .int v3)]) hx hb dX9_endOf_56 hl (k := 3) rfl (zc1 (by decide)) (by decide) rfl (fun ls hl => ?_)
          refine lv_goto (tgt := 12) hx hb dX9_endOf_59 (by decide) ?_
          exact ih _ _ _ _ _ _ _ hf B (lv_sub hl [2, 1, 3, 0] rfl)
        · have hf := zif_t hc hf
          refine lv_iload_n hx hb dX9_endOf_39 rfl (lv_at hl 1 rfl) ?_
          refine lv_aload_n hx hb dX9_endOf_40 rfl (lv_at hl 0 rfl) ?_
          refine lv_iload_n hx hb dX9_endOf_41 rfl (lv_at hl 2 rfl) ?_
          refine lv_iload hx hb dX9_endOf_42 (lv_at hl 3 rfl) ?_
          refine lv_iconst (v := (1 : Int32)) hx hb dX9_endOf_44 (by decide) ?_
          obtain ⟨r5, σ6, hu4, hf⟩ := zb_some hf
          refine x_i B (fun nb a g hs Bz => va_runV (As := [.int v3, .int v4, .int (1 : Int32)]) (rest := [.int v2]) ⟨hx, hb, hml, hown, hts⟩ (c_X9_part l hu4 _ nb a g hs) (cwV 3 hts gX9_endOf_X9_part rfl rfl rfl (by decide +kernel) ⟨Nat.le_of_ble_eq_true rfl, Nat.le_of_ble_eq_true rfl⟩) (x_preV Bz (by decide) (fun _ => rfl) rfl) rfl rfl hl.1 rfl (lv_room (Nat.le_of_ble_eq_true rfl)) dX9_endOf_45 ⟨Nat.le_of_ble_eq_true rfl, Nat.le_of_ble_eq_true rfl⟩) (fun H locs B => ?_)
          refine va_mmin hx hb (hml.trans hl.1.symm) hown (index := 165) (hts _ (by decide +kernel)) (hts _ (by decide +kernel)) (hts _ (by decide +kernel)) (hts _ (by decide +kernel)) (Nat.le_of_ble_eq_true rfl) (Nat.le_of_ble_eq_true rfl) (Nat.le_of_ble_eq_true rfl) (Nat.le_of_ble_eq_true rfl) dX9_endOf_48 ?_
          refine lv_goto (tgt := 55) hx hb dX9_endOf_51 (by decide) ?_
          refine lv_istore_n (lv' := [(2, .int (if r5 < v2 then r5 else v2)), (0, .ref (ad 65)), (3, .int v3), (4, .int v4)]) hx hb dX9_endOf_55 rfl hl (by decide) rfl (fun ls hl => ?_)
          refine lv_iinc (v := (v4 + (1 : Int32))) (lv' := [(4, .int (v4 + (1 : Int32))), (2, .int (if r5 < v2 then r5 else v2)), (0, .ref (ad 65)), (3, .int v3)]) hx hb dX9_endOf_56 hl (k := 3) rfl (zc1 (by decide)) (by decide) rfl (fun ls hl => ?_)
          refine lv_goto (tgt := 12) hx hb dX9_endOf_59 (by decide) ?_
          exact ih _ _ _ _ _ _ _ hf B (lv_sub hl [2, 1, 3, 0] rfl)
  have L5 : ∀ (n : Nat) (σ : zs) (v2 : Int32) (v3 : Int32) (H : Heap) (locs : List Loc) (ls : Array Slot), zlp2 (f_X9_endOf_5) n σ v2 v3 = some (r, σ') → xB A s G ad σ H locs → lv_has ls 5 [(0, .ref (ad 65)), (2, .int v2), (3, .int v3)] → W p l e (headSpec wsX9_endOf rm_X9_endOf).room s m ([.ref (ad 65), .int a1] : List Value).toArray below meth c H locs 0 0 (MQ below (va_Qi (fun r' (u : xV) => r' = r ∧ xQ σ' u) (xPost G ad σ' A) A) ([.ref (ad 65), .int a1] : List Value).toArray s 0 0 A) (F0 m 5 ls []) := by
    intro n
    induction n with
    | zero =>
      intro σ v2 v3 H locs ls hf
      cases hf
    | succ n ih =>
      intro σ v2 v3 H locs ls hf B hl
      have hf : f_X9_endOf_5 (zlp2 (f_X9_endOf_5) n) σ v2 v3 = some (r, σ') := hf
      unfold f_X9_endOf_5 at hf
      refine lv_iload_n hx hb dX9_endOf_5 rfl (lv_at hl 2 rfl) ?_
      refine lv_if_lt (tgt := 75) hx hb dX9_endOf_6 (by decide) (fun hc => ?_) (fun hc => ?_)
      · have hf := zif_t hc hf
        refine lv_iload_n hx hb dX9_endOf_75 rfl (lv_at hl 1 rfl) ?_
        refine W.widen (k := 0) (n := 0) (Nat.le_of_ble_eq_true rfl) (Nat.le_of_ble_eq_true rfl) ?_
        exact x_iret hx hb hr rfl hlocks B hf dX9_endOf_76
      · have hf := zif_f hc hf
        refine lv_iconst (v := (0 : Int32)) hx hb dX9_endOf_9 (by decide) ?_
        refine lv_istore (lv' := [(4, .int (0 : Int32)), (0, .ref (ad 65)), (2, .int v2), (3, .int v3)]) hx hb dX9_endOf_10 hl (by decide) rfl (fun ls hl => ?_)
        exact L12 _ ih  _ _ _ _ _ _ _ _ hf B (lv_sub hl [1, 2, 3, 0] rfl)
  unfold f_X9_endOf at hf
  refine lv_ldc (v := (2147483647 : Int32)) hx hb hown (hts (.constant RX9 176 (2147483647)) (by decide +kernel)) dX9_endOf_0 ?_
  refine lv_istore_n (lv' := [(2, .int (2147483647 : Int32)), (0, .ref (ad 65)), (1, .int a1)]) hx hb dX9_endOf_2 rfl hl (by decide) rfl (fun ls hl => ?_)
  refine lv_iload_n hx hb dX9_endOf_3 rfl (lv_at hl 2 rfl) ?_
  refine lv_istore_n (lv' := [(3, .int a1), (2, .int (2147483647 : Int32)), (0, .ref (ad 65)), (1, .int a1)]) hx hb dX9_endOf_4 rfl hl (by decide) rfl (fun ls hl => ?_)
  exact L5  _ _ _ _ _ _ _ hf B (lv_sub hl [2, 1, 0] rfl)
theorem dX9_left_0 : decode cX9_left 0 = .ok (.aload_n 0, 1) := by decide +kernel
theorem dX9_left_1 : decode cX9_left 1 = .ok (.aload_n 0, 1) := by decide +kernel
theorem dX9_left_2 : decode cX9_left 2 = .ok (.iload_n 1, 1) := by decide +kernel
theorem dX9_left_3 : decode cX9_left 3 = .ok (.invokevirtual 118, 3) := by decide +kernel
theorem dX9_left_6 : decode cX9_left 6 = .ok (.ifCond .ne 7, 3) := by decide +kernel
theorem dX9_left_9 : decode cX9_left 9 = .ok (.iconst 1, 1) := by decide +kernel
theorem dX9_left_10 : decode cX9_left 10 = .ok (.goto 17, 3) := by decide +kernel
theorem dX9_left_13 : decode cX9_left 13 = .ok (.iload_n 2, 1) := by decide +kernel
theorem dX9_left_14 : decode cX9_left 14 = .ok (.iconst 0, 1) := by decide +kernel
theorem dX9_left_15 : decode cX9_left 15 = .ok (.iconst 5, 1) := by decide +kernel
theorem dX9_left_16 : decode cX9_left 16 = .ok (.invokestatic 44, 3) := by decide +kernel
theorem dX9_left_19 : decode cX9_left 19 = .ok (.ifCond .eq 7, 3) := by decide +kernel
theorem dX9_left_22 : decode cX9_left 22 = .ok (.iconst 0, 1) := by decide +kernel
theorem dX9_left_23 : decode cX9_left 23 = .ok (.goto 4, 3) := by decide +kernel
theorem dX9_left_26 : decode cX9_left 26 = .ok (.iconst 2, 1) := by decide +kernel
theorem dX9_left_27 : decode cX9_left 27 = .ok (.putfield 41, 3) := by decide +kernel
theorem dX9_left_30 : decode cX9_left 30 = .ok (.aload_n 0, 1) := by decide +kernel
theorem dX9_left_31 : decode cX9_left 31 = .ok (.getfield 41, 3) := by decide +kernel
theorem dX9_left_34 : decode cX9_left 34 = .ok (.ifCond .eq 5, 3) := by decide +kernel
theorem dX9_left_37 : decode cX9_left 37 = .ok (.iconst 0, 1) := by decide +kernel
theorem dX9_left_38 : decode cX9_left 38 = .ok (.ireturn, 1) := by decide +kernel
theorem dX9_left_39 : decode cX9_left 39 = .ok (.iload_n 2, 1) := by decide +kernel
theorem dX9_left_40 : decode cX9_left 40 = .ok (.tableswitch 72 0 3 #[32, 39, 59, 66], 32) := by decide +kernel
theorem dX9_left_72 : decode cX9_left 72 = .ok (.aload_n 0, 1) := by decide +kernel
theorem dX9_left_73 : decode cX9_left 73 = .ok (.iload_n 1, 1) := by decide +kernel
theorem dX9_left_74 : decode cX9_left 74 = .ok (.iconst 0, 1) := by decide +kernel
theorem dX9_left_75 : decode cX9_left 75 = .ok (.invokevirtual 168, 3) := by decide +kernel
theorem dX9_left_78 : decode cX9_left 78 = .ok (.ireturn, 1) := by decide +kernel
theorem dX9_left_79 : decode cX9_left 79 = .ok (.aload_n 0, 1) := by decide +kernel
theorem dX9_left_80 : decode cX9_left 80 = .ok (.iload_n 1, 1) := by decide +kernel
theorem dX9_left_81 : decode cX9_left 81 = .ok (.invokevirtual 171, 3) := by decide +kernel
theorem dX9_left_84 : decode cX9_left 84 = .ok (.ldc 176, 2) := by decide +kernel
theorem dX9_left_86 : decode cX9_left 86 = .ok (.if_icmp .ne 7, 3) := by decide +kernel
theorem dX9_left_89 : decode cX9_left 89 = .ok (.iconst (-1), 1) := by decide +kernel
theorem dX9_left_90 : decode cX9_left 90 = .ok (.goto 8, 3) := by decide +kernel
theorem dX9_left_93 : decode cX9_left 93 = .ok (.aload_n 0, 1) := by decide +kernel
theorem dX9_left_94 : decode cX9_left 94 = .ok (.iload_n 1, 1) := by decide +kernel
theorem dX9_left_95 : decode cX9_left 95 = .ok (.invokevirtual 171, 3) := by decide +kernel
theorem dX9_left_98 : decode cX9_left 98 = .ok (.ireturn, 1) := by decide +kernel
theorem dX9_left_99 : decode cX9_left 99 = .ok (.aload_n 0, 1) := by decide +kernel
theorem dX9_left_100 : decode cX9_left 100 = .ok (.iload_n 1, 1) := by decide +kernel
theorem dX9_left_101 : decode cX9_left 101 = .ok (.iconst 2, 1) := by decide +kernel
theorem dX9_left_102 : decode cX9_left 102 = .ok (.invokevirtual 168, 3) := by decide +kernel
theorem dX9_left_105 : decode cX9_left 105 = .ok (.ireturn, 1) := by decide +kernel
theorem dX9_left_106 : decode cX9_left 106 = .ok (.aload_n 0, 1) := by decide +kernel
theorem dX9_left_107 : decode cX9_left 107 = .ok (.iload_n 1, 1) := by decide +kernel
theorem dX9_left_108 : decode cX9_left 108 = .ok (.invokevirtual 177, 3) := by decide +kernel
theorem dX9_left_111 : decode cX9_left 111 = .ok (.ireturn, 1) := by decide +kernel
theorem dX9_left_112 : decode cX9_left 112 = .ok (.aload_n 0, 1) := by decide +kernel
theorem dX9_left_113 : decode cX9_left 113 = .ok (.iload_n 1, 1) := by decide +kernel
theorem dX9_left_114 : decode cX9_left 114 = .ok (.iload_n 2, 1) := by decide +kernel
theorem dX9_left_115 : decode cX9_left 115 = .ok (.iconst 4, 1) := by decide +kernel
theorem dX9_left_116 : decode cX9_left 116 = .ok (.if_icmp .ne 7, 3) := by decide +kernel
theorem dX9_left_119 : decode cX9_left 119 = .ok (.iconst 1, 1) := by decide +kernel
theorem dX9_left_120 : decode cX9_left 120 = .ok (.goto 4, 3) := by decide +kernel
theorem dX9_left_123 : decode cX9_left 123 = .ok (.iconst 0, 1) := by decide +kernel
theorem dX9_left_124 : decode cX9_left 124 = .ok (.invokevirtual 180, 3) := by decide +kernel
theorem dX9_left_127 : decode cX9_left 127 = .ok (.ireturn, 1) := by decide +kernel
set_option maxRecDepth 20000 in
theorem ggX9_left_X9_isToken : GoodIn wsX9_left wsX9_isToken := goodIn_ca (goodIn_r _ [7, 8, 9, 10, 6, 11, 39, 40, 41, 42, 43, 44, 45, 46, 47, 48, 49, 50, 51, 52, 53, 54, 55, 56, 57, 58] (by decide +kernel) (by decide +kernel)) (goodIn_sub (fun _ h => List.mem_cons_of_mem _ (List.mem_append_right _ h)) (by decide +kernel))
set_option maxRecDepth 20000 in
theorem gX9_left_X9_isToken : GoodIn wsX9_left (wsV RX9 118 RX9 yX9_isToken wsX9_isToken) := goodIn_app (goodIn_of _ (by decide +kernel)) ggX9_left_X9_isToken
set_option maxRecDepth 20000 in
theorem ggX9_left_X9_isIn : GoodIn wsX9_left wsX9_isIn := goodIn_r _ [11] (by decide +kernel) (by decide +kernel)
set_option maxRecDepth 20000 in
theorem gX9_left_X9_isIn : GoodIn wsX9_left (va_wsS RX9 44 yX9_isIn wsX9_isIn) := goodIn_app (goodIn_of _ (by decide +kernel)) ggX9_left_X9_isIn
set_option maxRecDepth 20000 in
theorem ggX9_left_X9_argumentLeft : GoodIn wsX9_left wsX9_argumentLeft := goodIn_ca (goodIn_r _ [38, 8, 32, 33, 26, 34, 24, 25, 27, 16, 17, 18, 6, 19, 39, 40, 41, 42, 43, 44, 45, 46, 47, 48, 49, 50, 51, 52, 53, 54, 55, 56, 57, 58] (by decide +kernel) (by decide +kernel)) (goodIn_sub (fun _ h => List.mem_cons_of_mem _ (List.mem_append_right _ h)) (by decide +kernel))
set_option maxRecDepth 20000 in
theorem gX9_left_X9_argumentLeft : GoodIn wsX9_left (wsV RX9 180 RX9 yX9_argumentLeft wsX9_argumentLeft) := goodIn_app (goodIn_of _ (by decide +kernel)) ggX9_left_X9_argumentLeft
set_option maxRecDepth 20000 in
theorem ggX9_left_X9_setLeft : GoodIn wsX9_left wsX9_setLeft := goodIn_ca (goodIn_r _ [15, 8, 16, 17, 18, 6, 19, 39, 40, 41, 42, 43, 44, 45, 46, 47, 48, 49, 50, 51, 52, 53, 54, 55, 56, 57, 58] (by decide +kernel) (by decide +kernel)) (goodIn_sub (fun _ h => List.mem_cons_of_mem _ (List.mem_append_right _ h)) (by decide +kernel))
set_option maxRecDepth 20000 in
theorem gX9_left_X9_setLeft : GoodIn wsX9_left (wsV RX9 168 RX9 yX9_setLeft wsX9_setLeft) := goodIn_app (goodIn_of _ (by decide +kernel)) ggX9_left_X9_setLeft
set_option maxRecDepth 20000 in
theorem ggX9_left_X9_endOf : GoodIn wsX9_left wsX9_endOf := goodIn_ca (goodIn_r _ [23, 2, 8, 24, 25, 26, 27, 16, 17, 18, 6, 19, 39, 40, 41, 42, 43, 44, 45, 46, 47, 48, 49, 50, 51, 52, 53, 54, 55, 56, 57, 58] (by decide +kernel) (by decide +kernel)) (goodIn_sub (fun _ h => List.mem_cons_of_mem _ (List.mem_append_right _ h)) (by decide +kernel))
set_option maxRecDepth 20000 in
theorem gX9_left_X9_endOf : GoodIn wsX9_left (wsV RX9 171 RX9 yX9_endOf wsX9_endOf) := goodIn_app (goodIn_of _ (by decide +kernel)) ggX9_left_X9_endOf
set_option maxRecDepth 20000 in
theorem ggX9_left_X9_timesLeft : GoodIn wsX9_left wsX9_timesLeft := goodIn_ca (goodIn_r _ [31, 8, 32, 33, 26, 34, 24, 25, 27, 16, 17, 18, 6, 19, 39, 40, 41, 42, 43, 44, 45, 46, 47, 48, 49, 50, 51, 52, 53, 54, 55, 56, 57, 58] (by decide +kernel) (by decide +kernel)) (goodIn_sub (fun _ h => List.mem_cons_of_mem _ (List.mem_append_right _ h)) (by decide +kernel))
set_option maxRecDepth 20000 in
theorem gX9_left_X9_timesLeft : GoodIn wsX9_left (wsV RX9 177 RX9 yX9_timesLeft wsX9_timesLeft) := goodIn_app (goodIn_of _ (by decide +kernel)) ggX9_left_X9_timesLeft
def rm_X9_left : Room := { frames := 3, cells := 0, slots := 0, locals := 66 }
set_option maxHeartbeats 4000000 in
set_option maxRecDepth 100000 in
theorem c_X9_left (l : Launch) {G : zG} {ad : Nat → Nat} {σ σ' : zs} {a1 a2 : Int32} {r : Int32} (hf : f_X9_left σ a1 a2 = some (r, σ')) : xMi l yX9_left wsX9_left rm_X9_left G ad σ [.ref (ad 65), .int a1, .int a2] r σ' := by
  intro sz nb a g hs
  refine Met.ofW (cc := cX9_left) (maxL := 3) (ret := (some .int)) (by decide) rfl ?_
  intro p e s m args below meth c s₁ B hml hv
  obtain ⟨rfl, hsz, hv⟩ := hv
  have hx := B.exec
  have hb := B.bytes
  have hr := B.returns
  have hts := atoms_spec (ws := wsX9_left) B.pre
  have hown : s.vm.findClass RX9 = some m.cls := findClass_of_methodNamed B.named
  have hlocks := B.notSynchronized
  subst hsz
  have B := xB_start hs hv
  have hinRX9 : ∀ w ∈ wsX90, w ∈ wsX9_left := by decide +kernel
  have hl := lv_entry ([.ref (ad 65), .int a1, .int a2]) (n := 3) (Nat.le_of_ble_eq_true rfl)
  rw [lg_entry_eq]
  generalize (lg_sl ([.ref (ad 65), .int a1, .int a2]) ++ List.replicate (3 - (lg_sl ([.ref (ad 65), .int a1, .int a2])).length) Slot.unset).toArray = ls at hl ⊢
  have hl : lv_has ls 3 [(0, .ref (ad 65)), (1, .int a1), (2, .int a2)] := hl
  generalize hAe : xA ad a s.heap.size = A at B ⊢
  have L124 : ∀ (σ : zs) (s0 : Int32) (s1 : Int32) (H : Heap) (locs : List Loc) (ls : Array Slot), f_X9_left_124 σ s0 s1 = some (r, σ') → xB A s G ad σ H locs → lv_has ls 3 [] → W p l e (headSpec wsX9_left rm_X9_left).room s m ([.ref (ad 65), .int a1, .int a2] : List Value).toArray below meth c H locs 0 0 (MQ below (va_Qi (fun r' (u : xV) => r' = r ∧ xQ σ' u) (xPost G ad σ' A) A) ([.ref (ad 65), .int a1, .int a2] : List Value).toArray s 0 0 A) (F0 m 124 ls [.int s0, .int s1, .ref (ad 65)]) := by
    intro σ s0 s1 H locs ls hf B hl
    unfold f_X9_left_124 at hf
    obtain ⟨r8, σ9, hu7, hf⟩ := zb_some hf
    refine x_i B (fun nb a g hs Bz => va_runV (As := [.int s1, .int s0]) (rest := []) ⟨hx, hb, hml, hown, hts⟩ (c_X9_argumentLeft l hu7 _ nb a g hs) (cwV 2 hts gX9_left_X9_argumentLeft rfl rfl rfl (by decide +kernel) ⟨Nat.le_of_ble_eq_true rfl, Nat.le_of_ble_eq_true rfl⟩) (x_preV Bz (by decide) (fun _ => rfl) rfl) rfl rfl hl.1 rfl (lv_room (Nat.le_of_ble_eq_true rfl)) dX9_left_124 ⟨Nat.le_of_ble_eq_true rfl, Nat.le_of_ble_eq_true rfl⟩) (fun H locs B => ?_)
    refine W.widen (k := 0) (n := 0) (Nat.le_of_ble_eq_true rfl) (Nat.le_of_ble_eq_true rfl) ?_
    exact x_iret hx hb hr rfl hlocks B hf dX9_left_127
  have L27 : ∀ (σ : zs) (v1 : Int32) (v2 : Int32) (s0 : Int32) (H : Heap) (locs : List Loc) (ls : Array Slot), f_X9_left_27 σ v1 v2 s0 = some (r, σ') → xB A s G ad σ H locs → lv_has ls 3 [(0, .ref (ad 65)), (1, .int v1), (2, .int v2)] → W p l e (headSpec wsX9_left rm_X9_left).room s m ([.ref (ad 65), .int a1, .int a2] : List Value).toArray below meth c H locs 0 0 (MQ below (va_Qi (fun r' (u : xV) => r' = r ∧ xQ σ' u) (xPost G ad σ' A) A) ([.ref (ad 65), .int a1, .int a2] : List Value).toArray s 0 0 A) (F0 m 27 ls [.int s0, .ref (ad 65)]) := by
    intro σ v1 v2 s0 H locs ls hf B hl
    unfold f_X9_left_27 at hf
    refine x_puti hx hb hts hinRX9 hown tyX9 tyX9_ok nmX9 B 65 3 (by decide) (by decide) (fun _ => rfl) rfl rfl (by decide) (by decide +kernel) rfl rfl rfl rfl dX9_left_27 (fun H locs B => ?_)
    refine lv_aload_n hx hb dX9_left_30 rfl (lv_at hl 0 rfl) ?_
    refine x_geti hx hb hts hinRX9 hown B 65 3 (by decide) (fun _ => rfl) rfl rfl (by decide) (by decide +kernel) rfl dX9_left_31 ?_
    refine lv_if_eq (tgt := 39) hx hb dX9_left_34 (by decide) (fun hc => ?_) (fun hc => ?_)
    · have hf := zif_t hc hf
      refine lv_iload_n hx hb dX9_left_39 rfl (lv_at hl 2 rfl) ?_
      by_cases hc0 : v2 = (0 : Int32)
      · have hf := zif_t hc0 hf
        refine lv_tableIn (off := 32) (tgt := 72) hx hb dX9_left_40 (by rw [hc0]; decide) (by rw [hc0]; decide) (by rw [hc0]; rfl) (by decide) ?_
        refine lv_aload_n hx hb dX9_left_72 rfl (lv_at hl 0 rfl) ?_
        refine lv_iload_n hx hb dX9_left_73 rfl (lv_at hl 1 rfl) ?_
        refine lv_iconst (v := (0 : Int32)) hx hb dX9_left_74 (by decide) ?_
        obtain ⟨r11, σ12, hu10, hf⟩ := zb_some hf
        refine x_i B (fun nb a g hs Bz => va_runV (As := [.int v1, .int (0 : Int32)]) (rest := []) ⟨hx, hb, hml, hown, hts⟩ (c_X9_setLeft l hu10 _ nb a g hs) (cwV 2 hts gX9_left_X9_setLeft rfl rfl rfl (by decide +kernel) ⟨Nat.le_of_ble_eq_true rfl, Nat.le_of_ble_eq_true rfl⟩) (x_preV Bz (by decide) (fun _ => rfl) rfl) rfl rfl hl.1 rfl (lv_room (Nat.le_of_ble_eq_true rfl)) dX9_left_75 ⟨Nat.le_of_ble_eq_true rfl, Nat.le_of_ble_eq_true rfl⟩) (fun H locs B => ?_)
        refine W.widen (k := 0) (n := 0) (Nat.le_of_ble_eq_true rfl) (Nat.le_of_ble_eq_true rfl) ?_
        exact x_iret hx hb hr rfl hlocks B hf dX9_left_78
      have hf := zif_f hc0 hf
      by_cases hc1 : v2 = (1 : Int32)
      · have hf := zif_t hc1 hf
        refine lv_tableIn (off := 39) (tgt := 79) hx hb dX9_left_40 (by rw [hc1]; decide) (by rw [hc1]; decide) (by rw [hc1]; rfl) (by decide) ?_
        refine lv_aload_n hx hb dX9_left_79 rfl (lv_at hl 0 rfl) ?_
        refine lv_iload_n hx hb dX9_left_80 rfl (lv_at hl 1 rfl) ?_
        obtain ⟨r14, σ15, hu13, hf⟩ := zb_some hf
        refine x_i B (fun nb a g hs Bz => va_runV (As := [.int v1]) (rest := []) ⟨hx, hb, hml, hown, hts⟩ (c_X9_endOf l hu13 _ nb a g hs) (cwV 1 hts gX9_left_X9_endOf rfl rfl rfl (by decide +kernel) ⟨Nat.le_of_ble_eq_true rfl, Nat.le_of_ble_eq_true rfl⟩) (x_preV Bz (by decide) (fun _ => rfl) rfl) rfl rfl hl.1 rfl (lv_room (Nat.le_of_ble_eq_true rfl)) dX9_left_81 ⟨Nat.le_of_ble_eq_true rfl, Nat.le_of_ble_eq_true rfl⟩) (fun H locs B => ?_)
        refine lv_ldc (v := (2147483647 : Int32)) hx hb hown (hts (.constant RX9 176 (2147483647)) (by decide +kernel)) dX9_left_84 ?_
        refine lv_icmp_ne (tgt := 93) hx hb dX9_left_86 (by decide) (fun hc => ?_) (fun hc => ?_)
        · have hf := zif_f hc hf
          refine lv_aload_n hx hb dX9_left_93 rfl (lv_at hl 0 rfl) ?_
          refine lv_iload_n hx hb dX9_left_94 rfl (lv_at hl 1 rfl) ?_
          obtain ⟨r17, σ18, hu16, hf⟩ := zb_some hf
          refine x_i B (fun nb a g hs Bz => va_runV (As := [.int v1]) (rest := []) ⟨hx, hb, hml, hown, hts⟩ (c_X9_endOf l hu16 _ nb a g hs) (cwV 1 hts gX9_left_X9_endOf rfl rfl rfl (by decide +kernel) ⟨Nat.le_of_ble_eq_true rfl, Nat.le_of_ble_eq_true rfl⟩) (x_preV Bz (by decide) (fun _ => rfl) rfl) rfl rfl hl.1 rfl (lv_room (Nat.le_of_ble_eq_true rfl)) dX9_left_95 ⟨Nat.le_of_ble_eq_true rfl, Nat.le_of_ble_eq_true rfl⟩) (fun H locs B => ?_)
          refine W.widen (k := 0) (n := 0) (Nat.le_of_ble_eq_true rfl) (Nat.le_of_ble_eq_true rfl) ?_
          exact x_iret hx hb hr rfl hlocks B hf dX9_left_98
        · have hf := zif_t hc hf
          refine lv_iconst (v := (-1 : Int32)) hx hb dX9_left_89 (by decide) ?_
          refine lv_goto (tgt := 98) hx hb dX9_left_90 (by decide) ?_
          refine W.widen (k := 0) (n := 0) (Nat.le_of_ble_eq_true rfl) (Nat.le_of_ble_eq_true rfl) ?_
          exact x_iret hx hb hr rfl hlocks B hf dX9_left_98
      have hf := zif_f hc1 hf
      by_cases hc2 : v2 = (2 : Int32)
      · have hf := zif_t hc2 hf
        refine lv_tableIn (off := 59) (tgt := 99) hx hb dX9_left_40 (by rw [hc2]; decide) (by rw [hc2]; decide) (by rw [hc2]; rfl) (by decide) ?_
        refine lv_aload_n hx hb dX9_left_99 rfl (lv_at hl 0 rfl) ?_
        refine lv_iload_n hx hb dX9_left_100 rfl (lv_at hl 1 rfl) ?_
        refine lv_iconst (v := (2 : Int32)) hx hb dX9_left_101 (by decide) ?_
        obtain ⟨r20, σ21, hu19, hf⟩ := zb_some hf
        refine x_i B (fun nb a g hs Bz => va_runV (As := [.int v1, .int (2 : Int32)]) (rest := []) ⟨hx, hb, hml, hown, hts⟩ (c_X9_setLeft l hu19 _ nb a g hs) (cwV 2 hts gX9_left_X9_setLeft rfl rfl rfl (by decide +kernel) ⟨Nat.le_of_ble_eq_true rfl, Nat.le_of_ble_eq_true rfl⟩) (x_preV Bz (by decide) (fun _ => rfl) rfl) rfl rfl hl.1 rfl (lv_room (Nat.le_of_ble_eq_true rfl)) dX9_left_102 ⟨Nat.le_of_ble_eq_true rfl, Nat.le_of_ble_eq_true rfl⟩) (fun H locs B => ?_)
        refine W.widen (k := 0) (n := 0) (Nat.le_of_ble_eq_true rfl) (Nat.le_of_ble_eq_true rfl) ?_
        exact x_iret hx hb hr rfl hlocks B hf dX9_left_105
      have hf := zif_f hc2 hf
      by_cases hc3 : v2 = (3 : Int32)
      · have hf := zif_t hc3 hf
        refine lv_tableIn (off := 66) (tgt := 106) hx hb dX9_left_40 (by rw [hc3]; decide) (by rw [hc3]; decide) (by rw [hc3]; rfl) (by decide) ?_
        refine lv_aload_n hx hb dX9_left_106 rfl (lv_at hl 0 rfl) ?_
        refine lv_iload_n hx hb dX9_left_107 rfl (lv_at hl 1 rfl) ?_
        obtain ⟨r23, σ24, hu22, hf⟩ := zb_some hf
        refine x_i B (fun nb a g hs Bz => va_runV (As := [.int v1]) (rest := []) ⟨hx, hb, hml, hown, hts⟩ (c_X9_timesLeft l hu22 _ nb a g hs) (cwV 1 hts gX9_left_X9_timesLeft rfl rfl rfl (by decide +kernel) ⟨Nat.le_of_ble_eq_true rfl, Nat.le_of_ble_eq_true rfl⟩) (x_preV Bz (by decide) (fun _ => rfl) rfl) rfl rfl hl.1 rfl (lv_room (Nat.le_of_ble_eq_true rfl)) dX9_left_108 ⟨Nat.le_of_ble_eq_true rfl, Nat.le_of_ble_eq_true rfl⟩) (fun H locs B => ?_)
        refine W.widen (k := 0) (n := 0) (Nat.le_of_ble_eq_true rfl) (Nat.le_of_ble_eq_true rfl) ?_
        exact x_iret hx hb hr rfl hlocks B hf dX9_left_111
      have hf := zif_f hc3 hf
      refine lv_tableOut (tgt := 112) hx hb dX9_left_40 (zsw_out (fun j h1 h2 hj => ?_)) (by decide) ?_
      · have hd : j = 0 ∨ j = 1 ∨ j = 2 ∨ j = 3 := by omega
        rcases hd with rfl | rfl | rfl | rfl
        · exact hc0 (Int32.toInt_inj.mp (hj.trans (by decide)))
        · exact hc1 (Int32.toInt_inj.mp (hj.trans (by decide)))
        · exact hc2 (Int32.toInt_inj.mp (hj.trans (by decide)))
        · exact hc3 (Int32.toInt_inj.mp (hj.trans (by decide)))
      refine lv_aload_n hx hb dX9_left_112 rfl (lv_at hl 0 rfl) ?_
      refine lv_iload_n hx hb dX9_left_113 rfl (lv_at hl 1 rfl) ?_
      refine lv_iload_n hx hb dX9_left_114 rfl (lv_at hl 2 rfl) ?_
      refine lv_iconst (v := (4 : Int32)) hx hb dX9_left_115 (by decide) ?_
      refine lv_icmp_ne (tgt := 123) hx hb dX9_left_116 (by decide) (fun hc => ?_) (fun hc => ?_)
      · have hf := zif_f hc hf
        refine lv_iconst (v := (0 : Int32)) hx hb dX9_left_123 (by decide) ?_
        exact L124  _ _ _ _ _ _ hf B (lv_sub hl [] rfl)
      · have hf := zif_t hc hf
        refine lv_iconst (v := (1 : Int32)) hx hb dX9_left_119 (by decide) ?_
        refine lv_goto (tgt := 124) hx hb dX9_left_120 (by decide) ?_
        exact L124  _ _ _ _ _ _ hf B (lv_sub hl [] rfl)
    · have hf := zif_f hc hf
      refine lv_iconst (v := (0 : Int32)) hx hb dX9_left_37 (by decide) ?_
      refine W.widen (k := 0) (n := 0) (Nat.le_of_ble_eq_true rfl) (Nat.le_of_ble_eq_true rfl) ?_
      exact x_iret hx hb hr rfl hlocks B hf dX9_left_38
  unfold f_X9_left at hf
  refine lv_aload_n hx hb dX9_left_0 rfl (lv_at hl 0 rfl) ?_
  refine lv_aload_n hx hb dX9_left_1 rfl (lv_at hl 0 rfl) ?_
  refine lv_iload_n hx hb dX9_left_2 rfl (lv_at hl 1 rfl) ?_
  obtain ⟨r2, σ3, hu1, hf⟩ := zb_some hf
  refine x_i B (fun nb a g hs Bz => va_runV (As := [.int a1]) (rest := [.ref (ad 65)]) ⟨hx, hb, hml, hown, hts⟩ (c_X9_isToken l hu1 _ nb a g hs) (cwV 1 hts gX9_left_X9_isToken rfl rfl rfl (by decide +kernel) ⟨Nat.le_of_ble_eq_true rfl, Nat.le_of_ble_eq_true rfl⟩) (x_preV Bz (by decide) (fun _ => rfl) rfl) rfl rfl hl.1 rfl (lv_room (Nat.le_of_ble_eq_true rfl)) dX9_left_3 ⟨Nat.le_of_ble_eq_true rfl, Nat.le_of_ble_eq_true rfl⟩) (fun H locs B => ?_)
  refine lv_if_ne (tgt := 13) hx hb dX9_left_6 (by decide) (fun hc => ?_) (fun hc => ?_)
  · have hf := zif_f hc hf
    refine lv_iload_n hx hb dX9_left_13 rfl (lv_at hl 2 rfl) ?_
    refine lv_iconst (v := (0 : Int32)) hx hb dX9_left_14 (by decide) ?_
    refine lv_iconst (v := (5 : Int32)) hx hb dX9_left_15 (by decide) ?_
    obtain ⟨r5, σ6, hu4, hf⟩ := zb_some hf
    refine x_i B (fun nb a g hs Bz => va_runS (As := [.int a2, .int (0 : Int32), .int (5 : Int32)]) (rest := [.ref (ad 65)]) ⟨hx, hb, hml, hown, hts⟩ (c_X9_isIn l hu4 _ nb a g hs) (va_cwS 3 hts gX9_left_X9_isIn rfl rfl rfl (by decide +kernel) ⟨Nat.le_of_ble_eq_true rfl, Nat.le_of_ble_eq_true rfl⟩) (z_preS Bz) rfl rfl hl.1 rfl (lv_room (Nat.le_of_ble_eq_true rfl)) dX9_left_16 ⟨Nat.le_of_ble_eq_true rfl, Nat.le_of_ble_eq_true rfl⟩) (fun H locs B => ?_)
    refine lv_if_eq (tgt := 26) hx hb dX9_left_19 (by decide) (fun hc => ?_) (fun hc => ?_)
    · have hf := zif_t hc hf
      refine lv_iconst (v := (2 : Int32)) hx hb dX9_left_26 (by decide) ?_
      exact L27  _ _ _ _ _ _ _ hf B (lv_sub hl [0, 1, 2] rfl)
    · have hf := zif_f hc hf
      refine lv_iconst (v := (0 : Int32)) hx hb dX9_left_22 (by decide) ?_
      refine lv_goto (tgt := 27) hx hb dX9_left_23 (by decide) ?_
      exact L27  _ _ _ _ _ _ _ hf B (lv_sub hl [0, 1, 2] rfl)
  · have hf := zif_t hc hf
    refine lv_iconst (v := (1 : Int32)) hx hb dX9_left_9 (by decide) ?_
    refine lv_goto (tgt := 27) hx hb dX9_left_10 (by decide) ?_
    exact L27  _ _ _ _ _ _ _ hf B (lv_sub hl [0, 1, 2] rfl)
theorem dX9_holders_0 : decode cX9_holders 0 = .ok (.aload_n 0, 1) := by decide +kernel
theorem dX9_holders_1 : decode cX9_holders 1 = .ok (.aload_n 0, 1) := by decide +kernel
theorem dX9_holders_2 : decode cX9_holders 2 = .ok (.iload_n 1, 1) := by decide +kernel
theorem dX9_holders_3 : decode cX9_holders 3 = .ok (.invokevirtual 118, 3) := by decide +kernel
theorem dX9_holders_6 : decode cX9_holders 6 = .ok (.ifCond .eq 7, 3) := by decide +kernel
theorem dX9_holders_9 : decode cX9_holders 9 = .ok (.iconst 0, 1) := by decide +kernel
theorem dX9_holders_10 : decode cX9_holders 10 = .ok (.goto 4, 3) := by decide +kernel
theorem dX9_holders_13 : decode cX9_holders 13 = .ok (.iconst 1, 1) := by decide +kernel
theorem dX9_holders_14 : decode cX9_holders 14 = .ok (.putfield 41, 3) := by decide +kernel
theorem dX9_holders_17 : decode cX9_holders 17 = .ok (.aload_n 0, 1) := by decide +kernel
theorem dX9_holders_18 : decode cX9_holders 18 = .ok (.getfield 41, 3) := by decide +kernel
theorem dX9_holders_21 : decode cX9_holders 21 = .ok (.ifCond .ne 15, 3) := by decide +kernel
theorem dX9_holders_24 : decode cX9_holders 24 = .ok (.aload_n 0, 1) := by decide +kernel
theorem dX9_holders_25 : decode cX9_holders 25 = .ok (.getfield 9, 3) := by decide +kernel
theorem dX9_holders_28 : decode cX9_holders 28 = .ok (.bipush 107, 2) := by decide +kernel
theorem dX9_holders_30 : decode cX9_holders 30 = .ok (.iload_n 1, 1) := by decide +kernel
theorem dX9_holders_31 : decode cX9_holders 31 = .ok (.iadd, 1) := by decide +kernel
theorem dX9_holders_32 : decode cX9_holders 32 = .ok (.iaload, 1) := by decide +kernel
theorem dX9_holders_33 : decode cX9_holders 33 = .ok (.goto 4, 3) := by decide +kernel
theorem dX9_holders_36 : decode cX9_holders 36 = .ok (.iconst 0, 1) := by decide +kernel
theorem dX9_holders_37 : decode cX9_holders 37 = .ok (.ireturn, 1) := by decide +kernel
set_option maxRecDepth 20000 in
theorem ggX9_holders_X9_isToken : GoodIn wsX9_holders wsX9_isToken := goodIn_ca (goodIn_r _ [7, 2, 8, 9, 6, 10, 11, 12, 13, 14, 15, 16, 17, 18, 19, 20, 21, 22, 23, 24, 25, 26, 27, 28, 29, 30] (by decide +kernel) (by decide +kernel)) (goodIn_sub (fun _ h => List.mem_cons_of_mem _ (List.mem_append_right _ h)) (by decide +kernel))
set_option maxRecDepth 20000 in
theorem gX9_holders_X9_isToken : GoodIn wsX9_holders (wsV RX9 118 RX9 yX9_isToken wsX9_isToken) := goodIn_app (goodIn_of _ (by decide +kernel)) ggX9_holders_X9_isToken
def rm_X9_holders : Room := { frames := 3, cells := 0, slots := 0, locals := 59 }
set_option maxHeartbeats 4000000 in
set_option maxRecDepth 100000 in
theorem c_X9_holders (l : Launch) {G : zG} {ad : Nat → Nat} {σ σ' : zs} {a1 : Int32} {r : Int32} (hf : f_X9_holders σ a1 = some (r, σ')) : xMi l yX9_holders wsX9_holders rm_X9_holders G ad σ [.ref (ad 65), .int a1] r σ' := by
  intro sz nb a g hs
  refine Met.ofW (cc := cX9_holders) (maxL := 2) (ret := (some .int)) (by decide) rfl ?_
  intro p e s m args below meth c s₁ B hml hv
  obtain ⟨rfl, hsz, hv⟩ := hv
  have hx := B.exec
  have hb := B.bytes
  have hr := B.returns
  have hts := atoms_spec (ws := wsX9_holders) B.pre
  have hown : s.vm.findClass RX9 = some m.cls := findClass_of_methodNamed B.named
  have hlocks := B.notSynchronized
  subst hsz
  have B := xB_start hs hv
  have hinRX9 : ∀ w ∈ wsX90, w ∈ wsX9_holders := by decide +kernel
  have hl := lv_entry ([.ref (ad 65), .int a1]) (n := 2) (Nat.le_of_ble_eq_true rfl)
  rw [lg_entry_eq]
  generalize (lg_sl ([.ref (ad 65), .int a1]) ++ List.replicate (2 - (lg_sl ([.ref (ad 65), .int a1])).length) Slot.unset).toArray = ls at hl ⊢
  have hl : lv_has ls 2 [(0, .ref (ad 65)), (1, .int a1)] := hl
  generalize hAe : xA ad a s.heap.size = A at B ⊢
  have L14 : ∀ (σ : zs) (v1 : Int32) (s0 : Int32) (H : Heap) (locs : List Loc) (ls : Array Slot), f_X9_holders_14 σ v1 s0 = some (r, σ') → xB A s G ad σ H locs → lv_has ls 2 [(0, .ref (ad 65)), (1, .int v1)] → W p l e (headSpec wsX9_holders rm_X9_holders).room s m ([.ref (ad 65), .int a1] : List Value).toArray below meth c H locs 0 0 (MQ below (va_Qi (fun r' (u : xV) => r' = r ∧ xQ σ' u) (xPost G ad σ' A) A) ([.ref (ad 65), .int a1] : List Value).toArray s 0 0 A) (F0 m 14 ls [.int s0, .ref (ad 65)]) := by
    intro σ v1 s0 H locs ls hf B hl
    unfold f_X9_holders_14 at hf
    refine x_puti hx hb hts hinRX9 hown tyX9 tyX9_ok nmX9 B 65 3 (by decide) (by decide) (fun _ => rfl) rfl rfl (by decide) (by decide +kernel) rfl rfl rfl rfl dX9_holders_14 (fun H locs B => ?_)
    refine lv_aload_n hx hb dX9_holders_17 rfl (lv_at hl 0 rfl) ?_
    refine x_geti hx hb hts hinRX9 hown B 65 3 (by decide) (fun _ => rfl) rfl rfl (by decide) (by decide +kernel) rfl dX9_holders_18 ?_
    refine lv_if_ne (tgt := 36) hx hb dX9_holders_21 (by decide) (fun hc => ?_) (fun hc => ?_)
    · have hf := zif_f hc hf
      refine lv_iconst (v := (0 : Int32)) hx hb dX9_holders_36 (by decide) ?_
      refine W.widen (k := 0) (n := 0) (Nat.le_of_ble_eq_true rfl) (Nat.le_of_ble_eq_true rfl) ?_
      exact x_iret hx hb hr rfl hlocks B hf dX9_holders_37
    · have hf := zif_t hc hf
      refine lv_aload_n hx hb dX9_holders_24 rfl (lv_at hl 0 rfl) ?_
      refine x_getr hx hb hts hinRX9 hown B 65 0 66 (by decide) (by decide) (fun _ => rfl) rfl rfl (by decide) (by decide +kernel) rfl dX9_holders_25 ?_
      refine lv_bipush (v := (107 : Int32)) hx hb dX9_holders_28 (by decide) ?_
      refine lv_iload_n hx hb dX9_holders_30 rfl (lv_at hl 1 rfl) ?_
      refine lv_iadd hx hb dX9_holders_31 ?_
      obtain ⟨hg, hf⟩ := zg_some hf
      refine x_iald hx hb B 66 (by decide) (fun _ => rfl) (zin_ok hg) dX9_holders_32 ?_
      refine lv_goto (tgt := 37) hx hb dX9_holders_33 (by decide) ?_
      refine W.widen (k := 0) (n := 0) (Nat.le_of_ble_eq_true rfl) (Nat.le_of_ble_eq_true rfl) ?_
      exact x_iret hx hb hr rfl hlocks B hf dX9_holders_37
  unfold f_X9_holders at hf
  refine lv_aload_n hx hb dX9_holders_0 rfl (lv_at hl 0 rfl) ?_
  refine lv_aload_n hx hb dX9_holders_1 rfl (lv_at hl 0 rfl) ?_
  refine lv_iload_n hx hb dX9_holders_2 rfl (lv_at hl 1 rfl) ?_
  obtain ⟨r2, σ3, hu1, hf⟩ := zb_some hf
  refine x_i B (fun nb a g hs Bz => va_runV (As := [.int a1]) (rest := [.ref (ad 65)]) ⟨hx, hb, hml, hown, hts⟩ (c_X9_isToken l hu1 _ nb a g hs) (cwV 1 hts gX9_holders_X9_isToken rfl rfl rfl (by decide +kernel) ⟨Nat.le_of_ble_eq_true rfl, Nat.le_of_ble_eq_true rfl⟩) (x_preV Bz (by decide) (fun _ => rfl) rfl) rfl rfl hl.1 rfl (lv_room (Nat.le_of_ble_eq_true rfl)) dX9_holders_3 ⟨Nat.le_of_ble_eq_true rfl, Nat.le_of_ble_eq_true rfl⟩) (fun H locs B => ?_)
  refine lv_if_eq (tgt := 13) hx hb dX9_holders_6 (by decide) (fun hc => ?_) (fun hc => ?_)
  · have hf := zif_t hc hf
    refine lv_iconst (v := (1 : Int32)) hx hb dX9_holders_13 (by decide) ?_
    exact L14  _ _ _ _ _ _ hf B (lv_sub hl [0, 1] rfl)
  · have hf := zif_f hc hf
    refine lv_iconst (v := (0 : Int32)) hx hb dX9_holders_9 (by decide) ?_
    refine lv_goto (tgt := 14) hx hb dX9_holders_10 (by decide) ?_
    exact L14  _ _ _ _ _ _ hf B (lv_sub hl [0, 1] rfl)
theorem dX9_heldBy_0 : decode cX9_heldBy 0 = .ok (.iconst 0, 1) := by decide +kernel
theorem dX9_heldBy_1 : decode cX9_heldBy 1 = .ok (.istore_n 2, 1) := by decide +kernel
theorem dX9_heldBy_2 : decode cX9_heldBy 2 = .ok (.iconst 0, 1) := by decide +kernel
theorem dX9_heldBy_3 : decode cX9_heldBy 3 = .ok (.istore_n 3, 1) := by decide +kernel
theorem dX9_heldBy_4 : decode cX9_heldBy 4 = .ok (.iload_n 3, 1) := by decide +kernel
theorem dX9_heldBy_5 : decode cX9_heldBy 5 = .ok (.aload_n 0, 1) := by decide +kernel
theorem dX9_heldBy_6 : decode cX9_heldBy 6 = .ok (.getfield 9, 3) := by decide +kernel
theorem dX9_heldBy_9 : decode cX9_heldBy 9 = .ok (.iconst 1, 1) := by decide +kernel
theorem dX9_heldBy_10 : decode cX9_heldBy 10 = .ok (.iaload, 1) := by decide +kernel
theorem dX9_heldBy_11 : decode cX9_heldBy 11 = .ok (.if_icmp .ge 35, 3) := by decide +kernel
theorem dX9_heldBy_14 : decode cX9_heldBy 14 = .ok (.iload_n 2, 1) := by decide +kernel
theorem dX9_heldBy_15 : decode cX9_heldBy 15 = .ok (.aload_n 0, 1) := by decide +kernel
theorem dX9_heldBy_16 : decode cX9_heldBy 16 = .ok (.getfield 9, 3) := by decide +kernel
theorem dX9_heldBy_19 : decode cX9_heldBy 19 = .ok (.bipush 107, 2) := by decide +kernel
theorem dX9_heldBy_21 : decode cX9_heldBy 21 = .ok (.iload_n 3, 1) := by decide +kernel
theorem dX9_heldBy_22 : decode cX9_heldBy 22 = .ok (.iadd, 1) := by decide +kernel
theorem dX9_heldBy_23 : decode cX9_heldBy 23 = .ok (.iaload, 1) := by decide +kernel
theorem dX9_heldBy_24 : decode cX9_heldBy 24 = .ok (.iload_n 1, 1) := by decide +kernel
theorem dX9_heldBy_25 : decode cX9_heldBy 25 = .ok (.invokestatic 59, 3) := by decide +kernel
theorem dX9_heldBy_28 : decode cX9_heldBy 28 = .ok (.ifCond .eq 9, 3) := by decide +kernel
theorem dX9_heldBy_31 : decode cX9_heldBy 31 = .ok (.iconst 1, 1) := by decide +kernel
theorem dX9_heldBy_32 : decode cX9_heldBy 32 = .ok (.iload_n 3, 1) := by decide +kernel
theorem dX9_heldBy_33 : decode cX9_heldBy 33 = .ok (.ishl, 1) := by decide +kernel
theorem dX9_heldBy_34 : decode cX9_heldBy 34 = .ok (.goto 4, 3) := by decide +kernel
theorem dX9_heldBy_37 : decode cX9_heldBy 37 = .ok (.iconst 0, 1) := by decide +kernel
theorem dX9_heldBy_38 : decode cX9_heldBy 38 = .ok (.ior, 1) := by decide +kernel
theorem dX9_heldBy_39 : decode cX9_heldBy 39 = .ok (.istore_n 2, 1) := by decide +kernel
theorem dX9_heldBy_40 : decode cX9_heldBy 40 = .ok (.iinc 3 1, 3) := by decide +kernel
theorem dX9_heldBy_43 : decode cX9_heldBy 43 = .ok (.goto (-39), 3) := by decide +kernel
theorem dX9_heldBy_46 : decode cX9_heldBy 46 = .ok (.iload_n 2, 1) := by decide +kernel
theorem dX9_heldBy_47 : decode cX9_heldBy 47 = .ok (.ireturn, 1) := by decide +kernel
set_option maxRecDepth 20000 in
theorem ggX9_heldBy_X9_has : GoodIn wsX9_heldBy wsX9_has := goodIn_r _ [5] (by decide +kernel) (by decide +kernel)
set_option maxRecDepth 20000 in
theorem gX9_heldBy_X9_has : GoodIn wsX9_heldBy (va_wsS RX9 59 yX9_has wsX9_has) := goodIn_app (goodIn_of _ (by decide +kernel)) ggX9_heldBy_X9_has
def rm_X9_heldBy : Room := { frames := 2, cells := 0, slots := 0, locals := 37 }
set_option maxHeartbeats 4000000 in
set_option maxRecDepth 100000 in
theorem c_X9_heldBy (l : Launch) {G : zG} {ad : Nat → Nat} {σ σ' : zs} {a1 : Int32} {r : Int32} (hf : f_X9_heldBy σ a1 = some (r, σ')) : xMi l yX9_heldBy wsX9_heldBy rm_X9_heldBy G ad σ [.ref (ad 65), .int a1] r σ' := by
  intro sz nb a g hs
  refine Met.ofW (cc := cX9_heldBy) (maxL := 4) (ret := (some .int)) (by decide) rfl ?_
  intro p e s m args below meth c s₁ B hml hv
  obtain ⟨rfl, hsz, hv⟩ := hv
  have hx := B.exec
  have hb := B.bytes
  have hr := B.returns
  have hts := atoms_spec (ws := wsX9_heldBy) B.pre
  have hown : s.vm.findClass RX9 = some m.cls := findClass_of_methodNamed B.named
  have hlocks := B.notSynchronized
  subst hsz
  have B := xB_start hs hv
  have hinRX9 : ∀ w ∈ wsX90, w ∈ wsX9_heldBy := by decide +kernel
  have hl := lv_entry ([.ref (ad 65), .int a1]) (n := 4) (Nat.le_of_ble_eq_true rfl)
  rw [lg_entry_eq]
  generalize (lg_sl ([.ref (ad 65), .int a1]) ++ List.replicate (4 - (lg_sl ([.ref (ad 65), .int a1])).length) Slot.unset).toArray = ls at hl ⊢
  have hl : lv_has ls 4 [(0, .ref (ad 65)), (1, .int a1)] := hl
  generalize hAe : xA ad a s.heap.size = A at B ⊢
  have L38 : ∀ (K4 : zs → Int32 → Int32 → Int32 → Option (Int32 × zs)) (hK4 : ∀ (σ : zs) (v1 : Int32) (v2 : Int32) (v3 : Int32) (H : Heap) (locs : List Loc) (ls : Array Slot), K4 σ v1 v2 v3 = some (r, σ') → xB A s G ad σ H locs → lv_has ls 4 [(0, .ref (ad 65)), (1, .int v1), (2, .int v2), (3, .int v3)] → W p l e (headSpec wsX9_heldBy rm_X9_heldBy).room s m ([.ref (ad 65), .int a1] : List Value).toArray below meth c H locs 0 0 (MQ below (va_Qi (fun r' (u : xV) => r' = r ∧ xQ σ' u) (xPost G ad σ' A) A) ([.ref (ad 65), .int a1] : List Value).toArray s 0 0 A) (F0 m 4 ls [])) (σ : zs) (v1 : Int32) (v3 : Int32) (s0 : Int32) (s1 : Int32) (H : Heap) (locs : List Loc) (ls : Array Slot), f_X9_heldBy_38 K4 σ v1 v3 s0 s1 = some (r, σ') → xB A s G ad σ H locs → lv_has ls 4 [(0, .ref (ad 65)), (1, .int v1), (3, .int v3)] → W p l e (headSpec wsX9_heldBy rm_X9_heldBy).room s m ([.ref (ad 65), .int a1] : List Value).toArray below meth c H locs 0 0 (MQ below (va_Qi (fun r' (u : xV) => r' = r ∧ xQ σ' u) (xPost G ad σ' A) A) ([.ref (ad 65), .int a1] : List Value).toArray s 0 0 A) (F0 m 38 ls [.int s0, .int s1]) := by
    intro K4 hK4 σ v1 v3 s0 s1 H locs ls hf B hl
    unfold f_X9_heldBy_38 at hf
    refine lv_ior hx hb dX9_heldBy_38 ?_
    refine lv_istore_n (lv' := [(2, .int (s1 ||| s0)), (0, .ref (ad 65)), (1, .int v1), (3, .int v3)]) hx hb dX9_heldBy_39 rfl hl (by decide) rfl (fun ls hl => ?_)
    refine lv_iinc (v := (v3 + (1 : Int32))) (lv' := [(3, .int (v3 + (1 : Int32))), (2, .int (s1 ||| s0)), (0, .ref (ad 65)), (1, .int v1)]) hx hb dX9_heldBy_40 hl (k := 3) rfl (zc1 (by decide)) (by decide) rfl (fun ls hl => ?_)
    refine lv_goto (tgt := 4) hx hb dX9_heldBy_43 (by decide) ?_
    exact hK4 _ _ _ _ _ _ _ hf B (lv_sub hl [2, 3, 1, 0] rfl)
  have L4 : ∀ (n : Nat) (σ : zs) (v1 : Int32) (v2 : Int32) (v3 : Int32) (H : Heap) (locs : List Loc) (ls : Array Slot), zlp3 (f_X9_heldBy_4) n σ v1 v2 v3 = some (r, σ') → xB A s G ad σ H locs → lv_has ls 4 [(0, .ref (ad 65)), (1, .int v1), (2, .int v2), (3, .int v3)] → W p l e (headSpec wsX9_heldBy rm_X9_heldBy).room s m ([.ref (ad 65), .int a1] : List Value).toArray below meth c H locs 0 0 (MQ below (va_Qi (fun r' (u : xV) => r' = r ∧ xQ σ' u) (xPost G ad σ' A) A) ([.ref (ad 65), .int a1] : List Value).toArray s 0 0 A) (F0 m 4 ls []) := by
    intro n
    induction n with
    | zero =>
      intro σ v1 v2 v3 H locs ls hf
      cases hf
    | succ n ih =>
      intro σ v1 v2 v3 H locs ls hf B hl
      have hf : f_X9_heldBy_4 (zlp3 (f_X9_heldBy_4) n) σ v1 v2 v3 = some (r, σ') := hf
      unfold f_X9_heldBy_4 at hf
      refine lv_iload_n hx hb dX9_heldBy_4 rfl (lv_at hl 3 rfl) ?_
      refine lv_aload_n hx hb dX9_heldBy_5 rfl (lv_at hl 0 rfl) ?_
      refine x_getr hx hb hts hinRX9 hown B 65 0 66 (by decide) (by decide) (fun _ => rfl) rfl rfl (by decide) (by decide +kernel) rfl dX9_heldBy_6 ?_
      refine lv_iconst (v := (1 : Int32)) hx hb dX9_heldBy_9 (by decide) ?_
      obtain ⟨hg, hf⟩ := zg_some hf
      refine x_iald hx hb B 66 (by decide) (fun _ => rfl) (zin_ok hg) dX9_heldBy_10 ?_
      refine lv_icmp_ge (tgt := 46) hx hb dX9_heldBy_11 (by decide) (fun hc => ?_) (fun hc => ?_)
      · have hf := zif_t hc hf
        refine lv_iload_n hx hb dX9_heldBy_46 rfl (lv_at hl 2 rfl) ?_
        refine W.widen (k := 0) (n := 0) (Nat.le_of_ble_eq_true rfl) (Nat.le_of_ble_eq_true rfl) ?_
        exact x_iret hx hb hr rfl hlocks B hf dX9_heldBy_47
      · have hf := zif_f hc hf
        refine lv_iload_n hx hb dX9_heldBy_14 rfl (lv_at hl 2 rfl) ?_
        refine lv_aload_n hx hb dX9_heldBy_15 rfl (lv_at hl 0 rfl) ?_
        refine x_getr hx hb hts hinRX9 hown B 65 0 66 (by decide) (by decide) (fun _ => rfl) rfl rfl (by decide) (by decide +kernel) rfl dX9_heldBy_16 ?_
        refine lv_bipush (v := (107 : Int32)) hx hb dX9_heldBy_19 (by decide) ?_
        refine lv_iload_n hx hb dX9_heldBy_21 rfl (lv_at hl 3 rfl) ?_
        refine lv_iadd hx hb dX9_heldBy_22 ?_
        obtain ⟨hg, hf⟩ := zg_some hf
        refine x_iald hx hb B 66 (by decide) (fun _ => rfl) (zin_ok hg) dX9_heldBy_23 ?_
        refine lv_iload_n hx hb dX9_heldBy_24 rfl (lv_at hl 1 rfl) ?_
        obtain ⟨r2, σ3, hu1, hf⟩ := zb_some hf
        refine x_i B (fun nb a g hs Bz => va_runS (As := [.int (σ 66 ((107 : Int32) + v3).toNatClampNeg), .int v1]) (rest := [.int v2]) ⟨hx, hb, hml, hown, hts⟩ (c_X9_has l hu1 _ nb a g hs) (va_cwS 2 hts gX9_heldBy_X9_has rfl rfl rfl (by decide +kernel) ⟨Nat.le_of_ble_eq_true rfl, Nat.le_of_ble_eq_true rfl⟩) (z_preS Bz) rfl rfl hl.1 rfl (lv_room (Nat.le_of_ble_eq_true rfl)) dX9_heldBy_25 ⟨Nat.le_of_ble_eq_true rfl, Nat.le_of_ble_eq_true rfl⟩) (fun H locs B => ?_)
        refine lv_if_eq (tgt := 37) hx hb dX9_heldBy_28 (by decide) (fun hc => ?_) (fun hc => ?_)
        · have hf := zif_t hc hf
          refine lv_iconst (v := (0 : Int32)) hx hb dX9_heldBy_37 (by decide) ?_
          exact L38 _ ih  _ _ _ _ _ _ _ _ hf B (lv_sub hl [0, 1, 3] rfl)
        · have hf := zif_f hc hf
          refine lv_iconst (v := (1 : Int32)) hx hb dX9_heldBy_31 (by decide) ?_
          refine lv_iload_n hx hb dX9_heldBy_32 rfl (lv_at hl 3 rfl) ?_
          refine lv_ishl hx hb dX9_heldBy_33 ?_
          refine lv_goto (tgt := 38) hx hb dX9_heldBy_34 (by decide) ?_
          exact L38 _ ih  _ _ _ _ _ _ _ _ hf B (lv_sub hl [0, 1, 3] rfl)
  unfold f_X9_heldBy at hf
  refine lv_iconst (v := (0 : Int32)) hx hb dX9_heldBy_0 (by decide) ?_
  refine lv_istore_n (lv' := [(2, .int (0 : Int32)), (0, .ref (ad 65)), (1, .int a1)]) hx hb dX9_heldBy_1 rfl hl (by decide) rfl (fun ls hl => ?_)
  refine lv_iconst (v := (0 : Int32)) hx hb dX9_heldBy_2 (by decide) ?_
  refine lv_istore_n (lv' := [(3, .int (0 : Int32)), (2, .int (0 : Int32)), (0, .ref (ad 65)), (1, .int a1)]) hx hb dX9_heldBy_3 rfl hl (by decide) rfl (fun ls hl => ?_)
  exact L4  _ _ _ _ _ _ _ _ hf B (lv_sub hl [2, 3, 1, 0] rfl)
theorem dX9_held_0 : decode cX9_held 0 = .ok (.aload_n 0, 1) := by decide +kernel
theorem dX9_held_1 : decode cX9_held 1 = .ok (.iload_n 1, 1) := by decide +kernel
theorem dX9_held_2 : decode cX9_held 2 = .ok (.invokestatic 78, 3) := by decide +kernel
theorem dX9_held_5 : decode cX9_held 5 = .ok (.ifCond .eq 7, 3) := by decide +kernel
theorem dX9_held_8 : decode cX9_held 8 = .ok (.iconst 0, 1) := by decide +kernel
theorem dX9_held_9 : decode cX9_held 9 = .ok (.goto 4, 3) := by decide +kernel
theorem dX9_held_12 : decode cX9_held 12 = .ok (.iconst 1, 1) := by decide +kernel
theorem dX9_held_13 : decode cX9_held 13 = .ok (.putfield 41, 3) := by decide +kernel
theorem dX9_held_16 : decode cX9_held 16 = .ok (.aload_n 0, 1) := by decide +kernel
theorem dX9_held_17 : decode cX9_held 17 = .ok (.getfield 41, 3) := by decide +kernel
theorem dX9_held_20 : decode cX9_held 20 = .ok (.ifCond .ne 11, 3) := by decide +kernel
theorem dX9_held_23 : decode cX9_held 23 = .ok (.aload_n 0, 1) := by decide +kernel
theorem dX9_held_24 : decode cX9_held 24 = .ok (.iload_n 1, 1) := by decide +kernel
theorem dX9_held_25 : decode cX9_held 25 = .ok (.invokevirtual 184, 3) := by decide +kernel
theorem dX9_held_28 : decode cX9_held 28 = .ok (.goto 4, 3) := by decide +kernel
theorem dX9_held_31 : decode cX9_held 31 = .ok (.iconst 0, 1) := by decide +kernel
theorem dX9_held_32 : decode cX9_held 32 = .ok (.ireturn, 1) := by decide +kernel
set_option maxRecDepth 20000 in
theorem ggX9_held_X9_isSubject : GoodIn wsX9_held wsX9_isSubject := goodIn_r _ [5, 6, 7, 4, 8] (by decide +kernel) (by decide +kernel)
set_option maxRecDepth 20000 in
theorem gX9_held_X9_isSubject : GoodIn wsX9_held (va_wsS RX9 78 yX9_isSubject wsX9_isSubject) := goodIn_app (goodIn_of _ (by decide +kernel)) ggX9_held_X9_isSubject
set_option maxRecDepth 20000 in
theorem ggX9_held_X9_heldBy : GoodIn wsX9_held wsX9_heldBy := goodIn_ca (goodIn_r _ [12, 13, 14, 15, 4, 16, 17, 18, 19, 20, 21, 22, 23, 24, 25, 26, 27, 28, 29, 30, 31, 32, 33, 34, 35, 36] (by decide +kernel) (by decide +kernel)) (goodIn_sub (fun _ h => List.mem_cons_of_mem _ (List.mem_append_right _ h)) (by decide +kernel))
set_option maxRecDepth 20000 in
theorem gX9_held_X9_heldBy : GoodIn wsX9_held (wsV RX9 184 RX9 yX9_heldBy wsX9_heldBy) := goodIn_app (goodIn_of _ (by decide +kernel)) ggX9_held_X9_heldBy
def rm_X9_held : Room := { frames := 3, cells := 0, slots := 0, locals := 60 }
set_option maxHeartbeats 4000000 in
set_option maxRecDepth 100000 in
theorem c_X9_held (l : Launch) {G : zG} {ad : Nat → Nat} {σ σ' : zs} {a1 : Int32} {r : Int32} (hf : f_X9_held σ a1 = some (r, σ')) : xMi l yX9_held wsX9_held rm_X9_held G ad σ [.ref (ad 65), .int a1] r σ' := by
  intro sz nb a g hs
  refine Met.ofW (cc := cX9_held) (maxL := 2) (ret := (some .int)) (by decide) rfl ?_
  intro p e s m args below meth c s₁ B hml hv
  obtain ⟨rfl, hsz, hv⟩ := hv
  have hx := B.exec
  have hb := B.bytes
  have hr := B.returns
  have hts := atoms_spec (ws := wsX9_held) B.pre
  have hown : s.vm.findClass RX9 = some m.cls := findClass_of_methodNamed B.named
  have hlocks := B.notSynchronized
  subst hsz
  have B := xB_start hs hv
  have hinRX9 : ∀ w ∈ wsX90, w ∈ wsX9_held := by decide +kernel
  have hl := lv_entry ([.ref (ad 65), .int a1]) (n := 2) (Nat.le_of_ble_eq_true rfl)
  rw [lg_entry_eq]
  generalize (lg_sl ([.ref (ad 65), .int a1]) ++ List.replicate (2 - (lg_sl ([.ref (ad 65), .int a1])).length) Slot.unset).toArray = ls at hl ⊢
  have hl : lv_has ls 2 [(0, .ref (ad 65)), (1, .int a1)] := hl
  generalize hAe : xA ad a s.heap.size = A at B ⊢
  have L13 : ∀ (σ : zs) (v1 : Int32) (s0 : Int32) (H : Heap) (locs : List Loc) (ls : Array Slot), f_X9_held_13 σ v1 s0 = some (r, σ') → xB A s G ad σ H locs → lv_has ls 2 [(0, .ref (ad 65)), (1, .int v1)] → W p l e (headSpec wsX9_held rm_X9_held).room s m ([.ref (ad 65), .int a1] : List Value).toArray below meth c H locs 0 0 (MQ below (va_Qi (fun r' (u : xV) => r' = r ∧ xQ σ' u) (xPost G ad σ' A) A) ([.ref (ad 65), .int a1] : List Value).toArray s 0 0 A) (F0 m 13 ls [.int s0, .ref (ad 65)]) := by
    intro σ v1 s0 H locs ls hf B hl
    unfold f_X9_held_13 at hf
    refine x_puti hx hb hts hinRX9 hown tyX9 tyX9_ok nmX9 B 65 3 (by decide) (by decide) (fun _ => rfl) rfl rfl (by decide) (by decide +kernel) rfl rfl rfl rfl dX9_held_13 (fun H locs B => ?_)
    refine lv_aload_n hx hb dX9_held_16 rfl (lv_at hl 0 rfl) ?_
    refine x_geti hx hb hts hinRX9 hown B 65 3 (by decide) (fun _ => rfl) rfl rfl (by decide) (by decide +kernel) rfl dX9_held_17 ?_
    refine lv_if_ne (tgt := 31) hx hb dX9_held_20 (by decide) (fun hc => ?_) (fun hc => ?_)
    · have hf := zif_f hc hf
      refine lv_iconst (v := (0 : Int32)) hx hb dX9_held_31 (by decide) ?_
      refine W.widen (k := 0) (n := 0) (Nat.le_of_ble_eq_true rfl) (Nat.le_of_ble_eq_true rfl) ?_
      exact x_iret hx hb hr rfl hlocks B hf dX9_held_32
    · have hf := zif_t hc hf
      refine lv_aload_n hx hb dX9_held_23 rfl (lv_at hl 0 rfl) ?_
      refine lv_iload_n hx hb dX9_held_24 rfl (lv_at hl 1 rfl) ?_
      obtain ⟨r5, σ6, hu4, hf⟩ := zb_some hf
      refine x_i B (fun nb a g hs Bz => va_runV (As := [.int v1]) (rest := []) ⟨hx, hb, hml, hown, hts⟩ (c_X9_heldBy l hu4 _ nb a g hs) (cwV 1 hts gX9_held_X9_heldBy rfl rfl rfl (by decide +kernel) ⟨Nat.le_of_ble_eq_true rfl, Nat.le_of_ble_eq_true rfl⟩) (x_preV Bz (by decide) (fun _ => rfl) rfl) rfl rfl hl.1 rfl (lv_room (Nat.le_of_ble_eq_true rfl)) dX9_held_25 ⟨Nat.le_of_ble_eq_true rfl, Nat.le_of_ble_eq_true rfl⟩) (fun H locs B => ?_)
      refine lv_goto (tgt := 32) hx hb dX9_held_28 (by decide) ?_
      refine W.widen (k := 0) (n := 0) (Nat.le_of_ble_eq_true rfl) (Nat.le_of_ble_eq_true rfl) ?_
      exact x_iret hx hb hr rfl hlocks B hf dX9_held_32
  unfold f_X9_held at hf
  refine lv_aload_n hx hb dX9_held_0 rfl (lv_at hl 0 rfl) ?_
  refine lv_iload_n hx hb dX9_held_1 rfl (lv_at hl 1 rfl) ?_
  obtain ⟨r2, σ3, hu1, hf⟩ := zb_some hf
  refine x_i B (fun nb a g hs Bz => va_runS (As := [.int a1]) (rest := [.ref (ad 65)]) ⟨hx, hb, hml, hown, hts⟩ (c_X9_isSubject l hu1 _ nb a g hs) (va_cwS 1 hts gX9_held_X9_isSubject rfl rfl rfl (by decide +kernel) ⟨Nat.le_of_ble_eq_true rfl, Nat.le_of_ble_eq_true rfl⟩) (z_preS Bz) rfl rfl hl.1 rfl (lv_room (Nat.le_of_ble_eq_true rfl)) dX9_held_2 ⟨Nat.le_of_ble_eq_true rfl, Nat.le_of_ble_eq_true rfl⟩) (fun H locs B => ?_)
  refine lv_if_eq (tgt := 12) hx hb dX9_held_5 (by decide) (fun hc => ?_) (fun hc => ?_)
  · have hf := zif_t hc hf
    refine lv_iconst (v := (1 : Int32)) hx hb dX9_held_12 (by decide) ?_
    exact L13  _ _ _ _ _ _ hf B (lv_sub hl [0, 1] rfl)
  · have hf := zif_f hc hf
    refine lv_iconst (v := (0 : Int32)) hx hb dX9_held_8 (by decide) ?_
    refine lv_goto (tgt := 13) hx hb dX9_held_9 (by decide) ?_
    exact L13  _ _ _ _ _ _ hf B (lv_sub hl [0, 1] rfl)
theorem dX9_below_0 : decode cX9_below 0 = .ok (.aload_n 0, 1) := by decide +kernel
theorem dX9_below_1 : decode cX9_below 1 = .ok (.aload_n 0, 1) := by decide +kernel
theorem dX9_below_2 : decode cX9_below 2 = .ok (.iload_n 1, 1) := by decide +kernel
theorem dX9_below_3 : decode cX9_below 3 = .ok (.invokevirtual 118, 3) := by decide +kernel
theorem dX9_below_6 : decode cX9_below 6 = .ok (.ifCond .eq 7, 3) := by decide +kernel
theorem dX9_below_9 : decode cX9_below 9 = .ok (.iconst 0, 1) := by decide +kernel
theorem dX9_below_10 : decode cX9_below 10 = .ok (.goto 4, 3) := by decide +kernel
theorem dX9_below_13 : decode cX9_below 13 = .ok (.iconst 1, 1) := by decide +kernel
theorem dX9_below_14 : decode cX9_below 14 = .ok (.putfield 41, 3) := by decide +kernel
theorem dX9_below_17 : decode cX9_below 17 = .ok (.iconst 0, 1) := by decide +kernel
theorem dX9_below_18 : decode cX9_below 18 = .ok (.istore_n 2, 1) := by decide +kernel
theorem dX9_below_19 : decode cX9_below 19 = .ok (.iconst 0, 1) := by decide +kernel
theorem dX9_below_20 : decode cX9_below 20 = .ok (.istore_n 3, 1) := by decide +kernel
theorem dX9_below_21 : decode cX9_below 21 = .ok (.aload_n 0, 1) := by decide +kernel
theorem dX9_below_22 : decode cX9_below 22 = .ok (.getfield 41, 3) := by decide +kernel
theorem dX9_below_25 : decode cX9_below 25 = .ok (.ifCond .ne 38, 3) := by decide +kernel
theorem dX9_below_28 : decode cX9_below 28 = .ok (.iload_n 3, 1) := by decide +kernel
theorem dX9_below_29 : decode cX9_below 29 = .ok (.aload_n 0, 1) := by decide +kernel
theorem dX9_below_30 : decode cX9_below 30 = .ok (.getfield 9, 3) := by decide +kernel
theorem dX9_below_33 : decode cX9_below 33 = .ok (.iconst 1, 1) := by decide +kernel
theorem dX9_below_34 : decode cX9_below 34 = .ok (.iaload, 1) := by decide +kernel
theorem dX9_below_35 : decode cX9_below 35 = .ok (.if_icmp .ge 28, 3) := by decide +kernel
theorem dX9_below_38 : decode cX9_below 38 = .ok (.iload_n 2, 1) := by decide +kernel
theorem dX9_below_39 : decode cX9_below 39 = .ok (.aload_n 0, 1) := by decide +kernel
theorem dX9_below_40 : decode cX9_below 40 = .ok (.iload_n 3, 1) := by decide +kernel
theorem dX9_below_41 : decode cX9_below 41 = .ok (.iload_n 1, 1) := by decide +kernel
theorem dX9_below_42 : decode cX9_below 42 = .ok (.invokevirtual 131, 3) := by decide +kernel
theorem dX9_below_45 : decode cX9_below 45 = .ok (.ifCond .eq 9, 3) := by decide +kernel
theorem dX9_below_48 : decode cX9_below 48 = .ok (.iconst 1, 1) := by decide +kernel
theorem dX9_below_49 : decode cX9_below 49 = .ok (.iload_n 3, 1) := by decide +kernel
theorem dX9_below_50 : decode cX9_below 50 = .ok (.ishl, 1) := by decide +kernel
theorem dX9_below_51 : decode cX9_below 51 = .ok (.goto 4, 3) := by decide +kernel
theorem dX9_below_54 : decode cX9_below 54 = .ok (.iconst 0, 1) := by decide +kernel
theorem dX9_below_55 : decode cX9_below 55 = .ok (.ior, 1) := by decide +kernel
theorem dX9_below_56 : decode cX9_below 56 = .ok (.istore_n 2, 1) := by decide +kernel
theorem dX9_below_57 : decode cX9_below 57 = .ok (.iinc 3 1, 3) := by decide +kernel
theorem dX9_below_60 : decode cX9_below 60 = .ok (.goto (-39), 3) := by decide +kernel
theorem dX9_below_63 : decode cX9_below 63 = .ok (.iload_n 2, 1) := by decide +kernel
theorem dX9_below_64 : decode cX9_below 64 = .ok (.ireturn, 1) := by decide +kernel
set_option maxRecDepth 20000 in
theorem ggX9_below_X9_isToken : GoodIn wsX9_below wsX9_isToken := goodIn_ca (goodIn_r _ [7, 2, 8, 9, 6, 10, 15, 16, 17, 18, 19, 20, 21, 22, 23, 24, 25, 26, 27, 28, 29, 30, 31, 32, 33, 34] (by decide +kernel) (by decide +kernel)) (goodIn_sub (fun _ h => List.mem_cons_of_mem _ (List.mem_append_right _ h)) (by decide +kernel))
set_option maxRecDepth 20000 in
theorem gX9_below_X9_isToken : GoodIn wsX9_below (wsV RX9 118 RX9 yX9_isToken wsX9_isToken) := goodIn_app (goodIn_of _ (by decide +kernel)) ggX9_below_X9_isToken
set_option maxRecDepth 20000 in
theorem ggX9_below_X9_isBelow : GoodIn wsX9_below wsX9_isBelow := goodIn_ca (goodIn_r _ [14, 2, 15, 16, 17, 18, 19, 20, 21, 22, 23, 24, 25, 26, 27, 28, 29, 30, 31, 32, 33, 34] (by decide +kernel) (by decide +kernel)) (goodIn_sub (fun _ h => List.mem_cons_of_mem _ (List.mem_append_right _ h)) (by decide +kernel))
set_option maxRecDepth 20000 in
theorem gX9_below_X9_isBelow : GoodIn wsX9_below (wsV RX9 131 RX9 yX9_isBelow wsX9_isBelow) := goodIn_app (goodIn_of _ (by decide +kernel)) ggX9_below_X9_isBelow
def rm_X9_below : Room := { frames := 3, cells := 0, slots := 0, locals := 59 }
set_option maxHeartbeats 4000000 in
set_option maxRecDepth 100000 in
theorem c_X9_below (l : Launch) {G : zG} {ad : Nat → Nat} {σ σ' : zs} {a1 : Int32} {r : Int32} (hf : f_X9_below σ a1 = some (r, σ')) : xMi l yX9_below wsX9_below rm_X9_below G ad σ [.ref (ad 65), .int a1] r σ' := by
  intro sz nb a g hs
  refine Met.ofW (cc := cX9_below) (maxL := 4) (ret := (some .int)) (by decide) rfl ?_
  intro p e s m args below meth c s₁ B hml hv
  obtain ⟨rfl, hsz, hv⟩ := hv
  have hx := B.exec
  have hb := B.bytes
  have hr := B.returns
  have hts := atoms_spec (ws := wsX9_below) B.pre
  have hown : s.vm.findClass RX9 = some m.cls := findClass_of_methodNamed B.named
  have hlocks := B.notSynchronized
  subst hsz
  have B := xB_start hs hv
  have hinRX9 : ∀ w ∈ wsX90, w ∈ wsX9_below := by decide +kernel
  have hl := lv_entry ([.ref (ad 65), .int a1]) (n := 4) (Nat.le_of_ble_eq_true rfl)
  rw [lg_entry_eq]
  generalize (lg_sl ([.ref (ad 65), .int a1]) ++ List.replicate (4 - (lg_sl ([.ref (ad 65), .int a1])).length) Slot.unset).toArray = ls at hl ⊢
  have hl : lv_has ls 4 [(0, .ref (ad 65)), (1, .int a1)] := hl
  generalize hAe : xA ad a s.heap.size = A at B ⊢
  have L55 : ∀ (K21 : zs → Int32 → Int32 → Int32 → Option (Int32 × zs)) (hK21 : ∀ (σ : zs) (v1 : Int32) (v2 : Int32) (v3 : Int32) (H : Heap) (locs : List Loc) (ls : Array Slot), K21 σ v1 v2 v3 = some (r, σ') → xB A s G ad σ H locs → lv_has ls 4 [(0, .ref (ad 65)), (1, .int v1), (2, .int v2), (3, .int v3)] → W p l e (headSpec wsX9_below rm_X9_below).room s m ([.ref (ad 65), .int a1] : List Value).toArray below meth c H locs 0 0 (MQ below (va_Qi (fun r' (u : xV) => r' = r ∧ xQ σ' u) (xPost G ad σ' A) A) ([.ref (ad 65), .int a1] : List Value).toArray s 0 0 A) (F0 m 21 ls [])) (σ : zs) (v1 : Int32) (v3 : Int32) (s0 : Int32) (s1 : Int32) (H : Heap) (locs : List Loc) (ls : Array Slot), f_X9_below_55 K21 σ v1 v3 s0 s1 = some (r, σ') → xB A s G ad σ H locs → lv_has ls 4 [(0, .ref (ad 65)), (1, .int v1), (3, .int v3)] → W p l e (headSpec wsX9_below rm_X9_below).room s m ([.ref (ad 65), .int a1] : List Value).toArray below meth c H locs 0 0 (MQ below (va_Qi (fun r' (u : xV) => r' = r ∧ xQ σ' u) (xPost G ad σ' A) A) ([.ref (ad 65), .int a1] : List Value).toArray s 0 0 A) (F0 m 55 ls [.int s0, .int s1]) := by
    intro K21 hK21 σ v1 v3 s0 s1 H locs ls hf B hl
    unfold f_X9_below_55 at hf
    refine lv_ior hx hb dX9_below_55 ?_
    refine lv_istore_n (lv' := [(2, .int (s1 ||| s0)), (0, .ref (ad 65)), (1, .int v1), (3, .int v3)]) hx hb dX9_below_56 rfl hl (by decide) rfl (fun ls hl => ?_)
    refine lv_iinc (v := (v3 + (1 : Int32))) (lv' := [(3, .int (v3 + (1 : Int32))), (2, .int (s1 ||| s0)), (0, .ref (ad 65)), (1, .int v1)]) hx hb dX9_below_57 hl (k := 3) rfl (zc1 (by decide)) (by decide) rfl (fun ls hl => ?_)
    refine lv_goto (tgt := 21) hx hb dX9_below_60 (by decide) ?_
    exact hK21 _ _ _ _ _ _ _ hf B (lv_sub hl [2, 3, 1, 0] rfl)
  have L21 : ∀ (n : Nat) (σ : zs) (v1 : Int32) (v2 : Int32) (v3 : Int32) (H : Heap) (locs : List Loc) (ls : Array Slot), zlp3 (f_X9_below_21) n σ v1 v2 v3 = some (r, σ') → xB A s G ad σ H locs → lv_has ls 4 [(0, .ref (ad 65)), (1, .int v1), (2, .int v2), (3, .int v3)] → W p l e (headSpec wsX9_below rm_X9_below).room s m ([.ref (ad 65), .int a1] : List Value).toArray below meth c H locs 0 0 (MQ below (va_Qi (fun r' (u : xV) => r' = r ∧ xQ σ' u) (xPost G ad σ' A) A) ([.ref (ad 65), .int a1] : List Value).toArray s 0 0 A) (F0 m 21 ls []) := by
    intro n
    induction n with
    | zero =>
      intro σ v1 v2 v3 H locs ls hf
      cases hf
    | succ n ih =>
      intro σ v1 v2 v3 H locs ls hf B hl
      have hf : f_X9_below_21 (zlp3 (f_X9_below_21) n) σ v1 v2 v3 = some (r, σ') := hf
      unfold f_X9_below_21 at hf
      refine lv_aload_n hx hb dX9_below_21 rfl (lv_at hl 0 rfl) ?_
      refine x_geti hx hb hts hinRX9 hown B 65 3 (by decide) (fun _ => rfl) rfl rfl (by decide) (by decide +kernel) rfl dX9_below_22 ?_
      refine lv_if_ne (tgt := 63) hx hb dX9_below_25 (by decide) (fun hc => ?_) (fun hc => ?_)
      · have hf := zif_f hc hf
        refine lv_iload_n hx hb dX9_below_63 rfl (lv_at hl 2 rfl) ?_
        refine W.widen (k := 0) (n := 0) (Nat.le_of_ble_eq_true rfl) (Nat.le_of_ble_eq_true rfl) ?_
        exact x_iret hx hb hr rfl hlocks B hf dX9_below_64
      · have hf := zif_t hc hf
        refine lv_iload_n hx hb dX9_below_28 rfl (lv_at hl 3 rfl) ?_
        refine lv_aload_n hx hb dX9_below_29 rfl (lv_at hl 0 rfl) ?_
        refine x_getr hx hb hts hinRX9 hown B 65 0 66 (by decide) (by decide) (fun _ => rfl) rfl rfl (by decide) (by decide +kernel) rfl dX9_below_30 ?_
        refine lv_iconst (v := (1 : Int32)) hx hb dX9_below_33 (by decide) ?_
        obtain ⟨hg, hf⟩ := zg_some hf
        refine x_iald hx hb B 66 (by decide) (fun _ => rfl) (zin_ok hg) dX9_below_34 ?_
        refine lv_icmp_ge (tgt := 63) hx hb dX9_below_35 (by decide) (fun hc => ?_) (fun hc => ?_)
        · have hf := zif_t hc hf
          refine lv_iload_n hx hb dX9_below_63 rfl (lv_at hl 2 rfl) ?_
          refine W.widen (k := 0) (n := 0) (Nat.le_of_ble_eq_true rfl) (Nat.le_of_ble_eq_true rfl) ?_
          exact x_iret hx hb hr rfl hlocks B hf dX9_below_64
        · have hf := zif_f hc hf
          refine lv_iload_n hx hb dX9_below_38 rfl (lv_at hl 2 rfl) ?_
          refine lv_aload_n hx hb dX9_below_39 rfl (lv_at hl 0 rfl) ?_
          refine lv_iload_n hx hb dX9_below_40 rfl (lv_at hl 3 rfl) ?_
          refine lv_iload_n hx hb dX9_below_41 rfl (lv_at hl 1 rfl) ?_
          obtain ⟨r5, σ6, hu4, hf⟩ := zb_some hf
          refine x_i B (fun nb a g hs Bz => va_runV (As := [.int v3, .int v1]) (rest := [.int v2]) ⟨hx, hb, hml, hown, hts⟩ (c_X9_isBelow l hu4 _ nb a g hs) (cwV 2 hts gX9_below_X9_isBelow rfl rfl rfl (by decide +kernel) ⟨Nat.le_of_ble_eq_true rfl, Nat.le_of_ble_eq_true rfl⟩) (x_preV Bz (by decide) (fun _ => rfl) rfl) rfl rfl hl.1 rfl (lv_room (Nat.le_of_ble_eq_true rfl)) dX9_below_42 ⟨Nat.le_of_ble_eq_true rfl, Nat.le_of_ble_eq_true rfl⟩) (fun H locs B => ?_)
          refine lv_if_eq (tgt := 54) hx hb dX9_below_45 (by decide) (fun hc => ?_) (fun hc => ?_)
          · have hf := zif_t hc hf
            refine lv_iconst (v := (0 : Int32)) hx hb dX9_below_54 (by decide) ?_
            exact L55 _ ih  _ _ _ _ _ _ _ _ hf B (lv_sub hl [0, 1, 3] rfl)
          · have hf := zif_f hc hf
            refine lv_iconst (v := (1 : Int32)) hx hb dX9_below_48 (by decide) ?_
            refine lv_iload_n hx hb dX9_below_49 rfl (lv_at hl 3 rfl) ?_
            refine lv_ishl hx hb dX9_below_50 ?_
            refine lv_goto (tgt := 55) hx hb dX9_below_51 (by decide) ?_
            exact L55 _ ih  _ _ _ _ _ _ _ _ hf B (lv_sub hl [0, 1, 3] rfl)
  have L14 : ∀ (σ : zs) (v1 : Int32) (s0 : Int32) (H : Heap) (locs : List Loc) (ls : Array Slot), f_X9_below_14 σ v1 s0 = some (r, σ') → xB A s G ad σ H locs → lv_has ls 4 [(0, .ref (ad 65)), (1, .int v1)] → W p l e (headSpec wsX9_below rm_X9_below).room s m ([.ref (ad 65), .int a1] : List Value).toArray below meth c H locs 0 0 (MQ below (va_Qi (fun r' (u : xV) => r' = r ∧ xQ σ' u) (xPost G ad σ' A) A) ([.ref (ad 65), .int a1] : List Value).toArray s 0 0 A) (F0 m 14 ls [.int s0, .ref (ad 65)]) := by
    intro σ v1 s0 H locs ls hf B hl
    unfold f_X9_below_14 at hf
    refine x_puti hx hb hts hinRX9 hown tyX9 tyX9_ok nmX9 B 65 3 (by decide) (by decide) (fun _ => rfl) rfl rfl (by decide) (by decide +kernel) rfl rfl rfl rfl dX9_below_14 (fun H locs B => ?_)
    refine lv_iconst (v := (0 : Int32)) hx hb dX9_below_17 (by decide) ?_
    refine lv_istore_n (lv' := [(2, .int (0 : Int32)), (0, .ref (ad 65)), (1, .int v1)]) hx hb dX9_below_18 rfl hl (by decide) rfl (fun ls hl => ?_)
    refine lv_iconst (v := (0 : Int32)) hx hb dX9_below_19 (by decide) ?_
    refine lv_istore_n (lv' := [(3, .int (0 : Int32)), (2, .int (0 : Int32)), (0, .ref (ad 65)), (1, .int v1)]) hx hb dX9_below_20 rfl hl (by decide) rfl (fun ls hl => ?_)
    exact L21  _ _ _ _ _ _ _ _ hf B (lv_sub hl [2, 3, 1, 0] rfl)
  unfold f_X9_below at hf
  refine lv_aload_n hx hb dX9_below_0 rfl (lv_at hl 0 rfl) ?_
  refine lv_aload_n hx hb dX9_below_1 rfl (lv_at hl 0 rfl) ?_
  refine lv_iload_n hx hb dX9_below_2 rfl (lv_at hl 1 rfl) ?_
  obtain ⟨r2, σ3, hu1, hf⟩ := zb_some hf
  refine x_i B (fun nb a g hs Bz => va_runV (As := [.int a1]) (rest := [.ref (ad 65)]) ⟨hx, hb, hml, hown, hts⟩ (c_X9_isToken l hu1 _ nb a g hs) (cwV 1 hts gX9_below_X9_isToken rfl rfl rfl (by decide +kernel) ⟨Nat.le_of_ble_eq_true rfl, Nat.le_of_ble_eq_true rfl⟩) (x_preV Bz (by decide) (fun _ => rfl) rfl) rfl rfl hl.1 rfl (lv_room (Nat.le_of_ble_eq_true rfl)) dX9_below_3 ⟨Nat.le_of_ble_eq_true rfl, Nat.le_of_ble_eq_true rfl⟩) (fun H locs B => ?_)
  refine lv_if_eq (tgt := 13) hx hb dX9_below_6 (by decide) (fun hc => ?_) (fun hc => ?_)
  · have hf := zif_t hc hf
    refine lv_iconst (v := (1 : Int32)) hx hb dX9_below_13 (by decide) ?_
    exact L14  _ _ _ _ _ _ hf B (lv_sub hl [0, 1] rfl)
  · have hf := zif_f hc hf
    refine lv_iconst (v := (0 : Int32)) hx hb dX9_below_9 (by decide) ?_
    refine lv_goto (tgt := 14) hx hb dX9_below_10 (by decide) ?_
    exact L14  _ _ _ _ _ _ hf B (lv_sub hl [0, 1] rfl)
theorem dX9_isAhead_0 : decode cX9_isAhead 0 = .ok (.aload_n 0, 1) := by decide +kernel
theorem dX9_isAhead_1 : decode cX9_isAhead 1 = .ok (.getfield 9, 3) := by decide +kernel
theorem dX9_isAhead_4 : decode cX9_isAhead 4 = .ok (.bipush 51, 2) := by decide +kernel
theorem dX9_isAhead_6 : decode cX9_isAhead 6 = .ok (.iload_n 1, 1) := by decide +kernel
theorem dX9_isAhead_7 : decode cX9_isAhead 7 = .ok (.iadd, 1) := by decide +kernel
theorem dX9_isAhead_8 : decode cX9_isAhead 8 = .ok (.iaload, 1) := by decide +kernel
theorem dX9_isAhead_9 : decode cX9_isAhead 9 = .ok (.aload_n 0, 1) := by decide +kernel
theorem dX9_isAhead_10 : decode cX9_isAhead 10 = .ok (.getfield 9, 3) := by decide +kernel
theorem dX9_isAhead_13 : decode cX9_isAhead 13 = .ok (.bipush 51, 2) := by decide +kernel
theorem dX9_isAhead_15 : decode cX9_isAhead 15 = .ok (.iload_n 2, 1) := by decide +kernel
theorem dX9_isAhead_16 : decode cX9_isAhead 16 = .ok (.iadd, 1) := by decide +kernel
theorem dX9_isAhead_17 : decode cX9_isAhead 17 = .ok (.iaload, 1) := by decide +kernel
theorem dX9_isAhead_18 : decode cX9_isAhead 18 = .ok (.if_icmp .eq 30, 3) := by decide +kernel
theorem dX9_isAhead_21 : decode cX9_isAhead 21 = .ok (.aload_n 0, 1) := by decide +kernel
theorem dX9_isAhead_22 : decode cX9_isAhead 22 = .ok (.getfield 9, 3) := by decide +kernel
theorem dX9_isAhead_25 : decode cX9_isAhead 25 = .ok (.bipush 51, 2) := by decide +kernel
theorem dX9_isAhead_27 : decode cX9_isAhead 27 = .ok (.iload_n 1, 1) := by decide +kernel
theorem dX9_isAhead_28 : decode cX9_isAhead 28 = .ok (.iadd, 1) := by decide +kernel
theorem dX9_isAhead_29 : decode cX9_isAhead 29 = .ok (.iaload, 1) := by decide +kernel
theorem dX9_isAhead_30 : decode cX9_isAhead 30 = .ok (.aload_n 0, 1) := by decide +kernel
theorem dX9_isAhead_31 : decode cX9_isAhead 31 = .ok (.getfield 9, 3) := by decide +kernel
theorem dX9_isAhead_34 : decode cX9_isAhead 34 = .ok (.bipush 51, 2) := by decide +kernel
theorem dX9_isAhead_36 : decode cX9_isAhead 36 = .ok (.iload_n 2, 1) := by decide +kernel
theorem dX9_isAhead_37 : decode cX9_isAhead 37 = .ok (.iadd, 1) := by decide +kernel
theorem dX9_isAhead_38 : decode cX9_isAhead 38 = .ok (.iaload, 1) := by decide +kernel
theorem dX9_isAhead_39 : decode cX9_isAhead 39 = .ok (.if_icmp .ge 7, 3) := by decide +kernel
theorem dX9_isAhead_42 : decode cX9_isAhead 42 = .ok (.iconst 1, 1) := by decide +kernel
theorem dX9_isAhead_43 : decode cX9_isAhead 43 = .ok (.goto 4, 3) := by decide +kernel
theorem dX9_isAhead_46 : decode cX9_isAhead 46 = .ok (.iconst 0, 1) := by decide +kernel
theorem dX9_isAhead_47 : decode cX9_isAhead 47 = .ok (.ireturn, 1) := by decide +kernel
theorem dX9_isAhead_48 : decode cX9_isAhead 48 = .ok (.aload_n 0, 1) := by decide +kernel
theorem dX9_isAhead_49 : decode cX9_isAhead 49 = .ok (.iload_n 1, 1) := by decide +kernel
theorem dX9_isAhead_50 : decode cX9_isAhead 50 = .ok (.invokevirtual 66, 3) := by decide +kernel
theorem dX9_isAhead_53 : decode cX9_isAhead 53 = .ok (.istore_n 3, 1) := by decide +kernel
theorem dX9_isAhead_54 : decode cX9_isAhead 54 = .ok (.aload_n 0, 1) := by decide +kernel
theorem dX9_isAhead_55 : decode cX9_isAhead 55 = .ok (.iload_n 2, 1) := by decide +kernel
theorem dX9_isAhead_56 : decode cX9_isAhead 56 = .ok (.invokevirtual 66, 3) := by decide +kernel
theorem dX9_isAhead_59 : decode cX9_isAhead 59 = .ok (.istore 4, 2) := by decide +kernel
theorem dX9_isAhead_61 : decode cX9_isAhead 61 = .ok (.iload_n 3, 1) := by decide +kernel
theorem dX9_isAhead_62 : decode cX9_isAhead 62 = .ok (.iload 4, 2) := by decide +kernel
theorem dX9_isAhead_64 : decode cX9_isAhead 64 = .ok (.if_icmp .eq 17, 3) := by decide +kernel
theorem dX9_isAhead_67 : decode cX9_isAhead 67 = .ok (.iload_n 3, 1) := by decide +kernel
theorem dX9_isAhead_68 : decode cX9_isAhead 68 = .ok (.iload 4, 2) := by decide +kernel
theorem dX9_isAhead_70 : decode cX9_isAhead 70 = .ok (.if_icmp .le 7, 3) := by decide +kernel
theorem dX9_isAhead_73 : decode cX9_isAhead 73 = .ok (.iconst 1, 1) := by decide +kernel
theorem dX9_isAhead_74 : decode cX9_isAhead 74 = .ok (.goto 17, 3) := by decide +kernel
theorem dX9_isAhead_77 : decode cX9_isAhead 77 = .ok (.iconst 0, 1) := by decide +kernel
theorem dX9_isAhead_78 : decode cX9_isAhead 78 = .ok (.goto 13, 3) := by decide +kernel
theorem dX9_isAhead_81 : decode cX9_isAhead 81 = .ok (.iload_n 1, 1) := by decide +kernel
theorem dX9_isAhead_82 : decode cX9_isAhead 82 = .ok (.iload_n 2, 1) := by decide +kernel
theorem dX9_isAhead_83 : decode cX9_isAhead 83 = .ok (.if_icmp .ge 7, 3) := by decide +kernel
theorem dX9_isAhead_86 : decode cX9_isAhead 86 = .ok (.iconst 1, 1) := by decide +kernel
theorem dX9_isAhead_87 : decode cX9_isAhead 87 = .ok (.goto 4, 3) := by decide +kernel
theorem dX9_isAhead_90 : decode cX9_isAhead 90 = .ok (.iconst 0, 1) := by decide +kernel
theorem dX9_isAhead_91 : decode cX9_isAhead 91 = .ok (.ireturn, 1) := by decide +kernel
set_option maxRecDepth 20000 in
theorem ggX9_isAhead_X9_chainOf : GoodIn wsX9_isAhead wsX9_chainOf := goodIn_ca (goodIn_r _ [6, 1, 7, 8, 9, 10, 11, 12, 13, 14, 15, 16, 17, 18, 19, 20, 21, 22, 23, 24, 25, 26, 27] (by decide +kernel) (by decide +kernel)) (goodIn_sub (fun _ h => List.mem_cons_of_mem _ (List.mem_append_right _ h)) (by decide +kernel))
set_option maxRecDepth 20000 in
theorem gX9_isAhead_X9_chainOf : GoodIn wsX9_isAhead (wsV RX9 66 RX9 yX9_chainOf wsX9_chainOf) := goodIn_app (goodIn_of _ (by decide +kernel)) ggX9_isAhead_X9_chainOf
def rm_X9_isAhead : Room := { frames := 2, cells := 0, slots := 0, locals := 40 }
set_option maxHeartbeats 4000000 in
set_option maxRecDepth 100000 in
theorem c_X9_isAhead (l : Launch) {G : zG} {ad : Nat → Nat} {σ σ' : zs} {a1 a2 : Int32} {r : Int32} (hf : f_X9_isAhead σ a1 a2 = some (r, σ')) : xMi l yX9_isAhead wsX9_isAhead rm_X9_isAhead G ad σ [.ref (ad 65), .int a1, .int a2] r σ' := by
  intro sz nb a g hs
  refine Met.ofW (cc := cX9_isAhead) (maxL := 5) (ret := (some .boolean)) (by decide) rfl ?_
  intro p e s m args below meth c s₁ B hml hv
  obtain ⟨rfl, hsz, hv⟩ := hv
  have hx := B.exec
  have hb := B.bytes
  have hr := B.returns
  have hts := atoms_spec (ws := wsX9_isAhead) B.pre
  have hown : s.vm.findClass RX9 = some m.cls := findClass_of_methodNamed B.named
  have hlocks := B.notSynchronized
  subst hsz
  have B := xB_start hs hv
  have hinRX9 : ∀ w ∈ wsX90, w ∈ wsX9_isAhead := by decide +kernel
  have hl := lv_entry ([.ref (ad 65), .int a1, .int a2]) (n := 5) (Nat.le_of_ble_eq_true rfl)
  rw [lg_entry_eq]
  generalize (lg_sl ([.ref (ad 65), .int a1, .int a2]) ++ List.replicate (5 - (lg_sl ([.ref (ad 65), .int a1, .int a2])).length) Slot.unset).toArray = ls at hl ⊢
  have hl : lv_has ls 5 [(0, .ref (ad 65)), (1, .int a1), (2, .int a2)] := hl
  generalize hAe : xA ad a s.heap.size = A at B ⊢
  unfold f_X9_isAhead at hf
  refine lv_aload_n hx hb dX9_isAhead_0 rfl (lv_at hl 0 rfl) ?_
  refine x_getr hx hb hts hinRX9 hown B 65 0 66 (by decide) (by decide) (fun _ => rfl) rfl rfl (by decide) (by decide +kernel) rfl dX9_isAhead_1 ?_
  refine lv_bipush (v := (51 : Int32)) hx hb dX9_isAhead_4 (by decide) ?_
  refine lv_iload_n hx hb dX9_isAhead_6 rfl (lv_at hl 1 rfl) ?_
  refine lv_iadd hx hb dX9_isAhead_7 ?_
  obtain ⟨hg, hf⟩ := zg_some hf
  refine x_iald hx hb B 66 (by decide) (fun _ => rfl) (zin_ok hg) dX9_isAhead_8 ?_
  refine lv_aload_n hx hb dX9_isAhead_9 rfl (lv_at hl 0 rfl) ?_
  refine x_getr hx hb hts hinRX9 hown B 65 0 66 (by decide) (by decide) (fun _ => rfl) rfl rfl (by decide) (by decide +kernel) rfl dX9_isAhead_10 ?_
  refine lv_bipush (v := (51 : Int32)) hx hb dX9_isAhead_13 (by decide) ?_
  refine lv_iload_n hx hb dX9_isAhead_15 rfl (lv_at hl 2 rfl) ?_
  refine lv_iadd hx hb dX9_isAhead_16 ?_
  obtain ⟨hg, hf⟩ := zg_some hf
  refine x_iald hx hb B 66 (by decide) (fun _ => rfl) (zin_ok hg) dX9_isAhead_17 ?_
  refine lv_icmp_eq (tgt := 48) hx hb dX9_isAhead_18 (by decide) (fun hc => ?_) (fun hc => ?_)
  · have hf := zif_t hc hf
    refine lv_aload_n hx hb dX9_isAhead_48 rfl (lv_at hl 0 rfl) ?_
    refine lv_iload_n hx hb dX9_isAhead_49 rfl (lv_at hl 1 rfl) ?_
    obtain ⟨r2, σ3, hu1, hf⟩ := zb_some hf
    refine x_i B (fun nb a g hs Bz => va_runV (As := [.int a1]) (rest := []) ⟨hx, hb, hml, hown, hts⟩ (c_X9_chainOf l hu1 _ nb a g hs) (cwV 1 hts gX9_isAhead_X9_chainOf rfl rfl rfl (by decide +kernel) ⟨Nat.le_of_ble_eq_true rfl, Nat.le_of_ble_eq_true rfl⟩) (x_preV Bz (by decide) (fun _ => rfl) rfl) rfl rfl hl.1 rfl (lv_room (Nat.le_of_ble_eq_true rfl)) dX9_isAhead_50 ⟨Nat.le_of_ble_eq_true rfl, Nat.le_of_ble_eq_true rfl⟩) (fun H locs B => ?_)
    refine lv_istore_n (lv' := [(3, .int r2), (0, .ref (ad 65)), (1, .int a1), (2, .int a2)]) hx hb dX9_isAhead_53 rfl hl (by decide) rfl (fun ls hl => ?_)
    refine lv_aload_n hx hb dX9_isAhead_54 rfl (lv_at hl 1 rfl) ?_
    refine lv_iload_n hx hb dX9_isAhead_55 rfl (lv_at hl 3 rfl) ?_
    obtain ⟨r5, σ6, hu4, hf⟩ := zb_some hf
    refine x_i B (fun nb a g hs Bz => va_runV (As := [.int a2]) (rest := []) ⟨hx, hb, hml, hown, hts⟩ (c_X9_chainOf l hu4 _ nb a g hs) (cwV 1 hts gX9_isAhead_X9_chainOf rfl rfl rfl (by decide +kernel) ⟨Nat.le_of_ble_eq_true rfl, Nat.le_of_ble_eq_true rfl⟩) (x_preV Bz (by decide) (fun _ => rfl) rfl) rfl rfl hl.1 rfl (lv_room (Nat.le_of_ble_eq_true rfl)) dX9_isAhead_56 ⟨Nat.le_of_ble_eq_true rfl, Nat.le_of_ble_eq_true rfl⟩) (fun H locs B => ?_)
    refine lv_istore (lv' := [(4, .int r5), (3, .int r2), (0, .ref (ad 65)), (1, .int a1), (2, .int a2)]) hx hb dX9_isAhead_59 hl (by decide) rfl (fun ls hl => ?_)
    refine lv_iload_n hx hb dX9_isAhead_61 rfl (lv_at hl 1 rfl) ?_
    refine lv_iload hx hb dX9_isAhead_62 (lv_at hl 0 rfl) ?_
    refine lv_icmp_eq (tgt := 81) hx hb dX9_isAhead_64 (by decide) (fun hc => ?_) (fun hc => ?_)
    · have hf := zif_t hc hf
      refine lv_iload_n hx hb dX9_isAhead_81 rfl (lv_at hl 3 rfl) ?_
      refine lv_iload_n hx hb dX9_isAhead_82 rfl (lv_at hl 4 rfl) ?_
      refine lv_icmp_ge (tgt := 90) hx hb dX9_isAhead_83 (by decide) (fun hc => ?_) (fun hc => ?_)
      · have hf := zif_t hc hf
        refine lv_iconst (v := (0 : Int32)) hx hb dX9_isAhead_90 (by decide) ?_
        refine W.widen (k := 0) (n := 0) (Nat.le_of_ble_eq_true rfl) (Nat.le_of_ble_eq_true rfl) ?_
        exact x_iret hx hb hr (by decide) hlocks B hf dX9_isAhead_91
      · have hf := zif_f hc hf
        refine lv_iconst (v := (1 : Int32)) hx hb dX9_isAhead_86 (by decide) ?_
        refine lv_goto (tgt := 91) hx hb dX9_isAhead_87 (by decide) ?_
        refine W.widen (k := 0) (n := 0) (Nat.le_of_ble_eq_true rfl) (Nat.le_of_ble_eq_true rfl) ?_
        exact x_iret hx hb hr (by decide) hlocks B hf dX9_isAhead_91
    · have hf := zif_f hc hf
      refine lv_iload_n hx hb dX9_isAhead_67 rfl (lv_at hl 1 rfl) ?_
      refine lv_iload hx hb dX9_isAhead_68 (lv_at hl 0 rfl) ?_
      refine lv_icmp_le (tgt := 77) hx hb dX9_isAhead_70 (by decide) (fun hc => ?_) (fun hc => ?_)
      · have hf := zif_t hc hf
        refine lv_iconst (v := (0 : Int32)) hx hb dX9_isAhead_77 (by decide) ?_
        refine lv_goto (tgt := 91) hx hb dX9_isAhead_78 (by decide) ?_
        refine W.widen (k := 0) (n := 0) (Nat.le_of_ble_eq_true rfl) (Nat.le_of_ble_eq_true rfl) ?_
        exact x_iret hx hb hr (by decide) hlocks B hf dX9_isAhead_91
      · have hf := zif_f hc hf
        refine lv_iconst (v := (1 : Int32)) hx hb dX9_isAhead_73 (by decide) ?_
        refine lv_goto (tgt := 91) hx hb dX9_isAhead_74 (by decide) ?_
        refine W.widen (k := 0) (n := 0) (Nat.le_of_ble_eq_true rfl) (Nat.le_of_ble_eq_true rfl) ?_
        exact x_iret hx hb hr (by decide) hlocks B hf dX9_isAhead_91
  · have hf := zif_f hc hf
    refine lv_aload_n hx hb dX9_isAhead_21 rfl (lv_at hl 0 rfl) ?_
    refine x_getr hx hb hts hinRX9 hown B 65 0 66 (by decide) (by decide) (fun _ => rfl) rfl rfl (by decide) (by decide +kernel) rfl dX9_isAhead_22 ?_
    refine lv_bipush (v := (51 : Int32)) hx hb dX9_isAhead_25 (by decide) ?_
    refine lv_iload_n hx hb dX9_isAhead_27 rfl (lv_at hl 1 rfl) ?_
    refine lv_iadd hx hb dX9_isAhead_28 ?_
    obtain ⟨hg, hf⟩ := zg_some hf
    refine x_iald hx hb B 66 (by decide) (fun _ => rfl) (zin_ok hg) dX9_isAhead_29 ?_
    refine lv_aload_n hx hb dX9_isAhead_30 rfl (lv_at hl 0 rfl) ?_
    refine x_getr hx hb hts hinRX9 hown B 65 0 66 (by decide) (by decide) (fun _ => rfl) rfl rfl (by decide) (by decide +kernel) rfl dX9_isAhead_31 ?_
    refine lv_bipush (v := (51 : Int32)) hx hb dX9_isAhead_34 (by decide) ?_
    refine lv_iload_n hx hb dX9_isAhead_36 rfl (lv_at hl 2 rfl) ?_
    refine lv_iadd hx hb dX9_isAhead_37 ?_
    obtain ⟨hg, hf⟩ := zg_some hf
    refine x_iald hx hb B 66 (by decide) (fun _ => rfl) (zin_ok hg) dX9_isAhead_38 ?_
    refine lv_icmp_ge (tgt := 46) hx hb dX9_isAhead_39 (by decide) (fun hc => ?_) (fun hc => ?_)
    · have hf := zif_t hc hf
      refine lv_iconst (v := (0 : Int32)) hx hb dX9_isAhead_46 (by decide) ?_
      refine W.widen (k := 0) (n := 0) (Nat.le_of_ble_eq_true rfl) (Nat.le_of_ble_eq_true rfl) ?_
      exact x_iret hx hb hr (by decide) hlocks B hf dX9_isAhead_47
    · have hf := zif_f hc hf
      refine lv_iconst (v := (1 : Int32)) hx hb dX9_isAhead_42 (by decide) ?_
      refine lv_goto (tgt := 47) hx hb dX9_isAhead_43 (by decide) ?_
      refine W.widen (k := 0) (n := 0) (Nat.le_of_ble_eq_true rfl) (Nat.le_of_ble_eq_true rfl) ?_
      exact x_iret hx hb hr (by decide) hlocks B hf dX9_isAhead_47
theorem dX9_ranked_0 : decode cX9_ranked 0 = .ok (.aload_n 0, 1) := by decide +kernel
theorem dX9_ranked_1 : decode cX9_ranked 1 = .ok (.aload_n 0, 1) := by decide +kernel
theorem dX9_ranked_2 : decode cX9_ranked 2 = .ok (.iload_n 1, 1) := by decide +kernel
theorem dX9_ranked_3 : decode cX9_ranked 3 = .ok (.invokevirtual 118, 3) := by decide +kernel
theorem dX9_ranked_6 : decode cX9_ranked 6 = .ok (.ifCond .eq 7, 3) := by decide +kernel
theorem dX9_ranked_9 : decode cX9_ranked 9 = .ok (.iconst 0, 1) := by decide +kernel
theorem dX9_ranked_10 : decode cX9_ranked 10 = .ok (.goto 4, 3) := by decide +kernel
theorem dX9_ranked_13 : decode cX9_ranked 13 = .ok (.iconst 1, 1) := by decide +kernel
theorem dX9_ranked_14 : decode cX9_ranked 14 = .ok (.putfield 41, 3) := by decide +kernel
theorem dX9_ranked_17 : decode cX9_ranked 17 = .ok (.iconst 0, 1) := by decide +kernel
theorem dX9_ranked_18 : decode cX9_ranked 18 = .ok (.istore_n 2, 1) := by decide +kernel
theorem dX9_ranked_19 : decode cX9_ranked 19 = .ok (.aload_n 0, 1) := by decide +kernel
theorem dX9_ranked_20 : decode cX9_ranked 20 = .ok (.getfield 41, 3) := by decide +kernel
theorem dX9_ranked_23 : decode cX9_ranked 23 = .ok (.ifCond .ne 72, 3) := by decide +kernel
theorem dX9_ranked_26 : decode cX9_ranked 26 = .ok (.iload_n 2, 1) := by decide +kernel
theorem dX9_ranked_27 : decode cX9_ranked 27 = .ok (.aload_n 0, 1) := by decide +kernel
theorem dX9_ranked_28 : decode cX9_ranked 28 = .ok (.getfield 9, 3) := by decide +kernel
theorem dX9_ranked_31 : decode cX9_ranked 31 = .ok (.iconst 1, 1) := by decide +kernel
theorem dX9_ranked_32 : decode cX9_ranked 32 = .ok (.iaload, 1) := by decide +kernel
theorem dX9_ranked_33 : decode cX9_ranked 33 = .ok (.if_icmp .ge 62, 3) := by decide +kernel
theorem dX9_ranked_36 : decode cX9_ranked 36 = .ok (.iconst 0, 1) := by decide +kernel
theorem dX9_ranked_37 : decode cX9_ranked 37 = .ok (.istore_n 3, 1) := by decide +kernel
theorem dX9_ranked_38 : decode cX9_ranked 38 = .ok (.iconst 0, 1) := by decide +kernel
theorem dX9_ranked_39 : decode cX9_ranked 39 = .ok (.istore 4, 2) := by decide +kernel
theorem dX9_ranked_41 : decode cX9_ranked 41 = .ok (.iload 4, 2) := by decide +kernel
theorem dX9_ranked_43 : decode cX9_ranked 43 = .ok (.aload_n 0, 1) := by decide +kernel
theorem dX9_ranked_44 : decode cX9_ranked 44 = .ok (.getfield 9, 3) := by decide +kernel
theorem dX9_ranked_47 : decode cX9_ranked 47 = .ok (.iconst 1, 1) := by decide +kernel
theorem dX9_ranked_48 : decode cX9_ranked 48 = .ok (.iaload, 1) := by decide +kernel
theorem dX9_ranked_49 : decode cX9_ranked 49 = .ok (.if_icmp .ge 33, 3) := by decide +kernel
theorem dX9_ranked_52 : decode cX9_ranked 52 = .ok (.iload_n 3, 1) := by decide +kernel
theorem dX9_ranked_53 : decode cX9_ranked 53 = .ok (.iload 4, 2) := by decide +kernel
theorem dX9_ranked_55 : decode cX9_ranked 55 = .ok (.iload_n 2, 1) := by decide +kernel
theorem dX9_ranked_56 : decode cX9_ranked 56 = .ok (.if_icmp .eq 17, 3) := by decide +kernel
theorem dX9_ranked_59 : decode cX9_ranked 59 = .ok (.aload_n 0, 1) := by decide +kernel
theorem dX9_ranked_60 : decode cX9_ranked 60 = .ok (.iload 4, 2) := by decide +kernel
theorem dX9_ranked_62 : decode cX9_ranked 62 = .ok (.iload_n 2, 1) := by decide +kernel
theorem dX9_ranked_63 : decode cX9_ranked 63 = .ok (.invokevirtual 187, 3) := by decide +kernel
theorem dX9_ranked_66 : decode cX9_ranked 66 = .ok (.ifCond .eq 7, 3) := by decide +kernel
theorem dX9_ranked_69 : decode cX9_ranked 69 = .ok (.iconst 1, 1) := by decide +kernel
theorem dX9_ranked_70 : decode cX9_ranked 70 = .ok (.goto 4, 3) := by decide +kernel
theorem dX9_ranked_73 : decode cX9_ranked 73 = .ok (.iconst 0, 1) := by decide +kernel
theorem dX9_ranked_74 : decode cX9_ranked 74 = .ok (.iadd, 1) := by decide +kernel
theorem dX9_ranked_75 : decode cX9_ranked 75 = .ok (.istore_n 3, 1) := by decide +kernel
theorem dX9_ranked_76 : decode cX9_ranked 76 = .ok (.iinc 4 1, 3) := by decide +kernel
theorem dX9_ranked_79 : decode cX9_ranked 79 = .ok (.goto (-38), 3) := by decide +kernel
theorem dX9_ranked_82 : decode cX9_ranked 82 = .ok (.iload_n 3, 1) := by decide +kernel
theorem dX9_ranked_83 : decode cX9_ranked 83 = .ok (.iload_n 1, 1) := by decide +kernel
theorem dX9_ranked_84 : decode cX9_ranked 84 = .ok (.if_icmp .ne 5, 3) := by decide +kernel
theorem dX9_ranked_87 : decode cX9_ranked 87 = .ok (.iload_n 2, 1) := by decide +kernel
theorem dX9_ranked_88 : decode cX9_ranked 88 = .ok (.ireturn, 1) := by decide +kernel
theorem dX9_ranked_89 : decode cX9_ranked 89 = .ok (.iinc 2 1, 3) := by decide +kernel
theorem dX9_ranked_92 : decode cX9_ranked 92 = .ok (.goto (-73), 3) := by decide +kernel
theorem dX9_ranked_95 : decode cX9_ranked 95 = .ok (.iconst 0, 1) := by decide +kernel
theorem dX9_ranked_96 : decode cX9_ranked 96 = .ok (.ireturn, 1) := by decide +kernel
set_option maxRecDepth 20000 in
theorem ggX9_ranked_X9_isToken : GoodIn wsX9_ranked wsX9_isToken := goodIn_ca (goodIn_r _ [7, 2, 8, 9, 6, 10, 20, 21, 22, 23, 24, 25, 26, 27, 28, 29, 30, 31, 32, 33, 34, 35, 36, 37, 38, 39] (by decide +kernel) (by decide +kernel)) (goodIn_sub (fun _ h => List.mem_cons_of_mem _ (List.mem_append_right _ h)) (by decide +kernel))
set_option maxRecDepth 20000 in
theorem gX9_ranked_X9_isToken : GoodIn wsX9_ranked (wsV RX9 118 RX9 yX9_isToken wsX9_isToken) := goodIn_app (goodIn_of _ (by decide +kernel)) ggX9_ranked_X9_isToken
set_option maxRecDepth 20000 in
theorem ggX9_ranked_X9_isAhead : GoodIn wsX9_ranked wsX9_isAhead := goodIn_ca (goodIn_r _ [14, 2, 15, 16, 17, 6, 18, 19, 20, 21, 22, 23, 24, 25, 26, 27, 28, 29, 30, 31, 32, 33, 34, 35, 36, 37, 38, 39] (by decide +kernel) (by decide +kernel)) (goodIn_sub (fun _ h => List.mem_cons_of_mem _ (List.mem_append_right _ h)) (by decide +kernel))
set_option maxRecDepth 20000 in
theorem gX9_ranked_X9_isAhead : GoodIn wsX9_ranked (wsV RX9 187 RX9 yX9_isAhead wsX9_isAhead) := goodIn_app (goodIn_of _ (by decide +kernel)) ggX9_ranked_X9_isAhead
def rm_X9_ranked : Room := { frames := 3, cells := 0, slots := 0, locals := 64 }
set_option maxHeartbeats 4000000 in
set_option maxRecDepth 100000 in
theorem c_X9_ranked (l : Launch) {G : zG} {ad : Nat → Nat} {σ σ' : zs} {a1 : Int32} {r : Int32} (hf : f_X9_ranked σ a1 = some (r, σ')) : xMi l yX9_ranked wsX9_ranked rm_X9_ranked G ad σ [.ref (ad 65), .int a1] r σ' := by
  intro sz nb a g hs
  refine Met.ofW (cc := cX9_ranked) (maxL := 5) (ret := (some .int)) (by decide) rfl ?_
  intro p e s m args below meth c s₁ B hml hv
  obtain ⟨rfl, hsz, hv⟩ := hv
  have hx := B.exec
  have hb := B.bytes
  have hr := B.returns
  have hts := atoms_spec (ws := wsX9_ranked) B.pre
  have hown : s.vm.findClass RX9 = some m.cls := findClass_of_methodNamed B.named
  have hlocks := B.notSynchronized
  subst hsz
  have B := xB_start hs hv
  have hinRX9 : ∀ w ∈ wsX90, w ∈ wsX9_ranked := by decide +kernel
  have hl := lv_entry ([.ref (ad 65), .int a1]) (n := 5) (Nat.le_of_ble_eq_true rfl)
  rw [lg_entry_eq]
  generalize (lg_sl ([.ref (ad 65), .int a1]) ++ List.replicate (5 - (lg_sl ([.ref (ad 65), .int a1])).length) Slot.unset).toArray = ls at hl ⊢
  have hl : lv_has ls 5 [(0, .ref (ad 65)), (1, .int a1)] := hl
  generalize hAe : xA ad a s.heap.size = A at B ⊢
  have L74 : ∀ (K19 : zs → Int32 → Int32 → Option (Int32 × zs)) (hK19 : ∀ (σ : zs) (v1 : Int32) (v2 : Int32) (H : Heap) (locs : List Loc) (ls : Array Slot), K19 σ v1 v2 = some (r, σ') → xB A s G ad σ H locs → lv_has ls 5 [(0, .ref (ad 65)), (1, .int v1), (2, .int v2)] → W p l e (headSpec wsX9_ranked rm_X9_ranked).room s m ([.ref (ad 65), .int a1] : List Value).toArray below meth c H locs 0 0 (MQ below (va_Qi (fun r' (u : xV) => r' = r ∧ xQ σ' u) (xPost G ad σ' A) A) ([.ref (ad 65), .int a1] : List Value).toArray s 0 0 A) (F0 m 19 ls [])) (K41 : zs → Int32 → Int32 → Int32 → Int32 → Option (Int32 × zs)) (hK41 : ∀ (σ : zs) (v1 : Int32) (v2 : Int32) (v3 : Int32) (v4 : Int32) (H : Heap) (locs : List Loc) (ls : Array Slot), K41 σ v1 v2 v3 v4 = some (r, σ') → xB A s G ad σ H locs → lv_has ls 5 [(0, .ref (ad 65)), (1, .int v1), (2, .int v2), (3, .int v3), (4, .int v4)] → W p l e (headSpec wsX9_ranked rm_X9_ranked).room s m ([.ref (ad 65), .int a1] : List Value).toArray below meth c H locs 0 0 (MQ below (va_Qi (fun r' (u : xV) => r' = r ∧ xQ σ' u) (xPost G ad σ' A) A) ([.ref (ad 65), .int a1] : List Value).toArray s 0 0 A) (F0 m 41 ls [])) (σ : zs) (v1 : Int32) (v2 : Int32) (v4 : Int32) (s0 : Int32) (s1 : Int32) (H : Heap) (locs : List Loc) (ls : Array Slot), f_X9_ranked_74 K19 K41 σ v1 v2 v4 s0 s1 = some (r, σ') → xB A s G ad σ H locs → lv_has ls 5 [(0, .ref (ad 65)), (1, .int v1), (2, .int v2), (4, .int v4)] → W p l e (headSpec wsX9_ranked rm_X9_ranked).room s m ([.ref (ad 65), .int a1] : List Value).toArray below meth c H locs 0 0 (MQ below (va_Qi (fun r' (u : xV) => r' = r ∧ xQ σ' u) (xPost G ad σ' A) A) ([.ref (ad 65), .int a1] : List Value).toArray s 0 0 A) (F0 m 74 ls [.int s0, .int s1]) := by
    intro K19 hK19 K41 hK41 σ v1 v2 v4 s0 s1 H locs ls hf B hl
    unfold f_X9_ranked_74 at hf
    refine lv_iadd hx hb dX9_ranked_74 ?_
    refine lv_istore_n (lv' := [(3, .int (s1 + s0)), (0, .ref (ad 65)), (1, .int v1), (2, .int v2), (4, .int v4)]) hx hb dX9_ranked_75 rfl hl (by decide) rfl (fun ls hl => ?_)
    refine lv_iinc (v := (v4 + (1 : Int32))) (lv' := [(4, .int (v4 + (1 : Int32))), (3, .int (s1 + s0)), (0, .ref (ad 65)), (1, .int v1), (2, .int v2)]) hx hb dX9_ranked_76 hl (k := 4) rfl (zc1 (by decide)) (by decide) rfl (fun ls hl => ?_)
    refine lv_goto (tgt := 41) hx hb dX9_ranked_79 (by decide) ?_
    exact hK41 _ _ _ _ _ _ _ _ hf B (lv_sub hl [2, 3, 4, 1, 0] rfl)
  have L41 : ∀ (K19 : zs → Int32 → Int32 → Option (Int32 × zs)) (hK19 : ∀ (σ : zs) (v1 : Int32) (v2 : Int32) (H : Heap) (locs : List Loc) (ls : Array Slot), K19 σ v1 v2 = some (r, σ') → xB A s G ad σ H locs → lv_has ls 5 [(0, .ref (ad 65)), (1, .int v1), (2, .int v2)] → W p l e (headSpec wsX9_ranked rm_X9_ranked).room s m ([.ref (ad 65), .int a1] : List Value).toArray below meth c H locs 0 0 (MQ below (va_Qi (fun r' (u : xV) => r' = r ∧ xQ σ' u) (xPost G ad σ' A) A) ([.ref (ad 65), .int a1] : List Value).toArray s 0 0 A) (F0 m 19 ls [])) (n : Nat) (σ : zs) (v1 : Int32) (v2 : Int32) (v3 : Int32) (v4 : Int32) (H : Heap) (locs : List Loc) (ls : Array Slot), zlp4 (f_X9_ranked_41 K19) n σ v1 v2 v3 v4 = some (r, σ') → xB A s G ad σ H locs → lv_has ls 5 [(0, .ref (ad 65)), (1, .int v1), (2, .int v2), (3, .int v3), (4, .int v4)] → W p l e (headSpec wsX9_ranked rm_X9_ranked).room s m ([.ref (ad 65), .int a1] : List Value).toArray below meth c H locs 0 0 (MQ below (va_Qi (fun r' (u : xV) => r' = r ∧ xQ σ' u) (xPost G ad σ' A) A) ([.ref (ad 65), .int a1] : List Value).toArray s 0 0 A) (F0 m 41 ls []) := by
    intro K19 hK19 n
    induction n with
    | zero =>
      intro σ v1 v2 v3 v4 H locs ls hf
      cases hf
    | succ n ih =>
      intro σ v1 v2 v3 v4 H locs ls hf B hl
      have hf : f_X9_ranked_41 K19 (zlp4 (f_X9_ranked_41 K19) n) σ v1 v2 v3 v4 = some (r, σ') := hf
      unfold f_X9_ranked_41 at hf
      refine lv_iload hx hb dX9_ranked_41 (lv_at hl 4 rfl) ?_
      refine lv_aload_n hx hb dX9_ranked_43 rfl (lv_at hl 0 rfl) ?_
      refine x_getr hx hb hts hinRX9 hown B 65 0 66 (by decide) (by decide) (fun _ => rfl) rfl rfl (by decide) (by decide +kernel) rfl dX9_ranked_44 ?_
      refine lv_iconst (v := (1 : Int32)) hx hb dX9_ranked_47 (by decide) ?_
      obtain ⟨hg, hf⟩ := zg_some hf
      refine x_iald hx hb B 66 (by decide) (fun _ => rfl) (zin_ok hg) dX9_ranked_48 ?_
      refine lv_icmp_ge (tgt := 82) hx hb dX9_ranked_49 (by decide) (fun hc => ?_) (fun hc => ?_)
      · have hf := zif_t hc hf
        refine lv_iload_n hx hb dX9_ranked_82 rfl (lv_at hl 3 rfl) ?_
        refine lv_iload_n hx hb dX9_ranked_83 rfl (lv_at hl 1 rfl) ?_
        refine lv_icmp_ne (tgt := 89) hx hb dX9_ranked_84 (by decide) (fun hc => ?_) (fun hc => ?_)
        · have hf := zif_f hc hf
          refine lv_iinc (v := (v2 + (1 : Int32))) (lv' := [(2, .int (v2 + (1 : Int32))), (0, .ref (ad 65)), (1, .int v1), (3, .int v3), (4, .int v4)]) hx hb dX9_ranked_89 hl (k := 2) rfl (zc1 (by decide)) (by decide) rfl (fun ls hl => ?_)
          refine lv_goto (tgt := 19) hx hb dX9_ranked_92 (by decide) ?_
          exact hK19 _ _ _ _ _ _ hf B (lv_sub hl [1, 2, 0] rfl)
        · have hf := zif_t hc hf
          refine lv_iload_n hx hb dX9_ranked_87 rfl (lv_at hl 2 rfl) ?_
          refine W.widen (k := 0) (n := 0) (Nat.le_of_ble_eq_true rfl) (Nat.le_of_ble_eq_true rfl) ?_
          exact x_iret hx hb hr rfl hlocks B hf dX9_ranked_88
      · have hf := zif_f hc hf
        refine lv_iload_n hx hb dX9_ranked_52 rfl (lv_at hl 3 rfl) ?_
        refine lv_iload hx hb dX9_ranked_53 (lv_at hl 4 rfl) ?_
        refine lv_iload_n hx hb dX9_ranked_55 rfl (lv_at hl 2 rfl) ?_
        refine lv_icmp_eq (tgt := 73) hx hb dX9_ranked_56 (by decide) (fun hc => ?_) (fun hc => ?_)
        · have hf := zif_t hc hf
          refine lv_iconst (v := (0 : Int32)) hx hb dX9_ranked_73 (by decide) ?_
          exact L74 _ hK19 _ ih  _ _ _ _ _ _ _ _ _ hf B (lv_sub hl [0, 1, 2, 4] rfl)
        · have hf := zif_f hc hf
          refine lv_aload_n hx hb dX9_ranked_59 rfl (lv_at hl 0 rfl) ?_
          refine lv_iload hx hb dX9_ranked_60 (lv_at hl 4 rfl) ?_
          refine lv_iload_n hx hb dX9_ranked_62 rfl (lv_at hl 2 rfl) ?_
          obtain ⟨r5, σ6, hu4, hf⟩ := zb_some hf
          refine x_i B (fun nb a g hs Bz => va_runV (As := [.int v4, .int v2]) (rest := [.int v3]) ⟨hx, hb, hml, hown, hts⟩ (c_X9_isAhead l hu4 _ nb a g hs) (cwV 2 hts gX9_ranked_X9_isAhead rfl rfl rfl (by decide +kernel) ⟨Nat.le_of_ble_eq_true rfl, Nat.le_of_ble_eq_true rfl⟩) (x_preV Bz (by decide) (fun _ => rfl) rfl) rfl rfl hl.1 rfl (lv_room (Nat.le_of_ble_eq_true rfl)) dX9_ranked_63 ⟨Nat.le_of_ble_eq_true rfl, Nat.le_of_ble_eq_true rfl⟩) (fun H locs B => ?_)
          refine lv_if_eq (tgt := 73) hx hb dX9_ranked_66 (by decide) (fun hc => ?_) (fun hc => ?_)
          · have hf := zif_t hc hf
            refine lv_iconst (v := (0 : Int32)) hx hb dX9_ranked_73 (by decide) ?_
            exact L74 _ hK19 _ ih  _ _ _ _ _ _ _ _ _ hf B (lv_sub hl [0, 1, 2, 4] rfl)
          · have hf := zif_f hc hf
            refine lv_iconst (v := (1 : Int32)) hx hb dX9_ranked_69 (by decide) ?_
            refine lv_goto (tgt := 74) hx hb dX9_ranked_70 (by decide) ?_
            exact L74 _ hK19 _ ih  _ _ _ _ _ _ _ _ _ hf B (lv_sub hl [0, 1, 2, 4] rfl)
  have L19 : ∀ (n : Nat) (σ : zs) (v1 : Int32) (v2 : Int32) (H : Heap) (locs : List Loc) (ls : Array Slot), zlp2 (f_X9_ranked_19) n σ v1 v2 = some (r, σ') → xB A s G ad σ H locs → lv_has ls 5 [(0, .ref (ad 65)), (1, .int v1), (2, .int v2)] → W p l e (headSpec wsX9_ranked rm_X9_ranked).room s m ([.ref (ad 65), .int a1] : List Value).toArray below meth c H locs 0 0 (MQ below (va_Qi (fun r' (u : xV) => r' = r ∧ xQ σ' u) (xPost G ad σ' A) A) ([.ref (ad 65), .int a1] : List Value).toArray s 0 0 A) (F0 m 19 ls []) := by
    intro n
    induction n with
    | zero =>
      intro σ v1 v2 H locs ls hf
      cases hf
    | succ n ih =>
      intro σ v1 v2 H locs ls hf B hl
      have hf : f_X9_ranked_19 (zlp2 (f_X9_ranked_19) n) σ v1 v2 = some (r, σ') := hf
      unfold f_X9_ranked_19 at hf
      refine lv_aload_n hx hb dX9_ranked_19 rfl (lv_at hl 0 rfl) ?_
      refine x_geti hx hb hts hinRX9 hown B 65 3 (by decide) (fun _ => rfl) rfl rfl (by decide) (by decide +kernel) rfl dX9_ranked_20 ?_
      refine lv_if_ne (tgt := 95) hx hb dX9_ranked_23 (by decide) (fun hc => ?_) (fun hc => ?_)
      · have hf := zif_f hc hf
        refine lv_iconst (v := (0 : Int32)) hx hb dX9_ranked_95 (by decide) ?_
        refine W.widen (k := 0) (n := 0) (Nat.le_of_ble_eq_true rfl) (Nat.le_of_ble_eq_true rfl) ?_
        exact x_iret hx hb hr rfl hlocks B hf dX9_ranked_96
      · have hf := zif_t hc hf
        refine lv_iload_n hx hb dX9_ranked_26 rfl (lv_at hl 2 rfl) ?_
        refine lv_aload_n hx hb dX9_ranked_27 rfl (lv_at hl 0 rfl) ?_
        refine x_getr hx hb hts hinRX9 hown B 65 0 66 (by decide) (by decide) (fun _ => rfl) rfl rfl (by decide) (by decide +kernel) rfl dX9_ranked_28 ?_
        refine lv_iconst (v := (1 : Int32)) hx hb dX9_ranked_31 (by decide) ?_
        obtain ⟨hg, hf⟩ := zg_some hf
        refine x_iald hx hb B 66 (by decide) (fun _ => rfl) (zin_ok hg) dX9_ranked_32 ?_
        refine lv_icmp_ge (tgt := 95) hx hb dX9_ranked_33 (by decide) (fun hc => ?_) (fun hc => ?_)
        · have hf := zif_t hc hf
          refine lv_iconst (v := (0 : Int32)) hx hb dX9_ranked_95 (by decide) ?_
          refine W.widen (k := 0) (n := 0) (Nat.le_of_ble_eq_true rfl) (Nat.le_of_ble_eq_true rfl) ?_
          exact x_iret hx hb hr rfl hlocks B hf dX9_ranked_96
        · have hf := zif_f hc hf
          refine lv_iconst (v := (0 : Int32)) hx hb dX9_ranked_36 (by decide) ?_
          refine lv_istore_n (lv' := [(3, .int (0 : Int32)), (0, .ref (ad 65)), (1, .int v1), (2, .int v2)]) hx hb dX9_ranked_37 rfl hl (by decide) rfl (fun ls hl => ?_)
          refine lv_iconst (v := (0 : Int32)) hx hb dX9_ranked_38 (by decide) ?_
          refine lv_istore (lv' := [(4, .int (0 : Int32)), (3, .int (0 : Int32)), (0, .ref (ad 65)), (1, .int v1), (2, .int v2)]) hx hb dX9_ranked_39 hl (by decide) rfl (fun ls hl => ?_)
          exact L41 _ ih  _ _ _ _ _ _ _ _ _ hf B (lv_sub hl [2, 3, 4, 1, 0] rfl)
  have L14 : ∀ (σ : zs) (v1 : Int32) (s0 : Int32) (H : Heap) (locs : List Loc) (ls : Array Slot), f_X9_ranked_14 σ v1 s0 = some (r, σ') → xB A s G ad σ H locs → lv_has ls 5 [(0, .ref (ad 65)), (1, .int v1)] → W p l e (headSpec wsX9_ranked rm_X9_ranked).room s m ([.ref (ad 65), .int a1] : List Value).toArray below meth c H locs 0 0 (MQ below (va_Qi (fun r' (u : xV) => r' = r ∧ xQ σ' u) (xPost G ad σ' A) A) ([.ref (ad 65), .int a1] : List Value).toArray s 0 0 A) (F0 m 14 ls [.int s0, .ref (ad 65)]) := by
    intro σ v1 s0 H locs ls hf B hl
    unfold f_X9_ranked_14 at hf
    refine x_puti hx hb hts hinRX9 hown tyX9 tyX9_ok nmX9 B 65 3 (by decide) (by decide) (fun _ => rfl) rfl rfl (by decide) (by decide +kernel) rfl rfl rfl rfl dX9_ranked_14 (fun H locs B => ?_)
    refine lv_iconst (v := (0 : Int32)) hx hb dX9_ranked_17 (by decide) ?_
    refine lv_istore_n (lv' := [(2, .int (0 : Int32)), (0, .ref (ad 65)), (1, .int v1)]) hx hb dX9_ranked_18 rfl hl (by decide) rfl (fun ls hl => ?_)
    exact L19  _ _ _ _ _ _ _ hf B (lv_sub hl [1, 2, 0] rfl)
  unfold f_X9_ranked at hf
  refine lv_aload_n hx hb dX9_ranked_0 rfl (lv_at hl 0 rfl) ?_
  refine lv_aload_n hx hb dX9_ranked_1 rfl (lv_at hl 0 rfl) ?_
  refine lv_iload_n hx hb dX9_ranked_2 rfl (lv_at hl 1 rfl) ?_
  obtain ⟨r2, σ3, hu1, hf⟩ := zb_some hf
  refine x_i B (fun nb a g hs Bz => va_runV (As := [.int a1]) (rest := [.ref (ad 65)]) ⟨hx, hb, hml, hown, hts⟩ (c_X9_isToken l hu1 _ nb a g hs) (cwV 1 hts gX9_ranked_X9_isToken rfl rfl rfl (by decide +kernel) ⟨Nat.le_of_ble_eq_true rfl, Nat.le_of_ble_eq_true rfl⟩) (x_preV Bz (by decide) (fun _ => rfl) rfl) rfl rfl hl.1 rfl (lv_room (Nat.le_of_ble_eq_true rfl)) dX9_ranked_3 ⟨Nat.le_of_ble_eq_true rfl, Nat.le_of_ble_eq_true rfl⟩) (fun H locs B => ?_)
  refine lv_if_eq (tgt := 13) hx hb dX9_ranked_6 (by decide) (fun hc => ?_) (fun hc => ?_)
  · have hf := zif_t hc hf
    refine lv_iconst (v := (1 : Int32)) hx hb dX9_ranked_13 (by decide) ?_
    exact L14  _ _ _ _ _ _ hf B (lv_sub hl [0, 1] rfl)
  · have hf := zif_f hc hf
    refine lv_iconst (v := (0 : Int32)) hx hb dX9_ranked_9 (by decide) ?_
    refine lv_goto (tgt := 14) hx hb dX9_ranked_10 (by decide) ?_
    exact L14  _ _ _ _ _ _ hf B (lv_sub hl [0, 1] rfl)
theorem dX9_logs_0 : decode cX9_logs 0 = .ok (.bipush 19, 2) := by decide +kernel
theorem dX9_logs_2 : decode cX9_logs 2 = .ok (.istore_n 2, 1) := by decide +kernel
theorem dX9_logs_3 : decode cX9_logs 3 = .ok (.iload_n 2, 1) := by decide +kernel
theorem dX9_logs_4 : decode cX9_logs 4 = .ok (.ifCond .le 29, 3) := by decide +kernel
theorem dX9_logs_7 : decode cX9_logs 7 = .ok (.aload_n 0, 1) := by decide +kernel
theorem dX9_logs_8 : decode cX9_logs 8 = .ok (.getfield 9, 3) := by decide +kernel
theorem dX9_logs_11 : decode cX9_logs 11 = .ok (.bipush 7, 2) := by decide +kernel
theorem dX9_logs_13 : decode cX9_logs 13 = .ok (.iload_n 2, 1) := by decide +kernel
theorem dX9_logs_14 : decode cX9_logs 14 = .ok (.iadd, 1) := by decide +kernel
theorem dX9_logs_15 : decode cX9_logs 15 = .ok (.aload_n 0, 1) := by decide +kernel
theorem dX9_logs_16 : decode cX9_logs 16 = .ok (.getfield 9, 3) := by decide +kernel
theorem dX9_logs_19 : decode cX9_logs 19 = .ok (.bipush 7, 2) := by decide +kernel
theorem dX9_logs_21 : decode cX9_logs 21 = .ok (.iload_n 2, 1) := by decide +kernel
theorem dX9_logs_22 : decode cX9_logs 22 = .ok (.iadd, 1) := by decide +kernel
theorem dX9_logs_23 : decode cX9_logs 23 = .ok (.iconst 1, 1) := by decide +kernel
theorem dX9_logs_24 : decode cX9_logs 24 = .ok (.isub, 1) := by decide +kernel
theorem dX9_logs_25 : decode cX9_logs 25 = .ok (.iaload, 1) := by decide +kernel
theorem dX9_logs_26 : decode cX9_logs 26 = .ok (.iastore, 1) := by decide +kernel
theorem dX9_logs_27 : decode cX9_logs 27 = .ok (.iinc 2 (-1), 3) := by decide +kernel
theorem dX9_logs_30 : decode cX9_logs 30 = .ok (.goto (-27), 3) := by decide +kernel
theorem dX9_logs_33 : decode cX9_logs 33 = .ok (.aload_n 0, 1) := by decide +kernel
theorem dX9_logs_34 : decode cX9_logs 34 = .ok (.getfield 9, 3) := by decide +kernel
theorem dX9_logs_37 : decode cX9_logs 37 = .ok (.bipush 7, 2) := by decide +kernel
theorem dX9_logs_39 : decode cX9_logs 39 = .ok (.iload_n 1, 1) := by decide +kernel
theorem dX9_logs_40 : decode cX9_logs 40 = .ok (.iastore, 1) := by decide +kernel
theorem dX9_logs_41 : decode cX9_logs 41 = .ok (.aload_n 0, 1) := by decide +kernel
theorem dX9_logs_42 : decode cX9_logs 42 = .ok (.getfield 9, 3) := by decide +kernel
theorem dX9_logs_45 : decode cX9_logs 45 = .ok (.bipush 6, 2) := by decide +kernel
theorem dX9_logs_47 : decode cX9_logs 47 = .ok (.bipush 20, 2) := by decide +kernel
theorem dX9_logs_49 : decode cX9_logs 49 = .ok (.aload_n 0, 1) := by decide +kernel
theorem dX9_logs_50 : decode cX9_logs 50 = .ok (.getfield 9, 3) := by decide +kernel
theorem dX9_logs_53 : decode cX9_logs 53 = .ok (.bipush 6, 2) := by decide +kernel
theorem dX9_logs_55 : decode cX9_logs 55 = .ok (.iaload, 1) := by decide +kernel
theorem dX9_logs_56 : decode cX9_logs 56 = .ok (.iconst 1, 1) := by decide +kernel
theorem dX9_logs_57 : decode cX9_logs 57 = .ok (.iadd, 1) := by decide +kernel
theorem dX9_logs_58 : decode cX9_logs 58 = .ok (.invokestatic 165, 3) := by decide +kernel
theorem dX9_logs_61 : decode cX9_logs 61 = .ok (.iastore, 1) := by decide +kernel
theorem dX9_logs_62 : decode cX9_logs 62 = .ok (.return_, 1) := by decide +kernel
def rm_X9_logs : Room := { frames := 2, cells := 0, slots := 0, locals := 40 }
set_option maxHeartbeats 4000000 in
set_option maxRecDepth 100000 in
theorem c_X9_logs (l : Launch) {G : zG} {ad : Nat → Nat} {σ σ' : zs} {a1 : Int32} {r : Int32} (hf : f_X9_logs σ a1 = some (r, σ')) : xMv l yX9_logs wsX9_logs rm_X9_logs G ad σ [.ref (ad 65), .int a1] σ' := by
  intro sz nb a g hs
  refine Met.ofW (cc := cX9_logs) (maxL := 3) (ret := none) (by decide) rfl ?_
  intro p e s m args below meth c s₁ B hml hv
  obtain ⟨rfl, hsz, hv⟩ := hv
  have hx := B.exec
  have hb := B.bytes
  have hr := B.returns
  have hts := atoms_spec (ws := wsX9_logs) B.pre
  have hown : s.vm.findClass RX9 = some m.cls := findClass_of_methodNamed B.named
  have hlocks := B.notSynchronized
  subst hsz
  have B := xB_start hs hv
  have hinRX9 : ∀ w ∈ wsX90, w ∈ wsX9_logs := by decide +kernel
  have hl := lv_entry ([.ref (ad 65), .int a1]) (n := 3) (Nat.le_of_ble_eq_true rfl)
  rw [lg_entry_eq]
  generalize (lg_sl ([.ref (ad 65), .int a1]) ++ List.replicate (3 - (lg_sl ([.ref (ad 65), .int a1])).length) Slot.unset).toArray = ls at hl ⊢
  have hl : lv_has ls 3 [(0, .ref (ad 65)), (1, .int a1)] := hl
  generalize hAe : xA ad a s.heap.size = A at B ⊢
  have L3 : ∀ (n : Nat) (σ : zs) (v1 : Int32) (v2 : Int32) (H : Heap) (locs : List Loc) (ls : Array Slot), zlp2 (f_X9_logs_3) n σ v1 v2 = some (r, σ') → xB A s G ad σ H locs → lv_has ls 3 [(0, .ref (ad 65)), (1, .int v1), (2, .int v2)] → W p l e (headSpec wsX9_logs rm_X9_logs).room s m ([.ref (ad 65), .int a1] : List Value).toArray below meth c H locs 0 0 (MQ below (va_Qv (fun (u : xV) => xQ σ' u) (xPost G ad σ' A) A) ([.ref (ad 65), .int a1] : List Value).toArray s 0 0 A) (F0 m 3 ls []) := by
    intro n
    induction n with
    | zero =>
      intro σ v1 v2 H locs ls hf
      cases hf
    | succ n ih =>
      intro σ v1 v2 H locs ls hf B hl
      have hf : f_X9_logs_3 (zlp2 (f_X9_logs_3) n) σ v1 v2 = some (r, σ') := hf
      unfold f_X9_logs_3 at hf
      refine lv_iload_n hx hb dX9_logs_3 rfl (lv_at hl 2 rfl) ?_
      refine lv_if_le (tgt := 33) hx hb dX9_logs_4 (by decide) (fun hc => ?_) (fun hc => ?_)
      · have hf := zif_t hc hf
        refine lv_aload_n hx hb dX9_logs_33 rfl (lv_at hl 0 rfl) ?_
        refine x_getr hx hb hts hinRX9 hown B 65 0 66 (by decide) (by decide) (fun _ => rfl) rfl rfl (by decide) (by decide +kernel) rfl dX9_logs_34 ?_
        refine lv_bipush (v := (7 : Int32)) hx hb dX9_logs_37 (by decide) ?_
        refine lv_iload_n hx hb dX9_logs_39 rfl (lv_at hl 1 rfl) ?_
        obtain ⟨hg, hf⟩ := zg_some hf
        refine x_iast hx hb B 66 (by decide) (by decide) (fun _ => rfl) (zin_ok hg) dX9_logs_40 (fun H locs B => ?_)
        refine lv_aload_n hx hb dX9_logs_41 rfl (lv_at hl 0 rfl) ?_
        refine x_getr hx hb hts hinRX9 hown B 65 0 66 (by decide) (by decide) (fun _ => rfl) rfl rfl (by decide) (by decide +kernel) rfl dX9_logs_42 ?_
        refine lv_bipush (v := (6 : Int32)) hx hb dX9_logs_45 (by decide) ?_
        refine lv_bipush (v := (20 : Int32)) hx hb dX9_logs_47 (by decide) ?_
        refine lv_aload_n hx hb dX9_logs_49 rfl (lv_at hl 0 rfl) ?_
        refine x_getr hx hb hts hinRX9 hown B 65 0 66 (by decide) (by decide) (fun _ => rfl) rfl rfl (by decide) (by decide +kernel) rfl dX9_logs_50 ?_
        refine lv_bipush (v := (6 : Int32)) hx hb dX9_logs_53 (by decide) ?_
        obtain ⟨hg, hf⟩ := zg_some hf
        refine x_iald hx hb B 66 (by decide) (fun _ => rfl) (zin_ok hg) dX9_logs_55 ?_
        refine lv_iconst (v := (1 : Int32)) hx hb dX9_logs_56 (by decide) ?_
        refine lv_iadd hx hb dX9_logs_57 ?_
        refine va_mmin hx hb (hml.trans hl.1.symm) hown (index := 165) (hts _ (by decide +kernel)) (hts _ (by decide +kernel)) (hts _ (by decide +kernel)) (hts _ (by decide +kernel)) (Nat.le_of_ble_eq_true rfl) (Nat.le_of_ble_eq_true rfl) (Nat.le_of_ble_eq_true rfl) (Nat.le_of_ble_eq_true rfl) dX9_logs_58 ?_
        obtain ⟨hg, hf⟩ := zg_some hf
        refine x_iast hx hb B 66 (by decide) (by decide) (fun _ => rfl) (zin_ok hg) dX9_logs_61 (fun H locs B => ?_)
        refine W.widen (k := 0) (n := 0) (Nat.le_of_ble_eq_true rfl) (Nat.le_of_ble_eq_true rfl) ?_
        exact x_vret hx hb hr hlocks B hf dX9_logs_62
      · have hf := zif_f hc hf
        refine lv_aload_n hx hb dX9_logs_7 rfl (lv_at hl 0 rfl) ?_
        refine x_getr hx hb hts hinRX9 hown B 65 0 66 (by decide) (by decide) (fun _ => rfl) rfl rfl (by decide) (by decide +kernel) rfl dX9_logs_8 ?_
        refine lv_bipush (v := (7 : Int32)) hx hb dX9_logs_11 (by decide) ?_
        refine lv_iload_n hx hb dX9_logs_13 rfl (lv_at hl 2 rfl) ?_
        refine lv_iadd hx hb dX9_logs_14 ?_
        refine lv_aload_n hx hb dX9_logs_15 rfl (lv_at hl 0 rfl) ?_
        refine x_getr hx hb hts hinRX9 hown B 65 0 66 (by decide) (by decide) (fun _ => rfl) rfl rfl (by decide) (by decide +kernel) rfl dX9_logs_16 ?_
        refine lv_bipush (v := (7 : Int32)) hx hb dX9_logs_19 (by decide) ?_
        refine lv_iload_n hx hb dX9_logs_21 rfl (lv_at hl 2 rfl) ?_
        refine lv_iadd hx hb dX9_logs_22 ?_
        refine lv_iconst (v := (1 : Int32)) hx hb dX9_logs_23 (by decide) ?_
        refine lv_isub hx hb dX9_logs_24 ?_
        obtain ⟨hg, hf⟩ := zg_some hf
        refine x_iald hx hb B 66 (by decide) (fun _ => rfl) (zin_ok hg) dX9_logs_25 ?_
        obtain ⟨hg, hf⟩ := zg_some hf
        refine x_iast hx hb B 66 (by decide) (by decide) (fun _ => rfl) (zin_ok hg) dX9_logs_26 (fun H locs B => ?_)
        refine lv_iinc (v := (v2 + (-1 : Int32))) (lv' := [(2, .int (v2 + (-1 : Int32))), (0, .ref (ad 65)), (1, .int v1)]) hx hb dX9_logs_27 hl (k := 2) rfl (zc1 (by decide)) (by decide) rfl (fun ls hl => ?_)
        refine lv_goto (tgt := 3) hx hb dX9_logs_30 (by decide) ?_
        exact ih _ _ _ _ _ _ hf B (lv_sub hl [1, 2, 0] rfl)
  unfold f_X9_logs at hf
  refine lv_bipush (v := (19 : Int32)) hx hb dX9_logs_0 (by decide) ?_
  refine lv_istore_n (lv' := [(2, .int (19 : Int32)), (0, .ref (ad 65)), (1, .int a1)]) hx hb dX9_logs_2 rfl hl (by decide) rfl (fun ls hl => ?_)
  exact L3  _ _ _ _ _ _ _ hf B (lv_sub hl [1, 2, 0] rfl)
