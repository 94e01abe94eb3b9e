theorem dX7_useChain_0 : decode cX7_useChain 0 = .ok (.iconst 0, 1) := by decide +kernel
theorem dX7_useChain_1 : decode cX7_useChain 1 = .ok (.istore_n 2, 1) := by decide +kernel
theorem dX7_useChain_2 : decode cX7_useChain 2 = .ok (.iload_n 2, 1) := by decide +kernel
theorem dX7_useChain_3 : decode cX7_useChain 3 = .ok (.aload_n 0, 1) := by decide +kernel
theorem dX7_useChain_4 : decode cX7_useChain 4 = .ok (.getfield 15, 3) := by decide +kernel
theorem dX7_useChain_7 : decode cX7_useChain 7 = .ok (.iload_n 1, 1) := by decide +kernel
theorem dX7_useChain_8 : decode cX7_useChain 8 = .ok (.iaload, 1) := by decide +kernel
theorem dX7_useChain_9 : decode cX7_useChain 9 = .ok (.if_icmp .ge 29, 3) := by decide +kernel
theorem dX7_useChain_12 : decode cX7_useChain 12 = .ok (.aload_n 0, 1) := by decide +kernel
theorem dX7_useChain_13 : decode cX7_useChain 13 = .ok (.getfield 24, 3) := by decide +kernel
theorem dX7_useChain_16 : decode cX7_useChain 16 = .ok (.aload_n 0, 1) := by decide +kernel
theorem dX7_useChain_17 : decode cX7_useChain 17 = .ok (.getfield 18, 3) := by decide +kernel
theorem dX7_useChain_20 : decode cX7_useChain 20 = .ok (.iload_n 1, 1) := by decide +kernel
theorem dX7_useChain_21 : decode cX7_useChain 21 = .ok (.bipush 7, 2) := by decide +kernel
theorem dX7_useChain_23 : decode cX7_useChain 23 = .ok (.imul, 1) := by decide +kernel
theorem dX7_useChain_24 : decode cX7_useChain 24 = .ok (.iload_n 2, 1) := by decide +kernel
theorem dX7_useChain_25 : decode cX7_useChain 25 = .ok (.iadd, 1) := by decide +kernel
theorem dX7_useChain_26 : decode cX7_useChain 26 = .ok (.iaload, 1) := by decide +kernel
theorem dX7_useChain_27 : decode cX7_useChain 27 = .ok (.dup2, 1) := by decide +kernel
theorem dX7_useChain_28 : decode cX7_useChain 28 = .ok (.iaload, 1) := by decide +kernel
theorem dX7_useChain_29 : decode cX7_useChain 29 = .ok (.iconst 1, 1) := by decide +kernel
theorem dX7_useChain_30 : decode cX7_useChain 30 = .ok (.iadd, 1) := by decide +kernel
theorem dX7_useChain_31 : decode cX7_useChain 31 = .ok (.iastore, 1) := by decide +kernel
theorem dX7_useChain_32 : decode cX7_useChain 32 = .ok (.iinc 2 1, 3) := by decide +kernel
theorem dX7_useChain_35 : decode cX7_useChain 35 = .ok (.goto (-33), 3) := by decide +kernel
theorem dX7_useChain_38 : decode cX7_useChain 38 = .ok (.return_, 1) := by decide +kernel
def rm_X7_useChain : Room := { frames := 1, cells := 0, slots := 0, locals := 16 }
set_option maxHeartbeats 4000000 in
set_option maxRecDepth 100000 in
theorem c_X7_useChain (l : Launch) {G : zG} {ad : Nat → Nat} {σ σ' : zs} {a1 : Int32} {r : Int32} (hf : f_X7_useChain σ a1 = some (r, σ')) : xMv l yX7_useChain wsX7_useChain rm_X7_useChain G ad σ [.ref (ad 2), .int a1] σ' := by
  intro sz nb a g hs
  refine Met.ofW (cc := cX7_useChain) (maxL := 3) (ret := none) (by decide) rfl ?_
  intro p e s m args below meth c s₁ B hml hv
  obtain ⟨rfl, hsz, hv⟩ := hv
  have hx := B.exec
  have hb := B.bytes
  have hr := B.returns
  have hts := atoms_spec (ws := wsX7_useChain) B.pre
  have hown : s.vm.findClass RX7 = some m.cls := findClass_of_methodNamed B.named
  have hlocks := B.notSynchronized
  subst hsz
  have B := xB_start hs hv
  have hinRX7 : ∀ w ∈ wsX70, w ∈ wsX7_useChain := by decide +kernel
  have hl := lv_entry ([.ref (ad 2), .int a1]) (n := 3) (Nat.le_of_ble_eq_true rfl)
  rw [lg_entry_eq]
  generalize (lg_sl ([.ref (ad 2), .int a1]) ++ List.replicate (3 - (lg_sl ([.ref (ad 2), .int a1])).length) Slot.unset).toArray = ls at hl ⊢
  have hl : lv_has ls 3 [(0, .ref (ad 2)), (1, .int a1)] := hl
  generalize hAe : xA ad a s.heap.size = A at B ⊢
  have L2 : ∀ (n : Nat) (σ : zs) (v1 : Int32) (v2 : Int32) (H : Heap) (locs : List Loc) (ls : Array Slot), zlp2 (f_X7_useChain_2) n σ v1 v2 = some (r, σ') → xB A s G ad σ H locs → lv_has ls 3 [(0, .ref (ad 2)), (1, .int v1), (2, .int v2)] → W p l e (headSpec wsX7_useChain rm_X7_useChain).room s m ([.ref (ad 2), .int a1] : List Value).toArray below meth c H locs 0 0 (MQ below (va_Qv (fun (u : xV) => xQ σ' u) (xPost G ad σ' A) A) ([.ref (ad 2), .int a1] : List Value).toArray s 0 0 A) (F0 m 2 ls []) := by
    intro n
    induction n with
    | zero =>
      intro σ v1 v2 H locs ls hf
      cases hf
    | succ n ih =>
      intro σ v1 v2 H locs ls hf B hl
      have hf : f_X7_useChain_2 (zlp2 (f_X7_useChain_2) n) σ v1 v2 = some (r, σ') := hf
      unfold f_X7_useChain_2 at hf
      refine lv_iload_n hx hb dX7_useChain_2 rfl (lv_at hl 2 rfl) ?_
      refine lv_aload_n hx hb dX7_useChain_3 rfl (lv_at hl 0 rfl) ?_
      refine x_getr hx hb hts hinRX7 hown B 2 2 4 (by decide) (by decide) (fun _ => rfl) rfl rfl (by decide) (by decide +kernel) rfl dX7_useChain_4 ?_
      refine lv_iload_n hx hb dX7_useChain_7 rfl (lv_at hl 1 rfl) ?_
      obtain ⟨hg, hf⟩ := zg_some hf
      refine x_iald hx hb B 4 (by decide) (fun _ => rfl) (zin_ok hg) dX7_useChain_8 ?_
      refine lv_icmp_ge (tgt := 38) hx hb dX7_useChain_9 (by decide) (fun hc => ?_) (fun hc => ?_)
      · have hf := zif_t hc hf
        refine W.widen (k := 0) (n := 0) (Nat.le_of_ble_eq_true rfl) (Nat.le_of_ble_eq_true rfl) ?_
        exact x_vret hx hb hr hlocks B hf dX7_useChain_38
      · have hf := zif_f hc hf
        refine lv_aload_n hx hb dX7_useChain_12 rfl (lv_at hl 0 rfl) ?_
        refine x_getr hx hb hts hinRX7 hown B 2 5 7 (by decide) (by decide) (fun _ => rfl) rfl rfl (by decide) (by decide +kernel) rfl dX7_useChain_13 ?_
        refine lv_aload_n hx hb dX7_useChain_16 rfl (lv_at hl 0 rfl) ?_
        refine x_getr hx hb hts hinRX7 hown B 2 3 5 (by decide) (by decide) (fun _ => rfl) rfl rfl (by decide) (by decide +kernel) rfl dX7_useChain_17 ?_
        refine lv_iload_n hx hb dX7_useChain_20 rfl (lv_at hl 1 rfl) ?_
        refine lv_bipush (v := (7 : Int32)) hx hb dX7_useChain_21 (by decide) ?_
        refine lv_imul hx hb dX7_useChain_23 ?_
        refine lv_iload_n hx hb dX7_useChain_24 rfl (lv_at hl 2 rfl) ?_
        refine lv_iadd hx hb dX7_useChain_25 ?_
        obtain ⟨hg, hf⟩ := zg_some hf
        refine x_iald hx hb B 5 (by decide) (fun _ => rfl) (zin_ok hg) dX7_useChain_26 ?_
        refine lv_dup2_11 hx hb dX7_useChain_27 rfl rfl ?_
        obtain ⟨hg, hf⟩ := zg_some hf
        refine x_iald hx hb B 7 (by decide) (fun _ => rfl) (zin_ok hg) dX7_useChain_28 ?_
        refine lv_iconst (v := (1 : Int32)) hx hb dX7_useChain_29 (by decide) ?_
        refine lv_iadd hx hb dX7_useChain_30 ?_
        obtain ⟨hg, hf⟩ := zg_some hf
        refine x_iast hx hb B 7 (by decide) (by decide) (fun _ => rfl) (zin_ok hg) dX7_useChain_31 (fun H locs B => ?_)
        refine lv_iinc (v := (v2 + (1 : Int32))) (lv' := [(2, .int (v2 + (1 : Int32))), (0, .ref (ad 2)), (1, .int v1)]) hx hb dX7_useChain_32 hl (k := 2) rfl (zc1 (by decide)) (by decide) rfl (fun ls hl => ?_)
        refine lv_goto (tgt := 2) hx hb dX7_useChain_35 (by decide) ?_
        exact ih _ _ _ _ _ _ hf B (lv_sub hl [1, 2, 0] rfl)
  unfold f_X7_useChain at hf
  refine lv_iconst (v := (0 : Int32)) hx hb dX7_useChain_0 (by decide) ?_
  refine lv_istore_n (lv' := [(2, .int (0 : Int32)), (0, .ref (ad 2)), (1, .int a1)]) hx hb dX7_useChain_1 rfl hl (by decide) rfl (fun ls hl => ?_)
  exact L2  _ _ _ _ _ _ _ hf B (lv_sub hl [1, 2, 0] rfl)
theorem dX7_comesBefore_0 : decode cX7_comesBefore 0 = .ok (.aload_n 0, 1) := by decide +kernel
theorem dX7_comesBefore_1 : decode cX7_comesBefore 1 = .ok (.getfield 9, 3) := by decide +kernel
theorem dX7_comesBefore_4 : decode cX7_comesBefore 4 = .ok (.iload_n 1, 1) := by decide +kernel
theorem dX7_comesBefore_5 : decode cX7_comesBefore 5 = .ok (.iaload, 1) := by decide +kernel
theorem dX7_comesBefore_6 : decode cX7_comesBefore 6 = .ok (.aload_n 0, 1) := by decide +kernel
theorem dX7_comesBefore_7 : decode cX7_comesBefore 7 = .ok (.getfield 9, 3) := by decide +kernel
theorem dX7_comesBefore_10 : decode cX7_comesBefore 10 = .ok (.iload_n 2, 1) := by decide +kernel
theorem dX7_comesBefore_11 : decode cX7_comesBefore 11 = .ok (.iaload, 1) := by decide +kernel
theorem dX7_comesBefore_12 : decode cX7_comesBefore 12 = .ok (.if_icmp .eq 24, 3) := by decide +kernel
theorem dX7_comesBefore_15 : decode cX7_comesBefore 15 = .ok (.aload_n 0, 1) := by decide +kernel
theorem dX7_comesBefore_16 : decode cX7_comesBefore 16 = .ok (.getfield 9, 3) := by decide +kernel
theorem dX7_comesBefore_19 : decode cX7_comesBefore 19 = .ok (.iload_n 1, 1) := by decide +kernel
theorem dX7_comesBefore_20 : decode cX7_comesBefore 20 = .ok (.iaload, 1) := by decide +kernel
theorem dX7_comesBefore_21 : decode cX7_comesBefore 21 = .ok (.aload_n 0, 1) := by decide +kernel
theorem dX7_comesBefore_22 : decode cX7_comesBefore 22 = .ok (.getfield 9, 3) := by decide +kernel
theorem dX7_comesBefore_25 : decode cX7_comesBefore 25 = .ok (.iload_n 2, 1) := by decide +kernel
theorem dX7_comesBefore_26 : decode cX7_comesBefore 26 = .ok (.iaload, 1) := by decide +kernel
theorem dX7_comesBefore_27 : decode cX7_comesBefore 27 = .ok (.if_icmp .ge 7, 3) := by decide +kernel
theorem dX7_comesBefore_30 : decode cX7_comesBefore 30 = .ok (.iconst 1, 1) := by decide +kernel
theorem dX7_comesBefore_31 : decode cX7_comesBefore 31 = .ok (.goto 4, 3) := by decide +kernel
theorem dX7_comesBefore_34 : decode cX7_comesBefore 34 = .ok (.iconst 0, 1) := by decide +kernel
theorem dX7_comesBefore_35 : decode cX7_comesBefore 35 = .ok (.ireturn, 1) := by decide +kernel
theorem dX7_comesBefore_36 : decode cX7_comesBefore 36 = .ok (.aload_n 0, 1) := by decide +kernel
theorem dX7_comesBefore_37 : decode cX7_comesBefore 37 = .ok (.getfield 15, 3) := by decide +kernel
theorem dX7_comesBefore_40 : decode cX7_comesBefore 40 = .ok (.iload_n 1, 1) := by decide +kernel
theorem dX7_comesBefore_41 : decode cX7_comesBefore 41 = .ok (.iaload, 1) := by decide +kernel
theorem dX7_comesBefore_42 : decode cX7_comesBefore 42 = .ok (.aload_n 0, 1) := by decide +kernel
theorem dX7_comesBefore_43 : decode cX7_comesBefore 43 = .ok (.getfield 15, 3) := by decide +kernel
theorem dX7_comesBefore_46 : decode cX7_comesBefore 46 = .ok (.iload_n 2, 1) := by decide +kernel
theorem dX7_comesBefore_47 : decode cX7_comesBefore 47 = .ok (.iaload, 1) := by decide +kernel
theorem dX7_comesBefore_48 : decode cX7_comesBefore 48 = .ok (.if_icmp .eq 24, 3) := by decide +kernel
theorem dX7_comesBefore_51 : decode cX7_comesBefore 51 = .ok (.aload_n 0, 1) := by decide +kernel
theorem dX7_comesBefore_52 : decode cX7_comesBefore 52 = .ok (.getfield 15, 3) := by decide +kernel
theorem dX7_comesBefore_55 : decode cX7_comesBefore 55 = .ok (.iload_n 1, 1) := by decide +kernel
theorem dX7_comesBefore_56 : decode cX7_comesBefore 56 = .ok (.iaload, 1) := by decide +kernel
theorem dX7_comesBefore_57 : decode cX7_comesBefore 57 = .ok (.aload_n 0, 1) := by decide +kernel
theorem dX7_comesBefore_58 : decode cX7_comesBefore 58 = .ok (.getfield 15, 3) := by decide +kernel
theorem dX7_comesBefore_61 : decode cX7_comesBefore 61 = .ok (.iload_n 2, 1) := by decide +kernel
theorem dX7_comesBefore_62 : decode cX7_comesBefore 62 = .ok (.iaload, 1) := by decide +kernel
theorem dX7_comesBefore_63 : decode cX7_comesBefore 63 = .ok (.if_icmp .le 7, 3) := by decide +kernel
theorem dX7_comesBefore_66 : decode cX7_comesBefore 66 = .ok (.iconst 1, 1) := by decide +kernel
theorem dX7_comesBefore_67 : decode cX7_comesBefore 67 = .ok (.goto 4, 3) := by decide +kernel
theorem dX7_comesBefore_70 : decode cX7_comesBefore 70 = .ok (.iconst 0, 1) := by decide +kernel
theorem dX7_comesBefore_71 : decode cX7_comesBefore 71 = .ok (.ireturn, 1) := by decide +kernel
theorem dX7_comesBefore_72 : decode cX7_comesBefore 72 = .ok (.iload_n 1, 1) := by decide +kernel
theorem dX7_comesBefore_73 : decode cX7_comesBefore 73 = .ok (.iload_n 2, 1) := by decide +kernel
theorem dX7_comesBefore_74 : decode cX7_comesBefore 74 = .ok (.if_icmp .ge 7, 3) := by decide +kernel
theorem dX7_comesBefore_77 : decode cX7_comesBefore 77 = .ok (.iconst 1, 1) := by decide +kernel
theorem dX7_comesBefore_78 : decode cX7_comesBefore 78 = .ok (.goto 4, 3) := by decide +kernel
theorem dX7_comesBefore_81 : decode cX7_comesBefore 81 = .ok (.iconst 0, 1) := by decide +kernel
theorem dX7_comesBefore_82 : decode cX7_comesBefore 82 = .ok (.ireturn, 1) := by decide +kernel
def rm_X7_comesBefore : Room := { frames := 1, cells := 0, slots := 0, locals := 16 }
set_option maxHeartbeats 4000000 in
set_option maxRecDepth 100000 in
theorem c_X7_comesBefore (l : Launch) {G : zG} {ad : Nat → Nat} {σ σ' : zs} {a1 a2 : Int32} {r : Int32} (hf : f_X7_comesBefore σ a1 a2 = some (r, σ')) : xMi l yX7_comesBefore wsX7_comesBefore rm_X7_comesBefore G ad σ [.ref (ad 2), .int a1, .int a2] r σ' := by
  intro sz nb a g hs
  refine Met.ofW (cc := cX7_comesBefore) (maxL := 3) (ret := (some .boolean)) (by decide) rfl ?_
  intro p e s m args below meth c s₁ B hml hv
  obtain ⟨rfl, hsz, hv⟩ := hv
  have hx := B.exec
  have hb := B.bytes
  have hr := B.returns
  have hts := atoms_spec (ws := wsX7_comesBefore) B.pre
  have hown : s.vm.findClass RX7 = some m.cls := findClass_of_methodNamed B.named
  have hlocks := B.notSynchronized
  subst hsz
  have B := xB_start hs hv
  have hinRX7 : ∀ w ∈ wsX70, w ∈ wsX7_comesBefore := by decide +kernel
  have hl := lv_entry ([.ref (ad 2), .int a1, .int a2]) (n := 3) (Nat.le_of_ble_eq_true rfl)
  rw [lg_entry_eq]
  generalize (lg_sl ([.ref (ad 2), .int a1, .int a2]) ++ List.replicate (3 - (lg_sl ([.ref (ad 2), .int a1, .int a2])).length) Slot.unset).toArray = ls at hl ⊢
  have hl : lv_has ls 3 [(0, .ref (ad 2)), (1, .int a1), (2, .int a2)] := hl
  generalize hAe : xA ad a s.heap.size = A at B ⊢
  unfold f_X7_comesBefore at hf
  refine lv_aload_n hx hb dX7_comesBefore_0 rfl (lv_at hl 0 rfl) ?_
  refine x_getr hx hb hts hinRX7 hown B 2 1 3 (by decide) (by decide) (fun _ => rfl) rfl rfl (by decide) (by decide +kernel) rfl dX7_comesBefore_1 ?_
  refine lv_iload_n hx hb dX7_comesBefore_4 rfl (lv_at hl 1 rfl) ?_
  obtain ⟨hg, hf⟩ := zg_some hf
  refine x_iald hx hb B 3 (by decide) (fun _ => rfl) (zin_ok hg) dX7_comesBefore_5 ?_
  refine lv_aload_n hx hb dX7_comesBefore_6 rfl (lv_at hl 0 rfl) ?_
  refine x_getr hx hb hts hinRX7 hown B 2 1 3 (by decide) (by decide) (fun _ => rfl) rfl rfl (by decide) (by decide +kernel) rfl dX7_comesBefore_7 ?_
  refine lv_iload_n hx hb dX7_comesBefore_10 rfl (lv_at hl 2 rfl) ?_
  obtain ⟨hg, hf⟩ := zg_some hf
  refine x_iald hx hb B 3 (by decide) (fun _ => rfl) (zin_ok hg) dX7_comesBefore_11 ?_
  refine lv_icmp_eq (tgt := 36) hx hb dX7_comesBefore_12 (by decide) (fun hc => ?_) (fun hc => ?_)
  · have hf := zif_t hc hf
    refine lv_aload_n hx hb dX7_comesBefore_36 rfl (lv_at hl 0 rfl) ?_
    refine x_getr hx hb hts hinRX7 hown B 2 2 4 (by decide) (by decide) (fun _ => rfl) rfl rfl (by decide) (by decide +kernel) rfl dX7_comesBefore_37 ?_
    refine lv_iload_n hx hb dX7_comesBefore_40 rfl (lv_at hl 1 rfl) ?_
    obtain ⟨hg, hf⟩ := zg_some hf
    refine x_iald hx hb B 4 (by decide) (fun _ => rfl) (zin_ok hg) dX7_comesBefore_41 ?_
    refine lv_aload_n hx hb dX7_comesBefore_42 rfl (lv_at hl 0 rfl) ?_
    refine x_getr hx hb hts hinRX7 hown B 2 2 4 (by decide) (by decide) (fun _ => rfl) rfl rfl (by decide) (by decide +kernel) rfl dX7_comesBefore_43 ?_
    refine lv_iload_n hx hb dX7_comesBefore_46 rfl (lv_at hl 2 rfl) ?_
    obtain ⟨hg, hf⟩ := zg_some hf
    refine x_iald hx hb B 4 (by decide) (fun _ => rfl) (zin_ok hg) dX7_comesBefore_47 ?_
    refine lv_icmp_eq (tgt := 72) hx hb dX7_comesBefore_48 (by decide) (fun hc => ?_) (fun hc => ?_)
    · have hf := zif_t hc hf
      refine lv_iload_n hx hb dX7_comesBefore_72 rfl (lv_at hl 1 rfl) ?_
      refine lv_iload_n hx hb dX7_comesBefore_73 rfl (lv_at hl 2 rfl) ?_
      refine lv_icmp_ge (tgt := 81) hx hb dX7_comesBefore_74 (by decide) (fun hc => ?_) (fun hc => ?_)
      · have hf := zif_t hc hf
        refine lv_iconst (v := (0 : Int32)) hx hb dX7_comesBefore_81 (by decide) ?_
        refine W.widen (k := 0) (n := 0) (Nat.le_of_ble_eq_true rfl) (Nat.le_of_ble_eq_true rfl) ?_
        exact x_iret hx hb hr (by decide) hlocks B hf dX7_comesBefore_82
      · have hf := zif_f hc hf
        refine lv_iconst (v := (1 : Int32)) hx hb dX7_comesBefore_77 (by decide) ?_
        refine lv_goto (tgt := 82) hx hb dX7_comesBefore_78 (by decide) ?_
        refine W.widen (k := 0) (n := 0) (Nat.le_of_ble_eq_true rfl) (Nat.le_of_ble_eq_true rfl) ?_
        exact x_iret hx hb hr (by decide) hlocks B hf dX7_comesBefore_82
    · have hf := zif_f hc hf
      refine lv_aload_n hx hb dX7_comesBefore_51 rfl (lv_at hl 0 rfl) ?_
      refine x_getr hx hb hts hinRX7 hown B 2 2 4 (by decide) (by decide) (fun _ => rfl) rfl rfl (by decide) (by decide +kernel) rfl dX7_comesBefore_52 ?_
      refine lv_iload_n hx hb dX7_comesBefore_55 rfl (lv_at hl 1 rfl) ?_
      obtain ⟨hg, hf⟩ := zg_some hf
      refine x_iald hx hb B 4 (by decide) (fun _ => rfl) (zin_ok hg) dX7_comesBefore_56 ?_
      refine lv_aload_n hx hb dX7_comesBefore_57 rfl (lv_at hl 0 rfl) ?_
      refine x_getr hx hb hts hinRX7 hown B 2 2 4 (by decide) (by decide) (fun _ => rfl) rfl rfl (by decide) (by decide +kernel) rfl dX7_comesBefore_58 ?_
      refine lv_iload_n hx hb dX7_comesBefore_61 rfl (lv_at hl 2 rfl) ?_
      obtain ⟨hg, hf⟩ := zg_some hf
      refine x_iald hx hb B 4 (by decide) (fun _ => rfl) (zin_ok hg) dX7_comesBefore_62 ?_
      refine lv_icmp_le (tgt := 70) hx hb dX7_comesBefore_63 (by decide) (fun hc => ?_) (fun hc => ?_)
      · have hf := zif_t hc hf
        refine lv_iconst (v := (0 : Int32)) hx hb dX7_comesBefore_70 (by decide) ?_
        refine W.widen (k := 0) (n := 0) (Nat.le_of_ble_eq_true rfl) (Nat.le_of_ble_eq_true rfl) ?_
        exact x_iret hx hb hr (by decide) hlocks B hf dX7_comesBefore_71
      · have hf := zif_f hc hf
        refine lv_iconst (v := (1 : Int32)) hx hb dX7_comesBefore_66 (by decide) ?_
        refine lv_goto (tgt := 71) hx hb dX7_comesBefore_67 (by decide) ?_
        refine W.widen (k := 0) (n := 0) (Nat.le_of_ble_eq_true rfl) (Nat.le_of_ble_eq_true rfl) ?_
        exact x_iret hx hb hr (by decide) hlocks B hf dX7_comesBefore_71
  · have hf := zif_f hc hf
    refine lv_aload_n hx hb dX7_comesBefore_15 rfl (lv_at hl 0 rfl) ?_
    refine x_getr hx hb hts hinRX7 hown B 2 1 3 (by decide) (by decide) (fun _ => rfl) rfl rfl (by decide) (by decide +kernel) rfl dX7_comesBefore_16 ?_
    refine lv_iload_n hx hb dX7_comesBefore_19 rfl (lv_at hl 1 rfl) ?_
    obtain ⟨hg, hf⟩ := zg_some hf
    refine x_iald hx hb B 3 (by decide) (fun _ => rfl) (zin_ok hg) dX7_comesBefore_20 ?_
    refine lv_aload_n hx hb dX7_comesBefore_21 rfl (lv_at hl 0 rfl) ?_
    refine x_getr hx hb hts hinRX7 hown B 2 1 3 (by decide) (by decide) (fun _ => rfl) rfl rfl (by decide) (by decide +kernel) rfl dX7_comesBefore_22 ?_
    refine lv_iload_n hx hb dX7_comesBefore_25 rfl (lv_at hl 2 rfl) ?_
    obtain ⟨hg, hf⟩ := zg_some hf
    refine x_iald hx hb B 3 (by decide) (fun _ => rfl) (zin_ok hg) dX7_comesBefore_26 ?_
    refine lv_icmp_ge (tgt := 34) hx hb dX7_comesBefore_27 (by decide) (fun hc => ?_) (fun hc => ?_)
    · have hf := zif_t hc hf
      refine lv_iconst (v := (0 : Int32)) hx hb dX7_comesBefore_34 (by decide) ?_
      refine W.widen (k := 0) (n := 0) (Nat.le_of_ble_eq_true rfl) (Nat.le_of_ble_eq_true rfl) ?_
      exact x_iret hx hb hr (by decide) hlocks B hf dX7_comesBefore_35
    · have hf := zif_f hc hf
      refine lv_iconst (v := (1 : Int32)) hx hb dX7_comesBefore_30 (by decide) ?_
      refine lv_goto (tgt := 35) hx hb dX7_comesBefore_31 (by decide) ?_
      refine W.widen (k := 0) (n := 0) (Nat.le_of_ble_eq_true rfl) (Nat.le_of_ble_eq_true rfl) ?_
      exact x_iret hx hb hr (by decide) hlocks B hf dX7_comesBefore_35
theorem dX7_numberBefore_0 : decode cX7_numberBefore 0 = .ok (.iconst 0, 1) := by decide +kernel
theorem dX7_numberBefore_1 : decode cX7_numberBefore 1 = .ok (.istore_n 2, 1) := by decide +kernel
theorem dX7_numberBefore_2 : decode cX7_numberBefore 2 = .ok (.iconst 0, 1) := by decide +kernel
theorem dX7_numberBefore_3 : decode cX7_numberBefore 3 = .ok (.istore_n 3, 1) := by decide +kernel
theorem dX7_numberBefore_4 : decode cX7_numberBefore 4 = .ok (.iload_n 3, 1) := by decide +kernel
theorem dX7_numberBefore_5 : decode cX7_numberBefore 5 = .ok (.aload_n 0, 1) := by decide +kernel
theorem dX7_numberBefore_6 : decode cX7_numberBefore 6 = .ok (.getfield 49, 3) := by decide +kernel
theorem dX7_numberBefore_9 : decode cX7_numberBefore 9 = .ok (.if_icmp .ge 21, 3) := by decide +kernel
theorem dX7_numberBefore_12 : decode cX7_numberBefore 12 = .ok (.aload_n 0, 1) := by decide +kernel
theorem dX7_numberBefore_13 : decode cX7_numberBefore 13 = .ok (.iload_n 3, 1) := by decide +kernel
theorem dX7_numberBefore_14 : decode cX7_numberBefore 14 = .ok (.iload_n 1, 1) := by decide +kernel
theorem dX7_numberBefore_15 : decode cX7_numberBefore 15 = .ok (.invokevirtual 85, 3) := by decide +kernel
theorem dX7_numberBefore_18 : decode cX7_numberBefore 18 = .ok (.ifCond .eq 6, 3) := by decide +kernel
theorem dX7_numberBefore_21 : decode cX7_numberBefore 21 = .ok (.iinc 2 1, 3) := by decide +kernel
theorem dX7_numberBefore_24 : decode cX7_numberBefore 24 = .ok (.iinc 3 1, 3) := by decide +kernel
theorem dX7_numberBefore_27 : decode cX7_numberBefore 27 = .ok (.goto (-23), 3) := by decide +kernel
theorem dX7_numberBefore_30 : decode cX7_numberBefore 30 = .ok (.iload_n 2, 1) := by decide +kernel
theorem dX7_numberBefore_31 : decode cX7_numberBefore 31 = .ok (.ireturn, 1) := by decide +kernel
set_option maxRecDepth 20000 in
theorem ggX7_numberBefore_X7_comesBefore : GoodIn wsX7_numberBefore wsX7_comesBefore := goodIn_ca (goodIn_r _ [6, 7, 8, 9, 10, 11, 12, 13, 14, 15, 16, 17, 18, 19, 20] (by decide +kernel) (by decide +kernel)) (goodIn_sub (fun _ h => List.mem_cons_of_mem _ (List.mem_append_right _ h)) (by decide +kernel))
set_option maxRecDepth 20000 in
theorem gX7_numberBefore_X7_comesBefore : GoodIn wsX7_numberBefore (wsV RX7 85 RX7 yX7_comesBefore wsX7_comesBefore) := goodIn_app (goodIn_of _ (by decide +kernel)) ggX7_numberBefore_X7_comesBefore
def rm_X7_numberBefore : Room := { frames := 2, cells := 0, slots := 0, locals := 38 }
set_option maxHeartbeats 4000000 in
set_option maxRecDepth 100000 in
theorem c_X7_numberBefore (l : Launch) {G : zG} {ad : Nat → Nat} {σ σ' : zs} {a1 : Int32} {r : Int32} (hf : f_X7_numberBefore σ a1 = some (r, σ')) : xMi l yX7_numberBefore wsX7_numberBefore rm_X7_numberBefore G ad σ [.ref (ad 2), .int a1] r σ' := by
  intro sz nb a g hs
  refine Met.ofW (cc := cX7_numberBefore) (maxL := 4) (ret := (some .int)) (by decide) rfl ?_
  intro p e s m args below meth c s₁ B hml hv
  obtain ⟨rfl, hsz, hv⟩ := hv
  have hx := B.exec
  have hb := B.bytes
  have hr := B.returns
  have hts := atoms_spec (ws := wsX7_numberBefore) B.pre
  have hown : s.vm.findClass RX7 = some m.cls := findClass_of_methodNamed B.named
  have hlocks := B.notSynchronized
  subst hsz
  have B := xB_start hs hv
  have hinRX7 : ∀ w ∈ wsX70, w ∈ wsX7_numberBefore := by decide +kernel
  have hl := lv_entry ([.ref (ad 2), .int a1]) (n := 4) (Nat.le_of_ble_eq_true rfl)
  rw [lg_entry_eq]
  generalize (lg_sl ([.ref (ad 2), .int a1]) ++ List.replicate (4 - (lg_sl ([.ref (ad 2), .int a1])).length) Slot.unset).toArray = ls at hl ⊢
  have hl : lv_has ls 4 [(0, .ref (ad 2)), (1, .int a1)] := hl
  generalize hAe : xA ad a s.heap.size = A at B ⊢
  have L4 : ∀ (n : Nat) (σ : zs) (v1 : Int32) (v2 : Int32) (v3 : Int32) (H : Heap) (locs : List Loc) (ls : Array Slot), zlp3 (f_X7_numberBefore_4) n σ v1 v2 v3 = some (r, σ') → xB A s G ad σ H locs → lv_has ls 4 [(0, .ref (ad 2)), (1, .int v1), (2, .int v2), (3, .int v3)] → W p l e (headSpec wsX7_numberBefore rm_X7_numberBefore).room s m ([.ref (ad 2), .int a1] : List Value).toArray below meth c H locs 0 0 (MQ below (va_Qi (fun r' (u : xV) => r' = r ∧ xQ σ' u) (xPost G ad σ' A) A) ([.ref (ad 2), .int a1] : List Value).toArray s 0 0 A) (F0 m 4 ls []) := by
    intro n
    induction n with
    | zero =>
      intro σ v1 v2 v3 H locs ls hf
      cases hf
    | succ n ih =>
      intro σ v1 v2 v3 H locs ls hf B hl
      have hf : f_X7_numberBefore_4 (zlp3 (f_X7_numberBefore_4) n) σ v1 v2 v3 = some (r, σ') := hf
      unfold f_X7_numberBefore_4 at hf
      refine lv_iload_n hx hb dX7_numberBefore_4 rfl (lv_at hl 3 rfl) ?_
      refine lv_aload_n hx hb dX7_numberBefore_5 rfl (lv_at hl 0 rfl) ?_
      refine x_geti hx hb hts hinRX7 hown B 2 0 (by decide) (fun _ => rfl) rfl rfl (by decide) (by decide +kernel) rfl dX7_numberBefore_6 ?_
      refine lv_icmp_ge (tgt := 30) hx hb dX7_numberBefore_9 (by decide) (fun hc => ?_) (fun hc => ?_)
      · have hf := zif_t hc hf
        refine lv_iload_n hx hb dX7_numberBefore_30 rfl (lv_at hl 2 rfl) ?_
        refine W.widen (k := 0) (n := 0) (Nat.le_of_ble_eq_true rfl) (Nat.le_of_ble_eq_true rfl) ?_
        exact x_iret hx hb hr rfl hlocks B hf dX7_numberBefore_31
      · have hf := zif_f hc hf
        refine lv_aload_n hx hb dX7_numberBefore_12 rfl (lv_at hl 0 rfl) ?_
        refine lv_iload_n hx hb dX7_numberBefore_13 rfl (lv_at hl 3 rfl) ?_
        refine lv_iload_n hx hb dX7_numberBefore_14 rfl (lv_at hl 1 rfl) ?_
        obtain ⟨r2, σ3, hu1, hf⟩ := zb_some hf
        refine x_i B (fun nb a g hs Bz => va_runV (As := [.int v3, .int v1]) (rest := []) ⟨hx, hb, hml, hown, hts⟩ (c_X7_comesBefore l hu1 _ nb a g hs) (cwV 2 hts gX7_numberBefore_X7_comesBefore rfl rfl rfl (by decide +kernel) ⟨Nat.le_of_ble_eq_true rfl, Nat.le_of_ble_eq_true rfl⟩) (x_preV Bz (by decide) (fun _ => rfl) rfl) rfl rfl hl.1 rfl (lv_room (Nat.le_of_ble_eq_true rfl)) dX7_numberBefore_15 ⟨Nat.le_of_ble_eq_true rfl, Nat.le_of_ble_eq_true rfl⟩) (fun H locs B => ?_)
        refine lv_if_eq (tgt := 24) hx hb dX7_numberBefore_18 (by decide) (fun hc => ?_) (fun hc => ?_)
        · have hf := zif_t hc hf
          refine lv_iinc (v := (v3 + (1 : Int32))) (lv' := [(3, .int (v3 + (1 : Int32))), (0, .ref (ad 2)), (1, .int v1), (2, .int v2)]) hx hb dX7_numberBefore_24 hl (k := 3) rfl (zc1 (by decide)) (by decide) rfl (fun ls hl => ?_)
          refine lv_goto (tgt := 4) hx hb dX7_numberBefore_27 (by decide) ?_
          exact ih _ _ _ _ _ _ _ hf B (lv_sub hl [1, 2, 3, 0] rfl)
        · have hf := zif_f hc hf
          refine lv_iinc (v := (v2 + (1 : Int32))) (lv' := [(2, .int (v2 + (1 : Int32))), (0, .ref (ad 2)), (1, .int v1), (3, .int v3)]) hx hb dX7_numberBefore_21 hl (k := 2) rfl (zc1 (by decide)) (by decide) rfl (fun ls hl => ?_)
          refine lv_iinc (v := (v3 + (1 : Int32))) (lv' := [(3, .int (v3 + (1 : Int32))), (2, .int (v2 + (1 : Int32))), (0, .ref (ad 2)), (1, .int v1)]) hx hb dX7_numberBefore_24 hl (k := 3) rfl (zc1 (by decide)) (by decide) rfl (fun ls hl => ?_)
          refine lv_goto (tgt := 4) hx hb dX7_numberBefore_27 (by decide) ?_
          exact ih _ _ _ _ _ _ _ hf B (lv_sub hl [2, 3, 1, 0] rfl)
  unfold f_X7_numberBefore at hf
  refine lv_iconst (v := (0 : Int32)) hx hb dX7_numberBefore_0 (by decide) ?_
  refine lv_istore_n (lv' := [(2, .int (0 : Int32)), (0, .ref (ad 2)), (1, .int a1)]) hx hb dX7_numberBefore_1 rfl hl (by decide) rfl (fun ls hl => ?_)
  refine lv_iconst (v := (0 : Int32)) hx hb dX7_numberBefore_2 (by decide) ?_
  refine lv_istore_n (lv' := [(3, .int (0 : Int32)), (2, .int (0 : Int32)), (0, .ref (ad 2)), (1, .int a1)]) hx hb dX7_numberBefore_3 rfl hl (by decide) rfl (fun ls hl => ?_)
  exact L4  _ _ _ _ _ _ _ _ hf B (lv_sub hl [2, 3, 1, 0] rfl)
theorem dX7_withRank_0 : decode cX7_withRank 0 = .ok (.iconst 0, 1) := by decide +kernel
theorem dX7_withRank_1 : decode cX7_withRank 1 = .ok (.istore_n 2, 1) := by decide +kernel
theorem dX7_withRank_2 : decode cX7_withRank 2 = .ok (.iload_n 2, 1) := by decide +kernel
theorem dX7_withRank_3 : decode cX7_withRank 3 = .ok (.aload_n 0, 1) := by decide +kernel
theorem dX7_withRank_4 : decode cX7_withRank 4 = .ok (.getfield 49, 3) := by decide +kernel
theorem dX7_withRank_7 : decode cX7_withRank 7 = .ok (.if_icmp .ge 20, 3) := by decide +kernel
theorem dX7_withRank_10 : decode cX7_withRank 10 = .ok (.aload_n 0, 1) := by decide +kernel
theorem dX7_withRank_11 : decode cX7_withRank 11 = .ok (.iload_n 2, 1) := by decide +kernel
theorem dX7_withRank_12 : decode cX7_withRank 12 = .ok (.invokevirtual 82, 3) := by decide +kernel
theorem dX7_withRank_15 : decode cX7_withRank 15 = .ok (.iload_n 1, 1) := by decide +kernel
theorem dX7_withRank_16 : decode cX7_withRank 16 = .ok (.if_icmp .ne 5, 3) := by decide +kernel
theorem dX7_withRank_19 : decode cX7_withRank 19 = .ok (.iload_n 2, 1) := by decide +kernel
theorem dX7_withRank_20 : decode cX7_withRank 20 = .ok (.ireturn, 1) := by decide +kernel
theorem dX7_withRank_21 : decode cX7_withRank 21 = .ok (.iinc 2 1, 3) := by decide +kernel
theorem dX7_withRank_24 : decode cX7_withRank 24 = .ok (.goto (-22), 3) := by decide +kernel
theorem dX7_withRank_27 : decode cX7_withRank 27 = .ok (.iconst (-1), 1) := by decide +kernel
theorem dX7_withRank_28 : decode cX7_withRank 28 = .ok (.ireturn, 1) := by decide +kernel
set_option maxRecDepth 20000 in
theorem ggX7_withRank_X7_numberBefore : GoodIn wsX7_withRank wsX7_numberBefore := goodIn_ca (goodIn_r _ [6, 1, 7, 8, 9, 5, 10, 11, 12, 13, 14, 15, 16, 17, 18, 19, 20, 21, 22, 23, 24] (by decide +kernel) (by decide +kernel)) (goodIn_sub (fun _ h => List.mem_cons_of_mem _ (List.mem_append_right _ h)) (by decide +kernel))
set_option maxRecDepth 20000 in
theorem gX7_withRank_X7_numberBefore : GoodIn wsX7_withRank (wsV RX7 82 RX7 yX7_numberBefore wsX7_numberBefore) := goodIn_app (goodIn_of _ (by decide +kernel)) ggX7_withRank_X7_numberBefore
def rm_X7_withRank : Room := { frames := 3, cells := 0, slots := 0, locals := 61 }
set_option maxHeartbeats 4000000 in
set_option maxRecDepth 100000 in
theorem c_X7_withRank (l : Launch) {G : zG} {ad : Nat → Nat} {σ σ' : zs} {a1 : Int32} {r : Int32} (hf : f_X7_withRank σ a1 = some (r, σ')) : xMi l yX7_withRank wsX7_withRank rm_X7_withRank G ad σ [.ref (ad 2), .int a1] r σ' := by
  intro sz nb a g hs
  refine Met.ofW (cc := cX7_withRank) (maxL := 3) (ret := (some .int)) (by decide) rfl ?_
  intro p e s m args below meth c s₁ B hml hv
  obtain ⟨rfl, hsz, hv⟩ := hv
  have hx := B.exec
  have hb := B.bytes
  have hr := B.returns
  have hts := atoms_spec (ws := wsX7_withRank) B.pre
  have hown : s.vm.findClass RX7 = some m.cls := findClass_of_methodNamed B.named
  have hlocks := B.notSynchronized
  subst hsz
  have B := xB_start hs hv
  have hinRX7 : ∀ w ∈ wsX70, w ∈ wsX7_withRank := by decide +kernel
  have hl := lv_entry ([.ref (ad 2), .int a1]) (n := 3) (Nat.le_of_ble_eq_true rfl)
  rw [lg_entry_eq]
  generalize (lg_sl ([.ref (ad 2), .int a1]) ++ List.replicate (3 - (lg_sl ([.ref (ad 2), .int a1])).length) Slot.unset).toArray = ls at hl ⊢
  have hl : lv_has ls 3 [(0, .ref (ad 2)), (1, .int a1)] := hl
  generalize hAe : xA ad a s.heap.size = A at B ⊢
  have L2 : ∀ (n : Nat) (σ : zs) (v1 : Int32) (v2 : Int32) (H : Heap) (locs : List Loc) (ls : Array Slot), zlp2 (f_X7_withRank_2) n σ v1 v2 = some (r, σ') → xB A s G ad σ H locs → lv_has ls 3 [(0, .ref (ad 2)), (1, .int v1), (2, .int v2)] → W p l e (headSpec wsX7_withRank rm_X7_withRank).room s m ([.ref (ad 2), .int a1] : List Value).toArray below meth c H locs 0 0 (MQ below (va_Qi (fun r' (u : xV) => r' = r ∧ xQ σ' u) (xPost G ad σ' A) A) ([.ref (ad 2), .int a1] : List Value).toArray s 0 0 A) (F0 m 2 ls []) := by
    intro n
    induction n with
    | zero =>
      intro σ v1 v2 H locs ls hf
      cases hf
    | succ n ih =>
      intro σ v1 v2 H locs ls hf B hl
      have hf : f_X7_withRank_2 (zlp2 (f_X7_withRank_2) n) σ v1 v2 = some (r, σ') := hf
      unfold f_X7_withRank_2 at hf
      refine lv_iload_n hx hb dX7_withRank_2 rfl (lv_at hl 2 rfl) ?_
      refine lv_aload_n hx hb dX7_withRank_3 rfl (lv_at hl 0 rfl) ?_
      refine x_geti hx hb hts hinRX7 hown B 2 0 (by decide) (fun _ => rfl) rfl rfl (by decide) (by decide +kernel) rfl dX7_withRank_4 ?_
      refine lv_icmp_ge (tgt := 27) hx hb dX7_withRank_7 (by decide) (fun hc => ?_) (fun hc => ?_)
      · have hf := zif_t hc hf
        refine lv_iconst (v := (-1 : Int32)) hx hb dX7_withRank_27 (by decide) ?_
        refine W.widen (k := 0) (n := 0) (Nat.le_of_ble_eq_true rfl) (Nat.le_of_ble_eq_true rfl) ?_
        exact x_iret hx hb hr rfl hlocks B hf dX7_withRank_28
      · have hf := zif_f hc hf
        refine lv_aload_n hx hb dX7_withRank_10 rfl (lv_at hl 0 rfl) ?_
        refine lv_iload_n hx hb dX7_withRank_11 rfl (lv_at hl 2 rfl) ?_
        obtain ⟨r2, σ3, hu1, hf⟩ := zb_some hf
        refine x_i B (fun nb a g hs Bz => va_runV (As := [.int v2]) (rest := []) ⟨hx, hb, hml, hown, hts⟩ (c_X7_numberBefore l hu1 _ nb a g hs) (cwV 1 hts gX7_withRank_X7_numberBefore rfl rfl rfl (by decide +kernel) ⟨Nat.le_of_ble_eq_true rfl, Nat.le_of_ble_eq_true rfl⟩) (x_preV Bz (by decide) (fun _ => rfl) rfl) rfl rfl hl.1 rfl (lv_room (Nat.le_of_ble_eq_true rfl)) dX7_withRank_12 ⟨Nat.le_of_ble_eq_true rfl, Nat.le_of_ble_eq_true rfl⟩) (fun H locs B => ?_)
        refine lv_iload_n hx hb dX7_withRank_15 rfl (lv_at hl 1 rfl) ?_
        refine lv_icmp_ne (tgt := 21) hx hb dX7_withRank_16 (by decide) (fun hc => ?_) (fun hc => ?_)
        · have hf := zif_f hc hf
          refine lv_iinc (v := (v2 + (1 : Int32))) (lv' := [(2, .int (v2 + (1 : Int32))), (0, .ref (ad 2)), (1, .int v1)]) hx hb dX7_withRank_21 hl (k := 2) rfl (zc1 (by decide)) (by decide) rfl (fun ls hl => ?_)
          refine lv_goto (tgt := 2) hx hb dX7_withRank_24 (by decide) ?_
          exact ih _ _ _ _ _ _ hf B (lv_sub hl [1, 2, 0] rfl)
        · have hf := zif_t hc hf
          refine lv_iload_n hx hb dX7_withRank_19 rfl (lv_at hl 2 rfl) ?_
          refine W.widen (k := 0) (n := 0) (Nat.le_of_ble_eq_true rfl) (Nat.le_of_ble_eq_true rfl) ?_
          exact x_iret hx hb hr rfl hlocks B hf dX7_withRank_20
  unfold f_X7_withRank at hf
  refine lv_iconst (v := (0 : Int32)) hx hb dX7_withRank_0 (by decide) ?_
  refine lv_istore_n (lv' := [(2, .int (0 : Int32)), (0, .ref (ad 2)), (1, .int a1)]) hx hb dX7_withRank_1 rfl hl (by decide) rfl (fun ls hl => ?_)
  exact L2  _ _ _ _ _ _ _ hf B (lv_sub hl [1, 2, 0] rfl)
theorem dX7_openRights_0 : decode cX7_openRights 0 = .ok (.aload_n 0, 1) := by decide +kernel
theorem dX7_openRights_1 : decode cX7_openRights 1 = .ok (.iload_n 2, 1) := by decide +kernel
theorem dX7_openRights_2 : decode cX7_openRights 2 = .ok (.invokevirtual 74, 3) := by decide +kernel
theorem dX7_openRights_5 : decode cX7_openRights 5 = .ok (.ifCond .eq 5, 3) := by decide +kernel
theorem dX7_openRights_8 : decode cX7_openRights 8 = .ok (.iconst 0, 1) := by decide +kernel
theorem dX7_openRights_9 : decode cX7_openRights 9 = .ok (.ireturn, 1) := by decide +kernel
theorem dX7_openRights_10 : decode cX7_openRights 10 = .ok (.aload_n 0, 1) := by decide +kernel
theorem dX7_openRights_11 : decode cX7_openRights 11 = .ok (.iload_n 2, 1) := by decide +kernel
theorem dX7_openRights_12 : decode cX7_openRights 12 = .ok (.invokevirtual 95, 3) := by decide +kernel
theorem dX7_openRights_15 : decode cX7_openRights 15 = .ok (.astore 4, 2) := by decide +kernel
theorem dX7_openRights_17 : decode cX7_openRights 17 = .ok (.aload 4, 2) := by decide +kernel
theorem dX7_openRights_19 : decode cX7_openRights 19 = .ok (.getfield 99, 3) := by decide +kernel
theorem dX7_openRights_22 : decode cX7_openRights 22 = .ok (.iconst (-1), 1) := by decide +kernel
theorem dX7_openRights_23 : decode cX7_openRights 23 = .ok (.if_icmp .eq 12, 3) := by decide +kernel
theorem dX7_openRights_26 : decode cX7_openRights 26 = .ok (.iload_n 3, 1) := by decide +kernel
theorem dX7_openRights_27 : decode cX7_openRights 27 = .ok (.aload 4, 2) := by decide +kernel
theorem dX7_openRights_29 : decode cX7_openRights 29 = .ok (.getfield 99, 3) := by decide +kernel
theorem dX7_openRights_32 : decode cX7_openRights 32 = .ok (.if_icmp .ge 7, 3) := by decide +kernel
theorem dX7_openRights_35 : decode cX7_openRights 35 = .ok (.iconst 1, 1) := by decide +kernel
theorem dX7_openRights_36 : decode cX7_openRights 36 = .ok (.goto 4, 3) := by decide +kernel
theorem dX7_openRights_39 : decode cX7_openRights 39 = .ok (.iconst 0, 1) := by decide +kernel
theorem dX7_openRights_40 : decode cX7_openRights 40 = .ok (.istore 5, 2) := by decide +kernel
theorem dX7_openRights_42 : decode cX7_openRights 42 = .ok (.iload 5, 2) := by decide +kernel
theorem dX7_openRights_44 : decode cX7_openRights 44 = .ok (.ifCond .eq 35, 3) := by decide +kernel
theorem dX7_openRights_47 : decode cX7_openRights 47 = .ok (.aload 4, 2) := by decide +kernel
theorem dX7_openRights_49 : decode cX7_openRights 49 = .ok (.getfield 102, 3) := by decide +kernel
theorem dX7_openRights_52 : decode cX7_openRights 52 = .ok (.iload_n 1, 1) := by decide +kernel
theorem dX7_openRights_53 : decode cX7_openRights 53 = .ok (.invokestatic 71, 3) := by decide +kernel
theorem dX7_openRights_56 : decode cX7_openRights 56 = .ok (.ifCond .eq 23, 3) := by decide +kernel
theorem dX7_openRights_59 : decode cX7_openRights 59 = .ok (.aload 4, 2) := by decide +kernel
theorem dX7_openRights_61 : decode cX7_openRights 61 = .ok (.getfield 105, 3) := by decide +kernel
theorem dX7_openRights_64 : decode cX7_openRights 64 = .ok (.ifCond .eq 15, 3) := by decide +kernel
theorem dX7_openRights_67 : decode cX7_openRights 67 = .ok (.aload 4, 2) := by decide +kernel
theorem dX7_openRights_69 : decode cX7_openRights 69 = .ok (.invokevirtual 107, 3) := by decide +kernel
theorem dX7_openRights_72 : decode cX7_openRights 72 = .ok (.ifCond .eq 7, 3) := by decide +kernel
theorem dX7_openRights_75 : decode cX7_openRights 75 = .ok (.iconst 1, 1) := by decide +kernel
theorem dX7_openRights_76 : decode cX7_openRights 76 = .ok (.goto 4, 3) := by decide +kernel
theorem dX7_openRights_79 : decode cX7_openRights 79 = .ok (.iconst 0, 1) := by decide +kernel
theorem dX7_openRights_80 : decode cX7_openRights 80 = .ok (.istore 6, 2) := by decide +kernel
theorem dX7_openRights_82 : decode cX7_openRights 82 = .ok (.iload 6, 2) := by decide +kernel
theorem dX7_openRights_84 : decode cX7_openRights 84 = .ok (.ifCond .eq 11, 3) := by decide +kernel
theorem dX7_openRights_87 : decode cX7_openRights 87 = .ok (.aload 4, 2) := by decide +kernel
theorem dX7_openRights_89 : decode cX7_openRights 89 = .ok (.getfield 111, 3) := by decide +kernel
theorem dX7_openRights_92 : decode cX7_openRights 92 = .ok (.goto 4, 3) := by decide +kernel
theorem dX7_openRights_95 : decode cX7_openRights 95 = .ok (.iconst 0, 1) := by decide +kernel
theorem dX7_openRights_96 : decode cX7_openRights 96 = .ok (.ireturn, 1) := by decide +kernel
set_option maxRecDepth 20000 in
theorem ggX7_openRights_X7_isEnded : GoodIn wsX7_openRights wsX7_isEnded := goodIn_ca (goodIn_r _ [9, 10, 11, 12, 61, 62, 63, 64, 65, 66, 67, 68, 69, 70, 71, 72] (by decide +kernel) (by decide +kernel)) (goodIn_sub (fun _ h => List.mem_cons_of_mem _ (List.mem_append_right _ h)) (by decide +kernel))
set_option maxRecDepth 20000 in
theorem gX7_openRights_X7_isEnded : GoodIn wsX7_openRights (wsV RX7 74 RX7 yX7_isEnded wsX7_isEnded) := goodIn_app (goodIn_of _ (by decide +kernel)) ggX7_openRights_X7_isEnded
set_option maxRecDepth 20000 in
theorem ggX7_openRights_X7_limitsOf : GoodIn wsX7_openRights wsX7_limitsOf := goodIn_ca (goodIn_r _ [16, 17, 10, 12, 18, 19, 20, 21, 22, 23, 24, 25, 26, 27, 28, 29, 30, 31, 32, 33, 34, 35, 36, 37, 38, 39, 40, 41, 42, 43, 44, 45, 46, 47, 61, 62, 63, 64, 65, 66, 67, 68, 69, 70, 71, 72, 55, 56, 57, 58, 59, 60] (by decide +kernel) (by decide +kernel)) (goodIn_sub (fun _ h => List.mem_cons_of_mem _ (List.mem_append_right _ h)) (by decide +kernel))
set_option maxRecDepth 20000 in
theorem gX7_openRights_X7_limitsOf : GoodIn wsX7_openRights (wsV RX7 95 RX7 yX7_limitsOf wsX7_limitsOf) := goodIn_app (goodIn_of _ (by decide +kernel)) ggX7_openRights_X7_limitsOf
set_option maxRecDepth 20000 in
theorem ggX7_openRights_X8_hasBit : GoodIn wsX7_openRights wsX8_hasBit := goodIn_r _ [50] (by decide +kernel) (by decide +kernel)
set_option maxRecDepth 20000 in
theorem gX7_openRights_X8_hasBit_n71 : GoodIn wsX7_openRights (wsX8_hasBit) := ggX7_openRights_X8_hasBit
set_option maxRecDepth 20000 in
theorem ggX7_openRights_X3_hasArgument : GoodIn wsX7_openRights wsX3_hasArgument := goodIn_r _ [54, 32, 33, 55, 56, 57, 58, 59, 60] (by decide +kernel) (by decide +kernel)
set_option maxRecDepth 20000 in
theorem gX7_openRights_X3_hasArgument : GoodIn wsX7_openRights (wsV RX7 107 RX3 yX3_hasArgument wsX3_hasArgument) := goodIn_app (goodIn_of _ (by decide +kernel)) ggX7_openRights_X3_hasArgument
def rm_X7_openRights : Room := { frames := 4, cells := 0, slots := 0, locals := 89 }
set_option maxHeartbeats 4000000 in
set_option maxRecDepth 100000 in
theorem c_X7_openRights (l : Launch) {G : zG} {ad : Nat → Nat} {σ σ' : zs} {a1 a2 a3 : Int32} {r : Int32} (hf : f_X7_openRights σ a1 a2 a3 = some (r, σ')) : xMi l yX7_openRights wsX7_openRights rm_X7_openRights G ad σ [.ref (ad 2), .int a1, .int a2, .int a3] r σ' := by
  intro sz nb a g hs
  refine Met.ofW (cc := cX7_openRights) (maxL := 7) (ret := (some .int)) (by decide) rfl ?_
  intro p e s m args below meth c s₁ B hml hv
  obtain ⟨rfl, hsz, hv⟩ := hv
  have hx := B.exec
  have hb := B.bytes
  have hr := B.returns
  have hts := atoms_spec (ws := wsX7_openRights) B.pre
  have hown : s.vm.findClass RX7 = some m.cls := findClass_of_methodNamed B.named
  have hlocks := B.notSynchronized
  subst hsz
  have B := xB_start hs hv
  have hinRX3 : ∀ w ∈ wsX30, w ∈ wsX7_openRights := by decide +kernel
  have hl := lv_entry ([.ref (ad 2), .int a1, .int a2, .int a3]) (n := 7) (Nat.le_of_ble_eq_true rfl)
  rw [lg_entry_eq]
  generalize (lg_sl ([.ref (ad 2), .int a1, .int a2, .int a3]) ++ List.replicate (7 - (lg_sl ([.ref (ad 2), .int a1, .int a2, .int a3])).length) Slot.unset).toArray = ls at hl ⊢
  have hl : lv_has ls 7 [(0, .ref (ad 2)), (1, .int a1), (2, .int a2), (3, .int a3)] := hl
  generalize hAe : xA ad a s.heap.size = A at B ⊢
  have L80 : ∀ (σ : zs) (s0 : Int32) (H : Heap) (locs : List Loc) (ls : Array Slot), f_X7_openRights_80 σ s0 = some (r, σ') → xB A s G ad σ H locs → lv_has ls 7 [(4, .ref (ad 13))] → W p l e (headSpec wsX7_openRights rm_X7_openRights).room s m ([.ref (ad 2), .int a1, .int a2, .int a3] : List Value).toArray below meth c H locs 0 0 (MQ below (va_Qi (fun r' (u : xV) => r' = r ∧ xQ σ' u) (xPost G ad σ' A) A) ([.ref (ad 2), .int a1, .int a2, .int a3] : List Value).toArray s 0 0 A) (F0 m 80 ls [.int s0]) := by
    intro σ s0 H locs ls hf B hl
    unfold f_X7_openRights_80 at hf
    refine lv_istore (lv' := [(6, .int s0), (4, .ref (ad 13))]) hx hb dX7_openRights_80 hl (by decide) rfl (fun ls hl => ?_)
    refine lv_iload hx hb dX7_openRights_82 (lv_at hl 0 rfl) ?_
    refine lv_if_eq (tgt := 95) hx hb dX7_openRights_84 (by decide) (fun hc => ?_) (fun hc => ?_)
    · have hf := zif_t hc hf
      refine lv_iconst (v := (0 : Int32)) hx hb dX7_openRights_95 (by decide) ?_
      refine W.widen (k := 0) (n := 0) (Nat.le_of_ble_eq_true rfl) (Nat.le_of_ble_eq_true rfl) ?_
      exact x_iret hx hb hr rfl hlocks B hf dX7_openRights_96
    · have hf := zif_f hc hf
      refine lv_aload hx hb dX7_openRights_87 (lv_at hl 1 rfl) ?_
      refine x_geti hx hb hts hinRX3 hown B 13 0 (by decide) (fun _ => rfl) rfl rfl (by decide) (by decide +kernel) rfl dX7_openRights_89 ?_
      refine lv_goto (tgt := 96) hx hb dX7_openRights_92 (by decide) ?_
      refine W.widen (k := 0) (n := 0) (Nat.le_of_ble_eq_true rfl) (Nat.le_of_ble_eq_true rfl) ?_
      exact x_iret hx hb hr rfl hlocks B hf dX7_openRights_96
  have L40 : ∀ (σ : zs) (v1 : Int32) (s0 : Int32) (H : Heap) (locs : List Loc) (ls : Array Slot), f_X7_openRights_40 σ v1 s0 = some (r, σ') → xB A s G ad σ H locs → lv_has ls 7 [(1, .int v1), (4, .ref (ad 13))] → W p l e (headSpec wsX7_openRights rm_X7_openRights).room s m ([.ref (ad 2), .int a1, .int a2, .int a3] : List Value).toArray below meth c H locs 0 0 (MQ below (va_Qi (fun r' (u : xV) => r' = r ∧ xQ σ' u) (xPost G ad σ' A) A) ([.ref (ad 2), .int a1, .int a2, .int a3] : List Value).toArray s 0 0 A) (F0 m 40 ls [.int s0]) := by
    intro σ v1 s0 H locs ls hf B hl
    unfold f_X7_openRights_40 at hf
    refine lv_istore (lv' := [(5, .int s0), (1, .int v1), (4, .ref (ad 13))]) hx hb dX7_openRights_40 hl (by decide) rfl (fun ls hl => ?_)
    refine lv_iload hx hb dX7_openRights_42 (lv_at hl 0 rfl) ?_
    refine lv_if_eq (tgt := 79) hx hb dX7_openRights_44 (by decide) (fun hc => ?_) (fun hc => ?_)
    · have hf := zif_t hc hf
      refine lv_iconst (v := (0 : Int32)) hx hb dX7_openRights_79 (by decide) ?_
      exact L80  _ _ _ _ _ hf B (lv_sub hl [2] rfl)
    · have hf := zif_f hc hf
      refine lv_aload hx hb dX7_openRights_47 (lv_at hl 2 rfl) ?_
      refine x_geti hx hb hts hinRX3 hown B 13 2 (by decide) (fun _ => rfl) rfl rfl (by decide) (by decide +kernel) rfl dX7_openRights_49 ?_
      refine lv_iload_n hx hb dX7_openRights_52 rfl (lv_at hl 1 rfl) ?_
      obtain ⟨r8, σ9, hu7, hf⟩ := zb_some hf
      refine x_i B (fun nb a g hs Bz => va_runSN (As := [.int (σ 13 2), .int v1]) (rest := []) ⟨hx, hb, hml, hown, hts⟩ (c_X8_hasBit l hu7 _ nb a g hs) ⟨va_cnB 2 hts gX7_openRights_X8_hasBit_n71 rfl rfl rfl (x_nest B (q := (RX7, 71, yX8_hasBit)) (by decide +kernel)) (hts (.initialized RX8) (by decide +kernel)) (by decide +kernel) ⟨Nat.le_of_ble_eq_true rfl, Nat.le_of_ble_eq_true rfl⟩, hts (.static yX8_hasBit) (by decide +kernel), trivial⟩ (z_preS Bz) rfl rfl hl.1 rfl (lv_room (Nat.le_of_ble_eq_true rfl)) dX7_openRights_53 ⟨Nat.le_of_ble_eq_true rfl, Nat.le_of_ble_eq_true rfl⟩) (fun H locs B => ?_)
      refine lv_if_eq (tgt := 79) hx hb dX7_openRights_56 (by decide) (fun hc => ?_) (fun hc => ?_)
      · have hf := zif_t hc hf
        refine lv_iconst (v := (0 : Int32)) hx hb dX7_openRights_79 (by decide) ?_
        exact L80  _ _ _ _ _ hf B (lv_sub hl [2] rfl)
      · have hf := zif_f hc hf
        refine lv_aload hx hb dX7_openRights_59 (lv_at hl 2 rfl) ?_
        refine x_geti hx hb hts hinRX3 hown B 13 3 (by decide) (fun _ => rfl) rfl rfl (by decide) (by decide +kernel) rfl dX7_openRights_61 ?_
        refine lv_if_eq (tgt := 79) hx hb dX7_openRights_64 (by decide) (fun hc => ?_) (fun hc => ?_)
        · have hf := zif_t hc hf
          refine lv_iconst (v := (0 : Int32)) hx hb dX7_openRights_79 (by decide) ?_
          exact L80  _ _ _ _ _ hf B (lv_sub hl [2] rfl)
        · have hf := zif_f hc hf
          refine lv_aload hx hb dX7_openRights_67 (lv_at hl 2 rfl) ?_
          obtain ⟨r11, σ12, hu10, hf⟩ := zb_some hf
          refine x_i B (fun nb a g hs Bz => va_runV (As := []) (rest := []) ⟨hx, hb, hml, hown, hts⟩ (c_X3_hasArgument l hu10 _ nb a g hs) (cwV 0 hts gX7_openRights_X3_hasArgument rfl rfl rfl (by decide +kernel) ⟨Nat.le_of_ble_eq_true rfl, Nat.le_of_ble_eq_true rfl⟩) (x_preV Bz (by decide) (fun _ => rfl) rfl) rfl rfl hl.1 rfl (lv_room (Nat.le_of_ble_eq_true rfl)) dX7_openRights_69 ⟨Nat.le_of_ble_eq_true rfl, Nat.le_of_ble_eq_true rfl⟩) (fun H locs B => ?_)
          refine lv_if_eq (tgt := 79) hx hb dX7_openRights_72 (by decide) (fun hc => ?_) (fun hc => ?_)
          · have hf := zif_t hc hf
            refine lv_iconst (v := (0 : Int32)) hx hb dX7_openRights_79 (by decide) ?_
            exact L80  _ _ _ _ _ hf B (lv_sub hl [2] rfl)
          · have hf := zif_f hc hf
            refine lv_iconst (v := (1 : Int32)) hx hb dX7_openRights_75 (by decide) ?_
            refine lv_goto (tgt := 80) hx hb dX7_openRights_76 (by decide) ?_
            exact L80  _ _ _ _ _ hf B (lv_sub hl [2] rfl)
  unfold f_X7_openRights at hf
  refine lv_aload_n hx hb dX7_openRights_0 rfl (lv_at hl 0 rfl) ?_
  refine lv_iload_n hx hb dX7_openRights_1 rfl (lv_at hl 2 rfl) ?_
  obtain ⟨r2, σ3, hu1, hf⟩ := zb_some hf
  refine x_i B (fun nb a g hs Bz => va_runV (As := [.int a2]) (rest := []) ⟨hx, hb, hml, hown, hts⟩ (c_X7_isEnded l hu1 _ nb a g hs) (cwV 1 hts gX7_openRights_X7_isEnded rfl rfl rfl (by decide +kernel) ⟨Nat.le_of_ble_eq_true rfl, Nat.le_of_ble_eq_true rfl⟩) (x_preV Bz (by decide) (fun _ => rfl) rfl) rfl rfl hl.1 rfl (lv_room (Nat.le_of_ble_eq_true rfl)) dX7_openRights_2 ⟨Nat.le_of_ble_eq_true rfl, Nat.le_of_ble_eq_true rfl⟩) (fun H locs B => ?_)
  refine lv_if_eq (tgt := 10) hx hb dX7_openRights_5 (by decide) (fun hc => ?_) (fun hc => ?_)
  · have hf := zif_t hc hf
    refine lv_aload_n hx hb dX7_openRights_10 rfl (lv_at hl 0 rfl) ?_
    refine lv_iload_n hx hb dX7_openRights_11 rfl (lv_at hl 2 rfl) ?_
    obtain ⟨r5, σ6, hu4, hf⟩ := zb_some hf
    refine x_r B (fun nb a g hs Bz => va_runV (As := [.int a2]) (rest := []) ⟨hx, hb, hml, hown, hts⟩ (c_X7_limitsOf l hu4 _ nb a g hs) (cwV 1 hts gX7_openRights_X7_limitsOf rfl rfl rfl (by decide +kernel) ⟨Nat.le_of_ble_eq_true rfl, Nat.le_of_ble_eq_true rfl⟩) (x_preV Bz (by decide) (fun _ => rfl) rfl) rfl rfl hl.1 rfl (lv_room (Nat.le_of_ble_eq_true rfl)) dX7_openRights_12 ⟨Nat.le_of_ble_eq_true rfl, Nat.le_of_ble_eq_true rfl⟩) (fun H locs B => ?_)
    refine lv_astore (lv' := [(4, .ref (ad 13)), (0, .ref (ad 2)), (1, .int a1), (2, .int a2), (3, .int a3)]) hx hb dX7_openRights_15 hl (by decide) rfl (fun ls hl => ?_)
    refine lv_aload hx hb dX7_openRights_17 (lv_at hl 0 rfl) ?_
    refine x_geti hx hb hts hinRX3 hown B 13 1 (by decide) (fun _ => rfl) rfl rfl (by decide) (by decide +kernel) rfl dX7_openRights_19 ?_
    refine lv_iconst (v := (-1 : Int32)) hx hb dX7_openRights_22 (by decide) ?_
    refine lv_icmp_eq (tgt := 35) hx hb dX7_openRights_23 (by decide) (fun hc => ?_) (fun hc => ?_)
    · have hf := zif_t hc hf
      refine lv_iconst (v := (1 : Int32)) hx hb dX7_openRights_35 (by decide) ?_
      refine lv_goto (tgt := 40) hx hb dX7_openRights_36 (by decide) ?_
      exact L40  _ _ _ _ _ _ hf B (lv_sub hl [2, 0] rfl)
    · have hf := zif_f hc hf
      refine lv_iload_n hx hb dX7_openRights_26 rfl (lv_at hl 4 rfl) ?_
      refine lv_aload hx hb dX7_openRights_27 (lv_at hl 0 rfl) ?_
      refine x_geti hx hb hts hinRX3 hown B 13 1 (by decide) (fun _ => rfl) rfl rfl (by decide) (by decide +kernel) rfl dX7_openRights_29 ?_
      refine lv_icmp_ge (tgt := 39) hx hb dX7_openRights_32 (by decide) (fun hc => ?_) (fun hc => ?_)
      · have hf := zif_t hc hf
        refine lv_iconst (v := (0 : Int32)) hx hb dX7_openRights_39 (by decide) ?_
        exact L40  _ _ _ _ _ _ hf B (lv_sub hl [2, 0] rfl)
      · have hf := zif_f hc hf
        refine lv_iconst (v := (1 : Int32)) hx hb dX7_openRights_35 (by decide) ?_
        refine lv_goto (tgt := 40) hx hb dX7_openRights_36 (by decide) ?_
        exact L40  _ _ _ _ _ _ hf B (lv_sub hl [2, 0] rfl)
  · have hf := zif_f hc hf
    refine lv_iconst (v := (0 : Int32)) hx hb dX7_openRights_8 (by decide) ?_
    refine W.widen (k := 0) (n := 0) (Nat.le_of_ble_eq_true rfl) (Nat.le_of_ble_eq_true rfl) ?_
    exact x_iret hx hb hr rfl hlocks B hf dX7_openRights_9
theorem dX8_needSubject_0 : decode cX8_needSubject 0 = .ok (.iload_n 0, 1) := by decide +kernel
theorem dX8_needSubject_1 : decode cX8_needSubject 1 = .ok (.ifCond .lt 13, 3) := by decide +kernel
theorem dX8_needSubject_4 : decode cX8_needSubject 4 = .ok (.iload_n 0, 1) := by decide +kernel
theorem dX8_needSubject_5 : decode cX8_needSubject 5 = .ok (.bipush 6, 2) := by decide +kernel
theorem dX8_needSubject_7 : decode cX8_needSubject 7 = .ok (.if_icmp .ge 7, 3) := by decide +kernel
theorem dX8_needSubject_10 : decode cX8_needSubject 10 = .ok (.iconst 1, 1) := by decide +kernel
theorem dX8_needSubject_11 : decode cX8_needSubject 11 = .ok (.goto 4, 3) := by decide +kernel
theorem dX8_needSubject_14 : decode cX8_needSubject 14 = .ok (.iconst 0, 1) := by decide +kernel
theorem dX8_needSubject_15 : decode cX8_needSubject 15 = .ok (.invokestatic 186, 3) := by decide +kernel
theorem dX8_needSubject_18 : decode cX8_needSubject 18 = .ok (.return_, 1) := by decide +kernel
set_option maxRecDepth 20000 in
theorem ggX8_needSubject_X8_needIndex : GoodIn wsX8_needSubject wsX8_needIndex := goodIn_ca (goodIn_r _ [4, 5, 6] (by decide +kernel) (by decide +kernel)) (goodIn_sub (fun _ h => List.mem_cons_of_mem _ (List.mem_append_right _ h)) (by decide +kernel))
set_option maxRecDepth 20000 in
theorem gX8_needSubject_X8_needIndex : GoodIn wsX8_needSubject (va_wsS RX8 186 yX8_needIndex wsX8_needIndex) := goodIn_app (goodIn_of _ (by decide +kernel)) ggX8_needSubject_X8_needIndex
def rm_X8_needSubject : Room := { frames := 9, cells := 1, slots := 6, locals := 220 }
set_option maxHeartbeats 4000000 in
set_option maxRecDepth 100000 in
theorem c_X8_needSubject (l : Launch) (hfl : l.stackTraces = false) {G : zG} {ad : Nat → Nat} {σ σ' : zs} {a0 : Int32} {ex : Nat} {r : Int32} (hf : f_X8_needSubject σ a0 = some (ex, r, σ')) : xXv l yX8_needSubject wsX8_needSubject rm_X8_needSubject G ad σ [.int a0] ex σ' := by
  intro sz nb a g hs
  refine vx_ofW (cc := cX8_needSubject) (maxL := 1) (ret := none) (by decide) rfl ?_
  intro p e s m args below meth c s₁ B hml hno hv
  obtain ⟨rfl, hsz, hv⟩ := hv
  have hx := B.exec
  have hb := B.bytes
  have hr := B.returns
  have hts := atoms_spec (ws := wsX8_needSubject) B.pre
  have hown : s.vm.findClass RX8 = some m.cls := findClass_of_methodNamed B.named
  have hlocks := B.notSynchronized
  subst hsz
  have B := xB_start hs hv
  have hl := lv_entry ([.int a0]) (n := 1) (Nat.le_of_ble_eq_true rfl)
  rw [lg_entry_eq]
  generalize (lg_sl ([.int a0]) ++ List.replicate (1 - (lg_sl ([.int a0])).length) Slot.unset).toArray = ls at hl ⊢
  have hl : lv_has ls 1 [(0, .int a0)] := hl
  generalize hAe : xA ad a s.heap.size = A at B ⊢
  have L15 : ∀ (σ : zs) (s0 : Int32) (H : Heap) (locs : List Loc) (ls : Array Slot), f_X8_needSubject_15 σ s0 = some (ex, r, σ') → xB A s G ad σ H locs → lv_has ls 1 [] → W p l e (headSpec wsX8_needSubject rm_X8_needSubject).room s m ([.int a0] : List Value).toArray below meth c H locs 0 0 (vx_MQ below (va_Qv (fun (u : xV) => ex = 0 ∧ xQ σ' u) (xPost G ad σ' A) A) (xXC G ad ex σ' A) ([.int a0] : List Value).toArray s 1 6 A) (F0 m 15 ls [.int s0]) := by
    intro σ s0 H locs ls hf B hl
    unfold f_X8_needSubject_15 at hf
    obtain ⟨u1, r2, σ3, hu1, hf⟩ := zx_some hf
    refine x_xv B (fun nb a g hs Bz => vx_runS (As := [.int s0]) (rest := []) ⟨hx, hb, hml, hown, hts⟩ (c_X8_needIndex l hfl hu1 _ nb a g hs) (va_cwS 1 hts gX8_needSubject_X8_needIndex rfl rfl rfl (by decide +kernel) ⟨Nat.le_of_ble_eq_true rfl, Nat.le_of_ble_eq_true rfl⟩) (z_preS Bz) rfl rfl hl.1 rfl (lv_room (Nat.le_of_ble_eq_true rfl)) dX8_needSubject_15 ⟨Nat.le_of_ble_eq_true rfl, Nat.le_of_ble_eq_true rfl⟩) (fun H locs ce q9 h0 B k1 k2 k3 => ?_) (fun H locs h0 B => ?_)
    · exact x_xout hno hlocks (zx_no hf h0) h0 B k1 k2 k3 (Nat.le_of_ble_eq_true rfl) (Nat.le_of_ble_eq_true rfl)
    have hf := zx_ok hf h0
    refine W.widen (k := 1) (n := 6) (Nat.le_of_ble_eq_true rfl) (Nat.le_of_ble_eq_true rfl) ?_
    exact x_xvret hx hb hr hlocks B hf dX8_needSubject_18
  unfold f_X8_needSubject at hf
  refine lv_iload_n hx hb dX8_needSubject_0 rfl (lv_at hl 0 rfl) ?_
  refine lv_if_lt (tgt := 14) hx hb dX8_needSubject_1 (by decide) (fun hc => ?_) (fun hc => ?_)
  · have hf := zif_t hc hf
    refine lv_iconst (v := (0 : Int32)) hx hb dX8_needSubject_14 (by decide) ?_
    exact L15  _ _ _ _ _ hf B (lv_sub hl [] rfl)
  · have hf := zif_f hc hf
    refine lv_iload_n hx hb dX8_needSubject_4 rfl (lv_at hl 0 rfl) ?_
    refine lv_bipush (v := (6 : Int32)) hx hb dX8_needSubject_5 (by decide) ?_
    refine lv_icmp_ge (tgt := 14) hx hb dX8_needSubject_7 (by decide) (fun hc => ?_) (fun hc => ?_)
    · have hf := zif_t hc hf
      refine lv_iconst (v := (0 : Int32)) hx hb dX8_needSubject_14 (by decide) ?_
      exact L15  _ _ _ _ _ hf B (lv_sub hl [] rfl)
    · have hf := zif_f hc hf
      refine lv_iconst (v := (1 : Int32)) hx hb dX8_needSubject_10 (by decide) ?_
      refine lv_goto (tgt := 15) hx hb dX8_needSubject_11 (by decide) ?_
      exact L15  _ _ _ _ _ hf B (lv_sub hl [] rfl)
theorem dX8_needObject_0 : decode cX8_needObject 0 = .ok (.iload_n 0, 1) := by decide +kernel
theorem dX8_needObject_1 : decode cX8_needObject 1 = .ok (.ifCond .lt 13, 3) := by decide +kernel
theorem dX8_needObject_4 : decode cX8_needObject 4 = .ok (.iload_n 0, 1) := by decide +kernel
theorem dX8_needObject_5 : decode cX8_needObject 5 = .ok (.bipush 12, 2) := by decide +kernel
theorem dX8_needObject_7 : decode cX8_needObject 7 = .ok (.if_icmp .ge 7, 3) := by decide +kernel
theorem dX8_needObject_10 : decode cX8_needObject 10 = .ok (.iconst 1, 1) := by decide +kernel
theorem dX8_needObject_11 : decode cX8_needObject 11 = .ok (.goto 4, 3) := by decide +kernel
theorem dX8_needObject_14 : decode cX8_needObject 14 = .ok (.iconst 0, 1) := by decide +kernel
theorem dX8_needObject_15 : decode cX8_needObject 15 = .ok (.invokestatic 186, 3) := by decide +kernel
theorem dX8_needObject_18 : decode cX8_needObject 18 = .ok (.return_, 1) := by decide +kernel
set_option maxRecDepth 20000 in
theorem ggX8_needObject_X8_needIndex : GoodIn wsX8_needObject wsX8_needIndex := goodIn_ca (goodIn_r _ [4, 5, 6] (by decide +kernel) (by decide +kernel)) (goodIn_sub (fun _ h => List.mem_cons_of_mem _ (List.mem_append_right _ h)) (by decide +kernel))
set_option maxRecDepth 20000 in
theorem gX8_needObject_X8_needIndex : GoodIn wsX8_needObject (va_wsS RX8 186 yX8_needIndex wsX8_needIndex) := goodIn_app (goodIn_of _ (by decide +kernel)) ggX8_needObject_X8_needIndex
def rm_X8_needObject : Room := { frames := 9, cells := 1, slots := 6, locals := 220 }
set_option maxHeartbeats 4000000 in
set_option maxRecDepth 100000 in
theorem c_X8_needObject (l : Launch) (hfl : l.stackTraces = false) {G : zG} {ad : Nat → Nat} {σ σ' : zs} {a0 : Int32} {ex : Nat} {r : Int32} (hf : f_X8_needObject σ a0 = some (ex, r, σ')) : xXv l yX8_needObject wsX8_needObject rm_X8_needObject G ad σ [.int a0] ex σ' := by
  intro sz nb a g hs
  refine vx_ofW (cc := cX8_needObject) (maxL := 1) (ret := none) (by decide) rfl ?_
  intro p e s m args below meth c s₁ B hml hno hv
  obtain ⟨rfl, hsz, hv⟩ := hv
  have hx := B.exec
  have hb := B.bytes
  have hr := B.returns
  have hts := atoms_spec (ws := wsX8_needObject) B.pre
  have hown : s.vm.findClass RX8 = some m.cls := findClass_of_methodNamed B.named
  have hlocks := B.notSynchronized
  subst hsz
  have B := xB_start hs hv
  have hl := lv_entry ([.int a0]) (n := 1) (Nat.le_of_ble_eq_true rfl)
  rw [lg_entry_eq]
  generalize (lg_sl ([.int a0]) ++ List.replicate (1 - (lg_sl ([.int a0])).length) Slot.unset).toArray = ls at hl ⊢
  have hl : lv_has ls 1 [(0, .int a0)] := hl
  generalize hAe : xA ad a s.heap.size = A at B ⊢
  have L15 : ∀ (σ : zs) (s0 : Int32) (H : Heap) (locs : List Loc) (ls : Array Slot), f_X8_needObject_15 σ s0 = some (ex, r, σ') → xB A s G ad σ H locs → lv_has ls 1 [] → W p l e (headSpec wsX8_needObject rm_X8_needObject).room s m ([.int a0] : List Value).toArray below meth c H locs 0 0 (vx_MQ below (va_Qv (fun (u : xV) => ex = 0 ∧ xQ σ' u) (xPost G ad σ' A) A) (xXC G ad ex σ' A) ([.int a0] : List Value).toArray s 1 6 A) (F0 m 15 ls [.int s0]) := by
    intro σ s0 H locs ls hf B hl
    unfold f_X8_needObject_15 at hf
    obtain ⟨u1, r2, σ3, hu1, hf⟩ := zx_some hf
    refine x_xv B (fun nb a g hs Bz => vx_runS (As := [.int s0]) (rest := []) ⟨hx, hb, hml, hown, hts⟩ (c_X8_needIndex l hfl hu1 _ nb a g hs) (va_cwS 1 hts gX8_needObject_X8_needIndex rfl rfl rfl (by decide +kernel) ⟨Nat.le_of_ble_eq_true rfl, Nat.le_of_ble_eq_true rfl⟩) (z_preS Bz) rfl rfl hl.1 rfl (lv_room (Nat.le_of_ble_eq_true rfl)) dX8_needObject_15 ⟨Nat.le_of_ble_eq_true rfl, Nat.le_of_ble_eq_true rfl⟩) (fun H locs ce q9 h0 B k1 k2 k3 => ?_) (fun H locs h0 B => ?_)
    · exact x_xout hno hlocks (zx_no hf h0) h0 B k1 k2 k3 (Nat.le_of_ble_eq_true rfl) (Nat.le_of_ble_eq_true rfl)
    have hf := zx_ok hf h0
    refine W.widen (k := 1) (n := 6) (Nat.le_of_ble_eq_true rfl) (Nat.le_of_ble_eq_true rfl) ?_
    exact x_xvret hx hb hr hlocks B hf dX8_needObject_18
  unfold f_X8_needObject at hf
  refine lv_iload_n hx hb dX8_needObject_0 rfl (lv_at hl 0 rfl) ?_
  refine lv_if_lt (tgt := 14) hx hb dX8_needObject_1 (by decide) (fun hc => ?_) (fun hc => ?_)
  · have hf := zif_t hc hf
    refine lv_iconst (v := (0 : Int32)) hx hb dX8_needObject_14 (by decide) ?_
    exact L15  _ _ _ _ _ hf B (lv_sub hl [] rfl)
  · have hf := zif_f hc hf
    refine lv_iload_n hx hb dX8_needObject_4 rfl (lv_at hl 0 rfl) ?_
    refine lv_bipush (v := (12 : Int32)) hx hb dX8_needObject_5 (by decide) ?_
    refine lv_icmp_ge (tgt := 14) hx hb dX8_needObject_7 (by decide) (fun hc => ?_) (fun hc => ?_)
    · have hf := zif_t hc hf
      refine lv_iconst (v := (0 : Int32)) hx hb dX8_needObject_14 (by decide) ?_
      exact L15  _ _ _ _ _ hf B (lv_sub hl [] rfl)
    · have hf := zif_f hc hf
      refine lv_iconst (v := (1 : Int32)) hx hb dX8_needObject_10 (by decide) ?_
      refine lv_goto (tgt := 15) hx hb dX8_needObject_11 (by decide) ?_
      exact L15  _ _ _ _ _ hf B (lv_sub hl [] rfl)
theorem dX8_mint_0 : decode cX8_mint 0 = .ok (.iload_n 1, 1) := by decide +kernel
theorem dX8_mint_1 : decode cX8_mint 1 = .ok (.invokestatic 55, 3) := by decide +kernel
theorem dX8_mint_4 : decode cX8_mint 4 = .ok (.iload_n 2, 1) := by decide +kernel
theorem dX8_mint_5 : decode cX8_mint 5 = .ok (.invokestatic 59, 3) := by decide +kernel
theorem dX8_mint_8 : decode cX8_mint 8 = .ok (.iload_n 3, 1) := by decide +kernel
theorem dX8_mint_9 : decode cX8_mint 9 = .ok (.ifCond .lt 13, 3) := by decide +kernel
theorem dX8_mint_12 : decode cX8_mint 12 = .ok (.iload_n 3, 1) := by decide +kernel
theorem dX8_mint_13 : decode cX8_mint 13 = .ok (.bipush 15, 2) := by decide +kernel
theorem dX8_mint_15 : decode cX8_mint 15 = .ok (.if_icmp .gt 7, 3) := by decide +kernel
theorem dX8_mint_18 : decode cX8_mint 18 = .ok (.iconst 1, 1) := by decide +kernel
theorem dX8_mint_19 : decode cX8_mint 19 = .ok (.goto 4, 3) := by decide +kernel
theorem dX8_mint_22 : decode cX8_mint 22 = .ok (.iconst 0, 1) := by decide +kernel
theorem dX8_mint_23 : decode cX8_mint 23 = .ok (.invokestatic 62, 3) := by decide +kernel
theorem dX8_mint_26 : decode cX8_mint 26 = .ok (.aload_n 0, 1) := by decide +kernel
theorem dX8_mint_27 : decode cX8_mint 27 = .ok (.getfield 12, 3) := by decide +kernel
theorem dX8_mint_30 : decode cX8_mint 30 = .ok (.getfield 66, 3) := by decide +kernel
theorem dX8_mint_33 : decode cX8_mint 33 = .ok (.getfield 70, 3) := by decide +kernel
theorem dX8_mint_36 : decode cX8_mint 36 = .ok (.bipush 28, 2) := by decide +kernel
theorem dX8_mint_38 : decode cX8_mint 38 = .ok (.if_icmp .ge 7, 3) := by decide +kernel
theorem dX8_mint_41 : decode cX8_mint 41 = .ok (.iconst 1, 1) := by decide +kernel
theorem dX8_mint_42 : decode cX8_mint 42 = .ok (.goto 4, 3) := by decide +kernel
theorem dX8_mint_45 : decode cX8_mint 45 = .ok (.iconst 0, 1) := by decide +kernel
theorem dX8_mint_46 : decode cX8_mint 46 = .ok (.invokestatic 76, 3) := by decide +kernel
theorem dX8_mint_49 : decode cX8_mint 49 = .ok (.aload_n 0, 1) := by decide +kernel
theorem dX8_mint_50 : decode cX8_mint 50 = .ok (.getfield 12, 3) := by decide +kernel
theorem dX8_mint_53 : decode cX8_mint 53 = .ok (.getfield 66, 3) := by decide +kernel
theorem dX8_mint_56 : decode cX8_mint 56 = .ok (.iload_n 1, 1) := by decide +kernel
theorem dX8_mint_57 : decode cX8_mint 57 = .ok (.iload_n 2, 1) := by decide +kernel
theorem dX8_mint_58 : decode cX8_mint 58 = .ok (.invokevirtual 79, 3) := by decide +kernel
theorem dX8_mint_61 : decode cX8_mint 61 = .ok (.istore 4, 2) := by decide +kernel
theorem dX8_mint_63 : decode cX8_mint 63 = .ok (.aload_n 0, 1) := by decide +kernel
theorem dX8_mint_64 : decode cX8_mint 64 = .ok (.getfield 12, 3) := by decide +kernel
theorem dX8_mint_67 : decode cX8_mint 67 = .ok (.getfield 66, 3) := by decide +kernel
theorem dX8_mint_70 : decode cX8_mint 70 = .ok (.iload 4, 2) := by decide +kernel
theorem dX8_mint_72 : decode cX8_mint 72 = .ok (.iconst 0, 1) := by decide +kernel
theorem dX8_mint_73 : decode cX8_mint 73 = .ok (.iload_n 3, 1) := by decide +kernel
theorem dX8_mint_74 : decode cX8_mint 74 = .ok (.iconst (-1), 1) := by decide +kernel
theorem dX8_mint_75 : decode cX8_mint 75 = .ok (.invokevirtual 83, 3) := by decide +kernel
theorem dX8_mint_78 : decode cX8_mint 78 = .ok (.iload 4, 2) := by decide +kernel
theorem dX8_mint_80 : decode cX8_mint 80 = .ok (.ireturn, 1) := by decide +kernel
set_option maxRecDepth 20000 in
theorem ggX8_mint_X8_needSubject : GoodIn wsX8_mint wsX8_needSubject := goodIn_ca (goodIn_r _ [7, 8, 9, 6, 10, 11, 12] (by decide +kernel) (by decide +kernel)) (goodIn_sub (fun _ h => List.mem_cons_of_mem _ (List.mem_append_left _ (List.mem_append_left _ (List.mem_append_left _ (List.mem_append_right _ h))))) (by decide +kernel))
set_option maxRecDepth 20000 in
theorem gX8_mint_X8_needSubject : GoodIn wsX8_mint (va_wsS RX8 55 yX8_needSubject wsX8_needSubject) := goodIn_app (goodIn_of _ (by decide +kernel)) ggX8_mint_X8_needSubject
set_option maxRecDepth 20000 in
theorem ggX8_mint_X8_needObject : GoodIn wsX8_mint wsX8_needObject := goodIn_ca (goodIn_r _ [15, 8, 9, 6, 10, 11, 12] (by decide +kernel) (by decide +kernel)) (goodIn_sub (fun _ h => List.mem_cons_of_mem _ (List.mem_append_left _ (List.mem_append_left _ (List.mem_append_left _ (List.mem_append_right _ h))))) (by decide +kernel))
set_option maxRecDepth 20000 in
theorem gX8_mint_X8_needObject : GoodIn wsX8_mint (va_wsS RX8 59 yX8_needObject wsX8_needObject) := goodIn_app (goodIn_of _ (by decide +kernel)) ggX8_mint_X8_needObject
set_option maxRecDepth 20000 in
theorem ggX8_mint_X8_needArgument : GoodIn wsX8_mint wsX8_needArgument := goodIn_ca (goodIn_r _ [18, 19, 20] (by decide +kernel) (by decide +kernel)) (goodIn_sub (fun _ h => List.mem_cons_of_mem _ (List.mem_append_left _ (List.mem_append_left _ (List.mem_append_right _ h)))) (by decide +kernel))
set_option maxRecDepth 20000 in
theorem gX8_mint_X8_needArgument : GoodIn wsX8_mint (va_wsS RX8 62 yX8_needArgument wsX8_needArgument) := goodIn_app (goodIn_of _ (by decide +kernel)) ggX8_mint_X8_needArgument
set_option maxRecDepth 20000 in
theorem ggX8_mint_X8_needState : GoodIn wsX8_mint wsX8_needState := goodIn_ca (goodIn_r _ [23, 24, 25] (by decide +kernel) (by decide +kernel)) (goodIn_sub (fun _ h => List.mem_cons_of_mem _ (List.mem_append_left _ (List.mem_append_right _ h))) (by decide +kernel))
set_option maxRecDepth 20000 in
theorem gX8_mint_X8_needState : GoodIn wsX8_mint (va_wsS RX8 76 yX8_needState wsX8_needState) := goodIn_app (goodIn_of _ (by decide +kernel)) ggX8_mint_X8_needState
set_option maxRecDepth 20000 in
theorem ggX8_mint_X7_makeRoot : GoodIn wsX8_mint wsX7_makeRoot := goodIn_ca (goodIn_r _ [30, 31, 32, 33, 34, 35, 36, 37, 29, 38, 39, 40, 41, 42, 66, 67, 68, 69, 70, 71, 72, 73, 74, 75, 76, 77] (by decide +kernel) (by decide +kernel)) (goodIn_sub (fun _ h => List.mem_cons_of_mem _ (List.mem_append_right _ h)) (by decide +kernel))
set_option maxRecDepth 20000 in
theorem gX8_mint_X7_makeRoot : GoodIn wsX8_mint (wsV RX8 79 RX7 yX7_makeRoot wsX7_makeRoot) := goodIn_app (goodIn_of _ (by decide +kernel)) ggX8_mint_X7_makeRoot
set_option maxRecDepth 20000 in
theorem ggX8_mint_X7_addCaveat : GoodIn wsX8_mint wsX7_addCaveat := goodIn_ca (goodIn_r _ [46, 42, 47, 48, 49, 66, 67, 68, 69, 70, 71, 72, 73, 74, 75, 76, 77] (by decide +kernel) (by decide +kernel)) (goodIn_sub (fun _ h => List.mem_cons_of_mem _ (List.mem_append_right _ h)) (by decide +kernel))
set_option maxRecDepth 20000 in
theorem gX8_mint_X7_addCaveat : GoodIn wsX8_mint (wsV RX8 83 RX7 yX7_addCaveat wsX7_addCaveat) := goodIn_app (goodIn_of _ (by decide +kernel)) ggX8_mint_X7_addCaveat
def rm_X8_mint : Room := { frames := 10, cells := 4, slots := 24, locals := 240 }
set_option maxHeartbeats 4000000 in
set_option maxRecDepth 100000 in
theorem c_X8_mint (l : Launch) (hfl : l.stackTraces = false) {G : zG} {ad : Nat → Nat} {σ σ' : zs} {a1 a2 a3 : Int32} {ex : Nat} {r : Int32} (hf : f_X8_mint σ a1 a2 a3 = some (ex, r, σ')) : xXi l yX8_mint wsX8_mint rm_X8_mint G ad σ [.ref (ad 0), .int a1, .int a2, .int a3] ex r σ' := by
  intro sz nb a g hs
  refine vx_ofW (cc := cX8_mint) (maxL := 5) (ret := (some .int)) (by decide) rfl ?_
  intro p e s m args below meth c s₁ B hml hno hv
  obtain ⟨rfl, hsz, hv⟩ := hv
  have hx := B.exec
  have hb := B.bytes
  have hr := B.returns
  have hts := atoms_spec (ws := wsX8_mint) B.pre
  have hown : s.vm.findClass RX8 = some m.cls := findClass_of_methodNamed B.named
  have hlocks := B.notSynchronized
  subst hsz
  have B := xB_start hs hv
  have hinRX6 : ∀ w ∈ wsX60, w ∈ wsX8_mint := by decide +kernel
  have hinRX7 : ∀ w ∈ wsX70, w ∈ wsX8_mint := by decide +kernel
  have hinRX8 : ∀ w ∈ wsX80, w ∈ wsX8_mint := by decide +kernel
  have hl := lv_entry ([.ref (ad 0), .int a1, .int a2, .int a3]) (n := 5) (Nat.le_of_ble_eq_true rfl)
  rw [lg_entry_eq]
  generalize (lg_sl ([.ref (ad 0), .int a1, .int a2, .int a3]) ++ List.replicate (5 - (lg_sl ([.ref (ad 0), .int a1, .int a2, .int a3])).length) Slot.unset).toArray = ls at hl ⊢
  have hl : lv_has ls 5 [(0, .ref (ad 0)), (1, .int a1), (2, .int a2), (3, .int a3)] := hl
  generalize hAe : xA ad a s.heap.size = A at B ⊢
  have L46 : ∀ (σ : zs) (v1 : Int32) (v2 : Int32) (v3 : Int32) (s0 : Int32) (H : Heap) (locs : List Loc) (ls : Array Slot), f_X8_mint_46 σ v1 v2 v3 s0 = some (ex, r, σ') → xB A s G ad σ H locs → lv_has ls 5 [(0, .ref (ad 0)), (1, .int v1), (2, .int v2), (3, .int v3)] → W p l e (headSpec wsX8_mint rm_X8_mint).room s m ([.ref (ad 0), .int a1, .int a2, .int a3] : List Value).toArray below meth c H locs 3 18 (vx_MQ below (va_Qi (fun r' (u : xV) => (ex = 0 ∧ r' = r) ∧ xQ σ' u) (xPost G ad σ' A) A) (xXC G ad ex σ' A) ([.ref (ad 0), .int a1, .int a2, .int a3] : List Value).toArray s 4 24 A) (F0 m 46 ls [.int s0]) := by
    intro σ v1 v2 v3 s0 H locs ls hf B hl
    unfold f_X8_mint_46 at hf
    obtain ⟨u10, r11, σ12, hu10, hf⟩ := zx_some hf
    refine x_xv B (fun nb a g hs Bz => vx_runS (As := [.int s0]) (rest := []) ⟨hx, hb, hml, hown, hts⟩ (c_X8_needState l hfl hu10 _ nb a g hs) (va_cwS 1 hts gX8_mint_X8_needState rfl rfl rfl (by decide +kernel) ⟨Nat.le_of_ble_eq_true rfl, Nat.le_of_ble_eq_true rfl⟩) (z_preS Bz) rfl rfl hl.1 rfl (lv_room (Nat.le_of_ble_eq_true rfl)) dX8_mint_46 ⟨Nat.le_of_ble_eq_true rfl, Nat.le_of_ble_eq_true rfl⟩) (fun H locs ce q9 h0 B k1 k2 k3 => ?_) (fun H locs h0 B => ?_)
    · exact x_xout hno hlocks (zx_no hf h0) h0 B k1 k2 k3 (Nat.le_of_ble_eq_true rfl) (Nat.le_of_ble_eq_true rfl)
    have hf := zx_ok hf h0
    refine lv_aload_n hx hb dX8_mint_49 rfl (lv_at hl 0 rfl) ?_
    refine x_getr hx hb hts hinRX8 hown B 0 0 1 (by decide) (by decide) (fun _ => rfl) rfl rfl (by decide) (by decide +kernel) rfl dX8_mint_50 ?_
    refine x_getr hx hb hts hinRX6 hown B 1 0 2 (by decide) (by decide) (fun _ => rfl) rfl rfl (by decide) (by decide +kernel) rfl dX8_mint_53 ?_
    refine lv_iload_n hx hb dX8_mint_56 rfl (lv_at hl 1 rfl) ?_
    refine lv_iload_n hx hb dX8_mint_57 rfl (lv_at hl 2 rfl) ?_
    obtain ⟨r14, σ15, hu13, hf⟩ := zb_some hf
    refine x_i B (fun nb a g hs Bz => va_runV (As := [.int v1, .int v2]) (rest := []) ⟨hx, hb, hml, hown, hts⟩ (c_X7_makeRoot l hu13 _ nb a g hs) (cwV 2 hts gX8_mint_X7_makeRoot rfl rfl rfl (by decide +kernel) ⟨Nat.le_of_ble_eq_true rfl, Nat.le_of_ble_eq_true rfl⟩) (x_preV Bz (by decide) (fun _ => rfl) rfl) rfl rfl hl.1 rfl (lv_room (Nat.le_of_ble_eq_true rfl)) dX8_mint_58 ⟨Nat.le_of_ble_eq_true rfl, Nat.le_of_ble_eq_true rfl⟩) (fun H locs B => ?_)
    refine lv_istore (lv' := [(4, .int r14), (0, .ref (ad 0)), (1, .int v1), (2, .int v2), (3, .int v3)]) hx hb dX8_mint_61 hl (by decide) rfl (fun ls hl => ?_)
    refine lv_aload_n hx hb dX8_mint_63 rfl (lv_at hl 1 rfl) ?_
    refine x_getr hx hb hts hinRX8 hown B 0 0 1 (by decide) (by decide) (fun _ => rfl) rfl rfl (by decide) (by decide +kernel) rfl dX8_mint_64 ?_
    refine x_getr hx hb hts hinRX6 hown B 1 0 2 (by decide) (by decide) (fun _ => rfl) rfl rfl (by decide) (by decide +kernel) rfl dX8_mint_67 ?_
    refine lv_iload hx hb dX8_mint_70 (lv_at hl 0 rfl) ?_
    refine lv_iconst (v := (0 : Int32)) hx hb dX8_mint_72 (by decide) ?_
    refine lv_iload_n hx hb dX8_mint_73 rfl (lv_at hl 4 rfl) ?_
    refine lv_iconst (v := (-1 : Int32)) hx hb dX8_mint_74 (by decide) ?_
    obtain ⟨r17, σ18, hu16, hf⟩ := zb_some hf
    refine x_v B (fun nb a g hs Bz => va_runV (As := [.int r14, .int (0 : Int32), .int v3, .int (-1 : Int32)]) (rest := []) ⟨hx, hb, hml, hown, hts⟩ (c_X7_addCaveat l hu16 _ nb a g hs) (cwV 4 hts gX8_mint_X7_addCaveat rfl rfl rfl (by decide +kernel) ⟨Nat.le_of_ble_eq_true rfl, Nat.le_of_ble_eq_true rfl⟩) (x_preV Bz (by decide) (fun _ => rfl) rfl) rfl rfl hl.1 rfl (lv_room (Nat.le_of_ble_eq_true rfl)) dX8_mint_75 ⟨Nat.le_of_ble_eq_true rfl, Nat.le_of_ble_eq_true rfl⟩) (fun H locs B => ?_)
    refine lv_iload hx hb dX8_mint_78 (lv_at hl 0 rfl) ?_
    refine W.widen (k := 4) (n := 24) (Nat.le_of_ble_eq_true rfl) (Nat.le_of_ble_eq_true rfl) ?_
    exact x_xiret hx hb hr rfl hlocks B hf dX8_mint_80
  have L23 : ∀ (σ : zs) (v1 : Int32) (v2 : Int32) (v3 : Int32) (s0 : Int32) (H : Heap) (locs : List Loc) (ls : Array Slot), f_X8_mint_23 σ v1 v2 v3 s0 = some (ex, r, σ') → xB A s G ad σ H locs → lv_has ls 5 [(0, .ref (ad 0)), (1, .int v1), (2, .int v2), (3, .int v3)] → W p l e (headSpec wsX8_mint rm_X8_mint).room s m ([.ref (ad 0), .int a1, .int a2, .int a3] : List Value).toArray below meth c H locs 2 12 (vx_MQ below (va_Qi (fun r' (u : xV) => (ex = 0 ∧ r' = r) ∧ xQ σ' u) (xPost G ad σ' A) A) (xXC G ad ex σ' A) ([.ref (ad 0), .int a1, .int a2, .int a3] : List Value).toArray s 4 24 A) (F0 m 23 ls [.int s0]) := by
    intro σ v1 v2 v3 s0 H locs ls hf B hl
    unfold f_X8_mint_23 at hf
    obtain ⟨u7, r8, σ9, hu7, hf⟩ := zx_some hf
    refine x_xv B (fun nb a g hs Bz => vx_runS (As := [.int s0]) (rest := []) ⟨hx, hb, hml, hown, hts⟩ (c_X8_needArgument l hfl hu7 _ nb a g hs) (va_cwS 1 hts gX8_mint_X8_needArgument rfl rfl rfl (by decide +kernel) ⟨Nat.le_of_ble_eq_true rfl, Nat.le_of_ble_eq_true rfl⟩) (z_preS Bz) rfl rfl hl.1 rfl (lv_room (Nat.le_of_ble_eq_true rfl)) dX8_mint_23 ⟨Nat.le_of_ble_eq_true rfl, Nat.le_of_ble_eq_true rfl⟩) (fun H locs ce q9 h0 B k1 k2 k3 => ?_) (fun H locs h0 B => ?_)
    · exact x_xout hno hlocks (zx_no hf h0) h0 B k1 k2 k3 (Nat.le_of_ble_eq_true rfl) (Nat.le_of_ble_eq_true rfl)
    have hf := zx_ok hf h0
    refine lv_aload_n hx hb dX8_mint_26 rfl (lv_at hl 0 rfl) ?_
    refine x_getr hx hb hts hinRX8 hown B 0 0 1 (by decide) (by decide) (fun _ => rfl) rfl rfl (by decide) (by decide +kernel) rfl dX8_mint_27 ?_
    refine x_getr hx hb hts hinRX6 hown B 1 0 2 (by decide) (by decide) (fun _ => rfl) rfl rfl (by decide) (by decide +kernel) rfl dX8_mint_30 ?_
    refine x_geti hx hb hts hinRX7 hown B 2 0 (by decide) (fun _ => rfl) rfl rfl (by decide) (by decide +kernel) rfl dX8_mint_33 ?_
    refine lv_bipush (v := (28 : Int32)) hx hb dX8_mint_36 (by decide) ?_
    refine lv_icmp_ge (tgt := 45) hx hb dX8_mint_38 (by decide) (fun hc => ?_) (fun hc => ?_)
    · have hf := zif_t hc hf
      refine lv_iconst (v := (0 : Int32)) hx hb dX8_mint_45 (by decide) ?_
      exact L46  _ _ _ _ _ _ _ _ hf B (lv_sub hl [0, 1, 2, 3] rfl)
    · have hf := zif_f hc hf
      refine lv_iconst (v := (1 : Int32)) hx hb dX8_mint_41 (by decide) ?_
      refine lv_goto (tgt := 46) hx hb dX8_mint_42 (by decide) ?_
      exact L46  _ _ _ _ _ _ _ _ hf B (lv_sub hl [0, 1, 2, 3] rfl)
  unfold f_X8_mint at hf
  refine lv_iload_n hx hb dX8_mint_0 rfl (lv_at hl 1 rfl) ?_
  obtain ⟨u1, r2, σ3, hu1, hf⟩ := zx_some hf
  refine x_xv B (fun nb a g hs Bz => vx_runS (As := [.int a1]) (rest := []) ⟨hx, hb, hml, hown, hts⟩ (c_X8_needSubject l hfl hu1 _ nb a g hs) (va_cwS 1 hts gX8_mint_X8_needSubject rfl rfl rfl (by decide +kernel) ⟨Nat.le_of_ble_eq_true rfl, Nat.le_of_ble_eq_true rfl⟩) (z_preS Bz) rfl rfl hl.1 rfl (lv_room (Nat.le_of_ble_eq_true rfl)) dX8_mint_1 ⟨Nat.le_of_ble_eq_true rfl, Nat.le_of_ble_eq_true rfl⟩) (fun H locs ce q9 h0 B k1 k2 k3 => ?_) (fun H locs h0 B => ?_)
  · exact x_xout hno hlocks (zx_no hf h0) h0 B k1 k2 k3 (Nat.le_of_ble_eq_true rfl) (Nat.le_of_ble_eq_true rfl)
  have hf := zx_ok hf h0
  refine lv_iload_n hx hb dX8_mint_4 rfl (lv_at hl 2 rfl) ?_
  obtain ⟨u4, r5, σ6, hu4, hf⟩ := zx_some hf
  refine x_xv B (fun nb a g hs Bz => vx_runS (As := [.int a2]) (rest := []) ⟨hx, hb, hml, hown, hts⟩ (c_X8_needObject l hfl hu4 _ nb a g hs) (va_cwS 1 hts gX8_mint_X8_needObject rfl rfl rfl (by decide +kernel) ⟨Nat.le_of_ble_eq_true rfl, Nat.le_of_ble_eq_true rfl⟩) (z_preS Bz) rfl rfl hl.1 rfl (lv_room (Nat.le_of_ble_eq_true rfl)) dX8_mint_5 ⟨Nat.le_of_ble_eq_true rfl, Nat.le_of_ble_eq_true rfl⟩) (fun H locs ce q9 h0 B k1 k2 k3 => ?_) (fun H locs h0 B => ?_)
  · exact x_xout hno hlocks (zx_no hf h0) h0 B k1 k2 k3 (Nat.le_of_ble_eq_true rfl) (Nat.le_of_ble_eq_true rfl)
  have hf := zx_ok hf h0
  refine lv_iload_n hx hb dX8_mint_8 rfl (lv_at hl 3 rfl) ?_
  refine lv_if_lt (tgt := 22) hx hb dX8_mint_9 (by decide) (fun hc => ?_) (fun hc => ?_)
  · have hf := zif_t hc hf
    refine lv_iconst (v := (0 : Int32)) hx hb dX8_mint_22 (by decide) ?_
    exact L23  _ _ _ _ _ _ _ _ hf B (lv_sub hl [0, 1, 2, 3] rfl)
  · have hf := zif_f hc hf
    refine lv_iload_n hx hb dX8_mint_12 rfl (lv_at hl 3 rfl) ?_
    refine lv_bipush (v := (15 : Int32)) hx hb dX8_mint_13 (by decide) ?_
    refine lv_icmp_gt (tgt := 22) hx hb dX8_mint_15 (by decide) (fun hc => ?_) (fun hc => ?_)
    · have hf := zif_t hc hf
      refine lv_iconst (v := (0 : Int32)) hx hb dX8_mint_22 (by decide) ?_
      exact L23  _ _ _ _ _ _ _ _ hf B (lv_sub hl [0, 1, 2, 3] rfl)
    · have hf := zif_f hc hf
      refine lv_iconst (v := (1 : Int32)) hx hb dX8_mint_18 (by decide) ?_
      refine lv_goto (tgt := 23) hx hb dX8_mint_19 (by decide) ?_
      exact L23  _ _ _ _ _ _ _ _ hf B (lv_sub hl [0, 1, 2, 3] rfl)
theorem dX8_isTextSign_0 : decode cX8_isTextSign 0 = .ok (.iload_n 0, 1) := by decide +kernel
theorem dX8_isTextSign_1 : decode cX8_isTextSign 1 = .ok (.bipush 33, 2) := by decide +kernel
theorem dX8_isTextSign_3 : decode cX8_isTextSign 3 = .ok (.if_icmp .lt 13, 3) := by decide +kernel
theorem dX8_isTextSign_6 : decode cX8_isTextSign 6 = .ok (.iload_n 0, 1) := by decide +kernel
theorem dX8_isTextSign_7 : decode cX8_isTextSign 7 = .ok (.bipush 126, 2) := by decide +kernel
theorem dX8_isTextSign_9 : decode cX8_isTextSign 9 = .ok (.if_icmp .gt 7, 3) := by decide +kernel
theorem dX8_isTextSign_12 : decode cX8_isTextSign 12 = .ok (.iconst 1, 1) := by decide +kernel
theorem dX8_isTextSign_13 : decode cX8_isTextSign 13 = .ok (.goto 4, 3) := by decide +kernel
theorem dX8_isTextSign_16 : decode cX8_isTextSign 16 = .ok (.iconst 0, 1) := by decide +kernel
theorem dX8_isTextSign_17 : decode cX8_isTextSign 17 = .ok (.ireturn, 1) := by decide +kernel
def rm_X8_isTextSign : Room := { frames := 1, cells := 0, slots := 0, locals := 16 }
set_option maxHeartbeats 4000000 in
set_option maxRecDepth 100000 in
theorem c_X8_isTextSign (l : Launch) {G : zG} {ad : Nat → Nat} {σ σ' : zs} {a0 : Int32} {r : Int32} (hf : f_X8_isTextSign σ a0 = some (r, σ')) : xMi l yX8_isTextSign wsX8_isTextSign rm_X8_isTextSign G ad σ [.int a0] r σ' := by
  intro sz nb a g hs
  refine Met.ofW (cc := cX8_isTextSign) (maxL := 1) (ret := (some .boolean)) (by decide) rfl ?_
  intro p e s m args below meth c s₁ B hml hv
  obtain ⟨rfl, hsz, hv⟩ := hv
  have hx := B.exec
  have hb := B.bytes
  have hr := B.returns
  have hts := atoms_spec (ws := wsX8_isTextSign) B.pre
  have hown : s.vm.findClass RX8 = some m.cls := findClass_of_methodNamed B.named
  have hlocks := B.notSynchronized
  subst hsz
  have B := xB_start hs hv
  have hl := lv_entry ([.int a0]) (n := 1) (Nat.le_of_ble_eq_true rfl)
  rw [lg_entry_eq]
  generalize (lg_sl ([.int a0]) ++ List.replicate (1 - (lg_sl ([.int a0])).length) Slot.unset).toArray = ls at hl ⊢
  have hl : lv_has ls 1 [(0, .int a0)] := hl
  generalize hAe : xA ad a s.heap.size = A at B ⊢
  unfold f_X8_isTextSign at hf
  refine lv_iload_n hx hb dX8_isTextSign_0 rfl (lv_at hl 0 rfl) ?_
  refine lv_bipush (v := (33 : Int32)) hx hb dX8_isTextSign_1 (by decide) ?_
  refine lv_icmp_lt (tgt := 16) hx hb dX8_isTextSign_3 (by decide) (fun hc => ?_) (fun hc => ?_)
  · have hf := zif_t hc hf
    refine lv_iconst (v := (0 : Int32)) hx hb dX8_isTextSign_16 (by decide) ?_
    refine W.widen (k := 0) (n := 0) (Nat.le_of_ble_eq_true rfl) (Nat.le_of_ble_eq_true rfl) ?_
    exact x_iret hx hb hr (by decide) hlocks B hf dX8_isTextSign_17
  · have hf := zif_f hc hf
    refine lv_iload_n hx hb dX8_isTextSign_6 rfl (lv_at hl 0 rfl) ?_
    refine lv_bipush (v := (126 : Int32)) hx hb dX8_isTextSign_7 (by decide) ?_
    refine lv_icmp_gt (tgt := 16) hx hb dX8_isTextSign_9 (by decide) (fun hc => ?_) (fun hc => ?_)
    · have hf := zif_t hc hf
      refine lv_iconst (v := (0 : Int32)) hx hb dX8_isTextSign_16 (by decide) ?_
      refine W.widen (k := 0) (n := 0) (Nat.le_of_ble_eq_true rfl) (Nat.le_of_ble_eq_true rfl) ?_
      exact x_iret hx hb hr (by decide) hlocks B hf dX8_isTextSign_17
    · have hf := zif_f hc hf
      refine lv_iconst (v := (1 : Int32)) hx hb dX8_isTextSign_12 (by decide) ?_
      refine lv_goto (tgt := 17) hx hb dX8_isTextSign_13 (by decide) ?_
      refine W.widen (k := 0) (n := 0) (Nat.le_of_ble_eq_true rfl) (Nat.le_of_ble_eq_true rfl) ?_
      exact x_iret hx hb hr (by decide) hlocks B hf dX8_isTextSign_17
theorem dX8_append_0 : decode cX8_append 0 = .ok (.iconst 0, 1) := by decide +kernel
theorem dX8_append_1 : decode cX8_append 1 = .ok (.istore_n 2, 1) := by decide +kernel
theorem dX8_append_2 : decode cX8_append 2 = .ok (.bipush 24, 2) := by decide +kernel
theorem dX8_append_4 : decode cX8_append 4 = .ok (.istore_n 3, 1) := by decide +kernel
theorem dX8_append_5 : decode cX8_append 5 = .ok (.iload_n 3, 1) := by decide +kernel
theorem dX8_append_6 : decode cX8_append 6 = .ok (.ifCond .lt 47, 3) := by decide +kernel
theorem dX8_append_9 : decode cX8_append 9 = .ok (.iload_n 1, 1) := by decide +kernel
theorem dX8_append_10 : decode cX8_append 10 = .ok (.iload_n 3, 1) := by decide +kernel
theorem dX8_append_11 : decode cX8_append 11 = .ok (.iushr, 1) := by decide +kernel
theorem dX8_append_12 : decode cX8_append 12 = .ok (.sipush 255, 3) := by decide +kernel
theorem dX8_append_15 : decode cX8_append 15 = .ok (.iand, 1) := by decide +kernel
theorem dX8_append_16 : decode cX8_append 16 = .ok (.istore 4, 2) := by decide +kernel
theorem dX8_append_18 : decode cX8_append 18 = .ok (.iload 4, 2) := by decide +kernel
theorem dX8_append_20 : decode cX8_append 20 = .ok (.ifCond .eq 11, 3) := by decide +kernel
theorem dX8_append_23 : decode cX8_append 23 = .ok (.iload 4, 2) := by decide +kernel
theorem dX8_append_25 : decode cX8_append 25 = .ok (.invokestatic 87, 3) := by decide +kernel
theorem dX8_append_28 : decode cX8_append 28 = .ok (.ifCond .eq 7, 3) := by decide +kernel
theorem dX8_append_31 : decode cX8_append 31 = .ok (.iconst 1, 1) := by decide +kernel
theorem dX8_append_32 : decode cX8_append 32 = .ok (.goto 4, 3) := by decide +kernel
theorem dX8_append_35 : decode cX8_append 35 = .ok (.iconst 0, 1) := by decide +kernel
theorem dX8_append_36 : decode cX8_append 36 = .ok (.invokestatic 62, 3) := by decide +kernel
theorem dX8_append_39 : decode cX8_append 39 = .ok (.iload 4, 2) := by decide +kernel
theorem dX8_append_41 : decode cX8_append 41 = .ok (.ifCond .eq 6, 3) := by decide +kernel
theorem dX8_append_44 : decode cX8_append 44 = .ok (.iinc 2 1, 3) := by decide +kernel
theorem dX8_append_47 : decode cX8_append 47 = .ok (.iinc 3 (-8), 3) := by decide +kernel
theorem dX8_append_50 : decode cX8_append 50 = .ok (.goto (-45), 3) := by decide +kernel
theorem dX8_append_53 : decode cX8_append 53 = .ok (.aload_n 0, 1) := by decide +kernel
theorem dX8_append_54 : decode cX8_append 54 = .ok (.getfield 33, 3) := by decide +kernel
theorem dX8_append_57 : decode cX8_append 57 = .ok (.getfield 91, 3) := by decide +kernel
theorem dX8_append_60 : decode cX8_append 60 = .ok (.iload_n 2, 1) := by decide +kernel
theorem dX8_append_61 : decode cX8_append 61 = .ok (.iadd, 1) := by decide +kernel
theorem dX8_append_62 : decode cX8_append 62 = .ok (.bipush 40, 2) := by decide +kernel
theorem dX8_append_64 : decode cX8_append 64 = .ok (.if_icmp .gt 7, 3) := by decide +kernel
theorem dX8_append_67 : decode cX8_append 67 = .ok (.iconst 1, 1) := by decide +kernel
theorem dX8_append_68 : decode cX8_append 68 = .ok (.goto 4, 3) := by decide +kernel
theorem dX8_append_71 : decode cX8_append 71 = .ok (.iconst 0, 1) := by decide +kernel
theorem dX8_append_72 : decode cX8_append 72 = .ok (.invokestatic 76, 3) := by decide +kernel
theorem dX8_append_75 : decode cX8_append 75 = .ok (.bipush 24, 2) := by decide +kernel
theorem dX8_append_77 : decode cX8_append 77 = .ok (.istore_n 3, 1) := by decide +kernel
theorem dX8_append_78 : decode cX8_append 78 = .ok (.iload_n 3, 1) := by decide +kernel
theorem dX8_append_79 : decode cX8_append 79 = .ok (.ifCond .lt 23, 3) := by decide +kernel
theorem dX8_append_82 : decode cX8_append 82 = .ok (.aload_n 0, 1) := by decide +kernel
theorem dX8_append_83 : decode cX8_append 83 = .ok (.getfield 33, 3) := by decide +kernel
theorem dX8_append_86 : decode cX8_append 86 = .ok (.iload_n 1, 1) := by decide +kernel
theorem dX8_append_87 : decode cX8_append 87 = .ok (.iload_n 3, 1) := by decide +kernel
theorem dX8_append_88 : decode cX8_append 88 = .ok (.iushr, 1) := by decide +kernel
theorem dX8_append_89 : decode cX8_append 89 = .ok (.sipush 255, 3) := by decide +kernel
theorem dX8_append_92 : decode cX8_append 92 = .ok (.iand, 1) := by decide +kernel
theorem dX8_append_93 : decode cX8_append 93 = .ok (.invokevirtual 94, 3) := by decide +kernel
theorem dX8_append_96 : decode cX8_append 96 = .ok (.iinc 3 (-8), 3) := by decide +kernel
theorem dX8_append_99 : decode cX8_append 99 = .ok (.goto (-21), 3) := by decide +kernel
theorem dX8_append_102 : decode cX8_append 102 = .ok (.aload_n 0, 1) := by decide +kernel
theorem dX8_append_103 : decode cX8_append 103 = .ok (.getfield 33, 3) := by decide +kernel
theorem dX8_append_106 : decode cX8_append 106 = .ok (.getfield 91, 3) := by decide +kernel
theorem dX8_append_109 : decode cX8_append 109 = .ok (.ireturn, 1) := by decide +kernel
set_option maxRecDepth 20000 in
theorem ggX8_append_X8_needState : GoodIn wsX8_append wsX8_needState := goodIn_ca (goodIn_r _ [14, 15, 16] (by decide +kernel) (by decide +kernel)) (goodIn_sub (fun _ h => List.mem_cons_of_mem _ (List.mem_append_left _ (List.mem_append_right _ h))) (by decide +kernel))
set_option maxRecDepth 20000 in
theorem gX8_append_X8_needState : GoodIn wsX8_append (va_wsS RX8 76 yX8_needState wsX8_needState) := goodIn_app (goodIn_of _ (by decide +kernel)) ggX8_append_X8_needState
set_option maxRecDepth 20000 in
theorem ggX8_append_X1_addSign : GoodIn wsX8_append wsX1_addSign := goodIn_ca (goodIn_r _ [21, 22, 23, 32, 33, 34, 35, 36, 37, 38, 39] (by decide +kernel) (by decide +kernel)) (goodIn_sub (fun _ h => List.mem_cons_of_mem _ (List.mem_append_right _ h)) (by decide +kernel))
set_option maxRecDepth 20000 in
theorem gX8_append_X1_addSign : GoodIn wsX8_append (wsV RX8 94 RX1 yX1_addSign wsX1_addSign) := goodIn_app (goodIn_of _ (by decide +kernel)) ggX8_append_X1_addSign
set_option maxRecDepth 20000 in
theorem ggX8_append_X8_needArgument : GoodIn wsX8_append wsX8_needArgument := goodIn_ca (goodIn_r _ [9, 10, 11] (by decide +kernel) (by decide +kernel)) (goodIn_sub (fun _ h => List.mem_cons_of_mem _ (List.mem_append_left _ (List.mem_append_left _ (List.mem_append_right _ h)))) (by decide +kernel))
set_option maxRecDepth 20000 in
theorem gX8_append_X8_needArgument : GoodIn wsX8_append (va_wsS RX8 62 yX8_needArgument wsX8_needArgument) := goodIn_app (goodIn_of _ (by decide +kernel)) ggX8_append_X8_needArgument
set_option maxRecDepth 20000 in
theorem ggX8_append_X8_isTextSign : GoodIn wsX8_append wsX8_isTextSign := goodIn_r _ [6] (by decide +kernel) (by decide +kernel)
set_option maxRecDepth 20000 in
theorem gX8_append_X8_isTextSign : GoodIn wsX8_append (va_wsS RX8 87 yX8_isTextSign wsX8_isTextSign) := goodIn_app (goodIn_of _ (by decide +kernel)) ggX8_append_X8_isTextSign
def rm_X8_append : Room := { frames := 9, cells := 5, slots := 30, locals := 220 }
set_option maxHeartbeats 4000000 in
set_option maxRecDepth 100000 in
theorem c_X8_append (l : Launch) (hfl : l.stackTraces = false) {G : zG} {ad : Nat → Nat} {σ σ' : zs} {a1 : Int32} {ex : Nat} {r : Int32} (hf : f_X8_append σ a1 = some (ex, r, σ')) : xXi l yX8_append wsX8_append rm_X8_append G ad σ [.ref (ad 0), .int a1] ex r σ' := by
  intro sz nb a g hs
  refine vx_ofW (cc := cX8_append) (maxL := 5) (ret := (some .int)) (by decide) rfl ?_
  intro p e s m args below meth c s₁ B hml hno hv
  obtain ⟨rfl, hsz, hv⟩ := hv
  have hx := B.exec
  have hb := B.bytes
  have hr := B.returns
  have hts := atoms_spec (ws := wsX8_append) B.pre
  have hown : s.vm.findClass RX8 = some m.cls := findClass_of_methodNamed B.named
  have hlocks := B.notSynchronized
  subst hsz
  have B := xB_start hs hv
  have hinRX1 : ∀ w ∈ wsX10, w ∈ wsX8_append := by decide +kernel
  have hinRX8 : ∀ w ∈ wsX80, w ∈ wsX8_append := by decide +kernel
  have hl := lv_entry ([.ref (ad 0), .int a1]) (n := 5) (Nat.le_of_ble_eq_true rfl)
  rw [lg_entry_eq]
  generalize (lg_sl ([.ref (ad 0), .int a1]) ++ List.replicate (5 - (lg_sl ([.ref (ad 0), .int a1])).length) Slot.unset).toArray = ls at hl ⊢
  have hl : lv_has ls 5 [(0, .ref (ad 0)), (1, .int a1)] := hl
  generalize hAe : xA ad a s.heap.size = A at B ⊢
  have L5_5 : ∀ (σ : zs) (v1 : Int32) (v2 : Int32) (v3 : Int32) (H : Heap) (locs : List Loc) (ls : Array Slot), zlp3 (f_X8_append_5) 0 σ v1 v2 v3 = some (ex, r, σ') → xB A s G ad σ H locs → lv_has ls 5 [(0, .ref (ad 0)), (1, .int v1), (2, .int v2), (3, .int v3)] → W p l e (headSpec wsX8_append rm_X8_append).room s m ([.ref (ad 0), .int a1] : List Value).toArray below meth c H locs 5 30 (vx_MQ below (va_Qi (fun r' (u : xV) => (ex = 0 ∧ r' = r) ∧ xQ σ' u) (xPost G ad σ' A) A) (xXC G ad ex σ' A) ([.ref (ad 0), .int a1] : List Value).toArray s 5 30 A) (F0 m 5 ls []) := by
    intro σ v1 v2 v3 H locs ls hf
    cases hf
  have L78 : ∀ (n : Nat) (σ : zs) (v1 : Int32) (v3 : Int32) (H : Heap) (locs : List Loc) (ls : Array Slot), zlp2 (f_X8_append_78) n σ v1 v3 = some (ex, r, σ') → xB A s G ad σ H locs → lv_has ls 5 [(0, .ref (ad 0)), (1, .int v1), (3, .int v3)] → W p l e (headSpec wsX8_append rm_X8_append).room s m ([.ref (ad 0), .int a1] : List Value).toArray below meth c H locs 5 30 (vx_MQ below (va_Qi (fun r' (u : xV) => (ex = 0 ∧ r' = r) ∧ xQ σ' u) (xPost G ad σ' A) A) (xXC G ad ex σ' A) ([.ref (ad 0), .int a1] : List Value).toArray s 5 30 A) (F0 m 78 ls []) := by
    intro n
    induction n with
    | zero =>
      intro σ v1 v3 H locs ls hf
      cases hf
    | succ n ih =>
      intro σ v1 v3 H locs ls hf B hl
      have hf : f_X8_append_78 (zlp2 (f_X8_append_78) n) σ v1 v3 = some (ex, r, σ') := hf
      unfold f_X8_append_78 at hf
      refine lv_iload_n hx hb dX8_append_78 rfl (lv_at hl 2 rfl) ?_
      refine lv_if_lt (tgt := 102) hx hb dX8_append_79 (by decide) (fun hc => ?_) (fun hc => ?_)
      · have hf := zif_t hc hf
        refine lv_aload_n hx hb dX8_append_102 rfl (lv_at hl 0 rfl) ?_
        refine x_getr hx hb hts hinRX8 hown B 0 4 52 (by decide) (by decide) (fun _ => rfl) rfl rfl (by decide) (by decide +kernel) rfl dX8_append_103 ?_
        refine x_geti hx hb hts hinRX1 hown B 52 1 (by decide) (fun _ => rfl) rfl rfl (by decide) (by decide +kernel) rfl dX8_append_106 ?_
        refine W.widen (k := 5) (n := 30) (Nat.le_of_ble_eq_true rfl) (Nat.le_of_ble_eq_true rfl) ?_
        exact x_xiret hx hb hr rfl hlocks B hf dX8_append_109
      · have hf := zif_f hc hf
        refine lv_aload_n hx hb dX8_append_82 rfl (lv_at hl 0 rfl) ?_
        refine x_getr hx hb hts hinRX8 hown B 0 4 52 (by decide) (by decide) (fun _ => rfl) rfl rfl (by decide) (by decide +kernel) rfl dX8_append_83 ?_
        refine lv_iload_n hx hb dX8_append_86 rfl (lv_at hl 1 rfl) ?_
        refine lv_iload_n hx hb dX8_append_87 rfl (lv_at hl 2 rfl) ?_
        refine lv_iushr (v := (v1.toUInt32 >>> (v3.toUInt32 &&& Int32.toUInt32 31)).toInt32) hx hb dX8_append_88 rfl ?_
        refine lv_sipush (v := (255 : Int32)) hx hb dX8_append_89 (by decide) ?_
        refine lv_iand hx hb dX8_append_92 ?_
        obtain ⟨r5, σ6, hu4, hf⟩ := zb_some hf
        refine x_v B (fun nb a g hs Bz => va_runV (As := [.int (((v1.toUInt32 >>> (v3.toUInt32 &&& Int32.toUInt32 31)).toInt32) &&& (255 : Int32))]) (rest := []) ⟨hx, hb, hml, hown, hts⟩ (c_X1_addSign l hu4 _ nb a g hs) (cwV 1 hts gX8_append_X1_addSign rfl rfl rfl (by decide +kernel) ⟨Nat.le_of_ble_eq_true rfl, Nat.le_of_ble_eq_true rfl⟩) (x_preV Bz (by decide) (fun _ => rfl) rfl) rfl rfl hl.1 rfl (lv_room (Nat.le_of_ble_eq_true rfl)) dX8_append_93 ⟨Nat.le_of_ble_eq_true rfl, Nat.le_of_ble_eq_true rfl⟩) (fun H locs B => ?_)
        refine lv_iinc (v := (v3 + (-8 : Int32))) (lv' := [(3, .int (v3 + (-8 : Int32))), (0, .ref (ad 0)), (1, .int v1)]) hx hb dX8_append_96 hl (k := 2) rfl (zc1 (by decide)) (by decide) rfl (fun ls hl => ?_)
        refine lv_goto (tgt := 78) hx hb dX8_append_99 (by decide) ?_
        exact ih _ _ _ _ _ _ hf B (lv_sub hl [1, 2, 0] rfl)
  have L72 : ∀ (σ : zs) (v1 : Int32) (s0 : Int32) (H : Heap) (locs : List Loc) (ls : Array Slot), f_X8_append_72 σ v1 s0 = some (ex, r, σ') → xB A s G ad σ H locs → lv_has ls 5 [(0, .ref (ad 0)), (1, .int v1)] → W p l e (headSpec wsX8_append rm_X8_append).room s m ([.ref (ad 0), .int a1] : List Value).toArray below meth c H locs 4 24 (vx_MQ below (va_Qi (fun r' (u : xV) => (ex = 0 ∧ r' = r) ∧ xQ σ' u) (xPost G ad σ' A) A) (xXC G ad ex σ' A) ([.ref (ad 0), .int a1] : List Value).toArray s 5 30 A) (F0 m 72 ls [.int s0]) := by
    intro σ v1 s0 H locs ls hf B hl
    unfold f_X8_append_72 at hf
    obtain ⟨u1, r2, σ3, hu1, hf⟩ := zx_some hf
    refine x_xv B (fun nb a g hs Bz => vx_runS (As := [.int s0]) (rest := []) ⟨hx, hb, hml, hown, hts⟩ (c_X8_needState l hfl hu1 _ nb a g hs) (va_cwS 1 hts gX8_append_X8_needState rfl rfl rfl (by decide +kernel) ⟨Nat.le_of_ble_eq_true rfl, Nat.le_of_ble_eq_true rfl⟩) (z_preS Bz) rfl rfl hl.1 rfl (lv_room (Nat.le_of_ble_eq_true rfl)) dX8_append_72 ⟨Nat.le_of_ble_eq_true rfl, Nat.le_of_ble_eq_true rfl⟩) (fun H locs ce q9 h0 B k1 k2 k3 => ?_) (fun H locs h0 B => ?_)
    · exact x_xout hno hlocks (zx_no hf h0) h0 B k1 k2 k3 (Nat.le_of_ble_eq_true rfl) (Nat.le_of_ble_eq_true rfl)
    have hf := zx_ok hf h0
    refine lv_bipush (v := (24 : Int32)) hx hb dX8_append_75 (by decide) ?_
    refine lv_istore_n (lv' := [(3, .int (24 : Int32)), (0, .ref (ad 0)), (1, .int v1)]) hx hb dX8_append_77 rfl hl (by decide) rfl (fun ls hl => ?_)
    exact L78  _ _ _ _ _ _ _ hf B (lv_sub hl [1, 2, 0] rfl)
  have L36_4 : ∀ (K5 : zs → Int32 → Int32 → Int32 → Option (zO)) (hK5 : ∀ (σ : zs) (v1 : Int32) (v2 : Int32) (v3 : Int32) (H : Heap) (locs : List Loc) (ls : Array Slot), K5 σ v1 v2 v3 = some (ex, r, σ') → xB A s G ad σ H locs → lv_has ls 5 [(0, .ref (ad 0)), (1, .int v1), (2, .int v2), (3, .int v3)] → W p l e (headSpec wsX8_append rm_X8_append).room s m ([.ref (ad 0), .int a1] : List Value).toArray below meth c H locs 5 30 (vx_MQ below (va_Qi (fun r' (u : xV) => (ex = 0 ∧ r' = r) ∧ xQ σ' u) (xPost G ad σ' A) A) (xXC G ad ex σ' A) ([.ref (ad 0), .int a1] : List Value).toArray s 5 30 A) (F0 m 5 ls [])) (σ : zs) (v1 : Int32) (v2 : Int32) (v3 : Int32) (v4 : Int32) (s0 : Int32) (H : Heap) (locs : List Loc) (ls : Array Slot), f_X8_append_36 K5 σ v1 v2 v3 v4 s0 = some (ex, r, σ') → xB A s G ad σ H locs → lv_has ls 5 [(0, .ref (ad 0)), (1, .int v1), (2, .int v2), (3, .int v3), (4, .int v4)] → W p l e (headSpec wsX8_append rm_X8_append).room s m ([.ref (ad 0), .int a1] : List Value).toArray below meth c H locs 4 24 (vx_MQ below (va_Qi (fun r' (u : xV) => (ex = 0 ∧ r' = r) ∧ xQ σ' u) (xPost G ad σ' A) A) (xXC G ad ex σ' A) ([.ref (ad 0), .int a1] : List Value).toArray s 5 30 A) (F0 m 36 ls [.int s0]) := by
    intro K5 hK5 σ v1 v2 v3 v4 s0 H locs ls hf B hl
    unfold f_X8_append_36 at hf
    obtain ⟨u7, r8, σ9, hu7, hf⟩ := zx_some hf
    refine x_xv B (fun nb a g hs Bz => vx_runS (As := [.int s0]) (rest := []) ⟨hx, hb, hml, hown, hts⟩ (c_X8_needArgument l hfl hu7 _ nb a g hs) (va_cwS 1 hts gX8_append_X8_needArgument rfl rfl rfl (by decide +kernel) ⟨Nat.le_of_ble_eq_true rfl, Nat.le_of_ble_eq_true rfl⟩) (z_preS Bz) rfl rfl hl.1 rfl (lv_room (Nat.le_of_ble_eq_true rfl)) dX8_append_36 ⟨Nat.le_of_ble_eq_true rfl, Nat.le_of_ble_eq_true rfl⟩) (fun H locs ce q9 h0 B k1 k2 k3 => ?_) (fun H locs h0 B => ?_)
    · exact x_xout hno hlocks (zx_no hf h0) h0 B k1 k2 k3 (Nat.le_of_ble_eq_true rfl) (Nat.le_of_ble_eq_true rfl)
    have hf := zx_ok hf h0
    refine lv_iload hx hb dX8_append_39 (lv_at hl 4 rfl) ?_
    refine lv_if_eq (tgt := 47) hx hb dX8_append_41 (by decide) (fun hc => ?_) (fun hc => ?_)
    · have hf := zif_t hc hf
      refine lv_iinc (v := (v3 + (-8 : Int32))) (lv' := [(3, .int (v3 + (-8 : Int32))), (0, .ref (ad 0)), (1, .int v1), (2, .int v2), (4, .int v4)]) hx hb dX8_append_47 hl (k := 3) rfl (zc1 (by decide)) (by decide) rfl (fun ls hl => ?_)
      refine lv_goto (tgt := 5) hx hb dX8_append_50 (by decide) ?_
      exact hK5 _ _ _ _ _ _ _ hf B (lv_sub hl [1, 2, 3, 0] rfl)
    · have hf := zif_f hc hf
      refine lv_iinc (v := (v2 + (1 : Int32))) (lv' := [(2, .int (v2 + (1 : Int32))), (0, .ref (ad 0)), (1, .int v1), (3, .int v3), (4, .int v4)]) hx hb dX8_append_44 hl (k := 2) rfl (zc1 (by decide)) (by decide) rfl (fun ls hl => ?_)
      refine lv_iinc (v := (v3 + (-8 : Int32))) (lv' := [(3, .int (v3 + (-8 : Int32))), (2, .int (v2 + (1 : Int32))), (0, .ref (ad 0)), (1, .int v1), (4, .int v4)]) hx hb dX8_append_47 hl (k := 3) rfl (zc1 (by decide)) (by decide) rfl (fun ls hl => ?_)
      refine lv_goto (tgt := 5) hx hb dX8_append_50 (by decide) ?_
      exact hK5 _ _ _ _ _ _ _ hf B (lv_sub hl [2, 3, 1, 0] rfl)
  have L5_4 : ∀ (σ : zs) (v1 : Int32) (v2 : Int32) (v3 : Int32) (H : Heap) (locs : List Loc) (ls : Array Slot), zlp3 (f_X8_append_5) 1 σ v1 v2 v3 = some (ex, r, σ') → xB A s G ad σ H locs → lv_has ls 5 [(0, .ref (ad 0)), (1, .int v1), (2, .int v2), (3, .int v3)] → W p l e (headSpec wsX8_append rm_X8_append).room s m ([.ref (ad 0), .int a1] : List Value).toArray below meth c H locs 4 24 (vx_MQ below (va_Qi (fun r' (u : xV) => (ex = 0 ∧ r' = r) ∧ xQ σ' u) (xPost G ad σ' A) A) (xXC G ad ex σ' A) ([.ref (ad 0), .int a1] : List Value).toArray s 5 30 A) (F0 m 5 ls []) := by
    intro σ v1 v2 v3 H locs ls hf B hl
    have hf : f_X8_append_5 (zlp3 (f_X8_append_5) 0) σ v1 v2 v3 = some (ex, r, σ') := hf
    unfold f_X8_append_5 at hf
    refine lv_iload_n hx hb dX8_append_5 rfl (lv_at hl 3 rfl) ?_
    refine lv_if_lt (tgt := 53) hx hb dX8_append_6 (by decide) (fun hc => ?_) (fun hc => ?_)
    · have hf := zif_t hc hf
      refine lv_aload_n hx hb dX8_append_53 rfl (lv_at hl 0 rfl) ?_
      refine x_getr hx hb hts hinRX8 hown B 0 4 52 (by decide) (by decide) (fun _ => rfl) rfl rfl (by decide) (by decide +kernel) rfl dX8_append_54 ?_
      refine x_geti hx hb hts hinRX1 hown B 52 1 (by decide) (fun _ => rfl) rfl rfl (by decide) (by decide +kernel) rfl dX8_append_57 ?_
      refine lv_iload_n hx hb dX8_append_60 rfl (lv_at hl 2 rfl) ?_
      refine lv_iadd hx hb dX8_append_61 ?_
      refine lv_bipush (v := (40 : Int32)) hx hb dX8_append_62 (by decide) ?_
      refine lv_icmp_gt (tgt := 71) hx hb dX8_append_64 (by decide) (fun hc => ?_) (fun hc => ?_)
      · have hf := zif_t hc hf
        refine lv_iconst (v := (0 : Int32)) hx hb dX8_append_71 (by decide) ?_
        exact L72  _ _ _ _ _ _ hf B (lv_sub hl [0, 1] rfl)
      · have hf := zif_f hc hf
        refine lv_iconst (v := (1 : Int32)) hx hb dX8_append_67 (by decide) ?_
        refine lv_goto (tgt := 72) hx hb dX8_append_68 (by decide) ?_
        exact L72  _ _ _ _ _ _ hf B (lv_sub hl [0, 1] rfl)
    · have hf := zif_f hc hf
      refine lv_iload_n hx hb dX8_append_9 rfl (lv_at hl 1 rfl) ?_
      refine lv_iload_n hx hb dX8_append_10 rfl (lv_at hl 3 rfl) ?_
      refine lv_iushr (v := (v1.toUInt32 >>> (v3.toUInt32 &&& Int32.toUInt32 31)).toInt32) hx hb dX8_append_11 rfl ?_
      refine lv_sipush (v := (255 : Int32)) hx hb dX8_append_12 (by decide) ?_
      refine lv_iand hx hb dX8_append_15 ?_
      refine lv_istore (lv' := [(4, .int (((v1.toUInt32 >>> (v3.toUInt32 &&& Int32.toUInt32 31)).toInt32) &&& (255 : Int32))), (0, .ref (ad 0)), (1, .int v1), (2, .int v2), (3, .int v3)]) hx hb dX8_append_16 hl (by decide) rfl (fun ls hl => ?_)
      refine lv_iload hx hb dX8_append_18 (lv_at hl 0 rfl) ?_
      refine lv_if_eq (tgt := 31) hx hb dX8_append_20 (by decide) (fun hc => ?_) (fun hc => ?_)
      · have hf := zif_t hc hf
        refine lv_iconst (v := (1 : Int32)) hx hb dX8_append_31 (by decide) ?_
        refine lv_goto (tgt := 36) hx hb dX8_append_32 (by decide) ?_
        exact L36_4 _ L5_5  _ _ _ _ _ _ _ _ _ hf B (lv_sub hl [1, 2, 3, 4, 0] rfl)
      · have hf := zif_f hc hf
        refine lv_iload hx hb dX8_append_23 (lv_at hl 0 rfl) ?_
        obtain ⟨r11, σ12, hu10, hf⟩ := zb_some hf
        refine x_i B (fun nb a g hs Bz => va_runS (As := [.int (((v1.toUInt32 >>> (v3.toUInt32 &&& Int32.toUInt32 31)).toInt32) &&& (255 : Int32))]) (rest := []) ⟨hx, hb, hml, hown, hts⟩ (c_X8_isTextSign l hu10 _ nb a g hs) (va_cwS 1 hts gX8_append_X8_isTextSign rfl rfl rfl (by decide +kernel) ⟨Nat.le_of_ble_eq_true rfl, Nat.le_of_ble_eq_true rfl⟩) (z_preS Bz) rfl rfl hl.1 rfl (lv_room (Nat.le_of_ble_eq_true rfl)) dX8_append_25 ⟨Nat.le_of_ble_eq_true rfl, Nat.le_of_ble_eq_true rfl⟩) (fun H locs B => ?_)
        refine lv_if_eq (tgt := 35) hx hb dX8_append_28 (by decide) (fun hc => ?_) (fun hc => ?_)
        · have hf := zif_t hc hf
          refine lv_iconst (v := (0 : Int32)) hx hb dX8_append_35 (by decide) ?_
          exact L36_4 _ L5_5  _ _ _ _ _ _ _ _ _ hf B (lv_sub hl [1, 2, 3, 4, 0] rfl)
        · have hf := zif_f hc hf
          refine lv_iconst (v := (1 : Int32)) hx hb dX8_append_31 (by decide) ?_
          refine lv_goto (tgt := 36) hx hb dX8_append_32 (by decide) ?_
          exact L36_4 _ L5_5  _ _ _ _ _ _ _ _ _ hf B (lv_sub hl [1, 2, 3, 4, 0] rfl)
  have L36_3 : ∀ (K5 : zs → Int32 → Int32 → Int32 → Option (zO)) (hK5 : ∀ (σ : zs) (v1 : Int32) (v2 : Int32) (v3 : Int32) (H : Heap) (locs : List Loc) (ls : Array Slot), K5 σ v1 v2 v3 = some (ex, r, σ') → xB A s G ad σ H locs → lv_has ls 5 [(0, .ref (ad 0)), (1, .int v1), (2, .int v2), (3, .int v3)] → W p l e (headSpec wsX8_append rm_X8_append).room s m ([.ref (ad 0), .int a1] : List Value).toArray below meth c H locs 4 24 (vx_MQ below (va_Qi (fun r' (u : xV) => (ex = 0 ∧ r' = r) ∧ xQ σ' u) (xPost G ad σ' A) A) (xXC G ad ex σ' A) ([.ref (ad 0), .int a1] : List Value).toArray s 5 30 A) (F0 m 5 ls [])) (σ : zs) (v1 : Int32) (v2 : Int32) (v3 : Int32) (v4 : Int32) (s0 : Int32) (H : Heap) (locs : List Loc) (ls : Array Slot), f_X8_append_36 K5 σ v1 v2 v3 v4 s0 = some (ex, r, σ') → xB A s G ad σ H locs → lv_has ls 5 [(0, .ref (ad 0)), (1, .int v1), (2, .int v2), (3, .int v3), (4, .int v4)] → W p l e (headSpec wsX8_append rm_X8_append).room s m ([.ref (ad 0), .int a1] : List Value).toArray below meth c H locs 3 18 (vx_MQ below (va_Qi (fun r' (u : xV) => (ex = 0 ∧ r' = r) ∧ xQ σ' u) (xPost G ad σ' A) A) (xXC G ad ex σ' A) ([.ref (ad 0), .int a1] : List Value).toArray s 5 30 A) (F0 m 36 ls [.int s0]) := by
    intro K5 hK5 σ v1 v2 v3 v4 s0 H locs ls hf B hl
    unfold f_X8_append_36 at hf
    obtain ⟨u13, r14, σ15, hu13, hf⟩ := zx_some hf
    refine x_xv B (fun nb a g hs Bz => vx_runS (As := [.int s0]) (rest := []) ⟨hx, hb, hml, hown, hts⟩ (c_X8_needArgument l hfl hu13 _ nb a g hs) (va_cwS 1 hts gX8_append_X8_needArgument rfl rfl rfl (by decide +kernel) ⟨Nat.le_of_ble_eq_true rfl, Nat.le_of_ble_eq_true rfl⟩) (z_preS Bz) rfl rfl hl.1 rfl (lv_room (Nat.le_of_ble_eq_true rfl)) dX8_append_36 ⟨Nat.le_of_ble_eq_true rfl, Nat.le_of_ble_eq_true rfl⟩) (fun H locs ce q9 h0 B k1 k2 k3 => ?_) (fun H locs h0 B => ?_)
    · exact x_xout hno hlocks (zx_no hf h0) h0 B k1 k2 k3 (Nat.le_of_ble_eq_true rfl) (Nat.le_of_ble_eq_true rfl)
    have hf := zx_ok hf h0
    refine lv_iload hx hb dX8_append_39 (lv_at hl 4 rfl) ?_
    refine lv_if_eq (tgt := 47) hx hb dX8_append_41 (by decide) (fun hc => ?_) (fun hc => ?_)
    · have hf := zif_t hc hf
      refine lv_iinc (v := (v3 + (-8 : Int32))) (lv' := [(3, .int (v3 + (-8 : Int32))), (0, .ref (ad 0)), (1, .int v1), (2, .int v2), (4, .int v4)]) hx hb dX8_append_47 hl (k := 3) rfl (zc1 (by decide)) (by decide) rfl (fun ls hl => ?_)
      refine lv_goto (tgt := 5) hx hb dX8_append_50 (by decide) ?_
      exact hK5 _ _ _ _ _ _ _ hf B (lv_sub hl [1, 2, 3, 0] rfl)
    · have hf := zif_f hc hf
      refine lv_iinc (v := (v2 + (1 : Int32))) (lv' := [(2, .int (v2 + (1 : Int32))), (0, .ref (ad 0)), (1, .int v1), (3, .int v3), (4, .int v4)]) hx hb dX8_append_44 hl (k := 2) rfl (zc1 (by decide)) (by decide) rfl (fun ls hl => ?_)
      refine lv_iinc (v := (v3 + (-8 : Int32))) (lv' := [(3, .int (v3 + (-8 : Int32))), (2, .int (v2 + (1 : Int32))), (0, .ref (ad 0)), (1, .int v1), (4, .int v4)]) hx hb dX8_append_47 hl (k := 3) rfl (zc1 (by decide)) (by decide) rfl (fun ls hl => ?_)
      refine lv_goto (tgt := 5) hx hb dX8_append_50 (by decide) ?_
      exact hK5 _ _ _ _ _ _ _ hf B (lv_sub hl [2, 3, 1, 0] rfl)
  have L5_3 : ∀ (σ : zs) (v1 : Int32) (v2 : Int32) (v3 : Int32) (H : Heap) (locs : List Loc) (ls : Array Slot), zlp3 (f_X8_append_5) 2 σ v1 v2 v3 = some (ex, r, σ') → xB A s G ad σ H locs → lv_has ls 5 [(0, .ref (ad 0)), (1, .int v1), (2, .int v2), (3, .int v3)] → W p l e (headSpec wsX8_append rm_X8_append).room s m ([.ref (ad 0), .int a1] : List Value).toArray below meth c H locs 3 18 (vx_MQ below (va_Qi (fun r' (u : xV) => (ex = 0 ∧ r' = r) ∧ xQ σ' u) (xPost G ad σ' A) A) (xXC G ad ex σ' A) ([.ref (ad 0), .int a1] : List Value).toArray s 5 30 A) (F0 m 5 ls []) := by
    intro σ v1 v2 v3 H locs ls hf B hl
    have hf : f_X8_append_5 (zlp3 (f_X8_append_5) 1) σ v1 v2 v3 = some (ex, r, σ') := hf
    unfold f_X8_append_5 at hf
    refine lv_iload_n hx hb dX8_append_5 rfl (lv_at hl 3 rfl) ?_
    refine lv_if_lt (tgt := 53) hx hb dX8_append_6 (by decide) (fun hc => ?_) (fun hc => ?_)
    · have hf := zif_t hc hf
      refine lv_aload_n hx hb dX8_append_53 rfl (lv_at hl 0 rfl) ?_
      refine x_getr hx hb hts hinRX8 hown B 0 4 52 (by decide) (by decide) (fun _ => rfl) rfl rfl (by decide) (by decide +kernel) rfl dX8_append_54 ?_
      refine x_geti hx hb hts hinRX1 hown B 52 1 (by decide) (fun _ => rfl) rfl rfl (by decide) (by decide +kernel) rfl dX8_append_57 ?_
      refine lv_iload_n hx hb dX8_append_60 rfl (lv_at hl 2 rfl) ?_
      refine lv_iadd hx hb dX8_append_61 ?_
      refine lv_bipush (v := (40 : Int32)) hx hb dX8_append_62 (by decide) ?_
      refine lv_icmp_gt (tgt := 71) hx hb dX8_append_64 (by decide) (fun hc => ?_) (fun hc => ?_)
      · have hf := zif_t hc hf
        refine lv_iconst (v := (0 : Int32)) hx hb dX8_append_71 (by decide) ?_
        refine W.widen (k := 4) (n := 24) (Nat.le_of_ble_eq_true rfl) (Nat.le_of_ble_eq_true rfl) ?_
        exact L72  _ _ _ _ _ _ hf B (lv_sub hl [0, 1] rfl)
      · have hf := zif_f hc hf
        refine lv_iconst (v := (1 : Int32)) hx hb dX8_append_67 (by decide) ?_
        refine lv_goto (tgt := 72) hx hb dX8_append_68 (by decide) ?_
        refine W.widen (k := 4) (n := 24) (Nat.le_of_ble_eq_true rfl) (Nat.le_of_ble_eq_true rfl) ?_
        exact L72  _ _ _ _ _ _ hf B (lv_sub hl [0, 1] rfl)
    · have hf := zif_f hc hf
      refine lv_iload_n hx hb dX8_append_9 rfl (lv_at hl 1 rfl) ?_
      refine lv_iload_n hx hb dX8_append_10 rfl (lv_at hl 3 rfl) ?_
      refine lv_iushr (v := (v1.toUInt32 >>> (v3.toUInt32 &&& Int32.toUInt32 31)).toInt32) hx hb dX8_append_11 rfl ?_
      refine lv_sipush (v := (255 : Int32)) hx hb dX8_append_12 (by decide) ?_
      refine lv_iand hx hb dX8_append_15 ?_
      refine lv_istore (lv' := [(4, .int (((v1.toUInt32 >>> (v3.toUInt32 &&& Int32.toUInt32 31)).toInt32) &&& (255 : Int32))), (0, .ref (ad 0)), (1, .int v1), (2, .int v2), (3, .int v3)]) hx hb dX8_append_16 hl (by decide) rfl (fun ls hl => ?_)
      refine lv_iload hx hb dX8_append_18 (lv_at hl 0 rfl) ?_
      refine lv_if_eq (tgt := 31) hx hb dX8_append_20 (by decide) (fun hc => ?_) (fun hc => ?_)
      · have hf := zif_t hc hf
        refine lv_iconst (v := (1 : Int32)) hx hb dX8_append_31 (by decide) ?_
        refine lv_goto (tgt := 36) hx hb dX8_append_32 (by decide) ?_
        exact L36_3 _ L5_4  _ _ _ _ _ _ _ _ _ hf B (lv_sub hl [1, 2, 3, 4, 0] rfl)
      · have hf := zif_f hc hf
        refine lv_iload hx hb dX8_append_23 (lv_at hl 0 rfl) ?_
        obtain ⟨r17, σ18, hu16, hf⟩ := zb_some hf
        refine x_i B (fun nb a g hs Bz => va_runS (As := [.int (((v1.toUInt32 >>> (v3.toUInt32 &&& Int32.toUInt32 31)).toInt32) &&& (255 : Int32))]) (rest := []) ⟨hx, hb, hml, hown, hts⟩ (c_X8_isTextSign l hu16 _ nb a g hs) (va_cwS 1 hts gX8_append_X8_isTextSign rfl rfl rfl (by decide +kernel) ⟨Nat.le_of_ble_eq_true rfl, Nat.le_of_ble_eq_true rfl⟩) (z_preS Bz) rfl rfl hl.1 rfl (lv_room (Nat.le_of_ble_eq_true rfl)) dX8_append_25 ⟨Nat.le_of_ble_eq_true rfl, Nat.le_of_ble_eq_true rfl⟩) (fun H locs B => ?_)
        refine lv_if_eq (tgt := 35) hx hb dX8_append_28 (by decide) (fun hc => ?_) (fun hc => ?_)
        · have hf := zif_t hc hf
          refine lv_iconst (v := (0 : Int32)) hx hb dX8_append_35 (by decide) ?_
          exact L36_3 _ L5_4  _ _ _ _ _ _ _ _ _ hf B (lv_sub hl [1, 2, 3, 4, 0] rfl)
        · have hf := zif_f hc hf
          refine lv_iconst (v := (1 : Int32)) hx hb dX8_append_31 (by decide) ?_
          refine lv_goto (tgt := 36) hx hb dX8_append_32 (by decide) ?_
          exact L36_3 _ L5_4  _ _ _ _ _ _ _ _ _ hf B (lv_sub hl [1, 2, 3, 4, 0] rfl)
  have L36_2 : ∀ (K5 : zs → Int32 → Int32 → Int32 → Option (zO)) (hK5 : ∀ (σ : zs) (v1 : Int32) (v2 : Int32) (v3 : Int32) (H : Heap) (locs : List Loc) (ls : Array Slot), K5 σ v1 v2 v3 = some (ex, r, σ') → xB A s G ad σ H locs → lv_has ls 5 [(0, .ref (ad 0)), (1, .int v1), (2, .int v2), (3, .int v3)] → W p l e (headSpec wsX8_append rm_X8_append).room s m ([.ref (ad 0), .int a1] : List Value).toArray below meth c H locs 3 18 (vx_MQ below (va_Qi (fun r' (u : xV) => (ex = 0 ∧ r' = r) ∧ xQ σ' u) (xPost G ad σ' A) A) (xXC G ad ex σ' A) ([.ref (ad 0), .int a1] : List Value).toArray s 5 30 A) (F0 m 5 ls [])) (σ : zs) (v1 : Int32) (v2 : Int32) (v3 : Int32) (v4 : Int32) (s0 : Int32) (H : Heap) (locs : List Loc) (ls : Array Slot), f_X8_append_36 K5 σ v1 v2 v3 v4 s0 = some (ex, r, σ') → xB A s G ad σ H locs → lv_has ls 5 [(0, .ref (ad 0)), (1, .int v1), (2, .int v2), (3, .int v3), (4, .int v4)] → W p l e (headSpec wsX8_append rm_X8_append).room s m ([.ref (ad 0), .int a1] : List Value).toArray below meth c H locs 2 12 (vx_MQ below (va_Qi (fun r' (u : xV) => (ex = 0 ∧ r' = r) ∧ xQ σ' u) (xPost G ad σ' A) A) (xXC G ad ex σ' A) ([.ref (ad 0), .int a1] : List Value).toArray s 5 30 A) (F0 m 36 ls [.int s0]) := by
    intro K5 hK5 σ v1 v2 v3 v4 s0 H locs ls hf B hl
    unfold f_X8_append_36 at hf
    obtain ⟨u19, r20, σ21, hu19, hf⟩ := zx_some hf
    refine x_xv B (fun nb a g hs Bz => vx_runS (As := [.int s0]) (rest := []) ⟨hx, hb, hml, hown, hts⟩ (c_X8_needArgument l hfl hu19 _ nb a g hs) (va_cwS 1 hts gX8_append_X8_needArgument rfl rfl rfl (by decide +kernel) ⟨Nat.le_of_ble_eq_true rfl, Nat.le_of_ble_eq_true rfl⟩) (z_preS Bz) rfl rfl hl.1 rfl (lv_room (Nat.le_of_ble_eq_true rfl)) dX8_append_36 ⟨Nat.le_of_ble_eq_true rfl, Nat.le_of_ble_eq_true rfl⟩) (fun H locs ce q9 h0 B k1 k2 k3 => ?_) (fun H locs h0 B => ?_)
    · exact x_xout hno hlocks (zx_no hf h0) h0 B k1 k2 k3 (Nat.le_of_ble_eq_true rfl) (Nat.le_of_ble_eq_true rfl)
    have hf := zx_ok hf h0
    refine lv_iload hx hb dX8_append_39 (lv_at hl 4 rfl) ?_
    refine lv_if_eq (tgt := 47) hx hb dX8_append_41 (by decide) (fun hc => ?_) (fun hc => ?_)
    · have hf := zif_t hc hf
      refine lv_iinc (v := (v3 + (-8 : Int32))) (lv' := [(3, .int (v3 + (-8 : Int32))), (0, .ref (ad 0)), (1, .int v1), (2, .int v2), (4, .int v4)]) hx hb dX8_append_47 hl (k := 3) rfl (zc1 (by decide)) (by decide) rfl (fun ls hl => ?_)
      refine lv_goto (tgt := 5) hx hb dX8_append_50 (by decide) ?_
      exact hK5 _ _ _ _ _ _ _ hf B (lv_sub hl [1, 2, 3, 0] rfl)
    · have hf := zif_f hc hf
      refine lv_iinc (v := (v2 + (1 : Int32))) (lv' := [(2, .int (v2 + (1 : Int32))), (0, .ref (ad 0)), (1, .int v1), (3, .int v3), (4, .int v4)]) hx hb dX8_append_44 hl (k := 2) rfl (zc1 (by decide)) (by decide) rfl (fun ls hl => ?_)
      refine lv_iinc (v := (v3 + (-8 : Int32))) (lv' := [(3, .int (v3 + (-8 : Int32))), (2, .int (v2 + (1 : Int32))), (0, .ref (ad 0)), (1, .int v1), (4, .int v4)]) hx hb dX8_append_47 hl (k := 3) rfl (zc1 (by decide)) (by decide) rfl (fun ls hl => ?_)
      refine lv_goto (tgt := 5) hx hb dX8_append_50 (by decide) ?_
      exact hK5 _ _ _ _ _ _ _ hf B (lv_sub hl [2, 3, 1, 0] rfl)
  have L5_2 : ∀ (σ : zs) (v1 : Int32) (v2 : Int32) (v3 : Int32) (H : Heap) (locs : List Loc) (ls : Array Slot), zlp3 (f_X8_append_5) 3 σ v1 v2 v3 = some (ex, r, σ') → xB A s G ad σ H locs → lv_has ls 5 [(0, .ref (ad 0)), (1, .int v1), (2, .int v2), (3, .int v3)] → W p l e (headSpec wsX8_append rm_X8_append).room s m ([.ref (ad 0), .int a1] : List Value).toArray below meth c H locs 2 12 (vx_MQ below (va_Qi (fun r' (u : xV) => (ex = 0 ∧ r' = r) ∧ xQ σ' u) (xPost G ad σ' A) A) (xXC G ad ex σ' A) ([.ref (ad 0), .int a1] : List Value).toArray s 5 30 A) (F0 m 5 ls []) := by
    intro σ v1 v2 v3 H locs ls hf B hl
    have hf : f_X8_append_5 (zlp3 (f_X8_append_5) 2) σ v1 v2 v3 = some (ex, r, σ') := hf
    unfold f_X8_append_5 at hf
    refine lv_iload_n hx hb dX8_append_5 rfl (lv_at hl 3 rfl) ?_
    refine lv_if_lt (tgt := 53) hx hb dX8_append_6 (by decide) (fun hc => ?_) (fun hc => ?_)
    · have hf := zif_t hc hf
      refine lv_aload_n hx hb dX8_append_53 rfl (lv_at hl 0 rfl) ?_
      refine x_getr hx hb hts hinRX8 hown B 0 4 52 (by decide) (by decide) (fun _ => rfl) rfl rfl (by decide) (by decide +kernel) rfl dX8_append_54 ?_
      refine x_geti hx hb hts hinRX1 hown B 52 1 (by decide) (fun _ => rfl) rfl rfl (by decide) (by decide +kernel) rfl dX8_append_57 ?_
      refine lv_iload_n hx hb dX8_append_60 rfl (lv_at hl 2 rfl) ?_
      refine lv_iadd hx hb dX8_append_61 ?_
      refine lv_bipush (v := (40 : Int32)) hx hb dX8_append_62 (by decide) ?_
      refine lv_icmp_gt (tgt := 71) hx hb dX8_append_64 (by decide) (fun hc => ?_) (fun hc => ?_)
      · have hf := zif_t hc hf
        refine lv_iconst (v := (0 : Int32)) hx hb dX8_append_71 (by decide) ?_
        refine W.widen (k := 4) (n := 24) (Nat.le_of_ble_eq_true rfl) (Nat.le_of_ble_eq_true rfl) ?_
        exact L72  _ _ _ _ _ _ hf B (lv_sub hl [0, 1] rfl)
      · have hf := zif_f hc hf
        refine lv_iconst (v := (1 : Int32)) hx hb dX8_append_67 (by decide) ?_
        refine lv_goto (tgt := 72) hx hb dX8_append_68 (by decide) ?_
        refine W.widen (k := 4) (n := 24) (Nat.le_of_ble_eq_true rfl) (Nat.le_of_ble_eq_true rfl) ?_
        exact L72  _ _ _ _ _ _ hf B (lv_sub hl [0, 1] rfl)
    · have hf := zif_f hc hf
      refine lv_iload_n hx hb dX8_append_9 rfl (lv_at hl 1 rfl) ?_
      refine lv_iload_n hx hb dX8_append_10 rfl (lv_at hl 3 rfl) ?_
      refine lv_iushr (v := (v1.toUInt32 >>> (v3.toUInt32 &&& Int32.toUInt32 31)).toInt32) hx hb dX8_append_11 rfl ?_
      refine lv_sipush (v := (255 : Int32)) hx hb dX8_append_12 (by decide) ?_
      refine lv_iand hx hb dX8_append_15 ?_
      refine lv_istore (lv' := [(4, .int (((v1.toUInt32 >>> (v3.toUInt32 &&& Int32.toUInt32 31)).toInt32) &&& (255 : Int32))), (0, .ref (ad 0)), (1, .int v1), (2, .int v2), (3, .int v3)]) hx hb dX8_append_16 hl (by decide) rfl (fun ls hl => ?_)
      refine lv_iload hx hb dX8_append_18 (lv_at hl 0 rfl) ?_
      refine lv_if_eq (tgt := 31) hx hb dX8_append_20 (by decide) (fun hc => ?_) (fun hc => ?_)
      · have hf := zif_t hc hf
        refine lv_iconst (v := (1 : Int32)) hx hb dX8_append_31 (by decide) ?_
        refine lv_goto (tgt := 36) hx hb dX8_append_32 (by decide) ?_
        exact L36_2 _ L5_3  _ _ _ _ _ _ _ _ _ hf B (lv_sub hl [1, 2, 3, 4, 0] rfl)
      · have hf := zif_f hc hf
        refine lv_iload hx hb dX8_append_23 (lv_at hl 0 rfl) ?_
        obtain ⟨r23, σ24, hu22, hf⟩ := zb_some hf
        refine x_i B (fun nb a g hs Bz => va_runS (As := [.int (((v1.toUInt32 >>> (v3.toUInt32 &&& Int32.toUInt32 31)).toInt32) &&& (255 : Int32))]) (rest := []) ⟨hx, hb, hml, hown, hts⟩ (c_X8_isTextSign l hu22 _ nb a g hs) (va_cwS 1 hts gX8_append_X8_isTextSign rfl rfl rfl (by decide +kernel) ⟨Nat.le_of_ble_eq_true rfl, Nat.le_of_ble_eq_true rfl⟩) (z_preS Bz) rfl rfl hl.1 rfl (lv_room (Nat.le_of_ble_eq_true rfl)) dX8_append_25 ⟨Nat.le_of_ble_eq_true rfl, Nat.le_of_ble_eq_true rfl⟩) (fun H locs B => ?_)
        refine lv_if_eq (tgt := 35) hx hb dX8_append_28 (by decide) (fun hc => ?_) (fun hc => ?_)
        · have hf := zif_t hc hf
          refine lv_iconst (v := (0 : Int32)) hx hb dX8_append_35 (by decide) ?_
          exact L36_2 _ L5_3  _ _ _ _ _ _ _ _ _ hf B (lv_sub hl [1, 2, 3, 4, 0] rfl)
        · have hf := zif_f hc hf
          refine lv_iconst (v := (1 : Int32)) hx hb dX8_append_31 (by decide) ?_
          refine lv_goto (tgt := 36) hx hb dX8_append_32 (by decide) ?_
          exact L36_2 _ L5_3  _ _ _ _ _ _ _ _ _ hf B (lv_sub hl [1, 2, 3, 4, 0] rfl)
  have L36_1 : ∀ (K5 : zs → Int32 → Int32 → Int32 → Option (zO)) (hK5 : ∀ (σ : zs) (v1 : Int32) (v2 : Int32) (v3 : Int32) (H : Heap) (locs : List Loc) (ls : Array Slot), K5 σ v1 v2 v3 = some (ex, r, σ') → xB A s G ad σ H locs → lv_has ls 5 [(0, .ref (ad 0)), (1, .int v1), (2, .int v2), (3, .int v3)] → W p l e (headSpec wsX8_append rm_X8_append).room s m ([.ref (ad 0), .int a1] : List Value).toArray below meth c H locs 2 12 (vx_MQ below (va_Qi (fun r' (u : xV) => (ex = 0 ∧ r' = r) ∧ xQ σ' u) (xPost G ad σ' A) A) (xXC G ad ex σ' A) ([.ref (ad 0), .int a1] : List Value).toArray s 5 30 A) (F0 m 5 ls [])) (σ : zs) (v1 : Int32) (v2 : Int32) (v3 : Int32) (v4 : Int32) (s0 : Int32) (H : Heap) (locs : List Loc) (ls : Array Slot), f_X8_append_36 K5 σ v1 v2 v3 v4 s0 = some (ex, r, σ') → xB A s G ad σ H locs → lv_has ls 5 [(0, .ref (ad 0)), (1, .int v1), (2, .int v2), (3, .int v3), (4, .int v4)] → W p l e (headSpec wsX8_append rm_X8_append).room s m ([.ref (ad 0), .int a1] : List Value).toArray below meth c H locs 1 6 (vx_MQ below (va_Qi (fun r' (u : xV) => (ex = 0 ∧ r' = r) ∧ xQ σ' u) (xPost G ad σ' A) A) (xXC G ad ex σ' A) ([.ref (ad 0), .int a1] : List Value).toArray s 5 30 A) (F0 m 36 ls [.int s0]) := by
    intro K5 hK5 σ v1 v2 v3 v4 s0 H locs ls hf B hl
    unfold f_X8_append_36 at hf
    obtain ⟨u25, r26, σ27, hu25, hf⟩ := zx_some hf
    refine x_xv B (fun nb a g hs Bz => vx_runS (As := [.int s0]) (rest := []) ⟨hx, hb, hml, hown, hts⟩ (c_X8_needArgument l hfl hu25 _ nb a g hs) (va_cwS 1 hts gX8_append_X8_needArgument rfl rfl rfl (by decide +kernel) ⟨Nat.le_of_ble_eq_true rfl, Nat.le_of_ble_eq_true rfl⟩) (z_preS Bz) rfl rfl hl.1 rfl (lv_room (Nat.le_of_ble_eq_true rfl)) dX8_append_36 ⟨Nat.le_of_ble_eq_true rfl, Nat.le_of_ble_eq_true rfl⟩) (fun H locs ce q9 h0 B k1 k2 k3 => ?_) (fun H locs h0 B => ?_)
    · exact x_xout hno hlocks (zx_no hf h0) h0 B k1 k2 k3 (Nat.le_of_ble_eq_true rfl) (Nat.le_of_ble_eq_true rfl)
    have hf := zx_ok hf h0
    refine lv_iload hx hb dX8_append_39 (lv_at hl 4 rfl) ?_
    refine lv_if_eq (tgt := 47) hx hb dX8_append_41 (by decide) (fun hc => ?_) (fun hc => ?_)
    · have hf := zif_t hc hf
      refine lv_iinc (v := (v3 + (-8 : Int32))) (lv' := [(3, .int (v3 + (-8 : Int32))), (0, .ref (ad 0)), (1, .int v1), (2, .int v2), (4, .int v4)]) hx hb dX8_append_47 hl (k := 3) rfl (zc1 (by decide)) (by decide) rfl (fun ls hl => ?_)
      refine lv_goto (tgt := 5) hx hb dX8_append_50 (by decide) ?_
      exact hK5 _ _ _ _ _ _ _ hf B (lv_sub hl [1, 2, 3, 0] rfl)
    · have hf := zif_f hc hf
      refine lv_iinc (v := (v2 + (1 : Int32))) (lv' := [(2, .int (v2 + (1 : Int32))), (0, .ref (ad 0)), (1, .int v1), (3, .int v3), (4, .int v4)]) hx hb dX8_append_44 hl (k := 2) rfl (zc1 (by decide)) (by decide) rfl (fun ls hl => ?_)
      refine lv_iinc (v := (v3 + (-8 : Int32))) (lv' := [(3, .int (v3 + (-8 : Int32))), (2, .int (v2 + (1 : Int32))), (0, .ref (ad 0)), (1, .int v1), (4, .int v4)]) hx hb dX8_append_47 hl (k := 3) rfl (zc1 (by decide)) (by decide) rfl (fun ls hl => ?_)
      refine lv_goto (tgt := 5) hx hb dX8_append_50 (by decide) ?_
      exact hK5 _ _ _ _ _ _ _ hf B (lv_sub hl [2, 3, 1, 0] rfl)
  have L5_1 : ∀ (σ : zs) (v1 : Int32) (v2 : Int32) (v3 : Int32) (H : Heap) (locs : List Loc) (ls : Array Slot), zlp3 (f_X8_append_5) 4 σ v1 v2 v3 = some (ex, r, σ') → xB A s G ad σ H locs → lv_has ls 5 [(0, .ref (ad 0)), (1, .int v1), (2, .int v2), (3, .int v3)] → W p l e (headSpec wsX8_append rm_X8_append).room s m ([.ref (ad 0), .int a1] : List Value).toArray below meth c H locs 1 6 (vx_MQ below (va_Qi (fun r' (u : xV) => (ex = 0 ∧ r' = r) ∧ xQ σ' u) (xPost G ad σ' A) A) (xXC G ad ex σ' A) ([.ref (ad 0), .int a1] : List Value).toArray s 5 30 A) (F0 m 5 ls []) := by
    intro σ v1 v2 v3 H locs ls hf B hl
    have hf : f_X8_append_5 (zlp3 (f_X8_append_5) 3) σ v1 v2 v3 = some (ex, r, σ') := hf
    unfold f_X8_append_5 at hf
    refine lv_iload_n hx hb dX8_append_5 rfl (lv_at hl 3 rfl) ?_
    refine lv_if_lt (tgt := 53) hx hb dX8_append_6 (by decide) (fun hc => ?_) (fun hc => ?_)
    · have hf := zif_t hc hf
      refine lv_aload_n hx hb dX8_append_53 rfl (lv_at hl 0 rfl) ?_
      refine x_getr hx hb hts hinRX8 hown B 0 4 52 (by decide) (by decide) (fun _ => rfl) rfl rfl (by decide) (by decide +kernel) rfl dX8_append_54 ?_
      refine x_geti hx hb hts hinRX1 hown B 52 1 (by decide) (fun _ => rfl) rfl rfl (by decide) (by decide +kernel) rfl dX8_append_57 ?_
      refine lv_iload_n hx hb dX8_append_60 rfl (lv_at hl 2 rfl) ?_
      refine lv_iadd hx hb dX8_append_61 ?_
      refine lv_bipush (v := (40 : Int32)) hx hb dX8_append_62 (by decide) ?_
      refine lv_icmp_gt (tgt := 71) hx hb dX8_append_64 (by decide) (fun hc => ?_) (fun hc => ?_)
      · have hf := zif_t hc hf
        refine lv_iconst (v := (0 : Int32)) hx hb dX8_append_71 (by decide) ?_
        refine W.widen (k := 4) (n := 24) (Nat.le_of_ble_eq_true rfl) (Nat.le_of_ble_eq_true rfl) ?_
        exact L72  _ _ _ _ _ _ hf B (lv_sub hl [0, 1] rfl)
      · have hf := zif_f hc hf
        refine lv_iconst (v := (1 : Int32)) hx hb dX8_append_67 (by decide) ?_
        refine lv_goto (tgt := 72) hx hb dX8_append_68 (by decide) ?_
        refine W.widen (k := 4) (n := 24) (Nat.le_of_ble_eq_true rfl) (Nat.le_of_ble_eq_true rfl) ?_
        exact L72  _ _ _ _ _ _ hf B (lv_sub hl [0, 1] rfl)
    · have hf := zif_f hc hf
      refine lv_iload_n hx hb dX8_append_9 rfl (lv_at hl 1 rfl) ?_
      refine lv_iload_n hx hb dX8_append_10 rfl (lv_at hl 3 rfl) ?_
      refine lv_iushr (v := (v1.toUInt32 >>> (v3.toUInt32 &&& Int32.toUInt32 31)).toInt32) hx hb dX8_append_11 rfl ?_
      refine lv_sipush (v := (255 : Int32)) hx hb dX8_append_12 (by decide) ?_
      refine lv_iand hx hb dX8_append_15 ?_
      refine lv_istore (lv' := [(4, .int (((v1.toUInt32 >>> (v3.toUInt32 &&& Int32.toUInt32 31)).toInt32) &&& (255 : Int32))), (0, .ref (ad 0)), (1, .int v1), (2, .int v2), (3, .int v3)]) hx hb dX8_append_16 hl (by decide) rfl (fun ls hl => ?_)
      refine lv_iload hx hb dX8_append_18 (lv_at hl 0 rfl) ?_
      refine lv_if_eq (tgt := 31) hx hb dX8_append_20 (by decide) (fun hc => ?_) (fun hc => ?_)
      · have hf := zif_t hc hf
        refine lv_iconst (v := (1 : Int32)) hx hb dX8_append_31 (by decide) ?_
        refine lv_goto (tgt := 36) hx hb dX8_append_32 (by decide) ?_
        exact L36_1 _ L5_2  _ _ _ _ _ _ _ _ _ hf B (lv_sub hl [1, 2, 3, 4, 0] rfl)
      · have hf := zif_f hc hf
        refine lv_iload hx hb dX8_append_23 (lv_at hl 0 rfl) ?_
        obtain ⟨r29, σ30, hu28, hf⟩ := zb_some hf
        refine x_i B (fun nb a g hs Bz => va_runS (As := [.int (((v1.toUInt32 >>> (v3.toUInt32 &&& Int32.toUInt32 31)).toInt32) &&& (255 : Int32))]) (rest := []) ⟨hx, hb, hml, hown, hts⟩ (c_X8_isTextSign l hu28 _ nb a g hs) (va_cwS 1 hts gX8_append_X8_isTextSign rfl rfl rfl (by decide +kernel) ⟨Nat.le_of_ble_eq_true rfl, Nat.le_of_ble_eq_true rfl⟩) (z_preS Bz) rfl rfl hl.1 rfl (lv_room (Nat.le_of_ble_eq_true rfl)) dX8_append_25 ⟨Nat.le_of_ble_eq_true rfl, Nat.le_of_ble_eq_true rfl⟩) (fun H locs B => ?_)
        refine lv_if_eq (tgt := 35) hx hb dX8_append_28 (by decide) (fun hc => ?_) (fun hc => ?_)
        · have hf := zif_t hc hf
          refine lv_iconst (v := (0 : Int32)) hx hb dX8_append_35 (by decide) ?_
          exact L36_1 _ L5_2  _ _ _ _ _ _ _ _ _ hf B (lv_sub hl [1, 2, 3, 4, 0] rfl)
        · have hf := zif_f hc hf
          refine lv_iconst (v := (1 : Int32)) hx hb dX8_append_31 (by decide) ?_
          refine lv_goto (tgt := 36) hx hb dX8_append_32 (by decide) ?_
          exact L36_1 _ L5_2  _ _ _ _ _ _ _ _ _ hf B (lv_sub hl [1, 2, 3, 4, 0] rfl)
  have L36_0 : ∀ (K5 : zs → Int32 → Int32 → Int32 → Option (zO)) (hK5 : ∀ (σ : zs) (v1 : Int32) (v2 : Int32) (v3 : Int32) (H : Heap) (locs : List Loc) (ls : Array Slot), K5 σ v1 v2 v3 = some (ex, r, σ') → xB A s G ad σ H locs → lv_has ls 5 [(0, .ref (ad 0)), (1, .int v1), (2, .int v2), (3, .int v3)] → W p l e (headSpec wsX8_append rm_X8_append).room s m ([.ref (ad 0), .int a1] : List Value).toArray below meth c H locs 1 6 (vx_MQ below (va_Qi (fun r' (u : xV) => (ex = 0 ∧ r' = r) ∧ xQ σ' u) (xPost G ad σ' A) A) (xXC G ad ex σ' A) ([.ref (ad 0), .int a1] : List Value).toArray s 5 30 A) (F0 m 5 ls [])) (σ : zs) (v1 : Int32) (v2 : Int32) (v3 : Int32) (v4 : Int32) (s0 : Int32) (H : Heap) (locs : List Loc) (ls : Array Slot), f_X8_append_36 K5 σ v1 v2 v3 v4 s0 = some (ex, r, σ') → xB A s G ad σ H locs → lv_has ls 5 [(0, .ref (ad 0)), (1, .int v1), (2, .int v2), (3, .int v3), (4, .int v4)] → W p l e (headSpec wsX8_append rm_X8_append).room s m ([.ref (ad 0), .int a1] : List Value).toArray below meth c H locs 0 0 (vx_MQ below (va_Qi (fun r' (u : xV) => (ex = 0 ∧ r' = r) ∧ xQ σ' u) (xPost G ad σ' A) A) (xXC G ad ex σ' A) ([.ref (ad 0), .int a1] : List Value).toArray s 5 30 A) (F0 m 36 ls [.int s0]) := by
    intro K5 hK5 σ v1 v2 v3 v4 s0 H locs ls hf B hl
    unfold f_X8_append_36 at hf
    obtain ⟨u31, r32, σ33, hu31, hf⟩ := zx_some hf
    refine x_xv B (fun nb a g hs Bz => vx_runS (As := [.int s0]) (rest := []) ⟨hx, hb, hml, hown, hts⟩ (c_X8_needArgument l hfl hu31 _ nb a g hs) (va_cwS 1 hts gX8_append_X8_needArgument rfl rfl rfl (by decide +kernel) ⟨Nat.le_of_ble_eq_true rfl, Nat.le_of_ble_eq_true rfl⟩) (z_preS Bz) rfl rfl hl.1 rfl (lv_room (Nat.le_of_ble_eq_true rfl)) dX8_append_36 ⟨Nat.le_of_ble_eq_true rfl, Nat.le_of_ble_eq_true rfl⟩) (fun H locs ce q9 h0 B k1 k2 k3 => ?_) (fun H locs h0 B => ?_)
    · exact x_xout hno hlocks (zx_no hf h0) h0 B k1 k2 k3 (Nat.le_of_ble_eq_true rfl) (Nat.le_of_ble_eq_true rfl)
    have hf := zx_ok hf h0
    refine lv_iload hx hb dX8_append_39 (lv_at hl 4 rfl) ?_
    refine lv_if_eq (tgt := 47) hx hb dX8_append_41 (by decide) (fun hc => ?_) (fun hc => ?_)
    · have hf := zif_t hc hf
      refine lv_iinc (v := (v3 + (-8 : Int32))) (lv' := [(3, .int (v3 + (-8 : Int32))), (0, .ref (ad 0)), (1, .int v1), (2, .int v2), (4, .int v4)]) hx hb dX8_append_47 hl (k := 3) rfl (zc1 (by decide)) (by decide) rfl (fun ls hl => ?_)
      refine lv_goto (tgt := 5) hx hb dX8_append_50 (by decide) ?_
      exact hK5 _ _ _ _ _ _ _ hf B (lv_sub hl [1, 2, 3, 0] rfl)
    · have hf := zif_f hc hf
      refine lv_iinc (v := (v2 + (1 : Int32))) (lv' := [(2, .int (v2 + (1 : Int32))), (0, .ref (ad 0)), (1, .int v1), (3, .int v3), (4, .int v4)]) hx hb dX8_append_44 hl (k := 2) rfl (zc1 (by decide)) (by decide) rfl (fun ls hl => ?_)
      refine lv_iinc (v := (v3 + (-8 : Int32))) (lv' := [(3, .int (v3 + (-8 : Int32))), (2, .int (v2 + (1 : Int32))), (0, .ref (ad 0)), (1, .int v1), (4, .int v4)]) hx hb dX8_append_47 hl (k := 3) rfl (zc1 (by decide)) (by decide) rfl (fun ls hl => ?_)
      refine lv_goto (tgt := 5) hx hb dX8_append_50 (by decide) ?_
      exact hK5 _ _ _ _ _ _ _ hf B (lv_sub hl [2, 3, 1, 0] rfl)
  have L5_0 : ∀ (σ : zs) (v1 : Int32) (v2 : Int32) (v3 : Int32) (H : Heap) (locs : List Loc) (ls : Array Slot), zlp3 (f_X8_append_5) 5 σ v1 v2 v3 = some (ex, r, σ') → xB A s G ad σ H locs → lv_has ls 5 [(0, .ref (ad 0)), (1, .int v1), (2, .int v2), (3, .int v3)] → W p l e (headSpec wsX8_append rm_X8_append).room s m ([.ref (ad 0), .int a1] : List Value).toArray below meth c H locs 0 0 (vx_MQ below (va_Qi (fun r' (u : xV) => (ex = 0 ∧ r' = r) ∧ xQ σ' u) (xPost G ad σ' A) A) (xXC G ad ex σ' A) ([.ref (ad 0), .int a1] : List Value).toArray s 5 30 A) (F0 m 5 ls []) := by
    intro σ v1 v2 v3 H locs ls hf B hl
    have hf : f_X8_append_5 (zlp3 (f_X8_append_5) 4) σ v1 v2 v3 = some (ex, r, σ') := hf
    unfold f_X8_append_5 at hf
    refine lv_iload_n hx hb dX8_append_5 rfl (lv_at hl 3 rfl) ?_
    refine lv_if_lt (tgt := 53) hx hb dX8_append_6 (by decide) (fun hc => ?_) (fun hc => ?_)
    · have hf := zif_t hc hf
      refine lv_aload_n hx hb dX8_append_53 rfl (lv_at hl 0 rfl) ?_
      refine x_getr hx hb hts hinRX8 hown B 0 4 52 (by decide) (by decide) (fun _ => rfl) rfl rfl (by decide) (by decide +kernel) rfl dX8_append_54 ?_
      refine x_geti hx hb hts hinRX1 hown B 52 1 (by decide) (fun _ => rfl) rfl rfl (by decide) (by decide +kernel) rfl dX8_append_57 ?_
      refine lv_iload_n hx hb dX8_append_60 rfl (lv_at hl 2 rfl) ?_
      refine lv_iadd hx hb dX8_append_61 ?_
      refine lv_bipush (v := (40 : Int32)) hx hb dX8_append_62 (by decide) ?_
      refine lv_icmp_gt (tgt := 71) hx hb dX8_append_64 (by decide) (fun hc => ?_) (fun hc => ?_)
      · have hf := zif_t hc hf
        refine lv_iconst (v := (0 : Int32)) hx hb dX8_append_71 (by decide) ?_
        refine W.widen (k := 4) (n := 24) (Nat.le_of_ble_eq_true rfl) (Nat.le_of_ble_eq_true rfl) ?_
        exact L72  _ _ _ _ _ _ hf B (lv_sub hl [0, 1] rfl)
      · have hf := zif_f hc hf
        refine lv_iconst (v := (1 : Int32)) hx hb dX8_append_67 (by decide) ?_
        refine lv_goto (tgt := 72) hx hb dX8_append_68 (by decide) ?_
        refine W.widen (k := 4) (n := 24) (Nat.le_of_ble_eq_true rfl) (Nat.le_of_ble_eq_true rfl) ?_
        exact L72  _ _ _ _ _ _ hf B (lv_sub hl [0, 1] rfl)
    · have hf := zif_f hc hf
      refine lv_iload_n hx hb dX8_append_9 rfl (lv_at hl 1 rfl) ?_
      refine lv_iload_n hx hb dX8_append_10 rfl (lv_at hl 3 rfl) ?_
      refine lv_iushr (v := (v1.toUInt32 >>> (v3.toUInt32 &&& Int32.toUInt32 31)).toInt32) hx hb dX8_append_11 rfl ?_
      refine lv_sipush (v := (255 : Int32)) hx hb dX8_append_12 (by decide) ?_
      refine lv_iand hx hb dX8_append_15 ?_
      refine lv_istore (lv' := [(4, .int (((v1.toUInt32 >>> (v3.toUInt32 &&& Int32.toUInt32 31)).toInt32) &&& (255 : Int32))), (0, .ref (ad 0)), (1, .int v1), (2, .int v2), (3, .int v3)]) hx hb dX8_append_16 hl (by decide) rfl (fun ls hl => ?_)
      refine lv_iload hx hb dX8_append_18 (lv_at hl 0 rfl) ?_
      refine lv_if_eq (tgt := 31) hx hb dX8_append_20 (by decide) (fun hc => ?_) (fun hc => ?_)
      · have hf := zif_t hc hf
        refine lv_iconst (v := (1 : Int32)) hx hb dX8_append_31 (by decide) ?_
        refine lv_goto (tgt := 36) hx hb dX8_append_32 (by decide) ?_
        exact L36_0 _ L5_1  _ _ _ _ _ _ _ _ _ hf B (lv_sub hl [1, 2, 3, 4, 0] rfl)
      · have hf := zif_f hc hf
        refine lv_iload hx hb dX8_append_23 (lv_at hl 0 rfl) ?_
        obtain ⟨r35, σ36, hu34, hf⟩ := zb_some hf
        refine x_i B (fun nb a g hs Bz => va_runS (As := [.int (((v1.toUInt32 >>> (v3.toUInt32 &&& Int32.toUInt32 31)).toInt32) &&& (255 : Int32))]) (rest := []) ⟨hx, hb, hml, hown, hts⟩ (c_X8_isTextSign l hu34 _ nb a g hs) (va_cwS 1 hts gX8_append_X8_isTextSign rfl rfl rfl (by decide +kernel) ⟨Nat.le_of_ble_eq_true rfl, Nat.le_of_ble_eq_true rfl⟩) (z_preS Bz) rfl rfl hl.1 rfl (lv_room (Nat.le_of_ble_eq_true rfl)) dX8_append_25 ⟨Nat.le_of_ble_eq_true rfl, Nat.le_of_ble_eq_true rfl⟩) (fun H locs B => ?_)
        refine lv_if_eq (tgt := 35) hx hb dX8_append_28 (by decide) (fun hc => ?_) (fun hc => ?_)
        · have hf := zif_t hc hf
          refine lv_iconst (v := (0 : Int32)) hx hb dX8_append_35 (by decide) ?_
          exact L36_0 _ L5_1  _ _ _ _ _ _ _ _ _ hf B (lv_sub hl [1, 2, 3, 4, 0] rfl)
        · have hf := zif_f hc hf
          refine lv_iconst (v := (1 : Int32)) hx hb dX8_append_31 (by decide) ?_
          refine lv_goto (tgt := 36) hx hb dX8_append_32 (by decide) ?_
          exact L36_0 _ L5_1  _ _ _ _ _ _ _ _ _ hf B (lv_sub hl [1, 2, 3, 4, 0] rfl)
  unfold f_X8_append at hf
  refine lv_iconst (v := (0 : Int32)) hx hb dX8_append_0 (by decide) ?_
  refine lv_istore_n (lv' := [(2, .int (0 : Int32)), (0, .ref (ad 0)), (1, .int a1)]) hx hb dX8_append_1 rfl hl (by decide) rfl (fun ls hl => ?_)
  refine lv_bipush (v := (24 : Int32)) hx hb dX8_append_2 (by decide) ?_
  refine lv_istore_n (lv' := [(3, .int (24 : Int32)), (2, .int (0 : Int32)), (0, .ref (ad 0)), (1, .int a1)]) hx hb dX8_append_4 rfl hl (by decide) rfl (fun ls hl => ?_)
  exact L5_0 _ _ _ _ _ _ _ hf B (lv_sub hl [2, 3, 1, 0] rfl)
theorem dX8_needToken_0 : decode cX8_needToken 0 = .ok (.iload_n 1, 1) := by decide +kernel
theorem dX8_needToken_1 : decode cX8_needToken 1 = .ok (.ifCond .lt 21, 3) := by decide +kernel
theorem dX8_needToken_4 : decode cX8_needToken 4 = .ok (.iload_n 1, 1) := by decide +kernel
theorem dX8_needToken_5 : decode cX8_needToken 5 = .ok (.aload_n 0, 1) := by decide +kernel
theorem dX8_needToken_6 : decode cX8_needToken 6 = .ok (.getfield 12, 3) := by decide +kernel
theorem dX8_needToken_9 : decode cX8_needToken 9 = .ok (.getfield 66, 3) := by decide +kernel
theorem dX8_needToken_12 : decode cX8_needToken 12 = .ok (.getfield 70, 3) := by decide +kernel
theorem dX8_needToken_15 : decode cX8_needToken 15 = .ok (.if_icmp .ge 7, 3) := by decide +kernel
theorem dX8_needToken_18 : decode cX8_needToken 18 = .ok (.iconst 1, 1) := by decide +kernel
theorem dX8_needToken_19 : decode cX8_needToken 19 = .ok (.goto 4, 3) := by decide +kernel
theorem dX8_needToken_22 : decode cX8_needToken 22 = .ok (.iconst 0, 1) := by decide +kernel
theorem dX8_needToken_23 : decode cX8_needToken 23 = .ok (.invokestatic 186, 3) := by decide +kernel
theorem dX8_needToken_26 : decode cX8_needToken 26 = .ok (.return_, 1) := by decide +kernel
set_option maxRecDepth 20000 in
theorem ggX8_needToken_X8_needIndex : GoodIn wsX8_needToken wsX8_needIndex := goodIn_ca (goodIn_r _ [7, 8, 9] (by decide +kernel) (by decide +kernel)) (goodIn_sub (fun _ h => List.mem_cons_of_mem _ (List.mem_append_right _ h)) (by decide +kernel))
set_option maxRecDepth 20000 in
theorem gX8_needToken_X8_needIndex : GoodIn wsX8_needToken (va_wsS RX8 186 yX8_needIndex wsX8_needIndex) := goodIn_app (goodIn_of _ (by decide +kernel)) ggX8_needToken_X8_needIndex
def rm_X8_needToken : Room := { frames := 9, cells := 1, slots := 6, locals := 220 }
set_option maxHeartbeats 4000000 in
set_option maxRecDepth 100000 in
theorem c_X8_needToken (l : Launch) (hfl : l.stackTraces = false) {G : zG} {ad : Nat → Nat} {σ σ' : zs} {a1 : Int32} {ex : Nat} {r : Int32} (hf : f_X8_needToken σ a1 = some (ex, r, σ')) : xXv l yX8_needToken wsX8_needToken rm_X8_needToken G ad σ [.ref (ad 0), .int a1] ex σ' := by
  intro sz nb a g hs
  refine vx_ofW (cc := cX8_needToken) (maxL := 2) (ret := none) (by decide) rfl ?_
  intro p e s m args below meth c s₁ B hml hno hv
  obtain ⟨rfl, hsz, hv⟩ := hv
  have hx := B.exec
  have hb := B.bytes
  have hr := B.returns
  have hts := atoms_spec (ws := wsX8_needToken) B.pre
  have hown : s.vm.findClass RX8 = some m.cls := findClass_of_methodNamed B.named
  have hlocks := B.notSynchronized
  subst hsz
  have B := xB_start hs hv
  have hinRX6 : ∀ w ∈ wsX60, w ∈ wsX8_needToken := by decide +kernel
  have hinRX7 : ∀ w ∈ wsX70, w ∈ wsX8_needToken := by decide +kernel
  have hinRX8 : ∀ w ∈ wsX80, w ∈ wsX8_needToken := by decide +kernel
  have hl := lv_entry ([.ref (ad 0), .int a1]) (n := 2) (Nat.le_of_ble_eq_true rfl)
  rw [lg_entry_eq]
  generalize (lg_sl ([.ref (ad 0), .int a1]) ++ List.replicate (2 - (lg_sl ([.ref (ad 0), .int a1])).length) Slot.unset).toArray = ls at hl ⊢
  have hl : lv_has ls 2 [(0, .ref (ad 0)), (1, .int a1)] := hl
  generalize hAe : xA ad a s.heap.size = A at B ⊢
  have L23 : ∀ (σ : zs) (s0 : Int32) (H : Heap) (locs : List Loc) (ls : Array Slot), f_X8_needToken_23 σ s0 = some (ex, r, σ') → xB A s G ad σ H locs → lv_has ls 2 [] → W p l e (headSpec wsX8_needToken rm_X8_needToken).room s m ([.ref (ad 0), .int a1] : List Value).toArray below meth c H locs 0 0 (vx_MQ below (va_Qv (fun (u : xV) => ex = 0 ∧ xQ σ' u) (xPost G ad σ' A) A) (xXC G ad ex σ' A) ([.ref (ad 0), .int a1] : List Value).toArray s 1 6 A) (F0 m 23 ls [.int s0]) := by
    intro σ s0 H locs ls hf B hl
    unfold f_X8_needToken_23 at hf
    obtain ⟨u1, r2, σ3, hu1, hf⟩ := zx_some hf
    refine x_xv B (fun nb a g hs Bz => vx_runS (As := [.int s0]) (rest := []) ⟨hx, hb, hml, hown, hts⟩ (c_X8_needIndex l hfl hu1 _ nb a g hs) (va_cwS 1 hts gX8_needToken_X8_needIndex rfl rfl rfl (by decide +kernel) ⟨Nat.le_of_ble_eq_true rfl, Nat.le_of_ble_eq_true rfl⟩) (z_preS Bz) rfl rfl hl.1 rfl (lv_room (Nat.le_of_ble_eq_true rfl)) dX8_needToken_23 ⟨Nat.le_of_ble_eq_true rfl, Nat.le_of_ble_eq_true rfl⟩) (fun H locs ce q9 h0 B k1 k2 k3 => ?_) (fun H locs h0 B => ?_)
    · exact x_xout hno hlocks (zx_no hf h0) h0 B k1 k2 k3 (Nat.le_of_ble_eq_true rfl) (Nat.le_of_ble_eq_true rfl)
    have hf := zx_ok hf h0
    refine W.widen (k := 1) (n := 6) (Nat.le_of_ble_eq_true rfl) (Nat.le_of_ble_eq_true rfl) ?_
    exact x_xvret hx hb hr hlocks B hf dX8_needToken_26
  unfold f_X8_needToken at hf
  refine lv_iload_n hx hb dX8_needToken_0 rfl (lv_at hl 1 rfl) ?_
  refine lv_if_lt (tgt := 22) hx hb dX8_needToken_1 (by decide) (fun hc => ?_) (fun hc => ?_)
  · have hf := zif_t hc hf
    refine lv_iconst (v := (0 : Int32)) hx hb dX8_needToken_22 (by decide) ?_
    exact L23  _ _ _ _ _ hf B (lv_sub hl [] rfl)
  · have hf := zif_f hc hf
    refine lv_iload_n hx hb dX8_needToken_4 rfl (lv_at hl 1 rfl) ?_
    refine lv_aload_n hx hb dX8_needToken_5 rfl (lv_at hl 0 rfl) ?_
    refine x_getr hx hb hts hinRX8 hown B 0 0 1 (by decide) (by decide) (fun _ => rfl) rfl rfl (by decide) (by decide +kernel) rfl dX8_needToken_6 ?_
    refine x_getr hx hb hts hinRX6 hown B 1 0 2 (by decide) (by decide) (fun _ => rfl) rfl rfl (by decide) (by decide +kernel) rfl dX8_needToken_9 ?_
    refine x_geti hx hb hts hinRX7 hown B 2 0 (by decide) (fun _ => rfl) rfl rfl (by decide) (by decide +kernel) rfl dX8_needToken_12 ?_
    refine lv_icmp_ge (tgt := 22) hx hb dX8_needToken_15 (by decide) (fun hc => ?_) (fun hc => ?_)
    · have hf := zif_t hc hf
      refine lv_iconst (v := (0 : Int32)) hx hb dX8_needToken_22 (by decide) ?_
      exact L23  _ _ _ _ _ hf B (lv_sub hl [] rfl)
    · have hf := zif_f hc hf
      refine lv_iconst (v := (1 : Int32)) hx hb dX8_needToken_18 (by decide) ?_
      refine lv_goto (tgt := 23) hx hb dX8_needToken_19 (by decide) ?_
      exact L23  _ _ _ _ _ hf B (lv_sub hl [] rfl)
theorem dX8_holdsToken_0 : decode cX8_holdsToken 0 = .ok (.aload_n 0, 1) := by decide +kernel
theorem dX8_holdsToken_1 : decode cX8_holdsToken 1 = .ok (.getfield 12, 3) := by decide +kernel
theorem dX8_holdsToken_4 : decode cX8_holdsToken 4 = .ok (.getfield 66, 3) := by decide +kernel
theorem dX8_holdsToken_7 : decode cX8_holdsToken 7 = .ok (.getfield 137, 3) := by decide +kernel
theorem dX8_holdsToken_10 : decode cX8_holdsToken 10 = .ok (.iload_n 2, 1) := by decide +kernel
theorem dX8_holdsToken_11 : decode cX8_holdsToken 11 = .ok (.iaload, 1) := by decide +kernel
theorem dX8_holdsToken_12 : decode cX8_holdsToken 12 = .ok (.iload_n 1, 1) := by decide +kernel
theorem dX8_holdsToken_13 : decode cX8_holdsToken 13 = .ok (.invokestatic 146, 3) := by decide +kernel
theorem dX8_holdsToken_16 : decode cX8_holdsToken 16 = .ok (.istore_n 3, 1) := by decide +kernel
theorem dX8_holdsToken_17 : decode cX8_holdsToken 17 = .ok (.iload_n 3, 1) := by decide +kernel
theorem dX8_holdsToken_18 : decode cX8_holdsToken 18 = .ok (.ifCond .ne 12, 3) := by decide +kernel
theorem dX8_holdsToken_21 : decode cX8_holdsToken 21 = .ok (.aload_n 0, 1) := by decide +kernel
theorem dX8_holdsToken_22 : decode cX8_holdsToken 22 = .ok (.getfield 26, 3) := by decide +kernel
theorem dX8_holdsToken_25 : decode cX8_holdsToken 25 = .ok (.iconst 1, 1) := by decide +kernel
theorem dX8_holdsToken_26 : decode cX8_holdsToken 26 = .ok (.iload_n 2, 1) := by decide +kernel
theorem dX8_holdsToken_27 : decode cX8_holdsToken 27 = .ok (.invokevirtual 155, 3) := by decide +kernel
theorem dX8_holdsToken_30 : decode cX8_holdsToken 30 = .ok (.iload_n 3, 1) := by decide +kernel
theorem dX8_holdsToken_31 : decode cX8_holdsToken 31 = .ok (.ireturn, 1) := by decide +kernel
set_option maxRecDepth 20000 in
theorem ggX8_holdsToken_X8_hasBit : GoodIn wsX8_holdsToken wsX8_hasBit := goodIn_r _ [8] (by decide +kernel) (by decide +kernel)
set_option maxRecDepth 20000 in
theorem gX8_holdsToken_X8_hasBit : GoodIn wsX8_holdsToken (va_wsS RX8 146 yX8_hasBit wsX8_hasBit) := goodIn_app (goodIn_of _ (by decide +kernel)) ggX8_holdsToken_X8_hasBit
set_option maxRecDepth 20000 in
theorem ggX8_holdsToken_X5_begin : GoodIn wsX8_holdsToken wsX5_begin := goodIn_ca (goodIn_r _ [13, 14, 15, 16, 17, 12, 18, 19, 20, 49, 50, 51] (by decide +kernel) (by decide +kernel)) (goodIn_sub (fun _ h => List.mem_cons_of_mem _ (List.mem_append_right _ h)) (by decide +kernel))
set_option maxRecDepth 20000 in
theorem gX8_holdsToken_X5_begin : GoodIn wsX8_holdsToken (wsV RX8 155 RX5 yX5_begin wsX5_begin) := goodIn_app (goodIn_of _ (by decide +kernel)) ggX8_holdsToken_X5_begin
def rm_X8_holdsToken : Room := { frames := 3, cells := 0, slots := 0, locals := 60 }
set_option maxHeartbeats 4000000 in
set_option maxRecDepth 100000 in
theorem c_X8_holdsToken (l : Launch) {G : zG} {ad : Nat → Nat} {σ σ' : zs} {a1 a2 : Int32} {r : Int32} (hf : f_X8_holdsToken σ a1 a2 = some (r, σ')) : xMi l yX8_holdsToken wsX8_holdsToken rm_X8_holdsToken G ad σ [.ref (ad 0), .int a1, .int a2] r σ' := by
  intro sz nb a g hs
  refine Met.ofW (cc := cX8_holdsToken) (maxL := 4) (ret := (some .boolean)) (by decide) rfl ?_
  intro p e s m args below meth c s₁ B hml hv
  obtain ⟨rfl, hsz, hv⟩ := hv
  have hx := B.exec
  have hb := B.bytes
  have hr := B.returns
  have hts := atoms_spec (ws := wsX8_holdsToken) B.pre
  have hown : s.vm.findClass RX8 = some m.cls := findClass_of_methodNamed B.named
  have hlocks := B.notSynchronized
  subst hsz
  have B := xB_start hs hv
  have hinRX6 : ∀ w ∈ wsX60, w ∈ wsX8_holdsToken := by decide +kernel
  have hinRX7 : ∀ w ∈ wsX70, w ∈ wsX8_holdsToken := by decide +kernel
  have hinRX8 : ∀ w ∈ wsX80, w ∈ wsX8_holdsToken := by decide +kernel
  have hl := lv_entry ([.ref (ad 0), .int a1, .int a2]) (n := 4) (Nat.le_of_ble_eq_true rfl)
  rw [lg_entry_eq]
  generalize (lg_sl ([.ref (ad 0), .int a1, .int a2]) ++ List.replicate (4 - (lg_sl ([.ref (ad 0), .int a1, .int a2])).length) Slot.unset).toArray = ls at hl ⊢
  have hl : lv_has ls 4 [(0, .ref (ad 0)), (1, .int a1), (2, .int a2)] := hl
  generalize hAe : xA ad a s.heap.size = A at B ⊢
  unfold f_X8_holdsToken at hf
  refine lv_aload_n hx hb dX8_holdsToken_0 rfl (lv_at hl 0 rfl) ?_
  refine x_getr hx hb hts hinRX8 hown B 0 0 1 (by decide) (by decide) (fun _ => rfl) rfl rfl (by decide) (by decide +kernel) rfl dX8_holdsToken_1 ?_
  refine x_getr hx hb hts hinRX6 hown B 1 0 2 (by decide) (by decide) (fun _ => rfl) rfl rfl (by decide) (by decide +kernel) rfl dX8_holdsToken_4 ?_
  refine x_getr hx hb hts hinRX7 hown B 2 4 6 (by decide) (by decide) (fun _ => rfl) rfl rfl (by decide) (by decide +kernel) rfl dX8_holdsToken_7 ?_
  refine lv_iload_n hx hb dX8_holdsToken_10 rfl (lv_at hl 2 rfl) ?_
  obtain ⟨hg, hf⟩ := zg_some hf
  refine x_iald hx hb B 6 (by decide) (fun _ => rfl) (zin_ok hg) dX8_holdsToken_11 ?_
  refine lv_iload_n hx hb dX8_holdsToken_12 rfl (lv_at hl 1 rfl) ?_
  obtain ⟨r2, σ3, hu1, hf⟩ := zb_some hf
  refine x_i B (fun nb a g hs Bz => va_runS (As := [.int (σ 6 a2.toNatClampNeg), .int a1]) (rest := []) ⟨hx, hb, hml, hown, hts⟩ (c_X8_hasBit l hu1 _ nb a g hs) (va_cwS 2 hts gX8_holdsToken_X8_hasBit rfl rfl rfl (by decide +kernel) ⟨Nat.le_of_ble_eq_true rfl, Nat.le_of_ble_eq_true rfl⟩) (z_preS Bz) rfl rfl hl.1 rfl (lv_room (Nat.le_of_ble_eq_true rfl)) dX8_holdsToken_13 ⟨Nat.le_of_ble_eq_true rfl, Nat.le_of_ble_eq_true rfl⟩) (fun H locs B => ?_)
  refine lv_istore_n (lv' := [(3, .int r2), (0, .ref (ad 0)), (1, .int a1), (2, .int a2)]) hx hb dX8_holdsToken_16 rfl hl (by decide) rfl (fun ls hl => ?_)
  refine lv_iload_n hx hb dX8_holdsToken_17 rfl (lv_at hl 0 rfl) ?_
  refine lv_if_ne (tgt := 30) hx hb dX8_holdsToken_18 (by decide) (fun hc => ?_) (fun hc => ?_)
  · have hf := zif_f hc hf
    refine lv_iload_n hx hb dX8_holdsToken_30 rfl (lv_at hl 0 rfl) ?_
    obtain ⟨hg, hf⟩ := zg_some hf
    refine W.widen (k := 0) (n := 0) (Nat.le_of_ble_eq_true rfl) (Nat.le_of_ble_eq_true rfl) ?_
    exact x_iret hx hb hr (znz hg) hlocks B hf dX8_holdsToken_31
  · have hf := zif_t hc hf
    refine lv_aload_n hx hb dX8_holdsToken_21 rfl (lv_at hl 1 rfl) ?_
    refine x_getr hx hb hts hinRX8 hown B 0 3 49 (by decide) (by decide) (fun _ => rfl) rfl rfl (by decide) (by decide +kernel) rfl dX8_holdsToken_22 ?_
    refine lv_iconst (v := (1 : Int32)) hx hb dX8_holdsToken_25 (by decide) ?_
    refine lv_iload_n hx hb dX8_holdsToken_26 rfl (lv_at hl 3 rfl) ?_
    obtain ⟨r5, σ6, hu4, hf⟩ := zb_some hf
    refine x_v B (fun nb a g hs Bz => va_runV (As := [.int (1 : Int32), .int a2]) (rest := []) ⟨hx, hb, hml, hown, hts⟩ (c_X5_begin l hu4 _ nb a g hs) (cwV 2 hts gX8_holdsToken_X5_begin rfl rfl rfl (by decide +kernel) ⟨Nat.le_of_ble_eq_true rfl, Nat.le_of_ble_eq_true rfl⟩) (x_preV Bz (by decide) (fun _ => rfl) rfl) rfl rfl hl.1 rfl (lv_room (Nat.le_of_ble_eq_true rfl)) dX8_holdsToken_27 ⟨Nat.le_of_ble_eq_true rfl, Nat.le_of_ble_eq_true rfl⟩) (fun H locs B => ?_)
    refine lv_iload_n hx hb dX8_holdsToken_30 rfl (lv_at hl 0 rfl) ?_
    obtain ⟨hg, hf⟩ := zg_some hf
    refine W.widen (k := 0) (n := 0) (Nat.le_of_ble_eq_true rfl) (Nat.le_of_ble_eq_true rfl) ?_
    exact x_iret hx hb hr (znz hg) hlocks B hf dX8_holdsToken_31
theorem dX8_derive_0 : decode cX8_derive 0 = .ok (.iload_n 1, 1) := by decide +kernel
theorem dX8_derive_1 : decode cX8_derive 1 = .ok (.invokestatic 55, 3) := by decide +kernel
theorem dX8_derive_4 : decode cX8_derive 4 = .ok (.aload_n 0, 1) := by decide +kernel
theorem dX8_derive_5 : decode cX8_derive 5 = .ok (.iload_n 2, 1) := by decide +kernel
theorem dX8_derive_6 : decode cX8_derive 6 = .ok (.invokevirtual 97, 3) := by decide +kernel
theorem dX8_derive_9 : decode cX8_derive 9 = .ok (.aload_n 0, 1) := by decide +kernel
theorem dX8_derive_10 : decode cX8_derive 10 = .ok (.iload_n 1, 1) := by decide +kernel
theorem dX8_derive_11 : decode cX8_derive 11 = .ok (.iload_n 2, 1) := by decide +kernel
theorem dX8_derive_12 : decode cX8_derive 12 = .ok (.invokevirtual 100, 3) := by decide +kernel
theorem dX8_derive_15 : decode cX8_derive 15 = .ok (.istore_n 3, 1) := by decide +kernel
theorem dX8_derive_16 : decode cX8_derive 16 = .ok (.iload_n 3, 1) := by decide +kernel
theorem dX8_derive_17 : decode cX8_derive 17 = .ok (.ifCond .eq 10, 3) := by decide +kernel
theorem dX8_derive_20 : decode cX8_derive 20 = .ok (.aload_n 0, 1) := by decide +kernel
theorem dX8_derive_21 : decode cX8_derive 21 = .ok (.getfield 33, 3) := by decide +kernel
theorem dX8_derive_24 : decode cX8_derive 24 = .ok (.invokevirtual 104, 3) := by decide +kernel
theorem dX8_derive_27 : decode cX8_derive 27 = .ok (.aload_n 0, 1) := by decide +kernel
theorem dX8_derive_28 : decode cX8_derive 28 = .ok (.getfield 33, 3) := by decide +kernel
theorem dX8_derive_31 : decode cX8_derive 31 = .ok (.invokevirtual 107, 3) := by decide +kernel
theorem dX8_derive_34 : decode cX8_derive 34 = .ok (.iload_n 3, 1) := by decide +kernel
theorem dX8_derive_35 : decode cX8_derive 35 = .ok (.invokestatic 110, 3) := by decide +kernel
theorem dX8_derive_38 : decode cX8_derive 38 = .ok (.aload_n 0, 1) := by decide +kernel
theorem dX8_derive_39 : decode cX8_derive 39 = .ok (.getfield 33, 3) := by decide +kernel
theorem dX8_derive_42 : decode cX8_derive 42 = .ok (.getfield 113, 3) := by decide +kernel
theorem dX8_derive_45 : decode cX8_derive 45 = .ok (.iconst (-1), 1) := by decide +kernel
theorem dX8_derive_46 : decode cX8_derive 46 = .ok (.if_icmp .ne 7, 3) := by decide +kernel
theorem dX8_derive_49 : decode cX8_derive 49 = .ok (.iconst 1, 1) := by decide +kernel
theorem dX8_derive_50 : decode cX8_derive 50 = .ok (.goto 4, 3) := by decide +kernel
theorem dX8_derive_53 : decode cX8_derive 53 = .ok (.iconst 0, 1) := by decide +kernel
theorem dX8_derive_54 : decode cX8_derive 54 = .ok (.invokestatic 62, 3) := by decide +kernel
theorem dX8_derive_57 : decode cX8_derive 57 = .ok (.aload_n 0, 1) := by decide +kernel
theorem dX8_derive_58 : decode cX8_derive 58 = .ok (.getfield 12, 3) := by decide +kernel
theorem dX8_derive_61 : decode cX8_derive 61 = .ok (.getfield 66, 3) := by decide +kernel
theorem dX8_derive_64 : decode cX8_derive 64 = .ok (.getfield 70, 3) := by decide +kernel
theorem dX8_derive_67 : decode cX8_derive 67 = .ok (.bipush 28, 2) := by decide +kernel
theorem dX8_derive_69 : decode cX8_derive 69 = .ok (.if_icmp .ge 24, 3) := by decide +kernel
theorem dX8_derive_72 : decode cX8_derive 72 = .ok (.aload_n 0, 1) := by decide +kernel
theorem dX8_derive_73 : decode cX8_derive 73 = .ok (.getfield 12, 3) := by decide +kernel
theorem dX8_derive_76 : decode cX8_derive 76 = .ok (.getfield 66, 3) := by decide +kernel
theorem dX8_derive_79 : decode cX8_derive 79 = .ok (.getfield 116, 3) := by decide +kernel
theorem dX8_derive_82 : decode cX8_derive 82 = .ok (.iload_n 2, 1) := by decide +kernel
theorem dX8_derive_83 : decode cX8_derive 83 = .ok (.iaload, 1) := by decide +kernel
theorem dX8_derive_84 : decode cX8_derive 84 = .ok (.bipush 7, 2) := by decide +kernel
theorem dX8_derive_86 : decode cX8_derive 86 = .ok (.if_icmp .ge 7, 3) := by decide +kernel
theorem dX8_derive_89 : decode cX8_derive 89 = .ok (.iconst 1, 1) := by decide +kernel
theorem dX8_derive_90 : decode cX8_derive 90 = .ok (.goto 4, 3) := by decide +kernel
theorem dX8_derive_93 : decode cX8_derive 93 = .ok (.iconst 0, 1) := by decide +kernel
theorem dX8_derive_94 : decode cX8_derive 94 = .ok (.invokestatic 76, 3) := by decide +kernel
theorem dX8_derive_97 : decode cX8_derive 97 = .ok (.aload_n 0, 1) := by decide +kernel
theorem dX8_derive_98 : decode cX8_derive 98 = .ok (.getfield 12, 3) := by decide +kernel
theorem dX8_derive_101 : decode cX8_derive 101 = .ok (.getfield 66, 3) := by decide +kernel
theorem dX8_derive_104 : decode cX8_derive 104 = .ok (.iload_n 1, 1) := by decide +kernel
theorem dX8_derive_105 : decode cX8_derive 105 = .ok (.iload_n 2, 1) := by decide +kernel
theorem dX8_derive_106 : decode cX8_derive 106 = .ok (.invokevirtual 118, 3) := by decide +kernel
theorem dX8_derive_109 : decode cX8_derive 109 = .ok (.istore 4, 2) := by decide +kernel
theorem dX8_derive_111 : decode cX8_derive 111 = .ok (.iconst 0, 1) := by decide +kernel
theorem dX8_derive_112 : decode cX8_derive 112 = .ok (.istore 5, 2) := by decide +kernel
theorem dX8_derive_114 : decode cX8_derive 114 = .ok (.iload 5, 2) := by decide +kernel
theorem dX8_derive_116 : decode cX8_derive 116 = .ok (.aload_n 0, 1) := by decide +kernel
theorem dX8_derive_117 : decode cX8_derive 117 = .ok (.getfield 33, 3) := by decide +kernel
theorem dX8_derive_120 : decode cX8_derive 120 = .ok (.getfield 121, 3) := by decide +kernel
theorem dX8_derive_123 : decode cX8_derive 123 = .ok (.if_icmp .ge 51, 3) := by decide +kernel
theorem dX8_derive_126 : decode cX8_derive 126 = .ok (.aload_n 0, 1) := by decide +kernel
theorem dX8_derive_127 : decode cX8_derive 127 = .ok (.getfield 12, 3) := by decide +kernel
theorem dX8_derive_130 : decode cX8_derive 130 = .ok (.getfield 66, 3) := by decide +kernel
theorem dX8_derive_133 : decode cX8_derive 133 = .ok (.iload 4, 2) := by decide +kernel
theorem dX8_derive_135 : decode cX8_derive 135 = .ok (.aload_n 0, 1) := by decide +kernel
theorem dX8_derive_136 : decode cX8_derive 136 = .ok (.getfield 33, 3) := by decide +kernel
theorem dX8_derive_139 : decode cX8_derive 139 = .ok (.getfield 124, 3) := by decide +kernel
theorem dX8_derive_142 : decode cX8_derive 142 = .ok (.iload 5, 2) := by decide +kernel
theorem dX8_derive_144 : decode cX8_derive 144 = .ok (.iaload, 1) := by decide +kernel
theorem dX8_derive_145 : decode cX8_derive 145 = .ok (.aload_n 0, 1) := by decide +kernel
theorem dX8_derive_146 : decode cX8_derive 146 = .ok (.getfield 33, 3) := by decide +kernel
theorem dX8_derive_149 : decode cX8_derive 149 = .ok (.getfield 127, 3) := by decide +kernel
theorem dX8_derive_152 : decode cX8_derive 152 = .ok (.iload 5, 2) := by decide +kernel
theorem dX8_derive_154 : decode cX8_derive 154 = .ok (.iaload, 1) := by decide +kernel
theorem dX8_derive_155 : decode cX8_derive 155 = .ok (.aload_n 0, 1) := by decide +kernel
theorem dX8_derive_156 : decode cX8_derive 156 = .ok (.getfield 33, 3) := by decide +kernel
theorem dX8_derive_159 : decode cX8_derive 159 = .ok (.getfield 130, 3) := by decide +kernel
theorem dX8_derive_162 : decode cX8_derive 162 = .ok (.iload 5, 2) := by decide +kernel
theorem dX8_derive_164 : decode cX8_derive 164 = .ok (.iaload, 1) := by decide +kernel
theorem dX8_derive_165 : decode cX8_derive 165 = .ok (.invokevirtual 83, 3) := by decide +kernel
theorem dX8_derive_168 : decode cX8_derive 168 = .ok (.iinc 5 1, 3) := by decide +kernel
theorem dX8_derive_171 : decode cX8_derive 171 = .ok (.goto (-57), 3) := by decide +kernel
theorem dX8_derive_174 : decode cX8_derive 174 = .ok (.iload 4, 2) := by decide +kernel
theorem dX8_derive_176 : decode cX8_derive 176 = .ok (.ireturn, 1) := by decide +kernel
set_option maxRecDepth 20000 in
theorem ggX8_derive_X8_needSubject : GoodIn wsX8_derive wsX8_needSubject := goodIn_ca (goodIn_r _ [14, 15, 16, 13, 17, 18, 19] (by decide +kernel) (by decide +kernel)) (goodIn_sub (fun _ h => List.mem_cons_of_mem _ (List.mem_append_left _ (List.mem_append_left _ (List.mem_append_left _ (List.mem_append_right _ h))))) (by decide +kernel))
set_option maxRecDepth 20000 in
theorem gX8_derive_X8_needSubject : GoodIn wsX8_derive (va_wsS RX8 55 yX8_needSubject wsX8_needSubject) := goodIn_app (goodIn_of _ (by decide +kernel)) ggX8_derive_X8_needSubject
set_option maxRecDepth 20000 in
theorem ggX8_derive_X8_needToken : GoodIn wsX8_derive wsX8_needToken := goodIn_ca (goodIn_r _ [23, 3, 4, 5, 15, 16, 13, 17, 18, 19, 214, 215, 216, 217, 218, 219, 220, 221, 230, 231, 232, 233, 234, 235, 236, 237, 238, 239, 240, 241, 242, 243, 244, 245, 246, 247, 248, 249] (by decide +kernel) (by decide +kernel)) (goodIn_sub (fun _ h => List.mem_cons_of_mem _ (List.mem_append_left _ (List.mem_append_left _ (List.mem_append_left _ (List.mem_append_right _ h))))) (by decide +kernel))
set_option maxRecDepth 20000 in
theorem gX8_derive_X8_needToken : GoodIn wsX8_derive (wsV RX8 97 RX8 yX8_needToken wsX8_needToken) := goodIn_app (goodIn_of _ (by decide +kernel)) ggX8_derive_X8_needToken
set_option maxRecDepth 20000 in
theorem ggX8_derive_X8_holdsToken : GoodIn wsX8_derive wsX8_holdsToken := goodIn_ca (goodIn_r _ [27, 3, 4, 28, 29, 30, 31, 13, 32, 33, 34, 35, 36, 37, 38, 39, 40, 41, 42, 43, 44, 214, 215, 216, 217, 218, 219, 220, 221, 230, 231, 232, 233, 234, 235, 236, 237, 238, 239, 240, 241, 242, 243, 244, 245, 246, 247, 248, 249, 250, 251, 252] (by decide +kernel) (by decide +kernel)) (goodIn_sub (fun _ h => List.mem_cons_of_mem _ (List.mem_append_left _ (List.mem_append_left _ (List.mem_append_left _ (List.mem_append_left _ (List.mem_append_right _ h)))))) (by decide +kernel))
set_option maxRecDepth 20000 in
theorem gX8_derive_X8_holdsToken : GoodIn wsX8_derive (wsV RX8 100 RX8 yX8_holdsToken wsX8_holdsToken) := goodIn_app (goodIn_of _ (by decide +kernel)) ggX8_derive_X8_holdsToken
set_option maxRecDepth 20000 in
theorem ggX8_derive_X1_clear : GoodIn wsX8_derive wsX1_clear := goodIn_r _ [170, 53, 222, 223, 224, 225, 226, 227, 228, 229] (by decide +kernel) (by decide +kernel)
set_option maxRecDepth 20000 in
theorem gX8_derive_X1_clear : GoodIn wsX8_derive (wsV RX8 107 RX1 yX1_clear wsX1_clear) := goodIn_app (goodIn_of _ (by decide +kernel)) ggX8_derive_X1_clear
set_option maxRecDepth 20000 in
theorem ggX8_derive_X8_needPermission : GoodIn wsX8_derive wsX8_needPermission := goodIn_ca (goodIn_r _ [173, 174, 175] (by decide +kernel) (by decide +kernel)) (goodIn_sub (fun _ h => List.mem_cons_of_mem _ (List.mem_append_left _ (List.mem_append_left _ (List.mem_append_right _ h)))) (by decide +kernel))
set_option maxRecDepth 20000 in
theorem gX8_derive_X8_needPermission : GoodIn wsX8_derive (va_wsS RX8 110 yX8_needPermission wsX8_needPermission) := goodIn_app (goodIn_of _ (by decide +kernel)) ggX8_derive_X8_needPermission
set_option maxRecDepth 20000 in
theorem ggX8_derive_X8_needArgument : GoodIn wsX8_derive wsX8_needArgument := goodIn_ca (goodIn_r _ [178, 179, 180] (by decide +kernel) (by decide +kernel)) (goodIn_sub (fun _ h => List.mem_cons_of_mem _ (List.mem_append_left _ (List.mem_append_right _ h))) (by decide +kernel))
set_option maxRecDepth 20000 in
theorem gX8_derive_X8_needArgument : GoodIn wsX8_derive (va_wsS RX8 62 yX8_needArgument wsX8_needArgument) := goodIn_app (goodIn_of _ (by decide +kernel)) ggX8_derive_X8_needArgument
set_option maxRecDepth 20000 in
theorem ggX8_derive_X8_needState : GoodIn wsX8_derive wsX8_needState := goodIn_ca (goodIn_r _ [183, 184, 185] (by decide +kernel) (by decide +kernel)) (goodIn_sub (fun _ h => List.mem_cons_of_mem _ (List.mem_append_right _ h)) (by decide +kernel))
set_option maxRecDepth 20000 in
theorem gX8_derive_X8_needState : GoodIn wsX8_derive (va_wsS RX8 76 yX8_needState wsX8_needState) := goodIn_app (goodIn_of _ (by decide +kernel)) ggX8_derive_X8_needState
set_option maxRecDepth 20000 in
theorem ggX8_derive_X7_makeDerived : GoodIn wsX8_derive wsX7_makeDerived := goodIn_ca (goodIn_r _ [190, 191, 192, 193, 194, 195, 196, 197, 198, 199, 200, 201, 189, 202, 203, 204, 205, 206, 238, 239, 240, 241, 242, 243, 244, 245, 246, 247, 248, 249] (by decide +kernel) (by decide +kernel)) (goodIn_sub (fun _ h => List.mem_cons_of_mem _ (List.mem_append_left _ (List.mem_append_left _ (List.mem_append_left _ (List.mem_append_left _ (List.mem_append_right _ h)))))) (by decide +kernel))
set_option maxRecDepth 20000 in
theorem gX8_derive_X7_makeDerived : GoodIn wsX8_derive (wsV RX8 118 RX7 yX7_makeDerived wsX7_makeDerived) := goodIn_app (goodIn_of _ (by decide +kernel)) ggX8_derive_X7_makeDerived
set_option maxRecDepth 20000 in
theorem ggX8_derive_X7_addCaveat : GoodIn wsX8_derive wsX7_addCaveat := goodIn_ca (goodIn_r _ [210, 206, 211, 212, 213, 238, 239, 240, 241, 242, 243, 244, 245, 246, 247, 248, 249] (by decide +kernel) (by decide +kernel)) (goodIn_sub (fun _ h => List.mem_cons_of_mem _ (List.mem_append_left _ (List.mem_append_left _ (List.mem_append_left _ (List.mem_append_left _ (List.mem_append_right _ h)))))) (by decide +kernel))
set_option maxRecDepth 20000 in
theorem gX8_derive_X7_addCaveat : GoodIn wsX8_derive (wsV RX8 83 RX7 yX7_addCaveat wsX7_addCaveat) := goodIn_app (goodIn_of _ (by decide +kernel)) ggX8_derive_X7_addCaveat
set_option maxRecDepth 20000 in
theorem ggX8_derive_X1_readAll : GoodIn wsX8_derive wsX1_readAll := goodIn_ca (goodIn_r _ [49, 50, 51, 52, 53, 54, 55, 56, 48, 57, 58, 59, 60, 61, 62, 63, 64, 65, 66, 67, 68, 69, 70, 71, 72, 73, 74, 75, 76, 77, 78, 79, 80, 81, 82, 83, 84, 85, 86, 87, 88, 89, 90, 91, 92, 93, 94, 95, 96, 97, 98, 99, 100, 101, 102, 103, 104, 105, 106, 107, 108, 109, 110, 111, 112, 113, 114, 115, 116, 117, 118, 119, 120, 121, 122, 123, 124, 125, 126, 127, 128, 129, 130, 131, 132, 133, 134, 135, 136, 137, 138, 139, 140, 141, 142, 143, 144, 145, 146, 147, 148, 149, 150, 151, 152, 153, 154, 155, 156, 157, 158, 159, 160, 161, 162, 163, 164, 165, 166, 222, 223, 224, 225, 226, 227, 228, 229, 253, 254, 255, 256] (by decide +kernel) (by decide +kernel)) (goodIn_sub (fun _ h => List.mem_cons_of_mem _ (List.mem_append_left _ (List.mem_append_left _ (List.mem_append_left _ (List.mem_append_left _ (List.mem_append_right _ h)))))) (by decide +kernel))
set_option maxRecDepth 20000 in
theorem gX8_derive_X1_readAll : GoodIn wsX8_derive (wsV RX8 104 RX1 yX1_readAll wsX1_readAll) := goodIn_app (goodIn_of _ (by decide +kernel)) ggX8_derive_X1_readAll
def rm_X8_derive : Room := { frames := 10, cells := 5, slots := 30, locals := 241 }
set_option maxHeartbeats 4000000 in
set_option maxRecDepth 100000 in
theorem c_X8_derive (l : Launch) (hfl : l.stackTraces = false) {G : zG} {ad : Nat → Nat} {σ σ' : zs} {a1 a2 : Int32} {ex : Nat} {r : Int32} (hf : f_X8_derive σ a1 a2 = some (ex, r, σ')) : xXi l yX8_derive wsX8_derive rm_X8_derive G ad σ [.ref (ad 0), .int a1, .int a2] ex r σ' := by
  intro sz nb a g hs
  refine vx_ofW (cc := cX8_derive) (maxL := 6) (ret := (some .int)) (by decide) rfl ?_
  intro p e s m args below meth c s₁ B hml hno hv
  obtain ⟨rfl, hsz, hv⟩ := hv
  have hx := B.exec
  have hb := B.bytes
  have hr := B.returns
  have hts := atoms_spec (ws := wsX8_derive) B.pre
  have hown : s.vm.findClass RX8 = some m.cls := findClass_of_methodNamed B.named
  have hlocks := B.notSynchronized
  subst hsz
  have B := xB_start hs hv
  have hinRX1 : ∀ w ∈ wsX10, w ∈ wsX8_derive := by decide +kernel
  have hinRX6 : ∀ w ∈ wsX60, w ∈ wsX8_derive := by decide +kernel
  have hinRX7 : ∀ w ∈ wsX70, w ∈ wsX8_derive := by decide +kernel
  have hinRX8 : ∀ w ∈ wsX80, w ∈ wsX8_derive := by decide +kernel
  have hl := lv_entry ([.ref (ad 0), .int a1, .int a2]) (n := 6) (Nat.le_of_ble_eq_true rfl)
  rw [lg_entry_eq]
  generalize (lg_sl ([.ref (ad 0), .int a1, .int a2]) ++ List.replicate (6 - (lg_sl ([.ref (ad 0), .int a1, .int a2])).length) Slot.unset).toArray = ls at hl ⊢
  have hl : lv_has ls 6 [(0, .ref (ad 0)), (1, .int a1), (2, .int a2)] := hl
  generalize hAe : xA ad a s.heap.size = A at B ⊢
  have L114 : ∀ (n : Nat) (σ : zs) (v4 : Int32) (v5 : Int32) (H : Heap) (locs : List Loc) (ls : Array Slot), zlp2 (f_X8_derive_114) n σ v4 v5 = some (ex, r, σ') → xB A s G ad σ H locs → lv_has ls 6 [(0, .ref (ad 0)), (4, .int v4), (5, .int v5)] → W p l e (headSpec wsX8_derive rm_X8_derive).room s m ([.ref (ad 0), .int a1, .int a2] : List Value).toArray below meth c H locs 5 30 (vx_MQ below (va_Qi (fun r' (u : xV) => (ex = 0 ∧ r' = r) ∧ xQ σ' u) (xPost G ad σ' A) A) (xXC G ad ex σ' A) ([.ref (ad 0), .int a1, .int a2] : List Value).toArray s 5 30 A) (F0 m 114 ls []) := by
    intro n
    induction n with
    | zero =>
      intro σ v4 v5 H locs ls hf
      cases hf
    | succ n ih =>
      intro σ v4 v5 H locs ls hf B hl
      have hf : f_X8_derive_114 (zlp2 (f_X8_derive_114) n) σ v4 v5 = some (ex, r, σ') := hf
      unfold f_X8_derive_114 at hf
      refine lv_iload hx hb dX8_derive_114 (lv_at hl 2 rfl) ?_
      refine lv_aload_n hx hb dX8_derive_116 rfl (lv_at hl 0 rfl) ?_
      refine x_getr hx hb hts hinRX8 hown B 0 4 52 (by decide) (by decide) (fun _ => rfl) rfl rfl (by decide) (by decide +kernel) rfl dX8_derive_117 ?_
      refine x_geti hx hb hts hinRX1 hown B 52 3 (by decide) (fun _ => rfl) rfl rfl (by decide) (by decide +kernel) rfl dX8_derive_120 ?_
      refine lv_icmp_ge (tgt := 174) hx hb dX8_derive_123 (by decide) (fun hc => ?_) (fun hc => ?_)
      · have hf := zif_t hc hf
        refine lv_iload hx hb dX8_derive_174 (lv_at hl 1 rfl) ?_
        refine W.widen (k := 5) (n := 30) (Nat.le_of_ble_eq_true rfl) (Nat.le_of_ble_eq_true rfl) ?_
        exact x_xiret hx hb hr rfl hlocks B hf dX8_derive_176
      · have hf := zif_f hc hf
        refine lv_aload_n hx hb dX8_derive_126 rfl (lv_at hl 0 rfl) ?_
        refine x_getr hx hb hts hinRX8 hown B 0 0 1 (by decide) (by decide) (fun _ => rfl) rfl rfl (by decide) (by decide +kernel) rfl dX8_derive_127 ?_
        refine x_getr hx hb hts hinRX6 hown B 1 0 2 (by decide) (by decide) (fun _ => rfl) rfl rfl (by decide) (by decide +kernel) rfl dX8_derive_130 ?_
        refine lv_iload hx hb dX8_derive_133 (lv_at hl 1 rfl) ?_
        refine lv_aload_n hx hb dX8_derive_135 rfl (lv_at hl 0 rfl) ?_
        refine x_getr hx hb hts hinRX8 hown B 0 4 52 (by decide) (by decide) (fun _ => rfl) rfl rfl (by decide) (by decide +kernel) rfl dX8_derive_136 ?_
        refine x_getr hx hb hts hinRX1 hown B 52 4 54 (by decide) (by decide) (fun _ => rfl) rfl rfl (by decide) (by decide +kernel) rfl dX8_derive_139 ?_
        refine lv_iload hx hb dX8_derive_142 (lv_at hl 2 rfl) ?_
        obtain ⟨hg, hf⟩ := zg_some hf
        refine x_iald hx hb B 54 (by decide) (fun _ => rfl) (zin_ok hg) dX8_derive_144 ?_
        refine lv_aload_n hx hb dX8_derive_145 rfl (lv_at hl 0 rfl) ?_
        refine x_getr hx hb hts hinRX8 hown B 0 4 52 (by decide) (by decide) (fun _ => rfl) rfl rfl (by decide) (by decide +kernel) rfl dX8_derive_146 ?_
        refine x_getr hx hb hts hinRX1 hown B 52 5 55 (by decide) (by decide) (fun _ => rfl) rfl rfl (by decide) (by decide +kernel) rfl dX8_derive_149 ?_
        refine lv_iload hx hb dX8_derive_152 (lv_at hl 2 rfl) ?_
        obtain ⟨hg, hf⟩ := zg_some hf
        refine x_iald hx hb B 55 (by decide) (fun _ => rfl) (zin_ok hg) dX8_derive_154 ?_
        refine lv_aload_n hx hb dX8_derive_155 rfl (lv_at hl 0 rfl) ?_
        refine x_getr hx hb hts hinRX8 hown B 0 4 52 (by decide) (by decide) (fun _ => rfl) rfl rfl (by decide) (by decide +kernel) rfl dX8_derive_156 ?_
        refine x_getr hx hb hts hinRX1 hown B 52 6 56 (by decide) (by decide) (fun _ => rfl) rfl rfl (by decide) (by decide +kernel) rfl dX8_derive_159 ?_
        refine lv_iload hx hb dX8_derive_162 (lv_at hl 2 rfl) ?_
        obtain ⟨hg, hf⟩ := zg_some hf
        refine x_iald hx hb B 56 (by decide) (fun _ => rfl) (zin_ok hg) dX8_derive_164 ?_
        obtain ⟨r26, σ27, hu25, hf⟩ := zb_some hf
        refine x_v B (fun nb a g hs Bz => va_runV (As := [.int v4, .int (σ 54 v5.toNatClampNeg), .int (σ 55 v5.toNatClampNeg), .int (σ 56 v5.toNatClampNeg)]) (rest := []) ⟨hx, hb, hml, hown, hts⟩ (c_X7_addCaveat l hu25 _ nb a g hs) (cwV 4 hts gX8_derive_X7_addCaveat rfl rfl rfl (by decide +kernel) ⟨Nat.le_of_ble_eq_true rfl, Nat.le_of_ble_eq_true rfl⟩) (x_preV Bz (by decide) (fun _ => rfl) rfl) rfl rfl hl.1 rfl (lv_room (Nat.le_of_ble_eq_true rfl)) dX8_derive_165 ⟨Nat.le_of_ble_eq_true rfl, Nat.le_of_ble_eq_true rfl⟩) (fun H locs B => ?_)
        refine lv_iinc (v := (v5 + (1 : Int32))) (lv' := [(5, .int (v5 + (1 : Int32))), (0, .ref (ad 0)), (4, .int v4)]) hx hb dX8_derive_168 hl (k := 2) rfl (zc1 (by decide)) (by decide) rfl (fun ls hl => ?_)
        refine lv_goto (tgt := 114) hx hb dX8_derive_171 (by decide) ?_
        exact ih _ _ _ _ _ _ hf B (lv_sub hl [1, 2, 0] rfl)
  have L94 : ∀ (σ : zs) (v1 : Int32) (v2 : Int32) (s0 : Int32) (H : Heap) (locs : List Loc) (ls : Array Slot), f_X8_derive_94 σ v1 v2 s0 = some (ex, r, σ') → xB A s G ad σ H locs → lv_has ls 6 [(0, .ref (ad 0)), (1, .int v1), (2, .int v2)] → W p l e (headSpec wsX8_derive rm_X8_derive).room s m ([.ref (ad 0), .int a1, .int a2] : List Value).toArray below meth c H locs 4 24 (vx_MQ below (va_Qi (fun r' (u : xV) => (ex = 0 ∧ r' = r) ∧ xQ σ' u) (xPost G ad σ' A) A) (xXC G ad ex σ' A) ([.ref (ad 0), .int a1, .int a2] : List Value).toArray s 5 30 A) (F0 m 94 ls [.int s0]) := by
    intro σ v1 v2 s0 H locs ls hf B hl
    unfold f_X8_derive_94 at hf
    obtain ⟨u19, r20, σ21, hu19, hf⟩ := zx_some hf
    refine x_xv B (fun nb a g hs Bz => vx_runS (As := [.int s0]) (rest := []) ⟨hx, hb, hml, hown, hts⟩ (c_X8_needState l hfl hu19 _ nb a g hs) (va_cwS 1 hts gX8_derive_X8_needState rfl rfl rfl (by decide +kernel) ⟨Nat.le_of_ble_eq_true rfl, Nat.le_of_ble_eq_true rfl⟩) (z_preS Bz) rfl rfl hl.1 rfl (lv_room (Nat.le_of_ble_eq_true rfl)) dX8_derive_94 ⟨Nat.le_of_ble_eq_true rfl, Nat.le_of_ble_eq_true rfl⟩) (fun H locs ce q9 h0 B k1 k2 k3 => ?_) (fun H locs h0 B => ?_)
    · exact x_xout hno hlocks (zx_no hf h0) h0 B k1 k2 k3 (Nat.le_of_ble_eq_true rfl) (Nat.le_of_ble_eq_true rfl)
    have hf := zx_ok hf h0
    refine lv_aload_n hx hb dX8_derive_97 rfl (lv_at hl 0 rfl) ?_
    refine x_getr hx hb hts hinRX8 hown B 0 0 1 (by decide) (by decide) (fun _ => rfl) rfl rfl (by decide) (by decide +kernel) rfl dX8_derive_98 ?_
    refine x_getr hx hb hts hinRX6 hown B 1 0 2 (by decide) (by decide) (fun _ => rfl) rfl rfl (by decide) (by decide +kernel) rfl dX8_derive_101 ?_
    refine lv_iload_n hx hb dX8_derive_104 rfl (lv_at hl 1 rfl) ?_
    refine lv_iload_n hx hb dX8_derive_105 rfl (lv_at hl 2 rfl) ?_
    obtain ⟨r23, σ24, hu22, hf⟩ := zb_some hf
    refine x_i B (fun nb a g hs Bz => va_runV (As := [.int v1, .int v2]) (rest := []) ⟨hx, hb, hml, hown, hts⟩ (c_X7_makeDerived l hu22 _ nb a g hs) (cwV 2 hts gX8_derive_X7_makeDerived rfl rfl rfl (by decide +kernel) ⟨Nat.le_of_ble_eq_true rfl, Nat.le_of_ble_eq_true rfl⟩) (x_preV Bz (by decide) (fun _ => rfl) rfl) rfl rfl hl.1 rfl (lv_room (Nat.le_of_ble_eq_true rfl)) dX8_derive_106 ⟨Nat.le_of_ble_eq_true rfl, Nat.le_of_ble_eq_true rfl⟩) (fun H locs B => ?_)
    refine lv_istore (lv' := [(4, .int r23), (0, .ref (ad 0)), (1, .int v1), (2, .int v2)]) hx hb dX8_derive_109 hl (by decide) rfl (fun ls hl => ?_)
    refine lv_iconst (v := (0 : Int32)) hx hb dX8_derive_111 (by decide) ?_
    refine lv_istore (lv' := [(5, .int (0 : Int32)), (4, .int r23), (0, .ref (ad 0)), (1, .int v1), (2, .int v2)]) hx hb dX8_derive_112 hl (by decide) rfl (fun ls hl => ?_)
    exact L114  _ _ _ _ _ _ _ hf B (lv_sub hl [2, 1, 0] rfl)
  have L54 : ∀ (σ : zs) (v1 : Int32) (v2 : Int32) (s0 : Int32) (H : Heap) (locs : List Loc) (ls : Array Slot), f_X8_derive_54 σ v1 v2 s0 = some (ex, r, σ') → xB A s G ad σ H locs → lv_has ls 6 [(0, .ref (ad 0)), (1, .int v1), (2, .int v2)] → W p l e (headSpec wsX8_derive rm_X8_derive).room s m ([.ref (ad 0), .int a1, .int a2] : List Value).toArray below meth c H locs 3 18 (vx_MQ below (va_Qi (fun r' (u : xV) => (ex = 0 ∧ r' = r) ∧ xQ σ' u) (xPost G ad σ' A) A) (xXC G ad ex σ' A) ([.ref (ad 0), .int a1, .int a2] : List Value).toArray s 5 30 A) (F0 m 54 ls [.int s0]) := by
    intro σ v1 v2 s0 H locs ls hf B hl
    unfold f_X8_derive_54 at hf
    obtain ⟨u16, r17, σ18, hu16, hf⟩ := zx_some hf
    refine x_xv B (fun nb a g hs Bz => vx_runS (As := [.int s0]) (rest := []) ⟨hx, hb, hml, hown, hts⟩ (c_X8_needArgument l hfl hu16 _ nb a g hs) (va_cwS 1 hts gX8_derive_X8_needArgument rfl rfl rfl (by decide +kernel) ⟨Nat.le_of_ble_eq_true rfl, Nat.le_of_ble_eq_true rfl⟩) (z_preS Bz) rfl rfl hl.1 rfl (lv_room (Nat.le_of_ble_eq_true rfl)) dX8_derive_54 ⟨Nat.le_of_ble_eq_true rfl, Nat.le_of_ble_eq_true rfl⟩) (fun H locs ce q9 h0 B k1 k2 k3 => ?_) (fun H locs h0 B => ?_)
    · exact x_xout hno hlocks (zx_no hf h0) h0 B k1 k2 k3 (Nat.le_of_ble_eq_true rfl) (Nat.le_of_ble_eq_true rfl)
    have hf := zx_ok hf h0
    refine lv_aload_n hx hb dX8_derive_57 rfl (lv_at hl 0 rfl) ?_
    refine x_getr hx hb hts hinRX8 hown B 0 0 1 (by decide) (by decide) (fun _ => rfl) rfl rfl (by decide) (by decide +kernel) rfl dX8_derive_58 ?_
    refine x_getr hx hb hts hinRX6 hown B 1 0 2 (by decide) (by decide) (fun _ => rfl) rfl rfl (by decide) (by decide +kernel) rfl dX8_derive_61 ?_
    refine x_geti hx hb hts hinRX7 hown B 2 0 (by decide) (fun _ => rfl) rfl rfl (by decide) (by decide +kernel) rfl dX8_derive_64 ?_
    refine lv_bipush (v := (28 : Int32)) hx hb dX8_derive_67 (by decide) ?_
    refine lv_icmp_ge (tgt := 93) hx hb dX8_derive_69 (by decide) (fun hc => ?_) (fun hc => ?_)
    · have hf := zif_t hc hf
      refine lv_iconst (v := (0 : Int32)) hx hb dX8_derive_93 (by decide) ?_
      exact L94  _ _ _ _ _ _ _ hf B (lv_sub hl [0, 1, 2] rfl)
    · have hf := zif_f hc hf
      refine lv_aload_n hx hb dX8_derive_72 rfl (lv_at hl 0 rfl) ?_
      refine x_getr hx hb hts hinRX8 hown B 0 0 1 (by decide) (by decide) (fun _ => rfl) rfl rfl (by decide) (by decide +kernel) rfl dX8_derive_73 ?_
      refine x_getr hx hb hts hinRX6 hown B 1 0 2 (by decide) (by decide) (fun _ => rfl) rfl rfl (by decide) (by decide +kernel) rfl dX8_derive_76 ?_
      refine x_getr hx hb hts hinRX7 hown B 2 2 4 (by decide) (by decide) (fun _ => rfl) rfl rfl (by decide) (by decide +kernel) rfl dX8_derive_79 ?_
      refine lv_iload_n hx hb dX8_derive_82 rfl (lv_at hl 2 rfl) ?_
      obtain ⟨hg, hf⟩ := zg_some hf
      refine x_iald hx hb B 4 (by decide) (fun _ => rfl) (zin_ok hg) dX8_derive_83 ?_
      refine lv_bipush (v := (7 : Int32)) hx hb dX8_derive_84 (by decide) ?_
      refine lv_icmp_ge (tgt := 93) hx hb dX8_derive_86 (by decide) (fun hc => ?_) (fun hc => ?_)
      · have hf := zif_t hc hf
        refine lv_iconst (v := (0 : Int32)) hx hb dX8_derive_93 (by decide) ?_
        exact L94  _ _ _ _ _ _ _ hf B (lv_sub hl [0, 1, 2] rfl)
      · have hf := zif_f hc hf
        refine lv_iconst (v := (1 : Int32)) hx hb dX8_derive_89 (by decide) ?_
        refine lv_goto (tgt := 94) hx hb dX8_derive_90 (by decide) ?_
        exact L94  _ _ _ _ _ _ _ hf B (lv_sub hl [0, 1, 2] rfl)
  have L27 : ∀ (σ : zs) (v1 : Int32) (v2 : Int32) (v3 : Int32) (H : Heap) (locs : List Loc) (ls : Array Slot), f_X8_derive_27 σ v1 v2 v3 = some (ex, r, σ') → xB A s G ad σ H locs → lv_has ls 6 [(0, .ref (ad 0)), (1, .int v1), (2, .int v2), (3, .int v3)] → W p l e (headSpec wsX8_derive rm_X8_derive).room s m ([.ref (ad 0), .int a1, .int a2] : List Value).toArray below meth c H locs 2 12 (vx_MQ below (va_Qi (fun r' (u : xV) => (ex = 0 ∧ r' = r) ∧ xQ σ' u) (xPost G ad σ' A) A) (xXC G ad ex σ' A) ([.ref (ad 0), .int a1, .int a2] : List Value).toArray s 5 30 A) (F0 m 27 ls []) := by
    intro σ v1 v2 v3 H locs ls hf B hl
    unfold f_X8_derive_27 at hf
    refine lv_aload_n hx hb dX8_derive_27 rfl (lv_at hl 0 rfl) ?_
    refine x_getr hx hb hts hinRX8 hown B 0 4 52 (by decide) (by decide) (fun _ => rfl) rfl rfl (by decide) (by decide +kernel) rfl dX8_derive_28 ?_
    obtain ⟨r11, σ12, hu10, hf⟩ := zb_some hf
    refine x_v B (fun nb a g hs Bz => va_runV (As := []) (rest := []) ⟨hx, hb, hml, hown, hts⟩ (c_X1_clear l hu10 _ nb a g hs) (cwV 0 hts gX8_derive_X1_clear rfl rfl rfl (by decide +kernel) ⟨Nat.le_of_ble_eq_true rfl, Nat.le_of_ble_eq_true rfl⟩) (x_preV Bz (by decide) (fun _ => rfl) rfl) rfl rfl hl.1 rfl (lv_room (Nat.le_of_ble_eq_true rfl)) dX8_derive_31 ⟨Nat.le_of_ble_eq_true rfl, Nat.le_of_ble_eq_true rfl⟩) (fun H locs B => ?_)
    refine lv_iload_n hx hb dX8_derive_34 rfl (lv_at hl 3 rfl) ?_
    obtain ⟨u13, r14, σ15, hu13, hf⟩ := zx_some hf
    refine x_xv B (fun nb a g hs Bz => vx_runS (As := [.int v3]) (rest := []) ⟨hx, hb, hml, hown, hts⟩ (c_X8_needPermission l hfl hu13 _ nb a g hs) (va_cwS 1 hts gX8_derive_X8_needPermission rfl rfl rfl (by decide +kernel) ⟨Nat.le_of_ble_eq_true rfl, Nat.le_of_ble_eq_true rfl⟩) (z_preS Bz) rfl rfl hl.1 rfl (lv_room (Nat.le_of_ble_eq_true rfl)) dX8_derive_35 ⟨Nat.le_of_ble_eq_true rfl, Nat.le_of_ble_eq_true rfl⟩) (fun H locs ce q9 h0 B k1 k2 k3 => ?_) (fun H locs h0 B => ?_)
    · exact x_xout hno hlocks (zx_no hf h0) h0 B k1 k2 k3 (Nat.le_of_ble_eq_true rfl) (Nat.le_of_ble_eq_true rfl)
    have hf := zx_ok hf h0
    refine lv_aload_n hx hb dX8_derive_38 rfl (lv_at hl 0 rfl) ?_
    refine x_getr hx hb hts hinRX8 hown B 0 4 52 (by decide) (by decide) (fun _ => rfl) rfl rfl (by decide) (by decide +kernel) rfl dX8_derive_39 ?_
    refine x_geti hx hb hts hinRX1 hown B 52 2 (by decide) (fun _ => rfl) rfl rfl (by decide) (by decide +kernel) rfl dX8_derive_42 ?_
    refine lv_iconst (v := (-1 : Int32)) hx hb dX8_derive_45 (by decide) ?_
    refine lv_icmp_ne (tgt := 53) hx hb dX8_derive_46 (by decide) (fun hc => ?_) (fun hc => ?_)
    · have hf := zif_f hc hf
      refine lv_iconst (v := (0 : Int32)) hx hb dX8_derive_53 (by decide) ?_
      exact L54  _ _ _ _ _ _ _ hf B (lv_sub hl [0, 1, 2] rfl)
    · have hf := zif_t hc hf
      refine lv_iconst (v := (1 : Int32)) hx hb dX8_derive_49 (by decide) ?_
      refine lv_goto (tgt := 54) hx hb dX8_derive_50 (by decide) ?_
      exact L54  _ _ _ _ _ _ _ hf B (lv_sub hl [0, 1, 2] rfl)
  unfold f_X8_derive at hf
  refine lv_iload_n hx hb dX8_derive_0 rfl (lv_at hl 1 rfl) ?_
  obtain ⟨u1, r2, σ3, hu1, hf⟩ := zx_some hf
  refine x_xv B (fun nb a g hs Bz => vx_runS (As := [.int a1]) (rest := []) ⟨hx, hb, hml, hown, hts⟩ (c_X8_needSubject l hfl hu1 _ nb a g hs) (va_cwS 1 hts gX8_derive_X8_needSubject rfl rfl rfl (by decide +kernel) ⟨Nat.le_of_ble_eq_true rfl, Nat.le_of_ble_eq_true rfl⟩) (z_preS Bz) rfl rfl hl.1 rfl (lv_room (Nat.le_of_ble_eq_true rfl)) dX8_derive_1 ⟨Nat.le_of_ble_eq_true rfl, Nat.le_of_ble_eq_true rfl⟩) (fun H locs ce q9 h0 B k1 k2 k3 => ?_) (fun H locs h0 B => ?_)
  · exact x_xout hno hlocks (zx_no hf h0) h0 B k1 k2 k3 (Nat.le_of_ble_eq_true rfl) (Nat.le_of_ble_eq_true rfl)
  have hf := zx_ok hf h0
  refine lv_aload_n hx hb dX8_derive_4 rfl (lv_at hl 0 rfl) ?_
  refine lv_iload_n hx hb dX8_derive_5 rfl (lv_at hl 2 rfl) ?_
  obtain ⟨u4, r5, σ6, hu4, hf⟩ := zx_some hf
  refine x_xv B (fun nb a g hs Bz => vx_runV (As := [.int a2]) (rest := []) ⟨hx, hb, hml, hown, hts⟩ (c_X8_needToken l hfl hu4 _ nb a g hs) (cwV 1 hts gX8_derive_X8_needToken rfl rfl rfl (by decide +kernel) ⟨Nat.le_of_ble_eq_true rfl, Nat.le_of_ble_eq_true rfl⟩) (x_preV Bz (by decide) (fun _ => rfl) rfl) rfl rfl hl.1 rfl (lv_room (Nat.le_of_ble_eq_true rfl)) dX8_derive_6 ⟨Nat.le_of_ble_eq_true rfl, Nat.le_of_ble_eq_true rfl⟩) (fun H locs ce q9 h0 B k1 k2 k3 => ?_) (fun H locs h0 B => ?_)
  · exact x_xout hno hlocks (zx_no hf h0) h0 B k1 k2 k3 (Nat.le_of_ble_eq_true rfl) (Nat.le_of_ble_eq_true rfl)
  have hf := zx_ok hf h0
  refine lv_aload_n hx hb dX8_derive_9 rfl (lv_at hl 0 rfl) ?_
  refine lv_iload_n hx hb dX8_derive_10 rfl (lv_at hl 1 rfl) ?_
  refine lv_iload_n hx hb dX8_derive_11 rfl (lv_at hl 2 rfl) ?_
  obtain ⟨r8, σ9, hu7, hf⟩ := zb_some hf
  refine x_i B (fun nb a g hs Bz => va_runV (As := [.int a1, .int a2]) (rest := []) ⟨hx, hb, hml, hown, hts⟩ (c_X8_holdsToken l hu7 _ nb a g hs) (cwV 2 hts gX8_derive_X8_holdsToken rfl rfl rfl (by decide +kernel) ⟨Nat.le_of_ble_eq_true rfl, Nat.le_of_ble_eq_true rfl⟩) (x_preV Bz (by decide) (fun _ => rfl) rfl) rfl rfl hl.1 rfl (lv_room (Nat.le_of_ble_eq_true rfl)) dX8_derive_12 ⟨Nat.le_of_ble_eq_true rfl, Nat.le_of_ble_eq_true rfl⟩) (fun H locs B => ?_)
  refine lv_istore_n (lv' := [(3, .int r8), (0, .ref (ad 0)), (1, .int a1), (2, .int a2)]) hx hb dX8_derive_15 rfl hl (by decide) rfl (fun ls hl => ?_)
  refine lv_iload_n hx hb dX8_derive_16 rfl (lv_at hl 0 rfl) ?_
  refine lv_if_eq (tgt := 27) hx hb dX8_derive_17 (by decide) (fun hc => ?_) (fun hc => ?_)
  · have hf := zif_t hc hf
    exact L27  _ _ _ _ _ _ _ hf B (lv_sub hl [1, 2, 3, 0] rfl)
  · have hf := zif_f hc hf
    refine lv_aload_n hx hb dX8_derive_20 rfl (lv_at hl 1 rfl) ?_
    refine x_getr hx hb hts hinRX8 hown B 0 4 52 (by decide) (by decide) (fun _ => rfl) rfl rfl (by decide) (by decide +kernel) rfl dX8_derive_21 ?_
    obtain ⟨r29, σ30, hu28, hf⟩ := zb_some hf
    refine x_v B (fun nb a g hs Bz => va_runV (As := []) (rest := []) ⟨hx, hb, hml, hown, hts⟩ (c_X1_readAll l hu28 _ nb a g hs) (cwV 0 hts gX8_derive_X1_readAll rfl rfl rfl (by decide +kernel) ⟨Nat.le_of_ble_eq_true rfl, Nat.le_of_ble_eq_true rfl⟩) (x_preV Bz (by decide) (fun _ => rfl) rfl) rfl rfl hl.1 rfl (lv_room (Nat.le_of_ble_eq_true rfl)) dX8_derive_24 ⟨Nat.le_of_ble_eq_true rfl, Nat.le_of_ble_eq_true rfl⟩) (fun H locs B => ?_)
    exact L27  _ _ _ _ _ _ _ hf B (lv_sub hl [1, 2, 3, 0] rfl)
theorem dX8_errorPosition_0 : decode cX8_errorPosition 0 = .ok (.aload_n 0, 1) := by decide +kernel
theorem dX8_errorPosition_1 : decode cX8_errorPosition 1 = .ok (.getfield 33, 3) := by decide +kernel
theorem dX8_errorPosition_4 : decode cX8_errorPosition 4 = .ok (.getfield 113, 3) := by decide +kernel
theorem dX8_errorPosition_7 : decode cX8_errorPosition 7 = .ok (.ireturn, 1) := by decide +kernel
def rm_X8_errorPosition : Room := { frames := 1, cells := 0, slots := 0, locals := 16 }
set_option maxHeartbeats 4000000 in
set_option maxRecDepth 100000 in
theorem c_X8_errorPosition (l : Launch) {G : zG} {ad : Nat → Nat} {σ σ' : zs} {r : Int32} (hf : f_X8_errorPosition σ  = some (r, σ')) : xMi l yX8_errorPosition wsX8_errorPosition rm_X8_errorPosition G ad σ [.ref (ad 0)] r σ' := by
  intro sz nb a g hs
  refine Met.ofW (cc := cX8_errorPosition) (maxL := 1) (ret := (some .int)) (by decide) rfl ?_
  intro p e s m args below meth c s₁ B hml hv
  obtain ⟨rfl, hsz, hv⟩ := hv
  have hx := B.exec
  have hb := B.bytes
  have hr := B.returns
  have hts := atoms_spec (ws := wsX8_errorPosition) B.pre
  have hown : s.vm.findClass RX8 = some m.cls := findClass_of_methodNamed B.named
  have hlocks := B.notSynchronized
  subst hsz
  have B := xB_start hs hv
  have hinRX1 : ∀ w ∈ wsX10, w ∈ wsX8_errorPosition := by decide +kernel
  have hinRX8 : ∀ w ∈ wsX80, w ∈ wsX8_errorPosition := by decide +kernel
  have hl := lv_entry ([.ref (ad 0)]) (n := 1) (Nat.le_of_ble_eq_true rfl)
  rw [lg_entry_eq]
  generalize (lg_sl ([.ref (ad 0)]) ++ List.replicate (1 - (lg_sl ([.ref (ad 0)])).length) Slot.unset).toArray = ls at hl ⊢
  have hl : lv_has ls 1 [(0, .ref (ad 0))] := hl
  generalize hAe : xA ad a s.heap.size = A at B ⊢
  unfold f_X8_errorPosition at hf
  refine lv_aload_n hx hb dX8_errorPosition_0 rfl (lv_at hl 0 rfl) ?_
  refine x_getr hx hb hts hinRX8 hown B 0 4 52 (by decide) (by decide) (fun _ => rfl) rfl rfl (by decide) (by decide +kernel) rfl dX8_errorPosition_1 ?_
  refine x_geti hx hb hts hinRX1 hown B 52 2 (by decide) (fun _ => rfl) rfl rfl (by decide) (by decide +kernel) rfl dX8_errorPosition_4 ?_
  refine W.widen (k := 0) (n := 0) (Nat.le_of_ble_eq_true rfl) (Nat.le_of_ble_eq_true rfl) ?_
  exact x_iret hx hb hr rfl hlocks B hf dX8_errorPosition_7
theorem dX8_caveatHolds_0 : decode cX8_caveatHolds 0 = .ok (.iload_n 0, 1) := by decide +kernel
theorem dX8_caveatHolds_1 : decode cX8_caveatHolds 1 = .ok (.tableswitch 74 0 4 #[35, 74, 47, 74, 58], 35) := by decide +kernel
theorem dX8_caveatHolds_36 : decode cX8_caveatHolds 36 = .ok (.iload_n 1, 1) := by decide +kernel
theorem dX8_caveatHolds_37 : decode cX8_caveatHolds 37 = .ok (.iload_n 3, 1) := by decide +kernel
theorem dX8_caveatHolds_38 : decode cX8_caveatHolds 38 = .ok (.iand, 1) := by decide +kernel
theorem dX8_caveatHolds_39 : decode cX8_caveatHolds 39 = .ok (.ifCond .eq 7, 3) := by decide +kernel
theorem dX8_caveatHolds_42 : decode cX8_caveatHolds 42 = .ok (.iconst 1, 1) := by decide +kernel
theorem dX8_caveatHolds_43 : decode cX8_caveatHolds 43 = .ok (.goto 4, 3) := by decide +kernel
theorem dX8_caveatHolds_46 : decode cX8_caveatHolds 46 = .ok (.iconst 0, 1) := by decide +kernel
theorem dX8_caveatHolds_47 : decode cX8_caveatHolds 47 = .ok (.ireturn, 1) := by decide +kernel
theorem dX8_caveatHolds_48 : decode cX8_caveatHolds 48 = .ok (.iload_n 3, 1) := by decide +kernel
theorem dX8_caveatHolds_49 : decode cX8_caveatHolds 49 = .ok (.iload_n 1, 1) := by decide +kernel
theorem dX8_caveatHolds_50 : decode cX8_caveatHolds 50 = .ok (.if_icmp .ne 7, 3) := by decide +kernel
theorem dX8_caveatHolds_53 : decode cX8_caveatHolds 53 = .ok (.iconst 1, 1) := by decide +kernel
theorem dX8_caveatHolds_54 : decode cX8_caveatHolds 54 = .ok (.goto 4, 3) := by decide +kernel
theorem dX8_caveatHolds_57 : decode cX8_caveatHolds 57 = .ok (.iconst 0, 1) := by decide +kernel
theorem dX8_caveatHolds_58 : decode cX8_caveatHolds 58 = .ok (.ireturn, 1) := by decide +kernel
theorem dX8_caveatHolds_59 : decode cX8_caveatHolds 59 = .ok (.iload_n 3, 1) := by decide +kernel
theorem dX8_caveatHolds_60 : decode cX8_caveatHolds 60 = .ok (.iload_n 1, 1) := by decide +kernel
theorem dX8_caveatHolds_61 : decode cX8_caveatHolds 61 = .ok (.if_icmp .lt 12, 3) := by decide +kernel
theorem dX8_caveatHolds_64 : decode cX8_caveatHolds 64 = .ok (.iload_n 3, 1) := by decide +kernel
theorem dX8_caveatHolds_65 : decode cX8_caveatHolds 65 = .ok (.iload_n 2, 1) := by decide +kernel
theorem dX8_caveatHolds_66 : decode cX8_caveatHolds 66 = .ok (.if_icmp .gt 7, 3) := by decide +kernel
theorem dX8_caveatHolds_69 : decode cX8_caveatHolds 69 = .ok (.iconst 1, 1) := by decide +kernel
theorem dX8_caveatHolds_70 : decode cX8_caveatHolds 70 = .ok (.goto 4, 3) := by decide +kernel
theorem dX8_caveatHolds_73 : decode cX8_caveatHolds 73 = .ok (.iconst 0, 1) := by decide +kernel
theorem dX8_caveatHolds_74 : decode cX8_caveatHolds 74 = .ok (.ireturn, 1) := by decide +kernel
theorem dX8_caveatHolds_75 : decode cX8_caveatHolds 75 = .ok (.iload_n 3, 1) := by decide +kernel
theorem dX8_caveatHolds_76 : decode cX8_caveatHolds 76 = .ok (.iload_n 1, 1) := by decide +kernel
theorem dX8_caveatHolds_77 : decode cX8_caveatHolds 77 = .ok (.if_icmp .ge 7, 3) := by decide +kernel
theorem dX8_caveatHolds_80 : decode cX8_caveatHolds 80 = .ok (.iconst 1, 1) := by decide +kernel
theorem dX8_caveatHolds_81 : decode cX8_caveatHolds 81 = .ok (.goto 4, 3) := by decide +kernel
theorem dX8_caveatHolds_84 : decode cX8_caveatHolds 84 = .ok (.iconst 0, 1) := by decide +kernel
theorem dX8_caveatHolds_85 : decode cX8_caveatHolds 85 = .ok (.ireturn, 1) := by decide +kernel
def rm_X8_caveatHolds : Room := { frames := 1, cells := 0, slots := 0, locals := 16 }
set_option maxHeartbeats 4000000 in
set_option maxRecDepth 100000 in
theorem c_X8_caveatHolds (l : Launch) {G : zG} {ad : Nat → Nat} {σ σ' : zs} {a0 a1 a2 a3 : Int32} {r : Int32} (hf : f_X8_caveatHolds σ a0 a1 a2 a3 = some (r, σ')) : xMi l yX8_caveatHolds wsX8_caveatHolds rm_X8_caveatHolds G ad σ [.int a0, .int a1, .int a2, .int a3] r σ' := by
  intro sz nb a g hs
  refine Met.ofW (cc := cX8_caveatHolds) (maxL := 4) (ret := (some .boolean)) (by decide) rfl ?_
  intro p e s m args below meth c s₁ B hml hv
  obtain ⟨rfl, hsz, hv⟩ := hv
  have hx := B.exec
  have hb := B.bytes
  have hr := B.returns
  have hts := atoms_spec (ws := wsX8_caveatHolds) B.pre
  have hown : s.vm.findClass RX8 = some m.cls := findClass_of_methodNamed B.named
  have hlocks := B.notSynchronized
  subst hsz
  have B := xB_start hs hv
  have hl := lv_entry ([.int a0, .int a1, .int a2, .int a3]) (n := 4) (Nat.le_of_ble_eq_true rfl)
  rw [lg_entry_eq]
  generalize (lg_sl ([.int a0, .int a1, .int a2, .int a3]) ++ List.replicate (4 - (lg_sl ([.int a0, .int a1, .int a2, .int a3])).length) Slot.unset).toArray = ls at hl ⊢
  have hl : lv_has ls 4 [(0, .int a0), (1, .int a1), (2, .int a2), (3, .int a3)] := hl
  generalize hAe : xA ad a s.heap.size = A at B ⊢
  unfold f_X8_caveatHolds at hf
  refine lv_iload_n hx hb dX8_caveatHolds_0 rfl (lv_at hl 0 rfl) ?_
  by_cases hc0 : a0 = (0 : Int32)
  · have hf := zif_t hc0 hf
    refine lv_tableIn (off := 35) (tgt := 36) hx hb dX8_caveatHolds_1 (by rw [hc0]; decide) (by rw [hc0]; decide) (by rw [hc0]; rfl) (by decide) ?_
    refine lv_iload_n hx hb dX8_caveatHolds_36 rfl (lv_at hl 1 rfl) ?_
    refine lv_iload_n hx hb dX8_caveatHolds_37 rfl (lv_at hl 3 rfl) ?_
    refine lv_iand hx hb dX8_caveatHolds_38 ?_
    refine lv_if_eq (tgt := 46) hx hb dX8_caveatHolds_39 (by decide) (fun hc => ?_) (fun hc => ?_)
    · have hf := zif_t hc hf
      refine lv_iconst (v := (0 : Int32)) hx hb dX8_caveatHolds_46 (by decide) ?_
      refine W.widen (k := 0) (n := 0) (Nat.le_of_ble_eq_true rfl) (Nat.le_of_ble_eq_true rfl) ?_
      exact x_iret hx hb hr (by decide) hlocks B hf dX8_caveatHolds_47
    · have hf := zif_f hc hf
      refine lv_iconst (v := (1 : Int32)) hx hb dX8_caveatHolds_42 (by decide) ?_
      refine lv_goto (tgt := 47) hx hb dX8_caveatHolds_43 (by decide) ?_
      refine W.widen (k := 0) (n := 0) (Nat.le_of_ble_eq_true rfl) (Nat.le_of_ble_eq_true rfl) ?_
      exact x_iret hx hb hr (by decide) hlocks B hf dX8_caveatHolds_47
  have hf := zif_f hc0 hf
  by_cases hc1 : a0 = (1 : Int32)
  · have hf := zif_t hc1 hf
    refine lv_tableIn (off := 74) (tgt := 75) hx hb dX8_caveatHolds_1 (by rw [hc1]; decide) (by rw [hc1]; decide) (by rw [hc1]; rfl) (by decide) ?_
    refine lv_iload_n hx hb dX8_caveatHolds_75 rfl (lv_at hl 3 rfl) ?_
    refine lv_iload_n hx hb dX8_caveatHolds_76 rfl (lv_at hl 1 rfl) ?_
    refine lv_icmp_ge (tgt := 84) hx hb dX8_caveatHolds_77 (by decide) (fun hc => ?_) (fun hc => ?_)
    · have hf := zif_t hc hf
      refine lv_iconst (v := (0 : Int32)) hx hb dX8_caveatHolds_84 (by decide) ?_
      refine W.widen (k := 0) (n := 0) (Nat.le_of_ble_eq_true rfl) (Nat.le_of_ble_eq_true rfl) ?_
      exact x_iret hx hb hr (by decide) hlocks B hf dX8_caveatHolds_85
    · have hf := zif_f hc hf
      refine lv_iconst (v := (1 : Int32)) hx hb dX8_caveatHolds_80 (by decide) ?_
      refine lv_goto (tgt := 85) hx hb dX8_caveatHolds_81 (by decide) ?_
      refine W.widen (k := 0) (n := 0) (Nat.le_of_ble_eq_true rfl) (Nat.le_of_ble_eq_true rfl) ?_
      exact x_iret hx hb hr (by decide) hlocks B hf dX8_caveatHolds_85
  have hf := zif_f hc1 hf
  by_cases hc2 : a0 = (2 : Int32)
  · have hf := zif_t hc2 hf
    refine lv_tableIn (off := 47) (tgt := 48) hx hb dX8_caveatHolds_1 (by rw [hc2]; decide) (by rw [hc2]; decide) (by rw [hc2]; rfl) (by decide) ?_
    refine lv_iload_n hx hb dX8_caveatHolds_48 rfl (lv_at hl 3 rfl) ?_
    refine lv_iload_n hx hb dX8_caveatHolds_49 rfl (lv_at hl 1 rfl) ?_
    refine lv_icmp_ne (tgt := 57) hx hb dX8_caveatHolds_50 (by decide) (fun hc => ?_) (fun hc => ?_)
    · have hf := zif_f hc hf
      refine lv_iconst (v := (0 : Int32)) hx hb dX8_caveatHolds_57 (by decide) ?_
      refine W.widen (k := 0) (n := 0) (Nat.le_of_ble_eq_true rfl) (Nat.le_of_ble_eq_true rfl) ?_
      exact x_iret hx hb hr (by decide) hlocks B hf dX8_caveatHolds_58
    · have hf := zif_t hc hf
      refine lv_iconst (v := (1 : Int32)) hx hb dX8_caveatHolds_53 (by decide) ?_
      refine lv_goto (tgt := 58) hx hb dX8_caveatHolds_54 (by decide) ?_
      refine W.widen (k := 0) (n := 0) (Nat.le_of_ble_eq_true rfl) (Nat.le_of_ble_eq_true rfl) ?_
      exact x_iret hx hb hr (by decide) hlocks B hf dX8_caveatHolds_58
  have hf := zif_f hc2 hf
  by_cases hc3 : a0 = (3 : Int32)
  · have hf := zif_t hc3 hf
    refine lv_tableIn (off := 74) (tgt := 75) hx hb dX8_caveatHolds_1 (by rw [hc3]; decide) (by rw [hc3]; decide) (by rw [hc3]; rfl) (by decide) ?_
    refine lv_iload_n hx hb dX8_caveatHolds_75 rfl (lv_at hl 3 rfl) ?_
    refine lv_iload_n hx hb dX8_caveatHolds_76 rfl (lv_at hl 1 rfl) ?_
    refine lv_icmp_ge (tgt := 84) hx hb dX8_caveatHolds_77 (by decide) (fun hc => ?_) (fun hc => ?_)
    · have hf := zif_t hc hf
      refine lv_iconst (v := (0 : Int32)) hx hb dX8_caveatHolds_84 (by decide) ?_
      refine W.widen (k := 0) (n := 0) (Nat.le_of_ble_eq_true rfl) (Nat.le_of_ble_eq_true rfl) ?_
      exact x_iret hx hb hr (by decide) hlocks B hf dX8_caveatHolds_85
    · have hf := zif_f hc hf
      refine lv_iconst (v := (1 : Int32)) hx hb dX8_caveatHolds_80 (by decide) ?_
      refine lv_goto (tgt := 85) hx hb dX8_caveatHolds_81 (by decide) ?_
      refine W.widen (k := 0) (n := 0) (Nat.le_of_ble_eq_true rfl) (Nat.le_of_ble_eq_true rfl) ?_
      exact x_iret hx hb hr (by decide) hlocks B hf dX8_caveatHolds_85
  have hf := zif_f hc3 hf
  by_cases hc4 : a0 = (4 : Int32)
  · have hf := zif_t hc4 hf
    refine lv_tableIn (off := 58) (tgt := 59) hx hb dX8_caveatHolds_1 (by rw [hc4]; decide) (by rw [hc4]; decide) (by rw [hc4]; rfl) (by decide) ?_
    refine lv_iload_n hx hb dX8_caveatHolds_59 rfl (lv_at hl 3 rfl) ?_
    refine lv_iload_n hx hb dX8_caveatHolds_60 rfl (lv_at hl 1 rfl) ?_
    refine lv_icmp_lt (tgt := 73) hx hb dX8_caveatHolds_61 (by decide) (fun hc => ?_) (fun hc => ?_)
    · have hf := zif_t hc hf
      refine lv_iconst (v := (0 : Int32)) hx hb dX8_caveatHolds_73 (by decide) ?_
      refine W.widen (k := 0) (n := 0) (Nat.le_of_ble_eq_true rfl) (Nat.le_of_ble_eq_true rfl) ?_
      exact x_iret hx hb hr (by decide) hlocks B hf dX8_caveatHolds_74
    · have hf := zif_f hc hf
      refine lv_iload_n hx hb dX8_caveatHolds_64 rfl (lv_at hl 3 rfl) ?_
      refine lv_iload_n hx hb dX8_caveatHolds_65 rfl (lv_at hl 2 rfl) ?_
      refine lv_icmp_gt (tgt := 73) hx hb dX8_caveatHolds_66 (by decide) (fun hc => ?_) (fun hc => ?_)
      · have hf := zif_t hc hf
        refine lv_iconst (v := (0 : Int32)) hx hb dX8_caveatHolds_73 (by decide) ?_
        refine W.widen (k := 0) (n := 0) (Nat.le_of_ble_eq_true rfl) (Nat.le_of_ble_eq_true rfl) ?_
        exact x_iret hx hb hr (by decide) hlocks B hf dX8_caveatHolds_74
      · have hf := zif_f hc hf
        refine lv_iconst (v := (1 : Int32)) hx hb dX8_caveatHolds_69 (by decide) ?_
        refine lv_goto (tgt := 74) hx hb dX8_caveatHolds_70 (by decide) ?_
        refine W.widen (k := 0) (n := 0) (Nat.le_of_ble_eq_true rfl) (Nat.le_of_ble_eq_true rfl) ?_
        exact x_iret hx hb hr (by decide) hlocks B hf dX8_caveatHolds_74
  have hf := zif_f hc4 hf
  refine lv_tableOut (tgt := 75) hx hb dX8_caveatHolds_1 (zsw_out (fun j h1 h2 hj => ?_)) (by decide) ?_
  · have hd : j = 0 ∨ j = 1 ∨ j = 2 ∨ j = 3 ∨ j = 4 := by omega
    rcases hd with rfl | rfl | rfl | rfl | rfl
    · exact hc0 (Int32.toInt_inj.mp (hj.trans (by decide)))
    · exact hc1 (Int32.toInt_inj.mp (hj.trans (by decide)))
    · exact hc2 (Int32.toInt_inj.mp (hj.trans (by decide)))
    · exact hc3 (Int32.toInt_inj.mp (hj.trans (by decide)))
    · exact hc4 (Int32.toInt_inj.mp (hj.trans (by decide)))
  refine lv_iload_n hx hb dX8_caveatHolds_75 rfl (lv_at hl 3 rfl) ?_
  refine lv_iload_n hx hb dX8_caveatHolds_76 rfl (lv_at hl 1 rfl) ?_
  refine lv_icmp_ge (tgt := 84) hx hb dX8_caveatHolds_77 (by decide) (fun hc => ?_) (fun hc => ?_)
  · have hf := zif_t hc hf
    refine lv_iconst (v := (0 : Int32)) hx hb dX8_caveatHolds_84 (by decide) ?_
    refine W.widen (k := 0) (n := 0) (Nat.le_of_ble_eq_true rfl) (Nat.le_of_ble_eq_true rfl) ?_
    exact x_iret hx hb hr (by decide) hlocks B hf dX8_caveatHolds_85
  · have hf := zif_f hc hf
    refine lv_iconst (v := (1 : Int32)) hx hb dX8_caveatHolds_80 (by decide) ?_
    refine lv_goto (tgt := 85) hx hb dX8_caveatHolds_81 (by decide) ?_
    refine W.widen (k := 0) (n := 0) (Nat.le_of_ble_eq_true rfl) (Nat.le_of_ble_eq_true rfl) ?_
    exact x_iret hx hb hr (by decide) hlocks B hf dX8_caveatHolds_85
