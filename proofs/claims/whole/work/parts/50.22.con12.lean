theorem dX9_round_0 : decode cX9_round 0 = .ok (.aload_n 0, 1) := by decide +kernel
theorem dX9_round_1 : decode cX9_round 1 = .ok (.iload_n 1, 1) := by decide +kernel
theorem dX9_round_2 : decode cX9_round 2 = .ok (.invokestatic 78, 3) := by decide +kernel
theorem dX9_round_5 : decode cX9_round 5 = .ok (.ifCond .eq 15, 3) := by decide +kernel
theorem dX9_round_8 : decode cX9_round 8 = .ok (.aload_n 0, 1) := by decide +kernel
theorem dX9_round_9 : decode cX9_round 9 = .ok (.iload_n 2, 1) := by decide +kernel
theorem dX9_round_10 : decode cX9_round 10 = .ok (.invokevirtual 118, 3) := by decide +kernel
theorem dX9_round_13 : decode cX9_round 13 = .ok (.ifCond .eq 7, 3) := by decide +kernel
theorem dX9_round_16 : decode cX9_round 16 = .ok (.iconst 0, 1) := by decide +kernel
theorem dX9_round_17 : decode cX9_round 17 = .ok (.goto 4, 3) := by decide +kernel
theorem dX9_round_20 : decode cX9_round 20 = .ok (.iconst 1, 1) := by decide +kernel
theorem dX9_round_21 : decode cX9_round 21 = .ok (.putfield 41, 3) := by decide +kernel
theorem dX9_round_24 : decode cX9_round 24 = .ok (.aload_n 0, 1) := by decide +kernel
theorem dX9_round_25 : decode cX9_round 25 = .ok (.getfield 41, 3) := by decide +kernel
theorem dX9_round_28 : decode cX9_round 28 = .ok (.ifCond .eq 5, 3) := by decide +kernel
theorem dX9_round_31 : decode cX9_round 31 = .ok (.iconst 0, 1) := by decide +kernel
theorem dX9_round_32 : decode cX9_round 32 = .ok (.ireturn, 1) := by decide +kernel
theorem dX9_round_33 : decode cX9_round 33 = .ok (.aload_n 0, 1) := by decide +kernel
theorem dX9_round_34 : decode cX9_round 34 = .ok (.invokevirtual 202, 3) := by decide +kernel
theorem dX9_round_37 : decode cX9_round 37 = .ok (.iconst 0, 1) := by decide +kernel
theorem dX9_round_38 : decode cX9_round 38 = .ok (.istore_n 3, 1) := by decide +kernel
theorem dX9_round_39 : decode cX9_round 39 = .ok (.iconst 1, 1) := by decide +kernel
theorem dX9_round_40 : decode cX9_round 40 = .ok (.istore 4, 2) := by decide +kernel
theorem dX9_round_42 : decode cX9_round 42 = .ok (.iload 4, 2) := by decide +kernel
theorem dX9_round_44 : decode cX9_round 44 = .ok (.ifCond .eq 28, 3) := by decide +kernel
theorem dX9_round_47 : decode cX9_round 47 = .ok (.aload_n 0, 1) := by decide +kernel
theorem dX9_round_48 : decode cX9_round 48 = .ok (.getfield 35, 3) := by decide +kernel
theorem dX9_round_51 : decode cX9_round 51 = .ok (.iload_n 1, 1) := by decide +kernel
theorem dX9_round_52 : decode cX9_round 52 = .ok (.iaload, 1) := by decide +kernel
theorem dX9_round_53 : decode cX9_round 53 = .ok (.iload_n 2, 1) := by decide +kernel
theorem dX9_round_54 : decode cX9_round 54 = .ok (.invokestatic 59, 3) := by decide +kernel
theorem dX9_round_57 : decode cX9_round 57 = .ok (.ifCond .ne 15, 3) := by decide +kernel
theorem dX9_round_60 : decode cX9_round 60 = .ok (.aload_n 0, 1) := by decide +kernel
theorem dX9_round_61 : decode cX9_round 61 = .ok (.invokevirtual 211, 3) := by decide +kernel
theorem dX9_round_64 : decode cX9_round 64 = .ok (.istore 4, 2) := by decide +kernel
theorem dX9_round_66 : decode cX9_round 66 = .ok (.iinc 3 1, 3) := by decide +kernel
theorem dX9_round_69 : decode cX9_round 69 = .ok (.goto (-27), 3) := by decide +kernel
theorem dX9_round_72 : decode cX9_round 72 = .ok (.aload_n 0, 1) := by decide +kernel
theorem dX9_round_73 : decode cX9_round 73 = .ok (.aload_n 0, 1) := by decide +kernel
theorem dX9_round_74 : decode cX9_round 74 = .ok (.getfield 35, 3) := by decide +kernel
theorem dX9_round_77 : decode cX9_round 77 = .ok (.iload_n 1, 1) := by decide +kernel
theorem dX9_round_78 : decode cX9_round 78 = .ok (.iaload, 1) := by decide +kernel
theorem dX9_round_79 : decode cX9_round 79 = .ok (.iload_n 2, 1) := by decide +kernel
theorem dX9_round_80 : decode cX9_round 80 = .ok (.invokestatic 59, 3) := by decide +kernel
theorem dX9_round_83 : decode cX9_round 83 = .ok (.ifCond .eq 7, 3) := by decide +kernel
theorem dX9_round_86 : decode cX9_round 86 = .ok (.iconst 0, 1) := by decide +kernel
theorem dX9_round_87 : decode cX9_round 87 = .ok (.goto 4, 3) := by decide +kernel
theorem dX9_round_90 : decode cX9_round 90 = .ok (.iconst 2, 1) := by decide +kernel
theorem dX9_round_91 : decode cX9_round 91 = .ok (.putfield 41, 3) := by decide +kernel
theorem dX9_round_94 : decode cX9_round 94 = .ok (.aload_n 0, 1) := by decide +kernel
theorem dX9_round_95 : decode cX9_round 95 = .ok (.getfield 41, 3) := by decide +kernel
theorem dX9_round_98 : decode cX9_round 98 = .ok (.ifCond .ne 7, 3) := by decide +kernel
theorem dX9_round_101 : decode cX9_round 101 = .ok (.iload_n 3, 1) := by decide +kernel
theorem dX9_round_102 : decode cX9_round 102 = .ok (.goto 4, 3) := by decide +kernel
theorem dX9_round_105 : decode cX9_round 105 = .ok (.iconst 0, 1) := by decide +kernel
theorem dX9_round_106 : decode cX9_round 106 = .ok (.ireturn, 1) := by decide +kernel
set_option maxRecDepth 20000 in
theorem ggX9_round_X9_isSubject : GoodIn wsX9_round wsX9_isSubject := goodIn_r _ [6, 7, 8, 5, 9] (by decide +kernel) (by decide +kernel)
set_option maxRecDepth 20000 in
theorem gX9_round_X9_isSubject : GoodIn wsX9_round (va_wsS RX9 78 yX9_isSubject wsX9_isSubject) := goodIn_app (goodIn_of _ (by decide +kernel)) ggX9_round_X9_isSubject
set_option maxRecDepth 20000 in
theorem ggX9_round_X9_begins : GoodIn wsX9_round wsX9_begins := goodIn_ca (goodIn_r _ [18, 2, 14, 19, 20, 21, 5, 22, 23, 24, 25, 54, 55, 56, 57, 58, 59, 60, 61, 62, 63, 64, 65, 66, 67, 68, 69, 70, 71, 72, 73] (by decide +kernel) (by decide +kernel)) (goodIn_sub (fun _ h => List.mem_cons_of_mem _ (List.mem_append_right _ h)) (by decide +kernel))
set_option maxRecDepth 20000 in
theorem gX9_round_X9_begins : GoodIn wsX9_round (wsV RX9 202 RX9 yX9_begins wsX9_begins) := goodIn_app (goodIn_of _ (by decide +kernel)) ggX9_round_X9_begins
set_option maxRecDepth 20000 in
theorem ggX9_round_X9_has : GoodIn wsX9_round wsX9_has := goodIn_r _ [25] (by decide +kernel) (by decide +kernel)
set_option maxRecDepth 20000 in
theorem gX9_round_X9_has : GoodIn wsX9_round (va_wsS RX9 59 yX9_has wsX9_has) := goodIn_app (goodIn_of _ (by decide +kernel)) ggX9_round_X9_has
set_option maxRecDepth 20000 in
theorem ggX9_round_X9_goesRound : GoodIn wsX9_round wsX9_goesRound := goodIn_ca (goodIn_r _ [29, 30, 2, 14, 23, 24, 5, 25, 31, 32, 33, 34, 35, 36, 37, 38, 39, 40, 41, 42, 43, 44, 45, 46, 47, 48, 49, 50, 51, 52, 53, 7, 8, 9, 54, 55, 56, 57, 58, 59, 60, 61, 62, 63, 64, 65, 66, 67, 68, 69, 70, 71, 72, 73] (by decide +kernel) (by decide +kernel)) (goodIn_sub (fun _ h => List.mem_cons_of_mem _ (List.mem_append_right _ h)) (by decide +kernel))
set_option maxRecDepth 20000 in
theorem gX9_round_X9_goesRound : GoodIn wsX9_round (wsV RX9 211 RX9 yX9_goesRound wsX9_goesRound) := goodIn_app (goodIn_of _ (by decide +kernel)) ggX9_round_X9_goesRound
set_option maxRecDepth 20000 in
theorem ggX9_round_X9_isToken : GoodIn wsX9_round wsX9_isToken := goodIn_ca (goodIn_r _ [13, 14, 7, 8, 5, 9, 54, 55, 56, 57, 58, 59, 60, 61, 62, 63, 64, 65, 66, 67, 68, 69, 70, 71, 72, 73] (by decide +kernel) (by decide +kernel)) (goodIn_sub (fun _ h => List.mem_cons_of_mem _ (List.mem_append_right _ h)) (by decide +kernel))
set_option maxRecDepth 20000 in
theorem gX9_round_X9_isToken : GoodIn wsX9_round (wsV RX9 118 RX9 yX9_isToken wsX9_isToken) := goodIn_app (goodIn_of _ (by decide +kernel)) ggX9_round_X9_isToken
def rm_X9_round : Room := { frames := 5, cells := 0, slots := 0, locals := 116 }
set_option maxHeartbeats 4000000 in
set_option maxRecDepth 100000 in
theorem c_X9_round (l : Launch) {G : zG} {ad : Nat → Nat} {σ σ' : zs} {a1 a2 : Int32} {r : Int32} (hf : f_X9_round σ a1 a2 = some (r, σ')) : xMi l yX9_round wsX9_round rm_X9_round G ad σ [.ref (ad 65), .int a1, .int a2] r σ' := by
  intro sz nb a g hs
  refine Met.ofW (cc := cX9_round) (maxL := 5) (ret := (some .int)) (by decide) rfl ?_
  intro p e s m args below meth c s₁ B hml hv
  obtain ⟨rfl, hsz, hv⟩ := hv
  have hx := B.exec
  have hb := B.bytes
  have hr := B.returns
  have hts := atoms_spec (ws := wsX9_round) B.pre
  have hown : s.vm.findClass RX9 = some m.cls := findClass_of_methodNamed B.named
  have hlocks := B.notSynchronized
  subst hsz
  have B := xB_start hs hv
  have hinRX9 : ∀ w ∈ wsX90, w ∈ wsX9_round := by decide +kernel
  have hl := lv_entry ([.ref (ad 65), .int a1, .int a2]) (n := 5) (Nat.le_of_ble_eq_true rfl)
  rw [lg_entry_eq]
  generalize (lg_sl ([.ref (ad 65), .int a1, .int a2]) ++ List.replicate (5 - (lg_sl ([.ref (ad 65), .int a1, .int a2])).length) Slot.unset).toArray = ls at hl ⊢
  have hl : lv_has ls 5 [(0, .ref (ad 65)), (1, .int a1), (2, .int a2)] := hl
  generalize hAe : xA ad a s.heap.size = A at B ⊢
  have L91 : ∀ (σ : zs) (v3 : Int32) (s0 : Int32) (H : Heap) (locs : List Loc) (ls : Array Slot), f_X9_round_91 σ v3 s0 = some (r, σ') → xB A s G ad σ H locs → lv_has ls 5 [(0, .ref (ad 65)), (3, .int v3)] → W p l e (headSpec wsX9_round rm_X9_round).room s m ([.ref (ad 65), .int a1, .int a2] : List Value).toArray below meth c H locs 0 0 (MQ below (va_Qi (fun r' (u : xV) => r' = r ∧ xQ σ' u) (xPost G ad σ' A) A) ([.ref (ad 65), .int a1, .int a2] : List Value).toArray s 0 0 A) (F0 m 91 ls [.int s0, .ref (ad 65)]) := by
    intro σ v3 s0 H locs ls hf B hl
    unfold f_X9_round_91 at hf
    refine x_puti hx hb hts hinRX9 hown tyX9 tyX9_ok nmX9 B 65 3 (by decide) (by decide) (fun _ => rfl) rfl rfl (by decide) (by decide +kernel) rfl rfl rfl rfl dX9_round_91 (fun H locs B => ?_)
    refine lv_aload_n hx hb dX9_round_94 rfl (lv_at hl 0 rfl) ?_
    refine x_geti hx hb hts hinRX9 hown B 65 3 (by decide) (fun _ => rfl) rfl rfl (by decide) (by decide +kernel) rfl dX9_round_95 ?_
    refine lv_if_ne (tgt := 105) hx hb dX9_round_98 (by decide) (fun hc => ?_) (fun hc => ?_)
    · have hf := zif_f hc hf
      refine lv_iconst (v := (0 : Int32)) hx hb dX9_round_105 (by decide) ?_
      refine W.widen (k := 0) (n := 0) (Nat.le_of_ble_eq_true rfl) (Nat.le_of_ble_eq_true rfl) ?_
      exact x_iret hx hb hr rfl hlocks B hf dX9_round_106
    · have hf := zif_t hc hf
      refine lv_iload_n hx hb dX9_round_101 rfl (lv_at hl 1 rfl) ?_
      refine lv_goto (tgt := 106) hx hb dX9_round_102 (by decide) ?_
      refine W.widen (k := 0) (n := 0) (Nat.le_of_ble_eq_true rfl) (Nat.le_of_ble_eq_true rfl) ?_
      exact x_iret hx hb hr rfl hlocks B hf dX9_round_106
  have L72 : ∀ (σ : zs) (v1 : Int32) (v2 : Int32) (v3 : Int32) (H : Heap) (locs : List Loc) (ls : Array Slot), f_X9_round_72 σ v1 v2 v3 = some (r, σ') → xB A s G ad σ H locs → lv_has ls 5 [(0, .ref (ad 65)), (1, .int v1), (2, .int v2), (3, .int v3)] → W p l e (headSpec wsX9_round rm_X9_round).room s m ([.ref (ad 65), .int a1, .int a2] : List Value).toArray below meth c H locs 0 0 (MQ below (va_Qi (fun r' (u : xV) => r' = r ∧ xQ σ' u) (xPost G ad σ' A) A) ([.ref (ad 65), .int a1, .int a2] : List Value).toArray s 0 0 A) (F0 m 72 ls []) := by
    intro σ v1 v2 v3 H locs ls hf B hl
    unfold f_X9_round_72 at hf
    refine lv_aload_n hx hb dX9_round_72 rfl (lv_at hl 0 rfl) ?_
    refine lv_aload_n hx hb dX9_round_73 rfl (lv_at hl 0 rfl) ?_
    refine x_getr hx hb hts hinRX9 hown B 65 18 73 (by decide) (by decide) (fun _ => rfl) rfl rfl (by decide) (by decide +kernel) rfl dX9_round_74 ?_
    refine lv_iload_n hx hb dX9_round_77 rfl (lv_at hl 1 rfl) ?_
    obtain ⟨hg, hf⟩ := zg_some hf
    refine x_iald hx hb B 73 (by decide) (fun _ => rfl) (zin_ok hg) dX9_round_78 ?_
    refine lv_iload_n hx hb dX9_round_79 rfl (lv_at hl 2 rfl) ?_
    obtain ⟨r8, σ9, hu7, hf⟩ := zb_some hf
    refine x_i B (fun nb a g hs Bz => va_runS (As := [.int (σ 73 v1.toNatClampNeg), .int v2]) (rest := [.ref (ad 65)]) ⟨hx, hb, hml, hown, hts⟩ (c_X9_has l hu7 _ nb a g hs) (va_cwS 2 hts gX9_round_X9_has rfl rfl rfl (by decide +kernel) ⟨Nat.le_of_ble_eq_true rfl, Nat.le_of_ble_eq_true rfl⟩) (z_preS Bz) rfl rfl hl.1 rfl (lv_room (Nat.le_of_ble_eq_true rfl)) dX9_round_80 ⟨Nat.le_of_ble_eq_true rfl, Nat.le_of_ble_eq_true rfl⟩) (fun H locs B => ?_)
    refine lv_if_eq (tgt := 90) hx hb dX9_round_83 (by decide) (fun hc => ?_) (fun hc => ?_)
    · have hf := zif_t hc hf
      refine lv_iconst (v := (2 : Int32)) hx hb dX9_round_90 (by decide) ?_
      exact L91  _ _ _ _ _ _ hf B (lv_sub hl [0, 3] rfl)
    · have hf := zif_f hc hf
      refine lv_iconst (v := (0 : Int32)) hx hb dX9_round_86 (by decide) ?_
      refine lv_goto (tgt := 91) hx hb dX9_round_87 (by decide) ?_
      exact L91  _ _ _ _ _ _ hf B (lv_sub hl [0, 3] rfl)
  have L42 : ∀ (n : Nat) (σ : zs) (v1 : Int32) (v2 : Int32) (v3 : Int32) (v4 : Int32) (H : Heap) (locs : List Loc) (ls : Array Slot), zlp4 (f_X9_round_42) n σ v1 v2 v3 v4 = some (r, σ') → xB A s G ad σ H locs → lv_has ls 5 [(0, .ref (ad 65)), (1, .int v1), (2, .int v2), (3, .int v3), (4, .int v4)] → W p l e (headSpec wsX9_round rm_X9_round).room s m ([.ref (ad 65), .int a1, .int a2] : List Value).toArray below meth c H locs 0 0 (MQ below (va_Qi (fun r' (u : xV) => r' = r ∧ xQ σ' u) (xPost G ad σ' A) A) ([.ref (ad 65), .int a1, .int a2] : List Value).toArray s 0 0 A) (F0 m 42 ls []) := by
    intro n
    induction n with
    | zero =>
      intro σ v1 v2 v3 v4 H locs ls hf
      cases hf
    | succ n ih =>
      intro σ v1 v2 v3 v4 H locs ls hf B hl
      have hf : f_X9_round_42 (zlp4 (f_X9_round_42) n) σ v1 v2 v3 v4 = some (r, σ') := hf
      unfold f_X9_round_42 at hf
      refine lv_iload hx hb dX9_round_42 (lv_at hl 4 rfl) ?_
      refine lv_if_eq (tgt := 72) hx hb dX9_round_44 (by decide) (fun hc => ?_) (fun hc => ?_)
      · have hf := zif_t hc hf
        exact L72  _ _ _ _ _ _ _ hf B (lv_sub hl [0, 1, 2, 3] rfl)
      · have hf := zif_f hc hf
        refine lv_aload_n hx hb dX9_round_47 rfl (lv_at hl 0 rfl) ?_
        refine x_getr hx hb hts hinRX9 hown B 65 18 73 (by decide) (by decide) (fun _ => rfl) rfl rfl (by decide) (by decide +kernel) rfl dX9_round_48 ?_
        refine lv_iload_n hx hb dX9_round_51 rfl (lv_at hl 1 rfl) ?_
        obtain ⟨hg, hf⟩ := zg_some hf
        refine x_iald hx hb B 73 (by decide) (fun _ => rfl) (zin_ok hg) dX9_round_52 ?_
        refine lv_iload_n hx hb dX9_round_53 rfl (lv_at hl 2 rfl) ?_
        obtain ⟨r11, σ12, hu10, hf⟩ := zb_some hf
        refine x_i B (fun nb a g hs Bz => va_runS (As := [.int (σ 73 v1.toNatClampNeg), .int v2]) (rest := []) ⟨hx, hb, hml, hown, hts⟩ (c_X9_has l hu10 _ nb a g hs) (va_cwS 2 hts gX9_round_X9_has rfl rfl rfl (by decide +kernel) ⟨Nat.le_of_ble_eq_true rfl, Nat.le_of_ble_eq_true rfl⟩) (z_preS Bz) rfl rfl hl.1 rfl (lv_room (Nat.le_of_ble_eq_true rfl)) dX9_round_54 ⟨Nat.le_of_ble_eq_true rfl, Nat.le_of_ble_eq_true rfl⟩) (fun H locs B => ?_)
        refine lv_if_ne (tgt := 72) hx hb dX9_round_57 (by decide) (fun hc => ?_) (fun hc => ?_)
        · have hf := zif_f hc hf
          exact L72  _ _ _ _ _ _ _ hf B (lv_sub hl [0, 1, 2, 3] rfl)
        · have hf := zif_t hc hf
          refine lv_aload_n hx hb dX9_round_60 rfl (lv_at hl 0 rfl) ?_
          obtain ⟨r14, σ15, hu13, hf⟩ := zb_some hf
          refine x_i B (fun nb a g hs Bz => va_runV (As := []) (rest := []) ⟨hx, hb, hml, hown, hts⟩ (c_X9_goesRound l hu13 _ nb a g hs) (cwV 0 hts gX9_round_X9_goesRound rfl rfl rfl (by decide +kernel) ⟨Nat.le_of_ble_eq_true rfl, Nat.le_of_ble_eq_true rfl⟩) (x_preV Bz (by decide) (fun _ => rfl) rfl) rfl rfl hl.1 rfl (lv_room (Nat.le_of_ble_eq_true rfl)) dX9_round_61 ⟨Nat.le_of_ble_eq_true rfl, Nat.le_of_ble_eq_true rfl⟩) (fun H locs B => ?_)
          refine lv_istore (lv' := [(4, .int r14), (0, .ref (ad 65)), (1, .int v1), (2, .int v2), (3, .int v3)]) hx hb dX9_round_64 hl (by decide) rfl (fun ls hl => ?_)
          refine lv_iinc (v := (v3 + (1 : Int32))) (lv' := [(3, .int (v3 + (1 : Int32))), (4, .int r14), (0, .ref (ad 65)), (1, .int v1), (2, .int v2)]) hx hb dX9_round_66 hl (k := 4) rfl (zc1 (by decide)) (by decide) rfl (fun ls hl => ?_)
          refine lv_goto (tgt := 42) hx hb dX9_round_69 (by decide) ?_
          exact ih _ _ _ _ _ _ _ _ hf B (lv_sub hl [2, 3, 4, 0, 1] rfl)
  have L21 : ∀ (σ : zs) (v1 : Int32) (v2 : Int32) (s0 : Int32) (H : Heap) (locs : List Loc) (ls : Array Slot), f_X9_round_21 σ v1 v2 s0 = some (r, σ') → xB A s G ad σ H locs → lv_has ls 5 [(0, .ref (ad 65)), (1, .int v1), (2, .int v2)] → W p l e (headSpec wsX9_round rm_X9_round).room s m ([.ref (ad 65), .int a1, .int a2] : List Value).toArray below meth c H locs 0 0 (MQ below (va_Qi (fun r' (u : xV) => r' = r ∧ xQ σ' u) (xPost G ad σ' A) A) ([.ref (ad 65), .int a1, .int a2] : List Value).toArray s 0 0 A) (F0 m 21 ls [.int s0, .ref (ad 65)]) := by
    intro σ v1 v2 s0 H locs ls hf B hl
    unfold f_X9_round_21 at hf
    refine x_puti hx hb hts hinRX9 hown tyX9 tyX9_ok nmX9 B 65 3 (by decide) (by decide) (fun _ => rfl) rfl rfl (by decide) (by decide +kernel) rfl rfl rfl rfl dX9_round_21 (fun H locs B => ?_)
    refine lv_aload_n hx hb dX9_round_24 rfl (lv_at hl 0 rfl) ?_
    refine x_geti hx hb hts hinRX9 hown B 65 3 (by decide) (fun _ => rfl) rfl rfl (by decide) (by decide +kernel) rfl dX9_round_25 ?_
    refine lv_if_eq (tgt := 33) hx hb dX9_round_28 (by decide) (fun hc => ?_) (fun hc => ?_)
    · have hf := zif_t hc hf
      refine lv_aload_n hx hb dX9_round_33 rfl (lv_at hl 0 rfl) ?_
      obtain ⟨r5, σ6, hu4, hf⟩ := zb_some hf
      refine x_v B (fun nb a g hs Bz => va_runV (As := []) (rest := []) ⟨hx, hb, hml, hown, hts⟩ (c_X9_begins l hu4 _ nb a g hs) (cwV 0 hts gX9_round_X9_begins rfl rfl rfl (by decide +kernel) ⟨Nat.le_of_ble_eq_true rfl, Nat.le_of_ble_eq_true rfl⟩) (x_preV Bz (by decide) (fun _ => rfl) rfl) rfl rfl hl.1 rfl (lv_room (Nat.le_of_ble_eq_true rfl)) dX9_round_34 ⟨Nat.le_of_ble_eq_true rfl, Nat.le_of_ble_eq_true rfl⟩) (fun H locs B => ?_)
      refine lv_iconst (v := (0 : Int32)) hx hb dX9_round_37 (by decide) ?_
      refine lv_istore_n (lv' := [(3, .int (0 : Int32)), (0, .ref (ad 65)), (1, .int v1), (2, .int v2)]) hx hb dX9_round_38 rfl hl (by decide) rfl (fun ls hl => ?_)
      refine lv_iconst (v := (1 : Int32)) hx hb dX9_round_39 (by decide) ?_
      refine lv_istore (lv' := [(4, .int (1 : Int32)), (3, .int (0 : Int32)), (0, .ref (ad 65)), (1, .int v1), (2, .int v2)]) hx hb dX9_round_40 hl (by decide) rfl (fun ls hl => ?_)
      exact L42  _ _ _ _ _ _ _ _ _ hf B (lv_sub hl [2, 3, 4, 1, 0] rfl)
    · have hf := zif_f hc hf
      refine lv_iconst (v := (0 : Int32)) hx hb dX9_round_31 (by decide) ?_
      refine W.widen (k := 0) (n := 0) (Nat.le_of_ble_eq_true rfl) (Nat.le_of_ble_eq_true rfl) ?_
      exact x_iret hx hb hr rfl hlocks B hf dX9_round_32
  unfold f_X9_round at hf
  refine lv_aload_n hx hb dX9_round_0 rfl (lv_at hl 0 rfl) ?_
  refine lv_iload_n hx hb dX9_round_1 rfl (lv_at hl 1 rfl) ?_
  obtain ⟨r2, σ3, hu1, hf⟩ := zb_some hf
  refine x_i B (fun nb a g hs Bz => va_runS (As := [.int a1]) (rest := [.ref (ad 65)]) ⟨hx, hb, hml, hown, hts⟩ (c_X9_isSubject l hu1 _ nb a g hs) (va_cwS 1 hts gX9_round_X9_isSubject rfl rfl rfl (by decide +kernel) ⟨Nat.le_of_ble_eq_true rfl, Nat.le_of_ble_eq_true rfl⟩) (z_preS Bz) rfl rfl hl.1 rfl (lv_room (Nat.le_of_ble_eq_true rfl)) dX9_round_2 ⟨Nat.le_of_ble_eq_true rfl, Nat.le_of_ble_eq_true rfl⟩) (fun H locs B => ?_)
  refine lv_if_eq (tgt := 20) hx hb dX9_round_5 (by decide) (fun hc => ?_) (fun hc => ?_)
  · have hf := zif_t hc hf
    refine lv_iconst (v := (1 : Int32)) hx hb dX9_round_20 (by decide) ?_
    exact L21  _ _ _ _ _ _ _ hf B (lv_sub hl [0, 1, 2] rfl)
  · have hf := zif_f hc hf
    refine lv_aload_n hx hb dX9_round_8 rfl (lv_at hl 0 rfl) ?_
    refine lv_iload_n hx hb dX9_round_9 rfl (lv_at hl 2 rfl) ?_
    obtain ⟨r17, σ18, hu16, hf⟩ := zb_some hf
    refine x_i B (fun nb a g hs Bz => va_runV (As := [.int a2]) (rest := [.ref (ad 65)]) ⟨hx, hb, hml, hown, hts⟩ (c_X9_isToken l hu16 _ nb a g hs) (cwV 1 hts gX9_round_X9_isToken rfl rfl rfl (by decide +kernel) ⟨Nat.le_of_ble_eq_true rfl, Nat.le_of_ble_eq_true rfl⟩) (x_preV Bz (by decide) (fun _ => rfl) rfl) rfl rfl hl.1 rfl (lv_room (Nat.le_of_ble_eq_true rfl)) dX9_round_10 ⟨Nat.le_of_ble_eq_true rfl, Nat.le_of_ble_eq_true rfl⟩) (fun H locs B => ?_)
    refine lv_if_eq (tgt := 20) hx hb dX9_round_13 (by decide) (fun hc => ?_) (fun hc => ?_)
    · have hf := zif_t hc hf
      refine lv_iconst (v := (1 : Int32)) hx hb dX9_round_20 (by decide) ?_
      exact L21  _ _ _ _ _ _ _ hf B (lv_sub hl [0, 1, 2] rfl)
    · have hf := zif_f hc hf
      refine lv_iconst (v := (0 : Int32)) hx hb dX9_round_16 (by decide) ?_
      refine lv_goto (tgt := 21) hx hb dX9_round_17 (by decide) ?_
      exact L21  _ _ _ _ _ _ _ hf B (lv_sub hl [0, 1, 2] rfl)
theorem dX9_reachedBy_0 : decode cX9_reachedBy 0 = .ok (.aload_n 0, 1) := by decide +kernel
theorem dX9_reachedBy_1 : decode cX9_reachedBy 1 = .ok (.invokevirtual 208, 3) := by decide +kernel
theorem dX9_reachedBy_4 : decode cX9_reachedBy 4 = .ok (.iconst 0, 1) := by decide +kernel
theorem dX9_reachedBy_5 : decode cX9_reachedBy 5 = .ok (.istore_n 2, 1) := by decide +kernel
theorem dX9_reachedBy_6 : decode cX9_reachedBy 6 = .ok (.iconst 0, 1) := by decide +kernel
theorem dX9_reachedBy_7 : decode cX9_reachedBy 7 = .ok (.istore_n 3, 1) := by decide +kernel
theorem dX9_reachedBy_8 : decode cX9_reachedBy 8 = .ok (.iload_n 3, 1) := by decide +kernel
theorem dX9_reachedBy_9 : decode cX9_reachedBy 9 = .ok (.aload_n 0, 1) := by decide +kernel
theorem dX9_reachedBy_10 : decode cX9_reachedBy 10 = .ok (.getfield 9, 3) := by decide +kernel
theorem dX9_reachedBy_13 : decode cX9_reachedBy 13 = .ok (.iconst 1, 1) := by decide +kernel
theorem dX9_reachedBy_14 : decode cX9_reachedBy 14 = .ok (.iaload, 1) := by decide +kernel
theorem dX9_reachedBy_15 : decode cX9_reachedBy 15 = .ok (.if_icmp .ge 49, 3) := by decide +kernel
theorem dX9_reachedBy_18 : decode cX9_reachedBy 18 = .ok (.iload_n 2, 1) := by decide +kernel
theorem dX9_reachedBy_19 : decode cX9_reachedBy 19 = .ok (.aload_n 0, 1) := by decide +kernel
theorem dX9_reachedBy_20 : decode cX9_reachedBy 20 = .ok (.getfield 35, 3) := by decide +kernel
theorem dX9_reachedBy_23 : decode cX9_reachedBy 23 = .ok (.iload_n 1, 1) := by decide +kernel
theorem dX9_reachedBy_24 : decode cX9_reachedBy 24 = .ok (.iaload, 1) := by decide +kernel
theorem dX9_reachedBy_25 : decode cX9_reachedBy 25 = .ok (.iload_n 3, 1) := by decide +kernel
theorem dX9_reachedBy_26 : decode cX9_reachedBy 26 = .ok (.invokestatic 59, 3) := by decide +kernel
theorem dX9_reachedBy_29 : decode cX9_reachedBy 29 = .ok (.ifCond .eq 26, 3) := by decide +kernel
theorem dX9_reachedBy_32 : decode cX9_reachedBy 32 = .ok (.aload_n 0, 1) := by decide +kernel
theorem dX9_reachedBy_33 : decode cX9_reachedBy 33 = .ok (.iload_n 1, 1) := by decide +kernel
theorem dX9_reachedBy_34 : decode cX9_reachedBy 34 = .ok (.iload_n 3, 1) := by decide +kernel
theorem dX9_reachedBy_35 : decode cX9_reachedBy 35 = .ok (.invokevirtual 199, 3) := by decide +kernel
theorem dX9_reachedBy_38 : decode cX9_reachedBy 38 = .ok (.ifCond .eq 17, 3) := by decide +kernel
theorem dX9_reachedBy_41 : decode cX9_reachedBy 41 = .ok (.iconst 1, 1) := by decide +kernel
theorem dX9_reachedBy_42 : decode cX9_reachedBy 42 = .ok (.aload_n 0, 1) := by decide +kernel
theorem dX9_reachedBy_43 : decode cX9_reachedBy 43 = .ok (.getfield 9, 3) := by decide +kernel
theorem dX9_reachedBy_46 : decode cX9_reachedBy 46 = .ok (.bipush 51, 2) := by decide +kernel
theorem dX9_reachedBy_48 : decode cX9_reachedBy 48 = .ok (.iload_n 3, 1) := by decide +kernel
theorem dX9_reachedBy_49 : decode cX9_reachedBy 49 = .ok (.iadd, 1) := by decide +kernel
theorem dX9_reachedBy_50 : decode cX9_reachedBy 50 = .ok (.iaload, 1) := by decide +kernel
theorem dX9_reachedBy_51 : decode cX9_reachedBy 51 = .ok (.ishl, 1) := by decide +kernel
theorem dX9_reachedBy_52 : decode cX9_reachedBy 52 = .ok (.goto 4, 3) := by decide +kernel
theorem dX9_reachedBy_55 : decode cX9_reachedBy 55 = .ok (.iconst 0, 1) := by decide +kernel
theorem dX9_reachedBy_56 : decode cX9_reachedBy 56 = .ok (.ior, 1) := by decide +kernel
theorem dX9_reachedBy_57 : decode cX9_reachedBy 57 = .ok (.istore_n 2, 1) := by decide +kernel
theorem dX9_reachedBy_58 : decode cX9_reachedBy 58 = .ok (.iinc 3 1, 3) := by decide +kernel
theorem dX9_reachedBy_61 : decode cX9_reachedBy 61 = .ok (.goto (-53), 3) := by decide +kernel
theorem dX9_reachedBy_64 : decode cX9_reachedBy 64 = .ok (.iload_n 2, 1) := by decide +kernel
theorem dX9_reachedBy_65 : decode cX9_reachedBy 65 = .ok (.ireturn, 1) := by decide +kernel
set_option maxRecDepth 20000 in
theorem ggX9_reachedBy_X9_comes : GoodIn wsX9_reachedBy wsX9_comes := goodIn_ca (goodIn_r _ [7, 8, 9, 10, 6, 11, 2, 1, 12, 13, 14, 15, 16, 17, 18, 19, 20, 21, 22, 23, 24, 25, 26, 27, 28, 29, 30, 31, 32, 33, 34, 35, 36, 37, 38, 39, 40, 41, 42, 43, 44, 45, 46, 47, 48, 49, 50, 51, 52, 53, 54, 55, 56, 57, 58, 59, 60, 61, 62, 63, 64, 65, 66, 67, 68] (by decide +kernel) (by decide +kernel)) (goodIn_sub (fun _ h => List.mem_cons_of_mem _ (List.mem_append_right _ h)) (by decide +kernel))
set_option maxRecDepth 20000 in
theorem gX9_reachedBy_X9_comes : GoodIn wsX9_reachedBy (wsV RX9 208 RX9 yX9_comes wsX9_comes) := goodIn_app (goodIn_of _ (by decide +kernel)) ggX9_reachedBy_X9_comes
set_option maxRecDepth 20000 in
theorem ggX9_reachedBy_X9_has : GoodIn wsX9_reachedBy wsX9_has := goodIn_r _ [18] (by decide +kernel) (by decide +kernel)
set_option maxRecDepth 20000 in
theorem gX9_reachedBy_X9_has : GoodIn wsX9_reachedBy (va_wsS RX9 59 yX9_has wsX9_has) := goodIn_app (goodIn_of _ (by decide +kernel)) ggX9_reachedBy_X9_has
set_option maxRecDepth 20000 in
theorem ggX9_reachedBy_X9_openRights : GoodIn wsX9_reachedBy wsX9_openRights := goodIn_ca (goodIn_r _ [26, 1, 27, 28, 29, 30, 31, 32, 33, 34, 35, 36, 6, 37, 38, 39, 40, 41, 42, 43, 44, 45, 46, 47, 48, 49, 50, 51, 52, 53, 54, 55, 56, 57, 58, 59, 60, 61, 62, 63, 64, 65, 66, 67, 68] (by decide +kernel) (by decide +kernel)) (goodIn_sub (fun _ h => List.mem_cons_of_mem _ (List.mem_append_right _ h)) (by decide +kernel))
set_option maxRecDepth 20000 in
theorem gX9_reachedBy_X9_openRights : GoodIn wsX9_reachedBy (wsV RX9 199 RX9 yX9_openRights wsX9_openRights) := goodIn_app (goodIn_of _ (by decide +kernel)) ggX9_reachedBy_X9_openRights
def rm_X9_reachedBy : Room := { frames := 6, cells := 0, slots := 0, locals := 140 }
set_option maxHeartbeats 4000000 in
set_option maxRecDepth 100000 in
theorem c_X9_reachedBy (l : Launch) {G : zG} {ad : Nat → Nat} {σ σ' : zs} {a1 : Int32} {r : Int32} (hf : f_X9_reachedBy σ a1 = some (r, σ')) : xMi l yX9_reachedBy wsX9_reachedBy rm_X9_reachedBy G ad σ [.ref (ad 65), .int a1] r σ' := by
  intro sz nb a g hs
  refine Met.ofW (cc := cX9_reachedBy) (maxL := 4) (ret := (some .int)) (by decide) rfl ?_
  intro p e s m args below meth c s₁ B hml hv
  obtain ⟨rfl, hsz, hv⟩ := hv
  have hx := B.exec
  have hb := B.bytes
  have hr := B.returns
  have hts := atoms_spec (ws := wsX9_reachedBy) B.pre
  have hown : s.vm.findClass RX9 = some m.cls := findClass_of_methodNamed B.named
  have hlocks := B.notSynchronized
  subst hsz
  have B := xB_start hs hv
  have hinRX9 : ∀ w ∈ wsX90, w ∈ wsX9_reachedBy := by decide +kernel
  have hl := lv_entry ([.ref (ad 65), .int a1]) (n := 4) (Nat.le_of_ble_eq_true rfl)
  rw [lg_entry_eq]
  generalize (lg_sl ([.ref (ad 65), .int a1]) ++ List.replicate (4 - (lg_sl ([.ref (ad 65), .int a1])).length) Slot.unset).toArray = ls at hl ⊢
  have hl : lv_has ls 4 [(0, .ref (ad 65)), (1, .int a1)] := hl
  generalize hAe : xA ad a s.heap.size = A at B ⊢
  have L56 : ∀ (K8 : zs → Int32 → Int32 → Int32 → Option (Int32 × zs)) (hK8 : ∀ (σ : zs) (v1 : Int32) (v2 : Int32) (v3 : Int32) (H : Heap) (locs : List Loc) (ls : Array Slot), K8 σ v1 v2 v3 = some (r, σ') → xB A s G ad σ H locs → lv_has ls 4 [(0, .ref (ad 65)), (1, .int v1), (2, .int v2), (3, .int v3)] → W p l e (headSpec wsX9_reachedBy rm_X9_reachedBy).room s m ([.ref (ad 65), .int a1] : List Value).toArray below meth c H locs 0 0 (MQ below (va_Qi (fun r' (u : xV) => r' = r ∧ xQ σ' u) (xPost G ad σ' A) A) ([.ref (ad 65), .int a1] : List Value).toArray s 0 0 A) (F0 m 8 ls [])) (σ : zs) (v1 : Int32) (v3 : Int32) (s0 : Int32) (s1 : Int32) (H : Heap) (locs : List Loc) (ls : Array Slot), f_X9_reachedBy_56 K8 σ v1 v3 s0 s1 = some (r, σ') → xB A s G ad σ H locs → lv_has ls 4 [(0, .ref (ad 65)), (1, .int v1), (3, .int v3)] → W p l e (headSpec wsX9_reachedBy rm_X9_reachedBy).room s m ([.ref (ad 65), .int a1] : List Value).toArray below meth c H locs 0 0 (MQ below (va_Qi (fun r' (u : xV) => r' = r ∧ xQ σ' u) (xPost G ad σ' A) A) ([.ref (ad 65), .int a1] : List Value).toArray s 0 0 A) (F0 m 56 ls [.int s0, .int s1]) := by
    intro K8 hK8 σ v1 v3 s0 s1 H locs ls hf B hl
    unfold f_X9_reachedBy_56 at hf
    refine lv_ior hx hb dX9_reachedBy_56 ?_
    refine lv_istore_n (lv' := [(2, .int (s1 ||| s0)), (0, .ref (ad 65)), (1, .int v1), (3, .int v3)]) hx hb dX9_reachedBy_57 rfl hl (by decide) rfl (fun ls hl => ?_)
    refine lv_iinc (v := (v3 + (1 : Int32))) (lv' := [(3, .int (v3 + (1 : Int32))), (2, .int (s1 ||| s0)), (0, .ref (ad 65)), (1, .int v1)]) hx hb dX9_reachedBy_58 hl (k := 3) rfl (zc1 (by decide)) (by decide) rfl (fun ls hl => ?_)
    refine lv_goto (tgt := 8) hx hb dX9_reachedBy_61 (by decide) ?_
    exact hK8 _ _ _ _ _ _ _ hf B (lv_sub hl [2, 3, 1, 0] rfl)
  have L8 : ∀ (n : Nat) (σ : zs) (v1 : Int32) (v2 : Int32) (v3 : Int32) (H : Heap) (locs : List Loc) (ls : Array Slot), zlp3 (f_X9_reachedBy_8) n σ v1 v2 v3 = some (r, σ') → xB A s G ad σ H locs → lv_has ls 4 [(0, .ref (ad 65)), (1, .int v1), (2, .int v2), (3, .int v3)] → W p l e (headSpec wsX9_reachedBy rm_X9_reachedBy).room s m ([.ref (ad 65), .int a1] : List Value).toArray below meth c H locs 0 0 (MQ below (va_Qi (fun r' (u : xV) => r' = r ∧ xQ σ' u) (xPost G ad σ' A) A) ([.ref (ad 65), .int a1] : List Value).toArray s 0 0 A) (F0 m 8 ls []) := by
    intro n
    induction n with
    | zero =>
      intro σ v1 v2 v3 H locs ls hf
      cases hf
    | succ n ih =>
      intro σ v1 v2 v3 H locs ls hf B hl
      have hf : f_X9_reachedBy_8 (zlp3 (f_X9_reachedBy_8) n) σ v1 v2 v3 = some (r, σ') := hf
      unfold f_X9_reachedBy_8 at hf
      refine lv_iload_n hx hb dX9_reachedBy_8 rfl (lv_at hl 3 rfl) ?_
      refine lv_aload_n hx hb dX9_reachedBy_9 rfl (lv_at hl 0 rfl) ?_
      refine x_getr hx hb hts hinRX9 hown B 65 0 66 (by decide) (by decide) (fun _ => rfl) rfl rfl (by decide) (by decide +kernel) rfl dX9_reachedBy_10 ?_
      refine lv_iconst (v := (1 : Int32)) hx hb dX9_reachedBy_13 (by decide) ?_
      obtain ⟨hg, hf⟩ := zg_some hf
      refine x_iald hx hb B 66 (by decide) (fun _ => rfl) (zin_ok hg) dX9_reachedBy_14 ?_
      refine lv_icmp_ge (tgt := 64) hx hb dX9_reachedBy_15 (by decide) (fun hc => ?_) (fun hc => ?_)
      · have hf := zif_t hc hf
        refine lv_iload_n hx hb dX9_reachedBy_64 rfl (lv_at hl 2 rfl) ?_
        refine W.widen (k := 0) (n := 0) (Nat.le_of_ble_eq_true rfl) (Nat.le_of_ble_eq_true rfl) ?_
        exact x_iret hx hb hr rfl hlocks B hf dX9_reachedBy_65
      · have hf := zif_f hc hf
        refine lv_iload_n hx hb dX9_reachedBy_18 rfl (lv_at hl 2 rfl) ?_
        refine lv_aload_n hx hb dX9_reachedBy_19 rfl (lv_at hl 0 rfl) ?_
        refine x_getr hx hb hts hinRX9 hown B 65 18 73 (by decide) (by decide) (fun _ => rfl) rfl rfl (by decide) (by decide +kernel) rfl dX9_reachedBy_20 ?_
        refine lv_iload_n hx hb dX9_reachedBy_23 rfl (lv_at hl 1 rfl) ?_
        obtain ⟨hg, hf⟩ := zg_some hf
        refine x_iald hx hb B 73 (by decide) (fun _ => rfl) (zin_ok hg) dX9_reachedBy_24 ?_
        refine lv_iload_n hx hb dX9_reachedBy_25 rfl (lv_at hl 3 rfl) ?_
        obtain ⟨r5, σ6, hu4, hf⟩ := zb_some hf
        refine x_i B (fun nb a g hs Bz => va_runS (As := [.int (σ 73 v1.toNatClampNeg), .int v3]) (rest := [.int v2]) ⟨hx, hb, hml, hown, hts⟩ (c_X9_has l hu4 _ nb a g hs) (va_cwS 2 hts gX9_reachedBy_X9_has rfl rfl rfl (by decide +kernel) ⟨Nat.le_of_ble_eq_true rfl, Nat.le_of_ble_eq_true rfl⟩) (z_preS Bz) rfl rfl hl.1 rfl (lv_room (Nat.le_of_ble_eq_true rfl)) dX9_reachedBy_26 ⟨Nat.le_of_ble_eq_true rfl, Nat.le_of_ble_eq_true rfl⟩) (fun H locs B => ?_)
        refine lv_if_eq (tgt := 55) hx hb dX9_reachedBy_29 (by decide) (fun hc => ?_) (fun hc => ?_)
        · have hf := zif_t hc hf
          refine lv_iconst (v := (0 : Int32)) hx hb dX9_reachedBy_55 (by decide) ?_
          exact L56 _ ih  _ _ _ _ _ _ _ _ hf B (lv_sub hl [0, 1, 3] rfl)
        · have hf := zif_f hc hf
          refine lv_aload_n hx hb dX9_reachedBy_32 rfl (lv_at hl 0 rfl) ?_
          refine lv_iload_n hx hb dX9_reachedBy_33 rfl (lv_at hl 1 rfl) ?_
          refine lv_iload_n hx hb dX9_reachedBy_34 rfl (lv_at hl 3 rfl) ?_
          obtain ⟨r8, σ9, hu7, hf⟩ := zb_some hf
          refine x_i B (fun nb a g hs Bz => va_runV (As := [.int v1, .int v3]) (rest := [.int v2]) ⟨hx, hb, hml, hown, hts⟩ (c_X9_openRights l hu7 _ nb a g hs) (cwV 2 hts gX9_reachedBy_X9_openRights rfl rfl rfl (by decide +kernel) ⟨Nat.le_of_ble_eq_true rfl, Nat.le_of_ble_eq_true rfl⟩) (x_preV Bz (by decide) (fun _ => rfl) rfl) rfl rfl hl.1 rfl (lv_room (Nat.le_of_ble_eq_true rfl)) dX9_reachedBy_35 ⟨Nat.le_of_ble_eq_true rfl, Nat.le_of_ble_eq_true rfl⟩) (fun H locs B => ?_)
          refine lv_if_eq (tgt := 55) hx hb dX9_reachedBy_38 (by decide) (fun hc => ?_) (fun hc => ?_)
          · have hf := zif_t hc hf
            refine lv_iconst (v := (0 : Int32)) hx hb dX9_reachedBy_55 (by decide) ?_
            exact L56 _ ih  _ _ _ _ _ _ _ _ hf B (lv_sub hl [0, 1, 3] rfl)
          · have hf := zif_f hc hf
            refine lv_iconst (v := (1 : Int32)) hx hb dX9_reachedBy_41 (by decide) ?_
            refine lv_aload_n hx hb dX9_reachedBy_42 rfl (lv_at hl 0 rfl) ?_
            refine x_getr hx hb hts hinRX9 hown B 65 0 66 (by decide) (by decide) (fun _ => rfl) rfl rfl (by decide) (by decide +kernel) rfl dX9_reachedBy_43 ?_
            refine lv_bipush (v := (51 : Int32)) hx hb dX9_reachedBy_46 (by decide) ?_
            refine lv_iload_n hx hb dX9_reachedBy_48 rfl (lv_at hl 3 rfl) ?_
            refine lv_iadd hx hb dX9_reachedBy_49 ?_
            obtain ⟨hg, hf⟩ := zg_some hf
            refine x_iald hx hb B 66 (by decide) (fun _ => rfl) (zin_ok hg) dX9_reachedBy_50 ?_
            refine lv_ishl hx hb dX9_reachedBy_51 ?_
            refine lv_goto (tgt := 56) hx hb dX9_reachedBy_52 (by decide) ?_
            exact L56 _ ih  _ _ _ _ _ _ _ _ hf B (lv_sub hl [0, 1, 3] rfl)
  unfold f_X9_reachedBy at hf
  refine lv_aload_n hx hb dX9_reachedBy_0 rfl (lv_at hl 0 rfl) ?_
  obtain ⟨r2, σ3, hu1, hf⟩ := zb_some hf
  refine x_v B (fun nb a g hs Bz => va_runV (As := []) (rest := []) ⟨hx, hb, hml, hown, hts⟩ (c_X9_comes l hu1 _ nb a g hs) (cwV 0 hts gX9_reachedBy_X9_comes rfl rfl rfl (by decide +kernel) ⟨Nat.le_of_ble_eq_true rfl, Nat.le_of_ble_eq_true rfl⟩) (x_preV Bz (by decide) (fun _ => rfl) rfl) rfl rfl hl.1 rfl (lv_room (Nat.le_of_ble_eq_true rfl)) dX9_reachedBy_1 ⟨Nat.le_of_ble_eq_true rfl, Nat.le_of_ble_eq_true rfl⟩) (fun H locs B => ?_)
  refine lv_iconst (v := (0 : Int32)) hx hb dX9_reachedBy_4 (by decide) ?_
  refine lv_istore_n (lv' := [(2, .int (0 : Int32)), (0, .ref (ad 65)), (1, .int a1)]) hx hb dX9_reachedBy_5 rfl hl (by decide) rfl (fun ls hl => ?_)
  refine lv_iconst (v := (0 : Int32)) hx hb dX9_reachedBy_6 (by decide) ?_
  refine lv_istore_n (lv' := [(3, .int (0 : Int32)), (2, .int (0 : Int32)), (0, .ref (ad 65)), (1, .int a1)]) hx hb dX9_reachedBy_7 rfl hl (by decide) rfl (fun ls hl => ?_)
  exact L8  _ _ _ _ _ _ _ _ hf B (lv_sub hl [2, 3, 1, 0] rfl)
theorem dX9_reached_0 : decode cX9_reached 0 = .ok (.aload_n 0, 1) := by decide +kernel
theorem dX9_reached_1 : decode cX9_reached 1 = .ok (.iload_n 1, 1) := by decide +kernel
theorem dX9_reached_2 : decode cX9_reached 2 = .ok (.invokestatic 78, 3) := by decide +kernel
theorem dX9_reached_5 : decode cX9_reached 5 = .ok (.ifCond .eq 7, 3) := by decide +kernel
theorem dX9_reached_8 : decode cX9_reached 8 = .ok (.iconst 0, 1) := by decide +kernel
theorem dX9_reached_9 : decode cX9_reached 9 = .ok (.goto 4, 3) := by decide +kernel
theorem dX9_reached_12 : decode cX9_reached 12 = .ok (.iconst 1, 1) := by decide +kernel
theorem dX9_reached_13 : decode cX9_reached 13 = .ok (.putfield 41, 3) := by decide +kernel
theorem dX9_reached_16 : decode cX9_reached 16 = .ok (.aload_n 0, 1) := by decide +kernel
theorem dX9_reached_17 : decode cX9_reached 17 = .ok (.getfield 41, 3) := by decide +kernel
theorem dX9_reached_20 : decode cX9_reached 20 = .ok (.ifCond .ne 11, 3) := by decide +kernel
theorem dX9_reached_23 : decode cX9_reached 23 = .ok (.aload_n 0, 1) := by decide +kernel
theorem dX9_reached_24 : decode cX9_reached 24 = .ok (.iload_n 1, 1) := by decide +kernel
theorem dX9_reached_25 : decode cX9_reached 25 = .ok (.invokevirtual 214, 3) := by decide +kernel
theorem dX9_reached_28 : decode cX9_reached 28 = .ok (.goto 4, 3) := by decide +kernel
theorem dX9_reached_31 : decode cX9_reached 31 = .ok (.iconst 0, 1) := by decide +kernel
theorem dX9_reached_32 : decode cX9_reached 32 = .ok (.ireturn, 1) := by decide +kernel
set_option maxRecDepth 20000 in
theorem ggX9_reached_X9_isSubject : GoodIn wsX9_reached wsX9_isSubject := goodIn_r _ [5, 6, 7, 4, 8] (by decide +kernel) (by decide +kernel)
set_option maxRecDepth 20000 in
theorem gX9_reached_X9_isSubject : GoodIn wsX9_reached (va_wsS RX9 78 yX9_isSubject wsX9_isSubject) := goodIn_app (goodIn_of _ (by decide +kernel)) ggX9_reached_X9_isSubject
set_option maxRecDepth 20000 in
theorem ggX9_reached_X9_reachedBy : GoodIn wsX9_reached wsX9_reachedBy := goodIn_ca (goodIn_r _ [12, 13, 14, 15, 16, 17, 4, 18, 19, 20, 21, 22, 23, 24, 25, 26, 27, 28, 29, 30, 31, 32, 33, 34, 35, 36, 37, 38, 39, 40, 41, 42, 43, 44, 45, 46, 47, 48, 49, 50, 51, 52, 53, 54, 55, 56, 6, 7, 8, 57, 58, 59, 60, 61, 62, 63, 64, 65, 66, 67, 68, 69, 70, 71, 72, 73, 74, 75, 76] (by decide +kernel) (by decide +kernel)) (goodIn_sub (fun _ h => List.mem_cons_of_mem _ (List.mem_append_right _ h)) (by decide +kernel))
set_option maxRecDepth 20000 in
theorem gX9_reached_X9_reachedBy : GoodIn wsX9_reached (wsV RX9 214 RX9 yX9_reachedBy wsX9_reachedBy) := goodIn_app (goodIn_of _ (by decide +kernel)) ggX9_reached_X9_reachedBy
def rm_X9_reached : Room := { frames := 7, cells := 0, slots := 0, locals := 163 }
set_option maxHeartbeats 4000000 in
set_option maxRecDepth 100000 in
theorem c_X9_reached (l : Launch) {G : zG} {ad : Nat → Nat} {σ σ' : zs} {a1 : Int32} {r : Int32} (hf : f_X9_reached σ a1 = some (r, σ')) : xMi l yX9_reached wsX9_reached rm_X9_reached G ad σ [.ref (ad 65), .int a1] r σ' := by
  intro sz nb a g hs
  refine Met.ofW (cc := cX9_reached) (maxL := 2) (ret := (some .int)) (by decide) rfl ?_
  intro p e s m args below meth c s₁ B hml hv
  obtain ⟨rfl, hsz, hv⟩ := hv
  have hx := B.exec
  have hb := B.bytes
  have hr := B.returns
  have hts := atoms_spec (ws := wsX9_reached) B.pre
  have hown : s.vm.findClass RX9 = some m.cls := findClass_of_methodNamed B.named
  have hlocks := B.notSynchronized
  subst hsz
  have B := xB_start hs hv
  have hinRX9 : ∀ w ∈ wsX90, w ∈ wsX9_reached := by decide +kernel
  have hl := lv_entry ([.ref (ad 65), .int a1]) (n := 2) (Nat.le_of_ble_eq_true rfl)
  rw [lg_entry_eq]
  generalize (lg_sl ([.ref (ad 65), .int a1]) ++ List.replicate (2 - (lg_sl ([.ref (ad 65), .int a1])).length) Slot.unset).toArray = ls at hl ⊢
  have hl : lv_has ls 2 [(0, .ref (ad 65)), (1, .int a1)] := hl
  generalize hAe : xA ad a s.heap.size = A at B ⊢
  have L13 : ∀ (σ : zs) (v1 : Int32) (s0 : Int32) (H : Heap) (locs : List Loc) (ls : Array Slot), f_X9_reached_13 σ v1 s0 = some (r, σ') → xB A s G ad σ H locs → lv_has ls 2 [(0, .ref (ad 65)), (1, .int v1)] → W p l e (headSpec wsX9_reached rm_X9_reached).room s m ([.ref (ad 65), .int a1] : List Value).toArray below meth c H locs 0 0 (MQ below (va_Qi (fun r' (u : xV) => r' = r ∧ xQ σ' u) (xPost G ad σ' A) A) ([.ref (ad 65), .int a1] : List Value).toArray s 0 0 A) (F0 m 13 ls [.int s0, .ref (ad 65)]) := by
    intro σ v1 s0 H locs ls hf B hl
    unfold f_X9_reached_13 at hf
    refine x_puti hx hb hts hinRX9 hown tyX9 tyX9_ok nmX9 B 65 3 (by decide) (by decide) (fun _ => rfl) rfl rfl (by decide) (by decide +kernel) rfl rfl rfl rfl dX9_reached_13 (fun H locs B => ?_)
    refine lv_aload_n hx hb dX9_reached_16 rfl (lv_at hl 0 rfl) ?_
    refine x_geti hx hb hts hinRX9 hown B 65 3 (by decide) (fun _ => rfl) rfl rfl (by decide) (by decide +kernel) rfl dX9_reached_17 ?_
    refine lv_if_ne (tgt := 31) hx hb dX9_reached_20 (by decide) (fun hc => ?_) (fun hc => ?_)
    · have hf := zif_f hc hf
      refine lv_iconst (v := (0 : Int32)) hx hb dX9_reached_31 (by decide) ?_
      refine W.widen (k := 0) (n := 0) (Nat.le_of_ble_eq_true rfl) (Nat.le_of_ble_eq_true rfl) ?_
      exact x_iret hx hb hr rfl hlocks B hf dX9_reached_32
    · have hf := zif_t hc hf
      refine lv_aload_n hx hb dX9_reached_23 rfl (lv_at hl 0 rfl) ?_
      refine lv_iload_n hx hb dX9_reached_24 rfl (lv_at hl 1 rfl) ?_
      obtain ⟨r5, σ6, hu4, hf⟩ := zb_some hf
      refine x_i B (fun nb a g hs Bz => va_runV (As := [.int v1]) (rest := []) ⟨hx, hb, hml, hown, hts⟩ (c_X9_reachedBy l hu4 _ nb a g hs) (cwV 1 hts gX9_reached_X9_reachedBy rfl rfl rfl (by decide +kernel) ⟨Nat.le_of_ble_eq_true rfl, Nat.le_of_ble_eq_true rfl⟩) (x_preV Bz (by decide) (fun _ => rfl) rfl) rfl rfl hl.1 rfl (lv_room (Nat.le_of_ble_eq_true rfl)) dX9_reached_25 ⟨Nat.le_of_ble_eq_true rfl, Nat.le_of_ble_eq_true rfl⟩) (fun H locs B => ?_)
      refine lv_goto (tgt := 32) hx hb dX9_reached_28 (by decide) ?_
      refine W.widen (k := 0) (n := 0) (Nat.le_of_ble_eq_true rfl) (Nat.le_of_ble_eq_true rfl) ?_
      exact x_iret hx hb hr rfl hlocks B hf dX9_reached_32
  unfold f_X9_reached at hf
  refine lv_aload_n hx hb dX9_reached_0 rfl (lv_at hl 0 rfl) ?_
  refine lv_iload_n hx hb dX9_reached_1 rfl (lv_at hl 1 rfl) ?_
  obtain ⟨r2, σ3, hu1, hf⟩ := zb_some hf
  refine x_i B (fun nb a g hs Bz => va_runS (As := [.int a1]) (rest := [.ref (ad 65)]) ⟨hx, hb, hml, hown, hts⟩ (c_X9_isSubject l hu1 _ nb a g hs) (va_cwS 1 hts gX9_reached_X9_isSubject rfl rfl rfl (by decide +kernel) ⟨Nat.le_of_ble_eq_true rfl, Nat.le_of_ble_eq_true rfl⟩) (z_preS Bz) rfl rfl hl.1 rfl (lv_room (Nat.le_of_ble_eq_true rfl)) dX9_reached_2 ⟨Nat.le_of_ble_eq_true rfl, Nat.le_of_ble_eq_true rfl⟩) (fun H locs B => ?_)
  refine lv_if_eq (tgt := 12) hx hb dX9_reached_5 (by decide) (fun hc => ?_) (fun hc => ?_)
  · have hf := zif_t hc hf
    refine lv_iconst (v := (1 : Int32)) hx hb dX9_reached_12 (by decide) ?_
    exact L13  _ _ _ _ _ _ hf B (lv_sub hl [0, 1] rfl)
  · have hf := zif_f hc hf
    refine lv_iconst (v := (0 : Int32)) hx hb dX9_reached_8 (by decide) ?_
    refine lv_goto (tgt := 13) hx hb dX9_reached_9 (by decide) ?_
    exact L13  _ _ _ _ _ _ hf B (lv_sub hl [0, 1] rfl)
theorem dX9_isConfined_0 : decode cX9_isConfined 0 = .ok (.aload_n 0, 1) := by decide +kernel
theorem dX9_isConfined_1 : decode cX9_isConfined 1 = .ok (.iload_n 1, 1) := by decide +kernel
theorem dX9_isConfined_2 : decode cX9_isConfined 2 = .ok (.invokestatic 78, 3) := by decide +kernel
theorem dX9_isConfined_5 : decode cX9_isConfined 5 = .ok (.ifCond .ne 7, 3) := by decide +kernel
theorem dX9_isConfined_8 : decode cX9_isConfined 8 = .ok (.iconst 1, 1) := by decide +kernel
theorem dX9_isConfined_9 : decode cX9_isConfined 9 = .ok (.goto 16, 3) := by decide +kernel
theorem dX9_isConfined_12 : decode cX9_isConfined 12 = .ok (.iload_n 2, 1) := by decide +kernel
theorem dX9_isConfined_13 : decode cX9_isConfined 13 = .ok (.sipush (-4096), 3) := by decide +kernel
theorem dX9_isConfined_16 : decode cX9_isConfined 16 = .ok (.iand, 1) := by decide +kernel
theorem dX9_isConfined_17 : decode cX9_isConfined 17 = .ok (.ifCond .eq 7, 3) := by decide +kernel
theorem dX9_isConfined_20 : decode cX9_isConfined 20 = .ok (.iconst 2, 1) := by decide +kernel
theorem dX9_isConfined_21 : decode cX9_isConfined 21 = .ok (.goto 4, 3) := by decide +kernel
theorem dX9_isConfined_24 : decode cX9_isConfined 24 = .ok (.iconst 0, 1) := by decide +kernel
theorem dX9_isConfined_25 : decode cX9_isConfined 25 = .ok (.putfield 41, 3) := by decide +kernel
theorem dX9_isConfined_28 : decode cX9_isConfined 28 = .ok (.aload_n 0, 1) := by decide +kernel
theorem dX9_isConfined_29 : decode cX9_isConfined 29 = .ok (.getfield 41, 3) := by decide +kernel
theorem dX9_isConfined_32 : decode cX9_isConfined 32 = .ok (.ifCond .ne 19, 3) := by decide +kernel
theorem dX9_isConfined_35 : decode cX9_isConfined 35 = .ok (.aload_n 0, 1) := by decide +kernel
theorem dX9_isConfined_36 : decode cX9_isConfined 36 = .ok (.iload_n 1, 1) := by decide +kernel
theorem dX9_isConfined_37 : decode cX9_isConfined 37 = .ok (.invokevirtual 214, 3) := by decide +kernel
theorem dX9_isConfined_40 : decode cX9_isConfined 40 = .ok (.iload_n 2, 1) := by decide +kernel
theorem dX9_isConfined_41 : decode cX9_isConfined 41 = .ok (.iconst (-1), 1) := by decide +kernel
theorem dX9_isConfined_42 : decode cX9_isConfined 42 = .ok (.ixor, 1) := by decide +kernel
theorem dX9_isConfined_43 : decode cX9_isConfined 43 = .ok (.iand, 1) := by decide +kernel
theorem dX9_isConfined_44 : decode cX9_isConfined 44 = .ok (.ifCond .ne 7, 3) := by decide +kernel
theorem dX9_isConfined_47 : decode cX9_isConfined 47 = .ok (.iconst 1, 1) := by decide +kernel
theorem dX9_isConfined_48 : decode cX9_isConfined 48 = .ok (.goto 4, 3) := by decide +kernel
theorem dX9_isConfined_51 : decode cX9_isConfined 51 = .ok (.iconst 0, 1) := by decide +kernel
theorem dX9_isConfined_52 : decode cX9_isConfined 52 = .ok (.ireturn, 1) := by decide +kernel
set_option maxRecDepth 20000 in
theorem ggX9_isConfined_X9_isSubject : GoodIn wsX9_isConfined wsX9_isSubject := goodIn_r _ [5, 6, 7, 4, 8] (by decide +kernel) (by decide +kernel)
set_option maxRecDepth 20000 in
theorem gX9_isConfined_X9_isSubject : GoodIn wsX9_isConfined (va_wsS RX9 78 yX9_isSubject wsX9_isSubject) := goodIn_app (goodIn_of _ (by decide +kernel)) ggX9_isConfined_X9_isSubject
set_option maxRecDepth 20000 in
theorem ggX9_isConfined_X9_reachedBy : GoodIn wsX9_isConfined wsX9_reachedBy := goodIn_ca (goodIn_r _ [12, 13, 14, 15, 16, 17, 4, 18, 19, 20, 21, 22, 23, 24, 25, 26, 27, 28, 29, 30, 31, 32, 33, 34, 35, 36, 37, 38, 39, 40, 41, 42, 43, 44, 45, 46, 47, 48, 49, 50, 51, 52, 53, 54, 55, 56, 6, 7, 8, 57, 58, 59, 60, 61, 62, 63, 64, 65, 66, 67, 68, 69, 70, 71, 72, 73, 74, 75, 76] (by decide +kernel) (by decide +kernel)) (goodIn_sub (fun _ h => List.mem_cons_of_mem _ (List.mem_append_right _ h)) (by decide +kernel))
set_option maxRecDepth 20000 in
theorem gX9_isConfined_X9_reachedBy : GoodIn wsX9_isConfined (wsV RX9 214 RX9 yX9_reachedBy wsX9_reachedBy) := goodIn_app (goodIn_of _ (by decide +kernel)) ggX9_isConfined_X9_reachedBy
def rm_X9_isConfined : Room := { frames := 7, cells := 0, slots := 0, locals := 163 }
set_option maxHeartbeats 4000000 in
set_option maxRecDepth 100000 in
theorem c_X9_isConfined (l : Launch) {G : zG} {ad : Nat → Nat} {σ σ' : zs} {a1 a2 : Int32} {r : Int32} (hf : f_X9_isConfined σ a1 a2 = some (r, σ')) : xMi l yX9_isConfined wsX9_isConfined rm_X9_isConfined G ad σ [.ref (ad 65), .int a1, .int a2] r σ' := by
  intro sz nb a g hs
  refine Met.ofW (cc := cX9_isConfined) (maxL := 3) (ret := (some .boolean)) (by decide) rfl ?_
  intro p e s m args below meth c s₁ B hml hv
  obtain ⟨rfl, hsz, hv⟩ := hv
  have hx := B.exec
  have hb := B.bytes
  have hr := B.returns
  have hts := atoms_spec (ws := wsX9_isConfined) B.pre
  have hown : s.vm.findClass RX9 = some m.cls := findClass_of_methodNamed B.named
  have hlocks := B.notSynchronized
  subst hsz
  have B := xB_start hs hv
  have hinRX9 : ∀ w ∈ wsX90, w ∈ wsX9_isConfined := by decide +kernel
  have hl := lv_entry ([.ref (ad 65), .int a1, .int a2]) (n := 3) (Nat.le_of_ble_eq_true rfl)
  rw [lg_entry_eq]
  generalize (lg_sl ([.ref (ad 65), .int a1, .int a2]) ++ List.replicate (3 - (lg_sl ([.ref (ad 65), .int a1, .int a2])).length) Slot.unset).toArray = ls at hl ⊢
  have hl : lv_has ls 3 [(0, .ref (ad 65)), (1, .int a1), (2, .int a2)] := hl
  generalize hAe : xA ad a s.heap.size = A at B ⊢
  have L25 : ∀ (σ : zs) (v1 : Int32) (v2 : Int32) (s0 : Int32) (H : Heap) (locs : List Loc) (ls : Array Slot), f_X9_isConfined_25 σ v1 v2 s0 = some (r, σ') → xB A s G ad σ H locs → lv_has ls 3 [(0, .ref (ad 65)), (1, .int v1), (2, .int v2)] → W p l e (headSpec wsX9_isConfined rm_X9_isConfined).room s m ([.ref (ad 65), .int a1, .int a2] : List Value).toArray below meth c H locs 0 0 (MQ below (va_Qi (fun r' (u : xV) => r' = r ∧ xQ σ' u) (xPost G ad σ' A) A) ([.ref (ad 65), .int a1, .int a2] : List Value).toArray s 0 0 A) (F0 m 25 ls [.int s0, .ref (ad 65)]) := by
    intro σ v1 v2 s0 H locs ls hf B hl
    unfold f_X9_isConfined_25 at hf
    refine x_puti hx hb hts hinRX9 hown tyX9 tyX9_ok nmX9 B 65 3 (by decide) (by decide) (fun _ => rfl) rfl rfl (by decide) (by decide +kernel) rfl rfl rfl rfl dX9_isConfined_25 (fun H locs B => ?_)
    refine lv_aload_n hx hb dX9_isConfined_28 rfl (lv_at hl 0 rfl) ?_
    refine x_geti hx hb hts hinRX9 hown B 65 3 (by decide) (fun _ => rfl) rfl rfl (by decide) (by decide +kernel) rfl dX9_isConfined_29 ?_
    refine lv_if_ne (tgt := 51) hx hb dX9_isConfined_32 (by decide) (fun hc => ?_) (fun hc => ?_)
    · have hf := zif_f hc hf
      refine lv_iconst (v := (0 : Int32)) hx hb dX9_isConfined_51 (by decide) ?_
      refine W.widen (k := 0) (n := 0) (Nat.le_of_ble_eq_true rfl) (Nat.le_of_ble_eq_true rfl) ?_
      exact x_iret hx hb hr (by decide) hlocks B hf dX9_isConfined_52
    · have hf := zif_t hc hf
      refine lv_aload_n hx hb dX9_isConfined_35 rfl (lv_at hl 0 rfl) ?_
      refine lv_iload_n hx hb dX9_isConfined_36 rfl (lv_at hl 1 rfl) ?_
      obtain ⟨r5, σ6, hu4, hf⟩ := zb_some hf
      refine x_i B (fun nb a g hs Bz => va_runV (As := [.int v1]) (rest := []) ⟨hx, hb, hml, hown, hts⟩ (c_X9_reachedBy l hu4 _ nb a g hs) (cwV 1 hts gX9_isConfined_X9_reachedBy rfl rfl rfl (by decide +kernel) ⟨Nat.le_of_ble_eq_true rfl, Nat.le_of_ble_eq_true rfl⟩) (x_preV Bz (by decide) (fun _ => rfl) rfl) rfl rfl hl.1 rfl (lv_room (Nat.le_of_ble_eq_true rfl)) dX9_isConfined_37 ⟨Nat.le_of_ble_eq_true rfl, Nat.le_of_ble_eq_true rfl⟩) (fun H locs B => ?_)
      refine lv_iload_n hx hb dX9_isConfined_40 rfl (lv_at hl 2 rfl) ?_
      refine lv_iconst (v := (-1 : Int32)) hx hb dX9_isConfined_41 (by decide) ?_
      refine lv_ixor hx hb dX9_isConfined_42 ?_
      refine lv_iand hx hb dX9_isConfined_43 ?_
      refine lv_if_ne (tgt := 51) hx hb dX9_isConfined_44 (by decide) (fun hc => ?_) (fun hc => ?_)
      · have hf := zif_f hc hf
        refine lv_iconst (v := (0 : Int32)) hx hb dX9_isConfined_51 (by decide) ?_
        refine W.widen (k := 0) (n := 0) (Nat.le_of_ble_eq_true rfl) (Nat.le_of_ble_eq_true rfl) ?_
        exact x_iret hx hb hr (by decide) hlocks B hf dX9_isConfined_52
      · have hf := zif_t hc hf
        refine lv_iconst (v := (1 : Int32)) hx hb dX9_isConfined_47 (by decide) ?_
        refine lv_goto (tgt := 52) hx hb dX9_isConfined_48 (by decide) ?_
        refine W.widen (k := 0) (n := 0) (Nat.le_of_ble_eq_true rfl) (Nat.le_of_ble_eq_true rfl) ?_
        exact x_iret hx hb hr (by decide) hlocks B hf dX9_isConfined_52
  unfold f_X9_isConfined at hf
  refine lv_aload_n hx hb dX9_isConfined_0 rfl (lv_at hl 0 rfl) ?_
  refine lv_iload_n hx hb dX9_isConfined_1 rfl (lv_at hl 1 rfl) ?_
  obtain ⟨r2, σ3, hu1, hf⟩ := zb_some hf
  refine x_i B (fun nb a g hs Bz => va_runS (As := [.int a1]) (rest := [.ref (ad 65)]) ⟨hx, hb, hml, hown, hts⟩ (c_X9_isSubject l hu1 _ nb a g hs) (va_cwS 1 hts gX9_isConfined_X9_isSubject rfl rfl rfl (by decide +kernel) ⟨Nat.le_of_ble_eq_true rfl, Nat.le_of_ble_eq_true rfl⟩) (z_preS Bz) rfl rfl hl.1 rfl (lv_room (Nat.le_of_ble_eq_true rfl)) dX9_isConfined_2 ⟨Nat.le_of_ble_eq_true rfl, Nat.le_of_ble_eq_true rfl⟩) (fun H locs B => ?_)
  refine lv_if_ne (tgt := 12) hx hb dX9_isConfined_5 (by decide) (fun hc => ?_) (fun hc => ?_)
  · have hf := zif_f hc hf
    refine lv_iload_n hx hb dX9_isConfined_12 rfl (lv_at hl 2 rfl) ?_
    refine lv_sipush (v := (-4096 : Int32)) hx hb dX9_isConfined_13 (by decide) ?_
    refine lv_iand hx hb dX9_isConfined_16 ?_
    refine lv_if_eq (tgt := 24) hx hb dX9_isConfined_17 (by decide) (fun hc => ?_) (fun hc => ?_)
    · have hf := zif_t hc hf
      refine lv_iconst (v := (0 : Int32)) hx hb dX9_isConfined_24 (by decide) ?_
      exact L25  _ _ _ _ _ _ _ hf B (lv_sub hl [0, 1, 2] rfl)
    · have hf := zif_f hc hf
      refine lv_iconst (v := (2 : Int32)) hx hb dX9_isConfined_20 (by decide) ?_
      refine lv_goto (tgt := 25) hx hb dX9_isConfined_21 (by decide) ?_
      exact L25  _ _ _ _ _ _ _ hf B (lv_sub hl [0, 1, 2] rfl)
  · have hf := zif_t hc hf
    refine lv_iconst (v := (1 : Int32)) hx hb dX9_isConfined_8 (by decide) ?_
    refine lv_goto (tgt := 25) hx hb dX9_isConfined_9 (by decide) ?_
    exact L25  _ _ _ _ _ _ _ hf B (lv_sub hl [0, 1, 2] rfl)
theorem dX9_whole_0 : decode cX9_whole 0 = .ok (.iconst 0, 1) := by decide +kernel
theorem dX9_whole_1 : decode cX9_whole 1 = .ok (.istore_n 1, 1) := by decide +kernel
theorem dX9_whole_2 : decode cX9_whole 2 = .ok (.iconst 0, 1) := by decide +kernel
theorem dX9_whole_3 : decode cX9_whole 3 = .ok (.istore_n 2, 1) := by decide +kernel
theorem dX9_whole_4 : decode cX9_whole 4 = .ok (.iload_n 2, 1) := by decide +kernel
theorem dX9_whole_5 : decode cX9_whole 5 = .ok (.aload_n 0, 1) := by decide +kernel
theorem dX9_whole_6 : decode cX9_whole 6 = .ok (.getfield 9, 3) := by decide +kernel
theorem dX9_whole_9 : decode cX9_whole 9 = .ok (.iconst 1, 1) := by decide +kernel
theorem dX9_whole_10 : decode cX9_whole 10 = .ok (.iaload, 1) := by decide +kernel
theorem dX9_whole_11 : decode cX9_whole 11 = .ok (.if_icmp .ge 25, 3) := by decide +kernel
theorem dX9_whole_14 : decode cX9_whole 14 = .ok (.iload_n 1, 1) := by decide +kernel
theorem dX9_whole_15 : decode cX9_whole 15 = .ok (.aload_n 0, 1) := by decide +kernel
theorem dX9_whole_16 : decode cX9_whole 16 = .ok (.iload_n 2, 1) := by decide +kernel
theorem dX9_whole_17 : decode cX9_whole 17 = .ok (.invokevirtual 134, 3) := by decide +kernel
theorem dX9_whole_20 : decode cX9_whole 20 = .ok (.ifCond .ne 7, 3) := by decide +kernel
theorem dX9_whole_23 : decode cX9_whole 23 = .ok (.iconst 1, 1) := by decide +kernel
theorem dX9_whole_24 : decode cX9_whole 24 = .ok (.goto 4, 3) := by decide +kernel
theorem dX9_whole_27 : decode cX9_whole 27 = .ok (.iconst 0, 1) := by decide +kernel
theorem dX9_whole_28 : decode cX9_whole 28 = .ok (.iadd, 1) := by decide +kernel
theorem dX9_whole_29 : decode cX9_whole 29 = .ok (.istore_n 1, 1) := by decide +kernel
theorem dX9_whole_30 : decode cX9_whole 30 = .ok (.iinc 2 1, 3) := by decide +kernel
theorem dX9_whole_33 : decode cX9_whole 33 = .ok (.goto (-29), 3) := by decide +kernel
theorem dX9_whole_36 : decode cX9_whole 36 = .ok (.iload_n 1, 1) := by decide +kernel
theorem dX9_whole_37 : decode cX9_whole 37 = .ok (.ireturn, 1) := by decide +kernel
set_option maxRecDepth 20000 in
theorem ggX9_whole_X9_revokedIn : GoodIn wsX9_whole wsX9_revokedIn := goodIn_ca (goodIn_r _ [6, 1, 7, 8, 9, 10, 11, 12, 13, 14, 15, 16, 17, 18, 19, 20, 21, 22, 23, 24, 25, 26] (by decide +kernel) (by decide +kernel)) (goodIn_sub (fun _ h => List.mem_cons_of_mem _ (List.mem_append_right _ h)) (by decide +kernel))
set_option maxRecDepth 20000 in
theorem gX9_whole_X9_revokedIn : GoodIn wsX9_whole (wsV RX9 134 RX9 yX9_revokedIn wsX9_revokedIn) := goodIn_app (goodIn_of _ (by decide +kernel)) ggX9_whole_X9_revokedIn
def rm_X9_whole : Room := { frames := 2, cells := 0, slots := 0, locals := 39 }
set_option maxHeartbeats 4000000 in
set_option maxRecDepth 100000 in
theorem c_X9_whole (l : Launch) {G : zG} {ad : Nat → Nat} {σ σ' : zs} {r : Int32} (hf : f_X9_whole σ  = some (r, σ')) : xMi l yX9_whole wsX9_whole rm_X9_whole G ad σ [.ref (ad 65)] r σ' := by
  intro sz nb a g hs
  refine Met.ofW (cc := cX9_whole) (maxL := 3) (ret := (some .int)) (by decide) rfl ?_
  intro p e s m args below meth c s₁ B hml hv
  obtain ⟨rfl, hsz, hv⟩ := hv
  have hx := B.exec
  have hb := B.bytes
  have hr := B.returns
  have hts := atoms_spec (ws := wsX9_whole) B.pre
  have hown : s.vm.findClass RX9 = some m.cls := findClass_of_methodNamed B.named
  have hlocks := B.notSynchronized
  subst hsz
  have B := xB_start hs hv
  have hinRX9 : ∀ w ∈ wsX90, w ∈ wsX9_whole := by decide +kernel
  have hl := lv_entry ([.ref (ad 65)]) (n := 3) (Nat.le_of_ble_eq_true rfl)
  rw [lg_entry_eq]
  generalize (lg_sl ([.ref (ad 65)]) ++ List.replicate (3 - (lg_sl ([.ref (ad 65)])).length) Slot.unset).toArray = ls at hl ⊢
  have hl : lv_has ls 3 [(0, .ref (ad 65))] := hl
  generalize hAe : xA ad a s.heap.size = A at B ⊢
  have L28 : ∀ (K4 : zs → Int32 → Int32 → Option (Int32 × zs)) (hK4 : ∀ (σ : zs) (v1 : Int32) (v2 : Int32) (H : Heap) (locs : List Loc) (ls : Array Slot), K4 σ v1 v2 = some (r, σ') → xB A s G ad σ H locs → lv_has ls 3 [(0, .ref (ad 65)), (1, .int v1), (2, .int v2)] → W p l e (headSpec wsX9_whole rm_X9_whole).room s m ([.ref (ad 65)] : List Value).toArray below meth c H locs 0 0 (MQ below (va_Qi (fun r' (u : xV) => r' = r ∧ xQ σ' u) (xPost G ad σ' A) A) ([.ref (ad 65)] : List Value).toArray s 0 0 A) (F0 m 4 ls [])) (σ : zs) (v2 : Int32) (s0 : Int32) (s1 : Int32) (H : Heap) (locs : List Loc) (ls : Array Slot), f_X9_whole_28 K4 σ v2 s0 s1 = some (r, σ') → xB A s G ad σ H locs → lv_has ls 3 [(0, .ref (ad 65)), (2, .int v2)] → W p l e (headSpec wsX9_whole rm_X9_whole).room s m ([.ref (ad 65)] : List Value).toArray below meth c H locs 0 0 (MQ below (va_Qi (fun r' (u : xV) => r' = r ∧ xQ σ' u) (xPost G ad σ' A) A) ([.ref (ad 65)] : List Value).toArray s 0 0 A) (F0 m 28 ls [.int s0, .int s1]) := by
    intro K4 hK4 σ v2 s0 s1 H locs ls hf B hl
    unfold f_X9_whole_28 at hf
    refine lv_iadd hx hb dX9_whole_28 ?_
    refine lv_istore_n (lv' := [(1, .int (s1 + s0)), (0, .ref (ad 65)), (2, .int v2)]) hx hb dX9_whole_29 rfl hl (by decide) rfl (fun ls hl => ?_)
    refine lv_iinc (v := (v2 + (1 : Int32))) (lv' := [(2, .int (v2 + (1 : Int32))), (1, .int (s1 + s0)), (0, .ref (ad 65))]) hx hb dX9_whole_30 hl (k := 2) rfl (zc1 (by decide)) (by decide) rfl (fun ls hl => ?_)
    refine lv_goto (tgt := 4) hx hb dX9_whole_33 (by decide) ?_
    exact hK4 _ _ _ _ _ _ hf B (lv_sub hl [2, 1, 0] rfl)
  have L4 : ∀ (n : Nat) (σ : zs) (v1 : Int32) (v2 : Int32) (H : Heap) (locs : List Loc) (ls : Array Slot), zlp2 (f_X9_whole_4) n σ v1 v2 = some (r, σ') → xB A s G ad σ H locs → lv_has ls 3 [(0, .ref (ad 65)), (1, .int v1), (2, .int v2)] → W p l e (headSpec wsX9_whole rm_X9_whole).room s m ([.ref (ad 65)] : List Value).toArray below meth c H locs 0 0 (MQ below (va_Qi (fun r' (u : xV) => r' = r ∧ xQ σ' u) (xPost G ad σ' A) A) ([.ref (ad 65)] : List Value).toArray s 0 0 A) (F0 m 4 ls []) := by
    intro n
    induction n with
    | zero =>
      intro σ v1 v2 H locs ls hf
      cases hf
    | succ n ih =>
      intro σ v1 v2 H locs ls hf B hl
      have hf : f_X9_whole_4 (zlp2 (f_X9_whole_4) n) σ v1 v2 = some (r, σ') := hf
      unfold f_X9_whole_4 at hf
      refine lv_iload_n hx hb dX9_whole_4 rfl (lv_at hl 2 rfl) ?_
      refine lv_aload_n hx hb dX9_whole_5 rfl (lv_at hl 0 rfl) ?_
      refine x_getr hx hb hts hinRX9 hown B 65 0 66 (by decide) (by decide) (fun _ => rfl) rfl rfl (by decide) (by decide +kernel) rfl dX9_whole_6 ?_
      refine lv_iconst (v := (1 : Int32)) hx hb dX9_whole_9 (by decide) ?_
      obtain ⟨hg, hf⟩ := zg_some hf
      refine x_iald hx hb B 66 (by decide) (fun _ => rfl) (zin_ok hg) dX9_whole_10 ?_
      refine lv_icmp_ge (tgt := 36) hx hb dX9_whole_11 (by decide) (fun hc => ?_) (fun hc => ?_)
      · have hf := zif_t hc hf
        refine lv_iload_n hx hb dX9_whole_36 rfl (lv_at hl 1 rfl) ?_
        refine W.widen (k := 0) (n := 0) (Nat.le_of_ble_eq_true rfl) (Nat.le_of_ble_eq_true rfl) ?_
        exact x_iret hx hb hr rfl hlocks B hf dX9_whole_37
      · have hf := zif_f hc hf
        refine lv_iload_n hx hb dX9_whole_14 rfl (lv_at hl 1 rfl) ?_
        refine lv_aload_n hx hb dX9_whole_15 rfl (lv_at hl 0 rfl) ?_
        refine lv_iload_n hx hb dX9_whole_16 rfl (lv_at hl 2 rfl) ?_
        obtain ⟨r2, σ3, hu1, hf⟩ := zb_some hf
        refine x_i B (fun nb a g hs Bz => va_runV (As := [.int v2]) (rest := [.int v1]) ⟨hx, hb, hml, hown, hts⟩ (c_X9_revokedIn l hu1 _ nb a g hs) (cwV 1 hts gX9_whole_X9_revokedIn rfl rfl rfl (by decide +kernel) ⟨Nat.le_of_ble_eq_true rfl, Nat.le_of_ble_eq_true rfl⟩) (x_preV Bz (by decide) (fun _ => rfl) rfl) rfl rfl hl.1 rfl (lv_room (Nat.le_of_ble_eq_true rfl)) dX9_whole_17 ⟨Nat.le_of_ble_eq_true rfl, Nat.le_of_ble_eq_true rfl⟩) (fun H locs B => ?_)
        refine lv_if_ne (tgt := 27) hx hb dX9_whole_20 (by decide) (fun hc => ?_) (fun hc => ?_)
        · have hf := zif_f hc hf
          refine lv_iconst (v := (0 : Int32)) hx hb dX9_whole_27 (by decide) ?_
          exact L28 _ ih  _ _ _ _ _ _ _ hf B (lv_sub hl [0, 2] rfl)
        · have hf := zif_t hc hf
          refine lv_iconst (v := (1 : Int32)) hx hb dX9_whole_23 (by decide) ?_
          refine lv_goto (tgt := 28) hx hb dX9_whole_24 (by decide) ?_
          exact L28 _ ih  _ _ _ _ _ _ _ hf B (lv_sub hl [0, 2] rfl)
  unfold f_X9_whole at hf
  refine lv_iconst (v := (0 : Int32)) hx hb dX9_whole_0 (by decide) ?_
  refine lv_istore_n (lv' := [(1, .int (0 : Int32)), (0, .ref (ad 65))]) hx hb dX9_whole_1 rfl hl (by decide) rfl (fun ls hl => ?_)
  refine lv_iconst (v := (0 : Int32)) hx hb dX9_whole_2 (by decide) ?_
  refine lv_istore_n (lv' := [(2, .int (0 : Int32)), (1, .int (0 : Int32)), (0, .ref (ad 65))]) hx hb dX9_whole_3 rfl hl (by decide) rfl (fun ls hl => ?_)
  exact L4  _ _ _ _ _ _ _ hf B (lv_sub hl [2, 1, 0] rfl)
theorem dX9_count_0 : decode cX9_count 0 = .ok (.aload_n 0, 1) := by decide +kernel
theorem dX9_count_1 : decode cX9_count 1 = .ok (.iload_n 1, 1) := by decide +kernel
theorem dX9_count_2 : decode cX9_count 2 = .ok (.iconst 0, 1) := by decide +kernel
theorem dX9_count_3 : decode cX9_count 3 = .ok (.bipush 8, 2) := by decide +kernel
theorem dX9_count_5 : decode cX9_count 5 = .ok (.invokestatic 44, 3) := by decide +kernel
theorem dX9_count_8 : decode cX9_count 8 = .ok (.ifCond .eq 7, 3) := by decide +kernel
theorem dX9_count_11 : decode cX9_count 11 = .ok (.iconst 0, 1) := by decide +kernel
theorem dX9_count_12 : decode cX9_count 12 = .ok (.goto 4, 3) := by decide +kernel
theorem dX9_count_15 : decode cX9_count 15 = .ok (.iconst 1, 1) := by decide +kernel
theorem dX9_count_16 : decode cX9_count 16 = .ok (.putfield 41, 3) := by decide +kernel
theorem dX9_count_19 : decode cX9_count 19 = .ok (.aload_n 0, 1) := by decide +kernel
theorem dX9_count_20 : decode cX9_count 20 = .ok (.getfield 41, 3) := by decide +kernel
theorem dX9_count_23 : decode cX9_count 23 = .ok (.ifCond .eq 5, 3) := by decide +kernel
theorem dX9_count_26 : decode cX9_count 26 = .ok (.iconst 0, 1) := by decide +kernel
theorem dX9_count_27 : decode cX9_count 27 = .ok (.ireturn, 1) := by decide +kernel
theorem dX9_count_28 : decode cX9_count 28 = .ok (.iload_n 1, 1) := by decide +kernel
theorem dX9_count_29 : decode cX9_count 29 = .ok (.tableswitch 102 0 7 #[47, 54, 61, 68, 75, 82, 89, 97], 47) := by decide +kernel
theorem dX9_count_76 : decode cX9_count 76 = .ok (.aload_n 0, 1) := by decide +kernel
theorem dX9_count_77 : decode cX9_count 77 = .ok (.getfield 9, 3) := by decide +kernel
theorem dX9_count_80 : decode cX9_count 80 = .ok (.iconst 1, 1) := by decide +kernel
theorem dX9_count_81 : decode cX9_count 81 = .ok (.iaload, 1) := by decide +kernel
theorem dX9_count_82 : decode cX9_count 82 = .ok (.ireturn, 1) := by decide +kernel
theorem dX9_count_83 : decode cX9_count 83 = .ok (.aload_n 0, 1) := by decide +kernel
theorem dX9_count_84 : decode cX9_count 84 = .ok (.getfield 9, 3) := by decide +kernel
theorem dX9_count_87 : decode cX9_count 87 = .ok (.iconst 0, 1) := by decide +kernel
theorem dX9_count_88 : decode cX9_count 88 = .ok (.iaload, 1) := by decide +kernel
theorem dX9_count_89 : decode cX9_count 89 = .ok (.ireturn, 1) := by decide +kernel
theorem dX9_count_90 : decode cX9_count 90 = .ok (.aload_n 0, 1) := by decide +kernel
theorem dX9_count_91 : decode cX9_count 91 = .ok (.getfield 9, 3) := by decide +kernel
theorem dX9_count_94 : decode cX9_count 94 = .ok (.iconst 2, 1) := by decide +kernel
theorem dX9_count_95 : decode cX9_count 95 = .ok (.iaload, 1) := by decide +kernel
theorem dX9_count_96 : decode cX9_count 96 = .ok (.ireturn, 1) := by decide +kernel
theorem dX9_count_97 : decode cX9_count 97 = .ok (.aload_n 0, 1) := by decide +kernel
theorem dX9_count_98 : decode cX9_count 98 = .ok (.getfield 9, 3) := by decide +kernel
theorem dX9_count_101 : decode cX9_count 101 = .ok (.iconst 3, 1) := by decide +kernel
theorem dX9_count_102 : decode cX9_count 102 = .ok (.iaload, 1) := by decide +kernel
theorem dX9_count_103 : decode cX9_count 103 = .ok (.ireturn, 1) := by decide +kernel
theorem dX9_count_104 : decode cX9_count 104 = .ok (.aload_n 0, 1) := by decide +kernel
theorem dX9_count_105 : decode cX9_count 105 = .ok (.getfield 9, 3) := by decide +kernel
theorem dX9_count_108 : decode cX9_count 108 = .ok (.iconst 4, 1) := by decide +kernel
theorem dX9_count_109 : decode cX9_count 109 = .ok (.iaload, 1) := by decide +kernel
theorem dX9_count_110 : decode cX9_count 110 = .ok (.ireturn, 1) := by decide +kernel
theorem dX9_count_111 : decode cX9_count 111 = .ok (.aload_n 0, 1) := by decide +kernel
theorem dX9_count_112 : decode cX9_count 112 = .ok (.getfield 9, 3) := by decide +kernel
theorem dX9_count_115 : decode cX9_count 115 = .ok (.iconst 5, 1) := by decide +kernel
theorem dX9_count_116 : decode cX9_count 116 = .ok (.iaload, 1) := by decide +kernel
theorem dX9_count_117 : decode cX9_count 117 = .ok (.ireturn, 1) := by decide +kernel
theorem dX9_count_118 : decode cX9_count 118 = .ok (.aload_n 0, 1) := by decide +kernel
theorem dX9_count_119 : decode cX9_count 119 = .ok (.getfield 9, 3) := by decide +kernel
theorem dX9_count_122 : decode cX9_count 122 = .ok (.bipush 6, 2) := by decide +kernel
theorem dX9_count_124 : decode cX9_count 124 = .ok (.iaload, 1) := by decide +kernel
theorem dX9_count_125 : decode cX9_count 125 = .ok (.ireturn, 1) := by decide +kernel
theorem dX9_count_126 : decode cX9_count 126 = .ok (.aload_n 0, 1) := by decide +kernel
theorem dX9_count_127 : decode cX9_count 127 = .ok (.getfield 92, 3) := by decide +kernel
theorem dX9_count_130 : decode cX9_count 130 = .ok (.ireturn, 1) := by decide +kernel
theorem dX9_count_131 : decode cX9_count 131 = .ok (.aload_n 0, 1) := by decide +kernel
theorem dX9_count_132 : decode cX9_count 132 = .ok (.invokevirtual 217, 3) := by decide +kernel
theorem dX9_count_135 : decode cX9_count 135 = .ok (.ireturn, 1) := by decide +kernel
set_option maxRecDepth 20000 in
theorem ggX9_count_X9_isIn : GoodIn wsX9_count wsX9_isIn := goodIn_r _ [7] (by decide +kernel) (by decide +kernel)
set_option maxRecDepth 20000 in
theorem gX9_count_X9_isIn : GoodIn wsX9_count (va_wsS RX9 44 yX9_isIn wsX9_isIn) := goodIn_app (goodIn_of _ (by decide +kernel)) ggX9_count_X9_isIn
set_option maxRecDepth 20000 in
theorem ggX9_count_X9_whole : GoodIn wsX9_count wsX9_whole := goodIn_ca (goodIn_r _ [11, 2, 12, 13, 14, 6, 15, 16, 17, 18, 19, 20, 21, 22, 23, 24, 25, 26, 27, 28, 29, 30, 31, 32, 33, 34, 35] (by decide +kernel) (by decide +kernel)) (goodIn_sub (fun _ h => List.mem_cons_of_mem _ (List.mem_append_right _ h)) (by decide +kernel))
set_option maxRecDepth 20000 in
theorem gX9_count_X9_whole : GoodIn wsX9_count (wsV RX9 217 RX9 yX9_whole wsX9_whole) := goodIn_app (goodIn_of _ (by decide +kernel)) ggX9_count_X9_whole
def rm_X9_count : Room := { frames := 3, cells := 0, slots := 0, locals := 61 }
set_option maxHeartbeats 4000000 in
set_option maxRecDepth 100000 in
theorem c_X9_count (l : Launch) {G : zG} {ad : Nat → Nat} {σ σ' : zs} {a1 : Int32} {r : Int32} (hf : f_X9_count σ a1 = some (r, σ')) : xMi l yX9_count wsX9_count rm_X9_count G ad σ [.ref (ad 65), .int a1] r σ' := by
  intro sz nb a g hs
  refine Met.ofW (cc := cX9_count) (maxL := 2) (ret := (some .int)) (by decide) rfl ?_
  intro p e s m args below meth c s₁ B hml hv
  obtain ⟨rfl, hsz, hv⟩ := hv
  have hx := B.exec
  have hb := B.bytes
  have hr := B.returns
  have hts := atoms_spec (ws := wsX9_count) B.pre
  have hown : s.vm.findClass RX9 = some m.cls := findClass_of_methodNamed B.named
  have hlocks := B.notSynchronized
  subst hsz
  have B := xB_start hs hv
  have hinRX9 : ∀ w ∈ wsX90, w ∈ wsX9_count := by decide +kernel
  have hl := lv_entry ([.ref (ad 65), .int a1]) (n := 2) (Nat.le_of_ble_eq_true rfl)
  rw [lg_entry_eq]
  generalize (lg_sl ([.ref (ad 65), .int a1]) ++ List.replicate (2 - (lg_sl ([.ref (ad 65), .int a1])).length) Slot.unset).toArray = ls at hl ⊢
  have hl : lv_has ls 2 [(0, .ref (ad 65)), (1, .int a1)] := hl
  generalize hAe : xA ad a s.heap.size = A at B ⊢
  have L16 : ∀ (σ : zs) (v1 : Int32) (s0 : Int32) (H : Heap) (locs : List Loc) (ls : Array Slot), f_X9_count_16 σ v1 s0 = some (r, σ') → xB A s G ad σ H locs → lv_has ls 2 [(0, .ref (ad 65)), (1, .int v1)] → W p l e (headSpec wsX9_count rm_X9_count).room s m ([.ref (ad 65), .int a1] : List Value).toArray below meth c H locs 0 0 (MQ below (va_Qi (fun r' (u : xV) => r' = r ∧ xQ σ' u) (xPost G ad σ' A) A) ([.ref (ad 65), .int a1] : List Value).toArray s 0 0 A) (F0 m 16 ls [.int s0, .ref (ad 65)]) := by
    intro σ v1 s0 H locs ls hf B hl
    unfold f_X9_count_16 at hf
    refine x_puti hx hb hts hinRX9 hown tyX9 tyX9_ok nmX9 B 65 3 (by decide) (by decide) (fun _ => rfl) rfl rfl (by decide) (by decide +kernel) rfl rfl rfl rfl dX9_count_16 (fun H locs B => ?_)
    refine lv_aload_n hx hb dX9_count_19 rfl (lv_at hl 0 rfl) ?_
    refine x_geti hx hb hts hinRX9 hown B 65 3 (by decide) (fun _ => rfl) rfl rfl (by decide) (by decide +kernel) rfl dX9_count_20 ?_
    refine lv_if_eq (tgt := 28) hx hb dX9_count_23 (by decide) (fun hc => ?_) (fun hc => ?_)
    · have hf := zif_t hc hf
      refine lv_iload_n hx hb dX9_count_28 rfl (lv_at hl 1 rfl) ?_
      by_cases hc0 : v1 = (0 : Int32)
      · have hf := zif_t hc0 hf
        refine lv_tableIn (off := 47) (tgt := 76) hx hb dX9_count_29 (by rw [hc0]; decide) (by rw [hc0]; decide) (by rw [hc0]; rfl) (by decide) ?_
        refine lv_aload_n hx hb dX9_count_76 rfl (lv_at hl 0 rfl) ?_
        refine x_getr hx hb hts hinRX9 hown B 65 0 66 (by decide) (by decide) (fun _ => rfl) rfl rfl (by decide) (by decide +kernel) rfl dX9_count_77 ?_
        refine lv_iconst (v := (1 : Int32)) hx hb dX9_count_80 (by decide) ?_
        obtain ⟨hg, hf⟩ := zg_some hf
        refine x_iald hx hb B 66 (by decide) (fun _ => rfl) (zin_ok hg) dX9_count_81 ?_
        refine W.widen (k := 0) (n := 0) (Nat.le_of_ble_eq_true rfl) (Nat.le_of_ble_eq_true rfl) ?_
        exact x_iret hx hb hr rfl hlocks B hf dX9_count_82
      have hf := zif_f hc0 hf
      by_cases hc1 : v1 = (1 : Int32)
      · have hf := zif_t hc1 hf
        refine lv_tableIn (off := 54) (tgt := 83) hx hb dX9_count_29 (by rw [hc1]; decide) (by rw [hc1]; decide) (by rw [hc1]; rfl) (by decide) ?_
        refine lv_aload_n hx hb dX9_count_83 rfl (lv_at hl 0 rfl) ?_
        refine x_getr hx hb hts hinRX9 hown B 65 0 66 (by decide) (by decide) (fun _ => rfl) rfl rfl (by decide) (by decide +kernel) rfl dX9_count_84 ?_
        refine lv_iconst (v := (0 : Int32)) hx hb dX9_count_87 (by decide) ?_
        obtain ⟨hg, hf⟩ := zg_some hf
        refine x_iald hx hb B 66 (by decide) (fun _ => rfl) (zin_ok hg) dX9_count_88 ?_
        refine W.widen (k := 0) (n := 0) (Nat.le_of_ble_eq_true rfl) (Nat.le_of_ble_eq_true rfl) ?_
        exact x_iret hx hb hr rfl hlocks B hf dX9_count_89
      have hf := zif_f hc1 hf
      by_cases hc2 : v1 = (2 : Int32)
      · have hf := zif_t hc2 hf
        refine lv_tableIn (off := 61) (tgt := 90) hx hb dX9_count_29 (by rw [hc2]; decide) (by rw [hc2]; decide) (by rw [hc2]; rfl) (by decide) ?_
        refine lv_aload_n hx hb dX9_count_90 rfl (lv_at hl 0 rfl) ?_
        refine x_getr hx hb hts hinRX9 hown B 65 0 66 (by decide) (by decide) (fun _ => rfl) rfl rfl (by decide) (by decide +kernel) rfl dX9_count_91 ?_
        refine lv_iconst (v := (2 : Int32)) hx hb dX9_count_94 (by decide) ?_
        obtain ⟨hg, hf⟩ := zg_some hf
        refine x_iald hx hb B 66 (by decide) (fun _ => rfl) (zin_ok hg) dX9_count_95 ?_
        refine W.widen (k := 0) (n := 0) (Nat.le_of_ble_eq_true rfl) (Nat.le_of_ble_eq_true rfl) ?_
        exact x_iret hx hb hr rfl hlocks B hf dX9_count_96
      have hf := zif_f hc2 hf
      by_cases hc3 : v1 = (3 : Int32)
      · have hf := zif_t hc3 hf
        refine lv_tableIn (off := 68) (tgt := 97) hx hb dX9_count_29 (by rw [hc3]; decide) (by rw [hc3]; decide) (by rw [hc3]; rfl) (by decide) ?_
        refine lv_aload_n hx hb dX9_count_97 rfl (lv_at hl 0 rfl) ?_
        refine x_getr hx hb hts hinRX9 hown B 65 0 66 (by decide) (by decide) (fun _ => rfl) rfl rfl (by decide) (by decide +kernel) rfl dX9_count_98 ?_
        refine lv_iconst (v := (3 : Int32)) hx hb dX9_count_101 (by decide) ?_
        obtain ⟨hg, hf⟩ := zg_some hf
        refine x_iald hx hb B 66 (by decide) (fun _ => rfl) (zin_ok hg) dX9_count_102 ?_
        refine W.widen (k := 0) (n := 0) (Nat.le_of_ble_eq_true rfl) (Nat.le_of_ble_eq_true rfl) ?_
        exact x_iret hx hb hr rfl hlocks B hf dX9_count_103
      have hf := zif_f hc3 hf
      by_cases hc4 : v1 = (4 : Int32)
      · have hf := zif_t hc4 hf
        refine lv_tableIn (off := 75) (tgt := 104) hx hb dX9_count_29 (by rw [hc4]; decide) (by rw [hc4]; decide) (by rw [hc4]; rfl) (by decide) ?_
        refine lv_aload_n hx hb dX9_count_104 rfl (lv_at hl 0 rfl) ?_
        refine x_getr hx hb hts hinRX9 hown B 65 0 66 (by decide) (by decide) (fun _ => rfl) rfl rfl (by decide) (by decide +kernel) rfl dX9_count_105 ?_
        refine lv_iconst (v := (4 : Int32)) hx hb dX9_count_108 (by decide) ?_
        obtain ⟨hg, hf⟩ := zg_some hf
        refine x_iald hx hb B 66 (by decide) (fun _ => rfl) (zin_ok hg) dX9_count_109 ?_
        refine W.widen (k := 0) (n := 0) (Nat.le_of_ble_eq_true rfl) (Nat.le_of_ble_eq_true rfl) ?_
        exact x_iret hx hb hr rfl hlocks B hf dX9_count_110
      have hf := zif_f hc4 hf
      by_cases hc5 : v1 = (5 : Int32)
      · have hf := zif_t hc5 hf
        refine lv_tableIn (off := 82) (tgt := 111) hx hb dX9_count_29 (by rw [hc5]; decide) (by rw [hc5]; decide) (by rw [hc5]; rfl) (by decide) ?_
        refine lv_aload_n hx hb dX9_count_111 rfl (lv_at hl 0 rfl) ?_
        refine x_getr hx hb hts hinRX9 hown B 65 0 66 (by decide) (by decide) (fun _ => rfl) rfl rfl (by decide) (by decide +kernel) rfl dX9_count_112 ?_
        refine lv_iconst (v := (5 : Int32)) hx hb dX9_count_115 (by decide) ?_
        obtain ⟨hg, hf⟩ := zg_some hf
        refine x_iald hx hb B 66 (by decide) (fun _ => rfl) (zin_ok hg) dX9_count_116 ?_
        refine W.widen (k := 0) (n := 0) (Nat.le_of_ble_eq_true rfl) (Nat.le_of_ble_eq_true rfl) ?_
        exact x_iret hx hb hr rfl hlocks B hf dX9_count_117
      have hf := zif_f hc5 hf
      by_cases hc6 : v1 = (6 : Int32)
      · have hf := zif_t hc6 hf
        refine lv_tableIn (off := 89) (tgt := 118) hx hb dX9_count_29 (by rw [hc6]; decide) (by rw [hc6]; decide) (by rw [hc6]; rfl) (by decide) ?_
        refine lv_aload_n hx hb dX9_count_118 rfl (lv_at hl 0 rfl) ?_
        refine x_getr hx hb hts hinRX9 hown B 65 0 66 (by decide) (by decide) (fun _ => rfl) rfl rfl (by decide) (by decide +kernel) rfl dX9_count_119 ?_
        refine lv_bipush (v := (6 : Int32)) hx hb dX9_count_122 (by decide) ?_
        obtain ⟨hg, hf⟩ := zg_some hf
        refine x_iald hx hb B 66 (by decide) (fun _ => rfl) (zin_ok hg) dX9_count_124 ?_
        refine W.widen (k := 0) (n := 0) (Nat.le_of_ble_eq_true rfl) (Nat.le_of_ble_eq_true rfl) ?_
        exact x_iret hx hb hr rfl hlocks B hf dX9_count_125
      have hf := zif_f hc6 hf
      by_cases hc7 : v1 = (7 : Int32)
      · have hf := zif_t hc7 hf
        refine lv_tableIn (off := 97) (tgt := 126) hx hb dX9_count_29 (by rw [hc7]; decide) (by rw [hc7]; decide) (by rw [hc7]; rfl) (by decide) ?_
        refine lv_aload_n hx hb dX9_count_126 rfl (lv_at hl 0 rfl) ?_
        refine x_geti hx hb hts hinRX9 hown B 65 5 (by decide) (fun _ => rfl) rfl rfl (by decide) (by decide +kernel) rfl dX9_count_127 ?_
        refine W.widen (k := 0) (n := 0) (Nat.le_of_ble_eq_true rfl) (Nat.le_of_ble_eq_true rfl) ?_
        exact x_iret hx hb hr rfl hlocks B hf dX9_count_130
      have hf := zif_f hc7 hf
      refine lv_tableOut (tgt := 131) hx hb dX9_count_29 (zsw_out (fun j h1 h2 hj => ?_)) (by decide) ?_
      · have hd : j = 0 ∨ j = 1 ∨ j = 2 ∨ j = 3 ∨ j = 4 ∨ j = 5 ∨ j = 6 ∨ j = 7 := by omega
        rcases hd with rfl | rfl | rfl | rfl | rfl | rfl | rfl | rfl
        · exact hc0 (Int32.toInt_inj.mp (hj.trans (by decide)))
        · exact hc1 (Int32.toInt_inj.mp (hj.trans (by decide)))
        · exact hc2 (Int32.toInt_inj.mp (hj.trans (by decide)))
        · exact hc3 (Int32.toInt_inj.mp (hj.trans (by decide)))
        · exact hc4 (Int32.toInt_inj.mp (hj.trans (by decide)))
        · exact hc5 (Int32.toInt_inj.mp (hj.trans (by decide)))
        · exact hc6 (Int32.toInt_inj.mp (hj.trans (by decide)))
        · exact hc7 (Int32.toInt_inj.mp (hj.trans (by decide)))
      refine lv_aload_n hx hb dX9_count_131 rfl (lv_at hl 0 rfl) ?_
      obtain ⟨r5, σ6, hu4, hf⟩ := zb_some hf
      refine x_i B (fun nb a g hs Bz => va_runV (As := []) (rest := []) ⟨hx, hb, hml, hown, hts⟩ (c_X9_whole l hu4 _ nb a g hs) (cwV 0 hts gX9_count_X9_whole rfl rfl rfl (by decide +kernel) ⟨Nat.le_of_ble_eq_true rfl, Nat.le_of_ble_eq_true rfl⟩) (x_preV Bz (by decide) (fun _ => rfl) rfl) rfl rfl hl.1 rfl (lv_room (Nat.le_of_ble_eq_true rfl)) dX9_count_132 ⟨Nat.le_of_ble_eq_true rfl, Nat.le_of_ble_eq_true rfl⟩) (fun H locs B => ?_)
      refine W.widen (k := 0) (n := 0) (Nat.le_of_ble_eq_true rfl) (Nat.le_of_ble_eq_true rfl) ?_
      exact x_iret hx hb hr rfl hlocks B hf dX9_count_135
    · have hf := zif_f hc hf
      refine lv_iconst (v := (0 : Int32)) hx hb dX9_count_26 (by decide) ?_
      refine W.widen (k := 0) (n := 0) (Nat.le_of_ble_eq_true rfl) (Nat.le_of_ble_eq_true rfl) ?_
      exact x_iret hx hb hr rfl hlocks B hf dX9_count_27
  unfold f_X9_count at hf
  refine lv_aload_n hx hb dX9_count_0 rfl (lv_at hl 0 rfl) ?_
  refine lv_iload_n hx hb dX9_count_1 rfl (lv_at hl 1 rfl) ?_
  refine lv_iconst (v := (0 : Int32)) hx hb dX9_count_2 (by decide) ?_
  refine lv_bipush (v := (8 : Int32)) hx hb dX9_count_3 (by decide) ?_
  obtain ⟨r2, σ3, hu1, hf⟩ := zb_some hf
  refine x_i B (fun nb a g hs Bz => va_runS (As := [.int a1, .int (0 : Int32), .int (8 : Int32)]) (rest := [.ref (ad 65)]) ⟨hx, hb, hml, hown, hts⟩ (c_X9_isIn l hu1 _ nb a g hs) (va_cwS 3 hts gX9_count_X9_isIn rfl rfl rfl (by decide +kernel) ⟨Nat.le_of_ble_eq_true rfl, Nat.le_of_ble_eq_true rfl⟩) (z_preS Bz) rfl rfl hl.1 rfl (lv_room (Nat.le_of_ble_eq_true rfl)) dX9_count_5 ⟨Nat.le_of_ble_eq_true rfl, Nat.le_of_ble_eq_true rfl⟩) (fun H locs B => ?_)
  refine lv_if_eq (tgt := 15) hx hb dX9_count_8 (by decide) (fun hc => ?_) (fun hc => ?_)
  · have hf := zif_t hc hf
    refine lv_iconst (v := (1 : Int32)) hx hb dX9_count_15 (by decide) ?_
    exact L16  _ _ _ _ _ _ hf B (lv_sub hl [0, 1] rfl)
  · have hf := zif_f hc hf
    refine lv_iconst (v := (0 : Int32)) hx hb dX9_count_11 (by decide) ?_
    refine lv_goto (tgt := 16) hx hb dX9_count_12 (by decide) ?_
    exact L16  _ _ _ _ _ _ hf B (lv_sub hl [0, 1] rfl)
theorem dX9_save_0 : decode cX9_save 0 = .ok (.aload_n 0, 1) := by decide +kernel
theorem dX9_save_1 : decode cX9_save 1 = .ok (.iconst 0, 1) := by decide +kernel
theorem dX9_save_2 : decode cX9_save 2 = .ok (.putfield 41, 3) := by decide +kernel
theorem dX9_save_5 : decode cX9_save 5 = .ok (.iconst 0, 1) := by decide +kernel
theorem dX9_save_6 : decode cX9_save 6 = .ok (.istore_n 1, 1) := by decide +kernel
theorem dX9_save_7 : decode cX9_save 7 = .ok (.iload_n 1, 1) := by decide +kernel
theorem dX9_save_8 : decode cX9_save 8 = .ok (.sipush 628, 3) := by decide +kernel
theorem dX9_save_11 : decode cX9_save 11 = .ok (.if_icmp .ge 21, 3) := by decide +kernel
theorem dX9_save_14 : decode cX9_save 14 = .ok (.aload_n 0, 1) := by decide +kernel
theorem dX9_save_15 : decode cX9_save 15 = .ok (.getfield 13, 3) := by decide +kernel
theorem dX9_save_18 : decode cX9_save 18 = .ok (.iload_n 1, 1) := by decide +kernel
theorem dX9_save_19 : decode cX9_save 19 = .ok (.aload_n 0, 1) := by decide +kernel
theorem dX9_save_20 : decode cX9_save 20 = .ok (.getfield 9, 3) := by decide +kernel
theorem dX9_save_23 : decode cX9_save 23 = .ok (.iload_n 1, 1) := by decide +kernel
theorem dX9_save_24 : decode cX9_save 24 = .ok (.iaload, 1) := by decide +kernel
theorem dX9_save_25 : decode cX9_save 25 = .ok (.iastore, 1) := by decide +kernel
theorem dX9_save_26 : decode cX9_save 26 = .ok (.iinc 1 1, 3) := by decide +kernel
theorem dX9_save_29 : decode cX9_save 29 = .ok (.goto (-22), 3) := by decide +kernel
theorem dX9_save_32 : decode cX9_save 32 = .ok (.aload_n 0, 1) := by decide +kernel
theorem dX9_save_33 : decode cX9_save 33 = .ok (.iconst 1, 1) := by decide +kernel
theorem dX9_save_34 : decode cX9_save 34 = .ok (.putfield 220, 3) := by decide +kernel
theorem dX9_save_37 : decode cX9_save 37 = .ok (.aload_n 0, 1) := by decide +kernel
theorem dX9_save_38 : decode cX9_save 38 = .ok (.getfield 9, 3) := by decide +kernel
theorem dX9_save_41 : decode cX9_save 41 = .ok (.iconst 1, 1) := by decide +kernel
theorem dX9_save_42 : decode cX9_save 42 = .ok (.iaload, 1) := by decide +kernel
theorem dX9_save_43 : decode cX9_save 43 = .ok (.ireturn, 1) := by decide +kernel
def rm_X9_save : Room := { frames := 1, cells := 0, slots := 0, locals := 16 }
set_option maxHeartbeats 4000000 in
set_option maxRecDepth 100000 in
theorem c_X9_save (l : Launch) {G : zG} {ad : Nat → Nat} {σ σ' : zs} {r : Int32} (hf : f_X9_save σ  = some (r, σ')) : xMi l yX9_save wsX9_save rm_X9_save G ad σ [.ref (ad 65)] r σ' := by
  intro sz nb a g hs
  refine Met.ofW (cc := cX9_save) (maxL := 2) (ret := (some .int)) (by decide) rfl ?_
  intro p e s m args below meth c s₁ B hml hv
  obtain ⟨rfl, hsz, hv⟩ := hv
  have hx := B.exec
  have hb := B.bytes
  have hr := B.returns
  have hts := atoms_spec (ws := wsX9_save) B.pre
  have hown : s.vm.findClass RX9 = some m.cls := findClass_of_methodNamed B.named
  have hlocks := B.notSynchronized
  subst hsz
  have B := xB_start hs hv
  have hinRX9 : ∀ w ∈ wsX90, w ∈ wsX9_save := by decide +kernel
  have hl := lv_entry ([.ref (ad 65)]) (n := 2) (Nat.le_of_ble_eq_true rfl)
  rw [lg_entry_eq]
  generalize (lg_sl ([.ref (ad 65)]) ++ List.replicate (2 - (lg_sl ([.ref (ad 65)])).length) Slot.unset).toArray = ls at hl ⊢
  have hl : lv_has ls 2 [(0, .ref (ad 65))] := hl
  generalize hAe : xA ad a s.heap.size = A at B ⊢
  have L7 : ∀ (n : Nat) (σ : zs) (v1 : Int32) (H : Heap) (locs : List Loc) (ls : Array Slot), zlp1 (f_X9_save_7) n σ v1 = some (r, σ') → xB A s G ad σ H locs → lv_has ls 2 [(0, .ref (ad 65)), (1, .int v1)] → W p l e (headSpec wsX9_save rm_X9_save).room s m ([.ref (ad 65)] : List Value).toArray below meth c H locs 0 0 (MQ below (va_Qi (fun r' (u : xV) => r' = r ∧ xQ σ' u) (xPost G ad σ' A) A) ([.ref (ad 65)] : List Value).toArray s 0 0 A) (F0 m 7 ls []) := by
    intro n
    induction n with
    | zero =>
      intro σ v1 H locs ls hf
      cases hf
    | succ n ih =>
      intro σ v1 H locs ls hf B hl
      have hf : f_X9_save_7 (zlp1 (f_X9_save_7) n) σ v1 = some (r, σ') := hf
      unfold f_X9_save_7 at hf
      refine lv_iload_n hx hb dX9_save_7 rfl (lv_at hl 1 rfl) ?_
      refine lv_sipush (v := (628 : Int32)) hx hb dX9_save_8 (by decide) ?_
      refine lv_icmp_ge (tgt := 32) hx hb dX9_save_11 (by decide) (fun hc => ?_) (fun hc => ?_)
      · have hf := zif_t hc hf
        refine lv_aload_n hx hb dX9_save_32 rfl (lv_at hl 0 rfl) ?_
        refine lv_iconst (v := (1 : Int32)) hx hb dX9_save_33 (by decide) ?_
        refine x_puti hx hb hts hinRX9 hown tyX9 tyX9_ok nmX9 B 65 2 (by decide) (by decide) (fun _ => rfl) rfl rfl (by decide) (by decide +kernel) rfl rfl (by decide) (by decide) dX9_save_34 (fun H locs B => ?_)
        refine lv_aload_n hx hb dX9_save_37 rfl (lv_at hl 0 rfl) ?_
        refine x_getr hx hb hts hinRX9 hown B 65 0 66 (by decide) (by decide) (fun _ => rfl) rfl rfl (by decide) (by decide +kernel) rfl dX9_save_38 ?_
        refine lv_iconst (v := (1 : Int32)) hx hb dX9_save_41 (by decide) ?_
        obtain ⟨hg, hf⟩ := zg_some hf
        refine x_iald hx hb B 66 (by decide) (fun _ => rfl) (zin_ok hg) dX9_save_42 ?_
        refine W.widen (k := 0) (n := 0) (Nat.le_of_ble_eq_true rfl) (Nat.le_of_ble_eq_true rfl) ?_
        exact x_iret hx hb hr rfl hlocks B hf dX9_save_43
      · have hf := zif_f hc hf
        refine lv_aload_n hx hb dX9_save_14 rfl (lv_at hl 0 rfl) ?_
        refine x_getr hx hb hts hinRX9 hown B 65 1 67 (by decide) (by decide) (fun _ => rfl) rfl rfl (by decide) (by decide +kernel) rfl dX9_save_15 ?_
        refine lv_iload_n hx hb dX9_save_18 rfl (lv_at hl 1 rfl) ?_
        refine lv_aload_n hx hb dX9_save_19 rfl (lv_at hl 0 rfl) ?_
        refine x_getr hx hb hts hinRX9 hown B 65 0 66 (by decide) (by decide) (fun _ => rfl) rfl rfl (by decide) (by decide +kernel) rfl dX9_save_20 ?_
        refine lv_iload_n hx hb dX9_save_23 rfl (lv_at hl 1 rfl) ?_
        obtain ⟨hg, hf⟩ := zg_some hf
        refine x_iald hx hb B 66 (by decide) (fun _ => rfl) (zin_ok hg) dX9_save_24 ?_
        obtain ⟨hg, hf⟩ := zg_some hf
        refine x_iast hx hb B 67 (by decide) (by decide) (fun _ => rfl) (zin_ok hg) dX9_save_25 (fun H locs B => ?_)
        refine lv_iinc (v := (v1 + (1 : Int32))) (lv' := [(1, .int (v1 + (1 : Int32))), (0, .ref (ad 65))]) hx hb dX9_save_26 hl (k := 1) rfl (zc1 (by decide)) (by decide) rfl (fun ls hl => ?_)
        refine lv_goto (tgt := 7) hx hb dX9_save_29 (by decide) ?_
        exact ih _ _ _ _ _ hf B (lv_sub hl [1, 0] rfl)
  unfold f_X9_save at hf
  refine lv_aload_n hx hb dX9_save_0 rfl (lv_at hl 0 rfl) ?_
  refine lv_iconst (v := (0 : Int32)) hx hb dX9_save_1 (by decide) ?_
  refine x_puti hx hb hts hinRX9 hown tyX9 tyX9_ok nmX9 B 65 3 (by decide) (by decide) (fun _ => rfl) rfl rfl (by decide) (by decide +kernel) rfl rfl rfl rfl dX9_save_2 (fun H locs B => ?_)
  refine lv_iconst (v := (0 : Int32)) hx hb dX9_save_5 (by decide) ?_
  refine lv_istore_n (lv' := [(1, .int (0 : Int32)), (0, .ref (ad 65))]) hx hb dX9_save_6 rfl hl (by decide) rfl (fun ls hl => ?_)
  exact L7  _ _ _ _ _ _ hf B (lv_sub hl [1, 0] rfl)
theorem dX9_restore_0 : decode cX9_restore 0 = .ok (.aload_n 0, 1) := by decide +kernel
theorem dX9_restore_1 : decode cX9_restore 1 = .ok (.aload_n 0, 1) := by decide +kernel
theorem dX9_restore_2 : decode cX9_restore 2 = .ok (.getfield 220, 3) := by decide +kernel
theorem dX9_restore_5 : decode cX9_restore 5 = .ok (.ifCond .eq 7, 3) := by decide +kernel
theorem dX9_restore_8 : decode cX9_restore 8 = .ok (.iconst 0, 1) := by decide +kernel
theorem dX9_restore_9 : decode cX9_restore 9 = .ok (.goto 4, 3) := by decide +kernel
theorem dX9_restore_12 : decode cX9_restore 12 = .ok (.iconst 1, 1) := by decide +kernel
theorem dX9_restore_13 : decode cX9_restore 13 = .ok (.putfield 41, 3) := by decide +kernel
theorem dX9_restore_16 : decode cX9_restore 16 = .ok (.aload_n 0, 1) := by decide +kernel
theorem dX9_restore_17 : decode cX9_restore 17 = .ok (.getfield 41, 3) := by decide +kernel
theorem dX9_restore_20 : decode cX9_restore 20 = .ok (.ifCond .eq 5, 3) := by decide +kernel
theorem dX9_restore_23 : decode cX9_restore 23 = .ok (.iconst 0, 1) := by decide +kernel
theorem dX9_restore_24 : decode cX9_restore 24 = .ok (.ireturn, 1) := by decide +kernel
theorem dX9_restore_25 : decode cX9_restore 25 = .ok (.iconst 0, 1) := by decide +kernel
theorem dX9_restore_26 : decode cX9_restore 26 = .ok (.istore_n 1, 1) := by decide +kernel
theorem dX9_restore_27 : decode cX9_restore 27 = .ok (.iload_n 1, 1) := by decide +kernel
theorem dX9_restore_28 : decode cX9_restore 28 = .ok (.sipush 628, 3) := by decide +kernel
theorem dX9_restore_31 : decode cX9_restore 31 = .ok (.if_icmp .ge 21, 3) := by decide +kernel
theorem dX9_restore_34 : decode cX9_restore 34 = .ok (.aload_n 0, 1) := by decide +kernel
theorem dX9_restore_35 : decode cX9_restore 35 = .ok (.getfield 9, 3) := by decide +kernel
theorem dX9_restore_38 : decode cX9_restore 38 = .ok (.iload_n 1, 1) := by decide +kernel
theorem dX9_restore_39 : decode cX9_restore 39 = .ok (.aload_n 0, 1) := by decide +kernel
theorem dX9_restore_40 : decode cX9_restore 40 = .ok (.getfield 13, 3) := by decide +kernel
theorem dX9_restore_43 : decode cX9_restore 43 = .ok (.iload_n 1, 1) := by decide +kernel
theorem dX9_restore_44 : decode cX9_restore 44 = .ok (.iaload, 1) := by decide +kernel
theorem dX9_restore_45 : decode cX9_restore 45 = .ok (.iastore, 1) := by decide +kernel
theorem dX9_restore_46 : decode cX9_restore 46 = .ok (.iinc 1 1, 3) := by decide +kernel
theorem dX9_restore_49 : decode cX9_restore 49 = .ok (.goto (-22), 3) := by decide +kernel
theorem dX9_restore_52 : decode cX9_restore 52 = .ok (.aload_n 0, 1) := by decide +kernel
theorem dX9_restore_53 : decode cX9_restore 53 = .ok (.getfield 9, 3) := by decide +kernel
theorem dX9_restore_56 : decode cX9_restore 56 = .ok (.iconst 1, 1) := by decide +kernel
theorem dX9_restore_57 : decode cX9_restore 57 = .ok (.iaload, 1) := by decide +kernel
theorem dX9_restore_58 : decode cX9_restore 58 = .ok (.ireturn, 1) := by decide +kernel
def rm_X9_restore : Room := { frames := 1, cells := 0, slots := 0, locals := 16 }
set_option maxHeartbeats 4000000 in
set_option maxRecDepth 100000 in
theorem c_X9_restore (l : Launch) {G : zG} {ad : Nat → Nat} {σ σ' : zs} {r : Int32} (hf : f_X9_restore σ  = some (r, σ')) : xMi l yX9_restore wsX9_restore rm_X9_restore G ad σ [.ref (ad 65)] r σ' := by
  intro sz nb a g hs
  refine Met.ofW (cc := cX9_restore) (maxL := 2) (ret := (some .int)) (by decide) rfl ?_
  intro p e s m args below meth c s₁ B hml hv
  obtain ⟨rfl, hsz, hv⟩ := hv
  have hx := B.exec
  have hb := B.bytes
  have hr := B.returns
  have hts := atoms_spec (ws := wsX9_restore) B.pre
  have hown : s.vm.findClass RX9 = some m.cls := findClass_of_methodNamed B.named
  have hlocks := B.notSynchronized
  subst hsz
  have B := xB_start hs hv
  have hinRX9 : ∀ w ∈ wsX90, w ∈ wsX9_restore := by decide +kernel
  have hl := lv_entry ([.ref (ad 65)]) (n := 2) (Nat.le_of_ble_eq_true rfl)
  rw [lg_entry_eq]
  generalize (lg_sl ([.ref (ad 65)]) ++ List.replicate (2 - (lg_sl ([.ref (ad 65)])).length) Slot.unset).toArray = ls at hl ⊢
  have hl : lv_has ls 2 [(0, .ref (ad 65))] := hl
  generalize hAe : xA ad a s.heap.size = A at B ⊢
  have L27 : ∀ (n : Nat) (σ : zs) (v1 : Int32) (H : Heap) (locs : List Loc) (ls : Array Slot), zlp1 (f_X9_restore_27) n σ v1 = some (r, σ') → xB A s G ad σ H locs → lv_has ls 2 [(0, .ref (ad 65)), (1, .int v1)] → W p l e (headSpec wsX9_restore rm_X9_restore).room s m ([.ref (ad 65)] : List Value).toArray below meth c H locs 0 0 (MQ below (va_Qi (fun r' (u : xV) => r' = r ∧ xQ σ' u) (xPost G ad σ' A) A) ([.ref (ad 65)] : List Value).toArray s 0 0 A) (F0 m 27 ls []) := by
    intro n
    induction n with
    | zero =>
      intro σ v1 H locs ls hf
      cases hf
    | succ n ih =>
      intro σ v1 H locs ls hf B hl
      have hf : f_X9_restore_27 (zlp1 (f_X9_restore_27) n) σ v1 = some (r, σ') := hf
      unfold f_X9_restore_27 at hf
      refine lv_iload_n hx hb dX9_restore_27 rfl (lv_at hl 1 rfl) ?_
      refine lv_sipush (v := (628 : Int32)) hx hb dX9_restore_28 (by decide) ?_
      refine lv_icmp_ge (tgt := 52) hx hb dX9_restore_31 (by decide) (fun hc => ?_) (fun hc => ?_)
      · have hf := zif_t hc hf
        refine lv_aload_n hx hb dX9_restore_52 rfl (lv_at hl 0 rfl) ?_
        refine x_getr hx hb hts hinRX9 hown B 65 0 66 (by decide) (by decide) (fun _ => rfl) rfl rfl (by decide) (by decide +kernel) rfl dX9_restore_53 ?_
        refine lv_iconst (v := (1 : Int32)) hx hb dX9_restore_56 (by decide) ?_
        obtain ⟨hg, hf⟩ := zg_some hf
        refine x_iald hx hb B 66 (by decide) (fun _ => rfl) (zin_ok hg) dX9_restore_57 ?_
        refine W.widen (k := 0) (n := 0) (Nat.le_of_ble_eq_true rfl) (Nat.le_of_ble_eq_true rfl) ?_
        exact x_iret hx hb hr rfl hlocks B hf dX9_restore_58
      · have hf := zif_f hc hf
        refine lv_aload_n hx hb dX9_restore_34 rfl (lv_at hl 0 rfl) ?_
        refine x_getr hx hb hts hinRX9 hown B 65 0 66 (by decide) (by decide) (fun _ => rfl) rfl rfl (by decide) (by decide +kernel) rfl dX9_restore_35 ?_
        refine lv_iload_n hx hb dX9_restore_38 rfl (lv_at hl 1 rfl) ?_
        refine lv_aload_n hx hb dX9_restore_39 rfl (lv_at hl 0 rfl) ?_
        refine x_getr hx hb hts hinRX9 hown B 65 1 67 (by decide) (by decide) (fun _ => rfl) rfl rfl (by decide) (by decide +kernel) rfl dX9_restore_40 ?_
        refine lv_iload_n hx hb dX9_restore_43 rfl (lv_at hl 1 rfl) ?_
        obtain ⟨hg, hf⟩ := zg_some hf
        refine x_iald hx hb B 67 (by decide) (fun _ => rfl) (zin_ok hg) dX9_restore_44 ?_
        obtain ⟨hg, hf⟩ := zg_some hf
        refine x_iast hx hb B 66 (by decide) (by decide) (fun _ => rfl) (zin_ok hg) dX9_restore_45 (fun H locs B => ?_)
        refine lv_iinc (v := (v1 + (1 : Int32))) (lv' := [(1, .int (v1 + (1 : Int32))), (0, .ref (ad 65))]) hx hb dX9_restore_46 hl (k := 1) rfl (zc1 (by decide)) (by decide) rfl (fun ls hl => ?_)
        refine lv_goto (tgt := 27) hx hb dX9_restore_49 (by decide) ?_
        exact ih _ _ _ _ _ hf B (lv_sub hl [1, 0] rfl)
  have L13 : ∀ (σ : zs) (s0 : Int32) (H : Heap) (locs : List Loc) (ls : Array Slot), f_X9_restore_13 σ s0 = some (r, σ') → xB A s G ad σ H locs → lv_has ls 2 [(0, .ref (ad 65))] → W p l e (headSpec wsX9_restore rm_X9_restore).room s m ([.ref (ad 65)] : List Value).toArray below meth c H locs 0 0 (MQ below (va_Qi (fun r' (u : xV) => r' = r ∧ xQ σ' u) (xPost G ad σ' A) A) ([.ref (ad 65)] : List Value).toArray s 0 0 A) (F0 m 13 ls [.int s0, .ref (ad 65)]) := by
    intro σ s0 H locs ls hf B hl
    unfold f_X9_restore_13 at hf
    refine x_puti hx hb hts hinRX9 hown tyX9 tyX9_ok nmX9 B 65 3 (by decide) (by decide) (fun _ => rfl) rfl rfl (by decide) (by decide +kernel) rfl rfl rfl rfl dX9_restore_13 (fun H locs B => ?_)
    refine lv_aload_n hx hb dX9_restore_16 rfl (lv_at hl 0 rfl) ?_
    refine x_geti hx hb hts hinRX9 hown B 65 3 (by decide) (fun _ => rfl) rfl rfl (by decide) (by decide +kernel) rfl dX9_restore_17 ?_
    refine lv_if_eq (tgt := 25) hx hb dX9_restore_20 (by decide) (fun hc => ?_) (fun hc => ?_)
    · have hf := zif_t hc hf
      refine lv_iconst (v := (0 : Int32)) hx hb dX9_restore_25 (by decide) ?_
      refine lv_istore_n (lv' := [(1, .int (0 : Int32)), (0, .ref (ad 65))]) hx hb dX9_restore_26 rfl hl (by decide) rfl (fun ls hl => ?_)
      exact L27  _ _ _ _ _ _ hf B (lv_sub hl [1, 0] rfl)
    · have hf := zif_f hc hf
      refine lv_iconst (v := (0 : Int32)) hx hb dX9_restore_23 (by decide) ?_
      refine W.widen (k := 0) (n := 0) (Nat.le_of_ble_eq_true rfl) (Nat.le_of_ble_eq_true rfl) ?_
      exact x_iret hx hb hr rfl hlocks B hf dX9_restore_24
  unfold f_X9_restore at hf
  refine lv_aload_n hx hb dX9_restore_0 rfl (lv_at hl 0 rfl) ?_
  refine lv_aload_n hx hb dX9_restore_1 rfl (lv_at hl 0 rfl) ?_
  refine x_geti hx hb hts hinRX9 hown B 65 2 (by decide) (fun _ => rfl) rfl rfl (by decide) (by decide +kernel) rfl dX9_restore_2 ?_
  refine lv_if_eq (tgt := 12) hx hb dX9_restore_5 (by decide) (fun hc => ?_) (fun hc => ?_)
  · have hf := zif_t hc hf
    refine lv_iconst (v := (1 : Int32)) hx hb dX9_restore_12 (by decide) ?_
    exact L13  _ _ _ _ _ hf B (lv_sub hl [0] rfl)
  · have hf := zif_f hc hf
    refine lv_iconst (v := (0 : Int32)) hx hb dX9_restore_8 (by decide) ?_
    refine lv_goto (tgt := 13) hx hb dX9_restore_9 (by decide) ?_
    exact L13  _ _ _ _ _ hf B (lv_sub hl [0] rfl)
theorem dL_mint_0 : decode cL_mint 0 = .ok (.aload 4, 2) := by decide +kernel
theorem dL_mint_2 : decode cL_mint 2 = .ok (.iconst 0, 1) := by decide +kernel
theorem dL_mint_3 : decode cL_mint 3 = .ok (.aload_n 0, 1) := by decide +kernel
theorem dL_mint_4 : decode cL_mint 4 = .ok (.iload_n 1, 1) := by decide +kernel
theorem dL_mint_5 : decode cL_mint 5 = .ok (.iload_n 2, 1) := by decide +kernel
theorem dL_mint_6 : decode cL_mint 6 = .ok (.iload_n 3, 1) := by decide +kernel
theorem dL_mint_7 : decode cL_mint 7 = .ok (.invokevirtual 7, 3) := by decide +kernel
theorem dL_mint_10 : decode cL_mint 10 = .ok (.i2l, 1) := by decide +kernel
theorem dL_mint_11 : decode cL_mint 11 = .ok (.lastore, 1) := by decide +kernel
theorem dL_mint_12 : decode cL_mint 12 = .ok (.goto 15, 3) := by decide +kernel
theorem dL_mint_15 : decode cL_mint 15 = .ok (.astore 5, 2) := by decide +kernel
theorem dL_mint_17 : decode cL_mint 17 = .ok (.iconst 1, 1) := by decide +kernel
theorem dL_mint_18 : decode cL_mint 18 = .ok (.ireturn, 1) := by decide +kernel
theorem dL_mint_19 : decode cL_mint 19 = .ok (.astore 5, 2) := by decide +kernel
theorem dL_mint_21 : decode cL_mint 21 = .ok (.iconst 2, 1) := by decide +kernel
theorem dL_mint_22 : decode cL_mint 22 = .ok (.ireturn, 1) := by decide +kernel
theorem dL_mint_23 : decode cL_mint 23 = .ok (.astore 5, 2) := by decide +kernel
theorem dL_mint_25 : decode cL_mint 25 = .ok (.iconst 3, 1) := by decide +kernel
theorem dL_mint_26 : decode cL_mint 26 = .ok (.ireturn, 1) := by decide +kernel
theorem dL_mint_27 : decode cL_mint 27 = .ok (.iconst 0, 1) := by decide +kernel
theorem dL_mint_28 : decode cL_mint 28 = .ok (.ireturn, 1) := by decide +kernel
set_option maxRecDepth 20000 in
theorem ggL_mint_X8_mint : GoodIn wsL_mint wsX8_mint := goodIn_ca (goodIn_ca (goodIn_ca (goodIn_ca (goodIn_r _ [8, 9, 10, 11, 12, 13, 7, 14, 15, 16, 17, 18, 19, 20, 21, 22, 23, 24, 25, 26, 27, 28, 29, 30, 31, 32, 33, 34, 35, 36, 37, 38, 39, 40, 41, 42, 43, 44, 45, 46, 47, 48, 49, 50, 51, 52, 53, 54, 55, 56, 57, 58, 59, 60, 61, 62, 63, 64, 65, 66, 67, 68, 69, 70, 71, 72, 73, 74, 75, 76, 77, 78, 79, 80, 81, 82, 83, 84] (by decide +kernel) (by decide +kernel)) (goodIn_sub (fun _ h => List.mem_cons_of_mem _ (List.mem_append_left _ (List.mem_append_left _ (List.mem_append_right _ h)))) (by decide +kernel))) (goodIn_sub (fun _ h => List.mem_cons_of_mem _ (List.mem_append_left _ (List.mem_append_right _ h))) (by decide +kernel))) (goodIn_sub (fun _ h => List.mem_cons_of_mem _ (List.mem_append_right _ h)) (by decide +kernel))) (goodIn_sub (fun _ h => List.mem_cons_of_mem _ (List.mem_append_left _ (List.mem_append_left _ (List.mem_append_left _ (List.mem_append_right _ h))))) (by decide +kernel))
set_option maxRecDepth 20000 in
theorem gL_mint_X8_mint : GoodIn wsL_mint (wsV RL 7 RX8 yX8_mint wsX8_mint) := goodIn_app (goodIn_of _ (by decide +kernel)) ggL_mint_X8_mint
def rm_L_mint_0_75 : Room := { frames := 11, cells := 4, slots := 24, locals := 264 }
set_option maxHeartbeats 4000000 in
set_option maxRecDepth 100000 in
theorem c_L_mint_0_75 (l : Launch) (hfl : l.stackTraces = false) {G : zG} {ad : Nat → Nat} {σ σ' : zs} {a1 a2 a3 : Int32} {r : Int32} (hf : f_L_mint_0_75 σ a1 a2 a3 = some (r, σ')) : xMi l yL_mint wsL_mint rm_L_mint_0_75 G ad σ [.ref (ad 0), .int a1, .int a2, .int a3, .ref (ad 75)] r σ' := by
  intro sz nb a g hs
  refine z_ofWH (cc := cL_mint) (maxL := 6) (ret := (some .int)) (by decide) rfl ?_
  intro p e s m args below meth c s₁ B hml hv
  obtain ⟨rfl, hsz, hv⟩ := hv
  have hx := B.exec
  have hb := B.bytes
  have hr := B.returns
  have hts := atoms_spec (ws := wsL_mint) B.pre
  have hown : s.vm.findClass RL = some m.cls := findClass_of_methodNamed B.named
  have hlocks := B.notSynchronized
  subst hsz
  have htab : c.exceptionTable.toList = [⟨0, 12, 15, 13⟩, ⟨0, 12, 19, 15⟩, ⟨0, 12, 23, 17⟩] := vx_table (x := yL_mint) B (hts (.codeWith yL_mint cL_mint 6 (some .int) [(0, 12, 15, 13), (0, 12, 19, 15), (0, 12, 23, 17)]) List.mem_cons_self)
  have B := xB_start hs hv
  have hl := lv_entry ([.ref (ad 0), .int a1, .int a2, .int a3, .ref (ad 75)]) (n := 6) (Nat.le_of_ble_eq_true rfl)
  rw [lg_entry_eq]
  generalize (lg_sl ([.ref (ad 0), .int a1, .int a2, .int a3, .ref (ad 75)]) ++ List.replicate (6 - (lg_sl ([.ref (ad 0), .int a1, .int a2, .int a3, .ref (ad 75)])).length) Slot.unset).toArray = ls at hl ⊢
  have hl : lv_has ls 6 [(0, .ref (ad 0)), (1, .int a1), (2, .int a2), (3, .int a3), (4, .ref (ad 75))] := hl
  generalize hAe : xA ad a s.heap.size = A at B ⊢
  unfold f_L_mint_0_75 at hf
  refine lv_aload hx hb dL_mint_0 (lv_at hl 4 rfl) ?_
  refine lv_iconst (v := (0 : Int32)) hx hb dL_mint_2 (by decide) ?_
  refine lv_aload_n hx hb dL_mint_3 rfl (lv_at hl 0 rfl) ?_
  refine lv_iload_n hx hb dL_mint_4 rfl (lv_at hl 1 rfl) ?_
  refine lv_iload_n hx hb dL_mint_5 rfl (lv_at hl 2 rfl) ?_
  refine lv_iload_n hx hb dL_mint_6 rfl (lv_at hl 3 rfl) ?_
  obtain ⟨u1, r2, σ3, hu1, hf⟩ := zc_some hf
  refine x_xi B (fun nb a g hs Bz => vx_runV (As := [.int a1, .int a2, .int a3]) (rest := [.int (0 : Int32), .ref (ad 75)]) ⟨hx, hb, hml, hown, hts⟩ (c_X8_mint l hfl hu1 _ nb a g hs) (cwV 3 hts gL_mint_X8_mint rfl rfl rfl (by decide +kernel) ⟨Nat.le_of_ble_eq_true rfl, Nat.le_of_ble_eq_true rfl⟩) (x_preV Bz (by decide) (fun _ => rfl) rfl) rfl rfl hl.1 rfl (lv_room (Nat.le_of_ble_eq_true rfl)) dL_mint_7 ⟨Nat.le_of_ble_eq_true rfl, Nat.le_of_ble_eq_true rfl⟩) (fun H locs ce q9 h0 B k1 k2 k3 => ?_) (fun H locs h0 B => ?_)
  · have hf := zx_no hf h0
    by_cases he1 : u1 = 1
    · have hf := zif_t he1 hf
      subst he1
      refine vx_catch (E := "java/lang/IndexOutOfBoundsException") (name := "java/lang/IndexOutOfBoundsException") hown [] ⟨0, 12, 15, 13⟩ [⟨0, 12, 19, 15⟩, ⟨0, 12, 23, 17⟩] htab (fun z hz => by cases hz) (by decide) (by decide) (hts (.classLink RL 13 "java/lang/IndexOutOfBoundsException") (by decide +kernel)) (((xT B).castable (by decide +kernel)).use rfl) k1 k2 k3 ?_
      refine lv_astore (lv' := [(5, .ref q9), (0, .ref (ad 0)), (1, .int a1), (2, .int a2), (3, .int a3), (4, .ref (ad 75))]) hx hb dL_mint_15 hl (by decide) rfl (fun ls hl => ?_)
      refine lv_iconst (v := (1 : Int32)) hx hb dL_mint_17 (by decide) ?_
      refine W.widen (k := 4) (n := 24) (Nat.le_of_ble_eq_true rfl) (Nat.le_of_ble_eq_true rfl) ?_
      exact x_iret hx hb hr rfl hlocks B hf dL_mint_18
    have hf := zif_f he1 hf
    by_cases he2 : u1 = 2
    · have hf := zif_t he2 hf
      subst he2
      refine vx_catch (E := "java/lang/IllegalArgumentException") (name := "java/lang/IllegalArgumentException") hown [⟨0, 12, 15, 13⟩] ⟨0, 12, 19, 15⟩ [⟨0, 12, 23, 17⟩] htab (fun z hz => by simp only [List.mem_cons, List.not_mem_nil, or_false] at hz; rcases hz with rfl <;> first | exact Or.inr ⟨by decide, _, hts (.classLink RL 13 "java/lang/IndexOutOfBoundsException") (by decide +kernel), (xT B).apart (by decide +kernel) (by decide +kernel) (by decide +kernel)⟩) (by decide) (by decide) (hts (.classLink RL 15 "java/lang/IllegalArgumentException") (by decide +kernel)) (((xT B).castable (by decide +kernel)).use rfl) k1 k2 k3 ?_
      refine lv_astore (lv' := [(5, .ref q9), (0, .ref (ad 0)), (1, .int a1), (2, .int a2), (3, .int a3), (4, .ref (ad 75))]) hx hb dL_mint_19 hl (by decide) rfl (fun ls hl => ?_)
      refine lv_iconst (v := (2 : Int32)) hx hb dL_mint_21 (by decide) ?_
      refine W.widen (k := 4) (n := 24) (Nat.le_of_ble_eq_true rfl) (Nat.le_of_ble_eq_true rfl) ?_
      exact x_iret hx hb hr rfl hlocks B hf dL_mint_22
    have hf := zif_f he2 hf
    by_cases he3 : u1 = 3
    · have hf := zif_t he3 hf
      subst he3
      refine vx_catch (E := "java/lang/IllegalStateException") (name := "java/lang/IllegalStateException") hown [⟨0, 12, 15, 13⟩, ⟨0, 12, 19, 15⟩] ⟨0, 12, 23, 17⟩ [] htab (fun z hz => by simp only [List.mem_cons, List.not_mem_nil, or_false] at hz; rcases hz with rfl | rfl <;> first | exact Or.inr ⟨by decide, _, hts (.classLink RL 13 "java/lang/IndexOutOfBoundsException") (by decide +kernel), (xT B).apart (by decide +kernel) (by decide +kernel) (by decide +kernel)⟩ | exact Or.inr ⟨by decide, _, hts (.classLink RL 15 "java/lang/IllegalArgumentException") (by decide +kernel), (xT B).apart (by decide +kernel) (by decide +kernel) (by decide +kernel)⟩) (by decide) (by decide) (hts (.classLink RL 17 "java/lang/IllegalStateException") (by decide +kernel)) (((xT B).castable (by decide +kernel)).use rfl) k1 k2 k3 ?_
      refine lv_astore (lv' := [(5, .ref q9), (0, .ref (ad 0)), (1, .int a1), (2, .int a2), (3, .int a3), (4, .ref (ad 75))]) hx hb dL_mint_23 hl (by decide) rfl (fun ls hl => ?_)
      refine lv_iconst (v := (3 : Int32)) hx hb dL_mint_25 (by decide) ?_
      refine W.widen (k := 4) (n := 24) (Nat.le_of_ble_eq_true rfl) (Nat.le_of_ble_eq_true rfl) ?_
      exact x_iret hx hb hr rfl hlocks B hf dL_mint_26
    have hf := zif_f he3 hf
    cases hf
  have hf := zx_ok hf h0
  refine lv_i2l (v := r2.toInt64) hx hb dL_mint_10 rfl ?_
  obtain ⟨hg, hf⟩ := zg_some hf
  refine x_last hx hb B 75 rfl (by decide) (by decide) (fun _ => rfl) (zin_ok hg) dL_mint_11 (fun H locs B => ?_)
  refine lv_goto (tgt := 27) hx hb dL_mint_12 (by decide) ?_
  refine lv_iconst (v := (0 : Int32)) hx hb dL_mint_27 (by decide) ?_
  refine W.widen (k := 4) (n := 24) (Nat.le_of_ble_eq_true rfl) (Nat.le_of_ble_eq_true rfl) ?_
  exact x_iret hx hb hr rfl hlocks B hf dL_mint_28
theorem dL_append_0 : decode cL_append 0 = .ok (.aload_n 2, 1) := by decide +kernel
theorem dL_append_1 : decode cL_append 1 = .ok (.iconst 0, 1) := by decide +kernel
theorem dL_append_2 : decode cL_append 2 = .ok (.aload_n 0, 1) := by decide +kernel
theorem dL_append_3 : decode cL_append 3 = .ok (.iload_n 1, 1) := by decide +kernel
theorem dL_append_4 : decode cL_append 4 = .ok (.invokevirtual 19, 3) := by decide +kernel
theorem dL_append_7 : decode cL_append 7 = .ok (.i2l, 1) := by decide +kernel
theorem dL_append_8 : decode cL_append 8 = .ok (.lastore, 1) := by decide +kernel
theorem dL_append_9 : decode cL_append 9 = .ok (.goto 9, 3) := by decide +kernel
theorem dL_append_12 : decode cL_append 12 = .ok (.astore_n 3, 1) := by decide +kernel
theorem dL_append_13 : decode cL_append 13 = .ok (.iconst 1, 1) := by decide +kernel
theorem dL_append_14 : decode cL_append 14 = .ok (.ireturn, 1) := by decide +kernel
theorem dL_append_15 : decode cL_append 15 = .ok (.astore_n 3, 1) := by decide +kernel
theorem dL_append_16 : decode cL_append 16 = .ok (.iconst 2, 1) := by decide +kernel
theorem dL_append_17 : decode cL_append 17 = .ok (.ireturn, 1) := by decide +kernel
theorem dL_append_18 : decode cL_append 18 = .ok (.iconst 0, 1) := by decide +kernel
theorem dL_append_19 : decode cL_append 19 = .ok (.ireturn, 1) := by decide +kernel
set_option maxRecDepth 20000 in
theorem ggL_append_X8_append : GoodIn wsL_append wsX8_append := goodIn_ca (goodIn_ca (goodIn_ca (goodIn_r _ [7, 8, 9, 10, 11, 6, 12, 13, 14, 15, 16, 17, 18, 19, 20, 21, 22, 23, 24, 25, 26, 27, 28, 29, 30, 31, 32, 33, 34, 35, 36, 37, 38, 39, 40, 41, 42, 43, 44, 45] (by decide +kernel) (by decide +kernel)) (goodIn_sub (fun _ h => List.mem_cons_of_mem _ (List.mem_append_left _ (List.mem_append_right _ h))) (by decide +kernel))) (goodIn_sub (fun _ h => List.mem_cons_of_mem _ (List.mem_append_right _ h)) (by decide +kernel))) (goodIn_sub (fun _ h => List.mem_cons_of_mem _ (List.mem_append_left _ (List.mem_append_left _ (List.mem_append_right _ h)))) (by decide +kernel))
set_option maxRecDepth 20000 in
theorem gL_append_X8_append : GoodIn wsL_append (wsV RL 19 RX8 yX8_append wsX8_append) := goodIn_app (goodIn_of _ (by decide +kernel)) ggL_append_X8_append
def rm_L_append_0_75 : Room := { frames := 10, cells := 5, slots := 30, locals := 244 }
set_option maxHeartbeats 4000000 in
set_option maxRecDepth 100000 in
theorem c_L_append_0_75 (l : Launch) (hfl : l.stackTraces = false) {G : zG} {ad : Nat → Nat} {σ σ' : zs} {a1 : Int32} {r : Int32} (hf : f_L_append_0_75 σ a1 = some (r, σ')) : xMi l yL_append wsL_append rm_L_append_0_75 G ad σ [.ref (ad 0), .int a1, .ref (ad 75)] r σ' := by
  intro sz nb a g hs
  refine z_ofWH (cc := cL_append) (maxL := 4) (ret := (some .int)) (by decide) rfl ?_
  intro p e s m args below meth c s₁ B hml hv
  obtain ⟨rfl, hsz, hv⟩ := hv
  have hx := B.exec
  have hb := B.bytes
  have hr := B.returns
  have hts := atoms_spec (ws := wsL_append) B.pre
  have hown : s.vm.findClass RL = some m.cls := findClass_of_methodNamed B.named
  have hlocks := B.notSynchronized
  subst hsz
  have htab : c.exceptionTable.toList = [⟨0, 9, 12, 15⟩, ⟨0, 9, 15, 17⟩] := vx_table (x := yL_append) B (hts (.codeWith yL_append cL_append 4 (some .int) [(0, 9, 12, 15), (0, 9, 15, 17)]) List.mem_cons_self)
  have B := xB_start hs hv
  have hl := lv_entry ([.ref (ad 0), .int a1, .ref (ad 75)]) (n := 4) (Nat.le_of_ble_eq_true rfl)
  rw [lg_entry_eq]
  generalize (lg_sl ([.ref (ad 0), .int a1, .ref (ad 75)]) ++ List.replicate (4 - (lg_sl ([.ref (ad 0), .int a1, .ref (ad 75)])).length) Slot.unset).toArray = ls at hl ⊢
  have hl : lv_has ls 4 [(0, .ref (ad 0)), (1, .int a1), (2, .ref (ad 75))] := hl
  generalize hAe : xA ad a s.heap.size = A at B ⊢
  unfold f_L_append_0_75 at hf
  refine lv_aload_n hx hb dL_append_0 rfl (lv_at hl 2 rfl) ?_
  refine lv_iconst (v := (0 : Int32)) hx hb dL_append_1 (by decide) ?_
  refine lv_aload_n hx hb dL_append_2 rfl (lv_at hl 0 rfl) ?_
  refine lv_iload_n hx hb dL_append_3 rfl (lv_at hl 1 rfl) ?_
  obtain ⟨u1, r2, σ3, hu1, hf⟩ := zc_some hf
  refine x_xi B (fun nb a g hs Bz => vx_runV (As := [.int a1]) (rest := [.int (0 : Int32), .ref (ad 75)]) ⟨hx, hb, hml, hown, hts⟩ (c_X8_append l hfl hu1 _ nb a g hs) (cwV 1 hts gL_append_X8_append rfl rfl rfl (by decide +kernel) ⟨Nat.le_of_ble_eq_true rfl, Nat.le_of_ble_eq_true rfl⟩) (x_preV Bz (by decide) (fun _ => rfl) rfl) rfl rfl hl.1 rfl (lv_room (Nat.le_of_ble_eq_true rfl)) dL_append_4 ⟨Nat.le_of_ble_eq_true rfl, Nat.le_of_ble_eq_true rfl⟩) (fun H locs ce q9 h0 B k1 k2 k3 => ?_) (fun H locs h0 B => ?_)
  · have hf := zx_no hf h0
    by_cases he2 : u1 = 2
    · have hf := zif_t he2 hf
      subst he2
      refine vx_catch (E := "java/lang/IllegalArgumentException") (name := "java/lang/IllegalArgumentException") hown [] ⟨0, 9, 12, 15⟩ [⟨0, 9, 15, 17⟩] htab (fun z hz => by cases hz) (by decide) (by decide) (hts (.classLink RL 15 "java/lang/IllegalArgumentException") (by decide +kernel)) (((xT B).castable (by decide +kernel)).use rfl) k1 k2 k3 ?_
      refine lv_astore_n (lv' := [(3, .ref q9), (0, .ref (ad 0)), (1, .int a1), (2, .ref (ad 75))]) hx hb dL_append_12 rfl hl (by decide) rfl (fun ls hl => ?_)
      refine lv_iconst (v := (1 : Int32)) hx hb dL_append_13 (by decide) ?_
      refine W.widen (k := 5) (n := 30) (Nat.le_of_ble_eq_true rfl) (Nat.le_of_ble_eq_true rfl) ?_
      exact x_iret hx hb hr rfl hlocks B hf dL_append_14
    have hf := zif_f he2 hf
    by_cases he3 : u1 = 3
    · have hf := zif_t he3 hf
      subst he3
      refine vx_catch (E := "java/lang/IllegalStateException") (name := "java/lang/IllegalStateException") hown [⟨0, 9, 12, 15⟩] ⟨0, 9, 15, 17⟩ [] htab (fun z hz => by simp only [List.mem_cons, List.not_mem_nil, or_false] at hz; rcases hz with rfl <;> first | exact Or.inr ⟨by decide, _, hts (.classLink RL 15 "java/lang/IllegalArgumentException") (by decide +kernel), (xT B).apart (by decide +kernel) (by decide +kernel) (by decide +kernel)⟩) (by decide) (by decide) (hts (.classLink RL 17 "java/lang/IllegalStateException") (by decide +kernel)) (((xT B).castable (by decide +kernel)).use rfl) k1 k2 k3 ?_
      refine lv_astore_n (lv' := [(3, .ref q9), (0, .ref (ad 0)), (1, .int a1), (2, .ref (ad 75))]) hx hb dL_append_15 rfl hl (by decide) rfl (fun ls hl => ?_)
      refine lv_iconst (v := (2 : Int32)) hx hb dL_append_16 (by decide) ?_
      refine W.widen (k := 5) (n := 30) (Nat.le_of_ble_eq_true rfl) (Nat.le_of_ble_eq_true rfl) ?_
      exact x_iret hx hb hr rfl hlocks B hf dL_append_17
    have hf := zif_f he3 hf
    cases hf
  have hf := zx_ok hf h0
  refine lv_i2l (v := r2.toInt64) hx hb dL_append_7 rfl ?_
  obtain ⟨hg, hf⟩ := zg_some hf
  refine x_last hx hb B 75 rfl (by decide) (by decide) (fun _ => rfl) (zin_ok hg) dL_append_8 (fun H locs B => ?_)
  refine lv_goto (tgt := 18) hx hb dL_append_9 (by decide) ?_
  refine lv_iconst (v := (0 : Int32)) hx hb dL_append_18 (by decide) ?_
  refine W.widen (k := 5) (n := 30) (Nat.le_of_ble_eq_true rfl) (Nat.le_of_ble_eq_true rfl) ?_
  exact x_iret hx hb hr rfl hlocks B hf dL_append_19
theorem dL_derive_0 : decode cL_derive 0 = .ok (.aload_n 3, 1) := by decide +kernel
theorem dL_derive_1 : decode cL_derive 1 = .ok (.iconst 0, 1) := by decide +kernel
theorem dL_derive_2 : decode cL_derive 2 = .ok (.aload_n 0, 1) := by decide +kernel
theorem dL_derive_3 : decode cL_derive 3 = .ok (.iload_n 1, 1) := by decide +kernel
theorem dL_derive_4 : decode cL_derive 4 = .ok (.iload_n 2, 1) := by decide +kernel
theorem dL_derive_5 : decode cL_derive 5 = .ok (.invokevirtual 23, 3) := by decide +kernel
theorem dL_derive_8 : decode cL_derive 8 = .ok (.i2l, 1) := by decide +kernel
theorem dL_derive_9 : decode cL_derive 9 = .ok (.lastore, 1) := by decide +kernel
theorem dL_derive_10 : decode cL_derive 10 = .ok (.goto 19, 3) := by decide +kernel
theorem dL_derive_13 : decode cL_derive 13 = .ok (.astore 4, 2) := by decide +kernel
theorem dL_derive_15 : decode cL_derive 15 = .ok (.iconst 1, 1) := by decide +kernel
theorem dL_derive_16 : decode cL_derive 16 = .ok (.ireturn, 1) := by decide +kernel
theorem dL_derive_17 : decode cL_derive 17 = .ok (.astore 4, 2) := by decide +kernel
theorem dL_derive_19 : decode cL_derive 19 = .ok (.iconst 2, 1) := by decide +kernel
theorem dL_derive_20 : decode cL_derive 20 = .ok (.ireturn, 1) := by decide +kernel
theorem dL_derive_21 : decode cL_derive 21 = .ok (.astore 4, 2) := by decide +kernel
theorem dL_derive_23 : decode cL_derive 23 = .ok (.iconst 3, 1) := by decide +kernel
theorem dL_derive_24 : decode cL_derive 24 = .ok (.ireturn, 1) := by decide +kernel
theorem dL_derive_25 : decode cL_derive 25 = .ok (.astore 4, 2) := by decide +kernel
theorem dL_derive_27 : decode cL_derive 27 = .ok (.iconst 4, 1) := by decide +kernel
theorem dL_derive_28 : decode cL_derive 28 = .ok (.ireturn, 1) := by decide +kernel
theorem dL_derive_29 : decode cL_derive 29 = .ok (.iconst 0, 1) := by decide +kernel
theorem dL_derive_30 : decode cL_derive 30 = .ok (.ireturn, 1) := by decide +kernel
set_option maxRecDepth 20000 in
theorem ggL_derive_X8_derive : GoodIn wsL_derive wsX8_derive := goodIn_ca (goodIn_ca (goodIn_ca (goodIn_ca (goodIn_ca (goodIn_r _ [9, 10, 11, 12, 13, 14, 15, 16, 17, 18, 19, 20, 21, 8, 22, 23, 24, 25, 26, 27, 28, 29, 30, 31, 32, 33, 34, 35, 36, 37, 38, 39, 40, 41, 42, 43, 44, 45, 46, 47, 48, 49, 50, 51, 52, 53, 54, 55, 56, 57, 58, 59, 60, 61, 62, 63, 64, 65, 66, 67, 68, 69, 70, 71, 72, 73, 74, 75, 76, 77, 78, 79, 80, 81, 82, 83, 84, 85, 86, 87, 88, 89, 90, 91, 92, 93, 94, 95, 96, 97, 98, 99, 100, 101, 102, 103, 104, 105, 106, 107, 108, 109, 110, 111, 112, 113, 114, 115, 116, 117, 118, 119, 120, 121, 122, 123, 124, 125, 126, 127, 128, 129, 130, 131, 132, 133, 134, 135, 136, 137, 138, 139, 140, 141, 142, 143, 144, 145, 146, 147, 148, 149, 150, 151, 152, 153, 154, 155, 156, 157, 158, 159, 160, 161, 162, 163, 164, 165, 166, 167, 168, 169, 170, 171, 172, 173, 174, 175, 176, 177, 178, 179, 180, 181, 182, 183, 184, 185, 186, 187, 188, 189, 190, 191, 192, 193, 194, 195, 196, 197, 198, 199, 200, 201, 202, 203, 204, 205, 206, 207, 208, 209, 210, 211, 212, 213, 214, 215, 216, 217, 218, 219, 220, 221, 222, 223, 224, 225, 226, 227, 228, 229, 230, 231, 232, 233, 234, 235, 236, 237, 238, 239, 240, 241, 242, 243, 244, 245, 246, 247, 248, 249, 250, 251, 252, 253, 254, 255, 256, 257, 258, 259, 260, 261, 262, 263, 264] (by decide +kernel) (by decide +kernel)) (goodIn_sub (fun _ h => List.mem_cons_of_mem _ (List.mem_append_left _ (List.mem_append_left _ (List.mem_append_left _ (List.mem_append_left _ (List.mem_append_right _ h)))))) (by decide +kernel))) (goodIn_sub (fun _ h => List.mem_cons_of_mem _ (List.mem_append_left _ (List.mem_append_left _ (List.mem_append_left _ (List.mem_append_right _ h))))) (by decide +kernel))) (goodIn_sub (fun _ h => List.mem_cons_of_mem _ (List.mem_append_left _ (List.mem_append_left _ (List.mem_append_right _ h)))) (by decide +kernel))) (goodIn_sub (fun _ h => List.mem_cons_of_mem _ (List.mem_append_left _ (List.mem_append_right _ h))) (by decide +kernel))) (goodIn_sub (fun _ h => List.mem_cons_of_mem _ (List.mem_append_right _ h)) (by decide +kernel))
set_option maxRecDepth 20000 in
theorem gL_derive_X8_derive : GoodIn wsL_derive (wsV RL 23 RX8 yX8_derive wsX8_derive) := goodIn_app (goodIn_of _ (by decide +kernel)) ggL_derive_X8_derive
def rm_L_derive_0_75 : Room := { frames := 11, cells := 5, slots := 30, locals := 266 }
set_option maxHeartbeats 4000000 in
set_option maxRecDepth 100000 in
theorem c_L_derive_0_75 (l : Launch) (hfl : l.stackTraces = false) {G : zG} {ad : Nat → Nat} {σ σ' : zs} {a1 a2 : Int32} {r : Int32} (hf : f_L_derive_0_75 σ a1 a2 = some (r, σ')) : xMi l yL_derive wsL_derive rm_L_derive_0_75 G ad σ [.ref (ad 0), .int a1, .int a2, .ref (ad 75)] r σ' := by
  intro sz nb a g hs
  refine z_ofWH (cc := cL_derive) (maxL := 5) (ret := (some .int)) (by decide) rfl ?_
  intro p e s m args below meth c s₁ B hml hv
  obtain ⟨rfl, hsz, hv⟩ := hv
  have hx := B.exec
  have hb := B.bytes
  have hr := B.returns
  have hts := atoms_spec (ws := wsL_derive) B.pre
  have hown : s.vm.findClass RL = some m.cls := findClass_of_methodNamed B.named
  have hlocks := B.notSynchronized
  subst hsz
  have htab : c.exceptionTable.toList = [⟨0, 10, 13, 13⟩, ⟨0, 10, 17, 27⟩, ⟨0, 10, 21, 15⟩, ⟨0, 10, 25, 17⟩] := vx_table (x := yL_derive) B (hts (.codeWith yL_derive cL_derive 5 (some .int) [(0, 10, 13, 13), (0, 10, 17, 27), (0, 10, 21, 15), (0, 10, 25, 17)]) List.mem_cons_self)
  have B := xB_start hs hv
  have hl := lv_entry ([.ref (ad 0), .int a1, .int a2, .ref (ad 75)]) (n := 5) (Nat.le_of_ble_eq_true rfl)
  rw [lg_entry_eq]
  generalize (lg_sl ([.ref (ad 0), .int a1, .int a2, .ref (ad 75)]) ++ List.replicate (5 - (lg_sl ([.ref (ad 0), .int a1, .int a2, .ref (ad 75)])).length) Slot.unset).toArray = ls at hl ⊢
  have hl : lv_has ls 5 [(0, .ref (ad 0)), (1, .int a1), (2, .int a2), (3, .ref (ad 75))] := hl
  generalize hAe : xA ad a s.heap.size = A at B ⊢
  unfold f_L_derive_0_75 at hf
  refine lv_aload_n hx hb dL_derive_0 rfl (lv_at hl 3 rfl) ?_
  refine lv_iconst (v := (0 : Int32)) hx hb dL_derive_1 (by decide) ?_
  refine lv_aload_n hx hb dL_derive_2 rfl (lv_at hl 0 rfl) ?_
  refine lv_iload_n hx hb dL_derive_3 rfl (lv_at hl 1 rfl) ?_
  refine lv_iload_n hx hb dL_derive_4 rfl (lv_at hl 2 rfl) ?_
  obtain ⟨u1, r2, σ3, hu1, hf⟩ := zc_some hf
  refine x_xi B (fun nb a g hs Bz => vx_runV (As := [.int a1, .int a2]) (rest := [.int (0 : Int32), .ref (ad 75)]) ⟨hx, hb, hml, hown, hts⟩ (c_X8_derive l hfl hu1 _ nb a g hs) (cwV 2 hts gL_derive_X8_derive rfl rfl rfl (by decide +kernel) ⟨Nat.le_of_ble_eq_true rfl, Nat.le_of_ble_eq_true rfl⟩) (x_preV Bz (by decide) (fun _ => rfl) rfl) rfl rfl hl.1 rfl (lv_room (Nat.le_of_ble_eq_true rfl)) dL_derive_5 ⟨Nat.le_of_ble_eq_true rfl, Nat.le_of_ble_eq_true rfl⟩) (fun H locs ce q9 h0 B k1 k2 k3 => ?_) (fun H locs h0 B => ?_)
  · have hf := zx_no hf h0
    by_cases he1 : u1 = 1
    · have hf := zif_t he1 hf
      subst he1
      refine vx_catch (E := "java/lang/IndexOutOfBoundsException") (name := "java/lang/IndexOutOfBoundsException") hown [] ⟨0, 10, 13, 13⟩ [⟨0, 10, 17, 27⟩, ⟨0, 10, 21, 15⟩, ⟨0, 10, 25, 17⟩] htab (fun z hz => by cases hz) (by decide) (by decide) (hts (.classLink RL 13 "java/lang/IndexOutOfBoundsException") (by decide +kernel)) (((xT B).castable (by decide +kernel)).use rfl) k1 k2 k3 ?_
      refine lv_astore (lv' := [(4, .ref q9), (0, .ref (ad 0)), (1, .int a1), (2, .int a2), (3, .ref (ad 75))]) hx hb dL_derive_13 hl (by decide) rfl (fun ls hl => ?_)
      refine lv_iconst (v := (1 : Int32)) hx hb dL_derive_15 (by decide) ?_
      refine W.widen (k := 5) (n := 30) (Nat.le_of_ble_eq_true rfl) (Nat.le_of_ble_eq_true rfl) ?_
      exact x_iret hx hb hr rfl hlocks B hf dL_derive_16
    have hf := zif_f he1 hf
    by_cases he4 : u1 = 4
    · have hf := zif_t he4 hf
      subst he4
      refine vx_catch (E := "java/lang/UnsupportedOperationException") (name := "java/lang/UnsupportedOperationException") hown [⟨0, 10, 13, 13⟩] ⟨0, 10, 17, 27⟩ [⟨0, 10, 21, 15⟩, ⟨0, 10, 25, 17⟩] htab (fun z hz => by simp only [List.mem_cons, List.not_mem_nil, or_false] at hz; rcases hz with rfl <;> first | exact Or.inr ⟨by decide, _, hts (.classLink RL 13 "java/lang/IndexOutOfBoundsException") (by decide +kernel), (xT B).apart (by decide +kernel) (by decide +kernel) (by decide +kernel)⟩) (by decide) (by decide) (hts (.classLink RL 27 "java/lang/UnsupportedOperationException") (by decide +kernel)) (((xT B).castable (by decide +kernel)).use rfl) k1 k2 k3 ?_
      refine lv_astore (lv' := [(4, .ref q9), (0, .ref (ad 0)), (1, .int a1), (2, .int a2), (3, .ref (ad 75))]) hx hb dL_derive_17 hl (by decide) rfl (fun ls hl => ?_)
      refine lv_iconst (v := (2 : Int32)) hx hb dL_derive_19 (by decide) ?_
      refine W.widen (k := 5) (n := 30) (Nat.le_of_ble_eq_true rfl) (Nat.le_of_ble_eq_true rfl) ?_
      exact x_iret hx hb hr rfl hlocks B hf dL_derive_20
    have hf := zif_f he4 hf
    by_cases he2 : u1 = 2
    · have hf := zif_t he2 hf
      subst he2
      refine vx_catch (E := "java/lang/IllegalArgumentException") (name := "java/lang/IllegalArgumentException") hown [⟨0, 10, 13, 13⟩, ⟨0, 10, 17, 27⟩] ⟨0, 10, 21, 15⟩ [⟨0, 10, 25, 17⟩] htab (fun z hz => by simp only [List.mem_cons, List.not_mem_nil, or_false] at hz; rcases hz with rfl | rfl <;> first | exact Or.inr ⟨by decide, _, hts (.classLink RL 13 "java/lang/IndexOutOfBoundsException") (by decide +kernel), (xT B).apart (by decide +kernel) (by decide +kernel) (by decide +kernel)⟩ | exact Or.inr ⟨by decide, _, hts (.classLink RL 27 "java/lang/UnsupportedOperationException") (by decide +kernel), (xT B).apart (by decide +kernel) (by decide +kernel) (by decide +kernel)⟩) (by decide) (by decide) (hts (.classLink RL 15 "java/lang/IllegalArgumentException") (by decide +kernel)) (((xT B).castable (by decide +kernel)).use rfl) k1 k2 k3 ?_
      refine lv_astore (lv' := [(4, .ref q9), (0, .ref (ad 0)), (1, .int a1), (2, .int a2), (3, .ref (ad 75))]) hx hb dL_derive_21 hl (by decide) rfl (fun ls hl => ?_)
      refine lv_iconst (v := (3 : Int32)) hx hb dL_derive_23 (by decide) ?_
      refine W.widen (k := 5) (n := 30) (Nat.le_of_ble_eq_true rfl) (Nat.le_of_ble_eq_true rfl) ?_
      exact x_iret hx hb hr rfl hlocks B hf dL_derive_24
    have hf := zif_f he2 hf
    by_cases he3 : u1 = 3
    · have hf := zif_t he3 hf
      subst he3
      refine vx_catch (E := "java/lang/IllegalStateException") (name := "java/lang/IllegalStateException") hown [⟨0, 10, 13, 13⟩, ⟨0, 10, 17, 27⟩, ⟨0, 10, 21, 15⟩] ⟨0, 10, 25, 17⟩ [] htab (fun z hz => by simp only [List.mem_cons, List.not_mem_nil, or_false] at hz; rcases hz with rfl | rfl | rfl <;> first | exact Or.inr ⟨by decide, _, hts (.classLink RL 13 "java/lang/IndexOutOfBoundsException") (by decide +kernel), (xT B).apart (by decide +kernel) (by decide +kernel) (by decide +kernel)⟩ | exact Or.inr ⟨by decide, _, hts (.classLink RL 27 "java/lang/UnsupportedOperationException") (by decide +kernel), (xT B).apart (by decide +kernel) (by decide +kernel) (by decide +kernel)⟩ | exact Or.inr ⟨by decide, _, hts (.classLink RL 15 "java/lang/IllegalArgumentException") (by decide +kernel), (xT B).apart (by decide +kernel) (by decide +kernel) (by decide +kernel)⟩) (by decide) (by decide) (hts (.classLink RL 17 "java/lang/IllegalStateException") (by decide +kernel)) (((xT B).castable (by decide +kernel)).use rfl) k1 k2 k3 ?_
      refine lv_astore (lv' := [(4, .ref q9), (0, .ref (ad 0)), (1, .int a1), (2, .int a2), (3, .ref (ad 75))]) hx hb dL_derive_25 hl (by decide) rfl (fun ls hl => ?_)
      refine lv_iconst (v := (4 : Int32)) hx hb dL_derive_27 (by decide) ?_
      refine W.widen (k := 5) (n := 30) (Nat.le_of_ble_eq_true rfl) (Nat.le_of_ble_eq_true rfl) ?_
      exact x_iret hx hb hr rfl hlocks B hf dL_derive_28
    have hf := zif_f he3 hf
    cases hf
  have hf := zx_ok hf h0
  refine lv_i2l (v := r2.toInt64) hx hb dL_derive_8 rfl ?_
  obtain ⟨hg, hf⟩ := zg_some hf
  refine x_last hx hb B 75 rfl (by decide) (by decide) (fun _ => rfl) (zin_ok hg) dL_derive_9 (fun H locs B => ?_)
  refine lv_goto (tgt := 29) hx hb dL_derive_10 (by decide) ?_
  refine lv_iconst (v := (0 : Int32)) hx hb dL_derive_29 (by decide) ?_
  refine W.widen (k := 5) (n := 30) (Nat.le_of_ble_eq_true rfl) (Nat.le_of_ble_eq_true rfl) ?_
  exact x_iret hx hb hr rfl hlocks B hf dL_derive_30
theorem dL_give_0 : decode cL_give 0 = .ok (.aload 4, 2) := by decide +kernel
theorem dL_give_2 : decode cL_give 2 = .ok (.iconst 0, 1) := by decide +kernel
theorem dL_give_3 : decode cL_give 3 = .ok (.aload_n 0, 1) := by decide +kernel
theorem dL_give_4 : decode cL_give 4 = .ok (.iload_n 1, 1) := by decide +kernel
theorem dL_give_5 : decode cL_give 5 = .ok (.iload_n 2, 1) := by decide +kernel
theorem dL_give_6 : decode cL_give 6 = .ok (.iload_n 3, 1) := by decide +kernel
theorem dL_give_7 : decode cL_give 7 = .ok (.invokevirtual 29, 3) := by decide +kernel
theorem dL_give_10 : decode cL_give 10 = .ok (.i2l, 1) := by decide +kernel
theorem dL_give_11 : decode cL_give 11 = .ok (.lastore, 1) := by decide +kernel
theorem dL_give_12 : decode cL_give 12 = .ok (.goto 11, 3) := by decide +kernel
theorem dL_give_15 : decode cL_give 15 = .ok (.astore 5, 2) := by decide +kernel
theorem dL_give_17 : decode cL_give 17 = .ok (.iconst 1, 1) := by decide +kernel
theorem dL_give_18 : decode cL_give 18 = .ok (.ireturn, 1) := by decide +kernel
theorem dL_give_19 : decode cL_give 19 = .ok (.astore 5, 2) := by decide +kernel
theorem dL_give_21 : decode cL_give 21 = .ok (.iconst 2, 1) := by decide +kernel
theorem dL_give_22 : decode cL_give 22 = .ok (.ireturn, 1) := by decide +kernel
theorem dL_give_23 : decode cL_give 23 = .ok (.iconst 0, 1) := by decide +kernel
theorem dL_give_24 : decode cL_give 24 = .ok (.ireturn, 1) := by decide +kernel
set_option maxRecDepth 20000 in
theorem ggL_give_X8_give : GoodIn wsL_give wsX8_give := goodIn_ca (goodIn_ca (goodIn_ca (goodIn_r _ [7, 8, 9, 10, 11, 12, 6, 13, 14, 15, 16, 17, 18, 19, 20, 21, 22, 23, 24, 25, 26, 27, 28, 29, 30, 31, 32, 33, 34, 35, 36, 37, 38, 39, 40, 41, 42, 43, 44, 45, 46, 47, 48, 49, 50, 51, 52, 53, 54, 55, 56, 57, 58, 59, 60, 61, 62, 63, 64, 65, 66, 67, 68, 69, 70, 71, 72, 73, 74, 75, 76, 77, 78, 79, 80, 81, 82, 83, 84, 85, 86, 87, 88, 89, 90, 91, 92, 93, 94, 95, 96, 97, 98, 99, 100, 101, 102, 103, 104, 105, 106, 107, 108] (by decide +kernel) (by decide +kernel)) (goodIn_sub (fun _ h => List.mem_cons_of_mem _ (List.mem_append_left _ (List.mem_append_left _ (List.mem_append_right _ h)))) (by decide +kernel))) (goodIn_sub (fun _ h => List.mem_cons_of_mem _ (List.mem_append_left _ (List.mem_append_right _ h))) (by decide +kernel))) (goodIn_sub (fun _ h => List.mem_cons_of_mem _ (List.mem_append_right _ h)) (by decide +kernel))
set_option maxRecDepth 20000 in
theorem gL_give_X8_give : GoodIn wsL_give (wsV RL 29 RX8 yX8_give wsX8_give) := goodIn_app (goodIn_of _ (by decide +kernel)) ggL_give_X8_give
def rm_L_give_0_75 : Room := { frames := 11, cells := 4, slots := 24, locals := 264 }
set_option maxHeartbeats 4000000 in
set_option maxRecDepth 100000 in
theorem c_L_give_0_75 (l : Launch) (hfl : l.stackTraces = false) {G : zG} {ad : Nat → Nat} {σ σ' : zs} {a1 a2 a3 : Int32} {r : Int32} (hf : f_L_give_0_75 σ a1 a2 a3 = some (r, σ')) : xMi l yL_give wsL_give rm_L_give_0_75 G ad σ [.ref (ad 0), .int a1, .int a2, .int a3, .ref (ad 75)] r σ' := by
  intro sz nb a g hs
  refine z_ofWH (cc := cL_give) (maxL := 6) (ret := (some .int)) (by decide) rfl ?_
  intro p e s m args below meth c s₁ B hml hv
  obtain ⟨rfl, hsz, hv⟩ := hv
  have hx := B.exec
  have hb := B.bytes
  have hr := B.returns
  have hts := atoms_spec (ws := wsL_give) B.pre
  have hown : s.vm.findClass RL = some m.cls := findClass_of_methodNamed B.named
  have hlocks := B.notSynchronized
  subst hsz
  have htab : c.exceptionTable.toList = [⟨0, 12, 15, 13⟩, ⟨0, 12, 19, 27⟩] := vx_table (x := yL_give) B (hts (.codeWith yL_give cL_give 6 (some .int) [(0, 12, 15, 13), (0, 12, 19, 27)]) List.mem_cons_self)
  have B := xB_start hs hv
  have hl := lv_entry ([.ref (ad 0), .int a1, .int a2, .int a3, .ref (ad 75)]) (n := 6) (Nat.le_of_ble_eq_true rfl)
  rw [lg_entry_eq]
  generalize (lg_sl ([.ref (ad 0), .int a1, .int a2, .int a3, .ref (ad 75)]) ++ List.replicate (6 - (lg_sl ([.ref (ad 0), .int a1, .int a2, .int a3, .ref (ad 75)])).length) Slot.unset).toArray = ls at hl ⊢
  have hl : lv_has ls 6 [(0, .ref (ad 0)), (1, .int a1), (2, .int a2), (3, .int a3), (4, .ref (ad 75))] := hl
  generalize hAe : xA ad a s.heap.size = A at B ⊢
  unfold f_L_give_0_75 at hf
  refine lv_aload hx hb dL_give_0 (lv_at hl 4 rfl) ?_
  refine lv_iconst (v := (0 : Int32)) hx hb dL_give_2 (by decide) ?_
  refine lv_aload_n hx hb dL_give_3 rfl (lv_at hl 0 rfl) ?_
  refine lv_iload_n hx hb dL_give_4 rfl (lv_at hl 1 rfl) ?_
  refine lv_iload_n hx hb dL_give_5 rfl (lv_at hl 2 rfl) ?_
  refine lv_iload_n hx hb dL_give_6 rfl (lv_at hl 3 rfl) ?_
  obtain ⟨u1, r2, σ3, hu1, hf⟩ := zc_some hf
  refine x_xi B (fun nb a g hs Bz => vx_runV (As := [.int a1, .int a2, .int a3]) (rest := [.int (0 : Int32), .ref (ad 75)]) ⟨hx, hb, hml, hown, hts⟩ (c_X8_give l hfl hu1 _ nb a g hs) (cwV 3 hts gL_give_X8_give rfl rfl rfl (by decide +kernel) ⟨Nat.le_of_ble_eq_true rfl, Nat.le_of_ble_eq_true rfl⟩) (x_preV Bz (by decide) (fun _ => rfl) rfl) rfl rfl hl.1 rfl (lv_room (Nat.le_of_ble_eq_true rfl)) dL_give_7 ⟨Nat.le_of_ble_eq_true rfl, Nat.le_of_ble_eq_true rfl⟩) (fun H locs ce q9 h0 B k1 k2 k3 => ?_) (fun H locs h0 B => ?_)
  · have hf := zx_no hf h0
    by_cases he1 : u1 = 1
    · have hf := zif_t he1 hf
      subst he1
      refine vx_catch (E := "java/lang/IndexOutOfBoundsException") (name := "java/lang/IndexOutOfBoundsException") hown [] ⟨0, 12, 15, 13⟩ [⟨0, 12, 19, 27⟩] htab (fun z hz => by cases hz) (by decide) (by decide) (hts (.classLink RL 13 "java/lang/IndexOutOfBoundsException") (by decide +kernel)) (((xT B).castable (by decide +kernel)).use rfl) k1 k2 k3 ?_
      refine lv_astore (lv' := [(5, .ref q9), (0, .ref (ad 0)), (1, .int a1), (2, .int a2), (3, .int a3), (4, .ref (ad 75))]) hx hb dL_give_15 hl (by decide) rfl (fun ls hl => ?_)
      refine lv_iconst (v := (1 : Int32)) hx hb dL_give_17 (by decide) ?_
      refine W.widen (k := 4) (n := 24) (Nat.le_of_ble_eq_true rfl) (Nat.le_of_ble_eq_true rfl) ?_
      exact x_iret hx hb hr rfl hlocks B hf dL_give_18
    have hf := zif_f he1 hf
    by_cases he4 : u1 = 4
    · have hf := zif_t he4 hf
      subst he4
      refine vx_catch (E := "java/lang/UnsupportedOperationException") (name := "java/lang/UnsupportedOperationException") hown [⟨0, 12, 15, 13⟩] ⟨0, 12, 19, 27⟩ [] htab (fun z hz => by simp only [List.mem_cons, List.not_mem_nil, or_false] at hz; rcases hz with rfl <;> first | exact Or.inr ⟨by decide, _, hts (.classLink RL 13 "java/lang/IndexOutOfBoundsException") (by decide +kernel), (xT B).apart (by decide +kernel) (by decide +kernel) (by decide +kernel)⟩) (by decide) (by decide) (hts (.classLink RL 27 "java/lang/UnsupportedOperationException") (by decide +kernel)) (((xT B).castable (by decide +kernel)).use rfl) k1 k2 k3 ?_
      refine lv_astore (lv' := [(5, .ref q9), (0, .ref (ad 0)), (1, .int a1), (2, .int a2), (3, .int a3), (4, .ref (ad 75))]) hx hb dL_give_19 hl (by decide) rfl (fun ls hl => ?_)
      refine lv_iconst (v := (2 : Int32)) hx hb dL_give_21 (by decide) ?_
      refine W.widen (k := 4) (n := 24) (Nat.le_of_ble_eq_true rfl) (Nat.le_of_ble_eq_true rfl) ?_
      exact x_iret hx hb hr rfl hlocks B hf dL_give_22
    have hf := zif_f he4 hf
    cases hf
  have hf := zx_ok hf h0
  refine lv_i2l (v := r2.toInt64) hx hb dL_give_10 rfl ?_
  obtain ⟨hg, hf⟩ := zg_some hf
  refine x_last hx hb B 75 rfl (by decide) (by decide) (fun _ => rfl) (zin_ok hg) dL_give_11 (fun H locs B => ?_)
  refine lv_goto (tgt := 23) hx hb dL_give_12 (by decide) ?_
  refine lv_iconst (v := (0 : Int32)) hx hb dL_give_23 (by decide) ?_
  refine W.widen (k := 4) (n := 24) (Nat.le_of_ble_eq_true rfl) (Nat.le_of_ble_eq_true rfl) ?_
  exact x_iret hx hb hr rfl hlocks B hf dL_give_24
theorem dL_drop_0 : decode cL_drop 0 = .ok (.aload_n 3, 1) := by decide +kernel
theorem dL_drop_1 : decode cL_drop 1 = .ok (.iconst 0, 1) := by decide +kernel
theorem dL_drop_2 : decode cL_drop 2 = .ok (.aload_n 0, 1) := by decide +kernel
theorem dL_drop_3 : decode cL_drop 3 = .ok (.iload_n 1, 1) := by decide +kernel
theorem dL_drop_4 : decode cL_drop 4 = .ok (.iload_n 2, 1) := by decide +kernel
theorem dL_drop_5 : decode cL_drop 5 = .ok (.invokevirtual 32, 3) := by decide +kernel
theorem dL_drop_8 : decode cL_drop 8 = .ok (.i2l, 1) := by decide +kernel
theorem dL_drop_9 : decode cL_drop 9 = .ok (.lastore, 1) := by decide +kernel
theorem dL_drop_10 : decode cL_drop 10 = .ok (.goto 11, 3) := by decide +kernel
theorem dL_drop_13 : decode cL_drop 13 = .ok (.astore 4, 2) := by decide +kernel
theorem dL_drop_15 : decode cL_drop 15 = .ok (.iconst 1, 1) := by decide +kernel
theorem dL_drop_16 : decode cL_drop 16 = .ok (.ireturn, 1) := by decide +kernel
theorem dL_drop_17 : decode cL_drop 17 = .ok (.astore 4, 2) := by decide +kernel
theorem dL_drop_19 : decode cL_drop 19 = .ok (.iconst 2, 1) := by decide +kernel
theorem dL_drop_20 : decode cL_drop 20 = .ok (.ireturn, 1) := by decide +kernel
theorem dL_drop_21 : decode cL_drop 21 = .ok (.iconst 0, 1) := by decide +kernel
theorem dL_drop_22 : decode cL_drop 22 = .ok (.ireturn, 1) := by decide +kernel
set_option maxRecDepth 20000 in
theorem ggL_drop_X8_drop : GoodIn wsL_drop wsX8_drop := goodIn_ca (goodIn_ca (goodIn_ca (goodIn_r _ [7, 8, 9, 10, 11, 12, 6, 13, 14, 15, 16, 17, 18, 19, 20, 21, 22, 23, 24, 25, 26, 27, 28, 29, 30, 31, 32, 33, 34, 35, 36, 37, 38, 39, 40, 41, 42, 43, 44, 45, 46, 47, 48, 49, 50, 51, 52, 53, 54, 55, 56, 57, 58, 59, 60, 61, 62, 63, 64, 65, 66] (by decide +kernel) (by decide +kernel)) (goodIn_sub (fun _ h => List.mem_cons_of_mem _ (List.mem_append_left _ (List.mem_append_left _ (List.mem_append_right _ h)))) (by decide +kernel))) (goodIn_sub (fun _ h => List.mem_cons_of_mem _ (List.mem_append_left _ (List.mem_append_right _ h))) (by decide +kernel))) (goodIn_sub (fun _ h => List.mem_cons_of_mem _ (List.mem_append_right _ h)) (by decide +kernel))
set_option maxRecDepth 20000 in
theorem gL_drop_X8_drop : GoodIn wsL_drop (wsV RL 32 RX8 yX8_drop wsX8_drop) := goodIn_app (goodIn_of _ (by decide +kernel)) ggL_drop_X8_drop
def rm_L_drop_0_75 : Room := { frames := 11, cells := 3, slots := 18, locals := 263 }
set_option maxHeartbeats 4000000 in
set_option maxRecDepth 100000 in
theorem c_L_drop_0_75 (l : Launch) (hfl : l.stackTraces = false) {G : zG} {ad : Nat → Nat} {σ σ' : zs} {a1 a2 : Int32} {r : Int32} (hf : f_L_drop_0_75 σ a1 a2 = some (r, σ')) : xMi l yL_drop wsL_drop rm_L_drop_0_75 G ad σ [.ref (ad 0), .int a1, .int a2, .ref (ad 75)] r σ' := by
  intro sz nb a g hs
  refine z_ofWH (cc := cL_drop) (maxL := 5) (ret := (some .int)) (by decide) rfl ?_
  intro p e s m args below meth c s₁ B hml hv
  obtain ⟨rfl, hsz, hv⟩ := hv
  have hx := B.exec
  have hb := B.bytes
  have hr := B.returns
  have hts := atoms_spec (ws := wsL_drop) B.pre
  have hown : s.vm.findClass RL = some m.cls := findClass_of_methodNamed B.named
  have hlocks := B.notSynchronized
  subst hsz
  have htab : c.exceptionTable.toList = [⟨0, 10, 13, 13⟩, ⟨0, 10, 17, 35⟩] := vx_table (x := yL_drop) B (hts (.codeWith yL_drop cL_drop 5 (some .int) [(0, 10, 13, 13), (0, 10, 17, 35)]) List.mem_cons_self)
  have B := xB_start hs hv
  have hl := lv_entry ([.ref (ad 0), .int a1, .int a2, .ref (ad 75)]) (n := 5) (Nat.le_of_ble_eq_true rfl)
  rw [lg_entry_eq]
  generalize (lg_sl ([.ref (ad 0), .int a1, .int a2, .ref (ad 75)]) ++ List.replicate (5 - (lg_sl ([.ref (ad 0), .int a1, .int a2, .ref (ad 75)])).length) Slot.unset).toArray = ls at hl ⊢
  have hl : lv_has ls 5 [(0, .ref (ad 0)), (1, .int a1), (2, .int a2), (3, .ref (ad 75))] := hl
  generalize hAe : xA ad a s.heap.size = A at B ⊢
  unfold f_L_drop_0_75 at hf
  refine lv_aload_n hx hb dL_drop_0 rfl (lv_at hl 3 rfl) ?_
  refine lv_iconst (v := (0 : Int32)) hx hb dL_drop_1 (by decide) ?_
  refine lv_aload_n hx hb dL_drop_2 rfl (lv_at hl 0 rfl) ?_
  refine lv_iload_n hx hb dL_drop_3 rfl (lv_at hl 1 rfl) ?_
  refine lv_iload_n hx hb dL_drop_4 rfl (lv_at hl 2 rfl) ?_
  obtain ⟨u1, r2, σ3, hu1, hf⟩ := zc_some hf
  refine x_xi B (fun nb a g hs Bz => vx_runV (As := [.int a1, .int a2]) (rest := [.int (0 : Int32), .ref (ad 75)]) ⟨hx, hb, hml, hown, hts⟩ (c_X8_drop l hfl hu1 _ nb a g hs) (cwV 2 hts gL_drop_X8_drop rfl rfl rfl (by decide +kernel) ⟨Nat.le_of_ble_eq_true rfl, Nat.le_of_ble_eq_true rfl⟩) (x_preV Bz (by decide) (fun _ => rfl) rfl) rfl rfl hl.1 rfl (lv_room (Nat.le_of_ble_eq_true rfl)) dL_drop_5 ⟨Nat.le_of_ble_eq_true rfl, Nat.le_of_ble_eq_true rfl⟩) (fun H locs ce q9 h0 B k1 k2 k3 => ?_) (fun H locs h0 B => ?_)
  · have hf := zx_no hf h0
    by_cases he1 : u1 = 1
    · have hf := zif_t he1 hf
      subst he1
      refine vx_catch (E := "java/lang/IndexOutOfBoundsException") (name := "java/lang/IndexOutOfBoundsException") hown [] ⟨0, 10, 13, 13⟩ [⟨0, 10, 17, 35⟩] htab (fun z hz => by cases hz) (by decide) (by decide) (hts (.classLink RL 13 "java/lang/IndexOutOfBoundsException") (by decide +kernel)) (((xT B).castable (by decide +kernel)).use rfl) k1 k2 k3 ?_
      refine lv_astore (lv' := [(4, .ref q9), (0, .ref (ad 0)), (1, .int a1), (2, .int a2), (3, .ref (ad 75))]) hx hb dL_drop_13 hl (by decide) rfl (fun ls hl => ?_)
      refine lv_iconst (v := (1 : Int32)) hx hb dL_drop_15 (by decide) ?_
      refine W.widen (k := 3) (n := 18) (Nat.le_of_ble_eq_true rfl) (Nat.le_of_ble_eq_true rfl) ?_
      exact x_iret hx hb hr rfl hlocks B hf dL_drop_16
    have hf := zif_f he1 hf
    by_cases he5 : u1 = 5
    · have hf := zif_t he5 hf
      subst he5
      refine vx_catch (E := "java/util/NoSuchElementException") (name := "java/util/NoSuchElementException") hown [⟨0, 10, 13, 13⟩] ⟨0, 10, 17, 35⟩ [] htab (fun z hz => by simp only [List.mem_cons, List.not_mem_nil, or_false] at hz; rcases hz with rfl <;> first | exact Or.inr ⟨by decide, _, hts (.classLink RL 13 "java/lang/IndexOutOfBoundsException") (by decide +kernel), (xT B).apart (by decide +kernel) (by decide +kernel) (by decide +kernel)⟩) (by decide) (by decide) (hts (.classLink RL 35 "java/util/NoSuchElementException") (by decide +kernel)) (((xT B).castable (by decide +kernel)).use rfl) k1 k2 k3 ?_
      refine lv_astore (lv' := [(4, .ref q9), (0, .ref (ad 0)), (1, .int a1), (2, .int a2), (3, .ref (ad 75))]) hx hb dL_drop_17 hl (by decide) rfl (fun ls hl => ?_)
      refine lv_iconst (v := (2 : Int32)) hx hb dL_drop_19 (by decide) ?_
      refine W.widen (k := 3) (n := 18) (Nat.le_of_ble_eq_true rfl) (Nat.le_of_ble_eq_true rfl) ?_
      exact x_iret hx hb hr rfl hlocks B hf dL_drop_20
    have hf := zif_f he5 hf
    cases hf
  have hf := zx_ok hf h0
  refine lv_i2l (v := r2.toInt64) hx hb dL_drop_8 rfl ?_
  obtain ⟨hg, hf⟩ := zg_some hf
  refine x_last hx hb B 75 rfl (by decide) (by decide) (fun _ => rfl) (zin_ok hg) dL_drop_9 (fun H locs B => ?_)
  refine lv_goto (tgt := 21) hx hb dL_drop_10 (by decide) ?_
  refine lv_iconst (v := (0 : Int32)) hx hb dL_drop_21 (by decide) ?_
  refine W.widen (k := 3) (n := 18) (Nat.le_of_ble_eq_true rfl) (Nat.le_of_ble_eq_true rfl) ?_
  exact x_iret hx hb hr rfl hlocks B hf dL_drop_22
theorem dL_revoke_0 : decode cL_revoke 0 = .ok (.aload_n 3, 1) := by decide +kernel
theorem dL_revoke_1 : decode cL_revoke 1 = .ok (.iconst 0, 1) := by decide +kernel
theorem dL_revoke_2 : decode cL_revoke 2 = .ok (.aload_n 0, 1) := by decide +kernel
theorem dL_revoke_3 : decode cL_revoke 3 = .ok (.iload_n 1, 1) := by decide +kernel
theorem dL_revoke_4 : decode cL_revoke 4 = .ok (.iload_n 2, 1) := by decide +kernel
theorem dL_revoke_5 : decode cL_revoke 5 = .ok (.invokevirtual 37, 3) := by decide +kernel
theorem dL_revoke_8 : decode cL_revoke 8 = .ok (.i2l, 1) := by decide +kernel
theorem dL_revoke_9 : decode cL_revoke 9 = .ok (.lastore, 1) := by decide +kernel
theorem dL_revoke_10 : decode cL_revoke 10 = .ok (.goto 11, 3) := by decide +kernel
theorem dL_revoke_13 : decode cL_revoke 13 = .ok (.astore 4, 2) := by decide +kernel
theorem dL_revoke_15 : decode cL_revoke 15 = .ok (.iconst 1, 1) := by decide +kernel
theorem dL_revoke_16 : decode cL_revoke 16 = .ok (.ireturn, 1) := by decide +kernel
theorem dL_revoke_17 : decode cL_revoke 17 = .ok (.astore 4, 2) := by decide +kernel
theorem dL_revoke_19 : decode cL_revoke 19 = .ok (.iconst 2, 1) := by decide +kernel
theorem dL_revoke_20 : decode cL_revoke 20 = .ok (.ireturn, 1) := by decide +kernel
theorem dL_revoke_21 : decode cL_revoke 21 = .ok (.iconst 0, 1) := by decide +kernel
theorem dL_revoke_22 : decode cL_revoke 22 = .ok (.ireturn, 1) := by decide +kernel
set_option maxRecDepth 20000 in
theorem ggL_revoke_X8_revoke : GoodIn wsL_revoke wsX8_revoke := goodIn_ca (goodIn_ca (goodIn_ca (goodIn_r _ [7, 8, 9, 10, 11, 12, 13, 6, 14, 15, 16, 17, 18, 19, 20, 21, 22, 23, 24, 25, 26, 27, 28, 29, 30, 31, 32, 33, 34, 35, 36, 37, 38, 39, 40, 41, 42, 43, 44, 45, 46, 47, 48, 49, 50, 51, 52, 53, 54, 55, 56, 57, 58, 59, 60, 61, 62, 63, 64, 65, 66, 67, 68, 69, 70, 71, 72, 73, 74, 75, 76, 77, 78, 79, 80, 81, 82, 83, 84, 85, 86, 87, 88, 89, 90, 91, 92, 93, 94, 95, 96, 97, 98, 99, 100, 101, 102, 103, 104, 105, 106, 107] (by decide +kernel) (by decide +kernel)) (goodIn_sub (fun _ h => List.mem_cons_of_mem _ (List.mem_append_left _ (List.mem_append_left _ (List.mem_append_right _ h)))) (by decide +kernel))) (goodIn_sub (fun _ h => List.mem_cons_of_mem _ (List.mem_append_left _ (List.mem_append_right _ h))) (by decide +kernel))) (goodIn_sub (fun _ h => List.mem_cons_of_mem _ (List.mem_append_right _ h)) (by decide +kernel))
set_option maxRecDepth 20000 in
theorem gL_revoke_X8_revoke : GoodIn wsL_revoke (wsV RL 37 RX8 yX8_revoke wsX8_revoke) := goodIn_app (goodIn_of _ (by decide +kernel)) ggL_revoke_X8_revoke
def rm_L_revoke_0_75 : Room := { frames := 11, cells := 3, slots := 18, locals := 265 }
set_option maxHeartbeats 4000000 in
set_option maxRecDepth 100000 in
theorem c_L_revoke_0_75 (l : Launch) (hfl : l.stackTraces = false) {G : zG} {ad : Nat → Nat} {σ σ' : zs} {a1 a2 : Int32} {r : Int32} (hf : f_L_revoke_0_75 σ a1 a2 = some (r, σ')) : xMi l yL_revoke wsL_revoke rm_L_revoke_0_75 G ad σ [.ref (ad 0), .int a1, .int a2, .ref (ad 75)] r σ' := by
  intro sz nb a g hs
  refine z_ofWH (cc := cL_revoke) (maxL := 5) (ret := (some .int)) (by decide) rfl ?_
  intro p e s m args below meth c s₁ B hml hv
  obtain ⟨rfl, hsz, hv⟩ := hv
  have hx := B.exec
  have hb := B.bytes
  have hr := B.returns
  have hts := atoms_spec (ws := wsL_revoke) B.pre
  have hown : s.vm.findClass RL = some m.cls := findClass_of_methodNamed B.named
  have hlocks := B.notSynchronized
  subst hsz
  have htab : c.exceptionTable.toList = [⟨0, 10, 13, 13⟩, ⟨0, 10, 17, 27⟩] := vx_table (x := yL_revoke) B (hts (.codeWith yL_revoke cL_revoke 5 (some .int) [(0, 10, 13, 13), (0, 10, 17, 27)]) List.mem_cons_self)
  have B := xB_start hs hv
  have hl := lv_entry ([.ref (ad 0), .int a1, .int a2, .ref (ad 75)]) (n := 5) (Nat.le_of_ble_eq_true rfl)
  rw [lg_entry_eq]
  generalize (lg_sl ([.ref (ad 0), .int a1, .int a2, .ref (ad 75)]) ++ List.replicate (5 - (lg_sl ([.ref (ad 0), .int a1, .int a2, .ref (ad 75)])).length) Slot.unset).toArray = ls at hl ⊢
  have hl : lv_has ls 5 [(0, .ref (ad 0)), (1, .int a1), (2, .int a2), (3, .ref (ad 75))] := hl
  generalize hAe : xA ad a s.heap.size = A at B ⊢
  unfold f_L_revoke_0_75 at hf
  refine lv_aload_n hx hb dL_revoke_0 rfl (lv_at hl 3 rfl) ?_
  refine lv_iconst (v := (0 : Int32)) hx hb dL_revoke_1 (by decide) ?_
  refine lv_aload_n hx hb dL_revoke_2 rfl (lv_at hl 0 rfl) ?_
  refine lv_iload_n hx hb dL_revoke_3 rfl (lv_at hl 1 rfl) ?_
  refine lv_iload_n hx hb dL_revoke_4 rfl (lv_at hl 2 rfl) ?_
  obtain ⟨u1, r2, σ3, hu1, hf⟩ := zc_some hf
  refine x_xi B (fun nb a g hs Bz => vx_runV (As := [.int a1, .int a2]) (rest := [.int (0 : Int32), .ref (ad 75)]) ⟨hx, hb, hml, hown, hts⟩ (c_X8_revoke l hfl hu1 _ nb a g hs) (cwV 2 hts gL_revoke_X8_revoke rfl rfl rfl (by decide +kernel) ⟨Nat.le_of_ble_eq_true rfl, Nat.le_of_ble_eq_true rfl⟩) (x_preV Bz (by decide) (fun _ => rfl) rfl) rfl rfl hl.1 rfl (lv_room (Nat.le_of_ble_eq_true rfl)) dL_revoke_5 ⟨Nat.le_of_ble_eq_true rfl, Nat.le_of_ble_eq_true rfl⟩) (fun H locs ce q9 h0 B k1 k2 k3 => ?_) (fun H locs h0 B => ?_)
  · have hf := zx_no hf h0
    by_cases he1 : u1 = 1
    · have hf := zif_t he1 hf
      subst he1
      refine vx_catch (E := "java/lang/IndexOutOfBoundsException") (name := "java/lang/IndexOutOfBoundsException") hown [] ⟨0, 10, 13, 13⟩ [⟨0, 10, 17, 27⟩] htab (fun z hz => by cases hz) (by decide) (by decide) (hts (.classLink RL 13 "java/lang/IndexOutOfBoundsException") (by decide +kernel)) (((xT B).castable (by decide +kernel)).use rfl) k1 k2 k3 ?_
      refine lv_astore (lv' := [(4, .ref q9), (0, .ref (ad 0)), (1, .int a1), (2, .int a2), (3, .ref (ad 75))]) hx hb dL_revoke_13 hl (by decide) rfl (fun ls hl => ?_)
      refine lv_iconst (v := (1 : Int32)) hx hb dL_revoke_15 (by decide) ?_
      refine W.widen (k := 3) (n := 18) (Nat.le_of_ble_eq_true rfl) (Nat.le_of_ble_eq_true rfl) ?_
      exact x_iret hx hb hr rfl hlocks B hf dL_revoke_16
    have hf := zif_f he1 hf
    by_cases he4 : u1 = 4
    · have hf := zif_t he4 hf
      subst he4
      refine vx_catch (E := "java/lang/UnsupportedOperationException") (name := "java/lang/UnsupportedOperationException") hown [⟨0, 10, 13, 13⟩] ⟨0, 10, 17, 27⟩ [] htab (fun z hz => by simp only [List.mem_cons, List.not_mem_nil, or_false] at hz; rcases hz with rfl <;> first | exact Or.inr ⟨by decide, _, hts (.classLink RL 13 "java/lang/IndexOutOfBoundsException") (by decide +kernel), (xT B).apart (by decide +kernel) (by decide +kernel) (by decide +kernel)⟩) (by decide) (by decide) (hts (.classLink RL 27 "java/lang/UnsupportedOperationException") (by decide +kernel)) (((xT B).castable (by decide +kernel)).use rfl) k1 k2 k3 ?_
      refine lv_astore (lv' := [(4, .ref q9), (0, .ref (ad 0)), (1, .int a1), (2, .int a2), (3, .ref (ad 75))]) hx hb dL_revoke_17 hl (by decide) rfl (fun ls hl => ?_)
      refine lv_iconst (v := (2 : Int32)) hx hb dL_revoke_19 (by decide) ?_
      refine W.widen (k := 3) (n := 18) (Nat.le_of_ble_eq_true rfl) (Nat.le_of_ble_eq_true rfl) ?_
      exact x_iret hx hb hr rfl hlocks B hf dL_revoke_20
    have hf := zif_f he4 hf
    cases hf
  have hf := zx_ok hf h0
  refine lv_i2l (v := r2.toInt64) hx hb dL_revoke_8 rfl ?_
  obtain ⟨hg, hf⟩ := zg_some hf
  refine x_last hx hb B 75 rfl (by decide) (by decide) (fun _ => rfl) (zin_ok hg) dL_revoke_9 (fun H locs B => ?_)
  refine lv_goto (tgt := 21) hx hb dL_revoke_10 (by decide) ?_
  refine lv_iconst (v := (0 : Int32)) hx hb dL_revoke_21 (by decide) ?_
  refine W.widen (k := 3) (n := 18) (Nat.le_of_ble_eq_true rfl) (Nat.le_of_ble_eq_true rfl) ?_
  exact x_iret hx hb hr rfl hlocks B hf dL_revoke_22
theorem dL_token_0 : decode cL_token 0 = .ok (.aload_n 3, 1) := by decide +kernel
theorem dL_token_1 : decode cL_token 1 = .ok (.iconst 0, 1) := by decide +kernel
theorem dL_token_2 : decode cL_token 2 = .ok (.aload_n 0, 1) := by decide +kernel
theorem dL_token_3 : decode cL_token 3 = .ok (.iload_n 1, 1) := by decide +kernel
theorem dL_token_4 : decode cL_token 4 = .ok (.iload_n 2, 1) := by decide +kernel
theorem dL_token_5 : decode cL_token 5 = .ok (.invokevirtual 40, 3) := by decide +kernel
theorem dL_token_8 : decode cL_token 8 = .ok (.i2l, 1) := by decide +kernel
theorem dL_token_9 : decode cL_token 9 = .ok (.lastore, 1) := by decide +kernel
theorem dL_token_10 : decode cL_token 10 = .ok (.goto 11, 3) := by decide +kernel
theorem dL_token_13 : decode cL_token 13 = .ok (.astore 4, 2) := by decide +kernel
theorem dL_token_15 : decode cL_token 15 = .ok (.iconst 1, 1) := by decide +kernel
theorem dL_token_16 : decode cL_token 16 = .ok (.ireturn, 1) := by decide +kernel
theorem dL_token_17 : decode cL_token 17 = .ok (.astore 4, 2) := by decide +kernel
theorem dL_token_19 : decode cL_token 19 = .ok (.iconst 2, 1) := by decide +kernel
theorem dL_token_20 : decode cL_token 20 = .ok (.ireturn, 1) := by decide +kernel
theorem dL_token_21 : decode cL_token 21 = .ok (.iconst 0, 1) := by decide +kernel
theorem dL_token_22 : decode cL_token 22 = .ok (.ireturn, 1) := by decide +kernel
set_option maxRecDepth 20000 in
theorem ggL_token_X8_token : GoodIn wsL_token wsX8_token := goodIn_ca (goodIn_ca (goodIn_ca (goodIn_r _ [7, 8, 9, 10, 11, 12, 13, 14, 15, 16, 6, 17, 18, 19, 20, 21, 22, 23, 24, 25, 26, 27, 28, 29, 30, 31, 32, 33, 34, 35, 36, 37, 38, 39, 40, 41, 42, 43, 44, 45, 46, 47, 48, 49, 50, 51, 52, 53, 54, 55, 56, 57, 58, 59, 60, 61, 62, 63, 64, 65, 66, 67, 68, 69, 70, 71, 72, 73, 74] (by decide +kernel) (by decide +kernel)) (goodIn_sub (fun _ h => List.mem_cons_of_mem _ (List.mem_append_left _ (List.mem_append_left _ (List.mem_append_right _ h)))) (by decide +kernel))) (goodIn_sub (fun _ h => List.mem_cons_of_mem _ (List.mem_append_left _ (List.mem_append_right _ h))) (by decide +kernel))) (goodIn_sub (fun _ h => List.mem_cons_of_mem _ (List.mem_append_right _ h)) (by decide +kernel))
set_option maxRecDepth 20000 in
theorem gL_token_X8_token : GoodIn wsL_token (wsV RL 40 RX8 yX8_token wsX8_token) := goodIn_app (goodIn_of _ (by decide +kernel)) ggL_token_X8_token
def rm_L_token_0_75 : Room := { frames := 11, cells := 2, slots := 12, locals := 264 }
set_option maxHeartbeats 4000000 in
set_option maxRecDepth 100000 in
theorem c_L_token_0_75 (l : Launch) (hfl : l.stackTraces = false) {G : zG} {ad : Nat → Nat} {σ σ' : zs} {a1 a2 : Int32} {r : Int32} (hf : f_L_token_0_75 σ a1 a2 = some (r, σ')) : xMi l yL_token wsL_token rm_L_token_0_75 G ad σ [.ref (ad 0), .int a1, .int a2, .ref (ad 75)] r σ' := by
  intro sz nb a g hs
  refine z_ofWH (cc := cL_token) (maxL := 5) (ret := (some .int)) (by decide) rfl ?_
  intro p e s m args below meth c s₁ B hml hv
  obtain ⟨rfl, hsz, hv⟩ := hv
  have hx := B.exec
  have hb := B.bytes
  have hr := B.returns
  have hts := atoms_spec (ws := wsL_token) B.pre
  have hown : s.vm.findClass RL = some m.cls := findClass_of_methodNamed B.named
  have hlocks := B.notSynchronized
  subst hsz
  have htab : c.exceptionTable.toList = [⟨0, 10, 13, 13⟩, ⟨0, 10, 17, 15⟩] := vx_table (x := yL_token) B (hts (.codeWith yL_token cL_token 5 (some .int) [(0, 10, 13, 13), (0, 10, 17, 15)]) List.mem_cons_self)
  have B := xB_start hs hv
  have hl := lv_entry ([.ref (ad 0), .int a1, .int a2, .ref (ad 75)]) (n := 5) (Nat.le_of_ble_eq_true rfl)
  rw [lg_entry_eq]
  generalize (lg_sl ([.ref (ad 0), .int a1, .int a2, .ref (ad 75)]) ++ List.replicate (5 - (lg_sl ([.ref (ad 0), .int a1, .int a2, .ref (ad 75)])).length) Slot.unset).toArray = ls at hl ⊢
  have hl : lv_has ls 5 [(0, .ref (ad 0)), (1, .int a1), (2, .int a2), (3, .ref (ad 75))] := hl
  generalize hAe : xA ad a s.heap.size = A at B ⊢
  unfold f_L_token_0_75 at hf
  refine lv_aload_n hx hb dL_token_0 rfl (lv_at hl 3 rfl) ?_
  refine lv_iconst (v := (0 : Int32)) hx hb dL_token_1 (by decide) ?_
  refine lv_aload_n hx hb dL_token_2 rfl (lv_at hl 0 rfl) ?_
  refine lv_iload_n hx hb dL_token_3 rfl (lv_at hl 1 rfl) ?_
  refine lv_iload_n hx hb dL_token_4 rfl (lv_at hl 2 rfl) ?_
  obtain ⟨u1, r2, σ3, hu1, hf⟩ := zc_some hf
  refine x_xi B (fun nb a g hs Bz => vx_runV (As := [.int a1, .int a2]) (rest := [.int (0 : Int32), .ref (ad 75)]) ⟨hx, hb, hml, hown, hts⟩ (c_X8_token l hfl hu1 _ nb a g hs) (cwV 2 hts gL_token_X8_token rfl rfl rfl (by decide +kernel) ⟨Nat.le_of_ble_eq_true rfl, Nat.le_of_ble_eq_true rfl⟩) (x_preV Bz (by decide) (fun _ => rfl) rfl) rfl rfl hl.1 rfl (lv_room (Nat.le_of_ble_eq_true rfl)) dL_token_5 ⟨Nat.le_of_ble_eq_true rfl, Nat.le_of_ble_eq_true rfl⟩) (fun H locs ce q9 h0 B k1 k2 k3 => ?_) (fun H locs h0 B => ?_)
  · have hf := zx_no hf h0
    by_cases he1 : u1 = 1
    · have hf := zif_t he1 hf
      subst he1
      refine vx_catch (E := "java/lang/IndexOutOfBoundsException") (name := "java/lang/IndexOutOfBoundsException") hown [] ⟨0, 10, 13, 13⟩ [⟨0, 10, 17, 15⟩] htab (fun z hz => by cases hz) (by decide) (by decide) (hts (.classLink RL 13 "java/lang/IndexOutOfBoundsException") (by decide +kernel)) (((xT B).castable (by decide +kernel)).use rfl) k1 k2 k3 ?_
      refine lv_astore (lv' := [(4, .ref q9), (0, .ref (ad 0)), (1, .int a1), (2, .int a2), (3, .ref (ad 75))]) hx hb dL_token_13 hl (by decide) rfl (fun ls hl => ?_)
      refine lv_iconst (v := (1 : Int32)) hx hb dL_token_15 (by decide) ?_
      refine W.widen (k := 2) (n := 12) (Nat.le_of_ble_eq_true rfl) (Nat.le_of_ble_eq_true rfl) ?_
      exact x_iret hx hb hr rfl hlocks B hf dL_token_16
    have hf := zif_f he1 hf
    by_cases he2 : u1 = 2
    · have hf := zif_t he2 hf
      subst he2
      refine vx_catch (E := "java/lang/IllegalArgumentException") (name := "java/lang/IllegalArgumentException") hown [⟨0, 10, 13, 13⟩] ⟨0, 10, 17, 15⟩ [] htab (fun z hz => by simp only [List.mem_cons, List.not_mem_nil, or_false] at hz; rcases hz with rfl <;> first | exact Or.inr ⟨by decide, _, hts (.classLink RL 13 "java/lang/IndexOutOfBoundsException") (by decide +kernel), (xT B).apart (by decide +kernel) (by decide +kernel) (by decide +kernel)⟩) (by decide) (by decide) (hts (.classLink RL 15 "java/lang/IllegalArgumentException") (by decide +kernel)) (((xT B).castable (by decide +kernel)).use rfl) k1 k2 k3 ?_
      refine lv_astore (lv' := [(4, .ref q9), (0, .ref (ad 0)), (1, .int a1), (2, .int a2), (3, .ref (ad 75))]) hx hb dL_token_17 hl (by decide) rfl (fun ls hl => ?_)
      refine lv_iconst (v := (2 : Int32)) hx hb dL_token_19 (by decide) ?_
      refine W.widen (k := 2) (n := 12) (Nat.le_of_ble_eq_true rfl) (Nat.le_of_ble_eq_true rfl) ?_
      exact x_iret hx hb hr rfl hlocks B hf dL_token_20
    have hf := zif_f he2 hf
    cases hf
  have hf := zx_ok hf h0
  refine lv_i2l (v := r2.toInt64) hx hb dL_token_8 rfl ?_
  obtain ⟨hg, hf⟩ := zg_some hf
  refine x_last hx hb B 75 rfl (by decide) (by decide) (fun _ => rfl) (zin_ok hg) dL_token_9 (fun H locs B => ?_)
  refine lv_goto (tgt := 21) hx hb dL_token_10 (by decide) ?_
  refine lv_iconst (v := (0 : Int32)) hx hb dL_token_21 (by decide) ?_
  refine W.widen (k := 2) (n := 12) (Nat.le_of_ble_eq_true rfl) (Nat.le_of_ble_eq_true rfl) ?_
  exact x_iret hx hb hr rfl hlocks B hf dL_token_22
theorem dL_caveat_0 : decode cL_caveat 0 = .ok (.aload 4, 2) := by decide +kernel
theorem dL_caveat_2 : decode cL_caveat 2 = .ok (.iconst 0, 1) := by decide +kernel
theorem dL_caveat_3 : decode cL_caveat 3 = .ok (.aload_n 0, 1) := by decide +kernel
theorem dL_caveat_4 : decode cL_caveat 4 = .ok (.iload_n 1, 1) := by decide +kernel
theorem dL_caveat_5 : decode cL_caveat 5 = .ok (.iload_n 2, 1) := by decide +kernel
theorem dL_caveat_6 : decode cL_caveat 6 = .ok (.iload_n 3, 1) := by decide +kernel
theorem dL_caveat_7 : decode cL_caveat 7 = .ok (.invokevirtual 43, 3) := by decide +kernel
theorem dL_caveat_10 : decode cL_caveat 10 = .ok (.i2l, 1) := by decide +kernel
theorem dL_caveat_11 : decode cL_caveat 11 = .ok (.lastore, 1) := by decide +kernel
theorem dL_caveat_12 : decode cL_caveat 12 = .ok (.goto 11, 3) := by decide +kernel
theorem dL_caveat_15 : decode cL_caveat 15 = .ok (.astore 5, 2) := by decide +kernel
theorem dL_caveat_17 : decode cL_caveat 17 = .ok (.iconst 1, 1) := by decide +kernel
theorem dL_caveat_18 : decode cL_caveat 18 = .ok (.ireturn, 1) := by decide +kernel
theorem dL_caveat_19 : decode cL_caveat 19 = .ok (.astore 5, 2) := by decide +kernel
theorem dL_caveat_21 : decode cL_caveat 21 = .ok (.iconst 2, 1) := by decide +kernel
theorem dL_caveat_22 : decode cL_caveat 22 = .ok (.ireturn, 1) := by decide +kernel
theorem dL_caveat_23 : decode cL_caveat 23 = .ok (.iconst 0, 1) := by decide +kernel
theorem dL_caveat_24 : decode cL_caveat 24 = .ok (.ireturn, 1) := by decide +kernel
set_option maxRecDepth 20000 in
theorem ggL_caveat_X8_caveat : GoodIn wsL_caveat wsX8_caveat := goodIn_ca (goodIn_ca (goodIn_ca (goodIn_r _ [7, 8, 9, 10, 11, 12, 13, 14, 15, 16, 6, 17, 18, 19, 20, 21, 22, 23, 24, 25, 26, 27, 28, 29, 30, 31, 32, 33, 34, 35, 36, 37, 38, 39, 40, 41, 42, 43, 44, 45, 46, 47, 48, 49, 50, 51, 52, 53, 54, 55, 56] (by decide +kernel) (by decide +kernel)) (goodIn_sub (fun _ h => List.mem_cons_of_mem _ (List.mem_append_left _ (List.mem_append_left _ (List.mem_append_right _ h)))) (by decide +kernel))) (goodIn_sub (fun _ h => List.mem_cons_of_mem _ (List.mem_append_left _ (List.mem_append_right _ h))) (by decide +kernel))) (goodIn_sub (fun _ h => List.mem_cons_of_mem _ (List.mem_append_right _ h)) (by decide +kernel))
set_option maxRecDepth 20000 in
theorem gL_caveat_X8_caveat : GoodIn wsL_caveat (wsV RL 43 RX8 yX8_caveat wsX8_caveat) := goodIn_app (goodIn_of _ (by decide +kernel)) ggL_caveat_X8_caveat
def rm_L_caveat_0_75 : Room := { frames := 11, cells := 3, slots := 18, locals := 265 }
set_option maxHeartbeats 4000000 in
set_option maxRecDepth 100000 in
theorem c_L_caveat_0_75 (l : Launch) (hfl : l.stackTraces = false) {G : zG} {ad : Nat → Nat} {σ σ' : zs} {a1 a2 a3 : Int32} {r : Int32} (hf : f_L_caveat_0_75 σ a1 a2 a3 = some (r, σ')) : xMi l yL_caveat wsL_caveat rm_L_caveat_0_75 G ad σ [.ref (ad 0), .int a1, .int a2, .int a3, .ref (ad 75)] r σ' := by
  intro sz nb a g hs
  refine z_ofWH (cc := cL_caveat) (maxL := 6) (ret := (some .int)) (by decide) rfl ?_
  intro p e s m args below meth c s₁ B hml hv
  obtain ⟨rfl, hsz, hv⟩ := hv
  have hx := B.exec
  have hb := B.bytes
  have hr := B.returns
  have hts := atoms_spec (ws := wsL_caveat) B.pre
  have hown : s.vm.findClass RL = some m.cls := findClass_of_methodNamed B.named
  have hlocks := B.notSynchronized
  subst hsz
  have htab : c.exceptionTable.toList = [⟨0, 12, 15, 13⟩, ⟨0, 12, 19, 15⟩] := vx_table (x := yL_caveat) B (hts (.codeWith yL_caveat cL_caveat 6 (some .int) [(0, 12, 15, 13), (0, 12, 19, 15)]) List.mem_cons_self)
  have B := xB_start hs hv
  have hl := lv_entry ([.ref (ad 0), .int a1, .int a2, .int a3, .ref (ad 75)]) (n := 6) (Nat.le_of_ble_eq_true rfl)
  rw [lg_entry_eq]
  generalize (lg_sl ([.ref (ad 0), .int a1, .int a2, .int a3, .ref (ad 75)]) ++ List.replicate (6 - (lg_sl ([.ref (ad 0), .int a1, .int a2, .int a3, .ref (ad 75)])).length) Slot.unset).toArray = ls at hl ⊢
  have hl : lv_has ls 6 [(0, .ref (ad 0)), (1, .int a1), (2, .int a2), (3, .int a3), (4, .ref (ad 75))] := hl
  generalize hAe : xA ad a s.heap.size = A at B ⊢
  unfold f_L_caveat_0_75 at hf
  refine lv_aload hx hb dL_caveat_0 (lv_at hl 4 rfl) ?_
  refine lv_iconst (v := (0 : Int32)) hx hb dL_caveat_2 (by decide) ?_
  refine lv_aload_n hx hb dL_caveat_3 rfl (lv_at hl 0 rfl) ?_
  refine lv_iload_n hx hb dL_caveat_4 rfl (lv_at hl 1 rfl) ?_
  refine lv_iload_n hx hb dL_caveat_5 rfl (lv_at hl 2 rfl) ?_
  refine lv_iload_n hx hb dL_caveat_6 rfl (lv_at hl 3 rfl) ?_
  obtain ⟨u1, r2, σ3, hu1, hf⟩ := zc_some hf
  refine x_xi B (fun nb a g hs Bz => vx_runV (As := [.int a1, .int a2, .int a3]) (rest := [.int (0 : Int32), .ref (ad 75)]) ⟨hx, hb, hml, hown, hts⟩ (c_X8_caveat l hfl hu1 _ nb a g hs) (cwV 3 hts gL_caveat_X8_caveat rfl rfl rfl (by decide +kernel) ⟨Nat.le_of_ble_eq_true rfl, Nat.le_of_ble_eq_true rfl⟩) (x_preV Bz (by decide) (fun _ => rfl) rfl) rfl rfl hl.1 rfl (lv_room (Nat.le_of_ble_eq_true rfl)) dL_caveat_7 ⟨Nat.le_of_ble_eq_true rfl, Nat.le_of_ble_eq_true rfl⟩) (fun H locs ce q9 h0 B k1 k2 k3 => ?_) (fun H locs h0 B => ?_)
  · have hf := zx_no hf h0
    by_cases he1 : u1 = 1
    · have hf := zif_t he1 hf
      subst he1
      refine vx_catch (E := "java/lang/IndexOutOfBoundsException") (name := "java/lang/IndexOutOfBoundsException") hown [] ⟨0, 12, 15, 13⟩ [⟨0, 12, 19, 15⟩] htab (fun z hz => by cases hz) (by decide) (by decide) (hts (.classLink RL 13 "java/lang/IndexOutOfBoundsException") (by decide +kernel)) (((xT B).castable (by decide +kernel)).use rfl) k1 k2 k3 ?_
      refine lv_astore (lv' := [(5, .ref q9), (0, .ref (ad 0)), (1, .int a1), (2, .int a2), (3, .int a3), (4, .ref (ad 75))]) hx hb dL_caveat_15 hl (by decide) rfl (fun ls hl => ?_)
      refine lv_iconst (v := (1 : Int32)) hx hb dL_caveat_17 (by decide) ?_
      refine W.widen (k := 3) (n := 18) (Nat.le_of_ble_eq_true rfl) (Nat.le_of_ble_eq_true rfl) ?_
      exact x_iret hx hb hr rfl hlocks B hf dL_caveat_18
    have hf := zif_f he1 hf
    by_cases he2 : u1 = 2
    · have hf := zif_t he2 hf
      subst he2
      refine vx_catch (E := "java/lang/IllegalArgumentException") (name := "java/lang/IllegalArgumentException") hown [⟨0, 12, 15, 13⟩] ⟨0, 12, 19, 15⟩ [] htab (fun z hz => by simp only [List.mem_cons, List.not_mem_nil, or_false] at hz; rcases hz with rfl <;> first | exact Or.inr ⟨by decide, _, hts (.classLink RL 13 "java/lang/IndexOutOfBoundsException") (by decide +kernel), (xT B).apart (by decide +kernel) (by decide +kernel) (by decide +kernel)⟩) (by decide) (by decide) (hts (.classLink RL 15 "java/lang/IllegalArgumentException") (by decide +kernel)) (((xT B).castable (by decide +kernel)).use rfl) k1 k2 k3 ?_
      refine lv_astore (lv' := [(5, .ref q9), (0, .ref (ad 0)), (1, .int a1), (2, .int a2), (3, .int a3), (4, .ref (ad 75))]) hx hb dL_caveat_19 hl (by decide) rfl (fun ls hl => ?_)
      refine lv_iconst (v := (2 : Int32)) hx hb dL_caveat_21 (by decide) ?_
      refine W.widen (k := 3) (n := 18) (Nat.le_of_ble_eq_true rfl) (Nat.le_of_ble_eq_true rfl) ?_
      exact x_iret hx hb hr rfl hlocks B hf dL_caveat_22
    have hf := zif_f he2 hf
    cases hf
  have hf := zx_ok hf h0
  refine lv_i2l (v := r2.toInt64) hx hb dL_caveat_10 rfl ?_
  obtain ⟨hg, hf⟩ := zg_some hf
  refine x_last hx hb B 75 rfl (by decide) (by decide) (fun _ => rfl) (zin_ok hg) dL_caveat_11 (fun H locs B => ?_)
  refine lv_goto (tgt := 23) hx hb dL_caveat_12 (by decide) ?_
  refine lv_iconst (v := (0 : Int32)) hx hb dL_caveat_23 (by decide) ?_
  refine W.widen (k := 3) (n := 18) (Nat.le_of_ble_eq_true rfl) (Nat.le_of_ble_eq_true rfl) ?_
  exact x_iret hx hb hr rfl hlocks B hf dL_caveat_24
theorem dL_left_0 : decode cL_left 0 = .ok (.aload_n 3, 1) := by decide +kernel
theorem dL_left_1 : decode cL_left 1 = .ok (.iconst 0, 1) := by decide +kernel
theorem dL_left_2 : decode cL_left 2 = .ok (.aload_n 0, 1) := by decide +kernel
theorem dL_left_3 : decode cL_left 3 = .ok (.iload_n 1, 1) := by decide +kernel
theorem dL_left_4 : decode cL_left 4 = .ok (.iload_n 2, 1) := by decide +kernel
theorem dL_left_5 : decode cL_left 5 = .ok (.invokevirtual 49, 3) := by decide +kernel
theorem dL_left_8 : decode cL_left 8 = .ok (.i2l, 1) := by decide +kernel
theorem dL_left_9 : decode cL_left 9 = .ok (.lastore, 1) := by decide +kernel
theorem dL_left_10 : decode cL_left 10 = .ok (.goto 11, 3) := by decide +kernel
theorem dL_left_13 : decode cL_left 13 = .ok (.astore 4, 2) := by decide +kernel
theorem dL_left_15 : decode cL_left 15 = .ok (.iconst 1, 1) := by decide +kernel
theorem dL_left_16 : decode cL_left 16 = .ok (.ireturn, 1) := by decide +kernel
theorem dL_left_17 : decode cL_left 17 = .ok (.astore 4, 2) := by decide +kernel
theorem dL_left_19 : decode cL_left 19 = .ok (.iconst 2, 1) := by decide +kernel
theorem dL_left_20 : decode cL_left 20 = .ok (.ireturn, 1) := by decide +kernel
theorem dL_left_21 : decode cL_left 21 = .ok (.iconst 0, 1) := by decide +kernel
theorem dL_left_22 : decode cL_left 22 = .ok (.ireturn, 1) := by decide +kernel
set_option maxRecDepth 20000 in
theorem ggL_left_X8_left : GoodIn wsL_left wsX8_left := goodIn_ca (goodIn_ca (goodIn_ca (goodIn_r _ [7, 8, 9, 10, 11, 12, 13, 14, 15, 16, 17, 18, 6, 19, 20, 21, 22, 23, 24, 25, 26, 27, 28, 29, 30, 31, 32, 33, 34, 35, 36, 37, 38, 39, 40, 41, 42, 43, 44, 45, 46, 47, 48, 49, 50, 51, 52, 53, 54, 55, 56, 57, 58, 59, 60, 61, 62, 63, 64, 65, 66, 67, 68, 69, 70, 71, 72, 73, 74, 75, 76, 77, 78, 79, 80, 81, 82, 83, 84, 85, 86, 87, 88, 89, 90, 91, 92, 93, 94, 95, 96, 97, 98, 99, 100, 101, 102, 103, 104, 105, 106] (by decide +kernel) (by decide +kernel)) (goodIn_sub (fun _ h => List.mem_cons_of_mem _ (List.mem_append_left _ (List.mem_append_right _ h))) (by decide +kernel))) (goodIn_sub (fun _ h => List.mem_cons_of_mem _ (List.mem_append_right _ h)) (by decide +kernel))) (goodIn_sub (fun _ h => List.mem_cons_of_mem _ (List.mem_append_left _ (List.mem_append_left _ (List.mem_append_right _ h)))) (by decide +kernel))
set_option maxRecDepth 20000 in
theorem gL_left_X8_left : GoodIn wsL_left (wsV RL 49 RX8 yX8_left wsX8_left) := goodIn_app (goodIn_of _ (by decide +kernel)) ggL_left_X8_left
def rm_L_left_0_75 : Room := { frames := 11, cells := 2, slots := 12, locals := 264 }
set_option maxHeartbeats 4000000 in
set_option maxRecDepth 100000 in
theorem c_L_left_0_75 (l : Launch) (hfl : l.stackTraces = false) {G : zG} {ad : Nat → Nat} {σ σ' : zs} {a1 a2 : Int32} {r : Int32} (hf : f_L_left_0_75 σ a1 a2 = some (r, σ')) : xMi l yL_left wsL_left rm_L_left_0_75 G ad σ [.ref (ad 0), .int a1, .int a2, .ref (ad 75)] r σ' := by
  intro sz nb a g hs
  refine z_ofWH (cc := cL_left) (maxL := 5) (ret := (some .int)) (by decide) rfl ?_
  intro p e s m args below meth c s₁ B hml hv
  obtain ⟨rfl, hsz, hv⟩ := hv
  have hx := B.exec
  have hb := B.bytes
  have hr := B.returns
  have hts := atoms_spec (ws := wsL_left) B.pre
  have hown : s.vm.findClass RL = some m.cls := findClass_of_methodNamed B.named
  have hlocks := B.notSynchronized
  subst hsz
  have htab : c.exceptionTable.toList = [⟨0, 10, 13, 13⟩, ⟨0, 10, 17, 15⟩] := vx_table (x := yL_left) B (hts (.codeWith yL_left cL_left 5 (some .int) [(0, 10, 13, 13), (0, 10, 17, 15)]) List.mem_cons_self)
  have B := xB_start hs hv
  have hl := lv_entry ([.ref (ad 0), .int a1, .int a2, .ref (ad 75)]) (n := 5) (Nat.le_of_ble_eq_true rfl)
  rw [lg_entry_eq]
  generalize (lg_sl ([.ref (ad 0), .int a1, .int a2, .ref (ad 75)]) ++ List.replicate (5 - (lg_sl ([.ref (ad 0), .int a1, .int a2, .ref (ad 75)])).length) Slot.unset).toArray = ls at hl ⊢
  have hl : lv_has ls 5 [(0, .ref (ad 0)), (1, .int a1), (2, .int a2), (3, .ref (ad 75))] := hl
  generalize hAe : xA ad a s.heap.size = A at B ⊢
  unfold f_L_left_0_75 at hf
  refine lv_aload_n hx hb dL_left_0 rfl (lv_at hl 3 rfl) ?_
  refine lv_iconst (v := (0 : Int32)) hx hb dL_left_1 (by decide) ?_
  refine lv_aload_n hx hb dL_left_2 rfl (lv_at hl 0 rfl) ?_
  refine lv_iload_n hx hb dL_left_3 rfl (lv_at hl 1 rfl) ?_
  refine lv_iload_n hx hb dL_left_4 rfl (lv_at hl 2 rfl) ?_
  obtain ⟨u1, r2, σ3, hu1, hf⟩ := zc_some hf
  refine x_xi B (fun nb a g hs Bz => vx_runV (As := [.int a1, .int a2]) (rest := [.int (0 : Int32), .ref (ad 75)]) ⟨hx, hb, hml, hown, hts⟩ (c_X8_left l hfl hu1 _ nb a g hs) (cwV 2 hts gL_left_X8_left rfl rfl rfl (by decide +kernel) ⟨Nat.le_of_ble_eq_true rfl, Nat.le_of_ble_eq_true rfl⟩) (x_preV Bz (by decide) (fun _ => rfl) rfl) rfl rfl hl.1 rfl (lv_room (Nat.le_of_ble_eq_true rfl)) dL_left_5 ⟨Nat.le_of_ble_eq_true rfl, Nat.le_of_ble_eq_true rfl⟩) (fun H locs ce q9 h0 B k1 k2 k3 => ?_) (fun H locs h0 B => ?_)
  · have hf := zx_no hf h0
    by_cases he1 : u1 = 1
    · have hf := zif_t he1 hf
      subst he1
      refine vx_catch (E := "java/lang/IndexOutOfBoundsException") (name := "java/lang/IndexOutOfBoundsException") hown [] ⟨0, 10, 13, 13⟩ [⟨0, 10, 17, 15⟩] htab (fun z hz => by cases hz) (by decide) (by decide) (hts (.classLink RL 13 "java/lang/IndexOutOfBoundsException") (by decide +kernel)) (((xT B).castable (by decide +kernel)).use rfl) k1 k2 k3 ?_
      refine lv_astore (lv' := [(4, .ref q9), (0, .ref (ad 0)), (1, .int a1), (2, .int a2), (3, .ref (ad 75))]) hx hb dL_left_13 hl (by decide) rfl (fun ls hl => ?_)
      refine lv_iconst (v := (1 : Int32)) hx hb dL_left_15 (by decide) ?_
      refine W.widen (k := 2) (n := 12) (Nat.le_of_ble_eq_true rfl) (Nat.le_of_ble_eq_true rfl) ?_
      exact x_iret hx hb hr rfl hlocks B hf dL_left_16
    have hf := zif_f he1 hf
    by_cases he2 : u1 = 2
    · have hf := zif_t he2 hf
      subst he2
      refine vx_catch (E := "java/lang/IllegalArgumentException") (name := "java/lang/IllegalArgumentException") hown [⟨0, 10, 13, 13⟩] ⟨0, 10, 17, 15⟩ [] htab (fun z hz => by simp only [List.mem_cons, List.not_mem_nil, or_false] at hz; rcases hz with rfl <;> first | exact Or.inr ⟨by decide, _, hts (.classLink RL 13 "java/lang/IndexOutOfBoundsException") (by decide +kernel), (xT B).apart (by decide +kernel) (by decide +kernel) (by decide +kernel)⟩) (by decide) (by decide) (hts (.classLink RL 15 "java/lang/IllegalArgumentException") (by decide +kernel)) (((xT B).castable (by decide +kernel)).use rfl) k1 k2 k3 ?_
      refine lv_astore (lv' := [(4, .ref q9), (0, .ref (ad 0)), (1, .int a1), (2, .int a2), (3, .ref (ad 75))]) hx hb dL_left_17 hl (by decide) rfl (fun ls hl => ?_)
      refine lv_iconst (v := (2 : Int32)) hx hb dL_left_19 (by decide) ?_
      refine W.widen (k := 2) (n := 12) (Nat.le_of_ble_eq_true rfl) (Nat.le_of_ble_eq_true rfl) ?_
      exact x_iret hx hb hr rfl hlocks B hf dL_left_20
    have hf := zif_f he2 hf
    cases hf
  have hf := zx_ok hf h0
  refine lv_i2l (v := r2.toInt64) hx hb dL_left_8 rfl ?_
  obtain ⟨hg, hf⟩ := zg_some hf
  refine x_last hx hb B 75 rfl (by decide) (by decide) (fun _ => rfl) (zin_ok hg) dL_left_9 (fun H locs B => ?_)
  refine lv_goto (tgt := 21) hx hb dL_left_10 (by decide) ?_
  refine lv_iconst (v := (0 : Int32)) hx hb dL_left_21 (by decide) ?_
  refine W.widen (k := 2) (n := 12) (Nat.le_of_ble_eq_true rfl) (Nat.le_of_ble_eq_true rfl) ?_
  exact x_iret hx hb hr rfl hlocks B hf dL_left_22
theorem dL_holders_0 : decode cL_holders 0 = .ok (.aload_n 2, 1) := by decide +kernel
theorem dL_holders_1 : decode cL_holders 1 = .ok (.iconst 0, 1) := by decide +kernel
theorem dL_holders_2 : decode cL_holders 2 = .ok (.aload_n 0, 1) := by decide +kernel
theorem dL_holders_3 : decode cL_holders 3 = .ok (.iload_n 1, 1) := by decide +kernel
theorem dL_holders_4 : decode cL_holders 4 = .ok (.invokevirtual 52, 3) := by decide +kernel
theorem dL_holders_7 : decode cL_holders 7 = .ok (.i2l, 1) := by decide +kernel
theorem dL_holders_8 : decode cL_holders 8 = .ok (.lastore, 1) := by decide +kernel
theorem dL_holders_9 : decode cL_holders 9 = .ok (.goto 6, 3) := by decide +kernel
theorem dL_holders_12 : decode cL_holders 12 = .ok (.astore_n 3, 1) := by decide +kernel
theorem dL_holders_13 : decode cL_holders 13 = .ok (.iconst 1, 1) := by decide +kernel
theorem dL_holders_14 : decode cL_holders 14 = .ok (.ireturn, 1) := by decide +kernel
theorem dL_holders_15 : decode cL_holders 15 = .ok (.iconst 0, 1) := by decide +kernel
theorem dL_holders_16 : decode cL_holders 16 = .ok (.ireturn, 1) := by decide +kernel
set_option maxRecDepth 20000 in
theorem ggL_holders_X8_holders : GoodIn wsL_holders wsX8_holders := goodIn_ca (goodIn_ca (goodIn_r _ [6, 7, 8, 9, 10, 11, 12, 5, 13, 14, 15, 16, 17, 18, 19, 20, 21, 22, 23, 24, 25, 26, 27, 28, 29, 30, 31, 32, 33, 34, 35, 36, 37, 38, 39, 40, 41, 42, 43, 44, 45, 46, 47] (by decide +kernel) (by decide +kernel)) (goodIn_sub (fun _ h => List.mem_cons_of_mem _ (List.mem_append_left _ (List.mem_append_right _ h))) (by decide +kernel))) (goodIn_sub (fun _ h => List.mem_cons_of_mem _ (List.mem_append_right _ h)) (by decide +kernel))
set_option maxRecDepth 20000 in
theorem gL_holders_X8_holders : GoodIn wsL_holders (wsV RL 52 RX8 yX8_holders wsX8_holders) := goodIn_app (goodIn_of _ (by decide +kernel)) ggL_holders_X8_holders
def rm_L_holders_0_75 : Room := { frames := 11, cells := 1, slots := 6, locals := 262 }
set_option maxHeartbeats 4000000 in
set_option maxRecDepth 100000 in
theorem c_L_holders_0_75 (l : Launch) (hfl : l.stackTraces = false) {G : zG} {ad : Nat → Nat} {σ σ' : zs} {a1 : Int32} {r : Int32} (hf : f_L_holders_0_75 σ a1 = some (r, σ')) : xMi l yL_holders wsL_holders rm_L_holders_0_75 G ad σ [.ref (ad 0), .int a1, .ref (ad 75)] r σ' := by
  intro sz nb a g hs
  refine z_ofWH (cc := cL_holders) (maxL := 4) (ret := (some .int)) (by decide) rfl ?_
  intro p e s m args below meth c s₁ B hml hv
  obtain ⟨rfl, hsz, hv⟩ := hv
  have hx := B.exec
  have hb := B.bytes
  have hr := B.returns
  have hts := atoms_spec (ws := wsL_holders) B.pre
  have hown : s.vm.findClass RL = some m.cls := findClass_of_methodNamed B.named
  have hlocks := B.notSynchronized
  subst hsz
  have htab : c.exceptionTable.toList = [⟨0, 9, 12, 13⟩] := vx_table (x := yL_holders) B (hts (.codeWith yL_holders cL_holders 4 (some .int) [(0, 9, 12, 13)]) List.mem_cons_self)
  have B := xB_start hs hv
  have hl := lv_entry ([.ref (ad 0), .int a1, .ref (ad 75)]) (n := 4) (Nat.le_of_ble_eq_true rfl)
  rw [lg_entry_eq]
  generalize (lg_sl ([.ref (ad 0), .int a1, .ref (ad 75)]) ++ List.replicate (4 - (lg_sl ([.ref (ad 0), .int a1, .ref (ad 75)])).length) Slot.unset).toArray = ls at hl ⊢
  have hl : lv_has ls 4 [(0, .ref (ad 0)), (1, .int a1), (2, .ref (ad 75))] := hl
  generalize hAe : xA ad a s.heap.size = A at B ⊢
  unfold f_L_holders_0_75 at hf
  refine lv_aload_n hx hb dL_holders_0 rfl (lv_at hl 2 rfl) ?_
  refine lv_iconst (v := (0 : Int32)) hx hb dL_holders_1 (by decide) ?_
  refine lv_aload_n hx hb dL_holders_2 rfl (lv_at hl 0 rfl) ?_
  refine lv_iload_n hx hb dL_holders_3 rfl (lv_at hl 1 rfl) ?_
  obtain ⟨u1, r2, σ3, hu1, hf⟩ := zc_some hf
  refine x_xi B (fun nb a g hs Bz => vx_runV (As := [.int a1]) (rest := [.int (0 : Int32), .ref (ad 75)]) ⟨hx, hb, hml, hown, hts⟩ (c_X8_holders l hfl hu1 _ nb a g hs) (cwV 1 hts gL_holders_X8_holders rfl rfl rfl (by decide +kernel) ⟨Nat.le_of_ble_eq_true rfl, Nat.le_of_ble_eq_true rfl⟩) (x_preV Bz (by decide) (fun _ => rfl) rfl) rfl rfl hl.1 rfl (lv_room (Nat.le_of_ble_eq_true rfl)) dL_holders_4 ⟨Nat.le_of_ble_eq_true rfl, Nat.le_of_ble_eq_true rfl⟩) (fun H locs ce q9 h0 B k1 k2 k3 => ?_) (fun H locs h0 B => ?_)
  · have hf := zx_no hf h0
    by_cases he1 : u1 = 1
    · have hf := zif_t he1 hf
      subst he1
      refine vx_catch (E := "java/lang/IndexOutOfBoundsException") (name := "java/lang/IndexOutOfBoundsException") hown [] ⟨0, 9, 12, 13⟩ [] htab (fun z hz => by cases hz) (by decide) (by decide) (hts (.classLink RL 13 "java/lang/IndexOutOfBoundsException") (by decide +kernel)) (((xT B).castable (by decide +kernel)).use rfl) k1 k2 k3 ?_
      refine lv_astore_n (lv' := [(3, .ref q9), (0, .ref (ad 0)), (1, .int a1), (2, .ref (ad 75))]) hx hb dL_holders_12 rfl hl (by decide) rfl (fun ls hl => ?_)
      refine lv_iconst (v := (1 : Int32)) hx hb dL_holders_13 (by decide) ?_
      refine W.widen (k := 1) (n := 6) (Nat.le_of_ble_eq_true rfl) (Nat.le_of_ble_eq_true rfl) ?_
      exact x_iret hx hb hr rfl hlocks B hf dL_holders_14
    have hf := zif_f he1 hf
    cases hf
  have hf := zx_ok hf h0
  refine lv_i2l (v := r2.toInt64) hx hb dL_holders_7 rfl ?_
  obtain ⟨hg, hf⟩ := zg_some hf
  refine x_last hx hb B 75 rfl (by decide) (by decide) (fun _ => rfl) (zin_ok hg) dL_holders_8 (fun H locs B => ?_)
  refine lv_goto (tgt := 15) hx hb dL_holders_9 (by decide) ?_
  refine lv_iconst (v := (0 : Int32)) hx hb dL_holders_15 (by decide) ?_
  refine W.widen (k := 1) (n := 6) (Nat.le_of_ble_eq_true rfl) (Nat.le_of_ble_eq_true rfl) ?_
  exact x_iret hx hb hr rfl hlocks B hf dL_holders_16
theorem dL_held_0 : decode cL_held 0 = .ok (.aload_n 2, 1) := by decide +kernel
theorem dL_held_1 : decode cL_held 1 = .ok (.iconst 0, 1) := by decide +kernel
theorem dL_held_2 : decode cL_held 2 = .ok (.aload_n 0, 1) := by decide +kernel
theorem dL_held_3 : decode cL_held 3 = .ok (.iload_n 1, 1) := by decide +kernel
theorem dL_held_4 : decode cL_held 4 = .ok (.invokevirtual 55, 3) := by decide +kernel
theorem dL_held_7 : decode cL_held 7 = .ok (.i2l, 1) := by decide +kernel
theorem dL_held_8 : decode cL_held 8 = .ok (.lastore, 1) := by decide +kernel
theorem dL_held_9 : decode cL_held 9 = .ok (.goto 6, 3) := by decide +kernel
theorem dL_held_12 : decode cL_held 12 = .ok (.astore_n 3, 1) := by decide +kernel
theorem dL_held_13 : decode cL_held 13 = .ok (.iconst 1, 1) := by decide +kernel
theorem dL_held_14 : decode cL_held 14 = .ok (.ireturn, 1) := by decide +kernel
theorem dL_held_15 : decode cL_held 15 = .ok (.iconst 0, 1) := by decide +kernel
theorem dL_held_16 : decode cL_held 16 = .ok (.ireturn, 1) := by decide +kernel
set_option maxRecDepth 20000 in
theorem ggL_held_X8_held : GoodIn wsL_held wsX8_held := goodIn_ca (goodIn_ca (goodIn_r _ [6, 7, 8, 9, 10, 5, 11, 12, 13, 14, 15, 16, 17, 18, 19, 20, 21, 22, 23, 24, 25, 26, 27, 28, 29, 30, 31, 32, 33, 34, 35, 36, 37, 38, 39, 40, 41, 42, 43, 44, 45, 46, 47, 48, 49, 50, 51, 52, 53] (by decide +kernel) (by decide +kernel)) (goodIn_sub (fun _ h => List.mem_cons_of_mem _ (List.mem_append_right _ h)) (by decide +kernel))) (goodIn_sub (fun _ h => List.mem_cons_of_mem _ (List.mem_append_left _ (List.mem_append_right _ h))) (by decide +kernel))
set_option maxRecDepth 20000 in
theorem gL_held_X8_held : GoodIn wsL_held (wsV RL 55 RX8 yX8_held wsX8_held) := goodIn_app (goodIn_of _ (by decide +kernel)) ggL_held_X8_held
def rm_L_held_0_75 : Room := { frames := 11, cells := 1, slots := 6, locals := 261 }
set_option maxHeartbeats 4000000 in
set_option maxRecDepth 100000 in
theorem c_L_held_0_75 (l : Launch) (hfl : l.stackTraces = false) {G : zG} {ad : Nat → Nat} {σ σ' : zs} {a1 : Int32} {r : Int32} (hf : f_L_held_0_75 σ a1 = some (r, σ')) : xMi l yL_held wsL_held rm_L_held_0_75 G ad σ [.ref (ad 0), .int a1, .ref (ad 75)] r σ' := by
  intro sz nb a g hs
  refine z_ofWH (cc := cL_held) (maxL := 4) (ret := (some .int)) (by decide) rfl ?_
  intro p e s m args below meth c s₁ B hml hv
  obtain ⟨rfl, hsz, hv⟩ := hv
  have hx := B.exec
  have hb := B.bytes
  have hr := B.returns
  have hts := atoms_spec (ws := wsL_held) B.pre
  have hown : s.vm.findClass RL = some m.cls := findClass_of_methodNamed B.named
  have hlocks := B.notSynchronized
  subst hsz
  have htab : c.exceptionTable.toList = [⟨0, 9, 12, 13⟩] := vx_table (x := yL_held) B (hts (.codeWith yL_held cL_held 4 (some .int) [(0, 9, 12, 13)]) List.mem_cons_self)
  have B := xB_start hs hv
  have hl := lv_entry ([.ref (ad 0), .int a1, .ref (ad 75)]) (n := 4) (Nat.le_of_ble_eq_true rfl)
  rw [lg_entry_eq]
  generalize (lg_sl ([.ref (ad 0), .int a1, .ref (ad 75)]) ++ List.replicate (4 - (lg_sl ([.ref (ad 0), .int a1, .ref (ad 75)])).length) Slot.unset).toArray = ls at hl ⊢
  have hl : lv_has ls 4 [(0, .ref (ad 0)), (1, .int a1), (2, .ref (ad 75))] := hl
  generalize hAe : xA ad a s.heap.size = A at B ⊢
  unfold f_L_held_0_75 at hf
  refine lv_aload_n hx hb dL_held_0 rfl (lv_at hl 2 rfl) ?_
  refine lv_iconst (v := (0 : Int32)) hx hb dL_held_1 (by decide) ?_
  refine lv_aload_n hx hb dL_held_2 rfl (lv_at hl 0 rfl) ?_
  refine lv_iload_n hx hb dL_held_3 rfl (lv_at hl 1 rfl) ?_
  obtain ⟨u1, r2, σ3, hu1, hf⟩ := zc_some hf
  refine x_xi B (fun nb a g hs Bz => vx_runV (As := [.int a1]) (rest := [.int (0 : Int32), .ref (ad 75)]) ⟨hx, hb, hml, hown, hts⟩ (c_X8_held l hfl hu1 _ nb a g hs) (cwV 1 hts gL_held_X8_held rfl rfl rfl (by decide +kernel) ⟨Nat.le_of_ble_eq_true rfl, Nat.le_of_ble_eq_true rfl⟩) (x_preV Bz (by decide) (fun _ => rfl) rfl) rfl rfl hl.1 rfl (lv_room (Nat.le_of_ble_eq_true rfl)) dL_held_4 ⟨Nat.le_of_ble_eq_true rfl, Nat.le_of_ble_eq_true rfl⟩) (fun H locs ce q9 h0 B k1 k2 k3 => ?_) (fun H locs h0 B => ?_)
  · have hf := zx_no hf h0
    by_cases he1 : u1 = 1
    · have hf := zif_t he1 hf
      subst he1
      refine vx_catch (E := "java/lang/IndexOutOfBoundsException") (name := "java/lang/IndexOutOfBoundsException") hown [] ⟨0, 9, 12, 13⟩ [] htab (fun z hz => by cases hz) (by decide) (by decide) (hts (.classLink RL 13 "java/lang/IndexOutOfBoundsException") (by decide +kernel)) (((xT B).castable (by decide +kernel)).use rfl) k1 k2 k3 ?_
      refine lv_astore_n (lv' := [(3, .ref q9), (0, .ref (ad 0)), (1, .int a1), (2, .ref (ad 75))]) hx hb dL_held_12 rfl hl (by decide) rfl (fun ls hl => ?_)
      refine lv_iconst (v := (1 : Int32)) hx hb dL_held_13 (by decide) ?_
      refine W.widen (k := 1) (n := 6) (Nat.le_of_ble_eq_true rfl) (Nat.le_of_ble_eq_true rfl) ?_
      exact x_iret hx hb hr rfl hlocks B hf dL_held_14
    have hf := zif_f he1 hf
    cases hf
  have hf := zx_ok hf h0
  refine lv_i2l (v := r2.toInt64) hx hb dL_held_7 rfl ?_
  obtain ⟨hg, hf⟩ := zg_some hf
  refine x_last hx hb B 75 rfl (by decide) (by decide) (fun _ => rfl) (zin_ok hg) dL_held_8 (fun H locs B => ?_)
  refine lv_goto (tgt := 15) hx hb dL_held_9 (by decide) ?_
  refine lv_iconst (v := (0 : Int32)) hx hb dL_held_15 (by decide) ?_
  refine W.widen (k := 1) (n := 6) (Nat.le_of_ble_eq_true rfl) (Nat.le_of_ble_eq_true rfl) ?_
  exact x_iret hx hb hr rfl hlocks B hf dL_held_16
theorem dL_below_0 : decode cL_below 0 = .ok (.aload_n 2, 1) := by decide +kernel
theorem dL_below_1 : decode cL_below 1 = .ok (.iconst 0, 1) := by decide +kernel
theorem dL_below_2 : decode cL_below 2 = .ok (.aload_n 0, 1) := by decide +kernel
theorem dL_below_3 : decode cL_below 3 = .ok (.iload_n 1, 1) := by decide +kernel
theorem dL_below_4 : decode cL_below 4 = .ok (.invokevirtual 58, 3) := by decide +kernel
theorem dL_below_7 : decode cL_below 7 = .ok (.i2l, 1) := by decide +kernel
theorem dL_below_8 : decode cL_below 8 = .ok (.lastore, 1) := by decide +kernel
theorem dL_below_9 : decode cL_below 9 = .ok (.goto 6, 3) := by decide +kernel
theorem dL_below_12 : decode cL_below 12 = .ok (.astore_n 3, 1) := by decide +kernel
theorem dL_below_13 : decode cL_below 13 = .ok (.iconst 1, 1) := by decide +kernel
theorem dL_below_14 : decode cL_below 14 = .ok (.ireturn, 1) := by decide +kernel
theorem dL_below_15 : decode cL_below 15 = .ok (.iconst 0, 1) := by decide +kernel
theorem dL_below_16 : decode cL_below 16 = .ok (.ireturn, 1) := by decide +kernel
set_option maxRecDepth 20000 in
theorem ggL_below_X8_below : GoodIn wsL_below wsX8_below := goodIn_ca (goodIn_ca (goodIn_r _ [6, 7, 8, 9, 10, 11, 5, 12, 13, 14, 15, 16, 17, 18, 19, 20, 21, 22, 23, 24, 25, 26, 27, 28, 29, 30, 31, 32, 33, 34, 35, 36, 37, 38, 39, 40, 41, 42, 43, 44, 45, 46, 47, 48, 49, 50, 51, 52, 53, 54, 55, 56, 57, 58] (by decide +kernel) (by decide +kernel)) (goodIn_sub (fun _ h => List.mem_cons_of_mem _ (List.mem_append_right _ h)) (by decide +kernel))) (goodIn_sub (fun _ h => List.mem_cons_of_mem _ (List.mem_append_left _ (List.mem_append_right _ h))) (by decide +kernel))
set_option maxRecDepth 20000 in
theorem gL_below_X8_below : GoodIn wsL_below (wsV RL 58 RX8 yX8_below wsX8_below) := goodIn_app (goodIn_of _ (by decide +kernel)) ggL_below_X8_below
def rm_L_below_0_75 : Room := { frames := 11, cells := 1, slots := 6, locals := 262 }
set_option maxHeartbeats 4000000 in
set_option maxRecDepth 100000 in
theorem c_L_below_0_75 (l : Launch) (hfl : l.stackTraces = false) {G : zG} {ad : Nat → Nat} {σ σ' : zs} {a1 : Int32} {r : Int32} (hf : f_L_below_0_75 σ a1 = some (r, σ')) : xMi l yL_below wsL_below rm_L_below_0_75 G ad σ [.ref (ad 0), .int a1, .ref (ad 75)] r σ' := by
  intro sz nb a g hs
  refine z_ofWH (cc := cL_below) (maxL := 4) (ret := (some .int)) (by decide) rfl ?_
  intro p e s m args below meth c s₁ B hml hv
  obtain ⟨rfl, hsz, hv⟩ := hv
  have hx := B.exec
  have hb := B.bytes
  have hr := B.returns
  have hts := atoms_spec (ws := wsL_below) B.pre
  have hown : s.vm.findClass RL = some m.cls := findClass_of_methodNamed B.named
  have hlocks := B.notSynchronized
  subst hsz
  have htab : c.exceptionTable.toList = [⟨0, 9, 12, 13⟩] := vx_table (x := yL_below) B (hts (.codeWith yL_below cL_below 4 (some .int) [(0, 9, 12, 13)]) List.mem_cons_self)
  have B := xB_start hs hv
  have hl := lv_entry ([.ref (ad 0), .int a1, .ref (ad 75)]) (n := 4) (Nat.le_of_ble_eq_true rfl)
  rw [lg_entry_eq]
  generalize (lg_sl ([.ref (ad 0), .int a1, .ref (ad 75)]) ++ List.replicate (4 - (lg_sl ([.ref (ad 0), .int a1, .ref (ad 75)])).length) Slot.unset).toArray = ls at hl ⊢
  have hl : lv_has ls 4 [(0, .ref (ad 0)), (1, .int a1), (2, .ref (ad 75))] := hl
  generalize hAe : xA ad a s.heap.size = A at B ⊢
  unfold f_L_below_0_75 at hf
  refine lv_aload_n hx hb dL_below_0 rfl (lv_at hl 2 rfl) ?_
  refine lv_iconst (v := (0 : Int32)) hx hb dL_below_1 (by decide) ?_
  refine lv_aload_n hx hb dL_below_2 rfl (lv_at hl 0 rfl) ?_
  refine lv_iload_n hx hb dL_below_3 rfl (lv_at hl 1 rfl) ?_
  obtain ⟨u1, r2, σ3, hu1, hf⟩ := zc_some hf
  refine x_xi B (fun nb a g hs Bz => vx_runV (As := [.int a1]) (rest := [.int (0 : Int32), .ref (ad 75)]) ⟨hx, hb, hml, hown, hts⟩ (c_X8_below l hfl hu1 _ nb a g hs) (cwV 1 hts gL_below_X8_below rfl rfl rfl (by decide +kernel) ⟨Nat.le_of_ble_eq_true rfl, Nat.le_of_ble_eq_true rfl⟩) (x_preV Bz (by decide) (fun _ => rfl) rfl) rfl rfl hl.1 rfl (lv_room (Nat.le_of_ble_eq_true rfl)) dL_below_4 ⟨Nat.le_of_ble_eq_true rfl, Nat.le_of_ble_eq_true rfl⟩) (fun H locs ce q9 h0 B k1 k2 k3 => ?_) (fun H locs h0 B => ?_)
  · have hf := zx_no hf h0
    by_cases he1 : u1 = 1
    · have hf := zif_t he1 hf
      subst he1
      refine vx_catch (E := "java/lang/IndexOutOfBoundsException") (name := "java/lang/IndexOutOfBoundsException") hown [] ⟨0, 9, 12, 13⟩ [] htab (fun z hz => by cases hz) (by decide) (by decide) (hts (.classLink RL 13 "java/lang/IndexOutOfBoundsException") (by decide +kernel)) (((xT B).castable (by decide +kernel)).use rfl) k1 k2 k3 ?_
      refine lv_astore_n (lv' := [(3, .ref q9), (0, .ref (ad 0)), (1, .int a1), (2, .ref (ad 75))]) hx hb dL_below_12 rfl hl (by decide) rfl (fun ls hl => ?_)
      refine lv_iconst (v := (1 : Int32)) hx hb dL_below_13 (by decide) ?_
      refine W.widen (k := 1) (n := 6) (Nat.le_of_ble_eq_true rfl) (Nat.le_of_ble_eq_true rfl) ?_
      exact x_iret hx hb hr rfl hlocks B hf dL_below_14
    have hf := zif_f he1 hf
    cases hf
  have hf := zx_ok hf h0
  refine lv_i2l (v := r2.toInt64) hx hb dL_below_7 rfl ?_
  obtain ⟨hg, hf⟩ := zg_some hf
  refine x_last hx hb B 75 rfl (by decide) (by decide) (fun _ => rfl) (zin_ok hg) dL_below_8 (fun H locs B => ?_)
  refine lv_goto (tgt := 15) hx hb dL_below_9 (by decide) ?_
  refine lv_iconst (v := (0 : Int32)) hx hb dL_below_15 (by decide) ?_
  refine W.widen (k := 1) (n := 6) (Nat.le_of_ble_eq_true rfl) (Nat.le_of_ble_eq_true rfl) ?_
  exact x_iret hx hb hr rfl hlocks B hf dL_below_16
theorem dL_ranked_0 : decode cL_ranked 0 = .ok (.aload_n 2, 1) := by decide +kernel
theorem dL_ranked_1 : decode cL_ranked 1 = .ok (.iconst 0, 1) := by decide +kernel
theorem dL_ranked_2 : decode cL_ranked 2 = .ok (.aload_n 0, 1) := by decide +kernel
theorem dL_ranked_3 : decode cL_ranked 3 = .ok (.iload_n 1, 1) := by decide +kernel
theorem dL_ranked_4 : decode cL_ranked 4 = .ok (.invokevirtual 61, 3) := by decide +kernel
theorem dL_ranked_7 : decode cL_ranked 7 = .ok (.i2l, 1) := by decide +kernel
theorem dL_ranked_8 : decode cL_ranked 8 = .ok (.lastore, 1) := by decide +kernel
theorem dL_ranked_9 : decode cL_ranked 9 = .ok (.goto 6, 3) := by decide +kernel
theorem dL_ranked_12 : decode cL_ranked 12 = .ok (.astore_n 3, 1) := by decide +kernel
theorem dL_ranked_13 : decode cL_ranked 13 = .ok (.iconst 1, 1) := by decide +kernel
theorem dL_ranked_14 : decode cL_ranked 14 = .ok (.ireturn, 1) := by decide +kernel
theorem dL_ranked_15 : decode cL_ranked 15 = .ok (.iconst 0, 1) := by decide +kernel
theorem dL_ranked_16 : decode cL_ranked 16 = .ok (.ireturn, 1) := by decide +kernel
set_option maxRecDepth 20000 in
theorem ggL_ranked_X8_ranked : GoodIn wsL_ranked wsX8_ranked := goodIn_ca (goodIn_ca (goodIn_r _ [6, 7, 8, 9, 10, 11, 12, 13, 14, 15, 16, 17, 18, 19, 20, 21, 22, 23, 24, 25, 26, 5, 27, 28, 29, 30, 31, 32, 33, 34, 35, 36, 37, 38, 39, 40, 41, 42, 43, 44, 45, 46, 47, 48, 49, 50, 51, 52, 53, 54, 55, 56, 57] (by decide +kernel) (by decide +kernel)) (goodIn_sub (fun _ h => List.mem_cons_of_mem _ (List.mem_append_left _ (List.mem_append_right _ h))) (by decide +kernel))) (goodIn_sub (fun _ h => List.mem_cons_of_mem _ (List.mem_append_right _ h)) (by decide +kernel))
set_option maxRecDepth 20000 in
theorem gL_ranked_X8_ranked : GoodIn wsL_ranked (wsV RL 61 RX8 yX8_ranked wsX8_ranked) := goodIn_app (goodIn_of _ (by decide +kernel)) ggL_ranked_X8_ranked
def rm_L_ranked_0_75 : Room := { frames := 10, cells := 1, slots := 6, locals := 242 }
set_option maxHeartbeats 4000000 in
set_option maxRecDepth 100000 in
theorem c_L_ranked_0_75 (l : Launch) (hfl : l.stackTraces = false) {G : zG} {ad : Nat → Nat} {σ σ' : zs} {a1 : Int32} {r : Int32} (hf : f_L_ranked_0_75 σ a1 = some (r, σ')) : xMi l yL_ranked wsL_ranked rm_L_ranked_0_75 G ad σ [.ref (ad 0), .int a1, .ref (ad 75)] r σ' := by
  intro sz nb a g hs
  refine z_ofWH (cc := cL_ranked) (maxL := 4) (ret := (some .int)) (by decide) rfl ?_
  intro p e s m args below meth c s₁ B hml hv
  obtain ⟨rfl, hsz, hv⟩ := hv
  have hx := B.exec
  have hb := B.bytes
  have hr := B.returns
  have hts := atoms_spec (ws := wsL_ranked) B.pre
  have hown : s.vm.findClass RL = some m.cls := findClass_of_methodNamed B.named
  have hlocks := B.notSynchronized
  subst hsz
  have htab : c.exceptionTable.toList = [⟨0, 9, 12, 35⟩] := vx_table (x := yL_ranked) B (hts (.codeWith yL_ranked cL_ranked 4 (some .int) [(0, 9, 12, 35)]) List.mem_cons_self)
  have B := xB_start hs hv
  have hl := lv_entry ([.ref (ad 0), .int a1, .ref (ad 75)]) (n := 4) (Nat.le_of_ble_eq_true rfl)
  rw [lg_entry_eq]
  generalize (lg_sl ([.ref (ad 0), .int a1, .ref (ad 75)]) ++ List.replicate (4 - (lg_sl ([.ref (ad 0), .int a1, .ref (ad 75)])).length) Slot.unset).toArray = ls at hl ⊢
  have hl : lv_has ls 4 [(0, .ref (ad 0)), (1, .int a1), (2, .ref (ad 75))] := hl
  generalize hAe : xA ad a s.heap.size = A at B ⊢
  unfold f_L_ranked_0_75 at hf
  refine lv_aload_n hx hb dL_ranked_0 rfl (lv_at hl 2 rfl) ?_
  refine lv_iconst (v := (0 : Int32)) hx hb dL_ranked_1 (by decide) ?_
  refine lv_aload_n hx hb dL_ranked_2 rfl (lv_at hl 0 rfl) ?_
  refine lv_iload_n hx hb dL_ranked_3 rfl (lv_at hl 1 rfl) ?_
  obtain ⟨u1, r2, σ3, hu1, hf⟩ := zc_some hf
  refine x_xi B (fun nb a g hs Bz => vx_runV (As := [.int a1]) (rest := [.int (0 : Int32), .ref (ad 75)]) ⟨hx, hb, hml, hown, hts⟩ (c_X8_ranked l hfl hu1 _ nb a g hs) (cwV 1 hts gL_ranked_X8_ranked rfl rfl rfl (by decide +kernel) ⟨Nat.le_of_ble_eq_true rfl, Nat.le_of_ble_eq_true rfl⟩) (x_preV Bz (by decide) (fun _ => rfl) rfl) rfl rfl hl.1 rfl (lv_room (Nat.le_of_ble_eq_true rfl)) dL_ranked_4 ⟨Nat.le_of_ble_eq_true rfl, Nat.le_of_ble_eq_true rfl⟩) (fun H locs ce q9 h0 B k1 k2 k3 => ?_) (fun H locs h0 B => ?_)
  · have hf := zx_no hf h0
    by_cases he5 : u1 = 5
    · have hf := zif_t he5 hf
      subst he5
      refine vx_catch (E := "java/util/NoSuchElementException") (name := "java/util/NoSuchElementException") hown [] ⟨0, 9, 12, 35⟩ [] htab (fun z hz => by cases hz) (by decide) (by decide) (hts (.classLink RL 35 "java/util/NoSuchElementException") (by decide +kernel)) (((xT B).castable (by decide +kernel)).use rfl) k1 k2 k3 ?_
      refine lv_astore_n (lv' := [(3, .ref q9), (0, .ref (ad 0)), (1, .int a1), (2, .ref (ad 75))]) hx hb dL_ranked_12 rfl hl (by decide) rfl (fun ls hl => ?_)
      refine lv_iconst (v := (1 : Int32)) hx hb dL_ranked_13 (by decide) ?_
      refine W.widen (k := 1) (n := 6) (Nat.le_of_ble_eq_true rfl) (Nat.le_of_ble_eq_true rfl) ?_
      exact x_iret hx hb hr rfl hlocks B hf dL_ranked_14
    have hf := zif_f he5 hf
    cases hf
  have hf := zx_ok hf h0
  refine lv_i2l (v := r2.toInt64) hx hb dL_ranked_7 rfl ?_
  obtain ⟨hg, hf⟩ := zg_some hf
  refine x_last hx hb B 75 rfl (by decide) (by decide) (fun _ => rfl) (zin_ok hg) dL_ranked_8 (fun H locs B => ?_)
  refine lv_goto (tgt := 15) hx hb dL_ranked_9 (by decide) ?_
  refine lv_iconst (v := (0 : Int32)) hx hb dL_ranked_15 (by decide) ?_
  refine W.widen (k := 1) (n := 6) (Nat.le_of_ble_eq_true rfl) (Nat.le_of_ble_eq_true rfl) ?_
  exact x_iret hx hb hr rfl hlocks B hf dL_ranked_16
theorem dL_request_0 : decode cL_request 0 = .ok (.aload 5, 2) := by decide +kernel
theorem dL_request_2 : decode cL_request 2 = .ok (.iconst 0, 1) := by decide +kernel
theorem dL_request_3 : decode cL_request 3 = .ok (.aload_n 0, 1) := by decide +kernel
theorem dL_request_4 : decode cL_request 4 = .ok (.iload_n 1, 1) := by decide +kernel
theorem dL_request_5 : decode cL_request 5 = .ok (.iload_n 2, 1) := by decide +kernel
theorem dL_request_6 : decode cL_request 6 = .ok (.iload_n 3, 1) := by decide +kernel
theorem dL_request_7 : decode cL_request 7 = .ok (.iload 4, 2) := by decide +kernel
theorem dL_request_9 : decode cL_request 9 = .ok (.invokevirtual 64, 3) := by decide +kernel
theorem dL_request_12 : decode cL_request 12 = .ok (.i2l, 1) := by decide +kernel
theorem dL_request_13 : decode cL_request 13 = .ok (.lastore, 1) := by decide +kernel
theorem dL_request_14 : decode cL_request 14 = .ok (.goto 15, 3) := by decide +kernel
theorem dL_request_17 : decode cL_request 17 = .ok (.astore 6, 2) := by decide +kernel
theorem dL_request_19 : decode cL_request 19 = .ok (.iconst 1, 1) := by decide +kernel
theorem dL_request_20 : decode cL_request 20 = .ok (.ireturn, 1) := by decide +kernel
theorem dL_request_21 : decode cL_request 21 = .ok (.astore 6, 2) := by decide +kernel
theorem dL_request_23 : decode cL_request 23 = .ok (.iconst 2, 1) := by decide +kernel
theorem dL_request_24 : decode cL_request 24 = .ok (.ireturn, 1) := by decide +kernel
theorem dL_request_25 : decode cL_request 25 = .ok (.astore 6, 2) := by decide +kernel
theorem dL_request_27 : decode cL_request 27 = .ok (.iconst 3, 1) := by decide +kernel
theorem dL_request_28 : decode cL_request 28 = .ok (.ireturn, 1) := by decide +kernel
theorem dL_request_29 : decode cL_request 29 = .ok (.iconst 0, 1) := by decide +kernel
theorem dL_request_30 : decode cL_request 30 = .ok (.ireturn, 1) := by decide +kernel
set_option maxRecDepth 20000 in
theorem ggL_request_X8_request : GoodIn wsL_request wsX8_request := goodIn_ca (goodIn_ca (goodIn_ca (goodIn_ca (goodIn_r _ [8, 9, 10, 11, 12, 13, 14, 7, 15, 16, 17, 18, 19, 20, 21, 22, 23, 24, 25, 26, 27, 28, 29, 30, 31, 32, 33, 34, 35, 36, 37, 38, 39, 40, 41, 42, 43, 44, 45, 46, 47, 48, 49, 50, 51, 52, 53, 54, 55, 56, 57, 58, 59, 60, 61, 62, 63, 64, 65, 66, 67, 68, 69, 70, 71, 72, 73, 74, 75, 76, 77, 78, 79, 80, 81, 82, 83, 84, 85, 86, 87, 88, 89, 90, 91, 92, 93, 94, 95, 96, 97, 98, 99, 100, 101, 102, 103, 104, 105, 106, 107, 108, 109, 110, 111, 112, 113, 114, 115, 116, 117, 118, 119, 120, 121, 122, 123, 124, 125, 126, 127, 128, 129, 130, 131, 132, 133, 134, 135, 136, 137, 138, 139, 140, 141, 142, 143, 144, 145] (by decide +kernel) (by decide +kernel)) (goodIn_sub (fun _ h => List.mem_cons_of_mem _ (List.mem_append_left _ (List.mem_append_left _ (List.mem_append_left _ (List.mem_append_right _ h))))) (by decide +kernel))) (goodIn_sub (fun _ h => List.mem_cons_of_mem _ (List.mem_append_left _ (List.mem_append_left _ (List.mem_append_right _ h)))) (by decide +kernel))) (goodIn_sub (fun _ h => List.mem_cons_of_mem _ (List.mem_append_left _ (List.mem_append_right _ h))) (by decide +kernel))) (goodIn_sub (fun _ h => List.mem_cons_of_mem _ (List.mem_append_right _ h)) (by decide +kernel))
set_option maxRecDepth 20000 in
theorem gL_request_X8_request : GoodIn wsL_request (wsV RL 64 RX8 yX8_request wsX8_request) := goodIn_app (goodIn_of _ (by decide +kernel)) ggL_request_X8_request
def rm_L_request_0_75 : Room := { frames := 11, cells := 4, slots := 24, locals := 266 }
set_option maxHeartbeats 4000000 in
set_option maxRecDepth 100000 in
theorem c_L_request_0_75 (l : Launch) (hfl : l.stackTraces = false) {G : zG} {ad : Nat → Nat} {σ σ' : zs} {a1 a2 a3 a4 : Int32} {r : Int32} (hf : f_L_request_0_75 σ a1 a2 a3 a4 = some (r, σ')) : xMi l yL_request wsL_request rm_L_request_0_75 G ad σ [.ref (ad 0), .int a1, .int a2, .int a3, .int a4, .ref (ad 75)] r σ' := by
  intro sz nb a g hs
  refine z_ofWH (cc := cL_request) (maxL := 7) (ret := (some .int)) (by decide) rfl ?_
  intro p e s m args below meth c s₁ B hml hv
  obtain ⟨rfl, hsz, hv⟩ := hv
  have hx := B.exec
  have hb := B.bytes
  have hr := B.returns
  have hts := atoms_spec (ws := wsL_request) B.pre
  have hown : s.vm.findClass RL = some m.cls := findClass_of_methodNamed B.named
  have hlocks := B.notSynchronized
  subst hsz
  have htab : c.exceptionTable.toList = [⟨0, 14, 17, 13⟩, ⟨0, 14, 21, 15⟩, ⟨0, 14, 25, 27⟩] := vx_table (x := yL_request) B (hts (.codeWith yL_request cL_request 7 (some .int) [(0, 14, 17, 13), (0, 14, 21, 15), (0, 14, 25, 27)]) List.mem_cons_self)
  have B := xB_start hs hv
  have hl := lv_entry ([.ref (ad 0), .int a1, .int a2, .int a3, .int a4, .ref (ad 75)]) (n := 7) (Nat.le_of_ble_eq_true rfl)
  rw [lg_entry_eq]
  generalize (lg_sl ([.ref (ad 0), .int a1, .int a2, .int a3, .int a4, .ref (ad 75)]) ++ List.replicate (7 - (lg_sl ([.ref (ad 0), .int a1, .int a2, .int a3, .int a4, .ref (ad 75)])).length) Slot.unset).toArray = ls at hl ⊢
  have hl : lv_has ls 7 [(0, .ref (ad 0)), (1, .int a1), (2, .int a2), (3, .int a3), (4, .int a4), (5, .ref (ad 75))] := hl
  generalize hAe : xA ad a s.heap.size = A at B ⊢
  unfold f_L_request_0_75 at hf
  refine lv_aload hx hb dL_request_0 (lv_at hl 5 rfl) ?_
  refine lv_iconst (v := (0 : Int32)) hx hb dL_request_2 (by decide) ?_
  refine lv_aload_n hx hb dL_request_3 rfl (lv_at hl 0 rfl) ?_
  refine lv_iload_n hx hb dL_request_4 rfl (lv_at hl 1 rfl) ?_
  refine lv_iload_n hx hb dL_request_5 rfl (lv_at hl 2 rfl) ?_
  refine lv_iload_n hx hb dL_request_6 rfl (lv_at hl 3 rfl) ?_
  refine lv_iload hx hb dL_request_7 (lv_at hl 4 rfl) ?_
  obtain ⟨u1, r2, σ3, hu1, hf⟩ := zc_some hf
  refine x_xi B (fun nb a g hs Bz => vx_runV (As := [.int a1, .int a2, .int a3, .int a4]) (rest := [.int (0 : Int32), .ref (ad 75)]) ⟨hx, hb, hml, hown, hts⟩ (c_X8_request l hfl hu1 _ nb a g hs) (cwV 4 hts gL_request_X8_request rfl rfl rfl (by decide +kernel) ⟨Nat.le_of_ble_eq_true rfl, Nat.le_of_ble_eq_true rfl⟩) (x_preV Bz (by decide) (fun _ => rfl) rfl) rfl rfl hl.1 rfl (lv_room (Nat.le_of_ble_eq_true rfl)) dL_request_9 ⟨Nat.le_of_ble_eq_true rfl, Nat.le_of_ble_eq_true rfl⟩) (fun H locs ce q9 h0 B k1 k2 k3 => ?_) (fun H locs h0 B => ?_)
  · have hf := zx_no hf h0
    by_cases he1 : u1 = 1
    · have hf := zif_t he1 hf
      subst he1
      refine vx_catch (E := "java/lang/IndexOutOfBoundsException") (name := "java/lang/IndexOutOfBoundsException") hown [] ⟨0, 14, 17, 13⟩ [⟨0, 14, 21, 15⟩, ⟨0, 14, 25, 27⟩] htab (fun z hz => by cases hz) (by decide) (by decide) (hts (.classLink RL 13 "java/lang/IndexOutOfBoundsException") (by decide +kernel)) (((xT B).castable (by decide +kernel)).use rfl) k1 k2 k3 ?_
      refine lv_astore (lv' := [(6, .ref q9), (0, .ref (ad 0)), (1, .int a1), (2, .int a2), (3, .int a3), (4, .int a4), (5, .ref (ad 75))]) hx hb dL_request_17 hl (by decide) rfl (fun ls hl => ?_)
      refine lv_iconst (v := (1 : Int32)) hx hb dL_request_19 (by decide) ?_
      refine W.widen (k := 4) (n := 24) (Nat.le_of_ble_eq_true rfl) (Nat.le_of_ble_eq_true rfl) ?_
      exact x_iret hx hb hr rfl hlocks B hf dL_request_20
    have hf := zif_f he1 hf
    by_cases he2 : u1 = 2
    · have hf := zif_t he2 hf
      subst he2
      refine vx_catch (E := "java/lang/IllegalArgumentException") (name := "java/lang/IllegalArgumentException") hown [⟨0, 14, 17, 13⟩] ⟨0, 14, 21, 15⟩ [⟨0, 14, 25, 27⟩] htab (fun z hz => by simp only [List.mem_cons, List.not_mem_nil, or_false] at hz; rcases hz with rfl <;> first | exact Or.inr ⟨by decide, _, hts (.classLink RL 13 "java/lang/IndexOutOfBoundsException") (by decide +kernel), (xT B).apart (by decide +kernel) (by decide +kernel) (by decide +kernel)⟩) (by decide) (by decide) (hts (.classLink RL 15 "java/lang/IllegalArgumentException") (by decide +kernel)) (((xT B).castable (by decide +kernel)).use rfl) k1 k2 k3 ?_
      refine lv_astore (lv' := [(6, .ref q9), (0, .ref (ad 0)), (1, .int a1), (2, .int a2), (3, .int a3), (4, .int a4), (5, .ref (ad 75))]) hx hb dL_request_21 hl (by decide) rfl (fun ls hl => ?_)
      refine lv_iconst (v := (2 : Int32)) hx hb dL_request_23 (by decide) ?_
      refine W.widen (k := 4) (n := 24) (Nat.le_of_ble_eq_true rfl) (Nat.le_of_ble_eq_true rfl) ?_
      exact x_iret hx hb hr rfl hlocks B hf dL_request_24
    have hf := zif_f he2 hf
    by_cases he4 : u1 = 4
    · have hf := zif_t he4 hf
      subst he4
      refine vx_catch (E := "java/lang/UnsupportedOperationException") (name := "java/lang/UnsupportedOperationException") hown [⟨0, 14, 17, 13⟩, ⟨0, 14, 21, 15⟩] ⟨0, 14, 25, 27⟩ [] htab (fun z hz => by simp only [List.mem_cons, List.not_mem_nil, or_false] at hz; rcases hz with rfl | rfl <;> first | exact Or.inr ⟨by decide, _, hts (.classLink RL 13 "java/lang/IndexOutOfBoundsException") (by decide +kernel), (xT B).apart (by decide +kernel) (by decide +kernel) (by decide +kernel)⟩ | exact Or.inr ⟨by decide, _, hts (.classLink RL 15 "java/lang/IllegalArgumentException") (by decide +kernel), (xT B).apart (by decide +kernel) (by decide +kernel) (by decide +kernel)⟩) (by decide) (by decide) (hts (.classLink RL 27 "java/lang/UnsupportedOperationException") (by decide +kernel)) (((xT B).castable (by decide +kernel)).use rfl) k1 k2 k3 ?_
      refine lv_astore (lv' := [(6, .ref q9), (0, .ref (ad 0)), (1, .int a1), (2, .int a2), (3, .int a3), (4, .int a4), (5, .ref (ad 75))]) hx hb dL_request_25 hl (by decide) rfl (fun ls hl => ?_)
      refine lv_iconst (v := (3 : Int32)) hx hb dL_request_27 (by decide) ?_
      refine W.widen (k := 4) (n := 24) (Nat.le_of_ble_eq_true rfl) (Nat.le_of_ble_eq_true rfl) ?_
      exact x_iret hx hb hr rfl hlocks B hf dL_request_28
    have hf := zif_f he4 hf
    cases hf
  have hf := zx_ok hf h0
  refine lv_i2l (v := r2.toInt64) hx hb dL_request_12 rfl ?_
  obtain ⟨hg, hf⟩ := zg_some hf
  refine x_last hx hb B 75 rfl (by decide) (by decide) (fun _ => rfl) (zin_ok hg) dL_request_13 (fun H locs B => ?_)
  refine lv_goto (tgt := 29) hx hb dL_request_14 (by decide) ?_
  refine lv_iconst (v := (0 : Int32)) hx hb dL_request_29 (by decide) ?_
  refine W.widen (k := 4) (n := 24) (Nat.le_of_ble_eq_true rfl) (Nat.le_of_ble_eq_true rfl) ?_
  exact x_iret hx hb hr rfl hlocks B hf dL_request_30
