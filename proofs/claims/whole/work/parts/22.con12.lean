theorem dX9_whole_0 : decode cX9_whole 0 = .ok (.iconst 0, 1) := by decide +kernel
theorem dX9_whole_1 : decode cX9_whole 1 = .ok (.istore_n 1, 1) := by decide +kernel
theorem dX9_whole_2 : decode cX9_whole 2 = .ok (.iconst 0, 1) := by decide +kernel
theorem dX9_whole_3 : decode cX9_whole 3 = .ok (.istore_n 2, 1) := by decide +kernel
theorem dX9_whole_4 : decode cX9_whole 4 = .ok (.iload_n 2, 1) := by decide +kernel
theorem dX9_whole_5 : decode cX9_whole 5 = .ok (.aload_n 0, 1) := by decide +kernel
theorem dX9_whole_6 : decode cX9_whole 6 = .ok (.getfield 9, 3) := by decide +kernel
theorem dX9_whole_9 : decode cX9_whole 9 = .ok (.iconst 1, 1) := by decide +kernel
theorem dX9_whole_10 : decode cX9_whole 10 = .ok (.iaload, 1) := by decide +kernel
theorem dX9_whole_11 : decode cX9_whole 11 = .ok (.if_icmp .ge 25, 3) := by decide +kernel
theorem dX9_whole_14 : decode cX9_whole 14 = .ok (.iload_n 1, 1) := by decide +kernel
theorem dX9_whole_15 : decode cX9_whole 15 = .ok (.aload_n 0, 1) := by decide +kernel
theorem dX9_whole_16 : decode cX9_whole 16 = .ok (.iload_n 2, 1) := by decide +kernel
theorem dX9_whole_17 : decode cX9_whole 17 = .ok (.invokevirtual 134, 3) := by decide +kernel
theorem dX9_whole_20 : decode cX9_whole 20 = .ok (.ifCond .ne 7, 3) := by decide +kernel
theorem dX9_whole_23 : decode cX9_whole 23 = .ok (.iconst 1, 1) := by decide +kernel
theorem dX9_whole_24 : decode cX9_whole 24 = .ok (.goto 4, 3) := by decide +kernel
theorem dX9_whole_27 : decode cX9_whole 27 = .ok (.iconst 0, 1) := by decide +kernel
theorem dX9_whole_28 : decode cX9_whole 28 = .ok (.iadd, 1) := by decide +kernel
theorem dX9_whole_29 : decode cX9_whole 29 = .ok (.istore_n 1, 1) := by decide +kernel
theorem dX9_whole_30 : decode cX9_whole 30 = .ok (.iinc 2 1, 3) := by decide +kernel
theorem dX9_whole_33 : decode cX9_whole 33 = .ok (.goto (-29), 3) := by decide +kernel
theorem dX9_whole_36 : decode cX9_whole 36 = .ok (.iload_n 1, 1) := by decide +kernel
theorem dX9_whole_37 : decode cX9_whole 37 = .ok (.ireturn, 1) := by decide +kernel
set_option maxRecDepth 20000 in
theorem ggX9_whole_X9_revokedIn : GoodIn wsX9_whole wsX9_revokedIn := goodIn_ca (goodIn_r _ [6, 1, 7, 8, 9, 10, 11, 12, 13, 14, 15, 16, 17, 18, 19, 20, 21, 22, 23, 24, 25, 26] (by decide +kernel) (by decide +kernel)) (goodIn_sub (fun _ h => List.mem_cons_of_mem _ (List.mem_append_right _ h)) (by decide +kernel))
set_option maxRecDepth 20000 in
theorem gX9_whole_X9_revokedIn : GoodIn wsX9_whole (wsV RX9 134 RX9 yX9_revokedIn wsX9_revokedIn) := goodIn_app (goodIn_of _ (by decide +kernel)) ggX9_whole_X9_revokedIn
def rm_X9_whole : Room := { frames := 2, cells := 0, slots := 0, locals := 39 }
set_option maxHeartbeats 4000000 in
set_option maxRecDepth 100000 in
theorem c_X9_whole (l : Launch) {nb : Nat} {G : zG} {ad : Nat → Nat} {σ σ' : zs} {r : Int32} (hf : f_X9_whole σ  = some (r, σ')) : zMi l yX9_whole wsX9_whole rm_X9_whole G (zS nb) ad σ [.ref (ad 65)] r σ' := by
  intro sz
  refine Met.ofW (cc := cX9_whole) (maxL := 3) (ret := (some .int)) (by decide) rfl ?_
  intro p e s m args below meth c s₁ B hml hv
  obtain ⟨rfl, hsz, hv⟩ := hv
  have hx := B.exec
  have hb := B.bytes
  have hr := B.returns
  have hts := atoms_spec (ws := wsX9_whole) B.pre
  have hown : s.vm.findClass RX9 = some m.cls := findClass_of_methodNamed B.named
  have hlocks := B.notSynchronized
  subst hsz
  have B := zB_start hv
  have hinRX9 : ∀ w ∈ wsX90, w ∈ wsX9_whole := by decide +kernel
  have hl := lv_entry ([.ref (ad 65)]) (n := 3) (Nat.le_of_ble_eq_true rfl)
  rw [lg_entry_eq]
  generalize (lg_sl ([.ref (ad 65)]) ++ List.replicate (3 - (lg_sl ([.ref (ad 65)])).length) Slot.unset).toArray = ls at hl ⊢
  have hl : lv_has ls 3 [(0, .ref (ad 65))] := hl
  generalize hAe : zA ad (zS nb).length s.heap.size = A at B ⊢
  have L28 : ∀ (K4 : zs → Int32 → Int32 → Option (Int32 × zs)) (hK4 : ∀ (σ : zs) (v1 : Int32) (v2 : Int32) (H : Heap) (locs : List Loc) (ls : Array Slot), K4 σ v1 v2 = some (r, σ') → zB A s G (zS nb) ad σ H locs → lv_has ls 3 [(0, .ref (ad 65)), (1, .int v1), (2, .int v2)] → W p l e (headSpec wsX9_whole rm_X9_whole).room s m ([.ref (ad 65)] : List Value).toArray below meth c H locs 0 0 (MQ below (va_Qi (fun r' (_ : Unit) => r' = r) (zPost G (zS nb) ad σ') A) ([.ref (ad 65)] : List Value).toArray s 0 0 A) (F0 m 4 ls [])) (σ : zs) (v2 : Int32) (s0 : Int32) (s1 : Int32) (H : Heap) (locs : List Loc) (ls : Array Slot), f_X9_whole_28 K4 σ v2 s0 s1 = some (r, σ') → zB A s G (zS nb) ad σ H locs → lv_has ls 3 [(0, .ref (ad 65)), (2, .int v2)] → W p l e (headSpec wsX9_whole rm_X9_whole).room s m ([.ref (ad 65)] : List Value).toArray below meth c H locs 0 0 (MQ below (va_Qi (fun r' (_ : Unit) => r' = r) (zPost G (zS nb) ad σ') A) ([.ref (ad 65)] : List Value).toArray s 0 0 A) (F0 m 28 ls [.int s0, .int s1]) := by
    intro K4 hK4 σ v2 s0 s1 H locs ls hf B hl
    unfold f_X9_whole_28 at hf
    refine lv_iadd hx hb dX9_whole_28 ?_
    refine lv_istore_n (lv' := [(1, .int (s1 + s0)), (0, .ref (ad 65)), (2, .int v2)]) hx hb dX9_whole_29 rfl hl (by decide) rfl (fun ls hl => ?_)
    refine lv_iinc (v := (v2 + (1 : Int32))) (lv' := [(2, .int (v2 + (1 : Int32))), (1, .int (s1 + s0)), (0, .ref (ad 65))]) hx hb dX9_whole_30 hl (k := 2) rfl (zc1 (by decide)) (by decide) rfl (fun ls hl => ?_)
    refine lv_goto (tgt := 4) hx hb dX9_whole_33 (by decide) ?_
    exact hK4 _ _ _ _ _ _ hf B (lv_sub hl [2, 1, 0] rfl)
  have L4 : ∀ (n : Nat) (σ : zs) (v1 : Int32) (v2 : Int32) (H : Heap) (locs : List Loc) (ls : Array Slot), zlp2 (f_X9_whole_4) n σ v1 v2 = some (r, σ') → zB A s G (zS nb) ad σ H locs → lv_has ls 3 [(0, .ref (ad 65)), (1, .int v1), (2, .int v2)] → W p l e (headSpec wsX9_whole rm_X9_whole).room s m ([.ref (ad 65)] : List Value).toArray below meth c H locs 0 0 (MQ below (va_Qi (fun r' (_ : Unit) => r' = r) (zPost G (zS nb) ad σ') A) ([.ref (ad 65)] : List Value).toArray s 0 0 A) (F0 m 4 ls []) := by
    intro n
    induction n with
    | zero =>
      intro σ v1 v2 H locs ls hf
      cases hf
    | succ n ih =>
      intro σ v1 v2 H locs ls hf B hl
      have hf : f_X9_whole_4 (zlp2 (f_X9_whole_4) n) σ v1 v2 = some (r, σ') := hf
      unfold f_X9_whole_4 at hf
      refine lv_iload_n hx hb dX9_whole_4 rfl (lv_at hl 2 rfl) ?_
      refine lv_aload_n hx hb dX9_whole_5 rfl (lv_at hl 0 rfl) ?_
      refine z_getr hx hb hts hinRX9 hown B 65 0 66 rfl rfl rfl (by decide) (by decide +kernel) rfl dX9_whole_6 ?_
      refine lv_iconst (v := (1 : Int32)) hx hb dX9_whole_9 (by decide) ?_
      obtain ⟨hg, hf⟩ := zg_some hf
      refine z_iald hx hb B 66 rfl (zin_ok hg) dX9_whole_10 ?_
      refine lv_icmp_ge (tgt := 36) hx hb dX9_whole_11 (by decide) (fun hc => ?_) (fun hc => ?_)
      · have hf := zif_t hc hf
        refine lv_iload_n hx hb dX9_whole_36 rfl (lv_at hl 1 rfl) ?_
        refine W.widen (k := 0) (n := 0) (Nat.le_of_ble_eq_true rfl) (Nat.le_of_ble_eq_true rfl) ?_
        exact z_iret hx hb hr rfl hlocks B hf dX9_whole_37
      · have hf := zif_f hc hf
        refine lv_iload_n hx hb dX9_whole_14 rfl (lv_at hl 1 rfl) ?_
        refine lv_aload_n hx hb dX9_whole_15 rfl (lv_at hl 0 rfl) ?_
        refine lv_iload_n hx hb dX9_whole_16 rfl (lv_at hl 2 rfl) ?_
        obtain ⟨r2, σ3, hu1, hf⟩ := zb_some hf
        refine z_i B (va_runV (As := [.int v2]) (rest := [.int v1]) ⟨hx, hb, hml, hown, hts⟩ (c_X9_revokedIn l hu1 _) (cwV 1 hts gX9_whole_X9_revokedIn rfl rfl rfl (by decide +kernel) ⟨Nat.le_of_ble_eq_true rfl, Nat.le_of_ble_eq_true rfl⟩) (z_preV B rfl rfl) rfl rfl hl.1 rfl (lv_room (Nat.le_of_ble_eq_true rfl)) dX9_whole_17 ⟨Nat.le_of_ble_eq_true rfl, Nat.le_of_ble_eq_true rfl⟩) (fun H locs B => ?_)
        refine lv_if_ne (tgt := 27) hx hb dX9_whole_20 (by decide) (fun hc => ?_) (fun hc => ?_)
        · have hf := zif_f hc hf
          refine lv_iconst (v := (0 : Int32)) hx hb dX9_whole_27 (by decide) ?_
          exact L28 _ ih  _ _ _ _ _ _ _ hf B (lv_sub hl [0, 2] rfl)
        · have hf := zif_t hc hf
          refine lv_iconst (v := (1 : Int32)) hx hb dX9_whole_23 (by decide) ?_
          refine lv_goto (tgt := 28) hx hb dX9_whole_24 (by decide) ?_
          exact L28 _ ih  _ _ _ _ _ _ _ hf B (lv_sub hl [0, 2] rfl)
  unfold f_X9_whole at hf
  refine lv_iconst (v := (0 : Int32)) hx hb dX9_whole_0 (by decide) ?_
  refine lv_istore_n (lv' := [(1, .int (0 : Int32)), (0, .ref (ad 65))]) hx hb dX9_whole_1 rfl hl (by decide) rfl (fun ls hl => ?_)
  refine lv_iconst (v := (0 : Int32)) hx hb dX9_whole_2 (by decide) ?_
  refine lv_istore_n (lv' := [(2, .int (0 : Int32)), (1, .int (0 : Int32)), (0, .ref (ad 65))]) hx hb dX9_whole_3 rfl hl (by decide) rfl (fun ls hl => ?_)
  exact L4  _ _ _ _ _ _ _ hf B (lv_sub hl [2, 1, 0] rfl)
theorem dX9_count_0 : decode cX9_count 0 = .ok (.aload_n 0, 1) := by decide +kernel
theorem dX9_count_1 : decode cX9_count 1 = .ok (.iload_n 1, 1) := by decide +kernel
theorem dX9_count_2 : decode cX9_count 2 = .ok (.iconst 0, 1) := by decide +kernel
theorem dX9_count_3 : decode cX9_count 3 = .ok (.bipush 8, 2) := by decide +kernel
theorem dX9_count_5 : decode cX9_count 5 = .ok (.invokestatic 44, 3) := by decide +kernel
theorem dX9_count_8 : decode cX9_count 8 = .ok (.ifCond .eq 7, 3) := by decide +kernel
theorem dX9_count_11 : decode cX9_count 11 = .ok (.iconst 0, 1) := by decide +kernel
theorem dX9_count_12 : decode cX9_count 12 = .ok (.goto 4, 3) := by decide +kernel
theorem dX9_count_15 : decode cX9_count 15 = .ok (.iconst 1, 1) := by decide +kernel
theorem dX9_count_16 : decode cX9_count 16 = .ok (.putfield 41, 3) := by decide +kernel
theorem dX9_count_19 : decode cX9_count 19 = .ok (.aload_n 0, 1) := by decide +kernel
theorem dX9_count_20 : decode cX9_count 20 = .ok (.getfield 41, 3) := by decide +kernel
theorem dX9_count_23 : decode cX9_count 23 = .ok (.ifCond .eq 5, 3) := by decide +kernel
theorem dX9_count_26 : decode cX9_count 26 = .ok (.iconst 0, 1) := by decide +kernel
theorem dX9_count_27 : decode cX9_count 27 = .ok (.ireturn, 1) := by decide +kernel
theorem dX9_count_28 : decode cX9_count 28 = .ok (.iload_n 1, 1) := by decide +kernel
theorem dX9_count_29 : decode cX9_count 29 = .ok (.tableswitch 102 0 7 #[47, 54, 61, 68, 75, 82, 89, 97], 47) := by decide +kernel
theorem dX9_count_76 : decode cX9_count 76 = .ok (.aload_n 0, 1) := by decide +kernel
theorem dX9_count_77 : decode cX9_count 77 = .ok (.getfield 9, 3) := by decide +kernel
theorem dX9_count_80 : decode cX9_count 80 = .ok (.iconst 1, 1) := by decide +kernel
theorem dX9_count_81 : decode cX9_count 81 = .ok (.iaload, 1) := by decide +kernel
theorem dX9_count_82 : decode cX9_count 82 = .ok (.ireturn, 1) := by decide +kernel
theorem dX9_count_83 : decode cX9_count 83 = .ok (.aload_n 0, 1) := by decide +kernel
theorem dX9_count_84 : decode cX9_count 84 = .ok (.getfield 9, 3) := by decide +kernel
theorem dX9_count_87 : decode cX9_count 87 = .ok (.iconst 0, 1) := by decide +kernel
theorem dX9_count_88 : decode cX9_count 88 = .ok (.iaload, 1) := by decide +kernel
theorem dX9_count_89 : decode cX9_count 89 = .ok (.ireturn, 1) := by decide +kernel
theorem dX9_count_90 : decode cX9_count 90 = .ok (.aload_n 0, 1) := by decide +kernel
theorem dX9_count_91 : decode cX9_count 91 = .ok (.getfield 9, 3) := by decide +kernel
theorem dX9_count_94 : decode cX9_count 94 = .ok (.iconst 2, 1) := by decide +kernel
theorem dX9_count_95 : decode cX9_count 95 = .ok (.iaload, 1) := by decide +kernel
theorem dX9_count_96 : decode cX9_count 96 = .ok (.ireturn, 1) := by decide +kernel
theorem dX9_count_97 : decode cX9_count 97 = .ok (.aload_n 0, 1) := by decide +kernel
theorem dX9_count_98 : decode cX9_count 98 = .ok (.getfield 9, 3) := by decide +kernel
theorem dX9_count_101 : decode cX9_count 101 = .ok (.iconst 3, 1) := by decide +kernel
theorem dX9_count_102 : decode cX9_count 102 = .ok (.iaload, 1) := by decide +kernel
theorem dX9_count_103 : decode cX9_count 103 = .ok (.ireturn, 1) := by decide +kernel
theorem dX9_count_104 : decode cX9_count 104 = .ok (.aload_n 0, 1) := by decide +kernel
theorem dX9_count_105 : decode cX9_count 105 = .ok (.getfield 9, 3) := by decide +kernel
theorem dX9_count_108 : decode cX9_count 108 = .ok (.iconst 4, 1) := by decide +kernel
theorem dX9_count_109 : decode cX9_count 109 = .ok (.iaload, 1) := by decide +kernel
theorem dX9_count_110 : decode cX9_count 110 = .ok (.ireturn, 1) := by decide +kernel
theorem dX9_count_111 : decode cX9_count 111 = .ok (.aload_n 0, 1) := by decide +kernel
theorem dX9_count_112 : decode cX9_count 112 = .ok (.getfield 9, 3) := by decide +kernel
theorem dX9_count_115 : decode cX9_count 115 = .ok (.iconst 5, 1) := by decide +kernel
theorem dX9_count_116 : decode cX9_count 116 = .ok (.iaload, 1) := by decide +kernel
theorem dX9_count_117 : decode cX9_count 117 = .ok (.ireturn, 1) := by decide +kernel
theorem dX9_count_118 : decode cX9_count 118 = .ok (.aload_n 0, 1) := by decide +kernel
theorem dX9_count_119 : decode cX9_count 119 = .ok (.getfield 9, 3) := by decide +kernel
theorem dX9_count_122 : decode cX9_count 122 = .ok (.bipush 6, 2) := by decide +kernel
theorem dX9_count_124 : decode cX9_count 124 = .ok (.iaload, 1) := by decide +kernel
theorem dX9_count_125 : decode cX9_count 125 = .ok (.ireturn, 1) := by decide +kernel
theorem dX9_count_126 : decode cX9_count 126 = .ok (.aload_n 0, 1) := by decide +kernel
theorem dX9_count_127 : decode cX9_count 127 = .ok (.getfield 92, 3) := by decide +kernel
theorem dX9_count_130 : decode cX9_count 130 = .ok (.ireturn, 1) := by decide +kernel
theorem dX9_count_131 : decode cX9_count 131 = .ok (.aload_n 0, 1) := by decide +kernel
theorem dX9_count_132 : decode cX9_count 132 = .ok (.invokevirtual 217, 3) := by decide +kernel
theorem dX9_count_135 : decode cX9_count 135 = .ok (.ireturn, 1) := by decide +kernel
set_option maxRecDepth 20000 in
theorem ggX9_count_X9_isIn : GoodIn wsX9_count wsX9_isIn := goodIn_r _ [7] (by decide +kernel) (by decide +kernel)
set_option maxRecDepth 20000 in
theorem gX9_count_X9_isIn : GoodIn wsX9_count (va_wsS RX9 44 yX9_isIn wsX9_isIn) := goodIn_app (goodIn_of _ (by decide +kernel)) ggX9_count_X9_isIn
set_option maxRecDepth 20000 in
theorem ggX9_count_X9_whole : GoodIn wsX9_count wsX9_whole := goodIn_ca (goodIn_r _ [11, 2, 12, 13, 14, 6, 15, 16, 17, 18, 19, 20, 21, 22, 23, 24, 25, 26, 27, 28, 29, 30, 31, 32, 33, 34, 35] (by decide +kernel) (by decide +kernel)) (goodIn_sub (fun _ h => List.mem_cons_of_mem _ (List.mem_append_right _ h)) (by decide +kernel))
set_option maxRecDepth 20000 in
theorem gX9_count_X9_whole : GoodIn wsX9_count (wsV RX9 217 RX9 yX9_whole wsX9_whole) := goodIn_app (goodIn_of _ (by decide +kernel)) ggX9_count_X9_whole
def rm_X9_count : Room := { frames := 3, cells := 0, slots := 0, locals := 61 }
set_option maxHeartbeats 4000000 in
set_option maxRecDepth 100000 in
theorem c_X9_count (l : Launch) {nb : Nat} {G : zG} {ad : Nat → Nat} {σ σ' : zs} {a1 : Int32} {r : Int32} (hf : f_X9_count σ a1 = some (r, σ')) : zMi l yX9_count wsX9_count rm_X9_count G (zS nb) ad σ [.ref (ad 65), .int a1] r σ' := by
  intro sz
  refine Met.ofW (cc := cX9_count) (maxL := 2) (ret := (some .int)) (by decide) rfl ?_
  intro p e s m args below meth c s₁ B hml hv
  obtain ⟨rfl, hsz, hv⟩ := hv
  have hx := B.exec
  have hb := B.bytes
  have hr := B.returns
  have hts := atoms_spec (ws := wsX9_count) B.pre
  have hown : s.vm.findClass RX9 = some m.cls := findClass_of_methodNamed B.named
  have hlocks := B.notSynchronized
  subst hsz
  have B := zB_start hv
  have hinRX9 : ∀ w ∈ wsX90, w ∈ wsX9_count := by decide +kernel
  have hl := lv_entry ([.ref (ad 65), .int a1]) (n := 2) (Nat.le_of_ble_eq_true rfl)
  rw [lg_entry_eq]
  generalize (lg_sl ([.ref (ad 65), .int a1]) ++ List.replicate (2 - (lg_sl ([.ref (ad 65), .int a1])).length) Slot.unset).toArray = ls at hl ⊢
  have hl : lv_has ls 2 [(0, .ref (ad 65)), (1, .int a1)] := hl
  generalize hAe : zA ad (zS nb).length s.heap.size = A at B ⊢
  have L16 : ∀ (σ : zs) (v1 : Int32) (s0 : Int32) (H : Heap) (locs : List Loc) (ls : Array Slot), f_X9_count_16 σ v1 s0 = some (r, σ') → zB A s G (zS nb) ad σ H locs → lv_has ls 2 [(0, .ref (ad 65)), (1, .int v1)] → W p l e (headSpec wsX9_count rm_X9_count).room s m ([.ref (ad 65), .int a1] : List Value).toArray below meth c H locs 0 0 (MQ below (va_Qi (fun r' (_ : Unit) => r' = r) (zPost G (zS nb) ad σ') A) ([.ref (ad 65), .int a1] : List Value).toArray s 0 0 A) (F0 m 16 ls [.int s0, .ref (ad 65)]) := by
    intro σ v1 s0 H locs ls hf B hl
    unfold f_X9_count_16 at hf
    refine z_puti hx hb hts hinRX9 hown tyX9 tyX9_ok nmX9 B 65 3 rfl rfl rfl (by decide) (by decide +kernel) rfl rfl rfl rfl dX9_count_16 (fun H locs B => ?_)
    refine lv_aload_n hx hb dX9_count_19 rfl (lv_at hl 0 rfl) ?_
    refine z_geti hx hb hts hinRX9 hown B 65 3 rfl rfl rfl (by decide) (by decide +kernel) rfl dX9_count_20 ?_
    refine lv_if_eq (tgt := 28) hx hb dX9_count_23 (by decide) (fun hc => ?_) (fun hc => ?_)
    · have hf := zif_t hc hf
      refine lv_iload_n hx hb dX9_count_28 rfl (lv_at hl 1 rfl) ?_
      by_cases hc0 : v1 = (0 : Int32)
      · have hf := zif_t hc0 hf
        refine lv_tableIn (off := 47) (tgt := 76) hx hb dX9_count_29 (by rw [hc0]; decide) (by rw [hc0]; decide) (by rw [hc0]; rfl) (by decide) ?_
        refine lv_aload_n hx hb dX9_count_76 rfl (lv_at hl 0 rfl) ?_
        refine z_getr hx hb hts hinRX9 hown B 65 0 66 rfl rfl rfl (by decide) (by decide +kernel) rfl dX9_count_77 ?_
        refine lv_iconst (v := (1 : Int32)) hx hb dX9_count_80 (by decide) ?_
        obtain ⟨hg, hf⟩ := zg_some hf
        refine z_iald hx hb B 66 rfl (zin_ok hg) dX9_count_81 ?_
        refine W.widen (k := 0) (n := 0) (Nat.le_of_ble_eq_true rfl) (Nat.le_of_ble_eq_true rfl) ?_
        exact z_iret hx hb hr rfl hlocks B hf dX9_count_82
      have hf := zif_f hc0 hf
      by_cases hc1 : v1 = (1 : Int32)
      · have hf := zif_t hc1 hf
        refine lv_tableIn (off := 54) (tgt := 83) hx hb dX9_count_29 (by rw [hc1]; decide) (by rw [hc1]; decide) (by rw [hc1]; rfl) (by decide) ?_
        refine lv_aload_n hx hb dX9_count_83 rfl (lv_at hl 0 rfl) ?_
        refine z_getr hx hb hts hinRX9 hown B 65 0 66 rfl rfl rfl (by decide) (by decide +kernel) rfl dX9_count_84 ?_
        refine lv_iconst (v := (0 : Int32)) hx hb dX9_count_87 (by decide) ?_
        obtain ⟨hg, hf⟩ := zg_some hf
        refine z_iald hx hb B 66 rfl (zin_ok hg) dX9_count_88 ?_
        refine W.widen (k := 0) (n := 0) (Nat.le_of_ble_eq_true rfl) (Nat.le_of_ble_eq_true rfl) ?_
        exact z_iret hx hb hr rfl hlocks B hf dX9_count_89
      have hf := zif_f hc1 hf
      by_cases hc2 : v1 = (2 : Int32)
      · have hf := zif_t hc2 hf
        refine lv_tableIn (off := 61) (tgt := 90) hx hb dX9_count_29 (by rw [hc2]; decide) (by rw [hc2]; decide) (by rw [hc2]; rfl) (by decide) ?_
        refine lv_aload_n hx hb dX9_count_90 rfl (lv_at hl 0 rfl) ?_
        refine z_getr hx hb hts hinRX9 hown B 65 0 66 rfl rfl rfl (by decide) (by decide +kernel) rfl dX9_count_91 ?_
        refine lv_iconst (v := (2 : Int32)) hx hb dX9_count_94 (by decide) ?_
        obtain ⟨hg, hf⟩ := zg_some hf
        refine z_iald hx hb B 66 rfl (zin_ok hg) dX9_count_95 ?_
        refine W.widen (k := 0) (n := 0) (Nat.le_of_ble_eq_true rfl) (Nat.le_of_ble_eq_true rfl) ?_
        exact z_iret hx hb hr rfl hlocks B hf dX9_count_96
      have hf := zif_f hc2 hf
      by_cases hc3 : v1 = (3 : Int32)
      · have hf := zif_t hc3 hf
        refine lv_tableIn (off := 68) (tgt := 97) hx hb dX9_count_29 (by rw [hc3]; decide) (by rw [hc3]; decide) (by rw [hc3]; rfl) (by decide) ?_
        refine lv_aload_n hx hb dX9_count_97 rfl (lv_at hl 0 rfl) ?_
        refine z_getr hx hb hts hinRX9 hown B 65 0 66 rfl rfl rfl (by decide) (by decide +kernel) rfl dX9_count_98 ?_
        refine lv_iconst (v := (3 : Int32)) hx hb dX9_count_101 (by decide) ?_
        obtain ⟨hg, hf⟩ := zg_some hf
        refine z_iald hx hb B 66 rfl (zin_ok hg) dX9_count_102 ?_
        refine W.widen (k := 0) (n := 0) (Nat.le_of_ble_eq_true rfl) (Nat.le_of_ble_eq_true rfl) ?_
        exact z_iret hx hb hr rfl hlocks B hf dX9_count_103
      have hf := zif_f hc3 hf
      by_cases hc4 : v1 = (4 : Int32)
      · have hf := zif_t hc4 hf
        refine lv_tableIn (off := 75) (tgt := 104) hx hb dX9_count_29 (by rw [hc4]; decide) (by rw [hc4]; decide) (by rw [hc4]; rfl) (by decide) ?_
        refine lv_aload_n hx hb dX9_count_104 rfl (lv_at hl 0 rfl) ?_
        refine z_getr hx hb hts hinRX9 hown B 65 0 66 rfl rfl rfl (by decide) (by decide +kernel) rfl dX9_count_105 ?_
        refine lv_iconst (v := (4 : Int32)) hx hb dX9_count_108 (by decide) ?_
        obtain ⟨hg, hf⟩ := zg_some hf
        refine z_iald hx hb B 66 rfl (zin_ok hg) dX9_count_109 ?_
        refine W.widen (k := 0) (n := 0) (Nat.le_of_ble_eq_true rfl) (Nat.le_of_ble_eq_true rfl) ?_
        exact z_iret hx hb hr rfl hlocks B hf dX9_count_110
      have hf := zif_f hc4 hf
      by_cases hc5 : v1 = (5 : Int32)
      · have hf := zif_t hc5 hf
        refine lv_tableIn (off := 82) (tgt := 111) hx hb dX9_count_29 (by rw [hc5]; decide) (by rw [hc5]; decide) (by rw [hc5]; rfl) (by decide) ?_
        refine lv_aload_n hx hb dX9_count_111 rfl (lv_at hl 0 rfl) ?_
        refine z_getr hx hb hts hinRX9 hown B 65 0 66 rfl rfl rfl (by decide) (by decide +kernel) rfl dX9_count_112 ?_
        refine lv_iconst (v := (5 : Int32)) hx hb dX9_count_115 (by decide) ?_
        obtain ⟨hg, hf⟩ := zg_some hf
        refine z_iald hx hb B 66 rfl (zin_ok hg) dX9_count_116 ?_
        refine W.widen (k := 0) (n := 0) (Nat.le_of_ble_eq_true rfl) (Nat.le_of_ble_eq_true rfl) ?_
        exact z_iret hx hb hr rfl hlocks B hf dX9_count_117
      have hf := zif_f hc5 hf
      by_cases hc6 : v1 = (6 : Int32)
      · have hf := zif_t hc6 hf
        refine lv_tableIn (off := 89) (tgt := 118) hx hb dX9_count_29 (by rw [hc6]; decide) (by rw [hc6]; decide) (by rw [hc6]; rfl) (by decide) ?_
        refine lv_aload_n hx hb dX9_count_118 rfl (lv_at hl 0 rfl) ?_
        refine z_getr hx hb hts hinRX9 hown B 65 0 66 rfl rfl rfl (by decide) (by decide +kernel) rfl dX9_count_119 ?_
        refine lv_bipush (v := (6 : Int32)) hx hb dX9_count_122 (by decide) ?_
        obtain ⟨hg, hf⟩ := zg_some hf
        refine z_iald hx hb B 66 rfl (zin_ok hg) dX9_count_124 ?_
        refine W.widen (k := 0) (n := 0) (Nat.le_of_ble_eq_true rfl) (Nat.le_of_ble_eq_true rfl) ?_
        exact z_iret hx hb hr rfl hlocks B hf dX9_count_125
      have hf := zif_f hc6 hf
      by_cases hc7 : v1 = (7 : Int32)
      · have hf := zif_t hc7 hf
        refine lv_tableIn (off := 97) (tgt := 126) hx hb dX9_count_29 (by rw [hc7]; decide) (by rw [hc7]; decide) (by rw [hc7]; rfl) (by decide) ?_
        refine lv_aload_n hx hb dX9_count_126 rfl (lv_at hl 0 rfl) ?_
        refine z_geti hx hb hts hinRX9 hown B 65 5 rfl rfl rfl (by decide) (by decide +kernel) rfl dX9_count_127 ?_
        refine W.widen (k := 0) (n := 0) (Nat.le_of_ble_eq_true rfl) (Nat.le_of_ble_eq_true rfl) ?_
        exact z_iret hx hb hr rfl hlocks B hf dX9_count_130
      have hf := zif_f hc7 hf
      refine lv_tableOut (tgt := 131) hx hb dX9_count_29 (zsw_out (fun j h1 h2 hj => ?_)) (by decide) ?_
      · have hd : j = 0 ∨ j = 1 ∨ j = 2 ∨ j = 3 ∨ j = 4 ∨ j = 5 ∨ j = 6 ∨ j = 7 := by omega
        rcases hd with rfl | rfl | rfl | rfl | rfl | rfl | rfl | rfl
        · exact hc0 (Int32.toInt_inj.mp (hj.trans (by decide)))
        · exact hc1 (Int32.toInt_inj.mp (hj.trans (by decide)))
        · exact hc2 (Int32.toInt_inj.mp (hj.trans (by decide)))
        · exact hc3 (Int32.toInt_inj.mp (hj.trans (by decide)))
        · exact hc4 (Int32.toInt_inj.mp (hj.trans (by decide)))
        · exact hc5 (Int32.toInt_inj.mp (hj.trans (by decide)))
        · exact hc6 (Int32.toInt_inj.mp (hj.trans (by decide)))
        · exact hc7 (Int32.toInt_inj.mp (hj.trans (by decide)))
      refine lv_aload_n hx hb dX9_count_131 rfl (lv_at hl 0 rfl) ?_
      obtain ⟨r5, σ6, hu4, hf⟩ := zb_some hf
      refine z_i B (va_runV (As := []) (rest := []) ⟨hx, hb, hml, hown, hts⟩ (c_X9_whole l hu4 _) (cwV 0 hts gX9_count_X9_whole rfl rfl rfl (by decide +kernel) ⟨Nat.le_of_ble_eq_true rfl, Nat.le_of_ble_eq_true rfl⟩) (z_preV B rfl rfl) rfl rfl hl.1 rfl (lv_room (Nat.le_of_ble_eq_true rfl)) dX9_count_132 ⟨Nat.le_of_ble_eq_true rfl, Nat.le_of_ble_eq_true rfl⟩) (fun H locs B => ?_)
      refine W.widen (k := 0) (n := 0) (Nat.le_of_ble_eq_true rfl) (Nat.le_of_ble_eq_true rfl) ?_
      exact z_iret hx hb hr rfl hlocks B hf dX9_count_135
    · have hf := zif_f hc hf
      refine lv_iconst (v := (0 : Int32)) hx hb dX9_count_26 (by decide) ?_
      refine W.widen (k := 0) (n := 0) (Nat.le_of_ble_eq_true rfl) (Nat.le_of_ble_eq_true rfl) ?_
      exact z_iret hx hb hr rfl hlocks B hf dX9_count_27
  unfold f_X9_count at hf
  refine lv_aload_n hx hb dX9_count_0 rfl (lv_at hl 0 rfl) ?_
  refine lv_iload_n hx hb dX9_count_1 rfl (lv_at hl 1 rfl) ?_
  refine lv_iconst (v := (0 : Int32)) hx hb dX9_count_2 (by decide) ?_
  refine lv_bipush (v := (8 : Int32)) hx hb dX9_count_3 (by decide) ?_
  obtain ⟨r2, σ3, hu1, hf⟩ := zb_some hf
  refine z_i B (va_runS (As := [.int a1, .int (0 : Int32), .int (8 : Int32)]) (rest := [.ref (ad 65)]) ⟨hx, hb, hml, hown, hts⟩ (c_X9_isIn l hu1 _) (va_cwS 3 hts gX9_count_X9_isIn rfl rfl rfl (by decide +kernel) ⟨Nat.le_of_ble_eq_true rfl, Nat.le_of_ble_eq_true rfl⟩) (z_preS B) rfl rfl hl.1 rfl (lv_room (Nat.le_of_ble_eq_true rfl)) dX9_count_5 ⟨Nat.le_of_ble_eq_true rfl, Nat.le_of_ble_eq_true rfl⟩) (fun H locs B => ?_)
  refine lv_if_eq (tgt := 15) hx hb dX9_count_8 (by decide) (fun hc => ?_) (fun hc => ?_)
  · have hf := zif_t hc hf
    refine lv_iconst (v := (1 : Int32)) hx hb dX9_count_15 (by decide) ?_
    exact L16  _ _ _ _ _ _ hf B (lv_sub hl [0, 1] rfl)
  · have hf := zif_f hc hf
    refine lv_iconst (v := (0 : Int32)) hx hb dX9_count_11 (by decide) ?_
    refine lv_goto (tgt := 16) hx hb dX9_count_12 (by decide) ?_
    exact L16  _ _ _ _ _ _ hf B (lv_sub hl [0, 1] rfl)
theorem dX9_save_0 : decode cX9_save 0 = .ok (.aload_n 0, 1) := by decide +kernel
theorem dX9_save_1 : decode cX9_save 1 = .ok (.iconst 0, 1) := by decide +kernel
theorem dX9_save_2 : decode cX9_save 2 = .ok (.putfield 41, 3) := by decide +kernel
theorem dX9_save_5 : decode cX9_save 5 = .ok (.iconst 0, 1) := by decide +kernel
theorem dX9_save_6 : decode cX9_save 6 = .ok (.istore_n 1, 1) := by decide +kernel
theorem dX9_save_7 : decode cX9_save 7 = .ok (.iload_n 1, 1) := by decide +kernel
theorem dX9_save_8 : decode cX9_save 8 = .ok (.sipush 628, 3) := by decide +kernel
theorem dX9_save_11 : decode cX9_save 11 = .ok (.if_icmp .ge 21, 3) := by decide +kernel
theorem dX9_save_14 : decode cX9_save 14 = .ok (.aload_n 0, 1) := by decide +kernel
theorem dX9_save_15 : decode cX9_save 15 = .ok (.getfield 13, 3) := by decide +kernel
theorem dX9_save_18 : decode cX9_save 18 = .ok (.iload_n 1, 1) := by decide +kernel
theorem dX9_save_19 : decode cX9_save 19 = .ok (.aload_n 0, 1) := by decide +kernel
theorem dX9_save_20 : decode cX9_save 20 = .ok (.getfield 9, 3) := by decide +kernel
theorem dX9_save_23 : decode cX9_save 23 = .ok (.iload_n 1, 1) := by decide +kernel
theorem dX9_save_24 : decode cX9_save 24 = .ok (.iaload, 1) := by decide +kernel
theorem dX9_save_25 : decode cX9_save 25 = .ok (.iastore, 1) := by decide +kernel
theorem dX9_save_26 : decode cX9_save 26 = .ok (.iinc 1 1, 3) := by decide +kernel
theorem dX9_save_29 : decode cX9_save 29 = .ok (.goto (-22), 3) := by decide +kernel
theorem dX9_save_32 : decode cX9_save 32 = .ok (.aload_n 0, 1) := by decide +kernel
theorem dX9_save_33 : decode cX9_save 33 = .ok (.iconst 1, 1) := by decide +kernel
theorem dX9_save_34 : decode cX9_save 34 = .ok (.putfield 220, 3) := by decide +kernel
theorem dX9_save_37 : decode cX9_save 37 = .ok (.aload_n 0, 1) := by decide +kernel
theorem dX9_save_38 : decode cX9_save 38 = .ok (.getfield 9, 3) := by decide +kernel
theorem dX9_save_41 : decode cX9_save 41 = .ok (.iconst 1, 1) := by decide +kernel
theorem dX9_save_42 : decode cX9_save 42 = .ok (.iaload, 1) := by decide +kernel
theorem dX9_save_43 : decode cX9_save 43 = .ok (.ireturn, 1) := by decide +kernel
def rm_X9_save : Room := { frames := 1, cells := 0, slots := 0, locals := 16 }
set_option maxHeartbeats 4000000 in
set_option maxRecDepth 100000 in
theorem c_X9_save (l : Launch) {nb : Nat} {G : zG} {ad : Nat → Nat} {σ σ' : zs} {r : Int32} (hf : f_X9_save σ  = some (r, σ')) : zMi l yX9_save wsX9_save rm_X9_save G (zS nb) ad σ [.ref (ad 65)] r σ' := by
  intro sz
  refine Met.ofW (cc := cX9_save) (maxL := 2) (ret := (some .int)) (by decide) rfl ?_
  intro p e s m args below meth c s₁ B hml hv
  obtain ⟨rfl, hsz, hv⟩ := hv
  have hx := B.exec
  have hb := B.bytes
  have hr := B.returns
  have hts := atoms_spec (ws := wsX9_save) B.pre
  have hown : s.vm.findClass RX9 = some m.cls := findClass_of_methodNamed B.named
  have hlocks := B.notSynchronized
  subst hsz
  have B := zB_start hv
  have hinRX9 : ∀ w ∈ wsX90, w ∈ wsX9_save := by decide +kernel
  have hl := lv_entry ([.ref (ad 65)]) (n := 2) (Nat.le_of_ble_eq_true rfl)
  rw [lg_entry_eq]
  generalize (lg_sl ([.ref (ad 65)]) ++ List.replicate (2 - (lg_sl ([.ref (ad 65)])).length) Slot.unset).toArray = ls at hl ⊢
  have hl : lv_has ls 2 [(0, .ref (ad 65))] := hl
  generalize hAe : zA ad (zS nb).length s.heap.size = A at B ⊢
  have L7 : ∀ (n : Nat) (σ : zs) (v1 : Int32) (H : Heap) (locs : List Loc) (ls : Array Slot), zlp1 (f_X9_save_7) n σ v1 = some (r, σ') → zB A s G (zS nb) ad σ H locs → lv_has ls 2 [(0, .ref (ad 65)), (1, .int v1)] → W p l e (headSpec wsX9_save rm_X9_save).room s m ([.ref (ad 65)] : List Value).toArray below meth c H locs 0 0 (MQ below (va_Qi (fun r' (_ : Unit) => r' = r) (zPost G (zS nb) ad σ') A) ([.ref (ad 65)] : List Value).toArray s 0 0 A) (F0 m 7 ls []) := by
    intro n
    induction n with
    | zero =>
      intro σ v1 H locs ls hf
      cases hf
    | succ n ih =>
      intro σ v1 H locs ls hf B hl
      have hf : f_X9_save_7 (zlp1 (f_X9_save_7) n) σ v1 = some (r, σ') := hf
      unfold f_X9_save_7 at hf
      refine lv_iload_n hx hb dX9_save_7 rfl (lv_at hl 1 rfl) ?_
      refine lv_sipush (v := (628 : Int32)) hx hb dX9_save_8 (by decide) ?_
      refine lv_icmp_ge (tgt := 32) hx hb dX9_save_11 (by decide) (fun hc => ?_) (fun hc => ?_)
      · have hf := zif_t hc hf
        refine lv_aload_n hx hb dX9_save_32 rfl (lv_at hl 0 rfl) ?_
        refine lv_iconst (v := (1 : Int32)) hx hb dX9_save_33 (by decide) ?_
        refine z_puti hx hb hts hinRX9 hown tyX9 tyX9_ok nmX9 B 65 2 rfl rfl rfl (by decide) (by decide +kernel) rfl rfl (by decide) (by decide) dX9_save_34 (fun H locs B => ?_)
        refine lv_aload_n hx hb dX9_save_37 rfl (lv_at hl 0 rfl) ?_
        refine z_getr hx hb hts hinRX9 hown B 65 0 66 rfl rfl rfl (by decide) (by decide +kernel) rfl dX9_save_38 ?_
        refine lv_iconst (v := (1 : Int32)) hx hb dX9_save_41 (by decide) ?_
        obtain ⟨hg, hf⟩ := zg_some hf
        refine z_iald hx hb B 66 rfl (zin_ok hg) dX9_save_42 ?_
        refine W.widen (k := 0) (n := 0) (Nat.le_of_ble_eq_true rfl) (Nat.le_of_ble_eq_true rfl) ?_
        exact z_iret hx hb hr rfl hlocks B hf dX9_save_43
      · have hf := zif_f hc hf
        refine lv_aload_n hx hb dX9_save_14 rfl (lv_at hl 0 rfl) ?_
        refine z_getr hx hb hts hinRX9 hown B 65 1 67 rfl rfl rfl (by decide) (by decide +kernel) rfl dX9_save_15 ?_
        refine lv_iload_n hx hb dX9_save_18 rfl (lv_at hl 1 rfl) ?_
        refine lv_aload_n hx hb dX9_save_19 rfl (lv_at hl 0 rfl) ?_
        refine z_getr hx hb hts hinRX9 hown B 65 0 66 rfl rfl rfl (by decide) (by decide +kernel) rfl dX9_save_20 ?_
        refine lv_iload_n hx hb dX9_save_23 rfl (lv_at hl 1 rfl) ?_
        obtain ⟨hg, hf⟩ := zg_some hf
        refine z_iald hx hb B 66 rfl (zin_ok hg) dX9_save_24 ?_
        obtain ⟨hg, hf⟩ := zg_some hf
        refine z_iast hx hb B 67 rfl (zin_ok hg) dX9_save_25 (fun H locs B => ?_)
        refine lv_iinc (v := (v1 + (1 : Int32))) (lv' := [(1, .int (v1 + (1 : Int32))), (0, .ref (ad 65))]) hx hb dX9_save_26 hl (k := 1) rfl (zc1 (by decide)) (by decide) rfl (fun ls hl => ?_)
        refine lv_goto (tgt := 7) hx hb dX9_save_29 (by decide) ?_
        exact ih _ _ _ _ _ hf B (lv_sub hl [1, 0] rfl)
  unfold f_X9_save at hf
  refine lv_aload_n hx hb dX9_save_0 rfl (lv_at hl 0 rfl) ?_
  refine lv_iconst (v := (0 : Int32)) hx hb dX9_save_1 (by decide) ?_
  refine z_puti hx hb hts hinRX9 hown tyX9 tyX9_ok nmX9 B 65 3 rfl rfl rfl (by decide) (by decide +kernel) rfl rfl rfl rfl dX9_save_2 (fun H locs B => ?_)
  refine lv_iconst (v := (0 : Int32)) hx hb dX9_save_5 (by decide) ?_
  refine lv_istore_n (lv' := [(1, .int (0 : Int32)), (0, .ref (ad 65))]) hx hb dX9_save_6 rfl hl (by decide) rfl (fun ls hl => ?_)
  exact L7  _ _ _ _ _ _ hf B (lv_sub hl [1, 0] rfl)
theorem dX9_restore_0 : decode cX9_restore 0 = .ok (.aload_n 0, 1) := by decide +kernel
theorem dX9_restore_1 : decode cX9_restore 1 = .ok (.aload_n 0, 1) := by decide +kernel
theorem dX9_restore_2 : decode cX9_restore 2 = .ok (.getfield 220, 3) := by decide +kernel
theorem dX9_restore_5 : decode cX9_restore 5 = .ok (.ifCond .eq 7, 3) := by decide +kernel
theorem dX9_restore_8 : decode cX9_restore 8 = .ok (.iconst 0, 1) := by decide +kernel
theorem dX9_restore_9 : decode cX9_restore 9 = .ok (.goto 4, 3) := by decide +kernel
theorem dX9_restore_12 : decode cX9_restore 12 = .ok (.iconst 1, 1) := by decide +kernel
theorem dX9_restore_13 : decode cX9_restore 13 = .ok (.putfield 41, 3) := by decide +kernel
theorem dX9_restore_16 : decode cX9_restore 16 = .ok (.aload_n 0, 1) := by decide +kernel
theorem dX9_restore_17 : decode cX9_restore 17 = .ok (.getfield 41, 3) := by decide +kernel
theorem dX9_restore_20 : decode cX9_restore 20 = .ok (.ifCond .eq 5, 3) := by decide +kernel
theorem dX9_restore_23 : decode cX9_restore 23 = .ok (.iconst 0, 1) := by decide +kernel
theorem dX9_restore_24 : decode cX9_restore 24 = .ok (.ireturn, 1) := by decide +kernel
theorem dX9_restore_25 : decode cX9_restore 25 = .ok (.iconst 0, 1) := by decide +kernel
theorem dX9_restore_26 : decode cX9_restore 26 = .ok (.istore_n 1, 1) := by decide +kernel
theorem dX9_restore_27 : decode cX9_restore 27 = .ok (.iload_n 1, 1) := by decide +kernel
theorem dX9_restore_28 : decode cX9_restore 28 = .ok (.sipush 628, 3) := by decide +kernel
theorem dX9_restore_31 : decode cX9_restore 31 = .ok (.if_icmp .ge 21, 3) := by decide +kernel
theorem dX9_restore_34 : decode cX9_restore 34 = .ok (.aload_n 0, 1) := by decide +kernel
theorem dX9_restore_35 : decode cX9_restore 35 = .ok (.getfield 9, 3) := by decide +kernel
theorem dX9_restore_38 : decode cX9_restore 38 = .ok (.iload_n 1, 1) := by decide +kernel
theorem dX9_restore_39 : decode cX9_restore 39 = .ok (.aload_n 0, 1) := by decide +kernel
theorem dX9_restore_40 : decode cX9_restore 40 = .ok (.getfield 13, 3) := by decide +kernel
theorem dX9_restore_43 : decode cX9_restore 43 = .ok (.iload_n 1, 1) := by decide +kernel
theorem dX9_restore_44 : decode cX9_restore 44 = .ok (.iaload, 1) := by decide +kernel
theorem dX9_restore_45 : decode cX9_restore 45 = .ok (.iastore, 1) := by decide +kernel
theorem dX9_restore_46 : decode cX9_restore 46 = .ok (.iinc 1 1, 3) := by decide +kernel
theorem dX9_restore_49 : decode cX9_restore 49 = .ok (.goto (-22), 3) := by decide +kernel
theorem dX9_restore_52 : decode cX9_restore 52 = .ok (.aload_n 0, 1) := by decide +kernel
theorem dX9_restore_53 : decode cX9_restore 53 = .ok (.getfield 9, 3) := by decide +kernel
theorem dX9_restore_56 : decode cX9_restore 56 = .ok (.iconst 1, 1) := by decide +kernel
theorem dX9_restore_57 : decode cX9_restore 57 = .ok (.iaload, 1) := by decide +kernel
theorem dX9_restore_58 : decode cX9_restore 58 = .ok (.ireturn, 1) := by decide +kernel
def rm_X9_restore : Room := { frames := 1, cells := 0, slots := 0, locals := 16 }
set_option maxHeartbeats 4000000 in
set_option maxRecDepth 100000 in
theorem c_X9_restore (l : Launch) {nb : Nat} {G : zG} {ad : Nat → Nat} {σ σ' : zs} {r : Int32} (hf : f_X9_restore σ  = some (r, σ')) : zMi l yX9_restore wsX9_restore rm_X9_restore G (zS nb) ad σ [.ref (ad 65)] r σ' := by
  intro sz
  refine Met.ofW (cc := cX9_restore) (maxL := 2) (ret := (some .int)) (by decide) rfl ?_
  intro p e s m args below meth c s₁ B hml hv
  obtain ⟨rfl, hsz, hv⟩ := hv
  have hx := B.exec
  have hb := B.bytes
  have hr := B.returns
  have hts := atoms_spec (ws := wsX9_restore) B.pre
  have hown : s.vm.findClass RX9 = some m.cls := findClass_of_methodNamed B.named
  have hlocks := B.notSynchronized
  subst hsz
  have B := zB_start hv
  have hinRX9 : ∀ w ∈ wsX90, w ∈ wsX9_restore := by decide +kernel
  have hl := lv_entry ([.ref (ad 65)]) (n := 2) (Nat.le_of_ble_eq_true rfl)
  rw [lg_entry_eq]
  generalize (lg_sl ([.ref (ad 65)]) ++ List.replicate (2 - (lg_sl ([.ref (ad 65)])).length) Slot.unset).toArray = ls at hl ⊢
  have hl : lv_has ls 2 [(0, .ref (ad 65))] := hl
  generalize hAe : zA ad (zS nb).length s.heap.size = A at B ⊢
  have L27 : ∀ (n : Nat) (σ : zs) (v1 : Int32) (H : Heap) (locs : List Loc) (ls : Array Slot), zlp1 (f_X9_restore_27) n σ v1 = some (r, σ') → zB A s G (zS nb) ad σ H locs → lv_has ls 2 [(0, .ref (ad 65)), (1, .int v1)] → W p l e (headSpec wsX9_restore rm_X9_restore).room s m ([.ref (ad 65)] : List Value).toArray below meth c H locs 0 0 (MQ below (va_Qi (fun r' (_ : Unit) => r' = r) (zPost G (zS nb) ad σ') A) ([.ref (ad 65)] : List Value).toArray s 0 0 A) (F0 m 27 ls []) := by
    intro n
    induction n with
    | zero =>
      intro σ v1 H locs ls hf
      cases hf
    | succ n ih =>
      intro σ v1 H locs ls hf B hl
      have hf : f_X9_restore_27 (zlp1 (f_X9_restore_27) n) σ v1 = some (r, σ') := hf
      unfold f_X9_restore_27 at hf
      refine lv_iload_n hx hb dX9_restore_27 rfl (lv_at hl 1 rfl) ?_
      refine lv_sipush (v := (628 : Int32)) hx hb dX9_restore_28 (by decide) ?_
      refine lv_icmp_ge (tgt := 52) hx hb dX9_restore_31 (by decide) (fun hc => ?_) (fun hc => ?_)
      · have hf := zif_t hc hf
        refine lv_aload_n hx hb dX9_restore_52 rfl (lv_at hl 0 rfl) ?_
        refine z_getr hx hb hts hinRX9 hown B 65 0 66 rfl rfl rfl (by decide) (by decide +kernel) rfl dX9_restore_53 ?_
        refine lv_iconst (v := (1 : Int32)) hx hb dX9_restore_56 (by decide) ?_
        obtain ⟨hg, hf⟩ := zg_some hf
        refine z_iald hx hb B 66 rfl (zin_ok hg) dX9_restore_57 ?_
        refine W.widen (k := 0) (n := 0) (Nat.le_of_ble_eq_true rfl) (Nat.le_of_ble_eq_true rfl) ?_
        exact z_iret hx hb hr rfl hlocks B hf dX9_restore_58
      · have hf := zif_f hc hf
        refine lv_aload_n hx hb dX9_restore_34 rfl (lv_at hl 0 rfl) ?_
        refine z_getr hx hb hts hinRX9 hown B 65 0 66 rfl rfl rfl (by decide) (by decide +kernel) rfl dX9_restore_35 ?_
        refine lv_iload_n hx hb dX9_restore_38 rfl (lv_at hl 1 rfl) ?_
        refine lv_aload_n hx hb dX9_restore_39 rfl (lv_at hl 0 rfl) ?_
        refine z_getr hx hb hts hinRX9 hown B 65 1 67 rfl rfl rfl (by decide) (by decide +kernel) rfl dX9_restore_40 ?_
        refine lv_iload_n hx hb dX9_restore_43 rfl (lv_at hl 1 rfl) ?_
        obtain ⟨hg, hf⟩ := zg_some hf
        refine z_iald hx hb B 67 rfl (zin_ok hg) dX9_restore_44 ?_
        obtain ⟨hg, hf⟩ := zg_some hf
        refine z_iast hx hb B 66 rfl (zin_ok hg) dX9_restore_45 (fun H locs B => ?_)
        refine lv_iinc (v := (v1 + (1 : Int32))) (lv' := [(1, .int (v1 + (1 : Int32))), (0, .ref (ad 65))]) hx hb dX9_restore_46 hl (k := 1) rfl (zc1 (by decide)) (by decide) rfl (fun ls hl => ?_)
        refine lv_goto (tgt := 27) hx hb dX9_restore_49 (by decide) ?_
        exact ih _ _ _ _ _ hf B (lv_sub hl [1, 0] rfl)
  have L13 : ∀ (σ : zs) (s0 : Int32) (H : Heap) (locs : List Loc) (ls : Array Slot), f_X9_restore_13 σ s0 = some (r, σ') → zB A s G (zS nb) ad σ H locs → lv_has ls 2 [(0, .ref (ad 65))] → W p l e (headSpec wsX9_restore rm_X9_restore).room s m ([.ref (ad 65)] : List Value).toArray below meth c H locs 0 0 (MQ below (va_Qi (fun r' (_ : Unit) => r' = r) (zPost G (zS nb) ad σ') A) ([.ref (ad 65)] : List Value).toArray s 0 0 A) (F0 m 13 ls [.int s0, .ref (ad 65)]) := by
    intro σ s0 H locs ls hf B hl
    unfold f_X9_restore_13 at hf
    refine z_puti hx hb hts hinRX9 hown tyX9 tyX9_ok nmX9 B 65 3 rfl rfl rfl (by decide) (by decide +kernel) rfl rfl rfl rfl dX9_restore_13 (fun H locs B => ?_)
    refine lv_aload_n hx hb dX9_restore_16 rfl (lv_at hl 0 rfl) ?_
    refine z_geti hx hb hts hinRX9 hown B 65 3 rfl rfl rfl (by decide) (by decide +kernel) rfl dX9_restore_17 ?_
    refine lv_if_eq (tgt := 25) hx hb dX9_restore_20 (by decide) (fun hc => ?_) (fun hc => ?_)
    · have hf := zif_t hc hf
      refine lv_iconst (v := (0 : Int32)) hx hb dX9_restore_25 (by decide) ?_
      refine lv_istore_n (lv' := [(1, .int (0 : Int32)), (0, .ref (ad 65))]) hx hb dX9_restore_26 rfl hl (by decide) rfl (fun ls hl => ?_)
      exact L27  _ _ _ _ _ _ hf B (lv_sub hl [1, 0] rfl)
    · have hf := zif_f hc hf
      refine lv_iconst (v := (0 : Int32)) hx hb dX9_restore_23 (by decide) ?_
      refine W.widen (k := 0) (n := 0) (Nat.le_of_ble_eq_true rfl) (Nat.le_of_ble_eq_true rfl) ?_
      exact z_iret hx hb hr rfl hlocks B hf dX9_restore_24
  unfold f_X9_restore at hf
  refine lv_aload_n hx hb dX9_restore_0 rfl (lv_at hl 0 rfl) ?_
  refine lv_aload_n hx hb dX9_restore_1 rfl (lv_at hl 0 rfl) ?_
  refine z_geti hx hb hts hinRX9 hown B 65 2 rfl rfl rfl (by decide) (by decide +kernel) rfl dX9_restore_2 ?_
  refine lv_if_eq (tgt := 12) hx hb dX9_restore_5 (by decide) (fun hc => ?_) (fun hc => ?_)
  · have hf := zif_t hc hf
    refine lv_iconst (v := (1 : Int32)) hx hb dX9_restore_12 (by decide) ?_
    exact L13  _ _ _ _ _ hf B (lv_sub hl [0] rfl)
  · have hf := zif_f hc hf
    refine lv_iconst (v := (0 : Int32)) hx hb dX9_restore_8 (by decide) ?_
    refine lv_goto (tgt := 13) hx hb dX9_restore_9 (by decide) ?_
    exact L13  _ _ _ _ _ hf B (lv_sub hl [0] rfl)
theorem dL_mint_0 : decode cL_mint 0 = .ok (.aload 4, 2) := by decide +kernel
theorem dL_mint_2 : decode cL_mint 2 = .ok (.iconst 0, 1) := by decide +kernel
theorem dL_mint_3 : decode cL_mint 3 = .ok (.aload_n 0, 1) := by decide +kernel
theorem dL_mint_4 : decode cL_mint 4 = .ok (.iload_n 1, 1) := by decide +kernel
theorem dL_mint_5 : decode cL_mint 5 = .ok (.iload_n 2, 1) := by decide +kernel
theorem dL_mint_6 : decode cL_mint 6 = .ok (.iload_n 3, 1) := by decide +kernel
theorem dL_mint_7 : decode cL_mint 7 = .ok (.invokevirtual 7, 3) := by decide +kernel
theorem dL_mint_10 : decode cL_mint 10 = .ok (.i2l, 1) := by decide +kernel
theorem dL_mint_11 : decode cL_mint 11 = .ok (.lastore, 1) := by decide +kernel
theorem dL_mint_12 : decode cL_mint 12 = .ok (.goto 15, 3) := by decide +kernel
theorem dL_mint_15 : decode cL_mint 15 = .ok (.astore 5, 2) := by decide +kernel
theorem dL_mint_17 : decode cL_mint 17 = .ok (.iconst 1, 1) := by decide +kernel
theorem dL_mint_18 : decode cL_mint 18 = .ok (.ireturn, 1) := by decide +kernel
theorem dL_mint_19 : decode cL_mint 19 = .ok (.astore 5, 2) := by decide +kernel
theorem dL_mint_21 : decode cL_mint 21 = .ok (.iconst 2, 1) := by decide +kernel
theorem dL_mint_22 : decode cL_mint 22 = .ok (.ireturn, 1) := by decide +kernel
theorem dL_mint_23 : decode cL_mint 23 = .ok (.astore 5, 2) := by decide +kernel
theorem dL_mint_25 : decode cL_mint 25 = .ok (.iconst 3, 1) := by decide +kernel
theorem dL_mint_26 : decode cL_mint 26 = .ok (.ireturn, 1) := by decide +kernel
theorem dL_mint_27 : decode cL_mint 27 = .ok (.iconst 0, 1) := by decide +kernel
theorem dL_mint_28 : decode cL_mint 28 = .ok (.ireturn, 1) := by decide +kernel
set_option maxRecDepth 20000 in
theorem ggL_mint_X8_mint : GoodIn wsL_mint wsX8_mint := goodIn_ca (goodIn_ca (goodIn_ca (goodIn_ca (goodIn_r _ [8, 9, 10, 11, 12, 13, 7, 14, 15, 16, 17, 18, 19, 20, 21, 22, 23, 24, 25, 26, 27, 28, 29, 30, 31, 32, 33, 34, 35, 36, 37, 38, 39, 40, 41, 42, 43, 44, 45, 46, 47, 48, 49, 50, 51, 52, 53, 54, 55, 56, 57, 58, 59, 60, 61, 62, 63, 64, 65, 66, 67, 68, 69, 70, 71, 72, 73, 74, 75, 76, 77, 78, 79, 80, 81, 82, 83, 84] (by decide +kernel) (by decide +kernel)) (goodIn_sub (fun _ h => List.mem_cons_of_mem _ (List.mem_append_left _ (List.mem_append_left _ (List.mem_append_right _ h)))) (by decide +kernel))) (goodIn_sub (fun _ h => List.mem_cons_of_mem _ (List.mem_append_left _ (List.mem_append_right _ h))) (by decide +kernel))) (goodIn_sub (fun _ h => List.mem_cons_of_mem _ (List.mem_append_right _ h)) (by decide +kernel))) (goodIn_sub (fun _ h => List.mem_cons_of_mem _ (List.mem_append_left _ (List.mem_append_left _ (List.mem_append_left _ (List.mem_append_right _ h))))) (by decide +kernel))
set_option maxRecDepth 20000 in
theorem gL_mint_X8_mint : GoodIn wsL_mint (wsV RL 7 RX8 yX8_mint wsX8_mint) := goodIn_app (goodIn_of _ (by decide +kernel)) ggL_mint_X8_mint
def rm_L_mint_0_75 : Room := { frames := 11, cells := 4, slots := 24, locals := 264 }
set_option maxHeartbeats 4000000 in
set_option maxRecDepth 100000 in
theorem c_L_mint_0_75 (l : Launch) (hfl : l.stackTraces = false) {nb : Nat} {G : zG} {ad : Nat → Nat} {σ σ' : zs} {a1 a2 a3 : Int32} {r : Int32} (hf : f_L_mint_0_75 σ a1 a2 a3 = some (r, σ')) : zMi l yL_mint wsL_mint rm_L_mint_0_75 G (zS nb) ad σ [.ref (ad 0), .int a1, .int a2, .int a3, .ref (ad 75)] r σ' := by
  intro sz
  refine z_ofWH (cc := cL_mint) (maxL := 6) (ret := (some .int)) (by decide) rfl ?_
  intro p e s m args below meth c s₁ B hml hv
  obtain ⟨rfl, hsz, hv⟩ := hv
  have hx := B.exec
  have hb := B.bytes
  have hr := B.returns
  have hts := atoms_spec (ws := wsL_mint) B.pre
  have hown : s.vm.findClass RL = some m.cls := findClass_of_methodNamed B.named
  have hlocks := B.notSynchronized
  subst hsz
  have htab : c.exceptionTable.toList = [⟨0, 12, 15, 13⟩, ⟨0, 12, 19, 15⟩, ⟨0, 12, 23, 17⟩] := vx_table B (hts (.codeWith yL_mint cL_mint 6 (some .int) [(0, 12, 15, 13), (0, 12, 19, 15), (0, 12, 23, 17)]) List.mem_cons_self)
  have B := zB_start hv
  have hl := lv_entry ([.ref (ad 0), .int a1, .int a2, .int a3, .ref (ad 75)]) (n := 6) (Nat.le_of_ble_eq_true rfl)
  rw [lg_entry_eq]
  generalize (lg_sl ([.ref (ad 0), .int a1, .int a2, .int a3, .ref (ad 75)]) ++ List.replicate (6 - (lg_sl ([.ref (ad 0), .int a1, .int a2, .int a3, .ref (ad 75)])).length) Slot.unset).toArray = ls at hl ⊢
  have hl : lv_has ls 6 [(0, .ref (ad 0)), (1, .int a1), (2, .int a2), (3, .int a3), (4, .ref (ad 75))] := hl
  generalize hAe : zA ad (zS nb).length s.heap.size = A at B ⊢
  unfold f_L_mint_0_75 at hf
  refine lv_aload hx hb dL_mint_0 (lv_at hl 4 rfl) ?_
  refine lv_iconst (v := (0 : Int32)) hx hb dL_mint_2 (by decide) ?_
  refine lv_aload_n hx hb dL_mint_3 rfl (lv_at hl 0 rfl) ?_
  refine lv_iload_n hx hb dL_mint_4 rfl (lv_at hl 1 rfl) ?_
  refine lv_iload_n hx hb dL_mint_5 rfl (lv_at hl 2 rfl) ?_
  refine lv_iload_n hx hb dL_mint_6 rfl (lv_at hl 3 rfl) ?_
  obtain ⟨u1, r2, σ3, hu1, hf⟩ := zc_some hf
  refine z_xi B (vx_runV (As := [.int a1, .int a2, .int a3]) (rest := [.int (0 : Int32), .ref (ad 75)]) ⟨hx, hb, hml, hown, hts⟩ (c_X8_mint l hfl hu1 _) (cwV 3 hts gL_mint_X8_mint rfl rfl rfl (by decide +kernel) ⟨Nat.le_of_ble_eq_true rfl, Nat.le_of_ble_eq_true rfl⟩) (z_preV B rfl rfl) rfl rfl hl.1 rfl (lv_room (Nat.le_of_ble_eq_true rfl)) dL_mint_7 ⟨Nat.le_of_ble_eq_true rfl, Nat.le_of_ble_eq_true rfl⟩) (fun H locs ce q9 h0 B k1 k2 k3 => ?_) (fun H locs h0 B => ?_)
  · have hf := zx_no hf h0
    by_cases he1 : u1 = 1
    · have hf := zif_t he1 hf
      subst he1
      refine vx_catch (E := "java/lang/IndexOutOfBoundsException") (name := "java/lang/IndexOutOfBoundsException") hown [] ⟨0, 12, 15, 13⟩ [⟨0, 12, 19, 15⟩, ⟨0, 12, 23, 17⟩] htab (fun z hz => by cases hz) (by decide) (by decide) (hts (.classLink RL 13 "java/lang/IndexOutOfBoundsException") (by decide +kernel)) ((B.2.2.2.2.2.castable (by decide +kernel)).use rfl) k1 k2 k3 ?_
      refine lv_astore (lv' := [(5, .ref q9), (0, .ref (ad 0)), (1, .int a1), (2, .int a2), (3, .int a3), (4, .ref (ad 75))]) hx hb dL_mint_15 hl (by decide) rfl (fun ls hl => ?_)
      refine lv_iconst (v := (1 : Int32)) hx hb dL_mint_17 (by decide) ?_
      refine W.widen (k := 4) (n := 24) (Nat.le_of_ble_eq_true rfl) (Nat.le_of_ble_eq_true rfl) ?_
      exact z_iret hx hb hr rfl hlocks B hf dL_mint_18
    have hf := zif_f he1 hf
    by_cases he2 : u1 = 2
    · have hf := zif_t he2 hf
      subst he2
      refine vx_catch (E := "java/lang/IllegalArgumentException") (name := "java/lang/IllegalArgumentException") hown [⟨0, 12, 15, 13⟩] ⟨0, 12, 19, 15⟩ [⟨0, 12, 23, 17⟩] htab (fun z hz => by simp only [List.mem_cons, List.not_mem_nil, or_false] at hz; rcases hz with rfl <;> first | exact Or.inr ⟨by decide, _, hts (.classLink RL 13 "java/lang/IndexOutOfBoundsException") (by decide +kernel), B.2.2.2.2.2.apart (by decide +kernel) (by decide +kernel) (by decide +kernel)⟩) (by decide) (by decide) (hts (.classLink RL 15 "java/lang/IllegalArgumentException") (by decide +kernel)) ((B.2.2.2.2.2.castable (by decide +kernel)).use rfl) k1 k2 k3 ?_
      refine lv_astore (lv' := [(5, .ref q9), (0, .ref (ad 0)), (1, .int a1), (2, .int a2), (3, .int a3), (4, .ref (ad 75))]) hx hb dL_mint_19 hl (by decide) rfl (fun ls hl => ?_)
      refine lv_iconst (v := (2 : Int32)) hx hb dL_mint_21 (by decide) ?_
      refine W.widen (k := 4) (n := 24) (Nat.le_of_ble_eq_true rfl) (Nat.le_of_ble_eq_true rfl) ?_
      exact z_iret hx hb hr rfl hlocks B hf dL_mint_22
    have hf := zif_f he2 hf
    by_cases he3 : u1 = 3
    · have hf := zif_t he3 hf
      subst he3
      refine vx_catch (E := "java/lang/IllegalStateException") (name := "java/lang/IllegalStateException") hown [⟨0, 12, 15, 13⟩, ⟨0, 12, 19, 15⟩] ⟨0, 12, 23, 17⟩ [] htab (fun z hz => by simp only [List.mem_cons, List.not_mem_nil, or_false] at hz; rcases hz with rfl | rfl <;> first | exact Or.inr ⟨by decide, _, hts (.classLink RL 13 "java/lang/IndexOutOfBoundsException") (by decide +kernel), B.2.2.2.2.2.apart (by decide +kernel) (by decide +kernel) (by decide +kernel)⟩ | exact Or.inr ⟨by decide, _, hts (.classLink RL 15 "java/lang/IllegalArgumentException") (by decide +kernel), B.2.2.2.2.2.apart (by decide +kernel) (by decide +kernel) (by decide +kernel)⟩) (by decide) (by decide) (hts (.classLink RL 17 "java/lang/IllegalStateException") (by decide +kernel)) ((B.2.2.2.2.2.castable (by decide +kernel)).use rfl) k1 k2 k3 ?_
      refine lv_astore (lv' := [(5, .ref q9), (0, .ref (ad 0)), (1, .int a1), (2, .int a2), (3, .int a3), (4, .ref (ad 75))]) hx hb dL_mint_23 hl (by decide) rfl (fun ls hl => ?_)
      refine lv_iconst (v := (3 : Int32)) hx hb dL_mint_25 (by decide) ?_
      refine W.widen (k := 4) (n := 24) (Nat.le_of_ble_eq_true rfl) (Nat.le_of_ble_eq_true rfl) ?_
      exact z_iret hx hb hr rfl hlocks B hf dL_mint_26
    have hf := zif_f he3 hf
    cases hf
  have hf := zx_ok hf h0
  refine lv_i2l (v := r2.toInt64) hx hb dL_mint_10 rfl ?_
  obtain ⟨hg, hf⟩ := zg_some hf
  refine z_last hx hb B 75 rfl rfl (zin_ok hg) dL_mint_11 (fun H locs B => ?_)
  refine lv_goto (tgt := 27) hx hb dL_mint_12 (by decide) ?_
  refine lv_iconst (v := (0 : Int32)) hx hb dL_mint_27 (by decide) ?_
  refine W.widen (k := 4) (n := 24) (Nat.le_of_ble_eq_true rfl) (Nat.le_of_ble_eq_true rfl) ?_
  exact z_iret hx hb hr rfl hlocks B hf dL_mint_28
theorem dL_append_0 : decode cL_append 0 = .ok (.aload_n 2, 1) := by decide +kernel
theorem dL_append_1 : decode cL_append 1 = .ok (.iconst 0, 1) := by decide +kernel
theorem dL_append_2 : decode cL_append 2 = .ok (.aload_n 0, 1) := by decide +kernel
theorem dL_append_3 : decode cL_append 3 = .ok (.iload_n 1, 1) := by decide +kernel
theorem dL_append_4 : decode cL_append 4 = .ok (.invokevirtual 19, 3) := by decide +kernel
theorem dL_append_7 : decode cL_append 7 = .ok (.i2l, 1) := by decide +kernel
theorem dL_append_8 : decode cL_append 8 = .ok (.lastore, 1) := by decide +kernel
theorem dL_append_9 : decode cL_append 9 = .ok (.goto 9, 3) := by decide +kernel
theorem dL_append_12 : decode cL_append 12 = .ok (.astore_n 3, 1) := by decide +kernel
theorem dL_append_13 : decode cL_append 13 = .ok (.iconst 1, 1) := by decide +kernel
theorem dL_append_14 : decode cL_append 14 = .ok (.ireturn, 1) := by decide +kernel
theorem dL_append_15 : decode cL_append 15 = .ok (.astore_n 3, 1) := by decide +kernel
theorem dL_append_16 : decode cL_append 16 = .ok (.iconst 2, 1) := by decide +kernel
theorem dL_append_17 : decode cL_append 17 = .ok (.ireturn, 1) := by decide +kernel
theorem dL_append_18 : decode cL_append 18 = .ok (.iconst 0, 1) := by decide +kernel
theorem dL_append_19 : decode cL_append 19 = .ok (.ireturn, 1) := by decide +kernel
set_option maxRecDepth 20000 in
theorem ggL_append_X8_append : GoodIn wsL_append wsX8_append := goodIn_ca (goodIn_ca (goodIn_ca (goodIn_r _ [7, 8, 9, 10, 11, 6, 12, 13, 14, 15, 16, 17, 18, 19, 20, 21, 22, 23, 24, 25, 26, 27, 28, 29, 30, 31, 32, 33, 34, 35, 36, 37, 38, 39, 40, 41, 42, 43, 44, 45] (by decide +kernel) (by decide +kernel)) (goodIn_sub (fun _ h => List.mem_cons_of_mem _ (List.mem_append_left _ (List.mem_append_right _ h))) (by decide +kernel))) (goodIn_sub (fun _ h => List.mem_cons_of_mem _ (List.mem_append_right _ h)) (by decide +kernel))) (goodIn_sub (fun _ h => List.mem_cons_of_mem _ (List.mem_append_left _ (List.mem_append_left _ (List.mem_append_right _ h)))) (by decide +kernel))
set_option maxRecDepth 20000 in
theorem gL_append_X8_append : GoodIn wsL_append (wsV RL 19 RX8 yX8_append wsX8_append) := goodIn_app (goodIn_of _ (by decide +kernel)) ggL_append_X8_append
def rm_L_append_0_75 : Room := { frames := 10, cells := 5, slots := 30, locals := 244 }
set_option maxHeartbeats 4000000 in
set_option maxRecDepth 100000 in
theorem c_L_append_0_75 (l : Launch) (hfl : l.stackTraces = false) {nb : Nat} {G : zG} {ad : Nat → Nat} {σ σ' : zs} {a1 : Int32} {r : Int32} (hf : f_L_append_0_75 σ a1 = some (r, σ')) : zMi l yL_append wsL_append rm_L_append_0_75 G (zS nb) ad σ [.ref (ad 0), .int a1, .ref (ad 75)] r σ' := by
  intro sz
  refine z_ofWH (cc := cL_append) (maxL := 4) (ret := (some .int)) (by decide) rfl ?_
  intro p e s m args below meth c s₁ B hml hv
  obtain ⟨rfl, hsz, hv⟩ := hv
  have hx := B.exec
  have hb := B.bytes
  have hr := B.returns
  have hts := atoms_spec (ws := wsL_append) B.pre
  have hown : s.vm.findClass RL = some m.cls := findClass_of_methodNamed B.named
  have hlocks := B.notSynchronized
  subst hsz
  have htab : c.exceptionTable.toList = [⟨0, 9, 12, 15⟩, ⟨0, 9, 15, 17⟩] := vx_table B (hts (.codeWith yL_append cL_append 4 (some .int) [(0, 9, 12, 15), (0, 9, 15, 17)]) List.mem_cons_self)
  have B := zB_start hv
  have hl := lv_entry ([.ref (ad 0), .int a1, .ref (ad 75)]) (n := 4) (Nat.le_of_ble_eq_true rfl)
  rw [lg_entry_eq]
  generalize (lg_sl ([.ref (ad 0), .int a1, .ref (ad 75)]) ++ List.replicate (4 - (lg_sl ([.ref (ad 0), .int a1, .ref (ad 75)])).length) Slot.unset).toArray = ls at hl ⊢
  have hl : lv_has ls 4 [(0, .ref (ad 0)), (1, .int a1), (2, .ref (ad 75))] := hl
  generalize hAe : zA ad (zS nb).length s.heap.size = A at B ⊢
  unfold f_L_append_0_75 at hf
  refine lv_aload_n hx hb dL_append_0 rfl (lv_at hl 2 rfl) ?_
  refine lv_iconst (v := (0 : Int32)) hx hb dL_append_1 (by decide) ?_
  refine lv_aload_n hx hb dL_append_2 rfl (lv_at hl 0 rfl) ?_
  refine lv_iload_n hx hb dL_append_3 rfl (lv_at hl 1 rfl) ?_
  obtain ⟨u1, r2, σ3, hu1, hf⟩ := zc_some hf
  refine z_xi B (vx_runV (As := [.int a1]) (rest := [.int (0 : Int32), .ref (ad 75)]) ⟨hx, hb, hml, hown, hts⟩ (c_X8_append l hfl hu1 _) (cwV 1 hts gL_append_X8_append rfl rfl rfl (by decide +kernel) ⟨Nat.le_of_ble_eq_true rfl, Nat.le_of_ble_eq_true rfl⟩) (z_preV B rfl rfl) rfl rfl hl.1 rfl (lv_room (Nat.le_of_ble_eq_true rfl)) dL_append_4 ⟨Nat.le_of_ble_eq_true rfl, Nat.le_of_ble_eq_true rfl⟩) (fun H locs ce q9 h0 B k1 k2 k3 => ?_) (fun H locs h0 B => ?_)
  · have hf := zx_no hf h0
    by_cases he2 : u1 = 2
    · have hf := zif_t he2 hf
      subst he2
      refine vx_catch (E := "java/lang/IllegalArgumentException") (name := "java/lang/IllegalArgumentException") hown [] ⟨0, 9, 12, 15⟩ [⟨0, 9, 15, 17⟩] htab (fun z hz => by cases hz) (by decide) (by decide) (hts (.classLink RL 15 "java/lang/IllegalArgumentException") (by decide +kernel)) ((B.2.2.2.2.2.castable (by decide +kernel)).use rfl) k1 k2 k3 ?_
      refine lv_astore_n (lv' := [(3, .ref q9), (0, .ref (ad 0)), (1, .int a1), (2, .ref (ad 75))]) hx hb dL_append_12 rfl hl (by decide) rfl (fun ls hl => ?_)
      refine lv_iconst (v := (1 : Int32)) hx hb dL_append_13 (by decide) ?_
      refine W.widen (k := 5) (n := 30) (Nat.le_of_ble_eq_true rfl) (Nat.le_of_ble_eq_true rfl) ?_
      exact z_iret hx hb hr rfl hlocks B hf dL_append_14
    have hf := zif_f he2 hf
    by_cases he3 : u1 = 3
    · have hf := zif_t he3 hf
      subst he3
      refine vx_catch (E := "java/lang/IllegalStateException") (name := "java/lang/IllegalStateException") hown [⟨0, 9, 12, 15⟩] ⟨0, 9, 15, 17⟩ [] htab (fun z hz => by simp only [List.mem_cons, List.not_mem_nil, or_false] at hz; rcases hz with rfl <;> first | exact Or.inr ⟨by decide, _, hts (.classLink RL 15 "java/lang/IllegalArgumentException") (by decide +kernel), B.2.2.2.2.2.apart (by decide +kernel) (by decide +kernel) (by decide +kernel)⟩) (by decide) (by decide) (hts (.classLink RL 17 "java/lang/IllegalStateException") (by decide +kernel)) ((B.2.2.2.2.2.castable (by decide +kernel)).use rfl) k1 k2 k3 ?_
      refine lv_astore_n (lv' := [(3, .ref q9), (0, .ref (ad 0)), (1, .int a1), (2, .ref (ad 75))]) hx hb dL_append_15 rfl hl (by decide) rfl (fun ls hl => ?_)
      refine lv_iconst (v := (2 : Int32)) hx hb dL_append_16 (by decide) ?_
      refine W.widen (k := 5) (n := 30) (Nat.le_of_ble_eq_true rfl) (Nat.le_of_ble_eq_true rfl) ?_
      exact z_iret hx hb hr rfl hlocks B hf dL_append_17
    have hf := zif_f he3 hf
    cases hf
  have hf := zx_ok hf h0
  refine lv_i2l (v := r2.toInt64) hx hb dL_append_7 rfl ?_
  obtain ⟨hg, hf⟩ := zg_some hf
  refine z_last hx hb B 75 rfl rfl (zin_ok hg) dL_append_8 (fun H locs B => ?_)
  refine lv_goto (tgt := 18) hx hb dL_append_9 (by decide) ?_
  refine lv_iconst (v := (0 : Int32)) hx hb dL_append_18 (by decide) ?_
  refine W.widen (k := 5) (n := 30) (Nat.le_of_ble_eq_true rfl) (Nat.le_of_ble_eq_true rfl) ?_
  exact z_iret hx hb hr rfl hlocks B hf dL_append_19
theorem dL_derive_0 : decode cL_derive 0 = .ok (.aload_n 3, 1) := by decide +kernel
theorem dL_derive_1 : decode cL_derive 1 = .ok (.iconst 0, 1) := by decide +kernel
theorem dL_derive_2 : decode cL_derive 2 = .ok (.aload_n 0, 1) := by decide +kernel
theorem dL_derive_3 : decode cL_derive 3 = .ok (.iload_n 1, 1) := by decide +kernel
theorem dL_derive_4 : decode cL_derive 4 = .ok (.iload_n 2, 1) := by decide +kernel
theorem dL_derive_5 : decode cL_derive 5 = .ok (.invokevirtual 23, 3) := by decide +kernel
theorem dL_derive_8 : decode cL_derive 8 = .ok (.i2l, 1) := by decide +kernel
theorem dL_derive_9 : decode cL_derive 9 = .ok (.lastore, 1) := by decide +kernel
theorem dL_derive_10 : decode cL_derive 10 = .ok (.goto 19, 3) := by decide +kernel
theorem dL_derive_13 : decode cL_derive 13 = .ok (.astore 4, 2) := by decide +kernel
theorem dL_derive_15 : decode cL_derive 15 = .ok (.iconst 1, 1) := by decide +kernel
theorem dL_derive_16 : decode cL_derive 16 = .ok (.ireturn, 1) := by decide +kernel
theorem dL_derive_17 : decode cL_derive 17 = .ok (.astore 4, 2) := by decide +kernel
theorem dL_derive_19 : decode cL_derive 19 = .ok (.iconst 2, 1) := by decide +kernel
theorem dL_derive_20 : decode cL_derive 20 = .ok (.ireturn, 1) := by decide +kernel
theorem dL_derive_21 : decode cL_derive 21 = .ok (.astore 4, 2) := by decide +kernel
theorem dL_derive_23 : decode cL_derive 23 = .ok (.iconst 3, 1) := by decide +kernel
theorem dL_derive_24 : decode cL_derive 24 = .ok (.ireturn, 1) := by decide +kernel
theorem dL_derive_25 : decode cL_derive 25 = .ok (.astore 4, 2) := by decide +kernel
theorem dL_derive_27 : decode cL_derive 27 = .ok (.iconst 4, 1) := by decide +kernel
theorem dL_derive_28 : decode cL_derive 28 = .ok (.ireturn, 1) := by decide +kernel
theorem dL_derive_29 : decode cL_derive 29 = .ok (.iconst 0, 1) := by decide +kernel
theorem dL_derive_30 : decode cL_derive 30 = .ok (.ireturn, 1) := by decide +kernel
set_option maxRecDepth 20000 in
theorem ggL_derive_X8_derive : GoodIn wsL_derive wsX8_derive := goodIn_ca (goodIn_ca (goodIn_ca (goodIn_ca (goodIn_ca (goodIn_r _ [9, 10, 11, 12, 13, 14, 15, 16, 17, 18, 19, 20, 21, 8, 22, 23, 24, 25, 26, 27, 28, 29, 30, 31, 32, 33, 34, 35, 36, 37, 38, 39, 40, 41, 42, 43, 44, 45, 46, 47, 48, 49, 50, 51, 52, 53, 54, 55, 56, 57, 58, 59, 60, 61, 62, 63, 64, 65, 66, 67, 68, 69, 70, 71, 72, 73, 74, 75, 76, 77, 78, 79, 80, 81, 82, 83, 84, 85, 86, 87, 88, 89, 90, 91, 92, 93, 94, 95, 96, 97, 98, 99, 100, 101, 102, 103, 104, 105, 106, 107, 108, 109, 110, 111, 112, 113, 114, 115, 116, 117, 118, 119, 120, 121, 122, 123, 124, 125, 126, 127, 128, 129, 130, 131, 132, 133, 134, 135, 136, 137, 138, 139, 140, 141, 142, 143, 144, 145, 146, 147, 148, 149, 150, 151, 152, 153, 154, 155, 156, 157, 158, 159, 160, 161, 162, 163, 164, 165, 166, 167, 168, 169, 170, 171, 172, 173, 174, 175, 176, 177, 178, 179, 180, 181, 182, 183, 184, 185, 186, 187, 188, 189, 190, 191, 192, 193, 194, 195, 196, 197, 198, 199, 200, 201, 202, 203, 204, 205, 206, 207, 208, 209, 210, 211, 212, 213, 214, 215, 216, 217, 218, 219, 220, 221, 222, 223, 224, 225, 226, 227, 228, 229, 230, 231, 232, 233, 234, 235, 236, 237, 238, 239, 240, 241, 242, 243, 244, 245, 246, 247, 248, 249, 250, 251, 252, 253, 254, 255, 256, 257, 258, 259, 260, 261, 262, 263, 264] (by decide +kernel) (by decide +kernel)) (goodIn_sub (fun _ h => List.mem_cons_of_mem _ (List.mem_append_left _ (List.mem_append_left _ (List.mem_append_left _ (List.mem_append_left _ (List.mem_append_right _ h)))))) (by decide +kernel))) (goodIn_sub (fun _ h => List.mem_cons_of_mem _ (List.mem_append_left _ (List.mem_append_left _ (List.mem_append_left _ (List.mem_append_right _ h))))) (by decide +kernel))) (goodIn_sub (fun _ h => List.mem_cons_of_mem _ (List.mem_append_left _ (List.mem_append_left _ (List.mem_append_right _ h)))) (by decide +kernel))) (goodIn_sub (fun _ h => List.mem_cons_of_mem _ (List.mem_append_left _ (List.mem_append_right _ h))) (by decide +kernel))) (goodIn_sub (fun _ h => List.mem_cons_of_mem _ (List.mem_append_right _ h)) (by decide +kernel))
set_option maxRecDepth 20000 in
theorem gL_derive_X8_derive : GoodIn wsL_derive (wsV RL 23 RX8 yX8_derive wsX8_derive) := goodIn_app (goodIn_of _ (by decide +kernel)) ggL_derive_X8_derive
def rm_L_derive_0_75 : Room := { frames := 11, cells := 5, slots := 30, locals := 266 }
set_option maxHeartbeats 4000000 in
set_option maxRecDepth 100000 in
theorem c_L_derive_0_75 (l : Launch) (hfl : l.stackTraces = false) {nb : Nat} {G : zG} {ad : Nat → Nat} {σ σ' : zs} {a1 a2 : Int32} {r : Int32} (hf : f_L_derive_0_75 σ a1 a2 = some (r, σ')) : zMi l yL_derive wsL_derive rm_L_derive_0_75 G (zS nb) ad σ [.ref (ad 0), .int a1, .int a2, .ref (ad 75)] r σ' := by
  intro sz
  refine z_ofWH (cc := cL_derive) (maxL := 5) (ret := (some .int)) (by decide) rfl ?_
  intro p e s m args below meth c s₁ B hml hv
  obtain ⟨rfl, hsz, hv⟩ := hv
  have hx := B.exec
  have hb := B.bytes
  have hr := B.returns
  have hts := atoms_spec (ws := wsL_derive) B.pre
  have hown : s.vm.findClass RL = some m.cls := findClass_of_methodNamed B.named
  have hlocks := B.notSynchronized
  subst hsz
  have htab : c.exceptionTable.toList = [⟨0, 10, 13, 13⟩, ⟨0, 10, 17, 27⟩, ⟨0, 10, 21, 15⟩, ⟨0, 10, 25, 17⟩] := vx_table B (hts (.codeWith yL_derive cL_derive 5 (some .int) [(0, 10, 13, 13), (0, 10, 17, 27), (0, 10, 21, 15), (0, 10, 25, 17)]) List.mem_cons_self)
  have B := zB_start hv
  have hl := lv_entry ([.ref (ad 0), .int a1, .int a2, .ref (ad 75)]) (n := 5) (Nat.le_of_ble_eq_true rfl)
  rw [lg_entry_eq]
  generalize (lg_sl ([.ref (ad 0), .int a1, .int a2, .ref (ad 75)]) ++ List.replicate (5 - (lg_sl ([.ref (ad 0), .int a1, .int a2, .ref (ad 75)])).length) Slot.unset).toArray = ls at hl ⊢
  have hl : lv_has ls 5 [(0, .ref (ad 0)), (1, .int a1), (2, .int a2), (3, .ref (ad 75))] := hl
  generalize hAe : zA ad (zS nb).length s.heap.size = A at B ⊢
  unfold f_L_derive_0_75 at hf
  refine lv_aload_n hx hb dL_derive_0 rfl (lv_at hl 3 rfl) ?_
  refine lv_iconst (v := (0 : Int32)) hx hb dL_derive_1 (by decide) ?_
  refine lv_aload_n hx hb dL_derive_2 rfl (lv_at hl 0 rfl) ?_
  refine lv_iload_n hx hb dL_derive_3 rfl (lv_at hl 1 rfl) ?_
  refine lv_iload_n hx hb dL_derive_4 rfl (lv_at hl 2 rfl) ?_
  obtain ⟨u1, r2, σ3, hu1, hf⟩ := zc_some hf
  refine z_xi B (vx_runV (As := [.int a1, .int a2]) (rest := [.int (0 : Int32), .ref (ad 75)]) ⟨hx, hb, hml, hown, hts⟩ (c_X8_derive l hfl hu1 _) (cwV 2 hts gL_derive_X8_derive rfl rfl rfl (by decide +kernel) ⟨Nat.le_of_ble_eq_true rfl, Nat.le_of_ble_eq_true rfl⟩) (z_preV B rfl rfl) rfl rfl hl.1 rfl (lv_room (Nat.le_of_ble_eq_true rfl)) dL_derive_5 ⟨Nat.le_of_ble_eq_true rfl, Nat.le_of_ble_eq_true rfl⟩) (fun H locs ce q9 h0 B k1 k2 k3 => ?_) (fun H locs h0 B => ?_)
  · have hf := zx_no hf h0
    by_cases he1 : u1 = 1
    · have hf := zif_t he1 hf
      subst he1
      refine vx_catch (E := "java/lang/IndexOutOfBoundsException") (name := "java/lang/IndexOutOfBoundsException") hown [] ⟨0, 10, 13, 13⟩ [⟨0, 10, 17, 27⟩, ⟨0, 10, 21, 15⟩, ⟨0, 10, 25, 17⟩] htab (fun z hz => by cases hz) (by decide) (by decide) (hts (.classLink RL 13 "java/lang/IndexOutOfBoundsException") (by decide +kernel)) ((B.2.2.2.2.2.castable (by decide +kernel)).use rfl) k1 k2 k3 ?_
      refine lv_astore (lv' := [(4, .ref q9), (0, .ref (ad 0)), (1, .int a1), (2, .int a2), (3, .ref (ad 75))]) hx hb dL_derive_13 hl (by decide) rfl (fun ls hl => ?_)
      refine lv_iconst (v := (1 : Int32)) hx hb dL_derive_15 (by decide) ?_
      refine W.widen (k := 5) (n := 30) (Nat.le_of_ble_eq_true rfl) (Nat.le_of_ble_eq_true rfl) ?_
      exact z_iret hx hb hr rfl hlocks B hf dL_derive_16
    have hf := zif_f he1 hf
    by_cases he4 : u1 = 4
    · have hf := zif_t he4 hf
      subst he4
      refine vx_catch (E := "java/lang/UnsupportedOperationException") (name := "java/lang/UnsupportedOperationException") hown [⟨0, 10, 13, 13⟩] ⟨0, 10, 17, 27⟩ [⟨0, 10, 21, 15⟩, ⟨0, 10, 25, 17⟩] htab (fun z hz => by simp only [List.mem_cons, List.not_mem_nil, or_false] at hz; rcases hz with rfl <;> first | exact Or.inr ⟨by decide, _, hts (.classLink RL 13 "java/lang/IndexOutOfBoundsException") (by decide +kernel), B.2.2.2.2.2.apart (by decide +kernel) (by decide +kernel) (by decide +kernel)⟩) (by decide) (by decide) (hts (.classLink RL 27 "java/lang/UnsupportedOperationException") (by decide +kernel)) ((B.2.2.2.2.2.castable (by decide +kernel)).use rfl) k1 k2 k3 ?_
      refine lv_astore (lv' := [(4, .ref q9), (0, .ref (ad 0)), (1, .int a1), (2, .int a2), (3, .ref (ad 75))]) hx hb dL_derive_17 hl (by decide) rfl (fun ls hl => ?_)
      refine lv_iconst (v := (2 : Int32)) hx hb dL_derive_19 (by decide) ?_
      refine W.widen (k := 5) (n := 30) (Nat.le_of_ble_eq_true rfl) (Nat.le_of_ble_eq_true rfl) ?_
      exact z_iret hx hb hr rfl hlocks B hf dL_derive_20
    have hf := zif_f he4 hf
    by_cases he2 : u1 = 2
    · have hf := zif_t he2 hf
      subst he2
      refine vx_catch (E := "java/lang/IllegalArgumentException") (name := "java/lang/IllegalArgumentException") hown [⟨0, 10, 13, 13⟩, ⟨0, 10, 17, 27⟩] ⟨0, 10, 21, 15⟩ [⟨0, 10, 25, 17⟩] htab (fun z hz => by simp only [List.mem_cons, List.not_mem_nil, or_false] at hz; rcases hz with rfl | rfl <;> first | exact Or.inr ⟨by decide, _, hts (.classLink RL 13 "java/lang/IndexOutOfBoundsException") (by decide +kernel), B.2.2.2.2.2.apart (by decide +kernel) (by decide +kernel) (by decide +kernel)⟩ | exact Or.inr ⟨by decide, _, hts (.classLink RL 27 "java/lang/UnsupportedOperationException") (by decide +kernel), B.2.2.2.2.2.apart (by decide +kernel) (by decide +kernel) (by decide +kernel)⟩) (by decide) (by decide) (hts (.classLink RL 15 "java/lang/IllegalArgumentException") (by decide +kernel)) ((B.2.2.2.2.2.castable (by decide +kernel)).use rfl) k1 k2 k3 ?_
      refine lv_astore (lv' := [(4, .ref q9), (0, .ref (ad 0)), (1, .int a1), (2, .int a2), (3, .ref (ad 75))]) hx hb dL_derive_21 hl (by decide) rfl (fun ls hl => ?_)
      refine lv_iconst (v := (3 : Int32)) hx hb dL_derive_23 (by decide) ?_
      refine W.widen (k := 5) (n := 30) (Nat.le_of_ble_eq_true rfl) (Nat.le_of_ble_eq_true rfl) ?_
      exact z_iret hx hb hr rfl hlocks B hf dL_derive_24
    have hf := zif_f he2 hf
    by_cases he3 : u1 = 3
    · have hf := zif_t he3 hf
      subst he3
      refine vx_catch (E := "java/lang/IllegalStateException") (name := "java/lang/IllegalStateException") hown [⟨0, 10, 13, 13⟩, ⟨0, 10, 17, 27⟩, ⟨0, 10, 21, 15⟩] ⟨0, 10, 25, 17⟩ [] htab (fun z hz => by simp only [List.mem_cons, List.not_mem_nil, or_false] at hz; rcases hz with rfl | rfl | rfl <;> first | exact Or.inr ⟨by decide, _, hts (.classLink RL 13 "java/lang/IndexOutOfBoundsException") (by decide +kernel), B.2.2.2.2.2.apart (by decide +kernel) (by decide +kernel) (by decide +kernel)⟩ | exact Or.inr ⟨by decide, _, hts (.classLink RL 27 "java/lang/UnsupportedOperationException") (by decide +kernel), B.2.2.2.2.2.apart (by decide +kernel) (by decide +kernel) (by decide +kernel)⟩ | exact Or.inr ⟨by decide, _, hts (.classLink RL 15 "java/lang/IllegalArgumentException") (by decide +kernel), B.2.2.2.2.2.apart (by decide +kernel) (by decide +kernel) (by decide +kernel)⟩) (by decide) (by decide) (hts (.classLink RL 17 "java/lang/IllegalStateException") (by decide +kernel)) ((B.2.2.2.2.2.castable (by decide +kernel)).use rfl) k1 k2 k3 ?_
      refine lv_astore (lv' := [(4, .ref q9), (0, .ref (ad 0)), (1, .int a1), (2, .int a2), (3, .ref (ad 75))]) hx hb dL_derive_25 hl (by decide) rfl (fun ls hl => ?_)
      refine lv_iconst (v := (4 : Int32)) hx hb dL_derive_27 (by decide) ?_
      refine W.widen (k := 5) (n := 30) (Nat.le_of_ble_eq_true rfl) (Nat.le_of_ble_eq_true rfl) ?_
      exact z_iret hx hb hr rfl hlocks B hf dL_derive_28
    have hf := zif_f he3 hf
    cases hf
  have hf := zx_ok hf h0
  refine lv_i2l (v := r2.toInt64) hx hb dL_derive_8 rfl ?_
  obtain ⟨hg, hf⟩ := zg_some hf
  refine z_last hx hb B 75 rfl rfl (zin_ok hg) dL_derive_9 (fun H locs B => ?_)
  refine lv_goto (tgt := 29) hx hb dL_derive_10 (by decide) ?_
  refine lv_iconst (v := (0 : Int32)) hx hb dL_derive_29 (by decide) ?_
  refine W.widen (k := 5) (n := 30) (Nat.le_of_ble_eq_true rfl) (Nat.le_of_ble_eq_true rfl) ?_
  exact z_iret hx hb hr rfl hlocks B hf dL_derive_30
theorem dL_give_0 : decode cL_give 0 = .ok (.aload 4, 2) := by decide +kernel
theorem dL_give_2 : decode cL_give 2 = .ok (.iconst 0, 1) := by decide +kernel
theorem dL_give_3 : decode cL_give 3 = .ok (.aload_n 0, 1) := by decide +kernel
theorem dL_give_4 : decode cL_give 4 = .ok (.iload_n 1, 1) := by decide +kernel
theorem dL_give_5 : decode cL_give 5 = .ok (.iload_n 2, 1) := by decide +kernel
theorem dL_give_6 : decode cL_give 6 = .ok (.iload_n 3, 1) := by decide +kernel
theorem dL_give_7 : decode cL_give 7 = .ok (.invokevirtual 29, 3) := by decide +kernel
theorem dL_give_10 : decode cL_give 10 = .ok (.i2l, 1) := by decide +kernel
theorem dL_give_11 : decode cL_give 11 = .ok (.lastore, 1) := by decide +kernel
theorem dL_give_12 : decode cL_give 12 = .ok (.goto 11, 3) := by decide +kernel
theorem dL_give_15 : decode cL_give 15 = .ok (.astore 5, 2) := by decide +kernel
theorem dL_give_17 : decode cL_give 17 = .ok (.iconst 1, 1) := by decide +kernel
theorem dL_give_18 : decode cL_give 18 = .ok (.ireturn, 1) := by decide +kernel
theorem dL_give_19 : decode cL_give 19 = .ok (.astore 5, 2) := by decide +kernel
theorem dL_give_21 : decode cL_give 21 = .ok (.iconst 2, 1) := by decide +kernel
theorem dL_give_22 : decode cL_give 22 = .ok (.ireturn, 1) := by decide +kernel
theorem dL_give_23 : decode cL_give 23 = .ok (.iconst 0, 1) := by decide +kernel
theorem dL_give_24 : decode cL_give 24 = .ok (.ireturn, 1) := by decide +kernel
set_option maxRecDepth 20000 in
theorem ggL_give_X8_give : GoodIn wsL_give wsX8_give := goodIn_ca (goodIn_ca (goodIn_ca (goodIn_r _ [7, 8, 9, 10, 11, 12, 6, 13, 14, 15, 16, 17, 18, 19, 20, 21, 22, 23, 24, 25, 26, 27, 28, 29, 30, 31, 32, 33, 34, 35, 36, 37, 38, 39, 40, 41, 42, 43, 44, 45, 46, 47, 48, 49, 50, 51, 52, 53, 54, 55, 56, 57, 58, 59, 60, 61, 62, 63, 64, 65, 66, 67, 68, 69, 70, 71, 72, 73, 74, 75, 76, 77, 78, 79, 80, 81, 82, 83, 84, 85, 86, 87, 88, 89, 90, 91, 92, 93, 94, 95, 96, 97, 98, 99, 100, 101, 102, 103, 104, 105, 106, 107, 108] (by decide +kernel) (by decide +kernel)) (goodIn_sub (fun _ h => List.mem_cons_of_mem _ (List.mem_append_left _ (List.mem_append_left _ (List.mem_append_right _ h)))) (by decide +kernel))) (goodIn_sub (fun _ h => List.mem_cons_of_mem _ (List.mem_append_left _ (List.mem_append_right _ h))) (by decide +kernel))) (goodIn_sub (fun _ h => List.mem_cons_of_mem _ (List.mem_append_right _ h)) (by decide +kernel))
set_option maxRecDepth 20000 in
theorem gL_give_X8_give : GoodIn wsL_give (wsV RL 29 RX8 yX8_give wsX8_give) := goodIn_app (goodIn_of _ (by decide +kernel)) ggL_give_X8_give
def rm_L_give_0_75 : Room := { frames := 11, cells := 4, slots := 24, locals := 264 }
set_option maxHeartbeats 4000000 in
set_option maxRecDepth 100000 in
theorem c_L_give_0_75 (l : Launch) (hfl : l.stackTraces = false) {nb : Nat} {G : zG} {ad : Nat → Nat} {σ σ' : zs} {a1 a2 a3 : Int32} {r : Int32} (hf : f_L_give_0_75 σ a1 a2 a3 = some (r, σ')) : zMi l yL_give wsL_give rm_L_give_0_75 G (zS nb) ad σ [.ref (ad 0), .int a1, .int a2, .int a3, .ref (ad 75)] r σ' := by
  intro sz
  refine z_ofWH (cc := cL_give) (maxL := 6) (ret := (some .int)) (by decide) rfl ?_
  intro p e s m args below meth c s₁ B hml hv
  obtain ⟨rfl, hsz, hv⟩ := hv
  have hx := B.exec
  have hb := B.bytes
  have hr := B.returns
  have hts := atoms_spec (ws := wsL_give) B.pre
  have hown : s.vm.findClass RL = some m.cls := findClass_of_methodNamed B.named
  have hlocks := B.notSynchronized
  subst hsz
  have htab : c.exceptionTable.toList = [⟨0, 12, 15, 13⟩, ⟨0, 12, 19, 27⟩] := vx_table B (hts (.codeWith yL_give cL_give 6 (some .int) [(0, 12, 15, 13), (0, 12, 19, 27)]) List.mem_cons_self)
  have B := zB_start hv
  have hl := lv_entry ([.ref (ad 0), .int a1, .int a2, .int a3, .ref (ad 75)]) (n := 6) (Nat.le_of_ble_eq_true rfl)
  rw [lg_entry_eq]
  generalize (lg_sl ([.ref (ad 0), .int a1, .int a2, .int a3, .ref (ad 75)]) ++ List.replicate (6 - (lg_sl ([.ref (ad 0), .int a1, .int a2, .int a3, .ref (ad 75)])).length) Slot.unset).toArray = ls at hl ⊢
  have hl : lv_has ls 6 [(0, .ref (ad 0)), (1, .int a1), (2, .int a2), (3, .int a3), (4, .ref (ad 75))] := hl
  generalize hAe : zA ad (zS nb).length s.heap.size = A at B ⊢
  unfold f_L_give_0_75 at hf
  refine lv_aload hx hb dL_give_0 (lv_at hl 4 rfl) ?_
  refine lv_iconst (v := (0 : Int32)) hx hb dL_give_2 (by decide) ?_
  refine lv_aload_n hx hb dL_give_3 rfl (lv_at hl 0 rfl) ?_
  refine lv_iload_n hx hb dL_give_4 rfl (lv_at hl 1 rfl) ?_
  refine lv_iload_n hx hb dL_give_5 rfl (lv_at hl 2 rfl) ?_
  refine lv_iload_n hx hb dL_give_6 rfl (lv_at hl 3 rfl) ?_
  obtain ⟨u1, r2, σ3, hu1, hf⟩ := zc_some hf
  refine z_xi B (vx_runV (As := [.int a1, .int a2, .int a3]) (rest := [.int (0 : Int32), .ref (ad 75)]) ⟨hx, hb, hml, hown, hts⟩ (c_X8_give l hfl hu1 _) (cwV 3 hts gL_give_X8_give rfl rfl rfl (by decide +kernel) ⟨Nat.le_of_ble_eq_true rfl, Nat.le_of_ble_eq_true rfl⟩) (z_preV B rfl rfl) rfl rfl hl.1 rfl (lv_room (Nat.le_of_ble_eq_true rfl)) dL_give_7 ⟨Nat.le_of_ble_eq_true rfl, Nat.le_of_ble_eq_true rfl⟩) (fun H locs ce q9 h0 B k1 k2 k3 => ?_) (fun H locs h0 B => ?_)
  · have hf := zx_no hf h0
    by_cases he1 : u1 = 1
    · have hf := zif_t he1 hf
      subst he1
      refine vx_catch (E := "java/lang/IndexOutOfBoundsException") (name := "java/lang/IndexOutOfBoundsException") hown [] ⟨0, 12, 15, 13⟩ [⟨0, 12, 19, 27⟩] htab (fun z hz => by cases hz) (by decide) (by decide) (hts (.classLink RL 13 "java/lang/IndexOutOfBoundsException") (by decide +kernel)) ((B.2.2.2.2.2.castable (by decide +kernel)).use rfl) k1 k2 k3 ?_
      refine lv_astore (lv' := [(5, .ref q9), (0, .ref (ad 0)), (1, .int a1), (2, .int a2), (3, .int a3), (4, .ref (ad 75))]) hx hb dL_give_15 hl (by decide) rfl (fun ls hl => ?_)
      refine lv_iconst (v := (1 : Int32)) hx hb dL_give_17 (by decide) ?_
      refine W.widen (k := 4) (n := 24) (Nat.le_of_ble_eq_true rfl) (Nat.le_of_ble_eq_true rfl) ?_
      exact z_iret hx hb hr rfl hlocks B hf dL_give_18
    have hf := zif_f he1 hf
    by_cases he4 : u1 = 4
    · have hf := zif_t he4 hf
      subst he4
      refine vx_catch (E := "java/lang/UnsupportedOperationException") (name := "java/lang/UnsupportedOperationException") hown [⟨0, 12, 15, 13⟩] ⟨0, 12, 19, 27⟩ [] htab (fun z hz => by simp only [List.mem_cons, List.not_mem_nil, or_false] at hz; rcases hz with rfl <;> first | exact Or.inr ⟨by decide, _, hts (.classLink RL 13 "java/lang/IndexOutOfBoundsException") (by decide +kernel), B.2.2.2.2.2.apart (by decide +kernel) (by decide +kernel) (by decide +kernel)⟩) (by decide) (by decide) (hts (.classLink RL 27 "java/lang/UnsupportedOperationException") (by decide +kernel)) ((B.2.2.2.2.2.castable (by decide +kernel)).use rfl) k1 k2 k3 ?_
      refine lv_astore (lv' := [(5, .ref q9), (0, .ref (ad 0)), (1, .int a1), (2, .int a2), (3, .int a3), (4, .ref (ad 75))]) hx hb dL_give_19 hl (by decide) rfl (fun ls hl => ?_)
      refine lv_iconst (v := (2 : Int32)) hx hb dL_give_21 (by decide) ?_
      refine W.widen (k := 4) (n := 24) (Nat.le_of_ble_eq_true rfl) (Nat.le_of_ble_eq_true rfl) ?_
      exact z_iret hx hb hr rfl hlocks B hf dL_give_22
    have hf := zif_f he4 hf
    cases hf
  have hf := zx_ok hf h0
  refine lv_i2l (v := r2.toInt64) hx hb dL_give_10 rfl ?_
  obtain ⟨hg, hf⟩ := zg_some hf
  refine z_last hx hb B 75 rfl rfl (zin_ok hg) dL_give_11 (fun H locs B => ?_)
  refine lv_goto (tgt := 23) hx hb dL_give_12 (by decide) ?_
  refine lv_iconst (v := (0 : Int32)) hx hb dL_give_23 (by decide) ?_
  refine W.widen (k := 4) (n := 24) (Nat.le_of_ble_eq_true rfl) (Nat.le_of_ble_eq_true rfl) ?_
  exact z_iret hx hb hr rfl hlocks B hf dL_give_24
theorem dL_drop_0 : decode cL_drop 0 = .ok (.aload_n 3, 1) := by decide +kernel
theorem dL_drop_1 : decode cL_drop 1 = .ok (.iconst 0, 1) := by decide +kernel
theorem dL_drop_2 : decode cL_drop 2 = .ok (.aload_n 0, 1) := by decide +kernel
theorem dL_drop_3 : decode cL_drop 3 = .ok (.iload_n 1, 1) := by decide +kernel
theorem dL_drop_4 : decode cL_drop 4 = .ok (.iload_n 2, 1) := by decide +kernel
theorem dL_drop_5 : decode cL_drop 5 = .ok (.invokevirtual 32, 3) := by decide +kernel
theorem dL_drop_8 : decode cL_drop 8 = .ok (.i2l, 1) := by decide +kernel
theorem dL_drop_9 : decode cL_drop 9 = .ok (.lastore, 1) := by decide +kernel
theorem dL_drop_10 : decode cL_drop 10 = .ok (.goto 11, 3) := by decide +kernel
theorem dL_drop_13 : decode cL_drop 13 = .ok (.astore 4, 2) := by decide +kernel
theorem dL_drop_15 : decode cL_drop 15 = .ok (.iconst 1, 1) := by decide +kernel
theorem dL_drop_16 : decode cL_drop 16 = .ok (.ireturn, 1) := by decide +kernel
theorem dL_drop_17 : decode cL_drop 17 = .ok (.astore 4, 2) := by decide +kernel
theorem dL_drop_19 : decode cL_drop 19 = .ok (.iconst 2, 1) := by decide +kernel
theorem dL_drop_20 : decode cL_drop 20 = .ok (.ireturn, 1) := by decide +kernel
theorem dL_drop_21 : decode cL_drop 21 = .ok (.iconst 0, 1) := by decide +kernel
theorem dL_drop_22 : decode cL_drop 22 = .ok (.ireturn, 1) := by decide +kernel
set_option maxRecDepth 20000 in
theorem ggL_drop_X8_drop : GoodIn wsL_drop wsX8_drop := goodIn_ca (goodIn_ca (goodIn_ca (goodIn_r _ [7, 8, 9, 10, 11, 12, 6, 13, 14, 15, 16, 17, 18, 19, 20, 21, 22, 23, 24, 25, 26, 27, 28, 29, 30, 31, 32, 33, 34, 35, 36, 37, 38, 39, 40, 41, 42, 43, 44, 45, 46, 47, 48, 49, 50, 51, 52, 53, 54, 55, 56, 57, 58, 59, 60, 61, 62, 63, 64, 65, 66] (by decide +kernel) (by decide +kernel)) (goodIn_sub (fun _ h => List.mem_cons_of_mem _ (List.mem_append_left _ (List.mem_append_left _ (List.mem_append_right _ h)))) (by decide +kernel))) (goodIn_sub (fun _ h => List.mem_cons_of_mem _ (List.mem_append_left _ (List.mem_append_right _ h))) (by decide +kernel))) (goodIn_sub (fun _ h => List.mem_cons_of_mem _ (List.mem_append_right _ h)) (by decide +kernel))
set_option maxRecDepth 20000 in
theorem gL_drop_X8_drop : GoodIn wsL_drop (wsV RL 32 RX8 yX8_drop wsX8_drop) := goodIn_app (goodIn_of _ (by decide +kernel)) ggL_drop_X8_drop
def rm_L_drop_0_75 : Room := { frames := 11, cells := 3, slots := 18, locals := 263 }
set_option maxHeartbeats 4000000 in
set_option maxRecDepth 100000 in
theorem c_L_drop_0_75 (l : Launch) (hfl : l.stackTraces = false) {nb : Nat} {G : zG} {ad : Nat → Nat} {σ σ' : zs} {a1 a2 : Int32} {r : Int32} (hf : f_L_drop_0_75 σ a1 a2 = some (r, σ')) : zMi l yL_drop wsL_drop rm_L_drop_0_75 G (zS nb) ad σ [.ref (ad 0), .int a1, .int a2, .ref (ad 75)] r σ' := by
  intro sz
  refine z_ofWH (cc := cL_drop) (maxL := 5) (ret := (some .int)) (by decide) rfl ?_
  intro p e s m args below meth c s₁ B hml hv
  obtain ⟨rfl, hsz, hv⟩ := hv
  have hx := B.exec
  have hb := B.bytes
  have hr := B.returns
  have hts := atoms_spec (ws := wsL_drop) B.pre
  have hown : s.vm.findClass RL = some m.cls := findClass_of_methodNamed B.named
  have hlocks := B.notSynchronized
  subst hsz
  have htab : c.exceptionTable.toList = [⟨0, 10, 13, 13⟩, ⟨0, 10, 17, 35⟩] := vx_table B (hts (.codeWith yL_drop cL_drop 5 (some .int) [(0, 10, 13, 13), (0, 10, 17, 35)]) List.mem_cons_self)
  have B := zB_start hv
  have hl := lv_entry ([.ref (ad 0), .int a1, .int a2, .ref (ad 75)]) (n := 5) (Nat.le_of_ble_eq_true rfl)
  rw [lg_entry_eq]
  generalize (lg_sl ([.ref (ad 0), .int a1, .int a2, .ref (ad 75)]) ++ List.replicate (5 - (lg_sl ([.ref (ad 0), .int a1, .int a2, .ref (ad 75)])).length) Slot.unset).toArray = ls at hl ⊢
  have hl : lv_has ls 5 [(0, .ref (ad 0)), (1, .int a1), (2, .int a2), (3, .ref (ad 75))] := hl
  generalize hAe : zA ad (zS nb).length s.heap.size = A at B ⊢
  unfold f_L_drop_0_75 at hf
  refine lv_aload_n hx hb dL_drop_0 rfl (lv_at hl 3 rfl) ?_
  refine lv_iconst (v := (0 : Int32)) hx hb dL_drop_1 (by decide) ?_
  refine lv_aload_n hx hb dL_drop_2 rfl (lv_at hl 0 rfl) ?_
  refine lv_iload_n hx hb dL_drop_3 rfl (lv_at hl 1 rfl) ?_
  refine lv_iload_n hx hb dL_drop_4 rfl (lv_at hl 2 rfl) ?_
  obtain ⟨u1, r2, σ3, hu1, hf⟩ := zc_some hf
  refine z_xi B (vx_runV (As := [.int a1, .int a2]) (rest := [.int (0 : Int32), .ref (ad 75)]) ⟨hx, hb, hml, hown, hts⟩ (c_X8_drop l hfl hu1 _) (cwV 2 hts gL_drop_X8_drop rfl rfl rfl (by decide +kernel) ⟨Nat.le_of_ble_eq_true rfl, Nat.le_of_ble_eq_true rfl⟩) (z_preV B rfl rfl) rfl rfl hl.1 rfl (lv_room (Nat.le_of_ble_eq_true rfl)) dL_drop_5 ⟨Nat.le_of_ble_eq_true rfl, Nat.le_of_ble_eq_true rfl⟩) (fun H locs ce q9 h0 B k1 k2 k3 => ?_) (fun H locs h0 B => ?_)
  · have hf := zx_no hf h0
    by_cases he1 : u1 = 1
    · have hf := zif_t he1 hf
      subst he1
      refine vx_catch (E := "java/lang/IndexOutOfBoundsException") (name := "java/lang/IndexOutOfBoundsException") hown [] ⟨0, 10, 13, 13⟩ [⟨0, 10, 17, 35⟩] htab (fun z hz => by cases hz) (by decide) (by decide) (hts (.classLink RL 13 "java/lang/IndexOutOfBoundsException") (by decide +kernel)) ((B.2.2.2.2.2.castable (by decide +kernel)).use rfl) k1 k2 k3 ?_
      refine lv_astore (lv' := [(4, .ref q9), (0, .ref (ad 0)), (1, .int a1), (2, .int a2), (3, .ref (ad 75))]) hx hb dL_drop_13 hl (by decide) rfl (fun ls hl => ?_)
      refine lv_iconst (v := (1 : Int32)) hx hb dL_drop_15 (by decide) ?_
      refine W.widen (k := 3) (n := 18) (Nat.le_of_ble_eq_true rfl) (Nat.le_of_ble_eq_true rfl) ?_
      exact z_iret hx hb hr rfl hlocks B hf dL_drop_16
    have hf := zif_f he1 hf
    by_cases he5 : u1 = 5
    · have hf := zif_t he5 hf
      subst he5
      refine vx_catch (E := "java/util/NoSuchElementException") (name := "java/util/NoSuchElementException") hown [⟨0, 10, 13, 13⟩] ⟨0, 10, 17, 35⟩ [] htab (fun z hz => by simp only [List.mem_cons, List.not_mem_nil, or_false] at hz; rcases hz with rfl <;> first | exact Or.inr ⟨by decide, _, hts (.classLink RL 13 "java/lang/IndexOutOfBoundsException") (by decide +kernel), B.2.2.2.2.2.apart (by decide +kernel) (by decide +kernel) (by decide +kernel)⟩) (by decide) (by decide) (hts (.classLink RL 35 "java/util/NoSuchElementException") (by decide +kernel)) ((B.2.2.2.2.2.castable (by decide +kernel)).use rfl) k1 k2 k3 ?_
      refine lv_astore (lv' := [(4, .ref q9), (0, .ref (ad 0)), (1, .int a1), (2, .int a2), (3, .ref (ad 75))]) hx hb dL_drop_17 hl (by decide) rfl (fun ls hl => ?_)
      refine lv_iconst (v := (2 : Int32)) hx hb dL_drop_19 (by decide) ?_
      refine W.widen (k := 3) (n := 18) (Nat.le_of_ble_eq_true rfl) (Nat.le_of_ble_eq_true rfl) ?_
      exact z_iret hx hb hr rfl hlocks B hf dL_drop_20
    have hf := zif_f he5 hf
    cases hf
  have hf := zx_ok hf h0
  refine lv_i2l (v := r2.toInt64) hx hb dL_drop_8 rfl ?_
  obtain ⟨hg, hf⟩ := zg_some hf
  refine z_last hx hb B 75 rfl rfl (zin_ok hg) dL_drop_9 (fun H locs B => ?_)
  refine lv_goto (tgt := 21) hx hb dL_drop_10 (by decide) ?_
  refine lv_iconst (v := (0 : Int32)) hx hb dL_drop_21 (by decide) ?_
  refine W.widen (k := 3) (n := 18) (Nat.le_of_ble_eq_true rfl) (Nat.le_of_ble_eq_true rfl) ?_
  exact z_iret hx hb hr rfl hlocks B hf dL_drop_22
theorem dL_revoke_0 : decode cL_revoke 0 = .ok (.aload_n 3, 1) := by decide +kernel
theorem dL_revoke_1 : decode cL_revoke 1 = .ok (.iconst 0, 1) := by decide +kernel
theorem dL_revoke_2 : decode cL_revoke 2 = .ok (.aload_n 0, 1) := by decide +kernel
theorem dL_revoke_3 : decode cL_revoke 3 = .ok (.iload_n 1, 1) := by decide +kernel
theorem dL_revoke_4 : decode cL_revoke 4 = .ok (.iload_n 2, 1) := by decide +kernel
theorem dL_revoke_5 : decode cL_revoke 5 = .ok (.invokevirtual 37, 3) := by decide +kernel
theorem dL_revoke_8 : decode cL_revoke 8 = .ok (.i2l, 1) := by decide +kernel
theorem dL_revoke_9 : decode cL_revoke 9 = .ok (.lastore, 1) := by decide +kernel
theorem dL_revoke_10 : decode cL_revoke 10 = .ok (.goto 11, 3) := by decide +kernel
theorem dL_revoke_13 : decode cL_revoke 13 = .ok (.astore 4, 2) := by decide +kernel
theorem dL_revoke_15 : decode cL_revoke 15 = .ok (.iconst 1, 1) := by decide +kernel
theorem dL_revoke_16 : decode cL_revoke 16 = .ok (.ireturn, 1) := by decide +kernel
theorem dL_revoke_17 : decode cL_revoke 17 = .ok (.astore 4, 2) := by decide +kernel
theorem dL_revoke_19 : decode cL_revoke 19 = .ok (.iconst 2, 1) := by decide +kernel
theorem dL_revoke_20 : decode cL_revoke 20 = .ok (.ireturn, 1) := by decide +kernel
theorem dL_revoke_21 : decode cL_revoke 21 = .ok (.iconst 0, 1) := by decide +kernel
theorem dL_revoke_22 : decode cL_revoke 22 = .ok (.ireturn, 1) := by decide +kernel
set_option maxRecDepth 20000 in
theorem ggL_revoke_X8_revoke : GoodIn wsL_revoke wsX8_revoke := goodIn_ca (goodIn_ca (goodIn_ca (goodIn_r _ [7, 8, 9, 10, 11, 12, 13, 6, 14, 15, 16, 17, 18, 19, 20, 21, 22, 23, 24, 25, 26, 27, 28, 29, 30, 31, 32, 33, 34, 35, 36, 37, 38, 39, 40, 41, 42, 43, 44, 45, 46, 47, 48, 49, 50, 51, 52, 53, 54, 55, 56, 57, 58, 59, 60, 61, 62, 63, 64, 65, 66, 67, 68, 69, 70, 71, 72, 73, 74, 75, 76, 77, 78, 79, 80, 81, 82, 83, 84, 85, 86, 87, 88, 89, 90, 91, 92, 93, 94, 95, 96, 97, 98, 99, 100, 101, 102, 103, 104, 105, 106, 107] (by decide +kernel) (by decide +kernel)) (goodIn_sub (fun _ h => List.mem_cons_of_mem _ (List.mem_append_left _ (List.mem_append_left _ (List.mem_append_right _ h)))) (by decide +kernel))) (goodIn_sub (fun _ h => List.mem_cons_of_mem _ (List.mem_append_left _ (List.mem_append_right _ h))) (by decide +kernel))) (goodIn_sub (fun _ h => List.mem_cons_of_mem _ (List.mem_append_right _ h)) (by decide +kernel))
set_option maxRecDepth 20000 in
theorem gL_revoke_X8_revoke : GoodIn wsL_revoke (wsV RL 37 RX8 yX8_revoke wsX8_revoke) := goodIn_app (goodIn_of _ (by decide +kernel)) ggL_revoke_X8_revoke
def rm_L_revoke_0_75 : Room := { frames := 11, cells := 3, slots := 18, locals := 265 }
set_option maxHeartbeats 4000000 in
set_option maxRecDepth 100000 in
theorem c_L_revoke_0_75 (l : Launch) (hfl : l.stackTraces = false) {nb : Nat} {G : zG} {ad : Nat → Nat} {σ σ' : zs} {a1 a2 : Int32} {r : Int32} (hf : f_L_revoke_0_75 σ a1 a2 = some (r, σ')) : zMi l yL_revoke wsL_revoke rm_L_revoke_0_75 G (zS nb) ad σ [.ref (ad 0), .int a1, .int a2, .ref (ad 75)] r σ' := by
  intro sz
  refine z_ofWH (cc := cL_revoke) (maxL := 5) (ret := (some .int)) (by decide) rfl ?_
  intro p e s m args below meth c s₁ B hml hv
  obtain ⟨rfl, hsz, hv⟩ := hv
  have hx := B.exec
  have hb := B.bytes
  have hr := B.returns
  have hts := atoms_spec (ws := wsL_revoke) B.pre
  have hown : s.vm.findClass RL = some m.cls := findClass_of_methodNamed B.named
  have hlocks := B.notSynchronized
  subst hsz
  have htab : c.exceptionTable.toList = [⟨0, 10, 13, 13⟩, ⟨0, 10, 17, 27⟩] := vx_table B (hts (.codeWith yL_revoke cL_revoke 5 (some .int) [(0, 10, 13, 13), (0, 10, 17, 27)]) List.mem_cons_self)
  have B := zB_start hv
  have hl := lv_entry ([.ref (ad 0), .int a1, .int a2, .ref (ad 75)]) (n := 5) (Nat.le_of_ble_eq_true rfl)
  rw [lg_entry_eq]
  generalize (lg_sl ([.ref (ad 0), .int a1, .int a2, .ref (ad 75)]) ++ List.replicate (5 - (lg_sl ([.ref (ad 0), .int a1, .int a2, .ref (ad 75)])).length) Slot.unset).toArray = ls at hl ⊢
  have hl : lv_has ls 5 [(0, .ref (ad 0)), (1, .int a1), (2, .int a2), (3, .ref (ad 75))] := hl
  generalize hAe : zA ad (zS nb).length s.heap.size = A at B ⊢
  unfold f_L_revoke_0_75 at hf
  refine lv_aload_n hx hb dL_revoke_0 rfl (lv_at hl 3 rfl) ?_
  refine lv_iconst (v := (0 : Int32)) hx hb dL_revoke_1 (by decide) ?_
  refine lv_aload_n hx hb dL_revoke_2 rfl (lv_at hl 0 rfl) ?_
  refine lv_iload_n hx hb dL_revoke_3 rfl (lv_at hl 1 rfl) ?_
  refine lv_iload_n hx hb dL_revoke_4 rfl (lv_at hl 2 rfl) ?_
  obtain ⟨u1, r2, σ3, hu1, hf⟩ := zc_some hf
  refine z_xi B (vx_runV (As := [.int a1, .int a2]) (rest := [.int (0 : Int32), .ref (ad 75)]) ⟨hx, hb, hml, hown, hts⟩ (c_X8_revoke l hfl hu1 _) (cwV 2 hts gL_revoke_X8_revoke rfl rfl rfl (by decide +kernel) ⟨Nat.le_of_ble_eq_true rfl, Nat.le_of_ble_eq_true rfl⟩) (z_preV B rfl rfl) rfl rfl hl.1 rfl (lv_room (Nat.le_of_ble_eq_true rfl)) dL_revoke_5 ⟨Nat.le_of_ble_eq_true rfl, Nat.le_of_ble_eq_true rfl⟩) (fun H locs ce q9 h0 B k1 k2 k3 => ?_) (fun H locs h0 B => ?_)
  · have hf := zx_no hf h0
    by_cases he1 : u1 = 1
    · have hf := zif_t he1 hf
      subst he1
      refine vx_catch (E := "java/lang/IndexOutOfBoundsException") (name := "java/lang/IndexOutOfBoundsException") hown [] ⟨0, 10, 13, 13⟩ [⟨0, 10, 17, 27⟩] htab (fun z hz => by cases hz) (by decide) (by decide) (hts (.classLink RL 13 "java/lang/IndexOutOfBoundsException") (by decide +kernel)) ((B.2.2.2.2.2.castable (by decide +kernel)).use rfl) k1 k2 k3 ?_
      refine lv_astore (lv' := [(4, .ref q9), (0, .ref (ad 0)), (1, .int a1), (2, .int a2), (3, .ref (ad 75))]) hx hb dL_revoke_13 hl (by decide) rfl (fun ls hl => ?_)
      refine lv_iconst (v := (1 : Int32)) hx hb dL_revoke_15 (by decide) ?_
      refine W.widen (k := 3) (n := 18) (Nat.le_of_ble_eq_true rfl) (Nat.le_of_ble_eq_true rfl) ?_
      exact z_iret hx hb hr rfl hlocks B hf dL_revoke_16
    have hf := zif_f he1 hf
    by_cases he4 : u1 = 4
    · have hf := zif_t he4 hf
      subst he4
      refine vx_catch (E := "java/lang/UnsupportedOperationException") (name := "java/lang/UnsupportedOperationException") hown [⟨0, 10, 13, 13⟩] ⟨0, 10, 17, 27⟩ [] htab (fun z hz => by simp only [List.mem_cons, List.not_mem_nil, or_false] at hz; rcases hz with rfl <;> first | exact Or.inr ⟨by decide, _, hts (.classLink RL 13 "java/lang/IndexOutOfBoundsException") (by decide +kernel), B.2.2.2.2.2.apart (by decide +kernel) (by decide +kernel) (by decide +kernel)⟩) (by decide) (by decide) (hts (.classLink RL 27 "java/lang/UnsupportedOperationException") (by decide +kernel)) ((B.2.2.2.2.2.castable (by decide +kernel)).use rfl) k1 k2 k3 ?_
      refine lv_astore (lv' := [(4, .ref q9), (0, .ref (ad 0)), (1, .int a1), (2, .int a2), (3, .ref (ad 75))]) hx hb dL_revoke_17 hl (by decide) rfl (fun ls hl => ?_)
      refine lv_iconst (v := (2 : Int32)) hx hb dL_revoke_19 (by decide) ?_
      refine W.widen (k := 3) (n := 18) (Nat.le_of_ble_eq_true rfl) (Nat.le_of_ble_eq_true rfl) ?_
      exact z_iret hx hb hr rfl hlocks B hf dL_revoke_20
    have hf := zif_f he4 hf
    cases hf
  have hf := zx_ok hf h0
  refine lv_i2l (v := r2.toInt64) hx hb dL_revoke_8 rfl ?_
  obtain ⟨hg, hf⟩ := zg_some hf
  refine z_last hx hb B 75 rfl rfl (zin_ok hg) dL_revoke_9 (fun H locs B => ?_)
  refine lv_goto (tgt := 21) hx hb dL_revoke_10 (by decide) ?_
  refine lv_iconst (v := (0 : Int32)) hx hb dL_revoke_21 (by decide) ?_
  refine W.widen (k := 3) (n := 18) (Nat.le_of_ble_eq_true rfl) (Nat.le_of_ble_eq_true rfl) ?_
  exact z_iret hx hb hr rfl hlocks B hf dL_revoke_22
theorem dL_token_0 : decode cL_token 0 = .ok (.aload_n 3, 1) := by decide +kernel
theorem dL_token_1 : decode cL_token 1 = .ok (.iconst 0, 1) := by decide +kernel
theorem dL_token_2 : decode cL_token 2 = .ok (.aload_n 0, 1) := by decide +kernel
theorem dL_token_3 : decode cL_token 3 = .ok (.iload_n 1, 1) := by decide +kernel
theorem dL_token_4 : decode cL_token 4 = .ok (.iload_n 2, 1) := by decide +kernel
theorem dL_token_5 : decode cL_token 5 = .ok (.invokevirtual 40, 3) := by decide +kernel
theorem dL_token_8 : decode cL_token 8 = .ok (.i2l, 1) := by decide +kernel
theorem dL_token_9 : decode cL_token 9 = .ok (.lastore, 1) := by decide +kernel
theorem dL_token_10 : decode cL_token 10 = .ok (.goto 11, 3) := by decide +kernel
theorem dL_token_13 : decode cL_token 13 = .ok (.astore 4, 2) := by decide +kernel
theorem dL_token_15 : decode cL_token 15 = .ok (.iconst 1, 1) := by decide +kernel
theorem dL_token_16 : decode cL_token 16 = .ok (.ireturn, 1) := by decide +kernel
theorem dL_token_17 : decode cL_token 17 = .ok (.astore 4, 2) := by decide +kernel
theorem dL_token_19 : decode cL_token 19 = .ok (.iconst 2, 1) := by decide +kernel
theorem dL_token_20 : decode cL_token 20 = .ok (.ireturn, 1) := by decide +kernel
theorem dL_token_21 : decode cL_token 21 = .ok (.iconst 0, 1) := by decide +kernel
theorem dL_token_22 : decode cL_token 22 = .ok (.ireturn, 1) := by decide +kernel
set_option maxRecDepth 20000 in
theorem ggL_token_X8_token : GoodIn wsL_token wsX8_token := goodIn_ca (goodIn_ca (goodIn_ca (goodIn_r _ [7, 8, 9, 10, 11, 12, 13, 14, 15, 16, 6, 17, 18, 19, 20, 21, 22, 23, 24, 25, 26, 27, 28, 29, 30, 31, 32, 33, 34, 35, 36, 37, 38, 39, 40, 41, 42, 43, 44, 45, 46, 47, 48, 49, 50, 51, 52, 53, 54, 55, 56, 57, 58, 59, 60, 61, 62, 63, 64, 65, 66, 67, 68, 69, 70, 71, 72, 73, 74] (by decide +kernel) (by decide +kernel)) (goodIn_sub (fun _ h => List.mem_cons_of_mem _ (List.mem_append_left _ (List.mem_append_left _ (List.mem_append_right _ h)))) (by decide +kernel))) (goodIn_sub (fun _ h => List.mem_cons_of_mem _ (List.mem_append_left _ (List.mem_append_right _ h))) (by decide +kernel))) (goodIn_sub (fun _ h => List.mem_cons_of_mem _ (List.mem_append_right _ h)) (by decide +kernel))
set_option maxRecDepth 20000 in
theorem gL_token_X8_token : GoodIn wsL_token (wsV RL 40 RX8 yX8_token wsX8_token) := goodIn_app (goodIn_of _ (by decide +kernel)) ggL_token_X8_token
def rm_L_token_0_75 : Room := { frames := 11, cells := 2, slots := 12, locals := 264 }
set_option maxHeartbeats 4000000 in
set_option maxRecDepth 100000 in
theorem c_L_token_0_75 (l : Launch) (hfl : l.stackTraces = false) {nb : Nat} {G : zG} {ad : Nat → Nat} {σ σ' : zs} {a1 a2 : Int32} {r : Int32} (hf : f_L_token_0_75 σ a1 a2 = some (r, σ')) : zMi l yL_token wsL_token rm_L_token_0_75 G (zS nb) ad σ [.ref (ad 0), .int a1, .int a2, .ref (ad 75)] r σ' := by
  intro sz
  refine z_ofWH (cc := cL_token) (maxL := 5) (ret := (some .int)) (by decide) rfl ?_
  intro p e s m args below meth c s₁ B hml hv
  obtain ⟨rfl, hsz, hv⟩ := hv
  have hx := B.exec
  have hb := B.bytes
  have hr := B.returns
  have hts := atoms_spec (ws := wsL_token) B.pre
  have hown : s.vm.findClass RL = some m.cls := findClass_of_methodNamed B.named
  have hlocks := B.notSynchronized
  subst hsz
  have htab : c.exceptionTable.toList = [⟨0, 10, 13, 13⟩, ⟨0, 10, 17, 15⟩] := vx_table B (hts (.codeWith yL_token cL_token 5 (some .int) [(0, 10, 13, 13), (0, 10, 17, 15)]) List.mem_cons_self)
  have B := zB_start hv
  have hl := lv_entry ([.ref (ad 0), .int a1, .int a2, .ref (ad 75)]) (n := 5) (Nat.le_of_ble_eq_true rfl)
  rw [lg_entry_eq]
  generalize (lg_sl ([.ref (ad 0), .int a1, .int a2, .ref (ad 75)]) ++ List.replicate (5 - (lg_sl ([.ref (ad 0), .int a1, .int a2, .ref (ad 75)])).length) Slot.unset).toArray = ls at hl ⊢
  have hl : lv_has ls 5 [(0, .ref (ad 0)), (1, .int a1), (2, .int a2), (3, .ref (ad 75))] := hl
  generalize hAe : zA ad (zS nb).length s.heap.size = A at B ⊢
  unfold f_L_token_0_75 at hf
  refine lv_aload_n hx hb dL_token_0 rfl (lv_at hl 3 rfl) ?_
  refine lv_iconst (v := (0 : Int32)) hx hb dL_token_1 (by decide) ?_
  refine lv_aload_n hx hb dL_token_2 rfl (lv_at hl 0 rfl) ?_
  refine lv_iload_n hx hb dL_token_3 rfl (lv_at hl 1 rfl) ?_
  refine lv_iload_n hx hb dL_token_4 rfl (lv_at hl 2 rfl) ?_
  obtain ⟨u1, r2, σ3, hu1, hf⟩ := zc_some hf
  refine z_xi B (vx_runV (As := [.int a1, .int a2]) (rest := [.int (0 : Int32), .ref (ad 75)]) ⟨hx, hb, hml, hown, hts⟩ (c_X8_token l hfl hu1 _) (cwV 2 hts gL_token_X8_token rfl rfl rfl (by decide +kernel) ⟨Nat.le_of_ble_eq_true rfl, Nat.le_of_ble_eq_true rfl⟩) (z_preV B rfl rfl) rfl rfl hl.1 rfl (lv_room (Nat.le_of_ble_eq_true rfl)) dL_token_5 ⟨Nat.le_of_ble_eq_true rfl, Nat.le_of_ble_eq_true rfl⟩) (fun H locs ce q9 h0 B k1 k2 k3 => ?_) (fun H locs h0 B => ?_)
  · have hf := zx_no hf h0
    by_cases he1 : u1 = 1
    · have hf := zif_t he1 hf
      subst he1
      refine vx_catch (E := "java/lang/IndexOutOfBoundsException") (name := "java/lang/IndexOutOfBoundsException") hown [] ⟨0, 10, 13, 13⟩ [⟨0, 10, 17, 15⟩] htab (fun z hz => by cases hz) (by decide) (by decide) (hts (.classLink RL 13 "java/lang/IndexOutOfBoundsException") (by decide +kernel)) ((B.2.2.2.2.2.castable (by decide +kernel)).use rfl) k1 k2 k3 ?_
      refine lv_astore (lv' := [(4, .ref q9), (0, .ref (ad 0)), (1, .int a1), (2, .int a2), (3, .ref (ad 75))]) hx hb dL_token_13 hl (by decide) rfl (fun ls hl => ?_)
      refine lv_iconst (v := (1 : Int32)) hx hb dL_token_15 (by decide) ?_
      refine W.widen (k := 2) (n := 12) (Nat.le_of_ble_eq_true rfl) (Nat.le_of_ble_eq_true rfl) ?_
      exact z_iret hx hb hr rfl hlocks B hf dL_token_16
    have hf := zif_f he1 hf
    by_cases he2 : u1 = 2
    · have hf := zif_t he2 hf
      subst he2
      refine vx_catch (E := "java/lang/IllegalArgumentException") (name := "java/lang/IllegalArgumentException") hown [⟨0, 10, 13, 13⟩] ⟨0, 10, 17, 15⟩ [] htab (fun z hz => by simp only [List.mem_cons, List.not_mem_nil, or_false] at hz; rcases hz with rfl <;> first | exact Or.inr ⟨by decide, _, hts (.classLink RL 13 "java/lang/IndexOutOfBoundsException") (by decide +kernel), B.2.2.2.2.2.apart (by decide +kernel) (by decide +kernel) (by decide +kernel)⟩) (by decide) (by decide) (hts (.classLink RL 15 "java/lang/IllegalArgumentException") (by decide +kernel)) ((B.2.2.2.2.2.castable (by decide +kernel)).use rfl) k1 k2 k3 ?_
      refine lv_astore (lv' := [(4, .ref q9), (0, .ref (ad 0)), (1, .int a1), (2, .int a2), (3, .ref (ad 75))]) hx hb dL_token_17 hl (by decide) rfl (fun ls hl => ?_)
      refine lv_iconst (v := (2 : Int32)) hx hb dL_token_19 (by decide) ?_
      refine W.widen (k := 2) (n := 12) (Nat.le_of_ble_eq_true rfl) (Nat.le_of_ble_eq_true rfl) ?_
      exact z_iret hx hb hr rfl hlocks B hf dL_token_20
    have hf := zif_f he2 hf
    cases hf
  have hf := zx_ok hf h0
  refine lv_i2l (v := r2.toInt64) hx hb dL_token_8 rfl ?_
  obtain ⟨hg, hf⟩ := zg_some hf
  refine z_last hx hb B 75 rfl rfl (zin_ok hg) dL_token_9 (fun H locs B => ?_)
  refine lv_goto (tgt := 21) hx hb dL_token_10 (by decide) ?_
  refine lv_iconst (v := (0 : Int32)) hx hb dL_token_21 (by decide) ?_
  refine W.widen (k := 2) (n := 12) (Nat.le_of_ble_eq_true rfl) (Nat.le_of_ble_eq_true rfl) ?_
  exact z_iret hx hb hr rfl hlocks B hf dL_token_22
theorem dL_caveat_0 : decode cL_caveat 0 = .ok (.aload 4, 2) := by decide +kernel
theorem dL_caveat_2 : decode cL_caveat 2 = .ok (.iconst 0, 1) := by decide +kernel
theorem dL_caveat_3 : decode cL_caveat 3 = .ok (.aload_n 0, 1) := by decide +kernel
theorem dL_caveat_4 : decode cL_caveat 4 = .ok (.iload_n 1, 1) := by decide +kernel
theorem dL_caveat_5 : decode cL_caveat 5 = .ok (.iload_n 2, 1) := by decide +kernel
theorem dL_caveat_6 : decode cL_caveat 6 = .ok (.iload_n 3, 1) := by decide +kernel
theorem dL_caveat_7 : decode cL_caveat 7 = .ok (.invokevirtual 43, 3) := by decide +kernel
theorem dL_caveat_10 : decode cL_caveat 10 = .ok (.i2l, 1) := by decide +kernel
theorem dL_caveat_11 : decode cL_caveat 11 = .ok (.lastore, 1) := by decide +kernel
theorem dL_caveat_12 : decode cL_caveat 12 = .ok (.goto 11, 3) := by decide +kernel
theorem dL_caveat_15 : decode cL_caveat 15 = .ok (.astore 5, 2) := by decide +kernel
theorem dL_caveat_17 : decode cL_caveat 17 = .ok (.iconst 1, 1) := by decide +kernel
theorem dL_caveat_18 : decode cL_caveat 18 = .ok (.ireturn, 1) := by decide +kernel
theorem dL_caveat_19 : decode cL_caveat 19 = .ok (.astore 5, 2) := by decide +kernel
theorem dL_caveat_21 : decode cL_caveat 21 = .ok (.iconst 2, 1) := by decide +kernel
theorem dL_caveat_22 : decode cL_caveat 22 = .ok (.ireturn, 1) := by decide +kernel
theorem dL_caveat_23 : decode cL_caveat 23 = .ok (.iconst 0, 1) := by decide +kernel
theorem dL_caveat_24 : decode cL_caveat 24 = .ok (.ireturn, 1) := by decide +kernel
set_option maxRecDepth 20000 in
theorem ggL_caveat_X8_caveat : GoodIn wsL_caveat wsX8_caveat := goodIn_ca (goodIn_ca (goodIn_ca (goodIn_r _ [7, 8, 9, 10, 11, 12, 13, 14, 15, 16, 6, 17, 18, 19, 20, 21, 22, 23, 24, 25, 26, 27, 28, 29, 30, 31, 32, 33, 34, 35, 36, 37, 38, 39, 40, 41, 42, 43, 44, 45, 46, 47, 48, 49, 50, 51, 52, 53, 54, 55, 56] (by decide +kernel) (by decide +kernel)) (goodIn_sub (fun _ h => List.mem_cons_of_mem _ (List.mem_append_left _ (List.mem_append_left _ (List.mem_append_right _ h)))) (by decide +kernel))) (goodIn_sub (fun _ h => List.mem_cons_of_mem _ (List.mem_append_left _ (List.mem_append_right _ h))) (by decide +kernel))) (goodIn_sub (fun _ h => List.mem_cons_of_mem _ (List.mem_append_right _ h)) (by decide +kernel))
set_option maxRecDepth 20000 in
theorem gL_caveat_X8_caveat : GoodIn wsL_caveat (wsV RL 43 RX8 yX8_caveat wsX8_caveat) := goodIn_app (goodIn_of _ (by decide +kernel)) ggL_caveat_X8_caveat
def rm_L_caveat_0_75 : Room := { frames := 11, cells := 3, slots := 18, locals := 265 }
set_option maxHeartbeats 4000000 in
set_option maxRecDepth 100000 in
theorem c_L_caveat_0_75 (l : Launch) (hfl : l.stackTraces = false) {nb : Nat} {G : zG} {ad : Nat → Nat} {σ σ' : zs} {a1 a2 a3 : Int32} {r : Int32} (hf : f_L_caveat_0_75 σ a1 a2 a3 = some (r, σ')) : zMi l yL_caveat wsL_caveat rm_L_caveat_0_75 G (zS nb) ad σ [.ref (ad 0), .int a1, .int a2, .int a3, .ref (ad 75)] r σ' := by
  intro sz
  refine z_ofWH (cc := cL_caveat) (maxL := 6) (ret := (some .int)) (by decide) rfl ?_
  intro p e s m args below meth c s₁ B hml hv
  obtain ⟨rfl, hsz, hv⟩ := hv
  have hx := B.exec
  have hb := B.bytes
  have hr := B.returns
  have hts := atoms_spec (ws := wsL_caveat) B.pre
  have hown : s.vm.findClass RL = some m.cls := findClass_of_methodNamed B.named
  have hlocks := B.notSynchronized
  subst hsz
  have htab : c.exceptionTable.toList = [⟨0, 12, 15, 13⟩, ⟨0, 12, 19, 15⟩] := vx_table B (hts (.codeWith yL_caveat cL_caveat 6 (some .int) [(0, 12, 15, 13), (0, 12, 19, 15)]) List.mem_cons_self)
  have B := zB_start hv
  have hl := lv_entry ([.ref (ad 0), .int a1, .int a2, .int a3, .ref (ad 75)]) (n := 6) (Nat.le_of_ble_eq_true rfl)
  rw [lg_entry_eq]
  generalize (lg_sl ([.ref (ad 0), .int a1, .int a2, .int a3, .ref (ad 75)]) ++ List.replicate (6 - (lg_sl ([.ref (ad 0), .int a1, .int a2, .int a3, .ref (ad 75)])).length) Slot.unset).toArray = ls at hl ⊢
  have hl : lv_has ls 6 [(0, .ref (ad 0)), (1, .int a1), (2, .int a2), (3, .int a3), (4, .ref (ad 75))] := hl
  generalize hAe : zA ad (zS nb).length s.heap.size = A at B ⊢
  unfold f_L_caveat_0_75 at hf
  refine lv_aload hx hb dL_caveat_0 (lv_at hl 4 rfl) ?_
  refine lv_iconst (v := (0 : Int32)) hx hb dL_caveat_2 (by decide) ?_
  refine lv_aload_n hx hb dL_caveat_3 rfl (lv_at hl 0 rfl) ?_
  refine lv_iload_n hx hb dL_caveat_4 rfl (lv_at hl 1 rfl) ?_
  refine lv_iload_n hx hb dL_caveat_5 rfl (lv_at hl 2 rfl) ?_
  refine lv_iload_n hx hb dL_caveat_6 rfl (lv_at hl 3 rfl) ?_
  obtain ⟨u1, r2, σ3, hu1, hf⟩ := zc_some hf
  refine z_xi B (vx_runV (As := [.int a1, .int a2, .int a3]) (rest := [.int (0 : Int32), .ref (ad 75)]) ⟨hx, hb, hml, hown, hts⟩ (c_X8_caveat l hfl hu1 _) (cwV 3 hts gL_caveat_X8_caveat rfl rfl rfl (by decide +kernel) ⟨Nat.le_of_ble_eq_true rfl, Nat.le_of_ble_eq_true rfl⟩) (z_preV B rfl rfl) rfl rfl hl.1 rfl (lv_room (Nat.le_of_ble_eq_true rfl)) dL_caveat_7 ⟨Nat.le_of_ble_eq_true rfl, Nat.le_of_ble_eq_true rfl⟩) (fun H locs ce q9 h0 B k1 k2 k3 => ?_) (fun H locs h0 B => ?_)
  · have hf := zx_no hf h0
    by_cases he1 : u1 = 1
    · have hf := zif_t he1 hf
      subst he1
      refine vx_catch (E := "java/lang/IndexOutOfBoundsException") (name := "java/lang/IndexOutOfBoundsException") hown [] ⟨0, 12, 15, 13⟩ [⟨0, 12, 19, 15⟩] htab (fun z hz => by cases hz) (by decide) (by decide) (hts (.classLink RL 13 "java/lang/IndexOutOfBoundsException") (by decide +kernel)) ((B.2.2.2.2.2.castable (by decide +kernel)).use rfl) k1 k2 k3 ?_
      refine lv_astore (lv' := [(5, .ref q9), (0, .ref (ad 0)), (1, .int a1), (2, .int a2), (3, .int a3), (4, .ref (ad 75))]) hx hb dL_caveat_15 hl (by decide) rfl (fun ls hl => ?_)
      refine lv_iconst (v := (1 : Int32)) hx hb dL_caveat_17 (by decide) ?_
      refine W.widen (k := 3) (n := 18) (Nat.le_of_ble_eq_true rfl) (Nat.le_of_ble_eq_true rfl) ?_
      exact z_iret hx hb hr rfl hlocks B hf dL_caveat_18
    have hf := zif_f he1 hf
    by_cases he2 : u1 = 2
    · have hf := zif_t he2 hf
      subst he2
      refine vx_catch (E := "java/lang/IllegalArgumentException") (name := "java/lang/IllegalArgumentException") hown [⟨0, 12, 15, 13⟩] ⟨0, 12, 19, 15⟩ [] htab (fun z hz => by simp only [List.mem_cons, List.not_mem_nil, or_false] at hz; rcases hz with rfl <;> first | exact Or.inr ⟨by decide, _, hts (.classLink RL 13 "java/lang/IndexOutOfBoundsException") (by decide +kernel), B.2.2.2.2.2.apart (by decide +kernel) (by decide +kernel) (by decide +kernel)⟩) (by decide) (by decide) (hts (.classLink RL 15 "java/lang/IllegalArgumentException") (by decide +kernel)) ((B.2.2.2.2.2.castable (by decide +kernel)).use rfl) k1 k2 k3 ?_
      refine lv_astore (lv' := [(5, .ref q9), (0, .ref (ad 0)), (1, .int a1), (2, .int a2), (3, .int a3), (4, .ref (ad 75))]) hx hb dL_caveat_19 hl (by decide) rfl (fun ls hl => ?_)
      refine lv_iconst (v := (2 : Int32)) hx hb dL_caveat_21 (by decide) ?_
      refine W.widen (k := 3) (n := 18) (Nat.le_of_ble_eq_true rfl) (Nat.le_of_ble_eq_true rfl) ?_
      exact z_iret hx hb hr rfl hlocks B hf dL_caveat_22
    have hf := zif_f he2 hf
    cases hf
  have hf := zx_ok hf h0
  refine lv_i2l (v := r2.toInt64) hx hb dL_caveat_10 rfl ?_
  obtain ⟨hg, hf⟩ := zg_some hf
  refine z_last hx hb B 75 rfl rfl (zin_ok hg) dL_caveat_11 (fun H locs B => ?_)
  refine lv_goto (tgt := 23) hx hb dL_caveat_12 (by decide) ?_
  refine lv_iconst (v := (0 : Int32)) hx hb dL_caveat_23 (by decide) ?_
  refine W.widen (k := 3) (n := 18) (Nat.le_of_ble_eq_true rfl) (Nat.le_of_ble_eq_true rfl) ?_
  exact z_iret hx hb hr rfl hlocks B hf dL_caveat_24
theorem dL_left_0 : decode cL_left 0 = .ok (.aload_n 3, 1) := by decide +kernel
theorem dL_left_1 : decode cL_left 1 = .ok (.iconst 0, 1) := by decide +kernel
theorem dL_left_2 : decode cL_left 2 = .ok (.aload_n 0, 1) := by decide +kernel
theorem dL_left_3 : decode cL_left 3 = .ok (.iload_n 1, 1) := by decide +kernel
theorem dL_left_4 : decode cL_left 4 = .ok (.iload_n 2, 1) := by decide +kernel
theorem dL_left_5 : decode cL_left 5 = .ok (.invokevirtual 49, 3) := by decide +kernel
theorem dL_left_8 : decode cL_left 8 = .ok (.i2l, 1) := by decide +kernel
theorem dL_left_9 : decode cL_left 9 = .ok (.lastore, 1) := by decide +kernel
theorem dL_left_10 : decode cL_left 10 = .ok (.goto 11, 3) := by decide +kernel
theorem dL_left_13 : decode cL_left 13 = .ok (.astore 4, 2) := by decide +kernel
theorem dL_left_15 : decode cL_left 15 = .ok (.iconst 1, 1) := by decide +kernel
theorem dL_left_16 : decode cL_left 16 = .ok (.ireturn, 1) := by decide +kernel
theorem dL_left_17 : decode cL_left 17 = .ok (.astore 4, 2) := by decide +kernel
theorem dL_left_19 : decode cL_left 19 = .ok (.iconst 2, 1) := by decide +kernel
theorem dL_left_20 : decode cL_left 20 = .ok (.ireturn, 1) := by decide +kernel
theorem dL_left_21 : decode cL_left 21 = .ok (.iconst 0, 1) := by decide +kernel
theorem dL_left_22 : decode cL_left 22 = .ok (.ireturn, 1) := by decide +kernel
set_option maxRecDepth 20000 in
theorem ggL_left_X8_left : GoodIn wsL_left wsX8_left := goodIn_ca (goodIn_ca (goodIn_ca (goodIn_r _ [7, 8, 9, 10, 11, 12, 13, 14, 15, 16, 17, 18, 6, 19, 20, 21, 22, 23, 24, 25, 26, 27, 28, 29, 30, 31, 32, 33, 34, 35, 36, 37, 38, 39, 40, 41, 42, 43, 44, 45, 46, 47, 48, 49, 50, 51, 52, 53, 54, 55, 56, 57, 58, 59, 60, 61, 62, 63, 64, 65, 66, 67, 68, 69, 70, 71, 72, 73, 74, 75, 76, 77, 78, 79, 80, 81, 82, 83, 84, 85, 86, 87, 88, 89, 90, 91, 92, 93, 94, 95, 96, 97, 98, 99, 100, 101, 102, 103, 104, 105, 106] (by decide +kernel) (by decide +kernel)) (goodIn_sub (fun _ h => List.mem_cons_of_mem _ (List.mem_append_left _ (List.mem_append_right _ h))) (by decide +kernel))) (goodIn_sub (fun _ h => List.mem_cons_of_mem _ (List.mem_append_right _ h)) (by decide +kernel))) (goodIn_sub (fun _ h => List.mem_cons_of_mem _ (List.mem_append_left _ (List.mem_append_left _ (List.mem_append_right _ h)))) (by decide +kernel))
set_option maxRecDepth 20000 in
theorem gL_left_X8_left : GoodIn wsL_left (wsV RL 49 RX8 yX8_left wsX8_left) := goodIn_app (goodIn_of _ (by decide +kernel)) ggL_left_X8_left
def rm_L_left_0_75 : Room := { frames := 11, cells := 2, slots := 12, locals := 264 }
set_option maxHeartbeats 4000000 in
set_option maxRecDepth 100000 in
theorem c_L_left_0_75 (l : Launch) (hfl : l.stackTraces = false) {nb : Nat} {G : zG} {ad : Nat → Nat} {σ σ' : zs} {a1 a2 : Int32} {r : Int32} (hf : f_L_left_0_75 σ a1 a2 = some (r, σ')) : zMi l yL_left wsL_left rm_L_left_0_75 G (zS nb) ad σ [.ref (ad 0), .int a1, .int a2, .ref (ad 75)] r σ' := by
  intro sz
  refine z_ofWH (cc := cL_left) (maxL := 5) (ret := (some .int)) (by decide) rfl ?_
  intro p e s m args below meth c s₁ B hml hv
  obtain ⟨rfl, hsz, hv⟩ := hv
  have hx := B.exec
  have hb := B.bytes
  have hr := B.returns
  have hts := atoms_spec (ws := wsL_left) B.pre
  have hown : s.vm.findClass RL = some m.cls := findClass_of_methodNamed B.named
  have hlocks := B.notSynchronized
  subst hsz
  have htab : c.exceptionTable.toList = [⟨0, 10, 13, 13⟩, ⟨0, 10, 17, 15⟩] := vx_table B (hts (.codeWith yL_left cL_left 5 (some .int) [(0, 10, 13, 13), (0, 10, 17, 15)]) List.mem_cons_self)
  have B := zB_start hv
  have hl := lv_entry ([.ref (ad 0), .int a1, .int a2, .ref (ad 75)]) (n := 5) (Nat.le_of_ble_eq_true rfl)
  rw [lg_entry_eq]
  generalize (lg_sl ([.ref (ad 0), .int a1, .int a2, .ref (ad 75)]) ++ List.replicate (5 - (lg_sl ([.ref (ad 0), .int a1, .int a2, .ref (ad 75)])).length) Slot.unset).toArray = ls at hl ⊢
  have hl : lv_has ls 5 [(0, .ref (ad 0)), (1, .int a1), (2, .int a2), (3, .ref (ad 75))] := hl
  generalize hAe : zA ad (zS nb).length s.heap.size = A at B ⊢
  unfold f_L_left_0_75 at hf
  refine lv_aload_n hx hb dL_left_0 rfl (lv_at hl 3 rfl) ?_
  refine lv_iconst (v := (0 : Int32)) hx hb dL_left_1 (by decide) ?_
  refine lv_aload_n hx hb dL_left_2 rfl (lv_at hl 0 rfl) ?_
  refine lv_iload_n hx hb dL_left_3 rfl (lv_at hl 1 rfl) ?_
  refine lv_iload_n hx hb dL_left_4 rfl (lv_at hl 2 rfl) ?_
  obtain ⟨u1, r2, σ3, hu1, hf⟩ := zc_some hf
  refine z_xi B (vx_runV (As := [.int a1, .int a2]) (rest := [.int (0 : Int32), .ref (ad 75)]) ⟨hx, hb, hml, hown, hts⟩ (c_X8_left l hfl hu1 _) (cwV 2 hts gL_left_X8_left rfl rfl rfl (by decide +kernel) ⟨Nat.le_of_ble_eq_true rfl, Nat.le_of_ble_eq_true rfl⟩) (z_preV B rfl rfl) rfl rfl hl.1 rfl (lv_room (Nat.le_of_ble_eq_true rfl)) dL_left_5 ⟨Nat.le_of_ble_eq_true rfl, Nat.le_of_ble_eq_true rfl⟩) (fun H locs ce q9 h0 B k1 k2 k3 => ?_) (fun H locs h0 B => ?_)
  · have hf := zx_no hf h0
    by_cases he1 : u1 = 1
    · have hf := zif_t he1 hf
      subst he1
      refine vx_catch (E := "java/lang/IndexOutOfBoundsException") (name := "java/lang/IndexOutOfBoundsException") hown [] ⟨0, 10, 13, 13⟩ [⟨0, 10, 17, 15⟩] htab (fun z hz => by cases hz) (by decide) (by decide) (hts (.classLink RL 13 "java/lang/IndexOutOfBoundsException") (by decide +kernel)) ((B.2.2.2.2.2.castable (by decide +kernel)).use rfl) k1 k2 k3 ?_
      refine lv_astore (lv' := [(4, .ref q9), (0, .ref (ad 0)), (1, .int a1), (2, .int a2), (3, .ref (ad 75))]) hx hb dL_left_13 hl (by decide) rfl (fun ls hl => ?_)
      refine lv_iconst (v := (1 : Int32)) hx hb dL_left_15 (by decide) ?_
      refine W.widen (k := 2) (n := 12) (Nat.le_of_ble_eq_true rfl) (Nat.le_of_ble_eq_true rfl) ?_
      exact z_iret hx hb hr rfl hlocks B hf dL_left_16
    have hf := zif_f he1 hf
    by_cases he2 : u1 = 2
    · have hf := zif_t he2 hf
      subst he2
      refine vx_catch (E := "java/lang/IllegalArgumentException") (name := "java/lang/IllegalArgumentException") hown [⟨0, 10, 13, 13⟩] ⟨0, 10, 17, 15⟩ [] htab (fun z hz => by simp only [List.mem_cons, List.not_mem_nil, or_false] at hz; rcases hz with rfl <;> first | exact Or.inr ⟨by decide, _, hts (.classLink RL 13 "java/lang/IndexOutOfBoundsException") (by decide +kernel), B.2.2.2.2.2.apart (by decide +kernel) (by decide +kernel) (by decide +kernel)⟩) (by decide) (by decide) (hts (.classLink RL 15 "java/lang/IllegalArgumentException") (by decide +kernel)) ((B.2.2.2.2.2.castable (by decide +kernel)).use rfl) k1 k2 k3 ?_
      refine lv_astore (lv' := [(4, .ref q9), (0, .ref (ad 0)), (1, .int a1), (2, .int a2), (3, .ref (ad 75))]) hx hb dL_left_17 hl (by decide) rfl (fun ls hl => ?_)
      refine lv_iconst (v := (2 : Int32)) hx hb dL_left_19 (by decide) ?_
      refine W.widen (k := 2) (n := 12) (Nat.le_of_ble_eq_true rfl) (Nat.le_of_ble_eq_true rfl) ?_
      exact z_iret hx hb hr rfl hlocks B hf dL_left_20
    have hf := zif_f he2 hf
    cases hf
  have hf := zx_ok hf h0
  refine lv_i2l (v := r2.toInt64) hx hb dL_left_8 rfl ?_
  obtain ⟨hg, hf⟩ := zg_some hf
  refine z_last hx hb B 75 rfl rfl (zin_ok hg) dL_left_9 (fun H locs B => ?_)
  refine lv_goto (tgt := 21) hx hb dL_left_10 (by decide) ?_
  refine lv_iconst (v := (0 : Int32)) hx hb dL_left_21 (by decide) ?_
  refine W.widen (k := 2) (n := 12) (Nat.le_of_ble_eq_true rfl) (Nat.le_of_ble_eq_true rfl) ?_
  exact z_iret hx hb hr rfl hlocks B hf dL_left_22
theorem dL_holders_0 : decode cL_holders 0 = .ok (.aload_n 2, 1) := by decide +kernel
theorem dL_holders_1 : decode cL_holders 1 = .ok (.iconst 0, 1) := by decide +kernel
theorem dL_holders_2 : decode cL_holders 2 = .ok (.aload_n 0, 1) := by decide +kernel
theorem dL_holders_3 : decode cL_holders 3 = .ok (.iload_n 1, 1) := by decide +kernel
theorem dL_holders_4 : decode cL_holders 4 = .ok (.invokevirtual 52, 3) := by decide +kernel
theorem dL_holders_7 : decode cL_holders 7 = .ok (.i2l, 1) := by decide +kernel
theorem dL_holders_8 : decode cL_holders 8 = .ok (.lastore, 1) := by decide +kernel
theorem dL_holders_9 : decode cL_holders 9 = .ok (.goto 6, 3) := by decide +kernel
theorem dL_holders_12 : decode cL_holders 12 = .ok (.astore_n 3, 1) := by decide +kernel
theorem dL_holders_13 : decode cL_holders 13 = .ok (.iconst 1, 1) := by decide +kernel
theorem dL_holders_14 : decode cL_holders 14 = .ok (.ireturn, 1) := by decide +kernel
theorem dL_holders_15 : decode cL_holders 15 = .ok (.iconst 0, 1) := by decide +kernel
theorem dL_holders_16 : decode cL_holders 16 = .ok (.ireturn, 1) := by decide +kernel
set_option maxRecDepth 20000 in
theorem ggL_holders_X8_holders : GoodIn wsL_holders wsX8_holders := goodIn_ca (goodIn_ca (goodIn_r _ [6, 7, 8, 9, 10, 11, 12, 5, 13, 14, 15, 16, 17, 18, 19, 20, 21, 22, 23, 24, 25, 26, 27, 28, 29, 30, 31, 32, 33, 34, 35, 36, 37, 38, 39, 40, 41, 42, 43, 44, 45, 46, 47] (by decide +kernel) (by decide +kernel)) (goodIn_sub (fun _ h => List.mem_cons_of_mem _ (List.mem_append_left _ (List.mem_append_right _ h))) (by decide +kernel))) (goodIn_sub (fun _ h => List.mem_cons_of_mem _ (List.mem_append_right _ h)) (by decide +kernel))
set_option maxRecDepth 20000 in
theorem gL_holders_X8_holders : GoodIn wsL_holders (wsV RL 52 RX8 yX8_holders wsX8_holders) := goodIn_app (goodIn_of _ (by decide +kernel)) ggL_holders_X8_holders
def rm_L_holders_0_75 : Room := { frames := 11, cells := 1, slots := 6, locals := 262 }
set_option maxHeartbeats 4000000 in
set_option maxRecDepth 100000 in
theorem c_L_holders_0_75 (l : Launch) (hfl : l.stackTraces = false) {nb : Nat} {G : zG} {ad : Nat → Nat} {σ σ' : zs} {a1 : Int32} {r : Int32} (hf : f_L_holders_0_75 σ a1 = some (r, σ')) : zMi l yL_holders wsL_holders rm_L_holders_0_75 G (zS nb) ad σ [.ref (ad 0), .int a1, .ref (ad 75)] r σ' := by
  intro sz
  refine z_ofWH (cc := cL_holders) (maxL := 4) (ret := (some .int)) (by decide) rfl ?_
  intro p e s m args below meth c s₁ B hml hv
  obtain ⟨rfl, hsz, hv⟩ := hv
  have hx := B.exec
  have hb := B.bytes
  have hr := B.returns
  have hts := atoms_spec (ws := wsL_holders) B.pre
  have hown : s.vm.findClass RL = some m.cls := findClass_of_methodNamed B.named
  have hlocks := B.notSynchronized
  subst hsz
  have htab : c.exceptionTable.toList = [⟨0, 9, 12, 13⟩] := vx_table B (hts (.codeWith yL_holders cL_holders 4 (some .int) [(0, 9, 12, 13)]) List.mem_cons_self)
  have B := zB_start hv
  have hl := lv_entry ([.ref (ad 0), .int a1, .ref (ad 75)]) (n := 4) (Nat.le_of_ble_eq_true rfl)
  rw [lg_entry_eq]
  generalize (lg_sl ([.ref (ad 0), .int a1, .ref (ad 75)]) ++ List.replicate (4 - (lg_sl ([.ref (ad 0), .int a1, .ref (ad 75)])).length) Slot.unset).toArray = ls at hl ⊢
  have hl : lv_has ls 4 [(0, .ref (ad 0)), (1, .int a1), (2, .ref (ad 75))] := hl
  generalize hAe : zA ad (zS nb).length s.heap.size = A at B ⊢
  unfold f_L_holders_0_75 at hf
  refine lv_aload_n hx hb dL_holders_0 rfl (lv_at hl 2 rfl) ?_
  refine lv_iconst (v := (0 : Int32)) hx hb dL_holders_1 (by decide) ?_
  refine lv_aload_n hx hb dL_holders_2 rfl (lv_at hl 0 rfl) ?_
  refine lv_iload_n hx hb dL_holders_3 rfl (lv_at hl 1 rfl) ?_
  obtain ⟨u1, r2, σ3, hu1, hf⟩ := zc_some hf
  refine z_xi B (vx_runV (As := [.int a1]) (rest := [.int (0 : Int32), .ref (ad 75)]) ⟨hx, hb, hml, hown, hts⟩ (c_X8_holders l hfl hu1 _) (cwV 1 hts gL_holders_X8_holders rfl rfl rfl (by decide +kernel) ⟨Nat.le_of_ble_eq_true rfl, Nat.le_of_ble_eq_true rfl⟩) (z_preV B rfl rfl) rfl rfl hl.1 rfl (lv_room (Nat.le_of_ble_eq_true rfl)) dL_holders_4 ⟨Nat.le_of_ble_eq_true rfl, Nat.le_of_ble_eq_true rfl⟩) (fun H locs ce q9 h0 B k1 k2 k3 => ?_) (fun H locs h0 B => ?_)
  · have hf := zx_no hf h0
    by_cases he1 : u1 = 1
    · have hf := zif_t he1 hf
      subst he1
      refine vx_catch (E := "java/lang/IndexOutOfBoundsException") (name := "java/lang/IndexOutOfBoundsException") hown [] ⟨0, 9, 12, 13⟩ [] htab (fun z hz => by cases hz) (by decide) (by decide) (hts (.classLink RL 13 "java/lang/IndexOutOfBoundsException") (by decide +kernel)) ((B.2.2.2.2.2.castable (by decide +kernel)).use rfl) k1 k2 k3 ?_
      refine lv_astore_n (lv' := [(3, .ref q9), (0, .ref (ad 0)), (1, .int a1), (2, .ref (ad 75))]) hx hb dL_holders_12 rfl hl (by decide) rfl (fun ls hl => ?_)
      refine lv_iconst (v := (1 : Int32)) hx hb dL_holders_13 (by decide) ?_
      refine W.widen (k := 1) (n := 6) (Nat.le_of_ble_eq_true rfl) (Nat.le_of_ble_eq_true rfl) ?_
      exact z_iret hx hb hr rfl hlocks B hf dL_holders_14
    have hf := zif_f he1 hf
    cases hf
  have hf := zx_ok hf h0
  refine lv_i2l (v := r2.toInt64) hx hb dL_holders_7 rfl ?_
  obtain ⟨hg, hf⟩ := zg_some hf
  refine z_last hx hb B 75 rfl rfl (zin_ok hg) dL_holders_8 (fun H locs B => ?_)
  refine lv_goto (tgt := 15) hx hb dL_holders_9 (by decide) ?_
  refine lv_iconst (v := (0 : Int32)) hx hb dL_holders_15 (by decide) ?_
  refine W.widen (k := 1) (n := 6) (Nat.le_of_ble_eq_true rfl) (Nat.le_of_ble_eq_true rfl) ?_
  exact z_iret hx hb hr rfl hlocks B hf dL_holders_16
theorem dL_held_0 : decode cL_held 0 = .ok (.aload_n 2, 1) := by decide +kernel
theorem dL_held_1 : decode cL_held 1 = .ok (.iconst 0, 1) := by decide +kernel
theorem dL_held_2 : decode cL_held 2 = .ok (.aload_n 0, 1) := by decide +kernel
theorem dL_held_3 : decode cL_held 3 = .ok (.iload_n 1, 1) := by decide +kernel
theorem dL_held_4 : decode cL_held 4 = .ok (.invokevirtual 55, 3) := by decide +kernel
theorem dL_held_7 : decode cL_held 7 = .ok (.i2l, 1) := by decide +kernel
theorem dL_held_8 : decode cL_held 8 = .ok (.lastore, 1) := by decide +kernel
theorem dL_held_9 : decode cL_held 9 = .ok (.goto 6, 3) := by decide +kernel
theorem dL_held_12 : decode cL_held 12 = .ok (.astore_n 3, 1) := by decide +kernel
theorem dL_held_13 : decode cL_held 13 = .ok (.iconst 1, 1) := by decide +kernel
theorem dL_held_14 : decode cL_held 14 = .ok (.ireturn, 1) := by decide +kernel
theorem dL_held_15 : decode cL_held 15 = .ok (.iconst 0, 1) := by decide +kernel
theorem dL_held_16 : decode cL_held 16 = .ok (.ireturn, 1) := by decide +kernel
set_option maxRecDepth 20000 in
theorem ggL_held_X8_held : GoodIn wsL_held wsX8_held := goodIn_ca (goodIn_ca (goodIn_r _ [6, 7, 8, 9, 10, 5, 11, 12, 13, 14, 15, 16, 17, 18, 19, 20, 21, 22, 23, 24, 25, 26, 27, 28, 29, 30, 31, 32, 33, 34, 35, 36, 37, 38, 39, 40, 41, 42, 43, 44, 45, 46, 47, 48, 49, 50, 51, 52, 53] (by decide +kernel) (by decide +kernel)) (goodIn_sub (fun _ h => List.mem_cons_of_mem _ (List.mem_append_right _ h)) (by decide +kernel))) (goodIn_sub (fun _ h => List.mem_cons_of_mem _ (List.mem_append_left _ (List.mem_append_right _ h))) (by decide +kernel))
set_option maxRecDepth 20000 in
theorem gL_held_X8_held : GoodIn wsL_held (wsV RL 55 RX8 yX8_held wsX8_held) := goodIn_app (goodIn_of _ (by decide +kernel)) ggL_held_X8_held
def rm_L_held_0_75 : Room := { frames := 11, cells := 1, slots := 6, locals := 261 }
set_option maxHeartbeats 4000000 in
set_option maxRecDepth 100000 in
theorem c_L_held_0_75 (l : Launch) (hfl : l.stackTraces = false) {nb : Nat} {G : zG} {ad : Nat → Nat} {σ σ' : zs} {a1 : Int32} {r : Int32} (hf : f_L_held_0_75 σ a1 = some (r, σ')) : zMi l yL_held wsL_held rm_L_held_0_75 G (zS nb) ad σ [.ref (ad 0), .int a1, .ref (ad 75)] r σ' := by
  intro sz
  refine z_ofWH (cc := cL_held) (maxL := 4) (ret := (some .int)) (by decide) rfl ?_
  intro p e s m args below meth c s₁ B hml hv
  obtain ⟨rfl, hsz, hv⟩ := hv
  have hx := B.exec
  have hb := B.bytes
  have hr := B.returns
  have hts := atoms_spec (ws := wsL_held) B.pre
  have hown : s.vm.findClass RL = some m.cls := findClass_of_methodNamed B.named
  have hlocks := B.notSynchronized
  subst hsz
  have htab : c.exceptionTable.toList = [⟨0, 9, 12, 13⟩] := vx_table B (hts (.codeWith yL_held cL_held 4 (some .int) [(0, 9, 12, 13)]) List.mem_cons_self)
  have B := zB_start hv
  have hl := lv_entry ([.ref (ad 0), .int a1, .ref (ad 75)]) (n := 4) (Nat.le_of_ble_eq_true rfl)
  rw [lg_entry_eq]
  generalize (lg_sl ([.ref (ad 0), .int a1, .ref (ad 75)]) ++ List.replicate (4 - (lg_sl ([.ref (ad 0), .int a1, .ref (ad 75)])).length) Slot.unset).toArray = ls at hl ⊢
  have hl : lv_has ls 4 [(0, .ref (ad 0)), (1, .int a1), (2, .ref (ad 75))] := hl
  generalize hAe : zA ad (zS nb).length s.heap.size = A at B ⊢
  unfold f_L_held_0_75 at hf
  refine lv_aload_n hx hb dL_held_0 rfl (lv_at hl 2 rfl) ?_
  refine lv_iconst (v := (0 : Int32)) hx hb dL_held_1 (by decide) ?_
  refine lv_aload_n hx hb dL_held_2 rfl (lv_at hl 0 rfl) ?_
  refine lv_iload_n hx hb dL_held_3 rfl (lv_at hl 1 rfl) ?_
  obtain ⟨u1, r2, σ3, hu1, hf⟩ := zc_some hf
  refine z_xi B (vx_runV (As := [.int a1]) (rest := [.int (0 : Int32), .ref (ad 75)]) ⟨hx, hb, hml, hown, hts⟩ (c_X8_held l hfl hu1 _) (cwV 1 hts gL_held_X8_held rfl rfl rfl (by decide +kernel) ⟨Nat.le_of_ble_eq_true rfl, Nat.le_of_ble_eq_true rfl⟩) (z_preV B rfl rfl) rfl rfl hl.1 rfl (lv_room (Nat.le_of_ble_eq_true rfl)) dL_held_4 ⟨Nat.le_of_ble_eq_true rfl, Nat.le_of_ble_eq_true rfl⟩) (fun H locs ce q9 h0 B k1 k2 k3 => ?_) (fun H locs h0 B => ?_)
  · have hf := zx_no hf h0
    by_cases he1 : u1 = 1
    · have hf := zif_t he1 hf
      subst he1
      refine vx_catch (E := "java/lang/IndexOutOfBoundsException") (name := "java/lang/IndexOutOfBoundsException") hown [] ⟨0, 9, 12, 13⟩ [] htab (fun z hz => by cases hz) (by decide) (by decide) (hts (.classLink RL 13 "java/lang/IndexOutOfBoundsException") (by decide +kernel)) ((B.2.2.2.2.2.castable (by decide +kernel)).use rfl) k1 k2 k3 ?_
      refine lv_astore_n (lv' := [(3, .ref q9), (0, .ref (ad 0)), (1, .int a1), (2, .ref (ad 75))]) hx hb dL_held_12 rfl hl (by decide) rfl (fun ls hl => ?_)
      refine lv_iconst (v := (1 : Int32)) hx hb dL_held_13 (by decide) ?_
      refine W.widen (k := 1) (n := 6) (Nat.le_of_ble_eq_true rfl) (Nat.le_of_ble_eq_true rfl) ?_
      exact z_iret hx hb hr rfl hlocks B hf dL_held_14
    have hf := zif_f he1 hf
    cases hf
  have hf := zx_ok hf h0
  refine lv_i2l (v := r2.toInt64) hx hb dL_held_7 rfl ?_
  obtain ⟨hg, hf⟩ := zg_some hf
  refine z_last hx hb B 75 rfl rfl (zin_ok hg) dL_held_8 (fun H locs B => ?_)
  refine lv_goto (tgt := 15) hx hb dL_held_9 (by decide) ?_
  refine lv_iconst (v := (0 : Int32)) hx hb dL_held_15 (by decide) ?_
  refine W.widen (k := 1) (n := 6) (Nat.le_of_ble_eq_true rfl) (Nat.le_of_ble_eq_true rfl) ?_
  exact z_iret hx hb hr rfl hlocks B hf dL_held_16
theorem dL_below_0 : decode cL_below 0 = .ok (.aload_n 2, 1) := by decide +kernel
theorem dL_below_1 : decode cL_below 1 = .ok (.iconst 0, 1) := by decide +kernel
theorem dL_below_2 : decode cL_below 2 = .ok (.aload_n 0, 1) := by decide +kernel
theorem dL_below_3 : decode cL_below 3 = .ok (.iload_n 1, 1) := by decide +kernel
theorem dL_below_4 : decode cL_below 4 = .ok (.invokevirtual 58, 3) := by decide +kernel
theorem dL_below_7 : decode cL_below 7 = .ok (.i2l, 1) := by decide +kernel
theorem dL_below_8 : decode cL_below 8 = .ok (.lastore, 1) := by decide +kernel
theorem dL_below_9 : decode cL_below 9 = .ok (.goto 6, 3) := by decide +kernel
theorem dL_below_12 : decode cL_below 12 = .ok (.astore_n 3, 1) := by decide +kernel
theorem dL_below_13 : decode cL_below 13 = .ok (.iconst 1, 1) := by decide +kernel
theorem dL_below_14 : decode cL_below 14 = .ok (.ireturn, 1) := by decide +kernel
theorem dL_below_15 : decode cL_below 15 = .ok (.iconst 0, 1) := by decide +kernel
theorem dL_below_16 : decode cL_below 16 = .ok (.ireturn, 1) := by decide +kernel
set_option maxRecDepth 20000 in
theorem ggL_below_X8_below : GoodIn wsL_below wsX8_below := goodIn_ca (goodIn_ca (goodIn_r _ [6, 7, 8, 9, 10, 11, 5, 12, 13, 14, 15, 16, 17, 18, 19, 20, 21, 22, 23, 24, 25, 26, 27, 28, 29, 30, 31, 32, 33, 34, 35, 36, 37, 38, 39, 40, 41, 42, 43, 44, 45, 46, 47, 48, 49, 50, 51, 52, 53, 54, 55, 56, 57, 58] (by decide +kernel) (by decide +kernel)) (goodIn_sub (fun _ h => List.mem_cons_of_mem _ (List.mem_append_right _ h)) (by decide +kernel))) (goodIn_sub (fun _ h => List.mem_cons_of_mem _ (List.mem_append_left _ (List.mem_append_right _ h))) (by decide +kernel))
set_option maxRecDepth 20000 in
theorem gL_below_X8_below : GoodIn wsL_below (wsV RL 58 RX8 yX8_below wsX8_below) := goodIn_app (goodIn_of _ (by decide +kernel)) ggL_below_X8_below
def rm_L_below_0_75 : Room := { frames := 11, cells := 1, slots := 6, locals := 262 }
set_option maxHeartbeats 4000000 in
set_option maxRecDepth 100000 in
theorem c_L_below_0_75 (l : Launch) (hfl : l.stackTraces = false) {nb : Nat} {G : zG} {ad : Nat → Nat} {σ σ' : zs} {a1 : Int32} {r : Int32} (hf : f_L_below_0_75 σ a1 = some (r, σ')) : zMi l yL_below wsL_below rm_L_below_0_75 G (zS nb) ad σ [.ref (ad 0), .int a1, .ref (ad 75)] r σ' := by
  intro sz
  refine z_ofWH (cc := cL_below) (maxL := 4) (ret := (some .int)) (by decide) rfl ?_
  intro p e s m args below meth c s₁ B hml hv
  obtain ⟨rfl, hsz, hv⟩ := hv
  have hx := B.exec
  have hb := B.bytes
  have hr := B.returns
  have hts := atoms_spec (ws := wsL_below) B.pre
  have hown : s.vm.findClass RL = some m.cls := findClass_of_methodNamed B.named
  have hlocks := B.notSynchronized
  subst hsz
  have htab : c.exceptionTable.toList = [⟨0, 9, 12, 13⟩] := vx_table B (hts (.codeWith yL_below cL_below 4 (some .int) [(0, 9, 12, 13)]) List.mem_cons_self)
  have B := zB_start hv
  have hl := lv_entry ([.ref (ad 0), .int a1, .ref (ad 75)]) (n := 4) (Nat.le_of_ble_eq_true rfl)
  rw [lg_entry_eq]
  generalize (lg_sl ([.ref (ad 0), .int a1, .ref (ad 75)]) ++ List.replicate (4 - (lg_sl ([.ref (ad 0), .int a1, .ref (ad 75)])).length) Slot.unset).toArray = ls at hl ⊢
  have hl : lv_has ls 4 [(0, .ref (ad 0)), (1, .int a1), (2, .ref (ad 75))] := hl
  generalize hAe : zA ad (zS nb).length s.heap.size = A at B ⊢
  unfold f_L_below_0_75 at hf
  refine lv_aload_n hx hb dL_below_0 rfl (lv_at hl 2 rfl) ?_
  refine lv_iconst (v := (0 : Int32)) hx hb dL_below_1 (by decide) ?_
  refine lv_aload_n hx hb dL_below_2 rfl (lv_at hl 0 rfl) ?_
  refine lv_iload_n hx hb dL_below_3 rfl (lv_at hl 1 rfl) ?_
  obtain ⟨u1, r2, σ3, hu1, hf⟩ := zc_some hf
  refine z_xi B (vx_runV (As := [.int a1]) (rest := [.int (0 : Int32), .ref (ad 75)]) ⟨hx, hb, hml, hown, hts⟩ (c_X8_below l hfl hu1 _) (cwV 1 hts gL_below_X8_below rfl rfl rfl (by decide +kernel) ⟨Nat.le_of_ble_eq_true rfl, Nat.le_of_ble_eq_true rfl⟩) (z_preV B rfl rfl) rfl rfl hl.1 rfl (lv_room (Nat.le_of_ble_eq_true rfl)) dL_below_4 ⟨Nat.le_of_ble_eq_true rfl, Nat.le_of_ble_eq_true rfl⟩) (fun H locs ce q9 h0 B k1 k2 k3 => ?_) (fun H locs h0 B => ?_)
  · have hf := zx_no hf h0
    by_cases he1 : u1 = 1
    · have hf := zif_t he1 hf
      subst he1
      refine vx_catch (E := "java/lang/IndexOutOfBoundsException") (name := "java/lang/IndexOutOfBoundsException") hown [] ⟨0, 9, 12, 13⟩ [] htab (fun z hz => by cases hz) (by decide) (by decide) (hts (.classLink RL 13 "java/lang/IndexOutOfBoundsException") (by decide +kernel)) ((B.2.2.2.2.2.castable (by decide +kernel)).use rfl) k1 k2 k3 ?_
      refine lv_astore_n (lv' := [(3, .ref q9), (0, .ref (ad 0)), (1, .int a1), (2, .ref (ad 75))]) hx hb dL_below_12 rfl hl (by decide) rfl (fun ls hl => ?_)
      refine lv_iconst (v := (1 : Int32)) hx hb dL_below_13 (by decide) ?_
      refine W.widen (k := 1) (n := 6) (Nat.le_of_ble_eq_true rfl) (Nat.le_of_ble_eq_true rfl) ?_
      exact z_iret hx hb hr rfl hlocks B hf dL_below_14
    have hf := zif_f he1 hf
    cases hf
  have hf := zx_ok hf h0
  refine lv_i2l (v := r2.toInt64) hx hb dL_below_7 rfl ?_
  obtain ⟨hg, hf⟩ := zg_some hf
  refine z_last hx hb B 75 rfl rfl (zin_ok hg) dL_below_8 (fun H locs B => ?_)
  refine lv_goto (tgt := 15) hx hb dL_below_9 (by decide) ?_
  refine lv_iconst (v := (0 : Int32)) hx hb dL_below_15 (by decide) ?_
  refine W.widen (k := 1) (n := 6) (Nat.le_of_ble_eq_true rfl) (Nat.le_of_ble_eq_true rfl) ?_
  exact z_iret hx hb hr rfl hlocks B hf dL_below_16
theorem dL_ranked_0 : decode cL_ranked 0 = .ok (.aload_n 2, 1) := by decide +kernel
theorem dL_ranked_1 : decode cL_ranked 1 = .ok (.iconst 0, 1) := by decide +kernel
theorem dL_ranked_2 : decode cL_ranked 2 = .ok (.aload_n 0, 1) := by decide +kernel
theorem dL_ranked_3 : decode cL_ranked 3 = .ok (.iload_n 1, 1) := by decide +kernel
theorem dL_ranked_4 : decode cL_ranked 4 = .ok (.invokevirtual 61, 3) := by decide +kernel
theorem dL_ranked_7 : decode cL_ranked 7 = .ok (.i2l, 1) := by decide +kernel
theorem dL_ranked_8 : decode cL_ranked 8 = .ok (.lastore, 1) := by decide +kernel
theorem dL_ranked_9 : decode cL_ranked 9 = .ok (.goto 6, 3) := by decide +kernel
theorem dL_ranked_12 : decode cL_ranked 12 = .ok (.astore_n 3, 1) := by decide +kernel
theorem dL_ranked_13 : decode cL_ranked 13 = .ok (.iconst 1, 1) := by decide +kernel
theorem dL_ranked_14 : decode cL_ranked 14 = .ok (.ireturn, 1) := by decide +kernel
theorem dL_ranked_15 : decode cL_ranked 15 = .ok (.iconst 0, 1) := by decide +kernel
theorem dL_ranked_16 : decode cL_ranked 16 = .ok (.ireturn, 1) := by decide +kernel
set_option maxRecDepth 20000 in
theorem ggL_ranked_X8_ranked : GoodIn wsL_ranked wsX8_ranked := goodIn_ca (goodIn_ca (goodIn_r _ [6, 7, 8, 9, 10, 11, 12, 13, 14, 15, 16, 17, 18, 19, 20, 21, 22, 23, 24, 25, 26, 5, 27, 28, 29, 30, 31, 32, 33, 34, 35, 36, 37, 38, 39, 40, 41, 42, 43, 44, 45, 46, 47, 48, 49, 50, 51, 52, 53, 54, 55, 56, 57] (by decide +kernel) (by decide +kernel)) (goodIn_sub (fun _ h => List.mem_cons_of_mem _ (List.mem_append_left _ (List.mem_append_right _ h))) (by decide +kernel))) (goodIn_sub (fun _ h => List.mem_cons_of_mem _ (List.mem_append_right _ h)) (by decide +kernel))
set_option maxRecDepth 20000 in
theorem gL_ranked_X8_ranked : GoodIn wsL_ranked (wsV RL 61 RX8 yX8_ranked wsX8_ranked) := goodIn_app (goodIn_of _ (by decide +kernel)) ggL_ranked_X8_ranked
def rm_L_ranked_0_75 : Room := { frames := 10, cells := 1, slots := 6, locals := 242 }
set_option maxHeartbeats 4000000 in
set_option maxRecDepth 100000 in
theorem c_L_ranked_0_75 (l : Launch) (hfl : l.stackTraces = false) {nb : Nat} {G : zG} {ad : Nat → Nat} {σ σ' : zs} {a1 : Int32} {r : Int32} (hf : f_L_ranked_0_75 σ a1 = some (r, σ')) : zMi l yL_ranked wsL_ranked rm_L_ranked_0_75 G (zS nb) ad σ [.ref (ad 0), .int a1, .ref (ad 75)] r σ' := by
  intro sz
  refine z_ofWH (cc := cL_ranked) (maxL := 4) (ret := (some .int)) (by decide) rfl ?_
  intro p e s m args below meth c s₁ B hml hv
  obtain ⟨rfl, hsz, hv⟩ := hv
  have hx := B.exec
  have hb := B.bytes
  have hr := B.returns
  have hts := atoms_spec (ws := wsL_ranked) B.pre
  have hown : s.vm.findClass RL = some m.cls := findClass_of_methodNamed B.named
  have hlocks := B.notSynchronized
  subst hsz
  have htab : c.exceptionTable.toList = [⟨0, 9, 12, 35⟩] := vx_table B (hts (.codeWith yL_ranked cL_ranked 4 (some .int) [(0, 9, 12, 35)]) List.mem_cons_self)
  have B := zB_start hv
  have hl := lv_entry ([.ref (ad 0), .int a1, .ref (ad 75)]) (n := 4) (Nat.le_of_ble_eq_true rfl)
  rw [lg_entry_eq]
  generalize (lg_sl ([.ref (ad 0), .int a1, .ref (ad 75)]) ++ List.replicate (4 - (lg_sl ([.ref (ad 0), .int a1, .ref (ad 75)])).length) Slot.unset).toArray = ls at hl ⊢
  have hl : lv_has ls 4 [(0, .ref (ad 0)), (1, .int a1), (2, .ref (ad 75))] := hl
  generalize hAe : zA ad (zS nb).length s.heap.size = A at B ⊢
  unfold f_L_ranked_0_75 at hf
  refine lv_aload_n hx hb dL_ranked_0 rfl (lv_at hl 2 rfl) ?_
  refine lv_iconst (v := (0 : Int32)) hx hb dL_ranked_1 (by decide) ?_
  refine lv_aload_n hx hb dL_ranked_2 rfl (lv_at hl 0 rfl) ?_
  refine lv_iload_n hx hb dL_ranked_3 rfl (lv_at hl 1 rfl) ?_
  obtain ⟨u1, r2, σ3, hu1, hf⟩ := zc_some hf
  refine z_xi B (vx_runV (As := [.int a1]) (rest := [.int (0 : Int32), .ref (ad 75)]) ⟨hx, hb, hml, hown, hts⟩ (c_X8_ranked l hfl hu1 _) (cwV 1 hts gL_ranked_X8_ranked rfl rfl rfl (by decide +kernel) ⟨Nat.le_of_ble_eq_true rfl, Nat.le_of_ble_eq_true rfl⟩) (z_preV B rfl rfl) rfl rfl hl.1 rfl (lv_room (Nat.le_of_ble_eq_true rfl)) dL_ranked_4 ⟨Nat.le_of_ble_eq_true rfl, Nat.le_of_ble_eq_true rfl⟩) (fun H locs ce q9 h0 B k1 k2 k3 => ?_) (fun H locs h0 B => ?_)
  · have hf := zx_no hf h0
    by_cases he5 : u1 = 5
    · have hf := zif_t he5 hf
      subst he5
      refine vx_catch (E := "java/util/NoSuchElementException") (name := "java/util/NoSuchElementException") hown [] ⟨0, 9, 12, 35⟩ [] htab (fun z hz => by cases hz) (by decide) (by decide) (hts (.classLink RL 35 "java/util/NoSuchElementException") (by decide +kernel)) ((B.2.2.2.2.2.castable (by decide +kernel)).use rfl) k1 k2 k3 ?_
      refine lv_astore_n (lv' := [(3, .ref q9), (0, .ref (ad 0)), (1, .int a1), (2, .ref (ad 75))]) hx hb dL_ranked_12 rfl hl (by decide) rfl (fun ls hl => ?_)
      refine lv_iconst (v := (1 : Int32)) hx hb dL_ranked_13 (by decide) ?_
      refine W.widen (k := 1) (n := 6) (Nat.le_of_ble_eq_true rfl) (Nat.le_of_ble_eq_true rfl) ?_
      exact z_iret hx hb hr rfl hlocks B hf dL_ranked_14
    have hf := zif_f he5 hf
    cases hf
  have hf := zx_ok hf h0
  refine lv_i2l (v := r2.toInt64) hx hb dL_ranked_7 rfl ?_
  obtain ⟨hg, hf⟩ := zg_some hf
  refine z_last hx hb B 75 rfl rfl (zin_ok hg) dL_ranked_8 (fun H locs B => ?_)
  refine lv_goto (tgt := 15) hx hb dL_ranked_9 (by decide) ?_
  refine lv_iconst (v := (0 : Int32)) hx hb dL_ranked_15 (by decide) ?_
  refine W.widen (k := 1) (n := 6) (Nat.le_of_ble_eq_true rfl) (Nat.le_of_ble_eq_true rfl) ?_
  exact z_iret hx hb hr rfl hlocks B hf dL_ranked_16
theorem dL_request_0 : decode cL_request 0 = .ok (.aload 5, 2) := by decide +kernel
theorem dL_request_2 : decode cL_request 2 = .ok (.iconst 0, 1) := by decide +kernel
theorem dL_request_3 : decode cL_request 3 = .ok (.aload_n 0, 1) := by decide +kernel
theorem dL_request_4 : decode cL_request 4 = .ok (.iload_n 1, 1) := by decide +kernel
theorem dL_request_5 : decode cL_request 5 = .ok (.iload_n 2, 1) := by decide +kernel
theorem dL_request_6 : decode cL_request 6 = .ok (.iload_n 3, 1) := by decide +kernel
theorem dL_request_7 : decode cL_request 7 = .ok (.iload 4, 2) := by decide +kernel
theorem dL_request_9 : decode cL_request 9 = .ok (.invokevirtual 64, 3) := by decide +kernel
theorem dL_request_12 : decode cL_request 12 = .ok (.i2l, 1) := by decide +kernel
theorem dL_request_13 : decode cL_request 13 = .ok (.lastore, 1) := by decide +kernel
theorem dL_request_14 : decode cL_request 14 = .ok (.goto 15, 3) := by decide +kernel
theorem dL_request_17 : decode cL_request 17 = .ok (.astore 6, 2) := by decide +kernel
theorem dL_request_19 : decode cL_request 19 = .ok (.iconst 1, 1) := by decide +kernel
theorem dL_request_20 : decode cL_request 20 = .ok (.ireturn, 1) := by decide +kernel
theorem dL_request_21 : decode cL_request 21 = .ok (.astore 6, 2) := by decide +kernel
theorem dL_request_23 : decode cL_request 23 = .ok (.iconst 2, 1) := by decide +kernel
theorem dL_request_24 : decode cL_request 24 = .ok (.ireturn, 1) := by decide +kernel
theorem dL_request_25 : decode cL_request 25 = .ok (.astore 6, 2) := by decide +kernel
theorem dL_request_27 : decode cL_request 27 = .ok (.iconst 3, 1) := by decide +kernel
theorem dL_request_28 : decode cL_request 28 = .ok (.ireturn, 1) := by decide +kernel
theorem dL_request_29 : decode cL_request 29 = .ok (.iconst 0, 1) := by decide +kernel
theorem dL_request_30 : decode cL_request 30 = .ok (.ireturn, 1) := by decide +kernel
set_option maxRecDepth 20000 in
theorem ggL_request_X8_request : GoodIn wsL_request wsX8_request := goodIn_ca (goodIn_ca (goodIn_ca (goodIn_ca (goodIn_r _ [8, 9, 10, 11, 12, 13, 14, 7, 15, 16, 17, 18, 19, 20, 21, 22, 23, 24, 25, 26, 27, 28, 29, 30, 31, 32, 33, 34, 35, 36, 37, 38, 39, 40, 41, 42, 43, 44, 45, 46, 47, 48, 49, 50, 51, 52, 53, 54, 55, 56, 57, 58, 59, 60, 61, 62, 63, 64, 65, 66, 67, 68, 69, 70, 71, 72, 73, 74, 75, 76, 77, 78, 79, 80, 81, 82, 83, 84, 85, 86, 87, 88, 89, 90, 91, 92, 93, 94, 95, 96, 97, 98, 99, 100, 101, 102, 103, 104, 105, 106, 107, 108, 109, 110, 111, 112, 113, 114, 115, 116, 117, 118, 119, 120, 121, 122, 123, 124, 125, 126, 127, 128, 129, 130, 131, 132, 133, 134, 135, 136, 137, 138, 139, 140, 141, 142, 143, 144, 145] (by decide +kernel) (by decide +kernel)) (goodIn_sub (fun _ h => List.mem_cons_of_mem _ (List.mem_append_left _ (List.mem_append_left _ (List.mem_append_left _ (List.mem_append_right _ h))))) (by decide +kernel))) (goodIn_sub (fun _ h => List.mem_cons_of_mem _ (List.mem_append_left _ (List.mem_append_left _ (List.mem_append_right _ h)))) (by decide +kernel))) (goodIn_sub (fun _ h => List.mem_cons_of_mem _ (List.mem_append_left _ (List.mem_append_right _ h))) (by decide +kernel))) (goodIn_sub (fun _ h => List.mem_cons_of_mem _ (List.mem_append_right _ h)) (by decide +kernel))
set_option maxRecDepth 20000 in
theorem gL_request_X8_request : GoodIn wsL_request (wsV RL 64 RX8 yX8_request wsX8_request) := goodIn_app (goodIn_of _ (by decide +kernel)) ggL_request_X8_request
def rm_L_request_0_75 : Room := { frames := 11, cells := 4, slots := 24, locals := 266 }
set_option maxHeartbeats 4000000 in
set_option maxRecDepth 100000 in
theorem c_L_request_0_75 (l : Launch) (hfl : l.stackTraces = false) {nb : Nat} {G : zG} {ad : Nat → Nat} {σ σ' : zs} {a1 a2 a3 a4 : Int32} {r : Int32} (hf : f_L_request_0_75 σ a1 a2 a3 a4 = some (r, σ')) : zMi l yL_request wsL_request rm_L_request_0_75 G (zS nb) ad σ [.ref (ad 0), .int a1, .int a2, .int a3, .int a4, .ref (ad 75)] r σ' := by
  intro sz
  refine z_ofWH (cc := cL_request) (maxL := 7) (ret := (some .int)) (by decide) rfl ?_
  intro p e s m args below meth c s₁ B hml hv
  obtain ⟨rfl, hsz, hv⟩ := hv
  have hx := B.exec
  have hb := B.bytes
  have hr := B.returns
  have hts := atoms_spec (ws := wsL_request) B.pre
  have hown : s.vm.findClass RL = some m.cls := findClass_of_methodNamed B.named
  have hlocks := B.notSynchronized
  subst hsz
  have htab : c.exceptionTable.toList = [⟨0, 14, 17, 13⟩, ⟨0, 14, 21, 15⟩, ⟨0, 14, 25, 27⟩] := vx_table B (hts (.codeWith yL_request cL_request 7 (some .int) [(0, 14, 17, 13), (0, 14, 21, 15), (0, 14, 25, 27)]) List.mem_cons_self)
  have B := zB_start hv
  have hl := lv_entry ([.ref (ad 0), .int a1, .int a2, .int a3, .int a4, .ref (ad 75)]) (n := 7) (Nat.le_of_ble_eq_true rfl)
  rw [lg_entry_eq]
  generalize (lg_sl ([.ref (ad 0), .int a1, .int a2, .int a3, .int a4, .ref (ad 75)]) ++ List.replicate (7 - (lg_sl ([.ref (ad 0), .int a1, .int a2, .int a3, .int a4, .ref (ad 75)])).length) Slot.unset).toArray = ls at hl ⊢
  have hl : lv_has ls 7 [(0, .ref (ad 0)), (1, .int a1), (2, .int a2), (3, .int a3), (4, .int a4), (5, .ref (ad 75))] := hl
  generalize hAe : zA ad (zS nb).length s.heap.size = A at B ⊢
  unfold f_L_request_0_75 at hf
  refine lv_aload hx hb dL_request_0 (lv_at hl 5 rfl) ?_
  refine lv_iconst (v := (0 : Int32)) hx hb dL_request_2 (by decide) ?_
  refine lv_aload_n hx hb dL_request_3 rfl (lv_at hl 0 rfl) ?_
  refine lv_iload_n hx hb dL_request_4 rfl (lv_at hl 1 rfl) ?_
  refine lv_iload_n hx hb dL_request_5 rfl (lv_at hl 2 rfl) ?_
  refine lv_iload_n hx hb dL_request_6 rfl (lv_at hl 3 rfl) ?_
  refine lv_iload hx hb dL_request_7 (lv_at hl 4 rfl) ?_
  obtain ⟨u1, r2, σ3, hu1, hf⟩ := zc_some hf
  refine z_xi B (vx_runV (As := [.int a1, .int a2, .int a3, .int a4]) (rest := [.int (0 : Int32), .ref (ad 75)]) ⟨hx, hb, hml, hown, hts⟩ (c_X8_request l hfl hu1 _) (cwV 4 hts gL_request_X8_request rfl rfl rfl (by decide +kernel) ⟨Nat.le_of_ble_eq_true rfl, Nat.le_of_ble_eq_true rfl⟩) (z_preV B rfl rfl) rfl rfl hl.1 rfl (lv_room (Nat.le_of_ble_eq_true rfl)) dL_request_9 ⟨Nat.le_of_ble_eq_true rfl, Nat.le_of_ble_eq_true rfl⟩) (fun H locs ce q9 h0 B k1 k2 k3 => ?_) (fun H locs h0 B => ?_)
  · have hf := zx_no hf h0
    by_cases he1 : u1 = 1
    · have hf := zif_t he1 hf
      subst he1
      refine vx_catch (E := "java/lang/IndexOutOfBoundsException") (name := "java/lang/IndexOutOfBoundsException") hown [] ⟨0, 14, 17, 13⟩ [⟨0, 14, 21, 15⟩, ⟨0, 14, 25, 27⟩] htab (fun z hz => by cases hz) (by decide) (by decide) (hts (.classLink RL 13 "java/lang/IndexOutOfBoundsException") (by decide +kernel)) ((B.2.2.2.2.2.castable (by decide +kernel)).use rfl) k1 k2 k3 ?_
      refine lv_astore (lv' := [(6, .ref q9), (0, .ref (ad 0)), (1, .int a1), (2, .int a2), (3, .int a3), (4, .int a4), (5, .ref (ad 75))]) hx hb dL_request_17 hl (by decide) rfl (fun ls hl => ?_)
      refine lv_iconst (v := (1 : Int32)) hx hb dL_request_19 (by decide) ?_
      refine W.widen (k := 4) (n := 24) (Nat.le_of_ble_eq_true rfl) (Nat.le_of_ble_eq_true rfl) ?_
      exact z_iret hx hb hr rfl hlocks B hf dL_request_20
    have hf := zif_f he1 hf
    by_cases he2 : u1 = 2
    · have hf := zif_t he2 hf
      subst he2
      refine vx_catch (E := "java/lang/IllegalArgumentException") (name := "java/lang/IllegalArgumentException") hown [⟨0, 14, 17, 13⟩] ⟨0, 14, 21, 15⟩ [⟨0, 14, 25, 27⟩] htab (fun z hz => by simp only [List.mem_cons, List.not_mem_nil, or_false] at hz; rcases hz with rfl <;> first | exact Or.inr ⟨by decide, _, hts (.classLink RL 13 "java/lang/IndexOutOfBoundsException") (by decide +kernel), B.2.2.2.2.2.apart (by decide +kernel) (by decide +kernel) (by decide +kernel)⟩) (by decide) (by decide) (hts (.classLink RL 15 "java/lang/IllegalArgumentException") (by decide +kernel)) ((B.2.2.2.2.2.castable (by decide +kernel)).use rfl) k1 k2 k3 ?_
      refine lv_astore (lv' := [(6, .ref q9), (0, .ref (ad 0)), (1, .int a1), (2, .int a2), (3, .int a3), (4, .int a4), (5, .ref (ad 75))]) hx hb dL_request_21 hl (by decide) rfl (fun ls hl => ?_)
      refine lv_iconst (v := (2 : Int32)) hx hb dL_request_23 (by decide) ?_
      refine W.widen (k := 4) (n := 24) (Nat.le_of_ble_eq_true rfl) (Nat.le_of_ble_eq_true rfl) ?_
      exact z_iret hx hb hr rfl hlocks B hf dL_request_24
    have hf := zif_f he2 hf
    by_cases he4 : u1 = 4
    · have hf := zif_t he4 hf
      subst he4
      refine vx_catch (E := "java/lang/UnsupportedOperationException") (name := "java/lang/UnsupportedOperationException") hown [⟨0, 14, 17, 13⟩, ⟨0, 14, 21, 15⟩] ⟨0, 14, 25, 27⟩ [] htab (fun z hz => by simp only [List.mem_cons, List.not_mem_nil, or_false] at hz; rcases hz with rfl | rfl <;> first | exact Or.inr ⟨by decide, _, hts (.classLink RL 13 "java/lang/IndexOutOfBoundsException") (by decide +kernel), B.2.2.2.2.2.apart (by decide +kernel) (by decide +kernel) (by decide +kernel)⟩ | exact Or.inr ⟨by decide, _, hts (.classLink RL 15 "java/lang/IllegalArgumentException") (by decide +kernel), B.2.2.2.2.2.apart (by decide +kernel) (by decide +kernel) (by decide +kernel)⟩) (by decide) (by decide) (hts (.classLink RL 27 "java/lang/UnsupportedOperationException") (by decide +kernel)) ((B.2.2.2.2.2.castable (by decide +kernel)).use rfl) k1 k2 k3 ?_
      refine lv_astore (lv' := [(6, .ref q9), (0, .ref (ad 0)), (1, .int a1), (2, .int a2), (3, .int a3), (4, .int a4), (5, .ref (ad 75))]) hx hb dL_request_25 hl (by decide) rfl (fun ls hl => ?_)
      refine lv_iconst (v := (3 : Int32)) hx hb dL_request_27 (by decide) ?_
      refine W.widen (k := 4) (n := 24) (Nat.le_of_ble_eq_true rfl) (Nat.le_of_ble_eq_true rfl) ?_
      exact z_iret hx hb hr rfl hlocks B hf dL_request_28
    have hf := zif_f he4 hf
    cases hf
  have hf := zx_ok hf h0
  refine lv_i2l (v := r2.toInt64) hx hb dL_request_12 rfl ?_
  obtain ⟨hg, hf⟩ := zg_some hf
  refine z_last hx hb B 75 rfl rfl (zin_ok hg) dL_request_13 (fun H locs B => ?_)
  refine lv_goto (tgt := 29) hx hb dL_request_14 (by decide) ?_
  refine lv_iconst (v := (0 : Int32)) hx hb dL_request_29 (by decide) ?_
  refine W.widen (k := 4) (n := 24) (Nat.le_of_ble_eq_true rfl) (Nat.le_of_ble_eq_true rfl) ?_
  exact z_iret hx hb hr rfl hlocks B hf dL_request_30
theorem dL_object_0 : decode cL_object 0 = .ok (.aload_n 3, 1) := by decide +kernel
theorem dL_object_1 : decode cL_object 1 = .ok (.iconst 0, 1) := by decide +kernel
theorem dL_object_2 : decode cL_object 2 = .ok (.aload_n 0, 1) := by decide +kernel
theorem dL_object_3 : decode cL_object 3 = .ok (.iload_n 1, 1) := by decide +kernel
theorem dL_object_4 : decode cL_object 4 = .ok (.iload_n 2, 1) := by decide +kernel
theorem dL_object_5 : decode cL_object 5 = .ok (.invokevirtual 68, 3) := by decide +kernel
theorem dL_object_8 : decode cL_object 8 = .ok (.i2l, 1) := by decide +kernel
theorem dL_object_9 : decode cL_object 9 = .ok (.lastore, 1) := by decide +kernel
theorem dL_object_10 : decode cL_object 10 = .ok (.goto 11, 3) := by decide +kernel
theorem dL_object_13 : decode cL_object 13 = .ok (.astore 4, 2) := by decide +kernel
theorem dL_object_15 : decode cL_object 15 = .ok (.iconst 1, 1) := by decide +kernel
theorem dL_object_16 : decode cL_object 16 = .ok (.ireturn, 1) := by decide +kernel
theorem dL_object_17 : decode cL_object 17 = .ok (.astore 4, 2) := by decide +kernel
theorem dL_object_19 : decode cL_object 19 = .ok (.iconst 2, 1) := by decide +kernel
theorem dL_object_20 : decode cL_object 20 = .ok (.ireturn, 1) := by decide +kernel
theorem dL_object_21 : decode cL_object 21 = .ok (.iconst 0, 1) := by decide +kernel
theorem dL_object_22 : decode cL_object 22 = .ok (.ireturn, 1) := by decide +kernel
set_option maxRecDepth 20000 in
theorem ggL_object_X8_object : GoodIn wsL_object wsX8_object := goodIn_ca (goodIn_ca (goodIn_ca (goodIn_r _ [7, 8, 9, 10, 11, 12, 13, 6, 14, 15, 16, 17, 18, 19, 20, 21, 22, 23, 24, 25, 26, 27, 28, 29, 30, 31, 32, 33, 34, 35, 36, 37, 38, 39, 40, 41, 42, 43, 44, 45, 46, 47, 48, 49, 50, 51, 52, 53, 54, 55, 56, 57, 58, 59] (by decide +kernel) (by decide +kernel)) (goodIn_sub (fun _ h => List.mem_cons_of_mem _ (List.mem_append_left _ (List.mem_append_left _ (List.mem_append_right _ h)))) (by decide +kernel))) (goodIn_sub (fun _ h => List.mem_cons_of_mem _ (List.mem_append_left _ (List.mem_append_right _ h))) (by decide +kernel))) (goodIn_sub (fun _ h => List.mem_cons_of_mem _ (List.mem_append_right _ h)) (by decide +kernel))
set_option maxRecDepth 20000 in
theorem gL_object_X8_object : GoodIn wsL_object (wsV RL 68 RX8 yX8_object wsX8_object) := goodIn_app (goodIn_of _ (by decide +kernel)) ggL_object_X8_object
def rm_L_object_0_75 : Room := { frames := 11, cells := 2, slots := 12, locals := 262 }
set_option maxHeartbeats 4000000 in
set_option maxRecDepth 100000 in
theorem c_L_object_0_75 (l : Launch) (hfl : l.stackTraces = false) {nb : Nat} {G : zG} {ad : Nat → Nat} {σ σ' : zs} {a1 a2 : Int32} {r : Int32} (hf : f_L_object_0_75 σ a1 a2 = some (r, σ')) : zMi l yL_object wsL_object rm_L_object_0_75 G (zS nb) ad σ [.ref (ad 0), .int a1, .int a2, .ref (ad 75)] r σ' := by
  intro sz
  refine z_ofWH (cc := cL_object) (maxL := 5) (ret := (some .int)) (by decide) rfl ?_
  intro p e s m args below meth c s₁ B hml hv
  obtain ⟨rfl, hsz, hv⟩ := hv
  have hx := B.exec
  have hb := B.bytes
  have hr := B.returns
  have hts := atoms_spec (ws := wsL_object) B.pre
  have hown : s.vm.findClass RL = some m.cls := findClass_of_methodNamed B.named
  have hlocks := B.notSynchronized
  subst hsz
  have htab : c.exceptionTable.toList = [⟨0, 10, 13, 13⟩, ⟨0, 10, 17, 15⟩] := vx_table B (hts (.codeWith yL_object cL_object 5 (some .int) [(0, 10, 13, 13), (0, 10, 17, 15)]) List.mem_cons_self)
  have B := zB_start hv
  have hl := lv_entry ([.ref (ad 0), .int a1, .int a2, .ref (ad 75)]) (n := 5) (Nat.le_of_ble_eq_true rfl)
  rw [lg_entry_eq]
  generalize (lg_sl ([.ref (ad 0), .int a1, .int a2, .ref (ad 75)]) ++ List.replicate (5 - (lg_sl ([.ref (ad 0), .int a1, .int a2, .ref (ad 75)])).length) Slot.unset).toArray = ls at hl ⊢
  have hl : lv_has ls 5 [(0, .ref (ad 0)), (1, .int a1), (2, .int a2), (3, .ref (ad 75))] := hl
  generalize hAe : zA ad (zS nb).length s.heap.size = A at B ⊢
  unfold f_L_object_0_75 at hf
  refine lv_aload_n hx hb dL_object_0 rfl (lv_at hl 3 rfl) ?_
  refine lv_iconst (v := (0 : Int32)) hx hb dL_object_1 (by decide) ?_
  refine lv_aload_n hx hb dL_object_2 rfl (lv_at hl 0 rfl) ?_
  refine lv_iload_n hx hb dL_object_3 rfl (lv_at hl 1 rfl) ?_
  refine lv_iload_n hx hb dL_object_4 rfl (lv_at hl 2 rfl) ?_
  obtain ⟨u1, r2, σ3, hu1, hf⟩ := zc_some hf
  refine z_xi B (vx_runV (As := [.int a1, .int a2]) (rest := [.int (0 : Int32), .ref (ad 75)]) ⟨hx, hb, hml, hown, hts⟩ (c_X8_object l hfl hu1 _) (cwV 2 hts gL_object_X8_object rfl rfl rfl (by decide +kernel) ⟨Nat.le_of_ble_eq_true rfl, Nat.le_of_ble_eq_true rfl⟩) (z_preV B rfl rfl) rfl rfl hl.1 rfl (lv_room (Nat.le_of_ble_eq_true rfl)) dL_object_5 ⟨Nat.le_of_ble_eq_true rfl, Nat.le_of_ble_eq_true rfl⟩) (fun H locs ce q9 h0 B k1 k2 k3 => ?_) (fun H locs h0 B => ?_)
  · have hf := zx_no hf h0
    by_cases he1 : u1 = 1
    · have hf := zif_t he1 hf
      subst he1
      refine vx_catch (E := "java/lang/IndexOutOfBoundsException") (name := "java/lang/IndexOutOfBoundsException") hown [] ⟨0, 10, 13, 13⟩ [⟨0, 10, 17, 15⟩] htab (fun z hz => by cases hz) (by decide) (by decide) (hts (.classLink RL 13 "java/lang/IndexOutOfBoundsException") (by decide +kernel)) ((B.2.2.2.2.2.castable (by decide +kernel)).use rfl) k1 k2 k3 ?_
      refine lv_astore (lv' := [(4, .ref q9), (0, .ref (ad 0)), (1, .int a1), (2, .int a2), (3, .ref (ad 75))]) hx hb dL_object_13 hl (by decide) rfl (fun ls hl => ?_)
      refine lv_iconst (v := (1 : Int32)) hx hb dL_object_15 (by decide) ?_
      refine W.widen (k := 2) (n := 12) (Nat.le_of_ble_eq_true rfl) (Nat.le_of_ble_eq_true rfl) ?_
      exact z_iret hx hb hr rfl hlocks B hf dL_object_16
    have hf := zif_f he1 hf
    by_cases he2 : u1 = 2
    · have hf := zif_t he2 hf
      subst he2
      refine vx_catch (E := "java/lang/IllegalArgumentException") (name := "java/lang/IllegalArgumentException") hown [⟨0, 10, 13, 13⟩] ⟨0, 10, 17, 15⟩ [] htab (fun z hz => by simp only [List.mem_cons, List.not_mem_nil, or_false] at hz; rcases hz with rfl <;> first | exact Or.inr ⟨by decide, _, hts (.classLink RL 13 "java/lang/IndexOutOfBoundsException") (by decide +kernel), B.2.2.2.2.2.apart (by decide +kernel) (by decide +kernel) (by decide +kernel)⟩) (by decide) (by decide) (hts (.classLink RL 15 "java/lang/IllegalArgumentException") (by decide +kernel)) ((B.2.2.2.2.2.castable (by decide +kernel)).use rfl) k1 k2 k3 ?_
      refine lv_astore (lv' := [(4, .ref q9), (0, .ref (ad 0)), (1, .int a1), (2, .int a2), (3, .ref (ad 75))]) hx hb dL_object_17 hl (by decide) rfl (fun ls hl => ?_)
      refine lv_iconst (v := (2 : Int32)) hx hb dL_object_19 (by decide) ?_
      refine W.widen (k := 2) (n := 12) (Nat.le_of_ble_eq_true rfl) (Nat.le_of_ble_eq_true rfl) ?_
      exact z_iret hx hb hr rfl hlocks B hf dL_object_20
    have hf := zif_f he2 hf
    cases hf
  have hf := zx_ok hf h0
  refine lv_i2l (v := r2.toInt64) hx hb dL_object_8 rfl ?_
  obtain ⟨hg, hf⟩ := zg_some hf
  refine z_last hx hb B 75 rfl rfl (zin_ok hg) dL_object_9 (fun H locs B => ?_)
  refine lv_goto (tgt := 21) hx hb dL_object_10 (by decide) ?_
  refine lv_iconst (v := (0 : Int32)) hx hb dL_object_21 (by decide) ?_
  refine W.widen (k := 2) (n := 12) (Nat.le_of_ble_eq_true rfl) (Nat.le_of_ble_eq_true rfl) ?_
  exact z_iret hx hb hr rfl hlocks B hf dL_object_22
theorem dL_pass_0 : decode cL_pass 0 = .ok (.aload_n 2, 1) := by decide +kernel
theorem dL_pass_1 : decode cL_pass 1 = .ok (.iconst 0, 1) := by decide +kernel
theorem dL_pass_2 : decode cL_pass 2 = .ok (.aload_n 0, 1) := by decide +kernel
theorem dL_pass_3 : decode cL_pass 3 = .ok (.iload_n 1, 1) := by decide +kernel
theorem dL_pass_4 : decode cL_pass 4 = .ok (.invokevirtual 71, 3) := by decide +kernel
theorem dL_pass_7 : decode cL_pass 7 = .ok (.i2l, 1) := by decide +kernel
theorem dL_pass_8 : decode cL_pass 8 = .ok (.lastore, 1) := by decide +kernel
theorem dL_pass_9 : decode cL_pass 9 = .ok (.goto 6, 3) := by decide +kernel
theorem dL_pass_12 : decode cL_pass 12 = .ok (.astore_n 3, 1) := by decide +kernel
theorem dL_pass_13 : decode cL_pass 13 = .ok (.iconst 1, 1) := by decide +kernel
theorem dL_pass_14 : decode cL_pass 14 = .ok (.ireturn, 1) := by decide +kernel
theorem dL_pass_15 : decode cL_pass 15 = .ok (.iconst 0, 1) := by decide +kernel
theorem dL_pass_16 : decode cL_pass 16 = .ok (.ireturn, 1) := by decide +kernel
set_option maxRecDepth 20000 in
theorem ggL_pass_X8_pass : GoodIn wsL_pass wsX8_pass := goodIn_ca (goodIn_ca (goodIn_r _ [6, 7, 8, 9, 10, 11, 5, 12, 13, 14, 15, 16, 17, 18, 19, 20, 21, 22, 23, 24, 25, 26, 27, 28, 29, 30, 31, 32, 33, 34, 35, 36, 37, 38, 39, 40, 41, 42, 43, 44, 45, 46, 47, 48, 49, 50, 51, 52, 53, 54, 55, 56, 57, 58, 59, 60, 61, 62, 63, 64, 65, 66, 67, 68, 69, 70, 71, 72, 73, 74, 75, 76, 77, 78, 79, 80, 81, 82, 83, 84, 85, 86, 87, 88, 89, 90, 91, 92, 93, 94, 95, 96, 97, 98, 99, 100, 101] (by decide +kernel) (by decide +kernel)) (goodIn_sub (fun _ h => List.mem_cons_of_mem _ (List.mem_append_right _ h)) (by decide +kernel))) (goodIn_sub (fun _ h => List.mem_cons_of_mem _ (List.mem_append_left _ (List.mem_append_right _ h))) (by decide +kernel))
set_option maxRecDepth 20000 in
theorem gL_pass_X8_pass : GoodIn wsL_pass (wsV RL 71 RX8 yX8_pass wsX8_pass) := goodIn_app (goodIn_of _ (by decide +kernel)) ggL_pass_X8_pass
def rm_L_pass_0_75 : Room := { frames := 10, cells := 1, slots := 6, locals := 242 }
set_option maxHeartbeats 4000000 in
set_option maxRecDepth 100000 in
theorem c_L_pass_0_75 (l : Launch) (hfl : l.stackTraces = false) {nb : Nat} {G : zG} {ad : Nat → Nat} {σ σ' : zs} {a1 : Int32} {r : Int32} (hf : f_L_pass_0_75 σ a1 = some (r, σ')) : zMi l yL_pass wsL_pass rm_L_pass_0_75 G (zS nb) ad σ [.ref (ad 0), .int a1, .ref (ad 75)] r σ' := by
  intro sz
  refine z_ofWH (cc := cL_pass) (maxL := 4) (ret := (some .int)) (by decide) rfl ?_
  intro p e s m args below meth c s₁ B hml hv
  obtain ⟨rfl, hsz, hv⟩ := hv
  have hx := B.exec
  have hb := B.bytes
  have hr := B.returns
  have hts := atoms_spec (ws := wsL_pass) B.pre
  have hown : s.vm.findClass RL = some m.cls := findClass_of_methodNamed B.named
  have hlocks := B.notSynchronized
  subst hsz
  have htab : c.exceptionTable.toList = [⟨0, 9, 12, 15⟩] := vx_table B (hts (.codeWith yL_pass cL_pass 4 (some .int) [(0, 9, 12, 15)]) List.mem_cons_self)
  have B := zB_start hv
  have hl := lv_entry ([.ref (ad 0), .int a1, .ref (ad 75)]) (n := 4) (Nat.le_of_ble_eq_true rfl)
  rw [lg_entry_eq]
  generalize (lg_sl ([.ref (ad 0), .int a1, .ref (ad 75)]) ++ List.replicate (4 - (lg_sl ([.ref (ad 0), .int a1, .ref (ad 75)])).length) Slot.unset).toArray = ls at hl ⊢
  have hl : lv_has ls 4 [(0, .ref (ad 0)), (1, .int a1), (2, .ref (ad 75))] := hl
  generalize hAe : zA ad (zS nb).length s.heap.size = A at B ⊢
  unfold f_L_pass_0_75 at hf
  refine lv_aload_n hx hb dL_pass_0 rfl (lv_at hl 2 rfl) ?_
  refine lv_iconst (v := (0 : Int32)) hx hb dL_pass_1 (by decide) ?_
  refine lv_aload_n hx hb dL_pass_2 rfl (lv_at hl 0 rfl) ?_
  refine lv_iload_n hx hb dL_pass_3 rfl (lv_at hl 1 rfl) ?_
  obtain ⟨u1, r2, σ3, hu1, hf⟩ := zc_some hf
  refine z_xi B (vx_runV (As := [.int a1]) (rest := [.int (0 : Int32), .ref (ad 75)]) ⟨hx, hb, hml, hown, hts⟩ (c_X8_pass l hfl hu1 _) (cwV 1 hts gL_pass_X8_pass rfl rfl rfl (by decide +kernel) ⟨Nat.le_of_ble_eq_true rfl, Nat.le_of_ble_eq_true rfl⟩) (z_preV B rfl rfl) rfl rfl hl.1 rfl (lv_room (Nat.le_of_ble_eq_true rfl)) dL_pass_4 ⟨Nat.le_of_ble_eq_true rfl, Nat.le_of_ble_eq_true rfl⟩) (fun H locs ce q9 h0 B k1 k2 k3 => ?_) (fun H locs h0 B => ?_)
  · have hf := zx_no hf h0
    by_cases he2 : u1 = 2
    · have hf := zif_t he2 hf
      subst he2
      refine vx_catch (E := "java/lang/IllegalArgumentException") (name := "java/lang/IllegalArgumentException") hown [] ⟨0, 9, 12, 15⟩ [] htab (fun z hz => by cases hz) (by decide) (by decide) (hts (.classLink RL 15 "java/lang/IllegalArgumentException") (by decide +kernel)) ((B.2.2.2.2.2.castable (by decide +kernel)).use rfl) k1 k2 k3 ?_
      refine lv_astore_n (lv' := [(3, .ref q9), (0, .ref (ad 0)), (1, .int a1), (2, .ref (ad 75))]) hx hb dL_pass_12 rfl hl (by decide) rfl (fun ls hl => ?_)
      refine lv_iconst (v := (1 : Int32)) hx hb dL_pass_13 (by decide) ?_
      refine W.widen (k := 1) (n := 6) (Nat.le_of_ble_eq_true rfl) (Nat.le_of_ble_eq_true rfl) ?_
      exact z_iret hx hb hr rfl hlocks B hf dL_pass_14
    have hf := zif_f he2 hf
    cases hf
  have hf := zx_ok hf h0
  refine lv_i2l (v := r2.toInt64) hx hb dL_pass_7 rfl ?_
  obtain ⟨hg, hf⟩ := zg_some hf
  refine z_last hx hb B 75 rfl rfl (zin_ok hg) dL_pass_8 (fun H locs B => ?_)
  refine lv_goto (tgt := 15) hx hb dL_pass_9 (by decide) ?_
  refine lv_iconst (v := (0 : Int32)) hx hb dL_pass_15 (by decide) ?_
  refine W.widen (k := 1) (n := 6) (Nat.le_of_ble_eq_true rfl) (Nat.le_of_ble_eq_true rfl) ?_
  exact z_iret hx hb hr rfl hlocks B hf dL_pass_16
theorem dL_expired_0 : decode cL_expired 0 = .ok (.aload_n 2, 1) := by decide +kernel
theorem dL_expired_1 : decode cL_expired 1 = .ok (.iconst 0, 1) := by decide +kernel
theorem dL_expired_2 : decode cL_expired 2 = .ok (.aload_n 0, 1) := by decide +kernel
theorem dL_expired_3 : decode cL_expired 3 = .ok (.iload_n 1, 1) := by decide +kernel
theorem dL_expired_4 : decode cL_expired 4 = .ok (.invokevirtual 74, 3) := by decide +kernel
theorem dL_expired_7 : decode cL_expired 7 = .ok (.i2l, 1) := by decide +kernel
theorem dL_expired_8 : decode cL_expired 8 = .ok (.lastore, 1) := by decide +kernel
theorem dL_expired_9 : decode cL_expired 9 = .ok (.goto 6, 3) := by decide +kernel
theorem dL_expired_12 : decode cL_expired 12 = .ok (.astore_n 3, 1) := by decide +kernel
theorem dL_expired_13 : decode cL_expired 13 = .ok (.iconst 1, 1) := by decide +kernel
theorem dL_expired_14 : decode cL_expired 14 = .ok (.ireturn, 1) := by decide +kernel
theorem dL_expired_15 : decode cL_expired 15 = .ok (.iconst 0, 1) := by decide +kernel
theorem dL_expired_16 : decode cL_expired 16 = .ok (.ireturn, 1) := by decide +kernel
set_option maxRecDepth 20000 in
theorem ggL_expired_X8_expired : GoodIn wsL_expired wsX8_expired := goodIn_ca (goodIn_ca (goodIn_r _ [6, 7, 8, 9, 10, 11, 5, 12, 13, 14, 15, 16, 17, 18, 19, 20, 21, 22, 23, 24, 25, 26, 27, 28, 29, 30] (by decide +kernel) (by decide +kernel)) (goodIn_sub (fun _ h => List.mem_cons_of_mem _ (List.mem_append_left _ (List.mem_append_right _ h))) (by decide +kernel))) (goodIn_sub (fun _ h => List.mem_cons_of_mem _ (List.mem_append_right _ h)) (by decide +kernel))
set_option maxRecDepth 20000 in
theorem gL_expired_X8_expired : GoodIn wsL_expired (wsV RL 74 RX8 yX8_expired wsX8_expired) := goodIn_app (goodIn_of _ (by decide +kernel)) ggL_expired_X8_expired
def rm_L_expired_0_75 : Room := { frames := 10, cells := 1, slots := 6, locals := 241 }
set_option maxHeartbeats 4000000 in
set_option maxRecDepth 100000 in
theorem c_L_expired_0_75 (l : Launch) (hfl : l.stackTraces = false) {nb : Nat} {G : zG} {ad : Nat → Nat} {σ σ' : zs} {a1 : Int32} {r : Int32} (hf : f_L_expired_0_75 σ a1 = some (r, σ')) : zMi l yL_expired wsL_expired rm_L_expired_0_75 G (zS nb) ad σ [.ref (ad 0), .int a1, .ref (ad 75)] r σ' := by
  intro sz
  refine z_ofWH (cc := cL_expired) (maxL := 4) (ret := (some .int)) (by decide) rfl ?_
  intro p e s m args below meth c s₁ B hml hv
  obtain ⟨rfl, hsz, hv⟩ := hv
  have hx := B.exec
  have hb := B.bytes
  have hr := B.returns
  have hts := atoms_spec (ws := wsL_expired) B.pre
  have hown : s.vm.findClass RL = some m.cls := findClass_of_methodNamed B.named
  have hlocks := B.notSynchronized
  subst hsz
  have htab : c.exceptionTable.toList = [⟨0, 9, 12, 35⟩] := vx_table B (hts (.codeWith yL_expired cL_expired 4 (some .int) [(0, 9, 12, 35)]) List.mem_cons_self)
  have B := zB_start hv
  have hl := lv_entry ([.ref (ad 0), .int a1, .ref (ad 75)]) (n := 4) (Nat.le_of_ble_eq_true rfl)
  rw [lg_entry_eq]
  generalize (lg_sl ([.ref (ad 0), .int a1, .ref (ad 75)]) ++ List.replicate (4 - (lg_sl ([.ref (ad 0), .int a1, .ref (ad 75)])).length) Slot.unset).toArray = ls at hl ⊢
  have hl : lv_has ls 4 [(0, .ref (ad 0)), (1, .int a1), (2, .ref (ad 75))] := hl
  generalize hAe : zA ad (zS nb).length s.heap.size = A at B ⊢
  unfold f_L_expired_0_75 at hf
  refine lv_aload_n hx hb dL_expired_0 rfl (lv_at hl 2 rfl) ?_
  refine lv_iconst (v := (0 : Int32)) hx hb dL_expired_1 (by decide) ?_
  refine lv_aload_n hx hb dL_expired_2 rfl (lv_at hl 0 rfl) ?_
  refine lv_iload_n hx hb dL_expired_3 rfl (lv_at hl 1 rfl) ?_
  obtain ⟨u1, r2, σ3, hu1, hf⟩ := zc_some hf
  refine z_xi B (vx_runV (As := [.int a1]) (rest := [.int (0 : Int32), .ref (ad 75)]) ⟨hx, hb, hml, hown, hts⟩ (c_X8_expired l hfl hu1 _) (cwV 1 hts gL_expired_X8_expired rfl rfl rfl (by decide +kernel) ⟨Nat.le_of_ble_eq_true rfl, Nat.le_of_ble_eq_true rfl⟩) (z_preV B rfl rfl) rfl rfl hl.1 rfl (lv_room (Nat.le_of_ble_eq_true rfl)) dL_expired_4 ⟨Nat.le_of_ble_eq_true rfl, Nat.le_of_ble_eq_true rfl⟩) (fun H locs ce q9 h0 B k1 k2 k3 => ?_) (fun H locs h0 B => ?_)
  · have hf := zx_no hf h0
    by_cases he5 : u1 = 5
    · have hf := zif_t he5 hf
      subst he5
      refine vx_catch (E := "java/util/NoSuchElementException") (name := "java/util/NoSuchElementException") hown [] ⟨0, 9, 12, 35⟩ [] htab (fun z hz => by cases hz) (by decide) (by decide) (hts (.classLink RL 35 "java/util/NoSuchElementException") (by decide +kernel)) ((B.2.2.2.2.2.castable (by decide +kernel)).use rfl) k1 k2 k3 ?_
      refine lv_astore_n (lv' := [(3, .ref q9), (0, .ref (ad 0)), (1, .int a1), (2, .ref (ad 75))]) hx hb dL_expired_12 rfl hl (by decide) rfl (fun ls hl => ?_)
      refine lv_iconst (v := (1 : Int32)) hx hb dL_expired_13 (by decide) ?_
      refine W.widen (k := 1) (n := 6) (Nat.le_of_ble_eq_true rfl) (Nat.le_of_ble_eq_true rfl) ?_
      exact z_iret hx hb hr rfl hlocks B hf dL_expired_14
    have hf := zif_f he5 hf
    cases hf
  have hf := zx_ok hf h0
  refine lv_i2l (v := r2.toInt64) hx hb dL_expired_7 rfl ?_
  obtain ⟨hg, hf⟩ := zg_some hf
  refine z_last hx hb B 75 rfl rfl (zin_ok hg) dL_expired_8 (fun H locs B => ?_)
  refine lv_goto (tgt := 15) hx hb dL_expired_9 (by decide) ?_
  refine lv_iconst (v := (0 : Int32)) hx hb dL_expired_15 (by decide) ?_
  refine W.widen (k := 1) (n := 6) (Nat.le_of_ble_eq_true rfl) (Nat.le_of_ble_eq_true rfl) ?_
  exact z_iret hx hb hr rfl hlocks B hf dL_expired_16
theorem dL_log_0 : decode cL_log 0 = .ok (.aload_n 2, 1) := by decide +kernel
theorem dL_log_1 : decode cL_log 1 = .ok (.iconst 0, 1) := by decide +kernel
theorem dL_log_2 : decode cL_log 2 = .ok (.aload_n 0, 1) := by decide +kernel
theorem dL_log_3 : decode cL_log 3 = .ok (.iload_n 1, 1) := by decide +kernel
theorem dL_log_4 : decode cL_log 4 = .ok (.invokevirtual 77, 3) := by decide +kernel
theorem dL_log_7 : decode cL_log 7 = .ok (.i2l, 1) := by decide +kernel
theorem dL_log_8 : decode cL_log 8 = .ok (.lastore, 1) := by decide +kernel
theorem dL_log_9 : decode cL_log 9 = .ok (.goto 6, 3) := by decide +kernel
theorem dL_log_12 : decode cL_log 12 = .ok (.astore_n 3, 1) := by decide +kernel
theorem dL_log_13 : decode cL_log 13 = .ok (.iconst 1, 1) := by decide +kernel
theorem dL_log_14 : decode cL_log 14 = .ok (.ireturn, 1) := by decide +kernel
theorem dL_log_15 : decode cL_log 15 = .ok (.iconst 0, 1) := by decide +kernel
theorem dL_log_16 : decode cL_log 16 = .ok (.ireturn, 1) := by decide +kernel
set_option maxRecDepth 20000 in
theorem ggL_log_X8_log : GoodIn wsL_log wsX8_log := goodIn_ca (goodIn_ca (goodIn_r _ [6, 7, 8, 9, 10, 11, 12, 5, 13, 14, 15, 16, 17, 18, 19, 20, 21, 22, 23, 24, 25, 26, 27, 28, 29, 30, 31, 32, 33, 34, 35] (by decide +kernel) (by decide +kernel)) (goodIn_sub (fun _ h => List.mem_cons_of_mem _ (List.mem_append_left _ (List.mem_append_right _ h))) (by decide +kernel))) (goodIn_sub (fun _ h => List.mem_cons_of_mem _ (List.mem_append_right _ h)) (by decide +kernel))
set_option maxRecDepth 20000 in
theorem gL_log_X8_log : GoodIn wsL_log (wsV RL 77 RX8 yX8_log wsX8_log) := goodIn_app (goodIn_of _ (by decide +kernel)) ggL_log_X8_log
def rm_L_log_0_75 : Room := { frames := 10, cells := 1, slots := 6, locals := 241 }
set_option maxHeartbeats 4000000 in
set_option maxRecDepth 100000 in
theorem c_L_log_0_75 (l : Launch) (hfl : l.stackTraces = false) {nb : Nat} {G : zG} {ad : Nat → Nat} {σ σ' : zs} {a1 : Int32} {r : Int32} (hf : f_L_log_0_75 σ a1 = some (r, σ')) : zMi l yL_log wsL_log rm_L_log_0_75 G (zS nb) ad σ [.ref (ad 0), .int a1, .ref (ad 75)] r σ' := by
  intro sz
  refine z_ofWH (cc := cL_log) (maxL := 4) (ret := (some .int)) (by decide) rfl ?_
  intro p e s m args below meth c s₁ B hml hv
  obtain ⟨rfl, hsz, hv⟩ := hv
  have hx := B.exec
  have hb := B.bytes
  have hr := B.returns
  have hts := atoms_spec (ws := wsL_log) B.pre
  have hown : s.vm.findClass RL = some m.cls := findClass_of_methodNamed B.named
  have hlocks := B.notSynchronized
  subst hsz
  have htab : c.exceptionTable.toList = [⟨0, 9, 12, 35⟩] := vx_table B (hts (.codeWith yL_log cL_log 4 (some .int) [(0, 9, 12, 35)]) List.mem_cons_self)
  have B := zB_start hv
  have hl := lv_entry ([.ref (ad 0), .int a1, .ref (ad 75)]) (n := 4) (Nat.le_of_ble_eq_true rfl)
  rw [lg_entry_eq]
  generalize (lg_sl ([.ref (ad 0), .int a1, .ref (ad 75)]) ++ List.replicate (4 - (lg_sl ([.ref (ad 0), .int a1, .ref (ad 75)])).length) Slot.unset).toArray = ls at hl ⊢
  have hl : lv_has ls 4 [(0, .ref (ad 0)), (1, .int a1), (2, .ref (ad 75))] := hl
  generalize hAe : zA ad (zS nb).length s.heap.size = A at B ⊢
  unfold f_L_log_0_75 at hf
  refine lv_aload_n hx hb dL_log_0 rfl (lv_at hl 2 rfl) ?_
  refine lv_iconst (v := (0 : Int32)) hx hb dL_log_1 (by decide) ?_
  refine lv_aload_n hx hb dL_log_2 rfl (lv_at hl 0 rfl) ?_
  refine lv_iload_n hx hb dL_log_3 rfl (lv_at hl 1 rfl) ?_
  obtain ⟨u1, r2, σ3, hu1, hf⟩ := zc_some hf
  refine z_xi B (vx_runV (As := [.int a1]) (rest := [.int (0 : Int32), .ref (ad 75)]) ⟨hx, hb, hml, hown, hts⟩ (c_X8_log l hfl hu1 _) (cwV 1 hts gL_log_X8_log rfl rfl rfl (by decide +kernel) ⟨Nat.le_of_ble_eq_true rfl, Nat.le_of_ble_eq_true rfl⟩) (z_preV B rfl rfl) rfl rfl hl.1 rfl (lv_room (Nat.le_of_ble_eq_true rfl)) dL_log_4 ⟨Nat.le_of_ble_eq_true rfl, Nat.le_of_ble_eq_true rfl⟩) (fun H locs ce q9 h0 B k1 k2 k3 => ?_) (fun H locs h0 B => ?_)
  · have hf := zx_no hf h0
    by_cases he5 : u1 = 5
    · have hf := zif_t he5 hf
      subst he5
      refine vx_catch (E := "java/util/NoSuchElementException") (name := "java/util/NoSuchElementException") hown [] ⟨0, 9, 12, 35⟩ [] htab (fun z hz => by cases hz) (by decide) (by decide) (hts (.classLink RL 35 "java/util/NoSuchElementException") (by decide +kernel)) ((B.2.2.2.2.2.castable (by decide +kernel)).use rfl) k1 k2 k3 ?_
      refine lv_astore_n (lv' := [(3, .ref q9), (0, .ref (ad 0)), (1, .int a1), (2, .ref (ad 75))]) hx hb dL_log_12 rfl hl (by decide) rfl (fun ls hl => ?_)
      refine lv_iconst (v := (1 : Int32)) hx hb dL_log_13 (by decide) ?_
      refine W.widen (k := 1) (n := 6) (Nat.le_of_ble_eq_true rfl) (Nat.le_of_ble_eq_true rfl) ?_
      exact z_iret hx hb hr rfl hlocks B hf dL_log_14
    have hf := zif_f he5 hf
    cases hf
  have hf := zx_ok hf h0
  refine lv_i2l (v := r2.toInt64) hx hb dL_log_7 rfl ?_
  obtain ⟨hg, hf⟩ := zg_some hf
  refine z_last hx hb B 75 rfl rfl (zin_ok hg) dL_log_8 (fun H locs B => ?_)
  refine lv_goto (tgt := 15) hx hb dL_log_9 (by decide) ?_
  refine lv_iconst (v := (0 : Int32)) hx hb dL_log_15 (by decide) ?_
  refine W.widen (k := 1) (n := 6) (Nat.le_of_ble_eq_true rfl) (Nat.le_of_ble_eq_true rfl) ?_
  exact z_iret hx hb hr rfl hlocks B hf dL_log_16
theorem dL_logged_0 : decode cL_logged 0 = .ok (.aload_n 3, 1) := by decide +kernel
theorem dL_logged_1 : decode cL_logged 1 = .ok (.iconst 0, 1) := by decide +kernel
theorem dL_logged_2 : decode cL_logged 2 = .ok (.aload_n 0, 1) := by decide +kernel
theorem dL_logged_3 : decode cL_logged 3 = .ok (.iload_n 1, 1) := by decide +kernel
theorem dL_logged_4 : decode cL_logged 4 = .ok (.iload_n 2, 1) := by decide +kernel
theorem dL_logged_5 : decode cL_logged 5 = .ok (.invokevirtual 80, 3) := by decide +kernel
theorem dL_logged_8 : decode cL_logged 8 = .ok (.i2l, 1) := by decide +kernel
theorem dL_logged_9 : decode cL_logged 9 = .ok (.lastore, 1) := by decide +kernel
theorem dL_logged_10 : decode cL_logged 10 = .ok (.goto 7, 3) := by decide +kernel
theorem dL_logged_13 : decode cL_logged 13 = .ok (.astore 4, 2) := by decide +kernel
theorem dL_logged_15 : decode cL_logged 15 = .ok (.iconst 1, 1) := by decide +kernel
theorem dL_logged_16 : decode cL_logged 16 = .ok (.ireturn, 1) := by decide +kernel
theorem dL_logged_17 : decode cL_logged 17 = .ok (.iconst 0, 1) := by decide +kernel
theorem dL_logged_18 : decode cL_logged 18 = .ok (.ireturn, 1) := by decide +kernel
set_option maxRecDepth 20000 in
theorem ggL_logged_X8_logged : GoodIn wsL_logged wsX8_logged := goodIn_ca (goodIn_ca (goodIn_r _ [6, 7, 8, 9, 10, 5, 11, 12, 13, 14, 15, 16, 17, 18, 19, 20, 21, 22, 23, 24, 25, 26, 27, 28, 29, 30, 31, 32, 33, 34, 35, 36, 37, 38, 39, 40, 41, 42, 43] (by decide +kernel) (by decide +kernel)) (goodIn_sub (fun _ h => List.mem_cons_of_mem _ (List.mem_append_right _ h)) (by decide +kernel))) (goodIn_sub (fun _ h => List.mem_cons_of_mem _ (List.mem_append_left _ (List.mem_append_right _ h))) (by decide +kernel))
set_option maxRecDepth 20000 in
theorem gL_logged_X8_logged : GoodIn wsL_logged (wsV RL 80 RX8 yX8_logged wsX8_logged) := goodIn_app (goodIn_of _ (by decide +kernel)) ggL_logged_X8_logged
def rm_L_logged_0_75 : Room := { frames := 11, cells := 1, slots := 6, locals := 262 }
set_option maxHeartbeats 4000000 in
set_option maxRecDepth 100000 in
theorem c_L_logged_0_75 (l : Launch) (hfl : l.stackTraces = false) {nb : Nat} {G : zG} {ad : Nat → Nat} {σ σ' : zs} {a1 a2 : Int32} {r : Int32} (hf : f_L_logged_0_75 σ a1 a2 = some (r, σ')) : zMi l yL_logged wsL_logged rm_L_logged_0_75 G (zS nb) ad σ [.ref (ad 0), .int a1, .int a2, .ref (ad 75)] r σ' := by
  intro sz
  refine z_ofWH (cc := cL_logged) (maxL := 5) (ret := (some .int)) (by decide) rfl ?_
  intro p e s m args below meth c s₁ B hml hv
  obtain ⟨rfl, hsz, hv⟩ := hv
  have hx := B.exec
  have hb := B.bytes
  have hr := B.returns
  have hts := atoms_spec (ws := wsL_logged) B.pre
  have hown : s.vm.findClass RL = some m.cls := findClass_of_methodNamed B.named
  have hlocks := B.notSynchronized
  subst hsz
  have htab : c.exceptionTable.toList = [⟨0, 10, 13, 13⟩] := vx_table B (hts (.codeWith yL_logged cL_logged 5 (some .int) [(0, 10, 13, 13)]) List.mem_cons_self)
  have B := zB_start hv
  have hl := lv_entry ([.ref (ad 0), .int a1, .int a2, .ref (ad 75)]) (n := 5) (Nat.le_of_ble_eq_true rfl)
  rw [lg_entry_eq]
  generalize (lg_sl ([.ref (ad 0), .int a1, .int a2, .ref (ad 75)]) ++ List.replicate (5 - (lg_sl ([.ref (ad 0), .int a1, .int a2, .ref (ad 75)])).length) Slot.unset).toArray = ls at hl ⊢
  have hl : lv_has ls 5 [(0, .ref (ad 0)), (1, .int a1), (2, .int a2), (3, .ref (ad 75))] := hl
  generalize hAe : zA ad (zS nb).length s.heap.size = A at B ⊢
  unfold f_L_logged_0_75 at hf
  refine lv_aload_n hx hb dL_logged_0 rfl (lv_at hl 3 rfl) ?_
  refine lv_iconst (v := (0 : Int32)) hx hb dL_logged_1 (by decide) ?_
  refine lv_aload_n hx hb dL_logged_2 rfl (lv_at hl 0 rfl) ?_
  refine lv_iload_n hx hb dL_logged_3 rfl (lv_at hl 1 rfl) ?_
  refine lv_iload_n hx hb dL_logged_4 rfl (lv_at hl 2 rfl) ?_
  obtain ⟨u1, r2, σ3, hu1, hf⟩ := zc_some hf
  refine z_xi B (vx_runV (As := [.int a1, .int a2]) (rest := [.int (0 : Int32), .ref (ad 75)]) ⟨hx, hb, hml, hown, hts⟩ (c_X8_logged l hfl hu1 _) (cwV 2 hts gL_logged_X8_logged rfl rfl rfl (by decide +kernel) ⟨Nat.le_of_ble_eq_true rfl, Nat.le_of_ble_eq_true rfl⟩) (z_preV B rfl rfl) rfl rfl hl.1 rfl (lv_room (Nat.le_of_ble_eq_true rfl)) dL_logged_5 ⟨Nat.le_of_ble_eq_true rfl, Nat.le_of_ble_eq_true rfl⟩) (fun H locs ce q9 h0 B k1 k2 k3 => ?_) (fun H locs h0 B => ?_)
  · have hf := zx_no hf h0
    by_cases he1 : u1 = 1
    · have hf := zif_t he1 hf
      subst he1
      refine vx_catch (E := "java/lang/IndexOutOfBoundsException") (name := "java/lang/IndexOutOfBoundsException") hown [] ⟨0, 10, 13, 13⟩ [] htab (fun z hz => by cases hz) (by decide) (by decide) (hts (.classLink RL 13 "java/lang/IndexOutOfBoundsException") (by decide +kernel)) ((B.2.2.2.2.2.castable (by decide +kernel)).use rfl) k1 k2 k3 ?_
      refine lv_astore (lv' := [(4, .ref q9), (0, .ref (ad 0)), (1, .int a1), (2, .int a2), (3, .ref (ad 75))]) hx hb dL_logged_13 hl (by decide) rfl (fun ls hl => ?_)
      refine lv_iconst (v := (1 : Int32)) hx hb dL_logged_15 (by decide) ?_
      refine W.widen (k := 1) (n := 6) (Nat.le_of_ble_eq_true rfl) (Nat.le_of_ble_eq_true rfl) ?_
      exact z_iret hx hb hr rfl hlocks B hf dL_logged_16
    have hf := zif_f he1 hf
    cases hf
  have hf := zx_ok hf h0
  refine lv_i2l (v := r2.toInt64) hx hb dL_logged_8 rfl ?_
  obtain ⟨hg, hf⟩ := zg_some hf
  refine z_last hx hb B 75 rfl rfl (zin_ok hg) dL_logged_9 (fun H locs B => ?_)
  refine lv_goto (tgt := 17) hx hb dL_logged_10 (by decide) ?_
  refine lv_iconst (v := (0 : Int32)) hx hb dL_logged_17 (by decide) ?_
  refine W.widen (k := 1) (n := 6) (Nat.le_of_ble_eq_true rfl) (Nat.le_of_ble_eq_true rfl) ?_
  exact z_iret hx hb hr rfl hlocks B hf dL_logged_18
theorem dL_report_0 : decode cL_report 0 = .ok (.aload_n 3, 1) := by decide +kernel
theorem dL_report_1 : decode cL_report 1 = .ok (.iconst 0, 1) := by decide +kernel
theorem dL_report_2 : decode cL_report 2 = .ok (.aload_n 0, 1) := by decide +kernel
theorem dL_report_3 : decode cL_report 3 = .ok (.iload_n 1, 1) := by decide +kernel
theorem dL_report_4 : decode cL_report 4 = .ok (.iload_n 2, 1) := by decide +kernel
theorem dL_report_5 : decode cL_report 5 = .ok (.invokevirtual 84, 3) := by decide +kernel
theorem dL_report_8 : decode cL_report 8 = .ok (.i2l, 1) := by decide +kernel
theorem dL_report_9 : decode cL_report 9 = .ok (.lastore, 1) := by decide +kernel
theorem dL_report_10 : decode cL_report 10 = .ok (.goto 11, 3) := by decide +kernel
theorem dL_report_13 : decode cL_report 13 = .ok (.astore 4, 2) := by decide +kernel
theorem dL_report_15 : decode cL_report 15 = .ok (.iconst 1, 1) := by decide +kernel
theorem dL_report_16 : decode cL_report 16 = .ok (.ireturn, 1) := by decide +kernel
theorem dL_report_17 : decode cL_report 17 = .ok (.astore 4, 2) := by decide +kernel
theorem dL_report_19 : decode cL_report 19 = .ok (.iconst 2, 1) := by decide +kernel
theorem dL_report_20 : decode cL_report 20 = .ok (.ireturn, 1) := by decide +kernel
theorem dL_report_21 : decode cL_report 21 = .ok (.iconst 0, 1) := by decide +kernel
theorem dL_report_22 : decode cL_report 22 = .ok (.ireturn, 1) := by decide +kernel
set_option maxRecDepth 20000 in
theorem ggL_report_X8_report : GoodIn wsL_report wsX8_report := goodIn_ca (goodIn_ca (goodIn_ca (goodIn_r _ [7, 8, 9, 10, 11, 12, 13, 6, 14, 15, 16, 17, 18, 19, 20, 21, 22, 23, 24, 25, 26, 27, 28, 29, 30, 31, 32] (by decide +kernel) (by decide +kernel)) (goodIn_sub (fun _ h => List.mem_cons_of_mem _ (List.mem_append_left _ (List.mem_append_left _ (List.mem_append_right _ h)))) (by decide +kernel))) (goodIn_sub (fun _ h => List.mem_cons_of_mem _ (List.mem_append_left _ (List.mem_append_right _ h))) (by decide +kernel))) (goodIn_sub (fun _ h => List.mem_cons_of_mem _ (List.mem_append_right _ h)) (by decide +kernel))
set_option maxRecDepth 20000 in
theorem gL_report_X8_report : GoodIn wsL_report (wsV RL 84 RX8 yX8_report wsX8_report) := goodIn_app (goodIn_of _ (by decide +kernel)) ggL_report_X8_report
def rm_L_report_0_75 : Room := { frames := 10, cells := 2, slots := 12, locals := 242 }
set_option maxHeartbeats 4000000 in
set_option maxRecDepth 100000 in
theorem c_L_report_0_75 (l : Launch) (hfl : l.stackTraces = false) {nb : Nat} {G : zG} {ad : Nat → Nat} {σ σ' : zs} {a1 a2 : Int32} {r : Int32} (hf : f_L_report_0_75 σ a1 a2 = some (r, σ')) : zMi l yL_report wsL_report rm_L_report_0_75 G (zS nb) ad σ [.ref (ad 0), .int a1, .int a2, .ref (ad 75)] r σ' := by
  intro sz
  refine z_ofWH (cc := cL_report) (maxL := 5) (ret := (some .int)) (by decide) rfl ?_
  intro p e s m args below meth c s₁ B hml hv
  obtain ⟨rfl, hsz, hv⟩ := hv
  have hx := B.exec
  have hb := B.bytes
  have hr := B.returns
  have hts := atoms_spec (ws := wsL_report) B.pre
  have hown : s.vm.findClass RL = some m.cls := findClass_of_methodNamed B.named
  have hlocks := B.notSynchronized
  subst hsz
  have htab : c.exceptionTable.toList = [⟨0, 10, 13, 35⟩, ⟨0, 10, 17, 15⟩] := vx_table B (hts (.codeWith yL_report cL_report 5 (some .int) [(0, 10, 13, 35), (0, 10, 17, 15)]) List.mem_cons_self)
  have B := zB_start hv
  have hl := lv_entry ([.ref (ad 0), .int a1, .int a2, .ref (ad 75)]) (n := 5) (Nat.le_of_ble_eq_true rfl)
  rw [lg_entry_eq]
  generalize (lg_sl ([.ref (ad 0), .int a1, .int a2, .ref (ad 75)]) ++ List.replicate (5 - (lg_sl ([.ref (ad 0), .int a1, .int a2, .ref (ad 75)])).length) Slot.unset).toArray = ls at hl ⊢
  have hl : lv_has ls 5 [(0, .ref (ad 0)), (1, .int a1), (2, .int a2), (3, .ref (ad 75))] := hl
  generalize hAe : zA ad (zS nb).length s.heap.size = A at B ⊢
  unfold f_L_report_0_75 at hf
  refine lv_aload_n hx hb dL_report_0 rfl (lv_at hl 3 rfl) ?_
  refine lv_iconst (v := (0 : Int32)) hx hb dL_report_1 (by decide) ?_
  refine lv_aload_n hx hb dL_report_2 rfl (lv_at hl 0 rfl) ?_
  refine lv_iload_n hx hb dL_report_3 rfl (lv_at hl 1 rfl) ?_
  refine lv_iload_n hx hb dL_report_4 rfl (lv_at hl 2 rfl) ?_
  obtain ⟨u1, r2, σ3, hu1, hf⟩ := zc_some hf
  refine z_xi B (vx_runV (As := [.int a1, .int a2]) (rest := [.int (0 : Int32), .ref (ad 75)]) ⟨hx, hb, hml, hown, hts⟩ (c_X8_report l hfl hu1 _) (cwV 2 hts gL_report_X8_report rfl rfl rfl (by decide +kernel) ⟨Nat.le_of_ble_eq_true rfl, Nat.le_of_ble_eq_true rfl⟩) (z_preV B rfl rfl) rfl rfl hl.1 rfl (lv_room (Nat.le_of_ble_eq_true rfl)) dL_report_5 ⟨Nat.le_of_ble_eq_true rfl, Nat.le_of_ble_eq_true rfl⟩) (fun H locs ce q9 h0 B k1 k2 k3 => ?_) (fun H locs h0 B => ?_)
  · have hf := zx_no hf h0
    by_cases he5 : u1 = 5
    · have hf := zif_t he5 hf
      subst he5
      refine vx_catch (E := "java/util/NoSuchElementException") (name := "java/util/NoSuchElementException") hown [] ⟨0, 10, 13, 35⟩ [⟨0, 10, 17, 15⟩] htab (fun z hz => by cases hz) (by decide) (by decide) (hts (.classLink RL 35 "java/util/NoSuchElementException") (by decide +kernel)) ((B.2.2.2.2.2.castable (by decide +kernel)).use rfl) k1 k2 k3 ?_
      refine lv_astore (lv' := [(4, .ref q9), (0, .ref (ad 0)), (1, .int a1), (2, .int a2), (3, .ref (ad 75))]) hx hb dL_report_13 hl (by decide) rfl (fun ls hl => ?_)
      refine lv_iconst (v := (1 : Int32)) hx hb dL_report_15 (by decide) ?_
      refine W.widen (k := 2) (n := 12) (Nat.le_of_ble_eq_true rfl) (Nat.le_of_ble_eq_true rfl) ?_
      exact z_iret hx hb hr rfl hlocks B hf dL_report_16
    have hf := zif_f he5 hf
    by_cases he2 : u1 = 2
    · have hf := zif_t he2 hf
      subst he2
      refine vx_catch (E := "java/lang/IllegalArgumentException") (name := "java/lang/IllegalArgumentException") hown [⟨0, 10, 13, 35⟩] ⟨0, 10, 17, 15⟩ [] htab (fun z hz => by simp only [List.mem_cons, List.not_mem_nil, or_false] at hz; rcases hz with rfl <;> first | exact Or.inr ⟨by decide, _, hts (.classLink RL 35 "java/util/NoSuchElementException") (by decide +kernel), B.2.2.2.2.2.apart (by decide +kernel) (by decide +kernel) (by decide +kernel)⟩) (by decide) (by decide) (hts (.classLink RL 15 "java/lang/IllegalArgumentException") (by decide +kernel)) ((B.2.2.2.2.2.castable (by decide +kernel)).use rfl) k1 k2 k3 ?_
      refine lv_astore (lv' := [(4, .ref q9), (0, .ref (ad 0)), (1, .int a1), (2, .int a2), (3, .ref (ad 75))]) hx hb dL_report_17 hl (by decide) rfl (fun ls hl => ?_)
      refine lv_iconst (v := (2 : Int32)) hx hb dL_report_19 (by decide) ?_
      refine W.widen (k := 2) (n := 12) (Nat.le_of_ble_eq_true rfl) (Nat.le_of_ble_eq_true rfl) ?_
      exact z_iret hx hb hr rfl hlocks B hf dL_report_20
    have hf := zif_f he2 hf
    cases hf
  have hf := zx_ok hf h0
  refine lv_i2l (v := r2.toInt64) hx hb dL_report_8 rfl ?_
  obtain ⟨hg, hf⟩ := zg_some hf
  refine z_last hx hb B 75 rfl rfl (zin_ok hg) dL_report_9 (fun H locs B => ?_)
  refine lv_goto (tgt := 21) hx hb dL_report_10 (by decide) ?_
  refine lv_iconst (v := (0 : Int32)) hx hb dL_report_21 (by decide) ?_
  refine W.widen (k := 2) (n := 12) (Nat.le_of_ble_eq_true rfl) (Nat.le_of_ble_eq_true rfl) ?_
  exact z_iret hx hb hr rfl hlocks B hf dL_report_22
theorem dL_makePair_0 : decode cL_makePair 0 = .ok (.aload_n 2, 1) := by decide +kernel
theorem dL_makePair_1 : decode cL_makePair 1 = .ok (.iconst 0, 1) := by decide +kernel
theorem dL_makePair_2 : decode cL_makePair 2 = .ok (.aload_n 0, 1) := by decide +kernel
theorem dL_makePair_3 : decode cL_makePair 3 = .ok (.iload_n 1, 1) := by decide +kernel
theorem dL_makePair_4 : decode cL_makePair 4 = .ok (.invokevirtual 87, 3) := by decide +kernel
theorem dL_makePair_7 : decode cL_makePair 7 = .ok (.i2l, 1) := by decide +kernel
theorem dL_makePair_8 : decode cL_makePair 8 = .ok (.lastore, 1) := by decide +kernel
theorem dL_makePair_9 : decode cL_makePair 9 = .ok (.goto 9, 3) := by decide +kernel
theorem dL_makePair_12 : decode cL_makePair 12 = .ok (.astore_n 3, 1) := by decide +kernel
theorem dL_makePair_13 : decode cL_makePair 13 = .ok (.iconst 1, 1) := by decide +kernel
theorem dL_makePair_14 : decode cL_makePair 14 = .ok (.ireturn, 1) := by decide +kernel
theorem dL_makePair_15 : decode cL_makePair 15 = .ok (.astore_n 3, 1) := by decide +kernel
theorem dL_makePair_16 : decode cL_makePair 16 = .ok (.iconst 2, 1) := by decide +kernel
theorem dL_makePair_17 : decode cL_makePair 17 = .ok (.ireturn, 1) := by decide +kernel
theorem dL_makePair_18 : decode cL_makePair 18 = .ok (.iconst 0, 1) := by decide +kernel
theorem dL_makePair_19 : decode cL_makePair 19 = .ok (.ireturn, 1) := by decide +kernel
set_option maxRecDepth 20000 in
theorem ggL_makePair_X8_makePair : GoodIn wsL_makePair wsX8_makePair := goodIn_ca (goodIn_ca (goodIn_ca (goodIn_r _ [7, 8, 9, 10, 11, 12, 6, 13, 14, 15, 16, 17, 18, 19, 20, 21, 22, 23, 24, 25, 26, 27, 28, 29, 30, 31, 32, 33, 34, 35, 36, 37, 38, 39, 40, 41, 42, 43, 44, 45, 46, 47, 48, 49, 50, 51, 52, 53, 54] (by decide +kernel) (by decide +kernel)) (goodIn_sub (fun _ h => List.mem_cons_of_mem _ (List.mem_append_left _ (List.mem_append_right _ h))) (by decide +kernel))) (goodIn_sub (fun _ h => List.mem_cons_of_mem _ (List.mem_append_right _ h)) (by decide +kernel))) (goodIn_sub (fun _ h => List.mem_cons_of_mem _ (List.mem_append_left _ (List.mem_append_left _ (List.mem_append_right _ h)))) (by decide +kernel))
set_option maxRecDepth 20000 in
theorem gL_makePair_X8_makePair : GoodIn wsL_makePair (wsV RL 87 RX8 yX8_makePair wsX8_makePair) := goodIn_app (goodIn_of _ (by decide +kernel)) ggL_makePair_X8_makePair
def rm_L_makePair_0_75 : Room := { frames := 11, cells := 2, slots := 12, locals := 261 }
set_option maxHeartbeats 4000000 in
set_option maxRecDepth 100000 in
theorem c_L_makePair_0_75 (l : Launch) (hfl : l.stackTraces = false) {nb : Nat} {G : zG} {ad : Nat → Nat} {σ σ' : zs} {a1 : Int32} {r : Int32} (hf : f_L_makePair_0_75 σ a1 = some (r, σ')) : zMi l yL_makePair wsL_makePair rm_L_makePair_0_75 G (zS nb) ad σ [.ref (ad 0), .int a1, .ref (ad 75)] r σ' := by
  intro sz
  refine z_ofWH (cc := cL_makePair) (maxL := 4) (ret := (some .int)) (by decide) rfl ?_
  intro p e s m args below meth c s₁ B hml hv
  obtain ⟨rfl, hsz, hv⟩ := hv
  have hx := B.exec
  have hb := B.bytes
  have hr := B.returns
  have hts := atoms_spec (ws := wsL_makePair) B.pre
  have hown : s.vm.findClass RL = some m.cls := findClass_of_methodNamed B.named
  have hlocks := B.notSynchronized
  subst hsz
  have htab : c.exceptionTable.toList = [⟨0, 9, 12, 13⟩, ⟨0, 9, 15, 17⟩] := vx_table B (hts (.codeWith yL_makePair cL_makePair 4 (some .int) [(0, 9, 12, 13), (0, 9, 15, 17)]) List.mem_cons_self)
  have B := zB_start hv
  have hl := lv_entry ([.ref (ad 0), .int a1, .ref (ad 75)]) (n := 4) (Nat.le_of_ble_eq_true rfl)
  rw [lg_entry_eq]
  generalize (lg_sl ([.ref (ad 0), .int a1, .ref (ad 75)]) ++ List.replicate (4 - (lg_sl ([.ref (ad 0), .int a1, .ref (ad 75)])).length) Slot.unset).toArray = ls at hl ⊢
  have hl : lv_has ls 4 [(0, .ref (ad 0)), (1, .int a1), (2, .ref (ad 75))] := hl
  generalize hAe : zA ad (zS nb).length s.heap.size = A at B ⊢
  unfold f_L_makePair_0_75 at hf
  refine lv_aload_n hx hb dL_makePair_0 rfl (lv_at hl 2 rfl) ?_
  refine lv_iconst (v := (0 : Int32)) hx hb dL_makePair_1 (by decide) ?_
  refine lv_aload_n hx hb dL_makePair_2 rfl (lv_at hl 0 rfl) ?_
  refine lv_iload_n hx hb dL_makePair_3 rfl (lv_at hl 1 rfl) ?_
  obtain ⟨u1, r2, σ3, hu1, hf⟩ := zc_some hf
  refine z_xi B (vx_runV (As := [.int a1]) (rest := [.int (0 : Int32), .ref (ad 75)]) ⟨hx, hb, hml, hown, hts⟩ (c_X8_makePair l hfl hu1 _) (cwV 1 hts gL_makePair_X8_makePair rfl rfl rfl (by decide +kernel) ⟨Nat.le_of_ble_eq_true rfl, Nat.le_of_ble_eq_true rfl⟩) (z_preV B rfl rfl) rfl rfl hl.1 rfl (lv_room (Nat.le_of_ble_eq_true rfl)) dL_makePair_4 ⟨Nat.le_of_ble_eq_true rfl, Nat.le_of_ble_eq_true rfl⟩) (fun H locs ce q9 h0 B k1 k2 k3 => ?_) (fun H locs h0 B => ?_)
  · have hf := zx_no hf h0
    by_cases he1 : u1 = 1
    · have hf := zif_t he1 hf
      subst he1
      refine vx_catch (E := "java/lang/IndexOutOfBoundsException") (name := "java/lang/IndexOutOfBoundsException") hown [] ⟨0, 9, 12, 13⟩ [⟨0, 9, 15, 17⟩] htab (fun z hz => by cases hz) (by decide) (by decide) (hts (.classLink RL 13 "java/lang/IndexOutOfBoundsException") (by decide +kernel)) ((B.2.2.2.2.2.castable (by decide +kernel)).use rfl) k1 k2 k3 ?_
      refine lv_astore_n (lv' := [(3, .ref q9), (0, .ref (ad 0)), (1, .int a1), (2, .ref (ad 75))]) hx hb dL_makePair_12 rfl hl (by decide) rfl (fun ls hl => ?_)
      refine lv_iconst (v := (1 : Int32)) hx hb dL_makePair_13 (by decide) ?_
      refine W.widen (k := 2) (n := 12) (Nat.le_of_ble_eq_true rfl) (Nat.le_of_ble_eq_true rfl) ?_
      exact z_iret hx hb hr rfl hlocks B hf dL_makePair_14
    have hf := zif_f he1 hf
    by_cases he3 : u1 = 3
    · have hf := zif_t he3 hf
      subst he3
      refine vx_catch (E := "java/lang/IllegalStateException") (name := "java/lang/IllegalStateException") hown [⟨0, 9, 12, 13⟩] ⟨0, 9, 15, 17⟩ [] htab (fun z hz => by simp only [List.mem_cons, List.not_mem_nil, or_false] at hz; rcases hz with rfl <;> first | exact Or.inr ⟨by decide, _, hts (.classLink RL 13 "java/lang/IndexOutOfBoundsException") (by decide +kernel), B.2.2.2.2.2.apart (by decide +kernel) (by decide +kernel) (by decide +kernel)⟩) (by decide) (by decide) (hts (.classLink RL 17 "java/lang/IllegalStateException") (by decide +kernel)) ((B.2.2.2.2.2.castable (by decide +kernel)).use rfl) k1 k2 k3 ?_
      refine lv_astore_n (lv' := [(3, .ref q9), (0, .ref (ad 0)), (1, .int a1), (2, .ref (ad 75))]) hx hb dL_makePair_15 rfl hl (by decide) rfl (fun ls hl => ?_)
      refine lv_iconst (v := (2 : Int32)) hx hb dL_makePair_16 (by decide) ?_
      refine W.widen (k := 2) (n := 12) (Nat.le_of_ble_eq_true rfl) (Nat.le_of_ble_eq_true rfl) ?_
      exact z_iret hx hb hr rfl hlocks B hf dL_makePair_17
    have hf := zif_f he3 hf
    cases hf
  have hf := zx_ok hf h0
  refine lv_i2l (v := r2.toInt64) hx hb dL_makePair_7 rfl ?_
  obtain ⟨hg, hf⟩ := zg_some hf
  refine z_last hx hb B 75 rfl rfl (zin_ok hg) dL_makePair_8 (fun H locs B => ?_)
  refine lv_goto (tgt := 18) hx hb dL_makePair_9 (by decide) ?_
  refine lv_iconst (v := (0 : Int32)) hx hb dL_makePair_18 (by decide) ?_
  refine W.widen (k := 2) (n := 12) (Nat.le_of_ble_eq_true rfl) (Nat.le_of_ble_eq_true rfl) ?_
  exact z_iret hx hb hr rfl hlocks B hf dL_makePair_19
theorem dL_givePair_0 : decode cL_givePair 0 = .ok (.aload 5, 2) := by decide +kernel
theorem dL_givePair_2 : decode cL_givePair 2 = .ok (.iconst 0, 1) := by decide +kernel
theorem dL_givePair_3 : decode cL_givePair 3 = .ok (.aload_n 0, 1) := by decide +kernel
theorem dL_givePair_4 : decode cL_givePair 4 = .ok (.iload_n 1, 1) := by decide +kernel
theorem dL_givePair_5 : decode cL_givePair 5 = .ok (.iload_n 2, 1) := by decide +kernel
theorem dL_givePair_6 : decode cL_givePair 6 = .ok (.iload_n 3, 1) := by decide +kernel
theorem dL_givePair_7 : decode cL_givePair 7 = .ok (.iload 4, 2) := by decide +kernel
theorem dL_givePair_9 : decode cL_givePair 9 = .ok (.invokevirtual 90, 3) := by decide +kernel
theorem dL_givePair_12 : decode cL_givePair 12 = .ok (.i2l, 1) := by decide +kernel
theorem dL_givePair_13 : decode cL_givePair 13 = .ok (.lastore, 1) := by decide +kernel
theorem dL_givePair_14 : decode cL_givePair 14 = .ok (.goto 11, 3) := by decide +kernel
theorem dL_givePair_17 : decode cL_givePair 17 = .ok (.astore 6, 2) := by decide +kernel
theorem dL_givePair_19 : decode cL_givePair 19 = .ok (.iconst 1, 1) := by decide +kernel
theorem dL_givePair_20 : decode cL_givePair 20 = .ok (.ireturn, 1) := by decide +kernel
theorem dL_givePair_21 : decode cL_givePair 21 = .ok (.astore 6, 2) := by decide +kernel
theorem dL_givePair_23 : decode cL_givePair 23 = .ok (.iconst 2, 1) := by decide +kernel
theorem dL_givePair_24 : decode cL_givePair 24 = .ok (.ireturn, 1) := by decide +kernel
theorem dL_givePair_25 : decode cL_givePair 25 = .ok (.iconst 0, 1) := by decide +kernel
theorem dL_givePair_26 : decode cL_givePair 26 = .ok (.ireturn, 1) := by decide +kernel
set_option maxRecDepth 20000 in
theorem ggL_givePair_X8_givePair : GoodIn wsL_givePair wsX8_givePair := goodIn_ca (goodIn_ca (goodIn_ca (goodIn_r _ [7, 8, 9, 10, 11, 6, 12, 13, 14, 15, 16, 17, 18, 19, 20, 21, 22, 23, 24, 25, 26, 27, 28, 29, 30, 31, 32, 33, 34, 35, 36, 37, 38, 39, 40, 41, 42, 43, 44, 45, 46, 47, 48, 49, 50, 51, 52, 53, 54, 55, 56, 57, 58, 59, 60, 61, 62, 63, 64, 65, 66, 67, 68, 69, 70, 71, 72, 73, 74, 75, 76, 77, 78, 79, 80] (by decide +kernel) (by decide +kernel)) (goodIn_sub (fun _ h => List.mem_cons_of_mem _ (List.mem_append_left _ (List.mem_append_left _ (List.mem_append_right _ h)))) (by decide +kernel))) (goodIn_sub (fun _ h => List.mem_cons_of_mem _ (List.mem_append_left _ (List.mem_append_right _ h))) (by decide +kernel))) (goodIn_sub (fun _ h => List.mem_cons_of_mem _ (List.mem_append_right _ h)) (by decide +kernel))
set_option maxRecDepth 20000 in
theorem gL_givePair_X8_givePair : GoodIn wsL_givePair (wsV RL 90 RX8 yX8_givePair wsX8_givePair) := goodIn_app (goodIn_of _ (by decide +kernel)) ggL_givePair_X8_givePair
def rm_L_givePair_0_75 : Room := { frames := 11, cells := 4, slots := 24, locals := 266 }
set_option maxHeartbeats 4000000 in
set_option maxRecDepth 100000 in
theorem c_L_givePair_0_75 (l : Launch) (hfl : l.stackTraces = false) {nb : Nat} {G : zG} {ad : Nat → Nat} {σ σ' : zs} {a1 a2 a3 a4 : Int32} {r : Int32} (hf : f_L_givePair_0_75 σ a1 a2 a3 a4 = some (r, σ')) : zMi l yL_givePair wsL_givePair rm_L_givePair_0_75 G (zS nb) ad σ [.ref (ad 0), .int a1, .int a2, .int a3, .int a4, .ref (ad 75)] r σ' := by
  intro sz
  refine z_ofWH (cc := cL_givePair) (maxL := 7) (ret := (some .int)) (by decide) rfl ?_
  intro p e s m args below meth c s₁ B hml hv
  obtain ⟨rfl, hsz, hv⟩ := hv
  have hx := B.exec
  have hb := B.bytes
  have hr := B.returns
  have hts := atoms_spec (ws := wsL_givePair) B.pre
  have hown : s.vm.findClass RL = some m.cls := findClass_of_methodNamed B.named
  have hlocks := B.notSynchronized
  subst hsz
  have htab : c.exceptionTable.toList = [⟨0, 14, 17, 13⟩, ⟨0, 14, 21, 27⟩] := vx_table B (hts (.codeWith yL_givePair cL_givePair 7 (some .int) [(0, 14, 17, 13), (0, 14, 21, 27)]) List.mem_cons_self)
  have B := zB_start hv
  have hl := lv_entry ([.ref (ad 0), .int a1, .int a2, .int a3, .int a4, .ref (ad 75)]) (n := 7) (Nat.le_of_ble_eq_true rfl)
  rw [lg_entry_eq]
  generalize (lg_sl ([.ref (ad 0), .int a1, .int a2, .int a3, .int a4, .ref (ad 75)]) ++ List.replicate (7 - (lg_sl ([.ref (ad 0), .int a1, .int a2, .int a3, .int a4, .ref (ad 75)])).length) Slot.unset).toArray = ls at hl ⊢
  have hl : lv_has ls 7 [(0, .ref (ad 0)), (1, .int a1), (2, .int a2), (3, .int a3), (4, .int a4), (5, .ref (ad 75))] := hl
  generalize hAe : zA ad (zS nb).length s.heap.size = A at B ⊢
  unfold f_L_givePair_0_75 at hf
  refine lv_aload hx hb dL_givePair_0 (lv_at hl 5 rfl) ?_
  refine lv_iconst (v := (0 : Int32)) hx hb dL_givePair_2 (by decide) ?_
  refine lv_aload_n hx hb dL_givePair_3 rfl (lv_at hl 0 rfl) ?_
  refine lv_iload_n hx hb dL_givePair_4 rfl (lv_at hl 1 rfl) ?_
  refine lv_iload_n hx hb dL_givePair_5 rfl (lv_at hl 2 rfl) ?_
  refine lv_iload_n hx hb dL_givePair_6 rfl (lv_at hl 3 rfl) ?_
  refine lv_iload hx hb dL_givePair_7 (lv_at hl 4 rfl) ?_
  obtain ⟨u1, r2, σ3, hu1, hf⟩ := zc_some hf
  refine z_xi B (vx_runV (As := [.int a1, .int a2, .int a3, .int a4]) (rest := [.int (0 : Int32), .ref (ad 75)]) ⟨hx, hb, hml, hown, hts⟩ (c_X8_givePair l hfl hu1 _) (cwV 4 hts gL_givePair_X8_givePair rfl rfl rfl (by decide +kernel) ⟨Nat.le_of_ble_eq_true rfl, Nat.le_of_ble_eq_true rfl⟩) (z_preV B rfl rfl) rfl rfl hl.1 rfl (lv_room (Nat.le_of_ble_eq_true rfl)) dL_givePair_9 ⟨Nat.le_of_ble_eq_true rfl, Nat.le_of_ble_eq_true rfl⟩) (fun H locs ce q9 h0 B k1 k2 k3 => ?_) (fun H locs h0 B => ?_)
  · have hf := zx_no hf h0
    by_cases he1 : u1 = 1
    · have hf := zif_t he1 hf
      subst he1
      refine vx_catch (E := "java/lang/IndexOutOfBoundsException") (name := "java/lang/IndexOutOfBoundsException") hown [] ⟨0, 14, 17, 13⟩ [⟨0, 14, 21, 27⟩] htab (fun z hz => by cases hz) (by decide) (by decide) (hts (.classLink RL 13 "java/lang/IndexOutOfBoundsException") (by decide +kernel)) ((B.2.2.2.2.2.castable (by decide +kernel)).use rfl) k1 k2 k3 ?_
      refine lv_astore (lv' := [(6, .ref q9), (0, .ref (ad 0)), (1, .int a1), (2, .int a2), (3, .int a3), (4, .int a4), (5, .ref (ad 75))]) hx hb dL_givePair_17 hl (by decide) rfl (fun ls hl => ?_)
      refine lv_iconst (v := (1 : Int32)) hx hb dL_givePair_19 (by decide) ?_
      refine W.widen (k := 4) (n := 24) (Nat.le_of_ble_eq_true rfl) (Nat.le_of_ble_eq_true rfl) ?_
      exact z_iret hx hb hr rfl hlocks B hf dL_givePair_20
    have hf := zif_f he1 hf
    by_cases he4 : u1 = 4
    · have hf := zif_t he4 hf
      subst he4
      refine vx_catch (E := "java/lang/UnsupportedOperationException") (name := "java/lang/UnsupportedOperationException") hown [⟨0, 14, 17, 13⟩] ⟨0, 14, 21, 27⟩ [] htab (fun z hz => by simp only [List.mem_cons, List.not_mem_nil, or_false] at hz; rcases hz with rfl <;> first | exact Or.inr ⟨by decide, _, hts (.classLink RL 13 "java/lang/IndexOutOfBoundsException") (by decide +kernel), B.2.2.2.2.2.apart (by decide +kernel) (by decide +kernel) (by decide +kernel)⟩) (by decide) (by decide) (hts (.classLink RL 27 "java/lang/UnsupportedOperationException") (by decide +kernel)) ((B.2.2.2.2.2.castable (by decide +kernel)).use rfl) k1 k2 k3 ?_
      refine lv_astore (lv' := [(6, .ref q9), (0, .ref (ad 0)), (1, .int a1), (2, .int a2), (3, .int a3), (4, .int a4), (5, .ref (ad 75))]) hx hb dL_givePair_21 hl (by decide) rfl (fun ls hl => ?_)
      refine lv_iconst (v := (2 : Int32)) hx hb dL_givePair_23 (by decide) ?_
      refine W.widen (k := 4) (n := 24) (Nat.le_of_ble_eq_true rfl) (Nat.le_of_ble_eq_true rfl) ?_
      exact z_iret hx hb hr rfl hlocks B hf dL_givePair_24
    have hf := zif_f he4 hf
    cases hf
  have hf := zx_ok hf h0
  refine lv_i2l (v := r2.toInt64) hx hb dL_givePair_12 rfl ?_
  obtain ⟨hg, hf⟩ := zg_some hf
  refine z_last hx hb B 75 rfl rfl (zin_ok hg) dL_givePair_13 (fun H locs B => ?_)
  refine lv_goto (tgt := 25) hx hb dL_givePair_14 (by decide) ?_
  refine lv_iconst (v := (0 : Int32)) hx hb dL_givePair_25 (by decide) ?_
  refine W.widen (k := 4) (n := 24) (Nat.le_of_ble_eq_true rfl) (Nat.le_of_ble_eq_true rfl) ?_
  exact z_iret hx hb hr rfl hlocks B hf dL_givePair_26
